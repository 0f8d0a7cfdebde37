abbrev wX3_readChain : List Cond := Cond.code yX3_readChain cX3_readChain 6 (some .boolean) :: waX
abbrev wX3_readPart : List Cond := Cond.code yX3_readPart cX3_readPart 3 (some .boolean) :: waX
abbrev wX3_readOperand : List Cond := Cond.code yX3_readOperand cX3_readOperand 3 (some .boolean) :: waX
abbrev wX3_readSigned : List Cond := Cond.code yX3_readSigned cX3_readSigned 3 (some .boolean) :: waX
abbrev wX0_call : List Cond := Cond.code yX0_call cX0_call 7 (some .int) :: waX
abbrev wX0_run : List Cond := Cond.code yX0_run cX0_run 6 (some .int) :: waX
def fX0_isKind (p1 : Int32): Option Int32 :=
  if p1 < 0 then (some 0) else (if 8 ≤ p1 then (some 0) else (some 1))
abbrev wX0_isKind : List Cond := Cond.code yX0_isKind cX0_isKind 1 (some .boolean) :: waX
abbrev rmX0_isKind : Room := { frames := 0, cells := 0, slots := 0, locals := 0 }
set_option maxHeartbeats 4000000 in
set_option maxRecDepth 100000 in
theorem kX0_isKind (l : Launch) (sz : Nat) (p1 : Int32) (r : Int32) (hf : fX0_isKind p1 = some r) : zMs l yX0_isKind wX0_isKind rmX0_isKind [.int p1] sz r := by
  refine zEs_z (cc := cX0_isKind) (maxL := 1) (own := RX0) (by decide) rfl rfl (Nat.le_of_ble_eq_true rfl) ?_
  intro p e s m args below meth c Q H locs C0 hW fin ls hl
  have hl : lv_has ls 1 [(0, .int p1)] := hl
  have hx := C0.1
  have hb := C0.2.1
  have hown := C0.2.2.2.1
  have hts := C0.2.2.2.2
  unfold fX0_isKind at hf
  refine lv_iload_n (pc := 0) hx hb dX0_isKind_0 rfl (lv_at hl 0 rfl) ?_
  refine lv_if_lt (pc := 1) (tgt := 14) hx hb dX0_isKind_1 (by decide) (fun c1 => ?_) (fun c1 => ?_)
  · have hf := zt c1 hf
    refine lv_iconst (pc := 14) (v := 0) hx hb dX0_isKind_14 (by decide) ?_
    exact zens_z fin hf (by decide) hW dX0_isKind_15
  · have hf := zf c1 hf
    refine lv_iload_n (pc := 4) hx hb dX0_isKind_4 rfl (lv_at hl 0 rfl) ?_
    refine lv_bipush (pc := 5) (v := 8) hx hb dX0_isKind_5 (by decide) ?_
    refine lv_icmp_ge (pc := 7) (tgt := 14) hx hb dX0_isKind_7 (by decide) (fun c2 => ?_) (fun c2 => ?_)
    · have hf := zt c2 hf
      refine lv_iconst (pc := 14) (v := 0) hx hb dX0_isKind_14 (by decide) ?_
      exact zens_z fin hf (by decide) hW dX0_isKind_15
    · have hf := zf c2 hf
      refine lv_iconst (pc := 10) (v := 1) hx hb dX0_isKind_10 (by decide) ?_
      refine lv_goto (pc := 11) (tgt := 15) hx hb dX0_isKind_11 (by decide) ?_
      exact zens_z fin hf (by decide) hW dX0_isKind_15

def fX0_isUnder_b4 (N : Nat) : Nat → Int32 → Int32 → Int32 → zSt → Option (Int32 × zSt)
  | 0, _, _, _, _ => none
  | n + 1, v1, v2, v3, S =>
    if 8 ≤ v3 then (some (0, S)) else (zU (fX0_isKind v2) fun r2 => if r2 = 0 then (some (0, S)) else (if v2 = v1 then (some (1, S)) else (if zin v2 8 then fX0_isUnder_b4 N n v1 (xs_2 (Int32.toNatClampNeg v2)) (v3 + 1) S else none)))
def fX0_isUnder (N : Nat) (p1 : Int32) (p2 : Int32) (S : zSt) : Option (Int32 × zSt) :=
  fX0_isUnder_b4 N N p2 p1 0 S
abbrev wX0_isUnder : List Cond := Cond.code yX0_isUnder cX0_isUnder 4 (some .boolean) :: waX
abbrev rmX0_isUnder : Room := { frames := 1, cells := 0, slots := 0, locals := 20 }
set_option maxHeartbeats 4000000 in
set_option maxRecDepth 100000 in
theorem kX0_isUnder (l : Launch) (D : va_G) (cA : Nat → ClassId) (h tt : Nat → Nat) (sz : Nat) (N : Nat)  (p1 : Int32) (p2 : Int32) (S : zSt) (r : Int32) (S1 : zSt) (hf : fX0_isUnder N p1 p2 S = some (r, S1)) : zMi l yX0_isUnder wX0_isUnder rmX0_isUnder (zEX tt) D (tX cA) (hsX h) [.int p1, .int p2] (wX cA h S) (wX cA h S1) sz r := by
  refine zEn_z (cc := cX0_isUnder) (maxL := 4) (own := RX0) (by decide) rfl rfl (hmX cA h S) (Nat.le_of_ble_eq_true rfl) ?_
  intro p e s m args below meth c Q H locs C0 hW fin ls hl
  have hl : lv_has ls 4 [(0, .int p1), (1, .int p2)] := hl
  have hx := C0.1
  have hb := C0.2.1
  have hown := C0.2.2.2.1
  have hts := C0.2.2.2.2
  have w4 : ∀ (n : Nat), ∀ (v1 : Int32) (v2 : Int32) (v3 : Int32) (S : zSt) (H : Heap) (locs : List Loc), zW (zEX tt) D (tX cA) (wX cA h S) (aW (hsX h) s.heap.size) s H locs → ∀ ls : Array Slot, lv_has ls 4 [(1, .int v1), (2, .int v2), (3, .int v3)] → fX0_isUnder_b4 N n v1 v2 v3 S = some (r, S1) → W p l e rmX0_isUnder s m args below meth c H locs 0 0 Q (F0 m 4 ls []) := by
    intro n
    induction n with
    | zero =>
      intro v1 v2 v3 S H locs hW ls hl hf
      exact absurd hf (by intro h; cases h)
    | succ n ih =>
      intro v1 v2 v3 S H locs hW ls hl hf
      rw [fX0_isUnder_b4] at hf
      refine lv_iload_n (pc := 4) hx hb dX0_isUnder_4 rfl (lv_at hl 2 rfl) ?_
      refine lv_bipush (pc := 5) (v := 8) hx hb dX0_isUnder_5 (by decide) ?_
      refine lv_icmp_ge (pc := 7) (tgt := 36) hx hb dX0_isUnder_7 (by decide) (fun c1 => ?_) (fun c1 => ?_)
      · have hf := zt c1 hf
        refine lv_iconst (pc := 36) (v := 0) hx hb dX0_isUnder_36 (by decide) ?_
        exact zend_z (w := wX cA h) fin hf (by decide) hW dX0_isUnder_37
      · have hf := zf c1 hf
        refine lv_iload_n (pc := 10) hx hb dX0_isUnder_10 rfl (lv_at hl 1 rfl) ?_
        obtain ⟨r2, e4, hf⟩ := zU_e hf
        refine zcSi (As := [.int v2]) (pc := 11) C0 hW (kX0_isKind l H.size v2 r2 e4) (va_cwS 1 hts (zgS gaX mX_10 mX_11 mX_12 mX_7) rfl rfl rfl (by decide +kernel) ⟨Nat.le_of_ble_eq_true rfl, Nat.le_of_ble_eq_true rfl⟩) rfl hl.1 rfl (Nat.le_of_ble_eq_true rfl) dX0_isUnder_11 (fun H locs hW => ?_)
        refine lv_if_eq (pc := 14) (tgt := 36) hx hb dX0_isUnder_14 (by decide) (fun c5 => ?_) (fun c5 => ?_)
        · have hf := zt c5 hf
          refine lv_iconst (pc := 36) (v := 0) hx hb dX0_isUnder_36 (by decide) ?_
          exact zend_z (w := wX cA h) fin hf (by decide) hW dX0_isUnder_37
        · have hf := zf c5 hf
          refine lv_iload_n (pc := 17) hx hb dX0_isUnder_17 rfl (lv_at hl 1 rfl) ?_
          refine lv_iload_n (pc := 18) hx hb dX0_isUnder_18 rfl (lv_at hl 0 rfl) ?_
          refine lv_icmp_ne (pc := 19) (tgt := 24) hx hb dX0_isUnder_19 (by decide) (fun c6 => ?_) (fun c6 => ?_)
          · have hf := zf c6 hf
            refine xsg_2 (pc := 24) C0 hW mX_9 dX0_isUnder_24 ?_
            refine lv_iload_n (pc := 27) hx hb dX0_isUnder_27 rfl (lv_at hl 1 rfl) ?_
            obtain ⟨i7, hf⟩ := zn hf
            refine xst_2 (pc := 28) C0 hW i7 dX0_isUnder_28 ?_
            refine lv_istore_n (pc := 29) (lv' := [(2, .int (xs_2 (Int32.toNatClampNeg v2))), (1, .int v1), (3, .int v3)]) hx hb dX0_isUnder_29 rfl hl (by decide) rfl (fun ls hl => ?_)
            refine lv_iinc (pc := 30) (v := (v3 + 1)) (lv' := [(3, .int (v3 + 1)), (2, .int (xs_2 (Int32.toNatClampNeg v2))), (1, .int v1)]) hx hb dX0_isUnder_30 hl (k := 2) rfl (by rfl) (by decide) rfl (fun ls hl => ?_)
            refine lv_goto (pc := 33) (tgt := 4) hx hb dX0_isUnder_33 (by decide) ?_
            exact ih v1 (xs_2 (Int32.toNatClampNeg v2)) (v3 + 1) S H locs hW ls (lv_sub hl [2, 1, 0] rfl) hf
          · have hf := zt c6 hf
            refine lv_iconst (pc := 22) (v := 1) hx hb dX0_isUnder_22 (by decide) ?_
            exact zend_z (w := wX cA h) fin hf (by decide) hW dX0_isUnder_23
  unfold fX0_isUnder at hf
  refine lv_iload_n (pc := 0) hx hb dX0_isUnder_0 rfl (lv_at hl 0 rfl) ?_
  refine lv_istore_n (pc := 1) (lv' := [(2, .int p1), (0, .int p1), (1, .int p2)]) hx hb dX0_isUnder_1 rfl hl (by decide) rfl (fun ls hl => ?_)
  refine lv_iconst (pc := 2) (v := 0) hx hb dX0_isUnder_2 (by decide) ?_
  refine lv_istore_n (pc := 3) (lv' := [(3, .int 0), (2, .int p1), (0, .int p1), (1, .int p2)]) hx hb dX0_isUnder_3 rfl hl (by decide) rfl (fun ls hl => ?_)
  exact w4 N p2 p1 0 S H locs hW ls (lv_sub hl [3, 1, 0] rfl) hf

def fX0_isFull (S : zSt) : Option (Int32 × zSt) :=
  if (S.1 102) < 50 then (some (0, S)) else (some (1, S))
abbrev wX0_isFull : List Cond := Cond.code yX0_isFull cX0_isFull 1 (some .boolean) :: waX
abbrev rmX0_isFull : Room := { frames := 0, cells := 0, slots := 0, locals := 0 }
set_option maxHeartbeats 4000000 in
set_option maxRecDepth 100000 in
theorem kX0_isFull (l : Launch) (D : va_G) (cA : Nat → ClassId) (h tt : Nat → Nat) (sz : Nat)   (S : zSt) (r : Int32) (S1 : zSt) (hf : fX0_isFull S = some (r, S1)) : zMi l yX0_isFull wX0_isFull rmX0_isFull (zEX tt) D (tX cA) (hsX h) [.ref (h 0)] (wX cA h S) (wX cA h S1) sz r := by
  refine zEn_z (cc := cX0_isFull) (maxL := 1) (own := RX0) (by decide) rfl rfl (hmX cA h S) (Nat.le_of_ble_eq_true rfl) ?_
  intro p e s m args below meth c Q H locs C0 hW fin ls hl
  have hl : lv_has ls 1 [(0, .ref (h 0))] := hl
  have hx := C0.1
  have hb := C0.2.1
  have hown := C0.2.2.2.1
  have hts := C0.2.2.2.2
  unfold fX0_isFull at hf
  refine lv_aload_n (pc := 0) hx hb dX0_isFull_0 rfl (lv_at hl 0 rfl) ?_
  refine xg_102 (pc := 1) C0 hu_0 hW mX_14 dX0_isFull_1 ?_
  refine lv_bipush (pc := 4) (v := 50) hx hb dX0_isFull_4 (by decide) ?_
  refine lv_icmp_lt (pc := 6) (tgt := 13) hx hb dX0_isFull_6 (by decide) (fun c1 => ?_) (fun c1 => ?_)
  · have hf := zt c1 hf
    refine lv_iconst (pc := 13) (v := 0) hx hb dX0_isFull_13 (by decide) ?_
    exact zend_z (w := wX cA h) fin hf (by decide) hW dX0_isFull_14
  · have hf := zf c1 hf
    refine lv_iconst (pc := 9) (v := 1) hx hb dX0_isFull_9 (by decide) ?_
    refine lv_goto (pc := 10) (tgt := 14) hx hb dX0_isFull_10 (by decide) ?_
    exact zend_z (w := wX cA h) fin hf (by decide) hW dX0_isFull_14

def fX0_has (p1 : Int32) (S : zSt) : Option (Int32 × zSt) :=
  if p1 < 0 then (some (0, S)) else (if (S.1 102) ≤ p1 then (some (0, S)) else (some (1, S)))
abbrev wX0_has : List Cond := Cond.code yX0_has cX0_has 2 (some .boolean) :: waX
abbrev rmX0_has : Room := { frames := 0, cells := 0, slots := 0, locals := 0 }
set_option maxHeartbeats 4000000 in
set_option maxRecDepth 100000 in
theorem kX0_has (l : Launch) (D : va_G) (cA : Nat → ClassId) (h tt : Nat → Nat) (sz : Nat)  (p1 : Int32) (S : zSt) (r : Int32) (S1 : zSt) (hf : fX0_has p1 S = some (r, S1)) : zMi l yX0_has wX0_has rmX0_has (zEX tt) D (tX cA) (hsX h) [.ref (h 0), .int p1] (wX cA h S) (wX cA h S1) sz r := by
  refine zEn_z (cc := cX0_has) (maxL := 2) (own := RX0) (by decide) rfl rfl (hmX cA h S) (Nat.le_of_ble_eq_true rfl) ?_
  intro p e s m args below meth c Q H locs C0 hW fin ls hl
  have hl : lv_has ls 2 [(0, .ref (h 0)), (1, .int p1)] := hl
  have hx := C0.1
  have hb := C0.2.1
  have hown := C0.2.2.2.1
  have hts := C0.2.2.2.2
  unfold fX0_has at hf
  refine lv_iload_n (pc := 0) hx hb dX0_has_0 rfl (lv_at hl 1 rfl) ?_
  refine lv_if_lt (pc := 1) (tgt := 16) hx hb dX0_has_1 (by decide) (fun c1 => ?_) (fun c1 => ?_)
  · have hf := zt c1 hf
    refine lv_iconst (pc := 16) (v := 0) hx hb dX0_has_16 (by decide) ?_
    exact zend_z (w := wX cA h) fin hf (by decide) hW dX0_has_17
  · have hf := zf c1 hf
    refine lv_iload_n (pc := 4) hx hb dX0_has_4 rfl (lv_at hl 1 rfl) ?_
    refine lv_aload_n (pc := 5) hx hb dX0_has_5 rfl (lv_at hl 0 rfl) ?_
    refine xg_102 (pc := 6) C0 hu_0 hW mX_14 dX0_has_6 ?_
    refine lv_icmp_ge (pc := 9) (tgt := 16) hx hb dX0_has_9 (by decide) (fun c2 => ?_) (fun c2 => ?_)
    · have hf := zt c2 hf
      refine lv_iconst (pc := 16) (v := 0) hx hb dX0_has_16 (by decide) ?_
      exact zend_z (w := wX cA h) fin hf (by decide) hW dX0_has_17
    · have hf := zf c2 hf
      refine lv_iconst (pc := 12) (v := 1) hx hb dX0_has_12 (by decide) ?_
      refine lv_goto (pc := 13) (tgt := 17) hx hb dX0_has_13 (by decide) ?_
      exact zend_z (w := wX cA h) fin hf (by decide) hW dX0_has_17

def fX0_add (p1 : Int32) (S : zSt) : Option (Int32 × zSt) :=
  zB (fX0_isFull S) fun r1 S2 => if r1 = 0 then (if zin (S2.1 102) 50 then zL (zA S2 100 (Int32.toNatClampNeg (S2.1 102)) p1) fun S6 => zL (zI S6 102 ((S6.1 102) + 1)) fun S7 => some (((S7.1 102) - 1), S7) else none) else (some ((-3), S2))
abbrev wX0_add : List Cond := Cond.code yX0_add cX0_add 2 (some .int) :: waX
abbrev rmX0_add : Room := { frames := 1, cells := 0, slots := 0, locals := 20 }
set_option maxHeartbeats 4000000 in
set_option maxRecDepth 100000 in
theorem kX0_add (l : Launch) (D : va_G) (cA : Nat → ClassId) (h tt : Nat → Nat) (sz : Nat)  (p1 : Int32) (S : zSt) (r : Int32) (S1 : zSt) (hf : fX0_add p1 S = some (r, S1)) : zMi l yX0_add wX0_add rmX0_add (zEX tt) D (tX cA) (hsX h) [.ref (h 0), .int p1] (wX cA h S) (wX cA h S1) sz r := by
  refine zEn_i (cc := cX0_add) (maxL := 2) (own := RX0) (by decide) rfl rfl (hmX cA h S) (Nat.le_of_ble_eq_true rfl) ?_
  intro p e s m args below meth c Q H locs C0 hW fin ls hl
  have hl : lv_has ls 2 [(0, .ref (h 0)), (1, .int p1)] := hl
  have hx := C0.1
  have hb := C0.2.1
  have hown := C0.2.2.2.1
  have hts := C0.2.2.2.2
  unfold fX0_add at hf
  refine lv_aload_n (pc := 0) hx hb dX0_add_0 rfl (lv_at hl 0 rfl) ?_
  obtain ⟨r1, S2, e3, hf⟩ := zB_e hf
  refine zcVi (zEX_ok tt) (As := []) (pc := 1) C0 hW (kX0_isFull l D cA h tt H.size S r1 S2 e3) (cwV 0 hts (zgV gaX mX_17 mX_18 mX_19 mX_12 mX_13) rfl rfl rfl (by decide +kernel) ⟨Nat.le_of_ble_eq_true rfl, Nat.le_of_ble_eq_true rfl⟩) (va_recv hW.1 hW.2.1 (ci := 0) (q0 := 0) rfl rfl) rfl hl.1 rfl (Nat.le_of_ble_eq_true rfl) dX0_add_1 (fun H locs hW => ?_)
  refine lv_if_eq (pc := 4) (tgt := 10) hx hb dX0_add_4 (by decide) (fun c4 => ?_) (fun c4 => ?_)
  · have hf := zt c4 hf
    refine lv_aload_n (pc := 10) hx hb dX0_add_10 rfl (lv_at hl 0 rfl) ?_
    refine xg_100 (pc := 11) C0 hu_0 hW mX_5 dX0_add_11 ?_
    refine lv_aload_n (pc := 14) hx hb dX0_add_14 rfl (lv_at hl 0 rfl) ?_
    refine xg_102 (pc := 15) C0 hu_0 hW mX_14 dX0_add_15 ?_
    refine lv_iload_n (pc := 18) hx hb dX0_add_18 rfl (lv_at hl 1 rfl) ?_
    obtain ⟨i5, hf⟩ := zn hf
    obtain ⟨S6, e_S6, hf⟩ := zL_e hf
    refine xs_s100 (pc := 19) C0 hW i5 e_S6 dX0_add_19 (fun H locs hW => ?_)
    refine lv_aload_n (pc := 20) hx hb dX0_add_20 rfl (lv_at hl 0 rfl) ?_
    refine lv_dup (pc := 21) hx hb dX0_add_21 rfl ?_
    refine xg_102 (pc := 22) C0 hu_0 hW mX_14 dX0_add_22 ?_
    refine lv_iconst (pc := 25) (v := 1) hx hb dX0_add_25 (by decide) ?_
    refine lv_iadd (pc := 26) hx hb dX0_add_26 ?_
    obtain ⟨S7, e_S7, hf⟩ := zL_e hf
    refine xp_102 (pc := 27) C0 hu_0 hW mX_14 e_S7 dX0_add_27 (fun H locs hW => ?_)
    refine lv_aload_n (pc := 30) hx hb dX0_add_30 rfl (lv_at hl 0 rfl) ?_
    refine xg_102 (pc := 31) C0 hu_0 hW mX_14 dX0_add_31 ?_
    refine lv_iconst (pc := 34) (v := 1) hx hb dX0_add_34 (by decide) ?_
    refine lv_isub (pc := 35) hx hb dX0_add_35 ?_
    exact zend_i (w := wX cA h) fin hf hW dX0_add_36
  · have hf := zf c4 hf
    refine lv_bipush (pc := 7) (v := (-3)) hx hb dX0_add_7 (by decide) ?_
    exact zend_i (w := wX cA h) fin hf hW dX0_add_9

def fX0_kindOf (p1 : Int32) (S : zSt) : Option (Int32 × zSt) :=
  zB (fX0_has p1 S) fun r1 S2 => if r1 = 0 then (some ((-1), S2)) else (if zin p1 50 then some ((S2.2.1 100 (Int32.toNatClampNeg p1)), S2) else none)
abbrev wX0_kindOf : List Cond := Cond.code yX0_kindOf cX0_kindOf 2 (some .int) :: waX
abbrev rmX0_kindOf : Room := { frames := 1, cells := 0, slots := 0, locals := 21 }
set_option maxHeartbeats 4000000 in
set_option maxRecDepth 100000 in
theorem kX0_kindOf (l : Launch) (D : va_G) (cA : Nat → ClassId) (h tt : Nat → Nat) (sz : Nat)  (p1 : Int32) (S : zSt) (r : Int32) (S1 : zSt) (hf : fX0_kindOf p1 S = some (r, S1)) : zMi l yX0_kindOf wX0_kindOf rmX0_kindOf (zEX tt) D (tX cA) (hsX h) [.ref (h 0), .int p1] (wX cA h S) (wX cA h S1) sz r := by
  refine zEn_i (cc := cX0_kindOf) (maxL := 2) (own := RX0) (by decide) rfl rfl (hmX cA h S) (Nat.le_of_ble_eq_true rfl) ?_
  intro p e s m args below meth c Q H locs C0 hW fin ls hl
  have hl : lv_has ls 2 [(0, .ref (h 0)), (1, .int p1)] := hl
  have hx := C0.1
  have hb := C0.2.1
  have hown := C0.2.2.2.1
  have hts := C0.2.2.2.2
  unfold fX0_kindOf at hf
  refine lv_aload_n (pc := 0) hx hb dX0_kindOf_0 rfl (lv_at hl 0 rfl) ?_
  refine lv_iload_n (pc := 1) hx hb dX0_kindOf_1 rfl (lv_at hl 1 rfl) ?_
  obtain ⟨r1, S2, e3, hf⟩ := zB_e hf
  refine zcVi (zEX_ok tt) (As := [.int p1]) (pc := 2) C0 hW (kX0_has l D cA h tt H.size p1 S r1 S2 e3) (cwV 1 hts (zgV gaX mX_21 mX_22 mX_23 mX_12 mX_15) rfl rfl rfl (by decide +kernel) ⟨Nat.le_of_ble_eq_true rfl, Nat.le_of_ble_eq_true rfl⟩) (va_recv hW.1 hW.2.1 (ci := 0) (q0 := 0) rfl rfl) rfl hl.1 rfl (Nat.le_of_ble_eq_true rfl) dX0_kindOf_2 (fun H locs hW => ?_)
  refine lv_if_eq (pc := 5) (tgt := 17) hx hb dX0_kindOf_5 (by decide) (fun c4 => ?_) (fun c4 => ?_)
  · have hf := zt c4 hf
    refine lv_iconst (pc := 17) (v := (-1)) hx hb dX0_kindOf_17 (by decide) ?_
    exact zend_i (w := wX cA h) fin hf hW dX0_kindOf_18
  · have hf := zf c4 hf
    refine lv_aload_n (pc := 8) hx hb dX0_kindOf_8 rfl (lv_at hl 0 rfl) ?_
    refine xg_100 (pc := 9) C0 hu_0 hW mX_5 dX0_kindOf_9 ?_
    refine lv_iload_n (pc := 12) hx hb dX0_kindOf_12 rfl (lv_at hl 1 rfl) ?_
    obtain ⟨i5, hf⟩ := zn hf
    refine xl_100 (pc := 13) C0 hW i5 dX0_kindOf_13 ?_
    refine lv_goto (pc := 14) (tgt := 18) hx hb dX0_kindOf_14 (by decide) ?_
    exact zend_i (w := wX cA h) fin hf hW dX0_kindOf_18

def fX0_hasTrace (p1 : Int32) (S : zSt) : Option (Int32 × zSt) :=
  if p1 < 0 then (some (0, S)) else (if (zmn (S.1 103) 24) ≤ p1 then (some (0, S)) else (some (1, S)))
abbrev wX0_hasTrace : List Cond := Cond.code yX0_hasTrace cX0_hasTrace 2 (some .boolean) :: waX
abbrev rmX0_hasTrace : Room := { frames := 1, cells := 0, slots := 0, locals := 24 }
set_option maxHeartbeats 4000000 in
set_option maxRecDepth 100000 in
theorem kX0_hasTrace (l : Launch) (D : va_G) (cA : Nat → ClassId) (h tt : Nat → Nat) (sz : Nat)  (p1 : Int32) (S : zSt) (r : Int32) (S1 : zSt) (hf : fX0_hasTrace p1 S = some (r, S1)) : zMi l yX0_hasTrace wX0_hasTrace rmX0_hasTrace (zEX tt) D (tX cA) (hsX h) [.ref (h 0), .int p1] (wX cA h S) (wX cA h S1) sz r := by
  refine zEn_z (cc := cX0_hasTrace) (maxL := 2) (own := RX0) (by decide) rfl rfl (hmX cA h S) (Nat.le_of_ble_eq_true rfl) ?_
  intro p e s m args below meth c Q H locs C0 hW fin ls hl
  have hl : lv_has ls 2 [(0, .ref (h 0)), (1, .int p1)] := hl
  have hx := C0.1
  have hb := C0.2.1
  have hown := C0.2.2.2.1
  have hts := C0.2.2.2.2
  unfold fX0_hasTrace at hf
  refine lv_iload_n (pc := 0) hx hb dX0_hasTrace_0 rfl (lv_at hl 1 rfl) ?_
  refine lv_if_lt (pc := 1) (tgt := 21) hx hb dX0_hasTrace_1 (by decide) (fun c1 => ?_) (fun c1 => ?_)
  · have hf := zt c1 hf
    refine lv_iconst (pc := 21) (v := 0) hx hb dX0_hasTrace_21 (by decide) ?_
    exact zend_z (w := wX cA h) fin hf (by decide) hW dX0_hasTrace_22
  · have hf := zf c1 hf
    refine lv_iload_n (pc := 4) hx hb dX0_hasTrace_4 rfl (lv_at hl 1 rfl) ?_
    refine lv_aload_n (pc := 5) hx hb dX0_hasTrace_5 rfl (lv_at hl 0 rfl) ?_
    refine xg_103 (pc := 6) C0 hu_0 hW mX_25 dX0_hasTrace_6 ?_
    refine lv_bipush (pc := 9) (v := 24) hx hb dX0_hasTrace_9 (by decide) ?_
    refine va_mmin (pc := 11) hx hb (C0.2.2.1.trans hl.1.symm) hown (hts _ mX_26) (hts _ mX_27) (hts _ mX_28) (hts _ mX_29) (Nat.le_of_ble_eq_true rfl) (Nat.le_of_ble_eq_true rfl) (Nat.zero_le _) (Nat.zero_le _) dX0_hasTrace_11 ?_
    refine lv_icmp_ge (pc := 14) (tgt := 21) hx hb dX0_hasTrace_14 (by decide) (fun c2 => ?_) (fun c2 => ?_)
    · have hf := zt c2 hf
      refine lv_iconst (pc := 21) (v := 0) hx hb dX0_hasTrace_21 (by decide) ?_
      exact zend_z (w := wX cA h) fin hf (by decide) hW dX0_hasTrace_22
    · have hf := zf c2 hf
      refine lv_iconst (pc := 17) (v := 1) hx hb dX0_hasTrace_17 (by decide) ?_
      refine lv_goto (pc := 18) (tgt := 22) hx hb dX0_hasTrace_18 (by decide) ?_
      exact zend_z (w := wX cA h) fin hf (by decide) hW dX0_hasTrace_22

def fX0_traceAt (p1 : Int32) (S : zSt) : Option (Int32 × zSt) :=
  zB (fX0_hasTrace p1 S) fun r1 S2 => if r1 = 0 then (some (0, S2)) else (if zin p1 24 then some ((S2.2.1 101 (Int32.toNatClampNeg p1)), S2) else none)
abbrev wX0_traceAt : List Cond := Cond.code yX0_traceAt cX0_traceAt 2 (some .int) :: waX
abbrev rmX0_traceAt : Room := { frames := 2, cells := 0, slots := 0, locals := 45 }
set_option maxHeartbeats 4000000 in
set_option maxRecDepth 100000 in
theorem kX0_traceAt (l : Launch) (D : va_G) (cA : Nat → ClassId) (h tt : Nat → Nat) (sz : Nat)  (p1 : Int32) (S : zSt) (r : Int32) (S1 : zSt) (hf : fX0_traceAt p1 S = some (r, S1)) : zMi l yX0_traceAt wX0_traceAt rmX0_traceAt (zEX tt) D (tX cA) (hsX h) [.ref (h 0), .int p1] (wX cA h S) (wX cA h S1) sz r := by
  refine zEn_i (cc := cX0_traceAt) (maxL := 2) (own := RX0) (by decide) rfl rfl (hmX cA h S) (Nat.le_of_ble_eq_true rfl) ?_
  intro p e s m args below meth c Q H locs C0 hW fin ls hl
  have hl : lv_has ls 2 [(0, .ref (h 0)), (1, .int p1)] := hl
  have hx := C0.1
  have hb := C0.2.1
  have hown := C0.2.2.2.1
  have hts := C0.2.2.2.2
  unfold fX0_traceAt at hf
  refine lv_aload_n (pc := 0) hx hb dX0_traceAt_0 rfl (lv_at hl 0 rfl) ?_
  refine lv_iload_n (pc := 1) hx hb dX0_traceAt_1 rfl (lv_at hl 1 rfl) ?_
  obtain ⟨r1, S2, e3, hf⟩ := zB_e hf
  refine zcVi (zEX_ok tt) (As := [.int p1]) (pc := 2) C0 hW (kX0_hasTrace l D cA h tt H.size p1 S r1 S2 e3) (cwV 1 hts (zgV gaX mX_31 mX_32 mX_33 mX_12 mX_24) rfl rfl rfl (by decide +kernel) ⟨Nat.le_of_ble_eq_true rfl, Nat.le_of_ble_eq_true rfl⟩) (va_recv hW.1 hW.2.1 (ci := 0) (q0 := 0) rfl rfl) rfl hl.1 rfl (Nat.le_of_ble_eq_true rfl) dX0_traceAt_2 (fun H locs hW => ?_)
  refine lv_if_eq (pc := 5) (tgt := 17) hx hb dX0_traceAt_5 (by decide) (fun c4 => ?_) (fun c4 => ?_)
  · have hf := zt c4 hf
    refine lv_iconst (pc := 17) (v := 0) hx hb dX0_traceAt_17 (by decide) ?_
    exact zend_i (w := wX cA h) fin hf hW dX0_traceAt_18
  · have hf := zf c4 hf
    refine lv_aload_n (pc := 8) hx hb dX0_traceAt_8 rfl (lv_at hl 0 rfl) ?_
    refine xg_101 (pc := 9) C0 hu_0 hW mX_6 dX0_traceAt_9 ?_
    refine lv_iload_n (pc := 12) hx hb dX0_traceAt_12 rfl (lv_at hl 1 rfl) ?_
    obtain ⟨i5, hf⟩ := zn hf
    refine xl_101 (pc := 13) C0 hW i5 dX0_traceAt_13 ?_
    refine lv_goto (pc := 14) (tgt := 18) hx hb dX0_traceAt_14 (by decide) ?_
    exact zend_i (w := wX cA h) fin hf hW dX0_traceAt_18

def fX0_note_b19  (S : zSt) : Option zSt :=
  zL (zI S 103 ((S.1 103) + 1)) fun S1 => some S1
def fX0_note (p1 : Int32) (S : zSt) : Option zSt :=
  if 24 ≤ (S.1 103) then (fX0_note_b19 S) else (if zin (S.1 103) 24 then zL (zA S 101 (Int32.toNatClampNeg (S.1 103)) p1) fun S4 => fX0_note_b19 S4 else none)
abbrev wX0_note : List Cond := Cond.code yX0_note cX0_note 2 none :: waX
abbrev rmX0_note : Room := { frames := 0, cells := 0, slots := 0, locals := 0 }
set_option maxHeartbeats 4000000 in
set_option maxRecDepth 100000 in
theorem kX0_note (l : Launch) (D : va_G) (cA : Nat → ClassId) (h tt : Nat → Nat) (sz : Nat)  (p1 : Int32) (S : zSt) (S1 : zSt) (hf : fX0_note p1 S = some S1) : zMv l yX0_note wX0_note rmX0_note (zEX tt) D (tX cA) (hsX h) [.ref (h 0), .int p1] (wX cA h S) (wX cA h S1) sz := by
  refine zEn_v (cc := cX0_note) (maxL := 2) (own := RX0) (by decide) rfl rfl (hmX cA h S) (Nat.le_of_ble_eq_true rfl) ?_
  intro p e s m args below meth c Q H locs C0 hW fin ls hl
  have hl : lv_has ls 2 [(0, .ref (h 0)), (1, .int p1)] := hl
  have hx := C0.1
  have hb := C0.2.1
  have hown := C0.2.2.2.1
  have hts := C0.2.2.2.2
  have w19 : ∀  (S : zSt) (H : Heap) (locs : List Loc), zW (zEX tt) D (tX cA) (wX cA h S) (aW (hsX h) s.heap.size) s H locs → ∀ ls : Array Slot, lv_has ls 2 [(0, .ref (h 0))] → fX0_note_b19 S = some S1 → W p l e rmX0_note s m args below meth c H locs 0 0 Q (F0 m 19 ls []) := by
    intro S H locs hW ls hl hf
    unfold fX0_note_b19 at hf
    refine lv_aload_n (pc := 19) hx hb dX0_note_19 rfl (lv_at hl 0 rfl) ?_
    refine lv_dup (pc := 20) hx hb dX0_note_20 rfl ?_
    refine xg_103 (pc := 21) C0 hu_0 hW mX_25 dX0_note_21 ?_
    refine lv_iconst (pc := 24) (v := 1) hx hb dX0_note_24 (by decide) ?_
    refine lv_iadd (pc := 25) hx hb dX0_note_25 ?_
    obtain ⟨S1, e_S1, hf⟩ := zL_e hf
    refine xp_103 (pc := 26) C0 hu_0 hW mX_25 e_S1 dX0_note_26 (fun H locs hW => ?_)
    exact zend_v (w := wX cA h) fin hf hW dX0_note_29
  unfold fX0_note at hf
  refine lv_aload_n (pc := 0) hx hb dX0_note_0 rfl (lv_at hl 0 rfl) ?_
  refine xg_103 (pc := 1) C0 hu_0 hW mX_25 dX0_note_1 ?_
  refine lv_bipush (pc := 4) (v := 24) hx hb dX0_note_4 (by decide) ?_
  refine lv_icmp_ge (pc := 6) (tgt := 19) hx hb dX0_note_6 (by decide) (fun c2 => ?_) (fun c2 => ?_)
  · have hf := zt c2 hf
    exact w19 S H locs hW ls (lv_sub hl [0] rfl) hf
  · have hf := zf c2 hf
    refine lv_aload_n (pc := 9) hx hb dX0_note_9 rfl (lv_at hl 0 rfl) ?_
    refine xg_101 (pc := 10) C0 hu_0 hW mX_6 dX0_note_10 ?_
    refine lv_aload_n (pc := 13) hx hb dX0_note_13 rfl (lv_at hl 0 rfl) ?_
    refine xg_103 (pc := 14) C0 hu_0 hW mX_25 dX0_note_14 ?_
    refine lv_iload_n (pc := 17) hx hb dX0_note_17 rfl (lv_at hl 1 rfl) ?_
    obtain ⟨i3, hf⟩ := zn hf
    obtain ⟨S4, e_S4, hf⟩ := zL_e hf
    refine xs_s101 (pc := 18) C0 hW i3 e_S4 dX0_note_18 (fun H locs hW => ?_)
    exact w19 S4 H locs hW ls (lv_sub hl [0] rfl) hf

def fX0_ownerOf_b4 (N : Nat) : Nat → Int32 → Int32 → Int32 → zSt → Option (Int32 × zSt)
  | 0, _, _, _, _ => none
  | n + 1, v1, v2, v3, S =>
    if 8 ≤ v3 then (some ((-1), S)) else (zU (fX0_isKind v2) fun r2 => if r2 = 0 then (some ((-1), S)) else (if zin ((v2 * 4) + v1) 32 then if (xs_1 (Int32.toNatClampNeg ((v2 * 4) + v1))) = 0 then (if zin v2 8 then fX0_ownerOf_b4 N n v1 (xs_2 (Int32.toNatClampNeg v2)) (v3 + 1) S else none) else (some (v2, S)) else none))
def fX0_ownerOf (N : Nat) (p1 : Int32) (p2 : Int32) (S : zSt) : Option (Int32 × zSt) :=
  fX0_ownerOf_b4 N N p2 p1 0 S
abbrev wX0_ownerOf : List Cond := Cond.code yX0_ownerOf cX0_ownerOf 4 (some .int) :: waX
abbrev rmX0_ownerOf : Room := { frames := 1, cells := 0, slots := 0, locals := 20 }
set_option maxHeartbeats 4000000 in
set_option maxRecDepth 100000 in
theorem kX0_ownerOf (l : Launch) (D : va_G) (cA : Nat → ClassId) (h tt : Nat → Nat) (sz : Nat) (N : Nat)  (p1 : Int32) (p2 : Int32) (S : zSt) (r : Int32) (S1 : zSt) (hf : fX0_ownerOf N p1 p2 S = some (r, S1)) : zMi l yX0_ownerOf wX0_ownerOf rmX0_ownerOf (zEX tt) D (tX cA) (hsX h) [.int p1, .int p2] (wX cA h S) (wX cA h S1) sz r := by
  refine zEn_i (cc := cX0_ownerOf) (maxL := 4) (own := RX0) (by decide) rfl rfl (hmX cA h S) (Nat.le_of_ble_eq_true rfl) ?_
  intro p e s m args below meth c Q H locs C0 hW fin ls hl
  have hl : lv_has ls 4 [(0, .int p1), (1, .int p2)] := hl
  have hx := C0.1
  have hb := C0.2.1
  have hown := C0.2.2.2.1
  have hts := C0.2.2.2.2
  have w4 : ∀ (n : Nat), ∀ (v1 : Int32) (v2 : Int32) (v3 : Int32) (S : zSt) (H : Heap) (locs : List Loc), zW (zEX tt) D (tX cA) (wX cA h S) (aW (hsX h) s.heap.size) s H locs → ∀ ls : Array Slot, lv_has ls 4 [(1, .int v1), (2, .int v2), (3, .int v3)] → fX0_ownerOf_b4 N n v1 v2 v3 S = some (r, S1) → W p l e rmX0_ownerOf s m args below meth c H locs 0 0 Q (F0 m 4 ls []) := by
    intro n
    induction n with
    | zero =>
      intro v1 v2 v3 S H locs hW ls hl hf
      exact absurd hf (by intro h; cases h)
    | succ n ih =>
      intro v1 v2 v3 S H locs hW ls hl hf
      rw [fX0_ownerOf_b4] at hf
      refine lv_iload_n (pc := 4) hx hb dX0_ownerOf_4 rfl (lv_at hl 2 rfl) ?_
      refine lv_bipush (pc := 5) (v := 8) hx hb dX0_ownerOf_5 (by decide) ?_
      refine lv_icmp_ge (pc := 7) (tgt := 43) hx hb dX0_ownerOf_7 (by decide) (fun c1 => ?_) (fun c1 => ?_)
      · have hf := zt c1 hf
        refine lv_iconst (pc := 43) (v := (-1)) hx hb dX0_ownerOf_43 (by decide) ?_
        exact zend_i (w := wX cA h) fin hf hW dX0_ownerOf_44
      · have hf := zf c1 hf
        refine lv_iload_n (pc := 10) hx hb dX0_ownerOf_10 rfl (lv_at hl 1 rfl) ?_
        obtain ⟨r2, e4, hf⟩ := zU_e hf
        refine zcSi (As := [.int v2]) (pc := 11) C0 hW (kX0_isKind l H.size v2 r2 e4) (va_cwS 1 hts (zgS gaX mX_10 mX_11 mX_12 mX_7) rfl rfl rfl (by decide +kernel) ⟨Nat.le_of_ble_eq_true rfl, Nat.le_of_ble_eq_true rfl⟩) rfl hl.1 rfl (Nat.le_of_ble_eq_true rfl) dX0_ownerOf_11 (fun H locs hW => ?_)
        refine lv_if_eq (pc := 14) (tgt := 43) hx hb dX0_ownerOf_14 (by decide) (fun c5 => ?_) (fun c5 => ?_)
        · have hf := zt c5 hf
          refine lv_iconst (pc := 43) (v := (-1)) hx hb dX0_ownerOf_43 (by decide) ?_
          exact zend_i (w := wX cA h) fin hf hW dX0_ownerOf_44
        · have hf := zf c5 hf
          refine xsg_1 (pc := 17) C0 hW mX_43 dX0_ownerOf_17 ?_
          refine lv_iload_n (pc := 20) hx hb dX0_ownerOf_20 rfl (lv_at hl 1 rfl) ?_
          refine lv_iconst (pc := 21) (v := 4) hx hb dX0_ownerOf_21 (by decide) ?_
          refine lv_imul (pc := 22) hx hb dX0_ownerOf_22 ?_
          refine lv_iload_n (pc := 23) hx hb dX0_ownerOf_23 rfl (lv_at hl 0 rfl) ?_
          refine lv_iadd (pc := 24) hx hb dX0_ownerOf_24 ?_
          obtain ⟨i6, hf⟩ := zn hf
          refine xst_1 (pc := 25) C0 hW i6 dX0_ownerOf_25 ?_
          refine lv_if_eq (pc := 26) (tgt := 31) hx hb dX0_ownerOf_26 (by decide) (fun c7 => ?_) (fun c7 => ?_)
          · have hf := zt c7 hf
            refine xsg_2 (pc := 31) C0 hW mX_9 dX0_ownerOf_31 ?_
            refine lv_iload_n (pc := 34) hx hb dX0_ownerOf_34 rfl (lv_at hl 1 rfl) ?_
            obtain ⟨i8, hf⟩ := zn hf
            refine xst_2 (pc := 35) C0 hW i8 dX0_ownerOf_35 ?_
            refine lv_istore_n (pc := 36) (lv' := [(2, .int (xs_2 (Int32.toNatClampNeg v2))), (1, .int v1), (3, .int v3)]) hx hb dX0_ownerOf_36 rfl hl (by decide) rfl (fun ls hl => ?_)
            refine lv_iinc (pc := 37) (v := (v3 + 1)) (lv' := [(3, .int (v3 + 1)), (2, .int (xs_2 (Int32.toNatClampNeg v2))), (1, .int v1)]) hx hb dX0_ownerOf_37 hl (k := 2) rfl (by rfl) (by decide) rfl (fun ls hl => ?_)
            refine lv_goto (pc := 40) (tgt := 4) hx hb dX0_ownerOf_40 (by decide) ?_
            exact ih v1 (xs_2 (Int32.toNatClampNeg v2)) (v3 + 1) S H locs hW ls (lv_sub hl [2, 1, 0] rfl) hf
          · have hf := zf c7 hf
            refine lv_iload_n (pc := 29) hx hb dX0_ownerOf_29 rfl (lv_at hl 1 rfl) ?_
            exact zend_i (w := wX cA h) fin hf hW dX0_ownerOf_30
  unfold fX0_ownerOf at hf
  refine lv_iload_n (pc := 0) hx hb dX0_ownerOf_0 rfl (lv_at hl 0 rfl) ?_
  refine lv_istore_n (pc := 1) (lv' := [(2, .int p1), (0, .int p1), (1, .int p2)]) hx hb dX0_ownerOf_1 rfl hl (by decide) rfl (fun ls hl => ?_)
  refine lv_iconst (pc := 2) (v := 0) hx hb dX0_ownerOf_2 (by decide) ?_
  refine lv_istore_n (pc := 3) (lv' := [(3, .int 0), (2, .int p1), (0, .int p1), (1, .int p2)]) hx hb dX0_ownerOf_3 rfl hl (by decide) rfl (fun ls hl => ?_)
  exact w4 N p2 p1 0 S H locs hW ls (lv_sub hl [3, 1, 0] rfl) hf

def fX0_run_o (G : (Int32 → Int32 → Int32 → Int32 → zSt → Option (Int32 × zSt)) × (Int32 → Int32 → Int32 → Int32 → zSt → Option (Int32 × zSt))) (N : Nat) (p1 : Int32) (p2 : Int32) (p3 : Int32) (p4 : Int32) (S : zSt) : Option (Int32 × zSt) :=
  zB (fX0_kindOf (S.1 104) S) fun r1 S2 => if p1 = 1 then (some ((p3 + (S2.1 104)), S2)) else (if p1 = 2 then (zB (G.1 r1 1 p3 p4 S2) fun r6 S7 => zB (G.1 r1 2 1 p4 S7) fun r9 S10 => some ((r6 - r9), S10)) else (if p1 = 10 then (zB (G.1 r1 0 p3 p4 S2) fun r13 S14 => some ((r13 * 2), S14)) else (if p1 = 11 then (some ((p3 ^^^ (S2.1 104)), S2)) else (if p1 = 20 then (zB (G.1 p2 0 p3 p4 S2) fun r18 S19 => some ((r18 + 3), S19)) else (if p1 = 30 then (zB (G.1 p2 1 p3 p4 S2) fun r22 S23 => some ((-r22), S23)) else (if p1 = 40 then (zB (G.1 p2 2 p3 p4 S2) fun r26 S27 => some ((r26 * 3), S27)) else (if p1 = 41 then (zB (G.1 p2 1 (p3 + 1) p4 S2) fun r30 S31 => some (r30, S31)) else (if p1 = 50 then (zB (G.1 p2 3 p3 p4 S2) fun r34 S35 => some ((r34 ^^^ 5), S35)) else (if p1 = 60 then (zB (G.1 p2 2 p3 p4 S2) fun r38 S39 => zB (G.1 r1 0 2 p4 S39) fun r41 S42 => some ((r38 - r41), S42)) else (if p1 = 61 then (zB (G.1 p2 3 p3 p4 S2) fun r45 S46 => some ((r45 + 1), S46)) else (if p1 = 70 then (zB (G.1 p2 0 p3 p4 S2) fun r49 S50 => some ((r49 * 2), S50)) else (if p1 = 80 then (zB (G.1 p2 1 p3 p4 S2) fun r53 S54 => zB (G.1 r1 2 2 p4 S54) fun r56 S57 => some ((r53 + r56), S57)) else (if p1 = 81 then (zB (G.1 p2 0 p3 p4 S2) fun r60 S61 => some ((r60 - 1), S61)) else (some (0, S2)))))))))))))))
set_option maxHeartbeats 4000000 in
set_option maxRecDepth 100000 in
theorem kX0_run_o (l : Launch) (D : va_G) (cA : Nat → ClassId) (h tt : Nat → Nat) (sz : Nat) (N : Nat) (g : Nat) (G : (Int32 → Int32 → Int32 → Int32 → zSt → Option (Int32 × zSt)) × (Int32 → Int32 → Int32 → Int32 → zSt → Option (Int32 × zSt))) (hG_call : ∀ (sz : Nat) (p1 : Int32) (p2 : Int32) (p3 : Int32) (p4 : Int32) (S : zSt) (r : Int32) (S1 : zSt), G.1 p1 p2 p3 p4 S = some (r, S1) → zMi l yX0_call wX0_call (zRm g) (zEX tt) D (tX cA) (hsX h) [.ref (h 0), .int p1, .int p2, .int p3, .int p4] (wX cA h S) (wX cA h S1) sz r) (hG_run : ∀ (sz : Nat) (p1 : Int32) (p2 : Int32) (p3 : Int32) (p4 : Int32) (S : zSt) (r : Int32) (S1 : zSt), G.2 p1 p2 p3 p4 S = some (r, S1) → zMi l yX0_run wX0_run (zRm g) (zEX tt) D (tX cA) (hsX h) [.ref (h 0), .int p1, .int p2, .int p3, .int p4] (wX cA h S) (wX cA h S1) sz r)  (p1 : Int32) (p2 : Int32) (p3 : Int32) (p4 : Int32) (S : zSt) (r : Int32) (S1 : zSt) (hf : fX0_run_o G N p1 p2 p3 p4 S = some (r, S1)) : zMi l yX0_run wX0_run (zRm (g + 1)) (zEX tt) D (tX cA) (hsX h) [.ref (h 0), .int p1, .int p2, .int p3, .int p4] (wX cA h S) (wX cA h S1) sz r := by
  refine zEn_i (cc := cX0_run) (maxL := 6) (own := RX0) (by decide) rfl rfl (hmX cA h S) (Nat.le_of_ble_eq_true rfl) ?_
  intro p e s m args below meth c Q H locs C0 hW fin ls hl
  have hl : lv_has ls 6 [(0, .ref (h 0)), (1, .int p1), (2, .int p2), (3, .int p3), (4, .int p4)] := hl
  have hx := C0.1
  have hb := C0.2.1
  have hown := C0.2.2.2.1
  have hts := C0.2.2.2.2
  unfold fX0_run_o at hf
  refine lv_aload_n (pc := 0) hx hb dX0_run_0 rfl (lv_at hl 0 rfl) ?_
  refine lv_aload_n (pc := 1) hx hb dX0_run_1 rfl (lv_at hl 0 rfl) ?_
  refine xg_104 (pc := 2) C0 hu_0 hW mX_35 dX0_run_2 ?_
  obtain ⟨r1, S2, e3, hf⟩ := zB_e hf
  refine zcVi (zEX_ok tt) (As := [.int (S.1 104)]) (pc := 5) C0 hW (kX0_kindOf l D cA h tt H.size (S.1 104) S r1 S2 e3) (cwV 1 hts (zgV gaX mX_36 mX_37 mX_38 mX_12 mX_20) rfl rfl rfl (by decide +kernel) (zRm_k g (Nat.le_of_ble_eq_true rfl) (Nat.le_of_ble_eq_true rfl))) (va_recv hW.1 hW.2.1 (ci := 0) (q0 := 0) rfl rfl) rfl hl.1 rfl (Nat.le_of_ble_eq_true rfl) dX0_run_5 (fun H locs hW => ?_)
  refine lv_istore (pc := 8) (lv' := [(5, .int r1), (0, .ref (h 0)), (1, .int p1), (2, .int p2), (3, .int p3), (4, .int p4)]) hx hb dX0_run_8 hl (by decide) rfl (fun ls hl => ?_)
  refine lv_iload_n (pc := 10) hx hb dX0_run_10 rfl (lv_at hl 2 rfl) ?_
  by_cases c4 : p1 = 1
  · have hf := zt c4 hf
    refine lv_lookup (pc := 11) (tgt := 132) (off := 121) hx hb dX0_run_11 (by decide) (by rw [c4]; decide) (by decide) ?_
    refine lv_iload_n (pc := 132) hx hb dX0_run_132 rfl (lv_at hl 4 rfl) ?_
    refine lv_aload_n (pc := 133) hx hb dX0_run_133 rfl (lv_at hl 1 rfl) ?_
    refine xg_104 (pc := 134) C0 hu_0 hW mX_35 dX0_run_134 ?_
    refine lv_iadd (pc := 137) hx hb dX0_run_137 ?_
    exact zend_i (w := wX cA h) fin hf hW dX0_run_138
  have hf := zf c4 hf
  by_cases c5 : p1 = 2
  · have hf := zt c5 hf
    refine lv_lookup (pc := 11) (tgt := 139) (off := 128) hx hb dX0_run_11 (by decide) (by rw [c5]; decide) (by decide) ?_
    refine lv_aload_n (pc := 139) hx hb dX0_run_139 rfl (lv_at hl 1 rfl) ?_
    refine lv_iload (pc := 140) hx hb dX0_run_140 (lv_at hl 0 rfl) ?_
    refine lv_iconst (pc := 142) (v := 1) hx hb dX0_run_142 (by decide) ?_
    refine lv_iload_n (pc := 143) hx hb dX0_run_143 rfl (lv_at hl 4 rfl) ?_
    refine lv_iload (pc := 144) hx hb dX0_run_144 (lv_at hl 5 rfl) ?_
    obtain ⟨r6, S7, e8, hf⟩ := zB_e hf
    refine zcVi (zEX_ok tt) (As := [.int r1, .int 1, .int p3, .int p4]) (pc := 146) C0 hW (hG_call H.size r1 1 p3 p4 S2 r6 S7 e8) (cwV 4 hts (zgV gaX mX_39 mX_40 mX_41 mX_12 mX_42) rfl rfl rfl (by decide +kernel) (zRm_up g (Nat.le_of_ble_eq_true rfl))) (va_recv hW.1 hW.2.1 (ci := 0) (q0 := 0) rfl rfl) rfl hl.1 rfl (Nat.le_of_ble_eq_true rfl) dX0_run_146 (fun H locs hW => ?_)
    refine lv_aload_n (pc := 149) hx hb dX0_run_149 rfl (lv_at hl 1 rfl) ?_
    refine lv_iload (pc := 150) hx hb dX0_run_150 (lv_at hl 0 rfl) ?_
    refine lv_iconst (pc := 152) (v := 2) hx hb dX0_run_152 (by decide) ?_
    refine lv_iconst (pc := 153) (v := 1) hx hb dX0_run_153 (by decide) ?_
    refine lv_iload (pc := 154) hx hb dX0_run_154 (lv_at hl 5 rfl) ?_
    obtain ⟨r9, S10, e11, hf⟩ := zB_e hf
    refine zcVi (zEX_ok tt) (As := [.int r1, .int 2, .int 1, .int p4]) (pc := 156) C0 hW (hG_call H.size r1 2 1 p4 S7 r9 S10 e11) (cwV 4 hts (zgV gaX mX_39 mX_40 mX_41 mX_12 mX_42) rfl rfl rfl (by decide +kernel) (zRm_up g (Nat.le_of_ble_eq_true rfl))) (va_recv hW.1 hW.2.1 (ci := 0) (q0 := 0) rfl rfl) rfl hl.1 rfl (Nat.le_of_ble_eq_true rfl) dX0_run_156 (fun H locs hW => ?_)
    refine lv_isub (pc := 159) hx hb dX0_run_159 ?_
    exact zend_i (w := wX cA h) fin hf hW dX0_run_160
  have hf := zf c5 hf
  by_cases c12 : p1 = 10
  · have hf := zt c12 hf
    refine lv_lookup (pc := 11) (tgt := 161) (off := 150) hx hb dX0_run_11 (by decide) (by rw [c12]; decide) (by decide) ?_
    refine lv_aload_n (pc := 161) hx hb dX0_run_161 rfl (lv_at hl 1 rfl) ?_
    refine lv_iload (pc := 162) hx hb dX0_run_162 (lv_at hl 0 rfl) ?_
    refine lv_iconst (pc := 164) (v := 0) hx hb dX0_run_164 (by decide) ?_
    refine lv_iload_n (pc := 165) hx hb dX0_run_165 rfl (lv_at hl 4 rfl) ?_
    refine lv_iload (pc := 166) hx hb dX0_run_166 (lv_at hl 5 rfl) ?_
    obtain ⟨r13, S14, e15, hf⟩ := zB_e hf
    refine zcVi (zEX_ok tt) (As := [.int r1, .int 0, .int p3, .int p4]) (pc := 168) C0 hW (hG_call H.size r1 0 p3 p4 S2 r13 S14 e15) (cwV 4 hts (zgV gaX mX_39 mX_40 mX_41 mX_12 mX_42) rfl rfl rfl (by decide +kernel) (zRm_up g (Nat.le_of_ble_eq_true rfl))) (va_recv hW.1 hW.2.1 (ci := 0) (q0 := 0) rfl rfl) rfl hl.1 rfl (Nat.le_of_ble_eq_true rfl) dX0_run_168 (fun H locs hW => ?_)
    refine lv_iconst (pc := 171) (v := 2) hx hb dX0_run_171 (by decide) ?_
    refine lv_imul (pc := 172) hx hb dX0_run_172 ?_
    exact zend_i (w := wX cA h) fin hf hW dX0_run_173
  have hf := zf c12 hf
  by_cases c16 : p1 = 11
  · have hf := zt c16 hf
    refine lv_lookup (pc := 11) (tgt := 174) (off := 163) hx hb dX0_run_11 (by decide) (by rw [c16]; decide) (by decide) ?_
    refine lv_iload_n (pc := 174) hx hb dX0_run_174 rfl (lv_at hl 4 rfl) ?_
    refine lv_aload_n (pc := 175) hx hb dX0_run_175 rfl (lv_at hl 1 rfl) ?_
    refine xg_104 (pc := 176) C0 hu_0 hW mX_35 dX0_run_176 ?_
    refine lv_ixor (pc := 179) hx hb dX0_run_179 ?_
    exact zend_i (w := wX cA h) fin hf hW dX0_run_180
  have hf := zf c16 hf
  by_cases c17 : p1 = 20
  · have hf := zt c17 hf
    refine lv_lookup (pc := 11) (tgt := 181) (off := 170) hx hb dX0_run_11 (by decide) (by rw [c17]; decide) (by decide) ?_
    refine lv_aload_n (pc := 181) hx hb dX0_run_181 rfl (lv_at hl 1 rfl) ?_
    refine lv_iload_n (pc := 182) hx hb dX0_run_182 rfl (lv_at hl 3 rfl) ?_
    refine lv_iconst (pc := 183) (v := 0) hx hb dX0_run_183 (by decide) ?_
    refine lv_iload_n (pc := 184) hx hb dX0_run_184 rfl (lv_at hl 4 rfl) ?_
    refine lv_iload (pc := 185) hx hb dX0_run_185 (lv_at hl 5 rfl) ?_
    obtain ⟨r18, S19, e20, hf⟩ := zB_e hf
    refine zcVi (zEX_ok tt) (As := [.int p2, .int 0, .int p3, .int p4]) (pc := 187) C0 hW (hG_call H.size p2 0 p3 p4 S2 r18 S19 e20) (cwV 4 hts (zgV gaX mX_39 mX_40 mX_41 mX_12 mX_42) rfl rfl rfl (by decide +kernel) (zRm_up g (Nat.le_of_ble_eq_true rfl))) (va_recv hW.1 hW.2.1 (ci := 0) (q0 := 0) rfl rfl) rfl hl.1 rfl (Nat.le_of_ble_eq_true rfl) dX0_run_187 (fun H locs hW => ?_)
    refine lv_iconst (pc := 190) (v := 3) hx hb dX0_run_190 (by decide) ?_
    refine lv_iadd (pc := 191) hx hb dX0_run_191 ?_
    exact zend_i (w := wX cA h) fin hf hW dX0_run_192
  have hf := zf c17 hf
  by_cases c21 : p1 = 30
  · have hf := zt c21 hf
    refine lv_lookup (pc := 11) (tgt := 193) (off := 182) hx hb dX0_run_11 (by decide) (by rw [c21]; decide) (by decide) ?_
    refine lv_aload_n (pc := 193) hx hb dX0_run_193 rfl (lv_at hl 1 rfl) ?_
    refine lv_iload_n (pc := 194) hx hb dX0_run_194 rfl (lv_at hl 3 rfl) ?_
    refine lv_iconst (pc := 195) (v := 1) hx hb dX0_run_195 (by decide) ?_
    refine lv_iload_n (pc := 196) hx hb dX0_run_196 rfl (lv_at hl 4 rfl) ?_
    refine lv_iload (pc := 197) hx hb dX0_run_197 (lv_at hl 5 rfl) ?_
    obtain ⟨r22, S23, e24, hf⟩ := zB_e hf
    refine zcVi (zEX_ok tt) (As := [.int p2, .int 1, .int p3, .int p4]) (pc := 199) C0 hW (hG_call H.size p2 1 p3 p4 S2 r22 S23 e24) (cwV 4 hts (zgV gaX mX_39 mX_40 mX_41 mX_12 mX_42) rfl rfl rfl (by decide +kernel) (zRm_up g (Nat.le_of_ble_eq_true rfl))) (va_recv hW.1 hW.2.1 (ci := 0) (q0 := 0) rfl rfl) rfl hl.1 rfl (Nat.le_of_ble_eq_true rfl) dX0_run_199 (fun H locs hW => ?_)
    refine lv_ineg (pc := 202) hx hb dX0_run_202 ?_
    exact zend_i (w := wX cA h) fin hf hW dX0_run_203
  have hf := zf c21 hf
  by_cases c25 : p1 = 40
  · have hf := zt c25 hf
    refine lv_lookup (pc := 11) (tgt := 204) (off := 193) hx hb dX0_run_11 (by decide) (by rw [c25]; decide) (by decide) ?_
    refine lv_aload_n (pc := 204) hx hb dX0_run_204 rfl (lv_at hl 1 rfl) ?_
    refine lv_iload_n (pc := 205) hx hb dX0_run_205 rfl (lv_at hl 3 rfl) ?_
    refine lv_iconst (pc := 206) (v := 2) hx hb dX0_run_206 (by decide) ?_
    refine lv_iload_n (pc := 207) hx hb dX0_run_207 rfl (lv_at hl 4 rfl) ?_
    refine lv_iload (pc := 208) hx hb dX0_run_208 (lv_at hl 5 rfl) ?_
    obtain ⟨r26, S27, e28, hf⟩ := zB_e hf
    refine zcVi (zEX_ok tt) (As := [.int p2, .int 2, .int p3, .int p4]) (pc := 210) C0 hW (hG_call H.size p2 2 p3 p4 S2 r26 S27 e28) (cwV 4 hts (zgV gaX mX_39 mX_40 mX_41 mX_12 mX_42) rfl rfl rfl (by decide +kernel) (zRm_up g (Nat.le_of_ble_eq_true rfl))) (va_recv hW.1 hW.2.1 (ci := 0) (q0 := 0) rfl rfl) rfl hl.1 rfl (Nat.le_of_ble_eq_true rfl) dX0_run_210 (fun H locs hW => ?_)
    refine lv_iconst (pc := 213) (v := 3) hx hb dX0_run_213 (by decide) ?_
    refine lv_imul (pc := 214) hx hb dX0_run_214 ?_
    exact zend_i (w := wX cA h) fin hf hW dX0_run_215
  have hf := zf c25 hf
  by_cases c29 : p1 = 41
  · have hf := zt c29 hf
    refine lv_lookup (pc := 11) (tgt := 216) (off := 205) hx hb dX0_run_11 (by decide) (by rw [c29]; decide) (by decide) ?_
    refine lv_aload_n (pc := 216) hx hb dX0_run_216 rfl (lv_at hl 1 rfl) ?_
    refine lv_iload_n (pc := 217) hx hb dX0_run_217 rfl (lv_at hl 3 rfl) ?_
    refine lv_iconst (pc := 218) (v := 1) hx hb dX0_run_218 (by decide) ?_
    refine lv_iload_n (pc := 219) hx hb dX0_run_219 rfl (lv_at hl 4 rfl) ?_
    refine lv_iconst (pc := 220) (v := 1) hx hb dX0_run_220 (by decide) ?_
    refine lv_iadd (pc := 221) hx hb dX0_run_221 ?_
    refine lv_iload (pc := 222) hx hb dX0_run_222 (lv_at hl 5 rfl) ?_
    obtain ⟨r30, S31, e32, hf⟩ := zB_e hf
    refine zcVi (zEX_ok tt) (As := [.int p2, .int 1, .int (p3 + 1), .int p4]) (pc := 224) C0 hW (hG_call H.size p2 1 (p3 + 1) p4 S2 r30 S31 e32) (cwV 4 hts (zgV gaX mX_39 mX_40 mX_41 mX_12 mX_42) rfl rfl rfl (by decide +kernel) (zRm_up g (Nat.le_of_ble_eq_true rfl))) (va_recv hW.1 hW.2.1 (ci := 0) (q0 := 0) rfl rfl) rfl hl.1 rfl (Nat.le_of_ble_eq_true rfl) dX0_run_224 (fun H locs hW => ?_)
    exact zend_i (w := wX cA h) fin hf hW dX0_run_227
  have hf := zf c29 hf
  by_cases c33 : p1 = 50
  · have hf := zt c33 hf
    refine lv_lookup (pc := 11) (tgt := 228) (off := 217) hx hb dX0_run_11 (by decide) (by rw [c33]; decide) (by decide) ?_
    refine lv_aload_n (pc := 228) hx hb dX0_run_228 rfl (lv_at hl 1 rfl) ?_
    refine lv_iload_n (pc := 229) hx hb dX0_run_229 rfl (lv_at hl 3 rfl) ?_
    refine lv_iconst (pc := 230) (v := 3) hx hb dX0_run_230 (by decide) ?_
    refine lv_iload_n (pc := 231) hx hb dX0_run_231 rfl (lv_at hl 4 rfl) ?_
    refine lv_iload (pc := 232) hx hb dX0_run_232 (lv_at hl 5 rfl) ?_
    obtain ⟨r34, S35, e36, hf⟩ := zB_e hf
    refine zcVi (zEX_ok tt) (As := [.int p2, .int 3, .int p3, .int p4]) (pc := 234) C0 hW (hG_call H.size p2 3 p3 p4 S2 r34 S35 e36) (cwV 4 hts (zgV gaX mX_39 mX_40 mX_41 mX_12 mX_42) rfl rfl rfl (by decide +kernel) (zRm_up g (Nat.le_of_ble_eq_true rfl))) (va_recv hW.1 hW.2.1 (ci := 0) (q0 := 0) rfl rfl) rfl hl.1 rfl (Nat.le_of_ble_eq_true rfl) dX0_run_234 (fun H locs hW => ?_)
    refine lv_iconst (pc := 237) (v := 5) hx hb dX0_run_237 (by decide) ?_
    refine lv_ixor (pc := 238) hx hb dX0_run_238 ?_
    exact zend_i (w := wX cA h) fin hf hW dX0_run_239
  have hf := zf c33 hf
  by_cases c37 : p1 = 60
  · have hf := zt c37 hf
    refine lv_lookup (pc := 11) (tgt := 240) (off := 229) hx hb dX0_run_11 (by decide) (by rw [c37]; decide) (by decide) ?_
    refine lv_aload_n (pc := 240) hx hb dX0_run_240 rfl (lv_at hl 1 rfl) ?_
    refine lv_iload_n (pc := 241) hx hb dX0_run_241 rfl (lv_at hl 3 rfl) ?_
    refine lv_iconst (pc := 242) (v := 2) hx hb dX0_run_242 (by decide) ?_
    refine lv_iload_n (pc := 243) hx hb dX0_run_243 rfl (lv_at hl 4 rfl) ?_
    refine lv_iload (pc := 244) hx hb dX0_run_244 (lv_at hl 5 rfl) ?_
    obtain ⟨r38, S39, e40, hf⟩ := zB_e hf
    refine zcVi (zEX_ok tt) (As := [.int p2, .int 2, .int p3, .int p4]) (pc := 246) C0 hW (hG_call H.size p2 2 p3 p4 S2 r38 S39 e40) (cwV 4 hts (zgV gaX mX_39 mX_40 mX_41 mX_12 mX_42) rfl rfl rfl (by decide +kernel) (zRm_up g (Nat.le_of_ble_eq_true rfl))) (va_recv hW.1 hW.2.1 (ci := 0) (q0 := 0) rfl rfl) rfl hl.1 rfl (Nat.le_of_ble_eq_true rfl) dX0_run_246 (fun H locs hW => ?_)
    refine lv_aload_n (pc := 249) hx hb dX0_run_249 rfl (lv_at hl 1 rfl) ?_
    refine lv_iload (pc := 250) hx hb dX0_run_250 (lv_at hl 0 rfl) ?_
    refine lv_iconst (pc := 252) (v := 0) hx hb dX0_run_252 (by decide) ?_
    refine lv_iconst (pc := 253) (v := 2) hx hb dX0_run_253 (by decide) ?_
    refine lv_iload (pc := 254) hx hb dX0_run_254 (lv_at hl 5 rfl) ?_
    obtain ⟨r41, S42, e43, hf⟩ := zB_e hf
    refine zcVi (zEX_ok tt) (As := [.int r1, .int 0, .int 2, .int p4]) (pc := 256) C0 hW (hG_call H.size r1 0 2 p4 S39 r41 S42 e43) (cwV 4 hts (zgV gaX mX_39 mX_40 mX_41 mX_12 mX_42) rfl rfl rfl (by decide +kernel) (zRm_up g (Nat.le_of_ble_eq_true rfl))) (va_recv hW.1 hW.2.1 (ci := 0) (q0 := 0) rfl rfl) rfl hl.1 rfl (Nat.le_of_ble_eq_true rfl) dX0_run_256 (fun H locs hW => ?_)
    refine lv_isub (pc := 259) hx hb dX0_run_259 ?_
    exact zend_i (w := wX cA h) fin hf hW dX0_run_260
  have hf := zf c37 hf
  by_cases c44 : p1 = 61
  · have hf := zt c44 hf
    refine lv_lookup (pc := 11) (tgt := 261) (off := 250) hx hb dX0_run_11 (by decide) (by rw [c44]; decide) (by decide) ?_
    refine lv_aload_n (pc := 261) hx hb dX0_run_261 rfl (lv_at hl 1 rfl) ?_
    refine lv_iload_n (pc := 262) hx hb dX0_run_262 rfl (lv_at hl 3 rfl) ?_
    refine lv_iconst (pc := 263) (v := 3) hx hb dX0_run_263 (by decide) ?_
    refine lv_iload_n (pc := 264) hx hb dX0_run_264 rfl (lv_at hl 4 rfl) ?_
    refine lv_iload (pc := 265) hx hb dX0_run_265 (lv_at hl 5 rfl) ?_
    obtain ⟨r45, S46, e47, hf⟩ := zB_e hf
    refine zcVi (zEX_ok tt) (As := [.int p2, .int 3, .int p3, .int p4]) (pc := 267) C0 hW (hG_call H.size p2 3 p3 p4 S2 r45 S46 e47) (cwV 4 hts (zgV gaX mX_39 mX_40 mX_41 mX_12 mX_42) rfl rfl rfl (by decide +kernel) (zRm_up g (Nat.le_of_ble_eq_true rfl))) (va_recv hW.1 hW.2.1 (ci := 0) (q0 := 0) rfl rfl) rfl hl.1 rfl (Nat.le_of_ble_eq_true rfl) dX0_run_267 (fun H locs hW => ?_)
    refine lv_iconst (pc := 270) (v := 1) hx hb dX0_run_270 (by decide) ?_
    refine lv_iadd (pc := 271) hx hb dX0_run_271 ?_
    exact zend_i (w := wX cA h) fin hf hW dX0_run_272
  have hf := zf c44 hf
  by_cases c48 : p1 = 70
  · have hf := zt c48 hf
    refine lv_lookup (pc := 11) (tgt := 273) (off := 262) hx hb dX0_run_11 (by decide) (by rw [c48]; decide) (by decide) ?_
    refine lv_aload_n (pc := 273) hx hb dX0_run_273 rfl (lv_at hl 1 rfl) ?_
    refine lv_iload_n (pc := 274) hx hb dX0_run_274 rfl (lv_at hl 3 rfl) ?_
    refine lv_iconst (pc := 275) (v := 0) hx hb dX0_run_275 (by decide) ?_
    refine lv_iload_n (pc := 276) hx hb dX0_run_276 rfl (lv_at hl 4 rfl) ?_
    refine lv_iload (pc := 277) hx hb dX0_run_277 (lv_at hl 5 rfl) ?_
    obtain ⟨r49, S50, e51, hf⟩ := zB_e hf
    refine zcVi (zEX_ok tt) (As := [.int p2, .int 0, .int p3, .int p4]) (pc := 279) C0 hW (hG_call H.size p2 0 p3 p4 S2 r49 S50 e51) (cwV 4 hts (zgV gaX mX_39 mX_40 mX_41 mX_12 mX_42) rfl rfl rfl (by decide +kernel) (zRm_up g (Nat.le_of_ble_eq_true rfl))) (va_recv hW.1 hW.2.1 (ci := 0) (q0 := 0) rfl rfl) rfl hl.1 rfl (Nat.le_of_ble_eq_true rfl) dX0_run_279 (fun H locs hW => ?_)
    refine lv_iconst (pc := 282) (v := 2) hx hb dX0_run_282 (by decide) ?_
    refine lv_imul (pc := 283) hx hb dX0_run_283 ?_
    exact zend_i (w := wX cA h) fin hf hW dX0_run_284
  have hf := zf c48 hf
  by_cases c52 : p1 = 80
  · have hf := zt c52 hf
    refine lv_lookup (pc := 11) (tgt := 285) (off := 274) hx hb dX0_run_11 (by decide) (by rw [c52]; decide) (by decide) ?_
    refine lv_aload_n (pc := 285) hx hb dX0_run_285 rfl (lv_at hl 1 rfl) ?_
    refine lv_iload_n (pc := 286) hx hb dX0_run_286 rfl (lv_at hl 3 rfl) ?_
    refine lv_iconst (pc := 287) (v := 1) hx hb dX0_run_287 (by decide) ?_
    refine lv_iload_n (pc := 288) hx hb dX0_run_288 rfl (lv_at hl 4 rfl) ?_
    refine lv_iload (pc := 289) hx hb dX0_run_289 (lv_at hl 5 rfl) ?_
    obtain ⟨r53, S54, e55, hf⟩ := zB_e hf
    refine zcVi (zEX_ok tt) (As := [.int p2, .int 1, .int p3, .int p4]) (pc := 291) C0 hW (hG_call H.size p2 1 p3 p4 S2 r53 S54 e55) (cwV 4 hts (zgV gaX mX_39 mX_40 mX_41 mX_12 mX_42) rfl rfl rfl (by decide +kernel) (zRm_up g (Nat.le_of_ble_eq_true rfl))) (va_recv hW.1 hW.2.1 (ci := 0) (q0 := 0) rfl rfl) rfl hl.1 rfl (Nat.le_of_ble_eq_true rfl) dX0_run_291 (fun H locs hW => ?_)
    refine lv_aload_n (pc := 294) hx hb dX0_run_294 rfl (lv_at hl 1 rfl) ?_
    refine lv_iload (pc := 295) hx hb dX0_run_295 (lv_at hl 0 rfl) ?_
    refine lv_iconst (pc := 297) (v := 2) hx hb dX0_run_297 (by decide) ?_
    refine lv_iconst (pc := 298) (v := 2) hx hb dX0_run_298 (by decide) ?_
    refine lv_iload (pc := 299) hx hb dX0_run_299 (lv_at hl 5 rfl) ?_
    obtain ⟨r56, S57, e58, hf⟩ := zB_e hf
    refine zcVi (zEX_ok tt) (As := [.int r1, .int 2, .int 2, .int p4]) (pc := 301) C0 hW (hG_call H.size r1 2 2 p4 S54 r56 S57 e58) (cwV 4 hts (zgV gaX mX_39 mX_40 mX_41 mX_12 mX_42) rfl rfl rfl (by decide +kernel) (zRm_up g (Nat.le_of_ble_eq_true rfl))) (va_recv hW.1 hW.2.1 (ci := 0) (q0 := 0) rfl rfl) rfl hl.1 rfl (Nat.le_of_ble_eq_true rfl) dX0_run_301 (fun H locs hW => ?_)
    refine lv_iadd (pc := 304) hx hb dX0_run_304 ?_
    exact zend_i (w := wX cA h) fin hf hW dX0_run_305
  have hf := zf c52 hf
  by_cases c59 : p1 = 81
  · have hf := zt c59 hf
    refine lv_lookup (pc := 11) (tgt := 306) (off := 295) hx hb dX0_run_11 (by decide) (by rw [c59]; decide) (by decide) ?_
    refine lv_aload_n (pc := 306) hx hb dX0_run_306 rfl (lv_at hl 1 rfl) ?_
    refine lv_iload_n (pc := 307) hx hb dX0_run_307 rfl (lv_at hl 3 rfl) ?_
    refine lv_iconst (pc := 308) (v := 0) hx hb dX0_run_308 (by decide) ?_
    refine lv_iload_n (pc := 309) hx hb dX0_run_309 rfl (lv_at hl 4 rfl) ?_
    refine lv_iload (pc := 310) hx hb dX0_run_310 (lv_at hl 5 rfl) ?_
    obtain ⟨r60, S61, e62, hf⟩ := zB_e hf
    refine zcVi (zEX_ok tt) (As := [.int p2, .int 0, .int p3, .int p4]) (pc := 312) C0 hW (hG_call H.size p2 0 p3 p4 S2 r60 S61 e62) (cwV 4 hts (zgV gaX mX_39 mX_40 mX_41 mX_12 mX_42) rfl rfl rfl (by decide +kernel) (zRm_up g (Nat.le_of_ble_eq_true rfl))) (va_recv hW.1 hW.2.1 (ci := 0) (q0 := 0) rfl rfl) rfl hl.1 rfl (Nat.le_of_ble_eq_true rfl) dX0_run_312 (fun H locs hW => ?_)
    refine lv_iconst (pc := 315) (v := 1) hx hb dX0_run_315 (by decide) ?_
    refine lv_isub (pc := 316) hx hb dX0_run_316 ?_
    exact zend_i (w := wX cA h) fin hf hW dX0_run_317
  have hf := zf c59 hf
  refine lv_lookup (pc := 11) (tgt := 318) (off := 307) hx hb dX0_run_11 (by decide) (zlook _ _ _ (List.forall_mem_cons.mpr ⟨zlk c4 (by decide), (List.forall_mem_cons.mpr ⟨zlk c5 (by decide), (List.forall_mem_cons.mpr ⟨zlk c12 (by decide), (List.forall_mem_cons.mpr ⟨zlk c16 (by decide), (List.forall_mem_cons.mpr ⟨zlk c17 (by decide), (List.forall_mem_cons.mpr ⟨zlk c21 (by decide), (List.forall_mem_cons.mpr ⟨zlk c25 (by decide), (List.forall_mem_cons.mpr ⟨zlk c29 (by decide), (List.forall_mem_cons.mpr ⟨zlk c33 (by decide), (List.forall_mem_cons.mpr ⟨zlk c37 (by decide), (List.forall_mem_cons.mpr ⟨zlk c44 (by decide), (List.forall_mem_cons.mpr ⟨zlk c48 (by decide), (List.forall_mem_cons.mpr ⟨zlk c52 (by decide), (List.forall_mem_cons.mpr ⟨zlk c59 (by decide), (fun _ h => absurd h List.not_mem_nil)⟩)⟩)⟩)⟩)⟩)⟩)⟩)⟩)⟩)⟩)⟩)⟩)⟩)⟩)) (by decide) ?_
  refine lv_iconst (pc := 318) (v := 0) hx hb dX0_run_318 (by decide) ?_
  exact zend_i (w := wX cA h) fin hf hW dX0_run_319

def fX0_call_o (G : (Int32 → Int32 → Int32 → Int32 → zSt → Option (Int32 × zSt)) × (Int32 → Int32 → Int32 → Int32 → zSt → Option (Int32 × zSt))) (N : Nat) (p1 : Int32) (p2 : Int32) (p3 : Int32) (p4 : Int32) (S : zSt) : Option (Int32 × zSt) :=
  zB (fX0_ownerOf N p1 p2 S) fun r1 S2 => zU (fX0_isKind r1) fun r4 => if r4 = 0 then (some (0, S2)) else (if p4 < 24 then (if zin ((r1 * 4) + p2) 32 then zL ((xs_1 (Int32.toNatClampNeg ((r1 * 4) + p2)))) fun (x10 : Int32) => zU (fX0_note x10 S2) fun S12 => if zin r1 8 then zB (G.2 x10 (xs_2 (Int32.toNatClampNeg r1)) p3 (p4 + 1) S12) fun r15 S16 => some (r15, S16) else none else none) else (some (0, S2)))
set_option maxHeartbeats 4000000 in
set_option maxRecDepth 100000 in
theorem kX0_call_o (l : Launch) (D : va_G) (cA : Nat → ClassId) (h tt : Nat → Nat) (sz : Nat) (N : Nat) (g : Nat) (G : (Int32 → Int32 → Int32 → Int32 → zSt → Option (Int32 × zSt)) × (Int32 → Int32 → Int32 → Int32 → zSt → Option (Int32 × zSt))) (hG_call : ∀ (sz : Nat) (p1 : Int32) (p2 : Int32) (p3 : Int32) (p4 : Int32) (S : zSt) (r : Int32) (S1 : zSt), G.1 p1 p2 p3 p4 S = some (r, S1) → zMi l yX0_call wX0_call (zRm g) (zEX tt) D (tX cA) (hsX h) [.ref (h 0), .int p1, .int p2, .int p3, .int p4] (wX cA h S) (wX cA h S1) sz r) (hG_run : ∀ (sz : Nat) (p1 : Int32) (p2 : Int32) (p3 : Int32) (p4 : Int32) (S : zSt) (r : Int32) (S1 : zSt), G.2 p1 p2 p3 p4 S = some (r, S1) → zMi l yX0_run wX0_run (zRm g) (zEX tt) D (tX cA) (hsX h) [.ref (h 0), .int p1, .int p2, .int p3, .int p4] (wX cA h S) (wX cA h S1) sz r)  (p1 : Int32) (p2 : Int32) (p3 : Int32) (p4 : Int32) (S : zSt) (r : Int32) (S1 : zSt) (hf : fX0_call_o G N p1 p2 p3 p4 S = some (r, S1)) : zMi l yX0_call wX0_call (zRm (g + 1)) (zEX tt) D (tX cA) (hsX h) [.ref (h 0), .int p1, .int p2, .int p3, .int p4] (wX cA h S) (wX cA h S1) sz r := by
  refine zEn_i (cc := cX0_call) (maxL := 7) (own := RX0) (by decide) rfl rfl (hmX cA h S) (Nat.le_of_ble_eq_true rfl) ?_
  intro p e s m args below meth c Q H locs C0 hW fin ls hl
  have hl : lv_has ls 7 [(0, .ref (h 0)), (1, .int p1), (2, .int p2), (3, .int p3), (4, .int p4)] := hl
  have hx := C0.1
  have hb := C0.2.1
  have hown := C0.2.2.2.1
  have hts := C0.2.2.2.2
  unfold fX0_call_o at hf
  refine lv_iload_n (pc := 0) hx hb dX0_call_0 rfl (lv_at hl 1 rfl) ?_
  refine lv_iload_n (pc := 1) hx hb dX0_call_1 rfl (lv_at hl 2 rfl) ?_
  obtain ⟨r1, S2, e3, hf⟩ := zB_e hf
  refine zcWi (zEX_ok tt) (As := [.int p1, .int p2]) (pc := 2) C0 hW (kX0_ownerOf l D cA h tt H.size N p1 p2 S r1 S2 e3) (va_cwS 2 hts (zgS gaX mX_44 mX_45 mX_12 mX_46) rfl rfl rfl (by decide +kernel) (zRm_k g (Nat.le_of_ble_eq_true rfl) (Nat.le_of_ble_eq_true rfl))) rfl hl.1 rfl (Nat.le_of_ble_eq_true rfl) dX0_call_2 (fun H locs hW => ?_)
  refine lv_istore (pc := 5) (lv' := [(5, .int r1), (0, .ref (h 0)), (1, .int p1), (2, .int p2), (3, .int p3), (4, .int p4)]) hx hb dX0_call_5 hl (by decide) rfl (fun ls hl => ?_)
  refine lv_iload (pc := 7) hx hb dX0_call_7 (lv_at hl 0 rfl) ?_
  obtain ⟨r4, e6, hf⟩ := zU_e hf
  refine zcSi (As := [.int r1]) (pc := 9) C0 hW (kX0_isKind l H.size r1 r4 e6) (va_cwS 1 hts (zgS gaX mX_10 mX_11 mX_12 mX_7) rfl rfl rfl (by decide +kernel) (zRm_k g (Nat.le_of_ble_eq_true rfl) (Nat.le_of_ble_eq_true rfl))) rfl hl.1 rfl (Nat.le_of_ble_eq_true rfl) dX0_call_9 (fun H locs hW => ?_)
  refine lv_if_eq (pc := 12) (tgt := 22) hx hb dX0_call_12 (by decide) (fun c7 => ?_) (fun c7 => ?_)
  · have hf := zt c7 hf
    refine lv_iconst (pc := 22) (v := 0) hx hb dX0_call_22 (by decide) ?_
    exact zend_i (w := wX cA h) fin hf hW dX0_call_23
  · have hf := zf c7 hf
    refine lv_iload (pc := 15) hx hb dX0_call_15 (lv_at hl 5 rfl) ?_
    refine lv_bipush (pc := 17) (v := 24) hx hb dX0_call_17 (by decide) ?_
    refine lv_icmp_lt (pc := 19) (tgt := 24) hx hb dX0_call_19 (by decide) (fun c8 => ?_) (fun c8 => ?_)
    · have hf := zt c8 hf
      refine xsg_1 (pc := 24) C0 hW mX_43 dX0_call_24 ?_
      refine lv_iload (pc := 27) hx hb dX0_call_27 (lv_at hl 0 rfl) ?_
      refine lv_iconst (pc := 29) (v := 4) hx hb dX0_call_29 (by decide) ?_
      refine lv_imul (pc := 30) hx hb dX0_call_30 ?_
      refine lv_iload_n (pc := 31) hx hb dX0_call_31 rfl (lv_at hl 3 rfl) ?_
      refine lv_iadd (pc := 32) hx hb dX0_call_32 ?_
      obtain ⟨i9, hf⟩ := zn hf
      refine xst_1 (pc := 33) C0 hW i9 dX0_call_33 ?_
      obtain ⟨x10, e_x10, hf⟩ := zL_e hf
      refine ztopi e_x10 ?_
      refine lv_istore (pc := 34) (lv' := [(6, .int x10), (5, .int r1), (0, .ref (h 0)), (1, .int p1), (2, .int p2), (3, .int p3), (4, .int p4)]) hx hb dX0_call_34 hl (by decide) rfl (fun ls hl => ?_)
      refine lv_aload_n (pc := 36) hx hb dX0_call_36 rfl (lv_at hl 2 rfl) ?_
      refine lv_iload (pc := 37) hx hb dX0_call_37 (lv_at hl 0 rfl) ?_
      obtain ⟨S12, e13, hf⟩ := zU_e hf
      refine zcVv (zEX_ok tt) (As := [.int x10]) (pc := 39) C0 hW (kX0_note l D cA h tt H.size x10 S2 S12 e13) (cwV 1 hts (zgV gaX mX_47 mX_48 mX_49 mX_12 mX_50) rfl rfl rfl (by decide +kernel) (zRm_k g (Nat.le_of_ble_eq_true rfl) (Nat.le_of_ble_eq_true rfl))) (va_recv hW.1 hW.2.1 (ci := 0) (q0 := 0) rfl rfl) rfl hl.1 rfl (Nat.le_of_ble_eq_true rfl) dX0_call_39 (fun H locs hW => ?_)
      refine lv_aload_n (pc := 42) hx hb dX0_call_42 rfl (lv_at hl 2 rfl) ?_
      refine lv_iload (pc := 43) hx hb dX0_call_43 (lv_at hl 0 rfl) ?_
      refine xsg_2 (pc := 45) C0 hW mX_9 dX0_call_45 ?_
      refine lv_iload (pc := 48) hx hb dX0_call_48 (lv_at hl 1 rfl) ?_
      obtain ⟨i14, hf⟩ := zn hf
      refine xst_2 (pc := 50) C0 hW i14 dX0_call_50 ?_
      refine lv_iload_n (pc := 51) hx hb dX0_call_51 rfl (lv_at hl 5 rfl) ?_
      refine lv_iload (pc := 52) hx hb dX0_call_52 (lv_at hl 6 rfl) ?_
      refine lv_iconst (pc := 54) (v := 1) hx hb dX0_call_54 (by decide) ?_
      refine lv_iadd (pc := 55) hx hb dX0_call_55 ?_
      obtain ⟨r15, S16, e17, hf⟩ := zB_e hf
      refine zcVi (zEX_ok tt) (As := [.int x10, .int (xs_2 (Int32.toNatClampNeg r1)), .int p3, .int (p4 + 1)]) (pc := 56) C0 hW (hG_run H.size x10 (xs_2 (Int32.toNatClampNeg r1)) p3 (p4 + 1) S12 r15 S16 e17) (cwV 4 hts (zgV gaX mX_51 mX_52 mX_53 mX_12 mX_54) rfl rfl rfl (by decide +kernel) (zRm_up g (Nat.le_of_ble_eq_true rfl))) (va_recv hW.1 hW.2.1 (ci := 0) (q0 := 0) rfl rfl) rfl hl.1 rfl (Nat.le_of_ble_eq_true rfl) dX0_call_56 (fun H locs hW => ?_)
      exact zend_i (w := wX cA h) fin hf hW dX0_call_59
    · have hf := zf c8 hf
      refine lv_iconst (pc := 22) (v := 0) hx hb dX0_call_22 (by decide) ?_
      exact zend_i (w := wX cA h) fin hf hW dX0_call_23

def zGXb (N : Nat) : Nat → (Int32 → Int32 → Int32 → Int32 → zSt → Option (Int32 × zSt)) × (Int32 → Int32 → Int32 → Int32 → zSt → Option (Int32 × zSt))
  | 0 => (fun _ _ _ _ _ => none, fun _ _ _ _ _ => none)
  | n + 1 => (fX0_call_o (zGXb N n) N, fX0_run_o (zGXb N n) N)
def fX0_call (N n : Nat) : (Int32 → Int32 → Int32 → Int32 → zSt → Option (Int32 × zSt)) := (zGXb N n).1
def fX0_run (N n : Nat) : (Int32 → Int32 → Int32 → Int32 → zSt → Option (Int32 × zSt)) := (zGXb N n).2
theorem kGXb (l : Launch) (D : va_G) (cA : Nat → ClassId) (h tt : Nat → Nat) (N : Nat) : ∀ g : Nat, (∀ (sz : Nat) (p1 : Int32) (p2 : Int32) (p3 : Int32) (p4 : Int32) (S : zSt) (r : Int32) (S1 : zSt), (zGXb N g).1 p1 p2 p3 p4 S = some (r, S1) → zMi l yX0_call wX0_call (zRm g) (zEX tt) D (tX cA) (hsX h) [.ref (h 0), .int p1, .int p2, .int p3, .int p4] (wX cA h S) (wX cA h S1) sz r) ∧ (∀ (sz : Nat) (p1 : Int32) (p2 : Int32) (p3 : Int32) (p4 : Int32) (S : zSt) (r : Int32) (S1 : zSt), (zGXb N g).2 p1 p2 p3 p4 S = some (r, S1) → zMi l yX0_run wX0_run (zRm g) (zEX tt) D (tX cA) (hsX h) [.ref (h 0), .int p1, .int p2, .int p3, .int p4] (wX cA h S) (wX cA h S1) sz r) := by
  intro g
  induction g with
  | zero => exact ⟨fun sz p1 p2 p3 p4 S r S1 hf => absurd hf (fun z => nomatch z), fun sz p1 p2 p3 p4 S r S1 hf => absurd hf (fun z => nomatch z)⟩
  | succ g ih =>
    obtain ⟨hG_call, hG_run⟩ := ih
    exact ⟨fun sz p1 p2 p3 p4 S r S1 hf => kX0_call_o l D cA h tt sz N g (zGXb N g) hG_call hG_run p1 p2 p3 p4 S r S1 hf, fun sz p1 p2 p3 p4 S r S1 hf => kX0_run_o l D cA h tt sz N g (zGXb N g) hG_call hG_run p1 p2 p3 p4 S r S1 hf⟩
theorem kX0_call_all (l : Launch) (D : va_G) (cA : Nat → ClassId) (h tt : Nat → Nat) (N g : Nat) : ∀ (sz : Nat) (p1 : Int32) (p2 : Int32) (p3 : Int32) (p4 : Int32) (S : zSt) (r : Int32) (S1 : zSt), fX0_call N g p1 p2 p3 p4 S = some (r, S1) → zMi l yX0_call wX0_call (zRm g) (zEX tt) D (tX cA) (hsX h) [.ref (h 0), .int p1, .int p2, .int p3, .int p4] (wX cA h S) (wX cA h S1) sz r := (kGXb l D cA h tt N g).1
theorem kX0_call (l : Launch) (D : va_G) (cA : Nat → ClassId) (h tt : Nat → Nat) (sz : Nat) (N g : Nat) (p1 : Int32) (p2 : Int32) (p3 : Int32) (p4 : Int32) (S : zSt) (r : Int32) (S1 : zSt) (hf : fX0_call N g p1 p2 p3 p4 S = some (r, S1)) : zMi l yX0_call wX0_call (zRm g) (zEX tt) D (tX cA) (hsX h) [.ref (h 0), .int p1, .int p2, .int p3, .int p4] (wX cA h S) (wX cA h S1) sz r := kX0_call_all l D cA h tt N g sz p1 p2 p3 p4 S r S1 hf
theorem kX0_run_all (l : Launch) (D : va_G) (cA : Nat → ClassId) (h tt : Nat → Nat) (N g : Nat) : ∀ (sz : Nat) (p1 : Int32) (p2 : Int32) (p3 : Int32) (p4 : Int32) (S : zSt) (r : Int32) (S1 : zSt), fX0_run N g p1 p2 p3 p4 S = some (r, S1) → zMi l yX0_run wX0_run (zRm g) (zEX tt) D (tX cA) (hsX h) [.ref (h 0), .int p1, .int p2, .int p3, .int p4] (wX cA h S) (wX cA h S1) sz r := (kGXb l D cA h tt N g).2
theorem kX0_run (l : Launch) (D : va_G) (cA : Nat → ClassId) (h tt : Nat → Nat) (sz : Nat) (N g : Nat) (p1 : Int32) (p2 : Int32) (p3 : Int32) (p4 : Int32) (S : zSt) (r : Int32) (S1 : zSt) (hf : fX0_run N g p1 p2 p3 p4 S = some (r, S1)) : zMi l yX0_run wX0_run (zRm g) (zEX tt) D (tX cA) (hsX h) [.ref (h 0), .int p1, .int p2, .int p3, .int p4] (wX cA h S) (wX cA h S1) sz r := kX0_run_all l D cA h tt N g sz p1 p2 p3 p4 S r S1 hf

def fX0_start (N : Nat) (p1 : Int32) (p2 : Int32) (p3 : Int32) (S : zSt) : Option (Int32 × zSt) :=
  zL (zI S 103 0) fun S1 => zB (fX0_has p1 S1) fun r2 S3 => if r2 = 0 then (some (0, S3)) else (if p2 < 0 then (some (0, S3)) else (if p2 < 4 then (zL (zI S3 104 p1) fun S8 => zB (fX0_kindOf p1 S8) fun r9 S10 => zB (fX0_call N zfuel r9 p2 p3 0 S10) fun r12 S13 => some (r12, S13)) else (some (0, S3))))
abbrev wX0_start : List Cond := Cond.code yX0_start cX0_start 4 (some .int) :: waX
abbrev rmX0_start : Room := { frames := 113, cells := 0, slots := 0, locals := 4626 }
set_option maxHeartbeats 4000000 in
set_option maxRecDepth 100000 in
theorem kX0_start (l : Launch) (D : va_G) (cA : Nat → ClassId) (h tt : Nat → Nat) (sz : Nat) (N : Nat)  (p1 : Int32) (p2 : Int32) (p3 : Int32) (S : zSt) (r : Int32) (S1 : zSt) (hf : fX0_start N p1 p2 p3 S = some (r, S1)) : zMi l yX0_start wX0_start rmX0_start (zEX tt) D (tX cA) (hsX h) [.ref (h 0), .int p1, .int p2, .int p3] (wX cA h S) (wX cA h S1) sz r := by
  refine zEn_i (cc := cX0_start) (maxL := 4) (own := RX0) (by decide) rfl rfl (hmX cA h S) (Nat.le_of_ble_eq_true rfl) ?_
  intro p e s m args below meth c Q H locs C0 hW fin ls hl
  have hl : lv_has ls 4 [(0, .ref (h 0)), (1, .int p1), (2, .int p2), (3, .int p3)] := hl
  have hx := C0.1
  have hb := C0.2.1
  have hown := C0.2.2.2.1
  have hts := C0.2.2.2.2
  unfold fX0_start at hf
  refine lv_aload_n (pc := 0) hx hb dX0_start_0 rfl (lv_at hl 0 rfl) ?_
  refine lv_iconst (pc := 1) (v := 0) hx hb dX0_start_1 (by decide) ?_
  obtain ⟨S1, e_S1, hf⟩ := zL_e hf
  refine xp_103 (pc := 2) C0 hu_0 hW mX_25 e_S1 dX0_start_2 (fun H locs hW => ?_)
  refine lv_aload_n (pc := 5) hx hb dX0_start_5 rfl (lv_at hl 0 rfl) ?_
  refine lv_iload_n (pc := 6) hx hb dX0_start_6 rfl (lv_at hl 1 rfl) ?_
  obtain ⟨r2, S3, e4, hf⟩ := zB_e hf
  refine zcVi (zEX_ok tt) (As := [.int p1]) (pc := 7) C0 hW (kX0_has l D cA h tt H.size p1 S1 r2 S3 e4) (cwV 1 hts (zgV gaX mX_21 mX_22 mX_23 mX_12 mX_15) rfl rfl rfl (by decide +kernel) ⟨Nat.le_of_ble_eq_true rfl, Nat.le_of_ble_eq_true rfl⟩) (va_recv hW.1 hW.2.1 (ci := 0) (q0 := 0) rfl rfl) rfl hl.1 rfl (Nat.le_of_ble_eq_true rfl) dX0_start_7 (fun H locs hW => ?_)
  refine lv_if_eq (pc := 10) (tgt := 22) hx hb dX0_start_10 (by decide) (fun c5 => ?_) (fun c5 => ?_)
  · have hf := zt c5 hf
    refine lv_iconst (pc := 22) (v := 0) hx hb dX0_start_22 (by decide) ?_
    exact zend_i (w := wX cA h) fin hf hW dX0_start_23
  · have hf := zf c5 hf
    refine lv_iload_n (pc := 13) hx hb dX0_start_13 rfl (lv_at hl 2 rfl) ?_
    refine lv_if_lt (pc := 14) (tgt := 22) hx hb dX0_start_14 (by decide) (fun c6 => ?_) (fun c6 => ?_)
    · have hf := zt c6 hf
      refine lv_iconst (pc := 22) (v := 0) hx hb dX0_start_22 (by decide) ?_
      exact zend_i (w := wX cA h) fin hf hW dX0_start_23
    · have hf := zf c6 hf
      refine lv_iload_n (pc := 17) hx hb dX0_start_17 rfl (lv_at hl 2 rfl) ?_
      refine lv_iconst (pc := 18) (v := 4) hx hb dX0_start_18 (by decide) ?_
      refine lv_icmp_lt (pc := 19) (tgt := 24) hx hb dX0_start_19 (by decide) (fun c7 => ?_) (fun c7 => ?_)
      · have hf := zt c7 hf
        refine lv_aload_n (pc := 24) hx hb dX0_start_24 rfl (lv_at hl 0 rfl) ?_
        refine lv_iload_n (pc := 25) hx hb dX0_start_25 rfl (lv_at hl 1 rfl) ?_
        obtain ⟨S8, e_S8, hf⟩ := zL_e hf
        refine xp_104 (pc := 26) C0 hu_0 hW mX_35 e_S8 dX0_start_26 (fun H locs hW => ?_)
        refine lv_aload_n (pc := 29) hx hb dX0_start_29 rfl (lv_at hl 0 rfl) ?_
        refine lv_aload_n (pc := 30) hx hb dX0_start_30 rfl (lv_at hl 0 rfl) ?_
        refine lv_iload_n (pc := 31) hx hb dX0_start_31 rfl (lv_at hl 1 rfl) ?_
        obtain ⟨r9, S10, e11, hf⟩ := zB_e hf
        refine zcVi (zEX_ok tt) (As := [.int p1]) (pc := 32) C0 hW (kX0_kindOf l D cA h tt H.size p1 S8 r9 S10 e11) (cwV 1 hts (zgV gaX mX_36 mX_37 mX_38 mX_12 mX_20) rfl rfl rfl (by decide +kernel) ⟨Nat.le_of_ble_eq_true rfl, Nat.le_of_ble_eq_true rfl⟩) (va_recv hW.1 hW.2.1 (ci := 0) (q0 := 0) rfl rfl) rfl hl.1 rfl (Nat.le_of_ble_eq_true rfl) dX0_start_32 (fun H locs hW => ?_)
        refine lv_iload_n (pc := 35) hx hb dX0_start_35 rfl (lv_at hl 2 rfl) ?_
        refine lv_iload_n (pc := 36) hx hb dX0_start_36 rfl (lv_at hl 3 rfl) ?_
        refine lv_iconst (pc := 37) (v := 0) hx hb dX0_start_37 (by decide) ?_
        obtain ⟨r12, S13, e14, hf⟩ := zB_e hf
        refine zcVi (zEX_ok tt) (As := [.int r9, .int p2, .int p3, .int 0]) (pc := 38) C0 hW (kX0_call l D cA h tt H.size N zfuel r9 p2 p3 0 S10 r12 S13 e14) (cwV 4 hts (zgV gaX mX_39 mX_40 mX_41 mX_12 mX_42) rfl rfl rfl (by decide +kernel) ⟨Nat.le_of_ble_eq_true rfl, Nat.le_of_ble_eq_true rfl⟩) (va_recv hW.1 hW.2.1 (ci := 0) (q0 := 0) rfl rfl) rfl hl.1 rfl (Nat.le_of_ble_eq_true rfl) dX0_start_38 (fun H locs hW => ?_)
        exact zend_i (w := wX cA h) fin hf hW dX0_start_41
      · have hf := zf c7 hf
        refine lv_iconst (pc := 22) (v := 0) hx hb dX0_start_22 (by decide) ?_
        exact zend_i (w := wX cA h) fin hf hW dX0_start_23

def fX1_dropOldest (S : zSt) : Option zSt :=
  zL (zI S 205 39) fun S1 => if ¬ (1 : Int32) < 0 ∧ ¬ (0 : Int32) < 0 ∧ ¬ ((S1.1 205) : Int32) < 0 ∧ Int32.toNatClampNeg 1 + Int32.toNatClampNeg (S1.1 205) ≤ 40 ∧ Int32.toNatClampNeg 0 + Int32.toNatClampNeg (S1.1 205) ≤ 40 then zL (zcA S1 202 202 (Int32.toNatClampNeg 1) (Int32.toNatClampNeg 0) (Int32.toNatClampNeg (S1.1 205))) fun S3 => if ¬ (1 : Int32) < 0 ∧ ¬ (0 : Int32) < 0 ∧ ¬ ((S3.1 205) : Int32) < 0 ∧ Int32.toNatClampNeg 1 + Int32.toNatClampNeg (S3.1 205) ≤ 40 ∧ Int32.toNatClampNeg 0 + Int32.toNatClampNeg (S3.1 205) ≤ 40 then zL (zcA S3 203 203 (Int32.toNatClampNeg 1) (Int32.toNatClampNeg 0) (Int32.toNatClampNeg (S3.1 205))) fun S5 => if ¬ (1 : Int32) < 0 ∧ ¬ (0 : Int32) < 0 ∧ ¬ ((S5.1 205) : Int32) < 0 ∧ Int32.toNatClampNeg 1 + Int32.toNatClampNeg (S5.1 205) ≤ 40 ∧ Int32.toNatClampNeg 0 + Int32.toNatClampNeg (S5.1 205) ≤ 40 then zL (zcA S5 204 204 (Int32.toNatClampNeg 1) (Int32.toNatClampNeg 0) (Int32.toNatClampNeg (S5.1 205))) fun S7 => some S7 else none else none else none
abbrev wX1_dropOldest : List Cond := Cond.code yX1_dropOldest cX1_dropOldest 1 none :: waX
abbrev rmX1_dropOldest : Room := { frames := 1, cells := 0, slots := 0, locals := 60 }
set_option maxHeartbeats 4000000 in
set_option maxRecDepth 100000 in
theorem kX1_dropOldest (l : Launch) (D : va_G) (cA : Nat → ClassId) (h tt : Nat → Nat) (sz : Nat)   (S : zSt) (S1 : zSt) (hf : fX1_dropOldest S = some S1) : zMv l yX1_dropOldest wX1_dropOldest rmX1_dropOldest (zEX tt) D (tX cA) (hsX h) [.ref (h 1)] (wX cA h S) (wX cA h S1) sz := by
  refine zEn_v (cc := cX1_dropOldest) (maxL := 1) (own := RX1) (by decide) rfl rfl (hmX cA h S) (Nat.le_of_ble_eq_true rfl) ?_
  intro p e s m args below meth c Q H locs C0 hW fin ls hl
  have hl : lv_has ls 1 [(0, .ref (h 1))] := hl
  have hx := C0.1
  have hb := C0.2.1
  have hown := C0.2.2.2.1
  have hts := C0.2.2.2.2
  unfold fX1_dropOldest at hf
  refine lv_aload_n (pc := 0) hx hb dX1_dropOldest_0 rfl (lv_at hl 0 rfl) ?_
  refine lv_bipush (pc := 1) (v := 39) hx hb dX1_dropOldest_1 (by decide) ?_
  obtain ⟨S1, e_S1, hf⟩ := zL_e hf
  refine xp_205 (pc := 3) C0 hu_1 hW mX_80 e_S1 dX1_dropOldest_3 (fun H locs hW => ?_)
  refine lv_aload_n (pc := 6) hx hb dX1_dropOldest_6 rfl (lv_at hl 0 rfl) ?_
  refine xg_202 (pc := 7) C0 hu_1 hW mX_57 dX1_dropOldest_7 ?_
  refine lv_iconst (pc := 10) (v := 1) hx hb dX1_dropOldest_10 (by decide) ?_
  refine lv_aload_n (pc := 11) hx hb dX1_dropOldest_11 rfl (lv_at hl 0 rfl) ?_
  refine xg_202 (pc := 12) C0 hu_1 hW mX_57 dX1_dropOldest_12 ?_
  refine lv_iconst (pc := 15) (v := 0) hx hb dX1_dropOldest_15 (by decide) ?_
  refine lv_aload_n (pc := 16) hx hb dX1_dropOldest_16 rfl (lv_at hl 0 rfl) ?_
  refine xg_205 (pc := 17) C0 hu_1 hW mX_80 dX1_dropOldest_17 ?_
  obtain ⟨i2, hf⟩ := zn hf
  obtain ⟨S3, e_S3, hf⟩ := zL_e hf
  refine va_copyi (pc := 20) hx hb (C0.2.2.1.trans hl.1.symm) hown (hts _ mX_86) (hts _ mX_87) (hts _ mX_88) (hts _ mX_89) hW.1 hW.2.1 hW.2.2.1 hW.2.2.2.1 14 14 2 2 rfl rfl rfl rfl rfl i2.1 i2.2.1 i2.2.2.1 i2.2.2.2.1 i2.2.2.2.2 (fun _ _ => rfl) (Nat.le_of_ble_eq_true rfl) (Nat.le_of_ble_eq_true rfl) dX1_dropOldest_20 (fun H locs hP1 hD1 hS1 => ?_)
  have hW : zW (zEX tt) D (tX cA) (wX cA h S3) (aW (hsX h) s.heap.size) s H locs := by rw [e_S3]; exact ⟨hW.1, hP1, hD1, hS1, hW.2.2.2.2⟩
  refine lv_aload_n (pc := 23) hx hb dX1_dropOldest_23 rfl (lv_at hl 0 rfl) ?_
  refine xg_203 (pc := 24) C0 hu_1 hW mX_58 dX1_dropOldest_24 ?_
  refine lv_iconst (pc := 27) (v := 1) hx hb dX1_dropOldest_27 (by decide) ?_
  refine lv_aload_n (pc := 28) hx hb dX1_dropOldest_28 rfl (lv_at hl 0 rfl) ?_
  refine xg_203 (pc := 29) C0 hu_1 hW mX_58 dX1_dropOldest_29 ?_
  refine lv_iconst (pc := 32) (v := 0) hx hb dX1_dropOldest_32 (by decide) ?_
  refine lv_aload_n (pc := 33) hx hb dX1_dropOldest_33 rfl (lv_at hl 0 rfl) ?_
  refine xg_205 (pc := 34) C0 hu_1 hW mX_80 dX1_dropOldest_34 ?_
  obtain ⟨i4, hf⟩ := zn hf
  obtain ⟨S5, e_S5, hf⟩ := zL_e hf
  refine va_copyi (pc := 37) hx hb (C0.2.2.1.trans hl.1.symm) hown (hts _ mX_86) (hts _ mX_87) (hts _ mX_88) (hts _ mX_89) hW.1 hW.2.1 hW.2.2.1 hW.2.2.2.1 15 15 3 3 rfl rfl rfl rfl rfl i4.1 i4.2.1 i4.2.2.1 i4.2.2.2.1 i4.2.2.2.2 (fun _ _ => rfl) (Nat.le_of_ble_eq_true rfl) (Nat.le_of_ble_eq_true rfl) dX1_dropOldest_37 (fun H locs hP1 hD1 hS1 => ?_)
  have hW : zW (zEX tt) D (tX cA) (wX cA h S5) (aW (hsX h) s.heap.size) s H locs := by rw [e_S5]; exact ⟨hW.1, hP1, hD1, hS1, hW.2.2.2.2⟩
  refine lv_aload_n (pc := 40) hx hb dX1_dropOldest_40 rfl (lv_at hl 0 rfl) ?_
  refine xg_204 (pc := 41) C0 hu_1 hW mX_59 dX1_dropOldest_41 ?_
  refine lv_iconst (pc := 44) (v := 1) hx hb dX1_dropOldest_44 (by decide) ?_
  refine lv_aload_n (pc := 45) hx hb dX1_dropOldest_45 rfl (lv_at hl 0 rfl) ?_
  refine xg_204 (pc := 46) C0 hu_1 hW mX_59 dX1_dropOldest_46 ?_
  refine lv_iconst (pc := 49) (v := 0) hx hb dX1_dropOldest_49 (by decide) ?_
  refine lv_aload_n (pc := 50) hx hb dX1_dropOldest_50 rfl (lv_at hl 0 rfl) ?_
  refine xg_205 (pc := 51) C0 hu_1 hW mX_80 dX1_dropOldest_51 ?_
  obtain ⟨i6, hf⟩ := zn hf
  obtain ⟨S7, e_S7, hf⟩ := zL_e hf
  refine va_copyi (pc := 54) hx hb (C0.2.2.1.trans hl.1.symm) hown (hts _ mX_86) (hts _ mX_87) (hts _ mX_88) (hts _ mX_89) hW.1 hW.2.1 hW.2.2.1 hW.2.2.2.1 16 16 4 4 rfl rfl rfl rfl rfl i6.1 i6.2.1 i6.2.2.1 i6.2.2.2.1 i6.2.2.2.2 (fun _ _ => rfl) (Nat.le_of_ble_eq_true rfl) (Nat.le_of_ble_eq_true rfl) dX1_dropOldest_54 (fun H locs hP1 hD1 hS1 => ?_)
  have hW : zW (zEX tt) D (tX cA) (wX cA h S7) (aW (hsX h) s.heap.size) s H locs := by rw [e_S7]; exact ⟨hW.1, hP1, hD1, hS1, hW.2.2.2.2⟩
  exact zend_v (w := wX cA h) fin hf hW dX1_dropOldest_57

def fX1_record_b13  (v1 : Int32) (v2 : Int32) (v3 : Int32) (S : zSt) : Option zSt :=
  if zin (S.1 205) 40 then zL (zA S 202 (Int32.toNatClampNeg (S.1 205)) v1) fun S2 => if zin (S2.1 205) 40 then zL (zA S2 203 (Int32.toNatClampNeg (S2.1 205)) v2) fun S4 => if zin (S4.1 205) 40 then zL (zA S4 204 (Int32.toNatClampNeg (S4.1 205)) v3) fun S6 => zL (zI S6 205 ((S6.1 205) + 1)) fun S7 => zL (zI S7 206 0) fun S8 => some S8 else none else none else none
def fX1_record (p1 : Int32) (p2 : Int32) (p3 : Int32) (S : zSt) : Option zSt :=
  if (S.1 205) < 40 then (fX1_record_b13 p1 p2 p3 S) else (zU (fX1_dropOldest S) fun S11 => fX1_record_b13 p1 p2 p3 S11)
abbrev wX1_record : List Cond := Cond.code yX1_record cX1_record 4 none :: waX
abbrev rmX1_record : Room := { frames := 2, cells := 0, slots := 0, locals := 80 }
set_option maxHeartbeats 4000000 in
set_option maxRecDepth 100000 in
theorem kX1_record (l : Launch) (D : va_G) (cA : Nat → ClassId) (h tt : Nat → Nat) (sz : Nat)  (p1 : Int32) (p2 : Int32) (p3 : Int32) (S : zSt) (S1 : zSt) (hf : fX1_record p1 p2 p3 S = some S1) : zMv l yX1_record wX1_record rmX1_record (zEX tt) D (tX cA) (hsX h) [.ref (h 1), .int p1, .int p2, .int p3] (wX cA h S) (wX cA h S1) sz := by
  refine zEn_v (cc := cX1_record) (maxL := 4) (own := RX1) (by decide) rfl rfl (hmX cA h S) (Nat.le_of_ble_eq_true rfl) ?_
  intro p e s m args below meth c Q H locs C0 hW fin ls hl
  have hl : lv_has ls 4 [(0, .ref (h 1)), (1, .int p1), (2, .int p2), (3, .int p3)] := hl
  have hx := C0.1
  have hb := C0.2.1
  have hown := C0.2.2.2.1
  have hts := C0.2.2.2.2
  have w13 : ∀ (v1 : Int32) (v2 : Int32) (v3 : Int32) (S : zSt) (H : Heap) (locs : List Loc), zW (zEX tt) D (tX cA) (wX cA h S) (aW (hsX h) s.heap.size) s H locs → ∀ ls : Array Slot, lv_has ls 4 [(0, .ref (h 1)), (1, .int v1), (2, .int v2), (3, .int v3)] → fX1_record_b13 v1 v2 v3 S = some S1 → W p l e rmX1_record s m args below meth c H locs 0 0 Q (F0 m 13 ls []) := by
    intro v1 v2 v3 S H locs hW ls hl hf
    unfold fX1_record_b13 at hf
    refine lv_aload_n (pc := 13) hx hb dX1_record_13 rfl (lv_at hl 0 rfl) ?_
    refine xg_202 (pc := 14) C0 hu_1 hW mX_57 dX1_record_14 ?_
    refine lv_aload_n (pc := 17) hx hb dX1_record_17 rfl (lv_at hl 0 rfl) ?_
    refine xg_205 (pc := 18) C0 hu_1 hW mX_80 dX1_record_18 ?_
    refine lv_iload_n (pc := 21) hx hb dX1_record_21 rfl (lv_at hl 1 rfl) ?_
    obtain ⟨i1, hf⟩ := zn hf
    obtain ⟨S2, e_S2, hf⟩ := zL_e hf
    refine xs_s202 (pc := 22) C0 hW i1 e_S2 dX1_record_22 (fun H locs hW => ?_)
    refine lv_aload_n (pc := 23) hx hb dX1_record_23 rfl (lv_at hl 0 rfl) ?_
    refine xg_203 (pc := 24) C0 hu_1 hW mX_58 dX1_record_24 ?_
    refine lv_aload_n (pc := 27) hx hb dX1_record_27 rfl (lv_at hl 0 rfl) ?_
    refine xg_205 (pc := 28) C0 hu_1 hW mX_80 dX1_record_28 ?_
    refine lv_iload_n (pc := 31) hx hb dX1_record_31 rfl (lv_at hl 2 rfl) ?_
    obtain ⟨i3, hf⟩ := zn hf
    obtain ⟨S4, e_S4, hf⟩ := zL_e hf
    refine xs_s203 (pc := 32) C0 hW i3 e_S4 dX1_record_32 (fun H locs hW => ?_)
    refine lv_aload_n (pc := 33) hx hb dX1_record_33 rfl (lv_at hl 0 rfl) ?_
    refine xg_204 (pc := 34) C0 hu_1 hW mX_59 dX1_record_34 ?_
    refine lv_aload_n (pc := 37) hx hb dX1_record_37 rfl (lv_at hl 0 rfl) ?_
    refine xg_205 (pc := 38) C0 hu_1 hW mX_80 dX1_record_38 ?_
    refine lv_iload_n (pc := 41) hx hb dX1_record_41 rfl (lv_at hl 3 rfl) ?_
    obtain ⟨i5, hf⟩ := zn hf
    obtain ⟨S6, e_S6, hf⟩ := zL_e hf
    refine xs_s204 (pc := 42) C0 hW i5 e_S6 dX1_record_42 (fun H locs hW => ?_)
    refine lv_aload_n (pc := 43) hx hb dX1_record_43 rfl (lv_at hl 0 rfl) ?_
    refine lv_dup (pc := 44) hx hb dX1_record_44 rfl ?_
    refine xg_205 (pc := 45) C0 hu_1 hW mX_80 dX1_record_45 ?_
    refine lv_iconst (pc := 48) (v := 1) hx hb dX1_record_48 (by decide) ?_
    refine lv_iadd (pc := 49) hx hb dX1_record_49 ?_
    obtain ⟨S7, e_S7, hf⟩ := zL_e hf
    refine xp_205 (pc := 50) C0 hu_1 hW mX_80 e_S7 dX1_record_50 (fun H locs hW => ?_)
    refine lv_aload_n (pc := 53) hx hb dX1_record_53 rfl (lv_at hl 0 rfl) ?_
    refine lv_iconst (pc := 54) (v := 0) hx hb dX1_record_54 (by decide) ?_
    obtain ⟨S8, e_S8, hf⟩ := zL_e hf
    refine xp_206 (pc := 55) C0 hu_1 hW mX_81 e_S8 dX1_record_55 (fun H locs hW => ?_)
    exact zend_v (w := wX cA h) fin hf hW dX1_record_58
  unfold fX1_record at hf
  refine lv_aload_n (pc := 0) hx hb dX1_record_0 rfl (lv_at hl 0 rfl) ?_
  refine xg_205 (pc := 1) C0 hu_1 hW mX_80 dX1_record_1 ?_
  refine lv_bipush (pc := 4) (v := 40) hx hb dX1_record_4 (by decide) ?_
  refine lv_icmp_lt (pc := 6) (tgt := 13) hx hb dX1_record_6 (by decide) (fun c9 => ?_) (fun c9 => ?_)
  · have hf := zt c9 hf
    exact w13 p1 p2 p3 S H locs hW ls (lv_sub hl [0, 1, 2, 3] rfl) hf
  · have hf := zf c9 hf
    refine lv_aload_n (pc := 9) hx hb dX1_record_9 rfl (lv_at hl 0 rfl) ?_
    obtain ⟨S11, e12, hf⟩ := zU_e hf
    refine zcVv (zEX_ok tt) (As := []) (pc := 10) C0 hW (kX1_dropOldest l D cA h tt H.size S S11 e12) (cwV 0 hts (zgV gaX mX_82 mX_83 mX_84 mX_78 mX_85) rfl rfl rfl (by decide +kernel) ⟨Nat.le_of_ble_eq_true rfl, Nat.le_of_ble_eq_true rfl⟩) (va_recv hW.1 hW.2.1 (ci := 1) (q0 := 1) rfl rfl) rfl hl.1 rfl (Nat.le_of_ble_eq_true rfl) dX1_record_10 (fun H locs hW => ?_)
    exact w13 p1 p2 p3 S11 H locs hW ls (lv_sub hl [0, 1, 2, 3] rfl) hf

def fX7_putValue (p1 : Int32) (p2 : Int32) (S : zSt) : Option zSt :=
  if p1 < 0 then (some S) else (if 32 ≤ p1 then (some S) else (if zin p1 32 then zL (zA S 800 (Int32.toNatClampNeg p1) p2) fun S4 => some S4 else none))
abbrev wX7_putValue : List Cond := Cond.code yX7_putValue cX7_putValue 3 none :: waX
abbrev rmX7_putValue : Room := { frames := 0, cells := 0, slots := 0, locals := 0 }
set_option maxHeartbeats 4000000 in
set_option maxRecDepth 100000 in
theorem kX7_putValue (l : Launch) (D : va_G) (cA : Nat → ClassId) (h tt : Nat → Nat) (sz : Nat)  (p1 : Int32) (p2 : Int32) (S : zSt) (S1 : zSt) (hf : fX7_putValue p1 p2 S = some S1) : zMv l yX7_putValue wX7_putValue rmX7_putValue (zEX tt) D (tX cA) (hsX h) [.ref (h 7), .int p1, .int p2] (wX cA h S) (wX cA h S1) sz := by
  refine zEn_v (cc := cX7_putValue) (maxL := 3) (own := RX7) (by decide) rfl rfl (hmX cA h S) (Nat.le_of_ble_eq_true rfl) ?_
  intro p e s m args below meth c Q H locs C0 hW fin ls hl
  have hl : lv_has ls 3 [(0, .ref (h 7)), (1, .int p1), (2, .int p2)] := hl
  have hx := C0.1
  have hb := C0.2.1
  have hown := C0.2.2.2.1
  have hts := C0.2.2.2.2
  unfold fX7_putValue at hf
  refine lv_iload_n (pc := 0) hx hb dX7_putValue_0 rfl (lv_at hl 1 rfl) ?_
  refine lv_if_lt (pc := 1) (tgt := 20) hx hb dX7_putValue_1 (by decide) (fun c1 => ?_) (fun c1 => ?_)
  · have hf := zt c1 hf
    exact zend_v (w := wX cA h) fin hf hW dX7_putValue_20
  · have hf := zf c1 hf
    refine lv_iload_n (pc := 4) hx hb dX7_putValue_4 rfl (lv_at hl 1 rfl) ?_
    refine lv_aload_n (pc := 5) hx hb dX7_putValue_5 rfl (lv_at hl 0 rfl) ?_
    refine xg_800 (pc := 6) C0 hu_7 hW mX_74 dX7_putValue_6 ?_
    refine xn_800 (pc := 9) C0 hW dX7_putValue_9 ?_
    refine lv_icmp_ge (pc := 10) (tgt := 20) hx hb dX7_putValue_10 (by decide) (fun c2 => ?_) (fun c2 => ?_)
    · have hf := zt c2 hf
      exact zend_v (w := wX cA h) fin hf hW dX7_putValue_20
    · have hf := zf c2 hf
      refine lv_aload_n (pc := 13) hx hb dX7_putValue_13 rfl (lv_at hl 0 rfl) ?_
      refine xg_800 (pc := 14) C0 hu_7 hW mX_74 dX7_putValue_14 ?_
      refine lv_iload_n (pc := 17) hx hb dX7_putValue_17 rfl (lv_at hl 1 rfl) ?_
      refine lv_iload_n (pc := 18) hx hb dX7_putValue_18 rfl (lv_at hl 2 rfl) ?_
      obtain ⟨i3, hf⟩ := zn hf
      obtain ⟨S4, e_S4, hf⟩ := zL_e hf
      refine xs_s800 (pc := 19) C0 hW i3 e_S4 dX7_putValue_19 (fun H locs hW => ?_)
      exact zend_v (w := wX cA h) fin hf hW dX7_putValue_20

def fX8_putValue (p1 : Int32) (p2 : Int32) (S : zSt) : Option zSt :=
  if p1 < 0 then (some S) else (if 216 ≤ p1 then (some S) else (if zin p1 216 then zL (zA S 901 (Int32.toNatClampNeg p1) p2) fun S4 => some S4 else none))
abbrev wX8_putValue : List Cond := Cond.code yX8_putValue cX8_putValue 3 none :: waX
abbrev rmX8_putValue : Room := { frames := 0, cells := 0, slots := 0, locals := 0 }
set_option maxHeartbeats 4000000 in
set_option maxRecDepth 100000 in
theorem kX8_putValue (l : Launch) (D : va_G) (cA : Nat → ClassId) (h tt : Nat → Nat) (sz : Nat)  (p1 : Int32) (p2 : Int32) (S : zSt) (S1 : zSt) (hf : fX8_putValue p1 p2 S = some S1) : zMv l yX8_putValue wX8_putValue rmX8_putValue (zEX tt) D (tX cA) (hsX h) [.ref (h 8), .int p1, .int p2] (wX cA h S) (wX cA h S1) sz := by
  refine zEn_v (cc := cX8_putValue) (maxL := 3) (own := RX8) (by decide) rfl rfl (hmX cA h S) (Nat.le_of_ble_eq_true rfl) ?_
  intro p e s m args below meth c Q H locs C0 hW fin ls hl
  have hl : lv_has ls 3 [(0, .ref (h 8)), (1, .int p1), (2, .int p2)] := hl
  have hx := C0.1
  have hb := C0.2.1
  have hown := C0.2.2.2.1
  have hts := C0.2.2.2.2
  unfold fX8_putValue at hf
  refine lv_iload_n (pc := 0) hx hb dX8_putValue_0 rfl (lv_at hl 1 rfl) ?_
  refine lv_if_lt (pc := 1) (tgt := 18) hx hb dX8_putValue_1 (by decide) (fun c1 => ?_) (fun c1 => ?_)
  · have hf := zt c1 hf
    exact zend_v (w := wX cA h) fin hf hW dX8_putValue_18
  · have hf := zf c1 hf
    refine lv_iload_n (pc := 4) hx hb dX8_putValue_4 rfl (lv_at hl 1 rfl) ?_
    refine lv_sipush (pc := 5) (v := 216) hx hb dX8_putValue_5 (by decide) ?_
    refine lv_icmp_ge (pc := 8) (tgt := 18) hx hb dX8_putValue_8 (by decide) (fun c2 => ?_) (fun c2 => ?_)
    · have hf := zt c2 hf
      exact zend_v (w := wX cA h) fin hf hW dX8_putValue_18
    · have hf := zf c2 hf
      refine lv_aload_n (pc := 11) hx hb dX8_putValue_11 rfl (lv_at hl 0 rfl) ?_
      refine xg_901 (pc := 12) C0 hu_8 hW mX_68 dX8_putValue_12 ?_
      refine lv_iload_n (pc := 15) hx hb dX8_putValue_15 rfl (lv_at hl 1 rfl) ?_
      refine lv_iload_n (pc := 16) hx hb dX8_putValue_16 rfl (lv_at hl 2 rfl) ?_
      obtain ⟨i3, hf⟩ := zn hf
      obtain ⟨S4, e_S4, hf⟩ := zL_e hf
      refine xs_s901 (pc := 17) C0 hW i3 e_S4 dX8_putValue_17 (fun H locs hW => ?_)
      exact zend_v (w := wX cA h) fin hf hW dX8_putValue_18

def fX1_write (p1 : Int32) (p2 : Int32) (S : zSt) : Option zSt :=
  if 216 ≤ p1 then (zU (fX7_putValue (p1 - 216) p2 S) fun S3 => some S3) else (zU (fX8_putValue p1 p2 S) fun S6 => some S6)
abbrev wX1_write : List Cond := Cond.code yX1_write cX1_write 3 none :: waX
abbrev rmX1_write : Room := { frames := 1, cells := 0, slots := 0, locals := 22 }
set_option maxHeartbeats 4000000 in
set_option maxRecDepth 100000 in
theorem kX1_write (l : Launch) (D : va_G) (cA : Nat → ClassId) (h tt : Nat → Nat) (sz : Nat)  (p1 : Int32) (p2 : Int32) (S : zSt) (S1 : zSt) (hf : fX1_write p1 p2 S = some S1) : zMv l yX1_write wX1_write rmX1_write (zEX tt) D (tX cA) (hsX h) [.ref (h 1), .int p1, .int p2] (wX cA h S) (wX cA h S1) sz := by
  refine zEn_v (cc := cX1_write) (maxL := 3) (own := RX1) (by decide) rfl rfl (hmX cA h S) (Nat.le_of_ble_eq_true rfl) ?_
  intro p e s m args below meth c Q H locs C0 hW fin ls hl
  have hl : lv_has ls 3 [(0, .ref (h 1)), (1, .int p1), (2, .int p2)] := hl
  have hx := C0.1
  have hb := C0.2.1
  have hown := C0.2.2.2.1
  have hts := C0.2.2.2.2
  unfold fX1_write at hf
  refine lv_iload_n (pc := 0) hx hb dX1_write_0 rfl (lv_at hl 1 rfl) ?_
  refine lv_sipush (pc := 1) (v := 216) hx hb dX1_write_1 (by decide) ?_
  refine lv_icmp_ge (pc := 4) (tgt := 19) hx hb dX1_write_4 (by decide) (fun c1 => ?_) (fun c1 => ?_)
  · have hf := zt c1 hf
    refine lv_aload_n (pc := 19) hx hb dX1_write_19 rfl (lv_at hl 0 rfl) ?_
    refine xg_201 (pc := 20) C0 hu_1 hW mX_61 dX1_write_20 ?_
    refine lv_iload_n (pc := 23) hx hb dX1_write_23 rfl (lv_at hl 1 rfl) ?_
    refine lv_sipush (pc := 24) (v := 216) hx hb dX1_write_24 (by decide) ?_
    refine lv_isub (pc := 27) hx hb dX1_write_27 ?_
    refine lv_iload_n (pc := 28) hx hb dX1_write_28 rfl (lv_at hl 2 rfl) ?_
    obtain ⟨S3, e4, hf⟩ := zU_e hf
    refine zcVv (zEX_ok tt) (As := [.int (p1 - 216), .int p2]) (pc := 29) C0 hW (kX7_putValue l D cA h tt H.size (p1 - 216) p2 S S3 e4) (cwV 2 hts (zgV gaX mX_98 mX_99 mX_100 mX_72 mX_101) rfl rfl rfl (by decide +kernel) ⟨Nat.le_of_ble_eq_true rfl, Nat.le_of_ble_eq_true rfl⟩) (va_recv hW.1 hW.2.1 (ci := 7) (q0 := 7) rfl rfl) rfl hl.1 rfl (Nat.le_of_ble_eq_true rfl) dX1_write_29 (fun H locs hW => ?_)
    exact zend_v (w := wX cA h) fin hf hW dX1_write_32
  · have hf := zf c1 hf
    refine lv_aload_n (pc := 7) hx hb dX1_write_7 rfl (lv_at hl 0 rfl) ?_
    refine xg_200 (pc := 8) C0 hu_1 hW mX_60 dX1_write_8 ?_
    refine lv_iload_n (pc := 11) hx hb dX1_write_11 rfl (lv_at hl 1 rfl) ?_
    refine lv_iload_n (pc := 12) hx hb dX1_write_12 rfl (lv_at hl 2 rfl) ?_
    obtain ⟨S6, e7, hf⟩ := zU_e hf
    refine zcVv (zEX_ok tt) (As := [.int p1, .int p2]) (pc := 13) C0 hW (kX8_putValue l D cA h tt H.size p1 p2 S S6 e7) (cwV 2 hts (zgV gaX mX_94 mX_95 mX_96 mX_66 mX_97) rfl rfl rfl (by decide +kernel) ⟨Nat.le_of_ble_eq_true rfl, Nat.le_of_ble_eq_true rfl⟩) (va_recv hW.1 hW.2.1 (ci := 8) (q0 := 8) rfl rfl) rfl hl.1 rfl (Nat.le_of_ble_eq_true rfl) dX1_write_13 (fun H locs hW => ?_)
    refine lv_goto (pc := 16) (tgt := 32) hx hb dX1_write_16 (by decide) ?_
    exact zend_v (w := wX cA h) fin hf hW dX1_write_32

def fX7_valueAt (p1 : Int32) (S : zSt) : Option (Int32 × zSt) :=
  if p1 < 0 then (some (0, S)) else (if 32 ≤ p1 then (some (0, S)) else (if zin p1 32 then some ((S.2.1 800 (Int32.toNatClampNeg p1)), S) else none))
abbrev wX7_valueAt : List Cond := Cond.code yX7_valueAt cX7_valueAt 2 (some .int) :: waX
abbrev rmX7_valueAt : Room := { frames := 0, cells := 0, slots := 0, locals := 0 }
set_option maxHeartbeats 4000000 in
set_option maxRecDepth 100000 in
theorem kX7_valueAt (l : Launch) (D : va_G) (cA : Nat → ClassId) (h tt : Nat → Nat) (sz : Nat)  (p1 : Int32) (S : zSt) (r : Int32) (S1 : zSt) (hf : fX7_valueAt p1 S = some (r, S1)) : zMi l yX7_valueAt wX7_valueAt rmX7_valueAt (zEX tt) D (tX cA) (hsX h) [.ref (h 7), .int p1] (wX cA h S) (wX cA h S1) sz r := by
  refine zEn_i (cc := cX7_valueAt) (maxL := 2) (own := RX7) (by decide) rfl rfl (hmX cA h S) (Nat.le_of_ble_eq_true rfl) ?_
  intro p e s m args below meth c Q H locs C0 hW fin ls hl
  have hl : lv_has ls 2 [(0, .ref (h 7)), (1, .int p1)] := hl
  have hx := C0.1
  have hb := C0.2.1
  have hown := C0.2.2.2.1
  have hts := C0.2.2.2.2
  unfold fX7_valueAt at hf
  refine lv_iload_n (pc := 0) hx hb dX7_valueAt_0 rfl (lv_at hl 1 rfl) ?_
  refine lv_if_lt (pc := 1) (tgt := 22) hx hb dX7_valueAt_1 (by decide) (fun c1 => ?_) (fun c1 => ?_)
  · have hf := zt c1 hf
    refine lv_iconst (pc := 22) (v := 0) hx hb dX7_valueAt_22 (by decide) ?_
    exact zend_i (w := wX cA h) fin hf hW dX7_valueAt_23
  · have hf := zf c1 hf
    refine lv_iload_n (pc := 4) hx hb dX7_valueAt_4 rfl (lv_at hl 1 rfl) ?_
    refine lv_aload_n (pc := 5) hx hb dX7_valueAt_5 rfl (lv_at hl 0 rfl) ?_
    refine xg_800 (pc := 6) C0 hu_7 hW mX_74 dX7_valueAt_6 ?_
    refine xn_800 (pc := 9) C0 hW dX7_valueAt_9 ?_
    refine lv_icmp_ge (pc := 10) (tgt := 22) hx hb dX7_valueAt_10 (by decide) (fun c2 => ?_) (fun c2 => ?_)
    · have hf := zt c2 hf
      refine lv_iconst (pc := 22) (v := 0) hx hb dX7_valueAt_22 (by decide) ?_
      exact zend_i (w := wX cA h) fin hf hW dX7_valueAt_23
    · have hf := zf c2 hf
      refine lv_aload_n (pc := 13) hx hb dX7_valueAt_13 rfl (lv_at hl 0 rfl) ?_
      refine xg_800 (pc := 14) C0 hu_7 hW mX_74 dX7_valueAt_14 ?_
      refine lv_iload_n (pc := 17) hx hb dX7_valueAt_17 rfl (lv_at hl 1 rfl) ?_
      obtain ⟨i3, hf⟩ := zn hf
      refine xl_800 (pc := 18) C0 hW i3 dX7_valueAt_18 ?_
      refine lv_goto (pc := 19) (tgt := 23) hx hb dX7_valueAt_19 (by decide) ?_
      exact zend_i (w := wX cA h) fin hf hW dX7_valueAt_23

def fX8_valueAt (p1 : Int32) (S : zSt) : Option (Int32 × zSt) :=
  if p1 < 0 then (some (0, S)) else (if 216 ≤ p1 then (some (0, S)) else (if zin p1 216 then some ((S.2.1 901 (Int32.toNatClampNeg p1)), S) else none))
abbrev wX8_valueAt : List Cond := Cond.code yX8_valueAt cX8_valueAt 2 (some .int) :: waX
abbrev rmX8_valueAt : Room := { frames := 0, cells := 0, slots := 0, locals := 0 }
set_option maxHeartbeats 4000000 in
set_option maxRecDepth 100000 in
theorem kX8_valueAt (l : Launch) (D : va_G) (cA : Nat → ClassId) (h tt : Nat → Nat) (sz : Nat)  (p1 : Int32) (S : zSt) (r : Int32) (S1 : zSt) (hf : fX8_valueAt p1 S = some (r, S1)) : zMi l yX8_valueAt wX8_valueAt rmX8_valueAt (zEX tt) D (tX cA) (hsX h) [.ref (h 8), .int p1] (wX cA h S) (wX cA h S1) sz r := by
  refine zEn_i (cc := cX8_valueAt) (maxL := 2) (own := RX8) (by decide) rfl rfl (hmX cA h S) (Nat.le_of_ble_eq_true rfl) ?_
  intro p e s m args below meth c Q H locs C0 hW fin ls hl
  have hl : lv_has ls 2 [(0, .ref (h 8)), (1, .int p1)] := hl
  have hx := C0.1
  have hb := C0.2.1
  have hown := C0.2.2.2.1
  have hts := C0.2.2.2.2
  unfold fX8_valueAt at hf
  refine lv_iload_n (pc := 0) hx hb dX8_valueAt_0 rfl (lv_at hl 1 rfl) ?_
  refine lv_if_lt (pc := 1) (tgt := 20) hx hb dX8_valueAt_1 (by decide) (fun c1 => ?_) (fun c1 => ?_)
  · have hf := zt c1 hf
    refine lv_iconst (pc := 20) (v := 0) hx hb dX8_valueAt_20 (by decide) ?_
    exact zend_i (w := wX cA h) fin hf hW dX8_valueAt_21
  · have hf := zf c1 hf
    refine lv_iload_n (pc := 4) hx hb dX8_valueAt_4 rfl (lv_at hl 1 rfl) ?_
    refine lv_sipush (pc := 5) (v := 216) hx hb dX8_valueAt_5 (by decide) ?_
    refine lv_icmp_ge (pc := 8) (tgt := 20) hx hb dX8_valueAt_8 (by decide) (fun c2 => ?_) (fun c2 => ?_)
    · have hf := zt c2 hf
      refine lv_iconst (pc := 20) (v := 0) hx hb dX8_valueAt_20 (by decide) ?_
      exact zend_i (w := wX cA h) fin hf hW dX8_valueAt_21
    · have hf := zf c2 hf
      refine lv_aload_n (pc := 11) hx hb dX8_valueAt_11 rfl (lv_at hl 0 rfl) ?_
      refine xg_901 (pc := 12) C0 hu_8 hW mX_68 dX8_valueAt_12 ?_
      refine lv_iload_n (pc := 15) hx hb dX8_valueAt_15 rfl (lv_at hl 1 rfl) ?_
      obtain ⟨i3, hf⟩ := zn hf
      refine xl_901 (pc := 16) C0 hW i3 dX8_valueAt_16 ?_
      refine lv_goto (pc := 17) (tgt := 21) hx hb dX8_valueAt_17 (by decide) ?_
      exact zend_i (w := wX cA h) fin hf hW dX8_valueAt_21

def fX1_make_b30  (v1 : Int32) (v2 : Int32) (u0 : Int32) (S : zSt) : Option (Int32 × zSt) :=
  if u0 = v2 then (some (u0, S)) else (zU (fX1_record v1 u0 v2 S) fun S3 => zU (fX1_write v1 v2 S3) fun S6 => some (u0, S6))
def fX1_make (p1 : Int32) (p2 : Int32) (S : zSt) : Option (Int32 × zSt) :=
  if 216 ≤ p1 then (zB (fX7_valueAt (p1 - 216) S) fun r9 S10 => fX1_make_b30 p1 p2 r9 S10) else (zB (fX8_valueAt p1 S) fun r12 S13 => fX1_make_b30 p1 p2 r12 S13)
abbrev wX1_make : List Cond := Cond.code yX1_make cX1_make 4 (some .int) :: waX
abbrev rmX1_make : Room := { frames := 3, cells := 0, slots := 0, locals := 103 }
set_option maxHeartbeats 4000000 in
set_option maxRecDepth 100000 in
theorem kX1_make (l : Launch) (D : va_G) (cA : Nat → ClassId) (h tt : Nat → Nat) (sz : Nat)  (p1 : Int32) (p2 : Int32) (S : zSt) (r : Int32) (S1 : zSt) (hf : fX1_make p1 p2 S = some (r, S1)) : zMi l yX1_make wX1_make rmX1_make (zEX tt) D (tX cA) (hsX h) [.ref (h 1), .int p1, .int p2] (wX cA h S) (wX cA h S1) sz r := by
  refine zEn_i (cc := cX1_make) (maxL := 4) (own := RX1) (by decide) rfl rfl (hmX cA h S) (Nat.le_of_ble_eq_true rfl) ?_
  intro p e s m args below meth c Q H locs C0 hW fin ls hl
  have hl : lv_has ls 4 [(0, .ref (h 1)), (1, .int p1), (2, .int p2)] := hl
  have hx := C0.1
  have hb := C0.2.1
  have hown := C0.2.2.2.1
  have hts := C0.2.2.2.2
  have w30 : ∀ (v1 : Int32) (v2 : Int32) (u0 : Int32) (S : zSt) (H : Heap) (locs : List Loc), zW (zEX tt) D (tX cA) (wX cA h S) (aW (hsX h) s.heap.size) s H locs → ∀ ls : Array Slot, lv_has ls 4 [(0, .ref (h 1)), (1, .int v1), (2, .int v2)] → fX1_make_b30 v1 v2 u0 S = some (r, S1) → W p l e rmX1_make s m args below meth c H locs 0 0 Q (F0 m 30 ls [.int u0]) := by
    intro v1 v2 u0 S H locs hW ls hl hf
    unfold fX1_make_b30 at hf
    refine lv_istore_n (pc := 30) (lv' := [(3, .int u0), (0, .ref (h 1)), (1, .int v1), (2, .int v2)]) hx hb dX1_make_30 rfl hl (by decide) rfl (fun ls hl => ?_)
    refine lv_iload_n (pc := 31) hx hb dX1_make_31 rfl (lv_at hl 0 rfl) ?_
    refine lv_iload_n (pc := 32) hx hb dX1_make_32 rfl (lv_at hl 3 rfl) ?_
    refine lv_icmp_eq (pc := 33) (tgt := 49) hx hb dX1_make_33 (by decide) (fun c1 => ?_) (fun c1 => ?_)
    · have hf := zt c1 hf
      refine lv_iload_n (pc := 49) hx hb dX1_make_49 rfl (lv_at hl 0 rfl) ?_
      exact zend_i (w := wX cA h) fin hf hW dX1_make_50
    · have hf := zf c1 hf
      refine lv_aload_n (pc := 36) hx hb dX1_make_36 rfl (lv_at hl 1 rfl) ?_
      refine lv_iload_n (pc := 37) hx hb dX1_make_37 rfl (lv_at hl 2 rfl) ?_
      refine lv_iload_n (pc := 38) hx hb dX1_make_38 rfl (lv_at hl 0 rfl) ?_
      refine lv_iload_n (pc := 39) hx hb dX1_make_39 rfl (lv_at hl 3 rfl) ?_
      obtain ⟨S3, e4, hf⟩ := zU_e hf
      refine zcVv (zEX_ok tt) (As := [.int v1, .int u0, .int v2]) (pc := 40) C0 hW (kX1_record l D cA h tt H.size v1 u0 v2 S S3 e4) (cwV 3 hts (zgV gaX mX_75 mX_76 mX_77 mX_78 mX_79) rfl rfl rfl (by decide +kernel) ⟨Nat.le_of_ble_eq_true rfl, Nat.le_of_ble_eq_true rfl⟩) (va_recv hW.1 hW.2.1 (ci := 1) (q0 := 1) rfl rfl) rfl hl.1 rfl (Nat.le_of_ble_eq_true rfl) dX1_make_40 (fun H locs hW => ?_)
      refine lv_aload_n (pc := 43) hx hb dX1_make_43 rfl (lv_at hl 1 rfl) ?_
      refine lv_iload_n (pc := 44) hx hb dX1_make_44 rfl (lv_at hl 2 rfl) ?_
      refine lv_iload_n (pc := 45) hx hb dX1_make_45 rfl (lv_at hl 3 rfl) ?_
      obtain ⟨S6, e7, hf⟩ := zU_e hf
      refine zcVv (zEX_ok tt) (As := [.int v1, .int v2]) (pc := 46) C0 hW (kX1_write l D cA h tt H.size v1 v2 S3 S6 e7) (cwV 2 hts (zgV gaX mX_90 mX_91 mX_92 mX_78 mX_93) rfl rfl rfl (by decide +kernel) ⟨Nat.le_of_ble_eq_true rfl, Nat.le_of_ble_eq_true rfl⟩) (va_recv hW.1 hW.2.1 (ci := 1) (q0 := 1) rfl rfl) rfl hl.1 rfl (Nat.le_of_ble_eq_true rfl) dX1_make_46 (fun H locs hW => ?_)
      refine lv_iload_n (pc := 49) hx hb dX1_make_49 rfl (lv_at hl 0 rfl) ?_
      exact zend_i (w := wX cA h) fin hf hW dX1_make_50
  unfold fX1_make at hf
  refine lv_iload_n (pc := 0) hx hb dX1_make_0 rfl (lv_at hl 1 rfl) ?_
  refine lv_sipush (pc := 1) (v := 216) hx hb dX1_make_1 (by decide) ?_
  refine lv_icmp_ge (pc := 4) (tgt := 18) hx hb dX1_make_4 (by decide) (fun c8 => ?_) (fun c8 => ?_)
  · have hf := zt c8 hf
    refine lv_aload_n (pc := 18) hx hb dX1_make_18 rfl (lv_at hl 0 rfl) ?_
    refine xg_201 (pc := 19) C0 hu_1 hW mX_61 dX1_make_19 ?_
    refine lv_iload_n (pc := 22) hx hb dX1_make_22 rfl (lv_at hl 1 rfl) ?_
    refine lv_sipush (pc := 23) (v := 216) hx hb dX1_make_23 (by decide) ?_
    refine lv_isub (pc := 26) hx hb dX1_make_26 ?_
    obtain ⟨r9, S10, e11, hf⟩ := zB_e hf
    refine zcVi (zEX_ok tt) (As := [.int (p1 - 216)]) (pc := 27) C0 hW (kX7_valueAt l D cA h tt H.size (p1 - 216) S r9 S10 e11) (cwV 1 hts (zgV gaX mX_69 mX_70 mX_71 mX_72 mX_73) rfl rfl rfl (by decide +kernel) ⟨Nat.le_of_ble_eq_true rfl, Nat.le_of_ble_eq_true rfl⟩) (va_recv hW.1 hW.2.1 (ci := 7) (q0 := 7) rfl rfl) rfl hl.1 rfl (Nat.le_of_ble_eq_true rfl) dX1_make_27 (fun H locs hW => ?_)
    exact w30 p1 p2 r9 S10 H locs hW ls (lv_sub hl [0, 1, 2] rfl) hf
  · have hf := zf c8 hf
    refine lv_aload_n (pc := 7) hx hb dX1_make_7 rfl (lv_at hl 0 rfl) ?_
    refine xg_200 (pc := 8) C0 hu_1 hW mX_60 dX1_make_8 ?_
    refine lv_iload_n (pc := 11) hx hb dX1_make_11 rfl (lv_at hl 1 rfl) ?_
    obtain ⟨r12, S13, e14, hf⟩ := zB_e hf
    refine zcVi (zEX_ok tt) (As := [.int p1]) (pc := 12) C0 hW (kX8_valueAt l D cA h tt H.size p1 S r12 S13 e14) (cwV 1 hts (zgV gaX mX_63 mX_64 mX_65 mX_66 mX_67) rfl rfl rfl (by decide +kernel) ⟨Nat.le_of_ble_eq_true rfl, Nat.le_of_ble_eq_true rfl⟩) (va_recv hW.1 hW.2.1 (ci := 8) (q0 := 8) rfl rfl) rfl hl.1 rfl (Nat.le_of_ble_eq_true rfl) dX1_make_12 (fun H locs hW => ?_)
    refine lv_goto (pc := 15) (tgt := 30) hx hb dX1_make_15 (by decide) ?_
    exact w30 p1 p2 r12 S13 H locs hW ls (lv_sub hl [0, 1, 2] rfl) hf

def fX1_takeBack (S : zSt) : Option (Int32 × zSt) :=
  if 0 < (S.1 205) then (zL (zI S 205 ((S.1 205) - 1)) fun S2 => zL (zI S2 206 ((S2.1 206) + 1)) fun S3 => if zin (S3.1 205) 40 then if zin (S3.1 205) 40 then zU (fX1_write (S3.2.1 202 (Int32.toNatClampNeg (S3.1 205))) (S3.2.1 203 (Int32.toNatClampNeg (S3.1 205))) S3) fun S7 => some (1, S7) else none else none) else (some (0, S))
abbrev wX1_takeBack : List Cond := Cond.code yX1_takeBack cX1_takeBack 1 (some .boolean) :: waX
abbrev rmX1_takeBack : Room := { frames := 2, cells := 0, slots := 0, locals := 44 }
set_option maxHeartbeats 4000000 in
set_option maxRecDepth 100000 in
theorem kX1_takeBack (l : Launch) (D : va_G) (cA : Nat → ClassId) (h tt : Nat → Nat) (sz : Nat)   (S : zSt) (r : Int32) (S1 : zSt) (hf : fX1_takeBack S = some (r, S1)) : zMi l yX1_takeBack wX1_takeBack rmX1_takeBack (zEX tt) D (tX cA) (hsX h) [.ref (h 1)] (wX cA h S) (wX cA h S1) sz r := by
  refine zEn_z (cc := cX1_takeBack) (maxL := 1) (own := RX1) (by decide) rfl rfl (hmX cA h S) (Nat.le_of_ble_eq_true rfl) ?_
  intro p e s m args below meth c Q H locs C0 hW fin ls hl
  have hl : lv_has ls 1 [(0, .ref (h 1))] := hl
  have hx := C0.1
  have hb := C0.2.1
  have hown := C0.2.2.2.1
  have hts := C0.2.2.2.2
  unfold fX1_takeBack at hf
  refine lv_aload_n (pc := 0) hx hb dX1_takeBack_0 rfl (lv_at hl 0 rfl) ?_
  refine xg_205 (pc := 1) C0 hu_1 hW mX_80 dX1_takeBack_1 ?_
  refine lv_if_gt (pc := 4) (tgt := 9) hx hb dX1_takeBack_4 (by decide) (fun c1 => ?_) (fun c1 => ?_)
  · have hf := zt c1 hf
    refine lv_aload_n (pc := 9) hx hb dX1_takeBack_9 rfl (lv_at hl 0 rfl) ?_
    refine lv_dup (pc := 10) hx hb dX1_takeBack_10 rfl ?_
    refine xg_205 (pc := 11) C0 hu_1 hW mX_80 dX1_takeBack_11 ?_
    refine lv_iconst (pc := 14) (v := 1) hx hb dX1_takeBack_14 (by decide) ?_
    refine lv_isub (pc := 15) hx hb dX1_takeBack_15 ?_
    obtain ⟨S2, e_S2, hf⟩ := zL_e hf
    refine xp_205 (pc := 16) C0 hu_1 hW mX_80 e_S2 dX1_takeBack_16 (fun H locs hW => ?_)
    refine lv_aload_n (pc := 19) hx hb dX1_takeBack_19 rfl (lv_at hl 0 rfl) ?_
    refine lv_dup (pc := 20) hx hb dX1_takeBack_20 rfl ?_
    refine xg_206 (pc := 21) C0 hu_1 hW mX_81 dX1_takeBack_21 ?_
    refine lv_iconst (pc := 24) (v := 1) hx hb dX1_takeBack_24 (by decide) ?_
    refine lv_iadd (pc := 25) hx hb dX1_takeBack_25 ?_
    obtain ⟨S3, e_S3, hf⟩ := zL_e hf
    refine xp_206 (pc := 26) C0 hu_1 hW mX_81 e_S3 dX1_takeBack_26 (fun H locs hW => ?_)
    refine lv_aload_n (pc := 29) hx hb dX1_takeBack_29 rfl (lv_at hl 0 rfl) ?_
    refine lv_aload_n (pc := 30) hx hb dX1_takeBack_30 rfl (lv_at hl 0 rfl) ?_
    refine xg_202 (pc := 31) C0 hu_1 hW mX_57 dX1_takeBack_31 ?_
    refine lv_aload_n (pc := 34) hx hb dX1_takeBack_34 rfl (lv_at hl 0 rfl) ?_
    refine xg_205 (pc := 35) C0 hu_1 hW mX_80 dX1_takeBack_35 ?_
    obtain ⟨i4, hf⟩ := zn hf
    refine xl_202 (pc := 38) C0 hW i4 dX1_takeBack_38 ?_
    refine lv_aload_n (pc := 39) hx hb dX1_takeBack_39 rfl (lv_at hl 0 rfl) ?_
    refine xg_203 (pc := 40) C0 hu_1 hW mX_58 dX1_takeBack_40 ?_
    refine lv_aload_n (pc := 43) hx hb dX1_takeBack_43 rfl (lv_at hl 0 rfl) ?_
    refine xg_205 (pc := 44) C0 hu_1 hW mX_80 dX1_takeBack_44 ?_
    obtain ⟨i5, hf⟩ := zn hf
    refine xl_203 (pc := 47) C0 hW i5 dX1_takeBack_47 ?_
    obtain ⟨S7, e8, hf⟩ := zU_e hf
    refine zcVv (zEX_ok tt) (As := [.int (S3.2.1 202 (Int32.toNatClampNeg (S3.1 205))), .int (S3.2.1 203 (Int32.toNatClampNeg (S3.1 205)))]) (pc := 48) C0 hW (kX1_write l D cA h tt H.size (S3.2.1 202 (Int32.toNatClampNeg (S3.1 205))) (S3.2.1 203 (Int32.toNatClampNeg (S3.1 205))) S3 S7 e8) (cwV 2 hts (zgV gaX mX_90 mX_91 mX_92 mX_78 mX_93) rfl rfl rfl (by decide +kernel) ⟨Nat.le_of_ble_eq_true rfl, Nat.le_of_ble_eq_true rfl⟩) (va_recv hW.1 hW.2.1 (ci := 1) (q0 := 1) rfl rfl) rfl hl.1 rfl (Nat.le_of_ble_eq_true rfl) dX1_takeBack_48 (fun H locs hW => ?_)
    refine lv_iconst (pc := 51) (v := 1) hx hb dX1_takeBack_51 (by decide) ?_
    exact zend_z (w := wX cA h) fin hf (by decide) hW dX1_takeBack_52
  · have hf := zf c1 hf
    refine lv_iconst (pc := 7) (v := 0) hx hb dX1_takeBack_7 (by decide) ?_
    exact zend_z (w := wX cA h) fin hf (by decide) hW dX1_takeBack_8

def fX1_makeAgain (S : zSt) : Option (Int32 × zSt) :=
  if (S.1 206) ≤ 0 then (some (0, S)) else (if (S.1 205) < 40 then (if zin (S.1 205) 40 then if zin (S.1 205) 40 then zU (fX1_write (S.2.1 202 (Int32.toNatClampNeg (S.1 205))) (S.2.1 204 (Int32.toNatClampNeg (S.1 205))) S) fun S6 => zL (zI S6 205 ((S6.1 205) + 1)) fun S8 => zL (zI S8 206 ((S8.1 206) - 1)) fun S9 => some (1, S9) else none else none) else (some (0, S)))
abbrev wX1_makeAgain : List Cond := Cond.code yX1_makeAgain cX1_makeAgain 1 (some .boolean) :: waX
abbrev rmX1_makeAgain : Room := { frames := 2, cells := 0, slots := 0, locals := 44 }
set_option maxHeartbeats 4000000 in
set_option maxRecDepth 100000 in
theorem kX1_makeAgain (l : Launch) (D : va_G) (cA : Nat → ClassId) (h tt : Nat → Nat) (sz : Nat)   (S : zSt) (r : Int32) (S1 : zSt) (hf : fX1_makeAgain S = some (r, S1)) : zMi l yX1_makeAgain wX1_makeAgain rmX1_makeAgain (zEX tt) D (tX cA) (hsX h) [.ref (h 1)] (wX cA h S) (wX cA h S1) sz r := by
  refine zEn_z (cc := cX1_makeAgain) (maxL := 1) (own := RX1) (by decide) rfl rfl (hmX cA h S) (Nat.le_of_ble_eq_true rfl) ?_
  intro p e s m args below meth c Q H locs C0 hW fin ls hl
  have hl : lv_has ls 1 [(0, .ref (h 1))] := hl
  have hx := C0.1
  have hb := C0.2.1
  have hown := C0.2.2.2.1
  have hts := C0.2.2.2.2
  unfold fX1_makeAgain at hf
  refine lv_aload_n (pc := 0) hx hb dX1_makeAgain_0 rfl (lv_at hl 0 rfl) ?_
  refine xg_206 (pc := 1) C0 hu_1 hW mX_81 dX1_makeAgain_1 ?_
  refine lv_if_le (pc := 4) (tgt := 16) hx hb dX1_makeAgain_4 (by decide) (fun c1 => ?_) (fun c1 => ?_)
  · have hf := zt c1 hf
    refine lv_iconst (pc := 16) (v := 0) hx hb dX1_makeAgain_16 (by decide) ?_
    exact zend_z (w := wX cA h) fin hf (by decide) hW dX1_makeAgain_17
  · have hf := zf c1 hf
    refine lv_aload_n (pc := 7) hx hb dX1_makeAgain_7 rfl (lv_at hl 0 rfl) ?_
    refine xg_205 (pc := 8) C0 hu_1 hW mX_80 dX1_makeAgain_8 ?_
    refine lv_bipush (pc := 11) (v := 40) hx hb dX1_makeAgain_11 (by decide) ?_
    refine lv_icmp_lt (pc := 13) (tgt := 18) hx hb dX1_makeAgain_13 (by decide) (fun c2 => ?_) (fun c2 => ?_)
    · have hf := zt c2 hf
      refine lv_aload_n (pc := 18) hx hb dX1_makeAgain_18 rfl (lv_at hl 0 rfl) ?_
      refine lv_aload_n (pc := 19) hx hb dX1_makeAgain_19 rfl (lv_at hl 0 rfl) ?_
      refine xg_202 (pc := 20) C0 hu_1 hW mX_57 dX1_makeAgain_20 ?_
      refine lv_aload_n (pc := 23) hx hb dX1_makeAgain_23 rfl (lv_at hl 0 rfl) ?_
      refine xg_205 (pc := 24) C0 hu_1 hW mX_80 dX1_makeAgain_24 ?_
      obtain ⟨i3, hf⟩ := zn hf
      refine xl_202 (pc := 27) C0 hW i3 dX1_makeAgain_27 ?_
      refine lv_aload_n (pc := 28) hx hb dX1_makeAgain_28 rfl (lv_at hl 0 rfl) ?_
      refine xg_204 (pc := 29) C0 hu_1 hW mX_59 dX1_makeAgain_29 ?_
      refine lv_aload_n (pc := 32) hx hb dX1_makeAgain_32 rfl (lv_at hl 0 rfl) ?_
      refine xg_205 (pc := 33) C0 hu_1 hW mX_80 dX1_makeAgain_33 ?_
      obtain ⟨i4, hf⟩ := zn hf
      refine xl_204 (pc := 36) C0 hW i4 dX1_makeAgain_36 ?_
      obtain ⟨S6, e7, hf⟩ := zU_e hf
      refine zcVv (zEX_ok tt) (As := [.int (S.2.1 202 (Int32.toNatClampNeg (S.1 205))), .int (S.2.1 204 (Int32.toNatClampNeg (S.1 205)))]) (pc := 37) C0 hW (kX1_write l D cA h tt H.size (S.2.1 202 (Int32.toNatClampNeg (S.1 205))) (S.2.1 204 (Int32.toNatClampNeg (S.1 205))) S S6 e7) (cwV 2 hts (zgV gaX mX_90 mX_91 mX_92 mX_78 mX_93) rfl rfl rfl (by decide +kernel) ⟨Nat.le_of_ble_eq_true rfl, Nat.le_of_ble_eq_true rfl⟩) (va_recv hW.1 hW.2.1 (ci := 1) (q0 := 1) rfl rfl) rfl hl.1 rfl (Nat.le_of_ble_eq_true rfl) dX1_makeAgain_37 (fun H locs hW => ?_)
      refine lv_aload_n (pc := 40) hx hb dX1_makeAgain_40 rfl (lv_at hl 0 rfl) ?_
      refine lv_dup (pc := 41) hx hb dX1_makeAgain_41 rfl ?_
      refine xg_205 (pc := 42) C0 hu_1 hW mX_80 dX1_makeAgain_42 ?_
      refine lv_iconst (pc := 45) (v := 1) hx hb dX1_makeAgain_45 (by decide) ?_
      refine lv_iadd (pc := 46) hx hb dX1_makeAgain_46 ?_
      obtain ⟨S8, e_S8, hf⟩ := zL_e hf
      refine xp_205 (pc := 47) C0 hu_1 hW mX_80 e_S8 dX1_makeAgain_47 (fun H locs hW => ?_)
      refine lv_aload_n (pc := 50) hx hb dX1_makeAgain_50 rfl (lv_at hl 0 rfl) ?_
      refine lv_dup (pc := 51) hx hb dX1_makeAgain_51 rfl ?_
      refine xg_206 (pc := 52) C0 hu_1 hW mX_81 dX1_makeAgain_52 ?_
      refine lv_iconst (pc := 55) (v := 1) hx hb dX1_makeAgain_55 (by decide) ?_
      refine lv_isub (pc := 56) hx hb dX1_makeAgain_56 ?_
      obtain ⟨S9, e_S9, hf⟩ := zL_e hf
      refine xp_206 (pc := 57) C0 hu_1 hW mX_81 e_S9 dX1_makeAgain_57 (fun H locs hW => ?_)
      refine lv_iconst (pc := 60) (v := 1) hx hb dX1_makeAgain_60 (by decide) ?_
      exact zend_z (w := wX cA h) fin hf (by decide) hW dX1_makeAgain_61
    · have hf := zf c2 hf
      refine lv_iconst (pc := 16) (v := 0) hx hb dX1_makeAgain_16 (by decide) ?_
      exact zend_z (w := wX cA h) fin hf (by decide) hW dX1_makeAgain_17

def fX11_quotient (p1 : Int32) (p2 : Int32): Option Int32 :=
  if p2 = 0 then (some 0) else (if ¬ p2 = 0 then some (p1 / p2) else none)
abbrev wX11_quotient : List Cond := Cond.code yX11_quotient cX11_quotient 2 (some .int) :: waX
abbrev rmX11_quotient : Room := { frames := 0, cells := 0, slots := 0, locals := 0 }
set_option maxHeartbeats 4000000 in
set_option maxRecDepth 100000 in
theorem kX11_quotient (l : Launch) (sz : Nat) (p1 : Int32) (p2 : Int32) (r : Int32) (hf : fX11_quotient p1 p2 = some r) : zMs l yX11_quotient wX11_quotient rmX11_quotient [.int p1, .int p2] sz r := by
  refine zEs_i (cc := cX11_quotient) (maxL := 2) (own := RX11) (by decide) rfl rfl (Nat.le_of_ble_eq_true rfl) ?_
  intro p e s m args below meth c Q H locs C0 hW fin ls hl
  have hl : lv_has ls 2 [(0, .int p1), (1, .int p2)] := hl
  have hx := C0.1
  have hb := C0.2.1
  have hown := C0.2.2.2.1
  have hts := C0.2.2.2.2
  unfold fX11_quotient at hf
  refine lv_iload_n (pc := 0) hx hb dX11_quotient_0 rfl (lv_at hl 1 rfl) ?_
  refine lv_if_ne (pc := 1) (tgt := 8) hx hb dX11_quotient_1 (by decide) (fun c1 => ?_) (fun c1 => ?_)
  · have hf := zf c1 hf
    refine lv_iload_n (pc := 8) hx hb dX11_quotient_8 rfl (lv_at hl 0 rfl) ?_
    refine lv_iload_n (pc := 9) hx hb dX11_quotient_9 rfl (lv_at hl 1 rfl) ?_
    obtain ⟨i2, hf⟩ := zn hf
    refine lv_idiv (pc := 10) hx hb dX11_quotient_10 i2 ?_
    exact zens_i fin hf hW dX11_quotient_11
  · have hf := zt c1 hf
    refine lv_iconst (pc := 4) (v := 0) hx hb dX11_quotient_4 (by decide) ?_
    refine lv_goto (pc := 5) (tgt := 11) hx hb dX11_quotient_5 (by decide) ?_
    exact zens_i fin hf hW dX11_quotient_11

def fX7_trait (p1 : Int32) (p2 : Int32) (S : zSt) : Option (Int32 × zSt) :=
  if ((p1 * 4) + p2) < 0 then (some (0, S)) else (if 32 ≤ ((p1 * 4) + p2) then (some (0, S)) else (if zin ((p1 * 4) + p2) 32 then some ((S.2.1 800 (Int32.toNatClampNeg ((p1 * 4) + p2))), S) else none))
abbrev wX7_trait : List Cond := Cond.code yX7_trait cX7_trait 4 (some .int) :: waX
abbrev rmX7_trait : Room := { frames := 0, cells := 0, slots := 0, locals := 0 }
set_option maxHeartbeats 4000000 in
set_option maxRecDepth 100000 in
theorem kX7_trait (l : Launch) (D : va_G) (cA : Nat → ClassId) (h tt : Nat → Nat) (sz : Nat)  (p1 : Int32) (p2 : Int32) (S : zSt) (r : Int32) (S1 : zSt) (hf : fX7_trait p1 p2 S = some (r, S1)) : zMi l yX7_trait wX7_trait rmX7_trait (zEX tt) D (tX cA) (hsX h) [.ref (h 7), .int p1, .int p2] (wX cA h S) (wX cA h S1) sz r := by
  refine zEn_i (cc := cX7_trait) (maxL := 4) (own := RX7) (by decide) rfl rfl (hmX cA h S) (Nat.le_of_ble_eq_true rfl) ?_
  intro p e s m args below meth c Q H locs C0 hW fin ls hl
  have hl : lv_has ls 4 [(0, .ref (h 7)), (1, .int p1), (2, .int p2)] := hl
  have hx := C0.1
  have hb := C0.2.1
  have hown := C0.2.2.2.1
  have hts := C0.2.2.2.2
  unfold fX7_trait at hf
  refine lv_iload_n (pc := 0) hx hb dX7_trait_0 rfl (lv_at hl 1 rfl) ?_
  refine lv_iconst (pc := 1) (v := 4) hx hb dX7_trait_1 (by decide) ?_
  refine lv_imul (pc := 2) hx hb dX7_trait_2 ?_
  refine lv_iload_n (pc := 3) hx hb dX7_trait_3 rfl (lv_at hl 2 rfl) ?_
  refine lv_iadd (pc := 4) hx hb dX7_trait_4 ?_
  refine lv_istore_n (pc := 5) (lv' := [(3, .int ((p1 * 4) + p2)), (0, .ref (h 7)), (1, .int p1), (2, .int p2)]) hx hb dX7_trait_5 rfl hl (by decide) rfl (fun ls hl => ?_)
  refine lv_iload_n (pc := 6) hx hb dX7_trait_6 rfl (lv_at hl 0 rfl) ?_
  refine lv_if_lt (pc := 7) (tgt := 28) hx hb dX7_trait_7 (by decide) (fun c1 => ?_) (fun c1 => ?_)
  · have hf := zt c1 hf
    refine lv_iconst (pc := 28) (v := 0) hx hb dX7_trait_28 (by decide) ?_
    exact zend_i (w := wX cA h) fin hf hW dX7_trait_29
  · have hf := zf c1 hf
    refine lv_iload_n (pc := 10) hx hb dX7_trait_10 rfl (lv_at hl 0 rfl) ?_
    refine lv_aload_n (pc := 11) hx hb dX7_trait_11 rfl (lv_at hl 1 rfl) ?_
    refine xg_800 (pc := 12) C0 hu_7 hW mX_74 dX7_trait_12 ?_
    refine xn_800 (pc := 15) C0 hW dX7_trait_15 ?_
    refine lv_icmp_ge (pc := 16) (tgt := 28) hx hb dX7_trait_16 (by decide) (fun c2 => ?_) (fun c2 => ?_)
    · have hf := zt c2 hf
      refine lv_iconst (pc := 28) (v := 0) hx hb dX7_trait_28 (by decide) ?_
      exact zend_i (w := wX cA h) fin hf hW dX7_trait_29
    · have hf := zf c2 hf
      refine lv_aload_n (pc := 19) hx hb dX7_trait_19 rfl (lv_at hl 1 rfl) ?_
      refine xg_800 (pc := 20) C0 hu_7 hW mX_74 dX7_trait_20 ?_
      refine lv_iload_n (pc := 23) hx hb dX7_trait_23 rfl (lv_at hl 0 rfl) ?_
      obtain ⟨i3, hf⟩ := zn hf
      refine xl_800 (pc := 24) C0 hW i3 dX7_trait_24 ?_
      refine lv_goto (pc := 25) (tgt := 29) hx hb dX7_trait_25 (by decide) ?_
      exact zend_i (w := wX cA h) fin hf hW dX7_trait_29

def fX6_holdAlike (p1 : Int32) (p2 : Int32) (p3 : Int32) (S : zSt) : Option (Int32 × zSt) :=
  zB (fX7_trait p1 0 S) fun r1 S2 => zB (fX7_trait p1 1 S2) fun r4 S5 => zU (fX11_quotient (r1 * (zmn p2 r4)) r4) fun r7 => zB (fX7_trait p1 3 S5) fun r10 S11 => zB (fX7_trait p1 2 S11) fun r13 S14 => some ((((r1 + r10) - r7) * (p3 + r13)), S14)
abbrev wX6_holdAlike : List Cond := Cond.code yX6_holdAlike cX6_holdAlike 7 (some .int) :: waX
abbrev rmX6_holdAlike : Room := { frames := 1, cells := 0, slots := 0, locals := 24 }
set_option maxHeartbeats 4000000 in
set_option maxRecDepth 100000 in
theorem kX6_holdAlike (l : Launch) (D : va_G) (cA : Nat → ClassId) (h tt : Nat → Nat) (sz : Nat)  (p1 : Int32) (p2 : Int32) (p3 : Int32) (S : zSt) (r : Int32) (S1 : zSt) (hf : fX6_holdAlike p1 p2 p3 S = some (r, S1)) : zMi l yX6_holdAlike wX6_holdAlike rmX6_holdAlike (zEX tt) D (tX cA) (hsX h) [.ref (h 6), .int p1, .int p2, .int p3] (wX cA h S) (wX cA h S1) sz r := by
  refine zEn_i (cc := cX6_holdAlike) (maxL := 7) (own := RX6) (by decide) rfl rfl (hmX cA h S) (Nat.le_of_ble_eq_true rfl) ?_
  intro p e s m args below meth c Q H locs C0 hW fin ls hl
  have hl : lv_has ls 7 [(0, .ref (h 6)), (1, .int p1), (2, .int p2), (3, .int p3)] := hl
  have hx := C0.1
  have hb := C0.2.1
  have hown := C0.2.2.2.1
  have hts := C0.2.2.2.2
  unfold fX6_holdAlike at hf
  refine lv_aload_n (pc := 0) hx hb dX6_holdAlike_0 rfl (lv_at hl 0 rfl) ?_
  refine xg_700 (pc := 1) C0 hu_6 hW mX_138 dX6_holdAlike_1 ?_
  refine lv_iload_n (pc := 4) hx hb dX6_holdAlike_4 rfl (lv_at hl 1 rfl) ?_
  refine lv_iconst (pc := 5) (v := 0) hx hb dX6_holdAlike_5 (by decide) ?_
  obtain ⟨r1, S2, e3, hf⟩ := zB_e hf
  refine zcVi (zEX_ok tt) (As := [.int p1, .int 0]) (pc := 6) C0 hW (kX7_trait l D cA h tt H.size p1 0 S r1 S2 e3) (cwV 2 hts (zgV gaX mX_146 mX_147 mX_148 mX_72 mX_149) rfl rfl rfl (by decide +kernel) ⟨Nat.le_of_ble_eq_true rfl, Nat.le_of_ble_eq_true rfl⟩) (va_recv hW.1 hW.2.1 (ci := 7) (q0 := 7) rfl rfl) rfl hl.1 rfl (Nat.le_of_ble_eq_true rfl) dX6_holdAlike_6 (fun H locs hW => ?_)
  refine lv_istore (pc := 9) (lv' := [(4, .int r1), (0, .ref (h 6)), (1, .int p1), (2, .int p2), (3, .int p3)]) hx hb dX6_holdAlike_9 hl (by decide) rfl (fun ls hl => ?_)
  refine lv_aload_n (pc := 11) hx hb dX6_holdAlike_11 rfl (lv_at hl 1 rfl) ?_
  refine xg_700 (pc := 12) C0 hu_6 hW mX_138 dX6_holdAlike_12 ?_
  refine lv_iload_n (pc := 15) hx hb dX6_holdAlike_15 rfl (lv_at hl 2 rfl) ?_
  refine lv_iconst (pc := 16) (v := 1) hx hb dX6_holdAlike_16 (by decide) ?_
  obtain ⟨r4, S5, e6, hf⟩ := zB_e hf
  refine zcVi (zEX_ok tt) (As := [.int p1, .int 1]) (pc := 17) C0 hW (kX7_trait l D cA h tt H.size p1 1 S2 r4 S5 e6) (cwV 2 hts (zgV gaX mX_146 mX_147 mX_148 mX_72 mX_149) rfl rfl rfl (by decide +kernel) ⟨Nat.le_of_ble_eq_true rfl, Nat.le_of_ble_eq_true rfl⟩) (va_recv hW.1 hW.2.1 (ci := 7) (q0 := 7) rfl rfl) rfl hl.1 rfl (Nat.le_of_ble_eq_true rfl) dX6_holdAlike_17 (fun H locs hW => ?_)
  refine lv_istore (pc := 20) (lv' := [(5, .int r4), (4, .int r1), (0, .ref (h 6)), (1, .int p1), (2, .int p2), (3, .int p3)]) hx hb dX6_holdAlike_20 hl (by decide) rfl (fun ls hl => ?_)
  refine lv_iload (pc := 22) hx hb dX6_holdAlike_22 (lv_at hl 1 rfl) ?_
  refine lv_iload_n (pc := 24) hx hb dX6_holdAlike_24 rfl (lv_at hl 4 rfl) ?_
  refine lv_iload (pc := 25) hx hb dX6_holdAlike_25 (lv_at hl 0 rfl) ?_
  refine va_mmin (pc := 27) hx hb (C0.2.2.1.trans hl.1.symm) hown (hts _ mX_140) (hts _ mX_27) (hts _ mX_28) (hts _ mX_29) (Nat.le_of_ble_eq_true rfl) (Nat.le_of_ble_eq_true rfl) (Nat.zero_le _) (Nat.zero_le _) dX6_holdAlike_27 ?_
  refine lv_imul (pc := 30) hx hb dX6_holdAlike_30 ?_
  refine lv_iload (pc := 31) hx hb dX6_holdAlike_31 (lv_at hl 0 rfl) ?_
  obtain ⟨r7, e9, hf⟩ := zU_e hf
  refine zcNi (As := [.int (r1 * (zmn p2 r4)), .int r4]) (pc := 33) C0 hW (kX11_quotient l H.size (r1 * (zmn p2 r4)) r4 r7 e9) ⟨va_cnB 2 hts (zgN gaX mX_152) rfl rfl rfl hW.2.2.2.2.2.2.2.2.2.2.2.2.2.2.2.2.2.2.2.2.2.1 (hts _ mX_151) (by decide +kernel) ⟨Nat.le_of_ble_eq_true rfl, Nat.le_of_ble_eq_true rfl⟩, hts _ mX_150, trivial⟩ rfl hl.1 rfl (Nat.le_of_ble_eq_true rfl) dX6_holdAlike_33 (fun H locs hW => ?_)
  refine lv_istore (pc := 36) (lv' := [(6, .int r7), (5, .int r4), (4, .int r1), (0, .ref (h 6)), (1, .int p1), (2, .int p2), (3, .int p3)]) hx hb dX6_holdAlike_36 hl (by decide) rfl (fun ls hl => ?_)
  refine lv_iload (pc := 38) hx hb dX6_holdAlike_38 (lv_at hl 2 rfl) ?_
  refine lv_aload_n (pc := 40) hx hb dX6_holdAlike_40 rfl (lv_at hl 3 rfl) ?_
  refine xg_700 (pc := 41) C0 hu_6 hW mX_138 dX6_holdAlike_41 ?_
  refine lv_iload_n (pc := 44) hx hb dX6_holdAlike_44 rfl (lv_at hl 4 rfl) ?_
  refine lv_iconst (pc := 45) (v := 3) hx hb dX6_holdAlike_45 (by decide) ?_
  obtain ⟨r10, S11, e12, hf⟩ := zB_e hf
  refine zcVi (zEX_ok tt) (As := [.int p1, .int 3]) (pc := 46) C0 hW (kX7_trait l D cA h tt H.size p1 3 S5 r10 S11 e12) (cwV 2 hts (zgV gaX mX_146 mX_147 mX_148 mX_72 mX_149) rfl rfl rfl (by decide +kernel) ⟨Nat.le_of_ble_eq_true rfl, Nat.le_of_ble_eq_true rfl⟩) (va_recv hW.1 hW.2.1 (ci := 7) (q0 := 7) rfl rfl) rfl hl.1 rfl (Nat.le_of_ble_eq_true rfl) dX6_holdAlike_46 (fun H locs hW => ?_)
  refine lv_iadd (pc := 49) hx hb dX6_holdAlike_49 ?_
  refine lv_iload (pc := 50) hx hb dX6_holdAlike_50 (lv_at hl 0 rfl) ?_
  refine lv_isub (pc := 52) hx hb dX6_holdAlike_52 ?_
  refine lv_iload_n (pc := 53) hx hb dX6_holdAlike_53 rfl (lv_at hl 6 rfl) ?_
  refine lv_aload_n (pc := 54) hx hb dX6_holdAlike_54 rfl (lv_at hl 3 rfl) ?_
  refine xg_700 (pc := 55) C0 hu_6 hW mX_138 dX6_holdAlike_55 ?_
  refine lv_iload_n (pc := 58) hx hb dX6_holdAlike_58 rfl (lv_at hl 4 rfl) ?_
  refine lv_iconst (pc := 59) (v := 2) hx hb dX6_holdAlike_59 (by decide) ?_
  obtain ⟨r13, S14, e15, hf⟩ := zB_e hf
  refine zcVi (zEX_ok tt) (As := [.int p1, .int 2]) (pc := 60) C0 hW (kX7_trait l D cA h tt H.size p1 2 S11 r13 S14 e15) (cwV 2 hts (zgV gaX mX_146 mX_147 mX_148 mX_72 mX_149) rfl rfl rfl (by decide +kernel) ⟨Nat.le_of_ble_eq_true rfl, Nat.le_of_ble_eq_true rfl⟩) (va_recv hW.1 hW.2.1 (ci := 7) (q0 := 7) rfl rfl) rfl hl.1 rfl (Nat.le_of_ble_eq_true rfl) dX6_holdAlike_60 (fun H locs hW => ?_)
  refine lv_iadd (pc := 63) hx hb dX6_holdAlike_63 ?_
  refine lv_imul (pc := 64) hx hb dX6_holdAlike_64 ?_
  exact zend_i (w := wX cA h) fin hf hW dX6_holdAlike_65

def fX6_holdInForm (p1 : Int32) (p2 : Int32) (S : zSt) : Option (Int32 × zSt) :=
  if (S.1 706) = 0 then (some ((p1 + (p1 / 10)), S)) else (if (S.1 706) = 3 then (some (((p1 + p2) / 2), S)) else (some (p1, S)))
abbrev wX6_holdInForm : List Cond := Cond.code yX6_holdInForm cX6_holdInForm 3 (some .int) :: waX
abbrev rmX6_holdInForm : Room := { frames := 0, cells := 0, slots := 0, locals := 0 }
set_option maxHeartbeats 4000000 in
set_option maxRecDepth 100000 in
theorem kX6_holdInForm (l : Launch) (D : va_G) (cA : Nat → ClassId) (h tt : Nat → Nat) (sz : Nat)  (p1 : Int32) (p2 : Int32) (S : zSt) (r : Int32) (S1 : zSt) (hf : fX6_holdInForm p1 p2 S = some (r, S1)) : zMi l yX6_holdInForm wX6_holdInForm rmX6_holdInForm (zEX tt) D (tX cA) (hsX h) [.ref (h 6), .int p1, .int p2] (wX cA h S) (wX cA h S1) sz r := by
  refine zEn_i (cc := cX6_holdInForm) (maxL := 3) (own := RX6) (by decide) rfl rfl (hmX cA h S) (Nat.le_of_ble_eq_true rfl) ?_
  intro p e s m args below meth c Q H locs C0 hW fin ls hl
  have hl : lv_has ls 3 [(0, .ref (h 6)), (1, .int p1), (2, .int p2)] := hl
  have hx := C0.1
  have hb := C0.2.1
  have hown := C0.2.2.2.1
  have hts := C0.2.2.2.2
  unfold fX6_holdInForm at hf
  refine lv_aload_n (pc := 0) hx hb dX6_holdInForm_0 rfl (lv_at hl 0 rfl) ?_
  refine xg_706 (pc := 1) C0 hu_6 hW mX_157 dX6_holdInForm_1 ?_
  refine lv_if_ne (pc := 4) (tgt := 16) hx hb dX6_holdInForm_4 (by decide) (fun c1 => ?_) (fun c1 => ?_)
  · have hf := zf c1 hf
    refine lv_aload_n (pc := 16) hx hb dX6_holdInForm_16 rfl (lv_at hl 0 rfl) ?_
    refine xg_706 (pc := 17) C0 hu_6 hW mX_157 dX6_holdInForm_17 ?_
    refine lv_iconst (pc := 20) (v := 3) hx hb dX6_holdInForm_20 (by decide) ?_
    refine lv_icmp_ne (pc := 21) (tgt := 32) hx hb dX6_holdInForm_21 (by decide) (fun c2 => ?_) (fun c2 => ?_)
    · have hf := zf c2 hf
      refine lv_iload_n (pc := 32) hx hb dX6_holdInForm_32 rfl (lv_at hl 1 rfl) ?_
      exact zend_i (w := wX cA h) fin hf hW dX6_holdInForm_33
    · have hf := zt c2 hf
      refine lv_iload_n (pc := 24) hx hb dX6_holdInForm_24 rfl (lv_at hl 1 rfl) ?_
      refine lv_iload_n (pc := 25) hx hb dX6_holdInForm_25 rfl (lv_at hl 2 rfl) ?_
      refine lv_iadd (pc := 26) hx hb dX6_holdInForm_26 ?_
      refine lv_iconst (pc := 27) (v := 2) hx hb dX6_holdInForm_27 (by decide) ?_
      refine lv_idiv (pc := 28) hx hb dX6_holdInForm_28 (by decide) ?_
      refine lv_goto (pc := 29) (tgt := 33) hx hb dX6_holdInForm_29 (by decide) ?_
      exact zend_i (w := wX cA h) fin hf hW dX6_holdInForm_33
  · have hf := zt c1 hf
    refine lv_iload_n (pc := 7) hx hb dX6_holdInForm_7 rfl (lv_at hl 1 rfl) ?_
    refine lv_iload_n (pc := 8) hx hb dX6_holdInForm_8 rfl (lv_at hl 1 rfl) ?_
    refine lv_bipush (pc := 9) (v := 10) hx hb dX6_holdInForm_9 (by decide) ?_
    refine lv_idiv (pc := 11) hx hb dX6_holdInForm_11 (by decide) ?_
    refine lv_iadd (pc := 12) hx hb dX6_holdInForm_12 ?_
    refine lv_goto (pc := 13) (tgt := 33) hx hb dX6_holdInForm_13 (by decide) ?_
    exact zend_i (w := wX cA h) fin hf hW dX6_holdInForm_33

def fX6_leeOf (p1 : Int32) (S : zSt) : Option (Int32 × zSt) :=
  if (S.1 706) = 1 then (some ((100 - (15 * p1)), S)) else (if (S.1 706) = 2 then (if p1 < 0 then (some (100, S)) else (if 5 ≤ p1 then (some (100, S)) else (if zin p1 5 then some ((xs_0 (Int32.toNatClampNeg p1)), S) else none))) else (if (S.1 706) = 3 then (some (100, S)) else (if (S.1 706) = 4 then (some (40, S)) else (some (100, S)))))
abbrev wX6_leeOf : List Cond := Cond.code yX6_leeOf cX6_leeOf 2 (some .int) :: waX
abbrev rmX6_leeOf : Room := { frames := 0, cells := 0, slots := 0, locals := 0 }
set_option maxHeartbeats 4000000 in
set_option maxRecDepth 100000 in
theorem kX6_leeOf (l : Launch) (D : va_G) (cA : Nat → ClassId) (h tt : Nat → Nat) (sz : Nat)  (p1 : Int32) (S : zSt) (r : Int32) (S1 : zSt) (hf : fX6_leeOf p1 S = some (r, S1)) : zMi l yX6_leeOf wX6_leeOf rmX6_leeOf (zEX tt) D (tX cA) (hsX h) [.ref (h 6), .int p1] (wX cA h S) (wX cA h S1) sz r := by
  refine zEn_i (cc := cX6_leeOf) (maxL := 2) (own := RX6) (by decide) rfl rfl (hmX cA h S) (Nat.le_of_ble_eq_true rfl) ?_
  intro p e s m args below meth c Q H locs C0 hW fin ls hl
  have hl : lv_has ls 2 [(0, .ref (h 6)), (1, .int p1)] := hl
  have hx := C0.1
  have hb := C0.2.1
  have hown := C0.2.2.2.1
  have hts := C0.2.2.2.2
  unfold fX6_leeOf at hf
  refine lv_aload_n (pc := 0) hx hb dX6_leeOf_0 rfl (lv_at hl 0 rfl) ?_
  refine xg_706 (pc := 1) C0 hu_6 hW mX_157 dX6_leeOf_1 ?_
  by_cases c1 : (S.1 706) = 1
  · have hf := zt c1 hf
    refine lv_tableIn (pc := 4) (tgt := 36) (off := 32) hx hb dX6_leeOf_4 (by rw [c1]; decide) (by rw [c1]; decide) (by rw [c1]; decide) (by decide) ?_
    refine lv_bipush (pc := 36) (v := 100) hx hb dX6_leeOf_36 (by decide) ?_
    refine lv_bipush (pc := 38) (v := 15) hx hb dX6_leeOf_38 (by decide) ?_
    refine lv_iload_n (pc := 40) hx hb dX6_leeOf_40 rfl (lv_at hl 1 rfl) ?_
    refine lv_imul (pc := 41) hx hb dX6_leeOf_41 ?_
    refine lv_isub (pc := 42) hx hb dX6_leeOf_42 ?_
    exact zend_i (w := wX cA h) fin hf hW dX6_leeOf_43
  have hf := zf c1 hf
  by_cases c2 : (S.1 706) = 2
  · have hf := zt c2 hf
    refine lv_tableIn (pc := 4) (tgt := 44) (off := 40) hx hb dX6_leeOf_4 (by rw [c2]; decide) (by rw [c2]; decide) (by rw [c2]; decide) (by decide) ?_
    refine lv_iload_n (pc := 44) hx hb dX6_leeOf_44 rfl (lv_at hl 1 rfl) ?_
    refine lv_if_lt (pc := 45) (tgt := 64) hx hb dX6_leeOf_45 (by decide) (fun c3 => ?_) (fun c3 => ?_)
    · have hf := zt c3 hf
      refine lv_bipush (pc := 64) (v := 100) hx hb dX6_leeOf_64 (by decide) ?_
      exact zend_i (w := wX cA h) fin hf hW dX6_leeOf_66
    · have hf := zf c3 hf
      refine lv_iload_n (pc := 48) hx hb dX6_leeOf_48 rfl (lv_at hl 1 rfl) ?_
      refine xsg_0 (pc := 49) C0 hW mX_162 dX6_leeOf_49 ?_
      refine xstn_0 (pc := 52) C0 hW dX6_leeOf_52 ?_
      refine lv_icmp_ge (pc := 53) (tgt := 64) hx hb dX6_leeOf_53 (by decide) (fun c4 => ?_) (fun c4 => ?_)
      · have hf := zt c4 hf
        refine lv_bipush (pc := 64) (v := 100) hx hb dX6_leeOf_64 (by decide) ?_
        exact zend_i (w := wX cA h) fin hf hW dX6_leeOf_66
      · have hf := zf c4 hf
        refine xsg_0 (pc := 56) C0 hW mX_162 dX6_leeOf_56 ?_
        refine lv_iload_n (pc := 59) hx hb dX6_leeOf_59 rfl (lv_at hl 1 rfl) ?_
        obtain ⟨i5, hf⟩ := zn hf
        refine xst_0 (pc := 60) C0 hW i5 dX6_leeOf_60 ?_
        refine lv_goto (pc := 61) (tgt := 66) hx hb dX6_leeOf_61 (by decide) ?_
        exact zend_i (w := wX cA h) fin hf hW dX6_leeOf_66
  have hf := zf c2 hf
  by_cases c6 : (S.1 706) = 3
  · have hf := zt c6 hf
    refine lv_tableIn (pc := 4) (tgt := 70) (off := 66) hx hb dX6_leeOf_4 (by rw [c6]; decide) (by rw [c6]; decide) (by rw [c6]; decide) (by decide) ?_
    refine lv_bipush (pc := 70) (v := 100) hx hb dX6_leeOf_70 (by decide) ?_
    exact zend_i (w := wX cA h) fin hf hW dX6_leeOf_72
  have hf := zf c6 hf
  by_cases c7 : (S.1 706) = 4
  · have hf := zt c7 hf
    refine lv_tableIn (pc := 4) (tgt := 67) (off := 63) hx hb dX6_leeOf_4 (by rw [c7]; decide) (by rw [c7]; decide) (by rw [c7]; decide) (by decide) ?_
    refine lv_bipush (pc := 67) (v := 40) hx hb dX6_leeOf_67 (by decide) ?_
    exact zend_i (w := wX cA h) fin hf hW dX6_leeOf_69
  have hf := zf c7 hf
  refine lv_tableOut (pc := 4) (tgt := 70) hx hb dX6_leeOf_4 (ztab 1 4 4 (S.1 706) (by decide) (fun j hj => match j, hj with | 0, _ => fun e => c1 (e.trans (by decide)) | 1, _ => fun e => c2 (e.trans (by decide)) | 2, _ => fun e => c6 (e.trans (by decide)) | 3, _ => fun e => c7 (e.trans (by decide)) | j + 4, h => absurd h (by omega))) (by decide) ?_
  refine lv_bipush (pc := 70) (v := 100) hx hb dX6_leeOf_70 (by decide) ?_
  exact zend_i (w := wX cA h) fin hf hW dX6_leeOf_72

def fX6_enter_b67 (N : Nat) : Nat → Int32 → Int32 → Int32 → Int32 → zSt → Option zSt
  | 0, _, _, _, _, _ => none
  | n + 1, v1, v2, v5, v6, S =>
    if (S.1 705) ≤ v6 then (some S) else (if zin v6 8 then zB (fX7_trait (S.2.1 701 (Int32.toNatClampNeg v6)) 1 S) fun r3 S4 => if zin v6 8 then zB (fX6_holdInForm (S4.2.1 702 (Int32.toNatClampNeg v6)) v5 S4) fun r7 S8 => if zin v6 8 then zL (zA S8 702 (Int32.toNatClampNeg v6) r7) fun S11 => zB (fX6_leeOf v6 S11) fun r12 S13 => if zin v6 8 then zL (zA S13 703 (Int32.toNatClampNeg v6) (((((zmn v1 r3) * v2) * v2) * r12) / 1000)) fun S16 => if r3 ≤ v1 then (if zin v6 8 then zL (zA S16 704 (Int32.toNatClampNeg v6) (-9999)) fun S19 => fX6_enter_b67 N n v1 v2 v5 (v6 + 1) S19 else none) else (if zin v6 8 then if zin v6 8 then if zin v6 8 then zL (zA S16 704 (Int32.toNatClampNeg v6) ((S16.2.1 702 (Int32.toNatClampNeg v6)) - (S16.2.1 703 (Int32.toNatClampNeg v6)))) fun S23 => fX6_enter_b67 N n v1 v2 v5 (v6 + 1) S23 else none else none else none) else none else none else none else none)
def fX6_enter_b6 (N : Nat) : Nat → Int32 → Int32 → Int32 → Int32 → Int32 → zSt → Option zSt
  | 0, _, _, _, _, _, _ => none
  | n + 1, v1, v2, v3, v4, v5, S =>
    if (S.1 705) ≤ v5 then (zU (fX11_quotient v4 (S.1 705)) fun r25 => fX6_enter_b67 N N v1 v2 r25 0 S) else (if zin v5 8 then zB (fX6_holdAlike (S.2.1 701 (Int32.toNatClampNeg v5)) v1 v3 S) fun r29 S30 => if zin v5 8 then zL (zA S30 702 (Int32.toNatClampNeg v5) r29) fun S33 => if zin v5 8 then zL ((v4 + (S33.2.1 702 (Int32.toNatClampNeg v5)))) fun (x35 : Int32) => fX6_enter_b6 N n v1 v2 v3 x35 (v5 + 1) S33 else none else none else none)
def fX6_enter (N : Nat) (p1 : Int32) (p2 : Int32) (p3 : Int32) (S : zSt) : Option zSt :=
  fX6_enter_b6 N N p1 p2 p3 0 0 S
abbrev wX6_enter : List Cond := Cond.code yX6_enter cX6_enter 8 none :: waX
abbrev rmX6_enter : Room := { frames := 2, cells := 0, slots := 0, locals := 50 }
set_option maxHeartbeats 4000000 in
set_option maxRecDepth 100000 in
theorem kX6_enter (l : Launch) (D : va_G) (cA : Nat → ClassId) (h tt : Nat → Nat) (sz : Nat) (N : Nat)  (p1 : Int32) (p2 : Int32) (p3 : Int32) (S : zSt) (S1 : zSt) (hf : fX6_enter N p1 p2 p3 S = some S1) : zMv l yX6_enter wX6_enter rmX6_enter (zEX tt) D (tX cA) (hsX h) [.ref (h 6), .int p1, .int p2, .int p3] (wX cA h S) (wX cA h S1) sz := by
  refine zEn_v (cc := cX6_enter) (maxL := 8) (own := RX6) (by decide) rfl rfl (hmX cA h S) (Nat.le_of_ble_eq_true rfl) ?_
  intro p e s m args below meth c Q H locs C0 hW fin ls hl
  have hl : lv_has ls 8 [(0, .ref (h 6)), (1, .int p1), (2, .int p2), (3, .int p3)] := hl
  have hx := C0.1
  have hb := C0.2.1
  have hown := C0.2.2.2.1
  have hts := C0.2.2.2.2
  have w67 : ∀ (n : Nat), ∀ (v1 : Int32) (v2 : Int32) (v5 : Int32) (v6 : Int32) (S : zSt) (H : Heap) (locs : List Loc), zW (zEX tt) D (tX cA) (wX cA h S) (aW (hsX h) s.heap.size) s H locs → ∀ ls : Array Slot, lv_has ls 8 [(0, .ref (h 6)), (1, .int v1), (2, .int v2), (5, .int v5), (6, .int v6)] → fX6_enter_b67 N n v1 v2 v5 v6 S = some S1 → W p l e rmX6_enter s m args below meth c H locs 0 0 Q (F0 m 67 ls []) := by
    intro n
    induction n with
    | zero =>
      intro v1 v2 v5 v6 S H locs hW ls hl hf
      exact absurd hf (by intro h; cases h)
    | succ n ih =>
      intro v1 v2 v5 v6 S H locs hW ls hl hf
      rw [fX6_enter_b67] at hf
      refine lv_iload (pc := 67) hx hb dX6_enter_67 (lv_at hl 4 rfl) ?_
      refine lv_aload_n (pc := 69) hx hb dX6_enter_69 rfl (lv_at hl 0 rfl) ?_
      refine xg_705 (pc := 70) C0 hu_6 hW mX_135 dX6_enter_70 ?_
      refine lv_icmp_ge (pc := 73) (tgt := 181) hx hb dX6_enter_73 (by decide) (fun c1 => ?_) (fun c1 => ?_)
      · have hf := zt c1 hf
        exact zend_v (w := wX cA h) fin hf hW dX6_enter_181
      · have hf := zf c1 hf
        refine lv_aload_n (pc := 76) hx hb dX6_enter_76 rfl (lv_at hl 0 rfl) ?_
        refine xg_700 (pc := 77) C0 hu_6 hW mX_138 dX6_enter_77 ?_
        refine lv_aload_n (pc := 80) hx hb dX6_enter_80 rfl (lv_at hl 0 rfl) ?_
        refine xg_701 (pc := 81) C0 hu_6 hW mX_137 dX6_enter_81 ?_
        refine lv_iload (pc := 84) hx hb dX6_enter_84 (lv_at hl 4 rfl) ?_
        obtain ⟨i2, hf⟩ := zn hf
        refine xl_701 (pc := 86) C0 hW i2 dX6_enter_86 ?_
        refine lv_iconst (pc := 87) (v := 1) hx hb dX6_enter_87 (by decide) ?_
        obtain ⟨r3, S4, e5, hf⟩ := zB_e hf
        refine zcVi (zEX_ok tt) (As := [.int (S.2.1 701 (Int32.toNatClampNeg v6)), .int 1]) (pc := 88) C0 hW (kX7_trait l D cA h tt H.size (S.2.1 701 (Int32.toNatClampNeg v6)) 1 S r3 S4 e5) (cwV 2 hts (zgV gaX mX_146 mX_147 mX_148 mX_72 mX_149) rfl rfl rfl (by decide +kernel) ⟨Nat.le_of_ble_eq_true rfl, Nat.le_of_ble_eq_true rfl⟩) (va_recv hW.1 hW.2.1 (ci := 7) (q0 := 7) rfl rfl) rfl hl.1 rfl (Nat.le_of_ble_eq_true rfl) dX6_enter_88 (fun H locs hW => ?_)
        refine lv_istore (pc := 91) (lv' := [(7, .int r3), (0, .ref (h 6)), (1, .int v1), (2, .int v2), (5, .int v5), (6, .int v6)]) hx hb dX6_enter_91 hl (by decide) rfl (fun ls hl => ?_)
        refine lv_aload_n (pc := 93) hx hb dX6_enter_93 rfl (lv_at hl 1 rfl) ?_
        refine xg_702 (pc := 94) C0 hu_6 hW mX_136 dX6_enter_94 ?_
        refine lv_iload (pc := 97) hx hb dX6_enter_97 (lv_at hl 5 rfl) ?_
        refine lv_aload_n (pc := 99) hx hb dX6_enter_99 rfl (lv_at hl 1 rfl) ?_
        refine lv_aload_n (pc := 100) hx hb dX6_enter_100 rfl (lv_at hl 1 rfl) ?_
        refine xg_702 (pc := 101) C0 hu_6 hW mX_136 dX6_enter_101 ?_
        refine lv_iload (pc := 104) hx hb dX6_enter_104 (lv_at hl 5 rfl) ?_
        obtain ⟨i6, hf⟩ := zn hf
        refine xl_702 (pc := 106) C0 hW i6 dX6_enter_106 ?_
        refine lv_iload (pc := 107) hx hb dX6_enter_107 (lv_at hl 4 rfl) ?_
        obtain ⟨r7, S8, e9, hf⟩ := zB_e hf
        refine zcVi (zEX_ok tt) (As := [.int (S4.2.1 702 (Int32.toNatClampNeg v6)), .int v5]) (pc := 109) C0 hW (kX6_holdInForm l D cA h tt H.size (S4.2.1 702 (Int32.toNatClampNeg v6)) v5 S4 r7 S8 e9) (cwV 2 hts (zgV gaX mX_153 mX_154 mX_155 mX_133 mX_156) rfl rfl rfl (by decide +kernel) ⟨Nat.le_of_ble_eq_true rfl, Nat.le_of_ble_eq_true rfl⟩) (va_recv hW.1 hW.2.1 (ci := 6) (q0 := 6) rfl rfl) rfl hl.1 rfl (Nat.le_of_ble_eq_true rfl) dX6_enter_109 (fun H locs hW => ?_)
        obtain ⟨i10, hf⟩ := zn hf
        obtain ⟨S11, e_S11, hf⟩ := zL_e hf
        refine xs_s702 (pc := 112) C0 hW i10 e_S11 dX6_enter_112 (fun H locs hW => ?_)
        refine lv_aload_n (pc := 113) hx hb dX6_enter_113 rfl (lv_at hl 1 rfl) ?_
        refine xg_703 (pc := 114) C0 hu_6 hW mX_139 dX6_enter_114 ?_
        refine lv_iload (pc := 117) hx hb dX6_enter_117 (lv_at hl 5 rfl) ?_
        refine lv_iload_n (pc := 119) hx hb dX6_enter_119 rfl (lv_at hl 2 rfl) ?_
        refine lv_iload (pc := 120) hx hb dX6_enter_120 (lv_at hl 0 rfl) ?_
        refine va_mmin (pc := 122) hx hb (C0.2.2.1.trans hl.1.symm) hown (hts _ mX_140) (hts _ mX_27) (hts _ mX_28) (hts _ mX_29) (Nat.le_of_ble_eq_true rfl) (Nat.le_of_ble_eq_true rfl) (Nat.zero_le _) (Nat.zero_le _) dX6_enter_122 ?_
        refine lv_iload_n (pc := 125) hx hb dX6_enter_125 rfl (lv_at hl 3 rfl) ?_
        refine lv_imul (pc := 126) hx hb dX6_enter_126 ?_
        refine lv_iload_n (pc := 127) hx hb dX6_enter_127 rfl (lv_at hl 3 rfl) ?_
        refine lv_imul (pc := 128) hx hb dX6_enter_128 ?_
        refine lv_aload_n (pc := 129) hx hb dX6_enter_129 rfl (lv_at hl 1 rfl) ?_
        refine lv_iload (pc := 130) hx hb dX6_enter_130 (lv_at hl 5 rfl) ?_
        obtain ⟨r12, S13, e14, hf⟩ := zB_e hf
        refine zcVi (zEX_ok tt) (As := [.int v6]) (pc := 132) C0 hW (kX6_leeOf l D cA h tt H.size v6 S11 r12 S13 e14) (cwV 1 hts (zgV gaX mX_158 mX_159 mX_160 mX_133 mX_161) rfl rfl rfl (by decide +kernel) ⟨Nat.le_of_ble_eq_true rfl, Nat.le_of_ble_eq_true rfl⟩) (va_recv hW.1 hW.2.1 (ci := 6) (q0 := 6) rfl rfl) rfl hl.1 rfl (Nat.le_of_ble_eq_true rfl) dX6_enter_132 (fun H locs hW => ?_)
        refine lv_imul (pc := 135) hx hb dX6_enter_135 ?_
        refine lv_sipush (pc := 136) (v := 1000) hx hb dX6_enter_136 (by decide) ?_
        refine lv_idiv (pc := 139) hx hb dX6_enter_139 (by decide) ?_
        obtain ⟨i15, hf⟩ := zn hf
        obtain ⟨S16, e_S16, hf⟩ := zL_e hf
        refine xs_s703 (pc := 140) C0 hW i15 e_S16 dX6_enter_140 (fun H locs hW => ?_)
        refine lv_aload_n (pc := 141) hx hb dX6_enter_141 rfl (lv_at hl 1 rfl) ?_
        refine xg_704 (pc := 142) C0 hu_6 hW mX_141 dX6_enter_142 ?_
        refine lv_iload (pc := 145) hx hb dX6_enter_145 (lv_at hl 5 rfl) ?_
        refine lv_iload_n (pc := 147) hx hb dX6_enter_147 rfl (lv_at hl 2 rfl) ?_
        refine lv_iload (pc := 148) hx hb dX6_enter_148 (lv_at hl 0 rfl) ?_
        refine lv_icmp_ge (pc := 150) (tgt := 171) hx hb dX6_enter_150 (by decide) (fun c17 => ?_) (fun c17 => ?_)
        · have hf := zt c17 hf
          refine lv_sipush (pc := 171) (v := (-9999)) hx hb dX6_enter_171 (by decide) ?_
          obtain ⟨i18, hf⟩ := zn hf
          obtain ⟨S19, e_S19, hf⟩ := zL_e hf
          refine xs_s704 (pc := 174) C0 hW i18 e_S19 dX6_enter_174 (fun H locs hW => ?_)
          refine lv_iinc (pc := 175) (v := (v6 + 1)) (lv' := [(6, .int (v6 + 1)), (7, .int r3), (0, .ref (h 6)), (1, .int v1), (2, .int v2), (5, .int v5)]) hx hb dX6_enter_175 hl (k := 5) rfl (by rfl) (by decide) rfl (fun ls hl => ?_)
          refine lv_goto (pc := 178) (tgt := 67) hx hb dX6_enter_178 (by decide) ?_
          exact ih v1 v2 v5 (v6 + 1) S19 H locs hW ls (lv_sub hl [2, 3, 4, 5, 0] rfl) hf
        · have hf := zf c17 hf
          refine lv_aload_n (pc := 153) hx hb dX6_enter_153 rfl (lv_at hl 1 rfl) ?_
          refine xg_702 (pc := 154) C0 hu_6 hW mX_136 dX6_enter_154 ?_
          refine lv_iload (pc := 157) hx hb dX6_enter_157 (lv_at hl 5 rfl) ?_
          obtain ⟨i20, hf⟩ := zn hf
          refine xl_702 (pc := 159) C0 hW i20 dX6_enter_159 ?_
          refine lv_aload_n (pc := 160) hx hb dX6_enter_160 rfl (lv_at hl 1 rfl) ?_
          refine xg_703 (pc := 161) C0 hu_6 hW mX_139 dX6_enter_161 ?_
          refine lv_iload (pc := 164) hx hb dX6_enter_164 (lv_at hl 5 rfl) ?_
          obtain ⟨i21, hf⟩ := zn hf
          refine xl_703 (pc := 166) C0 hW i21 dX6_enter_166 ?_
          refine lv_isub (pc := 167) hx hb dX6_enter_167 ?_
          refine lv_goto (pc := 168) (tgt := 174) hx hb dX6_enter_168 (by decide) ?_
          obtain ⟨i22, hf⟩ := zn hf
          obtain ⟨S23, e_S23, hf⟩ := zL_e hf
          refine xs_s704 (pc := 174) C0 hW i22 e_S23 dX6_enter_174 (fun H locs hW => ?_)
          refine lv_iinc (pc := 175) (v := (v6 + 1)) (lv' := [(6, .int (v6 + 1)), (7, .int r3), (0, .ref (h 6)), (1, .int v1), (2, .int v2), (5, .int v5)]) hx hb dX6_enter_175 hl (k := 5) rfl (by rfl) (by decide) rfl (fun ls hl => ?_)
          refine lv_goto (pc := 178) (tgt := 67) hx hb dX6_enter_178 (by decide) ?_
          exact ih v1 v2 v5 (v6 + 1) S23 H locs hW ls (lv_sub hl [2, 3, 4, 5, 0] rfl) hf
  have w6 : ∀ (n : Nat), ∀ (v1 : Int32) (v2 : Int32) (v3 : Int32) (v4 : Int32) (v5 : Int32) (S : zSt) (H : Heap) (locs : List Loc), zW (zEX tt) D (tX cA) (wX cA h S) (aW (hsX h) s.heap.size) s H locs → ∀ ls : Array Slot, lv_has ls 8 [(0, .ref (h 6)), (1, .int v1), (2, .int v2), (3, .int v3), (4, .int v4), (5, .int v5)] → fX6_enter_b6 N n v1 v2 v3 v4 v5 S = some S1 → W p l e rmX6_enter s m args below meth c H locs 0 0 Q (F0 m 6 ls []) := by
    intro n
    induction n with
    | zero =>
      intro v1 v2 v3 v4 v5 S H locs hW ls hl hf
      exact absurd hf (by intro h; cases h)
    | succ n ih =>
      intro v1 v2 v3 v4 v5 S H locs hW ls hl hf
      rw [fX6_enter_b6] at hf
      refine lv_iload (pc := 6) hx hb dX6_enter_6 (lv_at hl 5 rfl) ?_
      refine lv_aload_n (pc := 8) hx hb dX6_enter_8 rfl (lv_at hl 0 rfl) ?_
      refine xg_705 (pc := 9) C0 hu_6 hW mX_135 dX6_enter_9 ?_
      refine lv_icmp_ge (pc := 12) (tgt := 53) hx hb dX6_enter_12 (by decide) (fun c24 => ?_) (fun c24 => ?_)
      · have hf := zt c24 hf
        refine lv_iload (pc := 53) hx hb dX6_enter_53 (lv_at hl 4 rfl) ?_
        refine lv_aload_n (pc := 55) hx hb dX6_enter_55 rfl (lv_at hl 0 rfl) ?_
        refine xg_705 (pc := 56) C0 hu_6 hW mX_135 dX6_enter_56 ?_
        obtain ⟨r25, e27, hf⟩ := zU_e hf
        refine zcNi (As := [.int v4, .int (S.1 705)]) (pc := 59) C0 hW (kX11_quotient l H.size v4 (S.1 705) r25 e27) ⟨va_cnB 2 hts (zgN gaX mX_152) rfl rfl rfl hW.2.2.2.2.2.2.2.2.2.2.2.2.2.2.2.2.2.2.2.2.2.1 (hts _ mX_151) (by decide +kernel) ⟨Nat.le_of_ble_eq_true rfl, Nat.le_of_ble_eq_true rfl⟩, hts _ mX_150, trivial⟩ rfl hl.1 rfl (Nat.le_of_ble_eq_true rfl) dX6_enter_59 (fun H locs hW => ?_)
        refine lv_istore (pc := 62) (lv' := [(5, .int r25), (0, .ref (h 6)), (1, .int v1), (2, .int v2), (3, .int v3), (4, .int v4)]) hx hb dX6_enter_62 hl (by decide) rfl (fun ls hl => ?_)
        refine lv_iconst (pc := 64) (v := 0) hx hb dX6_enter_64 (by decide) ?_
        refine lv_istore (pc := 65) (lv' := [(6, .int 0), (5, .int r25), (0, .ref (h 6)), (1, .int v1), (2, .int v2), (3, .int v3), (4, .int v4)]) hx hb dX6_enter_65 hl (by decide) rfl (fun ls hl => ?_)
        exact w67 N v1 v2 r25 0 S H locs hW ls (lv_sub hl [2, 3, 4, 1, 0] rfl) hf
      · have hf := zf c24 hf
        refine lv_aload_n (pc := 15) hx hb dX6_enter_15 rfl (lv_at hl 0 rfl) ?_
        refine xg_702 (pc := 16) C0 hu_6 hW mX_136 dX6_enter_16 ?_
        refine lv_iload (pc := 19) hx hb dX6_enter_19 (lv_at hl 5 rfl) ?_
        refine lv_aload_n (pc := 21) hx hb dX6_enter_21 rfl (lv_at hl 0 rfl) ?_
        refine lv_aload_n (pc := 22) hx hb dX6_enter_22 rfl (lv_at hl 0 rfl) ?_
        refine xg_701 (pc := 23) C0 hu_6 hW mX_137 dX6_enter_23 ?_
        refine lv_iload (pc := 26) hx hb dX6_enter_26 (lv_at hl 5 rfl) ?_
        obtain ⟨i28, hf⟩ := zn hf
        refine xl_701 (pc := 28) C0 hW i28 dX6_enter_28 ?_
        refine lv_iload_n (pc := 29) hx hb dX6_enter_29 rfl (lv_at hl 1 rfl) ?_
        refine lv_iload_n (pc := 30) hx hb dX6_enter_30 rfl (lv_at hl 3 rfl) ?_
        obtain ⟨r29, S30, e31, hf⟩ := zB_e hf
        refine zcVi (zEX_ok tt) (As := [.int (S.2.1 701 (Int32.toNatClampNeg v5)), .int v1, .int v3]) (pc := 31) C0 hW (kX6_holdAlike l D cA h tt H.size (S.2.1 701 (Int32.toNatClampNeg v5)) v1 v3 S r29 S30 e31) (cwV 3 hts (zgV gaX mX_142 mX_143 mX_144 mX_133 mX_145) rfl rfl rfl (by decide +kernel) ⟨Nat.le_of_ble_eq_true rfl, Nat.le_of_ble_eq_true rfl⟩) (va_recv hW.1 hW.2.1 (ci := 6) (q0 := 6) rfl rfl) rfl hl.1 rfl (Nat.le_of_ble_eq_true rfl) dX6_enter_31 (fun H locs hW => ?_)
        obtain ⟨i32, hf⟩ := zn hf
        obtain ⟨S33, e_S33, hf⟩ := zL_e hf
        refine xs_s702 (pc := 34) C0 hW i32 e_S33 dX6_enter_34 (fun H locs hW => ?_)
        refine lv_iload (pc := 35) hx hb dX6_enter_35 (lv_at hl 4 rfl) ?_
        refine lv_aload_n (pc := 37) hx hb dX6_enter_37 rfl (lv_at hl 0 rfl) ?_
        refine xg_702 (pc := 38) C0 hu_6 hW mX_136 dX6_enter_38 ?_
        refine lv_iload (pc := 41) hx hb dX6_enter_41 (lv_at hl 5 rfl) ?_
        obtain ⟨i34, hf⟩ := zn hf
        refine xl_702 (pc := 43) C0 hW i34 dX6_enter_43 ?_
        refine lv_iadd (pc := 44) hx hb dX6_enter_44 ?_
        obtain ⟨x35, e_x35, hf⟩ := zL_e hf
        refine ztopi e_x35 ?_
        refine lv_istore (pc := 45) (lv' := [(4, .int x35), (0, .ref (h 6)), (1, .int v1), (2, .int v2), (3, .int v3), (5, .int v5)]) hx hb dX6_enter_45 hl (by decide) rfl (fun ls hl => ?_)
        refine lv_iinc (pc := 47) (v := (v5 + 1)) (lv' := [(5, .int (v5 + 1)), (4, .int x35), (0, .ref (h 6)), (1, .int v1), (2, .int v2), (3, .int v3)]) hx hb dX6_enter_47 hl (k := 5) rfl (by rfl) (by decide) rfl (fun ls hl => ?_)
        refine lv_goto (pc := 50) (tgt := 6) hx hb dX6_enter_50 (by decide) ?_
        exact ih v1 v2 v3 x35 (v5 + 1) S33 H locs hW ls (lv_sub hl [2, 3, 4, 5, 1, 0] rfl) hf
  unfold fX6_enter at hf
  refine lv_iconst (pc := 0) (v := 0) hx hb dX6_enter_0 (by decide) ?_
  refine lv_istore (pc := 1) (lv' := [(4, .int 0), (0, .ref (h 6)), (1, .int p1), (2, .int p2), (3, .int p3)]) hx hb dX6_enter_1 hl (by decide) rfl (fun ls hl => ?_)
  refine lv_iconst (pc := 3) (v := 0) hx hb dX6_enter_3 (by decide) ?_
  refine lv_istore (pc := 4) (lv' := [(5, .int 0), (4, .int 0), (0, .ref (h 6)), (1, .int p1), (2, .int p2), (3, .int p3)]) hx hb dX6_enter_4 hl (by decide) rfl (fun ls hl => ?_)
  exact w6 N p1 p2 p3 0 0 S H locs hW ls (lv_sub hl [2, 3, 4, 5, 1, 0] rfl) hf

def fX8_slot (p1 : Int32) (p2 : Int32): Option Int32 :=
  some (((p1 * 12) + p2) * 3)
abbrev wX8_slot : List Cond := Cond.code yX8_slot cX8_slot 2 (some .int) :: waX
abbrev rmX8_slot : Room := { frames := 0, cells := 0, slots := 0, locals := 0 }
set_option maxHeartbeats 4000000 in
set_option maxRecDepth 100000 in
theorem kX8_slot (l : Launch) (sz : Nat) (p1 : Int32) (p2 : Int32) (r : Int32) (hf : fX8_slot p1 p2 = some r) : zMs l yX8_slot wX8_slot rmX8_slot [.int p1, .int p2] sz r := by
  refine zEs_i (cc := cX8_slot) (maxL := 2) (own := RX8) (by decide) rfl rfl (Nat.le_of_ble_eq_true rfl) ?_
  intro p e s m args below meth c Q H locs C0 hW fin ls hl
  have hl : lv_has ls 2 [(0, .int p1), (1, .int p2)] := hl
  have hx := C0.1
  have hb := C0.2.1
  have hown := C0.2.2.2.1
  have hts := C0.2.2.2.2
  unfold fX8_slot at hf
  refine lv_iload_n (pc := 0) hx hb dX8_slot_0 rfl (lv_at hl 0 rfl) ?_
  refine lv_bipush (pc := 1) (v := 12) hx hb dX8_slot_1 (by decide) ?_
  refine lv_imul (pc := 3) hx hb dX8_slot_3 ?_
  refine lv_iload_n (pc := 4) hx hb dX8_slot_4 rfl (lv_at hl 1 rfl) ?_
  refine lv_iadd (pc := 5) hx hb dX8_slot_5 ?_
  refine lv_iconst (pc := 6) (v := 3) hx hb dX8_slot_6 (by decide) ?_
  refine lv_imul (pc := 7) hx hb dX8_slot_7 ?_
  exact zens_i fin hf hW dX8_slot_8

def fX8_told (p1 : Int32) (p2 : Int32) (p3 : Int32) (S : zSt) : Option (Int32 × zSt) :=
  zU (fX8_slot p1 p2) fun r1 => zB (fX8_valueAt (r1 + p3) S) fun r4 S5 => some (r4, S5)
abbrev wX8_told : List Cond := Cond.code yX8_told cX8_told 4 (some .int) :: waX
abbrev rmX8_told : Room := { frames := 1, cells := 0, slots := 0, locals := 21 }
set_option maxHeartbeats 4000000 in
set_option maxRecDepth 100000 in
theorem kX8_told (l : Launch) (D : va_G) (cA : Nat → ClassId) (h tt : Nat → Nat) (sz : Nat)  (p1 : Int32) (p2 : Int32) (p3 : Int32) (S : zSt) (r : Int32) (S1 : zSt) (hf : fX8_told p1 p2 p3 S = some (r, S1)) : zMi l yX8_told wX8_told rmX8_told (zEX tt) D (tX cA) (hsX h) [.ref (h 8), .int p1, .int p2, .int p3] (wX cA h S) (wX cA h S1) sz r := by
  refine zEn_i (cc := cX8_told) (maxL := 4) (own := RX8) (by decide) rfl rfl (hmX cA h S) (Nat.le_of_ble_eq_true rfl) ?_
  intro p e s m args below meth c Q H locs C0 hW fin ls hl
  have hl : lv_has ls 4 [(0, .ref (h 8)), (1, .int p1), (2, .int p2), (3, .int p3)] := hl
  have hx := C0.1
  have hb := C0.2.1
  have hown := C0.2.2.2.1
  have hts := C0.2.2.2.2
  unfold fX8_told at hf
  refine lv_aload_n (pc := 0) hx hb dX8_told_0 rfl (lv_at hl 0 rfl) ?_
  refine lv_iload_n (pc := 1) hx hb dX8_told_1 rfl (lv_at hl 1 rfl) ?_
  refine lv_iload_n (pc := 2) hx hb dX8_told_2 rfl (lv_at hl 2 rfl) ?_
  obtain ⟨r1, e3, hf⟩ := zU_e hf
  refine zcSi (As := [.int p1, .int p2]) (pc := 3) C0 hW (kX8_slot l H.size p1 p2 r1 e3) (va_cwS 2 hts (zgS gaX mX_118 mX_119 mX_66 mX_120) rfl rfl rfl (by decide +kernel) ⟨Nat.le_of_ble_eq_true rfl, Nat.le_of_ble_eq_true rfl⟩) rfl hl.1 rfl (Nat.le_of_ble_eq_true rfl) dX8_told_3 (fun H locs hW => ?_)
  refine lv_iload_n (pc := 6) hx hb dX8_told_6 rfl (lv_at hl 3 rfl) ?_
  refine lv_iadd (pc := 7) hx hb dX8_told_7 ?_
  obtain ⟨r4, S5, e6, hf⟩ := zB_e hf
  refine zcVi (zEX_ok tt) (As := [.int (r1 + p3)]) (pc := 8) C0 hW (kX8_valueAt l D cA h tt H.size (r1 + p3) S r4 S5 e6) (cwV 1 hts (zgV gaX mX_121 mX_64 mX_65 mX_66 mX_67) rfl rfl rfl (by decide +kernel) ⟨Nat.le_of_ble_eq_true rfl, Nat.le_of_ble_eq_true rfl⟩) (va_recv hW.1 hW.2.1 (ci := 8) (q0 := 8) rfl rfl) rfl hl.1 rfl (Nat.le_of_ble_eq_true rfl) dX8_told_8 (fun H locs hW => ?_)
  exact zend_i (w := wX cA h) fin hf hW dX8_told_11

def fX8_depthAt (p1 : Int32) (p2 : Int32) (p3 : Int32) (S : zSt) : Option (Int32 × zSt) :=
  zB (fX8_told p1 p2 0 S) fun r1 S2 => some ((zmx 0 (r1 + p3)), S2)
abbrev wX8_depthAt : List Cond := Cond.code yX8_depthAt cX8_depthAt 4 (some .int) :: waX
abbrev rmX8_depthAt : Room := { frames := 2, cells := 0, slots := 0, locals := 44 }
set_option maxHeartbeats 4000000 in
set_option maxRecDepth 100000 in
theorem kX8_depthAt (l : Launch) (D : va_G) (cA : Nat → ClassId) (h tt : Nat → Nat) (sz : Nat)  (p1 : Int32) (p2 : Int32) (p3 : Int32) (S : zSt) (r : Int32) (S1 : zSt) (hf : fX8_depthAt p1 p2 p3 S = some (r, S1)) : zMi l yX8_depthAt wX8_depthAt rmX8_depthAt (zEX tt) D (tX cA) (hsX h) [.ref (h 8), .int p1, .int p2, .int p3] (wX cA h S) (wX cA h S1) sz r := by
  refine zEn_i (cc := cX8_depthAt) (maxL := 4) (own := RX8) (by decide) rfl rfl (hmX cA h S) (Nat.le_of_ble_eq_true rfl) ?_
  intro p e s m args below meth c Q H locs C0 hW fin ls hl
  have hl : lv_has ls 4 [(0, .ref (h 8)), (1, .int p1), (2, .int p2), (3, .int p3)] := hl
  have hx := C0.1
  have hb := C0.2.1
  have hown := C0.2.2.2.1
  have hts := C0.2.2.2.2
  unfold fX8_depthAt at hf
  refine lv_iconst (pc := 0) (v := 0) hx hb dX8_depthAt_0 (by decide) ?_
  refine lv_aload_n (pc := 1) hx hb dX8_depthAt_1 rfl (lv_at hl 0 rfl) ?_
  refine lv_iload_n (pc := 2) hx hb dX8_depthAt_2 rfl (lv_at hl 1 rfl) ?_
  refine lv_iload_n (pc := 3) hx hb dX8_depthAt_3 rfl (lv_at hl 2 rfl) ?_
  refine lv_iconst (pc := 4) (v := 0) hx hb dX8_depthAt_4 (by decide) ?_
  obtain ⟨r1, S2, e3, hf⟩ := zB_e hf
  refine zcVi (zEX_ok tt) (As := [.int p1, .int p2, .int 0]) (pc := 5) C0 hW (kX8_told l D cA h tt H.size p1 p2 0 S r1 S2 e3) (cwV 3 hts (zgV gaX mX_114 mX_115 mX_116 mX_66 mX_117) rfl rfl rfl (by decide +kernel) ⟨Nat.le_of_ble_eq_true rfl, Nat.le_of_ble_eq_true rfl⟩) (va_recv hW.1 hW.2.1 (ci := 8) (q0 := 8) rfl rfl) rfl hl.1 rfl (Nat.le_of_ble_eq_true rfl) dX8_depthAt_5 (fun H locs hW => ?_)
  refine lv_iload_n (pc := 8) hx hb dX8_depthAt_8 rfl (lv_at hl 3 rfl) ?_
  refine lv_iadd (pc := 9) hx hb dX8_depthAt_9 ?_
  refine va_mmax (pc := 10) hx hb (C0.2.2.1.trans hl.1.symm) hown (hts _ mX_126) (hts _ mX_127) (hts _ mX_28) (hts _ mX_128) (Nat.le_of_ble_eq_true rfl) (Nat.le_of_ble_eq_true rfl) (Nat.zero_le _) (Nat.zero_le _) dX8_depthAt_10 ?_
  exact zend_i (w := wX cA h) fin hf hW dX8_depthAt_13

def fX8_paceAt (p1 : Int32) (p2 : Int32) (p3 : Int32) (S : zSt) : Option (Int32 × zSt) :=
  zB (fX8_told p1 p2 1 S) fun r1 S2 => some (((r1 * (20 + p3)) / 20), S2)
abbrev wX8_paceAt : List Cond := Cond.code yX8_paceAt cX8_paceAt 4 (some .int) :: waX
abbrev rmX8_paceAt : Room := { frames := 2, cells := 0, slots := 0, locals := 44 }
set_option maxHeartbeats 4000000 in
set_option maxRecDepth 100000 in
theorem kX8_paceAt (l : Launch) (D : va_G) (cA : Nat → ClassId) (h tt : Nat → Nat) (sz : Nat)  (p1 : Int32) (p2 : Int32) (p3 : Int32) (S : zSt) (r : Int32) (S1 : zSt) (hf : fX8_paceAt p1 p2 p3 S = some (r, S1)) : zMi l yX8_paceAt wX8_paceAt rmX8_paceAt (zEX tt) D (tX cA) (hsX h) [.ref (h 8), .int p1, .int p2, .int p3] (wX cA h S) (wX cA h S1) sz r := by
  refine zEn_i (cc := cX8_paceAt) (maxL := 4) (own := RX8) (by decide) rfl rfl (hmX cA h S) (Nat.le_of_ble_eq_true rfl) ?_
  intro p e s m args below meth c Q H locs C0 hW fin ls hl
  have hl : lv_has ls 4 [(0, .ref (h 8)), (1, .int p1), (2, .int p2), (3, .int p3)] := hl
  have hx := C0.1
  have hb := C0.2.1
  have hown := C0.2.2.2.1
  have hts := C0.2.2.2.2
  unfold fX8_paceAt at hf
  refine lv_aload_n (pc := 0) hx hb dX8_paceAt_0 rfl (lv_at hl 0 rfl) ?_
  refine lv_iload_n (pc := 1) hx hb dX8_paceAt_1 rfl (lv_at hl 1 rfl) ?_
  refine lv_iload_n (pc := 2) hx hb dX8_paceAt_2 rfl (lv_at hl 2 rfl) ?_
  refine lv_iconst (pc := 3) (v := 1) hx hb dX8_paceAt_3 (by decide) ?_
  obtain ⟨r1, S2, e3, hf⟩ := zB_e hf
  refine zcVi (zEX_ok tt) (As := [.int p1, .int p2, .int 1]) (pc := 4) C0 hW (kX8_told l D cA h tt H.size p1 p2 1 S r1 S2 e3) (cwV 3 hts (zgV gaX mX_114 mX_115 mX_116 mX_66 mX_117) rfl rfl rfl (by decide +kernel) ⟨Nat.le_of_ble_eq_true rfl, Nat.le_of_ble_eq_true rfl⟩) (va_recv hW.1 hW.2.1 (ci := 8) (q0 := 8) rfl rfl) rfl hl.1 rfl (Nat.le_of_ble_eq_true rfl) dX8_paceAt_4 (fun H locs hW => ?_)
  refine lv_bipush (pc := 7) (v := 20) hx hb dX8_paceAt_7 (by decide) ?_
  refine lv_iload_n (pc := 9) hx hb dX8_paceAt_9 rfl (lv_at hl 3 rfl) ?_
  refine lv_iadd (pc := 10) hx hb dX8_paceAt_10 ?_
  refine lv_imul (pc := 11) hx hb dX8_paceAt_11 ?_
  refine lv_bipush (pc := 12) (v := 20) hx hb dX8_paceAt_12 (by decide) ?_
  refine lv_idiv (pc := 14) hx hb dX8_paceAt_14 (by decide) ?_
  exact zend_i (w := wX cA h) fin hf hW dX8_paceAt_15

def fX2_enter (N : Nat) (p1 : Int32) (p2 : Int32) (p3 : Int32) (p4 : Int32) (S : zSt) : Option zSt :=
  zB (fX8_paceAt p1 p2 p3 S) fun r1 S2 => zB (fX8_depthAt p1 p2 p3 S2) fun r4 S5 => zB (fX8_told p1 p2 2 S5) fun r7 S8 => zU (fX6_enter N r4 (r1 + p4) r7 S8) fun S11 => some S11
abbrev wX2_enter : List Cond := Cond.code yX2_enter cX2_enter 6 none :: waX
abbrev rmX2_enter : Room := { frames := 3, cells := 0, slots := 0, locals := 77 }
set_option maxHeartbeats 4000000 in
set_option maxRecDepth 100000 in
theorem kX2_enter (l : Launch) (D : va_G) (cA : Nat → ClassId) (h tt : Nat → Nat) (sz : Nat) (N : Nat)  (p1 : Int32) (p2 : Int32) (p3 : Int32) (p4 : Int32) (S : zSt) (S1 : zSt) (hf : fX2_enter N p1 p2 p3 p4 S = some S1) : zMv l yX2_enter wX2_enter rmX2_enter (zEX tt) D (tX cA) (hsX h) [.ref (h 2), .int p1, .int p2, .int p3, .int p4] (wX cA h S) (wX cA h S1) sz := by
  refine zEn_v (cc := cX2_enter) (maxL := 6) (own := RX2) (by decide) rfl rfl (hmX cA h S) (Nat.le_of_ble_eq_true rfl) ?_
  intro p e s m args below meth c Q H locs C0 hW fin ls hl
  have hl : lv_has ls 6 [(0, .ref (h 2)), (1, .int p1), (2, .int p2), (3, .int p3), (4, .int p4)] := hl
  have hx := C0.1
  have hb := C0.2.1
  have hown := C0.2.2.2.1
  have hts := C0.2.2.2.2
  unfold fX2_enter at hf
  refine lv_aload_n (pc := 0) hx hb dX2_enter_0 rfl (lv_at hl 0 rfl) ?_
  refine xg_300 (pc := 1) C0 hu_2 hW mX_106 dX2_enter_1 ?_
  refine lv_iload_n (pc := 4) hx hb dX2_enter_4 rfl (lv_at hl 1 rfl) ?_
  refine lv_iload_n (pc := 5) hx hb dX2_enter_5 rfl (lv_at hl 2 rfl) ?_
  refine lv_iload_n (pc := 6) hx hb dX2_enter_6 rfl (lv_at hl 3 rfl) ?_
  obtain ⟨r1, S2, e3, hf⟩ := zB_e hf
  refine zcVi (zEX_ok tt) (As := [.int p1, .int p2, .int p3]) (pc := 7) C0 hW (kX8_paceAt l D cA h tt H.size p1 p2 p3 S r1 S2 e3) (cwV 3 hts (zgV gaX mX_110 mX_111 mX_112 mX_66 mX_113) rfl rfl rfl (by decide +kernel) ⟨Nat.le_of_ble_eq_true rfl, Nat.le_of_ble_eq_true rfl⟩) (va_recv hW.1 hW.2.1 (ci := 8) (q0 := 8) rfl rfl) rfl hl.1 rfl (Nat.le_of_ble_eq_true rfl) dX2_enter_7 (fun H locs hW => ?_)
  refine lv_iload (pc := 10) hx hb dX2_enter_10 (lv_at hl 4 rfl) ?_
  refine lv_iadd (pc := 12) hx hb dX2_enter_12 ?_
  refine lv_istore (pc := 13) (lv' := [(5, .int (r1 + p4)), (0, .ref (h 2)), (1, .int p1), (2, .int p2), (3, .int p3), (4, .int p4)]) hx hb dX2_enter_13 hl (by decide) rfl (fun ls hl => ?_)
  refine lv_aload_n (pc := 15) hx hb dX2_enter_15 rfl (lv_at hl 1 rfl) ?_
  refine xg_302 (pc := 16) C0 hu_2 hW mX_108 dX2_enter_16 ?_
  refine lv_aload_n (pc := 19) hx hb dX2_enter_19 rfl (lv_at hl 1 rfl) ?_
  refine xg_300 (pc := 20) C0 hu_2 hW mX_106 dX2_enter_20 ?_
  refine lv_iload_n (pc := 23) hx hb dX2_enter_23 rfl (lv_at hl 2 rfl) ?_
  refine lv_iload_n (pc := 24) hx hb dX2_enter_24 rfl (lv_at hl 3 rfl) ?_
  refine lv_iload_n (pc := 25) hx hb dX2_enter_25 rfl (lv_at hl 4 rfl) ?_
  obtain ⟨r4, S5, e6, hf⟩ := zB_e hf
  refine zcVi (zEX_ok tt) (As := [.int p1, .int p2, .int p3]) (pc := 26) C0 hW (kX8_depthAt l D cA h tt H.size p1 p2 p3 S2 r4 S5 e6) (cwV 3 hts (zgV gaX mX_122 mX_123 mX_124 mX_66 mX_125) rfl rfl rfl (by decide +kernel) ⟨Nat.le_of_ble_eq_true rfl, Nat.le_of_ble_eq_true rfl⟩) (va_recv hW.1 hW.2.1 (ci := 8) (q0 := 8) rfl rfl) rfl hl.1 rfl (Nat.le_of_ble_eq_true rfl) dX2_enter_26 (fun H locs hW => ?_)
  refine lv_iload (pc := 29) hx hb dX2_enter_29 (lv_at hl 0 rfl) ?_
  refine lv_aload_n (pc := 31) hx hb dX2_enter_31 rfl (lv_at hl 1 rfl) ?_
  refine xg_300 (pc := 32) C0 hu_2 hW mX_106 dX2_enter_32 ?_
  refine lv_iload_n (pc := 35) hx hb dX2_enter_35 rfl (lv_at hl 2 rfl) ?_
  refine lv_iload_n (pc := 36) hx hb dX2_enter_36 rfl (lv_at hl 3 rfl) ?_
  refine lv_iconst (pc := 37) (v := 2) hx hb dX2_enter_37 (by decide) ?_
  obtain ⟨r7, S8, e9, hf⟩ := zB_e hf
  refine zcVi (zEX_ok tt) (As := [.int p1, .int p2, .int 2]) (pc := 38) C0 hW (kX8_told l D cA h tt H.size p1 p2 2 S5 r7 S8 e9) (cwV 3 hts (zgV gaX mX_129 mX_115 mX_116 mX_66 mX_117) rfl rfl rfl (by decide +kernel) ⟨Nat.le_of_ble_eq_true rfl, Nat.le_of_ble_eq_true rfl⟩) (va_recv hW.1 hW.2.1 (ci := 8) (q0 := 8) rfl rfl) rfl hl.1 rfl (Nat.le_of_ble_eq_true rfl) dX2_enter_38 (fun H locs hW => ?_)
  obtain ⟨S11, e12, hf⟩ := zU_e hf
  refine zcVv (zEX_ok tt) (As := [.int r4, .int (r1 + p4), .int r7]) (pc := 41) C0 hW (kX6_enter l D cA h tt H.size N r4 (r1 + p4) r7 S8 S11 e12) (cwV 3 hts (zgV gaX mX_130 mX_131 mX_132 mX_133 mX_134) rfl rfl rfl (by decide +kernel) ⟨Nat.le_of_ble_eq_true rfl, Nat.le_of_ble_eq_true rfl⟩) (va_recv hW.1 hW.2.1 (ci := 6) (q0 := 6) rfl rfl) rfl hl.1 rfl (Nat.le_of_ble_eq_true rfl) dX2_enter_41 (fun H locs hW => ?_)
  exact zend_v (w := wX cA h) fin hf hW dX2_enter_44

def fX6_firstFaller_b2 (N : Nat) : Nat → Int32 → zSt → Option (Int32 × zSt)
  | 0, _, _ => none
  | n + 1, v1, S =>
    if (S.1 705) ≤ v1 then (some ((-2), S)) else (if zin v1 8 then if 0 ≤ (S.2.1 704 (Int32.toNatClampNeg v1)) then (fX6_firstFaller_b2 N n (v1 + 1) S) else (some (v1, S)) else none)
def fX6_firstFaller (N : Nat) (S : zSt) : Option (Int32 × zSt) :=
  fX6_firstFaller_b2 N N 0 S
abbrev wX6_firstFaller : List Cond := Cond.code yX6_firstFaller cX6_firstFaller 2 (some .int) :: waX
abbrev rmX6_firstFaller : Room := { frames := 0, cells := 0, slots := 0, locals := 0 }
set_option maxHeartbeats 4000000 in
set_option maxRecDepth 100000 in
theorem kX6_firstFaller (l : Launch) (D : va_G) (cA : Nat → ClassId) (h tt : Nat → Nat) (sz : Nat) (N : Nat)   (S : zSt) (r : Int32) (S1 : zSt) (hf : fX6_firstFaller N S = some (r, S1)) : zMi l yX6_firstFaller wX6_firstFaller rmX6_firstFaller (zEX tt) D (tX cA) (hsX h) [.ref (h 6)] (wX cA h S) (wX cA h S1) sz r := by
  refine zEn_i (cc := cX6_firstFaller) (maxL := 2) (own := RX6) (by decide) rfl rfl (hmX cA h S) (Nat.le_of_ble_eq_true rfl) ?_
  intro p e s m args below meth c Q H locs C0 hW fin ls hl
  have hl : lv_has ls 2 [(0, .ref (h 6))] := hl
  have hx := C0.1
  have hb := C0.2.1
  have hown := C0.2.2.2.1
  have hts := C0.2.2.2.2
  have w2 : ∀ (n : Nat), ∀ (v1 : Int32) (S : zSt) (H : Heap) (locs : List Loc), zW (zEX tt) D (tX cA) (wX cA h S) (aW (hsX h) s.heap.size) s H locs → ∀ ls : Array Slot, lv_has ls 2 [(0, .ref (h 6)), (1, .int v1)] → fX6_firstFaller_b2 N n v1 S = some (r, S1) → W p l e rmX6_firstFaller s m args below meth c H locs 0 0 Q (F0 m 2 ls []) := by
    intro n
    induction n with
    | zero =>
      intro v1 S H locs hW ls hl hf
      exact absurd hf (by intro h; cases h)
    | succ n ih =>
      intro v1 S H locs hW ls hl hf
      rw [fX6_firstFaller_b2] at hf
      refine lv_iload_n (pc := 2) hx hb dX6_firstFaller_2 rfl (lv_at hl 1 rfl) ?_
      refine lv_aload_n (pc := 3) hx hb dX6_firstFaller_3 rfl (lv_at hl 0 rfl) ?_
      refine xg_705 (pc := 4) C0 hu_6 hW mX_135 dX6_firstFaller_4 ?_
      refine lv_icmp_ge (pc := 7) (tgt := 27) hx hb dX6_firstFaller_7 (by decide) (fun c1 => ?_) (fun c1 => ?_)
      · have hf := zt c1 hf
        refine lv_bipush (pc := 27) (v := (-2)) hx hb dX6_firstFaller_27 (by decide) ?_
        exact zend_i (w := wX cA h) fin hf hW dX6_firstFaller_29
      · have hf := zf c1 hf
        refine lv_aload_n (pc := 10) hx hb dX6_firstFaller_10 rfl (lv_at hl 0 rfl) ?_
        refine xg_704 (pc := 11) C0 hu_6 hW mX_141 dX6_firstFaller_11 ?_
        refine lv_iload_n (pc := 14) hx hb dX6_firstFaller_14 rfl (lv_at hl 1 rfl) ?_
        obtain ⟨i2, hf⟩ := zn hf
        refine xl_704 (pc := 15) C0 hW i2 dX6_firstFaller_15 ?_
        refine lv_if_ge (pc := 16) (tgt := 21) hx hb dX6_firstFaller_16 (by decide) (fun c3 => ?_) (fun c3 => ?_)
        · have hf := zt c3 hf
          refine lv_iinc (pc := 21) (v := (v1 + 1)) (lv' := [(1, .int (v1 + 1)), (0, .ref (h 6))]) hx hb dX6_firstFaller_21 hl (k := 1) rfl (by rfl) (by decide) rfl (fun ls hl => ?_)
          refine lv_goto (pc := 24) (tgt := 2) hx hb dX6_firstFaller_24 (by decide) ?_
          exact ih (v1 + 1) S H locs hW ls (lv_sub hl [1, 0] rfl) hf
        · have hf := zf c3 hf
          refine lv_iload_n (pc := 19) hx hb dX6_firstFaller_19 rfl (lv_at hl 1 rfl) ?_
          exact zend_i (w := wX cA h) fin hf hW dX6_firstFaller_20
  unfold fX6_firstFaller at hf
  refine lv_iconst (pc := 0) (v := 0) hx hb dX6_firstFaller_0 (by decide) ?_
  refine lv_istore_n (pc := 1) (lv' := [(1, .int 0), (0, .ref (h 6))]) hx hb dX6_firstFaller_1 rfl hl (by decide) rfl (fun ls hl => ?_)
  exact w2 N 0 S H locs hW ls (lv_sub hl [1, 0] rfl) hf

def fX2_allStand (N : Nat) (p1 : Int32) (p2 : Int32) (p3 : Int32) (p4 : Int32) (S : zSt) : Option (Int32 × zSt) :=
  zU (fX2_enter N p1 p2 p3 p4 S) fun S2 => zB (fX6_firstFaller N S2) fun r4 S5 => if r4 = (-2) then (some (1, S5)) else (some (0, S5))
abbrev wX2_allStand : List Cond := Cond.code yX2_allStand cX2_allStand 5 (some .boolean) :: waX
abbrev rmX2_allStand : Room := { frames := 4, cells := 0, slots := 0, locals := 102 }
set_option maxHeartbeats 4000000 in
set_option maxRecDepth 100000 in
theorem kX2_allStand (l : Launch) (D : va_G) (cA : Nat → ClassId) (h tt : Nat → Nat) (sz : Nat) (N : Nat)  (p1 : Int32) (p2 : Int32) (p3 : Int32) (p4 : Int32) (S : zSt) (r : Int32) (S1 : zSt) (hf : fX2_allStand N p1 p2 p3 p4 S = some (r, S1)) : zMi l yX2_allStand wX2_allStand rmX2_allStand (zEX tt) D (tX cA) (hsX h) [.ref (h 2), .int p1, .int p2, .int p3, .int p4] (wX cA h S) (wX cA h S1) sz r := by
  refine zEn_z (cc := cX2_allStand) (maxL := 5) (own := RX2) (by decide) rfl rfl (hmX cA h S) (Nat.le_of_ble_eq_true rfl) ?_
  intro p e s m args below meth c Q H locs C0 hW fin ls hl
  have hl : lv_has ls 5 [(0, .ref (h 2)), (1, .int p1), (2, .int p2), (3, .int p3), (4, .int p4)] := hl
  have hx := C0.1
  have hb := C0.2.1
  have hown := C0.2.2.2.1
  have hts := C0.2.2.2.2
  unfold fX2_allStand at hf
  refine lv_aload_n (pc := 0) hx hb dX2_allStand_0 rfl (lv_at hl 0 rfl) ?_
  refine lv_iload_n (pc := 1) hx hb dX2_allStand_1 rfl (lv_at hl 1 rfl) ?_
  refine lv_iload_n (pc := 2) hx hb dX2_allStand_2 rfl (lv_at hl 2 rfl) ?_
  refine lv_iload_n (pc := 3) hx hb dX2_allStand_3 rfl (lv_at hl 3 rfl) ?_
  refine lv_iload (pc := 4) hx hb dX2_allStand_4 (lv_at hl 4 rfl) ?_
  obtain ⟨S2, e3, hf⟩ := zU_e hf
  refine zcVv (zEX_ok tt) (As := [.int p1, .int p2, .int p3, .int p4]) (pc := 6) C0 hW (kX2_enter l D cA h tt H.size N p1 p2 p3 p4 S S2 e3) (cwV 4 hts (zgV gaX mX_164 mX_165 mX_166 mX_167 mX_109) rfl rfl rfl (by decide +kernel) ⟨Nat.le_of_ble_eq_true rfl, Nat.le_of_ble_eq_true rfl⟩) (va_recv hW.1 hW.2.1 (ci := 2) (q0 := 2) rfl rfl) rfl hl.1 rfl (Nat.le_of_ble_eq_true rfl) dX2_allStand_6 (fun H locs hW => ?_)
  refine lv_aload_n (pc := 9) hx hb dX2_allStand_9 rfl (lv_at hl 0 rfl) ?_
  refine xg_302 (pc := 10) C0 hu_2 hW mX_108 dX2_allStand_10 ?_
  obtain ⟨r4, S5, e6, hf⟩ := zB_e hf
  refine zcVi (zEX_ok tt) (As := []) (pc := 13) C0 hW (kX6_firstFaller l D cA h tt H.size N S2 r4 S5 e6) (cwV 0 hts (zgV gaX mX_168 mX_169 mX_170 mX_133 mX_171) rfl rfl rfl (by decide +kernel) ⟨Nat.le_of_ble_eq_true rfl, Nat.le_of_ble_eq_true rfl⟩) (va_recv hW.1 hW.2.1 (ci := 6) (q0 := 6) rfl rfl) rfl hl.1 rfl (Nat.le_of_ble_eq_true rfl) dX2_allStand_13 (fun H locs hW => ?_)
  refine lv_bipush (pc := 16) (v := (-2)) hx hb dX2_allStand_16 (by decide) ?_
  refine lv_icmp_ne (pc := 18) (tgt := 25) hx hb dX2_allStand_18 (by decide) (fun c7 => ?_) (fun c7 => ?_)
  · have hf := zf c7 hf
    refine lv_iconst (pc := 25) (v := 0) hx hb dX2_allStand_25 (by decide) ?_
    exact zend_z (w := wX cA h) fin hf (by decide) hW dX2_allStand_26
  · have hf := zt c7 hf
    refine lv_iconst (pc := 21) (v := 1) hx hb dX2_allStand_21 (by decide) ?_
    refine lv_goto (pc := 22) (tgt := 26) hx hb dX2_allStand_22 (by decide) ?_
    exact zend_z (w := wX cA h) fin hf (by decide) hW dX2_allStand_26

def fX6_leastMargin_b5 (N : Nat) : Nat → Int32 → Int32 → zSt → Option (Int32 × zSt)
  | 0, _, _, _ => none
  | n + 1, v1, v2, S =>
    if (S.1 705) ≤ v2 then (some (v1, S)) else (if zin v2 8 then zL ((zmn v1 (S.2.1 704 (Int32.toNatClampNeg v2)))) fun (x3 : Int32) => fX6_leastMargin_b5 N n x3 (v2 + 1) S else none)
def fX6_leastMargin (N : Nat) (S : zSt) : Option (Int32 × zSt) :=
  fX6_leastMargin_b5 N N 2147483647 0 S
abbrev wX6_leastMargin : List Cond := Cond.code yX6_leastMargin cX6_leastMargin 3 (some .int) :: waX
abbrev rmX6_leastMargin : Room := { frames := 1, cells := 0, slots := 0, locals := 24 }
set_option maxHeartbeats 4000000 in
set_option maxRecDepth 100000 in
theorem kX6_leastMargin (l : Launch) (D : va_G) (cA : Nat → ClassId) (h tt : Nat → Nat) (sz : Nat) (N : Nat)   (S : zSt) (r : Int32) (S1 : zSt) (hf : fX6_leastMargin N S = some (r, S1)) : zMi l yX6_leastMargin wX6_leastMargin rmX6_leastMargin (zEX tt) D (tX cA) (hsX h) [.ref (h 6)] (wX cA h S) (wX cA h S1) sz r := by
  refine zEn_i (cc := cX6_leastMargin) (maxL := 3) (own := RX6) (by decide) rfl rfl (hmX cA h S) (Nat.le_of_ble_eq_true rfl) ?_
  intro p e s m args below meth c Q H locs C0 hW fin ls hl
  have hl : lv_has ls 3 [(0, .ref (h 6))] := hl
  have hx := C0.1
  have hb := C0.2.1
  have hown := C0.2.2.2.1
  have hts := C0.2.2.2.2
  have w5 : ∀ (n : Nat), ∀ (v1 : Int32) (v2 : Int32) (S : zSt) (H : Heap) (locs : List Loc), zW (zEX tt) D (tX cA) (wX cA h S) (aW (hsX h) s.heap.size) s H locs → ∀ ls : Array Slot, lv_has ls 3 [(0, .ref (h 6)), (1, .int v1), (2, .int v2)] → fX6_leastMargin_b5 N n v1 v2 S = some (r, S1) → W p l e rmX6_leastMargin s m args below meth c H locs 0 0 Q (F0 m 5 ls []) := by
    intro n
    induction n with
    | zero =>
      intro v1 v2 S H locs hW ls hl hf
      exact absurd hf (by intro h; cases h)
    | succ n ih =>
      intro v1 v2 S H locs hW ls hl hf
      rw [fX6_leastMargin_b5] at hf
      refine lv_iload_n (pc := 5) hx hb dX6_leastMargin_5 rfl (lv_at hl 2 rfl) ?_
      refine lv_aload_n (pc := 6) hx hb dX6_leastMargin_6 rfl (lv_at hl 0 rfl) ?_
      refine xg_705 (pc := 7) C0 hu_6 hW mX_135 dX6_leastMargin_7 ?_
      refine lv_icmp_ge (pc := 10) (tgt := 30) hx hb dX6_leastMargin_10 (by decide) (fun c1 => ?_) (fun c1 => ?_)
      · have hf := zt c1 hf
        refine lv_iload_n (pc := 30) hx hb dX6_leastMargin_30 rfl (lv_at hl 1 rfl) ?_
        exact zend_i (w := wX cA h) fin hf hW dX6_leastMargin_31
      · have hf := zf c1 hf
        refine lv_iload_n (pc := 13) hx hb dX6_leastMargin_13 rfl (lv_at hl 1 rfl) ?_
        refine lv_aload_n (pc := 14) hx hb dX6_leastMargin_14 rfl (lv_at hl 0 rfl) ?_
        refine xg_704 (pc := 15) C0 hu_6 hW mX_141 dX6_leastMargin_15 ?_
        refine lv_iload_n (pc := 18) hx hb dX6_leastMargin_18 rfl (lv_at hl 2 rfl) ?_
        obtain ⟨i2, hf⟩ := zn hf
        refine xl_704 (pc := 19) C0 hW i2 dX6_leastMargin_19 ?_
        refine va_mmin (pc := 20) hx hb (C0.2.2.1.trans hl.1.symm) hown (hts _ mX_140) (hts _ mX_27) (hts _ mX_28) (hts _ mX_29) (Nat.le_of_ble_eq_true rfl) (Nat.le_of_ble_eq_true rfl) (Nat.zero_le _) (Nat.zero_le _) dX6_leastMargin_20 ?_
        obtain ⟨x3, e_x3, hf⟩ := zL_e hf
        refine ztopi e_x3 ?_
        refine lv_istore_n (pc := 23) (lv' := [(1, .int x3), (0, .ref (h 6)), (2, .int v2)]) hx hb dX6_leastMargin_23 rfl hl (by decide) rfl (fun ls hl => ?_)
        refine lv_iinc (pc := 24) (v := (v2 + 1)) (lv' := [(2, .int (v2 + 1)), (1, .int x3), (0, .ref (h 6))]) hx hb dX6_leastMargin_24 hl (k := 2) rfl (by rfl) (by decide) rfl (fun ls hl => ?_)
        refine lv_goto (pc := 27) (tgt := 5) hx hb dX6_leastMargin_27 (by decide) ?_
        exact ih x3 (v2 + 1) S H locs hW ls (lv_sub hl [2, 1, 0] rfl) hf
  unfold fX6_leastMargin at hf
  refine lv_ldc (pc := 0) (v := 2147483647) hx hb hown (hts _ mX_189) dX6_leastMargin_0 ?_
  refine lv_istore_n (pc := 2) (lv' := [(1, .int 2147483647), (0, .ref (h 6))]) hx hb dX6_leastMargin_2 rfl hl (by decide) rfl (fun ls hl => ?_)
  refine lv_iconst (pc := 3) (v := 0) hx hb dX6_leastMargin_3 (by decide) ?_
  refine lv_istore_n (pc := 4) (lv' := [(2, .int 0), (1, .int 2147483647), (0, .ref (h 6))]) hx hb dX6_leastMargin_4 rfl hl (by decide) rfl (fun ls hl => ?_)
  exact w5 N 2147483647 0 S H locs hW ls (lv_sub hl [2, 1, 0] rfl) hf

def fX8_has (p1 : Int32) (S : zSt) : Option (Int32 × zSt) :=
  if p1 < 0 then (some (0, S)) else (if (S.1 904) ≤ p1 then (some (0, S)) else (some (1, S)))
abbrev wX8_has : List Cond := Cond.code yX8_has cX8_has 2 (some .boolean) :: waX
abbrev rmX8_has : Room := { frames := 0, cells := 0, slots := 0, locals := 0 }
set_option maxHeartbeats 4000000 in
set_option maxRecDepth 100000 in
theorem kX8_has (l : Launch) (D : va_G) (cA : Nat → ClassId) (h tt : Nat → Nat) (sz : Nat)  (p1 : Int32) (S : zSt) (r : Int32) (S1 : zSt) (hf : fX8_has p1 S = some (r, S1)) : zMi l yX8_has wX8_has rmX8_has (zEX tt) D (tX cA) (hsX h) [.ref (h 8), .int p1] (wX cA h S) (wX cA h S1) sz r := by
  refine zEn_z (cc := cX8_has) (maxL := 2) (own := RX8) (by decide) rfl rfl (hmX cA h S) (Nat.le_of_ble_eq_true rfl) ?_
  intro p e s m args below meth c Q H locs C0 hW fin ls hl
  have hl : lv_has ls 2 [(0, .ref (h 8)), (1, .int p1)] := hl
  have hx := C0.1
  have hb := C0.2.1
  have hown := C0.2.2.2.1
  have hts := C0.2.2.2.2
  unfold fX8_has at hf
  refine lv_iload_n (pc := 0) hx hb dX8_has_0 rfl (lv_at hl 1 rfl) ?_
  refine lv_if_lt (pc := 1) (tgt := 16) hx hb dX8_has_1 (by decide) (fun c1 => ?_) (fun c1 => ?_)
  · have hf := zt c1 hf
    refine lv_iconst (pc := 16) (v := 0) hx hb dX8_has_16 (by decide) ?_
    exact zend_z (w := wX cA h) fin hf (by decide) hW dX8_has_17
  · have hf := zf c1 hf
    refine lv_iload_n (pc := 4) hx hb dX8_has_4 rfl (lv_at hl 1 rfl) ?_
    refine lv_aload_n (pc := 5) hx hb dX8_has_5 rfl (lv_at hl 0 rfl) ?_
    refine xg_904 (pc := 6) C0 hu_8 hW mX_184 dX8_has_6 ?_
    refine lv_icmp_ge (pc := 9) (tgt := 16) hx hb dX8_has_9 (by decide) (fun c2 => ?_) (fun c2 => ?_)
    · have hf := zt c2 hf
      refine lv_iconst (pc := 16) (v := 0) hx hb dX8_has_16 (by decide) ?_
      exact zend_z (w := wX cA h) fin hf (by decide) hW dX8_has_17
    · have hf := zf c2 hf
      refine lv_iconst (pc := 12) (v := 1) hx hb dX8_has_12 (by decide) ?_
      refine lv_goto (pc := 13) (tgt := 17) hx hb dX8_has_13 (by decide) ?_
      exact zend_z (w := wX cA h) fin hf (by decide) hW dX8_has_17

def fX8_cellsOf (p1 : Int32) (S : zSt) : Option (Int32 × zSt) :=
  zB (fX8_has p1 S) fun r1 S2 => if r1 = 0 then (some (0, S2)) else (if zin p1 6 then some ((S2.2.1 902 (Int32.toNatClampNeg p1)), S2) else none)
abbrev wX8_cellsOf : List Cond := Cond.code yX8_cellsOf cX8_cellsOf 2 (some .int) :: waX
abbrev rmX8_cellsOf : Room := { frames := 1, cells := 0, slots := 0, locals := 21 }
set_option maxHeartbeats 4000000 in
set_option maxRecDepth 100000 in
theorem kX8_cellsOf (l : Launch) (D : va_G) (cA : Nat → ClassId) (h tt : Nat → Nat) (sz : Nat)  (p1 : Int32) (S : zSt) (r : Int32) (S1 : zSt) (hf : fX8_cellsOf p1 S = some (r, S1)) : zMi l yX8_cellsOf wX8_cellsOf rmX8_cellsOf (zEX tt) D (tX cA) (hsX h) [.ref (h 8), .int p1] (wX cA h S) (wX cA h S1) sz r := by
  refine zEn_i (cc := cX8_cellsOf) (maxL := 2) (own := RX8) (by decide) rfl rfl (hmX cA h S) (Nat.le_of_ble_eq_true rfl) ?_
  intro p e s m args below meth c Q H locs C0 hW fin ls hl
  have hl : lv_has ls 2 [(0, .ref (h 8)), (1, .int p1)] := hl
  have hx := C0.1
  have hb := C0.2.1
  have hown := C0.2.2.2.1
  have hts := C0.2.2.2.2
  unfold fX8_cellsOf at hf
  refine lv_aload_n (pc := 0) hx hb dX8_cellsOf_0 rfl (lv_at hl 0 rfl) ?_
  refine lv_iload_n (pc := 1) hx hb dX8_cellsOf_1 rfl (lv_at hl 1 rfl) ?_
  obtain ⟨r1, S2, e3, hf⟩ := zB_e hf
  refine zcVi (zEX_ok tt) (As := [.int p1]) (pc := 2) C0 hW (kX8_has l D cA h tt H.size p1 S r1 S2 e3) (cwV 1 hts (zgV gaX mX_180 mX_181 mX_182 mX_66 mX_183) rfl rfl rfl (by decide +kernel) ⟨Nat.le_of_ble_eq_true rfl, Nat.le_of_ble_eq_true rfl⟩) (va_recv hW.1 hW.2.1 (ci := 8) (q0 := 8) rfl rfl) rfl hl.1 rfl (Nat.le_of_ble_eq_true rfl) dX8_cellsOf_2 (fun H locs hW => ?_)
  refine lv_if_eq (pc := 5) (tgt := 17) hx hb dX8_cellsOf_5 (by decide) (fun c4 => ?_) (fun c4 => ?_)
  · have hf := zt c4 hf
    refine lv_iconst (pc := 17) (v := 0) hx hb dX8_cellsOf_17 (by decide) ?_
    exact zend_i (w := wX cA h) fin hf hW dX8_cellsOf_18
  · have hf := zf c4 hf
    refine lv_aload_n (pc := 8) hx hb dX8_cellsOf_8 rfl (lv_at hl 0 rfl) ?_
    refine xg_902 (pc := 9) C0 hu_8 hW mX_179 dX8_cellsOf_9 ?_
    refine lv_iload_n (pc := 12) hx hb dX8_cellsOf_12 rfl (lv_at hl 1 rfl) ?_
    obtain ⟨i5, hf⟩ := zn hf
    refine xl_902 (pc := 13) C0 hW i5 dX8_cellsOf_13 ?_
    refine lv_goto (pc := 14) (tgt := 18) hx hb dX8_cellsOf_14 (by decide) ?_
    exact zend_i (w := wX cA h) fin hf hW dX8_cellsOf_18

def fX2_leastMargin_b7 (N : Nat) : Nat → Int32 → Int32 → Int32 → Int32 → Int32 → zSt → Option (Int32 × zSt)
  | 0, _, _, _, _, _, _ => none
  | n + 1, v1, v2, v3, v4, v5, S =>
    zB (fX8_cellsOf v1 S) fun r1 S2 => if r1 ≤ v5 then (some (v4, S2)) else (if v4 ≤ v3 then (some (v4, S2)) else (zU (fX2_enter N v1 v5 v2 0 S2) fun S7 => zB (fX6_leastMargin N S7) fun r9 S10 => fX2_leastMargin_b7 N n v1 v2 v3 (zmn v4 r9) (v5 + 1) S10))
def fX2_leastMargin (N : Nat) (p1 : Int32) (p2 : Int32) (p3 : Int32) (S : zSt) : Option (Int32 × zSt) :=
  fX2_leastMargin_b7 N N p1 p2 p3 2147483647 0 S
abbrev wX2_leastMargin : List Cond := Cond.code yX2_leastMargin cX2_leastMargin 6 (some .int) :: waX
abbrev rmX2_leastMargin : Room := { frames := 4, cells := 0, slots := 0, locals := 102 }
set_option maxHeartbeats 4000000 in
set_option maxRecDepth 100000 in
theorem kX2_leastMargin (l : Launch) (D : va_G) (cA : Nat → ClassId) (h tt : Nat → Nat) (sz : Nat) (N : Nat)  (p1 : Int32) (p2 : Int32) (p3 : Int32) (S : zSt) (r : Int32) (S1 : zSt) (hf : fX2_leastMargin N p1 p2 p3 S = some (r, S1)) : zMi l yX2_leastMargin wX2_leastMargin rmX2_leastMargin (zEX tt) D (tX cA) (hsX h) [.ref (h 2), .int p1, .int p2, .int p3] (wX cA h S) (wX cA h S1) sz r := by
  refine zEn_i (cc := cX2_leastMargin) (maxL := 6) (own := RX2) (by decide) rfl rfl (hmX cA h S) (Nat.le_of_ble_eq_true rfl) ?_
  intro p e s m args below meth c Q H locs C0 hW fin ls hl
  have hl : lv_has ls 6 [(0, .ref (h 2)), (1, .int p1), (2, .int p2), (3, .int p3)] := hl
  have hx := C0.1
  have hb := C0.2.1
  have hown := C0.2.2.2.1
  have hts := C0.2.2.2.2
  have w7 : ∀ (n : Nat), ∀ (v1 : Int32) (v2 : Int32) (v3 : Int32) (v4 : Int32) (v5 : Int32) (S : zSt) (H : Heap) (locs : List Loc), zW (zEX tt) D (tX cA) (wX cA h S) (aW (hsX h) s.heap.size) s H locs → ∀ ls : Array Slot, lv_has ls 6 [(0, .ref (h 2)), (1, .int v1), (2, .int v2), (3, .int v3), (4, .int v4), (5, .int v5)] → fX2_leastMargin_b7 N n v1 v2 v3 v4 v5 S = some (r, S1) → W p l e rmX2_leastMargin s m args below meth c H locs 0 0 Q (F0 m 7 ls []) := by
    intro n
    induction n with
    | zero =>
      intro v1 v2 v3 v4 v5 S H locs hW ls hl hf
      exact absurd hf (by intro h; cases h)
    | succ n ih =>
      intro v1 v2 v3 v4 v5 S H locs hW ls hl hf
      rw [fX2_leastMargin_b7] at hf
      refine lv_iload (pc := 7) hx hb dX2_leastMargin_7 (lv_at hl 5 rfl) ?_
      refine lv_aload_n (pc := 9) hx hb dX2_leastMargin_9 rfl (lv_at hl 0 rfl) ?_
      refine xg_300 (pc := 10) C0 hu_2 hW mX_106 dX2_leastMargin_10 ?_
      refine lv_iload_n (pc := 13) hx hb dX2_leastMargin_13 rfl (lv_at hl 1 rfl) ?_
      obtain ⟨r1, S2, e3, hf⟩ := zB_e hf
      refine zcVi (zEX_ok tt) (As := [.int v1]) (pc := 14) C0 hW (kX8_cellsOf l D cA h tt H.size v1 S r1 S2 e3) (cwV 1 hts (zgV gaX mX_175 mX_176 mX_177 mX_66 mX_178) rfl rfl rfl (by decide +kernel) ⟨Nat.le_of_ble_eq_true rfl, Nat.le_of_ble_eq_true rfl⟩) (va_recv hW.1 hW.2.1 (ci := 8) (q0 := 8) rfl rfl) rfl hl.1 rfl (Nat.le_of_ble_eq_true rfl) dX2_leastMargin_14 (fun H locs hW => ?_)
      refine lv_icmp_ge (pc := 17) (tgt := 55) hx hb dX2_leastMargin_17 (by decide) (fun c4 => ?_) (fun c4 => ?_)
      · have hf := zt c4 hf
        refine lv_iload (pc := 55) hx hb dX2_leastMargin_55 (lv_at hl 4 rfl) ?_
        exact zend_i (w := wX cA h) fin hf hW dX2_leastMargin_57
      · have hf := zf c4 hf
        refine lv_iload (pc := 20) hx hb dX2_leastMargin_20 (lv_at hl 4 rfl) ?_
        refine lv_iload_n (pc := 22) hx hb dX2_leastMargin_22 rfl (lv_at hl 3 rfl) ?_
        refine lv_icmp_le (pc := 23) (tgt := 55) hx hb dX2_leastMargin_23 (by decide) (fun c5 => ?_) (fun c5 => ?_)
        · have hf := zt c5 hf
          refine lv_iload (pc := 55) hx hb dX2_leastMargin_55 (lv_at hl 4 rfl) ?_
          exact zend_i (w := wX cA h) fin hf hW dX2_leastMargin_57
        · have hf := zf c5 hf
          refine lv_aload_n (pc := 26) hx hb dX2_leastMargin_26 rfl (lv_at hl 0 rfl) ?_
          refine lv_iload_n (pc := 27) hx hb dX2_leastMargin_27 rfl (lv_at hl 1 rfl) ?_
          refine lv_iload (pc := 28) hx hb dX2_leastMargin_28 (lv_at hl 5 rfl) ?_
          refine lv_iload_n (pc := 30) hx hb dX2_leastMargin_30 rfl (lv_at hl 2 rfl) ?_
          refine lv_iconst (pc := 31) (v := 0) hx hb dX2_leastMargin_31 (by decide) ?_
          obtain ⟨S7, e8, hf⟩ := zU_e hf
          refine zcVv (zEX_ok tt) (As := [.int v1, .int v5, .int v2, .int 0]) (pc := 32) C0 hW (kX2_enter l D cA h tt H.size N v1 v5 v2 0 S2 S7 e8) (cwV 4 hts (zgV gaX mX_164 mX_165 mX_166 mX_167 mX_109) rfl rfl rfl (by decide +kernel) ⟨Nat.le_of_ble_eq_true rfl, Nat.le_of_ble_eq_true rfl⟩) (va_recv hW.1 hW.2.1 (ci := 2) (q0 := 2) rfl rfl) rfl hl.1 rfl (Nat.le_of_ble_eq_true rfl) dX2_leastMargin_32 (fun H locs hW => ?_)
          refine lv_iload (pc := 35) hx hb dX2_leastMargin_35 (lv_at hl 4 rfl) ?_
          refine lv_aload_n (pc := 37) hx hb dX2_leastMargin_37 rfl (lv_at hl 0 rfl) ?_
          refine xg_302 (pc := 38) C0 hu_2 hW mX_108 dX2_leastMargin_38 ?_
          obtain ⟨r9, S10, e11, hf⟩ := zB_e hf
          refine zcVi (zEX_ok tt) (As := []) (pc := 41) C0 hW (kX6_leastMargin l D cA h tt H.size N S7 r9 S10 e11) (cwV 0 hts (zgV gaX mX_185 mX_186 mX_187 mX_133 mX_188) rfl rfl rfl (by decide +kernel) ⟨Nat.le_of_ble_eq_true rfl, Nat.le_of_ble_eq_true rfl⟩) (va_recv hW.1 hW.2.1 (ci := 6) (q0 := 6) rfl rfl) rfl hl.1 rfl (Nat.le_of_ble_eq_true rfl) dX2_leastMargin_41 (fun H locs hW => ?_)
          refine va_mmin (pc := 44) hx hb (C0.2.2.1.trans hl.1.symm) hown (hts _ mX_174) (hts _ mX_27) (hts _ mX_28) (hts _ mX_29) (Nat.le_of_ble_eq_true rfl) (Nat.le_of_ble_eq_true rfl) (Nat.zero_le _) (Nat.zero_le _) dX2_leastMargin_44 ?_
          refine lv_istore (pc := 47) (lv' := [(4, .int (zmn v4 r9)), (0, .ref (h 2)), (1, .int v1), (2, .int v2), (3, .int v3), (5, .int v5)]) hx hb dX2_leastMargin_47 hl (by decide) rfl (fun ls hl => ?_)
          refine lv_iinc (pc := 49) (v := (v5 + 1)) (lv' := [(5, .int (v5 + 1)), (4, .int (zmn v4 r9)), (0, .ref (h 2)), (1, .int v1), (2, .int v2), (3, .int v3)]) hx hb dX2_leastMargin_49 hl (k := 5) rfl (by rfl) (by decide) rfl (fun ls hl => ?_)
          refine lv_goto (pc := 52) (tgt := 7) hx hb dX2_leastMargin_52 (by decide) ?_
          exact ih v1 v2 v3 (zmn v4 r9) (v5 + 1) S10 H locs hW ls (lv_sub hl [2, 3, 4, 5, 1, 0] rfl) hf
  unfold fX2_leastMargin at hf
  refine lv_ldc (pc := 0) (v := 2147483647) hx hb hown (hts _ mX_173) dX2_leastMargin_0 ?_
  refine lv_istore (pc := 2) (lv' := [(4, .int 2147483647), (0, .ref (h 2)), (1, .int p1), (2, .int p2), (3, .int p3)]) hx hb dX2_leastMargin_2 hl (by decide) rfl (fun ls hl => ?_)
  refine lv_iconst (pc := 4) (v := 0) hx hb dX2_leastMargin_4 (by decide) ?_
  refine lv_istore (pc := 5) (lv' := [(5, .int 0), (4, .int 2147483647), (0, .ref (h 2)), (1, .int p1), (2, .int p2), (3, .int p3)]) hx hb dX2_leastMargin_5 hl (by decide) rfl (fun ls hl => ?_)
  exact w7 N p1 p2 p3 2147483647 0 S H locs hW ls (lv_sub hl [2, 3, 4, 5, 1, 0] rfl) hf

def fX2_firstFall_b2 (N : Nat) : Nat → Int32 → Int32 → Int32 → zSt → Option (Int32 × zSt)
  | 0, _, _, _, _ => none
  | n + 1, v1, v2, v3, S =>
    zB (fX8_cellsOf v1 S) fun r1 S2 => if r1 ≤ v3 then (some ((-2), S2)) else (zU (fX2_enter N v1 v3 v2 0 S2) fun S6 => zB (fX6_firstFaller N S6) fun r8 S9 => if r8 = (-2) then (fX2_firstFall_b2 N n v1 v2 (v3 + 1) S9) else (some (((100 * v3) + r8), S9)))
def fX2_firstFall (N : Nat) (p1 : Int32) (p2 : Int32) (S : zSt) : Option (Int32 × zSt) :=
  fX2_firstFall_b2 N N p1 p2 0 S
abbrev wX2_firstFall : List Cond := Cond.code yX2_firstFall cX2_firstFall 5 (some .int) :: waX
abbrev rmX2_firstFall : Room := { frames := 4, cells := 0, slots := 0, locals := 102 }
set_option maxHeartbeats 4000000 in
set_option maxRecDepth 100000 in
theorem kX2_firstFall (l : Launch) (D : va_G) (cA : Nat → ClassId) (h tt : Nat → Nat) (sz : Nat) (N : Nat)  (p1 : Int32) (p2 : Int32) (S : zSt) (r : Int32) (S1 : zSt) (hf : fX2_firstFall N p1 p2 S = some (r, S1)) : zMi l yX2_firstFall wX2_firstFall rmX2_firstFall (zEX tt) D (tX cA) (hsX h) [.ref (h 2), .int p1, .int p2] (wX cA h S) (wX cA h S1) sz r := by
  refine zEn_i (cc := cX2_firstFall) (maxL := 5) (own := RX2) (by decide) rfl rfl (hmX cA h S) (Nat.le_of_ble_eq_true rfl) ?_
  intro p e s m args below meth c Q H locs C0 hW fin ls hl
  have hl : lv_has ls 5 [(0, .ref (h 2)), (1, .int p1), (2, .int p2)] := hl
  have hx := C0.1
  have hb := C0.2.1
  have hown := C0.2.2.2.1
  have hts := C0.2.2.2.2
  have w2 : ∀ (n : Nat), ∀ (v1 : Int32) (v2 : Int32) (v3 : Int32) (S : zSt) (H : Heap) (locs : List Loc), zW (zEX tt) D (tX cA) (wX cA h S) (aW (hsX h) s.heap.size) s H locs → ∀ ls : Array Slot, lv_has ls 5 [(0, .ref (h 2)), (1, .int v1), (2, .int v2), (3, .int v3)] → fX2_firstFall_b2 N n v1 v2 v3 S = some (r, S1) → W p l e rmX2_firstFall s m args below meth c H locs 0 0 Q (F0 m 2 ls []) := by
    intro n
    induction n with
    | zero =>
      intro v1 v2 v3 S H locs hW ls hl hf
      exact absurd hf (by intro h; cases h)
    | succ n ih =>
      intro v1 v2 v3 S H locs hW ls hl hf
      rw [fX2_firstFall_b2] at hf
      refine lv_iload_n (pc := 2) hx hb dX2_firstFall_2 rfl (lv_at hl 3 rfl) ?_
      refine lv_aload_n (pc := 3) hx hb dX2_firstFall_3 rfl (lv_at hl 0 rfl) ?_
      refine xg_300 (pc := 4) C0 hu_2 hW mX_106 dX2_firstFall_4 ?_
      refine lv_iload_n (pc := 7) hx hb dX2_firstFall_7 rfl (lv_at hl 1 rfl) ?_
      obtain ⟨r1, S2, e3, hf⟩ := zB_e hf
      refine zcVi (zEX_ok tt) (As := [.int v1]) (pc := 8) C0 hW (kX8_cellsOf l D cA h tt H.size v1 S r1 S2 e3) (cwV 1 hts (zgV gaX mX_175 mX_176 mX_177 mX_66 mX_178) rfl rfl rfl (by decide +kernel) ⟨Nat.le_of_ble_eq_true rfl, Nat.le_of_ble_eq_true rfl⟩) (va_recv hW.1 hW.2.1 (ci := 8) (q0 := 8) rfl rfl) rfl hl.1 rfl (Nat.le_of_ble_eq_true rfl) dX2_firstFall_8 (fun H locs hW => ?_)
      refine lv_icmp_ge (pc := 11) (tgt := 52) hx hb dX2_firstFall_11 (by decide) (fun c4 => ?_) (fun c4 => ?_)
      · have hf := zt c4 hf
        refine lv_bipush (pc := 52) (v := (-2)) hx hb dX2_firstFall_52 (by decide) ?_
        exact zend_i (w := wX cA h) fin hf hW dX2_firstFall_54
      · have hf := zf c4 hf
        refine lv_aload_n (pc := 14) hx hb dX2_firstFall_14 rfl (lv_at hl 0 rfl) ?_
        refine lv_iload_n (pc := 15) hx hb dX2_firstFall_15 rfl (lv_at hl 1 rfl) ?_
        refine lv_iload_n (pc := 16) hx hb dX2_firstFall_16 rfl (lv_at hl 3 rfl) ?_
        refine lv_iload_n (pc := 17) hx hb dX2_firstFall_17 rfl (lv_at hl 2 rfl) ?_
        refine lv_iconst (pc := 18) (v := 0) hx hb dX2_firstFall_18 (by decide) ?_
        obtain ⟨S6, e7, hf⟩ := zU_e hf
        refine zcVv (zEX_ok tt) (As := [.int v1, .int v3, .int v2, .int 0]) (pc := 19) C0 hW (kX2_enter l D cA h tt H.size N v1 v3 v2 0 S2 S6 e7) (cwV 4 hts (zgV gaX mX_164 mX_165 mX_166 mX_167 mX_109) rfl rfl rfl (by decide +kernel) ⟨Nat.le_of_ble_eq_true rfl, Nat.le_of_ble_eq_true rfl⟩) (va_recv hW.1 hW.2.1 (ci := 2) (q0 := 2) rfl rfl) rfl hl.1 rfl (Nat.le_of_ble_eq_true rfl) dX2_firstFall_19 (fun H locs hW => ?_)
        refine lv_aload_n (pc := 22) hx hb dX2_firstFall_22 rfl (lv_at hl 0 rfl) ?_
        refine xg_302 (pc := 23) C0 hu_2 hW mX_108 dX2_firstFall_23 ?_
        obtain ⟨r8, S9, e10, hf⟩ := zB_e hf
        refine zcVi (zEX_ok tt) (As := []) (pc := 26) C0 hW (kX6_firstFaller l D cA h tt H.size N S6 r8 S9 e10) (cwV 0 hts (zgV gaX mX_168 mX_169 mX_170 mX_133 mX_171) rfl rfl rfl (by decide +kernel) ⟨Nat.le_of_ble_eq_true rfl, Nat.le_of_ble_eq_true rfl⟩) (va_recv hW.1 hW.2.1 (ci := 6) (q0 := 6) rfl rfl) rfl hl.1 rfl (Nat.le_of_ble_eq_true rfl) dX2_firstFall_26 (fun H locs hW => ?_)
        refine lv_istore (pc := 29) (lv' := [(4, .int r8), (0, .ref (h 2)), (1, .int v1), (2, .int v2), (3, .int v3)]) hx hb dX2_firstFall_29 hl (by decide) rfl (fun ls hl => ?_)
        refine lv_iload (pc := 31) hx hb dX2_firstFall_31 (lv_at hl 0 rfl) ?_
        refine lv_bipush (pc := 33) (v := (-2)) hx hb dX2_firstFall_33 (by decide) ?_
        refine lv_icmp_eq (pc := 35) (tgt := 46) hx hb dX2_firstFall_35 (by decide) (fun c11 => ?_) (fun c11 => ?_)
        · have hf := zt c11 hf
          refine lv_iinc (pc := 46) (v := (v3 + 1)) (lv' := [(3, .int (v3 + 1)), (4, .int r8), (0, .ref (h 2)), (1, .int v1), (2, .int v2)]) hx hb dX2_firstFall_46 hl (k := 4) rfl (by rfl) (by decide) rfl (fun ls hl => ?_)
          refine lv_goto (pc := 49) (tgt := 2) hx hb dX2_firstFall_49 (by decide) ?_
          exact ih v1 v2 (v3 + 1) S9 H locs hW ls (lv_sub hl [2, 3, 4, 0] rfl) hf
        · have hf := zf c11 hf
          refine lv_bipush (pc := 38) (v := 100) hx hb dX2_firstFall_38 (by decide) ?_
          refine lv_iload_n (pc := 40) hx hb dX2_firstFall_40 rfl (lv_at hl 4 rfl) ?_
          refine lv_imul (pc := 41) hx hb dX2_firstFall_41 ?_
          refine lv_iload (pc := 42) hx hb dX2_firstFall_42 (lv_at hl 0 rfl) ?_
          refine lv_iadd (pc := 44) hx hb dX2_firstFall_44 ?_
          exact zend_i (w := wX cA h) fin hf hW dX2_firstFall_45
  unfold fX2_firstFall at hf
  refine lv_iconst (pc := 0) (v := 0) hx hb dX2_firstFall_0 (by decide) ?_
  refine lv_istore_n (pc := 1) (lv' := [(3, .int 0), (0, .ref (h 2)), (1, .int p1), (2, .int p2)]) hx hb dX2_firstFall_1 rfl hl (by decide) rfl (fun ls hl => ?_)
  exact w2 N p1 p2 0 S H locs hW ls (lv_sub hl [1, 2, 3, 0] rfl) hf

def fX2_prefer (p1 : Int32) (p2 : Int32) (S : zSt) : Option zSt :=
  if p2 ≤ (S.1 304) then (some S) else (zL (zI S 303 p1) fun S2 => zL (zI S2 304 p2) fun S3 => some S3)
abbrev wX2_prefer : List Cond := Cond.code yX2_prefer cX2_prefer 3 none :: waX
abbrev rmX2_prefer : Room := { frames := 0, cells := 0, slots := 0, locals := 0 }
set_option maxHeartbeats 4000000 in
set_option maxRecDepth 100000 in
theorem kX2_prefer (l : Launch) (D : va_G) (cA : Nat → ClassId) (h tt : Nat → Nat) (sz : Nat)  (p1 : Int32) (p2 : Int32) (S : zSt) (S1 : zSt) (hf : fX2_prefer p1 p2 S = some S1) : zMv l yX2_prefer wX2_prefer rmX2_prefer (zEX tt) D (tX cA) (hsX h) [.ref (h 2), .int p1, .int p2] (wX cA h S) (wX cA h S1) sz := by
  refine zEn_v (cc := cX2_prefer) (maxL := 3) (own := RX2) (by decide) rfl rfl (hmX cA h S) (Nat.le_of_ble_eq_true rfl) ?_
  intro p e s m args below meth c Q H locs C0 hW fin ls hl
  have hl : lv_has ls 3 [(0, .ref (h 2)), (1, .int p1), (2, .int p2)] := hl
  have hx := C0.1
  have hb := C0.2.1
  have hown := C0.2.2.2.1
  have hts := C0.2.2.2.2
  unfold fX2_prefer at hf
  refine lv_iload_n (pc := 0) hx hb dX2_prefer_0 rfl (lv_at hl 2 rfl) ?_
  refine lv_aload_n (pc := 1) hx hb dX2_prefer_1 rfl (lv_at hl 0 rfl) ?_
  refine xg_304 (pc := 2) C0 hu_2 hW mX_194 dX2_prefer_2 ?_
  refine lv_icmp_le (pc := 5) (tgt := 18) hx hb dX2_prefer_5 (by decide) (fun c1 => ?_) (fun c1 => ?_)
  · have hf := zt c1 hf
    exact zend_v (w := wX cA h) fin hf hW dX2_prefer_18
  · have hf := zf c1 hf
    refine lv_aload_n (pc := 8) hx hb dX2_prefer_8 rfl (lv_at hl 0 rfl) ?_
    refine lv_iload_n (pc := 9) hx hb dX2_prefer_9 rfl (lv_at hl 1 rfl) ?_
    obtain ⟨S2, e_S2, hf⟩ := zL_e hf
    refine xp_303 (pc := 10) C0 hu_2 hW mX_192 e_S2 dX2_prefer_10 (fun H locs hW => ?_)
    refine lv_aload_n (pc := 13) hx hb dX2_prefer_13 rfl (lv_at hl 0 rfl) ?_
    refine lv_iload_n (pc := 14) hx hb dX2_prefer_14 rfl (lv_at hl 2 rfl) ?_
    obtain ⟨S3, e_S3, hf⟩ := zL_e hf
    refine xp_304 (pc := 15) C0 hu_2 hW mX_194 e_S3 dX2_prefer_15 (fun H locs hW => ?_)
    exact zend_v (w := wX cA h) fin hf hW dX2_prefer_18

def fX6_asDigits_b4 (N : Nat) : Nat → Int32 → Int32 → zSt → Option (Int32 × zSt)
  | 0, _, _, _ => none
  | n + 1, v1, v2, S =>
    if (S.1 705) ≤ v2 then (some (v1, S)) else (if zin v2 8 then zL ((((10 * v1) + (S.2.1 701 (Int32.toNatClampNeg v2))) + 1)) fun (x3 : Int32) => fX6_asDigits_b4 N n x3 (v2 + 1) S else none)
def fX6_asDigits (N : Nat) (S : zSt) : Option (Int32 × zSt) :=
  fX6_asDigits_b4 N N 0 0 S
abbrev wX6_asDigits : List Cond := Cond.code yX6_asDigits cX6_asDigits 3 (some .int) :: waX
abbrev rmX6_asDigits : Room := { frames := 0, cells := 0, slots := 0, locals := 0 }
set_option maxHeartbeats 4000000 in
set_option maxRecDepth 100000 in
theorem kX6_asDigits (l : Launch) (D : va_G) (cA : Nat → ClassId) (h tt : Nat → Nat) (sz : Nat) (N : Nat)   (S : zSt) (r : Int32) (S1 : zSt) (hf : fX6_asDigits N S = some (r, S1)) : zMi l yX6_asDigits wX6_asDigits rmX6_asDigits (zEX tt) D (tX cA) (hsX h) [.ref (h 6)] (wX cA h S) (wX cA h S1) sz r := by
  refine zEn_i (cc := cX6_asDigits) (maxL := 3) (own := RX6) (by decide) rfl rfl (hmX cA h S) (Nat.le_of_ble_eq_true rfl) ?_
  intro p e s m args below meth c Q H locs C0 hW fin ls hl
  have hl : lv_has ls 3 [(0, .ref (h 6))] := hl
  have hx := C0.1
  have hb := C0.2.1
  have hown := C0.2.2.2.1
  have hts := C0.2.2.2.2
  have w4 : ∀ (n : Nat), ∀ (v1 : Int32) (v2 : Int32) (S : zSt) (H : Heap) (locs : List Loc), zW (zEX tt) D (tX cA) (wX cA h S) (aW (hsX h) s.heap.size) s H locs → ∀ ls : Array Slot, lv_has ls 3 [(0, .ref (h 6)), (1, .int v1), (2, .int v2)] → fX6_asDigits_b4 N n v1 v2 S = some (r, S1) → W p l e rmX6_asDigits s m args below meth c H locs 0 0 Q (F0 m 4 ls []) := by
    intro n
    induction n with
    | zero =>
      intro v1 v2 S H locs hW ls hl hf
      exact absurd hf (by intro h; cases h)
    | succ n ih =>
      intro v1 v2 S H locs hW ls hl hf
      rw [fX6_asDigits_b4] at hf
      refine lv_iload_n (pc := 4) hx hb dX6_asDigits_4 rfl (lv_at hl 2 rfl) ?_
      refine lv_aload_n (pc := 5) hx hb dX6_asDigits_5 rfl (lv_at hl 0 rfl) ?_
      refine xg_705 (pc := 6) C0 hu_6 hW mX_135 dX6_asDigits_6 ?_
      refine lv_icmp_ge (pc := 9) (tgt := 32) hx hb dX6_asDigits_9 (by decide) (fun c1 => ?_) (fun c1 => ?_)
      · have hf := zt c1 hf
        refine lv_iload_n (pc := 32) hx hb dX6_asDigits_32 rfl (lv_at hl 1 rfl) ?_
        exact zend_i (w := wX cA h) fin hf hW dX6_asDigits_33
      · have hf := zf c1 hf
        refine lv_bipush (pc := 12) (v := 10) hx hb dX6_asDigits_12 (by decide) ?_
        refine lv_iload_n (pc := 14) hx hb dX6_asDigits_14 rfl (lv_at hl 1 rfl) ?_
        refine lv_imul (pc := 15) hx hb dX6_asDigits_15 ?_
        refine lv_aload_n (pc := 16) hx hb dX6_asDigits_16 rfl (lv_at hl 0 rfl) ?_
        refine xg_701 (pc := 17) C0 hu_6 hW mX_137 dX6_asDigits_17 ?_
        refine lv_iload_n (pc := 20) hx hb dX6_asDigits_20 rfl (lv_at hl 2 rfl) ?_
        obtain ⟨i2, hf⟩ := zn hf
        refine xl_701 (pc := 21) C0 hW i2 dX6_asDigits_21 ?_
        refine lv_iadd (pc := 22) hx hb dX6_asDigits_22 ?_
        refine lv_iconst (pc := 23) (v := 1) hx hb dX6_asDigits_23 (by decide) ?_
        refine lv_iadd (pc := 24) hx hb dX6_asDigits_24 ?_
        obtain ⟨x3, e_x3, hf⟩ := zL_e hf
        refine ztopi e_x3 ?_
        refine lv_istore_n (pc := 25) (lv' := [(1, .int x3), (0, .ref (h 6)), (2, .int v2)]) hx hb dX6_asDigits_25 rfl hl (by decide) rfl (fun ls hl => ?_)
        refine lv_iinc (pc := 26) (v := (v2 + 1)) (lv' := [(2, .int (v2 + 1)), (1, .int x3), (0, .ref (h 6))]) hx hb dX6_asDigits_26 hl (k := 2) rfl (by rfl) (by decide) rfl (fun ls hl => ?_)
        refine lv_goto (pc := 29) (tgt := 4) hx hb dX6_asDigits_29 (by decide) ?_
        exact ih x3 (v2 + 1) S H locs hW ls (lv_sub hl [2, 1, 0] rfl) hf
  unfold fX6_asDigits at hf
  refine lv_iconst (pc := 0) (v := 0) hx hb dX6_asDigits_0 (by decide) ?_
  refine lv_istore_n (pc := 1) (lv' := [(1, .int 0), (0, .ref (h 6))]) hx hb dX6_asDigits_1 rfl hl (by decide) rfl (fun ls hl => ?_)
  refine lv_iconst (pc := 2) (v := 0) hx hb dX6_asDigits_2 (by decide) ?_
  refine lv_istore_n (pc := 3) (lv' := [(2, .int 0), (1, .int 0), (0, .ref (h 6))]) hx hb dX6_asDigits_3 rfl hl (by decide) rfl (fun ls hl => ?_)
  exact w4 N 0 0 S H locs hW ls (lv_sub hl [2, 1, 0] rfl) hf

def fX6_swap (p1 : Int32) (p2 : Int32) (S : zSt) : Option zSt :=
  if zin p1 8 then if zin p2 8 then if zin p1 8 then zL (zA S 701 (Int32.toNatClampNeg p1) (S.2.1 701 (Int32.toNatClampNeg p2))) fun S4 => if zin p2 8 then zL (zA S4 701 (Int32.toNatClampNeg p2) (S.2.1 701 (Int32.toNatClampNeg p1))) fun S6 => some S6 else none else none else none else none
abbrev wX6_swap : List Cond := Cond.code yX6_swap cX6_swap 4 none :: waX
abbrev rmX6_swap : Room := { frames := 0, cells := 0, slots := 0, locals := 0 }
set_option maxHeartbeats 4000000 in
set_option maxRecDepth 100000 in
theorem kX6_swap (l : Launch) (D : va_G) (cA : Nat → ClassId) (h tt : Nat → Nat) (sz : Nat)  (p1 : Int32) (p2 : Int32) (S : zSt) (S1 : zSt) (hf : fX6_swap p1 p2 S = some S1) : zMv l yX6_swap wX6_swap rmX6_swap (zEX tt) D (tX cA) (hsX h) [.ref (h 6), .int p1, .int p2] (wX cA h S) (wX cA h S1) sz := by
  refine zEn_v (cc := cX6_swap) (maxL := 4) (own := RX6) (by decide) rfl rfl (hmX cA h S) (Nat.le_of_ble_eq_true rfl) ?_
  intro p e s m args below meth c Q H locs C0 hW fin ls hl
  have hl : lv_has ls 4 [(0, .ref (h 6)), (1, .int p1), (2, .int p2)] := hl
  have hx := C0.1
  have hb := C0.2.1
  have hown := C0.2.2.2.1
  have hts := C0.2.2.2.2
  unfold fX6_swap at hf
  refine lv_aload_n (pc := 0) hx hb dX6_swap_0 rfl (lv_at hl 0 rfl) ?_
  refine xg_701 (pc := 1) C0 hu_6 hW mX_137 dX6_swap_1 ?_
  refine lv_iload_n (pc := 4) hx hb dX6_swap_4 rfl (lv_at hl 1 rfl) ?_
  obtain ⟨i1, hf⟩ := zn hf
  refine xl_701 (pc := 5) C0 hW i1 dX6_swap_5 ?_
  refine lv_istore_n (pc := 6) (lv' := [(3, .int (S.2.1 701 (Int32.toNatClampNeg p1))), (0, .ref (h 6)), (1, .int p1), (2, .int p2)]) hx hb dX6_swap_6 rfl hl (by decide) rfl (fun ls hl => ?_)
  refine lv_aload_n (pc := 7) hx hb dX6_swap_7 rfl (lv_at hl 1 rfl) ?_
  refine xg_701 (pc := 8) C0 hu_6 hW mX_137 dX6_swap_8 ?_
  refine lv_iload_n (pc := 11) hx hb dX6_swap_11 rfl (lv_at hl 2 rfl) ?_
  refine lv_aload_n (pc := 12) hx hb dX6_swap_12 rfl (lv_at hl 1 rfl) ?_
  refine xg_701 (pc := 13) C0 hu_6 hW mX_137 dX6_swap_13 ?_
  refine lv_iload_n (pc := 16) hx hb dX6_swap_16 rfl (lv_at hl 3 rfl) ?_
  obtain ⟨i2, hf⟩ := zn hf
  refine xl_701 (pc := 17) C0 hW i2 dX6_swap_17 ?_
  obtain ⟨i3, hf⟩ := zn hf
  obtain ⟨S4, e_S4, hf⟩ := zL_e hf
  refine xs_s701 (pc := 18) C0 hW i3 e_S4 dX6_swap_18 (fun H locs hW => ?_)
  refine lv_aload_n (pc := 19) hx hb dX6_swap_19 rfl (lv_at hl 1 rfl) ?_
  refine xg_701 (pc := 20) C0 hu_6 hW mX_137 dX6_swap_20 ?_
  refine lv_iload_n (pc := 23) hx hb dX6_swap_23 rfl (lv_at hl 3 rfl) ?_
  refine lv_iload_n (pc := 24) hx hb dX6_swap_24 rfl (lv_at hl 0 rfl) ?_
  obtain ⟨i5, hf⟩ := zn hf
  obtain ⟨S6, e_S6, hf⟩ := zL_e hf
  refine xs_s701 (pc := 25) C0 hW i5 e_S6 dX6_swap_25 (fun H locs hW => ?_)
  exact zend_v (w := wX cA h) fin hf hW dX6_swap_26

def fX6_turnAround_b5 (N : Nat) : Nat → Int32 → Int32 → zSt → Option zSt
  | 0, _, _, _ => none
  | n + 1, v3, v4, S =>
    if v3 ≤ v4 then (some S) else (zU (fX6_swap v4 v3 S) fun S3 => fX6_turnAround_b5 N n (v3 + (-1)) (v4 + 1) S3)
def fX6_turnAround (N : Nat) (p1 : Int32) (p2 : Int32) (S : zSt) : Option zSt :=
  fX6_turnAround_b5 N N p2 p1 S
abbrev wX6_turnAround : List Cond := Cond.code yX6_turnAround cX6_turnAround 5 none :: waX
abbrev rmX6_turnAround : Room := { frames := 1, cells := 0, slots := 0, locals := 23 }
set_option maxHeartbeats 4000000 in
set_option maxRecDepth 100000 in
theorem kX6_turnAround (l : Launch) (D : va_G) (cA : Nat → ClassId) (h tt : Nat → Nat) (sz : Nat) (N : Nat)  (p1 : Int32) (p2 : Int32) (S : zSt) (S1 : zSt) (hf : fX6_turnAround N p1 p2 S = some S1) : zMv l yX6_turnAround wX6_turnAround rmX6_turnAround (zEX tt) D (tX cA) (hsX h) [.ref (h 6), .int p1, .int p2] (wX cA h S) (wX cA h S1) sz := by
  refine zEn_v (cc := cX6_turnAround) (maxL := 5) (own := RX6) (by decide) rfl rfl (hmX cA h S) (Nat.le_of_ble_eq_true rfl) ?_
  intro p e s m args below meth c Q H locs C0 hW fin ls hl
  have hl : lv_has ls 5 [(0, .ref (h 6)), (1, .int p1), (2, .int p2)] := hl
  have hx := C0.1
  have hb := C0.2.1
  have hown := C0.2.2.2.1
  have hts := C0.2.2.2.2
  have w5 : ∀ (n : Nat), ∀ (v3 : Int32) (v4 : Int32) (S : zSt) (H : Heap) (locs : List Loc), zW (zEX tt) D (tX cA) (wX cA h S) (aW (hsX h) s.heap.size) s H locs → ∀ ls : Array Slot, lv_has ls 5 [(0, .ref (h 6)), (3, .int v3), (4, .int v4)] → fX6_turnAround_b5 N n v3 v4 S = some S1 → W p l e rmX6_turnAround s m args below meth c H locs 0 0 Q (F0 m 5 ls []) := by
    intro n
    induction n with
    | zero =>
      intro v3 v4 S H locs hW ls hl hf
      exact absurd hf (by intro h; cases h)
    | succ n ih =>
      intro v3 v4 S H locs hW ls hl hf
      rw [fX6_turnAround_b5] at hf
      refine lv_iload (pc := 5) hx hb dX6_turnAround_5 (lv_at hl 2 rfl) ?_
      refine lv_iload_n (pc := 7) hx hb dX6_turnAround_7 rfl (lv_at hl 1 rfl) ?_
      refine lv_icmp_ge (pc := 8) (tgt := 27) hx hb dX6_turnAround_8 (by decide) (fun c1 => ?_) (fun c1 => ?_)
      · have hf := zt c1 hf
        exact zend_v (w := wX cA h) fin hf hW dX6_turnAround_27
      · have hf := zf c1 hf
        refine lv_aload_n (pc := 11) hx hb dX6_turnAround_11 rfl (lv_at hl 0 rfl) ?_
        refine lv_iload (pc := 12) hx hb dX6_turnAround_12 (lv_at hl 2 rfl) ?_
        refine lv_iload_n (pc := 14) hx hb dX6_turnAround_14 rfl (lv_at hl 1 rfl) ?_
        obtain ⟨S3, e4, hf⟩ := zU_e hf
        refine zcVv (zEX_ok tt) (As := [.int v4, .int v3]) (pc := 15) C0 hW (kX6_swap l D cA h tt H.size v4 v3 S S3 e4) (cwV 2 hts (zgV gaX mX_199 mX_200 mX_201 mX_133 mX_202) rfl rfl rfl (by decide +kernel) ⟨Nat.le_of_ble_eq_true rfl, Nat.le_of_ble_eq_true rfl⟩) (va_recv hW.1 hW.2.1 (ci := 6) (q0 := 6) rfl rfl) rfl hl.1 rfl (Nat.le_of_ble_eq_true rfl) dX6_turnAround_15 (fun H locs hW => ?_)
        refine lv_iinc (pc := 18) (v := (v3 + (-1))) (lv' := [(3, .int (v3 + (-1))), (0, .ref (h 6)), (4, .int v4)]) hx hb dX6_turnAround_18 hl (k := 1) rfl (by rfl) (by decide) rfl (fun ls hl => ?_)
        refine lv_iinc (pc := 21) (v := (v4 + 1)) (lv' := [(4, .int (v4 + 1)), (3, .int (v3 + (-1))), (0, .ref (h 6))]) hx hb dX6_turnAround_21 hl (k := 2) rfl (by rfl) (by decide) rfl (fun ls hl => ?_)
        refine lv_goto (pc := 24) (tgt := 5) hx hb dX6_turnAround_24 (by decide) ?_
        exact ih (v3 + (-1)) (v4 + 1) S3 H locs hW ls (lv_sub hl [2, 1, 0] rfl) hf
  unfold fX6_turnAround at hf
  refine lv_iload_n (pc := 0) hx hb dX6_turnAround_0 rfl (lv_at hl 2 rfl) ?_
  refine lv_istore_n (pc := 1) (lv' := [(3, .int p2), (0, .ref (h 6)), (1, .int p1), (2, .int p2)]) hx hb dX6_turnAround_1 rfl hl (by decide) rfl (fun ls hl => ?_)
  refine lv_iload_n (pc := 2) hx hb dX6_turnAround_2 rfl (lv_at hl 2 rfl) ?_
  refine lv_istore (pc := 3) (lv' := [(4, .int p1), (3, .int p2), (0, .ref (h 6)), (1, .int p1), (2, .int p2)]) hx hb dX6_turnAround_3 hl (by decide) rfl (fun ls hl => ?_)
  exact w5 N p2 p1 S H locs hW ls (lv_sub hl [2, 1, 0] rfl) hf

def fX6_goOnToNextOrder_b73 (N : Nat) (v1 : Int32) (v2 : Int32) (S : zSt) : Option (Int32 × zSt) :=
  zU (fX6_swap v1 v2 S) fun S2 => zU (fX6_turnAround N (v1 + 1) ((S2.1 705) - 1) S2) fun S5 => some (1, S5)
def fX6_goOnToNextOrder_b47 (N : Nat) : Nat → Int32 → Int32 → zSt → Option (Int32 × zSt)
  | 0, _, _, _ => none
  | n + 1, v1, v2, S =>
    if v2 ≤ v1 then (fX6_goOnToNextOrder_b73 N v1 v2 S) else (if zin v2 8 then if zin v1 8 then if (S.2.1 701 (Int32.toNatClampNeg v1)) ≤ (S.2.1 701 (Int32.toNatClampNeg v2)) then (fX6_goOnToNextOrder_b73 N v1 v2 S) else (fX6_goOnToNextOrder_b47 N n v1 (v2 + (-1)) S) else none else none)
def fX6_goOnToNextOrder_b34 (N : Nat) (v1 : Int32) (S : zSt) : Option (Int32 × zSt) :=
  if 0 ≤ v1 then (fX6_goOnToNextOrder_b47 N N v1 ((S.1 705) - 1) S) else (some (0, S))
def fX6_goOnToNextOrder_b7 (N : Nat) : Nat → Int32 → zSt → Option (Int32 × zSt)
  | 0, _, _ => none
  | n + 1, v1, S =>
    if v1 < 0 then (fX6_goOnToNextOrder_b34 N v1 S) else (if zin v1 8 then if zin (v1 + 1) 8 then if (S.2.1 701 (Int32.toNatClampNeg v1)) ≤ (S.2.1 701 (Int32.toNatClampNeg (v1 + 1))) then (fX6_goOnToNextOrder_b34 N v1 S) else (fX6_goOnToNextOrder_b7 N n (v1 + (-1)) S) else none else none)
def fX6_goOnToNextOrder (N : Nat) (S : zSt) : Option (Int32 × zSt) :=
  fX6_goOnToNextOrder_b7 N N ((S.1 705) - 2) S
abbrev wX6_goOnToNextOrder : List Cond := Cond.code yX6_goOnToNextOrder cX6_goOnToNextOrder 3 (some .boolean) :: waX
abbrev rmX6_goOnToNextOrder : Room := { frames := 2, cells := 0, slots := 0, locals := 47 }
set_option maxHeartbeats 4000000 in
set_option maxRecDepth 100000 in
theorem kX6_goOnToNextOrder (l : Launch) (D : va_G) (cA : Nat → ClassId) (h tt : Nat → Nat) (sz : Nat) (N : Nat)   (S : zSt) (r : Int32) (S1 : zSt) (hf : fX6_goOnToNextOrder N S = some (r, S1)) : zMi l yX6_goOnToNextOrder wX6_goOnToNextOrder rmX6_goOnToNextOrder (zEX tt) D (tX cA) (hsX h) [.ref (h 6)] (wX cA h S) (wX cA h S1) sz r := by
  refine zEn_z (cc := cX6_goOnToNextOrder) (maxL := 3) (own := RX6) (by decide) rfl rfl (hmX cA h S) (Nat.le_of_ble_eq_true rfl) ?_
  intro p e s m args below meth c Q H locs C0 hW fin ls hl
  have hl : lv_has ls 3 [(0, .ref (h 6))] := hl
  have hx := C0.1
  have hb := C0.2.1
  have hown := C0.2.2.2.1
  have hts := C0.2.2.2.2
  have w73 : ∀ (v1 : Int32) (v2 : Int32) (S : zSt) (H : Heap) (locs : List Loc), zW (zEX tt) D (tX cA) (wX cA h S) (aW (hsX h) s.heap.size) s H locs → ∀ ls : Array Slot, lv_has ls 3 [(0, .ref (h 6)), (1, .int v1), (2, .int v2)] → fX6_goOnToNextOrder_b73 N v1 v2 S = some (r, S1) → W p l e rmX6_goOnToNextOrder s m args below meth c H locs 0 0 Q (F0 m 73 ls []) := by
    intro v1 v2 S H locs hW ls hl hf
    unfold fX6_goOnToNextOrder_b73 at hf
    refine lv_aload_n (pc := 73) hx hb dX6_goOnToNextOrder_73 rfl (lv_at hl 0 rfl) ?_
    refine lv_iload_n (pc := 74) hx hb dX6_goOnToNextOrder_74 rfl (lv_at hl 1 rfl) ?_
    refine lv_iload_n (pc := 75) hx hb dX6_goOnToNextOrder_75 rfl (lv_at hl 2 rfl) ?_
    obtain ⟨S2, e3, hf⟩ := zU_e hf
    refine zcVv (zEX_ok tt) (As := [.int v1, .int v2]) (pc := 76) C0 hW (kX6_swap l D cA h tt H.size v1 v2 S S2 e3) (cwV 2 hts (zgV gaX mX_199 mX_200 mX_201 mX_133 mX_202) rfl rfl rfl (by decide +kernel) ⟨Nat.le_of_ble_eq_true rfl, Nat.le_of_ble_eq_true rfl⟩) (va_recv hW.1 hW.2.1 (ci := 6) (q0 := 6) rfl rfl) rfl hl.1 rfl (Nat.le_of_ble_eq_true rfl) dX6_goOnToNextOrder_76 (fun H locs hW => ?_)
    refine lv_aload_n (pc := 79) hx hb dX6_goOnToNextOrder_79 rfl (lv_at hl 0 rfl) ?_
    refine lv_iload_n (pc := 80) hx hb dX6_goOnToNextOrder_80 rfl (lv_at hl 1 rfl) ?_
    refine lv_iconst (pc := 81) (v := 1) hx hb dX6_goOnToNextOrder_81 (by decide) ?_
    refine lv_iadd (pc := 82) hx hb dX6_goOnToNextOrder_82 ?_
    refine lv_aload_n (pc := 83) hx hb dX6_goOnToNextOrder_83 rfl (lv_at hl 0 rfl) ?_
    refine xg_705 (pc := 84) C0 hu_6 hW mX_135 dX6_goOnToNextOrder_84 ?_
    refine lv_iconst (pc := 87) (v := 1) hx hb dX6_goOnToNextOrder_87 (by decide) ?_
    refine lv_isub (pc := 88) hx hb dX6_goOnToNextOrder_88 ?_
    obtain ⟨S5, e6, hf⟩ := zU_e hf
    refine zcVv (zEX_ok tt) (As := [.int (v1 + 1), .int ((S2.1 705) - 1)]) (pc := 89) C0 hW (kX6_turnAround l D cA h tt H.size N (v1 + 1) ((S2.1 705) - 1) S2 S5 e6) (cwV 2 hts (zgV gaX mX_218 mX_219 mX_220 mX_133 mX_221) rfl rfl rfl (by decide +kernel) ⟨Nat.le_of_ble_eq_true rfl, Nat.le_of_ble_eq_true rfl⟩) (va_recv hW.1 hW.2.1 (ci := 6) (q0 := 6) rfl rfl) rfl hl.1 rfl (Nat.le_of_ble_eq_true rfl) dX6_goOnToNextOrder_89 (fun H locs hW => ?_)
    refine lv_iconst (pc := 92) (v := 1) hx hb dX6_goOnToNextOrder_92 (by decide) ?_
    exact zend_z (w := wX cA h) fin hf (by decide) hW dX6_goOnToNextOrder_93
  have w47 : ∀ (n : Nat), ∀ (v1 : Int32) (v2 : Int32) (S : zSt) (H : Heap) (locs : List Loc), zW (zEX tt) D (tX cA) (wX cA h S) (aW (hsX h) s.heap.size) s H locs → ∀ ls : Array Slot, lv_has ls 3 [(0, .ref (h 6)), (1, .int v1), (2, .int v2)] → fX6_goOnToNextOrder_b47 N n v1 v2 S = some (r, S1) → W p l e rmX6_goOnToNextOrder s m args below meth c H locs 0 0 Q (F0 m 47 ls []) := by
    intro n
    induction n with
    | zero =>
      intro v1 v2 S H locs hW ls hl hf
      exact absurd hf (by intro h; cases h)
    | succ n ih =>
      intro v1 v2 S H locs hW ls hl hf
      rw [fX6_goOnToNextOrder_b47] at hf
      refine lv_iload_n (pc := 47) hx hb dX6_goOnToNextOrder_47 rfl (lv_at hl 2 rfl) ?_
      refine lv_iload_n (pc := 48) hx hb dX6_goOnToNextOrder_48 rfl (lv_at hl 1 rfl) ?_
      refine lv_icmp_le (pc := 49) (tgt := 73) hx hb dX6_goOnToNextOrder_49 (by decide) (fun c7 => ?_) (fun c7 => ?_)
      · have hf := zt c7 hf
        exact w73 v1 v2 S H locs hW ls (lv_sub hl [0, 1, 2] rfl) hf
      · have hf := zf c7 hf
        refine lv_aload_n (pc := 52) hx hb dX6_goOnToNextOrder_52 rfl (lv_at hl 0 rfl) ?_
        refine xg_701 (pc := 53) C0 hu_6 hW mX_137 dX6_goOnToNextOrder_53 ?_
        refine lv_iload_n (pc := 56) hx hb dX6_goOnToNextOrder_56 rfl (lv_at hl 2 rfl) ?_
        obtain ⟨i8, hf⟩ := zn hf
        refine xl_701 (pc := 57) C0 hW i8 dX6_goOnToNextOrder_57 ?_
        refine lv_aload_n (pc := 58) hx hb dX6_goOnToNextOrder_58 rfl (lv_at hl 0 rfl) ?_
        refine xg_701 (pc := 59) C0 hu_6 hW mX_137 dX6_goOnToNextOrder_59 ?_
        refine lv_iload_n (pc := 62) hx hb dX6_goOnToNextOrder_62 rfl (lv_at hl 1 rfl) ?_
        obtain ⟨i9, hf⟩ := zn hf
        refine xl_701 (pc := 63) C0 hW i9 dX6_goOnToNextOrder_63 ?_
        refine lv_icmp_ge (pc := 64) (tgt := 73) hx hb dX6_goOnToNextOrder_64 (by decide) (fun c10 => ?_) (fun c10 => ?_)
        · have hf := zt c10 hf
          exact w73 v1 v2 S H locs hW ls (lv_sub hl [0, 1, 2] rfl) hf
        · have hf := zf c10 hf
          refine lv_iinc (pc := 67) (v := (v2 + (-1))) (lv' := [(2, .int (v2 + (-1))), (0, .ref (h 6)), (1, .int v1)]) hx hb dX6_goOnToNextOrder_67 hl (k := 2) rfl (by rfl) (by decide) rfl (fun ls hl => ?_)
          refine lv_goto (pc := 70) (tgt := 47) hx hb dX6_goOnToNextOrder_70 (by decide) ?_
          exact ih v1 (v2 + (-1)) S H locs hW ls (lv_sub hl [1, 2, 0] rfl) hf
  have w34 : ∀ (v1 : Int32) (S : zSt) (H : Heap) (locs : List Loc), zW (zEX tt) D (tX cA) (wX cA h S) (aW (hsX h) s.heap.size) s H locs → ∀ ls : Array Slot, lv_has ls 3 [(0, .ref (h 6)), (1, .int v1)] → fX6_goOnToNextOrder_b34 N v1 S = some (r, S1) → W p l e rmX6_goOnToNextOrder s m args below meth c H locs 0 0 Q (F0 m 34 ls []) := by
    intro v1 S H locs hW ls hl hf
    unfold fX6_goOnToNextOrder_b34 at hf
    refine lv_iload_n (pc := 34) hx hb dX6_goOnToNextOrder_34 rfl (lv_at hl 1 rfl) ?_
    refine lv_if_ge (pc := 35) (tgt := 40) hx hb dX6_goOnToNextOrder_35 (by decide) (fun c11 => ?_) (fun c11 => ?_)
    · have hf := zt c11 hf
      refine lv_aload_n (pc := 40) hx hb dX6_goOnToNextOrder_40 rfl (lv_at hl 0 rfl) ?_
      refine xg_705 (pc := 41) C0 hu_6 hW mX_135 dX6_goOnToNextOrder_41 ?_
      refine lv_iconst (pc := 44) (v := 1) hx hb dX6_goOnToNextOrder_44 (by decide) ?_
      refine lv_isub (pc := 45) hx hb dX6_goOnToNextOrder_45 ?_
      refine lv_istore_n (pc := 46) (lv' := [(2, .int ((S.1 705) - 1)), (0, .ref (h 6)), (1, .int v1)]) hx hb dX6_goOnToNextOrder_46 rfl hl (by decide) rfl (fun ls hl => ?_)
      exact w47 N v1 ((S.1 705) - 1) S H locs hW ls (lv_sub hl [1, 2, 0] rfl) hf
    · have hf := zf c11 hf
      refine lv_iconst (pc := 38) (v := 0) hx hb dX6_goOnToNextOrder_38 (by decide) ?_
      exact zend_z (w := wX cA h) fin hf (by decide) hW dX6_goOnToNextOrder_39
  have w7 : ∀ (n : Nat), ∀ (v1 : Int32) (S : zSt) (H : Heap) (locs : List Loc), zW (zEX tt) D (tX cA) (wX cA h S) (aW (hsX h) s.heap.size) s H locs → ∀ ls : Array Slot, lv_has ls 3 [(0, .ref (h 6)), (1, .int v1)] → fX6_goOnToNextOrder_b7 N n v1 S = some (r, S1) → W p l e rmX6_goOnToNextOrder s m args below meth c H locs 0 0 Q (F0 m 7 ls []) := by
    intro n
    induction n with
    | zero =>
      intro v1 S H locs hW ls hl hf
      exact absurd hf (by intro h; cases h)
    | succ n ih =>
      intro v1 S H locs hW ls hl hf
      rw [fX6_goOnToNextOrder_b7] at hf
      refine lv_iload_n (pc := 7) hx hb dX6_goOnToNextOrder_7 rfl (lv_at hl 1 rfl) ?_
      refine lv_if_lt (pc := 8) (tgt := 34) hx hb dX6_goOnToNextOrder_8 (by decide) (fun c12 => ?_) (fun c12 => ?_)
      · have hf := zt c12 hf
        exact w34 v1 S H locs hW ls (lv_sub hl [0, 1] rfl) hf
      · have hf := zf c12 hf
        refine lv_aload_n (pc := 11) hx hb dX6_goOnToNextOrder_11 rfl (lv_at hl 0 rfl) ?_
        refine xg_701 (pc := 12) C0 hu_6 hW mX_137 dX6_goOnToNextOrder_12 ?_
        refine lv_iload_n (pc := 15) hx hb dX6_goOnToNextOrder_15 rfl (lv_at hl 1 rfl) ?_
        obtain ⟨i13, hf⟩ := zn hf
        refine xl_701 (pc := 16) C0 hW i13 dX6_goOnToNextOrder_16 ?_
        refine lv_aload_n (pc := 17) hx hb dX6_goOnToNextOrder_17 rfl (lv_at hl 0 rfl) ?_
        refine xg_701 (pc := 18) C0 hu_6 hW mX_137 dX6_goOnToNextOrder_18 ?_
        refine lv_iload_n (pc := 21) hx hb dX6_goOnToNextOrder_21 rfl (lv_at hl 1 rfl) ?_
        refine lv_iconst (pc := 22) (v := 1) hx hb dX6_goOnToNextOrder_22 (by decide) ?_
        refine lv_iadd (pc := 23) hx hb dX6_goOnToNextOrder_23 ?_
        obtain ⟨i14, hf⟩ := zn hf
        refine xl_701 (pc := 24) C0 hW i14 dX6_goOnToNextOrder_24 ?_
        refine lv_icmp_le (pc := 25) (tgt := 34) hx hb dX6_goOnToNextOrder_25 (by decide) (fun c15 => ?_) (fun c15 => ?_)
        · have hf := zt c15 hf
          exact w34 v1 S H locs hW ls (lv_sub hl [0, 1] rfl) hf
        · have hf := zf c15 hf
          refine lv_iinc (pc := 28) (v := (v1 + (-1))) (lv' := [(1, .int (v1 + (-1))), (0, .ref (h 6))]) hx hb dX6_goOnToNextOrder_28 hl (k := 1) rfl (by rfl) (by decide) rfl (fun ls hl => ?_)
          refine lv_goto (pc := 31) (tgt := 7) hx hb dX6_goOnToNextOrder_31 (by decide) ?_
          exact ih (v1 + (-1)) S H locs hW ls (lv_sub hl [1, 0] rfl) hf
  unfold fX6_goOnToNextOrder at hf
  refine lv_aload_n (pc := 0) hx hb dX6_goOnToNextOrder_0 rfl (lv_at hl 0 rfl) ?_
  refine xg_705 (pc := 1) C0 hu_6 hW mX_135 dX6_goOnToNextOrder_1 ?_
  refine lv_iconst (pc := 4) (v := 2) hx hb dX6_goOnToNextOrder_4 (by decide) ?_
  refine lv_isub (pc := 5) hx hb dX6_goOnToNextOrder_5 ?_
  refine lv_istore_n (pc := 6) (lv' := [(1, .int ((S.1 705) - 2)), (0, .ref (h 6))]) hx hb dX6_goOnToNextOrder_6 rfl hl (by decide) rfl (fun ls hl => ?_)
  exact w7 N ((S.1 705) - 2) S H locs hW ls (lv_sub hl [1, 0] rfl) hf

def fX6_putInOrder_b12 (N : Nat) (K2 : Int32 → zSt → Option zSt) : Nat → Int32 → Int32 → zSt → Option zSt
  | 0, _, _, _ => none
  | n + 1, v1, v2, S =>
    if v2 ≤ 0 then (K2 (v1 + 1) S) else (if zin (v2 - 1) 8 then if zin v2 8 then if (S.2.1 701 (Int32.toNatClampNeg (v2 - 1))) ≤ (S.2.1 701 (Int32.toNatClampNeg v2)) then (K2 (v1 + 1) S) else (zU (fX6_swap (v2 - 1) v2 S) fun S6 => fX6_putInOrder_b12 N K2 n v1 (v2 + (-1)) S6) else none else none)
def fX6_putInOrder_b2 (N : Nat) : Nat → Int32 → zSt → Option zSt
  | 0, _, _ => none
  | n + 1, v1, S =>
    if (S.1 705) ≤ v1 then (some S) else (fX6_putInOrder_b12 N (fX6_putInOrder_b2 N n) N v1 v1 S)
def fX6_putInOrder (N : Nat) (S : zSt) : Option zSt :=
  fX6_putInOrder_b2 N N 1 S
abbrev wX6_putInOrder : List Cond := Cond.code yX6_putInOrder cX6_putInOrder 3 none :: waX
abbrev rmX6_putInOrder : Room := { frames := 1, cells := 0, slots := 0, locals := 23 }
set_option maxHeartbeats 4000000 in
set_option maxRecDepth 100000 in
theorem kX6_putInOrder (l : Launch) (D : va_G) (cA : Nat → ClassId) (h tt : Nat → Nat) (sz : Nat) (N : Nat)   (S : zSt) (S1 : zSt) (hf : fX6_putInOrder N S = some S1) : zMv l yX6_putInOrder wX6_putInOrder rmX6_putInOrder (zEX tt) D (tX cA) (hsX h) [.ref (h 6)] (wX cA h S) (wX cA h S1) sz := by
  refine zEn_v (cc := cX6_putInOrder) (maxL := 3) (own := RX6) (by decide) rfl rfl (hmX cA h S) (Nat.le_of_ble_eq_true rfl) ?_
  intro p e s m args below meth c Q H locs C0 hW fin ls hl
  have hl : lv_has ls 3 [(0, .ref (h 6))] := hl
  have hx := C0.1
  have hb := C0.2.1
  have hown := C0.2.2.2.1
  have hts := C0.2.2.2.2
  have w12 : ∀ (K2 : Int32 → zSt → Option zSt) (hK2 : ∀ (v1 : Int32) (S : zSt) (H : Heap) (locs : List Loc), zW (zEX tt) D (tX cA) (wX cA h S) (aW (hsX h) s.heap.size) s H locs → ∀ ls : Array Slot, lv_has ls 3 [(0, .ref (h 6)), (1, .int v1)] → K2 v1 S = some S1 → W p l e rmX6_putInOrder s m args below meth c H locs 0 0 Q (F0 m 2 ls [])) (n : Nat), ∀ (v1 : Int32) (v2 : Int32) (S : zSt) (H : Heap) (locs : List Loc), zW (zEX tt) D (tX cA) (wX cA h S) (aW (hsX h) s.heap.size) s H locs → ∀ ls : Array Slot, lv_has ls 3 [(0, .ref (h 6)), (1, .int v1), (2, .int v2)] → fX6_putInOrder_b12 N K2 n v1 v2 S = some S1 → W p l e rmX6_putInOrder s m args below meth c H locs 0 0 Q (F0 m 12 ls []) := by
    intro K2 hK2 n
    induction n with
    | zero =>
      intro v1 v2 S H locs hW ls hl hf
      exact absurd hf (by intro h; cases h)
    | succ n ih =>
      intro v1 v2 S H locs hW ls hl hf
      rw [fX6_putInOrder_b12] at hf
      refine lv_iload_n (pc := 12) hx hb dX6_putInOrder_12 rfl (lv_at hl 2 rfl) ?_
      refine lv_if_le (pc := 13) (tgt := 47) hx hb dX6_putInOrder_13 (by decide) (fun c1 => ?_) (fun c1 => ?_)
      · have hf := zt c1 hf
        refine lv_iinc (pc := 47) (v := (v1 + 1)) (lv' := [(1, .int (v1 + 1)), (0, .ref (h 6)), (2, .int v2)]) hx hb dX6_putInOrder_47 hl (k := 1) rfl (by rfl) (by decide) rfl (fun ls hl => ?_)
        refine lv_goto (pc := 50) (tgt := 2) hx hb dX6_putInOrder_50 (by decide) ?_
        exact hK2 (v1 + 1) S H locs hW ls (lv_sub hl [1, 0] rfl) hf
      · have hf := zf c1 hf
        refine lv_aload_n (pc := 16) hx hb dX6_putInOrder_16 rfl (lv_at hl 0 rfl) ?_
        refine xg_701 (pc := 17) C0 hu_6 hW mX_137 dX6_putInOrder_17 ?_
        refine lv_iload_n (pc := 20) hx hb dX6_putInOrder_20 rfl (lv_at hl 2 rfl) ?_
        refine lv_iconst (pc := 21) (v := 1) hx hb dX6_putInOrder_21 (by decide) ?_
        refine lv_isub (pc := 22) hx hb dX6_putInOrder_22 ?_
        obtain ⟨i2, hf⟩ := zn hf
        refine xl_701 (pc := 23) C0 hW i2 dX6_putInOrder_23 ?_
        refine lv_aload_n (pc := 24) hx hb dX6_putInOrder_24 rfl (lv_at hl 0 rfl) ?_
        refine xg_701 (pc := 25) C0 hu_6 hW mX_137 dX6_putInOrder_25 ?_
        refine lv_iload_n (pc := 28) hx hb dX6_putInOrder_28 rfl (lv_at hl 2 rfl) ?_
        obtain ⟨i3, hf⟩ := zn hf
        refine xl_701 (pc := 29) C0 hW i3 dX6_putInOrder_29 ?_
        refine lv_icmp_le (pc := 30) (tgt := 47) hx hb dX6_putInOrder_30 (by decide) (fun c4 => ?_) (fun c4 => ?_)
        · have hf := zt c4 hf
          refine lv_iinc (pc := 47) (v := (v1 + 1)) (lv' := [(1, .int (v1 + 1)), (0, .ref (h 6)), (2, .int v2)]) hx hb dX6_putInOrder_47 hl (k := 1) rfl (by rfl) (by decide) rfl (fun ls hl => ?_)
          refine lv_goto (pc := 50) (tgt := 2) hx hb dX6_putInOrder_50 (by decide) ?_
          exact hK2 (v1 + 1) S H locs hW ls (lv_sub hl [1, 0] rfl) hf
        · have hf := zf c4 hf
          refine lv_aload_n (pc := 33) hx hb dX6_putInOrder_33 rfl (lv_at hl 0 rfl) ?_
          refine lv_iload_n (pc := 34) hx hb dX6_putInOrder_34 rfl (lv_at hl 2 rfl) ?_
          refine lv_iconst (pc := 35) (v := 1) hx hb dX6_putInOrder_35 (by decide) ?_
          refine lv_isub (pc := 36) hx hb dX6_putInOrder_36 ?_
          refine lv_iload_n (pc := 37) hx hb dX6_putInOrder_37 rfl (lv_at hl 2 rfl) ?_
          obtain ⟨S6, e7, hf⟩ := zU_e hf
          refine zcVv (zEX_ok tt) (As := [.int (v2 - 1), .int v2]) (pc := 38) C0 hW (kX6_swap l D cA h tt H.size (v2 - 1) v2 S S6 e7) (cwV 2 hts (zgV gaX mX_199 mX_200 mX_201 mX_133 mX_202) rfl rfl rfl (by decide +kernel) ⟨Nat.le_of_ble_eq_true rfl, Nat.le_of_ble_eq_true rfl⟩) (va_recv hW.1 hW.2.1 (ci := 6) (q0 := 6) rfl rfl) rfl hl.1 rfl (Nat.le_of_ble_eq_true rfl) dX6_putInOrder_38 (fun H locs hW => ?_)
          refine lv_iinc (pc := 41) (v := (v2 + (-1))) (lv' := [(2, .int (v2 + (-1))), (0, .ref (h 6)), (1, .int v1)]) hx hb dX6_putInOrder_41 hl (k := 2) rfl (by rfl) (by decide) rfl (fun ls hl => ?_)
          refine lv_goto (pc := 44) (tgt := 12) hx hb dX6_putInOrder_44 (by decide) ?_
          exact ih v1 (v2 + (-1)) S6 H locs hW ls (lv_sub hl [1, 2, 0] rfl) hf
  have w2 : ∀ (n : Nat), ∀ (v1 : Int32) (S : zSt) (H : Heap) (locs : List Loc), zW (zEX tt) D (tX cA) (wX cA h S) (aW (hsX h) s.heap.size) s H locs → ∀ ls : Array Slot, lv_has ls 3 [(0, .ref (h 6)), (1, .int v1)] → fX6_putInOrder_b2 N n v1 S = some S1 → W p l e rmX6_putInOrder s m args below meth c H locs 0 0 Q (F0 m 2 ls []) := by
    intro n
    induction n with
    | zero =>
      intro v1 S H locs hW ls hl hf
      exact absurd hf (by intro h; cases h)
    | succ n ih =>
      intro v1 S H locs hW ls hl hf
      rw [fX6_putInOrder_b2] at hf
      refine lv_iload_n (pc := 2) hx hb dX6_putInOrder_2 rfl (lv_at hl 1 rfl) ?_
      refine lv_aload_n (pc := 3) hx hb dX6_putInOrder_3 rfl (lv_at hl 0 rfl) ?_
      refine xg_705 (pc := 4) C0 hu_6 hW mX_135 dX6_putInOrder_4 ?_
      refine lv_icmp_ge (pc := 7) (tgt := 53) hx hb dX6_putInOrder_7 (by decide) (fun c8 => ?_) (fun c8 => ?_)
      · have hf := zt c8 hf
        exact zend_v (w := wX cA h) fin hf hW dX6_putInOrder_53
      · have hf := zf c8 hf
        refine lv_iload_n (pc := 10) hx hb dX6_putInOrder_10 rfl (lv_at hl 1 rfl) ?_
        refine lv_istore_n (pc := 11) (lv' := [(2, .int v1), (0, .ref (h 6)), (1, .int v1)]) hx hb dX6_putInOrder_11 rfl hl (by decide) rfl (fun ls hl => ?_)
        exact w12 (fX6_putInOrder_b2 N n) ih N v1 v1 S H locs hW ls (lv_sub hl [1, 2, 0] rfl) hf
  unfold fX6_putInOrder at hf
  refine lv_iconst (pc := 0) (v := 1) hx hb dX6_putInOrder_0 (by decide) ?_
  refine lv_istore_n (pc := 1) (lv' := [(1, .int 1), (0, .ref (h 6))]) hx hb dX6_putInOrder_1 rfl hl (by decide) rfl (fun ls hl => ?_)
  exact w2 N 1 S H locs hW ls (lv_sub hl [1, 0] rfl) hf

def fX2_seekOrder_b24 (N : Nat) : Nat → Int32 → Int32 → Int32 → Int32 → zSt → Option zSt
  | 0, _, _, _, _, _ => none
  | n + 1, v1, v2, v3, v4, S =>
    if v3 = 0 then (some S) else (if 120 ≤ v4 then (some S) else (zB (fX6_asDigits N S) fun r3 S4 => zB (fX2_leastMargin N v1 v2 (S4.1 304) S4) fun r6 S7 => zU (fX2_prefer r3 r6 S7) fun S10 => zB (fX6_goOnToNextOrder N S10) fun r12 S13 => fX2_seekOrder_b24 N n v1 v2 r12 (v4 + 1) S13))
def fX2_seekOrder (N : Nat) (p1 : Int32) (p2 : Int32) (S : zSt) : Option zSt :=
  zL (zI S 303 (-2)) fun S15 => zL (zI S15 304 (-2000000000)) fun S16 => zU (fX6_putInOrder N S16) fun S18 => fX2_seekOrder_b24 N N p1 p2 1 0 S18
abbrev wX2_seekOrder : List Cond := Cond.code yX2_seekOrder cX2_seekOrder 5 none :: waX
abbrev rmX2_seekOrder : Room := { frames := 5, cells := 0, slots := 0, locals := 127 }
set_option maxHeartbeats 4000000 in
set_option maxRecDepth 100000 in
theorem kX2_seekOrder (l : Launch) (D : va_G) (cA : Nat → ClassId) (h tt : Nat → Nat) (sz : Nat) (N : Nat)  (p1 : Int32) (p2 : Int32) (S : zSt) (S1 : zSt) (hf : fX2_seekOrder N p1 p2 S = some S1) : zMv l yX2_seekOrder wX2_seekOrder rmX2_seekOrder (zEX tt) D (tX cA) (hsX h) [.ref (h 2), .int p1, .int p2] (wX cA h S) (wX cA h S1) sz := by
  refine zEn_v (cc := cX2_seekOrder) (maxL := 5) (own := RX2) (by decide) rfl rfl (hmX cA h S) (Nat.le_of_ble_eq_true rfl) ?_
  intro p e s m args below meth c Q H locs C0 hW fin ls hl
  have hl : lv_has ls 5 [(0, .ref (h 2)), (1, .int p1), (2, .int p2)] := hl
  have hx := C0.1
  have hb := C0.2.1
  have hown := C0.2.2.2.1
  have hts := C0.2.2.2.2
  have w24 : ∀ (n : Nat), ∀ (v1 : Int32) (v2 : Int32) (v3 : Int32) (v4 : Int32) (S : zSt) (H : Heap) (locs : List Loc), zW (zEX tt) D (tX cA) (wX cA h S) (aW (hsX h) s.heap.size) s H locs → ∀ ls : Array Slot, lv_has ls 5 [(0, .ref (h 2)), (1, .int v1), (2, .int v2), (3, .int v3), (4, .int v4)] → fX2_seekOrder_b24 N n v1 v2 v3 v4 S = some S1 → W p l e rmX2_seekOrder s m args below meth c H locs 0 0 Q (F0 m 24 ls []) := by
    intro n
    induction n with
    | zero =>
      intro v1 v2 v3 v4 S H locs hW ls hl hf
      exact absurd hf (by intro h; cases h)
    | succ n ih =>
      intro v1 v2 v3 v4 S H locs hW ls hl hf
      rw [fX2_seekOrder_b24] at hf
      refine lv_iload_n (pc := 24) hx hb dX2_seekOrder_24 rfl (lv_at hl 3 rfl) ?_
      refine lv_if_eq (pc := 25) (tgt := 70) hx hb dX2_seekOrder_25 (by decide) (fun c1 => ?_) (fun c1 => ?_)
      · have hf := zt c1 hf
        exact zend_v (w := wX cA h) fin hf hW dX2_seekOrder_70
      · have hf := zf c1 hf
        refine lv_iload (pc := 28) hx hb dX2_seekOrder_28 (lv_at hl 4 rfl) ?_
        refine lv_bipush (pc := 30) (v := 120) hx hb dX2_seekOrder_30 (by decide) ?_
        refine lv_icmp_ge (pc := 32) (tgt := 70) hx hb dX2_seekOrder_32 (by decide) (fun c2 => ?_) (fun c2 => ?_)
        · have hf := zt c2 hf
          exact zend_v (w := wX cA h) fin hf hW dX2_seekOrder_70
        · have hf := zf c2 hf
          refine lv_aload_n (pc := 35) hx hb dX2_seekOrder_35 rfl (lv_at hl 0 rfl) ?_
          refine lv_aload_n (pc := 36) hx hb dX2_seekOrder_36 rfl (lv_at hl 0 rfl) ?_
          refine xg_302 (pc := 37) C0 hu_2 hW mX_108 dX2_seekOrder_37 ?_
          obtain ⟨r3, S4, e5, hf⟩ := zB_e hf
          refine zcVi (zEX_ok tt) (As := []) (pc := 40) C0 hW (kX6_asDigits l D cA h tt H.size N S r3 S4 e5) (cwV 0 hts (zgV gaX mX_203 mX_204 mX_205 mX_133 mX_206) rfl rfl rfl (by decide +kernel) ⟨Nat.le_of_ble_eq_true rfl, Nat.le_of_ble_eq_true rfl⟩) (va_recv hW.1 hW.2.1 (ci := 6) (q0 := 6) rfl rfl) rfl hl.1 rfl (Nat.le_of_ble_eq_true rfl) dX2_seekOrder_40 (fun H locs hW => ?_)
          refine lv_aload_n (pc := 43) hx hb dX2_seekOrder_43 rfl (lv_at hl 0 rfl) ?_
          refine lv_iload_n (pc := 44) hx hb dX2_seekOrder_44 rfl (lv_at hl 1 rfl) ?_
          refine lv_iload_n (pc := 45) hx hb dX2_seekOrder_45 rfl (lv_at hl 2 rfl) ?_
          refine lv_aload_n (pc := 46) hx hb dX2_seekOrder_46 rfl (lv_at hl 0 rfl) ?_
          refine xg_304 (pc := 47) C0 hu_2 hW mX_194 dX2_seekOrder_47 ?_
          obtain ⟨r6, S7, e8, hf⟩ := zB_e hf
          refine zcVi (zEX_ok tt) (As := [.int v1, .int v2, .int (S4.1 304)]) (pc := 50) C0 hW (kX2_leastMargin l D cA h tt H.size N v1 v2 (S4.1 304) S4 r6 S7 e8) (cwV 3 hts (zgV gaX mX_207 mX_208 mX_209 mX_167 mX_172) rfl rfl rfl (by decide +kernel) ⟨Nat.le_of_ble_eq_true rfl, Nat.le_of_ble_eq_true rfl⟩) (va_recv hW.1 hW.2.1 (ci := 2) (q0 := 2) rfl rfl) rfl hl.1 rfl (Nat.le_of_ble_eq_true rfl) dX2_seekOrder_50 (fun H locs hW => ?_)
          obtain ⟨S10, e11, hf⟩ := zU_e hf
          refine zcVv (zEX_ok tt) (As := [.int r3, .int r6]) (pc := 53) C0 hW (kX2_prefer l D cA h tt H.size r3 r6 S7 S10 e11) (cwV 2 hts (zgV gaX mX_210 mX_211 mX_212 mX_167 mX_213) rfl rfl rfl (by decide +kernel) ⟨Nat.le_of_ble_eq_true rfl, Nat.le_of_ble_eq_true rfl⟩) (va_recv hW.1 hW.2.1 (ci := 2) (q0 := 2) rfl rfl) rfl hl.1 rfl (Nat.le_of_ble_eq_true rfl) dX2_seekOrder_53 (fun H locs hW => ?_)
          refine lv_aload_n (pc := 56) hx hb dX2_seekOrder_56 rfl (lv_at hl 0 rfl) ?_
          refine xg_302 (pc := 57) C0 hu_2 hW mX_108 dX2_seekOrder_57 ?_
          obtain ⟨r12, S13, e14, hf⟩ := zB_e hf
          refine zcVi (zEX_ok tt) (As := []) (pc := 60) C0 hW (kX6_goOnToNextOrder l D cA h tt H.size N S10 r12 S13 e14) (cwV 0 hts (zgV gaX mX_214 mX_215 mX_216 mX_133 mX_217) rfl rfl rfl (by decide +kernel) ⟨Nat.le_of_ble_eq_true rfl, Nat.le_of_ble_eq_true rfl⟩) (va_recv hW.1 hW.2.1 (ci := 6) (q0 := 6) rfl rfl) rfl hl.1 rfl (Nat.le_of_ble_eq_true rfl) dX2_seekOrder_60 (fun H locs hW => ?_)
          refine lv_istore_n (pc := 63) (lv' := [(3, .int r12), (0, .ref (h 2)), (1, .int v1), (2, .int v2), (4, .int v4)]) hx hb dX2_seekOrder_63 rfl hl (by decide) rfl (fun ls hl => ?_)
          refine lv_iinc (pc := 64) (v := (v4 + 1)) (lv' := [(4, .int (v4 + 1)), (3, .int r12), (0, .ref (h 2)), (1, .int v1), (2, .int v2)]) hx hb dX2_seekOrder_64 hl (k := 4) rfl (by rfl) (by decide) rfl (fun ls hl => ?_)
          refine lv_goto (pc := 67) (tgt := 24) hx hb dX2_seekOrder_67 (by decide) ?_
          exact ih v1 v2 r12 (v4 + 1) S13 H locs hW ls (lv_sub hl [2, 3, 4, 1, 0] rfl) hf
  unfold fX2_seekOrder at hf
  refine lv_aload_n (pc := 0) hx hb dX2_seekOrder_0 rfl (lv_at hl 0 rfl) ?_
  refine lv_bipush (pc := 1) (v := (-2)) hx hb dX2_seekOrder_1 (by decide) ?_
  obtain ⟨S15, e_S15, hf⟩ := zL_e hf
  refine xp_303 (pc := 3) C0 hu_2 hW mX_192 e_S15 dX2_seekOrder_3 (fun H locs hW => ?_)
  refine lv_aload_n (pc := 6) hx hb dX2_seekOrder_6 rfl (lv_at hl 0 rfl) ?_
  refine lv_ldc (pc := 7) (v := (-2000000000)) hx hb hown (hts _ mX_193) dX2_seekOrder_7 ?_
  obtain ⟨S16, e_S16, hf⟩ := zL_e hf
  refine xp_304 (pc := 9) C0 hu_2 hW mX_194 e_S16 dX2_seekOrder_9 (fun H locs hW => ?_)
  refine lv_aload_n (pc := 12) hx hb dX2_seekOrder_12 rfl (lv_at hl 0 rfl) ?_
  refine xg_302 (pc := 13) C0 hu_2 hW mX_108 dX2_seekOrder_13 ?_
  obtain ⟨S18, e19, hf⟩ := zU_e hf
  refine zcVv (zEX_ok tt) (As := []) (pc := 16) C0 hW (kX6_putInOrder l D cA h tt H.size N S16 S18 e19) (cwV 0 hts (zgV gaX mX_195 mX_196 mX_197 mX_133 mX_198) rfl rfl rfl (by decide +kernel) ⟨Nat.le_of_ble_eq_true rfl, Nat.le_of_ble_eq_true rfl⟩) (va_recv hW.1 hW.2.1 (ci := 6) (q0 := 6) rfl rfl) rfl hl.1 rfl (Nat.le_of_ble_eq_true rfl) dX2_seekOrder_16 (fun H locs hW => ?_)
  refine lv_iconst (pc := 19) (v := 1) hx hb dX2_seekOrder_19 (by decide) ?_
  refine lv_istore_n (pc := 20) (lv' := [(3, .int 1), (0, .ref (h 2)), (1, .int p1), (2, .int p2)]) hx hb dX2_seekOrder_20 rfl hl (by decide) rfl (fun ls hl => ?_)
  refine lv_iconst (pc := 21) (v := 0) hx hb dX2_seekOrder_21 (by decide) ?_
  refine lv_istore (pc := 22) (lv' := [(4, .int 0), (3, .int 1), (0, .ref (h 2)), (1, .int p1), (2, .int p2)]) hx hb dX2_seekOrder_22 hl (by decide) rfl (fun ls hl => ?_)
  exact w24 N p1 p2 1 0 S18 H locs hW ls (lv_sub hl [2, 3, 4, 1, 0] rfl) hf

def fX11_isWithin (p1 : Int32) (p2 : Int32) (p3 : Int32): Option Int32 :=
  if p1 < p2 then (some 0) else (if p3 < p1 then (some 0) else (some 1))
abbrev wX11_isWithin : List Cond := Cond.code yX11_isWithin cX11_isWithin 3 (some .boolean) :: waX
abbrev rmX11_isWithin : Room := { frames := 0, cells := 0, slots := 0, locals := 0 }
set_option maxHeartbeats 4000000 in
set_option maxRecDepth 100000 in
theorem kX11_isWithin (l : Launch) (sz : Nat) (p1 : Int32) (p2 : Int32) (p3 : Int32) (r : Int32) (hf : fX11_isWithin p1 p2 p3 = some r) : zMs l yX11_isWithin wX11_isWithin rmX11_isWithin [.int p1, .int p2, .int p3] sz r := by
  refine zEs_z (cc := cX11_isWithin) (maxL := 3) (own := RX11) (by decide) rfl rfl (Nat.le_of_ble_eq_true rfl) ?_
  intro p e s m args below meth c Q H locs C0 hW fin ls hl
  have hl : lv_has ls 3 [(0, .int p1), (1, .int p2), (2, .int p3)] := hl
  have hx := C0.1
  have hb := C0.2.1
  have hown := C0.2.2.2.1
  have hts := C0.2.2.2.2
  unfold fX11_isWithin at hf
  refine lv_iload_n (pc := 0) hx hb dX11_isWithin_0 rfl (lv_at hl 1 rfl) ?_
  refine lv_iload_n (pc := 1) hx hb dX11_isWithin_1 rfl (lv_at hl 0 rfl) ?_
  refine lv_icmp_gt (pc := 2) (tgt := 14) hx hb dX11_isWithin_2 (by decide) (fun c1 => ?_) (fun c1 => ?_)
  · have hf := zt c1 hf
    refine lv_iconst (pc := 14) (v := 0) hx hb dX11_isWithin_14 (by decide) ?_
    exact zens_z fin hf (by decide) hW dX11_isWithin_15
  · have hf := zf c1 hf
    refine lv_iload_n (pc := 5) hx hb dX11_isWithin_5 rfl (lv_at hl 0 rfl) ?_
    refine lv_iload_n (pc := 6) hx hb dX11_isWithin_6 rfl (lv_at hl 2 rfl) ?_
    refine lv_icmp_gt (pc := 7) (tgt := 14) hx hb dX11_isWithin_7 (by decide) (fun c2 => ?_) (fun c2 => ?_)
    · have hf := zt c2 hf
      refine lv_iconst (pc := 14) (v := 0) hx hb dX11_isWithin_14 (by decide) ?_
      exact zens_z fin hf (by decide) hW dX11_isWithin_15
    · have hf := zf c2 hf
      refine lv_iconst (pc := 10) (v := 1) hx hb dX11_isWithin_10 (by decide) ?_
      refine lv_goto (pc := 11) (tgt := 15) hx hb dX11_isWithin_11 (by decide) ?_
      exact zens_z fin hf (by decide) hW dX11_isWithin_15

def fX11_isDark (p1 : Int32): Option Int32 :=
  zU (fX11_isWithin (p1 - p1 / 24 * 24) 5 19) fun r1 => if r1 = 0 then (some 1) else (some 0)
abbrev wX11_isDark : List Cond := Cond.code yX11_isDark cX11_isDark 1 (some .boolean) :: waX
abbrev rmX11_isDark : Room := { frames := 1, cells := 0, slots := 0, locals := 22 }
set_option maxHeartbeats 4000000 in
set_option maxRecDepth 100000 in
theorem kX11_isDark (l : Launch) (sz : Nat) (p1 : Int32) (r : Int32) (hf : fX11_isDark p1 = some r) : zMs l yX11_isDark wX11_isDark rmX11_isDark [.int p1] sz r := by
  refine zEs_z (cc := cX11_isDark) (maxL := 1) (own := RX11) (by decide) rfl rfl (Nat.le_of_ble_eq_true rfl) ?_
  intro p e s m args below meth c Q H locs C0 hW fin ls hl
  have hl : lv_has ls 1 [(0, .int p1)] := hl
  have hx := C0.1
  have hb := C0.2.1
  have hown := C0.2.2.2.1
  have hts := C0.2.2.2.2
  unfold fX11_isDark at hf
  refine lv_iload_n (pc := 0) hx hb dX11_isDark_0 rfl (lv_at hl 0 rfl) ?_
  refine lv_bipush (pc := 1) (v := 24) hx hb dX11_isDark_1 (by decide) ?_
  refine lv_irem (pc := 3) hx hb dX11_isDark_3 (by decide) ?_
  refine lv_iconst (pc := 4) (v := 5) hx hb dX11_isDark_4 (by decide) ?_
  refine lv_bipush (pc := 5) (v := 19) hx hb dX11_isDark_5 (by decide) ?_
  obtain ⟨r1, e3, hf⟩ := zU_e hf
  refine zcS0 (As := [.int (p1 - p1 / 24 * 24), .int 5, .int 19]) (pc := 7) C0 hW (kX11_isWithin l H.size (p1 - p1 / 24 * 24) 5 19 r1 e3) (va_cwS 3 hts (zgS gaX mX_225 mX_226 mX_151 mX_227) rfl rfl rfl (by decide +kernel) ⟨Nat.le_of_ble_eq_true rfl, Nat.le_of_ble_eq_true rfl⟩) rfl hl.1 rfl (Nat.le_of_ble_eq_true rfl) dX11_isDark_7 (fun H locs _ hW => ?_)
  refine lv_if_ne (pc := 10) (tgt := 17) hx hb dX11_isDark_10 (by decide) (fun c4 => ?_) (fun c4 => ?_)
  · have hf := zf c4 hf
    refine lv_iconst (pc := 17) (v := 0) hx hb dX11_isDark_17 (by decide) ?_
    exact zens_z fin hf (by decide) hW dX11_isDark_18
  · have hf := zt c4 hf
    refine lv_iconst (pc := 13) (v := 1) hx hb dX11_isDark_13 (by decide) ?_
    refine lv_goto (pc := 14) (tgt := 18) hx hb dX11_isDark_14 (by decide) ?_
    exact zens_z fin hf (by decide) hW dX11_isDark_18

def fX2_seekBestAt_b16 (N : Nat) (K2 : Int32 → Int32 → Int32 → zSt → Option zSt) : Nat → Int32 → Int32 → Int32 → Int32 → zSt → Option zSt
  | 0, _, _, _, _, _ => none
  | n + 1, v1, v2, v3, v4, S =>
    if 4 ≤ v4 then (K2 v1 v2 (v3 + 1) S) else (zL (zI S 706 v4) fun S2 => zB (fX2_leastMargin N v3 v2 (S2.1 304) S2) fun r3 S4 => zU (fX2_prefer (((1000 * v1) + (10 * v3)) + v4) r3 S4) fun S7 => fX2_seekBestAt_b16 N K2 n v1 v2 v3 (v4 + 1) S7)
def fX2_seekBestAt_b2 (N : Nat) : Nat → Int32 → Int32 → Int32 → zSt → Option zSt
  | 0, _, _, _, _ => none
  | n + 1, v1, v2, v3, S =>
    if (S.1 904) ≤ v3 then (some S) else (fX2_seekBestAt_b16 N (fX2_seekBestAt_b2 N n) N v1 v2 v3 0 S)
def fX2_seekBestAt (N : Nat) (p1 : Int32) (p2 : Int32) (S : zSt) : Option zSt :=
  fX2_seekBestAt_b2 N N p1 p2 0 S
abbrev wX2_seekBestAt : List Cond := Cond.code yX2_seekBestAt cX2_seekBestAt 5 none :: waX
abbrev rmX2_seekBestAt : Room := { frames := 5, cells := 0, slots := 0, locals := 127 }
set_option maxHeartbeats 4000000 in
set_option maxRecDepth 100000 in
theorem kX2_seekBestAt (l : Launch) (D : va_G) (cA : Nat → ClassId) (h tt : Nat → Nat) (sz : Nat) (N : Nat)  (p1 : Int32) (p2 : Int32) (S : zSt) (S1 : zSt) (hf : fX2_seekBestAt N p1 p2 S = some S1) : zMv l yX2_seekBestAt wX2_seekBestAt rmX2_seekBestAt (zEX tt) D (tX cA) (hsX h) [.ref (h 2), .int p1, .int p2] (wX cA h S) (wX cA h S1) sz := by
  refine zEn_v (cc := cX2_seekBestAt) (maxL := 5) (own := RX2) (by decide) rfl rfl (hmX cA h S) (Nat.le_of_ble_eq_true rfl) ?_
  intro p e s m args below meth c Q H locs C0 hW fin ls hl
  have hl : lv_has ls 5 [(0, .ref (h 2)), (1, .int p1), (2, .int p2)] := hl
  have hx := C0.1
  have hb := C0.2.1
  have hown := C0.2.2.2.1
  have hts := C0.2.2.2.2
  have w16 : ∀ (K2 : Int32 → Int32 → Int32 → zSt → Option zSt) (hK2 : ∀ (v1 : Int32) (v2 : Int32) (v3 : Int32) (S : zSt) (H : Heap) (locs : List Loc), zW (zEX tt) D (tX cA) (wX cA h S) (aW (hsX h) s.heap.size) s H locs → ∀ ls : Array Slot, lv_has ls 5 [(0, .ref (h 2)), (1, .int v1), (2, .int v2), (3, .int v3)] → K2 v1 v2 v3 S = some S1 → W p l e rmX2_seekBestAt s m args below meth c H locs 0 0 Q (F0 m 2 ls [])) (n : Nat), ∀ (v1 : Int32) (v2 : Int32) (v3 : Int32) (v4 : Int32) (S : zSt) (H : Heap) (locs : List Loc), zW (zEX tt) D (tX cA) (wX cA h S) (aW (hsX h) s.heap.size) s H locs → ∀ ls : Array Slot, lv_has ls 5 [(0, .ref (h 2)), (1, .int v1), (2, .int v2), (3, .int v3), (4, .int v4)] → fX2_seekBestAt_b16 N K2 n v1 v2 v3 v4 S = some S1 → W p l e rmX2_seekBestAt s m args below meth c H locs 0 0 Q (F0 m 16 ls []) := by
    intro K2 hK2 n
    induction n with
    | zero =>
      intro v1 v2 v3 v4 S H locs hW ls hl hf
      exact absurd hf (by intro h; cases h)
    | succ n ih =>
      intro v1 v2 v3 v4 S H locs hW ls hl hf
      rw [fX2_seekBestAt_b16] at hf
      refine lv_iload (pc := 16) hx hb dX2_seekBestAt_16 (lv_at hl 4 rfl) ?_
      refine lv_iconst (pc := 18) (v := 4) hx hb dX2_seekBestAt_18 (by decide) ?_
      refine lv_icmp_ge (pc := 19) (tgt := 64) hx hb dX2_seekBestAt_19 (by decide) (fun c1 => ?_) (fun c1 => ?_)
      · have hf := zt c1 hf
        refine lv_iinc (pc := 64) (v := (v3 + 1)) (lv' := [(3, .int (v3 + 1)), (0, .ref (h 2)), (1, .int v1), (2, .int v2), (4, .int v4)]) hx hb dX2_seekBestAt_64 hl (k := 3) rfl (by rfl) (by decide) rfl (fun ls hl => ?_)
        refine lv_goto (pc := 67) (tgt := 2) hx hb dX2_seekBestAt_67 (by decide) ?_
        exact hK2 v1 v2 (v3 + 1) S H locs hW ls (lv_sub hl [1, 2, 3, 0] rfl) hf
      · have hf := zf c1 hf
        refine lv_aload_n (pc := 22) hx hb dX2_seekBestAt_22 rfl (lv_at hl 0 rfl) ?_
        refine xg_302 (pc := 23) C0 hu_2 hW mX_108 dX2_seekBestAt_23 ?_
        refine lv_iload (pc := 26) hx hb dX2_seekBestAt_26 (lv_at hl 4 rfl) ?_
        obtain ⟨S2, e_S2, hf⟩ := zL_e hf
        refine xp_706 (pc := 28) C0 hu_6 hW mX_279 e_S2 dX2_seekBestAt_28 (fun H locs hW => ?_)
        refine lv_aload_n (pc := 31) hx hb dX2_seekBestAt_31 rfl (lv_at hl 0 rfl) ?_
        refine lv_sipush (pc := 32) (v := 1000) hx hb dX2_seekBestAt_32 (by decide) ?_
        refine lv_iload_n (pc := 35) hx hb dX2_seekBestAt_35 rfl (lv_at hl 1 rfl) ?_
        refine lv_imul (pc := 36) hx hb dX2_seekBestAt_36 ?_
        refine lv_bipush (pc := 37) (v := 10) hx hb dX2_seekBestAt_37 (by decide) ?_
        refine lv_iload_n (pc := 39) hx hb dX2_seekBestAt_39 rfl (lv_at hl 3 rfl) ?_
        refine lv_imul (pc := 40) hx hb dX2_seekBestAt_40 ?_
        refine lv_iadd (pc := 41) hx hb dX2_seekBestAt_41 ?_
        refine lv_iload (pc := 42) hx hb dX2_seekBestAt_42 (lv_at hl 4 rfl) ?_
        refine lv_iadd (pc := 44) hx hb dX2_seekBestAt_44 ?_
        refine lv_aload_n (pc := 45) hx hb dX2_seekBestAt_45 rfl (lv_at hl 0 rfl) ?_
        refine lv_iload_n (pc := 46) hx hb dX2_seekBestAt_46 rfl (lv_at hl 3 rfl) ?_
        refine lv_iload_n (pc := 47) hx hb dX2_seekBestAt_47 rfl (lv_at hl 2 rfl) ?_
        refine lv_aload_n (pc := 48) hx hb dX2_seekBestAt_48 rfl (lv_at hl 0 rfl) ?_
        refine xg_304 (pc := 49) C0 hu_2 hW mX_194 dX2_seekBestAt_49 ?_
        obtain ⟨r3, S4, e5, hf⟩ := zB_e hf
        refine zcVi (zEX_ok tt) (As := [.int v3, .int v2, .int (S2.1 304)]) (pc := 52) C0 hW (kX2_leastMargin l D cA h tt H.size N v3 v2 (S2.1 304) S2 r3 S4 e5) (cwV 3 hts (zgV gaX mX_207 mX_208 mX_209 mX_167 mX_172) rfl rfl rfl (by decide +kernel) ⟨Nat.le_of_ble_eq_true rfl, Nat.le_of_ble_eq_true rfl⟩) (va_recv hW.1 hW.2.1 (ci := 2) (q0 := 2) rfl rfl) rfl hl.1 rfl (Nat.le_of_ble_eq_true rfl) dX2_seekBestAt_52 (fun H locs hW => ?_)
        obtain ⟨S7, e8, hf⟩ := zU_e hf
        refine zcVv (zEX_ok tt) (As := [.int (((1000 * v1) + (10 * v3)) + v4), .int r3]) (pc := 55) C0 hW (kX2_prefer l D cA h tt H.size (((1000 * v1) + (10 * v3)) + v4) r3 S4 S7 e8) (cwV 2 hts (zgV gaX mX_210 mX_211 mX_212 mX_167 mX_213) rfl rfl rfl (by decide +kernel) ⟨Nat.le_of_ble_eq_true rfl, Nat.le_of_ble_eq_true rfl⟩) (va_recv hW.1 hW.2.1 (ci := 2) (q0 := 2) rfl rfl) rfl hl.1 rfl (Nat.le_of_ble_eq_true rfl) dX2_seekBestAt_55 (fun H locs hW => ?_)
        refine lv_iinc (pc := 58) (v := (v4 + 1)) (lv' := [(4, .int (v4 + 1)), (0, .ref (h 2)), (1, .int v1), (2, .int v2), (3, .int v3)]) hx hb dX2_seekBestAt_58 hl (k := 4) rfl (by rfl) (by decide) rfl (fun ls hl => ?_)
        refine lv_goto (pc := 61) (tgt := 16) hx hb dX2_seekBestAt_61 (by decide) ?_
        exact ih v1 v2 v3 (v4 + 1) S7 H locs hW ls (lv_sub hl [1, 2, 3, 4, 0] rfl) hf
  have w2 : ∀ (n : Nat), ∀ (v1 : Int32) (v2 : Int32) (v3 : Int32) (S : zSt) (H : Heap) (locs : List Loc), zW (zEX tt) D (tX cA) (wX cA h S) (aW (hsX h) s.heap.size) s H locs → ∀ ls : Array Slot, lv_has ls 5 [(0, .ref (h 2)), (1, .int v1), (2, .int v2), (3, .int v3)] → fX2_seekBestAt_b2 N n v1 v2 v3 S = some S1 → W p l e rmX2_seekBestAt s m args below meth c H locs 0 0 Q (F0 m 2 ls []) := by
    intro n
    induction n with
    | zero =>
      intro v1 v2 v3 S H locs hW ls hl hf
      exact absurd hf (by intro h; cases h)
    | succ n ih =>
      intro v1 v2 v3 S H locs hW ls hl hf
      rw [fX2_seekBestAt_b2] at hf
      refine lv_iload_n (pc := 2) hx hb dX2_seekBestAt_2 rfl (lv_at hl 3 rfl) ?_
      refine lv_aload_n (pc := 3) hx hb dX2_seekBestAt_3 rfl (lv_at hl 0 rfl) ?_
      refine xg_300 (pc := 4) C0 hu_2 hW mX_106 dX2_seekBestAt_4 ?_
      refine xg_904 (pc := 7) C0 hu_8 hW mX_278 dX2_seekBestAt_7 ?_
      refine lv_icmp_ge (pc := 10) (tgt := 70) hx hb dX2_seekBestAt_10 (by decide) (fun c9 => ?_) (fun c9 => ?_)
      · have hf := zt c9 hf
        exact zend_v (w := wX cA h) fin hf hW dX2_seekBestAt_70
      · have hf := zf c9 hf
        refine lv_iconst (pc := 13) (v := 0) hx hb dX2_seekBestAt_13 (by decide) ?_
        refine lv_istore (pc := 14) (lv' := [(4, .int 0), (0, .ref (h 2)), (1, .int v1), (2, .int v2), (3, .int v3)]) hx hb dX2_seekBestAt_14 hl (by decide) rfl (fun ls hl => ?_)
        exact w16 (fX2_seekBestAt_b2 N n) ih N v1 v2 v3 0 S H locs hW ls (lv_sub hl [1, 2, 3, 4, 0] rfl) hf
  unfold fX2_seekBestAt at hf
  refine lv_iconst (pc := 0) (v := 0) hx hb dX2_seekBestAt_0 (by decide) ?_
  refine lv_istore_n (pc := 1) (lv' := [(3, .int 0), (0, .ref (h 2)), (1, .int p1), (2, .int p2)]) hx hb dX2_seekBestAt_1 rfl hl (by decide) rfl (fun ls hl => ?_)
  exact w2 N p1 p2 0 S H locs hW ls (lv_sub hl [1, 2, 3, 0] rfl) hf

def fX4_has (p1 : Int32) (S : zSt) : Option (Int32 × zSt) :=
  if p1 < 0 then (some (0, S)) else (if (S.1 505) ≤ p1 then (some (0, S)) else (some (1, S)))
abbrev wX4_has : List Cond := Cond.code yX4_has cX4_has 2 (some .boolean) :: waX
abbrev rmX4_has : Room := { frames := 0, cells := 0, slots := 0, locals := 0 }
set_option maxHeartbeats 4000000 in
set_option maxRecDepth 100000 in
theorem kX4_has (l : Launch) (D : va_G) (cA : Nat → ClassId) (h tt : Nat → Nat) (sz : Nat)  (p1 : Int32) (S : zSt) (r : Int32) (S1 : zSt) (hf : fX4_has p1 S = some (r, S1)) : zMi l yX4_has wX4_has rmX4_has (zEX tt) D (tX cA) (hsX h) [.ref (h 4), .int p1] (wX cA h S) (wX cA h S1) sz r := by
  refine zEn_z (cc := cX4_has) (maxL := 2) (own := RX4) (by decide) rfl rfl (hmX cA h S) (Nat.le_of_ble_eq_true rfl) ?_
  intro p e s m args below meth c Q H locs C0 hW fin ls hl
  have hl : lv_has ls 2 [(0, .ref (h 4)), (1, .int p1)] := hl
  have hx := C0.1
  have hb := C0.2.1
  have hown := C0.2.2.2.1
  have hts := C0.2.2.2.2
  unfold fX4_has at hf
  refine lv_iload_n (pc := 0) hx hb dX4_has_0 rfl (lv_at hl 1 rfl) ?_
  refine lv_if_lt (pc := 1) (tgt := 16) hx hb dX4_has_1 (by decide) (fun c1 => ?_) (fun c1 => ?_)
  · have hf := zt c1 hf
    refine lv_iconst (pc := 16) (v := 0) hx hb dX4_has_16 (by decide) ?_
    exact zend_z (w := wX cA h) fin hf (by decide) hW dX4_has_17
  · have hf := zf c1 hf
    refine lv_iload_n (pc := 4) hx hb dX4_has_4 rfl (lv_at hl 1 rfl) ?_
    refine lv_aload_n (pc := 5) hx hb dX4_has_5 rfl (lv_at hl 0 rfl) ?_
    refine xg_505 (pc := 6) C0 hu_4 hW mX_238 dX4_has_6 ?_
    refine lv_icmp_ge (pc := 9) (tgt := 16) hx hb dX4_has_9 (by decide) (fun c2 => ?_) (fun c2 => ?_)
    · have hf := zt c2 hf
      refine lv_iconst (pc := 16) (v := 0) hx hb dX4_has_16 (by decide) ?_
      exact zend_z (w := wX cA h) fin hf (by decide) hW dX4_has_17
    · have hf := zf c2 hf
      refine lv_iconst (pc := 12) (v := 1) hx hb dX4_has_12 (by decide) ?_
      refine lv_goto (pc := 13) (tgt := 17) hx hb dX4_has_13 (by decide) ?_
      exact zend_z (w := wX cA h) fin hf (by decide) hW dX4_has_17

def fX4_pop (S : zSt) : Option (Int32 × zSt) :=
  if 0 < (S.1 504) then (zL (zI S 504 ((S.1 504) - 1)) fun S2 => if zin (S2.1 504) 121 then some ((S2.2.1 503 (Int32.toNatClampNeg (S2.1 504))), S2) else none) else (some (0, S))
abbrev wX4_pop : List Cond := Cond.code yX4_pop cX4_pop 1 (some .int) :: waX
abbrev rmX4_pop : Room := { frames := 0, cells := 0, slots := 0, locals := 0 }
set_option maxHeartbeats 4000000 in
set_option maxRecDepth 100000 in
theorem kX4_pop (l : Launch) (D : va_G) (cA : Nat → ClassId) (h tt : Nat → Nat) (sz : Nat)   (S : zSt) (r : Int32) (S1 : zSt) (hf : fX4_pop S = some (r, S1)) : zMi l yX4_pop wX4_pop rmX4_pop (zEX tt) D (tX cA) (hsX h) [.ref (h 4)] (wX cA h S) (wX cA h S1) sz r := by
  refine zEn_i (cc := cX4_pop) (maxL := 1) (own := RX4) (by decide) rfl rfl (hmX cA h S) (Nat.le_of_ble_eq_true rfl) ?_
  intro p e s m args below meth c Q H locs C0 hW fin ls hl
  have hl : lv_has ls 1 [(0, .ref (h 4))] := hl
  have hx := C0.1
  have hb := C0.2.1
  have hown := C0.2.2.2.1
  have hts := C0.2.2.2.2
  unfold fX4_pop at hf
  refine lv_aload_n (pc := 0) hx hb dX4_pop_0 rfl (lv_at hl 0 rfl) ?_
  refine xg_504 (pc := 1) C0 hu_4 hW mX_249 dX4_pop_1 ?_
  refine lv_if_gt (pc := 4) (tgt := 9) hx hb dX4_pop_4 (by decide) (fun c1 => ?_) (fun c1 => ?_)
  · have hf := zt c1 hf
    refine lv_aload_n (pc := 9) hx hb dX4_pop_9 rfl (lv_at hl 0 rfl) ?_
    refine lv_dup (pc := 10) hx hb dX4_pop_10 rfl ?_
    refine xg_504 (pc := 11) C0 hu_4 hW mX_249 dX4_pop_11 ?_
    refine lv_iconst (pc := 14) (v := 1) hx hb dX4_pop_14 (by decide) ?_
    refine lv_isub (pc := 15) hx hb dX4_pop_15 ?_
    obtain ⟨S2, e_S2, hf⟩ := zL_e hf
    refine xp_504 (pc := 16) C0 hu_4 hW mX_249 e_S2 dX4_pop_16 (fun H locs hW => ?_)
    refine lv_aload_n (pc := 19) hx hb dX4_pop_19 rfl (lv_at hl 0 rfl) ?_
    refine xg_503 (pc := 20) C0 hu_4 hW mX_256 dX4_pop_20 ?_
    refine lv_aload_n (pc := 23) hx hb dX4_pop_23 rfl (lv_at hl 0 rfl) ?_
    refine xg_504 (pc := 24) C0 hu_4 hW mX_249 dX4_pop_24 ?_
    obtain ⟨i3, hf⟩ := zn hf
    refine xl_503 (pc := 27) C0 hW i3 dX4_pop_27 ?_
    exact zend_i (w := wX cA h) fin hf hW dX4_pop_28
  · have hf := zf c1 hf
    refine lv_iconst (pc := 7) (v := 0) hx hb dX4_pop_7 (by decide) ?_
    exact zend_i (w := wX cA h) fin hf hW dX4_pop_8

def fX11_asNumber (p1 : Int32): Option Int32 :=
  if p1 = 0 then (some 0) else (some 1)
abbrev wX11_asNumber : List Cond := Cond.code yX11_asNumber cX11_asNumber 1 (some .int) :: waX
abbrev rmX11_asNumber : Room := { frames := 0, cells := 0, slots := 0, locals := 0 }
set_option maxHeartbeats 4000000 in
set_option maxRecDepth 100000 in
theorem kX11_asNumber (l : Launch) (sz : Nat) (p1 : Int32) (r : Int32) (hf : fX11_asNumber p1 = some r) : zMs l yX11_asNumber wX11_asNumber rmX11_asNumber [.int p1] sz r := by
  refine zEs_i (cc := cX11_asNumber) (maxL := 1) (own := RX11) (by decide) rfl rfl (Nat.le_of_ble_eq_true rfl) ?_
  intro p e s m args below meth c Q H locs C0 hW fin ls hl
  have hl : lv_has ls 1 [(0, .int p1)] := hl
  have hx := C0.1
  have hb := C0.2.1
  have hown := C0.2.2.2.1
  have hts := C0.2.2.2.2
  unfold fX11_asNumber at hf
  refine lv_iload_n (pc := 0) hx hb dX11_asNumber_0 rfl (lv_at hl 0 rfl) ?_
  refine lv_if_eq (pc := 1) (tgt := 8) hx hb dX11_asNumber_1 (by decide) (fun c1 => ?_) (fun c1 => ?_)
  · have hf := zt c1 hf
    refine lv_iconst (pc := 8) (v := 0) hx hb dX11_asNumber_8 (by decide) ?_
    exact zens_i fin hf hW dX11_asNumber_9
  · have hf := zf c1 hf
    refine lv_iconst (pc := 4) (v := 1) hx hb dX11_asNumber_4 (by decide) ?_
    refine lv_goto (pc := 5) (tgt := 9) hx hb dX11_asNumber_5 (by decide) ?_
    exact zens_i fin hf hW dX11_asNumber_9

def fX11_remainder (p1 : Int32) (p2 : Int32): Option Int32 :=
  if p2 = 0 then (some 0) else (if ¬ p2 = 0 then some (p1 - p1 / p2 * p2) else none)
abbrev wX11_remainder : List Cond := Cond.code yX11_remainder cX11_remainder 2 (some .int) :: waX
abbrev rmX11_remainder : Room := { frames := 0, cells := 0, slots := 0, locals := 0 }
set_option maxHeartbeats 4000000 in
set_option maxRecDepth 100000 in
theorem kX11_remainder (l : Launch) (sz : Nat) (p1 : Int32) (p2 : Int32) (r : Int32) (hf : fX11_remainder p1 p2 = some r) : zMs l yX11_remainder wX11_remainder rmX11_remainder [.int p1, .int p2] sz r := by
  refine zEs_i (cc := cX11_remainder) (maxL := 2) (own := RX11) (by decide) rfl rfl (Nat.le_of_ble_eq_true rfl) ?_
  intro p e s m args below meth c Q H locs C0 hW fin ls hl
  have hl : lv_has ls 2 [(0, .int p1), (1, .int p2)] := hl
  have hx := C0.1
  have hb := C0.2.1
  have hown := C0.2.2.2.1
  have hts := C0.2.2.2.2
  unfold fX11_remainder at hf
  refine lv_iload_n (pc := 0) hx hb dX11_remainder_0 rfl (lv_at hl 1 rfl) ?_
  refine lv_if_ne (pc := 1) (tgt := 8) hx hb dX11_remainder_1 (by decide) (fun c1 => ?_) (fun c1 => ?_)
  · have hf := zf c1 hf
    refine lv_iload_n (pc := 8) hx hb dX11_remainder_8 rfl (lv_at hl 0 rfl) ?_
    refine lv_iload_n (pc := 9) hx hb dX11_remainder_9 rfl (lv_at hl 1 rfl) ?_
    obtain ⟨i2, hf⟩ := zn hf
    refine lv_irem (pc := 10) hx hb dX11_remainder_10 i2 ?_
    exact zens_i fin hf hW dX11_remainder_11
  · have hf := zt c1 hf
    refine lv_iconst (pc := 4) (v := 0) hx hb dX11_remainder_4 (by decide) ?_
    refine lv_goto (pc := 5) (tgt := 11) hx hb dX11_remainder_5 (by decide) ?_
    exact zens_i fin hf hW dX11_remainder_11

def fX4_joined_b122  (u0 : Int32) (S : zSt) : Option (Int32 × zSt) :=
  zU (fX11_asNumber u0) fun r1 => some (r1, S)
def fX4_joined_b121  (S : zSt) : Option (Int32 × zSt) :=
  fX4_joined_b122 0 S
def fX4_joined_b136  (u0 : Int32) (S : zSt) : Option (Int32 × zSt) :=
  zU (fX11_asNumber u0) fun r4 => some (r4, S)
def fX4_joined_b150  (u0 : Int32) (S : zSt) : Option (Int32 × zSt) :=
  zU (fX11_asNumber u0) fun r7 => some (r7, S)
def fX4_joined_b164  (u0 : Int32) (S : zSt) : Option (Int32 × zSt) :=
  zU (fX11_asNumber u0) fun r10 => some (r10, S)
def fX4_joined_b105  (u0 : Int32) (S : zSt) : Option (Int32 × zSt) :=
  zU (fX11_asNumber u0) fun r13 => some (r13, S)
def fX4_joined_b100  (S : zSt) : Option (Int32 × zSt) :=
  fX4_joined_b105 1 S
def fX4_joined (p1 : Int32) (p2 : Int32) (p3 : Int32) (S : zSt) : Option (Int32 × zSt) :=
  if p1 = 37 then (zU (fX11_remainder p2 p3) fun r17 => some (r17, S)) else (if p1 = 38 then (if p2 = 0 then (fX4_joined_b121 S) else (if p3 = 0 then (fX4_joined_b121 S) else (fX4_joined_b122 1 S))) else (if p1 = 42 then (some ((p2 * p3), S)) else (if p1 = 43 then (some ((p2 + p3), S)) else (if p1 = 45 then (some ((p2 - p3), S)) else (if p1 = 47 then (zU (fX11_quotient p2 p3) fun r27 => some (r27, S)) else (if p1 = 60 then (if p3 ≤ p2 then (fX4_joined_b136 0 S) else (fX4_joined_b136 1 S)) else (if p1 = 61 then (if p2 = p3 then (fX4_joined_b150 1 S) else (fX4_joined_b150 0 S)) else (if p1 = 62 then (if p2 ≤ p3 then (fX4_joined_b164 0 S) else (fX4_joined_b164 1 S)) else (if p1 = 124 then (if p2 = 0 then (if p3 = 0 then (fX4_joined_b105 0 S) else (fX4_joined_b100 S)) else (fX4_joined_b100 S)) else (some (0, S)))))))))))
abbrev wX4_joined : List Cond := Cond.code yX4_joined cX4_joined 3 (some .int) :: waX
abbrev rmX4_joined : Room := { frames := 1, cells := 0, slots := 0, locals := 21 }
set_option maxHeartbeats 4000000 in
set_option maxRecDepth 100000 in
theorem kX4_joined (l : Launch) (D : va_G) (cA : Nat → ClassId) (h tt : Nat → Nat) (sz : Nat)  (p1 : Int32) (p2 : Int32) (p3 : Int32) (S : zSt) (r : Int32) (S1 : zSt) (hf : fX4_joined p1 p2 p3 S = some (r, S1)) : zMi l yX4_joined wX4_joined rmX4_joined (zEX tt) D (tX cA) (hsX h) [.int p1, .int p2, .int p3] (wX cA h S) (wX cA h S1) sz r := by
  refine zEn_i (cc := cX4_joined) (maxL := 3) (own := RX4) (by decide) rfl rfl (hmX cA h S) (Nat.le_of_ble_eq_true rfl) ?_
  intro p e s m args below meth c Q H locs C0 hW fin ls hl
  have hl : lv_has ls 3 [(0, .int p1), (1, .int p2), (2, .int p3)] := hl
  have hx := C0.1
  have hb := C0.2.1
  have hown := C0.2.2.2.1
  have hts := C0.2.2.2.2
  have w122 : ∀ (u0 : Int32) (S : zSt) (H : Heap) (locs : List Loc), zW (zEX tt) D (tX cA) (wX cA h S) (aW (hsX h) s.heap.size) s H locs → ∀ ls : Array Slot, lv_has ls 3 [] → fX4_joined_b122 u0 S = some (r, S1) → W p l e rmX4_joined s m args below meth c H locs 0 0 Q (F0 m 122 ls [.int u0]) := by
    intro u0 S H locs hW ls hl hf
    unfold fX4_joined_b122 at hf
    obtain ⟨r1, e3, hf⟩ := zU_e hf
    refine zcNi (As := [.int u0]) (pc := 122) C0 hW (kX11_asNumber l H.size u0 r1 e3) ⟨va_cnB 1 hts (zgN gaX mX_268) rfl rfl rfl hW.2.2.2.2.2.2.2.2.2.2.2.2.2.2.1 (hts _ mX_151) (by decide +kernel) ⟨Nat.le_of_ble_eq_true rfl, Nat.le_of_ble_eq_true rfl⟩, hts _ mX_267, trivial⟩ rfl hl.1 rfl (Nat.le_of_ble_eq_true rfl) dX4_joined_122 (fun H locs hW => ?_)
    exact zend_i (w := wX cA h) fin hf hW dX4_joined_125
  have w121 : ∀  (S : zSt) (H : Heap) (locs : List Loc), zW (zEX tt) D (tX cA) (wX cA h S) (aW (hsX h) s.heap.size) s H locs → ∀ ls : Array Slot, lv_has ls 3 [] → fX4_joined_b121 S = some (r, S1) → W p l e rmX4_joined s m args below meth c H locs 0 0 Q (F0 m 121 ls []) := by
    intro S H locs hW ls hl hf
    unfold fX4_joined_b121 at hf
    refine lv_iconst (pc := 121) (v := 0) hx hb dX4_joined_121 (by decide) ?_
    exact w122 0 S H locs hW ls (lv_sub hl [] rfl) hf
  have w136 : ∀ (u0 : Int32) (S : zSt) (H : Heap) (locs : List Loc), zW (zEX tt) D (tX cA) (wX cA h S) (aW (hsX h) s.heap.size) s H locs → ∀ ls : Array Slot, lv_has ls 3 [] → fX4_joined_b136 u0 S = some (r, S1) → W p l e rmX4_joined s m args below meth c H locs 0 0 Q (F0 m 136 ls [.int u0]) := by
    intro u0 S H locs hW ls hl hf
    unfold fX4_joined_b136 at hf
    obtain ⟨r4, e6, hf⟩ := zU_e hf
    refine zcNi (As := [.int u0]) (pc := 136) C0 hW (kX11_asNumber l H.size u0 r4 e6) ⟨va_cnB 1 hts (zgN gaX mX_268) rfl rfl rfl hW.2.2.2.2.2.2.2.2.2.2.2.2.2.2.1 (hts _ mX_151) (by decide +kernel) ⟨Nat.le_of_ble_eq_true rfl, Nat.le_of_ble_eq_true rfl⟩, hts _ mX_267, trivial⟩ rfl hl.1 rfl (Nat.le_of_ble_eq_true rfl) dX4_joined_136 (fun H locs hW => ?_)
    exact zend_i (w := wX cA h) fin hf hW dX4_joined_139
  have w150 : ∀ (u0 : Int32) (S : zSt) (H : Heap) (locs : List Loc), zW (zEX tt) D (tX cA) (wX cA h S) (aW (hsX h) s.heap.size) s H locs → ∀ ls : Array Slot, lv_has ls 3 [] → fX4_joined_b150 u0 S = some (r, S1) → W p l e rmX4_joined s m args below meth c H locs 0 0 Q (F0 m 150 ls [.int u0]) := by
    intro u0 S H locs hW ls hl hf
    unfold fX4_joined_b150 at hf
    obtain ⟨r7, e9, hf⟩ := zU_e hf
    refine zcNi (As := [.int u0]) (pc := 150) C0 hW (kX11_asNumber l H.size u0 r7 e9) ⟨va_cnB 1 hts (zgN gaX mX_268) rfl rfl rfl hW.2.2.2.2.2.2.2.2.2.2.2.2.2.2.1 (hts _ mX_151) (by decide +kernel) ⟨Nat.le_of_ble_eq_true rfl, Nat.le_of_ble_eq_true rfl⟩, hts _ mX_267, trivial⟩ rfl hl.1 rfl (Nat.le_of_ble_eq_true rfl) dX4_joined_150 (fun H locs hW => ?_)
    exact zend_i (w := wX cA h) fin hf hW dX4_joined_153
  have w164 : ∀ (u0 : Int32) (S : zSt) (H : Heap) (locs : List Loc), zW (zEX tt) D (tX cA) (wX cA h S) (aW (hsX h) s.heap.size) s H locs → ∀ ls : Array Slot, lv_has ls 3 [] → fX4_joined_b164 u0 S = some (r, S1) → W p l e rmX4_joined s m args below meth c H locs 0 0 Q (F0 m 164 ls [.int u0]) := by
    intro u0 S H locs hW ls hl hf
    unfold fX4_joined_b164 at hf
    obtain ⟨r10, e12, hf⟩ := zU_e hf
    refine zcNi (As := [.int u0]) (pc := 164) C0 hW (kX11_asNumber l H.size u0 r10 e12) ⟨va_cnB 1 hts (zgN gaX mX_268) rfl rfl rfl hW.2.2.2.2.2.2.2.2.2.2.2.2.2.2.1 (hts _ mX_151) (by decide +kernel) ⟨Nat.le_of_ble_eq_true rfl, Nat.le_of_ble_eq_true rfl⟩, hts _ mX_267, trivial⟩ rfl hl.1 rfl (Nat.le_of_ble_eq_true rfl) dX4_joined_164 (fun H locs hW => ?_)
    exact zend_i (w := wX cA h) fin hf hW dX4_joined_167
  have w105 : ∀ (u0 : Int32) (S : zSt) (H : Heap) (locs : List Loc), zW (zEX tt) D (tX cA) (wX cA h S) (aW (hsX h) s.heap.size) s H locs → ∀ ls : Array Slot, lv_has ls 3 [] → fX4_joined_b105 u0 S = some (r, S1) → W p l e rmX4_joined s m args below meth c H locs 0 0 Q (F0 m 105 ls [.int u0]) := by
    intro u0 S H locs hW ls hl hf
    unfold fX4_joined_b105 at hf
    obtain ⟨r13, e15, hf⟩ := zU_e hf
    refine zcNi (As := [.int u0]) (pc := 105) C0 hW (kX11_asNumber l H.size u0 r13 e15) ⟨va_cnB 1 hts (zgN gaX mX_268) rfl rfl rfl hW.2.2.2.2.2.2.2.2.2.2.2.2.2.2.1 (hts _ mX_151) (by decide +kernel) ⟨Nat.le_of_ble_eq_true rfl, Nat.le_of_ble_eq_true rfl⟩, hts _ mX_267, trivial⟩ rfl hl.1 rfl (Nat.le_of_ble_eq_true rfl) dX4_joined_105 (fun H locs hW => ?_)
    exact zend_i (w := wX cA h) fin hf hW dX4_joined_108
  have w100 : ∀  (S : zSt) (H : Heap) (locs : List Loc), zW (zEX tt) D (tX cA) (wX cA h S) (aW (hsX h) s.heap.size) s H locs → ∀ ls : Array Slot, lv_has ls 3 [] → fX4_joined_b100 S = some (r, S1) → W p l e rmX4_joined s m args below meth c H locs 0 0 Q (F0 m 100 ls []) := by
    intro S H locs hW ls hl hf
    unfold fX4_joined_b100 at hf
    refine lv_iconst (pc := 100) (v := 1) hx hb dX4_joined_100 (by decide) ?_
    refine lv_goto (pc := 101) (tgt := 105) hx hb dX4_joined_101 (by decide) ?_
    exact w105 1 S H locs hW ls (lv_sub hl [] rfl) hf
  unfold fX4_joined at hf
  refine lv_iload_n (pc := 0) hx hb dX4_joined_0 rfl (lv_at hl 0 rfl) ?_
  by_cases c16 : p1 = 37
  · have hf := zt c16 hf
    refine lv_lookup (pc := 1) (tgt := 186) (off := 185) hx hb dX4_joined_1 (by decide) (by rw [c16]; decide) (by decide) ?_
    refine lv_iload_n (pc := 186) hx hb dX4_joined_186 rfl (lv_at hl 1 rfl) ?_
    refine lv_iload_n (pc := 187) hx hb dX4_joined_187 rfl (lv_at hl 2 rfl) ?_
    obtain ⟨r17, e19, hf⟩ := zU_e hf
    refine zcNi (As := [.int p2, .int p3]) (pc := 188) C0 hW (kX11_remainder l H.size p2 p3 r17 e19) ⟨va_cnB 2 hts (zgN gaX mX_273) rfl rfl rfl hW.2.2.2.2.2.2.2.2.2.2.2.2.2.2.2.2.1 (hts _ mX_151) (by decide +kernel) ⟨Nat.le_of_ble_eq_true rfl, Nat.le_of_ble_eq_true rfl⟩, hts _ mX_272, trivial⟩ rfl hl.1 rfl (Nat.le_of_ble_eq_true rfl) dX4_joined_188 (fun H locs hW => ?_)
    exact zend_i (w := wX cA h) fin hf hW dX4_joined_191
  have hf := zf c16 hf
  by_cases c20 : p1 = 38
  · have hf := zt c20 hf
    refine lv_lookup (pc := 1) (tgt := 109) (off := 108) hx hb dX4_joined_1 (by decide) (by rw [c20]; decide) (by decide) ?_
    refine lv_iload_n (pc := 109) hx hb dX4_joined_109 rfl (lv_at hl 1 rfl) ?_
    refine lv_if_eq (pc := 110) (tgt := 121) hx hb dX4_joined_110 (by decide) (fun c21 => ?_) (fun c21 => ?_)
    · have hf := zt c21 hf
      exact w121 S H locs hW ls (lv_sub hl [] rfl) hf
    · have hf := zf c21 hf
      refine lv_iload_n (pc := 113) hx hb dX4_joined_113 rfl (lv_at hl 2 rfl) ?_
      refine lv_if_eq (pc := 114) (tgt := 121) hx hb dX4_joined_114 (by decide) (fun c22 => ?_) (fun c22 => ?_)
      · have hf := zt c22 hf
        exact w121 S H locs hW ls (lv_sub hl [] rfl) hf
      · have hf := zf c22 hf
        refine lv_iconst (pc := 117) (v := 1) hx hb dX4_joined_117 (by decide) ?_
        refine lv_goto (pc := 118) (tgt := 122) hx hb dX4_joined_118 (by decide) ?_
        exact w122 1 S H locs hW ls (lv_sub hl [] rfl) hf
  have hf := zf c20 hf
  by_cases c23 : p1 = 42
  · have hf := zt c23 hf
    refine lv_lookup (pc := 1) (tgt := 176) (off := 175) hx hb dX4_joined_1 (by decide) (by rw [c23]; decide) (by decide) ?_
    refine lv_iload_n (pc := 176) hx hb dX4_joined_176 rfl (lv_at hl 1 rfl) ?_
    refine lv_iload_n (pc := 177) hx hb dX4_joined_177 rfl (lv_at hl 2 rfl) ?_
    refine lv_imul (pc := 178) hx hb dX4_joined_178 ?_
    exact zend_i (w := wX cA h) fin hf hW dX4_joined_179
  have hf := zf c23 hf
  by_cases c24 : p1 = 43
  · have hf := zt c24 hf
    refine lv_lookup (pc := 1) (tgt := 168) (off := 167) hx hb dX4_joined_1 (by decide) (by rw [c24]; decide) (by decide) ?_
    refine lv_iload_n (pc := 168) hx hb dX4_joined_168 rfl (lv_at hl 1 rfl) ?_
    refine lv_iload_n (pc := 169) hx hb dX4_joined_169 rfl (lv_at hl 2 rfl) ?_
    refine lv_iadd (pc := 170) hx hb dX4_joined_170 ?_
    exact zend_i (w := wX cA h) fin hf hW dX4_joined_171
  have hf := zf c24 hf
  by_cases c25 : p1 = 45
  · have hf := zt c25 hf
    refine lv_lookup (pc := 1) (tgt := 172) (off := 171) hx hb dX4_joined_1 (by decide) (by rw [c25]; decide) (by decide) ?_
    refine lv_iload_n (pc := 172) hx hb dX4_joined_172 rfl (lv_at hl 1 rfl) ?_
    refine lv_iload_n (pc := 173) hx hb dX4_joined_173 rfl (lv_at hl 2 rfl) ?_
    refine lv_isub (pc := 174) hx hb dX4_joined_174 ?_
    exact zend_i (w := wX cA h) fin hf hW dX4_joined_175
  have hf := zf c25 hf
  by_cases c26 : p1 = 47
  · have hf := zt c26 hf
    refine lv_lookup (pc := 1) (tgt := 180) (off := 179) hx hb dX4_joined_1 (by decide) (by rw [c26]; decide) (by decide) ?_
    refine lv_iload_n (pc := 180) hx hb dX4_joined_180 rfl (lv_at hl 1 rfl) ?_
    refine lv_iload_n (pc := 181) hx hb dX4_joined_181 rfl (lv_at hl 2 rfl) ?_
    obtain ⟨r27, e29, hf⟩ := zU_e hf
    refine zcNi (As := [.int p2, .int p3]) (pc := 182) C0 hW (kX11_quotient l H.size p2 p3 r27 e29) ⟨va_cnB 2 hts (zgN gaX mX_152) rfl rfl rfl hW.2.2.2.2.2.2.2.2.2.2.2.2.2.2.2.1 (hts _ mX_151) (by decide +kernel) ⟨Nat.le_of_ble_eq_true rfl, Nat.le_of_ble_eq_true rfl⟩, hts _ mX_150, trivial⟩ rfl hl.1 rfl (Nat.le_of_ble_eq_true rfl) dX4_joined_182 (fun H locs hW => ?_)
    exact zend_i (w := wX cA h) fin hf hW dX4_joined_185
  have hf := zf c26 hf
  by_cases c30 : p1 = 60
  · have hf := zt c30 hf
    refine lv_lookup (pc := 1) (tgt := 126) (off := 125) hx hb dX4_joined_1 (by decide) (by rw [c30]; decide) (by decide) ?_
    refine lv_iload_n (pc := 126) hx hb dX4_joined_126 rfl (lv_at hl 1 rfl) ?_
    refine lv_iload_n (pc := 127) hx hb dX4_joined_127 rfl (lv_at hl 2 rfl) ?_
    refine lv_icmp_ge (pc := 128) (tgt := 135) hx hb dX4_joined_128 (by decide) (fun c31 => ?_) (fun c31 => ?_)
    · have hf := zt c31 hf
      refine lv_iconst (pc := 135) (v := 0) hx hb dX4_joined_135 (by decide) ?_
      exact w136 0 S H locs hW ls (lv_sub hl [] rfl) hf
    · have hf := zf c31 hf
      refine lv_iconst (pc := 131) (v := 1) hx hb dX4_joined_131 (by decide) ?_
      refine lv_goto (pc := 132) (tgt := 136) hx hb dX4_joined_132 (by decide) ?_
      exact w136 1 S H locs hW ls (lv_sub hl [] rfl) hf
  have hf := zf c30 hf
  by_cases c32 : p1 = 61
  · have hf := zt c32 hf
    refine lv_lookup (pc := 1) (tgt := 140) (off := 139) hx hb dX4_joined_1 (by decide) (by rw [c32]; decide) (by decide) ?_
    refine lv_iload_n (pc := 140) hx hb dX4_joined_140 rfl (lv_at hl 1 rfl) ?_
    refine lv_iload_n (pc := 141) hx hb dX4_joined_141 rfl (lv_at hl 2 rfl) ?_
    refine lv_icmp_ne (pc := 142) (tgt := 149) hx hb dX4_joined_142 (by decide) (fun c33 => ?_) (fun c33 => ?_)
    · have hf := zf c33 hf
      refine lv_iconst (pc := 149) (v := 0) hx hb dX4_joined_149 (by decide) ?_
      exact w150 0 S H locs hW ls (lv_sub hl [] rfl) hf
    · have hf := zt c33 hf
      refine lv_iconst (pc := 145) (v := 1) hx hb dX4_joined_145 (by decide) ?_
      refine lv_goto (pc := 146) (tgt := 150) hx hb dX4_joined_146 (by decide) ?_
      exact w150 1 S H locs hW ls (lv_sub hl [] rfl) hf
  have hf := zf c32 hf
  by_cases c34 : p1 = 62
  · have hf := zt c34 hf
    refine lv_lookup (pc := 1) (tgt := 154) (off := 153) hx hb dX4_joined_1 (by decide) (by rw [c34]; decide) (by decide) ?_
    refine lv_iload_n (pc := 154) hx hb dX4_joined_154 rfl (lv_at hl 1 rfl) ?_
    refine lv_iload_n (pc := 155) hx hb dX4_joined_155 rfl (lv_at hl 2 rfl) ?_
    refine lv_icmp_le (pc := 156) (tgt := 163) hx hb dX4_joined_156 (by decide) (fun c35 => ?_) (fun c35 => ?_)
    · have hf := zt c35 hf
      refine lv_iconst (pc := 163) (v := 0) hx hb dX4_joined_163 (by decide) ?_
      exact w164 0 S H locs hW ls (lv_sub hl [] rfl) hf
    · have hf := zf c35 hf
      refine lv_iconst (pc := 159) (v := 1) hx hb dX4_joined_159 (by decide) ?_
      refine lv_goto (pc := 160) (tgt := 164) hx hb dX4_joined_160 (by decide) ?_
      exact w164 1 S H locs hW ls (lv_sub hl [] rfl) hf
  have hf := zf c34 hf
  by_cases c36 : p1 = 124
  · have hf := zt c36 hf
    refine lv_lookup (pc := 1) (tgt := 92) (off := 91) hx hb dX4_joined_1 (by decide) (by rw [c36]; decide) (by decide) ?_
    refine lv_iload_n (pc := 92) hx hb dX4_joined_92 rfl (lv_at hl 1 rfl) ?_
    refine lv_if_ne (pc := 93) (tgt := 100) hx hb dX4_joined_93 (by decide) (fun c37 => ?_) (fun c37 => ?_)
    · have hf := zf c37 hf
      exact w100 S H locs hW ls (lv_sub hl [] rfl) hf
    · have hf := zt c37 hf
      refine lv_iload_n (pc := 96) hx hb dX4_joined_96 rfl (lv_at hl 2 rfl) ?_
      refine lv_if_eq (pc := 97) (tgt := 104) hx hb dX4_joined_97 (by decide) (fun c38 => ?_) (fun c38 => ?_)
      · have hf := zt c38 hf
        refine lv_iconst (pc := 104) (v := 0) hx hb dX4_joined_104 (by decide) ?_
        exact w105 0 S H locs hW ls (lv_sub hl [] rfl) hf
      · have hf := zf c38 hf
        exact w100 S H locs hW ls (lv_sub hl [] rfl) hf
  have hf := zf c36 hf
  refine lv_lookup (pc := 1) (tgt := 192) (off := 191) hx hb dX4_joined_1 (by decide) (zlook _ _ _ (List.forall_mem_cons.mpr ⟨zlk c16 (by decide), (List.forall_mem_cons.mpr ⟨zlk c20 (by decide), (List.forall_mem_cons.mpr ⟨zlk c23 (by decide), (List.forall_mem_cons.mpr ⟨zlk c24 (by decide), (List.forall_mem_cons.mpr ⟨zlk c25 (by decide), (List.forall_mem_cons.mpr ⟨zlk c26 (by decide), (List.forall_mem_cons.mpr ⟨zlk c30 (by decide), (List.forall_mem_cons.mpr ⟨zlk c32 (by decide), (List.forall_mem_cons.mpr ⟨zlk c34 (by decide), (List.forall_mem_cons.mpr ⟨zlk c36 (by decide), (fun _ h => absurd h List.not_mem_nil)⟩)⟩)⟩)⟩)⟩)⟩)⟩)⟩)⟩)⟩)) (by decide) ?_
  refine lv_iconst (pc := 192) (v := 0) hx hb dX4_joined_192 (by decide) ?_
  exact zend_i (w := wX cA h) fin hf hW dX4_joined_193

def fX4_push (p1 : Int32) (S : zSt) : Option zSt :=
  if 121 ≤ (S.1 504) then (some S) else (if zin (S.1 504) 121 then zL (zA S 503 (Int32.toNatClampNeg (S.1 504)) p1) fun S3 => zL (zI S3 504 ((S3.1 504) + 1)) fun S4 => some S4 else none)
abbrev wX4_push : List Cond := Cond.code yX4_push cX4_push 2 none :: waX
abbrev rmX4_push : Room := { frames := 0, cells := 0, slots := 0, locals := 0 }
set_option maxHeartbeats 4000000 in
set_option maxRecDepth 100000 in
theorem kX4_push (l : Launch) (D : va_G) (cA : Nat → ClassId) (h tt : Nat → Nat) (sz : Nat)  (p1 : Int32) (S : zSt) (S1 : zSt) (hf : fX4_push p1 S = some S1) : zMv l yX4_push wX4_push rmX4_push (zEX tt) D (tX cA) (hsX h) [.ref (h 4), .int p1] (wX cA h S) (wX cA h S1) sz := by
  refine zEn_v (cc := cX4_push) (maxL := 2) (own := RX4) (by decide) rfl rfl (hmX cA h S) (Nat.le_of_ble_eq_true rfl) ?_
  intro p e s m args below meth c Q H locs C0 hW fin ls hl
  have hl : lv_has ls 2 [(0, .ref (h 4)), (1, .int p1)] := hl
  have hx := C0.1
  have hb := C0.2.1
  have hown := C0.2.2.2.1
  have hts := C0.2.2.2.2
  unfold fX4_push at hf
  refine lv_aload_n (pc := 0) hx hb dX4_push_0 rfl (lv_at hl 0 rfl) ?_
  refine xg_504 (pc := 1) C0 hu_4 hW mX_249 dX4_push_1 ?_
  refine lv_aload_n (pc := 4) hx hb dX4_push_4 rfl (lv_at hl 0 rfl) ?_
  refine xg_503 (pc := 5) C0 hu_4 hW mX_256 dX4_push_5 ?_
  refine xn_503 (pc := 8) C0 hW dX4_push_8 ?_
  refine lv_icmp_ge (pc := 9) (tgt := 32) hx hb dX4_push_9 (by decide) (fun c1 => ?_) (fun c1 => ?_)
  · have hf := zt c1 hf
    exact zend_v (w := wX cA h) fin hf hW dX4_push_32
  · have hf := zf c1 hf
    refine lv_aload_n (pc := 12) hx hb dX4_push_12 rfl (lv_at hl 0 rfl) ?_
    refine xg_503 (pc := 13) C0 hu_4 hW mX_256 dX4_push_13 ?_
    refine lv_aload_n (pc := 16) hx hb dX4_push_16 rfl (lv_at hl 0 rfl) ?_
    refine xg_504 (pc := 17) C0 hu_4 hW mX_249 dX4_push_17 ?_
    refine lv_iload_n (pc := 20) hx hb dX4_push_20 rfl (lv_at hl 1 rfl) ?_
    obtain ⟨i2, hf⟩ := zn hf
    obtain ⟨S3, e_S3, hf⟩ := zL_e hf
    refine xs_s503 (pc := 21) C0 hW i2 e_S3 dX4_push_21 (fun H locs hW => ?_)
    refine lv_aload_n (pc := 22) hx hb dX4_push_22 rfl (lv_at hl 0 rfl) ?_
    refine lv_dup (pc := 23) hx hb dX4_push_23 rfl ?_
    refine xg_504 (pc := 24) C0 hu_4 hW mX_249 dX4_push_24 ?_
    refine lv_iconst (pc := 27) (v := 1) hx hb dX4_push_27 (by decide) ?_
    refine lv_iadd (pc := 28) hx hb dX4_push_28 ?_
    obtain ⟨S4, e_S4, hf⟩ := zL_e hf
    refine xp_504 (pc := 29) C0 hu_4 hW mX_249 e_S4 dX4_push_29 (fun H locs hW => ?_)
    exact zend_v (w := wX cA h) fin hf hW dX4_push_32

def fX4_work_b118  (u1 : Int32) (S : zSt) : Option zSt :=
  zU (fX11_asNumber u1) fun r1 => zU (fX4_push r1 S) fun S5 => some S5
def fX4_work (p1 : Int32) (p2 : Int32) (S : zSt) : Option zSt :=
  if p1 < 0 then (if (-p1) = 33 then (zB (fX4_pop S) fun r9 S10 => if r9 = 0 then (fX4_work_b118 1 S10) else (fX4_work_b118 0 S10)) else (if (-p1) = 99 then (zU (fX4_push (p2 - p2 / 24 * 24) S) fun S15 => some S15) else (if (-p1) = 104 then (zU (fX4_push p2 S) fun S19 => some S19) else (if (-p1) = 105 then (zU (fX4_push (S.1 507) S) fun S23 => some S23) else (if (-p1) = 114 then (zU (fX4_push (S.1 506) S) fun S27 => some S27) else (if (-p1) = 126 then (zB (fX4_pop S) fun r30 S31 => zU (fX4_push (-r30) S31) fun S34 => some S34) else (zB (fX4_pop S) fun r36 S37 => zB (fX4_pop S37) fun r39 S40 => zB (fX4_joined (-p1) r39 r36 S40) fun r42 S43 => zU (fX4_push r42 S43) fun S46 => some S46))))))) else (zU (fX4_push p1 S) fun S49 => some S49)
abbrev wX4_work : List Cond := Cond.code yX4_work cX4_work 5 none :: waX
abbrev rmX4_work : Room := { frames := 2, cells := 0, slots := 0, locals := 43 }
set_option maxHeartbeats 4000000 in
set_option maxRecDepth 100000 in
theorem kX4_work (l : Launch) (D : va_G) (cA : Nat → ClassId) (h tt : Nat → Nat) (sz : Nat)  (p1 : Int32) (p2 : Int32) (S : zSt) (S1 : zSt) (hf : fX4_work p1 p2 S = some S1) : zMv l yX4_work wX4_work rmX4_work (zEX tt) D (tX cA) (hsX h) [.ref (h 4), .int p1, .int p2] (wX cA h S) (wX cA h S1) sz := by
  refine zEn_v (cc := cX4_work) (maxL := 5) (own := RX4) (by decide) rfl rfl (hmX cA h S) (Nat.le_of_ble_eq_true rfl) ?_
  intro p e s m args below meth c Q H locs C0 hW fin ls hl
  have hl : lv_has ls 5 [(0, .ref (h 4)), (1, .int p1), (2, .int p2)] := hl
  have hx := C0.1
  have hb := C0.2.1
  have hown := C0.2.2.2.1
  have hts := C0.2.2.2.2
  have w118 : ∀ (u1 : Int32) (S : zSt) (H : Heap) (locs : List Loc), zW (zEX tt) D (tX cA) (wX cA h S) (aW (hsX h) s.heap.size) s H locs → ∀ ls : Array Slot, lv_has ls 5 [] → fX4_work_b118 u1 S = some S1 → W p l e rmX4_work s m args below meth c H locs 0 0 Q (F0 m 118 ls [.int u1, .ref (h 4)]) := by
    intro u1 S H locs hW ls hl hf
    unfold fX4_work_b118 at hf
    obtain ⟨r1, e3, hf⟩ := zU_e hf
    refine zcNi (As := [.int u1]) (pc := 118) C0 hW (kX11_asNumber l H.size u1 r1 e3) ⟨va_cnB 1 hts (zgN gaX mX_268) rfl rfl rfl hW.2.2.2.2.2.2.2.2.2.2.2.2.2.2.1 (hts _ mX_151) (by decide +kernel) ⟨Nat.le_of_ble_eq_true rfl, Nat.le_of_ble_eq_true rfl⟩, hts _ mX_267, trivial⟩ rfl hl.1 rfl (Nat.le_of_ble_eq_true rfl) dX4_work_118 (fun H locs hW => ?_)
    obtain ⟨S5, e6, hf⟩ := zU_e hf
    refine zcVv (zEX_ok tt) (As := [.int r1]) (pc := 121) C0 hW (kX4_push l D cA h tt H.size r1 S S5 e6) (cwV 1 hts (zgV gaX mX_263 mX_264 mX_265 mX_231 mX_266) rfl rfl rfl (by decide +kernel) ⟨Nat.le_of_ble_eq_true rfl, Nat.le_of_ble_eq_true rfl⟩) (va_recv hW.1 hW.2.1 (ci := 4) (q0 := 4) rfl rfl) rfl hl.1 rfl (Nat.le_of_ble_eq_true rfl) dX4_work_121 (fun H locs hW => ?_)
    exact zend_v (w := wX cA h) fin hf hW dX4_work_124
  unfold fX4_work at hf
  refine lv_iload_n (pc := 0) hx hb dX4_work_0 rfl (lv_at hl 1 rfl) ?_
  refine lv_if_lt (pc := 1) (tgt := 10) hx hb dX4_work_1 (by decide) (fun c7 => ?_) (fun c7 => ?_)
  · have hf := zt c7 hf
    refine lv_iload_n (pc := 10) hx hb dX4_work_10 rfl (lv_at hl 1 rfl) ?_
    refine lv_ineg (pc := 11) hx hb dX4_work_11 ?_
    by_cases c8 : (-p1) = 33
    · have hf := zt c8 hf
      refine lv_lookup (pc := 12) (tgt := 105) (off := 93) hx hb dX4_work_12 (by decide) (by rw [c8]; decide) (by decide) ?_
      refine lv_aload_n (pc := 105) hx hb dX4_work_105 rfl (lv_at hl 0 rfl) ?_
      refine lv_aload_n (pc := 106) hx hb dX4_work_106 rfl (lv_at hl 0 rfl) ?_
      obtain ⟨r9, S10, e11, hf⟩ := zB_e hf
      refine zcVi (zEX_ok tt) (As := []) (pc := 107) C0 hW (kX4_pop l D cA h tt H.size S r9 S10 e11) (cwV 0 hts (zgV gaX mX_252 mX_253 mX_254 mX_231 mX_255) rfl rfl rfl (by decide +kernel) ⟨Nat.le_of_ble_eq_true rfl, Nat.le_of_ble_eq_true rfl⟩) (va_recv hW.1 hW.2.1 (ci := 4) (q0 := 4) rfl rfl) rfl hl.1 rfl (Nat.le_of_ble_eq_true rfl) dX4_work_107 (fun H locs hW => ?_)
      refine lv_if_ne (pc := 110) (tgt := 117) hx hb dX4_work_110 (by decide) (fun c12 => ?_) (fun c12 => ?_)
      · have hf := zf c12 hf
        refine lv_iconst (pc := 117) (v := 0) hx hb dX4_work_117 (by decide) ?_
        exact w118 0 S10 H locs hW ls (lv_sub hl [] rfl) hf
      · have hf := zt c12 hf
        refine lv_iconst (pc := 113) (v := 1) hx hb dX4_work_113 (by decide) ?_
        refine lv_goto (pc := 114) (tgt := 118) hx hb dX4_work_114 (by decide) ?_
        exact w118 1 S10 H locs hW ls (lv_sub hl [] rfl) hf
    have hf := zf c8 hf
    by_cases c13 : (-p1) = 99
    · have hf := zt c13 hf
      refine lv_lookup (pc := 12) (tgt := 78) (off := 66) hx hb dX4_work_12 (by decide) (by rw [c13]; decide) (by decide) ?_
      refine lv_aload_n (pc := 78) hx hb dX4_work_78 rfl (lv_at hl 0 rfl) ?_
      refine lv_iload_n (pc := 79) hx hb dX4_work_79 rfl (lv_at hl 2 rfl) ?_
      refine lv_bipush (pc := 80) (v := 24) hx hb dX4_work_80 (by decide) ?_
      refine lv_irem (pc := 82) hx hb dX4_work_82 (by decide) ?_
      obtain ⟨S15, e16, hf⟩ := zU_e hf
      refine zcVv (zEX_ok tt) (As := [.int (p2 - p2 / 24 * 24)]) (pc := 83) C0 hW (kX4_push l D cA h tt H.size (p2 - p2 / 24 * 24) S S15 e16) (cwV 1 hts (zgV gaX mX_263 mX_264 mX_265 mX_231 mX_266) rfl rfl rfl (by decide +kernel) ⟨Nat.le_of_ble_eq_true rfl, Nat.le_of_ble_eq_true rfl⟩) (va_recv hW.1 hW.2.1 (ci := 4) (q0 := 4) rfl rfl) rfl hl.1 rfl (Nat.le_of_ble_eq_true rfl) dX4_work_83 (fun H locs hW => ?_)
      exact zend_v (w := wX cA h) fin hf hW dX4_work_86
    have hf := zf c13 hf
    by_cases c17 : (-p1) = 104
    · have hf := zt c17 hf
      refine lv_lookup (pc := 12) (tgt := 72) (off := 60) hx hb dX4_work_12 (by decide) (by rw [c17]; decide) (by decide) ?_
      refine lv_aload_n (pc := 72) hx hb dX4_work_72 rfl (lv_at hl 0 rfl) ?_
      refine lv_iload_n (pc := 73) hx hb dX4_work_73 rfl (lv_at hl 2 rfl) ?_
      obtain ⟨S19, e20, hf⟩ := zU_e hf
      refine zcVv (zEX_ok tt) (As := [.int p2]) (pc := 74) C0 hW (kX4_push l D cA h tt H.size p2 S S19 e20) (cwV 1 hts (zgV gaX mX_263 mX_264 mX_265 mX_231 mX_266) rfl rfl rfl (by decide +kernel) ⟨Nat.le_of_ble_eq_true rfl, Nat.le_of_ble_eq_true rfl⟩) (va_recv hW.1 hW.2.1 (ci := 4) (q0 := 4) rfl rfl) rfl hl.1 rfl (Nat.le_of_ble_eq_true rfl) dX4_work_74 (fun H locs hW => ?_)
      exact zend_v (w := wX cA h) fin hf hW dX4_work_77
    have hf := zf c17 hf
    by_cases c21 : (-p1) = 105
    · have hf := zt c21 hf
      refine lv_lookup (pc := 12) (tgt := 96) (off := 84) hx hb dX4_work_12 (by decide) (by rw [c21]; decide) (by decide) ?_
      refine lv_aload_n (pc := 96) hx hb dX4_work_96 rfl (lv_at hl 0 rfl) ?_
      refine lv_aload_n (pc := 97) hx hb dX4_work_97 rfl (lv_at hl 0 rfl) ?_
      refine xg_507 (pc := 98) C0 hu_4 hW mX_262 dX4_work_98 ?_
      obtain ⟨S23, e24, hf⟩ := zU_e hf
      refine zcVv (zEX_ok tt) (As := [.int (S.1 507)]) (pc := 101) C0 hW (kX4_push l D cA h tt H.size (S.1 507) S S23 e24) (cwV 1 hts (zgV gaX mX_263 mX_264 mX_265 mX_231 mX_266) rfl rfl rfl (by decide +kernel) ⟨Nat.le_of_ble_eq_true rfl, Nat.le_of_ble_eq_true rfl⟩) (va_recv hW.1 hW.2.1 (ci := 4) (q0 := 4) rfl rfl) rfl hl.1 rfl (Nat.le_of_ble_eq_true rfl) dX4_work_101 (fun H locs hW => ?_)
      exact zend_v (w := wX cA h) fin hf hW dX4_work_104
    have hf := zf c21 hf
    by_cases c25 : (-p1) = 114
    · have hf := zt c25 hf
      refine lv_lookup (pc := 12) (tgt := 87) (off := 75) hx hb dX4_work_12 (by decide) (by rw [c25]; decide) (by decide) ?_
      refine lv_aload_n (pc := 87) hx hb dX4_work_87 rfl (lv_at hl 0 rfl) ?_
      refine lv_aload_n (pc := 88) hx hb dX4_work_88 rfl (lv_at hl 0 rfl) ?_
      refine xg_506 (pc := 89) C0 hu_4 hW mX_261 dX4_work_89 ?_
      obtain ⟨S27, e28, hf⟩ := zU_e hf
      refine zcVv (zEX_ok tt) (As := [.int (S.1 506)]) (pc := 92) C0 hW (kX4_push l D cA h tt H.size (S.1 506) S S27 e28) (cwV 1 hts (zgV gaX mX_263 mX_264 mX_265 mX_231 mX_266) rfl rfl rfl (by decide +kernel) ⟨Nat.le_of_ble_eq_true rfl, Nat.le_of_ble_eq_true rfl⟩) (va_recv hW.1 hW.2.1 (ci := 4) (q0 := 4) rfl rfl) rfl hl.1 rfl (Nat.le_of_ble_eq_true rfl) dX4_work_92 (fun H locs hW => ?_)
      exact zend_v (w := wX cA h) fin hf hW dX4_work_95
    have hf := zf c25 hf
    by_cases c29 : (-p1) = 126
    · have hf := zt c29 hf
      refine lv_lookup (pc := 12) (tgt := 125) (off := 113) hx hb dX4_work_12 (by decide) (by rw [c29]; decide) (by decide) ?_
      refine lv_aload_n (pc := 125) hx hb dX4_work_125 rfl (lv_at hl 0 rfl) ?_
      refine lv_aload_n (pc := 126) hx hb dX4_work_126 rfl (lv_at hl 0 rfl) ?_
      obtain ⟨r30, S31, e32, hf⟩ := zB_e hf
      refine zcVi (zEX_ok tt) (As := []) (pc := 127) C0 hW (kX4_pop l D cA h tt H.size S r30 S31 e32) (cwV 0 hts (zgV gaX mX_252 mX_253 mX_254 mX_231 mX_255) rfl rfl rfl (by decide +kernel) ⟨Nat.le_of_ble_eq_true rfl, Nat.le_of_ble_eq_true rfl⟩) (va_recv hW.1 hW.2.1 (ci := 4) (q0 := 4) rfl rfl) rfl hl.1 rfl (Nat.le_of_ble_eq_true rfl) dX4_work_127 (fun H locs hW => ?_)
      refine lv_ineg (pc := 130) hx hb dX4_work_130 ?_
      obtain ⟨S34, e35, hf⟩ := zU_e hf
      refine zcVv (zEX_ok tt) (As := [.int (-r30)]) (pc := 131) C0 hW (kX4_push l D cA h tt H.size (-r30) S31 S34 e35) (cwV 1 hts (zgV gaX mX_263 mX_264 mX_265 mX_231 mX_266) rfl rfl rfl (by decide +kernel) ⟨Nat.le_of_ble_eq_true rfl, Nat.le_of_ble_eq_true rfl⟩) (va_recv hW.1 hW.2.1 (ci := 4) (q0 := 4) rfl rfl) rfl hl.1 rfl (Nat.le_of_ble_eq_true rfl) dX4_work_131 (fun H locs hW => ?_)
      exact zend_v (w := wX cA h) fin hf hW dX4_work_134
    have hf := zf c29 hf
    refine lv_lookup (pc := 12) (tgt := 135) (off := 123) hx hb dX4_work_12 (by decide) (zlook _ _ _ (List.forall_mem_cons.mpr ⟨zlk c8 (by decide), (List.forall_mem_cons.mpr ⟨zlk c13 (by decide), (List.forall_mem_cons.mpr ⟨zlk c17 (by decide), (List.forall_mem_cons.mpr ⟨zlk c21 (by decide), (List.forall_mem_cons.mpr ⟨zlk c25 (by decide), (List.forall_mem_cons.mpr ⟨zlk c29 (by decide), (fun _ h => absurd h List.not_mem_nil)⟩)⟩)⟩)⟩)⟩)⟩)) (by decide) ?_
    refine lv_aload_n (pc := 135) hx hb dX4_work_135 rfl (lv_at hl 0 rfl) ?_
    obtain ⟨r36, S37, e38, hf⟩ := zB_e hf
    refine zcVi (zEX_ok tt) (As := []) (pc := 136) C0 hW (kX4_pop l D cA h tt H.size S r36 S37 e38) (cwV 0 hts (zgV gaX mX_252 mX_253 mX_254 mX_231 mX_255) rfl rfl rfl (by decide +kernel) ⟨Nat.le_of_ble_eq_true rfl, Nat.le_of_ble_eq_true rfl⟩) (va_recv hW.1 hW.2.1 (ci := 4) (q0 := 4) rfl rfl) rfl hl.1 rfl (Nat.le_of_ble_eq_true rfl) dX4_work_136 (fun H locs hW => ?_)
    refine lv_istore_n (pc := 139) (lv' := [(3, .int r36), (0, .ref (h 4)), (1, .int p1), (2, .int p2)]) hx hb dX4_work_139 rfl hl (by decide) rfl (fun ls hl => ?_)
    refine lv_aload_n (pc := 140) hx hb dX4_work_140 rfl (lv_at hl 1 rfl) ?_
    obtain ⟨r39, S40, e41, hf⟩ := zB_e hf
    refine zcVi (zEX_ok tt) (As := []) (pc := 141) C0 hW (kX4_pop l D cA h tt H.size S37 r39 S40 e41) (cwV 0 hts (zgV gaX mX_252 mX_253 mX_254 mX_231 mX_255) rfl rfl rfl (by decide +kernel) ⟨Nat.le_of_ble_eq_true rfl, Nat.le_of_ble_eq_true rfl⟩) (va_recv hW.1 hW.2.1 (ci := 4) (q0 := 4) rfl rfl) rfl hl.1 rfl (Nat.le_of_ble_eq_true rfl) dX4_work_141 (fun H locs hW => ?_)
    refine lv_istore (pc := 144) (lv' := [(4, .int r39), (3, .int r36), (0, .ref (h 4)), (1, .int p1), (2, .int p2)]) hx hb dX4_work_144 hl (by decide) rfl (fun ls hl => ?_)
    refine lv_aload_n (pc := 146) hx hb dX4_work_146 rfl (lv_at hl 2 rfl) ?_
    refine lv_iload_n (pc := 147) hx hb dX4_work_147 rfl (lv_at hl 3 rfl) ?_
    refine lv_ineg (pc := 148) hx hb dX4_work_148 ?_
    refine lv_iload (pc := 149) hx hb dX4_work_149 (lv_at hl 0 rfl) ?_
    refine lv_iload_n (pc := 151) hx hb dX4_work_151 rfl (lv_at hl 1 rfl) ?_
    obtain ⟨r42, S43, e44, hf⟩ := zB_e hf
    refine zcWi (zEX_ok tt) (As := [.int (-p1), .int r39, .int r36]) (pc := 152) C0 hW (kX4_joined l D cA h tt H.size (-p1) r39 r36 S40 r42 S43 e44) (va_cwS 3 hts (zgS gaX mX_269 mX_270 mX_231 mX_271) rfl rfl rfl (by decide +kernel) ⟨Nat.le_of_ble_eq_true rfl, Nat.le_of_ble_eq_true rfl⟩) rfl hl.1 rfl (Nat.le_of_ble_eq_true rfl) dX4_work_152 (fun H locs hW => ?_)
    obtain ⟨S46, e47, hf⟩ := zU_e hf
    refine zcVv (zEX_ok tt) (As := [.int r42]) (pc := 155) C0 hW (kX4_push l D cA h tt H.size r42 S43 S46 e47) (cwV 1 hts (zgV gaX mX_263 mX_264 mX_265 mX_231 mX_266) rfl rfl rfl (by decide +kernel) ⟨Nat.le_of_ble_eq_true rfl, Nat.le_of_ble_eq_true rfl⟩) (va_recv hW.1 hW.2.1 (ci := 4) (q0 := 4) rfl rfl) rfl hl.1 rfl (Nat.le_of_ble_eq_true rfl) dX4_work_155 (fun H locs hW => ?_)
    exact zend_v (w := wX cA h) fin hf hW dX4_work_158
  · have hf := zf c7 hf
    refine lv_aload_n (pc := 4) hx hb dX4_work_4 rfl (lv_at hl 0 rfl) ?_
    refine lv_iload_n (pc := 5) hx hb dX4_work_5 rfl (lv_at hl 1 rfl) ?_
    obtain ⟨S49, e50, hf⟩ := zU_e hf
    refine zcVv (zEX_ok tt) (As := [.int p1]) (pc := 6) C0 hW (kX4_push l D cA h tt H.size p1 S S49 e50) (cwV 1 hts (zgV gaX mX_263 mX_264 mX_265 mX_231 mX_266) rfl rfl rfl (by decide +kernel) ⟨Nat.le_of_ble_eq_true rfl, Nat.le_of_ble_eq_true rfl⟩) (va_recv hW.1 hW.2.1 (ci := 4) (q0 := 4) rfl rfl) rfl hl.1 rfl (Nat.le_of_ble_eq_true rfl) dX4_work_6 (fun H locs hW => ?_)
    exact zend_v (w := wX cA h) fin hf hW dX4_work_9

def fX4_worth_b51 (N : Nat) (K10 : Int32 → Int32 → Int32 → Int32 → zSt → Option (Int32 × zSt)) (v1 : Int32) (v2 : Int32) (v4 : Int32) (u0 : Int32) (S : zSt) : Option (Int32 × zSt) :=
  K10 v1 v2 u0 (v4 + 1) S
def fX4_worth_b10 (N : Nat) : Nat → Int32 → Int32 → Int32 → Int32 → zSt → Option (Int32 × zSt)
  | 0, _, _, _, _, _ => none
  | n + 1, v1, v2, v3, v4, S =>
    if zin v1 4 then if (S.2.1 502 (Int32.toNatClampNeg v1)) ≤ v4 then (some (0, S)) else (if zin v1 4 then if zin v4 121 then zL ((S.2.1 (5010 + Int32.toNatClampNeg v1) (Int32.toNatClampNeg v4))) fun (x5 : Int32) => if x5 = (-63) then (zB (fX4_pop S) fun r15 S16 => if r15 = 0 then (fX4_worth_b51 N (fX4_worth_b10 N n) v1 v2 v4 0 S16) else (fX4_worth_b51 N (fX4_worth_b10 N n) v1 v2 v4 1 S16)) else (if x5 = (-59) then (zB (fX4_pop S) fun r11 S12 => if v3 = 0 then (fX4_worth_b10 N n v1 v2 1 (v4 + 1) S12) else (some (r11, S12))) else (zU (fX4_work x5 v2 S) fun S9 => fX4_worth_b10 N n v1 v2 v3 (v4 + 1) S9)) else none else none) else none
def fX4_worth (N : Nat) (p1 : Int32) (p2 : Int32) (S : zSt) : Option (Int32 × zSt) :=
  zL (zI S 504 0) fun S19 => fX4_worth_b10 N N p1 p2 1 0 S19
abbrev wX4_worth : List Cond := Cond.code yX4_worth cX4_worth 7 (some .int) :: waX
abbrev rmX4_worth : Room := { frames := 3, cells := 0, slots := 0, locals := 67 }
set_option maxHeartbeats 4000000 in
set_option maxRecDepth 100000 in
theorem kX4_worth (l : Launch) (D : va_G) (cA : Nat → ClassId) (h tt : Nat → Nat) (sz : Nat) (N : Nat)  (p1 : Int32) (p2 : Int32) (S : zSt) (r : Int32) (S1 : zSt) (hf : fX4_worth N p1 p2 S = some (r, S1)) : zMi l yX4_worth wX4_worth rmX4_worth (zEX tt) D (tX cA) (hsX h) [.ref (h 4), .int p1, .int p2] (wX cA h S) (wX cA h S1) sz r := by
  refine zEn_i (cc := cX4_worth) (maxL := 7) (own := RX4) (by decide) rfl rfl (hmX cA h S) (Nat.le_of_ble_eq_true rfl) ?_
  intro p e s m args below meth c Q H locs C0 hW fin ls hl
  have hl : lv_has ls 7 [(0, .ref (h 4)), (1, .int p1), (2, .int p2)] := hl
  have hx := C0.1
  have hb := C0.2.1
  have hown := C0.2.2.2.1
  have hts := C0.2.2.2.2
  have w51 : ∀ (K10 : Int32 → Int32 → Int32 → Int32 → zSt → Option (Int32 × zSt)) (hK10 : ∀ (v1 : Int32) (v2 : Int32) (v3 : Int32) (v4 : Int32) (S : zSt) (H : Heap) (locs : List Loc), zW (zEX tt) D (tX cA) (wX cA h S) (aW (hsX h) s.heap.size) s H locs → ∀ ls : Array Slot, lv_has ls 7 [(0, .ref (h 4)), (1, .int v1), (2, .int v2), (3, .int v3), (4, .int v4)] → K10 v1 v2 v3 v4 S = some (r, S1) → W p l e rmX4_worth s m args below meth c H locs 0 0 Q (F0 m 10 ls [])) , ∀ (v1 : Int32) (v2 : Int32) (v4 : Int32) (u0 : Int32) (S : zSt) (H : Heap) (locs : List Loc), zW (zEX tt) D (tX cA) (wX cA h S) (aW (hsX h) s.heap.size) s H locs → ∀ ls : Array Slot, lv_has ls 7 [(0, .ref (h 4)), (1, .int v1), (2, .int v2), (4, .int v4)] → fX4_worth_b51 N K10 v1 v2 v4 u0 S = some (r, S1) → W p l e rmX4_worth s m args below meth c H locs 0 0 Q (F0 m 51 ls [.int u0]) := by
    intro K10 hK10
    intro v1 v2 v4 u0 S H locs hW ls hl hf
    unfold fX4_worth_b51 at hf
    refine lv_istore_n (pc := 51) (lv' := [(3, .int u0), (0, .ref (h 4)), (1, .int v1), (2, .int v2), (4, .int v4)]) hx hb dX4_worth_51 rfl hl (by decide) rfl (fun ls hl => ?_)
    refine lv_goto (pc := 52) (tgt := 87) hx hb dX4_worth_52 (by decide) ?_
    refine lv_iinc (pc := 87) (v := (v4 + 1)) (lv' := [(4, .int (v4 + 1)), (3, .int u0), (0, .ref (h 4)), (1, .int v1), (2, .int v2)]) hx hb dX4_worth_87 hl (k := 4) rfl (by rfl) (by decide) rfl (fun ls hl => ?_)
    refine lv_goto (pc := 90) (tgt := 10) hx hb dX4_worth_90 (by decide) ?_
    exact hK10 v1 v2 u0 (v4 + 1) S H locs hW ls (lv_sub hl [2, 3, 4, 1, 0] rfl) hf
  have w10 : ∀ (n : Nat), ∀ (v1 : Int32) (v2 : Int32) (v3 : Int32) (v4 : Int32) (S : zSt) (H : Heap) (locs : List Loc), zW (zEX tt) D (tX cA) (wX cA h S) (aW (hsX h) s.heap.size) s H locs → ∀ ls : Array Slot, lv_has ls 7 [(0, .ref (h 4)), (1, .int v1), (2, .int v2), (3, .int v3), (4, .int v4)] → fX4_worth_b10 N n v1 v2 v3 v4 S = some (r, S1) → W p l e rmX4_worth s m args below meth c H locs 0 0 Q (F0 m 10 ls []) := by
    intro n
    induction n with
    | zero =>
      intro v1 v2 v3 v4 S H locs hW ls hl hf
      exact absurd hf (by intro h; cases h)
    | succ n ih =>
      intro v1 v2 v3 v4 S H locs hW ls hl hf
      rw [fX4_worth_b10] at hf
      refine lv_iload (pc := 10) hx hb dX4_worth_10 (lv_at hl 4 rfl) ?_
      refine lv_aload_n (pc := 12) hx hb dX4_worth_12 rfl (lv_at hl 0 rfl) ?_
      refine xg_502 (pc := 13) C0 hu_4 hW mX_250 dX4_worth_13 ?_
      refine lv_iload_n (pc := 16) hx hb dX4_worth_16 rfl (lv_at hl 1 rfl) ?_
      obtain ⟨i1, hf⟩ := zn hf
      refine xl_502 (pc := 17) C0 hW i1 dX4_worth_17 ?_
      refine lv_icmp_ge (pc := 18) (tgt := 93) hx hb dX4_worth_18 (by decide) (fun c2 => ?_) (fun c2 => ?_)
      · have hf := zt c2 hf
        refine lv_iconst (pc := 93) (v := 0) hx hb dX4_worth_93 (by decide) ?_
        exact zend_i (w := wX cA h) fin hf hW dX4_worth_94
      · have hf := zf c2 hf
        refine lv_aload_n (pc := 21) hx hb dX4_worth_21 rfl (lv_at hl 0 rfl) ?_
        refine xg_501 (pc := 22) C0 hu_4 hW mX_251 dX4_worth_22 ?_
        refine lv_iload_n (pc := 25) hx hb dX4_worth_25 rfl (lv_at hl 1 rfl) ?_
        obtain ⟨i3, hf⟩ := zn hf
        refine xq_501 (pc := 26) C0 hW i3 dX4_worth_26 ?_
        refine lv_iload (pc := 27) hx hb dX4_worth_27 (lv_at hl 4 rfl) ?_
        obtain ⟨i4, hf⟩ := zn hf
        refine xil_501 (pc := 29) C0 hW i3 i4 dX4_worth_29 ?_
        obtain ⟨x5, e_x5, hf⟩ := zL_e hf
        refine ztopi e_x5 ?_
        refine lv_istore (pc := 30) (lv' := [(5, .int x5), (0, .ref (h 4)), (1, .int v1), (2, .int v2), (3, .int v3), (4, .int v4)]) hx hb dX4_worth_30 hl (by decide) rfl (fun ls hl => ?_)
        refine lv_iload (pc := 32) hx hb dX4_worth_32 (lv_at hl 0 rfl) ?_
        refine lv_bipush (pc := 34) (v := (-63)) hx hb dX4_worth_34 (by decide) ?_
        refine lv_icmp_ne (pc := 36) (tgt := 55) hx hb dX4_worth_36 (by decide) (fun c6 => ?_) (fun c6 => ?_)
        · have hf := zf c6 hf
          refine lv_iload (pc := 55) hx hb dX4_worth_55 (lv_at hl 0 rfl) ?_
          refine lv_bipush (pc := 57) (v := (-59)) hx hb dX4_worth_57 (by decide) ?_
          refine lv_icmp_ne (pc := 59) (tgt := 80) hx hb dX4_worth_59 (by decide) (fun c7 => ?_) (fun c7 => ?_)
          · have hf := zf c7 hf
            refine lv_aload_n (pc := 80) hx hb dX4_worth_80 rfl (lv_at hl 1 rfl) ?_
            refine lv_iload (pc := 81) hx hb dX4_worth_81 (lv_at hl 0 rfl) ?_
            refine lv_iload_n (pc := 83) hx hb dX4_worth_83 rfl (lv_at hl 3 rfl) ?_
            obtain ⟨S9, e10, hf⟩ := zU_e hf
            refine zcVv (zEX_ok tt) (As := [.int x5, .int v2]) (pc := 84) C0 hW (kX4_work l D cA h tt H.size x5 v2 S S9 e10) (cwV 2 hts (zgV gaX mX_257 mX_258 mX_259 mX_231 mX_260) rfl rfl rfl (by decide +kernel) ⟨Nat.le_of_ble_eq_true rfl, Nat.le_of_ble_eq_true rfl⟩) (va_recv hW.1 hW.2.1 (ci := 4) (q0 := 4) rfl rfl) rfl hl.1 rfl (Nat.le_of_ble_eq_true rfl) dX4_worth_84 (fun H locs hW => ?_)
            refine lv_iinc (pc := 87) (v := (v4 + 1)) (lv' := [(4, .int (v4 + 1)), (5, .int x5), (0, .ref (h 4)), (1, .int v1), (2, .int v2), (3, .int v3)]) hx hb dX4_worth_87 hl (k := 5) rfl (by rfl) (by decide) rfl (fun ls hl => ?_)
            refine lv_goto (pc := 90) (tgt := 10) hx hb dX4_worth_90 (by decide) ?_
            exact ih v1 v2 v3 (v4 + 1) S9 H locs hW ls (lv_sub hl [2, 3, 4, 5, 0] rfl) hf
          · have hf := zt c7 hf
            refine lv_aload_n (pc := 62) hx hb dX4_worth_62 rfl (lv_at hl 1 rfl) ?_
            obtain ⟨r11, S12, e13, hf⟩ := zB_e hf
            refine zcVi (zEX_ok tt) (As := []) (pc := 63) C0 hW (kX4_pop l D cA h tt H.size S r11 S12 e13) (cwV 0 hts (zgV gaX mX_252 mX_253 mX_254 mX_231 mX_255) rfl rfl rfl (by decide +kernel) ⟨Nat.le_of_ble_eq_true rfl, Nat.le_of_ble_eq_true rfl⟩) (va_recv hW.1 hW.2.1 (ci := 4) (q0 := 4) rfl rfl) rfl hl.1 rfl (Nat.le_of_ble_eq_true rfl) dX4_worth_63 (fun H locs hW => ?_)
            refine lv_istore (pc := 66) (lv' := [(6, .int r11), (5, .int x5), (0, .ref (h 4)), (1, .int v1), (2, .int v2), (3, .int v3), (4, .int v4)]) hx hb dX4_worth_66 hl (by decide) rfl (fun ls hl => ?_)
            refine lv_iload_n (pc := 68) hx hb dX4_worth_68 rfl (lv_at hl 5 rfl) ?_
            refine lv_if_eq (pc := 69) (tgt := 75) hx hb dX4_worth_69 (by decide) (fun c14 => ?_) (fun c14 => ?_)
            · have hf := zt c14 hf
              refine lv_iconst (pc := 75) (v := 1) hx hb dX4_worth_75 (by decide) ?_
              refine lv_istore_n (pc := 76) (lv' := [(3, .int 1), (6, .int r11), (5, .int x5), (0, .ref (h 4)), (1, .int v1), (2, .int v2), (4, .int v4)]) hx hb dX4_worth_76 rfl hl (by decide) rfl (fun ls hl => ?_)
              refine lv_goto (pc := 77) (tgt := 87) hx hb dX4_worth_77 (by decide) ?_
              refine lv_iinc (pc := 87) (v := (v4 + 1)) (lv' := [(4, .int (v4 + 1)), (3, .int 1), (6, .int r11), (5, .int x5), (0, .ref (h 4)), (1, .int v1), (2, .int v2)]) hx hb dX4_worth_87 hl (k := 6) rfl (by rfl) (by decide) rfl (fun ls hl => ?_)
              refine lv_goto (pc := 90) (tgt := 10) hx hb dX4_worth_90 (by decide) ?_
              exact ih v1 v2 1 (v4 + 1) S12 H locs hW ls (lv_sub hl [4, 5, 6, 1, 0] rfl) hf
            · have hf := zf c14 hf
              refine lv_iload (pc := 72) hx hb dX4_worth_72 (lv_at hl 0 rfl) ?_
              exact zend_i (w := wX cA h) fin hf hW dX4_worth_74
        · have hf := zt c6 hf
          refine lv_aload_n (pc := 39) hx hb dX4_worth_39 rfl (lv_at hl 1 rfl) ?_
          obtain ⟨r15, S16, e17, hf⟩ := zB_e hf
          refine zcVi (zEX_ok tt) (As := []) (pc := 40) C0 hW (kX4_pop l D cA h tt H.size S r15 S16 e17) (cwV 0 hts (zgV gaX mX_252 mX_253 mX_254 mX_231 mX_255) rfl rfl rfl (by decide +kernel) ⟨Nat.le_of_ble_eq_true rfl, Nat.le_of_ble_eq_true rfl⟩) (va_recv hW.1 hW.2.1 (ci := 4) (q0 := 4) rfl rfl) rfl hl.1 rfl (Nat.le_of_ble_eq_true rfl) dX4_worth_40 (fun H locs hW => ?_)
          refine lv_if_eq (pc := 43) (tgt := 50) hx hb dX4_worth_43 (by decide) (fun c18 => ?_) (fun c18 => ?_)
          · have hf := zt c18 hf
            refine lv_iconst (pc := 50) (v := 0) hx hb dX4_worth_50 (by decide) ?_
            exact w51 (fX4_worth_b10 N n) ih v1 v2 v4 0 S16 H locs hW ls (lv_sub hl [1, 2, 3, 5] rfl) hf
          · have hf := zf c18 hf
            refine lv_iconst (pc := 46) (v := 1) hx hb dX4_worth_46 (by decide) ?_
            refine lv_goto (pc := 47) (tgt := 51) hx hb dX4_worth_47 (by decide) ?_
            exact w51 (fX4_worth_b10 N n) ih v1 v2 v4 1 S16 H locs hW ls (lv_sub hl [1, 2, 3, 5] rfl) hf
  unfold fX4_worth at hf
  refine lv_aload_n (pc := 0) hx hb dX4_worth_0 rfl (lv_at hl 0 rfl) ?_
  refine lv_iconst (pc := 1) (v := 0) hx hb dX4_worth_1 (by decide) ?_
  obtain ⟨S19, e_S19, hf⟩ := zL_e hf
  refine xp_504 (pc := 2) C0 hu_4 hW mX_249 e_S19 dX4_worth_2 (fun H locs hW => ?_)
  refine lv_iconst (pc := 5) (v := 1) hx hb dX4_worth_5 (by decide) ?_
  refine lv_istore_n (pc := 6) (lv' := [(3, .int 1), (0, .ref (h 4)), (1, .int p1), (2, .int p2)]) hx hb dX4_worth_6 rfl hl (by decide) rfl (fun ls hl => ?_)
  refine lv_iconst (pc := 7) (v := 0) hx hb dX4_worth_7 (by decide) ?_
  refine lv_istore (pc := 8) (lv' := [(4, .int 0), (3, .int 1), (0, .ref (h 4)), (1, .int p1), (2, .int p2)]) hx hb dX4_worth_8 hl (by decide) rfl (fun ls hl => ?_)
  exact w10 N p1 p2 1 0 S19 H locs hW ls (lv_sub hl [2, 3, 4, 1, 0] rfl) hf

def fX4_riseBy (N : Nat) (p1 : Int32) (p2 : Int32) (S : zSt) : Option (Int32 × zSt) :=
  zB (fX4_has p1 S) fun r1 S2 => if r1 = 0 then (some (0, S2)) else (zB (fX4_worth N p1 p2 S2) fun r5 S6 => some ((zmx (-20) (zmn 60 r5)), S6))
abbrev wX4_riseBy : List Cond := Cond.code yX4_riseBy cX4_riseBy 3 (some .int) :: waX
abbrev rmX4_riseBy : Room := { frames := 4, cells := 0, slots := 0, locals := 93 }
set_option maxHeartbeats 4000000 in
set_option maxRecDepth 100000 in
theorem kX4_riseBy (l : Launch) (D : va_G) (cA : Nat → ClassId) (h tt : Nat → Nat) (sz : Nat) (N : Nat)  (p1 : Int32) (p2 : Int32) (S : zSt) (r : Int32) (S1 : zSt) (hf : fX4_riseBy N p1 p2 S = some (r, S1)) : zMi l yX4_riseBy wX4_riseBy rmX4_riseBy (zEX tt) D (tX cA) (hsX h) [.ref (h 4), .int p1, .int p2] (wX cA h S) (wX cA h S1) sz r := by
  refine zEn_i (cc := cX4_riseBy) (maxL := 3) (own := RX4) (by decide) rfl rfl (hmX cA h S) (Nat.le_of_ble_eq_true rfl) ?_
  intro p e s m args below meth c Q H locs C0 hW fin ls hl
  have hl : lv_has ls 3 [(0, .ref (h 4)), (1, .int p1), (2, .int p2)] := hl
  have hx := C0.1
  have hb := C0.2.1
  have hown := C0.2.2.2.1
  have hts := C0.2.2.2.2
  unfold fX4_riseBy at hf
  refine lv_aload_n (pc := 0) hx hb dX4_riseBy_0 rfl (lv_at hl 0 rfl) ?_
  refine lv_iload_n (pc := 1) hx hb dX4_riseBy_1 rfl (lv_at hl 1 rfl) ?_
  obtain ⟨r1, S2, e3, hf⟩ := zB_e hf
  refine zcVi (zEX_ok tt) (As := [.int p1]) (pc := 2) C0 hW (kX4_has l D cA h tt H.size p1 S r1 S2 e3) (cwV 1 hts (zgV gaX mX_234 mX_235 mX_236 mX_231 mX_237) rfl rfl rfl (by decide +kernel) ⟨Nat.le_of_ble_eq_true rfl, Nat.le_of_ble_eq_true rfl⟩) (va_recv hW.1 hW.2.1 (ci := 4) (q0 := 4) rfl rfl) rfl hl.1 rfl (Nat.le_of_ble_eq_true rfl) dX4_riseBy_2 (fun H locs hW => ?_)
  refine lv_if_eq (pc := 5) (tgt := 27) hx hb dX4_riseBy_5 (by decide) (fun c4 => ?_) (fun c4 => ?_)
  · have hf := zt c4 hf
    refine lv_iconst (pc := 27) (v := 0) hx hb dX4_riseBy_27 (by decide) ?_
    exact zend_i (w := wX cA h) fin hf hW dX4_riseBy_28
  · have hf := zf c4 hf
    refine lv_bipush (pc := 8) (v := (-20)) hx hb dX4_riseBy_8 (by decide) ?_
    refine lv_bipush (pc := 10) (v := 60) hx hb dX4_riseBy_10 (by decide) ?_
    refine lv_aload_n (pc := 12) hx hb dX4_riseBy_12 rfl (lv_at hl 0 rfl) ?_
    refine lv_iload_n (pc := 13) hx hb dX4_riseBy_13 rfl (lv_at hl 1 rfl) ?_
    refine lv_iload_n (pc := 14) hx hb dX4_riseBy_14 rfl (lv_at hl 2 rfl) ?_
    obtain ⟨r5, S6, e7, hf⟩ := zB_e hf
    refine zcVi (zEX_ok tt) (As := [.int p1, .int p2]) (pc := 15) C0 hW (kX4_worth l D cA h tt H.size N p1 p2 S2 r5 S6 e7) (cwV 2 hts (zgV gaX mX_245 mX_246 mX_247 mX_231 mX_248) rfl rfl rfl (by decide +kernel) ⟨Nat.le_of_ble_eq_true rfl, Nat.le_of_ble_eq_true rfl⟩) (va_recv hW.1 hW.2.1 (ci := 4) (q0 := 4) rfl rfl) rfl hl.1 rfl (Nat.le_of_ble_eq_true rfl) dX4_riseBy_15 (fun H locs hW => ?_)
    refine va_mmin (pc := 18) hx hb (C0.2.2.1.trans hl.1.symm) hown (hts _ mX_243) (hts _ mX_27) (hts _ mX_28) (hts _ mX_29) (Nat.le_of_ble_eq_true rfl) (Nat.le_of_ble_eq_true rfl) (Nat.zero_le _) (Nat.zero_le _) dX4_riseBy_18 ?_
    refine va_mmax (pc := 21) hx hb (C0.2.2.1.trans hl.1.symm) hown (hts _ mX_244) (hts _ mX_127) (hts _ mX_28) (hts _ mX_128) (Nat.le_of_ble_eq_true rfl) (Nat.le_of_ble_eq_true rfl) (Nat.zero_le _) (Nat.zero_le _) dX4_riseBy_21 ?_
    refine lv_goto (pc := 24) (tgt := 28) hx hb dX4_riseBy_24 (by decide) ?_
    exact zend_i (w := wX cA h) fin hf hW dX4_riseBy_28

def fX4_riseInForce (N : Nat) (p1 : Int32) (S : zSt) : Option (Int32 × zSt) :=
  zB (fX4_has (S.1 508) S) fun r1 S2 => if r1 = 0 then (some (0, S2)) else (zB (fX4_riseBy N (S2.1 508) p1 S2) fun r5 S6 => some (r5, S6))
abbrev wX4_riseInForce : List Cond := Cond.code yX4_riseInForce cX4_riseInForce 2 (some .int) :: waX
abbrev rmX4_riseInForce : Room := { frames := 5, cells := 0, slots := 0, locals := 115 }
set_option maxHeartbeats 4000000 in
set_option maxRecDepth 100000 in
theorem kX4_riseInForce (l : Launch) (D : va_G) (cA : Nat → ClassId) (h tt : Nat → Nat) (sz : Nat) (N : Nat)  (p1 : Int32) (S : zSt) (r : Int32) (S1 : zSt) (hf : fX4_riseInForce N p1 S = some (r, S1)) : zMi l yX4_riseInForce wX4_riseInForce rmX4_riseInForce (zEX tt) D (tX cA) (hsX h) [.ref (h 4), .int p1] (wX cA h S) (wX cA h S1) sz r := by
  refine zEn_i (cc := cX4_riseInForce) (maxL := 2) (own := RX4) (by decide) rfl rfl (hmX cA h S) (Nat.le_of_ble_eq_true rfl) ?_
  intro p e s m args below meth c Q H locs C0 hW fin ls hl
  have hl : lv_has ls 2 [(0, .ref (h 4)), (1, .int p1)] := hl
  have hx := C0.1
  have hb := C0.2.1
  have hown := C0.2.2.2.1
  have hts := C0.2.2.2.2
  unfold fX4_riseInForce at hf
  refine lv_aload_n (pc := 0) hx hb dX4_riseInForce_0 rfl (lv_at hl 0 rfl) ?_
  refine lv_aload_n (pc := 1) hx hb dX4_riseInForce_1 rfl (lv_at hl 0 rfl) ?_
  refine xg_508 (pc := 2) C0 hu_4 hW mX_233 dX4_riseInForce_2 ?_
  obtain ⟨r1, S2, e3, hf⟩ := zB_e hf
  refine zcVi (zEX_ok tt) (As := [.int (S.1 508)]) (pc := 5) C0 hW (kX4_has l D cA h tt H.size (S.1 508) S r1 S2 e3) (cwV 1 hts (zgV gaX mX_234 mX_235 mX_236 mX_231 mX_237) rfl rfl rfl (by decide +kernel) ⟨Nat.le_of_ble_eq_true rfl, Nat.le_of_ble_eq_true rfl⟩) (va_recv hW.1 hW.2.1 (ci := 4) (q0 := 4) rfl rfl) rfl hl.1 rfl (Nat.le_of_ble_eq_true rfl) dX4_riseInForce_5 (fun H locs hW => ?_)
  refine lv_if_eq (pc := 8) (tgt := 23) hx hb dX4_riseInForce_8 (by decide) (fun c4 => ?_) (fun c4 => ?_)
  · have hf := zt c4 hf
    refine lv_iconst (pc := 23) (v := 0) hx hb dX4_riseInForce_23 (by decide) ?_
    exact zend_i (w := wX cA h) fin hf hW dX4_riseInForce_24
  · have hf := zf c4 hf
    refine lv_aload_n (pc := 11) hx hb dX4_riseInForce_11 rfl (lv_at hl 0 rfl) ?_
    refine lv_aload_n (pc := 12) hx hb dX4_riseInForce_12 rfl (lv_at hl 0 rfl) ?_
    refine xg_508 (pc := 13) C0 hu_4 hW mX_233 dX4_riseInForce_13 ?_
    refine lv_iload_n (pc := 16) hx hb dX4_riseInForce_16 rfl (lv_at hl 1 rfl) ?_
    obtain ⟨r5, S6, e7, hf⟩ := zB_e hf
    refine zcVi (zEX_ok tt) (As := [.int (S2.1 508), .int p1]) (pc := 17) C0 hW (kX4_riseBy l D cA h tt H.size N (S2.1 508) p1 S2 r5 S6 e7) (cwV 2 hts (zgV gaX mX_239 mX_240 mX_241 mX_231 mX_242) rfl rfl rfl (by decide +kernel) ⟨Nat.le_of_ble_eq_true rfl, Nat.le_of_ble_eq_true rfl⟩) (va_recv hW.1 hW.2.1 (ci := 4) (q0 := 4) rfl rfl) rfl hl.1 rfl (Nat.le_of_ble_eq_true rfl) dX4_riseInForce_17 (fun H locs hW => ?_)
    refine lv_goto (pc := 20) (tgt := 24) hx hb dX4_riseInForce_20 (by decide) ?_
    exact zend_i (w := wX cA h) fin hf hW dX4_riseInForce_24

def fX2_seekBest_b14 (N : Nat) : Nat → Int32 → Int32 → zSt → Option (Int32 × zSt)
  | 0, _, _, _ => none
  | n + 1, v2, v3, S =>
    if v2 < v3 then (if (S.1 303) = (-2) then (some (0, S)) else (some (1, S))) else (zU (fX11_isDark v3) fun r3 => if r3 = 0 then (zB (fX4_riseInForce N v3 S) fun r7 S8 => zU (fX2_seekBestAt N v3 r7 S8) fun S11 => fX2_seekBest_b14 N n v2 (v3 + 1) S11) else (fX2_seekBest_b14 N n v2 (v3 + 1) S))
def fX2_seekBest (N : Nat) (p1 : Int32) (p2 : Int32) (S : zSt) : Option (Int32 × zSt) :=
  zL (zI S 303 (-2)) fun S13 => zL (zI S13 304 (-2000000000)) fun S14 => fX2_seekBest_b14 N N p2 p1 S14
abbrev wX2_seekBest : List Cond := Cond.code yX2_seekBest cX2_seekBest 4 (some .boolean) :: waX
abbrev rmX2_seekBest : Room := { frames := 6, cells := 0, slots := 0, locals := 151 }
set_option maxHeartbeats 4000000 in
set_option maxRecDepth 100000 in
theorem kX2_seekBest (l : Launch) (D : va_G) (cA : Nat → ClassId) (h tt : Nat → Nat) (sz : Nat) (N : Nat)  (p1 : Int32) (p2 : Int32) (S : zSt) (r : Int32) (S1 : zSt) (hf : fX2_seekBest N p1 p2 S = some (r, S1)) : zMi l yX2_seekBest wX2_seekBest rmX2_seekBest (zEX tt) D (tX cA) (hsX h) [.ref (h 2), .int p1, .int p2] (wX cA h S) (wX cA h S1) sz r := by
  refine zEn_z (cc := cX2_seekBest) (maxL := 4) (own := RX2) (by decide) rfl rfl (hmX cA h S) (Nat.le_of_ble_eq_true rfl) ?_
  intro p e s m args below meth c Q H locs C0 hW fin ls hl
  have hl : lv_has ls 4 [(0, .ref (h 2)), (1, .int p1), (2, .int p2)] := hl
  have hx := C0.1
  have hb := C0.2.1
  have hown := C0.2.2.2.1
  have hts := C0.2.2.2.2
  have w14 : ∀ (n : Nat), ∀ (v2 : Int32) (v3 : Int32) (S : zSt) (H : Heap) (locs : List Loc), zW (zEX tt) D (tX cA) (wX cA h S) (aW (hsX h) s.heap.size) s H locs → ∀ ls : Array Slot, lv_has ls 4 [(0, .ref (h 2)), (2, .int v2), (3, .int v3)] → fX2_seekBest_b14 N n v2 v3 S = some (r, S1) → W p l e rmX2_seekBest s m args below meth c H locs 0 0 Q (F0 m 14 ls []) := by
    intro n
    induction n with
    | zero =>
      intro v2 v3 S H locs hW ls hl hf
      exact absurd hf (by intro h; cases h)
    | succ n ih =>
      intro v2 v3 S H locs hW ls hl hf
      rw [fX2_seekBest_b14] at hf
      refine lv_iload_n (pc := 14) hx hb dX2_seekBest_14 rfl (lv_at hl 2 rfl) ?_
      refine lv_iload_n (pc := 15) hx hb dX2_seekBest_15 rfl (lv_at hl 1 rfl) ?_
      refine lv_icmp_gt (pc := 16) (tgt := 45) hx hb dX2_seekBest_16 (by decide) (fun c1 => ?_) (fun c1 => ?_)
      · have hf := zt c1 hf
        refine lv_aload_n (pc := 45) hx hb dX2_seekBest_45 rfl (lv_at hl 0 rfl) ?_
        refine xg_303 (pc := 46) C0 hu_2 hW mX_192 dX2_seekBest_46 ?_
        refine lv_bipush (pc := 49) (v := (-2)) hx hb dX2_seekBest_49 (by decide) ?_
        refine lv_icmp_eq (pc := 51) (tgt := 58) hx hb dX2_seekBest_51 (by decide) (fun c2 => ?_) (fun c2 => ?_)
        · have hf := zt c2 hf
          refine lv_iconst (pc := 58) (v := 0) hx hb dX2_seekBest_58 (by decide) ?_
          exact zend_z (w := wX cA h) fin hf (by decide) hW dX2_seekBest_59
        · have hf := zf c2 hf
          refine lv_iconst (pc := 54) (v := 1) hx hb dX2_seekBest_54 (by decide) ?_
          refine lv_goto (pc := 55) (tgt := 59) hx hb dX2_seekBest_55 (by decide) ?_
          exact zend_z (w := wX cA h) fin hf (by decide) hW dX2_seekBest_59
      · have hf := zf c1 hf
        refine lv_iload_n (pc := 19) hx hb dX2_seekBest_19 rfl (lv_at hl 2 rfl) ?_
        obtain ⟨r3, e5, hf⟩ := zU_e hf
        refine zcNi (As := [.int v3]) (pc := 20) C0 hW (kX11_isDark l H.size v3 r3 e5) ⟨va_cnB 1 hts (zgN gaX mX_224) rfl rfl rfl hW.2.2.2.2.2.2.2.2.2.2.2.1 (hts _ mX_151) (by decide +kernel) ⟨Nat.le_of_ble_eq_true rfl, Nat.le_of_ble_eq_true rfl⟩, hts _ mX_223, trivial⟩ rfl hl.1 rfl (Nat.le_of_ble_eq_true rfl) dX2_seekBest_20 (fun H locs hW => ?_)
        refine lv_if_ne (pc := 23) (tgt := 39) hx hb dX2_seekBest_23 (by decide) (fun c6 => ?_) (fun c6 => ?_)
        · have hf := zf c6 hf
          refine lv_iinc (pc := 39) (v := (v3 + 1)) (lv' := [(3, .int (v3 + 1)), (0, .ref (h 2)), (2, .int v2)]) hx hb dX2_seekBest_39 hl (k := 2) rfl (by rfl) (by decide) rfl (fun ls hl => ?_)
          refine lv_goto (pc := 42) (tgt := 14) hx hb dX2_seekBest_42 (by decide) ?_
          exact ih v2 (v3 + 1) S H locs hW ls (lv_sub hl [1, 2, 0] rfl) hf
        · have hf := zt c6 hf
          refine lv_aload_n (pc := 26) hx hb dX2_seekBest_26 rfl (lv_at hl 0 rfl) ?_
          refine lv_iload_n (pc := 27) hx hb dX2_seekBest_27 rfl (lv_at hl 2 rfl) ?_
          refine lv_aload_n (pc := 28) hx hb dX2_seekBest_28 rfl (lv_at hl 0 rfl) ?_
          refine xg_301 (pc := 29) C0 hu_2 hW mX_107 dX2_seekBest_29 ?_
          refine lv_iload_n (pc := 32) hx hb dX2_seekBest_32 rfl (lv_at hl 2 rfl) ?_
          obtain ⟨r7, S8, e9, hf⟩ := zB_e hf
          refine zcVi (zEX_ok tt) (As := [.int v3]) (pc := 33) C0 hW (kX4_riseInForce l D cA h tt H.size N v3 S r7 S8 e9) (cwV 1 hts (zgV gaX mX_228 mX_229 mX_230 mX_231 mX_232) rfl rfl rfl (by decide +kernel) ⟨Nat.le_of_ble_eq_true rfl, Nat.le_of_ble_eq_true rfl⟩) (va_recv hW.1 hW.2.1 (ci := 4) (q0 := 4) rfl rfl) rfl hl.1 rfl (Nat.le_of_ble_eq_true rfl) dX2_seekBest_33 (fun H locs hW => ?_)
          obtain ⟨S11, e12, hf⟩ := zU_e hf
          refine zcVv (zEX_ok tt) (As := [.int v3, .int r7]) (pc := 36) C0 hW (kX2_seekBestAt l D cA h tt H.size N v3 r7 S8 S11 e12) (cwV 2 hts (zgV gaX mX_274 mX_275 mX_276 mX_167 mX_277) rfl rfl rfl (by decide +kernel) ⟨Nat.le_of_ble_eq_true rfl, Nat.le_of_ble_eq_true rfl⟩) (va_recv hW.1 hW.2.1 (ci := 2) (q0 := 2) rfl rfl) rfl hl.1 rfl (Nat.le_of_ble_eq_true rfl) dX2_seekBest_36 (fun H locs hW => ?_)
          refine lv_iinc (pc := 39) (v := (v3 + 1)) (lv' := [(3, .int (v3 + 1)), (0, .ref (h 2)), (2, .int v2)]) hx hb dX2_seekBest_39 hl (k := 2) rfl (by rfl) (by decide) rfl (fun ls hl => ?_)
          refine lv_goto (pc := 42) (tgt := 14) hx hb dX2_seekBest_42 (by decide) ?_
          exact ih v2 (v3 + 1) S11 H locs hW ls (lv_sub hl [1, 2, 0] rfl) hf
  unfold fX2_seekBest at hf
  refine lv_aload_n (pc := 0) hx hb dX2_seekBest_0 rfl (lv_at hl 0 rfl) ?_
  refine lv_bipush (pc := 1) (v := (-2)) hx hb dX2_seekBest_1 (by decide) ?_
  obtain ⟨S13, e_S13, hf⟩ := zL_e hf
  refine xp_303 (pc := 3) C0 hu_2 hW mX_192 e_S13 dX2_seekBest_3 (fun H locs hW => ?_)
  refine lv_aload_n (pc := 6) hx hb dX2_seekBest_6 rfl (lv_at hl 0 rfl) ?_
  refine lv_ldc (pc := 7) (v := (-2000000000)) hx hb hown (hts _ mX_193) dX2_seekBest_7 ?_
  obtain ⟨S14, e_S14, hf⟩ := zL_e hf
  refine xp_304 (pc := 9) C0 hu_2 hW mX_194 e_S14 dX2_seekBest_9 (fun H locs hW => ?_)
  refine lv_iload_n (pc := 12) hx hb dX2_seekBest_12 rfl (lv_at hl 1 rfl) ?_
  refine lv_istore_n (pc := 13) (lv' := [(3, .int p1), (0, .ref (h 2)), (1, .int p1), (2, .int p2)]) hx hb dX2_seekBest_13 rfl hl (by decide) rfl (fun ls hl => ?_)
  exact w14 N p2 p1 S14 H locs hW ls (lv_sub hl [1, 3, 0] rfl) hf

def fX2_highestRise_b3 (N : Nat) : Nat → Int32 → Int32 → Int32 → zSt → Option (Int32 × zSt)
  | 0, _, _, _, _ => none
  | n + 1, v1, v2, v3, S =>
    if v3 < (-20) then (some ((-100), S)) else (if v3 ≤ v2 then (some ((-100), S)) else (zB (fX2_firstFall N v1 v3 S) fun r3 S4 => if r3 = (-2) then (some (v3, S4)) else (fX2_highestRise_b3 N n v1 v2 (v3 + (-1)) S4)))
def fX2_highestRise (N : Nat) (p1 : Int32) (p2 : Int32) (S : zSt) : Option (Int32 × zSt) :=
  fX2_highestRise_b3 N N p1 p2 60 S
abbrev wX2_highestRise : List Cond := Cond.code yX2_highestRise cX2_highestRise 4 (some .int) :: waX
abbrev rmX2_highestRise : Room := { frames := 5, cells := 0, slots := 0, locals := 126 }
set_option maxHeartbeats 4000000 in
set_option maxRecDepth 100000 in
theorem kX2_highestRise (l : Launch) (D : va_G) (cA : Nat → ClassId) (h tt : Nat → Nat) (sz : Nat) (N : Nat)  (p1 : Int32) (p2 : Int32) (S : zSt) (r : Int32) (S1 : zSt) (hf : fX2_highestRise N p1 p2 S = some (r, S1)) : zMi l yX2_highestRise wX2_highestRise rmX2_highestRise (zEX tt) D (tX cA) (hsX h) [.ref (h 2), .int p1, .int p2] (wX cA h S) (wX cA h S1) sz r := by
  refine zEn_i (cc := cX2_highestRise) (maxL := 4) (own := RX2) (by decide) rfl rfl (hmX cA h S) (Nat.le_of_ble_eq_true rfl) ?_
  intro p e s m args below meth c Q H locs C0 hW fin ls hl
  have hl : lv_has ls 4 [(0, .ref (h 2)), (1, .int p1), (2, .int p2)] := hl
  have hx := C0.1
  have hb := C0.2.1
  have hown := C0.2.2.2.1
  have hts := C0.2.2.2.2
  have w3 : ∀ (n : Nat), ∀ (v1 : Int32) (v2 : Int32) (v3 : Int32) (S : zSt) (H : Heap) (locs : List Loc), zW (zEX tt) D (tX cA) (wX cA h S) (aW (hsX h) s.heap.size) s H locs → ∀ ls : Array Slot, lv_has ls 4 [(0, .ref (h 2)), (1, .int v1), (2, .int v2), (3, .int v3)] → fX2_highestRise_b3 N n v1 v2 v3 S = some (r, S1) → W p l e rmX2_highestRise s m args below meth c H locs 0 0 Q (F0 m 3 ls []) := by
    intro n
    induction n with
    | zero =>
      intro v1 v2 v3 S H locs hW ls hl hf
      exact absurd hf (by intro h; cases h)
    | succ n ih =>
      intro v1 v2 v3 S H locs hW ls hl hf
      rw [fX2_highestRise_b3] at hf
      refine lv_iload_n (pc := 3) hx hb dX2_highestRise_3 rfl (lv_at hl 3 rfl) ?_
      refine lv_bipush (pc := 4) (v := (-20)) hx hb dX2_highestRise_4 (by decide) ?_
      refine lv_icmp_lt (pc := 6) (tgt := 33) hx hb dX2_highestRise_6 (by decide) (fun c1 => ?_) (fun c1 => ?_)
      · have hf := zt c1 hf
        refine lv_bipush (pc := 33) (v := (-100)) hx hb dX2_highestRise_33 (by decide) ?_
        exact zend_i (w := wX cA h) fin hf hW dX2_highestRise_35
      · have hf := zf c1 hf
        refine lv_iload_n (pc := 9) hx hb dX2_highestRise_9 rfl (lv_at hl 3 rfl) ?_
        refine lv_iload_n (pc := 10) hx hb dX2_highestRise_10 rfl (lv_at hl 2 rfl) ?_
        refine lv_icmp_le (pc := 11) (tgt := 33) hx hb dX2_highestRise_11 (by decide) (fun c2 => ?_) (fun c2 => ?_)
        · have hf := zt c2 hf
          refine lv_bipush (pc := 33) (v := (-100)) hx hb dX2_highestRise_33 (by decide) ?_
          exact zend_i (w := wX cA h) fin hf hW dX2_highestRise_35
        · have hf := zf c2 hf
          refine lv_aload_n (pc := 14) hx hb dX2_highestRise_14 rfl (lv_at hl 0 rfl) ?_
          refine lv_iload_n (pc := 15) hx hb dX2_highestRise_15 rfl (lv_at hl 1 rfl) ?_
          refine lv_iload_n (pc := 16) hx hb dX2_highestRise_16 rfl (lv_at hl 3 rfl) ?_
          obtain ⟨r3, S4, e5, hf⟩ := zB_e hf
          refine zcVi (zEX_ok tt) (As := [.int v1, .int v3]) (pc := 17) C0 hW (kX2_firstFall l D cA h tt H.size N v1 v3 S r3 S4 e5) (cwV 2 hts (zgV gaX mX_285 mX_286 mX_287 mX_167 mX_190) rfl rfl rfl (by decide +kernel) ⟨Nat.le_of_ble_eq_true rfl, Nat.le_of_ble_eq_true rfl⟩) (va_recv hW.1 hW.2.1 (ci := 2) (q0 := 2) rfl rfl) rfl hl.1 rfl (Nat.le_of_ble_eq_true rfl) dX2_highestRise_17 (fun H locs hW => ?_)
          refine lv_bipush (pc := 20) (v := (-2)) hx hb dX2_highestRise_20 (by decide) ?_
          refine lv_icmp_ne (pc := 22) (tgt := 27) hx hb dX2_highestRise_22 (by decide) (fun c6 => ?_) (fun c6 => ?_)
          · have hf := zf c6 hf
            refine lv_iinc (pc := 27) (v := (v3 + (-1))) (lv' := [(3, .int (v3 + (-1))), (0, .ref (h 2)), (1, .int v1), (2, .int v2)]) hx hb dX2_highestRise_27 hl (k := 3) rfl (by rfl) (by decide) rfl (fun ls hl => ?_)
            refine lv_goto (pc := 30) (tgt := 3) hx hb dX2_highestRise_30 (by decide) ?_
            exact ih v1 v2 (v3 + (-1)) S4 H locs hW ls (lv_sub hl [1, 2, 3, 0] rfl) hf
          · have hf := zt c6 hf
            refine lv_iload_n (pc := 25) hx hb dX2_highestRise_25 rfl (lv_at hl 3 rfl) ?_
            exact zend_i (w := wX cA h) fin hf hW dX2_highestRise_26
  unfold fX2_highestRise at hf
  refine lv_bipush (pc := 0) (v := 60) hx hb dX2_highestRise_0 (by decide) ?_
  refine lv_istore_n (pc := 2) (lv' := [(3, .int 60), (0, .ref (h 2)), (1, .int p1), (2, .int p2)]) hx hb dX2_highestRise_2 rfl hl (by decide) rfl (fun ls hl => ?_)
  exact w3 N p1 p2 60 S H locs hW ls (lv_sub hl [1, 2, 3, 0] rfl) hf

def fX2_seekWall_b27 (N : Nat) (K14 : Int32 → zSt → Option zSt) : Nat → Int32 → Int32 → zSt → Option zSt
  | 0, _, _, _ => none
  | n + 1, v1, v2, S =>
    if 4 ≤ v2 then (K14 (v1 + 1) S) else (zL (zI S 706 v2) fun S2 => zB (fX2_highestRise N v1 (S2.1 304) S2) fun r3 S4 => zU (fX2_prefer ((10 * v1) + v2) r3 S4) fun S7 => fX2_seekWall_b27 N K14 n v1 (v2 + 1) S7)
def fX2_seekWall_b14 (N : Nat) : Nat → Int32 → zSt → Option zSt
  | 0, _, _ => none
  | n + 1, v1, S =>
    if (S.1 904) ≤ v1 then (some S) else (fX2_seekWall_b27 N (fX2_seekWall_b14 N n) N v1 0 S)
def fX2_seekWall (N : Nat) (S : zSt) : Option zSt :=
  zL (zI S 303 (-2)) fun S10 => zL (zI S10 304 (-100)) fun S11 => fX2_seekWall_b14 N N 0 S11
abbrev wX2_seekWall : List Cond := Cond.code yX2_seekWall cX2_seekWall 3 none :: waX
abbrev rmX2_seekWall : Room := { frames := 6, cells := 0, slots := 0, locals := 149 }
set_option maxHeartbeats 4000000 in
set_option maxRecDepth 100000 in
theorem kX2_seekWall (l : Launch) (D : va_G) (cA : Nat → ClassId) (h tt : Nat → Nat) (sz : Nat) (N : Nat)   (S : zSt) (S1 : zSt) (hf : fX2_seekWall N S = some S1) : zMv l yX2_seekWall wX2_seekWall rmX2_seekWall (zEX tt) D (tX cA) (hsX h) [.ref (h 2)] (wX cA h S) (wX cA h S1) sz := by
  refine zEn_v (cc := cX2_seekWall) (maxL := 3) (own := RX2) (by decide) rfl rfl (hmX cA h S) (Nat.le_of_ble_eq_true rfl) ?_
  intro p e s m args below meth c Q H locs C0 hW fin ls hl
  have hl : lv_has ls 3 [(0, .ref (h 2))] := hl
  have hx := C0.1
  have hb := C0.2.1
  have hown := C0.2.2.2.1
  have hts := C0.2.2.2.2
  have w27 : ∀ (K14 : Int32 → zSt → Option zSt) (hK14 : ∀ (v1 : Int32) (S : zSt) (H : Heap) (locs : List Loc), zW (zEX tt) D (tX cA) (wX cA h S) (aW (hsX h) s.heap.size) s H locs → ∀ ls : Array Slot, lv_has ls 3 [(0, .ref (h 2)), (1, .int v1)] → K14 v1 S = some S1 → W p l e rmX2_seekWall s m args below meth c H locs 0 0 Q (F0 m 14 ls [])) (n : Nat), ∀ (v1 : Int32) (v2 : Int32) (S : zSt) (H : Heap) (locs : List Loc), zW (zEX tt) D (tX cA) (wX cA h S) (aW (hsX h) s.heap.size) s H locs → ∀ ls : Array Slot, lv_has ls 3 [(0, .ref (h 2)), (1, .int v1), (2, .int v2)] → fX2_seekWall_b27 N K14 n v1 v2 S = some S1 → W p l e rmX2_seekWall s m args below meth c H locs 0 0 Q (F0 m 27 ls []) := by
    intro K14 hK14 n
    induction n with
    | zero =>
      intro v1 v2 S H locs hW ls hl hf
      exact absurd hf (by intro h; cases h)
    | succ n ih =>
      intro v1 v2 S H locs hW ls hl hf
      rw [fX2_seekWall_b27] at hf
      refine lv_iload_n (pc := 27) hx hb dX2_seekWall_27 rfl (lv_at hl 2 rfl) ?_
      refine lv_iconst (pc := 28) (v := 4) hx hb dX2_seekWall_28 (by decide) ?_
      refine lv_icmp_ge (pc := 29) (tgt := 65) hx hb dX2_seekWall_29 (by decide) (fun c1 => ?_) (fun c1 => ?_)
      · have hf := zt c1 hf
        refine lv_iinc (pc := 65) (v := (v1 + 1)) (lv' := [(1, .int (v1 + 1)), (0, .ref (h 2)), (2, .int v2)]) hx hb dX2_seekWall_65 hl (k := 1) rfl (by rfl) (by decide) rfl (fun ls hl => ?_)
        refine lv_goto (pc := 68) (tgt := 14) hx hb dX2_seekWall_68 (by decide) ?_
        exact hK14 (v1 + 1) S H locs hW ls (lv_sub hl [1, 0] rfl) hf
      · have hf := zf c1 hf
        refine lv_aload_n (pc := 32) hx hb dX2_seekWall_32 rfl (lv_at hl 0 rfl) ?_
        refine xg_302 (pc := 33) C0 hu_2 hW mX_108 dX2_seekWall_33 ?_
        refine lv_iload_n (pc := 36) hx hb dX2_seekWall_36 rfl (lv_at hl 2 rfl) ?_
        obtain ⟨S2, e_S2, hf⟩ := zL_e hf
        refine xp_706 (pc := 37) C0 hu_6 hW mX_279 e_S2 dX2_seekWall_37 (fun H locs hW => ?_)
        refine lv_aload_n (pc := 40) hx hb dX2_seekWall_40 rfl (lv_at hl 0 rfl) ?_
        refine lv_bipush (pc := 41) (v := 10) hx hb dX2_seekWall_41 (by decide) ?_
        refine lv_iload_n (pc := 43) hx hb dX2_seekWall_43 rfl (lv_at hl 1 rfl) ?_
        refine lv_imul (pc := 44) hx hb dX2_seekWall_44 ?_
        refine lv_iload_n (pc := 45) hx hb dX2_seekWall_45 rfl (lv_at hl 2 rfl) ?_
        refine lv_iadd (pc := 46) hx hb dX2_seekWall_46 ?_
        refine lv_aload_n (pc := 47) hx hb dX2_seekWall_47 rfl (lv_at hl 0 rfl) ?_
        refine lv_iload_n (pc := 48) hx hb dX2_seekWall_48 rfl (lv_at hl 1 rfl) ?_
        refine lv_aload_n (pc := 49) hx hb dX2_seekWall_49 rfl (lv_at hl 0 rfl) ?_
        refine xg_304 (pc := 50) C0 hu_2 hW mX_194 dX2_seekWall_50 ?_
        obtain ⟨r3, S4, e5, hf⟩ := zB_e hf
        refine zcVi (zEX_ok tt) (As := [.int v1, .int (S2.1 304)]) (pc := 53) C0 hW (kX2_highestRise l D cA h tt H.size N v1 (S2.1 304) S2 r3 S4 e5) (cwV 2 hts (zgV gaX mX_281 mX_282 mX_283 mX_167 mX_284) rfl rfl rfl (by decide +kernel) ⟨Nat.le_of_ble_eq_true rfl, Nat.le_of_ble_eq_true rfl⟩) (va_recv hW.1 hW.2.1 (ci := 2) (q0 := 2) rfl rfl) rfl hl.1 rfl (Nat.le_of_ble_eq_true rfl) dX2_seekWall_53 (fun H locs hW => ?_)
        obtain ⟨S7, e8, hf⟩ := zU_e hf
        refine zcVv (zEX_ok tt) (As := [.int ((10 * v1) + v2), .int r3]) (pc := 56) C0 hW (kX2_prefer l D cA h tt H.size ((10 * v1) + v2) r3 S4 S7 e8) (cwV 2 hts (zgV gaX mX_210 mX_211 mX_212 mX_167 mX_213) rfl rfl rfl (by decide +kernel) ⟨Nat.le_of_ble_eq_true rfl, Nat.le_of_ble_eq_true rfl⟩) (va_recv hW.1 hW.2.1 (ci := 2) (q0 := 2) rfl rfl) rfl hl.1 rfl (Nat.le_of_ble_eq_true rfl) dX2_seekWall_56 (fun H locs hW => ?_)
        refine lv_iinc (pc := 59) (v := (v2 + 1)) (lv' := [(2, .int (v2 + 1)), (0, .ref (h 2)), (1, .int v1)]) hx hb dX2_seekWall_59 hl (k := 2) rfl (by rfl) (by decide) rfl (fun ls hl => ?_)
        refine lv_goto (pc := 62) (tgt := 27) hx hb dX2_seekWall_62 (by decide) ?_
        exact ih v1 (v2 + 1) S7 H locs hW ls (lv_sub hl [1, 2, 0] rfl) hf
  have w14 : ∀ (n : Nat), ∀ (v1 : Int32) (S : zSt) (H : Heap) (locs : List Loc), zW (zEX tt) D (tX cA) (wX cA h S) (aW (hsX h) s.heap.size) s H locs → ∀ ls : Array Slot, lv_has ls 3 [(0, .ref (h 2)), (1, .int v1)] → fX2_seekWall_b14 N n v1 S = some S1 → W p l e rmX2_seekWall s m args below meth c H locs 0 0 Q (F0 m 14 ls []) := by
    intro n
    induction n with
    | zero =>
      intro v1 S H locs hW ls hl hf
      exact absurd hf (by intro h; cases h)
    | succ n ih =>
      intro v1 S H locs hW ls hl hf
      rw [fX2_seekWall_b14] at hf
      refine lv_iload_n (pc := 14) hx hb dX2_seekWall_14 rfl (lv_at hl 1 rfl) ?_
      refine lv_aload_n (pc := 15) hx hb dX2_seekWall_15 rfl (lv_at hl 0 rfl) ?_
      refine xg_300 (pc := 16) C0 hu_2 hW mX_106 dX2_seekWall_16 ?_
      refine xg_904 (pc := 19) C0 hu_8 hW mX_278 dX2_seekWall_19 ?_
      refine lv_icmp_ge (pc := 22) (tgt := 71) hx hb dX2_seekWall_22 (by decide) (fun c9 => ?_) (fun c9 => ?_)
      · have hf := zt c9 hf
        exact zend_v (w := wX cA h) fin hf hW dX2_seekWall_71
      · have hf := zf c9 hf
        refine lv_iconst (pc := 25) (v := 0) hx hb dX2_seekWall_25 (by decide) ?_
        refine lv_istore_n (pc := 26) (lv' := [(2, .int 0), (0, .ref (h 2)), (1, .int v1)]) hx hb dX2_seekWall_26 rfl hl (by decide) rfl (fun ls hl => ?_)
        exact w27 (fX2_seekWall_b14 N n) ih N v1 0 S H locs hW ls (lv_sub hl [1, 2, 0] rfl) hf
  unfold fX2_seekWall at hf
  refine lv_aload_n (pc := 0) hx hb dX2_seekWall_0 rfl (lv_at hl 0 rfl) ?_
  refine lv_bipush (pc := 1) (v := (-2)) hx hb dX2_seekWall_1 (by decide) ?_
  obtain ⟨S10, e_S10, hf⟩ := zL_e hf
  refine xp_303 (pc := 3) C0 hu_2 hW mX_192 e_S10 dX2_seekWall_3 (fun H locs hW => ?_)
  refine lv_aload_n (pc := 6) hx hb dX2_seekWall_6 rfl (lv_at hl 0 rfl) ?_
  refine lv_bipush (pc := 7) (v := (-100)) hx hb dX2_seekWall_7 (by decide) ?_
  obtain ⟨S11, e_S11, hf⟩ := zL_e hf
  refine xp_304 (pc := 9) C0 hu_2 hW mX_194 e_S11 dX2_seekWall_9 (fun H locs hW => ?_)
  refine lv_iconst (pc := 12) (v := 0) hx hb dX2_seekWall_12 (by decide) ?_
  refine lv_istore_n (pc := 13) (lv' := [(1, .int 0), (0, .ref (h 2))]) hx hb dX2_seekWall_13 rfl hl (by decide) rfl (fun ls hl => ?_)
  exact w14 N 0 S11 H locs hW ls (lv_sub hl [1, 0] rfl) hf

def fX2_timesOver_b22 (N : Nat) (K9 : Int32 → Int32 → Int32 → Int32 → Int32 → Int32 → Int32 → zSt → Option (Int32 × zSt)) : Nat → Int32 → Int32 → Int32 → Int32 → Int32 → Int32 → Int32 → Int32 → Int32 → zSt → Option (Int32 × zSt)
  | 0, _, _, _, _, _, _, _, _, _, _ => none
  | n + 1, v1, v2, v4, v5, v6, v7, v8, v9, v10, S =>
    zB (fX8_cellsOf v1 S) fun r1 S2 => if r1 ≤ v10 then (zU (fX11_asNumber v9) fun r5 => K9 v1 v2 v4 v5 v6 (v7 + r5) (v8 + 1) S2) else (if v9 = 0 then (fX2_timesOver_b22 N K9 n v1 v2 v4 v5 ((v6 * 1103515245) + 12345) v7 v8 0 (v10 + 1) S2) else (zU (fX11_remainder (zus ((v6 * 1103515245) + 12345) 8) v5) fun r9 => zB (fX2_allStand N v1 v10 v2 r9 S2) fun r12 S13 => if r12 = 0 then (fX2_timesOver_b22 N K9 n v1 v2 v4 v5 ((v6 * 1103515245) + 12345) v7 v8 0 (v10 + 1) S13) else (fX2_timesOver_b22 N K9 n v1 v2 v4 v5 ((v6 * 1103515245) + 12345) v7 v8 1 (v10 + 1) S13)))
def fX2_timesOver_b9 (N : Nat) : Nat → Int32 → Int32 → Int32 → Int32 → Int32 → Int32 → Int32 → zSt → Option (Int32 × zSt)
  | 0, _, _, _, _, _, _, _, _ => none
  | n + 1, v1, v2, v4, v5, v6, v7, v8, S =>
    if v4 ≤ v8 then (some (v7, S)) else (fX2_timesOver_b22 N (fX2_timesOver_b9 N n) N v1 v2 v4 v5 v6 v7 v8 1 0 S)
def fX2_timesOver (N : Nat) (p1 : Int32) (p2 : Int32) (p3 : Int32) (p4 : Int32) (p5 : Int32) (S : zSt) : Option (Int32 × zSt) :=
  fX2_timesOver_b9 N N p1 p2 p4 p5 p3 0 0 S
abbrev wX2_timesOver : List Cond := Cond.code yX2_timesOver cX2_timesOver 11 (some .int) :: waX
abbrev rmX2_timesOver : Room := { frames := 5, cells := 0, slots := 0, locals := 126 }
set_option maxHeartbeats 4000000 in
set_option maxRecDepth 100000 in
theorem kX2_timesOver (l : Launch) (D : va_G) (cA : Nat → ClassId) (h tt : Nat → Nat) (sz : Nat) (N : Nat)  (p1 : Int32) (p2 : Int32) (p3 : Int32) (p4 : Int32) (p5 : Int32) (S : zSt) (r : Int32) (S1 : zSt) (hf : fX2_timesOver N p1 p2 p3 p4 p5 S = some (r, S1)) : zMi l yX2_timesOver wX2_timesOver rmX2_timesOver (zEX tt) D (tX cA) (hsX h) [.ref (h 2), .int p1, .int p2, .int p3, .int p4, .int p5] (wX cA h S) (wX cA h S1) sz r := by
  refine zEn_i (cc := cX2_timesOver) (maxL := 11) (own := RX2) (by decide) rfl rfl (hmX cA h S) (Nat.le_of_ble_eq_true rfl) ?_
  intro p e s m args below meth c Q H locs C0 hW fin ls hl
  have hl : lv_has ls 11 [(0, .ref (h 2)), (1, .int p1), (2, .int p2), (3, .int p3), (4, .int p4), (5, .int p5)] := hl
  have hx := C0.1
  have hb := C0.2.1
  have hown := C0.2.2.2.1
  have hts := C0.2.2.2.2
  have w22 : ∀ (K9 : Int32 → Int32 → Int32 → Int32 → Int32 → Int32 → Int32 → zSt → Option (Int32 × zSt)) (hK9 : ∀ (v1 : Int32) (v2 : Int32) (v4 : Int32) (v5 : Int32) (v6 : Int32) (v7 : Int32) (v8 : Int32) (S : zSt) (H : Heap) (locs : List Loc), zW (zEX tt) D (tX cA) (wX cA h S) (aW (hsX h) s.heap.size) s H locs → ∀ ls : Array Slot, lv_has ls 11 [(0, .ref (h 2)), (1, .int v1), (2, .int v2), (4, .int v4), (5, .int v5), (6, .int v6), (7, .int v7), (8, .int v8)] → K9 v1 v2 v4 v5 v6 v7 v8 S = some (r, S1) → W p l e rmX2_timesOver s m args below meth c H locs 0 0 Q (F0 m 9 ls [])) (n : Nat), ∀ (v1 : Int32) (v2 : Int32) (v4 : Int32) (v5 : Int32) (v6 : Int32) (v7 : Int32) (v8 : Int32) (v9 : Int32) (v10 : Int32) (S : zSt) (H : Heap) (locs : List Loc), zW (zEX tt) D (tX cA) (wX cA h S) (aW (hsX h) s.heap.size) s H locs → ∀ ls : Array Slot, lv_has ls 11 [(0, .ref (h 2)), (1, .int v1), (2, .int v2), (4, .int v4), (5, .int v5), (6, .int v6), (7, .int v7), (8, .int v8), (9, .int v9), (10, .int v10)] → fX2_timesOver_b22 N K9 n v1 v2 v4 v5 v6 v7 v8 v9 v10 S = some (r, S1) → W p l e rmX2_timesOver s m args below meth c H locs 0 0 Q (F0 m 22 ls []) := by
    intro K9 hK9 n
    induction n with
    | zero =>
      intro v1 v2 v4 v5 v6 v7 v8 v9 v10 S H locs hW ls hl hf
      exact absurd hf (by intro h; cases h)
    | succ n ih =>
      intro v1 v2 v4 v5 v6 v7 v8 v9 v10 S H locs hW ls hl hf
      rw [fX2_timesOver_b22] at hf
      refine lv_iload (pc := 22) hx hb dX2_timesOver_22 (lv_at hl 9 rfl) ?_
      refine lv_aload_n (pc := 24) hx hb dX2_timesOver_24 rfl (lv_at hl 0 rfl) ?_
      refine xg_300 (pc := 25) C0 hu_2 hW mX_106 dX2_timesOver_25 ?_
      refine lv_iload_n (pc := 28) hx hb dX2_timesOver_28 rfl (lv_at hl 1 rfl) ?_
      obtain ⟨r1, S2, e3, hf⟩ := zB_e hf
      refine zcVi (zEX_ok tt) (As := [.int v1]) (pc := 29) C0 hW (kX8_cellsOf l D cA h tt H.size v1 S r1 S2 e3) (cwV 1 hts (zgV gaX mX_175 mX_176 mX_177 mX_66 mX_178) rfl rfl rfl (by decide +kernel) ⟨Nat.le_of_ble_eq_true rfl, Nat.le_of_ble_eq_true rfl⟩) (va_recv hW.1 hW.2.1 (ci := 8) (q0 := 8) rfl rfl) rfl hl.1 rfl (Nat.le_of_ble_eq_true rfl) dX2_timesOver_29 (fun H locs hW => ?_)
      refine lv_icmp_ge (pc := 32) (tgt := 85) hx hb dX2_timesOver_32 (by decide) (fun c4 => ?_) (fun c4 => ?_)
      · have hf := zt c4 hf
        refine lv_iload (pc := 85) hx hb dX2_timesOver_85 (lv_at hl 6 rfl) ?_
        refine lv_iload (pc := 87) hx hb dX2_timesOver_87 (lv_at hl 8 rfl) ?_
        obtain ⟨r5, e7, hf⟩ := zU_e hf
        refine zcNi (As := [.int v9]) (pc := 89) C0 hW (kX11_asNumber l H.size v9 r5 e7) ⟨va_cnB 1 hts (zgN gaX mX_268) rfl rfl rfl hW.2.2.2.2.2.2.2.2.2.2.2.2.2.1 (hts _ mX_151) (by decide +kernel) ⟨Nat.le_of_ble_eq_true rfl, Nat.le_of_ble_eq_true rfl⟩, hts _ mX_267, trivial⟩ rfl hl.1 rfl (Nat.le_of_ble_eq_true rfl) dX2_timesOver_89 (fun H locs hW => ?_)
        refine lv_iadd (pc := 92) hx hb dX2_timesOver_92 ?_
        refine lv_istore (pc := 93) (lv' := [(7, .int (v7 + r5)), (0, .ref (h 2)), (1, .int v1), (2, .int v2), (4, .int v4), (5, .int v5), (6, .int v6), (8, .int v8), (9, .int v9), (10, .int v10)]) hx hb dX2_timesOver_93 hl (by decide) rfl (fun ls hl => ?_)
        refine lv_iinc (pc := 95) (v := (v8 + 1)) (lv' := [(8, .int (v8 + 1)), (7, .int (v7 + r5)), (0, .ref (h 2)), (1, .int v1), (2, .int v2), (4, .int v4), (5, .int v5), (6, .int v6), (9, .int v9), (10, .int v10)]) hx hb dX2_timesOver_95 hl (k := 7) rfl (by rfl) (by decide) rfl (fun ls hl => ?_)
        refine lv_goto (pc := 98) (tgt := 9) hx hb dX2_timesOver_98 (by decide) ?_
        exact hK9 v1 v2 v4 v5 v6 (v7 + r5) (v8 + 1) S2 H locs hW ls (lv_sub hl [2, 3, 4, 5, 6, 7, 1, 0] rfl) hf
      · have hf := zf c4 hf
        refine lv_iload (pc := 35) hx hb dX2_timesOver_35 (lv_at hl 5 rfl) ?_
        refine lv_ldc (pc := 37) (v := 1103515245) hx hb hown (hts _ mX_289) dX2_timesOver_37 ?_
        refine lv_imul (pc := 39) hx hb dX2_timesOver_39 ?_
        refine lv_sipush (pc := 40) (v := 12345) hx hb dX2_timesOver_40 (by decide) ?_
        refine lv_iadd (pc := 43) hx hb dX2_timesOver_43 ?_
        refine lv_istore (pc := 44) (lv' := [(6, .int ((v6 * 1103515245) + 12345)), (0, .ref (h 2)), (1, .int v1), (2, .int v2), (4, .int v4), (5, .int v5), (7, .int v7), (8, .int v8), (9, .int v9), (10, .int v10)]) hx hb dX2_timesOver_44 hl (by decide) rfl (fun ls hl => ?_)
        refine lv_iload (pc := 46) hx hb dX2_timesOver_46 (lv_at hl 8 rfl) ?_
        refine lv_if_eq (pc := 48) (tgt := 76) hx hb dX2_timesOver_48 (by decide) (fun c8 => ?_) (fun c8 => ?_)
        · have hf := zt c8 hf
          refine lv_iconst (pc := 76) (v := 0) hx hb dX2_timesOver_76 (by decide) ?_
          refine lv_istore (pc := 77) (lv' := [(9, .int 0), (6, .int ((v6 * 1103515245) + 12345)), (0, .ref (h 2)), (1, .int v1), (2, .int v2), (4, .int v4), (5, .int v5), (7, .int v7), (8, .int v8), (10, .int v10)]) hx hb dX2_timesOver_77 hl (by decide) rfl (fun ls hl => ?_)
          refine lv_iinc (pc := 79) (v := (v10 + 1)) (lv' := [(10, .int (v10 + 1)), (9, .int 0), (6, .int ((v6 * 1103515245) + 12345)), (0, .ref (h 2)), (1, .int v1), (2, .int v2), (4, .int v4), (5, .int v5), (7, .int v7), (8, .int v8)]) hx hb dX2_timesOver_79 hl (k := 9) rfl (by rfl) (by decide) rfl (fun ls hl => ?_)
          refine lv_goto (pc := 82) (tgt := 22) hx hb dX2_timesOver_82 (by decide) ?_
          exact ih v1 v2 v4 v5 ((v6 * 1103515245) + 12345) v7 v8 0 (v10 + 1) S2 H locs hW ls (lv_sub hl [3, 4, 5, 6, 7, 2, 8, 9, 1, 0] rfl) hf
        · have hf := zf c8 hf
          refine lv_aload_n (pc := 51) hx hb dX2_timesOver_51 rfl (lv_at hl 1 rfl) ?_
          refine lv_iload_n (pc := 52) hx hb dX2_timesOver_52 rfl (lv_at hl 2 rfl) ?_
          refine lv_iload (pc := 53) hx hb dX2_timesOver_53 (lv_at hl 9 rfl) ?_
          refine lv_iload_n (pc := 55) hx hb dX2_timesOver_55 rfl (lv_at hl 3 rfl) ?_
          refine lv_iload (pc := 56) hx hb dX2_timesOver_56 (lv_at hl 0 rfl) ?_
          refine lv_bipush (pc := 58) (v := 8) hx hb dX2_timesOver_58 (by decide) ?_
          refine lv_iushr (pc := 60) (v := zus ((v6 * 1103515245) + 12345) 8) hx hb dX2_timesOver_60 rfl ?_
          refine lv_iload (pc := 61) hx hb dX2_timesOver_61 (lv_at hl 5 rfl) ?_
          obtain ⟨r9, e11, hf⟩ := zU_e hf
          refine zcNi (As := [.int (zus ((v6 * 1103515245) + 12345) 8), .int v5]) (pc := 63) C0 hW (kX11_remainder l H.size (zus ((v6 * 1103515245) + 12345) 8) v5 r9 e11) ⟨va_cnB 2 hts (zgN gaX mX_273) rfl rfl rfl hW.2.2.2.2.2.2.2.2.2.2.2.2.1 (hts _ mX_151) (by decide +kernel) ⟨Nat.le_of_ble_eq_true rfl, Nat.le_of_ble_eq_true rfl⟩, hts _ mX_272, trivial⟩ rfl hl.1 rfl (Nat.le_of_ble_eq_true rfl) dX2_timesOver_63 (fun H locs hW => ?_)
          obtain ⟨r12, S13, e14, hf⟩ := zB_e hf
          refine zcVi (zEX_ok tt) (As := [.int v1, .int v10, .int v2, .int r9]) (pc := 66) C0 hW (kX2_allStand l D cA h tt H.size N v1 v10 v2 r9 S2 r12 S13 e14) (cwV 4 hts (zgV gaX mX_290 mX_291 mX_292 mX_167 mX_163) rfl rfl rfl (by decide +kernel) ⟨Nat.le_of_ble_eq_true rfl, Nat.le_of_ble_eq_true rfl⟩) (va_recv hW.1 hW.2.1 (ci := 2) (q0 := 2) rfl rfl) rfl hl.1 rfl (Nat.le_of_ble_eq_true rfl) dX2_timesOver_66 (fun H locs hW => ?_)
          refine lv_if_eq (pc := 69) (tgt := 76) hx hb dX2_timesOver_69 (by decide) (fun c15 => ?_) (fun c15 => ?_)
          · have hf := zt c15 hf
            refine lv_iconst (pc := 76) (v := 0) hx hb dX2_timesOver_76 (by decide) ?_
            refine lv_istore (pc := 77) (lv' := [(9, .int 0), (6, .int ((v6 * 1103515245) + 12345)), (0, .ref (h 2)), (1, .int v1), (2, .int v2), (4, .int v4), (5, .int v5), (7, .int v7), (8, .int v8), (10, .int v10)]) hx hb dX2_timesOver_77 hl (by decide) rfl (fun ls hl => ?_)
            refine lv_iinc (pc := 79) (v := (v10 + 1)) (lv' := [(10, .int (v10 + 1)), (9, .int 0), (6, .int ((v6 * 1103515245) + 12345)), (0, .ref (h 2)), (1, .int v1), (2, .int v2), (4, .int v4), (5, .int v5), (7, .int v7), (8, .int v8)]) hx hb dX2_timesOver_79 hl (k := 9) rfl (by rfl) (by decide) rfl (fun ls hl => ?_)
            refine lv_goto (pc := 82) (tgt := 22) hx hb dX2_timesOver_82 (by decide) ?_
            exact ih v1 v2 v4 v5 ((v6 * 1103515245) + 12345) v7 v8 0 (v10 + 1) S13 H locs hW ls (lv_sub hl [3, 4, 5, 6, 7, 2, 8, 9, 1, 0] rfl) hf
          · have hf := zf c15 hf
            refine lv_iconst (pc := 72) (v := 1) hx hb dX2_timesOver_72 (by decide) ?_
            refine lv_goto (pc := 73) (tgt := 77) hx hb dX2_timesOver_73 (by decide) ?_
            refine lv_istore (pc := 77) (lv' := [(9, .int 1), (6, .int ((v6 * 1103515245) + 12345)), (0, .ref (h 2)), (1, .int v1), (2, .int v2), (4, .int v4), (5, .int v5), (7, .int v7), (8, .int v8), (10, .int v10)]) hx hb dX2_timesOver_77 hl (by decide) rfl (fun ls hl => ?_)
            refine lv_iinc (pc := 79) (v := (v10 + 1)) (lv' := [(10, .int (v10 + 1)), (9, .int 1), (6, .int ((v6 * 1103515245) + 12345)), (0, .ref (h 2)), (1, .int v1), (2, .int v2), (4, .int v4), (5, .int v5), (7, .int v7), (8, .int v8)]) hx hb dX2_timesOver_79 hl (k := 9) rfl (by rfl) (by decide) rfl (fun ls hl => ?_)
            refine lv_goto (pc := 82) (tgt := 22) hx hb dX2_timesOver_82 (by decide) ?_
            exact ih v1 v2 v4 v5 ((v6 * 1103515245) + 12345) v7 v8 1 (v10 + 1) S13 H locs hW ls (lv_sub hl [3, 4, 5, 6, 7, 2, 8, 9, 1, 0] rfl) hf
  have w9 : ∀ (n : Nat), ∀ (v1 : Int32) (v2 : Int32) (v4 : Int32) (v5 : Int32) (v6 : Int32) (v7 : Int32) (v8 : Int32) (S : zSt) (H : Heap) (locs : List Loc), zW (zEX tt) D (tX cA) (wX cA h S) (aW (hsX h) s.heap.size) s H locs → ∀ ls : Array Slot, lv_has ls 11 [(0, .ref (h 2)), (1, .int v1), (2, .int v2), (4, .int v4), (5, .int v5), (6, .int v6), (7, .int v7), (8, .int v8)] → fX2_timesOver_b9 N n v1 v2 v4 v5 v6 v7 v8 S = some (r, S1) → W p l e rmX2_timesOver s m args below meth c H locs 0 0 Q (F0 m 9 ls []) := by
    intro n
    induction n with
    | zero =>
      intro v1 v2 v4 v5 v6 v7 v8 S H locs hW ls hl hf
      exact absurd hf (by intro h; cases h)
    | succ n ih =>
      intro v1 v2 v4 v5 v6 v7 v8 S H locs hW ls hl hf
      rw [fX2_timesOver_b9] at hf
      refine lv_iload (pc := 9) hx hb dX2_timesOver_9 (lv_at hl 7 rfl) ?_
      refine lv_iload (pc := 11) hx hb dX2_timesOver_11 (lv_at hl 3 rfl) ?_
      refine lv_icmp_ge (pc := 13) (tgt := 101) hx hb dX2_timesOver_13 (by decide) (fun c16 => ?_) (fun c16 => ?_)
      · have hf := zt c16 hf
        refine lv_iload (pc := 101) hx hb dX2_timesOver_101 (lv_at hl 6 rfl) ?_
        exact zend_i (w := wX cA h) fin hf hW dX2_timesOver_103
      · have hf := zf c16 hf
        refine lv_iconst (pc := 16) (v := 1) hx hb dX2_timesOver_16 (by decide) ?_
        refine lv_istore (pc := 17) (lv' := [(9, .int 1), (0, .ref (h 2)), (1, .int v1), (2, .int v2), (4, .int v4), (5, .int v5), (6, .int v6), (7, .int v7), (8, .int v8)]) hx hb dX2_timesOver_17 hl (by decide) rfl (fun ls hl => ?_)
        refine lv_iconst (pc := 19) (v := 0) hx hb dX2_timesOver_19 (by decide) ?_
        refine lv_istore (pc := 20) (lv' := [(10, .int 0), (9, .int 1), (0, .ref (h 2)), (1, .int v1), (2, .int v2), (4, .int v4), (5, .int v5), (6, .int v6), (7, .int v7), (8, .int v8)]) hx hb dX2_timesOver_20 hl (by decide) rfl (fun ls hl => ?_)
        exact w22 (fX2_timesOver_b9 N n) ih N v1 v2 v4 v5 v6 v7 v8 1 0 S H locs hW ls (lv_sub hl [2, 3, 4, 5, 6, 7, 8, 9, 1, 0] rfl) hf
  unfold fX2_timesOver at hf
  refine lv_iload_n (pc := 0) hx hb dX2_timesOver_0 rfl (lv_at hl 3 rfl) ?_
  refine lv_istore (pc := 1) (lv' := [(6, .int p3), (0, .ref (h 2)), (1, .int p1), (2, .int p2), (3, .int p3), (4, .int p4), (5, .int p5)]) hx hb dX2_timesOver_1 hl (by decide) rfl (fun ls hl => ?_)
  refine lv_iconst (pc := 3) (v := 0) hx hb dX2_timesOver_3 (by decide) ?_
  refine lv_istore (pc := 4) (lv' := [(7, .int 0), (6, .int p3), (0, .ref (h 2)), (1, .int p1), (2, .int p2), (3, .int p3), (4, .int p4), (5, .int p5)]) hx hb dX2_timesOver_4 hl (by decide) rfl (fun ls hl => ?_)
  refine lv_iconst (pc := 6) (v := 0) hx hb dX2_timesOver_6 (by decide) ?_
  refine lv_istore (pc := 7) (lv' := [(8, .int 0), (7, .int 0), (6, .int p3), (0, .ref (h 2)), (1, .int p1), (2, .int p2), (3, .int p3), (4, .int p4), (5, .int p5)]) hx hb dX2_timesOver_7 hl (by decide) rfl (fun ls hl => ?_)
  exact w9 N p1 p2 p4 p5 p3 0 0 S H locs hW ls (lv_sub hl [3, 4, 5, 7, 8, 2, 1, 0] rfl) hf

def fX2_firstHourOver_b2 (N : Nat) : Nat → Int32 → Int32 → zSt → Option (Int32 × zSt)
  | 0, _, _, _ => none
  | n + 1, v1, v3, S =>
    if 48 ≤ v3 then (some ((-2), S)) else (zU (fX11_isDark v3) fun r2 => if r2 = 0 then (zB (fX4_riseInForce N v3 S) fun r6 S7 => zB (fX2_firstFall N v1 r6 S7) fun r9 S10 => if r9 = (-2) then (some (v3, S10)) else (fX2_firstHourOver_b2 N n v1 (v3 + 1) S10)) else (fX2_firstHourOver_b2 N n v1 (v3 + 1) S))
def fX2_firstHourOver (N : Nat) (p1 : Int32) (p2 : Int32) (S : zSt) : Option (Int32 × zSt) :=
  fX2_firstHourOver_b2 N N p1 p2 S
abbrev wX2_firstHourOver : List Cond := Cond.code yX2_firstHourOver cX2_firstHourOver 4 (some .int) :: waX
abbrev rmX2_firstHourOver : Room := { frames := 6, cells := 0, slots := 0, locals := 136 }
set_option maxHeartbeats 4000000 in
set_option maxRecDepth 100000 in
theorem kX2_firstHourOver (l : Launch) (D : va_G) (cA : Nat → ClassId) (h tt : Nat → Nat) (sz : Nat) (N : Nat)  (p1 : Int32) (p2 : Int32) (S : zSt) (r : Int32) (S1 : zSt) (hf : fX2_firstHourOver N p1 p2 S = some (r, S1)) : zMi l yX2_firstHourOver wX2_firstHourOver rmX2_firstHourOver (zEX tt) D (tX cA) (hsX h) [.ref (h 2), .int p1, .int p2] (wX cA h S) (wX cA h S1) sz r := by
  refine zEn_i (cc := cX2_firstHourOver) (maxL := 4) (own := RX2) (by decide) rfl rfl (hmX cA h S) (Nat.le_of_ble_eq_true rfl) ?_
  intro p e s m args below meth c Q H locs C0 hW fin ls hl
  have hl : lv_has ls 4 [(0, .ref (h 2)), (1, .int p1), (2, .int p2)] := hl
  have hx := C0.1
  have hb := C0.2.1
  have hown := C0.2.2.2.1
  have hts := C0.2.2.2.2
  have w2 : ∀ (n : Nat), ∀ (v1 : Int32) (v3 : Int32) (S : zSt) (H : Heap) (locs : List Loc), zW (zEX tt) D (tX cA) (wX cA h S) (aW (hsX h) s.heap.size) s H locs → ∀ ls : Array Slot, lv_has ls 4 [(0, .ref (h 2)), (1, .int v1), (3, .int v3)] → fX2_firstHourOver_b2 N n v1 v3 S = some (r, S1) → W p l e rmX2_firstHourOver s m args below meth c H locs 0 0 Q (F0 m 2 ls []) := by
    intro n
    induction n with
    | zero =>
      intro v1 v3 S H locs hW ls hl hf
      exact absurd hf (by intro h; cases h)
    | succ n ih =>
      intro v1 v3 S H locs hW ls hl hf
      rw [fX2_firstHourOver_b2] at hf
      refine lv_iload_n (pc := 2) hx hb dX2_firstHourOver_2 rfl (lv_at hl 2 rfl) ?_
      refine lv_bipush (pc := 3) (v := 48) hx hb dX2_firstHourOver_3 (by decide) ?_
      refine lv_icmp_ge (pc := 5) (tgt := 41) hx hb dX2_firstHourOver_5 (by decide) (fun c1 => ?_) (fun c1 => ?_)
      · have hf := zt c1 hf
        refine lv_bipush (pc := 41) (v := (-2)) hx hb dX2_firstHourOver_41 (by decide) ?_
        exact zend_i (w := wX cA h) fin hf hW dX2_firstHourOver_43
      · have hf := zf c1 hf
        refine lv_iload_n (pc := 8) hx hb dX2_firstHourOver_8 rfl (lv_at hl 2 rfl) ?_
        obtain ⟨r2, e4, hf⟩ := zU_e hf
        refine zcNi (As := [.int v3]) (pc := 9) C0 hW (kX11_isDark l H.size v3 r2 e4) ⟨va_cnB 1 hts (zgN gaX mX_224) rfl rfl rfl hW.2.2.2.2.2.2.2.2.2.2.2.1 (hts _ mX_151) (by decide +kernel) ⟨Nat.le_of_ble_eq_true rfl, Nat.le_of_ble_eq_true rfl⟩, hts _ mX_223, trivial⟩ rfl hl.1 rfl (Nat.le_of_ble_eq_true rfl) dX2_firstHourOver_9 (fun H locs hW => ?_)
        refine lv_if_ne (pc := 12) (tgt := 35) hx hb dX2_firstHourOver_12 (by decide) (fun c5 => ?_) (fun c5 => ?_)
        · have hf := zf c5 hf
          refine lv_iinc (pc := 35) (v := (v3 + 1)) (lv' := [(3, .int (v3 + 1)), (0, .ref (h 2)), (1, .int v1)]) hx hb dX2_firstHourOver_35 hl (k := 2) rfl (by rfl) (by decide) rfl (fun ls hl => ?_)
          refine lv_goto (pc := 38) (tgt := 2) hx hb dX2_firstHourOver_38 (by decide) ?_
          exact ih v1 (v3 + 1) S H locs hW ls (lv_sub hl [1, 2, 0] rfl) hf
        · have hf := zt c5 hf
          refine lv_aload_n (pc := 15) hx hb dX2_firstHourOver_15 rfl (lv_at hl 0 rfl) ?_
          refine lv_iload_n (pc := 16) hx hb dX2_firstHourOver_16 rfl (lv_at hl 1 rfl) ?_
          refine lv_aload_n (pc := 17) hx hb dX2_firstHourOver_17 rfl (lv_at hl 0 rfl) ?_
          refine xg_301 (pc := 18) C0 hu_2 hW mX_107 dX2_firstHourOver_18 ?_
          refine lv_iload_n (pc := 21) hx hb dX2_firstHourOver_21 rfl (lv_at hl 2 rfl) ?_
          obtain ⟨r6, S7, e8, hf⟩ := zB_e hf
          refine zcVi (zEX_ok tt) (As := [.int v3]) (pc := 22) C0 hW (kX4_riseInForce l D cA h tt H.size N v3 S r6 S7 e8) (cwV 1 hts (zgV gaX mX_228 mX_229 mX_230 mX_231 mX_232) rfl rfl rfl (by decide +kernel) ⟨Nat.le_of_ble_eq_true rfl, Nat.le_of_ble_eq_true rfl⟩) (va_recv hW.1 hW.2.1 (ci := 4) (q0 := 4) rfl rfl) rfl hl.1 rfl (Nat.le_of_ble_eq_true rfl) dX2_firstHourOver_22 (fun H locs hW => ?_)
          obtain ⟨r9, S10, e11, hf⟩ := zB_e hf
          refine zcVi (zEX_ok tt) (As := [.int v1, .int r6]) (pc := 25) C0 hW (kX2_firstFall l D cA h tt H.size N v1 r6 S7 r9 S10 e11) (cwV 2 hts (zgV gaX mX_285 mX_286 mX_287 mX_167 mX_190) rfl rfl rfl (by decide +kernel) ⟨Nat.le_of_ble_eq_true rfl, Nat.le_of_ble_eq_true rfl⟩) (va_recv hW.1 hW.2.1 (ci := 2) (q0 := 2) rfl rfl) rfl hl.1 rfl (Nat.le_of_ble_eq_true rfl) dX2_firstHourOver_25 (fun H locs hW => ?_)
          refine lv_bipush (pc := 28) (v := (-2)) hx hb dX2_firstHourOver_28 (by decide) ?_
          refine lv_icmp_ne (pc := 30) (tgt := 35) hx hb dX2_firstHourOver_30 (by decide) (fun c12 => ?_) (fun c12 => ?_)
          · have hf := zf c12 hf
            refine lv_iinc (pc := 35) (v := (v3 + 1)) (lv' := [(3, .int (v3 + 1)), (0, .ref (h 2)), (1, .int v1)]) hx hb dX2_firstHourOver_35 hl (k := 2) rfl (by rfl) (by decide) rfl (fun ls hl => ?_)
            refine lv_goto (pc := 38) (tgt := 2) hx hb dX2_firstHourOver_38 (by decide) ?_
            exact ih v1 (v3 + 1) S10 H locs hW ls (lv_sub hl [1, 2, 0] rfl) hf
          · have hf := zt c12 hf
            refine lv_iload_n (pc := 33) hx hb dX2_firstHourOver_33 rfl (lv_at hl 2 rfl) ?_
            exact zend_i (w := wX cA h) fin hf hW dX2_firstHourOver_34
  unfold fX2_firstHourOver at hf
  refine lv_iload_n (pc := 0) hx hb dX2_firstHourOver_0 rfl (lv_at hl 2 rfl) ?_
  refine lv_istore_n (pc := 1) (lv' := [(3, .int p2), (0, .ref (h 2)), (1, .int p1), (2, .int p2)]) hx hb dX2_firstHourOver_1 rfl hl (by decide) rfl (fun ls hl => ?_)
  exact w2 N p1 p2 S H locs hW ls (lv_sub hl [1, 2, 0] rfl) hf

def fX6_fallers_b4 (N : Nat) : Nat → Int32 → Int32 → zSt → Option (Int32 × zSt)
  | 0, _, _, _ => none
  | n + 1, v1, v2, S =>
    if (S.1 705) ≤ v2 then (some (v1, S)) else (if zin v2 8 then if 0 ≤ (S.2.1 704 (Int32.toNatClampNeg v2)) then (fX6_fallers_b4 N n v1 (v2 + 1) S) else (fX6_fallers_b4 N n (v1 ||| (1 <<< (v2 &&& 31))) (v2 + 1) S) else none)
def fX6_fallers (N : Nat) (S : zSt) : Option (Int32 × zSt) :=
  fX6_fallers_b4 N N 0 0 S
abbrev wX6_fallers : List Cond := Cond.code yX6_fallers cX6_fallers 3 (some .int) :: waX
abbrev rmX6_fallers : Room := { frames := 0, cells := 0, slots := 0, locals := 0 }
set_option maxHeartbeats 4000000 in
set_option maxRecDepth 100000 in
theorem kX6_fallers (l : Launch) (D : va_G) (cA : Nat → ClassId) (h tt : Nat → Nat) (sz : Nat) (N : Nat)   (S : zSt) (r : Int32) (S1 : zSt) (hf : fX6_fallers N S = some (r, S1)) : zMi l yX6_fallers wX6_fallers rmX6_fallers (zEX tt) D (tX cA) (hsX h) [.ref (h 6)] (wX cA h S) (wX cA h S1) sz r := by
  refine zEn_i (cc := cX6_fallers) (maxL := 3) (own := RX6) (by decide) rfl rfl (hmX cA h S) (Nat.le_of_ble_eq_true rfl) ?_
  intro p e s m args below meth c Q H locs C0 hW fin ls hl
  have hl : lv_has ls 3 [(0, .ref (h 6))] := hl
  have hx := C0.1
  have hb := C0.2.1
  have hown := C0.2.2.2.1
  have hts := C0.2.2.2.2
  have w4 : ∀ (n : Nat), ∀ (v1 : Int32) (v2 : Int32) (S : zSt) (H : Heap) (locs : List Loc), zW (zEX tt) D (tX cA) (wX cA h S) (aW (hsX h) s.heap.size) s H locs → ∀ ls : Array Slot, lv_has ls 3 [(0, .ref (h 6)), (1, .int v1), (2, .int v2)] → fX6_fallers_b4 N n v1 v2 S = some (r, S1) → W p l e rmX6_fallers s m args below meth c H locs 0 0 Q (F0 m 4 ls []) := by
    intro n
    induction n with
    | zero =>
      intro v1 v2 S H locs hW ls hl hf
      exact absurd hf (by intro h; cases h)
    | succ n ih =>
      intro v1 v2 S H locs hW ls hl hf
      rw [fX6_fallers_b4] at hf
      refine lv_iload_n (pc := 4) hx hb dX6_fallers_4 rfl (lv_at hl 2 rfl) ?_
      refine lv_aload_n (pc := 5) hx hb dX6_fallers_5 rfl (lv_at hl 0 rfl) ?_
      refine xg_705 (pc := 6) C0 hu_6 hW mX_135 dX6_fallers_6 ?_
      refine lv_icmp_ge (pc := 9) (tgt := 33) hx hb dX6_fallers_9 (by decide) (fun c1 => ?_) (fun c1 => ?_)
      · have hf := zt c1 hf
        refine lv_iload_n (pc := 33) hx hb dX6_fallers_33 rfl (lv_at hl 1 rfl) ?_
        exact zend_i (w := wX cA h) fin hf hW dX6_fallers_34
      · have hf := zf c1 hf
        refine lv_aload_n (pc := 12) hx hb dX6_fallers_12 rfl (lv_at hl 0 rfl) ?_
        refine xg_704 (pc := 13) C0 hu_6 hW mX_141 dX6_fallers_13 ?_
        refine lv_iload_n (pc := 16) hx hb dX6_fallers_16 rfl (lv_at hl 2 rfl) ?_
        obtain ⟨i2, hf⟩ := zn hf
        refine xl_704 (pc := 17) C0 hW i2 dX6_fallers_17 ?_
        refine lv_if_ge (pc := 18) (tgt := 27) hx hb dX6_fallers_18 (by decide) (fun c3 => ?_) (fun c3 => ?_)
        · have hf := zt c3 hf
          refine lv_iinc (pc := 27) (v := (v2 + 1)) (lv' := [(2, .int (v2 + 1)), (0, .ref (h 6)), (1, .int v1)]) hx hb dX6_fallers_27 hl (k := 2) rfl (by rfl) (by decide) rfl (fun ls hl => ?_)
          refine lv_goto (pc := 30) (tgt := 4) hx hb dX6_fallers_30 (by decide) ?_
          exact ih v1 (v2 + 1) S H locs hW ls (lv_sub hl [1, 2, 0] rfl) hf
        · have hf := zf c3 hf
          refine lv_iload_n (pc := 21) hx hb dX6_fallers_21 rfl (lv_at hl 1 rfl) ?_
          refine lv_iconst (pc := 22) (v := 1) hx hb dX6_fallers_22 (by decide) ?_
          refine lv_iload_n (pc := 23) hx hb dX6_fallers_23 rfl (lv_at hl 2 rfl) ?_
          refine lv_ishl (pc := 24) hx hb dX6_fallers_24 ?_
          refine lv_ior (pc := 25) hx hb dX6_fallers_25 ?_
          refine lv_istore_n (pc := 26) (lv' := [(1, .int (v1 ||| (1 <<< (v2 &&& 31)))), (0, .ref (h 6)), (2, .int v2)]) hx hb dX6_fallers_26 rfl hl (by decide) rfl (fun ls hl => ?_)
          refine lv_iinc (pc := 27) (v := (v2 + 1)) (lv' := [(2, .int (v2 + 1)), (1, .int (v1 ||| (1 <<< (v2 &&& 31)))), (0, .ref (h 6))]) hx hb dX6_fallers_27 hl (k := 2) rfl (by rfl) (by decide) rfl (fun ls hl => ?_)
          refine lv_goto (pc := 30) (tgt := 4) hx hb dX6_fallers_30 (by decide) ?_
          exact ih (v1 ||| (1 <<< (v2 &&& 31))) (v2 + 1) S H locs hW ls (lv_sub hl [2, 1, 0] rfl) hf
  unfold fX6_fallers at hf
  refine lv_iconst (pc := 0) (v := 0) hx hb dX6_fallers_0 (by decide) ?_
  refine lv_istore_n (pc := 1) (lv' := [(1, .int 0), (0, .ref (h 6))]) hx hb dX6_fallers_1 rfl hl (by decide) rfl (fun ls hl => ?_)
  refine lv_iconst (pc := 2) (v := 0) hx hb dX6_fallers_2 (by decide) ?_
  refine lv_istore_n (pc := 3) (lv' := [(2, .int 0), (1, .int 0), (0, .ref (h 6))]) hx hb dX6_fallers_3 rfl hl (by decide) rfl (fun ls hl => ?_)
  exact w4 N 0 0 S H locs hW ls (lv_sub hl [2, 1, 0] rfl) hf

def fX6_takeEachAsLast_b18 (N : Nat) : Nat → Int32 → zSt → Option zSt
  | 0, _, _ => none
  | n + 1, v1, S =>
    if (S.1 705) ≤ v1 then (some S) else (if zin v1 8 then zL (zA S 701 (Int32.toNatClampNeg v1) v1) fun S3 => fX6_takeEachAsLast_b18 N n (v1 + 1) S3 else none)
def fX6_takeEachAsLast (N : Nat) (S : zSt) : Option zSt :=
  zL (zI S 705 (S.1 801)) fun S4 => zL (zI S4 706 4) fun S5 => fX6_takeEachAsLast_b18 N N 0 S5
abbrev wX6_takeEachAsLast : List Cond := Cond.code yX6_takeEachAsLast cX6_takeEachAsLast 2 none :: waX
abbrev rmX6_takeEachAsLast : Room := { frames := 0, cells := 0, slots := 0, locals := 0 }
set_option maxHeartbeats 4000000 in
set_option maxRecDepth 100000 in
theorem kX6_takeEachAsLast (l : Launch) (D : va_G) (cA : Nat → ClassId) (h tt : Nat → Nat) (sz : Nat) (N : Nat)   (S : zSt) (S1 : zSt) (hf : fX6_takeEachAsLast N S = some S1) : zMv l yX6_takeEachAsLast wX6_takeEachAsLast rmX6_takeEachAsLast (zEX tt) D (tX cA) (hsX h) [.ref (h 6)] (wX cA h S) (wX cA h S1) sz := by
  refine zEn_v (cc := cX6_takeEachAsLast) (maxL := 2) (own := RX6) (by decide) rfl rfl (hmX cA h S) (Nat.le_of_ble_eq_true rfl) ?_
  intro p e s m args below meth c Q H locs C0 hW fin ls hl
  have hl : lv_has ls 2 [(0, .ref (h 6))] := hl
  have hx := C0.1
  have hb := C0.2.1
  have hown := C0.2.2.2.1
  have hts := C0.2.2.2.2
  have w18 : ∀ (n : Nat), ∀ (v1 : Int32) (S : zSt) (H : Heap) (locs : List Loc), zW (zEX tt) D (tX cA) (wX cA h S) (aW (hsX h) s.heap.size) s H locs → ∀ ls : Array Slot, lv_has ls 2 [(0, .ref (h 6)), (1, .int v1)] → fX6_takeEachAsLast_b18 N n v1 S = some S1 → W p l e rmX6_takeEachAsLast s m args below meth c H locs 0 0 Q (F0 m 18 ls []) := by
    intro n
    induction n with
    | zero =>
      intro v1 S H locs hW ls hl hf
      exact absurd hf (by intro h; cases h)
    | succ n ih =>
      intro v1 S H locs hW ls hl hf
      rw [fX6_takeEachAsLast_b18] at hf
      refine lv_iload_n (pc := 18) hx hb dX6_takeEachAsLast_18 rfl (lv_at hl 1 rfl) ?_
      refine lv_aload_n (pc := 19) hx hb dX6_takeEachAsLast_19 rfl (lv_at hl 0 rfl) ?_
      refine xg_705 (pc := 20) C0 hu_6 hW mX_135 dX6_takeEachAsLast_20 ?_
      refine lv_icmp_ge (pc := 23) (tgt := 39) hx hb dX6_takeEachAsLast_23 (by decide) (fun c1 => ?_) (fun c1 => ?_)
      · have hf := zt c1 hf
        exact zend_v (w := wX cA h) fin hf hW dX6_takeEachAsLast_39
      · have hf := zf c1 hf
        refine lv_aload_n (pc := 26) hx hb dX6_takeEachAsLast_26 rfl (lv_at hl 0 rfl) ?_
        refine xg_701 (pc := 27) C0 hu_6 hW mX_137 dX6_takeEachAsLast_27 ?_
        refine lv_iload_n (pc := 30) hx hb dX6_takeEachAsLast_30 rfl (lv_at hl 1 rfl) ?_
        refine lv_iload_n (pc := 31) hx hb dX6_takeEachAsLast_31 rfl (lv_at hl 1 rfl) ?_
        obtain ⟨i2, hf⟩ := zn hf
        obtain ⟨S3, e_S3, hf⟩ := zL_e hf
        refine xs_s701 (pc := 32) C0 hW i2 e_S3 dX6_takeEachAsLast_32 (fun H locs hW => ?_)
        refine lv_iinc (pc := 33) (v := (v1 + 1)) (lv' := [(1, .int (v1 + 1)), (0, .ref (h 6))]) hx hb dX6_takeEachAsLast_33 hl (k := 1) rfl (by rfl) (by decide) rfl (fun ls hl => ?_)
        refine lv_goto (pc := 36) (tgt := 18) hx hb dX6_takeEachAsLast_36 (by decide) ?_
        exact ih (v1 + 1) S3 H locs hW ls (lv_sub hl [1, 0] rfl) hf
  unfold fX6_takeEachAsLast at hf
  refine lv_aload_n (pc := 0) hx hb dX6_takeEachAsLast_0 rfl (lv_at hl 0 rfl) ?_
  refine lv_aload_n (pc := 1) hx hb dX6_takeEachAsLast_1 rfl (lv_at hl 0 rfl) ?_
  refine xg_700 (pc := 2) C0 hu_6 hW mX_138 dX6_takeEachAsLast_2 ?_
  refine xg_801 (pc := 5) C0 hu_7 hW mX_299 dX6_takeEachAsLast_5 ?_
  obtain ⟨S4, e_S4, hf⟩ := zL_e hf
  refine xp_705 (pc := 8) C0 hu_6 hW mX_135 e_S4 dX6_takeEachAsLast_8 (fun H locs hW => ?_)
  refine lv_aload_n (pc := 11) hx hb dX6_takeEachAsLast_11 rfl (lv_at hl 0 rfl) ?_
  refine lv_iconst (pc := 12) (v := 4) hx hb dX6_takeEachAsLast_12 (by decide) ?_
  obtain ⟨S5, e_S5, hf⟩ := zL_e hf
  refine xp_706 (pc := 13) C0 hu_6 hW mX_157 e_S5 dX6_takeEachAsLast_13 (fun H locs hW => ?_)
  refine lv_iconst (pc := 16) (v := 0) hx hb dX6_takeEachAsLast_16 (by decide) ?_
  refine lv_istore_n (pc := 17) (lv' := [(1, .int 0), (0, .ref (h 6))]) hx hb dX6_takeEachAsLast_17 rfl hl (by decide) rfl (fun ls hl => ?_)
  exact w18 N 0 S5 H locs hW ls (lv_sub hl [1, 0] rfl) hf

def fX2_fallersAsLast_b12 (N : Nat) : Nat → Int32 → Int32 → Int32 → Int32 → zSt → Option (Int32 × zSt)
  | 0, _, _, _, _, _ => none
  | n + 1, v1, v2, v3, v4, S =>
    zB (fX8_cellsOf v1 S) fun r1 S2 => if r1 ≤ v4 then (some (v3, S2)) else (zU (fX2_enter N v1 v4 v2 0 S2) fun S6 => zB (fX6_fallers N S6) fun r8 S9 => fX2_fallersAsLast_b12 N n v1 v2 (v3 ||| r8) (v4 + 1) S9)
def fX2_fallersAsLast (N : Nat) (p1 : Int32) (p2 : Int32) (S : zSt) : Option (Int32 × zSt) :=
  zU (fX6_takeEachAsLast N S) fun S12 => fX2_fallersAsLast_b12 N N p1 p2 0 0 S12
abbrev wX2_fallersAsLast : List Cond := Cond.code yX2_fallersAsLast cX2_fallersAsLast 5 (some .int) :: waX
abbrev rmX2_fallersAsLast : Room := { frames := 4, cells := 0, slots := 0, locals := 102 }
set_option maxHeartbeats 4000000 in
set_option maxRecDepth 100000 in
theorem kX2_fallersAsLast (l : Launch) (D : va_G) (cA : Nat → ClassId) (h tt : Nat → Nat) (sz : Nat) (N : Nat)  (p1 : Int32) (p2 : Int32) (S : zSt) (r : Int32) (S1 : zSt) (hf : fX2_fallersAsLast N p1 p2 S = some (r, S1)) : zMi l yX2_fallersAsLast wX2_fallersAsLast rmX2_fallersAsLast (zEX tt) D (tX cA) (hsX h) [.ref (h 2), .int p1, .int p2] (wX cA h S) (wX cA h S1) sz r := by
  refine zEn_i (cc := cX2_fallersAsLast) (maxL := 5) (own := RX2) (by decide) rfl rfl (hmX cA h S) (Nat.le_of_ble_eq_true rfl) ?_
  intro p e s m args below meth c Q H locs C0 hW fin ls hl
  have hl : lv_has ls 5 [(0, .ref (h 2)), (1, .int p1), (2, .int p2)] := hl
  have hx := C0.1
  have hb := C0.2.1
  have hown := C0.2.2.2.1
  have hts := C0.2.2.2.2
  have w12 : ∀ (n : Nat), ∀ (v1 : Int32) (v2 : Int32) (v3 : Int32) (v4 : Int32) (S : zSt) (H : Heap) (locs : List Loc), zW (zEX tt) D (tX cA) (wX cA h S) (aW (hsX h) s.heap.size) s H locs → ∀ ls : Array Slot, lv_has ls 5 [(0, .ref (h 2)), (1, .int v1), (2, .int v2), (3, .int v3), (4, .int v4)] → fX2_fallersAsLast_b12 N n v1 v2 v3 v4 S = some (r, S1) → W p l e rmX2_fallersAsLast s m args below meth c H locs 0 0 Q (F0 m 12 ls []) := by
    intro n
    induction n with
    | zero =>
      intro v1 v2 v3 v4 S H locs hW ls hl hf
      exact absurd hf (by intro h; cases h)
    | succ n ih =>
      intro v1 v2 v3 v4 S H locs hW ls hl hf
      rw [fX2_fallersAsLast_b12] at hf
      refine lv_iload (pc := 12) hx hb dX2_fallersAsLast_12 (lv_at hl 4 rfl) ?_
      refine lv_aload_n (pc := 14) hx hb dX2_fallersAsLast_14 rfl (lv_at hl 0 rfl) ?_
      refine xg_300 (pc := 15) C0 hu_2 hW mX_106 dX2_fallersAsLast_15 ?_
      refine lv_iload_n (pc := 18) hx hb dX2_fallersAsLast_18 rfl (lv_at hl 1 rfl) ?_
      obtain ⟨r1, S2, e3, hf⟩ := zB_e hf
      refine zcVi (zEX_ok tt) (As := [.int v1]) (pc := 19) C0 hW (kX8_cellsOf l D cA h tt H.size v1 S r1 S2 e3) (cwV 1 hts (zgV gaX mX_175 mX_176 mX_177 mX_66 mX_178) rfl rfl rfl (by decide +kernel) ⟨Nat.le_of_ble_eq_true rfl, Nat.le_of_ble_eq_true rfl⟩) (va_recv hW.1 hW.2.1 (ci := 8) (q0 := 8) rfl rfl) rfl hl.1 rfl (Nat.le_of_ble_eq_true rfl) dX2_fallersAsLast_19 (fun H locs hW => ?_)
      refine lv_icmp_ge (pc := 22) (tgt := 50) hx hb dX2_fallersAsLast_22 (by decide) (fun c4 => ?_) (fun c4 => ?_)
      · have hf := zt c4 hf
        refine lv_iload_n (pc := 50) hx hb dX2_fallersAsLast_50 rfl (lv_at hl 3 rfl) ?_
        exact zend_i (w := wX cA h) fin hf hW dX2_fallersAsLast_51
      · have hf := zf c4 hf
        refine lv_aload_n (pc := 25) hx hb dX2_fallersAsLast_25 rfl (lv_at hl 0 rfl) ?_
        refine lv_iload_n (pc := 26) hx hb dX2_fallersAsLast_26 rfl (lv_at hl 1 rfl) ?_
        refine lv_iload (pc := 27) hx hb dX2_fallersAsLast_27 (lv_at hl 4 rfl) ?_
        refine lv_iload_n (pc := 29) hx hb dX2_fallersAsLast_29 rfl (lv_at hl 2 rfl) ?_
        refine lv_iconst (pc := 30) (v := 0) hx hb dX2_fallersAsLast_30 (by decide) ?_
        obtain ⟨S6, e7, hf⟩ := zU_e hf
        refine zcVv (zEX_ok tt) (As := [.int v1, .int v4, .int v2, .int 0]) (pc := 31) C0 hW (kX2_enter l D cA h tt H.size N v1 v4 v2 0 S2 S6 e7) (cwV 4 hts (zgV gaX mX_164 mX_165 mX_166 mX_167 mX_109) rfl rfl rfl (by decide +kernel) ⟨Nat.le_of_ble_eq_true rfl, Nat.le_of_ble_eq_true rfl⟩) (va_recv hW.1 hW.2.1 (ci := 2) (q0 := 2) rfl rfl) rfl hl.1 rfl (Nat.le_of_ble_eq_true rfl) dX2_fallersAsLast_31 (fun H locs hW => ?_)
        refine lv_iload_n (pc := 34) hx hb dX2_fallersAsLast_34 rfl (lv_at hl 3 rfl) ?_
        refine lv_aload_n (pc := 35) hx hb dX2_fallersAsLast_35 rfl (lv_at hl 0 rfl) ?_
        refine xg_302 (pc := 36) C0 hu_2 hW mX_108 dX2_fallersAsLast_36 ?_
        obtain ⟨r8, S9, e10, hf⟩ := zB_e hf
        refine zcVi (zEX_ok tt) (As := []) (pc := 39) C0 hW (kX6_fallers l D cA h tt H.size N S6 r8 S9 e10) (cwV 0 hts (zgV gaX mX_300 mX_301 mX_302 mX_133 mX_303) rfl rfl rfl (by decide +kernel) ⟨Nat.le_of_ble_eq_true rfl, Nat.le_of_ble_eq_true rfl⟩) (va_recv hW.1 hW.2.1 (ci := 6) (q0 := 6) rfl rfl) rfl hl.1 rfl (Nat.le_of_ble_eq_true rfl) dX2_fallersAsLast_39 (fun H locs hW => ?_)
        refine lv_ior (pc := 42) hx hb dX2_fallersAsLast_42 ?_
        refine lv_istore_n (pc := 43) (lv' := [(3, .int (v3 ||| r8)), (0, .ref (h 2)), (1, .int v1), (2, .int v2), (4, .int v4)]) hx hb dX2_fallersAsLast_43 rfl hl (by decide) rfl (fun ls hl => ?_)
        refine lv_iinc (pc := 44) (v := (v4 + 1)) (lv' := [(4, .int (v4 + 1)), (3, .int (v3 ||| r8)), (0, .ref (h 2)), (1, .int v1), (2, .int v2)]) hx hb dX2_fallersAsLast_44 hl (k := 4) rfl (by rfl) (by decide) rfl (fun ls hl => ?_)
        refine lv_goto (pc := 47) (tgt := 12) hx hb dX2_fallersAsLast_47 (by decide) ?_
        exact ih v1 v2 (v3 ||| r8) (v4 + 1) S9 H locs hW ls (lv_sub hl [2, 3, 4, 1, 0] rfl) hf
  unfold fX2_fallersAsLast at hf
  refine lv_iconst (pc := 0) (v := 0) hx hb dX2_fallersAsLast_0 (by decide) ?_
  refine lv_istore_n (pc := 1) (lv' := [(3, .int 0), (0, .ref (h 2)), (1, .int p1), (2, .int p2)]) hx hb dX2_fallersAsLast_1 rfl hl (by decide) rfl (fun ls hl => ?_)
  refine lv_aload_n (pc := 2) hx hb dX2_fallersAsLast_2 rfl (lv_at hl 1 rfl) ?_
  refine xg_302 (pc := 3) C0 hu_2 hW mX_108 dX2_fallersAsLast_3 ?_
  obtain ⟨S12, e13, hf⟩ := zU_e hf
  refine zcVv (zEX_ok tt) (As := []) (pc := 6) C0 hW (kX6_takeEachAsLast l D cA h tt H.size N S S12 e13) (cwV 0 hts (zgV gaX mX_295 mX_296 mX_297 mX_133 mX_298) rfl rfl rfl (by decide +kernel) ⟨Nat.le_of_ble_eq_true rfl, Nat.le_of_ble_eq_true rfl⟩) (va_recv hW.1 hW.2.1 (ci := 6) (q0 := 6) rfl rfl) rfl hl.1 rfl (Nat.le_of_ble_eq_true rfl) dX2_fallersAsLast_6 (fun H locs hW => ?_)
  refine lv_iconst (pc := 9) (v := 0) hx hb dX2_fallersAsLast_9 (by decide) ?_
  refine lv_istore (pc := 10) (lv' := [(4, .int 0), (3, .int 0), (0, .ref (h 2)), (1, .int p1), (2, .int p2)]) hx hb dX2_fallersAsLast_10 hl (by decide) rfl (fun ls hl => ?_)
  exact w12 N p1 p2 0 0 S12 H locs hW ls (lv_sub hl [2, 3, 4, 1, 0] rfl) hf

def fX2_hourAfter (p1 : Int32) (p2 : Int32) (p3 : Int32): Option Int32 :=
  some (zmn 47 (p1 + ((p2 * p3) / 60)))
abbrev wX2_hourAfter : List Cond := Cond.code yX2_hourAfter cX2_hourAfter 3 (some .int) :: waX
abbrev rmX2_hourAfter : Room := { frames := 1, cells := 0, slots := 0, locals := 24 }
set_option maxHeartbeats 4000000 in
set_option maxRecDepth 100000 in
theorem kX2_hourAfter (l : Launch) (sz : Nat) (p1 : Int32) (p2 : Int32) (p3 : Int32) (r : Int32) (hf : fX2_hourAfter p1 p2 p3 = some r) : zMs l yX2_hourAfter wX2_hourAfter rmX2_hourAfter [.int p1, .int p2, .int p3] sz r := by
  refine zEs_i (cc := cX2_hourAfter) (maxL := 3) (own := RX2) (by decide) rfl rfl (Nat.le_of_ble_eq_true rfl) ?_
  intro p e s m args below meth c Q H locs C0 hW fin ls hl
  have hl : lv_has ls 3 [(0, .int p1), (1, .int p2), (2, .int p3)] := hl
  have hx := C0.1
  have hb := C0.2.1
  have hown := C0.2.2.2.1
  have hts := C0.2.2.2.2
  unfold fX2_hourAfter at hf
  refine lv_bipush (pc := 0) (v := 47) hx hb dX2_hourAfter_0 (by decide) ?_
  refine lv_iload_n (pc := 2) hx hb dX2_hourAfter_2 rfl (lv_at hl 0 rfl) ?_
  refine lv_iload_n (pc := 3) hx hb dX2_hourAfter_3 rfl (lv_at hl 1 rfl) ?_
  refine lv_iload_n (pc := 4) hx hb dX2_hourAfter_4 rfl (lv_at hl 2 rfl) ?_
  refine lv_imul (pc := 5) hx hb dX2_hourAfter_5 ?_
  refine lv_bipush (pc := 6) (v := 60) hx hb dX2_hourAfter_6 (by decide) ?_
  refine lv_idiv (pc := 8) hx hb dX2_hourAfter_8 (by decide) ?_
  refine lv_iadd (pc := 9) hx hb dX2_hourAfter_9 ?_
  refine va_mmin (pc := 10) hx hb (C0.2.2.1.trans hl.1.symm) hown (hts _ mX_174) (hts _ mX_27) (hts _ mX_28) (hts _ mX_29) (Nat.le_of_ble_eq_true rfl) (Nat.le_of_ble_eq_true rfl) (Nat.zero_le _) (Nat.zero_le _) dX2_hourAfter_10 ?_
  exact zens_i fin hf hW dX2_hourAfter_13

def fX2_stoppedIn_b3 (N : Nat) : Nat → Int32 → Int32 → Int32 → Int32 → zSt → Option (Int32 × zSt)
  | 0, _, _, _, _, _ => none
  | n + 1, v1, v2, v3, v4, S =>
    zB (fX8_cellsOf v1 S) fun r1 S2 => if r1 ≤ v4 then (some (v4, S2)) else (zU (fX2_hourAfter v2 v4 v3) fun r5 => zB (fX4_riseInForce N r5 S2) fun r8 S9 => zB (fX2_allStand N v1 v4 r8 0 S9) fun r11 S12 => if r11 = 0 then (some (v4, S12)) else (fX2_stoppedIn_b3 N n v1 v2 v3 (v4 + 1) S12))
def fX2_stoppedIn (N : Nat) (p1 : Int32) (p2 : Int32) (p3 : Int32) (S : zSt) : Option (Int32 × zSt) :=
  fX2_stoppedIn_b3 N N p1 p2 p3 0 S
abbrev wX2_stoppedIn : List Cond := Cond.code yX2_stoppedIn cX2_stoppedIn 5 (some .int) :: waX
abbrev rmX2_stoppedIn : Room := { frames := 6, cells := 0, slots := 0, locals := 136 }
set_option maxHeartbeats 4000000 in
set_option maxRecDepth 100000 in
theorem kX2_stoppedIn (l : Launch) (D : va_G) (cA : Nat → ClassId) (h tt : Nat → Nat) (sz : Nat) (N : Nat)  (p1 : Int32) (p2 : Int32) (p3 : Int32) (S : zSt) (r : Int32) (S1 : zSt) (hf : fX2_stoppedIn N p1 p2 p3 S = some (r, S1)) : zMi l yX2_stoppedIn wX2_stoppedIn rmX2_stoppedIn (zEX tt) D (tX cA) (hsX h) [.ref (h 2), .int p1, .int p2, .int p3] (wX cA h S) (wX cA h S1) sz r := by
  refine zEn_i (cc := cX2_stoppedIn) (maxL := 5) (own := RX2) (by decide) rfl rfl (hmX cA h S) (Nat.le_of_ble_eq_true rfl) ?_
  intro p e s m args below meth c Q H locs C0 hW fin ls hl
  have hl : lv_has ls 5 [(0, .ref (h 2)), (1, .int p1), (2, .int p2), (3, .int p3)] := hl
  have hx := C0.1
  have hb := C0.2.1
  have hown := C0.2.2.2.1
  have hts := C0.2.2.2.2
  have w3 : ∀ (n : Nat), ∀ (v1 : Int32) (v2 : Int32) (v3 : Int32) (v4 : Int32) (S : zSt) (H : Heap) (locs : List Loc), zW (zEX tt) D (tX cA) (wX cA h S) (aW (hsX h) s.heap.size) s H locs → ∀ ls : Array Slot, lv_has ls 5 [(0, .ref (h 2)), (1, .int v1), (2, .int v2), (3, .int v3), (4, .int v4)] → fX2_stoppedIn_b3 N n v1 v2 v3 v4 S = some (r, S1) → W p l e rmX2_stoppedIn s m args below meth c H locs 0 0 Q (F0 m 3 ls []) := by
    intro n
    induction n with
    | zero =>
      intro v1 v2 v3 v4 S H locs hW ls hl hf
      exact absurd hf (by intro h; cases h)
    | succ n ih =>
      intro v1 v2 v3 v4 S H locs hW ls hl hf
      rw [fX2_stoppedIn_b3] at hf
      refine lv_iload (pc := 3) hx hb dX2_stoppedIn_3 (lv_at hl 4 rfl) ?_
      refine lv_aload_n (pc := 5) hx hb dX2_stoppedIn_5 rfl (lv_at hl 0 rfl) ?_
      refine xg_300 (pc := 6) C0 hu_2 hW mX_106 dX2_stoppedIn_6 ?_
      refine lv_iload_n (pc := 9) hx hb dX2_stoppedIn_9 rfl (lv_at hl 1 rfl) ?_
      obtain ⟨r1, S2, e3, hf⟩ := zB_e hf
      refine zcVi (zEX_ok tt) (As := [.int v1]) (pc := 10) C0 hW (kX8_cellsOf l D cA h tt H.size v1 S r1 S2 e3) (cwV 1 hts (zgV gaX mX_175 mX_176 mX_177 mX_66 mX_178) rfl rfl rfl (by decide +kernel) ⟨Nat.le_of_ble_eq_true rfl, Nat.le_of_ble_eq_true rfl⟩) (va_recv hW.1 hW.2.1 (ci := 8) (q0 := 8) rfl rfl) rfl hl.1 rfl (Nat.le_of_ble_eq_true rfl) dX2_stoppedIn_10 (fun H locs hW => ?_)
      refine lv_icmp_ge (pc := 13) (tgt := 47) hx hb dX2_stoppedIn_13 (by decide) (fun c4 => ?_) (fun c4 => ?_)
      · have hf := zt c4 hf
        refine lv_iload (pc := 47) hx hb dX2_stoppedIn_47 (lv_at hl 4 rfl) ?_
        exact zend_i (w := wX cA h) fin hf hW dX2_stoppedIn_49
      · have hf := zf c4 hf
        refine lv_aload_n (pc := 16) hx hb dX2_stoppedIn_16 rfl (lv_at hl 0 rfl) ?_
        refine lv_iload_n (pc := 17) hx hb dX2_stoppedIn_17 rfl (lv_at hl 1 rfl) ?_
        refine lv_iload (pc := 18) hx hb dX2_stoppedIn_18 (lv_at hl 4 rfl) ?_
        refine lv_aload_n (pc := 20) hx hb dX2_stoppedIn_20 rfl (lv_at hl 0 rfl) ?_
        refine xg_301 (pc := 21) C0 hu_2 hW mX_107 dX2_stoppedIn_21 ?_
        refine lv_iload_n (pc := 24) hx hb dX2_stoppedIn_24 rfl (lv_at hl 2 rfl) ?_
        refine lv_iload (pc := 25) hx hb dX2_stoppedIn_25 (lv_at hl 4 rfl) ?_
        refine lv_iload_n (pc := 27) hx hb dX2_stoppedIn_27 rfl (lv_at hl 3 rfl) ?_
        obtain ⟨r5, e7, hf⟩ := zU_e hf
        refine zcSi (As := [.int v2, .int v4, .int v3]) (pc := 28) C0 hW (kX2_hourAfter l H.size v2 v4 v3 r5 e7) (va_cwS 3 hts (zgS gaX mX_305 mX_306 mX_167 mX_307) rfl rfl rfl (by decide +kernel) ⟨Nat.le_of_ble_eq_true rfl, Nat.le_of_ble_eq_true rfl⟩) rfl hl.1 rfl (Nat.le_of_ble_eq_true rfl) dX2_stoppedIn_28 (fun H locs hW => ?_)
        obtain ⟨r8, S9, e10, hf⟩ := zB_e hf
        refine zcVi (zEX_ok tt) (As := [.int r5]) (pc := 31) C0 hW (kX4_riseInForce l D cA h tt H.size N r5 S2 r8 S9 e10) (cwV 1 hts (zgV gaX mX_228 mX_229 mX_230 mX_231 mX_232) rfl rfl rfl (by decide +kernel) ⟨Nat.le_of_ble_eq_true rfl, Nat.le_of_ble_eq_true rfl⟩) (va_recv hW.1 hW.2.1 (ci := 4) (q0 := 4) rfl rfl) rfl hl.1 rfl (Nat.le_of_ble_eq_true rfl) dX2_stoppedIn_31 (fun H locs hW => ?_)
        refine lv_iconst (pc := 34) (v := 0) hx hb dX2_stoppedIn_34 (by decide) ?_
        obtain ⟨r11, S12, e13, hf⟩ := zB_e hf
        refine zcVi (zEX_ok tt) (As := [.int v1, .int v4, .int r8, .int 0]) (pc := 35) C0 hW (kX2_allStand l D cA h tt H.size N v1 v4 r8 0 S9 r11 S12 e13) (cwV 4 hts (zgV gaX mX_290 mX_291 mX_292 mX_167 mX_163) rfl rfl rfl (by decide +kernel) ⟨Nat.le_of_ble_eq_true rfl, Nat.le_of_ble_eq_true rfl⟩) (va_recv hW.1 hW.2.1 (ci := 2) (q0 := 2) rfl rfl) rfl hl.1 rfl (Nat.le_of_ble_eq_true rfl) dX2_stoppedIn_35 (fun H locs hW => ?_)
        refine lv_if_eq (pc := 38) (tgt := 47) hx hb dX2_stoppedIn_38 (by decide) (fun c14 => ?_) (fun c14 => ?_)
        · have hf := zt c14 hf
          refine lv_iload (pc := 47) hx hb dX2_stoppedIn_47 (lv_at hl 4 rfl) ?_
          exact zend_i (w := wX cA h) fin hf hW dX2_stoppedIn_49
        · have hf := zf c14 hf
          refine lv_iinc (pc := 41) (v := (v4 + 1)) (lv' := [(4, .int (v4 + 1)), (0, .ref (h 2)), (1, .int v1), (2, .int v2), (3, .int v3)]) hx hb dX2_stoppedIn_41 hl (k := 4) rfl (by rfl) (by decide) rfl (fun ls hl => ?_)
          refine lv_goto (pc := 44) (tgt := 3) hx hb dX2_stoppedIn_44 (by decide) ?_
          exact ih v1 v2 v3 (v4 + 1) S12 H locs hW ls (lv_sub hl [1, 2, 3, 4, 0] rfl) hf
  unfold fX2_stoppedIn at hf
  refine lv_iconst (pc := 0) (v := 0) hx hb dX2_stoppedIn_0 (by decide) ?_
  refine lv_istore (pc := 1) (lv' := [(4, .int 0), (0, .ref (h 2)), (1, .int p1), (2, .int p2), (3, .int p3)]) hx hb dX2_stoppedIn_1 hl (by decide) rfl (fun ls hl => ?_)
  exact w3 N p1 p2 p3 0 S H locs hW ls (lv_sub hl [1, 2, 3, 4, 0] rfl) hf

def fX2_comesBack_b6 (N : Nat) : Nat → Int32 → Int32 → Int32 → Int32 → Int32 → zSt → Option (Int32 × zSt)
  | 0, _, _, _, _, _, _ => none
  | n + 1, v1, v2, v3, v4, v5, S =>
    if v5 < 0 then (some (1, S)) else (zU (fX2_hourAfter v2 (((2 * v4) - 1) - v5) v3) fun r2 => zB (fX4_riseInForce N r2 S) fun r5 S6 => zB (fX2_allStand N v1 v5 r5 0 S6) fun r8 S9 => if r8 = 0 then (some (0, S9)) else (fX2_comesBack_b6 N n v1 v2 v3 v4 (v5 + (-1)) S9))
def fX2_comesBack (N : Nat) (p1 : Int32) (p2 : Int32) (p3 : Int32) (p4 : Int32) (S : zSt) : Option (Int32 × zSt) :=
  fX2_comesBack_b6 N N p1 p2 p3 p4 (p4 - 1) S
abbrev wX2_comesBack : List Cond := Cond.code yX2_comesBack cX2_comesBack 7 (some .boolean) :: waX
abbrev rmX2_comesBack : Room := { frames := 6, cells := 0, slots := 0, locals := 136 }
set_option maxHeartbeats 4000000 in
set_option maxRecDepth 100000 in
theorem kX2_comesBack (l : Launch) (D : va_G) (cA : Nat → ClassId) (h tt : Nat → Nat) (sz : Nat) (N : Nat)  (p1 : Int32) (p2 : Int32) (p3 : Int32) (p4 : Int32) (S : zSt) (r : Int32) (S1 : zSt) (hf : fX2_comesBack N p1 p2 p3 p4 S = some (r, S1)) : zMi l yX2_comesBack wX2_comesBack rmX2_comesBack (zEX tt) D (tX cA) (hsX h) [.ref (h 2), .int p1, .int p2, .int p3, .int p4] (wX cA h S) (wX cA h S1) sz r := by
  refine zEn_z (cc := cX2_comesBack) (maxL := 7) (own := RX2) (by decide) rfl rfl (hmX cA h S) (Nat.le_of_ble_eq_true rfl) ?_
  intro p e s m args below meth c Q H locs C0 hW fin ls hl
  have hl : lv_has ls 7 [(0, .ref (h 2)), (1, .int p1), (2, .int p2), (3, .int p3), (4, .int p4)] := hl
  have hx := C0.1
  have hb := C0.2.1
  have hown := C0.2.2.2.1
  have hts := C0.2.2.2.2
  have w6 : ∀ (n : Nat), ∀ (v1 : Int32) (v2 : Int32) (v3 : Int32) (v4 : Int32) (v5 : Int32) (S : zSt) (H : Heap) (locs : List Loc), zW (zEX tt) D (tX cA) (wX cA h S) (aW (hsX h) s.heap.size) s H locs → ∀ ls : Array Slot, lv_has ls 7 [(0, .ref (h 2)), (1, .int v1), (2, .int v2), (3, .int v3), (4, .int v4), (5, .int v5)] → fX2_comesBack_b6 N n v1 v2 v3 v4 v5 S = some (r, S1) → W p l e rmX2_comesBack s m args below meth c H locs 0 0 Q (F0 m 6 ls []) := by
    intro n
    induction n with
    | zero =>
      intro v1 v2 v3 v4 v5 S H locs hW ls hl hf
      exact absurd hf (by intro h; cases h)
    | succ n ih =>
      intro v1 v2 v3 v4 v5 S H locs hW ls hl hf
      rw [fX2_comesBack_b6] at hf
      refine lv_iload (pc := 6) hx hb dX2_comesBack_6 (lv_at hl 5 rfl) ?_
      refine lv_if_lt (pc := 8) (tgt := 55) hx hb dX2_comesBack_8 (by decide) (fun c1 => ?_) (fun c1 => ?_)
      · have hf := zt c1 hf
        refine lv_iconst (pc := 55) (v := 1) hx hb dX2_comesBack_55 (by decide) ?_
        exact zend_z (w := wX cA h) fin hf (by decide) hW dX2_comesBack_56
      · have hf := zf c1 hf
        refine lv_aload_n (pc := 11) hx hb dX2_comesBack_11 rfl (lv_at hl 0 rfl) ?_
        refine xg_301 (pc := 12) C0 hu_2 hW mX_107 dX2_comesBack_12 ?_
        refine lv_iload_n (pc := 15) hx hb dX2_comesBack_15 rfl (lv_at hl 2 rfl) ?_
        refine lv_iconst (pc := 16) (v := 2) hx hb dX2_comesBack_16 (by decide) ?_
        refine lv_iload (pc := 17) hx hb dX2_comesBack_17 (lv_at hl 4 rfl) ?_
        refine lv_imul (pc := 19) hx hb dX2_comesBack_19 ?_
        refine lv_iconst (pc := 20) (v := 1) hx hb dX2_comesBack_20 (by decide) ?_
        refine lv_isub (pc := 21) hx hb dX2_comesBack_21 ?_
        refine lv_iload (pc := 22) hx hb dX2_comesBack_22 (lv_at hl 5 rfl) ?_
        refine lv_isub (pc := 24) hx hb dX2_comesBack_24 ?_
        refine lv_iload_n (pc := 25) hx hb dX2_comesBack_25 rfl (lv_at hl 3 rfl) ?_
        obtain ⟨r2, e4, hf⟩ := zU_e hf
        refine zcSi (As := [.int v2, .int (((2 * v4) - 1) - v5), .int v3]) (pc := 26) C0 hW (kX2_hourAfter l H.size v2 (((2 * v4) - 1) - v5) v3 r2 e4) (va_cwS 3 hts (zgS gaX mX_305 mX_306 mX_167 mX_307) rfl rfl rfl (by decide +kernel) ⟨Nat.le_of_ble_eq_true rfl, Nat.le_of_ble_eq_true rfl⟩) rfl hl.1 rfl (Nat.le_of_ble_eq_true rfl) dX2_comesBack_26 (fun H locs hW => ?_)
        obtain ⟨r5, S6, e7, hf⟩ := zB_e hf
        refine zcVi (zEX_ok tt) (As := [.int r2]) (pc := 29) C0 hW (kX4_riseInForce l D cA h tt H.size N r2 S r5 S6 e7) (cwV 1 hts (zgV gaX mX_228 mX_229 mX_230 mX_231 mX_232) rfl rfl rfl (by decide +kernel) ⟨Nat.le_of_ble_eq_true rfl, Nat.le_of_ble_eq_true rfl⟩) (va_recv hW.1 hW.2.1 (ci := 4) (q0 := 4) rfl rfl) rfl hl.1 rfl (Nat.le_of_ble_eq_true rfl) dX2_comesBack_29 (fun H locs hW => ?_)
        refine lv_istore (pc := 32) (lv' := [(6, .int r5), (0, .ref (h 2)), (1, .int v1), (2, .int v2), (3, .int v3), (4, .int v4), (5, .int v5)]) hx hb dX2_comesBack_32 hl (by decide) rfl (fun ls hl => ?_)
        refine lv_aload_n (pc := 34) hx hb dX2_comesBack_34 rfl (lv_at hl 1 rfl) ?_
        refine lv_iload_n (pc := 35) hx hb dX2_comesBack_35 rfl (lv_at hl 2 rfl) ?_
        refine lv_iload (pc := 36) hx hb dX2_comesBack_36 (lv_at hl 6 rfl) ?_
        refine lv_iload (pc := 38) hx hb dX2_comesBack_38 (lv_at hl 0 rfl) ?_
        refine lv_iconst (pc := 40) (v := 0) hx hb dX2_comesBack_40 (by decide) ?_
        obtain ⟨r8, S9, e10, hf⟩ := zB_e hf
        refine zcVi (zEX_ok tt) (As := [.int v1, .int v5, .int r5, .int 0]) (pc := 41) C0 hW (kX2_allStand l D cA h tt H.size N v1 v5 r5 0 S6 r8 S9 e10) (cwV 4 hts (zgV gaX mX_290 mX_291 mX_292 mX_167 mX_163) rfl rfl rfl (by decide +kernel) ⟨Nat.le_of_ble_eq_true rfl, Nat.le_of_ble_eq_true rfl⟩) (va_recv hW.1 hW.2.1 (ci := 2) (q0 := 2) rfl rfl) rfl hl.1 rfl (Nat.le_of_ble_eq_true rfl) dX2_comesBack_41 (fun H locs hW => ?_)
        refine lv_if_ne (pc := 44) (tgt := 49) hx hb dX2_comesBack_44 (by decide) (fun c11 => ?_) (fun c11 => ?_)
        · have hf := zf c11 hf
          refine lv_iinc (pc := 49) (v := (v5 + (-1))) (lv' := [(5, .int (v5 + (-1))), (6, .int r5), (0, .ref (h 2)), (1, .int v1), (2, .int v2), (3, .int v3), (4, .int v4)]) hx hb dX2_comesBack_49 hl (k := 6) rfl (by rfl) (by decide) rfl (fun ls hl => ?_)
          refine lv_goto (pc := 52) (tgt := 6) hx hb dX2_comesBack_52 (by decide) ?_
          exact ih v1 v2 v3 v4 (v5 + (-1)) S9 H locs hW ls (lv_sub hl [2, 3, 4, 5, 6, 0] rfl) hf
        · have hf := zt c11 hf
          refine lv_iconst (pc := 47) (v := 0) hx hb dX2_comesBack_47 (by decide) ?_
          exact zend_z (w := wX cA h) fin hf (by decide) hW dX2_comesBack_48
  unfold fX2_comesBack at hf
  refine lv_iload (pc := 0) hx hb dX2_comesBack_0 (lv_at hl 4 rfl) ?_
  refine lv_iconst (pc := 2) (v := 1) hx hb dX2_comesBack_2 (by decide) ?_
  refine lv_isub (pc := 3) hx hb dX2_comesBack_3 ?_
  refine lv_istore (pc := 4) (lv' := [(5, .int (p4 - 1)), (0, .ref (h 2)), (1, .int p1), (2, .int p2), (3, .int p3), (4, .int p4)]) hx hb dX2_comesBack_4 hl (by decide) rfl (fun ls hl => ?_)
  exact w6 N p1 p2 p3 p4 (p4 - 1) S H locs hW ls (lv_sub hl [1, 2, 3, 4, 5, 0] rfl) hf

def fX10_isAtEnd (S : zSt) : Option (Int32 × zSt) :=
  if (S.1 1102) < (S.1 1101) then (some (0, S)) else (some (1, S))
abbrev wX10_isAtEnd : List Cond := Cond.code yX10_isAtEnd cX10_isAtEnd 1 (some .boolean) :: waX
abbrev rmX10_isAtEnd : Room := { frames := 0, cells := 0, slots := 0, locals := 0 }
set_option maxHeartbeats 4000000 in
set_option maxRecDepth 100000 in
theorem kX10_isAtEnd (l : Launch) (D : va_G) (cA : Nat → ClassId) (h tt : Nat → Nat) (sz : Nat)   (S : zSt) (r : Int32) (S1 : zSt) (hf : fX10_isAtEnd S = some (r, S1)) : zMi l yX10_isAtEnd wX10_isAtEnd rmX10_isAtEnd (zEX tt) D (tX cA) (hsX h) [.ref (h 10)] (wX cA h S) (wX cA h S1) sz r := by
  refine zEn_z (cc := cX10_isAtEnd) (maxL := 1) (own := RX10) (by decide) rfl rfl (hmX cA h S) (Nat.le_of_ble_eq_true rfl) ?_
  intro p e s m args below meth c Q H locs C0 hW fin ls hl
  have hl : lv_has ls 1 [(0, .ref (h 10))] := hl
  have hx := C0.1
  have hb := C0.2.1
  have hown := C0.2.2.2.1
  have hts := C0.2.2.2.2
  unfold fX10_isAtEnd at hf
  refine lv_aload_n (pc := 0) hx hb dX10_isAtEnd_0 rfl (lv_at hl 0 rfl) ?_
  refine xg_1102 (pc := 1) C0 hu_10 hW mX_332 dX10_isAtEnd_1 ?_
  refine lv_aload_n (pc := 4) hx hb dX10_isAtEnd_4 rfl (lv_at hl 0 rfl) ?_
  refine xg_1101 (pc := 5) C0 hu_10 hW mX_333 dX10_isAtEnd_5 ?_
  refine lv_icmp_lt (pc := 8) (tgt := 15) hx hb dX10_isAtEnd_8 (by decide) (fun c1 => ?_) (fun c1 => ?_)
  · have hf := zt c1 hf
    refine lv_iconst (pc := 15) (v := 0) hx hb dX10_isAtEnd_15 (by decide) ?_
    exact zend_z (w := wX cA h) fin hf (by decide) hW dX10_isAtEnd_16
  · have hf := zf c1 hf
    refine lv_iconst (pc := 11) (v := 1) hx hb dX10_isAtEnd_11 (by decide) ?_
    refine lv_goto (pc := 12) (tgt := 16) hx hb dX10_isAtEnd_12 (by decide) ?_
    exact zend_z (w := wX cA h) fin hf (by decide) hW dX10_isAtEnd_16

def fX10_seen (S : zSt) : Option (Int32 × zSt) :=
  if (S.1 1102) < 0 then (some ((-1), S)) else (if (S.1 1101) ≤ (S.1 1102) then (some ((-1), S)) else (if zin (S.1 1102) 120 then some ((S.2.1 1100 (Int32.toNatClampNeg (S.1 1102))), S) else none))
abbrev wX10_seen : List Cond := Cond.code yX10_seen cX10_seen 1 (some .int) :: waX
abbrev rmX10_seen : Room := { frames := 0, cells := 0, slots := 0, locals := 0 }
set_option maxHeartbeats 4000000 in
set_option maxRecDepth 100000 in
theorem kX10_seen (l : Launch) (D : va_G) (cA : Nat → ClassId) (h tt : Nat → Nat) (sz : Nat)   (S : zSt) (r : Int32) (S1 : zSt) (hf : fX10_seen S = some (r, S1)) : zMi l yX10_seen wX10_seen rmX10_seen (zEX tt) D (tX cA) (hsX h) [.ref (h 10)] (wX cA h S) (wX cA h S1) sz r := by
  refine zEn_i (cc := cX10_seen) (maxL := 1) (own := RX10) (by decide) rfl rfl (hmX cA h S) (Nat.le_of_ble_eq_true rfl) ?_
  intro p e s m args below meth c Q H locs C0 hW fin ls hl
  have hl : lv_has ls 1 [(0, .ref (h 10))] := hl
  have hx := C0.1
  have hb := C0.2.1
  have hown := C0.2.2.2.1
  have hts := C0.2.2.2.2
  unfold fX10_seen at hf
  refine lv_aload_n (pc := 0) hx hb dX10_seen_0 rfl (lv_at hl 0 rfl) ?_
  refine xg_1102 (pc := 1) C0 hu_10 hW mX_332 dX10_seen_1 ?_
  refine lv_if_lt (pc := 4) (tgt := 30) hx hb dX10_seen_4 (by decide) (fun c1 => ?_) (fun c1 => ?_)
  · have hf := zt c1 hf
    refine lv_iconst (pc := 30) (v := (-1)) hx hb dX10_seen_30 (by decide) ?_
    exact zend_i (w := wX cA h) fin hf hW dX10_seen_31
  · have hf := zf c1 hf
    refine lv_aload_n (pc := 7) hx hb dX10_seen_7 rfl (lv_at hl 0 rfl) ?_
    refine xg_1102 (pc := 8) C0 hu_10 hW mX_332 dX10_seen_8 ?_
    refine lv_aload_n (pc := 11) hx hb dX10_seen_11 rfl (lv_at hl 0 rfl) ?_
    refine xg_1101 (pc := 12) C0 hu_10 hW mX_333 dX10_seen_12 ?_
    refine lv_icmp_ge (pc := 15) (tgt := 30) hx hb dX10_seen_15 (by decide) (fun c2 => ?_) (fun c2 => ?_)
    · have hf := zt c2 hf
      refine lv_iconst (pc := 30) (v := (-1)) hx hb dX10_seen_30 (by decide) ?_
      exact zend_i (w := wX cA h) fin hf hW dX10_seen_31
    · have hf := zf c2 hf
      refine lv_aload_n (pc := 18) hx hb dX10_seen_18 rfl (lv_at hl 0 rfl) ?_
      refine xg_1100 (pc := 19) C0 hu_10 hW mX_334 dX10_seen_19 ?_
      refine lv_aload_n (pc := 22) hx hb dX10_seen_22 rfl (lv_at hl 0 rfl) ?_
      refine xg_1102 (pc := 23) C0 hu_10 hW mX_332 dX10_seen_23 ?_
      obtain ⟨i3, hf⟩ := zn hf
      refine xl_1100 (pc := 26) C0 hW i3 dX10_seen_26 ?_
      refine lv_goto (pc := 27) (tgt := 31) hx hb dX10_seen_27 (by decide) ?_
      exact zend_i (w := wX cA h) fin hf hW dX10_seen_31

def fX10_pass (p1 : Int32) (S : zSt) : Option (Int32 × zSt) :=
  zB (fX10_seen S) fun r1 S2 => if r1 = p1 then (zL (zI S2 1102 ((S2.1 1102) + 1)) fun S5 => some (1, S5)) else (some (0, S2))
abbrev wX10_pass : List Cond := Cond.code yX10_pass cX10_pass 2 (some .boolean) :: waX
abbrev rmX10_pass : Room := { frames := 1, cells := 0, slots := 0, locals := 20 }
set_option maxHeartbeats 4000000 in
set_option maxRecDepth 100000 in
theorem kX10_pass (l : Launch) (D : va_G) (cA : Nat → ClassId) (h tt : Nat → Nat) (sz : Nat)  (p1 : Int32) (S : zSt) (r : Int32) (S1 : zSt) (hf : fX10_pass p1 S = some (r, S1)) : zMi l yX10_pass wX10_pass rmX10_pass (zEX tt) D (tX cA) (hsX h) [.ref (h 10), .int p1] (wX cA h S) (wX cA h S1) sz r := by
  refine zEn_z (cc := cX10_pass) (maxL := 2) (own := RX10) (by decide) rfl rfl (hmX cA h S) (Nat.le_of_ble_eq_true rfl) ?_
  intro p e s m args below meth c Q H locs C0 hW fin ls hl
  have hl : lv_has ls 2 [(0, .ref (h 10)), (1, .int p1)] := hl
  have hx := C0.1
  have hb := C0.2.1
  have hown := C0.2.2.2.1
  have hts := C0.2.2.2.2
  unfold fX10_pass at hf
  refine lv_aload_n (pc := 0) hx hb dX10_pass_0 rfl (lv_at hl 0 rfl) ?_
  obtain ⟨r1, S2, e3, hf⟩ := zB_e hf
  refine zcVi (zEX_ok tt) (As := []) (pc := 1) C0 hW (kX10_seen l D cA h tt H.size S r1 S2 e3) (cwV 0 hts (zgV gaX mX_342 mX_328 mX_329 mX_330 mX_331) rfl rfl rfl (by decide +kernel) ⟨Nat.le_of_ble_eq_true rfl, Nat.le_of_ble_eq_true rfl⟩) (va_recv hW.1 hW.2.1 (ci := 10) (q0 := 10) rfl rfl) rfl hl.1 rfl (Nat.le_of_ble_eq_true rfl) dX10_pass_1 (fun H locs hW => ?_)
  refine lv_iload_n (pc := 4) hx hb dX10_pass_4 rfl (lv_at hl 1 rfl) ?_
  refine lv_icmp_eq (pc := 5) (tgt := 10) hx hb dX10_pass_5 (by decide) (fun c4 => ?_) (fun c4 => ?_)
  · have hf := zt c4 hf
    refine lv_aload_n (pc := 10) hx hb dX10_pass_10 rfl (lv_at hl 0 rfl) ?_
    refine lv_dup (pc := 11) hx hb dX10_pass_11 rfl ?_
    refine xg_1102 (pc := 12) C0 hu_10 hW mX_332 dX10_pass_12 ?_
    refine lv_iconst (pc := 15) (v := 1) hx hb dX10_pass_15 (by decide) ?_
    refine lv_iadd (pc := 16) hx hb dX10_pass_16 ?_
    obtain ⟨S5, e_S5, hf⟩ := zL_e hf
    refine xp_1102 (pc := 17) C0 hu_10 hW mX_332 e_S5 dX10_pass_17 (fun H locs hW => ?_)
    refine lv_iconst (pc := 20) (v := 1) hx hb dX10_pass_20 (by decide) ?_
    exact zend_z (w := wX cA h) fin hf (by decide) hW dX10_pass_21
  · have hf := zf c4 hf
    refine lv_iconst (pc := 8) (v := 0) hx hb dX10_pass_8 (by decide) ?_
    exact zend_z (w := wX cA h) fin hf (by decide) hW dX10_pass_9

def fX3_make (p1 : Int32) (S : zSt) : Option zSt :=
  if 121 ≤ (S.1 402) then (some S) else (if zin (S.1 402) 121 then zL (zA S 401 (Int32.toNatClampNeg (S.1 402)) p1) fun S3 => zL (zI S3 402 ((S3.1 402) + 1)) fun S4 => some S4 else none)
abbrev wX3_make : List Cond := Cond.code yX3_make cX3_make 2 none :: waX
abbrev rmX3_make : Room := { frames := 0, cells := 0, slots := 0, locals := 0 }
set_option maxHeartbeats 4000000 in
set_option maxRecDepth 100000 in
theorem kX3_make (l : Launch) (D : va_G) (cA : Nat → ClassId) (h tt : Nat → Nat) (sz : Nat)  (p1 : Int32) (S : zSt) (S1 : zSt) (hf : fX3_make p1 S = some S1) : zMv l yX3_make wX3_make rmX3_make (zEX tt) D (tX cA) (hsX h) [.ref (h 3), .int p1] (wX cA h S) (wX cA h S1) sz := by
  refine zEn_v (cc := cX3_make) (maxL := 2) (own := RX3) (by decide) rfl rfl (hmX cA h S) (Nat.le_of_ble_eq_true rfl) ?_
  intro p e s m args below meth c Q H locs C0 hW fin ls hl
  have hl : lv_has ls 2 [(0, .ref (h 3)), (1, .int p1)] := hl
  have hx := C0.1
  have hb := C0.2.1
  have hown := C0.2.2.2.1
  have hts := C0.2.2.2.2
  unfold fX3_make at hf
  refine lv_aload_n (pc := 0) hx hb dX3_make_0 rfl (lv_at hl 0 rfl) ?_
  refine xg_402 (pc := 1) C0 hu_3 hW mX_314 dX3_make_1 ?_
  refine lv_aload_n (pc := 4) hx hb dX3_make_4 rfl (lv_at hl 0 rfl) ?_
  refine xg_401 (pc := 5) C0 hu_3 hW mX_311 dX3_make_5 ?_
  refine xn_401 (pc := 8) C0 hW dX3_make_8 ?_
  refine lv_icmp_ge (pc := 9) (tgt := 32) hx hb dX3_make_9 (by decide) (fun c1 => ?_) (fun c1 => ?_)
  · have hf := zt c1 hf
    exact zend_v (w := wX cA h) fin hf hW dX3_make_32
  · have hf := zf c1 hf
    refine lv_aload_n (pc := 12) hx hb dX3_make_12 rfl (lv_at hl 0 rfl) ?_
    refine xg_401 (pc := 13) C0 hu_3 hW mX_311 dX3_make_13 ?_
    refine lv_aload_n (pc := 16) hx hb dX3_make_16 rfl (lv_at hl 0 rfl) ?_
    refine xg_402 (pc := 17) C0 hu_3 hW mX_314 dX3_make_17 ?_
    refine lv_iload_n (pc := 20) hx hb dX3_make_20 rfl (lv_at hl 1 rfl) ?_
    obtain ⟨i2, hf⟩ := zn hf
    obtain ⟨S3, e_S3, hf⟩ := zL_e hf
    refine xs_s401 (pc := 21) C0 hW i2 e_S3 dX3_make_21 (fun H locs hW => ?_)
    refine lv_aload_n (pc := 22) hx hb dX3_make_22 rfl (lv_at hl 0 rfl) ?_
    refine lv_dup (pc := 23) hx hb dX3_make_23 rfl ?_
    refine xg_402 (pc := 24) C0 hu_3 hW mX_314 dX3_make_24 ?_
    refine lv_iconst (pc := 27) (v := 1) hx hb dX3_make_27 (by decide) ?_
    refine lv_iadd (pc := 28) hx hb dX3_make_28 ?_
    obtain ⟨S4, e_S4, hf⟩ := zL_e hf
    refine xp_402 (pc := 29) C0 hu_3 hW mX_314 e_S4 dX3_make_29 (fun H locs hW => ?_)
    exact zend_v (w := wX cA h) fin hf hW dX3_make_32

def fX3_levelOf (p1 : Int32): Option Int32 :=
  if p1 = 37 then (some 4) else (if p1 = 38 then (some 1) else (if p1 = 42 then (some 4) else (if p1 = 43 then (some 3) else (if p1 = 45 then (some 3) else (if p1 = 47 then (some 4) else (if p1 = 60 then (some 2) else (if p1 = 61 then (some 2) else (if p1 = 62 then (some 2) else (if p1 = 124 then (some 0) else (some (-1)))))))))))
abbrev wX3_levelOf : List Cond := Cond.code yX3_levelOf cX3_levelOf 1 (some .int) :: waX
abbrev rmX3_levelOf : Room := { frames := 0, cells := 0, slots := 0, locals := 0 }
set_option maxHeartbeats 4000000 in
set_option maxRecDepth 100000 in
theorem kX3_levelOf (l : Launch) (sz : Nat) (p1 : Int32) (r : Int32) (hf : fX3_levelOf p1 = some r) : zMs l yX3_levelOf wX3_levelOf rmX3_levelOf [.int p1] sz r := by
  refine zEs_i (cc := cX3_levelOf) (maxL := 1) (own := RX3) (by decide) rfl rfl (Nat.le_of_ble_eq_true rfl) ?_
  intro p e s m args below meth c Q H locs C0 hW fin ls hl
  have hl : lv_has ls 1 [(0, .int p1)] := hl
  have hx := C0.1
  have hb := C0.2.1
  have hown := C0.2.2.2.1
  have hts := C0.2.2.2.2
  unfold fX3_levelOf at hf
  refine lv_iload_n (pc := 0) hx hb dX3_levelOf_0 rfl (lv_at hl 0 rfl) ?_
  by_cases c1 : p1 = 37
  · have hf := zt c1 hf
    refine lv_lookup (pc := 1) (tgt := 100) (off := 99) hx hb dX3_levelOf_1 (by decide) (by rw [c1]; decide) (by decide) ?_
    refine lv_iconst (pc := 100) (v := 4) hx hb dX3_levelOf_100 (by decide) ?_
    exact zens_i fin hf hW dX3_levelOf_101
  have hf := zf c1 hf
  by_cases c2 : p1 = 38
  · have hf := zt c2 hf
    refine lv_lookup (pc := 1) (tgt := 94) (off := 93) hx hb dX3_levelOf_1 (by decide) (by rw [c2]; decide) (by decide) ?_
    refine lv_iconst (pc := 94) (v := 1) hx hb dX3_levelOf_94 (by decide) ?_
    exact zens_i fin hf hW dX3_levelOf_95
  have hf := zf c2 hf
  by_cases c3 : p1 = 42
  · have hf := zt c3 hf
    refine lv_lookup (pc := 1) (tgt := 100) (off := 99) hx hb dX3_levelOf_1 (by decide) (by rw [c3]; decide) (by decide) ?_
    refine lv_iconst (pc := 100) (v := 4) hx hb dX3_levelOf_100 (by decide) ?_
    exact zens_i fin hf hW dX3_levelOf_101
  have hf := zf c3 hf
  by_cases c4 : p1 = 43
  · have hf := zt c4 hf
    refine lv_lookup (pc := 1) (tgt := 98) (off := 97) hx hb dX3_levelOf_1 (by decide) (by rw [c4]; decide) (by decide) ?_
    refine lv_iconst (pc := 98) (v := 3) hx hb dX3_levelOf_98 (by decide) ?_
    exact zens_i fin hf hW dX3_levelOf_99
  have hf := zf c4 hf
  by_cases c5 : p1 = 45
  · have hf := zt c5 hf
    refine lv_lookup (pc := 1) (tgt := 98) (off := 97) hx hb dX3_levelOf_1 (by decide) (by rw [c5]; decide) (by decide) ?_
    refine lv_iconst (pc := 98) (v := 3) hx hb dX3_levelOf_98 (by decide) ?_
    exact zens_i fin hf hW dX3_levelOf_99
  have hf := zf c5 hf
  by_cases c6 : p1 = 47
  · have hf := zt c6 hf
    refine lv_lookup (pc := 1) (tgt := 100) (off := 99) hx hb dX3_levelOf_1 (by decide) (by rw [c6]; decide) (by decide) ?_
    refine lv_iconst (pc := 100) (v := 4) hx hb dX3_levelOf_100 (by decide) ?_
    exact zens_i fin hf hW dX3_levelOf_101
  have hf := zf c6 hf
  by_cases c7 : p1 = 60
  · have hf := zt c7 hf
    refine lv_lookup (pc := 1) (tgt := 96) (off := 95) hx hb dX3_levelOf_1 (by decide) (by rw [c7]; decide) (by decide) ?_
    refine lv_iconst (pc := 96) (v := 2) hx hb dX3_levelOf_96 (by decide) ?_
    exact zens_i fin hf hW dX3_levelOf_97
  have hf := zf c7 hf
  by_cases c8 : p1 = 61
  · have hf := zt c8 hf
    refine lv_lookup (pc := 1) (tgt := 96) (off := 95) hx hb dX3_levelOf_1 (by decide) (by rw [c8]; decide) (by decide) ?_
    refine lv_iconst (pc := 96) (v := 2) hx hb dX3_levelOf_96 (by decide) ?_
    exact zens_i fin hf hW dX3_levelOf_97
  have hf := zf c8 hf
  by_cases c9 : p1 = 62
  · have hf := zt c9 hf
    refine lv_lookup (pc := 1) (tgt := 96) (off := 95) hx hb dX3_levelOf_1 (by decide) (by rw [c9]; decide) (by decide) ?_
    refine lv_iconst (pc := 96) (v := 2) hx hb dX3_levelOf_96 (by decide) ?_
    exact zens_i fin hf hW dX3_levelOf_97
  have hf := zf c9 hf
  by_cases c10 : p1 = 124
  · have hf := zt c10 hf
    refine lv_lookup (pc := 1) (tgt := 92) (off := 91) hx hb dX3_levelOf_1 (by decide) (by rw [c10]; decide) (by decide) ?_
    refine lv_iconst (pc := 92) (v := 0) hx hb dX3_levelOf_92 (by decide) ?_
    exact zens_i fin hf hW dX3_levelOf_93
  have hf := zf c10 hf
  refine lv_lookup (pc := 1) (tgt := 102) (off := 101) hx hb dX3_levelOf_1 (by decide) (zlook _ _ _ (List.forall_mem_cons.mpr ⟨zlk c1 (by decide), (List.forall_mem_cons.mpr ⟨zlk c2 (by decide), (List.forall_mem_cons.mpr ⟨zlk c3 (by decide), (List.forall_mem_cons.mpr ⟨zlk c4 (by decide), (List.forall_mem_cons.mpr ⟨zlk c5 (by decide), (List.forall_mem_cons.mpr ⟨zlk c6 (by decide), (List.forall_mem_cons.mpr ⟨zlk c7 (by decide), (List.forall_mem_cons.mpr ⟨zlk c8 (by decide), (List.forall_mem_cons.mpr ⟨zlk c9 (by decide), (List.forall_mem_cons.mpr ⟨zlk c10 (by decide), (fun _ h => absurd h List.not_mem_nil)⟩)⟩)⟩)⟩)⟩)⟩)⟩)⟩)⟩)⟩)) (by decide) ?_
  refine lv_iconst (pc := 102) (v := (-1)) hx hb dX3_levelOf_102 (by decide) ?_
  exact zens_i fin hf hW dX3_levelOf_103

def fX10_seesDigit (S : zSt) : Option (Int32 × zSt) :=
  zB (fX10_seen S) fun r1 S2 => if r1 < 48 then (some (0, S2)) else (if 57 < r1 then (some (0, S2)) else (some (1, S2)))
abbrev wX10_seesDigit : List Cond := Cond.code yX10_seesDigit cX10_seesDigit 2 (some .boolean) :: waX
abbrev rmX10_seesDigit : Room := { frames := 1, cells := 0, slots := 0, locals := 20 }
set_option maxHeartbeats 4000000 in
set_option maxRecDepth 100000 in
theorem kX10_seesDigit (l : Launch) (D : va_G) (cA : Nat → ClassId) (h tt : Nat → Nat) (sz : Nat)   (S : zSt) (r : Int32) (S1 : zSt) (hf : fX10_seesDigit S = some (r, S1)) : zMi l yX10_seesDigit wX10_seesDigit rmX10_seesDigit (zEX tt) D (tX cA) (hsX h) [.ref (h 10)] (wX cA h S) (wX cA h S1) sz r := by
  refine zEn_z (cc := cX10_seesDigit) (maxL := 2) (own := RX10) (by decide) rfl rfl (hmX cA h S) (Nat.le_of_ble_eq_true rfl) ?_
  intro p e s m args below meth c Q H locs C0 hW fin ls hl
  have hl : lv_has ls 2 [(0, .ref (h 10))] := hl
  have hx := C0.1
  have hb := C0.2.1
  have hown := C0.2.2.2.1
  have hts := C0.2.2.2.2
  unfold fX10_seesDigit at hf
  refine lv_aload_n (pc := 0) hx hb dX10_seesDigit_0 rfl (lv_at hl 0 rfl) ?_
  obtain ⟨r1, S2, e3, hf⟩ := zB_e hf
  refine zcVi (zEX_ok tt) (As := []) (pc := 1) C0 hW (kX10_seen l D cA h tt H.size S r1 S2 e3) (cwV 0 hts (zgV gaX mX_342 mX_328 mX_329 mX_330 mX_331) rfl rfl rfl (by decide +kernel) ⟨Nat.le_of_ble_eq_true rfl, Nat.le_of_ble_eq_true rfl⟩) (va_recv hW.1 hW.2.1 (ci := 10) (q0 := 10) rfl rfl) rfl hl.1 rfl (Nat.le_of_ble_eq_true rfl) dX10_seesDigit_1 (fun H locs hW => ?_)
  refine lv_istore_n (pc := 4) (lv' := [(1, .int r1), (0, .ref (h 10))]) hx hb dX10_seesDigit_4 rfl hl (by decide) rfl (fun ls hl => ?_)
  refine lv_iload_n (pc := 5) hx hb dX10_seesDigit_5 rfl (lv_at hl 0 rfl) ?_
  refine lv_bipush (pc := 6) (v := 48) hx hb dX10_seesDigit_6 (by decide) ?_
  refine lv_icmp_lt (pc := 8) (tgt := 21) hx hb dX10_seesDigit_8 (by decide) (fun c4 => ?_) (fun c4 => ?_)
  · have hf := zt c4 hf
    refine lv_iconst (pc := 21) (v := 0) hx hb dX10_seesDigit_21 (by decide) ?_
    exact zend_z (w := wX cA h) fin hf (by decide) hW dX10_seesDigit_22
  · have hf := zf c4 hf
    refine lv_iload_n (pc := 11) hx hb dX10_seesDigit_11 rfl (lv_at hl 0 rfl) ?_
    refine lv_bipush (pc := 12) (v := 57) hx hb dX10_seesDigit_12 (by decide) ?_
    refine lv_icmp_gt (pc := 14) (tgt := 21) hx hb dX10_seesDigit_14 (by decide) (fun c5 => ?_) (fun c5 => ?_)
    · have hf := zt c5 hf
      refine lv_iconst (pc := 21) (v := 0) hx hb dX10_seesDigit_21 (by decide) ?_
      exact zend_z (w := wX cA h) fin hf (by decide) hW dX10_seesDigit_22
    · have hf := zf c5 hf
      refine lv_iconst (pc := 17) (v := 1) hx hb dX10_seesDigit_17 (by decide) ?_
      refine lv_goto (pc := 18) (tgt := 22) hx hb dX10_seesDigit_18 (by decide) ?_
      exact zend_z (w := wX cA h) fin hf (by decide) hW dX10_seesDigit_22

def fX10_digit (S : zSt) : Option (Int32 × zSt) :=
  zB (fX10_seen S) fun r1 S2 => if r1 < 48 then (some ((-1), S2)) else (if r1 ≤ 57 then (zL (zI S2 1102 ((S2.1 1102) + 1)) fun S6 => some ((r1 - 48), S6)) else (some ((-1), S2)))
abbrev wX10_digit : List Cond := Cond.code yX10_digit cX10_digit 2 (some .int) :: waX
abbrev rmX10_digit : Room := { frames := 1, cells := 0, slots := 0, locals := 20 }
set_option maxHeartbeats 4000000 in
set_option maxRecDepth 100000 in
theorem kX10_digit (l : Launch) (D : va_G) (cA : Nat → ClassId) (h tt : Nat → Nat) (sz : Nat)   (S : zSt) (r : Int32) (S1 : zSt) (hf : fX10_digit S = some (r, S1)) : zMi l yX10_digit wX10_digit rmX10_digit (zEX tt) D (tX cA) (hsX h) [.ref (h 10)] (wX cA h S) (wX cA h S1) sz r := by
  refine zEn_i (cc := cX10_digit) (maxL := 2) (own := RX10) (by decide) rfl rfl (hmX cA h S) (Nat.le_of_ble_eq_true rfl) ?_
  intro p e s m args below meth c Q H locs C0 hW fin ls hl
  have hl : lv_has ls 2 [(0, .ref (h 10))] := hl
  have hx := C0.1
  have hb := C0.2.1
  have hown := C0.2.2.2.1
  have hts := C0.2.2.2.2
  unfold fX10_digit at hf
  refine lv_aload_n (pc := 0) hx hb dX10_digit_0 rfl (lv_at hl 0 rfl) ?_
  obtain ⟨r1, S2, e3, hf⟩ := zB_e hf
  refine zcVi (zEX_ok tt) (As := []) (pc := 1) C0 hW (kX10_seen l D cA h tt H.size S r1 S2 e3) (cwV 0 hts (zgV gaX mX_342 mX_328 mX_329 mX_330 mX_331) rfl rfl rfl (by decide +kernel) ⟨Nat.le_of_ble_eq_true rfl, Nat.le_of_ble_eq_true rfl⟩) (va_recv hW.1 hW.2.1 (ci := 10) (q0 := 10) rfl rfl) rfl hl.1 rfl (Nat.le_of_ble_eq_true rfl) dX10_digit_1 (fun H locs hW => ?_)
  refine lv_istore_n (pc := 4) (lv' := [(1, .int r1), (0, .ref (h 10))]) hx hb dX10_digit_4 rfl hl (by decide) rfl (fun ls hl => ?_)
  refine lv_iload_n (pc := 5) hx hb dX10_digit_5 rfl (lv_at hl 0 rfl) ?_
  refine lv_bipush (pc := 6) (v := 48) hx hb dX10_digit_6 (by decide) ?_
  refine lv_icmp_lt (pc := 8) (tgt := 17) hx hb dX10_digit_8 (by decide) (fun c4 => ?_) (fun c4 => ?_)
  · have hf := zt c4 hf
    refine lv_iconst (pc := 17) (v := (-1)) hx hb dX10_digit_17 (by decide) ?_
    exact zend_i (w := wX cA h) fin hf hW dX10_digit_18
  · have hf := zf c4 hf
    refine lv_iload_n (pc := 11) hx hb dX10_digit_11 rfl (lv_at hl 0 rfl) ?_
    refine lv_bipush (pc := 12) (v := 57) hx hb dX10_digit_12 (by decide) ?_
    refine lv_icmp_le (pc := 14) (tgt := 19) hx hb dX10_digit_14 (by decide) (fun c5 => ?_) (fun c5 => ?_)
    · have hf := zt c5 hf
      refine lv_aload_n (pc := 19) hx hb dX10_digit_19 rfl (lv_at hl 1 rfl) ?_
      refine lv_dup (pc := 20) hx hb dX10_digit_20 rfl ?_
      refine xg_1102 (pc := 21) C0 hu_10 hW mX_332 dX10_digit_21 ?_
      refine lv_iconst (pc := 24) (v := 1) hx hb dX10_digit_24 (by decide) ?_
      refine lv_iadd (pc := 25) hx hb dX10_digit_25 ?_
      obtain ⟨S6, e_S6, hf⟩ := zL_e hf
      refine xp_1102 (pc := 26) C0 hu_10 hW mX_332 e_S6 dX10_digit_26 (fun H locs hW => ?_)
      refine lv_iload_n (pc := 29) hx hb dX10_digit_29 rfl (lv_at hl 0 rfl) ?_
      refine lv_bipush (pc := 30) (v := 48) hx hb dX10_digit_30 (by decide) ?_
      refine lv_isub (pc := 32) hx hb dX10_digit_32 ?_
      exact zend_i (w := wX cA h) fin hf hW dX10_digit_33
    · have hf := zf c5 hf
      refine lv_iconst (pc := 17) (v := (-1)) hx hb dX10_digit_17 (by decide) ?_
      exact zend_i (w := wX cA h) fin hf hW dX10_digit_18

def fX3_readNumber_b38 (N : Nat) (v1 : Int32) (S : zSt) : Option zSt :=
  zU (fX3_make v1 S) fun S2 => some S2
def fX3_readNumber_b4 (N : Nat) : Nat → Int32 → Int32 → zSt → Option zSt
  | 0, _, _, _ => none
  | n + 1, v1, v2, S =>
    if 4 ≤ v2 then (fX3_readNumber_b38 N v1 S) else (zB (fX10_seesDigit S) fun r5 S6 => if r5 = 0 then (fX3_readNumber_b38 N v1 S6) else (zB (fX10_digit S6) fun r9 S10 => fX3_readNumber_b4 N n ((10 * v1) + r9) (v2 + 1) S10))
def fX3_readNumber (N : Nat) (S : zSt) : Option zSt :=
  fX3_readNumber_b4 N N 0 0 S
abbrev wX3_readNumber : List Cond := Cond.code yX3_readNumber cX3_readNumber 3 none :: waX
abbrev rmX3_readNumber : Room := { frames := 2, cells := 0, slots := 0, locals := 41 }
set_option maxHeartbeats 4000000 in
set_option maxRecDepth 100000 in
theorem kX3_readNumber (l : Launch) (D : va_G) (cA : Nat → ClassId) (h tt : Nat → Nat) (sz : Nat) (N : Nat)   (S : zSt) (S1 : zSt) (hf : fX3_readNumber N S = some S1) : zMv l yX3_readNumber wX3_readNumber rmX3_readNumber (zEX tt) D (tX cA) (hsX h) [.ref (h 3)] (wX cA h S) (wX cA h S1) sz := by
  refine zEn_v (cc := cX3_readNumber) (maxL := 3) (own := RX3) (by decide) rfl rfl (hmX cA h S) (Nat.le_of_ble_eq_true rfl) ?_
  intro p e s m args below meth c Q H locs C0 hW fin ls hl
  have hl : lv_has ls 3 [(0, .ref (h 3))] := hl
  have hx := C0.1
  have hb := C0.2.1
  have hown := C0.2.2.2.1
  have hts := C0.2.2.2.2
  have w38 : ∀ (v1 : Int32) (S : zSt) (H : Heap) (locs : List Loc), zW (zEX tt) D (tX cA) (wX cA h S) (aW (hsX h) s.heap.size) s H locs → ∀ ls : Array Slot, lv_has ls 3 [(0, .ref (h 3)), (1, .int v1)] → fX3_readNumber_b38 N v1 S = some S1 → W p l e rmX3_readNumber s m args below meth c H locs 0 0 Q (F0 m 38 ls []) := by
    intro v1 S H locs hW ls hl hf
    unfold fX3_readNumber_b38 at hf
    refine lv_aload_n (pc := 38) hx hb dX3_readNumber_38 rfl (lv_at hl 0 rfl) ?_
    refine lv_iload_n (pc := 39) hx hb dX3_readNumber_39 rfl (lv_at hl 1 rfl) ?_
    obtain ⟨S2, e3, hf⟩ := zU_e hf
    refine zcVv (zEX_ok tt) (As := [.int v1]) (pc := 40) C0 hW (kX3_make l D cA h tt H.size v1 S S2 e3) (cwV 1 hts (zgV gaX mX_343 mX_344 mX_345 mX_318 mX_346) rfl rfl rfl (by decide +kernel) ⟨Nat.le_of_ble_eq_true rfl, Nat.le_of_ble_eq_true rfl⟩) (va_recv hW.1 hW.2.1 (ci := 3) (q0 := 3) rfl rfl) rfl hl.1 rfl (Nat.le_of_ble_eq_true rfl) dX3_readNumber_40 (fun H locs hW => ?_)
    exact zend_v (w := wX cA h) fin hf hW dX3_readNumber_43
  have w4 : ∀ (n : Nat), ∀ (v1 : Int32) (v2 : Int32) (S : zSt) (H : Heap) (locs : List Loc), zW (zEX tt) D (tX cA) (wX cA h S) (aW (hsX h) s.heap.size) s H locs → ∀ ls : Array Slot, lv_has ls 3 [(0, .ref (h 3)), (1, .int v1), (2, .int v2)] → fX3_readNumber_b4 N n v1 v2 S = some S1 → W p l e rmX3_readNumber s m args below meth c H locs 0 0 Q (F0 m 4 ls []) := by
    intro n
    induction n with
    | zero =>
      intro v1 v2 S H locs hW ls hl hf
      exact absurd hf (by intro h; cases h)
    | succ n ih =>
      intro v1 v2 S H locs hW ls hl hf
      rw [fX3_readNumber_b4] at hf
      refine lv_iload_n (pc := 4) hx hb dX3_readNumber_4 rfl (lv_at hl 2 rfl) ?_
      refine lv_iconst (pc := 5) (v := 4) hx hb dX3_readNumber_5 (by decide) ?_
      refine lv_icmp_ge (pc := 6) (tgt := 38) hx hb dX3_readNumber_6 (by decide) (fun c4 => ?_) (fun c4 => ?_)
      · have hf := zt c4 hf
        exact w38 v1 S H locs hW ls (lv_sub hl [0, 1] rfl) hf
      · have hf := zf c4 hf
        refine lv_aload_n (pc := 9) hx hb dX3_readNumber_9 rfl (lv_at hl 0 rfl) ?_
        refine xg_400 (pc := 10) C0 hu_3 hW mX_312 dX3_readNumber_10 ?_
        obtain ⟨r5, S6, e7, hf⟩ := zB_e hf
        refine zcVi (zEX_ok tt) (As := []) (pc := 13) C0 hW (kX10_seesDigit l D cA h tt H.size S r5 S6 e7) (cwV 0 hts (zgV gaX mX_348 mX_349 mX_350 mX_330 mX_351) rfl rfl rfl (by decide +kernel) ⟨Nat.le_of_ble_eq_true rfl, Nat.le_of_ble_eq_true rfl⟩) (va_recv hW.1 hW.2.1 (ci := 10) (q0 := 10) rfl rfl) rfl hl.1 rfl (Nat.le_of_ble_eq_true rfl) dX3_readNumber_13 (fun H locs hW => ?_)
        refine lv_if_eq (pc := 16) (tgt := 38) hx hb dX3_readNumber_16 (by decide) (fun c8 => ?_) (fun c8 => ?_)
        · have hf := zt c8 hf
          exact w38 v1 S6 H locs hW ls (lv_sub hl [0, 1] rfl) hf
        · have hf := zf c8 hf
          refine lv_bipush (pc := 19) (v := 10) hx hb dX3_readNumber_19 (by decide) ?_
          refine lv_iload_n (pc := 21) hx hb dX3_readNumber_21 rfl (lv_at hl 1 rfl) ?_
          refine lv_imul (pc := 22) hx hb dX3_readNumber_22 ?_
          refine lv_aload_n (pc := 23) hx hb dX3_readNumber_23 rfl (lv_at hl 0 rfl) ?_
          refine xg_400 (pc := 24) C0 hu_3 hW mX_312 dX3_readNumber_24 ?_
          obtain ⟨r9, S10, e11, hf⟩ := zB_e hf
          refine zcVi (zEX_ok tt) (As := []) (pc := 27) C0 hW (kX10_digit l D cA h tt H.size S6 r9 S10 e11) (cwV 0 hts (zgV gaX mX_356 mX_357 mX_358 mX_330 mX_359) rfl rfl rfl (by decide +kernel) ⟨Nat.le_of_ble_eq_true rfl, Nat.le_of_ble_eq_true rfl⟩) (va_recv hW.1 hW.2.1 (ci := 10) (q0 := 10) rfl rfl) rfl hl.1 rfl (Nat.le_of_ble_eq_true rfl) dX3_readNumber_27 (fun H locs hW => ?_)
          refine lv_iadd (pc := 30) hx hb dX3_readNumber_30 ?_
          refine lv_istore_n (pc := 31) (lv' := [(1, .int ((10 * v1) + r9)), (0, .ref (h 3)), (2, .int v2)]) hx hb dX3_readNumber_31 rfl hl (by decide) rfl (fun ls hl => ?_)
          refine lv_iinc (pc := 32) (v := (v2 + 1)) (lv' := [(2, .int (v2 + 1)), (1, .int ((10 * v1) + r9)), (0, .ref (h 3))]) hx hb dX3_readNumber_32 hl (k := 2) rfl (by rfl) (by decide) rfl (fun ls hl => ?_)
          refine lv_goto (pc := 35) (tgt := 4) hx hb dX3_readNumber_35 (by decide) ?_
          exact ih ((10 * v1) + r9) (v2 + 1) S10 H locs hW ls (lv_sub hl [2, 1, 0] rfl) hf
  unfold fX3_readNumber at hf
  refine lv_iconst (pc := 0) (v := 0) hx hb dX3_readNumber_0 (by decide) ?_
  refine lv_istore_n (pc := 1) (lv' := [(1, .int 0), (0, .ref (h 3))]) hx hb dX3_readNumber_1 rfl hl (by decide) rfl (fun ls hl => ?_)
  refine lv_iconst (pc := 2) (v := 0) hx hb dX3_readNumber_2 (by decide) ?_
  refine lv_istore_n (pc := 3) (lv' := [(2, .int 0), (1, .int 0), (0, .ref (h 3))]) hx hb dX3_readNumber_3 rfl hl (by decide) rfl (fun ls hl => ?_)
  exact w4 N 0 0 S H locs hW ls (lv_sub hl [2, 1, 0] rfl) hf

def fX3_readSigned_o (G : (Int32 → Int32 → zSt → Option (Int32 × zSt)) × (Int32 → Int32 → zSt → Option (Int32 × zSt)) × (Int32 → zSt → Option (Int32 × zSt)) × (Int32 → Int32 → zSt → Option (Int32 × zSt))) (N : Nat) (p1 : Int32) (p2 : Int32) (S : zSt) : Option (Int32 × zSt) :=
  zB (G.2.2.1 (p2 + 1) S) fun r1 S2 => if r1 = 0 then (some (0, S2)) else (zU (fX3_make (-p1) S2) fun S6 => some (1, S6))
set_option maxHeartbeats 4000000 in
set_option maxRecDepth 100000 in
theorem kX3_readSigned_o (l : Launch) (D : va_G) (cA : Nat → ClassId) (h tt : Nat → Nat) (sz : Nat) (N : Nat) (g : Nat) (G : (Int32 → Int32 → zSt → Option (Int32 × zSt)) × (Int32 → Int32 → zSt → Option (Int32 × zSt)) × (Int32 → zSt → Option (Int32 × zSt)) × (Int32 → Int32 → zSt → Option (Int32 × zSt))) (hG_readChain : ∀ (sz : Nat) (p1 : Int32) (p2 : Int32) (S : zSt) (r : Int32) (S1 : zSt), G.1 p1 p2 S = some (r, S1) → zMi l yX3_readChain wX3_readChain (zRm g) (zEX tt) D (tX cA) (hsX h) [.ref (h 3), .int p1, .int p2] (wX cA h S) (wX cA h S1) sz r) (hG_readPart : ∀ (sz : Nat) (p1 : Int32) (p2 : Int32) (S : zSt) (r : Int32) (S1 : zSt), G.2.1 p1 p2 S = some (r, S1) → zMi l yX3_readPart wX3_readPart (zRm g) (zEX tt) D (tX cA) (hsX h) [.ref (h 3), .int p1, .int p2] (wX cA h S) (wX cA h S1) sz r) (hG_readOperand : ∀ (sz : Nat) (p1 : Int32) (S : zSt) (r : Int32) (S1 : zSt), G.2.2.1 p1 S = some (r, S1) → zMi l yX3_readOperand wX3_readOperand (zRm g) (zEX tt) D (tX cA) (hsX h) [.ref (h 3), .int p1] (wX cA h S) (wX cA h S1) sz r) (hG_readSigned : ∀ (sz : Nat) (p1 : Int32) (p2 : Int32) (S : zSt) (r : Int32) (S1 : zSt), G.2.2.2 p1 p2 S = some (r, S1) → zMi l yX3_readSigned wX3_readSigned (zRm g) (zEX tt) D (tX cA) (hsX h) [.ref (h 3), .int p1, .int p2] (wX cA h S) (wX cA h S1) sz r)  (p1 : Int32) (p2 : Int32) (S : zSt) (r : Int32) (S1 : zSt) (hf : fX3_readSigned_o G N p1 p2 S = some (r, S1)) : zMi l yX3_readSigned wX3_readSigned (zRm (g + 1)) (zEX tt) D (tX cA) (hsX h) [.ref (h 3), .int p1, .int p2] (wX cA h S) (wX cA h S1) sz r := by
  refine zEn_z (cc := cX3_readSigned) (maxL := 3) (own := RX3) (by decide) rfl rfl (hmX cA h S) (Nat.le_of_ble_eq_true rfl) ?_
  intro p e s m args below meth c Q H locs C0 hW fin ls hl
  have hl : lv_has ls 3 [(0, .ref (h 3)), (1, .int p1), (2, .int p2)] := hl
  have hx := C0.1
  have hb := C0.2.1
  have hown := C0.2.2.2.1
  have hts := C0.2.2.2.2
  unfold fX3_readSigned_o at hf
  refine lv_aload_n (pc := 0) hx hb dX3_readSigned_0 rfl (lv_at hl 0 rfl) ?_
  refine lv_iload_n (pc := 1) hx hb dX3_readSigned_1 rfl (lv_at hl 2 rfl) ?_
  refine lv_iconst (pc := 2) (v := 1) hx hb dX3_readSigned_2 (by decide) ?_
  refine lv_iadd (pc := 3) hx hb dX3_readSigned_3 ?_
  obtain ⟨r1, S2, e3, hf⟩ := zB_e hf
  refine zcVi (zEX_ok tt) (As := [.int (p2 + 1)]) (pc := 4) C0 hW (hG_readOperand H.size (p2 + 1) S r1 S2 e3) (cwV 1 hts (zgV gaX mX_364 mX_365 mX_366 mX_318 mX_347) rfl rfl rfl (by decide +kernel) (zRm_up g (Nat.le_of_ble_eq_true rfl))) (va_recv hW.1 hW.2.1 (ci := 3) (q0 := 3) rfl rfl) rfl hl.1 rfl (Nat.le_of_ble_eq_true rfl) dX3_readSigned_4 (fun H locs hW => ?_)
  refine lv_if_ne (pc := 7) (tgt := 12) hx hb dX3_readSigned_7 (by decide) (fun c4 => ?_) (fun c4 => ?_)
  · have hf := zf c4 hf
    refine lv_aload_n (pc := 12) hx hb dX3_readSigned_12 rfl (lv_at hl 0 rfl) ?_
    refine lv_iload_n (pc := 13) hx hb dX3_readSigned_13 rfl (lv_at hl 1 rfl) ?_
    refine lv_ineg (pc := 14) hx hb dX3_readSigned_14 ?_
    obtain ⟨S6, e7, hf⟩ := zU_e hf
    refine zcVv (zEX_ok tt) (As := [.int (-p1)]) (pc := 15) C0 hW (kX3_make l D cA h tt H.size (-p1) S2 S6 e7) (cwV 1 hts (zgV gaX mX_343 mX_344 mX_345 mX_318 mX_346) rfl rfl rfl (by decide +kernel) (zRm_k g (Nat.le_of_ble_eq_true rfl) (Nat.le_of_ble_eq_true rfl))) (va_recv hW.1 hW.2.1 (ci := 3) (q0 := 3) rfl rfl) rfl hl.1 rfl (Nat.le_of_ble_eq_true rfl) dX3_readSigned_15 (fun H locs hW => ?_)
    refine lv_iconst (pc := 18) (v := 1) hx hb dX3_readSigned_18 (by decide) ?_
    exact zend_z (w := wX cA h) fin hf (by decide) hW dX3_readSigned_19
  · have hf := zt c4 hf
    refine lv_iconst (pc := 10) (v := 0) hx hb dX3_readSigned_10 (by decide) ?_
    exact zend_z (w := wX cA h) fin hf (by decide) hW dX3_readSigned_11

def fX3_readOperand_b48 (G : (Int32 → Int32 → zSt → Option (Int32 × zSt)) × (Int32 → Int32 → zSt → Option (Int32 × zSt)) × (Int32 → zSt → Option (Int32 × zSt)) × (Int32 → Int32 → zSt → Option (Int32 × zSt))) (N : Nat) (v2 : Int32) (S : zSt) : Option (Int32 × zSt) :=
  zB (fX10_pass v2 S) fun r1 S2 => zU (fX3_make (-v2) S2) fun S5 => some (1, S5)
def fX3_readOperand_o (G : (Int32 → Int32 → zSt → Option (Int32 × zSt)) × (Int32 → Int32 → zSt → Option (Int32 × zSt)) × (Int32 → zSt → Option (Int32 × zSt)) × (Int32 → Int32 → zSt → Option (Int32 × zSt))) (N : Nat) (p1 : Int32) (S : zSt) : Option (Int32 × zSt) :=
  zB (fX10_seesDigit S) fun r7 S8 => if r7 = 0 then (zB (fX10_seen S8) fun r11 S12 => if r11 = 104 then (fX3_readOperand_b48 G N r11 S12) else (if r11 = 99 then (fX3_readOperand_b48 G N r11 S12) else (if r11 = 114 then (fX3_readOperand_b48 G N r11 S12) else (if r11 = 105 then (fX3_readOperand_b48 G N r11 S12) else (if p1 < 6 then (zB (fX10_pass 40 S12) fun r19 S20 => if r19 = 0 then (zB (fX10_pass 33 S20) fun r23 S24 => if r23 = 0 then (zB (fX10_pass 45 S24) fun r27 S28 => if r27 = 0 then (some (0, S28)) else (zB (G.2.2.2 126 p1 S28) fun r31 S32 => if r31 = 0 then (some (0, S32)) else (some (1, S32)))) else (zB (G.2.2.2 33 p1 S24) fun r35 S36 => if zbit r35 then some (r35, S36) else none)) else (zB (G.1 0 (p1 + 1) S20) fun r39 S40 => if r39 = 0 then (some (0, S40)) else (zB (fX10_pass 41 S40) fun r43 S44 => if r43 = 0 then (some (0, S44)) else (some (1, S44))))) else (some (0, S12))))))) else (zU (fX3_readNumber N S8) fun S48 => some (1, S48))
set_option maxHeartbeats 4000000 in
set_option maxRecDepth 100000 in
theorem kX3_readOperand_o (l : Launch) (D : va_G) (cA : Nat → ClassId) (h tt : Nat → Nat) (sz : Nat) (N : Nat) (g : Nat) (G : (Int32 → Int32 → zSt → Option (Int32 × zSt)) × (Int32 → Int32 → zSt → Option (Int32 × zSt)) × (Int32 → zSt → Option (Int32 × zSt)) × (Int32 → Int32 → zSt → Option (Int32 × zSt))) (hG_readChain : ∀ (sz : Nat) (p1 : Int32) (p2 : Int32) (S : zSt) (r : Int32) (S1 : zSt), G.1 p1 p2 S = some (r, S1) → zMi l yX3_readChain wX3_readChain (zRm g) (zEX tt) D (tX cA) (hsX h) [.ref (h 3), .int p1, .int p2] (wX cA h S) (wX cA h S1) sz r) (hG_readPart : ∀ (sz : Nat) (p1 : Int32) (p2 : Int32) (S : zSt) (r : Int32) (S1 : zSt), G.2.1 p1 p2 S = some (r, S1) → zMi l yX3_readPart wX3_readPart (zRm g) (zEX tt) D (tX cA) (hsX h) [.ref (h 3), .int p1, .int p2] (wX cA h S) (wX cA h S1) sz r) (hG_readOperand : ∀ (sz : Nat) (p1 : Int32) (S : zSt) (r : Int32) (S1 : zSt), G.2.2.1 p1 S = some (r, S1) → zMi l yX3_readOperand wX3_readOperand (zRm g) (zEX tt) D (tX cA) (hsX h) [.ref (h 3), .int p1] (wX cA h S) (wX cA h S1) sz r) (hG_readSigned : ∀ (sz : Nat) (p1 : Int32) (p2 : Int32) (S : zSt) (r : Int32) (S1 : zSt), G.2.2.2 p1 p2 S = some (r, S1) → zMi l yX3_readSigned wX3_readSigned (zRm g) (zEX tt) D (tX cA) (hsX h) [.ref (h 3), .int p1, .int p2] (wX cA h S) (wX cA h S1) sz r)  (p1 : Int32) (S : zSt) (r : Int32) (S1 : zSt) (hf : fX3_readOperand_o G N p1 S = some (r, S1)) : zMi l yX3_readOperand wX3_readOperand (zRm (g + 1)) (zEX tt) D (tX cA) (hsX h) [.ref (h 3), .int p1] (wX cA h S) (wX cA h S1) sz r := by
  refine zEn_z (cc := cX3_readOperand) (maxL := 3) (own := RX3) (by decide) rfl rfl (hmX cA h S) (Nat.le_of_ble_eq_true rfl) ?_
  intro p e s m args below meth c Q H locs C0 hW fin ls hl
  have hl : lv_has ls 3 [(0, .ref (h 3)), (1, .int p1)] := hl
  have hx := C0.1
  have hb := C0.2.1
  have hown := C0.2.2.2.1
  have hts := C0.2.2.2.2
  have w48 : ∀ (v2 : Int32) (S : zSt) (H : Heap) (locs : List Loc), zW (zEX tt) D (tX cA) (wX cA h S) (aW (hsX h) s.heap.size) s H locs → ∀ ls : Array Slot, lv_has ls 3 [(0, .ref (h 3)), (2, .int v2)] → fX3_readOperand_b48 G N v2 S = some (r, S1) → W p l e (zRm (g + 1)) s m args below meth c H locs 0 0 Q (F0 m 48 ls []) := by
    intro v2 S H locs hW ls hl hf
    unfold fX3_readOperand_b48 at hf
    refine lv_aload_n (pc := 48) hx hb dX3_readOperand_48 rfl (lv_at hl 0 rfl) ?_
    refine xg_400 (pc := 49) C0 hu_3 hW mX_312 dX3_readOperand_49 ?_
    refine lv_iload_n (pc := 52) hx hb dX3_readOperand_52 rfl (lv_at hl 1 rfl) ?_
    obtain ⟨r1, S2, e3, hf⟩ := zB_e hf
    refine zcVi (zEX_ok tt) (As := [.int v2]) (pc := 53) C0 hW (kX10_pass l D cA h tt H.size v2 S r1 S2 e3) (cwV 1 hts (zgV gaX mX_338 mX_339 mX_340 mX_330 mX_341) rfl rfl rfl (by decide +kernel) (zRm_k g (Nat.le_of_ble_eq_true rfl) (Nat.le_of_ble_eq_true rfl))) (va_recv hW.1 hW.2.1 (ci := 10) (q0 := 10) rfl rfl) rfl hl.1 rfl (Nat.le_of_ble_eq_true rfl) dX3_readOperand_53 (fun H locs hW => ?_)
    refine lv_pop (pc := 56) hx hb dX3_readOperand_56 rfl ?_
    refine lv_aload_n (pc := 57) hx hb dX3_readOperand_57 rfl (lv_at hl 0 rfl) ?_
    refine lv_iload_n (pc := 58) hx hb dX3_readOperand_58 rfl (lv_at hl 1 rfl) ?_
    refine lv_ineg (pc := 59) hx hb dX3_readOperand_59 ?_
    obtain ⟨S5, e6, hf⟩ := zU_e hf
    refine zcVv (zEX_ok tt) (As := [.int (-v2)]) (pc := 60) C0 hW (kX3_make l D cA h tt H.size (-v2) S2 S5 e6) (cwV 1 hts (zgV gaX mX_343 mX_344 mX_345 mX_318 mX_346) rfl rfl rfl (by decide +kernel) (zRm_k g (Nat.le_of_ble_eq_true rfl) (Nat.le_of_ble_eq_true rfl))) (va_recv hW.1 hW.2.1 (ci := 3) (q0 := 3) rfl rfl) rfl hl.1 rfl (Nat.le_of_ble_eq_true rfl) dX3_readOperand_60 (fun H locs hW => ?_)
    refine lv_iconst (pc := 63) (v := 1) hx hb dX3_readOperand_63 (by decide) ?_
    exact zend_z (w := wX cA h) fin hf (by decide) hW dX3_readOperand_64
  unfold fX3_readOperand_o at hf
  refine lv_aload_n (pc := 0) hx hb dX3_readOperand_0 rfl (lv_at hl 0 rfl) ?_
  refine xg_400 (pc := 1) C0 hu_3 hW mX_312 dX3_readOperand_1 ?_
  obtain ⟨r7, S8, e9, hf⟩ := zB_e hf
  refine zcVi (zEX_ok tt) (As := []) (pc := 4) C0 hW (kX10_seesDigit l D cA h tt H.size S r7 S8 e9) (cwV 0 hts (zgV gaX mX_348 mX_349 mX_350 mX_330 mX_351) rfl rfl rfl (by decide +kernel) (zRm_k g (Nat.le_of_ble_eq_true rfl) (Nat.le_of_ble_eq_true rfl))) (va_recv hW.1 hW.2.1 (ci := 10) (q0 := 10) rfl rfl) rfl hl.1 rfl (Nat.le_of_ble_eq_true rfl) dX3_readOperand_4 (fun H locs hW => ?_)
  refine lv_if_eq (pc := 7) (tgt := 16) hx hb dX3_readOperand_7 (by decide) (fun c10 => ?_) (fun c10 => ?_)
  · have hf := zt c10 hf
    refine lv_aload_n (pc := 16) hx hb dX3_readOperand_16 rfl (lv_at hl 0 rfl) ?_
    refine xg_400 (pc := 17) C0 hu_3 hW mX_312 dX3_readOperand_17 ?_
    obtain ⟨r11, S12, e13, hf⟩ := zB_e hf
    refine zcVi (zEX_ok tt) (As := []) (pc := 20) C0 hW (kX10_seen l D cA h tt H.size S8 r11 S12 e13) (cwV 0 hts (zgV gaX mX_327 mX_328 mX_329 mX_330 mX_331) rfl rfl rfl (by decide +kernel) (zRm_k g (Nat.le_of_ble_eq_true rfl) (Nat.le_of_ble_eq_true rfl))) (va_recv hW.1 hW.2.1 (ci := 10) (q0 := 10) rfl rfl) rfl hl.1 rfl (Nat.le_of_ble_eq_true rfl) dX3_readOperand_20 (fun H locs hW => ?_)
    refine lv_istore_n (pc := 23) (lv' := [(2, .int r11), (0, .ref (h 3)), (1, .int p1)]) hx hb dX3_readOperand_23 rfl hl (by decide) rfl (fun ls hl => ?_)
    refine lv_iload_n (pc := 24) hx hb dX3_readOperand_24 rfl (lv_at hl 0 rfl) ?_
    refine lv_bipush (pc := 25) (v := 104) hx hb dX3_readOperand_25 (by decide) ?_
    refine lv_icmp_eq (pc := 27) (tgt := 48) hx hb dX3_readOperand_27 (by decide) (fun c14 => ?_) (fun c14 => ?_)
    · have hf := zt c14 hf
      exact w48 r11 S12 H locs hW ls (lv_sub hl [1, 0] rfl) hf
    · have hf := zf c14 hf
      refine lv_iload_n (pc := 30) hx hb dX3_readOperand_30 rfl (lv_at hl 0 rfl) ?_
      refine lv_bipush (pc := 31) (v := 99) hx hb dX3_readOperand_31 (by decide) ?_
      refine lv_icmp_eq (pc := 33) (tgt := 48) hx hb dX3_readOperand_33 (by decide) (fun c15 => ?_) (fun c15 => ?_)
      · have hf := zt c15 hf
        exact w48 r11 S12 H locs hW ls (lv_sub hl [1, 0] rfl) hf
      · have hf := zf c15 hf
        refine lv_iload_n (pc := 36) hx hb dX3_readOperand_36 rfl (lv_at hl 0 rfl) ?_
        refine lv_bipush (pc := 37) (v := 114) hx hb dX3_readOperand_37 (by decide) ?_
        refine lv_icmp_eq (pc := 39) (tgt := 48) hx hb dX3_readOperand_39 (by decide) (fun c16 => ?_) (fun c16 => ?_)
        · have hf := zt c16 hf
          exact w48 r11 S12 H locs hW ls (lv_sub hl [1, 0] rfl) hf
        · have hf := zf c16 hf
          refine lv_iload_n (pc := 42) hx hb dX3_readOperand_42 rfl (lv_at hl 0 rfl) ?_
          refine lv_bipush (pc := 43) (v := 105) hx hb dX3_readOperand_43 (by decide) ?_
          refine lv_icmp_ne (pc := 45) (tgt := 65) hx hb dX3_readOperand_45 (by decide) (fun c17 => ?_) (fun c17 => ?_)
          · have hf := zf c17 hf
            refine lv_iload_n (pc := 65) hx hb dX3_readOperand_65 rfl (lv_at hl 2 rfl) ?_
            refine lv_bipush (pc := 66) (v := 6) hx hb dX3_readOperand_66 (by decide) ?_
            refine lv_icmp_lt (pc := 68) (tgt := 73) hx hb dX3_readOperand_68 (by decide) (fun c18 => ?_) (fun c18 => ?_)
            · have hf := zt c18 hf
              refine lv_aload_n (pc := 73) hx hb dX3_readOperand_73 rfl (lv_at hl 1 rfl) ?_
              refine xg_400 (pc := 74) C0 hu_3 hW mX_312 dX3_readOperand_74 ?_
              refine lv_bipush (pc := 77) (v := 40) hx hb dX3_readOperand_77 (by decide) ?_
              obtain ⟨r19, S20, e21, hf⟩ := zB_e hf
              refine zcVi (zEX_ok tt) (As := [.int 40]) (pc := 79) C0 hW (kX10_pass l D cA h tt H.size 40 S12 r19 S20 e21) (cwV 1 hts (zgV gaX mX_338 mX_339 mX_340 mX_330 mX_341) rfl rfl rfl (by decide +kernel) (zRm_k g (Nat.le_of_ble_eq_true rfl) (Nat.le_of_ble_eq_true rfl))) (va_recv hW.1 hW.2.1 (ci := 10) (q0 := 10) rfl rfl) rfl hl.1 rfl (Nat.le_of_ble_eq_true rfl) dX3_readOperand_79 (fun H locs hW => ?_)
              refine lv_if_eq (pc := 82) (tgt := 114) hx hb dX3_readOperand_82 (by decide) (fun c22 => ?_) (fun c22 => ?_)
              · have hf := zt c22 hf
                refine lv_aload_n (pc := 114) hx hb dX3_readOperand_114 rfl (lv_at hl 1 rfl) ?_
                refine xg_400 (pc := 115) C0 hu_3 hW mX_312 dX3_readOperand_115 ?_
                refine lv_bipush (pc := 118) (v := 33) hx hb dX3_readOperand_118 (by decide) ?_
                obtain ⟨r23, S24, e25, hf⟩ := zB_e hf
                refine zcVi (zEX_ok tt) (As := [.int 33]) (pc := 120) C0 hW (kX10_pass l D cA h tt H.size 33 S20 r23 S24 e25) (cwV 1 hts (zgV gaX mX_338 mX_339 mX_340 mX_330 mX_341) rfl rfl rfl (by decide +kernel) (zRm_k g (Nat.le_of_ble_eq_true rfl) (Nat.le_of_ble_eq_true rfl))) (va_recv hW.1 hW.2.1 (ci := 10) (q0 := 10) rfl rfl) rfl hl.1 rfl (Nat.le_of_ble_eq_true rfl) dX3_readOperand_120 (fun H locs hW => ?_)
                refine lv_if_eq (pc := 123) (tgt := 134) hx hb dX3_readOperand_123 (by decide) (fun c26 => ?_) (fun c26 => ?_)
                · have hf := zt c26 hf
                  refine lv_aload_n (pc := 134) hx hb dX3_readOperand_134 rfl (lv_at hl 1 rfl) ?_
                  refine xg_400 (pc := 135) C0 hu_3 hW mX_312 dX3_readOperand_135 ?_
                  refine lv_bipush (pc := 138) (v := 45) hx hb dX3_readOperand_138 (by decide) ?_
                  obtain ⟨r27, S28, e29, hf⟩ := zB_e hf
                  refine zcVi (zEX_ok tt) (As := [.int 45]) (pc := 140) C0 hW (kX10_pass l D cA h tt H.size 45 S24 r27 S28 e29) (cwV 1 hts (zgV gaX mX_338 mX_339 mX_340 mX_330 mX_341) rfl rfl rfl (by decide +kernel) (zRm_k g (Nat.le_of_ble_eq_true rfl) (Nat.le_of_ble_eq_true rfl))) (va_recv hW.1 hW.2.1 (ci := 10) (q0 := 10) rfl rfl) rfl hl.1 rfl (Nat.le_of_ble_eq_true rfl) dX3_readOperand_140 (fun H locs hW => ?_)
                  refine lv_if_eq (pc := 143) (tgt := 160) hx hb dX3_readOperand_143 (by decide) (fun c30 => ?_) (fun c30 => ?_)
                  · have hf := zt c30 hf
                    refine lv_iconst (pc := 160) (v := 0) hx hb dX3_readOperand_160 (by decide) ?_
                    exact zend_z (w := wX cA h) fin hf (by decide) hW dX3_readOperand_161
                  · have hf := zf c30 hf
                    refine lv_aload_n (pc := 146) hx hb dX3_readOperand_146 rfl (lv_at hl 1 rfl) ?_
                    refine lv_bipush (pc := 147) (v := 126) hx hb dX3_readOperand_147 (by decide) ?_
                    refine lv_iload_n (pc := 149) hx hb dX3_readOperand_149 rfl (lv_at hl 2 rfl) ?_
                    obtain ⟨r31, S32, e33, hf⟩ := zB_e hf
                    refine zcVi (zEX_ok tt) (As := [.int 126, .int p1]) (pc := 150) C0 hW (hG_readSigned H.size 126 p1 S28 r31 S32 e33) (cwV 2 hts (zgV gaX mX_360 mX_361 mX_362 mX_318 mX_367) rfl rfl rfl (by decide +kernel) (zRm_up g (Nat.le_of_ble_eq_true rfl))) (va_recv hW.1 hW.2.1 (ci := 3) (q0 := 3) rfl rfl) rfl hl.1 rfl (Nat.le_of_ble_eq_true rfl) dX3_readOperand_150 (fun H locs hW => ?_)
                    refine lv_if_eq (pc := 153) (tgt := 160) hx hb dX3_readOperand_153 (by decide) (fun c34 => ?_) (fun c34 => ?_)
                    · have hf := zt c34 hf
                      refine lv_iconst (pc := 160) (v := 0) hx hb dX3_readOperand_160 (by decide) ?_
                      exact zend_z (w := wX cA h) fin hf (by decide) hW dX3_readOperand_161
                    · have hf := zf c34 hf
                      refine lv_iconst (pc := 156) (v := 1) hx hb dX3_readOperand_156 (by decide) ?_
                      refine lv_goto (pc := 157) (tgt := 161) hx hb dX3_readOperand_157 (by decide) ?_
                      exact zend_z (w := wX cA h) fin hf (by decide) hW dX3_readOperand_161
                · have hf := zf c26 hf
                  refine lv_aload_n (pc := 126) hx hb dX3_readOperand_126 rfl (lv_at hl 1 rfl) ?_
                  refine lv_bipush (pc := 127) (v := 33) hx hb dX3_readOperand_127 (by decide) ?_
                  refine lv_iload_n (pc := 129) hx hb dX3_readOperand_129 rfl (lv_at hl 2 rfl) ?_
                  obtain ⟨r35, S36, e37, hf⟩ := zB_e hf
                  refine zcVi (zEX_ok tt) (As := [.int 33, .int p1]) (pc := 130) C0 hW (hG_readSigned H.size 33 p1 S24 r35 S36 e37) (cwV 2 hts (zgV gaX mX_360 mX_361 mX_362 mX_318 mX_367) rfl rfl rfl (by decide +kernel) (zRm_up g (Nat.le_of_ble_eq_true rfl))) (va_recv hW.1 hW.2.1 (ci := 3) (q0 := 3) rfl rfl) rfl hl.1 rfl (Nat.le_of_ble_eq_true rfl) dX3_readOperand_130 (fun H locs hW => ?_)
                  obtain ⟨i38, hf⟩ := zn hf
                  exact zend_z (w := wX cA h) fin hf i38 hW dX3_readOperand_133
              · have hf := zf c22 hf
                refine lv_aload_n (pc := 85) hx hb dX3_readOperand_85 rfl (lv_at hl 1 rfl) ?_
                refine lv_iconst (pc := 86) (v := 0) hx hb dX3_readOperand_86 (by decide) ?_
                refine lv_iload_n (pc := 87) hx hb dX3_readOperand_87 rfl (lv_at hl 2 rfl) ?_
                refine lv_iconst (pc := 88) (v := 1) hx hb dX3_readOperand_88 (by decide) ?_
                refine lv_iadd (pc := 89) hx hb dX3_readOperand_89 ?_
                obtain ⟨r39, S40, e41, hf⟩ := zB_e hf
                refine zcVi (zEX_ok tt) (As := [.int 0, .int (p1 + 1)]) (pc := 90) C0 hW (hG_readChain H.size 0 (p1 + 1) S20 r39 S40 e41) (cwV 2 hts (zgV gaX mX_320 mX_321 mX_322 mX_318 mX_323) rfl rfl rfl (by decide +kernel) (zRm_up g (Nat.le_of_ble_eq_true rfl))) (va_recv hW.1 hW.2.1 (ci := 3) (q0 := 3) rfl rfl) rfl hl.1 rfl (Nat.le_of_ble_eq_true rfl) dX3_readOperand_90 (fun H locs hW => ?_)
                refine lv_if_eq (pc := 93) (tgt := 112) hx hb dX3_readOperand_93 (by decide) (fun c42 => ?_) (fun c42 => ?_)
                · have hf := zt c42 hf
                  refine lv_iconst (pc := 112) (v := 0) hx hb dX3_readOperand_112 (by decide) ?_
                  exact zend_z (w := wX cA h) fin hf (by decide) hW dX3_readOperand_113
                · have hf := zf c42 hf
                  refine lv_aload_n (pc := 96) hx hb dX3_readOperand_96 rfl (lv_at hl 1 rfl) ?_
                  refine xg_400 (pc := 97) C0 hu_3 hW mX_312 dX3_readOperand_97 ?_
                  refine lv_bipush (pc := 100) (v := 41) hx hb dX3_readOperand_100 (by decide) ?_
                  obtain ⟨r43, S44, e45, hf⟩ := zB_e hf
                  refine zcVi (zEX_ok tt) (As := [.int 41]) (pc := 102) C0 hW (kX10_pass l D cA h tt H.size 41 S40 r43 S44 e45) (cwV 1 hts (zgV gaX mX_338 mX_339 mX_340 mX_330 mX_341) rfl rfl rfl (by decide +kernel) (zRm_k g (Nat.le_of_ble_eq_true rfl) (Nat.le_of_ble_eq_true rfl))) (va_recv hW.1 hW.2.1 (ci := 10) (q0 := 10) rfl rfl) rfl hl.1 rfl (Nat.le_of_ble_eq_true rfl) dX3_readOperand_102 (fun H locs hW => ?_)
                  refine lv_if_eq (pc := 105) (tgt := 112) hx hb dX3_readOperand_105 (by decide) (fun c46 => ?_) (fun c46 => ?_)
                  · have hf := zt c46 hf
                    refine lv_iconst (pc := 112) (v := 0) hx hb dX3_readOperand_112 (by decide) ?_
                    exact zend_z (w := wX cA h) fin hf (by decide) hW dX3_readOperand_113
                  · have hf := zf c46 hf
                    refine lv_iconst (pc := 108) (v := 1) hx hb dX3_readOperand_108 (by decide) ?_
                    refine lv_goto (pc := 109) (tgt := 113) hx hb dX3_readOperand_109 (by decide) ?_
                    exact zend_z (w := wX cA h) fin hf (by decide) hW dX3_readOperand_113
            · have hf := zf c18 hf
              refine lv_iconst (pc := 71) (v := 0) hx hb dX3_readOperand_71 (by decide) ?_
              exact zend_z (w := wX cA h) fin hf (by decide) hW dX3_readOperand_72
          · have hf := zt c17 hf
            exact w48 r11 S12 H locs hW ls (lv_sub hl [1, 0] rfl) hf
  · have hf := zf c10 hf
    refine lv_aload_n (pc := 10) hx hb dX3_readOperand_10 rfl (lv_at hl 0 rfl) ?_
    obtain ⟨S48, e49, hf⟩ := zU_e hf
    refine zcVv (zEX_ok tt) (As := []) (pc := 11) C0 hW (kX3_readNumber l D cA h tt H.size N S8 S48 e49) (cwV 0 hts (zgV gaX mX_352 mX_353 mX_354 mX_318 mX_355) rfl rfl rfl (by decide +kernel) (zRm_k g (Nat.le_of_ble_eq_true rfl) (Nat.le_of_ble_eq_true rfl))) (va_recv hW.1 hW.2.1 (ci := 3) (q0 := 3) rfl rfl) rfl hl.1 rfl (Nat.le_of_ble_eq_true rfl) dX3_readOperand_11 (fun H locs hW => ?_)
    refine lv_iconst (pc := 14) (v := 1) hx hb dX3_readOperand_14 (by decide) ?_
    exact zend_z (w := wX cA h) fin hf (by decide) hW dX3_readOperand_15

def fX3_readPart_o (G : (Int32 → Int32 → zSt → Option (Int32 × zSt)) × (Int32 → Int32 → zSt → Option (Int32 × zSt)) × (Int32 → zSt → Option (Int32 × zSt)) × (Int32 → Int32 → zSt → Option (Int32 × zSt))) (N : Nat) (p1 : Int32) (p2 : Int32) (S : zSt) : Option (Int32 × zSt) :=
  if p1 ≤ 4 then (zB (G.1 p1 p2 S) fun r2 S3 => if zbit r2 then some (r2, S3) else none) else (zB (G.2.2.1 p2 S) fun r6 S7 => if zbit r6 then some (r6, S7) else none)
set_option maxHeartbeats 4000000 in
set_option maxRecDepth 100000 in
theorem kX3_readPart_o (l : Launch) (D : va_G) (cA : Nat → ClassId) (h tt : Nat → Nat) (sz : Nat) (N : Nat) (g : Nat) (G : (Int32 → Int32 → zSt → Option (Int32 × zSt)) × (Int32 → Int32 → zSt → Option (Int32 × zSt)) × (Int32 → zSt → Option (Int32 × zSt)) × (Int32 → Int32 → zSt → Option (Int32 × zSt))) (hG_readChain : ∀ (sz : Nat) (p1 : Int32) (p2 : Int32) (S : zSt) (r : Int32) (S1 : zSt), G.1 p1 p2 S = some (r, S1) → zMi l yX3_readChain wX3_readChain (zRm g) (zEX tt) D (tX cA) (hsX h) [.ref (h 3), .int p1, .int p2] (wX cA h S) (wX cA h S1) sz r) (hG_readPart : ∀ (sz : Nat) (p1 : Int32) (p2 : Int32) (S : zSt) (r : Int32) (S1 : zSt), G.2.1 p1 p2 S = some (r, S1) → zMi l yX3_readPart wX3_readPart (zRm g) (zEX tt) D (tX cA) (hsX h) [.ref (h 3), .int p1, .int p2] (wX cA h S) (wX cA h S1) sz r) (hG_readOperand : ∀ (sz : Nat) (p1 : Int32) (S : zSt) (r : Int32) (S1 : zSt), G.2.2.1 p1 S = some (r, S1) → zMi l yX3_readOperand wX3_readOperand (zRm g) (zEX tt) D (tX cA) (hsX h) [.ref (h 3), .int p1] (wX cA h S) (wX cA h S1) sz r) (hG_readSigned : ∀ (sz : Nat) (p1 : Int32) (p2 : Int32) (S : zSt) (r : Int32) (S1 : zSt), G.2.2.2 p1 p2 S = some (r, S1) → zMi l yX3_readSigned wX3_readSigned (zRm g) (zEX tt) D (tX cA) (hsX h) [.ref (h 3), .int p1, .int p2] (wX cA h S) (wX cA h S1) sz r)  (p1 : Int32) (p2 : Int32) (S : zSt) (r : Int32) (S1 : zSt) (hf : fX3_readPart_o G N p1 p2 S = some (r, S1)) : zMi l yX3_readPart wX3_readPart (zRm (g + 1)) (zEX tt) D (tX cA) (hsX h) [.ref (h 3), .int p1, .int p2] (wX cA h S) (wX cA h S1) sz r := by
  refine zEn_z (cc := cX3_readPart) (maxL := 3) (own := RX3) (by decide) rfl rfl (hmX cA h S) (Nat.le_of_ble_eq_true rfl) ?_
  intro p e s m args below meth c Q H locs C0 hW fin ls hl
  have hl : lv_has ls 3 [(0, .ref (h 3)), (1, .int p1), (2, .int p2)] := hl
  have hx := C0.1
  have hb := C0.2.1
  have hown := C0.2.2.2.1
  have hts := C0.2.2.2.2
  unfold fX3_readPart_o at hf
  refine lv_iload_n (pc := 0) hx hb dX3_readPart_0 rfl (lv_at hl 1 rfl) ?_
  refine lv_iconst (pc := 1) (v := 4) hx hb dX3_readPart_1 (by decide) ?_
  refine lv_icmp_le (pc := 2) (tgt := 13) hx hb dX3_readPart_2 (by decide) (fun c1 => ?_) (fun c1 => ?_)
  · have hf := zt c1 hf
    refine lv_aload_n (pc := 13) hx hb dX3_readPart_13 rfl (lv_at hl 0 rfl) ?_
    refine lv_iload_n (pc := 14) hx hb dX3_readPart_14 rfl (lv_at hl 1 rfl) ?_
    refine lv_iload_n (pc := 15) hx hb dX3_readPart_15 rfl (lv_at hl 2 rfl) ?_
    obtain ⟨r2, S3, e4, hf⟩ := zB_e hf
    refine zcVi (zEX_ok tt) (As := [.int p1, .int p2]) (pc := 16) C0 hW (hG_readChain H.size p1 p2 S r2 S3 e4) (cwV 2 hts (zgV gaX mX_320 mX_321 mX_322 mX_318 mX_323) rfl rfl rfl (by decide +kernel) (zRm_up g (Nat.le_of_ble_eq_true rfl))) (va_recv hW.1 hW.2.1 (ci := 3) (q0 := 3) rfl rfl) rfl hl.1 rfl (Nat.le_of_ble_eq_true rfl) dX3_readPart_16 (fun H locs hW => ?_)
    obtain ⟨i5, hf⟩ := zn hf
    exact zend_z (w := wX cA h) fin hf i5 hW dX3_readPart_19
  · have hf := zf c1 hf
    refine lv_aload_n (pc := 5) hx hb dX3_readPart_5 rfl (lv_at hl 0 rfl) ?_
    refine lv_iload_n (pc := 6) hx hb dX3_readPart_6 rfl (lv_at hl 2 rfl) ?_
    obtain ⟨r6, S7, e8, hf⟩ := zB_e hf
    refine zcVi (zEX_ok tt) (As := [.int p2]) (pc := 7) C0 hW (hG_readOperand H.size p2 S r6 S7 e8) (cwV 1 hts (zgV gaX mX_364 mX_365 mX_366 mX_318 mX_347) rfl rfl rfl (by decide +kernel) (zRm_up g (Nat.le_of_ble_eq_true rfl))) (va_recv hW.1 hW.2.1 (ci := 3) (q0 := 3) rfl rfl) rfl hl.1 rfl (Nat.le_of_ble_eq_true rfl) dX3_readPart_7 (fun H locs hW => ?_)
    refine lv_goto (pc := 10) (tgt := 19) hx hb dX3_readPart_10 (by decide) ?_
    obtain ⟨i9, hf⟩ := zn hf
    exact zend_z (w := wX cA h) fin hf i9 hW dX3_readPart_19

def fX3_readChain_b28 (G : (Int32 → Int32 → zSt → Option (Int32 × zSt)) × (Int32 → Int32 → zSt → Option (Int32 × zSt)) × (Int32 → zSt → Option (Int32 × zSt)) × (Int32 → Int32 → zSt → Option (Int32 × zSt))) (N : Nat) : Nat → Int32 → Int32 → Int32 → Int32 → zSt → Option (Int32 × zSt)
  | 0, _, _, _, _, _ => none
  | n + 1, v1, v2, v3, v4, S =>
    if v3 ≤ v4 then (some (1, S)) else (zB (fX10_seen S) fun r2 S3 => zU (fX3_levelOf r2) fun r5 => if r5 = v1 then (zB (fX10_pass r2 S3) fun r9 S10 => zB (G.2.1 (v1 + 1) v2 S10) fun r12 S13 => if r12 = 0 then (some (0, S13)) else (zU (fX3_make (-r2) S13) fun S17 => fX3_readChain_b28 G N n v1 v2 v3 (v4 + 1) S17)) else (some (1, S3)))
def fX3_readChain_o (G : (Int32 → Int32 → zSt → Option (Int32 × zSt)) × (Int32 → Int32 → zSt → Option (Int32 × zSt)) × (Int32 → zSt → Option (Int32 × zSt)) × (Int32 → Int32 → zSt → Option (Int32 × zSt))) (N : Nat) (p1 : Int32) (p2 : Int32) (S : zSt) : Option (Int32 × zSt) :=
  zB (G.2.1 (p1 + 1) p2 S) fun r19 S20 => if r19 = 0 then (some (0, S20)) else (if p1 = 2 then (fX3_readChain_b28 G N N p1 p2 1 0 S20) else (fX3_readChain_b28 G N N p1 p2 120 0 S20))
set_option maxHeartbeats 4000000 in
set_option maxRecDepth 100000 in
theorem kX3_readChain_o (l : Launch) (D : va_G) (cA : Nat → ClassId) (h tt : Nat → Nat) (sz : Nat) (N : Nat) (g : Nat) (G : (Int32 → Int32 → zSt → Option (Int32 × zSt)) × (Int32 → Int32 → zSt → Option (Int32 × zSt)) × (Int32 → zSt → Option (Int32 × zSt)) × (Int32 → Int32 → zSt → Option (Int32 × zSt))) (hG_readChain : ∀ (sz : Nat) (p1 : Int32) (p2 : Int32) (S : zSt) (r : Int32) (S1 : zSt), G.1 p1 p2 S = some (r, S1) → zMi l yX3_readChain wX3_readChain (zRm g) (zEX tt) D (tX cA) (hsX h) [.ref (h 3), .int p1, .int p2] (wX cA h S) (wX cA h S1) sz r) (hG_readPart : ∀ (sz : Nat) (p1 : Int32) (p2 : Int32) (S : zSt) (r : Int32) (S1 : zSt), G.2.1 p1 p2 S = some (r, S1) → zMi l yX3_readPart wX3_readPart (zRm g) (zEX tt) D (tX cA) (hsX h) [.ref (h 3), .int p1, .int p2] (wX cA h S) (wX cA h S1) sz r) (hG_readOperand : ∀ (sz : Nat) (p1 : Int32) (S : zSt) (r : Int32) (S1 : zSt), G.2.2.1 p1 S = some (r, S1) → zMi l yX3_readOperand wX3_readOperand (zRm g) (zEX tt) D (tX cA) (hsX h) [.ref (h 3), .int p1] (wX cA h S) (wX cA h S1) sz r) (hG_readSigned : ∀ (sz : Nat) (p1 : Int32) (p2 : Int32) (S : zSt) (r : Int32) (S1 : zSt), G.2.2.2 p1 p2 S = some (r, S1) → zMi l yX3_readSigned wX3_readSigned (zRm g) (zEX tt) D (tX cA) (hsX h) [.ref (h 3), .int p1, .int p2] (wX cA h S) (wX cA h S1) sz r)  (p1 : Int32) (p2 : Int32) (S : zSt) (r : Int32) (S1 : zSt) (hf : fX3_readChain_o G N p1 p2 S = some (r, S1)) : zMi l yX3_readChain wX3_readChain (zRm (g + 1)) (zEX tt) D (tX cA) (hsX h) [.ref (h 3), .int p1, .int p2] (wX cA h S) (wX cA h S1) sz r := by
  refine zEn_z (cc := cX3_readChain) (maxL := 6) (own := RX3) (by decide) rfl rfl (hmX cA h S) (Nat.le_of_ble_eq_true rfl) ?_
  intro p e s m args below meth c Q H locs C0 hW fin ls hl
  have hl : lv_has ls 6 [(0, .ref (h 3)), (1, .int p1), (2, .int p2)] := hl
  have hx := C0.1
  have hb := C0.2.1
  have hown := C0.2.2.2.1
  have hts := C0.2.2.2.2
  have w28 : ∀ (n : Nat), ∀ (v1 : Int32) (v2 : Int32) (v3 : Int32) (v4 : Int32) (S : zSt) (H : Heap) (locs : List Loc), zW (zEX tt) D (tX cA) (wX cA h S) (aW (hsX h) s.heap.size) s H locs → ∀ ls : Array Slot, lv_has ls 6 [(0, .ref (h 3)), (1, .int v1), (2, .int v2), (3, .int v3), (4, .int v4)] → fX3_readChain_b28 G N n v1 v2 v3 v4 S = some (r, S1) → W p l e (zRm (g + 1)) s m args below meth c H locs 0 0 Q (F0 m 28 ls []) := by
    intro n
    induction n with
    | zero =>
      intro v1 v2 v3 v4 S H locs hW ls hl hf
      exact absurd hf (by intro h; cases h)
    | succ n ih =>
      intro v1 v2 v3 v4 S H locs hW ls hl hf
      rw [fX3_readChain_b28] at hf
      refine lv_iload (pc := 28) hx hb dX3_readChain_28 (lv_at hl 4 rfl) ?_
      refine lv_iload_n (pc := 30) hx hb dX3_readChain_30 rfl (lv_at hl 3 rfl) ?_
      refine lv_icmp_ge (pc := 31) (tgt := 90) hx hb dX3_readChain_31 (by decide) (fun c1 => ?_) (fun c1 => ?_)
      · have hf := zt c1 hf
        refine lv_iconst (pc := 90) (v := 1) hx hb dX3_readChain_90 (by decide) ?_
        exact zend_z (w := wX cA h) fin hf (by decide) hW dX3_readChain_91
      · have hf := zf c1 hf
        refine lv_aload_n (pc := 34) hx hb dX3_readChain_34 rfl (lv_at hl 0 rfl) ?_
        refine xg_400 (pc := 35) C0 hu_3 hW mX_312 dX3_readChain_35 ?_
        obtain ⟨r2, S3, e4, hf⟩ := zB_e hf
        refine zcVi (zEX_ok tt) (As := []) (pc := 38) C0 hW (kX10_seen l D cA h tt H.size S r2 S3 e4) (cwV 0 hts (zgV gaX mX_327 mX_328 mX_329 mX_330 mX_331) rfl rfl rfl (by decide +kernel) (zRm_k g (Nat.le_of_ble_eq_true rfl) (Nat.le_of_ble_eq_true rfl))) (va_recv hW.1 hW.2.1 (ci := 10) (q0 := 10) rfl rfl) rfl hl.1 rfl (Nat.le_of_ble_eq_true rfl) dX3_readChain_38 (fun H locs hW => ?_)
        refine lv_istore (pc := 41) (lv' := [(5, .int r2), (0, .ref (h 3)), (1, .int v1), (2, .int v2), (3, .int v3), (4, .int v4)]) hx hb dX3_readChain_41 hl (by decide) rfl (fun ls hl => ?_)
        refine lv_iload (pc := 43) hx hb dX3_readChain_43 (lv_at hl 0 rfl) ?_
        obtain ⟨r5, e7, hf⟩ := zU_e hf
        refine zcSi (As := [.int r2]) (pc := 45) C0 hW (kX3_levelOf l H.size r2 r5 e7) (va_cwS 1 hts (zgS gaX mX_335 mX_336 mX_318 mX_337) rfl rfl rfl (by decide +kernel) (zRm_k g (Nat.le_of_ble_eq_true rfl) (Nat.le_of_ble_eq_true rfl))) rfl hl.1 rfl (Nat.le_of_ble_eq_true rfl) dX3_readChain_45 (fun H locs hW => ?_)
        refine lv_iload_n (pc := 48) hx hb dX3_readChain_48 rfl (lv_at hl 2 rfl) ?_
        refine lv_icmp_eq (pc := 49) (tgt := 54) hx hb dX3_readChain_49 (by decide) (fun c8 => ?_) (fun c8 => ?_)
        · have hf := zt c8 hf
          refine lv_aload_n (pc := 54) hx hb dX3_readChain_54 rfl (lv_at hl 1 rfl) ?_
          refine xg_400 (pc := 55) C0 hu_3 hW mX_312 dX3_readChain_55 ?_
          refine lv_iload (pc := 58) hx hb dX3_readChain_58 (lv_at hl 0 rfl) ?_
          obtain ⟨r9, S10, e11, hf⟩ := zB_e hf
          refine zcVi (zEX_ok tt) (As := [.int r2]) (pc := 60) C0 hW (kX10_pass l D cA h tt H.size r2 S3 r9 S10 e11) (cwV 1 hts (zgV gaX mX_338 mX_339 mX_340 mX_330 mX_341) rfl rfl rfl (by decide +kernel) (zRm_k g (Nat.le_of_ble_eq_true rfl) (Nat.le_of_ble_eq_true rfl))) (va_recv hW.1 hW.2.1 (ci := 10) (q0 := 10) rfl rfl) rfl hl.1 rfl (Nat.le_of_ble_eq_true rfl) dX3_readChain_60 (fun H locs hW => ?_)
          refine lv_pop (pc := 63) hx hb dX3_readChain_63 rfl ?_
          refine lv_aload_n (pc := 64) hx hb dX3_readChain_64 rfl (lv_at hl 1 rfl) ?_
          refine lv_iload_n (pc := 65) hx hb dX3_readChain_65 rfl (lv_at hl 2 rfl) ?_
          refine lv_iconst (pc := 66) (v := 1) hx hb dX3_readChain_66 (by decide) ?_
          refine lv_iadd (pc := 67) hx hb dX3_readChain_67 ?_
          refine lv_iload_n (pc := 68) hx hb dX3_readChain_68 rfl (lv_at hl 3 rfl) ?_
          obtain ⟨r12, S13, e14, hf⟩ := zB_e hf
          refine zcVi (zEX_ok tt) (As := [.int (v1 + 1), .int v2]) (pc := 69) C0 hW (hG_readPart H.size (v1 + 1) v2 S10 r12 S13 e14) (cwV 2 hts (zgV gaX mX_324 mX_325 mX_326 mX_318 mX_363) rfl rfl rfl (by decide +kernel) (zRm_up g (Nat.le_of_ble_eq_true rfl))) (va_recv hW.1 hW.2.1 (ci := 3) (q0 := 3) rfl rfl) rfl hl.1 rfl (Nat.le_of_ble_eq_true rfl) dX3_readChain_69 (fun H locs hW => ?_)
          refine lv_if_ne (pc := 72) (tgt := 77) hx hb dX3_readChain_72 (by decide) (fun c15 => ?_) (fun c15 => ?_)
          · have hf := zf c15 hf
            refine lv_aload_n (pc := 77) hx hb dX3_readChain_77 rfl (lv_at hl 1 rfl) ?_
            refine lv_iload (pc := 78) hx hb dX3_readChain_78 (lv_at hl 0 rfl) ?_
            refine lv_ineg (pc := 80) hx hb dX3_readChain_80 ?_
            obtain ⟨S17, e18, hf⟩ := zU_e hf
            refine zcVv (zEX_ok tt) (As := [.int (-r2)]) (pc := 81) C0 hW (kX3_make l D cA h tt H.size (-r2) S13 S17 e18) (cwV 1 hts (zgV gaX mX_343 mX_344 mX_345 mX_318 mX_346) rfl rfl rfl (by decide +kernel) (zRm_k g (Nat.le_of_ble_eq_true rfl) (Nat.le_of_ble_eq_true rfl))) (va_recv hW.1 hW.2.1 (ci := 3) (q0 := 3) rfl rfl) rfl hl.1 rfl (Nat.le_of_ble_eq_true rfl) dX3_readChain_81 (fun H locs hW => ?_)
            refine lv_iinc (pc := 84) (v := (v4 + 1)) (lv' := [(4, .int (v4 + 1)), (5, .int r2), (0, .ref (h 3)), (1, .int v1), (2, .int v2), (3, .int v3)]) hx hb dX3_readChain_84 hl (k := 5) rfl (by rfl) (by decide) rfl (fun ls hl => ?_)
            refine lv_goto (pc := 87) (tgt := 28) hx hb dX3_readChain_87 (by decide) ?_
            exact ih v1 v2 v3 (v4 + 1) S17 H locs hW ls (lv_sub hl [2, 3, 4, 5, 0] rfl) hf
          · have hf := zt c15 hf
            refine lv_iconst (pc := 75) (v := 0) hx hb dX3_readChain_75 (by decide) ?_
            exact zend_z (w := wX cA h) fin hf (by decide) hW dX3_readChain_76
        · have hf := zf c8 hf
          refine lv_iconst (pc := 52) (v := 1) hx hb dX3_readChain_52 (by decide) ?_
          exact zend_z (w := wX cA h) fin hf (by decide) hW dX3_readChain_53
  unfold fX3_readChain_o at hf
  refine lv_aload_n (pc := 0) hx hb dX3_readChain_0 rfl (lv_at hl 0 rfl) ?_
  refine lv_iload_n (pc := 1) hx hb dX3_readChain_1 rfl (lv_at hl 1 rfl) ?_
  refine lv_iconst (pc := 2) (v := 1) hx hb dX3_readChain_2 (by decide) ?_
  refine lv_iadd (pc := 3) hx hb dX3_readChain_3 ?_
  refine lv_iload_n (pc := 4) hx hb dX3_readChain_4 rfl (lv_at hl 2 rfl) ?_
  obtain ⟨r19, S20, e21, hf⟩ := zB_e hf
  refine zcVi (zEX_ok tt) (As := [.int (p1 + 1), .int p2]) (pc := 5) C0 hW (hG_readPart H.size (p1 + 1) p2 S r19 S20 e21) (cwV 2 hts (zgV gaX mX_324 mX_325 mX_326 mX_318 mX_363) rfl rfl rfl (by decide +kernel) (zRm_up g (Nat.le_of_ble_eq_true rfl))) (va_recv hW.1 hW.2.1 (ci := 3) (q0 := 3) rfl rfl) rfl hl.1 rfl (Nat.le_of_ble_eq_true rfl) dX3_readChain_5 (fun H locs hW => ?_)
  refine lv_if_ne (pc := 8) (tgt := 13) hx hb dX3_readChain_8 (by decide) (fun c22 => ?_) (fun c22 => ?_)
  · have hf := zf c22 hf
    refine lv_iload_n (pc := 13) hx hb dX3_readChain_13 rfl (lv_at hl 1 rfl) ?_
    refine lv_iconst (pc := 14) (v := 2) hx hb dX3_readChain_14 (by decide) ?_
    refine lv_icmp_ne (pc := 15) (tgt := 22) hx hb dX3_readChain_15 (by decide) (fun c23 => ?_) (fun c23 => ?_)
    · have hf := zf c23 hf
      refine lv_bipush (pc := 22) (v := 120) hx hb dX3_readChain_22 (by decide) ?_
      refine lv_istore_n (pc := 24) (lv' := [(3, .int 120), (0, .ref (h 3)), (1, .int p1), (2, .int p2)]) hx hb dX3_readChain_24 rfl hl (by decide) rfl (fun ls hl => ?_)
      refine lv_iconst (pc := 25) (v := 0) hx hb dX3_readChain_25 (by decide) ?_
      refine lv_istore (pc := 26) (lv' := [(4, .int 0), (3, .int 120), (0, .ref (h 3)), (1, .int p1), (2, .int p2)]) hx hb dX3_readChain_26 hl (by decide) rfl (fun ls hl => ?_)
      exact w28 N p1 p2 120 0 S20 H locs hW ls (lv_sub hl [2, 3, 4, 1, 0] rfl) hf
    · have hf := zt c23 hf
      refine lv_iconst (pc := 18) (v := 1) hx hb dX3_readChain_18 (by decide) ?_
      refine lv_goto (pc := 19) (tgt := 24) hx hb dX3_readChain_19 (by decide) ?_
      refine lv_istore_n (pc := 24) (lv' := [(3, .int 1), (0, .ref (h 3)), (1, .int p1), (2, .int p2)]) hx hb dX3_readChain_24 rfl hl (by decide) rfl (fun ls hl => ?_)
      refine lv_iconst (pc := 25) (v := 0) hx hb dX3_readChain_25 (by decide) ?_
      refine lv_istore (pc := 26) (lv' := [(4, .int 0), (3, .int 1), (0, .ref (h 3)), (1, .int p1), (2, .int p2)]) hx hb dX3_readChain_26 hl (by decide) rfl (fun ls hl => ?_)
      exact w28 N p1 p2 1 0 S20 H locs hW ls (lv_sub hl [2, 3, 4, 1, 0] rfl) hf
  · have hf := zt c22 hf
    refine lv_iconst (pc := 11) (v := 0) hx hb dX3_readChain_11 (by decide) ?_
    exact zend_z (w := wX cA h) fin hf (by decide) hW dX3_readChain_12

def zGXr (N : Nat) : Nat → (Int32 → Int32 → zSt → Option (Int32 × zSt)) × (Int32 → Int32 → zSt → Option (Int32 × zSt)) × (Int32 → zSt → Option (Int32 × zSt)) × (Int32 → Int32 → zSt → Option (Int32 × zSt))
  | 0 => (fun _ _ _ => none, fun _ _ _ => none, fun _ _ => none, fun _ _ _ => none)
  | n + 1 => (fX3_readChain_o (zGXr N n) N, fX3_readPart_o (zGXr N n) N, fX3_readOperand_o (zGXr N n) N, fX3_readSigned_o (zGXr N n) N)
def fX3_readChain (N n : Nat) : (Int32 → Int32 → zSt → Option (Int32 × zSt)) := (zGXr N n).1
def fX3_readPart (N n : Nat) : (Int32 → Int32 → zSt → Option (Int32 × zSt)) := (zGXr N n).2.1
def fX3_readOperand (N n : Nat) : (Int32 → zSt → Option (Int32 × zSt)) := (zGXr N n).2.2.1
def fX3_readSigned (N n : Nat) : (Int32 → Int32 → zSt → Option (Int32 × zSt)) := (zGXr N n).2.2.2
theorem kGXr (l : Launch) (D : va_G) (cA : Nat → ClassId) (h tt : Nat → Nat) (N : Nat) : ∀ g : Nat, (∀ (sz : Nat) (p1 : Int32) (p2 : Int32) (S : zSt) (r : Int32) (S1 : zSt), (zGXr N g).1 p1 p2 S = some (r, S1) → zMi l yX3_readChain wX3_readChain (zRm g) (zEX tt) D (tX cA) (hsX h) [.ref (h 3), .int p1, .int p2] (wX cA h S) (wX cA h S1) sz r) ∧ (∀ (sz : Nat) (p1 : Int32) (p2 : Int32) (S : zSt) (r : Int32) (S1 : zSt), (zGXr N g).2.1 p1 p2 S = some (r, S1) → zMi l yX3_readPart wX3_readPart (zRm g) (zEX tt) D (tX cA) (hsX h) [.ref (h 3), .int p1, .int p2] (wX cA h S) (wX cA h S1) sz r) ∧ (∀ (sz : Nat) (p1 : Int32) (S : zSt) (r : Int32) (S1 : zSt), (zGXr N g).2.2.1 p1 S = some (r, S1) → zMi l yX3_readOperand wX3_readOperand (zRm g) (zEX tt) D (tX cA) (hsX h) [.ref (h 3), .int p1] (wX cA h S) (wX cA h S1) sz r) ∧ (∀ (sz : Nat) (p1 : Int32) (p2 : Int32) (S : zSt) (r : Int32) (S1 : zSt), (zGXr N g).2.2.2 p1 p2 S = some (r, S1) → zMi l yX3_readSigned wX3_readSigned (zRm g) (zEX tt) D (tX cA) (hsX h) [.ref (h 3), .int p1, .int p2] (wX cA h S) (wX cA h S1) sz r) := by
  intro g
  induction g with
  | zero => exact ⟨fun sz p1 p2 S r S1 hf => absurd hf (fun z => nomatch z), fun sz p1 p2 S r S1 hf => absurd hf (fun z => nomatch z), fun sz p1 S r S1 hf => absurd hf (fun z => nomatch z), fun sz p1 p2 S r S1 hf => absurd hf (fun z => nomatch z)⟩
  | succ g ih =>
    obtain ⟨hG_readChain, hG_readPart, hG_readOperand, hG_readSigned⟩ := ih
    exact ⟨fun sz p1 p2 S r S1 hf => kX3_readChain_o l D cA h tt sz N g (zGXr N g) hG_readChain hG_readPart hG_readOperand hG_readSigned p1 p2 S r S1 hf, fun sz p1 p2 S r S1 hf => kX3_readPart_o l D cA h tt sz N g (zGXr N g) hG_readChain hG_readPart hG_readOperand hG_readSigned p1 p2 S r S1 hf, fun sz p1 S r S1 hf => kX3_readOperand_o l D cA h tt sz N g (zGXr N g) hG_readChain hG_readPart hG_readOperand hG_readSigned p1 S r S1 hf, fun sz p1 p2 S r S1 hf => kX3_readSigned_o l D cA h tt sz N g (zGXr N g) hG_readChain hG_readPart hG_readOperand hG_readSigned p1 p2 S r S1 hf⟩
theorem kX3_readChain_all (l : Launch) (D : va_G) (cA : Nat → ClassId) (h tt : Nat → Nat) (N g : Nat) : ∀ (sz : Nat) (p1 : Int32) (p2 : Int32) (S : zSt) (r : Int32) (S1 : zSt), fX3_readChain N g p1 p2 S = some (r, S1) → zMi l yX3_readChain wX3_readChain (zRm g) (zEX tt) D (tX cA) (hsX h) [.ref (h 3), .int p1, .int p2] (wX cA h S) (wX cA h S1) sz r := (kGXr l D cA h tt N g).1
theorem kX3_readChain (l : Launch) (D : va_G) (cA : Nat → ClassId) (h tt : Nat → Nat) (sz : Nat) (N g : Nat) (p1 : Int32) (p2 : Int32) (S : zSt) (r : Int32) (S1 : zSt) (hf : fX3_readChain N g p1 p2 S = some (r, S1)) : zMi l yX3_readChain wX3_readChain (zRm g) (zEX tt) D (tX cA) (hsX h) [.ref (h 3), .int p1, .int p2] (wX cA h S) (wX cA h S1) sz r := kX3_readChain_all l D cA h tt N g sz p1 p2 S r S1 hf
theorem kX3_readPart_all (l : Launch) (D : va_G) (cA : Nat → ClassId) (h tt : Nat → Nat) (N g : Nat) : ∀ (sz : Nat) (p1 : Int32) (p2 : Int32) (S : zSt) (r : Int32) (S1 : zSt), fX3_readPart N g p1 p2 S = some (r, S1) → zMi l yX3_readPart wX3_readPart (zRm g) (zEX tt) D (tX cA) (hsX h) [.ref (h 3), .int p1, .int p2] (wX cA h S) (wX cA h S1) sz r := (kGXr l D cA h tt N g).2.1
theorem kX3_readPart (l : Launch) (D : va_G) (cA : Nat → ClassId) (h tt : Nat → Nat) (sz : Nat) (N g : Nat) (p1 : Int32) (p2 : Int32) (S : zSt) (r : Int32) (S1 : zSt) (hf : fX3_readPart N g p1 p2 S = some (r, S1)) : zMi l yX3_readPart wX3_readPart (zRm g) (zEX tt) D (tX cA) (hsX h) [.ref (h 3), .int p1, .int p2] (wX cA h S) (wX cA h S1) sz r := kX3_readPart_all l D cA h tt N g sz p1 p2 S r S1 hf
theorem kX3_readOperand_all (l : Launch) (D : va_G) (cA : Nat → ClassId) (h tt : Nat → Nat) (N g : Nat) : ∀ (sz : Nat) (p1 : Int32) (S : zSt) (r : Int32) (S1 : zSt), fX3_readOperand N g p1 S = some (r, S1) → zMi l yX3_readOperand wX3_readOperand (zRm g) (zEX tt) D (tX cA) (hsX h) [.ref (h 3), .int p1] (wX cA h S) (wX cA h S1) sz r := (kGXr l D cA h tt N g).2.2.1
theorem kX3_readOperand (l : Launch) (D : va_G) (cA : Nat → ClassId) (h tt : Nat → Nat) (sz : Nat) (N g : Nat) (p1 : Int32) (S : zSt) (r : Int32) (S1 : zSt) (hf : fX3_readOperand N g p1 S = some (r, S1)) : zMi l yX3_readOperand wX3_readOperand (zRm g) (zEX tt) D (tX cA) (hsX h) [.ref (h 3), .int p1] (wX cA h S) (wX cA h S1) sz r := kX3_readOperand_all l D cA h tt N g sz p1 S r S1 hf
theorem kX3_readSigned_all (l : Launch) (D : va_G) (cA : Nat → ClassId) (h tt : Nat → Nat) (N g : Nat) : ∀ (sz : Nat) (p1 : Int32) (p2 : Int32) (S : zSt) (r : Int32) (S1 : zSt), fX3_readSigned N g p1 p2 S = some (r, S1) → zMi l yX3_readSigned wX3_readSigned (zRm g) (zEX tt) D (tX cA) (hsX h) [.ref (h 3), .int p1, .int p2] (wX cA h S) (wX cA h S1) sz r := (kGXr l D cA h tt N g).2.2.2
theorem kX3_readSigned (l : Launch) (D : va_G) (cA : Nat → ClassId) (h tt : Nat → Nat) (sz : Nat) (N g : Nat) (p1 : Int32) (p2 : Int32) (S : zSt) (r : Int32) (S1 : zSt) (hf : fX3_readSigned N g p1 p2 S = some (r, S1)) : zMi l yX3_readSigned wX3_readSigned (zRm g) (zEX tt) D (tX cA) (hsX h) [.ref (h 3), .int p1, .int p2] (wX cA h S) (wX cA h S1) sz r := kX3_readSigned_all l D cA h tt N g sz p1 p2 S r S1 hf

def fX3_readLine_b40 (N : Nat) (S : zSt) : Option (Int32 × zSt) :=
  zU (fX3_make (-59) S) fun S2 => some (1, S2)
def fX3_readLine (N : Nat) (S : zSt) : Option (Int32 × zSt) :=
  zB (fX3_readChain N zfuel 0 0 S) fun r4 S5 => if r4 = 0 then (some (0, S5)) else (zB (fX10_pass 63 S5) fun r8 S9 => if r8 = 0 then (fX3_readLine_b40 N S9) else (zU (fX3_make (-63) S9) fun S13 => zB (fX3_readChain N zfuel 0 0 S13) fun r15 S16 => if r15 = 0 then (some (0, S16)) else (fX3_readLine_b40 N S16)))
abbrev wX3_readLine : List Cond := Cond.code yX3_readLine cX3_readLine 1 (some .boolean) :: waX
abbrev rmX3_readLine : Room := { frames := 113, cells := 0, slots := 0, locals := 4625 }
set_option maxHeartbeats 4000000 in
set_option maxRecDepth 100000 in
theorem kX3_readLine (l : Launch) (D : va_G) (cA : Nat → ClassId) (h tt : Nat → Nat) (sz : Nat) (N : Nat)   (S : zSt) (r : Int32) (S1 : zSt) (hf : fX3_readLine N S = some (r, S1)) : zMi l yX3_readLine wX3_readLine rmX3_readLine (zEX tt) D (tX cA) (hsX h) [.ref (h 3)] (wX cA h S) (wX cA h S1) sz r := by
  refine zEn_z (cc := cX3_readLine) (maxL := 1) (own := RX3) (by decide) rfl rfl (hmX cA h S) (Nat.le_of_ble_eq_true rfl) ?_
  intro p e s m args below meth c Q H locs C0 hW fin ls hl
  have hl : lv_has ls 1 [(0, .ref (h 3))] := hl
  have hx := C0.1
  have hb := C0.2.1
  have hown := C0.2.2.2.1
  have hts := C0.2.2.2.2
  have w40 : ∀  (S : zSt) (H : Heap) (locs : List Loc), zW (zEX tt) D (tX cA) (wX cA h S) (aW (hsX h) s.heap.size) s H locs → ∀ ls : Array Slot, lv_has ls 1 [(0, .ref (h 3))] → fX3_readLine_b40 N S = some (r, S1) → W p l e rmX3_readLine s m args below meth c H locs 0 0 Q (F0 m 40 ls []) := by
    intro S H locs hW ls hl hf
    unfold fX3_readLine_b40 at hf
    refine lv_aload_n (pc := 40) hx hb dX3_readLine_40 rfl (lv_at hl 0 rfl) ?_
    refine lv_bipush (pc := 41) (v := (-59)) hx hb dX3_readLine_41 (by decide) ?_
    obtain ⟨S2, e3, hf⟩ := zU_e hf
    refine zcVv (zEX_ok tt) (As := [.int (-59)]) (pc := 43) C0 hW (kX3_make l D cA h tt H.size (-59) S S2 e3) (cwV 1 hts (zgV gaX mX_343 mX_344 mX_345 mX_318 mX_346) rfl rfl rfl (by decide +kernel) ⟨Nat.le_of_ble_eq_true rfl, Nat.le_of_ble_eq_true rfl⟩) (va_recv hW.1 hW.2.1 (ci := 3) (q0 := 3) rfl rfl) rfl hl.1 rfl (Nat.le_of_ble_eq_true rfl) dX3_readLine_43 (fun H locs hW => ?_)
    refine lv_iconst (pc := 46) (v := 1) hx hb dX3_readLine_46 (by decide) ?_
    exact zend_z (w := wX cA h) fin hf (by decide) hW dX3_readLine_47
  unfold fX3_readLine at hf
  refine lv_aload_n (pc := 0) hx hb dX3_readLine_0 rfl (lv_at hl 0 rfl) ?_
  refine lv_iconst (pc := 1) (v := 0) hx hb dX3_readLine_1 (by decide) ?_
  refine lv_iconst (pc := 2) (v := 0) hx hb dX3_readLine_2 (by decide) ?_
  obtain ⟨r4, S5, e6, hf⟩ := zB_e hf
  refine zcVi (zEX_ok tt) (As := [.int 0, .int 0]) (pc := 3) C0 hW (kX3_readChain l D cA h tt H.size N zfuel 0 0 S r4 S5 e6) (cwV 2 hts (zgV gaX mX_320 mX_321 mX_322 mX_318 mX_323) rfl rfl rfl (by decide +kernel) ⟨Nat.le_of_ble_eq_true rfl, Nat.le_of_ble_eq_true rfl⟩) (va_recv hW.1 hW.2.1 (ci := 3) (q0 := 3) rfl rfl) rfl hl.1 rfl (Nat.le_of_ble_eq_true rfl) dX3_readLine_3 (fun H locs hW => ?_)
  refine lv_if_ne (pc := 6) (tgt := 11) hx hb dX3_readLine_6 (by decide) (fun c7 => ?_) (fun c7 => ?_)
  · have hf := zf c7 hf
    refine lv_aload_n (pc := 11) hx hb dX3_readLine_11 rfl (lv_at hl 0 rfl) ?_
    refine xg_400 (pc := 12) C0 hu_3 hW mX_312 dX3_readLine_12 ?_
    refine lv_bipush (pc := 15) (v := 63) hx hb dX3_readLine_15 (by decide) ?_
    obtain ⟨r8, S9, e10, hf⟩ := zB_e hf
    refine zcVi (zEX_ok tt) (As := [.int 63]) (pc := 17) C0 hW (kX10_pass l D cA h tt H.size 63 S5 r8 S9 e10) (cwV 1 hts (zgV gaX mX_338 mX_339 mX_340 mX_330 mX_341) rfl rfl rfl (by decide +kernel) ⟨Nat.le_of_ble_eq_true rfl, Nat.le_of_ble_eq_true rfl⟩) (va_recv hW.1 hW.2.1 (ci := 10) (q0 := 10) rfl rfl) rfl hl.1 rfl (Nat.le_of_ble_eq_true rfl) dX3_readLine_17 (fun H locs hW => ?_)
    refine lv_if_eq (pc := 20) (tgt := 40) hx hb dX3_readLine_20 (by decide) (fun c11 => ?_) (fun c11 => ?_)
    · have hf := zt c11 hf
      exact w40 S9 H locs hW ls (lv_sub hl [0] rfl) hf
    · have hf := zf c11 hf
      refine lv_aload_n (pc := 23) hx hb dX3_readLine_23 rfl (lv_at hl 0 rfl) ?_
      refine lv_bipush (pc := 24) (v := (-63)) hx hb dX3_readLine_24 (by decide) ?_
      obtain ⟨S13, e14, hf⟩ := zU_e hf
      refine zcVv (zEX_ok tt) (As := [.int (-63)]) (pc := 26) C0 hW (kX3_make l D cA h tt H.size (-63) S9 S13 e14) (cwV 1 hts (zgV gaX mX_343 mX_344 mX_345 mX_318 mX_346) rfl rfl rfl (by decide +kernel) ⟨Nat.le_of_ble_eq_true rfl, Nat.le_of_ble_eq_true rfl⟩) (va_recv hW.1 hW.2.1 (ci := 3) (q0 := 3) rfl rfl) rfl hl.1 rfl (Nat.le_of_ble_eq_true rfl) dX3_readLine_26 (fun H locs hW => ?_)
      refine lv_aload_n (pc := 29) hx hb dX3_readLine_29 rfl (lv_at hl 0 rfl) ?_
      refine lv_iconst (pc := 30) (v := 0) hx hb dX3_readLine_30 (by decide) ?_
      refine lv_iconst (pc := 31) (v := 0) hx hb dX3_readLine_31 (by decide) ?_
      obtain ⟨r15, S16, e17, hf⟩ := zB_e hf
      refine zcVi (zEX_ok tt) (As := [.int 0, .int 0]) (pc := 32) C0 hW (kX3_readChain l D cA h tt H.size N zfuel 0 0 S13 r15 S16 e17) (cwV 2 hts (zgV gaX mX_320 mX_321 mX_322 mX_318 mX_323) rfl rfl rfl (by decide +kernel) ⟨Nat.le_of_ble_eq_true rfl, Nat.le_of_ble_eq_true rfl⟩) (va_recv hW.1 hW.2.1 (ci := 3) (q0 := 3) rfl rfl) rfl hl.1 rfl (Nat.le_of_ble_eq_true rfl) dX3_readLine_32 (fun H locs hW => ?_)
      refine lv_if_ne (pc := 35) (tgt := 40) hx hb dX3_readLine_35 (by decide) (fun c18 => ?_) (fun c18 => ?_)
      · have hf := zf c18 hf
        exact w40 S16 H locs hW ls (lv_sub hl [0] rfl) hf
      · have hf := zt c18 hf
        refine lv_iconst (pc := 38) (v := 0) hx hb dX3_readLine_38 (by decide) ?_
        exact zend_z (w := wX cA h) fin hf (by decide) hW dX3_readLine_39
  · have hf := zt c7 hf
    refine lv_iconst (pc := 9) (v := 0) hx hb dX3_readLine_9 (by decide) ?_
    exact zend_z (w := wX cA h) fin hf (by decide) hW dX3_readLine_10

def fX3_read_b7 (N : Nat) : Nat → Int32 → zSt → Option (Int32 × zSt)
  | 0, _, _ => none
  | n + 1, v1, S =>
    if 120 < v1 then (some ((-1), S)) else (zB (fX3_readLine N S) fun r2 S3 => if r2 = 0 then (some ((-1), S3)) else (zB (fX10_pass 59 S3) fun r6 S7 => if r6 = 0 then (zB (fX10_isAtEnd S7) fun r10 S11 => if r10 = 0 then (some ((-1), S11)) else (some ((S11.1 402), S11))) else (fX3_read_b7 N n (v1 + 1) S7)))
def fX3_read (N : Nat) (S : zSt) : Option (Int32 × zSt) :=
  zL (zI S 402 0) fun S14 => fX3_read_b7 N N 0 S14
abbrev wX3_read : List Cond := Cond.code yX3_read cX3_read 2 (some .int) :: waX
abbrev rmX3_read : Room := { frames := 114, cells := 0, slots := 0, locals := 4645 }
set_option maxHeartbeats 4000000 in
set_option maxRecDepth 100000 in
theorem kX3_read (l : Launch) (D : va_G) (cA : Nat → ClassId) (h tt : Nat → Nat) (sz : Nat) (N : Nat)   (S : zSt) (r : Int32) (S1 : zSt) (hf : fX3_read N S = some (r, S1)) : zMi l yX3_read wX3_read rmX3_read (zEX tt) D (tX cA) (hsX h) [.ref (h 3)] (wX cA h S) (wX cA h S1) sz r := by
  refine zEn_i (cc := cX3_read) (maxL := 2) (own := RX3) (by decide) rfl rfl (hmX cA h S) (Nat.le_of_ble_eq_true rfl) ?_
  intro p e s m args below meth c Q H locs C0 hW fin ls hl
  have hl : lv_has ls 2 [(0, .ref (h 3))] := hl
  have hx := C0.1
  have hb := C0.2.1
  have hown := C0.2.2.2.1
  have hts := C0.2.2.2.2
  have w7 : ∀ (n : Nat), ∀ (v1 : Int32) (S : zSt) (H : Heap) (locs : List Loc), zW (zEX tt) D (tX cA) (wX cA h S) (aW (hsX h) s.heap.size) s H locs → ∀ ls : Array Slot, lv_has ls 2 [(0, .ref (h 3)), (1, .int v1)] → fX3_read_b7 N n v1 S = some (r, S1) → W p l e rmX3_read s m args below meth c H locs 0 0 Q (F0 m 7 ls []) := by
    intro n
    induction n with
    | zero =>
      intro v1 S H locs hW ls hl hf
      exact absurd hf (by intro h; cases h)
    | succ n ih =>
      intro v1 S H locs hW ls hl hf
      rw [fX3_read_b7] at hf
      refine lv_iload_n (pc := 7) hx hb dX3_read_7 rfl (lv_at hl 1 rfl) ?_
      refine lv_bipush (pc := 8) (v := 120) hx hb dX3_read_8 (by decide) ?_
      refine lv_icmp_gt (pc := 10) (tgt := 59) hx hb dX3_read_10 (by decide) (fun c1 => ?_) (fun c1 => ?_)
      · have hf := zt c1 hf
        refine lv_iconst (pc := 59) (v := (-1)) hx hb dX3_read_59 (by decide) ?_
        exact zend_i (w := wX cA h) fin hf hW dX3_read_60
      · have hf := zf c1 hf
        refine lv_aload_n (pc := 13) hx hb dX3_read_13 rfl (lv_at hl 0 rfl) ?_
        obtain ⟨r2, S3, e4, hf⟩ := zB_e hf
        refine zcVi (zEX_ok tt) (As := []) (pc := 14) C0 hW (kX3_readLine l D cA h tt H.size N S r2 S3 e4) (cwV 0 hts (zgV gaX mX_315 mX_316 mX_317 mX_318 mX_319) rfl rfl rfl (by decide +kernel) ⟨Nat.le_of_ble_eq_true rfl, Nat.le_of_ble_eq_true rfl⟩) (va_recv hW.1 hW.2.1 (ci := 3) (q0 := 3) rfl rfl) rfl hl.1 rfl (Nat.le_of_ble_eq_true rfl) dX3_read_14 (fun H locs hW => ?_)
        refine lv_if_ne (pc := 17) (tgt := 22) hx hb dX3_read_17 (by decide) (fun c5 => ?_) (fun c5 => ?_)
        · have hf := zf c5 hf
          refine lv_aload_n (pc := 22) hx hb dX3_read_22 rfl (lv_at hl 0 rfl) ?_
          refine xg_400 (pc := 23) C0 hu_3 hW mX_312 dX3_read_23 ?_
          refine lv_bipush (pc := 26) (v := 59) hx hb dX3_read_26 (by decide) ?_
          obtain ⟨r6, S7, e8, hf⟩ := zB_e hf
          refine zcVi (zEX_ok tt) (As := [.int 59]) (pc := 28) C0 hW (kX10_pass l D cA h tt H.size 59 S3 r6 S7 e8) (cwV 1 hts (zgV gaX mX_338 mX_339 mX_340 mX_330 mX_341) rfl rfl rfl (by decide +kernel) ⟨Nat.le_of_ble_eq_true rfl, Nat.le_of_ble_eq_true rfl⟩) (va_recv hW.1 hW.2.1 (ci := 10) (q0 := 10) rfl rfl) rfl hl.1 rfl (Nat.le_of_ble_eq_true rfl) dX3_read_28 (fun H locs hW => ?_)
          refine lv_if_ne (pc := 31) (tgt := 53) hx hb dX3_read_31 (by decide) (fun c9 => ?_) (fun c9 => ?_)
          · have hf := zf c9 hf
            refine lv_iinc (pc := 53) (v := (v1 + 1)) (lv' := [(1, .int (v1 + 1)), (0, .ref (h 3))]) hx hb dX3_read_53 hl (k := 1) rfl (by rfl) (by decide) rfl (fun ls hl => ?_)
            refine lv_goto (pc := 56) (tgt := 7) hx hb dX3_read_56 (by decide) ?_
            exact ih (v1 + 1) S7 H locs hW ls (lv_sub hl [1, 0] rfl) hf
          · have hf := zt c9 hf
            refine lv_aload_n (pc := 34) hx hb dX3_read_34 rfl (lv_at hl 0 rfl) ?_
            refine xg_400 (pc := 35) C0 hu_3 hW mX_312 dX3_read_35 ?_
            obtain ⟨r10, S11, e12, hf⟩ := zB_e hf
            refine zcVi (zEX_ok tt) (As := []) (pc := 38) C0 hW (kX10_isAtEnd l D cA h tt H.size S7 r10 S11 e12) (cwV 0 hts (zgV gaX mX_368 mX_369 mX_370 mX_330 mX_371) rfl rfl rfl (by decide +kernel) ⟨Nat.le_of_ble_eq_true rfl, Nat.le_of_ble_eq_true rfl⟩) (va_recv hW.1 hW.2.1 (ci := 10) (q0 := 10) rfl rfl) rfl hl.1 rfl (Nat.le_of_ble_eq_true rfl) dX3_read_38 (fun H locs hW => ?_)
            refine lv_if_eq (pc := 41) (tgt := 51) hx hb dX3_read_41 (by decide) (fun c13 => ?_) (fun c13 => ?_)
            · have hf := zt c13 hf
              refine lv_iconst (pc := 51) (v := (-1)) hx hb dX3_read_51 (by decide) ?_
              exact zend_i (w := wX cA h) fin hf hW dX3_read_52
            · have hf := zf c13 hf
              refine lv_aload_n (pc := 44) hx hb dX3_read_44 rfl (lv_at hl 0 rfl) ?_
              refine xg_402 (pc := 45) C0 hu_3 hW mX_314 dX3_read_45 ?_
              refine lv_goto (pc := 48) (tgt := 52) hx hb dX3_read_48 (by decide) ?_
              exact zend_i (w := wX cA h) fin hf hW dX3_read_52
        · have hf := zt c5 hf
          refine lv_iconst (pc := 20) (v := (-1)) hx hb dX3_read_20 (by decide) ?_
          exact zend_i (w := wX cA h) fin hf hW dX3_read_21
  unfold fX3_read at hf
  refine lv_aload_n (pc := 0) hx hb dX3_read_0 rfl (lv_at hl 0 rfl) ?_
  refine lv_iconst (pc := 1) (v := 0) hx hb dX3_read_1 (by decide) ?_
  obtain ⟨S14, e_S14, hf⟩ := zL_e hf
  refine xp_402 (pc := 2) C0 hu_3 hW mX_314 e_S14 dX3_read_2 (fun H locs hW => ?_)
  refine lv_iconst (pc := 5) (v := 0) hx hb dX3_read_5 (by decide) ?_
  refine lv_istore_n (pc := 6) (lv' := [(1, .int 0), (0, .ref (h 3))]) hx hb dX3_read_6 rfl hl (by decide) rfl (fun ls hl => ?_)
  exact w7 N 0 S14 H locs hW ls (lv_sub hl [1, 0] rfl) hf

def fX3_copyTo (i0 : Int32) (S : zSt) : Option zSt :=
  if ¬ (0 : Int32) < 0 ∧ ¬ (0 : Int32) < 0 ∧ ¬ ((zmn (S.1 402) 121) : Int32) < 0 ∧ Int32.toNatClampNeg 0 + Int32.toNatClampNeg (zmn (S.1 402) 121) ≤ 121 ∧ Int32.toNatClampNeg 0 + Int32.toNatClampNeg (zmn (S.1 402) 121) ≤ 121 then zL (zcA S 401 (5010 + Int32.toNatClampNeg i0) (Int32.toNatClampNeg 0) (Int32.toNatClampNeg 0) (Int32.toNatClampNeg (zmn (S.1 402) 121))) fun S2 => some S2 else none
abbrev wX3_copyTo : List Cond := Cond.code yX3_copyTo cX3_copyTo 2 none :: waX
abbrev rmX3_copyTo : Room := { frames := 1, cells := 0, slots := 0, locals := 60 }
set_option maxHeartbeats 4000000 in
set_option maxRecDepth 100000 in
theorem kX3_copyTo (l : Launch) (D : va_G) (cA : Nat → ClassId) (h tt : Nat → Nat) (sz : Nat) (i0 : Int32) (hi0 : zin i0 4)  (S : zSt) (S1 : zSt) (hf : fX3_copyTo i0 S = some S1) : zMv l yX3_copyTo wX3_copyTo rmX3_copyTo (zEX tt) D (tX cA) (hsX h) [.ref (h 3), .ref (h (5010 + Int32.toNatClampNeg i0))] (wX cA h S) (wX cA h S1) sz := by
  refine zEn_v (cc := cX3_copyTo) (maxL := 2) (own := RX3) (by decide) rfl rfl (hmX cA h S) (Nat.le_of_ble_eq_true rfl) ?_
  intro p e s m args below meth c Q H locs C0 hW fin ls hl
  have hl : lv_has ls 2 [(0, .ref (h 3)), (1, .ref (h (5010 + Int32.toNatClampNeg i0)))] := hl
  have hx := C0.1
  have hb := C0.2.1
  have hown := C0.2.2.2.1
  have hts := C0.2.2.2.2
  unfold fX3_copyTo at hf
  refine lv_aload_n (pc := 0) hx hb dX3_copyTo_0 rfl (lv_at hl 0 rfl) ?_
  refine xg_401 (pc := 1) C0 hu_3 hW mX_311 dX3_copyTo_1 ?_
  refine lv_iconst (pc := 4) (v := 0) hx hb dX3_copyTo_4 (by decide) ?_
  refine lv_aload_n (pc := 5) hx hb dX3_copyTo_5 rfl (lv_at hl 1 rfl) ?_
  refine lv_iconst (pc := 6) (v := 0) hx hb dX3_copyTo_6 (by decide) ?_
  refine lv_aload_n (pc := 7) hx hb dX3_copyTo_7 rfl (lv_at hl 0 rfl) ?_
  refine xg_402 (pc := 8) C0 hu_3 hW mX_314 dX3_copyTo_8 ?_
  refine lv_aload_n (pc := 11) hx hb dX3_copyTo_11 rfl (lv_at hl 1 rfl) ?_
  refine xin_501 (pc := 12) C0 hW hi0 dX3_copyTo_12 ?_
  refine va_mmin (pc := 13) hx hb (C0.2.2.1.trans hl.1.symm) hown (hts _ mX_373) (hts _ mX_27) (hts _ mX_28) (hts _ mX_29) (Nat.le_of_ble_eq_true rfl) (Nat.le_of_ble_eq_true rfl) (Nat.zero_le _) (Nat.zero_le _) dX3_copyTo_13 ?_
  obtain ⟨i1, hf⟩ := zn hf
  obtain ⟨S2, e_S2, hf⟩ := zL_e hf
  refine va_copyi (pc := 16) hx hb (C0.2.2.1.trans hl.1.symm) hown (hts _ mX_374) (hts _ mX_87) (hts _ mX_88) (hts _ mX_89) hW.1 hW.2.1 hW.2.2.1 hW.2.2.2.1 17 _ 5 _ rfl (xin_at_501 cA h S _ (Nat.not_le.mp fun z => hi0 (Or.inr z))) rfl (xin_ty_501 cA _ (Nat.not_le.mp fun z => hi0 (Or.inr z))) rfl i1.1 i1.2.1 i1.2.2.1 i1.2.2.2.1 i1.2.2.2.2 (fun _ _ => rfl) (Nat.le_of_ble_eq_true rfl) (Nat.le_of_ble_eq_true rfl) dX3_copyTo_16 (fun H locs hP1 hD1 hS1 => ?_)
  rw [xin_set_501 cA h S _ _ (Nat.not_le.mp fun z => hi0 (Or.inr z))] at hP1 hD1
  have hW : zW (zEX tt) D (tX cA) (wX cA h S2) (aW (hsX h) s.heap.size) s H locs := by rw [e_S2]; exact ⟨hW.1, hP1, hD1, hS1, hW.2.2.2.2⟩
  exact zend_v (w := wX cA h) fin hf hW dX3_copyTo_19

def fX4_isFull (S : zSt) : Option (Int32 × zSt) :=
  if (S.1 505) < 4 then (some (0, S)) else (some (1, S))
abbrev wX4_isFull : List Cond := Cond.code yX4_isFull cX4_isFull 1 (some .boolean) :: waX
abbrev rmX4_isFull : Room := { frames := 0, cells := 0, slots := 0, locals := 0 }
set_option maxHeartbeats 4000000 in
set_option maxRecDepth 100000 in
theorem kX4_isFull (l : Launch) (D : va_G) (cA : Nat → ClassId) (h tt : Nat → Nat) (sz : Nat)   (S : zSt) (r : Int32) (S1 : zSt) (hf : fX4_isFull S = some (r, S1)) : zMi l yX4_isFull wX4_isFull rmX4_isFull (zEX tt) D (tX cA) (hsX h) [.ref (h 4)] (wX cA h S) (wX cA h S1) sz r := by
  refine zEn_z (cc := cX4_isFull) (maxL := 1) (own := RX4) (by decide) rfl rfl (hmX cA h S) (Nat.le_of_ble_eq_true rfl) ?_
  intro p e s m args below meth c Q H locs C0 hW fin ls hl
  have hl : lv_has ls 1 [(0, .ref (h 4))] := hl
  have hx := C0.1
  have hb := C0.2.1
  have hown := C0.2.2.2.1
  have hts := C0.2.2.2.2
  unfold fX4_isFull at hf
  refine lv_aload_n (pc := 0) hx hb dX4_isFull_0 rfl (lv_at hl 0 rfl) ?_
  refine xg_505 (pc := 1) C0 hu_4 hW mX_238 dX4_isFull_1 ?_
  refine lv_iconst (pc := 4) (v := 4) hx hb dX4_isFull_4 (by decide) ?_
  refine lv_icmp_lt (pc := 5) (tgt := 12) hx hb dX4_isFull_5 (by decide) (fun c1 => ?_) (fun c1 => ?_)
  · have hf := zt c1 hf
    refine lv_iconst (pc := 12) (v := 0) hx hb dX4_isFull_12 (by decide) ?_
    exact zend_z (w := wX cA h) fin hf (by decide) hW dX4_isFull_13
  · have hf := zf c1 hf
    refine lv_iconst (pc := 8) (v := 1) hx hb dX4_isFull_8 (by decide) ?_
    refine lv_goto (pc := 9) (tgt := 13) hx hb dX4_isFull_9 (by decide) ?_
    exact zend_z (w := wX cA h) fin hf (by decide) hW dX4_isFull_13

def fX4_read (N : Nat) (S : zSt) : Option (Int32 × zSt) :=
  zB (fX3_read N S) fun r1 S2 => if r1 < 0 then (some (0, S2)) else (zB (fX4_isFull S2) fun r5 S6 => if r5 = 0 then (if zin (S6.1 505) 4 then zU (fX3_copyTo (S6.1 505) S6) fun S11 => if zin (S11.1 505) 4 then zL (zA S11 502 (Int32.toNatClampNeg (S11.1 505)) r1) fun S14 => zL (zI S14 505 ((S14.1 505) + 1)) fun S15 => some (1, S15) else none else none) else (some (0, S6)))
abbrev wX4_read : List Cond := Cond.code yX4_read cX4_read 2 (some .boolean) :: waX
abbrev rmX4_read : Room := { frames := 115, cells := 0, slots := 0, locals := 4666 }
set_option maxHeartbeats 4000000 in
set_option maxRecDepth 100000 in
theorem kX4_read (l : Launch) (D : va_G) (cA : Nat → ClassId) (h tt : Nat → Nat) (sz : Nat) (N : Nat)   (S : zSt) (r : Int32) (S1 : zSt) (hf : fX4_read N S = some (r, S1)) : zMi l yX4_read wX4_read rmX4_read (zEX tt) D (tX cA) (hsX h) [.ref (h 4)] (wX cA h S) (wX cA h S1) sz r := by
  refine zEn_z (cc := cX4_read) (maxL := 2) (own := RX4) (by decide) rfl rfl (hmX cA h S) (Nat.le_of_ble_eq_true rfl) ?_
  intro p e s m args below meth c Q H locs C0 hW fin ls hl
  have hl : lv_has ls 2 [(0, .ref (h 4))] := hl
  have hx := C0.1
  have hb := C0.2.1
  have hown := C0.2.2.2.1
  have hts := C0.2.2.2.2
  unfold fX4_read at hf
  refine lv_aload_n (pc := 0) hx hb dX4_read_0 rfl (lv_at hl 0 rfl) ?_
  refine xg_500 (pc := 1) C0 hu_4 hW mX_380 dX4_read_1 ?_
  obtain ⟨r1, S2, e3, hf⟩ := zB_e hf
  refine zcVi (zEX_ok tt) (As := []) (pc := 4) C0 hW (kX3_read l D cA h tt H.size N S r1 S2 e3) (cwV 0 hts (zgV gaX mX_385 mX_386 mX_387 mX_318 mX_313) rfl rfl rfl (by decide +kernel) ⟨Nat.le_of_ble_eq_true rfl, Nat.le_of_ble_eq_true rfl⟩) (va_recv hW.1 hW.2.1 (ci := 3) (q0 := 3) rfl rfl) rfl hl.1 rfl (Nat.le_of_ble_eq_true rfl) dX4_read_4 (fun H locs hW => ?_)
  refine lv_istore_n (pc := 7) (lv' := [(1, .int r1), (0, .ref (h 4))]) hx hb dX4_read_7 rfl hl (by decide) rfl (fun ls hl => ?_)
  refine lv_iload_n (pc := 8) hx hb dX4_read_8 rfl (lv_at hl 0 rfl) ?_
  refine lv_if_lt (pc := 9) (tgt := 19) hx hb dX4_read_9 (by decide) (fun c4 => ?_) (fun c4 => ?_)
  · have hf := zt c4 hf
    refine lv_iconst (pc := 19) (v := 0) hx hb dX4_read_19 (by decide) ?_
    exact zend_z (w := wX cA h) fin hf (by decide) hW dX4_read_20
  · have hf := zf c4 hf
    refine lv_aload_n (pc := 12) hx hb dX4_read_12 rfl (lv_at hl 1 rfl) ?_
    obtain ⟨r5, S6, e7, hf⟩ := zB_e hf
    refine zcVi (zEX_ok tt) (As := []) (pc := 13) C0 hW (kX4_isFull l D cA h tt H.size S2 r5 S6 e7) (cwV 0 hts (zgV gaX mX_388 mX_389 mX_390 mX_231 mX_383) rfl rfl rfl (by decide +kernel) ⟨Nat.le_of_ble_eq_true rfl, Nat.le_of_ble_eq_true rfl⟩) (va_recv hW.1 hW.2.1 (ci := 4) (q0 := 4) rfl rfl) rfl hl.1 rfl (Nat.le_of_ble_eq_true rfl) dX4_read_13 (fun H locs hW => ?_)
    refine lv_if_eq (pc := 16) (tgt := 21) hx hb dX4_read_16 (by decide) (fun c8 => ?_) (fun c8 => ?_)
    · have hf := zt c8 hf
      refine lv_aload_n (pc := 21) hx hb dX4_read_21 rfl (lv_at hl 1 rfl) ?_
      refine xg_500 (pc := 22) C0 hu_4 hW mX_380 dX4_read_22 ?_
      refine lv_aload_n (pc := 25) hx hb dX4_read_25 rfl (lv_at hl 1 rfl) ?_
      refine xg_501 (pc := 26) C0 hu_4 hW mX_251 dX4_read_26 ?_
      refine lv_aload_n (pc := 29) hx hb dX4_read_29 rfl (lv_at hl 1 rfl) ?_
      refine xg_505 (pc := 30) C0 hu_4 hW mX_238 dX4_read_30 ?_
      obtain ⟨i9, hf⟩ := zn hf
      refine xq_501 (pc := 33) C0 hW i9 dX4_read_33 ?_
      obtain ⟨S11, e12, hf⟩ := zU_e hf
      refine zcVv (zEX_ok tt) (As := [.ref (h (5010 + Int32.toNatClampNeg (S6.1 505)))]) (pc := 34) C0 hW (kX3_copyTo l D cA h tt H.size (S6.1 505) i9 S6 S11 e12) (cwV 1 hts (zgV gaX mX_391 mX_392 mX_393 mX_318 mX_372) rfl rfl rfl (by decide +kernel) ⟨Nat.le_of_ble_eq_true rfl, Nat.le_of_ble_eq_true rfl⟩) (va_recv hW.1 hW.2.1 (ci := 3) (q0 := 3) rfl rfl) rfl hl.1 rfl (Nat.le_of_ble_eq_true rfl) dX4_read_34 (fun H locs hW => ?_)
      refine lv_aload_n (pc := 37) hx hb dX4_read_37 rfl (lv_at hl 1 rfl) ?_
      refine xg_502 (pc := 38) C0 hu_4 hW mX_250 dX4_read_38 ?_
      refine lv_aload_n (pc := 41) hx hb dX4_read_41 rfl (lv_at hl 1 rfl) ?_
      refine xg_505 (pc := 42) C0 hu_4 hW mX_238 dX4_read_42 ?_
      refine lv_iload_n (pc := 45) hx hb dX4_read_45 rfl (lv_at hl 0 rfl) ?_
      obtain ⟨i13, hf⟩ := zn hf
      obtain ⟨S14, e_S14, hf⟩ := zL_e hf
      refine xs_s502 (pc := 46) C0 hW i13 e_S14 dX4_read_46 (fun H locs hW => ?_)
      refine lv_aload_n (pc := 47) hx hb dX4_read_47 rfl (lv_at hl 1 rfl) ?_
      refine lv_dup (pc := 48) hx hb dX4_read_48 rfl ?_
      refine xg_505 (pc := 49) C0 hu_4 hW mX_238 dX4_read_49 ?_
      refine lv_iconst (pc := 52) (v := 1) hx hb dX4_read_52 (by decide) ?_
      refine lv_iadd (pc := 53) hx hb dX4_read_53 ?_
      obtain ⟨S15, e_S15, hf⟩ := zL_e hf
      refine xp_505 (pc := 54) C0 hu_4 hW mX_238 e_S15 dX4_read_54 (fun H locs hW => ?_)
      refine lv_iconst (pc := 57) (v := 1) hx hb dX4_read_57 (by decide) ?_
      exact zend_z (w := wX cA h) fin hf (by decide) hW dX4_read_58
    · have hf := zf c8 hf
      refine lv_iconst (pc := 19) (v := 0) hx hb dX4_read_19 (by decide) ?_
      exact zend_z (w := wX cA h) fin hf (by decide) hW dX4_read_20

def fX5_isFull (S : zSt) : Option (Int32 × zSt) :=
  if (S.1 602) < 20 then (some (0, S)) else (some (1, S))
abbrev wX5_isFull : List Cond := Cond.code yX5_isFull cX5_isFull 1 (some .boolean) :: waX
abbrev rmX5_isFull : Room := { frames := 0, cells := 0, slots := 0, locals := 0 }
set_option maxHeartbeats 4000000 in
set_option maxRecDepth 100000 in
theorem kX5_isFull (l : Launch) (D : va_G) (cA : Nat → ClassId) (h tt : Nat → Nat) (sz : Nat)   (S : zSt) (r : Int32) (S1 : zSt) (hf : fX5_isFull S = some (r, S1)) : zMi l yX5_isFull wX5_isFull rmX5_isFull (zEX tt) D (tX cA) (hsX h) [.ref (h 5)] (wX cA h S) (wX cA h S1) sz r := by
  refine zEn_z (cc := cX5_isFull) (maxL := 1) (own := RX5) (by decide) rfl rfl (hmX cA h S) (Nat.le_of_ble_eq_true rfl) ?_
  intro p e s m args below meth c Q H locs C0 hW fin ls hl
  have hl : lv_has ls 1 [(0, .ref (h 5))] := hl
  have hx := C0.1
  have hb := C0.2.1
  have hown := C0.2.2.2.1
  have hts := C0.2.2.2.2
  unfold fX5_isFull at hf
  refine lv_aload_n (pc := 0) hx hb dX5_isFull_0 rfl (lv_at hl 0 rfl) ?_
  refine xg_602 (pc := 1) C0 hu_5 hW mX_399 dX5_isFull_1 ?_
  refine lv_bipush (pc := 4) (v := 20) hx hb dX5_isFull_4 (by decide) ?_
  refine lv_icmp_lt (pc := 6) (tgt := 13) hx hb dX5_isFull_6 (by decide) (fun c1 => ?_) (fun c1 => ?_)
  · have hf := zt c1 hf
    refine lv_iconst (pc := 13) (v := 0) hx hb dX5_isFull_13 (by decide) ?_
    exact zend_z (w := wX cA h) fin hf (by decide) hW dX5_isFull_14
  · have hf := zf c1 hf
    refine lv_iconst (pc := 9) (v := 1) hx hb dX5_isFull_9 (by decide) ?_
    refine lv_goto (pc := 10) (tgt := 14) hx hb dX5_isFull_10 (by decide) ?_
    exact zend_z (w := wX cA h) fin hf (by decide) hW dX5_isFull_14

def fX11_isHour (p1 : Int32): Option Int32 :=
  zU (fX11_isWithin p1 0 47) fun r1 => if zbit r1 then some r1 else none
abbrev wX11_isHour : List Cond := Cond.code yX11_isHour cX11_isHour 1 (some .boolean) :: waX
abbrev rmX11_isHour : Room := { frames := 1, cells := 0, slots := 0, locals := 22 }
set_option maxHeartbeats 4000000 in
set_option maxRecDepth 100000 in
theorem kX11_isHour (l : Launch) (sz : Nat) (p1 : Int32) (r : Int32) (hf : fX11_isHour p1 = some r) : zMs l yX11_isHour wX11_isHour rmX11_isHour [.int p1] sz r := by
  refine zEs_z (cc := cX11_isHour) (maxL := 1) (own := RX11) (by decide) rfl rfl (Nat.le_of_ble_eq_true rfl) ?_
  intro p e s m args below meth c Q H locs C0 hW fin ls hl
  have hl : lv_has ls 1 [(0, .int p1)] := hl
  have hx := C0.1
  have hb := C0.2.1
  have hown := C0.2.2.2.1
  have hts := C0.2.2.2.2
  unfold fX11_isHour at hf
  refine lv_iload_n (pc := 0) hx hb dX11_isHour_0 rfl (lv_at hl 0 rfl) ?_
  refine lv_iconst (pc := 1) (v := 0) hx hb dX11_isHour_1 (by decide) ?_
  refine lv_bipush (pc := 2) (v := 47) hx hb dX11_isHour_2 (by decide) ?_
  obtain ⟨r1, e3, hf⟩ := zU_e hf
  refine zcS0 (As := [.int p1, .int 0, .int 47]) (pc := 4) C0 hW (kX11_isWithin l H.size p1 0 47 r1 e3) (va_cwS 3 hts (zgS gaX mX_225 mX_226 mX_151 mX_227) rfl rfl rfl (by decide +kernel) ⟨Nat.le_of_ble_eq_true rfl, Nat.le_of_ble_eq_true rfl⟩) rfl hl.1 rfl (Nat.le_of_ble_eq_true rfl) dX11_isHour_4 (fun H locs _ hW => ?_)
  obtain ⟨i4, hf⟩ := zn hf
  exact zens_z fin hf i4 hW dX11_isHour_7

def fX5_mayCome_b27  (v1 : Int32) (v2 : Int32) (u0 : Int32) (S : zSt) : Option (Int32 × zSt) :=
  if u0 = 0 then (some (0, S)) else (zU (fX11_isHour v1) fun r2 => if r2 = 0 then (some (0, S)) else (zU (fX11_isWithin v2 (-20) 60) fun r6 => if r6 = 0 then (some (0, S)) else (some (1, S))))
def fX5_mayCome_b22  (v1 : Int32) (v2 : Int32) (S : zSt) : Option (Int32 × zSt) :=
  fX5_mayCome_b27 v1 v2 1 S
def fX5_mayCome (p1 : Int32) (p2 : Int32) (S : zSt) : Option (Int32 × zSt) :=
  if (S.1 602) ≤ 0 then (fX5_mayCome_b22 p1 p2 S) else (if zin ((S.1 602) - 1) 20 then if p1 ≤ (S.2.1 600 (Int32.toNatClampNeg ((S.1 602) - 1))) then (fX5_mayCome_b27 p1 p2 0 S) else (fX5_mayCome_b22 p1 p2 S) else none)
abbrev wX5_mayCome : List Cond := Cond.code yX5_mayCome cX5_mayCome 4 (some .boolean) :: waX
abbrev rmX5_mayCome : Room := { frames := 2, cells := 0, slots := 0, locals := 42 }
set_option maxHeartbeats 4000000 in
set_option maxRecDepth 100000 in
theorem kX5_mayCome (l : Launch) (D : va_G) (cA : Nat → ClassId) (h tt : Nat → Nat) (sz : Nat)  (p1 : Int32) (p2 : Int32) (S : zSt) (r : Int32) (S1 : zSt) (hf : fX5_mayCome p1 p2 S = some (r, S1)) : zMi l yX5_mayCome wX5_mayCome rmX5_mayCome (zEX tt) D (tX cA) (hsX h) [.ref (h 5), .int p1, .int p2] (wX cA h S) (wX cA h S1) sz r := by
  refine zEn_z (cc := cX5_mayCome) (maxL := 4) (own := RX5) (by decide) rfl rfl (hmX cA h S) (Nat.le_of_ble_eq_true rfl) ?_
  intro p e s m args below meth c Q H locs C0 hW fin ls hl
  have hl : lv_has ls 4 [(0, .ref (h 5)), (1, .int p1), (2, .int p2)] := hl
  have hx := C0.1
  have hb := C0.2.1
  have hown := C0.2.2.2.1
  have hts := C0.2.2.2.2
  have w27 : ∀ (v1 : Int32) (v2 : Int32) (u0 : Int32) (S : zSt) (H : Heap) (locs : List Loc), zW (zEX tt) D (tX cA) (wX cA h S) (aW (hsX h) s.heap.size) s H locs → ∀ ls : Array Slot, lv_has ls 4 [(1, .int v1), (2, .int v2)] → fX5_mayCome_b27 v1 v2 u0 S = some (r, S1) → W p l e rmX5_mayCome s m args below meth c H locs 0 0 Q (F0 m 27 ls [.int u0]) := by
    intro v1 v2 u0 S H locs hW ls hl hf
    unfold fX5_mayCome_b27 at hf
    refine lv_istore_n (pc := 27) (lv' := [(3, .int u0), (1, .int v1), (2, .int v2)]) hx hb dX5_mayCome_27 rfl hl (by decide) rfl (fun ls hl => ?_)
    refine lv_iload_n (pc := 28) hx hb dX5_mayCome_28 rfl (lv_at hl 0 rfl) ?_
    refine lv_if_eq (pc := 29) (tgt := 54) hx hb dX5_mayCome_29 (by decide) (fun c1 => ?_) (fun c1 => ?_)
    · have hf := zt c1 hf
      refine lv_iconst (pc := 54) (v := 0) hx hb dX5_mayCome_54 (by decide) ?_
      exact zend_z (w := wX cA h) fin hf (by decide) hW dX5_mayCome_55
    · have hf := zf c1 hf
      refine lv_iload_n (pc := 32) hx hb dX5_mayCome_32 rfl (lv_at hl 1 rfl) ?_
      obtain ⟨r2, e4, hf⟩ := zU_e hf
      refine zcNi (As := [.int v1]) (pc := 33) C0 hW (kX11_isHour l H.size v1 r2 e4) ⟨va_cnB 1 hts (zgN gaX mX_402) rfl rfl rfl hW.2.2.2.2.2.2.2.2.2.2.2.2.2.2.2.2.2.1 (hts _ mX_151) (by decide +kernel) ⟨Nat.le_of_ble_eq_true rfl, Nat.le_of_ble_eq_true rfl⟩, hts _ mX_401, trivial⟩ rfl hl.1 rfl (Nat.le_of_ble_eq_true rfl) dX5_mayCome_33 (fun H locs hW => ?_)
      refine lv_if_eq (pc := 36) (tgt := 54) hx hb dX5_mayCome_36 (by decide) (fun c5 => ?_) (fun c5 => ?_)
      · have hf := zt c5 hf
        refine lv_iconst (pc := 54) (v := 0) hx hb dX5_mayCome_54 (by decide) ?_
        exact zend_z (w := wX cA h) fin hf (by decide) hW dX5_mayCome_55
      · have hf := zf c5 hf
        refine lv_iload_n (pc := 39) hx hb dX5_mayCome_39 rfl (lv_at hl 2 rfl) ?_
        refine lv_bipush (pc := 40) (v := (-20)) hx hb dX5_mayCome_40 (by decide) ?_
        refine lv_bipush (pc := 42) (v := 60) hx hb dX5_mayCome_42 (by decide) ?_
        obtain ⟨r6, e8, hf⟩ := zU_e hf
        refine zcNi (As := [.int v2, .int (-20), .int 60]) (pc := 44) C0 hW (kX11_isWithin l H.size v2 (-20) 60 r6 e8) ⟨va_cnB 3 hts (zgN gaX mX_227) rfl rfl rfl hW.2.2.2.2.2.2.2.2.2.2.2.2.2.2.2.2.2.2.1 (hts _ mX_151) (by decide +kernel) ⟨Nat.le_of_ble_eq_true rfl, Nat.le_of_ble_eq_true rfl⟩, hts _ mX_226, trivial⟩ rfl hl.1 rfl (Nat.le_of_ble_eq_true rfl) dX5_mayCome_44 (fun H locs hW => ?_)
        refine lv_if_eq (pc := 47) (tgt := 54) hx hb dX5_mayCome_47 (by decide) (fun c9 => ?_) (fun c9 => ?_)
        · have hf := zt c9 hf
          refine lv_iconst (pc := 54) (v := 0) hx hb dX5_mayCome_54 (by decide) ?_
          exact zend_z (w := wX cA h) fin hf (by decide) hW dX5_mayCome_55
        · have hf := zf c9 hf
          refine lv_iconst (pc := 50) (v := 1) hx hb dX5_mayCome_50 (by decide) ?_
          refine lv_goto (pc := 51) (tgt := 55) hx hb dX5_mayCome_51 (by decide) ?_
          exact zend_z (w := wX cA h) fin hf (by decide) hW dX5_mayCome_55
  have w22 : ∀ (v1 : Int32) (v2 : Int32) (S : zSt) (H : Heap) (locs : List Loc), zW (zEX tt) D (tX cA) (wX cA h S) (aW (hsX h) s.heap.size) s H locs → ∀ ls : Array Slot, lv_has ls 4 [(1, .int v1), (2, .int v2)] → fX5_mayCome_b22 v1 v2 S = some (r, S1) → W p l e rmX5_mayCome s m args below meth c H locs 0 0 Q (F0 m 22 ls []) := by
    intro v1 v2 S H locs hW ls hl hf
    unfold fX5_mayCome_b22 at hf
    refine lv_iconst (pc := 22) (v := 1) hx hb dX5_mayCome_22 (by decide) ?_
    refine lv_goto (pc := 23) (tgt := 27) hx hb dX5_mayCome_23 (by decide) ?_
    exact w27 v1 v2 1 S H locs hW ls (lv_sub hl [0, 1] rfl) hf
  unfold fX5_mayCome at hf
  refine lv_aload_n (pc := 0) hx hb dX5_mayCome_0 rfl (lv_at hl 0 rfl) ?_
  refine xg_602 (pc := 1) C0 hu_5 hW mX_399 dX5_mayCome_1 ?_
  refine lv_if_le (pc := 4) (tgt := 22) hx hb dX5_mayCome_4 (by decide) (fun c10 => ?_) (fun c10 => ?_)
  · have hf := zt c10 hf
    exact w22 p1 p2 S H locs hW ls (lv_sub hl [1, 2] rfl) hf
  · have hf := zf c10 hf
    refine lv_iload_n (pc := 7) hx hb dX5_mayCome_7 rfl (lv_at hl 1 rfl) ?_
    refine lv_aload_n (pc := 8) hx hb dX5_mayCome_8 rfl (lv_at hl 0 rfl) ?_
    refine xg_600 (pc := 9) C0 hu_5 hW mX_396 dX5_mayCome_9 ?_
    refine lv_aload_n (pc := 12) hx hb dX5_mayCome_12 rfl (lv_at hl 0 rfl) ?_
    refine xg_602 (pc := 13) C0 hu_5 hW mX_399 dX5_mayCome_13 ?_
    refine lv_iconst (pc := 16) (v := 1) hx hb dX5_mayCome_16 (by decide) ?_
    refine lv_isub (pc := 17) hx hb dX5_mayCome_17 ?_
    obtain ⟨i11, hf⟩ := zn hf
    refine xl_600 (pc := 18) C0 hW i11 dX5_mayCome_18 ?_
    refine lv_icmp_le (pc := 19) (tgt := 26) hx hb dX5_mayCome_19 (by decide) (fun c12 => ?_) (fun c12 => ?_)
    · have hf := zt c12 hf
      refine lv_iconst (pc := 26) (v := 0) hx hb dX5_mayCome_26 (by decide) ?_
      exact w27 p1 p2 0 S H locs hW ls (lv_sub hl [1, 2] rfl) hf
    · have hf := zf c12 hf
      exact w22 p1 p2 S H locs hW ls (lv_sub hl [1, 2] rfl) hf

def fX5_add (p1 : Int32) (p2 : Int32) (S : zSt) : Option (Int32 × zSt) :=
  zB (fX5_isFull S) fun r1 S2 => if r1 = 0 then (if zin (S2.1 602) 20 then zL (zA S2 600 (Int32.toNatClampNeg (S2.1 602)) p1) fun S6 => if zin (S6.1 602) 20 then zL (zA S6 601 (Int32.toNatClampNeg (S6.1 602)) p2) fun S8 => zL (zI S8 602 ((S8.1 602) + 1)) fun S9 => some (((S9.1 602) - 1), S9) else none else none) else (some ((-3), S2))
abbrev wX5_add : List Cond := Cond.code yX5_add cX5_add 3 (some .int) :: waX
abbrev rmX5_add : Room := { frames := 1, cells := 0, slots := 0, locals := 20 }
set_option maxHeartbeats 4000000 in
set_option maxRecDepth 100000 in
theorem kX5_add (l : Launch) (D : va_G) (cA : Nat → ClassId) (h tt : Nat → Nat) (sz : Nat)  (p1 : Int32) (p2 : Int32) (S : zSt) (r : Int32) (S1 : zSt) (hf : fX5_add p1 p2 S = some (r, S1)) : zMi l yX5_add wX5_add rmX5_add (zEX tt) D (tX cA) (hsX h) [.ref (h 5), .int p1, .int p2] (wX cA h S) (wX cA h S1) sz r := by
  refine zEn_i (cc := cX5_add) (maxL := 3) (own := RX5) (by decide) rfl rfl (hmX cA h S) (Nat.le_of_ble_eq_true rfl) ?_
  intro p e s m args below meth c Q H locs C0 hW fin ls hl
  have hl : lv_has ls 3 [(0, .ref (h 5)), (1, .int p1), (2, .int p2)] := hl
  have hx := C0.1
  have hb := C0.2.1
  have hown := C0.2.2.2.1
  have hts := C0.2.2.2.2
  unfold fX5_add at hf
  refine lv_aload_n (pc := 0) hx hb dX5_add_0 rfl (lv_at hl 0 rfl) ?_
  obtain ⟨r1, S2, e3, hf⟩ := zB_e hf
  refine zcVi (zEX_ok tt) (As := []) (pc := 1) C0 hW (kX5_isFull l D cA h tt H.size S r1 S2 e3) (cwV 0 hts (zgV gaX mX_404 mX_405 mX_406 mX_407 mX_398) rfl rfl rfl (by decide +kernel) ⟨Nat.le_of_ble_eq_true rfl, Nat.le_of_ble_eq_true rfl⟩) (va_recv hW.1 hW.2.1 (ci := 5) (q0 := 5) rfl rfl) rfl hl.1 rfl (Nat.le_of_ble_eq_true rfl) dX5_add_1 (fun H locs hW => ?_)
  refine lv_if_eq (pc := 4) (tgt := 10) hx hb dX5_add_4 (by decide) (fun c4 => ?_) (fun c4 => ?_)
  · have hf := zt c4 hf
    refine lv_aload_n (pc := 10) hx hb dX5_add_10 rfl (lv_at hl 0 rfl) ?_
    refine xg_600 (pc := 11) C0 hu_5 hW mX_396 dX5_add_11 ?_
    refine lv_aload_n (pc := 14) hx hb dX5_add_14 rfl (lv_at hl 0 rfl) ?_
    refine xg_602 (pc := 15) C0 hu_5 hW mX_399 dX5_add_15 ?_
    refine lv_iload_n (pc := 18) hx hb dX5_add_18 rfl (lv_at hl 1 rfl) ?_
    obtain ⟨i5, hf⟩ := zn hf
    obtain ⟨S6, e_S6, hf⟩ := zL_e hf
    refine xs_s600 (pc := 19) C0 hW i5 e_S6 dX5_add_19 (fun H locs hW => ?_)
    refine lv_aload_n (pc := 20) hx hb dX5_add_20 rfl (lv_at hl 0 rfl) ?_
    refine xg_601 (pc := 21) C0 hu_5 hW mX_397 dX5_add_21 ?_
    refine lv_aload_n (pc := 24) hx hb dX5_add_24 rfl (lv_at hl 0 rfl) ?_
    refine xg_602 (pc := 25) C0 hu_5 hW mX_399 dX5_add_25 ?_
    refine lv_iload_n (pc := 28) hx hb dX5_add_28 rfl (lv_at hl 2 rfl) ?_
    obtain ⟨i7, hf⟩ := zn hf
    obtain ⟨S8, e_S8, hf⟩ := zL_e hf
    refine xs_s601 (pc := 29) C0 hW i7 e_S8 dX5_add_29 (fun H locs hW => ?_)
    refine lv_aload_n (pc := 30) hx hb dX5_add_30 rfl (lv_at hl 0 rfl) ?_
    refine lv_dup (pc := 31) hx hb dX5_add_31 rfl ?_
    refine xg_602 (pc := 32) C0 hu_5 hW mX_399 dX5_add_32 ?_
    refine lv_iconst (pc := 35) (v := 1) hx hb dX5_add_35 (by decide) ?_
    refine lv_iadd (pc := 36) hx hb dX5_add_36 ?_
    obtain ⟨S9, e_S9, hf⟩ := zL_e hf
    refine xp_602 (pc := 37) C0 hu_5 hW mX_399 e_S9 dX5_add_37 (fun H locs hW => ?_)
    refine lv_aload_n (pc := 40) hx hb dX5_add_40 rfl (lv_at hl 0 rfl) ?_
    refine xg_602 (pc := 41) C0 hu_5 hW mX_399 dX5_add_41 ?_
    refine lv_iconst (pc := 44) (v := 1) hx hb dX5_add_44 (by decide) ?_
    refine lv_isub (pc := 45) hx hb dX5_add_45 ?_
    exact zend_i (w := wX cA h) fin hf hW dX5_add_46
  · have hf := zf c4 hf
    refine lv_bipush (pc := 7) (v := (-3)) hx hb dX5_add_7 (by decide) ?_
    exact zend_i (w := wX cA h) fin hf hW dX5_add_9

def fX5_differenceFrom_b5 (N : Nat) : Nat → Int32 → Int32 → Int32 → zSt → Option (Int32 × zSt)
  | 0, _, _, _, _ => none
  | n + 1, v2, v3, v4, S =>
    if (S.1 602) ≤ v4 then (some (v3, S)) else (if zin v4 20 then zB (fX4_riseBy N v2 (S.2.1 600 (Int32.toNatClampNeg v4)) S) fun r3 S4 => if zin v4 20 then zL ((v3 + (zab (r3 - (S4.2.1 601 (Int32.toNatClampNeg v4)))))) fun (x7 : Int32) => fX5_differenceFrom_b5 N n v2 x7 (v4 + 1) S4 else none else none)
def fX5_differenceFrom (N : Nat) (p2 : Int32) (S : zSt) : Option (Int32 × zSt) :=
  fX5_differenceFrom_b5 N N p2 0 0 S
abbrev wX5_differenceFrom : List Cond := Cond.code yX5_differenceFrom cX5_differenceFrom 5 (some .int) :: waX
abbrev rmX5_differenceFrom : Room := { frames := 5, cells := 0, slots := 0, locals := 115 }
set_option maxHeartbeats 4000000 in
set_option maxRecDepth 100000 in
theorem kX5_differenceFrom (l : Launch) (D : va_G) (cA : Nat → ClassId) (h tt : Nat → Nat) (sz : Nat) (N : Nat)  (p2 : Int32) (S : zSt) (r : Int32) (S1 : zSt) (hf : fX5_differenceFrom N p2 S = some (r, S1)) : zMi l yX5_differenceFrom wX5_differenceFrom rmX5_differenceFrom (zEX tt) D (tX cA) (hsX h) [.ref (h 5), .ref (h 4), .int p2] (wX cA h S) (wX cA h S1) sz r := by
  refine zEn_i (cc := cX5_differenceFrom) (maxL := 5) (own := RX5) (by decide) rfl rfl (hmX cA h S) (Nat.le_of_ble_eq_true rfl) ?_
  intro p e s m args below meth c Q H locs C0 hW fin ls hl
  have hl : lv_has ls 5 [(0, .ref (h 5)), (1, .ref (h 4)), (2, .int p2)] := hl
  have hx := C0.1
  have hb := C0.2.1
  have hown := C0.2.2.2.1
  have hts := C0.2.2.2.2
  have w5 : ∀ (n : Nat), ∀ (v2 : Int32) (v3 : Int32) (v4 : Int32) (S : zSt) (H : Heap) (locs : List Loc), zW (zEX tt) D (tX cA) (wX cA h S) (aW (hsX h) s.heap.size) s H locs → ∀ ls : Array Slot, lv_has ls 5 [(0, .ref (h 5)), (1, .ref (h 4)), (2, .int v2), (3, .int v3), (4, .int v4)] → fX5_differenceFrom_b5 N n v2 v3 v4 S = some (r, S1) → W p l e rmX5_differenceFrom s m args below meth c H locs 0 0 Q (F0 m 5 ls []) := by
    intro n
    induction n with
    | zero =>
      intro v2 v3 v4 S H locs hW ls hl hf
      exact absurd hf (by intro h; cases h)
    | succ n ih =>
      intro v2 v3 v4 S H locs hW ls hl hf
      rw [fX5_differenceFrom_b5] at hf
      refine lv_iload (pc := 5) hx hb dX5_differenceFrom_5 (lv_at hl 4 rfl) ?_
      refine lv_aload_n (pc := 7) hx hb dX5_differenceFrom_7 rfl (lv_at hl 0 rfl) ?_
      refine xg_602 (pc := 8) C0 hu_5 hW mX_399 dX5_differenceFrom_8 ?_
      refine lv_icmp_ge (pc := 11) (tgt := 46) hx hb dX5_differenceFrom_11 (by decide) (fun c1 => ?_) (fun c1 => ?_)
      · have hf := zt c1 hf
        refine lv_iload_n (pc := 46) hx hb dX5_differenceFrom_46 rfl (lv_at hl 3 rfl) ?_
        exact zend_i (w := wX cA h) fin hf hW dX5_differenceFrom_47
      · have hf := zf c1 hf
        refine lv_iload_n (pc := 14) hx hb dX5_differenceFrom_14 rfl (lv_at hl 3 rfl) ?_
        refine lv_aload_n (pc := 15) hx hb dX5_differenceFrom_15 rfl (lv_at hl 1 rfl) ?_
        refine lv_iload_n (pc := 16) hx hb dX5_differenceFrom_16 rfl (lv_at hl 2 rfl) ?_
        refine lv_aload_n (pc := 17) hx hb dX5_differenceFrom_17 rfl (lv_at hl 0 rfl) ?_
        refine xg_600 (pc := 18) C0 hu_5 hW mX_396 dX5_differenceFrom_18 ?_
        refine lv_iload (pc := 21) hx hb dX5_differenceFrom_21 (lv_at hl 4 rfl) ?_
        obtain ⟨i2, hf⟩ := zn hf
        refine xl_600 (pc := 23) C0 hW i2 dX5_differenceFrom_23 ?_
        obtain ⟨r3, S4, e5, hf⟩ := zB_e hf
        refine zcVi (zEX_ok tt) (As := [.int v2, .int (S.2.1 600 (Int32.toNatClampNeg v4))]) (pc := 24) C0 hW (kX4_riseBy l D cA h tt H.size N v2 (S.2.1 600 (Int32.toNatClampNeg v4)) S r3 S4 e5) (cwV 2 hts (zgV gaX mX_412 mX_240 mX_241 mX_231 mX_242) rfl rfl rfl (by decide +kernel) ⟨Nat.le_of_ble_eq_true rfl, Nat.le_of_ble_eq_true rfl⟩) (va_recv hW.1 hW.2.1 (ci := 4) (q0 := 4) rfl rfl) rfl hl.1 rfl (Nat.le_of_ble_eq_true rfl) dX5_differenceFrom_24 (fun H locs hW => ?_)
        refine lv_aload_n (pc := 27) hx hb dX5_differenceFrom_27 rfl (lv_at hl 0 rfl) ?_
        refine xg_601 (pc := 28) C0 hu_5 hW mX_397 dX5_differenceFrom_28 ?_
        refine lv_iload (pc := 31) hx hb dX5_differenceFrom_31 (lv_at hl 4 rfl) ?_
        obtain ⟨i6, hf⟩ := zn hf
        refine xl_601 (pc := 33) C0 hW i6 dX5_differenceFrom_33 ?_
        refine lv_isub (pc := 34) hx hb dX5_differenceFrom_34 ?_
        refine va_mabs (pc := 35) hx hb (C0.2.2.1.trans hl.1.symm) hown (hts _ mX_409) (hts _ mX_410) (hts _ mX_28) (hts _ mX_411) (Nat.le_of_ble_eq_true rfl) (Nat.le_of_ble_eq_true rfl) (Nat.zero_le _) (Nat.zero_le _) dX5_differenceFrom_35 ?_
        refine lv_iadd (pc := 38) hx hb dX5_differenceFrom_38 ?_
        obtain ⟨x7, e_x7, hf⟩ := zL_e hf
        refine ztopi e_x7 ?_
        refine lv_istore_n (pc := 39) (lv' := [(3, .int x7), (0, .ref (h 5)), (1, .ref (h 4)), (2, .int v2), (4, .int v4)]) hx hb dX5_differenceFrom_39 rfl hl (by decide) rfl (fun ls hl => ?_)
        refine lv_iinc (pc := 40) (v := (v4 + 1)) (lv' := [(4, .int (v4 + 1)), (3, .int x7), (0, .ref (h 5)), (1, .ref (h 4)), (2, .int v2)]) hx hb dX5_differenceFrom_40 hl (k := 4) rfl (by rfl) (by decide) rfl (fun ls hl => ?_)
        refine lv_goto (pc := 43) (tgt := 5) hx hb dX5_differenceFrom_43 (by decide) ?_
        exact ih v2 x7 (v4 + 1) S4 H locs hW ls (lv_sub hl [2, 3, 4, 1, 0] rfl) hf
  unfold fX5_differenceFrom at hf
  refine lv_iconst (pc := 0) (v := 0) hx hb dX5_differenceFrom_0 (by decide) ?_
  refine lv_istore_n (pc := 1) (lv' := [(3, .int 0), (0, .ref (h 5)), (1, .ref (h 4)), (2, .int p2)]) hx hb dX5_differenceFrom_1 rfl hl (by decide) rfl (fun ls hl => ?_)
  refine lv_iconst (pc := 2) (v := 0) hx hb dX5_differenceFrom_2 (by decide) ?_
  refine lv_istore (pc := 3) (lv' := [(4, .int 0), (3, .int 0), (0, .ref (h 5)), (1, .ref (h 4)), (2, .int p2)]) hx hb dX5_differenceFrom_3 hl (by decide) rfl (fun ls hl => ?_)
  exact w5 N p2 0 0 S H locs hW ls (lv_sub hl [2, 3, 4, 1, 0] rfl) hf

def fX5_nearestOf_b4 (N : Nat) : Nat → Int32 → Int32 → zSt → Option (Int32 × zSt)
  | 0, _, _, _ => none
  | n + 1, v2, v3, S =>
    if (S.1 505) ≤ v3 then (some (v2, S)) else (zB (fX5_differenceFrom N v3 S) fun r2 S3 => zB (fX5_differenceFrom N v2 S3) fun r5 S6 => if r5 ≤ r2 then (fX5_nearestOf_b4 N n v2 (v3 + 1) S6) else (fX5_nearestOf_b4 N n v3 (v3 + 1) S6))
def fX5_nearestOf (N : Nat) (S : zSt) : Option (Int32 × zSt) :=
  fX5_nearestOf_b4 N N 0 1 S
abbrev wX5_nearestOf : List Cond := Cond.code yX5_nearestOf cX5_nearestOf 4 (some .int) :: waX
abbrev rmX5_nearestOf : Room := { frames := 6, cells := 0, slots := 0, locals := 139 }
set_option maxHeartbeats 4000000 in
set_option maxRecDepth 100000 in
theorem kX5_nearestOf (l : Launch) (D : va_G) (cA : Nat → ClassId) (h tt : Nat → Nat) (sz : Nat) (N : Nat)   (S : zSt) (r : Int32) (S1 : zSt) (hf : fX5_nearestOf N S = some (r, S1)) : zMi l yX5_nearestOf wX5_nearestOf rmX5_nearestOf (zEX tt) D (tX cA) (hsX h) [.ref (h 5), .ref (h 4)] (wX cA h S) (wX cA h S1) sz r := by
  refine zEn_i (cc := cX5_nearestOf) (maxL := 4) (own := RX5) (by decide) rfl rfl (hmX cA h S) (Nat.le_of_ble_eq_true rfl) ?_
  intro p e s m args below meth c Q H locs C0 hW fin ls hl
  have hl : lv_has ls 4 [(0, .ref (h 5)), (1, .ref (h 4))] := hl
  have hx := C0.1
  have hb := C0.2.1
  have hown := C0.2.2.2.1
  have hts := C0.2.2.2.2
  have w4 : ∀ (n : Nat), ∀ (v2 : Int32) (v3 : Int32) (S : zSt) (H : Heap) (locs : List Loc), zW (zEX tt) D (tX cA) (wX cA h S) (aW (hsX h) s.heap.size) s H locs → ∀ ls : Array Slot, lv_has ls 4 [(0, .ref (h 5)), (1, .ref (h 4)), (2, .int v2), (3, .int v3)] → fX5_nearestOf_b4 N n v2 v3 S = some (r, S1) → W p l e rmX5_nearestOf s m args below meth c H locs 0 0 Q (F0 m 4 ls []) := by
    intro n
    induction n with
    | zero =>
      intro v2 v3 S H locs hW ls hl hf
      exact absurd hf (by intro h; cases h)
    | succ n ih =>
      intro v2 v3 S H locs hW ls hl hf
      rw [fX5_nearestOf_b4] at hf
      refine lv_iload_n (pc := 4) hx hb dX5_nearestOf_4 rfl (lv_at hl 3 rfl) ?_
      refine lv_aload_n (pc := 5) hx hb dX5_nearestOf_5 rfl (lv_at hl 1 rfl) ?_
      refine xg_505 (pc := 6) C0 hu_4 hW mX_414 dX5_nearestOf_6 ?_
      refine lv_icmp_ge (pc := 9) (tgt := 35) hx hb dX5_nearestOf_9 (by decide) (fun c1 => ?_) (fun c1 => ?_)
      · have hf := zt c1 hf
        refine lv_iload_n (pc := 35) hx hb dX5_nearestOf_35 rfl (lv_at hl 2 rfl) ?_
        exact zend_i (w := wX cA h) fin hf hW dX5_nearestOf_36
      · have hf := zf c1 hf
        refine lv_aload_n (pc := 12) hx hb dX5_nearestOf_12 rfl (lv_at hl 0 rfl) ?_
        refine lv_aload_n (pc := 13) hx hb dX5_nearestOf_13 rfl (lv_at hl 1 rfl) ?_
        refine lv_iload_n (pc := 14) hx hb dX5_nearestOf_14 rfl (lv_at hl 3 rfl) ?_
        obtain ⟨r2, S3, e4, hf⟩ := zB_e hf
        refine zcVi (zEX_ok tt) (As := [.ref (h 4), .int v3]) (pc := 15) C0 hW (kX5_differenceFrom l D cA h tt H.size N v3 S r2 S3 e4) (cwV 2 hts (zgV gaX mX_415 mX_416 mX_417 mX_407 mX_408) rfl rfl rfl (by decide +kernel) ⟨Nat.le_of_ble_eq_true rfl, Nat.le_of_ble_eq_true rfl⟩) (va_recv hW.1 hW.2.1 (ci := 5) (q0 := 5) rfl rfl) rfl hl.1 rfl (Nat.le_of_ble_eq_true rfl) dX5_nearestOf_15 (fun H locs hW => ?_)
        refine lv_aload_n (pc := 18) hx hb dX5_nearestOf_18 rfl (lv_at hl 0 rfl) ?_
        refine lv_aload_n (pc := 19) hx hb dX5_nearestOf_19 rfl (lv_at hl 1 rfl) ?_
        refine lv_iload_n (pc := 20) hx hb dX5_nearestOf_20 rfl (lv_at hl 2 rfl) ?_
        obtain ⟨r5, S6, e7, hf⟩ := zB_e hf
        refine zcVi (zEX_ok tt) (As := [.ref (h 4), .int v2]) (pc := 21) C0 hW (kX5_differenceFrom l D cA h tt H.size N v2 S3 r5 S6 e7) (cwV 2 hts (zgV gaX mX_415 mX_416 mX_417 mX_407 mX_408) rfl rfl rfl (by decide +kernel) ⟨Nat.le_of_ble_eq_true rfl, Nat.le_of_ble_eq_true rfl⟩) (va_recv hW.1 hW.2.1 (ci := 5) (q0 := 5) rfl rfl) rfl hl.1 rfl (Nat.le_of_ble_eq_true rfl) dX5_nearestOf_21 (fun H locs hW => ?_)
        refine lv_icmp_ge (pc := 24) (tgt := 29) hx hb dX5_nearestOf_24 (by decide) (fun c8 => ?_) (fun c8 => ?_)
        · have hf := zt c8 hf
          refine lv_iinc (pc := 29) (v := (v3 + 1)) (lv' := [(3, .int (v3 + 1)), (0, .ref (h 5)), (1, .ref (h 4)), (2, .int v2)]) hx hb dX5_nearestOf_29 hl (k := 3) rfl (by rfl) (by decide) rfl (fun ls hl => ?_)
          refine lv_goto (pc := 32) (tgt := 4) hx hb dX5_nearestOf_32 (by decide) ?_
          exact ih v2 (v3 + 1) S6 H locs hW ls (lv_sub hl [1, 2, 3, 0] rfl) hf
        · have hf := zf c8 hf
          refine lv_iload_n (pc := 27) hx hb dX5_nearestOf_27 rfl (lv_at hl 3 rfl) ?_
          refine lv_istore_n (pc := 28) (lv' := [(2, .int v3), (0, .ref (h 5)), (1, .ref (h 4)), (3, .int v3)]) hx hb dX5_nearestOf_28 rfl hl (by decide) rfl (fun ls hl => ?_)
          refine lv_iinc (pc := 29) (v := (v3 + 1)) (lv' := [(3, .int (v3 + 1)), (2, .int v3), (0, .ref (h 5)), (1, .ref (h 4))]) hx hb dX5_nearestOf_29 hl (k := 3) rfl (by rfl) (by decide) rfl (fun ls hl => ?_)
          refine lv_goto (pc := 32) (tgt := 4) hx hb dX5_nearestOf_32 (by decide) ?_
          exact ih v3 (v3 + 1) S6 H locs hW ls (lv_sub hl [2, 3, 1, 0] rfl) hf
  unfold fX5_nearestOf at hf
  refine lv_iconst (pc := 0) (v := 0) hx hb dX5_nearestOf_0 (by decide) ?_
  refine lv_istore_n (pc := 1) (lv' := [(2, .int 0), (0, .ref (h 5)), (1, .ref (h 4))]) hx hb dX5_nearestOf_1 rfl hl (by decide) rfl (fun ls hl => ?_)
  refine lv_iconst (pc := 2) (v := 1) hx hb dX5_nearestOf_2 (by decide) ?_
  refine lv_istore_n (pc := 3) (lv' := [(3, .int 1), (2, .int 0), (0, .ref (h 5)), (1, .ref (h 4))]) hx hb dX5_nearestOf_3 rfl hl (by decide) rfl (fun ls hl => ?_)
  exact w4 N 0 1 S H locs hW ls (lv_sub hl [2, 3, 1, 0] rfl) hf

def fX11_hasBit (p1 : Int32) (p2 : Int32): Option Int32 :=
  if ((p1 >>> (p2 &&& 31)) &&& 1) = 1 then (some 1) else (some 0)
abbrev wX11_hasBit : List Cond := Cond.code yX11_hasBit cX11_hasBit 2 (some .boolean) :: waX
abbrev rmX11_hasBit : Room := { frames := 0, cells := 0, slots := 0, locals := 0 }
set_option maxHeartbeats 4000000 in
set_option maxRecDepth 100000 in
theorem kX11_hasBit (l : Launch) (sz : Nat) (p1 : Int32) (p2 : Int32) (r : Int32) (hf : fX11_hasBit p1 p2 = some r) : zMs l yX11_hasBit wX11_hasBit rmX11_hasBit [.int p1, .int p2] sz r := by
  refine zEs_z (cc := cX11_hasBit) (maxL := 2) (own := RX11) (by decide) rfl rfl (Nat.le_of_ble_eq_true rfl) ?_
  intro p e s m args below meth c Q H locs C0 hW fin ls hl
  have hl : lv_has ls 2 [(0, .int p1), (1, .int p2)] := hl
  have hx := C0.1
  have hb := C0.2.1
  have hown := C0.2.2.2.1
  have hts := C0.2.2.2.2
  unfold fX11_hasBit at hf
  refine lv_iload_n (pc := 0) hx hb dX11_hasBit_0 rfl (lv_at hl 0 rfl) ?_
  refine lv_iload_n (pc := 1) hx hb dX11_hasBit_1 rfl (lv_at hl 1 rfl) ?_
  refine lv_ishr (pc := 2) hx hb dX11_hasBit_2 ?_
  refine lv_iconst (pc := 3) (v := 1) hx hb dX11_hasBit_3 (by decide) ?_
  refine lv_iand (pc := 4) hx hb dX11_hasBit_4 ?_
  refine lv_iconst (pc := 5) (v := 1) hx hb dX11_hasBit_5 (by decide) ?_
  refine lv_icmp_ne (pc := 6) (tgt := 13) hx hb dX11_hasBit_6 (by decide) (fun c1 => ?_) (fun c1 => ?_)
  · have hf := zf c1 hf
    refine lv_iconst (pc := 13) (v := 0) hx hb dX11_hasBit_13 (by decide) ?_
    exact zens_z fin hf (by decide) hW dX11_hasBit_14
  · have hf := zt c1 hf
    refine lv_iconst (pc := 9) (v := 1) hx hb dX11_hasBit_9 (by decide) ?_
    refine lv_goto (pc := 10) (tgt := 14) hx hb dX11_hasBit_10 (by decide) ?_
    exact zens_z fin hf (by decide) hW dX11_hasBit_14

def fX7_has (p1 : Int32) (S : zSt) : Option (Int32 × zSt) :=
  if p1 < 0 then (some (0, S)) else (if (S.1 801) ≤ p1 then (some (0, S)) else (some (1, S)))
abbrev wX7_has : List Cond := Cond.code yX7_has cX7_has 2 (some .boolean) :: waX
abbrev rmX7_has : Room := { frames := 0, cells := 0, slots := 0, locals := 0 }
set_option maxHeartbeats 4000000 in
set_option maxRecDepth 100000 in
theorem kX7_has (l : Launch) (D : va_G) (cA : Nat → ClassId) (h tt : Nat → Nat) (sz : Nat)  (p1 : Int32) (S : zSt) (r : Int32) (S1 : zSt) (hf : fX7_has p1 S = some (r, S1)) : zMi l yX7_has wX7_has rmX7_has (zEX tt) D (tX cA) (hsX h) [.ref (h 7), .int p1] (wX cA h S) (wX cA h S1) sz r := by
  refine zEn_z (cc := cX7_has) (maxL := 2) (own := RX7) (by decide) rfl rfl (hmX cA h S) (Nat.le_of_ble_eq_true rfl) ?_
  intro p e s m args below meth c Q H locs C0 hW fin ls hl
  have hl : lv_has ls 2 [(0, .ref (h 7)), (1, .int p1)] := hl
  have hx := C0.1
  have hb := C0.2.1
  have hown := C0.2.2.2.1
  have hts := C0.2.2.2.2
  unfold fX7_has at hf
  refine lv_iload_n (pc := 0) hx hb dX7_has_0 rfl (lv_at hl 1 rfl) ?_
  refine lv_if_lt (pc := 1) (tgt := 16) hx hb dX7_has_1 (by decide) (fun c1 => ?_) (fun c1 => ?_)
  · have hf := zt c1 hf
    refine lv_iconst (pc := 16) (v := 0) hx hb dX7_has_16 (by decide) ?_
    exact zend_z (w := wX cA h) fin hf (by decide) hW dX7_has_17
  · have hf := zf c1 hf
    refine lv_iload_n (pc := 4) hx hb dX7_has_4 rfl (lv_at hl 1 rfl) ?_
    refine lv_aload_n (pc := 5) hx hb dX7_has_5 rfl (lv_at hl 0 rfl) ?_
    refine xg_801 (pc := 6) C0 hu_7 hW mX_426 dX7_has_6 ?_
    refine lv_icmp_ge (pc := 9) (tgt := 16) hx hb dX7_has_9 (by decide) (fun c2 => ?_) (fun c2 => ?_)
    · have hf := zt c2 hf
      refine lv_iconst (pc := 16) (v := 0) hx hb dX7_has_16 (by decide) ?_
      exact zend_z (w := wX cA h) fin hf (by decide) hW dX7_has_17
    · have hf := zf c2 hf
      refine lv_iconst (pc := 12) (v := 1) hx hb dX7_has_12 (by decide) ?_
      refine lv_goto (pc := 13) (tgt := 17) hx hb dX7_has_13 (by decide) ?_
      exact zend_z (w := wX cA h) fin hf (by decide) hW dX7_has_17

def fX6_take_b102 (N : Nat) (v4 : Int32) (S : zSt) : Option (Int32 × zSt) :=
  zL (zI S 705 v4) fun S1 => zU (fX6_turnAround N 0 (v4 - 1) S1) fun S3 => some (1, S3)
def fX6_take_b30 (N : Nat) : Nat → Int32 → Int32 → Int32 → zSt → Option (Int32 × zSt)
  | 0, _, _, _, _ => none
  | n + 1, v3, v4, v5, S =>
    if 5 ≤ v4 then (fX6_take_b102 N v4 S) else (if v5 ≤ 0 then (fX6_take_b102 N v4 S) else (zB (fX7_has ((v5 - v5 / 10 * 10) - 1) S) fun r7 S8 => if r7 = 0 then (some (0, S8)) else (zU (fX11_hasBit v3 ((v5 - v5 / 10 * 10) - 1)) fun r11 => if r11 = 0 then (zL ((v3 ||| (1 <<< (((v5 - v5 / 10 * 10) - 1) &&& 31)))) fun (x15 : Int32) => if zin v4 8 then zL (zA S8 701 (Int32.toNatClampNeg v4) ((v5 - v5 / 10 * 10) - 1)) fun S17 => fX6_take_b30 N n x15 (v4 + 1) (v5 / 10) S17 else none) else (some (0, S8)))))
def fX6_take (N : Nat) (p1 : Int32) (p2 : Int32) (S : zSt) : Option (Int32 × zSt) :=
  zL (zI S 705 0) fun S18 => zL (zI S18 706 p2) fun S19 => zU (fX11_isWithin p1 1 99999) fun r20 => if r20 = 0 then (some (0, S19)) else (fX6_take_b30 N N 0 0 p1 S19)
abbrev wX6_take : List Cond := Cond.code yX6_take cX6_take 7 (some .boolean) :: waX
abbrev rmX6_take : Room := { frames := 2, cells := 0, slots := 0, locals := 47 }
set_option maxHeartbeats 4000000 in
set_option maxRecDepth 100000 in
theorem kX6_take (l : Launch) (D : va_G) (cA : Nat → ClassId) (h tt : Nat → Nat) (sz : Nat) (N : Nat)  (p1 : Int32) (p2 : Int32) (S : zSt) (r : Int32) (S1 : zSt) (hf : fX6_take N p1 p2 S = some (r, S1)) : zMi l yX6_take wX6_take rmX6_take (zEX tt) D (tX cA) (hsX h) [.ref (h 6), .int p1, .int p2] (wX cA h S) (wX cA h S1) sz r := by
  refine zEn_z (cc := cX6_take) (maxL := 7) (own := RX6) (by decide) rfl rfl (hmX cA h S) (Nat.le_of_ble_eq_true rfl) ?_
  intro p e s m args below meth c Q H locs C0 hW fin ls hl
  have hl : lv_has ls 7 [(0, .ref (h 6)), (1, .int p1), (2, .int p2)] := hl
  have hx := C0.1
  have hb := C0.2.1
  have hown := C0.2.2.2.1
  have hts := C0.2.2.2.2
  have w102 : ∀ (v4 : Int32) (S : zSt) (H : Heap) (locs : List Loc), zW (zEX tt) D (tX cA) (wX cA h S) (aW (hsX h) s.heap.size) s H locs → ∀ ls : Array Slot, lv_has ls 7 [(0, .ref (h 6)), (4, .int v4)] → fX6_take_b102 N v4 S = some (r, S1) → W p l e rmX6_take s m args below meth c H locs 0 0 Q (F0 m 102 ls []) := by
    intro v4 S H locs hW ls hl hf
    unfold fX6_take_b102 at hf
    refine lv_aload_n (pc := 102) hx hb dX6_take_102 rfl (lv_at hl 0 rfl) ?_
    refine lv_iload (pc := 103) hx hb dX6_take_103 (lv_at hl 1 rfl) ?_
    obtain ⟨S1, e_S1, hf⟩ := zL_e hf
    refine xp_705 (pc := 105) C0 hu_6 hW mX_135 e_S1 dX6_take_105 (fun H locs hW => ?_)
    refine lv_aload_n (pc := 108) hx hb dX6_take_108 rfl (lv_at hl 0 rfl) ?_
    refine lv_iconst (pc := 109) (v := 0) hx hb dX6_take_109 (by decide) ?_
    refine lv_iload (pc := 110) hx hb dX6_take_110 (lv_at hl 1 rfl) ?_
    refine lv_iconst (pc := 112) (v := 1) hx hb dX6_take_112 (by decide) ?_
    refine lv_isub (pc := 113) hx hb dX6_take_113 ?_
    obtain ⟨S3, e4, hf⟩ := zU_e hf
    refine zcVv (zEX_ok tt) (As := [.int 0, .int (v4 - 1)]) (pc := 114) C0 hW (kX6_turnAround l D cA h tt H.size N 0 (v4 - 1) S1 S3 e4) (cwV 2 hts (zgV gaX mX_218 mX_219 mX_220 mX_133 mX_221) rfl rfl rfl (by decide +kernel) ⟨Nat.le_of_ble_eq_true rfl, Nat.le_of_ble_eq_true rfl⟩) (va_recv hW.1 hW.2.1 (ci := 6) (q0 := 6) rfl rfl) rfl hl.1 rfl (Nat.le_of_ble_eq_true rfl) dX6_take_114 (fun H locs hW => ?_)
    refine lv_iconst (pc := 117) (v := 1) hx hb dX6_take_117 (by decide) ?_
    exact zend_z (w := wX cA h) fin hf (by decide) hW dX6_take_118
  have w30 : ∀ (n : Nat), ∀ (v3 : Int32) (v4 : Int32) (v5 : Int32) (S : zSt) (H : Heap) (locs : List Loc), zW (zEX tt) D (tX cA) (wX cA h S) (aW (hsX h) s.heap.size) s H locs → ∀ ls : Array Slot, lv_has ls 7 [(0, .ref (h 6)), (3, .int v3), (4, .int v4), (5, .int v5)] → fX6_take_b30 N n v3 v4 v5 S = some (r, S1) → W p l e rmX6_take s m args below meth c H locs 0 0 Q (F0 m 30 ls []) := by
    intro n
    induction n with
    | zero =>
      intro v3 v4 v5 S H locs hW ls hl hf
      exact absurd hf (by intro h; cases h)
    | succ n ih =>
      intro v3 v4 v5 S H locs hW ls hl hf
      rw [fX6_take_b30] at hf
      refine lv_iload (pc := 30) hx hb dX6_take_30 (lv_at hl 2 rfl) ?_
      refine lv_iconst (pc := 32) (v := 5) hx hb dX6_take_32 (by decide) ?_
      refine lv_icmp_ge (pc := 33) (tgt := 102) hx hb dX6_take_33 (by decide) (fun c5 => ?_) (fun c5 => ?_)
      · have hf := zt c5 hf
        exact w102 v4 S H locs hW ls (lv_sub hl [0, 2] rfl) hf
      · have hf := zf c5 hf
        refine lv_iload (pc := 36) hx hb dX6_take_36 (lv_at hl 3 rfl) ?_
        refine lv_if_le (pc := 38) (tgt := 102) hx hb dX6_take_38 (by decide) (fun c6 => ?_) (fun c6 => ?_)
        · have hf := zt c6 hf
          exact w102 v4 S H locs hW ls (lv_sub hl [0, 2] rfl) hf
        · have hf := zf c6 hf
          refine lv_iload (pc := 41) hx hb dX6_take_41 (lv_at hl 3 rfl) ?_
          refine lv_bipush (pc := 43) (v := 10) hx hb dX6_take_43 (by decide) ?_
          refine lv_irem (pc := 45) hx hb dX6_take_45 (by decide) ?_
          refine lv_iconst (pc := 46) (v := 1) hx hb dX6_take_46 (by decide) ?_
          refine lv_isub (pc := 47) hx hb dX6_take_47 ?_
          refine lv_istore (pc := 48) (lv' := [(6, .int ((v5 - v5 / 10 * 10) - 1)), (0, .ref (h 6)), (3, .int v3), (4, .int v4), (5, .int v5)]) hx hb dX6_take_48 hl (by decide) rfl (fun ls hl => ?_)
          refine lv_aload_n (pc := 50) hx hb dX6_take_50 rfl (lv_at hl 1 rfl) ?_
          refine xg_700 (pc := 51) C0 hu_6 hW mX_138 dX6_take_51 ?_
          refine lv_iload (pc := 54) hx hb dX6_take_54 (lv_at hl 0 rfl) ?_
          obtain ⟨r7, S8, e9, hf⟩ := zB_e hf
          refine zcVi (zEX_ok tt) (As := [.int ((v5 - v5 / 10 * 10) - 1)]) (pc := 56) C0 hW (kX7_has l D cA h tt H.size ((v5 - v5 / 10 * 10) - 1) S r7 S8 e9) (cwV 1 hts (zgV gaX mX_422 mX_423 mX_424 mX_72 mX_425) rfl rfl rfl (by decide +kernel) ⟨Nat.le_of_ble_eq_true rfl, Nat.le_of_ble_eq_true rfl⟩) (va_recv hW.1 hW.2.1 (ci := 7) (q0 := 7) rfl rfl) rfl hl.1 rfl (Nat.le_of_ble_eq_true rfl) dX6_take_56 (fun H locs hW => ?_)
          refine lv_if_eq (pc := 59) (tgt := 71) hx hb dX6_take_59 (by decide) (fun c10 => ?_) (fun c10 => ?_)
          · have hf := zt c10 hf
            refine lv_iconst (pc := 71) (v := 0) hx hb dX6_take_71 (by decide) ?_
            exact zend_z (w := wX cA h) fin hf (by decide) hW dX6_take_72
          · have hf := zf c10 hf
            refine lv_iload_n (pc := 62) hx hb dX6_take_62 rfl (lv_at hl 2 rfl) ?_
            refine lv_iload (pc := 63) hx hb dX6_take_63 (lv_at hl 0 rfl) ?_
            obtain ⟨r11, e13, hf⟩ := zU_e hf
            refine zcNi (As := [.int v3, .int ((v5 - v5 / 10 * 10) - 1)]) (pc := 65) C0 hW (kX11_hasBit l H.size v3 ((v5 - v5 / 10 * 10) - 1) r11 e13) ⟨va_cnB 2 hts (zgN gaX mX_428) rfl rfl rfl hW.2.2.2.2.2.2.2.2.2.2.2.2.2.2.2.2.2.2.2.2.1 (hts _ mX_151) (by decide +kernel) ⟨Nat.le_of_ble_eq_true rfl, Nat.le_of_ble_eq_true rfl⟩, hts _ mX_427, trivial⟩ rfl hl.1 rfl (Nat.le_of_ble_eq_true rfl) dX6_take_65 (fun H locs hW => ?_)
            refine lv_if_eq (pc := 68) (tgt := 73) hx hb dX6_take_68 (by decide) (fun c14 => ?_) (fun c14 => ?_)
            · have hf := zt c14 hf
              refine lv_iload_n (pc := 73) hx hb dX6_take_73 rfl (lv_at hl 2 rfl) ?_
              refine lv_iconst (pc := 74) (v := 1) hx hb dX6_take_74 (by decide) ?_
              refine lv_iload (pc := 75) hx hb dX6_take_75 (lv_at hl 0 rfl) ?_
              refine lv_ishl (pc := 77) hx hb dX6_take_77 ?_
              refine lv_ior (pc := 78) hx hb dX6_take_78 ?_
              obtain ⟨x15, e_x15, hf⟩ := zL_e hf
              refine ztopi e_x15 ?_
              refine lv_istore_n (pc := 79) (lv' := [(3, .int x15), (6, .int ((v5 - v5 / 10 * 10) - 1)), (0, .ref (h 6)), (4, .int v4), (5, .int v5)]) hx hb dX6_take_79 rfl hl (by decide) rfl (fun ls hl => ?_)
              refine lv_aload_n (pc := 80) hx hb dX6_take_80 rfl (lv_at hl 2 rfl) ?_
              refine xg_701 (pc := 81) C0 hu_6 hW mX_137 dX6_take_81 ?_
              refine lv_iload (pc := 84) hx hb dX6_take_84 (lv_at hl 3 rfl) ?_
              refine lv_iload (pc := 86) hx hb dX6_take_86 (lv_at hl 1 rfl) ?_
              obtain ⟨i16, hf⟩ := zn hf
              obtain ⟨S17, e_S17, hf⟩ := zL_e hf
              refine xs_s701 (pc := 88) C0 hW i16 e_S17 dX6_take_88 (fun H locs hW => ?_)
              refine lv_iinc (pc := 89) (v := (v4 + 1)) (lv' := [(4, .int (v4 + 1)), (3, .int x15), (6, .int ((v5 - v5 / 10 * 10) - 1)), (0, .ref (h 6)), (5, .int v5)]) hx hb dX6_take_89 hl (k := 3) rfl (by rfl) (by decide) rfl (fun ls hl => ?_)
              refine lv_iload (pc := 92) hx hb dX6_take_92 (lv_at hl 4 rfl) ?_
              refine lv_bipush (pc := 94) (v := 10) hx hb dX6_take_94 (by decide) ?_
              refine lv_idiv (pc := 96) hx hb dX6_take_96 (by decide) ?_
              refine lv_istore (pc := 97) (lv' := [(5, .int (v5 / 10)), (4, .int (v4 + 1)), (3, .int x15), (6, .int ((v5 - v5 / 10 * 10) - 1)), (0, .ref (h 6))]) hx hb dX6_take_97 hl (by decide) rfl (fun ls hl => ?_)
              refine lv_goto (pc := 99) (tgt := 30) hx hb dX6_take_99 (by decide) ?_
              exact ih x15 (v4 + 1) (v5 / 10) S17 H locs hW ls (lv_sub hl [4, 2, 1, 0] rfl) hf
            · have hf := zf c14 hf
              refine lv_iconst (pc := 71) (v := 0) hx hb dX6_take_71 (by decide) ?_
              exact zend_z (w := wX cA h) fin hf (by decide) hW dX6_take_72
  unfold fX6_take at hf
  refine lv_aload_n (pc := 0) hx hb dX6_take_0 rfl (lv_at hl 0 rfl) ?_
  refine lv_iconst (pc := 1) (v := 0) hx hb dX6_take_1 (by decide) ?_
  obtain ⟨S18, e_S18, hf⟩ := zL_e hf
  refine xp_705 (pc := 2) C0 hu_6 hW mX_135 e_S18 dX6_take_2 (fun H locs hW => ?_)
  refine lv_aload_n (pc := 5) hx hb dX6_take_5 rfl (lv_at hl 0 rfl) ?_
  refine lv_iload_n (pc := 6) hx hb dX6_take_6 rfl (lv_at hl 2 rfl) ?_
  obtain ⟨S19, e_S19, hf⟩ := zL_e hf
  refine xp_706 (pc := 7) C0 hu_6 hW mX_157 e_S19 dX6_take_7 (fun H locs hW => ?_)
  refine lv_iload_n (pc := 10) hx hb dX6_take_10 rfl (lv_at hl 1 rfl) ?_
  refine lv_iconst (pc := 11) (v := 1) hx hb dX6_take_11 (by decide) ?_
  refine lv_ldc (pc := 12) (v := 99999) hx hb hown (hts _ mX_421) dX6_take_12 ?_
  obtain ⟨r20, e22, hf⟩ := zU_e hf
  refine zcNi (As := [.int p1, .int 1, .int 99999]) (pc := 14) C0 hW (kX11_isWithin l H.size p1 1 99999 r20 e22) ⟨va_cnB 3 hts (zgN gaX mX_227) rfl rfl rfl hW.2.2.2.2.2.2.2.2.2.2.2.2.2.2.2.2.2.2.2.1 (hts _ mX_151) (by decide +kernel) ⟨Nat.le_of_ble_eq_true rfl, Nat.le_of_ble_eq_true rfl⟩, hts _ mX_226, trivial⟩ rfl hl.1 rfl (Nat.le_of_ble_eq_true rfl) dX6_take_14 (fun H locs hW => ?_)
  refine lv_if_ne (pc := 17) (tgt := 22) hx hb dX6_take_17 (by decide) (fun c23 => ?_) (fun c23 => ?_)
  · have hf := zf c23 hf
    refine lv_iconst (pc := 22) (v := 0) hx hb dX6_take_22 (by decide) ?_
    refine lv_istore_n (pc := 23) (lv' := [(3, .int 0), (0, .ref (h 6)), (1, .int p1), (2, .int p2)]) hx hb dX6_take_23 rfl hl (by decide) rfl (fun ls hl => ?_)
    refine lv_iconst (pc := 24) (v := 0) hx hb dX6_take_24 (by decide) ?_
    refine lv_istore (pc := 25) (lv' := [(4, .int 0), (3, .int 0), (0, .ref (h 6)), (1, .int p1), (2, .int p2)]) hx hb dX6_take_25 hl (by decide) rfl (fun ls hl => ?_)
    refine lv_iload_n (pc := 27) hx hb dX6_take_27 rfl (lv_at hl 3 rfl) ?_
    refine lv_istore (pc := 28) (lv' := [(5, .int p1), (4, .int 0), (3, .int 0), (0, .ref (h 6)), (1, .int p1), (2, .int p2)]) hx hb dX6_take_28 hl (by decide) rfl (fun ls hl => ?_)
    exact w30 N 0 0 p1 S19 H locs hW ls (lv_sub hl [3, 2, 1, 0] rfl) hf
  · have hf := zt c23 hf
    refine lv_iconst (pc := 20) (v := 0) hx hb dX6_take_20 (by decide) ?_
    exact zend_z (w := wX cA h) fin hf (by decide) hW dX6_take_21

def fX6_isRank (p1 : Int32) (S : zSt) : Option (Int32 × zSt) :=
  if p1 < 0 then (some (0, S)) else (if (S.1 705) ≤ p1 then (some (0, S)) else (some (1, S)))
abbrev wX6_isRank : List Cond := Cond.code yX6_isRank cX6_isRank 2 (some .boolean) :: waX
abbrev rmX6_isRank : Room := { frames := 0, cells := 0, slots := 0, locals := 0 }
set_option maxHeartbeats 4000000 in
set_option maxRecDepth 100000 in
theorem kX6_isRank (l : Launch) (D : va_G) (cA : Nat → ClassId) (h tt : Nat → Nat) (sz : Nat)  (p1 : Int32) (S : zSt) (r : Int32) (S1 : zSt) (hf : fX6_isRank p1 S = some (r, S1)) : zMi l yX6_isRank wX6_isRank rmX6_isRank (zEX tt) D (tX cA) (hsX h) [.ref (h 6), .int p1] (wX cA h S) (wX cA h S1) sz r := by
  refine zEn_z (cc := cX6_isRank) (maxL := 2) (own := RX6) (by decide) rfl rfl (hmX cA h S) (Nat.le_of_ble_eq_true rfl) ?_
  intro p e s m args below meth c Q H locs C0 hW fin ls hl
  have hl : lv_has ls 2 [(0, .ref (h 6)), (1, .int p1)] := hl
  have hx := C0.1
  have hb := C0.2.1
  have hown := C0.2.2.2.1
  have hts := C0.2.2.2.2
  unfold fX6_isRank at hf
  refine lv_iload_n (pc := 0) hx hb dX6_isRank_0 rfl (lv_at hl 1 rfl) ?_
  refine lv_if_lt (pc := 1) (tgt := 16) hx hb dX6_isRank_1 (by decide) (fun c1 => ?_) (fun c1 => ?_)
  · have hf := zt c1 hf
    refine lv_iconst (pc := 16) (v := 0) hx hb dX6_isRank_16 (by decide) ?_
    exact zend_z (w := wX cA h) fin hf (by decide) hW dX6_isRank_17
  · have hf := zf c1 hf
    refine lv_iload_n (pc := 4) hx hb dX6_isRank_4 rfl (lv_at hl 1 rfl) ?_
    refine lv_aload_n (pc := 5) hx hb dX6_isRank_5 rfl (lv_at hl 0 rfl) ?_
    refine xg_705 (pc := 6) C0 hu_6 hW mX_135 dX6_isRank_6 ?_
    refine lv_icmp_ge (pc := 9) (tgt := 16) hx hb dX6_isRank_9 (by decide) (fun c2 => ?_) (fun c2 => ?_)
    · have hf := zt c2 hf
      refine lv_iconst (pc := 16) (v := 0) hx hb dX6_isRank_16 (by decide) ?_
      exact zend_z (w := wX cA h) fin hf (by decide) hW dX6_isRank_17
    · have hf := zf c2 hf
      refine lv_iconst (pc := 12) (v := 1) hx hb dX6_isRank_12 (by decide) ?_
      refine lv_goto (pc := 13) (tgt := 17) hx hb dX6_isRank_13 (by decide) ?_
      exact zend_z (w := wX cA h) fin hf (by decide) hW dX6_isRank_17

def fX6_holdOf (p1 : Int32) (S : zSt) : Option (Int32 × zSt) :=
  zB (fX6_isRank p1 S) fun r1 S2 => if r1 = 0 then (some (0, S2)) else (if zin p1 8 then some ((S2.2.1 702 (Int32.toNatClampNeg p1)), S2) else none)
abbrev wX6_holdOf : List Cond := Cond.code yX6_holdOf cX6_holdOf 2 (some .int) :: waX
abbrev rmX6_holdOf : Room := { frames := 1, cells := 0, slots := 0, locals := 21 }
set_option maxHeartbeats 4000000 in
set_option maxRecDepth 100000 in
theorem kX6_holdOf (l : Launch) (D : va_G) (cA : Nat → ClassId) (h tt : Nat → Nat) (sz : Nat)  (p1 : Int32) (S : zSt) (r : Int32) (S1 : zSt) (hf : fX6_holdOf p1 S = some (r, S1)) : zMi l yX6_holdOf wX6_holdOf rmX6_holdOf (zEX tt) D (tX cA) (hsX h) [.ref (h 6), .int p1] (wX cA h S) (wX cA h S1) sz r := by
  refine zEn_i (cc := cX6_holdOf) (maxL := 2) (own := RX6) (by decide) rfl rfl (hmX cA h S) (Nat.le_of_ble_eq_true rfl) ?_
  intro p e s m args below meth c Q H locs C0 hW fin ls hl
  have hl : lv_has ls 2 [(0, .ref (h 6)), (1, .int p1)] := hl
  have hx := C0.1
  have hb := C0.2.1
  have hown := C0.2.2.2.1
  have hts := C0.2.2.2.2
  unfold fX6_holdOf at hf
  refine lv_aload_n (pc := 0) hx hb dX6_holdOf_0 rfl (lv_at hl 0 rfl) ?_
  refine lv_iload_n (pc := 1) hx hb dX6_holdOf_1 rfl (lv_at hl 1 rfl) ?_
  obtain ⟨r1, S2, e3, hf⟩ := zB_e hf
  refine zcVi (zEX_ok tt) (As := [.int p1]) (pc := 2) C0 hW (kX6_isRank l D cA h tt H.size p1 S r1 S2 e3) (cwV 1 hts (zgV gaX mX_430 mX_431 mX_432 mX_133 mX_433) rfl rfl rfl (by decide +kernel) ⟨Nat.le_of_ble_eq_true rfl, Nat.le_of_ble_eq_true rfl⟩) (va_recv hW.1 hW.2.1 (ci := 6) (q0 := 6) rfl rfl) rfl hl.1 rfl (Nat.le_of_ble_eq_true rfl) dX6_holdOf_2 (fun H locs hW => ?_)
  refine lv_if_eq (pc := 5) (tgt := 17) hx hb dX6_holdOf_5 (by decide) (fun c4 => ?_) (fun c4 => ?_)
  · have hf := zt c4 hf
    refine lv_iconst (pc := 17) (v := 0) hx hb dX6_holdOf_17 (by decide) ?_
    exact zend_i (w := wX cA h) fin hf hW dX6_holdOf_18
  · have hf := zf c4 hf
    refine lv_aload_n (pc := 8) hx hb dX6_holdOf_8 rfl (lv_at hl 0 rfl) ?_
    refine xg_702 (pc := 9) C0 hu_6 hW mX_136 dX6_holdOf_9 ?_
    refine lv_iload_n (pc := 12) hx hb dX6_holdOf_12 rfl (lv_at hl 1 rfl) ?_
    obtain ⟨i5, hf⟩ := zn hf
    refine xl_702 (pc := 13) C0 hW i5 dX6_holdOf_13 ?_
    refine lv_goto (pc := 14) (tgt := 18) hx hb dX6_holdOf_14 (by decide) ?_
    exact zend_i (w := wX cA h) fin hf hW dX6_holdOf_18

def fX6_pushOn (p1 : Int32) (S : zSt) : Option (Int32 × zSt) :=
  zB (fX6_isRank p1 S) fun r1 S2 => if r1 = 0 then (some (0, S2)) else (if zin p1 8 then some ((S2.2.1 703 (Int32.toNatClampNeg p1)), S2) else none)
abbrev wX6_pushOn : List Cond := Cond.code yX6_pushOn cX6_pushOn 2 (some .int) :: waX
abbrev rmX6_pushOn : Room := { frames := 1, cells := 0, slots := 0, locals := 21 }
set_option maxHeartbeats 4000000 in
set_option maxRecDepth 100000 in
theorem kX6_pushOn (l : Launch) (D : va_G) (cA : Nat → ClassId) (h tt : Nat → Nat) (sz : Nat)  (p1 : Int32) (S : zSt) (r : Int32) (S1 : zSt) (hf : fX6_pushOn p1 S = some (r, S1)) : zMi l yX6_pushOn wX6_pushOn rmX6_pushOn (zEX tt) D (tX cA) (hsX h) [.ref (h 6), .int p1] (wX cA h S) (wX cA h S1) sz r := by
  refine zEn_i (cc := cX6_pushOn) (maxL := 2) (own := RX6) (by decide) rfl rfl (hmX cA h S) (Nat.le_of_ble_eq_true rfl) ?_
  intro p e s m args below meth c Q H locs C0 hW fin ls hl
  have hl : lv_has ls 2 [(0, .ref (h 6)), (1, .int p1)] := hl
  have hx := C0.1
  have hb := C0.2.1
  have hown := C0.2.2.2.1
  have hts := C0.2.2.2.2
  unfold fX6_pushOn at hf
  refine lv_aload_n (pc := 0) hx hb dX6_pushOn_0 rfl (lv_at hl 0 rfl) ?_
  refine lv_iload_n (pc := 1) hx hb dX6_pushOn_1 rfl (lv_at hl 1 rfl) ?_
  obtain ⟨r1, S2, e3, hf⟩ := zB_e hf
  refine zcVi (zEX_ok tt) (As := [.int p1]) (pc := 2) C0 hW (kX6_isRank l D cA h tt H.size p1 S r1 S2 e3) (cwV 1 hts (zgV gaX mX_430 mX_431 mX_432 mX_133 mX_433) rfl rfl rfl (by decide +kernel) ⟨Nat.le_of_ble_eq_true rfl, Nat.le_of_ble_eq_true rfl⟩) (va_recv hW.1 hW.2.1 (ci := 6) (q0 := 6) rfl rfl) rfl hl.1 rfl (Nat.le_of_ble_eq_true rfl) dX6_pushOn_2 (fun H locs hW => ?_)
  refine lv_if_eq (pc := 5) (tgt := 17) hx hb dX6_pushOn_5 (by decide) (fun c4 => ?_) (fun c4 => ?_)
  · have hf := zt c4 hf
    refine lv_iconst (pc := 17) (v := 0) hx hb dX6_pushOn_17 (by decide) ?_
    exact zend_i (w := wX cA h) fin hf hW dX6_pushOn_18
  · have hf := zf c4 hf
    refine lv_aload_n (pc := 8) hx hb dX6_pushOn_8 rfl (lv_at hl 0 rfl) ?_
    refine xg_703 (pc := 9) C0 hu_6 hW mX_139 dX6_pushOn_9 ?_
    refine lv_iload_n (pc := 12) hx hb dX6_pushOn_12 rfl (lv_at hl 1 rfl) ?_
    obtain ⟨i5, hf⟩ := zn hf
    refine xl_703 (pc := 13) C0 hW i5 dX6_pushOn_13 ?_
    refine lv_goto (pc := 14) (tgt := 18) hx hb dX6_pushOn_14 (by decide) ?_
    exact zend_i (w := wX cA h) fin hf hW dX6_pushOn_18

def fX6_marginOf (p1 : Int32) (S : zSt) : Option (Int32 × zSt) :=
  zB (fX6_isRank p1 S) fun r1 S2 => if r1 = 0 then (some (0, S2)) else (if zin p1 8 then some ((S2.2.1 704 (Int32.toNatClampNeg p1)), S2) else none)
abbrev wX6_marginOf : List Cond := Cond.code yX6_marginOf cX6_marginOf 2 (some .int) :: waX
abbrev rmX6_marginOf : Room := { frames := 1, cells := 0, slots := 0, locals := 21 }
set_option maxHeartbeats 4000000 in
set_option maxRecDepth 100000 in
theorem kX6_marginOf (l : Launch) (D : va_G) (cA : Nat → ClassId) (h tt : Nat → Nat) (sz : Nat)  (p1 : Int32) (S : zSt) (r : Int32) (S1 : zSt) (hf : fX6_marginOf p1 S = some (r, S1)) : zMi l yX6_marginOf wX6_marginOf rmX6_marginOf (zEX tt) D (tX cA) (hsX h) [.ref (h 6), .int p1] (wX cA h S) (wX cA h S1) sz r := by
  refine zEn_i (cc := cX6_marginOf) (maxL := 2) (own := RX6) (by decide) rfl rfl (hmX cA h S) (Nat.le_of_ble_eq_true rfl) ?_
  intro p e s m args below meth c Q H locs C0 hW fin ls hl
  have hl : lv_has ls 2 [(0, .ref (h 6)), (1, .int p1)] := hl
  have hx := C0.1
  have hb := C0.2.1
  have hown := C0.2.2.2.1
  have hts := C0.2.2.2.2
  unfold fX6_marginOf at hf
  refine lv_aload_n (pc := 0) hx hb dX6_marginOf_0 rfl (lv_at hl 0 rfl) ?_
  refine lv_iload_n (pc := 1) hx hb dX6_marginOf_1 rfl (lv_at hl 1 rfl) ?_
  obtain ⟨r1, S2, e3, hf⟩ := zB_e hf
  refine zcVi (zEX_ok tt) (As := [.int p1]) (pc := 2) C0 hW (kX6_isRank l D cA h tt H.size p1 S r1 S2 e3) (cwV 1 hts (zgV gaX mX_430 mX_431 mX_432 mX_133 mX_433) rfl rfl rfl (by decide +kernel) ⟨Nat.le_of_ble_eq_true rfl, Nat.le_of_ble_eq_true rfl⟩) (va_recv hW.1 hW.2.1 (ci := 6) (q0 := 6) rfl rfl) rfl hl.1 rfl (Nat.le_of_ble_eq_true rfl) dX6_marginOf_2 (fun H locs hW => ?_)
  refine lv_if_eq (pc := 5) (tgt := 17) hx hb dX6_marginOf_5 (by decide) (fun c4 => ?_) (fun c4 => ?_)
  · have hf := zt c4 hf
    refine lv_iconst (pc := 17) (v := 0) hx hb dX6_marginOf_17 (by decide) ?_
    exact zend_i (w := wX cA h) fin hf hW dX6_marginOf_18
  · have hf := zf c4 hf
    refine lv_aload_n (pc := 8) hx hb dX6_marginOf_8 rfl (lv_at hl 0 rfl) ?_
    refine xg_704 (pc := 9) C0 hu_6 hW mX_141 dX6_marginOf_9 ?_
    refine lv_iload_n (pc := 12) hx hb dX6_marginOf_12 rfl (lv_at hl 1 rfl) ?_
    obtain ⟨i5, hf⟩ := zn hf
    refine xl_704 (pc := 13) C0 hW i5 dX6_marginOf_13 ?_
    refine lv_goto (pc := 14) (tgt := 18) hx hb dX6_marginOf_14 (by decide) ?_
    exact zend_i (w := wX cA h) fin hf hW dX6_marginOf_18

def fX6_pullOf (p1 : Int32) (p2 : Int32) (S : zSt) : Option (Int32 × zSt) :=
  zB (fX6_isRank p1 S) fun r1 S2 => if r1 = 0 then (some (0, S2)) else (zU (fX11_hasBit p2 p1) fun r5 => if r5 = 0 then (some (0, S2)) else (if zin p1 8 then some (((S2.2.1 703 (Int32.toNatClampNeg p1)) / 2), S2) else none))
abbrev wX6_pullOf : List Cond := Cond.code yX6_pullOf cX6_pullOf 3 (some .int) :: waX
abbrev rmX6_pullOf : Room := { frames := 1, cells := 0, slots := 0, locals := 21 }
set_option maxHeartbeats 4000000 in
set_option maxRecDepth 100000 in
theorem kX6_pullOf (l : Launch) (D : va_G) (cA : Nat → ClassId) (h tt : Nat → Nat) (sz : Nat)  (p1 : Int32) (p2 : Int32) (S : zSt) (r : Int32) (S1 : zSt) (hf : fX6_pullOf p1 p2 S = some (r, S1)) : zMi l yX6_pullOf wX6_pullOf rmX6_pullOf (zEX tt) D (tX cA) (hsX h) [.ref (h 6), .int p1, .int p2] (wX cA h S) (wX cA h S1) sz r := by
  refine zEn_i (cc := cX6_pullOf) (maxL := 3) (own := RX6) (by decide) rfl rfl (hmX cA h S) (Nat.le_of_ble_eq_true rfl) ?_
  intro p e s m args below meth c Q H locs C0 hW fin ls hl
  have hl : lv_has ls 3 [(0, .ref (h 6)), (1, .int p1), (2, .int p2)] := hl
  have hx := C0.1
  have hb := C0.2.1
  have hown := C0.2.2.2.1
  have hts := C0.2.2.2.2
  unfold fX6_pullOf at hf
  refine lv_aload_n (pc := 0) hx hb dX6_pullOf_0 rfl (lv_at hl 0 rfl) ?_
  refine lv_iload_n (pc := 1) hx hb dX6_pullOf_1 rfl (lv_at hl 1 rfl) ?_
  obtain ⟨r1, S2, e3, hf⟩ := zB_e hf
  refine zcVi (zEX_ok tt) (As := [.int p1]) (pc := 2) C0 hW (kX6_isRank l D cA h tt H.size p1 S r1 S2 e3) (cwV 1 hts (zgV gaX mX_430 mX_431 mX_432 mX_133 mX_433) rfl rfl rfl (by decide +kernel) ⟨Nat.le_of_ble_eq_true rfl, Nat.le_of_ble_eq_true rfl⟩) (va_recv hW.1 hW.2.1 (ci := 6) (q0 := 6) rfl rfl) rfl hl.1 rfl (Nat.le_of_ble_eq_true rfl) dX6_pullOf_2 (fun H locs hW => ?_)
  refine lv_if_eq (pc := 5) (tgt := 27) hx hb dX6_pullOf_5 (by decide) (fun c4 => ?_) (fun c4 => ?_)
  · have hf := zt c4 hf
    refine lv_iconst (pc := 27) (v := 0) hx hb dX6_pullOf_27 (by decide) ?_
    exact zend_i (w := wX cA h) fin hf hW dX6_pullOf_28
  · have hf := zf c4 hf
    refine lv_iload_n (pc := 8) hx hb dX6_pullOf_8 rfl (lv_at hl 2 rfl) ?_
    refine lv_iload_n (pc := 9) hx hb dX6_pullOf_9 rfl (lv_at hl 1 rfl) ?_
    obtain ⟨r5, e7, hf⟩ := zU_e hf
    refine zcNi (As := [.int p2, .int p1]) (pc := 10) C0 hW (kX11_hasBit l H.size p2 p1 r5 e7) ⟨va_cnB 2 hts (zgN gaX mX_428) rfl rfl rfl hW.2.2.2.2.2.2.2.2.2.2.2.2.2.2.2.2.2.2.2.2.1 (hts _ mX_151) (by decide +kernel) ⟨Nat.le_of_ble_eq_true rfl, Nat.le_of_ble_eq_true rfl⟩, hts _ mX_427, trivial⟩ rfl hl.1 rfl (Nat.le_of_ble_eq_true rfl) dX6_pullOf_10 (fun H locs hW => ?_)
    refine lv_if_eq (pc := 13) (tgt := 27) hx hb dX6_pullOf_13 (by decide) (fun c8 => ?_) (fun c8 => ?_)
    · have hf := zt c8 hf
      refine lv_iconst (pc := 27) (v := 0) hx hb dX6_pullOf_27 (by decide) ?_
      exact zend_i (w := wX cA h) fin hf hW dX6_pullOf_28
    · have hf := zf c8 hf
      refine lv_aload_n (pc := 16) hx hb dX6_pullOf_16 rfl (lv_at hl 0 rfl) ?_
      refine xg_703 (pc := 17) C0 hu_6 hW mX_139 dX6_pullOf_17 ?_
      refine lv_iload_n (pc := 20) hx hb dX6_pullOf_20 rfl (lv_at hl 1 rfl) ?_
      obtain ⟨i9, hf⟩ := zn hf
      refine xl_703 (pc := 21) C0 hW i9 dX6_pullOf_21 ?_
      refine lv_iconst (pc := 22) (v := 2) hx hb dX6_pullOf_22 (by decide) ?_
      refine lv_idiv (pc := 23) hx hb dX6_pullOf_23 (by decide) ?_
      refine lv_goto (pc := 24) (tgt := 28) hx hb dX6_pullOf_24 (by decide) ?_
      exact zend_i (w := wX cA h) fin hf hW dX6_pullOf_28

def fX6_pulledInBy_b20 (N : Nat) (K6 : Int32 → Int32 → zSt → Option (Int32 × zSt)) : Nat → Int32 → Int32 → Int32 → Int32 → zSt → Option (Int32 × zSt)
  | 0, _, _, _, _, _ => none
  | n + 1, v2, v3, v4, v5, S =>
    if (S.1 705) ≤ v5 then (K6 v4 (v3 + 1) S) else (if zin v5 8 then zB (fX6_pullOf (v5 - 1) v2 S) fun r3 S4 => zB (fX6_pullOf (v5 + 1) v2 S4) fun r6 S7 => if (r3 + r6) ≤ (S.2.1 704 (Int32.toNatClampNeg v5)) then (fX6_pulledInBy_b20 N K6 n v2 v3 v4 (v5 + 1) S7) else (fX6_pulledInBy_b20 N K6 n v2 v3 (v4 ||| (1 <<< (v5 &&& 31))) (v5 + 1) S7) else none)
def fX6_pulledInBy_b6 (N : Nat) : Nat → Int32 → Int32 → zSt → Option (Int32 × zSt)
  | 0, _, _, _ => none
  | n + 1, v2, v3, S =>
    if (S.1 705) ≤ v3 then (some (v2, S)) else (fX6_pulledInBy_b20 N (fX6_pulledInBy_b6 N n) N v2 v3 v2 0 S)
def fX6_pulledInBy (N : Nat) (p1 : Int32) (S : zSt) : Option (Int32 × zSt) :=
  fX6_pulledInBy_b6 N N (1 <<< (p1 &&& 31)) 0 S
abbrev wX6_pulledInBy : List Cond := Cond.code yX6_pulledInBy cX6_pulledInBy 6 (some .int) :: waX
abbrev rmX6_pulledInBy : Room := { frames := 2, cells := 0, slots := 0, locals := 43 }
set_option maxHeartbeats 4000000 in
set_option maxRecDepth 100000 in
theorem kX6_pulledInBy (l : Launch) (D : va_G) (cA : Nat → ClassId) (h tt : Nat → Nat) (sz : Nat) (N : Nat)  (p1 : Int32) (S : zSt) (r : Int32) (S1 : zSt) (hf : fX6_pulledInBy N p1 S = some (r, S1)) : zMi l yX6_pulledInBy wX6_pulledInBy rmX6_pulledInBy (zEX tt) D (tX cA) (hsX h) [.ref (h 6), .int p1] (wX cA h S) (wX cA h S1) sz r := by
  refine zEn_i (cc := cX6_pulledInBy) (maxL := 6) (own := RX6) (by decide) rfl rfl (hmX cA h S) (Nat.le_of_ble_eq_true rfl) ?_
  intro p e s m args below meth c Q H locs C0 hW fin ls hl
  have hl : lv_has ls 6 [(0, .ref (h 6)), (1, .int p1)] := hl
  have hx := C0.1
  have hb := C0.2.1
  have hown := C0.2.2.2.1
  have hts := C0.2.2.2.2
  have w20 : ∀ (K6 : Int32 → Int32 → zSt → Option (Int32 × zSt)) (hK6 : ∀ (v2 : Int32) (v3 : Int32) (S : zSt) (H : Heap) (locs : List Loc), zW (zEX tt) D (tX cA) (wX cA h S) (aW (hsX h) s.heap.size) s H locs → ∀ ls : Array Slot, lv_has ls 6 [(0, .ref (h 6)), (2, .int v2), (3, .int v3)] → K6 v2 v3 S = some (r, S1) → W p l e rmX6_pulledInBy s m args below meth c H locs 0 0 Q (F0 m 6 ls [])) (n : Nat), ∀ (v2 : Int32) (v3 : Int32) (v4 : Int32) (v5 : Int32) (S : zSt) (H : Heap) (locs : List Loc), zW (zEX tt) D (tX cA) (wX cA h S) (aW (hsX h) s.heap.size) s H locs → ∀ ls : Array Slot, lv_has ls 6 [(0, .ref (h 6)), (2, .int v2), (3, .int v3), (4, .int v4), (5, .int v5)] → fX6_pulledInBy_b20 N K6 n v2 v3 v4 v5 S = some (r, S1) → W p l e rmX6_pulledInBy s m args below meth c H locs 0 0 Q (F0 m 20 ls []) := by
    intro K6 hK6 n
    induction n with
    | zero =>
      intro v2 v3 v4 v5 S H locs hW ls hl hf
      exact absurd hf (by intro h; cases h)
    | succ n ih =>
      intro v2 v3 v4 v5 S H locs hW ls hl hf
      rw [fX6_pulledInBy_b20] at hf
      refine lv_iload (pc := 20) hx hb dX6_pulledInBy_20 (lv_at hl 4 rfl) ?_
      refine lv_aload_n (pc := 22) hx hb dX6_pulledInBy_22 rfl (lv_at hl 0 rfl) ?_
      refine xg_705 (pc := 23) C0 hu_6 hW mX_135 dX6_pulledInBy_23 ?_
      refine lv_icmp_ge (pc := 26) (tgt := 73) hx hb dX6_pulledInBy_26 (by decide) (fun c1 => ?_) (fun c1 => ?_)
      · have hf := zt c1 hf
        refine lv_iload (pc := 73) hx hb dX6_pulledInBy_73 (lv_at hl 3 rfl) ?_
        refine lv_istore_n (pc := 75) (lv' := [(2, .int v4), (0, .ref (h 6)), (3, .int v3), (4, .int v4), (5, .int v5)]) hx hb dX6_pulledInBy_75 rfl hl (by decide) rfl (fun ls hl => ?_)
        refine lv_iinc (pc := 76) (v := (v3 + 1)) (lv' := [(3, .int (v3 + 1)), (2, .int v4), (0, .ref (h 6)), (4, .int v4), (5, .int v5)]) hx hb dX6_pulledInBy_76 hl (k := 2) rfl (by rfl) (by decide) rfl (fun ls hl => ?_)
        refine lv_goto (pc := 79) (tgt := 6) hx hb dX6_pulledInBy_79 (by decide) ?_
        exact hK6 v4 (v3 + 1) S H locs hW ls (lv_sub hl [2, 1, 0] rfl) hf
      · have hf := zf c1 hf
        refine lv_aload_n (pc := 29) hx hb dX6_pulledInBy_29 rfl (lv_at hl 0 rfl) ?_
        refine xg_704 (pc := 30) C0 hu_6 hW mX_141 dX6_pulledInBy_30 ?_
        refine lv_iload (pc := 33) hx hb dX6_pulledInBy_33 (lv_at hl 4 rfl) ?_
        obtain ⟨i2, hf⟩ := zn hf
        refine xl_704 (pc := 35) C0 hW i2 dX6_pulledInBy_35 ?_
        refine lv_aload_n (pc := 36) hx hb dX6_pulledInBy_36 rfl (lv_at hl 0 rfl) ?_
        refine lv_iload (pc := 37) hx hb dX6_pulledInBy_37 (lv_at hl 4 rfl) ?_
        refine lv_iconst (pc := 39) (v := 1) hx hb dX6_pulledInBy_39 (by decide) ?_
        refine lv_isub (pc := 40) hx hb dX6_pulledInBy_40 ?_
        refine lv_iload_n (pc := 41) hx hb dX6_pulledInBy_41 rfl (lv_at hl 1 rfl) ?_
        obtain ⟨r3, S4, e5, hf⟩ := zB_e hf
        refine zcVi (zEX_ok tt) (As := [.int (v5 - 1), .int v2]) (pc := 42) C0 hW (kX6_pullOf l D cA h tt H.size (v5 - 1) v2 S r3 S4 e5) (cwV 2 hts (zgV gaX mX_437 mX_438 mX_439 mX_133 mX_440) rfl rfl rfl (by decide +kernel) ⟨Nat.le_of_ble_eq_true rfl, Nat.le_of_ble_eq_true rfl⟩) (va_recv hW.1 hW.2.1 (ci := 6) (q0 := 6) rfl rfl) rfl hl.1 rfl (Nat.le_of_ble_eq_true rfl) dX6_pulledInBy_42 (fun H locs hW => ?_)
        refine lv_aload_n (pc := 45) hx hb dX6_pulledInBy_45 rfl (lv_at hl 0 rfl) ?_
        refine lv_iload (pc := 46) hx hb dX6_pulledInBy_46 (lv_at hl 4 rfl) ?_
        refine lv_iconst (pc := 48) (v := 1) hx hb dX6_pulledInBy_48 (by decide) ?_
        refine lv_iadd (pc := 49) hx hb dX6_pulledInBy_49 ?_
        refine lv_iload_n (pc := 50) hx hb dX6_pulledInBy_50 rfl (lv_at hl 1 rfl) ?_
        obtain ⟨r6, S7, e8, hf⟩ := zB_e hf
        refine zcVi (zEX_ok tt) (As := [.int (v5 + 1), .int v2]) (pc := 51) C0 hW (kX6_pullOf l D cA h tt H.size (v5 + 1) v2 S4 r6 S7 e8) (cwV 2 hts (zgV gaX mX_437 mX_438 mX_439 mX_133 mX_440) rfl rfl rfl (by decide +kernel) ⟨Nat.le_of_ble_eq_true rfl, Nat.le_of_ble_eq_true rfl⟩) (va_recv hW.1 hW.2.1 (ci := 6) (q0 := 6) rfl rfl) rfl hl.1 rfl (Nat.le_of_ble_eq_true rfl) dX6_pulledInBy_51 (fun H locs hW => ?_)
        refine lv_iadd (pc := 54) hx hb dX6_pulledInBy_54 ?_
        refine lv_icmp_ge (pc := 55) (tgt := 67) hx hb dX6_pulledInBy_55 (by decide) (fun c9 => ?_) (fun c9 => ?_)
        · have hf := zt c9 hf
          refine lv_iinc (pc := 67) (v := (v5 + 1)) (lv' := [(5, .int (v5 + 1)), (0, .ref (h 6)), (2, .int v2), (3, .int v3), (4, .int v4)]) hx hb dX6_pulledInBy_67 hl (k := 4) rfl (by rfl) (by decide) rfl (fun ls hl => ?_)
          refine lv_goto (pc := 70) (tgt := 20) hx hb dX6_pulledInBy_70 (by decide) ?_
          exact ih v2 v3 v4 (v5 + 1) S7 H locs hW ls (lv_sub hl [1, 2, 3, 4, 0] rfl) hf
        · have hf := zf c9 hf
          refine lv_iload (pc := 58) hx hb dX6_pulledInBy_58 (lv_at hl 3 rfl) ?_
          refine lv_iconst (pc := 60) (v := 1) hx hb dX6_pulledInBy_60 (by decide) ?_
          refine lv_iload (pc := 61) hx hb dX6_pulledInBy_61 (lv_at hl 4 rfl) ?_
          refine lv_ishl (pc := 63) hx hb dX6_pulledInBy_63 ?_
          refine lv_ior (pc := 64) hx hb dX6_pulledInBy_64 ?_
          refine lv_istore (pc := 65) (lv' := [(4, .int (v4 ||| (1 <<< (v5 &&& 31)))), (0, .ref (h 6)), (2, .int v2), (3, .int v3), (5, .int v5)]) hx hb dX6_pulledInBy_65 hl (by decide) rfl (fun ls hl => ?_)
          refine lv_iinc (pc := 67) (v := (v5 + 1)) (lv' := [(5, .int (v5 + 1)), (4, .int (v4 ||| (1 <<< (v5 &&& 31)))), (0, .ref (h 6)), (2, .int v2), (3, .int v3)]) hx hb dX6_pulledInBy_67 hl (k := 4) rfl (by rfl) (by decide) rfl (fun ls hl => ?_)
          refine lv_goto (pc := 70) (tgt := 20) hx hb dX6_pulledInBy_70 (by decide) ?_
          exact ih v2 v3 (v4 ||| (1 <<< (v5 &&& 31))) (v5 + 1) S7 H locs hW ls (lv_sub hl [2, 3, 4, 1, 0] rfl) hf
  have w6 : ∀ (n : Nat), ∀ (v2 : Int32) (v3 : Int32) (S : zSt) (H : Heap) (locs : List Loc), zW (zEX tt) D (tX cA) (wX cA h S) (aW (hsX h) s.heap.size) s H locs → ∀ ls : Array Slot, lv_has ls 6 [(0, .ref (h 6)), (2, .int v2), (3, .int v3)] → fX6_pulledInBy_b6 N n v2 v3 S = some (r, S1) → W p l e rmX6_pulledInBy s m args below meth c H locs 0 0 Q (F0 m 6 ls []) := by
    intro n
    induction n with
    | zero =>
      intro v2 v3 S H locs hW ls hl hf
      exact absurd hf (by intro h; cases h)
    | succ n ih =>
      intro v2 v3 S H locs hW ls hl hf
      rw [fX6_pulledInBy_b6] at hf
      refine lv_iload_n (pc := 6) hx hb dX6_pulledInBy_6 rfl (lv_at hl 2 rfl) ?_
      refine lv_aload_n (pc := 7) hx hb dX6_pulledInBy_7 rfl (lv_at hl 0 rfl) ?_
      refine xg_705 (pc := 8) C0 hu_6 hW mX_135 dX6_pulledInBy_8 ?_
      refine lv_icmp_ge (pc := 11) (tgt := 82) hx hb dX6_pulledInBy_11 (by decide) (fun c10 => ?_) (fun c10 => ?_)
      · have hf := zt c10 hf
        refine lv_iload_n (pc := 82) hx hb dX6_pulledInBy_82 rfl (lv_at hl 1 rfl) ?_
        exact zend_i (w := wX cA h) fin hf hW dX6_pulledInBy_83
      · have hf := zf c10 hf
        refine lv_iload_n (pc := 14) hx hb dX6_pulledInBy_14 rfl (lv_at hl 1 rfl) ?_
        refine lv_istore (pc := 15) (lv' := [(4, .int v2), (0, .ref (h 6)), (2, .int v2), (3, .int v3)]) hx hb dX6_pulledInBy_15 hl (by decide) rfl (fun ls hl => ?_)
        refine lv_iconst (pc := 17) (v := 0) hx hb dX6_pulledInBy_17 (by decide) ?_
        refine lv_istore (pc := 18) (lv' := [(5, .int 0), (4, .int v2), (0, .ref (h 6)), (2, .int v2), (3, .int v3)]) hx hb dX6_pulledInBy_18 hl (by decide) rfl (fun ls hl => ?_)
        exact w20 (fX6_pulledInBy_b6 N n) ih N v2 v3 v2 0 S H locs hW ls (lv_sub hl [2, 3, 4, 1, 0] rfl) hf
  unfold fX6_pulledInBy at hf
  refine lv_iconst (pc := 0) (v := 1) hx hb dX6_pulledInBy_0 (by decide) ?_
  refine lv_iload_n (pc := 1) hx hb dX6_pulledInBy_1 rfl (lv_at hl 1 rfl) ?_
  refine lv_ishl (pc := 2) hx hb dX6_pulledInBy_2 ?_
  refine lv_istore_n (pc := 3) (lv' := [(2, .int (1 <<< (p1 &&& 31))), (0, .ref (h 6)), (1, .int p1)]) hx hb dX6_pulledInBy_3 rfl hl (by decide) rfl (fun ls hl => ?_)
  refine lv_iconst (pc := 4) (v := 0) hx hb dX6_pulledInBy_4 (by decide) ?_
  refine lv_istore_n (pc := 5) (lv' := [(3, .int 0), (2, .int (1 <<< (p1 &&& 31))), (0, .ref (h 6)), (1, .int p1)]) hx hb dX6_pulledInBy_5 rfl hl (by decide) rfl (fun ls hl => ?_)
  exact w6 N (1 <<< (p1 &&& 31)) 0 S H locs hW ls (lv_sub hl [2, 1, 0] rfl) hf

def fX7_slot (p1 : Int32): Option Int32 :=
  some (p1 * 4)
abbrev wX7_slot : List Cond := Cond.code yX7_slot cX7_slot 1 (some .int) :: waX
abbrev rmX7_slot : Room := { frames := 0, cells := 0, slots := 0, locals := 0 }
set_option maxHeartbeats 4000000 in
set_option maxRecDepth 100000 in
theorem kX7_slot (l : Launch) (sz : Nat) (p1 : Int32) (r : Int32) (hf : fX7_slot p1 = some r) : zMs l yX7_slot wX7_slot rmX7_slot [.int p1] sz r := by
  refine zEs_i (cc := cX7_slot) (maxL := 1) (own := RX7) (by decide) rfl rfl (Nat.le_of_ble_eq_true rfl) ?_
  intro p e s m args below meth c Q H locs C0 hW fin ls hl
  have hl : lv_has ls 1 [(0, .int p1)] := hl
  have hx := C0.1
  have hb := C0.2.1
  have hown := C0.2.2.2.1
  have hts := C0.2.2.2.2
  unfold fX7_slot at hf
  refine lv_iload_n (pc := 0) hx hb dX7_slot_0 rfl (lv_at hl 0 rfl) ?_
  refine lv_iconst (pc := 1) (v := 4) hx hb dX7_slot_1 (by decide) ?_
  refine lv_imul (pc := 2) hx hb dX7_slot_2 ?_
  exact zens_i fin hf hW dX7_slot_3

def fX7_mayBe (p1 : Int32) (p2 : Int32) (S : zSt) : Option (Int32 × zSt) :=
  if p1 < 0 then (some (0, S)) else (if p2 < 0 then (some (0, S)) else (zU (fX11_isWithin (p1 / 100) 30 120) fun r3 => if r3 = 0 then (some (0, S)) else (zU (fX11_isWithin (p1 - p1 / 100 * 100) 10 22) fun r7 => if r7 = 0 then (some (0, S)) else (if 9 < (p2 / 100) then (some (0, S)) else (if 40 < (p2 - p2 / 100 * 100) then (some (0, S)) else (some (1, S)))))))
abbrev wX7_mayBe : List Cond := Cond.code yX7_mayBe cX7_mayBe 2 (some .boolean) :: waX
abbrev rmX7_mayBe : Room := { frames := 1, cells := 0, slots := 0, locals := 22 }
set_option maxHeartbeats 4000000 in
set_option maxRecDepth 100000 in
theorem kX7_mayBe (l : Launch) (D : va_G) (cA : Nat → ClassId) (h tt : Nat → Nat) (sz : Nat)  (p1 : Int32) (p2 : Int32) (S : zSt) (r : Int32) (S1 : zSt) (hf : fX7_mayBe p1 p2 S = some (r, S1)) : zMi l yX7_mayBe wX7_mayBe rmX7_mayBe (zEX tt) D (tX cA) (hsX h) [.int p1, .int p2] (wX cA h S) (wX cA h S1) sz r := by
  refine zEn_z (cc := cX7_mayBe) (maxL := 2) (own := RX7) (by decide) rfl rfl (hmX cA h S) (Nat.le_of_ble_eq_true rfl) ?_
  intro p e s m args below meth c Q H locs C0 hW fin ls hl
  have hl : lv_has ls 2 [(0, .int p1), (1, .int p2)] := hl
  have hx := C0.1
  have hb := C0.2.1
  have hown := C0.2.2.2.1
  have hts := C0.2.2.2.2
  unfold fX7_mayBe at hf
  refine lv_iload_n (pc := 0) hx hb dX7_mayBe_0 rfl (lv_at hl 0 rfl) ?_
  refine lv_if_lt (pc := 1) (tgt := 58) hx hb dX7_mayBe_1 (by decide) (fun c1 => ?_) (fun c1 => ?_)
  · have hf := zt c1 hf
    refine lv_iconst (pc := 58) (v := 0) hx hb dX7_mayBe_58 (by decide) ?_
    exact zend_z (w := wX cA h) fin hf (by decide) hW dX7_mayBe_59
  · have hf := zf c1 hf
    refine lv_iload_n (pc := 4) hx hb dX7_mayBe_4 rfl (lv_at hl 1 rfl) ?_
    refine lv_if_lt (pc := 5) (tgt := 58) hx hb dX7_mayBe_5 (by decide) (fun c2 => ?_) (fun c2 => ?_)
    · have hf := zt c2 hf
      refine lv_iconst (pc := 58) (v := 0) hx hb dX7_mayBe_58 (by decide) ?_
      exact zend_z (w := wX cA h) fin hf (by decide) hW dX7_mayBe_59
    · have hf := zf c2 hf
      refine lv_iload_n (pc := 8) hx hb dX7_mayBe_8 rfl (lv_at hl 0 rfl) ?_
      refine lv_bipush (pc := 9) (v := 100) hx hb dX7_mayBe_9 (by decide) ?_
      refine lv_idiv (pc := 11) hx hb dX7_mayBe_11 (by decide) ?_
      refine lv_bipush (pc := 12) (v := 30) hx hb dX7_mayBe_12 (by decide) ?_
      refine lv_bipush (pc := 14) (v := 120) hx hb dX7_mayBe_14 (by decide) ?_
      obtain ⟨r3, e5, hf⟩ := zU_e hf
      refine zcNi (As := [.int (p1 / 100), .int 30, .int 120]) (pc := 16) C0 hW (kX11_isWithin l H.size (p1 / 100) 30 120 r3 e5) ⟨va_cnB 3 hts (zgN gaX mX_227) rfl rfl rfl hW.2.2.2.2.2.2.2.2.2.2.2.2.2.2.2.2.2.2.2.2.2.2.1 (hts _ mX_151) (by decide +kernel) ⟨Nat.le_of_ble_eq_true rfl, Nat.le_of_ble_eq_true rfl⟩, hts _ mX_226, trivial⟩ rfl hl.1 rfl (Nat.le_of_ble_eq_true rfl) dX7_mayBe_16 (fun H locs hW => ?_)
      refine lv_if_eq (pc := 19) (tgt := 58) hx hb dX7_mayBe_19 (by decide) (fun c6 => ?_) (fun c6 => ?_)
      · have hf := zt c6 hf
        refine lv_iconst (pc := 58) (v := 0) hx hb dX7_mayBe_58 (by decide) ?_
        exact zend_z (w := wX cA h) fin hf (by decide) hW dX7_mayBe_59
      · have hf := zf c6 hf
        refine lv_iload_n (pc := 22) hx hb dX7_mayBe_22 rfl (lv_at hl 0 rfl) ?_
        refine lv_bipush (pc := 23) (v := 100) hx hb dX7_mayBe_23 (by decide) ?_
        refine lv_irem (pc := 25) hx hb dX7_mayBe_25 (by decide) ?_
        refine lv_bipush (pc := 26) (v := 10) hx hb dX7_mayBe_26 (by decide) ?_
        refine lv_bipush (pc := 28) (v := 22) hx hb dX7_mayBe_28 (by decide) ?_
        obtain ⟨r7, e9, hf⟩ := zU_e hf
        refine zcNi (As := [.int (p1 - p1 / 100 * 100), .int 10, .int 22]) (pc := 30) C0 hW (kX11_isWithin l H.size (p1 - p1 / 100 * 100) 10 22 r7 e9) ⟨va_cnB 3 hts (zgN gaX mX_227) rfl rfl rfl hW.2.2.2.2.2.2.2.2.2.2.2.2.2.2.2.2.2.2.2.2.2.2.1 (hts _ mX_151) (by decide +kernel) ⟨Nat.le_of_ble_eq_true rfl, Nat.le_of_ble_eq_true rfl⟩, hts _ mX_226, trivial⟩ rfl hl.1 rfl (Nat.le_of_ble_eq_true rfl) dX7_mayBe_30 (fun H locs hW => ?_)
        refine lv_if_eq (pc := 33) (tgt := 58) hx hb dX7_mayBe_33 (by decide) (fun c10 => ?_) (fun c10 => ?_)
        · have hf := zt c10 hf
          refine lv_iconst (pc := 58) (v := 0) hx hb dX7_mayBe_58 (by decide) ?_
          exact zend_z (w := wX cA h) fin hf (by decide) hW dX7_mayBe_59
        · have hf := zf c10 hf
          refine lv_iload_n (pc := 36) hx hb dX7_mayBe_36 rfl (lv_at hl 1 rfl) ?_
          refine lv_bipush (pc := 37) (v := 100) hx hb dX7_mayBe_37 (by decide) ?_
          refine lv_idiv (pc := 39) hx hb dX7_mayBe_39 (by decide) ?_
          refine lv_bipush (pc := 40) (v := 9) hx hb dX7_mayBe_40 (by decide) ?_
          refine lv_icmp_gt (pc := 42) (tgt := 58) hx hb dX7_mayBe_42 (by decide) (fun c11 => ?_) (fun c11 => ?_)
          · have hf := zt c11 hf
            refine lv_iconst (pc := 58) (v := 0) hx hb dX7_mayBe_58 (by decide) ?_
            exact zend_z (w := wX cA h) fin hf (by decide) hW dX7_mayBe_59
          · have hf := zf c11 hf
            refine lv_iload_n (pc := 45) hx hb dX7_mayBe_45 rfl (lv_at hl 1 rfl) ?_
            refine lv_bipush (pc := 46) (v := 100) hx hb dX7_mayBe_46 (by decide) ?_
            refine lv_irem (pc := 48) hx hb dX7_mayBe_48 (by decide) ?_
            refine lv_bipush (pc := 49) (v := 40) hx hb dX7_mayBe_49 (by decide) ?_
            refine lv_icmp_gt (pc := 51) (tgt := 58) hx hb dX7_mayBe_51 (by decide) (fun c12 => ?_) (fun c12 => ?_)
            · have hf := zt c12 hf
              refine lv_iconst (pc := 58) (v := 0) hx hb dX7_mayBe_58 (by decide) ?_
              exact zend_z (w := wX cA h) fin hf (by decide) hW dX7_mayBe_59
            · have hf := zf c12 hf
              refine lv_iconst (pc := 54) (v := 1) hx hb dX7_mayBe_54 (by decide) ?_
              refine lv_goto (pc := 55) (tgt := 59) hx hb dX7_mayBe_55 (by decide) ?_
              exact zend_z (w := wX cA h) fin hf (by decide) hW dX7_mayBe_59

def fX7_isFull (S : zSt) : Option (Int32 × zSt) :=
  if (S.1 801) < 8 then (some (0, S)) else (some (1, S))
abbrev wX7_isFull : List Cond := Cond.code yX7_isFull cX7_isFull 1 (some .boolean) :: waX
abbrev rmX7_isFull : Room := { frames := 0, cells := 0, slots := 0, locals := 0 }
set_option maxHeartbeats 4000000 in
set_option maxRecDepth 100000 in
theorem kX7_isFull (l : Launch) (D : va_G) (cA : Nat → ClassId) (h tt : Nat → Nat) (sz : Nat)   (S : zSt) (r : Int32) (S1 : zSt) (hf : fX7_isFull S = some (r, S1)) : zMi l yX7_isFull wX7_isFull rmX7_isFull (zEX tt) D (tX cA) (hsX h) [.ref (h 7)] (wX cA h S) (wX cA h S1) sz r := by
  refine zEn_z (cc := cX7_isFull) (maxL := 1) (own := RX7) (by decide) rfl rfl (hmX cA h S) (Nat.le_of_ble_eq_true rfl) ?_
  intro p e s m args below meth c Q H locs C0 hW fin ls hl
  have hl : lv_has ls 1 [(0, .ref (h 7))] := hl
  have hx := C0.1
  have hb := C0.2.1
  have hown := C0.2.2.2.1
  have hts := C0.2.2.2.2
  unfold fX7_isFull at hf
  refine lv_aload_n (pc := 0) hx hb dX7_isFull_0 rfl (lv_at hl 0 rfl) ?_
  refine xg_801 (pc := 1) C0 hu_7 hW mX_426 dX7_isFull_1 ?_
  refine lv_bipush (pc := 4) (v := 8) hx hb dX7_isFull_4 (by decide) ?_
  refine lv_icmp_lt (pc := 6) (tgt := 13) hx hb dX7_isFull_6 (by decide) (fun c1 => ?_) (fun c1 => ?_)
  · have hf := zt c1 hf
    refine lv_iconst (pc := 13) (v := 0) hx hb dX7_isFull_13 (by decide) ?_
    exact zend_z (w := wX cA h) fin hf (by decide) hW dX7_isFull_14
  · have hf := zf c1 hf
    refine lv_iconst (pc := 9) (v := 1) hx hb dX7_isFull_9 (by decide) ?_
    refine lv_goto (pc := 10) (tgt := 14) hx hb dX7_isFull_10 (by decide) ?_
    exact zend_z (w := wX cA h) fin hf (by decide) hW dX7_isFull_14

def fX7_add (p1 : Int32) (p2 : Int32) (S : zSt) : Option (Int32 × zSt) :=
  zU (fX7_slot (S.1 801)) fun r1 => zU (fX7_putValue (r1 + 0) (p1 / 100) S) fun S5 => zU (fX7_putValue (r1 + 1) (p1 - p1 / 100 * 100) S5) fun S8 => zU (fX7_putValue (r1 + 2) (p2 / 100) S8) fun S11 => zU (fX7_putValue (r1 + 3) (p2 - p2 / 100 * 100) S11) fun S14 => zL (zI S14 801 ((S14.1 801) + 1)) fun S16 => some (((S16.1 801) - 1), S16)
abbrev wX7_add : List Cond := Cond.code yX7_add cX7_add 4 (some .int) :: waX
abbrev rmX7_add : Room := { frames := 1, cells := 0, slots := 0, locals := 22 }
set_option maxHeartbeats 4000000 in
set_option maxRecDepth 100000 in
theorem kX7_add (l : Launch) (D : va_G) (cA : Nat → ClassId) (h tt : Nat → Nat) (sz : Nat)  (p1 : Int32) (p2 : Int32) (S : zSt) (r : Int32) (S1 : zSt) (hf : fX7_add p1 p2 S = some (r, S1)) : zMi l yX7_add wX7_add rmX7_add (zEX tt) D (tX cA) (hsX h) [.ref (h 7), .int p1, .int p2] (wX cA h S) (wX cA h S1) sz r := by
  refine zEn_i (cc := cX7_add) (maxL := 4) (own := RX7) (by decide) rfl rfl (hmX cA h S) (Nat.le_of_ble_eq_true rfl) ?_
  intro p e s m args below meth c Q H locs C0 hW fin ls hl
  have hl : lv_has ls 4 [(0, .ref (h 7)), (1, .int p1), (2, .int p2)] := hl
  have hx := C0.1
  have hb := C0.2.1
  have hown := C0.2.2.2.1
  have hts := C0.2.2.2.2
  unfold fX7_add at hf
  refine lv_aload_n (pc := 0) hx hb dX7_add_0 rfl (lv_at hl 0 rfl) ?_
  refine xg_801 (pc := 1) C0 hu_7 hW mX_426 dX7_add_1 ?_
  obtain ⟨r1, e3, hf⟩ := zU_e hf
  refine zcSi (As := [.int (S.1 801)]) (pc := 4) C0 hW (kX7_slot l H.size (S.1 801) r1 e3) (va_cwS 1 hts (zgS gaX mX_447 mX_448 mX_72 mX_443) rfl rfl rfl (by decide +kernel) ⟨Nat.le_of_ble_eq_true rfl, Nat.le_of_ble_eq_true rfl⟩) rfl hl.1 rfl (Nat.le_of_ble_eq_true rfl) dX7_add_4 (fun H locs hW => ?_)
  refine lv_istore_n (pc := 7) (lv' := [(3, .int r1), (0, .ref (h 7)), (1, .int p1), (2, .int p2)]) hx hb dX7_add_7 rfl hl (by decide) rfl (fun ls hl => ?_)
  refine lv_aload_n (pc := 8) hx hb dX7_add_8 rfl (lv_at hl 1 rfl) ?_
  refine lv_iload_n (pc := 9) hx hb dX7_add_9 rfl (lv_at hl 0 rfl) ?_
  refine lv_iconst (pc := 10) (v := 0) hx hb dX7_add_10 (by decide) ?_
  refine lv_iadd (pc := 11) hx hb dX7_add_11 ?_
  refine lv_iload_n (pc := 12) hx hb dX7_add_12 rfl (lv_at hl 2 rfl) ?_
  refine lv_bipush (pc := 13) (v := 100) hx hb dX7_add_13 (by decide) ?_
  refine lv_idiv (pc := 15) hx hb dX7_add_15 (by decide) ?_
  obtain ⟨S5, e6, hf⟩ := zU_e hf
  refine zcVv (zEX_ok tt) (As := [.int (r1 + 0), .int (p1 / 100)]) (pc := 16) C0 hW (kX7_putValue l D cA h tt H.size (r1 + 0) (p1 / 100) S S5 e6) (cwV 2 hts (zgV gaX mX_449 mX_99 mX_100 mX_72 mX_101) rfl rfl rfl (by decide +kernel) ⟨Nat.le_of_ble_eq_true rfl, Nat.le_of_ble_eq_true rfl⟩) (va_recv hW.1 hW.2.1 (ci := 7) (q0 := 7) rfl rfl) rfl hl.1 rfl (Nat.le_of_ble_eq_true rfl) dX7_add_16 (fun H locs hW => ?_)
  refine lv_aload_n (pc := 19) hx hb dX7_add_19 rfl (lv_at hl 1 rfl) ?_
  refine lv_iload_n (pc := 20) hx hb dX7_add_20 rfl (lv_at hl 0 rfl) ?_
  refine lv_iconst (pc := 21) (v := 1) hx hb dX7_add_21 (by decide) ?_
  refine lv_iadd (pc := 22) hx hb dX7_add_22 ?_
  refine lv_iload_n (pc := 23) hx hb dX7_add_23 rfl (lv_at hl 2 rfl) ?_
  refine lv_bipush (pc := 24) (v := 100) hx hb dX7_add_24 (by decide) ?_
  refine lv_irem (pc := 26) hx hb dX7_add_26 (by decide) ?_
  obtain ⟨S8, e9, hf⟩ := zU_e hf
  refine zcVv (zEX_ok tt) (As := [.int (r1 + 1), .int (p1 - p1 / 100 * 100)]) (pc := 27) C0 hW (kX7_putValue l D cA h tt H.size (r1 + 1) (p1 - p1 / 100 * 100) S5 S8 e9) (cwV 2 hts (zgV gaX mX_449 mX_99 mX_100 mX_72 mX_101) rfl rfl rfl (by decide +kernel) ⟨Nat.le_of_ble_eq_true rfl, Nat.le_of_ble_eq_true rfl⟩) (va_recv hW.1 hW.2.1 (ci := 7) (q0 := 7) rfl rfl) rfl hl.1 rfl (Nat.le_of_ble_eq_true rfl) dX7_add_27 (fun H locs hW => ?_)
  refine lv_aload_n (pc := 30) hx hb dX7_add_30 rfl (lv_at hl 1 rfl) ?_
  refine lv_iload_n (pc := 31) hx hb dX7_add_31 rfl (lv_at hl 0 rfl) ?_
  refine lv_iconst (pc := 32) (v := 2) hx hb dX7_add_32 (by decide) ?_
  refine lv_iadd (pc := 33) hx hb dX7_add_33 ?_
  refine lv_iload_n (pc := 34) hx hb dX7_add_34 rfl (lv_at hl 3 rfl) ?_
  refine lv_bipush (pc := 35) (v := 100) hx hb dX7_add_35 (by decide) ?_
  refine lv_idiv (pc := 37) hx hb dX7_add_37 (by decide) ?_
  obtain ⟨S11, e12, hf⟩ := zU_e hf
  refine zcVv (zEX_ok tt) (As := [.int (r1 + 2), .int (p2 / 100)]) (pc := 38) C0 hW (kX7_putValue l D cA h tt H.size (r1 + 2) (p2 / 100) S8 S11 e12) (cwV 2 hts (zgV gaX mX_449 mX_99 mX_100 mX_72 mX_101) rfl rfl rfl (by decide +kernel) ⟨Nat.le_of_ble_eq_true rfl, Nat.le_of_ble_eq_true rfl⟩) (va_recv hW.1 hW.2.1 (ci := 7) (q0 := 7) rfl rfl) rfl hl.1 rfl (Nat.le_of_ble_eq_true rfl) dX7_add_38 (fun H locs hW => ?_)
  refine lv_aload_n (pc := 41) hx hb dX7_add_41 rfl (lv_at hl 1 rfl) ?_
  refine lv_iload_n (pc := 42) hx hb dX7_add_42 rfl (lv_at hl 0 rfl) ?_
  refine lv_iconst (pc := 43) (v := 3) hx hb dX7_add_43 (by decide) ?_
  refine lv_iadd (pc := 44) hx hb dX7_add_44 ?_
  refine lv_iload_n (pc := 45) hx hb dX7_add_45 rfl (lv_at hl 3 rfl) ?_
  refine lv_bipush (pc := 46) (v := 100) hx hb dX7_add_46 (by decide) ?_
  refine lv_irem (pc := 48) hx hb dX7_add_48 (by decide) ?_
  obtain ⟨S14, e15, hf⟩ := zU_e hf
  refine zcVv (zEX_ok tt) (As := [.int (r1 + 3), .int (p2 - p2 / 100 * 100)]) (pc := 49) C0 hW (kX7_putValue l D cA h tt H.size (r1 + 3) (p2 - p2 / 100 * 100) S11 S14 e15) (cwV 2 hts (zgV gaX mX_449 mX_99 mX_100 mX_72 mX_101) rfl rfl rfl (by decide +kernel) ⟨Nat.le_of_ble_eq_true rfl, Nat.le_of_ble_eq_true rfl⟩) (va_recv hW.1 hW.2.1 (ci := 7) (q0 := 7) rfl rfl) rfl hl.1 rfl (Nat.le_of_ble_eq_true rfl) dX7_add_49 (fun H locs hW => ?_)
  refine lv_aload_n (pc := 52) hx hb dX7_add_52 rfl (lv_at hl 1 rfl) ?_
  refine lv_dup (pc := 53) hx hb dX7_add_53 rfl ?_
  refine xg_801 (pc := 54) C0 hu_7 hW mX_426 dX7_add_54 ?_
  refine lv_iconst (pc := 57) (v := 1) hx hb dX7_add_57 (by decide) ?_
  refine lv_iadd (pc := 58) hx hb dX7_add_58 ?_
  obtain ⟨S16, e_S16, hf⟩ := zL_e hf
  refine xp_801 (pc := 59) C0 hu_7 hW mX_426 e_S16 dX7_add_59 (fun H locs hW => ?_)
  refine lv_aload_n (pc := 62) hx hb dX7_add_62 rfl (lv_at hl 1 rfl) ?_
  refine xg_801 (pc := 63) C0 hu_7 hW mX_426 dX7_add_63 ?_
  refine lv_iconst (pc := 66) (v := 1) hx hb dX7_add_66 (by decide) ?_
  refine lv_isub (pc := 67) hx hb dX7_add_67 ?_
  exact zend_i (w := wX cA h) fin hf hW dX7_add_68

def fX8_mostOf (p1 : Int32): Option Int32 :=
  if p1 = 2 then (some 9) else (some 30)
abbrev wX8_mostOf : List Cond := Cond.code yX8_mostOf cX8_mostOf 1 (some .int) :: waX
abbrev rmX8_mostOf : Room := { frames := 0, cells := 0, slots := 0, locals := 0 }
set_option maxHeartbeats 4000000 in
set_option maxRecDepth 100000 in
theorem kX8_mostOf (l : Launch) (sz : Nat) (p1 : Int32) (r : Int32) (hf : fX8_mostOf p1 = some r) : zMs l yX8_mostOf wX8_mostOf rmX8_mostOf [.int p1] sz r := by
  refine zEs_i (cc := cX8_mostOf) (maxL := 1) (own := RX8) (by decide) rfl rfl (Nat.le_of_ble_eq_true rfl) ?_
  intro p e s m args below meth c Q H locs C0 hW fin ls hl
  have hl : lv_has ls 1 [(0, .int p1)] := hl
  have hx := C0.1
  have hb := C0.2.1
  have hown := C0.2.2.2.1
  have hts := C0.2.2.2.2
  unfold fX8_mostOf at hf
  refine lv_iload_n (pc := 0) hx hb dX8_mostOf_0 rfl (lv_at hl 0 rfl) ?_
  refine lv_iconst (pc := 1) (v := 2) hx hb dX8_mostOf_1 (by decide) ?_
  refine lv_icmp_ne (pc := 2) (tgt := 10) hx hb dX8_mostOf_2 (by decide) (fun c1 => ?_) (fun c1 => ?_)
  · have hf := zf c1 hf
    refine lv_bipush (pc := 10) (v := 30) hx hb dX8_mostOf_10 (by decide) ?_
    exact zens_i fin hf hW dX8_mostOf_12
  · have hf := zt c1 hf
    refine lv_bipush (pc := 5) (v := 9) hx hb dX8_mostOf_5 (by decide) ?_
    refine lv_goto (pc := 7) (tgt := 12) hx hb dX8_mostOf_7 (by decide) ?_
    exact zens_i fin hf hW dX8_mostOf_12

def fX8_isFull (S : zSt) : Option (Int32 × zSt) :=
  if (S.1 904) < 6 then (some (0, S)) else (some (1, S))
abbrev wX8_isFull : List Cond := Cond.code yX8_isFull cX8_isFull 1 (some .boolean) :: waX
abbrev rmX8_isFull : Room := { frames := 0, cells := 0, slots := 0, locals := 0 }
set_option maxHeartbeats 4000000 in
set_option maxRecDepth 100000 in
theorem kX8_isFull (l : Launch) (D : va_G) (cA : Nat → ClassId) (h tt : Nat → Nat) (sz : Nat)   (S : zSt) (r : Int32) (S1 : zSt) (hf : fX8_isFull S = some (r, S1)) : zMi l yX8_isFull wX8_isFull rmX8_isFull (zEX tt) D (tX cA) (hsX h) [.ref (h 8)] (wX cA h S) (wX cA h S1) sz r := by
  refine zEn_z (cc := cX8_isFull) (maxL := 1) (own := RX8) (by decide) rfl rfl (hmX cA h S) (Nat.le_of_ble_eq_true rfl) ?_
  intro p e s m args below meth c Q H locs C0 hW fin ls hl
  have hl : lv_has ls 1 [(0, .ref (h 8))] := hl
  have hx := C0.1
  have hb := C0.2.1
  have hown := C0.2.2.2.1
  have hts := C0.2.2.2.2
  unfold fX8_isFull at hf
  refine lv_aload_n (pc := 0) hx hb dX8_isFull_0 rfl (lv_at hl 0 rfl) ?_
  refine xg_904 (pc := 1) C0 hu_8 hW mX_184 dX8_isFull_1 ?_
  refine lv_bipush (pc := 4) (v := 6) hx hb dX8_isFull_4 (by decide) ?_
  refine lv_icmp_lt (pc := 6) (tgt := 13) hx hb dX8_isFull_6 (by decide) (fun c1 => ?_) (fun c1 => ?_)
  · have hf := zt c1 hf
    refine lv_iconst (pc := 13) (v := 0) hx hb dX8_isFull_13 (by decide) ?_
    exact zend_z (w := wX cA h) fin hf (by decide) hW dX8_isFull_14
  · have hf := zf c1 hf
    refine lv_iconst (pc := 9) (v := 1) hx hb dX8_isFull_9 (by decide) ?_
    refine lv_goto (pc := 10) (tgt := 14) hx hb dX8_isFull_10 (by decide) ?_
    exact zend_z (w := wX cA h) fin hf (by decide) hW dX8_isFull_14

def fX8_hasCell (p1 : Int32) (p2 : Int32) (S : zSt) : Option (Int32 × zSt) :=
  zB (fX8_has p1 S) fun r1 S2 => if r1 = 0 then (some (0, S2)) else (if p2 < 0 then (some (0, S2)) else (if zin p1 6 then if (S2.2.1 902 (Int32.toNatClampNeg p1)) ≤ p2 then (some (0, S2)) else (some (1, S2)) else none))
abbrev wX8_hasCell : List Cond := Cond.code yX8_hasCell cX8_hasCell 3 (some .boolean) :: waX
abbrev rmX8_hasCell : Room := { frames := 1, cells := 0, slots := 0, locals := 21 }
set_option maxHeartbeats 4000000 in
set_option maxRecDepth 100000 in
theorem kX8_hasCell (l : Launch) (D : va_G) (cA : Nat → ClassId) (h tt : Nat → Nat) (sz : Nat)  (p1 : Int32) (p2 : Int32) (S : zSt) (r : Int32) (S1 : zSt) (hf : fX8_hasCell p1 p2 S = some (r, S1)) : zMi l yX8_hasCell wX8_hasCell rmX8_hasCell (zEX tt) D (tX cA) (hsX h) [.ref (h 8), .int p1, .int p2] (wX cA h S) (wX cA h S1) sz r := by
  refine zEn_z (cc := cX8_hasCell) (maxL := 3) (own := RX8) (by decide) rfl rfl (hmX cA h S) (Nat.le_of_ble_eq_true rfl) ?_
  intro p e s m args below meth c Q H locs C0 hW fin ls hl
  have hl : lv_has ls 3 [(0, .ref (h 8)), (1, .int p1), (2, .int p2)] := hl
  have hx := C0.1
  have hb := C0.2.1
  have hown := C0.2.2.2.1
  have hts := C0.2.2.2.2
  unfold fX8_hasCell at hf
  refine lv_aload_n (pc := 0) hx hb dX8_hasCell_0 rfl (lv_at hl 0 rfl) ?_
  refine lv_iload_n (pc := 1) hx hb dX8_hasCell_1 rfl (lv_at hl 1 rfl) ?_
  obtain ⟨r1, S2, e3, hf⟩ := zB_e hf
  refine zcVi (zEX_ok tt) (As := [.int p1]) (pc := 2) C0 hW (kX8_has l D cA h tt H.size p1 S r1 S2 e3) (cwV 1 hts (zgV gaX mX_180 mX_181 mX_182 mX_66 mX_183) rfl rfl rfl (by decide +kernel) ⟨Nat.le_of_ble_eq_true rfl, Nat.le_of_ble_eq_true rfl⟩) (va_recv hW.1 hW.2.1 (ci := 8) (q0 := 8) rfl rfl) rfl hl.1 rfl (Nat.le_of_ble_eq_true rfl) dX8_hasCell_2 (fun H locs hW => ?_)
  refine lv_if_eq (pc := 5) (tgt := 26) hx hb dX8_hasCell_5 (by decide) (fun c4 => ?_) (fun c4 => ?_)
  · have hf := zt c4 hf
    refine lv_iconst (pc := 26) (v := 0) hx hb dX8_hasCell_26 (by decide) ?_
    exact zend_z (w := wX cA h) fin hf (by decide) hW dX8_hasCell_27
  · have hf := zf c4 hf
    refine lv_iload_n (pc := 8) hx hb dX8_hasCell_8 rfl (lv_at hl 2 rfl) ?_
    refine lv_if_lt (pc := 9) (tgt := 26) hx hb dX8_hasCell_9 (by decide) (fun c5 => ?_) (fun c5 => ?_)
    · have hf := zt c5 hf
      refine lv_iconst (pc := 26) (v := 0) hx hb dX8_hasCell_26 (by decide) ?_
      exact zend_z (w := wX cA h) fin hf (by decide) hW dX8_hasCell_27
    · have hf := zf c5 hf
      refine lv_iload_n (pc := 12) hx hb dX8_hasCell_12 rfl (lv_at hl 2 rfl) ?_
      refine lv_aload_n (pc := 13) hx hb dX8_hasCell_13 rfl (lv_at hl 0 rfl) ?_
      refine xg_902 (pc := 14) C0 hu_8 hW mX_179 dX8_hasCell_14 ?_
      refine lv_iload_n (pc := 17) hx hb dX8_hasCell_17 rfl (lv_at hl 1 rfl) ?_
      obtain ⟨i6, hf⟩ := zn hf
      refine xl_902 (pc := 18) C0 hW i6 dX8_hasCell_18 ?_
      refine lv_icmp_ge (pc := 19) (tgt := 26) hx hb dX8_hasCell_19 (by decide) (fun c7 => ?_) (fun c7 => ?_)
      · have hf := zt c7 hf
        refine lv_iconst (pc := 26) (v := 0) hx hb dX8_hasCell_26 (by decide) ?_
        exact zend_z (w := wX cA h) fin hf (by decide) hW dX8_hasCell_27
      · have hf := zf c7 hf
        refine lv_iconst (pc := 22) (v := 1) hx hb dX8_hasCell_22 (by decide) ?_
        refine lv_goto (pc := 23) (tgt := 27) hx hb dX8_hasCell_23 (by decide) ?_
        exact zend_z (w := wX cA h) fin hf (by decide) hW dX8_hasCell_27

def fX8_belowOf (p1 : Int32) (S : zSt) : Option (Int32 × zSt) :=
  zB (fX8_has p1 S) fun r1 S2 => if r1 = 0 then (some (0, S2)) else (if zin p1 6 then some ((S2.2.1 903 (Int32.toNatClampNeg p1)), S2) else none)
abbrev wX8_belowOf : List Cond := Cond.code yX8_belowOf cX8_belowOf 2 (some .int) :: waX
abbrev rmX8_belowOf : Room := { frames := 1, cells := 0, slots := 0, locals := 21 }
set_option maxHeartbeats 4000000 in
set_option maxRecDepth 100000 in
theorem kX8_belowOf (l : Launch) (D : va_G) (cA : Nat → ClassId) (h tt : Nat → Nat) (sz : Nat)  (p1 : Int32) (S : zSt) (r : Int32) (S1 : zSt) (hf : fX8_belowOf p1 S = some (r, S1)) : zMi l yX8_belowOf wX8_belowOf rmX8_belowOf (zEX tt) D (tX cA) (hsX h) [.ref (h 8), .int p1] (wX cA h S) (wX cA h S1) sz r := by
  refine zEn_i (cc := cX8_belowOf) (maxL := 2) (own := RX8) (by decide) rfl rfl (hmX cA h S) (Nat.le_of_ble_eq_true rfl) ?_
  intro p e s m args below meth c Q H locs C0 hW fin ls hl
  have hl : lv_has ls 2 [(0, .ref (h 8)), (1, .int p1)] := hl
  have hx := C0.1
  have hb := C0.2.1
  have hown := C0.2.2.2.1
  have hts := C0.2.2.2.2
  unfold fX8_belowOf at hf
  refine lv_aload_n (pc := 0) hx hb dX8_belowOf_0 rfl (lv_at hl 0 rfl) ?_
  refine lv_iload_n (pc := 1) hx hb dX8_belowOf_1 rfl (lv_at hl 1 rfl) ?_
  obtain ⟨r1, S2, e3, hf⟩ := zB_e hf
  refine zcVi (zEX_ok tt) (As := [.int p1]) (pc := 2) C0 hW (kX8_has l D cA h tt H.size p1 S r1 S2 e3) (cwV 1 hts (zgV gaX mX_180 mX_181 mX_182 mX_66 mX_183) rfl rfl rfl (by decide +kernel) ⟨Nat.le_of_ble_eq_true rfl, Nat.le_of_ble_eq_true rfl⟩) (va_recv hW.1 hW.2.1 (ci := 8) (q0 := 8) rfl rfl) rfl hl.1 rfl (Nat.le_of_ble_eq_true rfl) dX8_belowOf_2 (fun H locs hW => ?_)
  refine lv_if_eq (pc := 5) (tgt := 17) hx hb dX8_belowOf_5 (by decide) (fun c4 => ?_) (fun c4 => ?_)
  · have hf := zt c4 hf
    refine lv_iconst (pc := 17) (v := 0) hx hb dX8_belowOf_17 (by decide) ?_
    exact zend_i (w := wX cA h) fin hf hW dX8_belowOf_18
  · have hf := zf c4 hf
    refine lv_aload_n (pc := 8) hx hb dX8_belowOf_8 rfl (lv_at hl 0 rfl) ?_
    refine xg_903 (pc := 9) C0 hu_8 hW mX_452 dX8_belowOf_9 ?_
    refine lv_iload_n (pc := 12) hx hb dX8_belowOf_12 rfl (lv_at hl 1 rfl) ?_
    obtain ⟨i5, hf⟩ := zn hf
    refine xl_903 (pc := 13) C0 hW i5 dX8_belowOf_13 ?_
    refine lv_goto (pc := 14) (tgt := 18) hx hb dX8_belowOf_14 (by decide) ?_
    exact zend_i (w := wX cA h) fin hf hW dX8_belowOf_18

def fX8_cellsNearPace_b6 (N : Nat) : Nat → Int32 → Int32 → Int32 → Int32 → Int32 → zSt → Option (Int32 × zSt)
  | 0, _, _, _, _, _, _ => none
  | n + 1, v1, v2, v3, v4, v5, S =>
    zB (fX8_cellsOf v1 S) fun r1 S2 => if r1 ≤ v5 then (some (v4, S2)) else (zB (fX8_paceAt v1 v5 v2 S2) fun r5 S6 => if 2 < (zab (r5 - v3)) then (fX8_cellsNearPace_b6 N n v1 v2 v3 v4 (v5 + 1) S6) else (fX8_cellsNearPace_b6 N n v1 v2 v3 (v4 ||| (1 <<< (v5 &&& 31))) (v5 + 1) S6))
def fX8_cellsNearPace (N : Nat) (p1 : Int32) (p2 : Int32) (p3 : Int32) (S : zSt) : Option (Int32 × zSt) :=
  fX8_cellsNearPace_b6 N N p1 p2 p3 0 0 S
abbrev wX8_cellsNearPace : List Cond := Cond.code yX8_cellsNearPace cX8_cellsNearPace 6 (some .int) :: waX
abbrev rmX8_cellsNearPace : Room := { frames := 3, cells := 0, slots := 0, locals := 67 }
set_option maxHeartbeats 4000000 in
set_option maxRecDepth 100000 in
theorem kX8_cellsNearPace (l : Launch) (D : va_G) (cA : Nat → ClassId) (h tt : Nat → Nat) (sz : Nat) (N : Nat)  (p1 : Int32) (p2 : Int32) (p3 : Int32) (S : zSt) (r : Int32) (S1 : zSt) (hf : fX8_cellsNearPace N p1 p2 p3 S = some (r, S1)) : zMi l yX8_cellsNearPace wX8_cellsNearPace rmX8_cellsNearPace (zEX tt) D (tX cA) (hsX h) [.ref (h 8), .int p1, .int p2, .int p3] (wX cA h S) (wX cA h S1) sz r := by
  refine zEn_i (cc := cX8_cellsNearPace) (maxL := 6) (own := RX8) (by decide) rfl rfl (hmX cA h S) (Nat.le_of_ble_eq_true rfl) ?_
  intro p e s m args below meth c Q H locs C0 hW fin ls hl
  have hl : lv_has ls 6 [(0, .ref (h 8)), (1, .int p1), (2, .int p2), (3, .int p3)] := hl
  have hx := C0.1
  have hb := C0.2.1
  have hown := C0.2.2.2.1
  have hts := C0.2.2.2.2
  have w6 : ∀ (n : Nat), ∀ (v1 : Int32) (v2 : Int32) (v3 : Int32) (v4 : Int32) (v5 : Int32) (S : zSt) (H : Heap) (locs : List Loc), zW (zEX tt) D (tX cA) (wX cA h S) (aW (hsX h) s.heap.size) s H locs → ∀ ls : Array Slot, lv_has ls 6 [(0, .ref (h 8)), (1, .int v1), (2, .int v2), (3, .int v3), (4, .int v4), (5, .int v5)] → fX8_cellsNearPace_b6 N n v1 v2 v3 v4 v5 S = some (r, S1) → W p l e rmX8_cellsNearPace s m args below meth c H locs 0 0 Q (F0 m 6 ls []) := by
    intro n
    induction n with
    | zero =>
      intro v1 v2 v3 v4 v5 S H locs hW ls hl hf
      exact absurd hf (by intro h; cases h)
    | succ n ih =>
      intro v1 v2 v3 v4 v5 S H locs hW ls hl hf
      rw [fX8_cellsNearPace_b6] at hf
      refine lv_iload (pc := 6) hx hb dX8_cellsNearPace_6 (lv_at hl 5 rfl) ?_
      refine lv_aload_n (pc := 8) hx hb dX8_cellsNearPace_8 rfl (lv_at hl 0 rfl) ?_
      refine lv_iload_n (pc := 9) hx hb dX8_cellsNearPace_9 rfl (lv_at hl 1 rfl) ?_
      obtain ⟨r1, S2, e3, hf⟩ := zB_e hf
      refine zcVi (zEX_ok tt) (As := [.int v1]) (pc := 10) C0 hW (kX8_cellsOf l D cA h tt H.size v1 S r1 S2 e3) (cwV 1 hts (zgV gaX mX_460 mX_176 mX_177 mX_66 mX_178) rfl rfl rfl (by decide +kernel) ⟨Nat.le_of_ble_eq_true rfl, Nat.le_of_ble_eq_true rfl⟩) (va_recv hW.1 hW.2.1 (ci := 8) (q0 := 8) rfl rfl) rfl hl.1 rfl (Nat.le_of_ble_eq_true rfl) dX8_cellsNearPace_10 (fun H locs hW => ?_)
      refine lv_icmp_ge (pc := 13) (tgt := 48) hx hb dX8_cellsNearPace_13 (by decide) (fun c4 => ?_) (fun c4 => ?_)
      · have hf := zt c4 hf
        refine lv_iload (pc := 48) hx hb dX8_cellsNearPace_48 (lv_at hl 4 rfl) ?_
        exact zend_i (w := wX cA h) fin hf hW dX8_cellsNearPace_50
      · have hf := zf c4 hf
        refine lv_aload_n (pc := 16) hx hb dX8_cellsNearPace_16 rfl (lv_at hl 0 rfl) ?_
        refine lv_iload_n (pc := 17) hx hb dX8_cellsNearPace_17 rfl (lv_at hl 1 rfl) ?_
        refine lv_iload (pc := 18) hx hb dX8_cellsNearPace_18 (lv_at hl 5 rfl) ?_
        refine lv_iload_n (pc := 20) hx hb dX8_cellsNearPace_20 rfl (lv_at hl 2 rfl) ?_
        obtain ⟨r5, S6, e7, hf⟩ := zB_e hf
        refine zcVi (zEX_ok tt) (As := [.int v1, .int v5, .int v2]) (pc := 21) C0 hW (kX8_paceAt l D cA h tt H.size v1 v5 v2 S2 r5 S6 e7) (cwV 3 hts (zgV gaX mX_461 mX_111 mX_112 mX_66 mX_113) rfl rfl rfl (by decide +kernel) ⟨Nat.le_of_ble_eq_true rfl, Nat.le_of_ble_eq_true rfl⟩) (va_recv hW.1 hW.2.1 (ci := 8) (q0 := 8) rfl rfl) rfl hl.1 rfl (Nat.le_of_ble_eq_true rfl) dX8_cellsNearPace_21 (fun H locs hW => ?_)
        refine lv_iload_n (pc := 24) hx hb dX8_cellsNearPace_24 rfl (lv_at hl 3 rfl) ?_
        refine lv_isub (pc := 25) hx hb dX8_cellsNearPace_25 ?_
        refine va_mabs (pc := 26) hx hb (C0.2.2.1.trans hl.1.symm) hown (hts _ mX_459) (hts _ mX_410) (hts _ mX_28) (hts _ mX_411) (Nat.le_of_ble_eq_true rfl) (Nat.le_of_ble_eq_true rfl) (Nat.zero_le _) (Nat.zero_le _) dX8_cellsNearPace_26 ?_
        refine lv_iconst (pc := 29) (v := 2) hx hb dX8_cellsNearPace_29 (by decide) ?_
        refine lv_icmp_gt (pc := 30) (tgt := 42) hx hb dX8_cellsNearPace_30 (by decide) (fun c8 => ?_) (fun c8 => ?_)
        · have hf := zt c8 hf
          refine lv_iinc (pc := 42) (v := (v5 + 1)) (lv' := [(5, .int (v5 + 1)), (0, .ref (h 8)), (1, .int v1), (2, .int v2), (3, .int v3), (4, .int v4)]) hx hb dX8_cellsNearPace_42 hl (k := 5) rfl (by rfl) (by decide) rfl (fun ls hl => ?_)
          refine lv_goto (pc := 45) (tgt := 6) hx hb dX8_cellsNearPace_45 (by decide) ?_
          exact ih v1 v2 v3 v4 (v5 + 1) S6 H locs hW ls (lv_sub hl [1, 2, 3, 4, 5, 0] rfl) hf
        · have hf := zf c8 hf
          refine lv_iload (pc := 33) hx hb dX8_cellsNearPace_33 (lv_at hl 4 rfl) ?_
          refine lv_iconst (pc := 35) (v := 1) hx hb dX8_cellsNearPace_35 (by decide) ?_
          refine lv_iload (pc := 36) hx hb dX8_cellsNearPace_36 (lv_at hl 5 rfl) ?_
          refine lv_ishl (pc := 38) hx hb dX8_cellsNearPace_38 ?_
          refine lv_ior (pc := 39) hx hb dX8_cellsNearPace_39 ?_
          refine lv_istore (pc := 40) (lv' := [(4, .int (v4 ||| (1 <<< (v5 &&& 31)))), (0, .ref (h 8)), (1, .int v1), (2, .int v2), (3, .int v3), (5, .int v5)]) hx hb dX8_cellsNearPace_40 hl (by decide) rfl (fun ls hl => ?_)
          refine lv_iinc (pc := 42) (v := (v5 + 1)) (lv' := [(5, .int (v5 + 1)), (4, .int (v4 ||| (1 <<< (v5 &&& 31)))), (0, .ref (h 8)), (1, .int v1), (2, .int v2), (3, .int v3)]) hx hb dX8_cellsNearPace_42 hl (k := 5) rfl (by rfl) (by decide) rfl (fun ls hl => ?_)
          refine lv_goto (pc := 45) (tgt := 6) hx hb dX8_cellsNearPace_45 (by decide) ?_
          exact ih v1 v2 v3 (v4 ||| (1 <<< (v5 &&& 31))) (v5 + 1) S6 H locs hW ls (lv_sub hl [2, 3, 4, 5, 1, 0] rfl) hf
  unfold fX8_cellsNearPace at hf
  refine lv_iconst (pc := 0) (v := 0) hx hb dX8_cellsNearPace_0 (by decide) ?_
  refine lv_istore (pc := 1) (lv' := [(4, .int 0), (0, .ref (h 8)), (1, .int p1), (2, .int p2), (3, .int p3)]) hx hb dX8_cellsNearPace_1 hl (by decide) rfl (fun ls hl => ?_)
  refine lv_iconst (pc := 3) (v := 0) hx hb dX8_cellsNearPace_3 (by decide) ?_
  refine lv_istore (pc := 4) (lv' := [(5, .int 0), (4, .int 0), (0, .ref (h 8)), (1, .int p1), (2, .int p2), (3, .int p3)]) hx hb dX8_cellsNearPace_4 hl (by decide) rfl (fun ls hl => ?_)
  exact w6 N p1 p2 p3 0 0 S H locs hW ls (lv_sub hl [2, 3, 4, 5, 1, 0] rfl) hf

def fX8_readBelow (p1 : Int32) (S : zSt) : Option (Int32 × zSt) :=
  zB (fX10_digit S) fun r1 S2 => if r1 < 0 then (some (0, S2)) else (zB (fX10_isAtEnd S2) fun r5 S6 => if r5 = 0 then (some (0, S6)) else (if zin (S6.1 904) 6 then zL (zA S6 902 (Int32.toNatClampNeg (S6.1 904)) p1) fun S10 => if zin (S10.1 904) 6 then zL (zA S10 903 (Int32.toNatClampNeg (S10.1 904)) r1) fun S12 => zL (zI S12 904 ((S12.1 904) + 1)) fun S13 => some (1, S13) else none else none))
abbrev wX8_readBelow : List Cond := Cond.code yX8_readBelow cX8_readBelow 3 (some .boolean) :: waX
abbrev rmX8_readBelow : Room := { frames := 2, cells := 0, slots := 0, locals := 41 }
set_option maxHeartbeats 4000000 in
set_option maxRecDepth 100000 in
theorem kX8_readBelow (l : Launch) (D : va_G) (cA : Nat → ClassId) (h tt : Nat → Nat) (sz : Nat)  (p1 : Int32) (S : zSt) (r : Int32) (S1 : zSt) (hf : fX8_readBelow p1 S = some (r, S1)) : zMi l yX8_readBelow wX8_readBelow rmX8_readBelow (zEX tt) D (tX cA) (hsX h) [.ref (h 8), .int p1] (wX cA h S) (wX cA h S1) sz r := by
  refine zEn_z (cc := cX8_readBelow) (maxL := 3) (own := RX8) (by decide) rfl rfl (hmX cA h S) (Nat.le_of_ble_eq_true rfl) ?_
  intro p e s m args below meth c Q H locs C0 hW fin ls hl
  have hl : lv_has ls 3 [(0, .ref (h 8)), (1, .int p1)] := hl
  have hx := C0.1
  have hb := C0.2.1
  have hown := C0.2.2.2.1
  have hts := C0.2.2.2.2
  unfold fX8_readBelow at hf
  refine lv_aload_n (pc := 0) hx hb dX8_readBelow_0 rfl (lv_at hl 0 rfl) ?_
  refine xg_900 (pc := 1) C0 hu_8 hW mX_453 dX8_readBelow_1 ?_
  obtain ⟨r1, S2, e3, hf⟩ := zB_e hf
  refine zcVi (zEX_ok tt) (As := []) (pc := 4) C0 hW (kX10_digit l D cA h tt H.size S r1 S2 e3) (cwV 0 hts (zgV gaX mX_474 mX_357 mX_358 mX_330 mX_359) rfl rfl rfl (by decide +kernel) ⟨Nat.le_of_ble_eq_true rfl, Nat.le_of_ble_eq_true rfl⟩) (va_recv hW.1 hW.2.1 (ci := 10) (q0 := 10) rfl rfl) rfl hl.1 rfl (Nat.le_of_ble_eq_true rfl) dX8_readBelow_4 (fun H locs hW => ?_)
  refine lv_istore_n (pc := 7) (lv' := [(2, .int r1), (0, .ref (h 8)), (1, .int p1)]) hx hb dX8_readBelow_7 rfl hl (by decide) rfl (fun ls hl => ?_)
  refine lv_iload_n (pc := 8) hx hb dX8_readBelow_8 rfl (lv_at hl 0 rfl) ?_
  refine lv_if_lt (pc := 9) (tgt := 22) hx hb dX8_readBelow_9 (by decide) (fun c4 => ?_) (fun c4 => ?_)
  · have hf := zt c4 hf
    refine lv_iconst (pc := 22) (v := 0) hx hb dX8_readBelow_22 (by decide) ?_
    exact zend_z (w := wX cA h) fin hf (by decide) hW dX8_readBelow_23
  · have hf := zf c4 hf
    refine lv_aload_n (pc := 12) hx hb dX8_readBelow_12 rfl (lv_at hl 1 rfl) ?_
    refine xg_900 (pc := 13) C0 hu_8 hW mX_453 dX8_readBelow_13 ?_
    obtain ⟨r5, S6, e7, hf⟩ := zB_e hf
    refine zcVi (zEX_ok tt) (As := []) (pc := 16) C0 hW (kX10_isAtEnd l D cA h tt H.size S2 r5 S6 e7) (cwV 0 hts (zgV gaX mX_489 mX_369 mX_370 mX_330 mX_371) rfl rfl rfl (by decide +kernel) ⟨Nat.le_of_ble_eq_true rfl, Nat.le_of_ble_eq_true rfl⟩) (va_recv hW.1 hW.2.1 (ci := 10) (q0 := 10) rfl rfl) rfl hl.1 rfl (Nat.le_of_ble_eq_true rfl) dX8_readBelow_16 (fun H locs hW => ?_)
    refine lv_if_ne (pc := 19) (tgt := 24) hx hb dX8_readBelow_19 (by decide) (fun c8 => ?_) (fun c8 => ?_)
    · have hf := zf c8 hf
      refine lv_aload_n (pc := 24) hx hb dX8_readBelow_24 rfl (lv_at hl 1 rfl) ?_
      refine xg_902 (pc := 25) C0 hu_8 hW mX_179 dX8_readBelow_25 ?_
      refine lv_aload_n (pc := 28) hx hb dX8_readBelow_28 rfl (lv_at hl 1 rfl) ?_
      refine xg_904 (pc := 29) C0 hu_8 hW mX_184 dX8_readBelow_29 ?_
      refine lv_iload_n (pc := 32) hx hb dX8_readBelow_32 rfl (lv_at hl 2 rfl) ?_
      obtain ⟨i9, hf⟩ := zn hf
      obtain ⟨S10, e_S10, hf⟩ := zL_e hf
      refine xs_s902 (pc := 33) C0 hW i9 e_S10 dX8_readBelow_33 (fun H locs hW => ?_)
      refine lv_aload_n (pc := 34) hx hb dX8_readBelow_34 rfl (lv_at hl 1 rfl) ?_
      refine xg_903 (pc := 35) C0 hu_8 hW mX_452 dX8_readBelow_35 ?_
      refine lv_aload_n (pc := 38) hx hb dX8_readBelow_38 rfl (lv_at hl 1 rfl) ?_
      refine xg_904 (pc := 39) C0 hu_8 hW mX_184 dX8_readBelow_39 ?_
      refine lv_iload_n (pc := 42) hx hb dX8_readBelow_42 rfl (lv_at hl 0 rfl) ?_
      obtain ⟨i11, hf⟩ := zn hf
      obtain ⟨S12, e_S12, hf⟩ := zL_e hf
      refine xs_s903 (pc := 43) C0 hW i11 e_S12 dX8_readBelow_43 (fun H locs hW => ?_)
      refine lv_aload_n (pc := 44) hx hb dX8_readBelow_44 rfl (lv_at hl 1 rfl) ?_
      refine lv_dup (pc := 45) hx hb dX8_readBelow_45 rfl ?_
      refine xg_904 (pc := 46) C0 hu_8 hW mX_184 dX8_readBelow_46 ?_
      refine lv_iconst (pc := 49) (v := 1) hx hb dX8_readBelow_49 (by decide) ?_
      refine lv_iadd (pc := 50) hx hb dX8_readBelow_50 ?_
      obtain ⟨S13, e_S13, hf⟩ := zL_e hf
      refine xp_904 (pc := 51) C0 hu_8 hW mX_184 e_S13 dX8_readBelow_51 (fun H locs hW => ?_)
      refine lv_iconst (pc := 54) (v := 1) hx hb dX8_readBelow_54 (by decide) ?_
      exact zend_z (w := wX cA h) fin hf (by decide) hW dX8_readBelow_55
    · have hf := zt c8 hf
      refine lv_iconst (pc := 22) (v := 0) hx hb dX8_readBelow_22 (by decide) ?_
      exact zend_z (w := wX cA h) fin hf (by decide) hW dX8_readBelow_23

def fX8_readBed (p1 : Int32) (S : zSt) : Option (Int32 × zSt) :=
  zB (fX10_digit S) fun r1 S2 => zU (fX8_putValue p1 r1 S2) fun S5 => if r1 < 0 then (some (0, S5)) else (some (1, S5))
abbrev wX8_readBed : List Cond := Cond.code yX8_readBed cX8_readBed 3 (some .boolean) :: waX
abbrev rmX8_readBed : Room := { frames := 2, cells := 0, slots := 0, locals := 41 }
set_option maxHeartbeats 4000000 in
set_option maxRecDepth 100000 in
theorem kX8_readBed (l : Launch) (D : va_G) (cA : Nat → ClassId) (h tt : Nat → Nat) (sz : Nat)  (p1 : Int32) (S : zSt) (r : Int32) (S1 : zSt) (hf : fX8_readBed p1 S = some (r, S1)) : zMi l yX8_readBed wX8_readBed rmX8_readBed (zEX tt) D (tX cA) (hsX h) [.ref (h 8), .int p1] (wX cA h S) (wX cA h S1) sz r := by
  refine zEn_z (cc := cX8_readBed) (maxL := 3) (own := RX8) (by decide) rfl rfl (hmX cA h S) (Nat.le_of_ble_eq_true rfl) ?_
  intro p e s m args below meth c Q H locs C0 hW fin ls hl
  have hl : lv_has ls 3 [(0, .ref (h 8)), (1, .int p1)] := hl
  have hx := C0.1
  have hb := C0.2.1
  have hown := C0.2.2.2.1
  have hts := C0.2.2.2.2
  unfold fX8_readBed at hf
  refine lv_aload_n (pc := 0) hx hb dX8_readBed_0 rfl (lv_at hl 0 rfl) ?_
  refine xg_900 (pc := 1) C0 hu_8 hW mX_453 dX8_readBed_1 ?_
  obtain ⟨r1, S2, e3, hf⟩ := zB_e hf
  refine zcVi (zEX_ok tt) (As := []) (pc := 4) C0 hW (kX10_digit l D cA h tt H.size S r1 S2 e3) (cwV 0 hts (zgV gaX mX_474 mX_357 mX_358 mX_330 mX_359) rfl rfl rfl (by decide +kernel) ⟨Nat.le_of_ble_eq_true rfl, Nat.le_of_ble_eq_true rfl⟩) (va_recv hW.1 hW.2.1 (ci := 10) (q0 := 10) rfl rfl) rfl hl.1 rfl (Nat.le_of_ble_eq_true rfl) dX8_readBed_4 (fun H locs hW => ?_)
  refine lv_istore_n (pc := 7) (lv' := [(2, .int r1), (0, .ref (h 8)), (1, .int p1)]) hx hb dX8_readBed_7 rfl hl (by decide) rfl (fun ls hl => ?_)
  refine lv_aload_n (pc := 8) hx hb dX8_readBed_8 rfl (lv_at hl 1 rfl) ?_
  refine lv_iload_n (pc := 9) hx hb dX8_readBed_9 rfl (lv_at hl 2 rfl) ?_
  refine lv_iload_n (pc := 10) hx hb dX8_readBed_10 rfl (lv_at hl 0 rfl) ?_
  obtain ⟨S5, e6, hf⟩ := zU_e hf
  refine zcVv (zEX_ok tt) (As := [.int p1, .int r1]) (pc := 11) C0 hW (kX8_putValue l D cA h tt H.size p1 r1 S2 S5 e6) (cwV 2 hts (zgV gaX mX_479 mX_95 mX_96 mX_66 mX_97) rfl rfl rfl (by decide +kernel) ⟨Nat.le_of_ble_eq_true rfl, Nat.le_of_ble_eq_true rfl⟩) (va_recv hW.1 hW.2.1 (ci := 8) (q0 := 8) rfl rfl) rfl hl.1 rfl (Nat.le_of_ble_eq_true rfl) dX8_readBed_11 (fun H locs hW => ?_)
  refine lv_iload_n (pc := 14) hx hb dX8_readBed_14 rfl (lv_at hl 0 rfl) ?_
  refine lv_if_lt (pc := 15) (tgt := 22) hx hb dX8_readBed_15 (by decide) (fun c7 => ?_) (fun c7 => ?_)
  · have hf := zt c7 hf
    refine lv_iconst (pc := 22) (v := 0) hx hb dX8_readBed_22 (by decide) ?_
    exact zend_z (w := wX cA h) fin hf (by decide) hW dX8_readBed_23
  · have hf := zf c7 hf
    refine lv_iconst (pc := 18) (v := 1) hx hb dX8_readBed_18 (by decide) ?_
    refine lv_goto (pc := 19) (tgt := 23) hx hb dX8_readBed_19 (by decide) ?_
    exact zend_z (w := wX cA h) fin hf (by decide) hW dX8_readBed_23

def fX10_back (p1 : Int32) (S : zSt) : Option zSt :=
  zL (zI S 1102 ((S.1 1102) - p1)) fun S1 => some S1
abbrev wX10_back : List Cond := Cond.code yX10_back cX10_back 2 none :: waX
abbrev rmX10_back : Room := { frames := 0, cells := 0, slots := 0, locals := 0 }
set_option maxHeartbeats 4000000 in
set_option maxRecDepth 100000 in
theorem kX10_back (l : Launch) (D : va_G) (cA : Nat → ClassId) (h tt : Nat → Nat) (sz : Nat)  (p1 : Int32) (S : zSt) (S1 : zSt) (hf : fX10_back p1 S = some S1) : zMv l yX10_back wX10_back rmX10_back (zEX tt) D (tX cA) (hsX h) [.ref (h 10), .int p1] (wX cA h S) (wX cA h S1) sz := by
  refine zEn_v (cc := cX10_back) (maxL := 2) (own := RX10) (by decide) rfl rfl (hmX cA h S) (Nat.le_of_ble_eq_true rfl) ?_
  intro p e s m args below meth c Q H locs C0 hW fin ls hl
  have hl : lv_has ls 2 [(0, .ref (h 10)), (1, .int p1)] := hl
  have hx := C0.1
  have hb := C0.2.1
  have hown := C0.2.2.2.1
  have hts := C0.2.2.2.2
  unfold fX10_back at hf
  refine lv_aload_n (pc := 0) hx hb dX10_back_0 rfl (lv_at hl 0 rfl) ?_
  refine lv_dup (pc := 1) hx hb dX10_back_1 rfl ?_
  refine xg_1102 (pc := 2) C0 hu_10 hW mX_332 dX10_back_2 ?_
  refine lv_iload_n (pc := 5) hx hb dX10_back_5 rfl (lv_at hl 1 rfl) ?_
  refine lv_isub (pc := 6) hx hb dX10_back_6 ?_
  obtain ⟨S1, e_S1, hf⟩ := zL_e hf
  refine xp_1102 (pc := 7) C0 hu_10 hW mX_332 e_S1 dX10_back_7 (fun H locs hW => ?_)
  exact zend_v (w := wX cA h) fin hf hW dX10_back_10

def fX8_readMeasure_b36  (v1 : Int32) (u0 : Int32) (S : zSt) : Option (Int32 × zSt) :=
  if u0 ≤ 30 then (zU (fX8_putValue v1 u0 S) fun S3 => some (1, S3)) else (zU (fX10_back 2 S) fun S6 => some (0, S6))
def fX8_readMeasure (p1 : Int32) (S : zSt) : Option (Int32 × zSt) :=
  zB (fX10_digit S) fun r8 S9 => if 0 ≤ r8 then (zB (fX10_digit S9) fun r12 S13 => if 0 ≤ r12 then (fX8_readMeasure_b36 p1 ((10 * r8) + r12) S13) else (fX8_readMeasure_b36 p1 r8 S13)) else (some (0, S9))
abbrev wX8_readMeasure : List Cond := Cond.code yX8_readMeasure cX8_readMeasure 5 (some .boolean) :: waX
abbrev rmX8_readMeasure : Room := { frames := 2, cells := 0, slots := 0, locals := 41 }
set_option maxHeartbeats 4000000 in
set_option maxRecDepth 100000 in
theorem kX8_readMeasure (l : Launch) (D : va_G) (cA : Nat → ClassId) (h tt : Nat → Nat) (sz : Nat)  (p1 : Int32) (S : zSt) (r : Int32) (S1 : zSt) (hf : fX8_readMeasure p1 S = some (r, S1)) : zMi l yX8_readMeasure wX8_readMeasure rmX8_readMeasure (zEX tt) D (tX cA) (hsX h) [.ref (h 8), .int p1] (wX cA h S) (wX cA h S1) sz r := by
  refine zEn_z (cc := cX8_readMeasure) (maxL := 5) (own := RX8) (by decide) rfl rfl (hmX cA h S) (Nat.le_of_ble_eq_true rfl) ?_
  intro p e s m args below meth c Q H locs C0 hW fin ls hl
  have hl : lv_has ls 5 [(0, .ref (h 8)), (1, .int p1)] := hl
  have hx := C0.1
  have hb := C0.2.1
  have hown := C0.2.2.2.1
  have hts := C0.2.2.2.2
  have w36 : ∀ (v1 : Int32) (u0 : Int32) (S : zSt) (H : Heap) (locs : List Loc), zW (zEX tt) D (tX cA) (wX cA h S) (aW (hsX h) s.heap.size) s H locs → ∀ ls : Array Slot, lv_has ls 5 [(0, .ref (h 8)), (1, .int v1)] → fX8_readMeasure_b36 v1 u0 S = some (r, S1) → W p l e rmX8_readMeasure s m args below meth c H locs 0 0 Q (F0 m 36 ls [.int u0]) := by
    intro v1 u0 S H locs hW ls hl hf
    unfold fX8_readMeasure_b36 at hf
    refine lv_istore (pc := 36) (lv' := [(4, .int u0), (0, .ref (h 8)), (1, .int v1)]) hx hb dX8_readMeasure_36 hl (by decide) rfl (fun ls hl => ?_)
    refine lv_iload (pc := 38) hx hb dX8_readMeasure_38 (lv_at hl 0 rfl) ?_
    refine lv_bipush (pc := 40) (v := 30) hx hb dX8_readMeasure_40 (by decide) ?_
    refine lv_icmp_le (pc := 42) (tgt := 55) hx hb dX8_readMeasure_42 (by decide) (fun c1 => ?_) (fun c1 => ?_)
    · have hf := zt c1 hf
      refine lv_aload_n (pc := 55) hx hb dX8_readMeasure_55 rfl (lv_at hl 1 rfl) ?_
      refine lv_iload_n (pc := 56) hx hb dX8_readMeasure_56 rfl (lv_at hl 2 rfl) ?_
      refine lv_iload (pc := 57) hx hb dX8_readMeasure_57 (lv_at hl 0 rfl) ?_
      obtain ⟨S3, e4, hf⟩ := zU_e hf
      refine zcVv (zEX_ok tt) (As := [.int v1, .int u0]) (pc := 59) C0 hW (kX8_putValue l D cA h tt H.size v1 u0 S S3 e4) (cwV 2 hts (zgV gaX mX_479 mX_95 mX_96 mX_66 mX_97) rfl rfl rfl (by decide +kernel) ⟨Nat.le_of_ble_eq_true rfl, Nat.le_of_ble_eq_true rfl⟩) (va_recv hW.1 hW.2.1 (ci := 8) (q0 := 8) rfl rfl) rfl hl.1 rfl (Nat.le_of_ble_eq_true rfl) dX8_readMeasure_59 (fun H locs hW => ?_)
      refine lv_iconst (pc := 62) (v := 1) hx hb dX8_readMeasure_62 (by decide) ?_
      exact zend_z (w := wX cA h) fin hf (by decide) hW dX8_readMeasure_63
    · have hf := zf c1 hf
      refine lv_aload_n (pc := 45) hx hb dX8_readMeasure_45 rfl (lv_at hl 1 rfl) ?_
      refine xg_900 (pc := 46) C0 hu_8 hW mX_453 dX8_readMeasure_46 ?_
      refine lv_iconst (pc := 49) (v := 2) hx hb dX8_readMeasure_49 (by decide) ?_
      obtain ⟨S6, e7, hf⟩ := zU_e hf
      refine zcVv (zEX_ok tt) (As := [.int 2]) (pc := 50) C0 hW (kX10_back l D cA h tt H.size 2 S S6 e7) (cwV 1 hts (zgV gaX mX_475 mX_476 mX_477 mX_330 mX_478) rfl rfl rfl (by decide +kernel) ⟨Nat.le_of_ble_eq_true rfl, Nat.le_of_ble_eq_true rfl⟩) (va_recv hW.1 hW.2.1 (ci := 10) (q0 := 10) rfl rfl) rfl hl.1 rfl (Nat.le_of_ble_eq_true rfl) dX8_readMeasure_50 (fun H locs hW => ?_)
      refine lv_iconst (pc := 53) (v := 0) hx hb dX8_readMeasure_53 (by decide) ?_
      exact zend_z (w := wX cA h) fin hf (by decide) hW dX8_readMeasure_54
  unfold fX8_readMeasure at hf
  refine lv_aload_n (pc := 0) hx hb dX8_readMeasure_0 rfl (lv_at hl 0 rfl) ?_
  refine xg_900 (pc := 1) C0 hu_8 hW mX_453 dX8_readMeasure_1 ?_
  obtain ⟨r8, S9, e10, hf⟩ := zB_e hf
  refine zcVi (zEX_ok tt) (As := []) (pc := 4) C0 hW (kX10_digit l D cA h tt H.size S r8 S9 e10) (cwV 0 hts (zgV gaX mX_474 mX_357 mX_358 mX_330 mX_359) rfl rfl rfl (by decide +kernel) ⟨Nat.le_of_ble_eq_true rfl, Nat.le_of_ble_eq_true rfl⟩) (va_recv hW.1 hW.2.1 (ci := 10) (q0 := 10) rfl rfl) rfl hl.1 rfl (Nat.le_of_ble_eq_true rfl) dX8_readMeasure_4 (fun H locs hW => ?_)
  refine lv_istore_n (pc := 7) (lv' := [(2, .int r8), (0, .ref (h 8)), (1, .int p1)]) hx hb dX8_readMeasure_7 rfl hl (by decide) rfl (fun ls hl => ?_)
  refine lv_iload_n (pc := 8) hx hb dX8_readMeasure_8 rfl (lv_at hl 0 rfl) ?_
  refine lv_if_ge (pc := 9) (tgt := 14) hx hb dX8_readMeasure_9 (by decide) (fun c11 => ?_) (fun c11 => ?_)
  · have hf := zt c11 hf
    refine lv_aload_n (pc := 14) hx hb dX8_readMeasure_14 rfl (lv_at hl 1 rfl) ?_
    refine xg_900 (pc := 15) C0 hu_8 hW mX_453 dX8_readMeasure_15 ?_
    obtain ⟨r12, S13, e14, hf⟩ := zB_e hf
    refine zcVi (zEX_ok tt) (As := []) (pc := 18) C0 hW (kX10_digit l D cA h tt H.size S9 r12 S13 e14) (cwV 0 hts (zgV gaX mX_474 mX_357 mX_358 mX_330 mX_359) rfl rfl rfl (by decide +kernel) ⟨Nat.le_of_ble_eq_true rfl, Nat.le_of_ble_eq_true rfl⟩) (va_recv hW.1 hW.2.1 (ci := 10) (q0 := 10) rfl rfl) rfl hl.1 rfl (Nat.le_of_ble_eq_true rfl) dX8_readMeasure_18 (fun H locs hW => ?_)
    refine lv_istore_n (pc := 21) (lv' := [(3, .int r12), (2, .int r8), (0, .ref (h 8)), (1, .int p1)]) hx hb dX8_readMeasure_21 rfl hl (by decide) rfl (fun ls hl => ?_)
    refine lv_iload_n (pc := 22) hx hb dX8_readMeasure_22 rfl (lv_at hl 0 rfl) ?_
    refine lv_if_ge (pc := 23) (tgt := 30) hx hb dX8_readMeasure_23 (by decide) (fun c15 => ?_) (fun c15 => ?_)
    · have hf := zt c15 hf
      refine lv_bipush (pc := 30) (v := 10) hx hb dX8_readMeasure_30 (by decide) ?_
      refine lv_iload_n (pc := 32) hx hb dX8_readMeasure_32 rfl (lv_at hl 1 rfl) ?_
      refine lv_imul (pc := 33) hx hb dX8_readMeasure_33 ?_
      refine lv_iload_n (pc := 34) hx hb dX8_readMeasure_34 rfl (lv_at hl 0 rfl) ?_
      refine lv_iadd (pc := 35) hx hb dX8_readMeasure_35 ?_
      exact w36 p1 ((10 * r8) + r12) S13 H locs hW ls (lv_sub hl [2, 3] rfl) hf
    · have hf := zf c15 hf
      refine lv_iload_n (pc := 26) hx hb dX8_readMeasure_26 rfl (lv_at hl 1 rfl) ?_
      refine lv_goto (pc := 27) (tgt := 36) hx hb dX8_readMeasure_27 (by decide) ?_
      exact w36 p1 r8 S13 H locs hW ls (lv_sub hl [2, 3] rfl) hf
  · have hf := zf c11 hf
    refine lv_iconst (pc := 12) (v := 0) hx hb dX8_readMeasure_12 (by decide) ?_
    exact zend_z (w := wX cA h) fin hf (by decide) hW dX8_readMeasure_13

def fX8_readCell (p1 : Int32) (S : zSt) : Option (Int32 × zSt) :=
  zB (fX8_readMeasure (p1 + 0) S) fun r1 S2 => if r1 = 0 then (some (0, S2)) else (zB (fX10_pass 44 S2) fun r5 S6 => if r5 = 0 then (some (0, S6)) else (zB (fX8_readMeasure (p1 + 1) S6) fun r9 S10 => if r9 = 0 then (some (0, S10)) else (zB (fX10_pass 44 S10) fun r13 S14 => if r13 = 0 then (some (0, S14)) else (zB (fX8_readBed (p1 + 2) S14) fun r17 S18 => if r17 = 0 then (some (0, S18)) else (some (1, S18))))))
abbrev wX8_readCell : List Cond := Cond.code yX8_readCell cX8_readCell 2 (some .boolean) :: waX
abbrev rmX8_readCell : Room := { frames := 3, cells := 0, slots := 0, locals := 65 }
set_option maxHeartbeats 4000000 in
set_option maxRecDepth 100000 in
theorem kX8_readCell (l : Launch) (D : va_G) (cA : Nat → ClassId) (h tt : Nat → Nat) (sz : Nat)  (p1 : Int32) (S : zSt) (r : Int32) (S1 : zSt) (hf : fX8_readCell p1 S = some (r, S1)) : zMi l yX8_readCell wX8_readCell rmX8_readCell (zEX tt) D (tX cA) (hsX h) [.ref (h 8), .int p1] (wX cA h S) (wX cA h S1) sz r := by
  refine zEn_z (cc := cX8_readCell) (maxL := 2) (own := RX8) (by decide) rfl rfl (hmX cA h S) (Nat.le_of_ble_eq_true rfl) ?_
  intro p e s m args below meth c Q H locs C0 hW fin ls hl
  have hl : lv_has ls 2 [(0, .ref (h 8)), (1, .int p1)] := hl
  have hx := C0.1
  have hb := C0.2.1
  have hown := C0.2.2.2.1
  have hts := C0.2.2.2.2
  unfold fX8_readCell at hf
  refine lv_aload_n (pc := 0) hx hb dX8_readCell_0 rfl (lv_at hl 0 rfl) ?_
  refine lv_iload_n (pc := 1) hx hb dX8_readCell_1 rfl (lv_at hl 1 rfl) ?_
  refine lv_iconst (pc := 2) (v := 0) hx hb dX8_readCell_2 (by decide) ?_
  refine lv_iadd (pc := 3) hx hb dX8_readCell_3 ?_
  obtain ⟨r1, S2, e3, hf⟩ := zB_e hf
  refine zcVi (zEX_ok tt) (As := [.int (p1 + 0)]) (pc := 4) C0 hW (kX8_readMeasure l D cA h tt H.size (p1 + 0) S r1 S2 e3) (cwV 1 hts (zgV gaX mX_470 mX_471 mX_472 mX_66 mX_473) rfl rfl rfl (by decide +kernel) ⟨Nat.le_of_ble_eq_true rfl, Nat.le_of_ble_eq_true rfl⟩) (va_recv hW.1 hW.2.1 (ci := 8) (q0 := 8) rfl rfl) rfl hl.1 rfl (Nat.le_of_ble_eq_true rfl) dX8_readCell_4 (fun H locs hW => ?_)
  refine lv_if_eq (pc := 7) (tgt := 58) hx hb dX8_readCell_7 (by decide) (fun c4 => ?_) (fun c4 => ?_)
  · have hf := zt c4 hf
    refine lv_iconst (pc := 58) (v := 0) hx hb dX8_readCell_58 (by decide) ?_
    exact zend_z (w := wX cA h) fin hf (by decide) hW dX8_readCell_59
  · have hf := zf c4 hf
    refine lv_aload_n (pc := 10) hx hb dX8_readCell_10 rfl (lv_at hl 0 rfl) ?_
    refine xg_900 (pc := 11) C0 hu_8 hW mX_453 dX8_readCell_11 ?_
    refine lv_bipush (pc := 14) (v := 44) hx hb dX8_readCell_14 (by decide) ?_
    obtain ⟨r5, S6, e7, hf⟩ := zB_e hf
    refine zcVi (zEX_ok tt) (As := [.int 44]) (pc := 16) C0 hW (kX10_pass l D cA h tt H.size 44 S2 r5 S6 e7) (cwV 1 hts (zgV gaX mX_480 mX_339 mX_340 mX_330 mX_341) rfl rfl rfl (by decide +kernel) ⟨Nat.le_of_ble_eq_true rfl, Nat.le_of_ble_eq_true rfl⟩) (va_recv hW.1 hW.2.1 (ci := 10) (q0 := 10) rfl rfl) rfl hl.1 rfl (Nat.le_of_ble_eq_true rfl) dX8_readCell_16 (fun H locs hW => ?_)
    refine lv_if_eq (pc := 19) (tgt := 58) hx hb dX8_readCell_19 (by decide) (fun c8 => ?_) (fun c8 => ?_)
    · have hf := zt c8 hf
      refine lv_iconst (pc := 58) (v := 0) hx hb dX8_readCell_58 (by decide) ?_
      exact zend_z (w := wX cA h) fin hf (by decide) hW dX8_readCell_59
    · have hf := zf c8 hf
      refine lv_aload_n (pc := 22) hx hb dX8_readCell_22 rfl (lv_at hl 0 rfl) ?_
      refine lv_iload_n (pc := 23) hx hb dX8_readCell_23 rfl (lv_at hl 1 rfl) ?_
      refine lv_iconst (pc := 24) (v := 1) hx hb dX8_readCell_24 (by decide) ?_
      refine lv_iadd (pc := 25) hx hb dX8_readCell_25 ?_
      obtain ⟨r9, S10, e11, hf⟩ := zB_e hf
      refine zcVi (zEX_ok tt) (As := [.int (p1 + 1)]) (pc := 26) C0 hW (kX8_readMeasure l D cA h tt H.size (p1 + 1) S6 r9 S10 e11) (cwV 1 hts (zgV gaX mX_470 mX_471 mX_472 mX_66 mX_473) rfl rfl rfl (by decide +kernel) ⟨Nat.le_of_ble_eq_true rfl, Nat.le_of_ble_eq_true rfl⟩) (va_recv hW.1 hW.2.1 (ci := 8) (q0 := 8) rfl rfl) rfl hl.1 rfl (Nat.le_of_ble_eq_true rfl) dX8_readCell_26 (fun H locs hW => ?_)
      refine lv_if_eq (pc := 29) (tgt := 58) hx hb dX8_readCell_29 (by decide) (fun c12 => ?_) (fun c12 => ?_)
      · have hf := zt c12 hf
        refine lv_iconst (pc := 58) (v := 0) hx hb dX8_readCell_58 (by decide) ?_
        exact zend_z (w := wX cA h) fin hf (by decide) hW dX8_readCell_59
      · have hf := zf c12 hf
        refine lv_aload_n (pc := 32) hx hb dX8_readCell_32 rfl (lv_at hl 0 rfl) ?_
        refine xg_900 (pc := 33) C0 hu_8 hW mX_453 dX8_readCell_33 ?_
        refine lv_bipush (pc := 36) (v := 44) hx hb dX8_readCell_36 (by decide) ?_
        obtain ⟨r13, S14, e15, hf⟩ := zB_e hf
        refine zcVi (zEX_ok tt) (As := [.int 44]) (pc := 38) C0 hW (kX10_pass l D cA h tt H.size 44 S10 r13 S14 e15) (cwV 1 hts (zgV gaX mX_480 mX_339 mX_340 mX_330 mX_341) rfl rfl rfl (by decide +kernel) ⟨Nat.le_of_ble_eq_true rfl, Nat.le_of_ble_eq_true rfl⟩) (va_recv hW.1 hW.2.1 (ci := 10) (q0 := 10) rfl rfl) rfl hl.1 rfl (Nat.le_of_ble_eq_true rfl) dX8_readCell_38 (fun H locs hW => ?_)
        refine lv_if_eq (pc := 41) (tgt := 58) hx hb dX8_readCell_41 (by decide) (fun c16 => ?_) (fun c16 => ?_)
        · have hf := zt c16 hf
          refine lv_iconst (pc := 58) (v := 0) hx hb dX8_readCell_58 (by decide) ?_
          exact zend_z (w := wX cA h) fin hf (by decide) hW dX8_readCell_59
        · have hf := zf c16 hf
          refine lv_aload_n (pc := 44) hx hb dX8_readCell_44 rfl (lv_at hl 0 rfl) ?_
          refine lv_iload_n (pc := 45) hx hb dX8_readCell_45 rfl (lv_at hl 1 rfl) ?_
          refine lv_iconst (pc := 46) (v := 2) hx hb dX8_readCell_46 (by decide) ?_
          refine lv_iadd (pc := 47) hx hb dX8_readCell_47 ?_
          obtain ⟨r17, S18, e19, hf⟩ := zB_e hf
          refine zcVi (zEX_ok tt) (As := [.int (p1 + 2)]) (pc := 48) C0 hW (kX8_readBed l D cA h tt H.size (p1 + 2) S14 r17 S18 e19) (cwV 1 hts (zgV gaX mX_481 mX_482 mX_483 mX_66 mX_484) rfl rfl rfl (by decide +kernel) ⟨Nat.le_of_ble_eq_true rfl, Nat.le_of_ble_eq_true rfl⟩) (va_recv hW.1 hW.2.1 (ci := 8) (q0 := 8) rfl rfl) rfl hl.1 rfl (Nat.le_of_ble_eq_true rfl) dX8_readCell_48 (fun H locs hW => ?_)
          refine lv_if_eq (pc := 51) (tgt := 58) hx hb dX8_readCell_51 (by decide) (fun c20 => ?_) (fun c20 => ?_)
          · have hf := zt c20 hf
            refine lv_iconst (pc := 58) (v := 0) hx hb dX8_readCell_58 (by decide) ?_
            exact zend_z (w := wX cA h) fin hf (by decide) hW dX8_readCell_59
          · have hf := zf c20 hf
            refine lv_iconst (pc := 54) (v := 1) hx hb dX8_readCell_54 (by decide) ?_
            refine lv_goto (pc := 55) (tgt := 59) hx hb dX8_readCell_55 (by decide) ?_
            exact zend_z (w := wX cA h) fin hf (by decide) hW dX8_readCell_59

def fX8_read_b11 (N : Nat) : Nat → Int32 → zSt → Option (Int32 × zSt)
  | 0, _, _ => none
  | n + 1, v1, S =>
    if 12 ≤ v1 then (some (0, S)) else (zU (fX8_slot (S.1 904) v1) fun r2 => zB (fX8_readCell r2 S) fun r5 S6 => if r5 = 0 then (some (0, S6)) else (zB (fX10_pass 47 S6) fun r9 S10 => if r9 = 0 then (if (v1 + 1) = 12 then (some (0, S10)) else (zB (fX10_pass 59 S10) fun r14 S15 => if r14 = 0 then (some (0, S15)) else (fX8_read_b11 N n (v1 + 1) S15))) else (zB (fX8_readBelow (v1 + 1) S10) fun r18 S19 => if zbit r18 then some (r18, S19) else none)))
def fX8_read (N : Nat) (S : zSt) : Option (Int32 × zSt) :=
  zB (fX8_isFull S) fun r22 S23 => if r22 = 0 then (fX8_read_b11 N N 0 S23) else (some (0, S23))
abbrev wX8_read : List Cond := Cond.code yX8_read cX8_read 2 (some .boolean) :: waX
abbrev rmX8_read : Room := { frames := 4, cells := 0, slots := 0, locals := 86 }
set_option maxHeartbeats 4000000 in
set_option maxRecDepth 100000 in
theorem kX8_read (l : Launch) (D : va_G) (cA : Nat → ClassId) (h tt : Nat → Nat) (sz : Nat) (N : Nat)   (S : zSt) (r : Int32) (S1 : zSt) (hf : fX8_read N S = some (r, S1)) : zMi l yX8_read wX8_read rmX8_read (zEX tt) D (tX cA) (hsX h) [.ref (h 8)] (wX cA h S) (wX cA h S1) sz r := by
  refine zEn_z (cc := cX8_read) (maxL := 2) (own := RX8) (by decide) rfl rfl (hmX cA h S) (Nat.le_of_ble_eq_true rfl) ?_
  intro p e s m args below meth c Q H locs C0 hW fin ls hl
  have hl : lv_has ls 2 [(0, .ref (h 8))] := hl
  have hx := C0.1
  have hb := C0.2.1
  have hown := C0.2.2.2.1
  have hts := C0.2.2.2.2
  have w11 : ∀ (n : Nat), ∀ (v1 : Int32) (S : zSt) (H : Heap) (locs : List Loc), zW (zEX tt) D (tX cA) (wX cA h S) (aW (hsX h) s.heap.size) s H locs → ∀ ls : Array Slot, lv_has ls 2 [(0, .ref (h 8)), (1, .int v1)] → fX8_read_b11 N n v1 S = some (r, S1) → W p l e rmX8_read s m args below meth c H locs 0 0 Q (F0 m 11 ls []) := by
    intro n
    induction n with
    | zero =>
      intro v1 S H locs hW ls hl hf
      exact absurd hf (by intro h; cases h)
    | succ n ih =>
      intro v1 S H locs hW ls hl hf
      rw [fX8_read_b11] at hf
      refine lv_iload_n (pc := 11) hx hb dX8_read_11 rfl (lv_at hl 1 rfl) ?_
      refine lv_bipush (pc := 12) (v := 12) hx hb dX8_read_12 (by decide) ?_
      refine lv_icmp_ge (pc := 14) (tgt := 82) hx hb dX8_read_14 (by decide) (fun c1 => ?_) (fun c1 => ?_)
      · have hf := zt c1 hf
        refine lv_iconst (pc := 82) (v := 0) hx hb dX8_read_82 (by decide) ?_
        exact zend_z (w := wX cA h) fin hf (by decide) hW dX8_read_83
      · have hf := zf c1 hf
        refine lv_aload_n (pc := 17) hx hb dX8_read_17 rfl (lv_at hl 0 rfl) ?_
        refine lv_aload_n (pc := 18) hx hb dX8_read_18 rfl (lv_at hl 0 rfl) ?_
        refine xg_904 (pc := 19) C0 hu_8 hW mX_184 dX8_read_19 ?_
        refine lv_iload_n (pc := 22) hx hb dX8_read_22 rfl (lv_at hl 1 rfl) ?_
        obtain ⟨r2, e4, hf⟩ := zU_e hf
        refine zcSi (As := [.int (S.1 904), .int v1]) (pc := 23) C0 hW (kX8_slot l H.size (S.1 904) v1 r2 e4) (va_cwS 2 hts (zgS gaX mX_118 mX_119 mX_66 mX_120) rfl rfl rfl (by decide +kernel) ⟨Nat.le_of_ble_eq_true rfl, Nat.le_of_ble_eq_true rfl⟩) rfl hl.1 rfl (Nat.le_of_ble_eq_true rfl) dX8_read_23 (fun H locs hW => ?_)
        obtain ⟨r5, S6, e7, hf⟩ := zB_e hf
        refine zcVi (zEX_ok tt) (As := [.int r2]) (pc := 26) C0 hW (kX8_readCell l D cA h tt H.size r2 S r5 S6 e7) (cwV 1 hts (zgV gaX mX_466 mX_467 mX_468 mX_66 mX_469) rfl rfl rfl (by decide +kernel) ⟨Nat.le_of_ble_eq_true rfl, Nat.le_of_ble_eq_true rfl⟩) (va_recv hW.1 hW.2.1 (ci := 8) (q0 := 8) rfl rfl) rfl hl.1 rfl (Nat.le_of_ble_eq_true rfl) dX8_read_26 (fun H locs hW => ?_)
        refine lv_if_ne (pc := 29) (tgt := 34) hx hb dX8_read_29 (by decide) (fun c8 => ?_) (fun c8 => ?_)
        · have hf := zf c8 hf
          refine lv_aload_n (pc := 34) hx hb dX8_read_34 rfl (lv_at hl 0 rfl) ?_
          refine xg_900 (pc := 35) C0 hu_8 hW mX_453 dX8_read_35 ?_
          refine lv_bipush (pc := 38) (v := 47) hx hb dX8_read_38 (by decide) ?_
          obtain ⟨r9, S10, e11, hf⟩ := zB_e hf
          refine zcVi (zEX_ok tt) (As := [.int 47]) (pc := 40) C0 hW (kX10_pass l D cA h tt H.size 47 S6 r9 S10 e11) (cwV 1 hts (zgV gaX mX_480 mX_339 mX_340 mX_330 mX_341) rfl rfl rfl (by decide +kernel) ⟨Nat.le_of_ble_eq_true rfl, Nat.le_of_ble_eq_true rfl⟩) (va_recv hW.1 hW.2.1 (ci := 10) (q0 := 10) rfl rfl) rfl hl.1 rfl (Nat.le_of_ble_eq_true rfl) dX8_read_40 (fun H locs hW => ?_)
          refine lv_if_eq (pc := 43) (tgt := 54) hx hb dX8_read_43 (by decide) (fun c12 => ?_) (fun c12 => ?_)
          · have hf := zt c12 hf
            refine lv_iload_n (pc := 54) hx hb dX8_read_54 rfl (lv_at hl 1 rfl) ?_
            refine lv_iconst (pc := 55) (v := 1) hx hb dX8_read_55 (by decide) ?_
            refine lv_iadd (pc := 56) hx hb dX8_read_56 ?_
            refine lv_bipush (pc := 57) (v := 12) hx hb dX8_read_57 (by decide) ?_
            refine lv_icmp_eq (pc := 59) (tgt := 74) hx hb dX8_read_59 (by decide) (fun c13 => ?_) (fun c13 => ?_)
            · have hf := zt c13 hf
              refine lv_iconst (pc := 74) (v := 0) hx hb dX8_read_74 (by decide) ?_
              exact zend_z (w := wX cA h) fin hf (by decide) hW dX8_read_75
            · have hf := zf c13 hf
              refine lv_aload_n (pc := 62) hx hb dX8_read_62 rfl (lv_at hl 0 rfl) ?_
              refine xg_900 (pc := 63) C0 hu_8 hW mX_453 dX8_read_63 ?_
              refine lv_bipush (pc := 66) (v := 59) hx hb dX8_read_66 (by decide) ?_
              obtain ⟨r14, S15, e16, hf⟩ := zB_e hf
              refine zcVi (zEX_ok tt) (As := [.int 59]) (pc := 68) C0 hW (kX10_pass l D cA h tt H.size 59 S10 r14 S15 e16) (cwV 1 hts (zgV gaX mX_480 mX_339 mX_340 mX_330 mX_341) rfl rfl rfl (by decide +kernel) ⟨Nat.le_of_ble_eq_true rfl, Nat.le_of_ble_eq_true rfl⟩) (va_recv hW.1 hW.2.1 (ci := 10) (q0 := 10) rfl rfl) rfl hl.1 rfl (Nat.le_of_ble_eq_true rfl) dX8_read_68 (fun H locs hW => ?_)
              refine lv_if_ne (pc := 71) (tgt := 76) hx hb dX8_read_71 (by decide) (fun c17 => ?_) (fun c17 => ?_)
              · have hf := zf c17 hf
                refine lv_iinc (pc := 76) (v := (v1 + 1)) (lv' := [(1, .int (v1 + 1)), (0, .ref (h 8))]) hx hb dX8_read_76 hl (k := 1) rfl (by rfl) (by decide) rfl (fun ls hl => ?_)
                refine lv_goto (pc := 79) (tgt := 11) hx hb dX8_read_79 (by decide) ?_
                exact ih (v1 + 1) S15 H locs hW ls (lv_sub hl [1, 0] rfl) hf
              · have hf := zt c17 hf
                refine lv_iconst (pc := 74) (v := 0) hx hb dX8_read_74 (by decide) ?_
                exact zend_z (w := wX cA h) fin hf (by decide) hW dX8_read_75
          · have hf := zf c12 hf
            refine lv_aload_n (pc := 46) hx hb dX8_read_46 rfl (lv_at hl 0 rfl) ?_
            refine lv_iload_n (pc := 47) hx hb dX8_read_47 rfl (lv_at hl 1 rfl) ?_
            refine lv_iconst (pc := 48) (v := 1) hx hb dX8_read_48 (by decide) ?_
            refine lv_iadd (pc := 49) hx hb dX8_read_49 ?_
            obtain ⟨r18, S19, e20, hf⟩ := zB_e hf
            refine zcVi (zEX_ok tt) (As := [.int (v1 + 1)]) (pc := 50) C0 hW (kX8_readBelow l D cA h tt H.size (v1 + 1) S10 r18 S19 e20) (cwV 1 hts (zgV gaX mX_485 mX_486 mX_487 mX_66 mX_488) rfl rfl rfl (by decide +kernel) ⟨Nat.le_of_ble_eq_true rfl, Nat.le_of_ble_eq_true rfl⟩) (va_recv hW.1 hW.2.1 (ci := 8) (q0 := 8) rfl rfl) rfl hl.1 rfl (Nat.le_of_ble_eq_true rfl) dX8_read_50 (fun H locs hW => ?_)
            obtain ⟨i21, hf⟩ := zn hf
            exact zend_z (w := wX cA h) fin hf i21 hW dX8_read_53
        · have hf := zt c8 hf
          refine lv_iconst (pc := 32) (v := 0) hx hb dX8_read_32 (by decide) ?_
          exact zend_z (w := wX cA h) fin hf (by decide) hW dX8_read_33
  unfold fX8_read at hf
  refine lv_aload_n (pc := 0) hx hb dX8_read_0 rfl (lv_at hl 0 rfl) ?_
  obtain ⟨r22, S23, e24, hf⟩ := zB_e hf
  refine zcVi (zEX_ok tt) (As := []) (pc := 1) C0 hW (kX8_isFull l D cA h tt H.size S r22 S23 e24) (cwV 0 hts (zgV gaX mX_463 mX_464 mX_465 mX_66 mX_455) rfl rfl rfl (by decide +kernel) ⟨Nat.le_of_ble_eq_true rfl, Nat.le_of_ble_eq_true rfl⟩) (va_recv hW.1 hW.2.1 (ci := 8) (q0 := 8) rfl rfl) rfl hl.1 rfl (Nat.le_of_ble_eq_true rfl) dX8_read_1 (fun H locs hW => ?_)
  refine lv_if_eq (pc := 4) (tgt := 9) hx hb dX8_read_4 (by decide) (fun c25 => ?_) (fun c25 => ?_)
  · have hf := zt c25 hf
    refine lv_iconst (pc := 9) (v := 0) hx hb dX8_read_9 (by decide) ?_
    refine lv_istore_n (pc := 10) (lv' := [(1, .int 0), (0, .ref (h 8))]) hx hb dX8_read_10 rfl hl (by decide) rfl (fun ls hl => ?_)
    exact w11 N 0 S23 H locs hW ls (lv_sub hl [1, 0] rfl) hf
  · have hf := zf c25 hf
    refine lv_iconst (pc := 7) (v := 0) hx hb dX8_read_7 (by decide) ?_
    exact zend_z (w := wX cA h) fin hf (by decide) hW dX8_read_8

def fX9_has (p1 : Int32): Option Int32 :=
  if p1 < 0 then (some 0) else (if 6 ≤ p1 then (some 0) else (some 1))
abbrev wX9_has : List Cond := Cond.code yX9_has cX9_has 1 (some .boolean) :: waX
abbrev rmX9_has : Room := { frames := 0, cells := 0, slots := 0, locals := 0 }
set_option maxHeartbeats 4000000 in
set_option maxRecDepth 100000 in
theorem kX9_has (l : Launch) (sz : Nat) (p1 : Int32) (r : Int32) (hf : fX9_has p1 = some r) : zMs l yX9_has wX9_has rmX9_has [.int p1] sz r := by
  refine zEs_z (cc := cX9_has) (maxL := 1) (own := RX9) (by decide) rfl rfl (Nat.le_of_ble_eq_true rfl) ?_
  intro p e s m args below meth c Q H locs C0 hW fin ls hl
  have hl : lv_has ls 1 [(0, .int p1)] := hl
  have hx := C0.1
  have hb := C0.2.1
  have hown := C0.2.2.2.1
  have hts := C0.2.2.2.2
  unfold fX9_has at hf
  refine lv_iload_n (pc := 0) hx hb dX9_has_0 rfl (lv_at hl 0 rfl) ?_
  refine lv_if_lt (pc := 1) (tgt := 14) hx hb dX9_has_1 (by decide) (fun c1 => ?_) (fun c1 => ?_)
  · have hf := zt c1 hf
    refine lv_iconst (pc := 14) (v := 0) hx hb dX9_has_14 (by decide) ?_
    exact zens_z fin hf (by decide) hW dX9_has_15
  · have hf := zf c1 hf
    refine lv_iload_n (pc := 4) hx hb dX9_has_4 rfl (lv_at hl 0 rfl) ?_
    refine lv_bipush (pc := 5) (v := 6) hx hb dX9_has_5 (by decide) ?_
    refine lv_icmp_ge (pc := 7) (tgt := 14) hx hb dX9_has_7 (by decide) (fun c2 => ?_) (fun c2 => ?_)
    · have hf := zt c2 hf
      refine lv_iconst (pc := 14) (v := 0) hx hb dX9_has_14 (by decide) ?_
      exact zens_z fin hf (by decide) hW dX9_has_15
    · have hf := zf c2 hf
      refine lv_iconst (pc := 10) (v := 1) hx hb dX9_has_10 (by decide) ?_
      refine lv_goto (pc := 11) (tgt := 15) hx hb dX9_has_11 (by decide) ?_
      exact zens_z fin hf (by decide) hW dX9_has_15

def fX9_isSort (p1 : Int32) (S : zSt) : Option (Int32 × zSt) :=
  zU (fX11_isWithin p1 0 4) fun r1 => if zbit r1 then some (r1, S) else none
abbrev wX9_isSort : List Cond := Cond.code yX9_isSort cX9_isSort 1 (some .boolean) :: waX
abbrev rmX9_isSort : Room := { frames := 1, cells := 0, slots := 0, locals := 22 }
set_option maxHeartbeats 4000000 in
set_option maxRecDepth 100000 in
theorem kX9_isSort (l : Launch) (D : va_G) (cA : Nat → ClassId) (h tt : Nat → Nat) (sz : Nat)  (p1 : Int32) (S : zSt) (r : Int32) (S1 : zSt) (hf : fX9_isSort p1 S = some (r, S1)) : zMi l yX9_isSort wX9_isSort rmX9_isSort (zEX tt) D (tX cA) (hsX h) [.int p1] (wX cA h S) (wX cA h S1) sz r := by
  refine zEn_z (cc := cX9_isSort) (maxL := 1) (own := RX9) (by decide) rfl rfl (hmX cA h S) (Nat.le_of_ble_eq_true rfl) ?_
  intro p e s m args below meth c Q H locs C0 hW fin ls hl
  have hl : lv_has ls 1 [(0, .int p1)] := hl
  have hx := C0.1
  have hb := C0.2.1
  have hown := C0.2.2.2.1
  have hts := C0.2.2.2.2
  unfold fX9_isSort at hf
  refine lv_iload_n (pc := 0) hx hb dX9_isSort_0 rfl (lv_at hl 0 rfl) ?_
  refine lv_iconst (pc := 1) (v := 0) hx hb dX9_isSort_1 (by decide) ?_
  refine lv_iconst (pc := 2) (v := 4) hx hb dX9_isSort_2 (by decide) ?_
  obtain ⟨r1, e3, hf⟩ := zU_e hf
  refine zcNi (As := [.int p1, .int 0, .int 4]) (pc := 3) C0 hW (kX11_isWithin l H.size p1 0 4 r1 e3) ⟨va_cnB 3 hts (zgN gaX mX_227) rfl rfl rfl hW.2.2.2.2.2.2.2.2.2.2.2.2.2.2.2.2.2.2.2.2.2.2.2.1 (hts _ mX_151) (by decide +kernel) ⟨Nat.le_of_ble_eq_true rfl, Nat.le_of_ble_eq_true rfl⟩, hts _ mX_226, trivial⟩ rfl hl.1 rfl (Nat.le_of_ble_eq_true rfl) dX9_isSort_3 (fun H locs hW => ?_)
  obtain ⟨i4, hf⟩ := zn hf
  exact zend_z (w := wX cA h) fin hf i4 hW dX9_isSort_6

def fX9_sortOn (p1 : Int32) (S : zSt) : Option (Int32 × zSt) :=
  zU (fX9_has p1) fun r1 => if r1 = 0 then (some ((-2), S)) else (if zin p1 6 then some ((S.2.1 1000 (Int32.toNatClampNeg p1)), S) else none)
abbrev wX9_sortOn : List Cond := Cond.code yX9_sortOn cX9_sortOn 2 (some .int) :: waX
abbrev rmX9_sortOn : Room := { frames := 1, cells := 0, slots := 0, locals := 20 }
set_option maxHeartbeats 4000000 in
set_option maxRecDepth 100000 in
theorem kX9_sortOn (l : Launch) (D : va_G) (cA : Nat → ClassId) (h tt : Nat → Nat) (sz : Nat)  (p1 : Int32) (S : zSt) (r : Int32) (S1 : zSt) (hf : fX9_sortOn p1 S = some (r, S1)) : zMi l yX9_sortOn wX9_sortOn rmX9_sortOn (zEX tt) D (tX cA) (hsX h) [.ref (h 9), .int p1] (wX cA h S) (wX cA h S1) sz r := by
  refine zEn_i (cc := cX9_sortOn) (maxL := 2) (own := RX9) (by decide) rfl rfl (hmX cA h S) (Nat.le_of_ble_eq_true rfl) ?_
  intro p e s m args below meth c Q H locs C0 hW fin ls hl
  have hl : lv_has ls 2 [(0, .ref (h 9)), (1, .int p1)] := hl
  have hx := C0.1
  have hb := C0.2.1
  have hown := C0.2.2.2.1
  have hts := C0.2.2.2.2
  unfold fX9_sortOn at hf
  refine lv_iload_n (pc := 0) hx hb dX9_sortOn_0 rfl (lv_at hl 1 rfl) ?_
  obtain ⟨r1, e3, hf⟩ := zU_e hf
  refine zcSi (As := [.int p1]) (pc := 1) C0 hW (kX9_has l H.size p1 r1 e3) (va_cwS 1 hts (zgS gaX mX_505 mX_506 mX_507 mX_502) rfl rfl rfl (by decide +kernel) ⟨Nat.le_of_ble_eq_true rfl, Nat.le_of_ble_eq_true rfl⟩) rfl hl.1 rfl (Nat.le_of_ble_eq_true rfl) dX9_sortOn_1 (fun H locs hW => ?_)
  refine lv_if_eq (pc := 4) (tgt := 16) hx hb dX9_sortOn_4 (by decide) (fun c4 => ?_) (fun c4 => ?_)
  · have hf := zt c4 hf
    refine lv_bipush (pc := 16) (v := (-2)) hx hb dX9_sortOn_16 (by decide) ?_
    exact zend_i (w := wX cA h) fin hf hW dX9_sortOn_18
  · have hf := zf c4 hf
    refine lv_aload_n (pc := 7) hx hb dX9_sortOn_7 rfl (lv_at hl 0 rfl) ?_
    refine xg_1000 (pc := 8) C0 hu_9 hW mX_492 dX9_sortOn_8 ?_
    refine lv_iload_n (pc := 11) hx hb dX9_sortOn_11 rfl (lv_at hl 1 rfl) ?_
    obtain ⟨i5, hf⟩ := zn hf
    refine xl_1000 (pc := 12) C0 hW i5 dX9_sortOn_12 ?_
    refine lv_goto (pc := 13) (tgt := 18) hx hb dX9_sortOn_13 (by decide) ?_
    exact zend_i (w := wX cA h) fin hf hW dX9_sortOn_18

def fX9_bodyOn (p1 : Int32) (S : zSt) : Option (Int32 × zSt) :=
  zU (fX9_has p1) fun r1 => if r1 = 0 then (some ((-1), S)) else (if zin p1 6 then some ((S.2.1 1002 (Int32.toNatClampNeg p1)), S) else none)
abbrev wX9_bodyOn : List Cond := Cond.code yX9_bodyOn cX9_bodyOn 2 (some .int) :: waX
abbrev rmX9_bodyOn : Room := { frames := 1, cells := 0, slots := 0, locals := 20 }
set_option maxHeartbeats 4000000 in
set_option maxRecDepth 100000 in
theorem kX9_bodyOn (l : Launch) (D : va_G) (cA : Nat → ClassId) (h tt : Nat → Nat) (sz : Nat)  (p1 : Int32) (S : zSt) (r : Int32) (S1 : zSt) (hf : fX9_bodyOn p1 S = some (r, S1)) : zMi l yX9_bodyOn wX9_bodyOn rmX9_bodyOn (zEX tt) D (tX cA) (hsX h) [.ref (h 9), .int p1] (wX cA h S) (wX cA h S1) sz r := by
  refine zEn_i (cc := cX9_bodyOn) (maxL := 2) (own := RX9) (by decide) rfl rfl (hmX cA h S) (Nat.le_of_ble_eq_true rfl) ?_
  intro p e s m args below meth c Q H locs C0 hW fin ls hl
  have hl : lv_has ls 2 [(0, .ref (h 9)), (1, .int p1)] := hl
  have hx := C0.1
  have hb := C0.2.1
  have hown := C0.2.2.2.1
  have hts := C0.2.2.2.2
  unfold fX9_bodyOn at hf
  refine lv_iload_n (pc := 0) hx hb dX9_bodyOn_0 rfl (lv_at hl 1 rfl) ?_
  obtain ⟨r1, e3, hf⟩ := zU_e hf
  refine zcSi (As := [.int p1]) (pc := 1) C0 hW (kX9_has l H.size p1 r1 e3) (va_cwS 1 hts (zgS gaX mX_505 mX_506 mX_507 mX_502) rfl rfl rfl (by decide +kernel) ⟨Nat.le_of_ble_eq_true rfl, Nat.le_of_ble_eq_true rfl⟩) rfl hl.1 rfl (Nat.le_of_ble_eq_true rfl) dX9_bodyOn_1 (fun H locs hW => ?_)
  refine lv_if_eq (pc := 4) (tgt := 16) hx hb dX9_bodyOn_4 (by decide) (fun c4 => ?_) (fun c4 => ?_)
  · have hf := zt c4 hf
    refine lv_iconst (pc := 16) (v := (-1)) hx hb dX9_bodyOn_16 (by decide) ?_
    exact zend_i (w := wX cA h) fin hf hW dX9_bodyOn_17
  · have hf := zf c4 hf
    refine lv_aload_n (pc := 7) hx hb dX9_bodyOn_7 rfl (lv_at hl 0 rfl) ?_
    refine xg_1002 (pc := 8) C0 hu_9 hW mX_494 dX9_bodyOn_8 ?_
    refine lv_iload_n (pc := 11) hx hb dX9_bodyOn_11 rfl (lv_at hl 1 rfl) ?_
    obtain ⟨i5, hf⟩ := zn hf
    refine xl_1002 (pc := 12) C0 hW i5 dX9_bodyOn_12 ?_
    refine lv_goto (pc := 13) (tgt := 17) hx hb dX9_bodyOn_13 (by decide) ?_
    exact zend_i (w := wX cA h) fin hf hW dX9_bodyOn_17

def fX9_hold_b23  (v1 : Int32) (v2 : Int32) (u1 : Int32) (u2 : Int32) (S : zSt) : Option zSt :=
  if zin u1 6 then zL (zA S 1000 (Int32.toNatClampNeg u1) u2) fun S2 => if zin v1 6 then zL (zA S2 1002 (Int32.toNatClampNeg v1) v2) fun S4 => some S4 else none else none
def fX9_hold (p1 : Int32) (p2 : Int32) (S : zSt) : Option zSt :=
  zU (fX9_has p1) fun r5 => if r5 = 0 then (some S) else (if p2 = (-1) then (fX9_hold_b23 p1 p2 p1 (-2) S) else (fX9_hold_b23 p1 p2 p1 (-1) S))
abbrev wX9_hold : List Cond := Cond.code yX9_hold cX9_hold 3 none :: waX
abbrev rmX9_hold : Room := { frames := 1, cells := 0, slots := 0, locals := 20 }
set_option maxHeartbeats 4000000 in
set_option maxRecDepth 100000 in
theorem kX9_hold (l : Launch) (D : va_G) (cA : Nat → ClassId) (h tt : Nat → Nat) (sz : Nat)  (p1 : Int32) (p2 : Int32) (S : zSt) (S1 : zSt) (hf : fX9_hold p1 p2 S = some S1) : zMv l yX9_hold wX9_hold rmX9_hold (zEX tt) D (tX cA) (hsX h) [.ref (h 9), .int p1, .int p2] (wX cA h S) (wX cA h S1) sz := by
  refine zEn_v (cc := cX9_hold) (maxL := 3) (own := RX9) (by decide) rfl rfl (hmX cA h S) (Nat.le_of_ble_eq_true rfl) ?_
  intro p e s m args below meth c Q H locs C0 hW fin ls hl
  have hl : lv_has ls 3 [(0, .ref (h 9)), (1, .int p1), (2, .int p2)] := hl
  have hx := C0.1
  have hb := C0.2.1
  have hown := C0.2.2.2.1
  have hts := C0.2.2.2.2
  have w23 : ∀ (v1 : Int32) (v2 : Int32) (u1 : Int32) (u2 : Int32) (S : zSt) (H : Heap) (locs : List Loc), zW (zEX tt) D (tX cA) (wX cA h S) (aW (hsX h) s.heap.size) s H locs → ∀ ls : Array Slot, lv_has ls 3 [(0, .ref (h 9)), (1, .int v1), (2, .int v2)] → fX9_hold_b23 v1 v2 u1 u2 S = some S1 → W p l e rmX9_hold s m args below meth c H locs 0 0 Q (F0 m 23 ls [.int u2, .int u1, .ref (h 1000)]) := by
    intro v1 v2 u1 u2 S H locs hW ls hl hf
    unfold fX9_hold_b23 at hf
    obtain ⟨i1, hf⟩ := zn hf
    obtain ⟨S2, e_S2, hf⟩ := zL_e hf
    refine xs_s1000 (pc := 23) C0 hW i1 e_S2 dX9_hold_23 (fun H locs hW => ?_)
    refine lv_aload_n (pc := 24) hx hb dX9_hold_24 rfl (lv_at hl 0 rfl) ?_
    refine xg_1002 (pc := 25) C0 hu_9 hW mX_494 dX9_hold_25 ?_
    refine lv_iload_n (pc := 28) hx hb dX9_hold_28 rfl (lv_at hl 1 rfl) ?_
    refine lv_iload_n (pc := 29) hx hb dX9_hold_29 rfl (lv_at hl 2 rfl) ?_
    obtain ⟨i3, hf⟩ := zn hf
    obtain ⟨S4, e_S4, hf⟩ := zL_e hf
    refine xs_s1002 (pc := 30) C0 hW i3 e_S4 dX9_hold_30 (fun H locs hW => ?_)
    exact zend_v (w := wX cA h) fin hf hW dX9_hold_31
  unfold fX9_hold at hf
  refine lv_iload_n (pc := 0) hx hb dX9_hold_0 rfl (lv_at hl 1 rfl) ?_
  obtain ⟨r5, e7, hf⟩ := zU_e hf
  refine zcSi (As := [.int p1]) (pc := 1) C0 hW (kX9_has l H.size p1 r5 e7) (va_cwS 1 hts (zgS gaX mX_505 mX_506 mX_507 mX_502) rfl rfl rfl (by decide +kernel) ⟨Nat.le_of_ble_eq_true rfl, Nat.le_of_ble_eq_true rfl⟩) rfl hl.1 rfl (Nat.le_of_ble_eq_true rfl) dX9_hold_1 (fun H locs hW => ?_)
  refine lv_if_eq (pc := 4) (tgt := 31) hx hb dX9_hold_4 (by decide) (fun c8 => ?_) (fun c8 => ?_)
  · have hf := zt c8 hf
    exact zend_v (w := wX cA h) fin hf hW dX9_hold_31
  · have hf := zf c8 hf
    refine lv_aload_n (pc := 7) hx hb dX9_hold_7 rfl (lv_at hl 0 rfl) ?_
    refine xg_1000 (pc := 8) C0 hu_9 hW mX_492 dX9_hold_8 ?_
    refine lv_iload_n (pc := 11) hx hb dX9_hold_11 rfl (lv_at hl 1 rfl) ?_
    refine lv_iload_n (pc := 12) hx hb dX9_hold_12 rfl (lv_at hl 2 rfl) ?_
    refine lv_iconst (pc := 13) (v := (-1)) hx hb dX9_hold_13 (by decide) ?_
    refine lv_icmp_ne (pc := 14) (tgt := 22) hx hb dX9_hold_14 (by decide) (fun c9 => ?_) (fun c9 => ?_)
    · have hf := zf c9 hf
      refine lv_iconst (pc := 22) (v := (-1)) hx hb dX9_hold_22 (by decide) ?_
      exact w23 p1 p2 p1 (-1) S H locs hW ls (lv_sub hl [0, 1, 2] rfl) hf
    · have hf := zt c9 hf
      refine lv_bipush (pc := 17) (v := (-2)) hx hb dX9_hold_17 (by decide) ?_
      refine lv_goto (pc := 19) (tgt := 23) hx hb dX9_hold_19 (by decide) ?_
      exact w23 p1 p2 p1 (-2) S H locs hW ls (lv_sub hl [0, 1, 2] rfl) hf

def fJ7_fill_d0a16_b6 (N : Nat) (i0 : Int32) : Nat → Int64 → Int32 → Int32 → zSt → Option zSt
  | 0, _, _, _, _ => none
  | n + 1, v1, v3, v4, S =>
    if v4 ≤ v3 then (some S) else (if zin v3 60 then zL (zJ S (10030 + Int32.toNatClampNeg i0) (Int32.toNatClampNeg v3) v1) fun S3 => fJ7_fill_d0a16_b6 N i0 n v1 (v3 + 1) v4 S3 else none)
def fJ7_fill_d0a16 (N : Nat) (i0 : Int32) (p2 : Int64) (S : zSt) : Option zSt :=
  fJ7_fill_d0a16_b6 N i0 N p2 0 60 S
abbrev wJ7_fill_d0a16 : List Cond := Cond.code yJ7_fill_d0a16 cJ7_fill_d0a16 5 none :: waX
abbrev rmJ7_fill_d0a16 : Room := { frames := 0, cells := 0, slots := 0, locals := 0 }
set_option maxHeartbeats 4000000 in
set_option maxRecDepth 100000 in
theorem kJ7_fill_d0a16 (l : Launch) (D : va_G) (cA : Nat → ClassId) (h tt : Nat → Nat) (sz : Nat) (N : Nat) (i0 : Int32) (hi0 : zin i0 6) (p2 : Int64) (S : zSt) (S1 : zSt) (hf : fJ7_fill_d0a16 N i0 p2 S = some S1) : zMv l yJ7_fill_d0a16 wJ7_fill_d0a16 rmJ7_fill_d0a16 (zEX tt) D (tX cA) (hsX h) [.ref (h (10030 + Int32.toNatClampNeg i0)), .long p2] (wX cA h S) (wX cA h S1) sz := by
  refine zEn_v (cc := cJ7_fill_d0a16) (maxL := 5) (own := RJ7) (by decide) rfl rfl (hmX cA h S) (Nat.le_of_ble_eq_true rfl) ?_
  intro p e s m args below meth c Q H locs C0 hW fin ls hl
  have hl : lv_has ls 5 [(0, .ref (h (10030 + Int32.toNatClampNeg i0))), (1, .long p2)] := hl
  have hx := C0.1
  have hb := C0.2.1
  have hown := C0.2.2.2.1
  have hts := C0.2.2.2.2
  have w6 : ∀ (n : Nat), ∀ (v1 : Int64) (v3 : Int32) (v4 : Int32) (S : zSt) (H : Heap) (locs : List Loc), zW (zEX tt) D (tX cA) (wX cA h S) (aW (hsX h) s.heap.size) s H locs → ∀ ls : Array Slot, lv_has ls 5 [(0, .ref (h (10030 + Int32.toNatClampNeg i0))), (1, .long v1), (3, .int v3), (4, .int v4)] → fJ7_fill_d0a16_b6 N i0 n v1 v3 v4 S = some S1 → W p l e rmJ7_fill_d0a16 s m args below meth c H locs 0 0 Q (F0 m 6 ls []) := by
    intro n
    induction n with
    | zero =>
      intro v1 v3 v4 S H locs hW ls hl hf
      exact absurd hf (by intro h; cases h)
    | succ n ih =>
      intro v1 v3 v4 S H locs hW ls hl hf
      rw [fJ7_fill_d0a16_b6] at hf
      refine lv_iload_n (pc := 6) hx hb dJ7_fill_d0a16_6 rfl (lv_at hl 2 rfl) ?_
      refine lv_iload (pc := 7) hx hb dJ7_fill_d0a16_7 (lv_at hl 3 rfl) ?_
      refine lv_icmp_ge (pc := 9) (tgt := 22) hx hb dJ7_fill_d0a16_9 (by decide) (fun c1 => ?_) (fun c1 => ?_)
      · have hf := zt c1 hf
        exact zend_v (w := wX cA h) fin hf hW dJ7_fill_d0a16_22
      · have hf := zf c1 hf
        refine lv_aload_n (pc := 12) hx hb dJ7_fill_d0a16_12 rfl (lv_at hl 0 rfl) ?_
        refine lv_iload_n (pc := 13) hx hb dJ7_fill_d0a16_13 rfl (lv_at hl 2 rfl) ?_
        refine lv_lload_n (pc := 14) hx hb dJ7_fill_d0a16_14 rfl (lv_at hl 1 rfl) ?_
        obtain ⟨i2, hf⟩ := zn hf
        obtain ⟨S3, e_S3, hf⟩ := zL_e hf
        refine xis_1003 (pc := 15) C0 hW hi0 i2 e_S3 dJ7_fill_d0a16_15 (fun H locs hW => ?_)
        refine lv_iinc (pc := 16) (v := (v3 + 1)) (lv' := [(3, .int (v3 + 1)), (0, .ref (h (10030 + Int32.toNatClampNeg i0))), (1, .long v1), (4, .int v4)]) hx hb dJ7_fill_d0a16_16 hl (k := 2) rfl (by rfl) (by decide) rfl (fun ls hl => ?_)
        refine lv_goto (pc := 19) (tgt := 6) hx hb dJ7_fill_d0a16_19 (by decide) ?_
        exact ih v1 (v3 + 1) v4 S3 H locs hW ls (lv_sub hl [1, 2, 0, 3] rfl) hf
  unfold fJ7_fill_d0a16 at hf
  refine lv_iconst (pc := 0) (v := 0) hx hb dJ7_fill_d0a16_0 (by decide) ?_
  refine lv_istore_n (pc := 1) (lv' := [(3, .int 0), (0, .ref (h (10030 + Int32.toNatClampNeg i0))), (1, .long p2)]) hx hb dJ7_fill_d0a16_1 rfl hl (by decide) rfl (fun ls hl => ?_)
  refine lv_aload_n (pc := 2) hx hb dJ7_fill_d0a16_2 rfl (lv_at hl 1 rfl) ?_
  refine xin_1003 (pc := 3) C0 hW hi0 dJ7_fill_d0a16_3 ?_
  refine lv_istore (pc := 4) (lv' := [(4, .int 60), (3, .int 0), (0, .ref (h (10030 + Int32.toNatClampNeg i0))), (1, .long p2)]) hx hb dJ7_fill_d0a16_4 hl (by decide) rfl (fun ls hl => ?_)
  exact w6 N p2 0 60 S H locs hW ls (lv_sub hl [2, 3, 1, 0] rfl) hf

def fX9_holdRow (N : Nat) (p1 : Int32) (p2 : Int32) (p3 : Int32) (S : zSt) : Option zSt :=
  zU (fX9_has p1) fun r1 => if r1 = 0 then (some S) else (if zin p1 6 then zL (zA S 1000 (Int32.toNatClampNeg p1) p2) fun S6 => if zin p1 6 then zL (zA S6 1001 (Int32.toNatClampNeg p1) p3) fun S8 => if zin p1 6 then zU (fJ7_fill_d0a16 N p1 0 S8) fun S11 => some S11 else none else none else none)
abbrev wX9_holdRow : List Cond := Cond.code yX9_holdRow cX9_holdRow 4 none :: waX
abbrev rmX9_holdRow : Room := { frames := 1, cells := 0, slots := 0, locals := 24 }
set_option maxHeartbeats 4000000 in
set_option maxRecDepth 100000 in
theorem kX9_holdRow (l : Launch) (D : va_G) (cA : Nat → ClassId) (h tt : Nat → Nat) (sz : Nat) (N : Nat)  (p1 : Int32) (p2 : Int32) (p3 : Int32) (S : zSt) (S1 : zSt) (hf : fX9_holdRow N p1 p2 p3 S = some S1) : zMv l yX9_holdRow wX9_holdRow rmX9_holdRow (zEX tt) D (tX cA) (hsX h) [.ref (h 9), .int p1, .int p2, .int p3] (wX cA h S) (wX cA h S1) sz := by
  refine zEn_v (cc := cX9_holdRow) (maxL := 4) (own := RX9) (by decide) rfl rfl (hmX cA h S) (Nat.le_of_ble_eq_true rfl) ?_
  intro p e s m args below meth c Q H locs C0 hW fin ls hl
  have hl : lv_has ls 4 [(0, .ref (h 9)), (1, .int p1), (2, .int p2), (3, .int p3)] := hl
  have hx := C0.1
  have hb := C0.2.1
  have hown := C0.2.2.2.1
  have hts := C0.2.2.2.2
  unfold fX9_holdRow at hf
  refine lv_iload_n (pc := 0) hx hb dX9_holdRow_0 rfl (lv_at hl 1 rfl) ?_
  obtain ⟨r1, e3, hf⟩ := zU_e hf
  refine zcSi (As := [.int p1]) (pc := 1) C0 hW (kX9_has l H.size p1 r1 e3) (va_cwS 1 hts (zgS gaX mX_505 mX_506 mX_507 mX_502) rfl rfl rfl (by decide +kernel) ⟨Nat.le_of_ble_eq_true rfl, Nat.le_of_ble_eq_true rfl⟩) rfl hl.1 rfl (Nat.le_of_ble_eq_true rfl) dX9_holdRow_1 (fun H locs hW => ?_)
  refine lv_if_eq (pc := 4) (tgt := 31) hx hb dX9_holdRow_4 (by decide) (fun c4 => ?_) (fun c4 => ?_)
  · have hf := zt c4 hf
    exact zend_v (w := wX cA h) fin hf hW dX9_holdRow_31
  · have hf := zf c4 hf
    refine lv_aload_n (pc := 7) hx hb dX9_holdRow_7 rfl (lv_at hl 0 rfl) ?_
    refine xg_1000 (pc := 8) C0 hu_9 hW mX_492 dX9_holdRow_8 ?_
    refine lv_iload_n (pc := 11) hx hb dX9_holdRow_11 rfl (lv_at hl 1 rfl) ?_
    refine lv_iload_n (pc := 12) hx hb dX9_holdRow_12 rfl (lv_at hl 2 rfl) ?_
    obtain ⟨i5, hf⟩ := zn hf
    obtain ⟨S6, e_S6, hf⟩ := zL_e hf
    refine xs_s1000 (pc := 13) C0 hW i5 e_S6 dX9_holdRow_13 (fun H locs hW => ?_)
    refine lv_aload_n (pc := 14) hx hb dX9_holdRow_14 rfl (lv_at hl 0 rfl) ?_
    refine xg_1001 (pc := 15) C0 hu_9 hW mX_493 dX9_holdRow_15 ?_
    refine lv_iload_n (pc := 18) hx hb dX9_holdRow_18 rfl (lv_at hl 1 rfl) ?_
    refine lv_iload_n (pc := 19) hx hb dX9_holdRow_19 rfl (lv_at hl 3 rfl) ?_
    obtain ⟨i7, hf⟩ := zn hf
    obtain ⟨S8, e_S8, hf⟩ := zL_e hf
    refine xs_s1001 (pc := 20) C0 hW i7 e_S8 dX9_holdRow_20 (fun H locs hW => ?_)
    refine lv_aload_n (pc := 21) hx hb dX9_holdRow_21 rfl (lv_at hl 0 rfl) ?_
    refine xg_1003 (pc := 22) C0 hu_9 hW mX_497 dX9_holdRow_22 ?_
    refine lv_iload_n (pc := 25) hx hb dX9_holdRow_25 rfl (lv_at hl 1 rfl) ?_
    obtain ⟨i9, hf⟩ := zn hf
    refine xq_1003 (pc := 26) C0 hW i9 dX9_holdRow_26 ?_
    refine lv_lconst (pc := 27) (v := 0) hx hb dX9_holdRow_27 (by decide) ?_
    obtain ⟨S11, e12, hf⟩ := zU_e hf
    refine zcWv (zEX_ok tt) (As := [.ref (h (10030 + Int32.toNatClampNeg p1)), .long 0]) (pc := 28) C0 hW (kJ7_fill_d0a16 l D cA h tt H.size N p1 i9 0 S8 S11 e12) (va_cwS 2 hts (zgS gaX mX_511 mX_512 mX_500 mX_513) rfl rfl rfl (by decide +kernel) ⟨Nat.le_of_ble_eq_true rfl, Nat.le_of_ble_eq_true rfl⟩) rfl hl.1 rfl (Nat.le_of_ble_eq_true rfl) dX9_holdRow_28 (fun H locs hW => ?_)
    exact zend_v (w := wX cA h) fin hf hW dX9_holdRow_31

def fX9_hasStretch (p1 : Int32) (p2 : Int32) (p3 : Int32) (S : zSt) : Option (Int32 × zSt) :=
  zU (fX9_has p1) fun r1 => if r1 = 0 then (some (0, S)) else (if zin p1 6 then zB (fX9_isSort (S.2.1 1000 (Int32.toNatClampNeg p1)) S) fun r6 S7 => if r6 = 0 then (some (0, S7)) else (if p3 < 0 then (some (0, S7)) else (if p2 < 0 then (some (0, S7)) else (if zin p1 6 then if (S7.2.1 1001 (Int32.toNatClampNeg p1)) < p2 then (some (0, S7)) else (if zin p1 6 then if ((S7.2.1 1001 (Int32.toNatClampNeg p1)) - p2) < p3 then (some (0, S7)) else (some (1, S7)) else none) else none))) else none)
abbrev wX9_hasStretch : List Cond := Cond.code yX9_hasStretch cX9_hasStretch 4 (some .boolean) :: waX
abbrev rmX9_hasStretch : Room := { frames := 2, cells := 0, slots := 0, locals := 42 }
set_option maxHeartbeats 4000000 in
set_option maxRecDepth 100000 in
theorem kX9_hasStretch (l : Launch) (D : va_G) (cA : Nat → ClassId) (h tt : Nat → Nat) (sz : Nat)  (p1 : Int32) (p2 : Int32) (p3 : Int32) (S : zSt) (r : Int32) (S1 : zSt) (hf : fX9_hasStretch p1 p2 p3 S = some (r, S1)) : zMi l yX9_hasStretch wX9_hasStretch rmX9_hasStretch (zEX tt) D (tX cA) (hsX h) [.ref (h 9), .int p1, .int p2, .int p3] (wX cA h S) (wX cA h S1) sz r := by
  refine zEn_z (cc := cX9_hasStretch) (maxL := 4) (own := RX9) (by decide) rfl rfl (hmX cA h S) (Nat.le_of_ble_eq_true rfl) ?_
  intro p e s m args below meth c Q H locs C0 hW fin ls hl
  have hl : lv_has ls 4 [(0, .ref (h 9)), (1, .int p1), (2, .int p2), (3, .int p3)] := hl
  have hx := C0.1
  have hb := C0.2.1
  have hown := C0.2.2.2.1
  have hts := C0.2.2.2.2
  unfold fX9_hasStretch at hf
  refine lv_iload_n (pc := 0) hx hb dX9_hasStretch_0 rfl (lv_at hl 1 rfl) ?_
  obtain ⟨r1, e3, hf⟩ := zU_e hf
  refine zcSi (As := [.int p1]) (pc := 1) C0 hW (kX9_has l H.size p1 r1 e3) (va_cwS 1 hts (zgS gaX mX_505 mX_506 mX_507 mX_502) rfl rfl rfl (by decide +kernel) ⟨Nat.le_of_ble_eq_true rfl, Nat.le_of_ble_eq_true rfl⟩) rfl hl.1 rfl (Nat.le_of_ble_eq_true rfl) dX9_hasStretch_1 (fun H locs hW => ?_)
  refine lv_if_eq (pc := 4) (tgt := 53) hx hb dX9_hasStretch_4 (by decide) (fun c4 => ?_) (fun c4 => ?_)
  · have hf := zt c4 hf
    refine lv_iconst (pc := 53) (v := 0) hx hb dX9_hasStretch_53 (by decide) ?_
    exact zend_z (w := wX cA h) fin hf (by decide) hW dX9_hasStretch_54
  · have hf := zf c4 hf
    refine lv_aload_n (pc := 7) hx hb dX9_hasStretch_7 rfl (lv_at hl 0 rfl) ?_
    refine xg_1000 (pc := 8) C0 hu_9 hW mX_492 dX9_hasStretch_8 ?_
    refine lv_iload_n (pc := 11) hx hb dX9_hasStretch_11 rfl (lv_at hl 1 rfl) ?_
    obtain ⟨i5, hf⟩ := zn hf
    refine xl_1000 (pc := 12) C0 hW i5 dX9_hasStretch_12 ?_
    obtain ⟨r6, S7, e8, hf⟩ := zB_e hf
    refine zcWi (zEX_ok tt) (As := [.int (S.2.1 1000 (Int32.toNatClampNeg p1))]) (pc := 13) C0 hW (kX9_isSort l D cA h tt H.size (S.2.1 1000 (Int32.toNatClampNeg p1)) S r6 S7 e8) (va_cwS 1 hts (zgS gaX mX_519 mX_520 mX_507 mX_503) rfl rfl rfl (by decide +kernel) ⟨Nat.le_of_ble_eq_true rfl, Nat.le_of_ble_eq_true rfl⟩) rfl hl.1 rfl (Nat.le_of_ble_eq_true rfl) dX9_hasStretch_13 (fun H locs hW => ?_)
    refine lv_if_eq (pc := 16) (tgt := 53) hx hb dX9_hasStretch_16 (by decide) (fun c9 => ?_) (fun c9 => ?_)
    · have hf := zt c9 hf
      refine lv_iconst (pc := 53) (v := 0) hx hb dX9_hasStretch_53 (by decide) ?_
      exact zend_z (w := wX cA h) fin hf (by decide) hW dX9_hasStretch_54
    · have hf := zf c9 hf
      refine lv_iload_n (pc := 19) hx hb dX9_hasStretch_19 rfl (lv_at hl 3 rfl) ?_
      refine lv_if_lt (pc := 20) (tgt := 53) hx hb dX9_hasStretch_20 (by decide) (fun c10 => ?_) (fun c10 => ?_)
      · have hf := zt c10 hf
        refine lv_iconst (pc := 53) (v := 0) hx hb dX9_hasStretch_53 (by decide) ?_
        exact zend_z (w := wX cA h) fin hf (by decide) hW dX9_hasStretch_54
      · have hf := zf c10 hf
        refine lv_iload_n (pc := 23) hx hb dX9_hasStretch_23 rfl (lv_at hl 2 rfl) ?_
        refine lv_if_lt (pc := 24) (tgt := 53) hx hb dX9_hasStretch_24 (by decide) (fun c11 => ?_) (fun c11 => ?_)
        · have hf := zt c11 hf
          refine lv_iconst (pc := 53) (v := 0) hx hb dX9_hasStretch_53 (by decide) ?_
          exact zend_z (w := wX cA h) fin hf (by decide) hW dX9_hasStretch_54
        · have hf := zf c11 hf
          refine lv_iload_n (pc := 27) hx hb dX9_hasStretch_27 rfl (lv_at hl 2 rfl) ?_
          refine lv_aload_n (pc := 28) hx hb dX9_hasStretch_28 rfl (lv_at hl 0 rfl) ?_
          refine xg_1001 (pc := 29) C0 hu_9 hW mX_493 dX9_hasStretch_29 ?_
          refine lv_iload_n (pc := 32) hx hb dX9_hasStretch_32 rfl (lv_at hl 1 rfl) ?_
          obtain ⟨i12, hf⟩ := zn hf
          refine xl_1001 (pc := 33) C0 hW i12 dX9_hasStretch_33 ?_
          refine lv_icmp_gt (pc := 34) (tgt := 53) hx hb dX9_hasStretch_34 (by decide) (fun c13 => ?_) (fun c13 => ?_)
          · have hf := zt c13 hf
            refine lv_iconst (pc := 53) (v := 0) hx hb dX9_hasStretch_53 (by decide) ?_
            exact zend_z (w := wX cA h) fin hf (by decide) hW dX9_hasStretch_54
          · have hf := zf c13 hf
            refine lv_iload_n (pc := 37) hx hb dX9_hasStretch_37 rfl (lv_at hl 3 rfl) ?_
            refine lv_aload_n (pc := 38) hx hb dX9_hasStretch_38 rfl (lv_at hl 0 rfl) ?_
            refine xg_1001 (pc := 39) C0 hu_9 hW mX_493 dX9_hasStretch_39 ?_
            refine lv_iload_n (pc := 42) hx hb dX9_hasStretch_42 rfl (lv_at hl 1 rfl) ?_
            obtain ⟨i14, hf⟩ := zn hf
            refine xl_1001 (pc := 43) C0 hW i14 dX9_hasStretch_43 ?_
            refine lv_iload_n (pc := 44) hx hb dX9_hasStretch_44 rfl (lv_at hl 2 rfl) ?_
            refine lv_isub (pc := 45) hx hb dX9_hasStretch_45 ?_
            refine lv_icmp_gt (pc := 46) (tgt := 53) hx hb dX9_hasStretch_46 (by decide) (fun c15 => ?_) (fun c15 => ?_)
            · have hf := zt c15 hf
              refine lv_iconst (pc := 53) (v := 0) hx hb dX9_hasStretch_53 (by decide) ?_
              exact zend_z (w := wX cA h) fin hf (by decide) hW dX9_hasStretch_54
            · have hf := zf c15 hf
              refine lv_iconst (pc := 49) (v := 1) hx hb dX9_hasStretch_49 (by decide) ?_
              refine lv_goto (pc := 50) (tgt := 54) hx hb dX9_hasStretch_50 (by decide) ?_
              exact zend_z (w := wX cA h) fin hf (by decide) hW dX9_hasStretch_54

def fX9_refusalOf (p1 : Int32) (p2 : Int32) (S : zSt) : Option (Int32 × zSt) :=
  zU (fX9_has p1) fun r1 => if r1 = 0 then (some ((-1), S)) else (if zin p1 6 then if (S.2.1 1000 (Int32.toNatClampNeg p1)) = (-2) then (some ((-11), S)) else (if zin p1 6 then if (S.2.1 1000 (Int32.toNatClampNeg p1)) = (-1) then (some ((-12), S)) else (zB (fX9_hasStretch p1 p2 1 S) fun r9 S10 => if r9 = 0 then (some ((-13), S10)) else (some (0, S10))) else none) else none)
abbrev wX9_refusalOf : List Cond := Cond.code yX9_refusalOf cX9_refusalOf 3 (some .int) :: waX
abbrev rmX9_refusalOf : Room := { frames := 3, cells := 0, slots := 0, locals := 65 }
set_option maxHeartbeats 4000000 in
set_option maxRecDepth 100000 in
theorem kX9_refusalOf (l : Launch) (D : va_G) (cA : Nat → ClassId) (h tt : Nat → Nat) (sz : Nat)  (p1 : Int32) (p2 : Int32) (S : zSt) (r : Int32) (S1 : zSt) (hf : fX9_refusalOf p1 p2 S = some (r, S1)) : zMi l yX9_refusalOf wX9_refusalOf rmX9_refusalOf (zEX tt) D (tX cA) (hsX h) [.ref (h 9), .int p1, .int p2] (wX cA h S) (wX cA h S1) sz r := by
  refine zEn_i (cc := cX9_refusalOf) (maxL := 3) (own := RX9) (by decide) rfl rfl (hmX cA h S) (Nat.le_of_ble_eq_true rfl) ?_
  intro p e s m args below meth c Q H locs C0 hW fin ls hl
  have hl : lv_has ls 3 [(0, .ref (h 9)), (1, .int p1), (2, .int p2)] := hl
  have hx := C0.1
  have hb := C0.2.1
  have hown := C0.2.2.2.1
  have hts := C0.2.2.2.2
  unfold fX9_refusalOf at hf
  refine lv_iload_n (pc := 0) hx hb dX9_refusalOf_0 rfl (lv_at hl 1 rfl) ?_
  obtain ⟨r1, e3, hf⟩ := zU_e hf
  refine zcSi (As := [.int p1]) (pc := 1) C0 hW (kX9_has l H.size p1 r1 e3) (va_cwS 1 hts (zgS gaX mX_505 mX_506 mX_507 mX_502) rfl rfl rfl (by decide +kernel) ⟨Nat.le_of_ble_eq_true rfl, Nat.le_of_ble_eq_true rfl⟩) rfl hl.1 rfl (Nat.le_of_ble_eq_true rfl) dX9_refusalOf_1 (fun H locs hW => ?_)
  refine lv_if_ne (pc := 4) (tgt := 9) hx hb dX9_refusalOf_4 (by decide) (fun c4 => ?_) (fun c4 => ?_)
  · have hf := zf c4 hf
    refine lv_aload_n (pc := 9) hx hb dX9_refusalOf_9 rfl (lv_at hl 0 rfl) ?_
    refine xg_1000 (pc := 10) C0 hu_9 hW mX_492 dX9_refusalOf_10 ?_
    refine lv_iload_n (pc := 13) hx hb dX9_refusalOf_13 rfl (lv_at hl 1 rfl) ?_
    obtain ⟨i5, hf⟩ := zn hf
    refine xl_1000 (pc := 14) C0 hW i5 dX9_refusalOf_14 ?_
    refine lv_bipush (pc := 15) (v := (-2)) hx hb dX9_refusalOf_15 (by decide) ?_
    refine lv_icmp_ne (pc := 17) (tgt := 23) hx hb dX9_refusalOf_17 (by decide) (fun c6 => ?_) (fun c6 => ?_)
    · have hf := zf c6 hf
      refine lv_aload_n (pc := 23) hx hb dX9_refusalOf_23 rfl (lv_at hl 0 rfl) ?_
      refine xg_1000 (pc := 24) C0 hu_9 hW mX_492 dX9_refusalOf_24 ?_
      refine lv_iload_n (pc := 27) hx hb dX9_refusalOf_27 rfl (lv_at hl 1 rfl) ?_
      obtain ⟨i7, hf⟩ := zn hf
      refine xl_1000 (pc := 28) C0 hW i7 dX9_refusalOf_28 ?_
      refine lv_iconst (pc := 29) (v := (-1)) hx hb dX9_refusalOf_29 (by decide) ?_
      refine lv_icmp_ne (pc := 30) (tgt := 36) hx hb dX9_refusalOf_30 (by decide) (fun c8 => ?_) (fun c8 => ?_)
      · have hf := zf c8 hf
        refine lv_aload_n (pc := 36) hx hb dX9_refusalOf_36 rfl (lv_at hl 0 rfl) ?_
        refine lv_iload_n (pc := 37) hx hb dX9_refusalOf_37 rfl (lv_at hl 1 rfl) ?_
        refine lv_iload_n (pc := 38) hx hb dX9_refusalOf_38 rfl (lv_at hl 2 rfl) ?_
        refine lv_iconst (pc := 39) (v := 1) hx hb dX9_refusalOf_39 (by decide) ?_
        obtain ⟨r9, S10, e11, hf⟩ := zB_e hf
        refine zcVi (zEX_ok tt) (As := [.int p1, .int p2, .int 1]) (pc := 40) C0 hW (kX9_hasStretch l D cA h tt H.size p1 p2 1 S r9 S10 e11) (cwV 3 hts (zgV gaX mX_515 mX_516 mX_517 mX_507 mX_518) rfl rfl rfl (by decide +kernel) ⟨Nat.le_of_ble_eq_true rfl, Nat.le_of_ble_eq_true rfl⟩) (va_recv hW.1 hW.2.1 (ci := 9) (q0 := 9) rfl rfl) rfl hl.1 rfl (Nat.le_of_ble_eq_true rfl) dX9_refusalOf_40 (fun H locs hW => ?_)
        refine lv_if_eq (pc := 43) (tgt := 50) hx hb dX9_refusalOf_43 (by decide) (fun c12 => ?_) (fun c12 => ?_)
        · have hf := zt c12 hf
          refine lv_bipush (pc := 50) (v := (-13)) hx hb dX9_refusalOf_50 (by decide) ?_
          exact zend_i (w := wX cA h) fin hf hW dX9_refusalOf_52
        · have hf := zf c12 hf
          refine lv_iconst (pc := 46) (v := 0) hx hb dX9_refusalOf_46 (by decide) ?_
          refine lv_goto (pc := 47) (tgt := 52) hx hb dX9_refusalOf_47 (by decide) ?_
          exact zend_i (w := wX cA h) fin hf hW dX9_refusalOf_52
      · have hf := zt c8 hf
        refine lv_bipush (pc := 33) (v := (-12)) hx hb dX9_refusalOf_33 (by decide) ?_
        exact zend_i (w := wX cA h) fin hf hW dX9_refusalOf_35
    · have hf := zt c6 hf
      refine lv_bipush (pc := 20) (v := (-11)) hx hb dX9_refusalOf_20 (by decide) ?_
      exact zend_i (w := wX cA h) fin hf hW dX9_refusalOf_22
  · have hf := zt c4 hf
    refine lv_iconst (pc := 7) (v := (-1)) hx hb dX9_refusalOf_7 (by decide) ?_
    exact zend_i (w := wX cA h) fin hf hW dX9_refusalOf_8

def fX9_elementAt (p1 : Int32) (p2 : Int32) (S : zSt) : Option (Int64 × zSt) :=
  zB (fX9_hasStretch p1 p2 1 S) fun r1 S2 => if r1 = 0 then (some (0, S2)) else (if zin p1 6 then if zin p2 60 then some ((S2.2.2 (10030 + Int32.toNatClampNeg p1) (Int32.toNatClampNeg p2)), S2) else none else none)
abbrev wX9_elementAt : List Cond := Cond.code yX9_elementAt cX9_elementAt 3 (some .long) :: waX
abbrev rmX9_elementAt : Room := { frames := 3, cells := 0, slots := 0, locals := 65 }
set_option maxHeartbeats 4000000 in
set_option maxRecDepth 100000 in
theorem kX9_elementAt (l : Launch) (D : va_G) (cA : Nat → ClassId) (h tt : Nat → Nat) (sz : Nat)  (p1 : Int32) (p2 : Int32) (S : zSt) (r : Int64) (S1 : zSt) (hf : fX9_elementAt p1 p2 S = some (r, S1)) : zMl l yX9_elementAt wX9_elementAt rmX9_elementAt (zEX tt) D (tX cA) (hsX h) [.ref (h 9), .int p1, .int p2] (wX cA h S) (wX cA h S1) sz r := by
  refine zEn_l (cc := cX9_elementAt) (maxL := 3) (own := RX9) (by decide) rfl rfl (hmX cA h S) (Nat.le_of_ble_eq_true rfl) ?_
  intro p e s m args below meth c Q H locs C0 hW fin ls hl
  have hl : lv_has ls 3 [(0, .ref (h 9)), (1, .int p1), (2, .int p2)] := hl
  have hx := C0.1
  have hb := C0.2.1
  have hown := C0.2.2.2.1
  have hts := C0.2.2.2.2
  unfold fX9_elementAt at hf
  refine lv_aload_n (pc := 0) hx hb dX9_elementAt_0 rfl (lv_at hl 0 rfl) ?_
  refine lv_iload_n (pc := 1) hx hb dX9_elementAt_1 rfl (lv_at hl 1 rfl) ?_
  refine lv_iload_n (pc := 2) hx hb dX9_elementAt_2 rfl (lv_at hl 2 rfl) ?_
  refine lv_iconst (pc := 3) (v := 1) hx hb dX9_elementAt_3 (by decide) ?_
  obtain ⟨r1, S2, e3, hf⟩ := zB_e hf
  refine zcVi (zEX_ok tt) (As := [.int p1, .int p2, .int 1]) (pc := 4) C0 hW (kX9_hasStretch l D cA h tt H.size p1 p2 1 S r1 S2 e3) (cwV 3 hts (zgV gaX mX_515 mX_516 mX_517 mX_507 mX_518) rfl rfl rfl (by decide +kernel) ⟨Nat.le_of_ble_eq_true rfl, Nat.le_of_ble_eq_true rfl⟩) (va_recv hW.1 hW.2.1 (ci := 9) (q0 := 9) rfl rfl) rfl hl.1 rfl (Nat.le_of_ble_eq_true rfl) dX9_elementAt_4 (fun H locs hW => ?_)
  refine lv_if_eq (pc := 7) (tgt := 21) hx hb dX9_elementAt_7 (by decide) (fun c4 => ?_) (fun c4 => ?_)
  · have hf := zt c4 hf
    refine lv_lconst (pc := 21) (v := 0) hx hb dX9_elementAt_21 (by decide) ?_
    exact zend_l (w := wX cA h) fin hf hW dX9_elementAt_22
  · have hf := zf c4 hf
    refine lv_aload_n (pc := 10) hx hb dX9_elementAt_10 rfl (lv_at hl 0 rfl) ?_
    refine xg_1003 (pc := 11) C0 hu_9 hW mX_497 dX9_elementAt_11 ?_
    refine lv_iload_n (pc := 14) hx hb dX9_elementAt_14 rfl (lv_at hl 1 rfl) ?_
    obtain ⟨i5, hf⟩ := zn hf
    refine xq_1003 (pc := 15) C0 hW i5 dX9_elementAt_15 ?_
    refine lv_iload_n (pc := 16) hx hb dX9_elementAt_16 rfl (lv_at hl 2 rfl) ?_
    obtain ⟨i6, hf⟩ := zn hf
    refine xil_1003 (pc := 17) C0 hW i5 i6 dX9_elementAt_17 ?_
    refine lv_goto (pc := 18) (tgt := 22) hx hb dX9_elementAt_18 (by decide) ?_
    exact zend_l (w := wX cA h) fin hf hW dX9_elementAt_22

def fX9_kept (p1 : Int32) (p2 : Int64): Option Int64 :=
  if p1 = 0 then (some (Int32.toInt64 (zi8 (Int64.toInt32 p2)))) else (if p1 = 1 then (some (Int32.toInt64 (zi16 (Int64.toInt32 p2)))) else (if p1 = 2 then (some (Int32.toInt64 (Int64.toInt32 p2))) else (if p1 = 3 then (some p2) else (if p1 = 4 then (if (lg_cmp p2 0) = 0 then (some 0) else (some 1)) else (some p2)))))
abbrev wX9_kept : List Cond := Cond.code yX9_kept cX9_kept 3 (some .long) :: waX
abbrev rmX9_kept : Room := { frames := 0, cells := 0, slots := 0, locals := 0 }
set_option maxHeartbeats 4000000 in
set_option maxRecDepth 100000 in
theorem kX9_kept (l : Launch) (sz : Nat) (p1 : Int32) (p2 : Int64) (r : Int64) (hf : fX9_kept p1 p2 = some r) : zMsl l yX9_kept wX9_kept rmX9_kept [.int p1, .long p2] sz r := by
  refine zEs_l (cc := cX9_kept) (maxL := 3) (own := RX9) (by decide) rfl rfl (Nat.le_of_ble_eq_true rfl) ?_
  intro p e s m args below meth c Q H locs C0 hW fin ls hl
  have hl : lv_has ls 3 [(0, .int p1), (1, .long p2)] := hl
  have hx := C0.1
  have hb := C0.2.1
  have hown := C0.2.2.2.1
  have hts := C0.2.2.2.2
  unfold fX9_kept at hf
  refine lv_iload_n (pc := 0) hx hb dX9_kept_0 rfl (lv_at hl 0 rfl) ?_
  by_cases c1 : p1 = 0
  · have hf := zt c1 hf
    refine lv_tableIn (pc := 1) (tgt := 36) (off := 35) hx hb dX9_kept_1 (by rw [c1]; decide) (by rw [c1]; decide) (by rw [c1]; decide) (by decide) ?_
    refine lv_lload_n (pc := 36) hx hb dX9_kept_36 rfl (lv_at hl 1 rfl) ?_
    refine lv_l2i (pc := 37) (v := (Int64.toInt32 p2)) hx hb dX9_kept_37 rfl ?_
    refine lv_i2b (pc := 38) (v := (zi8 (Int64.toInt32 p2))) hx hb dX9_kept_38 rfl ?_
    refine lv_i2l (pc := 39) (v := (Int32.toInt64 (zi8 (Int64.toInt32 p2)))) hx hb dX9_kept_39 rfl ?_
    exact zens_l fin hf hW dX9_kept_40
  have hf := zf c1 hf
  by_cases c2 : p1 = 1
  · have hf := zt c2 hf
    refine lv_tableIn (pc := 1) (tgt := 41) (off := 40) hx hb dX9_kept_1 (by rw [c2]; decide) (by rw [c2]; decide) (by rw [c2]; decide) (by decide) ?_
    refine lv_lload_n (pc := 41) hx hb dX9_kept_41 rfl (lv_at hl 1 rfl) ?_
    refine lv_l2i (pc := 42) (v := (Int64.toInt32 p2)) hx hb dX9_kept_42 rfl ?_
    refine lv_i2s (pc := 43) (v := (zi16 (Int64.toInt32 p2))) hx hb dX9_kept_43 rfl ?_
    refine lv_i2l (pc := 44) (v := (Int32.toInt64 (zi16 (Int64.toInt32 p2)))) hx hb dX9_kept_44 rfl ?_
    exact zens_l fin hf hW dX9_kept_45
  have hf := zf c2 hf
  by_cases c3 : p1 = 2
  · have hf := zt c3 hf
    refine lv_tableIn (pc := 1) (tgt := 46) (off := 45) hx hb dX9_kept_1 (by rw [c3]; decide) (by rw [c3]; decide) (by rw [c3]; decide) (by decide) ?_
    refine lv_lload_n (pc := 46) hx hb dX9_kept_46 rfl (lv_at hl 1 rfl) ?_
    refine lv_l2i (pc := 47) (v := (Int64.toInt32 p2)) hx hb dX9_kept_47 rfl ?_
    refine lv_i2l (pc := 48) (v := (Int32.toInt64 (Int64.toInt32 p2))) hx hb dX9_kept_48 rfl ?_
    exact zens_l fin hf hW dX9_kept_49
  have hf := zf c3 hf
  by_cases c4 : p1 = 3
  · have hf := zt c4 hf
    refine lv_tableIn (pc := 1) (tgt := 62) (off := 61) hx hb dX9_kept_1 (by rw [c4]; decide) (by rw [c4]; decide) (by rw [c4]; decide) (by decide) ?_
    refine lv_lload_n (pc := 62) hx hb dX9_kept_62 rfl (lv_at hl 1 rfl) ?_
    exact zens_l fin hf hW dX9_kept_63
  have hf := zf c4 hf
  by_cases c5 : p1 = 4
  · have hf := zt c5 hf
    refine lv_tableIn (pc := 1) (tgt := 50) (off := 49) hx hb dX9_kept_1 (by rw [c5]; decide) (by rw [c5]; decide) (by rw [c5]; decide) (by decide) ?_
    refine lv_lload_n (pc := 50) hx hb dX9_kept_50 rfl (lv_at hl 1 rfl) ?_
    refine lv_lconst (pc := 51) (v := 0) hx hb dX9_kept_51 (by decide) ?_
    refine W.lcmp (pc := 52) hx hb dX9_kept_52 ?_
    refine lv_if_ne (pc := 53) (tgt := 60) hx hb dX9_kept_53 (by decide) (fun c6 => ?_) (fun c6 => ?_)
    · have hf := zf c6 hf
      refine lv_lconst (pc := 60) (v := 1) hx hb dX9_kept_60 (by decide) ?_
      exact zens_l fin hf hW dX9_kept_61
    · have hf := zt c6 hf
      refine lv_lconst (pc := 56) (v := 0) hx hb dX9_kept_56 (by decide) ?_
      refine lv_goto (pc := 57) (tgt := 61) hx hb dX9_kept_57 (by decide) ?_
      exact zens_l fin hf hW dX9_kept_61
  have hf := zf c5 hf
  refine lv_tableOut (pc := 1) (tgt := 62) hx hb dX9_kept_1 (ztab 0 4 5 p1 (by decide) (fun j hj => match j, hj with | 0, _ => fun e => c1 (e.trans (by decide)) | 1, _ => fun e => c2 (e.trans (by decide)) | 2, _ => fun e => c3 (e.trans (by decide)) | 3, _ => fun e => c4 (e.trans (by decide)) | 4, _ => fun e => c5 (e.trans (by decide)) | j + 5, h => absurd h (by omega))) (by decide) ?_
  refine lv_lload_n (pc := 62) hx hb dX9_kept_62 rfl (lv_at hl 1 rfl) ?_
  exact zens_l fin hf hW dX9_kept_63

def fX9_putAt (p1 : Int32) (p2 : Int32) (p3 : Int64) (S : zSt) : Option zSt :=
  zB (fX9_hasStretch p1 p2 1 S) fun r1 S2 => if r1 = 0 then (some S2) else (if zin p1 6 then if zin p1 6 then zU (fX9_kept (S2.2.1 1000 (Int32.toNatClampNeg p1)) p3) fun r7 => if zin p2 60 then zL (zJ S2 (10030 + Int32.toNatClampNeg p1) (Int32.toNatClampNeg p2) r7) fun S11 => some S11 else none else none else none)
abbrev wX9_putAt : List Cond := Cond.code yX9_putAt cX9_putAt 5 none :: waX
abbrev rmX9_putAt : Room := { frames := 3, cells := 0, slots := 0, locals := 65 }
set_option maxHeartbeats 4000000 in
set_option maxRecDepth 100000 in
theorem kX9_putAt (l : Launch) (D : va_G) (cA : Nat → ClassId) (h tt : Nat → Nat) (sz : Nat)  (p1 : Int32) (p2 : Int32) (p3 : Int64) (S : zSt) (S1 : zSt) (hf : fX9_putAt p1 p2 p3 S = some S1) : zMv l yX9_putAt wX9_putAt rmX9_putAt (zEX tt) D (tX cA) (hsX h) [.ref (h 9), .int p1, .int p2, .long p3] (wX cA h S) (wX cA h S1) sz := by
  refine zEn_v (cc := cX9_putAt) (maxL := 5) (own := RX9) (by decide) rfl rfl (hmX cA h S) (Nat.le_of_ble_eq_true rfl) ?_
  intro p e s m args below meth c Q H locs C0 hW fin ls hl
  have hl : lv_has ls 5 [(0, .ref (h 9)), (1, .int p1), (2, .int p2), (3, .long p3)] := hl
  have hx := C0.1
  have hb := C0.2.1
  have hown := C0.2.2.2.1
  have hts := C0.2.2.2.2
  unfold fX9_putAt at hf
  refine lv_aload_n (pc := 0) hx hb dX9_putAt_0 rfl (lv_at hl 0 rfl) ?_
  refine lv_iload_n (pc := 1) hx hb dX9_putAt_1 rfl (lv_at hl 1 rfl) ?_
  refine lv_iload_n (pc := 2) hx hb dX9_putAt_2 rfl (lv_at hl 2 rfl) ?_
  refine lv_iconst (pc := 3) (v := 1) hx hb dX9_putAt_3 (by decide) ?_
  obtain ⟨r1, S2, e3, hf⟩ := zB_e hf
  refine zcVi (zEX_ok tt) (As := [.int p1, .int p2, .int 1]) (pc := 4) C0 hW (kX9_hasStretch l D cA h tt H.size p1 p2 1 S r1 S2 e3) (cwV 3 hts (zgV gaX mX_515 mX_516 mX_517 mX_507 mX_518) rfl rfl rfl (by decide +kernel) ⟨Nat.le_of_ble_eq_true rfl, Nat.le_of_ble_eq_true rfl⟩) (va_recv hW.1 hW.2.1 (ci := 9) (q0 := 9) rfl rfl) rfl hl.1 rfl (Nat.le_of_ble_eq_true rfl) dX9_putAt_4 (fun H locs hW => ?_)
  refine lv_if_eq (pc := 7) (tgt := 28) hx hb dX9_putAt_7 (by decide) (fun c4 => ?_) (fun c4 => ?_)
  · have hf := zt c4 hf
    exact zend_v (w := wX cA h) fin hf hW dX9_putAt_28
  · have hf := zf c4 hf
    refine lv_aload_n (pc := 10) hx hb dX9_putAt_10 rfl (lv_at hl 0 rfl) ?_
    refine xg_1003 (pc := 11) C0 hu_9 hW mX_497 dX9_putAt_11 ?_
    refine lv_iload_n (pc := 14) hx hb dX9_putAt_14 rfl (lv_at hl 1 rfl) ?_
    obtain ⟨i5, hf⟩ := zn hf
    refine xq_1003 (pc := 15) C0 hW i5 dX9_putAt_15 ?_
    refine lv_iload_n (pc := 16) hx hb dX9_putAt_16 rfl (lv_at hl 2 rfl) ?_
    refine lv_aload_n (pc := 17) hx hb dX9_putAt_17 rfl (lv_at hl 0 rfl) ?_
    refine xg_1000 (pc := 18) C0 hu_9 hW mX_492 dX9_putAt_18 ?_
    refine lv_iload_n (pc := 21) hx hb dX9_putAt_21 rfl (lv_at hl 1 rfl) ?_
    obtain ⟨i6, hf⟩ := zn hf
    refine xl_1000 (pc := 22) C0 hW i6 dX9_putAt_22 ?_
    refine lv_lload_n (pc := 23) hx hb dX9_putAt_23 rfl (lv_at hl 3 rfl) ?_
    obtain ⟨r7, e9, hf⟩ := zU_e hf
    refine zcSl (As := [.int (S2.2.1 1000 (Int32.toNatClampNeg p1)), .long p3]) (pc := 24) C0 hW (kX9_kept l H.size (S2.2.1 1000 (Int32.toNatClampNeg p1)) p3 r7 e9) (va_cwS 2 hts (zgS gaX mX_523 mX_524 mX_507 mX_525) rfl rfl rfl (by decide +kernel) ⟨Nat.le_of_ble_eq_true rfl, Nat.le_of_ble_eq_true rfl⟩) rfl hl.1 rfl (Nat.le_of_ble_eq_true rfl) dX9_putAt_24 (fun H locs hW => ?_)
    obtain ⟨i10, hf⟩ := zn hf
    obtain ⟨S11, e_S11, hf⟩ := zL_e hf
    refine xis_1003 (pc := 27) C0 hW i5 i10 e_S11 dX9_putAt_27 (fun H locs hW => ?_)
    exact zend_v (w := wX cA h) fin hf hW dX9_putAt_28

def fX9_copy (p1 : Int32) (p2 : Int32) (p3 : Int32) (p4 : Int32) (p5 : Int32) (S : zSt) : Option zSt :=
  zB (fX9_hasStretch p1 p2 p5 S) fun r1 S2 => if r1 = 0 then (some S2) else (zB (fX9_hasStretch p3 p4 p5 S2) fun r5 S6 => if r5 = 0 then (some S6) else (if zin p1 6 then if zin p3 6 then if ¬ (p2 : Int32) < 0 ∧ ¬ (p4 : Int32) < 0 ∧ ¬ (p5 : Int32) < 0 ∧ Int32.toNatClampNeg p2 + Int32.toNatClampNeg p5 ≤ 60 ∧ Int32.toNatClampNeg p4 + Int32.toNatClampNeg p5 ≤ 60 then zL (zcJ S6 (10030 + Int32.toNatClampNeg p1) (10030 + Int32.toNatClampNeg p3) (Int32.toNatClampNeg p2) (Int32.toNatClampNeg p4) (Int32.toNatClampNeg p5)) fun S12 => some S12 else none else none else none))
abbrev wX9_copy : List Cond := Cond.code yX9_copy cX9_copy 6 none :: waX
abbrev rmX9_copy : Room := { frames := 3, cells := 0, slots := 0, locals := 65 }
set_option maxHeartbeats 4000000 in
set_option maxRecDepth 100000 in
theorem kX9_copy (l : Launch) (D : va_G) (cA : Nat → ClassId) (h tt : Nat → Nat) (sz : Nat)  (p1 : Int32) (p2 : Int32) (p3 : Int32) (p4 : Int32) (p5 : Int32) (S : zSt) (S1 : zSt) (hf : fX9_copy p1 p2 p3 p4 p5 S = some S1) : zMv l yX9_copy wX9_copy rmX9_copy (zEX tt) D (tX cA) (hsX h) [.ref (h 9), .int p1, .int p2, .int p3, .int p4, .int p5] (wX cA h S) (wX cA h S1) sz := by
  refine zEn_v (cc := cX9_copy) (maxL := 6) (own := RX9) (by decide) rfl rfl (hmX cA h S) (Nat.le_of_ble_eq_true rfl) ?_
  intro p e s m args below meth c Q H locs C0 hW fin ls hl
  have hl : lv_has ls 6 [(0, .ref (h 9)), (1, .int p1), (2, .int p2), (3, .int p3), (4, .int p4), (5, .int p5)] := hl
  have hx := C0.1
  have hb := C0.2.1
  have hown := C0.2.2.2.1
  have hts := C0.2.2.2.2
  unfold fX9_copy at hf
  refine lv_aload_n (pc := 0) hx hb dX9_copy_0 rfl (lv_at hl 0 rfl) ?_
  refine lv_iload_n (pc := 1) hx hb dX9_copy_1 rfl (lv_at hl 1 rfl) ?_
  refine lv_iload_n (pc := 2) hx hb dX9_copy_2 rfl (lv_at hl 2 rfl) ?_
  refine lv_iload (pc := 3) hx hb dX9_copy_3 (lv_at hl 5 rfl) ?_
  obtain ⟨r1, S2, e3, hf⟩ := zB_e hf
  refine zcVi (zEX_ok tt) (As := [.int p1, .int p2, .int p5]) (pc := 5) C0 hW (kX9_hasStretch l D cA h tt H.size p1 p2 p5 S r1 S2 e3) (cwV 3 hts (zgV gaX mX_515 mX_516 mX_517 mX_507 mX_518) rfl rfl rfl (by decide +kernel) ⟨Nat.le_of_ble_eq_true rfl, Nat.le_of_ble_eq_true rfl⟩) (va_recv hW.1 hW.2.1 (ci := 9) (q0 := 9) rfl rfl) rfl hl.1 rfl (Nat.le_of_ble_eq_true rfl) dX9_copy_5 (fun H locs hW => ?_)
  refine lv_if_eq (pc := 8) (tgt := 43) hx hb dX9_copy_8 (by decide) (fun c4 => ?_) (fun c4 => ?_)
  · have hf := zt c4 hf
    exact zend_v (w := wX cA h) fin hf hW dX9_copy_43
  · have hf := zf c4 hf
    refine lv_aload_n (pc := 11) hx hb dX9_copy_11 rfl (lv_at hl 0 rfl) ?_
    refine lv_iload_n (pc := 12) hx hb dX9_copy_12 rfl (lv_at hl 3 rfl) ?_
    refine lv_iload (pc := 13) hx hb dX9_copy_13 (lv_at hl 4 rfl) ?_
    refine lv_iload (pc := 15) hx hb dX9_copy_15 (lv_at hl 5 rfl) ?_
    obtain ⟨r5, S6, e7, hf⟩ := zB_e hf
    refine zcVi (zEX_ok tt) (As := [.int p3, .int p4, .int p5]) (pc := 17) C0 hW (kX9_hasStretch l D cA h tt H.size p3 p4 p5 S2 r5 S6 e7) (cwV 3 hts (zgV gaX mX_515 mX_516 mX_517 mX_507 mX_518) rfl rfl rfl (by decide +kernel) ⟨Nat.le_of_ble_eq_true rfl, Nat.le_of_ble_eq_true rfl⟩) (va_recv hW.1 hW.2.1 (ci := 9) (q0 := 9) rfl rfl) rfl hl.1 rfl (Nat.le_of_ble_eq_true rfl) dX9_copy_17 (fun H locs hW => ?_)
    refine lv_if_eq (pc := 20) (tgt := 43) hx hb dX9_copy_20 (by decide) (fun c8 => ?_) (fun c8 => ?_)
    · have hf := zt c8 hf
      exact zend_v (w := wX cA h) fin hf hW dX9_copy_43
    · have hf := zf c8 hf
      refine lv_aload_n (pc := 23) hx hb dX9_copy_23 rfl (lv_at hl 0 rfl) ?_
      refine xg_1003 (pc := 24) C0 hu_9 hW mX_497 dX9_copy_24 ?_
      refine lv_iload_n (pc := 27) hx hb dX9_copy_27 rfl (lv_at hl 1 rfl) ?_
      obtain ⟨i9, hf⟩ := zn hf
      refine xq_1003 (pc := 28) C0 hW i9 dX9_copy_28 ?_
      refine lv_iload_n (pc := 29) hx hb dX9_copy_29 rfl (lv_at hl 2 rfl) ?_
      refine lv_aload_n (pc := 30) hx hb dX9_copy_30 rfl (lv_at hl 0 rfl) ?_
      refine xg_1003 (pc := 31) C0 hu_9 hW mX_497 dX9_copy_31 ?_
      refine lv_iload_n (pc := 34) hx hb dX9_copy_34 rfl (lv_at hl 3 rfl) ?_
      obtain ⟨i10, hf⟩ := zn hf
      refine xq_1003 (pc := 35) C0 hW i10 dX9_copy_35 ?_
      refine lv_iload (pc := 36) hx hb dX9_copy_36 (lv_at hl 4 rfl) ?_
      refine lv_iload (pc := 38) hx hb dX9_copy_38 (lv_at hl 5 rfl) ?_
      obtain ⟨i11, hf⟩ := zn hf
      obtain ⟨S12, e_S12, hf⟩ := zL_e hf
      refine va_copyl (pc := 40) hx hb (C0.2.2.1.trans hl.1.symm) hown (hts _ mX_527) (hts _ mX_87) (hts _ mX_88) (hts _ mX_89) hW.1 hW.2.1 hW.2.2.1 hW.2.2.2.1 _ _ _ _ (xin_at_1003 cA h S6 _ (Nat.not_le.mp fun z => i9 (Or.inr z))) (xin_at_1003 cA h S6 _ (Nat.not_le.mp fun z => i10 (Or.inr z))) (xin_ty_1003 cA _ (Nat.not_le.mp fun z => i9 (Or.inr z))) (xin_ty_1003 cA _ (Nat.not_le.mp fun z => i10 (Or.inr z))) rfl i11.1 i11.2.1 i11.2.2.1 i11.2.2.2.1 i11.2.2.2.2 (fun _ _ => rfl) (Nat.le_of_ble_eq_true rfl) (Nat.le_of_ble_eq_true rfl) dX9_copy_40 (fun H locs hP1 hD1 hS1 => ?_)
      rw [xin_set_1003 cA h S6 _ _ (Nat.not_le.mp fun z => i10 (Or.inr z))] at hP1 hD1
      have hW : zW (zEX tt) D (tX cA) (wX cA h S12) (aW (hsX h) s.heap.size) s H locs := by rw [e_S12]; exact ⟨hW.1, hP1, hD1, hS1, hW.2.2.2.2⟩
      exact zend_v (w := wX cA h) fin hf hW dX9_copy_43

def fX10_add_b15 (N : Nat) : Nat → Int32 → Int32 → Int32 → zSt → Option (Int32 × zSt)
  | 0, _, _, _, _ => none
  | n + 1, v1, v2, v3, S =>
    if v1 ≤ v3 then (some (1, S)) else (if zin (S.1 1101) 120 then zL (zA S 1100 (Int32.toNatClampNeg (S.1 1101)) ((zus v2 (8 * v3)) &&& 255)) fun S3 => zL (zI S3 1101 ((S3.1 1101) + 1)) fun S4 => fX10_add_b15 N n v1 v2 (v3 + 1) S4 else none)
def fX10_add (N : Nat) (p1 : Int32) (p2 : Int32) (S : zSt) : Option (Int32 × zSt) :=
  if p1 ≤ (120 - (S.1 1101)) then (fX10_add_b15 N N p1 p2 0 S) else (some (0, S))
abbrev wX10_add : List Cond := Cond.code yX10_add cX10_add 4 (some .boolean) :: waX
abbrev rmX10_add : Room := { frames := 0, cells := 0, slots := 0, locals := 0 }
set_option maxHeartbeats 4000000 in
set_option maxRecDepth 100000 in
theorem kX10_add (l : Launch) (D : va_G) (cA : Nat → ClassId) (h tt : Nat → Nat) (sz : Nat) (N : Nat)  (p1 : Int32) (p2 : Int32) (S : zSt) (r : Int32) (S1 : zSt) (hf : fX10_add N p1 p2 S = some (r, S1)) : zMi l yX10_add wX10_add rmX10_add (zEX tt) D (tX cA) (hsX h) [.ref (h 10), .int p1, .int p2] (wX cA h S) (wX cA h S1) sz r := by
  refine zEn_z (cc := cX10_add) (maxL := 4) (own := RX10) (by decide) rfl rfl (hmX cA h S) (Nat.le_of_ble_eq_true rfl) ?_
  intro p e s m args below meth c Q H locs C0 hW fin ls hl
  have hl : lv_has ls 4 [(0, .ref (h 10)), (1, .int p1), (2, .int p2)] := hl
  have hx := C0.1
  have hb := C0.2.1
  have hown := C0.2.2.2.1
  have hts := C0.2.2.2.2
  have w15 : ∀ (n : Nat), ∀ (v1 : Int32) (v2 : Int32) (v3 : Int32) (S : zSt) (H : Heap) (locs : List Loc), zW (zEX tt) D (tX cA) (wX cA h S) (aW (hsX h) s.heap.size) s H locs → ∀ ls : Array Slot, lv_has ls 4 [(0, .ref (h 10)), (1, .int v1), (2, .int v2), (3, .int v3)] → fX10_add_b15 N n v1 v2 v3 S = some (r, S1) → W p l e rmX10_add s m args below meth c H locs 0 0 Q (F0 m 15 ls []) := by
    intro n
    induction n with
    | zero =>
      intro v1 v2 v3 S H locs hW ls hl hf
      exact absurd hf (by intro h; cases h)
    | succ n ih =>
      intro v1 v2 v3 S H locs hW ls hl hf
      rw [fX10_add_b15] at hf
      refine lv_iload_n (pc := 15) hx hb dX10_add_15 rfl (lv_at hl 3 rfl) ?_
      refine lv_iload_n (pc := 16) hx hb dX10_add_16 rfl (lv_at hl 1 rfl) ?_
      refine lv_icmp_ge (pc := 17) (tgt := 55) hx hb dX10_add_17 (by decide) (fun c1 => ?_) (fun c1 => ?_)
      · have hf := zt c1 hf
        refine lv_iconst (pc := 55) (v := 1) hx hb dX10_add_55 (by decide) ?_
        exact zend_z (w := wX cA h) fin hf (by decide) hW dX10_add_56
      · have hf := zf c1 hf
        refine lv_aload_n (pc := 20) hx hb dX10_add_20 rfl (lv_at hl 0 rfl) ?_
        refine xg_1100 (pc := 21) C0 hu_10 hW mX_334 dX10_add_21 ?_
        refine lv_aload_n (pc := 24) hx hb dX10_add_24 rfl (lv_at hl 0 rfl) ?_
        refine xg_1101 (pc := 25) C0 hu_10 hW mX_333 dX10_add_25 ?_
        refine lv_iload_n (pc := 28) hx hb dX10_add_28 rfl (lv_at hl 2 rfl) ?_
        refine lv_bipush (pc := 29) (v := 8) hx hb dX10_add_29 (by decide) ?_
        refine lv_iload_n (pc := 31) hx hb dX10_add_31 rfl (lv_at hl 3 rfl) ?_
        refine lv_imul (pc := 32) hx hb dX10_add_32 ?_
        refine lv_iushr (pc := 33) (v := zus v2 (8 * v3)) hx hb dX10_add_33 rfl ?_
        refine lv_sipush (pc := 34) (v := 255) hx hb dX10_add_34 (by decide) ?_
        refine lv_iand (pc := 37) hx hb dX10_add_37 ?_
        obtain ⟨i2, hf⟩ := zn hf
        obtain ⟨S3, e_S3, hf⟩ := zL_e hf
        refine xs_s1100 (pc := 38) C0 hW i2 e_S3 dX10_add_38 (fun H locs hW => ?_)
        refine lv_aload_n (pc := 39) hx hb dX10_add_39 rfl (lv_at hl 0 rfl) ?_
        refine lv_dup (pc := 40) hx hb dX10_add_40 rfl ?_
        refine xg_1101 (pc := 41) C0 hu_10 hW mX_333 dX10_add_41 ?_
        refine lv_iconst (pc := 44) (v := 1) hx hb dX10_add_44 (by decide) ?_
        refine lv_iadd (pc := 45) hx hb dX10_add_45 ?_
        obtain ⟨S4, e_S4, hf⟩ := zL_e hf
        refine xp_1101 (pc := 46) C0 hu_10 hW mX_333 e_S4 dX10_add_46 (fun H locs hW => ?_)
        refine lv_iinc (pc := 49) (v := (v3 + 1)) (lv' := [(3, .int (v3 + 1)), (0, .ref (h 10)), (1, .int v1), (2, .int v2)]) hx hb dX10_add_49 hl (k := 3) rfl (by rfl) (by decide) rfl (fun ls hl => ?_)
        refine lv_goto (pc := 52) (tgt := 15) hx hb dX10_add_52 (by decide) ?_
        exact ih v1 v2 (v3 + 1) S4 H locs hW ls (lv_sub hl [1, 2, 3, 0] rfl) hf
  unfold fX10_add at hf
  refine lv_iload_n (pc := 0) hx hb dX10_add_0 rfl (lv_at hl 1 rfl) ?_
  refine lv_bipush (pc := 1) (v := 120) hx hb dX10_add_1 (by decide) ?_
  refine lv_aload_n (pc := 3) hx hb dX10_add_3 rfl (lv_at hl 0 rfl) ?_
  refine xg_1101 (pc := 4) C0 hu_10 hW mX_333 dX10_add_4 ?_
  refine lv_isub (pc := 7) hx hb dX10_add_7 ?_
  refine lv_icmp_le (pc := 8) (tgt := 13) hx hb dX10_add_8 (by decide) (fun c5 => ?_) (fun c5 => ?_)
  · have hf := zt c5 hf
    refine lv_iconst (pc := 13) (v := 0) hx hb dX10_add_13 (by decide) ?_
    refine lv_istore_n (pc := 14) (lv' := [(3, .int 0), (0, .ref (h 10)), (1, .int p1), (2, .int p2)]) hx hb dX10_add_14 rfl hl (by decide) rfl (fun ls hl => ?_)
    exact w15 N p1 p2 0 S H locs hW ls (lv_sub hl [1, 2, 3, 0] rfl) hf
  · have hf := zf c5 hf
    refine lv_iconst (pc := 11) (v := 0) hx hb dX10_add_11 (by decide) ?_
    exact zend_z (w := wX cA h) fin hf (by decide) hW dX10_add_12

def fX10_clear (S : zSt) : Option zSt :=
  zL (zI S 1101 0) fun S1 => zL (zI S1 1102 0) fun S2 => some S2
abbrev wX10_clear : List Cond := Cond.code yX10_clear cX10_clear 1 none :: waX
abbrev rmX10_clear : Room := { frames := 0, cells := 0, slots := 0, locals := 0 }
set_option maxHeartbeats 4000000 in
set_option maxRecDepth 100000 in
theorem kX10_clear (l : Launch) (D : va_G) (cA : Nat → ClassId) (h tt : Nat → Nat) (sz : Nat)   (S : zSt) (S1 : zSt) (hf : fX10_clear S = some S1) : zMv l yX10_clear wX10_clear rmX10_clear (zEX tt) D (tX cA) (hsX h) [.ref (h 10)] (wX cA h S) (wX cA h S1) sz := by
  refine zEn_v (cc := cX10_clear) (maxL := 1) (own := RX10) (by decide) rfl rfl (hmX cA h S) (Nat.le_of_ble_eq_true rfl) ?_
  intro p e s m args below meth c Q H locs C0 hW fin ls hl
  have hl : lv_has ls 1 [(0, .ref (h 10))] := hl
  have hx := C0.1
  have hb := C0.2.1
  have hown := C0.2.2.2.1
  have hts := C0.2.2.2.2
  unfold fX10_clear at hf
  refine lv_aload_n (pc := 0) hx hb dX10_clear_0 rfl (lv_at hl 0 rfl) ?_
  refine lv_iconst (pc := 1) (v := 0) hx hb dX10_clear_1 (by decide) ?_
  obtain ⟨S1, e_S1, hf⟩ := zL_e hf
  refine xp_1101 (pc := 2) C0 hu_10 hW mX_333 e_S1 dX10_clear_2 (fun H locs hW => ?_)
  refine lv_aload_n (pc := 5) hx hb dX10_clear_5 rfl (lv_at hl 0 rfl) ?_
  refine lv_iconst (pc := 6) (v := 0) hx hb dX10_clear_6 (by decide) ?_
  obtain ⟨S2, e_S2, hf⟩ := zL_e hf
  refine xp_1102 (pc := 7) C0 hu_10 hW mX_332 e_S2 dX10_clear_7 (fun H locs hW => ?_)
  exact zend_v (w := wX cA h) fin hf hW dX10_clear_10

def fX11_feed (N : Nat) (p1 : Int32) (p2 : Int32) (S : zSt) : Option (Int32 × zSt) :=
  zU (fX11_isWithin p1 1 4) fun r1 => if r1 = 0 then (some ((-1), S)) else (zB (fX10_add N p1 p2 S) fun r5 S6 => if r5 = 0 then (some ((-3), S6)) else (some ((S6.1 1101), S6)))
abbrev wX11_feed : List Cond := Cond.code yX11_feed cX11_feed 3 (some .int) :: waX
abbrev rmX11_feed : Room := { frames := 1, cells := 0, slots := 0, locals := 23 }
set_option maxHeartbeats 4000000 in
set_option maxRecDepth 100000 in
theorem kX11_feed (l : Launch) (D : va_G) (cA : Nat → ClassId) (h tt : Nat → Nat) (sz : Nat) (N : Nat)  (p1 : Int32) (p2 : Int32) (S : zSt) (r : Int32) (S1 : zSt) (hf : fX11_feed N p1 p2 S = some (r, S1)) : zMi l yX11_feed wX11_feed rmX11_feed (zEX tt) D (tX cA) (hsX h) [.ref (h 11), .int p1, .int p2] (wX cA h S) (wX cA h S1) sz r := by
  refine zEn_i (cc := cX11_feed) (maxL := 3) (own := RX11) (by decide) rfl rfl (hmX cA h S) (Nat.le_of_ble_eq_true rfl) ?_
  intro p e s m args below meth c Q H locs C0 hW fin ls hl
  have hl : lv_has ls 3 [(0, .ref (h 11)), (1, .int p1), (2, .int p2)] := hl
  have hx := C0.1
  have hb := C0.2.1
  have hown := C0.2.2.2.1
  have hts := C0.2.2.2.2
  unfold fX11_feed at hf
  refine lv_iload_n (pc := 0) hx hb dX11_feed_0 rfl (lv_at hl 1 rfl) ?_
  refine lv_iconst (pc := 1) (v := 1) hx hb dX11_feed_1 (by decide) ?_
  refine lv_iconst (pc := 2) (v := 4) hx hb dX11_feed_2 (by decide) ?_
  obtain ⟨r1, e3, hf⟩ := zU_e hf
  refine zcSi (As := [.int p1, .int 1, .int 4]) (pc := 3) C0 hW (kX11_isWithin l H.size p1 1 4 r1 e3) (va_cwS 3 hts (zgS gaX mX_225 mX_226 mX_151 mX_227) rfl rfl rfl (by decide +kernel) ⟨Nat.le_of_ble_eq_true rfl, Nat.le_of_ble_eq_true rfl⟩) rfl hl.1 rfl (Nat.le_of_ble_eq_true rfl) dX11_feed_3 (fun H locs hW => ?_)
  refine lv_if_ne (pc := 6) (tgt := 11) hx hb dX11_feed_6 (by decide) (fun c4 => ?_) (fun c4 => ?_)
  · have hf := zf c4 hf
    refine lv_aload_n (pc := 11) hx hb dX11_feed_11 rfl (lv_at hl 0 rfl) ?_
    refine xg_1200 (pc := 12) C0 hu_11 hW mX_536 dX11_feed_12 ?_
    refine lv_iload_n (pc := 15) hx hb dX11_feed_15 rfl (lv_at hl 1 rfl) ?_
    refine lv_iload_n (pc := 16) hx hb dX11_feed_16 rfl (lv_at hl 2 rfl) ?_
    obtain ⟨r5, S6, e7, hf⟩ := zB_e hf
    refine zcVi (zEX_ok tt) (As := [.int p1, .int p2]) (pc := 17) C0 hW (kX10_add l D cA h tt H.size N p1 p2 S r5 S6 e7) (cwV 2 hts (zgV gaX mX_582 mX_583 mX_584 mX_330 mX_530) rfl rfl rfl (by decide +kernel) ⟨Nat.le_of_ble_eq_true rfl, Nat.le_of_ble_eq_true rfl⟩) (va_recv hW.1 hW.2.1 (ci := 10) (q0 := 10) rfl rfl) rfl hl.1 rfl (Nat.le_of_ble_eq_true rfl) dX11_feed_17 (fun H locs hW => ?_)
    refine lv_if_eq (pc := 20) (tgt := 33) hx hb dX11_feed_20 (by decide) (fun c8 => ?_) (fun c8 => ?_)
    · have hf := zt c8 hf
      refine lv_bipush (pc := 33) (v := (-3)) hx hb dX11_feed_33 (by decide) ?_
      exact zend_i (w := wX cA h) fin hf hW dX11_feed_35
    · have hf := zf c8 hf
      refine lv_aload_n (pc := 23) hx hb dX11_feed_23 rfl (lv_at hl 0 rfl) ?_
      refine xg_1200 (pc := 24) C0 hu_11 hW mX_536 dX11_feed_24 ?_
      refine xg_1101 (pc := 27) C0 hu_10 hW mX_581 dX11_feed_27 ?_
      refine lv_goto (pc := 30) (tgt := 35) hx hb dX11_feed_30 (by decide) ?_
      exact zend_i (w := wX cA h) fin hf hW dX11_feed_35
  · have hf := zt c4 hf
    refine lv_iconst (pc := 9) (v := (-1)) hx hb dX11_feed_9 (by decide) ?_
    exact zend_i (w := wX cA h) fin hf hW dX11_feed_10

def fX11_place_b45 (N : Nat) (u0 : Int32) (S : zSt) : Option (Int32 × zSt) :=
  zU (fX10_clear S) fun S2 => some (u0, S2)
def fX11_place (N : Nat) (S : zSt) : Option (Int32 × zSt) :=
  zB (fX8_isFull S) fun r4 S5 => if r4 = 0 then (zB (fX8_read N S5) fun r8 S9 => if r8 = 0 then (fX11_place_b45 N ((-100) - (S9.1 1102)) S9) else (fX11_place_b45 N ((S9.1 904) - 1) S9)) else (some ((-3), S5))
abbrev wX11_place : List Cond := Cond.code yX11_place cX11_place 2 (some .int) :: waX
abbrev rmX11_place : Room := { frames := 5, cells := 0, slots := 0, locals := 107 }
set_option maxHeartbeats 4000000 in
set_option maxRecDepth 100000 in
theorem kX11_place (l : Launch) (D : va_G) (cA : Nat → ClassId) (h tt : Nat → Nat) (sz : Nat) (N : Nat)   (S : zSt) (r : Int32) (S1 : zSt) (hf : fX11_place N S = some (r, S1)) : zMi l yX11_place wX11_place rmX11_place (zEX tt) D (tX cA) (hsX h) [.ref (h 11)] (wX cA h S) (wX cA h S1) sz r := by
  refine zEn_i (cc := cX11_place) (maxL := 2) (own := RX11) (by decide) rfl rfl (hmX cA h S) (Nat.le_of_ble_eq_true rfl) ?_
  intro p e s m args below meth c Q H locs C0 hW fin ls hl
  have hl : lv_has ls 2 [(0, .ref (h 11))] := hl
  have hx := C0.1
  have hb := C0.2.1
  have hown := C0.2.2.2.1
  have hts := C0.2.2.2.2
  have w45 : ∀ (u0 : Int32) (S : zSt) (H : Heap) (locs : List Loc), zW (zEX tt) D (tX cA) (wX cA h S) (aW (hsX h) s.heap.size) s H locs → ∀ ls : Array Slot, lv_has ls 2 [(0, .ref (h 11))] → fX11_place_b45 N u0 S = some (r, S1) → W p l e rmX11_place s m args below meth c H locs 0 0 Q (F0 m 45 ls [.int u0]) := by
    intro u0 S H locs hW ls hl hf
    unfold fX11_place_b45 at hf
    refine lv_istore_n (pc := 45) (lv' := [(1, .int u0), (0, .ref (h 11))]) hx hb dX11_place_45 rfl hl (by decide) rfl (fun ls hl => ?_)
    refine lv_aload_n (pc := 46) hx hb dX11_place_46 rfl (lv_at hl 1 rfl) ?_
    refine xg_1200 (pc := 47) C0 hu_11 hW mX_536 dX11_place_47 ?_
    obtain ⟨S2, e3, hf⟩ := zU_e hf
    refine zcVv (zEX_ok tt) (As := []) (pc := 50) C0 hW (kX10_clear l D cA h tt H.size S S2 e3) (cwV 0 hts (zgV gaX mX_592 mX_593 mX_594 mX_330 mX_531) rfl rfl rfl (by decide +kernel) ⟨Nat.le_of_ble_eq_true rfl, Nat.le_of_ble_eq_true rfl⟩) (va_recv hW.1 hW.2.1 (ci := 10) (q0 := 10) rfl rfl) rfl hl.1 rfl (Nat.le_of_ble_eq_true rfl) dX11_place_50 (fun H locs hW => ?_)
    refine lv_iload_n (pc := 53) hx hb dX11_place_53 rfl (lv_at hl 0 rfl) ?_
    exact zend_i (w := wX cA h) fin hf hW dX11_place_54
  unfold fX11_place at hf
  refine lv_aload_n (pc := 0) hx hb dX11_place_0 rfl (lv_at hl 0 rfl) ?_
  refine xg_1201 (pc := 1) C0 hu_11 hW mX_539 dX11_place_1 ?_
  obtain ⟨r4, S5, e6, hf⟩ := zB_e hf
  refine zcVi (zEX_ok tt) (As := []) (pc := 4) C0 hW (kX8_isFull l D cA h tt H.size S r4 S5 e6) (cwV 0 hts (zgV gaX mX_588 mX_464 mX_465 mX_66 mX_455) rfl rfl rfl (by decide +kernel) ⟨Nat.le_of_ble_eq_true rfl, Nat.le_of_ble_eq_true rfl⟩) (va_recv hW.1 hW.2.1 (ci := 8) (q0 := 8) rfl rfl) rfl hl.1 rfl (Nat.le_of_ble_eq_true rfl) dX11_place_4 (fun H locs hW => ?_)
  refine lv_if_eq (pc := 7) (tgt := 13) hx hb dX11_place_7 (by decide) (fun c7 => ?_) (fun c7 => ?_)
  · have hf := zt c7 hf
    refine lv_aload_n (pc := 13) hx hb dX11_place_13 rfl (lv_at hl 0 rfl) ?_
    refine xg_1201 (pc := 14) C0 hu_11 hW mX_539 dX11_place_14 ?_
    obtain ⟨r8, S9, e10, hf⟩ := zB_e hf
    refine zcVi (zEX_ok tt) (As := []) (pc := 17) C0 hW (kX8_read l D cA h tt H.size N S5 r8 S9 e10) (cwV 0 hts (zgV gaX mX_589 mX_590 mX_591 mX_66 mX_462) rfl rfl rfl (by decide +kernel) ⟨Nat.le_of_ble_eq_true rfl, Nat.le_of_ble_eq_true rfl⟩) (va_recv hW.1 hW.2.1 (ci := 8) (q0 := 8) rfl rfl) rfl hl.1 rfl (Nat.le_of_ble_eq_true rfl) dX11_place_17 (fun H locs hW => ?_)
    refine lv_if_eq (pc := 20) (tgt := 35) hx hb dX11_place_20 (by decide) (fun c11 => ?_) (fun c11 => ?_)
    · have hf := zt c11 hf
      refine lv_bipush (pc := 35) (v := (-100)) hx hb dX11_place_35 (by decide) ?_
      refine lv_aload_n (pc := 37) hx hb dX11_place_37 rfl (lv_at hl 0 rfl) ?_
      refine xg_1200 (pc := 38) C0 hu_11 hW mX_536 dX11_place_38 ?_
      refine xg_1102 (pc := 41) C0 hu_10 hW mX_587 dX11_place_41 ?_
      refine lv_isub (pc := 44) hx hb dX11_place_44 ?_
      exact w45 ((-100) - (S9.1 1102)) S9 H locs hW ls (lv_sub hl [0] rfl) hf
    · have hf := zf c11 hf
      refine lv_aload_n (pc := 23) hx hb dX11_place_23 rfl (lv_at hl 0 rfl) ?_
      refine xg_1201 (pc := 24) C0 hu_11 hW mX_539 dX11_place_24 ?_
      refine xg_904 (pc := 27) C0 hu_8 hW mX_586 dX11_place_27 ?_
      refine lv_iconst (pc := 30) (v := 1) hx hb dX11_place_30 (by decide) ?_
      refine lv_isub (pc := 31) hx hb dX11_place_31 ?_
      refine lv_goto (pc := 32) (tgt := 45) hx hb dX11_place_32 (by decide) ?_
      exact w45 ((S9.1 904) - 1) S9 H locs hW ls (lv_sub hl [0] rfl) hf
  · have hf := zf c7 hf
    refine lv_bipush (pc := 10) (v := (-3)) hx hb dX11_place_10 (by decide) ?_
    exact zend_i (w := wX cA h) fin hf hW dX11_place_12

def fX11_cell (N : Nat) (p1 : Int32) (p2 : Int32) (p3 : Int32) (p4 : Int32) (S : zSt) : Option (Int32 × zSt) :=
  zB (fX8_has p1 S) fun r1 S2 => if r1 = 0 then (some ((-1), S2)) else (if p2 = (-1) then (if p3 = 0 then (zB (fX8_cellsOf p1 S2) fun r37 S38 => some (r37, S38)) else (if p3 = 1 then (zB (fX8_belowOf p1 S2) fun r34 S35 => some (r34, S35)) else (some ((-1), S2)))) else (zB (fX8_hasCell p1 p2 S2) fun r6 S7 => if r6 = 0 then (some ((-1), S7)) else (zU (fX11_isWithin p3 0 2) fun r10 => if r10 = 0 then (zU (fX11_isHour p4) fun r14 => if r14 = 0 then (some ((-1), S7)) else (zB (fX4_riseInForce N p4 S7) fun r18 S19 => if p3 = 3 then (zB (fX8_depthAt p1 p2 r18 S19) fun r26 S27 => some (r26, S27)) else (if p3 = 4 then (zB (fX8_paceAt p1 p2 r18 S19) fun r23 S24 => some (r23, S24)) else (some ((-1), S19))))) else (zB (fX8_told p1 p2 p3 S7) fun r29 S30 => some (r29, S30)))))
abbrev wX11_cell : List Cond := Cond.code yX11_cell cX11_cell 6 (some .int) :: waX
abbrev rmX11_cell : Room := { frames := 6, cells := 0, slots := 0, locals := 136 }
set_option maxHeartbeats 4000000 in
set_option maxRecDepth 100000 in
theorem kX11_cell (l : Launch) (D : va_G) (cA : Nat → ClassId) (h tt : Nat → Nat) (sz : Nat) (N : Nat)  (p1 : Int32) (p2 : Int32) (p3 : Int32) (p4 : Int32) (S : zSt) (r : Int32) (S1 : zSt) (hf : fX11_cell N p1 p2 p3 p4 S = some (r, S1)) : zMi l yX11_cell wX11_cell rmX11_cell (zEX tt) D (tX cA) (hsX h) [.ref (h 11), .int p1, .int p2, .int p3, .int p4] (wX cA h S) (wX cA h S1) sz r := by
  refine zEn_i (cc := cX11_cell) (maxL := 6) (own := RX11) (by decide) rfl rfl (hmX cA h S) (Nat.le_of_ble_eq_true rfl) ?_
  intro p e s m args below meth c Q H locs C0 hW fin ls hl
  have hl : lv_has ls 6 [(0, .ref (h 11)), (1, .int p1), (2, .int p2), (3, .int p3), (4, .int p4)] := hl
  have hx := C0.1
  have hb := C0.2.1
  have hown := C0.2.2.2.1
  have hts := C0.2.2.2.2
  unfold fX11_cell at hf
  refine lv_aload_n (pc := 0) hx hb dX11_cell_0 rfl (lv_at hl 0 rfl) ?_
  refine xg_1201 (pc := 1) C0 hu_11 hW mX_539 dX11_cell_1 ?_
  refine lv_iload_n (pc := 4) hx hb dX11_cell_4 rfl (lv_at hl 1 rfl) ?_
  obtain ⟨r1, S2, e3, hf⟩ := zB_e hf
  refine zcVi (zEX_ok tt) (As := [.int p1]) (pc := 5) C0 hW (kX8_has l D cA h tt H.size p1 S r1 S2 e3) (cwV 1 hts (zgV gaX mX_596 mX_181 mX_182 mX_66 mX_183) rfl rfl rfl (by decide +kernel) ⟨Nat.le_of_ble_eq_true rfl, Nat.le_of_ble_eq_true rfl⟩) (va_recv hW.1 hW.2.1 (ci := 8) (q0 := 8) rfl rfl) rfl hl.1 rfl (Nat.le_of_ble_eq_true rfl) dX11_cell_5 (fun H locs hW => ?_)
  refine lv_if_ne (pc := 8) (tgt := 13) hx hb dX11_cell_8 (by decide) (fun c4 => ?_) (fun c4 => ?_)
  · have hf := zf c4 hf
    refine lv_iload_n (pc := 13) hx hb dX11_cell_13 rfl (lv_at hl 2 rfl) ?_
    refine lv_iconst (pc := 14) (v := (-1)) hx hb dX11_cell_14 (by decide) ?_
    refine lv_icmp_ne (pc := 15) (tgt := 51) hx hb dX11_cell_15 (by decide) (fun c5 => ?_) (fun c5 => ?_)
    · have hf := zf c5 hf
      refine lv_aload_n (pc := 51) hx hb dX11_cell_51 rfl (lv_at hl 0 rfl) ?_
      refine xg_1201 (pc := 52) C0 hu_11 hW mX_539 dX11_cell_52 ?_
      refine lv_iload_n (pc := 55) hx hb dX11_cell_55 rfl (lv_at hl 1 rfl) ?_
      refine lv_iload_n (pc := 56) hx hb dX11_cell_56 rfl (lv_at hl 2 rfl) ?_
      obtain ⟨r6, S7, e8, hf⟩ := zB_e hf
      refine zcVi (zEX_ok tt) (As := [.int p1, .int p2]) (pc := 57) C0 hW (kX8_hasCell l D cA h tt H.size p1 p2 S2 r6 S7 e8) (cwV 2 hts (zgV gaX mX_601 mX_602 mX_603 mX_66 mX_456) rfl rfl rfl (by decide +kernel) ⟨Nat.le_of_ble_eq_true rfl, Nat.le_of_ble_eq_true rfl⟩) (va_recv hW.1 hW.2.1 (ci := 8) (q0 := 8) rfl rfl) rfl hl.1 rfl (Nat.le_of_ble_eq_true rfl) dX11_cell_57 (fun H locs hW => ?_)
      refine lv_if_ne (pc := 60) (tgt := 65) hx hb dX11_cell_60 (by decide) (fun c9 => ?_) (fun c9 => ?_)
      · have hf := zf c9 hf
        refine lv_iload_n (pc := 65) hx hb dX11_cell_65 rfl (lv_at hl 3 rfl) ?_
        refine lv_iconst (pc := 66) (v := 0) hx hb dX11_cell_66 (by decide) ?_
        refine lv_iconst (pc := 67) (v := 2) hx hb dX11_cell_67 (by decide) ?_
        obtain ⟨r10, e12, hf⟩ := zU_e hf
        refine zcSi (As := [.int p3, .int 0, .int 2]) (pc := 68) C0 hW (kX11_isWithin l H.size p3 0 2 r10 e12) (va_cwS 3 hts (zgS gaX mX_225 mX_226 mX_151 mX_227) rfl rfl rfl (by decide +kernel) ⟨Nat.le_of_ble_eq_true rfl, Nat.le_of_ble_eq_true rfl⟩) rfl hl.1 rfl (Nat.le_of_ble_eq_true rfl) dX11_cell_68 (fun H locs hW => ?_)
        refine lv_if_eq (pc := 71) (tgt := 85) hx hb dX11_cell_71 (by decide) (fun c13 => ?_) (fun c13 => ?_)
        · have hf := zt c13 hf
          refine lv_iload (pc := 85) hx hb dX11_cell_85 (lv_at hl 4 rfl) ?_
          obtain ⟨r14, e16, hf⟩ := zU_e hf
          refine zcSi (As := [.int p4]) (pc := 87) C0 hW (kX11_isHour l H.size p4 r14 e16) (va_cwS 1 hts (zgS gaX mX_605 mX_401 mX_151 mX_402) rfl rfl rfl (by decide +kernel) ⟨Nat.le_of_ble_eq_true rfl, Nat.le_of_ble_eq_true rfl⟩) rfl hl.1 rfl (Nat.le_of_ble_eq_true rfl) dX11_cell_87 (fun H locs hW => ?_)
          refine lv_if_ne (pc := 90) (tgt := 95) hx hb dX11_cell_90 (by decide) (fun c17 => ?_) (fun c17 => ?_)
          · have hf := zf c17 hf
            refine lv_aload_n (pc := 95) hx hb dX11_cell_95 rfl (lv_at hl 0 rfl) ?_
            refine xg_1202 (pc := 96) C0 hu_11 hW mX_542 dX11_cell_96 ?_
            refine lv_iload (pc := 99) hx hb dX11_cell_99 (lv_at hl 4 rfl) ?_
            obtain ⟨r18, S19, e20, hf⟩ := zB_e hf
            refine zcVi (zEX_ok tt) (As := [.int p4]) (pc := 101) C0 hW (kX4_riseInForce l D cA h tt H.size N p4 S7 r18 S19 e20) (cwV 1 hts (zgV gaX mX_606 mX_229 mX_230 mX_231 mX_232) rfl rfl rfl (by decide +kernel) ⟨Nat.le_of_ble_eq_true rfl, Nat.le_of_ble_eq_true rfl⟩) (va_recv hW.1 hW.2.1 (ci := 4) (q0 := 4) rfl rfl) rfl hl.1 rfl (Nat.le_of_ble_eq_true rfl) dX11_cell_101 (fun H locs hW => ?_)
            refine lv_istore (pc := 104) (lv' := [(5, .int r18), (0, .ref (h 11)), (1, .int p1), (2, .int p2), (3, .int p3), (4, .int p4)]) hx hb dX11_cell_104 hl (by decide) rfl (fun ls hl => ?_)
            refine lv_iload_n (pc := 106) hx hb dX11_cell_106 rfl (lv_at hl 4 rfl) ?_
            refine lv_iconst (pc := 107) (v := 3) hx hb dX11_cell_107 (by decide) ?_
            refine lv_icmp_ne (pc := 108) (tgt := 125) hx hb dX11_cell_108 (by decide) (fun c21 => ?_) (fun c21 => ?_)
            · have hf := zf c21 hf
              refine lv_iload_n (pc := 125) hx hb dX11_cell_125 rfl (lv_at hl 4 rfl) ?_
              refine lv_iconst (pc := 126) (v := 4) hx hb dX11_cell_126 (by decide) ?_
              refine lv_icmp_ne (pc := 127) (tgt := 144) hx hb dX11_cell_127 (by decide) (fun c22 => ?_) (fun c22 => ?_)
              · have hf := zf c22 hf
                refine lv_iconst (pc := 144) (v := (-1)) hx hb dX11_cell_144 (by decide) ?_
                exact zend_i (w := wX cA h) fin hf hW dX11_cell_145
              · have hf := zt c22 hf
                refine lv_aload_n (pc := 130) hx hb dX11_cell_130 rfl (lv_at hl 1 rfl) ?_
                refine xg_1201 (pc := 131) C0 hu_11 hW mX_539 dX11_cell_131 ?_
                refine lv_iload_n (pc := 134) hx hb dX11_cell_134 rfl (lv_at hl 2 rfl) ?_
                refine lv_iload_n (pc := 135) hx hb dX11_cell_135 rfl (lv_at hl 3 rfl) ?_
                refine lv_iload (pc := 136) hx hb dX11_cell_136 (lv_at hl 0 rfl) ?_
                obtain ⟨r23, S24, e25, hf⟩ := zB_e hf
                refine zcVi (zEX_ok tt) (As := [.int p1, .int p2, .int r18]) (pc := 138) C0 hW (kX8_paceAt l D cA h tt H.size p1 p2 r18 S19 r23 S24 e25) (cwV 3 hts (zgV gaX mX_608 mX_111 mX_112 mX_66 mX_113) rfl rfl rfl (by decide +kernel) ⟨Nat.le_of_ble_eq_true rfl, Nat.le_of_ble_eq_true rfl⟩) (va_recv hW.1 hW.2.1 (ci := 8) (q0 := 8) rfl rfl) rfl hl.1 rfl (Nat.le_of_ble_eq_true rfl) dX11_cell_138 (fun H locs hW => ?_)
                refine lv_goto (pc := 141) (tgt := 145) hx hb dX11_cell_141 (by decide) ?_
                exact zend_i (w := wX cA h) fin hf hW dX11_cell_145
            · have hf := zt c21 hf
              refine lv_aload_n (pc := 111) hx hb dX11_cell_111 rfl (lv_at hl 1 rfl) ?_
              refine xg_1201 (pc := 112) C0 hu_11 hW mX_539 dX11_cell_112 ?_
              refine lv_iload_n (pc := 115) hx hb dX11_cell_115 rfl (lv_at hl 2 rfl) ?_
              refine lv_iload_n (pc := 116) hx hb dX11_cell_116 rfl (lv_at hl 3 rfl) ?_
              refine lv_iload (pc := 117) hx hb dX11_cell_117 (lv_at hl 0 rfl) ?_
              obtain ⟨r26, S27, e28, hf⟩ := zB_e hf
              refine zcVi (zEX_ok tt) (As := [.int p1, .int p2, .int r18]) (pc := 119) C0 hW (kX8_depthAt l D cA h tt H.size p1 p2 r18 S19 r26 S27 e28) (cwV 3 hts (zgV gaX mX_607 mX_123 mX_124 mX_66 mX_125) rfl rfl rfl (by decide +kernel) ⟨Nat.le_of_ble_eq_true rfl, Nat.le_of_ble_eq_true rfl⟩) (va_recv hW.1 hW.2.1 (ci := 8) (q0 := 8) rfl rfl) rfl hl.1 rfl (Nat.le_of_ble_eq_true rfl) dX11_cell_119 (fun H locs hW => ?_)
              refine lv_goto (pc := 122) (tgt := 145) hx hb dX11_cell_122 (by decide) ?_
              exact zend_i (w := wX cA h) fin hf hW dX11_cell_145
          · have hf := zt c17 hf
            refine lv_iconst (pc := 93) (v := (-1)) hx hb dX11_cell_93 (by decide) ?_
            exact zend_i (w := wX cA h) fin hf hW dX11_cell_94
        · have hf := zf c13 hf
          refine lv_aload_n (pc := 74) hx hb dX11_cell_74 rfl (lv_at hl 0 rfl) ?_
          refine xg_1201 (pc := 75) C0 hu_11 hW mX_539 dX11_cell_75 ?_
          refine lv_iload_n (pc := 78) hx hb dX11_cell_78 rfl (lv_at hl 1 rfl) ?_
          refine lv_iload_n (pc := 79) hx hb dX11_cell_79 rfl (lv_at hl 2 rfl) ?_
          refine lv_iload_n (pc := 80) hx hb dX11_cell_80 rfl (lv_at hl 3 rfl) ?_
          obtain ⟨r29, S30, e31, hf⟩ := zB_e hf
          refine zcVi (zEX_ok tt) (As := [.int p1, .int p2, .int p3]) (pc := 81) C0 hW (kX8_told l D cA h tt H.size p1 p2 p3 S7 r29 S30 e31) (cwV 3 hts (zgV gaX mX_604 mX_115 mX_116 mX_66 mX_117) rfl rfl rfl (by decide +kernel) ⟨Nat.le_of_ble_eq_true rfl, Nat.le_of_ble_eq_true rfl⟩) (va_recv hW.1 hW.2.1 (ci := 8) (q0 := 8) rfl rfl) rfl hl.1 rfl (Nat.le_of_ble_eq_true rfl) dX11_cell_81 (fun H locs hW => ?_)
          exact zend_i (w := wX cA h) fin hf hW dX11_cell_84
      · have hf := zt c9 hf
        refine lv_iconst (pc := 63) (v := (-1)) hx hb dX11_cell_63 (by decide) ?_
        exact zend_i (w := wX cA h) fin hf hW dX11_cell_64
    · have hf := zt c5 hf
      refine lv_iload_n (pc := 18) hx hb dX11_cell_18 rfl (lv_at hl 3 rfl) ?_
      refine lv_if_ne (pc := 19) (tgt := 33) hx hb dX11_cell_19 (by decide) (fun c32 => ?_) (fun c32 => ?_)
      · have hf := zf c32 hf
        refine lv_iload_n (pc := 33) hx hb dX11_cell_33 rfl (lv_at hl 3 rfl) ?_
        refine lv_iconst (pc := 34) (v := 1) hx hb dX11_cell_34 (by decide) ?_
        refine lv_icmp_ne (pc := 35) (tgt := 49) hx hb dX11_cell_35 (by decide) (fun c33 => ?_) (fun c33 => ?_)
        · have hf := zf c33 hf
          refine lv_iconst (pc := 49) (v := (-1)) hx hb dX11_cell_49 (by decide) ?_
          exact zend_i (w := wX cA h) fin hf hW dX11_cell_50
        · have hf := zt c33 hf
          refine lv_aload_n (pc := 38) hx hb dX11_cell_38 rfl (lv_at hl 0 rfl) ?_
          refine xg_1201 (pc := 39) C0 hu_11 hW mX_539 dX11_cell_39 ?_
          refine lv_iload_n (pc := 42) hx hb dX11_cell_42 rfl (lv_at hl 1 rfl) ?_
          obtain ⟨r34, S35, e36, hf⟩ := zB_e hf
          refine zcVi (zEX_ok tt) (As := [.int p1]) (pc := 43) C0 hW (kX8_belowOf l D cA h tt H.size p1 S2 r34 S35 e36) (cwV 1 hts (zgV gaX mX_598 mX_599 mX_600 mX_66 mX_457) rfl rfl rfl (by decide +kernel) ⟨Nat.le_of_ble_eq_true rfl, Nat.le_of_ble_eq_true rfl⟩) (va_recv hW.1 hW.2.1 (ci := 8) (q0 := 8) rfl rfl) rfl hl.1 rfl (Nat.le_of_ble_eq_true rfl) dX11_cell_43 (fun H locs hW => ?_)
          refine lv_goto (pc := 46) (tgt := 50) hx hb dX11_cell_46 (by decide) ?_
          exact zend_i (w := wX cA h) fin hf hW dX11_cell_50
      · have hf := zt c32 hf
        refine lv_aload_n (pc := 22) hx hb dX11_cell_22 rfl (lv_at hl 0 rfl) ?_
        refine xg_1201 (pc := 23) C0 hu_11 hW mX_539 dX11_cell_23 ?_
        refine lv_iload_n (pc := 26) hx hb dX11_cell_26 rfl (lv_at hl 1 rfl) ?_
        obtain ⟨r37, S38, e39, hf⟩ := zB_e hf
        refine zcVi (zEX_ok tt) (As := [.int p1]) (pc := 27) C0 hW (kX8_cellsOf l D cA h tt H.size p1 S2 r37 S38 e39) (cwV 1 hts (zgV gaX mX_597 mX_176 mX_177 mX_66 mX_178) rfl rfl rfl (by decide +kernel) ⟨Nat.le_of_ble_eq_true rfl, Nat.le_of_ble_eq_true rfl⟩) (va_recv hW.1 hW.2.1 (ci := 8) (q0 := 8) rfl rfl) rfl hl.1 rfl (Nat.le_of_ble_eq_true rfl) dX11_cell_27 (fun H locs hW => ?_)
        refine lv_goto (pc := 30) (tgt := 50) hx hb dX11_cell_30 (by decide) ?_
        exact zend_i (w := wX cA h) fin hf hW dX11_cell_50
  · have hf := zt c4 hf
    refine lv_iconst (pc := 11) (v := (-1)) hx hb dX11_cell_11 (by decide) ?_
    exact zend_i (w := wX cA h) fin hf hW dX11_cell_12

def fX11_mend (p1 : Int32) (p2 : Int32) (p3 : Int32) (p4 : Int32) (S : zSt) : Option (Int32 × zSt) :=
  zB (fX8_hasCell p1 p2 S) fun r1 S2 => if r1 = 0 then (some ((-1), S2)) else (zU (fX11_isWithin p3 0 2) fun r5 => if r5 = 0 then (some ((-1), S2)) else (zU (fX8_mostOf p3) fun r9 => zU (fX11_isWithin p4 0 r9) fun r12 => if r12 = 0 then (some ((-1), S2)) else (zU (fX8_slot p1 p2) fun r16 => zB (fX1_make (r16 + p3) p4 S2) fun r19 S20 => some (r19, S20))))
abbrev wX11_mend : List Cond := Cond.code yX11_mend cX11_mend 5 (some .int) :: waX
abbrev rmX11_mend : Room := { frames := 4, cells := 0, slots := 0, locals := 126 }
set_option maxHeartbeats 4000000 in
set_option maxRecDepth 100000 in
theorem kX11_mend (l : Launch) (D : va_G) (cA : Nat → ClassId) (h tt : Nat → Nat) (sz : Nat)  (p1 : Int32) (p2 : Int32) (p3 : Int32) (p4 : Int32) (S : zSt) (r : Int32) (S1 : zSt) (hf : fX11_mend p1 p2 p3 p4 S = some (r, S1)) : zMi l yX11_mend wX11_mend rmX11_mend (zEX tt) D (tX cA) (hsX h) [.ref (h 11), .int p1, .int p2, .int p3, .int p4] (wX cA h S) (wX cA h S1) sz r := by
  refine zEn_i (cc := cX11_mend) (maxL := 5) (own := RX11) (by decide) rfl rfl (hmX cA h S) (Nat.le_of_ble_eq_true rfl) ?_
  intro p e s m args below meth c Q H locs C0 hW fin ls hl
  have hl : lv_has ls 5 [(0, .ref (h 11)), (1, .int p1), (2, .int p2), (3, .int p3), (4, .int p4)] := hl
  have hx := C0.1
  have hb := C0.2.1
  have hown := C0.2.2.2.1
  have hts := C0.2.2.2.2
  unfold fX11_mend at hf
  refine lv_aload_n (pc := 0) hx hb dX11_mend_0 rfl (lv_at hl 0 rfl) ?_
  refine xg_1201 (pc := 1) C0 hu_11 hW mX_539 dX11_mend_1 ?_
  refine lv_iload_n (pc := 4) hx hb dX11_mend_4 rfl (lv_at hl 1 rfl) ?_
  refine lv_iload_n (pc := 5) hx hb dX11_mend_5 rfl (lv_at hl 2 rfl) ?_
  obtain ⟨r1, S2, e3, hf⟩ := zB_e hf
  refine zcVi (zEX_ok tt) (As := [.int p1, .int p2]) (pc := 6) C0 hW (kX8_hasCell l D cA h tt H.size p1 p2 S r1 S2 e3) (cwV 2 hts (zgV gaX mX_601 mX_602 mX_603 mX_66 mX_456) rfl rfl rfl (by decide +kernel) ⟨Nat.le_of_ble_eq_true rfl, Nat.le_of_ble_eq_true rfl⟩) (va_recv hW.1 hW.2.1 (ci := 8) (q0 := 8) rfl rfl) rfl hl.1 rfl (Nat.le_of_ble_eq_true rfl) dX11_mend_6 (fun H locs hW => ?_)
  refine lv_if_eq (pc := 9) (tgt := 21) hx hb dX11_mend_9 (by decide) (fun c4 => ?_) (fun c4 => ?_)
  · have hf := zt c4 hf
    refine lv_iconst (pc := 21) (v := (-1)) hx hb dX11_mend_21 (by decide) ?_
    exact zend_i (w := wX cA h) fin hf hW dX11_mend_22
  · have hf := zf c4 hf
    refine lv_iload_n (pc := 12) hx hb dX11_mend_12 rfl (lv_at hl 3 rfl) ?_
    refine lv_iconst (pc := 13) (v := 0) hx hb dX11_mend_13 (by decide) ?_
    refine lv_iconst (pc := 14) (v := 2) hx hb dX11_mend_14 (by decide) ?_
    obtain ⟨r5, e7, hf⟩ := zU_e hf
    refine zcSi (As := [.int p3, .int 0, .int 2]) (pc := 15) C0 hW (kX11_isWithin l H.size p3 0 2 r5 e7) (va_cwS 3 hts (zgS gaX mX_225 mX_226 mX_151 mX_227) rfl rfl rfl (by decide +kernel) ⟨Nat.le_of_ble_eq_true rfl, Nat.le_of_ble_eq_true rfl⟩) rfl hl.1 rfl (Nat.le_of_ble_eq_true rfl) dX11_mend_15 (fun H locs hW => ?_)
    refine lv_if_ne (pc := 18) (tgt := 23) hx hb dX11_mend_18 (by decide) (fun c8 => ?_) (fun c8 => ?_)
    · have hf := zf c8 hf
      refine lv_iload (pc := 23) hx hb dX11_mend_23 (lv_at hl 4 rfl) ?_
      refine lv_iconst (pc := 25) (v := 0) hx hb dX11_mend_25 (by decide) ?_
      refine lv_iload_n (pc := 26) hx hb dX11_mend_26 rfl (lv_at hl 3 rfl) ?_
      obtain ⟨r9, e11, hf⟩ := zU_e hf
      refine zcSi (As := [.int p3]) (pc := 27) C0 hW (kX8_mostOf l H.size p3 r9 e11) (va_cwS 1 hts (zgS gaX mX_610 mX_611 mX_66 mX_454) rfl rfl rfl (by decide +kernel) ⟨Nat.le_of_ble_eq_true rfl, Nat.le_of_ble_eq_true rfl⟩) rfl hl.1 rfl (Nat.le_of_ble_eq_true rfl) dX11_mend_27 (fun H locs hW => ?_)
      obtain ⟨r12, e14, hf⟩ := zU_e hf
      refine zcSi (As := [.int p4, .int 0, .int r9]) (pc := 30) C0 hW (kX11_isWithin l H.size p4 0 r9 r12 e14) (va_cwS 3 hts (zgS gaX mX_225 mX_226 mX_151 mX_227) rfl rfl rfl (by decide +kernel) ⟨Nat.le_of_ble_eq_true rfl, Nat.le_of_ble_eq_true rfl⟩) rfl hl.1 rfl (Nat.le_of_ble_eq_true rfl) dX11_mend_30 (fun H locs hW => ?_)
      refine lv_if_eq (pc := 33) (tgt := 55) hx hb dX11_mend_33 (by decide) (fun c15 => ?_) (fun c15 => ?_)
      · have hf := zt c15 hf
        refine lv_iconst (pc := 55) (v := (-1)) hx hb dX11_mend_55 (by decide) ?_
        exact zend_i (w := wX cA h) fin hf hW dX11_mend_56
      · have hf := zf c15 hf
        refine lv_aload_n (pc := 36) hx hb dX11_mend_36 rfl (lv_at hl 0 rfl) ?_
        refine xg_1206 (pc := 37) C0 hu_11 hW mX_554 dX11_mend_37 ?_
        refine lv_iload_n (pc := 40) hx hb dX11_mend_40 rfl (lv_at hl 1 rfl) ?_
        refine lv_iload_n (pc := 41) hx hb dX11_mend_41 rfl (lv_at hl 2 rfl) ?_
        obtain ⟨r16, e18, hf⟩ := zU_e hf
        refine zcSi (As := [.int p1, .int p2]) (pc := 42) C0 hW (kX8_slot l H.size p1 p2 r16 e18) (va_cwS 2 hts (zgS gaX mX_612 mX_119 mX_66 mX_120) rfl rfl rfl (by decide +kernel) ⟨Nat.le_of_ble_eq_true rfl, Nat.le_of_ble_eq_true rfl⟩) rfl hl.1 rfl (Nat.le_of_ble_eq_true rfl) dX11_mend_42 (fun H locs hW => ?_)
        refine lv_iload_n (pc := 45) hx hb dX11_mend_45 rfl (lv_at hl 3 rfl) ?_
        refine lv_iadd (pc := 46) hx hb dX11_mend_46 ?_
        refine lv_iload (pc := 47) hx hb dX11_mend_47 (lv_at hl 4 rfl) ?_
        obtain ⟨r19, S20, e21, hf⟩ := zB_e hf
        refine zcVi (zEX_ok tt) (As := [.int (r16 + p3), .int p4]) (pc := 49) C0 hW (kX1_make l D cA h tt H.size (r16 + p3) p4 S2 r19 S20 e21) (cwV 2 hts (zgV gaX mX_613 mX_614 mX_615 mX_78 mX_62) rfl rfl rfl (by decide +kernel) ⟨Nat.le_of_ble_eq_true rfl, Nat.le_of_ble_eq_true rfl⟩) (va_recv hW.1 hW.2.1 (ci := 1) (q0 := 1) rfl rfl) rfl hl.1 rfl (Nat.le_of_ble_eq_true rfl) dX11_mend_49 (fun H locs hW => ?_)
        refine lv_goto (pc := 52) (tgt := 56) hx hb dX11_mend_52 (by decide) ?_
        exact zend_i (w := wX cA h) fin hf hW dX11_mend_56
    · have hf := zt c8 hf
      refine lv_iconst (pc := 21) (v := (-1)) hx hb dX11_mend_21 (by decide) ?_
      exact zend_i (w := wX cA h) fin hf hW dX11_mend_22

def fX11_law_b45 (N : Nat) (u0 : Int32) (S : zSt) : Option (Int32 × zSt) :=
  zU (fX10_clear S) fun S2 => some (u0, S2)
def fX11_law (N : Nat) (S : zSt) : Option (Int32 × zSt) :=
  zB (fX4_isFull S) fun r4 S5 => if r4 = 0 then (zB (fX4_read N S5) fun r8 S9 => if r8 = 0 then (fX11_law_b45 N ((-100) - (S9.1 1102)) S9) else (fX11_law_b45 N ((S9.1 505) - 1) S9)) else (some ((-3), S5))
abbrev wX11_law : List Cond := Cond.code yX11_law cX11_law 2 (some .int) :: waX
abbrev rmX11_law : Room := { frames := 116, cells := 0, slots := 0, locals := 4687 }
set_option maxHeartbeats 4000000 in
set_option maxRecDepth 100000 in
theorem kX11_law (l : Launch) (D : va_G) (cA : Nat → ClassId) (h tt : Nat → Nat) (sz : Nat) (N : Nat)   (S : zSt) (r : Int32) (S1 : zSt) (hf : fX11_law N S = some (r, S1)) : zMi l yX11_law wX11_law rmX11_law (zEX tt) D (tX cA) (hsX h) [.ref (h 11)] (wX cA h S) (wX cA h S1) sz r := by
  refine zEn_i (cc := cX11_law) (maxL := 2) (own := RX11) (by decide) rfl rfl (hmX cA h S) (Nat.le_of_ble_eq_true rfl) ?_
  intro p e s m args below meth c Q H locs C0 hW fin ls hl
  have hl : lv_has ls 2 [(0, .ref (h 11))] := hl
  have hx := C0.1
  have hb := C0.2.1
  have hown := C0.2.2.2.1
  have hts := C0.2.2.2.2
  have w45 : ∀ (u0 : Int32) (S : zSt) (H : Heap) (locs : List Loc), zW (zEX tt) D (tX cA) (wX cA h S) (aW (hsX h) s.heap.size) s H locs → ∀ ls : Array Slot, lv_has ls 2 [(0, .ref (h 11))] → fX11_law_b45 N u0 S = some (r, S1) → W p l e rmX11_law s m args below meth c H locs 0 0 Q (F0 m 45 ls [.int u0]) := by
    intro u0 S H locs hW ls hl hf
    unfold fX11_law_b45 at hf
    refine lv_istore_n (pc := 45) (lv' := [(1, .int u0), (0, .ref (h 11))]) hx hb dX11_law_45 rfl hl (by decide) rfl (fun ls hl => ?_)
    refine lv_aload_n (pc := 46) hx hb dX11_law_46 rfl (lv_at hl 1 rfl) ?_
    refine xg_1200 (pc := 47) C0 hu_11 hW mX_536 dX11_law_47 ?_
    obtain ⟨S2, e3, hf⟩ := zU_e hf
    refine zcVv (zEX_ok tt) (As := []) (pc := 50) C0 hW (kX10_clear l D cA h tt H.size S S2 e3) (cwV 0 hts (zgV gaX mX_592 mX_593 mX_594 mX_330 mX_531) rfl rfl rfl (by decide +kernel) ⟨Nat.le_of_ble_eq_true rfl, Nat.le_of_ble_eq_true rfl⟩) (va_recv hW.1 hW.2.1 (ci := 10) (q0 := 10) rfl rfl) rfl hl.1 rfl (Nat.le_of_ble_eq_true rfl) dX11_law_50 (fun H locs hW => ?_)
    refine lv_iload_n (pc := 53) hx hb dX11_law_53 rfl (lv_at hl 0 rfl) ?_
    exact zend_i (w := wX cA h) fin hf hW dX11_law_54
  unfold fX11_law at hf
  refine lv_aload_n (pc := 0) hx hb dX11_law_0 rfl (lv_at hl 0 rfl) ?_
  refine xg_1202 (pc := 1) C0 hu_11 hW mX_542 dX11_law_1 ?_
  obtain ⟨r4, S5, e6, hf⟩ := zB_e hf
  refine zcVi (zEX_ok tt) (As := []) (pc := 4) C0 hW (kX4_isFull l D cA h tt H.size S r4 S5 e6) (cwV 0 hts (zgV gaX mX_618 mX_389 mX_390 mX_231 mX_383) rfl rfl rfl (by decide +kernel) ⟨Nat.le_of_ble_eq_true rfl, Nat.le_of_ble_eq_true rfl⟩) (va_recv hW.1 hW.2.1 (ci := 4) (q0 := 4) rfl rfl) rfl hl.1 rfl (Nat.le_of_ble_eq_true rfl) dX11_law_4 (fun H locs hW => ?_)
  refine lv_if_eq (pc := 7) (tgt := 13) hx hb dX11_law_7 (by decide) (fun c7 => ?_) (fun c7 => ?_)
  · have hf := zt c7 hf
    refine lv_aload_n (pc := 13) hx hb dX11_law_13 rfl (lv_at hl 0 rfl) ?_
    refine xg_1202 (pc := 14) C0 hu_11 hW mX_542 dX11_law_14 ?_
    obtain ⟨r8, S9, e10, hf⟩ := zB_e hf
    refine zcVi (zEX_ok tt) (As := []) (pc := 17) C0 hW (kX4_read l D cA h tt H.size N S5 r8 S9 e10) (cwV 0 hts (zgV gaX mX_619 mX_620 mX_621 mX_231 mX_384) rfl rfl rfl (by decide +kernel) ⟨Nat.le_of_ble_eq_true rfl, Nat.le_of_ble_eq_true rfl⟩) (va_recv hW.1 hW.2.1 (ci := 4) (q0 := 4) rfl rfl) rfl hl.1 rfl (Nat.le_of_ble_eq_true rfl) dX11_law_17 (fun H locs hW => ?_)
    refine lv_if_eq (pc := 20) (tgt := 35) hx hb dX11_law_20 (by decide) (fun c11 => ?_) (fun c11 => ?_)
    · have hf := zt c11 hf
      refine lv_bipush (pc := 35) (v := (-100)) hx hb dX11_law_35 (by decide) ?_
      refine lv_aload_n (pc := 37) hx hb dX11_law_37 rfl (lv_at hl 0 rfl) ?_
      refine xg_1200 (pc := 38) C0 hu_11 hW mX_536 dX11_law_38 ?_
      refine xg_1102 (pc := 41) C0 hu_10 hW mX_587 dX11_law_41 ?_
      refine lv_isub (pc := 44) hx hb dX11_law_44 ?_
      exact w45 ((-100) - (S9.1 1102)) S9 H locs hW ls (lv_sub hl [0] rfl) hf
    · have hf := zf c11 hf
      refine lv_aload_n (pc := 23) hx hb dX11_law_23 rfl (lv_at hl 0 rfl) ?_
      refine xg_1202 (pc := 24) C0 hu_11 hW mX_542 dX11_law_24 ?_
      refine xg_505 (pc := 27) C0 hu_4 hW mX_617 dX11_law_27 ?_
      refine lv_iconst (pc := 30) (v := 1) hx hb dX11_law_30 (by decide) ?_
      refine lv_isub (pc := 31) hx hb dX11_law_31 ?_
      refine lv_goto (pc := 32) (tgt := 45) hx hb dX11_law_32 (by decide) ?_
      exact w45 ((S9.1 505) - 1) S9 H locs hW ls (lv_sub hl [0] rfl) hf
  · have hf := zf c7 hf
    refine lv_bipush (pc := 10) (v := (-3)) hx hb dX11_law_10 (by decide) ?_
    exact zend_i (w := wX cA h) fin hf hW dX11_law_12

def fX11_force_b19  (v1 : Int32) (S : zSt) : Option (Int32 × zSt) :=
  zL (zI S 508 v1) fun S1 => some ((S.1 508), S1)
def fX11_force (p1 : Int32) (S : zSt) : Option (Int32 × zSt) :=
  if p1 = (-1) then (fX11_force_b19 p1 S) else (zB (fX4_has p1 S) fun r3 S4 => if r3 = 0 then (some ((-2), S4)) else (fX11_force_b19 p1 S4))
abbrev wX11_force : List Cond := Cond.code yX11_force cX11_force 3 (some .int) :: waX
abbrev rmX11_force : Room := { frames := 1, cells := 0, slots := 0, locals := 21 }
set_option maxHeartbeats 4000000 in
set_option maxRecDepth 100000 in
theorem kX11_force (l : Launch) (D : va_G) (cA : Nat → ClassId) (h tt : Nat → Nat) (sz : Nat)  (p1 : Int32) (S : zSt) (r : Int32) (S1 : zSt) (hf : fX11_force p1 S = some (r, S1)) : zMi l yX11_force wX11_force rmX11_force (zEX tt) D (tX cA) (hsX h) [.ref (h 11), .int p1] (wX cA h S) (wX cA h S1) sz r := by
  refine zEn_i (cc := cX11_force) (maxL := 3) (own := RX11) (by decide) rfl rfl (hmX cA h S) (Nat.le_of_ble_eq_true rfl) ?_
  intro p e s m args below meth c Q H locs C0 hW fin ls hl
  have hl : lv_has ls 3 [(0, .ref (h 11)), (1, .int p1)] := hl
  have hx := C0.1
  have hb := C0.2.1
  have hown := C0.2.2.2.1
  have hts := C0.2.2.2.2
  have w19 : ∀ (v1 : Int32) (S : zSt) (H : Heap) (locs : List Loc), zW (zEX tt) D (tX cA) (wX cA h S) (aW (hsX h) s.heap.size) s H locs → ∀ ls : Array Slot, lv_has ls 3 [(0, .ref (h 11)), (1, .int v1)] → fX11_force_b19 v1 S = some (r, S1) → W p l e rmX11_force s m args below meth c H locs 0 0 Q (F0 m 19 ls []) := by
    intro v1 S H locs hW ls hl hf
    unfold fX11_force_b19 at hf
    refine lv_aload_n (pc := 19) hx hb dX11_force_19 rfl (lv_at hl 0 rfl) ?_
    refine xg_1202 (pc := 20) C0 hu_11 hW mX_542 dX11_force_20 ?_
    refine xg_508 (pc := 23) C0 hu_4 hW mX_623 dX11_force_23 ?_
    refine lv_istore_n (pc := 26) (lv' := [(2, .int (S.1 508)), (0, .ref (h 11)), (1, .int v1)]) hx hb dX11_force_26 rfl hl (by decide) rfl (fun ls hl => ?_)
    refine lv_aload_n (pc := 27) hx hb dX11_force_27 rfl (lv_at hl 1 rfl) ?_
    refine xg_1202 (pc := 28) C0 hu_11 hW mX_542 dX11_force_28 ?_
    refine lv_iload_n (pc := 31) hx hb dX11_force_31 rfl (lv_at hl 2 rfl) ?_
    obtain ⟨S1, e_S1, hf⟩ := zL_e hf
    refine xp_508 (pc := 32) C0 hu_4 hW mX_623 e_S1 dX11_force_32 (fun H locs hW => ?_)
    refine lv_iload_n (pc := 35) hx hb dX11_force_35 rfl (lv_at hl 0 rfl) ?_
    exact zend_i (w := wX cA h) fin hf hW dX11_force_36
  unfold fX11_force at hf
  refine lv_iload_n (pc := 0) hx hb dX11_force_0 rfl (lv_at hl 1 rfl) ?_
  refine lv_iconst (pc := 1) (v := (-1)) hx hb dX11_force_1 (by decide) ?_
  refine lv_icmp_eq (pc := 2) (tgt := 19) hx hb dX11_force_2 (by decide) (fun c2 => ?_) (fun c2 => ?_)
  · have hf := zt c2 hf
    exact w19 p1 S H locs hW ls (lv_sub hl [0, 1] rfl) hf
  · have hf := zf c2 hf
    refine lv_aload_n (pc := 5) hx hb dX11_force_5 rfl (lv_at hl 0 rfl) ?_
    refine xg_1202 (pc := 6) C0 hu_11 hW mX_542 dX11_force_6 ?_
    refine lv_iload_n (pc := 9) hx hb dX11_force_9 rfl (lv_at hl 1 rfl) ?_
    obtain ⟨r3, S4, e5, hf⟩ := zB_e hf
    refine zcVi (zEX_ok tt) (As := [.int p1]) (pc := 10) C0 hW (kX4_has l D cA h tt H.size p1 S r3 S4 e5) (cwV 1 hts (zgV gaX mX_624 mX_235 mX_236 mX_231 mX_237) rfl rfl rfl (by decide +kernel) ⟨Nat.le_of_ble_eq_true rfl, Nat.le_of_ble_eq_true rfl⟩) (va_recv hW.1 hW.2.1 (ci := 4) (q0 := 4) rfl rfl) rfl hl.1 rfl (Nat.le_of_ble_eq_true rfl) dX11_force_10 (fun H locs hW => ?_)
    refine lv_if_ne (pc := 13) (tgt := 19) hx hb dX11_force_13 (by decide) (fun c6 => ?_) (fun c6 => ?_)
    · have hf := zf c6 hf
      exact w19 p1 S4 H locs hW ls (lv_sub hl [0, 1] rfl) hf
    · have hf := zt c6 hf
      refine lv_bipush (pc := 16) (v := (-2)) hx hb dX11_force_16 (by decide) ?_
      exact zend_i (w := wX cA h) fin hf hW dX11_force_18

def fX11_sky_b42  (v1 : Int32) (v2 : Int32) (u0 : Int32) (S : zSt) : Option (Int32 × zSt) :=
  if v1 = 0 then (zL (zI S 506 v2) fun S3 => some (u0, S3)) else (zL (zI S 507 v2) fun S2 => some (u0, S2))
def fX11_sky (p1 : Int32) (p2 : Int32) (S : zSt) : Option (Int32 × zSt) :=
  zU (fX11_isWithin p1 0 1) fun r4 => if r4 = 0 then (some ((-1), S)) else (zU (fX11_isWithin p2 0 99) fun r8 => if r8 = 0 then (some ((-1), S)) else (if p1 = 0 then (fX11_sky_b42 p1 p2 (S.1 506) S) else (fX11_sky_b42 p1 p2 (S.1 507) S)))
abbrev wX11_sky : List Cond := Cond.code yX11_sky cX11_sky 4 (some .int) :: waX
abbrev rmX11_sky : Room := { frames := 1, cells := 0, slots := 0, locals := 22 }
set_option maxHeartbeats 4000000 in
set_option maxRecDepth 100000 in
theorem kX11_sky (l : Launch) (D : va_G) (cA : Nat → ClassId) (h tt : Nat → Nat) (sz : Nat)  (p1 : Int32) (p2 : Int32) (S : zSt) (r : Int32) (S1 : zSt) (hf : fX11_sky p1 p2 S = some (r, S1)) : zMi l yX11_sky wX11_sky rmX11_sky (zEX tt) D (tX cA) (hsX h) [.ref (h 11), .int p1, .int p2] (wX cA h S) (wX cA h S1) sz r := by
  refine zEn_i (cc := cX11_sky) (maxL := 4) (own := RX11) (by decide) rfl rfl (hmX cA h S) (Nat.le_of_ble_eq_true rfl) ?_
  intro p e s m args below meth c Q H locs C0 hW fin ls hl
  have hl : lv_has ls 4 [(0, .ref (h 11)), (1, .int p1), (2, .int p2)] := hl
  have hx := C0.1
  have hb := C0.2.1
  have hown := C0.2.2.2.1
  have hts := C0.2.2.2.2
  have w42 : ∀ (v1 : Int32) (v2 : Int32) (u0 : Int32) (S : zSt) (H : Heap) (locs : List Loc), zW (zEX tt) D (tX cA) (wX cA h S) (aW (hsX h) s.heap.size) s H locs → ∀ ls : Array Slot, lv_has ls 4 [(0, .ref (h 11)), (1, .int v1), (2, .int v2)] → fX11_sky_b42 v1 v2 u0 S = some (r, S1) → W p l e rmX11_sky s m args below meth c H locs 0 0 Q (F0 m 42 ls [.int u0]) := by
    intro v1 v2 u0 S H locs hW ls hl hf
    unfold fX11_sky_b42 at hf
    refine lv_istore_n (pc := 42) (lv' := [(3, .int u0), (0, .ref (h 11)), (1, .int v1), (2, .int v2)]) hx hb dX11_sky_42 rfl hl (by decide) rfl (fun ls hl => ?_)
    refine lv_iload_n (pc := 43) hx hb dX11_sky_43 rfl (lv_at hl 2 rfl) ?_
    refine lv_if_ne (pc := 44) (tgt := 58) hx hb dX11_sky_44 (by decide) (fun c1 => ?_) (fun c1 => ?_)
    · have hf := zf c1 hf
      refine lv_aload_n (pc := 58) hx hb dX11_sky_58 rfl (lv_at hl 1 rfl) ?_
      refine xg_1202 (pc := 59) C0 hu_11 hW mX_542 dX11_sky_59 ?_
      refine lv_iload_n (pc := 62) hx hb dX11_sky_62 rfl (lv_at hl 3 rfl) ?_
      obtain ⟨S2, e_S2, hf⟩ := zL_e hf
      refine xp_507 (pc := 63) C0 hu_4 hW mX_627 e_S2 dX11_sky_63 (fun H locs hW => ?_)
      refine lv_iload_n (pc := 66) hx hb dX11_sky_66 rfl (lv_at hl 0 rfl) ?_
      exact zend_i (w := wX cA h) fin hf hW dX11_sky_67
    · have hf := zt c1 hf
      refine lv_aload_n (pc := 47) hx hb dX11_sky_47 rfl (lv_at hl 1 rfl) ?_
      refine xg_1202 (pc := 48) C0 hu_11 hW mX_542 dX11_sky_48 ?_
      refine lv_iload_n (pc := 51) hx hb dX11_sky_51 rfl (lv_at hl 3 rfl) ?_
      obtain ⟨S3, e_S3, hf⟩ := zL_e hf
      refine xp_506 (pc := 52) C0 hu_4 hW mX_626 e_S3 dX11_sky_52 (fun H locs hW => ?_)
      refine lv_goto (pc := 55) (tgt := 66) hx hb dX11_sky_55 (by decide) ?_
      refine lv_iload_n (pc := 66) hx hb dX11_sky_66 rfl (lv_at hl 0 rfl) ?_
      exact zend_i (w := wX cA h) fin hf hW dX11_sky_67
  unfold fX11_sky at hf
  refine lv_iload_n (pc := 0) hx hb dX11_sky_0 rfl (lv_at hl 1 rfl) ?_
  refine lv_iconst (pc := 1) (v := 0) hx hb dX11_sky_1 (by decide) ?_
  refine lv_iconst (pc := 2) (v := 1) hx hb dX11_sky_2 (by decide) ?_
  obtain ⟨r4, e6, hf⟩ := zU_e hf
  refine zcSi (As := [.int p1, .int 0, .int 1]) (pc := 3) C0 hW (kX11_isWithin l H.size p1 0 1 r4 e6) (va_cwS 3 hts (zgS gaX mX_225 mX_226 mX_151 mX_227) rfl rfl rfl (by decide +kernel) ⟨Nat.le_of_ble_eq_true rfl, Nat.le_of_ble_eq_true rfl⟩) rfl hl.1 rfl (Nat.le_of_ble_eq_true rfl) dX11_sky_3 (fun H locs hW => ?_)
  refine lv_if_eq (pc := 6) (tgt := 19) hx hb dX11_sky_6 (by decide) (fun c7 => ?_) (fun c7 => ?_)
  · have hf := zt c7 hf
    refine lv_iconst (pc := 19) (v := (-1)) hx hb dX11_sky_19 (by decide) ?_
    exact zend_i (w := wX cA h) fin hf hW dX11_sky_20
  · have hf := zf c7 hf
    refine lv_iload_n (pc := 9) hx hb dX11_sky_9 rfl (lv_at hl 2 rfl) ?_
    refine lv_iconst (pc := 10) (v := 0) hx hb dX11_sky_10 (by decide) ?_
    refine lv_bipush (pc := 11) (v := 99) hx hb dX11_sky_11 (by decide) ?_
    obtain ⟨r8, e10, hf⟩ := zU_e hf
    refine zcSi (As := [.int p2, .int 0, .int 99]) (pc := 13) C0 hW (kX11_isWithin l H.size p2 0 99 r8 e10) (va_cwS 3 hts (zgS gaX mX_225 mX_226 mX_151 mX_227) rfl rfl rfl (by decide +kernel) ⟨Nat.le_of_ble_eq_true rfl, Nat.le_of_ble_eq_true rfl⟩) rfl hl.1 rfl (Nat.le_of_ble_eq_true rfl) dX11_sky_13 (fun H locs hW => ?_)
    refine lv_if_ne (pc := 16) (tgt := 21) hx hb dX11_sky_16 (by decide) (fun c11 => ?_) (fun c11 => ?_)
    · have hf := zf c11 hf
      refine lv_iload_n (pc := 21) hx hb dX11_sky_21 rfl (lv_at hl 1 rfl) ?_
      refine lv_if_ne (pc := 22) (tgt := 35) hx hb dX11_sky_22 (by decide) (fun c12 => ?_) (fun c12 => ?_)
      · have hf := zf c12 hf
        refine lv_aload_n (pc := 35) hx hb dX11_sky_35 rfl (lv_at hl 0 rfl) ?_
        refine xg_1202 (pc := 36) C0 hu_11 hW mX_542 dX11_sky_36 ?_
        refine xg_507 (pc := 39) C0 hu_4 hW mX_627 dX11_sky_39 ?_
        exact w42 p1 p2 (S.1 507) S H locs hW ls (lv_sub hl [0, 1, 2] rfl) hf
      · have hf := zt c12 hf
        refine lv_aload_n (pc := 25) hx hb dX11_sky_25 rfl (lv_at hl 0 rfl) ?_
        refine xg_1202 (pc := 26) C0 hu_11 hW mX_542 dX11_sky_26 ?_
        refine xg_506 (pc := 29) C0 hu_4 hW mX_626 dX11_sky_29 ?_
        refine lv_goto (pc := 32) (tgt := 42) hx hb dX11_sky_32 (by decide) ?_
        exact w42 p1 p2 (S.1 506) S H locs hW ls (lv_sub hl [0, 1, 2] rfl) hf
    · have hf := zt c11 hf
      refine lv_iconst (pc := 19) (v := (-1)) hx hb dX11_sky_19 (by decide) ?_
      exact zend_i (w := wX cA h) fin hf hW dX11_sky_20

def fX11_rise (N : Nat) (p1 : Int32) (p2 : Int32) (S : zSt) : Option (Int32 × zSt) :=
  zB (fX4_has p1 S) fun r1 S2 => if r1 = 0 then (some ((-2000000000), S2)) else (zU (fX11_isHour p2) fun r5 => if r5 = 0 then (some ((-2000000000), S2)) else (zB (fX4_riseBy N p1 p2 S2) fun r9 S10 => some (r9, S10)))
abbrev wX11_rise : List Cond := Cond.code yX11_rise cX11_rise 3 (some .int) :: waX
abbrev rmX11_rise : Room := { frames := 5, cells := 0, slots := 0, locals := 115 }
set_option maxHeartbeats 4000000 in
set_option maxRecDepth 100000 in
theorem kX11_rise (l : Launch) (D : va_G) (cA : Nat → ClassId) (h tt : Nat → Nat) (sz : Nat) (N : Nat)  (p1 : Int32) (p2 : Int32) (S : zSt) (r : Int32) (S1 : zSt) (hf : fX11_rise N p1 p2 S = some (r, S1)) : zMi l yX11_rise wX11_rise rmX11_rise (zEX tt) D (tX cA) (hsX h) [.ref (h 11), .int p1, .int p2] (wX cA h S) (wX cA h S1) sz r := by
  refine zEn_i (cc := cX11_rise) (maxL := 3) (own := RX11) (by decide) rfl rfl (hmX cA h S) (Nat.le_of_ble_eq_true rfl) ?_
  intro p e s m args below meth c Q H locs C0 hW fin ls hl
  have hl : lv_has ls 3 [(0, .ref (h 11)), (1, .int p1), (2, .int p2)] := hl
  have hx := C0.1
  have hb := C0.2.1
  have hown := C0.2.2.2.1
  have hts := C0.2.2.2.2
  unfold fX11_rise at hf
  refine lv_aload_n (pc := 0) hx hb dX11_rise_0 rfl (lv_at hl 0 rfl) ?_
  refine xg_1202 (pc := 1) C0 hu_11 hW mX_542 dX11_rise_1 ?_
  refine lv_iload_n (pc := 4) hx hb dX11_rise_4 rfl (lv_at hl 1 rfl) ?_
  obtain ⟨r1, S2, e3, hf⟩ := zB_e hf
  refine zcVi (zEX_ok tt) (As := [.int p1]) (pc := 5) C0 hW (kX4_has l D cA h tt H.size p1 S r1 S2 e3) (cwV 1 hts (zgV gaX mX_624 mX_235 mX_236 mX_231 mX_237) rfl rfl rfl (by decide +kernel) ⟨Nat.le_of_ble_eq_true rfl, Nat.le_of_ble_eq_true rfl⟩) (va_recv hW.1 hW.2.1 (ci := 4) (q0 := 4) rfl rfl) rfl hl.1 rfl (Nat.le_of_ble_eq_true rfl) dX11_rise_5 (fun H locs hW => ?_)
  refine lv_if_eq (pc := 8) (tgt := 30) hx hb dX11_rise_8 (by decide) (fun c4 => ?_) (fun c4 => ?_)
  · have hf := zt c4 hf
    refine lv_ldc (pc := 30) (v := (-2000000000)) hx hb hown (hts _ mX_629) dX11_rise_30 ?_
    exact zend_i (w := wX cA h) fin hf hW dX11_rise_32
  · have hf := zf c4 hf
    refine lv_iload_n (pc := 11) hx hb dX11_rise_11 rfl (lv_at hl 2 rfl) ?_
    obtain ⟨r5, e7, hf⟩ := zU_e hf
    refine zcSi (As := [.int p2]) (pc := 12) C0 hW (kX11_isHour l H.size p2 r5 e7) (va_cwS 1 hts (zgS gaX mX_605 mX_401 mX_151 mX_402) rfl rfl rfl (by decide +kernel) ⟨Nat.le_of_ble_eq_true rfl, Nat.le_of_ble_eq_true rfl⟩) rfl hl.1 rfl (Nat.le_of_ble_eq_true rfl) dX11_rise_12 (fun H locs hW => ?_)
    refine lv_if_eq (pc := 15) (tgt := 30) hx hb dX11_rise_15 (by decide) (fun c8 => ?_) (fun c8 => ?_)
    · have hf := zt c8 hf
      refine lv_ldc (pc := 30) (v := (-2000000000)) hx hb hown (hts _ mX_629) dX11_rise_30 ?_
      exact zend_i (w := wX cA h) fin hf hW dX11_rise_32
    · have hf := zf c8 hf
      refine lv_aload_n (pc := 18) hx hb dX11_rise_18 rfl (lv_at hl 0 rfl) ?_
      refine xg_1202 (pc := 19) C0 hu_11 hW mX_542 dX11_rise_19 ?_
      refine lv_iload_n (pc := 22) hx hb dX11_rise_22 rfl (lv_at hl 1 rfl) ?_
      refine lv_iload_n (pc := 23) hx hb dX11_rise_23 rfl (lv_at hl 2 rfl) ?_
      obtain ⟨r9, S10, e11, hf⟩ := zB_e hf
      refine zcVi (zEX_ok tt) (As := [.int p1, .int p2]) (pc := 24) C0 hW (kX4_riseBy l D cA h tt H.size N p1 p2 S2 r9 S10 e11) (cwV 2 hts (zgV gaX mX_630 mX_240 mX_241 mX_231 mX_242) rfl rfl rfl (by decide +kernel) ⟨Nat.le_of_ble_eq_true rfl, Nat.le_of_ble_eq_true rfl⟩) (va_recv hW.1 hW.2.1 (ci := 4) (q0 := 4) rfl rfl) rfl hl.1 rfl (Nat.le_of_ble_eq_true rfl) dX11_rise_24 (fun H locs hW => ?_)
      refine lv_goto (pc := 27) (tgt := 32) hx hb dX11_rise_27 (by decide) ?_
      exact zend_i (w := wX cA h) fin hf hW dX11_rise_32

def fX11_person (p1 : Int32) (p2 : Int32) (S : zSt) : Option (Int32 × zSt) :=
  zB (fX7_mayBe p1 p2 S) fun r1 S2 => if r1 = 0 then (some ((-1), S2)) else (zB (fX7_isFull S2) fun r5 S6 => if r5 = 0 then (zB (fX7_add p1 p2 S6) fun r9 S10 => some (r9, S10)) else (some ((-3), S6)))
abbrev wX11_person : List Cond := Cond.code yX11_person cX11_person 3 (some .int) :: waX
abbrev rmX11_person : Room := { frames := 2, cells := 0, slots := 0, locals := 45 }
set_option maxHeartbeats 4000000 in
set_option maxRecDepth 100000 in
theorem kX11_person (l : Launch) (D : va_G) (cA : Nat → ClassId) (h tt : Nat → Nat) (sz : Nat)  (p1 : Int32) (p2 : Int32) (S : zSt) (r : Int32) (S1 : zSt) (hf : fX11_person p1 p2 S = some (r, S1)) : zMi l yX11_person wX11_person rmX11_person (zEX tt) D (tX cA) (hsX h) [.ref (h 11), .int p1, .int p2] (wX cA h S) (wX cA h S1) sz r := by
  refine zEn_i (cc := cX11_person) (maxL := 3) (own := RX11) (by decide) rfl rfl (hmX cA h S) (Nat.le_of_ble_eq_true rfl) ?_
  intro p e s m args below meth c Q H locs C0 hW fin ls hl
  have hl : lv_has ls 3 [(0, .ref (h 11)), (1, .int p1), (2, .int p2)] := hl
  have hx := C0.1
  have hb := C0.2.1
  have hown := C0.2.2.2.1
  have hts := C0.2.2.2.2
  unfold fX11_person at hf
  refine lv_iload_n (pc := 0) hx hb dX11_person_0 rfl (lv_at hl 1 rfl) ?_
  refine lv_iload_n (pc := 1) hx hb dX11_person_1 rfl (lv_at hl 2 rfl) ?_
  obtain ⟨r1, S2, e3, hf⟩ := zB_e hf
  refine zcWi (zEX_ok tt) (As := [.int p1, .int p2]) (pc := 2) C0 hW (kX7_mayBe l D cA h tt H.size p1 p2 S r1 S2 e3) (va_cwS 2 hts (zgS gaX mX_632 mX_633 mX_72 mX_444) rfl rfl rfl (by decide +kernel) ⟨Nat.le_of_ble_eq_true rfl, Nat.le_of_ble_eq_true rfl⟩) rfl hl.1 rfl (Nat.le_of_ble_eq_true rfl) dX11_person_2 (fun H locs hW => ?_)
  refine lv_if_ne (pc := 5) (tgt := 10) hx hb dX11_person_5 (by decide) (fun c4 => ?_) (fun c4 => ?_)
  · have hf := zf c4 hf
    refine lv_aload_n (pc := 10) hx hb dX11_person_10 rfl (lv_at hl 0 rfl) ?_
    refine xg_1203 (pc := 11) C0 hu_11 hW mX_545 dX11_person_11 ?_
    obtain ⟨r5, S6, e7, hf⟩ := zB_e hf
    refine zcVi (zEX_ok tt) (As := []) (pc := 14) C0 hW (kX7_isFull l D cA h tt H.size S2 r5 S6 e7) (cwV 0 hts (zgV gaX mX_634 mX_635 mX_636 mX_72 mX_445) rfl rfl rfl (by decide +kernel) ⟨Nat.le_of_ble_eq_true rfl, Nat.le_of_ble_eq_true rfl⟩) (va_recv hW.1 hW.2.1 (ci := 7) (q0 := 7) rfl rfl) rfl hl.1 rfl (Nat.le_of_ble_eq_true rfl) dX11_person_14 (fun H locs hW => ?_)
    refine lv_if_eq (pc := 17) (tgt := 25) hx hb dX11_person_17 (by decide) (fun c8 => ?_) (fun c8 => ?_)
    · have hf := zt c8 hf
      refine lv_aload_n (pc := 25) hx hb dX11_person_25 rfl (lv_at hl 0 rfl) ?_
      refine xg_1203 (pc := 26) C0 hu_11 hW mX_545 dX11_person_26 ?_
      refine lv_iload_n (pc := 29) hx hb dX11_person_29 rfl (lv_at hl 1 rfl) ?_
      refine lv_iload_n (pc := 30) hx hb dX11_person_30 rfl (lv_at hl 2 rfl) ?_
      obtain ⟨r9, S10, e11, hf⟩ := zB_e hf
      refine zcVi (zEX_ok tt) (As := [.int p1, .int p2]) (pc := 31) C0 hW (kX7_add l D cA h tt H.size p1 p2 S6 r9 S10 e11) (cwV 2 hts (zgV gaX mX_637 mX_638 mX_639 mX_72 mX_446) rfl rfl rfl (by decide +kernel) ⟨Nat.le_of_ble_eq_true rfl, Nat.le_of_ble_eq_true rfl⟩) (va_recv hW.1 hW.2.1 (ci := 7) (q0 := 7) rfl rfl) rfl hl.1 rfl (Nat.le_of_ble_eq_true rfl) dX11_person_31 (fun H locs hW => ?_)
      exact zend_i (w := wX cA h) fin hf hW dX11_person_34
    · have hf := zf c8 hf
      refine lv_bipush (pc := 20) (v := (-3)) hx hb dX11_person_20 (by decide) ?_
      refine lv_goto (pc := 22) (tgt := 34) hx hb dX11_person_22 (by decide) ?_
      exact zend_i (w := wX cA h) fin hf hW dX11_person_34
  · have hf := zt c4 hf
    refine lv_iconst (pc := 8) (v := (-1)) hx hb dX11_person_8 (by decide) ?_
    exact zend_i (w := wX cA h) fin hf hW dX11_person_9

def fX11_set_b46  (v1 : Int32) (v3 : Int32) (v4 : Int32) (u0 : Int32) (u1 : Int32) (u2 : Int32) (S : zSt) : Option (Int32 × zSt) :=
  zU (fX11_isWithin u0 u1 u2) fun r1 => if r1 = 0 then (some ((-1), S)) else (zU (fX7_slot v1) fun r5 => zB (fX1_make ((216 + r5) + v4) v3 S) fun r8 S9 => some (r8, S9))
def fX11_set_b31  (v1 : Int32) (v2 : Int32) (v3 : Int32) (u0 : Int32) (S : zSt) : Option (Int32 × zSt) :=
  if v2 = 0 then (fX11_set_b46 v1 v3 u0 v3 0 9 S) else (fX11_set_b46 v1 v3 u0 v3 0 40 S)
def fX11_set (p1 : Int32) (p2 : Int32) (p3 : Int32) (S : zSt) : Option (Int32 × zSt) :=
  zB (fX7_has p1 S) fun r12 S13 => if r12 = 0 then (some ((-1), S13)) else (zU (fX11_isWithin p2 0 1) fun r16 => if r16 = 0 then (some ((-1), S13)) else (if p2 = 0 then (fX11_set_b31 p1 p2 p3 2 S13) else (fX11_set_b31 p1 p2 p3 3 S13)))
abbrev wX11_set : List Cond := Cond.code yX11_set cX11_set 5 (some .int) :: waX
abbrev rmX11_set : Room := { frames := 4, cells := 0, slots := 0, locals := 126 }
set_option maxHeartbeats 4000000 in
set_option maxRecDepth 100000 in
theorem kX11_set (l : Launch) (D : va_G) (cA : Nat → ClassId) (h tt : Nat → Nat) (sz : Nat)  (p1 : Int32) (p2 : Int32) (p3 : Int32) (S : zSt) (r : Int32) (S1 : zSt) (hf : fX11_set p1 p2 p3 S = some (r, S1)) : zMi l yX11_set wX11_set rmX11_set (zEX tt) D (tX cA) (hsX h) [.ref (h 11), .int p1, .int p2, .int p3] (wX cA h S) (wX cA h S1) sz r := by
  refine zEn_i (cc := cX11_set) (maxL := 5) (own := RX11) (by decide) rfl rfl (hmX cA h S) (Nat.le_of_ble_eq_true rfl) ?_
  intro p e s m args below meth c Q H locs C0 hW fin ls hl
  have hl : lv_has ls 5 [(0, .ref (h 11)), (1, .int p1), (2, .int p2), (3, .int p3)] := hl
  have hx := C0.1
  have hb := C0.2.1
  have hown := C0.2.2.2.1
  have hts := C0.2.2.2.2
  have w46 : ∀ (v1 : Int32) (v3 : Int32) (v4 : Int32) (u0 : Int32) (u1 : Int32) (u2 : Int32) (S : zSt) (H : Heap) (locs : List Loc), zW (zEX tt) D (tX cA) (wX cA h S) (aW (hsX h) s.heap.size) s H locs → ∀ ls : Array Slot, lv_has ls 5 [(0, .ref (h 11)), (1, .int v1), (3, .int v3), (4, .int v4)] → fX11_set_b46 v1 v3 v4 u0 u1 u2 S = some (r, S1) → W p l e rmX11_set s m args below meth c H locs 0 0 Q (F0 m 46 ls [.int u2, .int u1, .int u0]) := by
    intro v1 v3 v4 u0 u1 u2 S H locs hW ls hl hf
    unfold fX11_set_b46 at hf
    obtain ⟨r1, e3, hf⟩ := zU_e hf
    refine zcSi (As := [.int u0, .int u1, .int u2]) (pc := 46) C0 hW (kX11_isWithin l H.size u0 u1 u2 r1 e3) (va_cwS 3 hts (zgS gaX mX_225 mX_226 mX_151 mX_227) rfl rfl rfl (by decide +kernel) ⟨Nat.le_of_ble_eq_true rfl, Nat.le_of_ble_eq_true rfl⟩) rfl hl.1 rfl (Nat.le_of_ble_eq_true rfl) dX11_set_46 (fun H locs hW => ?_)
    refine lv_if_ne (pc := 49) (tgt := 54) hx hb dX11_set_49 (by decide) (fun c4 => ?_) (fun c4 => ?_)
    · have hf := zf c4 hf
      refine lv_aload_n (pc := 54) hx hb dX11_set_54 rfl (lv_at hl 0 rfl) ?_
      refine xg_1206 (pc := 55) C0 hu_11 hW mX_554 dX11_set_55 ?_
      refine lv_sipush (pc := 58) (v := 216) hx hb dX11_set_58 (by decide) ?_
      refine lv_iload_n (pc := 61) hx hb dX11_set_61 rfl (lv_at hl 1 rfl) ?_
      obtain ⟨r5, e7, hf⟩ := zU_e hf
      refine zcSi (As := [.int v1]) (pc := 62) C0 hW (kX7_slot l H.size v1 r5 e7) (va_cwS 1 hts (zgS gaX mX_642 mX_448 mX_72 mX_443) rfl rfl rfl (by decide +kernel) ⟨Nat.le_of_ble_eq_true rfl, Nat.le_of_ble_eq_true rfl⟩) rfl hl.1 rfl (Nat.le_of_ble_eq_true rfl) dX11_set_62 (fun H locs hW => ?_)
      refine lv_iadd (pc := 65) hx hb dX11_set_65 ?_
      refine lv_iload (pc := 66) hx hb dX11_set_66 (lv_at hl 3 rfl) ?_
      refine lv_iadd (pc := 68) hx hb dX11_set_68 ?_
      refine lv_iload_n (pc := 69) hx hb dX11_set_69 rfl (lv_at hl 2 rfl) ?_
      obtain ⟨r8, S9, e10, hf⟩ := zB_e hf
      refine zcVi (zEX_ok tt) (As := [.int ((216 + r5) + v4), .int v3]) (pc := 70) C0 hW (kX1_make l D cA h tt H.size ((216 + r5) + v4) v3 S r8 S9 e10) (cwV 2 hts (zgV gaX mX_613 mX_614 mX_615 mX_78 mX_62) rfl rfl rfl (by decide +kernel) ⟨Nat.le_of_ble_eq_true rfl, Nat.le_of_ble_eq_true rfl⟩) (va_recv hW.1 hW.2.1 (ci := 1) (q0 := 1) rfl rfl) rfl hl.1 rfl (Nat.le_of_ble_eq_true rfl) dX11_set_70 (fun H locs hW => ?_)
      exact zend_i (w := wX cA h) fin hf hW dX11_set_73
    · have hf := zt c4 hf
      refine lv_iconst (pc := 52) (v := (-1)) hx hb dX11_set_52 (by decide) ?_
      exact zend_i (w := wX cA h) fin hf hW dX11_set_53
  have w31 : ∀ (v1 : Int32) (v2 : Int32) (v3 : Int32) (u0 : Int32) (S : zSt) (H : Heap) (locs : List Loc), zW (zEX tt) D (tX cA) (wX cA h S) (aW (hsX h) s.heap.size) s H locs → ∀ ls : Array Slot, lv_has ls 5 [(0, .ref (h 11)), (1, .int v1), (2, .int v2), (3, .int v3)] → fX11_set_b31 v1 v2 v3 u0 S = some (r, S1) → W p l e rmX11_set s m args below meth c H locs 0 0 Q (F0 m 31 ls [.int u0]) := by
    intro v1 v2 v3 u0 S H locs hW ls hl hf
    unfold fX11_set_b31 at hf
    refine lv_istore (pc := 31) (lv' := [(4, .int u0), (0, .ref (h 11)), (1, .int v1), (2, .int v2), (3, .int v3)]) hx hb dX11_set_31 hl (by decide) rfl (fun ls hl => ?_)
    refine lv_iload_n (pc := 33) hx hb dX11_set_33 rfl (lv_at hl 4 rfl) ?_
    refine lv_iconst (pc := 34) (v := 0) hx hb dX11_set_34 (by decide) ?_
    refine lv_iload_n (pc := 35) hx hb dX11_set_35 rfl (lv_at hl 3 rfl) ?_
    refine lv_if_ne (pc := 36) (tgt := 44) hx hb dX11_set_36 (by decide) (fun c11 => ?_) (fun c11 => ?_)
    · have hf := zf c11 hf
      refine lv_bipush (pc := 44) (v := 40) hx hb dX11_set_44 (by decide) ?_
      exact w46 v1 v3 u0 v3 0 40 S H locs hW ls (lv_sub hl [1, 2, 4, 0] rfl) hf
    · have hf := zt c11 hf
      refine lv_bipush (pc := 39) (v := 9) hx hb dX11_set_39 (by decide) ?_
      refine lv_goto (pc := 41) (tgt := 46) hx hb dX11_set_41 (by decide) ?_
      exact w46 v1 v3 u0 v3 0 9 S H locs hW ls (lv_sub hl [1, 2, 4, 0] rfl) hf
  unfold fX11_set at hf
  refine lv_aload_n (pc := 0) hx hb dX11_set_0 rfl (lv_at hl 0 rfl) ?_
  refine xg_1203 (pc := 1) C0 hu_11 hW mX_545 dX11_set_1 ?_
  refine lv_iload_n (pc := 4) hx hb dX11_set_4 rfl (lv_at hl 1 rfl) ?_
  obtain ⟨r12, S13, e14, hf⟩ := zB_e hf
  refine zcVi (zEX_ok tt) (As := [.int p1]) (pc := 5) C0 hW (kX7_has l D cA h tt H.size p1 S r12 S13 e14) (cwV 1 hts (zgV gaX mX_641 mX_423 mX_424 mX_72 mX_425) rfl rfl rfl (by decide +kernel) ⟨Nat.le_of_ble_eq_true rfl, Nat.le_of_ble_eq_true rfl⟩) (va_recv hW.1 hW.2.1 (ci := 7) (q0 := 7) rfl rfl) rfl hl.1 rfl (Nat.le_of_ble_eq_true rfl) dX11_set_5 (fun H locs hW => ?_)
  refine lv_if_eq (pc := 8) (tgt := 20) hx hb dX11_set_8 (by decide) (fun c15 => ?_) (fun c15 => ?_)
  · have hf := zt c15 hf
    refine lv_iconst (pc := 20) (v := (-1)) hx hb dX11_set_20 (by decide) ?_
    exact zend_i (w := wX cA h) fin hf hW dX11_set_21
  · have hf := zf c15 hf
    refine lv_iload_n (pc := 11) hx hb dX11_set_11 rfl (lv_at hl 2 rfl) ?_
    refine lv_iconst (pc := 12) (v := 0) hx hb dX11_set_12 (by decide) ?_
    refine lv_iconst (pc := 13) (v := 1) hx hb dX11_set_13 (by decide) ?_
    obtain ⟨r16, e18, hf⟩ := zU_e hf
    refine zcSi (As := [.int p2, .int 0, .int 1]) (pc := 14) C0 hW (kX11_isWithin l H.size p2 0 1 r16 e18) (va_cwS 3 hts (zgS gaX mX_225 mX_226 mX_151 mX_227) rfl rfl rfl (by decide +kernel) ⟨Nat.le_of_ble_eq_true rfl, Nat.le_of_ble_eq_true rfl⟩) rfl hl.1 rfl (Nat.le_of_ble_eq_true rfl) dX11_set_14 (fun H locs hW => ?_)
    refine lv_if_ne (pc := 17) (tgt := 22) hx hb dX11_set_17 (by decide) (fun c19 => ?_) (fun c19 => ?_)
    · have hf := zf c19 hf
      refine lv_iload_n (pc := 22) hx hb dX11_set_22 rfl (lv_at hl 2 rfl) ?_
      refine lv_if_ne (pc := 23) (tgt := 30) hx hb dX11_set_23 (by decide) (fun c20 => ?_) (fun c20 => ?_)
      · have hf := zf c20 hf
        refine lv_iconst (pc := 30) (v := 3) hx hb dX11_set_30 (by decide) ?_
        exact w31 p1 p2 p3 3 S13 H locs hW ls (lv_sub hl [0, 1, 2, 3] rfl) hf
      · have hf := zt c20 hf
        refine lv_iconst (pc := 26) (v := 2) hx hb dX11_set_26 (by decide) ?_
        refine lv_goto (pc := 27) (tgt := 31) hx hb dX11_set_27 (by decide) ?_
        exact w31 p1 p2 p3 2 S13 H locs hW ls (lv_sub hl [0, 1, 2, 3] rfl) hf
    · have hf := zt c19 hf
      refine lv_iconst (pc := 20) (v := (-1)) hx hb dX11_set_20 (by decide) ?_
      exact zend_i (w := wX cA h) fin hf hW dX11_set_21

def fX11_of (p1 : Int32) (p2 : Int32) (S : zSt) : Option (Int32 × zSt) :=
  zB (fX7_has p1 S) fun r1 S2 => if r1 = 0 then (some ((-1), S2)) else (zU (fX11_isWithin p2 0 3) fun r5 => if r5 = 0 then (some ((-1), S2)) else (zB (fX7_trait p1 p2 S2) fun r9 S10 => some (r9, S10)))
abbrev wX11_of : List Cond := Cond.code yX11_of cX11_of 3 (some .int) :: waX
abbrev rmX11_of : Room := { frames := 1, cells := 0, slots := 0, locals := 23 }
set_option maxHeartbeats 4000000 in
set_option maxRecDepth 100000 in
theorem kX11_of (l : Launch) (D : va_G) (cA : Nat → ClassId) (h tt : Nat → Nat) (sz : Nat)  (p1 : Int32) (p2 : Int32) (S : zSt) (r : Int32) (S1 : zSt) (hf : fX11_of p1 p2 S = some (r, S1)) : zMi l yX11_of wX11_of rmX11_of (zEX tt) D (tX cA) (hsX h) [.ref (h 11), .int p1, .int p2] (wX cA h S) (wX cA h S1) sz r := by
  refine zEn_i (cc := cX11_of) (maxL := 3) (own := RX11) (by decide) rfl rfl (hmX cA h S) (Nat.le_of_ble_eq_true rfl) ?_
  intro p e s m args below meth c Q H locs C0 hW fin ls hl
  have hl : lv_has ls 3 [(0, .ref (h 11)), (1, .int p1), (2, .int p2)] := hl
  have hx := C0.1
  have hb := C0.2.1
  have hown := C0.2.2.2.1
  have hts := C0.2.2.2.2
  unfold fX11_of at hf
  refine lv_aload_n (pc := 0) hx hb dX11_of_0 rfl (lv_at hl 0 rfl) ?_
  refine xg_1203 (pc := 1) C0 hu_11 hW mX_545 dX11_of_1 ?_
  refine lv_iload_n (pc := 4) hx hb dX11_of_4 rfl (lv_at hl 1 rfl) ?_
  obtain ⟨r1, S2, e3, hf⟩ := zB_e hf
  refine zcVi (zEX_ok tt) (As := [.int p1]) (pc := 5) C0 hW (kX7_has l D cA h tt H.size p1 S r1 S2 e3) (cwV 1 hts (zgV gaX mX_641 mX_423 mX_424 mX_72 mX_425) rfl rfl rfl (by decide +kernel) ⟨Nat.le_of_ble_eq_true rfl, Nat.le_of_ble_eq_true rfl⟩) (va_recv hW.1 hW.2.1 (ci := 7) (q0 := 7) rfl rfl) rfl hl.1 rfl (Nat.le_of_ble_eq_true rfl) dX11_of_5 (fun H locs hW => ?_)
  refine lv_if_eq (pc := 8) (tgt := 32) hx hb dX11_of_8 (by decide) (fun c4 => ?_) (fun c4 => ?_)
  · have hf := zt c4 hf
    refine lv_iconst (pc := 32) (v := (-1)) hx hb dX11_of_32 (by decide) ?_
    exact zend_i (w := wX cA h) fin hf hW dX11_of_33
  · have hf := zf c4 hf
    refine lv_iload_n (pc := 11) hx hb dX11_of_11 rfl (lv_at hl 2 rfl) ?_
    refine lv_iconst (pc := 12) (v := 0) hx hb dX11_of_12 (by decide) ?_
    refine lv_iconst (pc := 13) (v := 3) hx hb dX11_of_13 (by decide) ?_
    obtain ⟨r5, e7, hf⟩ := zU_e hf
    refine zcSi (As := [.int p2, .int 0, .int 3]) (pc := 14) C0 hW (kX11_isWithin l H.size p2 0 3 r5 e7) (va_cwS 3 hts (zgS gaX mX_225 mX_226 mX_151 mX_227) rfl rfl rfl (by decide +kernel) ⟨Nat.le_of_ble_eq_true rfl, Nat.le_of_ble_eq_true rfl⟩) rfl hl.1 rfl (Nat.le_of_ble_eq_true rfl) dX11_of_14 (fun H locs hW => ?_)
    refine lv_if_eq (pc := 17) (tgt := 32) hx hb dX11_of_17 (by decide) (fun c8 => ?_) (fun c8 => ?_)
    · have hf := zt c8 hf
      refine lv_iconst (pc := 32) (v := (-1)) hx hb dX11_of_32 (by decide) ?_
      exact zend_i (w := wX cA h) fin hf hW dX11_of_33
    · have hf := zf c8 hf
      refine lv_aload_n (pc := 20) hx hb dX11_of_20 rfl (lv_at hl 0 rfl) ?_
      refine xg_1203 (pc := 21) C0 hu_11 hW mX_545 dX11_of_21 ?_
      refine lv_iload_n (pc := 24) hx hb dX11_of_24 rfl (lv_at hl 1 rfl) ?_
      refine lv_iload_n (pc := 25) hx hb dX11_of_25 rfl (lv_at hl 2 rfl) ?_
      obtain ⟨r9, S10, e11, hf⟩ := zB_e hf
      refine zcVi (zEX_ok tt) (As := [.int p1, .int p2]) (pc := 26) C0 hW (kX7_trait l D cA h tt H.size p1 p2 S2 r9 S10 e11) (cwV 2 hts (zgV gaX mX_644 mX_147 mX_148 mX_72 mX_149) rfl rfl rfl (by decide +kernel) ⟨Nat.le_of_ble_eq_true rfl, Nat.le_of_ble_eq_true rfl⟩) (va_recv hW.1 hW.2.1 (ci := 7) (q0 := 7) rfl rfl) rfl hl.1 rfl (Nat.le_of_ble_eq_true rfl) dX11_of_26 (fun H locs hW => ?_)
      refine lv_goto (pc := 29) (tgt := 33) hx hb dX11_of_29 (by decide) ?_
      exact zend_i (w := wX cA h) fin hf hW dX11_of_33

def fX11_isPlaceAndHour (p1 : Int32) (S : zSt) : Option (Int32 × zSt) :=
  if p1 < 0 then (some (0, S)) else (zB (fX8_has (p1 / 100) S) fun r2 S3 => if r2 = 0 then (some (0, S3)) else (zU (fX11_isHour (p1 - p1 / 100 * 100)) fun r6 => if r6 = 0 then (some (0, S3)) else (some (1, S3))))
abbrev wX11_isPlaceAndHour : List Cond := Cond.code yX11_isPlaceAndHour cX11_isPlaceAndHour 2 (some .boolean) :: waX
abbrev rmX11_isPlaceAndHour : Room := { frames := 2, cells := 0, slots := 0, locals := 42 }
set_option maxHeartbeats 4000000 in
set_option maxRecDepth 100000 in
theorem kX11_isPlaceAndHour (l : Launch) (D : va_G) (cA : Nat → ClassId) (h tt : Nat → Nat) (sz : Nat)  (p1 : Int32) (S : zSt) (r : Int32) (S1 : zSt) (hf : fX11_isPlaceAndHour p1 S = some (r, S1)) : zMi l yX11_isPlaceAndHour wX11_isPlaceAndHour rmX11_isPlaceAndHour (zEX tt) D (tX cA) (hsX h) [.ref (h 11), .int p1] (wX cA h S) (wX cA h S1) sz r := by
  refine zEn_z (cc := cX11_isPlaceAndHour) (maxL := 2) (own := RX11) (by decide) rfl rfl (hmX cA h S) (Nat.le_of_ble_eq_true rfl) ?_
  intro p e s m args below meth c Q H locs C0 hW fin ls hl
  have hl : lv_has ls 2 [(0, .ref (h 11)), (1, .int p1)] := hl
  have hx := C0.1
  have hb := C0.2.1
  have hown := C0.2.2.2.1
  have hts := C0.2.2.2.2
  unfold fX11_isPlaceAndHour at hf
  refine lv_iload_n (pc := 0) hx hb dX11_isPlaceAndHour_0 rfl (lv_at hl 1 rfl) ?_
  refine lv_if_lt (pc := 1) (tgt := 32) hx hb dX11_isPlaceAndHour_1 (by decide) (fun c1 => ?_) (fun c1 => ?_)
  · have hf := zt c1 hf
    refine lv_iconst (pc := 32) (v := 0) hx hb dX11_isPlaceAndHour_32 (by decide) ?_
    exact zend_z (w := wX cA h) fin hf (by decide) hW dX11_isPlaceAndHour_33
  · have hf := zf c1 hf
    refine lv_aload_n (pc := 4) hx hb dX11_isPlaceAndHour_4 rfl (lv_at hl 0 rfl) ?_
    refine xg_1201 (pc := 5) C0 hu_11 hW mX_539 dX11_isPlaceAndHour_5 ?_
    refine lv_iload_n (pc := 8) hx hb dX11_isPlaceAndHour_8 rfl (lv_at hl 1 rfl) ?_
    refine lv_bipush (pc := 9) (v := 100) hx hb dX11_isPlaceAndHour_9 (by decide) ?_
    refine lv_idiv (pc := 11) hx hb dX11_isPlaceAndHour_11 (by decide) ?_
    obtain ⟨r2, S3, e4, hf⟩ := zB_e hf
    refine zcVi (zEX_ok tt) (As := [.int (p1 / 100)]) (pc := 12) C0 hW (kX8_has l D cA h tt H.size (p1 / 100) S r2 S3 e4) (cwV 1 hts (zgV gaX mX_596 mX_181 mX_182 mX_66 mX_183) rfl rfl rfl (by decide +kernel) ⟨Nat.le_of_ble_eq_true rfl, Nat.le_of_ble_eq_true rfl⟩) (va_recv hW.1 hW.2.1 (ci := 8) (q0 := 8) rfl rfl) rfl hl.1 rfl (Nat.le_of_ble_eq_true rfl) dX11_isPlaceAndHour_12 (fun H locs hW => ?_)
    refine lv_if_eq (pc := 15) (tgt := 32) hx hb dX11_isPlaceAndHour_15 (by decide) (fun c5 => ?_) (fun c5 => ?_)
    · have hf := zt c5 hf
      refine lv_iconst (pc := 32) (v := 0) hx hb dX11_isPlaceAndHour_32 (by decide) ?_
      exact zend_z (w := wX cA h) fin hf (by decide) hW dX11_isPlaceAndHour_33
    · have hf := zf c5 hf
      refine lv_iload_n (pc := 18) hx hb dX11_isPlaceAndHour_18 rfl (lv_at hl 1 rfl) ?_
      refine lv_bipush (pc := 19) (v := 100) hx hb dX11_isPlaceAndHour_19 (by decide) ?_
      refine lv_irem (pc := 21) hx hb dX11_isPlaceAndHour_21 (by decide) ?_
      obtain ⟨r6, e8, hf⟩ := zU_e hf
      refine zcSi (As := [.int (p1 - p1 / 100 * 100)]) (pc := 22) C0 hW (kX11_isHour l H.size (p1 - p1 / 100 * 100) r6 e8) (va_cwS 1 hts (zgS gaX mX_605 mX_401 mX_151 mX_402) rfl rfl rfl (by decide +kernel) ⟨Nat.le_of_ble_eq_true rfl, Nat.le_of_ble_eq_true rfl⟩) rfl hl.1 rfl (Nat.le_of_ble_eq_true rfl) dX11_isPlaceAndHour_22 (fun H locs hW => ?_)
      refine lv_if_eq (pc := 25) (tgt := 32) hx hb dX11_isPlaceAndHour_25 (by decide) (fun c9 => ?_) (fun c9 => ?_)
      · have hf := zt c9 hf
        refine lv_iconst (pc := 32) (v := 0) hx hb dX11_isPlaceAndHour_32 (by decide) ?_
        exact zend_z (w := wX cA h) fin hf (by decide) hW dX11_isPlaceAndHour_33
      · have hf := zf c9 hf
        refine lv_iconst (pc := 28) (v := 1) hx hb dX11_isPlaceAndHour_28 (by decide) ?_
        refine lv_goto (pc := 29) (tgt := 33) hx hb dX11_isPlaceAndHour_29 (by decide) ?_
        exact zend_z (w := wX cA h) fin hf (by decide) hW dX11_isPlaceAndHour_33

def fX11_isRankAndCell (p1 : Int32) (p2 : Int32) (S : zSt) : Option (Int32 × zSt) :=
  if p1 < 0 then (some (0, S)) else (if (S.1 705) ≤ (p1 / 100) then (some (0, S)) else (zB (fX8_hasCell p2 (p1 - p1 / 100 * 100) S) fun r3 S4 => if r3 = 0 then (some (0, S4)) else (some (1, S4))))
abbrev wX11_isRankAndCell : List Cond := Cond.code yX11_isRankAndCell cX11_isRankAndCell 3 (some .boolean) :: waX
abbrev rmX11_isRankAndCell : Room := { frames := 2, cells := 0, slots := 0, locals := 43 }
set_option maxHeartbeats 4000000 in
set_option maxRecDepth 100000 in
theorem kX11_isRankAndCell (l : Launch) (D : va_G) (cA : Nat → ClassId) (h tt : Nat → Nat) (sz : Nat)  (p1 : Int32) (p2 : Int32) (S : zSt) (r : Int32) (S1 : zSt) (hf : fX11_isRankAndCell p1 p2 S = some (r, S1)) : zMi l yX11_isRankAndCell wX11_isRankAndCell rmX11_isRankAndCell (zEX tt) D (tX cA) (hsX h) [.ref (h 11), .int p1, .int p2] (wX cA h S) (wX cA h S1) sz r := by
  refine zEn_z (cc := cX11_isRankAndCell) (maxL := 3) (own := RX11) (by decide) rfl rfl (hmX cA h S) (Nat.le_of_ble_eq_true rfl) ?_
  intro p e s m args below meth c Q H locs C0 hW fin ls hl
  have hl : lv_has ls 3 [(0, .ref (h 11)), (1, .int p1), (2, .int p2)] := hl
  have hx := C0.1
  have hb := C0.2.1
  have hown := C0.2.2.2.1
  have hts := C0.2.2.2.2
  unfold fX11_isRankAndCell at hf
  refine lv_iload_n (pc := 0) hx hb dX11_isRankAndCell_0 rfl (lv_at hl 1 rfl) ?_
  refine lv_if_lt (pc := 1) (tgt := 37) hx hb dX11_isRankAndCell_1 (by decide) (fun c1 => ?_) (fun c1 => ?_)
  · have hf := zt c1 hf
    refine lv_iconst (pc := 37) (v := 0) hx hb dX11_isRankAndCell_37 (by decide) ?_
    exact zend_z (w := wX cA h) fin hf (by decide) hW dX11_isRankAndCell_38
  · have hf := zf c1 hf
    refine lv_iload_n (pc := 4) hx hb dX11_isRankAndCell_4 rfl (lv_at hl 1 rfl) ?_
    refine lv_bipush (pc := 5) (v := 100) hx hb dX11_isRankAndCell_5 (by decide) ?_
    refine lv_idiv (pc := 7) hx hb dX11_isRankAndCell_7 (by decide) ?_
    refine lv_aload_n (pc := 8) hx hb dX11_isRankAndCell_8 rfl (lv_at hl 0 rfl) ?_
    refine xg_1204 (pc := 9) C0 hu_11 hW mX_548 dX11_isRankAndCell_9 ?_
    refine xg_705 (pc := 12) C0 hu_6 hW mX_661 dX11_isRankAndCell_12 ?_
    refine lv_icmp_ge (pc := 15) (tgt := 37) hx hb dX11_isRankAndCell_15 (by decide) (fun c2 => ?_) (fun c2 => ?_)
    · have hf := zt c2 hf
      refine lv_iconst (pc := 37) (v := 0) hx hb dX11_isRankAndCell_37 (by decide) ?_
      exact zend_z (w := wX cA h) fin hf (by decide) hW dX11_isRankAndCell_38
    · have hf := zf c2 hf
      refine lv_aload_n (pc := 18) hx hb dX11_isRankAndCell_18 rfl (lv_at hl 0 rfl) ?_
      refine xg_1201 (pc := 19) C0 hu_11 hW mX_539 dX11_isRankAndCell_19 ?_
      refine lv_iload_n (pc := 22) hx hb dX11_isRankAndCell_22 rfl (lv_at hl 2 rfl) ?_
      refine lv_iload_n (pc := 23) hx hb dX11_isRankAndCell_23 rfl (lv_at hl 1 rfl) ?_
      refine lv_bipush (pc := 24) (v := 100) hx hb dX11_isRankAndCell_24 (by decide) ?_
      refine lv_irem (pc := 26) hx hb dX11_isRankAndCell_26 (by decide) ?_
      obtain ⟨r3, S4, e5, hf⟩ := zB_e hf
      refine zcVi (zEX_ok tt) (As := [.int p2, .int (p1 - p1 / 100 * 100)]) (pc := 27) C0 hW (kX8_hasCell l D cA h tt H.size p2 (p1 - p1 / 100 * 100) S r3 S4 e5) (cwV 2 hts (zgV gaX mX_601 mX_602 mX_603 mX_66 mX_456) rfl rfl rfl (by decide +kernel) ⟨Nat.le_of_ble_eq_true rfl, Nat.le_of_ble_eq_true rfl⟩) (va_recv hW.1 hW.2.1 (ci := 8) (q0 := 8) rfl rfl) rfl hl.1 rfl (Nat.le_of_ble_eq_true rfl) dX11_isRankAndCell_27 (fun H locs hW => ?_)
      refine lv_if_eq (pc := 30) (tgt := 37) hx hb dX11_isRankAndCell_30 (by decide) (fun c6 => ?_) (fun c6 => ?_)
      · have hf := zt c6 hf
        refine lv_iconst (pc := 37) (v := 0) hx hb dX11_isRankAndCell_37 (by decide) ?_
        exact zend_z (w := wX cA h) fin hf (by decide) hW dX11_isRankAndCell_38
      · have hf := zf c6 hf
        refine lv_iconst (pc := 33) (v := 1) hx hb dX11_isRankAndCell_33 (by decide) ?_
        refine lv_goto (pc := 34) (tgt := 38) hx hb dX11_isRankAndCell_34 (by decide) ?_
        exact zend_z (w := wX cA h) fin hf (by decide) hW dX11_isRankAndCell_38

def fX11_takesGroup (N : Nat) (p1 : Int32) (S : zSt) : Option (Int32 × zSt) :=
  if p1 < 0 then (some (0, S)) else (if 4 ≤ (p1 - p1 / 10 * 10) then (some (0, S)) else (zB (fX6_take N (p1 / 10) (p1 - p1 / 10 * 10) S) fun r3 S4 => if r3 = 0 then (some (0, S4)) else (some (1, S4))))
abbrev wX11_takesGroup : List Cond := Cond.code yX11_takesGroup cX11_takesGroup 2 (some .boolean) :: waX
abbrev rmX11_takesGroup : Room := { frames := 3, cells := 0, slots := 0, locals := 73 }
set_option maxHeartbeats 4000000 in
set_option maxRecDepth 100000 in
theorem kX11_takesGroup (l : Launch) (D : va_G) (cA : Nat → ClassId) (h tt : Nat → Nat) (sz : Nat) (N : Nat)  (p1 : Int32) (S : zSt) (r : Int32) (S1 : zSt) (hf : fX11_takesGroup N p1 S = some (r, S1)) : zMi l yX11_takesGroup wX11_takesGroup rmX11_takesGroup (zEX tt) D (tX cA) (hsX h) [.ref (h 11), .int p1] (wX cA h S) (wX cA h S1) sz r := by
  refine zEn_z (cc := cX11_takesGroup) (maxL := 2) (own := RX11) (by decide) rfl rfl (hmX cA h S) (Nat.le_of_ble_eq_true rfl) ?_
  intro p e s m args below meth c Q H locs C0 hW fin ls hl
  have hl : lv_has ls 2 [(0, .ref (h 11)), (1, .int p1)] := hl
  have hx := C0.1
  have hb := C0.2.1
  have hown := C0.2.2.2.1
  have hts := C0.2.2.2.2
  unfold fX11_takesGroup at hf
  refine lv_iload_n (pc := 0) hx hb dX11_takesGroup_0 rfl (lv_at hl 1 rfl) ?_
  refine lv_if_lt (pc := 1) (tgt := 34) hx hb dX11_takesGroup_1 (by decide) (fun c1 => ?_) (fun c1 => ?_)
  · have hf := zt c1 hf
    refine lv_iconst (pc := 34) (v := 0) hx hb dX11_takesGroup_34 (by decide) ?_
    exact zend_z (w := wX cA h) fin hf (by decide) hW dX11_takesGroup_35
  · have hf := zf c1 hf
    refine lv_iload_n (pc := 4) hx hb dX11_takesGroup_4 rfl (lv_at hl 1 rfl) ?_
    refine lv_bipush (pc := 5) (v := 10) hx hb dX11_takesGroup_5 (by decide) ?_
    refine lv_irem (pc := 7) hx hb dX11_takesGroup_7 (by decide) ?_
    refine lv_iconst (pc := 8) (v := 4) hx hb dX11_takesGroup_8 (by decide) ?_
    refine lv_icmp_ge (pc := 9) (tgt := 34) hx hb dX11_takesGroup_9 (by decide) (fun c2 => ?_) (fun c2 => ?_)
    · have hf := zt c2 hf
      refine lv_iconst (pc := 34) (v := 0) hx hb dX11_takesGroup_34 (by decide) ?_
      exact zend_z (w := wX cA h) fin hf (by decide) hW dX11_takesGroup_35
    · have hf := zf c2 hf
      refine lv_aload_n (pc := 12) hx hb dX11_takesGroup_12 rfl (lv_at hl 0 rfl) ?_
      refine xg_1204 (pc := 13) C0 hu_11 hW mX_548 dX11_takesGroup_13 ?_
      refine lv_iload_n (pc := 16) hx hb dX11_takesGroup_16 rfl (lv_at hl 1 rfl) ?_
      refine lv_bipush (pc := 17) (v := 10) hx hb dX11_takesGroup_17 (by decide) ?_
      refine lv_idiv (pc := 19) hx hb dX11_takesGroup_19 (by decide) ?_
      refine lv_iload_n (pc := 20) hx hb dX11_takesGroup_20 rfl (lv_at hl 1 rfl) ?_
      refine lv_bipush (pc := 21) (v := 10) hx hb dX11_takesGroup_21 (by decide) ?_
      refine lv_irem (pc := 23) hx hb dX11_takesGroup_23 (by decide) ?_
      obtain ⟨r3, S4, e5, hf⟩ := zB_e hf
      refine zcVi (zEX_ok tt) (As := [.int (p1 / 10), .int (p1 - p1 / 10 * 10)]) (pc := 24) C0 hW (kX6_take l D cA h tt H.size N (p1 / 10) (p1 - p1 / 10 * 10) S r3 S4 e5) (cwV 2 hts (zgV gaX mX_654 mX_655 mX_656 mX_133 mX_420) rfl rfl rfl (by decide +kernel) ⟨Nat.le_of_ble_eq_true rfl, Nat.le_of_ble_eq_true rfl⟩) (va_recv hW.1 hW.2.1 (ci := 6) (q0 := 6) rfl rfl) rfl hl.1 rfl (Nat.le_of_ble_eq_true rfl) dX11_takesGroup_24 (fun H locs hW => ?_)
      refine lv_if_eq (pc := 27) (tgt := 34) hx hb dX11_takesGroup_27 (by decide) (fun c6 => ?_) (fun c6 => ?_)
      · have hf := zt c6 hf
        refine lv_iconst (pc := 34) (v := 0) hx hb dX11_takesGroup_34 (by decide) ?_
        exact zend_z (w := wX cA h) fin hf (by decide) hW dX11_takesGroup_35
      · have hf := zf c6 hf
        refine lv_iconst (pc := 30) (v := 1) hx hb dX11_takesGroup_30 (by decide) ?_
        refine lv_goto (pc := 31) (tgt := 35) hx hb dX11_takesGroup_31 (by decide) ?_
        exact zend_z (w := wX cA h) fin hf (by decide) hW dX11_takesGroup_35

def fX11_margin (N : Nat) (p1 : Int32) (p2 : Int32) (p3 : Int32) (p4 : Int32) (S : zSt) : Option (Int32 × zSt) :=
  zB (fX11_isPlaceAndHour p1 S) fun r1 S2 => if r1 = 0 then (some ((-2000000000), S2)) else (zB (fX11_takesGroup N p2 S2) fun r5 S6 => if r5 = 0 then (some ((-2000000000), S6)) else (zB (fX11_isRankAndCell p3 (p1 / 100) S6) fun r9 S10 => if r9 = 0 then (some ((-2000000000), S10)) else (zU (fX11_isWithin p4 0 2) fun r13 => if r13 = 0 then (some ((-2000000000), S10)) else (zB (fX4_riseInForce N (p1 - p1 / 100 * 100) S10) fun r17 S18 => zU (fX2_enter N (p1 / 100) (p3 - p3 / 100 * 100) r17 0 S18) fun S21 => if p4 = 0 then (zB (fX6_marginOf (p3 / 100) S21) fun r31 S32 => some (r31, S32)) else (if p4 = 1 then (zB (fX6_holdOf (p3 / 100) S21) fun r28 S29 => some (r28, S29)) else (zB (fX6_pushOn (p3 / 100) S21) fun r25 S26 => some (r25, S26)))))))
abbrev wX11_margin : List Cond := Cond.code yX11_margin cX11_margin 6 (some .int) :: waX
abbrev rmX11_margin : Room := { frames := 6, cells := 0, slots := 0, locals := 136 }
set_option maxHeartbeats 4000000 in
set_option maxRecDepth 100000 in
theorem kX11_margin (l : Launch) (D : va_G) (cA : Nat → ClassId) (h tt : Nat → Nat) (sz : Nat) (N : Nat)  (p1 : Int32) (p2 : Int32) (p3 : Int32) (p4 : Int32) (S : zSt) (r : Int32) (S1 : zSt) (hf : fX11_margin N p1 p2 p3 p4 S = some (r, S1)) : zMi l yX11_margin wX11_margin rmX11_margin (zEX tt) D (tX cA) (hsX h) [.ref (h 11), .int p1, .int p2, .int p3, .int p4] (wX cA h S) (wX cA h S1) sz r := by
  refine zEn_i (cc := cX11_margin) (maxL := 6) (own := RX11) (by decide) rfl rfl (hmX cA h S) (Nat.le_of_ble_eq_true rfl) ?_
  intro p e s m args below meth c Q H locs C0 hW fin ls hl
  have hl : lv_has ls 6 [(0, .ref (h 11)), (1, .int p1), (2, .int p2), (3, .int p3), (4, .int p4)] := hl
  have hx := C0.1
  have hb := C0.2.1
  have hown := C0.2.2.2.1
  have hts := C0.2.2.2.2
  unfold fX11_margin at hf
  refine lv_aload_n (pc := 0) hx hb dX11_margin_0 rfl (lv_at hl 0 rfl) ?_
  refine lv_iload_n (pc := 1) hx hb dX11_margin_1 rfl (lv_at hl 1 rfl) ?_
  obtain ⟨r1, S2, e3, hf⟩ := zB_e hf
  refine zcVi (zEX_ok tt) (As := [.int p1]) (pc := 2) C0 hW (kX11_isPlaceAndHour l D cA h tt H.size p1 S r1 S2 e3) (cwV 1 hts (zgV gaX mX_646 mX_647 mX_648 mX_151 mX_649) rfl rfl rfl (by decide +kernel) ⟨Nat.le_of_ble_eq_true rfl, Nat.le_of_ble_eq_true rfl⟩) (va_recv hW.1 hW.2.1 (ci := 11) (q0 := 11) rfl rfl) rfl hl.1 rfl (Nat.le_of_ble_eq_true rfl) dX11_margin_2 (fun H locs hW => ?_)
  refine lv_if_eq (pc := 5) (tgt := 38) hx hb dX11_margin_5 (by decide) (fun c4 => ?_) (fun c4 => ?_)
  · have hf := zt c4 hf
    refine lv_ldc (pc := 38) (v := (-2000000000)) hx hb hown (hts _ mX_629) dX11_margin_38 ?_
    exact zend_i (w := wX cA h) fin hf hW dX11_margin_40
  · have hf := zf c4 hf
    refine lv_aload_n (pc := 8) hx hb dX11_margin_8 rfl (lv_at hl 0 rfl) ?_
    refine lv_iload_n (pc := 9) hx hb dX11_margin_9 rfl (lv_at hl 2 rfl) ?_
    obtain ⟨r5, S6, e7, hf⟩ := zB_e hf
    refine zcVi (zEX_ok tt) (As := [.int p2]) (pc := 10) C0 hW (kX11_takesGroup l D cA h tt H.size N p2 S2 r5 S6 e7) (cwV 1 hts (zgV gaX mX_650 mX_651 mX_652 mX_151 mX_653) rfl rfl rfl (by decide +kernel) ⟨Nat.le_of_ble_eq_true rfl, Nat.le_of_ble_eq_true rfl⟩) (va_recv hW.1 hW.2.1 (ci := 11) (q0 := 11) rfl rfl) rfl hl.1 rfl (Nat.le_of_ble_eq_true rfl) dX11_margin_10 (fun H locs hW => ?_)
    refine lv_if_eq (pc := 13) (tgt := 38) hx hb dX11_margin_13 (by decide) (fun c8 => ?_) (fun c8 => ?_)
    · have hf := zt c8 hf
      refine lv_ldc (pc := 38) (v := (-2000000000)) hx hb hown (hts _ mX_629) dX11_margin_38 ?_
      exact zend_i (w := wX cA h) fin hf hW dX11_margin_40
    · have hf := zf c8 hf
      refine lv_aload_n (pc := 16) hx hb dX11_margin_16 rfl (lv_at hl 0 rfl) ?_
      refine lv_iload_n (pc := 17) hx hb dX11_margin_17 rfl (lv_at hl 3 rfl) ?_
      refine lv_iload_n (pc := 18) hx hb dX11_margin_18 rfl (lv_at hl 1 rfl) ?_
      refine lv_bipush (pc := 19) (v := 100) hx hb dX11_margin_19 (by decide) ?_
      refine lv_idiv (pc := 21) hx hb dX11_margin_21 (by decide) ?_
      obtain ⟨r9, S10, e11, hf⟩ := zB_e hf
      refine zcVi (zEX_ok tt) (As := [.int p3, .int (p1 / 100)]) (pc := 22) C0 hW (kX11_isRankAndCell l D cA h tt H.size p3 (p1 / 100) S6 r9 S10 e11) (cwV 2 hts (zgV gaX mX_657 mX_658 mX_659 mX_151 mX_660) rfl rfl rfl (by decide +kernel) ⟨Nat.le_of_ble_eq_true rfl, Nat.le_of_ble_eq_true rfl⟩) (va_recv hW.1 hW.2.1 (ci := 11) (q0 := 11) rfl rfl) rfl hl.1 rfl (Nat.le_of_ble_eq_true rfl) dX11_margin_22 (fun H locs hW => ?_)
      refine lv_if_eq (pc := 25) (tgt := 38) hx hb dX11_margin_25 (by decide) (fun c12 => ?_) (fun c12 => ?_)
      · have hf := zt c12 hf
        refine lv_ldc (pc := 38) (v := (-2000000000)) hx hb hown (hts _ mX_629) dX11_margin_38 ?_
        exact zend_i (w := wX cA h) fin hf hW dX11_margin_40
      · have hf := zf c12 hf
        refine lv_iload (pc := 28) hx hb dX11_margin_28 (lv_at hl 4 rfl) ?_
        refine lv_iconst (pc := 30) (v := 0) hx hb dX11_margin_30 (by decide) ?_
        refine lv_iconst (pc := 31) (v := 2) hx hb dX11_margin_31 (by decide) ?_
        obtain ⟨r13, e15, hf⟩ := zU_e hf
        refine zcSi (As := [.int p4, .int 0, .int 2]) (pc := 32) C0 hW (kX11_isWithin l H.size p4 0 2 r13 e15) (va_cwS 3 hts (zgS gaX mX_225 mX_226 mX_151 mX_227) rfl rfl rfl (by decide +kernel) ⟨Nat.le_of_ble_eq_true rfl, Nat.le_of_ble_eq_true rfl⟩) rfl hl.1 rfl (Nat.le_of_ble_eq_true rfl) dX11_margin_32 (fun H locs hW => ?_)
        refine lv_if_ne (pc := 35) (tgt := 41) hx hb dX11_margin_35 (by decide) (fun c16 => ?_) (fun c16 => ?_)
        · have hf := zf c16 hf
          refine lv_aload_n (pc := 41) hx hb dX11_margin_41 rfl (lv_at hl 0 rfl) ?_
          refine xg_1205 (pc := 42) C0 hu_11 hW mX_551 dX11_margin_42 ?_
          refine lv_iload_n (pc := 45) hx hb dX11_margin_45 rfl (lv_at hl 1 rfl) ?_
          refine lv_bipush (pc := 46) (v := 100) hx hb dX11_margin_46 (by decide) ?_
          refine lv_idiv (pc := 48) hx hb dX11_margin_48 (by decide) ?_
          refine lv_iload_n (pc := 49) hx hb dX11_margin_49 rfl (lv_at hl 3 rfl) ?_
          refine lv_bipush (pc := 50) (v := 100) hx hb dX11_margin_50 (by decide) ?_
          refine lv_irem (pc := 52) hx hb dX11_margin_52 (by decide) ?_
          refine lv_aload_n (pc := 53) hx hb dX11_margin_53 rfl (lv_at hl 0 rfl) ?_
          refine xg_1202 (pc := 54) C0 hu_11 hW mX_542 dX11_margin_54 ?_
          refine lv_iload_n (pc := 57) hx hb dX11_margin_57 rfl (lv_at hl 1 rfl) ?_
          refine lv_bipush (pc := 58) (v := 100) hx hb dX11_margin_58 (by decide) ?_
          refine lv_irem (pc := 60) hx hb dX11_margin_60 (by decide) ?_
          obtain ⟨r17, S18, e19, hf⟩ := zB_e hf
          refine zcVi (zEX_ok tt) (As := [.int (p1 - p1 / 100 * 100)]) (pc := 61) C0 hW (kX4_riseInForce l D cA h tt H.size N (p1 - p1 / 100 * 100) S10 r17 S18 e19) (cwV 1 hts (zgV gaX mX_606 mX_229 mX_230 mX_231 mX_232) rfl rfl rfl (by decide +kernel) ⟨Nat.le_of_ble_eq_true rfl, Nat.le_of_ble_eq_true rfl⟩) (va_recv hW.1 hW.2.1 (ci := 4) (q0 := 4) rfl rfl) rfl hl.1 rfl (Nat.le_of_ble_eq_true rfl) dX11_margin_61 (fun H locs hW => ?_)
          refine lv_iconst (pc := 64) (v := 0) hx hb dX11_margin_64 (by decide) ?_
          obtain ⟨S21, e22, hf⟩ := zU_e hf
          refine zcVv (zEX_ok tt) (As := [.int (p1 / 100), .int (p3 - p3 / 100 * 100), .int r17, .int 0]) (pc := 65) C0 hW (kX2_enter l D cA h tt H.size N (p1 / 100) (p3 - p3 / 100 * 100) r17 0 S18 S21 e22) (cwV 4 hts (zgV gaX mX_662 mX_165 mX_166 mX_167 mX_109) rfl rfl rfl (by decide +kernel) ⟨Nat.le_of_ble_eq_true rfl, Nat.le_of_ble_eq_true rfl⟩) (va_recv hW.1 hW.2.1 (ci := 2) (q0 := 2) rfl rfl) rfl hl.1 rfl (Nat.le_of_ble_eq_true rfl) dX11_margin_65 (fun H locs hW => ?_)
          refine lv_iload_n (pc := 68) hx hb dX11_margin_68 rfl (lv_at hl 3 rfl) ?_
          refine lv_bipush (pc := 69) (v := 100) hx hb dX11_margin_69 (by decide) ?_
          refine lv_idiv (pc := 71) hx hb dX11_margin_71 (by decide) ?_
          refine lv_istore (pc := 72) (lv' := [(5, .int (p3 / 100)), (0, .ref (h 11)), (1, .int p1), (2, .int p2), (3, .int p3), (4, .int p4)]) hx hb dX11_margin_72 hl (by decide) rfl (fun ls hl => ?_)
          refine lv_iload (pc := 74) hx hb dX11_margin_74 (lv_at hl 5 rfl) ?_
          refine lv_if_ne (pc := 76) (tgt := 91) hx hb dX11_margin_76 (by decide) (fun c23 => ?_) (fun c23 => ?_)
          · have hf := zf c23 hf
            refine lv_iload (pc := 91) hx hb dX11_margin_91 (lv_at hl 5 rfl) ?_
            refine lv_iconst (pc := 93) (v := 1) hx hb dX11_margin_93 (by decide) ?_
            refine lv_icmp_ne (pc := 94) (tgt := 109) hx hb dX11_margin_94 (by decide) (fun c24 => ?_) (fun c24 => ?_)
            · have hf := zf c24 hf
              refine lv_aload_n (pc := 109) hx hb dX11_margin_109 rfl (lv_at hl 1 rfl) ?_
              refine xg_1204 (pc := 110) C0 hu_11 hW mX_548 dX11_margin_110 ?_
              refine lv_iload (pc := 113) hx hb dX11_margin_113 (lv_at hl 0 rfl) ?_
              obtain ⟨r25, S26, e27, hf⟩ := zB_e hf
              refine zcVi (zEX_ok tt) (As := [.int (p3 / 100)]) (pc := 115) C0 hW (kX6_pushOn l D cA h tt H.size (p3 / 100) S21 r25 S26 e27) (cwV 1 hts (zgV gaX mX_669 mX_670 mX_671 mX_133 mX_434) rfl rfl rfl (by decide +kernel) ⟨Nat.le_of_ble_eq_true rfl, Nat.le_of_ble_eq_true rfl⟩) (va_recv hW.1 hW.2.1 (ci := 6) (q0 := 6) rfl rfl) rfl hl.1 rfl (Nat.le_of_ble_eq_true rfl) dX11_margin_115 (fun H locs hW => ?_)
              exact zend_i (w := wX cA h) fin hf hW dX11_margin_118
            · have hf := zt c24 hf
              refine lv_aload_n (pc := 97) hx hb dX11_margin_97 rfl (lv_at hl 1 rfl) ?_
              refine xg_1204 (pc := 98) C0 hu_11 hW mX_548 dX11_margin_98 ?_
              refine lv_iload (pc := 101) hx hb dX11_margin_101 (lv_at hl 0 rfl) ?_
              obtain ⟨r28, S29, e30, hf⟩ := zB_e hf
              refine zcVi (zEX_ok tt) (As := [.int (p3 / 100)]) (pc := 103) C0 hW (kX6_holdOf l D cA h tt H.size (p3 / 100) S21 r28 S29 e30) (cwV 1 hts (zgV gaX mX_666 mX_667 mX_668 mX_133 mX_429) rfl rfl rfl (by decide +kernel) ⟨Nat.le_of_ble_eq_true rfl, Nat.le_of_ble_eq_true rfl⟩) (va_recv hW.1 hW.2.1 (ci := 6) (q0 := 6) rfl rfl) rfl hl.1 rfl (Nat.le_of_ble_eq_true rfl) dX11_margin_103 (fun H locs hW => ?_)
              refine lv_goto (pc := 106) (tgt := 118) hx hb dX11_margin_106 (by decide) ?_
              exact zend_i (w := wX cA h) fin hf hW dX11_margin_118
          · have hf := zt c23 hf
            refine lv_aload_n (pc := 79) hx hb dX11_margin_79 rfl (lv_at hl 1 rfl) ?_
            refine xg_1204 (pc := 80) C0 hu_11 hW mX_548 dX11_margin_80 ?_
            refine lv_iload (pc := 83) hx hb dX11_margin_83 (lv_at hl 0 rfl) ?_
            obtain ⟨r31, S32, e33, hf⟩ := zB_e hf
            refine zcVi (zEX_ok tt) (As := [.int (p3 / 100)]) (pc := 85) C0 hW (kX6_marginOf l D cA h tt H.size (p3 / 100) S21 r31 S32 e33) (cwV 1 hts (zgV gaX mX_663 mX_664 mX_665 mX_133 mX_435) rfl rfl rfl (by decide +kernel) ⟨Nat.le_of_ble_eq_true rfl, Nat.le_of_ble_eq_true rfl⟩) (va_recv hW.1 hW.2.1 (ci := 6) (q0 := 6) rfl rfl) rfl hl.1 rfl (Nat.le_of_ble_eq_true rfl) dX11_margin_85 (fun H locs hW => ?_)
            refine lv_goto (pc := 88) (tgt := 118) hx hb dX11_margin_88 (by decide) ?_
            exact zend_i (w := wX cA h) fin hf hW dX11_margin_118
        · have hf := zt c16 hf
          refine lv_ldc (pc := 38) (v := (-2000000000)) hx hb hown (hts _ mX_629) dX11_margin_38 ?_
          exact zend_i (w := wX cA h) fin hf hW dX11_margin_40

def fX11_over_b101 (N : Nat) (u0 : Int32) (S : zSt) : Option (Int32 × zSt) :=
  zU (fX11_asNumber u0) fun r1 => some (r1, S)
def fX11_over (N : Nat) (p1 : Int32) (p2 : Int32) (p3 : Int32) (S : zSt) : Option (Int32 × zSt) :=
  zB (fX11_isPlaceAndHour p1 S) fun r4 S5 => if r4 = 0 then (some ((-2000000000), S5)) else (zB (fX11_takesGroup N p2 S5) fun r8 S9 => if r8 = 0 then (some ((-2000000000), S9)) else (zU (fX11_isWithin p3 0 2) fun r12 => if r12 = 0 then (some ((-2000000000), S9)) else (zB (fX4_riseInForce N (p1 - p1 / 100 * 100) S9) fun r16 S17 => if p3 = 1 then (zB (fX2_leastMargin N (p1 / 100) r16 (-2000000000) S17) fun r25 S26 => some (r25, S26)) else (zB (fX2_firstFall N (p1 / 100) r16 S17) fun r20 S21 => if p3 = 2 then (some (r20, S21)) else (if r20 = (-2) then (fX11_over_b101 N 1 S21) else (fX11_over_b101 N 0 S21))))))
abbrev wX11_over : List Cond := Cond.code yX11_over cX11_over 7 (some .int) :: waX
abbrev rmX11_over : Room := { frames := 6, cells := 0, slots := 0, locals := 136 }
set_option maxHeartbeats 4000000 in
set_option maxRecDepth 100000 in
theorem kX11_over (l : Launch) (D : va_G) (cA : Nat → ClassId) (h tt : Nat → Nat) (sz : Nat) (N : Nat)  (p1 : Int32) (p2 : Int32) (p3 : Int32) (S : zSt) (r : Int32) (S1 : zSt) (hf : fX11_over N p1 p2 p3 S = some (r, S1)) : zMi l yX11_over wX11_over rmX11_over (zEX tt) D (tX cA) (hsX h) [.ref (h 11), .int p1, .int p2, .int p3] (wX cA h S) (wX cA h S1) sz r := by
  refine zEn_i (cc := cX11_over) (maxL := 7) (own := RX11) (by decide) rfl rfl (hmX cA h S) (Nat.le_of_ble_eq_true rfl) ?_
  intro p e s m args below meth c Q H locs C0 hW fin ls hl
  have hl : lv_has ls 7 [(0, .ref (h 11)), (1, .int p1), (2, .int p2), (3, .int p3)] := hl
  have hx := C0.1
  have hb := C0.2.1
  have hown := C0.2.2.2.1
  have hts := C0.2.2.2.2
  have w101 : ∀ (u0 : Int32) (S : zSt) (H : Heap) (locs : List Loc), zW (zEX tt) D (tX cA) (wX cA h S) (aW (hsX h) s.heap.size) s H locs → ∀ ls : Array Slot, lv_has ls 7 [] → fX11_over_b101 N u0 S = some (r, S1) → W p l e rmX11_over s m args below meth c H locs 0 0 Q (F0 m 101 ls [.int u0]) := by
    intro u0 S H locs hW ls hl hf
    unfold fX11_over_b101 at hf
    obtain ⟨r1, e3, hf⟩ := zU_e hf
    refine zcSi (As := [.int u0]) (pc := 101) C0 hW (kX11_asNumber l H.size u0 r1 e3) (va_cwS 1 hts (zgS gaX mX_675 mX_267 mX_151 mX_268) rfl rfl rfl (by decide +kernel) ⟨Nat.le_of_ble_eq_true rfl, Nat.le_of_ble_eq_true rfl⟩) rfl hl.1 rfl (Nat.le_of_ble_eq_true rfl) dX11_over_101 (fun H locs hW => ?_)
    exact zend_i (w := wX cA h) fin hf hW dX11_over_104
  unfold fX11_over at hf
  refine lv_aload_n (pc := 0) hx hb dX11_over_0 rfl (lv_at hl 0 rfl) ?_
  refine lv_iload_n (pc := 1) hx hb dX11_over_1 rfl (lv_at hl 1 rfl) ?_
  obtain ⟨r4, S5, e6, hf⟩ := zB_e hf
  refine zcVi (zEX_ok tt) (As := [.int p1]) (pc := 2) C0 hW (kX11_isPlaceAndHour l D cA h tt H.size p1 S r4 S5 e6) (cwV 1 hts (zgV gaX mX_646 mX_647 mX_648 mX_151 mX_649) rfl rfl rfl (by decide +kernel) ⟨Nat.le_of_ble_eq_true rfl, Nat.le_of_ble_eq_true rfl⟩) (va_recv hW.1 hW.2.1 (ci := 11) (q0 := 11) rfl rfl) rfl hl.1 rfl (Nat.le_of_ble_eq_true rfl) dX11_over_2 (fun H locs hW => ?_)
  refine lv_if_eq (pc := 5) (tgt := 25) hx hb dX11_over_5 (by decide) (fun c7 => ?_) (fun c7 => ?_)
  · have hf := zt c7 hf
    refine lv_ldc (pc := 25) (v := (-2000000000)) hx hb hown (hts _ mX_629) dX11_over_25 ?_
    exact zend_i (w := wX cA h) fin hf hW dX11_over_27
  · have hf := zf c7 hf
    refine lv_aload_n (pc := 8) hx hb dX11_over_8 rfl (lv_at hl 0 rfl) ?_
    refine lv_iload_n (pc := 9) hx hb dX11_over_9 rfl (lv_at hl 2 rfl) ?_
    obtain ⟨r8, S9, e10, hf⟩ := zB_e hf
    refine zcVi (zEX_ok tt) (As := [.int p2]) (pc := 10) C0 hW (kX11_takesGroup l D cA h tt H.size N p2 S5 r8 S9 e10) (cwV 1 hts (zgV gaX mX_650 mX_651 mX_652 mX_151 mX_653) rfl rfl rfl (by decide +kernel) ⟨Nat.le_of_ble_eq_true rfl, Nat.le_of_ble_eq_true rfl⟩) (va_recv hW.1 hW.2.1 (ci := 11) (q0 := 11) rfl rfl) rfl hl.1 rfl (Nat.le_of_ble_eq_true rfl) dX11_over_10 (fun H locs hW => ?_)
    refine lv_if_eq (pc := 13) (tgt := 25) hx hb dX11_over_13 (by decide) (fun c11 => ?_) (fun c11 => ?_)
    · have hf := zt c11 hf
      refine lv_ldc (pc := 25) (v := (-2000000000)) hx hb hown (hts _ mX_629) dX11_over_25 ?_
      exact zend_i (w := wX cA h) fin hf hW dX11_over_27
    · have hf := zf c11 hf
      refine lv_iload_n (pc := 16) hx hb dX11_over_16 rfl (lv_at hl 3 rfl) ?_
      refine lv_iconst (pc := 17) (v := 0) hx hb dX11_over_17 (by decide) ?_
      refine lv_iconst (pc := 18) (v := 2) hx hb dX11_over_18 (by decide) ?_
      obtain ⟨r12, e14, hf⟩ := zU_e hf
      refine zcSi (As := [.int p3, .int 0, .int 2]) (pc := 19) C0 hW (kX11_isWithin l H.size p3 0 2 r12 e14) (va_cwS 3 hts (zgS gaX mX_225 mX_226 mX_151 mX_227) rfl rfl rfl (by decide +kernel) ⟨Nat.le_of_ble_eq_true rfl, Nat.le_of_ble_eq_true rfl⟩) rfl hl.1 rfl (Nat.le_of_ble_eq_true rfl) dX11_over_19 (fun H locs hW => ?_)
      refine lv_if_ne (pc := 22) (tgt := 28) hx hb dX11_over_22 (by decide) (fun c15 => ?_) (fun c15 => ?_)
      · have hf := zf c15 hf
        refine lv_iload_n (pc := 28) hx hb dX11_over_28 rfl (lv_at hl 1 rfl) ?_
        refine lv_bipush (pc := 29) (v := 100) hx hb dX11_over_29 (by decide) ?_
        refine lv_idiv (pc := 31) hx hb dX11_over_31 (by decide) ?_
        refine lv_istore (pc := 32) (lv' := [(4, .int (p1 / 100)), (0, .ref (h 11)), (1, .int p1), (2, .int p2), (3, .int p3)]) hx hb dX11_over_32 hl (by decide) rfl (fun ls hl => ?_)
        refine lv_aload_n (pc := 34) hx hb dX11_over_34 rfl (lv_at hl 1 rfl) ?_
        refine xg_1202 (pc := 35) C0 hu_11 hW mX_542 dX11_over_35 ?_
        refine lv_iload_n (pc := 38) hx hb dX11_over_38 rfl (lv_at hl 2 rfl) ?_
        refine lv_bipush (pc := 39) (v := 100) hx hb dX11_over_39 (by decide) ?_
        refine lv_irem (pc := 41) hx hb dX11_over_41 (by decide) ?_
        obtain ⟨r16, S17, e18, hf⟩ := zB_e hf
        refine zcVi (zEX_ok tt) (As := [.int (p1 - p1 / 100 * 100)]) (pc := 42) C0 hW (kX4_riseInForce l D cA h tt H.size N (p1 - p1 / 100 * 100) S9 r16 S17 e18) (cwV 1 hts (zgV gaX mX_606 mX_229 mX_230 mX_231 mX_232) rfl rfl rfl (by decide +kernel) ⟨Nat.le_of_ble_eq_true rfl, Nat.le_of_ble_eq_true rfl⟩) (va_recv hW.1 hW.2.1 (ci := 4) (q0 := 4) rfl rfl) rfl hl.1 rfl (Nat.le_of_ble_eq_true rfl) dX11_over_42 (fun H locs hW => ?_)
        refine lv_istore (pc := 45) (lv' := [(5, .int r16), (4, .int (p1 / 100)), (0, .ref (h 11)), (1, .int p1), (2, .int p2), (3, .int p3)]) hx hb dX11_over_45 hl (by decide) rfl (fun ls hl => ?_)
        refine lv_iload_n (pc := 47) hx hb dX11_over_47 rfl (lv_at hl 5 rfl) ?_
        refine lv_iconst (pc := 48) (v := 1) hx hb dX11_over_48 (by decide) ?_
        refine lv_icmp_ne (pc := 49) (tgt := 66) hx hb dX11_over_49 (by decide) (fun c19 => ?_) (fun c19 => ?_)
        · have hf := zf c19 hf
          refine lv_aload_n (pc := 66) hx hb dX11_over_66 rfl (lv_at hl 2 rfl) ?_
          refine xg_1205 (pc := 67) C0 hu_11 hW mX_551 dX11_over_67 ?_
          refine lv_iload (pc := 70) hx hb dX11_over_70 (lv_at hl 1 rfl) ?_
          refine lv_iload (pc := 72) hx hb dX11_over_72 (lv_at hl 0 rfl) ?_
          obtain ⟨r20, S21, e22, hf⟩ := zB_e hf
          refine zcVi (zEX_ok tt) (As := [.int (p1 / 100), .int r16]) (pc := 74) C0 hW (kX2_firstFall l D cA h tt H.size N (p1 / 100) r16 S17 r20 S21 e22) (cwV 2 hts (zgV gaX mX_674 mX_286 mX_287 mX_167 mX_190) rfl rfl rfl (by decide +kernel) ⟨Nat.le_of_ble_eq_true rfl, Nat.le_of_ble_eq_true rfl⟩) (va_recv hW.1 hW.2.1 (ci := 2) (q0 := 2) rfl rfl) rfl hl.1 rfl (Nat.le_of_ble_eq_true rfl) dX11_over_74 (fun H locs hW => ?_)
          refine lv_istore (pc := 77) (lv' := [(6, .int r20), (5, .int r16), (4, .int (p1 / 100)), (0, .ref (h 11)), (1, .int p1), (2, .int p2), (3, .int p3)]) hx hb dX11_over_77 hl (by decide) rfl (fun ls hl => ?_)
          refine lv_iload_n (pc := 79) hx hb dX11_over_79 rfl (lv_at hl 6 rfl) ?_
          refine lv_iconst (pc := 80) (v := 2) hx hb dX11_over_80 (by decide) ?_
          refine lv_icmp_ne (pc := 81) (tgt := 89) hx hb dX11_over_81 (by decide) (fun c23 => ?_) (fun c23 => ?_)
          · have hf := zf c23 hf
            refine lv_iload (pc := 89) hx hb dX11_over_89 (lv_at hl 0 rfl) ?_
            refine lv_bipush (pc := 91) (v := (-2)) hx hb dX11_over_91 (by decide) ?_
            refine lv_icmp_ne (pc := 93) (tgt := 100) hx hb dX11_over_93 (by decide) (fun c24 => ?_) (fun c24 => ?_)
            · have hf := zf c24 hf
              refine lv_iconst (pc := 100) (v := 0) hx hb dX11_over_100 (by decide) ?_
              exact w101 0 S21 H locs hW ls (lv_sub hl [] rfl) hf
            · have hf := zt c24 hf
              refine lv_iconst (pc := 96) (v := 1) hx hb dX11_over_96 (by decide) ?_
              refine lv_goto (pc := 97) (tgt := 101) hx hb dX11_over_97 (by decide) ?_
              exact w101 1 S21 H locs hW ls (lv_sub hl [] rfl) hf
          · have hf := zt c23 hf
            refine lv_iload (pc := 84) hx hb dX11_over_84 (lv_at hl 0 rfl) ?_
            refine lv_goto (pc := 86) (tgt := 104) hx hb dX11_over_86 (by decide) ?_
            exact zend_i (w := wX cA h) fin hf hW dX11_over_104
        · have hf := zt c19 hf
          refine lv_aload_n (pc := 52) hx hb dX11_over_52 rfl (lv_at hl 2 rfl) ?_
          refine xg_1205 (pc := 53) C0 hu_11 hW mX_551 dX11_over_53 ?_
          refine lv_iload (pc := 56) hx hb dX11_over_56 (lv_at hl 1 rfl) ?_
          refine lv_iload (pc := 58) hx hb dX11_over_58 (lv_at hl 0 rfl) ?_
          refine lv_ldc (pc := 60) (v := (-2000000000)) hx hb hown (hts _ mX_629) dX11_over_60 ?_
          obtain ⟨r25, S26, e27, hf⟩ := zB_e hf
          refine zcVi (zEX_ok tt) (As := [.int (p1 / 100), .int r16, .int (-2000000000)]) (pc := 62) C0 hW (kX2_leastMargin l D cA h tt H.size N (p1 / 100) r16 (-2000000000) S17 r25 S26 e27) (cwV 3 hts (zgV gaX mX_673 mX_208 mX_209 mX_167 mX_172) rfl rfl rfl (by decide +kernel) ⟨Nat.le_of_ble_eq_true rfl, Nat.le_of_ble_eq_true rfl⟩) (va_recv hW.1 hW.2.1 (ci := 2) (q0 := 2) rfl rfl) rfl hl.1 rfl (Nat.le_of_ble_eq_true rfl) dX11_over_62 (fun H locs hW => ?_)
          exact zend_i (w := wX cA h) fin hf hW dX11_over_65
      · have hf := zt c15 hf
        refine lv_ldc (pc := 25) (v := (-2000000000)) hx hb hown (hts _ mX_629) dX11_over_25 ?_
        exact zend_i (w := wX cA h) fin hf hW dX11_over_27

def fX11_order (N : Nat) (p1 : Int32) (p2 : Int32) (p3 : Int32) (S : zSt) : Option (Int32 × zSt) :=
  zB (fX11_isPlaceAndHour p1 S) fun r1 S2 => if r1 = 0 then (some ((-2000000000), S2)) else (zB (fX11_takesGroup N p2 S2) fun r5 S6 => if r5 = 0 then (some ((-2000000000), S6)) else (zU (fX11_isWithin p3 0 1) fun r9 => if r9 = 0 then (some ((-2000000000), S6)) else (zB (fX4_riseInForce N (p1 - p1 / 100 * 100) S6) fun r13 S14 => zU (fX2_seekOrder N (p1 / 100) r13 S14) fun S17 => if p3 = 0 then (some ((S17.1 303), S17)) else (some ((S17.1 304), S17)))))
abbrev wX11_order : List Cond := Cond.code yX11_order cX11_order 4 (some .int) :: waX
abbrev rmX11_order : Room := { frames := 6, cells := 0, slots := 0, locals := 151 }
set_option maxHeartbeats 4000000 in
set_option maxRecDepth 100000 in
theorem kX11_order (l : Launch) (D : va_G) (cA : Nat → ClassId) (h tt : Nat → Nat) (sz : Nat) (N : Nat)  (p1 : Int32) (p2 : Int32) (p3 : Int32) (S : zSt) (r : Int32) (S1 : zSt) (hf : fX11_order N p1 p2 p3 S = some (r, S1)) : zMi l yX11_order wX11_order rmX11_order (zEX tt) D (tX cA) (hsX h) [.ref (h 11), .int p1, .int p2, .int p3] (wX cA h S) (wX cA h S1) sz r := by
  refine zEn_i (cc := cX11_order) (maxL := 4) (own := RX11) (by decide) rfl rfl (hmX cA h S) (Nat.le_of_ble_eq_true rfl) ?_
  intro p e s m args below meth c Q H locs C0 hW fin ls hl
  have hl : lv_has ls 4 [(0, .ref (h 11)), (1, .int p1), (2, .int p2), (3, .int p3)] := hl
  have hx := C0.1
  have hb := C0.2.1
  have hown := C0.2.2.2.1
  have hts := C0.2.2.2.2
  unfold fX11_order at hf
  refine lv_aload_n (pc := 0) hx hb dX11_order_0 rfl (lv_at hl 0 rfl) ?_
  refine lv_iload_n (pc := 1) hx hb dX11_order_1 rfl (lv_at hl 1 rfl) ?_
  obtain ⟨r1, S2, e3, hf⟩ := zB_e hf
  refine zcVi (zEX_ok tt) (As := [.int p1]) (pc := 2) C0 hW (kX11_isPlaceAndHour l D cA h tt H.size p1 S r1 S2 e3) (cwV 1 hts (zgV gaX mX_646 mX_647 mX_648 mX_151 mX_649) rfl rfl rfl (by decide +kernel) ⟨Nat.le_of_ble_eq_true rfl, Nat.le_of_ble_eq_true rfl⟩) (va_recv hW.1 hW.2.1 (ci := 11) (q0 := 11) rfl rfl) rfl hl.1 rfl (Nat.le_of_ble_eq_true rfl) dX11_order_2 (fun H locs hW => ?_)
  refine lv_if_eq (pc := 5) (tgt := 25) hx hb dX11_order_5 (by decide) (fun c4 => ?_) (fun c4 => ?_)
  · have hf := zt c4 hf
    refine lv_ldc (pc := 25) (v := (-2000000000)) hx hb hown (hts _ mX_629) dX11_order_25 ?_
    exact zend_i (w := wX cA h) fin hf hW dX11_order_27
  · have hf := zf c4 hf
    refine lv_aload_n (pc := 8) hx hb dX11_order_8 rfl (lv_at hl 0 rfl) ?_
    refine lv_iload_n (pc := 9) hx hb dX11_order_9 rfl (lv_at hl 2 rfl) ?_
    obtain ⟨r5, S6, e7, hf⟩ := zB_e hf
    refine zcVi (zEX_ok tt) (As := [.int p2]) (pc := 10) C0 hW (kX11_takesGroup l D cA h tt H.size N p2 S2 r5 S6 e7) (cwV 1 hts (zgV gaX mX_650 mX_651 mX_652 mX_151 mX_653) rfl rfl rfl (by decide +kernel) ⟨Nat.le_of_ble_eq_true rfl, Nat.le_of_ble_eq_true rfl⟩) (va_recv hW.1 hW.2.1 (ci := 11) (q0 := 11) rfl rfl) rfl hl.1 rfl (Nat.le_of_ble_eq_true rfl) dX11_order_10 (fun H locs hW => ?_)
    refine lv_if_eq (pc := 13) (tgt := 25) hx hb dX11_order_13 (by decide) (fun c8 => ?_) (fun c8 => ?_)
    · have hf := zt c8 hf
      refine lv_ldc (pc := 25) (v := (-2000000000)) hx hb hown (hts _ mX_629) dX11_order_25 ?_
      exact zend_i (w := wX cA h) fin hf hW dX11_order_27
    · have hf := zf c8 hf
      refine lv_iload_n (pc := 16) hx hb dX11_order_16 rfl (lv_at hl 3 rfl) ?_
      refine lv_iconst (pc := 17) (v := 0) hx hb dX11_order_17 (by decide) ?_
      refine lv_iconst (pc := 18) (v := 1) hx hb dX11_order_18 (by decide) ?_
      obtain ⟨r9, e11, hf⟩ := zU_e hf
      refine zcSi (As := [.int p3, .int 0, .int 1]) (pc := 19) C0 hW (kX11_isWithin l H.size p3 0 1 r9 e11) (va_cwS 3 hts (zgS gaX mX_225 mX_226 mX_151 mX_227) rfl rfl rfl (by decide +kernel) ⟨Nat.le_of_ble_eq_true rfl, Nat.le_of_ble_eq_true rfl⟩) rfl hl.1 rfl (Nat.le_of_ble_eq_true rfl) dX11_order_19 (fun H locs hW => ?_)
      refine lv_if_ne (pc := 22) (tgt := 28) hx hb dX11_order_22 (by decide) (fun c12 => ?_) (fun c12 => ?_)
      · have hf := zf c12 hf
        refine lv_aload_n (pc := 28) hx hb dX11_order_28 rfl (lv_at hl 0 rfl) ?_
        refine xg_1205 (pc := 29) C0 hu_11 hW mX_551 dX11_order_29 ?_
        refine lv_iload_n (pc := 32) hx hb dX11_order_32 rfl (lv_at hl 1 rfl) ?_
        refine lv_bipush (pc := 33) (v := 100) hx hb dX11_order_33 (by decide) ?_
        refine lv_idiv (pc := 35) hx hb dX11_order_35 (by decide) ?_
        refine lv_aload_n (pc := 36) hx hb dX11_order_36 rfl (lv_at hl 0 rfl) ?_
        refine xg_1202 (pc := 37) C0 hu_11 hW mX_542 dX11_order_37 ?_
        refine lv_iload_n (pc := 40) hx hb dX11_order_40 rfl (lv_at hl 1 rfl) ?_
        refine lv_bipush (pc := 41) (v := 100) hx hb dX11_order_41 (by decide) ?_
        refine lv_irem (pc := 43) hx hb dX11_order_43 (by decide) ?_
        obtain ⟨r13, S14, e15, hf⟩ := zB_e hf
        refine zcVi (zEX_ok tt) (As := [.int (p1 - p1 / 100 * 100)]) (pc := 44) C0 hW (kX4_riseInForce l D cA h tt H.size N (p1 - p1 / 100 * 100) S6 r13 S14 e15) (cwV 1 hts (zgV gaX mX_606 mX_229 mX_230 mX_231 mX_232) rfl rfl rfl (by decide +kernel) ⟨Nat.le_of_ble_eq_true rfl, Nat.le_of_ble_eq_true rfl⟩) (va_recv hW.1 hW.2.1 (ci := 4) (q0 := 4) rfl rfl) rfl hl.1 rfl (Nat.le_of_ble_eq_true rfl) dX11_order_44 (fun H locs hW => ?_)
        obtain ⟨S17, e18, hf⟩ := zU_e hf
        refine zcVv (zEX_ok tt) (As := [.int (p1 / 100), .int r13]) (pc := 47) C0 hW (kX2_seekOrder l D cA h tt H.size N (p1 / 100) r13 S14 S17 e18) (cwV 2 hts (zgV gaX mX_679 mX_680 mX_681 mX_167 mX_191) rfl rfl rfl (by decide +kernel) ⟨Nat.le_of_ble_eq_true rfl, Nat.le_of_ble_eq_true rfl⟩) (va_recv hW.1 hW.2.1 (ci := 2) (q0 := 2) rfl rfl) rfl hl.1 rfl (Nat.le_of_ble_eq_true rfl) dX11_order_47 (fun H locs hW => ?_)
        refine lv_iload_n (pc := 50) hx hb dX11_order_50 rfl (lv_at hl 3 rfl) ?_
        refine lv_if_ne (pc := 51) (tgt := 64) hx hb dX11_order_51 (by decide) (fun c19 => ?_) (fun c19 => ?_)
        · have hf := zf c19 hf
          refine lv_aload_n (pc := 64) hx hb dX11_order_64 rfl (lv_at hl 0 rfl) ?_
          refine xg_1205 (pc := 65) C0 hu_11 hW mX_551 dX11_order_65 ?_
          refine xg_304 (pc := 68) C0 hu_2 hW mX_678 dX11_order_68 ?_
          exact zend_i (w := wX cA h) fin hf hW dX11_order_71
        · have hf := zt c19 hf
          refine lv_aload_n (pc := 54) hx hb dX11_order_54 rfl (lv_at hl 0 rfl) ?_
          refine xg_1205 (pc := 55) C0 hu_11 hW mX_551 dX11_order_55 ?_
          refine xg_303 (pc := 58) C0 hu_2 hW mX_677 dX11_order_58 ?_
          refine lv_goto (pc := 61) (tgt := 71) hx hb dX11_order_61 (by decide) ?_
          exact zend_i (w := wX cA h) fin hf hW dX11_order_71
      · have hf := zt c12 hf
        refine lv_ldc (pc := 25) (v := (-2000000000)) hx hb hown (hts _ mX_629) dX11_order_25 ?_
        exact zend_i (w := wX cA h) fin hf hW dX11_order_27

def fX11_best (N : Nat) (p1 : Int32) (p2 : Int32) (p3 : Int32) (S : zSt) : Option (Int32 × zSt) :=
  zB (fX6_take N p1 0 S) fun r1 S2 => if r1 = 0 then (some ((-2000000000), S2)) else (if p2 < 0 then (some ((-2000000000), S2)) else (zU (fX11_isWithin p3 0 1) fun r6 => if r6 = 0 then (some ((-2000000000), S2)) else (zU (fX11_isHour (p2 / 100)) fun r10 => if r10 = 0 then (some ((-2000000000), S2)) else (zU (fX11_isHour (p2 - p2 / 100 * 100)) fun r14 => if r14 = 0 then (some ((-2000000000), S2)) else (if (p2 / 100) ≤ (p2 - p2 / 100 * 100) then (zB (fX2_seekBest N (p2 / 100) (p2 - p2 / 100 * 100) S2) fun r19 S20 => if r19 = 0 then (some ((-2), S20)) else (if p3 = 0 then (some ((S20.1 303), S20)) else (some ((S20.1 304), S20)))) else (some ((-2000000000), S2)))))))
abbrev wX11_best : List Cond := Cond.code yX11_best cX11_best 6 (some .int) :: waX
abbrev rmX11_best : Room := { frames := 7, cells := 0, slots := 0, locals := 174 }
set_option maxHeartbeats 4000000 in
set_option maxRecDepth 100000 in
theorem kX11_best (l : Launch) (D : va_G) (cA : Nat → ClassId) (h tt : Nat → Nat) (sz : Nat) (N : Nat)  (p1 : Int32) (p2 : Int32) (p3 : Int32) (S : zSt) (r : Int32) (S1 : zSt) (hf : fX11_best N p1 p2 p3 S = some (r, S1)) : zMi l yX11_best wX11_best rmX11_best (zEX tt) D (tX cA) (hsX h) [.ref (h 11), .int p1, .int p2, .int p3] (wX cA h S) (wX cA h S1) sz r := by
  refine zEn_i (cc := cX11_best) (maxL := 6) (own := RX11) (by decide) rfl rfl (hmX cA h S) (Nat.le_of_ble_eq_true rfl) ?_
  intro p e s m args below meth c Q H locs C0 hW fin ls hl
  have hl : lv_has ls 6 [(0, .ref (h 11)), (1, .int p1), (2, .int p2), (3, .int p3)] := hl
  have hx := C0.1
  have hb := C0.2.1
  have hown := C0.2.2.2.1
  have hts := C0.2.2.2.2
  unfold fX11_best at hf
  refine lv_aload_n (pc := 0) hx hb dX11_best_0 rfl (lv_at hl 0 rfl) ?_
  refine xg_1204 (pc := 1) C0 hu_11 hW mX_548 dX11_best_1 ?_
  refine lv_iload_n (pc := 4) hx hb dX11_best_4 rfl (lv_at hl 1 rfl) ?_
  refine lv_iconst (pc := 5) (v := 0) hx hb dX11_best_5 (by decide) ?_
  obtain ⟨r1, S2, e3, hf⟩ := zB_e hf
  refine zcVi (zEX_ok tt) (As := [.int p1, .int 0]) (pc := 6) C0 hW (kX6_take l D cA h tt H.size N p1 0 S r1 S2 e3) (cwV 2 hts (zgV gaX mX_654 mX_655 mX_656 mX_133 mX_420) rfl rfl rfl (by decide +kernel) ⟨Nat.le_of_ble_eq_true rfl, Nat.le_of_ble_eq_true rfl⟩) (va_recv hW.1 hW.2.1 (ci := 6) (q0 := 6) rfl rfl) rfl hl.1 rfl (Nat.le_of_ble_eq_true rfl) dX11_best_6 (fun H locs hW => ?_)
  refine lv_if_eq (pc := 9) (tgt := 25) hx hb dX11_best_9 (by decide) (fun c4 => ?_) (fun c4 => ?_)
  · have hf := zt c4 hf
    refine lv_ldc (pc := 25) (v := (-2000000000)) hx hb hown (hts _ mX_629) dX11_best_25 ?_
    exact zend_i (w := wX cA h) fin hf hW dX11_best_27
  · have hf := zf c4 hf
    refine lv_iload_n (pc := 12) hx hb dX11_best_12 rfl (lv_at hl 2 rfl) ?_
    refine lv_if_lt (pc := 13) (tgt := 25) hx hb dX11_best_13 (by decide) (fun c5 => ?_) (fun c5 => ?_)
    · have hf := zt c5 hf
      refine lv_ldc (pc := 25) (v := (-2000000000)) hx hb hown (hts _ mX_629) dX11_best_25 ?_
      exact zend_i (w := wX cA h) fin hf hW dX11_best_27
    · have hf := zf c5 hf
      refine lv_iload_n (pc := 16) hx hb dX11_best_16 rfl (lv_at hl 3 rfl) ?_
      refine lv_iconst (pc := 17) (v := 0) hx hb dX11_best_17 (by decide) ?_
      refine lv_iconst (pc := 18) (v := 1) hx hb dX11_best_18 (by decide) ?_
      obtain ⟨r6, e8, hf⟩ := zU_e hf
      refine zcSi (As := [.int p3, .int 0, .int 1]) (pc := 19) C0 hW (kX11_isWithin l H.size p3 0 1 r6 e8) (va_cwS 3 hts (zgS gaX mX_225 mX_226 mX_151 mX_227) rfl rfl rfl (by decide +kernel) ⟨Nat.le_of_ble_eq_true rfl, Nat.le_of_ble_eq_true rfl⟩) rfl hl.1 rfl (Nat.le_of_ble_eq_true rfl) dX11_best_19 (fun H locs hW => ?_)
      refine lv_if_ne (pc := 22) (tgt := 28) hx hb dX11_best_22 (by decide) (fun c9 => ?_) (fun c9 => ?_)
      · have hf := zf c9 hf
        refine lv_iload_n (pc := 28) hx hb dX11_best_28 rfl (lv_at hl 2 rfl) ?_
        refine lv_bipush (pc := 29) (v := 100) hx hb dX11_best_29 (by decide) ?_
        refine lv_idiv (pc := 31) hx hb dX11_best_31 (by decide) ?_
        refine lv_istore (pc := 32) (lv' := [(4, .int (p2 / 100)), (0, .ref (h 11)), (1, .int p1), (2, .int p2), (3, .int p3)]) hx hb dX11_best_32 hl (by decide) rfl (fun ls hl => ?_)
        refine lv_iload_n (pc := 34) hx hb dX11_best_34 rfl (lv_at hl 3 rfl) ?_
        refine lv_bipush (pc := 35) (v := 100) hx hb dX11_best_35 (by decide) ?_
        refine lv_irem (pc := 37) hx hb dX11_best_37 (by decide) ?_
        refine lv_istore (pc := 38) (lv' := [(5, .int (p2 - p2 / 100 * 100)), (4, .int (p2 / 100)), (0, .ref (h 11)), (1, .int p1), (2, .int p2), (3, .int p3)]) hx hb dX11_best_38 hl (by decide) rfl (fun ls hl => ?_)
        refine lv_iload (pc := 40) hx hb dX11_best_40 (lv_at hl 1 rfl) ?_
        obtain ⟨r10, e12, hf⟩ := zU_e hf
        refine zcSi (As := [.int (p2 / 100)]) (pc := 42) C0 hW (kX11_isHour l H.size (p2 / 100) r10 e12) (va_cwS 1 hts (zgS gaX mX_605 mX_401 mX_151 mX_402) rfl rfl rfl (by decide +kernel) ⟨Nat.le_of_ble_eq_true rfl, Nat.le_of_ble_eq_true rfl⟩) rfl hl.1 rfl (Nat.le_of_ble_eq_true rfl) dX11_best_42 (fun H locs hW => ?_)
        refine lv_if_eq (pc := 45) (tgt := 63) hx hb dX11_best_45 (by decide) (fun c13 => ?_) (fun c13 => ?_)
        · have hf := zt c13 hf
          refine lv_ldc (pc := 63) (v := (-2000000000)) hx hb hown (hts _ mX_629) dX11_best_63 ?_
          exact zend_i (w := wX cA h) fin hf hW dX11_best_65
        · have hf := zf c13 hf
          refine lv_iload (pc := 48) hx hb dX11_best_48 (lv_at hl 0 rfl) ?_
          obtain ⟨r14, e16, hf⟩ := zU_e hf
          refine zcSi (As := [.int (p2 - p2 / 100 * 100)]) (pc := 50) C0 hW (kX11_isHour l H.size (p2 - p2 / 100 * 100) r14 e16) (va_cwS 1 hts (zgS gaX mX_605 mX_401 mX_151 mX_402) rfl rfl rfl (by decide +kernel) ⟨Nat.le_of_ble_eq_true rfl, Nat.le_of_ble_eq_true rfl⟩) rfl hl.1 rfl (Nat.le_of_ble_eq_true rfl) dX11_best_50 (fun H locs hW => ?_)
          refine lv_if_eq (pc := 53) (tgt := 63) hx hb dX11_best_53 (by decide) (fun c17 => ?_) (fun c17 => ?_)
          · have hf := zt c17 hf
            refine lv_ldc (pc := 63) (v := (-2000000000)) hx hb hown (hts _ mX_629) dX11_best_63 ?_
            exact zend_i (w := wX cA h) fin hf hW dX11_best_65
          · have hf := zf c17 hf
            refine lv_iload (pc := 56) hx hb dX11_best_56 (lv_at hl 0 rfl) ?_
            refine lv_iload (pc := 58) hx hb dX11_best_58 (lv_at hl 1 rfl) ?_
            refine lv_icmp_ge (pc := 60) (tgt := 66) hx hb dX11_best_60 (by decide) (fun c18 => ?_) (fun c18 => ?_)
            · have hf := zt c18 hf
              refine lv_aload_n (pc := 66) hx hb dX11_best_66 rfl (lv_at hl 2 rfl) ?_
              refine xg_1205 (pc := 67) C0 hu_11 hW mX_551 dX11_best_67 ?_
              refine lv_iload (pc := 70) hx hb dX11_best_70 (lv_at hl 1 rfl) ?_
              refine lv_iload (pc := 72) hx hb dX11_best_72 (lv_at hl 0 rfl) ?_
              obtain ⟨r19, S20, e21, hf⟩ := zB_e hf
              refine zcVi (zEX_ok tt) (As := [.int (p2 / 100), .int (p2 - p2 / 100 * 100)]) (pc := 74) C0 hW (kX2_seekBest l D cA h tt H.size N (p2 / 100) (p2 - p2 / 100 * 100) S2 r19 S20 e21) (cwV 2 hts (zgV gaX mX_683 mX_684 mX_685 mX_167 mX_222) rfl rfl rfl (by decide +kernel) ⟨Nat.le_of_ble_eq_true rfl, Nat.le_of_ble_eq_true rfl⟩) (va_recv hW.1 hW.2.1 (ci := 2) (q0 := 2) rfl rfl) rfl hl.1 rfl (Nat.le_of_ble_eq_true rfl) dX11_best_74 (fun H locs hW => ?_)
              refine lv_if_ne (pc := 77) (tgt := 83) hx hb dX11_best_77 (by decide) (fun c22 => ?_) (fun c22 => ?_)
              · have hf := zf c22 hf
                refine lv_iload_n (pc := 83) hx hb dX11_best_83 rfl (lv_at hl 5 rfl) ?_
                refine lv_if_ne (pc := 84) (tgt := 97) hx hb dX11_best_84 (by decide) (fun c23 => ?_) (fun c23 => ?_)
                · have hf := zf c23 hf
                  refine lv_aload_n (pc := 97) hx hb dX11_best_97 rfl (lv_at hl 2 rfl) ?_
                  refine xg_1205 (pc := 98) C0 hu_11 hW mX_551 dX11_best_98 ?_
                  refine xg_304 (pc := 101) C0 hu_2 hW mX_678 dX11_best_101 ?_
                  exact zend_i (w := wX cA h) fin hf hW dX11_best_104
                · have hf := zt c23 hf
                  refine lv_aload_n (pc := 87) hx hb dX11_best_87 rfl (lv_at hl 2 rfl) ?_
                  refine xg_1205 (pc := 88) C0 hu_11 hW mX_551 dX11_best_88 ?_
                  refine xg_303 (pc := 91) C0 hu_2 hW mX_677 dX11_best_91 ?_
                  refine lv_goto (pc := 94) (tgt := 104) hx hb dX11_best_94 (by decide) ?_
                  exact zend_i (w := wX cA h) fin hf hW dX11_best_104
              · have hf := zt c22 hf
                refine lv_bipush (pc := 80) (v := (-2)) hx hb dX11_best_80 (by decide) ?_
                exact zend_i (w := wX cA h) fin hf hW dX11_best_82
            · have hf := zf c18 hf
              refine lv_ldc (pc := 63) (v := (-2000000000)) hx hb hown (hts _ mX_629) dX11_best_63 ?_
              exact zend_i (w := wX cA h) fin hf hW dX11_best_65
      · have hf := zt c9 hf
        refine lv_ldc (pc := 25) (v := (-2000000000)) hx hb hown (hts _ mX_629) dX11_best_25 ?_
        exact zend_i (w := wX cA h) fin hf hW dX11_best_27

def fX11_gusts (N : Nat) (p1 : Int32) (p2 : Int32) (p3 : Int32) (p4 : Int32) (p5 : Int32) (S : zSt) : Option (Int32 × zSt) :=
  zB (fX11_isPlaceAndHour p1 S) fun r1 S2 => if r1 = 0 then (some ((-1), S2)) else (zB (fX11_takesGroup N p2 S2) fun r5 S6 => if r5 = 0 then (some ((-1), S6)) else (if p4 < 0 then (some ((-1), S6)) else (zU (fX11_isWithin p5 0 1) fun r10 => if r10 = 0 then (some ((-1), S6)) else (zU (fX11_isWithin (p4 / 100) 1 50) fun r14 => if r14 = 0 then (some ((-1), S6)) else (zU (fX11_isWithin (p4 - p4 / 100 * 100) 1 20) fun r18 => if r18 = 0 then (some ((-1), S6)) else (zB (fX4_riseInForce N (p1 - p1 / 100 * 100) S6) fun r22 S23 => zB (fX2_timesOver N (p1 / 100) r22 p3 (p4 / 100) (p4 - p4 / 100 * 100) S23) fun r25 S26 => if p5 = 0 then (some (r25, S26)) else (zB (fX8_belowOf (p1 / 100) S26) fun r29 S30 => some ((r29 * ((p4 / 100) - r25)), S30))))))))
abbrev wX11_gusts : List Cond := Cond.code yX11_gusts cX11_gusts 10 (some .int) :: waX
abbrev rmX11_gusts : Room := { frames := 6, cells := 0, slots := 0, locals := 156 }
set_option maxHeartbeats 4000000 in
set_option maxRecDepth 100000 in
theorem kX11_gusts (l : Launch) (D : va_G) (cA : Nat → ClassId) (h tt : Nat → Nat) (sz : Nat) (N : Nat)  (p1 : Int32) (p2 : Int32) (p3 : Int32) (p4 : Int32) (p5 : Int32) (S : zSt) (r : Int32) (S1 : zSt) (hf : fX11_gusts N p1 p2 p3 p4 p5 S = some (r, S1)) : zMi l yX11_gusts wX11_gusts rmX11_gusts (zEX tt) D (tX cA) (hsX h) [.ref (h 11), .int p1, .int p2, .int p3, .int p4, .int p5] (wX cA h S) (wX cA h S1) sz r := by
  refine zEn_i (cc := cX11_gusts) (maxL := 10) (own := RX11) (by decide) rfl rfl (hmX cA h S) (Nat.le_of_ble_eq_true rfl) ?_
  intro p e s m args below meth c Q H locs C0 hW fin ls hl
  have hl : lv_has ls 10 [(0, .ref (h 11)), (1, .int p1), (2, .int p2), (3, .int p3), (4, .int p4), (5, .int p5)] := hl
  have hx := C0.1
  have hb := C0.2.1
  have hown := C0.2.2.2.1
  have hts := C0.2.2.2.2
  unfold fX11_gusts at hf
  refine lv_aload_n (pc := 0) hx hb dX11_gusts_0 rfl (lv_at hl 0 rfl) ?_
  refine lv_iload_n (pc := 1) hx hb dX11_gusts_1 rfl (lv_at hl 1 rfl) ?_
  obtain ⟨r1, S2, e3, hf⟩ := zB_e hf
  refine zcVi (zEX_ok tt) (As := [.int p1]) (pc := 2) C0 hW (kX11_isPlaceAndHour l D cA h tt H.size p1 S r1 S2 e3) (cwV 1 hts (zgV gaX mX_646 mX_647 mX_648 mX_151 mX_649) rfl rfl rfl (by decide +kernel) ⟨Nat.le_of_ble_eq_true rfl, Nat.le_of_ble_eq_true rfl⟩) (va_recv hW.1 hW.2.1 (ci := 11) (q0 := 11) rfl rfl) rfl hl.1 rfl (Nat.le_of_ble_eq_true rfl) dX11_gusts_2 (fun H locs hW => ?_)
  refine lv_if_eq (pc := 5) (tgt := 31) hx hb dX11_gusts_5 (by decide) (fun c4 => ?_) (fun c4 => ?_)
  · have hf := zt c4 hf
    refine lv_iconst (pc := 31) (v := (-1)) hx hb dX11_gusts_31 (by decide) ?_
    exact zend_i (w := wX cA h) fin hf hW dX11_gusts_32
  · have hf := zf c4 hf
    refine lv_aload_n (pc := 8) hx hb dX11_gusts_8 rfl (lv_at hl 0 rfl) ?_
    refine lv_iload_n (pc := 9) hx hb dX11_gusts_9 rfl (lv_at hl 2 rfl) ?_
    obtain ⟨r5, S6, e7, hf⟩ := zB_e hf
    refine zcVi (zEX_ok tt) (As := [.int p2]) (pc := 10) C0 hW (kX11_takesGroup l D cA h tt H.size N p2 S2 r5 S6 e7) (cwV 1 hts (zgV gaX mX_650 mX_651 mX_652 mX_151 mX_653) rfl rfl rfl (by decide +kernel) ⟨Nat.le_of_ble_eq_true rfl, Nat.le_of_ble_eq_true rfl⟩) (va_recv hW.1 hW.2.1 (ci := 11) (q0 := 11) rfl rfl) rfl hl.1 rfl (Nat.le_of_ble_eq_true rfl) dX11_gusts_10 (fun H locs hW => ?_)
    refine lv_if_eq (pc := 13) (tgt := 31) hx hb dX11_gusts_13 (by decide) (fun c8 => ?_) (fun c8 => ?_)
    · have hf := zt c8 hf
      refine lv_iconst (pc := 31) (v := (-1)) hx hb dX11_gusts_31 (by decide) ?_
      exact zend_i (w := wX cA h) fin hf hW dX11_gusts_32
    · have hf := zf c8 hf
      refine lv_iload (pc := 16) hx hb dX11_gusts_16 (lv_at hl 4 rfl) ?_
      refine lv_if_lt (pc := 18) (tgt := 31) hx hb dX11_gusts_18 (by decide) (fun c9 => ?_) (fun c9 => ?_)
      · have hf := zt c9 hf
        refine lv_iconst (pc := 31) (v := (-1)) hx hb dX11_gusts_31 (by decide) ?_
        exact zend_i (w := wX cA h) fin hf hW dX11_gusts_32
      · have hf := zf c9 hf
        refine lv_iload (pc := 21) hx hb dX11_gusts_21 (lv_at hl 5 rfl) ?_
        refine lv_iconst (pc := 23) (v := 0) hx hb dX11_gusts_23 (by decide) ?_
        refine lv_iconst (pc := 24) (v := 1) hx hb dX11_gusts_24 (by decide) ?_
        obtain ⟨r10, e12, hf⟩ := zU_e hf
        refine zcSi (As := [.int p5, .int 0, .int 1]) (pc := 25) C0 hW (kX11_isWithin l H.size p5 0 1 r10 e12) (va_cwS 3 hts (zgS gaX mX_225 mX_226 mX_151 mX_227) rfl rfl rfl (by decide +kernel) ⟨Nat.le_of_ble_eq_true rfl, Nat.le_of_ble_eq_true rfl⟩) rfl hl.1 rfl (Nat.le_of_ble_eq_true rfl) dX11_gusts_25 (fun H locs hW => ?_)
        refine lv_if_ne (pc := 28) (tgt := 33) hx hb dX11_gusts_28 (by decide) (fun c13 => ?_) (fun c13 => ?_)
        · have hf := zf c13 hf
          refine lv_iload (pc := 33) hx hb dX11_gusts_33 (lv_at hl 4 rfl) ?_
          refine lv_bipush (pc := 35) (v := 100) hx hb dX11_gusts_35 (by decide) ?_
          refine lv_idiv (pc := 37) hx hb dX11_gusts_37 (by decide) ?_
          refine lv_istore (pc := 38) (lv' := [(6, .int (p4 / 100)), (0, .ref (h 11)), (1, .int p1), (2, .int p2), (3, .int p3), (4, .int p4), (5, .int p5)]) hx hb dX11_gusts_38 hl (by decide) rfl (fun ls hl => ?_)
          refine lv_iload (pc := 40) hx hb dX11_gusts_40 (lv_at hl 5 rfl) ?_
          refine lv_bipush (pc := 42) (v := 100) hx hb dX11_gusts_42 (by decide) ?_
          refine lv_irem (pc := 44) hx hb dX11_gusts_44 (by decide) ?_
          refine lv_istore (pc := 45) (lv' := [(7, .int (p4 - p4 / 100 * 100)), (6, .int (p4 / 100)), (0, .ref (h 11)), (1, .int p1), (2, .int p2), (3, .int p3), (4, .int p4), (5, .int p5)]) hx hb dX11_gusts_45 hl (by decide) rfl (fun ls hl => ?_)
          refine lv_iload (pc := 47) hx hb dX11_gusts_47 (lv_at hl 1 rfl) ?_
          refine lv_iconst (pc := 49) (v := 1) hx hb dX11_gusts_49 (by decide) ?_
          refine lv_bipush (pc := 50) (v := 50) hx hb dX11_gusts_50 (by decide) ?_
          obtain ⟨r14, e16, hf⟩ := zU_e hf
          refine zcSi (As := [.int (p4 / 100), .int 1, .int 50]) (pc := 52) C0 hW (kX11_isWithin l H.size (p4 / 100) 1 50 r14 e16) (va_cwS 3 hts (zgS gaX mX_225 mX_226 mX_151 mX_227) rfl rfl rfl (by decide +kernel) ⟨Nat.le_of_ble_eq_true rfl, Nat.le_of_ble_eq_true rfl⟩) rfl hl.1 rfl (Nat.le_of_ble_eq_true rfl) dX11_gusts_52 (fun H locs hW => ?_)
          refine lv_if_eq (pc := 55) (tgt := 69) hx hb dX11_gusts_55 (by decide) (fun c17 => ?_) (fun c17 => ?_)
          · have hf := zt c17 hf
            refine lv_iconst (pc := 69) (v := (-1)) hx hb dX11_gusts_69 (by decide) ?_
            exact zend_i (w := wX cA h) fin hf hW dX11_gusts_70
          · have hf := zf c17 hf
            refine lv_iload (pc := 58) hx hb dX11_gusts_58 (lv_at hl 0 rfl) ?_
            refine lv_iconst (pc := 60) (v := 1) hx hb dX11_gusts_60 (by decide) ?_
            refine lv_bipush (pc := 61) (v := 20) hx hb dX11_gusts_61 (by decide) ?_
            obtain ⟨r18, e20, hf⟩ := zU_e hf
            refine zcSi (As := [.int (p4 - p4 / 100 * 100), .int 1, .int 20]) (pc := 63) C0 hW (kX11_isWithin l H.size (p4 - p4 / 100 * 100) 1 20 r18 e20) (va_cwS 3 hts (zgS gaX mX_225 mX_226 mX_151 mX_227) rfl rfl rfl (by decide +kernel) ⟨Nat.le_of_ble_eq_true rfl, Nat.le_of_ble_eq_true rfl⟩) rfl hl.1 rfl (Nat.le_of_ble_eq_true rfl) dX11_gusts_63 (fun H locs hW => ?_)
            refine lv_if_ne (pc := 66) (tgt := 71) hx hb dX11_gusts_66 (by decide) (fun c21 => ?_) (fun c21 => ?_)
            · have hf := zf c21 hf
              refine lv_iload_n (pc := 71) hx hb dX11_gusts_71 rfl (lv_at hl 3 rfl) ?_
              refine lv_bipush (pc := 72) (v := 100) hx hb dX11_gusts_72 (by decide) ?_
              refine lv_idiv (pc := 74) hx hb dX11_gusts_74 (by decide) ?_
              refine lv_istore (pc := 75) (lv' := [(8, .int (p1 / 100)), (7, .int (p4 - p4 / 100 * 100)), (6, .int (p4 / 100)), (0, .ref (h 11)), (1, .int p1), (2, .int p2), (3, .int p3), (4, .int p4), (5, .int p5)]) hx hb dX11_gusts_75 hl (by decide) rfl (fun ls hl => ?_)
              refine lv_aload_n (pc := 77) hx hb dX11_gusts_77 rfl (lv_at hl 3 rfl) ?_
              refine xg_1205 (pc := 78) C0 hu_11 hW mX_551 dX11_gusts_78 ?_
              refine lv_iload (pc := 81) hx hb dX11_gusts_81 (lv_at hl 0 rfl) ?_
              refine lv_aload_n (pc := 83) hx hb dX11_gusts_83 rfl (lv_at hl 3 rfl) ?_
              refine xg_1202 (pc := 84) C0 hu_11 hW mX_542 dX11_gusts_84 ?_
              refine lv_iload_n (pc := 87) hx hb dX11_gusts_87 rfl (lv_at hl 4 rfl) ?_
              refine lv_bipush (pc := 88) (v := 100) hx hb dX11_gusts_88 (by decide) ?_
              refine lv_irem (pc := 90) hx hb dX11_gusts_90 (by decide) ?_
              obtain ⟨r22, S23, e24, hf⟩ := zB_e hf
              refine zcVi (zEX_ok tt) (As := [.int (p1 - p1 / 100 * 100)]) (pc := 91) C0 hW (kX4_riseInForce l D cA h tt H.size N (p1 - p1 / 100 * 100) S6 r22 S23 e24) (cwV 1 hts (zgV gaX mX_606 mX_229 mX_230 mX_231 mX_232) rfl rfl rfl (by decide +kernel) ⟨Nat.le_of_ble_eq_true rfl, Nat.le_of_ble_eq_true rfl⟩) (va_recv hW.1 hW.2.1 (ci := 4) (q0 := 4) rfl rfl) rfl hl.1 rfl (Nat.le_of_ble_eq_true rfl) dX11_gusts_91 (fun H locs hW => ?_)
              refine lv_iload_n (pc := 94) hx hb dX11_gusts_94 rfl (lv_at hl 6 rfl) ?_
              refine lv_iload (pc := 95) hx hb dX11_gusts_95 (lv_at hl 2 rfl) ?_
              refine lv_iload (pc := 97) hx hb dX11_gusts_97 (lv_at hl 1 rfl) ?_
              obtain ⟨r25, S26, e27, hf⟩ := zB_e hf
              refine zcVi (zEX_ok tt) (As := [.int (p1 / 100), .int r22, .int p3, .int (p4 / 100), .int (p4 - p4 / 100 * 100)]) (pc := 99) C0 hW (kX2_timesOver l D cA h tt H.size N (p1 / 100) r22 p3 (p4 / 100) (p4 - p4 / 100 * 100) S23 r25 S26 e27) (cwV 5 hts (zgV gaX mX_687 mX_688 mX_689 mX_167 mX_288) rfl rfl rfl (by decide +kernel) ⟨Nat.le_of_ble_eq_true rfl, Nat.le_of_ble_eq_true rfl⟩) (va_recv hW.1 hW.2.1 (ci := 2) (q0 := 2) rfl rfl) rfl hl.1 rfl (Nat.le_of_ble_eq_true rfl) dX11_gusts_99 (fun H locs hW => ?_)
              refine lv_istore (pc := 102) (lv' := [(9, .int r25), (8, .int (p1 / 100)), (7, .int (p4 - p4 / 100 * 100)), (6, .int (p4 / 100)), (0, .ref (h 11)), (1, .int p1), (2, .int p2), (3, .int p3), (4, .int p4), (5, .int p5)]) hx hb dX11_gusts_102 hl (by decide) rfl (fun ls hl => ?_)
              refine lv_iload (pc := 104) hx hb dX11_gusts_104 (lv_at hl 9 rfl) ?_
              refine lv_if_ne (pc := 106) (tgt := 114) hx hb dX11_gusts_106 (by decide) (fun c28 => ?_) (fun c28 => ?_)
              · have hf := zf c28 hf
                refine lv_aload_n (pc := 114) hx hb dX11_gusts_114 rfl (lv_at hl 4 rfl) ?_
                refine xg_1201 (pc := 115) C0 hu_11 hW mX_539 dX11_gusts_115 ?_
                refine lv_iload (pc := 118) hx hb dX11_gusts_118 (lv_at hl 1 rfl) ?_
                obtain ⟨r29, S30, e31, hf⟩ := zB_e hf
                refine zcVi (zEX_ok tt) (As := [.int (p1 / 100)]) (pc := 120) C0 hW (kX8_belowOf l D cA h tt H.size (p1 / 100) S26 r29 S30 e31) (cwV 1 hts (zgV gaX mX_598 mX_599 mX_600 mX_66 mX_457) rfl rfl rfl (by decide +kernel) ⟨Nat.le_of_ble_eq_true rfl, Nat.le_of_ble_eq_true rfl⟩) (va_recv hW.1 hW.2.1 (ci := 8) (q0 := 8) rfl rfl) rfl hl.1 rfl (Nat.le_of_ble_eq_true rfl) dX11_gusts_120 (fun H locs hW => ?_)
                refine lv_iload (pc := 123) hx hb dX11_gusts_123 (lv_at hl 3 rfl) ?_
                refine lv_iload (pc := 125) hx hb dX11_gusts_125 (lv_at hl 0 rfl) ?_
                refine lv_isub (pc := 127) hx hb dX11_gusts_127 ?_
                refine lv_imul (pc := 128) hx hb dX11_gusts_128 ?_
                exact zend_i (w := wX cA h) fin hf hW dX11_gusts_129
              · have hf := zt c28 hf
                refine lv_iload (pc := 109) hx hb dX11_gusts_109 (lv_at hl 0 rfl) ?_
                refine lv_goto (pc := 111) (tgt := 129) hx hb dX11_gusts_111 (by decide) ?_
                exact zend_i (w := wX cA h) fin hf hW dX11_gusts_129
            · have hf := zt c21 hf
              refine lv_iconst (pc := 69) (v := (-1)) hx hb dX11_gusts_69 (by decide) ?_
              exact zend_i (w := wX cA h) fin hf hW dX11_gusts_70
        · have hf := zt c13 hf
          refine lv_iconst (pc := 31) (v := (-1)) hx hb dX11_gusts_31 (by decide) ?_
          exact zend_i (w := wX cA h) fin hf hW dX11_gusts_32

def fX11_await (N : Nat) (p1 : Int32) (p2 : Int32) (S : zSt) : Option (Int32 × zSt) :=
  zB (fX11_isPlaceAndHour p1 S) fun r1 S2 => if r1 = 0 then (some ((-1), S2)) else (zB (fX11_takesGroup N p2 S2) fun r5 S6 => if r5 = 0 then (some ((-1), S6)) else (zB (fX2_firstHourOver N (p1 / 100) (p1 - p1 / 100 * 100) S6) fun r9 S10 => some (r9, S10)))
abbrev wX11_await : List Cond := Cond.code yX11_await cX11_await 3 (some .int) :: waX
abbrev rmX11_await : Room := { frames := 7, cells := 0, slots := 0, locals := 159 }
set_option maxHeartbeats 4000000 in
set_option maxRecDepth 100000 in
theorem kX11_await (l : Launch) (D : va_G) (cA : Nat → ClassId) (h tt : Nat → Nat) (sz : Nat) (N : Nat)  (p1 : Int32) (p2 : Int32) (S : zSt) (r : Int32) (S1 : zSt) (hf : fX11_await N p1 p2 S = some (r, S1)) : zMi l yX11_await wX11_await rmX11_await (zEX tt) D (tX cA) (hsX h) [.ref (h 11), .int p1, .int p2] (wX cA h S) (wX cA h S1) sz r := by
  refine zEn_i (cc := cX11_await) (maxL := 3) (own := RX11) (by decide) rfl rfl (hmX cA h S) (Nat.le_of_ble_eq_true rfl) ?_
  intro p e s m args below meth c Q H locs C0 hW fin ls hl
  have hl : lv_has ls 3 [(0, .ref (h 11)), (1, .int p1), (2, .int p2)] := hl
  have hx := C0.1
  have hb := C0.2.1
  have hown := C0.2.2.2.1
  have hts := C0.2.2.2.2
  unfold fX11_await at hf
  refine lv_aload_n (pc := 0) hx hb dX11_await_0 rfl (lv_at hl 0 rfl) ?_
  refine lv_iload_n (pc := 1) hx hb dX11_await_1 rfl (lv_at hl 1 rfl) ?_
  obtain ⟨r1, S2, e3, hf⟩ := zB_e hf
  refine zcVi (zEX_ok tt) (As := [.int p1]) (pc := 2) C0 hW (kX11_isPlaceAndHour l D cA h tt H.size p1 S r1 S2 e3) (cwV 1 hts (zgV gaX mX_646 mX_647 mX_648 mX_151 mX_649) rfl rfl rfl (by decide +kernel) ⟨Nat.le_of_ble_eq_true rfl, Nat.le_of_ble_eq_true rfl⟩) (va_recv hW.1 hW.2.1 (ci := 11) (q0 := 11) rfl rfl) rfl hl.1 rfl (Nat.le_of_ble_eq_true rfl) dX11_await_2 (fun H locs hW => ?_)
  refine lv_if_eq (pc := 5) (tgt := 34) hx hb dX11_await_5 (by decide) (fun c4 => ?_) (fun c4 => ?_)
  · have hf := zt c4 hf
    refine lv_iconst (pc := 34) (v := (-1)) hx hb dX11_await_34 (by decide) ?_
    exact zend_i (w := wX cA h) fin hf hW dX11_await_35
  · have hf := zf c4 hf
    refine lv_aload_n (pc := 8) hx hb dX11_await_8 rfl (lv_at hl 0 rfl) ?_
    refine lv_iload_n (pc := 9) hx hb dX11_await_9 rfl (lv_at hl 2 rfl) ?_
    obtain ⟨r5, S6, e7, hf⟩ := zB_e hf
    refine zcVi (zEX_ok tt) (As := [.int p2]) (pc := 10) C0 hW (kX11_takesGroup l D cA h tt H.size N p2 S2 r5 S6 e7) (cwV 1 hts (zgV gaX mX_650 mX_651 mX_652 mX_151 mX_653) rfl rfl rfl (by decide +kernel) ⟨Nat.le_of_ble_eq_true rfl, Nat.le_of_ble_eq_true rfl⟩) (va_recv hW.1 hW.2.1 (ci := 11) (q0 := 11) rfl rfl) rfl hl.1 rfl (Nat.le_of_ble_eq_true rfl) dX11_await_10 (fun H locs hW => ?_)
    refine lv_if_eq (pc := 13) (tgt := 34) hx hb dX11_await_13 (by decide) (fun c8 => ?_) (fun c8 => ?_)
    · have hf := zt c8 hf
      refine lv_iconst (pc := 34) (v := (-1)) hx hb dX11_await_34 (by decide) ?_
      exact zend_i (w := wX cA h) fin hf hW dX11_await_35
    · have hf := zf c8 hf
      refine lv_aload_n (pc := 16) hx hb dX11_await_16 rfl (lv_at hl 0 rfl) ?_
      refine xg_1205 (pc := 17) C0 hu_11 hW mX_551 dX11_await_17 ?_
      refine lv_iload_n (pc := 20) hx hb dX11_await_20 rfl (lv_at hl 1 rfl) ?_
      refine lv_bipush (pc := 21) (v := 100) hx hb dX11_await_21 (by decide) ?_
      refine lv_idiv (pc := 23) hx hb dX11_await_23 (by decide) ?_
      refine lv_iload_n (pc := 24) hx hb dX11_await_24 rfl (lv_at hl 1 rfl) ?_
      refine lv_bipush (pc := 25) (v := 100) hx hb dX11_await_25 (by decide) ?_
      refine lv_irem (pc := 27) hx hb dX11_await_27 (by decide) ?_
      obtain ⟨r9, S10, e11, hf⟩ := zB_e hf
      refine zcVi (zEX_ok tt) (As := [.int (p1 / 100), .int (p1 - p1 / 100 * 100)]) (pc := 28) C0 hW (kX2_firstHourOver l D cA h tt H.size N (p1 / 100) (p1 - p1 / 100 * 100) S6 r9 S10 e11) (cwV 2 hts (zgV gaX mX_691 mX_692 mX_693 mX_167 mX_293) rfl rfl rfl (by decide +kernel) ⟨Nat.le_of_ble_eq_true rfl, Nat.le_of_ble_eq_true rfl⟩) (va_recv hW.1 hW.2.1 (ci := 2) (q0 := 2) rfl rfl) rfl hl.1 rfl (Nat.le_of_ble_eq_true rfl) dX11_await_28 (fun H locs hW => ?_)
      refine lv_goto (pc := 31) (tgt := 35) hx hb dX11_await_31 (by decide) ?_
      exact zend_i (w := wX cA h) fin hf hW dX11_await_35

def fX11_mustNot (N : Nat) (p1 : Int32) (S : zSt) : Option (Int32 × zSt) :=
  zB (fX11_isPlaceAndHour p1 S) fun r1 S2 => if r1 = 0 then (some ((-1), S2)) else (zB (fX4_riseInForce N (p1 - p1 / 100 * 100) S2) fun r5 S6 => zB (fX2_fallersAsLast N (p1 / 100) r5 S6) fun r8 S9 => some (r8, S9))
abbrev wX11_mustNot : List Cond := Cond.code yX11_mustNot cX11_mustNot 2 (some .int) :: waX
abbrev rmX11_mustNot : Room := { frames := 6, cells := 0, slots := 0, locals := 136 }
set_option maxHeartbeats 4000000 in
set_option maxRecDepth 100000 in
theorem kX11_mustNot (l : Launch) (D : va_G) (cA : Nat → ClassId) (h tt : Nat → Nat) (sz : Nat) (N : Nat)  (p1 : Int32) (S : zSt) (r : Int32) (S1 : zSt) (hf : fX11_mustNot N p1 S = some (r, S1)) : zMi l yX11_mustNot wX11_mustNot rmX11_mustNot (zEX tt) D (tX cA) (hsX h) [.ref (h 11), .int p1] (wX cA h S) (wX cA h S1) sz r := by
  refine zEn_i (cc := cX11_mustNot) (maxL := 2) (own := RX11) (by decide) rfl rfl (hmX cA h S) (Nat.le_of_ble_eq_true rfl) ?_
  intro p e s m args below meth c Q H locs C0 hW fin ls hl
  have hl : lv_has ls 2 [(0, .ref (h 11)), (1, .int p1)] := hl
  have hx := C0.1
  have hb := C0.2.1
  have hown := C0.2.2.2.1
  have hts := C0.2.2.2.2
  unfold fX11_mustNot at hf
  refine lv_aload_n (pc := 0) hx hb dX11_mustNot_0 rfl (lv_at hl 0 rfl) ?_
  refine lv_iload_n (pc := 1) hx hb dX11_mustNot_1 rfl (lv_at hl 1 rfl) ?_
  obtain ⟨r1, S2, e3, hf⟩ := zB_e hf
  refine zcVi (zEX_ok tt) (As := [.int p1]) (pc := 2) C0 hW (kX11_isPlaceAndHour l D cA h tt H.size p1 S r1 S2 e3) (cwV 1 hts (zgV gaX mX_646 mX_647 mX_648 mX_151 mX_649) rfl rfl rfl (by decide +kernel) ⟨Nat.le_of_ble_eq_true rfl, Nat.le_of_ble_eq_true rfl⟩) (va_recv hW.1 hW.2.1 (ci := 11) (q0 := 11) rfl rfl) rfl hl.1 rfl (Nat.le_of_ble_eq_true rfl) dX11_mustNot_2 (fun H locs hW => ?_)
  refine lv_if_ne (pc := 5) (tgt := 10) hx hb dX11_mustNot_5 (by decide) (fun c4 => ?_) (fun c4 => ?_)
  · have hf := zf c4 hf
    refine lv_aload_n (pc := 10) hx hb dX11_mustNot_10 rfl (lv_at hl 0 rfl) ?_
    refine xg_1205 (pc := 11) C0 hu_11 hW mX_551 dX11_mustNot_11 ?_
    refine lv_iload_n (pc := 14) hx hb dX11_mustNot_14 rfl (lv_at hl 1 rfl) ?_
    refine lv_bipush (pc := 15) (v := 100) hx hb dX11_mustNot_15 (by decide) ?_
    refine lv_idiv (pc := 17) hx hb dX11_mustNot_17 (by decide) ?_
    refine lv_aload_n (pc := 18) hx hb dX11_mustNot_18 rfl (lv_at hl 0 rfl) ?_
    refine xg_1202 (pc := 19) C0 hu_11 hW mX_542 dX11_mustNot_19 ?_
    refine lv_iload_n (pc := 22) hx hb dX11_mustNot_22 rfl (lv_at hl 1 rfl) ?_
    refine lv_bipush (pc := 23) (v := 100) hx hb dX11_mustNot_23 (by decide) ?_
    refine lv_irem (pc := 25) hx hb dX11_mustNot_25 (by decide) ?_
    obtain ⟨r5, S6, e7, hf⟩ := zB_e hf
    refine zcVi (zEX_ok tt) (As := [.int (p1 - p1 / 100 * 100)]) (pc := 26) C0 hW (kX4_riseInForce l D cA h tt H.size N (p1 - p1 / 100 * 100) S2 r5 S6 e7) (cwV 1 hts (zgV gaX mX_606 mX_229 mX_230 mX_231 mX_232) rfl rfl rfl (by decide +kernel) ⟨Nat.le_of_ble_eq_true rfl, Nat.le_of_ble_eq_true rfl⟩) (va_recv hW.1 hW.2.1 (ci := 4) (q0 := 4) rfl rfl) rfl hl.1 rfl (Nat.le_of_ble_eq_true rfl) dX11_mustNot_26 (fun H locs hW => ?_)
    obtain ⟨r8, S9, e10, hf⟩ := zB_e hf
    refine zcVi (zEX_ok tt) (As := [.int (p1 / 100), .int r5]) (pc := 29) C0 hW (kX2_fallersAsLast l D cA h tt H.size N (p1 / 100) r5 S6 r8 S9 e10) (cwV 2 hts (zgV gaX mX_695 mX_696 mX_697 mX_167 mX_294) rfl rfl rfl (by decide +kernel) ⟨Nat.le_of_ble_eq_true rfl, Nat.le_of_ble_eq_true rfl⟩) (va_recv hW.1 hW.2.1 (ci := 2) (q0 := 2) rfl rfl) rfl hl.1 rfl (Nat.le_of_ble_eq_true rfl) dX11_mustNot_29 (fun H locs hW => ?_)
    exact zend_i (w := wX cA h) fin hf hW dX11_mustNot_32
  · have hf := zt c4 hf
    refine lv_iconst (pc := 8) (v := (-1)) hx hb dX11_mustNot_8 (by decide) ?_
    exact zend_i (w := wX cA h) fin hf hW dX11_mustNot_9

def fX11_midst (N : Nat) (p1 : Int32) (p2 : Int32) (p3 : Int32) (p4 : Int32) (S : zSt) : Option (Int32 × zSt) :=
  zB (fX11_isPlaceAndHour p1 S) fun r1 S2 => if r1 = 0 then (some ((-1), S2)) else (zB (fX11_takesGroup N p2 S2) fun r5 S6 => if r5 = 0 then (some ((-1), S6)) else (zU (fX11_isWithin p3 1 60) fun r9 => if r9 = 0 then (some ((-1), S6)) else (zU (fX11_isWithin p4 0 1) fun r13 => if r13 = 0 then (some ((-1), S6)) else (zB (fX2_stoppedIn N (p1 / 100) (p1 - p1 / 100 * 100) p3 S6) fun r17 S18 => if p4 = 0 then (some (r17, S18)) else (zB (fX8_cellsOf (p1 / 100) S18) fun r21 S22 => if r17 = r21 then (some ((-2), S22)) else (zB (fX2_comesBack N (p1 / 100) (p1 - p1 / 100 * 100) p3 r17 S22) fun r25 S26 => zU (fX11_asNumber r25) fun r28 => some (r28, S26)))))))
abbrev wX11_midst : List Cond := Cond.code yX11_midst cX11_midst 7 (some .int) :: waX
abbrev rmX11_midst : Room := { frames := 7, cells := 0, slots := 0, locals := 162 }
set_option maxHeartbeats 4000000 in
set_option maxRecDepth 100000 in
theorem kX11_midst (l : Launch) (D : va_G) (cA : Nat → ClassId) (h tt : Nat → Nat) (sz : Nat) (N : Nat)  (p1 : Int32) (p2 : Int32) (p3 : Int32) (p4 : Int32) (S : zSt) (r : Int32) (S1 : zSt) (hf : fX11_midst N p1 p2 p3 p4 S = some (r, S1)) : zMi l yX11_midst wX11_midst rmX11_midst (zEX tt) D (tX cA) (hsX h) [.ref (h 11), .int p1, .int p2, .int p3, .int p4] (wX cA h S) (wX cA h S1) sz r := by
  refine zEn_i (cc := cX11_midst) (maxL := 7) (own := RX11) (by decide) rfl rfl (hmX cA h S) (Nat.le_of_ble_eq_true rfl) ?_
  intro p e s m args below meth c Q H locs C0 hW fin ls hl
  have hl : lv_has ls 7 [(0, .ref (h 11)), (1, .int p1), (2, .int p2), (3, .int p3), (4, .int p4)] := hl
  have hx := C0.1
  have hb := C0.2.1
  have hown := C0.2.2.2.1
  have hts := C0.2.2.2.2
  unfold fX11_midst at hf
  refine lv_aload_n (pc := 0) hx hb dX11_midst_0 rfl (lv_at hl 0 rfl) ?_
  refine lv_iload_n (pc := 1) hx hb dX11_midst_1 rfl (lv_at hl 1 rfl) ?_
  obtain ⟨r1, S2, e3, hf⟩ := zB_e hf
  refine zcVi (zEX_ok tt) (As := [.int p1]) (pc := 2) C0 hW (kX11_isPlaceAndHour l D cA h tt H.size p1 S r1 S2 e3) (cwV 1 hts (zgV gaX mX_646 mX_647 mX_648 mX_151 mX_649) rfl rfl rfl (by decide +kernel) ⟨Nat.le_of_ble_eq_true rfl, Nat.le_of_ble_eq_true rfl⟩) (va_recv hW.1 hW.2.1 (ci := 11) (q0 := 11) rfl rfl) rfl hl.1 rfl (Nat.le_of_ble_eq_true rfl) dX11_midst_2 (fun H locs hW => ?_)
  refine lv_if_eq (pc := 5) (tgt := 36) hx hb dX11_midst_5 (by decide) (fun c4 => ?_) (fun c4 => ?_)
  · have hf := zt c4 hf
    refine lv_iconst (pc := 36) (v := (-1)) hx hb dX11_midst_36 (by decide) ?_
    exact zend_i (w := wX cA h) fin hf hW dX11_midst_37
  · have hf := zf c4 hf
    refine lv_aload_n (pc := 8) hx hb dX11_midst_8 rfl (lv_at hl 0 rfl) ?_
    refine lv_iload_n (pc := 9) hx hb dX11_midst_9 rfl (lv_at hl 2 rfl) ?_
    obtain ⟨r5, S6, e7, hf⟩ := zB_e hf
    refine zcVi (zEX_ok tt) (As := [.int p2]) (pc := 10) C0 hW (kX11_takesGroup l D cA h tt H.size N p2 S2 r5 S6 e7) (cwV 1 hts (zgV gaX mX_650 mX_651 mX_652 mX_151 mX_653) rfl rfl rfl (by decide +kernel) ⟨Nat.le_of_ble_eq_true rfl, Nat.le_of_ble_eq_true rfl⟩) (va_recv hW.1 hW.2.1 (ci := 11) (q0 := 11) rfl rfl) rfl hl.1 rfl (Nat.le_of_ble_eq_true rfl) dX11_midst_10 (fun H locs hW => ?_)
    refine lv_if_eq (pc := 13) (tgt := 36) hx hb dX11_midst_13 (by decide) (fun c8 => ?_) (fun c8 => ?_)
    · have hf := zt c8 hf
      refine lv_iconst (pc := 36) (v := (-1)) hx hb dX11_midst_36 (by decide) ?_
      exact zend_i (w := wX cA h) fin hf hW dX11_midst_37
    · have hf := zf c8 hf
      refine lv_iload_n (pc := 16) hx hb dX11_midst_16 rfl (lv_at hl 3 rfl) ?_
      refine lv_iconst (pc := 17) (v := 1) hx hb dX11_midst_17 (by decide) ?_
      refine lv_bipush (pc := 18) (v := 60) hx hb dX11_midst_18 (by decide) ?_
      obtain ⟨r9, e11, hf⟩ := zU_e hf
      refine zcSi (As := [.int p3, .int 1, .int 60]) (pc := 20) C0 hW (kX11_isWithin l H.size p3 1 60 r9 e11) (va_cwS 3 hts (zgS gaX mX_225 mX_226 mX_151 mX_227) rfl rfl rfl (by decide +kernel) ⟨Nat.le_of_ble_eq_true rfl, Nat.le_of_ble_eq_true rfl⟩) rfl hl.1 rfl (Nat.le_of_ble_eq_true rfl) dX11_midst_20 (fun H locs hW => ?_)
      refine lv_if_eq (pc := 23) (tgt := 36) hx hb dX11_midst_23 (by decide) (fun c12 => ?_) (fun c12 => ?_)
      · have hf := zt c12 hf
        refine lv_iconst (pc := 36) (v := (-1)) hx hb dX11_midst_36 (by decide) ?_
        exact zend_i (w := wX cA h) fin hf hW dX11_midst_37
      · have hf := zf c12 hf
        refine lv_iload (pc := 26) hx hb dX11_midst_26 (lv_at hl 4 rfl) ?_
        refine lv_iconst (pc := 28) (v := 0) hx hb dX11_midst_28 (by decide) ?_
        refine lv_iconst (pc := 29) (v := 1) hx hb dX11_midst_29 (by decide) ?_
        obtain ⟨r13, e15, hf⟩ := zU_e hf
        refine zcSi (As := [.int p4, .int 0, .int 1]) (pc := 30) C0 hW (kX11_isWithin l H.size p4 0 1 r13 e15) (va_cwS 3 hts (zgS gaX mX_225 mX_226 mX_151 mX_227) rfl rfl rfl (by decide +kernel) ⟨Nat.le_of_ble_eq_true rfl, Nat.le_of_ble_eq_true rfl⟩) rfl hl.1 rfl (Nat.le_of_ble_eq_true rfl) dX11_midst_30 (fun H locs hW => ?_)
        refine lv_if_ne (pc := 33) (tgt := 38) hx hb dX11_midst_33 (by decide) (fun c16 => ?_) (fun c16 => ?_)
        · have hf := zf c16 hf
          refine lv_iload_n (pc := 38) hx hb dX11_midst_38 rfl (lv_at hl 1 rfl) ?_
          refine lv_bipush (pc := 39) (v := 100) hx hb dX11_midst_39 (by decide) ?_
          refine lv_idiv (pc := 41) hx hb dX11_midst_41 (by decide) ?_
          refine lv_istore (pc := 42) (lv' := [(5, .int (p1 / 100)), (0, .ref (h 11)), (1, .int p1), (2, .int p2), (3, .int p3), (4, .int p4)]) hx hb dX11_midst_42 hl (by decide) rfl (fun ls hl => ?_)
          refine lv_aload_n (pc := 44) hx hb dX11_midst_44 rfl (lv_at hl 1 rfl) ?_
          refine xg_1205 (pc := 45) C0 hu_11 hW mX_551 dX11_midst_45 ?_
          refine lv_iload (pc := 48) hx hb dX11_midst_48 (lv_at hl 0 rfl) ?_
          refine lv_iload_n (pc := 50) hx hb dX11_midst_50 rfl (lv_at hl 2 rfl) ?_
          refine lv_bipush (pc := 51) (v := 100) hx hb dX11_midst_51 (by decide) ?_
          refine lv_irem (pc := 53) hx hb dX11_midst_53 (by decide) ?_
          refine lv_iload_n (pc := 54) hx hb dX11_midst_54 rfl (lv_at hl 4 rfl) ?_
          obtain ⟨r17, S18, e19, hf⟩ := zB_e hf
          refine zcVi (zEX_ok tt) (As := [.int (p1 / 100), .int (p1 - p1 / 100 * 100), .int p3]) (pc := 55) C0 hW (kX2_stoppedIn l D cA h tt H.size N (p1 / 100) (p1 - p1 / 100 * 100) p3 S6 r17 S18 e19) (cwV 3 hts (zgV gaX mX_699 mX_700 mX_701 mX_167 mX_304) rfl rfl rfl (by decide +kernel) ⟨Nat.le_of_ble_eq_true rfl, Nat.le_of_ble_eq_true rfl⟩) (va_recv hW.1 hW.2.1 (ci := 2) (q0 := 2) rfl rfl) rfl hl.1 rfl (Nat.le_of_ble_eq_true rfl) dX11_midst_55 (fun H locs hW => ?_)
          refine lv_istore (pc := 58) (lv' := [(6, .int r17), (5, .int (p1 / 100)), (0, .ref (h 11)), (1, .int p1), (2, .int p2), (3, .int p3), (4, .int p4)]) hx hb dX11_midst_58 hl (by decide) rfl (fun ls hl => ?_)
          refine lv_iload (pc := 60) hx hb dX11_midst_60 (lv_at hl 6 rfl) ?_
          refine lv_if_ne (pc := 62) (tgt := 68) hx hb dX11_midst_62 (by decide) (fun c20 => ?_) (fun c20 => ?_)
          · have hf := zf c20 hf
            refine lv_iload (pc := 68) hx hb dX11_midst_68 (lv_at hl 0 rfl) ?_
            refine lv_aload_n (pc := 70) hx hb dX11_midst_70 rfl (lv_at hl 2 rfl) ?_
            refine xg_1201 (pc := 71) C0 hu_11 hW mX_539 dX11_midst_71 ?_
            refine lv_iload (pc := 74) hx hb dX11_midst_74 (lv_at hl 1 rfl) ?_
            obtain ⟨r21, S22, e23, hf⟩ := zB_e hf
            refine zcVi (zEX_ok tt) (As := [.int (p1 / 100)]) (pc := 76) C0 hW (kX8_cellsOf l D cA h tt H.size (p1 / 100) S18 r21 S22 e23) (cwV 1 hts (zgV gaX mX_597 mX_176 mX_177 mX_66 mX_178) rfl rfl rfl (by decide +kernel) ⟨Nat.le_of_ble_eq_true rfl, Nat.le_of_ble_eq_true rfl⟩) (va_recv hW.1 hW.2.1 (ci := 8) (q0 := 8) rfl rfl) rfl hl.1 rfl (Nat.le_of_ble_eq_true rfl) dX11_midst_76 (fun H locs hW => ?_)
            refine lv_icmp_ne (pc := 79) (tgt := 87) hx hb dX11_midst_79 (by decide) (fun c24 => ?_) (fun c24 => ?_)
            · have hf := zf c24 hf
              refine lv_aload_n (pc := 87) hx hb dX11_midst_87 rfl (lv_at hl 2 rfl) ?_
              refine xg_1205 (pc := 88) C0 hu_11 hW mX_551 dX11_midst_88 ?_
              refine lv_iload (pc := 91) hx hb dX11_midst_91 (lv_at hl 1 rfl) ?_
              refine lv_iload_n (pc := 93) hx hb dX11_midst_93 rfl (lv_at hl 3 rfl) ?_
              refine lv_bipush (pc := 94) (v := 100) hx hb dX11_midst_94 (by decide) ?_
              refine lv_irem (pc := 96) hx hb dX11_midst_96 (by decide) ?_
              refine lv_iload_n (pc := 97) hx hb dX11_midst_97 rfl (lv_at hl 5 rfl) ?_
              refine lv_iload (pc := 98) hx hb dX11_midst_98 (lv_at hl 0 rfl) ?_
              obtain ⟨r25, S26, e27, hf⟩ := zB_e hf
              refine zcVi (zEX_ok tt) (As := [.int (p1 / 100), .int (p1 - p1 / 100 * 100), .int p3, .int r17]) (pc := 100) C0 hW (kX2_comesBack l D cA h tt H.size N (p1 / 100) (p1 - p1 / 100 * 100) p3 r17 S22 r25 S26 e27) (cwV 4 hts (zgV gaX mX_702 mX_703 mX_704 mX_167 mX_308) rfl rfl rfl (by decide +kernel) ⟨Nat.le_of_ble_eq_true rfl, Nat.le_of_ble_eq_true rfl⟩) (va_recv hW.1 hW.2.1 (ci := 2) (q0 := 2) rfl rfl) rfl hl.1 rfl (Nat.le_of_ble_eq_true rfl) dX11_midst_100 (fun H locs hW => ?_)
              obtain ⟨r28, e30, hf⟩ := zU_e hf
              refine zcSi (As := [.int r25]) (pc := 103) C0 hW (kX11_asNumber l H.size r25 r28 e30) (va_cwS 1 hts (zgS gaX mX_675 mX_267 mX_151 mX_268) rfl rfl rfl (by decide +kernel) ⟨Nat.le_of_ble_eq_true rfl, Nat.le_of_ble_eq_true rfl⟩) rfl hl.1 rfl (Nat.le_of_ble_eq_true rfl) dX11_midst_103 (fun H locs hW => ?_)
              exact zend_i (w := wX cA h) fin hf hW dX11_midst_106
            · have hf := zt c24 hf
              refine lv_bipush (pc := 82) (v := (-2)) hx hb dX11_midst_82 (by decide) ?_
              refine lv_goto (pc := 84) (tgt := 106) hx hb dX11_midst_84 (by decide) ?_
              exact zend_i (w := wX cA h) fin hf hW dX11_midst_106
          · have hf := zt c20 hf
            refine lv_iload (pc := 65) hx hb dX11_midst_65 (lv_at hl 0 rfl) ?_
            exact zend_i (w := wX cA h) fin hf hW dX11_midst_67
        · have hf := zt c16 hf
          refine lv_iconst (pc := 36) (v := (-1)) hx hb dX11_midst_36 (by decide) ?_
          exact zend_i (w := wX cA h) fin hf hW dX11_midst_37

def fX11_line (N : Nat) (p1 : Int32) (p2 : Int32) (S : zSt) : Option (Int32 × zSt) :=
  zB (fX8_has p1 S) fun r1 S2 => if r1 = 0 then (some ((-2000000000), S2)) else (zB (fX11_takesGroup N p2 S2) fun r5 S6 => if r5 = 0 then (some ((-2000000000), S6)) else (zB (fX2_highestRise N p1 (-100) S6) fun r9 S10 => some (r9, S10)))
abbrev wX11_line : List Cond := Cond.code yX11_line cX11_line 3 (some .int) :: waX
abbrev rmX11_line : Room := { frames := 6, cells := 0, slots := 0, locals := 149 }
set_option maxHeartbeats 4000000 in
set_option maxRecDepth 100000 in
theorem kX11_line (l : Launch) (D : va_G) (cA : Nat → ClassId) (h tt : Nat → Nat) (sz : Nat) (N : Nat)  (p1 : Int32) (p2 : Int32) (S : zSt) (r : Int32) (S1 : zSt) (hf : fX11_line N p1 p2 S = some (r, S1)) : zMi l yX11_line wX11_line rmX11_line (zEX tt) D (tX cA) (hsX h) [.ref (h 11), .int p1, .int p2] (wX cA h S) (wX cA h S1) sz r := by
  refine zEn_i (cc := cX11_line) (maxL := 3) (own := RX11) (by decide) rfl rfl (hmX cA h S) (Nat.le_of_ble_eq_true rfl) ?_
  intro p e s m args below meth c Q H locs C0 hW fin ls hl
  have hl : lv_has ls 3 [(0, .ref (h 11)), (1, .int p1), (2, .int p2)] := hl
  have hx := C0.1
  have hb := C0.2.1
  have hown := C0.2.2.2.1
  have hts := C0.2.2.2.2
  unfold fX11_line at hf
  refine lv_aload_n (pc := 0) hx hb dX11_line_0 rfl (lv_at hl 0 rfl) ?_
  refine xg_1201 (pc := 1) C0 hu_11 hW mX_539 dX11_line_1 ?_
  refine lv_iload_n (pc := 4) hx hb dX11_line_4 rfl (lv_at hl 1 rfl) ?_
  obtain ⟨r1, S2, e3, hf⟩ := zB_e hf
  refine zcVi (zEX_ok tt) (As := [.int p1]) (pc := 5) C0 hW (kX8_has l D cA h tt H.size p1 S r1 S2 e3) (cwV 1 hts (zgV gaX mX_596 mX_181 mX_182 mX_66 mX_183) rfl rfl rfl (by decide +kernel) ⟨Nat.le_of_ble_eq_true rfl, Nat.le_of_ble_eq_true rfl⟩) (va_recv hW.1 hW.2.1 (ci := 8) (q0 := 8) rfl rfl) rfl hl.1 rfl (Nat.le_of_ble_eq_true rfl) dX11_line_5 (fun H locs hW => ?_)
  refine lv_if_eq (pc := 8) (tgt := 32) hx hb dX11_line_8 (by decide) (fun c4 => ?_) (fun c4 => ?_)
  · have hf := zt c4 hf
    refine lv_ldc (pc := 32) (v := (-2000000000)) hx hb hown (hts _ mX_629) dX11_line_32 ?_
    exact zend_i (w := wX cA h) fin hf hW dX11_line_34
  · have hf := zf c4 hf
    refine lv_aload_n (pc := 11) hx hb dX11_line_11 rfl (lv_at hl 0 rfl) ?_
    refine lv_iload_n (pc := 12) hx hb dX11_line_12 rfl (lv_at hl 2 rfl) ?_
    obtain ⟨r5, S6, e7, hf⟩ := zB_e hf
    refine zcVi (zEX_ok tt) (As := [.int p2]) (pc := 13) C0 hW (kX11_takesGroup l D cA h tt H.size N p2 S2 r5 S6 e7) (cwV 1 hts (zgV gaX mX_650 mX_651 mX_652 mX_151 mX_653) rfl rfl rfl (by decide +kernel) ⟨Nat.le_of_ble_eq_true rfl, Nat.le_of_ble_eq_true rfl⟩) (va_recv hW.1 hW.2.1 (ci := 11) (q0 := 11) rfl rfl) rfl hl.1 rfl (Nat.le_of_ble_eq_true rfl) dX11_line_13 (fun H locs hW => ?_)
    refine lv_if_eq (pc := 16) (tgt := 32) hx hb dX11_line_16 (by decide) (fun c8 => ?_) (fun c8 => ?_)
    · have hf := zt c8 hf
      refine lv_ldc (pc := 32) (v := (-2000000000)) hx hb hown (hts _ mX_629) dX11_line_32 ?_
      exact zend_i (w := wX cA h) fin hf hW dX11_line_34
    · have hf := zf c8 hf
      refine lv_aload_n (pc := 19) hx hb dX11_line_19 rfl (lv_at hl 0 rfl) ?_
      refine xg_1205 (pc := 20) C0 hu_11 hW mX_551 dX11_line_20 ?_
      refine lv_iload_n (pc := 23) hx hb dX11_line_23 rfl (lv_at hl 1 rfl) ?_
      refine lv_bipush (pc := 24) (v := (-100)) hx hb dX11_line_24 (by decide) ?_
      obtain ⟨r9, S10, e11, hf⟩ := zB_e hf
      refine zcVi (zEX_ok tt) (As := [.int p1, .int (-100)]) (pc := 26) C0 hW (kX2_highestRise l D cA h tt H.size N p1 (-100) S6 r9 S10 e11) (cwV 2 hts (zgV gaX mX_706 mX_282 mX_283 mX_167 mX_284) rfl rfl rfl (by decide +kernel) ⟨Nat.le_of_ble_eq_true rfl, Nat.le_of_ble_eq_true rfl⟩) (va_recv hW.1 hW.2.1 (ci := 2) (q0 := 2) rfl rfl) rfl hl.1 rfl (Nat.le_of_ble_eq_true rfl) dX11_line_26 (fun H locs hW => ?_)
      refine lv_goto (pc := 29) (tgt := 34) hx hb dX11_line_29 (by decide) ?_
      exact zend_i (w := wX cA h) fin hf hW dX11_line_34

def fX11_wall (N : Nat) (p1 : Int32) (p2 : Int32) (S : zSt) : Option (Int32 × zSt) :=
  zB (fX6_take N p1 0 S) fun r1 S2 => if r1 = 0 then (some ((-2000000000), S2)) else (zU (fX11_isWithin p2 0 1) fun r5 => if r5 = 0 then (some ((-2000000000), S2)) else (zU (fX2_seekWall N S2) fun S10 => if p2 = 0 then (some ((S10.1 303), S10)) else (some ((S10.1 304), S10))))
abbrev wX11_wall : List Cond := Cond.code yX11_wall cX11_wall 3 (some .int) :: waX
abbrev rmX11_wall : Room := { frames := 7, cells := 0, slots := 0, locals := 171 }
set_option maxHeartbeats 4000000 in
set_option maxRecDepth 100000 in
theorem kX11_wall (l : Launch) (D : va_G) (cA : Nat → ClassId) (h tt : Nat → Nat) (sz : Nat) (N : Nat)  (p1 : Int32) (p2 : Int32) (S : zSt) (r : Int32) (S1 : zSt) (hf : fX11_wall N p1 p2 S = some (r, S1)) : zMi l yX11_wall wX11_wall rmX11_wall (zEX tt) D (tX cA) (hsX h) [.ref (h 11), .int p1, .int p2] (wX cA h S) (wX cA h S1) sz r := by
  refine zEn_i (cc := cX11_wall) (maxL := 3) (own := RX11) (by decide) rfl rfl (hmX cA h S) (Nat.le_of_ble_eq_true rfl) ?_
  intro p e s m args below meth c Q H locs C0 hW fin ls hl
  have hl : lv_has ls 3 [(0, .ref (h 11)), (1, .int p1), (2, .int p2)] := hl
  have hx := C0.1
  have hb := C0.2.1
  have hown := C0.2.2.2.1
  have hts := C0.2.2.2.2
  unfold fX11_wall at hf
  refine lv_aload_n (pc := 0) hx hb dX11_wall_0 rfl (lv_at hl 0 rfl) ?_
  refine xg_1204 (pc := 1) C0 hu_11 hW mX_548 dX11_wall_1 ?_
  refine lv_iload_n (pc := 4) hx hb dX11_wall_4 rfl (lv_at hl 1 rfl) ?_
  refine lv_iconst (pc := 5) (v := 0) hx hb dX11_wall_5 (by decide) ?_
  obtain ⟨r1, S2, e3, hf⟩ := zB_e hf
  refine zcVi (zEX_ok tt) (As := [.int p1, .int 0]) (pc := 6) C0 hW (kX6_take l D cA h tt H.size N p1 0 S r1 S2 e3) (cwV 2 hts (zgV gaX mX_654 mX_655 mX_656 mX_133 mX_420) rfl rfl rfl (by decide +kernel) ⟨Nat.le_of_ble_eq_true rfl, Nat.le_of_ble_eq_true rfl⟩) (va_recv hW.1 hW.2.1 (ci := 6) (q0 := 6) rfl rfl) rfl hl.1 rfl (Nat.le_of_ble_eq_true rfl) dX11_wall_6 (fun H locs hW => ?_)
  refine lv_if_eq (pc := 9) (tgt := 21) hx hb dX11_wall_9 (by decide) (fun c4 => ?_) (fun c4 => ?_)
  · have hf := zt c4 hf
    refine lv_ldc (pc := 21) (v := (-2000000000)) hx hb hown (hts _ mX_629) dX11_wall_21 ?_
    exact zend_i (w := wX cA h) fin hf hW dX11_wall_23
  · have hf := zf c4 hf
    refine lv_iload_n (pc := 12) hx hb dX11_wall_12 rfl (lv_at hl 2 rfl) ?_
    refine lv_iconst (pc := 13) (v := 0) hx hb dX11_wall_13 (by decide) ?_
    refine lv_iconst (pc := 14) (v := 1) hx hb dX11_wall_14 (by decide) ?_
    obtain ⟨r5, e7, hf⟩ := zU_e hf
    refine zcSi (As := [.int p2, .int 0, .int 1]) (pc := 15) C0 hW (kX11_isWithin l H.size p2 0 1 r5 e7) (va_cwS 3 hts (zgS gaX mX_225 mX_226 mX_151 mX_227) rfl rfl rfl (by decide +kernel) ⟨Nat.le_of_ble_eq_true rfl, Nat.le_of_ble_eq_true rfl⟩) rfl hl.1 rfl (Nat.le_of_ble_eq_true rfl) dX11_wall_15 (fun H locs hW => ?_)
    refine lv_if_ne (pc := 18) (tgt := 24) hx hb dX11_wall_18 (by decide) (fun c8 => ?_) (fun c8 => ?_)
    · have hf := zf c8 hf
      refine lv_aload_n (pc := 24) hx hb dX11_wall_24 rfl (lv_at hl 0 rfl) ?_
      refine xg_1205 (pc := 25) C0 hu_11 hW mX_551 dX11_wall_25 ?_
      obtain ⟨S10, e11, hf⟩ := zU_e hf
      refine zcVv (zEX_ok tt) (As := []) (pc := 28) C0 hW (kX2_seekWall l D cA h tt H.size N S2 S10 e11) (cwV 0 hts (zgV gaX mX_708 mX_709 mX_710 mX_167 mX_280) rfl rfl rfl (by decide +kernel) ⟨Nat.le_of_ble_eq_true rfl, Nat.le_of_ble_eq_true rfl⟩) (va_recv hW.1 hW.2.1 (ci := 2) (q0 := 2) rfl rfl) rfl hl.1 rfl (Nat.le_of_ble_eq_true rfl) dX11_wall_28 (fun H locs hW => ?_)
      refine lv_iload_n (pc := 31) hx hb dX11_wall_31 rfl (lv_at hl 2 rfl) ?_
      refine lv_if_ne (pc := 32) (tgt := 45) hx hb dX11_wall_32 (by decide) (fun c12 => ?_) (fun c12 => ?_)
      · have hf := zf c12 hf
        refine lv_aload_n (pc := 45) hx hb dX11_wall_45 rfl (lv_at hl 0 rfl) ?_
        refine xg_1205 (pc := 46) C0 hu_11 hW mX_551 dX11_wall_46 ?_
        refine xg_304 (pc := 49) C0 hu_2 hW mX_678 dX11_wall_49 ?_
        exact zend_i (w := wX cA h) fin hf hW dX11_wall_52
      · have hf := zt c12 hf
        refine lv_aload_n (pc := 35) hx hb dX11_wall_35 rfl (lv_at hl 0 rfl) ?_
        refine xg_1205 (pc := 36) C0 hu_11 hW mX_551 dX11_wall_36 ?_
        refine xg_303 (pc := 39) C0 hu_2 hW mX_677 dX11_wall_39 ?_
        refine lv_goto (pc := 42) (tgt := 52) hx hb dX11_wall_42 (by decide) ?_
        exact zend_i (w := wX cA h) fin hf hW dX11_wall_52
    · have hf := zt c8 hf
      refine lv_ldc (pc := 21) (v := (-2000000000)) hx hb hown (hts _ mX_629) dX11_wall_21 ?_
      exact zend_i (w := wX cA h) fin hf hW dX11_wall_23

def fX11_roped (N : Nat) (p1 : Int32) (p2 : Int32) (p3 : Int32) (S : zSt) : Option (Int32 × zSt) :=
  zB (fX11_isPlaceAndHour p1 S) fun r1 S2 => if r1 = 0 then (some ((-1), S2)) else (zB (fX11_takesGroup N p2 S2) fun r5 S6 => if r5 = 0 then (some ((-1), S6)) else (zB (fX11_isRankAndCell p3 (p1 / 100) S6) fun r9 S10 => if r9 = 0 then (some ((-1), S10)) else (zB (fX4_riseInForce N (p1 - p1 / 100 * 100) S10) fun r13 S14 => zU (fX2_enter N (p1 / 100) (p3 - p3 / 100 * 100) r13 0 S14) fun S17 => zB (fX6_pulledInBy N (p3 / 100) S17) fun r19 S20 => some (r19, S20))))
abbrev wX11_roped : List Cond := Cond.code yX11_roped cX11_roped 4 (some .int) :: waX
abbrev rmX11_roped : Room := { frames := 6, cells := 0, slots := 0, locals := 136 }
set_option maxHeartbeats 4000000 in
set_option maxRecDepth 100000 in
theorem kX11_roped (l : Launch) (D : va_G) (cA : Nat → ClassId) (h tt : Nat → Nat) (sz : Nat) (N : Nat)  (p1 : Int32) (p2 : Int32) (p3 : Int32) (S : zSt) (r : Int32) (S1 : zSt) (hf : fX11_roped N p1 p2 p3 S = some (r, S1)) : zMi l yX11_roped wX11_roped rmX11_roped (zEX tt) D (tX cA) (hsX h) [.ref (h 11), .int p1, .int p2, .int p3] (wX cA h S) (wX cA h S1) sz r := by
  refine zEn_i (cc := cX11_roped) (maxL := 4) (own := RX11) (by decide) rfl rfl (hmX cA h S) (Nat.le_of_ble_eq_true rfl) ?_
  intro p e s m args below meth c Q H locs C0 hW fin ls hl
  have hl : lv_has ls 4 [(0, .ref (h 11)), (1, .int p1), (2, .int p2), (3, .int p3)] := hl
  have hx := C0.1
  have hb := C0.2.1
  have hown := C0.2.2.2.1
  have hts := C0.2.2.2.2
  unfold fX11_roped at hf
  refine lv_aload_n (pc := 0) hx hb dX11_roped_0 rfl (lv_at hl 0 rfl) ?_
  refine lv_iload_n (pc := 1) hx hb dX11_roped_1 rfl (lv_at hl 1 rfl) ?_
  obtain ⟨r1, S2, e3, hf⟩ := zB_e hf
  refine zcVi (zEX_ok tt) (As := [.int p1]) (pc := 2) C0 hW (kX11_isPlaceAndHour l D cA h tt H.size p1 S r1 S2 e3) (cwV 1 hts (zgV gaX mX_646 mX_647 mX_648 mX_151 mX_649) rfl rfl rfl (by decide +kernel) ⟨Nat.le_of_ble_eq_true rfl, Nat.le_of_ble_eq_true rfl⟩) (va_recv hW.1 hW.2.1 (ci := 11) (q0 := 11) rfl rfl) rfl hl.1 rfl (Nat.le_of_ble_eq_true rfl) dX11_roped_2 (fun H locs hW => ?_)
  refine lv_if_eq (pc := 5) (tgt := 28) hx hb dX11_roped_5 (by decide) (fun c4 => ?_) (fun c4 => ?_)
  · have hf := zt c4 hf
    refine lv_iconst (pc := 28) (v := (-1)) hx hb dX11_roped_28 (by decide) ?_
    exact zend_i (w := wX cA h) fin hf hW dX11_roped_29
  · have hf := zf c4 hf
    refine lv_aload_n (pc := 8) hx hb dX11_roped_8 rfl (lv_at hl 0 rfl) ?_
    refine lv_iload_n (pc := 9) hx hb dX11_roped_9 rfl (lv_at hl 2 rfl) ?_
    obtain ⟨r5, S6, e7, hf⟩ := zB_e hf
    refine zcVi (zEX_ok tt) (As := [.int p2]) (pc := 10) C0 hW (kX11_takesGroup l D cA h tt H.size N p2 S2 r5 S6 e7) (cwV 1 hts (zgV gaX mX_650 mX_651 mX_652 mX_151 mX_653) rfl rfl rfl (by decide +kernel) ⟨Nat.le_of_ble_eq_true rfl, Nat.le_of_ble_eq_true rfl⟩) (va_recv hW.1 hW.2.1 (ci := 11) (q0 := 11) rfl rfl) rfl hl.1 rfl (Nat.le_of_ble_eq_true rfl) dX11_roped_10 (fun H locs hW => ?_)
    refine lv_if_eq (pc := 13) (tgt := 28) hx hb dX11_roped_13 (by decide) (fun c8 => ?_) (fun c8 => ?_)
    · have hf := zt c8 hf
      refine lv_iconst (pc := 28) (v := (-1)) hx hb dX11_roped_28 (by decide) ?_
      exact zend_i (w := wX cA h) fin hf hW dX11_roped_29
    · have hf := zf c8 hf
      refine lv_aload_n (pc := 16) hx hb dX11_roped_16 rfl (lv_at hl 0 rfl) ?_
      refine lv_iload_n (pc := 17) hx hb dX11_roped_17 rfl (lv_at hl 3 rfl) ?_
      refine lv_iload_n (pc := 18) hx hb dX11_roped_18 rfl (lv_at hl 1 rfl) ?_
      refine lv_bipush (pc := 19) (v := 100) hx hb dX11_roped_19 (by decide) ?_
      refine lv_idiv (pc := 21) hx hb dX11_roped_21 (by decide) ?_
      obtain ⟨r9, S10, e11, hf⟩ := zB_e hf
      refine zcVi (zEX_ok tt) (As := [.int p3, .int (p1 / 100)]) (pc := 22) C0 hW (kX11_isRankAndCell l D cA h tt H.size p3 (p1 / 100) S6 r9 S10 e11) (cwV 2 hts (zgV gaX mX_657 mX_658 mX_659 mX_151 mX_660) rfl rfl rfl (by decide +kernel) ⟨Nat.le_of_ble_eq_true rfl, Nat.le_of_ble_eq_true rfl⟩) (va_recv hW.1 hW.2.1 (ci := 11) (q0 := 11) rfl rfl) rfl hl.1 rfl (Nat.le_of_ble_eq_true rfl) dX11_roped_22 (fun H locs hW => ?_)
      refine lv_if_ne (pc := 25) (tgt := 30) hx hb dX11_roped_25 (by decide) (fun c12 => ?_) (fun c12 => ?_)
      · have hf := zf c12 hf
        refine lv_aload_n (pc := 30) hx hb dX11_roped_30 rfl (lv_at hl 0 rfl) ?_
        refine xg_1205 (pc := 31) C0 hu_11 hW mX_551 dX11_roped_31 ?_
        refine lv_iload_n (pc := 34) hx hb dX11_roped_34 rfl (lv_at hl 1 rfl) ?_
        refine lv_bipush (pc := 35) (v := 100) hx hb dX11_roped_35 (by decide) ?_
        refine lv_idiv (pc := 37) hx hb dX11_roped_37 (by decide) ?_
        refine lv_iload_n (pc := 38) hx hb dX11_roped_38 rfl (lv_at hl 3 rfl) ?_
        refine lv_bipush (pc := 39) (v := 100) hx hb dX11_roped_39 (by decide) ?_
        refine lv_irem (pc := 41) hx hb dX11_roped_41 (by decide) ?_
        refine lv_aload_n (pc := 42) hx hb dX11_roped_42 rfl (lv_at hl 0 rfl) ?_
        refine xg_1202 (pc := 43) C0 hu_11 hW mX_542 dX11_roped_43 ?_
        refine lv_iload_n (pc := 46) hx hb dX11_roped_46 rfl (lv_at hl 1 rfl) ?_
        refine lv_bipush (pc := 47) (v := 100) hx hb dX11_roped_47 (by decide) ?_
        refine lv_irem (pc := 49) hx hb dX11_roped_49 (by decide) ?_
        obtain ⟨r13, S14, e15, hf⟩ := zB_e hf
        refine zcVi (zEX_ok tt) (As := [.int (p1 - p1 / 100 * 100)]) (pc := 50) C0 hW (kX4_riseInForce l D cA h tt H.size N (p1 - p1 / 100 * 100) S10 r13 S14 e15) (cwV 1 hts (zgV gaX mX_606 mX_229 mX_230 mX_231 mX_232) rfl rfl rfl (by decide +kernel) ⟨Nat.le_of_ble_eq_true rfl, Nat.le_of_ble_eq_true rfl⟩) (va_recv hW.1 hW.2.1 (ci := 4) (q0 := 4) rfl rfl) rfl hl.1 rfl (Nat.le_of_ble_eq_true rfl) dX11_roped_50 (fun H locs hW => ?_)
        refine lv_iconst (pc := 53) (v := 0) hx hb dX11_roped_53 (by decide) ?_
        obtain ⟨S17, e18, hf⟩ := zU_e hf
        refine zcVv (zEX_ok tt) (As := [.int (p1 / 100), .int (p3 - p3 / 100 * 100), .int r13, .int 0]) (pc := 54) C0 hW (kX2_enter l D cA h tt H.size N (p1 / 100) (p3 - p3 / 100 * 100) r13 0 S14 S17 e18) (cwV 4 hts (zgV gaX mX_662 mX_165 mX_166 mX_167 mX_109) rfl rfl rfl (by decide +kernel) ⟨Nat.le_of_ble_eq_true rfl, Nat.le_of_ble_eq_true rfl⟩) (va_recv hW.1 hW.2.1 (ci := 2) (q0 := 2) rfl rfl) rfl hl.1 rfl (Nat.le_of_ble_eq_true rfl) dX11_roped_54 (fun H locs hW => ?_)
        refine lv_aload_n (pc := 57) hx hb dX11_roped_57 rfl (lv_at hl 0 rfl) ?_
        refine xg_1204 (pc := 58) C0 hu_11 hW mX_548 dX11_roped_58 ?_
        refine lv_iload_n (pc := 61) hx hb dX11_roped_61 rfl (lv_at hl 3 rfl) ?_
        refine lv_bipush (pc := 62) (v := 100) hx hb dX11_roped_62 (by decide) ?_
        refine lv_idiv (pc := 64) hx hb dX11_roped_64 (by decide) ?_
        obtain ⟨r19, S20, e21, hf⟩ := zB_e hf
        refine zcVi (zEX_ok tt) (As := [.int (p3 / 100)]) (pc := 65) C0 hW (kX6_pulledInBy l D cA h tt H.size N (p3 / 100) S17 r19 S20 e21) (cwV 1 hts (zgV gaX mX_712 mX_713 mX_714 mX_133 mX_436) rfl rfl rfl (by decide +kernel) ⟨Nat.le_of_ble_eq_true rfl, Nat.le_of_ble_eq_true rfl⟩) (va_recv hW.1 hW.2.1 (ci := 6) (q0 := 6) rfl rfl) rfl hl.1 rfl (Nat.le_of_ble_eq_true rfl) dX11_roped_65 (fun H locs hW => ?_)
        exact zend_i (w := wX cA h) fin hf hW dX11_roped_68
      · have hf := zt c12 hf
        refine lv_iconst (pc := 28) (v := (-1)) hx hb dX11_roped_28 (by decide) ?_
        exact zend_i (w := wX cA h) fin hf hW dX11_roped_29

def fX11_stick (N : Nat) (p1 : Int32) (p2 : Int32) (S : zSt) : Option (Int32 × zSt) :=
  zB (fX11_isPlaceAndHour p1 S) fun r1 S2 => if r1 = 0 then (some ((-1), S2)) else (zU (fX11_isWithin p2 11 999) fun r5 => if r5 = 0 then (some ((-1), S2)) else (if (p2 - p2 / 10 * 10) = 0 then (some ((-1), S2)) else (zU (fX11_quotient (10 * (p2 / 10)) (p2 - p2 / 10 * 10)) fun r10 => zB (fX4_riseInForce N (p1 - p1 / 100 * 100) S2) fun r13 S14 => zB (fX8_cellsNearPace N (p1 / 100) r13 r10 S14) fun r16 S17 => some (r16, S17))))
abbrev wX11_stick : List Cond := Cond.code yX11_stick cX11_stick 4 (some .int) :: waX
abbrev rmX11_stick : Room := { frames := 6, cells := 0, slots := 0, locals := 136 }
set_option maxHeartbeats 4000000 in
set_option maxRecDepth 100000 in
theorem kX11_stick (l : Launch) (D : va_G) (cA : Nat → ClassId) (h tt : Nat → Nat) (sz : Nat) (N : Nat)  (p1 : Int32) (p2 : Int32) (S : zSt) (r : Int32) (S1 : zSt) (hf : fX11_stick N p1 p2 S = some (r, S1)) : zMi l yX11_stick wX11_stick rmX11_stick (zEX tt) D (tX cA) (hsX h) [.ref (h 11), .int p1, .int p2] (wX cA h S) (wX cA h S1) sz r := by
  refine zEn_i (cc := cX11_stick) (maxL := 4) (own := RX11) (by decide) rfl rfl (hmX cA h S) (Nat.le_of_ble_eq_true rfl) ?_
  intro p e s m args below meth c Q H locs C0 hW fin ls hl
  have hl : lv_has ls 4 [(0, .ref (h 11)), (1, .int p1), (2, .int p2)] := hl
  have hx := C0.1
  have hb := C0.2.1
  have hown := C0.2.2.2.1
  have hts := C0.2.2.2.2
  unfold fX11_stick at hf
  refine lv_aload_n (pc := 0) hx hb dX11_stick_0 rfl (lv_at hl 0 rfl) ?_
  refine lv_iload_n (pc := 1) hx hb dX11_stick_1 rfl (lv_at hl 1 rfl) ?_
  obtain ⟨r1, S2, e3, hf⟩ := zB_e hf
  refine zcVi (zEX_ok tt) (As := [.int p1]) (pc := 2) C0 hW (kX11_isPlaceAndHour l D cA h tt H.size p1 S r1 S2 e3) (cwV 1 hts (zgV gaX mX_646 mX_647 mX_648 mX_151 mX_649) rfl rfl rfl (by decide +kernel) ⟨Nat.le_of_ble_eq_true rfl, Nat.le_of_ble_eq_true rfl⟩) (va_recv hW.1 hW.2.1 (ci := 11) (q0 := 11) rfl rfl) rfl hl.1 rfl (Nat.le_of_ble_eq_true rfl) dX11_stick_2 (fun H locs hW => ?_)
  refine lv_if_eq (pc := 5) (tgt := 27) hx hb dX11_stick_5 (by decide) (fun c4 => ?_) (fun c4 => ?_)
  · have hf := zt c4 hf
    refine lv_iconst (pc := 27) (v := (-1)) hx hb dX11_stick_27 (by decide) ?_
    exact zend_i (w := wX cA h) fin hf hW dX11_stick_28
  · have hf := zf c4 hf
    refine lv_iload_n (pc := 8) hx hb dX11_stick_8 rfl (lv_at hl 2 rfl) ?_
    refine lv_bipush (pc := 9) (v := 11) hx hb dX11_stick_9 (by decide) ?_
    refine lv_sipush (pc := 11) (v := 999) hx hb dX11_stick_11 (by decide) ?_
    obtain ⟨r5, e7, hf⟩ := zU_e hf
    refine zcSi (As := [.int p2, .int 11, .int 999]) (pc := 14) C0 hW (kX11_isWithin l H.size p2 11 999 r5 e7) (va_cwS 3 hts (zgS gaX mX_225 mX_226 mX_151 mX_227) rfl rfl rfl (by decide +kernel) ⟨Nat.le_of_ble_eq_true rfl, Nat.le_of_ble_eq_true rfl⟩) rfl hl.1 rfl (Nat.le_of_ble_eq_true rfl) dX11_stick_14 (fun H locs hW => ?_)
    refine lv_if_eq (pc := 17) (tgt := 27) hx hb dX11_stick_17 (by decide) (fun c8 => ?_) (fun c8 => ?_)
    · have hf := zt c8 hf
      refine lv_iconst (pc := 27) (v := (-1)) hx hb dX11_stick_27 (by decide) ?_
      exact zend_i (w := wX cA h) fin hf hW dX11_stick_28
    · have hf := zf c8 hf
      refine lv_iload_n (pc := 20) hx hb dX11_stick_20 rfl (lv_at hl 2 rfl) ?_
      refine lv_bipush (pc := 21) (v := 10) hx hb dX11_stick_21 (by decide) ?_
      refine lv_irem (pc := 23) hx hb dX11_stick_23 (by decide) ?_
      refine lv_if_ne (pc := 24) (tgt := 29) hx hb dX11_stick_24 (by decide) (fun c9 => ?_) (fun c9 => ?_)
      · have hf := zf c9 hf
        refine lv_bipush (pc := 29) (v := 10) hx hb dX11_stick_29 (by decide) ?_
        refine lv_iload_n (pc := 31) hx hb dX11_stick_31 rfl (lv_at hl 2 rfl) ?_
        refine lv_bipush (pc := 32) (v := 10) hx hb dX11_stick_32 (by decide) ?_
        refine lv_idiv (pc := 34) hx hb dX11_stick_34 (by decide) ?_
        refine lv_imul (pc := 35) hx hb dX11_stick_35 ?_
        refine lv_iload_n (pc := 36) hx hb dX11_stick_36 rfl (lv_at hl 2 rfl) ?_
        refine lv_bipush (pc := 37) (v := 10) hx hb dX11_stick_37 (by decide) ?_
        refine lv_irem (pc := 39) hx hb dX11_stick_39 (by decide) ?_
        obtain ⟨r10, e12, hf⟩ := zU_e hf
        refine zcSi (As := [.int (10 * (p2 / 10)), .int (p2 - p2 / 10 * 10)]) (pc := 40) C0 hW (kX11_quotient l H.size (10 * (p2 / 10)) (p2 - p2 / 10 * 10) r10 e12) (va_cwS 2 hts (zgS gaX mX_716 mX_150 mX_151 mX_152) rfl rfl rfl (by decide +kernel) ⟨Nat.le_of_ble_eq_true rfl, Nat.le_of_ble_eq_true rfl⟩) rfl hl.1 rfl (Nat.le_of_ble_eq_true rfl) dX11_stick_40 (fun H locs hW => ?_)
        refine lv_istore_n (pc := 43) (lv' := [(3, .int r10), (0, .ref (h 11)), (1, .int p1), (2, .int p2)]) hx hb dX11_stick_43 rfl hl (by decide) rfl (fun ls hl => ?_)
        refine lv_aload_n (pc := 44) hx hb dX11_stick_44 rfl (lv_at hl 1 rfl) ?_
        refine xg_1201 (pc := 45) C0 hu_11 hW mX_539 dX11_stick_45 ?_
        refine lv_iload_n (pc := 48) hx hb dX11_stick_48 rfl (lv_at hl 2 rfl) ?_
        refine lv_bipush (pc := 49) (v := 100) hx hb dX11_stick_49 (by decide) ?_
        refine lv_idiv (pc := 51) hx hb dX11_stick_51 (by decide) ?_
        refine lv_aload_n (pc := 52) hx hb dX11_stick_52 rfl (lv_at hl 1 rfl) ?_
        refine xg_1202 (pc := 53) C0 hu_11 hW mX_542 dX11_stick_53 ?_
        refine lv_iload_n (pc := 56) hx hb dX11_stick_56 rfl (lv_at hl 2 rfl) ?_
        refine lv_bipush (pc := 57) (v := 100) hx hb dX11_stick_57 (by decide) ?_
        refine lv_irem (pc := 59) hx hb dX11_stick_59 (by decide) ?_
        obtain ⟨r13, S14, e15, hf⟩ := zB_e hf
        refine zcVi (zEX_ok tt) (As := [.int (p1 - p1 / 100 * 100)]) (pc := 60) C0 hW (kX4_riseInForce l D cA h tt H.size N (p1 - p1 / 100 * 100) S2 r13 S14 e15) (cwV 1 hts (zgV gaX mX_606 mX_229 mX_230 mX_231 mX_232) rfl rfl rfl (by decide +kernel) ⟨Nat.le_of_ble_eq_true rfl, Nat.le_of_ble_eq_true rfl⟩) (va_recv hW.1 hW.2.1 (ci := 4) (q0 := 4) rfl rfl) rfl hl.1 rfl (Nat.le_of_ble_eq_true rfl) dX11_stick_60 (fun H locs hW => ?_)
        refine lv_iload_n (pc := 63) hx hb dX11_stick_63 rfl (lv_at hl 0 rfl) ?_
        obtain ⟨r16, S17, e18, hf⟩ := zB_e hf
        refine zcVi (zEX_ok tt) (As := [.int (p1 / 100), .int r13, .int r10]) (pc := 64) C0 hW (kX8_cellsNearPace l D cA h tt H.size N (p1 / 100) r13 r10 S14 r16 S17 e18) (cwV 3 hts (zgV gaX mX_717 mX_718 mX_719 mX_66 mX_458) rfl rfl rfl (by decide +kernel) ⟨Nat.le_of_ble_eq_true rfl, Nat.le_of_ble_eq_true rfl⟩) (va_recv hW.1 hW.2.1 (ci := 8) (q0 := 8) rfl rfl) rfl hl.1 rfl (Nat.le_of_ble_eq_true rfl) dX11_stick_64 (fun H locs hW => ?_)
        exact zend_i (w := wX cA h) fin hf hW dX11_stick_67
      · have hf := zt c9 hf
        refine lv_iconst (pc := 27) (v := (-1)) hx hb dX11_stick_27 (by decide) ?_
        exact zend_i (w := wX cA h) fin hf hW dX11_stick_28

def fX11_notch (p1 : Int32) (p2 : Int32) (S : zSt) : Option (Int32 × zSt) :=
  zB (fX5_mayCome p1 p2 S) fun r1 S2 => if r1 = 0 then (some ((-1), S2)) else (zB (fX5_isFull S2) fun r5 S6 => if r5 = 0 then (zB (fX5_add p1 p2 S6) fun r9 S10 => some (r9, S10)) else (some ((-3), S6)))
abbrev wX11_notch : List Cond := Cond.code yX11_notch cX11_notch 3 (some .int) :: waX
abbrev rmX11_notch : Room := { frames := 3, cells := 0, slots := 0, locals := 65 }
set_option maxHeartbeats 4000000 in
set_option maxRecDepth 100000 in
theorem kX11_notch (l : Launch) (D : va_G) (cA : Nat → ClassId) (h tt : Nat → Nat) (sz : Nat)  (p1 : Int32) (p2 : Int32) (S : zSt) (r : Int32) (S1 : zSt) (hf : fX11_notch p1 p2 S = some (r, S1)) : zMi l yX11_notch wX11_notch rmX11_notch (zEX tt) D (tX cA) (hsX h) [.ref (h 11), .int p1, .int p2] (wX cA h S) (wX cA h S1) sz r := by
  refine zEn_i (cc := cX11_notch) (maxL := 3) (own := RX11) (by decide) rfl rfl (hmX cA h S) (Nat.le_of_ble_eq_true rfl) ?_
  intro p e s m args below meth c Q H locs C0 hW fin ls hl
  have hl : lv_has ls 3 [(0, .ref (h 11)), (1, .int p1), (2, .int p2)] := hl
  have hx := C0.1
  have hb := C0.2.1
  have hown := C0.2.2.2.1
  have hts := C0.2.2.2.2
  unfold fX11_notch at hf
  refine lv_aload_n (pc := 0) hx hb dX11_notch_0 rfl (lv_at hl 0 rfl) ?_
  refine xg_1207 (pc := 1) C0 hu_11 hW mX_557 dX11_notch_1 ?_
  refine lv_iload_n (pc := 4) hx hb dX11_notch_4 rfl (lv_at hl 1 rfl) ?_
  refine lv_iload_n (pc := 5) hx hb dX11_notch_5 rfl (lv_at hl 2 rfl) ?_
  obtain ⟨r1, S2, e3, hf⟩ := zB_e hf
  refine zcVi (zEX_ok tt) (As := [.int p1, .int p2]) (pc := 6) C0 hW (kX5_mayCome l D cA h tt H.size p1 p2 S r1 S2 e3) (cwV 2 hts (zgV gaX mX_721 mX_722 mX_723 mX_407 mX_400) rfl rfl rfl (by decide +kernel) ⟨Nat.le_of_ble_eq_true rfl, Nat.le_of_ble_eq_true rfl⟩) (va_recv hW.1 hW.2.1 (ci := 5) (q0 := 5) rfl rfl) rfl hl.1 rfl (Nat.le_of_ble_eq_true rfl) dX11_notch_6 (fun H locs hW => ?_)
  refine lv_if_ne (pc := 9) (tgt := 14) hx hb dX11_notch_9 (by decide) (fun c4 => ?_) (fun c4 => ?_)
  · have hf := zf c4 hf
    refine lv_aload_n (pc := 14) hx hb dX11_notch_14 rfl (lv_at hl 0 rfl) ?_
    refine xg_1207 (pc := 15) C0 hu_11 hW mX_557 dX11_notch_15 ?_
    obtain ⟨r5, S6, e7, hf⟩ := zB_e hf
    refine zcVi (zEX_ok tt) (As := []) (pc := 18) C0 hW (kX5_isFull l D cA h tt H.size S2 r5 S6 e7) (cwV 0 hts (zgV gaX mX_724 mX_405 mX_406 mX_407 mX_398) rfl rfl rfl (by decide +kernel) ⟨Nat.le_of_ble_eq_true rfl, Nat.le_of_ble_eq_true rfl⟩) (va_recv hW.1 hW.2.1 (ci := 5) (q0 := 5) rfl rfl) rfl hl.1 rfl (Nat.le_of_ble_eq_true rfl) dX11_notch_18 (fun H locs hW => ?_)
    refine lv_if_eq (pc := 21) (tgt := 29) hx hb dX11_notch_21 (by decide) (fun c8 => ?_) (fun c8 => ?_)
    · have hf := zt c8 hf
      refine lv_aload_n (pc := 29) hx hb dX11_notch_29 rfl (lv_at hl 0 rfl) ?_
      refine xg_1207 (pc := 30) C0 hu_11 hW mX_557 dX11_notch_30 ?_
      refine lv_iload_n (pc := 33) hx hb dX11_notch_33 rfl (lv_at hl 1 rfl) ?_
      refine lv_iload_n (pc := 34) hx hb dX11_notch_34 rfl (lv_at hl 2 rfl) ?_
      obtain ⟨r9, S10, e11, hf⟩ := zB_e hf
      refine zcVi (zEX_ok tt) (As := [.int p1, .int p2]) (pc := 35) C0 hW (kX5_add l D cA h tt H.size p1 p2 S6 r9 S10 e11) (cwV 2 hts (zgV gaX mX_725 mX_726 mX_727 mX_407 mX_403) rfl rfl rfl (by decide +kernel) ⟨Nat.le_of_ble_eq_true rfl, Nat.le_of_ble_eq_true rfl⟩) (va_recv hW.1 hW.2.1 (ci := 5) (q0 := 5) rfl rfl) rfl hl.1 rfl (Nat.le_of_ble_eq_true rfl) dX11_notch_35 (fun H locs hW => ?_)
      exact zend_i (w := wX cA h) fin hf hW dX11_notch_38
    · have hf := zf c8 hf
      refine lv_bipush (pc := 24) (v := (-3)) hx hb dX11_notch_24 (by decide) ?_
      refine lv_goto (pc := 26) (tgt := 38) hx hb dX11_notch_26 (by decide) ?_
      exact zend_i (w := wX cA h) fin hf hW dX11_notch_38
  · have hf := zt c4 hf
    refine lv_iconst (pc := 12) (v := (-1)) hx hb dX11_notch_12 (by decide) ?_
    exact zend_i (w := wX cA h) fin hf hW dX11_notch_13

def fX11_addNotches_b6 (N : Nat) : Nat → Int32 → Int32 → Int32 → Int32 → zSt → Option (Int32 × zSt)
  | 0, _, _, _, _, _ => none
  | n + 1, v1, v3, v4, v5, S =>
    if v3 ≤ v4 then (some (v4, S)) else (zB (fX5_isFull S) fun r2 S3 => if r2 = 0 then (zB (fX9_hasStretch v1 v5 2 S3) fun r6 S7 => if r6 = 0 then (some (v4, S7)) else (zB (fX9_elementAt v1 v5 S7) fun r10 S11 => zB (fX9_elementAt v1 (v5 + 1) S11) fun r13 S14 => zB (fX5_mayCome (Int64.toInt32 r10) (Int64.toInt32 r13) S14) fun r16 S17 => if r16 = 0 then (some (v4, S17)) else (zB (fX5_add (Int64.toInt32 r10) (Int64.toInt32 r13) S17) fun r20 S21 => fX11_addNotches_b6 N n v1 v3 (v4 + 1) (v5 + 2) S21))) else (some (v4, S3)))
def fX11_addNotches (N : Nat) (p1 : Int32) (p2 : Int32) (p3 : Int32) (S : zSt) : Option (Int32 × zSt) :=
  fX11_addNotches_b6 N N p1 p3 0 p2 S
abbrev wX11_addNotches : List Cond := Cond.code yX11_addNotches cX11_addNotches 8 (some .int) :: waX
abbrev rmX11_addNotches : Room := { frames := 4, cells := 0, slots := 0, locals := 87 }
set_option maxHeartbeats 4000000 in
set_option maxRecDepth 100000 in
theorem kX11_addNotches (l : Launch) (D : va_G) (cA : Nat → ClassId) (h tt : Nat → Nat) (sz : Nat) (N : Nat)  (p1 : Int32) (p2 : Int32) (p3 : Int32) (S : zSt) (r : Int32) (S1 : zSt) (hf : fX11_addNotches N p1 p2 p3 S = some (r, S1)) : zMi l yX11_addNotches wX11_addNotches rmX11_addNotches (zEX tt) D (tX cA) (hsX h) [.ref (h 11), .int p1, .int p2, .int p3] (wX cA h S) (wX cA h S1) sz r := by
  refine zEn_i (cc := cX11_addNotches) (maxL := 8) (own := RX11) (by decide) rfl rfl (hmX cA h S) (Nat.le_of_ble_eq_true rfl) ?_
  intro p e s m args below meth c Q H locs C0 hW fin ls hl
  have hl : lv_has ls 8 [(0, .ref (h 11)), (1, .int p1), (2, .int p2), (3, .int p3)] := hl
  have hx := C0.1
  have hb := C0.2.1
  have hown := C0.2.2.2.1
  have hts := C0.2.2.2.2
  have w6 : ∀ (n : Nat), ∀ (v1 : Int32) (v3 : Int32) (v4 : Int32) (v5 : Int32) (S : zSt) (H : Heap) (locs : List Loc), zW (zEX tt) D (tX cA) (wX cA h S) (aW (hsX h) s.heap.size) s H locs → ∀ ls : Array Slot, lv_has ls 8 [(0, .ref (h 11)), (1, .int v1), (3, .int v3), (4, .int v4), (5, .int v5)] → fX11_addNotches_b6 N n v1 v3 v4 v5 S = some (r, S1) → W p l e rmX11_addNotches s m args below meth c H locs 0 0 Q (F0 m 6 ls []) := by
    intro n
    induction n with
    | zero =>
      intro v1 v3 v4 v5 S H locs hW ls hl hf
      exact absurd hf (by intro h; cases h)
    | succ n ih =>
      intro v1 v3 v4 v5 S H locs hW ls hl hf
      rw [fX11_addNotches_b6] at hf
      refine lv_iload (pc := 6) hx hb dX11_addNotches_6 (lv_at hl 3 rfl) ?_
      refine lv_iload_n (pc := 8) hx hb dX11_addNotches_8 rfl (lv_at hl 2 rfl) ?_
      refine lv_icmp_ge (pc := 9) (tgt := 102) hx hb dX11_addNotches_9 (by decide) (fun c1 => ?_) (fun c1 => ?_)
      · have hf := zt c1 hf
        refine lv_iload (pc := 102) hx hb dX11_addNotches_102 (lv_at hl 3 rfl) ?_
        exact zend_i (w := wX cA h) fin hf hW dX11_addNotches_104
      · have hf := zf c1 hf
        refine lv_aload_n (pc := 12) hx hb dX11_addNotches_12 rfl (lv_at hl 0 rfl) ?_
        refine xg_1207 (pc := 13) C0 hu_11 hW mX_557 dX11_addNotches_13 ?_
        obtain ⟨r2, S3, e4, hf⟩ := zB_e hf
        refine zcVi (zEX_ok tt) (As := []) (pc := 16) C0 hW (kX5_isFull l D cA h tt H.size S r2 S3 e4) (cwV 0 hts (zgV gaX mX_724 mX_405 mX_406 mX_407 mX_398) rfl rfl rfl (by decide +kernel) ⟨Nat.le_of_ble_eq_true rfl, Nat.le_of_ble_eq_true rfl⟩) (va_recv hW.1 hW.2.1 (ci := 5) (q0 := 5) rfl rfl) rfl hl.1 rfl (Nat.le_of_ble_eq_true rfl) dX11_addNotches_16 (fun H locs hW => ?_)
        refine lv_if_ne (pc := 19) (tgt := 102) hx hb dX11_addNotches_19 (by decide) (fun c5 => ?_) (fun c5 => ?_)
        · have hf := zf c5 hf
          refine lv_iload (pc := 102) hx hb dX11_addNotches_102 (lv_at hl 3 rfl) ?_
          exact zend_i (w := wX cA h) fin hf hW dX11_addNotches_104
        · have hf := zt c5 hf
          refine lv_aload_n (pc := 22) hx hb dX11_addNotches_22 rfl (lv_at hl 0 rfl) ?_
          refine xg_1209 (pc := 23) C0 hu_11 hW mX_563 dX11_addNotches_23 ?_
          refine lv_iload_n (pc := 26) hx hb dX11_addNotches_26 rfl (lv_at hl 1 rfl) ?_
          refine lv_iload (pc := 27) hx hb dX11_addNotches_27 (lv_at hl 4 rfl) ?_
          refine lv_iconst (pc := 29) (v := 2) hx hb dX11_addNotches_29 (by decide) ?_
          obtain ⟨r6, S7, e8, hf⟩ := zB_e hf
          refine zcVi (zEX_ok tt) (As := [.int v1, .int v5, .int 2]) (pc := 30) C0 hW (kX9_hasStretch l D cA h tt H.size v1 v5 2 S3 r6 S7 e8) (cwV 3 hts (zgV gaX mX_737 mX_516 mX_517 mX_507 mX_518) rfl rfl rfl (by decide +kernel) ⟨Nat.le_of_ble_eq_true rfl, Nat.le_of_ble_eq_true rfl⟩) (va_recv hW.1 hW.2.1 (ci := 9) (q0 := 9) rfl rfl) rfl hl.1 rfl (Nat.le_of_ble_eq_true rfl) dX11_addNotches_30 (fun H locs hW => ?_)
          refine lv_if_eq (pc := 33) (tgt := 102) hx hb dX11_addNotches_33 (by decide) (fun c9 => ?_) (fun c9 => ?_)
          · have hf := zt c9 hf
            refine lv_iload (pc := 102) hx hb dX11_addNotches_102 (lv_at hl 3 rfl) ?_
            exact zend_i (w := wX cA h) fin hf hW dX11_addNotches_104
          · have hf := zf c9 hf
            refine lv_aload_n (pc := 36) hx hb dX11_addNotches_36 rfl (lv_at hl 0 rfl) ?_
            refine xg_1209 (pc := 37) C0 hu_11 hW mX_563 dX11_addNotches_37 ?_
            refine lv_iload_n (pc := 40) hx hb dX11_addNotches_40 rfl (lv_at hl 1 rfl) ?_
            refine lv_iload (pc := 41) hx hb dX11_addNotches_41 (lv_at hl 4 rfl) ?_
            obtain ⟨r10, S11, e12, hf⟩ := zB_e hf
            refine zcVl (zEX_ok tt) (As := [.int v1, .int v5]) (pc := 43) C0 hW (kX9_elementAt l D cA h tt H.size v1 v5 S7 r10 S11 e12) (cwV 2 hts (zgV gaX mX_738 mX_739 mX_740 mX_507 mX_521) rfl rfl rfl (by decide +kernel) ⟨Nat.le_of_ble_eq_true rfl, Nat.le_of_ble_eq_true rfl⟩) (va_recv hW.1 hW.2.1 (ci := 9) (q0 := 9) rfl rfl) rfl hl.1 rfl (Nat.le_of_ble_eq_true rfl) dX11_addNotches_43 (fun H locs hW => ?_)
            refine lv_l2i (pc := 46) (v := (Int64.toInt32 r10)) hx hb dX11_addNotches_46 rfl ?_
            refine lv_istore (pc := 47) (lv' := [(6, .int (Int64.toInt32 r10)), (0, .ref (h 11)), (1, .int v1), (3, .int v3), (4, .int v4), (5, .int v5)]) hx hb dX11_addNotches_47 hl (by decide) rfl (fun ls hl => ?_)
            refine lv_aload_n (pc := 49) hx hb dX11_addNotches_49 rfl (lv_at hl 1 rfl) ?_
            refine xg_1209 (pc := 50) C0 hu_11 hW mX_563 dX11_addNotches_50 ?_
            refine lv_iload_n (pc := 53) hx hb dX11_addNotches_53 rfl (lv_at hl 2 rfl) ?_
            refine lv_iload (pc := 54) hx hb dX11_addNotches_54 (lv_at hl 5 rfl) ?_
            refine lv_iconst (pc := 56) (v := 1) hx hb dX11_addNotches_56 (by decide) ?_
            refine lv_iadd (pc := 57) hx hb dX11_addNotches_57 ?_
            obtain ⟨r13, S14, e15, hf⟩ := zB_e hf
            refine zcVl (zEX_ok tt) (As := [.int v1, .int (v5 + 1)]) (pc := 58) C0 hW (kX9_elementAt l D cA h tt H.size v1 (v5 + 1) S11 r13 S14 e15) (cwV 2 hts (zgV gaX mX_738 mX_739 mX_740 mX_507 mX_521) rfl rfl rfl (by decide +kernel) ⟨Nat.le_of_ble_eq_true rfl, Nat.le_of_ble_eq_true rfl⟩) (va_recv hW.1 hW.2.1 (ci := 9) (q0 := 9) rfl rfl) rfl hl.1 rfl (Nat.le_of_ble_eq_true rfl) dX11_addNotches_58 (fun H locs hW => ?_)
            refine lv_l2i (pc := 61) (v := (Int64.toInt32 r13)) hx hb dX11_addNotches_61 rfl ?_
            refine lv_istore (pc := 62) (lv' := [(7, .int (Int64.toInt32 r13)), (6, .int (Int64.toInt32 r10)), (0, .ref (h 11)), (1, .int v1), (3, .int v3), (4, .int v4), (5, .int v5)]) hx hb dX11_addNotches_62 hl (by decide) rfl (fun ls hl => ?_)
            refine lv_aload_n (pc := 64) hx hb dX11_addNotches_64 rfl (lv_at hl 2 rfl) ?_
            refine xg_1207 (pc := 65) C0 hu_11 hW mX_557 dX11_addNotches_65 ?_
            refine lv_iload (pc := 68) hx hb dX11_addNotches_68 (lv_at hl 1 rfl) ?_
            refine lv_iload (pc := 70) hx hb dX11_addNotches_70 (lv_at hl 0 rfl) ?_
            obtain ⟨r16, S17, e18, hf⟩ := zB_e hf
            refine zcVi (zEX_ok tt) (As := [.int (Int64.toInt32 r10), .int (Int64.toInt32 r13)]) (pc := 72) C0 hW (kX5_mayCome l D cA h tt H.size (Int64.toInt32 r10) (Int64.toInt32 r13) S14 r16 S17 e18) (cwV 2 hts (zgV gaX mX_721 mX_722 mX_723 mX_407 mX_400) rfl rfl rfl (by decide +kernel) ⟨Nat.le_of_ble_eq_true rfl, Nat.le_of_ble_eq_true rfl⟩) (va_recv hW.1 hW.2.1 (ci := 5) (q0 := 5) rfl rfl) rfl hl.1 rfl (Nat.le_of_ble_eq_true rfl) dX11_addNotches_72 (fun H locs hW => ?_)
            refine lv_if_ne (pc := 75) (tgt := 81) hx hb dX11_addNotches_75 (by decide) (fun c19 => ?_) (fun c19 => ?_)
            · have hf := zf c19 hf
              refine lv_aload_n (pc := 81) hx hb dX11_addNotches_81 rfl (lv_at hl 2 rfl) ?_
              refine xg_1207 (pc := 82) C0 hu_11 hW mX_557 dX11_addNotches_82 ?_
              refine lv_iload (pc := 85) hx hb dX11_addNotches_85 (lv_at hl 1 rfl) ?_
              refine lv_iload (pc := 87) hx hb dX11_addNotches_87 (lv_at hl 0 rfl) ?_
              obtain ⟨r20, S21, e22, hf⟩ := zB_e hf
              refine zcVi (zEX_ok tt) (As := [.int (Int64.toInt32 r10), .int (Int64.toInt32 r13)]) (pc := 89) C0 hW (kX5_add l D cA h tt H.size (Int64.toInt32 r10) (Int64.toInt32 r13) S17 r20 S21 e22) (cwV 2 hts (zgV gaX mX_725 mX_726 mX_727 mX_407 mX_403) rfl rfl rfl (by decide +kernel) ⟨Nat.le_of_ble_eq_true rfl, Nat.le_of_ble_eq_true rfl⟩) (va_recv hW.1 hW.2.1 (ci := 5) (q0 := 5) rfl rfl) rfl hl.1 rfl (Nat.le_of_ble_eq_true rfl) dX11_addNotches_89 (fun H locs hW => ?_)
              refine lv_pop (pc := 92) hx hb dX11_addNotches_92 rfl ?_
              refine lv_iinc (pc := 93) (v := (v4 + 1)) (lv' := [(4, .int (v4 + 1)), (7, .int (Int64.toInt32 r13)), (6, .int (Int64.toInt32 r10)), (0, .ref (h 11)), (1, .int v1), (3, .int v3), (5, .int v5)]) hx hb dX11_addNotches_93 hl (k := 5) rfl (by rfl) (by decide) rfl (fun ls hl => ?_)
              refine lv_iinc (pc := 96) (v := (v5 + 2)) (lv' := [(5, .int (v5 + 2)), (4, .int (v4 + 1)), (7, .int (Int64.toInt32 r13)), (6, .int (Int64.toInt32 r10)), (0, .ref (h 11)), (1, .int v1), (3, .int v3)]) hx hb dX11_addNotches_96 hl (k := 6) rfl (by rfl) (by decide) rfl (fun ls hl => ?_)
              refine lv_goto (pc := 99) (tgt := 6) hx hb dX11_addNotches_99 (by decide) ?_
              exact ih v1 v3 (v4 + 1) (v5 + 2) S21 H locs hW ls (lv_sub hl [4, 5, 6, 1, 0] rfl) hf
            · have hf := zt c19 hf
              refine lv_iload (pc := 78) hx hb dX11_addNotches_78 (lv_at hl 5 rfl) ?_
              exact zend_i (w := wX cA h) fin hf hW dX11_addNotches_80
  unfold fX11_addNotches at hf
  refine lv_iconst (pc := 0) (v := 0) hx hb dX11_addNotches_0 (by decide) ?_
  refine lv_istore (pc := 1) (lv' := [(4, .int 0), (0, .ref (h 11)), (1, .int p1), (2, .int p2), (3, .int p3)]) hx hb dX11_addNotches_1 hl (by decide) rfl (fun ls hl => ?_)
  refine lv_iload_n (pc := 3) hx hb dX11_addNotches_3 rfl (lv_at hl 3 rfl) ?_
  refine lv_istore (pc := 4) (lv' := [(5, .int p2), (4, .int 0), (0, .ref (h 11)), (1, .int p1), (2, .int p2), (3, .int p3)]) hx hb dX11_addNotches_4 hl (by decide) rfl (fun ls hl => ?_)
  exact w6 N p1 p3 0 p2 S H locs hW ls (lv_sub hl [2, 3, 5, 1, 0] rfl) hf

def fX11_notches (N : Nat) (p1 : Int32) (p2 : Int32) (p3 : Int32) (S : zSt) : Option (Int32 × zSt) :=
  zU (fX9_has p1) fun r1 => if r1 = 0 then (some ((-1), S)) else (zU (fX11_isWithin p3 1 20) fun r5 => if r5 = 0 then (some ((-1), S)) else (zB (fX9_sortOn p1 S) fun r9 S10 => if r9 = (-2) then (some (0, S10)) else (zB (fX9_sortOn p1 S10) fun r13 S14 => if r13 = 0 then (zB (fX11_addNotches N p1 p2 p3 S14) fun r17 S18 => some (r17, S18)) else (some ((-12), S14)))))
abbrev wX11_notches : List Cond := Cond.code yX11_notches cX11_notches 4 (some .int) :: waX
abbrev rmX11_notches : Room := { frames := 5, cells := 0, slots := 0, locals := 114 }
set_option maxHeartbeats 4000000 in
set_option maxRecDepth 100000 in
theorem kX11_notches (l : Launch) (D : va_G) (cA : Nat → ClassId) (h tt : Nat → Nat) (sz : Nat) (N : Nat)  (p1 : Int32) (p2 : Int32) (p3 : Int32) (S : zSt) (r : Int32) (S1 : zSt) (hf : fX11_notches N p1 p2 p3 S = some (r, S1)) : zMi l yX11_notches wX11_notches rmX11_notches (zEX tt) D (tX cA) (hsX h) [.ref (h 11), .int p1, .int p2, .int p3] (wX cA h S) (wX cA h S1) sz r := by
  refine zEn_i (cc := cX11_notches) (maxL := 4) (own := RX11) (by decide) rfl rfl (hmX cA h S) (Nat.le_of_ble_eq_true rfl) ?_
  intro p e s m args below meth c Q H locs C0 hW fin ls hl
  have hl : lv_has ls 4 [(0, .ref (h 11)), (1, .int p1), (2, .int p2), (3, .int p3)] := hl
  have hx := C0.1
  have hb := C0.2.1
  have hown := C0.2.2.2.1
  have hts := C0.2.2.2.2
  unfold fX11_notches at hf
  refine lv_iload_n (pc := 0) hx hb dX11_notches_0 rfl (lv_at hl 1 rfl) ?_
  obtain ⟨r1, e3, hf⟩ := zU_e hf
  refine zcSi (As := [.int p1]) (pc := 1) C0 hW (kX9_has l H.size p1 r1 e3) (va_cwS 1 hts (zgS gaX mX_729 mX_506 mX_507 mX_502) rfl rfl rfl (by decide +kernel) ⟨Nat.le_of_ble_eq_true rfl, Nat.le_of_ble_eq_true rfl⟩) rfl hl.1 rfl (Nat.le_of_ble_eq_true rfl) dX11_notches_1 (fun H locs hW => ?_)
  refine lv_if_eq (pc := 4) (tgt := 17) hx hb dX11_notches_4 (by decide) (fun c4 => ?_) (fun c4 => ?_)
  · have hf := zt c4 hf
    refine lv_iconst (pc := 17) (v := (-1)) hx hb dX11_notches_17 (by decide) ?_
    exact zend_i (w := wX cA h) fin hf hW dX11_notches_18
  · have hf := zf c4 hf
    refine lv_iload_n (pc := 7) hx hb dX11_notches_7 rfl (lv_at hl 3 rfl) ?_
    refine lv_iconst (pc := 8) (v := 1) hx hb dX11_notches_8 (by decide) ?_
    refine lv_bipush (pc := 9) (v := 20) hx hb dX11_notches_9 (by decide) ?_
    obtain ⟨r5, e7, hf⟩ := zU_e hf
    refine zcSi (As := [.int p3, .int 1, .int 20]) (pc := 11) C0 hW (kX11_isWithin l H.size p3 1 20 r5 e7) (va_cwS 3 hts (zgS gaX mX_225 mX_226 mX_151 mX_227) rfl rfl rfl (by decide +kernel) ⟨Nat.le_of_ble_eq_true rfl, Nat.le_of_ble_eq_true rfl⟩) rfl hl.1 rfl (Nat.le_of_ble_eq_true rfl) dX11_notches_11 (fun H locs hW => ?_)
    refine lv_if_ne (pc := 14) (tgt := 19) hx hb dX11_notches_14 (by decide) (fun c8 => ?_) (fun c8 => ?_)
    · have hf := zf c8 hf
      refine lv_aload_n (pc := 19) hx hb dX11_notches_19 rfl (lv_at hl 0 rfl) ?_
      refine xg_1209 (pc := 20) C0 hu_11 hW mX_563 dX11_notches_20 ?_
      refine lv_iload_n (pc := 23) hx hb dX11_notches_23 rfl (lv_at hl 1 rfl) ?_
      obtain ⟨r9, S10, e11, hf⟩ := zB_e hf
      refine zcVi (zEX_ok tt) (As := [.int p1]) (pc := 24) C0 hW (kX9_sortOn l D cA h tt H.size p1 S r9 S10 e11) (cwV 1 hts (zgV gaX mX_730 mX_731 mX_732 mX_507 mX_504) rfl rfl rfl (by decide +kernel) ⟨Nat.le_of_ble_eq_true rfl, Nat.le_of_ble_eq_true rfl⟩) (va_recv hW.1 hW.2.1 (ci := 9) (q0 := 9) rfl rfl) rfl hl.1 rfl (Nat.le_of_ble_eq_true rfl) dX11_notches_24 (fun H locs hW => ?_)
      refine lv_bipush (pc := 27) (v := (-2)) hx hb dX11_notches_27 (by decide) ?_
      refine lv_icmp_ne (pc := 29) (tgt := 34) hx hb dX11_notches_29 (by decide) (fun c12 => ?_) (fun c12 => ?_)
      · have hf := zf c12 hf
        refine lv_aload_n (pc := 34) hx hb dX11_notches_34 rfl (lv_at hl 0 rfl) ?_
        refine xg_1209 (pc := 35) C0 hu_11 hW mX_563 dX11_notches_35 ?_
        refine lv_iload_n (pc := 38) hx hb dX11_notches_38 rfl (lv_at hl 1 rfl) ?_
        obtain ⟨r13, S14, e15, hf⟩ := zB_e hf
        refine zcVi (zEX_ok tt) (As := [.int p1]) (pc := 39) C0 hW (kX9_sortOn l D cA h tt H.size p1 S10 r13 S14 e15) (cwV 1 hts (zgV gaX mX_730 mX_731 mX_732 mX_507 mX_504) rfl rfl rfl (by decide +kernel) ⟨Nat.le_of_ble_eq_true rfl, Nat.le_of_ble_eq_true rfl⟩) (va_recv hW.1 hW.2.1 (ci := 9) (q0 := 9) rfl rfl) rfl hl.1 rfl (Nat.le_of_ble_eq_true rfl) dX11_notches_39 (fun H locs hW => ?_)
        refine lv_if_ne (pc := 42) (tgt := 55) hx hb dX11_notches_42 (by decide) (fun c16 => ?_) (fun c16 => ?_)
        · have hf := zf c16 hf
          refine lv_bipush (pc := 55) (v := (-12)) hx hb dX11_notches_55 (by decide) ?_
          exact zend_i (w := wX cA h) fin hf hW dX11_notches_57
        · have hf := zt c16 hf
          refine lv_aload_n (pc := 45) hx hb dX11_notches_45 rfl (lv_at hl 0 rfl) ?_
          refine lv_iload_n (pc := 46) hx hb dX11_notches_46 rfl (lv_at hl 1 rfl) ?_
          refine lv_iload_n (pc := 47) hx hb dX11_notches_47 rfl (lv_at hl 2 rfl) ?_
          refine lv_iload_n (pc := 48) hx hb dX11_notches_48 rfl (lv_at hl 3 rfl) ?_
          obtain ⟨r17, S18, e19, hf⟩ := zB_e hf
          refine zcVi (zEX_ok tt) (As := [.int p1, .int p2, .int p3]) (pc := 49) C0 hW (kX11_addNotches l D cA h tt H.size N p1 p2 p3 S14 r17 S18 e19) (cwV 3 hts (zgV gaX mX_733 mX_734 mX_735 mX_151 mX_736) rfl rfl rfl (by decide +kernel) ⟨Nat.le_of_ble_eq_true rfl, Nat.le_of_ble_eq_true rfl⟩) (va_recv hW.1 hW.2.1 (ci := 11) (q0 := 11) rfl rfl) rfl hl.1 rfl (Nat.le_of_ble_eq_true rfl) dX11_notches_49 (fun H locs hW => ?_)
          refine lv_goto (pc := 52) (tgt := 57) hx hb dX11_notches_52 (by decide) ?_
          exact zend_i (w := wX cA h) fin hf hW dX11_notches_57
      · have hf := zt c12 hf
        refine lv_iconst (pc := 32) (v := 0) hx hb dX11_notches_32 (by decide) ?_
        exact zend_i (w := wX cA h) fin hf hW dX11_notches_33
    · have hf := zt c8 hf
      refine lv_iconst (pc := 17) (v := (-1)) hx hb dX11_notches_17 (by decide) ?_
      exact zend_i (w := wX cA h) fin hf hW dX11_notches_18

def fX11_off (N : Nat) (p1 : Int32) (S : zSt) : Option (Int32 × zSt) :=
  zB (fX4_has p1 S) fun r1 S2 => if r1 = 0 then (some ((-1), S2)) else (if (S2.1 602) = 0 then (some ((-5), S2)) else (zB (fX5_differenceFrom N p1 S2) fun r6 S7 => some (r6, S7)))
abbrev wX11_off : List Cond := Cond.code yX11_off cX11_off 2 (some .int) :: waX
abbrev rmX11_off : Room := { frames := 6, cells := 0, slots := 0, locals := 139 }
set_option maxHeartbeats 4000000 in
set_option maxRecDepth 100000 in
theorem kX11_off (l : Launch) (D : va_G) (cA : Nat → ClassId) (h tt : Nat → Nat) (sz : Nat) (N : Nat)  (p1 : Int32) (S : zSt) (r : Int32) (S1 : zSt) (hf : fX11_off N p1 S = some (r, S1)) : zMi l yX11_off wX11_off rmX11_off (zEX tt) D (tX cA) (hsX h) [.ref (h 11), .int p1] (wX cA h S) (wX cA h S1) sz r := by
  refine zEn_i (cc := cX11_off) (maxL := 2) (own := RX11) (by decide) rfl rfl (hmX cA h S) (Nat.le_of_ble_eq_true rfl) ?_
  intro p e s m args below meth c Q H locs C0 hW fin ls hl
  have hl : lv_has ls 2 [(0, .ref (h 11)), (1, .int p1)] := hl
  have hx := C0.1
  have hb := C0.2.1
  have hown := C0.2.2.2.1
  have hts := C0.2.2.2.2
  unfold fX11_off at hf
  refine lv_aload_n (pc := 0) hx hb dX11_off_0 rfl (lv_at hl 0 rfl) ?_
  refine xg_1202 (pc := 1) C0 hu_11 hW mX_542 dX11_off_1 ?_
  refine lv_iload_n (pc := 4) hx hb dX11_off_4 rfl (lv_at hl 1 rfl) ?_
  obtain ⟨r1, S2, e3, hf⟩ := zB_e hf
  refine zcVi (zEX_ok tt) (As := [.int p1]) (pc := 5) C0 hW (kX4_has l D cA h tt H.size p1 S r1 S2 e3) (cwV 1 hts (zgV gaX mX_624 mX_235 mX_236 mX_231 mX_237) rfl rfl rfl (by decide +kernel) ⟨Nat.le_of_ble_eq_true rfl, Nat.le_of_ble_eq_true rfl⟩) (va_recv hW.1 hW.2.1 (ci := 4) (q0 := 4) rfl rfl) rfl hl.1 rfl (Nat.le_of_ble_eq_true rfl) dX11_off_5 (fun H locs hW => ?_)
  refine lv_if_ne (pc := 8) (tgt := 13) hx hb dX11_off_8 (by decide) (fun c4 => ?_) (fun c4 => ?_)
  · have hf := zf c4 hf
    refine lv_aload_n (pc := 13) hx hb dX11_off_13 rfl (lv_at hl 0 rfl) ?_
    refine xg_1207 (pc := 14) C0 hu_11 hW mX_557 dX11_off_14 ?_
    refine xg_602 (pc := 17) C0 hu_5 hW mX_742 dX11_off_17 ?_
    refine lv_if_ne (pc := 20) (tgt := 28) hx hb dX11_off_20 (by decide) (fun c5 => ?_) (fun c5 => ?_)
    · have hf := zf c5 hf
      refine lv_aload_n (pc := 28) hx hb dX11_off_28 rfl (lv_at hl 0 rfl) ?_
      refine xg_1207 (pc := 29) C0 hu_11 hW mX_557 dX11_off_29 ?_
      refine lv_aload_n (pc := 32) hx hb dX11_off_32 rfl (lv_at hl 0 rfl) ?_
      refine xg_1202 (pc := 33) C0 hu_11 hW mX_542 dX11_off_33 ?_
      refine lv_iload_n (pc := 36) hx hb dX11_off_36 rfl (lv_at hl 1 rfl) ?_
      obtain ⟨r6, S7, e8, hf⟩ := zB_e hf
      refine zcVi (zEX_ok tt) (As := [.ref (h 4), .int p1]) (pc := 37) C0 hW (kX5_differenceFrom l D cA h tt H.size N p1 S2 r6 S7 e8) (cwV 2 hts (zgV gaX mX_743 mX_416 mX_417 mX_407 mX_408) rfl rfl rfl (by decide +kernel) ⟨Nat.le_of_ble_eq_true rfl, Nat.le_of_ble_eq_true rfl⟩) (va_recv hW.1 hW.2.1 (ci := 5) (q0 := 5) rfl rfl) rfl hl.1 rfl (Nat.le_of_ble_eq_true rfl) dX11_off_37 (fun H locs hW => ?_)
      exact zend_i (w := wX cA h) fin hf hW dX11_off_40
    · have hf := zt c5 hf
      refine lv_bipush (pc := 23) (v := (-5)) hx hb dX11_off_23 (by decide) ?_
      refine lv_goto (pc := 25) (tgt := 40) hx hb dX11_off_25 (by decide) ?_
      exact zend_i (w := wX cA h) fin hf hW dX11_off_40
  · have hf := zt c4 hf
    refine lv_iconst (pc := 11) (v := (-1)) hx hb dX11_off_11 (by decide) ?_
    exact zend_i (w := wX cA h) fin hf hW dX11_off_12

def fX11_fit_b20 (N : Nat) (S : zSt) : Option (Int32 × zSt) :=
  some ((-5), S)
def fX11_fit (N : Nat) (S : zSt) : Option (Int32 × zSt) :=
  if (S.1 602) = 0 then (fX11_fit_b20 N S) else (if (S.1 505) = 0 then (fX11_fit_b20 N S) else (zB (fX5_nearestOf N S) fun r3 S4 => some (r3, S4)))
abbrev wX11_fit : List Cond := Cond.code yX11_fit cX11_fit 1 (some .int) :: waX
abbrev rmX11_fit : Room := { frames := 7, cells := 0, slots := 0, locals := 162 }
set_option maxHeartbeats 4000000 in
set_option maxRecDepth 100000 in
theorem kX11_fit (l : Launch) (D : va_G) (cA : Nat → ClassId) (h tt : Nat → Nat) (sz : Nat) (N : Nat)   (S : zSt) (r : Int32) (S1 : zSt) (hf : fX11_fit N S = some (r, S1)) : zMi l yX11_fit wX11_fit rmX11_fit (zEX tt) D (tX cA) (hsX h) [.ref (h 11)] (wX cA h S) (wX cA h S1) sz r := by
  refine zEn_i (cc := cX11_fit) (maxL := 1) (own := RX11) (by decide) rfl rfl (hmX cA h S) (Nat.le_of_ble_eq_true rfl) ?_
  intro p e s m args below meth c Q H locs C0 hW fin ls hl
  have hl : lv_has ls 1 [(0, .ref (h 11))] := hl
  have hx := C0.1
  have hb := C0.2.1
  have hown := C0.2.2.2.1
  have hts := C0.2.2.2.2
  have w20 : ∀  (S : zSt) (H : Heap) (locs : List Loc), zW (zEX tt) D (tX cA) (wX cA h S) (aW (hsX h) s.heap.size) s H locs → ∀ ls : Array Slot, lv_has ls 1 [] → fX11_fit_b20 N S = some (r, S1) → W p l e rmX11_fit s m args below meth c H locs 0 0 Q (F0 m 20 ls []) := by
    intro S H locs hW ls hl hf
    unfold fX11_fit_b20 at hf
    refine lv_bipush (pc := 20) (v := (-5)) hx hb dX11_fit_20 (by decide) ?_
    refine lv_goto (pc := 22) (tgt := 36) hx hb dX11_fit_22 (by decide) ?_
    exact zend_i (w := wX cA h) fin hf hW dX11_fit_36
  unfold fX11_fit at hf
  refine lv_aload_n (pc := 0) hx hb dX11_fit_0 rfl (lv_at hl 0 rfl) ?_
  refine xg_1207 (pc := 1) C0 hu_11 hW mX_557 dX11_fit_1 ?_
  refine xg_602 (pc := 4) C0 hu_5 hW mX_742 dX11_fit_4 ?_
  refine lv_if_eq (pc := 7) (tgt := 20) hx hb dX11_fit_7 (by decide) (fun c1 => ?_) (fun c1 => ?_)
  · have hf := zt c1 hf
    exact w20 S H locs hW ls (lv_sub hl [] rfl) hf
  · have hf := zf c1 hf
    refine lv_aload_n (pc := 10) hx hb dX11_fit_10 rfl (lv_at hl 0 rfl) ?_
    refine xg_1202 (pc := 11) C0 hu_11 hW mX_542 dX11_fit_11 ?_
    refine xg_505 (pc := 14) C0 hu_4 hW mX_617 dX11_fit_14 ?_
    refine lv_if_ne (pc := 17) (tgt := 25) hx hb dX11_fit_17 (by decide) (fun c2 => ?_) (fun c2 => ?_)
    · have hf := zf c2 hf
      refine lv_aload_n (pc := 25) hx hb dX11_fit_25 rfl (lv_at hl 0 rfl) ?_
      refine xg_1207 (pc := 26) C0 hu_11 hW mX_557 dX11_fit_26 ?_
      refine lv_aload_n (pc := 29) hx hb dX11_fit_29 rfl (lv_at hl 0 rfl) ?_
      refine xg_1202 (pc := 30) C0 hu_11 hW mX_542 dX11_fit_30 ?_
      obtain ⟨r3, S4, e5, hf⟩ := zB_e hf
      refine zcVi (zEX_ok tt) (As := [.ref (h 4)]) (pc := 33) C0 hW (kX5_nearestOf l D cA h tt H.size N S r3 S4 e5) (cwV 1 hts (zgV gaX mX_745 mX_746 mX_747 mX_407 mX_413) rfl rfl rfl (by decide +kernel) ⟨Nat.le_of_ble_eq_true rfl, Nat.le_of_ble_eq_true rfl⟩) (va_recv hW.1 hW.2.1 (ci := 5) (q0 := 5) rfl rfl) rfl hl.1 rfl (Nat.le_of_ble_eq_true rfl) dX11_fit_33 (fun H locs hW => ?_)
      exact zend_i (w := wX cA h) fin hf hW dX11_fit_36
    · have hf := zt c2 hf
      exact w20 S H locs hW ls (lv_sub hl [] rfl) hf

def fX11_undo (S : zSt) : Option (Int32 × zSt) :=
  zB (fX1_takeBack S) fun r1 S2 => if r1 = 0 then (some ((-5), S2)) else (some ((S2.1 205), S2))
abbrev wX11_undo : List Cond := Cond.code yX11_undo cX11_undo 1 (some .int) :: waX
abbrev rmX11_undo : Room := { frames := 3, cells := 0, slots := 0, locals := 64 }
set_option maxHeartbeats 4000000 in
set_option maxRecDepth 100000 in
theorem kX11_undo (l : Launch) (D : va_G) (cA : Nat → ClassId) (h tt : Nat → Nat) (sz : Nat)   (S : zSt) (r : Int32) (S1 : zSt) (hf : fX11_undo S = some (r, S1)) : zMi l yX11_undo wX11_undo rmX11_undo (zEX tt) D (tX cA) (hsX h) [.ref (h 11)] (wX cA h S) (wX cA h S1) sz r := by
  refine zEn_i (cc := cX11_undo) (maxL := 1) (own := RX11) (by decide) rfl rfl (hmX cA h S) (Nat.le_of_ble_eq_true rfl) ?_
  intro p e s m args below meth c Q H locs C0 hW fin ls hl
  have hl : lv_has ls 1 [(0, .ref (h 11))] := hl
  have hx := C0.1
  have hb := C0.2.1
  have hown := C0.2.2.2.1
  have hts := C0.2.2.2.2
  unfold fX11_undo at hf
  refine lv_aload_n (pc := 0) hx hb dX11_undo_0 rfl (lv_at hl 0 rfl) ?_
  refine xg_1206 (pc := 1) C0 hu_11 hW mX_554 dX11_undo_1 ?_
  obtain ⟨r1, S2, e3, hf⟩ := zB_e hf
  refine zcVi (zEX_ok tt) (As := []) (pc := 4) C0 hW (kX1_takeBack l D cA h tt H.size S r1 S2 e3) (cwV 0 hts (zgV gaX mX_750 mX_751 mX_752 mX_78 mX_102) rfl rfl rfl (by decide +kernel) ⟨Nat.le_of_ble_eq_true rfl, Nat.le_of_ble_eq_true rfl⟩) (va_recv hW.1 hW.2.1 (ci := 1) (q0 := 1) rfl rfl) rfl hl.1 rfl (Nat.le_of_ble_eq_true rfl) dX11_undo_4 (fun H locs hW => ?_)
  refine lv_if_eq (pc := 7) (tgt := 20) hx hb dX11_undo_7 (by decide) (fun c4 => ?_) (fun c4 => ?_)
  · have hf := zt c4 hf
    refine lv_bipush (pc := 20) (v := (-5)) hx hb dX11_undo_20 (by decide) ?_
    exact zend_i (w := wX cA h) fin hf hW dX11_undo_22
  · have hf := zf c4 hf
    refine lv_aload_n (pc := 10) hx hb dX11_undo_10 rfl (lv_at hl 0 rfl) ?_
    refine xg_1206 (pc := 11) C0 hu_11 hW mX_554 dX11_undo_11 ?_
    refine xg_205 (pc := 14) C0 hu_1 hW mX_749 dX11_undo_14 ?_
    refine lv_goto (pc := 17) (tgt := 22) hx hb dX11_undo_17 (by decide) ?_
    exact zend_i (w := wX cA h) fin hf hW dX11_undo_22

def fX11_redo (S : zSt) : Option (Int32 × zSt) :=
  zB (fX1_makeAgain S) fun r1 S2 => if r1 = 0 then (some ((-5), S2)) else (some ((S2.1 206), S2))
abbrev wX11_redo : List Cond := Cond.code yX11_redo cX11_redo 1 (some .int) :: waX
abbrev rmX11_redo : Room := { frames := 3, cells := 0, slots := 0, locals := 64 }
set_option maxHeartbeats 4000000 in
set_option maxRecDepth 100000 in
theorem kX11_redo (l : Launch) (D : va_G) (cA : Nat → ClassId) (h tt : Nat → Nat) (sz : Nat)   (S : zSt) (r : Int32) (S1 : zSt) (hf : fX11_redo S = some (r, S1)) : zMi l yX11_redo wX11_redo rmX11_redo (zEX tt) D (tX cA) (hsX h) [.ref (h 11)] (wX cA h S) (wX cA h S1) sz r := by
  refine zEn_i (cc := cX11_redo) (maxL := 1) (own := RX11) (by decide) rfl rfl (hmX cA h S) (Nat.le_of_ble_eq_true rfl) ?_
  intro p e s m args below meth c Q H locs C0 hW fin ls hl
  have hl : lv_has ls 1 [(0, .ref (h 11))] := hl
  have hx := C0.1
  have hb := C0.2.1
  have hown := C0.2.2.2.1
  have hts := C0.2.2.2.2
  unfold fX11_redo at hf
  refine lv_aload_n (pc := 0) hx hb dX11_redo_0 rfl (lv_at hl 0 rfl) ?_
  refine xg_1206 (pc := 1) C0 hu_11 hW mX_554 dX11_redo_1 ?_
  obtain ⟨r1, S2, e3, hf⟩ := zB_e hf
  refine zcVi (zEX_ok tt) (As := []) (pc := 4) C0 hW (kX1_makeAgain l D cA h tt H.size S r1 S2 e3) (cwV 0 hts (zgV gaX mX_755 mX_756 mX_757 mX_78 mX_103) rfl rfl rfl (by decide +kernel) ⟨Nat.le_of_ble_eq_true rfl, Nat.le_of_ble_eq_true rfl⟩) (va_recv hW.1 hW.2.1 (ci := 1) (q0 := 1) rfl rfl) rfl hl.1 rfl (Nat.le_of_ble_eq_true rfl) dX11_redo_4 (fun H locs hW => ?_)
  refine lv_if_eq (pc := 7) (tgt := 20) hx hb dX11_redo_7 (by decide) (fun c4 => ?_) (fun c4 => ?_)
  · have hf := zt c4 hf
    refine lv_bipush (pc := 20) (v := (-5)) hx hb dX11_redo_20 (by decide) ?_
    exact zend_i (w := wX cA h) fin hf hW dX11_redo_22
  · have hf := zf c4 hf
    refine lv_aload_n (pc := 10) hx hb dX11_redo_10 rfl (lv_at hl 0 rfl) ?_
    refine xg_1206 (pc := 11) C0 hu_11 hW mX_554 dX11_redo_11 ?_
    refine xg_206 (pc := 14) C0 hu_1 hW mX_754 dX11_redo_14 ?_
    refine lv_goto (pc := 17) (tgt := 22) hx hb dX11_redo_17 (by decide) ?_
    exact zend_i (w := wX cA h) fin hf hW dX11_redo_22

def fX11_body (p1 : Int32) (S : zSt) : Option (Int32 × zSt) :=
  zU (fX0_isKind p1) fun r1 => if r1 = 0 then (some ((-1), S)) else (zB (fX0_isFull S) fun r5 S6 => if r5 = 0 then (zB (fX0_add p1 S6) fun r9 S10 => some (r9, S10)) else (some ((-3), S6)))
abbrev wX11_body : List Cond := Cond.code yX11_body cX11_body 2 (some .int) :: waX
abbrev rmX11_body : Room := { frames := 2, cells := 0, slots := 0, locals := 41 }
set_option maxHeartbeats 4000000 in
set_option maxRecDepth 100000 in
theorem kX11_body (l : Launch) (D : va_G) (cA : Nat → ClassId) (h tt : Nat → Nat) (sz : Nat)  (p1 : Int32) (S : zSt) (r : Int32) (S1 : zSt) (hf : fX11_body p1 S = some (r, S1)) : zMi l yX11_body wX11_body rmX11_body (zEX tt) D (tX cA) (hsX h) [.ref (h 11), .int p1] (wX cA h S) (wX cA h S1) sz r := by
  refine zEn_i (cc := cX11_body) (maxL := 2) (own := RX11) (by decide) rfl rfl (hmX cA h S) (Nat.le_of_ble_eq_true rfl) ?_
  intro p e s m args below meth c Q H locs C0 hW fin ls hl
  have hl : lv_has ls 2 [(0, .ref (h 11)), (1, .int p1)] := hl
  have hx := C0.1
  have hb := C0.2.1
  have hown := C0.2.2.2.1
  have hts := C0.2.2.2.2
  unfold fX11_body at hf
  refine lv_iload_n (pc := 0) hx hb dX11_body_0 rfl (lv_at hl 1 rfl) ?_
  obtain ⟨r1, e3, hf⟩ := zU_e hf
  refine zcSi (As := [.int p1]) (pc := 1) C0 hW (kX0_isKind l H.size p1 r1 e3) (va_cwS 1 hts (zgS gaX mX_759 mX_11 mX_12 mX_7) rfl rfl rfl (by decide +kernel) ⟨Nat.le_of_ble_eq_true rfl, Nat.le_of_ble_eq_true rfl⟩) rfl hl.1 rfl (Nat.le_of_ble_eq_true rfl) dX11_body_1 (fun H locs hW => ?_)
  refine lv_if_ne (pc := 4) (tgt := 9) hx hb dX11_body_4 (by decide) (fun c4 => ?_) (fun c4 => ?_)
  · have hf := zf c4 hf
    refine lv_aload_n (pc := 9) hx hb dX11_body_9 rfl (lv_at hl 0 rfl) ?_
    refine xg_1208 (pc := 10) C0 hu_11 hW mX_560 dX11_body_10 ?_
    obtain ⟨r5, S6, e7, hf⟩ := zB_e hf
    refine zcVi (zEX_ok tt) (As := []) (pc := 13) C0 hW (kX0_isFull l D cA h tt H.size S r5 S6 e7) (cwV 0 hts (zgV gaX mX_760 mX_18 mX_19 mX_12 mX_13) rfl rfl rfl (by decide +kernel) ⟨Nat.le_of_ble_eq_true rfl, Nat.le_of_ble_eq_true rfl⟩) (va_recv hW.1 hW.2.1 (ci := 0) (q0 := 0) rfl rfl) rfl hl.1 rfl (Nat.le_of_ble_eq_true rfl) dX11_body_13 (fun H locs hW => ?_)
    refine lv_if_eq (pc := 16) (tgt := 24) hx hb dX11_body_16 (by decide) (fun c8 => ?_) (fun c8 => ?_)
    · have hf := zt c8 hf
      refine lv_aload_n (pc := 24) hx hb dX11_body_24 rfl (lv_at hl 0 rfl) ?_
      refine xg_1208 (pc := 25) C0 hu_11 hW mX_560 dX11_body_25 ?_
      refine lv_iload_n (pc := 28) hx hb dX11_body_28 rfl (lv_at hl 1 rfl) ?_
      obtain ⟨r9, S10, e11, hf⟩ := zB_e hf
      refine zcVi (zEX_ok tt) (As := [.int p1]) (pc := 29) C0 hW (kX0_add l D cA h tt H.size p1 S6 r9 S10 e11) (cwV 1 hts (zgV gaX mX_761 mX_762 mX_763 mX_12 mX_16) rfl rfl rfl (by decide +kernel) ⟨Nat.le_of_ble_eq_true rfl, Nat.le_of_ble_eq_true rfl⟩) (va_recv hW.1 hW.2.1 (ci := 0) (q0 := 0) rfl rfl) rfl hl.1 rfl (Nat.le_of_ble_eq_true rfl) dX11_body_29 (fun H locs hW => ?_)
      exact zend_i (w := wX cA h) fin hf hW dX11_body_32
    · have hf := zf c8 hf
      refine lv_bipush (pc := 19) (v := (-3)) hx hb dX11_body_19 (by decide) ?_
      refine lv_goto (pc := 21) (tgt := 32) hx hb dX11_body_21 (by decide) ?_
      exact zend_i (w := wX cA h) fin hf hW dX11_body_32
  · have hf := zt c4 hf
    refine lv_iconst (pc := 7) (v := (-1)) hx hb dX11_body_7 (by decide) ?_
    exact zend_i (w := wX cA h) fin hf hW dX11_body_8

def fX11_act (N : Nat) (p1 : Int32) (p2 : Int32) (p3 : Int32) (S : zSt) : Option (Int32 × zSt) :=
  zB (fX0_start N p1 p2 p3 S) fun r1 S2 => some (r1, S2)
abbrev wX11_act : List Cond := Cond.code yX11_act cX11_act 4 (some .int) :: waX
abbrev rmX11_act : Room := { frames := 114, cells := 0, slots := 0, locals := 4649 }
set_option maxHeartbeats 4000000 in
set_option maxRecDepth 100000 in
theorem kX11_act (l : Launch) (D : va_G) (cA : Nat → ClassId) (h tt : Nat → Nat) (sz : Nat) (N : Nat)  (p1 : Int32) (p2 : Int32) (p3 : Int32) (S : zSt) (r : Int32) (S1 : zSt) (hf : fX11_act N p1 p2 p3 S = some (r, S1)) : zMi l yX11_act wX11_act rmX11_act (zEX tt) D (tX cA) (hsX h) [.ref (h 11), .int p1, .int p2, .int p3] (wX cA h S) (wX cA h S1) sz r := by
  refine zEn_i (cc := cX11_act) (maxL := 4) (own := RX11) (by decide) rfl rfl (hmX cA h S) (Nat.le_of_ble_eq_true rfl) ?_
  intro p e s m args below meth c Q H locs C0 hW fin ls hl
  have hl : lv_has ls 4 [(0, .ref (h 11)), (1, .int p1), (2, .int p2), (3, .int p3)] := hl
  have hx := C0.1
  have hb := C0.2.1
  have hown := C0.2.2.2.1
  have hts := C0.2.2.2.2
  unfold fX11_act at hf
  refine lv_aload_n (pc := 0) hx hb dX11_act_0 rfl (lv_at hl 0 rfl) ?_
  refine xg_1208 (pc := 1) C0 hu_11 hW mX_560 dX11_act_1 ?_
  refine lv_iload_n (pc := 4) hx hb dX11_act_4 rfl (lv_at hl 1 rfl) ?_
  refine lv_iload_n (pc := 5) hx hb dX11_act_5 rfl (lv_at hl 2 rfl) ?_
  refine lv_iload_n (pc := 6) hx hb dX11_act_6 rfl (lv_at hl 3 rfl) ?_
  obtain ⟨r1, S2, e3, hf⟩ := zB_e hf
  refine zcVi (zEX_ok tt) (As := [.int p1, .int p2, .int p3]) (pc := 7) C0 hW (kX0_start l D cA h tt H.size N p1 p2 p3 S r1 S2 e3) (cwV 3 hts (zgV gaX mX_765 mX_766 mX_767 mX_12 mX_34) rfl rfl rfl (by decide +kernel) ⟨Nat.le_of_ble_eq_true rfl, Nat.le_of_ble_eq_true rfl⟩) (va_recv hW.1 hW.2.1 (ci := 0) (q0 := 0) rfl rfl) rfl hl.1 rfl (Nat.le_of_ble_eq_true rfl) dX11_act_7 (fun H locs hW => ?_)
  exact zend_i (w := wX cA h) fin hf hW dX11_act_10

def fX11_trace (p1 : Int32) (S : zSt) : Option (Int32 × zSt) :=
  zB (fX0_hasTrace p1 S) fun r1 S2 => if r1 = 0 then (some ((-1), S2)) else (zB (fX0_traceAt p1 S2) fun r5 S6 => some (r5, S6))
abbrev wX11_trace : List Cond := Cond.code yX11_trace cX11_trace 2 (some .int) :: waX
abbrev rmX11_trace : Room := { frames := 3, cells := 0, slots := 0, locals := 66 }
set_option maxHeartbeats 4000000 in
set_option maxRecDepth 100000 in
theorem kX11_trace (l : Launch) (D : va_G) (cA : Nat → ClassId) (h tt : Nat → Nat) (sz : Nat)  (p1 : Int32) (S : zSt) (r : Int32) (S1 : zSt) (hf : fX11_trace p1 S = some (r, S1)) : zMi l yX11_trace wX11_trace rmX11_trace (zEX tt) D (tX cA) (hsX h) [.ref (h 11), .int p1] (wX cA h S) (wX cA h S1) sz r := by
  refine zEn_i (cc := cX11_trace) (maxL := 2) (own := RX11) (by decide) rfl rfl (hmX cA h S) (Nat.le_of_ble_eq_true rfl) ?_
  intro p e s m args below meth c Q H locs C0 hW fin ls hl
  have hl : lv_has ls 2 [(0, .ref (h 11)), (1, .int p1)] := hl
  have hx := C0.1
  have hb := C0.2.1
  have hown := C0.2.2.2.1
  have hts := C0.2.2.2.2
  unfold fX11_trace at hf
  refine lv_aload_n (pc := 0) hx hb dX11_trace_0 rfl (lv_at hl 0 rfl) ?_
  refine xg_1208 (pc := 1) C0 hu_11 hW mX_560 dX11_trace_1 ?_
  refine lv_iload_n (pc := 4) hx hb dX11_trace_4 rfl (lv_at hl 1 rfl) ?_
  obtain ⟨r1, S2, e3, hf⟩ := zB_e hf
  refine zcVi (zEX_ok tt) (As := [.int p1]) (pc := 5) C0 hW (kX0_hasTrace l D cA h tt H.size p1 S r1 S2 e3) (cwV 1 hts (zgV gaX mX_769 mX_32 mX_33 mX_12 mX_24) rfl rfl rfl (by decide +kernel) ⟨Nat.le_of_ble_eq_true rfl, Nat.le_of_ble_eq_true rfl⟩) (va_recv hW.1 hW.2.1 (ci := 0) (q0 := 0) rfl rfl) rfl hl.1 rfl (Nat.le_of_ble_eq_true rfl) dX11_trace_5 (fun H locs hW => ?_)
  refine lv_if_eq (pc := 8) (tgt := 22) hx hb dX11_trace_8 (by decide) (fun c4 => ?_) (fun c4 => ?_)
  · have hf := zt c4 hf
    refine lv_iconst (pc := 22) (v := (-1)) hx hb dX11_trace_22 (by decide) ?_
    exact zend_i (w := wX cA h) fin hf hW dX11_trace_23
  · have hf := zf c4 hf
    refine lv_aload_n (pc := 11) hx hb dX11_trace_11 rfl (lv_at hl 0 rfl) ?_
    refine xg_1208 (pc := 12) C0 hu_11 hW mX_560 dX11_trace_12 ?_
    refine lv_iload_n (pc := 15) hx hb dX11_trace_15 rfl (lv_at hl 1 rfl) ?_
    obtain ⟨r5, S6, e7, hf⟩ := zB_e hf
    refine zcVi (zEX_ok tt) (As := [.int p1]) (pc := 16) C0 hW (kX0_traceAt l D cA h tt H.size p1 S2 r5 S6 e7) (cwV 1 hts (zgV gaX mX_770 mX_771 mX_772 mX_12 mX_30) rfl rfl rfl (by decide +kernel) ⟨Nat.le_of_ble_eq_true rfl, Nat.le_of_ble_eq_true rfl⟩) (va_recv hW.1 hW.2.1 (ci := 0) (q0 := 0) rfl rfl) rfl hl.1 rfl (Nat.le_of_ble_eq_true rfl) dX11_trace_16 (fun H locs hW => ?_)
    refine lv_goto (pc := 19) (tgt := 23) hx hb dX11_trace_19 (by decide) ?_
    exact zend_i (w := wX cA h) fin hf hW dX11_trace_23

def fX11_keep_b25  (v1 : Int32) (v2 : Int32) (S : zSt) : Option (Int32 × zSt) :=
  zU (fX9_hold v1 v2 S) fun S2 => some (1, S2)
def fX11_keep (p1 : Int32) (p2 : Int32) (S : zSt) : Option (Int32 × zSt) :=
  zU (fX9_has p1) fun r4 => if r4 = 0 then (some ((-1), S)) else (if p2 = (-1) then (fX11_keep_b25 p1 p2 S) else (zB (fX0_has p2 S) fun r9 S10 => if r9 = 0 then (some ((-1), S10)) else (fX11_keep_b25 p1 p2 S10)))
abbrev wX11_keep : List Cond := Cond.code yX11_keep cX11_keep 3 (some .int) :: waX
abbrev rmX11_keep : Room := { frames := 2, cells := 0, slots := 0, locals := 42 }
set_option maxHeartbeats 4000000 in
set_option maxRecDepth 100000 in
theorem kX11_keep (l : Launch) (D : va_G) (cA : Nat → ClassId) (h tt : Nat → Nat) (sz : Nat)  (p1 : Int32) (p2 : Int32) (S : zSt) (r : Int32) (S1 : zSt) (hf : fX11_keep p1 p2 S = some (r, S1)) : zMi l yX11_keep wX11_keep rmX11_keep (zEX tt) D (tX cA) (hsX h) [.ref (h 11), .int p1, .int p2] (wX cA h S) (wX cA h S1) sz r := by
  refine zEn_i (cc := cX11_keep) (maxL := 3) (own := RX11) (by decide) rfl rfl (hmX cA h S) (Nat.le_of_ble_eq_true rfl) ?_
  intro p e s m args below meth c Q H locs C0 hW fin ls hl
  have hl : lv_has ls 3 [(0, .ref (h 11)), (1, .int p1), (2, .int p2)] := hl
  have hx := C0.1
  have hb := C0.2.1
  have hown := C0.2.2.2.1
  have hts := C0.2.2.2.2
  have w25 : ∀ (v1 : Int32) (v2 : Int32) (S : zSt) (H : Heap) (locs : List Loc), zW (zEX tt) D (tX cA) (wX cA h S) (aW (hsX h) s.heap.size) s H locs → ∀ ls : Array Slot, lv_has ls 3 [(0, .ref (h 11)), (1, .int v1), (2, .int v2)] → fX11_keep_b25 v1 v2 S = some (r, S1) → W p l e rmX11_keep s m args below meth c H locs 0 0 Q (F0 m 25 ls []) := by
    intro v1 v2 S H locs hW ls hl hf
    unfold fX11_keep_b25 at hf
    refine lv_aload_n (pc := 25) hx hb dX11_keep_25 rfl (lv_at hl 0 rfl) ?_
    refine xg_1209 (pc := 26) C0 hu_11 hW mX_563 dX11_keep_26 ?_
    refine lv_iload_n (pc := 29) hx hb dX11_keep_29 rfl (lv_at hl 1 rfl) ?_
    refine lv_iload_n (pc := 30) hx hb dX11_keep_30 rfl (lv_at hl 2 rfl) ?_
    obtain ⟨S2, e3, hf⟩ := zU_e hf
    refine zcVv (zEX_ok tt) (As := [.int v1, .int v2]) (pc := 31) C0 hW (kX9_hold l D cA h tt H.size v1 v2 S S2 e3) (cwV 2 hts (zgV gaX mX_775 mX_776 mX_777 mX_507 mX_509) rfl rfl rfl (by decide +kernel) ⟨Nat.le_of_ble_eq_true rfl, Nat.le_of_ble_eq_true rfl⟩) (va_recv hW.1 hW.2.1 (ci := 9) (q0 := 9) rfl rfl) rfl hl.1 rfl (Nat.le_of_ble_eq_true rfl) dX11_keep_31 (fun H locs hW => ?_)
    refine lv_iconst (pc := 34) (v := 1) hx hb dX11_keep_34 (by decide) ?_
    exact zend_i (w := wX cA h) fin hf hW dX11_keep_35
  unfold fX11_keep at hf
  refine lv_iload_n (pc := 0) hx hb dX11_keep_0 rfl (lv_at hl 1 rfl) ?_
  obtain ⟨r4, e6, hf⟩ := zU_e hf
  refine zcSi (As := [.int p1]) (pc := 1) C0 hW (kX9_has l H.size p1 r4 e6) (va_cwS 1 hts (zgS gaX mX_729 mX_506 mX_507 mX_502) rfl rfl rfl (by decide +kernel) ⟨Nat.le_of_ble_eq_true rfl, Nat.le_of_ble_eq_true rfl⟩) rfl hl.1 rfl (Nat.le_of_ble_eq_true rfl) dX11_keep_1 (fun H locs hW => ?_)
  refine lv_if_eq (pc := 4) (tgt := 23) hx hb dX11_keep_4 (by decide) (fun c7 => ?_) (fun c7 => ?_)
  · have hf := zt c7 hf
    refine lv_iconst (pc := 23) (v := (-1)) hx hb dX11_keep_23 (by decide) ?_
    exact zend_i (w := wX cA h) fin hf hW dX11_keep_24
  · have hf := zf c7 hf
    refine lv_iload_n (pc := 7) hx hb dX11_keep_7 rfl (lv_at hl 2 rfl) ?_
    refine lv_iconst (pc := 8) (v := (-1)) hx hb dX11_keep_8 (by decide) ?_
    refine lv_icmp_eq (pc := 9) (tgt := 25) hx hb dX11_keep_9 (by decide) (fun c8 => ?_) (fun c8 => ?_)
    · have hf := zt c8 hf
      exact w25 p1 p2 S H locs hW ls (lv_sub hl [0, 1, 2] rfl) hf
    · have hf := zf c8 hf
      refine lv_aload_n (pc := 12) hx hb dX11_keep_12 rfl (lv_at hl 0 rfl) ?_
      refine xg_1208 (pc := 13) C0 hu_11 hW mX_560 dX11_keep_13 ?_
      refine lv_iload_n (pc := 16) hx hb dX11_keep_16 rfl (lv_at hl 2 rfl) ?_
      obtain ⟨r9, S10, e11, hf⟩ := zB_e hf
      refine zcVi (zEX_ok tt) (As := [.int p2]) (pc := 17) C0 hW (kX0_has l D cA h tt H.size p2 S r9 S10 e11) (cwV 1 hts (zgV gaX mX_774 mX_22 mX_23 mX_12 mX_15) rfl rfl rfl (by decide +kernel) ⟨Nat.le_of_ble_eq_true rfl, Nat.le_of_ble_eq_true rfl⟩) (va_recv hW.1 hW.2.1 (ci := 0) (q0 := 0) rfl rfl) rfl hl.1 rfl (Nat.le_of_ble_eq_true rfl) dX11_keep_17 (fun H locs hW => ?_)
      refine lv_if_ne (pc := 20) (tgt := 25) hx hb dX11_keep_20 (by decide) (fun c12 => ?_) (fun c12 => ?_)
      · have hf := zf c12 hf
        exact w25 p1 p2 S10 H locs hW ls (lv_sub hl [0, 1, 2] rfl) hf
      · have hf := zt c12 hf
        refine lv_iconst (pc := 23) (v := (-1)) hx hb dX11_keep_23 (by decide) ?_
        exact zend_i (w := wX cA h) fin hf hW dX11_keep_24

def fX11_row (N : Nat) (p1 : Int32) (p2 : Int32) (p3 : Int32) (S : zSt) : Option (Int32 × zSt) :=
  zU (fX9_has p1) fun r1 => if r1 = 0 then (some ((-1), S)) else (zB (fX9_isSort p2 S) fun r5 S6 => if r5 = 0 then (some ((-1), S6)) else (if p3 ≤ 60 then (if 0 ≤ p3 then (zU (fX9_holdRow N p1 p2 p3 S6) fun S12 => some (1, S12)) else (some ((-14), S6))) else (some ((-1), S6))))
abbrev wX11_row : List Cond := Cond.code yX11_row cX11_row 4 (some .int) :: waX
abbrev rmX11_row : Room := { frames := 2, cells := 0, slots := 0, locals := 47 }
set_option maxHeartbeats 4000000 in
set_option maxRecDepth 100000 in
theorem kX11_row (l : Launch) (D : va_G) (cA : Nat → ClassId) (h tt : Nat → Nat) (sz : Nat) (N : Nat)  (p1 : Int32) (p2 : Int32) (p3 : Int32) (S : zSt) (r : Int32) (S1 : zSt) (hf : fX11_row N p1 p2 p3 S = some (r, S1)) : zMi l yX11_row wX11_row rmX11_row (zEX tt) D (tX cA) (hsX h) [.ref (h 11), .int p1, .int p2, .int p3] (wX cA h S) (wX cA h S1) sz r := by
  refine zEn_i (cc := cX11_row) (maxL := 4) (own := RX11) (by decide) rfl rfl (hmX cA h S) (Nat.le_of_ble_eq_true rfl) ?_
  intro p e s m args below meth c Q H locs C0 hW fin ls hl
  have hl : lv_has ls 4 [(0, .ref (h 11)), (1, .int p1), (2, .int p2), (3, .int p3)] := hl
  have hx := C0.1
  have hb := C0.2.1
  have hown := C0.2.2.2.1
  have hts := C0.2.2.2.2
  unfold fX11_row at hf
  refine lv_iload_n (pc := 0) hx hb dX11_row_0 rfl (lv_at hl 1 rfl) ?_
  obtain ⟨r1, e3, hf⟩ := zU_e hf
  refine zcSi (As := [.int p1]) (pc := 1) C0 hW (kX9_has l H.size p1 r1 e3) (va_cwS 1 hts (zgS gaX mX_729 mX_506 mX_507 mX_502) rfl rfl rfl (by decide +kernel) ⟨Nat.le_of_ble_eq_true rfl, Nat.le_of_ble_eq_true rfl⟩) rfl hl.1 rfl (Nat.le_of_ble_eq_true rfl) dX11_row_1 (fun H locs hW => ?_)
  refine lv_if_eq (pc := 4) (tgt := 20) hx hb dX11_row_4 (by decide) (fun c4 => ?_) (fun c4 => ?_)
  · have hf := zt c4 hf
    refine lv_iconst (pc := 20) (v := (-1)) hx hb dX11_row_20 (by decide) ?_
    exact zend_i (w := wX cA h) fin hf hW dX11_row_21
  · have hf := zf c4 hf
    refine lv_iload_n (pc := 7) hx hb dX11_row_7 rfl (lv_at hl 2 rfl) ?_
    obtain ⟨r5, S6, e7, hf⟩ := zB_e hf
    refine zcWi (zEX_ok tt) (As := [.int p2]) (pc := 8) C0 hW (kX9_isSort l D cA h tt H.size p2 S r5 S6 e7) (va_cwS 1 hts (zgS gaX mX_779 mX_520 mX_507 mX_503) rfl rfl rfl (by decide +kernel) ⟨Nat.le_of_ble_eq_true rfl, Nat.le_of_ble_eq_true rfl⟩) rfl hl.1 rfl (Nat.le_of_ble_eq_true rfl) dX11_row_8 (fun H locs hW => ?_)
    refine lv_if_eq (pc := 11) (tgt := 20) hx hb dX11_row_11 (by decide) (fun c8 => ?_) (fun c8 => ?_)
    · have hf := zt c8 hf
      refine lv_iconst (pc := 20) (v := (-1)) hx hb dX11_row_20 (by decide) ?_
      exact zend_i (w := wX cA h) fin hf hW dX11_row_21
    · have hf := zf c8 hf
      refine lv_iload_n (pc := 14) hx hb dX11_row_14 rfl (lv_at hl 3 rfl) ?_
      refine lv_bipush (pc := 15) (v := 60) hx hb dX11_row_15 (by decide) ?_
      refine lv_icmp_le (pc := 17) (tgt := 22) hx hb dX11_row_17 (by decide) (fun c9 => ?_) (fun c9 => ?_)
      · have hf := zt c9 hf
        refine lv_iload_n (pc := 22) hx hb dX11_row_22 rfl (lv_at hl 3 rfl) ?_
        refine lv_if_ge (pc := 23) (tgt := 29) hx hb dX11_row_23 (by decide) (fun c10 => ?_) (fun c10 => ?_)
        · have hf := zt c10 hf
          refine lv_aload_n (pc := 29) hx hb dX11_row_29 rfl (lv_at hl 0 rfl) ?_
          refine xg_1209 (pc := 30) C0 hu_11 hW mX_563 dX11_row_30 ?_
          refine lv_iload_n (pc := 33) hx hb dX11_row_33 rfl (lv_at hl 1 rfl) ?_
          refine lv_iload_n (pc := 34) hx hb dX11_row_34 rfl (lv_at hl 2 rfl) ?_
          refine lv_iload_n (pc := 35) hx hb dX11_row_35 rfl (lv_at hl 3 rfl) ?_
          obtain ⟨S12, e13, hf⟩ := zU_e hf
          refine zcVv (zEX_ok tt) (As := [.int p1, .int p2, .int p3]) (pc := 36) C0 hW (kX9_holdRow l D cA h tt H.size N p1 p2 p3 S6 S12 e13) (cwV 3 hts (zgV gaX mX_780 mX_781 mX_782 mX_507 mX_510) rfl rfl rfl (by decide +kernel) ⟨Nat.le_of_ble_eq_true rfl, Nat.le_of_ble_eq_true rfl⟩) (va_recv hW.1 hW.2.1 (ci := 9) (q0 := 9) rfl rfl) rfl hl.1 rfl (Nat.le_of_ble_eq_true rfl) dX11_row_36 (fun H locs hW => ?_)
          refine lv_iconst (pc := 39) (v := 1) hx hb dX11_row_39 (by decide) ?_
          exact zend_i (w := wX cA h) fin hf hW dX11_row_40
        · have hf := zf c10 hf
          refine lv_bipush (pc := 26) (v := (-14)) hx hb dX11_row_26 (by decide) ?_
          exact zend_i (w := wX cA h) fin hf hW dX11_row_28
      · have hf := zf c9 hf
        refine lv_iconst (pc := 20) (v := (-1)) hx hb dX11_row_20 (by decide) ?_
        exact zend_i (w := wX cA h) fin hf hW dX11_row_21

def fX11_put (p1 : Int32) (p2 : Int32) (p3 : Int64) (S : zSt) : Option (Int32 × zSt) :=
  zB (fX9_refusalOf p1 p2 S) fun r1 S2 => if r1 = 0 then (zU (fX9_putAt p1 p2 p3 S2) fun S6 => some (1, S6)) else (some (r1, S2))
abbrev wX11_put : List Cond := Cond.code yX11_put cX11_put 6 (some .int) :: waX
abbrev rmX11_put : Room := { frames := 4, cells := 0, slots := 0, locals := 89 }
set_option maxHeartbeats 4000000 in
set_option maxRecDepth 100000 in
theorem kX11_put (l : Launch) (D : va_G) (cA : Nat → ClassId) (h tt : Nat → Nat) (sz : Nat)  (p1 : Int32) (p2 : Int32) (p3 : Int64) (S : zSt) (r : Int32) (S1 : zSt) (hf : fX11_put p1 p2 p3 S = some (r, S1)) : zMi l yX11_put wX11_put rmX11_put (zEX tt) D (tX cA) (hsX h) [.ref (h 11), .int p1, .int p2, .long p3] (wX cA h S) (wX cA h S1) sz r := by
  refine zEn_i (cc := cX11_put) (maxL := 6) (own := RX11) (by decide) rfl rfl (hmX cA h S) (Nat.le_of_ble_eq_true rfl) ?_
  intro p e s m args below meth c Q H locs C0 hW fin ls hl
  have hl : lv_has ls 6 [(0, .ref (h 11)), (1, .int p1), (2, .int p2), (3, .long p3)] := hl
  have hx := C0.1
  have hb := C0.2.1
  have hown := C0.2.2.2.1
  have hts := C0.2.2.2.2
  unfold fX11_put at hf
  refine lv_aload_n (pc := 0) hx hb dX11_put_0 rfl (lv_at hl 0 rfl) ?_
  refine xg_1209 (pc := 1) C0 hu_11 hW mX_563 dX11_put_1 ?_
  refine lv_iload_n (pc := 4) hx hb dX11_put_4 rfl (lv_at hl 1 rfl) ?_
  refine lv_iload_n (pc := 5) hx hb dX11_put_5 rfl (lv_at hl 2 rfl) ?_
  obtain ⟨r1, S2, e3, hf⟩ := zB_e hf
  refine zcVi (zEX_ok tt) (As := [.int p1, .int p2]) (pc := 6) C0 hW (kX9_refusalOf l D cA h tt H.size p1 p2 S r1 S2 e3) (cwV 2 hts (zgV gaX mX_784 mX_785 mX_786 mX_507 mX_514) rfl rfl rfl (by decide +kernel) ⟨Nat.le_of_ble_eq_true rfl, Nat.le_of_ble_eq_true rfl⟩) (va_recv hW.1 hW.2.1 (ci := 9) (q0 := 9) rfl rfl) rfl hl.1 rfl (Nat.le_of_ble_eq_true rfl) dX11_put_6 (fun H locs hW => ?_)
  refine lv_istore (pc := 9) (lv' := [(5, .int r1), (0, .ref (h 11)), (1, .int p1), (2, .int p2), (3, .long p3)]) hx hb dX11_put_9 hl (by decide) rfl (fun ls hl => ?_)
  refine lv_iload (pc := 11) hx hb dX11_put_11 (lv_at hl 0 rfl) ?_
  refine lv_if_ne (pc := 13) (tgt := 28) hx hb dX11_put_13 (by decide) (fun c4 => ?_) (fun c4 => ?_)
  · have hf := zf c4 hf
    refine lv_iload (pc := 28) hx hb dX11_put_28 (lv_at hl 0 rfl) ?_
    exact zend_i (w := wX cA h) fin hf hW dX11_put_30
  · have hf := zt c4 hf
    refine lv_aload_n (pc := 16) hx hb dX11_put_16 rfl (lv_at hl 1 rfl) ?_
    refine xg_1209 (pc := 17) C0 hu_11 hW mX_563 dX11_put_17 ?_
    refine lv_iload_n (pc := 20) hx hb dX11_put_20 rfl (lv_at hl 2 rfl) ?_
    refine lv_iload_n (pc := 21) hx hb dX11_put_21 rfl (lv_at hl 3 rfl) ?_
    refine lv_lload_n (pc := 22) hx hb dX11_put_22 rfl (lv_at hl 4 rfl) ?_
    obtain ⟨S6, e7, hf⟩ := zU_e hf
    refine zcVv (zEX_ok tt) (As := [.int p1, .int p2, .long p3]) (pc := 23) C0 hW (kX9_putAt l D cA h tt H.size p1 p2 p3 S2 S6 e7) (cwV 3 hts (zgV gaX mX_787 mX_788 mX_789 mX_507 mX_522) rfl rfl rfl (by decide +kernel) ⟨Nat.le_of_ble_eq_true rfl, Nat.le_of_ble_eq_true rfl⟩) (va_recv hW.1 hW.2.1 (ci := 9) (q0 := 9) rfl rfl) rfl hl.1 rfl (Nat.le_of_ble_eq_true rfl) dX11_put_23 (fun H locs hW => ?_)
    refine lv_iconst (pc := 26) (v := 1) hx hb dX11_put_26 (by decide) ?_
    exact zend_i (w := wX cA h) fin hf hW dX11_put_27

def fX11_element (p1 : Int32) (p2 : Int32) (S : zSt) : Option (Int64 × zSt) :=
  zB (fX9_refusalOf p1 p2 S) fun r1 S2 => if r1 = 0 then (zB (fX9_elementAt p1 p2 S2) fun r5 S6 => some (r5, S6)) else (some ((-9223372036854775808), S2))
abbrev wX11_element : List Cond := Cond.code yX11_element cX11_element 3 (some .long) :: waX
abbrev rmX11_element : Room := { frames := 4, cells := 0, slots := 0, locals := 87 }
set_option maxHeartbeats 4000000 in
set_option maxRecDepth 100000 in
theorem kX11_element (l : Launch) (D : va_G) (cA : Nat → ClassId) (h tt : Nat → Nat) (sz : Nat)  (p1 : Int32) (p2 : Int32) (S : zSt) (r : Int64) (S1 : zSt) (hf : fX11_element p1 p2 S = some (r, S1)) : zMl l yX11_element wX11_element rmX11_element (zEX tt) D (tX cA) (hsX h) [.ref (h 11), .int p1, .int p2] (wX cA h S) (wX cA h S1) sz r := by
  refine zEn_l (cc := cX11_element) (maxL := 3) (own := RX11) (by decide) rfl rfl (hmX cA h S) (Nat.le_of_ble_eq_true rfl) ?_
  intro p e s m args below meth c Q H locs C0 hW fin ls hl
  have hl : lv_has ls 3 [(0, .ref (h 11)), (1, .int p1), (2, .int p2)] := hl
  have hx := C0.1
  have hb := C0.2.1
  have hown := C0.2.2.2.1
  have hts := C0.2.2.2.2
  unfold fX11_element at hf
  refine lv_aload_n (pc := 0) hx hb dX11_element_0 rfl (lv_at hl 0 rfl) ?_
  refine xg_1209 (pc := 1) C0 hu_11 hW mX_563 dX11_element_1 ?_
  refine lv_iload_n (pc := 4) hx hb dX11_element_4 rfl (lv_at hl 1 rfl) ?_
  refine lv_iload_n (pc := 5) hx hb dX11_element_5 rfl (lv_at hl 2 rfl) ?_
  obtain ⟨r1, S2, e3, hf⟩ := zB_e hf
  refine zcVi (zEX_ok tt) (As := [.int p1, .int p2]) (pc := 6) C0 hW (kX9_refusalOf l D cA h tt H.size p1 p2 S r1 S2 e3) (cwV 2 hts (zgV gaX mX_784 mX_785 mX_786 mX_507 mX_514) rfl rfl rfl (by decide +kernel) ⟨Nat.le_of_ble_eq_true rfl, Nat.le_of_ble_eq_true rfl⟩) (va_recv hW.1 hW.2.1 (ci := 9) (q0 := 9) rfl rfl) rfl hl.1 rfl (Nat.le_of_ble_eq_true rfl) dX11_element_6 (fun H locs hW => ?_)
  refine lv_if_ne (pc := 9) (tgt := 24) hx hb dX11_element_9 (by decide) (fun c4 => ?_) (fun c4 => ?_)
  · have hf := zf c4 hf
    refine lv_ldc2 (pc := 24) (v := (-9223372036854775808)) hx hb hown (hts _ mX_791) dX11_element_24 ?_
    exact zend_l (w := wX cA h) fin hf hW dX11_element_27
  · have hf := zt c4 hf
    refine lv_aload_n (pc := 12) hx hb dX11_element_12 rfl (lv_at hl 0 rfl) ?_
    refine xg_1209 (pc := 13) C0 hu_11 hW mX_563 dX11_element_13 ?_
    refine lv_iload_n (pc := 16) hx hb dX11_element_16 rfl (lv_at hl 1 rfl) ?_
    refine lv_iload_n (pc := 17) hx hb dX11_element_17 rfl (lv_at hl 2 rfl) ?_
    obtain ⟨r5, S6, e7, hf⟩ := zB_e hf
    refine zcVl (zEX_ok tt) (As := [.int p1, .int p2]) (pc := 18) C0 hW (kX9_elementAt l D cA h tt H.size p1 p2 S2 r5 S6 e7) (cwV 2 hts (zgV gaX mX_738 mX_739 mX_740 mX_507 mX_521) rfl rfl rfl (by decide +kernel) ⟨Nat.le_of_ble_eq_true rfl, Nat.le_of_ble_eq_true rfl⟩) (va_recv hW.1 hW.2.1 (ci := 9) (q0 := 9) rfl rfl) rfl hl.1 rfl (Nat.le_of_ble_eq_true rfl) dX11_element_18 (fun H locs hW => ?_)
    refine lv_goto (pc := 21) (tgt := 27) hx hb dX11_element_21 (by decide) ?_
    exact zend_l (w := wX cA h) fin hf hW dX11_element_27

def fX11_shift (p1 : Int32) (p2 : Int32) (p3 : Int32) (p4 : Int32) (p5 : Int32) (S : zSt) : Option (Int32 × zSt) :=
  zU (fX9_has p1) fun r1 => if r1 = 0 then (some ((-1), S)) else (zU (fX9_has p3) fun r5 => if r5 = 0 then (some ((-1), S)) else (zB (fX9_sortOn p1 S) fun r9 S10 => if r9 = (-2) then (some ((-11), S10)) else (zB (fX9_sortOn p3 S10) fun r13 S14 => if r13 = (-2) then (some ((-11), S14)) else (zB (fX9_isSort r9 S14) fun r17 S18 => if r17 = 0 then (some ((-12), S18)) else (zB (fX9_sortOn p3 S18) fun r21 S22 => if r9 = r21 then (zB (fX9_hasStretch p1 p2 p5 S22) fun r25 S26 => if r25 = 0 then (some ((-13), S26)) else (zB (fX9_hasStretch p3 p4 p5 S26) fun r29 S30 => if r29 = 0 then (some ((-13), S30)) else (zU (fX9_copy p1 p2 p3 p4 p5 S30) fun S34 => some (p5, S34)))) else (some ((-12), S22)))))))
abbrev wX11_shift : List Cond := Cond.code yX11_shift cX11_shift 7 (some .int) :: waX
abbrev rmX11_shift : Room := { frames := 4, cells := 0, slots := 0, locals := 90 }
set_option maxHeartbeats 4000000 in
set_option maxRecDepth 100000 in
theorem kX11_shift (l : Launch) (D : va_G) (cA : Nat → ClassId) (h tt : Nat → Nat) (sz : Nat)  (p1 : Int32) (p2 : Int32) (p3 : Int32) (p4 : Int32) (p5 : Int32) (S : zSt) (r : Int32) (S1 : zSt) (hf : fX11_shift p1 p2 p3 p4 p5 S = some (r, S1)) : zMi l yX11_shift wX11_shift rmX11_shift (zEX tt) D (tX cA) (hsX h) [.ref (h 11), .int p1, .int p2, .int p3, .int p4, .int p5] (wX cA h S) (wX cA h S1) sz r := by
  refine zEn_i (cc := cX11_shift) (maxL := 7) (own := RX11) (by decide) rfl rfl (hmX cA h S) (Nat.le_of_ble_eq_true rfl) ?_
  intro p e s m args below meth c Q H locs C0 hW fin ls hl
  have hl : lv_has ls 7 [(0, .ref (h 11)), (1, .int p1), (2, .int p2), (3, .int p3), (4, .int p4), (5, .int p5)] := hl
  have hx := C0.1
  have hb := C0.2.1
  have hown := C0.2.2.2.1
  have hts := C0.2.2.2.2
  unfold fX11_shift at hf
  refine lv_iload_n (pc := 0) hx hb dX11_shift_0 rfl (lv_at hl 1 rfl) ?_
  obtain ⟨r1, e3, hf⟩ := zU_e hf
  refine zcSi (As := [.int p1]) (pc := 1) C0 hW (kX9_has l H.size p1 r1 e3) (va_cwS 1 hts (zgS gaX mX_729 mX_506 mX_507 mX_502) rfl rfl rfl (by decide +kernel) ⟨Nat.le_of_ble_eq_true rfl, Nat.le_of_ble_eq_true rfl⟩) rfl hl.1 rfl (Nat.le_of_ble_eq_true rfl) dX11_shift_1 (fun H locs hW => ?_)
  refine lv_if_eq (pc := 4) (tgt := 14) hx hb dX11_shift_4 (by decide) (fun c4 => ?_) (fun c4 => ?_)
  · have hf := zt c4 hf
    refine lv_iconst (pc := 14) (v := (-1)) hx hb dX11_shift_14 (by decide) ?_
    exact zend_i (w := wX cA h) fin hf hW dX11_shift_15
  · have hf := zf c4 hf
    refine lv_iload_n (pc := 7) hx hb dX11_shift_7 rfl (lv_at hl 3 rfl) ?_
    obtain ⟨r5, e7, hf⟩ := zU_e hf
    refine zcSi (As := [.int p3]) (pc := 8) C0 hW (kX9_has l H.size p3 r5 e7) (va_cwS 1 hts (zgS gaX mX_729 mX_506 mX_507 mX_502) rfl rfl rfl (by decide +kernel) ⟨Nat.le_of_ble_eq_true rfl, Nat.le_of_ble_eq_true rfl⟩) rfl hl.1 rfl (Nat.le_of_ble_eq_true rfl) dX11_shift_8 (fun H locs hW => ?_)
    refine lv_if_ne (pc := 11) (tgt := 16) hx hb dX11_shift_11 (by decide) (fun c8 => ?_) (fun c8 => ?_)
    · have hf := zf c8 hf
      refine lv_aload_n (pc := 16) hx hb dX11_shift_16 rfl (lv_at hl 0 rfl) ?_
      refine xg_1209 (pc := 17) C0 hu_11 hW mX_563 dX11_shift_17 ?_
      refine lv_iload_n (pc := 20) hx hb dX11_shift_20 rfl (lv_at hl 1 rfl) ?_
      obtain ⟨r9, S10, e11, hf⟩ := zB_e hf
      refine zcVi (zEX_ok tt) (As := [.int p1]) (pc := 21) C0 hW (kX9_sortOn l D cA h tt H.size p1 S r9 S10 e11) (cwV 1 hts (zgV gaX mX_730 mX_731 mX_732 mX_507 mX_504) rfl rfl rfl (by decide +kernel) ⟨Nat.le_of_ble_eq_true rfl, Nat.le_of_ble_eq_true rfl⟩) (va_recv hW.1 hW.2.1 (ci := 9) (q0 := 9) rfl rfl) rfl hl.1 rfl (Nat.le_of_ble_eq_true rfl) dX11_shift_21 (fun H locs hW => ?_)
      refine lv_istore (pc := 24) (lv' := [(6, .int r9), (0, .ref (h 11)), (1, .int p1), (2, .int p2), (3, .int p3), (4, .int p4), (5, .int p5)]) hx hb dX11_shift_24 hl (by decide) rfl (fun ls hl => ?_)
      refine lv_iload (pc := 26) hx hb dX11_shift_26 (lv_at hl 0 rfl) ?_
      refine lv_bipush (pc := 28) (v := (-2)) hx hb dX11_shift_28 (by decide) ?_
      refine lv_icmp_eq (pc := 30) (tgt := 46) hx hb dX11_shift_30 (by decide) (fun c12 => ?_) (fun c12 => ?_)
      · have hf := zt c12 hf
        refine lv_bipush (pc := 46) (v := (-11)) hx hb dX11_shift_46 (by decide) ?_
        exact zend_i (w := wX cA h) fin hf hW dX11_shift_48
      · have hf := zf c12 hf
        refine lv_aload_n (pc := 33) hx hb dX11_shift_33 rfl (lv_at hl 1 rfl) ?_
        refine xg_1209 (pc := 34) C0 hu_11 hW mX_563 dX11_shift_34 ?_
        refine lv_iload_n (pc := 37) hx hb dX11_shift_37 rfl (lv_at hl 4 rfl) ?_
        obtain ⟨r13, S14, e15, hf⟩ := zB_e hf
        refine zcVi (zEX_ok tt) (As := [.int p3]) (pc := 38) C0 hW (kX9_sortOn l D cA h tt H.size p3 S10 r13 S14 e15) (cwV 1 hts (zgV gaX mX_730 mX_731 mX_732 mX_507 mX_504) rfl rfl rfl (by decide +kernel) ⟨Nat.le_of_ble_eq_true rfl, Nat.le_of_ble_eq_true rfl⟩) (va_recv hW.1 hW.2.1 (ci := 9) (q0 := 9) rfl rfl) rfl hl.1 rfl (Nat.le_of_ble_eq_true rfl) dX11_shift_38 (fun H locs hW => ?_)
        refine lv_bipush (pc := 41) (v := (-2)) hx hb dX11_shift_41 (by decide) ?_
        refine lv_icmp_ne (pc := 43) (tgt := 49) hx hb dX11_shift_43 (by decide) (fun c16 => ?_) (fun c16 => ?_)
        · have hf := zf c16 hf
          refine lv_iload (pc := 49) hx hb dX11_shift_49 (lv_at hl 0 rfl) ?_
          obtain ⟨r17, S18, e19, hf⟩ := zB_e hf
          refine zcWi (zEX_ok tt) (As := [.int r9]) (pc := 51) C0 hW (kX9_isSort l D cA h tt H.size r9 S14 r17 S18 e19) (va_cwS 1 hts (zgS gaX mX_779 mX_520 mX_507 mX_503) rfl rfl rfl (by decide +kernel) ⟨Nat.le_of_ble_eq_true rfl, Nat.le_of_ble_eq_true rfl⟩) rfl hl.1 rfl (Nat.le_of_ble_eq_true rfl) dX11_shift_51 (fun H locs hW => ?_)
          refine lv_if_eq (pc := 54) (tgt := 70) hx hb dX11_shift_54 (by decide) (fun c20 => ?_) (fun c20 => ?_)
          · have hf := zt c20 hf
            refine lv_bipush (pc := 70) (v := (-12)) hx hb dX11_shift_70 (by decide) ?_
            exact zend_i (w := wX cA h) fin hf hW dX11_shift_72
          · have hf := zf c20 hf
            refine lv_iload (pc := 57) hx hb dX11_shift_57 (lv_at hl 0 rfl) ?_
            refine lv_aload_n (pc := 59) hx hb dX11_shift_59 rfl (lv_at hl 1 rfl) ?_
            refine xg_1209 (pc := 60) C0 hu_11 hW mX_563 dX11_shift_60 ?_
            refine lv_iload_n (pc := 63) hx hb dX11_shift_63 rfl (lv_at hl 4 rfl) ?_
            obtain ⟨r21, S22, e23, hf⟩ := zB_e hf
            refine zcVi (zEX_ok tt) (As := [.int p3]) (pc := 64) C0 hW (kX9_sortOn l D cA h tt H.size p3 S18 r21 S22 e23) (cwV 1 hts (zgV gaX mX_730 mX_731 mX_732 mX_507 mX_504) rfl rfl rfl (by decide +kernel) ⟨Nat.le_of_ble_eq_true rfl, Nat.le_of_ble_eq_true rfl⟩) (va_recv hW.1 hW.2.1 (ci := 9) (q0 := 9) rfl rfl) rfl hl.1 rfl (Nat.le_of_ble_eq_true rfl) dX11_shift_64 (fun H locs hW => ?_)
            refine lv_icmp_eq (pc := 67) (tgt := 73) hx hb dX11_shift_67 (by decide) (fun c24 => ?_) (fun c24 => ?_)
            · have hf := zt c24 hf
              refine lv_aload_n (pc := 73) hx hb dX11_shift_73 rfl (lv_at hl 1 rfl) ?_
              refine xg_1209 (pc := 74) C0 hu_11 hW mX_563 dX11_shift_74 ?_
              refine lv_iload_n (pc := 77) hx hb dX11_shift_77 rfl (lv_at hl 2 rfl) ?_
              refine lv_iload_n (pc := 78) hx hb dX11_shift_78 rfl (lv_at hl 3 rfl) ?_
              refine lv_iload (pc := 79) hx hb dX11_shift_79 (lv_at hl 6 rfl) ?_
              obtain ⟨r25, S26, e27, hf⟩ := zB_e hf
              refine zcVi (zEX_ok tt) (As := [.int p1, .int p2, .int p5]) (pc := 81) C0 hW (kX9_hasStretch l D cA h tt H.size p1 p2 p5 S22 r25 S26 e27) (cwV 3 hts (zgV gaX mX_737 mX_516 mX_517 mX_507 mX_518) rfl rfl rfl (by decide +kernel) ⟨Nat.le_of_ble_eq_true rfl, Nat.le_of_ble_eq_true rfl⟩) (va_recv hW.1 hW.2.1 (ci := 9) (q0 := 9) rfl rfl) rfl hl.1 rfl (Nat.le_of_ble_eq_true rfl) dX11_shift_81 (fun H locs hW => ?_)
              refine lv_if_eq (pc := 84) (tgt := 102) hx hb dX11_shift_84 (by decide) (fun c28 => ?_) (fun c28 => ?_)
              · have hf := zt c28 hf
                refine lv_bipush (pc := 102) (v := (-13)) hx hb dX11_shift_102 (by decide) ?_
                exact zend_i (w := wX cA h) fin hf hW dX11_shift_104
              · have hf := zf c28 hf
                refine lv_aload_n (pc := 87) hx hb dX11_shift_87 rfl (lv_at hl 1 rfl) ?_
                refine xg_1209 (pc := 88) C0 hu_11 hW mX_563 dX11_shift_88 ?_
                refine lv_iload_n (pc := 91) hx hb dX11_shift_91 rfl (lv_at hl 4 rfl) ?_
                refine lv_iload (pc := 92) hx hb dX11_shift_92 (lv_at hl 5 rfl) ?_
                refine lv_iload (pc := 94) hx hb dX11_shift_94 (lv_at hl 6 rfl) ?_
                obtain ⟨r29, S30, e31, hf⟩ := zB_e hf
                refine zcVi (zEX_ok tt) (As := [.int p3, .int p4, .int p5]) (pc := 96) C0 hW (kX9_hasStretch l D cA h tt H.size p3 p4 p5 S26 r29 S30 e31) (cwV 3 hts (zgV gaX mX_737 mX_516 mX_517 mX_507 mX_518) rfl rfl rfl (by decide +kernel) ⟨Nat.le_of_ble_eq_true rfl, Nat.le_of_ble_eq_true rfl⟩) (va_recv hW.1 hW.2.1 (ci := 9) (q0 := 9) rfl rfl) rfl hl.1 rfl (Nat.le_of_ble_eq_true rfl) dX11_shift_96 (fun H locs hW => ?_)
                refine lv_if_ne (pc := 99) (tgt := 105) hx hb dX11_shift_99 (by decide) (fun c32 => ?_) (fun c32 => ?_)
                · have hf := zf c32 hf
                  refine lv_aload_n (pc := 105) hx hb dX11_shift_105 rfl (lv_at hl 1 rfl) ?_
                  refine xg_1209 (pc := 106) C0 hu_11 hW mX_563 dX11_shift_106 ?_
                  refine lv_iload_n (pc := 109) hx hb dX11_shift_109 rfl (lv_at hl 2 rfl) ?_
                  refine lv_iload_n (pc := 110) hx hb dX11_shift_110 rfl (lv_at hl 3 rfl) ?_
                  refine lv_iload_n (pc := 111) hx hb dX11_shift_111 rfl (lv_at hl 4 rfl) ?_
                  refine lv_iload (pc := 112) hx hb dX11_shift_112 (lv_at hl 5 rfl) ?_
                  refine lv_iload (pc := 114) hx hb dX11_shift_114 (lv_at hl 6 rfl) ?_
                  obtain ⟨S34, e35, hf⟩ := zU_e hf
                  refine zcVv (zEX_ok tt) (As := [.int p1, .int p2, .int p3, .int p4, .int p5]) (pc := 116) C0 hW (kX9_copy l D cA h tt H.size p1 p2 p3 p4 p5 S30 S34 e35) (cwV 5 hts (zgV gaX mX_793 mX_794 mX_795 mX_507 mX_526) rfl rfl rfl (by decide +kernel) ⟨Nat.le_of_ble_eq_true rfl, Nat.le_of_ble_eq_true rfl⟩) (va_recv hW.1 hW.2.1 (ci := 9) (q0 := 9) rfl rfl) rfl hl.1 rfl (Nat.le_of_ble_eq_true rfl) dX11_shift_116 (fun H locs hW => ?_)
                  refine lv_iload (pc := 119) hx hb dX11_shift_119 (lv_at hl 6 rfl) ?_
                  exact zend_i (w := wX cA h) fin hf hW dX11_shift_121
                · have hf := zt c32 hf
                  refine lv_bipush (pc := 102) (v := (-13)) hx hb dX11_shift_102 (by decide) ?_
                  exact zend_i (w := wX cA h) fin hf hW dX11_shift_104
            · have hf := zf c24 hf
              refine lv_bipush (pc := 70) (v := (-12)) hx hb dX11_shift_70 (by decide) ?_
              exact zend_i (w := wX cA h) fin hf hW dX11_shift_72
        · have hf := zt c16 hf
          refine lv_bipush (pc := 46) (v := (-11)) hx hb dX11_shift_46 (by decide) ?_
          exact zend_i (w := wX cA h) fin hf hW dX11_shift_48
    · have hf := zt c8 hf
      refine lv_iconst (pc := 14) (v := (-1)) hx hb dX11_shift_14 (by decide) ?_
      exact zend_i (w := wX cA h) fin hf hW dX11_shift_15

def fX11_taken (N : Nat) (p1 : Int32) (p2 : Int32) (S : zSt) : Option (Int32 × zSt) :=
  zU (fX9_has p1) fun r1 => if r1 = 0 then (some ((-1), S)) else (zU (fX0_isKind p2) fun r5 => if r5 = 0 then (some ((-1), S)) else (zB (fX9_sortOn p1 S) fun r9 S10 => if r9 = (-2) then (some ((-11), S10)) else (zB (fX9_sortOn p1 S10) fun r13 S14 => if r13 = (-1) then (zB (fX9_bodyOn p1 S14) fun r17 S18 => zB (fX0_kindOf r17 S18) fun r20 S21 => zB (fX0_isUnder N r20 p2 S21) fun r23 S24 => if r23 = 0 then (some ((-12), S24)) else (some (r20, S24))) else (some ((-12), S14)))))
abbrev wX11_taken : List Cond := Cond.code yX11_taken cX11_taken 4 (some .int) :: waX
abbrev rmX11_taken : Room := { frames := 2, cells := 0, slots := 0, locals := 43 }
set_option maxHeartbeats 4000000 in
set_option maxRecDepth 100000 in
theorem kX11_taken (l : Launch) (D : va_G) (cA : Nat → ClassId) (h tt : Nat → Nat) (sz : Nat) (N : Nat)  (p1 : Int32) (p2 : Int32) (S : zSt) (r : Int32) (S1 : zSt) (hf : fX11_taken N p1 p2 S = some (r, S1)) : zMi l yX11_taken wX11_taken rmX11_taken (zEX tt) D (tX cA) (hsX h) [.ref (h 11), .int p1, .int p2] (wX cA h S) (wX cA h S1) sz r := by
  refine zEn_i (cc := cX11_taken) (maxL := 4) (own := RX11) (by decide) rfl rfl (hmX cA h S) (Nat.le_of_ble_eq_true rfl) ?_
  intro p e s m args below meth c Q H locs C0 hW fin ls hl
  have hl : lv_has ls 4 [(0, .ref (h 11)), (1, .int p1), (2, .int p2)] := hl
  have hx := C0.1
  have hb := C0.2.1
  have hown := C0.2.2.2.1
  have hts := C0.2.2.2.2
  unfold fX11_taken at hf
  refine lv_iload_n (pc := 0) hx hb dX11_taken_0 rfl (lv_at hl 1 rfl) ?_
  obtain ⟨r1, e3, hf⟩ := zU_e hf
  refine zcSi (As := [.int p1]) (pc := 1) C0 hW (kX9_has l H.size p1 r1 e3) (va_cwS 1 hts (zgS gaX mX_729 mX_506 mX_507 mX_502) rfl rfl rfl (by decide +kernel) ⟨Nat.le_of_ble_eq_true rfl, Nat.le_of_ble_eq_true rfl⟩) rfl hl.1 rfl (Nat.le_of_ble_eq_true rfl) dX11_taken_1 (fun H locs hW => ?_)
  refine lv_if_eq (pc := 4) (tgt := 14) hx hb dX11_taken_4 (by decide) (fun c4 => ?_) (fun c4 => ?_)
  · have hf := zt c4 hf
    refine lv_iconst (pc := 14) (v := (-1)) hx hb dX11_taken_14 (by decide) ?_
    exact zend_i (w := wX cA h) fin hf hW dX11_taken_15
  · have hf := zf c4 hf
    refine lv_iload_n (pc := 7) hx hb dX11_taken_7 rfl (lv_at hl 2 rfl) ?_
    obtain ⟨r5, e7, hf⟩ := zU_e hf
    refine zcSi (As := [.int p2]) (pc := 8) C0 hW (kX0_isKind l H.size p2 r5 e7) (va_cwS 1 hts (zgS gaX mX_759 mX_11 mX_12 mX_7) rfl rfl rfl (by decide +kernel) ⟨Nat.le_of_ble_eq_true rfl, Nat.le_of_ble_eq_true rfl⟩) rfl hl.1 rfl (Nat.le_of_ble_eq_true rfl) dX11_taken_8 (fun H locs hW => ?_)
    refine lv_if_ne (pc := 11) (tgt := 16) hx hb dX11_taken_11 (by decide) (fun c8 => ?_) (fun c8 => ?_)
    · have hf := zf c8 hf
      refine lv_aload_n (pc := 16) hx hb dX11_taken_16 rfl (lv_at hl 0 rfl) ?_
      refine xg_1209 (pc := 17) C0 hu_11 hW mX_563 dX11_taken_17 ?_
      refine lv_iload_n (pc := 20) hx hb dX11_taken_20 rfl (lv_at hl 1 rfl) ?_
      obtain ⟨r9, S10, e11, hf⟩ := zB_e hf
      refine zcVi (zEX_ok tt) (As := [.int p1]) (pc := 21) C0 hW (kX9_sortOn l D cA h tt H.size p1 S r9 S10 e11) (cwV 1 hts (zgV gaX mX_730 mX_731 mX_732 mX_507 mX_504) rfl rfl rfl (by decide +kernel) ⟨Nat.le_of_ble_eq_true rfl, Nat.le_of_ble_eq_true rfl⟩) (va_recv hW.1 hW.2.1 (ci := 9) (q0 := 9) rfl rfl) rfl hl.1 rfl (Nat.le_of_ble_eq_true rfl) dX11_taken_21 (fun H locs hW => ?_)
      refine lv_bipush (pc := 24) (v := (-2)) hx hb dX11_taken_24 (by decide) ?_
      refine lv_icmp_ne (pc := 26) (tgt := 32) hx hb dX11_taken_26 (by decide) (fun c12 => ?_) (fun c12 => ?_)
      · have hf := zf c12 hf
        refine lv_aload_n (pc := 32) hx hb dX11_taken_32 rfl (lv_at hl 0 rfl) ?_
        refine xg_1209 (pc := 33) C0 hu_11 hW mX_563 dX11_taken_33 ?_
        refine lv_iload_n (pc := 36) hx hb dX11_taken_36 rfl (lv_at hl 1 rfl) ?_
        obtain ⟨r13, S14, e15, hf⟩ := zB_e hf
        refine zcVi (zEX_ok tt) (As := [.int p1]) (pc := 37) C0 hW (kX9_sortOn l D cA h tt H.size p1 S10 r13 S14 e15) (cwV 1 hts (zgV gaX mX_730 mX_731 mX_732 mX_507 mX_504) rfl rfl rfl (by decide +kernel) ⟨Nat.le_of_ble_eq_true rfl, Nat.le_of_ble_eq_true rfl⟩) (va_recv hW.1 hW.2.1 (ci := 9) (q0 := 9) rfl rfl) rfl hl.1 rfl (Nat.le_of_ble_eq_true rfl) dX11_taken_37 (fun H locs hW => ?_)
        refine lv_iconst (pc := 40) (v := (-1)) hx hb dX11_taken_40 (by decide) ?_
        refine lv_icmp_eq (pc := 41) (tgt := 47) hx hb dX11_taken_41 (by decide) (fun c16 => ?_) (fun c16 => ?_)
        · have hf := zt c16 hf
          refine lv_aload_n (pc := 47) hx hb dX11_taken_47 rfl (lv_at hl 0 rfl) ?_
          refine xg_1208 (pc := 48) C0 hu_11 hW mX_560 dX11_taken_48 ?_
          refine lv_aload_n (pc := 51) hx hb dX11_taken_51 rfl (lv_at hl 0 rfl) ?_
          refine xg_1209 (pc := 52) C0 hu_11 hW mX_563 dX11_taken_52 ?_
          refine lv_iload_n (pc := 55) hx hb dX11_taken_55 rfl (lv_at hl 1 rfl) ?_
          obtain ⟨r17, S18, e19, hf⟩ := zB_e hf
          refine zcVi (zEX_ok tt) (As := [.int p1]) (pc := 56) C0 hW (kX9_bodyOn l D cA h tt H.size p1 S14 r17 S18 e19) (cwV 1 hts (zgV gaX mX_797 mX_798 mX_799 mX_507 mX_508) rfl rfl rfl (by decide +kernel) ⟨Nat.le_of_ble_eq_true rfl, Nat.le_of_ble_eq_true rfl⟩) (va_recv hW.1 hW.2.1 (ci := 9) (q0 := 9) rfl rfl) rfl hl.1 rfl (Nat.le_of_ble_eq_true rfl) dX11_taken_56 (fun H locs hW => ?_)
          obtain ⟨r20, S21, e22, hf⟩ := zB_e hf
          refine zcVi (zEX_ok tt) (As := [.int r17]) (pc := 59) C0 hW (kX0_kindOf l D cA h tt H.size r17 S18 r20 S21 e22) (cwV 1 hts (zgV gaX mX_800 mX_37 mX_38 mX_12 mX_20) rfl rfl rfl (by decide +kernel) ⟨Nat.le_of_ble_eq_true rfl, Nat.le_of_ble_eq_true rfl⟩) (va_recv hW.1 hW.2.1 (ci := 0) (q0 := 0) rfl rfl) rfl hl.1 rfl (Nat.le_of_ble_eq_true rfl) dX11_taken_59 (fun H locs hW => ?_)
          refine lv_istore_n (pc := 62) (lv' := [(3, .int r20), (0, .ref (h 11)), (1, .int p1), (2, .int p2)]) hx hb dX11_taken_62 rfl hl (by decide) rfl (fun ls hl => ?_)
          refine lv_iload_n (pc := 63) hx hb dX11_taken_63 rfl (lv_at hl 0 rfl) ?_
          refine lv_iload_n (pc := 64) hx hb dX11_taken_64 rfl (lv_at hl 3 rfl) ?_
          obtain ⟨r23, S24, e25, hf⟩ := zB_e hf
          refine zcWi (zEX_ok tt) (As := [.int r20, .int p2]) (pc := 65) C0 hW (kX0_isUnder l D cA h tt H.size N r20 p2 S21 r23 S24 e25) (va_cwS 2 hts (zgS gaX mX_801 mX_802 mX_12 mX_8) rfl rfl rfl (by decide +kernel) ⟨Nat.le_of_ble_eq_true rfl, Nat.le_of_ble_eq_true rfl⟩) rfl hl.1 rfl (Nat.le_of_ble_eq_true rfl) dX11_taken_65 (fun H locs hW => ?_)
          refine lv_if_eq (pc := 68) (tgt := 75) hx hb dX11_taken_68 (by decide) (fun c26 => ?_) (fun c26 => ?_)
          · have hf := zt c26 hf
            refine lv_bipush (pc := 75) (v := (-12)) hx hb dX11_taken_75 (by decide) ?_
            exact zend_i (w := wX cA h) fin hf hW dX11_taken_77
          · have hf := zf c26 hf
            refine lv_iload_n (pc := 71) hx hb dX11_taken_71 rfl (lv_at hl 0 rfl) ?_
            refine lv_goto (pc := 72) (tgt := 77) hx hb dX11_taken_72 (by decide) ?_
            exact zend_i (w := wX cA h) fin hf hW dX11_taken_77
        · have hf := zf c16 hf
          refine lv_bipush (pc := 44) (v := (-12)) hx hb dX11_taken_44 (by decide) ?_
          exact zend_i (w := wX cA h) fin hf hW dX11_taken_46
      · have hf := zt c12 hf
        refine lv_bipush (pc := 29) (v := (-11)) hx hb dX11_taken_29 (by decide) ?_
        exact zend_i (w := wX cA h) fin hf hW dX11_taken_31
    · have hf := zt c8 hf
      refine lv_iconst (pc := 14) (v := (-1)) hx hb dX11_taken_14 (by decide) ?_
      exact zend_i (w := wX cA h) fin hf hW dX11_taken_15

def fX11_count (p1 : Int32) (S : zSt) : Option (Int32 × zSt) :=
  if p1 = 0 then (some ((S.1 904), S)) else (if p1 = 1 then (some ((S.1 505), S)) else (if p1 = 2 then (some ((S.1 801), S)) else (if p1 = 3 then (some ((S.1 602), S)) else (if p1 = 4 then (some ((S.1 1101), S)) else (if p1 = 5 then (some ((S.1 205), S)) else (if p1 = 6 then (some ((S.1 102), S)) else (if p1 = 7 then (some ((S.1 103), S)) else (some ((-1), S)))))))))
abbrev wX11_count : List Cond := Cond.code yX11_count cX11_count 2 (some .int) :: waX
abbrev rmX11_count : Room := { frames := 0, cells := 0, slots := 0, locals := 0 }
set_option maxHeartbeats 4000000 in
set_option maxRecDepth 100000 in
theorem kX11_count (l : Launch) (D : va_G) (cA : Nat → ClassId) (h tt : Nat → Nat) (sz : Nat)  (p1 : Int32) (S : zSt) (r : Int32) (S1 : zSt) (hf : fX11_count p1 S = some (r, S1)) : zMi l yX11_count wX11_count rmX11_count (zEX tt) D (tX cA) (hsX h) [.ref (h 11), .int p1] (wX cA h S) (wX cA h S1) sz r := by
  refine zEn_i (cc := cX11_count) (maxL := 2) (own := RX11) (by decide) rfl rfl (hmX cA h S) (Nat.le_of_ble_eq_true rfl) ?_
  intro p e s m args below meth c Q H locs C0 hW fin ls hl
  have hl : lv_has ls 2 [(0, .ref (h 11)), (1, .int p1)] := hl
  have hx := C0.1
  have hb := C0.2.1
  have hown := C0.2.2.2.1
  have hts := C0.2.2.2.2
  unfold fX11_count at hf
  refine lv_iload_n (pc := 0) hx hb dX11_count_0 rfl (lv_at hl 1 rfl) ?_
  by_cases c1 : p1 = 0
  · have hf := zt c1 hf
    refine lv_tableIn (pc := 1) (tgt := 48) (off := 47) hx hb dX11_count_1 (by rw [c1]; decide) (by rw [c1]; decide) (by rw [c1]; decide) (by decide) ?_
    refine lv_aload_n (pc := 48) hx hb dX11_count_48 rfl (lv_at hl 0 rfl) ?_
    refine xg_1201 (pc := 49) C0 hu_11 hW mX_539 dX11_count_49 ?_
    refine xg_904 (pc := 52) C0 hu_8 hW mX_586 dX11_count_52 ?_
    exact zend_i (w := wX cA h) fin hf hW dX11_count_55
  have hf := zf c1 hf
  by_cases c2 : p1 = 1
  · have hf := zt c2 hf
    refine lv_tableIn (pc := 1) (tgt := 56) (off := 55) hx hb dX11_count_1 (by rw [c2]; decide) (by rw [c2]; decide) (by rw [c2]; decide) (by decide) ?_
    refine lv_aload_n (pc := 56) hx hb dX11_count_56 rfl (lv_at hl 0 rfl) ?_
    refine xg_1202 (pc := 57) C0 hu_11 hW mX_542 dX11_count_57 ?_
    refine xg_505 (pc := 60) C0 hu_4 hW mX_617 dX11_count_60 ?_
    exact zend_i (w := wX cA h) fin hf hW dX11_count_63
  have hf := zf c2 hf
  by_cases c3 : p1 = 2
  · have hf := zt c3 hf
    refine lv_tableIn (pc := 1) (tgt := 64) (off := 63) hx hb dX11_count_1 (by rw [c3]; decide) (by rw [c3]; decide) (by rw [c3]; decide) (by decide) ?_
    refine lv_aload_n (pc := 64) hx hb dX11_count_64 rfl (lv_at hl 0 rfl) ?_
    refine xg_1203 (pc := 65) C0 hu_11 hW mX_545 dX11_count_65 ?_
    refine xg_801 (pc := 68) C0 hu_7 hW mX_804 dX11_count_68 ?_
    exact zend_i (w := wX cA h) fin hf hW dX11_count_71
  have hf := zf c3 hf
  by_cases c4 : p1 = 3
  · have hf := zt c4 hf
    refine lv_tableIn (pc := 1) (tgt := 72) (off := 71) hx hb dX11_count_1 (by rw [c4]; decide) (by rw [c4]; decide) (by rw [c4]; decide) (by decide) ?_
    refine lv_aload_n (pc := 72) hx hb dX11_count_72 rfl (lv_at hl 0 rfl) ?_
    refine xg_1207 (pc := 73) C0 hu_11 hW mX_557 dX11_count_73 ?_
    refine xg_602 (pc := 76) C0 hu_5 hW mX_742 dX11_count_76 ?_
    exact zend_i (w := wX cA h) fin hf hW dX11_count_79
  have hf := zf c4 hf
  by_cases c5 : p1 = 4
  · have hf := zt c5 hf
    refine lv_tableIn (pc := 1) (tgt := 80) (off := 79) hx hb dX11_count_1 (by rw [c5]; decide) (by rw [c5]; decide) (by rw [c5]; decide) (by decide) ?_
    refine lv_aload_n (pc := 80) hx hb dX11_count_80 rfl (lv_at hl 0 rfl) ?_
    refine xg_1200 (pc := 81) C0 hu_11 hW mX_536 dX11_count_81 ?_
    refine xg_1101 (pc := 84) C0 hu_10 hW mX_581 dX11_count_84 ?_
    exact zend_i (w := wX cA h) fin hf hW dX11_count_87
  have hf := zf c5 hf
  by_cases c6 : p1 = 5
  · have hf := zt c6 hf
    refine lv_tableIn (pc := 1) (tgt := 88) (off := 87) hx hb dX11_count_1 (by rw [c6]; decide) (by rw [c6]; decide) (by rw [c6]; decide) (by decide) ?_
    refine lv_aload_n (pc := 88) hx hb dX11_count_88 rfl (lv_at hl 0 rfl) ?_
    refine xg_1206 (pc := 89) C0 hu_11 hW mX_554 dX11_count_89 ?_
    refine xg_205 (pc := 92) C0 hu_1 hW mX_749 dX11_count_92 ?_
    exact zend_i (w := wX cA h) fin hf hW dX11_count_95
  have hf := zf c6 hf
  by_cases c7 : p1 = 6
  · have hf := zt c7 hf
    refine lv_tableIn (pc := 1) (tgt := 96) (off := 95) hx hb dX11_count_1 (by rw [c7]; decide) (by rw [c7]; decide) (by rw [c7]; decide) (by decide) ?_
    refine lv_aload_n (pc := 96) hx hb dX11_count_96 rfl (lv_at hl 0 rfl) ?_
    refine xg_1208 (pc := 97) C0 hu_11 hW mX_560 dX11_count_97 ?_
    refine xg_102 (pc := 100) C0 hu_0 hW mX_805 dX11_count_100 ?_
    exact zend_i (w := wX cA h) fin hf hW dX11_count_103
  have hf := zf c7 hf
  by_cases c8 : p1 = 7
  · have hf := zt c8 hf
    refine lv_tableIn (pc := 1) (tgt := 104) (off := 103) hx hb dX11_count_1 (by rw [c8]; decide) (by rw [c8]; decide) (by rw [c8]; decide) (by decide) ?_
    refine lv_aload_n (pc := 104) hx hb dX11_count_104 rfl (lv_at hl 0 rfl) ?_
    refine xg_1208 (pc := 105) C0 hu_11 hW mX_560 dX11_count_105 ?_
    refine xg_103 (pc := 108) C0 hu_0 hW mX_806 dX11_count_108 ?_
    exact zend_i (w := wX cA h) fin hf hW dX11_count_111
  have hf := zf c8 hf
  refine lv_tableOut (pc := 1) (tgt := 112) hx hb dX11_count_1 (ztab 0 7 8 p1 (by decide) (fun j hj => match j, hj with | 0, _ => fun e => c1 (e.trans (by decide)) | 1, _ => fun e => c2 (e.trans (by decide)) | 2, _ => fun e => c3 (e.trans (by decide)) | 3, _ => fun e => c4 (e.trans (by decide)) | 4, _ => fun e => c5 (e.trans (by decide)) | 5, _ => fun e => c6 (e.trans (by decide)) | 6, _ => fun e => c7 (e.trans (by decide)) | 7, _ => fun e => c8 (e.trans (by decide)) | j + 8, h => absurd h (by omega))) (by decide) ?_
  refine lv_iconst (pc := 112) (v := (-1)) hx hb dX11_count_112 (by decide) ?_
  exact zend_i (w := wX cA h) fin hf hW dX11_count_113

