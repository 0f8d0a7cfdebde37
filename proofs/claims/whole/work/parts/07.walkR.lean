abbrev wX12_operand : List Cond := Cond.code yX12_operand cX12_operand 2 none :: waR
abbrev wX12_product : List Cond := Cond.code yX12_product cX12_product 2 none :: waR
abbrev wX12_sum : List Cond := Cond.code yX12_sum cX12_sum 2 none :: waR
abbrev wX12_compared : List Cond := Cond.code yX12_compared cX12_compared 2 none :: waR
abbrev wX12_both : List Cond := Cond.code yX12_both cX12_both 1 none :: waR
abbrev wX12_either : List Cond := Cond.code yX12_either cX12_either 1 none :: waR
def fX12_in (p1 : Int32) (p2 : Int32) (p3 : Int32): Option Int32 :=
  if p1 < p2 then (some 0) else (if p3 < p1 then (some 0) else (some 1))
abbrev wX12_in : List Cond := Cond.code yX12_in cX12_in 3 (some .boolean) :: waR
abbrev rmX12_in : Room := { frames := 0, cells := 0, slots := 0, locals := 0 }
set_option maxHeartbeats 4000000 in
set_option maxRecDepth 100000 in
theorem kX12_in (l : Launch) (sz : Nat) (p1 : Int32) (p2 : Int32) (p3 : Int32) (r : Int32) (hf : fX12_in p1 p2 p3 = some r) : zMs l yX12_in wX12_in rmX12_in [.int p1, .int p2, .int p3] sz r := by
  refine zEs_z (cc := cX12_in) (maxL := 3) (own := RX12) (by decide) rfl rfl (Nat.le_of_ble_eq_true rfl) ?_
  intro p e s m args below meth c Q H locs C0 hW fin ls hl
  have hl : lv_has ls 3 [(0, .int p1), (1, .int p2), (2, .int p3)] := hl
  have hx := C0.1
  have hb := C0.2.1
  have hown := C0.2.2.2.1
  have hts := C0.2.2.2.2
  unfold fX12_in at hf
  refine lv_iload_n (pc := 0) hx hb dX12_in_0 rfl (lv_at hl 0 rfl) ?_
  refine lv_iload_n (pc := 1) hx hb dX12_in_1 rfl (lv_at hl 1 rfl) ?_
  refine lv_icmp_lt (pc := 2) (tgt := 14) hx hb dX12_in_2 (by decide) (fun c1 => ?_) (fun c1 => ?_)
  · have hf := zt c1 hf
    refine lv_iconst (pc := 14) (v := 0) hx hb dX12_in_14 (by decide) ?_
    exact zens_z fin hf (by decide) hW dX12_in_15
  · have hf := zf c1 hf
    refine lv_iload_n (pc := 5) hx hb dX12_in_5 rfl (lv_at hl 0 rfl) ?_
    refine lv_iload_n (pc := 6) hx hb dX12_in_6 rfl (lv_at hl 2 rfl) ?_
    refine lv_icmp_gt (pc := 7) (tgt := 14) hx hb dX12_in_7 (by decide) (fun c2 => ?_) (fun c2 => ?_)
    · have hf := zt c2 hf
      refine lv_iconst (pc := 14) (v := 0) hx hb dX12_in_14 (by decide) ?_
      exact zens_z fin hf (by decide) hW dX12_in_15
    · have hf := zf c2 hf
      refine lv_iconst (pc := 10) (v := 1) hx hb dX12_in_10 (by decide) ?_
      refine lv_goto (pc := 11) (tgt := 15) hx hb dX12_in_11 (by decide) ?_
      exact zens_z fin hf (by decide) hW dX12_in_15

def fX12_sizeOf (p1 : Int32): Option Int32 :=
  if 0 ≤ p1 then (some p1) else (some (-p1))
abbrev wX12_sizeOf : List Cond := Cond.code yX12_sizeOf cX12_sizeOf 1 (some .int) :: waR
abbrev rmX12_sizeOf : Room := { frames := 0, cells := 0, slots := 0, locals := 0 }
set_option maxHeartbeats 4000000 in
set_option maxRecDepth 100000 in
theorem kX12_sizeOf (l : Launch) (sz : Nat) (p1 : Int32) (r : Int32) (hf : fX12_sizeOf p1 = some r) : zMs l yX12_sizeOf wX12_sizeOf rmX12_sizeOf [.int p1] sz r := by
  refine zEs_i (cc := cX12_sizeOf) (maxL := 1) (own := RX12) (by decide) rfl rfl (Nat.le_of_ble_eq_true rfl) ?_
  intro p e s m args below meth c Q H locs C0 hW fin ls hl
  have hl : lv_has ls 1 [(0, .int p1)] := hl
  have hx := C0.1
  have hb := C0.2.1
  have hown := C0.2.2.2.1
  have hts := C0.2.2.2.2
  unfold fX12_sizeOf at hf
  refine lv_iload_n (pc := 0) hx hb dX12_sizeOf_0 rfl (lv_at hl 0 rfl) ?_
  refine lv_if_ge (pc := 1) (tgt := 9) hx hb dX12_sizeOf_1 (by decide) (fun c1 => ?_) (fun c1 => ?_)
  · have hf := zt c1 hf
    refine lv_iload_n (pc := 9) hx hb dX12_sizeOf_9 rfl (lv_at hl 0 rfl) ?_
    exact zens_i fin hf hW dX12_sizeOf_10
  · have hf := zf c1 hf
    refine lv_iload_n (pc := 4) hx hb dX12_sizeOf_4 rfl (lv_at hl 0 rfl) ?_
    refine lv_ineg (pc := 5) hx hb dX12_sizeOf_5 ?_
    refine lv_goto (pc := 6) (tgt := 10) hx hb dX12_sizeOf_6 (by decide) ?_
    exact zens_i fin hf hW dX12_sizeOf_10

def fX12_held (p1 : Int32) (p2 : Int32) (p3 : Int32): Option Int32 :=
  if p2 ≤ p1 then (if p1 ≤ p3 then (some p1) else (some p3)) else (some p2)
abbrev wX12_held : List Cond := Cond.code yX12_held cX12_held 3 (some .int) :: waR
abbrev rmX12_held : Room := { frames := 0, cells := 0, slots := 0, locals := 0 }
set_option maxHeartbeats 4000000 in
set_option maxRecDepth 100000 in
theorem kX12_held (l : Launch) (sz : Nat) (p1 : Int32) (p2 : Int32) (p3 : Int32) (r : Int32) (hf : fX12_held p1 p2 p3 = some r) : zMs l yX12_held wX12_held rmX12_held [.int p1, .int p2, .int p3] sz r := by
  refine zEs_i (cc := cX12_held) (maxL := 3) (own := RX12) (by decide) rfl rfl (Nat.le_of_ble_eq_true rfl) ?_
  intro p e s m args below meth c Q H locs C0 hW fin ls hl
  have hl : lv_has ls 3 [(0, .int p1), (1, .int p2), (2, .int p3)] := hl
  have hx := C0.1
  have hb := C0.2.1
  have hown := C0.2.2.2.1
  have hts := C0.2.2.2.2
  unfold fX12_held at hf
  refine lv_iload_n (pc := 0) hx hb dX12_held_0 rfl (lv_at hl 0 rfl) ?_
  refine lv_iload_n (pc := 1) hx hb dX12_held_1 rfl (lv_at hl 1 rfl) ?_
  refine lv_icmp_ge (pc := 2) (tgt := 9) hx hb dX12_held_2 (by decide) (fun c1 => ?_) (fun c1 => ?_)
  · have hf := zt c1 hf
    refine lv_iload_n (pc := 9) hx hb dX12_held_9 rfl (lv_at hl 0 rfl) ?_
    refine lv_iload_n (pc := 10) hx hb dX12_held_10 rfl (lv_at hl 2 rfl) ?_
    refine lv_icmp_le (pc := 11) (tgt := 18) hx hb dX12_held_11 (by decide) (fun c2 => ?_) (fun c2 => ?_)
    · have hf := zt c2 hf
      refine lv_iload_n (pc := 18) hx hb dX12_held_18 rfl (lv_at hl 0 rfl) ?_
      exact zens_i fin hf hW dX12_held_19
    · have hf := zf c2 hf
      refine lv_iload_n (pc := 14) hx hb dX12_held_14 rfl (lv_at hl 2 rfl) ?_
      refine lv_goto (pc := 15) (tgt := 19) hx hb dX12_held_15 (by decide) ?_
      exact zens_i fin hf hW dX12_held_19
  · have hf := zf c1 hf
    refine lv_iload_n (pc := 5) hx hb dX12_held_5 rfl (lv_at hl 1 rfl) ?_
    refine lv_goto (pc := 6) (tgt := 19) hx hb dX12_held_6 (by decide) ?_
    exact zens_i fin hf hW dX12_held_19

def fX12_feed_b27 (N : Nat) : Nat → Int32 → Int32 → Int32 → zSt → Option (Int32 × zSt)
  | 0, _, _, _, _ => none
  | n + 1, v1, v2, v3, S =>
    if v1 ≤ v3 then (some ((S.1 2), S)) else (if zin (S.1 2) 120 then zL (zA S 1 (Int32.toNatClampNeg (S.1 2)) (vp_nar .byte (zi8 (v2 >>> ((8 * v3) &&& 31))))) fun S3 => zL (zI S3 2 ((S3.1 2) + 1)) fun S4 => fX12_feed_b27 N n v1 v2 (v3 + 1) S4 else none)
def fX12_feed (N : Nat) (p1 : Int32) (p2 : Int32) (S : zSt) : Option (Int32 × zSt) :=
  zU (fX12_in p1 1 4) fun r5 => if r5 = 0 then (some ((-1), S)) else (if ((S.1 2) + p1) ≤ 120 then (fX12_feed_b27 N N p1 p2 0 S) else (some ((-3), S)))
abbrev wX12_feed : List Cond := Cond.code yX12_feed cX12_feed 4 (some .int) :: waR
abbrev rmX12_feed : Room := { frames := 1, cells := 0, slots := 0, locals := 22 }
set_option maxHeartbeats 4000000 in
set_option maxRecDepth 100000 in
theorem kX12_feed (l : Launch) (D : va_G) (cA : Nat → ClassId) (h : Nat → Nat) (sz : Nat) (N : Nat)  (p1 : Int32) (p2 : Int32) (S : zSt) (r : Int32) (S1 : zSt) (hf : fX12_feed N p1 p2 S = some (r, S1)) : zMi l yX12_feed wX12_feed rmX12_feed zTr D (tR cA) (hsR h) [.ref (h 0), .int p1, .int p2] (wR cA h S) (wR cA h S1) sz r := by
  refine zEn_i (cc := cX12_feed) (maxL := 4) (own := RX12) (by decide) rfl rfl (hmR cA h S) (Nat.le_of_ble_eq_true rfl) ?_
  intro p e s m args below meth c Q H locs C0 hW fin ls hl
  have hl : lv_has ls 4 [(0, .ref (h 0)), (1, .int p1), (2, .int p2)] := hl
  have hx := C0.1
  have hb := C0.2.1
  have hown := C0.2.2.2.1
  have hts := C0.2.2.2.2
  have w27 : ∀ (n : Nat), ∀ (v1 : Int32) (v2 : Int32) (v3 : Int32) (S : zSt) (H : Heap) (locs : List Loc), zW zTr D (tR cA) (wR cA h S) (aW (hsR h) s.heap.size) s H locs → ∀ ls : Array Slot, lv_has ls 4 [(0, .ref (h 0)), (1, .int v1), (2, .int v2), (3, .int v3)] → fX12_feed_b27 N n v1 v2 v3 S = some (r, S1) → W p l e rmX12_feed s m args below meth c H locs 0 0 Q (F0 m 27 ls []) := by
    intro n
    induction n with
    | zero =>
      intro v1 v2 v3 S H locs hW ls hl hf
      exact absurd hf (by intro h; cases h)
    | succ n ih =>
      intro v1 v2 v3 S H locs hW ls hl hf
      rw [fX12_feed_b27] at hf
      refine lv_iload_n (pc := 27) hx hb dX12_feed_27 rfl (lv_at hl 3 rfl) ?_
      refine lv_iload_n (pc := 28) hx hb dX12_feed_28 rfl (lv_at hl 1 rfl) ?_
      refine lv_icmp_ge (pc := 29) (tgt := 64) hx hb dX12_feed_29 (by decide) (fun c1 => ?_) (fun c1 => ?_)
      · have hf := zt c1 hf
        refine lv_aload_n (pc := 64) hx hb dX12_feed_64 rfl (lv_at hl 0 rfl) ?_
        refine rg_2 (pc := 65) C0 hu_12 hW mR_43 dX12_feed_65 ?_
        exact zend_i (w := wR cA h) fin hf hW dX12_feed_68
      · have hf := zf c1 hf
        refine lv_aload_n (pc := 32) hx hb dX12_feed_32 rfl (lv_at hl 0 rfl) ?_
        refine rg_1 (pc := 33) C0 hu_12 hW mR_5 dX12_feed_33 ?_
        refine lv_aload_n (pc := 36) hx hb dX12_feed_36 rfl (lv_at hl 0 rfl) ?_
        refine rg_2 (pc := 37) C0 hu_12 hW mR_43 dX12_feed_37 ?_
        refine lv_iload_n (pc := 40) hx hb dX12_feed_40 rfl (lv_at hl 2 rfl) ?_
        refine lv_bipush (pc := 41) (v := 8) hx hb dX12_feed_41 (by decide) ?_
        refine lv_iload_n (pc := 43) hx hb dX12_feed_43 rfl (lv_at hl 3 rfl) ?_
        refine lv_imul (pc := 44) hx hb dX12_feed_44 ?_
        refine lv_ishr (pc := 45) hx hb dX12_feed_45 ?_
        refine lv_i2b (pc := 46) (v := (zi8 (v2 >>> ((8 * v3) &&& 31)))) hx hb dX12_feed_46 rfl ?_
        obtain ⟨i2, hf⟩ := zn hf
        obtain ⟨S3, e_S3, hf⟩ := zL_e hf
        refine rs_1 (pc := 47) C0 hW i2 e_S3 dX12_feed_47 (fun H locs hW => ?_)
        refine lv_aload_n (pc := 48) hx hb dX12_feed_48 rfl (lv_at hl 0 rfl) ?_
        refine lv_dup (pc := 49) hx hb dX12_feed_49 rfl ?_
        refine rg_2 (pc := 50) C0 hu_12 hW mR_43 dX12_feed_50 ?_
        refine lv_iconst (pc := 53) (v := 1) hx hb dX12_feed_53 (by decide) ?_
        refine lv_iadd (pc := 54) hx hb dX12_feed_54 ?_
        obtain ⟨S4, e_S4, hf⟩ := zL_e hf
        refine rp_2 (pc := 55) C0 hu_12 hW mR_43 e_S4 dX12_feed_55 (fun H locs hW => ?_)
        refine lv_iinc (pc := 58) (v := (v3 + 1)) (lv' := [(3, .int (v3 + 1)), (0, .ref (h 0)), (1, .int v1), (2, .int v2)]) hx hb dX12_feed_58 hl (k := 3) rfl (by rfl) (by decide) rfl (fun ls hl => ?_)
        refine lv_goto (pc := 61) (tgt := 27) hx hb dX12_feed_61 (by decide) ?_
        exact ih v1 v2 (v3 + 1) S4 H locs hW ls (lv_sub hl [1, 2, 3, 0] rfl) hf
  unfold fX12_feed at hf
  refine lv_iload_n (pc := 0) hx hb dX12_feed_0 rfl (lv_at hl 1 rfl) ?_
  refine lv_iconst (pc := 1) (v := 1) hx hb dX12_feed_1 (by decide) ?_
  refine lv_iconst (pc := 2) (v := 4) hx hb dX12_feed_2 (by decide) ?_
  obtain ⟨r5, e7, hf⟩ := zU_e hf
  refine zcSi (As := [.int p1, .int 1, .int 4]) (pc := 3) C0 hW (kX12_in l H.size p1 1 4 r5 e7) (va_cwS 3 hts (zgS gaR mR_44 mR_45 mR_46 mR_39) rfl rfl rfl (by decide +kernel) ⟨Nat.le_of_ble_eq_true rfl, Nat.le_of_ble_eq_true rfl⟩) rfl hl.1 rfl (Nat.le_of_ble_eq_true rfl) dX12_feed_3 (fun H locs hW => ?_)
  refine lv_if_ne (pc := 6) (tgt := 11) hx hb dX12_feed_6 (by decide) (fun c8 => ?_) (fun c8 => ?_)
  · have hf := zf c8 hf
    refine lv_aload_n (pc := 11) hx hb dX12_feed_11 rfl (lv_at hl 0 rfl) ?_
    refine rg_2 (pc := 12) C0 hu_12 hW mR_43 dX12_feed_12 ?_
    refine lv_iload_n (pc := 15) hx hb dX12_feed_15 rfl (lv_at hl 1 rfl) ?_
    refine lv_iadd (pc := 16) hx hb dX12_feed_16 ?_
    refine lv_bipush (pc := 17) (v := 120) hx hb dX12_feed_17 (by decide) ?_
    refine lv_icmp_le (pc := 19) (tgt := 25) hx hb dX12_feed_19 (by decide) (fun c9 => ?_) (fun c9 => ?_)
    · have hf := zt c9 hf
      refine lv_iconst (pc := 25) (v := 0) hx hb dX12_feed_25 (by decide) ?_
      refine lv_istore_n (pc := 26) (lv' := [(3, .int 0), (0, .ref (h 0)), (1, .int p1), (2, .int p2)]) hx hb dX12_feed_26 rfl hl (by decide) rfl (fun ls hl => ?_)
      exact w27 N p1 p2 0 S H locs hW ls (lv_sub hl [1, 2, 3, 0] rfl) hf
    · have hf := zf c9 hf
      refine lv_bipush (pc := 22) (v := (-3)) hx hb dX12_feed_22 (by decide) ?_
      exact zend_i (w := wR cA h) fin hf hW dX12_feed_24
  · have hf := zt c8 hf
    refine lv_iconst (pc := 9) (v := (-1)) hx hb dX12_feed_9 (by decide) ?_
    exact zend_i (w := wR cA h) fin hf hW dX12_feed_10

def fX12_isPlace (p1 : Int32) (S : zSt) : Option (Int32 × zSt) :=
  zU (fX12_in p1 0 ((S.1 3) - 1)) fun r1 => if zbit r1 then some (r1, S) else none
abbrev wX12_isPlace : List Cond := Cond.code yX12_isPlace cX12_isPlace 2 (some .boolean) :: waR
abbrev rmX12_isPlace : Room := { frames := 1, cells := 0, slots := 0, locals := 22 }
set_option maxHeartbeats 4000000 in
set_option maxRecDepth 100000 in
theorem kX12_isPlace (l : Launch) (D : va_G) (cA : Nat → ClassId) (h : Nat → Nat) (sz : Nat)  (p1 : Int32) (S : zSt) (r : Int32) (S1 : zSt) (hf : fX12_isPlace p1 S = some (r, S1)) : zMi l yX12_isPlace wX12_isPlace rmX12_isPlace zTr D (tR cA) (hsR h) [.ref (h 0), .int p1] (wR cA h S) (wR cA h S1) sz r := by
  refine zEn_z (cc := cX12_isPlace) (maxL := 2) (own := RX12) (by decide) rfl rfl (hmR cA h S) (Nat.le_of_ble_eq_true rfl) ?_
  intro p e s m args below meth c Q H locs C0 hW fin ls hl
  have hl : lv_has ls 2 [(0, .ref (h 0)), (1, .int p1)] := hl
  have hx := C0.1
  have hb := C0.2.1
  have hown := C0.2.2.2.1
  have hts := C0.2.2.2.2
  unfold fX12_isPlace at hf
  refine lv_iload_n (pc := 0) hx hb dX12_isPlace_0 rfl (lv_at hl 1 rfl) ?_
  refine lv_iconst (pc := 1) (v := 0) hx hb dX12_isPlace_1 (by decide) ?_
  refine lv_aload_n (pc := 2) hx hb dX12_isPlace_2 rfl (lv_at hl 0 rfl) ?_
  refine rg_3 (pc := 3) C0 hu_12 hW mR_48 dX12_isPlace_3 ?_
  refine lv_iconst (pc := 6) (v := 1) hx hb dX12_isPlace_6 (by decide) ?_
  refine lv_isub (pc := 7) hx hb dX12_isPlace_7 ?_
  obtain ⟨r1, e3, hf⟩ := zU_e hf
  refine zcSi (As := [.int p1, .int 0, .int ((S.1 3) - 1)]) (pc := 8) C0 hW (kX12_in l H.size p1 0 ((S.1 3) - 1) r1 e3) (va_cwS 3 hts (zgS gaR mR_44 mR_45 mR_46 mR_39) rfl rfl rfl (by decide +kernel) ⟨Nat.le_of_ble_eq_true rfl, Nat.le_of_ble_eq_true rfl⟩) rfl hl.1 rfl (Nat.le_of_ble_eq_true rfl) dX12_isPlace_8 (fun H locs hW => ?_)
  obtain ⟨i4, hf⟩ := zn hf
  exact zend_z (w := wR cA h) fin hf i4 hW dX12_isPlace_11

def fX12_isCell (p1 : Int32) (p2 : Int32) (S : zSt) : Option (Int32 × zSt) :=
  zB (fX12_isPlace p1 S) fun r1 S2 => if r1 = 0 then (some (0, S2)) else (if zin p1 7 then zU (fX12_in p2 0 ((S2.2.1 4 (Int32.toNatClampNeg p1)) - 1)) fun r6 => if r6 = 0 then (some (0, S2)) else (some (1, S2)) else none)
abbrev wX12_isCell : List Cond := Cond.code yX12_isCell cX12_isCell 3 (some .boolean) :: waR
abbrev rmX12_isCell : Room := { frames := 2, cells := 0, slots := 0, locals := 43 }
set_option maxHeartbeats 4000000 in
set_option maxRecDepth 100000 in
theorem kX12_isCell (l : Launch) (D : va_G) (cA : Nat → ClassId) (h : Nat → Nat) (sz : Nat)  (p1 : Int32) (p2 : Int32) (S : zSt) (r : Int32) (S1 : zSt) (hf : fX12_isCell p1 p2 S = some (r, S1)) : zMi l yX12_isCell wX12_isCell rmX12_isCell zTr D (tR cA) (hsR h) [.ref (h 0), .int p1, .int p2] (wR cA h S) (wR cA h S1) sz r := by
  refine zEn_z (cc := cX12_isCell) (maxL := 3) (own := RX12) (by decide) rfl rfl (hmR cA h S) (Nat.le_of_ble_eq_true rfl) ?_
  intro p e s m args below meth c Q H locs C0 hW fin ls hl
  have hl : lv_has ls 3 [(0, .ref (h 0)), (1, .int p1), (2, .int p2)] := hl
  have hx := C0.1
  have hb := C0.2.1
  have hown := C0.2.2.2.1
  have hts := C0.2.2.2.2
  unfold fX12_isCell at hf
  refine lv_aload_n (pc := 0) hx hb dX12_isCell_0 rfl (lv_at hl 0 rfl) ?_
  refine lv_iload_n (pc := 1) hx hb dX12_isCell_1 rfl (lv_at hl 1 rfl) ?_
  obtain ⟨r1, S2, e3, hf⟩ := zB_e hf
  refine zcVi zTr_ok (As := [.int p1]) (pc := 2) C0 hW (kX12_isPlace l D cA h H.size p1 S r1 S2 e3) (cwV 1 hts (zgV gaR mR_50 mR_51 mR_52 mR_46 mR_47) rfl rfl rfl (by decide +kernel) ⟨Nat.le_of_ble_eq_true rfl, Nat.le_of_ble_eq_true rfl⟩) (va_recv hW.1 hW.2.1 (ci := 12) (q0 := 0) rfl rfl) rfl hl.1 rfl (Nat.le_of_ble_eq_true rfl) dX12_isCell_2 (fun H locs hW => ?_)
  refine lv_if_eq (pc := 5) (tgt := 28) hx hb dX12_isCell_5 (by decide) (fun c4 => ?_) (fun c4 => ?_)
  · have hf := zt c4 hf
    refine lv_iconst (pc := 28) (v := 0) hx hb dX12_isCell_28 (by decide) ?_
    exact zend_z (w := wR cA h) fin hf (by decide) hW dX12_isCell_29
  · have hf := zf c4 hf
    refine lv_iload_n (pc := 8) hx hb dX12_isCell_8 rfl (lv_at hl 2 rfl) ?_
    refine lv_iconst (pc := 9) (v := 0) hx hb dX12_isCell_9 (by decide) ?_
    refine lv_aload_n (pc := 10) hx hb dX12_isCell_10 rfl (lv_at hl 0 rfl) ?_
    refine rg_4 (pc := 11) C0 hu_12 hW mR_7 dX12_isCell_11 ?_
    refine lv_iload_n (pc := 14) hx hb dX12_isCell_14 rfl (lv_at hl 1 rfl) ?_
    obtain ⟨i5, hf⟩ := zn hf
    refine rl_4 (pc := 15) C0 hW i5 dX12_isCell_15 ?_
    refine lv_iconst (pc := 16) (v := 1) hx hb dX12_isCell_16 (by decide) ?_
    refine lv_isub (pc := 17) hx hb dX12_isCell_17 ?_
    obtain ⟨r6, e8, hf⟩ := zU_e hf
    refine zcSi (As := [.int p2, .int 0, .int ((S2.2.1 4 (Int32.toNatClampNeg p1)) - 1)]) (pc := 18) C0 hW (kX12_in l H.size p2 0 ((S2.2.1 4 (Int32.toNatClampNeg p1)) - 1) r6 e8) (va_cwS 3 hts (zgS gaR mR_44 mR_45 mR_46 mR_39) rfl rfl rfl (by decide +kernel) ⟨Nat.le_of_ble_eq_true rfl, Nat.le_of_ble_eq_true rfl⟩) rfl hl.1 rfl (Nat.le_of_ble_eq_true rfl) dX12_isCell_18 (fun H locs hW => ?_)
    refine lv_if_eq (pc := 21) (tgt := 28) hx hb dX12_isCell_21 (by decide) (fun c9 => ?_) (fun c9 => ?_)
    · have hf := zt c9 hf
      refine lv_iconst (pc := 28) (v := 0) hx hb dX12_isCell_28 (by decide) ?_
      exact zend_z (w := wR cA h) fin hf (by decide) hW dX12_isCell_29
    · have hf := zf c9 hf
      refine lv_iconst (pc := 24) (v := 1) hx hb dX12_isCell_24 (by decide) ?_
      refine lv_goto (pc := 25) (tgt := 29) hx hb dX12_isCell_25 (by decide) ?_
      exact zend_z (w := wR cA h) fin hf (by decide) hW dX12_isCell_29

def fX12_isHere (p1 : Int32) (S : zSt) : Option (Int32 × zSt) :=
  if 0 ≤ (S.1 14) then (some (0, S)) else (if (S.1 2) ≤ (S.1 13) then (some (0, S)) else (if zin (S.1 13) 120 then if (S.2.1 1 (Int32.toNatClampNeg (S.1 13))) = p1 then (some (1, S)) else (some (0, S)) else none))
abbrev wX12_isHere : List Cond := Cond.code yX12_isHere cX12_isHere 2 (some .boolean) :: waR
abbrev rmX12_isHere : Room := { frames := 0, cells := 0, slots := 0, locals := 0 }
set_option maxHeartbeats 4000000 in
set_option maxRecDepth 100000 in
theorem kX12_isHere (l : Launch) (D : va_G) (cA : Nat → ClassId) (h : Nat → Nat) (sz : Nat)  (p1 : Int32) (S : zSt) (r : Int32) (S1 : zSt) (hf : fX12_isHere p1 S = some (r, S1)) : zMi l yX12_isHere wX12_isHere rmX12_isHere zTr D (tR cA) (hsR h) [.ref (h 0), .int p1] (wR cA h S) (wR cA h S1) sz r := by
  refine zEn_z (cc := cX12_isHere) (maxL := 2) (own := RX12) (by decide) rfl rfl (hmR cA h S) (Nat.le_of_ble_eq_true rfl) ?_
  intro p e s m args below meth c Q H locs C0 hW fin ls hl
  have hl : lv_has ls 2 [(0, .ref (h 0)), (1, .int p1)] := hl
  have hx := C0.1
  have hb := C0.2.1
  have hown := C0.2.2.2.1
  have hts := C0.2.2.2.2
  unfold fX12_isHere at hf
  refine lv_aload_n (pc := 0) hx hb dX12_isHere_0 rfl (lv_at hl 0 rfl) ?_
  refine rg_14 (pc := 1) C0 hu_12 hW mR_54 dX12_isHere_1 ?_
  refine lv_if_ge (pc := 4) (tgt := 35) hx hb dX12_isHere_4 (by decide) (fun c1 => ?_) (fun c1 => ?_)
  · have hf := zt c1 hf
    refine lv_iconst (pc := 35) (v := 0) hx hb dX12_isHere_35 (by decide) ?_
    exact zend_z (w := wR cA h) fin hf (by decide) hW dX12_isHere_36
  · have hf := zf c1 hf
    refine lv_aload_n (pc := 7) hx hb dX12_isHere_7 rfl (lv_at hl 0 rfl) ?_
    refine rg_13 (pc := 8) C0 hu_12 hW mR_55 dX12_isHere_8 ?_
    refine lv_aload_n (pc := 11) hx hb dX12_isHere_11 rfl (lv_at hl 0 rfl) ?_
    refine rg_2 (pc := 12) C0 hu_12 hW mR_43 dX12_isHere_12 ?_
    refine lv_icmp_ge (pc := 15) (tgt := 35) hx hb dX12_isHere_15 (by decide) (fun c2 => ?_) (fun c2 => ?_)
    · have hf := zt c2 hf
      refine lv_iconst (pc := 35) (v := 0) hx hb dX12_isHere_35 (by decide) ?_
      exact zend_z (w := wR cA h) fin hf (by decide) hW dX12_isHere_36
    · have hf := zf c2 hf
      refine lv_aload_n (pc := 18) hx hb dX12_isHere_18 rfl (lv_at hl 0 rfl) ?_
      refine rg_1 (pc := 19) C0 hu_12 hW mR_5 dX12_isHere_19 ?_
      refine lv_aload_n (pc := 22) hx hb dX12_isHere_22 rfl (lv_at hl 0 rfl) ?_
      refine rg_13 (pc := 23) C0 hu_12 hW mR_55 dX12_isHere_23 ?_
      obtain ⟨i3, hf⟩ := zn hf
      refine rl_1 (pc := 26) C0 hW i3 dX12_isHere_26 ?_
      refine lv_iload_n (pc := 27) hx hb dX12_isHere_27 rfl (lv_at hl 1 rfl) ?_
      refine lv_icmp_ne (pc := 28) (tgt := 35) hx hb dX12_isHere_28 (by decide) (fun c4 => ?_) (fun c4 => ?_)
      · have hf := zf c4 hf
        refine lv_iconst (pc := 35) (v := 0) hx hb dX12_isHere_35 (by decide) ?_
        exact zend_z (w := wR cA h) fin hf (by decide) hW dX12_isHere_36
      · have hf := zt c4 hf
        refine lv_iconst (pc := 31) (v := 1) hx hb dX12_isHere_31 (by decide) ?_
        refine lv_goto (pc := 32) (tgt := 36) hx hb dX12_isHere_32 (by decide) ?_
        exact zend_z (w := wR cA h) fin hf (by decide) hW dX12_isHere_36

def fX12_takes (p1 : Int32) (S : zSt) : Option zSt :=
  zB (fX12_isHere p1 S) fun r1 S2 => if r1 = 0 then (if 0 ≤ (S2.1 14) then (some S2) else (zL (zI S2 14 (S2.1 13)) fun S6 => some S6)) else (zL (zI S2 13 ((S2.1 13) + 1)) fun S7 => some S7)
abbrev wX12_takes : List Cond := Cond.code yX12_takes cX12_takes 2 none :: waR
abbrev rmX12_takes : Room := { frames := 1, cells := 0, slots := 0, locals := 21 }
set_option maxHeartbeats 4000000 in
set_option maxRecDepth 100000 in
theorem kX12_takes (l : Launch) (D : va_G) (cA : Nat → ClassId) (h : Nat → Nat) (sz : Nat)  (p1 : Int32) (S : zSt) (S1 : zSt) (hf : fX12_takes p1 S = some S1) : zMv l yX12_takes wX12_takes rmX12_takes zTr D (tR cA) (hsR h) [.ref (h 0), .int p1] (wR cA h S) (wR cA h S1) sz := by
  refine zEn_v (cc := cX12_takes) (maxL := 2) (own := RX12) (by decide) rfl rfl (hmR cA h S) (Nat.le_of_ble_eq_true rfl) ?_
  intro p e s m args below meth c Q H locs C0 hW fin ls hl
  have hl : lv_has ls 2 [(0, .ref (h 0)), (1, .int p1)] := hl
  have hx := C0.1
  have hb := C0.2.1
  have hown := C0.2.2.2.1
  have hts := C0.2.2.2.2
  unfold fX12_takes at hf
  refine lv_aload_n (pc := 0) hx hb dX12_takes_0 rfl (lv_at hl 0 rfl) ?_
  refine lv_iload_n (pc := 1) hx hb dX12_takes_1 rfl (lv_at hl 1 rfl) ?_
  obtain ⟨r1, S2, e3, hf⟩ := zB_e hf
  refine zcVi zTr_ok (As := [.int p1]) (pc := 2) C0 hW (kX12_isHere l D cA h H.size p1 S r1 S2 e3) (cwV 1 hts (zgV gaR mR_57 mR_58 mR_59 mR_46 mR_53) rfl rfl rfl (by decide +kernel) ⟨Nat.le_of_ble_eq_true rfl, Nat.le_of_ble_eq_true rfl⟩) (va_recv hW.1 hW.2.1 (ci := 12) (q0 := 0) rfl rfl) rfl hl.1 rfl (Nat.le_of_ble_eq_true rfl) dX12_takes_2 (fun H locs hW => ?_)
  refine lv_if_eq (pc := 5) (tgt := 21) hx hb dX12_takes_5 (by decide) (fun c4 => ?_) (fun c4 => ?_)
  · have hf := zt c4 hf
    refine lv_aload_n (pc := 21) hx hb dX12_takes_21 rfl (lv_at hl 0 rfl) ?_
    refine rg_14 (pc := 22) C0 hu_12 hW mR_54 dX12_takes_22 ?_
    refine lv_if_ge (pc := 25) (tgt := 36) hx hb dX12_takes_25 (by decide) (fun c5 => ?_) (fun c5 => ?_)
    · have hf := zt c5 hf
      exact zend_v (w := wR cA h) fin hf hW dX12_takes_36
    · have hf := zf c5 hf
      refine lv_aload_n (pc := 28) hx hb dX12_takes_28 rfl (lv_at hl 0 rfl) ?_
      refine lv_aload_n (pc := 29) hx hb dX12_takes_29 rfl (lv_at hl 0 rfl) ?_
      refine rg_13 (pc := 30) C0 hu_12 hW mR_55 dX12_takes_30 ?_
      obtain ⟨S6, e_S6, hf⟩ := zL_e hf
      refine rp_14 (pc := 33) C0 hu_12 hW mR_54 e_S6 dX12_takes_33 (fun H locs hW => ?_)
      exact zend_v (w := wR cA h) fin hf hW dX12_takes_36
  · have hf := zf c4 hf
    refine lv_aload_n (pc := 8) hx hb dX12_takes_8 rfl (lv_at hl 0 rfl) ?_
    refine lv_dup (pc := 9) hx hb dX12_takes_9 rfl ?_
    refine rg_13 (pc := 10) C0 hu_12 hW mR_55 dX12_takes_10 ?_
    refine lv_iconst (pc := 13) (v := 1) hx hb dX12_takes_13 (by decide) ?_
    refine lv_iadd (pc := 14) hx hb dX12_takes_14 ?_
    obtain ⟨S7, e_S7, hf⟩ := zL_e hf
    refine rp_13 (pc := 15) C0 hu_12 hW mR_55 e_S7 dX12_takes_15 (fun H locs hW => ?_)
    refine lv_goto (pc := 18) (tgt := 36) hx hb dX12_takes_18 (by decide) ?_
    exact zend_v (w := wR cA h) fin hf hW dX12_takes_36

def fX12_digit_b36  (u0 : Int32) (S : zSt) : Option (Int32 × zSt) :=
  zU (fX12_in u0 0 9) fun r1 => if r1 = 0 then (zL (zI S 14 (S.1 13)) fun S6 => some (0, S6)) else (zL (zI S 13 ((S.1 13) + 1)) fun S5 => some (u0, S5))
def fX12_digit (S : zSt) : Option (Int32 × zSt) :=
  if (S.1 14) < 0 then (if (S.1 2) ≤ (S.1 13) then (fX12_digit_b36 (-1) S) else (if zin (S.1 13) 120 then fX12_digit_b36 ((S.2.1 1 (Int32.toNatClampNeg (S.1 13))) - 48) S else none)) else (some (0, S))
abbrev wX12_digit : List Cond := Cond.code yX12_digit cX12_digit 2 (some .int) :: waR
abbrev rmX12_digit : Room := { frames := 1, cells := 0, slots := 0, locals := 22 }
set_option maxHeartbeats 4000000 in
set_option maxRecDepth 100000 in
theorem kX12_digit (l : Launch) (D : va_G) (cA : Nat → ClassId) (h : Nat → Nat) (sz : Nat)   (S : zSt) (r : Int32) (S1 : zSt) (hf : fX12_digit S = some (r, S1)) : zMi l yX12_digit wX12_digit rmX12_digit zTr D (tR cA) (hsR h) [.ref (h 0)] (wR cA h S) (wR cA h S1) sz r := by
  refine zEn_i (cc := cX12_digit) (maxL := 2) (own := RX12) (by decide) rfl rfl (hmR cA h S) (Nat.le_of_ble_eq_true rfl) ?_
  intro p e s m args below meth c Q H locs C0 hW fin ls hl
  have hl : lv_has ls 2 [(0, .ref (h 0))] := hl
  have hx := C0.1
  have hb := C0.2.1
  have hown := C0.2.2.2.1
  have hts := C0.2.2.2.2
  have w36 : ∀ (u0 : Int32) (S : zSt) (H : Heap) (locs : List Loc), zW zTr D (tR cA) (wR cA h S) (aW (hsR h) s.heap.size) s H locs → ∀ ls : Array Slot, lv_has ls 2 [(0, .ref (h 0))] → fX12_digit_b36 u0 S = some (r, S1) → W p l e rmX12_digit s m args below meth c H locs 0 0 Q (F0 m 36 ls [.int u0]) := by
    intro u0 S H locs hW ls hl hf
    unfold fX12_digit_b36 at hf
    refine lv_istore_n (pc := 36) (lv' := [(1, .int u0), (0, .ref (h 0))]) hx hb dX12_digit_36 rfl hl (by decide) rfl (fun ls hl => ?_)
    refine lv_iload_n (pc := 37) hx hb dX12_digit_37 rfl (lv_at hl 0 rfl) ?_
    refine lv_iconst (pc := 38) (v := 0) hx hb dX12_digit_38 (by decide) ?_
    refine lv_bipush (pc := 39) (v := 9) hx hb dX12_digit_39 (by decide) ?_
    obtain ⟨r1, e3, hf⟩ := zU_e hf
    refine zcSi (As := [.int u0, .int 0, .int 9]) (pc := 41) C0 hW (kX12_in l H.size u0 0 9 r1 e3) (va_cwS 3 hts (zgS gaR mR_44 mR_45 mR_46 mR_39) rfl rfl rfl (by decide +kernel) ⟨Nat.le_of_ble_eq_true rfl, Nat.le_of_ble_eq_true rfl⟩) rfl hl.1 rfl (Nat.le_of_ble_eq_true rfl) dX12_digit_41 (fun H locs hW => ?_)
    refine lv_if_ne (pc := 44) (tgt := 57) hx hb dX12_digit_44 (by decide) (fun c4 => ?_) (fun c4 => ?_)
    · have hf := zf c4 hf
      refine lv_aload_n (pc := 57) hx hb dX12_digit_57 rfl (lv_at hl 1 rfl) ?_
      refine lv_dup (pc := 58) hx hb dX12_digit_58 rfl ?_
      refine rg_13 (pc := 59) C0 hu_12 hW mR_55 dX12_digit_59 ?_
      refine lv_iconst (pc := 62) (v := 1) hx hb dX12_digit_62 (by decide) ?_
      refine lv_iadd (pc := 63) hx hb dX12_digit_63 ?_
      obtain ⟨S5, e_S5, hf⟩ := zL_e hf
      refine rp_13 (pc := 64) C0 hu_12 hW mR_55 e_S5 dX12_digit_64 (fun H locs hW => ?_)
      refine lv_iload_n (pc := 67) hx hb dX12_digit_67 rfl (lv_at hl 0 rfl) ?_
      exact zend_i (w := wR cA h) fin hf hW dX12_digit_68
    · have hf := zt c4 hf
      refine lv_aload_n (pc := 47) hx hb dX12_digit_47 rfl (lv_at hl 1 rfl) ?_
      refine lv_aload_n (pc := 48) hx hb dX12_digit_48 rfl (lv_at hl 1 rfl) ?_
      refine rg_13 (pc := 49) C0 hu_12 hW mR_55 dX12_digit_49 ?_
      obtain ⟨S6, e_S6, hf⟩ := zL_e hf
      refine rp_14 (pc := 52) C0 hu_12 hW mR_54 e_S6 dX12_digit_52 (fun H locs hW => ?_)
      refine lv_iconst (pc := 55) (v := 0) hx hb dX12_digit_55 (by decide) ?_
      exact zend_i (w := wR cA h) fin hf hW dX12_digit_56
  unfold fX12_digit at hf
  refine lv_aload_n (pc := 0) hx hb dX12_digit_0 rfl (lv_at hl 0 rfl) ?_
  refine rg_14 (pc := 1) C0 hu_12 hW mR_54 dX12_digit_1 ?_
  refine lv_if_lt (pc := 4) (tgt := 9) hx hb dX12_digit_4 (by decide) (fun c7 => ?_) (fun c7 => ?_)
  · have hf := zt c7 hf
    refine lv_aload_n (pc := 9) hx hb dX12_digit_9 rfl (lv_at hl 0 rfl) ?_
    refine rg_13 (pc := 10) C0 hu_12 hW mR_55 dX12_digit_10 ?_
    refine lv_aload_n (pc := 13) hx hb dX12_digit_13 rfl (lv_at hl 0 rfl) ?_
    refine rg_2 (pc := 14) C0 hu_12 hW mR_43 dX12_digit_14 ?_
    refine lv_icmp_ge (pc := 17) (tgt := 35) hx hb dX12_digit_17 (by decide) (fun c8 => ?_) (fun c8 => ?_)
    · have hf := zt c8 hf
      refine lv_iconst (pc := 35) (v := (-1)) hx hb dX12_digit_35 (by decide) ?_
      exact w36 (-1) S H locs hW ls (lv_sub hl [0] rfl) hf
    · have hf := zf c8 hf
      refine lv_aload_n (pc := 20) hx hb dX12_digit_20 rfl (lv_at hl 0 rfl) ?_
      refine rg_1 (pc := 21) C0 hu_12 hW mR_5 dX12_digit_21 ?_
      refine lv_aload_n (pc := 24) hx hb dX12_digit_24 rfl (lv_at hl 0 rfl) ?_
      refine rg_13 (pc := 25) C0 hu_12 hW mR_55 dX12_digit_25 ?_
      obtain ⟨i9, hf⟩ := zn hf
      refine rl_1 (pc := 28) C0 hW i9 dX12_digit_28 ?_
      refine lv_bipush (pc := 29) (v := 48) hx hb dX12_digit_29 (by decide) ?_
      refine lv_isub (pc := 31) hx hb dX12_digit_31 ?_
      refine lv_goto (pc := 32) (tgt := 36) hx hb dX12_digit_32 (by decide) ?_
      exact w36 ((S.2.1 1 (Int32.toNatClampNeg (S.1 13))) - 48) S H locs hW ls (lv_sub hl [0] rfl) hf
  · have hf := zf c7 hf
    refine lv_iconst (pc := 7) (v := 0) hx hb dX12_digit_7 (by decide) ?_
    exact zend_i (w := wR cA h) fin hf hW dX12_digit_8

def fX12_readNumber_b106 (N : Nat) (v1 : Int32) (v2 : Int32) (S : zSt) : Option (Int32 × zSt) :=
  zL (zI S 14 v1) fun S1 => some (v2, S1)
def fX12_readNumber_b85 (N : Nat) (v1 : Int32) (v2 : Int32) (S : zSt) : Option (Int32 × zSt) :=
  if 0 ≤ (S.1 14) then (some (v2, S)) else (if (S.1 13) = v1 then (fX12_readNumber_b106 N v1 v2 S) else (if v2 ≤ 30 then (some (v2, S)) else (fX12_readNumber_b106 N v1 v2 S)))
def fX12_readNumber_b7 (N : Nat) : Nat → Int32 → Int32 → zSt → Option (Int32 × zSt)
  | 0, _, _, _ => none
  | n + 1, v1, v2, S =>
    if 0 ≤ (S.1 14) then (fX12_readNumber_b85 N v1 v2 S) else (if (S.1 2) ≤ (S.1 13) then (fX12_readNumber_b85 N v1 v2 S) else (if (v1 + 2) ≤ (S.1 13) then (fX12_readNumber_b85 N v1 v2 S) else (if zin (S.1 13) 120 then zU (fX12_in (S.2.1 1 (Int32.toNatClampNeg (S.1 13))) 48 57) fun r9 => if r9 = 0 then (fX12_readNumber_b85 N v1 v2 S) else (if zin (S.1 13) 120 then zL ((((10 * v2) + (S.2.1 1 (Int32.toNatClampNeg (S.1 13)))) - 48)) fun (x14 : Int32) => zL (zI S 13 ((S.1 13) + 1)) fun S15 => fX12_readNumber_b7 N n v1 x14 S15 else none) else none)))
def fX12_readNumber (N : Nat) (S : zSt) : Option (Int32 × zSt) :=
  fX12_readNumber_b7 N N (S.1 13) 0 S
abbrev wX12_readNumber : List Cond := Cond.code yX12_readNumber cX12_readNumber 3 (some .int) :: waR
abbrev rmX12_readNumber : Room := { frames := 1, cells := 0, slots := 0, locals := 22 }
set_option maxHeartbeats 4000000 in
set_option maxRecDepth 100000 in
theorem kX12_readNumber (l : Launch) (D : va_G) (cA : Nat → ClassId) (h : Nat → Nat) (sz : Nat) (N : Nat)   (S : zSt) (r : Int32) (S1 : zSt) (hf : fX12_readNumber N S = some (r, S1)) : zMi l yX12_readNumber wX12_readNumber rmX12_readNumber zTr D (tR cA) (hsR h) [.ref (h 0)] (wR cA h S) (wR cA h S1) sz r := by
  refine zEn_i (cc := cX12_readNumber) (maxL := 3) (own := RX12) (by decide) rfl rfl (hmR cA h S) (Nat.le_of_ble_eq_true rfl) ?_
  intro p e s m args below meth c Q H locs C0 hW fin ls hl
  have hl : lv_has ls 3 [(0, .ref (h 0))] := hl
  have hx := C0.1
  have hb := C0.2.1
  have hown := C0.2.2.2.1
  have hts := C0.2.2.2.2
  have w106 : ∀ (v1 : Int32) (v2 : Int32) (S : zSt) (H : Heap) (locs : List Loc), zW zTr D (tR cA) (wR cA h S) (aW (hsR h) s.heap.size) s H locs → ∀ ls : Array Slot, lv_has ls 3 [(0, .ref (h 0)), (1, .int v1), (2, .int v2)] → fX12_readNumber_b106 N v1 v2 S = some (r, S1) → W p l e rmX12_readNumber s m args below meth c H locs 0 0 Q (F0 m 106 ls []) := by
    intro v1 v2 S H locs hW ls hl hf
    unfold fX12_readNumber_b106 at hf
    refine lv_aload_n (pc := 106) hx hb dX12_readNumber_106 rfl (lv_at hl 0 rfl) ?_
    refine lv_iload_n (pc := 107) hx hb dX12_readNumber_107 rfl (lv_at hl 1 rfl) ?_
    obtain ⟨S1, e_S1, hf⟩ := zL_e hf
    refine rp_14 (pc := 108) C0 hu_12 hW mR_54 e_S1 dX12_readNumber_108 (fun H locs hW => ?_)
    refine lv_iload_n (pc := 111) hx hb dX12_readNumber_111 rfl (lv_at hl 2 rfl) ?_
    exact zend_i (w := wR cA h) fin hf hW dX12_readNumber_112
  have w85 : ∀ (v1 : Int32) (v2 : Int32) (S : zSt) (H : Heap) (locs : List Loc), zW zTr D (tR cA) (wR cA h S) (aW (hsR h) s.heap.size) s H locs → ∀ ls : Array Slot, lv_has ls 3 [(0, .ref (h 0)), (1, .int v1), (2, .int v2)] → fX12_readNumber_b85 N v1 v2 S = some (r, S1) → W p l e rmX12_readNumber s m args below meth c H locs 0 0 Q (F0 m 85 ls []) := by
    intro v1 v2 S H locs hW ls hl hf
    unfold fX12_readNumber_b85 at hf
    refine lv_aload_n (pc := 85) hx hb dX12_readNumber_85 rfl (lv_at hl 0 rfl) ?_
    refine rg_14 (pc := 86) C0 hu_12 hW mR_54 dX12_readNumber_86 ?_
    refine lv_if_ge (pc := 89) (tgt := 111) hx hb dX12_readNumber_89 (by decide) (fun c2 => ?_) (fun c2 => ?_)
    · have hf := zt c2 hf
      refine lv_iload_n (pc := 111) hx hb dX12_readNumber_111 rfl (lv_at hl 2 rfl) ?_
      exact zend_i (w := wR cA h) fin hf hW dX12_readNumber_112
    · have hf := zf c2 hf
      refine lv_aload_n (pc := 92) hx hb dX12_readNumber_92 rfl (lv_at hl 0 rfl) ?_
      refine rg_13 (pc := 93) C0 hu_12 hW mR_55 dX12_readNumber_93 ?_
      refine lv_iload_n (pc := 96) hx hb dX12_readNumber_96 rfl (lv_at hl 1 rfl) ?_
      refine lv_icmp_eq (pc := 97) (tgt := 106) hx hb dX12_readNumber_97 (by decide) (fun c3 => ?_) (fun c3 => ?_)
      · have hf := zt c3 hf
        exact w106 v1 v2 S H locs hW ls (lv_sub hl [0, 1, 2] rfl) hf
      · have hf := zf c3 hf
        refine lv_iload_n (pc := 100) hx hb dX12_readNumber_100 rfl (lv_at hl 2 rfl) ?_
        refine lv_bipush (pc := 101) (v := 30) hx hb dX12_readNumber_101 (by decide) ?_
        refine lv_icmp_le (pc := 103) (tgt := 111) hx hb dX12_readNumber_103 (by decide) (fun c4 => ?_) (fun c4 => ?_)
        · have hf := zt c4 hf
          refine lv_iload_n (pc := 111) hx hb dX12_readNumber_111 rfl (lv_at hl 2 rfl) ?_
          exact zend_i (w := wR cA h) fin hf hW dX12_readNumber_112
        · have hf := zf c4 hf
          exact w106 v1 v2 S H locs hW ls (lv_sub hl [0, 1, 2] rfl) hf
  have w7 : ∀ (n : Nat), ∀ (v1 : Int32) (v2 : Int32) (S : zSt) (H : Heap) (locs : List Loc), zW zTr D (tR cA) (wR cA h S) (aW (hsR h) s.heap.size) s H locs → ∀ ls : Array Slot, lv_has ls 3 [(0, .ref (h 0)), (1, .int v1), (2, .int v2)] → fX12_readNumber_b7 N n v1 v2 S = some (r, S1) → W p l e rmX12_readNumber s m args below meth c H locs 0 0 Q (F0 m 7 ls []) := by
    intro n
    induction n with
    | zero =>
      intro v1 v2 S H locs hW ls hl hf
      exact absurd hf (by intro h; cases h)
    | succ n ih =>
      intro v1 v2 S H locs hW ls hl hf
      rw [fX12_readNumber_b7] at hf
      refine lv_aload_n (pc := 7) hx hb dX12_readNumber_7 rfl (lv_at hl 0 rfl) ?_
      refine rg_14 (pc := 8) C0 hu_12 hW mR_54 dX12_readNumber_8 ?_
      refine lv_if_ge (pc := 11) (tgt := 85) hx hb dX12_readNumber_11 (by decide) (fun c5 => ?_) (fun c5 => ?_)
      · have hf := zt c5 hf
        exact w85 v1 v2 S H locs hW ls (lv_sub hl [0, 1, 2] rfl) hf
      · have hf := zf c5 hf
        refine lv_aload_n (pc := 14) hx hb dX12_readNumber_14 rfl (lv_at hl 0 rfl) ?_
        refine rg_13 (pc := 15) C0 hu_12 hW mR_55 dX12_readNumber_15 ?_
        refine lv_aload_n (pc := 18) hx hb dX12_readNumber_18 rfl (lv_at hl 0 rfl) ?_
        refine rg_2 (pc := 19) C0 hu_12 hW mR_43 dX12_readNumber_19 ?_
        refine lv_icmp_ge (pc := 22) (tgt := 85) hx hb dX12_readNumber_22 (by decide) (fun c6 => ?_) (fun c6 => ?_)
        · have hf := zt c6 hf
          exact w85 v1 v2 S H locs hW ls (lv_sub hl [0, 1, 2] rfl) hf
        · have hf := zf c6 hf
          refine lv_aload_n (pc := 25) hx hb dX12_readNumber_25 rfl (lv_at hl 0 rfl) ?_
          refine rg_13 (pc := 26) C0 hu_12 hW mR_55 dX12_readNumber_26 ?_
          refine lv_iload_n (pc := 29) hx hb dX12_readNumber_29 rfl (lv_at hl 1 rfl) ?_
          refine lv_iconst (pc := 30) (v := 2) hx hb dX12_readNumber_30 (by decide) ?_
          refine lv_iadd (pc := 31) hx hb dX12_readNumber_31 ?_
          refine lv_icmp_ge (pc := 32) (tgt := 85) hx hb dX12_readNumber_32 (by decide) (fun c7 => ?_) (fun c7 => ?_)
          · have hf := zt c7 hf
            exact w85 v1 v2 S H locs hW ls (lv_sub hl [0, 1, 2] rfl) hf
          · have hf := zf c7 hf
            refine lv_aload_n (pc := 35) hx hb dX12_readNumber_35 rfl (lv_at hl 0 rfl) ?_
            refine rg_1 (pc := 36) C0 hu_12 hW mR_5 dX12_readNumber_36 ?_
            refine lv_aload_n (pc := 39) hx hb dX12_readNumber_39 rfl (lv_at hl 0 rfl) ?_
            refine rg_13 (pc := 40) C0 hu_12 hW mR_55 dX12_readNumber_40 ?_
            obtain ⟨i8, hf⟩ := zn hf
            refine rl_1 (pc := 43) C0 hW i8 dX12_readNumber_43 ?_
            refine lv_bipush (pc := 44) (v := 48) hx hb dX12_readNumber_44 (by decide) ?_
            refine lv_bipush (pc := 46) (v := 57) hx hb dX12_readNumber_46 (by decide) ?_
            obtain ⟨r9, e11, hf⟩ := zU_e hf
            refine zcSi (As := [.int (S.2.1 1 (Int32.toNatClampNeg (S.1 13))), .int 48, .int 57]) (pc := 48) C0 hW (kX12_in l H.size (S.2.1 1 (Int32.toNatClampNeg (S.1 13))) 48 57 r9 e11) (va_cwS 3 hts (zgS gaR mR_44 mR_45 mR_46 mR_39) rfl rfl rfl (by decide +kernel) ⟨Nat.le_of_ble_eq_true rfl, Nat.le_of_ble_eq_true rfl⟩) rfl hl.1 rfl (Nat.le_of_ble_eq_true rfl) dX12_readNumber_48 (fun H locs hW => ?_)
            refine lv_if_eq (pc := 51) (tgt := 85) hx hb dX12_readNumber_51 (by decide) (fun c12 => ?_) (fun c12 => ?_)
            · have hf := zt c12 hf
              exact w85 v1 v2 S H locs hW ls (lv_sub hl [0, 1, 2] rfl) hf
            · have hf := zf c12 hf
              refine lv_bipush (pc := 54) (v := 10) hx hb dX12_readNumber_54 (by decide) ?_
              refine lv_iload_n (pc := 56) hx hb dX12_readNumber_56 rfl (lv_at hl 2 rfl) ?_
              refine lv_imul (pc := 57) hx hb dX12_readNumber_57 ?_
              refine lv_aload_n (pc := 58) hx hb dX12_readNumber_58 rfl (lv_at hl 0 rfl) ?_
              refine rg_1 (pc := 59) C0 hu_12 hW mR_5 dX12_readNumber_59 ?_
              refine lv_aload_n (pc := 62) hx hb dX12_readNumber_62 rfl (lv_at hl 0 rfl) ?_
              refine rg_13 (pc := 63) C0 hu_12 hW mR_55 dX12_readNumber_63 ?_
              obtain ⟨i13, hf⟩ := zn hf
              refine rl_1 (pc := 66) C0 hW i13 dX12_readNumber_66 ?_
              refine lv_iadd (pc := 67) hx hb dX12_readNumber_67 ?_
              refine lv_bipush (pc := 68) (v := 48) hx hb dX12_readNumber_68 (by decide) ?_
              refine lv_isub (pc := 70) hx hb dX12_readNumber_70 ?_
              obtain ⟨x14, e_x14, hf⟩ := zL_e hf
              refine ztopi e_x14 ?_
              refine lv_istore_n (pc := 71) (lv' := [(2, .int x14), (0, .ref (h 0)), (1, .int v1)]) hx hb dX12_readNumber_71 rfl hl (by decide) rfl (fun ls hl => ?_)
              refine lv_aload_n (pc := 72) hx hb dX12_readNumber_72 rfl (lv_at hl 1 rfl) ?_
              refine lv_dup (pc := 73) hx hb dX12_readNumber_73 rfl ?_
              refine rg_13 (pc := 74) C0 hu_12 hW mR_55 dX12_readNumber_74 ?_
              refine lv_iconst (pc := 77) (v := 1) hx hb dX12_readNumber_77 (by decide) ?_
              refine lv_iadd (pc := 78) hx hb dX12_readNumber_78 ?_
              obtain ⟨S15, e_S15, hf⟩ := zL_e hf
              refine rp_13 (pc := 79) C0 hu_12 hW mR_55 e_S15 dX12_readNumber_79 (fun H locs hW => ?_)
              refine lv_goto (pc := 82) (tgt := 7) hx hb dX12_readNumber_82 (by decide) ?_
              exact ih v1 x14 S15 H locs hW ls (lv_sub hl [1, 2, 0] rfl) hf
  unfold fX12_readNumber at hf
  refine lv_aload_n (pc := 0) hx hb dX12_readNumber_0 rfl (lv_at hl 0 rfl) ?_
  refine rg_13 (pc := 1) C0 hu_12 hW mR_55 dX12_readNumber_1 ?_
  refine lv_istore_n (pc := 4) (lv' := [(1, .int (S.1 13)), (0, .ref (h 0))]) hx hb dX12_readNumber_4 rfl hl (by decide) rfl (fun ls hl => ?_)
  refine lv_iconst (pc := 5) (v := 0) hx hb dX12_readNumber_5 (by decide) ?_
  refine lv_istore_n (pc := 6) (lv' := [(2, .int 0), (1, .int (S.1 13)), (0, .ref (h 0))]) hx hb dX12_readNumber_6 rfl hl (by decide) rfl (fun ls hl => ?_)
  exact w7 N (S.1 13) 0 S H locs hW ls (lv_sub hl [2, 1, 0] rfl) hf

def fX12_readCell (N : Nat) (p1 : Int32) (S : zSt) : Option zSt :=
  if zin p1 7 then zL (((36 * p1) + (3 * (S.2.1 4 (Int32.toNatClampNeg p1))))) fun (x2 : Int32) => zB (fX12_readNumber N S) fun r3 S4 => if zin x2 252 then zL (zA S4 6 (Int32.toNatClampNeg x2) r3) fun S7 => zU (fX12_takes 44 S7) fun S9 => zB (fX12_readNumber N S9) fun r11 S12 => if zin (x2 + 1) 252 then zL (zA S12 6 (Int32.toNatClampNeg (x2 + 1)) r11) fun S15 => zU (fX12_takes 44 S15) fun S17 => zB (fX12_digit S17) fun r19 S20 => if zin (x2 + 2) 252 then zL (zA S20 6 (Int32.toNatClampNeg (x2 + 2)) r19) fun S23 => if zin p1 7 then if zin p1 7 then zL (zA S23 4 (Int32.toNatClampNeg p1) ((S23.2.1 4 (Int32.toNatClampNeg p1)) + 1)) fun S26 => some S26 else none else none else none else none else none else none
abbrev wX12_readCell : List Cond := Cond.code yX12_readCell cX12_readCell 3 none :: waR
abbrev rmX12_readCell : Room := { frames := 2, cells := 0, slots := 0, locals := 44 }
set_option maxHeartbeats 4000000 in
set_option maxRecDepth 100000 in
theorem kX12_readCell (l : Launch) (D : va_G) (cA : Nat → ClassId) (h : Nat → Nat) (sz : Nat) (N : Nat)  (p1 : Int32) (S : zSt) (S1 : zSt) (hf : fX12_readCell N p1 S = some S1) : zMv l yX12_readCell wX12_readCell rmX12_readCell zTr D (tR cA) (hsR h) [.ref (h 0), .int p1] (wR cA h S) (wR cA h S1) sz := by
  refine zEn_v (cc := cX12_readCell) (maxL := 3) (own := RX12) (by decide) rfl rfl (hmR cA h S) (Nat.le_of_ble_eq_true rfl) ?_
  intro p e s m args below meth c Q H locs C0 hW fin ls hl
  have hl : lv_has ls 3 [(0, .ref (h 0)), (1, .int p1)] := hl
  have hx := C0.1
  have hb := C0.2.1
  have hown := C0.2.2.2.1
  have hts := C0.2.2.2.2
  unfold fX12_readCell at hf
  refine lv_bipush (pc := 0) (v := 36) hx hb dX12_readCell_0 (by decide) ?_
  refine lv_iload_n (pc := 2) hx hb dX12_readCell_2 rfl (lv_at hl 1 rfl) ?_
  refine lv_imul (pc := 3) hx hb dX12_readCell_3 ?_
  refine lv_iconst (pc := 4) (v := 3) hx hb dX12_readCell_4 (by decide) ?_
  refine lv_aload_n (pc := 5) hx hb dX12_readCell_5 rfl (lv_at hl 0 rfl) ?_
  refine rg_4 (pc := 6) C0 hu_12 hW mR_7 dX12_readCell_6 ?_
  refine lv_iload_n (pc := 9) hx hb dX12_readCell_9 rfl (lv_at hl 1 rfl) ?_
  obtain ⟨i1, hf⟩ := zn hf
  refine rl_4 (pc := 10) C0 hW i1 dX12_readCell_10 ?_
  refine lv_imul (pc := 11) hx hb dX12_readCell_11 ?_
  refine lv_iadd (pc := 12) hx hb dX12_readCell_12 ?_
  obtain ⟨x2, e_x2, hf⟩ := zL_e hf
  refine ztopi e_x2 ?_
  refine lv_istore_n (pc := 13) (lv' := [(2, .int x2), (0, .ref (h 0)), (1, .int p1)]) hx hb dX12_readCell_13 rfl hl (by decide) rfl (fun ls hl => ?_)
  refine lv_aload_n (pc := 14) hx hb dX12_readCell_14 rfl (lv_at hl 1 rfl) ?_
  refine rg_6 (pc := 15) C0 hu_12 hW mR_9 dX12_readCell_15 ?_
  refine lv_iload_n (pc := 18) hx hb dX12_readCell_18 rfl (lv_at hl 0 rfl) ?_
  refine lv_aload_n (pc := 19) hx hb dX12_readCell_19 rfl (lv_at hl 1 rfl) ?_
  obtain ⟨r3, S4, e5, hf⟩ := zB_e hf
  refine zcVi zTr_ok (As := []) (pc := 20) C0 hW (kX12_readNumber l D cA h H.size N S r3 S4 e5) (cwV 0 hts (zgV gaR mR_63 mR_64 mR_65 mR_46 mR_61) rfl rfl rfl (by decide +kernel) ⟨Nat.le_of_ble_eq_true rfl, Nat.le_of_ble_eq_true rfl⟩) (va_recv hW.1 hW.2.1 (ci := 12) (q0 := 0) rfl rfl) rfl hl.1 rfl (Nat.le_of_ble_eq_true rfl) dX12_readCell_20 (fun H locs hW => ?_)
  obtain ⟨i6, hf⟩ := zn hf
  obtain ⟨S7, e_S7, hf⟩ := zL_e hf
  refine rs_6 (pc := 23) C0 hW i6 e_S7 dX12_readCell_23 (fun H locs hW => ?_)
  refine lv_aload_n (pc := 24) hx hb dX12_readCell_24 rfl (lv_at hl 1 rfl) ?_
  refine lv_bipush (pc := 25) (v := 44) hx hb dX12_readCell_25 (by decide) ?_
  obtain ⟨S9, e10, hf⟩ := zU_e hf
  refine zcVv zTr_ok (As := [.int 44]) (pc := 27) C0 hW (kX12_takes l D cA h H.size 44 S7 S9 e10) (cwV 1 hts (zgV gaR mR_66 mR_67 mR_68 mR_46 mR_56) rfl rfl rfl (by decide +kernel) ⟨Nat.le_of_ble_eq_true rfl, Nat.le_of_ble_eq_true rfl⟩) (va_recv hW.1 hW.2.1 (ci := 12) (q0 := 0) rfl rfl) rfl hl.1 rfl (Nat.le_of_ble_eq_true rfl) dX12_readCell_27 (fun H locs hW => ?_)
  refine lv_aload_n (pc := 30) hx hb dX12_readCell_30 rfl (lv_at hl 1 rfl) ?_
  refine rg_6 (pc := 31) C0 hu_12 hW mR_9 dX12_readCell_31 ?_
  refine lv_iload_n (pc := 34) hx hb dX12_readCell_34 rfl (lv_at hl 0 rfl) ?_
  refine lv_iconst (pc := 35) (v := 1) hx hb dX12_readCell_35 (by decide) ?_
  refine lv_iadd (pc := 36) hx hb dX12_readCell_36 ?_
  refine lv_aload_n (pc := 37) hx hb dX12_readCell_37 rfl (lv_at hl 1 rfl) ?_
  obtain ⟨r11, S12, e13, hf⟩ := zB_e hf
  refine zcVi zTr_ok (As := []) (pc := 38) C0 hW (kX12_readNumber l D cA h H.size N S9 r11 S12 e13) (cwV 0 hts (zgV gaR mR_63 mR_64 mR_65 mR_46 mR_61) rfl rfl rfl (by decide +kernel) ⟨Nat.le_of_ble_eq_true rfl, Nat.le_of_ble_eq_true rfl⟩) (va_recv hW.1 hW.2.1 (ci := 12) (q0 := 0) rfl rfl) rfl hl.1 rfl (Nat.le_of_ble_eq_true rfl) dX12_readCell_38 (fun H locs hW => ?_)
  obtain ⟨i14, hf⟩ := zn hf
  obtain ⟨S15, e_S15, hf⟩ := zL_e hf
  refine rs_6 (pc := 41) C0 hW i14 e_S15 dX12_readCell_41 (fun H locs hW => ?_)
  refine lv_aload_n (pc := 42) hx hb dX12_readCell_42 rfl (lv_at hl 1 rfl) ?_
  refine lv_bipush (pc := 43) (v := 44) hx hb dX12_readCell_43 (by decide) ?_
  obtain ⟨S17, e18, hf⟩ := zU_e hf
  refine zcVv zTr_ok (As := [.int 44]) (pc := 45) C0 hW (kX12_takes l D cA h H.size 44 S15 S17 e18) (cwV 1 hts (zgV gaR mR_66 mR_67 mR_68 mR_46 mR_56) rfl rfl rfl (by decide +kernel) ⟨Nat.le_of_ble_eq_true rfl, Nat.le_of_ble_eq_true rfl⟩) (va_recv hW.1 hW.2.1 (ci := 12) (q0 := 0) rfl rfl) rfl hl.1 rfl (Nat.le_of_ble_eq_true rfl) dX12_readCell_45 (fun H locs hW => ?_)
  refine lv_aload_n (pc := 48) hx hb dX12_readCell_48 rfl (lv_at hl 1 rfl) ?_
  refine rg_6 (pc := 49) C0 hu_12 hW mR_9 dX12_readCell_49 ?_
  refine lv_iload_n (pc := 52) hx hb dX12_readCell_52 rfl (lv_at hl 0 rfl) ?_
  refine lv_iconst (pc := 53) (v := 2) hx hb dX12_readCell_53 (by decide) ?_
  refine lv_iadd (pc := 54) hx hb dX12_readCell_54 ?_
  refine lv_aload_n (pc := 55) hx hb dX12_readCell_55 rfl (lv_at hl 1 rfl) ?_
  obtain ⟨r19, S20, e21, hf⟩ := zB_e hf
  refine zcVi zTr_ok (As := []) (pc := 56) C0 hW (kX12_digit l D cA h H.size S17 r19 S20 e21) (cwV 0 hts (zgV gaR mR_69 mR_70 mR_71 mR_46 mR_60) rfl rfl rfl (by decide +kernel) ⟨Nat.le_of_ble_eq_true rfl, Nat.le_of_ble_eq_true rfl⟩) (va_recv hW.1 hW.2.1 (ci := 12) (q0 := 0) rfl rfl) rfl hl.1 rfl (Nat.le_of_ble_eq_true rfl) dX12_readCell_56 (fun H locs hW => ?_)
  obtain ⟨i22, hf⟩ := zn hf
  obtain ⟨S23, e_S23, hf⟩ := zL_e hf
  refine rs_6 (pc := 59) C0 hW i22 e_S23 dX12_readCell_59 (fun H locs hW => ?_)
  refine lv_aload_n (pc := 60) hx hb dX12_readCell_60 rfl (lv_at hl 1 rfl) ?_
  refine rg_4 (pc := 61) C0 hu_12 hW mR_7 dX12_readCell_61 ?_
  refine lv_iload_n (pc := 64) hx hb dX12_readCell_64 rfl (lv_at hl 2 rfl) ?_
  refine lv_dup2_11 (pc := 65) hx hb dX12_readCell_65 rfl rfl ?_
  obtain ⟨i24, hf⟩ := zn hf
  refine rl_4 (pc := 66) C0 hW i24 dX12_readCell_66 ?_
  refine lv_iconst (pc := 67) (v := 1) hx hb dX12_readCell_67 (by decide) ?_
  refine lv_iadd (pc := 68) hx hb dX12_readCell_68 ?_
  obtain ⟨i25, hf⟩ := zn hf
  obtain ⟨S26, e_S26, hf⟩ := zL_e hf
  refine rs_4 (pc := 69) C0 hW i25 e_S26 dX12_readCell_69 (fun H locs hW => ?_)
  exact zend_v (w := wR cA h) fin hf hW dX12_readCell_70

def fX12_place_b119 (N : Nat) (v1 : Int32) (S : zSt) : Option (Int32 × zSt) :=
  zL (zI S 2 0) fun S1 => if (S1.1 14) < 0 then (zL (zI S1 3 ((S1.1 3) + 1)) fun S3 => some (v1, S3)) else (some (((-100) - (S1.1 14)), S1))
def fX12_place_b77 (N : Nat) (v1 : Int32) (S : zSt) : Option (Int32 × zSt) :=
  zU (fX12_takes 47 S) fun S5 => zB (fX12_digit S5) fun r7 S8 => if zin v1 7 then zL (zA S8 5 (Int32.toNatClampNeg v1) r7) fun S11 => if 0 ≤ (S11.1 14) then (fX12_place_b119 N v1 S11) else (if (S11.1 2) ≤ (S11.1 13) then (fX12_place_b119 N v1 S11) else (zL (zI S11 14 (S11.1 13)) fun S14 => fX12_place_b119 N v1 S14)) else none
def fX12_place_b39 (N : Nat) : Nat → Int32 → zSt → Option (Int32 × zSt)
  | 0, _, _ => none
  | n + 1, v1, S =>
    zB (fX12_isHere 59 S) fun r15 S16 => if r15 = 0 then (fX12_place_b77 N v1 S16) else (if zin v1 7 then if 12 ≤ (S16.2.1 4 (Int32.toNatClampNeg v1)) then (fX12_place_b77 N v1 S16) else (zL (zI S16 13 ((S16.1 13) + 1)) fun S21 => zU (fX12_readCell N v1 S21) fun S23 => fX12_place_b39 N n v1 S23) else none)
def fX12_place (N : Nat) (S : zSt) : Option (Int32 × zSt) :=
  if (S.1 3) = 6 then (some ((-3), S)) else (zL (zI S 13 0) fun S26 => zL (zI S26 14 (-1)) fun S27 => if zin (S27.1 3) 7 then zL (zA S27 4 (Int32.toNatClampNeg (S27.1 3)) 0) fun S29 => zU (fX12_readCell N (S27.1 3) S29) fun S31 => fX12_place_b39 N N (S27.1 3) S31 else none)
abbrev wX12_place : List Cond := Cond.code yX12_place cX12_place 2 (some .int) :: waR
abbrev rmX12_place : Room := { frames := 3, cells := 0, slots := 0, locals := 66 }
set_option maxHeartbeats 4000000 in
set_option maxRecDepth 100000 in
theorem kX12_place (l : Launch) (D : va_G) (cA : Nat → ClassId) (h : Nat → Nat) (sz : Nat) (N : Nat)   (S : zSt) (r : Int32) (S1 : zSt) (hf : fX12_place N S = some (r, S1)) : zMi l yX12_place wX12_place rmX12_place zTr D (tR cA) (hsR h) [.ref (h 0)] (wR cA h S) (wR cA h S1) sz r := by
  refine zEn_i (cc := cX12_place) (maxL := 2) (own := RX12) (by decide) rfl rfl (hmR cA h S) (Nat.le_of_ble_eq_true rfl) ?_
  intro p e s m args below meth c Q H locs C0 hW fin ls hl
  have hl : lv_has ls 2 [(0, .ref (h 0))] := hl
  have hx := C0.1
  have hb := C0.2.1
  have hown := C0.2.2.2.1
  have hts := C0.2.2.2.2
  have w119 : ∀ (v1 : Int32) (S : zSt) (H : Heap) (locs : List Loc), zW zTr D (tR cA) (wR cA h S) (aW (hsR h) s.heap.size) s H locs → ∀ ls : Array Slot, lv_has ls 2 [(0, .ref (h 0)), (1, .int v1)] → fX12_place_b119 N v1 S = some (r, S1) → W p l e rmX12_place s m args below meth c H locs 0 0 Q (F0 m 119 ls []) := by
    intro v1 S H locs hW ls hl hf
    unfold fX12_place_b119 at hf
    refine lv_aload_n (pc := 119) hx hb dX12_place_119 rfl (lv_at hl 0 rfl) ?_
    refine lv_iconst (pc := 120) (v := 0) hx hb dX12_place_120 (by decide) ?_
    obtain ⟨S1, e_S1, hf⟩ := zL_e hf
    refine rp_2 (pc := 121) C0 hu_12 hW mR_43 e_S1 dX12_place_121 (fun H locs hW => ?_)
    refine lv_aload_n (pc := 124) hx hb dX12_place_124 rfl (lv_at hl 0 rfl) ?_
    refine rg_14 (pc := 125) C0 hu_12 hW mR_54 dX12_place_125 ?_
    refine lv_if_lt (pc := 128) (tgt := 139) hx hb dX12_place_128 (by decide) (fun c2 => ?_) (fun c2 => ?_)
    · have hf := zt c2 hf
      refine lv_aload_n (pc := 139) hx hb dX12_place_139 rfl (lv_at hl 0 rfl) ?_
      refine lv_dup (pc := 140) hx hb dX12_place_140 rfl ?_
      refine rg_3 (pc := 141) C0 hu_12 hW mR_48 dX12_place_141 ?_
      refine lv_iconst (pc := 144) (v := 1) hx hb dX12_place_144 (by decide) ?_
      refine lv_iadd (pc := 145) hx hb dX12_place_145 ?_
      obtain ⟨S3, e_S3, hf⟩ := zL_e hf
      refine rp_3 (pc := 146) C0 hu_12 hW mR_48 e_S3 dX12_place_146 (fun H locs hW => ?_)
      refine lv_iload_n (pc := 149) hx hb dX12_place_149 rfl (lv_at hl 1 rfl) ?_
      exact zend_i (w := wR cA h) fin hf hW dX12_place_150
    · have hf := zf c2 hf
      refine lv_bipush (pc := 131) (v := (-100)) hx hb dX12_place_131 (by decide) ?_
      refine lv_aload_n (pc := 133) hx hb dX12_place_133 rfl (lv_at hl 0 rfl) ?_
      refine rg_14 (pc := 134) C0 hu_12 hW mR_54 dX12_place_134 ?_
      refine lv_isub (pc := 137) hx hb dX12_place_137 ?_
      exact zend_i (w := wR cA h) fin hf hW dX12_place_138
  have w77 : ∀ (v1 : Int32) (S : zSt) (H : Heap) (locs : List Loc), zW zTr D (tR cA) (wR cA h S) (aW (hsR h) s.heap.size) s H locs → ∀ ls : Array Slot, lv_has ls 2 [(0, .ref (h 0)), (1, .int v1)] → fX12_place_b77 N v1 S = some (r, S1) → W p l e rmX12_place s m args below meth c H locs 0 0 Q (F0 m 77 ls []) := by
    intro v1 S H locs hW ls hl hf
    unfold fX12_place_b77 at hf
    refine lv_aload_n (pc := 77) hx hb dX12_place_77 rfl (lv_at hl 0 rfl) ?_
    refine lv_bipush (pc := 78) (v := 47) hx hb dX12_place_78 (by decide) ?_
    obtain ⟨S5, e6, hf⟩ := zU_e hf
    refine zcVv zTr_ok (As := [.int 47]) (pc := 80) C0 hW (kX12_takes l D cA h H.size 47 S S5 e6) (cwV 1 hts (zgV gaR mR_66 mR_67 mR_68 mR_46 mR_56) rfl rfl rfl (by decide +kernel) ⟨Nat.le_of_ble_eq_true rfl, Nat.le_of_ble_eq_true rfl⟩) (va_recv hW.1 hW.2.1 (ci := 12) (q0 := 0) rfl rfl) rfl hl.1 rfl (Nat.le_of_ble_eq_true rfl) dX12_place_80 (fun H locs hW => ?_)
    refine lv_aload_n (pc := 83) hx hb dX12_place_83 rfl (lv_at hl 0 rfl) ?_
    refine rg_5 (pc := 84) C0 hu_12 hW mR_8 dX12_place_84 ?_
    refine lv_iload_n (pc := 87) hx hb dX12_place_87 rfl (lv_at hl 1 rfl) ?_
    refine lv_aload_n (pc := 88) hx hb dX12_place_88 rfl (lv_at hl 0 rfl) ?_
    obtain ⟨r7, S8, e9, hf⟩ := zB_e hf
    refine zcVi zTr_ok (As := []) (pc := 89) C0 hW (kX12_digit l D cA h H.size S5 r7 S8 e9) (cwV 0 hts (zgV gaR mR_69 mR_70 mR_71 mR_46 mR_60) rfl rfl rfl (by decide +kernel) ⟨Nat.le_of_ble_eq_true rfl, Nat.le_of_ble_eq_true rfl⟩) (va_recv hW.1 hW.2.1 (ci := 12) (q0 := 0) rfl rfl) rfl hl.1 rfl (Nat.le_of_ble_eq_true rfl) dX12_place_89 (fun H locs hW => ?_)
    obtain ⟨i10, hf⟩ := zn hf
    obtain ⟨S11, e_S11, hf⟩ := zL_e hf
    refine rs_5 (pc := 92) C0 hW i10 e_S11 dX12_place_92 (fun H locs hW => ?_)
    refine lv_aload_n (pc := 93) hx hb dX12_place_93 rfl (lv_at hl 0 rfl) ?_
    refine rg_14 (pc := 94) C0 hu_12 hW mR_54 dX12_place_94 ?_
    refine lv_if_ge (pc := 97) (tgt := 119) hx hb dX12_place_97 (by decide) (fun c12 => ?_) (fun c12 => ?_)
    · have hf := zt c12 hf
      exact w119 v1 S11 H locs hW ls (lv_sub hl [0, 1] rfl) hf
    · have hf := zf c12 hf
      refine lv_aload_n (pc := 100) hx hb dX12_place_100 rfl (lv_at hl 0 rfl) ?_
      refine rg_13 (pc := 101) C0 hu_12 hW mR_55 dX12_place_101 ?_
      refine lv_aload_n (pc := 104) hx hb dX12_place_104 rfl (lv_at hl 0 rfl) ?_
      refine rg_2 (pc := 105) C0 hu_12 hW mR_43 dX12_place_105 ?_
      refine lv_icmp_ge (pc := 108) (tgt := 119) hx hb dX12_place_108 (by decide) (fun c13 => ?_) (fun c13 => ?_)
      · have hf := zt c13 hf
        exact w119 v1 S11 H locs hW ls (lv_sub hl [0, 1] rfl) hf
      · have hf := zf c13 hf
        refine lv_aload_n (pc := 111) hx hb dX12_place_111 rfl (lv_at hl 0 rfl) ?_
        refine lv_aload_n (pc := 112) hx hb dX12_place_112 rfl (lv_at hl 0 rfl) ?_
        refine rg_13 (pc := 113) C0 hu_12 hW mR_55 dX12_place_113 ?_
        obtain ⟨S14, e_S14, hf⟩ := zL_e hf
        refine rp_14 (pc := 116) C0 hu_12 hW mR_54 e_S14 dX12_place_116 (fun H locs hW => ?_)
        exact w119 v1 S14 H locs hW ls (lv_sub hl [0, 1] rfl) hf
  have w39 : ∀ (n : Nat), ∀ (v1 : Int32) (S : zSt) (H : Heap) (locs : List Loc), zW zTr D (tR cA) (wR cA h S) (aW (hsR h) s.heap.size) s H locs → ∀ ls : Array Slot, lv_has ls 2 [(0, .ref (h 0)), (1, .int v1)] → fX12_place_b39 N n v1 S = some (r, S1) → W p l e rmX12_place s m args below meth c H locs 0 0 Q (F0 m 39 ls []) := by
    intro n
    induction n with
    | zero =>
      intro v1 S H locs hW ls hl hf
      exact absurd hf (by intro h; cases h)
    | succ n ih =>
      intro v1 S H locs hW ls hl hf
      rw [fX12_place_b39] at hf
      refine lv_aload_n (pc := 39) hx hb dX12_place_39 rfl (lv_at hl 0 rfl) ?_
      refine lv_bipush (pc := 40) (v := 59) hx hb dX12_place_40 (by decide) ?_
      obtain ⟨r15, S16, e17, hf⟩ := zB_e hf
      refine zcVi zTr_ok (As := [.int 59]) (pc := 42) C0 hW (kX12_isHere l D cA h H.size 59 S r15 S16 e17) (cwV 1 hts (zgV gaR mR_57 mR_58 mR_59 mR_46 mR_53) rfl rfl rfl (by decide +kernel) ⟨Nat.le_of_ble_eq_true rfl, Nat.le_of_ble_eq_true rfl⟩) (va_recv hW.1 hW.2.1 (ci := 12) (q0 := 0) rfl rfl) rfl hl.1 rfl (Nat.le_of_ble_eq_true rfl) dX12_place_42 (fun H locs hW => ?_)
      refine lv_if_eq (pc := 45) (tgt := 77) hx hb dX12_place_45 (by decide) (fun c18 => ?_) (fun c18 => ?_)
      · have hf := zt c18 hf
        exact w77 v1 S16 H locs hW ls (lv_sub hl [0, 1] rfl) hf
      · have hf := zf c18 hf
        refine lv_aload_n (pc := 48) hx hb dX12_place_48 rfl (lv_at hl 0 rfl) ?_
        refine rg_4 (pc := 49) C0 hu_12 hW mR_7 dX12_place_49 ?_
        refine lv_iload_n (pc := 52) hx hb dX12_place_52 rfl (lv_at hl 1 rfl) ?_
        obtain ⟨i19, hf⟩ := zn hf
        refine rl_4 (pc := 53) C0 hW i19 dX12_place_53 ?_
        refine lv_bipush (pc := 54) (v := 12) hx hb dX12_place_54 (by decide) ?_
        refine lv_icmp_ge (pc := 56) (tgt := 77) hx hb dX12_place_56 (by decide) (fun c20 => ?_) (fun c20 => ?_)
        · have hf := zt c20 hf
          exact w77 v1 S16 H locs hW ls (lv_sub hl [0, 1] rfl) hf
        · have hf := zf c20 hf
          refine lv_aload_n (pc := 59) hx hb dX12_place_59 rfl (lv_at hl 0 rfl) ?_
          refine lv_dup (pc := 60) hx hb dX12_place_60 rfl ?_
          refine rg_13 (pc := 61) C0 hu_12 hW mR_55 dX12_place_61 ?_
          refine lv_iconst (pc := 64) (v := 1) hx hb dX12_place_64 (by decide) ?_
          refine lv_iadd (pc := 65) hx hb dX12_place_65 ?_
          obtain ⟨S21, e_S21, hf⟩ := zL_e hf
          refine rp_13 (pc := 66) C0 hu_12 hW mR_55 e_S21 dX12_place_66 (fun H locs hW => ?_)
          refine lv_aload_n (pc := 69) hx hb dX12_place_69 rfl (lv_at hl 0 rfl) ?_
          refine lv_iload_n (pc := 70) hx hb dX12_place_70 rfl (lv_at hl 1 rfl) ?_
          obtain ⟨S23, e24, hf⟩ := zU_e hf
          refine zcVv zTr_ok (As := [.int v1]) (pc := 71) C0 hW (kX12_readCell l D cA h H.size N v1 S21 S23 e24) (cwV 1 hts (zgV gaR mR_73 mR_74 mR_75 mR_46 mR_62) rfl rfl rfl (by decide +kernel) ⟨Nat.le_of_ble_eq_true rfl, Nat.le_of_ble_eq_true rfl⟩) (va_recv hW.1 hW.2.1 (ci := 12) (q0 := 0) rfl rfl) rfl hl.1 rfl (Nat.le_of_ble_eq_true rfl) dX12_place_71 (fun H locs hW => ?_)
          refine lv_goto (pc := 74) (tgt := 39) hx hb dX12_place_74 (by decide) ?_
          exact ih v1 S23 H locs hW ls (lv_sub hl [0, 1] rfl) hf
  unfold fX12_place at hf
  refine lv_aload_n (pc := 0) hx hb dX12_place_0 rfl (lv_at hl 0 rfl) ?_
  refine rg_3 (pc := 1) C0 hu_12 hW mR_48 dX12_place_1 ?_
  refine lv_bipush (pc := 4) (v := 6) hx hb dX12_place_4 (by decide) ?_
  refine lv_icmp_ne (pc := 6) (tgt := 12) hx hb dX12_place_6 (by decide) (fun c25 => ?_) (fun c25 => ?_)
  · have hf := zf c25 hf
    refine lv_aload_n (pc := 12) hx hb dX12_place_12 rfl (lv_at hl 0 rfl) ?_
    refine lv_iconst (pc := 13) (v := 0) hx hb dX12_place_13 (by decide) ?_
    obtain ⟨S26, e_S26, hf⟩ := zL_e hf
    refine rp_13 (pc := 14) C0 hu_12 hW mR_55 e_S26 dX12_place_14 (fun H locs hW => ?_)
    refine lv_aload_n (pc := 17) hx hb dX12_place_17 rfl (lv_at hl 0 rfl) ?_
    refine lv_iconst (pc := 18) (v := (-1)) hx hb dX12_place_18 (by decide) ?_
    obtain ⟨S27, e_S27, hf⟩ := zL_e hf
    refine rp_14 (pc := 19) C0 hu_12 hW mR_54 e_S27 dX12_place_19 (fun H locs hW => ?_)
    refine lv_aload_n (pc := 22) hx hb dX12_place_22 rfl (lv_at hl 0 rfl) ?_
    refine rg_3 (pc := 23) C0 hu_12 hW mR_48 dX12_place_23 ?_
    refine lv_istore_n (pc := 26) (lv' := [(1, .int (S27.1 3)), (0, .ref (h 0))]) hx hb dX12_place_26 rfl hl (by decide) rfl (fun ls hl => ?_)
    refine lv_aload_n (pc := 27) hx hb dX12_place_27 rfl (lv_at hl 1 rfl) ?_
    refine rg_4 (pc := 28) C0 hu_12 hW mR_7 dX12_place_28 ?_
    refine lv_iload_n (pc := 31) hx hb dX12_place_31 rfl (lv_at hl 0 rfl) ?_
    refine lv_iconst (pc := 32) (v := 0) hx hb dX12_place_32 (by decide) ?_
    obtain ⟨i28, hf⟩ := zn hf
    obtain ⟨S29, e_S29, hf⟩ := zL_e hf
    refine rs_4 (pc := 33) C0 hW i28 e_S29 dX12_place_33 (fun H locs hW => ?_)
    refine lv_aload_n (pc := 34) hx hb dX12_place_34 rfl (lv_at hl 1 rfl) ?_
    refine lv_iload_n (pc := 35) hx hb dX12_place_35 rfl (lv_at hl 0 rfl) ?_
    obtain ⟨S31, e32, hf⟩ := zU_e hf
    refine zcVv zTr_ok (As := [.int (S27.1 3)]) (pc := 36) C0 hW (kX12_readCell l D cA h H.size N (S27.1 3) S29 S31 e32) (cwV 1 hts (zgV gaR mR_73 mR_74 mR_75 mR_46 mR_62) rfl rfl rfl (by decide +kernel) ⟨Nat.le_of_ble_eq_true rfl, Nat.le_of_ble_eq_true rfl⟩) (va_recv hW.1 hW.2.1 (ci := 12) (q0 := 0) rfl rfl) rfl hl.1 rfl (Nat.le_of_ble_eq_true rfl) dX12_place_36 (fun H locs hW => ?_)
    exact w39 N (S27.1 3) S31 H locs hW ls (lv_sub hl [1, 0] rfl) hf
  · have hf := zt c25 hf
    refine lv_bipush (pc := 9) (v := (-3)) hx hb dX12_place_9 (by decide) ?_
    exact zend_i (w := wR cA h) fin hf hW dX12_place_11

def fX12_valueAt (p1 : Int32) (p2 : Int32) (S : zSt) : Option (Int32 × zSt) :=
  if p1 = 0 then (if zin p2 252 then some ((S.2.1 6 (Int32.toNatClampNeg p2)), S) else none) else (if p1 = 1 then (if zin p2 8 then some ((S.2.1 31 (Int32.toNatClampNeg p2)), S) else none) else (if zin p2 8 then some ((S.2.1 32 (Int32.toNatClampNeg p2)), S) else none))
abbrev wX12_valueAt : List Cond := Cond.code yX12_valueAt cX12_valueAt 3 (some .int) :: waR
abbrev rmX12_valueAt : Room := { frames := 0, cells := 0, slots := 0, locals := 0 }
set_option maxHeartbeats 4000000 in
set_option maxRecDepth 100000 in
theorem kX12_valueAt (l : Launch) (D : va_G) (cA : Nat → ClassId) (h : Nat → Nat) (sz : Nat)  (p1 : Int32) (p2 : Int32) (S : zSt) (r : Int32) (S1 : zSt) (hf : fX12_valueAt p1 p2 S = some (r, S1)) : zMi l yX12_valueAt wX12_valueAt rmX12_valueAt zTr D (tR cA) (hsR h) [.ref (h 0), .int p1, .int p2] (wR cA h S) (wR cA h S1) sz r := by
  refine zEn_i (cc := cX12_valueAt) (maxL := 3) (own := RX12) (by decide) rfl rfl (hmR cA h S) (Nat.le_of_ble_eq_true rfl) ?_
  intro p e s m args below meth c Q H locs C0 hW fin ls hl
  have hl : lv_has ls 3 [(0, .ref (h 0)), (1, .int p1), (2, .int p2)] := hl
  have hx := C0.1
  have hb := C0.2.1
  have hown := C0.2.2.2.1
  have hts := C0.2.2.2.2
  unfold fX12_valueAt at hf
  refine lv_iload_n (pc := 0) hx hb dX12_valueAt_0 rfl (lv_at hl 1 rfl) ?_
  refine lv_if_ne (pc := 1) (tgt := 13) hx hb dX12_valueAt_1 (by decide) (fun c1 => ?_) (fun c1 => ?_)
  · have hf := zf c1 hf
    refine lv_iload_n (pc := 13) hx hb dX12_valueAt_13 rfl (lv_at hl 1 rfl) ?_
    refine lv_iconst (pc := 14) (v := 1) hx hb dX12_valueAt_14 (by decide) ?_
    refine lv_icmp_ne (pc := 15) (tgt := 27) hx hb dX12_valueAt_15 (by decide) (fun c2 => ?_) (fun c2 => ?_)
    · have hf := zf c2 hf
      refine lv_aload_n (pc := 27) hx hb dX12_valueAt_27 rfl (lv_at hl 0 rfl) ?_
      refine rg_32 (pc := 28) C0 hu_12 hW mR_26 dX12_valueAt_28 ?_
      refine lv_iload_n (pc := 31) hx hb dX12_valueAt_31 rfl (lv_at hl 2 rfl) ?_
      obtain ⟨i3, hf⟩ := zn hf
      refine rl_32 (pc := 32) C0 hW i3 dX12_valueAt_32 ?_
      exact zend_i (w := wR cA h) fin hf hW dX12_valueAt_33
    · have hf := zt c2 hf
      refine lv_aload_n (pc := 18) hx hb dX12_valueAt_18 rfl (lv_at hl 0 rfl) ?_
      refine rg_31 (pc := 19) C0 hu_12 hW mR_25 dX12_valueAt_19 ?_
      refine lv_iload_n (pc := 22) hx hb dX12_valueAt_22 rfl (lv_at hl 2 rfl) ?_
      obtain ⟨i4, hf⟩ := zn hf
      refine rl_31 (pc := 23) C0 hW i4 dX12_valueAt_23 ?_
      refine lv_goto (pc := 24) (tgt := 33) hx hb dX12_valueAt_24 (by decide) ?_
      exact zend_i (w := wR cA h) fin hf hW dX12_valueAt_33
  · have hf := zt c1 hf
    refine lv_aload_n (pc := 4) hx hb dX12_valueAt_4 rfl (lv_at hl 0 rfl) ?_
    refine rg_6 (pc := 5) C0 hu_12 hW mR_9 dX12_valueAt_5 ?_
    refine lv_iload_n (pc := 8) hx hb dX12_valueAt_8 rfl (lv_at hl 2 rfl) ?_
    obtain ⟨i5, hf⟩ := zn hf
    refine rl_6 (pc := 9) C0 hW i5 dX12_valueAt_9 ?_
    refine lv_goto (pc := 10) (tgt := 33) hx hb dX12_valueAt_10 (by decide) ?_
    exact zend_i (w := wR cA h) fin hf hW dX12_valueAt_33

def fX12_lays (p1 : Int32) (p2 : Int32) (p3 : Int32) (S : zSt) : Option zSt :=
  if p1 = 0 then (if zin p2 252 then zL (zA S 6 (Int32.toNatClampNeg p2) p3) fun S8 => some S8 else none) else (if p1 = 1 then (if zin p2 8 then zL (zA S 31 (Int32.toNatClampNeg p2) p3) fun S6 => some S6 else none) else (if zin p2 8 then zL (zA S 32 (Int32.toNatClampNeg p2) p3) fun S4 => some S4 else none))
abbrev wX12_lays : List Cond := Cond.code yX12_lays cX12_lays 4 none :: waR
abbrev rmX12_lays : Room := { frames := 0, cells := 0, slots := 0, locals := 0 }
set_option maxHeartbeats 4000000 in
set_option maxRecDepth 100000 in
theorem kX12_lays (l : Launch) (D : va_G) (cA : Nat → ClassId) (h : Nat → Nat) (sz : Nat)  (p1 : Int32) (p2 : Int32) (p3 : Int32) (S : zSt) (S1 : zSt) (hf : fX12_lays p1 p2 p3 S = some S1) : zMv l yX12_lays wX12_lays rmX12_lays zTr D (tR cA) (hsR h) [.ref (h 0), .int p1, .int p2, .int p3] (wR cA h S) (wR cA h S1) sz := by
  refine zEn_v (cc := cX12_lays) (maxL := 4) (own := RX12) (by decide) rfl rfl (hmR cA h S) (Nat.le_of_ble_eq_true rfl) ?_
  intro p e s m args below meth c Q H locs C0 hW fin ls hl
  have hl : lv_has ls 4 [(0, .ref (h 0)), (1, .int p1), (2, .int p2), (3, .int p3)] := hl
  have hx := C0.1
  have hb := C0.2.1
  have hown := C0.2.2.2.1
  have hts := C0.2.2.2.2
  unfold fX12_lays at hf
  refine lv_iload_n (pc := 0) hx hb dX12_lays_0 rfl (lv_at hl 1 rfl) ?_
  refine lv_if_ne (pc := 1) (tgt := 14) hx hb dX12_lays_1 (by decide) (fun c1 => ?_) (fun c1 => ?_)
  · have hf := zf c1 hf
    refine lv_iload_n (pc := 14) hx hb dX12_lays_14 rfl (lv_at hl 1 rfl) ?_
    refine lv_iconst (pc := 15) (v := 1) hx hb dX12_lays_15 (by decide) ?_
    refine lv_icmp_ne (pc := 16) (tgt := 29) hx hb dX12_lays_16 (by decide) (fun c2 => ?_) (fun c2 => ?_)
    · have hf := zf c2 hf
      refine lv_aload_n (pc := 29) hx hb dX12_lays_29 rfl (lv_at hl 0 rfl) ?_
      refine rg_32 (pc := 30) C0 hu_12 hW mR_26 dX12_lays_30 ?_
      refine lv_iload_n (pc := 33) hx hb dX12_lays_33 rfl (lv_at hl 2 rfl) ?_
      refine lv_iload_n (pc := 34) hx hb dX12_lays_34 rfl (lv_at hl 3 rfl) ?_
      obtain ⟨i3, hf⟩ := zn hf
      obtain ⟨S4, e_S4, hf⟩ := zL_e hf
      refine rs_32 (pc := 35) C0 hW i3 e_S4 dX12_lays_35 (fun H locs hW => ?_)
      exact zend_v (w := wR cA h) fin hf hW dX12_lays_36
    · have hf := zt c2 hf
      refine lv_aload_n (pc := 19) hx hb dX12_lays_19 rfl (lv_at hl 0 rfl) ?_
      refine rg_31 (pc := 20) C0 hu_12 hW mR_25 dX12_lays_20 ?_
      refine lv_iload_n (pc := 23) hx hb dX12_lays_23 rfl (lv_at hl 2 rfl) ?_
      refine lv_iload_n (pc := 24) hx hb dX12_lays_24 rfl (lv_at hl 3 rfl) ?_
      obtain ⟨i5, hf⟩ := zn hf
      obtain ⟨S6, e_S6, hf⟩ := zL_e hf
      refine rs_31 (pc := 25) C0 hW i5 e_S6 dX12_lays_25 (fun H locs hW => ?_)
      refine lv_goto (pc := 26) (tgt := 36) hx hb dX12_lays_26 (by decide) ?_
      exact zend_v (w := wR cA h) fin hf hW dX12_lays_36
  · have hf := zt c1 hf
    refine lv_aload_n (pc := 4) hx hb dX12_lays_4 rfl (lv_at hl 0 rfl) ?_
    refine rg_6 (pc := 5) C0 hu_12 hW mR_9 dX12_lays_5 ?_
    refine lv_iload_n (pc := 8) hx hb dX12_lays_8 rfl (lv_at hl 2 rfl) ?_
    refine lv_iload_n (pc := 9) hx hb dX12_lays_9 rfl (lv_at hl 3 rfl) ?_
    obtain ⟨i7, hf⟩ := zn hf
    obtain ⟨S8, e_S8, hf⟩ := zL_e hf
    refine rs_6 (pc := 10) C0 hW i7 e_S8 dX12_lays_10 (fun H locs hW => ?_)
    refine lv_goto (pc := 11) (tgt := 36) hx hb dX12_lays_11 (by decide) ?_
    exact zend_v (w := wR cA h) fin hf hW dX12_lays_36

def fX12_changes_b121 (N : Nat) (v1 : Int32) (v2 : Int32) (v3 : Int32) (v4 : Int32) (S : zSt) : Option (Int32 × zSt) :=
  if zin (S.1 7) 40 then zL (zA S 9 (Int32.toNatClampNeg (S.1 7)) v1) fun S2 => if zin (S2.1 7) 40 then zL (zA S2 10 (Int32.toNatClampNeg (S2.1 7)) v2) fun S4 => if zin (S4.1 7) 40 then zL (zA S4 11 (Int32.toNatClampNeg (S4.1 7)) v4) fun S6 => if zin (S6.1 7) 40 then zL (zA S6 12 (Int32.toNatClampNeg (S6.1 7)) v3) fun S8 => zL (zI S8 7 ((S8.1 7) + 1)) fun S9 => zU (fX12_lays v1 v2 v3 S9) fun S11 => some (v4, S11) else none else none else none else none
def fX12_changes_b34 (N : Nat) : Nat → Int32 → Int32 → Int32 → Int32 → Int32 → zSt → Option (Int32 × zSt)
  | 0, _, _, _, _, _, _ => none
  | n + 1, v1, v2, v3, v4, v5, S =>
    if 40 ≤ v5 then (zL (zI S 7 ((S.1 7) - 1)) fun S14 => fX12_changes_b121 N v1 v2 v3 v4 S14) else (if zin v5 40 then if zin (v5 - 1) 40 then zL (zA S 9 (Int32.toNatClampNeg (v5 - 1)) (S.2.1 9 (Int32.toNatClampNeg v5))) fun S17 => if zin v5 40 then if zin (v5 - 1) 40 then zL (zA S17 10 (Int32.toNatClampNeg (v5 - 1)) (S17.2.1 10 (Int32.toNatClampNeg v5))) fun S20 => if zin v5 40 then if zin (v5 - 1) 40 then zL (zA S20 11 (Int32.toNatClampNeg (v5 - 1)) (S20.2.1 11 (Int32.toNatClampNeg v5))) fun S23 => if zin v5 40 then if zin (v5 - 1) 40 then zL (zA S23 12 (Int32.toNatClampNeg (v5 - 1)) (S23.2.1 12 (Int32.toNatClampNeg v5))) fun S26 => fX12_changes_b34 N n v1 v2 v3 v4 (v5 + 1) S26 else none else none else none else none else none else none else none else none)
def fX12_changes (N : Nat) (p1 : Int32) (p2 : Int32) (p3 : Int32) (S : zSt) : Option (Int32 × zSt) :=
  zB (fX12_valueAt p1 p2 S) fun r27 S28 => if r27 = p3 then (some (r27, S28)) else (zL (zI S28 8 0) fun S31 => if (S31.1 7) = 40 then (fX12_changes_b34 N N p1 p2 p3 r27 1 S31) else (fX12_changes_b121 N p1 p2 p3 r27 S31))
abbrev wX12_changes : List Cond := Cond.code yX12_changes cX12_changes 6 (some .int) :: waR
abbrev rmX12_changes : Room := { frames := 1, cells := 0, slots := 0, locals := 23 }
set_option maxHeartbeats 4000000 in
set_option maxRecDepth 100000 in
theorem kX12_changes (l : Launch) (D : va_G) (cA : Nat → ClassId) (h : Nat → Nat) (sz : Nat) (N : Nat)  (p1 : Int32) (p2 : Int32) (p3 : Int32) (S : zSt) (r : Int32) (S1 : zSt) (hf : fX12_changes N p1 p2 p3 S = some (r, S1)) : zMi l yX12_changes wX12_changes rmX12_changes zTr D (tR cA) (hsR h) [.ref (h 0), .int p1, .int p2, .int p3] (wR cA h S) (wR cA h S1) sz r := by
  refine zEn_i (cc := cX12_changes) (maxL := 6) (own := RX12) (by decide) rfl rfl (hmR cA h S) (Nat.le_of_ble_eq_true rfl) ?_
  intro p e s m args below meth c Q H locs C0 hW fin ls hl
  have hl : lv_has ls 6 [(0, .ref (h 0)), (1, .int p1), (2, .int p2), (3, .int p3)] := hl
  have hx := C0.1
  have hb := C0.2.1
  have hown := C0.2.2.2.1
  have hts := C0.2.2.2.2
  have w121 : ∀ (v1 : Int32) (v2 : Int32) (v3 : Int32) (v4 : Int32) (S : zSt) (H : Heap) (locs : List Loc), zW zTr D (tR cA) (wR cA h S) (aW (hsR h) s.heap.size) s H locs → ∀ ls : Array Slot, lv_has ls 6 [(0, .ref (h 0)), (1, .int v1), (2, .int v2), (3, .int v3), (4, .int v4)] → fX12_changes_b121 N v1 v2 v3 v4 S = some (r, S1) → W p l e rmX12_changes s m args below meth c H locs 0 0 Q (F0 m 121 ls []) := by
    intro v1 v2 v3 v4 S H locs hW ls hl hf
    unfold fX12_changes_b121 at hf
    refine lv_aload_n (pc := 121) hx hb dX12_changes_121 rfl (lv_at hl 0 rfl) ?_
    refine rg_9 (pc := 122) C0 hu_12 hW mR_10 dX12_changes_122 ?_
    refine lv_aload_n (pc := 125) hx hb dX12_changes_125 rfl (lv_at hl 0 rfl) ?_
    refine rg_7 (pc := 126) C0 hu_12 hW mR_80 dX12_changes_126 ?_
    refine lv_iload_n (pc := 129) hx hb dX12_changes_129 rfl (lv_at hl 1 rfl) ?_
    obtain ⟨i1, hf⟩ := zn hf
    obtain ⟨S2, e_S2, hf⟩ := zL_e hf
    refine rs_9 (pc := 130) C0 hW i1 e_S2 dX12_changes_130 (fun H locs hW => ?_)
    refine lv_aload_n (pc := 131) hx hb dX12_changes_131 rfl (lv_at hl 0 rfl) ?_
    refine rg_10 (pc := 132) C0 hu_12 hW mR_11 dX12_changes_132 ?_
    refine lv_aload_n (pc := 135) hx hb dX12_changes_135 rfl (lv_at hl 0 rfl) ?_
    refine rg_7 (pc := 136) C0 hu_12 hW mR_80 dX12_changes_136 ?_
    refine lv_iload_n (pc := 139) hx hb dX12_changes_139 rfl (lv_at hl 2 rfl) ?_
    obtain ⟨i3, hf⟩ := zn hf
    obtain ⟨S4, e_S4, hf⟩ := zL_e hf
    refine rs_10 (pc := 140) C0 hW i3 e_S4 dX12_changes_140 (fun H locs hW => ?_)
    refine lv_aload_n (pc := 141) hx hb dX12_changes_141 rfl (lv_at hl 0 rfl) ?_
    refine rg_11 (pc := 142) C0 hu_12 hW mR_12 dX12_changes_142 ?_
    refine lv_aload_n (pc := 145) hx hb dX12_changes_145 rfl (lv_at hl 0 rfl) ?_
    refine rg_7 (pc := 146) C0 hu_12 hW mR_80 dX12_changes_146 ?_
    refine lv_iload (pc := 149) hx hb dX12_changes_149 (lv_at hl 4 rfl) ?_
    obtain ⟨i5, hf⟩ := zn hf
    obtain ⟨S6, e_S6, hf⟩ := zL_e hf
    refine rs_11 (pc := 151) C0 hW i5 e_S6 dX12_changes_151 (fun H locs hW => ?_)
    refine lv_aload_n (pc := 152) hx hb dX12_changes_152 rfl (lv_at hl 0 rfl) ?_
    refine rg_12 (pc := 153) C0 hu_12 hW mR_13 dX12_changes_153 ?_
    refine lv_aload_n (pc := 156) hx hb dX12_changes_156 rfl (lv_at hl 0 rfl) ?_
    refine rg_7 (pc := 157) C0 hu_12 hW mR_80 dX12_changes_157 ?_
    refine lv_iload_n (pc := 160) hx hb dX12_changes_160 rfl (lv_at hl 3 rfl) ?_
    obtain ⟨i7, hf⟩ := zn hf
    obtain ⟨S8, e_S8, hf⟩ := zL_e hf
    refine rs_12 (pc := 161) C0 hW i7 e_S8 dX12_changes_161 (fun H locs hW => ?_)
    refine lv_aload_n (pc := 162) hx hb dX12_changes_162 rfl (lv_at hl 0 rfl) ?_
    refine lv_dup (pc := 163) hx hb dX12_changes_163 rfl ?_
    refine rg_7 (pc := 164) C0 hu_12 hW mR_80 dX12_changes_164 ?_
    refine lv_iconst (pc := 167) (v := 1) hx hb dX12_changes_167 (by decide) ?_
    refine lv_iadd (pc := 168) hx hb dX12_changes_168 ?_
    obtain ⟨S9, e_S9, hf⟩ := zL_e hf
    refine rp_7 (pc := 169) C0 hu_12 hW mR_80 e_S9 dX12_changes_169 (fun H locs hW => ?_)
    refine lv_aload_n (pc := 172) hx hb dX12_changes_172 rfl (lv_at hl 0 rfl) ?_
    refine lv_iload_n (pc := 173) hx hb dX12_changes_173 rfl (lv_at hl 1 rfl) ?_
    refine lv_iload_n (pc := 174) hx hb dX12_changes_174 rfl (lv_at hl 2 rfl) ?_
    refine lv_iload_n (pc := 175) hx hb dX12_changes_175 rfl (lv_at hl 3 rfl) ?_
    obtain ⟨S11, e12, hf⟩ := zU_e hf
    refine zcVv zTr_ok (As := [.int v1, .int v2, .int v3]) (pc := 176) C0 hW (kX12_lays l D cA h H.size v1 v2 v3 S9 S11 e12) (cwV 3 hts (zgV gaR mR_84 mR_85 mR_86 mR_46 mR_77) rfl rfl rfl (by decide +kernel) ⟨Nat.le_of_ble_eq_true rfl, Nat.le_of_ble_eq_true rfl⟩) (va_recv hW.1 hW.2.1 (ci := 12) (q0 := 0) rfl rfl) rfl hl.1 rfl (Nat.le_of_ble_eq_true rfl) dX12_changes_176 (fun H locs hW => ?_)
    refine lv_iload (pc := 179) hx hb dX12_changes_179 (lv_at hl 4 rfl) ?_
    exact zend_i (w := wR cA h) fin hf hW dX12_changes_181
  have w34 : ∀ (n : Nat), ∀ (v1 : Int32) (v2 : Int32) (v3 : Int32) (v4 : Int32) (v5 : Int32) (S : zSt) (H : Heap) (locs : List Loc), zW zTr D (tR cA) (wR cA h S) (aW (hsR h) s.heap.size) s H locs → ∀ ls : Array Slot, lv_has ls 6 [(0, .ref (h 0)), (1, .int v1), (2, .int v2), (3, .int v3), (4, .int v4), (5, .int v5)] → fX12_changes_b34 N n v1 v2 v3 v4 v5 S = some (r, S1) → W p l e rmX12_changes s m args below meth c H locs 0 0 Q (F0 m 34 ls []) := by
    intro n
    induction n with
    | zero =>
      intro v1 v2 v3 v4 v5 S H locs hW ls hl hf
      exact absurd hf (by intro h; cases h)
    | succ n ih =>
      intro v1 v2 v3 v4 v5 S H locs hW ls hl hf
      rw [fX12_changes_b34] at hf
      refine lv_iload (pc := 34) hx hb dX12_changes_34 (lv_at hl 5 rfl) ?_
      refine lv_bipush (pc := 36) (v := 40) hx hb dX12_changes_36 (by decide) ?_
      refine lv_icmp_ge (pc := 38) (tgt := 111) hx hb dX12_changes_38 (by decide) (fun c13 => ?_) (fun c13 => ?_)
      · have hf := zt c13 hf
        refine lv_aload_n (pc := 111) hx hb dX12_changes_111 rfl (lv_at hl 0 rfl) ?_
        refine lv_dup (pc := 112) hx hb dX12_changes_112 rfl ?_
        refine rg_7 (pc := 113) C0 hu_12 hW mR_80 dX12_changes_113 ?_
        refine lv_iconst (pc := 116) (v := 1) hx hb dX12_changes_116 (by decide) ?_
        refine lv_isub (pc := 117) hx hb dX12_changes_117 ?_
        obtain ⟨S14, e_S14, hf⟩ := zL_e hf
        refine rp_7 (pc := 118) C0 hu_12 hW mR_80 e_S14 dX12_changes_118 (fun H locs hW => ?_)
        exact w121 v1 v2 v3 v4 S14 H locs hW ls (lv_sub hl [0, 1, 2, 3, 4] rfl) hf
      · have hf := zf c13 hf
        refine lv_aload_n (pc := 41) hx hb dX12_changes_41 rfl (lv_at hl 0 rfl) ?_
        refine rg_9 (pc := 42) C0 hu_12 hW mR_10 dX12_changes_42 ?_
        refine lv_iload (pc := 45) hx hb dX12_changes_45 (lv_at hl 5 rfl) ?_
        refine lv_iconst (pc := 47) (v := 1) hx hb dX12_changes_47 (by decide) ?_
        refine lv_isub (pc := 48) hx hb dX12_changes_48 ?_
        refine lv_aload_n (pc := 49) hx hb dX12_changes_49 rfl (lv_at hl 0 rfl) ?_
        refine rg_9 (pc := 50) C0 hu_12 hW mR_10 dX12_changes_50 ?_
        refine lv_iload (pc := 53) hx hb dX12_changes_53 (lv_at hl 5 rfl) ?_
        obtain ⟨i15, hf⟩ := zn hf
        refine rl_9 (pc := 55) C0 hW i15 dX12_changes_55 ?_
        obtain ⟨i16, hf⟩ := zn hf
        obtain ⟨S17, e_S17, hf⟩ := zL_e hf
        refine rs_9 (pc := 56) C0 hW i16 e_S17 dX12_changes_56 (fun H locs hW => ?_)
        refine lv_aload_n (pc := 57) hx hb dX12_changes_57 rfl (lv_at hl 0 rfl) ?_
        refine rg_10 (pc := 58) C0 hu_12 hW mR_11 dX12_changes_58 ?_
        refine lv_iload (pc := 61) hx hb dX12_changes_61 (lv_at hl 5 rfl) ?_
        refine lv_iconst (pc := 63) (v := 1) hx hb dX12_changes_63 (by decide) ?_
        refine lv_isub (pc := 64) hx hb dX12_changes_64 ?_
        refine lv_aload_n (pc := 65) hx hb dX12_changes_65 rfl (lv_at hl 0 rfl) ?_
        refine rg_10 (pc := 66) C0 hu_12 hW mR_11 dX12_changes_66 ?_
        refine lv_iload (pc := 69) hx hb dX12_changes_69 (lv_at hl 5 rfl) ?_
        obtain ⟨i18, hf⟩ := zn hf
        refine rl_10 (pc := 71) C0 hW i18 dX12_changes_71 ?_
        obtain ⟨i19, hf⟩ := zn hf
        obtain ⟨S20, e_S20, hf⟩ := zL_e hf
        refine rs_10 (pc := 72) C0 hW i19 e_S20 dX12_changes_72 (fun H locs hW => ?_)
        refine lv_aload_n (pc := 73) hx hb dX12_changes_73 rfl (lv_at hl 0 rfl) ?_
        refine rg_11 (pc := 74) C0 hu_12 hW mR_12 dX12_changes_74 ?_
        refine lv_iload (pc := 77) hx hb dX12_changes_77 (lv_at hl 5 rfl) ?_
        refine lv_iconst (pc := 79) (v := 1) hx hb dX12_changes_79 (by decide) ?_
        refine lv_isub (pc := 80) hx hb dX12_changes_80 ?_
        refine lv_aload_n (pc := 81) hx hb dX12_changes_81 rfl (lv_at hl 0 rfl) ?_
        refine rg_11 (pc := 82) C0 hu_12 hW mR_12 dX12_changes_82 ?_
        refine lv_iload (pc := 85) hx hb dX12_changes_85 (lv_at hl 5 rfl) ?_
        obtain ⟨i21, hf⟩ := zn hf
        refine rl_11 (pc := 87) C0 hW i21 dX12_changes_87 ?_
        obtain ⟨i22, hf⟩ := zn hf
        obtain ⟨S23, e_S23, hf⟩ := zL_e hf
        refine rs_11 (pc := 88) C0 hW i22 e_S23 dX12_changes_88 (fun H locs hW => ?_)
        refine lv_aload_n (pc := 89) hx hb dX12_changes_89 rfl (lv_at hl 0 rfl) ?_
        refine rg_12 (pc := 90) C0 hu_12 hW mR_13 dX12_changes_90 ?_
        refine lv_iload (pc := 93) hx hb dX12_changes_93 (lv_at hl 5 rfl) ?_
        refine lv_iconst (pc := 95) (v := 1) hx hb dX12_changes_95 (by decide) ?_
        refine lv_isub (pc := 96) hx hb dX12_changes_96 ?_
        refine lv_aload_n (pc := 97) hx hb dX12_changes_97 rfl (lv_at hl 0 rfl) ?_
        refine rg_12 (pc := 98) C0 hu_12 hW mR_13 dX12_changes_98 ?_
        refine lv_iload (pc := 101) hx hb dX12_changes_101 (lv_at hl 5 rfl) ?_
        obtain ⟨i24, hf⟩ := zn hf
        refine rl_12 (pc := 103) C0 hW i24 dX12_changes_103 ?_
        obtain ⟨i25, hf⟩ := zn hf
        obtain ⟨S26, e_S26, hf⟩ := zL_e hf
        refine rs_12 (pc := 104) C0 hW i25 e_S26 dX12_changes_104 (fun H locs hW => ?_)
        refine lv_iinc (pc := 105) (v := (v5 + 1)) (lv' := [(5, .int (v5 + 1)), (0, .ref (h 0)), (1, .int v1), (2, .int v2), (3, .int v3), (4, .int v4)]) hx hb dX12_changes_105 hl (k := 5) rfl (by rfl) (by decide) rfl (fun ls hl => ?_)
        refine lv_goto (pc := 108) (tgt := 34) hx hb dX12_changes_108 (by decide) ?_
        exact ih v1 v2 v3 v4 (v5 + 1) S26 H locs hW ls (lv_sub hl [1, 2, 3, 4, 5, 0] rfl) hf
  unfold fX12_changes at hf
  refine lv_aload_n (pc := 0) hx hb dX12_changes_0 rfl (lv_at hl 0 rfl) ?_
  refine lv_iload_n (pc := 1) hx hb dX12_changes_1 rfl (lv_at hl 1 rfl) ?_
  refine lv_iload_n (pc := 2) hx hb dX12_changes_2 rfl (lv_at hl 2 rfl) ?_
  obtain ⟨r27, S28, e29, hf⟩ := zB_e hf
  refine zcVi zTr_ok (As := [.int p1, .int p2]) (pc := 3) C0 hW (kX12_valueAt l D cA h H.size p1 p2 S r27 S28 e29) (cwV 2 hts (zgV gaR mR_81 mR_82 mR_83 mR_46 mR_76) rfl rfl rfl (by decide +kernel) ⟨Nat.le_of_ble_eq_true rfl, Nat.le_of_ble_eq_true rfl⟩) (va_recv hW.1 hW.2.1 (ci := 12) (q0 := 0) rfl rfl) rfl hl.1 rfl (Nat.le_of_ble_eq_true rfl) dX12_changes_3 (fun H locs hW => ?_)
  refine lv_istore (pc := 6) (lv' := [(4, .int r27), (0, .ref (h 0)), (1, .int p1), (2, .int p2), (3, .int p3)]) hx hb dX12_changes_6 hl (by decide) rfl (fun ls hl => ?_)
  refine lv_iload (pc := 8) hx hb dX12_changes_8 (lv_at hl 0 rfl) ?_
  refine lv_iload_n (pc := 10) hx hb dX12_changes_10 rfl (lv_at hl 4 rfl) ?_
  refine lv_icmp_ne (pc := 11) (tgt := 17) hx hb dX12_changes_11 (by decide) (fun c30 => ?_) (fun c30 => ?_)
  · have hf := zf c30 hf
    refine lv_aload_n (pc := 17) hx hb dX12_changes_17 rfl (lv_at hl 1 rfl) ?_
    refine lv_iconst (pc := 18) (v := 0) hx hb dX12_changes_18 (by decide) ?_
    obtain ⟨S31, e_S31, hf⟩ := zL_e hf
    refine rp_8 (pc := 19) C0 hu_12 hW mR_79 e_S31 dX12_changes_19 (fun H locs hW => ?_)
    refine lv_aload_n (pc := 22) hx hb dX12_changes_22 rfl (lv_at hl 1 rfl) ?_
    refine rg_7 (pc := 23) C0 hu_12 hW mR_80 dX12_changes_23 ?_
    refine lv_bipush (pc := 26) (v := 40) hx hb dX12_changes_26 (by decide) ?_
    refine lv_icmp_ne (pc := 28) (tgt := 121) hx hb dX12_changes_28 (by decide) (fun c32 => ?_) (fun c32 => ?_)
    · have hf := zf c32 hf
      exact w121 p1 p2 p3 r27 S31 H locs hW ls (lv_sub hl [1, 2, 3, 4, 0] rfl) hf
    · have hf := zt c32 hf
      refine lv_iconst (pc := 31) (v := 1) hx hb dX12_changes_31 (by decide) ?_
      refine lv_istore (pc := 32) (lv' := [(5, .int 1), (4, .int r27), (0, .ref (h 0)), (1, .int p1), (2, .int p2), (3, .int p3)]) hx hb dX12_changes_32 hl (by decide) rfl (fun ls hl => ?_)
      exact w34 N p1 p2 p3 r27 1 S31 H locs hW ls (lv_sub hl [2, 3, 4, 5, 1, 0] rfl) hf
  · have hf := zt c30 hf
    refine lv_iload (pc := 14) hx hb dX12_changes_14 (lv_at hl 0 rfl) ?_
    exact zend_i (w := wR cA h) fin hf hW dX12_changes_16

def fX12_undo (S : zSt) : Option (Int32 × zSt) :=
  if (S.1 7) = 0 then (some ((-5), S)) else (zL (zI S 7 ((S.1 7) - 1)) fun S2 => zL (zI S2 8 ((S2.1 8) + 1)) fun S3 => if zin (S3.1 7) 40 then if zin (S3.1 7) 40 then if zin (S3.1 7) 40 then zU (fX12_lays (S3.2.1 9 (Int32.toNatClampNeg (S3.1 7))) (S3.2.1 10 (Int32.toNatClampNeg (S3.1 7))) (S3.2.1 11 (Int32.toNatClampNeg (S3.1 7))) S3) fun S8 => some ((S8.1 7), S8) else none else none else none)
abbrev wX12_undo : List Cond := Cond.code yX12_undo cX12_undo 1 (some .int) :: waR
abbrev rmX12_undo : Room := { frames := 1, cells := 0, slots := 0, locals := 23 }
set_option maxHeartbeats 4000000 in
set_option maxRecDepth 100000 in
theorem kX12_undo (l : Launch) (D : va_G) (cA : Nat → ClassId) (h : Nat → Nat) (sz : Nat)   (S : zSt) (r : Int32) (S1 : zSt) (hf : fX12_undo S = some (r, S1)) : zMi l yX12_undo wX12_undo rmX12_undo zTr D (tR cA) (hsR h) [.ref (h 0)] (wR cA h S) (wR cA h S1) sz r := by
  refine zEn_i (cc := cX12_undo) (maxL := 1) (own := RX12) (by decide) rfl rfl (hmR cA h S) (Nat.le_of_ble_eq_true rfl) ?_
  intro p e s m args below meth c Q H locs C0 hW fin ls hl
  have hl : lv_has ls 1 [(0, .ref (h 0))] := hl
  have hx := C0.1
  have hb := C0.2.1
  have hown := C0.2.2.2.1
  have hts := C0.2.2.2.2
  unfold fX12_undo at hf
  refine lv_aload_n (pc := 0) hx hb dX12_undo_0 rfl (lv_at hl 0 rfl) ?_
  refine rg_7 (pc := 1) C0 hu_12 hW mR_80 dX12_undo_1 ?_
  refine lv_if_ne (pc := 4) (tgt := 10) hx hb dX12_undo_4 (by decide) (fun c1 => ?_) (fun c1 => ?_)
  · have hf := zf c1 hf
    refine lv_aload_n (pc := 10) hx hb dX12_undo_10 rfl (lv_at hl 0 rfl) ?_
    refine lv_dup (pc := 11) hx hb dX12_undo_11 rfl ?_
    refine rg_7 (pc := 12) C0 hu_12 hW mR_80 dX12_undo_12 ?_
    refine lv_iconst (pc := 15) (v := 1) hx hb dX12_undo_15 (by decide) ?_
    refine lv_isub (pc := 16) hx hb dX12_undo_16 ?_
    obtain ⟨S2, e_S2, hf⟩ := zL_e hf
    refine rp_7 (pc := 17) C0 hu_12 hW mR_80 e_S2 dX12_undo_17 (fun H locs hW => ?_)
    refine lv_aload_n (pc := 20) hx hb dX12_undo_20 rfl (lv_at hl 0 rfl) ?_
    refine lv_dup (pc := 21) hx hb dX12_undo_21 rfl ?_
    refine rg_8 (pc := 22) C0 hu_12 hW mR_79 dX12_undo_22 ?_
    refine lv_iconst (pc := 25) (v := 1) hx hb dX12_undo_25 (by decide) ?_
    refine lv_iadd (pc := 26) hx hb dX12_undo_26 ?_
    obtain ⟨S3, e_S3, hf⟩ := zL_e hf
    refine rp_8 (pc := 27) C0 hu_12 hW mR_79 e_S3 dX12_undo_27 (fun H locs hW => ?_)
    refine lv_aload_n (pc := 30) hx hb dX12_undo_30 rfl (lv_at hl 0 rfl) ?_
    refine lv_aload_n (pc := 31) hx hb dX12_undo_31 rfl (lv_at hl 0 rfl) ?_
    refine rg_9 (pc := 32) C0 hu_12 hW mR_10 dX12_undo_32 ?_
    refine lv_aload_n (pc := 35) hx hb dX12_undo_35 rfl (lv_at hl 0 rfl) ?_
    refine rg_7 (pc := 36) C0 hu_12 hW mR_80 dX12_undo_36 ?_
    obtain ⟨i4, hf⟩ := zn hf
    refine rl_9 (pc := 39) C0 hW i4 dX12_undo_39 ?_
    refine lv_aload_n (pc := 40) hx hb dX12_undo_40 rfl (lv_at hl 0 rfl) ?_
    refine rg_10 (pc := 41) C0 hu_12 hW mR_11 dX12_undo_41 ?_
    refine lv_aload_n (pc := 44) hx hb dX12_undo_44 rfl (lv_at hl 0 rfl) ?_
    refine rg_7 (pc := 45) C0 hu_12 hW mR_80 dX12_undo_45 ?_
    obtain ⟨i5, hf⟩ := zn hf
    refine rl_10 (pc := 48) C0 hW i5 dX12_undo_48 ?_
    refine lv_aload_n (pc := 49) hx hb dX12_undo_49 rfl (lv_at hl 0 rfl) ?_
    refine rg_11 (pc := 50) C0 hu_12 hW mR_12 dX12_undo_50 ?_
    refine lv_aload_n (pc := 53) hx hb dX12_undo_53 rfl (lv_at hl 0 rfl) ?_
    refine rg_7 (pc := 54) C0 hu_12 hW mR_80 dX12_undo_54 ?_
    obtain ⟨i6, hf⟩ := zn hf
    refine rl_11 (pc := 57) C0 hW i6 dX12_undo_57 ?_
    obtain ⟨S8, e9, hf⟩ := zU_e hf
    refine zcVv zTr_ok (As := [.int (S3.2.1 9 (Int32.toNatClampNeg (S3.1 7))), .int (S3.2.1 10 (Int32.toNatClampNeg (S3.1 7))), .int (S3.2.1 11 (Int32.toNatClampNeg (S3.1 7)))]) (pc := 58) C0 hW (kX12_lays l D cA h H.size (S3.2.1 9 (Int32.toNatClampNeg (S3.1 7))) (S3.2.1 10 (Int32.toNatClampNeg (S3.1 7))) (S3.2.1 11 (Int32.toNatClampNeg (S3.1 7))) S3 S8 e9) (cwV 3 hts (zgV gaR mR_84 mR_85 mR_86 mR_46 mR_77) rfl rfl rfl (by decide +kernel) ⟨Nat.le_of_ble_eq_true rfl, Nat.le_of_ble_eq_true rfl⟩) (va_recv hW.1 hW.2.1 (ci := 12) (q0 := 0) rfl rfl) rfl hl.1 rfl (Nat.le_of_ble_eq_true rfl) dX12_undo_58 (fun H locs hW => ?_)
    refine lv_aload_n (pc := 61) hx hb dX12_undo_61 rfl (lv_at hl 0 rfl) ?_
    refine rg_7 (pc := 62) C0 hu_12 hW mR_80 dX12_undo_62 ?_
    exact zend_i (w := wR cA h) fin hf hW dX12_undo_65
  · have hf := zt c1 hf
    refine lv_bipush (pc := 7) (v := (-5)) hx hb dX12_undo_7 (by decide) ?_
    exact zend_i (w := wR cA h) fin hf hW dX12_undo_9

def fX12_redo (S : zSt) : Option (Int32 × zSt) :=
  if (S.1 8) = 0 then (some ((-5), S)) else (if zin (S.1 7) 40 then if zin (S.1 7) 40 then if zin (S.1 7) 40 then zU (fX12_lays (S.2.1 9 (Int32.toNatClampNeg (S.1 7))) (S.2.1 10 (Int32.toNatClampNeg (S.1 7))) (S.2.1 12 (Int32.toNatClampNeg (S.1 7))) S) fun S6 => zL (zI S6 7 ((S6.1 7) + 1)) fun S8 => zL (zI S8 8 ((S8.1 8) - 1)) fun S9 => some ((S9.1 8), S9) else none else none else none)
abbrev wX12_redo : List Cond := Cond.code yX12_redo cX12_redo 1 (some .int) :: waR
abbrev rmX12_redo : Room := { frames := 1, cells := 0, slots := 0, locals := 23 }
set_option maxHeartbeats 4000000 in
set_option maxRecDepth 100000 in
theorem kX12_redo (l : Launch) (D : va_G) (cA : Nat → ClassId) (h : Nat → Nat) (sz : Nat)   (S : zSt) (r : Int32) (S1 : zSt) (hf : fX12_redo S = some (r, S1)) : zMi l yX12_redo wX12_redo rmX12_redo zTr D (tR cA) (hsR h) [.ref (h 0)] (wR cA h S) (wR cA h S1) sz r := by
  refine zEn_i (cc := cX12_redo) (maxL := 1) (own := RX12) (by decide) rfl rfl (hmR cA h S) (Nat.le_of_ble_eq_true rfl) ?_
  intro p e s m args below meth c Q H locs C0 hW fin ls hl
  have hl : lv_has ls 1 [(0, .ref (h 0))] := hl
  have hx := C0.1
  have hb := C0.2.1
  have hown := C0.2.2.2.1
  have hts := C0.2.2.2.2
  unfold fX12_redo at hf
  refine lv_aload_n (pc := 0) hx hb dX12_redo_0 rfl (lv_at hl 0 rfl) ?_
  refine rg_8 (pc := 1) C0 hu_12 hW mR_79 dX12_redo_1 ?_
  refine lv_if_ne (pc := 4) (tgt := 10) hx hb dX12_redo_4 (by decide) (fun c1 => ?_) (fun c1 => ?_)
  · have hf := zf c1 hf
    refine lv_aload_n (pc := 10) hx hb dX12_redo_10 rfl (lv_at hl 0 rfl) ?_
    refine lv_aload_n (pc := 11) hx hb dX12_redo_11 rfl (lv_at hl 0 rfl) ?_
    refine rg_9 (pc := 12) C0 hu_12 hW mR_10 dX12_redo_12 ?_
    refine lv_aload_n (pc := 15) hx hb dX12_redo_15 rfl (lv_at hl 0 rfl) ?_
    refine rg_7 (pc := 16) C0 hu_12 hW mR_80 dX12_redo_16 ?_
    obtain ⟨i2, hf⟩ := zn hf
    refine rl_9 (pc := 19) C0 hW i2 dX12_redo_19 ?_
    refine lv_aload_n (pc := 20) hx hb dX12_redo_20 rfl (lv_at hl 0 rfl) ?_
    refine rg_10 (pc := 21) C0 hu_12 hW mR_11 dX12_redo_21 ?_
    refine lv_aload_n (pc := 24) hx hb dX12_redo_24 rfl (lv_at hl 0 rfl) ?_
    refine rg_7 (pc := 25) C0 hu_12 hW mR_80 dX12_redo_25 ?_
    obtain ⟨i3, hf⟩ := zn hf
    refine rl_10 (pc := 28) C0 hW i3 dX12_redo_28 ?_
    refine lv_aload_n (pc := 29) hx hb dX12_redo_29 rfl (lv_at hl 0 rfl) ?_
    refine rg_12 (pc := 30) C0 hu_12 hW mR_13 dX12_redo_30 ?_
    refine lv_aload_n (pc := 33) hx hb dX12_redo_33 rfl (lv_at hl 0 rfl) ?_
    refine rg_7 (pc := 34) C0 hu_12 hW mR_80 dX12_redo_34 ?_
    obtain ⟨i4, hf⟩ := zn hf
    refine rl_12 (pc := 37) C0 hW i4 dX12_redo_37 ?_
    obtain ⟨S6, e7, hf⟩ := zU_e hf
    refine zcVv zTr_ok (As := [.int (S.2.1 9 (Int32.toNatClampNeg (S.1 7))), .int (S.2.1 10 (Int32.toNatClampNeg (S.1 7))), .int (S.2.1 12 (Int32.toNatClampNeg (S.1 7)))]) (pc := 38) C0 hW (kX12_lays l D cA h H.size (S.2.1 9 (Int32.toNatClampNeg (S.1 7))) (S.2.1 10 (Int32.toNatClampNeg (S.1 7))) (S.2.1 12 (Int32.toNatClampNeg (S.1 7))) S S6 e7) (cwV 3 hts (zgV gaR mR_84 mR_85 mR_86 mR_46 mR_77) rfl rfl rfl (by decide +kernel) ⟨Nat.le_of_ble_eq_true rfl, Nat.le_of_ble_eq_true rfl⟩) (va_recv hW.1 hW.2.1 (ci := 12) (q0 := 0) rfl rfl) rfl hl.1 rfl (Nat.le_of_ble_eq_true rfl) dX12_redo_38 (fun H locs hW => ?_)
    refine lv_aload_n (pc := 41) hx hb dX12_redo_41 rfl (lv_at hl 0 rfl) ?_
    refine lv_dup (pc := 42) hx hb dX12_redo_42 rfl ?_
    refine rg_7 (pc := 43) C0 hu_12 hW mR_80 dX12_redo_43 ?_
    refine lv_iconst (pc := 46) (v := 1) hx hb dX12_redo_46 (by decide) ?_
    refine lv_iadd (pc := 47) hx hb dX12_redo_47 ?_
    obtain ⟨S8, e_S8, hf⟩ := zL_e hf
    refine rp_7 (pc := 48) C0 hu_12 hW mR_80 e_S8 dX12_redo_48 (fun H locs hW => ?_)
    refine lv_aload_n (pc := 51) hx hb dX12_redo_51 rfl (lv_at hl 0 rfl) ?_
    refine lv_dup (pc := 52) hx hb dX12_redo_52 rfl ?_
    refine rg_8 (pc := 53) C0 hu_12 hW mR_79 dX12_redo_53 ?_
    refine lv_iconst (pc := 56) (v := 1) hx hb dX12_redo_56 (by decide) ?_
    refine lv_isub (pc := 57) hx hb dX12_redo_57 ?_
    obtain ⟨S9, e_S9, hf⟩ := zL_e hf
    refine rp_8 (pc := 58) C0 hu_12 hW mR_79 e_S9 dX12_redo_58 (fun H locs hW => ?_)
    refine lv_aload_n (pc := 61) hx hb dX12_redo_61 rfl (lv_at hl 0 rfl) ?_
    refine rg_8 (pc := 62) C0 hu_12 hW mR_79 dX12_redo_62 ?_
    exact zend_i (w := wR cA h) fin hf hW dX12_redo_65
  · have hf := zt c1 hf
    refine lv_bipush (pc := 7) (v := (-5)) hx hb dX12_redo_7 (by decide) ?_
    exact zend_i (w := wR cA h) fin hf hW dX12_redo_9

def fX12_mend_b33 (N : Nat) (v1 : Int32) (v2 : Int32) (v3 : Int32) (v4 : Int32) (u0 : Int32) (u1 : Int32) (u2 : Int32) (S : zSt) : Option (Int32 × zSt) :=
  zU (fX12_in u0 u1 u2) fun r1 => if r1 = 0 then (some ((-1), S)) else (zB (fX12_changes N 0 (((36 * v1) + (3 * v2)) + v3) v4 S) fun r5 S6 => some (r5, S6))
def fX12_mend (N : Nat) (p1 : Int32) (p2 : Int32) (p3 : Int32) (p4 : Int32) (S : zSt) : Option (Int32 × zSt) :=
  zB (fX12_isCell p1 p2 S) fun r8 S9 => if r8 = 0 then (some ((-1), S9)) else (zU (fX12_in p3 0 2) fun r12 => if r12 = 0 then (some ((-1), S9)) else (if p3 = 2 then (fX12_mend_b33 N p1 p2 p3 p4 p4 0 9 S9) else (fX12_mend_b33 N p1 p2 p3 p4 p4 0 30 S9)))
abbrev wX12_mend : List Cond := Cond.code yX12_mend cX12_mend 5 (some .int) :: waR
abbrev rmX12_mend : Room := { frames := 3, cells := 0, slots := 0, locals := 65 }
set_option maxHeartbeats 4000000 in
set_option maxRecDepth 100000 in
theorem kX12_mend (l : Launch) (D : va_G) (cA : Nat → ClassId) (h : Nat → Nat) (sz : Nat) (N : Nat)  (p1 : Int32) (p2 : Int32) (p3 : Int32) (p4 : Int32) (S : zSt) (r : Int32) (S1 : zSt) (hf : fX12_mend N p1 p2 p3 p4 S = some (r, S1)) : zMi l yX12_mend wX12_mend rmX12_mend zTr D (tR cA) (hsR h) [.ref (h 0), .int p1, .int p2, .int p3, .int p4] (wR cA h S) (wR cA h S1) sz r := by
  refine zEn_i (cc := cX12_mend) (maxL := 5) (own := RX12) (by decide) rfl rfl (hmR cA h S) (Nat.le_of_ble_eq_true rfl) ?_
  intro p e s m args below meth c Q H locs C0 hW fin ls hl
  have hl : lv_has ls 5 [(0, .ref (h 0)), (1, .int p1), (2, .int p2), (3, .int p3), (4, .int p4)] := hl
  have hx := C0.1
  have hb := C0.2.1
  have hown := C0.2.2.2.1
  have hts := C0.2.2.2.2
  have w33 : ∀ (v1 : Int32) (v2 : Int32) (v3 : Int32) (v4 : Int32) (u0 : Int32) (u1 : Int32) (u2 : Int32) (S : zSt) (H : Heap) (locs : List Loc), zW zTr D (tR cA) (wR cA h S) (aW (hsR h) s.heap.size) s H locs → ∀ ls : Array Slot, lv_has ls 5 [(0, .ref (h 0)), (1, .int v1), (2, .int v2), (3, .int v3), (4, .int v4)] → fX12_mend_b33 N v1 v2 v3 v4 u0 u1 u2 S = some (r, S1) → W p l e rmX12_mend s m args below meth c H locs 0 0 Q (F0 m 33 ls [.int u2, .int u1, .int u0]) := by
    intro v1 v2 v3 v4 u0 u1 u2 S H locs hW ls hl hf
    unfold fX12_mend_b33 at hf
    obtain ⟨r1, e3, hf⟩ := zU_e hf
    refine zcSi (As := [.int u0, .int u1, .int u2]) (pc := 33) C0 hW (kX12_in l H.size u0 u1 u2 r1 e3) (va_cwS 3 hts (zgS gaR mR_44 mR_45 mR_46 mR_39) rfl rfl rfl (by decide +kernel) ⟨Nat.le_of_ble_eq_true rfl, Nat.le_of_ble_eq_true rfl⟩) rfl hl.1 rfl (Nat.le_of_ble_eq_true rfl) dX12_mend_33 (fun H locs hW => ?_)
    refine lv_if_eq (pc := 36) (tgt := 59) hx hb dX12_mend_36 (by decide) (fun c4 => ?_) (fun c4 => ?_)
    · have hf := zt c4 hf
      refine lv_iconst (pc := 59) (v := (-1)) hx hb dX12_mend_59 (by decide) ?_
      exact zend_i (w := wR cA h) fin hf hW dX12_mend_60
    · have hf := zf c4 hf
      refine lv_aload_n (pc := 39) hx hb dX12_mend_39 rfl (lv_at hl 0 rfl) ?_
      refine lv_iconst (pc := 40) (v := 0) hx hb dX12_mend_40 (by decide) ?_
      refine lv_bipush (pc := 41) (v := 36) hx hb dX12_mend_41 (by decide) ?_
      refine lv_iload_n (pc := 43) hx hb dX12_mend_43 rfl (lv_at hl 1 rfl) ?_
      refine lv_imul (pc := 44) hx hb dX12_mend_44 ?_
      refine lv_iconst (pc := 45) (v := 3) hx hb dX12_mend_45 (by decide) ?_
      refine lv_iload_n (pc := 46) hx hb dX12_mend_46 rfl (lv_at hl 2 rfl) ?_
      refine lv_imul (pc := 47) hx hb dX12_mend_47 ?_
      refine lv_iadd (pc := 48) hx hb dX12_mend_48 ?_
      refine lv_iload_n (pc := 49) hx hb dX12_mend_49 rfl (lv_at hl 3 rfl) ?_
      refine lv_iadd (pc := 50) hx hb dX12_mend_50 ?_
      refine lv_iload (pc := 51) hx hb dX12_mend_51 (lv_at hl 4 rfl) ?_
      obtain ⟨r5, S6, e7, hf⟩ := zB_e hf
      refine zcVi zTr_ok (As := [.int 0, .int (((36 * v1) + (3 * v2)) + v3), .int v4]) (pc := 53) C0 hW (kX12_changes l D cA h H.size N 0 (((36 * v1) + (3 * v2)) + v3) v4 S r5 S6 e7) (cwV 3 hts (zgV gaR mR_93 mR_94 mR_95 mR_46 mR_78) rfl rfl rfl (by decide +kernel) ⟨Nat.le_of_ble_eq_true rfl, Nat.le_of_ble_eq_true rfl⟩) (va_recv hW.1 hW.2.1 (ci := 12) (q0 := 0) rfl rfl) rfl hl.1 rfl (Nat.le_of_ble_eq_true rfl) dX12_mend_53 (fun H locs hW => ?_)
      refine lv_goto (pc := 56) (tgt := 60) hx hb dX12_mend_56 (by decide) ?_
      exact zend_i (w := wR cA h) fin hf hW dX12_mend_60
  unfold fX12_mend at hf
  refine lv_aload_n (pc := 0) hx hb dX12_mend_0 rfl (lv_at hl 0 rfl) ?_
  refine lv_iload_n (pc := 1) hx hb dX12_mend_1 rfl (lv_at hl 1 rfl) ?_
  refine lv_iload_n (pc := 2) hx hb dX12_mend_2 rfl (lv_at hl 2 rfl) ?_
  obtain ⟨r8, S9, e10, hf⟩ := zB_e hf
  refine zcVi zTr_ok (As := [.int p1, .int p2]) (pc := 3) C0 hW (kX12_isCell l D cA h H.size p1 p2 S r8 S9 e10) (cwV 2 hts (zgV gaR mR_90 mR_91 mR_92 mR_46 mR_49) rfl rfl rfl (by decide +kernel) ⟨Nat.le_of_ble_eq_true rfl, Nat.le_of_ble_eq_true rfl⟩) (va_recv hW.1 hW.2.1 (ci := 12) (q0 := 0) rfl rfl) rfl hl.1 rfl (Nat.le_of_ble_eq_true rfl) dX12_mend_3 (fun H locs hW => ?_)
  refine lv_if_eq (pc := 6) (tgt := 59) hx hb dX12_mend_6 (by decide) (fun c11 => ?_) (fun c11 => ?_)
  · have hf := zt c11 hf
    refine lv_iconst (pc := 59) (v := (-1)) hx hb dX12_mend_59 (by decide) ?_
    exact zend_i (w := wR cA h) fin hf hW dX12_mend_60
  · have hf := zf c11 hf
    refine lv_iload_n (pc := 9) hx hb dX12_mend_9 rfl (lv_at hl 3 rfl) ?_
    refine lv_iconst (pc := 10) (v := 0) hx hb dX12_mend_10 (by decide) ?_
    refine lv_iconst (pc := 11) (v := 2) hx hb dX12_mend_11 (by decide) ?_
    obtain ⟨r12, e14, hf⟩ := zU_e hf
    refine zcSi (As := [.int p3, .int 0, .int 2]) (pc := 12) C0 hW (kX12_in l H.size p3 0 2 r12 e14) (va_cwS 3 hts (zgS gaR mR_44 mR_45 mR_46 mR_39) rfl rfl rfl (by decide +kernel) ⟨Nat.le_of_ble_eq_true rfl, Nat.le_of_ble_eq_true rfl⟩) rfl hl.1 rfl (Nat.le_of_ble_eq_true rfl) dX12_mend_12 (fun H locs hW => ?_)
    refine lv_if_eq (pc := 15) (tgt := 59) hx hb dX12_mend_15 (by decide) (fun c15 => ?_) (fun c15 => ?_)
    · have hf := zt c15 hf
      refine lv_iconst (pc := 59) (v := (-1)) hx hb dX12_mend_59 (by decide) ?_
      exact zend_i (w := wR cA h) fin hf hW dX12_mend_60
    · have hf := zf c15 hf
      refine lv_iload (pc := 18) hx hb dX12_mend_18 (lv_at hl 4 rfl) ?_
      refine lv_iconst (pc := 20) (v := 0) hx hb dX12_mend_20 (by decide) ?_
      refine lv_iload_n (pc := 21) hx hb dX12_mend_21 rfl (lv_at hl 3 rfl) ?_
      refine lv_iconst (pc := 22) (v := 2) hx hb dX12_mend_22 (by decide) ?_
      refine lv_icmp_ne (pc := 23) (tgt := 31) hx hb dX12_mend_23 (by decide) (fun c16 => ?_) (fun c16 => ?_)
      · have hf := zf c16 hf
        refine lv_bipush (pc := 31) (v := 30) hx hb dX12_mend_31 (by decide) ?_
        exact w33 p1 p2 p3 p4 p4 0 30 S9 H locs hW ls (lv_sub hl [0, 1, 2, 3, 4] rfl) hf
      · have hf := zt c16 hf
        refine lv_bipush (pc := 26) (v := 9) hx hb dX12_mend_26 (by decide) ?_
        refine lv_goto (pc := 28) (tgt := 33) hx hb dX12_mend_28 (by decide) ?_
        exact w33 p1 p2 p3 p4 p4 0 9 S9 H locs hW ls (lv_sub hl [0, 1, 2, 3, 4] rfl) hf

def fX12_look (S : zSt) : Option (Int32 × zSt) :=
  if (S.1 2) ≤ (S.1 13) then (some ((-1), S)) else (if zin (S.1 13) 120 then some ((S.2.1 1 (Int32.toNatClampNeg (S.1 13))), S) else none)
abbrev wX12_look : List Cond := Cond.code yX12_look cX12_look 1 (some .int) :: waR
abbrev rmX12_look : Room := { frames := 0, cells := 0, slots := 0, locals := 0 }
set_option maxHeartbeats 4000000 in
set_option maxRecDepth 100000 in
theorem kX12_look (l : Launch) (D : va_G) (cA : Nat → ClassId) (h : Nat → Nat) (sz : Nat)   (S : zSt) (r : Int32) (S1 : zSt) (hf : fX12_look S = some (r, S1)) : zMi l yX12_look wX12_look rmX12_look zTr D (tR cA) (hsR h) [.ref (h 0)] (wR cA h S) (wR cA h S1) sz r := by
  refine zEn_i (cc := cX12_look) (maxL := 1) (own := RX12) (by decide) rfl rfl (hmR cA h S) (Nat.le_of_ble_eq_true rfl) ?_
  intro p e s m args below meth c Q H locs C0 hW fin ls hl
  have hl : lv_has ls 1 [(0, .ref (h 0))] := hl
  have hx := C0.1
  have hb := C0.2.1
  have hown := C0.2.2.2.1
  have hts := C0.2.2.2.2
  unfold fX12_look at hf
  refine lv_aload_n (pc := 0) hx hb dX12_look_0 rfl (lv_at hl 0 rfl) ?_
  refine rg_13 (pc := 1) C0 hu_12 hW mR_55 dX12_look_1 ?_
  refine lv_aload_n (pc := 4) hx hb dX12_look_4 rfl (lv_at hl 0 rfl) ?_
  refine rg_2 (pc := 5) C0 hu_12 hW mR_43 dX12_look_5 ?_
  refine lv_icmp_ge (pc := 8) (tgt := 23) hx hb dX12_look_8 (by decide) (fun c1 => ?_) (fun c1 => ?_)
  · have hf := zt c1 hf
    refine lv_iconst (pc := 23) (v := (-1)) hx hb dX12_look_23 (by decide) ?_
    exact zend_i (w := wR cA h) fin hf hW dX12_look_24
  · have hf := zf c1 hf
    refine lv_aload_n (pc := 11) hx hb dX12_look_11 rfl (lv_at hl 0 rfl) ?_
    refine rg_1 (pc := 12) C0 hu_12 hW mR_5 dX12_look_12 ?_
    refine lv_aload_n (pc := 15) hx hb dX12_look_15 rfl (lv_at hl 0 rfl) ?_
    refine rg_13 (pc := 16) C0 hu_12 hW mR_55 dX12_look_16 ?_
    obtain ⟨i2, hf⟩ := zn hf
    refine rl_1 (pc := 19) C0 hW i2 dX12_look_19 ?_
    refine lv_goto (pc := 20) (tgt := 24) hx hb dX12_look_20 (by decide) ?_
    exact zend_i (w := wR cA h) fin hf hW dX12_look_24

def fX12_wrong (S : zSt) : Option zSt :=
  if 0 ≤ (S.1 14) then (some S) else (zL (zI S 14 (S.1 13)) fun S2 => some S2)
abbrev wX12_wrong : List Cond := Cond.code yX12_wrong cX12_wrong 1 none :: waR
abbrev rmX12_wrong : Room := { frames := 0, cells := 0, slots := 0, locals := 0 }
set_option maxHeartbeats 4000000 in
set_option maxRecDepth 100000 in
theorem kX12_wrong (l : Launch) (D : va_G) (cA : Nat → ClassId) (h : Nat → Nat) (sz : Nat)   (S : zSt) (S1 : zSt) (hf : fX12_wrong S = some S1) : zMv l yX12_wrong wX12_wrong rmX12_wrong zTr D (tR cA) (hsR h) [.ref (h 0)] (wR cA h S) (wR cA h S1) sz := by
  refine zEn_v (cc := cX12_wrong) (maxL := 1) (own := RX12) (by decide) rfl rfl (hmR cA h S) (Nat.le_of_ble_eq_true rfl) ?_
  intro p e s m args below meth c Q H locs C0 hW fin ls hl
  have hl : lv_has ls 1 [(0, .ref (h 0))] := hl
  have hx := C0.1
  have hb := C0.2.1
  have hown := C0.2.2.2.1
  have hts := C0.2.2.2.2
  unfold fX12_wrong at hf
  refine lv_aload_n (pc := 0) hx hb dX12_wrong_0 rfl (lv_at hl 0 rfl) ?_
  refine rg_14 (pc := 1) C0 hu_12 hW mR_54 dX12_wrong_1 ?_
  refine lv_if_ge (pc := 4) (tgt := 15) hx hb dX12_wrong_4 (by decide) (fun c1 => ?_) (fun c1 => ?_)
  · have hf := zt c1 hf
    exact zend_v (w := wR cA h) fin hf hW dX12_wrong_15
  · have hf := zf c1 hf
    refine lv_aload_n (pc := 7) hx hb dX12_wrong_7 rfl (lv_at hl 0 rfl) ?_
    refine lv_aload_n (pc := 8) hx hb dX12_wrong_8 rfl (lv_at hl 0 rfl) ?_
    refine rg_13 (pc := 9) C0 hu_12 hW mR_55 dX12_wrong_9 ?_
    obtain ⟨S2, e_S2, hf⟩ := zL_e hf
    refine rp_14 (pc := 12) C0 hu_12 hW mR_54 e_S2 dX12_wrong_12 (fun H locs hW => ?_)
    exact zend_v (w := wR cA h) fin hf hW dX12_wrong_15

def fX12_addStep (p1 : Int32) (p2 : Int32) (S : zSt) : Option zSt :=
  if zin (520 + (S.1 16)) 650 then zL (zA S 17 (Int32.toNatClampNeg (520 + (S.1 16))) (vp_nar .byte (zi8 p1))) fun S2 => if zin (520 + (S2.1 16)) 650 then zL (zA S2 18 (Int32.toNatClampNeg (520 + (S2.1 16))) p2) fun S4 => zL (zI S4 16 ((S4.1 16) + 1)) fun S5 => some S5 else none else none
abbrev wX12_addStep : List Cond := Cond.code yX12_addStep cX12_addStep 3 none :: waR
abbrev rmX12_addStep : Room := { frames := 0, cells := 0, slots := 0, locals := 0 }
set_option maxHeartbeats 4000000 in
set_option maxRecDepth 100000 in
theorem kX12_addStep (l : Launch) (D : va_G) (cA : Nat → ClassId) (h : Nat → Nat) (sz : Nat)  (p1 : Int32) (p2 : Int32) (S : zSt) (S1 : zSt) (hf : fX12_addStep p1 p2 S = some S1) : zMv l yX12_addStep wX12_addStep rmX12_addStep zTr D (tR cA) (hsR h) [.ref (h 0), .int p1, .int p2] (wR cA h S) (wR cA h S1) sz := by
  refine zEn_v (cc := cX12_addStep) (maxL := 3) (own := RX12) (by decide) rfl rfl (hmR cA h S) (Nat.le_of_ble_eq_true rfl) ?_
  intro p e s m args below meth c Q H locs C0 hW fin ls hl
  have hl : lv_has ls 3 [(0, .ref (h 0)), (1, .int p1), (2, .int p2)] := hl
  have hx := C0.1
  have hb := C0.2.1
  have hown := C0.2.2.2.1
  have hts := C0.2.2.2.2
  unfold fX12_addStep at hf
  refine lv_aload_n (pc := 0) hx hb dX12_addStep_0 rfl (lv_at hl 0 rfl) ?_
  refine rg_17 (pc := 1) C0 hu_12 hW mR_14 dX12_addStep_1 ?_
  refine lv_sipush (pc := 4) (v := 520) hx hb dX12_addStep_4 (by decide) ?_
  refine lv_aload_n (pc := 7) hx hb dX12_addStep_7 rfl (lv_at hl 0 rfl) ?_
  refine rg_16 (pc := 8) C0 hu_12 hW mR_99 dX12_addStep_8 ?_
  refine lv_iadd (pc := 11) hx hb dX12_addStep_11 ?_
  refine lv_iload_n (pc := 12) hx hb dX12_addStep_12 rfl (lv_at hl 1 rfl) ?_
  refine lv_i2b (pc := 13) (v := (zi8 p1)) hx hb dX12_addStep_13 rfl ?_
  obtain ⟨i1, hf⟩ := zn hf
  obtain ⟨S2, e_S2, hf⟩ := zL_e hf
  refine rs_17 (pc := 14) C0 hW i1 e_S2 dX12_addStep_14 (fun H locs hW => ?_)
  refine lv_aload_n (pc := 15) hx hb dX12_addStep_15 rfl (lv_at hl 0 rfl) ?_
  refine rg_18 (pc := 16) C0 hu_12 hW mR_15 dX12_addStep_16 ?_
  refine lv_sipush (pc := 19) (v := 520) hx hb dX12_addStep_19 (by decide) ?_
  refine lv_aload_n (pc := 22) hx hb dX12_addStep_22 rfl (lv_at hl 0 rfl) ?_
  refine rg_16 (pc := 23) C0 hu_12 hW mR_99 dX12_addStep_23 ?_
  refine lv_iadd (pc := 26) hx hb dX12_addStep_26 ?_
  refine lv_iload_n (pc := 27) hx hb dX12_addStep_27 rfl (lv_at hl 2 rfl) ?_
  obtain ⟨i3, hf⟩ := zn hf
  obtain ⟨S4, e_S4, hf⟩ := zL_e hf
  refine rs_18 (pc := 28) C0 hW i3 e_S4 dX12_addStep_28 (fun H locs hW => ?_)
  refine lv_aload_n (pc := 29) hx hb dX12_addStep_29 rfl (lv_at hl 0 rfl) ?_
  refine lv_dup (pc := 30) hx hb dX12_addStep_30 rfl ?_
  refine rg_16 (pc := 31) C0 hu_12 hW mR_99 dX12_addStep_31 ?_
  refine lv_iconst (pc := 34) (v := 1) hx hb dX12_addStep_34 (by decide) ?_
  refine lv_iadd (pc := 35) hx hb dX12_addStep_35 ?_
  obtain ⟨S5, e_S5, hf⟩ := zL_e hf
  refine rp_16 (pc := 36) C0 hu_12 hW mR_99 e_S5 dX12_addStep_36 (fun H locs hW => ?_)
  exact zend_v (w := wR cA h) fin hf hW dX12_addStep_39

def fX12_nameOf (p1 : Int32): Option Int32 :=
  if p1 = 99 then (some 1) else (if p1 = 104 then (some 0) else (if p1 = 105 then (some 3) else (if p1 = 114 then (some 2) else (some (-1)))))
abbrev wX12_nameOf : List Cond := Cond.code yX12_nameOf cX12_nameOf 1 (some .int) :: waR
abbrev rmX12_nameOf : Room := { frames := 0, cells := 0, slots := 0, locals := 0 }
set_option maxHeartbeats 4000000 in
set_option maxRecDepth 100000 in
theorem kX12_nameOf (l : Launch) (sz : Nat) (p1 : Int32) (r : Int32) (hf : fX12_nameOf p1 = some r) : zMs l yX12_nameOf wX12_nameOf rmX12_nameOf [.int p1] sz r := by
  refine zEs_i (cc := cX12_nameOf) (maxL := 1) (own := RX12) (by decide) rfl rfl (Nat.le_of_ble_eq_true rfl) ?_
  intro p e s m args below meth c Q H locs C0 hW fin ls hl
  have hl : lv_has ls 1 [(0, .int p1)] := hl
  have hx := C0.1
  have hb := C0.2.1
  have hown := C0.2.2.2.1
  have hts := C0.2.2.2.2
  unfold fX12_nameOf at hf
  refine lv_iload_n (pc := 0) hx hb dX12_nameOf_0 rfl (lv_at hl 0 rfl) ?_
  by_cases c1 : p1 = 99
  · have hf := zt c1 hf
    refine lv_lookup (pc := 1) (tgt := 46) (off := 45) hx hb dX12_nameOf_1 (by decide) (by rw [c1]; decide) (by decide) ?_
    refine lv_iconst (pc := 46) (v := 1) hx hb dX12_nameOf_46 (by decide) ?_
    exact zens_i fin hf hW dX12_nameOf_47
  have hf := zf c1 hf
  by_cases c2 : p1 = 104
  · have hf := zt c2 hf
    refine lv_lookup (pc := 1) (tgt := 44) (off := 43) hx hb dX12_nameOf_1 (by decide) (by rw [c2]; decide) (by decide) ?_
    refine lv_iconst (pc := 44) (v := 0) hx hb dX12_nameOf_44 (by decide) ?_
    exact zens_i fin hf hW dX12_nameOf_45
  have hf := zf c2 hf
  by_cases c3 : p1 = 105
  · have hf := zt c3 hf
    refine lv_lookup (pc := 1) (tgt := 50) (off := 49) hx hb dX12_nameOf_1 (by decide) (by rw [c3]; decide) (by decide) ?_
    refine lv_iconst (pc := 50) (v := 3) hx hb dX12_nameOf_50 (by decide) ?_
    exact zens_i fin hf hW dX12_nameOf_51
  have hf := zf c3 hf
  by_cases c4 : p1 = 114
  · have hf := zt c4 hf
    refine lv_lookup (pc := 1) (tgt := 48) (off := 47) hx hb dX12_nameOf_1 (by decide) (by rw [c4]; decide) (by decide) ?_
    refine lv_iconst (pc := 48) (v := 2) hx hb dX12_nameOf_48 (by decide) ?_
    exact zens_i fin hf hW dX12_nameOf_49
  have hf := zf c4 hf
  refine lv_lookup (pc := 1) (tgt := 52) (off := 51) hx hb dX12_nameOf_1 (by decide) (zlook _ _ _ (List.forall_mem_cons.mpr ⟨zlk c1 (by decide), (List.forall_mem_cons.mpr ⟨zlk c2 (by decide), (List.forall_mem_cons.mpr ⟨zlk c3 (by decide), (List.forall_mem_cons.mpr ⟨zlk c4 (by decide), (fun _ h => absurd h List.not_mem_nil)⟩)⟩)⟩)⟩)) (by decide) ?_
  refine lv_iconst (pc := 52) (v := (-1)) hx hb dX12_nameOf_52 (by decide) ?_
  exact zens_i fin hf hW dX12_nameOf_53

def fX12_opens (S : zSt) : Option (Int32 × zSt) :=
  if (S.1 15) = 6 then (zU (fX12_wrong S) fun S5 => some (0, S5)) else (zL (zI S 15 ((S.1 15) + 1)) fun S2 => zL (zI S2 13 ((S2.1 13) + 1)) fun S3 => some (1, S3))
abbrev wX12_opens : List Cond := Cond.code yX12_opens cX12_opens 1 (some .boolean) :: waR
abbrev rmX12_opens : Room := { frames := 1, cells := 0, slots := 0, locals := 20 }
set_option maxHeartbeats 4000000 in
set_option maxRecDepth 100000 in
theorem kX12_opens (l : Launch) (D : va_G) (cA : Nat → ClassId) (h : Nat → Nat) (sz : Nat)   (S : zSt) (r : Int32) (S1 : zSt) (hf : fX12_opens S = some (r, S1)) : zMi l yX12_opens wX12_opens rmX12_opens zTr D (tR cA) (hsR h) [.ref (h 0)] (wR cA h S) (wR cA h S1) sz r := by
  refine zEn_z (cc := cX12_opens) (maxL := 1) (own := RX12) (by decide) rfl rfl (hmR cA h S) (Nat.le_of_ble_eq_true rfl) ?_
  intro p e s m args below meth c Q H locs C0 hW fin ls hl
  have hl : lv_has ls 1 [(0, .ref (h 0))] := hl
  have hx := C0.1
  have hb := C0.2.1
  have hown := C0.2.2.2.1
  have hts := C0.2.2.2.2
  unfold fX12_opens at hf
  refine lv_aload_n (pc := 0) hx hb dX12_opens_0 rfl (lv_at hl 0 rfl) ?_
  refine rg_15 (pc := 1) C0 hu_12 hW mR_102 dX12_opens_1 ?_
  refine lv_bipush (pc := 4) (v := 6) hx hb dX12_opens_4 (by decide) ?_
  refine lv_icmp_ne (pc := 6) (tgt := 15) hx hb dX12_opens_6 (by decide) (fun c1 => ?_) (fun c1 => ?_)
  · have hf := zf c1 hf
    refine lv_aload_n (pc := 15) hx hb dX12_opens_15 rfl (lv_at hl 0 rfl) ?_
    refine lv_dup (pc := 16) hx hb dX12_opens_16 rfl ?_
    refine rg_15 (pc := 17) C0 hu_12 hW mR_102 dX12_opens_17 ?_
    refine lv_iconst (pc := 20) (v := 1) hx hb dX12_opens_20 (by decide) ?_
    refine lv_iadd (pc := 21) hx hb dX12_opens_21 ?_
    obtain ⟨S2, e_S2, hf⟩ := zL_e hf
    refine rp_15 (pc := 22) C0 hu_12 hW mR_102 e_S2 dX12_opens_22 (fun H locs hW => ?_)
    refine lv_aload_n (pc := 25) hx hb dX12_opens_25 rfl (lv_at hl 0 rfl) ?_
    refine lv_dup (pc := 26) hx hb dX12_opens_26 rfl ?_
    refine rg_13 (pc := 27) C0 hu_12 hW mR_55 dX12_opens_27 ?_
    refine lv_iconst (pc := 30) (v := 1) hx hb dX12_opens_30 (by decide) ?_
    refine lv_iadd (pc := 31) hx hb dX12_opens_31 ?_
    obtain ⟨S3, e_S3, hf⟩ := zL_e hf
    refine rp_13 (pc := 32) C0 hu_12 hW mR_55 e_S3 dX12_opens_32 (fun H locs hW => ?_)
    refine lv_iconst (pc := 35) (v := 1) hx hb dX12_opens_35 (by decide) ?_
    exact zend_z (w := wR cA h) fin hf (by decide) hW dX12_opens_36
  · have hf := zt c1 hf
    refine lv_aload_n (pc := 9) hx hb dX12_opens_9 rfl (lv_at hl 0 rfl) ?_
    obtain ⟨S5, e6, hf⟩ := zU_e hf
    refine zcVv zTr_ok (As := []) (pc := 10) C0 hW (kX12_wrong l D cA h H.size S S5 e6) (cwV 0 hts (zgV gaR mR_103 mR_104 mR_105 mR_46 mR_97) rfl rfl rfl (by decide +kernel) ⟨Nat.le_of_ble_eq_true rfl, Nat.le_of_ble_eq_true rfl⟩) (va_recv hW.1 hW.2.1 (ci := 12) (q0 := 0) rfl rfl) rfl hl.1 rfl (Nat.le_of_ble_eq_true rfl) dX12_opens_10 (fun H locs hW => ?_)
    refine lv_iconst (pc := 13) (v := 0) hx hb dX12_opens_13 (by decide) ?_
    exact zend_z (w := wR cA h) fin hf (by decide) hW dX12_opens_14

def fX12_figure_b74 (N : Nat) (v1 : Int32) (S : zSt) : Option zSt :=
  zU (fX12_addStep 1 v1 S) fun S2 => some S2
def fX12_figure_b70 (N : Nat) (v1 : Int32) (S : zSt) : Option zSt :=
  zU (fX12_wrong S) fun S5 => fX12_figure_b74 N v1 S5
def fX12_figure_b52 (N : Nat) (v1 : Int32) (v2 : Int32) (S : zSt) : Option zSt :=
  if v2 = 0 then (fX12_figure_b70 N v1 S) else (zB (fX12_look S) fun r8 S9 => zU (fX12_in r8 48 57) fun r11 => if r11 = 0 then (fX12_figure_b74 N v1 S9) else (fX12_figure_b70 N v1 S9))
def fX12_figure_b4 (N : Nat) : Nat → Int32 → Int32 → zSt → Option zSt
  | 0, _, _, _ => none
  | n + 1, v1, v2, S =>
    if 4 ≤ v2 then (fX12_figure_b52 N v1 v2 S) else (zB (fX12_look S) fun r16 S17 => zU (fX12_in r16 48 57) fun r19 => if r19 = 0 then (fX12_figure_b52 N v1 v2 S17) else (zB (fX12_look S17) fun r23 S24 => zL (zI S24 13 ((S24.1 13) + 1)) fun S26 => fX12_figure_b4 N n (((10 * v1) + r23) - 48) (v2 + 1) S26))
def fX12_figure (N : Nat) (S : zSt) : Option zSt :=
  fX12_figure_b4 N N 0 0 S
abbrev wX12_figure : List Cond := Cond.code yX12_figure cX12_figure 3 none :: waR
abbrev rmX12_figure : Room := { frames := 1, cells := 0, slots := 0, locals := 22 }
set_option maxHeartbeats 4000000 in
set_option maxRecDepth 100000 in
theorem kX12_figure (l : Launch) (D : va_G) (cA : Nat → ClassId) (h : Nat → Nat) (sz : Nat) (N : Nat)   (S : zSt) (S1 : zSt) (hf : fX12_figure N S = some S1) : zMv l yX12_figure wX12_figure rmX12_figure zTr D (tR cA) (hsR h) [.ref (h 0)] (wR cA h S) (wR cA h S1) sz := by
  refine zEn_v (cc := cX12_figure) (maxL := 3) (own := RX12) (by decide) rfl rfl (hmR cA h S) (Nat.le_of_ble_eq_true rfl) ?_
  intro p e s m args below meth c Q H locs C0 hW fin ls hl
  have hl : lv_has ls 3 [(0, .ref (h 0))] := hl
  have hx := C0.1
  have hb := C0.2.1
  have hown := C0.2.2.2.1
  have hts := C0.2.2.2.2
  have w74 : ∀ (v1 : Int32) (S : zSt) (H : Heap) (locs : List Loc), zW zTr D (tR cA) (wR cA h S) (aW (hsR h) s.heap.size) s H locs → ∀ ls : Array Slot, lv_has ls 3 [(0, .ref (h 0)), (1, .int v1)] → fX12_figure_b74 N v1 S = some S1 → W p l e rmX12_figure s m args below meth c H locs 0 0 Q (F0 m 74 ls []) := by
    intro v1 S H locs hW ls hl hf
    unfold fX12_figure_b74 at hf
    refine lv_aload_n (pc := 74) hx hb dX12_figure_74 rfl (lv_at hl 0 rfl) ?_
    refine lv_iconst (pc := 75) (v := 1) hx hb dX12_figure_75 (by decide) ?_
    refine lv_iload_n (pc := 76) hx hb dX12_figure_76 rfl (lv_at hl 1 rfl) ?_
    obtain ⟨S2, e3, hf⟩ := zU_e hf
    refine zcVv zTr_ok (As := [.int 1, .int v1]) (pc := 77) C0 hW (kX12_addStep l D cA h H.size 1 v1 S S2 e3) (cwV 2 hts (zgV gaR mR_110 mR_111 mR_112 mR_46 mR_98) rfl rfl rfl (by decide +kernel) ⟨Nat.le_of_ble_eq_true rfl, Nat.le_of_ble_eq_true rfl⟩) (va_recv hW.1 hW.2.1 (ci := 12) (q0 := 0) rfl rfl) rfl hl.1 rfl (Nat.le_of_ble_eq_true rfl) dX12_figure_77 (fun H locs hW => ?_)
    exact zend_v (w := wR cA h) fin hf hW dX12_figure_80
  have w70 : ∀ (v1 : Int32) (S : zSt) (H : Heap) (locs : List Loc), zW zTr D (tR cA) (wR cA h S) (aW (hsR h) s.heap.size) s H locs → ∀ ls : Array Slot, lv_has ls 3 [(0, .ref (h 0)), (1, .int v1)] → fX12_figure_b70 N v1 S = some S1 → W p l e rmX12_figure s m args below meth c H locs 0 0 Q (F0 m 70 ls []) := by
    intro v1 S H locs hW ls hl hf
    unfold fX12_figure_b70 at hf
    refine lv_aload_n (pc := 70) hx hb dX12_figure_70 rfl (lv_at hl 0 rfl) ?_
    obtain ⟨S5, e6, hf⟩ := zU_e hf
    refine zcVv zTr_ok (As := []) (pc := 71) C0 hW (kX12_wrong l D cA h H.size S S5 e6) (cwV 0 hts (zgV gaR mR_103 mR_104 mR_105 mR_46 mR_97) rfl rfl rfl (by decide +kernel) ⟨Nat.le_of_ble_eq_true rfl, Nat.le_of_ble_eq_true rfl⟩) (va_recv hW.1 hW.2.1 (ci := 12) (q0 := 0) rfl rfl) rfl hl.1 rfl (Nat.le_of_ble_eq_true rfl) dX12_figure_71 (fun H locs hW => ?_)
    exact w74 v1 S5 H locs hW ls (lv_sub hl [0, 1] rfl) hf
  have w52 : ∀ (v1 : Int32) (v2 : Int32) (S : zSt) (H : Heap) (locs : List Loc), zW zTr D (tR cA) (wR cA h S) (aW (hsR h) s.heap.size) s H locs → ∀ ls : Array Slot, lv_has ls 3 [(0, .ref (h 0)), (1, .int v1), (2, .int v2)] → fX12_figure_b52 N v1 v2 S = some S1 → W p l e rmX12_figure s m args below meth c H locs 0 0 Q (F0 m 52 ls []) := by
    intro v1 v2 S H locs hW ls hl hf
    unfold fX12_figure_b52 at hf
    refine lv_iload_n (pc := 52) hx hb dX12_figure_52 rfl (lv_at hl 2 rfl) ?_
    refine lv_if_eq (pc := 53) (tgt := 70) hx hb dX12_figure_53 (by decide) (fun c7 => ?_) (fun c7 => ?_)
    · have hf := zt c7 hf
      exact w70 v1 S H locs hW ls (lv_sub hl [0, 1] rfl) hf
    · have hf := zf c7 hf
      refine lv_aload_n (pc := 56) hx hb dX12_figure_56 rfl (lv_at hl 0 rfl) ?_
      obtain ⟨r8, S9, e10, hf⟩ := zB_e hf
      refine zcVi zTr_ok (As := []) (pc := 57) C0 hW (kX12_look l D cA h H.size S r8 S9 e10) (cwV 0 hts (zgV gaR mR_107 mR_108 mR_109 mR_46 mR_96) rfl rfl rfl (by decide +kernel) ⟨Nat.le_of_ble_eq_true rfl, Nat.le_of_ble_eq_true rfl⟩) (va_recv hW.1 hW.2.1 (ci := 12) (q0 := 0) rfl rfl) rfl hl.1 rfl (Nat.le_of_ble_eq_true rfl) dX12_figure_57 (fun H locs hW => ?_)
      refine lv_bipush (pc := 60) (v := 48) hx hb dX12_figure_60 (by decide) ?_
      refine lv_bipush (pc := 62) (v := 57) hx hb dX12_figure_62 (by decide) ?_
      obtain ⟨r11, e13, hf⟩ := zU_e hf
      refine zcSi (As := [.int r8, .int 48, .int 57]) (pc := 64) C0 hW (kX12_in l H.size r8 48 57 r11 e13) (va_cwS 3 hts (zgS gaR mR_44 mR_45 mR_46 mR_39) rfl rfl rfl (by decide +kernel) ⟨Nat.le_of_ble_eq_true rfl, Nat.le_of_ble_eq_true rfl⟩) rfl hl.1 rfl (Nat.le_of_ble_eq_true rfl) dX12_figure_64 (fun H locs hW => ?_)
      refine lv_if_eq (pc := 67) (tgt := 74) hx hb dX12_figure_67 (by decide) (fun c14 => ?_) (fun c14 => ?_)
      · have hf := zt c14 hf
        exact w74 v1 S9 H locs hW ls (lv_sub hl [0, 1] rfl) hf
      · have hf := zf c14 hf
        exact w70 v1 S9 H locs hW ls (lv_sub hl [0, 1] rfl) hf
  have w4 : ∀ (n : Nat), ∀ (v1 : Int32) (v2 : Int32) (S : zSt) (H : Heap) (locs : List Loc), zW zTr D (tR cA) (wR cA h S) (aW (hsR h) s.heap.size) s H locs → ∀ ls : Array Slot, lv_has ls 3 [(0, .ref (h 0)), (1, .int v1), (2, .int v2)] → fX12_figure_b4 N n v1 v2 S = some S1 → W p l e rmX12_figure s m args below meth c H locs 0 0 Q (F0 m 4 ls []) := by
    intro n
    induction n with
    | zero =>
      intro v1 v2 S H locs hW ls hl hf
      exact absurd hf (by intro h; cases h)
    | succ n ih =>
      intro v1 v2 S H locs hW ls hl hf
      rw [fX12_figure_b4] at hf
      refine lv_iload_n (pc := 4) hx hb dX12_figure_4 rfl (lv_at hl 2 rfl) ?_
      refine lv_iconst (pc := 5) (v := 4) hx hb dX12_figure_5 (by decide) ?_
      refine lv_icmp_ge (pc := 6) (tgt := 52) hx hb dX12_figure_6 (by decide) (fun c15 => ?_) (fun c15 => ?_)
      · have hf := zt c15 hf
        exact w52 v1 v2 S H locs hW ls (lv_sub hl [0, 1, 2] rfl) hf
      · have hf := zf c15 hf
        refine lv_aload_n (pc := 9) hx hb dX12_figure_9 rfl (lv_at hl 0 rfl) ?_
        obtain ⟨r16, S17, e18, hf⟩ := zB_e hf
        refine zcVi zTr_ok (As := []) (pc := 10) C0 hW (kX12_look l D cA h H.size S r16 S17 e18) (cwV 0 hts (zgV gaR mR_107 mR_108 mR_109 mR_46 mR_96) rfl rfl rfl (by decide +kernel) ⟨Nat.le_of_ble_eq_true rfl, Nat.le_of_ble_eq_true rfl⟩) (va_recv hW.1 hW.2.1 (ci := 12) (q0 := 0) rfl rfl) rfl hl.1 rfl (Nat.le_of_ble_eq_true rfl) dX12_figure_10 (fun H locs hW => ?_)
        refine lv_bipush (pc := 13) (v := 48) hx hb dX12_figure_13 (by decide) ?_
        refine lv_bipush (pc := 15) (v := 57) hx hb dX12_figure_15 (by decide) ?_
        obtain ⟨r19, e21, hf⟩ := zU_e hf
        refine zcSi (As := [.int r16, .int 48, .int 57]) (pc := 17) C0 hW (kX12_in l H.size r16 48 57 r19 e21) (va_cwS 3 hts (zgS gaR mR_44 mR_45 mR_46 mR_39) rfl rfl rfl (by decide +kernel) ⟨Nat.le_of_ble_eq_true rfl, Nat.le_of_ble_eq_true rfl⟩) rfl hl.1 rfl (Nat.le_of_ble_eq_true rfl) dX12_figure_17 (fun H locs hW => ?_)
        refine lv_if_eq (pc := 20) (tgt := 52) hx hb dX12_figure_20 (by decide) (fun c22 => ?_) (fun c22 => ?_)
        · have hf := zt c22 hf
          exact w52 v1 v2 S17 H locs hW ls (lv_sub hl [0, 1, 2] rfl) hf
        · have hf := zf c22 hf
          refine lv_bipush (pc := 23) (v := 10) hx hb dX12_figure_23 (by decide) ?_
          refine lv_iload_n (pc := 25) hx hb dX12_figure_25 rfl (lv_at hl 1 rfl) ?_
          refine lv_imul (pc := 26) hx hb dX12_figure_26 ?_
          refine lv_aload_n (pc := 27) hx hb dX12_figure_27 rfl (lv_at hl 0 rfl) ?_
          obtain ⟨r23, S24, e25, hf⟩ := zB_e hf
          refine zcVi zTr_ok (As := []) (pc := 28) C0 hW (kX12_look l D cA h H.size S17 r23 S24 e25) (cwV 0 hts (zgV gaR mR_107 mR_108 mR_109 mR_46 mR_96) rfl rfl rfl (by decide +kernel) ⟨Nat.le_of_ble_eq_true rfl, Nat.le_of_ble_eq_true rfl⟩) (va_recv hW.1 hW.2.1 (ci := 12) (q0 := 0) rfl rfl) rfl hl.1 rfl (Nat.le_of_ble_eq_true rfl) dX12_figure_28 (fun H locs hW => ?_)
          refine lv_iadd (pc := 31) hx hb dX12_figure_31 ?_
          refine lv_bipush (pc := 32) (v := 48) hx hb dX12_figure_32 (by decide) ?_
          refine lv_isub (pc := 34) hx hb dX12_figure_34 ?_
          refine lv_istore_n (pc := 35) (lv' := [(1, .int (((10 * v1) + r23) - 48)), (0, .ref (h 0)), (2, .int v2)]) hx hb dX12_figure_35 rfl hl (by decide) rfl (fun ls hl => ?_)
          refine lv_iinc (pc := 36) (v := (v2 + 1)) (lv' := [(2, .int (v2 + 1)), (1, .int (((10 * v1) + r23) - 48)), (0, .ref (h 0))]) hx hb dX12_figure_36 hl (k := 2) rfl (by rfl) (by decide) rfl (fun ls hl => ?_)
          refine lv_aload_n (pc := 39) hx hb dX12_figure_39 rfl (lv_at hl 2 rfl) ?_
          refine lv_dup (pc := 40) hx hb dX12_figure_40 rfl ?_
          refine rg_13 (pc := 41) C0 hu_12 hW mR_55 dX12_figure_41 ?_
          refine lv_iconst (pc := 44) (v := 1) hx hb dX12_figure_44 (by decide) ?_
          refine lv_iadd (pc := 45) hx hb dX12_figure_45 ?_
          obtain ⟨S26, e_S26, hf⟩ := zL_e hf
          refine rp_13 (pc := 46) C0 hu_12 hW mR_55 e_S26 dX12_figure_46 (fun H locs hW => ?_)
          refine lv_goto (pc := 49) (tgt := 4) hx hb dX12_figure_49 (by decide) ?_
          exact ih (((10 * v1) + r23) - 48) (v2 + 1) S26 H locs hW ls (lv_sub hl [2, 1, 0] rfl) hf
  unfold fX12_figure at hf
  refine lv_iconst (pc := 0) (v := 0) hx hb dX12_figure_0 (by decide) ?_
  refine lv_istore_n (pc := 1) (lv' := [(1, .int 0), (0, .ref (h 0))]) hx hb dX12_figure_1 rfl hl (by decide) rfl (fun ls hl => ?_)
  refine lv_iconst (pc := 2) (v := 0) hx hb dX12_figure_2 (by decide) ?_
  refine lv_istore_n (pc := 3) (lv' := [(2, .int 0), (1, .int 0), (0, .ref (h 0))]) hx hb dX12_figure_3 rfl hl (by decide) rfl (fun ls hl => ?_)
  exact w4 N 0 0 S H locs hW ls (lv_sub hl [2, 1, 0] rfl) hf

def fX12_product_b38 (G : (zSt → Option zSt) × (zSt → Option zSt) × (zSt → Option zSt) × (zSt → Option zSt) × (zSt → Option zSt) × (zSt → Option zSt)) (N : Nat) (K4 : zSt → Option zSt) (S : zSt) : Option zSt :=
  zB (fX12_look S) fun r1 S2 => zL (zI S2 13 ((S2.1 13) + 1)) fun S4 => zU (G.1 S4) fun S6 => zU (fX12_addStep r1 0 S6) fun S9 => K4 S9
def fX12_product_b4 (G : (zSt → Option zSt) × (zSt → Option zSt) × (zSt → Option zSt) × (zSt → Option zSt) × (zSt → Option zSt) × (zSt → Option zSt)) (N : Nat) : Nat → zSt → Option zSt
  | 0, _ => none
  | n + 1, S =>
    if 0 ≤ (S.1 14) then (some S) else (zB (fX12_look S) fun r12 S13 => if r12 = 42 then (fX12_product_b38 G N (fX12_product_b4 G N n) S13) else (zB (fX12_look S13) fun r16 S17 => if r16 = 47 then (fX12_product_b38 G N (fX12_product_b4 G N n) S17) else (zB (fX12_look S17) fun r20 S21 => if r20 = 37 then (fX12_product_b38 G N (fX12_product_b4 G N n) S21) else (some S21))))
def fX12_product_o (G : (zSt → Option zSt) × (zSt → Option zSt) × (zSt → Option zSt) × (zSt → Option zSt) × (zSt → Option zSt) × (zSt → Option zSt)) (N : Nat) (S : zSt) : Option zSt :=
  zU (G.1 S) fun S25 => fX12_product_b4 G N N S25
set_option maxHeartbeats 4000000 in
set_option maxRecDepth 100000 in
theorem kX12_product_o (l : Launch) (D : va_G) (cA : Nat → ClassId) (h : Nat → Nat) (sz : Nat) (N : Nat) (g : Nat) (G : (zSt → Option zSt) × (zSt → Option zSt) × (zSt → Option zSt) × (zSt → Option zSt) × (zSt → Option zSt) × (zSt → Option zSt)) (hG_operand : ∀ (sz : Nat)  (S : zSt) (S1 : zSt), G.1 S = some S1 → zMv l yX12_operand wX12_operand (zRm g) zTr D (tR cA) (hsR h) [.ref (h 0)] (wR cA h S) (wR cA h S1) sz) (hG_product : ∀ (sz : Nat)  (S : zSt) (S1 : zSt), G.2.1 S = some S1 → zMv l yX12_product wX12_product (zRm g) zTr D (tR cA) (hsR h) [.ref (h 0)] (wR cA h S) (wR cA h S1) sz) (hG_sum : ∀ (sz : Nat)  (S : zSt) (S1 : zSt), G.2.2.1 S = some S1 → zMv l yX12_sum wX12_sum (zRm g) zTr D (tR cA) (hsR h) [.ref (h 0)] (wR cA h S) (wR cA h S1) sz) (hG_compared : ∀ (sz : Nat)  (S : zSt) (S1 : zSt), G.2.2.2.1 S = some S1 → zMv l yX12_compared wX12_compared (zRm g) zTr D (tR cA) (hsR h) [.ref (h 0)] (wR cA h S) (wR cA h S1) sz) (hG_both : ∀ (sz : Nat)  (S : zSt) (S1 : zSt), G.2.2.2.2.1 S = some S1 → zMv l yX12_both wX12_both (zRm g) zTr D (tR cA) (hsR h) [.ref (h 0)] (wR cA h S) (wR cA h S1) sz) (hG_either : ∀ (sz : Nat)  (S : zSt) (S1 : zSt), G.2.2.2.2.2 S = some S1 → zMv l yX12_either wX12_either (zRm g) zTr D (tR cA) (hsR h) [.ref (h 0)] (wR cA h S) (wR cA h S1) sz)   (S : zSt) (S1 : zSt) (hf : fX12_product_o G N S = some S1) : zMv l yX12_product wX12_product (zRm (g + 1)) zTr D (tR cA) (hsR h) [.ref (h 0)] (wR cA h S) (wR cA h S1) sz := by
  refine zEn_v (cc := cX12_product) (maxL := 2) (own := RX12) (by decide) rfl rfl (hmR cA h S) (Nat.le_of_ble_eq_true rfl) ?_
  intro p e s m args below meth c Q H locs C0 hW fin ls hl
  have hl : lv_has ls 2 [(0, .ref (h 0))] := hl
  have hx := C0.1
  have hb := C0.2.1
  have hown := C0.2.2.2.1
  have hts := C0.2.2.2.2
  have w38 : ∀ (K4 : zSt → Option zSt) (hK4 : ∀  (S : zSt) (H : Heap) (locs : List Loc), zW zTr D (tR cA) (wR cA h S) (aW (hsR h) s.heap.size) s H locs → ∀ ls : Array Slot, lv_has ls 2 [(0, .ref (h 0))] → K4 S = some S1 → W p l e (zRm (g + 1)) s m args below meth c H locs 0 0 Q (F0 m 4 ls [])) , ∀  (S : zSt) (H : Heap) (locs : List Loc), zW zTr D (tR cA) (wR cA h S) (aW (hsR h) s.heap.size) s H locs → ∀ ls : Array Slot, lv_has ls 2 [(0, .ref (h 0))] → fX12_product_b38 G N K4 S = some S1 → W p l e (zRm (g + 1)) s m args below meth c H locs 0 0 Q (F0 m 38 ls []) := by
    intro K4 hK4
    intro S H locs hW ls hl hf
    unfold fX12_product_b38 at hf
    refine lv_aload_n (pc := 38) hx hb dX12_product_38 rfl (lv_at hl 0 rfl) ?_
    obtain ⟨r1, S2, e3, hf⟩ := zB_e hf
    refine zcVi zTr_ok (As := []) (pc := 39) C0 hW (kX12_look l D cA h H.size S r1 S2 e3) (cwV 0 hts (zgV gaR mR_107 mR_108 mR_109 mR_46 mR_96) rfl rfl rfl (by decide +kernel) (zRm_k g (Nat.le_of_ble_eq_true rfl) (Nat.le_of_ble_eq_true rfl))) (va_recv hW.1 hW.2.1 (ci := 12) (q0 := 0) rfl rfl) rfl hl.1 rfl (Nat.le_of_ble_eq_true rfl) dX12_product_39 (fun H locs hW => ?_)
    refine lv_istore_n (pc := 42) (lv' := [(1, .int r1), (0, .ref (h 0))]) hx hb dX12_product_42 rfl hl (by decide) rfl (fun ls hl => ?_)
    refine lv_aload_n (pc := 43) hx hb dX12_product_43 rfl (lv_at hl 1 rfl) ?_
    refine lv_dup (pc := 44) hx hb dX12_product_44 rfl ?_
    refine rg_13 (pc := 45) C0 hu_12 hW mR_55 dX12_product_45 ?_
    refine lv_iconst (pc := 48) (v := 1) hx hb dX12_product_48 (by decide) ?_
    refine lv_iadd (pc := 49) hx hb dX12_product_49 ?_
    obtain ⟨S4, e_S4, hf⟩ := zL_e hf
    refine rp_13 (pc := 50) C0 hu_12 hW mR_55 e_S4 dX12_product_50 (fun H locs hW => ?_)
    refine lv_aload_n (pc := 53) hx hb dX12_product_53 rfl (lv_at hl 1 rfl) ?_
    obtain ⟨S6, e7, hf⟩ := zU_e hf
    refine zcVv zTr_ok (As := []) (pc := 54) C0 hW (hG_operand H.size S4 S6 e7) (cwV 0 hts (zgV gaR mR_119 mR_120 mR_121 mR_46 mR_113) rfl rfl rfl (by decide +kernel) (zRm_up g (Nat.le_of_ble_eq_true rfl))) (va_recv hW.1 hW.2.1 (ci := 12) (q0 := 0) rfl rfl) rfl hl.1 rfl (Nat.le_of_ble_eq_true rfl) dX12_product_54 (fun H locs hW => ?_)
    refine lv_aload_n (pc := 57) hx hb dX12_product_57 rfl (lv_at hl 1 rfl) ?_
    refine lv_iload_n (pc := 58) hx hb dX12_product_58 rfl (lv_at hl 0 rfl) ?_
    refine lv_iconst (pc := 59) (v := 0) hx hb dX12_product_59 (by decide) ?_
    obtain ⟨S9, e10, hf⟩ := zU_e hf
    refine zcVv zTr_ok (As := [.int r1, .int 0]) (pc := 60) C0 hW (kX12_addStep l D cA h H.size r1 0 S6 S9 e10) (cwV 2 hts (zgV gaR mR_110 mR_111 mR_112 mR_46 mR_98) rfl rfl rfl (by decide +kernel) (zRm_k g (Nat.le_of_ble_eq_true rfl) (Nat.le_of_ble_eq_true rfl))) (va_recv hW.1 hW.2.1 (ci := 12) (q0 := 0) rfl rfl) rfl hl.1 rfl (Nat.le_of_ble_eq_true rfl) dX12_product_60 (fun H locs hW => ?_)
    refine lv_goto (pc := 63) (tgt := 4) hx hb dX12_product_63 (by decide) ?_
    exact hK4 S9 H locs hW ls (lv_sub hl [1] rfl) hf
  have w4 : ∀ (n : Nat), ∀  (S : zSt) (H : Heap) (locs : List Loc), zW zTr D (tR cA) (wR cA h S) (aW (hsR h) s.heap.size) s H locs → ∀ ls : Array Slot, lv_has ls 2 [(0, .ref (h 0))] → fX12_product_b4 G N n S = some S1 → W p l e (zRm (g + 1)) s m args below meth c H locs 0 0 Q (F0 m 4 ls []) := by
    intro n
    induction n with
    | zero =>
      intro S H locs hW ls hl hf
      exact absurd hf (by intro h; cases h)
    | succ n ih =>
      intro S H locs hW ls hl hf
      rw [fX12_product_b4] at hf
      refine lv_aload_n (pc := 4) hx hb dX12_product_4 rfl (lv_at hl 0 rfl) ?_
      refine rg_14 (pc := 5) C0 hu_12 hW mR_54 dX12_product_5 ?_
      refine lv_if_ge (pc := 8) (tgt := 66) hx hb dX12_product_8 (by decide) (fun c11 => ?_) (fun c11 => ?_)
      · have hf := zt c11 hf
        exact zend_v (w := wR cA h) fin hf hW dX12_product_66
      · have hf := zf c11 hf
        refine lv_aload_n (pc := 11) hx hb dX12_product_11 rfl (lv_at hl 0 rfl) ?_
        obtain ⟨r12, S13, e14, hf⟩ := zB_e hf
        refine zcVi zTr_ok (As := []) (pc := 12) C0 hW (kX12_look l D cA h H.size S r12 S13 e14) (cwV 0 hts (zgV gaR mR_107 mR_108 mR_109 mR_46 mR_96) rfl rfl rfl (by decide +kernel) (zRm_k g (Nat.le_of_ble_eq_true rfl) (Nat.le_of_ble_eq_true rfl))) (va_recv hW.1 hW.2.1 (ci := 12) (q0 := 0) rfl rfl) rfl hl.1 rfl (Nat.le_of_ble_eq_true rfl) dX12_product_12 (fun H locs hW => ?_)
        refine lv_bipush (pc := 15) (v := 42) hx hb dX12_product_15 (by decide) ?_
        refine lv_icmp_eq (pc := 17) (tgt := 38) hx hb dX12_product_17 (by decide) (fun c15 => ?_) (fun c15 => ?_)
        · have hf := zt c15 hf
          exact w38 (fX12_product_b4 G N n) ih S13 H locs hW ls (lv_sub hl [0] rfl) hf
        · have hf := zf c15 hf
          refine lv_aload_n (pc := 20) hx hb dX12_product_20 rfl (lv_at hl 0 rfl) ?_
          obtain ⟨r16, S17, e18, hf⟩ := zB_e hf
          refine zcVi zTr_ok (As := []) (pc := 21) C0 hW (kX12_look l D cA h H.size S13 r16 S17 e18) (cwV 0 hts (zgV gaR mR_107 mR_108 mR_109 mR_46 mR_96) rfl rfl rfl (by decide +kernel) (zRm_k g (Nat.le_of_ble_eq_true rfl) (Nat.le_of_ble_eq_true rfl))) (va_recv hW.1 hW.2.1 (ci := 12) (q0 := 0) rfl rfl) rfl hl.1 rfl (Nat.le_of_ble_eq_true rfl) dX12_product_21 (fun H locs hW => ?_)
          refine lv_bipush (pc := 24) (v := 47) hx hb dX12_product_24 (by decide) ?_
          refine lv_icmp_eq (pc := 26) (tgt := 38) hx hb dX12_product_26 (by decide) (fun c19 => ?_) (fun c19 => ?_)
          · have hf := zt c19 hf
            exact w38 (fX12_product_b4 G N n) ih S17 H locs hW ls (lv_sub hl [0] rfl) hf
          · have hf := zf c19 hf
            refine lv_aload_n (pc := 29) hx hb dX12_product_29 rfl (lv_at hl 0 rfl) ?_
            obtain ⟨r20, S21, e22, hf⟩ := zB_e hf
            refine zcVi zTr_ok (As := []) (pc := 30) C0 hW (kX12_look l D cA h H.size S17 r20 S21 e22) (cwV 0 hts (zgV gaR mR_107 mR_108 mR_109 mR_46 mR_96) rfl rfl rfl (by decide +kernel) (zRm_k g (Nat.le_of_ble_eq_true rfl) (Nat.le_of_ble_eq_true rfl))) (va_recv hW.1 hW.2.1 (ci := 12) (q0 := 0) rfl rfl) rfl hl.1 rfl (Nat.le_of_ble_eq_true rfl) dX12_product_30 (fun H locs hW => ?_)
            refine lv_bipush (pc := 33) (v := 37) hx hb dX12_product_33 (by decide) ?_
            refine lv_icmp_ne (pc := 35) (tgt := 66) hx hb dX12_product_35 (by decide) (fun c23 => ?_) (fun c23 => ?_)
            · have hf := zf c23 hf
              exact zend_v (w := wR cA h) fin hf hW dX12_product_66
            · have hf := zt c23 hf
              exact w38 (fX12_product_b4 G N n) ih S21 H locs hW ls (lv_sub hl [0] rfl) hf
  unfold fX12_product_o at hf
  refine lv_aload_n (pc := 0) hx hb dX12_product_0 rfl (lv_at hl 0 rfl) ?_
  obtain ⟨S25, e26, hf⟩ := zU_e hf
  refine zcVv zTr_ok (As := []) (pc := 1) C0 hW (hG_operand H.size S S25 e26) (cwV 0 hts (zgV gaR mR_119 mR_120 mR_121 mR_46 mR_113) rfl rfl rfl (by decide +kernel) (zRm_up g (Nat.le_of_ble_eq_true rfl))) (va_recv hW.1 hW.2.1 (ci := 12) (q0 := 0) rfl rfl) rfl hl.1 rfl (Nat.le_of_ble_eq_true rfl) dX12_product_1 (fun H locs hW => ?_)
  exact w4 N S25 H locs hW ls (lv_sub hl [0] rfl) hf

def fX12_sum_b29 (G : (zSt → Option zSt) × (zSt → Option zSt) × (zSt → Option zSt) × (zSt → Option zSt) × (zSt → Option zSt) × (zSt → Option zSt)) (N : Nat) (K4 : zSt → Option zSt) (S : zSt) : Option zSt :=
  zB (fX12_look S) fun r1 S2 => zL (zI S2 13 ((S2.1 13) + 1)) fun S4 => zU (G.2.1 S4) fun S6 => zU (fX12_addStep r1 0 S6) fun S9 => K4 S9
def fX12_sum_b4 (G : (zSt → Option zSt) × (zSt → Option zSt) × (zSt → Option zSt) × (zSt → Option zSt) × (zSt → Option zSt) × (zSt → Option zSt)) (N : Nat) : Nat → zSt → Option zSt
  | 0, _ => none
  | n + 1, S =>
    if 0 ≤ (S.1 14) then (some S) else (zB (fX12_look S) fun r12 S13 => if r12 = 43 then (fX12_sum_b29 G N (fX12_sum_b4 G N n) S13) else (zB (fX12_look S13) fun r16 S17 => if r16 = 45 then (fX12_sum_b29 G N (fX12_sum_b4 G N n) S17) else (some S17)))
def fX12_sum_o (G : (zSt → Option zSt) × (zSt → Option zSt) × (zSt → Option zSt) × (zSt → Option zSt) × (zSt → Option zSt) × (zSt → Option zSt)) (N : Nat) (S : zSt) : Option zSt :=
  zU (G.2.1 S) fun S21 => fX12_sum_b4 G N N S21
set_option maxHeartbeats 4000000 in
set_option maxRecDepth 100000 in
theorem kX12_sum_o (l : Launch) (D : va_G) (cA : Nat → ClassId) (h : Nat → Nat) (sz : Nat) (N : Nat) (g : Nat) (G : (zSt → Option zSt) × (zSt → Option zSt) × (zSt → Option zSt) × (zSt → Option zSt) × (zSt → Option zSt) × (zSt → Option zSt)) (hG_operand : ∀ (sz : Nat)  (S : zSt) (S1 : zSt), G.1 S = some S1 → zMv l yX12_operand wX12_operand (zRm g) zTr D (tR cA) (hsR h) [.ref (h 0)] (wR cA h S) (wR cA h S1) sz) (hG_product : ∀ (sz : Nat)  (S : zSt) (S1 : zSt), G.2.1 S = some S1 → zMv l yX12_product wX12_product (zRm g) zTr D (tR cA) (hsR h) [.ref (h 0)] (wR cA h S) (wR cA h S1) sz) (hG_sum : ∀ (sz : Nat)  (S : zSt) (S1 : zSt), G.2.2.1 S = some S1 → zMv l yX12_sum wX12_sum (zRm g) zTr D (tR cA) (hsR h) [.ref (h 0)] (wR cA h S) (wR cA h S1) sz) (hG_compared : ∀ (sz : Nat)  (S : zSt) (S1 : zSt), G.2.2.2.1 S = some S1 → zMv l yX12_compared wX12_compared (zRm g) zTr D (tR cA) (hsR h) [.ref (h 0)] (wR cA h S) (wR cA h S1) sz) (hG_both : ∀ (sz : Nat)  (S : zSt) (S1 : zSt), G.2.2.2.2.1 S = some S1 → zMv l yX12_both wX12_both (zRm g) zTr D (tR cA) (hsR h) [.ref (h 0)] (wR cA h S) (wR cA h S1) sz) (hG_either : ∀ (sz : Nat)  (S : zSt) (S1 : zSt), G.2.2.2.2.2 S = some S1 → zMv l yX12_either wX12_either (zRm g) zTr D (tR cA) (hsR h) [.ref (h 0)] (wR cA h S) (wR cA h S1) sz)   (S : zSt) (S1 : zSt) (hf : fX12_sum_o G N S = some S1) : zMv l yX12_sum wX12_sum (zRm (g + 1)) zTr D (tR cA) (hsR h) [.ref (h 0)] (wR cA h S) (wR cA h S1) sz := by
  refine zEn_v (cc := cX12_sum) (maxL := 2) (own := RX12) (by decide) rfl rfl (hmR cA h S) (Nat.le_of_ble_eq_true rfl) ?_
  intro p e s m args below meth c Q H locs C0 hW fin ls hl
  have hl : lv_has ls 2 [(0, .ref (h 0))] := hl
  have hx := C0.1
  have hb := C0.2.1
  have hown := C0.2.2.2.1
  have hts := C0.2.2.2.2
  have w29 : ∀ (K4 : zSt → Option zSt) (hK4 : ∀  (S : zSt) (H : Heap) (locs : List Loc), zW zTr D (tR cA) (wR cA h S) (aW (hsR h) s.heap.size) s H locs → ∀ ls : Array Slot, lv_has ls 2 [(0, .ref (h 0))] → K4 S = some S1 → W p l e (zRm (g + 1)) s m args below meth c H locs 0 0 Q (F0 m 4 ls [])) , ∀  (S : zSt) (H : Heap) (locs : List Loc), zW zTr D (tR cA) (wR cA h S) (aW (hsR h) s.heap.size) s H locs → ∀ ls : Array Slot, lv_has ls 2 [(0, .ref (h 0))] → fX12_sum_b29 G N K4 S = some S1 → W p l e (zRm (g + 1)) s m args below meth c H locs 0 0 Q (F0 m 29 ls []) := by
    intro K4 hK4
    intro S H locs hW ls hl hf
    unfold fX12_sum_b29 at hf
    refine lv_aload_n (pc := 29) hx hb dX12_sum_29 rfl (lv_at hl 0 rfl) ?_
    obtain ⟨r1, S2, e3, hf⟩ := zB_e hf
    refine zcVi zTr_ok (As := []) (pc := 30) C0 hW (kX12_look l D cA h H.size S r1 S2 e3) (cwV 0 hts (zgV gaR mR_107 mR_108 mR_109 mR_46 mR_96) rfl rfl rfl (by decide +kernel) (zRm_k g (Nat.le_of_ble_eq_true rfl) (Nat.le_of_ble_eq_true rfl))) (va_recv hW.1 hW.2.1 (ci := 12) (q0 := 0) rfl rfl) rfl hl.1 rfl (Nat.le_of_ble_eq_true rfl) dX12_sum_30 (fun H locs hW => ?_)
    refine lv_istore_n (pc := 33) (lv' := [(1, .int r1), (0, .ref (h 0))]) hx hb dX12_sum_33 rfl hl (by decide) rfl (fun ls hl => ?_)
    refine lv_aload_n (pc := 34) hx hb dX12_sum_34 rfl (lv_at hl 1 rfl) ?_
    refine lv_dup (pc := 35) hx hb dX12_sum_35 rfl ?_
    refine rg_13 (pc := 36) C0 hu_12 hW mR_55 dX12_sum_36 ?_
    refine lv_iconst (pc := 39) (v := 1) hx hb dX12_sum_39 (by decide) ?_
    refine lv_iadd (pc := 40) hx hb dX12_sum_40 ?_
    obtain ⟨S4, e_S4, hf⟩ := zL_e hf
    refine rp_13 (pc := 41) C0 hu_12 hW mR_55 e_S4 dX12_sum_41 (fun H locs hW => ?_)
    refine lv_aload_n (pc := 44) hx hb dX12_sum_44 rfl (lv_at hl 1 rfl) ?_
    obtain ⟨S6, e7, hf⟩ := zU_e hf
    refine zcVv zTr_ok (As := []) (pc := 45) C0 hW (hG_product H.size S4 S6 e7) (cwV 0 hts (zgV gaR mR_142 mR_143 mR_144 mR_46 mR_140) rfl rfl rfl (by decide +kernel) (zRm_up g (Nat.le_of_ble_eq_true rfl))) (va_recv hW.1 hW.2.1 (ci := 12) (q0 := 0) rfl rfl) rfl hl.1 rfl (Nat.le_of_ble_eq_true rfl) dX12_sum_45 (fun H locs hW => ?_)
    refine lv_aload_n (pc := 48) hx hb dX12_sum_48 rfl (lv_at hl 1 rfl) ?_
    refine lv_iload_n (pc := 49) hx hb dX12_sum_49 rfl (lv_at hl 0 rfl) ?_
    refine lv_iconst (pc := 50) (v := 0) hx hb dX12_sum_50 (by decide) ?_
    obtain ⟨S9, e10, hf⟩ := zU_e hf
    refine zcVv zTr_ok (As := [.int r1, .int 0]) (pc := 51) C0 hW (kX12_addStep l D cA h H.size r1 0 S6 S9 e10) (cwV 2 hts (zgV gaR mR_110 mR_111 mR_112 mR_46 mR_98) rfl rfl rfl (by decide +kernel) (zRm_k g (Nat.le_of_ble_eq_true rfl) (Nat.le_of_ble_eq_true rfl))) (va_recv hW.1 hW.2.1 (ci := 12) (q0 := 0) rfl rfl) rfl hl.1 rfl (Nat.le_of_ble_eq_true rfl) dX12_sum_51 (fun H locs hW => ?_)
    refine lv_goto (pc := 54) (tgt := 4) hx hb dX12_sum_54 (by decide) ?_
    exact hK4 S9 H locs hW ls (lv_sub hl [1] rfl) hf
  have w4 : ∀ (n : Nat), ∀  (S : zSt) (H : Heap) (locs : List Loc), zW zTr D (tR cA) (wR cA h S) (aW (hsR h) s.heap.size) s H locs → ∀ ls : Array Slot, lv_has ls 2 [(0, .ref (h 0))] → fX12_sum_b4 G N n S = some S1 → W p l e (zRm (g + 1)) s m args below meth c H locs 0 0 Q (F0 m 4 ls []) := by
    intro n
    induction n with
    | zero =>
      intro S H locs hW ls hl hf
      exact absurd hf (by intro h; cases h)
    | succ n ih =>
      intro S H locs hW ls hl hf
      rw [fX12_sum_b4] at hf
      refine lv_aload_n (pc := 4) hx hb dX12_sum_4 rfl (lv_at hl 0 rfl) ?_
      refine rg_14 (pc := 5) C0 hu_12 hW mR_54 dX12_sum_5 ?_
      refine lv_if_ge (pc := 8) (tgt := 57) hx hb dX12_sum_8 (by decide) (fun c11 => ?_) (fun c11 => ?_)
      · have hf := zt c11 hf
        exact zend_v (w := wR cA h) fin hf hW dX12_sum_57
      · have hf := zf c11 hf
        refine lv_aload_n (pc := 11) hx hb dX12_sum_11 rfl (lv_at hl 0 rfl) ?_
        obtain ⟨r12, S13, e14, hf⟩ := zB_e hf
        refine zcVi zTr_ok (As := []) (pc := 12) C0 hW (kX12_look l D cA h H.size S r12 S13 e14) (cwV 0 hts (zgV gaR mR_107 mR_108 mR_109 mR_46 mR_96) rfl rfl rfl (by decide +kernel) (zRm_k g (Nat.le_of_ble_eq_true rfl) (Nat.le_of_ble_eq_true rfl))) (va_recv hW.1 hW.2.1 (ci := 12) (q0 := 0) rfl rfl) rfl hl.1 rfl (Nat.le_of_ble_eq_true rfl) dX12_sum_12 (fun H locs hW => ?_)
        refine lv_bipush (pc := 15) (v := 43) hx hb dX12_sum_15 (by decide) ?_
        refine lv_icmp_eq (pc := 17) (tgt := 29) hx hb dX12_sum_17 (by decide) (fun c15 => ?_) (fun c15 => ?_)
        · have hf := zt c15 hf
          exact w29 (fX12_sum_b4 G N n) ih S13 H locs hW ls (lv_sub hl [0] rfl) hf
        · have hf := zf c15 hf
          refine lv_aload_n (pc := 20) hx hb dX12_sum_20 rfl (lv_at hl 0 rfl) ?_
          obtain ⟨r16, S17, e18, hf⟩ := zB_e hf
          refine zcVi zTr_ok (As := []) (pc := 21) C0 hW (kX12_look l D cA h H.size S13 r16 S17 e18) (cwV 0 hts (zgV gaR mR_107 mR_108 mR_109 mR_46 mR_96) rfl rfl rfl (by decide +kernel) (zRm_k g (Nat.le_of_ble_eq_true rfl) (Nat.le_of_ble_eq_true rfl))) (va_recv hW.1 hW.2.1 (ci := 12) (q0 := 0) rfl rfl) rfl hl.1 rfl (Nat.le_of_ble_eq_true rfl) dX12_sum_21 (fun H locs hW => ?_)
          refine lv_bipush (pc := 24) (v := 45) hx hb dX12_sum_24 (by decide) ?_
          refine lv_icmp_ne (pc := 26) (tgt := 57) hx hb dX12_sum_26 (by decide) (fun c19 => ?_) (fun c19 => ?_)
          · have hf := zf c19 hf
            exact zend_v (w := wR cA h) fin hf hW dX12_sum_57
          · have hf := zt c19 hf
            exact w29 (fX12_sum_b4 G N n) ih S17 H locs hW ls (lv_sub hl [0] rfl) hf
  unfold fX12_sum_o at hf
  refine lv_aload_n (pc := 0) hx hb dX12_sum_0 rfl (lv_at hl 0 rfl) ?_
  obtain ⟨S21, e22, hf⟩ := zU_e hf
  refine zcVv zTr_ok (As := []) (pc := 1) C0 hW (hG_product H.size S S21 e22) (cwV 0 hts (zgV gaR mR_142 mR_143 mR_144 mR_46 mR_140) rfl rfl rfl (by decide +kernel) (zRm_up g (Nat.le_of_ble_eq_true rfl))) (va_recv hW.1 hW.2.1 (ci := 12) (q0 := 0) rfl rfl) rfl hl.1 rfl (Nat.le_of_ble_eq_true rfl) dX12_sum_1 (fun H locs hW => ?_)
  exact w4 N S21 H locs hW ls (lv_sub hl [0] rfl) hf

def fX12_compared_b35 (G : (zSt → Option zSt) × (zSt → Option zSt) × (zSt → Option zSt) × (zSt → Option zSt) × (zSt → Option zSt) × (zSt → Option zSt)) (N : Nat) (v1 : Int32) (S : zSt) : Option zSt :=
  zL (zI S 13 ((S.1 13) + 1)) fun S1 => zU (G.2.2.1 S1) fun S3 => zU (fX12_addStep v1 0 S3) fun S6 => some S6
def fX12_compared_o (G : (zSt → Option zSt) × (zSt → Option zSt) × (zSt → Option zSt) × (zSt → Option zSt) × (zSt → Option zSt) × (zSt → Option zSt)) (N : Nat) (S : zSt) : Option zSt :=
  zU (G.2.2.1 S) fun S9 => zB (fX12_look S9) fun r11 S12 => if 0 ≤ (S12.1 14) then (some S12) else (if r11 = 60 then (fX12_compared_b35 G N r11 S12) else (if r11 = 61 then (fX12_compared_b35 G N r11 S12) else (if r11 = 62 then (fX12_compared_b35 G N r11 S12) else (some S12))))
set_option maxHeartbeats 4000000 in
set_option maxRecDepth 100000 in
theorem kX12_compared_o (l : Launch) (D : va_G) (cA : Nat → ClassId) (h : Nat → Nat) (sz : Nat) (N : Nat) (g : Nat) (G : (zSt → Option zSt) × (zSt → Option zSt) × (zSt → Option zSt) × (zSt → Option zSt) × (zSt → Option zSt) × (zSt → Option zSt)) (hG_operand : ∀ (sz : Nat)  (S : zSt) (S1 : zSt), G.1 S = some S1 → zMv l yX12_operand wX12_operand (zRm g) zTr D (tR cA) (hsR h) [.ref (h 0)] (wR cA h S) (wR cA h S1) sz) (hG_product : ∀ (sz : Nat)  (S : zSt) (S1 : zSt), G.2.1 S = some S1 → zMv l yX12_product wX12_product (zRm g) zTr D (tR cA) (hsR h) [.ref (h 0)] (wR cA h S) (wR cA h S1) sz) (hG_sum : ∀ (sz : Nat)  (S : zSt) (S1 : zSt), G.2.2.1 S = some S1 → zMv l yX12_sum wX12_sum (zRm g) zTr D (tR cA) (hsR h) [.ref (h 0)] (wR cA h S) (wR cA h S1) sz) (hG_compared : ∀ (sz : Nat)  (S : zSt) (S1 : zSt), G.2.2.2.1 S = some S1 → zMv l yX12_compared wX12_compared (zRm g) zTr D (tR cA) (hsR h) [.ref (h 0)] (wR cA h S) (wR cA h S1) sz) (hG_both : ∀ (sz : Nat)  (S : zSt) (S1 : zSt), G.2.2.2.2.1 S = some S1 → zMv l yX12_both wX12_both (zRm g) zTr D (tR cA) (hsR h) [.ref (h 0)] (wR cA h S) (wR cA h S1) sz) (hG_either : ∀ (sz : Nat)  (S : zSt) (S1 : zSt), G.2.2.2.2.2 S = some S1 → zMv l yX12_either wX12_either (zRm g) zTr D (tR cA) (hsR h) [.ref (h 0)] (wR cA h S) (wR cA h S1) sz)   (S : zSt) (S1 : zSt) (hf : fX12_compared_o G N S = some S1) : zMv l yX12_compared wX12_compared (zRm (g + 1)) zTr D (tR cA) (hsR h) [.ref (h 0)] (wR cA h S) (wR cA h S1) sz := by
  refine zEn_v (cc := cX12_compared) (maxL := 2) (own := RX12) (by decide) rfl rfl (hmR cA h S) (Nat.le_of_ble_eq_true rfl) ?_
  intro p e s m args below meth c Q H locs C0 hW fin ls hl
  have hl : lv_has ls 2 [(0, .ref (h 0))] := hl
  have hx := C0.1
  have hb := C0.2.1
  have hown := C0.2.2.2.1
  have hts := C0.2.2.2.2
  have w35 : ∀ (v1 : Int32) (S : zSt) (H : Heap) (locs : List Loc), zW zTr D (tR cA) (wR cA h S) (aW (hsR h) s.heap.size) s H locs → ∀ ls : Array Slot, lv_has ls 2 [(0, .ref (h 0)), (1, .int v1)] → fX12_compared_b35 G N v1 S = some S1 → W p l e (zRm (g + 1)) s m args below meth c H locs 0 0 Q (F0 m 35 ls []) := by
    intro v1 S H locs hW ls hl hf
    unfold fX12_compared_b35 at hf
    refine lv_aload_n (pc := 35) hx hb dX12_compared_35 rfl (lv_at hl 0 rfl) ?_
    refine lv_dup (pc := 36) hx hb dX12_compared_36 rfl ?_
    refine rg_13 (pc := 37) C0 hu_12 hW mR_55 dX12_compared_37 ?_
    refine lv_iconst (pc := 40) (v := 1) hx hb dX12_compared_40 (by decide) ?_
    refine lv_iadd (pc := 41) hx hb dX12_compared_41 ?_
    obtain ⟨S1, e_S1, hf⟩ := zL_e hf
    refine rp_13 (pc := 42) C0 hu_12 hW mR_55 e_S1 dX12_compared_42 (fun H locs hW => ?_)
    refine lv_aload_n (pc := 45) hx hb dX12_compared_45 rfl (lv_at hl 0 rfl) ?_
    obtain ⟨S3, e4, hf⟩ := zU_e hf
    refine zcVv zTr_ok (As := []) (pc := 46) C0 hW (hG_sum H.size S1 S3 e4) (cwV 0 hts (zgV gaR mR_133 mR_134 mR_135 mR_46 mR_141) rfl rfl rfl (by decide +kernel) (zRm_up g (Nat.le_of_ble_eq_true rfl))) (va_recv hW.1 hW.2.1 (ci := 12) (q0 := 0) rfl rfl) rfl hl.1 rfl (Nat.le_of_ble_eq_true rfl) dX12_compared_46 (fun H locs hW => ?_)
    refine lv_aload_n (pc := 49) hx hb dX12_compared_49 rfl (lv_at hl 0 rfl) ?_
    refine lv_iload_n (pc := 50) hx hb dX12_compared_50 rfl (lv_at hl 1 rfl) ?_
    refine lv_iconst (pc := 51) (v := 0) hx hb dX12_compared_51 (by decide) ?_
    obtain ⟨S6, e7, hf⟩ := zU_e hf
    refine zcVv zTr_ok (As := [.int v1, .int 0]) (pc := 52) C0 hW (kX12_addStep l D cA h H.size v1 0 S3 S6 e7) (cwV 2 hts (zgV gaR mR_110 mR_111 mR_112 mR_46 mR_98) rfl rfl rfl (by decide +kernel) (zRm_k g (Nat.le_of_ble_eq_true rfl) (Nat.le_of_ble_eq_true rfl))) (va_recv hW.1 hW.2.1 (ci := 12) (q0 := 0) rfl rfl) rfl hl.1 rfl (Nat.le_of_ble_eq_true rfl) dX12_compared_52 (fun H locs hW => ?_)
    exact zend_v (w := wR cA h) fin hf hW dX12_compared_55
  unfold fX12_compared_o at hf
  refine lv_aload_n (pc := 0) hx hb dX12_compared_0 rfl (lv_at hl 0 rfl) ?_
  obtain ⟨S9, e10, hf⟩ := zU_e hf
  refine zcVv zTr_ok (As := []) (pc := 1) C0 hW (hG_sum H.size S S9 e10) (cwV 0 hts (zgV gaR mR_133 mR_134 mR_135 mR_46 mR_141) rfl rfl rfl (by decide +kernel) (zRm_up g (Nat.le_of_ble_eq_true rfl))) (va_recv hW.1 hW.2.1 (ci := 12) (q0 := 0) rfl rfl) rfl hl.1 rfl (Nat.le_of_ble_eq_true rfl) dX12_compared_1 (fun H locs hW => ?_)
  refine lv_aload_n (pc := 4) hx hb dX12_compared_4 rfl (lv_at hl 0 rfl) ?_
  obtain ⟨r11, S12, e13, hf⟩ := zB_e hf
  refine zcVi zTr_ok (As := []) (pc := 5) C0 hW (kX12_look l D cA h H.size S9 r11 S12 e13) (cwV 0 hts (zgV gaR mR_107 mR_108 mR_109 mR_46 mR_96) rfl rfl rfl (by decide +kernel) (zRm_k g (Nat.le_of_ble_eq_true rfl) (Nat.le_of_ble_eq_true rfl))) (va_recv hW.1 hW.2.1 (ci := 12) (q0 := 0) rfl rfl) rfl hl.1 rfl (Nat.le_of_ble_eq_true rfl) dX12_compared_5 (fun H locs hW => ?_)
  refine lv_istore_n (pc := 8) (lv' := [(1, .int r11), (0, .ref (h 0))]) hx hb dX12_compared_8 rfl hl (by decide) rfl (fun ls hl => ?_)
  refine lv_aload_n (pc := 9) hx hb dX12_compared_9 rfl (lv_at hl 1 rfl) ?_
  refine rg_14 (pc := 10) C0 hu_12 hW mR_54 dX12_compared_10 ?_
  refine lv_if_ge (pc := 13) (tgt := 34) hx hb dX12_compared_13 (by decide) (fun c14 => ?_) (fun c14 => ?_)
  · have hf := zt c14 hf
    exact zend_v (w := wR cA h) fin hf hW dX12_compared_34
  · have hf := zf c14 hf
    refine lv_iload_n (pc := 16) hx hb dX12_compared_16 rfl (lv_at hl 0 rfl) ?_
    refine lv_bipush (pc := 17) (v := 60) hx hb dX12_compared_17 (by decide) ?_
    refine lv_icmp_eq (pc := 19) (tgt := 35) hx hb dX12_compared_19 (by decide) (fun c15 => ?_) (fun c15 => ?_)
    · have hf := zt c15 hf
      exact w35 r11 S12 H locs hW ls (lv_sub hl [1, 0] rfl) hf
    · have hf := zf c15 hf
      refine lv_iload_n (pc := 22) hx hb dX12_compared_22 rfl (lv_at hl 0 rfl) ?_
      refine lv_bipush (pc := 23) (v := 61) hx hb dX12_compared_23 (by decide) ?_
      refine lv_icmp_eq (pc := 25) (tgt := 35) hx hb dX12_compared_25 (by decide) (fun c16 => ?_) (fun c16 => ?_)
      · have hf := zt c16 hf
        exact w35 r11 S12 H locs hW ls (lv_sub hl [1, 0] rfl) hf
      · have hf := zf c16 hf
        refine lv_iload_n (pc := 28) hx hb dX12_compared_28 rfl (lv_at hl 0 rfl) ?_
        refine lv_bipush (pc := 29) (v := 62) hx hb dX12_compared_29 (by decide) ?_
        refine lv_icmp_eq (pc := 31) (tgt := 35) hx hb dX12_compared_31 (by decide) (fun c17 => ?_) (fun c17 => ?_)
        · have hf := zt c17 hf
          exact w35 r11 S12 H locs hW ls (lv_sub hl [1, 0] rfl) hf
        · have hf := zf c17 hf
          exact zend_v (w := wR cA h) fin hf hW dX12_compared_34

def fX12_both_b4 (G : (zSt → Option zSt) × (zSt → Option zSt) × (zSt → Option zSt) × (zSt → Option zSt) × (zSt → Option zSt) × (zSt → Option zSt)) (N : Nat) : Nat → zSt → Option zSt
  | 0, _ => none
  | n + 1, S =>
    if 0 ≤ (S.1 14) then (some S) else (zB (fX12_look S) fun r2 S3 => if r2 = 38 then (zL (zI S3 13 ((S3.1 13) + 1)) fun S6 => zU (G.2.2.2.1 S6) fun S8 => zU (fX12_addStep 38 0 S8) fun S11 => fX12_both_b4 G N n S11) else (some S3))
def fX12_both_o (G : (zSt → Option zSt) × (zSt → Option zSt) × (zSt → Option zSt) × (zSt → Option zSt) × (zSt → Option zSt) × (zSt → Option zSt)) (N : Nat) (S : zSt) : Option zSt :=
  zU (G.2.2.2.1 S) fun S14 => fX12_both_b4 G N N S14
set_option maxHeartbeats 4000000 in
set_option maxRecDepth 100000 in
theorem kX12_both_o (l : Launch) (D : va_G) (cA : Nat → ClassId) (h : Nat → Nat) (sz : Nat) (N : Nat) (g : Nat) (G : (zSt → Option zSt) × (zSt → Option zSt) × (zSt → Option zSt) × (zSt → Option zSt) × (zSt → Option zSt) × (zSt → Option zSt)) (hG_operand : ∀ (sz : Nat)  (S : zSt) (S1 : zSt), G.1 S = some S1 → zMv l yX12_operand wX12_operand (zRm g) zTr D (tR cA) (hsR h) [.ref (h 0)] (wR cA h S) (wR cA h S1) sz) (hG_product : ∀ (sz : Nat)  (S : zSt) (S1 : zSt), G.2.1 S = some S1 → zMv l yX12_product wX12_product (zRm g) zTr D (tR cA) (hsR h) [.ref (h 0)] (wR cA h S) (wR cA h S1) sz) (hG_sum : ∀ (sz : Nat)  (S : zSt) (S1 : zSt), G.2.2.1 S = some S1 → zMv l yX12_sum wX12_sum (zRm g) zTr D (tR cA) (hsR h) [.ref (h 0)] (wR cA h S) (wR cA h S1) sz) (hG_compared : ∀ (sz : Nat)  (S : zSt) (S1 : zSt), G.2.2.2.1 S = some S1 → zMv l yX12_compared wX12_compared (zRm g) zTr D (tR cA) (hsR h) [.ref (h 0)] (wR cA h S) (wR cA h S1) sz) (hG_both : ∀ (sz : Nat)  (S : zSt) (S1 : zSt), G.2.2.2.2.1 S = some S1 → zMv l yX12_both wX12_both (zRm g) zTr D (tR cA) (hsR h) [.ref (h 0)] (wR cA h S) (wR cA h S1) sz) (hG_either : ∀ (sz : Nat)  (S : zSt) (S1 : zSt), G.2.2.2.2.2 S = some S1 → zMv l yX12_either wX12_either (zRm g) zTr D (tR cA) (hsR h) [.ref (h 0)] (wR cA h S) (wR cA h S1) sz)   (S : zSt) (S1 : zSt) (hf : fX12_both_o G N S = some S1) : zMv l yX12_both wX12_both (zRm (g + 1)) zTr D (tR cA) (hsR h) [.ref (h 0)] (wR cA h S) (wR cA h S1) sz := by
  refine zEn_v (cc := cX12_both) (maxL := 1) (own := RX12) (by decide) rfl rfl (hmR cA h S) (Nat.le_of_ble_eq_true rfl) ?_
  intro p e s m args below meth c Q H locs C0 hW fin ls hl
  have hl : lv_has ls 1 [(0, .ref (h 0))] := hl
  have hx := C0.1
  have hb := C0.2.1
  have hown := C0.2.2.2.1
  have hts := C0.2.2.2.2
  have w4 : ∀ (n : Nat), ∀  (S : zSt) (H : Heap) (locs : List Loc), zW zTr D (tR cA) (wR cA h S) (aW (hsR h) s.heap.size) s H locs → ∀ ls : Array Slot, lv_has ls 1 [(0, .ref (h 0))] → fX12_both_b4 G N n S = some S1 → W p l e (zRm (g + 1)) s m args below meth c H locs 0 0 Q (F0 m 4 ls []) := by
    intro n
    induction n with
    | zero =>
      intro S H locs hW ls hl hf
      exact absurd hf (by intro h; cases h)
    | succ n ih =>
      intro S H locs hW ls hl hf
      rw [fX12_both_b4] at hf
      refine lv_aload_n (pc := 4) hx hb dX12_both_4 rfl (lv_at hl 0 rfl) ?_
      refine rg_14 (pc := 5) C0 hu_12 hW mR_54 dX12_both_5 ?_
      refine lv_if_ge (pc := 8) (tgt := 44) hx hb dX12_both_8 (by decide) (fun c1 => ?_) (fun c1 => ?_)
      · have hf := zt c1 hf
        exact zend_v (w := wR cA h) fin hf hW dX12_both_44
      · have hf := zf c1 hf
        refine lv_aload_n (pc := 11) hx hb dX12_both_11 rfl (lv_at hl 0 rfl) ?_
        obtain ⟨r2, S3, e4, hf⟩ := zB_e hf
        refine zcVi zTr_ok (As := []) (pc := 12) C0 hW (kX12_look l D cA h H.size S r2 S3 e4) (cwV 0 hts (zgV gaR mR_107 mR_108 mR_109 mR_46 mR_96) rfl rfl rfl (by decide +kernel) (zRm_k g (Nat.le_of_ble_eq_true rfl) (Nat.le_of_ble_eq_true rfl))) (va_recv hW.1 hW.2.1 (ci := 12) (q0 := 0) rfl rfl) rfl hl.1 rfl (Nat.le_of_ble_eq_true rfl) dX12_both_12 (fun H locs hW => ?_)
        refine lv_bipush (pc := 15) (v := 38) hx hb dX12_both_15 (by decide) ?_
        refine lv_icmp_ne (pc := 17) (tgt := 44) hx hb dX12_both_17 (by decide) (fun c5 => ?_) (fun c5 => ?_)
        · have hf := zf c5 hf
          exact zend_v (w := wR cA h) fin hf hW dX12_both_44
        · have hf := zt c5 hf
          refine lv_aload_n (pc := 20) hx hb dX12_both_20 rfl (lv_at hl 0 rfl) ?_
          refine lv_dup (pc := 21) hx hb dX12_both_21 rfl ?_
          refine rg_13 (pc := 22) C0 hu_12 hW mR_55 dX12_both_22 ?_
          refine lv_iconst (pc := 25) (v := 1) hx hb dX12_both_25 (by decide) ?_
          refine lv_iadd (pc := 26) hx hb dX12_both_26 ?_
          obtain ⟨S6, e_S6, hf⟩ := zL_e hf
          refine rp_13 (pc := 27) C0 hu_12 hW mR_55 e_S6 dX12_both_27 (fun H locs hW => ?_)
          refine lv_aload_n (pc := 30) hx hb dX12_both_30 rfl (lv_at hl 0 rfl) ?_
          obtain ⟨S8, e9, hf⟩ := zU_e hf
          refine zcVv zTr_ok (As := []) (pc := 31) C0 hW (hG_compared H.size S6 S8 e9) (cwV 0 hts (zgV gaR mR_129 mR_130 mR_131 mR_46 mR_132) rfl rfl rfl (by decide +kernel) (zRm_up g (Nat.le_of_ble_eq_true rfl))) (va_recv hW.1 hW.2.1 (ci := 12) (q0 := 0) rfl rfl) rfl hl.1 rfl (Nat.le_of_ble_eq_true rfl) dX12_both_31 (fun H locs hW => ?_)
          refine lv_aload_n (pc := 34) hx hb dX12_both_34 rfl (lv_at hl 0 rfl) ?_
          refine lv_bipush (pc := 35) (v := 38) hx hb dX12_both_35 (by decide) ?_
          refine lv_iconst (pc := 37) (v := 0) hx hb dX12_both_37 (by decide) ?_
          obtain ⟨S11, e12, hf⟩ := zU_e hf
          refine zcVv zTr_ok (As := [.int 38, .int 0]) (pc := 38) C0 hW (kX12_addStep l D cA h H.size 38 0 S8 S11 e12) (cwV 2 hts (zgV gaR mR_110 mR_111 mR_112 mR_46 mR_98) rfl rfl rfl (by decide +kernel) (zRm_k g (Nat.le_of_ble_eq_true rfl) (Nat.le_of_ble_eq_true rfl))) (va_recv hW.1 hW.2.1 (ci := 12) (q0 := 0) rfl rfl) rfl hl.1 rfl (Nat.le_of_ble_eq_true rfl) dX12_both_38 (fun H locs hW => ?_)
          refine lv_goto (pc := 41) (tgt := 4) hx hb dX12_both_41 (by decide) ?_
          exact ih S11 H locs hW ls (lv_sub hl [0] rfl) hf
  unfold fX12_both_o at hf
  refine lv_aload_n (pc := 0) hx hb dX12_both_0 rfl (lv_at hl 0 rfl) ?_
  obtain ⟨S14, e15, hf⟩ := zU_e hf
  refine zcVv zTr_ok (As := []) (pc := 1) C0 hW (hG_compared H.size S S14 e15) (cwV 0 hts (zgV gaR mR_129 mR_130 mR_131 mR_46 mR_132) rfl rfl rfl (by decide +kernel) (zRm_up g (Nat.le_of_ble_eq_true rfl))) (va_recv hW.1 hW.2.1 (ci := 12) (q0 := 0) rfl rfl) rfl hl.1 rfl (Nat.le_of_ble_eq_true rfl) dX12_both_1 (fun H locs hW => ?_)
  exact w4 N S14 H locs hW ls (lv_sub hl [0] rfl) hf

def fX12_either_b4 (G : (zSt → Option zSt) × (zSt → Option zSt) × (zSt → Option zSt) × (zSt → Option zSt) × (zSt → Option zSt) × (zSt → Option zSt)) (N : Nat) : Nat → zSt → Option zSt
  | 0, _ => none
  | n + 1, S =>
    if 0 ≤ (S.1 14) then (some S) else (zB (fX12_look S) fun r2 S3 => if r2 = 124 then (zL (zI S3 13 ((S3.1 13) + 1)) fun S6 => zU (G.2.2.2.2.1 S6) fun S8 => zU (fX12_addStep 124 0 S8) fun S11 => fX12_either_b4 G N n S11) else (some S3))
def fX12_either_o (G : (zSt → Option zSt) × (zSt → Option zSt) × (zSt → Option zSt) × (zSt → Option zSt) × (zSt → Option zSt) × (zSt → Option zSt)) (N : Nat) (S : zSt) : Option zSt :=
  zU (G.2.2.2.2.1 S) fun S14 => fX12_either_b4 G N N S14
set_option maxHeartbeats 4000000 in
set_option maxRecDepth 100000 in
theorem kX12_either_o (l : Launch) (D : va_G) (cA : Nat → ClassId) (h : Nat → Nat) (sz : Nat) (N : Nat) (g : Nat) (G : (zSt → Option zSt) × (zSt → Option zSt) × (zSt → Option zSt) × (zSt → Option zSt) × (zSt → Option zSt) × (zSt → Option zSt)) (hG_operand : ∀ (sz : Nat)  (S : zSt) (S1 : zSt), G.1 S = some S1 → zMv l yX12_operand wX12_operand (zRm g) zTr D (tR cA) (hsR h) [.ref (h 0)] (wR cA h S) (wR cA h S1) sz) (hG_product : ∀ (sz : Nat)  (S : zSt) (S1 : zSt), G.2.1 S = some S1 → zMv l yX12_product wX12_product (zRm g) zTr D (tR cA) (hsR h) [.ref (h 0)] (wR cA h S) (wR cA h S1) sz) (hG_sum : ∀ (sz : Nat)  (S : zSt) (S1 : zSt), G.2.2.1 S = some S1 → zMv l yX12_sum wX12_sum (zRm g) zTr D (tR cA) (hsR h) [.ref (h 0)] (wR cA h S) (wR cA h S1) sz) (hG_compared : ∀ (sz : Nat)  (S : zSt) (S1 : zSt), G.2.2.2.1 S = some S1 → zMv l yX12_compared wX12_compared (zRm g) zTr D (tR cA) (hsR h) [.ref (h 0)] (wR cA h S) (wR cA h S1) sz) (hG_both : ∀ (sz : Nat)  (S : zSt) (S1 : zSt), G.2.2.2.2.1 S = some S1 → zMv l yX12_both wX12_both (zRm g) zTr D (tR cA) (hsR h) [.ref (h 0)] (wR cA h S) (wR cA h S1) sz) (hG_either : ∀ (sz : Nat)  (S : zSt) (S1 : zSt), G.2.2.2.2.2 S = some S1 → zMv l yX12_either wX12_either (zRm g) zTr D (tR cA) (hsR h) [.ref (h 0)] (wR cA h S) (wR cA h S1) sz)   (S : zSt) (S1 : zSt) (hf : fX12_either_o G N S = some S1) : zMv l yX12_either wX12_either (zRm (g + 1)) zTr D (tR cA) (hsR h) [.ref (h 0)] (wR cA h S) (wR cA h S1) sz := by
  refine zEn_v (cc := cX12_either) (maxL := 1) (own := RX12) (by decide) rfl rfl (hmR cA h S) (Nat.le_of_ble_eq_true rfl) ?_
  intro p e s m args below meth c Q H locs C0 hW fin ls hl
  have hl : lv_has ls 1 [(0, .ref (h 0))] := hl
  have hx := C0.1
  have hb := C0.2.1
  have hown := C0.2.2.2.1
  have hts := C0.2.2.2.2
  have w4 : ∀ (n : Nat), ∀  (S : zSt) (H : Heap) (locs : List Loc), zW zTr D (tR cA) (wR cA h S) (aW (hsR h) s.heap.size) s H locs → ∀ ls : Array Slot, lv_has ls 1 [(0, .ref (h 0))] → fX12_either_b4 G N n S = some S1 → W p l e (zRm (g + 1)) s m args below meth c H locs 0 0 Q (F0 m 4 ls []) := by
    intro n
    induction n with
    | zero =>
      intro S H locs hW ls hl hf
      exact absurd hf (by intro h; cases h)
    | succ n ih =>
      intro S H locs hW ls hl hf
      rw [fX12_either_b4] at hf
      refine lv_aload_n (pc := 4) hx hb dX12_either_4 rfl (lv_at hl 0 rfl) ?_
      refine rg_14 (pc := 5) C0 hu_12 hW mR_54 dX12_either_5 ?_
      refine lv_if_ge (pc := 8) (tgt := 44) hx hb dX12_either_8 (by decide) (fun c1 => ?_) (fun c1 => ?_)
      · have hf := zt c1 hf
        exact zend_v (w := wR cA h) fin hf hW dX12_either_44
      · have hf := zf c1 hf
        refine lv_aload_n (pc := 11) hx hb dX12_either_11 rfl (lv_at hl 0 rfl) ?_
        obtain ⟨r2, S3, e4, hf⟩ := zB_e hf
        refine zcVi zTr_ok (As := []) (pc := 12) C0 hW (kX12_look l D cA h H.size S r2 S3 e4) (cwV 0 hts (zgV gaR mR_107 mR_108 mR_109 mR_46 mR_96) rfl rfl rfl (by decide +kernel) (zRm_k g (Nat.le_of_ble_eq_true rfl) (Nat.le_of_ble_eq_true rfl))) (va_recv hW.1 hW.2.1 (ci := 12) (q0 := 0) rfl rfl) rfl hl.1 rfl (Nat.le_of_ble_eq_true rfl) dX12_either_12 (fun H locs hW => ?_)
        refine lv_bipush (pc := 15) (v := 124) hx hb dX12_either_15 (by decide) ?_
        refine lv_icmp_ne (pc := 17) (tgt := 44) hx hb dX12_either_17 (by decide) (fun c5 => ?_) (fun c5 => ?_)
        · have hf := zf c5 hf
          exact zend_v (w := wR cA h) fin hf hW dX12_either_44
        · have hf := zt c5 hf
          refine lv_aload_n (pc := 20) hx hb dX12_either_20 rfl (lv_at hl 0 rfl) ?_
          refine lv_dup (pc := 21) hx hb dX12_either_21 rfl ?_
          refine rg_13 (pc := 22) C0 hu_12 hW mR_55 dX12_either_22 ?_
          refine lv_iconst (pc := 25) (v := 1) hx hb dX12_either_25 (by decide) ?_
          refine lv_iadd (pc := 26) hx hb dX12_either_26 ?_
          obtain ⟨S6, e_S6, hf⟩ := zL_e hf
          refine rp_13 (pc := 27) C0 hu_12 hW mR_55 e_S6 dX12_either_27 (fun H locs hW => ?_)
          refine lv_aload_n (pc := 30) hx hb dX12_either_30 rfl (lv_at hl 0 rfl) ?_
          obtain ⟨S8, e9, hf⟩ := zU_e hf
          refine zcVv zTr_ok (As := []) (pc := 31) C0 hW (hG_both H.size S6 S8 e9) (cwV 0 hts (zgV gaR mR_137 mR_138 mR_139 mR_46 mR_128) rfl rfl rfl (by decide +kernel) (zRm_up g (Nat.le_of_ble_eq_true rfl))) (va_recv hW.1 hW.2.1 (ci := 12) (q0 := 0) rfl rfl) rfl hl.1 rfl (Nat.le_of_ble_eq_true rfl) dX12_either_31 (fun H locs hW => ?_)
          refine lv_aload_n (pc := 34) hx hb dX12_either_34 rfl (lv_at hl 0 rfl) ?_
          refine lv_bipush (pc := 35) (v := 124) hx hb dX12_either_35 (by decide) ?_
          refine lv_iconst (pc := 37) (v := 0) hx hb dX12_either_37 (by decide) ?_
          obtain ⟨S11, e12, hf⟩ := zU_e hf
          refine zcVv zTr_ok (As := [.int 124, .int 0]) (pc := 38) C0 hW (kX12_addStep l D cA h H.size 124 0 S8 S11 e12) (cwV 2 hts (zgV gaR mR_110 mR_111 mR_112 mR_46 mR_98) rfl rfl rfl (by decide +kernel) (zRm_k g (Nat.le_of_ble_eq_true rfl) (Nat.le_of_ble_eq_true rfl))) (va_recv hW.1 hW.2.1 (ci := 12) (q0 := 0) rfl rfl) rfl hl.1 rfl (Nat.le_of_ble_eq_true rfl) dX12_either_38 (fun H locs hW => ?_)
          refine lv_goto (pc := 41) (tgt := 4) hx hb dX12_either_41 (by decide) ?_
          exact ih S11 H locs hW ls (lv_sub hl [0] rfl) hf
  unfold fX12_either_o at hf
  refine lv_aload_n (pc := 0) hx hb dX12_either_0 rfl (lv_at hl 0 rfl) ?_
  obtain ⟨S14, e15, hf⟩ := zU_e hf
  refine zcVv zTr_ok (As := []) (pc := 1) C0 hW (hG_both H.size S S14 e15) (cwV 0 hts (zgV gaR mR_137 mR_138 mR_139 mR_46 mR_128) rfl rfl rfl (by decide +kernel) (zRm_up g (Nat.le_of_ble_eq_true rfl))) (va_recv hW.1 hW.2.1 (ci := 12) (q0 := 0) rfl rfl) rfl hl.1 rfl (Nat.le_of_ble_eq_true rfl) dX12_either_1 (fun H locs hW => ?_)
  exact w4 N S14 H locs hW ls (lv_sub hl [0] rfl) hf

def fX12_operand_b80 (G : (zSt → Option zSt) × (zSt → Option zSt) × (zSt → Option zSt) × (zSt → Option zSt) × (zSt → Option zSt) × (zSt → Option zSt)) (N : Nat) (u1 : Int32) (S : zSt) : Option zSt :=
  zU (fX12_addStep u1 0 S) fun S2 => some S2
def fX12_operand_b46 (G : (zSt → Option zSt) × (zSt → Option zSt) × (zSt → Option zSt) × (zSt → Option zSt) × (zSt → Option zSt) × (zSt → Option zSt)) (N : Nat) (v1 : Int32) (S : zSt) : Option zSt :=
  zB (fX12_opens S) fun r4 S5 => if r4 = 0 then (some S5) else (zU (G.1 S5) fun S9 => zL (zI S9 15 ((S9.1 15) - 1)) fun S11 => if v1 = 33 then (fX12_operand_b80 G N 3 S11) else (fX12_operand_b80 G N 4 S11))
def fX12_operand_o (G : (zSt → Option zSt) × (zSt → Option zSt) × (zSt → Option zSt) × (zSt → Option zSt) × (zSt → Option zSt) × (zSt → Option zSt)) (N : Nat) (S : zSt) : Option zSt :=
  zB (fX12_look S) fun r13 S14 => zU (fX12_nameOf r13) fun r16 => if r16 < 0 then (if r13 = 33 then (fX12_operand_b46 G N r13 S14) else (if r13 = 45 then (fX12_operand_b46 G N r13 S14) else (if r13 = 40 then (zB (fX12_opens S14) fun r26 S27 => if r26 = 0 then (some S27) else (zU (G.2.2.2.2.2 S27) fun S31 => if (S31.1 14) < 0 then (zB (fX12_look S31) fun r34 S35 => if r34 = 41 then (zL (zI S35 13 ((S35.1 13) + 1)) fun S38 => zL (zI S38 15 ((S38.1 15) - 1)) fun S39 => some S39) else (zU (fX12_wrong S35) fun S41 => some S41)) else (some S31))) else (zU (fX12_figure N S14) fun S24 => some S24)))) else (zU (fX12_nameOf r13) fun r43 => zU (fX12_addStep 2 r43 S14) fun S47 => zL (zI S47 13 ((S47.1 13) + 1)) fun S49 => some S49)
set_option maxHeartbeats 4000000 in
set_option maxRecDepth 100000 in
theorem kX12_operand_o (l : Launch) (D : va_G) (cA : Nat → ClassId) (h : Nat → Nat) (sz : Nat) (N : Nat) (g : Nat) (G : (zSt → Option zSt) × (zSt → Option zSt) × (zSt → Option zSt) × (zSt → Option zSt) × (zSt → Option zSt) × (zSt → Option zSt)) (hG_operand : ∀ (sz : Nat)  (S : zSt) (S1 : zSt), G.1 S = some S1 → zMv l yX12_operand wX12_operand (zRm g) zTr D (tR cA) (hsR h) [.ref (h 0)] (wR cA h S) (wR cA h S1) sz) (hG_product : ∀ (sz : Nat)  (S : zSt) (S1 : zSt), G.2.1 S = some S1 → zMv l yX12_product wX12_product (zRm g) zTr D (tR cA) (hsR h) [.ref (h 0)] (wR cA h S) (wR cA h S1) sz) (hG_sum : ∀ (sz : Nat)  (S : zSt) (S1 : zSt), G.2.2.1 S = some S1 → zMv l yX12_sum wX12_sum (zRm g) zTr D (tR cA) (hsR h) [.ref (h 0)] (wR cA h S) (wR cA h S1) sz) (hG_compared : ∀ (sz : Nat)  (S : zSt) (S1 : zSt), G.2.2.2.1 S = some S1 → zMv l yX12_compared wX12_compared (zRm g) zTr D (tR cA) (hsR h) [.ref (h 0)] (wR cA h S) (wR cA h S1) sz) (hG_both : ∀ (sz : Nat)  (S : zSt) (S1 : zSt), G.2.2.2.2.1 S = some S1 → zMv l yX12_both wX12_both (zRm g) zTr D (tR cA) (hsR h) [.ref (h 0)] (wR cA h S) (wR cA h S1) sz) (hG_either : ∀ (sz : Nat)  (S : zSt) (S1 : zSt), G.2.2.2.2.2 S = some S1 → zMv l yX12_either wX12_either (zRm g) zTr D (tR cA) (hsR h) [.ref (h 0)] (wR cA h S) (wR cA h S1) sz)   (S : zSt) (S1 : zSt) (hf : fX12_operand_o G N S = some S1) : zMv l yX12_operand wX12_operand (zRm (g + 1)) zTr D (tR cA) (hsR h) [.ref (h 0)] (wR cA h S) (wR cA h S1) sz := by
  refine zEn_v (cc := cX12_operand) (maxL := 2) (own := RX12) (by decide) rfl rfl (hmR cA h S) (Nat.le_of_ble_eq_true rfl) ?_
  intro p e s m args below meth c Q H locs C0 hW fin ls hl
  have hl : lv_has ls 2 [(0, .ref (h 0))] := hl
  have hx := C0.1
  have hb := C0.2.1
  have hown := C0.2.2.2.1
  have hts := C0.2.2.2.2
  have w80 : ∀ (u1 : Int32) (S : zSt) (H : Heap) (locs : List Loc), zW zTr D (tR cA) (wR cA h S) (aW (hsR h) s.heap.size) s H locs → ∀ ls : Array Slot, lv_has ls 2 [] → fX12_operand_b80 G N u1 S = some S1 → W p l e (zRm (g + 1)) s m args below meth c H locs 0 0 Q (F0 m 80 ls [.int u1, .ref (h 0)]) := by
    intro u1 S H locs hW ls hl hf
    unfold fX12_operand_b80 at hf
    refine lv_iconst (pc := 80) (v := 0) hx hb dX12_operand_80 (by decide) ?_
    obtain ⟨S2, e3, hf⟩ := zU_e hf
    refine zcVv zTr_ok (As := [.int u1, .int 0]) (pc := 81) C0 hW (kX12_addStep l D cA h H.size u1 0 S S2 e3) (cwV 2 hts (zgV gaR mR_110 mR_111 mR_112 mR_46 mR_98) rfl rfl rfl (by decide +kernel) (zRm_k g (Nat.le_of_ble_eq_true rfl) (Nat.le_of_ble_eq_true rfl))) (va_recv hW.1 hW.2.1 (ci := 12) (q0 := 0) rfl rfl) rfl hl.1 rfl (Nat.le_of_ble_eq_true rfl) dX12_operand_81 (fun H locs hW => ?_)
    refine lv_goto (pc := 84) (tgt := 154) hx hb dX12_operand_84 (by decide) ?_
    exact zend_v (w := wR cA h) fin hf hW dX12_operand_154
  have w46 : ∀ (v1 : Int32) (S : zSt) (H : Heap) (locs : List Loc), zW zTr D (tR cA) (wR cA h S) (aW (hsR h) s.heap.size) s H locs → ∀ ls : Array Slot, lv_has ls 2 [(0, .ref (h 0)), (1, .int v1)] → fX12_operand_b46 G N v1 S = some S1 → W p l e (zRm (g + 1)) s m args below meth c H locs 0 0 Q (F0 m 46 ls []) := by
    intro v1 S H locs hW ls hl hf
    unfold fX12_operand_b46 at hf
    refine lv_aload_n (pc := 46) hx hb dX12_operand_46 rfl (lv_at hl 0 rfl) ?_
    obtain ⟨r4, S5, e6, hf⟩ := zB_e hf
    refine zcVi zTr_ok (As := []) (pc := 47) C0 hW (kX12_opens l D cA h H.size S r4 S5 e6) (cwV 0 hts (zgV gaR mR_116 mR_117 mR_118 mR_46 mR_101) rfl rfl rfl (by decide +kernel) (zRm_k g (Nat.le_of_ble_eq_true rfl) (Nat.le_of_ble_eq_true rfl))) (va_recv hW.1 hW.2.1 (ci := 12) (q0 := 0) rfl rfl) rfl hl.1 rfl (Nat.le_of_ble_eq_true rfl) dX12_operand_47 (fun H locs hW => ?_)
    refine lv_if_ne (pc := 50) (tgt := 54) hx hb dX12_operand_50 (by decide) (fun c7 => ?_) (fun c7 => ?_)
    · have hf := zf c7 hf
      refine lv_aload_n (pc := 54) hx hb dX12_operand_54 rfl (lv_at hl 0 rfl) ?_
      obtain ⟨S9, e10, hf⟩ := zU_e hf
      refine zcVv zTr_ok (As := []) (pc := 55) C0 hW (hG_operand H.size S5 S9 e10) (cwV 0 hts (zgV gaR mR_119 mR_120 mR_121 mR_46 mR_113) rfl rfl rfl (by decide +kernel) (zRm_up g (Nat.le_of_ble_eq_true rfl))) (va_recv hW.1 hW.2.1 (ci := 12) (q0 := 0) rfl rfl) rfl hl.1 rfl (Nat.le_of_ble_eq_true rfl) dX12_operand_55 (fun H locs hW => ?_)
      refine lv_aload_n (pc := 58) hx hb dX12_operand_58 rfl (lv_at hl 0 rfl) ?_
      refine lv_dup (pc := 59) hx hb dX12_operand_59 rfl ?_
      refine rg_15 (pc := 60) C0 hu_12 hW mR_102 dX12_operand_60 ?_
      refine lv_iconst (pc := 63) (v := 1) hx hb dX12_operand_63 (by decide) ?_
      refine lv_isub (pc := 64) hx hb dX12_operand_64 ?_
      obtain ⟨S11, e_S11, hf⟩ := zL_e hf
      refine rp_15 (pc := 65) C0 hu_12 hW mR_102 e_S11 dX12_operand_65 (fun H locs hW => ?_)
      refine lv_aload_n (pc := 68) hx hb dX12_operand_68 rfl (lv_at hl 0 rfl) ?_
      refine lv_iload_n (pc := 69) hx hb dX12_operand_69 rfl (lv_at hl 1 rfl) ?_
      refine lv_bipush (pc := 70) (v := 33) hx hb dX12_operand_70 (by decide) ?_
      refine lv_icmp_ne (pc := 72) (tgt := 79) hx hb dX12_operand_72 (by decide) (fun c12 => ?_) (fun c12 => ?_)
      · have hf := zf c12 hf
        refine lv_iconst (pc := 79) (v := 4) hx hb dX12_operand_79 (by decide) ?_
        exact w80 4 S11 H locs hW ls (lv_sub hl [] rfl) hf
      · have hf := zt c12 hf
        refine lv_iconst (pc := 75) (v := 3) hx hb dX12_operand_75 (by decide) ?_
        refine lv_goto (pc := 76) (tgt := 80) hx hb dX12_operand_76 (by decide) ?_
        exact w80 3 S11 H locs hW ls (lv_sub hl [] rfl) hf
    · have hf := zt c7 hf
      exact zend_v (w := wR cA h) fin hf hW dX12_operand_53
  unfold fX12_operand_o at hf
  refine lv_aload_n (pc := 0) hx hb dX12_operand_0 rfl (lv_at hl 0 rfl) ?_
  obtain ⟨r13, S14, e15, hf⟩ := zB_e hf
  refine zcVi zTr_ok (As := []) (pc := 1) C0 hW (kX12_look l D cA h H.size S r13 S14 e15) (cwV 0 hts (zgV gaR mR_107 mR_108 mR_109 mR_46 mR_96) rfl rfl rfl (by decide +kernel) (zRm_k g (Nat.le_of_ble_eq_true rfl) (Nat.le_of_ble_eq_true rfl))) (va_recv hW.1 hW.2.1 (ci := 12) (q0 := 0) rfl rfl) rfl hl.1 rfl (Nat.le_of_ble_eq_true rfl) dX12_operand_1 (fun H locs hW => ?_)
  refine lv_istore_n (pc := 4) (lv' := [(1, .int r13), (0, .ref (h 0))]) hx hb dX12_operand_4 rfl hl (by decide) rfl (fun ls hl => ?_)
  refine lv_iload_n (pc := 5) hx hb dX12_operand_5 rfl (lv_at hl 0 rfl) ?_
  obtain ⟨r16, e18, hf⟩ := zU_e hf
  refine zcSi (As := [.int r13]) (pc := 6) C0 hW (kX12_nameOf l H.size r13 r16 e18) (va_cwS 1 hts (zgS gaR mR_114 mR_115 mR_46 mR_100) rfl rfl rfl (by decide +kernel) (zRm_k g (Nat.le_of_ble_eq_true rfl) (Nat.le_of_ble_eq_true rfl))) rfl hl.1 rfl (Nat.le_of_ble_eq_true rfl) dX12_operand_6 (fun H locs hW => ?_)
  refine lv_if_lt (pc := 9) (tgt := 34) hx hb dX12_operand_9 (by decide) (fun c19 => ?_) (fun c19 => ?_)
  · have hf := zt c19 hf
    refine lv_iload_n (pc := 34) hx hb dX12_operand_34 rfl (lv_at hl 0 rfl) ?_
    refine lv_bipush (pc := 35) (v := 33) hx hb dX12_operand_35 (by decide) ?_
    refine lv_icmp_eq (pc := 37) (tgt := 46) hx hb dX12_operand_37 (by decide) (fun c20 => ?_) (fun c20 => ?_)
    · have hf := zt c20 hf
      exact w46 r13 S14 H locs hW ls (lv_sub hl [1, 0] rfl) hf
    · have hf := zf c20 hf
      refine lv_iload_n (pc := 40) hx hb dX12_operand_40 rfl (lv_at hl 0 rfl) ?_
      refine lv_bipush (pc := 41) (v := 45) hx hb dX12_operand_41 (by decide) ?_
      refine lv_icmp_ne (pc := 43) (tgt := 87) hx hb dX12_operand_43 (by decide) (fun c21 => ?_) (fun c21 => ?_)
      · have hf := zf c21 hf
        refine lv_iload_n (pc := 87) hx hb dX12_operand_87 rfl (lv_at hl 0 rfl) ?_
        refine lv_bipush (pc := 88) (v := 40) hx hb dX12_operand_88 (by decide) ?_
        refine lv_icmp_ne (pc := 90) (tgt := 150) hx hb dX12_operand_90 (by decide) (fun c22 => ?_) (fun c22 => ?_)
        · have hf := zf c22 hf
          refine lv_aload_n (pc := 150) hx hb dX12_operand_150 rfl (lv_at hl 1 rfl) ?_
          obtain ⟨S24, e25, hf⟩ := zU_e hf
          refine zcVv zTr_ok (As := []) (pc := 151) C0 hW (kX12_figure l D cA h H.size N S14 S24 e25) (cwV 0 hts (zgV gaR mR_125 mR_126 mR_127 mR_46 mR_106) rfl rfl rfl (by decide +kernel) (zRm_k g (Nat.le_of_ble_eq_true rfl) (Nat.le_of_ble_eq_true rfl))) (va_recv hW.1 hW.2.1 (ci := 12) (q0 := 0) rfl rfl) rfl hl.1 rfl (Nat.le_of_ble_eq_true rfl) dX12_operand_151 (fun H locs hW => ?_)
          exact zend_v (w := wR cA h) fin hf hW dX12_operand_154
        · have hf := zt c22 hf
          refine lv_aload_n (pc := 93) hx hb dX12_operand_93 rfl (lv_at hl 1 rfl) ?_
          obtain ⟨r26, S27, e28, hf⟩ := zB_e hf
          refine zcVi zTr_ok (As := []) (pc := 94) C0 hW (kX12_opens l D cA h H.size S14 r26 S27 e28) (cwV 0 hts (zgV gaR mR_116 mR_117 mR_118 mR_46 mR_101) rfl rfl rfl (by decide +kernel) (zRm_k g (Nat.le_of_ble_eq_true rfl) (Nat.le_of_ble_eq_true rfl))) (va_recv hW.1 hW.2.1 (ci := 12) (q0 := 0) rfl rfl) rfl hl.1 rfl (Nat.le_of_ble_eq_true rfl) dX12_operand_94 (fun H locs hW => ?_)
          refine lv_if_ne (pc := 97) (tgt := 101) hx hb dX12_operand_97 (by decide) (fun c29 => ?_) (fun c29 => ?_)
          · have hf := zf c29 hf
            refine lv_aload_n (pc := 101) hx hb dX12_operand_101 rfl (lv_at hl 1 rfl) ?_
            obtain ⟨S31, e32, hf⟩ := zU_e hf
            refine zcVv zTr_ok (As := []) (pc := 102) C0 hW (hG_either H.size S27 S31 e32) (cwV 0 hts (zgV gaR mR_122 mR_123 mR_124 mR_46 mR_136) rfl rfl rfl (by decide +kernel) (zRm_up g (Nat.le_of_ble_eq_true rfl))) (va_recv hW.1 hW.2.1 (ci := 12) (q0 := 0) rfl rfl) rfl hl.1 rfl (Nat.le_of_ble_eq_true rfl) dX12_operand_102 (fun H locs hW => ?_)
            refine lv_aload_n (pc := 105) hx hb dX12_operand_105 rfl (lv_at hl 1 rfl) ?_
            refine rg_14 (pc := 106) C0 hu_12 hW mR_54 dX12_operand_106 ?_
            refine lv_if_lt (pc := 109) (tgt := 113) hx hb dX12_operand_109 (by decide) (fun c33 => ?_) (fun c33 => ?_)
            · have hf := zt c33 hf
              refine lv_aload_n (pc := 113) hx hb dX12_operand_113 rfl (lv_at hl 1 rfl) ?_
              obtain ⟨r34, S35, e36, hf⟩ := zB_e hf
              refine zcVi zTr_ok (As := []) (pc := 114) C0 hW (kX12_look l D cA h H.size S31 r34 S35 e36) (cwV 0 hts (zgV gaR mR_107 mR_108 mR_109 mR_46 mR_96) rfl rfl rfl (by decide +kernel) (zRm_k g (Nat.le_of_ble_eq_true rfl) (Nat.le_of_ble_eq_true rfl))) (va_recv hW.1 hW.2.1 (ci := 12) (q0 := 0) rfl rfl) rfl hl.1 rfl (Nat.le_of_ble_eq_true rfl) dX12_operand_114 (fun H locs hW => ?_)
              refine lv_bipush (pc := 117) (v := 41) hx hb dX12_operand_117 (by decide) ?_
              refine lv_icmp_eq (pc := 119) (tgt := 127) hx hb dX12_operand_119 (by decide) (fun c37 => ?_) (fun c37 => ?_)
              · have hf := zt c37 hf
                refine lv_aload_n (pc := 127) hx hb dX12_operand_127 rfl (lv_at hl 1 rfl) ?_
                refine lv_dup (pc := 128) hx hb dX12_operand_128 rfl ?_
                refine rg_13 (pc := 129) C0 hu_12 hW mR_55 dX12_operand_129 ?_
                refine lv_iconst (pc := 132) (v := 1) hx hb dX12_operand_132 (by decide) ?_
                refine lv_iadd (pc := 133) hx hb dX12_operand_133 ?_
                obtain ⟨S38, e_S38, hf⟩ := zL_e hf
                refine rp_13 (pc := 134) C0 hu_12 hW mR_55 e_S38 dX12_operand_134 (fun H locs hW => ?_)
                refine lv_aload_n (pc := 137) hx hb dX12_operand_137 rfl (lv_at hl 1 rfl) ?_
                refine lv_dup (pc := 138) hx hb dX12_operand_138 rfl ?_
                refine rg_15 (pc := 139) C0 hu_12 hW mR_102 dX12_operand_139 ?_
                refine lv_iconst (pc := 142) (v := 1) hx hb dX12_operand_142 (by decide) ?_
                refine lv_isub (pc := 143) hx hb dX12_operand_143 ?_
                obtain ⟨S39, e_S39, hf⟩ := zL_e hf
                refine rp_15 (pc := 144) C0 hu_12 hW mR_102 e_S39 dX12_operand_144 (fun H locs hW => ?_)
                refine lv_goto (pc := 147) (tgt := 154) hx hb dX12_operand_147 (by decide) ?_
                exact zend_v (w := wR cA h) fin hf hW dX12_operand_154
              · have hf := zf c37 hf
                refine lv_aload_n (pc := 122) hx hb dX12_operand_122 rfl (lv_at hl 1 rfl) ?_
                obtain ⟨S41, e42, hf⟩ := zU_e hf
                refine zcVv zTr_ok (As := []) (pc := 123) C0 hW (kX12_wrong l D cA h H.size S35 S41 e42) (cwV 0 hts (zgV gaR mR_103 mR_104 mR_105 mR_46 mR_97) rfl rfl rfl (by decide +kernel) (zRm_k g (Nat.le_of_ble_eq_true rfl) (Nat.le_of_ble_eq_true rfl))) (va_recv hW.1 hW.2.1 (ci := 12) (q0 := 0) rfl rfl) rfl hl.1 rfl (Nat.le_of_ble_eq_true rfl) dX12_operand_123 (fun H locs hW => ?_)
                exact zend_v (w := wR cA h) fin hf hW dX12_operand_126
            · have hf := zf c33 hf
              exact zend_v (w := wR cA h) fin hf hW dX12_operand_112
          · have hf := zt c29 hf
            exact zend_v (w := wR cA h) fin hf hW dX12_operand_100
      · have hf := zt c21 hf
        exact w46 r13 S14 H locs hW ls (lv_sub hl [1, 0] rfl) hf
  · have hf := zf c19 hf
    refine lv_aload_n (pc := 12) hx hb dX12_operand_12 rfl (lv_at hl 1 rfl) ?_
    refine lv_iconst (pc := 13) (v := 2) hx hb dX12_operand_13 (by decide) ?_
    refine lv_iload_n (pc := 14) hx hb dX12_operand_14 rfl (lv_at hl 0 rfl) ?_
    obtain ⟨r43, e45, hf⟩ := zU_e hf
    refine zcSi (As := [.int r13]) (pc := 15) C0 hW (kX12_nameOf l H.size r13 r43 e45) (va_cwS 1 hts (zgS gaR mR_114 mR_115 mR_46 mR_100) rfl rfl rfl (by decide +kernel) (zRm_k g (Nat.le_of_ble_eq_true rfl) (Nat.le_of_ble_eq_true rfl))) rfl hl.1 rfl (Nat.le_of_ble_eq_true rfl) dX12_operand_15 (fun H locs hW => ?_)
    obtain ⟨S47, e48, hf⟩ := zU_e hf
    refine zcVv zTr_ok (As := [.int 2, .int r43]) (pc := 18) C0 hW (kX12_addStep l D cA h H.size 2 r43 S14 S47 e48) (cwV 2 hts (zgV gaR mR_110 mR_111 mR_112 mR_46 mR_98) rfl rfl rfl (by decide +kernel) (zRm_k g (Nat.le_of_ble_eq_true rfl) (Nat.le_of_ble_eq_true rfl))) (va_recv hW.1 hW.2.1 (ci := 12) (q0 := 0) rfl rfl) rfl hl.1 rfl (Nat.le_of_ble_eq_true rfl) dX12_operand_18 (fun H locs hW => ?_)
    refine lv_aload_n (pc := 21) hx hb dX12_operand_21 rfl (lv_at hl 1 rfl) ?_
    refine lv_dup (pc := 22) hx hb dX12_operand_22 rfl ?_
    refine rg_13 (pc := 23) C0 hu_12 hW mR_55 dX12_operand_23 ?_
    refine lv_iconst (pc := 26) (v := 1) hx hb dX12_operand_26 (by decide) ?_
    refine lv_iadd (pc := 27) hx hb dX12_operand_27 ?_
    obtain ⟨S49, e_S49, hf⟩ := zL_e hf
    refine rp_13 (pc := 28) C0 hu_12 hW mR_55 e_S49 dX12_operand_28 (fun H locs hW => ?_)
    refine lv_goto (pc := 31) (tgt := 154) hx hb dX12_operand_31 (by decide) ?_
    exact zend_v (w := wR cA h) fin hf hW dX12_operand_154

def zGR (N : Nat) : Nat → (zSt → Option zSt) × (zSt → Option zSt) × (zSt → Option zSt) × (zSt → Option zSt) × (zSt → Option zSt) × (zSt → Option zSt)
  | 0 => (fun _ => none, fun _ => none, fun _ => none, fun _ => none, fun _ => none, fun _ => none)
  | n + 1 => (fX12_operand_o (zGR N n) N, fX12_product_o (zGR N n) N, fX12_sum_o (zGR N n) N, fX12_compared_o (zGR N n) N, fX12_both_o (zGR N n) N, fX12_either_o (zGR N n) N)
def fX12_operand (N n : Nat) : (zSt → Option zSt) := (zGR N n).1
def fX12_product (N n : Nat) : (zSt → Option zSt) := (zGR N n).2.1
def fX12_sum (N n : Nat) : (zSt → Option zSt) := (zGR N n).2.2.1
def fX12_compared (N n : Nat) : (zSt → Option zSt) := (zGR N n).2.2.2.1
def fX12_both (N n : Nat) : (zSt → Option zSt) := (zGR N n).2.2.2.2.1
def fX12_either (N n : Nat) : (zSt → Option zSt) := (zGR N n).2.2.2.2.2
theorem kGR (l : Launch) (D : va_G) (cA : Nat → ClassId) (h : Nat → Nat) (N : Nat) : ∀ g : Nat, (∀ (sz : Nat)  (S : zSt) (S1 : zSt), (zGR N g).1 S = some S1 → zMv l yX12_operand wX12_operand (zRm g) zTr D (tR cA) (hsR h) [.ref (h 0)] (wR cA h S) (wR cA h S1) sz) ∧ (∀ (sz : Nat)  (S : zSt) (S1 : zSt), (zGR N g).2.1 S = some S1 → zMv l yX12_product wX12_product (zRm g) zTr D (tR cA) (hsR h) [.ref (h 0)] (wR cA h S) (wR cA h S1) sz) ∧ (∀ (sz : Nat)  (S : zSt) (S1 : zSt), (zGR N g).2.2.1 S = some S1 → zMv l yX12_sum wX12_sum (zRm g) zTr D (tR cA) (hsR h) [.ref (h 0)] (wR cA h S) (wR cA h S1) sz) ∧ (∀ (sz : Nat)  (S : zSt) (S1 : zSt), (zGR N g).2.2.2.1 S = some S1 → zMv l yX12_compared wX12_compared (zRm g) zTr D (tR cA) (hsR h) [.ref (h 0)] (wR cA h S) (wR cA h S1) sz) ∧ (∀ (sz : Nat)  (S : zSt) (S1 : zSt), (zGR N g).2.2.2.2.1 S = some S1 → zMv l yX12_both wX12_both (zRm g) zTr D (tR cA) (hsR h) [.ref (h 0)] (wR cA h S) (wR cA h S1) sz) ∧ (∀ (sz : Nat)  (S : zSt) (S1 : zSt), (zGR N g).2.2.2.2.2 S = some S1 → zMv l yX12_either wX12_either (zRm g) zTr D (tR cA) (hsR h) [.ref (h 0)] (wR cA h S) (wR cA h S1) sz) := by
  intro g
  induction g with
  | zero => exact ⟨fun sz S S1 hf => absurd hf (fun z => nomatch z), fun sz S S1 hf => absurd hf (fun z => nomatch z), fun sz S S1 hf => absurd hf (fun z => nomatch z), fun sz S S1 hf => absurd hf (fun z => nomatch z), fun sz S S1 hf => absurd hf (fun z => nomatch z), fun sz S S1 hf => absurd hf (fun z => nomatch z)⟩
  | succ g ih =>
    obtain ⟨hG_operand, hG_product, hG_sum, hG_compared, hG_both, hG_either⟩ := ih
    exact ⟨fun sz S S1 hf => kX12_operand_o l D cA h sz N g (zGR N g) hG_operand hG_product hG_sum hG_compared hG_both hG_either S S1 hf, fun sz S S1 hf => kX12_product_o l D cA h sz N g (zGR N g) hG_operand hG_product hG_sum hG_compared hG_both hG_either S S1 hf, fun sz S S1 hf => kX12_sum_o l D cA h sz N g (zGR N g) hG_operand hG_product hG_sum hG_compared hG_both hG_either S S1 hf, fun sz S S1 hf => kX12_compared_o l D cA h sz N g (zGR N g) hG_operand hG_product hG_sum hG_compared hG_both hG_either S S1 hf, fun sz S S1 hf => kX12_both_o l D cA h sz N g (zGR N g) hG_operand hG_product hG_sum hG_compared hG_both hG_either S S1 hf, fun sz S S1 hf => kX12_either_o l D cA h sz N g (zGR N g) hG_operand hG_product hG_sum hG_compared hG_both hG_either S S1 hf⟩
theorem kX12_operand_all (l : Launch) (D : va_G) (cA : Nat → ClassId) (h : Nat → Nat) (N g : Nat) : ∀ (sz : Nat)  (S : zSt) (S1 : zSt), fX12_operand N g S = some S1 → zMv l yX12_operand wX12_operand (zRm g) zTr D (tR cA) (hsR h) [.ref (h 0)] (wR cA h S) (wR cA h S1) sz := (kGR l D cA h N g).1
theorem kX12_operand (l : Launch) (D : va_G) (cA : Nat → ClassId) (h : Nat → Nat) (sz : Nat) (N g : Nat)  (S : zSt) (S1 : zSt) (hf : fX12_operand N g S = some S1) : zMv l yX12_operand wX12_operand (zRm g) zTr D (tR cA) (hsR h) [.ref (h 0)] (wR cA h S) (wR cA h S1) sz := kX12_operand_all l D cA h N g sz S S1 hf
theorem kX12_product_all (l : Launch) (D : va_G) (cA : Nat → ClassId) (h : Nat → Nat) (N g : Nat) : ∀ (sz : Nat)  (S : zSt) (S1 : zSt), fX12_product N g S = some S1 → zMv l yX12_product wX12_product (zRm g) zTr D (tR cA) (hsR h) [.ref (h 0)] (wR cA h S) (wR cA h S1) sz := (kGR l D cA h N g).2.1
theorem kX12_product (l : Launch) (D : va_G) (cA : Nat → ClassId) (h : Nat → Nat) (sz : Nat) (N g : Nat)  (S : zSt) (S1 : zSt) (hf : fX12_product N g S = some S1) : zMv l yX12_product wX12_product (zRm g) zTr D (tR cA) (hsR h) [.ref (h 0)] (wR cA h S) (wR cA h S1) sz := kX12_product_all l D cA h N g sz S S1 hf
theorem kX12_sum_all (l : Launch) (D : va_G) (cA : Nat → ClassId) (h : Nat → Nat) (N g : Nat) : ∀ (sz : Nat)  (S : zSt) (S1 : zSt), fX12_sum N g S = some S1 → zMv l yX12_sum wX12_sum (zRm g) zTr D (tR cA) (hsR h) [.ref (h 0)] (wR cA h S) (wR cA h S1) sz := (kGR l D cA h N g).2.2.1
theorem kX12_sum (l : Launch) (D : va_G) (cA : Nat → ClassId) (h : Nat → Nat) (sz : Nat) (N g : Nat)  (S : zSt) (S1 : zSt) (hf : fX12_sum N g S = some S1) : zMv l yX12_sum wX12_sum (zRm g) zTr D (tR cA) (hsR h) [.ref (h 0)] (wR cA h S) (wR cA h S1) sz := kX12_sum_all l D cA h N g sz S S1 hf
theorem kX12_compared_all (l : Launch) (D : va_G) (cA : Nat → ClassId) (h : Nat → Nat) (N g : Nat) : ∀ (sz : Nat)  (S : zSt) (S1 : zSt), fX12_compared N g S = some S1 → zMv l yX12_compared wX12_compared (zRm g) zTr D (tR cA) (hsR h) [.ref (h 0)] (wR cA h S) (wR cA h S1) sz := (kGR l D cA h N g).2.2.2.1
theorem kX12_compared (l : Launch) (D : va_G) (cA : Nat → ClassId) (h : Nat → Nat) (sz : Nat) (N g : Nat)  (S : zSt) (S1 : zSt) (hf : fX12_compared N g S = some S1) : zMv l yX12_compared wX12_compared (zRm g) zTr D (tR cA) (hsR h) [.ref (h 0)] (wR cA h S) (wR cA h S1) sz := kX12_compared_all l D cA h N g sz S S1 hf
theorem kX12_both_all (l : Launch) (D : va_G) (cA : Nat → ClassId) (h : Nat → Nat) (N g : Nat) : ∀ (sz : Nat)  (S : zSt) (S1 : zSt), fX12_both N g S = some S1 → zMv l yX12_both wX12_both (zRm g) zTr D (tR cA) (hsR h) [.ref (h 0)] (wR cA h S) (wR cA h S1) sz := (kGR l D cA h N g).2.2.2.2.1
theorem kX12_both (l : Launch) (D : va_G) (cA : Nat → ClassId) (h : Nat → Nat) (sz : Nat) (N g : Nat)  (S : zSt) (S1 : zSt) (hf : fX12_both N g S = some S1) : zMv l yX12_both wX12_both (zRm g) zTr D (tR cA) (hsR h) [.ref (h 0)] (wR cA h S) (wR cA h S1) sz := kX12_both_all l D cA h N g sz S S1 hf
theorem kX12_either_all (l : Launch) (D : va_G) (cA : Nat → ClassId) (h : Nat → Nat) (N g : Nat) : ∀ (sz : Nat)  (S : zSt) (S1 : zSt), fX12_either N g S = some S1 → zMv l yX12_either wX12_either (zRm g) zTr D (tR cA) (hsR h) [.ref (h 0)] (wR cA h S) (wR cA h S1) sz := (kGR l D cA h N g).2.2.2.2.2
theorem kX12_either (l : Launch) (D : va_G) (cA : Nat → ClassId) (h : Nat → Nat) (sz : Nat) (N g : Nat)  (S : zSt) (S1 : zSt) (hf : fX12_either N g S = some S1) : zMv l yX12_either wX12_either (zRm g) zTr D (tR cA) (hsR h) [.ref (h 0)] (wR cA h S) (wR cA h S1) sz := kX12_either_all l D cA h N g sz S S1 hf

def fX12_readLine_b67 (N : Nat) (v1 : Int32) (S : zSt) : Option zSt :=
  if zin v1 305 then zL (zA S 21 (Int32.toNatClampNeg v1) (vp_nar .short (zi16 (S.1 16)))) fun S2 => if zin 4 5 then if zin 4 5 then zL (zA S2 19 (Int32.toNatClampNeg 4) ((S2.2.1 19 (Int32.toNatClampNeg 4)) + 1)) fun S5 => some S5 else none else none else none
def fX12_readLine (N : Nat) (S : zSt) : Option zSt :=
  if zin 4 5 then zL ((244 + (S.2.1 19 (Int32.toNatClampNeg 4)))) fun (x7 : Int32) => if zin x7 305 then zL (zA S 20 (Int32.toNatClampNeg x7) (vp_nar .short (zi16 (S.1 16)))) fun S9 => zU (fX12_either N zfuel S9) fun S11 => if 0 ≤ (S11.1 14) then (fX12_readLine_b67 N x7 S11) else (zB (fX12_look S11) fun r14 S15 => if r14 = 63 then (zL (zI S15 13 ((S15.1 13) + 1)) fun S18 => if zin x7 305 then zL (zA S18 20 (Int32.toNatClampNeg x7) (vp_nar .short (zi16 (S18.1 16)))) fun S20 => zU (fX12_either N zfuel S20) fun S22 => fX12_readLine_b67 N x7 S22 else none) else (fX12_readLine_b67 N x7 S15)) else none else none
abbrev wX12_readLine : List Cond := Cond.code yX12_readLine cX12_readLine 2 none :: waR
abbrev rmX12_readLine : Room := { frames := 113, cells := 0, slots := 0, locals := 4620 }
set_option maxHeartbeats 4000000 in
set_option maxRecDepth 100000 in
theorem kX12_readLine (l : Launch) (D : va_G) (cA : Nat → ClassId) (h : Nat → Nat) (sz : Nat) (N : Nat)   (S : zSt) (S1 : zSt) (hf : fX12_readLine N S = some S1) : zMv l yX12_readLine wX12_readLine rmX12_readLine zTr D (tR cA) (hsR h) [.ref (h 0)] (wR cA h S) (wR cA h S1) sz := by
  refine zEn_v (cc := cX12_readLine) (maxL := 2) (own := RX12) (by decide) rfl rfl (hmR cA h S) (Nat.le_of_ble_eq_true rfl) ?_
  intro p e s m args below meth c Q H locs C0 hW fin ls hl
  have hl : lv_has ls 2 [(0, .ref (h 0))] := hl
  have hx := C0.1
  have hb := C0.2.1
  have hown := C0.2.2.2.1
  have hts := C0.2.2.2.2
  have w67 : ∀ (v1 : Int32) (S : zSt) (H : Heap) (locs : List Loc), zW zTr D (tR cA) (wR cA h S) (aW (hsR h) s.heap.size) s H locs → ∀ ls : Array Slot, lv_has ls 2 [(0, .ref (h 0)), (1, .int v1)] → fX12_readLine_b67 N v1 S = some S1 → W p l e rmX12_readLine s m args below meth c H locs 0 0 Q (F0 m 67 ls []) := by
    intro v1 S H locs hW ls hl hf
    unfold fX12_readLine_b67 at hf
    refine lv_aload_n (pc := 67) hx hb dX12_readLine_67 rfl (lv_at hl 0 rfl) ?_
    refine rg_21 (pc := 68) C0 hu_12 hW mR_19 dX12_readLine_68 ?_
    refine lv_iload_n (pc := 71) hx hb dX12_readLine_71 rfl (lv_at hl 1 rfl) ?_
    refine lv_aload_n (pc := 72) hx hb dX12_readLine_72 rfl (lv_at hl 0 rfl) ?_
    refine rg_16 (pc := 73) C0 hu_12 hW mR_99 dX12_readLine_73 ?_
    refine lv_i2s (pc := 76) (v := (zi16 (S.1 16))) hx hb dX12_readLine_76 rfl ?_
    obtain ⟨i1, hf⟩ := zn hf
    obtain ⟨S2, e_S2, hf⟩ := zL_e hf
    refine rs_21 (pc := 77) C0 hW i1 e_S2 dX12_readLine_77 (fun H locs hW => ?_)
    refine lv_aload_n (pc := 78) hx hb dX12_readLine_78 rfl (lv_at hl 0 rfl) ?_
    refine rg_19 (pc := 79) C0 hu_12 hW mR_16 dX12_readLine_79 ?_
    refine lv_iconst (pc := 82) (v := 4) hx hb dX12_readLine_82 (by decide) ?_
    refine lv_dup2_11 (pc := 83) hx hb dX12_readLine_83 rfl rfl ?_
    obtain ⟨i3, hf⟩ := zn hf
    refine rl_19 (pc := 84) C0 hW i3 dX12_readLine_84 ?_
    refine lv_iconst (pc := 85) (v := 1) hx hb dX12_readLine_85 (by decide) ?_
    refine lv_iadd (pc := 86) hx hb dX12_readLine_86 ?_
    obtain ⟨i4, hf⟩ := zn hf
    obtain ⟨S5, e_S5, hf⟩ := zL_e hf
    refine rs_19 (pc := 87) C0 hW i4 e_S5 dX12_readLine_87 (fun H locs hW => ?_)
    exact zend_v (w := wR cA h) fin hf hW dX12_readLine_88
  unfold fX12_readLine at hf
  refine lv_sipush (pc := 0) (v := 244) hx hb dX12_readLine_0 (by decide) ?_
  refine lv_aload_n (pc := 3) hx hb dX12_readLine_3 rfl (lv_at hl 0 rfl) ?_
  refine rg_19 (pc := 4) C0 hu_12 hW mR_16 dX12_readLine_4 ?_
  refine lv_iconst (pc := 7) (v := 4) hx hb dX12_readLine_7 (by decide) ?_
  obtain ⟨i6, hf⟩ := zn hf
  refine rl_19 (pc := 8) C0 hW i6 dX12_readLine_8 ?_
  refine lv_iadd (pc := 9) hx hb dX12_readLine_9 ?_
  obtain ⟨x7, e_x7, hf⟩ := zL_e hf
  refine ztopi e_x7 ?_
  refine lv_istore_n (pc := 10) (lv' := [(1, .int x7), (0, .ref (h 0))]) hx hb dX12_readLine_10 rfl hl (by decide) rfl (fun ls hl => ?_)
  refine lv_aload_n (pc := 11) hx hb dX12_readLine_11 rfl (lv_at hl 1 rfl) ?_
  refine rg_20 (pc := 12) C0 hu_12 hW mR_18 dX12_readLine_12 ?_
  refine lv_iload_n (pc := 15) hx hb dX12_readLine_15 rfl (lv_at hl 0 rfl) ?_
  refine lv_aload_n (pc := 16) hx hb dX12_readLine_16 rfl (lv_at hl 1 rfl) ?_
  refine rg_16 (pc := 17) C0 hu_12 hW mR_99 dX12_readLine_17 ?_
  refine lv_i2s (pc := 20) (v := (zi16 (S.1 16))) hx hb dX12_readLine_20 rfl ?_
  obtain ⟨i8, hf⟩ := zn hf
  obtain ⟨S9, e_S9, hf⟩ := zL_e hf
  refine rs_20 (pc := 21) C0 hW i8 e_S9 dX12_readLine_21 (fun H locs hW => ?_)
  refine lv_aload_n (pc := 22) hx hb dX12_readLine_22 rfl (lv_at hl 1 rfl) ?_
  obtain ⟨S11, e12, hf⟩ := zU_e hf
  refine zcVv zTr_ok (As := []) (pc := 23) C0 hW (kX12_either l D cA h H.size N zfuel S9 S11 e12) (cwV 0 hts (zgV gaR mR_122 mR_123 mR_124 mR_46 mR_136) rfl rfl rfl (by decide +kernel) ⟨Nat.le_of_ble_eq_true rfl, Nat.le_of_ble_eq_true rfl⟩) (va_recv hW.1 hW.2.1 (ci := 12) (q0 := 0) rfl rfl) rfl hl.1 rfl (Nat.le_of_ble_eq_true rfl) dX12_readLine_23 (fun H locs hW => ?_)
  refine lv_aload_n (pc := 26) hx hb dX12_readLine_26 rfl (lv_at hl 1 rfl) ?_
  refine rg_14 (pc := 27) C0 hu_12 hW mR_54 dX12_readLine_27 ?_
  refine lv_if_ge (pc := 30) (tgt := 67) hx hb dX12_readLine_30 (by decide) (fun c13 => ?_) (fun c13 => ?_)
  · have hf := zt c13 hf
    exact w67 x7 S11 H locs hW ls (lv_sub hl [1, 0] rfl) hf
  · have hf := zf c13 hf
    refine lv_aload_n (pc := 33) hx hb dX12_readLine_33 rfl (lv_at hl 1 rfl) ?_
    obtain ⟨r14, S15, e16, hf⟩ := zB_e hf
    refine zcVi zTr_ok (As := []) (pc := 34) C0 hW (kX12_look l D cA h H.size S11 r14 S15 e16) (cwV 0 hts (zgV gaR mR_107 mR_108 mR_109 mR_46 mR_96) rfl rfl rfl (by decide +kernel) ⟨Nat.le_of_ble_eq_true rfl, Nat.le_of_ble_eq_true rfl⟩) (va_recv hW.1 hW.2.1 (ci := 12) (q0 := 0) rfl rfl) rfl hl.1 rfl (Nat.le_of_ble_eq_true rfl) dX12_readLine_34 (fun H locs hW => ?_)
    refine lv_bipush (pc := 37) (v := 63) hx hb dX12_readLine_37 (by decide) ?_
    refine lv_icmp_ne (pc := 39) (tgt := 67) hx hb dX12_readLine_39 (by decide) (fun c17 => ?_) (fun c17 => ?_)
    · have hf := zf c17 hf
      exact w67 x7 S15 H locs hW ls (lv_sub hl [1, 0] rfl) hf
    · have hf := zt c17 hf
      refine lv_aload_n (pc := 42) hx hb dX12_readLine_42 rfl (lv_at hl 1 rfl) ?_
      refine lv_dup (pc := 43) hx hb dX12_readLine_43 rfl ?_
      refine rg_13 (pc := 44) C0 hu_12 hW mR_55 dX12_readLine_44 ?_
      refine lv_iconst (pc := 47) (v := 1) hx hb dX12_readLine_47 (by decide) ?_
      refine lv_iadd (pc := 48) hx hb dX12_readLine_48 ?_
      obtain ⟨S18, e_S18, hf⟩ := zL_e hf
      refine rp_13 (pc := 49) C0 hu_12 hW mR_55 e_S18 dX12_readLine_49 (fun H locs hW => ?_)
      refine lv_aload_n (pc := 52) hx hb dX12_readLine_52 rfl (lv_at hl 1 rfl) ?_
      refine rg_20 (pc := 53) C0 hu_12 hW mR_18 dX12_readLine_53 ?_
      refine lv_iload_n (pc := 56) hx hb dX12_readLine_56 rfl (lv_at hl 0 rfl) ?_
      refine lv_aload_n (pc := 57) hx hb dX12_readLine_57 rfl (lv_at hl 1 rfl) ?_
      refine rg_16 (pc := 58) C0 hu_12 hW mR_99 dX12_readLine_58 ?_
      refine lv_i2s (pc := 61) (v := (zi16 (S18.1 16))) hx hb dX12_readLine_61 rfl ?_
      obtain ⟨i19, hf⟩ := zn hf
      obtain ⟨S20, e_S20, hf⟩ := zL_e hf
      refine rs_20 (pc := 62) C0 hW i19 e_S20 dX12_readLine_62 (fun H locs hW => ?_)
      refine lv_aload_n (pc := 63) hx hb dX12_readLine_63 rfl (lv_at hl 1 rfl) ?_
      obtain ⟨S22, e23, hf⟩ := zU_e hf
      refine zcVv zTr_ok (As := []) (pc := 64) C0 hW (kX12_either l D cA h H.size N zfuel S20 S22 e23) (cwV 0 hts (zgV gaR mR_122 mR_123 mR_124 mR_46 mR_136) rfl rfl rfl (by decide +kernel) ⟨Nat.le_of_ble_eq_true rfl, Nat.le_of_ble_eq_true rfl⟩) (va_recv hW.1 hW.2.1 (ci := 12) (q0 := 0) rfl rfl) rfl hl.1 rfl (Nat.le_of_ble_eq_true rfl) dX12_readLine_64 (fun H locs hW => ?_)
      exact w67 x7 S22 H locs hW ls (lv_sub hl [1, 0] rfl) hf

def fX12_readText_b177 (N : Nat) : Nat → Int32 → Int32 → zSt → Option (Int32 × zSt)
  | 0, _, _, _ => none
  | n + 1, v1, v2, S =>
    if zin v1 5 then if (S.2.1 19 (Int32.toNatClampNeg v1)) ≤ v2 then (some ((-1), S)) else (if zin (244 + v2) 305 then if zin ((61 * v1) + v2) 305 then zL (zA S 20 (Int32.toNatClampNeg ((61 * v1) + v2)) (vp_nar .short (S.2.1 20 (Int32.toNatClampNeg (244 + v2))))) fun S5 => if zin (244 + v2) 305 then if zin ((61 * v1) + v2) 305 then zL (zA S5 21 (Int32.toNatClampNeg ((61 * v1) + v2)) (vp_nar .short (S5.2.1 21 (Int32.toNatClampNeg (244 + v2))))) fun S8 => fX12_readText_b177 N n v1 (v2 + 1) S8 else none else none else none else none) else none
def fX12_readText_b105 (N : Nat) : Nat → Int32 → Int32 → zSt → Option (Int32 × zSt)
  | 0, _, _, _ => none
  | n + 1, v1, v2, S =>
    if (S.1 16) ≤ v2 then (if zin 4 5 then if zin v1 5 then zL (zA S 19 (Int32.toNatClampNeg v1) (S.2.1 19 (Int32.toNatClampNeg 4))) fun S12 => fX12_readText_b177 N N v1 0 S12 else none else none) else (if zin (520 + v2) 650 then if zin ((130 * v1) + v2) 650 then zL (zA S 17 (Int32.toNatClampNeg ((130 * v1) + v2)) (vp_nar .byte (S.2.1 17 (Int32.toNatClampNeg (520 + v2))))) fun S15 => if zin (520 + v2) 650 then if zin ((130 * v1) + v2) 650 then zL (zA S15 18 (Int32.toNatClampNeg ((130 * v1) + v2)) (S15.2.1 18 (Int32.toNatClampNeg (520 + v2)))) fun S18 => fX12_readText_b105 N n v1 (v2 + 1) S18 else none else none else none else none)
def fX12_readText_b86 (N : Nat) (v1 : Int32) (S : zSt) : Option (Int32 × zSt) :=
  zL (zI S 2 0) fun S19 => if (S19.1 14) < 0 then (fX12_readText_b105 N N v1 0 S19) else (some ((S19.1 14), S19))
def fX12_readText_b64 (N : Nat) (v1 : Int32) (S : zSt) : Option (Int32 × zSt) :=
  if 0 ≤ (S.1 14) then (fX12_readText_b86 N v1 S) else (if (S.1 2) ≤ (S.1 13) then (fX12_readText_b86 N v1 S) else (zU (fX12_wrong S) fun S24 => fX12_readText_b86 N v1 S24))
def fX12_readText_b31 (N : Nat) : Nat → Int32 → zSt → Option (Int32 × zSt)
  | 0, _, _ => none
  | n + 1, v1, S =>
    if 0 ≤ (S.1 14) then (fX12_readText_b64 N v1 S) else (zB (fX12_look S) fun r27 S28 => if r27 = 59 then (zL (zI S28 13 ((S28.1 13) + 1)) fun S31 => zU (fX12_readLine N S31) fun S33 => fX12_readText_b31 N n v1 S33) else (fX12_readText_b64 N v1 S28))
def fX12_readText (N : Nat) (p1 : Int32) (S : zSt) : Option (Int32 × zSt) :=
  zL (zI S 13 0) fun S35 => zL (zI S35 14 (-1)) fun S36 => zL (zI S36 15 0) fun S37 => zL (zI S37 16 0) fun S38 => if zin 4 5 then zL (zA S38 19 (Int32.toNatClampNeg 4) 0) fun S40 => zU (fX12_readLine N S40) fun S42 => fX12_readText_b31 N N p1 S42 else none
abbrev wX12_readText : List Cond := Cond.code yX12_readText cX12_readText 3 (some .int) :: waR
abbrev rmX12_readText : Room := { frames := 114, cells := 0, slots := 0, locals := 4641 }
set_option maxHeartbeats 4000000 in
set_option maxRecDepth 100000 in
theorem kX12_readText (l : Launch) (D : va_G) (cA : Nat → ClassId) (h : Nat → Nat) (sz : Nat) (N : Nat)  (p1 : Int32) (S : zSt) (r : Int32) (S1 : zSt) (hf : fX12_readText N p1 S = some (r, S1)) : zMi l yX12_readText wX12_readText rmX12_readText zTr D (tR cA) (hsR h) [.ref (h 0), .int p1] (wR cA h S) (wR cA h S1) sz r := by
  refine zEn_i (cc := cX12_readText) (maxL := 3) (own := RX12) (by decide) rfl rfl (hmR cA h S) (Nat.le_of_ble_eq_true rfl) ?_
  intro p e s m args below meth c Q H locs C0 hW fin ls hl
  have hl : lv_has ls 3 [(0, .ref (h 0)), (1, .int p1)] := hl
  have hx := C0.1
  have hb := C0.2.1
  have hown := C0.2.2.2.1
  have hts := C0.2.2.2.2
  have w177 : ∀ (n : Nat), ∀ (v1 : Int32) (v2 : Int32) (S : zSt) (H : Heap) (locs : List Loc), zW zTr D (tR cA) (wR cA h S) (aW (hsR h) s.heap.size) s H locs → ∀ ls : Array Slot, lv_has ls 3 [(0, .ref (h 0)), (1, .int v1), (2, .int v2)] → fX12_readText_b177 N n v1 v2 S = some (r, S1) → W p l e rmX12_readText s m args below meth c H locs 0 0 Q (F0 m 177 ls []) := by
    intro n
    induction n with
    | zero =>
      intro v1 v2 S H locs hW ls hl hf
      exact absurd hf (by intro h; cases h)
    | succ n ih =>
      intro v1 v2 S H locs hW ls hl hf
      rw [fX12_readText_b177] at hf
      refine lv_iload_n (pc := 177) hx hb dX12_readText_177 rfl (lv_at hl 2 rfl) ?_
      refine lv_aload_n (pc := 178) hx hb dX12_readText_178 rfl (lv_at hl 0 rfl) ?_
      refine rg_19 (pc := 179) C0 hu_12 hW mR_16 dX12_readText_179 ?_
      refine lv_iload_n (pc := 182) hx hb dX12_readText_182 rfl (lv_at hl 1 rfl) ?_
      obtain ⟨i1, hf⟩ := zn hf
      refine rl_19 (pc := 183) C0 hW i1 dX12_readText_183 ?_
      refine lv_icmp_ge (pc := 184) (tgt := 235) hx hb dX12_readText_184 (by decide) (fun c2 => ?_) (fun c2 => ?_)
      · have hf := zt c2 hf
        refine lv_iconst (pc := 235) (v := (-1)) hx hb dX12_readText_235 (by decide) ?_
        exact zend_i (w := wR cA h) fin hf hW dX12_readText_236
      · have hf := zf c2 hf
        refine lv_aload_n (pc := 187) hx hb dX12_readText_187 rfl (lv_at hl 0 rfl) ?_
        refine rg_20 (pc := 188) C0 hu_12 hW mR_18 dX12_readText_188 ?_
        refine lv_bipush (pc := 191) (v := 61) hx hb dX12_readText_191 (by decide) ?_
        refine lv_iload_n (pc := 193) hx hb dX12_readText_193 rfl (lv_at hl 1 rfl) ?_
        refine lv_imul (pc := 194) hx hb dX12_readText_194 ?_
        refine lv_iload_n (pc := 195) hx hb dX12_readText_195 rfl (lv_at hl 2 rfl) ?_
        refine lv_iadd (pc := 196) hx hb dX12_readText_196 ?_
        refine lv_aload_n (pc := 197) hx hb dX12_readText_197 rfl (lv_at hl 0 rfl) ?_
        refine rg_20 (pc := 198) C0 hu_12 hW mR_18 dX12_readText_198 ?_
        refine lv_sipush (pc := 201) (v := 244) hx hb dX12_readText_201 (by decide) ?_
        refine lv_iload_n (pc := 204) hx hb dX12_readText_204 rfl (lv_at hl 2 rfl) ?_
        refine lv_iadd (pc := 205) hx hb dX12_readText_205 ?_
        obtain ⟨i3, hf⟩ := zn hf
        refine rl_20 (pc := 206) C0 hW i3 dX12_readText_206 ?_
        obtain ⟨i4, hf⟩ := zn hf
        obtain ⟨S5, e_S5, hf⟩ := zL_e hf
        refine rs_20 (pc := 207) C0 hW i4 e_S5 dX12_readText_207 (fun H locs hW => ?_)
        refine lv_aload_n (pc := 208) hx hb dX12_readText_208 rfl (lv_at hl 0 rfl) ?_
        refine rg_21 (pc := 209) C0 hu_12 hW mR_19 dX12_readText_209 ?_
        refine lv_bipush (pc := 212) (v := 61) hx hb dX12_readText_212 (by decide) ?_
        refine lv_iload_n (pc := 214) hx hb dX12_readText_214 rfl (lv_at hl 1 rfl) ?_
        refine lv_imul (pc := 215) hx hb dX12_readText_215 ?_
        refine lv_iload_n (pc := 216) hx hb dX12_readText_216 rfl (lv_at hl 2 rfl) ?_
        refine lv_iadd (pc := 217) hx hb dX12_readText_217 ?_
        refine lv_aload_n (pc := 218) hx hb dX12_readText_218 rfl (lv_at hl 0 rfl) ?_
        refine rg_21 (pc := 219) C0 hu_12 hW mR_19 dX12_readText_219 ?_
        refine lv_sipush (pc := 222) (v := 244) hx hb dX12_readText_222 (by decide) ?_
        refine lv_iload_n (pc := 225) hx hb dX12_readText_225 rfl (lv_at hl 2 rfl) ?_
        refine lv_iadd (pc := 226) hx hb dX12_readText_226 ?_
        obtain ⟨i6, hf⟩ := zn hf
        refine rl_21 (pc := 227) C0 hW i6 dX12_readText_227 ?_
        obtain ⟨i7, hf⟩ := zn hf
        obtain ⟨S8, e_S8, hf⟩ := zL_e hf
        refine rs_21 (pc := 228) C0 hW i7 e_S8 dX12_readText_228 (fun H locs hW => ?_)
        refine lv_iinc (pc := 229) (v := (v2 + 1)) (lv' := [(2, .int (v2 + 1)), (0, .ref (h 0)), (1, .int v1)]) hx hb dX12_readText_229 hl (k := 2) rfl (by rfl) (by decide) rfl (fun ls hl => ?_)
        refine lv_goto (pc := 232) (tgt := 177) hx hb dX12_readText_232 (by decide) ?_
        exact ih v1 (v2 + 1) S8 H locs hW ls (lv_sub hl [1, 2, 0] rfl) hf
  have w105 : ∀ (n : Nat), ∀ (v1 : Int32) (v2 : Int32) (S : zSt) (H : Heap) (locs : List Loc), zW zTr D (tR cA) (wR cA h S) (aW (hsR h) s.heap.size) s H locs → ∀ ls : Array Slot, lv_has ls 3 [(0, .ref (h 0)), (1, .int v1), (2, .int v2)] → fX12_readText_b105 N n v1 v2 S = some (r, S1) → W p l e rmX12_readText s m args below meth c H locs 0 0 Q (F0 m 105 ls []) := by
    intro n
    induction n with
    | zero =>
      intro v1 v2 S H locs hW ls hl hf
      exact absurd hf (by intro h; cases h)
    | succ n ih =>
      intro v1 v2 S H locs hW ls hl hf
      rw [fX12_readText_b105] at hf
      refine lv_iload_n (pc := 105) hx hb dX12_readText_105 rfl (lv_at hl 2 rfl) ?_
      refine lv_aload_n (pc := 106) hx hb dX12_readText_106 rfl (lv_at hl 0 rfl) ?_
      refine rg_16 (pc := 107) C0 hu_12 hW mR_99 dX12_readText_107 ?_
      refine lv_icmp_ge (pc := 110) (tgt := 163) hx hb dX12_readText_110 (by decide) (fun c9 => ?_) (fun c9 => ?_)
      · have hf := zt c9 hf
        refine lv_aload_n (pc := 163) hx hb dX12_readText_163 rfl (lv_at hl 0 rfl) ?_
        refine rg_19 (pc := 164) C0 hu_12 hW mR_16 dX12_readText_164 ?_
        refine lv_iload_n (pc := 167) hx hb dX12_readText_167 rfl (lv_at hl 1 rfl) ?_
        refine lv_aload_n (pc := 168) hx hb dX12_readText_168 rfl (lv_at hl 0 rfl) ?_
        refine rg_19 (pc := 169) C0 hu_12 hW mR_16 dX12_readText_169 ?_
        refine lv_iconst (pc := 172) (v := 4) hx hb dX12_readText_172 (by decide) ?_
        obtain ⟨i10, hf⟩ := zn hf
        refine rl_19 (pc := 173) C0 hW i10 dX12_readText_173 ?_
        obtain ⟨i11, hf⟩ := zn hf
        obtain ⟨S12, e_S12, hf⟩ := zL_e hf
        refine rs_19 (pc := 174) C0 hW i11 e_S12 dX12_readText_174 (fun H locs hW => ?_)
        refine lv_iconst (pc := 175) (v := 0) hx hb dX12_readText_175 (by decide) ?_
        refine lv_istore_n (pc := 176) (lv' := [(2, .int 0), (0, .ref (h 0)), (1, .int v1)]) hx hb dX12_readText_176 rfl hl (by decide) rfl (fun ls hl => ?_)
        exact w177 N v1 0 S12 H locs hW ls (lv_sub hl [1, 2, 0] rfl) hf
      · have hf := zf c9 hf
        refine lv_aload_n (pc := 113) hx hb dX12_readText_113 rfl (lv_at hl 0 rfl) ?_
        refine rg_17 (pc := 114) C0 hu_12 hW mR_14 dX12_readText_114 ?_
        refine lv_sipush (pc := 117) (v := 130) hx hb dX12_readText_117 (by decide) ?_
        refine lv_iload_n (pc := 120) hx hb dX12_readText_120 rfl (lv_at hl 1 rfl) ?_
        refine lv_imul (pc := 121) hx hb dX12_readText_121 ?_
        refine lv_iload_n (pc := 122) hx hb dX12_readText_122 rfl (lv_at hl 2 rfl) ?_
        refine lv_iadd (pc := 123) hx hb dX12_readText_123 ?_
        refine lv_aload_n (pc := 124) hx hb dX12_readText_124 rfl (lv_at hl 0 rfl) ?_
        refine rg_17 (pc := 125) C0 hu_12 hW mR_14 dX12_readText_125 ?_
        refine lv_sipush (pc := 128) (v := 520) hx hb dX12_readText_128 (by decide) ?_
        refine lv_iload_n (pc := 131) hx hb dX12_readText_131 rfl (lv_at hl 2 rfl) ?_
        refine lv_iadd (pc := 132) hx hb dX12_readText_132 ?_
        obtain ⟨i13, hf⟩ := zn hf
        refine rl_17 (pc := 133) C0 hW i13 dX12_readText_133 ?_
        obtain ⟨i14, hf⟩ := zn hf
        obtain ⟨S15, e_S15, hf⟩ := zL_e hf
        refine rs_17 (pc := 134) C0 hW i14 e_S15 dX12_readText_134 (fun H locs hW => ?_)
        refine lv_aload_n (pc := 135) hx hb dX12_readText_135 rfl (lv_at hl 0 rfl) ?_
        refine rg_18 (pc := 136) C0 hu_12 hW mR_15 dX12_readText_136 ?_
        refine lv_sipush (pc := 139) (v := 130) hx hb dX12_readText_139 (by decide) ?_
        refine lv_iload_n (pc := 142) hx hb dX12_readText_142 rfl (lv_at hl 1 rfl) ?_
        refine lv_imul (pc := 143) hx hb dX12_readText_143 ?_
        refine lv_iload_n (pc := 144) hx hb dX12_readText_144 rfl (lv_at hl 2 rfl) ?_
        refine lv_iadd (pc := 145) hx hb dX12_readText_145 ?_
        refine lv_aload_n (pc := 146) hx hb dX12_readText_146 rfl (lv_at hl 0 rfl) ?_
        refine rg_18 (pc := 147) C0 hu_12 hW mR_15 dX12_readText_147 ?_
        refine lv_sipush (pc := 150) (v := 520) hx hb dX12_readText_150 (by decide) ?_
        refine lv_iload_n (pc := 153) hx hb dX12_readText_153 rfl (lv_at hl 2 rfl) ?_
        refine lv_iadd (pc := 154) hx hb dX12_readText_154 ?_
        obtain ⟨i16, hf⟩ := zn hf
        refine rl_18 (pc := 155) C0 hW i16 dX12_readText_155 ?_
        obtain ⟨i17, hf⟩ := zn hf
        obtain ⟨S18, e_S18, hf⟩ := zL_e hf
        refine rs_18 (pc := 156) C0 hW i17 e_S18 dX12_readText_156 (fun H locs hW => ?_)
        refine lv_iinc (pc := 157) (v := (v2 + 1)) (lv' := [(2, .int (v2 + 1)), (0, .ref (h 0)), (1, .int v1)]) hx hb dX12_readText_157 hl (k := 2) rfl (by rfl) (by decide) rfl (fun ls hl => ?_)
        refine lv_goto (pc := 160) (tgt := 105) hx hb dX12_readText_160 (by decide) ?_
        exact ih v1 (v2 + 1) S18 H locs hW ls (lv_sub hl [1, 2, 0] rfl) hf
  have w86 : ∀ (v1 : Int32) (S : zSt) (H : Heap) (locs : List Loc), zW zTr D (tR cA) (wR cA h S) (aW (hsR h) s.heap.size) s H locs → ∀ ls : Array Slot, lv_has ls 3 [(0, .ref (h 0)), (1, .int v1)] → fX12_readText_b86 N v1 S = some (r, S1) → W p l e rmX12_readText s m args below meth c H locs 0 0 Q (F0 m 86 ls []) := by
    intro v1 S H locs hW ls hl hf
    unfold fX12_readText_b86 at hf
    refine lv_aload_n (pc := 86) hx hb dX12_readText_86 rfl (lv_at hl 0 rfl) ?_
    refine lv_iconst (pc := 87) (v := 0) hx hb dX12_readText_87 (by decide) ?_
    obtain ⟨S19, e_S19, hf⟩ := zL_e hf
    refine rp_2 (pc := 88) C0 hu_12 hW mR_43 e_S19 dX12_readText_88 (fun H locs hW => ?_)
    refine lv_aload_n (pc := 91) hx hb dX12_readText_91 rfl (lv_at hl 0 rfl) ?_
    refine rg_14 (pc := 92) C0 hu_12 hW mR_54 dX12_readText_92 ?_
    refine lv_if_lt (pc := 95) (tgt := 103) hx hb dX12_readText_95 (by decide) (fun c20 => ?_) (fun c20 => ?_)
    · have hf := zt c20 hf
      refine lv_iconst (pc := 103) (v := 0) hx hb dX12_readText_103 (by decide) ?_
      refine lv_istore_n (pc := 104) (lv' := [(2, .int 0), (0, .ref (h 0)), (1, .int v1)]) hx hb dX12_readText_104 rfl hl (by decide) rfl (fun ls hl => ?_)
      exact w105 N v1 0 S19 H locs hW ls (lv_sub hl [1, 2, 0] rfl) hf
    · have hf := zf c20 hf
      refine lv_aload_n (pc := 98) hx hb dX12_readText_98 rfl (lv_at hl 0 rfl) ?_
      refine rg_14 (pc := 99) C0 hu_12 hW mR_54 dX12_readText_99 ?_
      exact zend_i (w := wR cA h) fin hf hW dX12_readText_102
  have w64 : ∀ (v1 : Int32) (S : zSt) (H : Heap) (locs : List Loc), zW zTr D (tR cA) (wR cA h S) (aW (hsR h) s.heap.size) s H locs → ∀ ls : Array Slot, lv_has ls 3 [(0, .ref (h 0)), (1, .int v1)] → fX12_readText_b64 N v1 S = some (r, S1) → W p l e rmX12_readText s m args below meth c H locs 0 0 Q (F0 m 64 ls []) := by
    intro v1 S H locs hW ls hl hf
    unfold fX12_readText_b64 at hf
    refine lv_aload_n (pc := 64) hx hb dX12_readText_64 rfl (lv_at hl 0 rfl) ?_
    refine rg_14 (pc := 65) C0 hu_12 hW mR_54 dX12_readText_65 ?_
    refine lv_if_ge (pc := 68) (tgt := 86) hx hb dX12_readText_68 (by decide) (fun c21 => ?_) (fun c21 => ?_)
    · have hf := zt c21 hf
      exact w86 v1 S H locs hW ls (lv_sub hl [0, 1] rfl) hf
    · have hf := zf c21 hf
      refine lv_aload_n (pc := 71) hx hb dX12_readText_71 rfl (lv_at hl 0 rfl) ?_
      refine rg_13 (pc := 72) C0 hu_12 hW mR_55 dX12_readText_72 ?_
      refine lv_aload_n (pc := 75) hx hb dX12_readText_75 rfl (lv_at hl 0 rfl) ?_
      refine rg_2 (pc := 76) C0 hu_12 hW mR_43 dX12_readText_76 ?_
      refine lv_icmp_ge (pc := 79) (tgt := 86) hx hb dX12_readText_79 (by decide) (fun c22 => ?_) (fun c22 => ?_)
      · have hf := zt c22 hf
        exact w86 v1 S H locs hW ls (lv_sub hl [0, 1] rfl) hf
      · have hf := zf c22 hf
        refine lv_aload_n (pc := 82) hx hb dX12_readText_82 rfl (lv_at hl 0 rfl) ?_
        obtain ⟨S24, e25, hf⟩ := zU_e hf
        refine zcVv zTr_ok (As := []) (pc := 83) C0 hW (kX12_wrong l D cA h H.size S S24 e25) (cwV 0 hts (zgV gaR mR_103 mR_104 mR_105 mR_46 mR_97) rfl rfl rfl (by decide +kernel) ⟨Nat.le_of_ble_eq_true rfl, Nat.le_of_ble_eq_true rfl⟩) (va_recv hW.1 hW.2.1 (ci := 12) (q0 := 0) rfl rfl) rfl hl.1 rfl (Nat.le_of_ble_eq_true rfl) dX12_readText_83 (fun H locs hW => ?_)
        exact w86 v1 S24 H locs hW ls (lv_sub hl [0, 1] rfl) hf
  have w31 : ∀ (n : Nat), ∀ (v1 : Int32) (S : zSt) (H : Heap) (locs : List Loc), zW zTr D (tR cA) (wR cA h S) (aW (hsR h) s.heap.size) s H locs → ∀ ls : Array Slot, lv_has ls 3 [(0, .ref (h 0)), (1, .int v1)] → fX12_readText_b31 N n v1 S = some (r, S1) → W p l e rmX12_readText s m args below meth c H locs 0 0 Q (F0 m 31 ls []) := by
    intro n
    induction n with
    | zero =>
      intro v1 S H locs hW ls hl hf
      exact absurd hf (by intro h; cases h)
    | succ n ih =>
      intro v1 S H locs hW ls hl hf
      rw [fX12_readText_b31] at hf
      refine lv_aload_n (pc := 31) hx hb dX12_readText_31 rfl (lv_at hl 0 rfl) ?_
      refine rg_14 (pc := 32) C0 hu_12 hW mR_54 dX12_readText_32 ?_
      refine lv_if_ge (pc := 35) (tgt := 64) hx hb dX12_readText_35 (by decide) (fun c26 => ?_) (fun c26 => ?_)
      · have hf := zt c26 hf
        exact w64 v1 S H locs hW ls (lv_sub hl [0, 1] rfl) hf
      · have hf := zf c26 hf
        refine lv_aload_n (pc := 38) hx hb dX12_readText_38 rfl (lv_at hl 0 rfl) ?_
        obtain ⟨r27, S28, e29, hf⟩ := zB_e hf
        refine zcVi zTr_ok (As := []) (pc := 39) C0 hW (kX12_look l D cA h H.size S r27 S28 e29) (cwV 0 hts (zgV gaR mR_107 mR_108 mR_109 mR_46 mR_96) rfl rfl rfl (by decide +kernel) ⟨Nat.le_of_ble_eq_true rfl, Nat.le_of_ble_eq_true rfl⟩) (va_recv hW.1 hW.2.1 (ci := 12) (q0 := 0) rfl rfl) rfl hl.1 rfl (Nat.le_of_ble_eq_true rfl) dX12_readText_39 (fun H locs hW => ?_)
        refine lv_bipush (pc := 42) (v := 59) hx hb dX12_readText_42 (by decide) ?_
        refine lv_icmp_ne (pc := 44) (tgt := 64) hx hb dX12_readText_44 (by decide) (fun c30 => ?_) (fun c30 => ?_)
        · have hf := zf c30 hf
          exact w64 v1 S28 H locs hW ls (lv_sub hl [0, 1] rfl) hf
        · have hf := zt c30 hf
          refine lv_aload_n (pc := 47) hx hb dX12_readText_47 rfl (lv_at hl 0 rfl) ?_
          refine lv_dup (pc := 48) hx hb dX12_readText_48 rfl ?_
          refine rg_13 (pc := 49) C0 hu_12 hW mR_55 dX12_readText_49 ?_
          refine lv_iconst (pc := 52) (v := 1) hx hb dX12_readText_52 (by decide) ?_
          refine lv_iadd (pc := 53) hx hb dX12_readText_53 ?_
          obtain ⟨S31, e_S31, hf⟩ := zL_e hf
          refine rp_13 (pc := 54) C0 hu_12 hW mR_55 e_S31 dX12_readText_54 (fun H locs hW => ?_)
          refine lv_aload_n (pc := 57) hx hb dX12_readText_57 rfl (lv_at hl 0 rfl) ?_
          obtain ⟨S33, e34, hf⟩ := zU_e hf
          refine zcVv zTr_ok (As := []) (pc := 58) C0 hW (kX12_readLine l D cA h H.size N S31 S33 e34) (cwV 0 hts (zgV gaR mR_147 mR_148 mR_149 mR_46 mR_145) rfl rfl rfl (by decide +kernel) ⟨Nat.le_of_ble_eq_true rfl, Nat.le_of_ble_eq_true rfl⟩) (va_recv hW.1 hW.2.1 (ci := 12) (q0 := 0) rfl rfl) rfl hl.1 rfl (Nat.le_of_ble_eq_true rfl) dX12_readText_58 (fun H locs hW => ?_)
          refine lv_goto (pc := 61) (tgt := 31) hx hb dX12_readText_61 (by decide) ?_
          exact ih v1 S33 H locs hW ls (lv_sub hl [0, 1] rfl) hf
  unfold fX12_readText at hf
  refine lv_aload_n (pc := 0) hx hb dX12_readText_0 rfl (lv_at hl 0 rfl) ?_
  refine lv_iconst (pc := 1) (v := 0) hx hb dX12_readText_1 (by decide) ?_
  obtain ⟨S35, e_S35, hf⟩ := zL_e hf
  refine rp_13 (pc := 2) C0 hu_12 hW mR_55 e_S35 dX12_readText_2 (fun H locs hW => ?_)
  refine lv_aload_n (pc := 5) hx hb dX12_readText_5 rfl (lv_at hl 0 rfl) ?_
  refine lv_iconst (pc := 6) (v := (-1)) hx hb dX12_readText_6 (by decide) ?_
  obtain ⟨S36, e_S36, hf⟩ := zL_e hf
  refine rp_14 (pc := 7) C0 hu_12 hW mR_54 e_S36 dX12_readText_7 (fun H locs hW => ?_)
  refine lv_aload_n (pc := 10) hx hb dX12_readText_10 rfl (lv_at hl 0 rfl) ?_
  refine lv_iconst (pc := 11) (v := 0) hx hb dX12_readText_11 (by decide) ?_
  obtain ⟨S37, e_S37, hf⟩ := zL_e hf
  refine rp_15 (pc := 12) C0 hu_12 hW mR_102 e_S37 dX12_readText_12 (fun H locs hW => ?_)
  refine lv_aload_n (pc := 15) hx hb dX12_readText_15 rfl (lv_at hl 0 rfl) ?_
  refine lv_iconst (pc := 16) (v := 0) hx hb dX12_readText_16 (by decide) ?_
  obtain ⟨S38, e_S38, hf⟩ := zL_e hf
  refine rp_16 (pc := 17) C0 hu_12 hW mR_99 e_S38 dX12_readText_17 (fun H locs hW => ?_)
  refine lv_aload_n (pc := 20) hx hb dX12_readText_20 rfl (lv_at hl 0 rfl) ?_
  refine rg_19 (pc := 21) C0 hu_12 hW mR_16 dX12_readText_21 ?_
  refine lv_iconst (pc := 24) (v := 4) hx hb dX12_readText_24 (by decide) ?_
  refine lv_iconst (pc := 25) (v := 0) hx hb dX12_readText_25 (by decide) ?_
  obtain ⟨i39, hf⟩ := zn hf
  obtain ⟨S40, e_S40, hf⟩ := zL_e hf
  refine rs_19 (pc := 26) C0 hW i39 e_S40 dX12_readText_26 (fun H locs hW => ?_)
  refine lv_aload_n (pc := 27) hx hb dX12_readText_27 rfl (lv_at hl 0 rfl) ?_
  obtain ⟨S42, e43, hf⟩ := zU_e hf
  refine zcVv zTr_ok (As := []) (pc := 28) C0 hW (kX12_readLine l D cA h H.size N S40 S42 e43) (cwV 0 hts (zgV gaR mR_147 mR_148 mR_149 mR_46 mR_145) rfl rfl rfl (by decide +kernel) ⟨Nat.le_of_ble_eq_true rfl, Nat.le_of_ble_eq_true rfl⟩) (va_recv hW.1 hW.2.1 (ci := 12) (q0 := 0) rfl rfl) rfl hl.1 rfl (Nat.le_of_ble_eq_true rfl) dX12_readText_28 (fun H locs hW => ?_)
  exact w31 N p1 S42 H locs hW ls (lv_sub hl [0, 1] rfl) hf

def fX12_twoOf_b226   : Option Int32 :=
  some 1
def fX12_twoOf_b163   : Option Int32 :=
  some 0
def fX12_twoOf (p1 : Int32) (p2 : Int32) (p3 : Int32): Option Int32 :=
  if p1 = 37 then (if p3 = 0 then (fX12_twoOf_b163 ) else (if p3 = (-1) then (fX12_twoOf_b163 ) else (if ¬ p3 = 0 then some (p2 - p2 / p3 * p3) else none))) else (if p1 = 38 then (if p2 = 0 then (some 0) else (if p3 = 0 then (some 0) else (some 1))) else (if p1 = 39 then (if p2 = 0 then (if p3 = 0 then (some 0) else (fX12_twoOf_b226 )) else (fX12_twoOf_b226 )) else (if p1 = 40 then (if p2 = 0 then (if p3 = 0 then (some 0) else (fX12_twoOf_b226 )) else (fX12_twoOf_b226 )) else (if p1 = 41 then (if p2 = 0 then (if p3 = 0 then (some 0) else (fX12_twoOf_b226 )) else (fX12_twoOf_b226 )) else (if p1 = 42 then (some (p2 * p3)) else (if p1 = 43 then (some (p2 + p3)) else (if p1 = 44 then (if p2 = 0 then (if p3 = 0 then (some 0) else (fX12_twoOf_b226 )) else (fX12_twoOf_b226 )) else (if p1 = 45 then (some (p2 - p3)) else (if p1 = 46 then (if p2 = 0 then (if p3 = 0 then (some 0) else (fX12_twoOf_b226 )) else (fX12_twoOf_b226 )) else (if p1 = 47 then (if p3 = 0 then (some 0) else (if p3 = (-1) then (some (-p2)) else (if ¬ p3 = 0 then some (p2 / p3) else none))) else (if p1 = 48 then (if p2 = 0 then (if p3 = 0 then (some 0) else (fX12_twoOf_b226 )) else (fX12_twoOf_b226 )) else (if p1 = 49 then (if p2 = 0 then (if p3 = 0 then (some 0) else (fX12_twoOf_b226 )) else (fX12_twoOf_b226 )) else (if p1 = 50 then (if p2 = 0 then (if p3 = 0 then (some 0) else (fX12_twoOf_b226 )) else (fX12_twoOf_b226 )) else (if p1 = 51 then (if p2 = 0 then (if p3 = 0 then (some 0) else (fX12_twoOf_b226 )) else (fX12_twoOf_b226 )) else (if p1 = 52 then (if p2 = 0 then (if p3 = 0 then (some 0) else (fX12_twoOf_b226 )) else (fX12_twoOf_b226 )) else (if p1 = 53 then (if p2 = 0 then (if p3 = 0 then (some 0) else (fX12_twoOf_b226 )) else (fX12_twoOf_b226 )) else (if p1 = 54 then (if p2 = 0 then (if p3 = 0 then (some 0) else (fX12_twoOf_b226 )) else (fX12_twoOf_b226 )) else (if p1 = 55 then (if p2 = 0 then (if p3 = 0 then (some 0) else (fX12_twoOf_b226 )) else (fX12_twoOf_b226 )) else (if p1 = 56 then (if p2 = 0 then (if p3 = 0 then (some 0) else (fX12_twoOf_b226 )) else (fX12_twoOf_b226 )) else (if p1 = 57 then (if p2 = 0 then (if p3 = 0 then (some 0) else (fX12_twoOf_b226 )) else (fX12_twoOf_b226 )) else (if p1 = 58 then (if p2 = 0 then (if p3 = 0 then (some 0) else (fX12_twoOf_b226 )) else (fX12_twoOf_b226 )) else (if p1 = 59 then (if p2 = 0 then (if p3 = 0 then (some 0) else (fX12_twoOf_b226 )) else (fX12_twoOf_b226 )) else (if p1 = 60 then (if p3 ≤ p2 then (some 0) else (some 1)) else (if p1 = 61 then (if p2 = p3 then (some 1) else (some 0)) else (if p1 = 62 then (if p2 ≤ p3 then (some 0) else (some 1)) else (if p2 = 0 then (if p3 = 0 then (some 0) else (fX12_twoOf_b226 )) else (fX12_twoOf_b226 )))))))))))))))))))))))))))
abbrev wX12_twoOf : List Cond := Cond.code yX12_twoOf cX12_twoOf 3 (some .int) :: waR
abbrev rmX12_twoOf : Room := { frames := 0, cells := 0, slots := 0, locals := 0 }
set_option maxHeartbeats 4000000 in
set_option maxRecDepth 100000 in
theorem kX12_twoOf (l : Launch) (sz : Nat) (p1 : Int32) (p2 : Int32) (p3 : Int32) (r : Int32) (hf : fX12_twoOf p1 p2 p3 = some r) : zMs l yX12_twoOf wX12_twoOf rmX12_twoOf [.int p1, .int p2, .int p3] sz r := by
  refine zEs_i (cc := cX12_twoOf) (maxL := 3) (own := RX12) (by decide) rfl rfl (Nat.le_of_ble_eq_true rfl) ?_
  intro p e s m args below meth c Q H locs C0 hW fin ls hl
  have hl : lv_has ls 3 [(0, .int p1), (1, .int p2), (2, .int p3)] := hl
  have hx := C0.1
  have hb := C0.2.1
  have hown := C0.2.2.2.1
  have hts := C0.2.2.2.2
  have w226 : ∀  (H : Heap) (locs : List Loc), va_S (aW [] s.heap.size) s.heap H locs → ∀ ls : Array Slot, lv_has ls 3 [] → fX12_twoOf_b226  = some r → W p l e rmX12_twoOf s m args below meth c H locs 0 0 Q (F0 m 226 ls []) := by
    intro H locs hW ls hl hf
    unfold fX12_twoOf_b226 at hf
    refine lv_iconst (pc := 226) (v := 1) hx hb dX12_twoOf_226 (by decide) ?_
    refine lv_goto (pc := 227) (tgt := 231) hx hb dX12_twoOf_227 (by decide) ?_
    exact zens_i fin hf hW dX12_twoOf_231
  have w163 : ∀  (H : Heap) (locs : List Loc), va_S (aW [] s.heap.size) s.heap H locs → ∀ ls : Array Slot, lv_has ls 3 [] → fX12_twoOf_b163  = some r → W p l e rmX12_twoOf s m args below meth c H locs 0 0 Q (F0 m 163 ls []) := by
    intro H locs hW ls hl hf
    unfold fX12_twoOf_b163 at hf
    refine lv_iconst (pc := 163) (v := 0) hx hb dX12_twoOf_163 (by decide) ?_
    refine lv_goto (pc := 164) (tgt := 170) hx hb dX12_twoOf_164 (by decide) ?_
    exact zens_i fin hf hW dX12_twoOf_170
  unfold fX12_twoOf at hf
  refine lv_iload_n (pc := 0) hx hb dX12_twoOf_0 rfl (lv_at hl 0 rfl) ?_
  by_cases c1 : p1 = 37
  · have hf := zt c1 hf
    refine lv_tableIn (pc := 1) (tgt := 154) (off := 153) hx hb dX12_twoOf_1 (by rw [c1]; decide) (by rw [c1]; decide) (by rw [c1]; decide) (by decide) ?_
    refine lv_iload_n (pc := 154) hx hb dX12_twoOf_154 rfl (lv_at hl 2 rfl) ?_
    refine lv_if_eq (pc := 155) (tgt := 163) hx hb dX12_twoOf_155 (by decide) (fun c2 => ?_) (fun c2 => ?_)
    · have hf := zt c2 hf
      exact w163  H locs hW ls (lv_sub hl [] rfl) hf
    · have hf := zf c2 hf
      refine lv_iload_n (pc := 158) hx hb dX12_twoOf_158 rfl (lv_at hl 2 rfl) ?_
      refine lv_iconst (pc := 159) (v := (-1)) hx hb dX12_twoOf_159 (by decide) ?_
      refine lv_icmp_ne (pc := 160) (tgt := 167) hx hb dX12_twoOf_160 (by decide) (fun c3 => ?_) (fun c3 => ?_)
      · have hf := zf c3 hf
        refine lv_iload_n (pc := 167) hx hb dX12_twoOf_167 rfl (lv_at hl 1 rfl) ?_
        refine lv_iload_n (pc := 168) hx hb dX12_twoOf_168 rfl (lv_at hl 2 rfl) ?_
        obtain ⟨i4, hf⟩ := zn hf
        refine lv_irem (pc := 169) hx hb dX12_twoOf_169 i4 ?_
        exact zens_i fin hf hW dX12_twoOf_170
      · have hf := zt c3 hf
        exact w163  H locs hW ls (lv_sub hl [] rfl) hf
  have hf := zf c1 hf
  by_cases c5 : p1 = 38
  · have hf := zt c5 hf
    refine lv_tableIn (pc := 1) (tgt := 204) (off := 203) hx hb dX12_twoOf_1 (by rw [c5]; decide) (by rw [c5]; decide) (by rw [c5]; decide) (by decide) ?_
    refine lv_iload_n (pc := 204) hx hb dX12_twoOf_204 rfl (lv_at hl 1 rfl) ?_
    refine lv_if_eq (pc := 205) (tgt := 216) hx hb dX12_twoOf_205 (by decide) (fun c6 => ?_) (fun c6 => ?_)
    · have hf := zt c6 hf
      refine lv_iconst (pc := 216) (v := 0) hx hb dX12_twoOf_216 (by decide) ?_
      exact zens_i fin hf hW dX12_twoOf_217
    · have hf := zf c6 hf
      refine lv_iload_n (pc := 208) hx hb dX12_twoOf_208 rfl (lv_at hl 2 rfl) ?_
      refine lv_if_eq (pc := 209) (tgt := 216) hx hb dX12_twoOf_209 (by decide) (fun c7 => ?_) (fun c7 => ?_)
      · have hf := zt c7 hf
        refine lv_iconst (pc := 216) (v := 0) hx hb dX12_twoOf_216 (by decide) ?_
        exact zens_i fin hf hW dX12_twoOf_217
      · have hf := zf c7 hf
        refine lv_iconst (pc := 212) (v := 1) hx hb dX12_twoOf_212 (by decide) ?_
        refine lv_goto (pc := 213) (tgt := 217) hx hb dX12_twoOf_213 (by decide) ?_
        exact zens_i fin hf hW dX12_twoOf_217
  have hf := zf c5 hf
  by_cases c8 : p1 = 39
  · have hf := zt c8 hf
    refine lv_tableIn (pc := 1) (tgt := 218) (off := 217) hx hb dX12_twoOf_1 (by rw [c8]; decide) (by rw [c8]; decide) (by rw [c8]; decide) (by decide) ?_
    refine lv_iload_n (pc := 218) hx hb dX12_twoOf_218 rfl (lv_at hl 1 rfl) ?_
    refine lv_if_ne (pc := 219) (tgt := 226) hx hb dX12_twoOf_219 (by decide) (fun c9 => ?_) (fun c9 => ?_)
    · have hf := zf c9 hf
      exact w226  H locs hW ls (lv_sub hl [] rfl) hf
    · have hf := zt c9 hf
      refine lv_iload_n (pc := 222) hx hb dX12_twoOf_222 rfl (lv_at hl 2 rfl) ?_
      refine lv_if_eq (pc := 223) (tgt := 230) hx hb dX12_twoOf_223 (by decide) (fun c10 => ?_) (fun c10 => ?_)
      · have hf := zt c10 hf
        refine lv_iconst (pc := 230) (v := 0) hx hb dX12_twoOf_230 (by decide) ?_
        exact zens_i fin hf hW dX12_twoOf_231
      · have hf := zf c10 hf
        exact w226  H locs hW ls (lv_sub hl [] rfl) hf
  have hf := zf c8 hf
  by_cases c11 : p1 = 40
  · have hf := zt c11 hf
    refine lv_tableIn (pc := 1) (tgt := 218) (off := 217) hx hb dX12_twoOf_1 (by rw [c11]; decide) (by rw [c11]; decide) (by rw [c11]; decide) (by decide) ?_
    refine lv_iload_n (pc := 218) hx hb dX12_twoOf_218 rfl (lv_at hl 1 rfl) ?_
    refine lv_if_ne (pc := 219) (tgt := 226) hx hb dX12_twoOf_219 (by decide) (fun c12 => ?_) (fun c12 => ?_)
    · have hf := zf c12 hf
      exact w226  H locs hW ls (lv_sub hl [] rfl) hf
    · have hf := zt c12 hf
      refine lv_iload_n (pc := 222) hx hb dX12_twoOf_222 rfl (lv_at hl 2 rfl) ?_
      refine lv_if_eq (pc := 223) (tgt := 230) hx hb dX12_twoOf_223 (by decide) (fun c13 => ?_) (fun c13 => ?_)
      · have hf := zt c13 hf
        refine lv_iconst (pc := 230) (v := 0) hx hb dX12_twoOf_230 (by decide) ?_
        exact zens_i fin hf hW dX12_twoOf_231
      · have hf := zf c13 hf
        exact w226  H locs hW ls (lv_sub hl [] rfl) hf
  have hf := zf c11 hf
  by_cases c14 : p1 = 41
  · have hf := zt c14 hf
    refine lv_tableIn (pc := 1) (tgt := 218) (off := 217) hx hb dX12_twoOf_1 (by rw [c14]; decide) (by rw [c14]; decide) (by rw [c14]; decide) (by decide) ?_
    refine lv_iload_n (pc := 218) hx hb dX12_twoOf_218 rfl (lv_at hl 1 rfl) ?_
    refine lv_if_ne (pc := 219) (tgt := 226) hx hb dX12_twoOf_219 (by decide) (fun c15 => ?_) (fun c15 => ?_)
    · have hf := zf c15 hf
      exact w226  H locs hW ls (lv_sub hl [] rfl) hf
    · have hf := zt c15 hf
      refine lv_iload_n (pc := 222) hx hb dX12_twoOf_222 rfl (lv_at hl 2 rfl) ?_
      refine lv_if_eq (pc := 223) (tgt := 230) hx hb dX12_twoOf_223 (by decide) (fun c16 => ?_) (fun c16 => ?_)
      · have hf := zt c16 hf
        refine lv_iconst (pc := 230) (v := 0) hx hb dX12_twoOf_230 (by decide) ?_
        exact zens_i fin hf hW dX12_twoOf_231
      · have hf := zf c16 hf
        exact w226  H locs hW ls (lv_sub hl [] rfl) hf
  have hf := zf c14 hf
  by_cases c17 : p1 = 42
  · have hf := zt c17 hf
    refine lv_tableIn (pc := 1) (tgt := 128) (off := 127) hx hb dX12_twoOf_1 (by rw [c17]; decide) (by rw [c17]; decide) (by rw [c17]; decide) (by decide) ?_
    refine lv_iload_n (pc := 128) hx hb dX12_twoOf_128 rfl (lv_at hl 1 rfl) ?_
    refine lv_iload_n (pc := 129) hx hb dX12_twoOf_129 rfl (lv_at hl 2 rfl) ?_
    refine lv_imul (pc := 130) hx hb dX12_twoOf_130 ?_
    exact zens_i fin hf hW dX12_twoOf_131
  have hf := zf c17 hf
  by_cases c18 : p1 = 43
  · have hf := zt c18 hf
    refine lv_tableIn (pc := 1) (tgt := 120) (off := 119) hx hb dX12_twoOf_1 (by rw [c18]; decide) (by rw [c18]; decide) (by rw [c18]; decide) (by decide) ?_
    refine lv_iload_n (pc := 120) hx hb dX12_twoOf_120 rfl (lv_at hl 1 rfl) ?_
    refine lv_iload_n (pc := 121) hx hb dX12_twoOf_121 rfl (lv_at hl 2 rfl) ?_
    refine lv_iadd (pc := 122) hx hb dX12_twoOf_122 ?_
    exact zens_i fin hf hW dX12_twoOf_123
  have hf := zf c18 hf
  by_cases c19 : p1 = 44
  · have hf := zt c19 hf
    refine lv_tableIn (pc := 1) (tgt := 218) (off := 217) hx hb dX12_twoOf_1 (by rw [c19]; decide) (by rw [c19]; decide) (by rw [c19]; decide) (by decide) ?_
    refine lv_iload_n (pc := 218) hx hb dX12_twoOf_218 rfl (lv_at hl 1 rfl) ?_
    refine lv_if_ne (pc := 219) (tgt := 226) hx hb dX12_twoOf_219 (by decide) (fun c20 => ?_) (fun c20 => ?_)
    · have hf := zf c20 hf
      exact w226  H locs hW ls (lv_sub hl [] rfl) hf
    · have hf := zt c20 hf
      refine lv_iload_n (pc := 222) hx hb dX12_twoOf_222 rfl (lv_at hl 2 rfl) ?_
      refine lv_if_eq (pc := 223) (tgt := 230) hx hb dX12_twoOf_223 (by decide) (fun c21 => ?_) (fun c21 => ?_)
      · have hf := zt c21 hf
        refine lv_iconst (pc := 230) (v := 0) hx hb dX12_twoOf_230 (by decide) ?_
        exact zens_i fin hf hW dX12_twoOf_231
      · have hf := zf c21 hf
        exact w226  H locs hW ls (lv_sub hl [] rfl) hf
  have hf := zf c19 hf
  by_cases c22 : p1 = 45
  · have hf := zt c22 hf
    refine lv_tableIn (pc := 1) (tgt := 124) (off := 123) hx hb dX12_twoOf_1 (by rw [c22]; decide) (by rw [c22]; decide) (by rw [c22]; decide) (by decide) ?_
    refine lv_iload_n (pc := 124) hx hb dX12_twoOf_124 rfl (lv_at hl 1 rfl) ?_
    refine lv_iload_n (pc := 125) hx hb dX12_twoOf_125 rfl (lv_at hl 2 rfl) ?_
    refine lv_isub (pc := 126) hx hb dX12_twoOf_126 ?_
    exact zens_i fin hf hW dX12_twoOf_127
  have hf := zf c22 hf
  by_cases c23 : p1 = 46
  · have hf := zt c23 hf
    refine lv_tableIn (pc := 1) (tgt := 218) (off := 217) hx hb dX12_twoOf_1 (by rw [c23]; decide) (by rw [c23]; decide) (by rw [c23]; decide) (by decide) ?_
    refine lv_iload_n (pc := 218) hx hb dX12_twoOf_218 rfl (lv_at hl 1 rfl) ?_
    refine lv_if_ne (pc := 219) (tgt := 226) hx hb dX12_twoOf_219 (by decide) (fun c24 => ?_) (fun c24 => ?_)
    · have hf := zf c24 hf
      exact w226  H locs hW ls (lv_sub hl [] rfl) hf
    · have hf := zt c24 hf
      refine lv_iload_n (pc := 222) hx hb dX12_twoOf_222 rfl (lv_at hl 2 rfl) ?_
      refine lv_if_eq (pc := 223) (tgt := 230) hx hb dX12_twoOf_223 (by decide) (fun c25 => ?_) (fun c25 => ?_)
      · have hf := zt c25 hf
        refine lv_iconst (pc := 230) (v := 0) hx hb dX12_twoOf_230 (by decide) ?_
        exact zens_i fin hf hW dX12_twoOf_231
      · have hf := zf c25 hf
        exact w226  H locs hW ls (lv_sub hl [] rfl) hf
  have hf := zf c23 hf
  by_cases c26 : p1 = 47
  · have hf := zt c26 hf
    refine lv_tableIn (pc := 1) (tgt := 132) (off := 131) hx hb dX12_twoOf_1 (by rw [c26]; decide) (by rw [c26]; decide) (by rw [c26]; decide) (by decide) ?_
    refine lv_iload_n (pc := 132) hx hb dX12_twoOf_132 rfl (lv_at hl 2 rfl) ?_
    refine lv_if_ne (pc := 133) (tgt := 140) hx hb dX12_twoOf_133 (by decide) (fun c27 => ?_) (fun c27 => ?_)
    · have hf := zf c27 hf
      refine lv_iload_n (pc := 140) hx hb dX12_twoOf_140 rfl (lv_at hl 2 rfl) ?_
      refine lv_iconst (pc := 141) (v := (-1)) hx hb dX12_twoOf_141 (by decide) ?_
      refine lv_icmp_ne (pc := 142) (tgt := 150) hx hb dX12_twoOf_142 (by decide) (fun c28 => ?_) (fun c28 => ?_)
      · have hf := zf c28 hf
        refine lv_iload_n (pc := 150) hx hb dX12_twoOf_150 rfl (lv_at hl 1 rfl) ?_
        refine lv_iload_n (pc := 151) hx hb dX12_twoOf_151 rfl (lv_at hl 2 rfl) ?_
        obtain ⟨i29, hf⟩ := zn hf
        refine lv_idiv (pc := 152) hx hb dX12_twoOf_152 i29 ?_
        exact zens_i fin hf hW dX12_twoOf_153
      · have hf := zt c28 hf
        refine lv_iload_n (pc := 145) hx hb dX12_twoOf_145 rfl (lv_at hl 1 rfl) ?_
        refine lv_ineg (pc := 146) hx hb dX12_twoOf_146 ?_
        refine lv_goto (pc := 147) (tgt := 153) hx hb dX12_twoOf_147 (by decide) ?_
        exact zens_i fin hf hW dX12_twoOf_153
    · have hf := zt c27 hf
      refine lv_iconst (pc := 136) (v := 0) hx hb dX12_twoOf_136 (by decide) ?_
      refine lv_goto (pc := 137) (tgt := 153) hx hb dX12_twoOf_137 (by decide) ?_
      exact zens_i fin hf hW dX12_twoOf_153
  have hf := zf c26 hf
  by_cases c30 : p1 = 48
  · have hf := zt c30 hf
    refine lv_tableIn (pc := 1) (tgt := 218) (off := 217) hx hb dX12_twoOf_1 (by rw [c30]; decide) (by rw [c30]; decide) (by rw [c30]; decide) (by decide) ?_
    refine lv_iload_n (pc := 218) hx hb dX12_twoOf_218 rfl (lv_at hl 1 rfl) ?_
    refine lv_if_ne (pc := 219) (tgt := 226) hx hb dX12_twoOf_219 (by decide) (fun c31 => ?_) (fun c31 => ?_)
    · have hf := zf c31 hf
      exact w226  H locs hW ls (lv_sub hl [] rfl) hf
    · have hf := zt c31 hf
      refine lv_iload_n (pc := 222) hx hb dX12_twoOf_222 rfl (lv_at hl 2 rfl) ?_
      refine lv_if_eq (pc := 223) (tgt := 230) hx hb dX12_twoOf_223 (by decide) (fun c32 => ?_) (fun c32 => ?_)
      · have hf := zt c32 hf
        refine lv_iconst (pc := 230) (v := 0) hx hb dX12_twoOf_230 (by decide) ?_
        exact zens_i fin hf hW dX12_twoOf_231
      · have hf := zf c32 hf
        exact w226  H locs hW ls (lv_sub hl [] rfl) hf
  have hf := zf c30 hf
  by_cases c33 : p1 = 49
  · have hf := zt c33 hf
    refine lv_tableIn (pc := 1) (tgt := 218) (off := 217) hx hb dX12_twoOf_1 (by rw [c33]; decide) (by rw [c33]; decide) (by rw [c33]; decide) (by decide) ?_
    refine lv_iload_n (pc := 218) hx hb dX12_twoOf_218 rfl (lv_at hl 1 rfl) ?_
    refine lv_if_ne (pc := 219) (tgt := 226) hx hb dX12_twoOf_219 (by decide) (fun c34 => ?_) (fun c34 => ?_)
    · have hf := zf c34 hf
      exact w226  H locs hW ls (lv_sub hl [] rfl) hf
    · have hf := zt c34 hf
      refine lv_iload_n (pc := 222) hx hb dX12_twoOf_222 rfl (lv_at hl 2 rfl) ?_
      refine lv_if_eq (pc := 223) (tgt := 230) hx hb dX12_twoOf_223 (by decide) (fun c35 => ?_) (fun c35 => ?_)
      · have hf := zt c35 hf
        refine lv_iconst (pc := 230) (v := 0) hx hb dX12_twoOf_230 (by decide) ?_
        exact zens_i fin hf hW dX12_twoOf_231
      · have hf := zf c35 hf
        exact w226  H locs hW ls (lv_sub hl [] rfl) hf
  have hf := zf c33 hf
  by_cases c36 : p1 = 50
  · have hf := zt c36 hf
    refine lv_tableIn (pc := 1) (tgt := 218) (off := 217) hx hb dX12_twoOf_1 (by rw [c36]; decide) (by rw [c36]; decide) (by rw [c36]; decide) (by decide) ?_
    refine lv_iload_n (pc := 218) hx hb dX12_twoOf_218 rfl (lv_at hl 1 rfl) ?_
    refine lv_if_ne (pc := 219) (tgt := 226) hx hb dX12_twoOf_219 (by decide) (fun c37 => ?_) (fun c37 => ?_)
    · have hf := zf c37 hf
      exact w226  H locs hW ls (lv_sub hl [] rfl) hf
    · have hf := zt c37 hf
      refine lv_iload_n (pc := 222) hx hb dX12_twoOf_222 rfl (lv_at hl 2 rfl) ?_
      refine lv_if_eq (pc := 223) (tgt := 230) hx hb dX12_twoOf_223 (by decide) (fun c38 => ?_) (fun c38 => ?_)
      · have hf := zt c38 hf
        refine lv_iconst (pc := 230) (v := 0) hx hb dX12_twoOf_230 (by decide) ?_
        exact zens_i fin hf hW dX12_twoOf_231
      · have hf := zf c38 hf
        exact w226  H locs hW ls (lv_sub hl [] rfl) hf
  have hf := zf c36 hf
  by_cases c39 : p1 = 51
  · have hf := zt c39 hf
    refine lv_tableIn (pc := 1) (tgt := 218) (off := 217) hx hb dX12_twoOf_1 (by rw [c39]; decide) (by rw [c39]; decide) (by rw [c39]; decide) (by decide) ?_
    refine lv_iload_n (pc := 218) hx hb dX12_twoOf_218 rfl (lv_at hl 1 rfl) ?_
    refine lv_if_ne (pc := 219) (tgt := 226) hx hb dX12_twoOf_219 (by decide) (fun c40 => ?_) (fun c40 => ?_)
    · have hf := zf c40 hf
      exact w226  H locs hW ls (lv_sub hl [] rfl) hf
    · have hf := zt c40 hf
      refine lv_iload_n (pc := 222) hx hb dX12_twoOf_222 rfl (lv_at hl 2 rfl) ?_
      refine lv_if_eq (pc := 223) (tgt := 230) hx hb dX12_twoOf_223 (by decide) (fun c41 => ?_) (fun c41 => ?_)
      · have hf := zt c41 hf
        refine lv_iconst (pc := 230) (v := 0) hx hb dX12_twoOf_230 (by decide) ?_
        exact zens_i fin hf hW dX12_twoOf_231
      · have hf := zf c41 hf
        exact w226  H locs hW ls (lv_sub hl [] rfl) hf
  have hf := zf c39 hf
  by_cases c42 : p1 = 52
  · have hf := zt c42 hf
    refine lv_tableIn (pc := 1) (tgt := 218) (off := 217) hx hb dX12_twoOf_1 (by rw [c42]; decide) (by rw [c42]; decide) (by rw [c42]; decide) (by decide) ?_
    refine lv_iload_n (pc := 218) hx hb dX12_twoOf_218 rfl (lv_at hl 1 rfl) ?_
    refine lv_if_ne (pc := 219) (tgt := 226) hx hb dX12_twoOf_219 (by decide) (fun c43 => ?_) (fun c43 => ?_)
    · have hf := zf c43 hf
      exact w226  H locs hW ls (lv_sub hl [] rfl) hf
    · have hf := zt c43 hf
      refine lv_iload_n (pc := 222) hx hb dX12_twoOf_222 rfl (lv_at hl 2 rfl) ?_
      refine lv_if_eq (pc := 223) (tgt := 230) hx hb dX12_twoOf_223 (by decide) (fun c44 => ?_) (fun c44 => ?_)
      · have hf := zt c44 hf
        refine lv_iconst (pc := 230) (v := 0) hx hb dX12_twoOf_230 (by decide) ?_
        exact zens_i fin hf hW dX12_twoOf_231
      · have hf := zf c44 hf
        exact w226  H locs hW ls (lv_sub hl [] rfl) hf
  have hf := zf c42 hf
  by_cases c45 : p1 = 53
  · have hf := zt c45 hf
    refine lv_tableIn (pc := 1) (tgt := 218) (off := 217) hx hb dX12_twoOf_1 (by rw [c45]; decide) (by rw [c45]; decide) (by rw [c45]; decide) (by decide) ?_
    refine lv_iload_n (pc := 218) hx hb dX12_twoOf_218 rfl (lv_at hl 1 rfl) ?_
    refine lv_if_ne (pc := 219) (tgt := 226) hx hb dX12_twoOf_219 (by decide) (fun c46 => ?_) (fun c46 => ?_)
    · have hf := zf c46 hf
      exact w226  H locs hW ls (lv_sub hl [] rfl) hf
    · have hf := zt c46 hf
      refine lv_iload_n (pc := 222) hx hb dX12_twoOf_222 rfl (lv_at hl 2 rfl) ?_
      refine lv_if_eq (pc := 223) (tgt := 230) hx hb dX12_twoOf_223 (by decide) (fun c47 => ?_) (fun c47 => ?_)
      · have hf := zt c47 hf
        refine lv_iconst (pc := 230) (v := 0) hx hb dX12_twoOf_230 (by decide) ?_
        exact zens_i fin hf hW dX12_twoOf_231
      · have hf := zf c47 hf
        exact w226  H locs hW ls (lv_sub hl [] rfl) hf
  have hf := zf c45 hf
  by_cases c48 : p1 = 54
  · have hf := zt c48 hf
    refine lv_tableIn (pc := 1) (tgt := 218) (off := 217) hx hb dX12_twoOf_1 (by rw [c48]; decide) (by rw [c48]; decide) (by rw [c48]; decide) (by decide) ?_
    refine lv_iload_n (pc := 218) hx hb dX12_twoOf_218 rfl (lv_at hl 1 rfl) ?_
    refine lv_if_ne (pc := 219) (tgt := 226) hx hb dX12_twoOf_219 (by decide) (fun c49 => ?_) (fun c49 => ?_)
    · have hf := zf c49 hf
      exact w226  H locs hW ls (lv_sub hl [] rfl) hf
    · have hf := zt c49 hf
      refine lv_iload_n (pc := 222) hx hb dX12_twoOf_222 rfl (lv_at hl 2 rfl) ?_
      refine lv_if_eq (pc := 223) (tgt := 230) hx hb dX12_twoOf_223 (by decide) (fun c50 => ?_) (fun c50 => ?_)
      · have hf := zt c50 hf
        refine lv_iconst (pc := 230) (v := 0) hx hb dX12_twoOf_230 (by decide) ?_
        exact zens_i fin hf hW dX12_twoOf_231
      · have hf := zf c50 hf
        exact w226  H locs hW ls (lv_sub hl [] rfl) hf
  have hf := zf c48 hf
  by_cases c51 : p1 = 55
  · have hf := zt c51 hf
    refine lv_tableIn (pc := 1) (tgt := 218) (off := 217) hx hb dX12_twoOf_1 (by rw [c51]; decide) (by rw [c51]; decide) (by rw [c51]; decide) (by decide) ?_
    refine lv_iload_n (pc := 218) hx hb dX12_twoOf_218 rfl (lv_at hl 1 rfl) ?_
    refine lv_if_ne (pc := 219) (tgt := 226) hx hb dX12_twoOf_219 (by decide) (fun c52 => ?_) (fun c52 => ?_)
    · have hf := zf c52 hf
      exact w226  H locs hW ls (lv_sub hl [] rfl) hf
    · have hf := zt c52 hf
      refine lv_iload_n (pc := 222) hx hb dX12_twoOf_222 rfl (lv_at hl 2 rfl) ?_
      refine lv_if_eq (pc := 223) (tgt := 230) hx hb dX12_twoOf_223 (by decide) (fun c53 => ?_) (fun c53 => ?_)
      · have hf := zt c53 hf
        refine lv_iconst (pc := 230) (v := 0) hx hb dX12_twoOf_230 (by decide) ?_
        exact zens_i fin hf hW dX12_twoOf_231
      · have hf := zf c53 hf
        exact w226  H locs hW ls (lv_sub hl [] rfl) hf
  have hf := zf c51 hf
  by_cases c54 : p1 = 56
  · have hf := zt c54 hf
    refine lv_tableIn (pc := 1) (tgt := 218) (off := 217) hx hb dX12_twoOf_1 (by rw [c54]; decide) (by rw [c54]; decide) (by rw [c54]; decide) (by decide) ?_
    refine lv_iload_n (pc := 218) hx hb dX12_twoOf_218 rfl (lv_at hl 1 rfl) ?_
    refine lv_if_ne (pc := 219) (tgt := 226) hx hb dX12_twoOf_219 (by decide) (fun c55 => ?_) (fun c55 => ?_)
    · have hf := zf c55 hf
      exact w226  H locs hW ls (lv_sub hl [] rfl) hf
    · have hf := zt c55 hf
      refine lv_iload_n (pc := 222) hx hb dX12_twoOf_222 rfl (lv_at hl 2 rfl) ?_
      refine lv_if_eq (pc := 223) (tgt := 230) hx hb dX12_twoOf_223 (by decide) (fun c56 => ?_) (fun c56 => ?_)
      · have hf := zt c56 hf
        refine lv_iconst (pc := 230) (v := 0) hx hb dX12_twoOf_230 (by decide) ?_
        exact zens_i fin hf hW dX12_twoOf_231
      · have hf := zf c56 hf
        exact w226  H locs hW ls (lv_sub hl [] rfl) hf
  have hf := zf c54 hf
  by_cases c57 : p1 = 57
  · have hf := zt c57 hf
    refine lv_tableIn (pc := 1) (tgt := 218) (off := 217) hx hb dX12_twoOf_1 (by rw [c57]; decide) (by rw [c57]; decide) (by rw [c57]; decide) (by decide) ?_
    refine lv_iload_n (pc := 218) hx hb dX12_twoOf_218 rfl (lv_at hl 1 rfl) ?_
    refine lv_if_ne (pc := 219) (tgt := 226) hx hb dX12_twoOf_219 (by decide) (fun c58 => ?_) (fun c58 => ?_)
    · have hf := zf c58 hf
      exact w226  H locs hW ls (lv_sub hl [] rfl) hf
    · have hf := zt c58 hf
      refine lv_iload_n (pc := 222) hx hb dX12_twoOf_222 rfl (lv_at hl 2 rfl) ?_
      refine lv_if_eq (pc := 223) (tgt := 230) hx hb dX12_twoOf_223 (by decide) (fun c59 => ?_) (fun c59 => ?_)
      · have hf := zt c59 hf
        refine lv_iconst (pc := 230) (v := 0) hx hb dX12_twoOf_230 (by decide) ?_
        exact zens_i fin hf hW dX12_twoOf_231
      · have hf := zf c59 hf
        exact w226  H locs hW ls (lv_sub hl [] rfl) hf
  have hf := zf c57 hf
  by_cases c60 : p1 = 58
  · have hf := zt c60 hf
    refine lv_tableIn (pc := 1) (tgt := 218) (off := 217) hx hb dX12_twoOf_1 (by rw [c60]; decide) (by rw [c60]; decide) (by rw [c60]; decide) (by decide) ?_
    refine lv_iload_n (pc := 218) hx hb dX12_twoOf_218 rfl (lv_at hl 1 rfl) ?_
    refine lv_if_ne (pc := 219) (tgt := 226) hx hb dX12_twoOf_219 (by decide) (fun c61 => ?_) (fun c61 => ?_)
    · have hf := zf c61 hf
      exact w226  H locs hW ls (lv_sub hl [] rfl) hf
    · have hf := zt c61 hf
      refine lv_iload_n (pc := 222) hx hb dX12_twoOf_222 rfl (lv_at hl 2 rfl) ?_
      refine lv_if_eq (pc := 223) (tgt := 230) hx hb dX12_twoOf_223 (by decide) (fun c62 => ?_) (fun c62 => ?_)
      · have hf := zt c62 hf
        refine lv_iconst (pc := 230) (v := 0) hx hb dX12_twoOf_230 (by decide) ?_
        exact zens_i fin hf hW dX12_twoOf_231
      · have hf := zf c62 hf
        exact w226  H locs hW ls (lv_sub hl [] rfl) hf
  have hf := zf c60 hf
  by_cases c63 : p1 = 59
  · have hf := zt c63 hf
    refine lv_tableIn (pc := 1) (tgt := 218) (off := 217) hx hb dX12_twoOf_1 (by rw [c63]; decide) (by rw [c63]; decide) (by rw [c63]; decide) (by decide) ?_
    refine lv_iload_n (pc := 218) hx hb dX12_twoOf_218 rfl (lv_at hl 1 rfl) ?_
    refine lv_if_ne (pc := 219) (tgt := 226) hx hb dX12_twoOf_219 (by decide) (fun c64 => ?_) (fun c64 => ?_)
    · have hf := zf c64 hf
      exact w226  H locs hW ls (lv_sub hl [] rfl) hf
    · have hf := zt c64 hf
      refine lv_iload_n (pc := 222) hx hb dX12_twoOf_222 rfl (lv_at hl 2 rfl) ?_
      refine lv_if_eq (pc := 223) (tgt := 230) hx hb dX12_twoOf_223 (by decide) (fun c65 => ?_) (fun c65 => ?_)
      · have hf := zt c65 hf
        refine lv_iconst (pc := 230) (v := 0) hx hb dX12_twoOf_230 (by decide) ?_
        exact zens_i fin hf hW dX12_twoOf_231
      · have hf := zf c65 hf
        exact w226  H locs hW ls (lv_sub hl [] rfl) hf
  have hf := zf c63 hf
  by_cases c66 : p1 = 60
  · have hf := zt c66 hf
    refine lv_tableIn (pc := 1) (tgt := 171) (off := 170) hx hb dX12_twoOf_1 (by rw [c66]; decide) (by rw [c66]; decide) (by rw [c66]; decide) (by decide) ?_
    refine lv_iload_n (pc := 171) hx hb dX12_twoOf_171 rfl (lv_at hl 1 rfl) ?_
    refine lv_iload_n (pc := 172) hx hb dX12_twoOf_172 rfl (lv_at hl 2 rfl) ?_
    refine lv_icmp_ge (pc := 173) (tgt := 180) hx hb dX12_twoOf_173 (by decide) (fun c67 => ?_) (fun c67 => ?_)
    · have hf := zt c67 hf
      refine lv_iconst (pc := 180) (v := 0) hx hb dX12_twoOf_180 (by decide) ?_
      exact zens_i fin hf hW dX12_twoOf_181
    · have hf := zf c67 hf
      refine lv_iconst (pc := 176) (v := 1) hx hb dX12_twoOf_176 (by decide) ?_
      refine lv_goto (pc := 177) (tgt := 181) hx hb dX12_twoOf_177 (by decide) ?_
      exact zens_i fin hf hW dX12_twoOf_181
  have hf := zf c66 hf
  by_cases c68 : p1 = 61
  · have hf := zt c68 hf
    refine lv_tableIn (pc := 1) (tgt := 182) (off := 181) hx hb dX12_twoOf_1 (by rw [c68]; decide) (by rw [c68]; decide) (by rw [c68]; decide) (by decide) ?_
    refine lv_iload_n (pc := 182) hx hb dX12_twoOf_182 rfl (lv_at hl 1 rfl) ?_
    refine lv_iload_n (pc := 183) hx hb dX12_twoOf_183 rfl (lv_at hl 2 rfl) ?_
    refine lv_icmp_ne (pc := 184) (tgt := 191) hx hb dX12_twoOf_184 (by decide) (fun c69 => ?_) (fun c69 => ?_)
    · have hf := zf c69 hf
      refine lv_iconst (pc := 191) (v := 0) hx hb dX12_twoOf_191 (by decide) ?_
      exact zens_i fin hf hW dX12_twoOf_192
    · have hf := zt c69 hf
      refine lv_iconst (pc := 187) (v := 1) hx hb dX12_twoOf_187 (by decide) ?_
      refine lv_goto (pc := 188) (tgt := 192) hx hb dX12_twoOf_188 (by decide) ?_
      exact zens_i fin hf hW dX12_twoOf_192
  have hf := zf c68 hf
  by_cases c70 : p1 = 62
  · have hf := zt c70 hf
    refine lv_tableIn (pc := 1) (tgt := 193) (off := 192) hx hb dX12_twoOf_1 (by rw [c70]; decide) (by rw [c70]; decide) (by rw [c70]; decide) (by decide) ?_
    refine lv_iload_n (pc := 193) hx hb dX12_twoOf_193 rfl (lv_at hl 1 rfl) ?_
    refine lv_iload_n (pc := 194) hx hb dX12_twoOf_194 rfl (lv_at hl 2 rfl) ?_
    refine lv_icmp_le (pc := 195) (tgt := 202) hx hb dX12_twoOf_195 (by decide) (fun c71 => ?_) (fun c71 => ?_)
    · have hf := zt c71 hf
      refine lv_iconst (pc := 202) (v := 0) hx hb dX12_twoOf_202 (by decide) ?_
      exact zens_i fin hf hW dX12_twoOf_203
    · have hf := zf c71 hf
      refine lv_iconst (pc := 198) (v := 1) hx hb dX12_twoOf_198 (by decide) ?_
      refine lv_goto (pc := 199) (tgt := 203) hx hb dX12_twoOf_199 (by decide) ?_
      exact zens_i fin hf hW dX12_twoOf_203
  have hf := zf c70 hf
  refine lv_tableOut (pc := 1) (tgt := 218) hx hb dX12_twoOf_1 (ztab 37 62 26 p1 (by decide) (fun j hj => match j, hj with | 0, _ => fun e => c1 (e.trans (by decide)) | 1, _ => fun e => c5 (e.trans (by decide)) | 2, _ => fun e => c8 (e.trans (by decide)) | 3, _ => fun e => c11 (e.trans (by decide)) | 4, _ => fun e => c14 (e.trans (by decide)) | 5, _ => fun e => c17 (e.trans (by decide)) | 6, _ => fun e => c18 (e.trans (by decide)) | 7, _ => fun e => c19 (e.trans (by decide)) | 8, _ => fun e => c22 (e.trans (by decide)) | 9, _ => fun e => c23 (e.trans (by decide)) | 10, _ => fun e => c26 (e.trans (by decide)) | 11, _ => fun e => c30 (e.trans (by decide)) | 12, _ => fun e => c33 (e.trans (by decide)) | 13, _ => fun e => c36 (e.trans (by decide)) | 14, _ => fun e => c39 (e.trans (by decide)) | 15, _ => fun e => c42 (e.trans (by decide)) | 16, _ => fun e => c45 (e.trans (by decide)) | 17, _ => fun e => c48 (e.trans (by decide)) | 18, _ => fun e => c51 (e.trans (by decide)) | 19, _ => fun e => c54 (e.trans (by decide)) | 20, _ => fun e => c57 (e.trans (by decide)) | 21, _ => fun e => c60 (e.trans (by decide)) | 22, _ => fun e => c63 (e.trans (by decide)) | 23, _ => fun e => c66 (e.trans (by decide)) | 24, _ => fun e => c68 (e.trans (by decide)) | 25, _ => fun e => c70 (e.trans (by decide)) | j + 26, h => absurd h (by omega))) (by decide) ?_
  refine lv_iload_n (pc := 218) hx hb dX12_twoOf_218 rfl (lv_at hl 1 rfl) ?_
  refine lv_if_ne (pc := 219) (tgt := 226) hx hb dX12_twoOf_219 (by decide) (fun c72 => ?_) (fun c72 => ?_)
  · have hf := zf c72 hf
    exact w226  H locs hW ls (lv_sub hl [] rfl) hf
  · have hf := zt c72 hf
    refine lv_iload_n (pc := 222) hx hb dX12_twoOf_222 rfl (lv_at hl 2 rfl) ?_
    refine lv_if_eq (pc := 223) (tgt := 230) hx hb dX12_twoOf_223 (by decide) (fun c73 => ?_) (fun c73 => ?_)
    · have hf := zt c73 hf
      refine lv_iconst (pc := 230) (v := 0) hx hb dX12_twoOf_230 (by decide) ?_
      exact zens_i fin hf hW dX12_twoOf_231
    · have hf := zf c73 hf
      exact w226  H locs hW ls (lv_sub hl [] rfl) hf

def fX12_worked_b79 (N : Nat) (K12 : Int32 → Int32 → Int32 → Int32 → zSt → Option (Int32 × zSt)) (v1 : Int32) (v3 : Int32) (v4 : Int32) (v5 : Int32) (u1 : Int32) (u2 : Int32) (S : zSt) : Option (Int32 × zSt) :=
  if zin u1 130 then zL (zA S 23 (Int32.toNatClampNeg u1) u2) fun S2 => K12 v1 v3 (v4 + 1) (v5 + 1) S2 else none
def fX12_worked_b45 (N : Nat) (K12 : Int32 → Int32 → Int32 → Int32 → zSt → Option (Int32 × zSt)) (v1 : Int32) (v3 : Int32) (v4 : Int32) (v5 : Int32) (v6 : Int32) (S : zSt) : Option (Int32 × zSt) :=
  if v6 = 1 then (if zin v5 650 then fX12_worked_b79 N K12 v1 v3 v4 v5 v4 (S.2.1 18 (Int32.toNatClampNeg v5)) S else none) else (if zin v5 650 then if zin (S.2.1 18 (Int32.toNatClampNeg v5)) 4 then fX12_worked_b79 N K12 v1 v3 v4 v5 v4 (S.2.1 22 (Int32.toNatClampNeg (S.2.1 18 (Int32.toNatClampNeg v5)))) S else none else none)
def fX12_worked_b117 (N : Nat) (K12 : Int32 → Int32 → Int32 → Int32 → zSt → Option (Int32 × zSt)) (v1 : Int32) (v3 : Int32) (v4 : Int32) (v5 : Int32) (u1 : Int32) (u2 : Int32) (S : zSt) : Option (Int32 × zSt) :=
  if zin u1 130 then zL (zA S 23 (Int32.toNatClampNeg u1) u2) fun S8 => K12 v1 v3 v4 (v5 + 1) S8 else none
def fX12_worked_b12 (N : Nat) : Nat → Int32 → Int32 → Int32 → Int32 → zSt → Option (Int32 × zSt)
  | 0, _, _, _, _, _ => none
  | n + 1, v1, v3, v4, v5, S =>
    if ((130 * v1) + v3) ≤ v5 then (if zin 0 130 then some ((S.2.1 23 (Int32.toNatClampNeg 0)), S) else none) else (if zin v5 650 then if (S.2.1 17 (Int32.toNatClampNeg v5)) = 1 then (fX12_worked_b45 N (fX12_worked_b12 N n) v1 v3 v4 v5 (S.2.1 17 (Int32.toNatClampNeg v5)) S) else (if (S.2.1 17 (Int32.toNatClampNeg v5)) = 2 then (fX12_worked_b45 N (fX12_worked_b12 N n) v1 v3 v4 v5 (S.2.1 17 (Int32.toNatClampNeg v5)) S) else (if (S.2.1 17 (Int32.toNatClampNeg v5)) = 3 then (if zin (v4 - 1) 130 then if (S.2.1 23 (Int32.toNatClampNeg (v4 - 1))) = 0 then (fX12_worked_b117 N (fX12_worked_b12 N n) v1 v3 v4 v5 (v4 - 1) 1 S) else (fX12_worked_b117 N (fX12_worked_b12 N n) v1 v3 v4 v5 (v4 - 1) 0 S) else none) else (if (S.2.1 17 (Int32.toNatClampNeg v5)) = 4 then (if zin (v4 - 1) 130 then if zin (v4 - 1) 130 then zL (zA S 23 (Int32.toNatClampNeg (v4 - 1)) (-(S.2.1 23 (Int32.toNatClampNeg (v4 - 1))))) fun S25 => fX12_worked_b12 N n v1 v3 v4 (v5 + 1) S25 else none else none) else (if zin ((v4 + (-1)) - 1) 130 then if zin (v4 + (-1)) 130 then zU (fX12_twoOf (S.2.1 17 (Int32.toNatClampNeg v5)) (S.2.1 23 (Int32.toNatClampNeg ((v4 + (-1)) - 1))) (S.2.1 23 (Int32.toNatClampNeg (v4 + (-1))))) fun r18 => if zin ((v4 + (-1)) - 1) 130 then zL (zA S 23 (Int32.toNatClampNeg ((v4 + (-1)) - 1)) r18) fun S22 => fX12_worked_b12 N n v1 v3 (v4 + (-1)) (v5 + 1) S22 else none else none else none)))) else none)
def fX12_worked (N : Nat) (p1 : Int32) (p2 : Int32) (p3 : Int32) (S : zSt) : Option (Int32 × zSt) :=
  fX12_worked_b12 N N p1 p3 0 ((130 * p1) + p2) S
abbrev wX12_worked : List Cond := Cond.code yX12_worked cX12_worked 7 (some .int) :: waR
abbrev rmX12_worked : Room := { frames := 1, cells := 0, slots := 0, locals := 22 }
set_option maxHeartbeats 4000000 in
set_option maxRecDepth 100000 in
theorem kX12_worked (l : Launch) (D : va_G) (cA : Nat → ClassId) (h : Nat → Nat) (sz : Nat) (N : Nat)  (p1 : Int32) (p2 : Int32) (p3 : Int32) (S : zSt) (r : Int32) (S1 : zSt) (hf : fX12_worked N p1 p2 p3 S = some (r, S1)) : zMi l yX12_worked wX12_worked rmX12_worked zTr D (tR cA) (hsR h) [.ref (h 0), .int p1, .int p2, .int p3] (wR cA h S) (wR cA h S1) sz r := by
  refine zEn_i (cc := cX12_worked) (maxL := 7) (own := RX12) (by decide) rfl rfl (hmR cA h S) (Nat.le_of_ble_eq_true rfl) ?_
  intro p e s m args below meth c Q H locs C0 hW fin ls hl
  have hl : lv_has ls 7 [(0, .ref (h 0)), (1, .int p1), (2, .int p2), (3, .int p3)] := hl
  have hx := C0.1
  have hb := C0.2.1
  have hown := C0.2.2.2.1
  have hts := C0.2.2.2.2
  have w79 : ∀ (K12 : Int32 → Int32 → Int32 → Int32 → zSt → Option (Int32 × zSt)) (hK12 : ∀ (v1 : Int32) (v3 : Int32) (v4 : Int32) (v5 : Int32) (S : zSt) (H : Heap) (locs : List Loc), zW zTr D (tR cA) (wR cA h S) (aW (hsR h) s.heap.size) s H locs → ∀ ls : Array Slot, lv_has ls 7 [(0, .ref (h 0)), (1, .int v1), (3, .int v3), (4, .int v4), (5, .int v5)] → K12 v1 v3 v4 v5 S = some (r, S1) → W p l e rmX12_worked s m args below meth c H locs 0 0 Q (F0 m 12 ls [])) , ∀ (v1 : Int32) (v3 : Int32) (v4 : Int32) (v5 : Int32) (u1 : Int32) (u2 : Int32) (S : zSt) (H : Heap) (locs : List Loc), zW zTr D (tR cA) (wR cA h S) (aW (hsR h) s.heap.size) s H locs → ∀ ls : Array Slot, lv_has ls 7 [(0, .ref (h 0)), (1, .int v1), (3, .int v3), (4, .int v4), (5, .int v5)] → fX12_worked_b79 N K12 v1 v3 v4 v5 u1 u2 S = some (r, S1) → W p l e rmX12_worked s m args below meth c H locs 0 0 Q (F0 m 79 ls [.int u2, .int u1, .ref (h 23)]) := by
    intro K12 hK12
    intro v1 v3 v4 v5 u1 u2 S H locs hW ls hl hf
    unfold fX12_worked_b79 at hf
    obtain ⟨i1, hf⟩ := zn hf
    obtain ⟨S2, e_S2, hf⟩ := zL_e hf
    refine rs_23 (pc := 79) C0 hW i1 e_S2 dX12_worked_79 (fun H locs hW => ?_)
    refine lv_iinc (pc := 80) (v := (v4 + 1)) (lv' := [(4, .int (v4 + 1)), (0, .ref (h 0)), (1, .int v1), (3, .int v3), (5, .int v5)]) hx hb dX12_worked_80 hl (k := 3) rfl (by rfl) (by decide) rfl (fun ls hl => ?_)
    refine lv_goto (pc := 83) (tgt := 182) hx hb dX12_worked_83 (by decide) ?_
    refine lv_iinc (pc := 182) (v := (v5 + 1)) (lv' := [(5, .int (v5 + 1)), (4, .int (v4 + 1)), (0, .ref (h 0)), (1, .int v1), (3, .int v3)]) hx hb dX12_worked_182 hl (k := 4) rfl (by rfl) (by decide) rfl (fun ls hl => ?_)
    refine lv_goto (pc := 185) (tgt := 12) hx hb dX12_worked_185 (by decide) ?_
    exact hK12 v1 v3 (v4 + 1) (v5 + 1) S2 H locs hW ls (lv_sub hl [2, 3, 4, 1, 0] rfl) hf
  have w45 : ∀ (K12 : Int32 → Int32 → Int32 → Int32 → zSt → Option (Int32 × zSt)) (hK12 : ∀ (v1 : Int32) (v3 : Int32) (v4 : Int32) (v5 : Int32) (S : zSt) (H : Heap) (locs : List Loc), zW zTr D (tR cA) (wR cA h S) (aW (hsR h) s.heap.size) s H locs → ∀ ls : Array Slot, lv_has ls 7 [(0, .ref (h 0)), (1, .int v1), (3, .int v3), (4, .int v4), (5, .int v5)] → K12 v1 v3 v4 v5 S = some (r, S1) → W p l e rmX12_worked s m args below meth c H locs 0 0 Q (F0 m 12 ls [])) , ∀ (v1 : Int32) (v3 : Int32) (v4 : Int32) (v5 : Int32) (v6 : Int32) (S : zSt) (H : Heap) (locs : List Loc), zW zTr D (tR cA) (wR cA h S) (aW (hsR h) s.heap.size) s H locs → ∀ ls : Array Slot, lv_has ls 7 [(0, .ref (h 0)), (1, .int v1), (3, .int v3), (4, .int v4), (5, .int v5), (6, .int v6)] → fX12_worked_b45 N K12 v1 v3 v4 v5 v6 S = some (r, S1) → W p l e rmX12_worked s m args below meth c H locs 0 0 Q (F0 m 45 ls []) := by
    intro K12 hK12
    intro v1 v3 v4 v5 v6 S H locs hW ls hl hf
    unfold fX12_worked_b45 at hf
    refine lv_aload_n (pc := 45) hx hb dX12_worked_45 rfl (lv_at hl 0 rfl) ?_
    refine rg_23 (pc := 46) C0 hu_12 hW mR_21 dX12_worked_46 ?_
    refine lv_iload (pc := 49) hx hb dX12_worked_49 (lv_at hl 3 rfl) ?_
    refine lv_iload (pc := 51) hx hb dX12_worked_51 (lv_at hl 5 rfl) ?_
    refine lv_iconst (pc := 53) (v := 1) hx hb dX12_worked_53 (by decide) ?_
    refine lv_icmp_ne (pc := 54) (tgt := 67) hx hb dX12_worked_54 (by decide) (fun c3 => ?_) (fun c3 => ?_)
    · have hf := zf c3 hf
      refine lv_aload_n (pc := 67) hx hb dX12_worked_67 rfl (lv_at hl 0 rfl) ?_
      refine rg_22 (pc := 68) C0 hu_12 hW mR_20 dX12_worked_68 ?_
      refine lv_aload_n (pc := 71) hx hb dX12_worked_71 rfl (lv_at hl 0 rfl) ?_
      refine rg_18 (pc := 72) C0 hu_12 hW mR_15 dX12_worked_72 ?_
      refine lv_iload (pc := 75) hx hb dX12_worked_75 (lv_at hl 4 rfl) ?_
      obtain ⟨i4, hf⟩ := zn hf
      refine rl_18 (pc := 77) C0 hW i4 dX12_worked_77 ?_
      obtain ⟨i5, hf⟩ := zn hf
      refine rl_22 (pc := 78) C0 hW i5 dX12_worked_78 ?_
      exact w79 K12 hK12 v1 v3 v4 v5 v4 (S.2.1 22 (Int32.toNatClampNeg (S.2.1 18 (Int32.toNatClampNeg v5)))) S H locs hW ls (lv_sub hl [0, 1, 2, 3, 4] rfl) hf
    · have hf := zt c3 hf
      refine lv_aload_n (pc := 57) hx hb dX12_worked_57 rfl (lv_at hl 0 rfl) ?_
      refine rg_18 (pc := 58) C0 hu_12 hW mR_15 dX12_worked_58 ?_
      refine lv_iload (pc := 61) hx hb dX12_worked_61 (lv_at hl 4 rfl) ?_
      obtain ⟨i6, hf⟩ := zn hf
      refine rl_18 (pc := 63) C0 hW i6 dX12_worked_63 ?_
      refine lv_goto (pc := 64) (tgt := 79) hx hb dX12_worked_64 (by decide) ?_
      exact w79 K12 hK12 v1 v3 v4 v5 v4 (S.2.1 18 (Int32.toNatClampNeg v5)) S H locs hW ls (lv_sub hl [0, 1, 2, 3, 4] rfl) hf
  have w117 : ∀ (K12 : Int32 → Int32 → Int32 → Int32 → zSt → Option (Int32 × zSt)) (hK12 : ∀ (v1 : Int32) (v3 : Int32) (v4 : Int32) (v5 : Int32) (S : zSt) (H : Heap) (locs : List Loc), zW zTr D (tR cA) (wR cA h S) (aW (hsR h) s.heap.size) s H locs → ∀ ls : Array Slot, lv_has ls 7 [(0, .ref (h 0)), (1, .int v1), (3, .int v3), (4, .int v4), (5, .int v5)] → K12 v1 v3 v4 v5 S = some (r, S1) → W p l e rmX12_worked s m args below meth c H locs 0 0 Q (F0 m 12 ls [])) , ∀ (v1 : Int32) (v3 : Int32) (v4 : Int32) (v5 : Int32) (u1 : Int32) (u2 : Int32) (S : zSt) (H : Heap) (locs : List Loc), zW zTr D (tR cA) (wR cA h S) (aW (hsR h) s.heap.size) s H locs → ∀ ls : Array Slot, lv_has ls 7 [(0, .ref (h 0)), (1, .int v1), (3, .int v3), (4, .int v4), (5, .int v5)] → fX12_worked_b117 N K12 v1 v3 v4 v5 u1 u2 S = some (r, S1) → W p l e rmX12_worked s m args below meth c H locs 0 0 Q (F0 m 117 ls [.int u2, .int u1, .ref (h 23)]) := by
    intro K12 hK12
    intro v1 v3 v4 v5 u1 u2 S H locs hW ls hl hf
    unfold fX12_worked_b117 at hf
    obtain ⟨i7, hf⟩ := zn hf
    obtain ⟨S8, e_S8, hf⟩ := zL_e hf
    refine rs_23 (pc := 117) C0 hW i7 e_S8 dX12_worked_117 (fun H locs hW => ?_)
    refine lv_goto (pc := 118) (tgt := 182) hx hb dX12_worked_118 (by decide) ?_
    refine lv_iinc (pc := 182) (v := (v5 + 1)) (lv' := [(5, .int (v5 + 1)), (0, .ref (h 0)), (1, .int v1), (3, .int v3), (4, .int v4)]) hx hb dX12_worked_182 hl (k := 4) rfl (by rfl) (by decide) rfl (fun ls hl => ?_)
    refine lv_goto (pc := 185) (tgt := 12) hx hb dX12_worked_185 (by decide) ?_
    exact hK12 v1 v3 v4 (v5 + 1) S8 H locs hW ls (lv_sub hl [1, 2, 3, 4, 0] rfl) hf
  have w12 : ∀ (n : Nat), ∀ (v1 : Int32) (v3 : Int32) (v4 : Int32) (v5 : Int32) (S : zSt) (H : Heap) (locs : List Loc), zW zTr D (tR cA) (wR cA h S) (aW (hsR h) s.heap.size) s H locs → ∀ ls : Array Slot, lv_has ls 7 [(0, .ref (h 0)), (1, .int v1), (3, .int v3), (4, .int v4), (5, .int v5)] → fX12_worked_b12 N n v1 v3 v4 v5 S = some (r, S1) → W p l e rmX12_worked s m args below meth c H locs 0 0 Q (F0 m 12 ls []) := by
    intro n
    induction n with
    | zero =>
      intro v1 v3 v4 v5 S H locs hW ls hl hf
      exact absurd hf (by intro h; cases h)
    | succ n ih =>
      intro v1 v3 v4 v5 S H locs hW ls hl hf
      rw [fX12_worked_b12] at hf
      refine lv_iload (pc := 12) hx hb dX12_worked_12 (lv_at hl 4 rfl) ?_
      refine lv_sipush (pc := 14) (v := 130) hx hb dX12_worked_14 (by decide) ?_
      refine lv_iload_n (pc := 17) hx hb dX12_worked_17 rfl (lv_at hl 1 rfl) ?_
      refine lv_imul (pc := 18) hx hb dX12_worked_18 ?_
      refine lv_iload_n (pc := 19) hx hb dX12_worked_19 rfl (lv_at hl 2 rfl) ?_
      refine lv_iadd (pc := 20) hx hb dX12_worked_20 ?_
      refine lv_icmp_ge (pc := 21) (tgt := 188) hx hb dX12_worked_21 (by decide) (fun c9 => ?_) (fun c9 => ?_)
      · have hf := zt c9 hf
        refine lv_aload_n (pc := 188) hx hb dX12_worked_188 rfl (lv_at hl 0 rfl) ?_
        refine rg_23 (pc := 189) C0 hu_12 hW mR_21 dX12_worked_189 ?_
        refine lv_iconst (pc := 192) (v := 0) hx hb dX12_worked_192 (by decide) ?_
        obtain ⟨i10, hf⟩ := zn hf
        refine rl_23 (pc := 193) C0 hW i10 dX12_worked_193 ?_
        exact zend_i (w := wR cA h) fin hf hW dX12_worked_194
      · have hf := zf c9 hf
        refine lv_aload_n (pc := 24) hx hb dX12_worked_24 rfl (lv_at hl 0 rfl) ?_
        refine rg_17 (pc := 25) C0 hu_12 hW mR_14 dX12_worked_25 ?_
        refine lv_iload (pc := 28) hx hb dX12_worked_28 (lv_at hl 4 rfl) ?_
        obtain ⟨i11, hf⟩ := zn hf
        refine rl_17 (pc := 30) C0 hW i11 dX12_worked_30 ?_
        refine lv_istore (pc := 31) (lv' := [(6, .int (S.2.1 17 (Int32.toNatClampNeg v5))), (0, .ref (h 0)), (1, .int v1), (3, .int v3), (4, .int v4), (5, .int v5)]) hx hb dX12_worked_31 hl (by decide) rfl (fun ls hl => ?_)
        refine lv_iload (pc := 33) hx hb dX12_worked_33 (lv_at hl 0 rfl) ?_
        refine lv_iconst (pc := 35) (v := 1) hx hb dX12_worked_35 (by decide) ?_
        refine lv_icmp_eq (pc := 36) (tgt := 45) hx hb dX12_worked_36 (by decide) (fun c12 => ?_) (fun c12 => ?_)
        · have hf := zt c12 hf
          exact w45 (fX12_worked_b12 N n) ih v1 v3 v4 v5 (S.2.1 17 (Int32.toNatClampNeg v5)) S H locs hW ls (lv_sub hl [1, 2, 3, 4, 5, 0] rfl) hf
        · have hf := zf c12 hf
          refine lv_iload (pc := 39) hx hb dX12_worked_39 (lv_at hl 0 rfl) ?_
          refine lv_iconst (pc := 41) (v := 2) hx hb dX12_worked_41 (by decide) ?_
          refine lv_icmp_ne (pc := 42) (tgt := 86) hx hb dX12_worked_42 (by decide) (fun c13 => ?_) (fun c13 => ?_)
          · have hf := zf c13 hf
            refine lv_iload (pc := 86) hx hb dX12_worked_86 (lv_at hl 0 rfl) ?_
            refine lv_iconst (pc := 88) (v := 3) hx hb dX12_worked_88 (by decide) ?_
            refine lv_icmp_ne (pc := 89) (tgt := 121) hx hb dX12_worked_89 (by decide) (fun c14 => ?_) (fun c14 => ?_)
            · have hf := zf c14 hf
              refine lv_iload (pc := 121) hx hb dX12_worked_121 (lv_at hl 0 rfl) ?_
              refine lv_iconst (pc := 123) (v := 4) hx hb dX12_worked_123 (by decide) ?_
              refine lv_icmp_ne (pc := 124) (tgt := 149) hx hb dX12_worked_124 (by decide) (fun c15 => ?_) (fun c15 => ?_)
              · have hf := zf c15 hf
                refine lv_iinc (pc := 149) (v := (v4 + (-1))) (lv' := [(4, .int (v4 + (-1))), (6, .int (S.2.1 17 (Int32.toNatClampNeg v5))), (0, .ref (h 0)), (1, .int v1), (3, .int v3), (5, .int v5)]) hx hb dX12_worked_149 hl (k := 4) rfl (by rfl) (by decide) rfl (fun ls hl => ?_)
                refine lv_aload_n (pc := 152) hx hb dX12_worked_152 rfl (lv_at hl 2 rfl) ?_
                refine rg_23 (pc := 153) C0 hu_12 hW mR_21 dX12_worked_153 ?_
                refine lv_iload (pc := 156) hx hb dX12_worked_156 (lv_at hl 0 rfl) ?_
                refine lv_iconst (pc := 158) (v := 1) hx hb dX12_worked_158 (by decide) ?_
                refine lv_isub (pc := 159) hx hb dX12_worked_159 ?_
                refine lv_iload (pc := 160) hx hb dX12_worked_160 (lv_at hl 1 rfl) ?_
                refine lv_aload_n (pc := 162) hx hb dX12_worked_162 rfl (lv_at hl 2 rfl) ?_
                refine rg_23 (pc := 163) C0 hu_12 hW mR_21 dX12_worked_163 ?_
                refine lv_iload (pc := 166) hx hb dX12_worked_166 (lv_at hl 0 rfl) ?_
                refine lv_iconst (pc := 168) (v := 1) hx hb dX12_worked_168 (by decide) ?_
                refine lv_isub (pc := 169) hx hb dX12_worked_169 ?_
                obtain ⟨i16, hf⟩ := zn hf
                refine rl_23 (pc := 170) C0 hW i16 dX12_worked_170 ?_
                refine lv_aload_n (pc := 171) hx hb dX12_worked_171 rfl (lv_at hl 2 rfl) ?_
                refine rg_23 (pc := 172) C0 hu_12 hW mR_21 dX12_worked_172 ?_
                refine lv_iload (pc := 175) hx hb dX12_worked_175 (lv_at hl 0 rfl) ?_
                obtain ⟨i17, hf⟩ := zn hf
                refine rl_23 (pc := 177) C0 hW i17 dX12_worked_177 ?_
                obtain ⟨r18, e20, hf⟩ := zU_e hf
                refine zcSi (As := [.int (S.2.1 17 (Int32.toNatClampNeg v5)), .int (S.2.1 23 (Int32.toNatClampNeg ((v4 + (-1)) - 1))), .int (S.2.1 23 (Int32.toNatClampNeg (v4 + (-1))))]) (pc := 178) C0 hW (kX12_twoOf l H.size (S.2.1 17 (Int32.toNatClampNeg v5)) (S.2.1 23 (Int32.toNatClampNeg ((v4 + (-1)) - 1))) (S.2.1 23 (Int32.toNatClampNeg (v4 + (-1)))) r18 e20) (va_cwS 3 hts (zgS gaR mR_152 mR_153 mR_46 mR_150) rfl rfl rfl (by decide +kernel) ⟨Nat.le_of_ble_eq_true rfl, Nat.le_of_ble_eq_true rfl⟩) rfl hl.1 rfl (Nat.le_of_ble_eq_true rfl) dX12_worked_178 (fun H locs hW => ?_)
                obtain ⟨i21, hf⟩ := zn hf
                obtain ⟨S22, e_S22, hf⟩ := zL_e hf
                refine rs_23 (pc := 181) C0 hW i21 e_S22 dX12_worked_181 (fun H locs hW => ?_)
                refine lv_iinc (pc := 182) (v := (v5 + 1)) (lv' := [(5, .int (v5 + 1)), (4, .int (v4 + (-1))), (6, .int (S.2.1 17 (Int32.toNatClampNeg v5))), (0, .ref (h 0)), (1, .int v1), (3, .int v3)]) hx hb dX12_worked_182 hl (k := 5) rfl (by rfl) (by decide) rfl (fun ls hl => ?_)
                refine lv_goto (pc := 185) (tgt := 12) hx hb dX12_worked_185 (by decide) ?_
                exact ih v1 v3 (v4 + (-1)) (v5 + 1) S22 H locs hW ls (lv_sub hl [3, 4, 5, 1, 0] rfl) hf
              · have hf := zt c15 hf
                refine lv_aload_n (pc := 127) hx hb dX12_worked_127 rfl (lv_at hl 1 rfl) ?_
                refine rg_23 (pc := 128) C0 hu_12 hW mR_21 dX12_worked_128 ?_
                refine lv_iload (pc := 131) hx hb dX12_worked_131 (lv_at hl 4 rfl) ?_
                refine lv_iconst (pc := 133) (v := 1) hx hb dX12_worked_133 (by decide) ?_
                refine lv_isub (pc := 134) hx hb dX12_worked_134 ?_
                refine lv_aload_n (pc := 135) hx hb dX12_worked_135 rfl (lv_at hl 1 rfl) ?_
                refine rg_23 (pc := 136) C0 hu_12 hW mR_21 dX12_worked_136 ?_
                refine lv_iload (pc := 139) hx hb dX12_worked_139 (lv_at hl 4 rfl) ?_
                refine lv_iconst (pc := 141) (v := 1) hx hb dX12_worked_141 (by decide) ?_
                refine lv_isub (pc := 142) hx hb dX12_worked_142 ?_
                obtain ⟨i23, hf⟩ := zn hf
                refine rl_23 (pc := 143) C0 hW i23 dX12_worked_143 ?_
                refine lv_ineg (pc := 144) hx hb dX12_worked_144 ?_
                obtain ⟨i24, hf⟩ := zn hf
                obtain ⟨S25, e_S25, hf⟩ := zL_e hf
                refine rs_23 (pc := 145) C0 hW i24 e_S25 dX12_worked_145 (fun H locs hW => ?_)
                refine lv_goto (pc := 146) (tgt := 182) hx hb dX12_worked_146 (by decide) ?_
                refine lv_iinc (pc := 182) (v := (v5 + 1)) (lv' := [(5, .int (v5 + 1)), (6, .int (S.2.1 17 (Int32.toNatClampNeg v5))), (0, .ref (h 0)), (1, .int v1), (3, .int v3), (4, .int v4)]) hx hb dX12_worked_182 hl (k := 5) rfl (by rfl) (by decide) rfl (fun ls hl => ?_)
                refine lv_goto (pc := 185) (tgt := 12) hx hb dX12_worked_185 (by decide) ?_
                exact ih v1 v3 v4 (v5 + 1) S25 H locs hW ls (lv_sub hl [2, 3, 4, 5, 0] rfl) hf
            · have hf := zt c14 hf
              refine lv_aload_n (pc := 92) hx hb dX12_worked_92 rfl (lv_at hl 1 rfl) ?_
              refine rg_23 (pc := 93) C0 hu_12 hW mR_21 dX12_worked_93 ?_
              refine lv_iload (pc := 96) hx hb dX12_worked_96 (lv_at hl 4 rfl) ?_
              refine lv_iconst (pc := 98) (v := 1) hx hb dX12_worked_98 (by decide) ?_
              refine lv_isub (pc := 99) hx hb dX12_worked_99 ?_
              refine lv_aload_n (pc := 100) hx hb dX12_worked_100 rfl (lv_at hl 1 rfl) ?_
              refine rg_23 (pc := 101) C0 hu_12 hW mR_21 dX12_worked_101 ?_
              refine lv_iload (pc := 104) hx hb dX12_worked_104 (lv_at hl 4 rfl) ?_
              refine lv_iconst (pc := 106) (v := 1) hx hb dX12_worked_106 (by decide) ?_
              refine lv_isub (pc := 107) hx hb dX12_worked_107 ?_
              obtain ⟨i26, hf⟩ := zn hf
              refine rl_23 (pc := 108) C0 hW i26 dX12_worked_108 ?_
              refine lv_if_ne (pc := 109) (tgt := 116) hx hb dX12_worked_109 (by decide) (fun c27 => ?_) (fun c27 => ?_)
              · have hf := zf c27 hf
                refine lv_iconst (pc := 116) (v := 0) hx hb dX12_worked_116 (by decide) ?_
                exact w117 (fX12_worked_b12 N n) ih v1 v3 v4 v5 (v4 - 1) 0 S H locs hW ls (lv_sub hl [1, 2, 3, 4, 5] rfl) hf
              · have hf := zt c27 hf
                refine lv_iconst (pc := 112) (v := 1) hx hb dX12_worked_112 (by decide) ?_
                refine lv_goto (pc := 113) (tgt := 117) hx hb dX12_worked_113 (by decide) ?_
                exact w117 (fX12_worked_b12 N n) ih v1 v3 v4 v5 (v4 - 1) 1 S H locs hW ls (lv_sub hl [1, 2, 3, 4, 5] rfl) hf
          · have hf := zt c13 hf
            exact w45 (fX12_worked_b12 N n) ih v1 v3 v4 v5 (S.2.1 17 (Int32.toNatClampNeg v5)) S H locs hW ls (lv_sub hl [1, 2, 3, 4, 5, 0] rfl) hf
  unfold fX12_worked at hf
  refine lv_iconst (pc := 0) (v := 0) hx hb dX12_worked_0 (by decide) ?_
  refine lv_istore (pc := 1) (lv' := [(4, .int 0), (0, .ref (h 0)), (1, .int p1), (2, .int p2), (3, .int p3)]) hx hb dX12_worked_1 hl (by decide) rfl (fun ls hl => ?_)
  refine lv_sipush (pc := 3) (v := 130) hx hb dX12_worked_3 (by decide) ?_
  refine lv_iload_n (pc := 6) hx hb dX12_worked_6 rfl (lv_at hl 2 rfl) ?_
  refine lv_imul (pc := 7) hx hb dX12_worked_7 ?_
  refine lv_iload_n (pc := 8) hx hb dX12_worked_8 rfl (lv_at hl 3 rfl) ?_
  refine lv_iadd (pc := 9) hx hb dX12_worked_9 ?_
  refine lv_istore (pc := 10) (lv' := [(5, .int ((130 * p1) + p2)), (4, .int 0), (0, .ref (h 0)), (1, .int p1), (2, .int p2), (3, .int p3)]) hx hb dX12_worked_10 hl (by decide) rfl (fun ls hl => ?_)
  exact w12 N p1 p3 0 ((130 * p1) + p2) S H locs hW ls (lv_sub hl [2, 3, 5, 1, 0] rfl) hf

def fX12_gives_b47 (N : Nat) (v1 : Int32) (v3 : Int32) (S : zSt) : Option (Int32 × zSt) :=
  if zin v3 305 then if zin v3 305 then zB (fX12_worked N v1 (S.2.1 20 (Int32.toNatClampNeg v3)) (S.2.1 21 (Int32.toNatClampNeg v3)) S) fun r3 S4 => some (r3, S4) else none else none
def fX12_gives_b7 (N : Nat) : Nat → Int32 → Int32 → Int32 → zSt → Option (Int32 × zSt)
  | 0, _, _, _, _ => none
  | n + 1, v1, v2, v3, S =>
    if zin v1 5 then if ((61 * v1) + (S.2.1 19 (Int32.toNatClampNeg v1))) ≤ v3 then (some (0, S)) else (if zin v3 305 then if (S.2.1 20 (Int32.toNatClampNeg v3)) = v2 then (fX12_gives_b47 N v1 v3 S) else (if zin v3 305 then zB (fX12_worked N v1 v2 (S.2.1 20 (Int32.toNatClampNeg v3)) S) fun r11 S12 => if r11 = 0 then (if zin v3 305 then fX12_gives_b7 N n v1 (S12.2.1 21 (Int32.toNatClampNeg v3)) (v3 + 1) S12 else none) else (fX12_gives_b47 N v1 v3 S12) else none) else none) else none
def fX12_gives (N : Nat) (p1 : Int32) (S : zSt) : Option (Int32 × zSt) :=
  fX12_gives_b7 N N p1 0 (61 * p1) S
abbrev wX12_gives : List Cond := Cond.code yX12_gives cX12_gives 4 (some .int) :: waR
abbrev rmX12_gives : Room := { frames := 2, cells := 0, slots := 0, locals := 48 }
set_option maxHeartbeats 4000000 in
set_option maxRecDepth 100000 in
theorem kX12_gives (l : Launch) (D : va_G) (cA : Nat → ClassId) (h : Nat → Nat) (sz : Nat) (N : Nat)  (p1 : Int32) (S : zSt) (r : Int32) (S1 : zSt) (hf : fX12_gives N p1 S = some (r, S1)) : zMi l yX12_gives wX12_gives rmX12_gives zTr D (tR cA) (hsR h) [.ref (h 0), .int p1] (wR cA h S) (wR cA h S1) sz r := by
  refine zEn_i (cc := cX12_gives) (maxL := 4) (own := RX12) (by decide) rfl rfl (hmR cA h S) (Nat.le_of_ble_eq_true rfl) ?_
  intro p e s m args below meth c Q H locs C0 hW fin ls hl
  have hl : lv_has ls 4 [(0, .ref (h 0)), (1, .int p1)] := hl
  have hx := C0.1
  have hb := C0.2.1
  have hown := C0.2.2.2.1
  have hts := C0.2.2.2.2
  have w47 : ∀ (v1 : Int32) (v3 : Int32) (S : zSt) (H : Heap) (locs : List Loc), zW zTr D (tR cA) (wR cA h S) (aW (hsR h) s.heap.size) s H locs → ∀ ls : Array Slot, lv_has ls 4 [(0, .ref (h 0)), (1, .int v1), (3, .int v3)] → fX12_gives_b47 N v1 v3 S = some (r, S1) → W p l e rmX12_gives s m args below meth c H locs 0 0 Q (F0 m 47 ls []) := by
    intro v1 v3 S H locs hW ls hl hf
    unfold fX12_gives_b47 at hf
    refine lv_aload_n (pc := 47) hx hb dX12_gives_47 rfl (lv_at hl 0 rfl) ?_
    refine lv_iload_n (pc := 48) hx hb dX12_gives_48 rfl (lv_at hl 1 rfl) ?_
    refine lv_aload_n (pc := 49) hx hb dX12_gives_49 rfl (lv_at hl 0 rfl) ?_
    refine rg_20 (pc := 50) C0 hu_12 hW mR_18 dX12_gives_50 ?_
    refine lv_iload_n (pc := 53) hx hb dX12_gives_53 rfl (lv_at hl 2 rfl) ?_
    obtain ⟨i1, hf⟩ := zn hf
    refine rl_20 (pc := 54) C0 hW i1 dX12_gives_54 ?_
    refine lv_aload_n (pc := 55) hx hb dX12_gives_55 rfl (lv_at hl 0 rfl) ?_
    refine rg_21 (pc := 56) C0 hu_12 hW mR_19 dX12_gives_56 ?_
    refine lv_iload_n (pc := 59) hx hb dX12_gives_59 rfl (lv_at hl 2 rfl) ?_
    obtain ⟨i2, hf⟩ := zn hf
    refine rl_21 (pc := 60) C0 hW i2 dX12_gives_60 ?_
    obtain ⟨r3, S4, e5, hf⟩ := zB_e hf
    refine zcVi zTr_ok (As := [.int v1, .int (S.2.1 20 (Int32.toNatClampNeg v3)), .int (S.2.1 21 (Int32.toNatClampNeg v3))]) (pc := 61) C0 hW (kX12_worked l D cA h H.size N v1 (S.2.1 20 (Int32.toNatClampNeg v3)) (S.2.1 21 (Int32.toNatClampNeg v3)) S r3 S4 e5) (cwV 3 hts (zgV gaR mR_155 mR_156 mR_157 mR_46 mR_151) rfl rfl rfl (by decide +kernel) ⟨Nat.le_of_ble_eq_true rfl, Nat.le_of_ble_eq_true rfl⟩) (va_recv hW.1 hW.2.1 (ci := 12) (q0 := 0) rfl rfl) rfl hl.1 rfl (Nat.le_of_ble_eq_true rfl) dX12_gives_61 (fun H locs hW => ?_)
    exact zend_i (w := wR cA h) fin hf hW dX12_gives_64
  have w7 : ∀ (n : Nat), ∀ (v1 : Int32) (v2 : Int32) (v3 : Int32) (S : zSt) (H : Heap) (locs : List Loc), zW zTr D (tR cA) (wR cA h S) (aW (hsR h) s.heap.size) s H locs → ∀ ls : Array Slot, lv_has ls 4 [(0, .ref (h 0)), (1, .int v1), (2, .int v2), (3, .int v3)] → fX12_gives_b7 N n v1 v2 v3 S = some (r, S1) → W p l e rmX12_gives s m args below meth c H locs 0 0 Q (F0 m 7 ls []) := by
    intro n
    induction n with
    | zero =>
      intro v1 v2 v3 S H locs hW ls hl hf
      exact absurd hf (by intro h; cases h)
    | succ n ih =>
      intro v1 v2 v3 S H locs hW ls hl hf
      rw [fX12_gives_b7] at hf
      refine lv_iload_n (pc := 7) hx hb dX12_gives_7 rfl (lv_at hl 3 rfl) ?_
      refine lv_bipush (pc := 8) (v := 61) hx hb dX12_gives_8 (by decide) ?_
      refine lv_iload_n (pc := 10) hx hb dX12_gives_10 rfl (lv_at hl 1 rfl) ?_
      refine lv_imul (pc := 11) hx hb dX12_gives_11 ?_
      refine lv_aload_n (pc := 12) hx hb dX12_gives_12 rfl (lv_at hl 0 rfl) ?_
      refine rg_19 (pc := 13) C0 hu_12 hW mR_16 dX12_gives_13 ?_
      refine lv_iload_n (pc := 16) hx hb dX12_gives_16 rfl (lv_at hl 1 rfl) ?_
      obtain ⟨i6, hf⟩ := zn hf
      refine rl_19 (pc := 17) C0 hW i6 dX12_gives_17 ?_
      refine lv_iadd (pc := 18) hx hb dX12_gives_18 ?_
      refine lv_icmp_ge (pc := 19) (tgt := 78) hx hb dX12_gives_19 (by decide) (fun c7 => ?_) (fun c7 => ?_)
      · have hf := zt c7 hf
        refine lv_iconst (pc := 78) (v := 0) hx hb dX12_gives_78 (by decide) ?_
        exact zend_i (w := wR cA h) fin hf hW dX12_gives_79
      · have hf := zf c7 hf
        refine lv_aload_n (pc := 22) hx hb dX12_gives_22 rfl (lv_at hl 0 rfl) ?_
        refine rg_20 (pc := 23) C0 hu_12 hW mR_18 dX12_gives_23 ?_
        refine lv_iload_n (pc := 26) hx hb dX12_gives_26 rfl (lv_at hl 3 rfl) ?_
        obtain ⟨i8, hf⟩ := zn hf
        refine rl_20 (pc := 27) C0 hW i8 dX12_gives_27 ?_
        refine lv_iload_n (pc := 28) hx hb dX12_gives_28 rfl (lv_at hl 2 rfl) ?_
        refine lv_icmp_eq (pc := 29) (tgt := 47) hx hb dX12_gives_29 (by decide) (fun c9 => ?_) (fun c9 => ?_)
        · have hf := zt c9 hf
          exact w47 v1 v3 S H locs hW ls (lv_sub hl [0, 1, 3] rfl) hf
        · have hf := zf c9 hf
          refine lv_aload_n (pc := 32) hx hb dX12_gives_32 rfl (lv_at hl 0 rfl) ?_
          refine lv_iload_n (pc := 33) hx hb dX12_gives_33 rfl (lv_at hl 1 rfl) ?_
          refine lv_iload_n (pc := 34) hx hb dX12_gives_34 rfl (lv_at hl 2 rfl) ?_
          refine lv_aload_n (pc := 35) hx hb dX12_gives_35 rfl (lv_at hl 0 rfl) ?_
          refine rg_20 (pc := 36) C0 hu_12 hW mR_18 dX12_gives_36 ?_
          refine lv_iload_n (pc := 39) hx hb dX12_gives_39 rfl (lv_at hl 3 rfl) ?_
          obtain ⟨i10, hf⟩ := zn hf
          refine rl_20 (pc := 40) C0 hW i10 dX12_gives_40 ?_
          obtain ⟨r11, S12, e13, hf⟩ := zB_e hf
          refine zcVi zTr_ok (As := [.int v1, .int v2, .int (S.2.1 20 (Int32.toNatClampNeg v3))]) (pc := 41) C0 hW (kX12_worked l D cA h H.size N v1 v2 (S.2.1 20 (Int32.toNatClampNeg v3)) S r11 S12 e13) (cwV 3 hts (zgV gaR mR_155 mR_156 mR_157 mR_46 mR_151) rfl rfl rfl (by decide +kernel) ⟨Nat.le_of_ble_eq_true rfl, Nat.le_of_ble_eq_true rfl⟩) (va_recv hW.1 hW.2.1 (ci := 12) (q0 := 0) rfl rfl) rfl hl.1 rfl (Nat.le_of_ble_eq_true rfl) dX12_gives_41 (fun H locs hW => ?_)
          refine lv_if_eq (pc := 44) (tgt := 65) hx hb dX12_gives_44 (by decide) (fun c14 => ?_) (fun c14 => ?_)
          · have hf := zt c14 hf
            refine lv_aload_n (pc := 65) hx hb dX12_gives_65 rfl (lv_at hl 0 rfl) ?_
            refine rg_21 (pc := 66) C0 hu_12 hW mR_19 dX12_gives_66 ?_
            refine lv_iload_n (pc := 69) hx hb dX12_gives_69 rfl (lv_at hl 3 rfl) ?_
            obtain ⟨i15, hf⟩ := zn hf
            refine rl_21 (pc := 70) C0 hW i15 dX12_gives_70 ?_
            refine lv_istore_n (pc := 71) (lv' := [(2, .int (S12.2.1 21 (Int32.toNatClampNeg v3))), (0, .ref (h 0)), (1, .int v1), (3, .int v3)]) hx hb dX12_gives_71 rfl hl (by decide) rfl (fun ls hl => ?_)
            refine lv_iinc (pc := 72) (v := (v3 + 1)) (lv' := [(3, .int (v3 + 1)), (2, .int (S12.2.1 21 (Int32.toNatClampNeg v3))), (0, .ref (h 0)), (1, .int v1)]) hx hb dX12_gives_72 hl (k := 3) rfl (by rfl) (by decide) rfl (fun ls hl => ?_)
            refine lv_goto (pc := 75) (tgt := 7) hx hb dX12_gives_75 (by decide) ?_
            exact ih v1 (S12.2.1 21 (Int32.toNatClampNeg v3)) (v3 + 1) S12 H locs hW ls (lv_sub hl [2, 3, 1, 0] rfl) hf
          · have hf := zf c14 hf
            exact w47 v1 v3 S12 H locs hW ls (lv_sub hl [0, 1, 3] rfl) hf
  unfold fX12_gives at hf
  refine lv_iconst (pc := 0) (v := 0) hx hb dX12_gives_0 (by decide) ?_
  refine lv_istore_n (pc := 1) (lv' := [(2, .int 0), (0, .ref (h 0)), (1, .int p1)]) hx hb dX12_gives_1 rfl hl (by decide) rfl (fun ls hl => ?_)
  refine lv_bipush (pc := 2) (v := 61) hx hb dX12_gives_2 (by decide) ?_
  refine lv_iload_n (pc := 4) hx hb dX12_gives_4 rfl (lv_at hl 2 rfl) ?_
  refine lv_imul (pc := 5) hx hb dX12_gives_5 ?_
  refine lv_istore_n (pc := 6) (lv' := [(3, .int (61 * p1)), (2, .int 0), (0, .ref (h 0)), (1, .int p1)]) hx hb dX12_gives_6 rfl hl (by decide) rfl (fun ls hl => ?_)
  exact w7 N p1 0 (61 * p1) S H locs hW ls (lv_sub hl [2, 3, 1, 0] rfl) hf

def fX12_isLaw (p1 : Int32) (S : zSt) : Option (Int32 × zSt) :=
  zU (fX12_in p1 0 ((S.1 24) - 1)) fun r1 => if zbit r1 then some (r1, S) else none
abbrev wX12_isLaw : List Cond := Cond.code yX12_isLaw cX12_isLaw 2 (some .boolean) :: waR
abbrev rmX12_isLaw : Room := { frames := 1, cells := 0, slots := 0, locals := 22 }
set_option maxHeartbeats 4000000 in
set_option maxRecDepth 100000 in
theorem kX12_isLaw (l : Launch) (D : va_G) (cA : Nat → ClassId) (h : Nat → Nat) (sz : Nat)  (p1 : Int32) (S : zSt) (r : Int32) (S1 : zSt) (hf : fX12_isLaw p1 S = some (r, S1)) : zMi l yX12_isLaw wX12_isLaw rmX12_isLaw zTr D (tR cA) (hsR h) [.ref (h 0), .int p1] (wR cA h S) (wR cA h S1) sz r := by
  refine zEn_z (cc := cX12_isLaw) (maxL := 2) (own := RX12) (by decide) rfl rfl (hmR cA h S) (Nat.le_of_ble_eq_true rfl) ?_
  intro p e s m args below meth c Q H locs C0 hW fin ls hl
  have hl : lv_has ls 2 [(0, .ref (h 0)), (1, .int p1)] := hl
  have hx := C0.1
  have hb := C0.2.1
  have hown := C0.2.2.2.1
  have hts := C0.2.2.2.2
  unfold fX12_isLaw at hf
  refine lv_iload_n (pc := 0) hx hb dX12_isLaw_0 rfl (lv_at hl 1 rfl) ?_
  refine lv_iconst (pc := 1) (v := 0) hx hb dX12_isLaw_1 (by decide) ?_
  refine lv_aload_n (pc := 2) hx hb dX12_isLaw_2 rfl (lv_at hl 0 rfl) ?_
  refine rg_24 (pc := 3) C0 hu_12 hW mR_159 dX12_isLaw_3 ?_
  refine lv_iconst (pc := 6) (v := 1) hx hb dX12_isLaw_6 (by decide) ?_
  refine lv_isub (pc := 7) hx hb dX12_isLaw_7 ?_
  obtain ⟨r1, e3, hf⟩ := zU_e hf
  refine zcSi (As := [.int p1, .int 0, .int ((S.1 24) - 1)]) (pc := 8) C0 hW (kX12_in l H.size p1 0 ((S.1 24) - 1) r1 e3) (va_cwS 3 hts (zgS gaR mR_44 mR_45 mR_46 mR_39) rfl rfl rfl (by decide +kernel) ⟨Nat.le_of_ble_eq_true rfl, Nat.le_of_ble_eq_true rfl⟩) rfl hl.1 rfl (Nat.le_of_ble_eq_true rfl) dX12_isLaw_8 (fun H locs hW => ?_)
  obtain ⟨i4, hf⟩ := zn hf
  exact zend_z (w := wR cA h) fin hf i4 hW dX12_isLaw_11

def fX12_isHour (p1 : Int32): Option Int32 :=
  zU (fX12_in p1 0 47) fun r1 => if zbit r1 then some r1 else none
abbrev wX12_isHour : List Cond := Cond.code yX12_isHour cX12_isHour 1 (some .boolean) :: waR
abbrev rmX12_isHour : Room := { frames := 1, cells := 0, slots := 0, locals := 22 }
set_option maxHeartbeats 4000000 in
set_option maxRecDepth 100000 in
theorem kX12_isHour (l : Launch) (sz : Nat) (p1 : Int32) (r : Int32) (hf : fX12_isHour p1 = some r) : zMs l yX12_isHour wX12_isHour rmX12_isHour [.int p1] sz r := by
  refine zEs_z (cc := cX12_isHour) (maxL := 1) (own := RX12) (by decide) rfl rfl (Nat.le_of_ble_eq_true rfl) ?_
  intro p e s m args below meth c Q H locs C0 hW fin ls hl
  have hl : lv_has ls 1 [(0, .int p1)] := hl
  have hx := C0.1
  have hb := C0.2.1
  have hown := C0.2.2.2.1
  have hts := C0.2.2.2.2
  unfold fX12_isHour at hf
  refine lv_iload_n (pc := 0) hx hb dX12_isHour_0 rfl (lv_at hl 0 rfl) ?_
  refine lv_iconst (pc := 1) (v := 0) hx hb dX12_isHour_1 (by decide) ?_
  refine lv_bipush (pc := 2) (v := 47) hx hb dX12_isHour_2 (by decide) ?_
  obtain ⟨r1, e3, hf⟩ := zU_e hf
  refine zcS0 (As := [.int p1, .int 0, .int 47]) (pc := 4) C0 hW (kX12_in l H.size p1 0 47 r1 e3) (va_cwS 3 hts (zgS gaR mR_44 mR_45 mR_46 mR_39) rfl rfl rfl (by decide +kernel) ⟨Nat.le_of_ble_eq_true rfl, Nat.le_of_ble_eq_true rfl⟩) rfl hl.1 rfl (Nat.le_of_ble_eq_true rfl) dX12_isHour_4 (fun H locs _ hW => ?_)
  obtain ⟨i4, hf⟩ := zn hf
  exact zens_z fin hf i4 hW dX12_isHour_7

def fX12_law (N : Nat) (S : zSt) : Option (Int32 × zSt) :=
  if (S.1 24) = 4 then (some ((-3), S)) else (zB (fX12_readText N (S.1 24) S) fun r2 S3 => if r2 < 0 then (zL (zI S3 24 ((S3.1 24) + 1)) fun S6 => some (((S6.1 24) - 1), S6)) else (some (((-100) - r2), S3)))
abbrev wX12_law : List Cond := Cond.code yX12_law cX12_law 2 (some .int) :: waR
abbrev rmX12_law : Room := { frames := 115, cells := 0, slots := 0, locals := 4663 }
set_option maxHeartbeats 4000000 in
set_option maxRecDepth 100000 in
theorem kX12_law (l : Launch) (D : va_G) (cA : Nat → ClassId) (h : Nat → Nat) (sz : Nat) (N : Nat)   (S : zSt) (r : Int32) (S1 : zSt) (hf : fX12_law N S = some (r, S1)) : zMi l yX12_law wX12_law rmX12_law zTr D (tR cA) (hsR h) [.ref (h 0)] (wR cA h S) (wR cA h S1) sz r := by
  refine zEn_i (cc := cX12_law) (maxL := 2) (own := RX12) (by decide) rfl rfl (hmR cA h S) (Nat.le_of_ble_eq_true rfl) ?_
  intro p e s m args below meth c Q H locs C0 hW fin ls hl
  have hl : lv_has ls 2 [(0, .ref (h 0))] := hl
  have hx := C0.1
  have hb := C0.2.1
  have hown := C0.2.2.2.1
  have hts := C0.2.2.2.2
  unfold fX12_law at hf
  refine lv_aload_n (pc := 0) hx hb dX12_law_0 rfl (lv_at hl 0 rfl) ?_
  refine rg_24 (pc := 1) C0 hu_12 hW mR_159 dX12_law_1 ?_
  refine lv_iconst (pc := 4) (v := 4) hx hb dX12_law_4 (by decide) ?_
  refine lv_icmp_ne (pc := 5) (tgt := 11) hx hb dX12_law_5 (by decide) (fun c1 => ?_) (fun c1 => ?_)
  · have hf := zf c1 hf
    refine lv_aload_n (pc := 11) hx hb dX12_law_11 rfl (lv_at hl 0 rfl) ?_
    refine lv_aload_n (pc := 12) hx hb dX12_law_12 rfl (lv_at hl 0 rfl) ?_
    refine rg_24 (pc := 13) C0 hu_12 hW mR_159 dX12_law_13 ?_
    obtain ⟨r2, S3, e4, hf⟩ := zB_e hf
    refine zcVi zTr_ok (As := [.int (S.1 24)]) (pc := 16) C0 hW (kX12_readText l D cA h H.size N (S.1 24) S r2 S3 e4) (cwV 1 hts (zgV gaR mR_162 mR_163 mR_164 mR_46 mR_146) rfl rfl rfl (by decide +kernel) ⟨Nat.le_of_ble_eq_true rfl, Nat.le_of_ble_eq_true rfl⟩) (va_recv hW.1 hW.2.1 (ci := 12) (q0 := 0) rfl rfl) rfl hl.1 rfl (Nat.le_of_ble_eq_true rfl) dX12_law_16 (fun H locs hW => ?_)
    refine lv_istore_n (pc := 19) (lv' := [(1, .int r2), (0, .ref (h 0))]) hx hb dX12_law_19 rfl hl (by decide) rfl (fun ls hl => ?_)
    refine lv_iload_n (pc := 20) hx hb dX12_law_20 rfl (lv_at hl 0 rfl) ?_
    refine lv_if_lt (pc := 21) (tgt := 29) hx hb dX12_law_21 (by decide) (fun c5 => ?_) (fun c5 => ?_)
    · have hf := zt c5 hf
      refine lv_aload_n (pc := 29) hx hb dX12_law_29 rfl (lv_at hl 1 rfl) ?_
      refine lv_dup (pc := 30) hx hb dX12_law_30 rfl ?_
      refine rg_24 (pc := 31) C0 hu_12 hW mR_159 dX12_law_31 ?_
      refine lv_iconst (pc := 34) (v := 1) hx hb dX12_law_34 (by decide) ?_
      refine lv_iadd (pc := 35) hx hb dX12_law_35 ?_
      obtain ⟨S6, e_S6, hf⟩ := zL_e hf
      refine rp_24 (pc := 36) C0 hu_12 hW mR_159 e_S6 dX12_law_36 (fun H locs hW => ?_)
      refine lv_aload_n (pc := 39) hx hb dX12_law_39 rfl (lv_at hl 1 rfl) ?_
      refine rg_24 (pc := 40) C0 hu_12 hW mR_159 dX12_law_40 ?_
      refine lv_iconst (pc := 43) (v := 1) hx hb dX12_law_43 (by decide) ?_
      refine lv_isub (pc := 44) hx hb dX12_law_44 ?_
      exact zend_i (w := wR cA h) fin hf hW dX12_law_45
    · have hf := zf c5 hf
      refine lv_bipush (pc := 24) (v := (-100)) hx hb dX12_law_24 (by decide) ?_
      refine lv_iload_n (pc := 26) hx hb dX12_law_26 rfl (lv_at hl 0 rfl) ?_
      refine lv_isub (pc := 27) hx hb dX12_law_27 ?_
      exact zend_i (w := wR cA h) fin hf hW dX12_law_28
  · have hf := zt c1 hf
    refine lv_bipush (pc := 8) (v := (-3)) hx hb dX12_law_8 (by decide) ?_
    exact zend_i (w := wR cA h) fin hf hW dX12_law_10

def fX12_force_b16  (v1 : Int32) (S : zSt) : Option (Int32 × zSt) :=
  zL (zI S 25 v1) fun S1 => some ((S.1 25), S1)
def fX12_force (p1 : Int32) (S : zSt) : Option (Int32 × zSt) :=
  if p1 = (-1) then (fX12_force_b16 p1 S) else (zB (fX12_isLaw p1 S) fun r3 S4 => if r3 = 0 then (some ((-2), S4)) else (fX12_force_b16 p1 S4))
abbrev wX12_force : List Cond := Cond.code yX12_force cX12_force 3 (some .int) :: waR
abbrev rmX12_force : Room := { frames := 2, cells := 0, slots := 0, locals := 43 }
set_option maxHeartbeats 4000000 in
set_option maxRecDepth 100000 in
theorem kX12_force (l : Launch) (D : va_G) (cA : Nat → ClassId) (h : Nat → Nat) (sz : Nat)  (p1 : Int32) (S : zSt) (r : Int32) (S1 : zSt) (hf : fX12_force p1 S = some (r, S1)) : zMi l yX12_force wX12_force rmX12_force zTr D (tR cA) (hsR h) [.ref (h 0), .int p1] (wR cA h S) (wR cA h S1) sz r := by
  refine zEn_i (cc := cX12_force) (maxL := 3) (own := RX12) (by decide) rfl rfl (hmR cA h S) (Nat.le_of_ble_eq_true rfl) ?_
  intro p e s m args below meth c Q H locs C0 hW fin ls hl
  have hl : lv_has ls 3 [(0, .ref (h 0)), (1, .int p1)] := hl
  have hx := C0.1
  have hb := C0.2.1
  have hown := C0.2.2.2.1
  have hts := C0.2.2.2.2
  have w16 : ∀ (v1 : Int32) (S : zSt) (H : Heap) (locs : List Loc), zW zTr D (tR cA) (wR cA h S) (aW (hsR h) s.heap.size) s H locs → ∀ ls : Array Slot, lv_has ls 3 [(0, .ref (h 0)), (1, .int v1)] → fX12_force_b16 v1 S = some (r, S1) → W p l e rmX12_force s m args below meth c H locs 0 0 Q (F0 m 16 ls []) := by
    intro v1 S H locs hW ls hl hf
    unfold fX12_force_b16 at hf
    refine lv_aload_n (pc := 16) hx hb dX12_force_16 rfl (lv_at hl 0 rfl) ?_
    refine rg_25 (pc := 17) C0 hu_12 hW mR_22 dX12_force_17 ?_
    refine lv_istore_n (pc := 20) (lv' := [(2, .int (S.1 25)), (0, .ref (h 0)), (1, .int v1)]) hx hb dX12_force_20 rfl hl (by decide) rfl (fun ls hl => ?_)
    refine lv_aload_n (pc := 21) hx hb dX12_force_21 rfl (lv_at hl 1 rfl) ?_
    refine lv_iload_n (pc := 22) hx hb dX12_force_22 rfl (lv_at hl 2 rfl) ?_
    obtain ⟨S1, e_S1, hf⟩ := zL_e hf
    refine rp_25 (pc := 23) C0 hu_12 hW mR_22 e_S1 dX12_force_23 (fun H locs hW => ?_)
    refine lv_iload_n (pc := 26) hx hb dX12_force_26 rfl (lv_at hl 0 rfl) ?_
    exact zend_i (w := wR cA h) fin hf hW dX12_force_27
  unfold fX12_force at hf
  refine lv_iload_n (pc := 0) hx hb dX12_force_0 rfl (lv_at hl 1 rfl) ?_
  refine lv_iconst (pc := 1) (v := (-1)) hx hb dX12_force_1 (by decide) ?_
  refine lv_icmp_eq (pc := 2) (tgt := 16) hx hb dX12_force_2 (by decide) (fun c2 => ?_) (fun c2 => ?_)
  · have hf := zt c2 hf
    exact w16 p1 S H locs hW ls (lv_sub hl [0, 1] rfl) hf
  · have hf := zf c2 hf
    refine lv_aload_n (pc := 5) hx hb dX12_force_5 rfl (lv_at hl 0 rfl) ?_
    refine lv_iload_n (pc := 6) hx hb dX12_force_6 rfl (lv_at hl 1 rfl) ?_
    obtain ⟨r3, S4, e5, hf⟩ := zB_e hf
    refine zcVi zTr_ok (As := [.int p1]) (pc := 7) C0 hW (kX12_isLaw l D cA h H.size p1 S r3 S4 e5) (cwV 1 hts (zgV gaR mR_166 mR_167 mR_168 mR_46 mR_158) rfl rfl rfl (by decide +kernel) ⟨Nat.le_of_ble_eq_true rfl, Nat.le_of_ble_eq_true rfl⟩) (va_recv hW.1 hW.2.1 (ci := 12) (q0 := 0) rfl rfl) rfl hl.1 rfl (Nat.le_of_ble_eq_true rfl) dX12_force_7 (fun H locs hW => ?_)
    refine lv_if_ne (pc := 10) (tgt := 16) hx hb dX12_force_10 (by decide) (fun c6 => ?_) (fun c6 => ?_)
    · have hf := zf c6 hf
      exact w16 p1 S4 H locs hW ls (lv_sub hl [0, 1] rfl) hf
    · have hf := zt c6 hf
      refine lv_bipush (pc := 13) (v := (-2)) hx hb dX12_force_13 (by decide) ?_
      exact zend_i (w := wR cA h) fin hf hW dX12_force_15

def fX12_sky_b36  (v1 : Int32) (v2 : Int32) (u0 : Int32) (S : zSt) : Option (Int32 × zSt) :=
  if v1 = 0 then (zL (zI S 26 v2) fun S3 => some (u0, S3)) else (zL (zI S 27 v2) fun S2 => some (u0, S2))
def fX12_sky (p1 : Int32) (p2 : Int32) (S : zSt) : Option (Int32 × zSt) :=
  zU (fX12_in p1 0 1) fun r4 => if r4 = 0 then (some ((-1), S)) else (zU (fX12_in p2 0 99) fun r8 => if r8 = 0 then (some ((-1), S)) else (if p1 = 0 then (fX12_sky_b36 p1 p2 (S.1 26) S) else (fX12_sky_b36 p1 p2 (S.1 27) S)))
abbrev wX12_sky : List Cond := Cond.code yX12_sky cX12_sky 4 (some .int) :: waR
abbrev rmX12_sky : Room := { frames := 1, cells := 0, slots := 0, locals := 22 }
set_option maxHeartbeats 4000000 in
set_option maxRecDepth 100000 in
theorem kX12_sky (l : Launch) (D : va_G) (cA : Nat → ClassId) (h : Nat → Nat) (sz : Nat)  (p1 : Int32) (p2 : Int32) (S : zSt) (r : Int32) (S1 : zSt) (hf : fX12_sky p1 p2 S = some (r, S1)) : zMi l yX12_sky wX12_sky rmX12_sky zTr D (tR cA) (hsR h) [.ref (h 0), .int p1, .int p2] (wR cA h S) (wR cA h S1) sz r := by
  refine zEn_i (cc := cX12_sky) (maxL := 4) (own := RX12) (by decide) rfl rfl (hmR cA h S) (Nat.le_of_ble_eq_true rfl) ?_
  intro p e s m args below meth c Q H locs C0 hW fin ls hl
  have hl : lv_has ls 4 [(0, .ref (h 0)), (1, .int p1), (2, .int p2)] := hl
  have hx := C0.1
  have hb := C0.2.1
  have hown := C0.2.2.2.1
  have hts := C0.2.2.2.2
  have w36 : ∀ (v1 : Int32) (v2 : Int32) (u0 : Int32) (S : zSt) (H : Heap) (locs : List Loc), zW zTr D (tR cA) (wR cA h S) (aW (hsR h) s.heap.size) s H locs → ∀ ls : Array Slot, lv_has ls 4 [(0, .ref (h 0)), (1, .int v1), (2, .int v2)] → fX12_sky_b36 v1 v2 u0 S = some (r, S1) → W p l e rmX12_sky s m args below meth c H locs 0 0 Q (F0 m 36 ls [.int u0]) := by
    intro v1 v2 u0 S H locs hW ls hl hf
    unfold fX12_sky_b36 at hf
    refine lv_istore_n (pc := 36) (lv' := [(3, .int u0), (0, .ref (h 0)), (1, .int v1), (2, .int v2)]) hx hb dX12_sky_36 rfl hl (by decide) rfl (fun ls hl => ?_)
    refine lv_iload_n (pc := 37) hx hb dX12_sky_37 rfl (lv_at hl 2 rfl) ?_
    refine lv_if_ne (pc := 38) (tgt := 49) hx hb dX12_sky_38 (by decide) (fun c1 => ?_) (fun c1 => ?_)
    · have hf := zf c1 hf
      refine lv_aload_n (pc := 49) hx hb dX12_sky_49 rfl (lv_at hl 1 rfl) ?_
      refine lv_iload_n (pc := 50) hx hb dX12_sky_50 rfl (lv_at hl 3 rfl) ?_
      obtain ⟨S2, e_S2, hf⟩ := zL_e hf
      refine rp_27 (pc := 51) C0 hu_12 hW mR_171 e_S2 dX12_sky_51 (fun H locs hW => ?_)
      refine lv_iload_n (pc := 54) hx hb dX12_sky_54 rfl (lv_at hl 0 rfl) ?_
      exact zend_i (w := wR cA h) fin hf hW dX12_sky_55
    · have hf := zt c1 hf
      refine lv_aload_n (pc := 41) hx hb dX12_sky_41 rfl (lv_at hl 1 rfl) ?_
      refine lv_iload_n (pc := 42) hx hb dX12_sky_42 rfl (lv_at hl 3 rfl) ?_
      obtain ⟨S3, e_S3, hf⟩ := zL_e hf
      refine rp_26 (pc := 43) C0 hu_12 hW mR_170 e_S3 dX12_sky_43 (fun H locs hW => ?_)
      refine lv_goto (pc := 46) (tgt := 54) hx hb dX12_sky_46 (by decide) ?_
      refine lv_iload_n (pc := 54) hx hb dX12_sky_54 rfl (lv_at hl 0 rfl) ?_
      exact zend_i (w := wR cA h) fin hf hW dX12_sky_55
  unfold fX12_sky at hf
  refine lv_iload_n (pc := 0) hx hb dX12_sky_0 rfl (lv_at hl 1 rfl) ?_
  refine lv_iconst (pc := 1) (v := 0) hx hb dX12_sky_1 (by decide) ?_
  refine lv_iconst (pc := 2) (v := 1) hx hb dX12_sky_2 (by decide) ?_
  obtain ⟨r4, e6, hf⟩ := zU_e hf
  refine zcSi (As := [.int p1, .int 0, .int 1]) (pc := 3) C0 hW (kX12_in l H.size p1 0 1 r4 e6) (va_cwS 3 hts (zgS gaR mR_44 mR_45 mR_46 mR_39) rfl rfl rfl (by decide +kernel) ⟨Nat.le_of_ble_eq_true rfl, Nat.le_of_ble_eq_true rfl⟩) rfl hl.1 rfl (Nat.le_of_ble_eq_true rfl) dX12_sky_3 (fun H locs hW => ?_)
  refine lv_if_eq (pc := 6) (tgt := 19) hx hb dX12_sky_6 (by decide) (fun c7 => ?_) (fun c7 => ?_)
  · have hf := zt c7 hf
    refine lv_iconst (pc := 19) (v := (-1)) hx hb dX12_sky_19 (by decide) ?_
    exact zend_i (w := wR cA h) fin hf hW dX12_sky_20
  · have hf := zf c7 hf
    refine lv_iload_n (pc := 9) hx hb dX12_sky_9 rfl (lv_at hl 2 rfl) ?_
    refine lv_iconst (pc := 10) (v := 0) hx hb dX12_sky_10 (by decide) ?_
    refine lv_bipush (pc := 11) (v := 99) hx hb dX12_sky_11 (by decide) ?_
    obtain ⟨r8, e10, hf⟩ := zU_e hf
    refine zcSi (As := [.int p2, .int 0, .int 99]) (pc := 13) C0 hW (kX12_in l H.size p2 0 99 r8 e10) (va_cwS 3 hts (zgS gaR mR_44 mR_45 mR_46 mR_39) rfl rfl rfl (by decide +kernel) ⟨Nat.le_of_ble_eq_true rfl, Nat.le_of_ble_eq_true rfl⟩) rfl hl.1 rfl (Nat.le_of_ble_eq_true rfl) dX12_sky_13 (fun H locs hW => ?_)
    refine lv_if_ne (pc := 16) (tgt := 21) hx hb dX12_sky_16 (by decide) (fun c11 => ?_) (fun c11 => ?_)
    · have hf := zf c11 hf
      refine lv_iload_n (pc := 21) hx hb dX12_sky_21 rfl (lv_at hl 1 rfl) ?_
      refine lv_if_ne (pc := 22) (tgt := 32) hx hb dX12_sky_22 (by decide) (fun c12 => ?_) (fun c12 => ?_)
      · have hf := zf c12 hf
        refine lv_aload_n (pc := 32) hx hb dX12_sky_32 rfl (lv_at hl 0 rfl) ?_
        refine rg_27 (pc := 33) C0 hu_12 hW mR_171 dX12_sky_33 ?_
        exact w36 p1 p2 (S.1 27) S H locs hW ls (lv_sub hl [0, 1, 2] rfl) hf
      · have hf := zt c12 hf
        refine lv_aload_n (pc := 25) hx hb dX12_sky_25 rfl (lv_at hl 0 rfl) ?_
        refine rg_26 (pc := 26) C0 hu_12 hW mR_170 dX12_sky_26 ?_
        refine lv_goto (pc := 29) (tgt := 36) hx hb dX12_sky_29 (by decide) ?_
        exact w36 p1 p2 (S.1 26) S H locs hW ls (lv_sub hl [0, 1, 2] rfl) hf
    · have hf := zt c11 hf
      refine lv_iconst (pc := 19) (v := (-1)) hx hb dX12_sky_19 (by decide) ?_
      exact zend_i (w := wR cA h) fin hf hW dX12_sky_20

def fX12_riseBy (N : Nat) (p1 : Int32) (p2 : Int32) (S : zSt) : Option (Int32 × zSt) :=
  if 0 ≤ p1 then (if zin 0 4 then zL (zA S 22 (Int32.toNatClampNeg 0) p2) fun S3 => if zin 1 4 then zL (zA S3 22 (Int32.toNatClampNeg 1) (p2 - p2 / 24 * 24)) fun S5 => if zin 2 4 then zL (zA S5 22 (Int32.toNatClampNeg 2) (S5.1 26)) fun S7 => if zin 3 4 then zL (zA S7 22 (Int32.toNatClampNeg 3) (S7.1 27)) fun S9 => zB (fX12_gives N p1 S9) fun r10 S11 => zU (fX12_held r10 (-20) 60) fun r13 => some (r13, S11) else none else none else none else none) else (some (0, S))
abbrev wX12_riseBy : List Cond := Cond.code yX12_riseBy cX12_riseBy 3 (some .int) :: waR
abbrev rmX12_riseBy : Room := { frames := 3, cells := 0, slots := 0, locals := 71 }
set_option maxHeartbeats 4000000 in
set_option maxRecDepth 100000 in
theorem kX12_riseBy (l : Launch) (D : va_G) (cA : Nat → ClassId) (h : Nat → Nat) (sz : Nat) (N : Nat)  (p1 : Int32) (p2 : Int32) (S : zSt) (r : Int32) (S1 : zSt) (hf : fX12_riseBy N p1 p2 S = some (r, S1)) : zMi l yX12_riseBy wX12_riseBy rmX12_riseBy zTr D (tR cA) (hsR h) [.ref (h 0), .int p1, .int p2] (wR cA h S) (wR cA h S1) sz r := by
  refine zEn_i (cc := cX12_riseBy) (maxL := 3) (own := RX12) (by decide) rfl rfl (hmR cA h S) (Nat.le_of_ble_eq_true rfl) ?_
  intro p e s m args below meth c Q H locs C0 hW fin ls hl
  have hl : lv_has ls 3 [(0, .ref (h 0)), (1, .int p1), (2, .int p2)] := hl
  have hx := C0.1
  have hb := C0.2.1
  have hown := C0.2.2.2.1
  have hts := C0.2.2.2.2
  unfold fX12_riseBy at hf
  refine lv_iload_n (pc := 0) hx hb dX12_riseBy_0 rfl (lv_at hl 1 rfl) ?_
  refine lv_if_ge (pc := 1) (tgt := 6) hx hb dX12_riseBy_1 (by decide) (fun c1 => ?_) (fun c1 => ?_)
  · have hf := zt c1 hf
    refine lv_aload_n (pc := 6) hx hb dX12_riseBy_6 rfl (lv_at hl 0 rfl) ?_
    refine rg_22 (pc := 7) C0 hu_12 hW mR_20 dX12_riseBy_7 ?_
    refine lv_iconst (pc := 10) (v := 0) hx hb dX12_riseBy_10 (by decide) ?_
    refine lv_iload_n (pc := 11) hx hb dX12_riseBy_11 rfl (lv_at hl 2 rfl) ?_
    obtain ⟨i2, hf⟩ := zn hf
    obtain ⟨S3, e_S3, hf⟩ := zL_e hf
    refine rs_22 (pc := 12) C0 hW i2 e_S3 dX12_riseBy_12 (fun H locs hW => ?_)
    refine lv_aload_n (pc := 13) hx hb dX12_riseBy_13 rfl (lv_at hl 0 rfl) ?_
    refine rg_22 (pc := 14) C0 hu_12 hW mR_20 dX12_riseBy_14 ?_
    refine lv_iconst (pc := 17) (v := 1) hx hb dX12_riseBy_17 (by decide) ?_
    refine lv_iload_n (pc := 18) hx hb dX12_riseBy_18 rfl (lv_at hl 2 rfl) ?_
    refine lv_bipush (pc := 19) (v := 24) hx hb dX12_riseBy_19 (by decide) ?_
    refine lv_irem (pc := 21) hx hb dX12_riseBy_21 (by decide) ?_
    obtain ⟨i4, hf⟩ := zn hf
    obtain ⟨S5, e_S5, hf⟩ := zL_e hf
    refine rs_22 (pc := 22) C0 hW i4 e_S5 dX12_riseBy_22 (fun H locs hW => ?_)
    refine lv_aload_n (pc := 23) hx hb dX12_riseBy_23 rfl (lv_at hl 0 rfl) ?_
    refine rg_22 (pc := 24) C0 hu_12 hW mR_20 dX12_riseBy_24 ?_
    refine lv_iconst (pc := 27) (v := 2) hx hb dX12_riseBy_27 (by decide) ?_
    refine lv_aload_n (pc := 28) hx hb dX12_riseBy_28 rfl (lv_at hl 0 rfl) ?_
    refine rg_26 (pc := 29) C0 hu_12 hW mR_170 dX12_riseBy_29 ?_
    obtain ⟨i6, hf⟩ := zn hf
    obtain ⟨S7, e_S7, hf⟩ := zL_e hf
    refine rs_22 (pc := 32) C0 hW i6 e_S7 dX12_riseBy_32 (fun H locs hW => ?_)
    refine lv_aload_n (pc := 33) hx hb dX12_riseBy_33 rfl (lv_at hl 0 rfl) ?_
    refine rg_22 (pc := 34) C0 hu_12 hW mR_20 dX12_riseBy_34 ?_
    refine lv_iconst (pc := 37) (v := 3) hx hb dX12_riseBy_37 (by decide) ?_
    refine lv_aload_n (pc := 38) hx hb dX12_riseBy_38 rfl (lv_at hl 0 rfl) ?_
    refine rg_27 (pc := 39) C0 hu_12 hW mR_171 dX12_riseBy_39 ?_
    obtain ⟨i8, hf⟩ := zn hf
    obtain ⟨S9, e_S9, hf⟩ := zL_e hf
    refine rs_22 (pc := 42) C0 hW i8 e_S9 dX12_riseBy_42 (fun H locs hW => ?_)
    refine lv_aload_n (pc := 43) hx hb dX12_riseBy_43 rfl (lv_at hl 0 rfl) ?_
    refine lv_iload_n (pc := 44) hx hb dX12_riseBy_44 rfl (lv_at hl 1 rfl) ?_
    obtain ⟨r10, S11, e12, hf⟩ := zB_e hf
    refine zcVi zTr_ok (As := [.int p1]) (pc := 45) C0 hW (kX12_gives l D cA h H.size N p1 S9 r10 S11 e12) (cwV 1 hts (zgV gaR mR_173 mR_174 mR_175 mR_46 mR_154) rfl rfl rfl (by decide +kernel) ⟨Nat.le_of_ble_eq_true rfl, Nat.le_of_ble_eq_true rfl⟩) (va_recv hW.1 hW.2.1 (ci := 12) (q0 := 0) rfl rfl) rfl hl.1 rfl (Nat.le_of_ble_eq_true rfl) dX12_riseBy_45 (fun H locs hW => ?_)
    refine lv_bipush (pc := 48) (v := (-20)) hx hb dX12_riseBy_48 (by decide) ?_
    refine lv_bipush (pc := 50) (v := 60) hx hb dX12_riseBy_50 (by decide) ?_
    obtain ⟨r13, e15, hf⟩ := zU_e hf
    refine zcSi (As := [.int r10, .int (-20), .int 60]) (pc := 52) C0 hW (kX12_held l H.size r10 (-20) 60 r13 e15) (va_cwS 3 hts (zgS gaR mR_176 mR_177 mR_46 mR_41) rfl rfl rfl (by decide +kernel) ⟨Nat.le_of_ble_eq_true rfl, Nat.le_of_ble_eq_true rfl⟩) rfl hl.1 rfl (Nat.le_of_ble_eq_true rfl) dX12_riseBy_52 (fun H locs hW => ?_)
    exact zend_i (w := wR cA h) fin hf hW dX12_riseBy_55
  · have hf := zf c1 hf
    refine lv_iconst (pc := 4) (v := 0) hx hb dX12_riseBy_4 (by decide) ?_
    exact zend_i (w := wR cA h) fin hf hW dX12_riseBy_5

def fX12_rise (N : Nat) (p1 : Int32) (p2 : Int32) (S : zSt) : Option (Int32 × zSt) :=
  zB (fX12_isLaw p1 S) fun r1 S2 => if r1 = 0 then (some ((-2000000000), S2)) else (zU (fX12_isHour p2) fun r5 => if r5 = 0 then (some ((-2000000000), S2)) else (zB (fX12_riseBy N p1 p2 S2) fun r9 S10 => some (r9, S10)))
abbrev wX12_rise : List Cond := Cond.code yX12_rise cX12_rise 3 (some .int) :: waR
abbrev rmX12_rise : Room := { frames := 4, cells := 0, slots := 0, locals := 93 }
set_option maxHeartbeats 4000000 in
set_option maxRecDepth 100000 in
theorem kX12_rise (l : Launch) (D : va_G) (cA : Nat → ClassId) (h : Nat → Nat) (sz : Nat) (N : Nat)  (p1 : Int32) (p2 : Int32) (S : zSt) (r : Int32) (S1 : zSt) (hf : fX12_rise N p1 p2 S = some (r, S1)) : zMi l yX12_rise wX12_rise rmX12_rise zTr D (tR cA) (hsR h) [.ref (h 0), .int p1, .int p2] (wR cA h S) (wR cA h S1) sz r := by
  refine zEn_i (cc := cX12_rise) (maxL := 3) (own := RX12) (by decide) rfl rfl (hmR cA h S) (Nat.le_of_ble_eq_true rfl) ?_
  intro p e s m args below meth c Q H locs C0 hW fin ls hl
  have hl : lv_has ls 3 [(0, .ref (h 0)), (1, .int p1), (2, .int p2)] := hl
  have hx := C0.1
  have hb := C0.2.1
  have hown := C0.2.2.2.1
  have hts := C0.2.2.2.2
  unfold fX12_rise at hf
  refine lv_aload_n (pc := 0) hx hb dX12_rise_0 rfl (lv_at hl 0 rfl) ?_
  refine lv_iload_n (pc := 1) hx hb dX12_rise_1 rfl (lv_at hl 1 rfl) ?_
  obtain ⟨r1, S2, e3, hf⟩ := zB_e hf
  refine zcVi zTr_ok (As := [.int p1]) (pc := 2) C0 hW (kX12_isLaw l D cA h H.size p1 S r1 S2 e3) (cwV 1 hts (zgV gaR mR_166 mR_167 mR_168 mR_46 mR_158) rfl rfl rfl (by decide +kernel) ⟨Nat.le_of_ble_eq_true rfl, Nat.le_of_ble_eq_true rfl⟩) (va_recv hW.1 hW.2.1 (ci := 12) (q0 := 0) rfl rfl) rfl hl.1 rfl (Nat.le_of_ble_eq_true rfl) dX12_rise_2 (fun H locs hW => ?_)
  refine lv_if_eq (pc := 5) (tgt := 24) hx hb dX12_rise_5 (by decide) (fun c4 => ?_) (fun c4 => ?_)
  · have hf := zt c4 hf
    refine lv_ldc (pc := 24) (v := (-2000000000)) hx hb hown (hts _ mR_179) dX12_rise_24 ?_
    exact zend_i (w := wR cA h) fin hf hW dX12_rise_26
  · have hf := zf c4 hf
    refine lv_iload_n (pc := 8) hx hb dX12_rise_8 rfl (lv_at hl 2 rfl) ?_
    obtain ⟨r5, e7, hf⟩ := zU_e hf
    refine zcSi (As := [.int p2]) (pc := 9) C0 hW (kX12_isHour l H.size p2 r5 e7) (va_cwS 1 hts (zgS gaR mR_180 mR_181 mR_46 mR_160) rfl rfl rfl (by decide +kernel) ⟨Nat.le_of_ble_eq_true rfl, Nat.le_of_ble_eq_true rfl⟩) rfl hl.1 rfl (Nat.le_of_ble_eq_true rfl) dX12_rise_9 (fun H locs hW => ?_)
    refine lv_if_eq (pc := 12) (tgt := 24) hx hb dX12_rise_12 (by decide) (fun c8 => ?_) (fun c8 => ?_)
    · have hf := zt c8 hf
      refine lv_ldc (pc := 24) (v := (-2000000000)) hx hb hown (hts _ mR_179) dX12_rise_24 ?_
      exact zend_i (w := wR cA h) fin hf hW dX12_rise_26
    · have hf := zf c8 hf
      refine lv_aload_n (pc := 15) hx hb dX12_rise_15 rfl (lv_at hl 0 rfl) ?_
      refine lv_iload_n (pc := 16) hx hb dX12_rise_16 rfl (lv_at hl 1 rfl) ?_
      refine lv_iload_n (pc := 17) hx hb dX12_rise_17 rfl (lv_at hl 2 rfl) ?_
      obtain ⟨r9, S10, e11, hf⟩ := zB_e hf
      refine zcVi zTr_ok (As := [.int p1, .int p2]) (pc := 18) C0 hW (kX12_riseBy l D cA h H.size N p1 p2 S2 r9 S10 e11) (cwV 2 hts (zgV gaR mR_182 mR_183 mR_184 mR_46 mR_172) rfl rfl rfl (by decide +kernel) ⟨Nat.le_of_ble_eq_true rfl, Nat.le_of_ble_eq_true rfl⟩) (va_recv hW.1 hW.2.1 (ci := 12) (q0 := 0) rfl rfl) rfl hl.1 rfl (Nat.le_of_ble_eq_true rfl) dX12_rise_18 (fun H locs hW => ?_)
      refine lv_goto (pc := 21) (tgt := 26) hx hb dX12_rise_21 (by decide) ?_
      exact zend_i (w := wR cA h) fin hf hW dX12_rise_26

def fX12_depthAt (p1 : Int32) (p2 : Int32) (p3 : Int32) (S : zSt) : Option (Int32 × zSt) :=
  if zin ((36 * p1) + (3 * p2)) 252 then zL (((S.2.1 6 (Int32.toNatClampNeg ((36 * p1) + (3 * p2)))) + p3)) fun (x2 : Int32) => if 0 ≤ x2 then (some (x2, S)) else (some (0, S)) else none
abbrev wX12_depthAt : List Cond := Cond.code yX12_depthAt cX12_depthAt 5 (some .int) :: waR
abbrev rmX12_depthAt : Room := { frames := 0, cells := 0, slots := 0, locals := 0 }
set_option maxHeartbeats 4000000 in
set_option maxRecDepth 100000 in
theorem kX12_depthAt (l : Launch) (D : va_G) (cA : Nat → ClassId) (h : Nat → Nat) (sz : Nat)  (p1 : Int32) (p2 : Int32) (p3 : Int32) (S : zSt) (r : Int32) (S1 : zSt) (hf : fX12_depthAt p1 p2 p3 S = some (r, S1)) : zMi l yX12_depthAt wX12_depthAt rmX12_depthAt zTr D (tR cA) (hsR h) [.ref (h 0), .int p1, .int p2, .int p3] (wR cA h S) (wR cA h S1) sz r := by
  refine zEn_i (cc := cX12_depthAt) (maxL := 5) (own := RX12) (by decide) rfl rfl (hmR cA h S) (Nat.le_of_ble_eq_true rfl) ?_
  intro p e s m args below meth c Q H locs C0 hW fin ls hl
  have hl : lv_has ls 5 [(0, .ref (h 0)), (1, .int p1), (2, .int p2), (3, .int p3)] := hl
  have hx := C0.1
  have hb := C0.2.1
  have hown := C0.2.2.2.1
  have hts := C0.2.2.2.2
  unfold fX12_depthAt at hf
  refine lv_aload_n (pc := 0) hx hb dX12_depthAt_0 rfl (lv_at hl 0 rfl) ?_
  refine rg_6 (pc := 1) C0 hu_12 hW mR_9 dX12_depthAt_1 ?_
  refine lv_bipush (pc := 4) (v := 36) hx hb dX12_depthAt_4 (by decide) ?_
  refine lv_iload_n (pc := 6) hx hb dX12_depthAt_6 rfl (lv_at hl 1 rfl) ?_
  refine lv_imul (pc := 7) hx hb dX12_depthAt_7 ?_
  refine lv_iconst (pc := 8) (v := 3) hx hb dX12_depthAt_8 (by decide) ?_
  refine lv_iload_n (pc := 9) hx hb dX12_depthAt_9 rfl (lv_at hl 2 rfl) ?_
  refine lv_imul (pc := 10) hx hb dX12_depthAt_10 ?_
  refine lv_iadd (pc := 11) hx hb dX12_depthAt_11 ?_
  obtain ⟨i1, hf⟩ := zn hf
  refine rl_6 (pc := 12) C0 hW i1 dX12_depthAt_12 ?_
  refine lv_iload_n (pc := 13) hx hb dX12_depthAt_13 rfl (lv_at hl 3 rfl) ?_
  refine lv_iadd (pc := 14) hx hb dX12_depthAt_14 ?_
  obtain ⟨x2, e_x2, hf⟩ := zL_e hf
  refine ztopi e_x2 ?_
  refine lv_istore (pc := 15) (lv' := [(4, .int x2), (0, .ref (h 0)), (1, .int p1), (2, .int p2), (3, .int p3)]) hx hb dX12_depthAt_15 hl (by decide) rfl (fun ls hl => ?_)
  refine lv_iload (pc := 17) hx hb dX12_depthAt_17 (lv_at hl 0 rfl) ?_
  refine lv_if_ge (pc := 19) (tgt := 26) hx hb dX12_depthAt_19 (by decide) (fun c3 => ?_) (fun c3 => ?_)
  · have hf := zt c3 hf
    refine lv_iload (pc := 26) hx hb dX12_depthAt_26 (lv_at hl 0 rfl) ?_
    exact zend_i (w := wR cA h) fin hf hW dX12_depthAt_28
  · have hf := zf c3 hf
    refine lv_iconst (pc := 22) (v := 0) hx hb dX12_depthAt_22 (by decide) ?_
    refine lv_goto (pc := 23) (tgt := 28) hx hb dX12_depthAt_23 (by decide) ?_
    exact zend_i (w := wR cA h) fin hf hW dX12_depthAt_28

def fX12_paceAt (p1 : Int32) (p2 : Int32) (p3 : Int32) (S : zSt) : Option (Int32 × zSt) :=
  if zin (((36 * p1) + (3 * p2)) + 1) 252 then some ((((S.2.1 6 (Int32.toNatClampNeg (((36 * p1) + (3 * p2)) + 1))) * (20 + p3)) / 20), S) else none
abbrev wX12_paceAt : List Cond := Cond.code yX12_paceAt cX12_paceAt 4 (some .int) :: waR
abbrev rmX12_paceAt : Room := { frames := 0, cells := 0, slots := 0, locals := 0 }
set_option maxHeartbeats 4000000 in
set_option maxRecDepth 100000 in
theorem kX12_paceAt (l : Launch) (D : va_G) (cA : Nat → ClassId) (h : Nat → Nat) (sz : Nat)  (p1 : Int32) (p2 : Int32) (p3 : Int32) (S : zSt) (r : Int32) (S1 : zSt) (hf : fX12_paceAt p1 p2 p3 S = some (r, S1)) : zMi l yX12_paceAt wX12_paceAt rmX12_paceAt zTr D (tR cA) (hsR h) [.ref (h 0), .int p1, .int p2, .int p3] (wR cA h S) (wR cA h S1) sz r := by
  refine zEn_i (cc := cX12_paceAt) (maxL := 4) (own := RX12) (by decide) rfl rfl (hmR cA h S) (Nat.le_of_ble_eq_true rfl) ?_
  intro p e s m args below meth c Q H locs C0 hW fin ls hl
  have hl : lv_has ls 4 [(0, .ref (h 0)), (1, .int p1), (2, .int p2), (3, .int p3)] := hl
  have hx := C0.1
  have hb := C0.2.1
  have hown := C0.2.2.2.1
  have hts := C0.2.2.2.2
  unfold fX12_paceAt at hf
  refine lv_aload_n (pc := 0) hx hb dX12_paceAt_0 rfl (lv_at hl 0 rfl) ?_
  refine rg_6 (pc := 1) C0 hu_12 hW mR_9 dX12_paceAt_1 ?_
  refine lv_bipush (pc := 4) (v := 36) hx hb dX12_paceAt_4 (by decide) ?_
  refine lv_iload_n (pc := 6) hx hb dX12_paceAt_6 rfl (lv_at hl 1 rfl) ?_
  refine lv_imul (pc := 7) hx hb dX12_paceAt_7 ?_
  refine lv_iconst (pc := 8) (v := 3) hx hb dX12_paceAt_8 (by decide) ?_
  refine lv_iload_n (pc := 9) hx hb dX12_paceAt_9 rfl (lv_at hl 2 rfl) ?_
  refine lv_imul (pc := 10) hx hb dX12_paceAt_10 ?_
  refine lv_iadd (pc := 11) hx hb dX12_paceAt_11 ?_
  refine lv_iconst (pc := 12) (v := 1) hx hb dX12_paceAt_12 (by decide) ?_
  refine lv_iadd (pc := 13) hx hb dX12_paceAt_13 ?_
  obtain ⟨i1, hf⟩ := zn hf
  refine rl_6 (pc := 14) C0 hW i1 dX12_paceAt_14 ?_
  refine lv_bipush (pc := 15) (v := 20) hx hb dX12_paceAt_15 (by decide) ?_
  refine lv_iload_n (pc := 17) hx hb dX12_paceAt_17 rfl (lv_at hl 3 rfl) ?_
  refine lv_iadd (pc := 18) hx hb dX12_paceAt_18 ?_
  refine lv_imul (pc := 19) hx hb dX12_paceAt_19 ?_
  refine lv_bipush (pc := 20) (v := 20) hx hb dX12_paceAt_20 (by decide) ?_
  refine lv_idiv (pc := 22) hx hb dX12_paceAt_22 (by decide) ?_
  exact zend_i (w := wR cA h) fin hf hW dX12_paceAt_23

def fX12_cell_b79 (N : Nat) (v1 : Int32) (v2 : Int32) (v3 : Int32) (v4 : Int32) (S : zSt) : Option (Int32 × zSt) :=
  if 3 ≤ v3 then (zB (fX12_riseBy N (S.1 25) v4 S) fun r2 S3 => if v3 = 3 then (zB (fX12_depthAt v1 v2 r2 S3) fun r9 S10 => some (r9, S10)) else (zB (fX12_paceAt v1 v2 r2 S3) fun r6 S7 => some (r6, S7))) else (if zin (((36 * v1) + (3 * v2)) + v3) 252 then some ((S.2.1 6 (Int32.toNatClampNeg (((36 * v1) + (3 * v2)) + v3))), S) else none)
def fX12_cell (N : Nat) (p1 : Int32) (p2 : Int32) (p3 : Int32) (p4 : Int32) (S : zSt) : Option (Int32 × zSt) :=
  if p2 = (-1) then (zB (fX12_isPlace p1 S) fun r27 S28 => if r27 = 0 then (some ((-1), S28)) else (if p3 = 0 then (if zin p1 7 then some ((S28.2.1 4 (Int32.toNatClampNeg p1)), S28) else none) else (if p3 = 1 then (if zin p1 7 then some ((S28.2.1 5 (Int32.toNatClampNeg p1)), S28) else none) else (some ((-1), S28))))) else (zB (fX12_isCell p1 p2 S) fun r14 S15 => if r14 = 0 then (some ((-1), S15)) else (zU (fX12_in p3 0 4) fun r18 => if r18 = 0 then (some ((-1), S15)) else (if p3 ≤ 2 then (fX12_cell_b79 N p1 p2 p3 p4 S15) else (zU (fX12_isHour p4) fun r23 => if r23 = 0 then (some ((-1), S15)) else (fX12_cell_b79 N p1 p2 p3 p4 S15)))))
abbrev wX12_cell : List Cond := Cond.code yX12_cell cX12_cell 6 (some .int) :: waR
abbrev rmX12_cell : Room := { frames := 4, cells := 0, slots := 0, locals := 93 }
set_option maxHeartbeats 4000000 in
set_option maxRecDepth 100000 in
theorem kX12_cell (l : Launch) (D : va_G) (cA : Nat → ClassId) (h : Nat → Nat) (sz : Nat) (N : Nat)  (p1 : Int32) (p2 : Int32) (p3 : Int32) (p4 : Int32) (S : zSt) (r : Int32) (S1 : zSt) (hf : fX12_cell N p1 p2 p3 p4 S = some (r, S1)) : zMi l yX12_cell wX12_cell rmX12_cell zTr D (tR cA) (hsR h) [.ref (h 0), .int p1, .int p2, .int p3, .int p4] (wR cA h S) (wR cA h S1) sz r := by
  refine zEn_i (cc := cX12_cell) (maxL := 6) (own := RX12) (by decide) rfl rfl (hmR cA h S) (Nat.le_of_ble_eq_true rfl) ?_
  intro p e s m args below meth c Q H locs C0 hW fin ls hl
  have hl : lv_has ls 6 [(0, .ref (h 0)), (1, .int p1), (2, .int p2), (3, .int p3), (4, .int p4)] := hl
  have hx := C0.1
  have hb := C0.2.1
  have hown := C0.2.2.2.1
  have hts := C0.2.2.2.2
  have w79 : ∀ (v1 : Int32) (v2 : Int32) (v3 : Int32) (v4 : Int32) (S : zSt) (H : Heap) (locs : List Loc), zW zTr D (tR cA) (wR cA h S) (aW (hsR h) s.heap.size) s H locs → ∀ ls : Array Slot, lv_has ls 6 [(0, .ref (h 0)), (1, .int v1), (2, .int v2), (3, .int v3), (4, .int v4)] → fX12_cell_b79 N v1 v2 v3 v4 S = some (r, S1) → W p l e rmX12_cell s m args below meth c H locs 0 0 Q (F0 m 79 ls []) := by
    intro v1 v2 v3 v4 S H locs hW ls hl hf
    unfold fX12_cell_b79 at hf
    refine lv_iload_n (pc := 79) hx hb dX12_cell_79 rfl (lv_at hl 3 rfl) ?_
    refine lv_iconst (pc := 80) (v := 3) hx hb dX12_cell_80 (by decide) ?_
    refine lv_icmp_ge (pc := 81) (tgt := 100) hx hb dX12_cell_81 (by decide) (fun c1 => ?_) (fun c1 => ?_)
    · have hf := zt c1 hf
      refine lv_aload_n (pc := 100) hx hb dX12_cell_100 rfl (lv_at hl 0 rfl) ?_
      refine lv_aload_n (pc := 101) hx hb dX12_cell_101 rfl (lv_at hl 0 rfl) ?_
      refine rg_25 (pc := 102) C0 hu_12 hW mR_22 dX12_cell_102 ?_
      refine lv_iload (pc := 105) hx hb dX12_cell_105 (lv_at hl 4 rfl) ?_
      obtain ⟨r2, S3, e4, hf⟩ := zB_e hf
      refine zcVi zTr_ok (As := [.int (S.1 25), .int v4]) (pc := 107) C0 hW (kX12_riseBy l D cA h H.size N (S.1 25) v4 S r2 S3 e4) (cwV 2 hts (zgV gaR mR_182 mR_183 mR_184 mR_46 mR_172) rfl rfl rfl (by decide +kernel) ⟨Nat.le_of_ble_eq_true rfl, Nat.le_of_ble_eq_true rfl⟩) (va_recv hW.1 hW.2.1 (ci := 12) (q0 := 0) rfl rfl) rfl hl.1 rfl (Nat.le_of_ble_eq_true rfl) dX12_cell_107 (fun H locs hW => ?_)
      refine lv_istore (pc := 110) (lv' := [(5, .int r2), (0, .ref (h 0)), (1, .int v1), (2, .int v2), (3, .int v3), (4, .int v4)]) hx hb dX12_cell_110 hl (by decide) rfl (fun ls hl => ?_)
      refine lv_iload_n (pc := 112) hx hb dX12_cell_112 rfl (lv_at hl 4 rfl) ?_
      refine lv_iconst (pc := 113) (v := 3) hx hb dX12_cell_113 (by decide) ?_
      refine lv_icmp_ne (pc := 114) (tgt := 128) hx hb dX12_cell_114 (by decide) (fun c5 => ?_) (fun c5 => ?_)
      · have hf := zf c5 hf
        refine lv_aload_n (pc := 128) hx hb dX12_cell_128 rfl (lv_at hl 1 rfl) ?_
        refine lv_iload_n (pc := 129) hx hb dX12_cell_129 rfl (lv_at hl 2 rfl) ?_
        refine lv_iload_n (pc := 130) hx hb dX12_cell_130 rfl (lv_at hl 3 rfl) ?_
        refine lv_iload (pc := 131) hx hb dX12_cell_131 (lv_at hl 0 rfl) ?_
        obtain ⟨r6, S7, e8, hf⟩ := zB_e hf
        refine zcVi zTr_ok (As := [.int v1, .int v2, .int r2]) (pc := 133) C0 hW (kX12_paceAt l D cA h H.size v1 v2 r2 S3 r6 S7 e8) (cwV 3 hts (zgV gaR mR_191 mR_192 mR_193 mR_46 mR_186) rfl rfl rfl (by decide +kernel) ⟨Nat.le_of_ble_eq_true rfl, Nat.le_of_ble_eq_true rfl⟩) (va_recv hW.1 hW.2.1 (ci := 12) (q0 := 0) rfl rfl) rfl hl.1 rfl (Nat.le_of_ble_eq_true rfl) dX12_cell_133 (fun H locs hW => ?_)
        exact zend_i (w := wR cA h) fin hf hW dX12_cell_136
      · have hf := zt c5 hf
        refine lv_aload_n (pc := 117) hx hb dX12_cell_117 rfl (lv_at hl 1 rfl) ?_
        refine lv_iload_n (pc := 118) hx hb dX12_cell_118 rfl (lv_at hl 2 rfl) ?_
        refine lv_iload_n (pc := 119) hx hb dX12_cell_119 rfl (lv_at hl 3 rfl) ?_
        refine lv_iload (pc := 120) hx hb dX12_cell_120 (lv_at hl 0 rfl) ?_
        obtain ⟨r9, S10, e11, hf⟩ := zB_e hf
        refine zcVi zTr_ok (As := [.int v1, .int v2, .int r2]) (pc := 122) C0 hW (kX12_depthAt l D cA h H.size v1 v2 r2 S3 r9 S10 e11) (cwV 3 hts (zgV gaR mR_188 mR_189 mR_190 mR_46 mR_185) rfl rfl rfl (by decide +kernel) ⟨Nat.le_of_ble_eq_true rfl, Nat.le_of_ble_eq_true rfl⟩) (va_recv hW.1 hW.2.1 (ci := 12) (q0 := 0) rfl rfl) rfl hl.1 rfl (Nat.le_of_ble_eq_true rfl) dX12_cell_122 (fun H locs hW => ?_)
        refine lv_goto (pc := 125) (tgt := 136) hx hb dX12_cell_125 (by decide) ?_
        exact zend_i (w := wR cA h) fin hf hW dX12_cell_136
    · have hf := zf c1 hf
      refine lv_aload_n (pc := 84) hx hb dX12_cell_84 rfl (lv_at hl 0 rfl) ?_
      refine rg_6 (pc := 85) C0 hu_12 hW mR_9 dX12_cell_85 ?_
      refine lv_bipush (pc := 88) (v := 36) hx hb dX12_cell_88 (by decide) ?_
      refine lv_iload_n (pc := 90) hx hb dX12_cell_90 rfl (lv_at hl 1 rfl) ?_
      refine lv_imul (pc := 91) hx hb dX12_cell_91 ?_
      refine lv_iconst (pc := 92) (v := 3) hx hb dX12_cell_92 (by decide) ?_
      refine lv_iload_n (pc := 93) hx hb dX12_cell_93 rfl (lv_at hl 2 rfl) ?_
      refine lv_imul (pc := 94) hx hb dX12_cell_94 ?_
      refine lv_iadd (pc := 95) hx hb dX12_cell_95 ?_
      refine lv_iload_n (pc := 96) hx hb dX12_cell_96 rfl (lv_at hl 3 rfl) ?_
      refine lv_iadd (pc := 97) hx hb dX12_cell_97 ?_
      obtain ⟨i12, hf⟩ := zn hf
      refine rl_6 (pc := 98) C0 hW i12 dX12_cell_98 ?_
      exact zend_i (w := wR cA h) fin hf hW dX12_cell_99
  unfold fX12_cell at hf
  refine lv_iload_n (pc := 0) hx hb dX12_cell_0 rfl (lv_at hl 2 rfl) ?_
  refine lv_iconst (pc := 1) (v := (-1)) hx hb dX12_cell_1 (by decide) ?_
  refine lv_icmp_ne (pc := 2) (tgt := 46) hx hb dX12_cell_2 (by decide) (fun c13 => ?_) (fun c13 => ?_)
  · have hf := zf c13 hf
    refine lv_aload_n (pc := 46) hx hb dX12_cell_46 rfl (lv_at hl 0 rfl) ?_
    refine lv_iload_n (pc := 47) hx hb dX12_cell_47 rfl (lv_at hl 1 rfl) ?_
    refine lv_iload_n (pc := 48) hx hb dX12_cell_48 rfl (lv_at hl 2 rfl) ?_
    obtain ⟨r14, S15, e16, hf⟩ := zB_e hf
    refine zcVi zTr_ok (As := [.int p1, .int p2]) (pc := 49) C0 hW (kX12_isCell l D cA h H.size p1 p2 S r14 S15 e16) (cwV 2 hts (zgV gaR mR_90 mR_91 mR_92 mR_46 mR_49) rfl rfl rfl (by decide +kernel) ⟨Nat.le_of_ble_eq_true rfl, Nat.le_of_ble_eq_true rfl⟩) (va_recv hW.1 hW.2.1 (ci := 12) (q0 := 0) rfl rfl) rfl hl.1 rfl (Nat.le_of_ble_eq_true rfl) dX12_cell_49 (fun H locs hW => ?_)
    refine lv_if_eq (pc := 52) (tgt := 77) hx hb dX12_cell_52 (by decide) (fun c17 => ?_) (fun c17 => ?_)
    · have hf := zt c17 hf
      refine lv_iconst (pc := 77) (v := (-1)) hx hb dX12_cell_77 (by decide) ?_
      exact zend_i (w := wR cA h) fin hf hW dX12_cell_78
    · have hf := zf c17 hf
      refine lv_iload_n (pc := 55) hx hb dX12_cell_55 rfl (lv_at hl 3 rfl) ?_
      refine lv_iconst (pc := 56) (v := 0) hx hb dX12_cell_56 (by decide) ?_
      refine lv_iconst (pc := 57) (v := 4) hx hb dX12_cell_57 (by decide) ?_
      obtain ⟨r18, e20, hf⟩ := zU_e hf
      refine zcSi (As := [.int p3, .int 0, .int 4]) (pc := 58) C0 hW (kX12_in l H.size p3 0 4 r18 e20) (va_cwS 3 hts (zgS gaR mR_44 mR_45 mR_46 mR_39) rfl rfl rfl (by decide +kernel) ⟨Nat.le_of_ble_eq_true rfl, Nat.le_of_ble_eq_true rfl⟩) rfl hl.1 rfl (Nat.le_of_ble_eq_true rfl) dX12_cell_58 (fun H locs hW => ?_)
      refine lv_if_eq (pc := 61) (tgt := 77) hx hb dX12_cell_61 (by decide) (fun c21 => ?_) (fun c21 => ?_)
      · have hf := zt c21 hf
        refine lv_iconst (pc := 77) (v := (-1)) hx hb dX12_cell_77 (by decide) ?_
        exact zend_i (w := wR cA h) fin hf hW dX12_cell_78
      · have hf := zf c21 hf
        refine lv_iload_n (pc := 64) hx hb dX12_cell_64 rfl (lv_at hl 3 rfl) ?_
        refine lv_iconst (pc := 65) (v := 2) hx hb dX12_cell_65 (by decide) ?_
        refine lv_icmp_le (pc := 66) (tgt := 79) hx hb dX12_cell_66 (by decide) (fun c22 => ?_) (fun c22 => ?_)
        · have hf := zt c22 hf
          exact w79 p1 p2 p3 p4 S15 H locs hW ls (lv_sub hl [0, 1, 2, 3, 4] rfl) hf
        · have hf := zf c22 hf
          refine lv_iload (pc := 69) hx hb dX12_cell_69 (lv_at hl 4 rfl) ?_
          obtain ⟨r23, e25, hf⟩ := zU_e hf
          refine zcSi (As := [.int p4]) (pc := 71) C0 hW (kX12_isHour l H.size p4 r23 e25) (va_cwS 1 hts (zgS gaR mR_180 mR_181 mR_46 mR_160) rfl rfl rfl (by decide +kernel) ⟨Nat.le_of_ble_eq_true rfl, Nat.le_of_ble_eq_true rfl⟩) rfl hl.1 rfl (Nat.le_of_ble_eq_true rfl) dX12_cell_71 (fun H locs hW => ?_)
          refine lv_if_ne (pc := 74) (tgt := 79) hx hb dX12_cell_74 (by decide) (fun c26 => ?_) (fun c26 => ?_)
          · have hf := zf c26 hf
            exact w79 p1 p2 p3 p4 S15 H locs hW ls (lv_sub hl [0, 1, 2, 3, 4] rfl) hf
          · have hf := zt c26 hf
            refine lv_iconst (pc := 77) (v := (-1)) hx hb dX12_cell_77 (by decide) ?_
            exact zend_i (w := wR cA h) fin hf hW dX12_cell_78
  · have hf := zt c13 hf
    refine lv_aload_n (pc := 5) hx hb dX12_cell_5 rfl (lv_at hl 0 rfl) ?_
    refine lv_iload_n (pc := 6) hx hb dX12_cell_6 rfl (lv_at hl 1 rfl) ?_
    obtain ⟨r27, S28, e29, hf⟩ := zB_e hf
    refine zcVi zTr_ok (As := [.int p1]) (pc := 7) C0 hW (kX12_isPlace l D cA h H.size p1 S r27 S28 e29) (cwV 1 hts (zgV gaR mR_50 mR_51 mR_52 mR_46 mR_47) rfl rfl rfl (by decide +kernel) ⟨Nat.le_of_ble_eq_true rfl, Nat.le_of_ble_eq_true rfl⟩) (va_recv hW.1 hW.2.1 (ci := 12) (q0 := 0) rfl rfl) rfl hl.1 rfl (Nat.le_of_ble_eq_true rfl) dX12_cell_7 (fun H locs hW => ?_)
    refine lv_if_ne (pc := 10) (tgt := 17) hx hb dX12_cell_10 (by decide) (fun c30 => ?_) (fun c30 => ?_)
    · have hf := zf c30 hf
      refine lv_iload_n (pc := 17) hx hb dX12_cell_17 rfl (lv_at hl 3 rfl) ?_
      refine lv_if_ne (pc := 18) (tgt := 30) hx hb dX12_cell_18 (by decide) (fun c31 => ?_) (fun c31 => ?_)
      · have hf := zf c31 hf
        refine lv_iload_n (pc := 30) hx hb dX12_cell_30 rfl (lv_at hl 3 rfl) ?_
        refine lv_iconst (pc := 31) (v := 1) hx hb dX12_cell_31 (by decide) ?_
        refine lv_icmp_ne (pc := 32) (tgt := 44) hx hb dX12_cell_32 (by decide) (fun c32 => ?_) (fun c32 => ?_)
        · have hf := zf c32 hf
          refine lv_iconst (pc := 44) (v := (-1)) hx hb dX12_cell_44 (by decide) ?_
          exact zend_i (w := wR cA h) fin hf hW dX12_cell_45
        · have hf := zt c32 hf
          refine lv_aload_n (pc := 35) hx hb dX12_cell_35 rfl (lv_at hl 0 rfl) ?_
          refine rg_5 (pc := 36) C0 hu_12 hW mR_8 dX12_cell_36 ?_
          refine lv_iload_n (pc := 39) hx hb dX12_cell_39 rfl (lv_at hl 1 rfl) ?_
          obtain ⟨i33, hf⟩ := zn hf
          refine rl_5 (pc := 40) C0 hW i33 dX12_cell_40 ?_
          refine lv_goto (pc := 41) (tgt := 45) hx hb dX12_cell_41 (by decide) ?_
          exact zend_i (w := wR cA h) fin hf hW dX12_cell_45
      · have hf := zt c31 hf
        refine lv_aload_n (pc := 21) hx hb dX12_cell_21 rfl (lv_at hl 0 rfl) ?_
        refine rg_4 (pc := 22) C0 hu_12 hW mR_7 dX12_cell_22 ?_
        refine lv_iload_n (pc := 25) hx hb dX12_cell_25 rfl (lv_at hl 1 rfl) ?_
        obtain ⟨i34, hf⟩ := zn hf
        refine rl_4 (pc := 26) C0 hW i34 dX12_cell_26 ?_
        refine lv_goto (pc := 27) (tgt := 45) hx hb dX12_cell_27 (by decide) ?_
        exact zend_i (w := wR cA h) fin hf hW dX12_cell_45
    · have hf := zt c30 hf
      refine lv_iconst (pc := 13) (v := (-1)) hx hb dX12_cell_13 (by decide) ?_
      refine lv_goto (pc := 14) (tgt := 45) hx hb dX12_cell_14 (by decide) ?_
      exact zend_i (w := wR cA h) fin hf hW dX12_cell_45

def fX12_isPerson (p1 : Int32) (S : zSt) : Option (Int32 × zSt) :=
  zU (fX12_in p1 0 ((S.1 28) - 1)) fun r1 => if zbit r1 then some (r1, S) else none
abbrev wX12_isPerson : List Cond := Cond.code yX12_isPerson cX12_isPerson 2 (some .boolean) :: waR
abbrev rmX12_isPerson : Room := { frames := 1, cells := 0, slots := 0, locals := 22 }
set_option maxHeartbeats 4000000 in
set_option maxRecDepth 100000 in
theorem kX12_isPerson (l : Launch) (D : va_G) (cA : Nat → ClassId) (h : Nat → Nat) (sz : Nat)  (p1 : Int32) (S : zSt) (r : Int32) (S1 : zSt) (hf : fX12_isPerson p1 S = some (r, S1)) : zMi l yX12_isPerson wX12_isPerson rmX12_isPerson zTr D (tR cA) (hsR h) [.ref (h 0), .int p1] (wR cA h S) (wR cA h S1) sz r := by
  refine zEn_z (cc := cX12_isPerson) (maxL := 2) (own := RX12) (by decide) rfl rfl (hmR cA h S) (Nat.le_of_ble_eq_true rfl) ?_
  intro p e s m args below meth c Q H locs C0 hW fin ls hl
  have hl : lv_has ls 2 [(0, .ref (h 0)), (1, .int p1)] := hl
  have hx := C0.1
  have hb := C0.2.1
  have hown := C0.2.2.2.1
  have hts := C0.2.2.2.2
  unfold fX12_isPerson at hf
  refine lv_iload_n (pc := 0) hx hb dX12_isPerson_0 rfl (lv_at hl 1 rfl) ?_
  refine lv_iconst (pc := 1) (v := 0) hx hb dX12_isPerson_1 (by decide) ?_
  refine lv_aload_n (pc := 2) hx hb dX12_isPerson_2 rfl (lv_at hl 0 rfl) ?_
  refine rg_28 (pc := 3) C0 hu_12 hW mR_195 dX12_isPerson_3 ?_
  refine lv_iconst (pc := 6) (v := 1) hx hb dX12_isPerson_6 (by decide) ?_
  refine lv_isub (pc := 7) hx hb dX12_isPerson_7 ?_
  obtain ⟨r1, e3, hf⟩ := zU_e hf
  refine zcSi (As := [.int p1, .int 0, .int ((S.1 28) - 1)]) (pc := 8) C0 hW (kX12_in l H.size p1 0 ((S.1 28) - 1) r1 e3) (va_cwS 3 hts (zgS gaR mR_44 mR_45 mR_46 mR_39) rfl rfl rfl (by decide +kernel) ⟨Nat.le_of_ble_eq_true rfl, Nat.le_of_ble_eq_true rfl⟩) rfl hl.1 rfl (Nat.le_of_ble_eq_true rfl) dX12_isPerson_8 (fun H locs hW => ?_)
  obtain ⟨i4, hf⟩ := zn hf
  exact zend_z (w := wR cA h) fin hf i4 hW dX12_isPerson_11

def fX12_person (p1 : Int32) (p2 : Int32) (S : zSt) : Option (Int32 × zSt) :=
  if p1 < 0 then (some ((-1), S)) else (if p2 < 0 then (some ((-1), S)) else (zU (fX12_in (p1 / 100) 30 120) fun r3 => if r3 = 0 then (some ((-1), S)) else (zU (fX12_in (p1 - p1 / 100 * 100) 10 22) fun r7 => if r7 = 0 then (some ((-1), S)) else (if 9 < (p2 / 100) then (some ((-1), S)) else (if (p2 - p2 / 100 * 100) ≤ 40 then (if (S.1 28) = 8 then (some ((-3), S)) else (if zin (S.1 28) 8 then zL (zA S 29 (Int32.toNatClampNeg (S.1 28)) (p1 / 100)) fun S15 => if zin (S15.1 28) 8 then zL (zA S15 30 (Int32.toNatClampNeg (S15.1 28)) (p1 - p1 / 100 * 100)) fun S17 => if zin (S17.1 28) 8 then zL (zA S17 31 (Int32.toNatClampNeg (S17.1 28)) (p2 / 100)) fun S19 => if zin (S19.1 28) 8 then zL (zA S19 32 (Int32.toNatClampNeg (S19.1 28)) (p2 - p2 / 100 * 100)) fun S21 => zL (zI S21 28 ((S21.1 28) + 1)) fun S22 => some (((S22.1 28) - 1), S22) else none else none else none else none)) else (some ((-1), S)))))))
abbrev wX12_person : List Cond := Cond.code yX12_person cX12_person 3 (some .int) :: waR
abbrev rmX12_person : Room := { frames := 1, cells := 0, slots := 0, locals := 22 }
set_option maxHeartbeats 4000000 in
set_option maxRecDepth 100000 in
theorem kX12_person (l : Launch) (D : va_G) (cA : Nat → ClassId) (h : Nat → Nat) (sz : Nat)  (p1 : Int32) (p2 : Int32) (S : zSt) (r : Int32) (S1 : zSt) (hf : fX12_person p1 p2 S = some (r, S1)) : zMi l yX12_person wX12_person rmX12_person zTr D (tR cA) (hsR h) [.ref (h 0), .int p1, .int p2] (wR cA h S) (wR cA h S1) sz r := by
  refine zEn_i (cc := cX12_person) (maxL := 3) (own := RX12) (by decide) rfl rfl (hmR cA h S) (Nat.le_of_ble_eq_true rfl) ?_
  intro p e s m args below meth c Q H locs C0 hW fin ls hl
  have hl : lv_has ls 3 [(0, .ref (h 0)), (1, .int p1), (2, .int p2)] := hl
  have hx := C0.1
  have hb := C0.2.1
  have hown := C0.2.2.2.1
  have hts := C0.2.2.2.2
  unfold fX12_person at hf
  refine lv_iload_n (pc := 0) hx hb dX12_person_0 rfl (lv_at hl 1 rfl) ?_
  refine lv_if_lt (pc := 1) (tgt := 54) hx hb dX12_person_1 (by decide) (fun c1 => ?_) (fun c1 => ?_)
  · have hf := zt c1 hf
    refine lv_iconst (pc := 54) (v := (-1)) hx hb dX12_person_54 (by decide) ?_
    exact zend_i (w := wR cA h) fin hf hW dX12_person_55
  · have hf := zf c1 hf
    refine lv_iload_n (pc := 4) hx hb dX12_person_4 rfl (lv_at hl 2 rfl) ?_
    refine lv_if_lt (pc := 5) (tgt := 54) hx hb dX12_person_5 (by decide) (fun c2 => ?_) (fun c2 => ?_)
    · have hf := zt c2 hf
      refine lv_iconst (pc := 54) (v := (-1)) hx hb dX12_person_54 (by decide) ?_
      exact zend_i (w := wR cA h) fin hf hW dX12_person_55
    · have hf := zf c2 hf
      refine lv_iload_n (pc := 8) hx hb dX12_person_8 rfl (lv_at hl 1 rfl) ?_
      refine lv_bipush (pc := 9) (v := 100) hx hb dX12_person_9 (by decide) ?_
      refine lv_idiv (pc := 11) hx hb dX12_person_11 (by decide) ?_
      refine lv_bipush (pc := 12) (v := 30) hx hb dX12_person_12 (by decide) ?_
      refine lv_bipush (pc := 14) (v := 120) hx hb dX12_person_14 (by decide) ?_
      obtain ⟨r3, e5, hf⟩ := zU_e hf
      refine zcSi (As := [.int (p1 / 100), .int 30, .int 120]) (pc := 16) C0 hW (kX12_in l H.size (p1 / 100) 30 120 r3 e5) (va_cwS 3 hts (zgS gaR mR_44 mR_45 mR_46 mR_39) rfl rfl rfl (by decide +kernel) ⟨Nat.le_of_ble_eq_true rfl, Nat.le_of_ble_eq_true rfl⟩) rfl hl.1 rfl (Nat.le_of_ble_eq_true rfl) dX12_person_16 (fun H locs hW => ?_)
      refine lv_if_eq (pc := 19) (tgt := 54) hx hb dX12_person_19 (by decide) (fun c6 => ?_) (fun c6 => ?_)
      · have hf := zt c6 hf
        refine lv_iconst (pc := 54) (v := (-1)) hx hb dX12_person_54 (by decide) ?_
        exact zend_i (w := wR cA h) fin hf hW dX12_person_55
      · have hf := zf c6 hf
        refine lv_iload_n (pc := 22) hx hb dX12_person_22 rfl (lv_at hl 1 rfl) ?_
        refine lv_bipush (pc := 23) (v := 100) hx hb dX12_person_23 (by decide) ?_
        refine lv_irem (pc := 25) hx hb dX12_person_25 (by decide) ?_
        refine lv_bipush (pc := 26) (v := 10) hx hb dX12_person_26 (by decide) ?_
        refine lv_bipush (pc := 28) (v := 22) hx hb dX12_person_28 (by decide) ?_
        obtain ⟨r7, e9, hf⟩ := zU_e hf
        refine zcSi (As := [.int (p1 - p1 / 100 * 100), .int 10, .int 22]) (pc := 30) C0 hW (kX12_in l H.size (p1 - p1 / 100 * 100) 10 22 r7 e9) (va_cwS 3 hts (zgS gaR mR_44 mR_45 mR_46 mR_39) rfl rfl rfl (by decide +kernel) ⟨Nat.le_of_ble_eq_true rfl, Nat.le_of_ble_eq_true rfl⟩) rfl hl.1 rfl (Nat.le_of_ble_eq_true rfl) dX12_person_30 (fun H locs hW => ?_)
        refine lv_if_eq (pc := 33) (tgt := 54) hx hb dX12_person_33 (by decide) (fun c10 => ?_) (fun c10 => ?_)
        · have hf := zt c10 hf
          refine lv_iconst (pc := 54) (v := (-1)) hx hb dX12_person_54 (by decide) ?_
          exact zend_i (w := wR cA h) fin hf hW dX12_person_55
        · have hf := zf c10 hf
          refine lv_iload_n (pc := 36) hx hb dX12_person_36 rfl (lv_at hl 2 rfl) ?_
          refine lv_bipush (pc := 37) (v := 100) hx hb dX12_person_37 (by decide) ?_
          refine lv_idiv (pc := 39) hx hb dX12_person_39 (by decide) ?_
          refine lv_bipush (pc := 40) (v := 9) hx hb dX12_person_40 (by decide) ?_
          refine lv_icmp_gt (pc := 42) (tgt := 54) hx hb dX12_person_42 (by decide) (fun c11 => ?_) (fun c11 => ?_)
          · have hf := zt c11 hf
            refine lv_iconst (pc := 54) (v := (-1)) hx hb dX12_person_54 (by decide) ?_
            exact zend_i (w := wR cA h) fin hf hW dX12_person_55
          · have hf := zf c11 hf
            refine lv_iload_n (pc := 45) hx hb dX12_person_45 rfl (lv_at hl 2 rfl) ?_
            refine lv_bipush (pc := 46) (v := 100) hx hb dX12_person_46 (by decide) ?_
            refine lv_irem (pc := 48) hx hb dX12_person_48 (by decide) ?_
            refine lv_bipush (pc := 49) (v := 40) hx hb dX12_person_49 (by decide) ?_
            refine lv_icmp_le (pc := 51) (tgt := 56) hx hb dX12_person_51 (by decide) (fun c12 => ?_) (fun c12 => ?_)
            · have hf := zt c12 hf
              refine lv_aload_n (pc := 56) hx hb dX12_person_56 rfl (lv_at hl 0 rfl) ?_
              refine rg_28 (pc := 57) C0 hu_12 hW mR_195 dX12_person_57 ?_
              refine lv_bipush (pc := 60) (v := 8) hx hb dX12_person_60 (by decide) ?_
              refine lv_icmp_ne (pc := 62) (tgt := 68) hx hb dX12_person_62 (by decide) (fun c13 => ?_) (fun c13 => ?_)
              · have hf := zf c13 hf
                refine lv_aload_n (pc := 68) hx hb dX12_person_68 rfl (lv_at hl 0 rfl) ?_
                refine rg_29 (pc := 69) C0 hu_12 hW mR_23 dX12_person_69 ?_
                refine lv_aload_n (pc := 72) hx hb dX12_person_72 rfl (lv_at hl 0 rfl) ?_
                refine rg_28 (pc := 73) C0 hu_12 hW mR_195 dX12_person_73 ?_
                refine lv_iload_n (pc := 76) hx hb dX12_person_76 rfl (lv_at hl 1 rfl) ?_
                refine lv_bipush (pc := 77) (v := 100) hx hb dX12_person_77 (by decide) ?_
                refine lv_idiv (pc := 79) hx hb dX12_person_79 (by decide) ?_
                obtain ⟨i14, hf⟩ := zn hf
                obtain ⟨S15, e_S15, hf⟩ := zL_e hf
                refine rs_29 (pc := 80) C0 hW i14 e_S15 dX12_person_80 (fun H locs hW => ?_)
                refine lv_aload_n (pc := 81) hx hb dX12_person_81 rfl (lv_at hl 0 rfl) ?_
                refine rg_30 (pc := 82) C0 hu_12 hW mR_24 dX12_person_82 ?_
                refine lv_aload_n (pc := 85) hx hb dX12_person_85 rfl (lv_at hl 0 rfl) ?_
                refine rg_28 (pc := 86) C0 hu_12 hW mR_195 dX12_person_86 ?_
                refine lv_iload_n (pc := 89) hx hb dX12_person_89 rfl (lv_at hl 1 rfl) ?_
                refine lv_bipush (pc := 90) (v := 100) hx hb dX12_person_90 (by decide) ?_
                refine lv_irem (pc := 92) hx hb dX12_person_92 (by decide) ?_
                obtain ⟨i16, hf⟩ := zn hf
                obtain ⟨S17, e_S17, hf⟩ := zL_e hf
                refine rs_30 (pc := 93) C0 hW i16 e_S17 dX12_person_93 (fun H locs hW => ?_)
                refine lv_aload_n (pc := 94) hx hb dX12_person_94 rfl (lv_at hl 0 rfl) ?_
                refine rg_31 (pc := 95) C0 hu_12 hW mR_25 dX12_person_95 ?_
                refine lv_aload_n (pc := 98) hx hb dX12_person_98 rfl (lv_at hl 0 rfl) ?_
                refine rg_28 (pc := 99) C0 hu_12 hW mR_195 dX12_person_99 ?_
                refine lv_iload_n (pc := 102) hx hb dX12_person_102 rfl (lv_at hl 2 rfl) ?_
                refine lv_bipush (pc := 103) (v := 100) hx hb dX12_person_103 (by decide) ?_
                refine lv_idiv (pc := 105) hx hb dX12_person_105 (by decide) ?_
                obtain ⟨i18, hf⟩ := zn hf
                obtain ⟨S19, e_S19, hf⟩ := zL_e hf
                refine rs_31 (pc := 106) C0 hW i18 e_S19 dX12_person_106 (fun H locs hW => ?_)
                refine lv_aload_n (pc := 107) hx hb dX12_person_107 rfl (lv_at hl 0 rfl) ?_
                refine rg_32 (pc := 108) C0 hu_12 hW mR_26 dX12_person_108 ?_
                refine lv_aload_n (pc := 111) hx hb dX12_person_111 rfl (lv_at hl 0 rfl) ?_
                refine rg_28 (pc := 112) C0 hu_12 hW mR_195 dX12_person_112 ?_
                refine lv_iload_n (pc := 115) hx hb dX12_person_115 rfl (lv_at hl 2 rfl) ?_
                refine lv_bipush (pc := 116) (v := 100) hx hb dX12_person_116 (by decide) ?_
                refine lv_irem (pc := 118) hx hb dX12_person_118 (by decide) ?_
                obtain ⟨i20, hf⟩ := zn hf
                obtain ⟨S21, e_S21, hf⟩ := zL_e hf
                refine rs_32 (pc := 119) C0 hW i20 e_S21 dX12_person_119 (fun H locs hW => ?_)
                refine lv_aload_n (pc := 120) hx hb dX12_person_120 rfl (lv_at hl 0 rfl) ?_
                refine lv_dup (pc := 121) hx hb dX12_person_121 rfl ?_
                refine rg_28 (pc := 122) C0 hu_12 hW mR_195 dX12_person_122 ?_
                refine lv_iconst (pc := 125) (v := 1) hx hb dX12_person_125 (by decide) ?_
                refine lv_iadd (pc := 126) hx hb dX12_person_126 ?_
                obtain ⟨S22, e_S22, hf⟩ := zL_e hf
                refine rp_28 (pc := 127) C0 hu_12 hW mR_195 e_S22 dX12_person_127 (fun H locs hW => ?_)
                refine lv_aload_n (pc := 130) hx hb dX12_person_130 rfl (lv_at hl 0 rfl) ?_
                refine rg_28 (pc := 131) C0 hu_12 hW mR_195 dX12_person_131 ?_
                refine lv_iconst (pc := 134) (v := 1) hx hb dX12_person_134 (by decide) ?_
                refine lv_isub (pc := 135) hx hb dX12_person_135 ?_
                exact zend_i (w := wR cA h) fin hf hW dX12_person_136
              · have hf := zt c13 hf
                refine lv_bipush (pc := 65) (v := (-3)) hx hb dX12_person_65 (by decide) ?_
                exact zend_i (w := wR cA h) fin hf hW dX12_person_67
            · have hf := zf c12 hf
              refine lv_iconst (pc := 54) (v := (-1)) hx hb dX12_person_54 (by decide) ?_
              exact zend_i (w := wR cA h) fin hf hW dX12_person_55

def fX12_set (N : Nat) (p1 : Int32) (p2 : Int32) (p3 : Int32) (S : zSt) : Option (Int32 × zSt) :=
  zB (fX12_isPerson p1 S) fun r1 S2 => if r1 = 0 then (some ((-1), S2)) else (if p2 = 0 then (zU (fX12_in p3 0 9) fun r14 => if r14 = 0 then (some ((-1), S2)) else (zB (fX12_changes N 1 p1 p3 S2) fun r18 S19 => some (r18, S19))) else (if p2 = 1 then (zU (fX12_in p3 0 40) fun r7 => if r7 = 0 then (some ((-1), S2)) else (zB (fX12_changes N 2 p1 p3 S2) fun r11 S12 => some (r11, S12))) else (some ((-1), S2))))
abbrev wX12_set : List Cond := Cond.code yX12_set cX12_set 4 (some .int) :: waR
abbrev rmX12_set : Room := { frames := 2, cells := 0, slots := 0, locals := 48 }
set_option maxHeartbeats 4000000 in
set_option maxRecDepth 100000 in
theorem kX12_set (l : Launch) (D : va_G) (cA : Nat → ClassId) (h : Nat → Nat) (sz : Nat) (N : Nat)  (p1 : Int32) (p2 : Int32) (p3 : Int32) (S : zSt) (r : Int32) (S1 : zSt) (hf : fX12_set N p1 p2 p3 S = some (r, S1)) : zMi l yX12_set wX12_set rmX12_set zTr D (tR cA) (hsR h) [.ref (h 0), .int p1, .int p2, .int p3] (wR cA h S) (wR cA h S1) sz r := by
  refine zEn_i (cc := cX12_set) (maxL := 4) (own := RX12) (by decide) rfl rfl (hmR cA h S) (Nat.le_of_ble_eq_true rfl) ?_
  intro p e s m args below meth c Q H locs C0 hW fin ls hl
  have hl : lv_has ls 4 [(0, .ref (h 0)), (1, .int p1), (2, .int p2), (3, .int p3)] := hl
  have hx := C0.1
  have hb := C0.2.1
  have hown := C0.2.2.2.1
  have hts := C0.2.2.2.2
  unfold fX12_set at hf
  refine lv_aload_n (pc := 0) hx hb dX12_set_0 rfl (lv_at hl 0 rfl) ?_
  refine lv_iload_n (pc := 1) hx hb dX12_set_1 rfl (lv_at hl 1 rfl) ?_
  obtain ⟨r1, S2, e3, hf⟩ := zB_e hf
  refine zcVi zTr_ok (As := [.int p1]) (pc := 2) C0 hW (kX12_isPerson l D cA h H.size p1 S r1 S2 e3) (cwV 1 hts (zgV gaR mR_198 mR_199 mR_200 mR_46 mR_194) rfl rfl rfl (by decide +kernel) ⟨Nat.le_of_ble_eq_true rfl, Nat.le_of_ble_eq_true rfl⟩) (va_recv hW.1 hW.2.1 (ci := 12) (q0 := 0) rfl rfl) rfl hl.1 rfl (Nat.le_of_ble_eq_true rfl) dX12_set_2 (fun H locs hW => ?_)
  refine lv_if_ne (pc := 5) (tgt := 10) hx hb dX12_set_5 (by decide) (fun c4 => ?_) (fun c4 => ?_)
  · have hf := zf c4 hf
    refine lv_iload_n (pc := 10) hx hb dX12_set_10 rfl (lv_at hl 2 rfl) ?_
    refine lv_if_ne (pc := 11) (tgt := 36) hx hb dX12_set_11 (by decide) (fun c5 => ?_) (fun c5 => ?_)
    · have hf := zf c5 hf
      refine lv_iload_n (pc := 36) hx hb dX12_set_36 rfl (lv_at hl 2 rfl) ?_
      refine lv_iconst (pc := 37) (v := 1) hx hb dX12_set_37 (by decide) ?_
      refine lv_icmp_ne (pc := 38) (tgt := 61) hx hb dX12_set_38 (by decide) (fun c6 => ?_) (fun c6 => ?_)
      · have hf := zf c6 hf
        refine lv_iconst (pc := 61) (v := (-1)) hx hb dX12_set_61 (by decide) ?_
        exact zend_i (w := wR cA h) fin hf hW dX12_set_62
      · have hf := zt c6 hf
        refine lv_iload_n (pc := 41) hx hb dX12_set_41 rfl (lv_at hl 3 rfl) ?_
        refine lv_iconst (pc := 42) (v := 0) hx hb dX12_set_42 (by decide) ?_
        refine lv_bipush (pc := 43) (v := 40) hx hb dX12_set_43 (by decide) ?_
        obtain ⟨r7, e9, hf⟩ := zU_e hf
        refine zcSi (As := [.int p3, .int 0, .int 40]) (pc := 45) C0 hW (kX12_in l H.size p3 0 40 r7 e9) (va_cwS 3 hts (zgS gaR mR_44 mR_45 mR_46 mR_39) rfl rfl rfl (by decide +kernel) ⟨Nat.le_of_ble_eq_true rfl, Nat.le_of_ble_eq_true rfl⟩) rfl hl.1 rfl (Nat.le_of_ble_eq_true rfl) dX12_set_45 (fun H locs hW => ?_)
        refine lv_if_eq (pc := 48) (tgt := 61) hx hb dX12_set_48 (by decide) (fun c10 => ?_) (fun c10 => ?_)
        · have hf := zt c10 hf
          refine lv_iconst (pc := 61) (v := (-1)) hx hb dX12_set_61 (by decide) ?_
          exact zend_i (w := wR cA h) fin hf hW dX12_set_62
        · have hf := zf c10 hf
          refine lv_aload_n (pc := 51) hx hb dX12_set_51 rfl (lv_at hl 0 rfl) ?_
          refine lv_iconst (pc := 52) (v := 2) hx hb dX12_set_52 (by decide) ?_
          refine lv_iload_n (pc := 53) hx hb dX12_set_53 rfl (lv_at hl 1 rfl) ?_
          refine lv_iload_n (pc := 54) hx hb dX12_set_54 rfl (lv_at hl 3 rfl) ?_
          obtain ⟨r11, S12, e13, hf⟩ := zB_e hf
          refine zcVi zTr_ok (As := [.int 2, .int p1, .int p3]) (pc := 55) C0 hW (kX12_changes l D cA h H.size N 2 p1 p3 S2 r11 S12 e13) (cwV 3 hts (zgV gaR mR_93 mR_94 mR_95 mR_46 mR_78) rfl rfl rfl (by decide +kernel) ⟨Nat.le_of_ble_eq_true rfl, Nat.le_of_ble_eq_true rfl⟩) (va_recv hW.1 hW.2.1 (ci := 12) (q0 := 0) rfl rfl) rfl hl.1 rfl (Nat.le_of_ble_eq_true rfl) dX12_set_55 (fun H locs hW => ?_)
          refine lv_goto (pc := 58) (tgt := 62) hx hb dX12_set_58 (by decide) ?_
          exact zend_i (w := wR cA h) fin hf hW dX12_set_62
    · have hf := zt c5 hf
      refine lv_iload_n (pc := 14) hx hb dX12_set_14 rfl (lv_at hl 3 rfl) ?_
      refine lv_iconst (pc := 15) (v := 0) hx hb dX12_set_15 (by decide) ?_
      refine lv_bipush (pc := 16) (v := 9) hx hb dX12_set_16 (by decide) ?_
      obtain ⟨r14, e16, hf⟩ := zU_e hf
      refine zcSi (As := [.int p3, .int 0, .int 9]) (pc := 18) C0 hW (kX12_in l H.size p3 0 9 r14 e16) (va_cwS 3 hts (zgS gaR mR_44 mR_45 mR_46 mR_39) rfl rfl rfl (by decide +kernel) ⟨Nat.le_of_ble_eq_true rfl, Nat.le_of_ble_eq_true rfl⟩) rfl hl.1 rfl (Nat.le_of_ble_eq_true rfl) dX12_set_18 (fun H locs hW => ?_)
      refine lv_if_eq (pc := 21) (tgt := 34) hx hb dX12_set_21 (by decide) (fun c17 => ?_) (fun c17 => ?_)
      · have hf := zt c17 hf
        refine lv_iconst (pc := 34) (v := (-1)) hx hb dX12_set_34 (by decide) ?_
        exact zend_i (w := wR cA h) fin hf hW dX12_set_35
      · have hf := zf c17 hf
        refine lv_aload_n (pc := 24) hx hb dX12_set_24 rfl (lv_at hl 0 rfl) ?_
        refine lv_iconst (pc := 25) (v := 1) hx hb dX12_set_25 (by decide) ?_
        refine lv_iload_n (pc := 26) hx hb dX12_set_26 rfl (lv_at hl 1 rfl) ?_
        refine lv_iload_n (pc := 27) hx hb dX12_set_27 rfl (lv_at hl 3 rfl) ?_
        obtain ⟨r18, S19, e20, hf⟩ := zB_e hf
        refine zcVi zTr_ok (As := [.int 1, .int p1, .int p3]) (pc := 28) C0 hW (kX12_changes l D cA h H.size N 1 p1 p3 S2 r18 S19 e20) (cwV 3 hts (zgV gaR mR_93 mR_94 mR_95 mR_46 mR_78) rfl rfl rfl (by decide +kernel) ⟨Nat.le_of_ble_eq_true rfl, Nat.le_of_ble_eq_true rfl⟩) (va_recv hW.1 hW.2.1 (ci := 12) (q0 := 0) rfl rfl) rfl hl.1 rfl (Nat.le_of_ble_eq_true rfl) dX12_set_28 (fun H locs hW => ?_)
        refine lv_goto (pc := 31) (tgt := 35) hx hb dX12_set_31 (by decide) ?_
        exact zend_i (w := wR cA h) fin hf hW dX12_set_35
  · have hf := zt c4 hf
    refine lv_iconst (pc := 8) (v := (-1)) hx hb dX12_set_8 (by decide) ?_
    exact zend_i (w := wR cA h) fin hf hW dX12_set_9

def fX12_of (p1 : Int32) (p2 : Int32) (S : zSt) : Option (Int32 × zSt) :=
  zB (fX12_isPerson p1 S) fun r1 S2 => if r1 = 0 then (some ((-1), S2)) else (if p2 = 0 then (if zin p1 8 then some ((S2.2.1 29 (Int32.toNatClampNeg p1)), S2) else none) else (if p2 = 1 then (if zin p1 8 then some ((S2.2.1 30 (Int32.toNatClampNeg p1)), S2) else none) else (if p2 = 2 then (if zin p1 8 then some ((S2.2.1 31 (Int32.toNatClampNeg p1)), S2) else none) else (if p2 = 3 then (if zin p1 8 then some ((S2.2.1 32 (Int32.toNatClampNeg p1)), S2) else none) else (some ((-1), S2))))))
abbrev wX12_of : List Cond := Cond.code yX12_of cX12_of 3 (some .int) :: waR
abbrev rmX12_of : Room := { frames := 2, cells := 0, slots := 0, locals := 43 }
set_option maxHeartbeats 4000000 in
set_option maxRecDepth 100000 in
theorem kX12_of (l : Launch) (D : va_G) (cA : Nat → ClassId) (h : Nat → Nat) (sz : Nat)  (p1 : Int32) (p2 : Int32) (S : zSt) (r : Int32) (S1 : zSt) (hf : fX12_of p1 p2 S = some (r, S1)) : zMi l yX12_of wX12_of rmX12_of zTr D (tR cA) (hsR h) [.ref (h 0), .int p1, .int p2] (wR cA h S) (wR cA h S1) sz r := by
  refine zEn_i (cc := cX12_of) (maxL := 3) (own := RX12) (by decide) rfl rfl (hmR cA h S) (Nat.le_of_ble_eq_true rfl) ?_
  intro p e s m args below meth c Q H locs C0 hW fin ls hl
  have hl : lv_has ls 3 [(0, .ref (h 0)), (1, .int p1), (2, .int p2)] := hl
  have hx := C0.1
  have hb := C0.2.1
  have hown := C0.2.2.2.1
  have hts := C0.2.2.2.2
  unfold fX12_of at hf
  refine lv_aload_n (pc := 0) hx hb dX12_of_0 rfl (lv_at hl 0 rfl) ?_
  refine lv_iload_n (pc := 1) hx hb dX12_of_1 rfl (lv_at hl 1 rfl) ?_
  obtain ⟨r1, S2, e3, hf⟩ := zB_e hf
  refine zcVi zTr_ok (As := [.int p1]) (pc := 2) C0 hW (kX12_isPerson l D cA h H.size p1 S r1 S2 e3) (cwV 1 hts (zgV gaR mR_198 mR_199 mR_200 mR_46 mR_194) rfl rfl rfl (by decide +kernel) ⟨Nat.le_of_ble_eq_true rfl, Nat.le_of_ble_eq_true rfl⟩) (va_recv hW.1 hW.2.1 (ci := 12) (q0 := 0) rfl rfl) rfl hl.1 rfl (Nat.le_of_ble_eq_true rfl) dX12_of_2 (fun H locs hW => ?_)
  refine lv_if_ne (pc := 5) (tgt := 10) hx hb dX12_of_5 (by decide) (fun c4 => ?_) (fun c4 => ?_)
  · have hf := zf c4 hf
    refine lv_iload_n (pc := 10) hx hb dX12_of_10 rfl (lv_at hl 2 rfl) ?_
    by_cases c5 : p2 = 0
    · have hf := zt c5 hf
      refine lv_tableIn (pc := 11) (tgt := 40) (off := 29) hx hb dX12_of_11 (by rw [c5]; decide) (by rw [c5]; decide) (by rw [c5]; decide) (by decide) ?_
      refine lv_aload_n (pc := 40) hx hb dX12_of_40 rfl (lv_at hl 0 rfl) ?_
      refine rg_29 (pc := 41) C0 hu_12 hW mR_23 dX12_of_41 ?_
      refine lv_iload_n (pc := 44) hx hb dX12_of_44 rfl (lv_at hl 1 rfl) ?_
      obtain ⟨i6, hf⟩ := zn hf
      refine rl_29 (pc := 45) C0 hW i6 dX12_of_45 ?_
      exact zend_i (w := wR cA h) fin hf hW dX12_of_46
    have hf := zf c5 hf
    by_cases c7 : p2 = 1
    · have hf := zt c7 hf
      refine lv_tableIn (pc := 11) (tgt := 47) (off := 36) hx hb dX12_of_11 (by rw [c7]; decide) (by rw [c7]; decide) (by rw [c7]; decide) (by decide) ?_
      refine lv_aload_n (pc := 47) hx hb dX12_of_47 rfl (lv_at hl 0 rfl) ?_
      refine rg_30 (pc := 48) C0 hu_12 hW mR_24 dX12_of_48 ?_
      refine lv_iload_n (pc := 51) hx hb dX12_of_51 rfl (lv_at hl 1 rfl) ?_
      obtain ⟨i8, hf⟩ := zn hf
      refine rl_30 (pc := 52) C0 hW i8 dX12_of_52 ?_
      exact zend_i (w := wR cA h) fin hf hW dX12_of_53
    have hf := zf c7 hf
    by_cases c9 : p2 = 2
    · have hf := zt c9 hf
      refine lv_tableIn (pc := 11) (tgt := 54) (off := 43) hx hb dX12_of_11 (by rw [c9]; decide) (by rw [c9]; decide) (by rw [c9]; decide) (by decide) ?_
      refine lv_aload_n (pc := 54) hx hb dX12_of_54 rfl (lv_at hl 0 rfl) ?_
      refine rg_31 (pc := 55) C0 hu_12 hW mR_25 dX12_of_55 ?_
      refine lv_iload_n (pc := 58) hx hb dX12_of_58 rfl (lv_at hl 1 rfl) ?_
      obtain ⟨i10, hf⟩ := zn hf
      refine rl_31 (pc := 59) C0 hW i10 dX12_of_59 ?_
      exact zend_i (w := wR cA h) fin hf hW dX12_of_60
    have hf := zf c9 hf
    by_cases c11 : p2 = 3
    · have hf := zt c11 hf
      refine lv_tableIn (pc := 11) (tgt := 61) (off := 50) hx hb dX12_of_11 (by rw [c11]; decide) (by rw [c11]; decide) (by rw [c11]; decide) (by decide) ?_
      refine lv_aload_n (pc := 61) hx hb dX12_of_61 rfl (lv_at hl 0 rfl) ?_
      refine rg_32 (pc := 62) C0 hu_12 hW mR_26 dX12_of_62 ?_
      refine lv_iload_n (pc := 65) hx hb dX12_of_65 rfl (lv_at hl 1 rfl) ?_
      obtain ⟨i12, hf⟩ := zn hf
      refine rl_32 (pc := 66) C0 hW i12 dX12_of_66 ?_
      exact zend_i (w := wR cA h) fin hf hW dX12_of_67
    have hf := zf c11 hf
    refine lv_tableOut (pc := 11) (tgt := 68) hx hb dX12_of_11 (ztab 0 3 4 p2 (by decide) (fun j hj => match j, hj with | 0, _ => fun e => c5 (e.trans (by decide)) | 1, _ => fun e => c7 (e.trans (by decide)) | 2, _ => fun e => c9 (e.trans (by decide)) | 3, _ => fun e => c11 (e.trans (by decide)) | j + 4, h => absurd h (by omega))) (by decide) ?_
    refine lv_iconst (pc := 68) (v := (-1)) hx hb dX12_of_68 (by decide) ?_
    exact zend_i (w := wR cA h) fin hf hW dX12_of_69
  · have hf := zt c4 hf
    refine lv_iconst (pc := 8) (v := (-1)) hx hb dX12_of_8 (by decide) ?_
    exact zend_i (w := wR cA h) fin hf hW dX12_of_9

def fX12_isGroup_b42 (N : Nat) : Nat → Int32 → Int32 → Int32 → zSt → Option (Int32 × zSt)
  | 0, _, _, _, _ => none
  | n + 1, v2, v3, v4, S =>
    if v4 ≤ 0 then (some (1, S)) else (if zin (v2 + (-1)) 5 then zL (zA S 34 (Int32.toNatClampNeg (v2 + (-1))) ((v4 - v4 / 10 * 10) - 1)) fun S3 => if zin (v2 + (-1)) 5 then zB (fX12_isPerson (S3.2.1 34 (Int32.toNatClampNeg (v2 + (-1)))) S3) fun r5 S6 => if r5 = 0 then (some (0, S6)) else (if zin (v2 + (-1)) 5 then if ((v3 >>> ((S6.2.1 34 (Int32.toNatClampNeg (v2 + (-1)))) &&& 31)) &&& 1) = 1 then (some (0, S6)) else (if zin (v2 + (-1)) 5 then zL ((v3 ||| (1 <<< ((S6.2.1 34 (Int32.toNatClampNeg (v2 + (-1)))) &&& 31)))) fun (x12 : Int32) => fX12_isGroup_b42 N n (v2 + (-1)) x12 (v4 / 10) S6 else none) else none) else none else none)
def fX12_isGroup_b10 (N : Nat) : Nat → Int32 → Int32 → Int32 → zSt → Option (Int32 × zSt)
  | 0, _, _, _, _ => none
  | n + 1, v1, v2, v3, S =>
    if v3 ≤ 0 then (if v2 ≤ 5 then (zL (zI S 33 v2) fun S15 => fX12_isGroup_b42 N N v2 0 v1 S15) else (some (0, S))) else (fX12_isGroup_b10 N n v1 (v2 + 1) (v3 / 10) S)
def fX12_isGroup (N : Nat) (p1 : Int32) (S : zSt) : Option (Int32 × zSt) :=
  if 0 < p1 then (fX12_isGroup_b10 N N p1 0 p1 S) else (some (0, S))
abbrev wX12_isGroup : List Cond := Cond.code yX12_isGroup cX12_isGroup 5 (some .boolean) :: waR
abbrev rmX12_isGroup : Room := { frames := 2, cells := 0, slots := 0, locals := 43 }
set_option maxHeartbeats 4000000 in
set_option maxRecDepth 100000 in
theorem kX12_isGroup (l : Launch) (D : va_G) (cA : Nat → ClassId) (h : Nat → Nat) (sz : Nat) (N : Nat)  (p1 : Int32) (S : zSt) (r : Int32) (S1 : zSt) (hf : fX12_isGroup N p1 S = some (r, S1)) : zMi l yX12_isGroup wX12_isGroup rmX12_isGroup zTr D (tR cA) (hsR h) [.ref (h 0), .int p1] (wR cA h S) (wR cA h S1) sz r := by
  refine zEn_z (cc := cX12_isGroup) (maxL := 5) (own := RX12) (by decide) rfl rfl (hmR cA h S) (Nat.le_of_ble_eq_true rfl) ?_
  intro p e s m args below meth c Q H locs C0 hW fin ls hl
  have hl : lv_has ls 5 [(0, .ref (h 0)), (1, .int p1)] := hl
  have hx := C0.1
  have hb := C0.2.1
  have hown := C0.2.2.2.1
  have hts := C0.2.2.2.2
  have w42 : ∀ (n : Nat), ∀ (v2 : Int32) (v3 : Int32) (v4 : Int32) (S : zSt) (H : Heap) (locs : List Loc), zW zTr D (tR cA) (wR cA h S) (aW (hsR h) s.heap.size) s H locs → ∀ ls : Array Slot, lv_has ls 5 [(0, .ref (h 0)), (2, .int v2), (3, .int v3), (4, .int v4)] → fX12_isGroup_b42 N n v2 v3 v4 S = some (r, S1) → W p l e rmX12_isGroup s m args below meth c H locs 0 0 Q (F0 m 42 ls []) := by
    intro n
    induction n with
    | zero =>
      intro v2 v3 v4 S H locs hW ls hl hf
      exact absurd hf (by intro h; cases h)
    | succ n ih =>
      intro v2 v3 v4 S H locs hW ls hl hf
      rw [fX12_isGroup_b42] at hf
      refine lv_iload (pc := 42) hx hb dX12_isGroup_42 (lv_at hl 3 rfl) ?_
      refine lv_if_le (pc := 44) (tgt := 113) hx hb dX12_isGroup_44 (by decide) (fun c1 => ?_) (fun c1 => ?_)
      · have hf := zt c1 hf
        refine lv_iconst (pc := 113) (v := 1) hx hb dX12_isGroup_113 (by decide) ?_
        exact zend_z (w := wR cA h) fin hf (by decide) hW dX12_isGroup_114
      · have hf := zf c1 hf
        refine lv_iinc (pc := 47) (v := (v2 + (-1))) (lv' := [(2, .int (v2 + (-1))), (0, .ref (h 0)), (3, .int v3), (4, .int v4)]) hx hb dX12_isGroup_47 hl (k := 1) rfl (by rfl) (by decide) rfl (fun ls hl => ?_)
        refine lv_aload_n (pc := 50) hx hb dX12_isGroup_50 rfl (lv_at hl 1 rfl) ?_
        refine rg_34 (pc := 51) C0 hu_12 hW mR_27 dX12_isGroup_51 ?_
        refine lv_iload_n (pc := 54) hx hb dX12_isGroup_54 rfl (lv_at hl 0 rfl) ?_
        refine lv_iload (pc := 55) hx hb dX12_isGroup_55 (lv_at hl 3 rfl) ?_
        refine lv_bipush (pc := 57) (v := 10) hx hb dX12_isGroup_57 (by decide) ?_
        refine lv_irem (pc := 59) hx hb dX12_isGroup_59 (by decide) ?_
        refine lv_iconst (pc := 60) (v := 1) hx hb dX12_isGroup_60 (by decide) ?_
        refine lv_isub (pc := 61) hx hb dX12_isGroup_61 ?_
        obtain ⟨i2, hf⟩ := zn hf
        obtain ⟨S3, e_S3, hf⟩ := zL_e hf
        refine rs_34 (pc := 62) C0 hW i2 e_S3 dX12_isGroup_62 (fun H locs hW => ?_)
        refine lv_aload_n (pc := 63) hx hb dX12_isGroup_63 rfl (lv_at hl 1 rfl) ?_
        refine lv_aload_n (pc := 64) hx hb dX12_isGroup_64 rfl (lv_at hl 1 rfl) ?_
        refine rg_34 (pc := 65) C0 hu_12 hW mR_27 dX12_isGroup_65 ?_
        refine lv_iload_n (pc := 68) hx hb dX12_isGroup_68 rfl (lv_at hl 0 rfl) ?_
        obtain ⟨i4, hf⟩ := zn hf
        refine rl_34 (pc := 69) C0 hW i4 dX12_isGroup_69 ?_
        obtain ⟨r5, S6, e7, hf⟩ := zB_e hf
        refine zcVi zTr_ok (As := [.int (S3.2.1 34 (Int32.toNatClampNeg (v2 + (-1))))]) (pc := 70) C0 hW (kX12_isPerson l D cA h H.size (S3.2.1 34 (Int32.toNatClampNeg (v2 + (-1)))) S3 r5 S6 e7) (cwV 1 hts (zgV gaR mR_198 mR_199 mR_200 mR_46 mR_194) rfl rfl rfl (by decide +kernel) ⟨Nat.le_of_ble_eq_true rfl, Nat.le_of_ble_eq_true rfl⟩) (va_recv hW.1 hW.2.1 (ci := 12) (q0 := 0) rfl rfl) rfl hl.1 rfl (Nat.le_of_ble_eq_true rfl) dX12_isGroup_70 (fun H locs hW => ?_)
        refine lv_if_eq (pc := 73) (tgt := 90) hx hb dX12_isGroup_73 (by decide) (fun c8 => ?_) (fun c8 => ?_)
        · have hf := zt c8 hf
          refine lv_iconst (pc := 90) (v := 0) hx hb dX12_isGroup_90 (by decide) ?_
          exact zend_z (w := wR cA h) fin hf (by decide) hW dX12_isGroup_91
        · have hf := zf c8 hf
          refine lv_iload_n (pc := 76) hx hb dX12_isGroup_76 rfl (lv_at hl 2 rfl) ?_
          refine lv_aload_n (pc := 77) hx hb dX12_isGroup_77 rfl (lv_at hl 1 rfl) ?_
          refine rg_34 (pc := 78) C0 hu_12 hW mR_27 dX12_isGroup_78 ?_
          refine lv_iload_n (pc := 81) hx hb dX12_isGroup_81 rfl (lv_at hl 0 rfl) ?_
          obtain ⟨i9, hf⟩ := zn hf
          refine rl_34 (pc := 82) C0 hW i9 dX12_isGroup_82 ?_
          refine lv_ishr (pc := 83) hx hb dX12_isGroup_83 ?_
          refine lv_iconst (pc := 84) (v := 1) hx hb dX12_isGroup_84 (by decide) ?_
          refine lv_iand (pc := 85) hx hb dX12_isGroup_85 ?_
          refine lv_iconst (pc := 86) (v := 1) hx hb dX12_isGroup_86 (by decide) ?_
          refine lv_icmp_ne (pc := 87) (tgt := 92) hx hb dX12_isGroup_87 (by decide) (fun c10 => ?_) (fun c10 => ?_)
          · have hf := zf c10 hf
            refine lv_iload_n (pc := 92) hx hb dX12_isGroup_92 rfl (lv_at hl 2 rfl) ?_
            refine lv_iconst (pc := 93) (v := 1) hx hb dX12_isGroup_93 (by decide) ?_
            refine lv_aload_n (pc := 94) hx hb dX12_isGroup_94 rfl (lv_at hl 1 rfl) ?_
            refine rg_34 (pc := 95) C0 hu_12 hW mR_27 dX12_isGroup_95 ?_
            refine lv_iload_n (pc := 98) hx hb dX12_isGroup_98 rfl (lv_at hl 0 rfl) ?_
            obtain ⟨i11, hf⟩ := zn hf
            refine rl_34 (pc := 99) C0 hW i11 dX12_isGroup_99 ?_
            refine lv_ishl (pc := 100) hx hb dX12_isGroup_100 ?_
            refine lv_ior (pc := 101) hx hb dX12_isGroup_101 ?_
            obtain ⟨x12, e_x12, hf⟩ := zL_e hf
            refine ztopi e_x12 ?_
            refine lv_istore_n (pc := 102) (lv' := [(3, .int x12), (2, .int (v2 + (-1))), (0, .ref (h 0)), (4, .int v4)]) hx hb dX12_isGroup_102 rfl hl (by decide) rfl (fun ls hl => ?_)
            refine lv_iload (pc := 103) hx hb dX12_isGroup_103 (lv_at hl 3 rfl) ?_
            refine lv_bipush (pc := 105) (v := 10) hx hb dX12_isGroup_105 (by decide) ?_
            refine lv_idiv (pc := 107) hx hb dX12_isGroup_107 (by decide) ?_
            refine lv_istore (pc := 108) (lv' := [(4, .int (v4 / 10)), (3, .int x12), (2, .int (v2 + (-1))), (0, .ref (h 0))]) hx hb dX12_isGroup_108 hl (by decide) rfl (fun ls hl => ?_)
            refine lv_goto (pc := 110) (tgt := 42) hx hb dX12_isGroup_110 (by decide) ?_
            exact ih (v2 + (-1)) x12 (v4 / 10) S6 H locs hW ls (lv_sub hl [3, 2, 1, 0] rfl) hf
          · have hf := zt c10 hf
            refine lv_iconst (pc := 90) (v := 0) hx hb dX12_isGroup_90 (by decide) ?_
            exact zend_z (w := wR cA h) fin hf (by decide) hW dX12_isGroup_91
  have w10 : ∀ (n : Nat), ∀ (v1 : Int32) (v2 : Int32) (v3 : Int32) (S : zSt) (H : Heap) (locs : List Loc), zW zTr D (tR cA) (wR cA h S) (aW (hsR h) s.heap.size) s H locs → ∀ ls : Array Slot, lv_has ls 5 [(0, .ref (h 0)), (1, .int v1), (2, .int v2), (3, .int v3)] → fX12_isGroup_b10 N n v1 v2 v3 S = some (r, S1) → W p l e rmX12_isGroup s m args below meth c H locs 0 0 Q (F0 m 10 ls []) := by
    intro n
    induction n with
    | zero =>
      intro v1 v2 v3 S H locs hW ls hl hf
      exact absurd hf (by intro h; cases h)
    | succ n ih =>
      intro v1 v2 v3 S H locs hW ls hl hf
      rw [fX12_isGroup_b10] at hf
      refine lv_iload_n (pc := 10) hx hb dX12_isGroup_10 rfl (lv_at hl 3 rfl) ?_
      refine lv_if_le (pc := 11) (tgt := 25) hx hb dX12_isGroup_11 (by decide) (fun c13 => ?_) (fun c13 => ?_)
      · have hf := zt c13 hf
        refine lv_iload_n (pc := 25) hx hb dX12_isGroup_25 rfl (lv_at hl 2 rfl) ?_
        refine lv_iconst (pc := 26) (v := 5) hx hb dX12_isGroup_26 (by decide) ?_
        refine lv_icmp_le (pc := 27) (tgt := 32) hx hb dX12_isGroup_27 (by decide) (fun c14 => ?_) (fun c14 => ?_)
        · have hf := zt c14 hf
          refine lv_aload_n (pc := 32) hx hb dX12_isGroup_32 rfl (lv_at hl 0 rfl) ?_
          refine lv_iload_n (pc := 33) hx hb dX12_isGroup_33 rfl (lv_at hl 2 rfl) ?_
          obtain ⟨S15, e_S15, hf⟩ := zL_e hf
          refine rp_33 (pc := 34) C0 hu_12 hW mR_203 e_S15 dX12_isGroup_34 (fun H locs hW => ?_)
          refine lv_iconst (pc := 37) (v := 0) hx hb dX12_isGroup_37 (by decide) ?_
          refine lv_istore_n (pc := 38) (lv' := [(3, .int 0), (0, .ref (h 0)), (1, .int v1), (2, .int v2)]) hx hb dX12_isGroup_38 rfl hl (by decide) rfl (fun ls hl => ?_)
          refine lv_iload_n (pc := 39) hx hb dX12_isGroup_39 rfl (lv_at hl 2 rfl) ?_
          refine lv_istore (pc := 40) (lv' := [(4, .int v1), (3, .int 0), (0, .ref (h 0)), (1, .int v1), (2, .int v2)]) hx hb dX12_isGroup_40 hl (by decide) rfl (fun ls hl => ?_)
          exact w42 N v2 0 v1 S15 H locs hW ls (lv_sub hl [2, 4, 1, 0] rfl) hf
        · have hf := zf c14 hf
          refine lv_iconst (pc := 30) (v := 0) hx hb dX12_isGroup_30 (by decide) ?_
          exact zend_z (w := wR cA h) fin hf (by decide) hW dX12_isGroup_31
      · have hf := zf c13 hf
        refine lv_iinc (pc := 14) (v := (v2 + 1)) (lv' := [(2, .int (v2 + 1)), (0, .ref (h 0)), (1, .int v1), (3, .int v3)]) hx hb dX12_isGroup_14 hl (k := 2) rfl (by rfl) (by decide) rfl (fun ls hl => ?_)
        refine lv_iload_n (pc := 17) hx hb dX12_isGroup_17 rfl (lv_at hl 3 rfl) ?_
        refine lv_bipush (pc := 18) (v := 10) hx hb dX12_isGroup_18 (by decide) ?_
        refine lv_idiv (pc := 20) hx hb dX12_isGroup_20 (by decide) ?_
        refine lv_istore_n (pc := 21) (lv' := [(3, .int (v3 / 10)), (2, .int (v2 + 1)), (0, .ref (h 0)), (1, .int v1)]) hx hb dX12_isGroup_21 rfl hl (by decide) rfl (fun ls hl => ?_)
        refine lv_goto (pc := 22) (tgt := 10) hx hb dX12_isGroup_22 (by decide) ?_
        exact ih v1 (v2 + 1) (v3 / 10) S H locs hW ls (lv_sub hl [2, 3, 1, 0] rfl) hf
  unfold fX12_isGroup at hf
  refine lv_iload_n (pc := 0) hx hb dX12_isGroup_0 rfl (lv_at hl 1 rfl) ?_
  refine lv_if_gt (pc := 1) (tgt := 6) hx hb dX12_isGroup_1 (by decide) (fun c16 => ?_) (fun c16 => ?_)
  · have hf := zt c16 hf
    refine lv_iconst (pc := 6) (v := 0) hx hb dX12_isGroup_6 (by decide) ?_
    refine lv_istore_n (pc := 7) (lv' := [(2, .int 0), (0, .ref (h 0)), (1, .int p1)]) hx hb dX12_isGroup_7 rfl hl (by decide) rfl (fun ls hl => ?_)
    refine lv_iload_n (pc := 8) hx hb dX12_isGroup_8 rfl (lv_at hl 2 rfl) ?_
    refine lv_istore_n (pc := 9) (lv' := [(3, .int p1), (2, .int 0), (0, .ref (h 0)), (1, .int p1)]) hx hb dX12_isGroup_9 rfl hl (by decide) rfl (fun ls hl => ?_)
    exact w10 N p1 0 p1 S H locs hW ls (lv_sub hl [2, 3, 1, 0] rfl) hf
  · have hf := zf c16 hf
    refine lv_iconst (pc := 4) (v := 0) hx hb dX12_isGroup_4 (by decide) ?_
    exact zend_z (w := wR cA h) fin hf (by decide) hW dX12_isGroup_5

def fX12_areSo (N : Nat) (p1 : Int32) (S : zSt) : Option (Int32 × zSt) :=
  if p1 < 0 then (some (0, S)) else (if 4 ≤ (p1 - p1 / 10 * 10) then (some (0, S)) else (zB (fX12_isGroup N (p1 / 10) S) fun r3 S4 => if r3 = 0 then (some (0, S4)) else (some (1, S4))))
abbrev wX12_areSo : List Cond := Cond.code yX12_areSo cX12_areSo 2 (some .boolean) :: waR
abbrev rmX12_areSo : Room := { frames := 3, cells := 0, slots := 0, locals := 67 }
set_option maxHeartbeats 4000000 in
set_option maxRecDepth 100000 in
theorem kX12_areSo (l : Launch) (D : va_G) (cA : Nat → ClassId) (h : Nat → Nat) (sz : Nat) (N : Nat)  (p1 : Int32) (S : zSt) (r : Int32) (S1 : zSt) (hf : fX12_areSo N p1 S = some (r, S1)) : zMi l yX12_areSo wX12_areSo rmX12_areSo zTr D (tR cA) (hsR h) [.ref (h 0), .int p1] (wR cA h S) (wR cA h S1) sz r := by
  refine zEn_z (cc := cX12_areSo) (maxL := 2) (own := RX12) (by decide) rfl rfl (hmR cA h S) (Nat.le_of_ble_eq_true rfl) ?_
  intro p e s m args below meth c Q H locs C0 hW fin ls hl
  have hl : lv_has ls 2 [(0, .ref (h 0)), (1, .int p1)] := hl
  have hx := C0.1
  have hb := C0.2.1
  have hown := C0.2.2.2.1
  have hts := C0.2.2.2.2
  unfold fX12_areSo at hf
  refine lv_iload_n (pc := 0) hx hb dX12_areSo_0 rfl (lv_at hl 1 rfl) ?_
  refine lv_if_lt (pc := 1) (tgt := 27) hx hb dX12_areSo_1 (by decide) (fun c1 => ?_) (fun c1 => ?_)
  · have hf := zt c1 hf
    refine lv_iconst (pc := 27) (v := 0) hx hb dX12_areSo_27 (by decide) ?_
    exact zend_z (w := wR cA h) fin hf (by decide) hW dX12_areSo_28
  · have hf := zf c1 hf
    refine lv_iload_n (pc := 4) hx hb dX12_areSo_4 rfl (lv_at hl 1 rfl) ?_
    refine lv_bipush (pc := 5) (v := 10) hx hb dX12_areSo_5 (by decide) ?_
    refine lv_irem (pc := 7) hx hb dX12_areSo_7 (by decide) ?_
    refine lv_iconst (pc := 8) (v := 4) hx hb dX12_areSo_8 (by decide) ?_
    refine lv_icmp_ge (pc := 9) (tgt := 27) hx hb dX12_areSo_9 (by decide) (fun c2 => ?_) (fun c2 => ?_)
    · have hf := zt c2 hf
      refine lv_iconst (pc := 27) (v := 0) hx hb dX12_areSo_27 (by decide) ?_
      exact zend_z (w := wR cA h) fin hf (by decide) hW dX12_areSo_28
    · have hf := zf c2 hf
      refine lv_aload_n (pc := 12) hx hb dX12_areSo_12 rfl (lv_at hl 0 rfl) ?_
      refine lv_iload_n (pc := 13) hx hb dX12_areSo_13 rfl (lv_at hl 1 rfl) ?_
      refine lv_bipush (pc := 14) (v := 10) hx hb dX12_areSo_14 (by decide) ?_
      refine lv_idiv (pc := 16) hx hb dX12_areSo_16 (by decide) ?_
      obtain ⟨r3, S4, e5, hf⟩ := zB_e hf
      refine zcVi zTr_ok (As := [.int (p1 / 10)]) (pc := 17) C0 hW (kX12_isGroup l D cA h H.size N (p1 / 10) S r3 S4 e5) (cwV 1 hts (zgV gaR mR_205 mR_206 mR_207 mR_46 mR_202) rfl rfl rfl (by decide +kernel) ⟨Nat.le_of_ble_eq_true rfl, Nat.le_of_ble_eq_true rfl⟩) (va_recv hW.1 hW.2.1 (ci := 12) (q0 := 0) rfl rfl) rfl hl.1 rfl (Nat.le_of_ble_eq_true rfl) dX12_areSo_17 (fun H locs hW => ?_)
      refine lv_if_eq (pc := 20) (tgt := 27) hx hb dX12_areSo_20 (by decide) (fun c6 => ?_) (fun c6 => ?_)
      · have hf := zt c6 hf
        refine lv_iconst (pc := 27) (v := 0) hx hb dX12_areSo_27 (by decide) ?_
        exact zend_z (w := wR cA h) fin hf (by decide) hW dX12_areSo_28
      · have hf := zf c6 hf
        refine lv_iconst (pc := 23) (v := 1) hx hb dX12_areSo_23 (by decide) ?_
        refine lv_goto (pc := 24) (tgt := 28) hx hb dX12_areSo_24 (by decide) ?_
        exact zend_z (w := wR cA h) fin hf (by decide) hW dX12_areSo_28

def fX12_isAt (p1 : Int32) (S : zSt) : Option (Int32 × zSt) :=
  if p1 < 0 then (some (0, S)) else (zB (fX12_isPlace (p1 / 100) S) fun r2 S3 => if r2 = 0 then (some (0, S3)) else (zU (fX12_isHour (p1 - p1 / 100 * 100)) fun r6 => if r6 = 0 then (some (0, S3)) else (some (1, S3))))
abbrev wX12_isAt : List Cond := Cond.code yX12_isAt cX12_isAt 2 (some .boolean) :: waR
abbrev rmX12_isAt : Room := { frames := 2, cells := 0, slots := 0, locals := 43 }
set_option maxHeartbeats 4000000 in
set_option maxRecDepth 100000 in
theorem kX12_isAt (l : Launch) (D : va_G) (cA : Nat → ClassId) (h : Nat → Nat) (sz : Nat)  (p1 : Int32) (S : zSt) (r : Int32) (S1 : zSt) (hf : fX12_isAt p1 S = some (r, S1)) : zMi l yX12_isAt wX12_isAt rmX12_isAt zTr D (tR cA) (hsR h) [.ref (h 0), .int p1] (wR cA h S) (wR cA h S1) sz r := by
  refine zEn_z (cc := cX12_isAt) (maxL := 2) (own := RX12) (by decide) rfl rfl (hmR cA h S) (Nat.le_of_ble_eq_true rfl) ?_
  intro p e s m args below meth c Q H locs C0 hW fin ls hl
  have hl : lv_has ls 2 [(0, .ref (h 0)), (1, .int p1)] := hl
  have hx := C0.1
  have hb := C0.2.1
  have hown := C0.2.2.2.1
  have hts := C0.2.2.2.2
  unfold fX12_isAt at hf
  refine lv_iload_n (pc := 0) hx hb dX12_isAt_0 rfl (lv_at hl 1 rfl) ?_
  refine lv_if_lt (pc := 1) (tgt := 29) hx hb dX12_isAt_1 (by decide) (fun c1 => ?_) (fun c1 => ?_)
  · have hf := zt c1 hf
    refine lv_iconst (pc := 29) (v := 0) hx hb dX12_isAt_29 (by decide) ?_
    exact zend_z (w := wR cA h) fin hf (by decide) hW dX12_isAt_30
  · have hf := zf c1 hf
    refine lv_aload_n (pc := 4) hx hb dX12_isAt_4 rfl (lv_at hl 0 rfl) ?_
    refine lv_iload_n (pc := 5) hx hb dX12_isAt_5 rfl (lv_at hl 1 rfl) ?_
    refine lv_bipush (pc := 6) (v := 100) hx hb dX12_isAt_6 (by decide) ?_
    refine lv_idiv (pc := 8) hx hb dX12_isAt_8 (by decide) ?_
    obtain ⟨r2, S3, e4, hf⟩ := zB_e hf
    refine zcVi zTr_ok (As := [.int (p1 / 100)]) (pc := 9) C0 hW (kX12_isPlace l D cA h H.size (p1 / 100) S r2 S3 e4) (cwV 1 hts (zgV gaR mR_50 mR_51 mR_52 mR_46 mR_47) rfl rfl rfl (by decide +kernel) ⟨Nat.le_of_ble_eq_true rfl, Nat.le_of_ble_eq_true rfl⟩) (va_recv hW.1 hW.2.1 (ci := 12) (q0 := 0) rfl rfl) rfl hl.1 rfl (Nat.le_of_ble_eq_true rfl) dX12_isAt_9 (fun H locs hW => ?_)
    refine lv_if_eq (pc := 12) (tgt := 29) hx hb dX12_isAt_12 (by decide) (fun c5 => ?_) (fun c5 => ?_)
    · have hf := zt c5 hf
      refine lv_iconst (pc := 29) (v := 0) hx hb dX12_isAt_29 (by decide) ?_
      exact zend_z (w := wR cA h) fin hf (by decide) hW dX12_isAt_30
    · have hf := zf c5 hf
      refine lv_iload_n (pc := 15) hx hb dX12_isAt_15 rfl (lv_at hl 1 rfl) ?_
      refine lv_bipush (pc := 16) (v := 100) hx hb dX12_isAt_16 (by decide) ?_
      refine lv_irem (pc := 18) hx hb dX12_isAt_18 (by decide) ?_
      obtain ⟨r6, e8, hf⟩ := zU_e hf
      refine zcSi (As := [.int (p1 - p1 / 100 * 100)]) (pc := 19) C0 hW (kX12_isHour l H.size (p1 - p1 / 100 * 100) r6 e8) (va_cwS 1 hts (zgS gaR mR_180 mR_181 mR_46 mR_160) rfl rfl rfl (by decide +kernel) ⟨Nat.le_of_ble_eq_true rfl, Nat.le_of_ble_eq_true rfl⟩) rfl hl.1 rfl (Nat.le_of_ble_eq_true rfl) dX12_isAt_19 (fun H locs hW => ?_)
      refine lv_if_eq (pc := 22) (tgt := 29) hx hb dX12_isAt_22 (by decide) (fun c9 => ?_) (fun c9 => ?_)
      · have hf := zt c9 hf
        refine lv_iconst (pc := 29) (v := 0) hx hb dX12_isAt_29 (by decide) ?_
        exact zend_z (w := wR cA h) fin hf (by decide) hW dX12_isAt_30
      · have hf := zf c9 hf
        refine lv_iconst (pc := 25) (v := 1) hx hb dX12_isAt_25 (by decide) ?_
        refine lv_goto (pc := 26) (tgt := 30) hx hb dX12_isAt_26 (by decide) ?_
        exact zend_z (w := wR cA h) fin hf (by decide) hW dX12_isAt_30

def fX12_lee (p1 : Int32) (p2 : Int32): Option Int32 :=
  if p1 = 1 then (some (100 - (15 * p2))) else (if p1 = 2 then (if p2 = 0 then (some 100) else (if 3 ≤ p2 then (some 40) else (some 60))) else (some 100))
abbrev wX12_lee : List Cond := Cond.code yX12_lee cX12_lee 2 (some .int) :: waR
abbrev rmX12_lee : Room := { frames := 0, cells := 0, slots := 0, locals := 0 }
set_option maxHeartbeats 4000000 in
set_option maxRecDepth 100000 in
theorem kX12_lee (l : Launch) (sz : Nat) (p1 : Int32) (p2 : Int32) (r : Int32) (hf : fX12_lee p1 p2 = some r) : zMs l yX12_lee wX12_lee rmX12_lee [.int p1, .int p2] sz r := by
  refine zEs_i (cc := cX12_lee) (maxL := 2) (own := RX12) (by decide) rfl rfl (Nat.le_of_ble_eq_true rfl) ?_
  intro p e s m args below meth c Q H locs C0 hW fin ls hl
  have hl : lv_has ls 2 [(0, .int p1), (1, .int p2)] := hl
  have hx := C0.1
  have hb := C0.2.1
  have hown := C0.2.2.2.1
  have hts := C0.2.2.2.2
  unfold fX12_lee at hf
  refine lv_iload_n (pc := 0) hx hb dX12_lee_0 rfl (lv_at hl 0 rfl) ?_
  refine lv_iconst (pc := 1) (v := 1) hx hb dX12_lee_1 (by decide) ?_
  refine lv_icmp_ne (pc := 2) (tgt := 13) hx hb dX12_lee_2 (by decide) (fun c1 => ?_) (fun c1 => ?_)
  · have hf := zf c1 hf
    refine lv_iload_n (pc := 13) hx hb dX12_lee_13 rfl (lv_at hl 0 rfl) ?_
    refine lv_iconst (pc := 14) (v := 2) hx hb dX12_lee_14 (by decide) ?_
    refine lv_icmp_eq (pc := 15) (tgt := 21) hx hb dX12_lee_15 (by decide) (fun c2 => ?_) (fun c2 => ?_)
    · have hf := zt c2 hf
      refine lv_iload_n (pc := 21) hx hb dX12_lee_21 rfl (lv_at hl 1 rfl) ?_
      refine lv_if_ne (pc := 22) (tgt := 30) hx hb dX12_lee_22 (by decide) (fun c3 => ?_) (fun c3 => ?_)
      · have hf := zf c3 hf
        refine lv_iload_n (pc := 30) hx hb dX12_lee_30 rfl (lv_at hl 1 rfl) ?_
        refine lv_iconst (pc := 31) (v := 3) hx hb dX12_lee_31 (by decide) ?_
        refine lv_icmp_ge (pc := 32) (tgt := 40) hx hb dX12_lee_32 (by decide) (fun c4 => ?_) (fun c4 => ?_)
        · have hf := zt c4 hf
          refine lv_bipush (pc := 40) (v := 40) hx hb dX12_lee_40 (by decide) ?_
          exact zens_i fin hf hW dX12_lee_42
        · have hf := zf c4 hf
          refine lv_bipush (pc := 35) (v := 60) hx hb dX12_lee_35 (by decide) ?_
          refine lv_goto (pc := 37) (tgt := 42) hx hb dX12_lee_37 (by decide) ?_
          exact zens_i fin hf hW dX12_lee_42
      · have hf := zt c3 hf
        refine lv_bipush (pc := 25) (v := 100) hx hb dX12_lee_25 (by decide) ?_
        refine lv_goto (pc := 27) (tgt := 42) hx hb dX12_lee_27 (by decide) ?_
        exact zens_i fin hf hW dX12_lee_42
    · have hf := zf c2 hf
      refine lv_bipush (pc := 18) (v := 100) hx hb dX12_lee_18 (by decide) ?_
      exact zens_i fin hf hW dX12_lee_20
  · have hf := zt c1 hf
    refine lv_bipush (pc := 5) (v := 100) hx hb dX12_lee_5 (by decide) ?_
    refine lv_bipush (pc := 7) (v := 15) hx hb dX12_lee_7 (by decide) ?_
    refine lv_iload_n (pc := 9) hx hb dX12_lee_9 rfl (lv_at hl 1 rfl) ?_
    refine lv_imul (pc := 10) hx hb dX12_lee_10 ?_
    refine lv_isub (pc := 11) hx hb dX12_lee_11 ?_
    exact zens_i fin hf hW dX12_lee_12

def fX12_sunk (p1 : Int32) (p2 : Int32) (S : zSt) : Option (Int32 × zSt) :=
  if zin p1 8 then if (S.2.1 30 (Int32.toNatClampNeg p1)) ≤ p2 then (if zin p1 8 then some ((S.2.1 30 (Int32.toNatClampNeg p1)), S) else none) else (some (p2, S)) else none
abbrev wX12_sunk : List Cond := Cond.code yX12_sunk cX12_sunk 3 (some .int) :: waR
abbrev rmX12_sunk : Room := { frames := 0, cells := 0, slots := 0, locals := 0 }
set_option maxHeartbeats 4000000 in
set_option maxRecDepth 100000 in
theorem kX12_sunk (l : Launch) (D : va_G) (cA : Nat → ClassId) (h : Nat → Nat) (sz : Nat)  (p1 : Int32) (p2 : Int32) (S : zSt) (r : Int32) (S1 : zSt) (hf : fX12_sunk p1 p2 S = some (r, S1)) : zMi l yX12_sunk wX12_sunk rmX12_sunk zTr D (tR cA) (hsR h) [.ref (h 0), .int p1, .int p2] (wR cA h S) (wR cA h S1) sz r := by
  refine zEn_i (cc := cX12_sunk) (maxL := 3) (own := RX12) (by decide) rfl rfl (hmR cA h S) (Nat.le_of_ble_eq_true rfl) ?_
  intro p e s m args below meth c Q H locs C0 hW fin ls hl
  have hl : lv_has ls 3 [(0, .ref (h 0)), (1, .int p1), (2, .int p2)] := hl
  have hx := C0.1
  have hb := C0.2.1
  have hown := C0.2.2.2.1
  have hts := C0.2.2.2.2
  unfold fX12_sunk at hf
  refine lv_iload_n (pc := 0) hx hb dX12_sunk_0 rfl (lv_at hl 2 rfl) ?_
  refine lv_aload_n (pc := 1) hx hb dX12_sunk_1 rfl (lv_at hl 0 rfl) ?_
  refine rg_30 (pc := 2) C0 hu_12 hW mR_24 dX12_sunk_2 ?_
  refine lv_iload_n (pc := 5) hx hb dX12_sunk_5 rfl (lv_at hl 1 rfl) ?_
  obtain ⟨i1, hf⟩ := zn hf
  refine rl_30 (pc := 6) C0 hW i1 dX12_sunk_6 ?_
  refine lv_icmp_ge (pc := 7) (tgt := 14) hx hb dX12_sunk_7 (by decide) (fun c2 => ?_) (fun c2 => ?_)
  · have hf := zt c2 hf
    refine lv_aload_n (pc := 14) hx hb dX12_sunk_14 rfl (lv_at hl 0 rfl) ?_
    refine rg_30 (pc := 15) C0 hu_12 hW mR_24 dX12_sunk_15 ?_
    refine lv_iload_n (pc := 18) hx hb dX12_sunk_18 rfl (lv_at hl 1 rfl) ?_
    obtain ⟨i3, hf⟩ := zn hf
    refine rl_30 (pc := 19) C0 hW i3 dX12_sunk_19 ?_
    exact zend_i (w := wR cA h) fin hf hW dX12_sunk_20
  · have hf := zf c2 hf
    refine lv_iload_n (pc := 10) hx hb dX12_sunk_10 rfl (lv_at hl 2 rfl) ?_
    refine lv_goto (pc := 11) (tgt := 20) hx hb dX12_sunk_11 (by decide) ?_
    exact zend_i (w := wR cA h) fin hf hW dX12_sunk_20

def fX12_plainHold (p1 : Int32) (p2 : Int32) (p3 : Int32) (S : zSt) : Option (Int32 × zSt) :=
  if zin p1 8 then if zin p1 8 then if zin p1 8 then zB (fX12_sunk p1 p2 S) fun r4 S5 => if zin p1 8 then if ¬ (S5.2.1 30 (Int32.toNatClampNeg p1)) = 0 then if zin p1 8 then some (((((S.2.1 29 (Int32.toNatClampNeg p1)) + (S.2.1 32 (Int32.toNatClampNeg p1))) - (((S.2.1 29 (Int32.toNatClampNeg p1)) * r4) / (S5.2.1 30 (Int32.toNatClampNeg p1)))) * (p3 + (S5.2.1 31 (Int32.toNatClampNeg p1)))), S5) else none else none else none else none else none else none
abbrev wX12_plainHold : List Cond := Cond.code yX12_plainHold cX12_plainHold 4 (some .int) :: waR
abbrev rmX12_plainHold : Room := { frames := 1, cells := 0, slots := 0, locals := 22 }
set_option maxHeartbeats 4000000 in
set_option maxRecDepth 100000 in
theorem kX12_plainHold (l : Launch) (D : va_G) (cA : Nat → ClassId) (h : Nat → Nat) (sz : Nat)  (p1 : Int32) (p2 : Int32) (p3 : Int32) (S : zSt) (r : Int32) (S1 : zSt) (hf : fX12_plainHold p1 p2 p3 S = some (r, S1)) : zMi l yX12_plainHold wX12_plainHold rmX12_plainHold zTr D (tR cA) (hsR h) [.ref (h 0), .int p1, .int p2, .int p3] (wR cA h S) (wR cA h S1) sz r := by
  refine zEn_i (cc := cX12_plainHold) (maxL := 4) (own := RX12) (by decide) rfl rfl (hmR cA h S) (Nat.le_of_ble_eq_true rfl) ?_
  intro p e s m args below meth c Q H locs C0 hW fin ls hl
  have hl : lv_has ls 4 [(0, .ref (h 0)), (1, .int p1), (2, .int p2), (3, .int p3)] := hl
  have hx := C0.1
  have hb := C0.2.1
  have hown := C0.2.2.2.1
  have hts := C0.2.2.2.2
  unfold fX12_plainHold at hf
  refine lv_aload_n (pc := 0) hx hb dX12_plainHold_0 rfl (lv_at hl 0 rfl) ?_
  refine rg_29 (pc := 1) C0 hu_12 hW mR_23 dX12_plainHold_1 ?_
  refine lv_iload_n (pc := 4) hx hb dX12_plainHold_4 rfl (lv_at hl 1 rfl) ?_
  obtain ⟨i1, hf⟩ := zn hf
  refine rl_29 (pc := 5) C0 hW i1 dX12_plainHold_5 ?_
  refine lv_aload_n (pc := 6) hx hb dX12_plainHold_6 rfl (lv_at hl 0 rfl) ?_
  refine rg_32 (pc := 7) C0 hu_12 hW mR_26 dX12_plainHold_7 ?_
  refine lv_iload_n (pc := 10) hx hb dX12_plainHold_10 rfl (lv_at hl 1 rfl) ?_
  obtain ⟨i2, hf⟩ := zn hf
  refine rl_32 (pc := 11) C0 hW i2 dX12_plainHold_11 ?_
  refine lv_iadd (pc := 12) hx hb dX12_plainHold_12 ?_
  refine lv_aload_n (pc := 13) hx hb dX12_plainHold_13 rfl (lv_at hl 0 rfl) ?_
  refine rg_29 (pc := 14) C0 hu_12 hW mR_23 dX12_plainHold_14 ?_
  refine lv_iload_n (pc := 17) hx hb dX12_plainHold_17 rfl (lv_at hl 1 rfl) ?_
  obtain ⟨i3, hf⟩ := zn hf
  refine rl_29 (pc := 18) C0 hW i3 dX12_plainHold_18 ?_
  refine lv_aload_n (pc := 19) hx hb dX12_plainHold_19 rfl (lv_at hl 0 rfl) ?_
  refine lv_iload_n (pc := 20) hx hb dX12_plainHold_20 rfl (lv_at hl 1 rfl) ?_
  refine lv_iload_n (pc := 21) hx hb dX12_plainHold_21 rfl (lv_at hl 2 rfl) ?_
  obtain ⟨r4, S5, e6, hf⟩ := zB_e hf
  refine zcVi zTr_ok (As := [.int p1, .int p2]) (pc := 22) C0 hW (kX12_sunk l D cA h H.size p1 p2 S r4 S5 e6) (cwV 2 hts (zgV gaR mR_212 mR_213 mR_214 mR_46 mR_210) rfl rfl rfl (by decide +kernel) ⟨Nat.le_of_ble_eq_true rfl, Nat.le_of_ble_eq_true rfl⟩) (va_recv hW.1 hW.2.1 (ci := 12) (q0 := 0) rfl rfl) rfl hl.1 rfl (Nat.le_of_ble_eq_true rfl) dX12_plainHold_22 (fun H locs hW => ?_)
  refine lv_imul (pc := 25) hx hb dX12_plainHold_25 ?_
  refine lv_aload_n (pc := 26) hx hb dX12_plainHold_26 rfl (lv_at hl 0 rfl) ?_
  refine rg_30 (pc := 27) C0 hu_12 hW mR_24 dX12_plainHold_27 ?_
  refine lv_iload_n (pc := 30) hx hb dX12_plainHold_30 rfl (lv_at hl 1 rfl) ?_
  obtain ⟨i7, hf⟩ := zn hf
  refine rl_30 (pc := 31) C0 hW i7 dX12_plainHold_31 ?_
  obtain ⟨i8, hf⟩ := zn hf
  refine lv_idiv (pc := 32) hx hb dX12_plainHold_32 i8 ?_
  refine lv_isub (pc := 33) hx hb dX12_plainHold_33 ?_
  refine lv_iload_n (pc := 34) hx hb dX12_plainHold_34 rfl (lv_at hl 3 rfl) ?_
  refine lv_aload_n (pc := 35) hx hb dX12_plainHold_35 rfl (lv_at hl 0 rfl) ?_
  refine rg_31 (pc := 36) C0 hu_12 hW mR_25 dX12_plainHold_36 ?_
  refine lv_iload_n (pc := 39) hx hb dX12_plainHold_39 rfl (lv_at hl 1 rfl) ?_
  obtain ⟨i9, hf⟩ := zn hf
  refine rl_31 (pc := 40) C0 hW i9 dX12_plainHold_40 ?_
  refine lv_iadd (pc := 41) hx hb dX12_plainHold_41 ?_
  refine lv_imul (pc := 42) hx hb dX12_plainHold_42 ?_
  exact zend_i (w := wR cA h) fin hf hW dX12_plainHold_43

def fX12_holdOf_b42 (N : Nat) : Nat → Int32 → Int32 → Int32 → Int32 → Int32 → zSt → Option (Int32 × zSt)
  | 0, _, _, _, _, _, _ => none
  | n + 1, v3, v4, v5, v6, v7, S =>
    if (S.1 33) ≤ v7 then (if ¬ (S.1 33) = 0 then some (((v5 + (v6 / (S.1 33))) / 2), S) else none) else (if zin v7 5 then zB (fX12_plainHold (S.2.1 34 (Int32.toNatClampNeg v7)) v3 v4 S) fun r4 S5 => fX12_holdOf_b42 N n v3 v4 v5 (v6 + r4) (v7 + 1) S5 else none)
def fX12_holdOf (N : Nat) (p1 : Int32) (p2 : Int32) (p3 : Int32) (p4 : Int32) (S : zSt) : Option (Int32 × zSt) :=
  if zin p1 5 then zB (fX12_plainHold (S.2.1 34 (Int32.toNatClampNeg p1)) p3 p4 S) fun r8 S9 => if p2 = 0 then (some ((r8 + (r8 / 10)), S9)) else (if p2 = 3 then (fX12_holdOf_b42 N N p3 p4 r8 0 0 S9) else (some (r8, S9))) else none
abbrev wX12_holdOf : List Cond := Cond.code yX12_holdOf cX12_holdOf 8 (some .int) :: waR
abbrev rmX12_holdOf : Room := { frames := 2, cells := 0, slots := 0, locals := 45 }
set_option maxHeartbeats 4000000 in
set_option maxRecDepth 100000 in
theorem kX12_holdOf (l : Launch) (D : va_G) (cA : Nat → ClassId) (h : Nat → Nat) (sz : Nat) (N : Nat)  (p1 : Int32) (p2 : Int32) (p3 : Int32) (p4 : Int32) (S : zSt) (r : Int32) (S1 : zSt) (hf : fX12_holdOf N p1 p2 p3 p4 S = some (r, S1)) : zMi l yX12_holdOf wX12_holdOf rmX12_holdOf zTr D (tR cA) (hsR h) [.ref (h 0), .int p1, .int p2, .int p3, .int p4] (wR cA h S) (wR cA h S1) sz r := by
  refine zEn_i (cc := cX12_holdOf) (maxL := 8) (own := RX12) (by decide) rfl rfl (hmR cA h S) (Nat.le_of_ble_eq_true rfl) ?_
  intro p e s m args below meth c Q H locs C0 hW fin ls hl
  have hl : lv_has ls 8 [(0, .ref (h 0)), (1, .int p1), (2, .int p2), (3, .int p3), (4, .int p4)] := hl
  have hx := C0.1
  have hb := C0.2.1
  have hown := C0.2.2.2.1
  have hts := C0.2.2.2.2
  have w42 : ∀ (n : Nat), ∀ (v3 : Int32) (v4 : Int32) (v5 : Int32) (v6 : Int32) (v7 : Int32) (S : zSt) (H : Heap) (locs : List Loc), zW zTr D (tR cA) (wR cA h S) (aW (hsR h) s.heap.size) s H locs → ∀ ls : Array Slot, lv_has ls 8 [(0, .ref (h 0)), (3, .int v3), (4, .int v4), (5, .int v5), (6, .int v6), (7, .int v7)] → fX12_holdOf_b42 N n v3 v4 v5 v6 v7 S = some (r, S1) → W p l e rmX12_holdOf s m args below meth c H locs 0 0 Q (F0 m 42 ls []) := by
    intro n
    induction n with
    | zero =>
      intro v3 v4 v5 v6 v7 S H locs hW ls hl hf
      exact absurd hf (by intro h; cases h)
    | succ n ih =>
      intro v3 v4 v5 v6 v7 S H locs hW ls hl hf
      rw [fX12_holdOf_b42] at hf
      refine lv_iload (pc := 42) hx hb dX12_holdOf_42 (lv_at hl 5 rfl) ?_
      refine lv_aload_n (pc := 44) hx hb dX12_holdOf_44 rfl (lv_at hl 0 rfl) ?_
      refine rg_33 (pc := 45) C0 hu_12 hW mR_203 dX12_holdOf_45 ?_
      refine lv_icmp_ge (pc := 48) (tgt := 76) hx hb dX12_holdOf_48 (by decide) (fun c1 => ?_) (fun c1 => ?_)
      · have hf := zt c1 hf
        refine lv_iload (pc := 76) hx hb dX12_holdOf_76 (lv_at hl 3 rfl) ?_
        refine lv_iload (pc := 78) hx hb dX12_holdOf_78 (lv_at hl 4 rfl) ?_
        refine lv_aload_n (pc := 80) hx hb dX12_holdOf_80 rfl (lv_at hl 0 rfl) ?_
        refine rg_33 (pc := 81) C0 hu_12 hW mR_203 dX12_holdOf_81 ?_
        obtain ⟨i2, hf⟩ := zn hf
        refine lv_idiv (pc := 84) hx hb dX12_holdOf_84 i2 ?_
        refine lv_iadd (pc := 85) hx hb dX12_holdOf_85 ?_
        refine lv_iconst (pc := 86) (v := 2) hx hb dX12_holdOf_86 (by decide) ?_
        refine lv_idiv (pc := 87) hx hb dX12_holdOf_87 (by decide) ?_
        exact zend_i (w := wR cA h) fin hf hW dX12_holdOf_88
      · have hf := zf c1 hf
        refine lv_iload (pc := 51) hx hb dX12_holdOf_51 (lv_at hl 4 rfl) ?_
        refine lv_aload_n (pc := 53) hx hb dX12_holdOf_53 rfl (lv_at hl 0 rfl) ?_
        refine lv_aload_n (pc := 54) hx hb dX12_holdOf_54 rfl (lv_at hl 0 rfl) ?_
        refine rg_34 (pc := 55) C0 hu_12 hW mR_27 dX12_holdOf_55 ?_
        refine lv_iload (pc := 58) hx hb dX12_holdOf_58 (lv_at hl 5 rfl) ?_
        obtain ⟨i3, hf⟩ := zn hf
        refine rl_34 (pc := 60) C0 hW i3 dX12_holdOf_60 ?_
        refine lv_iload_n (pc := 61) hx hb dX12_holdOf_61 rfl (lv_at hl 1 rfl) ?_
        refine lv_iload (pc := 62) hx hb dX12_holdOf_62 (lv_at hl 2 rfl) ?_
        obtain ⟨r4, S5, e6, hf⟩ := zB_e hf
        refine zcVi zTr_ok (As := [.int (S.2.1 34 (Int32.toNatClampNeg v7)), .int v3, .int v4]) (pc := 64) C0 hW (kX12_plainHold l D cA h H.size (S.2.1 34 (Int32.toNatClampNeg v7)) v3 v4 S r4 S5 e6) (cwV 3 hts (zgV gaR mR_216 mR_217 mR_218 mR_46 mR_211) rfl rfl rfl (by decide +kernel) ⟨Nat.le_of_ble_eq_true rfl, Nat.le_of_ble_eq_true rfl⟩) (va_recv hW.1 hW.2.1 (ci := 12) (q0 := 0) rfl rfl) rfl hl.1 rfl (Nat.le_of_ble_eq_true rfl) dX12_holdOf_64 (fun H locs hW => ?_)
        refine lv_iadd (pc := 67) hx hb dX12_holdOf_67 ?_
        refine lv_istore (pc := 68) (lv' := [(6, .int (v6 + r4)), (0, .ref (h 0)), (3, .int v3), (4, .int v4), (5, .int v5), (7, .int v7)]) hx hb dX12_holdOf_68 hl (by decide) rfl (fun ls hl => ?_)
        refine lv_iinc (pc := 70) (v := (v7 + 1)) (lv' := [(7, .int (v7 + 1)), (6, .int (v6 + r4)), (0, .ref (h 0)), (3, .int v3), (4, .int v4), (5, .int v5)]) hx hb dX12_holdOf_70 hl (k := 5) rfl (by rfl) (by decide) rfl (fun ls hl => ?_)
        refine lv_goto (pc := 73) (tgt := 42) hx hb dX12_holdOf_73 (by decide) ?_
        exact ih v3 v4 v5 (v6 + r4) (v7 + 1) S5 H locs hW ls (lv_sub hl [2, 3, 4, 5, 1, 0] rfl) hf
  unfold fX12_holdOf at hf
  refine lv_aload_n (pc := 0) hx hb dX12_holdOf_0 rfl (lv_at hl 0 rfl) ?_
  refine lv_aload_n (pc := 1) hx hb dX12_holdOf_1 rfl (lv_at hl 0 rfl) ?_
  refine rg_34 (pc := 2) C0 hu_12 hW mR_27 dX12_holdOf_2 ?_
  refine lv_iload_n (pc := 5) hx hb dX12_holdOf_5 rfl (lv_at hl 1 rfl) ?_
  obtain ⟨i7, hf⟩ := zn hf
  refine rl_34 (pc := 6) C0 hW i7 dX12_holdOf_6 ?_
  refine lv_iload_n (pc := 7) hx hb dX12_holdOf_7 rfl (lv_at hl 3 rfl) ?_
  refine lv_iload (pc := 8) hx hb dX12_holdOf_8 (lv_at hl 4 rfl) ?_
  obtain ⟨r8, S9, e10, hf⟩ := zB_e hf
  refine zcVi zTr_ok (As := [.int (S.2.1 34 (Int32.toNatClampNeg p1)), .int p3, .int p4]) (pc := 10) C0 hW (kX12_plainHold l D cA h H.size (S.2.1 34 (Int32.toNatClampNeg p1)) p3 p4 S r8 S9 e10) (cwV 3 hts (zgV gaR mR_216 mR_217 mR_218 mR_46 mR_211) rfl rfl rfl (by decide +kernel) ⟨Nat.le_of_ble_eq_true rfl, Nat.le_of_ble_eq_true rfl⟩) (va_recv hW.1 hW.2.1 (ci := 12) (q0 := 0) rfl rfl) rfl hl.1 rfl (Nat.le_of_ble_eq_true rfl) dX12_holdOf_10 (fun H locs hW => ?_)
  refine lv_istore (pc := 13) (lv' := [(5, .int r8), (0, .ref (h 0)), (1, .int p1), (2, .int p2), (3, .int p3), (4, .int p4)]) hx hb dX12_holdOf_13 hl (by decide) rfl (fun ls hl => ?_)
  refine lv_iload_n (pc := 15) hx hb dX12_holdOf_15 rfl (lv_at hl 3 rfl) ?_
  refine lv_if_ne (pc := 16) (tgt := 28) hx hb dX12_holdOf_16 (by decide) (fun c11 => ?_) (fun c11 => ?_)
  · have hf := zf c11 hf
    refine lv_iload_n (pc := 28) hx hb dX12_holdOf_28 rfl (lv_at hl 3 rfl) ?_
    refine lv_iconst (pc := 29) (v := 3) hx hb dX12_holdOf_29 (by decide) ?_
    refine lv_icmp_eq (pc := 30) (tgt := 36) hx hb dX12_holdOf_30 (by decide) (fun c12 => ?_) (fun c12 => ?_)
    · have hf := zt c12 hf
      refine lv_iconst (pc := 36) (v := 0) hx hb dX12_holdOf_36 (by decide) ?_
      refine lv_istore (pc := 37) (lv' := [(6, .int 0), (5, .int r8), (0, .ref (h 0)), (1, .int p1), (2, .int p2), (3, .int p3), (4, .int p4)]) hx hb dX12_holdOf_37 hl (by decide) rfl (fun ls hl => ?_)
      refine lv_iconst (pc := 39) (v := 0) hx hb dX12_holdOf_39 (by decide) ?_
      refine lv_istore (pc := 40) (lv' := [(7, .int 0), (6, .int 0), (5, .int r8), (0, .ref (h 0)), (1, .int p1), (2, .int p2), (3, .int p3), (4, .int p4)]) hx hb dX12_holdOf_40 hl (by decide) rfl (fun ls hl => ?_)
      exact w42 N p3 p4 r8 0 0 S9 H locs hW ls (lv_sub hl [3, 6, 7, 2, 1, 0] rfl) hf
    · have hf := zf c12 hf
      refine lv_iload (pc := 33) hx hb dX12_holdOf_33 (lv_at hl 0 rfl) ?_
      exact zend_i (w := wR cA h) fin hf hW dX12_holdOf_35
  · have hf := zt c11 hf
    refine lv_iload (pc := 19) hx hb dX12_holdOf_19 (lv_at hl 0 rfl) ?_
    refine lv_iload (pc := 21) hx hb dX12_holdOf_21 (lv_at hl 0 rfl) ?_
    refine lv_bipush (pc := 23) (v := 10) hx hb dX12_holdOf_23 (by decide) ?_
    refine lv_idiv (pc := 25) hx hb dX12_holdOf_25 (by decide) ?_
    refine lv_iadd (pc := 26) hx hb dX12_holdOf_26 ?_
    exact zend_i (w := wR cA h) fin hf hW dX12_holdOf_27

def fX12_pushOf (p1 : Int32) (p2 : Int32) (p3 : Int32) (p4 : Int32) (S : zSt) : Option (Int32 × zSt) :=
  zB (fX12_sunk p1 p2 S) fun r1 S2 => some (((((r1 * p3) * p3) * p4) / 1000), S2)
abbrev wX12_pushOf : List Cond := Cond.code yX12_pushOf cX12_pushOf 5 (some .int) :: waR
abbrev rmX12_pushOf : Room := { frames := 1, cells := 0, slots := 0, locals := 22 }
set_option maxHeartbeats 4000000 in
set_option maxRecDepth 100000 in
theorem kX12_pushOf (l : Launch) (D : va_G) (cA : Nat → ClassId) (h : Nat → Nat) (sz : Nat)  (p1 : Int32) (p2 : Int32) (p3 : Int32) (p4 : Int32) (S : zSt) (r : Int32) (S1 : zSt) (hf : fX12_pushOf p1 p2 p3 p4 S = some (r, S1)) : zMi l yX12_pushOf wX12_pushOf rmX12_pushOf zTr D (tR cA) (hsR h) [.ref (h 0), .int p1, .int p2, .int p3, .int p4] (wR cA h S) (wR cA h S1) sz r := by
  refine zEn_i (cc := cX12_pushOf) (maxL := 5) (own := RX12) (by decide) rfl rfl (hmR cA h S) (Nat.le_of_ble_eq_true rfl) ?_
  intro p e s m args below meth c Q H locs C0 hW fin ls hl
  have hl : lv_has ls 5 [(0, .ref (h 0)), (1, .int p1), (2, .int p2), (3, .int p3), (4, .int p4)] := hl
  have hx := C0.1
  have hb := C0.2.1
  have hown := C0.2.2.2.1
  have hts := C0.2.2.2.2
  unfold fX12_pushOf at hf
  refine lv_aload_n (pc := 0) hx hb dX12_pushOf_0 rfl (lv_at hl 0 rfl) ?_
  refine lv_iload_n (pc := 1) hx hb dX12_pushOf_1 rfl (lv_at hl 1 rfl) ?_
  refine lv_iload_n (pc := 2) hx hb dX12_pushOf_2 rfl (lv_at hl 2 rfl) ?_
  obtain ⟨r1, S2, e3, hf⟩ := zB_e hf
  refine zcVi zTr_ok (As := [.int p1, .int p2]) (pc := 3) C0 hW (kX12_sunk l D cA h H.size p1 p2 S r1 S2 e3) (cwV 2 hts (zgV gaR mR_212 mR_213 mR_214 mR_46 mR_210) rfl rfl rfl (by decide +kernel) ⟨Nat.le_of_ble_eq_true rfl, Nat.le_of_ble_eq_true rfl⟩) (va_recv hW.1 hW.2.1 (ci := 12) (q0 := 0) rfl rfl) rfl hl.1 rfl (Nat.le_of_ble_eq_true rfl) dX12_pushOf_3 (fun H locs hW => ?_)
  refine lv_iload_n (pc := 6) hx hb dX12_pushOf_6 rfl (lv_at hl 3 rfl) ?_
  refine lv_imul (pc := 7) hx hb dX12_pushOf_7 ?_
  refine lv_iload_n (pc := 8) hx hb dX12_pushOf_8 rfl (lv_at hl 3 rfl) ?_
  refine lv_imul (pc := 9) hx hb dX12_pushOf_9 ?_
  refine lv_iload (pc := 10) hx hb dX12_pushOf_10 (lv_at hl 4 rfl) ?_
  refine lv_imul (pc := 12) hx hb dX12_pushOf_12 ?_
  refine lv_sipush (pc := 13) (v := 1000) hx hb dX12_pushOf_13 (by decide) ?_
  refine lv_idiv (pc := 16) hx hb dX12_pushOf_16 (by decide) ?_
  exact zend_i (w := wR cA h) fin hf hW dX12_pushOf_17

def fX12_marginIn (N : Nat) (p1 : Int32) (p2 : Int32) (p3 : Int32) (p4 : Int32) (p5 : Int32) (S : zSt) : Option (Int32 × zSt) :=
  zB (fX12_depthAt p1 p2 p3 S) fun r1 S2 => if zin p4 5 then if zin (S2.2.1 34 (Int32.toNatClampNeg p4)) 8 then if r1 < (S2.2.1 30 (Int32.toNatClampNeg (S2.2.1 34 (Int32.toNatClampNeg p4)))) then (if zin (((36 * p1) + (3 * p2)) + 2) 252 then zB (fX12_holdOf N p4 p5 r1 (S2.2.1 6 (Int32.toNatClampNeg (((36 * p1) + (3 * p2)) + 2))) S2) fun r8 S9 => if zin p4 5 then zB (fX12_paceAt p1 p2 p3 S9) fun r12 S13 => if zin p2 12 then zU (fX12_lee p5 p4) fun r16 => zB (fX12_pushOf (S9.2.1 34 (Int32.toNatClampNeg p4)) r1 (r12 + (S13.2.1 35 (Int32.toNatClampNeg p2))) r16 S13) fun r19 S20 => some ((r8 - r19), S20) else none else none else none) else (some ((-9999), S2)) else none else none
abbrev wX12_marginIn : List Cond := Cond.code yX12_marginIn cX12_marginIn 7 (some .int) :: waR
abbrev rmX12_marginIn : Room := { frames := 3, cells := 0, slots := 0, locals := 72 }
set_option maxHeartbeats 4000000 in
set_option maxRecDepth 100000 in
theorem kX12_marginIn (l : Launch) (D : va_G) (cA : Nat → ClassId) (h : Nat → Nat) (sz : Nat) (N : Nat)  (p1 : Int32) (p2 : Int32) (p3 : Int32) (p4 : Int32) (p5 : Int32) (S : zSt) (r : Int32) (S1 : zSt) (hf : fX12_marginIn N p1 p2 p3 p4 p5 S = some (r, S1)) : zMi l yX12_marginIn wX12_marginIn rmX12_marginIn zTr D (tR cA) (hsR h) [.ref (h 0), .int p1, .int p2, .int p3, .int p4, .int p5] (wR cA h S) (wR cA h S1) sz r := by
  refine zEn_i (cc := cX12_marginIn) (maxL := 7) (own := RX12) (by decide) rfl rfl (hmR cA h S) (Nat.le_of_ble_eq_true rfl) ?_
  intro p e s m args below meth c Q H locs C0 hW fin ls hl
  have hl : lv_has ls 7 [(0, .ref (h 0)), (1, .int p1), (2, .int p2), (3, .int p3), (4, .int p4), (5, .int p5)] := hl
  have hx := C0.1
  have hb := C0.2.1
  have hown := C0.2.2.2.1
  have hts := C0.2.2.2.2
  unfold fX12_marginIn at hf
  refine lv_aload_n (pc := 0) hx hb dX12_marginIn_0 rfl (lv_at hl 0 rfl) ?_
  refine lv_iload_n (pc := 1) hx hb dX12_marginIn_1 rfl (lv_at hl 1 rfl) ?_
  refine lv_iload_n (pc := 2) hx hb dX12_marginIn_2 rfl (lv_at hl 2 rfl) ?_
  refine lv_iload_n (pc := 3) hx hb dX12_marginIn_3 rfl (lv_at hl 3 rfl) ?_
  obtain ⟨r1, S2, e3, hf⟩ := zB_e hf
  refine zcVi zTr_ok (As := [.int p1, .int p2, .int p3]) (pc := 4) C0 hW (kX12_depthAt l D cA h H.size p1 p2 p3 S r1 S2 e3) (cwV 3 hts (zgV gaR mR_188 mR_189 mR_190 mR_46 mR_185) rfl rfl rfl (by decide +kernel) ⟨Nat.le_of_ble_eq_true rfl, Nat.le_of_ble_eq_true rfl⟩) (va_recv hW.1 hW.2.1 (ci := 12) (q0 := 0) rfl rfl) rfl hl.1 rfl (Nat.le_of_ble_eq_true rfl) dX12_marginIn_4 (fun H locs hW => ?_)
  refine lv_istore (pc := 7) (lv' := [(6, .int r1), (0, .ref (h 0)), (1, .int p1), (2, .int p2), (3, .int p3), (4, .int p4), (5, .int p5)]) hx hb dX12_marginIn_7 hl (by decide) rfl (fun ls hl => ?_)
  refine lv_iload (pc := 9) hx hb dX12_marginIn_9 (lv_at hl 0 rfl) ?_
  refine lv_aload_n (pc := 11) hx hb dX12_marginIn_11 rfl (lv_at hl 1 rfl) ?_
  refine rg_30 (pc := 12) C0 hu_12 hW mR_24 dX12_marginIn_12 ?_
  refine lv_aload_n (pc := 15) hx hb dX12_marginIn_15 rfl (lv_at hl 1 rfl) ?_
  refine rg_34 (pc := 16) C0 hu_12 hW mR_27 dX12_marginIn_16 ?_
  refine lv_iload (pc := 19) hx hb dX12_marginIn_19 (lv_at hl 5 rfl) ?_
  obtain ⟨i4, hf⟩ := zn hf
  refine rl_34 (pc := 21) C0 hW i4 dX12_marginIn_21 ?_
  obtain ⟨i5, hf⟩ := zn hf
  refine rl_30 (pc := 22) C0 hW i5 dX12_marginIn_22 ?_
  refine lv_icmp_lt (pc := 23) (tgt := 30) hx hb dX12_marginIn_23 (by decide) (fun c6 => ?_) (fun c6 => ?_)
  · have hf := zt c6 hf
    refine lv_aload_n (pc := 30) hx hb dX12_marginIn_30 rfl (lv_at hl 1 rfl) ?_
    refine lv_iload (pc := 31) hx hb dX12_marginIn_31 (lv_at hl 5 rfl) ?_
    refine lv_iload (pc := 33) hx hb dX12_marginIn_33 (lv_at hl 6 rfl) ?_
    refine lv_iload (pc := 35) hx hb dX12_marginIn_35 (lv_at hl 0 rfl) ?_
    refine lv_aload_n (pc := 37) hx hb dX12_marginIn_37 rfl (lv_at hl 1 rfl) ?_
    refine rg_6 (pc := 38) C0 hu_12 hW mR_9 dX12_marginIn_38 ?_
    refine lv_bipush (pc := 41) (v := 36) hx hb dX12_marginIn_41 (by decide) ?_
    refine lv_iload_n (pc := 43) hx hb dX12_marginIn_43 rfl (lv_at hl 2 rfl) ?_
    refine lv_imul (pc := 44) hx hb dX12_marginIn_44 ?_
    refine lv_iconst (pc := 45) (v := 3) hx hb dX12_marginIn_45 (by decide) ?_
    refine lv_iload_n (pc := 46) hx hb dX12_marginIn_46 rfl (lv_at hl 3 rfl) ?_
    refine lv_imul (pc := 47) hx hb dX12_marginIn_47 ?_
    refine lv_iadd (pc := 48) hx hb dX12_marginIn_48 ?_
    refine lv_iconst (pc := 49) (v := 2) hx hb dX12_marginIn_49 (by decide) ?_
    refine lv_iadd (pc := 50) hx hb dX12_marginIn_50 ?_
    obtain ⟨i7, hf⟩ := zn hf
    refine rl_6 (pc := 51) C0 hW i7 dX12_marginIn_51 ?_
    obtain ⟨r8, S9, e10, hf⟩ := zB_e hf
    refine zcVi zTr_ok (As := [.int p4, .int p5, .int r1, .int (S2.2.1 6 (Int32.toNatClampNeg (((36 * p1) + (3 * p2)) + 2)))]) (pc := 52) C0 hW (kX12_holdOf l D cA h H.size N p4 p5 r1 (S2.2.1 6 (Int32.toNatClampNeg (((36 * p1) + (3 * p2)) + 2))) S2 r8 S9 e10) (cwV 4 hts (zgV gaR mR_221 mR_222 mR_223 mR_46 mR_215) rfl rfl rfl (by decide +kernel) ⟨Nat.le_of_ble_eq_true rfl, Nat.le_of_ble_eq_true rfl⟩) (va_recv hW.1 hW.2.1 (ci := 12) (q0 := 0) rfl rfl) rfl hl.1 rfl (Nat.le_of_ble_eq_true rfl) dX12_marginIn_52 (fun H locs hW => ?_)
    refine lv_aload_n (pc := 55) hx hb dX12_marginIn_55 rfl (lv_at hl 1 rfl) ?_
    refine lv_aload_n (pc := 56) hx hb dX12_marginIn_56 rfl (lv_at hl 1 rfl) ?_
    refine rg_34 (pc := 57) C0 hu_12 hW mR_27 dX12_marginIn_57 ?_
    refine lv_iload (pc := 60) hx hb dX12_marginIn_60 (lv_at hl 5 rfl) ?_
    obtain ⟨i11, hf⟩ := zn hf
    refine rl_34 (pc := 62) C0 hW i11 dX12_marginIn_62 ?_
    refine lv_iload (pc := 63) hx hb dX12_marginIn_63 (lv_at hl 0 rfl) ?_
    refine lv_aload_n (pc := 65) hx hb dX12_marginIn_65 rfl (lv_at hl 1 rfl) ?_
    refine lv_iload_n (pc := 66) hx hb dX12_marginIn_66 rfl (lv_at hl 2 rfl) ?_
    refine lv_iload_n (pc := 67) hx hb dX12_marginIn_67 rfl (lv_at hl 3 rfl) ?_
    refine lv_iload_n (pc := 68) hx hb dX12_marginIn_68 rfl (lv_at hl 4 rfl) ?_
    obtain ⟨r12, S13, e14, hf⟩ := zB_e hf
    refine zcVi zTr_ok (As := [.int p1, .int p2, .int p3]) (pc := 69) C0 hW (kX12_paceAt l D cA h H.size p1 p2 p3 S9 r12 S13 e14) (cwV 3 hts (zgV gaR mR_191 mR_192 mR_193 mR_46 mR_186) rfl rfl rfl (by decide +kernel) ⟨Nat.le_of_ble_eq_true rfl, Nat.le_of_ble_eq_true rfl⟩) (va_recv hW.1 hW.2.1 (ci := 12) (q0 := 0) rfl rfl) rfl hl.1 rfl (Nat.le_of_ble_eq_true rfl) dX12_marginIn_69 (fun H locs hW => ?_)
    refine lv_aload_n (pc := 72) hx hb dX12_marginIn_72 rfl (lv_at hl 1 rfl) ?_
    refine rg_35 (pc := 73) C0 hu_12 hW mR_28 dX12_marginIn_73 ?_
    refine lv_iload_n (pc := 76) hx hb dX12_marginIn_76 rfl (lv_at hl 3 rfl) ?_
    obtain ⟨i15, hf⟩ := zn hf
    refine rl_35 (pc := 77) C0 hW i15 dX12_marginIn_77 ?_
    refine lv_iadd (pc := 78) hx hb dX12_marginIn_78 ?_
    refine lv_iload (pc := 79) hx hb dX12_marginIn_79 (lv_at hl 6 rfl) ?_
    refine lv_iload (pc := 81) hx hb dX12_marginIn_81 (lv_at hl 5 rfl) ?_
    obtain ⟨r16, e18, hf⟩ := zU_e hf
    refine zcSi (As := [.int p5, .int p4]) (pc := 83) C0 hW (kX12_lee l H.size p5 p4 r16 e18) (va_cwS 2 hts (zgS gaR mR_224 mR_225 mR_46 mR_209) rfl rfl rfl (by decide +kernel) ⟨Nat.le_of_ble_eq_true rfl, Nat.le_of_ble_eq_true rfl⟩) rfl hl.1 rfl (Nat.le_of_ble_eq_true rfl) dX12_marginIn_83 (fun H locs hW => ?_)
    obtain ⟨r19, S20, e21, hf⟩ := zB_e hf
    refine zcVi zTr_ok (As := [.int (S9.2.1 34 (Int32.toNatClampNeg p4)), .int r1, .int (r12 + (S13.2.1 35 (Int32.toNatClampNeg p2))), .int r16]) (pc := 86) C0 hW (kX12_pushOf l D cA h H.size (S9.2.1 34 (Int32.toNatClampNeg p4)) r1 (r12 + (S13.2.1 35 (Int32.toNatClampNeg p2))) r16 S13 r19 S20 e21) (cwV 4 hts (zgV gaR mR_226 mR_227 mR_228 mR_46 mR_219) rfl rfl rfl (by decide +kernel) ⟨Nat.le_of_ble_eq_true rfl, Nat.le_of_ble_eq_true rfl⟩) (va_recv hW.1 hW.2.1 (ci := 12) (q0 := 0) rfl rfl) rfl hl.1 rfl (Nat.le_of_ble_eq_true rfl) dX12_marginIn_86 (fun H locs hW => ?_)
    refine lv_isub (pc := 89) hx hb dX12_marginIn_89 ?_
    exact zend_i (w := wR cA h) fin hf hW dX12_marginIn_90
  · have hf := zf c6 hf
    refine lv_sipush (pc := 26) (v := (-9999)) hx hb dX12_marginIn_26 (by decide) ?_
    exact zend_i (w := wR cA h) fin hf hW dX12_marginIn_29

def fX12_margin (N : Nat) (p1 : Int32) (p2 : Int32) (p3 : Int32) (p4 : Int32) (S : zSt) : Option (Int32 × zSt) :=
  zB (fX12_isAt p1 S) fun r1 S2 => if r1 = 0 then (some ((-2000000000), S2)) else (zB (fX12_areSo N p2 S2) fun r5 S6 => if r5 = 0 then (some ((-2000000000), S6)) else (if p3 < 0 then (some ((-2000000000), S6)) else (if (S6.1 33) ≤ (p3 / 100) then (some ((-2000000000), S6)) else (zB (fX12_isCell (p1 / 100) (p3 - p3 / 100 * 100) S6) fun r11 S12 => if r11 = 0 then (some ((-2000000000), S12)) else (zU (fX12_in p4 0 2) fun r15 => if r15 = 0 then (some ((-2000000000), S12)) else (zB (fX12_riseBy N (S12.1 25) (p1 - p1 / 100 * 100) S12) fun r19 S20 => if p4 = 0 then (zB (fX12_marginIn N (p1 / 100) (p3 - p3 / 100 * 100) r19 (p3 / 100) (p2 - p2 / 10 * 10) S20) fun r41 S42 => some (r41, S42)) else (zB (fX12_depthAt (p1 / 100) (p3 - p3 / 100 * 100) r19 S20) fun r23 S24 => if p4 = 1 then (if zin (((36 * (p1 / 100)) + (3 * (p3 - p3 / 100 * 100))) + 2) 252 then zB (fX12_holdOf N (p3 / 100) (p2 - p2 / 10 * 10) r23 (S24.2.1 6 (Int32.toNatClampNeg (((36 * (p1 / 100)) + (3 * (p3 - p3 / 100 * 100))) + 2))) S24) fun r38 S39 => some (r38, S39) else none) else (if zin (p3 / 100) 5 then zB (fX12_paceAt (p1 / 100) (p3 - p3 / 100 * 100) r19 S24) fun r28 S29 => zU (fX12_lee (p2 - p2 / 10 * 10) (p3 / 100)) fun r31 => zB (fX12_pushOf (S24.2.1 34 (Int32.toNatClampNeg (p3 / 100))) r23 r28 r31 S29) fun r34 S35 => some (r34, S35) else none))))))))
abbrev wX12_margin : List Cond := Cond.code yX12_margin cX12_margin 9 (some .int) :: waR
abbrev rmX12_margin : Room := { frames := 4, cells := 0, slots := 0, locals := 98 }
set_option maxHeartbeats 4000000 in
set_option maxRecDepth 100000 in
theorem kX12_margin (l : Launch) (D : va_G) (cA : Nat → ClassId) (h : Nat → Nat) (sz : Nat) (N : Nat)  (p1 : Int32) (p2 : Int32) (p3 : Int32) (p4 : Int32) (S : zSt) (r : Int32) (S1 : zSt) (hf : fX12_margin N p1 p2 p3 p4 S = some (r, S1)) : zMi l yX12_margin wX12_margin rmX12_margin zTr D (tR cA) (hsR h) [.ref (h 0), .int p1, .int p2, .int p3, .int p4] (wR cA h S) (wR cA h S1) sz r := by
  refine zEn_i (cc := cX12_margin) (maxL := 9) (own := RX12) (by decide) rfl rfl (hmR cA h S) (Nat.le_of_ble_eq_true rfl) ?_
  intro p e s m args below meth c Q H locs C0 hW fin ls hl
  have hl : lv_has ls 9 [(0, .ref (h 0)), (1, .int p1), (2, .int p2), (3, .int p3), (4, .int p4)] := hl
  have hx := C0.1
  have hb := C0.2.1
  have hown := C0.2.2.2.1
  have hts := C0.2.2.2.2
  unfold fX12_margin at hf
  refine lv_aload_n (pc := 0) hx hb dX12_margin_0 rfl (lv_at hl 0 rfl) ?_
  refine lv_iload_n (pc := 1) hx hb dX12_margin_1 rfl (lv_at hl 1 rfl) ?_
  obtain ⟨r1, S2, e3, hf⟩ := zB_e hf
  refine zcVi zTr_ok (As := [.int p1]) (pc := 2) C0 hW (kX12_isAt l D cA h H.size p1 S r1 S2 e3) (cwV 1 hts (zgV gaR mR_230 mR_231 mR_232 mR_46 mR_208) rfl rfl rfl (by decide +kernel) ⟨Nat.le_of_ble_eq_true rfl, Nat.le_of_ble_eq_true rfl⟩) (va_recv hW.1 hW.2.1 (ci := 12) (q0 := 0) rfl rfl) rfl hl.1 rfl (Nat.le_of_ble_eq_true rfl) dX12_margin_2 (fun H locs hW => ?_)
  refine lv_if_eq (pc := 5) (tgt := 56) hx hb dX12_margin_5 (by decide) (fun c4 => ?_) (fun c4 => ?_)
  · have hf := zt c4 hf
    refine lv_ldc (pc := 56) (v := (-2000000000)) hx hb hown (hts _ mR_179) dX12_margin_56 ?_
    exact zend_i (w := wR cA h) fin hf hW dX12_margin_58
  · have hf := zf c4 hf
    refine lv_aload_n (pc := 8) hx hb dX12_margin_8 rfl (lv_at hl 0 rfl) ?_
    refine lv_iload_n (pc := 9) hx hb dX12_margin_9 rfl (lv_at hl 2 rfl) ?_
    obtain ⟨r5, S6, e7, hf⟩ := zB_e hf
    refine zcVi zTr_ok (As := [.int p2]) (pc := 10) C0 hW (kX12_areSo l D cA h H.size N p2 S2 r5 S6 e7) (cwV 1 hts (zgV gaR mR_233 mR_234 mR_235 mR_46 mR_204) rfl rfl rfl (by decide +kernel) ⟨Nat.le_of_ble_eq_true rfl, Nat.le_of_ble_eq_true rfl⟩) (va_recv hW.1 hW.2.1 (ci := 12) (q0 := 0) rfl rfl) rfl hl.1 rfl (Nat.le_of_ble_eq_true rfl) dX12_margin_10 (fun H locs hW => ?_)
    refine lv_if_eq (pc := 13) (tgt := 56) hx hb dX12_margin_13 (by decide) (fun c8 => ?_) (fun c8 => ?_)
    · have hf := zt c8 hf
      refine lv_ldc (pc := 56) (v := (-2000000000)) hx hb hown (hts _ mR_179) dX12_margin_56 ?_
      exact zend_i (w := wR cA h) fin hf hW dX12_margin_58
    · have hf := zf c8 hf
      refine lv_iload_n (pc := 16) hx hb dX12_margin_16 rfl (lv_at hl 3 rfl) ?_
      refine lv_if_lt (pc := 17) (tgt := 56) hx hb dX12_margin_17 (by decide) (fun c9 => ?_) (fun c9 => ?_)
      · have hf := zt c9 hf
        refine lv_ldc (pc := 56) (v := (-2000000000)) hx hb hown (hts _ mR_179) dX12_margin_56 ?_
        exact zend_i (w := wR cA h) fin hf hW dX12_margin_58
      · have hf := zf c9 hf
        refine lv_iload_n (pc := 20) hx hb dX12_margin_20 rfl (lv_at hl 3 rfl) ?_
        refine lv_bipush (pc := 21) (v := 100) hx hb dX12_margin_21 (by decide) ?_
        refine lv_idiv (pc := 23) hx hb dX12_margin_23 (by decide) ?_
        refine lv_aload_n (pc := 24) hx hb dX12_margin_24 rfl (lv_at hl 0 rfl) ?_
        refine rg_33 (pc := 25) C0 hu_12 hW mR_203 dX12_margin_25 ?_
        refine lv_icmp_ge (pc := 28) (tgt := 56) hx hb dX12_margin_28 (by decide) (fun c10 => ?_) (fun c10 => ?_)
        · have hf := zt c10 hf
          refine lv_ldc (pc := 56) (v := (-2000000000)) hx hb hown (hts _ mR_179) dX12_margin_56 ?_
          exact zend_i (w := wR cA h) fin hf hW dX12_margin_58
        · have hf := zf c10 hf
          refine lv_aload_n (pc := 31) hx hb dX12_margin_31 rfl (lv_at hl 0 rfl) ?_
          refine lv_iload_n (pc := 32) hx hb dX12_margin_32 rfl (lv_at hl 1 rfl) ?_
          refine lv_bipush (pc := 33) (v := 100) hx hb dX12_margin_33 (by decide) ?_
          refine lv_idiv (pc := 35) hx hb dX12_margin_35 (by decide) ?_
          refine lv_iload_n (pc := 36) hx hb dX12_margin_36 rfl (lv_at hl 3 rfl) ?_
          refine lv_bipush (pc := 37) (v := 100) hx hb dX12_margin_37 (by decide) ?_
          refine lv_irem (pc := 39) hx hb dX12_margin_39 (by decide) ?_
          obtain ⟨r11, S12, e13, hf⟩ := zB_e hf
          refine zcVi zTr_ok (As := [.int (p1 / 100), .int (p3 - p3 / 100 * 100)]) (pc := 40) C0 hW (kX12_isCell l D cA h H.size (p1 / 100) (p3 - p3 / 100 * 100) S6 r11 S12 e13) (cwV 2 hts (zgV gaR mR_90 mR_91 mR_92 mR_46 mR_49) rfl rfl rfl (by decide +kernel) ⟨Nat.le_of_ble_eq_true rfl, Nat.le_of_ble_eq_true rfl⟩) (va_recv hW.1 hW.2.1 (ci := 12) (q0 := 0) rfl rfl) rfl hl.1 rfl (Nat.le_of_ble_eq_true rfl) dX12_margin_40 (fun H locs hW => ?_)
          refine lv_if_eq (pc := 43) (tgt := 56) hx hb dX12_margin_43 (by decide) (fun c14 => ?_) (fun c14 => ?_)
          · have hf := zt c14 hf
            refine lv_ldc (pc := 56) (v := (-2000000000)) hx hb hown (hts _ mR_179) dX12_margin_56 ?_
            exact zend_i (w := wR cA h) fin hf hW dX12_margin_58
          · have hf := zf c14 hf
            refine lv_iload (pc := 46) hx hb dX12_margin_46 (lv_at hl 4 rfl) ?_
            refine lv_iconst (pc := 48) (v := 0) hx hb dX12_margin_48 (by decide) ?_
            refine lv_iconst (pc := 49) (v := 2) hx hb dX12_margin_49 (by decide) ?_
            obtain ⟨r15, e17, hf⟩ := zU_e hf
            refine zcSi (As := [.int p4, .int 0, .int 2]) (pc := 50) C0 hW (kX12_in l H.size p4 0 2 r15 e17) (va_cwS 3 hts (zgS gaR mR_44 mR_45 mR_46 mR_39) rfl rfl rfl (by decide +kernel) ⟨Nat.le_of_ble_eq_true rfl, Nat.le_of_ble_eq_true rfl⟩) rfl hl.1 rfl (Nat.le_of_ble_eq_true rfl) dX12_margin_50 (fun H locs hW => ?_)
            refine lv_if_ne (pc := 53) (tgt := 59) hx hb dX12_margin_53 (by decide) (fun c18 => ?_) (fun c18 => ?_)
            · have hf := zf c18 hf
              refine lv_aload_n (pc := 59) hx hb dX12_margin_59 rfl (lv_at hl 0 rfl) ?_
              refine lv_aload_n (pc := 60) hx hb dX12_margin_60 rfl (lv_at hl 0 rfl) ?_
              refine rg_25 (pc := 61) C0 hu_12 hW mR_22 dX12_margin_61 ?_
              refine lv_iload_n (pc := 64) hx hb dX12_margin_64 rfl (lv_at hl 1 rfl) ?_
              refine lv_bipush (pc := 65) (v := 100) hx hb dX12_margin_65 (by decide) ?_
              refine lv_irem (pc := 67) hx hb dX12_margin_67 (by decide) ?_
              obtain ⟨r19, S20, e21, hf⟩ := zB_e hf
              refine zcVi zTr_ok (As := [.int (S12.1 25), .int (p1 - p1 / 100 * 100)]) (pc := 68) C0 hW (kX12_riseBy l D cA h H.size N (S12.1 25) (p1 - p1 / 100 * 100) S12 r19 S20 e21) (cwV 2 hts (zgV gaR mR_182 mR_183 mR_184 mR_46 mR_172) rfl rfl rfl (by decide +kernel) ⟨Nat.le_of_ble_eq_true rfl, Nat.le_of_ble_eq_true rfl⟩) (va_recv hW.1 hW.2.1 (ci := 12) (q0 := 0) rfl rfl) rfl hl.1 rfl (Nat.le_of_ble_eq_true rfl) dX12_margin_68 (fun H locs hW => ?_)
              refine lv_istore (pc := 71) (lv' := [(5, .int r19), (0, .ref (h 0)), (1, .int p1), (2, .int p2), (3, .int p3), (4, .int p4)]) hx hb dX12_margin_71 hl (by decide) rfl (fun ls hl => ?_)
              refine lv_iload_n (pc := 73) hx hb dX12_margin_73 rfl (lv_at hl 4 rfl) ?_
              refine lv_bipush (pc := 74) (v := 100) hx hb dX12_margin_74 (by decide) ?_
              refine lv_idiv (pc := 76) hx hb dX12_margin_76 (by decide) ?_
              refine lv_istore (pc := 77) (lv' := [(6, .int (p3 / 100)), (5, .int r19), (0, .ref (h 0)), (1, .int p1), (2, .int p2), (3, .int p3), (4, .int p4)]) hx hb dX12_margin_77 hl (by decide) rfl (fun ls hl => ?_)
              refine lv_iload_n (pc := 79) hx hb dX12_margin_79 rfl (lv_at hl 5 rfl) ?_
              refine lv_bipush (pc := 80) (v := 100) hx hb dX12_margin_80 (by decide) ?_
              refine lv_irem (pc := 82) hx hb dX12_margin_82 (by decide) ?_
              refine lv_istore (pc := 83) (lv' := [(7, .int (p3 - p3 / 100 * 100)), (6, .int (p3 / 100)), (5, .int r19), (0, .ref (h 0)), (1, .int p1), (2, .int p2), (3, .int p3), (4, .int p4)]) hx hb dX12_margin_83 hl (by decide) rfl (fun ls hl => ?_)
              refine lv_iload (pc := 85) hx hb dX12_margin_85 (lv_at hl 7 rfl) ?_
              refine lv_if_ne (pc := 87) (tgt := 109) hx hb dX12_margin_87 (by decide) (fun c22 => ?_) (fun c22 => ?_)
              · have hf := zf c22 hf
                refine lv_aload_n (pc := 109) hx hb dX12_margin_109 rfl (lv_at hl 3 rfl) ?_
                refine lv_iload_n (pc := 110) hx hb dX12_margin_110 rfl (lv_at hl 4 rfl) ?_
                refine lv_bipush (pc := 111) (v := 100) hx hb dX12_margin_111 (by decide) ?_
                refine lv_idiv (pc := 113) hx hb dX12_margin_113 (by decide) ?_
                refine lv_iload (pc := 114) hx hb dX12_margin_114 (lv_at hl 0 rfl) ?_
                refine lv_iload (pc := 116) hx hb dX12_margin_116 (lv_at hl 2 rfl) ?_
                obtain ⟨r23, S24, e25, hf⟩ := zB_e hf
                refine zcVi zTr_ok (As := [.int (p1 / 100), .int (p3 - p3 / 100 * 100), .int r19]) (pc := 118) C0 hW (kX12_depthAt l D cA h H.size (p1 / 100) (p3 - p3 / 100 * 100) r19 S20 r23 S24 e25) (cwV 3 hts (zgV gaR mR_188 mR_189 mR_190 mR_46 mR_185) rfl rfl rfl (by decide +kernel) ⟨Nat.le_of_ble_eq_true rfl, Nat.le_of_ble_eq_true rfl⟩) (va_recv hW.1 hW.2.1 (ci := 12) (q0 := 0) rfl rfl) rfl hl.1 rfl (Nat.le_of_ble_eq_true rfl) dX12_margin_118 (fun H locs hW => ?_)
                refine lv_istore (pc := 121) (lv' := [(8, .int r23), (7, .int (p3 - p3 / 100 * 100)), (6, .int (p3 / 100)), (5, .int r19), (0, .ref (h 0)), (1, .int p1), (2, .int p2), (3, .int p3), (4, .int p4)]) hx hb dX12_margin_121 hl (by decide) rfl (fun ls hl => ?_)
                refine lv_iload (pc := 123) hx hb dX12_margin_123 (lv_at hl 8 rfl) ?_
                refine lv_iconst (pc := 125) (v := 1) hx hb dX12_margin_125 (by decide) ?_
                refine lv_icmp_ne (pc := 126) (tgt := 163) hx hb dX12_margin_126 (by decide) (fun c26 => ?_) (fun c26 => ?_)
                · have hf := zf c26 hf
                  refine lv_aload_n (pc := 163) hx hb dX12_margin_163 rfl (lv_at hl 4 rfl) ?_
                  refine lv_aload_n (pc := 164) hx hb dX12_margin_164 rfl (lv_at hl 4 rfl) ?_
                  refine rg_34 (pc := 165) C0 hu_12 hW mR_27 dX12_margin_165 ?_
                  refine lv_iload (pc := 168) hx hb dX12_margin_168 (lv_at hl 2 rfl) ?_
                  obtain ⟨i27, hf⟩ := zn hf
                  refine rl_34 (pc := 170) C0 hW i27 dX12_margin_170 ?_
                  refine lv_iload (pc := 171) hx hb dX12_margin_171 (lv_at hl 0 rfl) ?_
                  refine lv_aload_n (pc := 173) hx hb dX12_margin_173 rfl (lv_at hl 4 rfl) ?_
                  refine lv_iload_n (pc := 174) hx hb dX12_margin_174 rfl (lv_at hl 5 rfl) ?_
                  refine lv_bipush (pc := 175) (v := 100) hx hb dX12_margin_175 (by decide) ?_
                  refine lv_idiv (pc := 177) hx hb dX12_margin_177 (by decide) ?_
                  refine lv_iload (pc := 178) hx hb dX12_margin_178 (lv_at hl 1 rfl) ?_
                  refine lv_iload (pc := 180) hx hb dX12_margin_180 (lv_at hl 3 rfl) ?_
                  obtain ⟨r28, S29, e30, hf⟩ := zB_e hf
                  refine zcVi zTr_ok (As := [.int (p1 / 100), .int (p3 - p3 / 100 * 100), .int r19]) (pc := 182) C0 hW (kX12_paceAt l D cA h H.size (p1 / 100) (p3 - p3 / 100 * 100) r19 S24 r28 S29 e30) (cwV 3 hts (zgV gaR mR_191 mR_192 mR_193 mR_46 mR_186) rfl rfl rfl (by decide +kernel) ⟨Nat.le_of_ble_eq_true rfl, Nat.le_of_ble_eq_true rfl⟩) (va_recv hW.1 hW.2.1 (ci := 12) (q0 := 0) rfl rfl) rfl hl.1 rfl (Nat.le_of_ble_eq_true rfl) dX12_margin_182 (fun H locs hW => ?_)
                  refine lv_iload_n (pc := 185) hx hb dX12_margin_185 rfl (lv_at hl 6 rfl) ?_
                  refine lv_bipush (pc := 186) (v := 10) hx hb dX12_margin_186 (by decide) ?_
                  refine lv_irem (pc := 188) hx hb dX12_margin_188 (by decide) ?_
                  refine lv_iload (pc := 189) hx hb dX12_margin_189 (lv_at hl 2 rfl) ?_
                  obtain ⟨r31, e33, hf⟩ := zU_e hf
                  refine zcSi (As := [.int (p2 - p2 / 10 * 10), .int (p3 / 100)]) (pc := 191) C0 hW (kX12_lee l H.size (p2 - p2 / 10 * 10) (p3 / 100) r31 e33) (va_cwS 2 hts (zgS gaR mR_224 mR_225 mR_46 mR_209) rfl rfl rfl (by decide +kernel) ⟨Nat.le_of_ble_eq_true rfl, Nat.le_of_ble_eq_true rfl⟩) rfl hl.1 rfl (Nat.le_of_ble_eq_true rfl) dX12_margin_191 (fun H locs hW => ?_)
                  obtain ⟨r34, S35, e36, hf⟩ := zB_e hf
                  refine zcVi zTr_ok (As := [.int (S24.2.1 34 (Int32.toNatClampNeg (p3 / 100))), .int r23, .int r28, .int r31]) (pc := 194) C0 hW (kX12_pushOf l D cA h H.size (S24.2.1 34 (Int32.toNatClampNeg (p3 / 100))) r23 r28 r31 S29 r34 S35 e36) (cwV 4 hts (zgV gaR mR_226 mR_227 mR_228 mR_46 mR_219) rfl rfl rfl (by decide +kernel) ⟨Nat.le_of_ble_eq_true rfl, Nat.le_of_ble_eq_true rfl⟩) (va_recv hW.1 hW.2.1 (ci := 12) (q0 := 0) rfl rfl) rfl hl.1 rfl (Nat.le_of_ble_eq_true rfl) dX12_margin_194 (fun H locs hW => ?_)
                  exact zend_i (w := wR cA h) fin hf hW dX12_margin_197
                · have hf := zt c26 hf
                  refine lv_aload_n (pc := 129) hx hb dX12_margin_129 rfl (lv_at hl 4 rfl) ?_
                  refine lv_iload (pc := 130) hx hb dX12_margin_130 (lv_at hl 2 rfl) ?_
                  refine lv_iload_n (pc := 132) hx hb dX12_margin_132 rfl (lv_at hl 6 rfl) ?_
                  refine lv_bipush (pc := 133) (v := 10) hx hb dX12_margin_133 (by decide) ?_
                  refine lv_irem (pc := 135) hx hb dX12_margin_135 (by decide) ?_
                  refine lv_iload (pc := 136) hx hb dX12_margin_136 (lv_at hl 0 rfl) ?_
                  refine lv_aload_n (pc := 138) hx hb dX12_margin_138 rfl (lv_at hl 4 rfl) ?_
                  refine rg_6 (pc := 139) C0 hu_12 hW mR_9 dX12_margin_139 ?_
                  refine lv_bipush (pc := 142) (v := 36) hx hb dX12_margin_142 (by decide) ?_
                  refine lv_iload_n (pc := 144) hx hb dX12_margin_144 rfl (lv_at hl 5 rfl) ?_
                  refine lv_bipush (pc := 145) (v := 100) hx hb dX12_margin_145 (by decide) ?_
                  refine lv_idiv (pc := 147) hx hb dX12_margin_147 (by decide) ?_
                  refine lv_imul (pc := 148) hx hb dX12_margin_148 ?_
                  refine lv_iconst (pc := 149) (v := 3) hx hb dX12_margin_149 (by decide) ?_
                  refine lv_iload (pc := 150) hx hb dX12_margin_150 (lv_at hl 1 rfl) ?_
                  refine lv_imul (pc := 152) hx hb dX12_margin_152 ?_
                  refine lv_iadd (pc := 153) hx hb dX12_margin_153 ?_
                  refine lv_iconst (pc := 154) (v := 2) hx hb dX12_margin_154 (by decide) ?_
                  refine lv_iadd (pc := 155) hx hb dX12_margin_155 ?_
                  obtain ⟨i37, hf⟩ := zn hf
                  refine rl_6 (pc := 156) C0 hW i37 dX12_margin_156 ?_
                  obtain ⟨r38, S39, e40, hf⟩ := zB_e hf
                  refine zcVi zTr_ok (As := [.int (p3 / 100), .int (p2 - p2 / 10 * 10), .int r23, .int (S24.2.1 6 (Int32.toNatClampNeg (((36 * (p1 / 100)) + (3 * (p3 - p3 / 100 * 100))) + 2)))]) (pc := 157) C0 hW (kX12_holdOf l D cA h H.size N (p3 / 100) (p2 - p2 / 10 * 10) r23 (S24.2.1 6 (Int32.toNatClampNeg (((36 * (p1 / 100)) + (3 * (p3 - p3 / 100 * 100))) + 2))) S24 r38 S39 e40) (cwV 4 hts (zgV gaR mR_221 mR_222 mR_223 mR_46 mR_215) rfl rfl rfl (by decide +kernel) ⟨Nat.le_of_ble_eq_true rfl, Nat.le_of_ble_eq_true rfl⟩) (va_recv hW.1 hW.2.1 (ci := 12) (q0 := 0) rfl rfl) rfl hl.1 rfl (Nat.le_of_ble_eq_true rfl) dX12_margin_157 (fun H locs hW => ?_)
                  refine lv_goto (pc := 160) (tgt := 197) hx hb dX12_margin_160 (by decide) ?_
                  exact zend_i (w := wR cA h) fin hf hW dX12_margin_197
              · have hf := zt c22 hf
                refine lv_aload_n (pc := 90) hx hb dX12_margin_90 rfl (lv_at hl 3 rfl) ?_
                refine lv_iload_n (pc := 91) hx hb dX12_margin_91 rfl (lv_at hl 4 rfl) ?_
                refine lv_bipush (pc := 92) (v := 100) hx hb dX12_margin_92 (by decide) ?_
                refine lv_idiv (pc := 94) hx hb dX12_margin_94 (by decide) ?_
                refine lv_iload (pc := 95) hx hb dX12_margin_95 (lv_at hl 0 rfl) ?_
                refine lv_iload (pc := 97) hx hb dX12_margin_97 (lv_at hl 2 rfl) ?_
                refine lv_iload (pc := 99) hx hb dX12_margin_99 (lv_at hl 1 rfl) ?_
                refine lv_iload_n (pc := 101) hx hb dX12_margin_101 rfl (lv_at hl 5 rfl) ?_
                refine lv_bipush (pc := 102) (v := 10) hx hb dX12_margin_102 (by decide) ?_
                refine lv_irem (pc := 104) hx hb dX12_margin_104 (by decide) ?_
                obtain ⟨r41, S42, e43, hf⟩ := zB_e hf
                refine zcVi zTr_ok (As := [.int (p1 / 100), .int (p3 - p3 / 100 * 100), .int r19, .int (p3 / 100), .int (p2 - p2 / 10 * 10)]) (pc := 105) C0 hW (kX12_marginIn l D cA h H.size N (p1 / 100) (p3 - p3 / 100 * 100) r19 (p3 / 100) (p2 - p2 / 10 * 10) S20 r41 S42 e43) (cwV 5 hts (zgV gaR mR_236 mR_237 mR_238 mR_46 mR_220) rfl rfl rfl (by decide +kernel) ⟨Nat.le_of_ble_eq_true rfl, Nat.le_of_ble_eq_true rfl⟩) (va_recv hW.1 hW.2.1 (ci := 12) (q0 := 0) rfl rfl) rfl hl.1 rfl (Nat.le_of_ble_eq_true rfl) dX12_margin_105 (fun H locs hW => ?_)
                exact zend_i (w := wR cA h) fin hf hW dX12_margin_108
            · have hf := zt c18 hf
              refine lv_ldc (pc := 56) (v := (-2000000000)) hx hb hown (hts _ mR_179) dX12_margin_56 ?_
              exact zend_i (w := wR cA h) fin hf hW dX12_margin_58

def fX12_allStand_b3 (N : Nat) : Nat → Int32 → Int32 → Int32 → Int32 → Int32 → zSt → Option (Int32 × zSt)
  | 0, _, _, _, _, _, _ => none
  | n + 1, v1, v2, v3, v4, v5, S =>
    if (S.1 33) ≤ v5 then (some (1, S)) else (zB (fX12_marginIn N v1 v2 v3 v5 v4 S) fun r2 S3 => if 0 ≤ r2 then (fX12_allStand_b3 N n v1 v2 v3 v4 (v5 + 1) S3) else (some (0, S3)))
def fX12_allStand (N : Nat) (p1 : Int32) (p2 : Int32) (p3 : Int32) (p4 : Int32) (S : zSt) : Option (Int32 × zSt) :=
  fX12_allStand_b3 N N p1 p2 p3 p4 0 S
abbrev wX12_allStand : List Cond := Cond.code yX12_allStand cX12_allStand 6 (some .boolean) :: waR
abbrev rmX12_allStand : Room := { frames := 4, cells := 0, slots := 0, locals := 98 }
set_option maxHeartbeats 4000000 in
set_option maxRecDepth 100000 in
theorem kX12_allStand (l : Launch) (D : va_G) (cA : Nat → ClassId) (h : Nat → Nat) (sz : Nat) (N : Nat)  (p1 : Int32) (p2 : Int32) (p3 : Int32) (p4 : Int32) (S : zSt) (r : Int32) (S1 : zSt) (hf : fX12_allStand N p1 p2 p3 p4 S = some (r, S1)) : zMi l yX12_allStand wX12_allStand rmX12_allStand zTr D (tR cA) (hsR h) [.ref (h 0), .int p1, .int p2, .int p3, .int p4] (wR cA h S) (wR cA h S1) sz r := by
  refine zEn_z (cc := cX12_allStand) (maxL := 6) (own := RX12) (by decide) rfl rfl (hmR cA h S) (Nat.le_of_ble_eq_true rfl) ?_
  intro p e s m args below meth c Q H locs C0 hW fin ls hl
  have hl : lv_has ls 6 [(0, .ref (h 0)), (1, .int p1), (2, .int p2), (3, .int p3), (4, .int p4)] := hl
  have hx := C0.1
  have hb := C0.2.1
  have hown := C0.2.2.2.1
  have hts := C0.2.2.2.2
  have w3 : ∀ (n : Nat), ∀ (v1 : Int32) (v2 : Int32) (v3 : Int32) (v4 : Int32) (v5 : Int32) (S : zSt) (H : Heap) (locs : List Loc), zW zTr D (tR cA) (wR cA h S) (aW (hsR h) s.heap.size) s H locs → ∀ ls : Array Slot, lv_has ls 6 [(0, .ref (h 0)), (1, .int v1), (2, .int v2), (3, .int v3), (4, .int v4), (5, .int v5)] → fX12_allStand_b3 N n v1 v2 v3 v4 v5 S = some (r, S1) → W p l e rmX12_allStand s m args below meth c H locs 0 0 Q (F0 m 3 ls []) := by
    intro n
    induction n with
    | zero =>
      intro v1 v2 v3 v4 v5 S H locs hW ls hl hf
      exact absurd hf (by intro h; cases h)
    | succ n ih =>
      intro v1 v2 v3 v4 v5 S H locs hW ls hl hf
      rw [fX12_allStand_b3] at hf
      refine lv_iload (pc := 3) hx hb dX12_allStand_3 (lv_at hl 5 rfl) ?_
      refine lv_aload_n (pc := 5) hx hb dX12_allStand_5 rfl (lv_at hl 0 rfl) ?_
      refine rg_33 (pc := 6) C0 hu_12 hW mR_203 dX12_allStand_6 ?_
      refine lv_icmp_ge (pc := 9) (tgt := 34) hx hb dX12_allStand_9 (by decide) (fun c1 => ?_) (fun c1 => ?_)
      · have hf := zt c1 hf
        refine lv_iconst (pc := 34) (v := 1) hx hb dX12_allStand_34 (by decide) ?_
        exact zend_z (w := wR cA h) fin hf (by decide) hW dX12_allStand_35
      · have hf := zf c1 hf
        refine lv_aload_n (pc := 12) hx hb dX12_allStand_12 rfl (lv_at hl 0 rfl) ?_
        refine lv_iload_n (pc := 13) hx hb dX12_allStand_13 rfl (lv_at hl 1 rfl) ?_
        refine lv_iload_n (pc := 14) hx hb dX12_allStand_14 rfl (lv_at hl 2 rfl) ?_
        refine lv_iload_n (pc := 15) hx hb dX12_allStand_15 rfl (lv_at hl 3 rfl) ?_
        refine lv_iload (pc := 16) hx hb dX12_allStand_16 (lv_at hl 5 rfl) ?_
        refine lv_iload (pc := 18) hx hb dX12_allStand_18 (lv_at hl 4 rfl) ?_
        obtain ⟨r2, S3, e4, hf⟩ := zB_e hf
        refine zcVi zTr_ok (As := [.int v1, .int v2, .int v3, .int v5, .int v4]) (pc := 20) C0 hW (kX12_marginIn l D cA h H.size N v1 v2 v3 v5 v4 S r2 S3 e4) (cwV 5 hts (zgV gaR mR_236 mR_237 mR_238 mR_46 mR_220) rfl rfl rfl (by decide +kernel) ⟨Nat.le_of_ble_eq_true rfl, Nat.le_of_ble_eq_true rfl⟩) (va_recv hW.1 hW.2.1 (ci := 12) (q0 := 0) rfl rfl) rfl hl.1 rfl (Nat.le_of_ble_eq_true rfl) dX12_allStand_20 (fun H locs hW => ?_)
        refine lv_if_ge (pc := 23) (tgt := 28) hx hb dX12_allStand_23 (by decide) (fun c5 => ?_) (fun c5 => ?_)
        · have hf := zt c5 hf
          refine lv_iinc (pc := 28) (v := (v5 + 1)) (lv' := [(5, .int (v5 + 1)), (0, .ref (h 0)), (1, .int v1), (2, .int v2), (3, .int v3), (4, .int v4)]) hx hb dX12_allStand_28 hl (k := 5) rfl (by rfl) (by decide) rfl (fun ls hl => ?_)
          refine lv_goto (pc := 31) (tgt := 3) hx hb dX12_allStand_31 (by decide) ?_
          exact ih v1 v2 v3 v4 (v5 + 1) S3 H locs hW ls (lv_sub hl [1, 2, 3, 4, 5, 0] rfl) hf
        · have hf := zf c5 hf
          refine lv_iconst (pc := 26) (v := 0) hx hb dX12_allStand_26 (by decide) ?_
          exact zend_z (w := wR cA h) fin hf (by decide) hW dX12_allStand_27
  unfold fX12_allStand at hf
  refine lv_iconst (pc := 0) (v := 0) hx hb dX12_allStand_0 (by decide) ?_
  refine lv_istore (pc := 1) (lv' := [(5, .int 0), (0, .ref (h 0)), (1, .int p1), (2, .int p2), (3, .int p3), (4, .int p4)]) hx hb dX12_allStand_1 hl (by decide) rfl (fun ls hl => ?_)
  exact w3 N p1 p2 p3 p4 0 S H locs hW ls (lv_sub hl [1, 2, 3, 4, 5, 0] rfl) hf

def fX12_isOver_b3 (N : Nat) : Nat → Int32 → Int32 → Int32 → Int32 → zSt → Option (Int32 × zSt)
  | 0, _, _, _, _, _ => none
  | n + 1, v1, v2, v3, v4, S =>
    if zin v1 7 then if (S.2.1 4 (Int32.toNatClampNeg v1)) ≤ v4 then (some (1, S)) else (zB (fX12_allStand N v1 v4 v2 v3 S) fun r3 S4 => if r3 = 0 then (some (0, S4)) else (fX12_isOver_b3 N n v1 v2 v3 (v4 + 1) S4)) else none
def fX12_isOver (N : Nat) (p1 : Int32) (p2 : Int32) (p3 : Int32) (S : zSt) : Option (Int32 × zSt) :=
  fX12_isOver_b3 N N p1 p2 p3 0 S
abbrev wX12_isOver : List Cond := Cond.code yX12_isOver cX12_isOver 5 (some .boolean) :: waR
abbrev rmX12_isOver : Room := { frames := 5, cells := 0, slots := 0, locals := 123 }
set_option maxHeartbeats 4000000 in
set_option maxRecDepth 100000 in
theorem kX12_isOver (l : Launch) (D : va_G) (cA : Nat → ClassId) (h : Nat → Nat) (sz : Nat) (N : Nat)  (p1 : Int32) (p2 : Int32) (p3 : Int32) (S : zSt) (r : Int32) (S1 : zSt) (hf : fX12_isOver N p1 p2 p3 S = some (r, S1)) : zMi l yX12_isOver wX12_isOver rmX12_isOver zTr D (tR cA) (hsR h) [.ref (h 0), .int p1, .int p2, .int p3] (wR cA h S) (wR cA h S1) sz r := by
  refine zEn_z (cc := cX12_isOver) (maxL := 5) (own := RX12) (by decide) rfl rfl (hmR cA h S) (Nat.le_of_ble_eq_true rfl) ?_
  intro p e s m args below meth c Q H locs C0 hW fin ls hl
  have hl : lv_has ls 5 [(0, .ref (h 0)), (1, .int p1), (2, .int p2), (3, .int p3)] := hl
  have hx := C0.1
  have hb := C0.2.1
  have hown := C0.2.2.2.1
  have hts := C0.2.2.2.2
  have w3 : ∀ (n : Nat), ∀ (v1 : Int32) (v2 : Int32) (v3 : Int32) (v4 : Int32) (S : zSt) (H : Heap) (locs : List Loc), zW zTr D (tR cA) (wR cA h S) (aW (hsR h) s.heap.size) s H locs → ∀ ls : Array Slot, lv_has ls 5 [(0, .ref (h 0)), (1, .int v1), (2, .int v2), (3, .int v3), (4, .int v4)] → fX12_isOver_b3 N n v1 v2 v3 v4 S = some (r, S1) → W p l e rmX12_isOver s m args below meth c H locs 0 0 Q (F0 m 3 ls []) := by
    intro n
    induction n with
    | zero =>
      intro v1 v2 v3 v4 S H locs hW ls hl hf
      exact absurd hf (by intro h; cases h)
    | succ n ih =>
      intro v1 v2 v3 v4 S H locs hW ls hl hf
      rw [fX12_isOver_b3] at hf
      refine lv_iload (pc := 3) hx hb dX12_isOver_3 (lv_at hl 4 rfl) ?_
      refine lv_aload_n (pc := 5) hx hb dX12_isOver_5 rfl (lv_at hl 0 rfl) ?_
      refine rg_4 (pc := 6) C0 hu_12 hW mR_7 dX12_isOver_6 ?_
      refine lv_iload_n (pc := 9) hx hb dX12_isOver_9 rfl (lv_at hl 1 rfl) ?_
      obtain ⟨i1, hf⟩ := zn hf
      refine rl_4 (pc := 10) C0 hW i1 dX12_isOver_10 ?_
      refine lv_icmp_ge (pc := 11) (tgt := 34) hx hb dX12_isOver_11 (by decide) (fun c2 => ?_) (fun c2 => ?_)
      · have hf := zt c2 hf
        refine lv_iconst (pc := 34) (v := 1) hx hb dX12_isOver_34 (by decide) ?_
        exact zend_z (w := wR cA h) fin hf (by decide) hW dX12_isOver_35
      · have hf := zf c2 hf
        refine lv_aload_n (pc := 14) hx hb dX12_isOver_14 rfl (lv_at hl 0 rfl) ?_
        refine lv_iload_n (pc := 15) hx hb dX12_isOver_15 rfl (lv_at hl 1 rfl) ?_
        refine lv_iload (pc := 16) hx hb dX12_isOver_16 (lv_at hl 4 rfl) ?_
        refine lv_iload_n (pc := 18) hx hb dX12_isOver_18 rfl (lv_at hl 2 rfl) ?_
        refine lv_iload_n (pc := 19) hx hb dX12_isOver_19 rfl (lv_at hl 3 rfl) ?_
        obtain ⟨r3, S4, e5, hf⟩ := zB_e hf
        refine zcVi zTr_ok (As := [.int v1, .int v4, .int v2, .int v3]) (pc := 20) C0 hW (kX12_allStand l D cA h H.size N v1 v4 v2 v3 S r3 S4 e5) (cwV 4 hts (zgV gaR mR_241 mR_242 mR_243 mR_46 mR_239) rfl rfl rfl (by decide +kernel) ⟨Nat.le_of_ble_eq_true rfl, Nat.le_of_ble_eq_true rfl⟩) (va_recv hW.1 hW.2.1 (ci := 12) (q0 := 0) rfl rfl) rfl hl.1 rfl (Nat.le_of_ble_eq_true rfl) dX12_isOver_20 (fun H locs hW => ?_)
        refine lv_if_ne (pc := 23) (tgt := 28) hx hb dX12_isOver_23 (by decide) (fun c6 => ?_) (fun c6 => ?_)
        · have hf := zf c6 hf
          refine lv_iinc (pc := 28) (v := (v4 + 1)) (lv' := [(4, .int (v4 + 1)), (0, .ref (h 0)), (1, .int v1), (2, .int v2), (3, .int v3)]) hx hb dX12_isOver_28 hl (k := 4) rfl (by rfl) (by decide) rfl (fun ls hl => ?_)
          refine lv_goto (pc := 31) (tgt := 3) hx hb dX12_isOver_31 (by decide) ?_
          exact ih v1 v2 v3 (v4 + 1) S4 H locs hW ls (lv_sub hl [1, 2, 3, 4, 0] rfl) hf
        · have hf := zt c6 hf
          refine lv_iconst (pc := 26) (v := 0) hx hb dX12_isOver_26 (by decide) ?_
          exact zend_z (w := wR cA h) fin hf (by decide) hW dX12_isOver_27
  unfold fX12_isOver at hf
  refine lv_iconst (pc := 0) (v := 0) hx hb dX12_isOver_0 (by decide) ?_
  refine lv_istore (pc := 1) (lv' := [(4, .int 0), (0, .ref (h 0)), (1, .int p1), (2, .int p2), (3, .int p3)]) hx hb dX12_isOver_1 hl (by decide) rfl (fun ls hl => ?_)
  exact w3 N p1 p2 p3 0 S H locs hW ls (lv_sub hl [1, 2, 3, 4, 0] rfl) hf

def fX12_leastOf_b28 (N : Nat) (K14 : Int32 → Int32 → Int32 → Int32 → Int32 → zSt → Option (Int32 × zSt)) : Nat → Int32 → Int32 → Int32 → Int32 → Int32 → Int32 → zSt → Option (Int32 × zSt)
  | 0, _, _, _, _, _, _, _ => none
  | n + 1, v1, v2, v3, v4, v5, v6, S =>
    if (S.1 33) ≤ v6 then (K14 v1 v2 v3 v4 (v5 + 1) S) else (zB (fX12_marginIn N v1 v5 v2 v6 v3 S) fun r2 S3 => if v4 ≤ r2 then (fX12_leastOf_b28 N K14 n v1 v2 v3 v4 v5 (v6 + 1) S3) else (fX12_leastOf_b28 N K14 n v1 v2 v3 r2 v5 (v6 + 1) S3))
def fX12_leastOf_b14 (N : Nat) : Nat → Int32 → Int32 → Int32 → Int32 → Int32 → zSt → Option (Int32 × zSt)
  | 0, _, _, _, _, _, _ => none
  | n + 1, v1, v2, v3, v4, v5, S =>
    if zin v1 7 then if (S.2.1 4 (Int32.toNatClampNeg v1)) ≤ v5 then (some (v4, S)) else (fX12_leastOf_b28 N (fX12_leastOf_b14 N n) N v1 v2 v3 v4 v5 0 S) else none
def fX12_leastOf (N : Nat) (p1 : Int32) (p2 : Int32) (p3 : Int32) (S : zSt) : Option (Int32 × zSt) :=
  zB (fX12_marginIn N p1 0 p2 0 p3 S) fun r8 S9 => fX12_leastOf_b14 N N p1 p2 p3 r8 0 S9
abbrev wX12_leastOf : List Cond := Cond.code yX12_leastOf cX12_leastOf 8 (some .int) :: waR
abbrev rmX12_leastOf : Room := { frames := 4, cells := 0, slots := 0, locals := 98 }
set_option maxHeartbeats 4000000 in
set_option maxRecDepth 100000 in
theorem kX12_leastOf (l : Launch) (D : va_G) (cA : Nat → ClassId) (h : Nat → Nat) (sz : Nat) (N : Nat)  (p1 : Int32) (p2 : Int32) (p3 : Int32) (S : zSt) (r : Int32) (S1 : zSt) (hf : fX12_leastOf N p1 p2 p3 S = some (r, S1)) : zMi l yX12_leastOf wX12_leastOf rmX12_leastOf zTr D (tR cA) (hsR h) [.ref (h 0), .int p1, .int p2, .int p3] (wR cA h S) (wR cA h S1) sz r := by
  refine zEn_i (cc := cX12_leastOf) (maxL := 8) (own := RX12) (by decide) rfl rfl (hmR cA h S) (Nat.le_of_ble_eq_true rfl) ?_
  intro p e s m args below meth c Q H locs C0 hW fin ls hl
  have hl : lv_has ls 8 [(0, .ref (h 0)), (1, .int p1), (2, .int p2), (3, .int p3)] := hl
  have hx := C0.1
  have hb := C0.2.1
  have hown := C0.2.2.2.1
  have hts := C0.2.2.2.2
  have w28 : ∀ (K14 : Int32 → Int32 → Int32 → Int32 → Int32 → zSt → Option (Int32 × zSt)) (hK14 : ∀ (v1 : Int32) (v2 : Int32) (v3 : Int32) (v4 : Int32) (v5 : Int32) (S : zSt) (H : Heap) (locs : List Loc), zW zTr D (tR cA) (wR cA h S) (aW (hsR h) s.heap.size) s H locs → ∀ ls : Array Slot, lv_has ls 8 [(0, .ref (h 0)), (1, .int v1), (2, .int v2), (3, .int v3), (4, .int v4), (5, .int v5)] → K14 v1 v2 v3 v4 v5 S = some (r, S1) → W p l e rmX12_leastOf s m args below meth c H locs 0 0 Q (F0 m 14 ls [])) (n : Nat), ∀ (v1 : Int32) (v2 : Int32) (v3 : Int32) (v4 : Int32) (v5 : Int32) (v6 : Int32) (S : zSt) (H : Heap) (locs : List Loc), zW zTr D (tR cA) (wR cA h S) (aW (hsR h) s.heap.size) s H locs → ∀ ls : Array Slot, lv_has ls 8 [(0, .ref (h 0)), (1, .int v1), (2, .int v2), (3, .int v3), (4, .int v4), (5, .int v5), (6, .int v6)] → fX12_leastOf_b28 N K14 n v1 v2 v3 v4 v5 v6 S = some (r, S1) → W p l e rmX12_leastOf s m args below meth c H locs 0 0 Q (F0 m 28 ls []) := by
    intro K14 hK14 n
    induction n with
    | zero =>
      intro v1 v2 v3 v4 v5 v6 S H locs hW ls hl hf
      exact absurd hf (by intro h; cases h)
    | succ n ih =>
      intro v1 v2 v3 v4 v5 v6 S H locs hW ls hl hf
      rw [fX12_leastOf_b28] at hf
      refine lv_iload (pc := 28) hx hb dX12_leastOf_28 (lv_at hl 6 rfl) ?_
      refine lv_aload_n (pc := 30) hx hb dX12_leastOf_30 rfl (lv_at hl 0 rfl) ?_
      refine rg_33 (pc := 31) C0 hu_12 hW mR_203 dX12_leastOf_31 ?_
      refine lv_icmp_ge (pc := 34) (tgt := 67) hx hb dX12_leastOf_34 (by decide) (fun c1 => ?_) (fun c1 => ?_)
      · have hf := zt c1 hf
        refine lv_iinc (pc := 67) (v := (v5 + 1)) (lv' := [(5, .int (v5 + 1)), (0, .ref (h 0)), (1, .int v1), (2, .int v2), (3, .int v3), (4, .int v4), (6, .int v6)]) hx hb dX12_leastOf_67 hl (k := 5) rfl (by rfl) (by decide) rfl (fun ls hl => ?_)
        refine lv_goto (pc := 70) (tgt := 14) hx hb dX12_leastOf_70 (by decide) ?_
        exact hK14 v1 v2 v3 v4 (v5 + 1) S H locs hW ls (lv_sub hl [1, 2, 3, 4, 5, 0] rfl) hf
      · have hf := zf c1 hf
        refine lv_aload_n (pc := 37) hx hb dX12_leastOf_37 rfl (lv_at hl 0 rfl) ?_
        refine lv_iload_n (pc := 38) hx hb dX12_leastOf_38 rfl (lv_at hl 1 rfl) ?_
        refine lv_iload (pc := 39) hx hb dX12_leastOf_39 (lv_at hl 5 rfl) ?_
        refine lv_iload_n (pc := 41) hx hb dX12_leastOf_41 rfl (lv_at hl 2 rfl) ?_
        refine lv_iload (pc := 42) hx hb dX12_leastOf_42 (lv_at hl 6 rfl) ?_
        refine lv_iload_n (pc := 44) hx hb dX12_leastOf_44 rfl (lv_at hl 3 rfl) ?_
        obtain ⟨r2, S3, e4, hf⟩ := zB_e hf
        refine zcVi zTr_ok (As := [.int v1, .int v5, .int v2, .int v6, .int v3]) (pc := 45) C0 hW (kX12_marginIn l D cA h H.size N v1 v5 v2 v6 v3 S r2 S3 e4) (cwV 5 hts (zgV gaR mR_236 mR_237 mR_238 mR_46 mR_220) rfl rfl rfl (by decide +kernel) ⟨Nat.le_of_ble_eq_true rfl, Nat.le_of_ble_eq_true rfl⟩) (va_recv hW.1 hW.2.1 (ci := 12) (q0 := 0) rfl rfl) rfl hl.1 rfl (Nat.le_of_ble_eq_true rfl) dX12_leastOf_45 (fun H locs hW => ?_)
        refine lv_istore (pc := 48) (lv' := [(7, .int r2), (0, .ref (h 0)), (1, .int v1), (2, .int v2), (3, .int v3), (4, .int v4), (5, .int v5), (6, .int v6)]) hx hb dX12_leastOf_48 hl (by decide) rfl (fun ls hl => ?_)
        refine lv_iload (pc := 50) hx hb dX12_leastOf_50 (lv_at hl 0 rfl) ?_
        refine lv_iload (pc := 52) hx hb dX12_leastOf_52 (lv_at hl 5 rfl) ?_
        refine lv_icmp_ge (pc := 54) (tgt := 61) hx hb dX12_leastOf_54 (by decide) (fun c5 => ?_) (fun c5 => ?_)
        · have hf := zt c5 hf
          refine lv_iinc (pc := 61) (v := (v6 + 1)) (lv' := [(6, .int (v6 + 1)), (7, .int r2), (0, .ref (h 0)), (1, .int v1), (2, .int v2), (3, .int v3), (4, .int v4), (5, .int v5)]) hx hb dX12_leastOf_61 hl (k := 7) rfl (by rfl) (by decide) rfl (fun ls hl => ?_)
          refine lv_goto (pc := 64) (tgt := 28) hx hb dX12_leastOf_64 (by decide) ?_
          exact ih v1 v2 v3 v4 v5 (v6 + 1) S3 H locs hW ls (lv_sub hl [2, 3, 4, 5, 6, 7, 0] rfl) hf
        · have hf := zf c5 hf
          refine lv_iload (pc := 57) hx hb dX12_leastOf_57 (lv_at hl 0 rfl) ?_
          refine lv_istore (pc := 59) (lv' := [(4, .int r2), (7, .int r2), (0, .ref (h 0)), (1, .int v1), (2, .int v2), (3, .int v3), (5, .int v5), (6, .int v6)]) hx hb dX12_leastOf_59 hl (by decide) rfl (fun ls hl => ?_)
          refine lv_iinc (pc := 61) (v := (v6 + 1)) (lv' := [(6, .int (v6 + 1)), (4, .int r2), (7, .int r2), (0, .ref (h 0)), (1, .int v1), (2, .int v2), (3, .int v3), (5, .int v5)]) hx hb dX12_leastOf_61 hl (k := 7) rfl (by rfl) (by decide) rfl (fun ls hl => ?_)
          refine lv_goto (pc := 64) (tgt := 28) hx hb dX12_leastOf_64 (by decide) ?_
          exact ih v1 v2 v3 r2 v5 (v6 + 1) S3 H locs hW ls (lv_sub hl [3, 4, 5, 6, 1, 7, 0] rfl) hf
  have w14 : ∀ (n : Nat), ∀ (v1 : Int32) (v2 : Int32) (v3 : Int32) (v4 : Int32) (v5 : Int32) (S : zSt) (H : Heap) (locs : List Loc), zW zTr D (tR cA) (wR cA h S) (aW (hsR h) s.heap.size) s H locs → ∀ ls : Array Slot, lv_has ls 8 [(0, .ref (h 0)), (1, .int v1), (2, .int v2), (3, .int v3), (4, .int v4), (5, .int v5)] → fX12_leastOf_b14 N n v1 v2 v3 v4 v5 S = some (r, S1) → W p l e rmX12_leastOf s m args below meth c H locs 0 0 Q (F0 m 14 ls []) := by
    intro n
    induction n with
    | zero =>
      intro v1 v2 v3 v4 v5 S H locs hW ls hl hf
      exact absurd hf (by intro h; cases h)
    | succ n ih =>
      intro v1 v2 v3 v4 v5 S H locs hW ls hl hf
      rw [fX12_leastOf_b14] at hf
      refine lv_iload (pc := 14) hx hb dX12_leastOf_14 (lv_at hl 5 rfl) ?_
      refine lv_aload_n (pc := 16) hx hb dX12_leastOf_16 rfl (lv_at hl 0 rfl) ?_
      refine rg_4 (pc := 17) C0 hu_12 hW mR_7 dX12_leastOf_17 ?_
      refine lv_iload_n (pc := 20) hx hb dX12_leastOf_20 rfl (lv_at hl 1 rfl) ?_
      obtain ⟨i6, hf⟩ := zn hf
      refine rl_4 (pc := 21) C0 hW i6 dX12_leastOf_21 ?_
      refine lv_icmp_ge (pc := 22) (tgt := 73) hx hb dX12_leastOf_22 (by decide) (fun c7 => ?_) (fun c7 => ?_)
      · have hf := zt c7 hf
        refine lv_iload (pc := 73) hx hb dX12_leastOf_73 (lv_at hl 4 rfl) ?_
        exact zend_i (w := wR cA h) fin hf hW dX12_leastOf_75
      · have hf := zf c7 hf
        refine lv_iconst (pc := 25) (v := 0) hx hb dX12_leastOf_25 (by decide) ?_
        refine lv_istore (pc := 26) (lv' := [(6, .int 0), (0, .ref (h 0)), (1, .int v1), (2, .int v2), (3, .int v3), (4, .int v4), (5, .int v5)]) hx hb dX12_leastOf_26 hl (by decide) rfl (fun ls hl => ?_)
        exact w28 (fX12_leastOf_b14 N n) ih N v1 v2 v3 v4 v5 0 S H locs hW ls (lv_sub hl [1, 2, 3, 4, 5, 6, 0] rfl) hf
  unfold fX12_leastOf at hf
  refine lv_aload_n (pc := 0) hx hb dX12_leastOf_0 rfl (lv_at hl 0 rfl) ?_
  refine lv_iload_n (pc := 1) hx hb dX12_leastOf_1 rfl (lv_at hl 1 rfl) ?_
  refine lv_iconst (pc := 2) (v := 0) hx hb dX12_leastOf_2 (by decide) ?_
  refine lv_iload_n (pc := 3) hx hb dX12_leastOf_3 rfl (lv_at hl 2 rfl) ?_
  refine lv_iconst (pc := 4) (v := 0) hx hb dX12_leastOf_4 (by decide) ?_
  refine lv_iload_n (pc := 5) hx hb dX12_leastOf_5 rfl (lv_at hl 3 rfl) ?_
  obtain ⟨r8, S9, e10, hf⟩ := zB_e hf
  refine zcVi zTr_ok (As := [.int p1, .int 0, .int p2, .int 0, .int p3]) (pc := 6) C0 hW (kX12_marginIn l D cA h H.size N p1 0 p2 0 p3 S r8 S9 e10) (cwV 5 hts (zgV gaR mR_236 mR_237 mR_238 mR_46 mR_220) rfl rfl rfl (by decide +kernel) ⟨Nat.le_of_ble_eq_true rfl, Nat.le_of_ble_eq_true rfl⟩) (va_recv hW.1 hW.2.1 (ci := 12) (q0 := 0) rfl rfl) rfl hl.1 rfl (Nat.le_of_ble_eq_true rfl) dX12_leastOf_6 (fun H locs hW => ?_)
  refine lv_istore (pc := 9) (lv' := [(4, .int r8), (0, .ref (h 0)), (1, .int p1), (2, .int p2), (3, .int p3)]) hx hb dX12_leastOf_9 hl (by decide) rfl (fun ls hl => ?_)
  refine lv_iconst (pc := 11) (v := 0) hx hb dX12_leastOf_11 (by decide) ?_
  refine lv_istore (pc := 12) (lv' := [(5, .int 0), (4, .int r8), (0, .ref (h 0)), (1, .int p1), (2, .int p2), (3, .int p3)]) hx hb dX12_leastOf_12 hl (by decide) rfl (fun ls hl => ?_)
  exact w14 N p1 p2 p3 r8 0 S9 H locs hW ls (lv_sub hl [2, 3, 4, 5, 1, 0] rfl) hf

def fX12_over_b111 (N : Nat) (K96 : Int32 → Int32 → Int32 → Int32 → zSt → Option (Int32 × zSt)) : Nat → Int32 → Int32 → Int32 → Int32 → Int32 → zSt → Option (Int32 × zSt)
  | 0, _, _, _, _, _, _ => none
  | n + 1, v2, v4, v5, v6, v7, S =>
    if (S.1 33) ≤ v7 then (K96 v2 v4 v5 (v6 + 1) S) else (zB (fX12_marginIn N v4 v6 v5 v7 (v2 - v2 / 10 * 10) S) fun r2 S3 => if 0 ≤ r2 then (fX12_over_b111 N K96 n v2 v4 v5 v6 (v7 + 1) S3) else (some (((100 * v6) + v7), S3)))
def fX12_over_b96 (N : Nat) : Nat → Int32 → Int32 → Int32 → Int32 → zSt → Option (Int32 × zSt)
  | 0, _, _, _, _, _ => none
  | n + 1, v2, v4, v5, v6, S =>
    if zin v4 7 then if (S.2.1 4 (Int32.toNatClampNeg v4)) ≤ v6 then (some ((-2), S)) else (fX12_over_b111 N (fX12_over_b96 N n) N v2 v4 v5 v6 0 S) else none
def fX12_over (N : Nat) (p1 : Int32) (p2 : Int32) (p3 : Int32) (S : zSt) : Option (Int32 × zSt) :=
  zB (fX12_isAt p1 S) fun r8 S9 => if r8 = 0 then (some ((-2000000000), S9)) else (zB (fX12_areSo N p2 S9) fun r12 S13 => if r12 = 0 then (some ((-2000000000), S13)) else (zU (fX12_in p3 0 2) fun r16 => if r16 = 0 then (some ((-2000000000), S13)) else (zB (fX12_riseBy N (S13.1 25) (p1 - p1 / 100 * 100) S13) fun r20 S21 => if 2 ≤ p3 then (fX12_over_b96 N N p2 (p1 / 100) r20 0 S21) else (if p3 = 0 then (zB (fX12_isOver N (p1 / 100) r20 (p2 - p2 / 10 * 10) S21) fun r28 S29 => if r28 = 0 then (some (0, S29)) else (some (1, S29))) else (zB (fX12_leastOf N (p1 / 100) r20 (p2 - p2 / 10 * 10) S21) fun r25 S26 => some (r25, S26))))))
abbrev wX12_over : List Cond := Cond.code yX12_over cX12_over 8 (some .int) :: waR
abbrev rmX12_over : Room := { frames := 6, cells := 0, slots := 0, locals := 147 }
set_option maxHeartbeats 4000000 in
set_option maxRecDepth 100000 in
theorem kX12_over (l : Launch) (D : va_G) (cA : Nat → ClassId) (h : Nat → Nat) (sz : Nat) (N : Nat)  (p1 : Int32) (p2 : Int32) (p3 : Int32) (S : zSt) (r : Int32) (S1 : zSt) (hf : fX12_over N p1 p2 p3 S = some (r, S1)) : zMi l yX12_over wX12_over rmX12_over zTr D (tR cA) (hsR h) [.ref (h 0), .int p1, .int p2, .int p3] (wR cA h S) (wR cA h S1) sz r := by
  refine zEn_i (cc := cX12_over) (maxL := 8) (own := RX12) (by decide) rfl rfl (hmR cA h S) (Nat.le_of_ble_eq_true rfl) ?_
  intro p e s m args below meth c Q H locs C0 hW fin ls hl
  have hl : lv_has ls 8 [(0, .ref (h 0)), (1, .int p1), (2, .int p2), (3, .int p3)] := hl
  have hx := C0.1
  have hb := C0.2.1
  have hown := C0.2.2.2.1
  have hts := C0.2.2.2.2
  have w111 : ∀ (K96 : Int32 → Int32 → Int32 → Int32 → zSt → Option (Int32 × zSt)) (hK96 : ∀ (v2 : Int32) (v4 : Int32) (v5 : Int32) (v6 : Int32) (S : zSt) (H : Heap) (locs : List Loc), zW zTr D (tR cA) (wR cA h S) (aW (hsR h) s.heap.size) s H locs → ∀ ls : Array Slot, lv_has ls 8 [(0, .ref (h 0)), (2, .int v2), (4, .int v4), (5, .int v5), (6, .int v6)] → K96 v2 v4 v5 v6 S = some (r, S1) → W p l e rmX12_over s m args below meth c H locs 0 0 Q (F0 m 96 ls [])) (n : Nat), ∀ (v2 : Int32) (v4 : Int32) (v5 : Int32) (v6 : Int32) (v7 : Int32) (S : zSt) (H : Heap) (locs : List Loc), zW zTr D (tR cA) (wR cA h S) (aW (hsR h) s.heap.size) s H locs → ∀ ls : Array Slot, lv_has ls 8 [(0, .ref (h 0)), (2, .int v2), (4, .int v4), (5, .int v5), (6, .int v6), (7, .int v7)] → fX12_over_b111 N K96 n v2 v4 v5 v6 v7 S = some (r, S1) → W p l e rmX12_over s m args below meth c H locs 0 0 Q (F0 m 111 ls []) := by
    intro K96 hK96 n
    induction n with
    | zero =>
      intro v2 v4 v5 v6 v7 S H locs hW ls hl hf
      exact absurd hf (by intro h; cases h)
    | succ n ih =>
      intro v2 v4 v5 v6 v7 S H locs hW ls hl hf
      rw [fX12_over_b111] at hf
      refine lv_iload (pc := 111) hx hb dX12_over_111 (lv_at hl 5 rfl) ?_
      refine lv_aload_n (pc := 113) hx hb dX12_over_113 rfl (lv_at hl 0 rfl) ?_
      refine rg_33 (pc := 114) C0 hu_12 hW mR_203 dX12_over_114 ?_
      refine lv_icmp_ge (pc := 117) (tgt := 154) hx hb dX12_over_117 (by decide) (fun c1 => ?_) (fun c1 => ?_)
      · have hf := zt c1 hf
        refine lv_iinc (pc := 154) (v := (v6 + 1)) (lv' := [(6, .int (v6 + 1)), (0, .ref (h 0)), (2, .int v2), (4, .int v4), (5, .int v5), (7, .int v7)]) hx hb dX12_over_154 hl (k := 4) rfl (by rfl) (by decide) rfl (fun ls hl => ?_)
        refine lv_goto (pc := 157) (tgt := 96) hx hb dX12_over_157 (by decide) ?_
        exact hK96 v2 v4 v5 (v6 + 1) S H locs hW ls (lv_sub hl [1, 2, 3, 4, 0] rfl) hf
      · have hf := zf c1 hf
        refine lv_aload_n (pc := 120) hx hb dX12_over_120 rfl (lv_at hl 0 rfl) ?_
        refine lv_iload (pc := 121) hx hb dX12_over_121 (lv_at hl 2 rfl) ?_
        refine lv_iload (pc := 123) hx hb dX12_over_123 (lv_at hl 4 rfl) ?_
        refine lv_iload (pc := 125) hx hb dX12_over_125 (lv_at hl 3 rfl) ?_
        refine lv_iload (pc := 127) hx hb dX12_over_127 (lv_at hl 5 rfl) ?_
        refine lv_iload_n (pc := 129) hx hb dX12_over_129 rfl (lv_at hl 1 rfl) ?_
        refine lv_bipush (pc := 130) (v := 10) hx hb dX12_over_130 (by decide) ?_
        refine lv_irem (pc := 132) hx hb dX12_over_132 (by decide) ?_
        obtain ⟨r2, S3, e4, hf⟩ := zB_e hf
        refine zcVi zTr_ok (As := [.int v4, .int v6, .int v5, .int v7, .int (v2 - v2 / 10 * 10)]) (pc := 133) C0 hW (kX12_marginIn l D cA h H.size N v4 v6 v5 v7 (v2 - v2 / 10 * 10) S r2 S3 e4) (cwV 5 hts (zgV gaR mR_236 mR_237 mR_238 mR_46 mR_220) rfl rfl rfl (by decide +kernel) ⟨Nat.le_of_ble_eq_true rfl, Nat.le_of_ble_eq_true rfl⟩) (va_recv hW.1 hW.2.1 (ci := 12) (q0 := 0) rfl rfl) rfl hl.1 rfl (Nat.le_of_ble_eq_true rfl) dX12_over_133 (fun H locs hW => ?_)
        refine lv_if_ge (pc := 136) (tgt := 148) hx hb dX12_over_136 (by decide) (fun c5 => ?_) (fun c5 => ?_)
        · have hf := zt c5 hf
          refine lv_iinc (pc := 148) (v := (v7 + 1)) (lv' := [(7, .int (v7 + 1)), (0, .ref (h 0)), (2, .int v2), (4, .int v4), (5, .int v5), (6, .int v6)]) hx hb dX12_over_148 hl (k := 5) rfl (by rfl) (by decide) rfl (fun ls hl => ?_)
          refine lv_goto (pc := 151) (tgt := 111) hx hb dX12_over_151 (by decide) ?_
          exact ih v2 v4 v5 v6 (v7 + 1) S3 H locs hW ls (lv_sub hl [1, 2, 3, 4, 5, 0] rfl) hf
        · have hf := zf c5 hf
          refine lv_bipush (pc := 139) (v := 100) hx hb dX12_over_139 (by decide) ?_
          refine lv_iload (pc := 141) hx hb dX12_over_141 (lv_at hl 4 rfl) ?_
          refine lv_imul (pc := 143) hx hb dX12_over_143 ?_
          refine lv_iload (pc := 144) hx hb dX12_over_144 (lv_at hl 5 rfl) ?_
          refine lv_iadd (pc := 146) hx hb dX12_over_146 ?_
          exact zend_i (w := wR cA h) fin hf hW dX12_over_147
  have w96 : ∀ (n : Nat), ∀ (v2 : Int32) (v4 : Int32) (v5 : Int32) (v6 : Int32) (S : zSt) (H : Heap) (locs : List Loc), zW zTr D (tR cA) (wR cA h S) (aW (hsR h) s.heap.size) s H locs → ∀ ls : Array Slot, lv_has ls 8 [(0, .ref (h 0)), (2, .int v2), (4, .int v4), (5, .int v5), (6, .int v6)] → fX12_over_b96 N n v2 v4 v5 v6 S = some (r, S1) → W p l e rmX12_over s m args below meth c H locs 0 0 Q (F0 m 96 ls []) := by
    intro n
    induction n with
    | zero =>
      intro v2 v4 v5 v6 S H locs hW ls hl hf
      exact absurd hf (by intro h; cases h)
    | succ n ih =>
      intro v2 v4 v5 v6 S H locs hW ls hl hf
      rw [fX12_over_b96] at hf
      refine lv_iload (pc := 96) hx hb dX12_over_96 (lv_at hl 4 rfl) ?_
      refine lv_aload_n (pc := 98) hx hb dX12_over_98 rfl (lv_at hl 0 rfl) ?_
      refine rg_4 (pc := 99) C0 hu_12 hW mR_7 dX12_over_99 ?_
      refine lv_iload (pc := 102) hx hb dX12_over_102 (lv_at hl 2 rfl) ?_
      obtain ⟨i6, hf⟩ := zn hf
      refine rl_4 (pc := 104) C0 hW i6 dX12_over_104 ?_
      refine lv_icmp_ge (pc := 105) (tgt := 160) hx hb dX12_over_105 (by decide) (fun c7 => ?_) (fun c7 => ?_)
      · have hf := zt c7 hf
        refine lv_bipush (pc := 160) (v := (-2)) hx hb dX12_over_160 (by decide) ?_
        exact zend_i (w := wR cA h) fin hf hW dX12_over_162
      · have hf := zf c7 hf
        refine lv_iconst (pc := 108) (v := 0) hx hb dX12_over_108 (by decide) ?_
        refine lv_istore (pc := 109) (lv' := [(7, .int 0), (0, .ref (h 0)), (2, .int v2), (4, .int v4), (5, .int v5), (6, .int v6)]) hx hb dX12_over_109 hl (by decide) rfl (fun ls hl => ?_)
        exact w111 (fX12_over_b96 N n) ih N v2 v4 v5 v6 0 S H locs hW ls (lv_sub hl [1, 2, 3, 4, 5, 0] rfl) hf
  unfold fX12_over at hf
  refine lv_aload_n (pc := 0) hx hb dX12_over_0 rfl (lv_at hl 0 rfl) ?_
  refine lv_iload_n (pc := 1) hx hb dX12_over_1 rfl (lv_at hl 1 rfl) ?_
  obtain ⟨r8, S9, e10, hf⟩ := zB_e hf
  refine zcVi zTr_ok (As := [.int p1]) (pc := 2) C0 hW (kX12_isAt l D cA h H.size p1 S r8 S9 e10) (cwV 1 hts (zgV gaR mR_230 mR_231 mR_232 mR_46 mR_208) rfl rfl rfl (by decide +kernel) ⟨Nat.le_of_ble_eq_true rfl, Nat.le_of_ble_eq_true rfl⟩) (va_recv hW.1 hW.2.1 (ci := 12) (q0 := 0) rfl rfl) rfl hl.1 rfl (Nat.le_of_ble_eq_true rfl) dX12_over_2 (fun H locs hW => ?_)
  refine lv_if_eq (pc := 5) (tgt := 25) hx hb dX12_over_5 (by decide) (fun c11 => ?_) (fun c11 => ?_)
  · have hf := zt c11 hf
    refine lv_ldc (pc := 25) (v := (-2000000000)) hx hb hown (hts _ mR_179) dX12_over_25 ?_
    exact zend_i (w := wR cA h) fin hf hW dX12_over_27
  · have hf := zf c11 hf
    refine lv_aload_n (pc := 8) hx hb dX12_over_8 rfl (lv_at hl 0 rfl) ?_
    refine lv_iload_n (pc := 9) hx hb dX12_over_9 rfl (lv_at hl 2 rfl) ?_
    obtain ⟨r12, S13, e14, hf⟩ := zB_e hf
    refine zcVi zTr_ok (As := [.int p2]) (pc := 10) C0 hW (kX12_areSo l D cA h H.size N p2 S9 r12 S13 e14) (cwV 1 hts (zgV gaR mR_233 mR_234 mR_235 mR_46 mR_204) rfl rfl rfl (by decide +kernel) ⟨Nat.le_of_ble_eq_true rfl, Nat.le_of_ble_eq_true rfl⟩) (va_recv hW.1 hW.2.1 (ci := 12) (q0 := 0) rfl rfl) rfl hl.1 rfl (Nat.le_of_ble_eq_true rfl) dX12_over_10 (fun H locs hW => ?_)
    refine lv_if_eq (pc := 13) (tgt := 25) hx hb dX12_over_13 (by decide) (fun c15 => ?_) (fun c15 => ?_)
    · have hf := zt c15 hf
      refine lv_ldc (pc := 25) (v := (-2000000000)) hx hb hown (hts _ mR_179) dX12_over_25 ?_
      exact zend_i (w := wR cA h) fin hf hW dX12_over_27
    · have hf := zf c15 hf
      refine lv_iload_n (pc := 16) hx hb dX12_over_16 rfl (lv_at hl 3 rfl) ?_
      refine lv_iconst (pc := 17) (v := 0) hx hb dX12_over_17 (by decide) ?_
      refine lv_iconst (pc := 18) (v := 2) hx hb dX12_over_18 (by decide) ?_
      obtain ⟨r16, e18, hf⟩ := zU_e hf
      refine zcSi (As := [.int p3, .int 0, .int 2]) (pc := 19) C0 hW (kX12_in l H.size p3 0 2 r16 e18) (va_cwS 3 hts (zgS gaR mR_44 mR_45 mR_46 mR_39) rfl rfl rfl (by decide +kernel) ⟨Nat.le_of_ble_eq_true rfl, Nat.le_of_ble_eq_true rfl⟩) rfl hl.1 rfl (Nat.le_of_ble_eq_true rfl) dX12_over_19 (fun H locs hW => ?_)
      refine lv_if_ne (pc := 22) (tgt := 28) hx hb dX12_over_22 (by decide) (fun c19 => ?_) (fun c19 => ?_)
      · have hf := zf c19 hf
        refine lv_iload_n (pc := 28) hx hb dX12_over_28 rfl (lv_at hl 1 rfl) ?_
        refine lv_bipush (pc := 29) (v := 100) hx hb dX12_over_29 (by decide) ?_
        refine lv_idiv (pc := 31) hx hb dX12_over_31 (by decide) ?_
        refine lv_istore (pc := 32) (lv' := [(4, .int (p1 / 100)), (0, .ref (h 0)), (1, .int p1), (2, .int p2), (3, .int p3)]) hx hb dX12_over_32 hl (by decide) rfl (fun ls hl => ?_)
        refine lv_aload_n (pc := 34) hx hb dX12_over_34 rfl (lv_at hl 1 rfl) ?_
        refine lv_aload_n (pc := 35) hx hb dX12_over_35 rfl (lv_at hl 1 rfl) ?_
        refine rg_25 (pc := 36) C0 hu_12 hW mR_22 dX12_over_36 ?_
        refine lv_iload_n (pc := 39) hx hb dX12_over_39 rfl (lv_at hl 2 rfl) ?_
        refine lv_bipush (pc := 40) (v := 100) hx hb dX12_over_40 (by decide) ?_
        refine lv_irem (pc := 42) hx hb dX12_over_42 (by decide) ?_
        obtain ⟨r20, S21, e22, hf⟩ := zB_e hf
        refine zcVi zTr_ok (As := [.int (S13.1 25), .int (p1 - p1 / 100 * 100)]) (pc := 43) C0 hW (kX12_riseBy l D cA h H.size N (S13.1 25) (p1 - p1 / 100 * 100) S13 r20 S21 e22) (cwV 2 hts (zgV gaR mR_182 mR_183 mR_184 mR_46 mR_172) rfl rfl rfl (by decide +kernel) ⟨Nat.le_of_ble_eq_true rfl, Nat.le_of_ble_eq_true rfl⟩) (va_recv hW.1 hW.2.1 (ci := 12) (q0 := 0) rfl rfl) rfl hl.1 rfl (Nat.le_of_ble_eq_true rfl) dX12_over_43 (fun H locs hW => ?_)
        refine lv_istore (pc := 46) (lv' := [(5, .int r20), (4, .int (p1 / 100)), (0, .ref (h 0)), (1, .int p1), (2, .int p2), (3, .int p3)]) hx hb dX12_over_46 hl (by decide) rfl (fun ls hl => ?_)
        refine lv_iload_n (pc := 48) hx hb dX12_over_48 rfl (lv_at hl 5 rfl) ?_
        refine lv_iconst (pc := 49) (v := 2) hx hb dX12_over_49 (by decide) ?_
        refine lv_icmp_ge (pc := 50) (tgt := 93) hx hb dX12_over_50 (by decide) (fun c23 => ?_) (fun c23 => ?_)
        · have hf := zt c23 hf
          refine lv_iconst (pc := 93) (v := 0) hx hb dX12_over_93 (by decide) ?_
          refine lv_istore (pc := 94) (lv' := [(6, .int 0), (5, .int r20), (4, .int (p1 / 100)), (0, .ref (h 0)), (1, .int p1), (2, .int p2), (3, .int p3)]) hx hb dX12_over_94 hl (by decide) rfl (fun ls hl => ?_)
          exact w96 N p2 (p1 / 100) r20 0 S21 H locs hW ls (lv_sub hl [3, 5, 2, 1, 0] rfl) hf
        · have hf := zf c23 hf
          refine lv_iload_n (pc := 53) hx hb dX12_over_53 rfl (lv_at hl 5 rfl) ?_
          refine lv_if_ne (pc := 54) (tgt := 80) hx hb dX12_over_54 (by decide) (fun c24 => ?_) (fun c24 => ?_)
          · have hf := zf c24 hf
            refine lv_aload_n (pc := 80) hx hb dX12_over_80 rfl (lv_at hl 2 rfl) ?_
            refine lv_iload (pc := 81) hx hb dX12_over_81 (lv_at hl 1 rfl) ?_
            refine lv_iload (pc := 83) hx hb dX12_over_83 (lv_at hl 0 rfl) ?_
            refine lv_iload_n (pc := 85) hx hb dX12_over_85 rfl (lv_at hl 4 rfl) ?_
            refine lv_bipush (pc := 86) (v := 10) hx hb dX12_over_86 (by decide) ?_
            refine lv_irem (pc := 88) hx hb dX12_over_88 (by decide) ?_
            obtain ⟨r25, S26, e27, hf⟩ := zB_e hf
            refine zcVi zTr_ok (As := [.int (p1 / 100), .int r20, .int (p2 - p2 / 10 * 10)]) (pc := 89) C0 hW (kX12_leastOf l D cA h H.size N (p1 / 100) r20 (p2 - p2 / 10 * 10) S21 r25 S26 e27) (cwV 3 hts (zgV gaR mR_249 mR_250 mR_251 mR_46 mR_244) rfl rfl rfl (by decide +kernel) ⟨Nat.le_of_ble_eq_true rfl, Nat.le_of_ble_eq_true rfl⟩) (va_recv hW.1 hW.2.1 (ci := 12) (q0 := 0) rfl rfl) rfl hl.1 rfl (Nat.le_of_ble_eq_true rfl) dX12_over_89 (fun H locs hW => ?_)
            exact zend_i (w := wR cA h) fin hf hW dX12_over_92
          · have hf := zt c24 hf
            refine lv_aload_n (pc := 57) hx hb dX12_over_57 rfl (lv_at hl 2 rfl) ?_
            refine lv_iload (pc := 58) hx hb dX12_over_58 (lv_at hl 1 rfl) ?_
            refine lv_iload (pc := 60) hx hb dX12_over_60 (lv_at hl 0 rfl) ?_
            refine lv_iload_n (pc := 62) hx hb dX12_over_62 rfl (lv_at hl 4 rfl) ?_
            refine lv_bipush (pc := 63) (v := 10) hx hb dX12_over_63 (by decide) ?_
            refine lv_irem (pc := 65) hx hb dX12_over_65 (by decide) ?_
            obtain ⟨r28, S29, e30, hf⟩ := zB_e hf
            refine zcVi zTr_ok (As := [.int (p1 / 100), .int r20, .int (p2 - p2 / 10 * 10)]) (pc := 66) C0 hW (kX12_isOver l D cA h H.size N (p1 / 100) r20 (p2 - p2 / 10 * 10) S21 r28 S29 e30) (cwV 3 hts (zgV gaR mR_246 mR_247 mR_248 mR_46 mR_240) rfl rfl rfl (by decide +kernel) ⟨Nat.le_of_ble_eq_true rfl, Nat.le_of_ble_eq_true rfl⟩) (va_recv hW.1 hW.2.1 (ci := 12) (q0 := 0) rfl rfl) rfl hl.1 rfl (Nat.le_of_ble_eq_true rfl) dX12_over_66 (fun H locs hW => ?_)
            refine lv_if_eq (pc := 69) (tgt := 76) hx hb dX12_over_69 (by decide) (fun c31 => ?_) (fun c31 => ?_)
            · have hf := zt c31 hf
              refine lv_iconst (pc := 76) (v := 0) hx hb dX12_over_76 (by decide) ?_
              refine lv_goto (pc := 77) (tgt := 92) hx hb dX12_over_77 (by decide) ?_
              exact zend_i (w := wR cA h) fin hf hW dX12_over_92
            · have hf := zf c31 hf
              refine lv_iconst (pc := 72) (v := 1) hx hb dX12_over_72 (by decide) ?_
              refine lv_goto (pc := 73) (tgt := 92) hx hb dX12_over_73 (by decide) ?_
              exact zend_i (w := wR cA h) fin hf hW dX12_over_92
      · have hf := zt c19 hf
        refine lv_ldc (pc := 25) (v := (-2000000000)) hx hb hown (hts _ mR_179) dX12_over_25 ?_
        exact zend_i (w := wR cA h) fin hf hW dX12_over_27

def fX12_isOne_b2 (N : Nat) : Nat → Int32 → Int32 → Int32 → zSt → Option (Int32 × zSt)
  | 0, _, _, _, _ => none
  | n + 1, v1, v2, v3, S =>
    if v2 ≤ v3 then (some (0, S)) else (if zin v3 5 then if (S.2.1 36 (Int32.toNatClampNeg v3)) = v1 then (some (1, S)) else (fX12_isOne_b2 N n v1 v2 (v3 + 1) S) else none)
def fX12_isOne (N : Nat) (p1 : Int32) (p2 : Int32) (S : zSt) : Option (Int32 × zSt) :=
  fX12_isOne_b2 N N p1 p2 0 S
abbrev wX12_isOne : List Cond := Cond.code yX12_isOne cX12_isOne 4 (some .boolean) :: waR
abbrev rmX12_isOne : Room := { frames := 0, cells := 0, slots := 0, locals := 0 }
set_option maxHeartbeats 4000000 in
set_option maxRecDepth 100000 in
theorem kX12_isOne (l : Launch) (D : va_G) (cA : Nat → ClassId) (h : Nat → Nat) (sz : Nat) (N : Nat)  (p1 : Int32) (p2 : Int32) (S : zSt) (r : Int32) (S1 : zSt) (hf : fX12_isOne N p1 p2 S = some (r, S1)) : zMi l yX12_isOne wX12_isOne rmX12_isOne zTr D (tR cA) (hsR h) [.ref (h 0), .int p1, .int p2] (wR cA h S) (wR cA h S1) sz r := by
  refine zEn_z (cc := cX12_isOne) (maxL := 4) (own := RX12) (by decide) rfl rfl (hmR cA h S) (Nat.le_of_ble_eq_true rfl) ?_
  intro p e s m args below meth c Q H locs C0 hW fin ls hl
  have hl : lv_has ls 4 [(0, .ref (h 0)), (1, .int p1), (2, .int p2)] := hl
  have hx := C0.1
  have hb := C0.2.1
  have hown := C0.2.2.2.1
  have hts := C0.2.2.2.2
  have w2 : ∀ (n : Nat), ∀ (v1 : Int32) (v2 : Int32) (v3 : Int32) (S : zSt) (H : Heap) (locs : List Loc), zW zTr D (tR cA) (wR cA h S) (aW (hsR h) s.heap.size) s H locs → ∀ ls : Array Slot, lv_has ls 4 [(0, .ref (h 0)), (1, .int v1), (2, .int v2), (3, .int v3)] → fX12_isOne_b2 N n v1 v2 v3 S = some (r, S1) → W p l e rmX12_isOne s m args below meth c H locs 0 0 Q (F0 m 2 ls []) := by
    intro n
    induction n with
    | zero =>
      intro v1 v2 v3 S H locs hW ls hl hf
      exact absurd hf (by intro h; cases h)
    | succ n ih =>
      intro v1 v2 v3 S H locs hW ls hl hf
      rw [fX12_isOne_b2] at hf
      refine lv_iload_n (pc := 2) hx hb dX12_isOne_2 rfl (lv_at hl 3 rfl) ?_
      refine lv_iload_n (pc := 3) hx hb dX12_isOne_3 rfl (lv_at hl 2 rfl) ?_
      refine lv_icmp_ge (pc := 4) (tgt := 25) hx hb dX12_isOne_4 (by decide) (fun c1 => ?_) (fun c1 => ?_)
      · have hf := zt c1 hf
        refine lv_iconst (pc := 25) (v := 0) hx hb dX12_isOne_25 (by decide) ?_
        exact zend_z (w := wR cA h) fin hf (by decide) hW dX12_isOne_26
      · have hf := zf c1 hf
        refine lv_aload_n (pc := 7) hx hb dX12_isOne_7 rfl (lv_at hl 0 rfl) ?_
        refine rg_36 (pc := 8) C0 hu_12 hW mR_29 dX12_isOne_8 ?_
        refine lv_iload_n (pc := 11) hx hb dX12_isOne_11 rfl (lv_at hl 3 rfl) ?_
        obtain ⟨i2, hf⟩ := zn hf
        refine rl_36 (pc := 12) C0 hW i2 dX12_isOne_12 ?_
        refine lv_iload_n (pc := 13) hx hb dX12_isOne_13 rfl (lv_at hl 1 rfl) ?_
        refine lv_icmp_ne (pc := 14) (tgt := 19) hx hb dX12_isOne_14 (by decide) (fun c3 => ?_) (fun c3 => ?_)
        · have hf := zf c3 hf
          refine lv_iinc (pc := 19) (v := (v3 + 1)) (lv' := [(3, .int (v3 + 1)), (0, .ref (h 0)), (1, .int v1), (2, .int v2)]) hx hb dX12_isOne_19 hl (k := 3) rfl (by rfl) (by decide) rfl (fun ls hl => ?_)
          refine lv_goto (pc := 22) (tgt := 2) hx hb dX12_isOne_22 (by decide) ?_
          exact ih v1 v2 (v3 + 1) S H locs hW ls (lv_sub hl [1, 2, 3, 0] rfl) hf
        · have hf := zt c3 hf
          refine lv_iconst (pc := 17) (v := 1) hx hb dX12_isOne_17 (by decide) ?_
          exact zend_z (w := wR cA h) fin hf (by decide) hW dX12_isOne_18
  unfold fX12_isOne at hf
  refine lv_iconst (pc := 0) (v := 0) hx hb dX12_isOne_0 (by decide) ?_
  refine lv_istore_n (pc := 1) (lv' := [(3, .int 0), (0, .ref (h 0)), (1, .int p1), (2, .int p2)]) hx hb dX12_isOne_1 rfl hl (by decide) rfl (fun ls hl => ?_)
  exact w2 N p1 p2 0 S H locs hW ls (lv_sub hl [1, 2, 3, 0] rfl) hf

def fX12_order_b255 (N : Nat) (K97 : Int32 → Int32 → Int32 → Int32 → Int32 → Int32 → Int32 → Int32 → Int32 → zSt → Option (Int32 × zSt)) (v1 : Int32) (v2 : Int32) (v3 : Int32) (v4 : Int32) (v5 : Int32) (v6 : Int32) (v9 : Int32) (v10 : Int32) (v14 : Int32) (S : zSt) : Option (Int32 × zSt) :=
  K97 v1 v2 v3 v4 v5 v6 v10 v14 (v9 + 1) S
def fX12_order_b216 (N : Nat) (K97 : Int32 → Int32 → Int32 → Int32 → Int32 → Int32 → Int32 → Int32 → Int32 → zSt → Option (Int32 × zSt)) (v1 : Int32) (v2 : Int32) (v3 : Int32) (v4 : Int32) (v5 : Int32) (v6 : Int32) (v7 : Int32) (v8 : Int32) (v9 : Int32) (v10 : Int32) (v12 : Int32) (S : zSt) : Option (Int32 × zSt) :=
  if v12 = 0 then (K97 v1 v2 v3 v4 v5 v6 v7 v8 (v9 + 1) S) else (zB (fX12_leastOf N (v1 / 100) v5 (v2 - v2 / 10 * 10) S) fun r2 S3 => if v7 ≤ 0 then (fX12_order_b255 N K97 v1 v2 v3 v4 v5 v6 v9 v10 r2 S3) else (if v8 < r2 then (fX12_order_b255 N K97 v1 v2 v3 v4 v5 v6 v9 v10 r2 S3) else (K97 v1 v2 v3 v4 v5 v6 v7 v8 (v9 + 1) S3)))
def fX12_order_b190 (N : Nat) (K97 : Int32 → Int32 → Int32 → Int32 → Int32 → Int32 → Int32 → Int32 → Int32 → zSt → Option (Int32 × zSt)) (K123 : Int32 → Int32 → Int32 → Int32 → Int32 → Int32 → Int32 → Int32 → Int32 → Int32 → Int32 → Int32 → Int32 → Int32 → zSt → Option (Int32 × zSt)) (v1 : Int32) (v2 : Int32) (v3 : Int32) (v4 : Int32) (v5 : Int32) (v6 : Int32) (v7 : Int32) (v8 : Int32) (v9 : Int32) (v10 : Int32) (v11 : Int32) (v13 : Int32) (v14 : Int32) (v15 : Int32) (u0 : Int32) (S : zSt) : Option (Int32 × zSt) :=
  if zin v14 5 then zL (zA S 34 (Int32.toNatClampNeg v14) v15) fun S8 => K123 v1 v2 v3 v4 v5 v6 v7 v8 v9 v10 v11 u0 (v13 ||| (1 <<< (v15 &&& 31))) (v14 + 1) S8 else none
def fX12_order_b189 (N : Nat) (K97 : Int32 → Int32 → Int32 → Int32 → Int32 → Int32 → Int32 → Int32 → Int32 → zSt → Option (Int32 × zSt)) (K123 : Int32 → Int32 → Int32 → Int32 → Int32 → Int32 → Int32 → Int32 → Int32 → Int32 → Int32 → Int32 → Int32 → Int32 → zSt → Option (Int32 × zSt)) (v1 : Int32) (v2 : Int32) (v3 : Int32) (v4 : Int32) (v5 : Int32) (v6 : Int32) (v7 : Int32) (v8 : Int32) (v9 : Int32) (v10 : Int32) (v11 : Int32) (v13 : Int32) (v14 : Int32) (v15 : Int32) (S : zSt) : Option (Int32 × zSt) :=
  fX12_order_b190 N K97 K123 v1 v2 v3 v4 v5 v6 v7 v8 v9 v10 v11 v13 v14 v15 0 S
def fX12_order_b123 (N : Nat) (K97 : Int32 → Int32 → Int32 → Int32 → Int32 → Int32 → Int32 → Int32 → Int32 → zSt → Option (Int32 × zSt)) : Nat → Int32 → Int32 → Int32 → Int32 → Int32 → Int32 → Int32 → Int32 → Int32 → Int32 → Int32 → Int32 → Int32 → Int32 → zSt → Option (Int32 × zSt)
  | 0, _, _, _, _, _, _, _, _, _, _, _, _, _, _, _ => none
  | n + 1, v1, v2, v3, v4, v5, v6, v7, v8, v9, v10, v11, v12, v13, v14, S =>
    if v4 ≤ v14 then (fX12_order_b216 N K97 v1 v2 v3 v4 v5 v6 v7 v8 v9 v10 v12 S) else (if v12 = 0 then (fX12_order_b216 N K97 v1 v2 v3 v4 v5 v6 v7 v8 v9 v10 v12 S) else (if ¬ v11 = 0 then zL ((((10 * v10) + ((v9 / v11) - (v9 / v11) / 9 * 9)) + 1)) fun (x12 : Int32) => if ((v13 >>> (((v9 / v11) - (v9 / v11) / 9 * 9) &&& 31)) &&& 1) = 0 then (zB (fX12_isOne N ((v9 / v11) - (v9 / v11) / 9 * 9) v4 S) fun r14 S15 => if r14 = 0 then (fX12_order_b189 N K97 (fX12_order_b123 N K97 n) v1 v2 v3 v4 v5 v6 v7 v8 v9 x12 (v11 / 9) v13 v14 ((v9 / v11) - (v9 / v11) / 9 * 9) S15) else (fX12_order_b190 N K97 (fX12_order_b123 N K97 n) v1 v2 v3 v4 v5 v6 v7 v8 v9 x12 (v11 / 9) v13 v14 ((v9 / v11) - (v9 / v11) / 9 * 9) 1 S15)) else (fX12_order_b189 N K97 (fX12_order_b123 N K97 n) v1 v2 v3 v4 v5 v6 v7 v8 v9 x12 (v11 / 9) v13 v14 ((v9 / v11) - (v9 / v11) / 9 * 9) S) else none))
def fX12_order_b97 (N : Nat) : Nat → Int32 → Int32 → Int32 → Int32 → Int32 → Int32 → Int32 → Int32 → Int32 → zSt → Option (Int32 × zSt)
  | 0, _, _, _, _, _, _, _, _, _, _ => none
  | n + 1, v1, v2, v3, v4, v5, v6, v7, v8, v9, S =>
    if v6 ≤ v9 then (if v3 = 0 then (some (v7, S)) else (some (v8, S))) else (fX12_order_b123 N (fX12_order_b97 N n) N v1 v2 v3 v4 v5 v6 v7 v8 v9 0 (v6 / 9) 1 0 0 S)
def fX12_order_b54 (N : Nat) : Nat → Int32 → Int32 → Int32 → Int32 → Int32 → Int32 → Int32 → zSt → Option (Int32 × zSt)
  | 0, _, _, _, _, _, _, _, _ => none
  | n + 1, v1, v2, v3, v4, v5, v6, v7, S =>
    if v4 ≤ v7 then (fX12_order_b97 N N v1 v2 v3 v4 v5 v6 0 0 0 S) else (if zin v7 5 then if zin v7 5 then zL (zA S 36 (Int32.toNatClampNeg v7) (S.2.1 34 (Int32.toNatClampNeg v7))) fun S23 => fX12_order_b54 N n v1 v2 v3 v4 v5 (v6 * 9) (v7 + 1) S23 else none else none)
def fX12_order (N : Nat) (p1 : Int32) (p2 : Int32) (p3 : Int32) (S : zSt) : Option (Int32 × zSt) :=
  zB (fX12_isAt p1 S) fun r24 S25 => if r24 = 0 then (some ((-2000000000), S25)) else (zB (fX12_areSo N p2 S25) fun r28 S29 => if r28 = 0 then (some ((-2000000000), S29)) else (zU (fX12_in p3 0 1) fun r32 => if r32 = 0 then (some ((-2000000000), S29)) else (zB (fX12_riseBy N (S29.1 25) (p1 - p1 / 100 * 100) S29) fun r36 S37 => fX12_order_b54 N N p1 p2 p3 (S29.1 33) r36 1 0 S37)))
abbrev wX12_order : List Cond := Cond.code yX12_order cX12_order 16 (some .int) :: waR
abbrev rmX12_order : Room := { frames := 5, cells := 0, slots := 0, locals := 125 }
set_option maxHeartbeats 4000000 in
set_option maxRecDepth 100000 in
theorem kX12_order (l : Launch) (D : va_G) (cA : Nat → ClassId) (h : Nat → Nat) (sz : Nat) (N : Nat)  (p1 : Int32) (p2 : Int32) (p3 : Int32) (S : zSt) (r : Int32) (S1 : zSt) (hf : fX12_order N p1 p2 p3 S = some (r, S1)) : zMi l yX12_order wX12_order rmX12_order zTr D (tR cA) (hsR h) [.ref (h 0), .int p1, .int p2, .int p3] (wR cA h S) (wR cA h S1) sz r := by
  refine zEn_i (cc := cX12_order) (maxL := 16) (own := RX12) (by decide) rfl rfl (hmR cA h S) (Nat.le_of_ble_eq_true rfl) ?_
  intro p e s m args below meth c Q H locs C0 hW fin ls hl
  have hl : lv_has ls 16 [(0, .ref (h 0)), (1, .int p1), (2, .int p2), (3, .int p3)] := hl
  have hx := C0.1
  have hb := C0.2.1
  have hown := C0.2.2.2.1
  have hts := C0.2.2.2.2
  have w255 : ∀ (K97 : Int32 → Int32 → Int32 → Int32 → Int32 → Int32 → Int32 → Int32 → Int32 → zSt → Option (Int32 × zSt)) (hK97 : ∀ (v1 : Int32) (v2 : Int32) (v3 : Int32) (v4 : Int32) (v5 : Int32) (v6 : Int32) (v7 : Int32) (v8 : Int32) (v9 : Int32) (S : zSt) (H : Heap) (locs : List Loc), zW zTr D (tR cA) (wR cA h S) (aW (hsR h) s.heap.size) s H locs → ∀ ls : Array Slot, lv_has ls 16 [(0, .ref (h 0)), (1, .int v1), (2, .int v2), (3, .int v3), (4, .int v4), (5, .int v5), (6, .int v6), (7, .int v7), (8, .int v8), (9, .int v9)] → K97 v1 v2 v3 v4 v5 v6 v7 v8 v9 S = some (r, S1) → W p l e rmX12_order s m args below meth c H locs 0 0 Q (F0 m 97 ls [])) , ∀ (v1 : Int32) (v2 : Int32) (v3 : Int32) (v4 : Int32) (v5 : Int32) (v6 : Int32) (v9 : Int32) (v10 : Int32) (v14 : Int32) (S : zSt) (H : Heap) (locs : List Loc), zW zTr D (tR cA) (wR cA h S) (aW (hsR h) s.heap.size) s H locs → ∀ ls : Array Slot, lv_has ls 16 [(0, .ref (h 0)), (1, .int v1), (2, .int v2), (3, .int v3), (4, .int v4), (5, .int v5), (6, .int v6), (9, .int v9), (10, .int v10), (14, .int v14)] → fX12_order_b255 N K97 v1 v2 v3 v4 v5 v6 v9 v10 v14 S = some (r, S1) → W p l e rmX12_order s m args below meth c H locs 0 0 Q (F0 m 255 ls []) := by
    intro K97 hK97
    intro v1 v2 v3 v4 v5 v6 v9 v10 v14 S H locs hW ls hl hf
    unfold fX12_order_b255 at hf
    refine lv_iload (pc := 255) hx hb dX12_order_255 (lv_at hl 8 rfl) ?_
    refine lv_istore (pc := 257) (lv' := [(7, .int v10), (0, .ref (h 0)), (1, .int v1), (2, .int v2), (3, .int v3), (4, .int v4), (5, .int v5), (6, .int v6), (9, .int v9), (10, .int v10), (14, .int v14)]) hx hb dX12_order_257 hl (by decide) rfl (fun ls hl => ?_)
    refine lv_iload (pc := 259) hx hb dX12_order_259 (lv_at hl 10 rfl) ?_
    refine lv_istore (pc := 261) (lv' := [(8, .int v14), (7, .int v10), (0, .ref (h 0)), (1, .int v1), (2, .int v2), (3, .int v3), (4, .int v4), (5, .int v5), (6, .int v6), (9, .int v9), (10, .int v10), (14, .int v14)]) hx hb dX12_order_261 hl (by decide) rfl (fun ls hl => ?_)
    refine lv_iinc (pc := 263) (v := (v9 + 1)) (lv' := [(9, .int (v9 + 1)), (8, .int v14), (7, .int v10), (0, .ref (h 0)), (1, .int v1), (2, .int v2), (3, .int v3), (4, .int v4), (5, .int v5), (6, .int v6), (10, .int v10), (14, .int v14)]) hx hb dX12_order_263 hl (k := 9) rfl (by rfl) (by decide) rfl (fun ls hl => ?_)
    refine lv_goto (pc := 266) (tgt := 97) hx hb dX12_order_266 (by decide) ?_
    exact hK97 v1 v2 v3 v4 v5 v6 v10 v14 (v9 + 1) S H locs hW ls (lv_sub hl [3, 4, 5, 6, 7, 8, 9, 2, 1, 0] rfl) hf
  have w216 : ∀ (K97 : Int32 → Int32 → Int32 → Int32 → Int32 → Int32 → Int32 → Int32 → Int32 → zSt → Option (Int32 × zSt)) (hK97 : ∀ (v1 : Int32) (v2 : Int32) (v3 : Int32) (v4 : Int32) (v5 : Int32) (v6 : Int32) (v7 : Int32) (v8 : Int32) (v9 : Int32) (S : zSt) (H : Heap) (locs : List Loc), zW zTr D (tR cA) (wR cA h S) (aW (hsR h) s.heap.size) s H locs → ∀ ls : Array Slot, lv_has ls 16 [(0, .ref (h 0)), (1, .int v1), (2, .int v2), (3, .int v3), (4, .int v4), (5, .int v5), (6, .int v6), (7, .int v7), (8, .int v8), (9, .int v9)] → K97 v1 v2 v3 v4 v5 v6 v7 v8 v9 S = some (r, S1) → W p l e rmX12_order s m args below meth c H locs 0 0 Q (F0 m 97 ls [])) , ∀ (v1 : Int32) (v2 : Int32) (v3 : Int32) (v4 : Int32) (v5 : Int32) (v6 : Int32) (v7 : Int32) (v8 : Int32) (v9 : Int32) (v10 : Int32) (v12 : Int32) (S : zSt) (H : Heap) (locs : List Loc), zW zTr D (tR cA) (wR cA h S) (aW (hsR h) s.heap.size) s H locs → ∀ ls : Array Slot, lv_has ls 16 [(0, .ref (h 0)), (1, .int v1), (2, .int v2), (3, .int v3), (4, .int v4), (5, .int v5), (6, .int v6), (7, .int v7), (8, .int v8), (9, .int v9), (10, .int v10), (12, .int v12)] → fX12_order_b216 N K97 v1 v2 v3 v4 v5 v6 v7 v8 v9 v10 v12 S = some (r, S1) → W p l e rmX12_order s m args below meth c H locs 0 0 Q (F0 m 216 ls []) := by
    intro K97 hK97
    intro v1 v2 v3 v4 v5 v6 v7 v8 v9 v10 v12 S H locs hW ls hl hf
    unfold fX12_order_b216 at hf
    refine lv_iload (pc := 216) hx hb dX12_order_216 (lv_at hl 11 rfl) ?_
    refine lv_if_ne (pc := 218) (tgt := 224) hx hb dX12_order_218 (by decide) (fun c1 => ?_) (fun c1 => ?_)
    · have hf := zf c1 hf
      refine lv_aload_n (pc := 224) hx hb dX12_order_224 rfl (lv_at hl 0 rfl) ?_
      refine lv_iload_n (pc := 225) hx hb dX12_order_225 rfl (lv_at hl 1 rfl) ?_
      refine lv_bipush (pc := 226) (v := 100) hx hb dX12_order_226 (by decide) ?_
      refine lv_idiv (pc := 228) hx hb dX12_order_228 (by decide) ?_
      refine lv_iload (pc := 229) hx hb dX12_order_229 (lv_at hl 5 rfl) ?_
      refine lv_iload_n (pc := 231) hx hb dX12_order_231 rfl (lv_at hl 2 rfl) ?_
      refine lv_bipush (pc := 232) (v := 10) hx hb dX12_order_232 (by decide) ?_
      refine lv_irem (pc := 234) hx hb dX12_order_234 (by decide) ?_
      obtain ⟨r2, S3, e4, hf⟩ := zB_e hf
      refine zcVi zTr_ok (As := [.int (v1 / 100), .int v5, .int (v2 - v2 / 10 * 10)]) (pc := 235) C0 hW (kX12_leastOf l D cA h H.size N (v1 / 100) v5 (v2 - v2 / 10 * 10) S r2 S3 e4) (cwV 3 hts (zgV gaR mR_249 mR_250 mR_251 mR_46 mR_244) rfl rfl rfl (by decide +kernel) ⟨Nat.le_of_ble_eq_true rfl, Nat.le_of_ble_eq_true rfl⟩) (va_recv hW.1 hW.2.1 (ci := 12) (q0 := 0) rfl rfl) rfl hl.1 rfl (Nat.le_of_ble_eq_true rfl) dX12_order_235 (fun H locs hW => ?_)
      refine lv_istore (pc := 238) (lv' := [(14, .int r2), (0, .ref (h 0)), (1, .int v1), (2, .int v2), (3, .int v3), (4, .int v4), (5, .int v5), (6, .int v6), (7, .int v7), (8, .int v8), (9, .int v9), (10, .int v10), (12, .int v12)]) hx hb dX12_order_238 hl (by decide) rfl (fun ls hl => ?_)
      refine lv_iload (pc := 240) hx hb dX12_order_240 (lv_at hl 8 rfl) ?_
      refine lv_if_le (pc := 242) (tgt := 255) hx hb dX12_order_242 (by decide) (fun c5 => ?_) (fun c5 => ?_)
      · have hf := zt c5 hf
        exact w255 K97 hK97 v1 v2 v3 v4 v5 v6 v9 v10 r2 S3 H locs hW ls (lv_sub hl [1, 2, 3, 4, 5, 6, 7, 10, 11, 0] rfl) hf
      · have hf := zf c5 hf
        refine lv_iload (pc := 245) hx hb dX12_order_245 (lv_at hl 0 rfl) ?_
        refine lv_iload (pc := 247) hx hb dX12_order_247 (lv_at hl 9 rfl) ?_
        refine lv_icmp_gt (pc := 249) (tgt := 255) hx hb dX12_order_249 (by decide) (fun c6 => ?_) (fun c6 => ?_)
        · have hf := zt c6 hf
          exact w255 K97 hK97 v1 v2 v3 v4 v5 v6 v9 v10 r2 S3 H locs hW ls (lv_sub hl [1, 2, 3, 4, 5, 6, 7, 10, 11, 0] rfl) hf
        · have hf := zf c6 hf
          refine lv_goto (pc := 252) (tgt := 263) hx hb dX12_order_252 (by decide) ?_
          refine lv_iinc (pc := 263) (v := (v9 + 1)) (lv' := [(9, .int (v9 + 1)), (14, .int r2), (0, .ref (h 0)), (1, .int v1), (2, .int v2), (3, .int v3), (4, .int v4), (5, .int v5), (6, .int v6), (7, .int v7), (8, .int v8), (10, .int v10), (12, .int v12)]) hx hb dX12_order_263 hl (k := 10) rfl (by rfl) (by decide) rfl (fun ls hl => ?_)
          refine lv_goto (pc := 266) (tgt := 97) hx hb dX12_order_266 (by decide) ?_
          exact hK97 v1 v2 v3 v4 v5 v6 v7 v8 (v9 + 1) S3 H locs hW ls (lv_sub hl [2, 3, 4, 5, 6, 7, 8, 9, 10, 0] rfl) hf
    · have hf := zt c1 hf
      refine lv_goto (pc := 221) (tgt := 263) hx hb dX12_order_221 (by decide) ?_
      refine lv_iinc (pc := 263) (v := (v9 + 1)) (lv' := [(9, .int (v9 + 1)), (0, .ref (h 0)), (1, .int v1), (2, .int v2), (3, .int v3), (4, .int v4), (5, .int v5), (6, .int v6), (7, .int v7), (8, .int v8), (10, .int v10), (12, .int v12)]) hx hb dX12_order_263 hl (k := 9) rfl (by rfl) (by decide) rfl (fun ls hl => ?_)
      refine lv_goto (pc := 266) (tgt := 97) hx hb dX12_order_266 (by decide) ?_
      exact hK97 v1 v2 v3 v4 v5 v6 v7 v8 (v9 + 1) S H locs hW ls (lv_sub hl [1, 2, 3, 4, 5, 6, 7, 8, 9, 0] rfl) hf
  have w190 : ∀ (K97 : Int32 → Int32 → Int32 → Int32 → Int32 → Int32 → Int32 → Int32 → Int32 → zSt → Option (Int32 × zSt)) (hK97 : ∀ (v1 : Int32) (v2 : Int32) (v3 : Int32) (v4 : Int32) (v5 : Int32) (v6 : Int32) (v7 : Int32) (v8 : Int32) (v9 : Int32) (S : zSt) (H : Heap) (locs : List Loc), zW zTr D (tR cA) (wR cA h S) (aW (hsR h) s.heap.size) s H locs → ∀ ls : Array Slot, lv_has ls 16 [(0, .ref (h 0)), (1, .int v1), (2, .int v2), (3, .int v3), (4, .int v4), (5, .int v5), (6, .int v6), (7, .int v7), (8, .int v8), (9, .int v9)] → K97 v1 v2 v3 v4 v5 v6 v7 v8 v9 S = some (r, S1) → W p l e rmX12_order s m args below meth c H locs 0 0 Q (F0 m 97 ls [])) (K123 : Int32 → Int32 → Int32 → Int32 → Int32 → Int32 → Int32 → Int32 → Int32 → Int32 → Int32 → Int32 → Int32 → Int32 → zSt → Option (Int32 × zSt)) (hK123 : ∀ (v1 : Int32) (v2 : Int32) (v3 : Int32) (v4 : Int32) (v5 : Int32) (v6 : Int32) (v7 : Int32) (v8 : Int32) (v9 : Int32) (v10 : Int32) (v11 : Int32) (v12 : Int32) (v13 : Int32) (v14 : Int32) (S : zSt) (H : Heap) (locs : List Loc), zW zTr D (tR cA) (wR cA h S) (aW (hsR h) s.heap.size) s H locs → ∀ ls : Array Slot, lv_has ls 16 [(0, .ref (h 0)), (1, .int v1), (2, .int v2), (3, .int v3), (4, .int v4), (5, .int v5), (6, .int v6), (7, .int v7), (8, .int v8), (9, .int v9), (10, .int v10), (11, .int v11), (12, .int v12), (13, .int v13), (14, .int v14)] → K123 v1 v2 v3 v4 v5 v6 v7 v8 v9 v10 v11 v12 v13 v14 S = some (r, S1) → W p l e rmX12_order s m args below meth c H locs 0 0 Q (F0 m 123 ls [])) , ∀ (v1 : Int32) (v2 : Int32) (v3 : Int32) (v4 : Int32) (v5 : Int32) (v6 : Int32) (v7 : Int32) (v8 : Int32) (v9 : Int32) (v10 : Int32) (v11 : Int32) (v13 : Int32) (v14 : Int32) (v15 : Int32) (u0 : Int32) (S : zSt) (H : Heap) (locs : List Loc), zW zTr D (tR cA) (wR cA h S) (aW (hsR h) s.heap.size) s H locs → ∀ ls : Array Slot, lv_has ls 16 [(0, .ref (h 0)), (1, .int v1), (2, .int v2), (3, .int v3), (4, .int v4), (5, .int v5), (6, .int v6), (7, .int v7), (8, .int v8), (9, .int v9), (10, .int v10), (11, .int v11), (13, .int v13), (14, .int v14), (15, .int v15)] → fX12_order_b190 N K97 K123 v1 v2 v3 v4 v5 v6 v7 v8 v9 v10 v11 v13 v14 v15 u0 S = some (r, S1) → W p l e rmX12_order s m args below meth c H locs 0 0 Q (F0 m 190 ls [.int u0]) := by
    intro K97 hK97 K123 hK123
    intro v1 v2 v3 v4 v5 v6 v7 v8 v9 v10 v11 v13 v14 v15 u0 S H locs hW ls hl hf
    unfold fX12_order_b190 at hf
    refine lv_istore (pc := 190) (lv' := [(12, .int u0), (0, .ref (h 0)), (1, .int v1), (2, .int v2), (3, .int v3), (4, .int v4), (5, .int v5), (6, .int v6), (7, .int v7), (8, .int v8), (9, .int v9), (10, .int v10), (11, .int v11), (13, .int v13), (14, .int v14), (15, .int v15)]) hx hb dX12_order_190 hl (by decide) rfl (fun ls hl => ?_)
    refine lv_iload (pc := 192) hx hb dX12_order_192 (lv_at hl 13 rfl) ?_
    refine lv_iconst (pc := 194) (v := 1) hx hb dX12_order_194 (by decide) ?_
    refine lv_iload (pc := 195) hx hb dX12_order_195 (lv_at hl 15 rfl) ?_
    refine lv_ishl (pc := 197) hx hb dX12_order_197 ?_
    refine lv_ior (pc := 198) hx hb dX12_order_198 ?_
    refine lv_istore (pc := 199) (lv' := [(13, .int (v13 ||| (1 <<< (v15 &&& 31)))), (12, .int u0), (0, .ref (h 0)), (1, .int v1), (2, .int v2), (3, .int v3), (4, .int v4), (5, .int v5), (6, .int v6), (7, .int v7), (8, .int v8), (9, .int v9), (10, .int v10), (11, .int v11), (14, .int v14), (15, .int v15)]) hx hb dX12_order_199 hl (by decide) rfl (fun ls hl => ?_)
    refine lv_aload_n (pc := 201) hx hb dX12_order_201 rfl (lv_at hl 2 rfl) ?_
    refine rg_34 (pc := 202) C0 hu_12 hW mR_27 dX12_order_202 ?_
    refine lv_iload (pc := 205) hx hb dX12_order_205 (lv_at hl 14 rfl) ?_
    refine lv_iload (pc := 207) hx hb dX12_order_207 (lv_at hl 15 rfl) ?_
    obtain ⟨i7, hf⟩ := zn hf
    obtain ⟨S8, e_S8, hf⟩ := zL_e hf
    refine rs_34 (pc := 209) C0 hW i7 e_S8 dX12_order_209 (fun H locs hW => ?_)
    refine lv_iinc (pc := 210) (v := (v14 + 1)) (lv' := [(14, .int (v14 + 1)), (13, .int (v13 ||| (1 <<< (v15 &&& 31)))), (12, .int u0), (0, .ref (h 0)), (1, .int v1), (2, .int v2), (3, .int v3), (4, .int v4), (5, .int v5), (6, .int v6), (7, .int v7), (8, .int v8), (9, .int v9), (10, .int v10), (11, .int v11), (15, .int v15)]) hx hb dX12_order_210 hl (k := 14) rfl (by rfl) (by decide) rfl (fun ls hl => ?_)
    refine lv_goto (pc := 213) (tgt := 123) hx hb dX12_order_213 (by decide) ?_
    exact hK123 v1 v2 v3 v4 v5 v6 v7 v8 v9 v10 v11 u0 (v13 ||| (1 <<< (v15 &&& 31))) (v14 + 1) S8 H locs hW ls (lv_sub hl [3, 4, 5, 6, 7, 8, 9, 10, 11, 12, 13, 14, 2, 1, 0] rfl) hf
  have w189 : ∀ (K97 : Int32 → Int32 → Int32 → Int32 → Int32 → Int32 → Int32 → Int32 → Int32 → zSt → Option (Int32 × zSt)) (hK97 : ∀ (v1 : Int32) (v2 : Int32) (v3 : Int32) (v4 : Int32) (v5 : Int32) (v6 : Int32) (v7 : Int32) (v8 : Int32) (v9 : Int32) (S : zSt) (H : Heap) (locs : List Loc), zW zTr D (tR cA) (wR cA h S) (aW (hsR h) s.heap.size) s H locs → ∀ ls : Array Slot, lv_has ls 16 [(0, .ref (h 0)), (1, .int v1), (2, .int v2), (3, .int v3), (4, .int v4), (5, .int v5), (6, .int v6), (7, .int v7), (8, .int v8), (9, .int v9)] → K97 v1 v2 v3 v4 v5 v6 v7 v8 v9 S = some (r, S1) → W p l e rmX12_order s m args below meth c H locs 0 0 Q (F0 m 97 ls [])) (K123 : Int32 → Int32 → Int32 → Int32 → Int32 → Int32 → Int32 → Int32 → Int32 → Int32 → Int32 → Int32 → Int32 → Int32 → zSt → Option (Int32 × zSt)) (hK123 : ∀ (v1 : Int32) (v2 : Int32) (v3 : Int32) (v4 : Int32) (v5 : Int32) (v6 : Int32) (v7 : Int32) (v8 : Int32) (v9 : Int32) (v10 : Int32) (v11 : Int32) (v12 : Int32) (v13 : Int32) (v14 : Int32) (S : zSt) (H : Heap) (locs : List Loc), zW zTr D (tR cA) (wR cA h S) (aW (hsR h) s.heap.size) s H locs → ∀ ls : Array Slot, lv_has ls 16 [(0, .ref (h 0)), (1, .int v1), (2, .int v2), (3, .int v3), (4, .int v4), (5, .int v5), (6, .int v6), (7, .int v7), (8, .int v8), (9, .int v9), (10, .int v10), (11, .int v11), (12, .int v12), (13, .int v13), (14, .int v14)] → K123 v1 v2 v3 v4 v5 v6 v7 v8 v9 v10 v11 v12 v13 v14 S = some (r, S1) → W p l e rmX12_order s m args below meth c H locs 0 0 Q (F0 m 123 ls [])) , ∀ (v1 : Int32) (v2 : Int32) (v3 : Int32) (v4 : Int32) (v5 : Int32) (v6 : Int32) (v7 : Int32) (v8 : Int32) (v9 : Int32) (v10 : Int32) (v11 : Int32) (v13 : Int32) (v14 : Int32) (v15 : Int32) (S : zSt) (H : Heap) (locs : List Loc), zW zTr D (tR cA) (wR cA h S) (aW (hsR h) s.heap.size) s H locs → ∀ ls : Array Slot, lv_has ls 16 [(0, .ref (h 0)), (1, .int v1), (2, .int v2), (3, .int v3), (4, .int v4), (5, .int v5), (6, .int v6), (7, .int v7), (8, .int v8), (9, .int v9), (10, .int v10), (11, .int v11), (13, .int v13), (14, .int v14), (15, .int v15)] → fX12_order_b189 N K97 K123 v1 v2 v3 v4 v5 v6 v7 v8 v9 v10 v11 v13 v14 v15 S = some (r, S1) → W p l e rmX12_order s m args below meth c H locs 0 0 Q (F0 m 189 ls []) := by
    intro K97 hK97 K123 hK123
    intro v1 v2 v3 v4 v5 v6 v7 v8 v9 v10 v11 v13 v14 v15 S H locs hW ls hl hf
    unfold fX12_order_b189 at hf
    refine lv_iconst (pc := 189) (v := 0) hx hb dX12_order_189 (by decide) ?_
    exact w190 K97 hK97 K123 hK123 v1 v2 v3 v4 v5 v6 v7 v8 v9 v10 v11 v13 v14 v15 0 S H locs hW ls (lv_sub hl [0, 1, 2, 3, 4, 5, 6, 7, 8, 9, 10, 11, 12, 13, 14] rfl) hf
  have w123 : ∀ (K97 : Int32 → Int32 → Int32 → Int32 → Int32 → Int32 → Int32 → Int32 → Int32 → zSt → Option (Int32 × zSt)) (hK97 : ∀ (v1 : Int32) (v2 : Int32) (v3 : Int32) (v4 : Int32) (v5 : Int32) (v6 : Int32) (v7 : Int32) (v8 : Int32) (v9 : Int32) (S : zSt) (H : Heap) (locs : List Loc), zW zTr D (tR cA) (wR cA h S) (aW (hsR h) s.heap.size) s H locs → ∀ ls : Array Slot, lv_has ls 16 [(0, .ref (h 0)), (1, .int v1), (2, .int v2), (3, .int v3), (4, .int v4), (5, .int v5), (6, .int v6), (7, .int v7), (8, .int v8), (9, .int v9)] → K97 v1 v2 v3 v4 v5 v6 v7 v8 v9 S = some (r, S1) → W p l e rmX12_order s m args below meth c H locs 0 0 Q (F0 m 97 ls [])) (n : Nat), ∀ (v1 : Int32) (v2 : Int32) (v3 : Int32) (v4 : Int32) (v5 : Int32) (v6 : Int32) (v7 : Int32) (v8 : Int32) (v9 : Int32) (v10 : Int32) (v11 : Int32) (v12 : Int32) (v13 : Int32) (v14 : Int32) (S : zSt) (H : Heap) (locs : List Loc), zW zTr D (tR cA) (wR cA h S) (aW (hsR h) s.heap.size) s H locs → ∀ ls : Array Slot, lv_has ls 16 [(0, .ref (h 0)), (1, .int v1), (2, .int v2), (3, .int v3), (4, .int v4), (5, .int v5), (6, .int v6), (7, .int v7), (8, .int v8), (9, .int v9), (10, .int v10), (11, .int v11), (12, .int v12), (13, .int v13), (14, .int v14)] → fX12_order_b123 N K97 n v1 v2 v3 v4 v5 v6 v7 v8 v9 v10 v11 v12 v13 v14 S = some (r, S1) → W p l e rmX12_order s m args below meth c H locs 0 0 Q (F0 m 123 ls []) := by
    intro K97 hK97 n
    induction n with
    | zero =>
      intro v1 v2 v3 v4 v5 v6 v7 v8 v9 v10 v11 v12 v13 v14 S H locs hW ls hl hf
      exact absurd hf (by intro h; cases h)
    | succ n ih =>
      intro v1 v2 v3 v4 v5 v6 v7 v8 v9 v10 v11 v12 v13 v14 S H locs hW ls hl hf
      rw [fX12_order_b123] at hf
      refine lv_iload (pc := 123) hx hb dX12_order_123 (lv_at hl 14 rfl) ?_
      refine lv_iload (pc := 125) hx hb dX12_order_125 (lv_at hl 4 rfl) ?_
      refine lv_icmp_ge (pc := 127) (tgt := 216) hx hb dX12_order_127 (by decide) (fun c9 => ?_) (fun c9 => ?_)
      · have hf := zt c9 hf
        exact w216 K97 hK97 v1 v2 v3 v4 v5 v6 v7 v8 v9 v10 v12 S H locs hW ls (lv_sub hl [0, 1, 2, 3, 4, 5, 6, 7, 8, 9, 10, 12] rfl) hf
      · have hf := zf c9 hf
        refine lv_iload (pc := 130) hx hb dX12_order_130 (lv_at hl 12 rfl) ?_
        refine lv_if_eq (pc := 132) (tgt := 216) hx hb dX12_order_132 (by decide) (fun c10 => ?_) (fun c10 => ?_)
        · have hf := zt c10 hf
          exact w216 K97 hK97 v1 v2 v3 v4 v5 v6 v7 v8 v9 v10 v12 S H locs hW ls (lv_sub hl [0, 1, 2, 3, 4, 5, 6, 7, 8, 9, 10, 12] rfl) hf
        · have hf := zf c10 hf
          refine lv_iload (pc := 135) hx hb dX12_order_135 (lv_at hl 9 rfl) ?_
          refine lv_iload (pc := 137) hx hb dX12_order_137 (lv_at hl 11 rfl) ?_
          obtain ⟨i11, hf⟩ := zn hf
          refine lv_idiv (pc := 139) hx hb dX12_order_139 i11 ?_
          refine lv_bipush (pc := 140) (v := 9) hx hb dX12_order_140 (by decide) ?_
          refine lv_irem (pc := 142) hx hb dX12_order_142 (by decide) ?_
          refine lv_istore (pc := 143) (lv' := [(15, .int ((v9 / v11) - (v9 / v11) / 9 * 9)), (0, .ref (h 0)), (1, .int v1), (2, .int v2), (3, .int v3), (4, .int v4), (5, .int v5), (6, .int v6), (7, .int v7), (8, .int v8), (9, .int v9), (10, .int v10), (11, .int v11), (12, .int v12), (13, .int v13), (14, .int v14)]) hx hb dX12_order_143 hl (by decide) rfl (fun ls hl => ?_)
          refine lv_iload (pc := 145) hx hb dX12_order_145 (lv_at hl 12 rfl) ?_
          refine lv_bipush (pc := 147) (v := 9) hx hb dX12_order_147 (by decide) ?_
          refine lv_idiv (pc := 149) hx hb dX12_order_149 (by decide) ?_
          refine lv_istore (pc := 150) (lv' := [(11, .int (v11 / 9)), (15, .int ((v9 / v11) - (v9 / v11) / 9 * 9)), (0, .ref (h 0)), (1, .int v1), (2, .int v2), (3, .int v3), (4, .int v4), (5, .int v5), (6, .int v6), (7, .int v7), (8, .int v8), (9, .int v9), (10, .int v10), (12, .int v12), (13, .int v13), (14, .int v14)]) hx hb dX12_order_150 hl (by decide) rfl (fun ls hl => ?_)
          refine lv_bipush (pc := 152) (v := 10) hx hb dX12_order_152 (by decide) ?_
          refine lv_iload (pc := 154) hx hb dX12_order_154 (lv_at hl 12 rfl) ?_
          refine lv_imul (pc := 156) hx hb dX12_order_156 ?_
          refine lv_iload (pc := 157) hx hb dX12_order_157 (lv_at hl 1 rfl) ?_
          refine lv_iadd (pc := 159) hx hb dX12_order_159 ?_
          refine lv_iconst (pc := 160) (v := 1) hx hb dX12_order_160 (by decide) ?_
          refine lv_iadd (pc := 161) hx hb dX12_order_161 ?_
          obtain ⟨x12, e_x12, hf⟩ := zL_e hf
          refine ztopi e_x12 ?_
          refine lv_istore (pc := 162) (lv' := [(10, .int x12), (11, .int (v11 / 9)), (15, .int ((v9 / v11) - (v9 / v11) / 9 * 9)), (0, .ref (h 0)), (1, .int v1), (2, .int v2), (3, .int v3), (4, .int v4), (5, .int v5), (6, .int v6), (7, .int v7), (8, .int v8), (9, .int v9), (12, .int v12), (13, .int v13), (14, .int v14)]) hx hb dX12_order_162 hl (by decide) rfl (fun ls hl => ?_)
          refine lv_iload (pc := 164) hx hb dX12_order_164 (lv_at hl 14 rfl) ?_
          refine lv_iload (pc := 166) hx hb dX12_order_166 (lv_at hl 2 rfl) ?_
          refine lv_ishr (pc := 168) hx hb dX12_order_168 ?_
          refine lv_iconst (pc := 169) (v := 1) hx hb dX12_order_169 (by decide) ?_
          refine lv_iand (pc := 170) hx hb dX12_order_170 ?_
          refine lv_if_ne (pc := 171) (tgt := 189) hx hb dX12_order_171 (by decide) (fun c13 => ?_) (fun c13 => ?_)
          · have hf := zf c13 hf
            exact w189 K97 hK97 (fX12_order_b123 N K97 n) ih v1 v2 v3 v4 v5 v6 v7 v8 v9 x12 (v11 / 9) v13 v14 ((v9 / v11) - (v9 / v11) / 9 * 9) S H locs hW ls (lv_sub hl [3, 4, 5, 6, 7, 8, 9, 10, 11, 12, 0, 1, 14, 15, 2] rfl) hf
          · have hf := zt c13 hf
            refine lv_aload_n (pc := 174) hx hb dX12_order_174 rfl (lv_at hl 3 rfl) ?_
            refine lv_iload (pc := 175) hx hb dX12_order_175 (lv_at hl 2 rfl) ?_
            refine lv_iload (pc := 177) hx hb dX12_order_177 (lv_at hl 7 rfl) ?_
            obtain ⟨r14, S15, e16, hf⟩ := zB_e hf
            refine zcVi zTr_ok (As := [.int ((v9 / v11) - (v9 / v11) / 9 * 9), .int v4]) (pc := 179) C0 hW (kX12_isOne l D cA h H.size N ((v9 / v11) - (v9 / v11) / 9 * 9) v4 S r14 S15 e16) (cwV 2 hts (zgV gaR mR_253 mR_254 mR_255 mR_46 mR_256) rfl rfl rfl (by decide +kernel) ⟨Nat.le_of_ble_eq_true rfl, Nat.le_of_ble_eq_true rfl⟩) (va_recv hW.1 hW.2.1 (ci := 12) (q0 := 0) rfl rfl) rfl hl.1 rfl (Nat.le_of_ble_eq_true rfl) dX12_order_179 (fun H locs hW => ?_)
            refine lv_if_eq (pc := 182) (tgt := 189) hx hb dX12_order_182 (by decide) (fun c17 => ?_) (fun c17 => ?_)
            · have hf := zt c17 hf
              exact w189 K97 hK97 (fX12_order_b123 N K97 n) ih v1 v2 v3 v4 v5 v6 v7 v8 v9 x12 (v11 / 9) v13 v14 ((v9 / v11) - (v9 / v11) / 9 * 9) S15 H locs hW ls (lv_sub hl [3, 4, 5, 6, 7, 8, 9, 10, 11, 12, 0, 1, 14, 15, 2] rfl) hf
            · have hf := zf c17 hf
              refine lv_iconst (pc := 185) (v := 1) hx hb dX12_order_185 (by decide) ?_
              refine lv_goto (pc := 186) (tgt := 190) hx hb dX12_order_186 (by decide) ?_
              exact w190 K97 hK97 (fX12_order_b123 N K97 n) ih v1 v2 v3 v4 v5 v6 v7 v8 v9 x12 (v11 / 9) v13 v14 ((v9 / v11) - (v9 / v11) / 9 * 9) 1 S15 H locs hW ls (lv_sub hl [3, 4, 5, 6, 7, 8, 9, 10, 11, 12, 0, 1, 14, 15, 2] rfl) hf
  have w97 : ∀ (n : Nat), ∀ (v1 : Int32) (v2 : Int32) (v3 : Int32) (v4 : Int32) (v5 : Int32) (v6 : Int32) (v7 : Int32) (v8 : Int32) (v9 : Int32) (S : zSt) (H : Heap) (locs : List Loc), zW zTr D (tR cA) (wR cA h S) (aW (hsR h) s.heap.size) s H locs → ∀ ls : Array Slot, lv_has ls 16 [(0, .ref (h 0)), (1, .int v1), (2, .int v2), (3, .int v3), (4, .int v4), (5, .int v5), (6, .int v6), (7, .int v7), (8, .int v8), (9, .int v9)] → fX12_order_b97 N n v1 v2 v3 v4 v5 v6 v7 v8 v9 S = some (r, S1) → W p l e rmX12_order s m args below meth c H locs 0 0 Q (F0 m 97 ls []) := by
    intro n
    induction n with
    | zero =>
      intro v1 v2 v3 v4 v5 v6 v7 v8 v9 S H locs hW ls hl hf
      exact absurd hf (by intro h; cases h)
    | succ n ih =>
      intro v1 v2 v3 v4 v5 v6 v7 v8 v9 S H locs hW ls hl hf
      rw [fX12_order_b97] at hf
      refine lv_iload (pc := 97) hx hb dX12_order_97 (lv_at hl 9 rfl) ?_
      refine lv_iload (pc := 99) hx hb dX12_order_99 (lv_at hl 6 rfl) ?_
      refine lv_icmp_ge (pc := 101) (tgt := 269) hx hb dX12_order_101 (by decide) (fun c18 => ?_) (fun c18 => ?_)
      · have hf := zt c18 hf
        refine lv_iload_n (pc := 269) hx hb dX12_order_269 rfl (lv_at hl 3 rfl) ?_
        refine lv_if_ne (pc := 270) (tgt := 278) hx hb dX12_order_270 (by decide) (fun c19 => ?_) (fun c19 => ?_)
        · have hf := zf c19 hf
          refine lv_iload (pc := 278) hx hb dX12_order_278 (lv_at hl 8 rfl) ?_
          exact zend_i (w := wR cA h) fin hf hW dX12_order_280
        · have hf := zt c19 hf
          refine lv_iload (pc := 273) hx hb dX12_order_273 (lv_at hl 7 rfl) ?_
          refine lv_goto (pc := 275) (tgt := 280) hx hb dX12_order_275 (by decide) ?_
          exact zend_i (w := wR cA h) fin hf hW dX12_order_280
      · have hf := zf c18 hf
        refine lv_iconst (pc := 104) (v := 0) hx hb dX12_order_104 (by decide) ?_
        refine lv_istore (pc := 105) (lv' := [(10, .int 0), (0, .ref (h 0)), (1, .int v1), (2, .int v2), (3, .int v3), (4, .int v4), (5, .int v5), (6, .int v6), (7, .int v7), (8, .int v8), (9, .int v9)]) hx hb dX12_order_105 hl (by decide) rfl (fun ls hl => ?_)
        refine lv_iload (pc := 107) hx hb dX12_order_107 (lv_at hl 7 rfl) ?_
        refine lv_bipush (pc := 109) (v := 9) hx hb dX12_order_109 (by decide) ?_
        refine lv_idiv (pc := 111) hx hb dX12_order_111 (by decide) ?_
        refine lv_istore (pc := 112) (lv' := [(11, .int (v6 / 9)), (10, .int 0), (0, .ref (h 0)), (1, .int v1), (2, .int v2), (3, .int v3), (4, .int v4), (5, .int v5), (6, .int v6), (7, .int v7), (8, .int v8), (9, .int v9)]) hx hb dX12_order_112 hl (by decide) rfl (fun ls hl => ?_)
        refine lv_iconst (pc := 114) (v := 1) hx hb dX12_order_114 (by decide) ?_
        refine lv_istore (pc := 115) (lv' := [(12, .int 1), (11, .int (v6 / 9)), (10, .int 0), (0, .ref (h 0)), (1, .int v1), (2, .int v2), (3, .int v3), (4, .int v4), (5, .int v5), (6, .int v6), (7, .int v7), (8, .int v8), (9, .int v9)]) hx hb dX12_order_115 hl (by decide) rfl (fun ls hl => ?_)
        refine lv_iconst (pc := 117) (v := 0) hx hb dX12_order_117 (by decide) ?_
        refine lv_istore (pc := 118) (lv' := [(13, .int 0), (12, .int 1), (11, .int (v6 / 9)), (10, .int 0), (0, .ref (h 0)), (1, .int v1), (2, .int v2), (3, .int v3), (4, .int v4), (5, .int v5), (6, .int v6), (7, .int v7), (8, .int v8), (9, .int v9)]) hx hb dX12_order_118 hl (by decide) rfl (fun ls hl => ?_)
        refine lv_iconst (pc := 120) (v := 0) hx hb dX12_order_120 (by decide) ?_
        refine lv_istore (pc := 121) (lv' := [(14, .int 0), (13, .int 0), (12, .int 1), (11, .int (v6 / 9)), (10, .int 0), (0, .ref (h 0)), (1, .int v1), (2, .int v2), (3, .int v3), (4, .int v4), (5, .int v5), (6, .int v6), (7, .int v7), (8, .int v8), (9, .int v9)]) hx hb dX12_order_121 hl (by decide) rfl (fun ls hl => ?_)
        exact w123 (fX12_order_b97 N n) ih N v1 v2 v3 v4 v5 v6 v7 v8 v9 0 (v6 / 9) 1 0 0 S H locs hW ls (lv_sub hl [5, 6, 7, 8, 9, 10, 11, 12, 13, 14, 4, 3, 2, 1, 0] rfl) hf
  have w54 : ∀ (n : Nat), ∀ (v1 : Int32) (v2 : Int32) (v3 : Int32) (v4 : Int32) (v5 : Int32) (v6 : Int32) (v7 : Int32) (S : zSt) (H : Heap) (locs : List Loc), zW zTr D (tR cA) (wR cA h S) (aW (hsR h) s.heap.size) s H locs → ∀ ls : Array Slot, lv_has ls 16 [(0, .ref (h 0)), (1, .int v1), (2, .int v2), (3, .int v3), (4, .int v4), (5, .int v5), (6, .int v6), (7, .int v7)] → fX12_order_b54 N n v1 v2 v3 v4 v5 v6 v7 S = some (r, S1) → W p l e rmX12_order s m args below meth c H locs 0 0 Q (F0 m 54 ls []) := by
    intro n
    induction n with
    | zero =>
      intro v1 v2 v3 v4 v5 v6 v7 S H locs hW ls hl hf
      exact absurd hf (by intro h; cases h)
    | succ n ih =>
      intro v1 v2 v3 v4 v5 v6 v7 S H locs hW ls hl hf
      rw [fX12_order_b54] at hf
      refine lv_iload (pc := 54) hx hb dX12_order_54 (lv_at hl 7 rfl) ?_
      refine lv_iload (pc := 56) hx hb dX12_order_56 (lv_at hl 4 rfl) ?_
      refine lv_icmp_ge (pc := 58) (tgt := 88) hx hb dX12_order_58 (by decide) (fun c20 => ?_) (fun c20 => ?_)
      · have hf := zt c20 hf
        refine lv_iconst (pc := 88) (v := 0) hx hb dX12_order_88 (by decide) ?_
        refine lv_istore (pc := 89) (lv' := [(7, .int 0), (0, .ref (h 0)), (1, .int v1), (2, .int v2), (3, .int v3), (4, .int v4), (5, .int v5), (6, .int v6)]) hx hb dX12_order_89 hl (by decide) rfl (fun ls hl => ?_)
        refine lv_iconst (pc := 91) (v := 0) hx hb dX12_order_91 (by decide) ?_
        refine lv_istore (pc := 92) (lv' := [(8, .int 0), (7, .int 0), (0, .ref (h 0)), (1, .int v1), (2, .int v2), (3, .int v3), (4, .int v4), (5, .int v5), (6, .int v6)]) hx hb dX12_order_92 hl (by decide) rfl (fun ls hl => ?_)
        refine lv_iconst (pc := 94) (v := 0) hx hb dX12_order_94 (by decide) ?_
        refine lv_istore (pc := 95) (lv' := [(9, .int 0), (8, .int 0), (7, .int 0), (0, .ref (h 0)), (1, .int v1), (2, .int v2), (3, .int v3), (4, .int v4), (5, .int v5), (6, .int v6)]) hx hb dX12_order_95 hl (by decide) rfl (fun ls hl => ?_)
        exact w97 N v1 v2 v3 v4 v5 v6 0 0 0 S H locs hW ls (lv_sub hl [3, 4, 5, 6, 7, 8, 9, 2, 1, 0] rfl) hf
      · have hf := zf c20 hf
        refine lv_aload_n (pc := 61) hx hb dX12_order_61 rfl (lv_at hl 0 rfl) ?_
        refine rg_36 (pc := 62) C0 hu_12 hW mR_29 dX12_order_62 ?_
        refine lv_iload (pc := 65) hx hb dX12_order_65 (lv_at hl 7 rfl) ?_
        refine lv_aload_n (pc := 67) hx hb dX12_order_67 rfl (lv_at hl 0 rfl) ?_
        refine rg_34 (pc := 68) C0 hu_12 hW mR_27 dX12_order_68 ?_
        refine lv_iload (pc := 71) hx hb dX12_order_71 (lv_at hl 7 rfl) ?_
        obtain ⟨i21, hf⟩ := zn hf
        refine rl_34 (pc := 73) C0 hW i21 dX12_order_73 ?_
        obtain ⟨i22, hf⟩ := zn hf
        obtain ⟨S23, e_S23, hf⟩ := zL_e hf
        refine rs_36 (pc := 74) C0 hW i22 e_S23 dX12_order_74 (fun H locs hW => ?_)
        refine lv_iload (pc := 75) hx hb dX12_order_75 (lv_at hl 6 rfl) ?_
        refine lv_bipush (pc := 77) (v := 9) hx hb dX12_order_77 (by decide) ?_
        refine lv_imul (pc := 79) hx hb dX12_order_79 ?_
        refine lv_istore (pc := 80) (lv' := [(6, .int (v6 * 9)), (0, .ref (h 0)), (1, .int v1), (2, .int v2), (3, .int v3), (4, .int v4), (5, .int v5), (7, .int v7)]) hx hb dX12_order_80 hl (by decide) rfl (fun ls hl => ?_)
        refine lv_iinc (pc := 82) (v := (v7 + 1)) (lv' := [(7, .int (v7 + 1)), (6, .int (v6 * 9)), (0, .ref (h 0)), (1, .int v1), (2, .int v2), (3, .int v3), (4, .int v4), (5, .int v5)]) hx hb dX12_order_82 hl (k := 7) rfl (by rfl) (by decide) rfl (fun ls hl => ?_)
        refine lv_goto (pc := 85) (tgt := 54) hx hb dX12_order_85 (by decide) ?_
        exact ih v1 v2 v3 v4 v5 (v6 * 9) (v7 + 1) S23 H locs hW ls (lv_sub hl [2, 3, 4, 5, 6, 7, 1, 0] rfl) hf
  unfold fX12_order at hf
  refine lv_aload_n (pc := 0) hx hb dX12_order_0 rfl (lv_at hl 0 rfl) ?_
  refine lv_iload_n (pc := 1) hx hb dX12_order_1 rfl (lv_at hl 1 rfl) ?_
  obtain ⟨r24, S25, e26, hf⟩ := zB_e hf
  refine zcVi zTr_ok (As := [.int p1]) (pc := 2) C0 hW (kX12_isAt l D cA h H.size p1 S r24 S25 e26) (cwV 1 hts (zgV gaR mR_230 mR_231 mR_232 mR_46 mR_208) rfl rfl rfl (by decide +kernel) ⟨Nat.le_of_ble_eq_true rfl, Nat.le_of_ble_eq_true rfl⟩) (va_recv hW.1 hW.2.1 (ci := 12) (q0 := 0) rfl rfl) rfl hl.1 rfl (Nat.le_of_ble_eq_true rfl) dX12_order_2 (fun H locs hW => ?_)
  refine lv_if_eq (pc := 5) (tgt := 25) hx hb dX12_order_5 (by decide) (fun c27 => ?_) (fun c27 => ?_)
  · have hf := zt c27 hf
    refine lv_ldc (pc := 25) (v := (-2000000000)) hx hb hown (hts _ mR_179) dX12_order_25 ?_
    exact zend_i (w := wR cA h) fin hf hW dX12_order_27
  · have hf := zf c27 hf
    refine lv_aload_n (pc := 8) hx hb dX12_order_8 rfl (lv_at hl 0 rfl) ?_
    refine lv_iload_n (pc := 9) hx hb dX12_order_9 rfl (lv_at hl 2 rfl) ?_
    obtain ⟨r28, S29, e30, hf⟩ := zB_e hf
    refine zcVi zTr_ok (As := [.int p2]) (pc := 10) C0 hW (kX12_areSo l D cA h H.size N p2 S25 r28 S29 e30) (cwV 1 hts (zgV gaR mR_233 mR_234 mR_235 mR_46 mR_204) rfl rfl rfl (by decide +kernel) ⟨Nat.le_of_ble_eq_true rfl, Nat.le_of_ble_eq_true rfl⟩) (va_recv hW.1 hW.2.1 (ci := 12) (q0 := 0) rfl rfl) rfl hl.1 rfl (Nat.le_of_ble_eq_true rfl) dX12_order_10 (fun H locs hW => ?_)
    refine lv_if_eq (pc := 13) (tgt := 25) hx hb dX12_order_13 (by decide) (fun c31 => ?_) (fun c31 => ?_)
    · have hf := zt c31 hf
      refine lv_ldc (pc := 25) (v := (-2000000000)) hx hb hown (hts _ mR_179) dX12_order_25 ?_
      exact zend_i (w := wR cA h) fin hf hW dX12_order_27
    · have hf := zf c31 hf
      refine lv_iload_n (pc := 16) hx hb dX12_order_16 rfl (lv_at hl 3 rfl) ?_
      refine lv_iconst (pc := 17) (v := 0) hx hb dX12_order_17 (by decide) ?_
      refine lv_iconst (pc := 18) (v := 1) hx hb dX12_order_18 (by decide) ?_
      obtain ⟨r32, e34, hf⟩ := zU_e hf
      refine zcSi (As := [.int p3, .int 0, .int 1]) (pc := 19) C0 hW (kX12_in l H.size p3 0 1 r32 e34) (va_cwS 3 hts (zgS gaR mR_44 mR_45 mR_46 mR_39) rfl rfl rfl (by decide +kernel) ⟨Nat.le_of_ble_eq_true rfl, Nat.le_of_ble_eq_true rfl⟩) rfl hl.1 rfl (Nat.le_of_ble_eq_true rfl) dX12_order_19 (fun H locs hW => ?_)
      refine lv_if_ne (pc := 22) (tgt := 28) hx hb dX12_order_22 (by decide) (fun c35 => ?_) (fun c35 => ?_)
      · have hf := zf c35 hf
        refine lv_aload_n (pc := 28) hx hb dX12_order_28 rfl (lv_at hl 0 rfl) ?_
        refine rg_33 (pc := 29) C0 hu_12 hW mR_203 dX12_order_29 ?_
        refine lv_istore (pc := 32) (lv' := [(4, .int (S29.1 33)), (0, .ref (h 0)), (1, .int p1), (2, .int p2), (3, .int p3)]) hx hb dX12_order_32 hl (by decide) rfl (fun ls hl => ?_)
        refine lv_aload_n (pc := 34) hx hb dX12_order_34 rfl (lv_at hl 1 rfl) ?_
        refine lv_aload_n (pc := 35) hx hb dX12_order_35 rfl (lv_at hl 1 rfl) ?_
        refine rg_25 (pc := 36) C0 hu_12 hW mR_22 dX12_order_36 ?_
        refine lv_iload_n (pc := 39) hx hb dX12_order_39 rfl (lv_at hl 2 rfl) ?_
        refine lv_bipush (pc := 40) (v := 100) hx hb dX12_order_40 (by decide) ?_
        refine lv_irem (pc := 42) hx hb dX12_order_42 (by decide) ?_
        obtain ⟨r36, S37, e38, hf⟩ := zB_e hf
        refine zcVi zTr_ok (As := [.int (S29.1 25), .int (p1 - p1 / 100 * 100)]) (pc := 43) C0 hW (kX12_riseBy l D cA h H.size N (S29.1 25) (p1 - p1 / 100 * 100) S29 r36 S37 e38) (cwV 2 hts (zgV gaR mR_182 mR_183 mR_184 mR_46 mR_172) rfl rfl rfl (by decide +kernel) ⟨Nat.le_of_ble_eq_true rfl, Nat.le_of_ble_eq_true rfl⟩) (va_recv hW.1 hW.2.1 (ci := 12) (q0 := 0) rfl rfl) rfl hl.1 rfl (Nat.le_of_ble_eq_true rfl) dX12_order_43 (fun H locs hW => ?_)
        refine lv_istore (pc := 46) (lv' := [(5, .int r36), (4, .int (S29.1 33)), (0, .ref (h 0)), (1, .int p1), (2, .int p2), (3, .int p3)]) hx hb dX12_order_46 hl (by decide) rfl (fun ls hl => ?_)
        refine lv_iconst (pc := 48) (v := 1) hx hb dX12_order_48 (by decide) ?_
        refine lv_istore (pc := 49) (lv' := [(6, .int 1), (5, .int r36), (4, .int (S29.1 33)), (0, .ref (h 0)), (1, .int p1), (2, .int p2), (3, .int p3)]) hx hb dX12_order_49 hl (by decide) rfl (fun ls hl => ?_)
        refine lv_iconst (pc := 51) (v := 0) hx hb dX12_order_51 (by decide) ?_
        refine lv_istore (pc := 52) (lv' := [(7, .int 0), (6, .int 1), (5, .int r36), (4, .int (S29.1 33)), (0, .ref (h 0)), (1, .int p1), (2, .int p2), (3, .int p3)]) hx hb dX12_order_52 hl (by decide) rfl (fun ls hl => ?_)
        exact w54 N p1 p2 p3 (S29.1 33) r36 1 0 S37 H locs hW ls (lv_sub hl [4, 5, 6, 7, 3, 2, 1, 0] rfl) hf
      · have hf := zt c35 hf
        refine lv_ldc (pc := 25) (v := (-2000000000)) hx hb hown (hts _ mR_179) dX12_order_25 ?_
        exact zend_i (w := wR cA h) fin hf hW dX12_order_27

def fX12_isDark_b17   : Option Int32 :=
  some 1
def fX12_isDark (p1 : Int32): Option Int32 :=
  if (p1 - p1 / 24 * 24) < 5 then (fX12_isDark_b17 ) else (if (p1 - p1 / 24 * 24) ≤ 19 then (some 0) else (fX12_isDark_b17 ))
abbrev wX12_isDark : List Cond := Cond.code yX12_isDark cX12_isDark 1 (some .boolean) :: waR
abbrev rmX12_isDark : Room := { frames := 0, cells := 0, slots := 0, locals := 0 }
set_option maxHeartbeats 4000000 in
set_option maxRecDepth 100000 in
theorem kX12_isDark (l : Launch) (sz : Nat) (p1 : Int32) (r : Int32) (hf : fX12_isDark p1 = some r) : zMs l yX12_isDark wX12_isDark rmX12_isDark [.int p1] sz r := by
  refine zEs_z (cc := cX12_isDark) (maxL := 1) (own := RX12) (by decide) rfl rfl (Nat.le_of_ble_eq_true rfl) ?_
  intro p e s m args below meth c Q H locs C0 hW fin ls hl
  have hl : lv_has ls 1 [(0, .int p1)] := hl
  have hx := C0.1
  have hb := C0.2.1
  have hown := C0.2.2.2.1
  have hts := C0.2.2.2.2
  have w17 : ∀  (H : Heap) (locs : List Loc), va_S (aW [] s.heap.size) s.heap H locs → ∀ ls : Array Slot, lv_has ls 1 [] → fX12_isDark_b17  = some r → W p l e rmX12_isDark s m args below meth c H locs 0 0 Q (F0 m 17 ls []) := by
    intro H locs hW ls hl hf
    unfold fX12_isDark_b17 at hf
    refine lv_iconst (pc := 17) (v := 1) hx hb dX12_isDark_17 (by decide) ?_
    refine lv_goto (pc := 18) (tgt := 22) hx hb dX12_isDark_18 (by decide) ?_
    exact zens_z fin hf (by decide) hW dX12_isDark_22
  unfold fX12_isDark at hf
  refine lv_iload_n (pc := 0) hx hb dX12_isDark_0 rfl (lv_at hl 0 rfl) ?_
  refine lv_bipush (pc := 1) (v := 24) hx hb dX12_isDark_1 (by decide) ?_
  refine lv_irem (pc := 3) hx hb dX12_isDark_3 (by decide) ?_
  refine lv_iconst (pc := 4) (v := 5) hx hb dX12_isDark_4 (by decide) ?_
  refine lv_icmp_lt (pc := 5) (tgt := 17) hx hb dX12_isDark_5 (by decide) (fun c1 => ?_) (fun c1 => ?_)
  · have hf := zt c1 hf
    exact w17  H locs hW ls (lv_sub hl [] rfl) hf
  · have hf := zf c1 hf
    refine lv_iload_n (pc := 8) hx hb dX12_isDark_8 rfl (lv_at hl 0 rfl) ?_
    refine lv_bipush (pc := 9) (v := 24) hx hb dX12_isDark_9 (by decide) ?_
    refine lv_irem (pc := 11) hx hb dX12_isDark_11 (by decide) ?_
    refine lv_bipush (pc := 12) (v := 19) hx hb dX12_isDark_12 (by decide) ?_
    refine lv_icmp_le (pc := 14) (tgt := 21) hx hb dX12_isDark_14 (by decide) (fun c2 => ?_) (fun c2 => ?_)
    · have hf := zt c2 hf
      refine lv_iconst (pc := 21) (v := 0) hx hb dX12_isDark_21 (by decide) ?_
      exact zens_z fin hf (by decide) hW dX12_isDark_22
    · have hf := zf c2 hf
      exact w17  H locs hW ls (lv_sub hl [] rfl) hf

def fX12_best_b196 (N : Nat) (v4 : Int32) (S : zSt) : Option (Int32 × zSt) :=
  some (v4, S)
def fX12_best_b148 (N : Nat) (K68 : Int32 → Int32 → Int32 → Int32 → Int32 → zSt → Option (Int32 × zSt)) (K103 : Int32 → Int32 → Int32 → Int32 → Int32 → Int32 → Int32 → zSt → Option (Int32 × zSt)) (K115 : Int32 → Int32 → Int32 → Int32 → Int32 → Int32 → Int32 → Int32 → zSt → Option (Int32 × zSt)) (v2 : Int32) (v3 : Int32) (v6 : Int32) (v7 : Int32) (v8 : Int32) (v9 : Int32) (v10 : Int32) (S : zSt) : Option (Int32 × zSt) :=
  K115 v2 v3 (((1000 * v6) + (10 * v8)) + v9) v10 v6 v7 v8 (v9 + 1) S
def fX12_best_b115 (N : Nat) (K68 : Int32 → Int32 → Int32 → Int32 → Int32 → zSt → Option (Int32 × zSt)) (K103 : Int32 → Int32 → Int32 → Int32 → Int32 → Int32 → Int32 → zSt → Option (Int32 × zSt)) : Nat → Int32 → Int32 → Int32 → Int32 → Int32 → Int32 → Int32 → Int32 → zSt → Option (Int32 × zSt)
  | 0, _, _, _, _, _, _, _, _, _ => none
  | n + 1, v2, v3, v4, v5, v6, v7, v8, v9, S =>
    if 4 ≤ v9 then (K103 v2 v3 v4 v5 v6 v7 (v8 + 1) S) else (zB (fX12_leastOf N v8 v7 v9 S) fun r2 S3 => if v4 < 0 then (fX12_best_b148 N K68 K103 (fX12_best_b115 N K68 K103 n) v2 v3 v6 v7 v8 v9 r2 S3) else (if v5 < r2 then (fX12_best_b148 N K68 K103 (fX12_best_b115 N K68 K103 n) v2 v3 v6 v7 v8 v9 r2 S3) else (fX12_best_b115 N K68 K103 n v2 v3 v4 v5 v6 v7 v8 (v9 + 1) S3)))
def fX12_best_b103 (N : Nat) (K68 : Int32 → Int32 → Int32 → Int32 → Int32 → zSt → Option (Int32 × zSt)) : Nat → Int32 → Int32 → Int32 → Int32 → Int32 → Int32 → Int32 → zSt → Option (Int32 × zSt)
  | 0, _, _, _, _, _, _, _, _ => none
  | n + 1, v2, v3, v4, v5, v6, v7, v8, S =>
    if (S.1 3) ≤ v8 then (K68 v2 v3 v4 v5 (v6 + 1) S) else (fX12_best_b115 N K68 (fX12_best_b103 N K68 n) N v2 v3 v4 v5 v6 v7 v8 0 S)
def fX12_best_b68 (N : Nat) : Nat → Int32 → Int32 → Int32 → Int32 → Int32 → zSt → Option (Int32 × zSt)
  | 0, _, _, _, _, _, _ => none
  | n + 1, v2, v3, v4, v5, v6, S =>
    if (v2 - v2 / 100 * 100) < v6 then (if v4 < 0 then (fX12_best_b196 N v4 S) else (if v3 = 0 then (fX12_best_b196 N v4 S) else (some (v5, S)))) else (zU (fX12_isDark v6) fun r11 => if r11 = 0 then (zB (fX12_riseBy N (S.1 25) v6 S) fun r15 S16 => fX12_best_b103 N (fX12_best_b68 N n) N v2 v3 v4 v5 v6 r15 0 S16) else (fX12_best_b68 N n v2 v3 v4 v5 (v6 + 1) S))
def fX12_best (N : Nat) (p1 : Int32) (p2 : Int32) (p3 : Int32) (S : zSt) : Option (Int32 × zSt) :=
  zB (fX12_isGroup N p1 S) fun r18 S19 => if r18 = 0 then (some ((-2000000000), S19)) else (if p2 < 0 then (some ((-2000000000), S19)) else (zU (fX12_isHour (p2 / 100)) fun r23 => if r23 = 0 then (some ((-2000000000), S19)) else (zU (fX12_isHour (p2 - p2 / 100 * 100)) fun r27 => if r27 = 0 then (some ((-2000000000), S19)) else (if (p2 - p2 / 100 * 100) < (p2 / 100) then (some ((-2000000000), S19)) else (zU (fX12_in p3 0 1) fun r32 => if r32 = 0 then (some ((-2000000000), S19)) else (fX12_best_b68 N N p2 p3 (-2) 0 (p2 / 100) S19))))))
abbrev wX12_best : List Cond := Cond.code yX12_best cX12_best 11 (some .int) :: waR
abbrev rmX12_best : Room := { frames := 5, cells := 0, slots := 0, locals := 125 }
set_option maxHeartbeats 4000000 in
set_option maxRecDepth 100000 in
theorem kX12_best (l : Launch) (D : va_G) (cA : Nat → ClassId) (h : Nat → Nat) (sz : Nat) (N : Nat)  (p1 : Int32) (p2 : Int32) (p3 : Int32) (S : zSt) (r : Int32) (S1 : zSt) (hf : fX12_best N p1 p2 p3 S = some (r, S1)) : zMi l yX12_best wX12_best rmX12_best zTr D (tR cA) (hsR h) [.ref (h 0), .int p1, .int p2, .int p3] (wR cA h S) (wR cA h S1) sz r := by
  refine zEn_i (cc := cX12_best) (maxL := 11) (own := RX12) (by decide) rfl rfl (hmR cA h S) (Nat.le_of_ble_eq_true rfl) ?_
  intro p e s m args below meth c Q H locs C0 hW fin ls hl
  have hl : lv_has ls 11 [(0, .ref (h 0)), (1, .int p1), (2, .int p2), (3, .int p3)] := hl
  have hx := C0.1
  have hb := C0.2.1
  have hown := C0.2.2.2.1
  have hts := C0.2.2.2.2
  have w196 : ∀ (v4 : Int32) (S : zSt) (H : Heap) (locs : List Loc), zW zTr D (tR cA) (wR cA h S) (aW (hsR h) s.heap.size) s H locs → ∀ ls : Array Slot, lv_has ls 11 [(4, .int v4)] → fX12_best_b196 N v4 S = some (r, S1) → W p l e rmX12_best s m args below meth c H locs 0 0 Q (F0 m 196 ls []) := by
    intro v4 S H locs hW ls hl hf
    unfold fX12_best_b196 at hf
    refine lv_iload (pc := 196) hx hb dX12_best_196 (lv_at hl 0 rfl) ?_
    refine lv_goto (pc := 198) (tgt := 203) hx hb dX12_best_198 (by decide) ?_
    exact zend_i (w := wR cA h) fin hf hW dX12_best_203
  have w148 : ∀ (K68 : Int32 → Int32 → Int32 → Int32 → Int32 → zSt → Option (Int32 × zSt)) (hK68 : ∀ (v2 : Int32) (v3 : Int32) (v4 : Int32) (v5 : Int32) (v6 : Int32) (S : zSt) (H : Heap) (locs : List Loc), zW zTr D (tR cA) (wR cA h S) (aW (hsR h) s.heap.size) s H locs → ∀ ls : Array Slot, lv_has ls 11 [(0, .ref (h 0)), (2, .int v2), (3, .int v3), (4, .int v4), (5, .int v5), (6, .int v6)] → K68 v2 v3 v4 v5 v6 S = some (r, S1) → W p l e rmX12_best s m args below meth c H locs 0 0 Q (F0 m 68 ls [])) (K103 : Int32 → Int32 → Int32 → Int32 → Int32 → Int32 → Int32 → zSt → Option (Int32 × zSt)) (hK103 : ∀ (v2 : Int32) (v3 : Int32) (v4 : Int32) (v5 : Int32) (v6 : Int32) (v7 : Int32) (v8 : Int32) (S : zSt) (H : Heap) (locs : List Loc), zW zTr D (tR cA) (wR cA h S) (aW (hsR h) s.heap.size) s H locs → ∀ ls : Array Slot, lv_has ls 11 [(0, .ref (h 0)), (2, .int v2), (3, .int v3), (4, .int v4), (5, .int v5), (6, .int v6), (7, .int v7), (8, .int v8)] → K103 v2 v3 v4 v5 v6 v7 v8 S = some (r, S1) → W p l e rmX12_best s m args below meth c H locs 0 0 Q (F0 m 103 ls [])) (K115 : Int32 → Int32 → Int32 → Int32 → Int32 → Int32 → Int32 → Int32 → zSt → Option (Int32 × zSt)) (hK115 : ∀ (v2 : Int32) (v3 : Int32) (v4 : Int32) (v5 : Int32) (v6 : Int32) (v7 : Int32) (v8 : Int32) (v9 : Int32) (S : zSt) (H : Heap) (locs : List Loc), zW zTr D (tR cA) (wR cA h S) (aW (hsR h) s.heap.size) s H locs → ∀ ls : Array Slot, lv_has ls 11 [(0, .ref (h 0)), (2, .int v2), (3, .int v3), (4, .int v4), (5, .int v5), (6, .int v6), (7, .int v7), (8, .int v8), (9, .int v9)] → K115 v2 v3 v4 v5 v6 v7 v8 v9 S = some (r, S1) → W p l e rmX12_best s m args below meth c H locs 0 0 Q (F0 m 115 ls [])) , ∀ (v2 : Int32) (v3 : Int32) (v6 : Int32) (v7 : Int32) (v8 : Int32) (v9 : Int32) (v10 : Int32) (S : zSt) (H : Heap) (locs : List Loc), zW zTr D (tR cA) (wR cA h S) (aW (hsR h) s.heap.size) s H locs → ∀ ls : Array Slot, lv_has ls 11 [(0, .ref (h 0)), (2, .int v2), (3, .int v3), (6, .int v6), (7, .int v7), (8, .int v8), (9, .int v9), (10, .int v10)] → fX12_best_b148 N K68 K103 K115 v2 v3 v6 v7 v8 v9 v10 S = some (r, S1) → W p l e rmX12_best s m args below meth c H locs 0 0 Q (F0 m 148 ls []) := by
    intro K68 hK68 K103 hK103 K115 hK115
    intro v2 v3 v6 v7 v8 v9 v10 S H locs hW ls hl hf
    unfold fX12_best_b148 at hf
    refine lv_sipush (pc := 148) (v := 1000) hx hb dX12_best_148 (by decide) ?_
    refine lv_iload (pc := 151) hx hb dX12_best_151 (lv_at hl 3 rfl) ?_
    refine lv_imul (pc := 153) hx hb dX12_best_153 ?_
    refine lv_bipush (pc := 154) (v := 10) hx hb dX12_best_154 (by decide) ?_
    refine lv_iload (pc := 156) hx hb dX12_best_156 (lv_at hl 5 rfl) ?_
    refine lv_imul (pc := 158) hx hb dX12_best_158 ?_
    refine lv_iadd (pc := 159) hx hb dX12_best_159 ?_
    refine lv_iload (pc := 160) hx hb dX12_best_160 (lv_at hl 6 rfl) ?_
    refine lv_iadd (pc := 162) hx hb dX12_best_162 ?_
    refine lv_istore (pc := 163) (lv' := [(4, .int (((1000 * v6) + (10 * v8)) + v9)), (0, .ref (h 0)), (2, .int v2), (3, .int v3), (6, .int v6), (7, .int v7), (8, .int v8), (9, .int v9), (10, .int v10)]) hx hb dX12_best_163 hl (by decide) rfl (fun ls hl => ?_)
    refine lv_iload (pc := 165) hx hb dX12_best_165 (lv_at hl 8 rfl) ?_
    refine lv_istore (pc := 167) (lv' := [(5, .int v10), (4, .int (((1000 * v6) + (10 * v8)) + v9)), (0, .ref (h 0)), (2, .int v2), (3, .int v3), (6, .int v6), (7, .int v7), (8, .int v8), (9, .int v9), (10, .int v10)]) hx hb dX12_best_167 hl (by decide) rfl (fun ls hl => ?_)
    refine lv_iinc (pc := 169) (v := (v9 + 1)) (lv' := [(9, .int (v9 + 1)), (5, .int v10), (4, .int (((1000 * v6) + (10 * v8)) + v9)), (0, .ref (h 0)), (2, .int v2), (3, .int v3), (6, .int v6), (7, .int v7), (8, .int v8), (10, .int v10)]) hx hb dX12_best_169 hl (k := 8) rfl (by rfl) (by decide) rfl (fun ls hl => ?_)
    refine lv_goto (pc := 172) (tgt := 115) hx hb dX12_best_172 (by decide) ?_
    exact hK115 v2 v3 (((1000 * v6) + (10 * v8)) + v9) v10 v6 v7 v8 (v9 + 1) S H locs hW ls (lv_sub hl [3, 4, 5, 2, 1, 6, 7, 8, 0] rfl) hf
  have w115 : ∀ (K68 : Int32 → Int32 → Int32 → Int32 → Int32 → zSt → Option (Int32 × zSt)) (hK68 : ∀ (v2 : Int32) (v3 : Int32) (v4 : Int32) (v5 : Int32) (v6 : Int32) (S : zSt) (H : Heap) (locs : List Loc), zW zTr D (tR cA) (wR cA h S) (aW (hsR h) s.heap.size) s H locs → ∀ ls : Array Slot, lv_has ls 11 [(0, .ref (h 0)), (2, .int v2), (3, .int v3), (4, .int v4), (5, .int v5), (6, .int v6)] → K68 v2 v3 v4 v5 v6 S = some (r, S1) → W p l e rmX12_best s m args below meth c H locs 0 0 Q (F0 m 68 ls [])) (K103 : Int32 → Int32 → Int32 → Int32 → Int32 → Int32 → Int32 → zSt → Option (Int32 × zSt)) (hK103 : ∀ (v2 : Int32) (v3 : Int32) (v4 : Int32) (v5 : Int32) (v6 : Int32) (v7 : Int32) (v8 : Int32) (S : zSt) (H : Heap) (locs : List Loc), zW zTr D (tR cA) (wR cA h S) (aW (hsR h) s.heap.size) s H locs → ∀ ls : Array Slot, lv_has ls 11 [(0, .ref (h 0)), (2, .int v2), (3, .int v3), (4, .int v4), (5, .int v5), (6, .int v6), (7, .int v7), (8, .int v8)] → K103 v2 v3 v4 v5 v6 v7 v8 S = some (r, S1) → W p l e rmX12_best s m args below meth c H locs 0 0 Q (F0 m 103 ls [])) (n : Nat), ∀ (v2 : Int32) (v3 : Int32) (v4 : Int32) (v5 : Int32) (v6 : Int32) (v7 : Int32) (v8 : Int32) (v9 : Int32) (S : zSt) (H : Heap) (locs : List Loc), zW zTr D (tR cA) (wR cA h S) (aW (hsR h) s.heap.size) s H locs → ∀ ls : Array Slot, lv_has ls 11 [(0, .ref (h 0)), (2, .int v2), (3, .int v3), (4, .int v4), (5, .int v5), (6, .int v6), (7, .int v7), (8, .int v8), (9, .int v9)] → fX12_best_b115 N K68 K103 n v2 v3 v4 v5 v6 v7 v8 v9 S = some (r, S1) → W p l e rmX12_best s m args below meth c H locs 0 0 Q (F0 m 115 ls []) := by
    intro K68 hK68 K103 hK103 n
    induction n with
    | zero =>
      intro v2 v3 v4 v5 v6 v7 v8 v9 S H locs hW ls hl hf
      exact absurd hf (by intro h; cases h)
    | succ n ih =>
      intro v2 v3 v4 v5 v6 v7 v8 v9 S H locs hW ls hl hf
      rw [fX12_best_b115] at hf
      refine lv_iload (pc := 115) hx hb dX12_best_115 (lv_at hl 8 rfl) ?_
      refine lv_iconst (pc := 117) (v := 4) hx hb dX12_best_117 (by decide) ?_
      refine lv_icmp_ge (pc := 118) (tgt := 175) hx hb dX12_best_118 (by decide) (fun c1 => ?_) (fun c1 => ?_)
      · have hf := zt c1 hf
        refine lv_iinc (pc := 175) (v := (v8 + 1)) (lv' := [(8, .int (v8 + 1)), (0, .ref (h 0)), (2, .int v2), (3, .int v3), (4, .int v4), (5, .int v5), (6, .int v6), (7, .int v7), (9, .int v9)]) hx hb dX12_best_175 hl (k := 7) rfl (by rfl) (by decide) rfl (fun ls hl => ?_)
        refine lv_goto (pc := 178) (tgt := 103) hx hb dX12_best_178 (by decide) ?_
        exact hK103 v2 v3 v4 v5 v6 v7 (v8 + 1) S H locs hW ls (lv_sub hl [1, 2, 3, 4, 5, 6, 7, 0] rfl) hf
      · have hf := zf c1 hf
        refine lv_aload_n (pc := 121) hx hb dX12_best_121 rfl (lv_at hl 0 rfl) ?_
        refine lv_iload (pc := 122) hx hb dX12_best_122 (lv_at hl 7 rfl) ?_
        refine lv_iload (pc := 124) hx hb dX12_best_124 (lv_at hl 6 rfl) ?_
        refine lv_iload (pc := 126) hx hb dX12_best_126 (lv_at hl 8 rfl) ?_
        obtain ⟨r2, S3, e4, hf⟩ := zB_e hf
        refine zcVi zTr_ok (As := [.int v8, .int v7, .int v9]) (pc := 128) C0 hW (kX12_leastOf l D cA h H.size N v8 v7 v9 S r2 S3 e4) (cwV 3 hts (zgV gaR mR_249 mR_250 mR_251 mR_46 mR_244) rfl rfl rfl (by decide +kernel) ⟨Nat.le_of_ble_eq_true rfl, Nat.le_of_ble_eq_true rfl⟩) (va_recv hW.1 hW.2.1 (ci := 12) (q0 := 0) rfl rfl) rfl hl.1 rfl (Nat.le_of_ble_eq_true rfl) dX12_best_128 (fun H locs hW => ?_)
        refine lv_istore (pc := 131) (lv' := [(10, .int r2), (0, .ref (h 0)), (2, .int v2), (3, .int v3), (4, .int v4), (5, .int v5), (6, .int v6), (7, .int v7), (8, .int v8), (9, .int v9)]) hx hb dX12_best_131 hl (by decide) rfl (fun ls hl => ?_)
        refine lv_iload (pc := 133) hx hb dX12_best_133 (lv_at hl 4 rfl) ?_
        refine lv_if_lt (pc := 135) (tgt := 148) hx hb dX12_best_135 (by decide) (fun c5 => ?_) (fun c5 => ?_)
        · have hf := zt c5 hf
          exact w148 K68 hK68 K103 hK103 (fX12_best_b115 N K68 K103 n) ih v2 v3 v6 v7 v8 v9 r2 S3 H locs hW ls (lv_sub hl [1, 2, 3, 6, 7, 8, 9, 0] rfl) hf
        · have hf := zf c5 hf
          refine lv_iload (pc := 138) hx hb dX12_best_138 (lv_at hl 0 rfl) ?_
          refine lv_iload (pc := 140) hx hb dX12_best_140 (lv_at hl 5 rfl) ?_
          refine lv_icmp_gt (pc := 142) (tgt := 148) hx hb dX12_best_142 (by decide) (fun c6 => ?_) (fun c6 => ?_)
          · have hf := zt c6 hf
            exact w148 K68 hK68 K103 hK103 (fX12_best_b115 N K68 K103 n) ih v2 v3 v6 v7 v8 v9 r2 S3 H locs hW ls (lv_sub hl [1, 2, 3, 6, 7, 8, 9, 0] rfl) hf
          · have hf := zf c6 hf
            refine lv_goto (pc := 145) (tgt := 169) hx hb dX12_best_145 (by decide) ?_
            refine lv_iinc (pc := 169) (v := (v9 + 1)) (lv' := [(9, .int (v9 + 1)), (10, .int r2), (0, .ref (h 0)), (2, .int v2), (3, .int v3), (4, .int v4), (5, .int v5), (6, .int v6), (7, .int v7), (8, .int v8)]) hx hb dX12_best_169 hl (k := 9) rfl (by rfl) (by decide) rfl (fun ls hl => ?_)
            refine lv_goto (pc := 172) (tgt := 115) hx hb dX12_best_172 (by decide) ?_
            exact ih v2 v3 v4 v5 v6 v7 v8 (v9 + 1) S3 H locs hW ls (lv_sub hl [2, 3, 4, 5, 6, 7, 8, 9, 0] rfl) hf
  have w103 : ∀ (K68 : Int32 → Int32 → Int32 → Int32 → Int32 → zSt → Option (Int32 × zSt)) (hK68 : ∀ (v2 : Int32) (v3 : Int32) (v4 : Int32) (v5 : Int32) (v6 : Int32) (S : zSt) (H : Heap) (locs : List Loc), zW zTr D (tR cA) (wR cA h S) (aW (hsR h) s.heap.size) s H locs → ∀ ls : Array Slot, lv_has ls 11 [(0, .ref (h 0)), (2, .int v2), (3, .int v3), (4, .int v4), (5, .int v5), (6, .int v6)] → K68 v2 v3 v4 v5 v6 S = some (r, S1) → W p l e rmX12_best s m args below meth c H locs 0 0 Q (F0 m 68 ls [])) (n : Nat), ∀ (v2 : Int32) (v3 : Int32) (v4 : Int32) (v5 : Int32) (v6 : Int32) (v7 : Int32) (v8 : Int32) (S : zSt) (H : Heap) (locs : List Loc), zW zTr D (tR cA) (wR cA h S) (aW (hsR h) s.heap.size) s H locs → ∀ ls : Array Slot, lv_has ls 11 [(0, .ref (h 0)), (2, .int v2), (3, .int v3), (4, .int v4), (5, .int v5), (6, .int v6), (7, .int v7), (8, .int v8)] → fX12_best_b103 N K68 n v2 v3 v4 v5 v6 v7 v8 S = some (r, S1) → W p l e rmX12_best s m args below meth c H locs 0 0 Q (F0 m 103 ls []) := by
    intro K68 hK68 n
    induction n with
    | zero =>
      intro v2 v3 v4 v5 v6 v7 v8 S H locs hW ls hl hf
      exact absurd hf (by intro h; cases h)
    | succ n ih =>
      intro v2 v3 v4 v5 v6 v7 v8 S H locs hW ls hl hf
      rw [fX12_best_b103] at hf
      refine lv_iload (pc := 103) hx hb dX12_best_103 (lv_at hl 7 rfl) ?_
      refine lv_aload_n (pc := 105) hx hb dX12_best_105 rfl (lv_at hl 0 rfl) ?_
      refine rg_3 (pc := 106) C0 hu_12 hW mR_48 dX12_best_106 ?_
      refine lv_icmp_ge (pc := 109) (tgt := 181) hx hb dX12_best_109 (by decide) (fun c7 => ?_) (fun c7 => ?_)
      · have hf := zt c7 hf
        refine lv_iinc (pc := 181) (v := (v6 + 1)) (lv' := [(6, .int (v6 + 1)), (0, .ref (h 0)), (2, .int v2), (3, .int v3), (4, .int v4), (5, .int v5), (7, .int v7), (8, .int v8)]) hx hb dX12_best_181 hl (k := 5) rfl (by rfl) (by decide) rfl (fun ls hl => ?_)
        refine lv_goto (pc := 184) (tgt := 68) hx hb dX12_best_184 (by decide) ?_
        exact hK68 v2 v3 v4 v5 (v6 + 1) S H locs hW ls (lv_sub hl [1, 2, 3, 4, 5, 0] rfl) hf
      · have hf := zf c7 hf
        refine lv_iconst (pc := 112) (v := 0) hx hb dX12_best_112 (by decide) ?_
        refine lv_istore (pc := 113) (lv' := [(9, .int 0), (0, .ref (h 0)), (2, .int v2), (3, .int v3), (4, .int v4), (5, .int v5), (6, .int v6), (7, .int v7), (8, .int v8)]) hx hb dX12_best_113 hl (by decide) rfl (fun ls hl => ?_)
        exact w115 K68 hK68 (fX12_best_b103 N K68 n) ih N v2 v3 v4 v5 v6 v7 v8 0 S H locs hW ls (lv_sub hl [1, 2, 3, 4, 5, 6, 7, 8, 0] rfl) hf
  have w68 : ∀ (n : Nat), ∀ (v2 : Int32) (v3 : Int32) (v4 : Int32) (v5 : Int32) (v6 : Int32) (S : zSt) (H : Heap) (locs : List Loc), zW zTr D (tR cA) (wR cA h S) (aW (hsR h) s.heap.size) s H locs → ∀ ls : Array Slot, lv_has ls 11 [(0, .ref (h 0)), (2, .int v2), (3, .int v3), (4, .int v4), (5, .int v5), (6, .int v6)] → fX12_best_b68 N n v2 v3 v4 v5 v6 S = some (r, S1) → W p l e rmX12_best s m args below meth c H locs 0 0 Q (F0 m 68 ls []) := by
    intro n
    induction n with
    | zero =>
      intro v2 v3 v4 v5 v6 S H locs hW ls hl hf
      exact absurd hf (by intro h; cases h)
    | succ n ih =>
      intro v2 v3 v4 v5 v6 S H locs hW ls hl hf
      rw [fX12_best_b68] at hf
      refine lv_iload (pc := 68) hx hb dX12_best_68 (lv_at hl 5 rfl) ?_
      refine lv_iload_n (pc := 70) hx hb dX12_best_70 rfl (lv_at hl 1 rfl) ?_
      refine lv_bipush (pc := 71) (v := 100) hx hb dX12_best_71 (by decide) ?_
      refine lv_irem (pc := 73) hx hb dX12_best_73 (by decide) ?_
      refine lv_icmp_gt (pc := 74) (tgt := 187) hx hb dX12_best_74 (by decide) (fun c8 => ?_) (fun c8 => ?_)
      · have hf := zt c8 hf
        refine lv_iload (pc := 187) hx hb dX12_best_187 (lv_at hl 3 rfl) ?_
        refine lv_if_lt (pc := 189) (tgt := 196) hx hb dX12_best_189 (by decide) (fun c9 => ?_) (fun c9 => ?_)
        · have hf := zt c9 hf
          exact w196 v4 S H locs hW ls (lv_sub hl [3] rfl) hf
        · have hf := zf c9 hf
          refine lv_iload_n (pc := 192) hx hb dX12_best_192 rfl (lv_at hl 2 rfl) ?_
          refine lv_if_ne (pc := 193) (tgt := 201) hx hb dX12_best_193 (by decide) (fun c10 => ?_) (fun c10 => ?_)
          · have hf := zf c10 hf
            refine lv_iload (pc := 201) hx hb dX12_best_201 (lv_at hl 4 rfl) ?_
            exact zend_i (w := wR cA h) fin hf hW dX12_best_203
          · have hf := zt c10 hf
            exact w196 v4 S H locs hW ls (lv_sub hl [3] rfl) hf
      · have hf := zf c8 hf
        refine lv_iload (pc := 77) hx hb dX12_best_77 (lv_at hl 5 rfl) ?_
        obtain ⟨r11, e13, hf⟩ := zU_e hf
        refine zcSi (As := [.int v6]) (pc := 79) C0 hW (kX12_isDark l H.size v6 r11 e13) (va_cwS 1 hts (zgS gaR mR_259 mR_260 mR_46 mR_257) rfl rfl rfl (by decide +kernel) ⟨Nat.le_of_ble_eq_true rfl, Nat.le_of_ble_eq_true rfl⟩) rfl hl.1 rfl (Nat.le_of_ble_eq_true rfl) dX12_best_79 (fun H locs hW => ?_)
        refine lv_if_eq (pc := 82) (tgt := 88) hx hb dX12_best_82 (by decide) (fun c14 => ?_) (fun c14 => ?_)
        · have hf := zt c14 hf
          refine lv_aload_n (pc := 88) hx hb dX12_best_88 rfl (lv_at hl 0 rfl) ?_
          refine lv_aload_n (pc := 89) hx hb dX12_best_89 rfl (lv_at hl 0 rfl) ?_
          refine rg_25 (pc := 90) C0 hu_12 hW mR_22 dX12_best_90 ?_
          refine lv_iload (pc := 93) hx hb dX12_best_93 (lv_at hl 5 rfl) ?_
          obtain ⟨r15, S16, e17, hf⟩ := zB_e hf
          refine zcVi zTr_ok (As := [.int (S.1 25), .int v6]) (pc := 95) C0 hW (kX12_riseBy l D cA h H.size N (S.1 25) v6 S r15 S16 e17) (cwV 2 hts (zgV gaR mR_182 mR_183 mR_184 mR_46 mR_172) rfl rfl rfl (by decide +kernel) ⟨Nat.le_of_ble_eq_true rfl, Nat.le_of_ble_eq_true rfl⟩) (va_recv hW.1 hW.2.1 (ci := 12) (q0 := 0) rfl rfl) rfl hl.1 rfl (Nat.le_of_ble_eq_true rfl) dX12_best_95 (fun H locs hW => ?_)
          refine lv_istore (pc := 98) (lv' := [(7, .int r15), (0, .ref (h 0)), (2, .int v2), (3, .int v3), (4, .int v4), (5, .int v5), (6, .int v6)]) hx hb dX12_best_98 hl (by decide) rfl (fun ls hl => ?_)
          refine lv_iconst (pc := 100) (v := 0) hx hb dX12_best_100 (by decide) ?_
          refine lv_istore (pc := 101) (lv' := [(8, .int 0), (7, .int r15), (0, .ref (h 0)), (2, .int v2), (3, .int v3), (4, .int v4), (5, .int v5), (6, .int v6)]) hx hb dX12_best_101 hl (by decide) rfl (fun ls hl => ?_)
          exact w103 (fX12_best_b68 N n) ih N v2 v3 v4 v5 v6 r15 0 S16 H locs hW ls (lv_sub hl [2, 3, 4, 5, 6, 7, 1, 0] rfl) hf
        · have hf := zf c14 hf
          refine lv_goto (pc := 85) (tgt := 181) hx hb dX12_best_85 (by decide) ?_
          refine lv_iinc (pc := 181) (v := (v6 + 1)) (lv' := [(6, .int (v6 + 1)), (0, .ref (h 0)), (2, .int v2), (3, .int v3), (4, .int v4), (5, .int v5)]) hx hb dX12_best_181 hl (k := 5) rfl (by rfl) (by decide) rfl (fun ls hl => ?_)
          refine lv_goto (pc := 184) (tgt := 68) hx hb dX12_best_184 (by decide) ?_
          exact ih v2 v3 v4 v5 (v6 + 1) S H locs hW ls (lv_sub hl [1, 2, 3, 4, 5, 0] rfl) hf
  unfold fX12_best at hf
  refine lv_aload_n (pc := 0) hx hb dX12_best_0 rfl (lv_at hl 0 rfl) ?_
  refine lv_iload_n (pc := 1) hx hb dX12_best_1 rfl (lv_at hl 1 rfl) ?_
  obtain ⟨r18, S19, e20, hf⟩ := zB_e hf
  refine zcVi zTr_ok (As := [.int p1]) (pc := 2) C0 hW (kX12_isGroup l D cA h H.size N p1 S r18 S19 e20) (cwV 1 hts (zgV gaR mR_205 mR_206 mR_207 mR_46 mR_202) rfl rfl rfl (by decide +kernel) ⟨Nat.le_of_ble_eq_true rfl, Nat.le_of_ble_eq_true rfl⟩) (va_recv hW.1 hW.2.1 (ci := 12) (q0 := 0) rfl rfl) rfl hl.1 rfl (Nat.le_of_ble_eq_true rfl) dX12_best_2 (fun H locs hW => ?_)
  refine lv_if_eq (pc := 5) (tgt := 52) hx hb dX12_best_5 (by decide) (fun c21 => ?_) (fun c21 => ?_)
  · have hf := zt c21 hf
    refine lv_ldc (pc := 52) (v := (-2000000000)) hx hb hown (hts _ mR_179) dX12_best_52 ?_
    exact zend_i (w := wR cA h) fin hf hW dX12_best_54
  · have hf := zf c21 hf
    refine lv_iload_n (pc := 8) hx hb dX12_best_8 rfl (lv_at hl 2 rfl) ?_
    refine lv_if_lt (pc := 9) (tgt := 52) hx hb dX12_best_9 (by decide) (fun c22 => ?_) (fun c22 => ?_)
    · have hf := zt c22 hf
      refine lv_ldc (pc := 52) (v := (-2000000000)) hx hb hown (hts _ mR_179) dX12_best_52 ?_
      exact zend_i (w := wR cA h) fin hf hW dX12_best_54
    · have hf := zf c22 hf
      refine lv_iload_n (pc := 12) hx hb dX12_best_12 rfl (lv_at hl 2 rfl) ?_
      refine lv_bipush (pc := 13) (v := 100) hx hb dX12_best_13 (by decide) ?_
      refine lv_idiv (pc := 15) hx hb dX12_best_15 (by decide) ?_
      obtain ⟨r23, e25, hf⟩ := zU_e hf
      refine zcSi (As := [.int (p2 / 100)]) (pc := 16) C0 hW (kX12_isHour l H.size (p2 / 100) r23 e25) (va_cwS 1 hts (zgS gaR mR_180 mR_181 mR_46 mR_160) rfl rfl rfl (by decide +kernel) ⟨Nat.le_of_ble_eq_true rfl, Nat.le_of_ble_eq_true rfl⟩) rfl hl.1 rfl (Nat.le_of_ble_eq_true rfl) dX12_best_16 (fun H locs hW => ?_)
      refine lv_if_eq (pc := 19) (tgt := 52) hx hb dX12_best_19 (by decide) (fun c26 => ?_) (fun c26 => ?_)
      · have hf := zt c26 hf
        refine lv_ldc (pc := 52) (v := (-2000000000)) hx hb hown (hts _ mR_179) dX12_best_52 ?_
        exact zend_i (w := wR cA h) fin hf hW dX12_best_54
      · have hf := zf c26 hf
        refine lv_iload_n (pc := 22) hx hb dX12_best_22 rfl (lv_at hl 2 rfl) ?_
        refine lv_bipush (pc := 23) (v := 100) hx hb dX12_best_23 (by decide) ?_
        refine lv_irem (pc := 25) hx hb dX12_best_25 (by decide) ?_
        obtain ⟨r27, e29, hf⟩ := zU_e hf
        refine zcSi (As := [.int (p2 - p2 / 100 * 100)]) (pc := 26) C0 hW (kX12_isHour l H.size (p2 - p2 / 100 * 100) r27 e29) (va_cwS 1 hts (zgS gaR mR_180 mR_181 mR_46 mR_160) rfl rfl rfl (by decide +kernel) ⟨Nat.le_of_ble_eq_true rfl, Nat.le_of_ble_eq_true rfl⟩) rfl hl.1 rfl (Nat.le_of_ble_eq_true rfl) dX12_best_26 (fun H locs hW => ?_)
        refine lv_if_eq (pc := 29) (tgt := 52) hx hb dX12_best_29 (by decide) (fun c30 => ?_) (fun c30 => ?_)
        · have hf := zt c30 hf
          refine lv_ldc (pc := 52) (v := (-2000000000)) hx hb hown (hts _ mR_179) dX12_best_52 ?_
          exact zend_i (w := wR cA h) fin hf hW dX12_best_54
        · have hf := zf c30 hf
          refine lv_iload_n (pc := 32) hx hb dX12_best_32 rfl (lv_at hl 2 rfl) ?_
          refine lv_bipush (pc := 33) (v := 100) hx hb dX12_best_33 (by decide) ?_
          refine lv_idiv (pc := 35) hx hb dX12_best_35 (by decide) ?_
          refine lv_iload_n (pc := 36) hx hb dX12_best_36 rfl (lv_at hl 2 rfl) ?_
          refine lv_bipush (pc := 37) (v := 100) hx hb dX12_best_37 (by decide) ?_
          refine lv_irem (pc := 39) hx hb dX12_best_39 (by decide) ?_
          refine lv_icmp_gt (pc := 40) (tgt := 52) hx hb dX12_best_40 (by decide) (fun c31 => ?_) (fun c31 => ?_)
          · have hf := zt c31 hf
            refine lv_ldc (pc := 52) (v := (-2000000000)) hx hb hown (hts _ mR_179) dX12_best_52 ?_
            exact zend_i (w := wR cA h) fin hf hW dX12_best_54
          · have hf := zf c31 hf
            refine lv_iload_n (pc := 43) hx hb dX12_best_43 rfl (lv_at hl 3 rfl) ?_
            refine lv_iconst (pc := 44) (v := 0) hx hb dX12_best_44 (by decide) ?_
            refine lv_iconst (pc := 45) (v := 1) hx hb dX12_best_45 (by decide) ?_
            obtain ⟨r32, e34, hf⟩ := zU_e hf
            refine zcSi (As := [.int p3, .int 0, .int 1]) (pc := 46) C0 hW (kX12_in l H.size p3 0 1 r32 e34) (va_cwS 3 hts (zgS gaR mR_44 mR_45 mR_46 mR_39) rfl rfl rfl (by decide +kernel) ⟨Nat.le_of_ble_eq_true rfl, Nat.le_of_ble_eq_true rfl⟩) rfl hl.1 rfl (Nat.le_of_ble_eq_true rfl) dX12_best_46 (fun H locs hW => ?_)
            refine lv_if_ne (pc := 49) (tgt := 55) hx hb dX12_best_49 (by decide) (fun c35 => ?_) (fun c35 => ?_)
            · have hf := zf c35 hf
              refine lv_bipush (pc := 55) (v := (-2)) hx hb dX12_best_55 (by decide) ?_
              refine lv_istore (pc := 57) (lv' := [(4, .int (-2)), (0, .ref (h 0)), (1, .int p1), (2, .int p2), (3, .int p3)]) hx hb dX12_best_57 hl (by decide) rfl (fun ls hl => ?_)
              refine lv_iconst (pc := 59) (v := 0) hx hb dX12_best_59 (by decide) ?_
              refine lv_istore (pc := 60) (lv' := [(5, .int 0), (4, .int (-2)), (0, .ref (h 0)), (1, .int p1), (2, .int p2), (3, .int p3)]) hx hb dX12_best_60 hl (by decide) rfl (fun ls hl => ?_)
              refine lv_iload_n (pc := 62) hx hb dX12_best_62 rfl (lv_at hl 4 rfl) ?_
              refine lv_bipush (pc := 63) (v := 100) hx hb dX12_best_63 (by decide) ?_
              refine lv_idiv (pc := 65) hx hb dX12_best_65 (by decide) ?_
              refine lv_istore (pc := 66) (lv' := [(6, .int (p2 / 100)), (5, .int 0), (4, .int (-2)), (0, .ref (h 0)), (1, .int p1), (2, .int p2), (3, .int p3)]) hx hb dX12_best_66 hl (by decide) rfl (fun ls hl => ?_)
              exact w68 N p2 p3 (-2) 0 (p2 / 100) S19 H locs hW ls (lv_sub hl [3, 5, 6, 2, 1, 0] rfl) hf
            · have hf := zt c35 hf
              refine lv_ldc (pc := 52) (v := (-2000000000)) hx hb hown (hts _ mR_179) dX12_best_52 ?_
              exact zend_i (w := wR cA h) fin hf hW dX12_best_54

def fX12_gusts_b178 (N : Nat) : Nat → Int32 → Int32 → Int32 → Int32 → Int32 → zSt → Option (Int32 × zSt)
  | 0, _, _, _, _, _, _ => none
  | n + 1, v4, v5, v6, v9, v10, S =>
    if 12 ≤ v10 then (if v5 = 0 then (some (v9, S)) else (if zin v6 7 then some (((S.2.1 5 (Int32.toNatClampNeg v6)) * ((v4 / 100) - v9)), S) else none)) else (if zin v10 12 then zL (zA S 35 (Int32.toNatClampNeg v10) 0) fun S5 => fX12_gusts_b178 N n v4 v5 v6 v9 (v10 + 1) S5 else none)
def fX12_gusts_b103 (N : Nat) (K90 : Int32 → Int32 → Int32 → Int32 → Int32 → Int32 → Int32 → Int32 → zSt → Option (Int32 × zSt)) : Nat → Int32 → Int32 → Int32 → Int32 → Int32 → Int32 → Int32 → Int32 → Int32 → zSt → Option (Int32 × zSt)
  | 0, _, _, _, _, _, _, _, _, _, _ => none
  | n + 1, v2, v4, v5, v6, v7, v8, v9, v10, v11, S =>
    if zin v6 7 then if (S.2.1 4 (Int32.toNatClampNeg v6)) ≤ v11 then (zB (fX12_isOver N v6 v7 (v2 - v2 / 10 * 10) S) fun r8 S9 => if r8 = 0 then (K90 v2 v4 v5 v6 v7 v8 v9 (v10 + 1) S9) else (K90 v2 v4 v5 v6 v7 v8 (v9 + 1) (v10 + 1) S9)) else (if ¬ (v4 - v4 / 100 * 100) = 0 then if zin v11 12 then zL (zA S 35 (Int32.toNatClampNeg v11) ((zus ((v8 * 1103515245) + 12345) 8) - (zus ((v8 * 1103515245) + 12345) 8) / (v4 - v4 / 100 * 100) * (v4 - v4 / 100 * 100))) fun S14 => fX12_gusts_b103 N K90 n v2 v4 v5 v6 v7 ((v8 * 1103515245) + 12345) v9 v10 (v11 + 1) S14 else none else none) else none
def fX12_gusts_b90 (N : Nat) : Nat → Int32 → Int32 → Int32 → Int32 → Int32 → Int32 → Int32 → Int32 → zSt → Option (Int32 × zSt)
  | 0, _, _, _, _, _, _, _, _, _ => none
  | n + 1, v2, v4, v5, v6, v7, v8, v9, v10, S =>
    if (v4 / 100) ≤ v10 then (fX12_gusts_b178 N N v4 v5 v6 v9 0 S) else (fX12_gusts_b103 N (fX12_gusts_b90 N n) N v2 v4 v5 v6 v7 v8 v9 v10 0 S)
def fX12_gusts (N : Nat) (p1 : Int32) (p2 : Int32) (p3 : Int32) (p4 : Int32) (p5 : Int32) (S : zSt) : Option (Int32 × zSt) :=
  zB (fX12_isAt p1 S) fun r16 S17 => if r16 = 0 then (some ((-1), S17)) else (zB (fX12_areSo N p2 S17) fun r20 S21 => if r20 = 0 then (some ((-1), S21)) else (if p4 < 0 then (some ((-1), S21)) else (zU (fX12_in (p4 / 100) 1 50) fun r25 => if r25 = 0 then (some ((-1), S21)) else (zU (fX12_in (p4 - p4 / 100 * 100) 1 20) fun r29 => if r29 = 0 then (some ((-1), S21)) else (zU (fX12_in p5 0 1) fun r33 => if r33 = 0 then (some ((-1), S21)) else (zB (fX12_riseBy N (S21.1 25) (p1 - p1 / 100 * 100) S21) fun r37 S38 => fX12_gusts_b90 N N p2 p4 p5 (p1 / 100) r37 p3 0 0 S38))))))
abbrev wX12_gusts : List Cond := Cond.code yX12_gusts cX12_gusts 12 (some .int) :: waR
abbrev rmX12_gusts : Room := { frames := 6, cells := 0, slots := 0, locals := 147 }
set_option maxHeartbeats 4000000 in
set_option maxRecDepth 100000 in
theorem kX12_gusts (l : Launch) (D : va_G) (cA : Nat → ClassId) (h : Nat → Nat) (sz : Nat) (N : Nat)  (p1 : Int32) (p2 : Int32) (p3 : Int32) (p4 : Int32) (p5 : Int32) (S : zSt) (r : Int32) (S1 : zSt) (hf : fX12_gusts N p1 p2 p3 p4 p5 S = some (r, S1)) : zMi l yX12_gusts wX12_gusts rmX12_gusts zTr D (tR cA) (hsR h) [.ref (h 0), .int p1, .int p2, .int p3, .int p4, .int p5] (wR cA h S) (wR cA h S1) sz r := by
  refine zEn_i (cc := cX12_gusts) (maxL := 12) (own := RX12) (by decide) rfl rfl (hmR cA h S) (Nat.le_of_ble_eq_true rfl) ?_
  intro p e s m args below meth c Q H locs C0 hW fin ls hl
  have hl : lv_has ls 12 [(0, .ref (h 0)), (1, .int p1), (2, .int p2), (3, .int p3), (4, .int p4), (5, .int p5)] := hl
  have hx := C0.1
  have hb := C0.2.1
  have hown := C0.2.2.2.1
  have hts := C0.2.2.2.2
  have w178 : ∀ (n : Nat), ∀ (v4 : Int32) (v5 : Int32) (v6 : Int32) (v9 : Int32) (v10 : Int32) (S : zSt) (H : Heap) (locs : List Loc), zW zTr D (tR cA) (wR cA h S) (aW (hsR h) s.heap.size) s H locs → ∀ ls : Array Slot, lv_has ls 12 [(0, .ref (h 0)), (4, .int v4), (5, .int v5), (6, .int v6), (9, .int v9), (10, .int v10)] → fX12_gusts_b178 N n v4 v5 v6 v9 v10 S = some (r, S1) → W p l e rmX12_gusts s m args below meth c H locs 0 0 Q (F0 m 178 ls []) := by
    intro n
    induction n with
    | zero =>
      intro v4 v5 v6 v9 v10 S H locs hW ls hl hf
      exact absurd hf (by intro h; cases h)
    | succ n ih =>
      intro v4 v5 v6 v9 v10 S H locs hW ls hl hf
      rw [fX12_gusts_b178] at hf
      refine lv_iload (pc := 178) hx hb dX12_gusts_178 (lv_at hl 5 rfl) ?_
      refine lv_bipush (pc := 180) (v := 12) hx hb dX12_gusts_180 (by decide) ?_
      refine lv_icmp_ge (pc := 182) (tgt := 199) hx hb dX12_gusts_182 (by decide) (fun c1 => ?_) (fun c1 => ?_)
      · have hf := zt c1 hf
        refine lv_iload (pc := 199) hx hb dX12_gusts_199 (lv_at hl 2 rfl) ?_
        refine lv_if_ne (pc := 201) (tgt := 209) hx hb dX12_gusts_201 (by decide) (fun c2 => ?_) (fun c2 => ?_)
        · have hf := zf c2 hf
          refine lv_aload_n (pc := 209) hx hb dX12_gusts_209 rfl (lv_at hl 0 rfl) ?_
          refine rg_5 (pc := 210) C0 hu_12 hW mR_8 dX12_gusts_210 ?_
          refine lv_iload (pc := 213) hx hb dX12_gusts_213 (lv_at hl 3 rfl) ?_
          obtain ⟨i3, hf⟩ := zn hf
          refine rl_5 (pc := 215) C0 hW i3 dX12_gusts_215 ?_
          refine lv_iload (pc := 216) hx hb dX12_gusts_216 (lv_at hl 1 rfl) ?_
          refine lv_bipush (pc := 218) (v := 100) hx hb dX12_gusts_218 (by decide) ?_
          refine lv_idiv (pc := 220) hx hb dX12_gusts_220 (by decide) ?_
          refine lv_iload (pc := 221) hx hb dX12_gusts_221 (lv_at hl 4 rfl) ?_
          refine lv_isub (pc := 223) hx hb dX12_gusts_223 ?_
          refine lv_imul (pc := 224) hx hb dX12_gusts_224 ?_
          exact zend_i (w := wR cA h) fin hf hW dX12_gusts_225
        · have hf := zt c2 hf
          refine lv_iload (pc := 204) hx hb dX12_gusts_204 (lv_at hl 4 rfl) ?_
          refine lv_goto (pc := 206) (tgt := 225) hx hb dX12_gusts_206 (by decide) ?_
          exact zend_i (w := wR cA h) fin hf hW dX12_gusts_225
      · have hf := zf c1 hf
        refine lv_aload_n (pc := 185) hx hb dX12_gusts_185 rfl (lv_at hl 0 rfl) ?_
        refine rg_35 (pc := 186) C0 hu_12 hW mR_28 dX12_gusts_186 ?_
        refine lv_iload (pc := 189) hx hb dX12_gusts_189 (lv_at hl 5 rfl) ?_
        refine lv_iconst (pc := 191) (v := 0) hx hb dX12_gusts_191 (by decide) ?_
        obtain ⟨i4, hf⟩ := zn hf
        obtain ⟨S5, e_S5, hf⟩ := zL_e hf
        refine rs_35 (pc := 192) C0 hW i4 e_S5 dX12_gusts_192 (fun H locs hW => ?_)
        refine lv_iinc (pc := 193) (v := (v10 + 1)) (lv' := [(10, .int (v10 + 1)), (0, .ref (h 0)), (4, .int v4), (5, .int v5), (6, .int v6), (9, .int v9)]) hx hb dX12_gusts_193 hl (k := 5) rfl (by rfl) (by decide) rfl (fun ls hl => ?_)
        refine lv_goto (pc := 196) (tgt := 178) hx hb dX12_gusts_196 (by decide) ?_
        exact ih v4 v5 v6 v9 (v10 + 1) S5 H locs hW ls (lv_sub hl [1, 2, 3, 4, 5, 0] rfl) hf
  have w103 : ∀ (K90 : Int32 → Int32 → Int32 → Int32 → Int32 → Int32 → Int32 → Int32 → zSt → Option (Int32 × zSt)) (hK90 : ∀ (v2 : Int32) (v4 : Int32) (v5 : Int32) (v6 : Int32) (v7 : Int32) (v8 : Int32) (v9 : Int32) (v10 : Int32) (S : zSt) (H : Heap) (locs : List Loc), zW zTr D (tR cA) (wR cA h S) (aW (hsR h) s.heap.size) s H locs → ∀ ls : Array Slot, lv_has ls 12 [(0, .ref (h 0)), (2, .int v2), (4, .int v4), (5, .int v5), (6, .int v6), (7, .int v7), (8, .int v8), (9, .int v9), (10, .int v10)] → K90 v2 v4 v5 v6 v7 v8 v9 v10 S = some (r, S1) → W p l e rmX12_gusts s m args below meth c H locs 0 0 Q (F0 m 90 ls [])) (n : Nat), ∀ (v2 : Int32) (v4 : Int32) (v5 : Int32) (v6 : Int32) (v7 : Int32) (v8 : Int32) (v9 : Int32) (v10 : Int32) (v11 : Int32) (S : zSt) (H : Heap) (locs : List Loc), zW zTr D (tR cA) (wR cA h S) (aW (hsR h) s.heap.size) s H locs → ∀ ls : Array Slot, lv_has ls 12 [(0, .ref (h 0)), (2, .int v2), (4, .int v4), (5, .int v5), (6, .int v6), (7, .int v7), (8, .int v8), (9, .int v9), (10, .int v10), (11, .int v11)] → fX12_gusts_b103 N K90 n v2 v4 v5 v6 v7 v8 v9 v10 v11 S = some (r, S1) → W p l e rmX12_gusts s m args below meth c H locs 0 0 Q (F0 m 103 ls []) := by
    intro K90 hK90 n
    induction n with
    | zero =>
      intro v2 v4 v5 v6 v7 v8 v9 v10 v11 S H locs hW ls hl hf
      exact absurd hf (by intro h; cases h)
    | succ n ih =>
      intro v2 v4 v5 v6 v7 v8 v9 v10 v11 S H locs hW ls hl hf
      rw [fX12_gusts_b103] at hf
      refine lv_iload (pc := 103) hx hb dX12_gusts_103 (lv_at hl 9 rfl) ?_
      refine lv_aload_n (pc := 105) hx hb dX12_gusts_105 rfl (lv_at hl 0 rfl) ?_
      refine rg_4 (pc := 106) C0 hu_12 hW mR_7 dX12_gusts_106 ?_
      refine lv_iload (pc := 109) hx hb dX12_gusts_109 (lv_at hl 4 rfl) ?_
      obtain ⟨i6, hf⟩ := zn hf
      refine rl_4 (pc := 111) C0 hW i6 dX12_gusts_111 ?_
      refine lv_icmp_ge (pc := 112) (tgt := 151) hx hb dX12_gusts_112 (by decide) (fun c7 => ?_) (fun c7 => ?_)
      · have hf := zt c7 hf
        refine lv_aload_n (pc := 151) hx hb dX12_gusts_151 rfl (lv_at hl 0 rfl) ?_
        refine lv_iload (pc := 152) hx hb dX12_gusts_152 (lv_at hl 4 rfl) ?_
        refine lv_iload (pc := 154) hx hb dX12_gusts_154 (lv_at hl 5 rfl) ?_
        refine lv_iload_n (pc := 156) hx hb dX12_gusts_156 rfl (lv_at hl 1 rfl) ?_
        refine lv_bipush (pc := 157) (v := 10) hx hb dX12_gusts_157 (by decide) ?_
        refine lv_irem (pc := 159) hx hb dX12_gusts_159 (by decide) ?_
        obtain ⟨r8, S9, e10, hf⟩ := zB_e hf
        refine zcVi zTr_ok (As := [.int v6, .int v7, .int (v2 - v2 / 10 * 10)]) (pc := 160) C0 hW (kX12_isOver l D cA h H.size N v6 v7 (v2 - v2 / 10 * 10) S r8 S9 e10) (cwV 3 hts (zgV gaR mR_246 mR_247 mR_248 mR_46 mR_240) rfl rfl rfl (by decide +kernel) ⟨Nat.le_of_ble_eq_true rfl, Nat.le_of_ble_eq_true rfl⟩) (va_recv hW.1 hW.2.1 (ci := 12) (q0 := 0) rfl rfl) rfl hl.1 rfl (Nat.le_of_ble_eq_true rfl) dX12_gusts_160 (fun H locs hW => ?_)
        refine lv_if_eq (pc := 163) (tgt := 169) hx hb dX12_gusts_163 (by decide) (fun c11 => ?_) (fun c11 => ?_)
        · have hf := zt c11 hf
          refine lv_iinc (pc := 169) (v := (v10 + 1)) (lv' := [(10, .int (v10 + 1)), (0, .ref (h 0)), (2, .int v2), (4, .int v4), (5, .int v5), (6, .int v6), (7, .int v7), (8, .int v8), (9, .int v9), (11, .int v11)]) hx hb dX12_gusts_169 hl (k := 8) rfl (by rfl) (by decide) rfl (fun ls hl => ?_)
          refine lv_goto (pc := 172) (tgt := 90) hx hb dX12_gusts_172 (by decide) ?_
          exact hK90 v2 v4 v5 v6 v7 v8 v9 (v10 + 1) S9 H locs hW ls (lv_sub hl [1, 2, 3, 4, 5, 6, 7, 8, 0] rfl) hf
        · have hf := zf c11 hf
          refine lv_iinc (pc := 166) (v := (v9 + 1)) (lv' := [(9, .int (v9 + 1)), (0, .ref (h 0)), (2, .int v2), (4, .int v4), (5, .int v5), (6, .int v6), (7, .int v7), (8, .int v8), (10, .int v10), (11, .int v11)]) hx hb dX12_gusts_166 hl (k := 7) rfl (by rfl) (by decide) rfl (fun ls hl => ?_)
          refine lv_iinc (pc := 169) (v := (v10 + 1)) (lv' := [(10, .int (v10 + 1)), (9, .int (v9 + 1)), (0, .ref (h 0)), (2, .int v2), (4, .int v4), (5, .int v5), (6, .int v6), (7, .int v7), (8, .int v8), (11, .int v11)]) hx hb dX12_gusts_169 hl (k := 8) rfl (by rfl) (by decide) rfl (fun ls hl => ?_)
          refine lv_goto (pc := 172) (tgt := 90) hx hb dX12_gusts_172 (by decide) ?_
          exact hK90 v2 v4 v5 v6 v7 v8 (v9 + 1) (v10 + 1) S9 H locs hW ls (lv_sub hl [2, 3, 4, 5, 6, 7, 8, 1, 0] rfl) hf
      · have hf := zf c7 hf
        refine lv_iload (pc := 115) hx hb dX12_gusts_115 (lv_at hl 6 rfl) ?_
        refine lv_ldcw (pc := 117) (v := 1103515245) hx hb hown (hts _ mR_262) dX12_gusts_117 ?_
        refine lv_imul (pc := 120) hx hb dX12_gusts_120 ?_
        refine lv_sipush (pc := 121) (v := 12345) hx hb dX12_gusts_121 (by decide) ?_
        refine lv_iadd (pc := 124) hx hb dX12_gusts_124 ?_
        refine lv_istore (pc := 125) (lv' := [(8, .int ((v8 * 1103515245) + 12345)), (0, .ref (h 0)), (2, .int v2), (4, .int v4), (5, .int v5), (6, .int v6), (7, .int v7), (9, .int v9), (10, .int v10), (11, .int v11)]) hx hb dX12_gusts_125 hl (by decide) rfl (fun ls hl => ?_)
        refine lv_aload_n (pc := 127) hx hb dX12_gusts_127 rfl (lv_at hl 1 rfl) ?_
        refine rg_35 (pc := 128) C0 hu_12 hW mR_28 dX12_gusts_128 ?_
        refine lv_iload (pc := 131) hx hb dX12_gusts_131 (lv_at hl 9 rfl) ?_
        refine lv_iload (pc := 133) hx hb dX12_gusts_133 (lv_at hl 0 rfl) ?_
        refine lv_bipush (pc := 135) (v := 8) hx hb dX12_gusts_135 (by decide) ?_
        refine lv_iushr (pc := 137) (v := zus ((v8 * 1103515245) + 12345) 8) hx hb dX12_gusts_137 rfl ?_
        refine lv_iload (pc := 138) hx hb dX12_gusts_138 (lv_at hl 3 rfl) ?_
        refine lv_bipush (pc := 140) (v := 100) hx hb dX12_gusts_140 (by decide) ?_
        refine lv_irem (pc := 142) hx hb dX12_gusts_142 (by decide) ?_
        obtain ⟨i12, hf⟩ := zn hf
        refine lv_irem (pc := 143) hx hb dX12_gusts_143 i12 ?_
        obtain ⟨i13, hf⟩ := zn hf
        obtain ⟨S14, e_S14, hf⟩ := zL_e hf
        refine rs_35 (pc := 144) C0 hW i13 e_S14 dX12_gusts_144 (fun H locs hW => ?_)
        refine lv_iinc (pc := 145) (v := (v11 + 1)) (lv' := [(11, .int (v11 + 1)), (8, .int ((v8 * 1103515245) + 12345)), (0, .ref (h 0)), (2, .int v2), (4, .int v4), (5, .int v5), (6, .int v6), (7, .int v7), (9, .int v9), (10, .int v10)]) hx hb dX12_gusts_145 hl (k := 9) rfl (by rfl) (by decide) rfl (fun ls hl => ?_)
        refine lv_goto (pc := 148) (tgt := 103) hx hb dX12_gusts_148 (by decide) ?_
        exact ih v2 v4 v5 v6 v7 ((v8 * 1103515245) + 12345) v9 v10 (v11 + 1) S14 H locs hW ls (lv_sub hl [2, 3, 4, 5, 6, 7, 1, 8, 9, 0] rfl) hf
  have w90 : ∀ (n : Nat), ∀ (v2 : Int32) (v4 : Int32) (v5 : Int32) (v6 : Int32) (v7 : Int32) (v8 : Int32) (v9 : Int32) (v10 : Int32) (S : zSt) (H : Heap) (locs : List Loc), zW zTr D (tR cA) (wR cA h S) (aW (hsR h) s.heap.size) s H locs → ∀ ls : Array Slot, lv_has ls 12 [(0, .ref (h 0)), (2, .int v2), (4, .int v4), (5, .int v5), (6, .int v6), (7, .int v7), (8, .int v8), (9, .int v9), (10, .int v10)] → fX12_gusts_b90 N n v2 v4 v5 v6 v7 v8 v9 v10 S = some (r, S1) → W p l e rmX12_gusts s m args below meth c H locs 0 0 Q (F0 m 90 ls []) := by
    intro n
    induction n with
    | zero =>
      intro v2 v4 v5 v6 v7 v8 v9 v10 S H locs hW ls hl hf
      exact absurd hf (by intro h; cases h)
    | succ n ih =>
      intro v2 v4 v5 v6 v7 v8 v9 v10 S H locs hW ls hl hf
      rw [fX12_gusts_b90] at hf
      refine lv_iload (pc := 90) hx hb dX12_gusts_90 (lv_at hl 8 rfl) ?_
      refine lv_iload (pc := 92) hx hb dX12_gusts_92 (lv_at hl 2 rfl) ?_
      refine lv_bipush (pc := 94) (v := 100) hx hb dX12_gusts_94 (by decide) ?_
      refine lv_idiv (pc := 96) hx hb dX12_gusts_96 (by decide) ?_
      refine lv_icmp_ge (pc := 97) (tgt := 175) hx hb dX12_gusts_97 (by decide) (fun c15 => ?_) (fun c15 => ?_)
      · have hf := zt c15 hf
        refine lv_iconst (pc := 175) (v := 0) hx hb dX12_gusts_175 (by decide) ?_
        refine lv_istore (pc := 176) (lv' := [(10, .int 0), (0, .ref (h 0)), (2, .int v2), (4, .int v4), (5, .int v5), (6, .int v6), (7, .int v7), (8, .int v8), (9, .int v9)]) hx hb dX12_gusts_176 hl (by decide) rfl (fun ls hl => ?_)
        exact w178 N v4 v5 v6 v9 0 S H locs hW ls (lv_sub hl [1, 3, 4, 5, 8, 0] rfl) hf
      · have hf := zf c15 hf
        refine lv_iconst (pc := 100) (v := 0) hx hb dX12_gusts_100 (by decide) ?_
        refine lv_istore (pc := 101) (lv' := [(11, .int 0), (0, .ref (h 0)), (2, .int v2), (4, .int v4), (5, .int v5), (6, .int v6), (7, .int v7), (8, .int v8), (9, .int v9), (10, .int v10)]) hx hb dX12_gusts_101 hl (by decide) rfl (fun ls hl => ?_)
        exact w103 (fX12_gusts_b90 N n) ih N v2 v4 v5 v6 v7 v8 v9 v10 0 S H locs hW ls (lv_sub hl [1, 2, 3, 4, 5, 6, 7, 8, 9, 0] rfl) hf
  unfold fX12_gusts at hf
  refine lv_aload_n (pc := 0) hx hb dX12_gusts_0 rfl (lv_at hl 0 rfl) ?_
  refine lv_iload_n (pc := 1) hx hb dX12_gusts_1 rfl (lv_at hl 1 rfl) ?_
  obtain ⟨r16, S17, e18, hf⟩ := zB_e hf
  refine zcVi zTr_ok (As := [.int p1]) (pc := 2) C0 hW (kX12_isAt l D cA h H.size p1 S r16 S17 e18) (cwV 1 hts (zgV gaR mR_230 mR_231 mR_232 mR_46 mR_208) rfl rfl rfl (by decide +kernel) ⟨Nat.le_of_ble_eq_true rfl, Nat.le_of_ble_eq_true rfl⟩) (va_recv hW.1 hW.2.1 (ci := 12) (q0 := 0) rfl rfl) rfl hl.1 rfl (Nat.le_of_ble_eq_true rfl) dX12_gusts_2 (fun H locs hW => ?_)
  refine lv_if_eq (pc := 5) (tgt := 59) hx hb dX12_gusts_5 (by decide) (fun c19 => ?_) (fun c19 => ?_)
  · have hf := zt c19 hf
    refine lv_iconst (pc := 59) (v := (-1)) hx hb dX12_gusts_59 (by decide) ?_
    exact zend_i (w := wR cA h) fin hf hW dX12_gusts_60
  · have hf := zf c19 hf
    refine lv_aload_n (pc := 8) hx hb dX12_gusts_8 rfl (lv_at hl 0 rfl) ?_
    refine lv_iload_n (pc := 9) hx hb dX12_gusts_9 rfl (lv_at hl 2 rfl) ?_
    obtain ⟨r20, S21, e22, hf⟩ := zB_e hf
    refine zcVi zTr_ok (As := [.int p2]) (pc := 10) C0 hW (kX12_areSo l D cA h H.size N p2 S17 r20 S21 e22) (cwV 1 hts (zgV gaR mR_233 mR_234 mR_235 mR_46 mR_204) rfl rfl rfl (by decide +kernel) ⟨Nat.le_of_ble_eq_true rfl, Nat.le_of_ble_eq_true rfl⟩) (va_recv hW.1 hW.2.1 (ci := 12) (q0 := 0) rfl rfl) rfl hl.1 rfl (Nat.le_of_ble_eq_true rfl) dX12_gusts_10 (fun H locs hW => ?_)
    refine lv_if_eq (pc := 13) (tgt := 59) hx hb dX12_gusts_13 (by decide) (fun c23 => ?_) (fun c23 => ?_)
    · have hf := zt c23 hf
      refine lv_iconst (pc := 59) (v := (-1)) hx hb dX12_gusts_59 (by decide) ?_
      exact zend_i (w := wR cA h) fin hf hW dX12_gusts_60
    · have hf := zf c23 hf
      refine lv_iload (pc := 16) hx hb dX12_gusts_16 (lv_at hl 4 rfl) ?_
      refine lv_if_lt (pc := 18) (tgt := 59) hx hb dX12_gusts_18 (by decide) (fun c24 => ?_) (fun c24 => ?_)
      · have hf := zt c24 hf
        refine lv_iconst (pc := 59) (v := (-1)) hx hb dX12_gusts_59 (by decide) ?_
        exact zend_i (w := wR cA h) fin hf hW dX12_gusts_60
      · have hf := zf c24 hf
        refine lv_iload (pc := 21) hx hb dX12_gusts_21 (lv_at hl 4 rfl) ?_
        refine lv_bipush (pc := 23) (v := 100) hx hb dX12_gusts_23 (by decide) ?_
        refine lv_idiv (pc := 25) hx hb dX12_gusts_25 (by decide) ?_
        refine lv_iconst (pc := 26) (v := 1) hx hb dX12_gusts_26 (by decide) ?_
        refine lv_bipush (pc := 27) (v := 50) hx hb dX12_gusts_27 (by decide) ?_
        obtain ⟨r25, e27, hf⟩ := zU_e hf
        refine zcSi (As := [.int (p4 / 100), .int 1, .int 50]) (pc := 29) C0 hW (kX12_in l H.size (p4 / 100) 1 50 r25 e27) (va_cwS 3 hts (zgS gaR mR_44 mR_45 mR_46 mR_39) rfl rfl rfl (by decide +kernel) ⟨Nat.le_of_ble_eq_true rfl, Nat.le_of_ble_eq_true rfl⟩) rfl hl.1 rfl (Nat.le_of_ble_eq_true rfl) dX12_gusts_29 (fun H locs hW => ?_)
        refine lv_if_eq (pc := 32) (tgt := 59) hx hb dX12_gusts_32 (by decide) (fun c28 => ?_) (fun c28 => ?_)
        · have hf := zt c28 hf
          refine lv_iconst (pc := 59) (v := (-1)) hx hb dX12_gusts_59 (by decide) ?_
          exact zend_i (w := wR cA h) fin hf hW dX12_gusts_60
        · have hf := zf c28 hf
          refine lv_iload (pc := 35) hx hb dX12_gusts_35 (lv_at hl 4 rfl) ?_
          refine lv_bipush (pc := 37) (v := 100) hx hb dX12_gusts_37 (by decide) ?_
          refine lv_irem (pc := 39) hx hb dX12_gusts_39 (by decide) ?_
          refine lv_iconst (pc := 40) (v := 1) hx hb dX12_gusts_40 (by decide) ?_
          refine lv_bipush (pc := 41) (v := 20) hx hb dX12_gusts_41 (by decide) ?_
          obtain ⟨r29, e31, hf⟩ := zU_e hf
          refine zcSi (As := [.int (p4 - p4 / 100 * 100), .int 1, .int 20]) (pc := 43) C0 hW (kX12_in l H.size (p4 - p4 / 100 * 100) 1 20 r29 e31) (va_cwS 3 hts (zgS gaR mR_44 mR_45 mR_46 mR_39) rfl rfl rfl (by decide +kernel) ⟨Nat.le_of_ble_eq_true rfl, Nat.le_of_ble_eq_true rfl⟩) rfl hl.1 rfl (Nat.le_of_ble_eq_true rfl) dX12_gusts_43 (fun H locs hW => ?_)
          refine lv_if_eq (pc := 46) (tgt := 59) hx hb dX12_gusts_46 (by decide) (fun c32 => ?_) (fun c32 => ?_)
          · have hf := zt c32 hf
            refine lv_iconst (pc := 59) (v := (-1)) hx hb dX12_gusts_59 (by decide) ?_
            exact zend_i (w := wR cA h) fin hf hW dX12_gusts_60
          · have hf := zf c32 hf
            refine lv_iload (pc := 49) hx hb dX12_gusts_49 (lv_at hl 5 rfl) ?_
            refine lv_iconst (pc := 51) (v := 0) hx hb dX12_gusts_51 (by decide) ?_
            refine lv_iconst (pc := 52) (v := 1) hx hb dX12_gusts_52 (by decide) ?_
            obtain ⟨r33, e35, hf⟩ := zU_e hf
            refine zcSi (As := [.int p5, .int 0, .int 1]) (pc := 53) C0 hW (kX12_in l H.size p5 0 1 r33 e35) (va_cwS 3 hts (zgS gaR mR_44 mR_45 mR_46 mR_39) rfl rfl rfl (by decide +kernel) ⟨Nat.le_of_ble_eq_true rfl, Nat.le_of_ble_eq_true rfl⟩) rfl hl.1 rfl (Nat.le_of_ble_eq_true rfl) dX12_gusts_53 (fun H locs hW => ?_)
            refine lv_if_ne (pc := 56) (tgt := 61) hx hb dX12_gusts_56 (by decide) (fun c36 => ?_) (fun c36 => ?_)
            · have hf := zf c36 hf
              refine lv_iload_n (pc := 61) hx hb dX12_gusts_61 rfl (lv_at hl 1 rfl) ?_
              refine lv_bipush (pc := 62) (v := 100) hx hb dX12_gusts_62 (by decide) ?_
              refine lv_idiv (pc := 64) hx hb dX12_gusts_64 (by decide) ?_
              refine lv_istore (pc := 65) (lv' := [(6, .int (p1 / 100)), (0, .ref (h 0)), (1, .int p1), (2, .int p2), (3, .int p3), (4, .int p4), (5, .int p5)]) hx hb dX12_gusts_65 hl (by decide) rfl (fun ls hl => ?_)
              refine lv_aload_n (pc := 67) hx hb dX12_gusts_67 rfl (lv_at hl 1 rfl) ?_
              refine lv_aload_n (pc := 68) hx hb dX12_gusts_68 rfl (lv_at hl 1 rfl) ?_
              refine rg_25 (pc := 69) C0 hu_12 hW mR_22 dX12_gusts_69 ?_
              refine lv_iload_n (pc := 72) hx hb dX12_gusts_72 rfl (lv_at hl 2 rfl) ?_
              refine lv_bipush (pc := 73) (v := 100) hx hb dX12_gusts_73 (by decide) ?_
              refine lv_irem (pc := 75) hx hb dX12_gusts_75 (by decide) ?_
              obtain ⟨r37, S38, e39, hf⟩ := zB_e hf
              refine zcVi zTr_ok (As := [.int (S21.1 25), .int (p1 - p1 / 100 * 100)]) (pc := 76) C0 hW (kX12_riseBy l D cA h H.size N (S21.1 25) (p1 - p1 / 100 * 100) S21 r37 S38 e39) (cwV 2 hts (zgV gaR mR_182 mR_183 mR_184 mR_46 mR_172) rfl rfl rfl (by decide +kernel) ⟨Nat.le_of_ble_eq_true rfl, Nat.le_of_ble_eq_true rfl⟩) (va_recv hW.1 hW.2.1 (ci := 12) (q0 := 0) rfl rfl) rfl hl.1 rfl (Nat.le_of_ble_eq_true rfl) dX12_gusts_76 (fun H locs hW => ?_)
              refine lv_istore (pc := 79) (lv' := [(7, .int r37), (6, .int (p1 / 100)), (0, .ref (h 0)), (1, .int p1), (2, .int p2), (3, .int p3), (4, .int p4), (5, .int p5)]) hx hb dX12_gusts_79 hl (by decide) rfl (fun ls hl => ?_)
              refine lv_iload_n (pc := 81) hx hb dX12_gusts_81 rfl (lv_at hl 5 rfl) ?_
              refine lv_istore (pc := 82) (lv' := [(8, .int p3), (7, .int r37), (6, .int (p1 / 100)), (0, .ref (h 0)), (1, .int p1), (2, .int p2), (3, .int p3), (4, .int p4), (5, .int p5)]) hx hb dX12_gusts_82 hl (by decide) rfl (fun ls hl => ?_)
              refine lv_iconst (pc := 84) (v := 0) hx hb dX12_gusts_84 (by decide) ?_
              refine lv_istore (pc := 85) (lv' := [(9, .int 0), (8, .int p3), (7, .int r37), (6, .int (p1 / 100)), (0, .ref (h 0)), (1, .int p1), (2, .int p2), (3, .int p3), (4, .int p4), (5, .int p5)]) hx hb dX12_gusts_85 hl (by decide) rfl (fun ls hl => ?_)
              refine lv_iconst (pc := 87) (v := 0) hx hb dX12_gusts_87 (by decide) ?_
              refine lv_istore (pc := 88) (lv' := [(10, .int 0), (9, .int 0), (8, .int p3), (7, .int r37), (6, .int (p1 / 100)), (0, .ref (h 0)), (1, .int p1), (2, .int p2), (3, .int p3), (4, .int p4), (5, .int p5)]) hx hb dX12_gusts_88 hl (by decide) rfl (fun ls hl => ?_)
              exact w90 N p2 p4 p5 (p1 / 100) r37 p3 0 0 S38 H locs hW ls (lv_sub hl [5, 7, 9, 10, 4, 3, 2, 1, 0] rfl) hf
            · have hf := zt c36 hf
              refine lv_iconst (pc := 59) (v := (-1)) hx hb dX12_gusts_59 (by decide) ?_
              exact zend_i (w := wR cA h) fin hf hW dX12_gusts_60

def fX12_await_b23 (N : Nat) : Nat → Int32 → Int32 → Int32 → zSt → Option (Int32 × zSt)
  | 0, _, _, _, _ => none
  | n + 1, v1, v2, v3, S =>
    if 48 ≤ v3 then (some ((-2), S)) else (zU (fX12_isDark v3) fun r2 => if r2 = 0 then (zB (fX12_riseBy N (S.1 25) v3 S) fun r6 S7 => zB (fX12_isOver N (v1 / 100) r6 (v2 - v2 / 10 * 10) S7) fun r9 S10 => if r9 = 0 then (fX12_await_b23 N n v1 v2 (v3 + 1) S10) else (some (v3, S10))) else (fX12_await_b23 N n v1 v2 (v3 + 1) S))
def fX12_await (N : Nat) (p1 : Int32) (p2 : Int32) (S : zSt) : Option (Int32 × zSt) :=
  zB (fX12_isAt p1 S) fun r13 S14 => if r13 = 0 then (some ((-1), S14)) else (zB (fX12_areSo N p2 S14) fun r17 S18 => if r17 = 0 then (some ((-1), S18)) else (fX12_await_b23 N N p1 p2 (p1 - p1 / 100 * 100) S18))
abbrev wX12_await : List Cond := Cond.code yX12_await cX12_await 4 (some .int) :: waR
abbrev rmX12_await : Room := { frames := 6, cells := 0, slots := 0, locals := 147 }
set_option maxHeartbeats 4000000 in
set_option maxRecDepth 100000 in
theorem kX12_await (l : Launch) (D : va_G) (cA : Nat → ClassId) (h : Nat → Nat) (sz : Nat) (N : Nat)  (p1 : Int32) (p2 : Int32) (S : zSt) (r : Int32) (S1 : zSt) (hf : fX12_await N p1 p2 S = some (r, S1)) : zMi l yX12_await wX12_await rmX12_await zTr D (tR cA) (hsR h) [.ref (h 0), .int p1, .int p2] (wR cA h S) (wR cA h S1) sz r := by
  refine zEn_i (cc := cX12_await) (maxL := 4) (own := RX12) (by decide) rfl rfl (hmR cA h S) (Nat.le_of_ble_eq_true rfl) ?_
  intro p e s m args below meth c Q H locs C0 hW fin ls hl
  have hl : lv_has ls 4 [(0, .ref (h 0)), (1, .int p1), (2, .int p2)] := hl
  have hx := C0.1
  have hb := C0.2.1
  have hown := C0.2.2.2.1
  have hts := C0.2.2.2.2
  have w23 : ∀ (n : Nat), ∀ (v1 : Int32) (v2 : Int32) (v3 : Int32) (S : zSt) (H : Heap) (locs : List Loc), zW zTr D (tR cA) (wR cA h S) (aW (hsR h) s.heap.size) s H locs → ∀ ls : Array Slot, lv_has ls 4 [(0, .ref (h 0)), (1, .int v1), (2, .int v2), (3, .int v3)] → fX12_await_b23 N n v1 v2 v3 S = some (r, S1) → W p l e rmX12_await s m args below meth c H locs 0 0 Q (F0 m 23 ls []) := by
    intro n
    induction n with
    | zero =>
      intro v1 v2 v3 S H locs hW ls hl hf
      exact absurd hf (by intro h; cases h)
    | succ n ih =>
      intro v1 v2 v3 S H locs hW ls hl hf
      rw [fX12_await_b23] at hf
      refine lv_iload_n (pc := 23) hx hb dX12_await_23 rfl (lv_at hl 3 rfl) ?_
      refine lv_bipush (pc := 24) (v := 48) hx hb dX12_await_24 (by decide) ?_
      refine lv_icmp_ge (pc := 26) (tgt := 68) hx hb dX12_await_26 (by decide) (fun c1 => ?_) (fun c1 => ?_)
      · have hf := zt c1 hf
        refine lv_bipush (pc := 68) (v := (-2)) hx hb dX12_await_68 (by decide) ?_
        exact zend_i (w := wR cA h) fin hf hW dX12_await_70
      · have hf := zf c1 hf
        refine lv_iload_n (pc := 29) hx hb dX12_await_29 rfl (lv_at hl 3 rfl) ?_
        obtain ⟨r2, e4, hf⟩ := zU_e hf
        refine zcSi (As := [.int v3]) (pc := 30) C0 hW (kX12_isDark l H.size v3 r2 e4) (va_cwS 1 hts (zgS gaR mR_259 mR_260 mR_46 mR_257) rfl rfl rfl (by decide +kernel) ⟨Nat.le_of_ble_eq_true rfl, Nat.le_of_ble_eq_true rfl⟩) rfl hl.1 rfl (Nat.le_of_ble_eq_true rfl) dX12_await_30 (fun H locs hW => ?_)
        refine lv_if_ne (pc := 33) (tgt := 62) hx hb dX12_await_33 (by decide) (fun c5 => ?_) (fun c5 => ?_)
        · have hf := zf c5 hf
          refine lv_iinc (pc := 62) (v := (v3 + 1)) (lv' := [(3, .int (v3 + 1)), (0, .ref (h 0)), (1, .int v1), (2, .int v2)]) hx hb dX12_await_62 hl (k := 3) rfl (by rfl) (by decide) rfl (fun ls hl => ?_)
          refine lv_goto (pc := 65) (tgt := 23) hx hb dX12_await_65 (by decide) ?_
          exact ih v1 v2 (v3 + 1) S H locs hW ls (lv_sub hl [1, 2, 3, 0] rfl) hf
        · have hf := zt c5 hf
          refine lv_aload_n (pc := 36) hx hb dX12_await_36 rfl (lv_at hl 0 rfl) ?_
          refine lv_iload_n (pc := 37) hx hb dX12_await_37 rfl (lv_at hl 1 rfl) ?_
          refine lv_bipush (pc := 38) (v := 100) hx hb dX12_await_38 (by decide) ?_
          refine lv_idiv (pc := 40) hx hb dX12_await_40 (by decide) ?_
          refine lv_aload_n (pc := 41) hx hb dX12_await_41 rfl (lv_at hl 0 rfl) ?_
          refine lv_aload_n (pc := 42) hx hb dX12_await_42 rfl (lv_at hl 0 rfl) ?_
          refine rg_25 (pc := 43) C0 hu_12 hW mR_22 dX12_await_43 ?_
          refine lv_iload_n (pc := 46) hx hb dX12_await_46 rfl (lv_at hl 3 rfl) ?_
          obtain ⟨r6, S7, e8, hf⟩ := zB_e hf
          refine zcVi zTr_ok (As := [.int (S.1 25), .int v3]) (pc := 47) C0 hW (kX12_riseBy l D cA h H.size N (S.1 25) v3 S r6 S7 e8) (cwV 2 hts (zgV gaR mR_182 mR_183 mR_184 mR_46 mR_172) rfl rfl rfl (by decide +kernel) ⟨Nat.le_of_ble_eq_true rfl, Nat.le_of_ble_eq_true rfl⟩) (va_recv hW.1 hW.2.1 (ci := 12) (q0 := 0) rfl rfl) rfl hl.1 rfl (Nat.le_of_ble_eq_true rfl) dX12_await_47 (fun H locs hW => ?_)
          refine lv_iload_n (pc := 50) hx hb dX12_await_50 rfl (lv_at hl 2 rfl) ?_
          refine lv_bipush (pc := 51) (v := 10) hx hb dX12_await_51 (by decide) ?_
          refine lv_irem (pc := 53) hx hb dX12_await_53 (by decide) ?_
          obtain ⟨r9, S10, e11, hf⟩ := zB_e hf
          refine zcVi zTr_ok (As := [.int (v1 / 100), .int r6, .int (v2 - v2 / 10 * 10)]) (pc := 54) C0 hW (kX12_isOver l D cA h H.size N (v1 / 100) r6 (v2 - v2 / 10 * 10) S7 r9 S10 e11) (cwV 3 hts (zgV gaR mR_246 mR_247 mR_248 mR_46 mR_240) rfl rfl rfl (by decide +kernel) ⟨Nat.le_of_ble_eq_true rfl, Nat.le_of_ble_eq_true rfl⟩) (va_recv hW.1 hW.2.1 (ci := 12) (q0 := 0) rfl rfl) rfl hl.1 rfl (Nat.le_of_ble_eq_true rfl) dX12_await_54 (fun H locs hW => ?_)
          refine lv_if_eq (pc := 57) (tgt := 62) hx hb dX12_await_57 (by decide) (fun c12 => ?_) (fun c12 => ?_)
          · have hf := zt c12 hf
            refine lv_iinc (pc := 62) (v := (v3 + 1)) (lv' := [(3, .int (v3 + 1)), (0, .ref (h 0)), (1, .int v1), (2, .int v2)]) hx hb dX12_await_62 hl (k := 3) rfl (by rfl) (by decide) rfl (fun ls hl => ?_)
            refine lv_goto (pc := 65) (tgt := 23) hx hb dX12_await_65 (by decide) ?_
            exact ih v1 v2 (v3 + 1) S10 H locs hW ls (lv_sub hl [1, 2, 3, 0] rfl) hf
          · have hf := zf c12 hf
            refine lv_iload_n (pc := 60) hx hb dX12_await_60 rfl (lv_at hl 3 rfl) ?_
            exact zend_i (w := wR cA h) fin hf hW dX12_await_61
  unfold fX12_await at hf
  refine lv_aload_n (pc := 0) hx hb dX12_await_0 rfl (lv_at hl 0 rfl) ?_
  refine lv_iload_n (pc := 1) hx hb dX12_await_1 rfl (lv_at hl 1 rfl) ?_
  obtain ⟨r13, S14, e15, hf⟩ := zB_e hf
  refine zcVi zTr_ok (As := [.int p1]) (pc := 2) C0 hW (kX12_isAt l D cA h H.size p1 S r13 S14 e15) (cwV 1 hts (zgV gaR mR_230 mR_231 mR_232 mR_46 mR_208) rfl rfl rfl (by decide +kernel) ⟨Nat.le_of_ble_eq_true rfl, Nat.le_of_ble_eq_true rfl⟩) (va_recv hW.1 hW.2.1 (ci := 12) (q0 := 0) rfl rfl) rfl hl.1 rfl (Nat.le_of_ble_eq_true rfl) dX12_await_2 (fun H locs hW => ?_)
  refine lv_if_eq (pc := 5) (tgt := 16) hx hb dX12_await_5 (by decide) (fun c16 => ?_) (fun c16 => ?_)
  · have hf := zt c16 hf
    refine lv_iconst (pc := 16) (v := (-1)) hx hb dX12_await_16 (by decide) ?_
    exact zend_i (w := wR cA h) fin hf hW dX12_await_17
  · have hf := zf c16 hf
    refine lv_aload_n (pc := 8) hx hb dX12_await_8 rfl (lv_at hl 0 rfl) ?_
    refine lv_iload_n (pc := 9) hx hb dX12_await_9 rfl (lv_at hl 2 rfl) ?_
    obtain ⟨r17, S18, e19, hf⟩ := zB_e hf
    refine zcVi zTr_ok (As := [.int p2]) (pc := 10) C0 hW (kX12_areSo l D cA h H.size N p2 S14 r17 S18 e19) (cwV 1 hts (zgV gaR mR_233 mR_234 mR_235 mR_46 mR_204) rfl rfl rfl (by decide +kernel) ⟨Nat.le_of_ble_eq_true rfl, Nat.le_of_ble_eq_true rfl⟩) (va_recv hW.1 hW.2.1 (ci := 12) (q0 := 0) rfl rfl) rfl hl.1 rfl (Nat.le_of_ble_eq_true rfl) dX12_await_10 (fun H locs hW => ?_)
    refine lv_if_ne (pc := 13) (tgt := 18) hx hb dX12_await_13 (by decide) (fun c20 => ?_) (fun c20 => ?_)
    · have hf := zf c20 hf
      refine lv_iload_n (pc := 18) hx hb dX12_await_18 rfl (lv_at hl 1 rfl) ?_
      refine lv_bipush (pc := 19) (v := 100) hx hb dX12_await_19 (by decide) ?_
      refine lv_irem (pc := 21) hx hb dX12_await_21 (by decide) ?_
      refine lv_istore_n (pc := 22) (lv' := [(3, .int (p1 - p1 / 100 * 100)), (0, .ref (h 0)), (1, .int p1), (2, .int p2)]) hx hb dX12_await_22 rfl hl (by decide) rfl (fun ls hl => ?_)
      exact w23 N p1 p2 (p1 - p1 / 100 * 100) S18 H locs hW ls (lv_sub hl [1, 2, 3, 0] rfl) hf
    · have hf := zt c20 hf
      refine lv_iconst (pc := 16) (v := (-1)) hx hb dX12_await_16 (by decide) ?_
      exact zend_i (w := wR cA h) fin hf hW dX12_await_17

def fX12_mustNot_b124 (N : Nat) (K34 : Int32 → Int32 → Int32 → Int32 → zSt → Option (Int32 × zSt)) (K46 : Int32 → Int32 → Int32 → Int32 → Int32 → zSt → Option (Int32 × zSt)) (v2 : Int32) (v3 : Int32) (v4 : Int32) (v5 : Int32) (v6 : Int32) (S : zSt) : Option (Int32 × zSt) :=
  K46 v2 v3 (v4 ||| (1 <<< (v5 &&& 31))) v5 (v6 + 1) S
def fX12_mustNot_b46 (N : Nat) (K34 : Int32 → Int32 → Int32 → Int32 → zSt → Option (Int32 × zSt)) : Nat → Int32 → Int32 → Int32 → Int32 → Int32 → zSt → Option (Int32 × zSt)
  | 0, _, _, _, _, _, _ => none
  | n + 1, v2, v3, v4, v5, v6, S =>
    if zin v2 7 then if (S.2.1 4 (Int32.toNatClampNeg v2)) ≤ v6 then (K34 v2 v3 v4 (v5 + 1) S) else (zB (fX12_depthAt v2 v6 v3 S) fun r3 S4 => if zin v5 8 then if (S4.2.1 30 (Int32.toNatClampNeg v5)) ≤ r3 then (fX12_mustNot_b124 N K34 (fX12_mustNot_b46 N K34 n) v2 v3 v4 v5 v6 S4) else (if zin (((36 * v2) + (3 * v6)) + 2) 252 then zB (fX12_plainHold v5 r3 (S4.2.1 6 (Int32.toNatClampNeg (((36 * v2) + (3 * v6)) + 2))) S4) fun r9 S10 => zB (fX12_paceAt v2 v6 v3 S10) fun r12 S13 => zB (fX12_pushOf v5 r3 r12 40 S13) fun r15 S16 => if r15 ≤ r9 then (fX12_mustNot_b46 N K34 n v2 v3 v4 v5 (v6 + 1) S16) else (fX12_mustNot_b124 N K34 (fX12_mustNot_b46 N K34 n) v2 v3 v4 v5 v6 S16) else none) else none) else none
def fX12_mustNot_b34 (N : Nat) : Nat → Int32 → Int32 → Int32 → Int32 → zSt → Option (Int32 × zSt)
  | 0, _, _, _, _, _ => none
  | n + 1, v2, v3, v4, v5, S =>
    if (S.1 28) ≤ v5 then (some (v4, S)) else (fX12_mustNot_b46 N (fX12_mustNot_b34 N n) N v2 v3 v4 v5 0 S)
def fX12_mustNot (N : Nat) (p1 : Int32) (S : zSt) : Option (Int32 × zSt) :=
  zB (fX12_isAt p1 S) fun r20 S21 => if r20 = 0 then (some ((-1), S21)) else (zB (fX12_riseBy N (S21.1 25) (p1 - p1 / 100 * 100) S21) fun r24 S25 => fX12_mustNot_b34 N N (p1 / 100) r24 0 0 S25)
abbrev wX12_mustNot : List Cond := Cond.code yX12_mustNot cX12_mustNot 8 (some .int) :: waR
abbrev rmX12_mustNot : Room := { frames := 4, cells := 0, slots := 0, locals := 93 }
set_option maxHeartbeats 4000000 in
set_option maxRecDepth 100000 in
theorem kX12_mustNot (l : Launch) (D : va_G) (cA : Nat → ClassId) (h : Nat → Nat) (sz : Nat) (N : Nat)  (p1 : Int32) (S : zSt) (r : Int32) (S1 : zSt) (hf : fX12_mustNot N p1 S = some (r, S1)) : zMi l yX12_mustNot wX12_mustNot rmX12_mustNot zTr D (tR cA) (hsR h) [.ref (h 0), .int p1] (wR cA h S) (wR cA h S1) sz r := by
  refine zEn_i (cc := cX12_mustNot) (maxL := 8) (own := RX12) (by decide) rfl rfl (hmR cA h S) (Nat.le_of_ble_eq_true rfl) ?_
  intro p e s m args below meth c Q H locs C0 hW fin ls hl
  have hl : lv_has ls 8 [(0, .ref (h 0)), (1, .int p1)] := hl
  have hx := C0.1
  have hb := C0.2.1
  have hown := C0.2.2.2.1
  have hts := C0.2.2.2.2
  have w124 : ∀ (K34 : Int32 → Int32 → Int32 → Int32 → zSt → Option (Int32 × zSt)) (hK34 : ∀ (v2 : Int32) (v3 : Int32) (v4 : Int32) (v5 : Int32) (S : zSt) (H : Heap) (locs : List Loc), zW zTr D (tR cA) (wR cA h S) (aW (hsR h) s.heap.size) s H locs → ∀ ls : Array Slot, lv_has ls 8 [(0, .ref (h 0)), (2, .int v2), (3, .int v3), (4, .int v4), (5, .int v5)] → K34 v2 v3 v4 v5 S = some (r, S1) → W p l e rmX12_mustNot s m args below meth c H locs 0 0 Q (F0 m 34 ls [])) (K46 : Int32 → Int32 → Int32 → Int32 → Int32 → zSt → Option (Int32 × zSt)) (hK46 : ∀ (v2 : Int32) (v3 : Int32) (v4 : Int32) (v5 : Int32) (v6 : Int32) (S : zSt) (H : Heap) (locs : List Loc), zW zTr D (tR cA) (wR cA h S) (aW (hsR h) s.heap.size) s H locs → ∀ ls : Array Slot, lv_has ls 8 [(0, .ref (h 0)), (2, .int v2), (3, .int v3), (4, .int v4), (5, .int v5), (6, .int v6)] → K46 v2 v3 v4 v5 v6 S = some (r, S1) → W p l e rmX12_mustNot s m args below meth c H locs 0 0 Q (F0 m 46 ls [])) , ∀ (v2 : Int32) (v3 : Int32) (v4 : Int32) (v5 : Int32) (v6 : Int32) (S : zSt) (H : Heap) (locs : List Loc), zW zTr D (tR cA) (wR cA h S) (aW (hsR h) s.heap.size) s H locs → ∀ ls : Array Slot, lv_has ls 8 [(0, .ref (h 0)), (2, .int v2), (3, .int v3), (4, .int v4), (5, .int v5), (6, .int v6)] → fX12_mustNot_b124 N K34 K46 v2 v3 v4 v5 v6 S = some (r, S1) → W p l e rmX12_mustNot s m args below meth c H locs 0 0 Q (F0 m 124 ls []) := by
    intro K34 hK34 K46 hK46
    intro v2 v3 v4 v5 v6 S H locs hW ls hl hf
    unfold fX12_mustNot_b124 at hf
    refine lv_iload (pc := 124) hx hb dX12_mustNot_124 (lv_at hl 3 rfl) ?_
    refine lv_iconst (pc := 126) (v := 1) hx hb dX12_mustNot_126 (by decide) ?_
    refine lv_iload (pc := 127) hx hb dX12_mustNot_127 (lv_at hl 4 rfl) ?_
    refine lv_ishl (pc := 129) hx hb dX12_mustNot_129 ?_
    refine lv_ior (pc := 130) hx hb dX12_mustNot_130 ?_
    refine lv_istore (pc := 131) (lv' := [(4, .int (v4 ||| (1 <<< (v5 &&& 31)))), (0, .ref (h 0)), (2, .int v2), (3, .int v3), (5, .int v5), (6, .int v6)]) hx hb dX12_mustNot_131 hl (by decide) rfl (fun ls hl => ?_)
    refine lv_iinc (pc := 133) (v := (v6 + 1)) (lv' := [(6, .int (v6 + 1)), (4, .int (v4 ||| (1 <<< (v5 &&& 31)))), (0, .ref (h 0)), (2, .int v2), (3, .int v3), (5, .int v5)]) hx hb dX12_mustNot_133 hl (k := 5) rfl (by rfl) (by decide) rfl (fun ls hl => ?_)
    refine lv_goto (pc := 136) (tgt := 46) hx hb dX12_mustNot_136 (by decide) ?_
    exact hK46 v2 v3 (v4 ||| (1 <<< (v5 &&& 31))) v5 (v6 + 1) S H locs hW ls (lv_sub hl [2, 3, 4, 1, 5, 0] rfl) hf
  have w46 : ∀ (K34 : Int32 → Int32 → Int32 → Int32 → zSt → Option (Int32 × zSt)) (hK34 : ∀ (v2 : Int32) (v3 : Int32) (v4 : Int32) (v5 : Int32) (S : zSt) (H : Heap) (locs : List Loc), zW zTr D (tR cA) (wR cA h S) (aW (hsR h) s.heap.size) s H locs → ∀ ls : Array Slot, lv_has ls 8 [(0, .ref (h 0)), (2, .int v2), (3, .int v3), (4, .int v4), (5, .int v5)] → K34 v2 v3 v4 v5 S = some (r, S1) → W p l e rmX12_mustNot s m args below meth c H locs 0 0 Q (F0 m 34 ls [])) (n : Nat), ∀ (v2 : Int32) (v3 : Int32) (v4 : Int32) (v5 : Int32) (v6 : Int32) (S : zSt) (H : Heap) (locs : List Loc), zW zTr D (tR cA) (wR cA h S) (aW (hsR h) s.heap.size) s H locs → ∀ ls : Array Slot, lv_has ls 8 [(0, .ref (h 0)), (2, .int v2), (3, .int v3), (4, .int v4), (5, .int v5), (6, .int v6)] → fX12_mustNot_b46 N K34 n v2 v3 v4 v5 v6 S = some (r, S1) → W p l e rmX12_mustNot s m args below meth c H locs 0 0 Q (F0 m 46 ls []) := by
    intro K34 hK34 n
    induction n with
    | zero =>
      intro v2 v3 v4 v5 v6 S H locs hW ls hl hf
      exact absurd hf (by intro h; cases h)
    | succ n ih =>
      intro v2 v3 v4 v5 v6 S H locs hW ls hl hf
      rw [fX12_mustNot_b46] at hf
      refine lv_iload (pc := 46) hx hb dX12_mustNot_46 (lv_at hl 5 rfl) ?_
      refine lv_aload_n (pc := 48) hx hb dX12_mustNot_48 rfl (lv_at hl 0 rfl) ?_
      refine rg_4 (pc := 49) C0 hu_12 hW mR_7 dX12_mustNot_49 ?_
      refine lv_iload_n (pc := 52) hx hb dX12_mustNot_52 rfl (lv_at hl 1 rfl) ?_
      obtain ⟨i1, hf⟩ := zn hf
      refine rl_4 (pc := 53) C0 hW i1 dX12_mustNot_53 ?_
      refine lv_icmp_ge (pc := 54) (tgt := 139) hx hb dX12_mustNot_54 (by decide) (fun c2 => ?_) (fun c2 => ?_)
      · have hf := zt c2 hf
        refine lv_iinc (pc := 139) (v := (v5 + 1)) (lv' := [(5, .int (v5 + 1)), (0, .ref (h 0)), (2, .int v2), (3, .int v3), (4, .int v4), (6, .int v6)]) hx hb dX12_mustNot_139 hl (k := 4) rfl (by rfl) (by decide) rfl (fun ls hl => ?_)
        refine lv_goto (pc := 142) (tgt := 34) hx hb dX12_mustNot_142 (by decide) ?_
        exact hK34 v2 v3 v4 (v5 + 1) S H locs hW ls (lv_sub hl [1, 2, 3, 4, 0] rfl) hf
      · have hf := zf c2 hf
        refine lv_aload_n (pc := 57) hx hb dX12_mustNot_57 rfl (lv_at hl 0 rfl) ?_
        refine lv_iload_n (pc := 58) hx hb dX12_mustNot_58 rfl (lv_at hl 1 rfl) ?_
        refine lv_iload (pc := 59) hx hb dX12_mustNot_59 (lv_at hl 5 rfl) ?_
        refine lv_iload_n (pc := 61) hx hb dX12_mustNot_61 rfl (lv_at hl 2 rfl) ?_
        obtain ⟨r3, S4, e5, hf⟩ := zB_e hf
        refine zcVi zTr_ok (As := [.int v2, .int v6, .int v3]) (pc := 62) C0 hW (kX12_depthAt l D cA h H.size v2 v6 v3 S r3 S4 e5) (cwV 3 hts (zgV gaR mR_188 mR_189 mR_190 mR_46 mR_185) rfl rfl rfl (by decide +kernel) ⟨Nat.le_of_ble_eq_true rfl, Nat.le_of_ble_eq_true rfl⟩) (va_recv hW.1 hW.2.1 (ci := 12) (q0 := 0) rfl rfl) rfl hl.1 rfl (Nat.le_of_ble_eq_true rfl) dX12_mustNot_62 (fun H locs hW => ?_)
        refine lv_istore (pc := 65) (lv' := [(7, .int r3), (0, .ref (h 0)), (2, .int v2), (3, .int v3), (4, .int v4), (5, .int v5), (6, .int v6)]) hx hb dX12_mustNot_65 hl (by decide) rfl (fun ls hl => ?_)
        refine lv_iload (pc := 67) hx hb dX12_mustNot_67 (lv_at hl 0 rfl) ?_
        refine lv_aload_n (pc := 69) hx hb dX12_mustNot_69 rfl (lv_at hl 1 rfl) ?_
        refine rg_30 (pc := 70) C0 hu_12 hW mR_24 dX12_mustNot_70 ?_
        refine lv_iload (pc := 73) hx hb dX12_mustNot_73 (lv_at hl 5 rfl) ?_
        obtain ⟨i6, hf⟩ := zn hf
        refine rl_30 (pc := 75) C0 hW i6 dX12_mustNot_75 ?_
        refine lv_icmp_ge (pc := 76) (tgt := 124) hx hb dX12_mustNot_76 (by decide) (fun c7 => ?_) (fun c7 => ?_)
        · have hf := zt c7 hf
          exact w124 K34 hK34 (fX12_mustNot_b46 N K34 n) ih v2 v3 v4 v5 v6 S4 H locs hW ls (lv_sub hl [1, 2, 3, 4, 5, 6] rfl) hf
        · have hf := zf c7 hf
          refine lv_aload_n (pc := 79) hx hb dX12_mustNot_79 rfl (lv_at hl 1 rfl) ?_
          refine lv_iload (pc := 80) hx hb dX12_mustNot_80 (lv_at hl 5 rfl) ?_
          refine lv_iload (pc := 82) hx hb dX12_mustNot_82 (lv_at hl 0 rfl) ?_
          refine lv_aload_n (pc := 84) hx hb dX12_mustNot_84 rfl (lv_at hl 1 rfl) ?_
          refine rg_6 (pc := 85) C0 hu_12 hW mR_9 dX12_mustNot_85 ?_
          refine lv_bipush (pc := 88) (v := 36) hx hb dX12_mustNot_88 (by decide) ?_
          refine lv_iload_n (pc := 90) hx hb dX12_mustNot_90 rfl (lv_at hl 2 rfl) ?_
          refine lv_imul (pc := 91) hx hb dX12_mustNot_91 ?_
          refine lv_iconst (pc := 92) (v := 3) hx hb dX12_mustNot_92 (by decide) ?_
          refine lv_iload (pc := 93) hx hb dX12_mustNot_93 (lv_at hl 6 rfl) ?_
          refine lv_imul (pc := 95) hx hb dX12_mustNot_95 ?_
          refine lv_iadd (pc := 96) hx hb dX12_mustNot_96 ?_
          refine lv_iconst (pc := 97) (v := 2) hx hb dX12_mustNot_97 (by decide) ?_
          refine lv_iadd (pc := 98) hx hb dX12_mustNot_98 ?_
          obtain ⟨i8, hf⟩ := zn hf
          refine rl_6 (pc := 99) C0 hW i8 dX12_mustNot_99 ?_
          obtain ⟨r9, S10, e11, hf⟩ := zB_e hf
          refine zcVi zTr_ok (As := [.int v5, .int r3, .int (S4.2.1 6 (Int32.toNatClampNeg (((36 * v2) + (3 * v6)) + 2)))]) (pc := 100) C0 hW (kX12_plainHold l D cA h H.size v5 r3 (S4.2.1 6 (Int32.toNatClampNeg (((36 * v2) + (3 * v6)) + 2))) S4 r9 S10 e11) (cwV 3 hts (zgV gaR mR_216 mR_217 mR_218 mR_46 mR_211) rfl rfl rfl (by decide +kernel) ⟨Nat.le_of_ble_eq_true rfl, Nat.le_of_ble_eq_true rfl⟩) (va_recv hW.1 hW.2.1 (ci := 12) (q0 := 0) rfl rfl) rfl hl.1 rfl (Nat.le_of_ble_eq_true rfl) dX12_mustNot_100 (fun H locs hW => ?_)
          refine lv_aload_n (pc := 103) hx hb dX12_mustNot_103 rfl (lv_at hl 1 rfl) ?_
          refine lv_iload (pc := 104) hx hb dX12_mustNot_104 (lv_at hl 5 rfl) ?_
          refine lv_iload (pc := 106) hx hb dX12_mustNot_106 (lv_at hl 0 rfl) ?_
          refine lv_aload_n (pc := 108) hx hb dX12_mustNot_108 rfl (lv_at hl 1 rfl) ?_
          refine lv_iload_n (pc := 109) hx hb dX12_mustNot_109 rfl (lv_at hl 2 rfl) ?_
          refine lv_iload (pc := 110) hx hb dX12_mustNot_110 (lv_at hl 6 rfl) ?_
          refine lv_iload_n (pc := 112) hx hb dX12_mustNot_112 rfl (lv_at hl 3 rfl) ?_
          obtain ⟨r12, S13, e14, hf⟩ := zB_e hf
          refine zcVi zTr_ok (As := [.int v2, .int v6, .int v3]) (pc := 113) C0 hW (kX12_paceAt l D cA h H.size v2 v6 v3 S10 r12 S13 e14) (cwV 3 hts (zgV gaR mR_191 mR_192 mR_193 mR_46 mR_186) rfl rfl rfl (by decide +kernel) ⟨Nat.le_of_ble_eq_true rfl, Nat.le_of_ble_eq_true rfl⟩) (va_recv hW.1 hW.2.1 (ci := 12) (q0 := 0) rfl rfl) rfl hl.1 rfl (Nat.le_of_ble_eq_true rfl) dX12_mustNot_113 (fun H locs hW => ?_)
          refine lv_bipush (pc := 116) (v := 40) hx hb dX12_mustNot_116 (by decide) ?_
          obtain ⟨r15, S16, e17, hf⟩ := zB_e hf
          refine zcVi zTr_ok (As := [.int v5, .int r3, .int r12, .int 40]) (pc := 118) C0 hW (kX12_pushOf l D cA h H.size v5 r3 r12 40 S13 r15 S16 e17) (cwV 4 hts (zgV gaR mR_226 mR_227 mR_228 mR_46 mR_219) rfl rfl rfl (by decide +kernel) ⟨Nat.le_of_ble_eq_true rfl, Nat.le_of_ble_eq_true rfl⟩) (va_recv hW.1 hW.2.1 (ci := 12) (q0 := 0) rfl rfl) rfl hl.1 rfl (Nat.le_of_ble_eq_true rfl) dX12_mustNot_118 (fun H locs hW => ?_)
          refine lv_icmp_ge (pc := 121) (tgt := 133) hx hb dX12_mustNot_121 (by decide) (fun c18 => ?_) (fun c18 => ?_)
          · have hf := zt c18 hf
            refine lv_iinc (pc := 133) (v := (v6 + 1)) (lv' := [(6, .int (v6 + 1)), (7, .int r3), (0, .ref (h 0)), (2, .int v2), (3, .int v3), (4, .int v4), (5, .int v5)]) hx hb dX12_mustNot_133 hl (k := 6) rfl (by rfl) (by decide) rfl (fun ls hl => ?_)
            refine lv_goto (pc := 136) (tgt := 46) hx hb dX12_mustNot_136 (by decide) ?_
            exact ih v2 v3 v4 v5 (v6 + 1) S16 H locs hW ls (lv_sub hl [2, 3, 4, 5, 6, 0] rfl) hf
          · have hf := zf c18 hf
            exact w124 K34 hK34 (fX12_mustNot_b46 N K34 n) ih v2 v3 v4 v5 v6 S16 H locs hW ls (lv_sub hl [1, 2, 3, 4, 5, 6] rfl) hf
  have w34 : ∀ (n : Nat), ∀ (v2 : Int32) (v3 : Int32) (v4 : Int32) (v5 : Int32) (S : zSt) (H : Heap) (locs : List Loc), zW zTr D (tR cA) (wR cA h S) (aW (hsR h) s.heap.size) s H locs → ∀ ls : Array Slot, lv_has ls 8 [(0, .ref (h 0)), (2, .int v2), (3, .int v3), (4, .int v4), (5, .int v5)] → fX12_mustNot_b34 N n v2 v3 v4 v5 S = some (r, S1) → W p l e rmX12_mustNot s m args below meth c H locs 0 0 Q (F0 m 34 ls []) := by
    intro n
    induction n with
    | zero =>
      intro v2 v3 v4 v5 S H locs hW ls hl hf
      exact absurd hf (by intro h; cases h)
    | succ n ih =>
      intro v2 v3 v4 v5 S H locs hW ls hl hf
      rw [fX12_mustNot_b34] at hf
      refine lv_iload (pc := 34) hx hb dX12_mustNot_34 (lv_at hl 4 rfl) ?_
      refine lv_aload_n (pc := 36) hx hb dX12_mustNot_36 rfl (lv_at hl 0 rfl) ?_
      refine rg_28 (pc := 37) C0 hu_12 hW mR_195 dX12_mustNot_37 ?_
      refine lv_icmp_ge (pc := 40) (tgt := 145) hx hb dX12_mustNot_40 (by decide) (fun c19 => ?_) (fun c19 => ?_)
      · have hf := zt c19 hf
        refine lv_iload (pc := 145) hx hb dX12_mustNot_145 (lv_at hl 3 rfl) ?_
        exact zend_i (w := wR cA h) fin hf hW dX12_mustNot_147
      · have hf := zf c19 hf
        refine lv_iconst (pc := 43) (v := 0) hx hb dX12_mustNot_43 (by decide) ?_
        refine lv_istore (pc := 44) (lv' := [(6, .int 0), (0, .ref (h 0)), (2, .int v2), (3, .int v3), (4, .int v4), (5, .int v5)]) hx hb dX12_mustNot_44 hl (by decide) rfl (fun ls hl => ?_)
        exact w46 (fX12_mustNot_b34 N n) ih N v2 v3 v4 v5 0 S H locs hW ls (lv_sub hl [1, 2, 3, 4, 5, 0] rfl) hf
  unfold fX12_mustNot at hf
  refine lv_aload_n (pc := 0) hx hb dX12_mustNot_0 rfl (lv_at hl 0 rfl) ?_
  refine lv_iload_n (pc := 1) hx hb dX12_mustNot_1 rfl (lv_at hl 1 rfl) ?_
  obtain ⟨r20, S21, e22, hf⟩ := zB_e hf
  refine zcVi zTr_ok (As := [.int p1]) (pc := 2) C0 hW (kX12_isAt l D cA h H.size p1 S r20 S21 e22) (cwV 1 hts (zgV gaR mR_230 mR_231 mR_232 mR_46 mR_208) rfl rfl rfl (by decide +kernel) ⟨Nat.le_of_ble_eq_true rfl, Nat.le_of_ble_eq_true rfl⟩) (va_recv hW.1 hW.2.1 (ci := 12) (q0 := 0) rfl rfl) rfl hl.1 rfl (Nat.le_of_ble_eq_true rfl) dX12_mustNot_2 (fun H locs hW => ?_)
  refine lv_if_ne (pc := 5) (tgt := 10) hx hb dX12_mustNot_5 (by decide) (fun c23 => ?_) (fun c23 => ?_)
  · have hf := zf c23 hf
    refine lv_iload_n (pc := 10) hx hb dX12_mustNot_10 rfl (lv_at hl 1 rfl) ?_
    refine lv_bipush (pc := 11) (v := 100) hx hb dX12_mustNot_11 (by decide) ?_
    refine lv_idiv (pc := 13) hx hb dX12_mustNot_13 (by decide) ?_
    refine lv_istore_n (pc := 14) (lv' := [(2, .int (p1 / 100)), (0, .ref (h 0)), (1, .int p1)]) hx hb dX12_mustNot_14 rfl hl (by decide) rfl (fun ls hl => ?_)
    refine lv_aload_n (pc := 15) hx hb dX12_mustNot_15 rfl (lv_at hl 1 rfl) ?_
    refine lv_aload_n (pc := 16) hx hb dX12_mustNot_16 rfl (lv_at hl 1 rfl) ?_
    refine rg_25 (pc := 17) C0 hu_12 hW mR_22 dX12_mustNot_17 ?_
    refine lv_iload_n (pc := 20) hx hb dX12_mustNot_20 rfl (lv_at hl 2 rfl) ?_
    refine lv_bipush (pc := 21) (v := 100) hx hb dX12_mustNot_21 (by decide) ?_
    refine lv_irem (pc := 23) hx hb dX12_mustNot_23 (by decide) ?_
    obtain ⟨r24, S25, e26, hf⟩ := zB_e hf
    refine zcVi zTr_ok (As := [.int (S21.1 25), .int (p1 - p1 / 100 * 100)]) (pc := 24) C0 hW (kX12_riseBy l D cA h H.size N (S21.1 25) (p1 - p1 / 100 * 100) S21 r24 S25 e26) (cwV 2 hts (zgV gaR mR_182 mR_183 mR_184 mR_46 mR_172) rfl rfl rfl (by decide +kernel) ⟨Nat.le_of_ble_eq_true rfl, Nat.le_of_ble_eq_true rfl⟩) (va_recv hW.1 hW.2.1 (ci := 12) (q0 := 0) rfl rfl) rfl hl.1 rfl (Nat.le_of_ble_eq_true rfl) dX12_mustNot_24 (fun H locs hW => ?_)
    refine lv_istore_n (pc := 27) (lv' := [(3, .int r24), (2, .int (p1 / 100)), (0, .ref (h 0)), (1, .int p1)]) hx hb dX12_mustNot_27 rfl hl (by decide) rfl (fun ls hl => ?_)
    refine lv_iconst (pc := 28) (v := 0) hx hb dX12_mustNot_28 (by decide) ?_
    refine lv_istore (pc := 29) (lv' := [(4, .int 0), (3, .int r24), (2, .int (p1 / 100)), (0, .ref (h 0)), (1, .int p1)]) hx hb dX12_mustNot_29 hl (by decide) rfl (fun ls hl => ?_)
    refine lv_iconst (pc := 31) (v := 0) hx hb dX12_mustNot_31 (by decide) ?_
    refine lv_istore (pc := 32) (lv' := [(5, .int 0), (4, .int 0), (3, .int r24), (2, .int (p1 / 100)), (0, .ref (h 0)), (1, .int p1)]) hx hb dX12_mustNot_32 hl (by decide) rfl (fun ls hl => ?_)
    exact w34 N (p1 / 100) r24 0 0 S25 H locs hW ls (lv_sub hl [4, 3, 2, 1, 0] rfl) hf
  · have hf := zt c23 hf
    refine lv_iconst (pc := 8) (v := (-1)) hx hb dX12_mustNot_8 (by decide) ?_
    exact zend_i (w := wR cA h) fin hf hW dX12_mustNot_9

def fX12_hourBy (p1 : Int32) (p2 : Int32) (p3 : Int32): Option Int32 :=
  if 48 ≤ (p1 + ((p2 * p3) / 60)) then (some 47) else (some (p1 + ((p2 * p3) / 60)))
abbrev wX12_hourBy : List Cond := Cond.code yX12_hourBy cX12_hourBy 4 (some .int) :: waR
abbrev rmX12_hourBy : Room := { frames := 0, cells := 0, slots := 0, locals := 0 }
set_option maxHeartbeats 4000000 in
set_option maxRecDepth 100000 in
theorem kX12_hourBy (l : Launch) (sz : Nat) (p1 : Int32) (p2 : Int32) (p3 : Int32) (r : Int32) (hf : fX12_hourBy p1 p2 p3 = some r) : zMs l yX12_hourBy wX12_hourBy rmX12_hourBy [.int p1, .int p2, .int p3] sz r := by
  refine zEs_i (cc := cX12_hourBy) (maxL := 4) (own := RX12) (by decide) rfl rfl (Nat.le_of_ble_eq_true rfl) ?_
  intro p e s m args below meth c Q H locs C0 hW fin ls hl
  have hl : lv_has ls 4 [(0, .int p1), (1, .int p2), (2, .int p3)] := hl
  have hx := C0.1
  have hb := C0.2.1
  have hown := C0.2.2.2.1
  have hts := C0.2.2.2.2
  unfold fX12_hourBy at hf
  refine lv_iload_n (pc := 0) hx hb dX12_hourBy_0 rfl (lv_at hl 0 rfl) ?_
  refine lv_iload_n (pc := 1) hx hb dX12_hourBy_1 rfl (lv_at hl 1 rfl) ?_
  refine lv_iload_n (pc := 2) hx hb dX12_hourBy_2 rfl (lv_at hl 2 rfl) ?_
  refine lv_imul (pc := 3) hx hb dX12_hourBy_3 ?_
  refine lv_bipush (pc := 4) (v := 60) hx hb dX12_hourBy_4 (by decide) ?_
  refine lv_idiv (pc := 6) hx hb dX12_hourBy_6 (by decide) ?_
  refine lv_iadd (pc := 7) hx hb dX12_hourBy_7 ?_
  refine lv_istore_n (pc := 8) (lv' := [(3, .int (p1 + ((p2 * p3) / 60))), (0, .int p1), (1, .int p2), (2, .int p3)]) hx hb dX12_hourBy_8 rfl hl (by decide) rfl (fun ls hl => ?_)
  refine lv_iload_n (pc := 9) hx hb dX12_hourBy_9 rfl (lv_at hl 0 rfl) ?_
  refine lv_bipush (pc := 10) (v := 48) hx hb dX12_hourBy_10 (by decide) ?_
  refine lv_icmp_ge (pc := 12) (tgt := 19) hx hb dX12_hourBy_12 (by decide) (fun c1 => ?_) (fun c1 => ?_)
  · have hf := zt c1 hf
    refine lv_bipush (pc := 19) (v := 47) hx hb dX12_hourBy_19 (by decide) ?_
    exact zens_i fin hf hW dX12_hourBy_21
  · have hf := zf c1 hf
    refine lv_iload_n (pc := 15) hx hb dX12_hourBy_15 rfl (lv_at hl 0 rfl) ?_
    refine lv_goto (pc := 16) (tgt := 21) hx hb dX12_hourBy_16 (by decide) ?_
    exact zens_i fin hf hW dX12_hourBy_21

def fX12_midst_b127 (N : Nat) : Nat → Int32 → Int32 → Int32 → Int32 → Int32 → Int32 → zSt → Option (Int32 × zSt)
  | 0, _, _, _, _, _, _, _ => none
  | n + 1, v1, v2, v3, v5, v6, v7, S =>
    if v7 < 0 then (some (1, S)) else (zU (fX12_hourBy (v1 - v1 / 100 * 100) (((2 * v6) - 1) - v7) v3) fun r2 => zB (fX12_riseBy N (S.1 25) r2 S) fun r5 S6 => zB (fX12_allStand N v5 v7 r5 (v2 - v2 / 10 * 10) S6) fun r8 S9 => if r8 = 0 then (some (0, S9)) else (fX12_midst_b127 N n v1 v2 v3 v5 v6 (v7 + (-1)) S9))
def fX12_midst_b98 (N : Nat) (v1 : Int32) (v2 : Int32) (v3 : Int32) (v4 : Int32) (v5 : Int32) (v6 : Int32) (S : zSt) : Option (Int32 × zSt) :=
  if v4 = 0 then (some (v6, S)) else (if zin v5 7 then if v6 = (S.2.1 4 (Int32.toNatClampNeg v5)) then (some ((-2), S)) else (fX12_midst_b127 N N v1 v2 v3 v5 v6 (v6 - 1) S) else none)
def fX12_midst_b47 (N : Nat) : Nat → Int32 → Int32 → Int32 → Int32 → Int32 → Int32 → zSt → Option (Int32 × zSt)
  | 0, _, _, _, _, _, _, _ => none
  | n + 1, v1, v2, v3, v4, v5, v6, S =>
    if zin v5 7 then if (S.2.1 4 (Int32.toNatClampNeg v5)) ≤ v6 then (fX12_midst_b98 N v1 v2 v3 v4 v5 v6 S) else (zU (fX12_hourBy (v1 - v1 / 100 * 100) v6 v3) fun r17 => zB (fX12_riseBy N (S.1 25) r17 S) fun r20 S21 => zB (fX12_allStand N v5 v6 r20 (v2 - v2 / 10 * 10) S21) fun r23 S24 => if r23 = 0 then (fX12_midst_b98 N v1 v2 v3 v4 v5 v6 S24) else (fX12_midst_b47 N n v1 v2 v3 v4 v5 (v6 + 1) S24)) else none
def fX12_midst (N : Nat) (p1 : Int32) (p2 : Int32) (p3 : Int32) (p4 : Int32) (S : zSt) : Option (Int32 × zSt) :=
  zB (fX12_isAt p1 S) fun r27 S28 => if r27 = 0 then (some ((-1), S28)) else (zB (fX12_areSo N p2 S28) fun r31 S32 => if r31 = 0 then (some ((-1), S32)) else (zU (fX12_in p3 1 60) fun r35 => if r35 = 0 then (some ((-1), S32)) else (zU (fX12_in p4 0 1) fun r39 => if r39 = 0 then (some ((-1), S32)) else (fX12_midst_b47 N N p1 p2 p3 p4 (p1 / 100) 0 S32))))
abbrev wX12_midst : List Cond := Cond.code yX12_midst cX12_midst 8 (some .int) :: waR
abbrev rmX12_midst : Room := { frames := 5, cells := 0, slots := 0, locals := 123 }
set_option maxHeartbeats 4000000 in
set_option maxRecDepth 100000 in
theorem kX12_midst (l : Launch) (D : va_G) (cA : Nat → ClassId) (h : Nat → Nat) (sz : Nat) (N : Nat)  (p1 : Int32) (p2 : Int32) (p3 : Int32) (p4 : Int32) (S : zSt) (r : Int32) (S1 : zSt) (hf : fX12_midst N p1 p2 p3 p4 S = some (r, S1)) : zMi l yX12_midst wX12_midst rmX12_midst zTr D (tR cA) (hsR h) [.ref (h 0), .int p1, .int p2, .int p3, .int p4] (wR cA h S) (wR cA h S1) sz r := by
  refine zEn_i (cc := cX12_midst) (maxL := 8) (own := RX12) (by decide) rfl rfl (hmR cA h S) (Nat.le_of_ble_eq_true rfl) ?_
  intro p e s m args below meth c Q H locs C0 hW fin ls hl
  have hl : lv_has ls 8 [(0, .ref (h 0)), (1, .int p1), (2, .int p2), (3, .int p3), (4, .int p4)] := hl
  have hx := C0.1
  have hb := C0.2.1
  have hown := C0.2.2.2.1
  have hts := C0.2.2.2.2
  have w127 : ∀ (n : Nat), ∀ (v1 : Int32) (v2 : Int32) (v3 : Int32) (v5 : Int32) (v6 : Int32) (v7 : Int32) (S : zSt) (H : Heap) (locs : List Loc), zW zTr D (tR cA) (wR cA h S) (aW (hsR h) s.heap.size) s H locs → ∀ ls : Array Slot, lv_has ls 8 [(0, .ref (h 0)), (1, .int v1), (2, .int v2), (3, .int v3), (5, .int v5), (6, .int v6), (7, .int v7)] → fX12_midst_b127 N n v1 v2 v3 v5 v6 v7 S = some (r, S1) → W p l e rmX12_midst s m args below meth c H locs 0 0 Q (F0 m 127 ls []) := by
    intro n
    induction n with
    | zero =>
      intro v1 v2 v3 v5 v6 v7 S H locs hW ls hl hf
      exact absurd hf (by intro h; cases h)
    | succ n ih =>
      intro v1 v2 v3 v5 v6 v7 S H locs hW ls hl hf
      rw [fX12_midst_b127] at hf
      refine lv_iload (pc := 127) hx hb dX12_midst_127 (lv_at hl 6 rfl) ?_
      refine lv_if_lt (pc := 129) (tgt := 180) hx hb dX12_midst_129 (by decide) (fun c1 => ?_) (fun c1 => ?_)
      · have hf := zt c1 hf
        refine lv_iconst (pc := 180) (v := 1) hx hb dX12_midst_180 (by decide) ?_
        exact zend_i (w := wR cA h) fin hf hW dX12_midst_181
      · have hf := zf c1 hf
        refine lv_aload_n (pc := 132) hx hb dX12_midst_132 rfl (lv_at hl 0 rfl) ?_
        refine lv_iload (pc := 133) hx hb dX12_midst_133 (lv_at hl 4 rfl) ?_
        refine lv_iload (pc := 135) hx hb dX12_midst_135 (lv_at hl 6 rfl) ?_
        refine lv_aload_n (pc := 137) hx hb dX12_midst_137 rfl (lv_at hl 0 rfl) ?_
        refine lv_aload_n (pc := 138) hx hb dX12_midst_138 rfl (lv_at hl 0 rfl) ?_
        refine rg_25 (pc := 139) C0 hu_12 hW mR_22 dX12_midst_139 ?_
        refine lv_iload_n (pc := 142) hx hb dX12_midst_142 rfl (lv_at hl 1 rfl) ?_
        refine lv_bipush (pc := 143) (v := 100) hx hb dX12_midst_143 (by decide) ?_
        refine lv_irem (pc := 145) hx hb dX12_midst_145 (by decide) ?_
        refine lv_iconst (pc := 146) (v := 2) hx hb dX12_midst_146 (by decide) ?_
        refine lv_iload (pc := 147) hx hb dX12_midst_147 (lv_at hl 5 rfl) ?_
        refine lv_imul (pc := 149) hx hb dX12_midst_149 ?_
        refine lv_iconst (pc := 150) (v := 1) hx hb dX12_midst_150 (by decide) ?_
        refine lv_isub (pc := 151) hx hb dX12_midst_151 ?_
        refine lv_iload (pc := 152) hx hb dX12_midst_152 (lv_at hl 6 rfl) ?_
        refine lv_isub (pc := 154) hx hb dX12_midst_154 ?_
        refine lv_iload_n (pc := 155) hx hb dX12_midst_155 rfl (lv_at hl 3 rfl) ?_
        obtain ⟨r2, e4, hf⟩ := zU_e hf
        refine zcSi (As := [.int (v1 - v1 / 100 * 100), .int (((2 * v6) - 1) - v7), .int v3]) (pc := 156) C0 hW (kX12_hourBy l H.size (v1 - v1 / 100 * 100) (((2 * v6) - 1) - v7) v3 r2 e4) (va_cwS 3 hts (zgS gaR mR_267 mR_268 mR_46 mR_265) rfl rfl rfl (by decide +kernel) ⟨Nat.le_of_ble_eq_true rfl, Nat.le_of_ble_eq_true rfl⟩) rfl hl.1 rfl (Nat.le_of_ble_eq_true rfl) dX12_midst_156 (fun H locs hW => ?_)
        obtain ⟨r5, S6, e7, hf⟩ := zB_e hf
        refine zcVi zTr_ok (As := [.int (S.1 25), .int r2]) (pc := 159) C0 hW (kX12_riseBy l D cA h H.size N (S.1 25) r2 S r5 S6 e7) (cwV 2 hts (zgV gaR mR_182 mR_183 mR_184 mR_46 mR_172) rfl rfl rfl (by decide +kernel) ⟨Nat.le_of_ble_eq_true rfl, Nat.le_of_ble_eq_true rfl⟩) (va_recv hW.1 hW.2.1 (ci := 12) (q0 := 0) rfl rfl) rfl hl.1 rfl (Nat.le_of_ble_eq_true rfl) dX12_midst_159 (fun H locs hW => ?_)
        refine lv_iload_n (pc := 162) hx hb dX12_midst_162 rfl (lv_at hl 2 rfl) ?_
        refine lv_bipush (pc := 163) (v := 10) hx hb dX12_midst_163 (by decide) ?_
        refine lv_irem (pc := 165) hx hb dX12_midst_165 (by decide) ?_
        obtain ⟨r8, S9, e10, hf⟩ := zB_e hf
        refine zcVi zTr_ok (As := [.int v5, .int v7, .int r5, .int (v2 - v2 / 10 * 10)]) (pc := 166) C0 hW (kX12_allStand l D cA h H.size N v5 v7 r5 (v2 - v2 / 10 * 10) S6 r8 S9 e10) (cwV 4 hts (zgV gaR mR_241 mR_242 mR_243 mR_46 mR_239) rfl rfl rfl (by decide +kernel) ⟨Nat.le_of_ble_eq_true rfl, Nat.le_of_ble_eq_true rfl⟩) (va_recv hW.1 hW.2.1 (ci := 12) (q0 := 0) rfl rfl) rfl hl.1 rfl (Nat.le_of_ble_eq_true rfl) dX12_midst_166 (fun H locs hW => ?_)
        refine lv_if_ne (pc := 169) (tgt := 174) hx hb dX12_midst_169 (by decide) (fun c11 => ?_) (fun c11 => ?_)
        · have hf := zf c11 hf
          refine lv_iinc (pc := 174) (v := (v7 + (-1))) (lv' := [(7, .int (v7 + (-1))), (0, .ref (h 0)), (1, .int v1), (2, .int v2), (3, .int v3), (5, .int v5), (6, .int v6)]) hx hb dX12_midst_174 hl (k := 6) rfl (by rfl) (by decide) rfl (fun ls hl => ?_)
          refine lv_goto (pc := 177) (tgt := 127) hx hb dX12_midst_177 (by decide) ?_
          exact ih v1 v2 v3 v5 v6 (v7 + (-1)) S9 H locs hW ls (lv_sub hl [1, 2, 3, 4, 5, 6, 0] rfl) hf
        · have hf := zt c11 hf
          refine lv_iconst (pc := 172) (v := 0) hx hb dX12_midst_172 (by decide) ?_
          exact zend_i (w := wR cA h) fin hf hW dX12_midst_173
  have w98 : ∀ (v1 : Int32) (v2 : Int32) (v3 : Int32) (v4 : Int32) (v5 : Int32) (v6 : Int32) (S : zSt) (H : Heap) (locs : List Loc), zW zTr D (tR cA) (wR cA h S) (aW (hsR h) s.heap.size) s H locs → ∀ ls : Array Slot, lv_has ls 8 [(0, .ref (h 0)), (1, .int v1), (2, .int v2), (3, .int v3), (4, .int v4), (5, .int v5), (6, .int v6)] → fX12_midst_b98 N v1 v2 v3 v4 v5 v6 S = some (r, S1) → W p l e rmX12_midst s m args below meth c H locs 0 0 Q (F0 m 98 ls []) := by
    intro v1 v2 v3 v4 v5 v6 S H locs hW ls hl hf
    unfold fX12_midst_b98 at hf
    refine lv_iload (pc := 98) hx hb dX12_midst_98 (lv_at hl 4 rfl) ?_
    refine lv_if_ne (pc := 100) (tgt := 106) hx hb dX12_midst_100 (by decide) (fun c12 => ?_) (fun c12 => ?_)
    · have hf := zf c12 hf
      refine lv_iload (pc := 106) hx hb dX12_midst_106 (lv_at hl 6 rfl) ?_
      refine lv_aload_n (pc := 108) hx hb dX12_midst_108 rfl (lv_at hl 0 rfl) ?_
      refine rg_4 (pc := 109) C0 hu_12 hW mR_7 dX12_midst_109 ?_
      refine lv_iload (pc := 112) hx hb dX12_midst_112 (lv_at hl 5 rfl) ?_
      obtain ⟨i13, hf⟩ := zn hf
      refine rl_4 (pc := 114) C0 hW i13 dX12_midst_114 ?_
      refine lv_icmp_ne (pc := 115) (tgt := 121) hx hb dX12_midst_115 (by decide) (fun c14 => ?_) (fun c14 => ?_)
      · have hf := zf c14 hf
        refine lv_iload (pc := 121) hx hb dX12_midst_121 (lv_at hl 6 rfl) ?_
        refine lv_iconst (pc := 123) (v := 1) hx hb dX12_midst_123 (by decide) ?_
        refine lv_isub (pc := 124) hx hb dX12_midst_124 ?_
        refine lv_istore (pc := 125) (lv' := [(7, .int (v6 - 1)), (0, .ref (h 0)), (1, .int v1), (2, .int v2), (3, .int v3), (4, .int v4), (5, .int v5), (6, .int v6)]) hx hb dX12_midst_125 hl (by decide) rfl (fun ls hl => ?_)
        exact w127 N v1 v2 v3 v5 v6 (v6 - 1) S H locs hW ls (lv_sub hl [1, 2, 3, 4, 6, 7, 0] rfl) hf
      · have hf := zt c14 hf
        refine lv_bipush (pc := 118) (v := (-2)) hx hb dX12_midst_118 (by decide) ?_
        exact zend_i (w := wR cA h) fin hf hW dX12_midst_120
    · have hf := zt c12 hf
      refine lv_iload (pc := 103) hx hb dX12_midst_103 (lv_at hl 6 rfl) ?_
      exact zend_i (w := wR cA h) fin hf hW dX12_midst_105
  have w47 : ∀ (n : Nat), ∀ (v1 : Int32) (v2 : Int32) (v3 : Int32) (v4 : Int32) (v5 : Int32) (v6 : Int32) (S : zSt) (H : Heap) (locs : List Loc), zW zTr D (tR cA) (wR cA h S) (aW (hsR h) s.heap.size) s H locs → ∀ ls : Array Slot, lv_has ls 8 [(0, .ref (h 0)), (1, .int v1), (2, .int v2), (3, .int v3), (4, .int v4), (5, .int v5), (6, .int v6)] → fX12_midst_b47 N n v1 v2 v3 v4 v5 v6 S = some (r, S1) → W p l e rmX12_midst s m args below meth c H locs 0 0 Q (F0 m 47 ls []) := by
    intro n
    induction n with
    | zero =>
      intro v1 v2 v3 v4 v5 v6 S H locs hW ls hl hf
      exact absurd hf (by intro h; cases h)
    | succ n ih =>
      intro v1 v2 v3 v4 v5 v6 S H locs hW ls hl hf
      rw [fX12_midst_b47] at hf
      refine lv_iload (pc := 47) hx hb dX12_midst_47 (lv_at hl 6 rfl) ?_
      refine lv_aload_n (pc := 49) hx hb dX12_midst_49 rfl (lv_at hl 0 rfl) ?_
      refine rg_4 (pc := 50) C0 hu_12 hW mR_7 dX12_midst_50 ?_
      refine lv_iload (pc := 53) hx hb dX12_midst_53 (lv_at hl 5 rfl) ?_
      obtain ⟨i15, hf⟩ := zn hf
      refine rl_4 (pc := 55) C0 hW i15 dX12_midst_55 ?_
      refine lv_icmp_ge (pc := 56) (tgt := 98) hx hb dX12_midst_56 (by decide) (fun c16 => ?_) (fun c16 => ?_)
      · have hf := zt c16 hf
        exact w98 v1 v2 v3 v4 v5 v6 S H locs hW ls (lv_sub hl [0, 1, 2, 3, 4, 5, 6] rfl) hf
      · have hf := zf c16 hf
        refine lv_aload_n (pc := 59) hx hb dX12_midst_59 rfl (lv_at hl 0 rfl) ?_
        refine lv_iload (pc := 60) hx hb dX12_midst_60 (lv_at hl 5 rfl) ?_
        refine lv_iload (pc := 62) hx hb dX12_midst_62 (lv_at hl 6 rfl) ?_
        refine lv_aload_n (pc := 64) hx hb dX12_midst_64 rfl (lv_at hl 0 rfl) ?_
        refine lv_aload_n (pc := 65) hx hb dX12_midst_65 rfl (lv_at hl 0 rfl) ?_
        refine rg_25 (pc := 66) C0 hu_12 hW mR_22 dX12_midst_66 ?_
        refine lv_iload_n (pc := 69) hx hb dX12_midst_69 rfl (lv_at hl 1 rfl) ?_
        refine lv_bipush (pc := 70) (v := 100) hx hb dX12_midst_70 (by decide) ?_
        refine lv_irem (pc := 72) hx hb dX12_midst_72 (by decide) ?_
        refine lv_iload (pc := 73) hx hb dX12_midst_73 (lv_at hl 6 rfl) ?_
        refine lv_iload_n (pc := 75) hx hb dX12_midst_75 rfl (lv_at hl 3 rfl) ?_
        obtain ⟨r17, e19, hf⟩ := zU_e hf
        refine zcSi (As := [.int (v1 - v1 / 100 * 100), .int v6, .int v3]) (pc := 76) C0 hW (kX12_hourBy l H.size (v1 - v1 / 100 * 100) v6 v3 r17 e19) (va_cwS 3 hts (zgS gaR mR_267 mR_268 mR_46 mR_265) rfl rfl rfl (by decide +kernel) ⟨Nat.le_of_ble_eq_true rfl, Nat.le_of_ble_eq_true rfl⟩) rfl hl.1 rfl (Nat.le_of_ble_eq_true rfl) dX12_midst_76 (fun H locs hW => ?_)
        obtain ⟨r20, S21, e22, hf⟩ := zB_e hf
        refine zcVi zTr_ok (As := [.int (S.1 25), .int r17]) (pc := 79) C0 hW (kX12_riseBy l D cA h H.size N (S.1 25) r17 S r20 S21 e22) (cwV 2 hts (zgV gaR mR_182 mR_183 mR_184 mR_46 mR_172) rfl rfl rfl (by decide +kernel) ⟨Nat.le_of_ble_eq_true rfl, Nat.le_of_ble_eq_true rfl⟩) (va_recv hW.1 hW.2.1 (ci := 12) (q0 := 0) rfl rfl) rfl hl.1 rfl (Nat.le_of_ble_eq_true rfl) dX12_midst_79 (fun H locs hW => ?_)
        refine lv_iload_n (pc := 82) hx hb dX12_midst_82 rfl (lv_at hl 2 rfl) ?_
        refine lv_bipush (pc := 83) (v := 10) hx hb dX12_midst_83 (by decide) ?_
        refine lv_irem (pc := 85) hx hb dX12_midst_85 (by decide) ?_
        obtain ⟨r23, S24, e25, hf⟩ := zB_e hf
        refine zcVi zTr_ok (As := [.int v5, .int v6, .int r20, .int (v2 - v2 / 10 * 10)]) (pc := 86) C0 hW (kX12_allStand l D cA h H.size N v5 v6 r20 (v2 - v2 / 10 * 10) S21 r23 S24 e25) (cwV 4 hts (zgV gaR mR_241 mR_242 mR_243 mR_46 mR_239) rfl rfl rfl (by decide +kernel) ⟨Nat.le_of_ble_eq_true rfl, Nat.le_of_ble_eq_true rfl⟩) (va_recv hW.1 hW.2.1 (ci := 12) (q0 := 0) rfl rfl) rfl hl.1 rfl (Nat.le_of_ble_eq_true rfl) dX12_midst_86 (fun H locs hW => ?_)
        refine lv_if_eq (pc := 89) (tgt := 98) hx hb dX12_midst_89 (by decide) (fun c26 => ?_) (fun c26 => ?_)
        · have hf := zt c26 hf
          exact w98 v1 v2 v3 v4 v5 v6 S24 H locs hW ls (lv_sub hl [0, 1, 2, 3, 4, 5, 6] rfl) hf
        · have hf := zf c26 hf
          refine lv_iinc (pc := 92) (v := (v6 + 1)) (lv' := [(6, .int (v6 + 1)), (0, .ref (h 0)), (1, .int v1), (2, .int v2), (3, .int v3), (4, .int v4), (5, .int v5)]) hx hb dX12_midst_92 hl (k := 6) rfl (by rfl) (by decide) rfl (fun ls hl => ?_)
          refine lv_goto (pc := 95) (tgt := 47) hx hb dX12_midst_95 (by decide) ?_
          exact ih v1 v2 v3 v4 v5 (v6 + 1) S24 H locs hW ls (lv_sub hl [1, 2, 3, 4, 5, 6, 0] rfl) hf
  unfold fX12_midst at hf
  refine lv_aload_n (pc := 0) hx hb dX12_midst_0 rfl (lv_at hl 0 rfl) ?_
  refine lv_iload_n (pc := 1) hx hb dX12_midst_1 rfl (lv_at hl 1 rfl) ?_
  obtain ⟨r27, S28, e29, hf⟩ := zB_e hf
  refine zcVi zTr_ok (As := [.int p1]) (pc := 2) C0 hW (kX12_isAt l D cA h H.size p1 S r27 S28 e29) (cwV 1 hts (zgV gaR mR_230 mR_231 mR_232 mR_46 mR_208) rfl rfl rfl (by decide +kernel) ⟨Nat.le_of_ble_eq_true rfl, Nat.le_of_ble_eq_true rfl⟩) (va_recv hW.1 hW.2.1 (ci := 12) (q0 := 0) rfl rfl) rfl hl.1 rfl (Nat.le_of_ble_eq_true rfl) dX12_midst_2 (fun H locs hW => ?_)
  refine lv_if_eq (pc := 5) (tgt := 36) hx hb dX12_midst_5 (by decide) (fun c30 => ?_) (fun c30 => ?_)
  · have hf := zt c30 hf
    refine lv_iconst (pc := 36) (v := (-1)) hx hb dX12_midst_36 (by decide) ?_
    exact zend_i (w := wR cA h) fin hf hW dX12_midst_37
  · have hf := zf c30 hf
    refine lv_aload_n (pc := 8) hx hb dX12_midst_8 rfl (lv_at hl 0 rfl) ?_
    refine lv_iload_n (pc := 9) hx hb dX12_midst_9 rfl (lv_at hl 2 rfl) ?_
    obtain ⟨r31, S32, e33, hf⟩ := zB_e hf
    refine zcVi zTr_ok (As := [.int p2]) (pc := 10) C0 hW (kX12_areSo l D cA h H.size N p2 S28 r31 S32 e33) (cwV 1 hts (zgV gaR mR_233 mR_234 mR_235 mR_46 mR_204) rfl rfl rfl (by decide +kernel) ⟨Nat.le_of_ble_eq_true rfl, Nat.le_of_ble_eq_true rfl⟩) (va_recv hW.1 hW.2.1 (ci := 12) (q0 := 0) rfl rfl) rfl hl.1 rfl (Nat.le_of_ble_eq_true rfl) dX12_midst_10 (fun H locs hW => ?_)
    refine lv_if_eq (pc := 13) (tgt := 36) hx hb dX12_midst_13 (by decide) (fun c34 => ?_) (fun c34 => ?_)
    · have hf := zt c34 hf
      refine lv_iconst (pc := 36) (v := (-1)) hx hb dX12_midst_36 (by decide) ?_
      exact zend_i (w := wR cA h) fin hf hW dX12_midst_37
    · have hf := zf c34 hf
      refine lv_iload_n (pc := 16) hx hb dX12_midst_16 rfl (lv_at hl 3 rfl) ?_
      refine lv_iconst (pc := 17) (v := 1) hx hb dX12_midst_17 (by decide) ?_
      refine lv_bipush (pc := 18) (v := 60) hx hb dX12_midst_18 (by decide) ?_
      obtain ⟨r35, e37, hf⟩ := zU_e hf
      refine zcSi (As := [.int p3, .int 1, .int 60]) (pc := 20) C0 hW (kX12_in l H.size p3 1 60 r35 e37) (va_cwS 3 hts (zgS gaR mR_44 mR_45 mR_46 mR_39) rfl rfl rfl (by decide +kernel) ⟨Nat.le_of_ble_eq_true rfl, Nat.le_of_ble_eq_true rfl⟩) rfl hl.1 rfl (Nat.le_of_ble_eq_true rfl) dX12_midst_20 (fun H locs hW => ?_)
      refine lv_if_eq (pc := 23) (tgt := 36) hx hb dX12_midst_23 (by decide) (fun c38 => ?_) (fun c38 => ?_)
      · have hf := zt c38 hf
        refine lv_iconst (pc := 36) (v := (-1)) hx hb dX12_midst_36 (by decide) ?_
        exact zend_i (w := wR cA h) fin hf hW dX12_midst_37
      · have hf := zf c38 hf
        refine lv_iload (pc := 26) hx hb dX12_midst_26 (lv_at hl 4 rfl) ?_
        refine lv_iconst (pc := 28) (v := 0) hx hb dX12_midst_28 (by decide) ?_
        refine lv_iconst (pc := 29) (v := 1) hx hb dX12_midst_29 (by decide) ?_
        obtain ⟨r39, e41, hf⟩ := zU_e hf
        refine zcSi (As := [.int p4, .int 0, .int 1]) (pc := 30) C0 hW (kX12_in l H.size p4 0 1 r39 e41) (va_cwS 3 hts (zgS gaR mR_44 mR_45 mR_46 mR_39) rfl rfl rfl (by decide +kernel) ⟨Nat.le_of_ble_eq_true rfl, Nat.le_of_ble_eq_true rfl⟩) rfl hl.1 rfl (Nat.le_of_ble_eq_true rfl) dX12_midst_30 (fun H locs hW => ?_)
        refine lv_if_ne (pc := 33) (tgt := 38) hx hb dX12_midst_33 (by decide) (fun c42 => ?_) (fun c42 => ?_)
        · have hf := zf c42 hf
          refine lv_iload_n (pc := 38) hx hb dX12_midst_38 rfl (lv_at hl 1 rfl) ?_
          refine lv_bipush (pc := 39) (v := 100) hx hb dX12_midst_39 (by decide) ?_
          refine lv_idiv (pc := 41) hx hb dX12_midst_41 (by decide) ?_
          refine lv_istore (pc := 42) (lv' := [(5, .int (p1 / 100)), (0, .ref (h 0)), (1, .int p1), (2, .int p2), (3, .int p3), (4, .int p4)]) hx hb dX12_midst_42 hl (by decide) rfl (fun ls hl => ?_)
          refine lv_iconst (pc := 44) (v := 0) hx hb dX12_midst_44 (by decide) ?_
          refine lv_istore (pc := 45) (lv' := [(6, .int 0), (5, .int (p1 / 100)), (0, .ref (h 0)), (1, .int p1), (2, .int p2), (3, .int p3), (4, .int p4)]) hx hb dX12_midst_45 hl (by decide) rfl (fun ls hl => ?_)
          exact w47 N p1 p2 p3 p4 (p1 / 100) 0 S32 H locs hW ls (lv_sub hl [2, 3, 4, 5, 6, 1, 0] rfl) hf
        · have hf := zt c42 hf
          refine lv_iconst (pc := 36) (v := (-1)) hx hb dX12_midst_36 (by decide) ?_
          exact zend_i (w := wR cA h) fin hf hW dX12_midst_37

def fX12_lineOf_b3 (N : Nat) : Nat → Int32 → Int32 → Int32 → zSt → Option (Int32 × zSt)
  | 0, _, _, _, _ => none
  | n + 1, v1, v2, v3, S =>
    if v3 < (-20) then (some ((-100), S)) else (zB (fX12_isOver N v1 v3 v2 S) fun r2 S3 => if r2 = 0 then (fX12_lineOf_b3 N n v1 v2 (v3 + (-1)) S3) else (some (v3, S3)))
def fX12_lineOf (N : Nat) (p1 : Int32) (p2 : Int32) (S : zSt) : Option (Int32 × zSt) :=
  fX12_lineOf_b3 N N p1 p2 60 S
abbrev wX12_lineOf : List Cond := Cond.code yX12_lineOf cX12_lineOf 4 (some .int) :: waR
abbrev rmX12_lineOf : Room := { frames := 6, cells := 0, slots := 0, locals := 147 }
set_option maxHeartbeats 4000000 in
set_option maxRecDepth 100000 in
theorem kX12_lineOf (l : Launch) (D : va_G) (cA : Nat → ClassId) (h : Nat → Nat) (sz : Nat) (N : Nat)  (p1 : Int32) (p2 : Int32) (S : zSt) (r : Int32) (S1 : zSt) (hf : fX12_lineOf N p1 p2 S = some (r, S1)) : zMi l yX12_lineOf wX12_lineOf rmX12_lineOf zTr D (tR cA) (hsR h) [.ref (h 0), .int p1, .int p2] (wR cA h S) (wR cA h S1) sz r := by
  refine zEn_i (cc := cX12_lineOf) (maxL := 4) (own := RX12) (by decide) rfl rfl (hmR cA h S) (Nat.le_of_ble_eq_true rfl) ?_
  intro p e s m args below meth c Q H locs C0 hW fin ls hl
  have hl : lv_has ls 4 [(0, .ref (h 0)), (1, .int p1), (2, .int p2)] := hl
  have hx := C0.1
  have hb := C0.2.1
  have hown := C0.2.2.2.1
  have hts := C0.2.2.2.2
  have w3 : ∀ (n : Nat), ∀ (v1 : Int32) (v2 : Int32) (v3 : Int32) (S : zSt) (H : Heap) (locs : List Loc), zW zTr D (tR cA) (wR cA h S) (aW (hsR h) s.heap.size) s H locs → ∀ ls : Array Slot, lv_has ls 4 [(0, .ref (h 0)), (1, .int v1), (2, .int v2), (3, .int v3)] → fX12_lineOf_b3 N n v1 v2 v3 S = some (r, S1) → W p l e rmX12_lineOf s m args below meth c H locs 0 0 Q (F0 m 3 ls []) := by
    intro n
    induction n with
    | zero =>
      intro v1 v2 v3 S H locs hW ls hl hf
      exact absurd hf (by intro h; cases h)
    | succ n ih =>
      intro v1 v2 v3 S H locs hW ls hl hf
      rw [fX12_lineOf_b3] at hf
      refine lv_iload_n (pc := 3) hx hb dX12_lineOf_3 rfl (lv_at hl 3 rfl) ?_
      refine lv_bipush (pc := 4) (v := (-20)) hx hb dX12_lineOf_4 (by decide) ?_
      refine lv_icmp_lt (pc := 6) (tgt := 27) hx hb dX12_lineOf_6 (by decide) (fun c1 => ?_) (fun c1 => ?_)
      · have hf := zt c1 hf
        refine lv_bipush (pc := 27) (v := (-100)) hx hb dX12_lineOf_27 (by decide) ?_
        exact zend_i (w := wR cA h) fin hf hW dX12_lineOf_29
      · have hf := zf c1 hf
        refine lv_aload_n (pc := 9) hx hb dX12_lineOf_9 rfl (lv_at hl 0 rfl) ?_
        refine lv_iload_n (pc := 10) hx hb dX12_lineOf_10 rfl (lv_at hl 1 rfl) ?_
        refine lv_iload_n (pc := 11) hx hb dX12_lineOf_11 rfl (lv_at hl 3 rfl) ?_
        refine lv_iload_n (pc := 12) hx hb dX12_lineOf_12 rfl (lv_at hl 2 rfl) ?_
        obtain ⟨r2, S3, e4, hf⟩ := zB_e hf
        refine zcVi zTr_ok (As := [.int v1, .int v3, .int v2]) (pc := 13) C0 hW (kX12_isOver l D cA h H.size N v1 v3 v2 S r2 S3 e4) (cwV 3 hts (zgV gaR mR_246 mR_247 mR_248 mR_46 mR_240) rfl rfl rfl (by decide +kernel) ⟨Nat.le_of_ble_eq_true rfl, Nat.le_of_ble_eq_true rfl⟩) (va_recv hW.1 hW.2.1 (ci := 12) (q0 := 0) rfl rfl) rfl hl.1 rfl (Nat.le_of_ble_eq_true rfl) dX12_lineOf_13 (fun H locs hW => ?_)
        refine lv_if_eq (pc := 16) (tgt := 21) hx hb dX12_lineOf_16 (by decide) (fun c5 => ?_) (fun c5 => ?_)
        · have hf := zt c5 hf
          refine lv_iinc (pc := 21) (v := (v3 + (-1))) (lv' := [(3, .int (v3 + (-1))), (0, .ref (h 0)), (1, .int v1), (2, .int v2)]) hx hb dX12_lineOf_21 hl (k := 3) rfl (by rfl) (by decide) rfl (fun ls hl => ?_)
          refine lv_goto (pc := 24) (tgt := 3) hx hb dX12_lineOf_24 (by decide) ?_
          exact ih v1 v2 (v3 + (-1)) S3 H locs hW ls (lv_sub hl [1, 2, 3, 0] rfl) hf
        · have hf := zf c5 hf
          refine lv_iload_n (pc := 19) hx hb dX12_lineOf_19 rfl (lv_at hl 3 rfl) ?_
          exact zend_i (w := wR cA h) fin hf hW dX12_lineOf_20
  unfold fX12_lineOf at hf
  refine lv_bipush (pc := 0) (v := 60) hx hb dX12_lineOf_0 (by decide) ?_
  refine lv_istore_n (pc := 2) (lv' := [(3, .int 60), (0, .ref (h 0)), (1, .int p1), (2, .int p2)]) hx hb dX12_lineOf_2 rfl hl (by decide) rfl (fun ls hl => ?_)
  exact w3 N p1 p2 60 S H locs hW ls (lv_sub hl [1, 2, 3, 0] rfl) hf

def fX12_line (N : Nat) (p1 : Int32) (p2 : Int32) (S : zSt) : Option (Int32 × zSt) :=
  zB (fX12_isPlace p1 S) fun r1 S2 => if r1 = 0 then (some ((-2000000000), S2)) else (zB (fX12_areSo N p2 S2) fun r5 S6 => if r5 = 0 then (some ((-2000000000), S6)) else (zB (fX12_lineOf N p1 (p2 - p2 / 10 * 10) S6) fun r9 S10 => some (r9, S10)))
abbrev wX12_line : List Cond := Cond.code yX12_line cX12_line 3 (some .int) :: waR
abbrev rmX12_line : Room := { frames := 7, cells := 0, slots := 0, locals := 170 }
set_option maxHeartbeats 4000000 in
set_option maxRecDepth 100000 in
theorem kX12_line (l : Launch) (D : va_G) (cA : Nat → ClassId) (h : Nat → Nat) (sz : Nat) (N : Nat)  (p1 : Int32) (p2 : Int32) (S : zSt) (r : Int32) (S1 : zSt) (hf : fX12_line N p1 p2 S = some (r, S1)) : zMi l yX12_line wX12_line rmX12_line zTr D (tR cA) (hsR h) [.ref (h 0), .int p1, .int p2] (wR cA h S) (wR cA h S1) sz r := by
  refine zEn_i (cc := cX12_line) (maxL := 3) (own := RX12) (by decide) rfl rfl (hmR cA h S) (Nat.le_of_ble_eq_true rfl) ?_
  intro p e s m args below meth c Q H locs C0 hW fin ls hl
  have hl : lv_has ls 3 [(0, .ref (h 0)), (1, .int p1), (2, .int p2)] := hl
  have hx := C0.1
  have hb := C0.2.1
  have hown := C0.2.2.2.1
  have hts := C0.2.2.2.2
  unfold fX12_line at hf
  refine lv_aload_n (pc := 0) hx hb dX12_line_0 rfl (lv_at hl 0 rfl) ?_
  refine lv_iload_n (pc := 1) hx hb dX12_line_1 rfl (lv_at hl 1 rfl) ?_
  obtain ⟨r1, S2, e3, hf⟩ := zB_e hf
  refine zcVi zTr_ok (As := [.int p1]) (pc := 2) C0 hW (kX12_isPlace l D cA h H.size p1 S r1 S2 e3) (cwV 1 hts (zgV gaR mR_50 mR_51 mR_52 mR_46 mR_47) rfl rfl rfl (by decide +kernel) ⟨Nat.le_of_ble_eq_true rfl, Nat.le_of_ble_eq_true rfl⟩) (va_recv hW.1 hW.2.1 (ci := 12) (q0 := 0) rfl rfl) rfl hl.1 rfl (Nat.le_of_ble_eq_true rfl) dX12_line_2 (fun H locs hW => ?_)
  refine lv_if_eq (pc := 5) (tgt := 28) hx hb dX12_line_5 (by decide) (fun c4 => ?_) (fun c4 => ?_)
  · have hf := zt c4 hf
    refine lv_ldc (pc := 28) (v := (-2000000000)) hx hb hown (hts _ mR_179) dX12_line_28 ?_
    exact zend_i (w := wR cA h) fin hf hW dX12_line_30
  · have hf := zf c4 hf
    refine lv_aload_n (pc := 8) hx hb dX12_line_8 rfl (lv_at hl 0 rfl) ?_
    refine lv_iload_n (pc := 9) hx hb dX12_line_9 rfl (lv_at hl 2 rfl) ?_
    obtain ⟨r5, S6, e7, hf⟩ := zB_e hf
    refine zcVi zTr_ok (As := [.int p2]) (pc := 10) C0 hW (kX12_areSo l D cA h H.size N p2 S2 r5 S6 e7) (cwV 1 hts (zgV gaR mR_233 mR_234 mR_235 mR_46 mR_204) rfl rfl rfl (by decide +kernel) ⟨Nat.le_of_ble_eq_true rfl, Nat.le_of_ble_eq_true rfl⟩) (va_recv hW.1 hW.2.1 (ci := 12) (q0 := 0) rfl rfl) rfl hl.1 rfl (Nat.le_of_ble_eq_true rfl) dX12_line_10 (fun H locs hW => ?_)
    refine lv_if_eq (pc := 13) (tgt := 28) hx hb dX12_line_13 (by decide) (fun c8 => ?_) (fun c8 => ?_)
    · have hf := zt c8 hf
      refine lv_ldc (pc := 28) (v := (-2000000000)) hx hb hown (hts _ mR_179) dX12_line_28 ?_
      exact zend_i (w := wR cA h) fin hf hW dX12_line_30
    · have hf := zf c8 hf
      refine lv_aload_n (pc := 16) hx hb dX12_line_16 rfl (lv_at hl 0 rfl) ?_
      refine lv_iload_n (pc := 17) hx hb dX12_line_17 rfl (lv_at hl 1 rfl) ?_
      refine lv_iload_n (pc := 18) hx hb dX12_line_18 rfl (lv_at hl 2 rfl) ?_
      refine lv_bipush (pc := 19) (v := 10) hx hb dX12_line_19 (by decide) ?_
      refine lv_irem (pc := 21) hx hb dX12_line_21 (by decide) ?_
      obtain ⟨r9, S10, e11, hf⟩ := zB_e hf
      refine zcVi zTr_ok (As := [.int p1, .int (p2 - p2 / 10 * 10)]) (pc := 22) C0 hW (kX12_lineOf l D cA h H.size N p1 (p2 - p2 / 10 * 10) S6 r9 S10 e11) (cwV 2 hts (zgV gaR mR_271 mR_272 mR_273 mR_46 mR_269) rfl rfl rfl (by decide +kernel) ⟨Nat.le_of_ble_eq_true rfl, Nat.le_of_ble_eq_true rfl⟩) (va_recv hW.1 hW.2.1 (ci := 12) (q0 := 0) rfl rfl) rfl hl.1 rfl (Nat.le_of_ble_eq_true rfl) dX12_line_22 (fun H locs hW => ?_)
      refine lv_goto (pc := 25) (tgt := 30) hx hb dX12_line_25 (by decide) ?_
      exact zend_i (w := wR cA h) fin hf hW dX12_line_30

def fX12_wall_b42 (N : Nat) (K30 : Int32 → Int32 → Int32 → Int32 → zSt → Option (Int32 × zSt)) : Nat → Int32 → Int32 → Int32 → Int32 → Int32 → zSt → Option (Int32 × zSt)
  | 0, _, _, _, _, _, _ => none
  | n + 1, v2, v3, v4, v5, v6, S =>
    if 4 ≤ v6 then (K30 v2 v3 v4 (v5 + 1) S) else (zB (fX12_lineOf N v5 v6 S) fun r2 S3 => if v4 < r2 then (fX12_wall_b42 N K30 n v2 ((10 * v5) + v6) r2 v5 (v6 + 1) S3) else (fX12_wall_b42 N K30 n v2 v3 v4 v5 (v6 + 1) S3))
def fX12_wall_b30 (N : Nat) : Nat → Int32 → Int32 → Int32 → Int32 → zSt → Option (Int32 × zSt)
  | 0, _, _, _, _, _ => none
  | n + 1, v2, v3, v4, v5, S =>
    if (S.1 3) ≤ v5 then (if v2 = 0 then (some (v3, S)) else (some (v4, S))) else (fX12_wall_b42 N (fX12_wall_b30 N n) N v2 v3 v4 v5 0 S)
def fX12_wall (N : Nat) (p1 : Int32) (p2 : Int32) (S : zSt) : Option (Int32 × zSt) :=
  zB (fX12_isGroup N p1 S) fun r8 S9 => if r8 = 0 then (some ((-2000000000), S9)) else (zU (fX12_in p2 0 1) fun r12 => if r12 = 0 then (some ((-2000000000), S9)) else (fX12_wall_b30 N N p2 (-2) (-100) 0 S9))
abbrev wX12_wall : List Cond := Cond.code yX12_wall cX12_wall 8 (some .int) :: waR
abbrev rmX12_wall : Room := { frames := 7, cells := 0, slots := 0, locals := 170 }
set_option maxHeartbeats 4000000 in
set_option maxRecDepth 100000 in
theorem kX12_wall (l : Launch) (D : va_G) (cA : Nat → ClassId) (h : Nat → Nat) (sz : Nat) (N : Nat)  (p1 : Int32) (p2 : Int32) (S : zSt) (r : Int32) (S1 : zSt) (hf : fX12_wall N p1 p2 S = some (r, S1)) : zMi l yX12_wall wX12_wall rmX12_wall zTr D (tR cA) (hsR h) [.ref (h 0), .int p1, .int p2] (wR cA h S) (wR cA h S1) sz r := by
  refine zEn_i (cc := cX12_wall) (maxL := 8) (own := RX12) (by decide) rfl rfl (hmR cA h S) (Nat.le_of_ble_eq_true rfl) ?_
  intro p e s m args below meth c Q H locs C0 hW fin ls hl
  have hl : lv_has ls 8 [(0, .ref (h 0)), (1, .int p1), (2, .int p2)] := hl
  have hx := C0.1
  have hb := C0.2.1
  have hown := C0.2.2.2.1
  have hts := C0.2.2.2.2
  have w42 : ∀ (K30 : Int32 → Int32 → Int32 → Int32 → zSt → Option (Int32 × zSt)) (hK30 : ∀ (v2 : Int32) (v3 : Int32) (v4 : Int32) (v5 : Int32) (S : zSt) (H : Heap) (locs : List Loc), zW zTr D (tR cA) (wR cA h S) (aW (hsR h) s.heap.size) s H locs → ∀ ls : Array Slot, lv_has ls 8 [(0, .ref (h 0)), (2, .int v2), (3, .int v3), (4, .int v4), (5, .int v5)] → K30 v2 v3 v4 v5 S = some (r, S1) → W p l e rmX12_wall s m args below meth c H locs 0 0 Q (F0 m 30 ls [])) (n : Nat), ∀ (v2 : Int32) (v3 : Int32) (v4 : Int32) (v5 : Int32) (v6 : Int32) (S : zSt) (H : Heap) (locs : List Loc), zW zTr D (tR cA) (wR cA h S) (aW (hsR h) s.heap.size) s H locs → ∀ ls : Array Slot, lv_has ls 8 [(0, .ref (h 0)), (2, .int v2), (3, .int v3), (4, .int v4), (5, .int v5), (6, .int v6)] → fX12_wall_b42 N K30 n v2 v3 v4 v5 v6 S = some (r, S1) → W p l e rmX12_wall s m args below meth c H locs 0 0 Q (F0 m 42 ls []) := by
    intro K30 hK30 n
    induction n with
    | zero =>
      intro v2 v3 v4 v5 v6 S H locs hW ls hl hf
      exact absurd hf (by intro h; cases h)
    | succ n ih =>
      intro v2 v3 v4 v5 v6 S H locs hW ls hl hf
      rw [fX12_wall_b42] at hf
      refine lv_iload (pc := 42) hx hb dX12_wall_42 (lv_at hl 5 rfl) ?_
      refine lv_iconst (pc := 44) (v := 4) hx hb dX12_wall_44 (by decide) ?_
      refine lv_icmp_ge (pc := 45) (tgt := 87) hx hb dX12_wall_45 (by decide) (fun c1 => ?_) (fun c1 => ?_)
      · have hf := zt c1 hf
        refine lv_iinc (pc := 87) (v := (v5 + 1)) (lv' := [(5, .int (v5 + 1)), (0, .ref (h 0)), (2, .int v2), (3, .int v3), (4, .int v4), (6, .int v6)]) hx hb dX12_wall_87 hl (k := 4) rfl (by rfl) (by decide) rfl (fun ls hl => ?_)
        refine lv_goto (pc := 90) (tgt := 30) hx hb dX12_wall_90 (by decide) ?_
        exact hK30 v2 v3 v4 (v5 + 1) S H locs hW ls (lv_sub hl [1, 2, 3, 4, 0] rfl) hf
      · have hf := zf c1 hf
        refine lv_aload_n (pc := 48) hx hb dX12_wall_48 rfl (lv_at hl 0 rfl) ?_
        refine lv_iload (pc := 49) hx hb dX12_wall_49 (lv_at hl 4 rfl) ?_
        refine lv_iload (pc := 51) hx hb dX12_wall_51 (lv_at hl 5 rfl) ?_
        obtain ⟨r2, S3, e4, hf⟩ := zB_e hf
        refine zcVi zTr_ok (As := [.int v5, .int v6]) (pc := 53) C0 hW (kX12_lineOf l D cA h H.size N v5 v6 S r2 S3 e4) (cwV 2 hts (zgV gaR mR_271 mR_272 mR_273 mR_46 mR_269) rfl rfl rfl (by decide +kernel) ⟨Nat.le_of_ble_eq_true rfl, Nat.le_of_ble_eq_true rfl⟩) (va_recv hW.1 hW.2.1 (ci := 12) (q0 := 0) rfl rfl) rfl hl.1 rfl (Nat.le_of_ble_eq_true rfl) dX12_wall_53 (fun H locs hW => ?_)
        refine lv_istore (pc := 56) (lv' := [(7, .int r2), (0, .ref (h 0)), (2, .int v2), (3, .int v3), (4, .int v4), (5, .int v5), (6, .int v6)]) hx hb dX12_wall_56 hl (by decide) rfl (fun ls hl => ?_)
        refine lv_iload (pc := 58) hx hb dX12_wall_58 (lv_at hl 0 rfl) ?_
        refine lv_iload (pc := 60) hx hb dX12_wall_60 (lv_at hl 4 rfl) ?_
        refine lv_icmp_gt (pc := 62) (tgt := 68) hx hb dX12_wall_62 (by decide) (fun c5 => ?_) (fun c5 => ?_)
        · have hf := zt c5 hf
          refine lv_bipush (pc := 68) (v := 10) hx hb dX12_wall_68 (by decide) ?_
          refine lv_iload (pc := 70) hx hb dX12_wall_70 (lv_at hl 5 rfl) ?_
          refine lv_imul (pc := 72) hx hb dX12_wall_72 ?_
          refine lv_iload (pc := 73) hx hb dX12_wall_73 (lv_at hl 6 rfl) ?_
          refine lv_iadd (pc := 75) hx hb dX12_wall_75 ?_
          refine lv_istore_n (pc := 76) (lv' := [(3, .int ((10 * v5) + v6)), (7, .int r2), (0, .ref (h 0)), (2, .int v2), (4, .int v4), (5, .int v5), (6, .int v6)]) hx hb dX12_wall_76 rfl hl (by decide) rfl (fun ls hl => ?_)
          refine lv_iload (pc := 77) hx hb dX12_wall_77 (lv_at hl 1 rfl) ?_
          refine lv_istore (pc := 79) (lv' := [(4, .int r2), (3, .int ((10 * v5) + v6)), (7, .int r2), (0, .ref (h 0)), (2, .int v2), (5, .int v5), (6, .int v6)]) hx hb dX12_wall_79 hl (by decide) rfl (fun ls hl => ?_)
          refine lv_iinc (pc := 81) (v := (v6 + 1)) (lv' := [(6, .int (v6 + 1)), (4, .int r2), (3, .int ((10 * v5) + v6)), (7, .int r2), (0, .ref (h 0)), (2, .int v2), (5, .int v5)]) hx hb dX12_wall_81 hl (k := 6) rfl (by rfl) (by decide) rfl (fun ls hl => ?_)
          refine lv_goto (pc := 84) (tgt := 42) hx hb dX12_wall_84 (by decide) ?_
          exact ih v2 ((10 * v5) + v6) r2 v5 (v6 + 1) S3 H locs hW ls (lv_sub hl [4, 5, 2, 1, 6, 0] rfl) hf
        · have hf := zf c5 hf
          refine lv_goto (pc := 65) (tgt := 81) hx hb dX12_wall_65 (by decide) ?_
          refine lv_iinc (pc := 81) (v := (v6 + 1)) (lv' := [(6, .int (v6 + 1)), (7, .int r2), (0, .ref (h 0)), (2, .int v2), (3, .int v3), (4, .int v4), (5, .int v5)]) hx hb dX12_wall_81 hl (k := 6) rfl (by rfl) (by decide) rfl (fun ls hl => ?_)
          refine lv_goto (pc := 84) (tgt := 42) hx hb dX12_wall_84 (by decide) ?_
          exact ih v2 v3 v4 v5 (v6 + 1) S3 H locs hW ls (lv_sub hl [2, 3, 4, 5, 6, 0] rfl) hf
  have w30 : ∀ (n : Nat), ∀ (v2 : Int32) (v3 : Int32) (v4 : Int32) (v5 : Int32) (S : zSt) (H : Heap) (locs : List Loc), zW zTr D (tR cA) (wR cA h S) (aW (hsR h) s.heap.size) s H locs → ∀ ls : Array Slot, lv_has ls 8 [(0, .ref (h 0)), (2, .int v2), (3, .int v3), (4, .int v4), (5, .int v5)] → fX12_wall_b30 N n v2 v3 v4 v5 S = some (r, S1) → W p l e rmX12_wall s m args below meth c H locs 0 0 Q (F0 m 30 ls []) := by
    intro n
    induction n with
    | zero =>
      intro v2 v3 v4 v5 S H locs hW ls hl hf
      exact absurd hf (by intro h; cases h)
    | succ n ih =>
      intro v2 v3 v4 v5 S H locs hW ls hl hf
      rw [fX12_wall_b30] at hf
      refine lv_iload (pc := 30) hx hb dX12_wall_30 (lv_at hl 4 rfl) ?_
      refine lv_aload_n (pc := 32) hx hb dX12_wall_32 rfl (lv_at hl 0 rfl) ?_
      refine rg_3 (pc := 33) C0 hu_12 hW mR_48 dX12_wall_33 ?_
      refine lv_icmp_ge (pc := 36) (tgt := 93) hx hb dX12_wall_36 (by decide) (fun c6 => ?_) (fun c6 => ?_)
      · have hf := zt c6 hf
        refine lv_iload_n (pc := 93) hx hb dX12_wall_93 rfl (lv_at hl 1 rfl) ?_
        refine lv_if_ne (pc := 94) (tgt := 101) hx hb dX12_wall_94 (by decide) (fun c7 => ?_) (fun c7 => ?_)
        · have hf := zf c7 hf
          refine lv_iload (pc := 101) hx hb dX12_wall_101 (lv_at hl 3 rfl) ?_
          exact zend_i (w := wR cA h) fin hf hW dX12_wall_103
        · have hf := zt c7 hf
          refine lv_iload_n (pc := 97) hx hb dX12_wall_97 rfl (lv_at hl 2 rfl) ?_
          refine lv_goto (pc := 98) (tgt := 103) hx hb dX12_wall_98 (by decide) ?_
          exact zend_i (w := wR cA h) fin hf hW dX12_wall_103
      · have hf := zf c6 hf
        refine lv_iconst (pc := 39) (v := 0) hx hb dX12_wall_39 (by decide) ?_
        refine lv_istore (pc := 40) (lv' := [(6, .int 0), (0, .ref (h 0)), (2, .int v2), (3, .int v3), (4, .int v4), (5, .int v5)]) hx hb dX12_wall_40 hl (by decide) rfl (fun ls hl => ?_)
        exact w42 (fX12_wall_b30 N n) ih N v2 v3 v4 v5 0 S H locs hW ls (lv_sub hl [1, 2, 3, 4, 5, 0] rfl) hf
  unfold fX12_wall at hf
  refine lv_aload_n (pc := 0) hx hb dX12_wall_0 rfl (lv_at hl 0 rfl) ?_
  refine lv_iload_n (pc := 1) hx hb dX12_wall_1 rfl (lv_at hl 1 rfl) ?_
  obtain ⟨r8, S9, e10, hf⟩ := zB_e hf
  refine zcVi zTr_ok (As := [.int p1]) (pc := 2) C0 hW (kX12_isGroup l D cA h H.size N p1 S r8 S9 e10) (cwV 1 hts (zgV gaR mR_205 mR_206 mR_207 mR_46 mR_202) rfl rfl rfl (by decide +kernel) ⟨Nat.le_of_ble_eq_true rfl, Nat.le_of_ble_eq_true rfl⟩) (va_recv hW.1 hW.2.1 (ci := 12) (q0 := 0) rfl rfl) rfl hl.1 rfl (Nat.le_of_ble_eq_true rfl) dX12_wall_2 (fun H locs hW => ?_)
  refine lv_if_eq (pc := 5) (tgt := 17) hx hb dX12_wall_5 (by decide) (fun c11 => ?_) (fun c11 => ?_)
  · have hf := zt c11 hf
    refine lv_ldc (pc := 17) (v := (-2000000000)) hx hb hown (hts _ mR_179) dX12_wall_17 ?_
    exact zend_i (w := wR cA h) fin hf hW dX12_wall_19
  · have hf := zf c11 hf
    refine lv_iload_n (pc := 8) hx hb dX12_wall_8 rfl (lv_at hl 2 rfl) ?_
    refine lv_iconst (pc := 9) (v := 0) hx hb dX12_wall_9 (by decide) ?_
    refine lv_iconst (pc := 10) (v := 1) hx hb dX12_wall_10 (by decide) ?_
    obtain ⟨r12, e14, hf⟩ := zU_e hf
    refine zcSi (As := [.int p2, .int 0, .int 1]) (pc := 11) C0 hW (kX12_in l H.size p2 0 1 r12 e14) (va_cwS 3 hts (zgS gaR mR_44 mR_45 mR_46 mR_39) rfl rfl rfl (by decide +kernel) ⟨Nat.le_of_ble_eq_true rfl, Nat.le_of_ble_eq_true rfl⟩) rfl hl.1 rfl (Nat.le_of_ble_eq_true rfl) dX12_wall_11 (fun H locs hW => ?_)
    refine lv_if_ne (pc := 14) (tgt := 20) hx hb dX12_wall_14 (by decide) (fun c15 => ?_) (fun c15 => ?_)
    · have hf := zf c15 hf
      refine lv_bipush (pc := 20) (v := (-2)) hx hb dX12_wall_20 (by decide) ?_
      refine lv_istore_n (pc := 22) (lv' := [(3, .int (-2)), (0, .ref (h 0)), (1, .int p1), (2, .int p2)]) hx hb dX12_wall_22 rfl hl (by decide) rfl (fun ls hl => ?_)
      refine lv_bipush (pc := 23) (v := (-100)) hx hb dX12_wall_23 (by decide) ?_
      refine lv_istore (pc := 25) (lv' := [(4, .int (-100)), (3, .int (-2)), (0, .ref (h 0)), (1, .int p1), (2, .int p2)]) hx hb dX12_wall_25 hl (by decide) rfl (fun ls hl => ?_)
      refine lv_iconst (pc := 27) (v := 0) hx hb dX12_wall_27 (by decide) ?_
      refine lv_istore (pc := 28) (lv' := [(5, .int 0), (4, .int (-100)), (3, .int (-2)), (0, .ref (h 0)), (1, .int p1), (2, .int p2)]) hx hb dX12_wall_28 hl (by decide) rfl (fun ls hl => ?_)
      exact w30 N p2 (-2) (-100) 0 S9 H locs hW ls (lv_sub hl [3, 5, 2, 1, 0] rfl) hf
    · have hf := zt c15 hf
      refine lv_ldc (pc := 17) (v := (-2000000000)) hx hb hown (hts _ mR_179) dX12_wall_17 ?_
      exact zend_i (w := wR cA h) fin hf hW dX12_wall_19

def fX12_roped_b153 (N : Nat) (K109 : Int32 → Int32 → Int32 → Int32 → Int32 → Int32 → Int32 → Int32 → zSt → Option (Int32 × zSt)) (K121 : Int32 → Int32 → Int32 → Int32 → Int32 → Int32 → Int32 → Int32 → Int32 → zSt → Option (Int32 × zSt)) : Nat → Int32 → Int32 → Int32 → Int32 → Int32 → Int32 → Int32 → Int32 → Int32 → Int32 → Int32 → zSt → Option (Int32 × zSt)
  | 0, _, _, _, _, _, _, _, _, _, _, _, _ => none
  | n + 1, v2, v4, v5, v6, v7, v8, v9, v11, v12, v13, v14, S =>
    if (v12 + 1) < v14 then (zB (fX12_marginIn N v4 v5 v6 v12 (v2 - v2 / 10 * 10) S) fun r2 S3 => if v13 ≤ r2 then (K121 v2 v4 v5 v6 v7 v8 v9 v11 (v12 + 1) S3) else (K121 v2 v4 v5 v6 v7 v8 v9 (v11 ||| (1 <<< (v12 &&& 31))) (v12 + 1) S3)) else (zU (fX12_in v14 0 ((S.1 33) - 1)) fun r6 => if r6 = 0 then (fX12_roped_b153 N K109 K121 n v2 v4 v5 v6 v7 v8 v9 v11 v12 v13 (v14 + 2) S) else (if ((v9 >>> (v14 &&& 31)) &&& 1) = 1 then (if zin v14 5 then zU (fX12_lee (v2 - v2 / 10 * 10) v14) fun r12 => zB (fX12_pushOf (S.2.1 34 (Int32.toNatClampNeg v14)) v7 v8 r12 S) fun r15 S16 => fX12_roped_b153 N K109 K121 n v2 v4 v5 v6 v7 v8 v9 v11 v12 (v13 + (r15 / 2)) (v14 + 2) S16 else none) else (fX12_roped_b153 N K109 K121 n v2 v4 v5 v6 v7 v8 v9 v11 v12 v13 (v14 + 2) S)))
def fX12_roped_b121 (N : Nat) (K109 : Int32 → Int32 → Int32 → Int32 → Int32 → Int32 → Int32 → Int32 → zSt → Option (Int32 × zSt)) : Nat → Int32 → Int32 → Int32 → Int32 → Int32 → Int32 → Int32 → Int32 → Int32 → zSt → Option (Int32 × zSt)
  | 0, _, _, _, _, _, _, _, _, _, _ => none
  | n + 1, v2, v4, v5, v6, v7, v8, v9, v11, v12, S =>
    if (S.1 33) ≤ v12 then (if v11 = v9 then (K109 v2 v4 v5 v6 v7 v8 v11 0 S) else (K109 v2 v4 v5 v6 v7 v8 v11 1 S)) else (if ((v9 >>> (v12 &&& 31)) &&& 1) = 1 then (fX12_roped_b121 N K109 n v2 v4 v5 v6 v7 v8 v9 v11 (v12 + 1) S) else (fX12_roped_b153 N K109 (fX12_roped_b121 N K109 n) N v2 v4 v5 v6 v7 v8 v9 v11 v12 0 (v12 - 1) S))
def fX12_roped_b109 (N : Nat) : Nat → Int32 → Int32 → Int32 → Int32 → Int32 → Int32 → Int32 → Int32 → zSt → Option (Int32 × zSt)
  | 0, _, _, _, _, _, _, _, _, _ => none
  | n + 1, v2, v4, v5, v6, v7, v8, v9, v10, S =>
    if v10 = 0 then (some (v9, S)) else (fX12_roped_b121 N (fX12_roped_b109 N n) N v2 v4 v5 v6 v7 v8 v9 v9 0 S)
def fX12_roped (N : Nat) (p1 : Int32) (p2 : Int32) (p3 : Int32) (S : zSt) : Option (Int32 × zSt) :=
  zB (fX12_isAt p1 S) fun r22 S23 => if r22 = 0 then (some ((-1), S23)) else (zB (fX12_areSo N p2 S23) fun r26 S27 => if r26 = 0 then (some ((-1), S27)) else (if p3 < 0 then (some ((-1), S27)) else (if (S27.1 33) ≤ (p3 / 100) then (some ((-1), S27)) else (zB (fX12_isCell (p1 / 100) (p3 - p3 / 100 * 100) S27) fun r32 S33 => if r32 = 0 then (some ((-1), S33)) else (zB (fX12_riseBy N (S33.1 25) (p1 - p1 / 100 * 100) S33) fun r36 S37 => zB (fX12_depthAt (p1 / 100) (p3 - p3 / 100 * 100) r36 S37) fun r39 S40 => zB (fX12_paceAt (p1 / 100) (p3 - p3 / 100 * 100) r36 S40) fun r42 S43 => fX12_roped_b109 N N p2 (p1 / 100) (p3 - p3 / 100 * 100) r36 r39 r42 (1 <<< ((p3 / 100) &&& 31)) 1 S43)))))
abbrev wX12_roped : List Cond := Cond.code yX12_roped cX12_roped 15 (some .int) :: waR
abbrev rmX12_roped : Room := { frames := 4, cells := 0, slots := 0, locals := 98 }
set_option maxHeartbeats 4000000 in
set_option maxRecDepth 100000 in
theorem kX12_roped (l : Launch) (D : va_G) (cA : Nat → ClassId) (h : Nat → Nat) (sz : Nat) (N : Nat)  (p1 : Int32) (p2 : Int32) (p3 : Int32) (S : zSt) (r : Int32) (S1 : zSt) (hf : fX12_roped N p1 p2 p3 S = some (r, S1)) : zMi l yX12_roped wX12_roped rmX12_roped zTr D (tR cA) (hsR h) [.ref (h 0), .int p1, .int p2, .int p3] (wR cA h S) (wR cA h S1) sz r := by
  refine zEn_i (cc := cX12_roped) (maxL := 15) (own := RX12) (by decide) rfl rfl (hmR cA h S) (Nat.le_of_ble_eq_true rfl) ?_
  intro p e s m args below meth c Q H locs C0 hW fin ls hl
  have hl : lv_has ls 15 [(0, .ref (h 0)), (1, .int p1), (2, .int p2), (3, .int p3)] := hl
  have hx := C0.1
  have hb := C0.2.1
  have hown := C0.2.2.2.1
  have hts := C0.2.2.2.2
  have w153 : ∀ (K109 : Int32 → Int32 → Int32 → Int32 → Int32 → Int32 → Int32 → Int32 → zSt → Option (Int32 × zSt)) (hK109 : ∀ (v2 : Int32) (v4 : Int32) (v5 : Int32) (v6 : Int32) (v7 : Int32) (v8 : Int32) (v9 : Int32) (v10 : Int32) (S : zSt) (H : Heap) (locs : List Loc), zW zTr D (tR cA) (wR cA h S) (aW (hsR h) s.heap.size) s H locs → ∀ ls : Array Slot, lv_has ls 15 [(0, .ref (h 0)), (2, .int v2), (4, .int v4), (5, .int v5), (6, .int v6), (7, .int v7), (8, .int v8), (9, .int v9), (10, .int v10)] → K109 v2 v4 v5 v6 v7 v8 v9 v10 S = some (r, S1) → W p l e rmX12_roped s m args below meth c H locs 0 0 Q (F0 m 109 ls [])) (K121 : Int32 → Int32 → Int32 → Int32 → Int32 → Int32 → Int32 → Int32 → Int32 → zSt → Option (Int32 × zSt)) (hK121 : ∀ (v2 : Int32) (v4 : Int32) (v5 : Int32) (v6 : Int32) (v7 : Int32) (v8 : Int32) (v9 : Int32) (v11 : Int32) (v12 : Int32) (S : zSt) (H : Heap) (locs : List Loc), zW zTr D (tR cA) (wR cA h S) (aW (hsR h) s.heap.size) s H locs → ∀ ls : Array Slot, lv_has ls 15 [(0, .ref (h 0)), (2, .int v2), (4, .int v4), (5, .int v5), (6, .int v6), (7, .int v7), (8, .int v8), (9, .int v9), (11, .int v11), (12, .int v12)] → K121 v2 v4 v5 v6 v7 v8 v9 v11 v12 S = some (r, S1) → W p l e rmX12_roped s m args below meth c H locs 0 0 Q (F0 m 121 ls [])) (n : Nat), ∀ (v2 : Int32) (v4 : Int32) (v5 : Int32) (v6 : Int32) (v7 : Int32) (v8 : Int32) (v9 : Int32) (v11 : Int32) (v12 : Int32) (v13 : Int32) (v14 : Int32) (S : zSt) (H : Heap) (locs : List Loc), zW zTr D (tR cA) (wR cA h S) (aW (hsR h) s.heap.size) s H locs → ∀ ls : Array Slot, lv_has ls 15 [(0, .ref (h 0)), (2, .int v2), (4, .int v4), (5, .int v5), (6, .int v6), (7, .int v7), (8, .int v8), (9, .int v9), (11, .int v11), (12, .int v12), (13, .int v13), (14, .int v14)] → fX12_roped_b153 N K109 K121 n v2 v4 v5 v6 v7 v8 v9 v11 v12 v13 v14 S = some (r, S1) → W p l e rmX12_roped s m args below meth c H locs 0 0 Q (F0 m 153 ls []) := by
    intro K109 hK109 K121 hK121 n
    induction n with
    | zero =>
      intro v2 v4 v5 v6 v7 v8 v9 v11 v12 v13 v14 S H locs hW ls hl hf
      exact absurd hf (by intro h; cases h)
    | succ n ih =>
      intro v2 v4 v5 v6 v7 v8 v9 v11 v12 v13 v14 S H locs hW ls hl hf
      rw [fX12_roped_b153] at hf
      refine lv_iload (pc := 153) hx hb dX12_roped_153 (lv_at hl 11 rfl) ?_
      refine lv_iload (pc := 155) hx hb dX12_roped_155 (lv_at hl 9 rfl) ?_
      refine lv_iconst (pc := 157) (v := 1) hx hb dX12_roped_157 (by decide) ?_
      refine lv_iadd (pc := 158) hx hb dX12_roped_158 ?_
      refine lv_icmp_gt (pc := 159) (tgt := 225) hx hb dX12_roped_159 (by decide) (fun c1 => ?_) (fun c1 => ?_)
      · have hf := zt c1 hf
        refine lv_aload_n (pc := 225) hx hb dX12_roped_225 rfl (lv_at hl 0 rfl) ?_
        refine lv_iload (pc := 226) hx hb dX12_roped_226 (lv_at hl 2 rfl) ?_
        refine lv_iload (pc := 228) hx hb dX12_roped_228 (lv_at hl 3 rfl) ?_
        refine lv_iload (pc := 230) hx hb dX12_roped_230 (lv_at hl 4 rfl) ?_
        refine lv_iload (pc := 232) hx hb dX12_roped_232 (lv_at hl 9 rfl) ?_
        refine lv_iload_n (pc := 234) hx hb dX12_roped_234 rfl (lv_at hl 1 rfl) ?_
        refine lv_bipush (pc := 235) (v := 10) hx hb dX12_roped_235 (by decide) ?_
        refine lv_irem (pc := 237) hx hb dX12_roped_237 (by decide) ?_
        obtain ⟨r2, S3, e4, hf⟩ := zB_e hf
        refine zcVi zTr_ok (As := [.int v4, .int v5, .int v6, .int v12, .int (v2 - v2 / 10 * 10)]) (pc := 238) C0 hW (kX12_marginIn l D cA h H.size N v4 v5 v6 v12 (v2 - v2 / 10 * 10) S r2 S3 e4) (cwV 5 hts (zgV gaR mR_236 mR_237 mR_238 mR_46 mR_220) rfl rfl rfl (by decide +kernel) ⟨Nat.le_of_ble_eq_true rfl, Nat.le_of_ble_eq_true rfl⟩) (va_recv hW.1 hW.2.1 (ci := 12) (q0 := 0) rfl rfl) rfl hl.1 rfl (Nat.le_of_ble_eq_true rfl) dX12_roped_238 (fun H locs hW => ?_)
        refine lv_iload (pc := 241) hx hb dX12_roped_241 (lv_at hl 10 rfl) ?_
        refine lv_icmp_ge (pc := 243) (tgt := 255) hx hb dX12_roped_243 (by decide) (fun c5 => ?_) (fun c5 => ?_)
        · have hf := zt c5 hf
          refine lv_iinc (pc := 255) (v := (v12 + 1)) (lv' := [(12, .int (v12 + 1)), (0, .ref (h 0)), (2, .int v2), (4, .int v4), (5, .int v5), (6, .int v6), (7, .int v7), (8, .int v8), (9, .int v9), (11, .int v11), (13, .int v13), (14, .int v14)]) hx hb dX12_roped_255 hl (k := 9) rfl (by rfl) (by decide) rfl (fun ls hl => ?_)
          refine lv_goto (pc := 258) (tgt := 121) hx hb dX12_roped_258 (by decide) ?_
          exact hK121 v2 v4 v5 v6 v7 v8 v9 v11 (v12 + 1) S3 H locs hW ls (lv_sub hl [1, 2, 3, 4, 5, 6, 7, 8, 9, 0] rfl) hf
        · have hf := zf c5 hf
          refine lv_iload (pc := 246) hx hb dX12_roped_246 (lv_at hl 8 rfl) ?_
          refine lv_iconst (pc := 248) (v := 1) hx hb dX12_roped_248 (by decide) ?_
          refine lv_iload (pc := 249) hx hb dX12_roped_249 (lv_at hl 9 rfl) ?_
          refine lv_ishl (pc := 251) hx hb dX12_roped_251 ?_
          refine lv_ior (pc := 252) hx hb dX12_roped_252 ?_
          refine lv_istore (pc := 253) (lv' := [(11, .int (v11 ||| (1 <<< (v12 &&& 31)))), (0, .ref (h 0)), (2, .int v2), (4, .int v4), (5, .int v5), (6, .int v6), (7, .int v7), (8, .int v8), (9, .int v9), (12, .int v12), (13, .int v13), (14, .int v14)]) hx hb dX12_roped_253 hl (by decide) rfl (fun ls hl => ?_)
          refine lv_iinc (pc := 255) (v := (v12 + 1)) (lv' := [(12, .int (v12 + 1)), (11, .int (v11 ||| (1 <<< (v12 &&& 31)))), (0, .ref (h 0)), (2, .int v2), (4, .int v4), (5, .int v5), (6, .int v6), (7, .int v7), (8, .int v8), (9, .int v9), (13, .int v13), (14, .int v14)]) hx hb dX12_roped_255 hl (k := 9) rfl (by rfl) (by decide) rfl (fun ls hl => ?_)
          refine lv_goto (pc := 258) (tgt := 121) hx hb dX12_roped_258 (by decide) ?_
          exact hK121 v2 v4 v5 v6 v7 v8 v9 (v11 ||| (1 <<< (v12 &&& 31))) (v12 + 1) S3 H locs hW ls (lv_sub hl [2, 3, 4, 5, 6, 7, 8, 9, 1, 0] rfl) hf
      · have hf := zf c1 hf
        refine lv_iload (pc := 162) hx hb dX12_roped_162 (lv_at hl 11 rfl) ?_
        refine lv_iconst (pc := 164) (v := 0) hx hb dX12_roped_164 (by decide) ?_
        refine lv_aload_n (pc := 165) hx hb dX12_roped_165 rfl (lv_at hl 0 rfl) ?_
        refine rg_33 (pc := 166) C0 hu_12 hW mR_203 dX12_roped_166 ?_
        refine lv_iconst (pc := 169) (v := 1) hx hb dX12_roped_169 (by decide) ?_
        refine lv_isub (pc := 170) hx hb dX12_roped_170 ?_
        obtain ⟨r6, e8, hf⟩ := zU_e hf
        refine zcSi (As := [.int v14, .int 0, .int ((S.1 33) - 1)]) (pc := 171) C0 hW (kX12_in l H.size v14 0 ((S.1 33) - 1) r6 e8) (va_cwS 3 hts (zgS gaR mR_44 mR_45 mR_46 mR_39) rfl rfl rfl (by decide +kernel) ⟨Nat.le_of_ble_eq_true rfl, Nat.le_of_ble_eq_true rfl⟩) rfl hl.1 rfl (Nat.le_of_ble_eq_true rfl) dX12_roped_171 (fun H locs hW => ?_)
        refine lv_if_eq (pc := 174) (tgt := 219) hx hb dX12_roped_174 (by decide) (fun c9 => ?_) (fun c9 => ?_)
        · have hf := zt c9 hf
          refine lv_iinc (pc := 219) (v := (v14 + 2)) (lv' := [(14, .int (v14 + 2)), (0, .ref (h 0)), (2, .int v2), (4, .int v4), (5, .int v5), (6, .int v6), (7, .int v7), (8, .int v8), (9, .int v9), (11, .int v11), (12, .int v12), (13, .int v13)]) hx hb dX12_roped_219 hl (k := 11) rfl (by rfl) (by decide) rfl (fun ls hl => ?_)
          refine lv_goto (pc := 222) (tgt := 153) hx hb dX12_roped_222 (by decide) ?_
          exact ih v2 v4 v5 v6 v7 v8 v9 v11 v12 v13 (v14 + 2) S H locs hW ls (lv_sub hl [1, 2, 3, 4, 5, 6, 7, 8, 9, 10, 11, 0] rfl) hf
        · have hf := zf c9 hf
          refine lv_iload (pc := 177) hx hb dX12_roped_177 (lv_at hl 7 rfl) ?_
          refine lv_iload (pc := 179) hx hb dX12_roped_179 (lv_at hl 11 rfl) ?_
          refine lv_ishr (pc := 181) hx hb dX12_roped_181 ?_
          refine lv_iconst (pc := 182) (v := 1) hx hb dX12_roped_182 (by decide) ?_
          refine lv_iand (pc := 183) hx hb dX12_roped_183 ?_
          refine lv_iconst (pc := 184) (v := 1) hx hb dX12_roped_184 (by decide) ?_
          refine lv_icmp_ne (pc := 185) (tgt := 219) hx hb dX12_roped_185 (by decide) (fun c10 => ?_) (fun c10 => ?_)
          · have hf := zf c10 hf
            refine lv_iinc (pc := 219) (v := (v14 + 2)) (lv' := [(14, .int (v14 + 2)), (0, .ref (h 0)), (2, .int v2), (4, .int v4), (5, .int v5), (6, .int v6), (7, .int v7), (8, .int v8), (9, .int v9), (11, .int v11), (12, .int v12), (13, .int v13)]) hx hb dX12_roped_219 hl (k := 11) rfl (by rfl) (by decide) rfl (fun ls hl => ?_)
            refine lv_goto (pc := 222) (tgt := 153) hx hb dX12_roped_222 (by decide) ?_
            exact ih v2 v4 v5 v6 v7 v8 v9 v11 v12 v13 (v14 + 2) S H locs hW ls (lv_sub hl [1, 2, 3, 4, 5, 6, 7, 8, 9, 10, 11, 0] rfl) hf
          · have hf := zt c10 hf
            refine lv_iload (pc := 188) hx hb dX12_roped_188 (lv_at hl 10 rfl) ?_
            refine lv_aload_n (pc := 190) hx hb dX12_roped_190 rfl (lv_at hl 0 rfl) ?_
            refine lv_aload_n (pc := 191) hx hb dX12_roped_191 rfl (lv_at hl 0 rfl) ?_
            refine rg_34 (pc := 192) C0 hu_12 hW mR_27 dX12_roped_192 ?_
            refine lv_iload (pc := 195) hx hb dX12_roped_195 (lv_at hl 11 rfl) ?_
            obtain ⟨i11, hf⟩ := zn hf
            refine rl_34 (pc := 197) C0 hW i11 dX12_roped_197 ?_
            refine lv_iload (pc := 198) hx hb dX12_roped_198 (lv_at hl 5 rfl) ?_
            refine lv_iload (pc := 200) hx hb dX12_roped_200 (lv_at hl 6 rfl) ?_
            refine lv_iload_n (pc := 202) hx hb dX12_roped_202 rfl (lv_at hl 1 rfl) ?_
            refine lv_bipush (pc := 203) (v := 10) hx hb dX12_roped_203 (by decide) ?_
            refine lv_irem (pc := 205) hx hb dX12_roped_205 (by decide) ?_
            refine lv_iload (pc := 206) hx hb dX12_roped_206 (lv_at hl 11 rfl) ?_
            obtain ⟨r12, e14, hf⟩ := zU_e hf
            refine zcSi (As := [.int (v2 - v2 / 10 * 10), .int v14]) (pc := 208) C0 hW (kX12_lee l H.size (v2 - v2 / 10 * 10) v14 r12 e14) (va_cwS 2 hts (zgS gaR mR_224 mR_225 mR_46 mR_209) rfl rfl rfl (by decide +kernel) ⟨Nat.le_of_ble_eq_true rfl, Nat.le_of_ble_eq_true rfl⟩) rfl hl.1 rfl (Nat.le_of_ble_eq_true rfl) dX12_roped_208 (fun H locs hW => ?_)
            obtain ⟨r15, S16, e17, hf⟩ := zB_e hf
            refine zcVi zTr_ok (As := [.int (S.2.1 34 (Int32.toNatClampNeg v14)), .int v7, .int v8, .int r12]) (pc := 211) C0 hW (kX12_pushOf l D cA h H.size (S.2.1 34 (Int32.toNatClampNeg v14)) v7 v8 r12 S r15 S16 e17) (cwV 4 hts (zgV gaR mR_226 mR_227 mR_228 mR_46 mR_219) rfl rfl rfl (by decide +kernel) ⟨Nat.le_of_ble_eq_true rfl, Nat.le_of_ble_eq_true rfl⟩) (va_recv hW.1 hW.2.1 (ci := 12) (q0 := 0) rfl rfl) rfl hl.1 rfl (Nat.le_of_ble_eq_true rfl) dX12_roped_211 (fun H locs hW => ?_)
            refine lv_iconst (pc := 214) (v := 2) hx hb dX12_roped_214 (by decide) ?_
            refine lv_idiv (pc := 215) hx hb dX12_roped_215 (by decide) ?_
            refine lv_iadd (pc := 216) hx hb dX12_roped_216 ?_
            refine lv_istore (pc := 217) (lv' := [(13, .int (v13 + (r15 / 2))), (0, .ref (h 0)), (2, .int v2), (4, .int v4), (5, .int v5), (6, .int v6), (7, .int v7), (8, .int v8), (9, .int v9), (11, .int v11), (12, .int v12), (14, .int v14)]) hx hb dX12_roped_217 hl (by decide) rfl (fun ls hl => ?_)
            refine lv_iinc (pc := 219) (v := (v14 + 2)) (lv' := [(14, .int (v14 + 2)), (13, .int (v13 + (r15 / 2))), (0, .ref (h 0)), (2, .int v2), (4, .int v4), (5, .int v5), (6, .int v6), (7, .int v7), (8, .int v8), (9, .int v9), (11, .int v11), (12, .int v12)]) hx hb dX12_roped_219 hl (k := 11) rfl (by rfl) (by decide) rfl (fun ls hl => ?_)
            refine lv_goto (pc := 222) (tgt := 153) hx hb dX12_roped_222 (by decide) ?_
            exact ih v2 v4 v5 v6 v7 v8 v9 v11 v12 (v13 + (r15 / 2)) (v14 + 2) S16 H locs hW ls (lv_sub hl [2, 3, 4, 5, 6, 7, 8, 9, 10, 11, 1, 0] rfl) hf
  have w121 : ∀ (K109 : Int32 → Int32 → Int32 → Int32 → Int32 → Int32 → Int32 → Int32 → zSt → Option (Int32 × zSt)) (hK109 : ∀ (v2 : Int32) (v4 : Int32) (v5 : Int32) (v6 : Int32) (v7 : Int32) (v8 : Int32) (v9 : Int32) (v10 : Int32) (S : zSt) (H : Heap) (locs : List Loc), zW zTr D (tR cA) (wR cA h S) (aW (hsR h) s.heap.size) s H locs → ∀ ls : Array Slot, lv_has ls 15 [(0, .ref (h 0)), (2, .int v2), (4, .int v4), (5, .int v5), (6, .int v6), (7, .int v7), (8, .int v8), (9, .int v9), (10, .int v10)] → K109 v2 v4 v5 v6 v7 v8 v9 v10 S = some (r, S1) → W p l e rmX12_roped s m args below meth c H locs 0 0 Q (F0 m 109 ls [])) (n : Nat), ∀ (v2 : Int32) (v4 : Int32) (v5 : Int32) (v6 : Int32) (v7 : Int32) (v8 : Int32) (v9 : Int32) (v11 : Int32) (v12 : Int32) (S : zSt) (H : Heap) (locs : List Loc), zW zTr D (tR cA) (wR cA h S) (aW (hsR h) s.heap.size) s H locs → ∀ ls : Array Slot, lv_has ls 15 [(0, .ref (h 0)), (2, .int v2), (4, .int v4), (5, .int v5), (6, .int v6), (7, .int v7), (8, .int v8), (9, .int v9), (11, .int v11), (12, .int v12)] → fX12_roped_b121 N K109 n v2 v4 v5 v6 v7 v8 v9 v11 v12 S = some (r, S1) → W p l e rmX12_roped s m args below meth c H locs 0 0 Q (F0 m 121 ls []) := by
    intro K109 hK109 n
    induction n with
    | zero =>
      intro v2 v4 v5 v6 v7 v8 v9 v11 v12 S H locs hW ls hl hf
      exact absurd hf (by intro h; cases h)
    | succ n ih =>
      intro v2 v4 v5 v6 v7 v8 v9 v11 v12 S H locs hW ls hl hf
      rw [fX12_roped_b121] at hf
      refine lv_iload (pc := 121) hx hb dX12_roped_121 (lv_at hl 9 rfl) ?_
      refine lv_aload_n (pc := 123) hx hb dX12_roped_123 rfl (lv_at hl 0 rfl) ?_
      refine rg_33 (pc := 124) C0 hu_12 hW mR_203 dX12_roped_124 ?_
      refine lv_icmp_ge (pc := 127) (tgt := 261) hx hb dX12_roped_127 (by decide) (fun c18 => ?_) (fun c18 => ?_)
      · have hf := zt c18 hf
        refine lv_iload (pc := 261) hx hb dX12_roped_261 (lv_at hl 8 rfl) ?_
        refine lv_iload (pc := 263) hx hb dX12_roped_263 (lv_at hl 7 rfl) ?_
        refine lv_icmp_eq (pc := 265) (tgt := 272) hx hb dX12_roped_265 (by decide) (fun c19 => ?_) (fun c19 => ?_)
        · have hf := zt c19 hf
          refine lv_iconst (pc := 272) (v := 0) hx hb dX12_roped_272 (by decide) ?_
          refine lv_istore (pc := 273) (lv' := [(10, .int 0), (0, .ref (h 0)), (2, .int v2), (4, .int v4), (5, .int v5), (6, .int v6), (7, .int v7), (8, .int v8), (9, .int v9), (11, .int v11), (12, .int v12)]) hx hb dX12_roped_273 hl (by decide) rfl (fun ls hl => ?_)
          refine lv_iload (pc := 275) hx hb dX12_roped_275 (lv_at hl 9 rfl) ?_
          refine lv_istore (pc := 277) (lv' := [(9, .int v11), (10, .int 0), (0, .ref (h 0)), (2, .int v2), (4, .int v4), (5, .int v5), (6, .int v6), (7, .int v7), (8, .int v8), (11, .int v11), (12, .int v12)]) hx hb dX12_roped_277 hl (by decide) rfl (fun ls hl => ?_)
          refine lv_goto (pc := 279) (tgt := 109) hx hb dX12_roped_279 (by decide) ?_
          exact hK109 v2 v4 v5 v6 v7 v8 v11 0 S H locs hW ls (lv_sub hl [2, 3, 4, 5, 6, 7, 8, 0, 1] rfl) hf
        · have hf := zf c19 hf
          refine lv_iconst (pc := 268) (v := 1) hx hb dX12_roped_268 (by decide) ?_
          refine lv_goto (pc := 269) (tgt := 273) hx hb dX12_roped_269 (by decide) ?_
          refine lv_istore (pc := 273) (lv' := [(10, .int 1), (0, .ref (h 0)), (2, .int v2), (4, .int v4), (5, .int v5), (6, .int v6), (7, .int v7), (8, .int v8), (9, .int v9), (11, .int v11), (12, .int v12)]) hx hb dX12_roped_273 hl (by decide) rfl (fun ls hl => ?_)
          refine lv_iload (pc := 275) hx hb dX12_roped_275 (lv_at hl 9 rfl) ?_
          refine lv_istore (pc := 277) (lv' := [(9, .int v11), (10, .int 1), (0, .ref (h 0)), (2, .int v2), (4, .int v4), (5, .int v5), (6, .int v6), (7, .int v7), (8, .int v8), (11, .int v11), (12, .int v12)]) hx hb dX12_roped_277 hl (by decide) rfl (fun ls hl => ?_)
          refine lv_goto (pc := 279) (tgt := 109) hx hb dX12_roped_279 (by decide) ?_
          exact hK109 v2 v4 v5 v6 v7 v8 v11 1 S H locs hW ls (lv_sub hl [2, 3, 4, 5, 6, 7, 8, 0, 1] rfl) hf
      · have hf := zf c18 hf
        refine lv_iload (pc := 130) hx hb dX12_roped_130 (lv_at hl 7 rfl) ?_
        refine lv_iload (pc := 132) hx hb dX12_roped_132 (lv_at hl 9 rfl) ?_
        refine lv_ishr (pc := 134) hx hb dX12_roped_134 ?_
        refine lv_iconst (pc := 135) (v := 1) hx hb dX12_roped_135 (by decide) ?_
        refine lv_iand (pc := 136) hx hb dX12_roped_136 ?_
        refine lv_iconst (pc := 137) (v := 1) hx hb dX12_roped_137 (by decide) ?_
        refine lv_icmp_ne (pc := 138) (tgt := 144) hx hb dX12_roped_138 (by decide) (fun c20 => ?_) (fun c20 => ?_)
        · have hf := zf c20 hf
          refine lv_iconst (pc := 144) (v := 0) hx hb dX12_roped_144 (by decide) ?_
          refine lv_istore (pc := 145) (lv' := [(13, .int 0), (0, .ref (h 0)), (2, .int v2), (4, .int v4), (5, .int v5), (6, .int v6), (7, .int v7), (8, .int v8), (9, .int v9), (11, .int v11), (12, .int v12)]) hx hb dX12_roped_145 hl (by decide) rfl (fun ls hl => ?_)
          refine lv_iload (pc := 147) hx hb dX12_roped_147 (lv_at hl 10 rfl) ?_
          refine lv_iconst (pc := 149) (v := 1) hx hb dX12_roped_149 (by decide) ?_
          refine lv_isub (pc := 150) hx hb dX12_roped_150 ?_
          refine lv_istore (pc := 151) (lv' := [(14, .int (v12 - 1)), (13, .int 0), (0, .ref (h 0)), (2, .int v2), (4, .int v4), (5, .int v5), (6, .int v6), (7, .int v7), (8, .int v8), (9, .int v9), (11, .int v11), (12, .int v12)]) hx hb dX12_roped_151 hl (by decide) rfl (fun ls hl => ?_)
          exact w153 K109 hK109 (fX12_roped_b121 N K109 n) ih N v2 v4 v5 v6 v7 v8 v9 v11 v12 0 (v12 - 1) S H locs hW ls (lv_sub hl [2, 3, 4, 5, 6, 7, 8, 9, 10, 11, 1, 0] rfl) hf
        · have hf := zt c20 hf
          refine lv_goto (pc := 141) (tgt := 255) hx hb dX12_roped_141 (by decide) ?_
          refine lv_iinc (pc := 255) (v := (v12 + 1)) (lv' := [(12, .int (v12 + 1)), (0, .ref (h 0)), (2, .int v2), (4, .int v4), (5, .int v5), (6, .int v6), (7, .int v7), (8, .int v8), (9, .int v9), (11, .int v11)]) hx hb dX12_roped_255 hl (k := 9) rfl (by rfl) (by decide) rfl (fun ls hl => ?_)
          refine lv_goto (pc := 258) (tgt := 121) hx hb dX12_roped_258 (by decide) ?_
          exact ih v2 v4 v5 v6 v7 v8 v9 v11 (v12 + 1) S H locs hW ls (lv_sub hl [1, 2, 3, 4, 5, 6, 7, 8, 9, 0] rfl) hf
  have w109 : ∀ (n : Nat), ∀ (v2 : Int32) (v4 : Int32) (v5 : Int32) (v6 : Int32) (v7 : Int32) (v8 : Int32) (v9 : Int32) (v10 : Int32) (S : zSt) (H : Heap) (locs : List Loc), zW zTr D (tR cA) (wR cA h S) (aW (hsR h) s.heap.size) s H locs → ∀ ls : Array Slot, lv_has ls 15 [(0, .ref (h 0)), (2, .int v2), (4, .int v4), (5, .int v5), (6, .int v6), (7, .int v7), (8, .int v8), (9, .int v9), (10, .int v10)] → fX12_roped_b109 N n v2 v4 v5 v6 v7 v8 v9 v10 S = some (r, S1) → W p l e rmX12_roped s m args below meth c H locs 0 0 Q (F0 m 109 ls []) := by
    intro n
    induction n with
    | zero =>
      intro v2 v4 v5 v6 v7 v8 v9 v10 S H locs hW ls hl hf
      exact absurd hf (by intro h; cases h)
    | succ n ih =>
      intro v2 v4 v5 v6 v7 v8 v9 v10 S H locs hW ls hl hf
      rw [fX12_roped_b109] at hf
      refine lv_iload (pc := 109) hx hb dX12_roped_109 (lv_at hl 8 rfl) ?_
      refine lv_if_eq (pc := 111) (tgt := 282) hx hb dX12_roped_111 (by decide) (fun c21 => ?_) (fun c21 => ?_)
      · have hf := zt c21 hf
        refine lv_iload (pc := 282) hx hb dX12_roped_282 (lv_at hl 7 rfl) ?_
        exact zend_i (w := wR cA h) fin hf hW dX12_roped_284
      · have hf := zf c21 hf
        refine lv_iload (pc := 114) hx hb dX12_roped_114 (lv_at hl 7 rfl) ?_
        refine lv_istore (pc := 116) (lv' := [(11, .int v9), (0, .ref (h 0)), (2, .int v2), (4, .int v4), (5, .int v5), (6, .int v6), (7, .int v7), (8, .int v8), (9, .int v9), (10, .int v10)]) hx hb dX12_roped_116 hl (by decide) rfl (fun ls hl => ?_)
        refine lv_iconst (pc := 118) (v := 0) hx hb dX12_roped_118 (by decide) ?_
        refine lv_istore (pc := 119) (lv' := [(12, .int 0), (11, .int v9), (0, .ref (h 0)), (2, .int v2), (4, .int v4), (5, .int v5), (6, .int v6), (7, .int v7), (8, .int v8), (9, .int v9), (10, .int v10)]) hx hb dX12_roped_119 hl (by decide) rfl (fun ls hl => ?_)
        exact w121 (fX12_roped_b109 N n) ih N v2 v4 v5 v6 v7 v8 v9 v9 0 S H locs hW ls (lv_sub hl [2, 3, 4, 5, 6, 7, 8, 9, 1, 0] rfl) hf
  unfold fX12_roped at hf
  refine lv_aload_n (pc := 0) hx hb dX12_roped_0 rfl (lv_at hl 0 rfl) ?_
  refine lv_iload_n (pc := 1) hx hb dX12_roped_1 rfl (lv_at hl 1 rfl) ?_
  obtain ⟨r22, S23, e24, hf⟩ := zB_e hf
  refine zcVi zTr_ok (As := [.int p1]) (pc := 2) C0 hW (kX12_isAt l D cA h H.size p1 S r22 S23 e24) (cwV 1 hts (zgV gaR mR_230 mR_231 mR_232 mR_46 mR_208) rfl rfl rfl (by decide +kernel) ⟨Nat.le_of_ble_eq_true rfl, Nat.le_of_ble_eq_true rfl⟩) (va_recv hW.1 hW.2.1 (ci := 12) (q0 := 0) rfl rfl) rfl hl.1 rfl (Nat.le_of_ble_eq_true rfl) dX12_roped_2 (fun H locs hW => ?_)
  refine lv_if_eq (pc := 5) (tgt := 46) hx hb dX12_roped_5 (by decide) (fun c25 => ?_) (fun c25 => ?_)
  · have hf := zt c25 hf
    refine lv_iconst (pc := 46) (v := (-1)) hx hb dX12_roped_46 (by decide) ?_
    exact zend_i (w := wR cA h) fin hf hW dX12_roped_47
  · have hf := zf c25 hf
    refine lv_aload_n (pc := 8) hx hb dX12_roped_8 rfl (lv_at hl 0 rfl) ?_
    refine lv_iload_n (pc := 9) hx hb dX12_roped_9 rfl (lv_at hl 2 rfl) ?_
    obtain ⟨r26, S27, e28, hf⟩ := zB_e hf
    refine zcVi zTr_ok (As := [.int p2]) (pc := 10) C0 hW (kX12_areSo l D cA h H.size N p2 S23 r26 S27 e28) (cwV 1 hts (zgV gaR mR_233 mR_234 mR_235 mR_46 mR_204) rfl rfl rfl (by decide +kernel) ⟨Nat.le_of_ble_eq_true rfl, Nat.le_of_ble_eq_true rfl⟩) (va_recv hW.1 hW.2.1 (ci := 12) (q0 := 0) rfl rfl) rfl hl.1 rfl (Nat.le_of_ble_eq_true rfl) dX12_roped_10 (fun H locs hW => ?_)
    refine lv_if_eq (pc := 13) (tgt := 46) hx hb dX12_roped_13 (by decide) (fun c29 => ?_) (fun c29 => ?_)
    · have hf := zt c29 hf
      refine lv_iconst (pc := 46) (v := (-1)) hx hb dX12_roped_46 (by decide) ?_
      exact zend_i (w := wR cA h) fin hf hW dX12_roped_47
    · have hf := zf c29 hf
      refine lv_iload_n (pc := 16) hx hb dX12_roped_16 rfl (lv_at hl 3 rfl) ?_
      refine lv_if_lt (pc := 17) (tgt := 46) hx hb dX12_roped_17 (by decide) (fun c30 => ?_) (fun c30 => ?_)
      · have hf := zt c30 hf
        refine lv_iconst (pc := 46) (v := (-1)) hx hb dX12_roped_46 (by decide) ?_
        exact zend_i (w := wR cA h) fin hf hW dX12_roped_47
      · have hf := zf c30 hf
        refine lv_iload_n (pc := 20) hx hb dX12_roped_20 rfl (lv_at hl 3 rfl) ?_
        refine lv_bipush (pc := 21) (v := 100) hx hb dX12_roped_21 (by decide) ?_
        refine lv_idiv (pc := 23) hx hb dX12_roped_23 (by decide) ?_
        refine lv_aload_n (pc := 24) hx hb dX12_roped_24 rfl (lv_at hl 0 rfl) ?_
        refine rg_33 (pc := 25) C0 hu_12 hW mR_203 dX12_roped_25 ?_
        refine lv_icmp_ge (pc := 28) (tgt := 46) hx hb dX12_roped_28 (by decide) (fun c31 => ?_) (fun c31 => ?_)
        · have hf := zt c31 hf
          refine lv_iconst (pc := 46) (v := (-1)) hx hb dX12_roped_46 (by decide) ?_
          exact zend_i (w := wR cA h) fin hf hW dX12_roped_47
        · have hf := zf c31 hf
          refine lv_aload_n (pc := 31) hx hb dX12_roped_31 rfl (lv_at hl 0 rfl) ?_
          refine lv_iload_n (pc := 32) hx hb dX12_roped_32 rfl (lv_at hl 1 rfl) ?_
          refine lv_bipush (pc := 33) (v := 100) hx hb dX12_roped_33 (by decide) ?_
          refine lv_idiv (pc := 35) hx hb dX12_roped_35 (by decide) ?_
          refine lv_iload_n (pc := 36) hx hb dX12_roped_36 rfl (lv_at hl 3 rfl) ?_
          refine lv_bipush (pc := 37) (v := 100) hx hb dX12_roped_37 (by decide) ?_
          refine lv_irem (pc := 39) hx hb dX12_roped_39 (by decide) ?_
          obtain ⟨r32, S33, e34, hf⟩ := zB_e hf
          refine zcVi zTr_ok (As := [.int (p1 / 100), .int (p3 - p3 / 100 * 100)]) (pc := 40) C0 hW (kX12_isCell l D cA h H.size (p1 / 100) (p3 - p3 / 100 * 100) S27 r32 S33 e34) (cwV 2 hts (zgV gaR mR_90 mR_91 mR_92 mR_46 mR_49) rfl rfl rfl (by decide +kernel) ⟨Nat.le_of_ble_eq_true rfl, Nat.le_of_ble_eq_true rfl⟩) (va_recv hW.1 hW.2.1 (ci := 12) (q0 := 0) rfl rfl) rfl hl.1 rfl (Nat.le_of_ble_eq_true rfl) dX12_roped_40 (fun H locs hW => ?_)
          refine lv_if_ne (pc := 43) (tgt := 48) hx hb dX12_roped_43 (by decide) (fun c35 => ?_) (fun c35 => ?_)
          · have hf := zf c35 hf
            refine lv_iload_n (pc := 48) hx hb dX12_roped_48 rfl (lv_at hl 1 rfl) ?_
            refine lv_bipush (pc := 49) (v := 100) hx hb dX12_roped_49 (by decide) ?_
            refine lv_idiv (pc := 51) hx hb dX12_roped_51 (by decide) ?_
            refine lv_istore (pc := 52) (lv' := [(4, .int (p1 / 100)), (0, .ref (h 0)), (1, .int p1), (2, .int p2), (3, .int p3)]) hx hb dX12_roped_52 hl (by decide) rfl (fun ls hl => ?_)
            refine lv_iload_n (pc := 54) hx hb dX12_roped_54 rfl (lv_at hl 4 rfl) ?_
            refine lv_bipush (pc := 55) (v := 100) hx hb dX12_roped_55 (by decide) ?_
            refine lv_irem (pc := 57) hx hb dX12_roped_57 (by decide) ?_
            refine lv_istore (pc := 58) (lv' := [(5, .int (p3 - p3 / 100 * 100)), (4, .int (p1 / 100)), (0, .ref (h 0)), (1, .int p1), (2, .int p2), (3, .int p3)]) hx hb dX12_roped_58 hl (by decide) rfl (fun ls hl => ?_)
            refine lv_aload_n (pc := 60) hx hb dX12_roped_60 rfl (lv_at hl 2 rfl) ?_
            refine lv_aload_n (pc := 61) hx hb dX12_roped_61 rfl (lv_at hl 2 rfl) ?_
            refine rg_25 (pc := 62) C0 hu_12 hW mR_22 dX12_roped_62 ?_
            refine lv_iload_n (pc := 65) hx hb dX12_roped_65 rfl (lv_at hl 3 rfl) ?_
            refine lv_bipush (pc := 66) (v := 100) hx hb dX12_roped_66 (by decide) ?_
            refine lv_irem (pc := 68) hx hb dX12_roped_68 (by decide) ?_
            obtain ⟨r36, S37, e38, hf⟩ := zB_e hf
            refine zcVi zTr_ok (As := [.int (S33.1 25), .int (p1 - p1 / 100 * 100)]) (pc := 69) C0 hW (kX12_riseBy l D cA h H.size N (S33.1 25) (p1 - p1 / 100 * 100) S33 r36 S37 e38) (cwV 2 hts (zgV gaR mR_182 mR_183 mR_184 mR_46 mR_172) rfl rfl rfl (by decide +kernel) ⟨Nat.le_of_ble_eq_true rfl, Nat.le_of_ble_eq_true rfl⟩) (va_recv hW.1 hW.2.1 (ci := 12) (q0 := 0) rfl rfl) rfl hl.1 rfl (Nat.le_of_ble_eq_true rfl) dX12_roped_69 (fun H locs hW => ?_)
            refine lv_istore (pc := 72) (lv' := [(6, .int r36), (5, .int (p3 - p3 / 100 * 100)), (4, .int (p1 / 100)), (0, .ref (h 0)), (1, .int p1), (2, .int p2), (3, .int p3)]) hx hb dX12_roped_72 hl (by decide) rfl (fun ls hl => ?_)
            refine lv_aload_n (pc := 74) hx hb dX12_roped_74 rfl (lv_at hl 3 rfl) ?_
            refine lv_iload (pc := 75) hx hb dX12_roped_75 (lv_at hl 2 rfl) ?_
            refine lv_iload (pc := 77) hx hb dX12_roped_77 (lv_at hl 1 rfl) ?_
            refine lv_iload (pc := 79) hx hb dX12_roped_79 (lv_at hl 0 rfl) ?_
            obtain ⟨r39, S40, e41, hf⟩ := zB_e hf
            refine zcVi zTr_ok (As := [.int (p1 / 100), .int (p3 - p3 / 100 * 100), .int r36]) (pc := 81) C0 hW (kX12_depthAt l D cA h H.size (p1 / 100) (p3 - p3 / 100 * 100) r36 S37 r39 S40 e41) (cwV 3 hts (zgV gaR mR_188 mR_189 mR_190 mR_46 mR_185) rfl rfl rfl (by decide +kernel) ⟨Nat.le_of_ble_eq_true rfl, Nat.le_of_ble_eq_true rfl⟩) (va_recv hW.1 hW.2.1 (ci := 12) (q0 := 0) rfl rfl) rfl hl.1 rfl (Nat.le_of_ble_eq_true rfl) dX12_roped_81 (fun H locs hW => ?_)
            refine lv_istore (pc := 84) (lv' := [(7, .int r39), (6, .int r36), (5, .int (p3 - p3 / 100 * 100)), (4, .int (p1 / 100)), (0, .ref (h 0)), (1, .int p1), (2, .int p2), (3, .int p3)]) hx hb dX12_roped_84 hl (by decide) rfl (fun ls hl => ?_)
            refine lv_aload_n (pc := 86) hx hb dX12_roped_86 rfl (lv_at hl 4 rfl) ?_
            refine lv_iload (pc := 87) hx hb dX12_roped_87 (lv_at hl 3 rfl) ?_
            refine lv_iload (pc := 89) hx hb dX12_roped_89 (lv_at hl 2 rfl) ?_
            refine lv_iload (pc := 91) hx hb dX12_roped_91 (lv_at hl 1 rfl) ?_
            obtain ⟨r42, S43, e44, hf⟩ := zB_e hf
            refine zcVi zTr_ok (As := [.int (p1 / 100), .int (p3 - p3 / 100 * 100), .int r36]) (pc := 93) C0 hW (kX12_paceAt l D cA h H.size (p1 / 100) (p3 - p3 / 100 * 100) r36 S40 r42 S43 e44) (cwV 3 hts (zgV gaR mR_191 mR_192 mR_193 mR_46 mR_186) rfl rfl rfl (by decide +kernel) ⟨Nat.le_of_ble_eq_true rfl, Nat.le_of_ble_eq_true rfl⟩) (va_recv hW.1 hW.2.1 (ci := 12) (q0 := 0) rfl rfl) rfl hl.1 rfl (Nat.le_of_ble_eq_true rfl) dX12_roped_93 (fun H locs hW => ?_)
            refine lv_istore (pc := 96) (lv' := [(8, .int r42), (7, .int r39), (6, .int r36), (5, .int (p3 - p3 / 100 * 100)), (4, .int (p1 / 100)), (0, .ref (h 0)), (1, .int p1), (2, .int p2), (3, .int p3)]) hx hb dX12_roped_96 hl (by decide) rfl (fun ls hl => ?_)
            refine lv_iconst (pc := 98) (v := 1) hx hb dX12_roped_98 (by decide) ?_
            refine lv_iload_n (pc := 99) hx hb dX12_roped_99 rfl (lv_at hl 8 rfl) ?_
            refine lv_bipush (pc := 100) (v := 100) hx hb dX12_roped_100 (by decide) ?_
            refine lv_idiv (pc := 102) hx hb dX12_roped_102 (by decide) ?_
            refine lv_ishl (pc := 103) hx hb dX12_roped_103 ?_
            refine lv_istore (pc := 104) (lv' := [(9, .int (1 <<< ((p3 / 100) &&& 31))), (8, .int r42), (7, .int r39), (6, .int r36), (5, .int (p3 - p3 / 100 * 100)), (4, .int (p1 / 100)), (0, .ref (h 0)), (1, .int p1), (2, .int p2), (3, .int p3)]) hx hb dX12_roped_104 hl (by decide) rfl (fun ls hl => ?_)
            refine lv_iconst (pc := 106) (v := 1) hx hb dX12_roped_106 (by decide) ?_
            refine lv_istore (pc := 107) (lv' := [(10, .int 1), (9, .int (1 <<< ((p3 / 100) &&& 31))), (8, .int r42), (7, .int r39), (6, .int r36), (5, .int (p3 - p3 / 100 * 100)), (4, .int (p1 / 100)), (0, .ref (h 0)), (1, .int p1), (2, .int p2), (3, .int p3)]) hx hb dX12_roped_107 hl (by decide) rfl (fun ls hl => ?_)
            exact w109 N p2 (p1 / 100) (p3 - p3 / 100 * 100) r36 r39 r42 (1 <<< ((p3 / 100) &&& 31)) 1 S43 H locs hW ls (lv_sub hl [7, 9, 6, 5, 4, 3, 2, 1, 0] rfl) hf
          · have hf := zt c35 hf
            refine lv_iconst (pc := 46) (v := (-1)) hx hb dX12_roped_46 (by decide) ?_
            exact zend_i (w := wR cA h) fin hf hW dX12_roped_47

def fX12_stick_b67 (N : Nat) : Nat → Int32 → Int32 → Int32 → Int32 → Int32 → zSt → Option (Int32 × zSt)
  | 0, _, _, _, _, _, _ => none
  | n + 1, v1, v3, v4, v5, v6, S =>
    if zin (v1 / 100) 7 then if (S.2.1 4 (Int32.toNatClampNeg (v1 / 100))) ≤ v6 then (some (v5, S)) else (zB (fX12_paceAt (v1 / 100) v6 v3 S) fun r3 S4 => zU (fX12_sizeOf (r3 - v4)) fun r6 => if 2 < r6 then (fX12_stick_b67 N n v1 v3 v4 v5 (v6 + 1) S4) else (fX12_stick_b67 N n v1 v3 v4 (v5 ||| (1 <<< (v6 &&& 31))) (v6 + 1) S4)) else none
def fX12_stick (N : Nat) (p1 : Int32) (p2 : Int32) (S : zSt) : Option (Int32 × zSt) :=
  zB (fX12_isAt p1 S) fun r10 S11 => if r10 = 0 then (some ((-1), S11)) else (if p2 < 0 then (some ((-1), S11)) else (zU (fX12_in (p2 / 10) 1 99) fun r15 => if r15 = 0 then (some ((-1), S11)) else (if (p2 - p2 / 10 * 10) = 0 then (some ((-1), S11)) else (zB (fX12_riseBy N (S11.1 25) (p1 - p1 / 100 * 100) S11) fun r20 S21 => if ¬ (p2 - p2 / 10 * 10) = 0 then fX12_stick_b67 N N p1 r20 ((10 * (p2 / 10)) / (p2 - p2 / 10 * 10)) 0 0 S21 else none))))
abbrev wX12_stick : List Cond := Cond.code yX12_stick cX12_stick 7 (some .int) :: waR
abbrev rmX12_stick : Room := { frames := 4, cells := 0, slots := 0, locals := 93 }
set_option maxHeartbeats 4000000 in
set_option maxRecDepth 100000 in
theorem kX12_stick (l : Launch) (D : va_G) (cA : Nat → ClassId) (h : Nat → Nat) (sz : Nat) (N : Nat)  (p1 : Int32) (p2 : Int32) (S : zSt) (r : Int32) (S1 : zSt) (hf : fX12_stick N p1 p2 S = some (r, S1)) : zMi l yX12_stick wX12_stick rmX12_stick zTr D (tR cA) (hsR h) [.ref (h 0), .int p1, .int p2] (wR cA h S) (wR cA h S1) sz r := by
  refine zEn_i (cc := cX12_stick) (maxL := 7) (own := RX12) (by decide) rfl rfl (hmR cA h S) (Nat.le_of_ble_eq_true rfl) ?_
  intro p e s m args below meth c Q H locs C0 hW fin ls hl
  have hl : lv_has ls 7 [(0, .ref (h 0)), (1, .int p1), (2, .int p2)] := hl
  have hx := C0.1
  have hb := C0.2.1
  have hown := C0.2.2.2.1
  have hts := C0.2.2.2.2
  have w67 : ∀ (n : Nat), ∀ (v1 : Int32) (v3 : Int32) (v4 : Int32) (v5 : Int32) (v6 : Int32) (S : zSt) (H : Heap) (locs : List Loc), zW zTr D (tR cA) (wR cA h S) (aW (hsR h) s.heap.size) s H locs → ∀ ls : Array Slot, lv_has ls 7 [(0, .ref (h 0)), (1, .int v1), (3, .int v3), (4, .int v4), (5, .int v5), (6, .int v6)] → fX12_stick_b67 N n v1 v3 v4 v5 v6 S = some (r, S1) → W p l e rmX12_stick s m args below meth c H locs 0 0 Q (F0 m 67 ls []) := by
    intro n
    induction n with
    | zero =>
      intro v1 v3 v4 v5 v6 S H locs hW ls hl hf
      exact absurd hf (by intro h; cases h)
    | succ n ih =>
      intro v1 v3 v4 v5 v6 S H locs hW ls hl hf
      rw [fX12_stick_b67] at hf
      refine lv_iload (pc := 67) hx hb dX12_stick_67 (lv_at hl 5 rfl) ?_
      refine lv_aload_n (pc := 69) hx hb dX12_stick_69 rfl (lv_at hl 0 rfl) ?_
      refine rg_4 (pc := 70) C0 hu_12 hW mR_7 dX12_stick_70 ?_
      refine lv_iload_n (pc := 73) hx hb dX12_stick_73 rfl (lv_at hl 1 rfl) ?_
      refine lv_bipush (pc := 74) (v := 100) hx hb dX12_stick_74 (by decide) ?_
      refine lv_idiv (pc := 76) hx hb dX12_stick_76 (by decide) ?_
      obtain ⟨i1, hf⟩ := zn hf
      refine rl_4 (pc := 77) C0 hW i1 dX12_stick_77 ?_
      refine lv_icmp_ge (pc := 78) (tgt := 117) hx hb dX12_stick_78 (by decide) (fun c2 => ?_) (fun c2 => ?_)
      · have hf := zt c2 hf
        refine lv_iload (pc := 117) hx hb dX12_stick_117 (lv_at hl 4 rfl) ?_
        exact zend_i (w := wR cA h) fin hf hW dX12_stick_119
      · have hf := zf c2 hf
        refine lv_aload_n (pc := 81) hx hb dX12_stick_81 rfl (lv_at hl 0 rfl) ?_
        refine lv_iload_n (pc := 82) hx hb dX12_stick_82 rfl (lv_at hl 1 rfl) ?_
        refine lv_bipush (pc := 83) (v := 100) hx hb dX12_stick_83 (by decide) ?_
        refine lv_idiv (pc := 85) hx hb dX12_stick_85 (by decide) ?_
        refine lv_iload (pc := 86) hx hb dX12_stick_86 (lv_at hl 5 rfl) ?_
        refine lv_iload_n (pc := 88) hx hb dX12_stick_88 rfl (lv_at hl 2 rfl) ?_
        obtain ⟨r3, S4, e5, hf⟩ := zB_e hf
        refine zcVi zTr_ok (As := [.int (v1 / 100), .int v6, .int v3]) (pc := 89) C0 hW (kX12_paceAt l D cA h H.size (v1 / 100) v6 v3 S r3 S4 e5) (cwV 3 hts (zgV gaR mR_191 mR_192 mR_193 mR_46 mR_186) rfl rfl rfl (by decide +kernel) ⟨Nat.le_of_ble_eq_true rfl, Nat.le_of_ble_eq_true rfl⟩) (va_recv hW.1 hW.2.1 (ci := 12) (q0 := 0) rfl rfl) rfl hl.1 rfl (Nat.le_of_ble_eq_true rfl) dX12_stick_89 (fun H locs hW => ?_)
        refine lv_iload (pc := 92) hx hb dX12_stick_92 (lv_at hl 3 rfl) ?_
        refine lv_isub (pc := 94) hx hb dX12_stick_94 ?_
        obtain ⟨r6, e8, hf⟩ := zU_e hf
        refine zcSi (As := [.int (r3 - v4)]) (pc := 95) C0 hW (kX12_sizeOf l H.size (r3 - v4) r6 e8) (va_cwS 1 hts (zgS gaR mR_277 mR_278 mR_46 mR_40) rfl rfl rfl (by decide +kernel) ⟨Nat.le_of_ble_eq_true rfl, Nat.le_of_ble_eq_true rfl⟩) rfl hl.1 rfl (Nat.le_of_ble_eq_true rfl) dX12_stick_95 (fun H locs hW => ?_)
        refine lv_iconst (pc := 98) (v := 2) hx hb dX12_stick_98 (by decide) ?_
        refine lv_icmp_gt (pc := 99) (tgt := 111) hx hb dX12_stick_99 (by decide) (fun c9 => ?_) (fun c9 => ?_)
        · have hf := zt c9 hf
          refine lv_iinc (pc := 111) (v := (v6 + 1)) (lv' := [(6, .int (v6 + 1)), (0, .ref (h 0)), (1, .int v1), (3, .int v3), (4, .int v4), (5, .int v5)]) hx hb dX12_stick_111 hl (k := 5) rfl (by rfl) (by decide) rfl (fun ls hl => ?_)
          refine lv_goto (pc := 114) (tgt := 67) hx hb dX12_stick_114 (by decide) ?_
          exact ih v1 v3 v4 v5 (v6 + 1) S4 H locs hW ls (lv_sub hl [1, 2, 3, 4, 5, 0] rfl) hf
        · have hf := zf c9 hf
          refine lv_iload (pc := 102) hx hb dX12_stick_102 (lv_at hl 4 rfl) ?_
          refine lv_iconst (pc := 104) (v := 1) hx hb dX12_stick_104 (by decide) ?_
          refine lv_iload (pc := 105) hx hb dX12_stick_105 (lv_at hl 5 rfl) ?_
          refine lv_ishl (pc := 107) hx hb dX12_stick_107 ?_
          refine lv_ior (pc := 108) hx hb dX12_stick_108 ?_
          refine lv_istore (pc := 109) (lv' := [(5, .int (v5 ||| (1 <<< (v6 &&& 31)))), (0, .ref (h 0)), (1, .int v1), (3, .int v3), (4, .int v4), (6, .int v6)]) hx hb dX12_stick_109 hl (by decide) rfl (fun ls hl => ?_)
          refine lv_iinc (pc := 111) (v := (v6 + 1)) (lv' := [(6, .int (v6 + 1)), (5, .int (v5 ||| (1 <<< (v6 &&& 31)))), (0, .ref (h 0)), (1, .int v1), (3, .int v3), (4, .int v4)]) hx hb dX12_stick_111 hl (k := 5) rfl (by rfl) (by decide) rfl (fun ls hl => ?_)
          refine lv_goto (pc := 114) (tgt := 67) hx hb dX12_stick_114 (by decide) ?_
          exact ih v1 v3 v4 (v5 ||| (1 <<< (v6 &&& 31))) (v6 + 1) S4 H locs hW ls (lv_sub hl [2, 3, 4, 5, 1, 0] rfl) hf
  unfold fX12_stick at hf
  refine lv_aload_n (pc := 0) hx hb dX12_stick_0 rfl (lv_at hl 0 rfl) ?_
  refine lv_iload_n (pc := 1) hx hb dX12_stick_1 rfl (lv_at hl 1 rfl) ?_
  obtain ⟨r10, S11, e12, hf⟩ := zB_e hf
  refine zcVi zTr_ok (As := [.int p1]) (pc := 2) C0 hW (kX12_isAt l D cA h H.size p1 S r10 S11 e12) (cwV 1 hts (zgV gaR mR_230 mR_231 mR_232 mR_46 mR_208) rfl rfl rfl (by decide +kernel) ⟨Nat.le_of_ble_eq_true rfl, Nat.le_of_ble_eq_true rfl⟩) (va_recv hW.1 hW.2.1 (ci := 12) (q0 := 0) rfl rfl) rfl hl.1 rfl (Nat.le_of_ble_eq_true rfl) dX12_stick_2 (fun H locs hW => ?_)
  refine lv_if_eq (pc := 5) (tgt := 32) hx hb dX12_stick_5 (by decide) (fun c13 => ?_) (fun c13 => ?_)
  · have hf := zt c13 hf
    refine lv_iconst (pc := 32) (v := (-1)) hx hb dX12_stick_32 (by decide) ?_
    exact zend_i (w := wR cA h) fin hf hW dX12_stick_33
  · have hf := zf c13 hf
    refine lv_iload_n (pc := 8) hx hb dX12_stick_8 rfl (lv_at hl 2 rfl) ?_
    refine lv_if_lt (pc := 9) (tgt := 32) hx hb dX12_stick_9 (by decide) (fun c14 => ?_) (fun c14 => ?_)
    · have hf := zt c14 hf
      refine lv_iconst (pc := 32) (v := (-1)) hx hb dX12_stick_32 (by decide) ?_
      exact zend_i (w := wR cA h) fin hf hW dX12_stick_33
    · have hf := zf c14 hf
      refine lv_iload_n (pc := 12) hx hb dX12_stick_12 rfl (lv_at hl 2 rfl) ?_
      refine lv_bipush (pc := 13) (v := 10) hx hb dX12_stick_13 (by decide) ?_
      refine lv_idiv (pc := 15) hx hb dX12_stick_15 (by decide) ?_
      refine lv_iconst (pc := 16) (v := 1) hx hb dX12_stick_16 (by decide) ?_
      refine lv_bipush (pc := 17) (v := 99) hx hb dX12_stick_17 (by decide) ?_
      obtain ⟨r15, e17, hf⟩ := zU_e hf
      refine zcSi (As := [.int (p2 / 10), .int 1, .int 99]) (pc := 19) C0 hW (kX12_in l H.size (p2 / 10) 1 99 r15 e17) (va_cwS 3 hts (zgS gaR mR_44 mR_45 mR_46 mR_39) rfl rfl rfl (by decide +kernel) ⟨Nat.le_of_ble_eq_true rfl, Nat.le_of_ble_eq_true rfl⟩) rfl hl.1 rfl (Nat.le_of_ble_eq_true rfl) dX12_stick_19 (fun H locs hW => ?_)
      refine lv_if_eq (pc := 22) (tgt := 32) hx hb dX12_stick_22 (by decide) (fun c18 => ?_) (fun c18 => ?_)
      · have hf := zt c18 hf
        refine lv_iconst (pc := 32) (v := (-1)) hx hb dX12_stick_32 (by decide) ?_
        exact zend_i (w := wR cA h) fin hf hW dX12_stick_33
      · have hf := zf c18 hf
        refine lv_iload_n (pc := 25) hx hb dX12_stick_25 rfl (lv_at hl 2 rfl) ?_
        refine lv_bipush (pc := 26) (v := 10) hx hb dX12_stick_26 (by decide) ?_
        refine lv_irem (pc := 28) hx hb dX12_stick_28 (by decide) ?_
        refine lv_if_ne (pc := 29) (tgt := 34) hx hb dX12_stick_29 (by decide) (fun c19 => ?_) (fun c19 => ?_)
        · have hf := zf c19 hf
          refine lv_aload_n (pc := 34) hx hb dX12_stick_34 rfl (lv_at hl 0 rfl) ?_
          refine lv_aload_n (pc := 35) hx hb dX12_stick_35 rfl (lv_at hl 0 rfl) ?_
          refine rg_25 (pc := 36) C0 hu_12 hW mR_22 dX12_stick_36 ?_
          refine lv_iload_n (pc := 39) hx hb dX12_stick_39 rfl (lv_at hl 1 rfl) ?_
          refine lv_bipush (pc := 40) (v := 100) hx hb dX12_stick_40 (by decide) ?_
          refine lv_irem (pc := 42) hx hb dX12_stick_42 (by decide) ?_
          obtain ⟨r20, S21, e22, hf⟩ := zB_e hf
          refine zcVi zTr_ok (As := [.int (S11.1 25), .int (p1 - p1 / 100 * 100)]) (pc := 43) C0 hW (kX12_riseBy l D cA h H.size N (S11.1 25) (p1 - p1 / 100 * 100) S11 r20 S21 e22) (cwV 2 hts (zgV gaR mR_182 mR_183 mR_184 mR_46 mR_172) rfl rfl rfl (by decide +kernel) ⟨Nat.le_of_ble_eq_true rfl, Nat.le_of_ble_eq_true rfl⟩) (va_recv hW.1 hW.2.1 (ci := 12) (q0 := 0) rfl rfl) rfl hl.1 rfl (Nat.le_of_ble_eq_true rfl) dX12_stick_43 (fun H locs hW => ?_)
          refine lv_istore_n (pc := 46) (lv' := [(3, .int r20), (0, .ref (h 0)), (1, .int p1), (2, .int p2)]) hx hb dX12_stick_46 rfl hl (by decide) rfl (fun ls hl => ?_)
          refine lv_bipush (pc := 47) (v := 10) hx hb dX12_stick_47 (by decide) ?_
          refine lv_iload_n (pc := 49) hx hb dX12_stick_49 rfl (lv_at hl 3 rfl) ?_
          refine lv_bipush (pc := 50) (v := 10) hx hb dX12_stick_50 (by decide) ?_
          refine lv_idiv (pc := 52) hx hb dX12_stick_52 (by decide) ?_
          refine lv_imul (pc := 53) hx hb dX12_stick_53 ?_
          refine lv_iload_n (pc := 54) hx hb dX12_stick_54 rfl (lv_at hl 3 rfl) ?_
          refine lv_bipush (pc := 55) (v := 10) hx hb dX12_stick_55 (by decide) ?_
          refine lv_irem (pc := 57) hx hb dX12_stick_57 (by decide) ?_
          obtain ⟨i23, hf⟩ := zn hf
          refine lv_idiv (pc := 58) hx hb dX12_stick_58 i23 ?_
          refine lv_istore (pc := 59) (lv' := [(4, .int ((10 * (p2 / 10)) / (p2 - p2 / 10 * 10))), (3, .int r20), (0, .ref (h 0)), (1, .int p1), (2, .int p2)]) hx hb dX12_stick_59 hl (by decide) rfl (fun ls hl => ?_)
          refine lv_iconst (pc := 61) (v := 0) hx hb dX12_stick_61 (by decide) ?_
          refine lv_istore (pc := 62) (lv' := [(5, .int 0), (4, .int ((10 * (p2 / 10)) / (p2 - p2 / 10 * 10))), (3, .int r20), (0, .ref (h 0)), (1, .int p1), (2, .int p2)]) hx hb dX12_stick_62 hl (by decide) rfl (fun ls hl => ?_)
          refine lv_iconst (pc := 64) (v := 0) hx hb dX12_stick_64 (by decide) ?_
          refine lv_istore (pc := 65) (lv' := [(6, .int 0), (5, .int 0), (4, .int ((10 * (p2 / 10)) / (p2 - p2 / 10 * 10))), (3, .int r20), (0, .ref (h 0)), (1, .int p1), (2, .int p2)]) hx hb dX12_stick_65 hl (by decide) rfl (fun ls hl => ?_)
          exact w67 N p1 r20 ((10 * (p2 / 10)) / (p2 - p2 / 10 * 10)) 0 0 S21 H locs hW ls (lv_sub hl [4, 5, 3, 2, 1, 0] rfl) hf
        · have hf := zt c19 hf
          refine lv_iconst (pc := 32) (v := (-1)) hx hb dX12_stick_32 (by decide) ?_
          exact zend_i (w := wR cA h) fin hf hW dX12_stick_33

def fX12_isNotch_b25  (v2 : Int32) (u0 : Int32) (u1 : Int32) (S : zSt) : Option (Int32 × zSt) :=
  zU (fX12_in u0 u1 47) fun r1 => if r1 = 0 then (some (0, S)) else (zU (fX12_in v2 (-20) 60) fun r5 => if r5 = 0 then (some (0, S)) else (some (1, S)))
def fX12_isNotch (p1 : Int32) (p2 : Int32) (S : zSt) : Option (Int32 × zSt) :=
  if (S.1 37) = 0 then (fX12_isNotch_b25 p2 p1 0 S) else (if zin ((S.1 37) - 1) 20 then fX12_isNotch_b25 p2 p1 ((S.2.1 38 (Int32.toNatClampNeg ((S.1 37) - 1))) + 1) S else none)
abbrev wX12_isNotch : List Cond := Cond.code yX12_isNotch cX12_isNotch 3 (some .boolean) :: waR
abbrev rmX12_isNotch : Room := { frames := 1, cells := 0, slots := 0, locals := 22 }
set_option maxHeartbeats 4000000 in
set_option maxRecDepth 100000 in
theorem kX12_isNotch (l : Launch) (D : va_G) (cA : Nat → ClassId) (h : Nat → Nat) (sz : Nat)  (p1 : Int32) (p2 : Int32) (S : zSt) (r : Int32) (S1 : zSt) (hf : fX12_isNotch p1 p2 S = some (r, S1)) : zMi l yX12_isNotch wX12_isNotch rmX12_isNotch zTr D (tR cA) (hsR h) [.ref (h 0), .int p1, .int p2] (wR cA h S) (wR cA h S1) sz r := by
  refine zEn_z (cc := cX12_isNotch) (maxL := 3) (own := RX12) (by decide) rfl rfl (hmR cA h S) (Nat.le_of_ble_eq_true rfl) ?_
  intro p e s m args below meth c Q H locs C0 hW fin ls hl
  have hl : lv_has ls 3 [(0, .ref (h 0)), (1, .int p1), (2, .int p2)] := hl
  have hx := C0.1
  have hb := C0.2.1
  have hown := C0.2.2.2.1
  have hts := C0.2.2.2.2
  have w25 : ∀ (v2 : Int32) (u0 : Int32) (u1 : Int32) (S : zSt) (H : Heap) (locs : List Loc), zW zTr D (tR cA) (wR cA h S) (aW (hsR h) s.heap.size) s H locs → ∀ ls : Array Slot, lv_has ls 3 [(2, .int v2)] → fX12_isNotch_b25 v2 u0 u1 S = some (r, S1) → W p l e rmX12_isNotch s m args below meth c H locs 0 0 Q (F0 m 25 ls [.int u1, .int u0]) := by
    intro v2 u0 u1 S H locs hW ls hl hf
    unfold fX12_isNotch_b25 at hf
    refine lv_bipush (pc := 25) (v := 47) hx hb dX12_isNotch_25 (by decide) ?_
    obtain ⟨r1, e3, hf⟩ := zU_e hf
    refine zcSi (As := [.int u0, .int u1, .int 47]) (pc := 27) C0 hW (kX12_in l H.size u0 u1 47 r1 e3) (va_cwS 3 hts (zgS gaR mR_44 mR_45 mR_46 mR_39) rfl rfl rfl (by decide +kernel) ⟨Nat.le_of_ble_eq_true rfl, Nat.le_of_ble_eq_true rfl⟩) rfl hl.1 rfl (Nat.le_of_ble_eq_true rfl) dX12_isNotch_27 (fun H locs hW => ?_)
    refine lv_if_eq (pc := 30) (tgt := 48) hx hb dX12_isNotch_30 (by decide) (fun c4 => ?_) (fun c4 => ?_)
    · have hf := zt c4 hf
      refine lv_iconst (pc := 48) (v := 0) hx hb dX12_isNotch_48 (by decide) ?_
      exact zend_z (w := wR cA h) fin hf (by decide) hW dX12_isNotch_49
    · have hf := zf c4 hf
      refine lv_iload_n (pc := 33) hx hb dX12_isNotch_33 rfl (lv_at hl 0 rfl) ?_
      refine lv_bipush (pc := 34) (v := (-20)) hx hb dX12_isNotch_34 (by decide) ?_
      refine lv_bipush (pc := 36) (v := 60) hx hb dX12_isNotch_36 (by decide) ?_
      obtain ⟨r5, e7, hf⟩ := zU_e hf
      refine zcSi (As := [.int v2, .int (-20), .int 60]) (pc := 38) C0 hW (kX12_in l H.size v2 (-20) 60 r5 e7) (va_cwS 3 hts (zgS gaR mR_44 mR_45 mR_46 mR_39) rfl rfl rfl (by decide +kernel) ⟨Nat.le_of_ble_eq_true rfl, Nat.le_of_ble_eq_true rfl⟩) rfl hl.1 rfl (Nat.le_of_ble_eq_true rfl) dX12_isNotch_38 (fun H locs hW => ?_)
      refine lv_if_eq (pc := 41) (tgt := 48) hx hb dX12_isNotch_41 (by decide) (fun c8 => ?_) (fun c8 => ?_)
      · have hf := zt c8 hf
        refine lv_iconst (pc := 48) (v := 0) hx hb dX12_isNotch_48 (by decide) ?_
        exact zend_z (w := wR cA h) fin hf (by decide) hW dX12_isNotch_49
      · have hf := zf c8 hf
        refine lv_iconst (pc := 44) (v := 1) hx hb dX12_isNotch_44 (by decide) ?_
        refine lv_goto (pc := 45) (tgt := 49) hx hb dX12_isNotch_45 (by decide) ?_
        exact zend_z (w := wR cA h) fin hf (by decide) hW dX12_isNotch_49
  unfold fX12_isNotch at hf
  refine lv_iload_n (pc := 0) hx hb dX12_isNotch_0 rfl (lv_at hl 1 rfl) ?_
  refine lv_aload_n (pc := 1) hx hb dX12_isNotch_1 rfl (lv_at hl 0 rfl) ?_
  refine rg_37 (pc := 2) C0 hu_12 hW mR_280 dX12_isNotch_2 ?_
  refine lv_if_ne (pc := 5) (tgt := 12) hx hb dX12_isNotch_5 (by decide) (fun c9 => ?_) (fun c9 => ?_)
  · have hf := zf c9 hf
    refine lv_aload_n (pc := 12) hx hb dX12_isNotch_12 rfl (lv_at hl 0 rfl) ?_
    refine rg_38 (pc := 13) C0 hu_12 hW mR_30 dX12_isNotch_13 ?_
    refine lv_aload_n (pc := 16) hx hb dX12_isNotch_16 rfl (lv_at hl 0 rfl) ?_
    refine rg_37 (pc := 17) C0 hu_12 hW mR_280 dX12_isNotch_17 ?_
    refine lv_iconst (pc := 20) (v := 1) hx hb dX12_isNotch_20 (by decide) ?_
    refine lv_isub (pc := 21) hx hb dX12_isNotch_21 ?_
    obtain ⟨i10, hf⟩ := zn hf
    refine rl_38 (pc := 22) C0 hW i10 dX12_isNotch_22 ?_
    refine lv_iconst (pc := 23) (v := 1) hx hb dX12_isNotch_23 (by decide) ?_
    refine lv_iadd (pc := 24) hx hb dX12_isNotch_24 ?_
    exact w25 p2 p1 ((S.2.1 38 (Int32.toNatClampNeg ((S.1 37) - 1))) + 1) S H locs hW ls (lv_sub hl [2] rfl) hf
  · have hf := zt c9 hf
    refine lv_iconst (pc := 8) (v := 0) hx hb dX12_isNotch_8 (by decide) ?_
    refine lv_goto (pc := 9) (tgt := 25) hx hb dX12_isNotch_9 (by decide) ?_
    exact w25 p2 p1 0 S H locs hW ls (lv_sub hl [2] rfl) hf

def fX12_addNotch (p1 : Int32) (p2 : Int32) (S : zSt) : Option zSt :=
  if zin (S.1 37) 20 then zL (zA S 38 (Int32.toNatClampNeg (S.1 37)) p1) fun S2 => if zin (S2.1 37) 20 then zL (zA S2 39 (Int32.toNatClampNeg (S2.1 37)) p2) fun S4 => zL (zI S4 37 ((S4.1 37) + 1)) fun S5 => some S5 else none else none
abbrev wX12_addNotch : List Cond := Cond.code yX12_addNotch cX12_addNotch 3 none :: waR
abbrev rmX12_addNotch : Room := { frames := 0, cells := 0, slots := 0, locals := 0 }
set_option maxHeartbeats 4000000 in
set_option maxRecDepth 100000 in
theorem kX12_addNotch (l : Launch) (D : va_G) (cA : Nat → ClassId) (h : Nat → Nat) (sz : Nat)  (p1 : Int32) (p2 : Int32) (S : zSt) (S1 : zSt) (hf : fX12_addNotch p1 p2 S = some S1) : zMv l yX12_addNotch wX12_addNotch rmX12_addNotch zTr D (tR cA) (hsR h) [.ref (h 0), .int p1, .int p2] (wR cA h S) (wR cA h S1) sz := by
  refine zEn_v (cc := cX12_addNotch) (maxL := 3) (own := RX12) (by decide) rfl rfl (hmR cA h S) (Nat.le_of_ble_eq_true rfl) ?_
  intro p e s m args below meth c Q H locs C0 hW fin ls hl
  have hl : lv_has ls 3 [(0, .ref (h 0)), (1, .int p1), (2, .int p2)] := hl
  have hx := C0.1
  have hb := C0.2.1
  have hown := C0.2.2.2.1
  have hts := C0.2.2.2.2
  unfold fX12_addNotch at hf
  refine lv_aload_n (pc := 0) hx hb dX12_addNotch_0 rfl (lv_at hl 0 rfl) ?_
  refine rg_38 (pc := 1) C0 hu_12 hW mR_30 dX12_addNotch_1 ?_
  refine lv_aload_n (pc := 4) hx hb dX12_addNotch_4 rfl (lv_at hl 0 rfl) ?_
  refine rg_37 (pc := 5) C0 hu_12 hW mR_280 dX12_addNotch_5 ?_
  refine lv_iload_n (pc := 8) hx hb dX12_addNotch_8 rfl (lv_at hl 1 rfl) ?_
  obtain ⟨i1, hf⟩ := zn hf
  obtain ⟨S2, e_S2, hf⟩ := zL_e hf
  refine rs_38 (pc := 9) C0 hW i1 e_S2 dX12_addNotch_9 (fun H locs hW => ?_)
  refine lv_aload_n (pc := 10) hx hb dX12_addNotch_10 rfl (lv_at hl 0 rfl) ?_
  refine rg_39 (pc := 11) C0 hu_12 hW mR_31 dX12_addNotch_11 ?_
  refine lv_aload_n (pc := 14) hx hb dX12_addNotch_14 rfl (lv_at hl 0 rfl) ?_
  refine rg_37 (pc := 15) C0 hu_12 hW mR_280 dX12_addNotch_15 ?_
  refine lv_iload_n (pc := 18) hx hb dX12_addNotch_18 rfl (lv_at hl 2 rfl) ?_
  obtain ⟨i3, hf⟩ := zn hf
  obtain ⟨S4, e_S4, hf⟩ := zL_e hf
  refine rs_39 (pc := 19) C0 hW i3 e_S4 dX12_addNotch_19 (fun H locs hW => ?_)
  refine lv_aload_n (pc := 20) hx hb dX12_addNotch_20 rfl (lv_at hl 0 rfl) ?_
  refine lv_dup (pc := 21) hx hb dX12_addNotch_21 rfl ?_
  refine rg_37 (pc := 22) C0 hu_12 hW mR_280 dX12_addNotch_22 ?_
  refine lv_iconst (pc := 25) (v := 1) hx hb dX12_addNotch_25 (by decide) ?_
  refine lv_iadd (pc := 26) hx hb dX12_addNotch_26 ?_
  obtain ⟨S5, e_S5, hf⟩ := zL_e hf
  refine rp_37 (pc := 27) C0 hu_12 hW mR_280 e_S5 dX12_addNotch_27 (fun H locs hW => ?_)
  exact zend_v (w := wR cA h) fin hf hW dX12_addNotch_30

def fX12_notch (p1 : Int32) (p2 : Int32) (S : zSt) : Option (Int32 × zSt) :=
  zB (fX12_isNotch p1 p2 S) fun r1 S2 => if r1 = 0 then (some ((-1), S2)) else (if (S2.1 37) = 20 then (some ((-3), S2)) else (zU (fX12_addNotch p1 p2 S2) fun S7 => some (((S7.1 37) - 1), S7)))
abbrev wX12_notch : List Cond := Cond.code yX12_notch cX12_notch 3 (some .int) :: waR
abbrev rmX12_notch : Room := { frames := 2, cells := 0, slots := 0, locals := 44 }
set_option maxHeartbeats 4000000 in
set_option maxRecDepth 100000 in
theorem kX12_notch (l : Launch) (D : va_G) (cA : Nat → ClassId) (h : Nat → Nat) (sz : Nat)  (p1 : Int32) (p2 : Int32) (S : zSt) (r : Int32) (S1 : zSt) (hf : fX12_notch p1 p2 S = some (r, S1)) : zMi l yX12_notch wX12_notch rmX12_notch zTr D (tR cA) (hsR h) [.ref (h 0), .int p1, .int p2] (wR cA h S) (wR cA h S1) sz r := by
  refine zEn_i (cc := cX12_notch) (maxL := 3) (own := RX12) (by decide) rfl rfl (hmR cA h S) (Nat.le_of_ble_eq_true rfl) ?_
  intro p e s m args below meth c Q H locs C0 hW fin ls hl
  have hl : lv_has ls 3 [(0, .ref (h 0)), (1, .int p1), (2, .int p2)] := hl
  have hx := C0.1
  have hb := C0.2.1
  have hown := C0.2.2.2.1
  have hts := C0.2.2.2.2
  unfold fX12_notch at hf
  refine lv_aload_n (pc := 0) hx hb dX12_notch_0 rfl (lv_at hl 0 rfl) ?_
  refine lv_iload_n (pc := 1) hx hb dX12_notch_1 rfl (lv_at hl 1 rfl) ?_
  refine lv_iload_n (pc := 2) hx hb dX12_notch_2 rfl (lv_at hl 2 rfl) ?_
  obtain ⟨r1, S2, e3, hf⟩ := zB_e hf
  refine zcVi zTr_ok (As := [.int p1, .int p2]) (pc := 3) C0 hW (kX12_isNotch l D cA h H.size p1 p2 S r1 S2 e3) (cwV 2 hts (zgV gaR mR_283 mR_284 mR_285 mR_46 mR_279) rfl rfl rfl (by decide +kernel) ⟨Nat.le_of_ble_eq_true rfl, Nat.le_of_ble_eq_true rfl⟩) (va_recv hW.1 hW.2.1 (ci := 12) (q0 := 0) rfl rfl) rfl hl.1 rfl (Nat.le_of_ble_eq_true rfl) dX12_notch_3 (fun H locs hW => ?_)
  refine lv_if_ne (pc := 6) (tgt := 11) hx hb dX12_notch_6 (by decide) (fun c4 => ?_) (fun c4 => ?_)
  · have hf := zf c4 hf
    refine lv_aload_n (pc := 11) hx hb dX12_notch_11 rfl (lv_at hl 0 rfl) ?_
    refine rg_37 (pc := 12) C0 hu_12 hW mR_280 dX12_notch_12 ?_
    refine lv_bipush (pc := 15) (v := 20) hx hb dX12_notch_15 (by decide) ?_
    refine lv_icmp_ne (pc := 17) (tgt := 23) hx hb dX12_notch_17 (by decide) (fun c5 => ?_) (fun c5 => ?_)
    · have hf := zf c5 hf
      refine lv_aload_n (pc := 23) hx hb dX12_notch_23 rfl (lv_at hl 0 rfl) ?_
      refine lv_iload_n (pc := 24) hx hb dX12_notch_24 rfl (lv_at hl 1 rfl) ?_
      refine lv_iload_n (pc := 25) hx hb dX12_notch_25 rfl (lv_at hl 2 rfl) ?_
      obtain ⟨S7, e8, hf⟩ := zU_e hf
      refine zcVv zTr_ok (As := [.int p1, .int p2]) (pc := 26) C0 hW (kX12_addNotch l D cA h H.size p1 p2 S2 S7 e8) (cwV 2 hts (zgV gaR mR_286 mR_287 mR_288 mR_46 mR_281) rfl rfl rfl (by decide +kernel) ⟨Nat.le_of_ble_eq_true rfl, Nat.le_of_ble_eq_true rfl⟩) (va_recv hW.1 hW.2.1 (ci := 12) (q0 := 0) rfl rfl) rfl hl.1 rfl (Nat.le_of_ble_eq_true rfl) dX12_notch_26 (fun H locs hW => ?_)
      refine lv_aload_n (pc := 29) hx hb dX12_notch_29 rfl (lv_at hl 0 rfl) ?_
      refine rg_37 (pc := 30) C0 hu_12 hW mR_280 dX12_notch_30 ?_
      refine lv_iconst (pc := 33) (v := 1) hx hb dX12_notch_33 (by decide) ?_
      refine lv_isub (pc := 34) hx hb dX12_notch_34 ?_
      exact zend_i (w := wR cA h) fin hf hW dX12_notch_35
    · have hf := zt c5 hf
      refine lv_bipush (pc := 20) (v := (-3)) hx hb dX12_notch_20 (by decide) ?_
      exact zend_i (w := wR cA h) fin hf hW dX12_notch_22
  · have hf := zt c4 hf
    refine lv_iconst (pc := 9) (v := (-1)) hx hb dX12_notch_9 (by decide) ?_
    exact zend_i (w := wR cA h) fin hf hW dX12_notch_10

def fX12_isShelf (p1 : Int32): Option Int32 :=
  zU (fX12_in p1 0 5) fun r1 => if zbit r1 then some r1 else none
abbrev wX12_isShelf : List Cond := Cond.code yX12_isShelf cX12_isShelf 1 (some .boolean) :: waR
abbrev rmX12_isShelf : Room := { frames := 1, cells := 0, slots := 0, locals := 22 }
set_option maxHeartbeats 4000000 in
set_option maxRecDepth 100000 in
theorem kX12_isShelf (l : Launch) (sz : Nat) (p1 : Int32) (r : Int32) (hf : fX12_isShelf p1 = some r) : zMs l yX12_isShelf wX12_isShelf rmX12_isShelf [.int p1] sz r := by
  refine zEs_z (cc := cX12_isShelf) (maxL := 1) (own := RX12) (by decide) rfl rfl (Nat.le_of_ble_eq_true rfl) ?_
  intro p e s m args below meth c Q H locs C0 hW fin ls hl
  have hl : lv_has ls 1 [(0, .int p1)] := hl
  have hx := C0.1
  have hb := C0.2.1
  have hown := C0.2.2.2.1
  have hts := C0.2.2.2.2
  unfold fX12_isShelf at hf
  refine lv_iload_n (pc := 0) hx hb dX12_isShelf_0 rfl (lv_at hl 0 rfl) ?_
  refine lv_iconst (pc := 1) (v := 0) hx hb dX12_isShelf_1 (by decide) ?_
  refine lv_iconst (pc := 2) (v := 5) hx hb dX12_isShelf_2 (by decide) ?_
  obtain ⟨r1, e3, hf⟩ := zU_e hf
  refine zcS0 (As := [.int p1, .int 0, .int 5]) (pc := 3) C0 hW (kX12_in l H.size p1 0 5 r1 e3) (va_cwS 3 hts (zgS gaR mR_44 mR_45 mR_46 mR_39) rfl rfl rfl (by decide +kernel) ⟨Nat.le_of_ble_eq_true rfl, Nat.le_of_ble_eq_true rfl⟩) rfl hl.1 rfl (Nat.le_of_ble_eq_true rfl) dX12_isShelf_3 (fun H locs _ hW => ?_)
  obtain ⟨i4, hf⟩ := zn hf
  exact zens_z fin hf i4 hW dX12_isShelf_6

def fX12_notches_b58 (N : Nat) : Nat → Int32 → Int32 → Int32 → Int32 → zSt → Option (Int32 × zSt)
  | 0, _, _, _, _, _ => none
  | n + 1, v1, v2, v3, v4, S =>
    if v3 ≤ v4 then (some (v3, S)) else (zL (((Int32.toInt64 v2) + (Int32.toInt64 (2 * v4)))) fun (x2 : Int64) => if (lg_cmp x2 0) < 0 then (some (v4, S)) else (if zin v1 6 then if 0 ≤ (lg_cmp (x2 + 1) (Int32.toInt64 (S.2.1 45 (Int32.toNatClampNeg v1)))) then (some (v4, S)) else (if (S.1 37) = 20 then (some (v4, S)) else (if zin ((60 * v1) + (Int64.toInt32 x2)) 360 then if zin (((60 * v1) + (Int64.toInt32 x2)) + 1) 360 then zB (fX12_isNotch (Int64.toInt32 (S.2.2 46 (Int32.toNatClampNeg ((60 * v1) + (Int64.toInt32 x2))))) (Int64.toInt32 (S.2.2 46 (Int32.toNatClampNeg (((60 * v1) + (Int64.toInt32 x2)) + 1)))) S) fun r9 S10 => if r9 = 0 then (some (v4, S10)) else (if zin ((60 * v1) + (Int64.toInt32 x2)) 360 then if zin (((60 * v1) + (Int64.toInt32 x2)) + 1) 360 then zU (fX12_addNotch (Int64.toInt32 (S10.2.2 46 (Int32.toNatClampNeg ((60 * v1) + (Int64.toInt32 x2))))) (Int64.toInt32 (S10.2.2 46 (Int32.toNatClampNeg (((60 * v1) + (Int64.toInt32 x2)) + 1)))) S10) fun S16 => fX12_notches_b58 N n v1 v2 v3 (v4 + 1) S16 else none else none) else none else none)) else none))
def fX12_notches_b43 (N : Nat) (v1 : Int32) (v2 : Int32) (v3 : Int32) (S : zSt) : Option (Int32 × zSt) :=
  if zin v1 6 then if (S.2.1 44 (Int32.toNatClampNeg v1)) = (-1) then (some (0, S)) else (fX12_notches_b58 N N v1 v2 v3 0 S) else none
def fX12_notches (N : Nat) (p1 : Int32) (p2 : Int32) (p3 : Int32) (S : zSt) : Option (Int32 × zSt) :=
  zU (fX12_isShelf p1) fun r20 => if r20 = 0 then (some ((-1), S)) else (zU (fX12_in p3 1 20) fun r24 => if r24 = 0 then (some ((-1), S)) else (if zin p1 6 then if (S.2.1 44 (Int32.toNatClampNeg p1)) = (-1) then (fX12_notches_b43 N p1 p2 p3 S) else (if zin p1 6 then if (S.2.1 44 (Int32.toNatClampNeg p1)) = (-2) then (fX12_notches_b43 N p1 p2 p3 S) else (some ((-12), S)) else none) else none))
abbrev wX12_notches : List Cond := Cond.code yX12_notches cX12_notches 8 (some .int) :: waR
abbrev rmX12_notches : Room := { frames := 2, cells := 0, slots := 0, locals := 44 }
set_option maxHeartbeats 4000000 in
set_option maxRecDepth 100000 in
theorem kX12_notches (l : Launch) (D : va_G) (cA : Nat → ClassId) (h : Nat → Nat) (sz : Nat) (N : Nat)  (p1 : Int32) (p2 : Int32) (p3 : Int32) (S : zSt) (r : Int32) (S1 : zSt) (hf : fX12_notches N p1 p2 p3 S = some (r, S1)) : zMi l yX12_notches wX12_notches rmX12_notches zTr D (tR cA) (hsR h) [.ref (h 0), .int p1, .int p2, .int p3] (wR cA h S) (wR cA h S1) sz r := by
  refine zEn_i (cc := cX12_notches) (maxL := 8) (own := RX12) (by decide) rfl rfl (hmR cA h S) (Nat.le_of_ble_eq_true rfl) ?_
  intro p e s m args below meth c Q H locs C0 hW fin ls hl
  have hl : lv_has ls 8 [(0, .ref (h 0)), (1, .int p1), (2, .int p2), (3, .int p3)] := hl
  have hx := C0.1
  have hb := C0.2.1
  have hown := C0.2.2.2.1
  have hts := C0.2.2.2.2
  have w58 : ∀ (n : Nat), ∀ (v1 : Int32) (v2 : Int32) (v3 : Int32) (v4 : Int32) (S : zSt) (H : Heap) (locs : List Loc), zW zTr D (tR cA) (wR cA h S) (aW (hsR h) s.heap.size) s H locs → ∀ ls : Array Slot, lv_has ls 8 [(0, .ref (h 0)), (1, .int v1), (2, .int v2), (3, .int v3), (4, .int v4)] → fX12_notches_b58 N n v1 v2 v3 v4 S = some (r, S1) → W p l e rmX12_notches s m args below meth c H locs 0 0 Q (F0 m 58 ls []) := by
    intro n
    induction n with
    | zero =>
      intro v1 v2 v3 v4 S H locs hW ls hl hf
      exact absurd hf (by intro h; cases h)
    | succ n ih =>
      intro v1 v2 v3 v4 S H locs hW ls hl hf
      rw [fX12_notches_b58] at hf
      refine lv_iload (pc := 58) hx hb dX12_notches_58 (lv_at hl 4 rfl) ?_
      refine lv_iload_n (pc := 60) hx hb dX12_notches_60 rfl (lv_at hl 3 rfl) ?_
      refine lv_icmp_ge (pc := 61) (tgt := 174) hx hb dX12_notches_61 (by decide) (fun c1 => ?_) (fun c1 => ?_)
      · have hf := zt c1 hf
        refine lv_iload_n (pc := 174) hx hb dX12_notches_174 rfl (lv_at hl 3 rfl) ?_
        exact zend_i (w := wR cA h) fin hf hW dX12_notches_175
      · have hf := zf c1 hf
        refine lv_iload_n (pc := 64) hx hb dX12_notches_64 rfl (lv_at hl 2 rfl) ?_
        refine lv_i2l (pc := 65) (v := (Int32.toInt64 v2)) hx hb dX12_notches_65 rfl ?_
        refine lv_iconst (pc := 66) (v := 2) hx hb dX12_notches_66 (by decide) ?_
        refine lv_iload (pc := 67) hx hb dX12_notches_67 (lv_at hl 4 rfl) ?_
        refine lv_imul (pc := 69) hx hb dX12_notches_69 ?_
        refine lv_i2l (pc := 70) (v := (Int32.toInt64 (2 * v4))) hx hb dX12_notches_70 rfl ?_
        refine lv_ladd (pc := 71) hx hb dX12_notches_71 ?_
        obtain ⟨x2, e_x2, hf⟩ := zL_e hf
        refine ztopl e_x2 ?_
        refine lv_lstore (pc := 72) (lv' := [(5, .long x2), (0, .ref (h 0)), (1, .int v1), (2, .int v2), (3, .int v3), (4, .int v4)]) hx hb dX12_notches_72 hl (by decide) rfl (fun ls hl => ?_)
        refine lv_lload (pc := 74) hx hb dX12_notches_74 (lv_at hl 0 rfl) ?_
        refine lv_lconst (pc := 76) (v := 0) hx hb dX12_notches_76 (by decide) ?_
        refine W.lcmp (pc := 77) hx hb dX12_notches_77 ?_
        refine lv_if_lt (pc := 78) (tgt := 105) hx hb dX12_notches_78 (by decide) (fun c3 => ?_) (fun c3 => ?_)
        · have hf := zt c3 hf
          refine lv_iload (pc := 105) hx hb dX12_notches_105 (lv_at hl 5 rfl) ?_
          exact zend_i (w := wR cA h) fin hf hW dX12_notches_107
        · have hf := zf c3 hf
          refine lv_lload (pc := 81) hx hb dX12_notches_81 (lv_at hl 0 rfl) ?_
          refine lv_lconst (pc := 83) (v := 1) hx hb dX12_notches_83 (by decide) ?_
          refine lv_ladd (pc := 84) hx hb dX12_notches_84 ?_
          refine lv_aload_n (pc := 85) hx hb dX12_notches_85 rfl (lv_at hl 1 rfl) ?_
          refine rg_45 (pc := 86) C0 hu_12 hW mR_35 dX12_notches_86 ?_
          refine lv_iload_n (pc := 89) hx hb dX12_notches_89 rfl (lv_at hl 2 rfl) ?_
          obtain ⟨i4, hf⟩ := zn hf
          refine rl_45 (pc := 90) C0 hW i4 dX12_notches_90 ?_
          refine lv_i2l (pc := 91) (v := (Int32.toInt64 (S.2.1 45 (Int32.toNatClampNeg v1)))) hx hb dX12_notches_91 rfl ?_
          refine W.lcmp (pc := 92) hx hb dX12_notches_92 ?_
          refine lv_if_ge (pc := 93) (tgt := 105) hx hb dX12_notches_93 (by decide) (fun c5 => ?_) (fun c5 => ?_)
          · have hf := zt c5 hf
            refine lv_iload (pc := 105) hx hb dX12_notches_105 (lv_at hl 5 rfl) ?_
            exact zend_i (w := wR cA h) fin hf hW dX12_notches_107
          · have hf := zf c5 hf
            refine lv_aload_n (pc := 96) hx hb dX12_notches_96 rfl (lv_at hl 1 rfl) ?_
            refine rg_37 (pc := 97) C0 hu_12 hW mR_280 dX12_notches_97 ?_
            refine lv_bipush (pc := 100) (v := 20) hx hb dX12_notches_100 (by decide) ?_
            refine lv_icmp_ne (pc := 102) (tgt := 108) hx hb dX12_notches_102 (by decide) (fun c6 => ?_) (fun c6 => ?_)
            · have hf := zf c6 hf
              refine lv_bipush (pc := 108) (v := 60) hx hb dX12_notches_108 (by decide) ?_
              refine lv_iload_n (pc := 110) hx hb dX12_notches_110 rfl (lv_at hl 2 rfl) ?_
              refine lv_imul (pc := 111) hx hb dX12_notches_111 ?_
              refine lv_lload (pc := 112) hx hb dX12_notches_112 (lv_at hl 0 rfl) ?_
              refine lv_l2i (pc := 114) (v := (Int64.toInt32 x2)) hx hb dX12_notches_114 rfl ?_
              refine lv_iadd (pc := 115) hx hb dX12_notches_115 ?_
              refine lv_istore (pc := 116) (lv' := [(7, .int ((60 * v1) + (Int64.toInt32 x2))), (5, .long x2), (0, .ref (h 0)), (1, .int v1), (2, .int v2), (3, .int v3), (4, .int v4)]) hx hb dX12_notches_116 hl (by decide) rfl (fun ls hl => ?_)
              refine lv_aload_n (pc := 118) hx hb dX12_notches_118 rfl (lv_at hl 2 rfl) ?_
              refine lv_aload_n (pc := 119) hx hb dX12_notches_119 rfl (lv_at hl 2 rfl) ?_
              refine rg_46 (pc := 120) C0 hu_12 hW mR_37 dX12_notches_120 ?_
              refine lv_iload (pc := 123) hx hb dX12_notches_123 (lv_at hl 0 rfl) ?_
              obtain ⟨i7, hf⟩ := zn hf
              refine rl_46 (pc := 125) C0 hW i7 dX12_notches_125 ?_
              refine lv_l2i (pc := 126) (v := (Int64.toInt32 (S.2.2 46 (Int32.toNatClampNeg ((60 * v1) + (Int64.toInt32 x2)))))) hx hb dX12_notches_126 rfl ?_
              refine lv_aload_n (pc := 127) hx hb dX12_notches_127 rfl (lv_at hl 2 rfl) ?_
              refine rg_46 (pc := 128) C0 hu_12 hW mR_37 dX12_notches_128 ?_
              refine lv_iload (pc := 131) hx hb dX12_notches_131 (lv_at hl 0 rfl) ?_
              refine lv_iconst (pc := 133) (v := 1) hx hb dX12_notches_133 (by decide) ?_
              refine lv_iadd (pc := 134) hx hb dX12_notches_134 ?_
              obtain ⟨i8, hf⟩ := zn hf
              refine rl_46 (pc := 135) C0 hW i8 dX12_notches_135 ?_
              refine lv_l2i (pc := 136) (v := (Int64.toInt32 (S.2.2 46 (Int32.toNatClampNeg (((60 * v1) + (Int64.toInt32 x2)) + 1))))) hx hb dX12_notches_136 rfl ?_
              obtain ⟨r9, S10, e11, hf⟩ := zB_e hf
              refine zcVi zTr_ok (As := [.int (Int64.toInt32 (S.2.2 46 (Int32.toNatClampNeg ((60 * v1) + (Int64.toInt32 x2))))), .int (Int64.toInt32 (S.2.2 46 (Int32.toNatClampNeg (((60 * v1) + (Int64.toInt32 x2)) + 1))))]) (pc := 137) C0 hW (kX12_isNotch l D cA h H.size (Int64.toInt32 (S.2.2 46 (Int32.toNatClampNeg ((60 * v1) + (Int64.toInt32 x2))))) (Int64.toInt32 (S.2.2 46 (Int32.toNatClampNeg (((60 * v1) + (Int64.toInt32 x2)) + 1)))) S r9 S10 e11) (cwV 2 hts (zgV gaR mR_283 mR_284 mR_285 mR_46 mR_279) rfl rfl rfl (by decide +kernel) ⟨Nat.le_of_ble_eq_true rfl, Nat.le_of_ble_eq_true rfl⟩) (va_recv hW.1 hW.2.1 (ci := 12) (q0 := 0) rfl rfl) rfl hl.1 rfl (Nat.le_of_ble_eq_true rfl) dX12_notches_137 (fun H locs hW => ?_)
              refine lv_if_ne (pc := 140) (tgt := 146) hx hb dX12_notches_140 (by decide) (fun c12 => ?_) (fun c12 => ?_)
              · have hf := zf c12 hf
                refine lv_aload_n (pc := 146) hx hb dX12_notches_146 rfl (lv_at hl 2 rfl) ?_
                refine lv_aload_n (pc := 147) hx hb dX12_notches_147 rfl (lv_at hl 2 rfl) ?_
                refine rg_46 (pc := 148) C0 hu_12 hW mR_37 dX12_notches_148 ?_
                refine lv_iload (pc := 151) hx hb dX12_notches_151 (lv_at hl 0 rfl) ?_
                obtain ⟨i13, hf⟩ := zn hf
                refine rl_46 (pc := 153) C0 hW i13 dX12_notches_153 ?_
                refine lv_l2i (pc := 154) (v := (Int64.toInt32 (S10.2.2 46 (Int32.toNatClampNeg ((60 * v1) + (Int64.toInt32 x2)))))) hx hb dX12_notches_154 rfl ?_
                refine lv_aload_n (pc := 155) hx hb dX12_notches_155 rfl (lv_at hl 2 rfl) ?_
                refine rg_46 (pc := 156) C0 hu_12 hW mR_37 dX12_notches_156 ?_
                refine lv_iload (pc := 159) hx hb dX12_notches_159 (lv_at hl 0 rfl) ?_
                refine lv_iconst (pc := 161) (v := 1) hx hb dX12_notches_161 (by decide) ?_
                refine lv_iadd (pc := 162) hx hb dX12_notches_162 ?_
                obtain ⟨i14, hf⟩ := zn hf
                refine rl_46 (pc := 163) C0 hW i14 dX12_notches_163 ?_
                refine lv_l2i (pc := 164) (v := (Int64.toInt32 (S10.2.2 46 (Int32.toNatClampNeg (((60 * v1) + (Int64.toInt32 x2)) + 1))))) hx hb dX12_notches_164 rfl ?_
                obtain ⟨S16, e17, hf⟩ := zU_e hf
                refine zcVv zTr_ok (As := [.int (Int64.toInt32 (S10.2.2 46 (Int32.toNatClampNeg ((60 * v1) + (Int64.toInt32 x2))))), .int (Int64.toInt32 (S10.2.2 46 (Int32.toNatClampNeg (((60 * v1) + (Int64.toInt32 x2)) + 1))))]) (pc := 165) C0 hW (kX12_addNotch l D cA h H.size (Int64.toInt32 (S10.2.2 46 (Int32.toNatClampNeg ((60 * v1) + (Int64.toInt32 x2))))) (Int64.toInt32 (S10.2.2 46 (Int32.toNatClampNeg (((60 * v1) + (Int64.toInt32 x2)) + 1)))) S10 S16 e17) (cwV 2 hts (zgV gaR mR_286 mR_287 mR_288 mR_46 mR_281) rfl rfl rfl (by decide +kernel) ⟨Nat.le_of_ble_eq_true rfl, Nat.le_of_ble_eq_true rfl⟩) (va_recv hW.1 hW.2.1 (ci := 12) (q0 := 0) rfl rfl) rfl hl.1 rfl (Nat.le_of_ble_eq_true rfl) dX12_notches_165 (fun H locs hW => ?_)
                refine lv_iinc (pc := 168) (v := (v4 + 1)) (lv' := [(4, .int (v4 + 1)), (7, .int ((60 * v1) + (Int64.toInt32 x2))), (5, .long x2), (0, .ref (h 0)), (1, .int v1), (2, .int v2), (3, .int v3)]) hx hb dX12_notches_168 hl (k := 6) rfl (by rfl) (by decide) rfl (fun ls hl => ?_)
                refine lv_goto (pc := 171) (tgt := 58) hx hb dX12_notches_171 (by decide) ?_
                exact ih v1 v2 v3 (v4 + 1) S16 H locs hW ls (lv_sub hl [3, 4, 5, 6, 0] rfl) hf
              · have hf := zt c12 hf
                refine lv_iload (pc := 143) hx hb dX12_notches_143 (lv_at hl 6 rfl) ?_
                exact zend_i (w := wR cA h) fin hf hW dX12_notches_145
            · have hf := zt c6 hf
              refine lv_iload (pc := 105) hx hb dX12_notches_105 (lv_at hl 5 rfl) ?_
              exact zend_i (w := wR cA h) fin hf hW dX12_notches_107
  have w43 : ∀ (v1 : Int32) (v2 : Int32) (v3 : Int32) (S : zSt) (H : Heap) (locs : List Loc), zW zTr D (tR cA) (wR cA h S) (aW (hsR h) s.heap.size) s H locs → ∀ ls : Array Slot, lv_has ls 8 [(0, .ref (h 0)), (1, .int v1), (2, .int v2), (3, .int v3)] → fX12_notches_b43 N v1 v2 v3 S = some (r, S1) → W p l e rmX12_notches s m args below meth c H locs 0 0 Q (F0 m 43 ls []) := by
    intro v1 v2 v3 S H locs hW ls hl hf
    unfold fX12_notches_b43 at hf
    refine lv_aload_n (pc := 43) hx hb dX12_notches_43 rfl (lv_at hl 0 rfl) ?_
    refine rg_44 (pc := 44) C0 hu_12 hW mR_34 dX12_notches_44 ?_
    refine lv_iload_n (pc := 47) hx hb dX12_notches_47 rfl (lv_at hl 1 rfl) ?_
    obtain ⟨i18, hf⟩ := zn hf
    refine rl_44 (pc := 48) C0 hW i18 dX12_notches_48 ?_
    refine lv_iconst (pc := 49) (v := (-1)) hx hb dX12_notches_49 (by decide) ?_
    refine lv_icmp_ne (pc := 50) (tgt := 55) hx hb dX12_notches_50 (by decide) (fun c19 => ?_) (fun c19 => ?_)
    · have hf := zf c19 hf
      refine lv_iconst (pc := 55) (v := 0) hx hb dX12_notches_55 (by decide) ?_
      refine lv_istore (pc := 56) (lv' := [(4, .int 0), (0, .ref (h 0)), (1, .int v1), (2, .int v2), (3, .int v3)]) hx hb dX12_notches_56 hl (by decide) rfl (fun ls hl => ?_)
      exact w58 N v1 v2 v3 0 S H locs hW ls (lv_sub hl [1, 2, 3, 4, 0] rfl) hf
    · have hf := zt c19 hf
      refine lv_iconst (pc := 53) (v := 0) hx hb dX12_notches_53 (by decide) ?_
      exact zend_i (w := wR cA h) fin hf hW dX12_notches_54
  unfold fX12_notches at hf
  refine lv_iload_n (pc := 0) hx hb dX12_notches_0 rfl (lv_at hl 1 rfl) ?_
  obtain ⟨r20, e22, hf⟩ := zU_e hf
  refine zcSi (As := [.int p1]) (pc := 1) C0 hW (kX12_isShelf l H.size p1 r20 e22) (va_cwS 1 hts (zgS gaR mR_290 mR_291 mR_46 mR_292) rfl rfl rfl (by decide +kernel) ⟨Nat.le_of_ble_eq_true rfl, Nat.le_of_ble_eq_true rfl⟩) rfl hl.1 rfl (Nat.le_of_ble_eq_true rfl) dX12_notches_1 (fun H locs hW => ?_)
  refine lv_if_eq (pc := 4) (tgt := 17) hx hb dX12_notches_4 (by decide) (fun c23 => ?_) (fun c23 => ?_)
  · have hf := zt c23 hf
    refine lv_iconst (pc := 17) (v := (-1)) hx hb dX12_notches_17 (by decide) ?_
    exact zend_i (w := wR cA h) fin hf hW dX12_notches_18
  · have hf := zf c23 hf
    refine lv_iload_n (pc := 7) hx hb dX12_notches_7 rfl (lv_at hl 3 rfl) ?_
    refine lv_iconst (pc := 8) (v := 1) hx hb dX12_notches_8 (by decide) ?_
    refine lv_bipush (pc := 9) (v := 20) hx hb dX12_notches_9 (by decide) ?_
    obtain ⟨r24, e26, hf⟩ := zU_e hf
    refine zcSi (As := [.int p3, .int 1, .int 20]) (pc := 11) C0 hW (kX12_in l H.size p3 1 20 r24 e26) (va_cwS 3 hts (zgS gaR mR_44 mR_45 mR_46 mR_39) rfl rfl rfl (by decide +kernel) ⟨Nat.le_of_ble_eq_true rfl, Nat.le_of_ble_eq_true rfl⟩) rfl hl.1 rfl (Nat.le_of_ble_eq_true rfl) dX12_notches_11 (fun H locs hW => ?_)
    refine lv_if_ne (pc := 14) (tgt := 19) hx hb dX12_notches_14 (by decide) (fun c27 => ?_) (fun c27 => ?_)
    · have hf := zf c27 hf
      refine lv_aload_n (pc := 19) hx hb dX12_notches_19 rfl (lv_at hl 0 rfl) ?_
      refine rg_44 (pc := 20) C0 hu_12 hW mR_34 dX12_notches_20 ?_
      refine lv_iload_n (pc := 23) hx hb dX12_notches_23 rfl (lv_at hl 1 rfl) ?_
      obtain ⟨i28, hf⟩ := zn hf
      refine rl_44 (pc := 24) C0 hW i28 dX12_notches_24 ?_
      refine lv_iconst (pc := 25) (v := (-1)) hx hb dX12_notches_25 (by decide) ?_
      refine lv_icmp_eq (pc := 26) (tgt := 43) hx hb dX12_notches_26 (by decide) (fun c29 => ?_) (fun c29 => ?_)
      · have hf := zt c29 hf
        exact w43 p1 p2 p3 S H locs hW ls (lv_sub hl [0, 1, 2, 3] rfl) hf
      · have hf := zf c29 hf
        refine lv_aload_n (pc := 29) hx hb dX12_notches_29 rfl (lv_at hl 0 rfl) ?_
        refine rg_44 (pc := 30) C0 hu_12 hW mR_34 dX12_notches_30 ?_
        refine lv_iload_n (pc := 33) hx hb dX12_notches_33 rfl (lv_at hl 1 rfl) ?_
        obtain ⟨i30, hf⟩ := zn hf
        refine rl_44 (pc := 34) C0 hW i30 dX12_notches_34 ?_
        refine lv_bipush (pc := 35) (v := (-2)) hx hb dX12_notches_35 (by decide) ?_
        refine lv_icmp_eq (pc := 37) (tgt := 43) hx hb dX12_notches_37 (by decide) (fun c31 => ?_) (fun c31 => ?_)
        · have hf := zt c31 hf
          exact w43 p1 p2 p3 S H locs hW ls (lv_sub hl [0, 1, 2, 3] rfl) hf
        · have hf := zf c31 hf
          refine lv_bipush (pc := 40) (v := (-12)) hx hb dX12_notches_40 (by decide) ?_
          exact zend_i (w := wR cA h) fin hf hW dX12_notches_42
    · have hf := zt c27 hf
      refine lv_iconst (pc := 17) (v := (-1)) hx hb dX12_notches_17 (by decide) ?_
      exact zend_i (w := wR cA h) fin hf hW dX12_notches_18

def fX12_offOf_b4 (N : Nat) : Nat → Int32 → Int32 → Int32 → zSt → Option (Int32 × zSt)
  | 0, _, _, _, _ => none
  | n + 1, v1, v2, v3, S =>
    if (S.1 37) ≤ v3 then (some (v2, S)) else (if zin v3 20 then zB (fX12_riseBy N v1 (S.2.1 38 (Int32.toNatClampNeg v3)) S) fun r3 S4 => if zin v3 20 then zU (fX12_sizeOf (r3 - (S4.2.1 39 (Int32.toNatClampNeg v3)))) fun r7 => fX12_offOf_b4 N n v1 (v2 + r7) (v3 + 1) S4 else none else none)
def fX12_offOf (N : Nat) (p1 : Int32) (S : zSt) : Option (Int32 × zSt) :=
  fX12_offOf_b4 N N p1 0 0 S
abbrev wX12_offOf : List Cond := Cond.code yX12_offOf cX12_offOf 4 (some .int) :: waR
abbrev rmX12_offOf : Room := { frames := 4, cells := 0, slots := 0, locals := 93 }
set_option maxHeartbeats 4000000 in
set_option maxRecDepth 100000 in
theorem kX12_offOf (l : Launch) (D : va_G) (cA : Nat → ClassId) (h : Nat → Nat) (sz : Nat) (N : Nat)  (p1 : Int32) (S : zSt) (r : Int32) (S1 : zSt) (hf : fX12_offOf N p1 S = some (r, S1)) : zMi l yX12_offOf wX12_offOf rmX12_offOf zTr D (tR cA) (hsR h) [.ref (h 0), .int p1] (wR cA h S) (wR cA h S1) sz r := by
  refine zEn_i (cc := cX12_offOf) (maxL := 4) (own := RX12) (by decide) rfl rfl (hmR cA h S) (Nat.le_of_ble_eq_true rfl) ?_
  intro p e s m args below meth c Q H locs C0 hW fin ls hl
  have hl : lv_has ls 4 [(0, .ref (h 0)), (1, .int p1)] := hl
  have hx := C0.1
  have hb := C0.2.1
  have hown := C0.2.2.2.1
  have hts := C0.2.2.2.2
  have w4 : ∀ (n : Nat), ∀ (v1 : Int32) (v2 : Int32) (v3 : Int32) (S : zSt) (H : Heap) (locs : List Loc), zW zTr D (tR cA) (wR cA h S) (aW (hsR h) s.heap.size) s H locs → ∀ ls : Array Slot, lv_has ls 4 [(0, .ref (h 0)), (1, .int v1), (2, .int v2), (3, .int v3)] → fX12_offOf_b4 N n v1 v2 v3 S = some (r, S1) → W p l e rmX12_offOf s m args below meth c H locs 0 0 Q (F0 m 4 ls []) := by
    intro n
    induction n with
    | zero =>
      intro v1 v2 v3 S H locs hW ls hl hf
      exact absurd hf (by intro h; cases h)
    | succ n ih =>
      intro v1 v2 v3 S H locs hW ls hl hf
      rw [fX12_offOf_b4] at hf
      refine lv_iload_n (pc := 4) hx hb dX12_offOf_4 rfl (lv_at hl 3 rfl) ?_
      refine lv_aload_n (pc := 5) hx hb dX12_offOf_5 rfl (lv_at hl 0 rfl) ?_
      refine rg_37 (pc := 6) C0 hu_12 hW mR_280 dX12_offOf_6 ?_
      refine lv_icmp_ge (pc := 9) (tgt := 42) hx hb dX12_offOf_9 (by decide) (fun c1 => ?_) (fun c1 => ?_)
      · have hf := zt c1 hf
        refine lv_iload_n (pc := 42) hx hb dX12_offOf_42 rfl (lv_at hl 2 rfl) ?_
        exact zend_i (w := wR cA h) fin hf hW dX12_offOf_43
      · have hf := zf c1 hf
        refine lv_iload_n (pc := 12) hx hb dX12_offOf_12 rfl (lv_at hl 2 rfl) ?_
        refine lv_aload_n (pc := 13) hx hb dX12_offOf_13 rfl (lv_at hl 0 rfl) ?_
        refine lv_iload_n (pc := 14) hx hb dX12_offOf_14 rfl (lv_at hl 1 rfl) ?_
        refine lv_aload_n (pc := 15) hx hb dX12_offOf_15 rfl (lv_at hl 0 rfl) ?_
        refine rg_38 (pc := 16) C0 hu_12 hW mR_30 dX12_offOf_16 ?_
        refine lv_iload_n (pc := 19) hx hb dX12_offOf_19 rfl (lv_at hl 3 rfl) ?_
        obtain ⟨i2, hf⟩ := zn hf
        refine rl_38 (pc := 20) C0 hW i2 dX12_offOf_20 ?_
        obtain ⟨r3, S4, e5, hf⟩ := zB_e hf
        refine zcVi zTr_ok (As := [.int v1, .int (S.2.1 38 (Int32.toNatClampNeg v3))]) (pc := 21) C0 hW (kX12_riseBy l D cA h H.size N v1 (S.2.1 38 (Int32.toNatClampNeg v3)) S r3 S4 e5) (cwV 2 hts (zgV gaR mR_182 mR_183 mR_184 mR_46 mR_172) rfl rfl rfl (by decide +kernel) ⟨Nat.le_of_ble_eq_true rfl, Nat.le_of_ble_eq_true rfl⟩) (va_recv hW.1 hW.2.1 (ci := 12) (q0 := 0) rfl rfl) rfl hl.1 rfl (Nat.le_of_ble_eq_true rfl) dX12_offOf_21 (fun H locs hW => ?_)
        refine lv_aload_n (pc := 24) hx hb dX12_offOf_24 rfl (lv_at hl 0 rfl) ?_
        refine rg_39 (pc := 25) C0 hu_12 hW mR_31 dX12_offOf_25 ?_
        refine lv_iload_n (pc := 28) hx hb dX12_offOf_28 rfl (lv_at hl 3 rfl) ?_
        obtain ⟨i6, hf⟩ := zn hf
        refine rl_39 (pc := 29) C0 hW i6 dX12_offOf_29 ?_
        refine lv_isub (pc := 30) hx hb dX12_offOf_30 ?_
        obtain ⟨r7, e9, hf⟩ := zU_e hf
        refine zcSi (As := [.int (r3 - (S4.2.1 39 (Int32.toNatClampNeg v3)))]) (pc := 31) C0 hW (kX12_sizeOf l H.size (r3 - (S4.2.1 39 (Int32.toNatClampNeg v3))) r7 e9) (va_cwS 1 hts (zgS gaR mR_277 mR_278 mR_46 mR_40) rfl rfl rfl (by decide +kernel) ⟨Nat.le_of_ble_eq_true rfl, Nat.le_of_ble_eq_true rfl⟩) rfl hl.1 rfl (Nat.le_of_ble_eq_true rfl) dX12_offOf_31 (fun H locs hW => ?_)
        refine lv_iadd (pc := 34) hx hb dX12_offOf_34 ?_
        refine lv_istore_n (pc := 35) (lv' := [(2, .int (v2 + r7)), (0, .ref (h 0)), (1, .int v1), (3, .int v3)]) hx hb dX12_offOf_35 rfl hl (by decide) rfl (fun ls hl => ?_)
        refine lv_iinc (pc := 36) (v := (v3 + 1)) (lv' := [(3, .int (v3 + 1)), (2, .int (v2 + r7)), (0, .ref (h 0)), (1, .int v1)]) hx hb dX12_offOf_36 hl (k := 3) rfl (by rfl) (by decide) rfl (fun ls hl => ?_)
        refine lv_goto (pc := 39) (tgt := 4) hx hb dX12_offOf_39 (by decide) ?_
        exact ih v1 (v2 + r7) (v3 + 1) S4 H locs hW ls (lv_sub hl [2, 3, 1, 0] rfl) hf
  unfold fX12_offOf at hf
  refine lv_iconst (pc := 0) (v := 0) hx hb dX12_offOf_0 (by decide) ?_
  refine lv_istore_n (pc := 1) (lv' := [(2, .int 0), (0, .ref (h 0)), (1, .int p1)]) hx hb dX12_offOf_1 rfl hl (by decide) rfl (fun ls hl => ?_)
  refine lv_iconst (pc := 2) (v := 0) hx hb dX12_offOf_2 (by decide) ?_
  refine lv_istore_n (pc := 3) (lv' := [(3, .int 0), (2, .int 0), (0, .ref (h 0)), (1, .int p1)]) hx hb dX12_offOf_3 rfl hl (by decide) rfl (fun ls hl => ?_)
  exact w4 N p1 0 0 S H locs hW ls (lv_sub hl [2, 3, 1, 0] rfl) hf

def fX12_off (N : Nat) (p1 : Int32) (S : zSt) : Option (Int32 × zSt) :=
  zB (fX12_isLaw p1 S) fun r1 S2 => if r1 = 0 then (some ((-1), S2)) else (if (S2.1 37) = 0 then (some ((-5), S2)) else (zB (fX12_offOf N p1 S2) fun r6 S7 => some (r6, S7)))
abbrev wX12_off : List Cond := Cond.code yX12_off cX12_off 2 (some .int) :: waR
abbrev rmX12_off : Room := { frames := 5, cells := 0, slots := 0, locals := 116 }
set_option maxHeartbeats 4000000 in
set_option maxRecDepth 100000 in
theorem kX12_off (l : Launch) (D : va_G) (cA : Nat → ClassId) (h : Nat → Nat) (sz : Nat) (N : Nat)  (p1 : Int32) (S : zSt) (r : Int32) (S1 : zSt) (hf : fX12_off N p1 S = some (r, S1)) : zMi l yX12_off wX12_off rmX12_off zTr D (tR cA) (hsR h) [.ref (h 0), .int p1] (wR cA h S) (wR cA h S1) sz r := by
  refine zEn_i (cc := cX12_off) (maxL := 2) (own := RX12) (by decide) rfl rfl (hmR cA h S) (Nat.le_of_ble_eq_true rfl) ?_
  intro p e s m args below meth c Q H locs C0 hW fin ls hl
  have hl : lv_has ls 2 [(0, .ref (h 0)), (1, .int p1)] := hl
  have hx := C0.1
  have hb := C0.2.1
  have hown := C0.2.2.2.1
  have hts := C0.2.2.2.2
  unfold fX12_off at hf
  refine lv_aload_n (pc := 0) hx hb dX12_off_0 rfl (lv_at hl 0 rfl) ?_
  refine lv_iload_n (pc := 1) hx hb dX12_off_1 rfl (lv_at hl 1 rfl) ?_
  obtain ⟨r1, S2, e3, hf⟩ := zB_e hf
  refine zcVi zTr_ok (As := [.int p1]) (pc := 2) C0 hW (kX12_isLaw l D cA h H.size p1 S r1 S2 e3) (cwV 1 hts (zgV gaR mR_166 mR_167 mR_168 mR_46 mR_158) rfl rfl rfl (by decide +kernel) ⟨Nat.le_of_ble_eq_true rfl, Nat.le_of_ble_eq_true rfl⟩) (va_recv hW.1 hW.2.1 (ci := 12) (q0 := 0) rfl rfl) rfl hl.1 rfl (Nat.le_of_ble_eq_true rfl) dX12_off_2 (fun H locs hW => ?_)
  refine lv_if_ne (pc := 5) (tgt := 12) hx hb dX12_off_5 (by decide) (fun c4 => ?_) (fun c4 => ?_)
  · have hf := zf c4 hf
    refine lv_aload_n (pc := 12) hx hb dX12_off_12 rfl (lv_at hl 0 rfl) ?_
    refine rg_37 (pc := 13) C0 hu_12 hW mR_280 dX12_off_13 ?_
    refine lv_if_ne (pc := 16) (tgt := 24) hx hb dX12_off_16 (by decide) (fun c5 => ?_) (fun c5 => ?_)
    · have hf := zf c5 hf
      refine lv_aload_n (pc := 24) hx hb dX12_off_24 rfl (lv_at hl 0 rfl) ?_
      refine lv_iload_n (pc := 25) hx hb dX12_off_25 rfl (lv_at hl 1 rfl) ?_
      obtain ⟨r6, S7, e8, hf⟩ := zB_e hf
      refine zcVi zTr_ok (As := [.int p1]) (pc := 26) C0 hW (kX12_offOf l D cA h H.size N p1 S2 r6 S7 e8) (cwV 1 hts (zgV gaR mR_295 mR_296 mR_297 mR_46 mR_293) rfl rfl rfl (by decide +kernel) ⟨Nat.le_of_ble_eq_true rfl, Nat.le_of_ble_eq_true rfl⟩) (va_recv hW.1 hW.2.1 (ci := 12) (q0 := 0) rfl rfl) rfl hl.1 rfl (Nat.le_of_ble_eq_true rfl) dX12_off_26 (fun H locs hW => ?_)
      exact zend_i (w := wR cA h) fin hf hW dX12_off_29
    · have hf := zt c5 hf
      refine lv_bipush (pc := 19) (v := (-5)) hx hb dX12_off_19 (by decide) ?_
      refine lv_goto (pc := 21) (tgt := 29) hx hb dX12_off_21 (by decide) ?_
      exact zend_i (w := wR cA h) fin hf hW dX12_off_29
  · have hf := zt c4 hf
    refine lv_iconst (pc := 8) (v := (-1)) hx hb dX12_off_8 (by decide) ?_
    refine lv_goto (pc := 9) (tgt := 29) hx hb dX12_off_9 (by decide) ?_
    exact zend_i (w := wR cA h) fin hf hW dX12_off_29

def fX12_fit_b21 (N : Nat) : Nat → Int32 → Int32 → zSt → Option (Int32 × zSt)
  | 0, _, _, _ => none
  | n + 1, v1, v2, S =>
    if (S.1 24) ≤ v2 then (some (v1, S)) else (zB (fX12_offOf N v2 S) fun r2 S3 => zB (fX12_offOf N v1 S3) fun r5 S6 => if r5 ≤ r2 then (fX12_fit_b21 N n v1 (v2 + 1) S6) else (fX12_fit_b21 N n v2 (v2 + 1) S6))
def fX12_fit (N : Nat) (S : zSt) : Option (Int32 × zSt) :=
  if (S.1 37) = 0 then (some ((-5), S)) else (if (S.1 24) = 0 then (some ((-5), S)) else (fX12_fit_b21 N N 0 1 S))
abbrev wX12_fit : List Cond := Cond.code yX12_fit cX12_fit 3 (some .int) :: waR
abbrev rmX12_fit : Room := { frames := 5, cells := 0, slots := 0, locals := 116 }
set_option maxHeartbeats 4000000 in
set_option maxRecDepth 100000 in
theorem kX12_fit (l : Launch) (D : va_G) (cA : Nat → ClassId) (h : Nat → Nat) (sz : Nat) (N : Nat)   (S : zSt) (r : Int32) (S1 : zSt) (hf : fX12_fit N S = some (r, S1)) : zMi l yX12_fit wX12_fit rmX12_fit zTr D (tR cA) (hsR h) [.ref (h 0)] (wR cA h S) (wR cA h S1) sz r := by
  refine zEn_i (cc := cX12_fit) (maxL := 3) (own := RX12) (by decide) rfl rfl (hmR cA h S) (Nat.le_of_ble_eq_true rfl) ?_
  intro p e s m args below meth c Q H locs C0 hW fin ls hl
  have hl : lv_has ls 3 [(0, .ref (h 0))] := hl
  have hx := C0.1
  have hb := C0.2.1
  have hown := C0.2.2.2.1
  have hts := C0.2.2.2.2
  have w21 : ∀ (n : Nat), ∀ (v1 : Int32) (v2 : Int32) (S : zSt) (H : Heap) (locs : List Loc), zW zTr D (tR cA) (wR cA h S) (aW (hsR h) s.heap.size) s H locs → ∀ ls : Array Slot, lv_has ls 3 [(0, .ref (h 0)), (1, .int v1), (2, .int v2)] → fX12_fit_b21 N n v1 v2 S = some (r, S1) → W p l e rmX12_fit s m args below meth c H locs 0 0 Q (F0 m 21 ls []) := by
    intro n
    induction n with
    | zero =>
      intro v1 v2 S H locs hW ls hl hf
      exact absurd hf (by intro h; cases h)
    | succ n ih =>
      intro v1 v2 S H locs hW ls hl hf
      rw [fX12_fit_b21] at hf
      refine lv_iload_n (pc := 21) hx hb dX12_fit_21 rfl (lv_at hl 2 rfl) ?_
      refine lv_aload_n (pc := 22) hx hb dX12_fit_22 rfl (lv_at hl 0 rfl) ?_
      refine rg_24 (pc := 23) C0 hu_12 hW mR_159 dX12_fit_23 ?_
      refine lv_icmp_ge (pc := 26) (tgt := 50) hx hb dX12_fit_26 (by decide) (fun c1 => ?_) (fun c1 => ?_)
      · have hf := zt c1 hf
        refine lv_iload_n (pc := 50) hx hb dX12_fit_50 rfl (lv_at hl 1 rfl) ?_
        exact zend_i (w := wR cA h) fin hf hW dX12_fit_51
      · have hf := zf c1 hf
        refine lv_aload_n (pc := 29) hx hb dX12_fit_29 rfl (lv_at hl 0 rfl) ?_
        refine lv_iload_n (pc := 30) hx hb dX12_fit_30 rfl (lv_at hl 2 rfl) ?_
        obtain ⟨r2, S3, e4, hf⟩ := zB_e hf
        refine zcVi zTr_ok (As := [.int v2]) (pc := 31) C0 hW (kX12_offOf l D cA h H.size N v2 S r2 S3 e4) (cwV 1 hts (zgV gaR mR_295 mR_296 mR_297 mR_46 mR_293) rfl rfl rfl (by decide +kernel) ⟨Nat.le_of_ble_eq_true rfl, Nat.le_of_ble_eq_true rfl⟩) (va_recv hW.1 hW.2.1 (ci := 12) (q0 := 0) rfl rfl) rfl hl.1 rfl (Nat.le_of_ble_eq_true rfl) dX12_fit_31 (fun H locs hW => ?_)
        refine lv_aload_n (pc := 34) hx hb dX12_fit_34 rfl (lv_at hl 0 rfl) ?_
        refine lv_iload_n (pc := 35) hx hb dX12_fit_35 rfl (lv_at hl 1 rfl) ?_
        obtain ⟨r5, S6, e7, hf⟩ := zB_e hf
        refine zcVi zTr_ok (As := [.int v1]) (pc := 36) C0 hW (kX12_offOf l D cA h H.size N v1 S3 r5 S6 e7) (cwV 1 hts (zgV gaR mR_295 mR_296 mR_297 mR_46 mR_293) rfl rfl rfl (by decide +kernel) ⟨Nat.le_of_ble_eq_true rfl, Nat.le_of_ble_eq_true rfl⟩) (va_recv hW.1 hW.2.1 (ci := 12) (q0 := 0) rfl rfl) rfl hl.1 rfl (Nat.le_of_ble_eq_true rfl) dX12_fit_36 (fun H locs hW => ?_)
        refine lv_icmp_ge (pc := 39) (tgt := 44) hx hb dX12_fit_39 (by decide) (fun c8 => ?_) (fun c8 => ?_)
        · have hf := zt c8 hf
          refine lv_iinc (pc := 44) (v := (v2 + 1)) (lv' := [(2, .int (v2 + 1)), (0, .ref (h 0)), (1, .int v1)]) hx hb dX12_fit_44 hl (k := 2) rfl (by rfl) (by decide) rfl (fun ls hl => ?_)
          refine lv_goto (pc := 47) (tgt := 21) hx hb dX12_fit_47 (by decide) ?_
          exact ih v1 (v2 + 1) S6 H locs hW ls (lv_sub hl [1, 2, 0] rfl) hf
        · have hf := zf c8 hf
          refine lv_iload_n (pc := 42) hx hb dX12_fit_42 rfl (lv_at hl 2 rfl) ?_
          refine lv_istore_n (pc := 43) (lv' := [(1, .int v2), (0, .ref (h 0)), (2, .int v2)]) hx hb dX12_fit_43 rfl hl (by decide) rfl (fun ls hl => ?_)
          refine lv_iinc (pc := 44) (v := (v2 + 1)) (lv' := [(2, .int (v2 + 1)), (1, .int v2), (0, .ref (h 0))]) hx hb dX12_fit_44 hl (k := 2) rfl (by rfl) (by decide) rfl (fun ls hl => ?_)
          refine lv_goto (pc := 47) (tgt := 21) hx hb dX12_fit_47 (by decide) ?_
          exact ih v2 (v2 + 1) S6 H locs hW ls (lv_sub hl [2, 1, 0] rfl) hf
  unfold fX12_fit at hf
  refine lv_aload_n (pc := 0) hx hb dX12_fit_0 rfl (lv_at hl 0 rfl) ?_
  refine rg_37 (pc := 1) C0 hu_12 hW mR_280 dX12_fit_1 ?_
  refine lv_if_eq (pc := 4) (tgt := 14) hx hb dX12_fit_4 (by decide) (fun c9 => ?_) (fun c9 => ?_)
  · have hf := zt c9 hf
    refine lv_bipush (pc := 14) (v := (-5)) hx hb dX12_fit_14 (by decide) ?_
    exact zend_i (w := wR cA h) fin hf hW dX12_fit_16
  · have hf := zf c9 hf
    refine lv_aload_n (pc := 7) hx hb dX12_fit_7 rfl (lv_at hl 0 rfl) ?_
    refine rg_24 (pc := 8) C0 hu_12 hW mR_159 dX12_fit_8 ?_
    refine lv_if_ne (pc := 11) (tgt := 17) hx hb dX12_fit_11 (by decide) (fun c10 => ?_) (fun c10 => ?_)
    · have hf := zf c10 hf
      refine lv_iconst (pc := 17) (v := 0) hx hb dX12_fit_17 (by decide) ?_
      refine lv_istore_n (pc := 18) (lv' := [(1, .int 0), (0, .ref (h 0))]) hx hb dX12_fit_18 rfl hl (by decide) rfl (fun ls hl => ?_)
      refine lv_iconst (pc := 19) (v := 1) hx hb dX12_fit_19 (by decide) ?_
      refine lv_istore_n (pc := 20) (lv' := [(2, .int 1), (1, .int 0), (0, .ref (h 0))]) hx hb dX12_fit_20 rfl hl (by decide) rfl (fun ls hl => ?_)
      exact w21 N 0 1 S H locs hW ls (lv_sub hl [2, 1, 0] rfl) hf
    · have hf := zt c10 hf
      refine lv_bipush (pc := 14) (v := (-5)) hx hb dX12_fit_14 (by decide) ?_
      exact zend_i (w := wR cA h) fin hf hW dX12_fit_16

def fX12_isBody (p1 : Int32) (S : zSt) : Option (Int32 × zSt) :=
  zU (fX12_in p1 0 ((S.1 40) - 1)) fun r1 => if zbit r1 then some (r1, S) else none
abbrev wX12_isBody : List Cond := Cond.code yX12_isBody cX12_isBody 2 (some .boolean) :: waR
abbrev rmX12_isBody : Room := { frames := 1, cells := 0, slots := 0, locals := 22 }
set_option maxHeartbeats 4000000 in
set_option maxRecDepth 100000 in
theorem kX12_isBody (l : Launch) (D : va_G) (cA : Nat → ClassId) (h : Nat → Nat) (sz : Nat)  (p1 : Int32) (S : zSt) (r : Int32) (S1 : zSt) (hf : fX12_isBody p1 S = some (r, S1)) : zMi l yX12_isBody wX12_isBody rmX12_isBody zTr D (tR cA) (hsR h) [.ref (h 0), .int p1] (wR cA h S) (wR cA h S1) sz r := by
  refine zEn_z (cc := cX12_isBody) (maxL := 2) (own := RX12) (by decide) rfl rfl (hmR cA h S) (Nat.le_of_ble_eq_true rfl) ?_
  intro p e s m args below meth c Q H locs C0 hW fin ls hl
  have hl : lv_has ls 2 [(0, .ref (h 0)), (1, .int p1)] := hl
  have hx := C0.1
  have hb := C0.2.1
  have hown := C0.2.2.2.1
  have hts := C0.2.2.2.2
  unfold fX12_isBody at hf
  refine lv_iload_n (pc := 0) hx hb dX12_isBody_0 rfl (lv_at hl 1 rfl) ?_
  refine lv_iconst (pc := 1) (v := 0) hx hb dX12_isBody_1 (by decide) ?_
  refine lv_aload_n (pc := 2) hx hb dX12_isBody_2 rfl (lv_at hl 0 rfl) ?_
  refine rg_40 (pc := 3) C0 hu_12 hW mR_300 dX12_isBody_3 ?_
  refine lv_iconst (pc := 6) (v := 1) hx hb dX12_isBody_6 (by decide) ?_
  refine lv_isub (pc := 7) hx hb dX12_isBody_7 ?_
  obtain ⟨r1, e3, hf⟩ := zU_e hf
  refine zcSi (As := [.int p1, .int 0, .int ((S.1 40) - 1)]) (pc := 8) C0 hW (kX12_in l H.size p1 0 ((S.1 40) - 1) r1 e3) (va_cwS 3 hts (zgS gaR mR_44 mR_45 mR_46 mR_39) rfl rfl rfl (by decide +kernel) ⟨Nat.le_of_ble_eq_true rfl, Nat.le_of_ble_eq_true rfl⟩) rfl hl.1 rfl (Nat.le_of_ble_eq_true rfl) dX12_isBody_8 (fun H locs hW => ?_)
  obtain ⟨i4, hf⟩ := zn hf
  exact zend_z (w := wR cA h) fin hf i4 hW dX12_isBody_11

def fX12_ran_b19  (S : zSt) : Option zSt :=
  zL (zI S 42 ((S.1 42) + 1)) fun S1 => some S1
def fX12_ran (p1 : Int32) (S : zSt) : Option zSt :=
  if 24 ≤ (S.1 42) then (fX12_ran_b19 S) else (if zin (S.1 42) 24 then zL (zA S 43 (Int32.toNatClampNeg (S.1 42)) p1) fun S4 => fX12_ran_b19 S4 else none)
abbrev wX12_ran : List Cond := Cond.code yX12_ran cX12_ran 2 none :: waR
abbrev rmX12_ran : Room := { frames := 0, cells := 0, slots := 0, locals := 0 }
set_option maxHeartbeats 4000000 in
set_option maxRecDepth 100000 in
theorem kX12_ran (l : Launch) (D : va_G) (cA : Nat → ClassId) (h : Nat → Nat) (sz : Nat)  (p1 : Int32) (S : zSt) (S1 : zSt) (hf : fX12_ran p1 S = some S1) : zMv l yX12_ran wX12_ran rmX12_ran zTr D (tR cA) (hsR h) [.ref (h 0), .int p1] (wR cA h S) (wR cA h S1) sz := by
  refine zEn_v (cc := cX12_ran) (maxL := 2) (own := RX12) (by decide) rfl rfl (hmR cA h S) (Nat.le_of_ble_eq_true rfl) ?_
  intro p e s m args below meth c Q H locs C0 hW fin ls hl
  have hl : lv_has ls 2 [(0, .ref (h 0)), (1, .int p1)] := hl
  have hx := C0.1
  have hb := C0.2.1
  have hown := C0.2.2.2.1
  have hts := C0.2.2.2.2
  have w19 : ∀  (S : zSt) (H : Heap) (locs : List Loc), zW zTr D (tR cA) (wR cA h S) (aW (hsR h) s.heap.size) s H locs → ∀ ls : Array Slot, lv_has ls 2 [(0, .ref (h 0))] → fX12_ran_b19 S = some S1 → W p l e rmX12_ran s m args below meth c H locs 0 0 Q (F0 m 19 ls []) := by
    intro S H locs hW ls hl hf
    unfold fX12_ran_b19 at hf
    refine lv_aload_n (pc := 19) hx hb dX12_ran_19 rfl (lv_at hl 0 rfl) ?_
    refine lv_dup (pc := 20) hx hb dX12_ran_20 rfl ?_
    refine rg_42 (pc := 21) C0 hu_12 hW mR_302 dX12_ran_21 ?_
    refine lv_iconst (pc := 24) (v := 1) hx hb dX12_ran_24 (by decide) ?_
    refine lv_iadd (pc := 25) hx hb dX12_ran_25 ?_
    obtain ⟨S1, e_S1, hf⟩ := zL_e hf
    refine rp_42 (pc := 26) C0 hu_12 hW mR_302 e_S1 dX12_ran_26 (fun H locs hW => ?_)
    exact zend_v (w := wR cA h) fin hf hW dX12_ran_29
  unfold fX12_ran at hf
  refine lv_aload_n (pc := 0) hx hb dX12_ran_0 rfl (lv_at hl 0 rfl) ?_
  refine rg_42 (pc := 1) C0 hu_12 hW mR_302 dX12_ran_1 ?_
  refine lv_bipush (pc := 4) (v := 24) hx hb dX12_ran_4 (by decide) ?_
  refine lv_icmp_ge (pc := 6) (tgt := 19) hx hb dX12_ran_6 (by decide) (fun c2 => ?_) (fun c2 => ?_)
  · have hf := zt c2 hf
    exact w19 S H locs hW ls (lv_sub hl [0] rfl) hf
  · have hf := zf c2 hf
    refine lv_aload_n (pc := 9) hx hb dX12_ran_9 rfl (lv_at hl 0 rfl) ?_
    refine rg_43 (pc := 10) C0 hu_12 hW mR_33 dX12_ran_10 ?_
    refine lv_aload_n (pc := 13) hx hb dX12_ran_13 rfl (lv_at hl 0 rfl) ?_
    refine rg_42 (pc := 14) C0 hu_12 hW mR_302 dX12_ran_14 ?_
    refine lv_iload_n (pc := 17) hx hb dX12_ran_17 rfl (lv_at hl 1 rfl) ?_
    obtain ⟨i3, hf⟩ := zn hf
    obtain ⟨S4, e_S4, hf⟩ := zL_e hf
    refine rs_43 (pc := 18) C0 hW i3 e_S4 dX12_ran_18 (fun H locs hW => ?_)
    exact w19 S4 H locs hW ls (lv_sub hl [0] rfl) hf

def fX12_trace (p1 : Int32) (S : zSt) : Option (Int32 × zSt) :=
  if p1 < 0 then (some ((-1), S)) else (if (S.1 42) ≤ p1 then (some ((-1), S)) else (if 24 ≤ p1 then (some ((-1), S)) else (if zin p1 24 then some ((S.2.1 43 (Int32.toNatClampNeg p1)), S) else none)))
abbrev wX12_trace : List Cond := Cond.code yX12_trace cX12_trace 2 (some .int) :: waR
abbrev rmX12_trace : Room := { frames := 0, cells := 0, slots := 0, locals := 0 }
set_option maxHeartbeats 4000000 in
set_option maxRecDepth 100000 in
theorem kX12_trace (l : Launch) (D : va_G) (cA : Nat → ClassId) (h : Nat → Nat) (sz : Nat)  (p1 : Int32) (S : zSt) (r : Int32) (S1 : zSt) (hf : fX12_trace p1 S = some (r, S1)) : zMi l yX12_trace wX12_trace rmX12_trace zTr D (tR cA) (hsR h) [.ref (h 0), .int p1] (wR cA h S) (wR cA h S1) sz r := by
  refine zEn_i (cc := cX12_trace) (maxL := 2) (own := RX12) (by decide) rfl rfl (hmR cA h S) (Nat.le_of_ble_eq_true rfl) ?_
  intro p e s m args below meth c Q H locs C0 hW fin ls hl
  have hl : lv_has ls 2 [(0, .ref (h 0)), (1, .int p1)] := hl
  have hx := C0.1
  have hb := C0.2.1
  have hown := C0.2.2.2.1
  have hts := C0.2.2.2.2
  unfold fX12_trace at hf
  refine lv_iload_n (pc := 0) hx hb dX12_trace_0 rfl (lv_at hl 1 rfl) ?_
  refine lv_if_lt (pc := 1) (tgt := 27) hx hb dX12_trace_1 (by decide) (fun c1 => ?_) (fun c1 => ?_)
  · have hf := zt c1 hf
    refine lv_iconst (pc := 27) (v := (-1)) hx hb dX12_trace_27 (by decide) ?_
    exact zend_i (w := wR cA h) fin hf hW dX12_trace_28
  · have hf := zf c1 hf
    refine lv_iload_n (pc := 4) hx hb dX12_trace_4 rfl (lv_at hl 1 rfl) ?_
    refine lv_aload_n (pc := 5) hx hb dX12_trace_5 rfl (lv_at hl 0 rfl) ?_
    refine rg_42 (pc := 6) C0 hu_12 hW mR_302 dX12_trace_6 ?_
    refine lv_icmp_ge (pc := 9) (tgt := 27) hx hb dX12_trace_9 (by decide) (fun c2 => ?_) (fun c2 => ?_)
    · have hf := zt c2 hf
      refine lv_iconst (pc := 27) (v := (-1)) hx hb dX12_trace_27 (by decide) ?_
      exact zend_i (w := wR cA h) fin hf hW dX12_trace_28
    · have hf := zf c2 hf
      refine lv_iload_n (pc := 12) hx hb dX12_trace_12 rfl (lv_at hl 1 rfl) ?_
      refine lv_bipush (pc := 13) (v := 24) hx hb dX12_trace_13 (by decide) ?_
      refine lv_icmp_ge (pc := 15) (tgt := 27) hx hb dX12_trace_15 (by decide) (fun c3 => ?_) (fun c3 => ?_)
      · have hf := zt c3 hf
        refine lv_iconst (pc := 27) (v := (-1)) hx hb dX12_trace_27 (by decide) ?_
        exact zend_i (w := wR cA h) fin hf hW dX12_trace_28
      · have hf := zf c3 hf
        refine lv_aload_n (pc := 18) hx hb dX12_trace_18 rfl (lv_at hl 0 rfl) ?_
        refine rg_43 (pc := 19) C0 hu_12 hW mR_33 dX12_trace_19 ?_
        refine lv_iload_n (pc := 22) hx hb dX12_trace_22 rfl (lv_at hl 1 rfl) ?_
        obtain ⟨i4, hf⟩ := zn hf
        refine rl_43 (pc := 23) C0 hW i4 dX12_trace_23 ?_
        refine lv_goto (pc := 24) (tgt := 28) hx hb dX12_trace_24 (by decide) ?_
        exact zend_i (w := wR cA h) fin hf hW dX12_trace_28

def fX12_body (p1 : Int32) (S : zSt) : Option (Int32 × zSt) :=
  zU (fX12_in p1 0 7) fun r1 => if r1 = 0 then (some ((-1), S)) else (if (S.1 40) = 50 then (some ((-3), S)) else (if zin (S.1 40) 50 then zL (zA S 41 (Int32.toNatClampNeg (S.1 40)) p1) fun S7 => zL (zI S7 40 ((S7.1 40) + 1)) fun S8 => some (((S8.1 40) - 1), S8) else none))
abbrev wX12_body : List Cond := Cond.code yX12_body cX12_body 2 (some .int) :: waR
abbrev rmX12_body : Room := { frames := 1, cells := 0, slots := 0, locals := 22 }
set_option maxHeartbeats 4000000 in
set_option maxRecDepth 100000 in
theorem kX12_body (l : Launch) (D : va_G) (cA : Nat → ClassId) (h : Nat → Nat) (sz : Nat)  (p1 : Int32) (S : zSt) (r : Int32) (S1 : zSt) (hf : fX12_body p1 S = some (r, S1)) : zMi l yX12_body wX12_body rmX12_body zTr D (tR cA) (hsR h) [.ref (h 0), .int p1] (wR cA h S) (wR cA h S1) sz r := by
  refine zEn_i (cc := cX12_body) (maxL := 2) (own := RX12) (by decide) rfl rfl (hmR cA h S) (Nat.le_of_ble_eq_true rfl) ?_
  intro p e s m args below meth c Q H locs C0 hW fin ls hl
  have hl : lv_has ls 2 [(0, .ref (h 0)), (1, .int p1)] := hl
  have hx := C0.1
  have hb := C0.2.1
  have hown := C0.2.2.2.1
  have hts := C0.2.2.2.2
  unfold fX12_body at hf
  refine lv_iload_n (pc := 0) hx hb dX12_body_0 rfl (lv_at hl 1 rfl) ?_
  refine lv_iconst (pc := 1) (v := 0) hx hb dX12_body_1 (by decide) ?_
  refine lv_bipush (pc := 2) (v := 7) hx hb dX12_body_2 (by decide) ?_
  obtain ⟨r1, e3, hf⟩ := zU_e hf
  refine zcSi (As := [.int p1, .int 0, .int 7]) (pc := 4) C0 hW (kX12_in l H.size p1 0 7 r1 e3) (va_cwS 3 hts (zgS gaR mR_44 mR_45 mR_46 mR_39) rfl rfl rfl (by decide +kernel) ⟨Nat.le_of_ble_eq_true rfl, Nat.le_of_ble_eq_true rfl⟩) rfl hl.1 rfl (Nat.le_of_ble_eq_true rfl) dX12_body_4 (fun H locs hW => ?_)
  refine lv_if_ne (pc := 7) (tgt := 12) hx hb dX12_body_7 (by decide) (fun c4 => ?_) (fun c4 => ?_)
  · have hf := zf c4 hf
    refine lv_aload_n (pc := 12) hx hb dX12_body_12 rfl (lv_at hl 0 rfl) ?_
    refine rg_40 (pc := 13) C0 hu_12 hW mR_300 dX12_body_13 ?_
    refine lv_bipush (pc := 16) (v := 50) hx hb dX12_body_16 (by decide) ?_
    refine lv_icmp_ne (pc := 18) (tgt := 24) hx hb dX12_body_18 (by decide) (fun c5 => ?_) (fun c5 => ?_)
    · have hf := zf c5 hf
      refine lv_aload_n (pc := 24) hx hb dX12_body_24 rfl (lv_at hl 0 rfl) ?_
      refine rg_41 (pc := 25) C0 hu_12 hW mR_32 dX12_body_25 ?_
      refine lv_aload_n (pc := 28) hx hb dX12_body_28 rfl (lv_at hl 0 rfl) ?_
      refine rg_40 (pc := 29) C0 hu_12 hW mR_300 dX12_body_29 ?_
      refine lv_iload_n (pc := 32) hx hb dX12_body_32 rfl (lv_at hl 1 rfl) ?_
      obtain ⟨i6, hf⟩ := zn hf
      obtain ⟨S7, e_S7, hf⟩ := zL_e hf
      refine rs_41 (pc := 33) C0 hW i6 e_S7 dX12_body_33 (fun H locs hW => ?_)
      refine lv_aload_n (pc := 34) hx hb dX12_body_34 rfl (lv_at hl 0 rfl) ?_
      refine lv_dup (pc := 35) hx hb dX12_body_35 rfl ?_
      refine rg_40 (pc := 36) C0 hu_12 hW mR_300 dX12_body_36 ?_
      refine lv_iconst (pc := 39) (v := 1) hx hb dX12_body_39 (by decide) ?_
      refine lv_iadd (pc := 40) hx hb dX12_body_40 ?_
      obtain ⟨S8, e_S8, hf⟩ := zL_e hf
      refine rp_40 (pc := 41) C0 hu_12 hW mR_300 e_S8 dX12_body_41 (fun H locs hW => ?_)
      refine lv_aload_n (pc := 44) hx hb dX12_body_44 rfl (lv_at hl 0 rfl) ?_
      refine rg_40 (pc := 45) C0 hu_12 hW mR_300 dX12_body_45 ?_
      refine lv_iconst (pc := 48) (v := 1) hx hb dX12_body_48 (by decide) ?_
      refine lv_isub (pc := 49) hx hb dX12_body_49 ?_
      exact zend_i (w := wR cA h) fin hf hW dX12_body_50
    · have hf := zt c5 hf
      refine lv_bipush (pc := 21) (v := (-3)) hx hb dX12_body_21 (by decide) ?_
      exact zend_i (w := wR cA h) fin hf hW dX12_body_23
  · have hf := zt c4 hf
    refine lv_iconst (pc := 10) (v := (-1)) hx hb dX12_body_10 (by decide) ?_
    exact zend_i (w := wR cA h) fin hf hW dX12_body_11

def fX12_isUnder_b56   : Option Int32 :=
  some 1
def fX12_isUnder_b44  (v0 : Int32) (v1 : Int32) : Option Int32 :=
  if v1 = 6 then (if v0 = 7 then (fX12_isUnder_b56 ) else (some 0)) else (some 0)
def fX12_isUnder_b34  (v0 : Int32) (v1 : Int32) : Option Int32 :=
  if v1 = 4 then (if v0 = 5 then (fX12_isUnder_b56 ) else (fX12_isUnder_b44 v0 v1)) else (fX12_isUnder_b44 v0 v1)
def fX12_isUnder_b24  (v0 : Int32) (v1 : Int32) : Option Int32 :=
  if v1 = 2 then (if v0 = 3 then (fX12_isUnder_b56 ) else (fX12_isUnder_b34 v0 v1)) else (fX12_isUnder_b34 v0 v1)
def fX12_isUnder (p1 : Int32) (p2 : Int32): Option Int32 :=
  if p2 = 0 then (fX12_isUnder_b56 ) else (if p1 = p2 then (fX12_isUnder_b56 ) else (if p2 = 1 then (if p1 = 4 then (fX12_isUnder_b56 ) else (if p1 = 5 then (fX12_isUnder_b56 ) else (fX12_isUnder_b24 p1 p2))) else (fX12_isUnder_b24 p1 p2)))
abbrev wX12_isUnder : List Cond := Cond.code yX12_isUnder cX12_isUnder 2 (some .boolean) :: waR
abbrev rmX12_isUnder : Room := { frames := 0, cells := 0, slots := 0, locals := 0 }
set_option maxHeartbeats 4000000 in
set_option maxRecDepth 100000 in
theorem kX12_isUnder (l : Launch) (sz : Nat) (p1 : Int32) (p2 : Int32) (r : Int32) (hf : fX12_isUnder p1 p2 = some r) : zMs l yX12_isUnder wX12_isUnder rmX12_isUnder [.int p1, .int p2] sz r := by
  refine zEs_z (cc := cX12_isUnder) (maxL := 2) (own := RX12) (by decide) rfl rfl (Nat.le_of_ble_eq_true rfl) ?_
  intro p e s m args below meth c Q H locs C0 hW fin ls hl
  have hl : lv_has ls 2 [(0, .int p1), (1, .int p2)] := hl
  have hx := C0.1
  have hb := C0.2.1
  have hown := C0.2.2.2.1
  have hts := C0.2.2.2.2
  have w56 : ∀  (H : Heap) (locs : List Loc), va_S (aW [] s.heap.size) s.heap H locs → ∀ ls : Array Slot, lv_has ls 2 [] → fX12_isUnder_b56  = some r → W p l e rmX12_isUnder s m args below meth c H locs 0 0 Q (F0 m 56 ls []) := by
    intro H locs hW ls hl hf
    unfold fX12_isUnder_b56 at hf
    refine lv_iconst (pc := 56) (v := 1) hx hb dX12_isUnder_56 (by decide) ?_
    refine lv_goto (pc := 57) (tgt := 61) hx hb dX12_isUnder_57 (by decide) ?_
    exact zens_z fin hf (by decide) hW dX12_isUnder_61
  have w44 : ∀ (v0 : Int32) (v1 : Int32) (H : Heap) (locs : List Loc), va_S (aW [] s.heap.size) s.heap H locs → ∀ ls : Array Slot, lv_has ls 2 [(0, .int v0), (1, .int v1)] → fX12_isUnder_b44 v0 v1 = some r → W p l e rmX12_isUnder s m args below meth c H locs 0 0 Q (F0 m 44 ls []) := by
    intro v0 v1 H locs hW ls hl hf
    unfold fX12_isUnder_b44 at hf
    refine lv_iload_n (pc := 44) hx hb dX12_isUnder_44 rfl (lv_at hl 1 rfl) ?_
    refine lv_bipush (pc := 45) (v := 6) hx hb dX12_isUnder_45 (by decide) ?_
    refine lv_icmp_ne (pc := 47) (tgt := 60) hx hb dX12_isUnder_47 (by decide) (fun c1 => ?_) (fun c1 => ?_)
    · have hf := zf c1 hf
      refine lv_iconst (pc := 60) (v := 0) hx hb dX12_isUnder_60 (by decide) ?_
      exact zens_z fin hf (by decide) hW dX12_isUnder_61
    · have hf := zt c1 hf
      refine lv_iload_n (pc := 50) hx hb dX12_isUnder_50 rfl (lv_at hl 0 rfl) ?_
      refine lv_bipush (pc := 51) (v := 7) hx hb dX12_isUnder_51 (by decide) ?_
      refine lv_icmp_ne (pc := 53) (tgt := 60) hx hb dX12_isUnder_53 (by decide) (fun c2 => ?_) (fun c2 => ?_)
      · have hf := zf c2 hf
        refine lv_iconst (pc := 60) (v := 0) hx hb dX12_isUnder_60 (by decide) ?_
        exact zens_z fin hf (by decide) hW dX12_isUnder_61
      · have hf := zt c2 hf
        exact w56  H locs hW ls (lv_sub hl [] rfl) hf
  have w34 : ∀ (v0 : Int32) (v1 : Int32) (H : Heap) (locs : List Loc), va_S (aW [] s.heap.size) s.heap H locs → ∀ ls : Array Slot, lv_has ls 2 [(0, .int v0), (1, .int v1)] → fX12_isUnder_b34 v0 v1 = some r → W p l e rmX12_isUnder s m args below meth c H locs 0 0 Q (F0 m 34 ls []) := by
    intro v0 v1 H locs hW ls hl hf
    unfold fX12_isUnder_b34 at hf
    refine lv_iload_n (pc := 34) hx hb dX12_isUnder_34 rfl (lv_at hl 1 rfl) ?_
    refine lv_iconst (pc := 35) (v := 4) hx hb dX12_isUnder_35 (by decide) ?_
    refine lv_icmp_ne (pc := 36) (tgt := 44) hx hb dX12_isUnder_36 (by decide) (fun c3 => ?_) (fun c3 => ?_)
    · have hf := zf c3 hf
      exact w44 v0 v1 H locs hW ls (lv_sub hl [0, 1] rfl) hf
    · have hf := zt c3 hf
      refine lv_iload_n (pc := 39) hx hb dX12_isUnder_39 rfl (lv_at hl 0 rfl) ?_
      refine lv_iconst (pc := 40) (v := 5) hx hb dX12_isUnder_40 (by decide) ?_
      refine lv_icmp_eq (pc := 41) (tgt := 56) hx hb dX12_isUnder_41 (by decide) (fun c4 => ?_) (fun c4 => ?_)
      · have hf := zt c4 hf
        exact w56  H locs hW ls (lv_sub hl [] rfl) hf
      · have hf := zf c4 hf
        exact w44 v0 v1 H locs hW ls (lv_sub hl [0, 1] rfl) hf
  have w24 : ∀ (v0 : Int32) (v1 : Int32) (H : Heap) (locs : List Loc), va_S (aW [] s.heap.size) s.heap H locs → ∀ ls : Array Slot, lv_has ls 2 [(0, .int v0), (1, .int v1)] → fX12_isUnder_b24 v0 v1 = some r → W p l e rmX12_isUnder s m args below meth c H locs 0 0 Q (F0 m 24 ls []) := by
    intro v0 v1 H locs hW ls hl hf
    unfold fX12_isUnder_b24 at hf
    refine lv_iload_n (pc := 24) hx hb dX12_isUnder_24 rfl (lv_at hl 1 rfl) ?_
    refine lv_iconst (pc := 25) (v := 2) hx hb dX12_isUnder_25 (by decide) ?_
    refine lv_icmp_ne (pc := 26) (tgt := 34) hx hb dX12_isUnder_26 (by decide) (fun c5 => ?_) (fun c5 => ?_)
    · have hf := zf c5 hf
      exact w34 v0 v1 H locs hW ls (lv_sub hl [0, 1] rfl) hf
    · have hf := zt c5 hf
      refine lv_iload_n (pc := 29) hx hb dX12_isUnder_29 rfl (lv_at hl 0 rfl) ?_
      refine lv_iconst (pc := 30) (v := 3) hx hb dX12_isUnder_30 (by decide) ?_
      refine lv_icmp_eq (pc := 31) (tgt := 56) hx hb dX12_isUnder_31 (by decide) (fun c6 => ?_) (fun c6 => ?_)
      · have hf := zt c6 hf
        exact w56  H locs hW ls (lv_sub hl [] rfl) hf
      · have hf := zf c6 hf
        exact w34 v0 v1 H locs hW ls (lv_sub hl [0, 1] rfl) hf
  unfold fX12_isUnder at hf
  refine lv_iload_n (pc := 0) hx hb dX12_isUnder_0 rfl (lv_at hl 1 rfl) ?_
  refine lv_if_eq (pc := 1) (tgt := 56) hx hb dX12_isUnder_1 (by decide) (fun c7 => ?_) (fun c7 => ?_)
  · have hf := zt c7 hf
    exact w56  H locs hW ls (lv_sub hl [] rfl) hf
  · have hf := zf c7 hf
    refine lv_iload_n (pc := 4) hx hb dX12_isUnder_4 rfl (lv_at hl 0 rfl) ?_
    refine lv_iload_n (pc := 5) hx hb dX12_isUnder_5 rfl (lv_at hl 1 rfl) ?_
    refine lv_icmp_eq (pc := 6) (tgt := 56) hx hb dX12_isUnder_6 (by decide) (fun c8 => ?_) (fun c8 => ?_)
    · have hf := zt c8 hf
      exact w56  H locs hW ls (lv_sub hl [] rfl) hf
    · have hf := zf c8 hf
      refine lv_iload_n (pc := 9) hx hb dX12_isUnder_9 rfl (lv_at hl 1 rfl) ?_
      refine lv_iconst (pc := 10) (v := 1) hx hb dX12_isUnder_10 (by decide) ?_
      refine lv_icmp_ne (pc := 11) (tgt := 24) hx hb dX12_isUnder_11 (by decide) (fun c9 => ?_) (fun c9 => ?_)
      · have hf := zf c9 hf
        exact w24 p1 p2 H locs hW ls (lv_sub hl [0, 1] rfl) hf
      · have hf := zt c9 hf
        refine lv_iload_n (pc := 14) hx hb dX12_isUnder_14 rfl (lv_at hl 0 rfl) ?_
        refine lv_iconst (pc := 15) (v := 4) hx hb dX12_isUnder_15 (by decide) ?_
        refine lv_icmp_eq (pc := 16) (tgt := 56) hx hb dX12_isUnder_16 (by decide) (fun c10 => ?_) (fun c10 => ?_)
        · have hf := zt c10 hf
          exact w56  H locs hW ls (lv_sub hl [] rfl) hf
        · have hf := zf c10 hf
          refine lv_iload_n (pc := 19) hx hb dX12_isUnder_19 rfl (lv_at hl 0 rfl) ?_
          refine lv_iconst (pc := 20) (v := 5) hx hb dX12_isUnder_20 (by decide) ?_
          refine lv_icmp_eq (pc := 21) (tgt := 56) hx hb dX12_isUnder_21 (by decide) (fun c11 => ?_) (fun c11 => ?_)
          · have hf := zt c11 hf
            exact w56  H locs hW ls (lv_sub hl [] rfl) hf
          · have hf := zf c11 hf
            exact w24 p1 p2 H locs hW ls (lv_sub hl [0, 1] rfl) hf

def fX12_plainStands (p1 : Int32) (p2 : Int32) (S : zSt) : Option (Int32 × zSt) :=
  zU (fX12_ran 1 S) fun S2 => some ((p2 + p1), S2)
abbrev wX12_plainStands : List Cond := Cond.code yX12_plainStands cX12_plainStands 3 (some .int) :: waR
abbrev rmX12_plainStands : Room := { frames := 1, cells := 0, slots := 0, locals := 21 }
set_option maxHeartbeats 4000000 in
set_option maxRecDepth 100000 in
theorem kX12_plainStands (l : Launch) (D : va_G) (cA : Nat → ClassId) (h : Nat → Nat) (sz : Nat)  (p1 : Int32) (p2 : Int32) (S : zSt) (r : Int32) (S1 : zSt) (hf : fX12_plainStands p1 p2 S = some (r, S1)) : zMi l yX12_plainStands wX12_plainStands rmX12_plainStands zTr D (tR cA) (hsR h) [.ref (h 0), .int p1, .int p2] (wR cA h S) (wR cA h S1) sz r := by
  refine zEn_i (cc := cX12_plainStands) (maxL := 3) (own := RX12) (by decide) rfl rfl (hmR cA h S) (Nat.le_of_ble_eq_true rfl) ?_
  intro p e s m args below meth c Q H locs C0 hW fin ls hl
  have hl : lv_has ls 3 [(0, .ref (h 0)), (1, .int p1), (2, .int p2)] := hl
  have hx := C0.1
  have hb := C0.2.1
  have hown := C0.2.2.2.1
  have hts := C0.2.2.2.2
  unfold fX12_plainStands at hf
  refine lv_aload_n (pc := 0) hx hb dX12_plainStands_0 rfl (lv_at hl 0 rfl) ?_
  refine lv_iconst (pc := 1) (v := 1) hx hb dX12_plainStands_1 (by decide) ?_
  obtain ⟨S2, e3, hf⟩ := zU_e hf
  refine zcVv zTr_ok (As := [.int 1]) (pc := 2) C0 hW (kX12_ran l D cA h H.size 1 S S2 e3) (cwV 1 hts (zgV gaR mR_307 mR_308 mR_309 mR_46 mR_301) rfl rfl rfl (by decide +kernel) ⟨Nat.le_of_ble_eq_true rfl, Nat.le_of_ble_eq_true rfl⟩) (va_recv hW.1 hW.2.1 (ci := 12) (q0 := 0) rfl rfl) rfl hl.1 rfl (Nat.le_of_ble_eq_true rfl) dX12_plainStands_2 (fun H locs hW => ?_)
  refine lv_iload_n (pc := 5) hx hb dX12_plainStands_5 rfl (lv_at hl 2 rfl) ?_
  refine lv_iload_n (pc := 6) hx hb dX12_plainStands_6 rfl (lv_at hl 1 rfl) ?_
  refine lv_iadd (pc := 7) hx hb dX12_plainStands_7 ?_
  exact zend_i (w := wR cA h) fin hf hW dX12_plainStands_8

def fX12_packedStands (p1 : Int32) (p2 : Int32) (S : zSt) : Option (Int32 × zSt) :=
  zU (fX12_ran 70 S) fun S2 => zB (fX12_plainStands p1 p2 S2) fun r4 S5 => some ((r4 * 2), S5)
abbrev wX12_packedStands : List Cond := Cond.code yX12_packedStands cX12_packedStands 3 (some .int) :: waR
abbrev rmX12_packedStands : Room := { frames := 2, cells := 0, slots := 0, locals := 43 }
set_option maxHeartbeats 4000000 in
set_option maxRecDepth 100000 in
theorem kX12_packedStands (l : Launch) (D : va_G) (cA : Nat → ClassId) (h : Nat → Nat) (sz : Nat)  (p1 : Int32) (p2 : Int32) (S : zSt) (r : Int32) (S1 : zSt) (hf : fX12_packedStands p1 p2 S = some (r, S1)) : zMi l yX12_packedStands wX12_packedStands rmX12_packedStands zTr D (tR cA) (hsR h) [.ref (h 0), .int p1, .int p2] (wR cA h S) (wR cA h S1) sz r := by
  refine zEn_i (cc := cX12_packedStands) (maxL := 3) (own := RX12) (by decide) rfl rfl (hmR cA h S) (Nat.le_of_ble_eq_true rfl) ?_
  intro p e s m args below meth c Q H locs C0 hW fin ls hl
  have hl : lv_has ls 3 [(0, .ref (h 0)), (1, .int p1), (2, .int p2)] := hl
  have hx := C0.1
  have hb := C0.2.1
  have hown := C0.2.2.2.1
  have hts := C0.2.2.2.2
  unfold fX12_packedStands at hf
  refine lv_aload_n (pc := 0) hx hb dX12_packedStands_0 rfl (lv_at hl 0 rfl) ?_
  refine lv_bipush (pc := 1) (v := 70) hx hb dX12_packedStands_1 (by decide) ?_
  obtain ⟨S2, e3, hf⟩ := zU_e hf
  refine zcVv zTr_ok (As := [.int 70]) (pc := 3) C0 hW (kX12_ran l D cA h H.size 70 S S2 e3) (cwV 1 hts (zgV gaR mR_307 mR_308 mR_309 mR_46 mR_301) rfl rfl rfl (by decide +kernel) ⟨Nat.le_of_ble_eq_true rfl, Nat.le_of_ble_eq_true rfl⟩) (va_recv hW.1 hW.2.1 (ci := 12) (q0 := 0) rfl rfl) rfl hl.1 rfl (Nat.le_of_ble_eq_true rfl) dX12_packedStands_3 (fun H locs hW => ?_)
  refine lv_aload_n (pc := 6) hx hb dX12_packedStands_6 rfl (lv_at hl 0 rfl) ?_
  refine lv_iload_n (pc := 7) hx hb dX12_packedStands_7 rfl (lv_at hl 1 rfl) ?_
  refine lv_iload_n (pc := 8) hx hb dX12_packedStands_8 rfl (lv_at hl 2 rfl) ?_
  obtain ⟨r4, S5, e6, hf⟩ := zB_e hf
  refine zcVi zTr_ok (As := [.int p1, .int p2]) (pc := 9) C0 hW (kX12_plainStands l D cA h H.size p1 p2 S2 r4 S5 e6) (cwV 2 hts (zgV gaR mR_311 mR_312 mR_313 mR_46 mR_306) rfl rfl rfl (by decide +kernel) ⟨Nat.le_of_ble_eq_true rfl, Nat.le_of_ble_eq_true rfl⟩) (va_recv hW.1 hW.2.1 (ci := 12) (q0 := 0) rfl rfl) rfl hl.1 rfl (Nat.le_of_ble_eq_true rfl) dX12_packedStands_9 (fun H locs hW => ?_)
  refine lv_iconst (pc := 12) (v := 2) hx hb dX12_packedStands_12 (by decide) ?_
  refine lv_imul (pc := 13) hx hb dX12_packedStands_13 ?_
  exact zend_i (w := wR cA h) fin hf hW dX12_packedStands_14

def fX12_standing (p1 : Int32) (p2 : Int32) (S : zSt) : Option (Int32 × zSt) :=
  if zin p1 50 then zU (fX12_isUnder (S.2.1 41 (Int32.toNatClampNeg p1)) 1) fun r2 => if r2 = 0 then (if zin p1 50 then if (S.2.1 41 (Int32.toNatClampNeg p1)) = 7 then (zU (fX12_ran 81 S) fun S17 => zB (fX12_packedStands p1 p2 S17) fun r19 S20 => some ((r19 - 1), S20)) else (if zin p1 50 then if (S.2.1 41 (Int32.toNatClampNeg p1)) = 6 then (zB (fX12_packedStands p1 p2 S) fun r13 S14 => some (r13, S14)) else (zB (fX12_plainStands p1 p2 S) fun r10 S11 => some (r10, S11)) else none) else none) else (zU (fX12_ran 20 S) fun S23 => zB (fX12_plainStands p1 p2 S23) fun r25 S26 => some ((r25 + 3), S26)) else none
abbrev wX12_standing : List Cond := Cond.code yX12_standing cX12_standing 3 (some .int) :: waR
abbrev rmX12_standing : Room := { frames := 3, cells := 0, slots := 0, locals := 65 }
set_option maxHeartbeats 4000000 in
set_option maxRecDepth 100000 in
theorem kX12_standing (l : Launch) (D : va_G) (cA : Nat → ClassId) (h : Nat → Nat) (sz : Nat)  (p1 : Int32) (p2 : Int32) (S : zSt) (r : Int32) (S1 : zSt) (hf : fX12_standing p1 p2 S = some (r, S1)) : zMi l yX12_standing wX12_standing rmX12_standing zTr D (tR cA) (hsR h) [.ref (h 0), .int p1, .int p2] (wR cA h S) (wR cA h S1) sz r := by
  refine zEn_i (cc := cX12_standing) (maxL := 3) (own := RX12) (by decide) rfl rfl (hmR cA h S) (Nat.le_of_ble_eq_true rfl) ?_
  intro p e s m args below meth c Q H locs C0 hW fin ls hl
  have hl : lv_has ls 3 [(0, .ref (h 0)), (1, .int p1), (2, .int p2)] := hl
  have hx := C0.1
  have hb := C0.2.1
  have hown := C0.2.2.2.1
  have hts := C0.2.2.2.2
  unfold fX12_standing at hf
  refine lv_aload_n (pc := 0) hx hb dX12_standing_0 rfl (lv_at hl 0 rfl) ?_
  refine rg_41 (pc := 1) C0 hu_12 hW mR_32 dX12_standing_1 ?_
  refine lv_iload_n (pc := 4) hx hb dX12_standing_4 rfl (lv_at hl 1 rfl) ?_
  obtain ⟨i1, hf⟩ := zn hf
  refine rl_41 (pc := 5) C0 hW i1 dX12_standing_5 ?_
  refine lv_iconst (pc := 6) (v := 1) hx hb dX12_standing_6 (by decide) ?_
  obtain ⟨r2, e4, hf⟩ := zU_e hf
  refine zcSi (As := [.int (S.2.1 41 (Int32.toNatClampNeg p1)), .int 1]) (pc := 7) C0 hW (kX12_isUnder l H.size (S.2.1 41 (Int32.toNatClampNeg p1)) 1 r2 e4) (va_cwS 2 hts (zgS gaR mR_315 mR_316 mR_46 mR_305) rfl rfl rfl (by decide +kernel) ⟨Nat.le_of_ble_eq_true rfl, Nat.le_of_ble_eq_true rfl⟩) rfl hl.1 rfl (Nat.le_of_ble_eq_true rfl) dX12_standing_7 (fun H locs hW => ?_)
  refine lv_if_eq (pc := 10) (tgt := 28) hx hb dX12_standing_10 (by decide) (fun c5 => ?_) (fun c5 => ?_)
  · have hf := zt c5 hf
    refine lv_aload_n (pc := 28) hx hb dX12_standing_28 rfl (lv_at hl 0 rfl) ?_
    refine rg_41 (pc := 29) C0 hu_12 hW mR_32 dX12_standing_29 ?_
    refine lv_iload_n (pc := 32) hx hb dX12_standing_32 rfl (lv_at hl 1 rfl) ?_
    obtain ⟨i6, hf⟩ := zn hf
    refine rl_41 (pc := 33) C0 hW i6 dX12_standing_33 ?_
    refine lv_bipush (pc := 34) (v := 7) hx hb dX12_standing_34 (by decide) ?_
    refine lv_icmp_ne (pc := 36) (tgt := 54) hx hb dX12_standing_36 (by decide) (fun c7 => ?_) (fun c7 => ?_)
    · have hf := zf c7 hf
      refine lv_aload_n (pc := 54) hx hb dX12_standing_54 rfl (lv_at hl 0 rfl) ?_
      refine rg_41 (pc := 55) C0 hu_12 hW mR_32 dX12_standing_55 ?_
      refine lv_iload_n (pc := 58) hx hb dX12_standing_58 rfl (lv_at hl 1 rfl) ?_
      obtain ⟨i8, hf⟩ := zn hf
      refine rl_41 (pc := 59) C0 hW i8 dX12_standing_59 ?_
      refine lv_bipush (pc := 60) (v := 6) hx hb dX12_standing_60 (by decide) ?_
      refine lv_icmp_ne (pc := 62) (tgt := 74) hx hb dX12_standing_62 (by decide) (fun c9 => ?_) (fun c9 => ?_)
      · have hf := zf c9 hf
        refine lv_aload_n (pc := 74) hx hb dX12_standing_74 rfl (lv_at hl 0 rfl) ?_
        refine lv_iload_n (pc := 75) hx hb dX12_standing_75 rfl (lv_at hl 1 rfl) ?_
        refine lv_iload_n (pc := 76) hx hb dX12_standing_76 rfl (lv_at hl 2 rfl) ?_
        obtain ⟨r10, S11, e12, hf⟩ := zB_e hf
        refine zcVi zTr_ok (As := [.int p1, .int p2]) (pc := 77) C0 hW (kX12_plainStands l D cA h H.size p1 p2 S r10 S11 e12) (cwV 2 hts (zgV gaR mR_311 mR_312 mR_313 mR_46 mR_306) rfl rfl rfl (by decide +kernel) ⟨Nat.le_of_ble_eq_true rfl, Nat.le_of_ble_eq_true rfl⟩) (va_recv hW.1 hW.2.1 (ci := 12) (q0 := 0) rfl rfl) rfl hl.1 rfl (Nat.le_of_ble_eq_true rfl) dX12_standing_77 (fun H locs hW => ?_)
        exact zend_i (w := wR cA h) fin hf hW dX12_standing_80
      · have hf := zt c9 hf
        refine lv_aload_n (pc := 65) hx hb dX12_standing_65 rfl (lv_at hl 0 rfl) ?_
        refine lv_iload_n (pc := 66) hx hb dX12_standing_66 rfl (lv_at hl 1 rfl) ?_
        refine lv_iload_n (pc := 67) hx hb dX12_standing_67 rfl (lv_at hl 2 rfl) ?_
        obtain ⟨r13, S14, e15, hf⟩ := zB_e hf
        refine zcVi zTr_ok (As := [.int p1, .int p2]) (pc := 68) C0 hW (kX12_packedStands l D cA h H.size p1 p2 S r13 S14 e15) (cwV 2 hts (zgV gaR mR_317 mR_318 mR_319 mR_46 mR_310) rfl rfl rfl (by decide +kernel) ⟨Nat.le_of_ble_eq_true rfl, Nat.le_of_ble_eq_true rfl⟩) (va_recv hW.1 hW.2.1 (ci := 12) (q0 := 0) rfl rfl) rfl hl.1 rfl (Nat.le_of_ble_eq_true rfl) dX12_standing_68 (fun H locs hW => ?_)
        refine lv_goto (pc := 71) (tgt := 80) hx hb dX12_standing_71 (by decide) ?_
        exact zend_i (w := wR cA h) fin hf hW dX12_standing_80
    · have hf := zt c7 hf
      refine lv_aload_n (pc := 39) hx hb dX12_standing_39 rfl (lv_at hl 0 rfl) ?_
      refine lv_bipush (pc := 40) (v := 81) hx hb dX12_standing_40 (by decide) ?_
      obtain ⟨S17, e18, hf⟩ := zU_e hf
      refine zcVv zTr_ok (As := [.int 81]) (pc := 42) C0 hW (kX12_ran l D cA h H.size 81 S S17 e18) (cwV 1 hts (zgV gaR mR_307 mR_308 mR_309 mR_46 mR_301) rfl rfl rfl (by decide +kernel) ⟨Nat.le_of_ble_eq_true rfl, Nat.le_of_ble_eq_true rfl⟩) (va_recv hW.1 hW.2.1 (ci := 12) (q0 := 0) rfl rfl) rfl hl.1 rfl (Nat.le_of_ble_eq_true rfl) dX12_standing_42 (fun H locs hW => ?_)
      refine lv_aload_n (pc := 45) hx hb dX12_standing_45 rfl (lv_at hl 0 rfl) ?_
      refine lv_iload_n (pc := 46) hx hb dX12_standing_46 rfl (lv_at hl 1 rfl) ?_
      refine lv_iload_n (pc := 47) hx hb dX12_standing_47 rfl (lv_at hl 2 rfl) ?_
      obtain ⟨r19, S20, e21, hf⟩ := zB_e hf
      refine zcVi zTr_ok (As := [.int p1, .int p2]) (pc := 48) C0 hW (kX12_packedStands l D cA h H.size p1 p2 S17 r19 S20 e21) (cwV 2 hts (zgV gaR mR_317 mR_318 mR_319 mR_46 mR_310) rfl rfl rfl (by decide +kernel) ⟨Nat.le_of_ble_eq_true rfl, Nat.le_of_ble_eq_true rfl⟩) (va_recv hW.1 hW.2.1 (ci := 12) (q0 := 0) rfl rfl) rfl hl.1 rfl (Nat.le_of_ble_eq_true rfl) dX12_standing_48 (fun H locs hW => ?_)
      refine lv_iconst (pc := 51) (v := 1) hx hb dX12_standing_51 (by decide) ?_
      refine lv_isub (pc := 52) hx hb dX12_standing_52 ?_
      exact zend_i (w := wR cA h) fin hf hW dX12_standing_53
  · have hf := zf c5 hf
    refine lv_aload_n (pc := 13) hx hb dX12_standing_13 rfl (lv_at hl 0 rfl) ?_
    refine lv_bipush (pc := 14) (v := 20) hx hb dX12_standing_14 (by decide) ?_
    obtain ⟨S23, e24, hf⟩ := zU_e hf
    refine zcVv zTr_ok (As := [.int 20]) (pc := 16) C0 hW (kX12_ran l D cA h H.size 20 S S23 e24) (cwV 1 hts (zgV gaR mR_307 mR_308 mR_309 mR_46 mR_301) rfl rfl rfl (by decide +kernel) ⟨Nat.le_of_ble_eq_true rfl, Nat.le_of_ble_eq_true rfl⟩) (va_recv hW.1 hW.2.1 (ci := 12) (q0 := 0) rfl rfl) rfl hl.1 rfl (Nat.le_of_ble_eq_true rfl) dX12_standing_16 (fun H locs hW => ?_)
    refine lv_aload_n (pc := 19) hx hb dX12_standing_19 rfl (lv_at hl 0 rfl) ?_
    refine lv_iload_n (pc := 20) hx hb dX12_standing_20 rfl (lv_at hl 1 rfl) ?_
    refine lv_iload_n (pc := 21) hx hb dX12_standing_21 rfl (lv_at hl 2 rfl) ?_
    obtain ⟨r25, S26, e27, hf⟩ := zB_e hf
    refine zcVi zTr_ok (As := [.int p1, .int p2]) (pc := 22) C0 hW (kX12_plainStands l D cA h H.size p1 p2 S23 r25 S26 e27) (cwV 2 hts (zgV gaR mR_311 mR_312 mR_313 mR_46 mR_306) rfl rfl rfl (by decide +kernel) ⟨Nat.le_of_ble_eq_true rfl, Nat.le_of_ble_eq_true rfl⟩) (va_recv hW.1 hW.2.1 (ci := 12) (q0 := 0) rfl rfl) rfl hl.1 rfl (Nat.le_of_ble_eq_true rfl) dX12_standing_22 (fun H locs hW => ?_)
    refine lv_iconst (pc := 25) (v := 3) hx hb dX12_standing_25 (by decide) ?_
    refine lv_iadd (pc := 26) hx hb dX12_standing_26 ?_
    exact zend_i (w := wR cA h) fin hf hW dX12_standing_27

def fX12_plainSteps (p1 : Int32) (p2 : Int32) (S : zSt) : Option (Int32 × zSt) :=
  zU (fX12_ran 10 S) fun S2 => zB (fX12_standing p1 p2 S2) fun r4 S5 => some ((r4 * 2), S5)
abbrev wX12_plainSteps : List Cond := Cond.code yX12_plainSteps cX12_plainSteps 3 (some .int) :: waR
abbrev rmX12_plainSteps : Room := { frames := 4, cells := 0, slots := 0, locals := 87 }
set_option maxHeartbeats 4000000 in
set_option maxRecDepth 100000 in
theorem kX12_plainSteps (l : Launch) (D : va_G) (cA : Nat → ClassId) (h : Nat → Nat) (sz : Nat)  (p1 : Int32) (p2 : Int32) (S : zSt) (r : Int32) (S1 : zSt) (hf : fX12_plainSteps p1 p2 S = some (r, S1)) : zMi l yX12_plainSteps wX12_plainSteps rmX12_plainSteps zTr D (tR cA) (hsR h) [.ref (h 0), .int p1, .int p2] (wR cA h S) (wR cA h S1) sz r := by
  refine zEn_i (cc := cX12_plainSteps) (maxL := 3) (own := RX12) (by decide) rfl rfl (hmR cA h S) (Nat.le_of_ble_eq_true rfl) ?_
  intro p e s m args below meth c Q H locs C0 hW fin ls hl
  have hl : lv_has ls 3 [(0, .ref (h 0)), (1, .int p1), (2, .int p2)] := hl
  have hx := C0.1
  have hb := C0.2.1
  have hown := C0.2.2.2.1
  have hts := C0.2.2.2.2
  unfold fX12_plainSteps at hf
  refine lv_aload_n (pc := 0) hx hb dX12_plainSteps_0 rfl (lv_at hl 0 rfl) ?_
  refine lv_bipush (pc := 1) (v := 10) hx hb dX12_plainSteps_1 (by decide) ?_
  obtain ⟨S2, e3, hf⟩ := zU_e hf
  refine zcVv zTr_ok (As := [.int 10]) (pc := 3) C0 hW (kX12_ran l D cA h H.size 10 S S2 e3) (cwV 1 hts (zgV gaR mR_307 mR_308 mR_309 mR_46 mR_301) rfl rfl rfl (by decide +kernel) ⟨Nat.le_of_ble_eq_true rfl, Nat.le_of_ble_eq_true rfl⟩) (va_recv hW.1 hW.2.1 (ci := 12) (q0 := 0) rfl rfl) rfl hl.1 rfl (Nat.le_of_ble_eq_true rfl) dX12_plainSteps_3 (fun H locs hW => ?_)
  refine lv_aload_n (pc := 6) hx hb dX12_plainSteps_6 rfl (lv_at hl 0 rfl) ?_
  refine lv_iload_n (pc := 7) hx hb dX12_plainSteps_7 rfl (lv_at hl 1 rfl) ?_
  refine lv_iload_n (pc := 8) hx hb dX12_plainSteps_8 rfl (lv_at hl 2 rfl) ?_
  obtain ⟨r4, S5, e6, hf⟩ := zB_e hf
  refine zcVi zTr_ok (As := [.int p1, .int p2]) (pc := 9) C0 hW (kX12_standing l D cA h H.size p1 p2 S2 r4 S5 e6) (cwV 2 hts (zgV gaR mR_321 mR_322 mR_323 mR_46 mR_314) rfl rfl rfl (by decide +kernel) ⟨Nat.le_of_ble_eq_true rfl, Nat.le_of_ble_eq_true rfl⟩) (va_recv hW.1 hW.2.1 (ci := 12) (q0 := 0) rfl rfl) rfl hl.1 rfl (Nat.le_of_ble_eq_true rfl) dX12_plainSteps_9 (fun H locs hW => ?_)
  refine lv_iconst (pc := 12) (v := 2) hx hb dX12_plainSteps_12 (by decide) ?_
  refine lv_imul (pc := 13) hx hb dX12_plainSteps_13 ?_
  exact zend_i (w := wR cA h) fin hf hW dX12_plainSteps_14

def fX12_rowedSteps (p1 : Int32) (p2 : Int32) (S : zSt) : Option (Int32 × zSt) :=
  zU (fX12_ran 30 S) fun S2 => zB (fX12_plainSteps p1 p2 S2) fun r4 S5 => some ((-r4), S5)
abbrev wX12_rowedSteps : List Cond := Cond.code yX12_rowedSteps cX12_rowedSteps 3 (some .int) :: waR
abbrev rmX12_rowedSteps : Room := { frames := 5, cells := 0, slots := 0, locals := 109 }
set_option maxHeartbeats 4000000 in
set_option maxRecDepth 100000 in
theorem kX12_rowedSteps (l : Launch) (D : va_G) (cA : Nat → ClassId) (h : Nat → Nat) (sz : Nat)  (p1 : Int32) (p2 : Int32) (S : zSt) (r : Int32) (S1 : zSt) (hf : fX12_rowedSteps p1 p2 S = some (r, S1)) : zMi l yX12_rowedSteps wX12_rowedSteps rmX12_rowedSteps zTr D (tR cA) (hsR h) [.ref (h 0), .int p1, .int p2] (wR cA h S) (wR cA h S1) sz r := by
  refine zEn_i (cc := cX12_rowedSteps) (maxL := 3) (own := RX12) (by decide) rfl rfl (hmR cA h S) (Nat.le_of_ble_eq_true rfl) ?_
  intro p e s m args below meth c Q H locs C0 hW fin ls hl
  have hl : lv_has ls 3 [(0, .ref (h 0)), (1, .int p1), (2, .int p2)] := hl
  have hx := C0.1
  have hb := C0.2.1
  have hown := C0.2.2.2.1
  have hts := C0.2.2.2.2
  unfold fX12_rowedSteps at hf
  refine lv_aload_n (pc := 0) hx hb dX12_rowedSteps_0 rfl (lv_at hl 0 rfl) ?_
  refine lv_bipush (pc := 1) (v := 30) hx hb dX12_rowedSteps_1 (by decide) ?_
  obtain ⟨S2, e3, hf⟩ := zU_e hf
  refine zcVv zTr_ok (As := [.int 30]) (pc := 3) C0 hW (kX12_ran l D cA h H.size 30 S S2 e3) (cwV 1 hts (zgV gaR mR_307 mR_308 mR_309 mR_46 mR_301) rfl rfl rfl (by decide +kernel) ⟨Nat.le_of_ble_eq_true rfl, Nat.le_of_ble_eq_true rfl⟩) (va_recv hW.1 hW.2.1 (ci := 12) (q0 := 0) rfl rfl) rfl hl.1 rfl (Nat.le_of_ble_eq_true rfl) dX12_rowedSteps_3 (fun H locs hW => ?_)
  refine lv_aload_n (pc := 6) hx hb dX12_rowedSteps_6 rfl (lv_at hl 0 rfl) ?_
  refine lv_iload_n (pc := 7) hx hb dX12_rowedSteps_7 rfl (lv_at hl 1 rfl) ?_
  refine lv_iload_n (pc := 8) hx hb dX12_rowedSteps_8 rfl (lv_at hl 2 rfl) ?_
  obtain ⟨r4, S5, e6, hf⟩ := zB_e hf
  refine zcVi zTr_ok (As := [.int p1, .int p2]) (pc := 9) C0 hW (kX12_plainSteps l D cA h H.size p1 p2 S2 r4 S5 e6) (cwV 2 hts (zgV gaR mR_325 mR_326 mR_327 mR_46 mR_320) rfl rfl rfl (by decide +kernel) ⟨Nat.le_of_ble_eq_true rfl, Nat.le_of_ble_eq_true rfl⟩) (va_recv hW.1 hW.2.1 (ci := 12) (q0 := 0) rfl rfl) rfl hl.1 rfl (Nat.le_of_ble_eq_true rfl) dX12_rowedSteps_9 (fun H locs hW => ?_)
  refine lv_ineg (pc := 12) hx hb dX12_rowedSteps_12 ?_
  exact zend_i (w := wR cA h) fin hf hW dX12_rowedSteps_13

def fX12_plainSweeps (p1 : Int32) (p2 : Int32) (S : zSt) : Option (Int32 × zSt) :=
  zU (fX12_ran 11 S) fun S2 => some ((p2 ^^^ p1), S2)
abbrev wX12_plainSweeps : List Cond := Cond.code yX12_plainSweeps cX12_plainSweeps 3 (some .int) :: waR
abbrev rmX12_plainSweeps : Room := { frames := 1, cells := 0, slots := 0, locals := 21 }
set_option maxHeartbeats 4000000 in
set_option maxRecDepth 100000 in
theorem kX12_plainSweeps (l : Launch) (D : va_G) (cA : Nat → ClassId) (h : Nat → Nat) (sz : Nat)  (p1 : Int32) (p2 : Int32) (S : zSt) (r : Int32) (S1 : zSt) (hf : fX12_plainSweeps p1 p2 S = some (r, S1)) : zMi l yX12_plainSweeps wX12_plainSweeps rmX12_plainSweeps zTr D (tR cA) (hsR h) [.ref (h 0), .int p1, .int p2] (wR cA h S) (wR cA h S1) sz r := by
  refine zEn_i (cc := cX12_plainSweeps) (maxL := 3) (own := RX12) (by decide) rfl rfl (hmR cA h S) (Nat.le_of_ble_eq_true rfl) ?_
  intro p e s m args below meth c Q H locs C0 hW fin ls hl
  have hl : lv_has ls 3 [(0, .ref (h 0)), (1, .int p1), (2, .int p2)] := hl
  have hx := C0.1
  have hb := C0.2.1
  have hown := C0.2.2.2.1
  have hts := C0.2.2.2.2
  unfold fX12_plainSweeps at hf
  refine lv_aload_n (pc := 0) hx hb dX12_plainSweeps_0 rfl (lv_at hl 0 rfl) ?_
  refine lv_bipush (pc := 1) (v := 11) hx hb dX12_plainSweeps_1 (by decide) ?_
  obtain ⟨S2, e3, hf⟩ := zU_e hf
  refine zcVv zTr_ok (As := [.int 11]) (pc := 3) C0 hW (kX12_ran l D cA h H.size 11 S S2 e3) (cwV 1 hts (zgV gaR mR_307 mR_308 mR_309 mR_46 mR_301) rfl rfl rfl (by decide +kernel) ⟨Nat.le_of_ble_eq_true rfl, Nat.le_of_ble_eq_true rfl⟩) (va_recv hW.1 hW.2.1 (ci := 12) (q0 := 0) rfl rfl) rfl hl.1 rfl (Nat.le_of_ble_eq_true rfl) dX12_plainSweeps_3 (fun H locs hW => ?_)
  refine lv_iload_n (pc := 6) hx hb dX12_plainSweeps_6 rfl (lv_at hl 2 rfl) ?_
  refine lv_iload_n (pc := 7) hx hb dX12_plainSweeps_7 rfl (lv_at hl 1 rfl) ?_
  refine lv_ixor (pc := 8) hx hb dX12_plainSweeps_8 ?_
  exact zend_i (w := wR cA h) fin hf hW dX12_plainSweeps_9

def fX12_sweeps (p1 : Int32) (p2 : Int32) (S : zSt) : Option (Int32 × zSt) :=
  if zin p1 50 then if (S.2.1 41 (Int32.toNatClampNeg p1)) = 3 then (zU (fX12_ran 40 S) fun S18 => zB (fX12_plainSweeps p1 p2 S18) fun r20 S21 => some ((r20 * 3), S21)) else (if zin p1 50 then if (S.2.1 41 (Int32.toNatClampNeg p1)) = 5 then (zU (fX12_ran 60 S) fun S9 => zB (fX12_plainSweeps p1 p2 S9) fun r11 S12 => zB (fX12_standing p1 2 S12) fun r14 S15 => some ((r11 - r14), S15)) else (zB (fX12_plainSweeps p1 p2 S) fun r5 S6 => some (r5, S6)) else none) else none
abbrev wX12_sweeps : List Cond := Cond.code yX12_sweeps cX12_sweeps 4 (some .int) :: waR
abbrev rmX12_sweeps : Room := { frames := 4, cells := 0, slots := 0, locals := 87 }
set_option maxHeartbeats 4000000 in
set_option maxRecDepth 100000 in
theorem kX12_sweeps (l : Launch) (D : va_G) (cA : Nat → ClassId) (h : Nat → Nat) (sz : Nat)  (p1 : Int32) (p2 : Int32) (S : zSt) (r : Int32) (S1 : zSt) (hf : fX12_sweeps p1 p2 S = some (r, S1)) : zMi l yX12_sweeps wX12_sweeps rmX12_sweeps zTr D (tR cA) (hsR h) [.ref (h 0), .int p1, .int p2] (wR cA h S) (wR cA h S1) sz r := by
  refine zEn_i (cc := cX12_sweeps) (maxL := 4) (own := RX12) (by decide) rfl rfl (hmR cA h S) (Nat.le_of_ble_eq_true rfl) ?_
  intro p e s m args below meth c Q H locs C0 hW fin ls hl
  have hl : lv_has ls 4 [(0, .ref (h 0)), (1, .int p1), (2, .int p2)] := hl
  have hx := C0.1
  have hb := C0.2.1
  have hown := C0.2.2.2.1
  have hts := C0.2.2.2.2
  unfold fX12_sweeps at hf
  refine lv_aload_n (pc := 0) hx hb dX12_sweeps_0 rfl (lv_at hl 0 rfl) ?_
  refine rg_41 (pc := 1) C0 hu_12 hW mR_32 dX12_sweeps_1 ?_
  refine lv_iload_n (pc := 4) hx hb dX12_sweeps_4 rfl (lv_at hl 1 rfl) ?_
  obtain ⟨i1, hf⟩ := zn hf
  refine rl_41 (pc := 5) C0 hW i1 dX12_sweeps_5 ?_
  refine lv_iconst (pc := 6) (v := 3) hx hb dX12_sweeps_6 (by decide) ?_
  refine lv_icmp_ne (pc := 7) (tgt := 25) hx hb dX12_sweeps_7 (by decide) (fun c2 => ?_) (fun c2 => ?_)
  · have hf := zf c2 hf
    refine lv_aload_n (pc := 25) hx hb dX12_sweeps_25 rfl (lv_at hl 0 rfl) ?_
    refine rg_41 (pc := 26) C0 hu_12 hW mR_32 dX12_sweeps_26 ?_
    refine lv_iload_n (pc := 29) hx hb dX12_sweeps_29 rfl (lv_at hl 1 rfl) ?_
    obtain ⟨i3, hf⟩ := zn hf
    refine rl_41 (pc := 30) C0 hW i3 dX12_sweeps_30 ?_
    refine lv_iconst (pc := 31) (v := 5) hx hb dX12_sweeps_31 (by decide) ?_
    refine lv_icmp_ne (pc := 32) (tgt := 57) hx hb dX12_sweeps_32 (by decide) (fun c4 => ?_) (fun c4 => ?_)
    · have hf := zf c4 hf
      refine lv_aload_n (pc := 57) hx hb dX12_sweeps_57 rfl (lv_at hl 0 rfl) ?_
      refine lv_iload_n (pc := 58) hx hb dX12_sweeps_58 rfl (lv_at hl 1 rfl) ?_
      refine lv_iload_n (pc := 59) hx hb dX12_sweeps_59 rfl (lv_at hl 2 rfl) ?_
      obtain ⟨r5, S6, e7, hf⟩ := zB_e hf
      refine zcVi zTr_ok (As := [.int p1, .int p2]) (pc := 60) C0 hW (kX12_plainSweeps l D cA h H.size p1 p2 S r5 S6 e7) (cwV 2 hts (zgV gaR mR_336 mR_337 mR_338 mR_46 mR_339) rfl rfl rfl (by decide +kernel) ⟨Nat.le_of_ble_eq_true rfl, Nat.le_of_ble_eq_true rfl⟩) (va_recv hW.1 hW.2.1 (ci := 12) (q0 := 0) rfl rfl) rfl hl.1 rfl (Nat.le_of_ble_eq_true rfl) dX12_sweeps_60 (fun H locs hW => ?_)
      exact zend_i (w := wR cA h) fin hf hW dX12_sweeps_63
    · have hf := zt c4 hf
      refine lv_aload_n (pc := 35) hx hb dX12_sweeps_35 rfl (lv_at hl 0 rfl) ?_
      refine lv_bipush (pc := 36) (v := 60) hx hb dX12_sweeps_36 (by decide) ?_
      obtain ⟨S9, e10, hf⟩ := zU_e hf
      refine zcVv zTr_ok (As := [.int 60]) (pc := 38) C0 hW (kX12_ran l D cA h H.size 60 S S9 e10) (cwV 1 hts (zgV gaR mR_307 mR_308 mR_309 mR_46 mR_301) rfl rfl rfl (by decide +kernel) ⟨Nat.le_of_ble_eq_true rfl, Nat.le_of_ble_eq_true rfl⟩) (va_recv hW.1 hW.2.1 (ci := 12) (q0 := 0) rfl rfl) rfl hl.1 rfl (Nat.le_of_ble_eq_true rfl) dX12_sweeps_38 (fun H locs hW => ?_)
      refine lv_aload_n (pc := 41) hx hb dX12_sweeps_41 rfl (lv_at hl 0 rfl) ?_
      refine lv_iload_n (pc := 42) hx hb dX12_sweeps_42 rfl (lv_at hl 1 rfl) ?_
      refine lv_iload_n (pc := 43) hx hb dX12_sweeps_43 rfl (lv_at hl 2 rfl) ?_
      obtain ⟨r11, S12, e13, hf⟩ := zB_e hf
      refine zcVi zTr_ok (As := [.int p1, .int p2]) (pc := 44) C0 hW (kX12_plainSweeps l D cA h H.size p1 p2 S9 r11 S12 e13) (cwV 2 hts (zgV gaR mR_336 mR_337 mR_338 mR_46 mR_339) rfl rfl rfl (by decide +kernel) ⟨Nat.le_of_ble_eq_true rfl, Nat.le_of_ble_eq_true rfl⟩) (va_recv hW.1 hW.2.1 (ci := 12) (q0 := 0) rfl rfl) rfl hl.1 rfl (Nat.le_of_ble_eq_true rfl) dX12_sweeps_44 (fun H locs hW => ?_)
      refine lv_istore_n (pc := 47) (lv' := [(3, .int r11), (0, .ref (h 0)), (1, .int p1), (2, .int p2)]) hx hb dX12_sweeps_47 rfl hl (by decide) rfl (fun ls hl => ?_)
      refine lv_iload_n (pc := 48) hx hb dX12_sweeps_48 rfl (lv_at hl 0 rfl) ?_
      refine lv_aload_n (pc := 49) hx hb dX12_sweeps_49 rfl (lv_at hl 1 rfl) ?_
      refine lv_iload_n (pc := 50) hx hb dX12_sweeps_50 rfl (lv_at hl 2 rfl) ?_
      refine lv_iconst (pc := 51) (v := 2) hx hb dX12_sweeps_51 (by decide) ?_
      obtain ⟨r14, S15, e16, hf⟩ := zB_e hf
      refine zcVi zTr_ok (As := [.int p1, .int 2]) (pc := 52) C0 hW (kX12_standing l D cA h H.size p1 2 S12 r14 S15 e16) (cwV 2 hts (zgV gaR mR_321 mR_322 mR_323 mR_46 mR_314) rfl rfl rfl (by decide +kernel) ⟨Nat.le_of_ble_eq_true rfl, Nat.le_of_ble_eq_true rfl⟩) (va_recv hW.1 hW.2.1 (ci := 12) (q0 := 0) rfl rfl) rfl hl.1 rfl (Nat.le_of_ble_eq_true rfl) dX12_sweeps_52 (fun H locs hW => ?_)
      refine lv_isub (pc := 55) hx hb dX12_sweeps_55 ?_
      exact zend_i (w := wR cA h) fin hf hW dX12_sweeps_56
  · have hf := zt c2 hf
    refine lv_aload_n (pc := 10) hx hb dX12_sweeps_10 rfl (lv_at hl 0 rfl) ?_
    refine lv_bipush (pc := 11) (v := 40) hx hb dX12_sweeps_11 (by decide) ?_
    obtain ⟨S18, e19, hf⟩ := zU_e hf
    refine zcVv zTr_ok (As := [.int 40]) (pc := 13) C0 hW (kX12_ran l D cA h H.size 40 S S18 e19) (cwV 1 hts (zgV gaR mR_307 mR_308 mR_309 mR_46 mR_301) rfl rfl rfl (by decide +kernel) ⟨Nat.le_of_ble_eq_true rfl, Nat.le_of_ble_eq_true rfl⟩) (va_recv hW.1 hW.2.1 (ci := 12) (q0 := 0) rfl rfl) rfl hl.1 rfl (Nat.le_of_ble_eq_true rfl) dX12_sweeps_13 (fun H locs hW => ?_)
    refine lv_aload_n (pc := 16) hx hb dX12_sweeps_16 rfl (lv_at hl 0 rfl) ?_
    refine lv_iload_n (pc := 17) hx hb dX12_sweeps_17 rfl (lv_at hl 1 rfl) ?_
    refine lv_iload_n (pc := 18) hx hb dX12_sweeps_18 rfl (lv_at hl 2 rfl) ?_
    obtain ⟨r20, S21, e22, hf⟩ := zB_e hf
    refine zcVi zTr_ok (As := [.int p1, .int p2]) (pc := 19) C0 hW (kX12_plainSweeps l D cA h H.size p1 p2 S18 r20 S21 e22) (cwV 2 hts (zgV gaR mR_336 mR_337 mR_338 mR_46 mR_339) rfl rfl rfl (by decide +kernel) ⟨Nat.le_of_ble_eq_true rfl, Nat.le_of_ble_eq_true rfl⟩) (va_recv hW.1 hW.2.1 (ci := 12) (q0 := 0) rfl rfl) rfl hl.1 rfl (Nat.le_of_ble_eq_true rfl) dX12_sweeps_19 (fun H locs hW => ?_)
    refine lv_iconst (pc := 22) (v := 3) hx hb dX12_sweeps_22 (by decide) ?_
    refine lv_imul (pc := 23) hx hb dX12_sweeps_23 ?_
    exact zend_i (w := wR cA h) fin hf hW dX12_sweeps_24

def fX12_steps (p1 : Int32) (p2 : Int32) (S : zSt) : Option (Int32 × zSt) :=
  if zin p1 50 then if (S.2.1 41 (Int32.toNatClampNeg p1)) = 3 then (zU (fX12_ran 41 S) fun S23 => zB (fX12_rowedSteps p1 (p2 + 1) S23) fun r25 S26 => some (r25, S26)) else (if zin p1 50 then if (S.2.1 41 (Int32.toNatClampNeg p1)) = 7 then (zU (fX12_ran 80 S) fun S14 => zB (fX12_plainSteps p1 p2 S14) fun r16 S17 => zB (fX12_sweeps p1 2 S17) fun r19 S20 => some ((r16 + r19), S20)) else (if zin p1 50 then if (S.2.1 41 (Int32.toNatClampNeg p1)) = 2 then (zB (fX12_rowedSteps p1 p2 S) fun r10 S11 => some (r10, S11)) else (zB (fX12_plainSteps p1 p2 S) fun r7 S8 => some (r7, S8)) else none) else none) else none
abbrev wX12_steps : List Cond := Cond.code yX12_steps cX12_steps 4 (some .int) :: waR
abbrev rmX12_steps : Room := { frames := 6, cells := 0, slots := 0, locals := 131 }
set_option maxHeartbeats 4000000 in
set_option maxRecDepth 100000 in
theorem kX12_steps (l : Launch) (D : va_G) (cA : Nat → ClassId) (h : Nat → Nat) (sz : Nat)  (p1 : Int32) (p2 : Int32) (S : zSt) (r : Int32) (S1 : zSt) (hf : fX12_steps p1 p2 S = some (r, S1)) : zMi l yX12_steps wX12_steps rmX12_steps zTr D (tR cA) (hsR h) [.ref (h 0), .int p1, .int p2] (wR cA h S) (wR cA h S1) sz r := by
  refine zEn_i (cc := cX12_steps) (maxL := 4) (own := RX12) (by decide) rfl rfl (hmR cA h S) (Nat.le_of_ble_eq_true rfl) ?_
  intro p e s m args below meth c Q H locs C0 hW fin ls hl
  have hl : lv_has ls 4 [(0, .ref (h 0)), (1, .int p1), (2, .int p2)] := hl
  have hx := C0.1
  have hb := C0.2.1
  have hown := C0.2.2.2.1
  have hts := C0.2.2.2.2
  unfold fX12_steps at hf
  refine lv_aload_n (pc := 0) hx hb dX12_steps_0 rfl (lv_at hl 0 rfl) ?_
  refine rg_41 (pc := 1) C0 hu_12 hW mR_32 dX12_steps_1 ?_
  refine lv_iload_n (pc := 4) hx hb dX12_steps_4 rfl (lv_at hl 1 rfl) ?_
  obtain ⟨i1, hf⟩ := zn hf
  refine rl_41 (pc := 5) C0 hW i1 dX12_steps_5 ?_
  refine lv_iconst (pc := 6) (v := 3) hx hb dX12_steps_6 (by decide) ?_
  refine lv_icmp_ne (pc := 7) (tgt := 25) hx hb dX12_steps_7 (by decide) (fun c2 => ?_) (fun c2 => ?_)
  · have hf := zf c2 hf
    refine lv_aload_n (pc := 25) hx hb dX12_steps_25 rfl (lv_at hl 0 rfl) ?_
    refine rg_41 (pc := 26) C0 hu_12 hW mR_32 dX12_steps_26 ?_
    refine lv_iload_n (pc := 29) hx hb dX12_steps_29 rfl (lv_at hl 1 rfl) ?_
    obtain ⟨i3, hf⟩ := zn hf
    refine rl_41 (pc := 30) C0 hW i3 dX12_steps_30 ?_
    refine lv_bipush (pc := 31) (v := 7) hx hb dX12_steps_31 (by decide) ?_
    refine lv_icmp_ne (pc := 33) (tgt := 58) hx hb dX12_steps_33 (by decide) (fun c4 => ?_) (fun c4 => ?_)
    · have hf := zf c4 hf
      refine lv_aload_n (pc := 58) hx hb dX12_steps_58 rfl (lv_at hl 0 rfl) ?_
      refine rg_41 (pc := 59) C0 hu_12 hW mR_32 dX12_steps_59 ?_
      refine lv_iload_n (pc := 62) hx hb dX12_steps_62 rfl (lv_at hl 1 rfl) ?_
      obtain ⟨i5, hf⟩ := zn hf
      refine rl_41 (pc := 63) C0 hW i5 dX12_steps_63 ?_
      refine lv_iconst (pc := 64) (v := 2) hx hb dX12_steps_64 (by decide) ?_
      refine lv_icmp_ne (pc := 65) (tgt := 77) hx hb dX12_steps_65 (by decide) (fun c6 => ?_) (fun c6 => ?_)
      · have hf := zf c6 hf
        refine lv_aload_n (pc := 77) hx hb dX12_steps_77 rfl (lv_at hl 0 rfl) ?_
        refine lv_iload_n (pc := 78) hx hb dX12_steps_78 rfl (lv_at hl 1 rfl) ?_
        refine lv_iload_n (pc := 79) hx hb dX12_steps_79 rfl (lv_at hl 2 rfl) ?_
        obtain ⟨r7, S8, e9, hf⟩ := zB_e hf
        refine zcVi zTr_ok (As := [.int p1, .int p2]) (pc := 80) C0 hW (kX12_plainSteps l D cA h H.size p1 p2 S r7 S8 e9) (cwV 2 hts (zgV gaR mR_325 mR_326 mR_327 mR_46 mR_320) rfl rfl rfl (by decide +kernel) ⟨Nat.le_of_ble_eq_true rfl, Nat.le_of_ble_eq_true rfl⟩) (va_recv hW.1 hW.2.1 (ci := 12) (q0 := 0) rfl rfl) rfl hl.1 rfl (Nat.le_of_ble_eq_true rfl) dX12_steps_80 (fun H locs hW => ?_)
        exact zend_i (w := wR cA h) fin hf hW dX12_steps_83
      · have hf := zt c6 hf
        refine lv_aload_n (pc := 68) hx hb dX12_steps_68 rfl (lv_at hl 0 rfl) ?_
        refine lv_iload_n (pc := 69) hx hb dX12_steps_69 rfl (lv_at hl 1 rfl) ?_
        refine lv_iload_n (pc := 70) hx hb dX12_steps_70 rfl (lv_at hl 2 rfl) ?_
        obtain ⟨r10, S11, e12, hf⟩ := zB_e hf
        refine zcVi zTr_ok (As := [.int p1, .int p2]) (pc := 71) C0 hW (kX12_rowedSteps l D cA h H.size p1 p2 S r10 S11 e12) (cwV 2 hts (zgV gaR mR_329 mR_330 mR_331 mR_46 mR_324) rfl rfl rfl (by decide +kernel) ⟨Nat.le_of_ble_eq_true rfl, Nat.le_of_ble_eq_true rfl⟩) (va_recv hW.1 hW.2.1 (ci := 12) (q0 := 0) rfl rfl) rfl hl.1 rfl (Nat.le_of_ble_eq_true rfl) dX12_steps_71 (fun H locs hW => ?_)
        refine lv_goto (pc := 74) (tgt := 83) hx hb dX12_steps_74 (by decide) ?_
        exact zend_i (w := wR cA h) fin hf hW dX12_steps_83
    · have hf := zt c4 hf
      refine lv_aload_n (pc := 36) hx hb dX12_steps_36 rfl (lv_at hl 0 rfl) ?_
      refine lv_bipush (pc := 37) (v := 80) hx hb dX12_steps_37 (by decide) ?_
      obtain ⟨S14, e15, hf⟩ := zU_e hf
      refine zcVv zTr_ok (As := [.int 80]) (pc := 39) C0 hW (kX12_ran l D cA h H.size 80 S S14 e15) (cwV 1 hts (zgV gaR mR_307 mR_308 mR_309 mR_46 mR_301) rfl rfl rfl (by decide +kernel) ⟨Nat.le_of_ble_eq_true rfl, Nat.le_of_ble_eq_true rfl⟩) (va_recv hW.1 hW.2.1 (ci := 12) (q0 := 0) rfl rfl) rfl hl.1 rfl (Nat.le_of_ble_eq_true rfl) dX12_steps_39 (fun H locs hW => ?_)
      refine lv_aload_n (pc := 42) hx hb dX12_steps_42 rfl (lv_at hl 0 rfl) ?_
      refine lv_iload_n (pc := 43) hx hb dX12_steps_43 rfl (lv_at hl 1 rfl) ?_
      refine lv_iload_n (pc := 44) hx hb dX12_steps_44 rfl (lv_at hl 2 rfl) ?_
      obtain ⟨r16, S17, e18, hf⟩ := zB_e hf
      refine zcVi zTr_ok (As := [.int p1, .int p2]) (pc := 45) C0 hW (kX12_plainSteps l D cA h H.size p1 p2 S14 r16 S17 e18) (cwV 2 hts (zgV gaR mR_325 mR_326 mR_327 mR_46 mR_320) rfl rfl rfl (by decide +kernel) ⟨Nat.le_of_ble_eq_true rfl, Nat.le_of_ble_eq_true rfl⟩) (va_recv hW.1 hW.2.1 (ci := 12) (q0 := 0) rfl rfl) rfl hl.1 rfl (Nat.le_of_ble_eq_true rfl) dX12_steps_45 (fun H locs hW => ?_)
      refine lv_istore_n (pc := 48) (lv' := [(3, .int r16), (0, .ref (h 0)), (1, .int p1), (2, .int p2)]) hx hb dX12_steps_48 rfl hl (by decide) rfl (fun ls hl => ?_)
      refine lv_iload_n (pc := 49) hx hb dX12_steps_49 rfl (lv_at hl 0 rfl) ?_
      refine lv_aload_n (pc := 50) hx hb dX12_steps_50 rfl (lv_at hl 1 rfl) ?_
      refine lv_iload_n (pc := 51) hx hb dX12_steps_51 rfl (lv_at hl 2 rfl) ?_
      refine lv_iconst (pc := 52) (v := 2) hx hb dX12_steps_52 (by decide) ?_
      obtain ⟨r19, S20, e21, hf⟩ := zB_e hf
      refine zcVi zTr_ok (As := [.int p1, .int 2]) (pc := 53) C0 hW (kX12_sweeps l D cA h H.size p1 2 S17 r19 S20 e21) (cwV 2 hts (zgV gaR mR_332 mR_333 mR_334 mR_46 mR_335) rfl rfl rfl (by decide +kernel) ⟨Nat.le_of_ble_eq_true rfl, Nat.le_of_ble_eq_true rfl⟩) (va_recv hW.1 hW.2.1 (ci := 12) (q0 := 0) rfl rfl) rfl hl.1 rfl (Nat.le_of_ble_eq_true rfl) dX12_steps_53 (fun H locs hW => ?_)
      refine lv_iadd (pc := 56) hx hb dX12_steps_56 ?_
      exact zend_i (w := wR cA h) fin hf hW dX12_steps_57
  · have hf := zt c2 hf
    refine lv_aload_n (pc := 10) hx hb dX12_steps_10 rfl (lv_at hl 0 rfl) ?_
    refine lv_bipush (pc := 11) (v := 41) hx hb dX12_steps_11 (by decide) ?_
    obtain ⟨S23, e24, hf⟩ := zU_e hf
    refine zcVv zTr_ok (As := [.int 41]) (pc := 13) C0 hW (kX12_ran l D cA h H.size 41 S S23 e24) (cwV 1 hts (zgV gaR mR_307 mR_308 mR_309 mR_46 mR_301) rfl rfl rfl (by decide +kernel) ⟨Nat.le_of_ble_eq_true rfl, Nat.le_of_ble_eq_true rfl⟩) (va_recv hW.1 hW.2.1 (ci := 12) (q0 := 0) rfl rfl) rfl hl.1 rfl (Nat.le_of_ble_eq_true rfl) dX12_steps_13 (fun H locs hW => ?_)
    refine lv_aload_n (pc := 16) hx hb dX12_steps_16 rfl (lv_at hl 0 rfl) ?_
    refine lv_iload_n (pc := 17) hx hb dX12_steps_17 rfl (lv_at hl 1 rfl) ?_
    refine lv_iload_n (pc := 18) hx hb dX12_steps_18 rfl (lv_at hl 2 rfl) ?_
    refine lv_iconst (pc := 19) (v := 1) hx hb dX12_steps_19 (by decide) ?_
    refine lv_iadd (pc := 20) hx hb dX12_steps_20 ?_
    obtain ⟨r25, S26, e27, hf⟩ := zB_e hf
    refine zcVi zTr_ok (As := [.int p1, .int (p2 + 1)]) (pc := 21) C0 hW (kX12_rowedSteps l D cA h H.size p1 (p2 + 1) S23 r25 S26 e27) (cwV 2 hts (zgV gaR mR_329 mR_330 mR_331 mR_46 mR_324) rfl rfl rfl (by decide +kernel) ⟨Nat.le_of_ble_eq_true rfl, Nat.le_of_ble_eq_true rfl⟩) (va_recv hW.1 hW.2.1 (ci := 12) (q0 := 0) rfl rfl) rfl hl.1 rfl (Nat.le_of_ble_eq_true rfl) dX12_steps_21 (fun H locs hW => ?_)
    exact zend_i (w := wR cA h) fin hf hW dX12_steps_24

def fX12_plainSinks (p1 : Int32) (p2 : Int32) (S : zSt) : Option (Int32 × zSt) :=
  zU (fX12_ran 2 S) fun S2 => zB (fX12_steps p1 p2 S2) fun r4 S5 => zB (fX12_sweeps p1 1 S5) fun r7 S8 => some ((r4 - r7), S8)
abbrev wX12_plainSinks : List Cond := Cond.code yX12_plainSinks cX12_plainSinks 4 (some .int) :: waR
abbrev rmX12_plainSinks : Room := { frames := 7, cells := 0, slots := 0, locals := 154 }
set_option maxHeartbeats 4000000 in
set_option maxRecDepth 100000 in
theorem kX12_plainSinks (l : Launch) (D : va_G) (cA : Nat → ClassId) (h : Nat → Nat) (sz : Nat)  (p1 : Int32) (p2 : Int32) (S : zSt) (r : Int32) (S1 : zSt) (hf : fX12_plainSinks p1 p2 S = some (r, S1)) : zMi l yX12_plainSinks wX12_plainSinks rmX12_plainSinks zTr D (tR cA) (hsR h) [.ref (h 0), .int p1, .int p2] (wR cA h S) (wR cA h S1) sz r := by
  refine zEn_i (cc := cX12_plainSinks) (maxL := 4) (own := RX12) (by decide) rfl rfl (hmR cA h S) (Nat.le_of_ble_eq_true rfl) ?_
  intro p e s m args below meth c Q H locs C0 hW fin ls hl
  have hl : lv_has ls 4 [(0, .ref (h 0)), (1, .int p1), (2, .int p2)] := hl
  have hx := C0.1
  have hb := C0.2.1
  have hown := C0.2.2.2.1
  have hts := C0.2.2.2.2
  unfold fX12_plainSinks at hf
  refine lv_aload_n (pc := 0) hx hb dX12_plainSinks_0 rfl (lv_at hl 0 rfl) ?_
  refine lv_iconst (pc := 1) (v := 2) hx hb dX12_plainSinks_1 (by decide) ?_
  obtain ⟨S2, e3, hf⟩ := zU_e hf
  refine zcVv zTr_ok (As := [.int 2]) (pc := 2) C0 hW (kX12_ran l D cA h H.size 2 S S2 e3) (cwV 1 hts (zgV gaR mR_307 mR_308 mR_309 mR_46 mR_301) rfl rfl rfl (by decide +kernel) ⟨Nat.le_of_ble_eq_true rfl, Nat.le_of_ble_eq_true rfl⟩) (va_recv hW.1 hW.2.1 (ci := 12) (q0 := 0) rfl rfl) rfl hl.1 rfl (Nat.le_of_ble_eq_true rfl) dX12_plainSinks_2 (fun H locs hW => ?_)
  refine lv_aload_n (pc := 5) hx hb dX12_plainSinks_5 rfl (lv_at hl 0 rfl) ?_
  refine lv_iload_n (pc := 6) hx hb dX12_plainSinks_6 rfl (lv_at hl 1 rfl) ?_
  refine lv_iload_n (pc := 7) hx hb dX12_plainSinks_7 rfl (lv_at hl 2 rfl) ?_
  obtain ⟨r4, S5, e6, hf⟩ := zB_e hf
  refine zcVi zTr_ok (As := [.int p1, .int p2]) (pc := 8) C0 hW (kX12_steps l D cA h H.size p1 p2 S2 r4 S5 e6) (cwV 2 hts (zgV gaR mR_341 mR_342 mR_343 mR_46 mR_328) rfl rfl rfl (by decide +kernel) ⟨Nat.le_of_ble_eq_true rfl, Nat.le_of_ble_eq_true rfl⟩) (va_recv hW.1 hW.2.1 (ci := 12) (q0 := 0) rfl rfl) rfl hl.1 rfl (Nat.le_of_ble_eq_true rfl) dX12_plainSinks_8 (fun H locs hW => ?_)
  refine lv_istore_n (pc := 11) (lv' := [(3, .int r4), (0, .ref (h 0)), (1, .int p1), (2, .int p2)]) hx hb dX12_plainSinks_11 rfl hl (by decide) rfl (fun ls hl => ?_)
  refine lv_iload_n (pc := 12) hx hb dX12_plainSinks_12 rfl (lv_at hl 0 rfl) ?_
  refine lv_aload_n (pc := 13) hx hb dX12_plainSinks_13 rfl (lv_at hl 1 rfl) ?_
  refine lv_iload_n (pc := 14) hx hb dX12_plainSinks_14 rfl (lv_at hl 2 rfl) ?_
  refine lv_iconst (pc := 15) (v := 1) hx hb dX12_plainSinks_15 (by decide) ?_
  obtain ⟨r7, S8, e9, hf⟩ := zB_e hf
  refine zcVi zTr_ok (As := [.int p1, .int 1]) (pc := 16) C0 hW (kX12_sweeps l D cA h H.size p1 1 S5 r7 S8 e9) (cwV 2 hts (zgV gaR mR_332 mR_333 mR_334 mR_46 mR_335) rfl rfl rfl (by decide +kernel) ⟨Nat.le_of_ble_eq_true rfl, Nat.le_of_ble_eq_true rfl⟩) (va_recv hW.1 hW.2.1 (ci := 12) (q0 := 0) rfl rfl) rfl hl.1 rfl (Nat.le_of_ble_eq_true rfl) dX12_plainSinks_16 (fun H locs hW => ?_)
  refine lv_isub (pc := 19) hx hb dX12_plainSinks_19 ?_
  exact zend_i (w := wR cA h) fin hf hW dX12_plainSinks_20

def fX12_linedSinks (p1 : Int32) (p2 : Int32) (S : zSt) : Option (Int32 × zSt) :=
  zU (fX12_ran 50 S) fun S2 => zB (fX12_plainSinks p1 p2 S2) fun r4 S5 => some ((r4 ^^^ 5), S5)
abbrev wX12_linedSinks : List Cond := Cond.code yX12_linedSinks cX12_linedSinks 3 (some .int) :: waR
abbrev rmX12_linedSinks : Room := { frames := 8, cells := 0, slots := 0, locals := 177 }
set_option maxHeartbeats 4000000 in
set_option maxRecDepth 100000 in
theorem kX12_linedSinks (l : Launch) (D : va_G) (cA : Nat → ClassId) (h : Nat → Nat) (sz : Nat)  (p1 : Int32) (p2 : Int32) (S : zSt) (r : Int32) (S1 : zSt) (hf : fX12_linedSinks p1 p2 S = some (r, S1)) : zMi l yX12_linedSinks wX12_linedSinks rmX12_linedSinks zTr D (tR cA) (hsR h) [.ref (h 0), .int p1, .int p2] (wR cA h S) (wR cA h S1) sz r := by
  refine zEn_i (cc := cX12_linedSinks) (maxL := 3) (own := RX12) (by decide) rfl rfl (hmR cA h S) (Nat.le_of_ble_eq_true rfl) ?_
  intro p e s m args below meth c Q H locs C0 hW fin ls hl
  have hl : lv_has ls 3 [(0, .ref (h 0)), (1, .int p1), (2, .int p2)] := hl
  have hx := C0.1
  have hb := C0.2.1
  have hown := C0.2.2.2.1
  have hts := C0.2.2.2.2
  unfold fX12_linedSinks at hf
  refine lv_aload_n (pc := 0) hx hb dX12_linedSinks_0 rfl (lv_at hl 0 rfl) ?_
  refine lv_bipush (pc := 1) (v := 50) hx hb dX12_linedSinks_1 (by decide) ?_
  obtain ⟨S2, e3, hf⟩ := zU_e hf
  refine zcVv zTr_ok (As := [.int 50]) (pc := 3) C0 hW (kX12_ran l D cA h H.size 50 S S2 e3) (cwV 1 hts (zgV gaR mR_307 mR_308 mR_309 mR_46 mR_301) rfl rfl rfl (by decide +kernel) ⟨Nat.le_of_ble_eq_true rfl, Nat.le_of_ble_eq_true rfl⟩) (va_recv hW.1 hW.2.1 (ci := 12) (q0 := 0) rfl rfl) rfl hl.1 rfl (Nat.le_of_ble_eq_true rfl) dX12_linedSinks_3 (fun H locs hW => ?_)
  refine lv_aload_n (pc := 6) hx hb dX12_linedSinks_6 rfl (lv_at hl 0 rfl) ?_
  refine lv_iload_n (pc := 7) hx hb dX12_linedSinks_7 rfl (lv_at hl 1 rfl) ?_
  refine lv_iload_n (pc := 8) hx hb dX12_linedSinks_8 rfl (lv_at hl 2 rfl) ?_
  obtain ⟨r4, S5, e6, hf⟩ := zB_e hf
  refine zcVi zTr_ok (As := [.int p1, .int p2]) (pc := 9) C0 hW (kX12_plainSinks l D cA h H.size p1 p2 S2 r4 S5 e6) (cwV 2 hts (zgV gaR mR_345 mR_346 mR_347 mR_46 mR_340) rfl rfl rfl (by decide +kernel) ⟨Nat.le_of_ble_eq_true rfl, Nat.le_of_ble_eq_true rfl⟩) (va_recv hW.1 hW.2.1 (ci := 12) (q0 := 0) rfl rfl) rfl hl.1 rfl (Nat.le_of_ble_eq_true rfl) dX12_linedSinks_9 (fun H locs hW => ?_)
  refine lv_iconst (pc := 12) (v := 5) hx hb dX12_linedSinks_12 (by decide) ?_
  refine lv_ixor (pc := 13) hx hb dX12_linedSinks_13 ?_
  exact zend_i (w := wR cA h) fin hf hW dX12_linedSinks_14

def fX12_sinks (p1 : Int32) (p2 : Int32) (S : zSt) : Option (Int32 × zSt) :=
  if zin p1 50 then if (S.2.1 41 (Int32.toNatClampNeg p1)) = 5 then (zU (fX12_ran 61 S) fun S12 => zB (fX12_linedSinks p1 p2 S12) fun r14 S15 => some ((r14 + 1), S15)) else (if zin p1 50 then if (S.2.1 41 (Int32.toNatClampNeg p1)) = 4 then (zB (fX12_linedSinks p1 p2 S) fun r8 S9 => some (r8, S9)) else (zB (fX12_plainSinks p1 p2 S) fun r5 S6 => some (r5, S6)) else none) else none
abbrev wX12_sinks : List Cond := Cond.code yX12_sinks cX12_sinks 3 (some .int) :: waR
abbrev rmX12_sinks : Room := { frames := 9, cells := 0, slots := 0, locals := 199 }
set_option maxHeartbeats 4000000 in
set_option maxRecDepth 100000 in
theorem kX12_sinks (l : Launch) (D : va_G) (cA : Nat → ClassId) (h : Nat → Nat) (sz : Nat)  (p1 : Int32) (p2 : Int32) (S : zSt) (r : Int32) (S1 : zSt) (hf : fX12_sinks p1 p2 S = some (r, S1)) : zMi l yX12_sinks wX12_sinks rmX12_sinks zTr D (tR cA) (hsR h) [.ref (h 0), .int p1, .int p2] (wR cA h S) (wR cA h S1) sz r := by
  refine zEn_i (cc := cX12_sinks) (maxL := 3) (own := RX12) (by decide) rfl rfl (hmR cA h S) (Nat.le_of_ble_eq_true rfl) ?_
  intro p e s m args below meth c Q H locs C0 hW fin ls hl
  have hl : lv_has ls 3 [(0, .ref (h 0)), (1, .int p1), (2, .int p2)] := hl
  have hx := C0.1
  have hb := C0.2.1
  have hown := C0.2.2.2.1
  have hts := C0.2.2.2.2
  unfold fX12_sinks at hf
  refine lv_aload_n (pc := 0) hx hb dX12_sinks_0 rfl (lv_at hl 0 rfl) ?_
  refine rg_41 (pc := 1) C0 hu_12 hW mR_32 dX12_sinks_1 ?_
  refine lv_iload_n (pc := 4) hx hb dX12_sinks_4 rfl (lv_at hl 1 rfl) ?_
  obtain ⟨i1, hf⟩ := zn hf
  refine rl_41 (pc := 5) C0 hW i1 dX12_sinks_5 ?_
  refine lv_iconst (pc := 6) (v := 5) hx hb dX12_sinks_6 (by decide) ?_
  refine lv_icmp_ne (pc := 7) (tgt := 25) hx hb dX12_sinks_7 (by decide) (fun c2 => ?_) (fun c2 => ?_)
  · have hf := zf c2 hf
    refine lv_aload_n (pc := 25) hx hb dX12_sinks_25 rfl (lv_at hl 0 rfl) ?_
    refine rg_41 (pc := 26) C0 hu_12 hW mR_32 dX12_sinks_26 ?_
    refine lv_iload_n (pc := 29) hx hb dX12_sinks_29 rfl (lv_at hl 1 rfl) ?_
    obtain ⟨i3, hf⟩ := zn hf
    refine rl_41 (pc := 30) C0 hW i3 dX12_sinks_30 ?_
    refine lv_iconst (pc := 31) (v := 4) hx hb dX12_sinks_31 (by decide) ?_
    refine lv_icmp_ne (pc := 32) (tgt := 44) hx hb dX12_sinks_32 (by decide) (fun c4 => ?_) (fun c4 => ?_)
    · have hf := zf c4 hf
      refine lv_aload_n (pc := 44) hx hb dX12_sinks_44 rfl (lv_at hl 0 rfl) ?_
      refine lv_iload_n (pc := 45) hx hb dX12_sinks_45 rfl (lv_at hl 1 rfl) ?_
      refine lv_iload_n (pc := 46) hx hb dX12_sinks_46 rfl (lv_at hl 2 rfl) ?_
      obtain ⟨r5, S6, e7, hf⟩ := zB_e hf
      refine zcVi zTr_ok (As := [.int p1, .int p2]) (pc := 47) C0 hW (kX12_plainSinks l D cA h H.size p1 p2 S r5 S6 e7) (cwV 2 hts (zgV gaR mR_345 mR_346 mR_347 mR_46 mR_340) rfl rfl rfl (by decide +kernel) ⟨Nat.le_of_ble_eq_true rfl, Nat.le_of_ble_eq_true rfl⟩) (va_recv hW.1 hW.2.1 (ci := 12) (q0 := 0) rfl rfl) rfl hl.1 rfl (Nat.le_of_ble_eq_true rfl) dX12_sinks_47 (fun H locs hW => ?_)
      exact zend_i (w := wR cA h) fin hf hW dX12_sinks_50
    · have hf := zt c4 hf
      refine lv_aload_n (pc := 35) hx hb dX12_sinks_35 rfl (lv_at hl 0 rfl) ?_
      refine lv_iload_n (pc := 36) hx hb dX12_sinks_36 rfl (lv_at hl 1 rfl) ?_
      refine lv_iload_n (pc := 37) hx hb dX12_sinks_37 rfl (lv_at hl 2 rfl) ?_
      obtain ⟨r8, S9, e10, hf⟩ := zB_e hf
      refine zcVi zTr_ok (As := [.int p1, .int p2]) (pc := 38) C0 hW (kX12_linedSinks l D cA h H.size p1 p2 S r8 S9 e10) (cwV 2 hts (zgV gaR mR_349 mR_350 mR_351 mR_46 mR_344) rfl rfl rfl (by decide +kernel) ⟨Nat.le_of_ble_eq_true rfl, Nat.le_of_ble_eq_true rfl⟩) (va_recv hW.1 hW.2.1 (ci := 12) (q0 := 0) rfl rfl) rfl hl.1 rfl (Nat.le_of_ble_eq_true rfl) dX12_sinks_38 (fun H locs hW => ?_)
      refine lv_goto (pc := 41) (tgt := 50) hx hb dX12_sinks_41 (by decide) ?_
      exact zend_i (w := wR cA h) fin hf hW dX12_sinks_50
  · have hf := zt c2 hf
    refine lv_aload_n (pc := 10) hx hb dX12_sinks_10 rfl (lv_at hl 0 rfl) ?_
    refine lv_bipush (pc := 11) (v := 61) hx hb dX12_sinks_11 (by decide) ?_
    obtain ⟨S12, e13, hf⟩ := zU_e hf
    refine zcVv zTr_ok (As := [.int 61]) (pc := 13) C0 hW (kX12_ran l D cA h H.size 61 S S12 e13) (cwV 1 hts (zgV gaR mR_307 mR_308 mR_309 mR_46 mR_301) rfl rfl rfl (by decide +kernel) ⟨Nat.le_of_ble_eq_true rfl, Nat.le_of_ble_eq_true rfl⟩) (va_recv hW.1 hW.2.1 (ci := 12) (q0 := 0) rfl rfl) rfl hl.1 rfl (Nat.le_of_ble_eq_true rfl) dX12_sinks_13 (fun H locs hW => ?_)
    refine lv_aload_n (pc := 16) hx hb dX12_sinks_16 rfl (lv_at hl 0 rfl) ?_
    refine lv_iload_n (pc := 17) hx hb dX12_sinks_17 rfl (lv_at hl 1 rfl) ?_
    refine lv_iload_n (pc := 18) hx hb dX12_sinks_18 rfl (lv_at hl 2 rfl) ?_
    obtain ⟨r14, S15, e16, hf⟩ := zB_e hf
    refine zcVi zTr_ok (As := [.int p1, .int p2]) (pc := 19) C0 hW (kX12_linedSinks l D cA h H.size p1 p2 S12 r14 S15 e16) (cwV 2 hts (zgV gaR mR_349 mR_350 mR_351 mR_46 mR_344) rfl rfl rfl (by decide +kernel) ⟨Nat.le_of_ble_eq_true rfl, Nat.le_of_ble_eq_true rfl⟩) (va_recv hW.1 hW.2.1 (ci := 12) (q0 := 0) rfl rfl) rfl hl.1 rfl (Nat.le_of_ble_eq_true rfl) dX12_sinks_19 (fun H locs hW => ?_)
    refine lv_iconst (pc := 22) (v := 1) hx hb dX12_sinks_22 (by decide) ?_
    refine lv_iadd (pc := 23) hx hb dX12_sinks_23 ?_
    exact zend_i (w := wR cA h) fin hf hW dX12_sinks_24

def fX12_act (p1 : Int32) (p2 : Int32) (p3 : Int32) (S : zSt) : Option (Int32 × zSt) :=
  zL (zI S 42 0) fun S1 => zB (fX12_isBody p1 S1) fun r2 S3 => if r2 = 0 then (some (0, S3)) else (zU (fX12_in p2 0 3) fun r6 => if r6 = 0 then (some (0, S3)) else (if p2 = 0 then (zB (fX12_standing p1 p3 S3) fun r22 S23 => some (r22, S23)) else (if p2 = 1 then (zB (fX12_steps p1 p3 S3) fun r19 S20 => some (r19, S20)) else (if p2 = 2 then (zB (fX12_sweeps p1 p3 S3) fun r16 S17 => some (r16, S17)) else (zB (fX12_sinks p1 p3 S3) fun r13 S14 => some (r13, S14))))))
abbrev wX12_act : List Cond := Cond.code yX12_act cX12_act 4 (some .int) :: waR
abbrev rmX12_act : Room := { frames := 10, cells := 0, slots := 0, locals := 221 }
set_option maxHeartbeats 4000000 in
set_option maxRecDepth 100000 in
theorem kX12_act (l : Launch) (D : va_G) (cA : Nat → ClassId) (h : Nat → Nat) (sz : Nat)  (p1 : Int32) (p2 : Int32) (p3 : Int32) (S : zSt) (r : Int32) (S1 : zSt) (hf : fX12_act p1 p2 p3 S = some (r, S1)) : zMi l yX12_act wX12_act rmX12_act zTr D (tR cA) (hsR h) [.ref (h 0), .int p1, .int p2, .int p3] (wR cA h S) (wR cA h S1) sz r := by
  refine zEn_i (cc := cX12_act) (maxL := 4) (own := RX12) (by decide) rfl rfl (hmR cA h S) (Nat.le_of_ble_eq_true rfl) ?_
  intro p e s m args below meth c Q H locs C0 hW fin ls hl
  have hl : lv_has ls 4 [(0, .ref (h 0)), (1, .int p1), (2, .int p2), (3, .int p3)] := hl
  have hx := C0.1
  have hb := C0.2.1
  have hown := C0.2.2.2.1
  have hts := C0.2.2.2.2
  unfold fX12_act at hf
  refine lv_aload_n (pc := 0) hx hb dX12_act_0 rfl (lv_at hl 0 rfl) ?_
  refine lv_iconst (pc := 1) (v := 0) hx hb dX12_act_1 (by decide) ?_
  obtain ⟨S1, e_S1, hf⟩ := zL_e hf
  refine rp_42 (pc := 2) C0 hu_12 hW mR_302 e_S1 dX12_act_2 (fun H locs hW => ?_)
  refine lv_aload_n (pc := 5) hx hb dX12_act_5 rfl (lv_at hl 0 rfl) ?_
  refine lv_iload_n (pc := 6) hx hb dX12_act_6 rfl (lv_at hl 1 rfl) ?_
  obtain ⟨r2, S3, e4, hf⟩ := zB_e hf
  refine zcVi zTr_ok (As := [.int p1]) (pc := 7) C0 hW (kX12_isBody l D cA h H.size p1 S1 r2 S3 e4) (cwV 1 hts (zgV gaR mR_353 mR_354 mR_355 mR_46 mR_299) rfl rfl rfl (by decide +kernel) ⟨Nat.le_of_ble_eq_true rfl, Nat.le_of_ble_eq_true rfl⟩) (va_recv hW.1 hW.2.1 (ci := 12) (q0 := 0) rfl rfl) rfl hl.1 rfl (Nat.le_of_ble_eq_true rfl) dX12_act_7 (fun H locs hW => ?_)
  refine lv_if_eq (pc := 10) (tgt := 22) hx hb dX12_act_10 (by decide) (fun c5 => ?_) (fun c5 => ?_)
  · have hf := zt c5 hf
    refine lv_iconst (pc := 22) (v := 0) hx hb dX12_act_22 (by decide) ?_
    exact zend_i (w := wR cA h) fin hf hW dX12_act_23
  · have hf := zf c5 hf
    refine lv_iload_n (pc := 13) hx hb dX12_act_13 rfl (lv_at hl 2 rfl) ?_
    refine lv_iconst (pc := 14) (v := 0) hx hb dX12_act_14 (by decide) ?_
    refine lv_iconst (pc := 15) (v := 3) hx hb dX12_act_15 (by decide) ?_
    obtain ⟨r6, e8, hf⟩ := zU_e hf
    refine zcSi (As := [.int p2, .int 0, .int 3]) (pc := 16) C0 hW (kX12_in l H.size p2 0 3 r6 e8) (va_cwS 3 hts (zgS gaR mR_44 mR_45 mR_46 mR_39) rfl rfl rfl (by decide +kernel) ⟨Nat.le_of_ble_eq_true rfl, Nat.le_of_ble_eq_true rfl⟩) rfl hl.1 rfl (Nat.le_of_ble_eq_true rfl) dX12_act_16 (fun H locs hW => ?_)
    refine lv_if_ne (pc := 19) (tgt := 24) hx hb dX12_act_19 (by decide) (fun c9 => ?_) (fun c9 => ?_)
    · have hf := zf c9 hf
      refine lv_iload_n (pc := 24) hx hb dX12_act_24 rfl (lv_at hl 2 rfl) ?_
      refine lv_if_ne (pc := 25) (tgt := 37) hx hb dX12_act_25 (by decide) (fun c10 => ?_) (fun c10 => ?_)
      · have hf := zf c10 hf
        refine lv_iload_n (pc := 37) hx hb dX12_act_37 rfl (lv_at hl 2 rfl) ?_
        refine lv_iconst (pc := 38) (v := 1) hx hb dX12_act_38 (by decide) ?_
        refine lv_icmp_ne (pc := 39) (tgt := 51) hx hb dX12_act_39 (by decide) (fun c11 => ?_) (fun c11 => ?_)
        · have hf := zf c11 hf
          refine lv_iload_n (pc := 51) hx hb dX12_act_51 rfl (lv_at hl 2 rfl) ?_
          refine lv_iconst (pc := 52) (v := 2) hx hb dX12_act_52 (by decide) ?_
          refine lv_icmp_ne (pc := 53) (tgt := 65) hx hb dX12_act_53 (by decide) (fun c12 => ?_) (fun c12 => ?_)
          · have hf := zf c12 hf
            refine lv_aload_n (pc := 65) hx hb dX12_act_65 rfl (lv_at hl 0 rfl) ?_
            refine lv_iload_n (pc := 66) hx hb dX12_act_66 rfl (lv_at hl 1 rfl) ?_
            refine lv_iload_n (pc := 67) hx hb dX12_act_67 rfl (lv_at hl 3 rfl) ?_
            obtain ⟨r13, S14, e15, hf⟩ := zB_e hf
            refine zcVi zTr_ok (As := [.int p1, .int p3]) (pc := 68) C0 hW (kX12_sinks l D cA h H.size p1 p3 S3 r13 S14 e15) (cwV 2 hts (zgV gaR mR_356 mR_357 mR_358 mR_46 mR_348) rfl rfl rfl (by decide +kernel) ⟨Nat.le_of_ble_eq_true rfl, Nat.le_of_ble_eq_true rfl⟩) (va_recv hW.1 hW.2.1 (ci := 12) (q0 := 0) rfl rfl) rfl hl.1 rfl (Nat.le_of_ble_eq_true rfl) dX12_act_68 (fun H locs hW => ?_)
            exact zend_i (w := wR cA h) fin hf hW dX12_act_71
          · have hf := zt c12 hf
            refine lv_aload_n (pc := 56) hx hb dX12_act_56 rfl (lv_at hl 0 rfl) ?_
            refine lv_iload_n (pc := 57) hx hb dX12_act_57 rfl (lv_at hl 1 rfl) ?_
            refine lv_iload_n (pc := 58) hx hb dX12_act_58 rfl (lv_at hl 3 rfl) ?_
            obtain ⟨r16, S17, e18, hf⟩ := zB_e hf
            refine zcVi zTr_ok (As := [.int p1, .int p3]) (pc := 59) C0 hW (kX12_sweeps l D cA h H.size p1 p3 S3 r16 S17 e18) (cwV 2 hts (zgV gaR mR_332 mR_333 mR_334 mR_46 mR_335) rfl rfl rfl (by decide +kernel) ⟨Nat.le_of_ble_eq_true rfl, Nat.le_of_ble_eq_true rfl⟩) (va_recv hW.1 hW.2.1 (ci := 12) (q0 := 0) rfl rfl) rfl hl.1 rfl (Nat.le_of_ble_eq_true rfl) dX12_act_59 (fun H locs hW => ?_)
            refine lv_goto (pc := 62) (tgt := 71) hx hb dX12_act_62 (by decide) ?_
            exact zend_i (w := wR cA h) fin hf hW dX12_act_71
        · have hf := zt c11 hf
          refine lv_aload_n (pc := 42) hx hb dX12_act_42 rfl (lv_at hl 0 rfl) ?_
          refine lv_iload_n (pc := 43) hx hb dX12_act_43 rfl (lv_at hl 1 rfl) ?_
          refine lv_iload_n (pc := 44) hx hb dX12_act_44 rfl (lv_at hl 3 rfl) ?_
          obtain ⟨r19, S20, e21, hf⟩ := zB_e hf
          refine zcVi zTr_ok (As := [.int p1, .int p3]) (pc := 45) C0 hW (kX12_steps l D cA h H.size p1 p3 S3 r19 S20 e21) (cwV 2 hts (zgV gaR mR_341 mR_342 mR_343 mR_46 mR_328) rfl rfl rfl (by decide +kernel) ⟨Nat.le_of_ble_eq_true rfl, Nat.le_of_ble_eq_true rfl⟩) (va_recv hW.1 hW.2.1 (ci := 12) (q0 := 0) rfl rfl) rfl hl.1 rfl (Nat.le_of_ble_eq_true rfl) dX12_act_45 (fun H locs hW => ?_)
          refine lv_goto (pc := 48) (tgt := 71) hx hb dX12_act_48 (by decide) ?_
          exact zend_i (w := wR cA h) fin hf hW dX12_act_71
      · have hf := zt c10 hf
        refine lv_aload_n (pc := 28) hx hb dX12_act_28 rfl (lv_at hl 0 rfl) ?_
        refine lv_iload_n (pc := 29) hx hb dX12_act_29 rfl (lv_at hl 1 rfl) ?_
        refine lv_iload_n (pc := 30) hx hb dX12_act_30 rfl (lv_at hl 3 rfl) ?_
        obtain ⟨r22, S23, e24, hf⟩ := zB_e hf
        refine zcVi zTr_ok (As := [.int p1, .int p3]) (pc := 31) C0 hW (kX12_standing l D cA h H.size p1 p3 S3 r22 S23 e24) (cwV 2 hts (zgV gaR mR_321 mR_322 mR_323 mR_46 mR_314) rfl rfl rfl (by decide +kernel) ⟨Nat.le_of_ble_eq_true rfl, Nat.le_of_ble_eq_true rfl⟩) (va_recv hW.1 hW.2.1 (ci := 12) (q0 := 0) rfl rfl) rfl hl.1 rfl (Nat.le_of_ble_eq_true rfl) dX12_act_31 (fun H locs hW => ?_)
        refine lv_goto (pc := 34) (tgt := 71) hx hb dX12_act_34 (by decide) ?_
        exact zend_i (w := wR cA h) fin hf hW dX12_act_71
    · have hf := zt c9 hf
      refine lv_iconst (pc := 22) (v := 0) hx hb dX12_act_22 (by decide) ?_
      exact zend_i (w := wR cA h) fin hf hW dX12_act_23

def fX12_count (p1 : Int32) (S : zSt) : Option (Int32 × zSt) :=
  if p1 = 0 then (some ((S.1 3), S)) else (if p1 = 1 then (some ((S.1 24), S)) else (if p1 = 2 then (some ((S.1 28), S)) else (if p1 = 3 then (some ((S.1 37), S)) else (if p1 = 4 then (some ((S.1 2), S)) else (if p1 = 5 then (some ((S.1 7), S)) else (if p1 = 6 then (some ((S.1 40), S)) else (if p1 = 7 then (some ((S.1 42), S)) else (some ((-1), S)))))))))
abbrev wX12_count : List Cond := Cond.code yX12_count cX12_count 2 (some .int) :: waR
abbrev rmX12_count : Room := { frames := 0, cells := 0, slots := 0, locals := 0 }
set_option maxHeartbeats 4000000 in
set_option maxRecDepth 100000 in
theorem kX12_count (l : Launch) (D : va_G) (cA : Nat → ClassId) (h : Nat → Nat) (sz : Nat)  (p1 : Int32) (S : zSt) (r : Int32) (S1 : zSt) (hf : fX12_count p1 S = some (r, S1)) : zMi l yX12_count wX12_count rmX12_count zTr D (tR cA) (hsR h) [.ref (h 0), .int p1] (wR cA h S) (wR cA h S1) sz r := by
  refine zEn_i (cc := cX12_count) (maxL := 2) (own := RX12) (by decide) rfl rfl (hmR cA h S) (Nat.le_of_ble_eq_true rfl) ?_
  intro p e s m args below meth c Q H locs C0 hW fin ls hl
  have hl : lv_has ls 2 [(0, .ref (h 0)), (1, .int p1)] := hl
  have hx := C0.1
  have hb := C0.2.1
  have hown := C0.2.2.2.1
  have hts := C0.2.2.2.2
  unfold fX12_count at hf
  refine lv_iload_n (pc := 0) hx hb dX12_count_0 rfl (lv_at hl 1 rfl) ?_
  by_cases c1 : p1 = 0
  · have hf := zt c1 hf
    refine lv_tableIn (pc := 1) (tgt := 48) (off := 47) hx hb dX12_count_1 (by rw [c1]; decide) (by rw [c1]; decide) (by rw [c1]; decide) (by decide) ?_
    refine lv_aload_n (pc := 48) hx hb dX12_count_48 rfl (lv_at hl 0 rfl) ?_
    refine rg_3 (pc := 49) C0 hu_12 hW mR_48 dX12_count_49 ?_
    exact zend_i (w := wR cA h) fin hf hW dX12_count_52
  have hf := zf c1 hf
  by_cases c2 : p1 = 1
  · have hf := zt c2 hf
    refine lv_tableIn (pc := 1) (tgt := 53) (off := 52) hx hb dX12_count_1 (by rw [c2]; decide) (by rw [c2]; decide) (by rw [c2]; decide) (by decide) ?_
    refine lv_aload_n (pc := 53) hx hb dX12_count_53 rfl (lv_at hl 0 rfl) ?_
    refine rg_24 (pc := 54) C0 hu_12 hW mR_159 dX12_count_54 ?_
    exact zend_i (w := wR cA h) fin hf hW dX12_count_57
  have hf := zf c2 hf
  by_cases c3 : p1 = 2
  · have hf := zt c3 hf
    refine lv_tableIn (pc := 1) (tgt := 58) (off := 57) hx hb dX12_count_1 (by rw [c3]; decide) (by rw [c3]; decide) (by rw [c3]; decide) (by decide) ?_
    refine lv_aload_n (pc := 58) hx hb dX12_count_58 rfl (lv_at hl 0 rfl) ?_
    refine rg_28 (pc := 59) C0 hu_12 hW mR_195 dX12_count_59 ?_
    exact zend_i (w := wR cA h) fin hf hW dX12_count_62
  have hf := zf c3 hf
  by_cases c4 : p1 = 3
  · have hf := zt c4 hf
    refine lv_tableIn (pc := 1) (tgt := 63) (off := 62) hx hb dX12_count_1 (by rw [c4]; decide) (by rw [c4]; decide) (by rw [c4]; decide) (by decide) ?_
    refine lv_aload_n (pc := 63) hx hb dX12_count_63 rfl (lv_at hl 0 rfl) ?_
    refine rg_37 (pc := 64) C0 hu_12 hW mR_280 dX12_count_64 ?_
    exact zend_i (w := wR cA h) fin hf hW dX12_count_67
  have hf := zf c4 hf
  by_cases c5 : p1 = 4
  · have hf := zt c5 hf
    refine lv_tableIn (pc := 1) (tgt := 68) (off := 67) hx hb dX12_count_1 (by rw [c5]; decide) (by rw [c5]; decide) (by rw [c5]; decide) (by decide) ?_
    refine lv_aload_n (pc := 68) hx hb dX12_count_68 rfl (lv_at hl 0 rfl) ?_
    refine rg_2 (pc := 69) C0 hu_12 hW mR_43 dX12_count_69 ?_
    exact zend_i (w := wR cA h) fin hf hW dX12_count_72
  have hf := zf c5 hf
  by_cases c6 : p1 = 5
  · have hf := zt c6 hf
    refine lv_tableIn (pc := 1) (tgt := 73) (off := 72) hx hb dX12_count_1 (by rw [c6]; decide) (by rw [c6]; decide) (by rw [c6]; decide) (by decide) ?_
    refine lv_aload_n (pc := 73) hx hb dX12_count_73 rfl (lv_at hl 0 rfl) ?_
    refine rg_7 (pc := 74) C0 hu_12 hW mR_80 dX12_count_74 ?_
    exact zend_i (w := wR cA h) fin hf hW dX12_count_77
  have hf := zf c6 hf
  by_cases c7 : p1 = 6
  · have hf := zt c7 hf
    refine lv_tableIn (pc := 1) (tgt := 78) (off := 77) hx hb dX12_count_1 (by rw [c7]; decide) (by rw [c7]; decide) (by rw [c7]; decide) (by decide) ?_
    refine lv_aload_n (pc := 78) hx hb dX12_count_78 rfl (lv_at hl 0 rfl) ?_
    refine rg_40 (pc := 79) C0 hu_12 hW mR_300 dX12_count_79 ?_
    exact zend_i (w := wR cA h) fin hf hW dX12_count_82
  have hf := zf c7 hf
  by_cases c8 : p1 = 7
  · have hf := zt c8 hf
    refine lv_tableIn (pc := 1) (tgt := 83) (off := 82) hx hb dX12_count_1 (by rw [c8]; decide) (by rw [c8]; decide) (by rw [c8]; decide) (by decide) ?_
    refine lv_aload_n (pc := 83) hx hb dX12_count_83 rfl (lv_at hl 0 rfl) ?_
    refine rg_42 (pc := 84) C0 hu_12 hW mR_302 dX12_count_84 ?_
    exact zend_i (w := wR cA h) fin hf hW dX12_count_87
  have hf := zf c8 hf
  refine lv_tableOut (pc := 1) (tgt := 88) hx hb dX12_count_1 (ztab 0 7 8 p1 (by decide) (fun j hj => match j, hj with | 0, _ => fun e => c1 (e.trans (by decide)) | 1, _ => fun e => c2 (e.trans (by decide)) | 2, _ => fun e => c3 (e.trans (by decide)) | 3, _ => fun e => c4 (e.trans (by decide)) | 4, _ => fun e => c5 (e.trans (by decide)) | 5, _ => fun e => c6 (e.trans (by decide)) | 6, _ => fun e => c7 (e.trans (by decide)) | 7, _ => fun e => c8 (e.trans (by decide)) | j + 8, h => absurd h (by omega))) (by decide) ?_
  refine lv_iconst (pc := 88) (v := (-1)) hx hb dX12_count_88 (by decide) ?_
  exact zend_i (w := wR cA h) fin hf hW dX12_count_89

def fX12_keep_b22  (v1 : Int32) (v2 : Int32) (S : zSt) : Option (Int32 × zSt) :=
  if zin v1 6 then zL (zA S 44 (Int32.toNatClampNeg v1) v2) fun S2 => some (1, S2) else none
def fX12_keep (p1 : Int32) (p2 : Int32) (S : zSt) : Option (Int32 × zSt) :=
  zU (fX12_isShelf p1) fun r3 => if r3 = 0 then (some ((-1), S)) else (if p2 = (-1) then (fX12_keep_b22 p1 p2 S) else (zB (fX12_isBody p2 S) fun r8 S9 => if r8 = 0 then (some ((-1), S9)) else (fX12_keep_b22 p1 p2 S9)))
abbrev wX12_keep : List Cond := Cond.code yX12_keep cX12_keep 3 (some .int) :: waR
abbrev rmX12_keep : Room := { frames := 2, cells := 0, slots := 0, locals := 43 }
set_option maxHeartbeats 4000000 in
set_option maxRecDepth 100000 in
theorem kX12_keep (l : Launch) (D : va_G) (cA : Nat → ClassId) (h : Nat → Nat) (sz : Nat)  (p1 : Int32) (p2 : Int32) (S : zSt) (r : Int32) (S1 : zSt) (hf : fX12_keep p1 p2 S = some (r, S1)) : zMi l yX12_keep wX12_keep rmX12_keep zTr D (tR cA) (hsR h) [.ref (h 0), .int p1, .int p2] (wR cA h S) (wR cA h S1) sz r := by
  refine zEn_i (cc := cX12_keep) (maxL := 3) (own := RX12) (by decide) rfl rfl (hmR cA h S) (Nat.le_of_ble_eq_true rfl) ?_
  intro p e s m args below meth c Q H locs C0 hW fin ls hl
  have hl : lv_has ls 3 [(0, .ref (h 0)), (1, .int p1), (2, .int p2)] := hl
  have hx := C0.1
  have hb := C0.2.1
  have hown := C0.2.2.2.1
  have hts := C0.2.2.2.2
  have w22 : ∀ (v1 : Int32) (v2 : Int32) (S : zSt) (H : Heap) (locs : List Loc), zW zTr D (tR cA) (wR cA h S) (aW (hsR h) s.heap.size) s H locs → ∀ ls : Array Slot, lv_has ls 3 [(0, .ref (h 0)), (1, .int v1), (2, .int v2)] → fX12_keep_b22 v1 v2 S = some (r, S1) → W p l e rmX12_keep s m args below meth c H locs 0 0 Q (F0 m 22 ls []) := by
    intro v1 v2 S H locs hW ls hl hf
    unfold fX12_keep_b22 at hf
    refine lv_aload_n (pc := 22) hx hb dX12_keep_22 rfl (lv_at hl 0 rfl) ?_
    refine rg_44 (pc := 23) C0 hu_12 hW mR_34 dX12_keep_23 ?_
    refine lv_iload_n (pc := 26) hx hb dX12_keep_26 rfl (lv_at hl 1 rfl) ?_
    refine lv_iload_n (pc := 27) hx hb dX12_keep_27 rfl (lv_at hl 2 rfl) ?_
    obtain ⟨i1, hf⟩ := zn hf
    obtain ⟨S2, e_S2, hf⟩ := zL_e hf
    refine rs_44 (pc := 28) C0 hW i1 e_S2 dX12_keep_28 (fun H locs hW => ?_)
    refine lv_iconst (pc := 29) (v := 1) hx hb dX12_keep_29 (by decide) ?_
    exact zend_i (w := wR cA h) fin hf hW dX12_keep_30
  unfold fX12_keep at hf
  refine lv_iload_n (pc := 0) hx hb dX12_keep_0 rfl (lv_at hl 1 rfl) ?_
  obtain ⟨r3, e5, hf⟩ := zU_e hf
  refine zcSi (As := [.int p1]) (pc := 1) C0 hW (kX12_isShelf l H.size p1 r3 e5) (va_cwS 1 hts (zgS gaR mR_290 mR_291 mR_46 mR_292) rfl rfl rfl (by decide +kernel) ⟨Nat.le_of_ble_eq_true rfl, Nat.le_of_ble_eq_true rfl⟩) rfl hl.1 rfl (Nat.le_of_ble_eq_true rfl) dX12_keep_1 (fun H locs hW => ?_)
  refine lv_if_eq (pc := 4) (tgt := 20) hx hb dX12_keep_4 (by decide) (fun c6 => ?_) (fun c6 => ?_)
  · have hf := zt c6 hf
    refine lv_iconst (pc := 20) (v := (-1)) hx hb dX12_keep_20 (by decide) ?_
    exact zend_i (w := wR cA h) fin hf hW dX12_keep_21
  · have hf := zf c6 hf
    refine lv_iload_n (pc := 7) hx hb dX12_keep_7 rfl (lv_at hl 2 rfl) ?_
    refine lv_iconst (pc := 8) (v := (-1)) hx hb dX12_keep_8 (by decide) ?_
    refine lv_icmp_eq (pc := 9) (tgt := 22) hx hb dX12_keep_9 (by decide) (fun c7 => ?_) (fun c7 => ?_)
    · have hf := zt c7 hf
      exact w22 p1 p2 S H locs hW ls (lv_sub hl [0, 1, 2] rfl) hf
    · have hf := zf c7 hf
      refine lv_aload_n (pc := 12) hx hb dX12_keep_12 rfl (lv_at hl 0 rfl) ?_
      refine lv_iload_n (pc := 13) hx hb dX12_keep_13 rfl (lv_at hl 2 rfl) ?_
      obtain ⟨r8, S9, e10, hf⟩ := zB_e hf
      refine zcVi zTr_ok (As := [.int p2]) (pc := 14) C0 hW (kX12_isBody l D cA h H.size p2 S r8 S9 e10) (cwV 1 hts (zgV gaR mR_353 mR_354 mR_355 mR_46 mR_299) rfl rfl rfl (by decide +kernel) ⟨Nat.le_of_ble_eq_true rfl, Nat.le_of_ble_eq_true rfl⟩) (va_recv hW.1 hW.2.1 (ci := 12) (q0 := 0) rfl rfl) rfl hl.1 rfl (Nat.le_of_ble_eq_true rfl) dX12_keep_14 (fun H locs hW => ?_)
      refine lv_if_ne (pc := 17) (tgt := 22) hx hb dX12_keep_17 (by decide) (fun c11 => ?_) (fun c11 => ?_)
      · have hf := zf c11 hf
        exact w22 p1 p2 S9 H locs hW ls (lv_sub hl [0, 1, 2] rfl) hf
      · have hf := zt c11 hf
        refine lv_iconst (pc := 20) (v := (-1)) hx hb dX12_keep_20 (by decide) ?_
        exact zend_i (w := wR cA h) fin hf hW dX12_keep_21

def fX12_row_b54 (N : Nat) : Nat → Int32 → Int32 → zSt → Option (Int32 × zSt)
  | 0, _, _, _ => none
  | n + 1, v1, v4, S =>
    if ((60 * v1) + 60) ≤ v4 then (some (1, S)) else (if zin v4 360 then zL (zJ S 46 (Int32.toNatClampNeg v4) 0) fun S3 => fX12_row_b54 N n v1 (v4 + 1) S3 else none)
def fX12_row (N : Nat) (p1 : Int32) (p2 : Int32) (p3 : Int32) (S : zSt) : Option (Int32 × zSt) :=
  zU (fX12_isShelf p1) fun r4 => if r4 = 0 then (some ((-1), S)) else (zU (fX12_in p2 0 4) fun r8 => if r8 = 0 then (some ((-1), S)) else (if p3 ≤ 60 then (if 0 ≤ p3 then (if zin p1 6 then zL (zA S 44 (Int32.toNatClampNeg p1) ((-2) - p2)) fun S15 => if zin p1 6 then zL (zA S15 45 (Int32.toNatClampNeg p1) p3) fun S17 => fX12_row_b54 N N p1 (60 * p1) S17 else none else none) else (some ((-14), S))) else (some ((-1), S))))
abbrev wX12_row : List Cond := Cond.code yX12_row cX12_row 5 (some .int) :: waR
abbrev rmX12_row : Room := { frames := 2, cells := 0, slots := 0, locals := 42 }
set_option maxHeartbeats 4000000 in
set_option maxRecDepth 100000 in
theorem kX12_row (l : Launch) (D : va_G) (cA : Nat → ClassId) (h : Nat → Nat) (sz : Nat) (N : Nat)  (p1 : Int32) (p2 : Int32) (p3 : Int32) (S : zSt) (r : Int32) (S1 : zSt) (hf : fX12_row N p1 p2 p3 S = some (r, S1)) : zMi l yX12_row wX12_row rmX12_row zTr D (tR cA) (hsR h) [.ref (h 0), .int p1, .int p2, .int p3] (wR cA h S) (wR cA h S1) sz r := by
  refine zEn_i (cc := cX12_row) (maxL := 5) (own := RX12) (by decide) rfl rfl (hmR cA h S) (Nat.le_of_ble_eq_true rfl) ?_
  intro p e s m args below meth c Q H locs C0 hW fin ls hl
  have hl : lv_has ls 5 [(0, .ref (h 0)), (1, .int p1), (2, .int p2), (3, .int p3)] := hl
  have hx := C0.1
  have hb := C0.2.1
  have hown := C0.2.2.2.1
  have hts := C0.2.2.2.2
  have w54 : ∀ (n : Nat), ∀ (v1 : Int32) (v4 : Int32) (S : zSt) (H : Heap) (locs : List Loc), zW zTr D (tR cA) (wR cA h S) (aW (hsR h) s.heap.size) s H locs → ∀ ls : Array Slot, lv_has ls 5 [(0, .ref (h 0)), (1, .int v1), (4, .int v4)] → fX12_row_b54 N n v1 v4 S = some (r, S1) → W p l e rmX12_row s m args below meth c H locs 0 0 Q (F0 m 54 ls []) := by
    intro n
    induction n with
    | zero =>
      intro v1 v4 S H locs hW ls hl hf
      exact absurd hf (by intro h; cases h)
    | succ n ih =>
      intro v1 v4 S H locs hW ls hl hf
      rw [fX12_row_b54] at hf
      refine lv_iload (pc := 54) hx hb dX12_row_54 (lv_at hl 2 rfl) ?_
      refine lv_bipush (pc := 56) (v := 60) hx hb dX12_row_56 (by decide) ?_
      refine lv_iload_n (pc := 58) hx hb dX12_row_58 rfl (lv_at hl 1 rfl) ?_
      refine lv_imul (pc := 59) hx hb dX12_row_59 ?_
      refine lv_bipush (pc := 60) (v := 60) hx hb dX12_row_60 (by decide) ?_
      refine lv_iadd (pc := 62) hx hb dX12_row_62 ?_
      refine lv_icmp_ge (pc := 63) (tgt := 80) hx hb dX12_row_63 (by decide) (fun c1 => ?_) (fun c1 => ?_)
      · have hf := zt c1 hf
        refine lv_iconst (pc := 80) (v := 1) hx hb dX12_row_80 (by decide) ?_
        exact zend_i (w := wR cA h) fin hf hW dX12_row_81
      · have hf := zf c1 hf
        refine lv_aload_n (pc := 66) hx hb dX12_row_66 rfl (lv_at hl 0 rfl) ?_
        refine rg_46 (pc := 67) C0 hu_12 hW mR_37 dX12_row_67 ?_
        refine lv_iload (pc := 70) hx hb dX12_row_70 (lv_at hl 2 rfl) ?_
        refine lv_lconst (pc := 72) (v := 0) hx hb dX12_row_72 (by decide) ?_
        obtain ⟨i2, hf⟩ := zn hf
        obtain ⟨S3, e_S3, hf⟩ := zL_e hf
        refine rs_46 (pc := 73) C0 hW i2 e_S3 dX12_row_73 (fun H locs hW => ?_)
        refine lv_iinc (pc := 74) (v := (v4 + 1)) (lv' := [(4, .int (v4 + 1)), (0, .ref (h 0)), (1, .int v1)]) hx hb dX12_row_74 hl (k := 2) rfl (by rfl) (by decide) rfl (fun ls hl => ?_)
        refine lv_goto (pc := 77) (tgt := 54) hx hb dX12_row_77 (by decide) ?_
        exact ih v1 (v4 + 1) S3 H locs hW ls (lv_sub hl [1, 2, 0] rfl) hf
  unfold fX12_row at hf
  refine lv_iload_n (pc := 0) hx hb dX12_row_0 rfl (lv_at hl 1 rfl) ?_
  obtain ⟨r4, e6, hf⟩ := zU_e hf
  refine zcSi (As := [.int p1]) (pc := 1) C0 hW (kX12_isShelf l H.size p1 r4 e6) (va_cwS 1 hts (zgS gaR mR_290 mR_291 mR_46 mR_292) rfl rfl rfl (by decide +kernel) ⟨Nat.le_of_ble_eq_true rfl, Nat.le_of_ble_eq_true rfl⟩) rfl hl.1 rfl (Nat.le_of_ble_eq_true rfl) dX12_row_1 (fun H locs hW => ?_)
  refine lv_if_eq (pc := 4) (tgt := 22) hx hb dX12_row_4 (by decide) (fun c7 => ?_) (fun c7 => ?_)
  · have hf := zt c7 hf
    refine lv_iconst (pc := 22) (v := (-1)) hx hb dX12_row_22 (by decide) ?_
    exact zend_i (w := wR cA h) fin hf hW dX12_row_23
  · have hf := zf c7 hf
    refine lv_iload_n (pc := 7) hx hb dX12_row_7 rfl (lv_at hl 2 rfl) ?_
    refine lv_iconst (pc := 8) (v := 0) hx hb dX12_row_8 (by decide) ?_
    refine lv_iconst (pc := 9) (v := 4) hx hb dX12_row_9 (by decide) ?_
    obtain ⟨r8, e10, hf⟩ := zU_e hf
    refine zcSi (As := [.int p2, .int 0, .int 4]) (pc := 10) C0 hW (kX12_in l H.size p2 0 4 r8 e10) (va_cwS 3 hts (zgS gaR mR_44 mR_45 mR_46 mR_39) rfl rfl rfl (by decide +kernel) ⟨Nat.le_of_ble_eq_true rfl, Nat.le_of_ble_eq_true rfl⟩) rfl hl.1 rfl (Nat.le_of_ble_eq_true rfl) dX12_row_10 (fun H locs hW => ?_)
    refine lv_if_eq (pc := 13) (tgt := 22) hx hb dX12_row_13 (by decide) (fun c11 => ?_) (fun c11 => ?_)
    · have hf := zt c11 hf
      refine lv_iconst (pc := 22) (v := (-1)) hx hb dX12_row_22 (by decide) ?_
      exact zend_i (w := wR cA h) fin hf hW dX12_row_23
    · have hf := zf c11 hf
      refine lv_iload_n (pc := 16) hx hb dX12_row_16 rfl (lv_at hl 3 rfl) ?_
      refine lv_bipush (pc := 17) (v := 60) hx hb dX12_row_17 (by decide) ?_
      refine lv_icmp_le (pc := 19) (tgt := 24) hx hb dX12_row_19 (by decide) (fun c12 => ?_) (fun c12 => ?_)
      · have hf := zt c12 hf
        refine lv_iload_n (pc := 24) hx hb dX12_row_24 rfl (lv_at hl 3 rfl) ?_
        refine lv_if_ge (pc := 25) (tgt := 31) hx hb dX12_row_25 (by decide) (fun c13 => ?_) (fun c13 => ?_)
        · have hf := zt c13 hf
          refine lv_aload_n (pc := 31) hx hb dX12_row_31 rfl (lv_at hl 0 rfl) ?_
          refine rg_44 (pc := 32) C0 hu_12 hW mR_34 dX12_row_32 ?_
          refine lv_iload_n (pc := 35) hx hb dX12_row_35 rfl (lv_at hl 1 rfl) ?_
          refine lv_bipush (pc := 36) (v := (-2)) hx hb dX12_row_36 (by decide) ?_
          refine lv_iload_n (pc := 38) hx hb dX12_row_38 rfl (lv_at hl 2 rfl) ?_
          refine lv_isub (pc := 39) hx hb dX12_row_39 ?_
          obtain ⟨i14, hf⟩ := zn hf
          obtain ⟨S15, e_S15, hf⟩ := zL_e hf
          refine rs_44 (pc := 40) C0 hW i14 e_S15 dX12_row_40 (fun H locs hW => ?_)
          refine lv_aload_n (pc := 41) hx hb dX12_row_41 rfl (lv_at hl 0 rfl) ?_
          refine rg_45 (pc := 42) C0 hu_12 hW mR_35 dX12_row_42 ?_
          refine lv_iload_n (pc := 45) hx hb dX12_row_45 rfl (lv_at hl 1 rfl) ?_
          refine lv_iload_n (pc := 46) hx hb dX12_row_46 rfl (lv_at hl 3 rfl) ?_
          obtain ⟨i16, hf⟩ := zn hf
          obtain ⟨S17, e_S17, hf⟩ := zL_e hf
          refine rs_45 (pc := 47) C0 hW i16 e_S17 dX12_row_47 (fun H locs hW => ?_)
          refine lv_bipush (pc := 48) (v := 60) hx hb dX12_row_48 (by decide) ?_
          refine lv_iload_n (pc := 50) hx hb dX12_row_50 rfl (lv_at hl 1 rfl) ?_
          refine lv_imul (pc := 51) hx hb dX12_row_51 ?_
          refine lv_istore (pc := 52) (lv' := [(4, .int (60 * p1)), (0, .ref (h 0)), (1, .int p1), (2, .int p2), (3, .int p3)]) hx hb dX12_row_52 hl (by decide) rfl (fun ls hl => ?_)
          exact w54 N p1 (60 * p1) S17 H locs hW ls (lv_sub hl [1, 2, 0] rfl) hf
        · have hf := zf c13 hf
          refine lv_bipush (pc := 28) (v := (-14)) hx hb dX12_row_28 (by decide) ?_
          exact zend_i (w := wR cA h) fin hf hW dX12_row_30
      · have hf := zf c12 hf
        refine lv_iconst (pc := 22) (v := (-1)) hx hb dX12_row_22 (by decide) ?_
        exact zend_i (w := wR cA h) fin hf hW dX12_row_23

def fX12_whyNoPlace (p1 : Int32) (p2 : Int32) (S : zSt) : Option (Int32 × zSt) :=
  zU (fX12_isShelf p1) fun r1 => if r1 = 0 then (some ((-1), S)) else (if zin p1 6 then if (S.2.1 44 (Int32.toNatClampNeg p1)) = (-1) then (some ((-11), S)) else (if zin p1 6 then if (S.2.1 44 (Int32.toNatClampNeg p1)) < 0 then (if zin p1 6 then zU (fX12_in p2 0 ((S.2.1 45 (Int32.toNatClampNeg p1)) - 1)) fun r10 => if r10 = 0 then (some ((-13), S)) else (some (0, S)) else none) else (some ((-12), S)) else none) else none)
abbrev wX12_whyNoPlace : List Cond := Cond.code yX12_whyNoPlace cX12_whyNoPlace 3 (some .int) :: waR
abbrev rmX12_whyNoPlace : Room := { frames := 2, cells := 0, slots := 0, locals := 42 }
set_option maxHeartbeats 4000000 in
set_option maxRecDepth 100000 in
theorem kX12_whyNoPlace (l : Launch) (D : va_G) (cA : Nat → ClassId) (h : Nat → Nat) (sz : Nat)  (p1 : Int32) (p2 : Int32) (S : zSt) (r : Int32) (S1 : zSt) (hf : fX12_whyNoPlace p1 p2 S = some (r, S1)) : zMi l yX12_whyNoPlace wX12_whyNoPlace rmX12_whyNoPlace zTr D (tR cA) (hsR h) [.ref (h 0), .int p1, .int p2] (wR cA h S) (wR cA h S1) sz r := by
  refine zEn_i (cc := cX12_whyNoPlace) (maxL := 3) (own := RX12) (by decide) rfl rfl (hmR cA h S) (Nat.le_of_ble_eq_true rfl) ?_
  intro p e s m args below meth c Q H locs C0 hW fin ls hl
  have hl : lv_has ls 3 [(0, .ref (h 0)), (1, .int p1), (2, .int p2)] := hl
  have hx := C0.1
  have hb := C0.2.1
  have hown := C0.2.2.2.1
  have hts := C0.2.2.2.2
  unfold fX12_whyNoPlace at hf
  refine lv_iload_n (pc := 0) hx hb dX12_whyNoPlace_0 rfl (lv_at hl 1 rfl) ?_
  obtain ⟨r1, e3, hf⟩ := zU_e hf
  refine zcSi (As := [.int p1]) (pc := 1) C0 hW (kX12_isShelf l H.size p1 r1 e3) (va_cwS 1 hts (zgS gaR mR_290 mR_291 mR_46 mR_292) rfl rfl rfl (by decide +kernel) ⟨Nat.le_of_ble_eq_true rfl, Nat.le_of_ble_eq_true rfl⟩) rfl hl.1 rfl (Nat.le_of_ble_eq_true rfl) dX12_whyNoPlace_1 (fun H locs hW => ?_)
  refine lv_if_ne (pc := 4) (tgt := 9) hx hb dX12_whyNoPlace_4 (by decide) (fun c4 => ?_) (fun c4 => ?_)
  · have hf := zf c4 hf
    refine lv_aload_n (pc := 9) hx hb dX12_whyNoPlace_9 rfl (lv_at hl 0 rfl) ?_
    refine rg_44 (pc := 10) C0 hu_12 hW mR_34 dX12_whyNoPlace_10 ?_
    refine lv_iload_n (pc := 13) hx hb dX12_whyNoPlace_13 rfl (lv_at hl 1 rfl) ?_
    obtain ⟨i5, hf⟩ := zn hf
    refine rl_44 (pc := 14) C0 hW i5 dX12_whyNoPlace_14 ?_
    refine lv_iconst (pc := 15) (v := (-1)) hx hb dX12_whyNoPlace_15 (by decide) ?_
    refine lv_icmp_ne (pc := 16) (tgt := 22) hx hb dX12_whyNoPlace_16 (by decide) (fun c6 => ?_) (fun c6 => ?_)
    · have hf := zf c6 hf
      refine lv_aload_n (pc := 22) hx hb dX12_whyNoPlace_22 rfl (lv_at hl 0 rfl) ?_
      refine rg_44 (pc := 23) C0 hu_12 hW mR_34 dX12_whyNoPlace_23 ?_
      refine lv_iload_n (pc := 26) hx hb dX12_whyNoPlace_26 rfl (lv_at hl 1 rfl) ?_
      obtain ⟨i7, hf⟩ := zn hf
      refine rl_44 (pc := 27) C0 hW i7 dX12_whyNoPlace_27 ?_
      refine lv_if_lt (pc := 28) (tgt := 34) hx hb dX12_whyNoPlace_28 (by decide) (fun c8 => ?_) (fun c8 => ?_)
      · have hf := zt c8 hf
        refine lv_iload_n (pc := 34) hx hb dX12_whyNoPlace_34 rfl (lv_at hl 2 rfl) ?_
        refine lv_iconst (pc := 35) (v := 0) hx hb dX12_whyNoPlace_35 (by decide) ?_
        refine lv_aload_n (pc := 36) hx hb dX12_whyNoPlace_36 rfl (lv_at hl 0 rfl) ?_
        refine rg_45 (pc := 37) C0 hu_12 hW mR_35 dX12_whyNoPlace_37 ?_
        refine lv_iload_n (pc := 40) hx hb dX12_whyNoPlace_40 rfl (lv_at hl 1 rfl) ?_
        obtain ⟨i9, hf⟩ := zn hf
        refine rl_45 (pc := 41) C0 hW i9 dX12_whyNoPlace_41 ?_
        refine lv_iconst (pc := 42) (v := 1) hx hb dX12_whyNoPlace_42 (by decide) ?_
        refine lv_isub (pc := 43) hx hb dX12_whyNoPlace_43 ?_
        obtain ⟨r10, e12, hf⟩ := zU_e hf
        refine zcSi (As := [.int p2, .int 0, .int ((S.2.1 45 (Int32.toNatClampNeg p1)) - 1)]) (pc := 44) C0 hW (kX12_in l H.size p2 0 ((S.2.1 45 (Int32.toNatClampNeg p1)) - 1) r10 e12) (va_cwS 3 hts (zgS gaR mR_44 mR_45 mR_46 mR_39) rfl rfl rfl (by decide +kernel) ⟨Nat.le_of_ble_eq_true rfl, Nat.le_of_ble_eq_true rfl⟩) rfl hl.1 rfl (Nat.le_of_ble_eq_true rfl) dX12_whyNoPlace_44 (fun H locs hW => ?_)
        refine lv_if_eq (pc := 47) (tgt := 54) hx hb dX12_whyNoPlace_47 (by decide) (fun c13 => ?_) (fun c13 => ?_)
        · have hf := zt c13 hf
          refine lv_bipush (pc := 54) (v := (-13)) hx hb dX12_whyNoPlace_54 (by decide) ?_
          exact zend_i (w := wR cA h) fin hf hW dX12_whyNoPlace_56
        · have hf := zf c13 hf
          refine lv_iconst (pc := 50) (v := 0) hx hb dX12_whyNoPlace_50 (by decide) ?_
          refine lv_goto (pc := 51) (tgt := 56) hx hb dX12_whyNoPlace_51 (by decide) ?_
          exact zend_i (w := wR cA h) fin hf hW dX12_whyNoPlace_56
      · have hf := zf c8 hf
        refine lv_bipush (pc := 31) (v := (-12)) hx hb dX12_whyNoPlace_31 (by decide) ?_
        exact zend_i (w := wR cA h) fin hf hW dX12_whyNoPlace_33
    · have hf := zt c6 hf
      refine lv_bipush (pc := 19) (v := (-11)) hx hb dX12_whyNoPlace_19 (by decide) ?_
      exact zend_i (w := wR cA h) fin hf hW dX12_whyNoPlace_21
  · have hf := zt c4 hf
    refine lv_iconst (pc := 7) (v := (-1)) hx hb dX12_whyNoPlace_7 (by decide) ?_
    exact zend_i (w := wR cA h) fin hf hW dX12_whyNoPlace_8

def fX12_put (p1 : Int32) (p2 : Int32) (p3 : Int64) (S : zSt) : Option (Int32 × zSt) :=
  zB (fX12_whyNoPlace p1 p2 S) fun r1 S2 => if 0 ≤ r1 then (if zin p1 6 then zL (((-2) - (S2.2.1 44 (Int32.toNatClampNeg p1)))) fun (x6 : Int32) => if x6 = 0 then (if zin ((60 * p1) + p2) 360 then zL (zJ S2 46 (Int32.toNatClampNeg ((60 * p1) + p2)) (Int32.toInt64 (zi8 (Int64.toInt32 p3)))) fun S23 => some (1, S23) else none) else (if x6 = 1 then (if zin ((60 * p1) + p2) 360 then zL (zJ S2 46 (Int32.toNatClampNeg ((60 * p1) + p2)) (Int32.toInt64 (zi16 (Int64.toInt32 p3)))) fun S21 => some (1, S21) else none) else (if x6 = 2 then (if zin ((60 * p1) + p2) 360 then zL (zJ S2 46 (Int32.toNatClampNeg ((60 * p1) + p2)) (Int32.toInt64 (Int64.toInt32 p3))) fun S19 => some (1, S19) else none) else (if x6 = 3 then (if zin ((60 * p1) + p2) 360 then zL (zJ S2 46 (Int32.toNatClampNeg ((60 * p1) + p2)) p3) fun S17 => some (1, S17) else none) else (if (lg_cmp p3 0) = 0 then (if zin ((60 * p1) + p2) 360 then zL (zJ S2 46 (Int32.toNatClampNeg ((60 * p1) + p2)) 0) fun S13 => some (1, S13) else none) else (if zin ((60 * p1) + p2) 360 then zL (zJ S2 46 (Int32.toNatClampNeg ((60 * p1) + p2)) 1) fun S15 => some (1, S15) else none))))) else none) else (some (r1, S2))
abbrev wX12_put : List Cond := Cond.code yX12_put cX12_put 7 (some .int) :: waR
abbrev rmX12_put : Room := { frames := 3, cells := 0, slots := 0, locals := 64 }
set_option maxHeartbeats 4000000 in
set_option maxRecDepth 100000 in
theorem kX12_put (l : Launch) (D : va_G) (cA : Nat → ClassId) (h : Nat → Nat) (sz : Nat)  (p1 : Int32) (p2 : Int32) (p3 : Int64) (S : zSt) (r : Int32) (S1 : zSt) (hf : fX12_put p1 p2 p3 S = some (r, S1)) : zMi l yX12_put wX12_put rmX12_put zTr D (tR cA) (hsR h) [.ref (h 0), .int p1, .int p2, .long p3] (wR cA h S) (wR cA h S1) sz r := by
  refine zEn_i (cc := cX12_put) (maxL := 7) (own := RX12) (by decide) rfl rfl (hmR cA h S) (Nat.le_of_ble_eq_true rfl) ?_
  intro p e s m args below meth c Q H locs C0 hW fin ls hl
  have hl : lv_has ls 7 [(0, .ref (h 0)), (1, .int p1), (2, .int p2), (3, .long p3)] := hl
  have hx := C0.1
  have hb := C0.2.1
  have hown := C0.2.2.2.1
  have hts := C0.2.2.2.2
  unfold fX12_put at hf
  refine lv_aload_n (pc := 0) hx hb dX12_put_0 rfl (lv_at hl 0 rfl) ?_
  refine lv_iload_n (pc := 1) hx hb dX12_put_1 rfl (lv_at hl 1 rfl) ?_
  refine lv_iload_n (pc := 2) hx hb dX12_put_2 rfl (lv_at hl 2 rfl) ?_
  obtain ⟨r1, S2, e3, hf⟩ := zB_e hf
  refine zcVi zTr_ok (As := [.int p1, .int p2]) (pc := 3) C0 hW (kX12_whyNoPlace l D cA h H.size p1 p2 S r1 S2 e3) (cwV 2 hts (zgV gaR mR_364 mR_365 mR_366 mR_46 mR_362) rfl rfl rfl (by decide +kernel) ⟨Nat.le_of_ble_eq_true rfl, Nat.le_of_ble_eq_true rfl⟩) (va_recv hW.1 hW.2.1 (ci := 12) (q0 := 0) rfl rfl) rfl hl.1 rfl (Nat.le_of_ble_eq_true rfl) dX12_put_3 (fun H locs hW => ?_)
  refine lv_istore (pc := 6) (lv' := [(5, .int r1), (0, .ref (h 0)), (1, .int p1), (2, .int p2), (3, .long p3)]) hx hb dX12_put_6 hl (by decide) rfl (fun ls hl => ?_)
  refine lv_iload (pc := 8) hx hb dX12_put_8 (lv_at hl 0 rfl) ?_
  refine lv_if_ge (pc := 10) (tgt := 16) hx hb dX12_put_10 (by decide) (fun c4 => ?_) (fun c4 => ?_)
  · have hf := zt c4 hf
    refine lv_bipush (pc := 16) (v := (-2)) hx hb dX12_put_16 (by decide) ?_
    refine lv_aload_n (pc := 18) hx hb dX12_put_18 rfl (lv_at hl 1 rfl) ?_
    refine rg_44 (pc := 19) C0 hu_12 hW mR_34 dX12_put_19 ?_
    refine lv_iload_n (pc := 22) hx hb dX12_put_22 rfl (lv_at hl 2 rfl) ?_
    obtain ⟨i5, hf⟩ := zn hf
    refine rl_44 (pc := 23) C0 hW i5 dX12_put_23 ?_
    refine lv_isub (pc := 24) hx hb dX12_put_24 ?_
    obtain ⟨x6, e_x6, hf⟩ := zL_e hf
    refine ztopi e_x6 ?_
    refine lv_istore (pc := 25) (lv' := [(6, .int x6), (5, .int r1), (0, .ref (h 0)), (1, .int p1), (2, .int p2), (3, .long p3)]) hx hb dX12_put_25 hl (by decide) rfl (fun ls hl => ?_)
    refine lv_aload_n (pc := 27) hx hb dX12_put_27 rfl (lv_at hl 2 rfl) ?_
    refine rg_46 (pc := 28) C0 hu_12 hW mR_37 dX12_put_28 ?_
    refine lv_bipush (pc := 31) (v := 60) hx hb dX12_put_31 (by decide) ?_
    refine lv_iload_n (pc := 33) hx hb dX12_put_33 rfl (lv_at hl 3 rfl) ?_
    refine lv_imul (pc := 34) hx hb dX12_put_34 ?_
    refine lv_iload_n (pc := 35) hx hb dX12_put_35 rfl (lv_at hl 4 rfl) ?_
    refine lv_iadd (pc := 36) hx hb dX12_put_36 ?_
    refine lv_iload (pc := 37) hx hb dX12_put_37 (lv_at hl 0 rfl) ?_
    refine lv_if_ne (pc := 39) (tgt := 49) hx hb dX12_put_39 (by decide) (fun c7 => ?_) (fun c7 => ?_)
    · have hf := zf c7 hf
      refine lv_iload (pc := 49) hx hb dX12_put_49 (lv_at hl 0 rfl) ?_
      refine lv_iconst (pc := 51) (v := 1) hx hb dX12_put_51 (by decide) ?_
      refine lv_icmp_ne (pc := 52) (tgt := 62) hx hb dX12_put_52 (by decide) (fun c8 => ?_) (fun c8 => ?_)
      · have hf := zf c8 hf
        refine lv_iload (pc := 62) hx hb dX12_put_62 (lv_at hl 0 rfl) ?_
        refine lv_iconst (pc := 64) (v := 2) hx hb dX12_put_64 (by decide) ?_
        refine lv_icmp_ne (pc := 65) (tgt := 74) hx hb dX12_put_65 (by decide) (fun c9 => ?_) (fun c9 => ?_)
        · have hf := zf c9 hf
          refine lv_iload (pc := 74) hx hb dX12_put_74 (lv_at hl 0 rfl) ?_
          refine lv_iconst (pc := 76) (v := 3) hx hb dX12_put_76 (by decide) ?_
          refine lv_icmp_ne (pc := 77) (tgt := 84) hx hb dX12_put_77 (by decide) (fun c10 => ?_) (fun c10 => ?_)
          · have hf := zf c10 hf
            refine lv_lload_n (pc := 84) hx hb dX12_put_84 rfl (lv_at hl 5 rfl) ?_
            refine lv_lconst (pc := 85) (v := 0) hx hb dX12_put_85 (by decide) ?_
            refine W.lcmp (pc := 86) hx hb dX12_put_86 ?_
            refine lv_if_eq (pc := 87) (tgt := 94) hx hb dX12_put_87 (by decide) (fun c11 => ?_) (fun c11 => ?_)
            · have hf := zt c11 hf
              refine lv_lconst (pc := 94) (v := 0) hx hb dX12_put_94 (by decide) ?_
              obtain ⟨i12, hf⟩ := zn hf
              obtain ⟨S13, e_S13, hf⟩ := zL_e hf
              refine rs_46 (pc := 95) C0 hW i12 e_S13 dX12_put_95 (fun H locs hW => ?_)
              refine lv_iconst (pc := 96) (v := 1) hx hb dX12_put_96 (by decide) ?_
              exact zend_i (w := wR cA h) fin hf hW dX12_put_97
            · have hf := zf c11 hf
              refine lv_lconst (pc := 90) (v := 1) hx hb dX12_put_90 (by decide) ?_
              refine lv_goto (pc := 91) (tgt := 95) hx hb dX12_put_91 (by decide) ?_
              obtain ⟨i14, hf⟩ := zn hf
              obtain ⟨S15, e_S15, hf⟩ := zL_e hf
              refine rs_46 (pc := 95) C0 hW i14 e_S15 dX12_put_95 (fun H locs hW => ?_)
              refine lv_iconst (pc := 96) (v := 1) hx hb dX12_put_96 (by decide) ?_
              exact zend_i (w := wR cA h) fin hf hW dX12_put_97
          · have hf := zt c10 hf
            refine lv_lload_n (pc := 80) hx hb dX12_put_80 rfl (lv_at hl 5 rfl) ?_
            refine lv_goto (pc := 81) (tgt := 95) hx hb dX12_put_81 (by decide) ?_
            obtain ⟨i16, hf⟩ := zn hf
            obtain ⟨S17, e_S17, hf⟩ := zL_e hf
            refine rs_46 (pc := 95) C0 hW i16 e_S17 dX12_put_95 (fun H locs hW => ?_)
            refine lv_iconst (pc := 96) (v := 1) hx hb dX12_put_96 (by decide) ?_
            exact zend_i (w := wR cA h) fin hf hW dX12_put_97
        · have hf := zt c9 hf
          refine lv_lload_n (pc := 68) hx hb dX12_put_68 rfl (lv_at hl 5 rfl) ?_
          refine lv_l2i (pc := 69) (v := (Int64.toInt32 p3)) hx hb dX12_put_69 rfl ?_
          refine lv_i2l (pc := 70) (v := (Int32.toInt64 (Int64.toInt32 p3))) hx hb dX12_put_70 rfl ?_
          refine lv_goto (pc := 71) (tgt := 95) hx hb dX12_put_71 (by decide) ?_
          obtain ⟨i18, hf⟩ := zn hf
          obtain ⟨S19, e_S19, hf⟩ := zL_e hf
          refine rs_46 (pc := 95) C0 hW i18 e_S19 dX12_put_95 (fun H locs hW => ?_)
          refine lv_iconst (pc := 96) (v := 1) hx hb dX12_put_96 (by decide) ?_
          exact zend_i (w := wR cA h) fin hf hW dX12_put_97
      · have hf := zt c8 hf
        refine lv_lload_n (pc := 55) hx hb dX12_put_55 rfl (lv_at hl 5 rfl) ?_
        refine lv_l2i (pc := 56) (v := (Int64.toInt32 p3)) hx hb dX12_put_56 rfl ?_
        refine lv_i2s (pc := 57) (v := (zi16 (Int64.toInt32 p3))) hx hb dX12_put_57 rfl ?_
        refine lv_i2l (pc := 58) (v := (Int32.toInt64 (zi16 (Int64.toInt32 p3)))) hx hb dX12_put_58 rfl ?_
        refine lv_goto (pc := 59) (tgt := 95) hx hb dX12_put_59 (by decide) ?_
        obtain ⟨i20, hf⟩ := zn hf
        obtain ⟨S21, e_S21, hf⟩ := zL_e hf
        refine rs_46 (pc := 95) C0 hW i20 e_S21 dX12_put_95 (fun H locs hW => ?_)
        refine lv_iconst (pc := 96) (v := 1) hx hb dX12_put_96 (by decide) ?_
        exact zend_i (w := wR cA h) fin hf hW dX12_put_97
    · have hf := zt c7 hf
      refine lv_lload_n (pc := 42) hx hb dX12_put_42 rfl (lv_at hl 5 rfl) ?_
      refine lv_l2i (pc := 43) (v := (Int64.toInt32 p3)) hx hb dX12_put_43 rfl ?_
      refine lv_i2b (pc := 44) (v := (zi8 (Int64.toInt32 p3))) hx hb dX12_put_44 rfl ?_
      refine lv_i2l (pc := 45) (v := (Int32.toInt64 (zi8 (Int64.toInt32 p3)))) hx hb dX12_put_45 rfl ?_
      refine lv_goto (pc := 46) (tgt := 95) hx hb dX12_put_46 (by decide) ?_
      obtain ⟨i22, hf⟩ := zn hf
      obtain ⟨S23, e_S23, hf⟩ := zL_e hf
      refine rs_46 (pc := 95) C0 hW i22 e_S23 dX12_put_95 (fun H locs hW => ?_)
      refine lv_iconst (pc := 96) (v := 1) hx hb dX12_put_96 (by decide) ?_
      exact zend_i (w := wR cA h) fin hf hW dX12_put_97
  · have hf := zf c4 hf
    refine lv_iload (pc := 13) hx hb dX12_put_13 (lv_at hl 0 rfl) ?_
    exact zend_i (w := wR cA h) fin hf hW dX12_put_15

def fX12_element (p1 : Int32) (p2 : Int32) (S : zSt) : Option (Int64 × zSt) :=
  zB (fX12_whyNoPlace p1 p2 S) fun r1 S2 => if 0 ≤ r1 then (if zin ((60 * p1) + p2) 360 then some ((S2.2.2 46 (Int32.toNatClampNeg ((60 * p1) + p2))), S2) else none) else (some ((-9223372036854775808), S2))
abbrev wX12_element : List Cond := Cond.code yX12_element cX12_element 3 (some .long) :: waR
abbrev rmX12_element : Room := { frames := 3, cells := 0, slots := 0, locals := 64 }
set_option maxHeartbeats 4000000 in
set_option maxRecDepth 100000 in
theorem kX12_element (l : Launch) (D : va_G) (cA : Nat → ClassId) (h : Nat → Nat) (sz : Nat)  (p1 : Int32) (p2 : Int32) (S : zSt) (r : Int64) (S1 : zSt) (hf : fX12_element p1 p2 S = some (r, S1)) : zMl l yX12_element wX12_element rmX12_element zTr D (tR cA) (hsR h) [.ref (h 0), .int p1, .int p2] (wR cA h S) (wR cA h S1) sz r := by
  refine zEn_l (cc := cX12_element) (maxL := 3) (own := RX12) (by decide) rfl rfl (hmR cA h S) (Nat.le_of_ble_eq_true rfl) ?_
  intro p e s m args below meth c Q H locs C0 hW fin ls hl
  have hl : lv_has ls 3 [(0, .ref (h 0)), (1, .int p1), (2, .int p2)] := hl
  have hx := C0.1
  have hb := C0.2.1
  have hown := C0.2.2.2.1
  have hts := C0.2.2.2.2
  unfold fX12_element at hf
  refine lv_aload_n (pc := 0) hx hb dX12_element_0 rfl (lv_at hl 0 rfl) ?_
  refine lv_iload_n (pc := 1) hx hb dX12_element_1 rfl (lv_at hl 1 rfl) ?_
  refine lv_iload_n (pc := 2) hx hb dX12_element_2 rfl (lv_at hl 2 rfl) ?_
  obtain ⟨r1, S2, e3, hf⟩ := zB_e hf
  refine zcVi zTr_ok (As := [.int p1, .int p2]) (pc := 3) C0 hW (kX12_whyNoPlace l D cA h H.size p1 p2 S r1 S2 e3) (cwV 2 hts (zgV gaR mR_364 mR_365 mR_366 mR_46 mR_362) rfl rfl rfl (by decide +kernel) ⟨Nat.le_of_ble_eq_true rfl, Nat.le_of_ble_eq_true rfl⟩) (va_recv hW.1 hW.2.1 (ci := 12) (q0 := 0) rfl rfl) rfl hl.1 rfl (Nat.le_of_ble_eq_true rfl) dX12_element_3 (fun H locs hW => ?_)
  refine lv_if_ge (pc := 6) (tgt := 15) hx hb dX12_element_6 (by decide) (fun c4 => ?_) (fun c4 => ?_)
  · have hf := zt c4 hf
    refine lv_aload_n (pc := 15) hx hb dX12_element_15 rfl (lv_at hl 0 rfl) ?_
    refine rg_46 (pc := 16) C0 hu_12 hW mR_37 dX12_element_16 ?_
    refine lv_bipush (pc := 19) (v := 60) hx hb dX12_element_19 (by decide) ?_
    refine lv_iload_n (pc := 21) hx hb dX12_element_21 rfl (lv_at hl 1 rfl) ?_
    refine lv_imul (pc := 22) hx hb dX12_element_22 ?_
    refine lv_iload_n (pc := 23) hx hb dX12_element_23 rfl (lv_at hl 2 rfl) ?_
    refine lv_iadd (pc := 24) hx hb dX12_element_24 ?_
    obtain ⟨i5, hf⟩ := zn hf
    refine rl_46 (pc := 25) C0 hW i5 dX12_element_25 ?_
    exact zend_l (w := wR cA h) fin hf hW dX12_element_26
  · have hf := zf c4 hf
    refine lv_ldc2 (pc := 9) (v := (-9223372036854775808)) hx hb hown (hts _ mR_368) dX12_element_9 ?_
    refine lv_goto (pc := 12) (tgt := 26) hx hb dX12_element_12 (by decide) ?_
    exact zend_l (w := wR cA h) fin hf hW dX12_element_26

def fX12_shift_b150 (N : Nat) : Nat → Int32 → Int32 → Int32 → Int32 → zSt → Option (Int32 × zSt)
  | 0, _, _, _, _, _ => none
  | n + 1, v3, v4, v5, v6, S =>
    if v5 ≤ v6 then (some (v5, S)) else (if zin v6 60 then if zin (((60 * v3) + v4) + v6) 360 then zL (zJ S 46 (Int32.toNatClampNeg (((60 * v3) + v4) + v6)) (S.2.2 47 (Int32.toNatClampNeg v6))) fun S4 => fX12_shift_b150 N n v3 v4 v5 (v6 + 1) S4 else none else none)
def fX12_shift_b113 (N : Nat) : Nat → Int32 → Int32 → Int32 → Int32 → Int32 → Int32 → zSt → Option (Int32 × zSt)
  | 0, _, _, _, _, _, _, _ => none
  | n + 1, v1, v2, v3, v4, v5, v6, S =>
    if v5 ≤ v6 then (fX12_shift_b150 N N v3 v4 v5 0 S) else (if zin (((60 * v1) + v2) + v6) 360 then if zin v6 60 then zL (zJ S 47 (Int32.toNatClampNeg v6) (S.2.2 46 (Int32.toNatClampNeg (((60 * v1) + v2) + v6)))) fun S8 => fX12_shift_b113 N n v1 v2 v3 v4 v5 (v6 + 1) S8 else none else none)
def fX12_shift (N : Nat) (p1 : Int32) (p2 : Int32) (p3 : Int32) (p4 : Int32) (p5 : Int32) (S : zSt) : Option (Int32 × zSt) :=
  zU (fX12_isShelf p1) fun r9 => if r9 = 0 then (some ((-1), S)) else (zU (fX12_isShelf p3) fun r13 => if r13 = 0 then (some ((-1), S)) else (if zin p1 6 then if (S.2.1 44 (Int32.toNatClampNeg p1)) = (-1) then (some ((-11), S)) else (if zin p3 6 then if (S.2.1 44 (Int32.toNatClampNeg p3)) = (-1) then (some ((-11), S)) else (if zin p1 6 then if 0 ≤ (S.2.1 44 (Int32.toNatClampNeg p1)) then (some ((-12), S)) else (if zin p1 6 then if zin p3 6 then if (S.2.1 44 (Int32.toNatClampNeg p1)) = (S.2.1 44 (Int32.toNatClampNeg p3)) then (if p5 < 0 then (some ((-13), S)) else (if p2 < 0 then (some ((-13), S)) else (if p4 < 0 then (some ((-13), S)) else (if zin p1 6 then if ((S.2.1 45 (Int32.toNatClampNeg p1)) - p5) < p2 then (some ((-13), S)) else (if zin p3 6 then if p4 ≤ ((S.2.1 45 (Int32.toNatClampNeg p3)) - p5) then (fX12_shift_b113 N N p1 p2 p3 p4 p5 0 S) else (some ((-13), S)) else none) else none)))) else (some ((-12), S)) else none else none) else none) else none) else none))
abbrev wX12_shift : List Cond := Cond.code yX12_shift cX12_shift 7 (some .int) :: waR
abbrev rmX12_shift : Room := { frames := 2, cells := 0, slots := 0, locals := 42 }
set_option maxHeartbeats 4000000 in
set_option maxRecDepth 100000 in
theorem kX12_shift (l : Launch) (D : va_G) (cA : Nat → ClassId) (h : Nat → Nat) (sz : Nat) (N : Nat)  (p1 : Int32) (p2 : Int32) (p3 : Int32) (p4 : Int32) (p5 : Int32) (S : zSt) (r : Int32) (S1 : zSt) (hf : fX12_shift N p1 p2 p3 p4 p5 S = some (r, S1)) : zMi l yX12_shift wX12_shift rmX12_shift zTr D (tR cA) (hsR h) [.ref (h 0), .int p1, .int p2, .int p3, .int p4, .int p5] (wR cA h S) (wR cA h S1) sz r := by
  refine zEn_i (cc := cX12_shift) (maxL := 7) (own := RX12) (by decide) rfl rfl (hmR cA h S) (Nat.le_of_ble_eq_true rfl) ?_
  intro p e s m args below meth c Q H locs C0 hW fin ls hl
  have hl : lv_has ls 7 [(0, .ref (h 0)), (1, .int p1), (2, .int p2), (3, .int p3), (4, .int p4), (5, .int p5)] := hl
  have hx := C0.1
  have hb := C0.2.1
  have hown := C0.2.2.2.1
  have hts := C0.2.2.2.2
  have w150 : ∀ (n : Nat), ∀ (v3 : Int32) (v4 : Int32) (v5 : Int32) (v6 : Int32) (S : zSt) (H : Heap) (locs : List Loc), zW zTr D (tR cA) (wR cA h S) (aW (hsR h) s.heap.size) s H locs → ∀ ls : Array Slot, lv_has ls 7 [(0, .ref (h 0)), (3, .int v3), (4, .int v4), (5, .int v5), (6, .int v6)] → fX12_shift_b150 N n v3 v4 v5 v6 S = some (r, S1) → W p l e rmX12_shift s m args below meth c H locs 0 0 Q (F0 m 150 ls []) := by
    intro n
    induction n with
    | zero =>
      intro v3 v4 v5 v6 S H locs hW ls hl hf
      exact absurd hf (by intro h; cases h)
    | succ n ih =>
      intro v3 v4 v5 v6 S H locs hW ls hl hf
      rw [fX12_shift_b150] at hf
      refine lv_iload (pc := 150) hx hb dX12_shift_150 (lv_at hl 4 rfl) ?_
      refine lv_iload (pc := 152) hx hb dX12_shift_152 (lv_at hl 3 rfl) ?_
      refine lv_icmp_ge (pc := 154) (tgt := 185) hx hb dX12_shift_154 (by decide) (fun c1 => ?_) (fun c1 => ?_)
      · have hf := zt c1 hf
        refine lv_iload (pc := 185) hx hb dX12_shift_185 (lv_at hl 3 rfl) ?_
        exact zend_i (w := wR cA h) fin hf hW dX12_shift_187
      · have hf := zf c1 hf
        refine lv_aload_n (pc := 157) hx hb dX12_shift_157 rfl (lv_at hl 0 rfl) ?_
        refine rg_46 (pc := 158) C0 hu_12 hW mR_37 dX12_shift_158 ?_
        refine lv_bipush (pc := 161) (v := 60) hx hb dX12_shift_161 (by decide) ?_
        refine lv_iload_n (pc := 163) hx hb dX12_shift_163 rfl (lv_at hl 1 rfl) ?_
        refine lv_imul (pc := 164) hx hb dX12_shift_164 ?_
        refine lv_iload (pc := 165) hx hb dX12_shift_165 (lv_at hl 2 rfl) ?_
        refine lv_iadd (pc := 167) hx hb dX12_shift_167 ?_
        refine lv_iload (pc := 168) hx hb dX12_shift_168 (lv_at hl 4 rfl) ?_
        refine lv_iadd (pc := 170) hx hb dX12_shift_170 ?_
        refine lv_aload_n (pc := 171) hx hb dX12_shift_171 rfl (lv_at hl 0 rfl) ?_
        refine rg_47 (pc := 172) C0 hu_12 hW mR_38 dX12_shift_172 ?_
        refine lv_iload (pc := 175) hx hb dX12_shift_175 (lv_at hl 4 rfl) ?_
        obtain ⟨i2, hf⟩ := zn hf
        refine rl_47 (pc := 177) C0 hW i2 dX12_shift_177 ?_
        obtain ⟨i3, hf⟩ := zn hf
        obtain ⟨S4, e_S4, hf⟩ := zL_e hf
        refine rs_46 (pc := 178) C0 hW i3 e_S4 dX12_shift_178 (fun H locs hW => ?_)
        refine lv_iinc (pc := 179) (v := (v6 + 1)) (lv' := [(6, .int (v6 + 1)), (0, .ref (h 0)), (3, .int v3), (4, .int v4), (5, .int v5)]) hx hb dX12_shift_179 hl (k := 4) rfl (by rfl) (by decide) rfl (fun ls hl => ?_)
        refine lv_goto (pc := 182) (tgt := 150) hx hb dX12_shift_182 (by decide) ?_
        exact ih v3 v4 v5 (v6 + 1) S4 H locs hW ls (lv_sub hl [1, 2, 3, 4, 0] rfl) hf
  have w113 : ∀ (n : Nat), ∀ (v1 : Int32) (v2 : Int32) (v3 : Int32) (v4 : Int32) (v5 : Int32) (v6 : Int32) (S : zSt) (H : Heap) (locs : List Loc), zW zTr D (tR cA) (wR cA h S) (aW (hsR h) s.heap.size) s H locs → ∀ ls : Array Slot, lv_has ls 7 [(0, .ref (h 0)), (1, .int v1), (2, .int v2), (3, .int v3), (4, .int v4), (5, .int v5), (6, .int v6)] → fX12_shift_b113 N n v1 v2 v3 v4 v5 v6 S = some (r, S1) → W p l e rmX12_shift s m args below meth c H locs 0 0 Q (F0 m 113 ls []) := by
    intro n
    induction n with
    | zero =>
      intro v1 v2 v3 v4 v5 v6 S H locs hW ls hl hf
      exact absurd hf (by intro h; cases h)
    | succ n ih =>
      intro v1 v2 v3 v4 v5 v6 S H locs hW ls hl hf
      rw [fX12_shift_b113] at hf
      refine lv_iload (pc := 113) hx hb dX12_shift_113 (lv_at hl 6 rfl) ?_
      refine lv_iload (pc := 115) hx hb dX12_shift_115 (lv_at hl 5 rfl) ?_
      refine lv_icmp_ge (pc := 117) (tgt := 147) hx hb dX12_shift_117 (by decide) (fun c5 => ?_) (fun c5 => ?_)
      · have hf := zt c5 hf
        refine lv_iconst (pc := 147) (v := 0) hx hb dX12_shift_147 (by decide) ?_
        refine lv_istore (pc := 148) (lv' := [(6, .int 0), (0, .ref (h 0)), (1, .int v1), (2, .int v2), (3, .int v3), (4, .int v4), (5, .int v5)]) hx hb dX12_shift_148 hl (by decide) rfl (fun ls hl => ?_)
        exact w150 N v3 v4 v5 0 S H locs hW ls (lv_sub hl [1, 4, 5, 6, 0] rfl) hf
      · have hf := zf c5 hf
        refine lv_aload_n (pc := 120) hx hb dX12_shift_120 rfl (lv_at hl 0 rfl) ?_
        refine rg_47 (pc := 121) C0 hu_12 hW mR_38 dX12_shift_121 ?_
        refine lv_iload (pc := 124) hx hb dX12_shift_124 (lv_at hl 6 rfl) ?_
        refine lv_aload_n (pc := 126) hx hb dX12_shift_126 rfl (lv_at hl 0 rfl) ?_
        refine rg_46 (pc := 127) C0 hu_12 hW mR_37 dX12_shift_127 ?_
        refine lv_bipush (pc := 130) (v := 60) hx hb dX12_shift_130 (by decide) ?_
        refine lv_iload_n (pc := 132) hx hb dX12_shift_132 rfl (lv_at hl 1 rfl) ?_
        refine lv_imul (pc := 133) hx hb dX12_shift_133 ?_
        refine lv_iload_n (pc := 134) hx hb dX12_shift_134 rfl (lv_at hl 2 rfl) ?_
        refine lv_iadd (pc := 135) hx hb dX12_shift_135 ?_
        refine lv_iload (pc := 136) hx hb dX12_shift_136 (lv_at hl 6 rfl) ?_
        refine lv_iadd (pc := 138) hx hb dX12_shift_138 ?_
        obtain ⟨i6, hf⟩ := zn hf
        refine rl_46 (pc := 139) C0 hW i6 dX12_shift_139 ?_
        obtain ⟨i7, hf⟩ := zn hf
        obtain ⟨S8, e_S8, hf⟩ := zL_e hf
        refine rs_47 (pc := 140) C0 hW i7 e_S8 dX12_shift_140 (fun H locs hW => ?_)
        refine lv_iinc (pc := 141) (v := (v6 + 1)) (lv' := [(6, .int (v6 + 1)), (0, .ref (h 0)), (1, .int v1), (2, .int v2), (3, .int v3), (4, .int v4), (5, .int v5)]) hx hb dX12_shift_141 hl (k := 6) rfl (by rfl) (by decide) rfl (fun ls hl => ?_)
        refine lv_goto (pc := 144) (tgt := 113) hx hb dX12_shift_144 (by decide) ?_
        exact ih v1 v2 v3 v4 v5 (v6 + 1) S8 H locs hW ls (lv_sub hl [1, 2, 3, 4, 5, 6, 0] rfl) hf
  unfold fX12_shift at hf
  refine lv_iload_n (pc := 0) hx hb dX12_shift_0 rfl (lv_at hl 1 rfl) ?_
  obtain ⟨r9, e11, hf⟩ := zU_e hf
  refine zcSi (As := [.int p1]) (pc := 1) C0 hW (kX12_isShelf l H.size p1 r9 e11) (va_cwS 1 hts (zgS gaR mR_290 mR_291 mR_46 mR_292) rfl rfl rfl (by decide +kernel) ⟨Nat.le_of_ble_eq_true rfl, Nat.le_of_ble_eq_true rfl⟩) rfl hl.1 rfl (Nat.le_of_ble_eq_true rfl) dX12_shift_1 (fun H locs hW => ?_)
  refine lv_if_eq (pc := 4) (tgt := 14) hx hb dX12_shift_4 (by decide) (fun c12 => ?_) (fun c12 => ?_)
  · have hf := zt c12 hf
    refine lv_iconst (pc := 14) (v := (-1)) hx hb dX12_shift_14 (by decide) ?_
    exact zend_i (w := wR cA h) fin hf hW dX12_shift_15
  · have hf := zf c12 hf
    refine lv_iload_n (pc := 7) hx hb dX12_shift_7 rfl (lv_at hl 3 rfl) ?_
    obtain ⟨r13, e15, hf⟩ := zU_e hf
    refine zcSi (As := [.int p3]) (pc := 8) C0 hW (kX12_isShelf l H.size p3 r13 e15) (va_cwS 1 hts (zgS gaR mR_290 mR_291 mR_46 mR_292) rfl rfl rfl (by decide +kernel) ⟨Nat.le_of_ble_eq_true rfl, Nat.le_of_ble_eq_true rfl⟩) rfl hl.1 rfl (Nat.le_of_ble_eq_true rfl) dX12_shift_8 (fun H locs hW => ?_)
    refine lv_if_ne (pc := 11) (tgt := 16) hx hb dX12_shift_11 (by decide) (fun c16 => ?_) (fun c16 => ?_)
    · have hf := zf c16 hf
      refine lv_aload_n (pc := 16) hx hb dX12_shift_16 rfl (lv_at hl 0 rfl) ?_
      refine rg_44 (pc := 17) C0 hu_12 hW mR_34 dX12_shift_17 ?_
      refine lv_iload_n (pc := 20) hx hb dX12_shift_20 rfl (lv_at hl 1 rfl) ?_
      obtain ⟨i17, hf⟩ := zn hf
      refine rl_44 (pc := 21) C0 hW i17 dX12_shift_21 ?_
      refine lv_iconst (pc := 22) (v := (-1)) hx hb dX12_shift_22 (by decide) ?_
      refine lv_icmp_eq (pc := 23) (tgt := 36) hx hb dX12_shift_23 (by decide) (fun c18 => ?_) (fun c18 => ?_)
      · have hf := zt c18 hf
        refine lv_bipush (pc := 36) (v := (-11)) hx hb dX12_shift_36 (by decide) ?_
        exact zend_i (w := wR cA h) fin hf hW dX12_shift_38
      · have hf := zf c18 hf
        refine lv_aload_n (pc := 26) hx hb dX12_shift_26 rfl (lv_at hl 0 rfl) ?_
        refine rg_44 (pc := 27) C0 hu_12 hW mR_34 dX12_shift_27 ?_
        refine lv_iload_n (pc := 30) hx hb dX12_shift_30 rfl (lv_at hl 3 rfl) ?_
        obtain ⟨i19, hf⟩ := zn hf
        refine rl_44 (pc := 31) C0 hW i19 dX12_shift_31 ?_
        refine lv_iconst (pc := 32) (v := (-1)) hx hb dX12_shift_32 (by decide) ?_
        refine lv_icmp_ne (pc := 33) (tgt := 39) hx hb dX12_shift_33 (by decide) (fun c20 => ?_) (fun c20 => ?_)
        · have hf := zf c20 hf
          refine lv_aload_n (pc := 39) hx hb dX12_shift_39 rfl (lv_at hl 0 rfl) ?_
          refine rg_44 (pc := 40) C0 hu_12 hW mR_34 dX12_shift_40 ?_
          refine lv_iload_n (pc := 43) hx hb dX12_shift_43 rfl (lv_at hl 1 rfl) ?_
          obtain ⟨i21, hf⟩ := zn hf
          refine rl_44 (pc := 44) C0 hW i21 dX12_shift_44 ?_
          refine lv_if_ge (pc := 45) (tgt := 63) hx hb dX12_shift_45 (by decide) (fun c22 => ?_) (fun c22 => ?_)
          · have hf := zt c22 hf
            refine lv_bipush (pc := 63) (v := (-12)) hx hb dX12_shift_63 (by decide) ?_
            exact zend_i (w := wR cA h) fin hf hW dX12_shift_65
          · have hf := zf c22 hf
            refine lv_aload_n (pc := 48) hx hb dX12_shift_48 rfl (lv_at hl 0 rfl) ?_
            refine rg_44 (pc := 49) C0 hu_12 hW mR_34 dX12_shift_49 ?_
            refine lv_iload_n (pc := 52) hx hb dX12_shift_52 rfl (lv_at hl 1 rfl) ?_
            obtain ⟨i23, hf⟩ := zn hf
            refine rl_44 (pc := 53) C0 hW i23 dX12_shift_53 ?_
            refine lv_aload_n (pc := 54) hx hb dX12_shift_54 rfl (lv_at hl 0 rfl) ?_
            refine rg_44 (pc := 55) C0 hu_12 hW mR_34 dX12_shift_55 ?_
            refine lv_iload_n (pc := 58) hx hb dX12_shift_58 rfl (lv_at hl 3 rfl) ?_
            obtain ⟨i24, hf⟩ := zn hf
            refine rl_44 (pc := 59) C0 hW i24 dX12_shift_59 ?_
            refine lv_icmp_eq (pc := 60) (tgt := 66) hx hb dX12_shift_60 (by decide) (fun c25 => ?_) (fun c25 => ?_)
            · have hf := zt c25 hf
              refine lv_iload (pc := 66) hx hb dX12_shift_66 (lv_at hl 5 rfl) ?_
              refine lv_if_lt (pc := 68) (tgt := 107) hx hb dX12_shift_68 (by decide) (fun c26 => ?_) (fun c26 => ?_)
              · have hf := zt c26 hf
                refine lv_bipush (pc := 107) (v := (-13)) hx hb dX12_shift_107 (by decide) ?_
                exact zend_i (w := wR cA h) fin hf hW dX12_shift_109
              · have hf := zf c26 hf
                refine lv_iload_n (pc := 71) hx hb dX12_shift_71 rfl (lv_at hl 2 rfl) ?_
                refine lv_if_lt (pc := 72) (tgt := 107) hx hb dX12_shift_72 (by decide) (fun c27 => ?_) (fun c27 => ?_)
                · have hf := zt c27 hf
                  refine lv_bipush (pc := 107) (v := (-13)) hx hb dX12_shift_107 (by decide) ?_
                  exact zend_i (w := wR cA h) fin hf hW dX12_shift_109
                · have hf := zf c27 hf
                  refine lv_iload (pc := 75) hx hb dX12_shift_75 (lv_at hl 4 rfl) ?_
                  refine lv_if_lt (pc := 77) (tgt := 107) hx hb dX12_shift_77 (by decide) (fun c28 => ?_) (fun c28 => ?_)
                  · have hf := zt c28 hf
                    refine lv_bipush (pc := 107) (v := (-13)) hx hb dX12_shift_107 (by decide) ?_
                    exact zend_i (w := wR cA h) fin hf hW dX12_shift_109
                  · have hf := zf c28 hf
                    refine lv_iload_n (pc := 80) hx hb dX12_shift_80 rfl (lv_at hl 2 rfl) ?_
                    refine lv_aload_n (pc := 81) hx hb dX12_shift_81 rfl (lv_at hl 0 rfl) ?_
                    refine rg_45 (pc := 82) C0 hu_12 hW mR_35 dX12_shift_82 ?_
                    refine lv_iload_n (pc := 85) hx hb dX12_shift_85 rfl (lv_at hl 1 rfl) ?_
                    obtain ⟨i29, hf⟩ := zn hf
                    refine rl_45 (pc := 86) C0 hW i29 dX12_shift_86 ?_
                    refine lv_iload (pc := 87) hx hb dX12_shift_87 (lv_at hl 5 rfl) ?_
                    refine lv_isub (pc := 89) hx hb dX12_shift_89 ?_
                    refine lv_icmp_gt (pc := 90) (tgt := 107) hx hb dX12_shift_90 (by decide) (fun c30 => ?_) (fun c30 => ?_)
                    · have hf := zt c30 hf
                      refine lv_bipush (pc := 107) (v := (-13)) hx hb dX12_shift_107 (by decide) ?_
                      exact zend_i (w := wR cA h) fin hf hW dX12_shift_109
                    · have hf := zf c30 hf
                      refine lv_iload (pc := 93) hx hb dX12_shift_93 (lv_at hl 4 rfl) ?_
                      refine lv_aload_n (pc := 95) hx hb dX12_shift_95 rfl (lv_at hl 0 rfl) ?_
                      refine rg_45 (pc := 96) C0 hu_12 hW mR_35 dX12_shift_96 ?_
                      refine lv_iload_n (pc := 99) hx hb dX12_shift_99 rfl (lv_at hl 3 rfl) ?_
                      obtain ⟨i31, hf⟩ := zn hf
                      refine rl_45 (pc := 100) C0 hW i31 dX12_shift_100 ?_
                      refine lv_iload (pc := 101) hx hb dX12_shift_101 (lv_at hl 5 rfl) ?_
                      refine lv_isub (pc := 103) hx hb dX12_shift_103 ?_
                      refine lv_icmp_le (pc := 104) (tgt := 110) hx hb dX12_shift_104 (by decide) (fun c32 => ?_) (fun c32 => ?_)
                      · have hf := zt c32 hf
                        refine lv_iconst (pc := 110) (v := 0) hx hb dX12_shift_110 (by decide) ?_
                        refine lv_istore (pc := 111) (lv' := [(6, .int 0), (0, .ref (h 0)), (1, .int p1), (2, .int p2), (3, .int p3), (4, .int p4), (5, .int p5)]) hx hb dX12_shift_111 hl (by decide) rfl (fun ls hl => ?_)
                        exact w113 N p1 p2 p3 p4 p5 0 S H locs hW ls (lv_sub hl [1, 2, 3, 4, 5, 6, 0] rfl) hf
                      · have hf := zf c32 hf
                        refine lv_bipush (pc := 107) (v := (-13)) hx hb dX12_shift_107 (by decide) ?_
                        exact zend_i (w := wR cA h) fin hf hW dX12_shift_109
            · have hf := zf c25 hf
              refine lv_bipush (pc := 63) (v := (-12)) hx hb dX12_shift_63 (by decide) ?_
              exact zend_i (w := wR cA h) fin hf hW dX12_shift_65
        · have hf := zt c20 hf
          refine lv_bipush (pc := 36) (v := (-11)) hx hb dX12_shift_36 (by decide) ?_
          exact zend_i (w := wR cA h) fin hf hW dX12_shift_38
    · have hf := zt c16 hf
      refine lv_iconst (pc := 14) (v := (-1)) hx hb dX12_shift_14 (by decide) ?_
      exact zend_i (w := wR cA h) fin hf hW dX12_shift_15

def fX12_taken (p1 : Int32) (p2 : Int32) (S : zSt) : Option (Int32 × zSt) :=
  zU (fX12_isShelf p1) fun r1 => if r1 = 0 then (some ((-1), S)) else (zU (fX12_in p2 0 7) fun r5 => if r5 = 0 then (some ((-1), S)) else (if zin p1 6 then if (S.2.1 44 (Int32.toNatClampNeg p1)) = (-1) then (some ((-11), S)) else (if zin p1 6 then if (S.2.1 44 (Int32.toNatClampNeg p1)) < 0 then (some ((-12), S)) else (if zin p1 6 then if zin (S.2.1 44 (Int32.toNatClampNeg p1)) 50 then zU (fX12_isUnder (S.2.1 41 (Int32.toNatClampNeg (S.2.1 44 (Int32.toNatClampNeg p1)))) p2) fun r15 => if r15 = 0 then (some ((-12), S)) else (if zin p1 6 then if zin (S.2.1 44 (Int32.toNatClampNeg p1)) 50 then some ((S.2.1 41 (Int32.toNatClampNeg (S.2.1 44 (Int32.toNatClampNeg p1)))), S) else none else none) else none else none) else none) else none))
abbrev wX12_taken : List Cond := Cond.code yX12_taken cX12_taken 3 (some .int) :: waR
abbrev rmX12_taken : Room := { frames := 2, cells := 0, slots := 0, locals := 42 }
set_option maxHeartbeats 4000000 in
set_option maxRecDepth 100000 in
theorem kX12_taken (l : Launch) (D : va_G) (cA : Nat → ClassId) (h : Nat → Nat) (sz : Nat)  (p1 : Int32) (p2 : Int32) (S : zSt) (r : Int32) (S1 : zSt) (hf : fX12_taken p1 p2 S = some (r, S1)) : zMi l yX12_taken wX12_taken rmX12_taken zTr D (tR cA) (hsR h) [.ref (h 0), .int p1, .int p2] (wR cA h S) (wR cA h S1) sz r := by
  refine zEn_i (cc := cX12_taken) (maxL := 3) (own := RX12) (by decide) rfl rfl (hmR cA h S) (Nat.le_of_ble_eq_true rfl) ?_
  intro p e s m args below meth c Q H locs C0 hW fin ls hl
  have hl : lv_has ls 3 [(0, .ref (h 0)), (1, .int p1), (2, .int p2)] := hl
  have hx := C0.1
  have hb := C0.2.1
  have hown := C0.2.2.2.1
  have hts := C0.2.2.2.2
  unfold fX12_taken at hf
  refine lv_iload_n (pc := 0) hx hb dX12_taken_0 rfl (lv_at hl 1 rfl) ?_
  obtain ⟨r1, e3, hf⟩ := zU_e hf
  refine zcSi (As := [.int p1]) (pc := 1) C0 hW (kX12_isShelf l H.size p1 r1 e3) (va_cwS 1 hts (zgS gaR mR_290 mR_291 mR_46 mR_292) rfl rfl rfl (by decide +kernel) ⟨Nat.le_of_ble_eq_true rfl, Nat.le_of_ble_eq_true rfl⟩) rfl hl.1 rfl (Nat.le_of_ble_eq_true rfl) dX12_taken_1 (fun H locs hW => ?_)
  refine lv_if_eq (pc := 4) (tgt := 17) hx hb dX12_taken_4 (by decide) (fun c4 => ?_) (fun c4 => ?_)
  · have hf := zt c4 hf
    refine lv_iconst (pc := 17) (v := (-1)) hx hb dX12_taken_17 (by decide) ?_
    exact zend_i (w := wR cA h) fin hf hW dX12_taken_18
  · have hf := zf c4 hf
    refine lv_iload_n (pc := 7) hx hb dX12_taken_7 rfl (lv_at hl 2 rfl) ?_
    refine lv_iconst (pc := 8) (v := 0) hx hb dX12_taken_8 (by decide) ?_
    refine lv_bipush (pc := 9) (v := 7) hx hb dX12_taken_9 (by decide) ?_
    obtain ⟨r5, e7, hf⟩ := zU_e hf
    refine zcSi (As := [.int p2, .int 0, .int 7]) (pc := 11) C0 hW (kX12_in l H.size p2 0 7 r5 e7) (va_cwS 3 hts (zgS gaR mR_44 mR_45 mR_46 mR_39) rfl rfl rfl (by decide +kernel) ⟨Nat.le_of_ble_eq_true rfl, Nat.le_of_ble_eq_true rfl⟩) rfl hl.1 rfl (Nat.le_of_ble_eq_true rfl) dX12_taken_11 (fun H locs hW => ?_)
    refine lv_if_ne (pc := 14) (tgt := 19) hx hb dX12_taken_14 (by decide) (fun c8 => ?_) (fun c8 => ?_)
    · have hf := zf c8 hf
      refine lv_aload_n (pc := 19) hx hb dX12_taken_19 rfl (lv_at hl 0 rfl) ?_
      refine rg_44 (pc := 20) C0 hu_12 hW mR_34 dX12_taken_20 ?_
      refine lv_iload_n (pc := 23) hx hb dX12_taken_23 rfl (lv_at hl 1 rfl) ?_
      obtain ⟨i9, hf⟩ := zn hf
      refine rl_44 (pc := 24) C0 hW i9 dX12_taken_24 ?_
      refine lv_iconst (pc := 25) (v := (-1)) hx hb dX12_taken_25 (by decide) ?_
      refine lv_icmp_ne (pc := 26) (tgt := 32) hx hb dX12_taken_26 (by decide) (fun c10 => ?_) (fun c10 => ?_)
      · have hf := zf c10 hf
        refine lv_aload_n (pc := 32) hx hb dX12_taken_32 rfl (lv_at hl 0 rfl) ?_
        refine rg_44 (pc := 33) C0 hu_12 hW mR_34 dX12_taken_33 ?_
        refine lv_iload_n (pc := 36) hx hb dX12_taken_36 rfl (lv_at hl 1 rfl) ?_
        obtain ⟨i11, hf⟩ := zn hf
        refine rl_44 (pc := 37) C0 hW i11 dX12_taken_37 ?_
        refine lv_if_lt (pc := 38) (tgt := 73) hx hb dX12_taken_38 (by decide) (fun c12 => ?_) (fun c12 => ?_)
        · have hf := zt c12 hf
          refine lv_bipush (pc := 73) (v := (-12)) hx hb dX12_taken_73 (by decide) ?_
          exact zend_i (w := wR cA h) fin hf hW dX12_taken_75
        · have hf := zf c12 hf
          refine lv_aload_n (pc := 41) hx hb dX12_taken_41 rfl (lv_at hl 0 rfl) ?_
          refine rg_41 (pc := 42) C0 hu_12 hW mR_32 dX12_taken_42 ?_
          refine lv_aload_n (pc := 45) hx hb dX12_taken_45 rfl (lv_at hl 0 rfl) ?_
          refine rg_44 (pc := 46) C0 hu_12 hW mR_34 dX12_taken_46 ?_
          refine lv_iload_n (pc := 49) hx hb dX12_taken_49 rfl (lv_at hl 1 rfl) ?_
          obtain ⟨i13, hf⟩ := zn hf
          refine rl_44 (pc := 50) C0 hW i13 dX12_taken_50 ?_
          obtain ⟨i14, hf⟩ := zn hf
          refine rl_41 (pc := 51) C0 hW i14 dX12_taken_51 ?_
          refine lv_iload_n (pc := 52) hx hb dX12_taken_52 rfl (lv_at hl 2 rfl) ?_
          obtain ⟨r15, e17, hf⟩ := zU_e hf
          refine zcSi (As := [.int (S.2.1 41 (Int32.toNatClampNeg (S.2.1 44 (Int32.toNatClampNeg p1)))), .int p2]) (pc := 53) C0 hW (kX12_isUnder l H.size (S.2.1 41 (Int32.toNatClampNeg (S.2.1 44 (Int32.toNatClampNeg p1)))) p2 r15 e17) (va_cwS 2 hts (zgS gaR mR_315 mR_316 mR_46 mR_305) rfl rfl rfl (by decide +kernel) ⟨Nat.le_of_ble_eq_true rfl, Nat.le_of_ble_eq_true rfl⟩) rfl hl.1 rfl (Nat.le_of_ble_eq_true rfl) dX12_taken_53 (fun H locs hW => ?_)
          refine lv_if_eq (pc := 56) (tgt := 73) hx hb dX12_taken_56 (by decide) (fun c18 => ?_) (fun c18 => ?_)
          · have hf := zt c18 hf
            refine lv_bipush (pc := 73) (v := (-12)) hx hb dX12_taken_73 (by decide) ?_
            exact zend_i (w := wR cA h) fin hf hW dX12_taken_75
          · have hf := zf c18 hf
            refine lv_aload_n (pc := 59) hx hb dX12_taken_59 rfl (lv_at hl 0 rfl) ?_
            refine rg_41 (pc := 60) C0 hu_12 hW mR_32 dX12_taken_60 ?_
            refine lv_aload_n (pc := 63) hx hb dX12_taken_63 rfl (lv_at hl 0 rfl) ?_
            refine rg_44 (pc := 64) C0 hu_12 hW mR_34 dX12_taken_64 ?_
            refine lv_iload_n (pc := 67) hx hb dX12_taken_67 rfl (lv_at hl 1 rfl) ?_
            obtain ⟨i19, hf⟩ := zn hf
            refine rl_44 (pc := 68) C0 hW i19 dX12_taken_68 ?_
            obtain ⟨i20, hf⟩ := zn hf
            refine rl_41 (pc := 69) C0 hW i20 dX12_taken_69 ?_
            refine lv_goto (pc := 70) (tgt := 75) hx hb dX12_taken_70 (by decide) ?_
            exact zend_i (w := wR cA h) fin hf hW dX12_taken_75
      · have hf := zt c10 hf
        refine lv_bipush (pc := 29) (v := (-11)) hx hb dX12_taken_29 (by decide) ?_
        exact zend_i (w := wR cA h) fin hf hW dX12_taken_31
    · have hf := zt c8 hf
      refine lv_iconst (pc := 17) (v := (-1)) hx hb dX12_taken_17 (by decide) ?_
      exact zend_i (w := wR cA h) fin hf hW dX12_taken_18

