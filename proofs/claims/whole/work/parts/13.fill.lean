/-! Arrays.fill on a row of six -/
def wF (cA : Nat → ClassId) (h : Nat → Nat) (S : zSt) : va_W := [(h 0, .inl (cA 0, 6, .inl (S.2.1 0)))]
def tF (cA : Nat → ClassId) : List (ClassId × FieldType) := [(cA 0, .int)]
def hsF (h : Nat → Nat) : List Nat := [h 0]
theorem hmF (cA : Nat → ClassId) (h : Nat → Nat) (S : zSt) : ∀ q ∈ wF cA h S, q.1 ∈ hsF h := fun q hq => by
  rw [List.mem_singleton.mp hq]
  exact List.mem_singleton.mpr rfl
section ZWF
variable {p : Program} {l : Launch} {e : Env} {R : Room} {s : State} {m : MethodId} {args : Array Value} {below : List Frame} {meth : Method} {c : Code} {H : Heap} {locs : List Loc} {cells slots : Nat} {Q : State → Prop}
variable {E : (Nat → Prop) → State → Heap → Prop} {cc : ByteArray} {pc nL index : Nat} {ls : Array Slot} {rest : List Value} {D : va_G} {A : Nat → Prop} {own : String} {Ts : List Cond} {cA : Nat → ClassId} {h : Nat → Nat} {S S2 : zSt}
theorem zfs (C0 : CallFix p m c cc nL s args Ts own) (hW : zW E D (tF cA) (wF cA h S) A s H locs) {i x : Int32} (hi : zin i 6) (e2 : S2 = zA S 0 i.toNatClampNeg x) (hdg : decode cc pc = .ok (.iastore, 1)) (kk : ∀ (H1 : Heap) (locs1 : List Loc), zW E D (tF cA) (wF cA h S2) A s H1 locs1 → W p l e R s m args below meth c H1 locs1 cells slots Q (F0 m (pc + 1) ls rest)) : W p l e R s m args below meth c H locs cells slots Q (F0 m pc ls (.int x :: .int i :: .ref (h 0) :: rest)) := by
  subst e2
  exact ziast C0 hW 0 0 rfl rfl hi hdg kk
theorem zfn (C0 : CallFix p m c cc nL s args Ts own) (hW : zW E D (tF cA) (wF cA h S) A s H locs) (hdg : decode cc pc = .ok (.arraylength, 1)) (kk : W p l e R s m args below meth c H locs cells slots Q (F0 m (pc + 1) ls (.int 6 :: rest))) : W p l e R s m args below meth c H locs cells slots Q (F0 m pc ls (.ref (h 0) :: rest)) :=
  va_alen C0.1 C0.2.1 hW.1 hW.2.1 0 0 rfl rfl rfl hdg kk
end ZWF
def fJ7_fill_53178_b5 (N : Nat) : Nat → Int32 → Int32 → Int32 → zSt → Option zSt
  | 0, _, _, _, _ => none
  | n + 1, v1, v2, v3, S =>
    if v3 ≤ v2 then (some S) else (if zin v2 6 then zL (zA S 0 (Int32.toNatClampNeg v2) v1) fun S3 => fJ7_fill_53178_b5 N n v1 (v2 + 1) v3 S3 else none)
def fJ7_fill_53178 (N : Nat) (p2 : Int32) (S : zSt) : Option zSt :=
  fJ7_fill_53178_b5 N N p2 0 6 S
abbrev wJ7_fill_53178 : List Cond := Cond.code yJ7_fill_53178 cJ7_fill_53178 4 none :: waX
abbrev rmJ7_fill_53178 : Room := { frames := 0, cells := 0, slots := 0, locals := 0 }
set_option maxHeartbeats 4000000 in
set_option maxRecDepth 100000 in
theorem kJ7_fill_53178 (l : Launch) (D : va_G) (tt : Nat → Nat) (cA : Nat → ClassId) (h : Nat → Nat) (sz : Nat) (N : Nat)  (p2 : Int32) (S : zSt) (S1 : zSt) (hf : fJ7_fill_53178 N p2 S = some S1) : zMv l yJ7_fill_53178 wJ7_fill_53178 rmJ7_fill_53178 (zEX tt) D (tF cA) (hsF h) [.ref (h 0), .int p2] (wF cA h S) (wF cA h S1) sz := by
  refine zEn_v (cc := cJ7_fill_53178) (maxL := 4) (own := RJ7) (by decide) rfl rfl (hmF cA h S) (Nat.le_of_ble_eq_true rfl) ?_
  intro p e s m args below meth c Q H locs C0 hW fin ls hl
  have hl : lv_has ls 4 [(0, .ref (h 0)), (1, .int p2)] := hl
  have hx := C0.1
  have hb := C0.2.1
  have hown := C0.2.2.2.1
  have hts := C0.2.2.2.2
  have w5 : ∀ (n : Nat), ∀ (v1 : Int32) (v2 : Int32) (v3 : Int32) (S : zSt) (H : Heap) (locs : List Loc), zW (zEX tt) D (tF cA) (wF cA h S) (aW (hsF h) s.heap.size) s H locs → ∀ ls : Array Slot, lv_has ls 4 [(0, .ref (h 0)), (1, .int v1), (2, .int v2), (3, .int v3)] → fJ7_fill_53178_b5 N n v1 v2 v3 S = some S1 → W p l e rmJ7_fill_53178 s m args below meth c H locs 0 0 Q (F0 m 5 ls []) := by
    intro n
    induction n with
    | zero =>
      intro v1 v2 v3 S H locs hW ls hl hf
      exact absurd hf (by intro h; cases h)
    | succ n ih =>
      intro v1 v2 v3 S H locs hW ls hl hf
      rw [fJ7_fill_53178_b5] at hf
      refine lv_iload_n (pc := 5) hx hb dJ7_fill_53178_5 rfl (lv_at hl 2 rfl) ?_
      refine lv_iload_n (pc := 6) hx hb dJ7_fill_53178_6 rfl (lv_at hl 3 rfl) ?_
      refine lv_icmp_ge (pc := 7) (tgt := 20) hx hb dJ7_fill_53178_7 (by decide) (fun c1 => ?_) (fun c1 => ?_)
      · have hf := zt c1 hf
        exact zend_v (w := wF cA h) fin hf hW dJ7_fill_53178_20
      · have hf := zf c1 hf
        refine lv_aload_n (pc := 10) hx hb dJ7_fill_53178_10 rfl (lv_at hl 0 rfl) ?_
        refine lv_iload_n (pc := 11) hx hb dJ7_fill_53178_11 rfl (lv_at hl 2 rfl) ?_
        refine lv_iload_n (pc := 12) hx hb dJ7_fill_53178_12 rfl (lv_at hl 1 rfl) ?_
        obtain ⟨i2, hf⟩ := zn hf
        obtain ⟨S3, e_S3, hf⟩ := zL_e hf
        refine zfs (pc := 13) C0 hW i2 e_S3 dJ7_fill_53178_13 (fun H locs hW => ?_)
        refine lv_iinc (pc := 14) (v := (v2 + 1)) (lv' := [(2, .int (v2 + 1)), (0, .ref (h 0)), (1, .int v1), (3, .int v3)]) hx hb dJ7_fill_53178_14 hl (k := 2) rfl (by rfl) (by decide) rfl (fun ls hl => ?_)
        refine lv_goto (pc := 17) (tgt := 5) hx hb dJ7_fill_53178_17 (by decide) ?_
        exact ih v1 (v2 + 1) v3 S3 H locs hW ls (lv_sub hl [1, 2, 0, 3] rfl) hf
  unfold fJ7_fill_53178 at hf
  refine lv_iconst (pc := 0) (v := 0) hx hb dJ7_fill_53178_0 (by decide) ?_
  refine lv_istore_n (pc := 1) (lv' := [(2, .int 0), (0, .ref (h 0)), (1, .int p2)]) hx hb dJ7_fill_53178_1 rfl hl (by decide) rfl (fun ls hl => ?_)
  refine lv_aload_n (pc := 2) hx hb dJ7_fill_53178_2 rfl (lv_at hl 1 rfl) ?_
  refine zfn (pc := 3) C0 hW dJ7_fill_53178_3 ?_
  refine lv_istore_n (pc := 4) (lv' := [(3, .int 6), (2, .int 0), (0, .ref (h 0)), (1, .int p2)]) hx hb dJ7_fill_53178_4 rfl hl (by decide) rfl (fun ls hl => ?_)
  exact w5 N p2 0 6 S H locs hW ls (lv_sub hl [2, 3, 1, 0] rfl) hf

def zfill0 : zSt := (fun _ => 0, fun _ _ => 0, fun _ _ => 0)
theorem zfill_some : (fJ7_fill_53178 10 (-2) zfill0).isSome = true := by decide +kernel
def zfillS : zSt := (fJ7_fill_53178 10 (-2) zfill0).get zfill_some
theorem zfill_eq : fJ7_fill_53178 10 (-2) zfill0 = some zfillS := (Option.some_get zfill_some).symm
