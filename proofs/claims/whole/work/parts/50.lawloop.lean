def z1C : List Nat := [0, 1, 2, 3, 4, 5, 6, 7, 8, 9, 10, 11, 12, 13, 14, 15, 16, 17, 18, 19, 20, 21, 22, 23, 24, 25, 26, 27, 28, 29, 30, 31, 32, 33, 34, 35, 36, 37, 38, 39, 40, 41, 42, 43, 44, 45]
def z1R : List Nat := [46, 47, 48, 49, 50, 51, 52, 53, 54, 55, 56, 57, 58, 59, 60, 61, 62, 63, 64, 65, 66, 67, 68, 69, 70, 71, 72, 73, 74, 75, 76]
def z1T : List Nat := [0, 1, 2, 3, 4, 5, 6, 7, 8, 9, 10, 11, 12, 13, 14, 15, 16, 17, 18, 19, 20, 21, 22, 23, 24, 25, 26, 27, 28, 29, 30, 31, 32, 33]
def z2C : List Nat := [0, 1, 2, 3, 4, 5, 6, 7, 8, 9, 10, 11, 12, 13, 14, 15, 16, 17, 18, 19, 20, 21, 22, 23, 24, 25, 26, 27, 28, 29, 30]
def z2R : List Nat := [31, 32, 33, 34, 35, 36, 37, 38, 39, 40, 41, 42, 43, 44, 45, 46, 47, 48, 49, 50, 51, 52, 53, 54, 55, 56, 57, 58, 59, 60, 61, 62, 63, 64, 65, 66, 67, 68, 69, 70, 71, 72, 73, 74, 75, 76]
def z2T : List Nat := [34, 35, 36, 37, 38, 39, 40, 41, 42, 43, 44, 45, 46, 47, 48, 49, 50, 51, 52, 53, 54, 55, 56, 57, 58, 59, 60, 61, 62, 63]
set_option maxHeartbeats 40000000 in
set_option maxRecDepth 100000 in
theorem zlaw_loop {p : Program} {l : Launch} {e : Env} {s : State} {m : MethodId} {below : List Frame} {meth : Method} {c : Code} {D : va_G} {cA cA2 : Nat → ClassId} {h h2 tt : Nat → Nat} {b L cells slots : Nat} {xs : Nat → Int32} (hL : L ≤ 3072) (C1 : lw_At p s m meth c b L xs) (hEs : zEX tt (fun q : Nat => s.heap.size ≤ q) s s.heap) (hc0 : cells ≤ 600000) (hs0 : slots ≤ 7302250) (hKX : va_K D vwCl (tX cA) s) (hKR : va_K D vwCl (tR cA2) s) :
    ∀ (n i : Nat) (x3 : Int32), i ≤ L + 6 → L + 6 < i + 6 * n → x3 = nI i → ∀ (SX SR : zSt), zRel SX SR → ∀ (H : Heap) (locs : List Loc), zW zTr D (tX cA ++ tR cA2) (wX cA h SX ++ wR cA2 h2 SR) (fun q : Nat => s.heap.size ≤ q) s H locs → ∀ ls : Array Slot, lv_has ls 4 [(0, .ref b), (1, .ref (h 11)), (2, .ref (h2 0)), (3, .int x3)] → W p l e room_1 s m #[Value.ref b] below meth c H locs cells slots (lw_Z below #[Value.ref b] s) (F0 m 18 ls []) := by
  obtain ⟨hx, hb, hr, hml, hown, hts, hX, hbl, hlocks, hgv⟩ := C1
  have C0 : CallFix p m c code 4 s #[Value.ref b] lw_tbl R_law := ⟨hx, hb, hml, hown, hts⟩
  have hA : ∀ q : Nat, s.heap.size ≤ q → (fun q : Nat => s.heap.size ≤ q) q := fun _ z => z
  have hbA : ¬ (fun q : Nat => s.heap.size ≤ q) b := Nat.not_le.mpr hbl
  have hmapX : ∀ {S : zSt}, (wX cA h S).map Prod.fst = hsX h := fun {S} => rfl
  have hmapR : ∀ {S : zSt}, (wR cA2 h2 S).map Prod.fst = hsR h2 := fun {S} => rfl
  have hrX : ∀ {SX SR : zSt} {H : Heap} {locs : List Loc}, zW zTr D (tX cA ++ tR cA2) (wX cA h SX ++ wR cA2 h2 SR) (fun q : Nat => s.heap.size ≤ q) s H locs → ∃ cell : Cell, H[h 11]? = some cell ∧ cell.vm.isStatics = false ∧ s.vm.findClass RX11 = some cell.cls := fun {SX SR H locs} hW => va_recv hW.1 hW.2.1 (ci := 11) (q0 := 11) rfl rfl
  have hrR : ∀ {SX SR : zSt} {H : Heap} {locs : List Loc}, zW zTr D (tX cA ++ tR cA2) (wR cA2 h2 SR ++ wX cA h SX) (fun q : Nat => s.heap.size ≤ q) s H locs → ∃ cell : Cell, H[h2 0]? = some cell ∧ cell.vm.isStatics = false ∧ s.vm.findClass RX12 = some cell.cls := fun {SX SR H locs} hW => va_recv hW.1 hW.2.1 (ci := 12) (q0 := 0) rfl rfl
  intro n
  induction n with
  | zero =>
    intro i x3 h1 h2
    exact absurd h2 (by omega)
  | succ n ih =>
    intro i x3 hi hin ex3 SX SR hRel H locs hW ls hl
    refine lv_iload_n (pc := 18) hx hb dL_law_18 rfl (lv_at hl 3 rfl) ?_
    refine lv_aload_n (pc := 19) hx hb dL_law_19 rfl (lv_at hl 0 rfl) ?_
    refine va_slen (pc := 20) hx hb hX hbl hbA hW.2.2.2.1 dL_law_20 ?_
    refine lv_bipush (pc := 21) (v := 6) hx hb dL_law_21 (by decide) ?_
    refine lv_isub (pc := 23) hx hb dL_law_23 ?_
    refine lv_icmp_gt (pc := 24) (tgt := 1598) hx hb dL_law_24 (by decide) (fun c1 => ?_) (fun c1 => ?_)
    · refine lv_iconst (pc := 1598) (v := 1) hx hb dL_law_1598 (by decide) ?_
      refine va_forget (fun q hq => hW.2.2.2.1.2.2 q hq) ?_
      refine W.widen (k := 600000) (n := 7302250) hc0 hs0 ?_
      exact lw_ret (pc := 1599) hx hb hr hlocks dL_law_1599
    have hle : i + 6 ≤ L := zlaw_in hL hi (by rw [ex3] at c1; exact c1)
    have hk0 : vp_in (x3) L := by rw [ex3]; exact zlaw_at0 hle hL
    have hk1 : vp_in (x3 + 1) L := by rw [ex3]; exact zlaw_at 1 hle hL (by decide)
    have hk2 : vp_in (x3 + 2) L := by rw [ex3]; exact zlaw_at 2 hle hL (by decide)
    have hk3 : vp_in (x3 + 3) L := by rw [ex3]; exact zlaw_at 3 hle hL (by decide)
    have hk4 : vp_in (x3 + 4) L := by rw [ex3]; exact zlaw_at 4 hle hL (by decide)
    have hk5 : vp_in (x3 + 5) L := by rw [ex3]; exact zlaw_at 5 hle hL (by decide)
    refine lv_aload_n (pc := 27) hx hb dL_law_27 rfl (lv_at hl 0 rfl) ?_
    refine lv_iload_n (pc := 28) hx hb dL_law_28 rfl (lv_at hl 3 rfl) ?_
    refine va_sld (pc := 29) hx hb hX hbl hbA hW.2.2.2.1 hk0 dL_law_29 ?_
    refine lv_bipush (pc := 30) (v := 63) hx hb dL_law_30 (by decide) ?_
    refine lv_iand (pc := 32) hx hb dL_law_32 ?_
    obtain ⟨v, hv⟩ : ∃ z : Int32, z = xs (Int32.toNatClampNeg x3) &&& 63 := ⟨_, rfl⟩
    refine ztopi hv ?_
    by_cases c_0 : v = 0
    · refine lv_tableIn (pc := 33) (tgt := 204) (off := 171) hx hb dL_law_33 (by rw [c_0]; decide) (by rw [c_0]; decide) (by rw [c_0]; decide) (by decide) ?_
      refine lv_aload_n (pc := 204) hx hb dL_law_204 rfl (lv_at hl 1 rfl) ?_
      refine lv_aload_n (pc := 205) hx hb dL_law_205 rfl (lv_at hl 0 rfl) ?_
      refine lv_iload_n (pc := 206) hx hb dL_law_206 rfl (lv_at hl 3 rfl) ?_
      refine lv_iconst (pc := 207) (v := 1) hx hb dL_law_207 (by decide) ?_
      refine lv_iadd (pc := 208) hx hb dL_law_208 ?_
      refine va_sld (pc := 209) hx hb hX hbl hbA hW.2.2.2.1 hk1 dL_law_209 ?_
      refine lv_aload_n (pc := 210) hx hb dL_law_210 rfl (lv_at hl 0 rfl) ?_
      refine lv_iload_n (pc := 211) hx hb dL_law_211 rfl (lv_at hl 3 rfl) ?_
      refine lv_iconst (pc := 212) (v := 2) hx hb dL_law_212 (by decide) ?_
      refine lv_iadd (pc := 213) hx hb dL_law_213 ?_
      refine va_sld (pc := 214) hx hb hX hbl hbA hW.2.2.2.1 hk2 dL_law_214 ?_
      obtain ⟨r, SX1, SR1, f1, f2, hRel⟩ := p_feed hRel (xs (Int32.toNatClampNeg (x3 + 1))) (xs (Int32.toNatClampNeg (x3 + 2)))
      refine zcMi (As := [.int (xs (Int32.toNatClampNeg (x3 + 1))), .int (xs (Int32.toNatClampNeg (x3 + 2)))]) (pc := 215) (zEX_ok tt) hEs C0 hA hKX hW hmapX (kX11_feed l D cA h tt H.size zN (xs (Int32.toNatClampNeg (x3 + 1))) (xs (Int32.toNatClampNeg (x3 + 2))) SX r SX1 f1) (cwV 2 hts (zgL inX gaX rfl rfl (List.mem_of_getElem? (i := 415) (by decide +kernel)) (List.mem_of_getElem? (i := 416) (by decide +kernel)) (List.mem_of_getElem? (i := 417) (by decide +kernel)) (List.mem_of_getElem? (i := 95) (by decide +kernel)) mX_580 rfl rfl) rfl rfl rfl (by decide +kernel) ⟨(Nat.le_of_ble_eq_true rfl), (Nat.le_of_ble_eq_true rfl)⟩) (hrX hW) rfl hl.1 rfl (Nat.le_of_ble_eq_true rfl) dL_law_215 hc0 hs0 (fun H locs hW => ?_)
      refine lv_aload_n (pc := 218) hx hb dL_law_218 rfl (lv_at hl 2 rfl) ?_
      refine lv_aload_n (pc := 219) hx hb dL_law_219 rfl (lv_at hl 0 rfl) ?_
      refine lv_iload_n (pc := 220) hx hb dL_law_220 rfl (lv_at hl 3 rfl) ?_
      refine lv_iconst (pc := 221) (v := 1) hx hb dL_law_221 (by decide) ?_
      refine lv_iadd (pc := 222) hx hb dL_law_222 ?_
      refine va_sld (pc := 223) hx hb hX hbl hbA hW.2.2.2.1 hk1 dL_law_223 ?_
      refine lv_aload_n (pc := 224) hx hb dL_law_224 rfl (lv_at hl 0 rfl) ?_
      refine lv_iload_n (pc := 225) hx hb dL_law_225 rfl (lv_at hl 3 rfl) ?_
      refine lv_iconst (pc := 226) (v := 2) hx hb dL_law_226 (by decide) ?_
      refine lv_iadd (pc := 227) hx hb dL_law_227 ?_
      refine va_sld (pc := 228) hx hb hX hbl hbA hW.2.2.2.1 hk2 dL_law_228 ?_
      refine zcMi (As := [.int (xs (Int32.toNatClampNeg (x3 + 1))), .int (xs (Int32.toNatClampNeg (x3 + 2)))]) (pc := 229) zTr_ok trivial C0 hA hKR hW hmapR (kX12_feed l D cA2 h2 H.size zN (xs (Int32.toNatClampNeg (x3 + 1))) (xs (Int32.toNatClampNeg (x3 + 2))) SR r SR1 f2) (cwV 2 hts (zgL inR gaR rfl rfl (List.mem_of_getElem? (i := 1336) (by decide +kernel)) (List.mem_of_getElem? (i := 1337) (by decide +kernel)) (List.mem_of_getElem? (i := 1338) (by decide +kernel)) (List.mem_of_getElem? (i := 108) (by decide +kernel)) mR_42 rfl rfl) rfl rfl rfl (by decide +kernel) ⟨(Nat.le_of_ble_eq_true rfl), (Nat.le_of_ble_eq_true rfl)⟩) (hrR hW) rfl hl.1 rfl (Nat.le_of_ble_eq_true rfl) dL_law_229 hc0 hs0 (fun H locs hW => ?_)
      refine lv_icmp_eq (pc := 232) (tgt := 1592) hx hb dL_law_232 (by decide) (fun c1 => ?_) (fun c1 => absurd rfl c1)
      refine lv_iinc (pc := 1592) (v := (x3 + 6)) (lv' := [(3, .int (x3 + 6)), (0, .ref b), (1, .ref (h 11)), (2, .ref (h2 0))]) hx hb dL_law_1592 hl (k := 3) rfl rfl (by decide) rfl (fun ls hl => ?_)
      refine lv_goto (pc := 1595) (tgt := 18) hx hb dL_law_1595 (by decide) ?_
      exact ih (i + 6) (x3 + 6) (by omega) (by omega) (by rw [ex3]; exact nI_add i 6) SX1 SR1 hRel H locs hW ls (lv_sub hl [1, 2, 3, 0] rfl)
    by_cases c_1 : v = 1
    · refine lv_tableIn (pc := 33) (tgt := 237) (off := 204) hx hb dL_law_33 (by rw [c_1]; decide) (by rw [c_1]; decide) (by rw [c_1]; decide) (by decide) ?_
      refine lv_aload_n (pc := 237) hx hb dL_law_237 rfl (lv_at hl 1 rfl) ?_
      obtain ⟨r, SX1, SR1, f1, f2, hRel⟩ := p_place hRel
      refine zcMi (As := []) (pc := 238) (zEX_ok tt) hEs C0 hA hKX hW hmapX (kX11_place l D cA h tt H.size zN SX r SX1 f1) (cwV 0 hts (zgL inX gaX rfl rfl (List.mem_of_getElem? (i := 426) (by decide +kernel)) (List.mem_of_getElem? (i := 427) (by decide +kernel)) (List.mem_of_getElem? (i := 428) (by decide +kernel)) (List.mem_of_getElem? (i := 95) (by decide +kernel)) mX_585 rfl rfl) rfl rfl rfl (by decide +kernel) ⟨(Nat.le_of_ble_eq_true rfl), (Nat.le_of_ble_eq_true rfl)⟩) (hrX hW) rfl hl.1 rfl (Nat.le_of_ble_eq_true rfl) dL_law_238 hc0 hs0 (fun H locs hW => ?_)
      refine lv_aload_n (pc := 241) hx hb dL_law_241 rfl (lv_at hl 2 rfl) ?_
      refine zcMi (As := []) (pc := 242) zTr_ok trivial C0 hA hKR hW hmapR (kX12_place l D cA2 h2 H.size zN SR r SR1 f2) (cwV 0 hts (zgL inR gaR rfl rfl (List.mem_of_getElem? (i := 1343) (by decide +kernel)) (List.mem_of_getElem? (i := 1344) (by decide +kernel)) (List.mem_of_getElem? (i := 1345) (by decide +kernel)) (List.mem_of_getElem? (i := 108) (by decide +kernel)) mR_72 rfl rfl) rfl rfl rfl (by decide +kernel) ⟨(Nat.le_of_ble_eq_true rfl), (Nat.le_of_ble_eq_true rfl)⟩) (hrR hW) rfl hl.1 rfl (Nat.le_of_ble_eq_true rfl) dL_law_242 hc0 hs0 (fun H locs hW => ?_)
      refine lv_icmp_eq (pc := 245) (tgt := 1592) hx hb dL_law_245 (by decide) (fun c1 => ?_) (fun c1 => absurd rfl c1)
      refine lv_iinc (pc := 1592) (v := (x3 + 6)) (lv' := [(3, .int (x3 + 6)), (0, .ref b), (1, .ref (h 11)), (2, .ref (h2 0))]) hx hb dL_law_1592 hl (k := 3) rfl rfl (by decide) rfl (fun ls hl => ?_)
      refine lv_goto (pc := 1595) (tgt := 18) hx hb dL_law_1595 (by decide) ?_
      exact ih (i + 6) (x3 + 6) (by omega) (by omega) (by rw [ex3]; exact nI_add i 6) SX1 SR1 hRel H locs hW ls (lv_sub hl [1, 2, 3, 0] rfl)
    by_cases c_2 : v = 2
    · refine lv_tableIn (pc := 33) (tgt := 250) (off := 217) hx hb dL_law_33 (by rw [c_2]; decide) (by rw [c_2]; decide) (by rw [c_2]; decide) (by decide) ?_
      refine lv_aload_n (pc := 250) hx hb dL_law_250 rfl (lv_at hl 1 rfl) ?_
      refine lv_aload_n (pc := 251) hx hb dL_law_251 rfl (lv_at hl 0 rfl) ?_
      refine lv_iload_n (pc := 252) hx hb dL_law_252 rfl (lv_at hl 3 rfl) ?_
      refine lv_iconst (pc := 253) (v := 1) hx hb dL_law_253 (by decide) ?_
      refine lv_iadd (pc := 254) hx hb dL_law_254 ?_
      refine va_sld (pc := 255) hx hb hX hbl hbA hW.2.2.2.1 hk1 dL_law_255 ?_
      refine lv_aload_n (pc := 256) hx hb dL_law_256 rfl (lv_at hl 0 rfl) ?_
      refine lv_iload_n (pc := 257) hx hb dL_law_257 rfl (lv_at hl 3 rfl) ?_
      refine lv_iconst (pc := 258) (v := 2) hx hb dL_law_258 (by decide) ?_
      refine lv_iadd (pc := 259) hx hb dL_law_259 ?_
      refine va_sld (pc := 260) hx hb hX hbl hbA hW.2.2.2.1 hk2 dL_law_260 ?_
      refine lv_aload_n (pc := 261) hx hb dL_law_261 rfl (lv_at hl 0 rfl) ?_
      refine lv_iload_n (pc := 262) hx hb dL_law_262 rfl (lv_at hl 3 rfl) ?_
      refine lv_iconst (pc := 263) (v := 3) hx hb dL_law_263 (by decide) ?_
      refine lv_iadd (pc := 264) hx hb dL_law_264 ?_
      refine va_sld (pc := 265) hx hb hX hbl hbA hW.2.2.2.1 hk3 dL_law_265 ?_
      refine lv_aload_n (pc := 266) hx hb dL_law_266 rfl (lv_at hl 0 rfl) ?_
      refine lv_iload_n (pc := 267) hx hb dL_law_267 rfl (lv_at hl 3 rfl) ?_
      refine lv_iconst (pc := 268) (v := 4) hx hb dL_law_268 (by decide) ?_
      refine lv_iadd (pc := 269) hx hb dL_law_269 ?_
      refine va_sld (pc := 270) hx hb hX hbl hbA hW.2.2.2.1 hk4 dL_law_270 ?_
      obtain ⟨r, SX1, SR1, f1, f2, hRel⟩ := p_cell hRel (xs (Int32.toNatClampNeg (x3 + 1))) (xs (Int32.toNatClampNeg (x3 + 2))) (xs (Int32.toNatClampNeg (x3 + 3))) (xs (Int32.toNatClampNeg (x3 + 4)))
      refine zcMi (As := [.int (xs (Int32.toNatClampNeg (x3 + 1))), .int (xs (Int32.toNatClampNeg (x3 + 2))), .int (xs (Int32.toNatClampNeg (x3 + 3))), .int (xs (Int32.toNatClampNeg (x3 + 4)))]) (pc := 271) (zEX_ok tt) hEs C0 hA hKX hW hmapX (kX11_cell l D cA h tt H.size zN (xs (Int32.toNatClampNeg (x3 + 1))) (xs (Int32.toNatClampNeg (x3 + 2))) (xs (Int32.toNatClampNeg (x3 + 3))) (xs (Int32.toNatClampNeg (x3 + 4))) SX r SX1 f1) (cwV 4 hts (zgL inX gaX rfl rfl (List.mem_of_getElem? (i := 486) (by decide +kernel)) (List.mem_of_getElem? (i := 487) (by decide +kernel)) (List.mem_of_getElem? (i := 488) (by decide +kernel)) (List.mem_of_getElem? (i := 95) (by decide +kernel)) mX_595 rfl rfl) rfl rfl rfl (by decide +kernel) ⟨(Nat.le_of_ble_eq_true rfl), (Nat.le_of_ble_eq_true rfl)⟩) (hrX hW) rfl hl.1 rfl (Nat.le_of_ble_eq_true rfl) dL_law_271 hc0 hs0 (fun H locs hW => ?_)
      refine lv_aload_n (pc := 274) hx hb dL_law_274 rfl (lv_at hl 2 rfl) ?_
      refine lv_aload_n (pc := 275) hx hb dL_law_275 rfl (lv_at hl 0 rfl) ?_
      refine lv_iload_n (pc := 276) hx hb dL_law_276 rfl (lv_at hl 3 rfl) ?_
      refine lv_iconst (pc := 277) (v := 1) hx hb dL_law_277 (by decide) ?_
      refine lv_iadd (pc := 278) hx hb dL_law_278 ?_
      refine va_sld (pc := 279) hx hb hX hbl hbA hW.2.2.2.1 hk1 dL_law_279 ?_
      refine lv_aload_n (pc := 280) hx hb dL_law_280 rfl (lv_at hl 0 rfl) ?_
      refine lv_iload_n (pc := 281) hx hb dL_law_281 rfl (lv_at hl 3 rfl) ?_
      refine lv_iconst (pc := 282) (v := 2) hx hb dL_law_282 (by decide) ?_
      refine lv_iadd (pc := 283) hx hb dL_law_283 ?_
      refine va_sld (pc := 284) hx hb hX hbl hbA hW.2.2.2.1 hk2 dL_law_284 ?_
      refine lv_aload_n (pc := 285) hx hb dL_law_285 rfl (lv_at hl 0 rfl) ?_
      refine lv_iload_n (pc := 286) hx hb dL_law_286 rfl (lv_at hl 3 rfl) ?_
      refine lv_iconst (pc := 287) (v := 3) hx hb dL_law_287 (by decide) ?_
      refine lv_iadd (pc := 288) hx hb dL_law_288 ?_
      refine va_sld (pc := 289) hx hb hX hbl hbA hW.2.2.2.1 hk3 dL_law_289 ?_
      refine lv_aload_n (pc := 290) hx hb dL_law_290 rfl (lv_at hl 0 rfl) ?_
      refine lv_iload_n (pc := 291) hx hb dL_law_291 rfl (lv_at hl 3 rfl) ?_
      refine lv_iconst (pc := 292) (v := 4) hx hb dL_law_292 (by decide) ?_
      refine lv_iadd (pc := 293) hx hb dL_law_293 ?_
      refine va_sld (pc := 294) hx hb hX hbl hbA hW.2.2.2.1 hk4 dL_law_294 ?_
      refine zcMi (As := [.int (xs (Int32.toNatClampNeg (x3 + 1))), .int (xs (Int32.toNatClampNeg (x3 + 2))), .int (xs (Int32.toNatClampNeg (x3 + 3))), .int (xs (Int32.toNatClampNeg (x3 + 4)))]) (pc := 295) zTr_ok trivial C0 hA hKR hW hmapR (kX12_cell l D cA2 h2 H.size zN (xs (Int32.toNatClampNeg (x3 + 1))) (xs (Int32.toNatClampNeg (x3 + 2))) (xs (Int32.toNatClampNeg (x3 + 3))) (xs (Int32.toNatClampNeg (x3 + 4))) SR r SR1 f2) (cwV 4 hts (zgL inR gaR rfl rfl (List.mem_of_getElem? (i := 1496) (by decide +kernel)) (List.mem_of_getElem? (i := 1497) (by decide +kernel)) (List.mem_of_getElem? (i := 1498) (by decide +kernel)) (List.mem_of_getElem? (i := 108) (by decide +kernel)) mR_187 rfl rfl) rfl rfl rfl (by decide +kernel) ⟨(Nat.le_of_ble_eq_true rfl), (Nat.le_of_ble_eq_true rfl)⟩) (hrR hW) rfl hl.1 rfl (Nat.le_of_ble_eq_true rfl) dL_law_295 hc0 hs0 (fun H locs hW => ?_)
      refine lv_icmp_eq (pc := 298) (tgt := 1592) hx hb dL_law_298 (by decide) (fun c1 => ?_) (fun c1 => absurd rfl c1)
      refine lv_iinc (pc := 1592) (v := (x3 + 6)) (lv' := [(3, .int (x3 + 6)), (0, .ref b), (1, .ref (h 11)), (2, .ref (h2 0))]) hx hb dL_law_1592 hl (k := 3) rfl rfl (by decide) rfl (fun ls hl => ?_)
      refine lv_goto (pc := 1595) (tgt := 18) hx hb dL_law_1595 (by decide) ?_
      exact ih (i + 6) (x3 + 6) (by omega) (by omega) (by rw [ex3]; exact nI_add i 6) SX1 SR1 hRel H locs hW ls (lv_sub hl [1, 2, 3, 0] rfl)
    by_cases c_3 : v = 3
    · refine lv_tableIn (pc := 33) (tgt := 303) (off := 270) hx hb dL_law_33 (by rw [c_3]; decide) (by rw [c_3]; decide) (by rw [c_3]; decide) (by decide) ?_
      refine lv_aload_n (pc := 303) hx hb dL_law_303 rfl (lv_at hl 1 rfl) ?_
      refine lv_aload_n (pc := 304) hx hb dL_law_304 rfl (lv_at hl 0 rfl) ?_
      refine lv_iload_n (pc := 305) hx hb dL_law_305 rfl (lv_at hl 3 rfl) ?_
      refine lv_iconst (pc := 306) (v := 1) hx hb dL_law_306 (by decide) ?_
      refine lv_iadd (pc := 307) hx hb dL_law_307 ?_
      refine va_sld (pc := 308) hx hb hX hbl hbA hW.2.2.2.1 hk1 dL_law_308 ?_
      refine lv_aload_n (pc := 309) hx hb dL_law_309 rfl (lv_at hl 0 rfl) ?_
      refine lv_iload_n (pc := 310) hx hb dL_law_310 rfl (lv_at hl 3 rfl) ?_
      refine lv_iconst (pc := 311) (v := 2) hx hb dL_law_311 (by decide) ?_
      refine lv_iadd (pc := 312) hx hb dL_law_312 ?_
      refine va_sld (pc := 313) hx hb hX hbl hbA hW.2.2.2.1 hk2 dL_law_313 ?_
      refine lv_aload_n (pc := 314) hx hb dL_law_314 rfl (lv_at hl 0 rfl) ?_
      refine lv_iload_n (pc := 315) hx hb dL_law_315 rfl (lv_at hl 3 rfl) ?_
      refine lv_iconst (pc := 316) (v := 3) hx hb dL_law_316 (by decide) ?_
      refine lv_iadd (pc := 317) hx hb dL_law_317 ?_
      refine va_sld (pc := 318) hx hb hX hbl hbA hW.2.2.2.1 hk3 dL_law_318 ?_
      refine lv_aload_n (pc := 319) hx hb dL_law_319 rfl (lv_at hl 0 rfl) ?_
      refine lv_iload_n (pc := 320) hx hb dL_law_320 rfl (lv_at hl 3 rfl) ?_
      refine lv_iconst (pc := 321) (v := 4) hx hb dL_law_321 (by decide) ?_
      refine lv_iadd (pc := 322) hx hb dL_law_322 ?_
      refine va_sld (pc := 323) hx hb hX hbl hbA hW.2.2.2.1 hk4 dL_law_323 ?_
      obtain ⟨r, SX1, SR1, f1, f2, hRel⟩ := p_mend hRel (xs (Int32.toNatClampNeg (x3 + 1))) (xs (Int32.toNatClampNeg (x3 + 2))) (xs (Int32.toNatClampNeg (x3 + 3))) (xs (Int32.toNatClampNeg (x3 + 4)))
      refine zcMi (As := [.int (xs (Int32.toNatClampNeg (x3 + 1))), .int (xs (Int32.toNatClampNeg (x3 + 2))), .int (xs (Int32.toNatClampNeg (x3 + 3))), .int (xs (Int32.toNatClampNeg (x3 + 4)))]) (pc := 324) (zEX_ok tt) hEs C0 hA hKX hW hmapX (kX11_mend l D cA h tt H.size (xs (Int32.toNatClampNeg (x3 + 1))) (xs (Int32.toNatClampNeg (x3 + 2))) (xs (Int32.toNatClampNeg (x3 + 3))) (xs (Int32.toNatClampNeg (x3 + 4))) SX r SX1 f1) (cwV 4 hts (zgL inX gaX rfl rfl (List.mem_of_getElem? (i := 574) (by decide +kernel)) (List.mem_of_getElem? (i := 575) (by decide +kernel)) (List.mem_of_getElem? (i := 576) (by decide +kernel)) (List.mem_of_getElem? (i := 95) (by decide +kernel)) mX_609 rfl rfl) rfl rfl rfl (by decide +kernel) ⟨(Nat.le_of_ble_eq_true rfl), (Nat.le_of_ble_eq_true rfl)⟩) (hrX hW) rfl hl.1 rfl (Nat.le_of_ble_eq_true rfl) dL_law_324 hc0 hs0 (fun H locs hW => ?_)
      refine lv_aload_n (pc := 327) hx hb dL_law_327 rfl (lv_at hl 2 rfl) ?_
      refine lv_aload_n (pc := 328) hx hb dL_law_328 rfl (lv_at hl 0 rfl) ?_
      refine lv_iload_n (pc := 329) hx hb dL_law_329 rfl (lv_at hl 3 rfl) ?_
      refine lv_iconst (pc := 330) (v := 1) hx hb dL_law_330 (by decide) ?_
      refine lv_iadd (pc := 331) hx hb dL_law_331 ?_
      refine va_sld (pc := 332) hx hb hX hbl hbA hW.2.2.2.1 hk1 dL_law_332 ?_
      refine lv_aload_n (pc := 333) hx hb dL_law_333 rfl (lv_at hl 0 rfl) ?_
      refine lv_iload_n (pc := 334) hx hb dL_law_334 rfl (lv_at hl 3 rfl) ?_
      refine lv_iconst (pc := 335) (v := 2) hx hb dL_law_335 (by decide) ?_
      refine lv_iadd (pc := 336) hx hb dL_law_336 ?_
      refine va_sld (pc := 337) hx hb hX hbl hbA hW.2.2.2.1 hk2 dL_law_337 ?_
      refine lv_aload_n (pc := 338) hx hb dL_law_338 rfl (lv_at hl 0 rfl) ?_
      refine lv_iload_n (pc := 339) hx hb dL_law_339 rfl (lv_at hl 3 rfl) ?_
      refine lv_iconst (pc := 340) (v := 3) hx hb dL_law_340 (by decide) ?_
      refine lv_iadd (pc := 341) hx hb dL_law_341 ?_
      refine va_sld (pc := 342) hx hb hX hbl hbA hW.2.2.2.1 hk3 dL_law_342 ?_
      refine lv_aload_n (pc := 343) hx hb dL_law_343 rfl (lv_at hl 0 rfl) ?_
      refine lv_iload_n (pc := 344) hx hb dL_law_344 rfl (lv_at hl 3 rfl) ?_
      refine lv_iconst (pc := 345) (v := 4) hx hb dL_law_345 (by decide) ?_
      refine lv_iadd (pc := 346) hx hb dL_law_346 ?_
      refine va_sld (pc := 347) hx hb hX hbl hbA hW.2.2.2.1 hk4 dL_law_347 ?_
      refine zcMi (As := [.int (xs (Int32.toNatClampNeg (x3 + 1))), .int (xs (Int32.toNatClampNeg (x3 + 2))), .int (xs (Int32.toNatClampNeg (x3 + 3))), .int (xs (Int32.toNatClampNeg (x3 + 4)))]) (pc := 348) zTr_ok trivial C0 hA hKR hW hmapR (kX12_mend l D cA2 h2 H.size zN (xs (Int32.toNatClampNeg (x3 + 1))) (xs (Int32.toNatClampNeg (x3 + 2))) (xs (Int32.toNatClampNeg (x3 + 3))) (xs (Int32.toNatClampNeg (x3 + 4))) SR r SR1 f2) (cwV 4 hts (zgL inR gaR rfl rfl (List.mem_of_getElem? (i := 1379) (by decide +kernel)) (List.mem_of_getElem? (i := 1380) (by decide +kernel)) (List.mem_of_getElem? (i := 1381) (by decide +kernel)) (List.mem_of_getElem? (i := 108) (by decide +kernel)) mR_89 rfl rfl) rfl rfl rfl (by decide +kernel) ⟨(Nat.le_of_ble_eq_true rfl), (Nat.le_of_ble_eq_true rfl)⟩) (hrR hW) rfl hl.1 rfl (Nat.le_of_ble_eq_true rfl) dL_law_348 hc0 hs0 (fun H locs hW => ?_)
      refine lv_icmp_eq (pc := 351) (tgt := 1592) hx hb dL_law_351 (by decide) (fun c1 => ?_) (fun c1 => absurd rfl c1)
      refine lv_iinc (pc := 1592) (v := (x3 + 6)) (lv' := [(3, .int (x3 + 6)), (0, .ref b), (1, .ref (h 11)), (2, .ref (h2 0))]) hx hb dL_law_1592 hl (k := 3) rfl rfl (by decide) rfl (fun ls hl => ?_)
      refine lv_goto (pc := 1595) (tgt := 18) hx hb dL_law_1595 (by decide) ?_
      exact ih (i + 6) (x3 + 6) (by omega) (by omega) (by rw [ex3]; exact nI_add i 6) SX1 SR1 hRel H locs hW ls (lv_sub hl [1, 2, 3, 0] rfl)
    by_cases c_4 : v = 4
    · refine lv_tableIn (pc := 33) (tgt := 356) (off := 323) hx hb dL_law_33 (by rw [c_4]; decide) (by rw [c_4]; decide) (by rw [c_4]; decide) (by decide) ?_
      refine lv_aload_n (pc := 356) hx hb dL_law_356 rfl (lv_at hl 1 rfl) ?_
      obtain ⟨r, SX1, SR1, f1, f2, hRel⟩ := p_law hRel
      refine zcMi (As := []) (pc := 357) (zEX_ok tt) hEs C0 hA hKX hW hmapX (kX11_law l D cA h tt H.size zN SX r SX1 f1) (cwV 0 hts (zgL inX gaX rfl rfl (List.mem_of_getElem? (i := 611) (by decide +kernel)) (List.mem_of_getElem? (i := 612) (by decide +kernel)) (List.mem_of_getElem? (i := 613) (by decide +kernel)) (List.mem_of_getElem? (i := 95) (by decide +kernel)) mX_616 rfl rfl) rfl rfl rfl (by decide +kernel) ⟨(Nat.le_of_ble_eq_true rfl), (Nat.le_of_ble_eq_true rfl)⟩) (hrX hW) rfl hl.1 rfl (Nat.le_of_ble_eq_true rfl) dL_law_357 hc0 hs0 (fun H locs hW => ?_)
      refine lv_aload_n (pc := 360) hx hb dL_law_360 rfl (lv_at hl 2 rfl) ?_
      refine zcMi (As := []) (pc := 361) zTr_ok trivial C0 hA hKR hW hmapR (kX12_law l D cA2 h2 H.size zN SR r SR1 f2) (cwV 0 hts (zgL inR gaR rfl rfl (List.mem_of_getElem? (i := 1399) (by decide +kernel)) (List.mem_of_getElem? (i := 1400) (by decide +kernel)) (List.mem_of_getElem? (i := 1401) (by decide +kernel)) (List.mem_of_getElem? (i := 108) (by decide +kernel)) mR_161 rfl rfl) rfl rfl rfl (by decide +kernel) ⟨(Nat.le_of_ble_eq_true rfl), (Nat.le_of_ble_eq_true rfl)⟩) (hrR hW) rfl hl.1 rfl (Nat.le_of_ble_eq_true rfl) dL_law_361 hc0 hs0 (fun H locs hW => ?_)
      refine lv_icmp_eq (pc := 364) (tgt := 1592) hx hb dL_law_364 (by decide) (fun c1 => ?_) (fun c1 => absurd rfl c1)
      refine lv_iinc (pc := 1592) (v := (x3 + 6)) (lv' := [(3, .int (x3 + 6)), (0, .ref b), (1, .ref (h 11)), (2, .ref (h2 0))]) hx hb dL_law_1592 hl (k := 3) rfl rfl (by decide) rfl (fun ls hl => ?_)
      refine lv_goto (pc := 1595) (tgt := 18) hx hb dL_law_1595 (by decide) ?_
      exact ih (i + 6) (x3 + 6) (by omega) (by omega) (by rw [ex3]; exact nI_add i 6) SX1 SR1 hRel H locs hW ls (lv_sub hl [1, 2, 3, 0] rfl)
    by_cases c_5 : v = 5
    · refine lv_tableIn (pc := 33) (tgt := 369) (off := 336) hx hb dL_law_33 (by rw [c_5]; decide) (by rw [c_5]; decide) (by rw [c_5]; decide) (by decide) ?_
      refine lv_aload_n (pc := 369) hx hb dL_law_369 rfl (lv_at hl 1 rfl) ?_
      refine lv_aload_n (pc := 370) hx hb dL_law_370 rfl (lv_at hl 0 rfl) ?_
      refine lv_iload_n (pc := 371) hx hb dL_law_371 rfl (lv_at hl 3 rfl) ?_
      refine lv_iconst (pc := 372) (v := 1) hx hb dL_law_372 (by decide) ?_
      refine lv_iadd (pc := 373) hx hb dL_law_373 ?_
      refine va_sld (pc := 374) hx hb hX hbl hbA hW.2.2.2.1 hk1 dL_law_374 ?_
      obtain ⟨r, SX1, SR1, f1, f2, hRel⟩ := p_force hRel (xs (Int32.toNatClampNeg (x3 + 1)))
      refine zcMi (As := [.int (xs (Int32.toNatClampNeg (x3 + 1)))]) (pc := 375) (zEX_ok tt) hEs C0 hA hKX hW hmapX (kX11_force l D cA h tt H.size (xs (Int32.toNatClampNeg (x3 + 1))) SX r SX1 f1) (cwV 1 hts (zgL inX gaX rfl rfl (List.mem_of_getElem? (i := 673) (by decide +kernel)) (List.mem_of_getElem? (i := 674) (by decide +kernel)) (List.mem_of_getElem? (i := 675) (by decide +kernel)) (List.mem_of_getElem? (i := 95) (by decide +kernel)) mX_622 rfl rfl) rfl rfl rfl (by decide +kernel) ⟨(Nat.le_of_ble_eq_true rfl), (Nat.le_of_ble_eq_true rfl)⟩) (hrX hW) rfl hl.1 rfl (Nat.le_of_ble_eq_true rfl) dL_law_375 hc0 hs0 (fun H locs hW => ?_)
      refine lv_aload_n (pc := 378) hx hb dL_law_378 rfl (lv_at hl 2 rfl) ?_
      refine lv_aload_n (pc := 379) hx hb dL_law_379 rfl (lv_at hl 0 rfl) ?_
      refine lv_iload_n (pc := 380) hx hb dL_law_380 rfl (lv_at hl 3 rfl) ?_
      refine lv_iconst (pc := 381) (v := 1) hx hb dL_law_381 (by decide) ?_
      refine lv_iadd (pc := 382) hx hb dL_law_382 ?_
      refine va_sld (pc := 383) hx hb hX hbl hbA hW.2.2.2.1 hk1 dL_law_383 ?_
      refine zcMi (As := [.int (xs (Int32.toNatClampNeg (x3 + 1)))]) (pc := 384) zTr_ok trivial C0 hA hKR hW hmapR (kX12_force l D cA2 h2 H.size (xs (Int32.toNatClampNeg (x3 + 1))) SR r SR1 f2) (cwV 1 hts (zgL inR gaR rfl rfl (List.mem_of_getElem? (i := 1458) (by decide +kernel)) (List.mem_of_getElem? (i := 1459) (by decide +kernel)) (List.mem_of_getElem? (i := 1460) (by decide +kernel)) (List.mem_of_getElem? (i := 108) (by decide +kernel)) mR_165 rfl rfl) rfl rfl rfl (by decide +kernel) ⟨(Nat.le_of_ble_eq_true rfl), (Nat.le_of_ble_eq_true rfl)⟩) (hrR hW) rfl hl.1 rfl (Nat.le_of_ble_eq_true rfl) dL_law_384 hc0 hs0 (fun H locs hW => ?_)
      refine lv_icmp_eq (pc := 387) (tgt := 1592) hx hb dL_law_387 (by decide) (fun c1 => ?_) (fun c1 => absurd rfl c1)
      refine lv_iinc (pc := 1592) (v := (x3 + 6)) (lv' := [(3, .int (x3 + 6)), (0, .ref b), (1, .ref (h 11)), (2, .ref (h2 0))]) hx hb dL_law_1592 hl (k := 3) rfl rfl (by decide) rfl (fun ls hl => ?_)
      refine lv_goto (pc := 1595) (tgt := 18) hx hb dL_law_1595 (by decide) ?_
      exact ih (i + 6) (x3 + 6) (by omega) (by omega) (by rw [ex3]; exact nI_add i 6) SX1 SR1 hRel H locs hW ls (lv_sub hl [1, 2, 3, 0] rfl)
    by_cases c_6 : v = 6
    · refine lv_tableIn (pc := 33) (tgt := 392) (off := 359) hx hb dL_law_33 (by rw [c_6]; decide) (by rw [c_6]; decide) (by rw [c_6]; decide) (by decide) ?_
      refine lv_aload_n (pc := 392) hx hb dL_law_392 rfl (lv_at hl 1 rfl) ?_
      refine lv_aload_n (pc := 393) hx hb dL_law_393 rfl (lv_at hl 0 rfl) ?_
      refine lv_iload_n (pc := 394) hx hb dL_law_394 rfl (lv_at hl 3 rfl) ?_
      refine lv_iconst (pc := 395) (v := 1) hx hb dL_law_395 (by decide) ?_
      refine lv_iadd (pc := 396) hx hb dL_law_396 ?_
      refine va_sld (pc := 397) hx hb hX hbl hbA hW.2.2.2.1 hk1 dL_law_397 ?_
      refine lv_aload_n (pc := 398) hx hb dL_law_398 rfl (lv_at hl 0 rfl) ?_
      refine lv_iload_n (pc := 399) hx hb dL_law_399 rfl (lv_at hl 3 rfl) ?_
      refine lv_iconst (pc := 400) (v := 2) hx hb dL_law_400 (by decide) ?_
      refine lv_iadd (pc := 401) hx hb dL_law_401 ?_
      refine va_sld (pc := 402) hx hb hX hbl hbA hW.2.2.2.1 hk2 dL_law_402 ?_
      obtain ⟨r, SX1, SR1, f1, f2, hRel⟩ := p_sky hRel (xs (Int32.toNatClampNeg (x3 + 1))) (xs (Int32.toNatClampNeg (x3 + 2)))
      refine zcMi (As := [.int (xs (Int32.toNatClampNeg (x3 + 1))), .int (xs (Int32.toNatClampNeg (x3 + 2)))]) (pc := 403) (zEX_ok tt) hEs C0 hA hKX hW hmapX (kX11_sky l D cA h tt H.size (xs (Int32.toNatClampNeg (x3 + 1))) (xs (Int32.toNatClampNeg (x3 + 2))) SX r SX1 f1) (cwV 2 hts (zgL inX gaX rfl rfl (List.mem_of_getElem? (i := 678) (by decide +kernel)) (List.mem_of_getElem? (i := 679) (by decide +kernel)) (List.mem_of_getElem? (i := 680) (by decide +kernel)) (List.mem_of_getElem? (i := 95) (by decide +kernel)) mX_625 rfl rfl) rfl rfl rfl (by decide +kernel) ⟨(Nat.le_of_ble_eq_true rfl), (Nat.le_of_ble_eq_true rfl)⟩) (hrX hW) rfl hl.1 rfl (Nat.le_of_ble_eq_true rfl) dL_law_403 hc0 hs0 (fun H locs hW => ?_)
      refine lv_aload_n (pc := 406) hx hb dL_law_406 rfl (lv_at hl 2 rfl) ?_
      refine lv_aload_n (pc := 407) hx hb dL_law_407 rfl (lv_at hl 0 rfl) ?_
      refine lv_iload_n (pc := 408) hx hb dL_law_408 rfl (lv_at hl 3 rfl) ?_
      refine lv_iconst (pc := 409) (v := 1) hx hb dL_law_409 (by decide) ?_
      refine lv_iadd (pc := 410) hx hb dL_law_410 ?_
      refine va_sld (pc := 411) hx hb hX hbl hbA hW.2.2.2.1 hk1 dL_law_411 ?_
      refine lv_aload_n (pc := 412) hx hb dL_law_412 rfl (lv_at hl 0 rfl) ?_
      refine lv_iload_n (pc := 413) hx hb dL_law_413 rfl (lv_at hl 3 rfl) ?_
      refine lv_iconst (pc := 414) (v := 2) hx hb dL_law_414 (by decide) ?_
      refine lv_iadd (pc := 415) hx hb dL_law_415 ?_
      refine va_sld (pc := 416) hx hb hX hbl hbA hW.2.2.2.1 hk2 dL_law_416 ?_
      refine zcMi (As := [.int (xs (Int32.toNatClampNeg (x3 + 1))), .int (xs (Int32.toNatClampNeg (x3 + 2)))]) (pc := 417) zTr_ok trivial C0 hA hKR hW hmapR (kX12_sky l D cA2 h2 H.size (xs (Int32.toNatClampNeg (x3 + 1))) (xs (Int32.toNatClampNeg (x3 + 2))) SR r SR1 f2) (cwV 2 hts (zgL inR gaR rfl rfl (List.mem_of_getElem? (i := 1466) (by decide +kernel)) (List.mem_of_getElem? (i := 1467) (by decide +kernel)) (List.mem_of_getElem? (i := 1468) (by decide +kernel)) (List.mem_of_getElem? (i := 108) (by decide +kernel)) mR_169 rfl rfl) rfl rfl rfl (by decide +kernel) ⟨(Nat.le_of_ble_eq_true rfl), (Nat.le_of_ble_eq_true rfl)⟩) (hrR hW) rfl hl.1 rfl (Nat.le_of_ble_eq_true rfl) dL_law_417 hc0 hs0 (fun H locs hW => ?_)
      refine lv_icmp_eq (pc := 420) (tgt := 1592) hx hb dL_law_420 (by decide) (fun c1 => ?_) (fun c1 => absurd rfl c1)
      refine lv_iinc (pc := 1592) (v := (x3 + 6)) (lv' := [(3, .int (x3 + 6)), (0, .ref b), (1, .ref (h 11)), (2, .ref (h2 0))]) hx hb dL_law_1592 hl (k := 3) rfl rfl (by decide) rfl (fun ls hl => ?_)
      refine lv_goto (pc := 1595) (tgt := 18) hx hb dL_law_1595 (by decide) ?_
      exact ih (i + 6) (x3 + 6) (by omega) (by omega) (by rw [ex3]; exact nI_add i 6) SX1 SR1 hRel H locs hW ls (lv_sub hl [1, 2, 3, 0] rfl)
    by_cases c_7 : v = 7
    · refine lv_tableIn (pc := 33) (tgt := 425) (off := 392) hx hb dL_law_33 (by rw [c_7]; decide) (by rw [c_7]; decide) (by rw [c_7]; decide) (by decide) ?_
      refine lv_aload_n (pc := 425) hx hb dL_law_425 rfl (lv_at hl 1 rfl) ?_
      refine lv_aload_n (pc := 426) hx hb dL_law_426 rfl (lv_at hl 0 rfl) ?_
      refine lv_iload_n (pc := 427) hx hb dL_law_427 rfl (lv_at hl 3 rfl) ?_
      refine lv_iconst (pc := 428) (v := 1) hx hb dL_law_428 (by decide) ?_
      refine lv_iadd (pc := 429) hx hb dL_law_429 ?_
      refine va_sld (pc := 430) hx hb hX hbl hbA hW.2.2.2.1 hk1 dL_law_430 ?_
      refine lv_aload_n (pc := 431) hx hb dL_law_431 rfl (lv_at hl 0 rfl) ?_
      refine lv_iload_n (pc := 432) hx hb dL_law_432 rfl (lv_at hl 3 rfl) ?_
      refine lv_iconst (pc := 433) (v := 2) hx hb dL_law_433 (by decide) ?_
      refine lv_iadd (pc := 434) hx hb dL_law_434 ?_
      refine va_sld (pc := 435) hx hb hX hbl hbA hW.2.2.2.1 hk2 dL_law_435 ?_
      obtain ⟨r, SX1, SR1, f1, f2, hRel⟩ := p_rise hRel (xs (Int32.toNatClampNeg (x3 + 1))) (xs (Int32.toNatClampNeg (x3 + 2)))
      refine zcMi (As := [.int (xs (Int32.toNatClampNeg (x3 + 1))), .int (xs (Int32.toNatClampNeg (x3 + 2)))]) (pc := 436) (zEX_ok tt) hEs C0 hA hKX hW hmapX (kX11_rise l D cA h tt H.size zN (xs (Int32.toNatClampNeg (x3 + 1))) (xs (Int32.toNatClampNeg (x3 + 2))) SX r SX1 f1) (cwV 2 hts (zgL inX gaX rfl rfl (List.mem_of_getElem? (i := 682) (by decide +kernel)) (List.mem_of_getElem? (i := 683) (by decide +kernel)) (List.mem_of_getElem? (i := 684) (by decide +kernel)) (List.mem_of_getElem? (i := 95) (by decide +kernel)) mX_628 rfl rfl) rfl rfl rfl (by decide +kernel) ⟨(Nat.le_of_ble_eq_true rfl), (Nat.le_of_ble_eq_true rfl)⟩) (hrX hW) rfl hl.1 rfl (Nat.le_of_ble_eq_true rfl) dL_law_436 hc0 hs0 (fun H locs hW => ?_)
      refine lv_aload_n (pc := 439) hx hb dL_law_439 rfl (lv_at hl 2 rfl) ?_
      refine lv_aload_n (pc := 440) hx hb dL_law_440 rfl (lv_at hl 0 rfl) ?_
      refine lv_iload_n (pc := 441) hx hb dL_law_441 rfl (lv_at hl 3 rfl) ?_
      refine lv_iconst (pc := 442) (v := 1) hx hb dL_law_442 (by decide) ?_
      refine lv_iadd (pc := 443) hx hb dL_law_443 ?_
      refine va_sld (pc := 444) hx hb hX hbl hbA hW.2.2.2.1 hk1 dL_law_444 ?_
      refine lv_aload_n (pc := 445) hx hb dL_law_445 rfl (lv_at hl 0 rfl) ?_
      refine lv_iload_n (pc := 446) hx hb dL_law_446 rfl (lv_at hl 3 rfl) ?_
      refine lv_iconst (pc := 447) (v := 2) hx hb dL_law_447 (by decide) ?_
      refine lv_iadd (pc := 448) hx hb dL_law_448 ?_
      refine va_sld (pc := 449) hx hb hX hbl hbA hW.2.2.2.1 hk2 dL_law_449 ?_
      refine zcMi (As := [.int (xs (Int32.toNatClampNeg (x3 + 1))), .int (xs (Int32.toNatClampNeg (x3 + 2)))]) (pc := 450) zTr_ok trivial C0 hA hKR hW hmapR (kX12_rise l D cA2 h2 H.size zN (xs (Int32.toNatClampNeg (x3 + 1))) (xs (Int32.toNatClampNeg (x3 + 2))) SR r SR1 f2) (cwV 2 hts (zgL inR gaR rfl rfl (List.mem_of_getElem? (i := 1470) (by decide +kernel)) (List.mem_of_getElem? (i := 1471) (by decide +kernel)) (List.mem_of_getElem? (i := 1472) (by decide +kernel)) (List.mem_of_getElem? (i := 108) (by decide +kernel)) mR_178 rfl rfl) rfl rfl rfl (by decide +kernel) ⟨(Nat.le_of_ble_eq_true rfl), (Nat.le_of_ble_eq_true rfl)⟩) (hrR hW) rfl hl.1 rfl (Nat.le_of_ble_eq_true rfl) dL_law_450 hc0 hs0 (fun H locs hW => ?_)
      refine lv_icmp_eq (pc := 453) (tgt := 1592) hx hb dL_law_453 (by decide) (fun c1 => ?_) (fun c1 => absurd rfl c1)
      refine lv_iinc (pc := 1592) (v := (x3 + 6)) (lv' := [(3, .int (x3 + 6)), (0, .ref b), (1, .ref (h 11)), (2, .ref (h2 0))]) hx hb dL_law_1592 hl (k := 3) rfl rfl (by decide) rfl (fun ls hl => ?_)
      refine lv_goto (pc := 1595) (tgt := 18) hx hb dL_law_1595 (by decide) ?_
      exact ih (i + 6) (x3 + 6) (by omega) (by omega) (by rw [ex3]; exact nI_add i 6) SX1 SR1 hRel H locs hW ls (lv_sub hl [1, 2, 3, 0] rfl)
    by_cases c_8 : v = 8
    · refine lv_tableIn (pc := 33) (tgt := 458) (off := 425) hx hb dL_law_33 (by rw [c_8]; decide) (by rw [c_8]; decide) (by rw [c_8]; decide) (by decide) ?_
      refine lv_aload_n (pc := 458) hx hb dL_law_458 rfl (lv_at hl 1 rfl) ?_
      refine lv_aload_n (pc := 459) hx hb dL_law_459 rfl (lv_at hl 0 rfl) ?_
      refine lv_iload_n (pc := 460) hx hb dL_law_460 rfl (lv_at hl 3 rfl) ?_
      refine lv_iconst (pc := 461) (v := 1) hx hb dL_law_461 (by decide) ?_
      refine lv_iadd (pc := 462) hx hb dL_law_462 ?_
      refine va_sld (pc := 463) hx hb hX hbl hbA hW.2.2.2.1 hk1 dL_law_463 ?_
      refine lv_aload_n (pc := 464) hx hb dL_law_464 rfl (lv_at hl 0 rfl) ?_
      refine lv_iload_n (pc := 465) hx hb dL_law_465 rfl (lv_at hl 3 rfl) ?_
      refine lv_iconst (pc := 466) (v := 2) hx hb dL_law_466 (by decide) ?_
      refine lv_iadd (pc := 467) hx hb dL_law_467 ?_
      refine va_sld (pc := 468) hx hb hX hbl hbA hW.2.2.2.1 hk2 dL_law_468 ?_
      obtain ⟨r, SX1, SR1, f1, f2, hRel⟩ := p_person hRel (xs (Int32.toNatClampNeg (x3 + 1))) (xs (Int32.toNatClampNeg (x3 + 2)))
      refine zcMi (As := [.int (xs (Int32.toNatClampNeg (x3 + 1))), .int (xs (Int32.toNatClampNeg (x3 + 2)))]) (pc := 469) (zEX_ok tt) hEs C0 hA hKX hW hmapX (kX11_person l D cA h tt H.size (xs (Int32.toNatClampNeg (x3 + 1))) (xs (Int32.toNatClampNeg (x3 + 2))) SX r SX1 f1) (cwV 2 hts (zgL inX gaX rfl rfl (List.mem_of_getElem? (i := 688) (by decide +kernel)) (List.mem_of_getElem? (i := 689) (by decide +kernel)) (List.mem_of_getElem? (i := 690) (by decide +kernel)) (List.mem_of_getElem? (i := 95) (by decide +kernel)) mX_631 rfl rfl) rfl rfl rfl (by decide +kernel) ⟨(Nat.le_of_ble_eq_true rfl), (Nat.le_of_ble_eq_true rfl)⟩) (hrX hW) rfl hl.1 rfl (Nat.le_of_ble_eq_true rfl) dL_law_469 hc0 hs0 (fun H locs hW => ?_)
      refine lv_aload_n (pc := 472) hx hb dL_law_472 rfl (lv_at hl 2 rfl) ?_
      refine lv_aload_n (pc := 473) hx hb dL_law_473 rfl (lv_at hl 0 rfl) ?_
      refine lv_iload_n (pc := 474) hx hb dL_law_474 rfl (lv_at hl 3 rfl) ?_
      refine lv_iconst (pc := 475) (v := 1) hx hb dL_law_475 (by decide) ?_
      refine lv_iadd (pc := 476) hx hb dL_law_476 ?_
      refine va_sld (pc := 477) hx hb hX hbl hbA hW.2.2.2.1 hk1 dL_law_477 ?_
      refine lv_aload_n (pc := 478) hx hb dL_law_478 rfl (lv_at hl 0 rfl) ?_
      refine lv_iload_n (pc := 479) hx hb dL_law_479 rfl (lv_at hl 3 rfl) ?_
      refine lv_iconst (pc := 480) (v := 2) hx hb dL_law_480 (by decide) ?_
      refine lv_iadd (pc := 481) hx hb dL_law_481 ?_
      refine va_sld (pc := 482) hx hb hX hbl hbA hW.2.2.2.1 hk2 dL_law_482 ?_
      refine zcMi (As := [.int (xs (Int32.toNatClampNeg (x3 + 1))), .int (xs (Int32.toNatClampNeg (x3 + 2)))]) (pc := 483) zTr_ok trivial C0 hA hKR hW hmapR (kX12_person l D cA2 h2 H.size (xs (Int32.toNatClampNeg (x3 + 1))) (xs (Int32.toNatClampNeg (x3 + 2))) SR r SR1 f2) (cwV 2 hts (zgL inR gaR rfl rfl (List.mem_of_getElem? (i := 1508) (by decide +kernel)) (List.mem_of_getElem? (i := 1509) (by decide +kernel)) (List.mem_of_getElem? (i := 1510) (by decide +kernel)) (List.mem_of_getElem? (i := 108) (by decide +kernel)) mR_196 rfl rfl) rfl rfl rfl (by decide +kernel) ⟨(Nat.le_of_ble_eq_true rfl), (Nat.le_of_ble_eq_true rfl)⟩) (hrR hW) rfl hl.1 rfl (Nat.le_of_ble_eq_true rfl) dL_law_483 hc0 hs0 (fun H locs hW => ?_)
      refine lv_icmp_eq (pc := 486) (tgt := 1592) hx hb dL_law_486 (by decide) (fun c1 => ?_) (fun c1 => absurd rfl c1)
      refine lv_iinc (pc := 1592) (v := (x3 + 6)) (lv' := [(3, .int (x3 + 6)), (0, .ref b), (1, .ref (h 11)), (2, .ref (h2 0))]) hx hb dL_law_1592 hl (k := 3) rfl rfl (by decide) rfl (fun ls hl => ?_)
      refine lv_goto (pc := 1595) (tgt := 18) hx hb dL_law_1595 (by decide) ?_
      exact ih (i + 6) (x3 + 6) (by omega) (by omega) (by rw [ex3]; exact nI_add i 6) SX1 SR1 hRel H locs hW ls (lv_sub hl [1, 2, 3, 0] rfl)
    by_cases c_9 : v = 9
    · refine lv_tableIn (pc := 33) (tgt := 491) (off := 458) hx hb dL_law_33 (by rw [c_9]; decide) (by rw [c_9]; decide) (by rw [c_9]; decide) (by decide) ?_
      refine lv_aload_n (pc := 491) hx hb dL_law_491 rfl (lv_at hl 1 rfl) ?_
      refine lv_aload_n (pc := 492) hx hb dL_law_492 rfl (lv_at hl 0 rfl) ?_
      refine lv_iload_n (pc := 493) hx hb dL_law_493 rfl (lv_at hl 3 rfl) ?_
      refine lv_iconst (pc := 494) (v := 1) hx hb dL_law_494 (by decide) ?_
      refine lv_iadd (pc := 495) hx hb dL_law_495 ?_
      refine va_sld (pc := 496) hx hb hX hbl hbA hW.2.2.2.1 hk1 dL_law_496 ?_
      refine lv_aload_n (pc := 497) hx hb dL_law_497 rfl (lv_at hl 0 rfl) ?_
      refine lv_iload_n (pc := 498) hx hb dL_law_498 rfl (lv_at hl 3 rfl) ?_
      refine lv_iconst (pc := 499) (v := 2) hx hb dL_law_499 (by decide) ?_
      refine lv_iadd (pc := 500) hx hb dL_law_500 ?_
      refine va_sld (pc := 501) hx hb hX hbl hbA hW.2.2.2.1 hk2 dL_law_501 ?_
      refine lv_aload_n (pc := 502) hx hb dL_law_502 rfl (lv_at hl 0 rfl) ?_
      refine lv_iload_n (pc := 503) hx hb dL_law_503 rfl (lv_at hl 3 rfl) ?_
      refine lv_iconst (pc := 504) (v := 3) hx hb dL_law_504 (by decide) ?_
      refine lv_iadd (pc := 505) hx hb dL_law_505 ?_
      refine va_sld (pc := 506) hx hb hX hbl hbA hW.2.2.2.1 hk3 dL_law_506 ?_
      obtain ⟨r, SX1, SR1, f1, f2, hRel⟩ := p_set hRel (xs (Int32.toNatClampNeg (x3 + 1))) (xs (Int32.toNatClampNeg (x3 + 2))) (xs (Int32.toNatClampNeg (x3 + 3)))
      refine zcMi (As := [.int (xs (Int32.toNatClampNeg (x3 + 1))), .int (xs (Int32.toNatClampNeg (x3 + 2))), .int (xs (Int32.toNatClampNeg (x3 + 3)))]) (pc := 507) (zEX_ok tt) hEs C0 hA hKX hW hmapX (kX11_set l D cA h tt H.size (xs (Int32.toNatClampNeg (x3 + 1))) (xs (Int32.toNatClampNeg (x3 + 2))) (xs (Int32.toNatClampNeg (x3 + 3))) SX r SX1 f1) (cwV 3 hts (zgL inX gaX rfl rfl (List.mem_of_getElem? (i := 708) (by decide +kernel)) (List.mem_of_getElem? (i := 709) (by decide +kernel)) (List.mem_of_getElem? (i := 710) (by decide +kernel)) (List.mem_of_getElem? (i := 95) (by decide +kernel)) mX_640 rfl rfl) rfl rfl rfl (by decide +kernel) ⟨(Nat.le_of_ble_eq_true rfl), (Nat.le_of_ble_eq_true rfl)⟩) (hrX hW) rfl hl.1 rfl (Nat.le_of_ble_eq_true rfl) dL_law_507 hc0 hs0 (fun H locs hW => ?_)
      refine lv_aload_n (pc := 510) hx hb dL_law_510 rfl (lv_at hl 2 rfl) ?_
      refine lv_aload_n (pc := 511) hx hb dL_law_511 rfl (lv_at hl 0 rfl) ?_
      refine lv_iload_n (pc := 512) hx hb dL_law_512 rfl (lv_at hl 3 rfl) ?_
      refine lv_iconst (pc := 513) (v := 1) hx hb dL_law_513 (by decide) ?_
      refine lv_iadd (pc := 514) hx hb dL_law_514 ?_
      refine va_sld (pc := 515) hx hb hX hbl hbA hW.2.2.2.1 hk1 dL_law_515 ?_
      refine lv_aload_n (pc := 516) hx hb dL_law_516 rfl (lv_at hl 0 rfl) ?_
      refine lv_iload_n (pc := 517) hx hb dL_law_517 rfl (lv_at hl 3 rfl) ?_
      refine lv_iconst (pc := 518) (v := 2) hx hb dL_law_518 (by decide) ?_
      refine lv_iadd (pc := 519) hx hb dL_law_519 ?_
      refine va_sld (pc := 520) hx hb hX hbl hbA hW.2.2.2.1 hk2 dL_law_520 ?_
      refine lv_aload_n (pc := 521) hx hb dL_law_521 rfl (lv_at hl 0 rfl) ?_
      refine lv_iload_n (pc := 522) hx hb dL_law_522 rfl (lv_at hl 3 rfl) ?_
      refine lv_iconst (pc := 523) (v := 3) hx hb dL_law_523 (by decide) ?_
      refine lv_iadd (pc := 524) hx hb dL_law_524 ?_
      refine va_sld (pc := 525) hx hb hX hbl hbA hW.2.2.2.1 hk3 dL_law_525 ?_
      refine zcMi (As := [.int (xs (Int32.toNatClampNeg (x3 + 1))), .int (xs (Int32.toNatClampNeg (x3 + 2))), .int (xs (Int32.toNatClampNeg (x3 + 3)))]) (pc := 526) zTr_ok trivial C0 hA hKR hW hmapR (kX12_set l D cA2 h2 H.size zN (xs (Int32.toNatClampNeg (x3 + 1))) (xs (Int32.toNatClampNeg (x3 + 2))) (xs (Int32.toNatClampNeg (x3 + 3))) SR r SR1 f2) (cwV 3 hts (zgL inR gaR rfl rfl (List.mem_of_getElem? (i := 1512) (by decide +kernel)) (List.mem_of_getElem? (i := 1513) (by decide +kernel)) (List.mem_of_getElem? (i := 1514) (by decide +kernel)) (List.mem_of_getElem? (i := 108) (by decide +kernel)) mR_197 rfl rfl) rfl rfl rfl (by decide +kernel) ⟨(Nat.le_of_ble_eq_true rfl), (Nat.le_of_ble_eq_true rfl)⟩) (hrR hW) rfl hl.1 rfl (Nat.le_of_ble_eq_true rfl) dL_law_526 hc0 hs0 (fun H locs hW => ?_)
      refine lv_icmp_eq (pc := 529) (tgt := 1592) hx hb dL_law_529 (by decide) (fun c1 => ?_) (fun c1 => absurd rfl c1)
      refine lv_iinc (pc := 1592) (v := (x3 + 6)) (lv' := [(3, .int (x3 + 6)), (0, .ref b), (1, .ref (h 11)), (2, .ref (h2 0))]) hx hb dL_law_1592 hl (k := 3) rfl rfl (by decide) rfl (fun ls hl => ?_)
      refine lv_goto (pc := 1595) (tgt := 18) hx hb dL_law_1595 (by decide) ?_
      exact ih (i + 6) (x3 + 6) (by omega) (by omega) (by rw [ex3]; exact nI_add i 6) SX1 SR1 hRel H locs hW ls (lv_sub hl [1, 2, 3, 0] rfl)
    by_cases c_10 : v = 10
    · refine lv_tableIn (pc := 33) (tgt := 534) (off := 501) hx hb dL_law_33 (by rw [c_10]; decide) (by rw [c_10]; decide) (by rw [c_10]; decide) (by decide) ?_
      refine lv_aload_n (pc := 534) hx hb dL_law_534 rfl (lv_at hl 1 rfl) ?_
      refine lv_aload_n (pc := 535) hx hb dL_law_535 rfl (lv_at hl 0 rfl) ?_
      refine lv_iload_n (pc := 536) hx hb dL_law_536 rfl (lv_at hl 3 rfl) ?_
      refine lv_iconst (pc := 537) (v := 1) hx hb dL_law_537 (by decide) ?_
      refine lv_iadd (pc := 538) hx hb dL_law_538 ?_
      refine va_sld (pc := 539) hx hb hX hbl hbA hW.2.2.2.1 hk1 dL_law_539 ?_
      refine lv_aload_n (pc := 540) hx hb dL_law_540 rfl (lv_at hl 0 rfl) ?_
      refine lv_iload_n (pc := 541) hx hb dL_law_541 rfl (lv_at hl 3 rfl) ?_
      refine lv_iconst (pc := 542) (v := 2) hx hb dL_law_542 (by decide) ?_
      refine lv_iadd (pc := 543) hx hb dL_law_543 ?_
      refine va_sld (pc := 544) hx hb hX hbl hbA hW.2.2.2.1 hk2 dL_law_544 ?_
      obtain ⟨r, SX1, SR1, f1, f2, hRel⟩ := p_of hRel (xs (Int32.toNatClampNeg (x3 + 1))) (xs (Int32.toNatClampNeg (x3 + 2)))
      refine zcMi (As := [.int (xs (Int32.toNatClampNeg (x3 + 1))), .int (xs (Int32.toNatClampNeg (x3 + 2)))]) (pc := 545) (zEX_ok tt) hEs C0 hA hKX hW hmapX (kX11_of l D cA h tt H.size (xs (Int32.toNatClampNeg (x3 + 1))) (xs (Int32.toNatClampNeg (x3 + 2))) SX r SX1 f1) (cwV 2 hts (zgL inX gaX rfl rfl (List.mem_of_getElem? (i := 717) (by decide +kernel)) (List.mem_of_getElem? (i := 718) (by decide +kernel)) (List.mem_of_getElem? (i := 719) (by decide +kernel)) (List.mem_of_getElem? (i := 95) (by decide +kernel)) mX_643 rfl rfl) rfl rfl rfl (by decide +kernel) ⟨(Nat.le_of_ble_eq_true rfl), (Nat.le_of_ble_eq_true rfl)⟩) (hrX hW) rfl hl.1 rfl (Nat.le_of_ble_eq_true rfl) dL_law_545 hc0 hs0 (fun H locs hW => ?_)
      refine lv_aload_n (pc := 548) hx hb dL_law_548 rfl (lv_at hl 2 rfl) ?_
      refine lv_aload_n (pc := 549) hx hb dL_law_549 rfl (lv_at hl 0 rfl) ?_
      refine lv_iload_n (pc := 550) hx hb dL_law_550 rfl (lv_at hl 3 rfl) ?_
      refine lv_iconst (pc := 551) (v := 1) hx hb dL_law_551 (by decide) ?_
      refine lv_iadd (pc := 552) hx hb dL_law_552 ?_
      refine va_sld (pc := 553) hx hb hX hbl hbA hW.2.2.2.1 hk1 dL_law_553 ?_
      refine lv_aload_n (pc := 554) hx hb dL_law_554 rfl (lv_at hl 0 rfl) ?_
      refine lv_iload_n (pc := 555) hx hb dL_law_555 rfl (lv_at hl 3 rfl) ?_
      refine lv_iconst (pc := 556) (v := 2) hx hb dL_law_556 (by decide) ?_
      refine lv_iadd (pc := 557) hx hb dL_law_557 ?_
      refine va_sld (pc := 558) hx hb hX hbl hbA hW.2.2.2.1 hk2 dL_law_558 ?_
      refine zcMi (As := [.int (xs (Int32.toNatClampNeg (x3 + 1))), .int (xs (Int32.toNatClampNeg (x3 + 2)))]) (pc := 559) zTr_ok trivial C0 hA hKR hW hmapR (kX12_of l D cA2 h2 H.size (xs (Int32.toNatClampNeg (x3 + 1))) (xs (Int32.toNatClampNeg (x3 + 2))) SR r SR1 f2) (cwV 2 hts (zgL inR gaR rfl rfl (List.mem_of_getElem? (i := 1520) (by decide +kernel)) (List.mem_of_getElem? (i := 1521) (by decide +kernel)) (List.mem_of_getElem? (i := 1522) (by decide +kernel)) (List.mem_of_getElem? (i := 108) (by decide +kernel)) mR_201 rfl rfl) rfl rfl rfl (by decide +kernel) ⟨(Nat.le_of_ble_eq_true rfl), (Nat.le_of_ble_eq_true rfl)⟩) (hrR hW) rfl hl.1 rfl (Nat.le_of_ble_eq_true rfl) dL_law_559 hc0 hs0 (fun H locs hW => ?_)
      refine lv_icmp_eq (pc := 562) (tgt := 1592) hx hb dL_law_562 (by decide) (fun c1 => ?_) (fun c1 => absurd rfl c1)
      refine lv_iinc (pc := 1592) (v := (x3 + 6)) (lv' := [(3, .int (x3 + 6)), (0, .ref b), (1, .ref (h 11)), (2, .ref (h2 0))]) hx hb dL_law_1592 hl (k := 3) rfl rfl (by decide) rfl (fun ls hl => ?_)
      refine lv_goto (pc := 1595) (tgt := 18) hx hb dL_law_1595 (by decide) ?_
      exact ih (i + 6) (x3 + 6) (by omega) (by omega) (by rw [ex3]; exact nI_add i 6) SX1 SR1 hRel H locs hW ls (lv_sub hl [1, 2, 3, 0] rfl)
    by_cases c_11 : v = 11
    · refine lv_tableIn (pc := 33) (tgt := 567) (off := 534) hx hb dL_law_33 (by rw [c_11]; decide) (by rw [c_11]; decide) (by rw [c_11]; decide) (by decide) ?_
      refine lv_aload_n (pc := 567) hx hb dL_law_567 rfl (lv_at hl 1 rfl) ?_
      refine lv_aload_n (pc := 568) hx hb dL_law_568 rfl (lv_at hl 0 rfl) ?_
      refine lv_iload_n (pc := 569) hx hb dL_law_569 rfl (lv_at hl 3 rfl) ?_
      refine lv_iconst (pc := 570) (v := 1) hx hb dL_law_570 (by decide) ?_
      refine lv_iadd (pc := 571) hx hb dL_law_571 ?_
      refine va_sld (pc := 572) hx hb hX hbl hbA hW.2.2.2.1 hk1 dL_law_572 ?_
      refine lv_aload_n (pc := 573) hx hb dL_law_573 rfl (lv_at hl 0 rfl) ?_
      refine lv_iload_n (pc := 574) hx hb dL_law_574 rfl (lv_at hl 3 rfl) ?_
      refine lv_iconst (pc := 575) (v := 2) hx hb dL_law_575 (by decide) ?_
      refine lv_iadd (pc := 576) hx hb dL_law_576 ?_
      refine va_sld (pc := 577) hx hb hX hbl hbA hW.2.2.2.1 hk2 dL_law_577 ?_
      refine lv_aload_n (pc := 578) hx hb dL_law_578 rfl (lv_at hl 0 rfl) ?_
      refine lv_iload_n (pc := 579) hx hb dL_law_579 rfl (lv_at hl 3 rfl) ?_
      refine lv_iconst (pc := 580) (v := 3) hx hb dL_law_580 (by decide) ?_
      refine lv_iadd (pc := 581) hx hb dL_law_581 ?_
      refine va_sld (pc := 582) hx hb hX hbl hbA hW.2.2.2.1 hk3 dL_law_582 ?_
      refine lv_aload_n (pc := 583) hx hb dL_law_583 rfl (lv_at hl 0 rfl) ?_
      refine lv_iload_n (pc := 584) hx hb dL_law_584 rfl (lv_at hl 3 rfl) ?_
      refine lv_iconst (pc := 585) (v := 4) hx hb dL_law_585 (by decide) ?_
      refine lv_iadd (pc := 586) hx hb dL_law_586 ?_
      refine va_sld (pc := 587) hx hb hX hbl hbA hW.2.2.2.1 hk4 dL_law_587 ?_
      obtain ⟨r, SX1, SR1, f1, f2, hRel⟩ := p_margin hRel (xs (Int32.toNatClampNeg (x3 + 1))) (xs (Int32.toNatClampNeg (x3 + 2))) (xs (Int32.toNatClampNeg (x3 + 3))) (xs (Int32.toNatClampNeg (x3 + 4)))
      refine zcMi (As := [.int (xs (Int32.toNatClampNeg (x3 + 1))), .int (xs (Int32.toNatClampNeg (x3 + 2))), .int (xs (Int32.toNatClampNeg (x3 + 3))), .int (xs (Int32.toNatClampNeg (x3 + 4)))]) (pc := 588) (zEX_ok tt) hEs C0 hA hKX hW hmapX (kX11_margin l D cA h tt H.size zN (xs (Int32.toNatClampNeg (x3 + 1))) (xs (Int32.toNatClampNeg (x3 + 2))) (xs (Int32.toNatClampNeg (x3 + 3))) (xs (Int32.toNatClampNeg (x3 + 4))) SX r SX1 f1) (cwV 4 hts (zgL inX gaX rfl rfl (List.mem_of_getElem? (i := 725) (by decide +kernel)) (List.mem_of_getElem? (i := 726) (by decide +kernel)) (List.mem_of_getElem? (i := 727) (by decide +kernel)) (List.mem_of_getElem? (i := 95) (by decide +kernel)) mX_645 rfl rfl) rfl rfl rfl (by decide +kernel) ⟨(Nat.le_of_ble_eq_true rfl), (Nat.le_of_ble_eq_true rfl)⟩) (hrX hW) rfl hl.1 rfl (Nat.le_of_ble_eq_true rfl) dL_law_588 hc0 hs0 (fun H locs hW => ?_)
      refine lv_aload_n (pc := 591) hx hb dL_law_591 rfl (lv_at hl 2 rfl) ?_
      refine lv_aload_n (pc := 592) hx hb dL_law_592 rfl (lv_at hl 0 rfl) ?_
      refine lv_iload_n (pc := 593) hx hb dL_law_593 rfl (lv_at hl 3 rfl) ?_
      refine lv_iconst (pc := 594) (v := 1) hx hb dL_law_594 (by decide) ?_
      refine lv_iadd (pc := 595) hx hb dL_law_595 ?_
      refine va_sld (pc := 596) hx hb hX hbl hbA hW.2.2.2.1 hk1 dL_law_596 ?_
      refine lv_aload_n (pc := 597) hx hb dL_law_597 rfl (lv_at hl 0 rfl) ?_
      refine lv_iload_n (pc := 598) hx hb dL_law_598 rfl (lv_at hl 3 rfl) ?_
      refine lv_iconst (pc := 599) (v := 2) hx hb dL_law_599 (by decide) ?_
      refine lv_iadd (pc := 600) hx hb dL_law_600 ?_
      refine va_sld (pc := 601) hx hb hX hbl hbA hW.2.2.2.1 hk2 dL_law_601 ?_
      refine lv_aload_n (pc := 602) hx hb dL_law_602 rfl (lv_at hl 0 rfl) ?_
      refine lv_iload_n (pc := 603) hx hb dL_law_603 rfl (lv_at hl 3 rfl) ?_
      refine lv_iconst (pc := 604) (v := 3) hx hb dL_law_604 (by decide) ?_
      refine lv_iadd (pc := 605) hx hb dL_law_605 ?_
      refine va_sld (pc := 606) hx hb hX hbl hbA hW.2.2.2.1 hk3 dL_law_606 ?_
      refine lv_aload_n (pc := 607) hx hb dL_law_607 rfl (lv_at hl 0 rfl) ?_
      refine lv_iload_n (pc := 608) hx hb dL_law_608 rfl (lv_at hl 3 rfl) ?_
      refine lv_iconst (pc := 609) (v := 4) hx hb dL_law_609 (by decide) ?_
      refine lv_iadd (pc := 610) hx hb dL_law_610 ?_
      refine va_sld (pc := 611) hx hb hX hbl hbA hW.2.2.2.1 hk4 dL_law_611 ?_
      refine zcMi (As := [.int (xs (Int32.toNatClampNeg (x3 + 1))), .int (xs (Int32.toNatClampNeg (x3 + 2))), .int (xs (Int32.toNatClampNeg (x3 + 3))), .int (xs (Int32.toNatClampNeg (x3 + 4)))]) (pc := 612) zTr_ok trivial C0 hA hKR hW hmapR (kX12_margin l D cA2 h2 H.size zN (xs (Int32.toNatClampNeg (x3 + 1))) (xs (Int32.toNatClampNeg (x3 + 2))) (xs (Int32.toNatClampNeg (x3 + 3))) (xs (Int32.toNatClampNeg (x3 + 4))) SR r SR1 f2) (cwV 4 hts (zgL inR gaR rfl rfl (List.mem_of_getElem? (i := 1524) (by decide +kernel)) (List.mem_of_getElem? (i := 1525) (by decide +kernel)) (List.mem_of_getElem? (i := 1526) (by decide +kernel)) (List.mem_of_getElem? (i := 108) (by decide +kernel)) mR_229 rfl rfl) rfl rfl rfl (by decide +kernel) ⟨(Nat.le_of_ble_eq_true rfl), (Nat.le_of_ble_eq_true rfl)⟩) (hrR hW) rfl hl.1 rfl (Nat.le_of_ble_eq_true rfl) dL_law_612 hc0 hs0 (fun H locs hW => ?_)
      refine lv_icmp_eq (pc := 615) (tgt := 1592) hx hb dL_law_615 (by decide) (fun c1 => ?_) (fun c1 => absurd rfl c1)
      refine lv_iinc (pc := 1592) (v := (x3 + 6)) (lv' := [(3, .int (x3 + 6)), (0, .ref b), (1, .ref (h 11)), (2, .ref (h2 0))]) hx hb dL_law_1592 hl (k := 3) rfl rfl (by decide) rfl (fun ls hl => ?_)
      refine lv_goto (pc := 1595) (tgt := 18) hx hb dL_law_1595 (by decide) ?_
      exact ih (i + 6) (x3 + 6) (by omega) (by omega) (by rw [ex3]; exact nI_add i 6) SX1 SR1 hRel H locs hW ls (lv_sub hl [1, 2, 3, 0] rfl)
    by_cases c_12 : v = 12
    · refine lv_tableIn (pc := 33) (tgt := 620) (off := 587) hx hb dL_law_33 (by rw [c_12]; decide) (by rw [c_12]; decide) (by rw [c_12]; decide) (by decide) ?_
      refine lv_aload_n (pc := 620) hx hb dL_law_620 rfl (lv_at hl 1 rfl) ?_
      refine lv_aload_n (pc := 621) hx hb dL_law_621 rfl (lv_at hl 0 rfl) ?_
      refine lv_iload_n (pc := 622) hx hb dL_law_622 rfl (lv_at hl 3 rfl) ?_
      refine lv_iconst (pc := 623) (v := 1) hx hb dL_law_623 (by decide) ?_
      refine lv_iadd (pc := 624) hx hb dL_law_624 ?_
      refine va_sld (pc := 625) hx hb hX hbl hbA hW.2.2.2.1 hk1 dL_law_625 ?_
      refine lv_aload_n (pc := 626) hx hb dL_law_626 rfl (lv_at hl 0 rfl) ?_
      refine lv_iload_n (pc := 627) hx hb dL_law_627 rfl (lv_at hl 3 rfl) ?_
      refine lv_iconst (pc := 628) (v := 2) hx hb dL_law_628 (by decide) ?_
      refine lv_iadd (pc := 629) hx hb dL_law_629 ?_
      refine va_sld (pc := 630) hx hb hX hbl hbA hW.2.2.2.1 hk2 dL_law_630 ?_
      refine lv_aload_n (pc := 631) hx hb dL_law_631 rfl (lv_at hl 0 rfl) ?_
      refine lv_iload_n (pc := 632) hx hb dL_law_632 rfl (lv_at hl 3 rfl) ?_
      refine lv_iconst (pc := 633) (v := 3) hx hb dL_law_633 (by decide) ?_
      refine lv_iadd (pc := 634) hx hb dL_law_634 ?_
      refine va_sld (pc := 635) hx hb hX hbl hbA hW.2.2.2.1 hk3 dL_law_635 ?_
      obtain ⟨r, SX1, SR1, f1, f2, hRel⟩ := p_over hRel (xs (Int32.toNatClampNeg (x3 + 1))) (xs (Int32.toNatClampNeg (x3 + 2))) (xs (Int32.toNatClampNeg (x3 + 3)))
      refine zcMi (As := [.int (xs (Int32.toNatClampNeg (x3 + 1))), .int (xs (Int32.toNatClampNeg (x3 + 2))), .int (xs (Int32.toNatClampNeg (x3 + 3)))]) (pc := 636) (zEX_ok tt) hEs C0 hA hKX hW hmapX (kX11_over l D cA h tt H.size zN (xs (Int32.toNatClampNeg (x3 + 1))) (xs (Int32.toNatClampNeg (x3 + 2))) (xs (Int32.toNatClampNeg (x3 + 3))) SX r SX1 f1) (cwV 3 hts (zgL inX gaX rfl rfl (List.mem_of_getElem? (i := 803) (by decide +kernel)) (List.mem_of_getElem? (i := 804) (by decide +kernel)) (List.mem_of_getElem? (i := 805) (by decide +kernel)) (List.mem_of_getElem? (i := 95) (by decide +kernel)) mX_672 rfl rfl) rfl rfl rfl (by decide +kernel) ⟨(Nat.le_of_ble_eq_true rfl), (Nat.le_of_ble_eq_true rfl)⟩) (hrX hW) rfl hl.1 rfl (Nat.le_of_ble_eq_true rfl) dL_law_636 hc0 hs0 (fun H locs hW => ?_)
      refine lv_aload_n (pc := 639) hx hb dL_law_639 rfl (lv_at hl 2 rfl) ?_
      refine lv_aload_n (pc := 640) hx hb dL_law_640 rfl (lv_at hl 0 rfl) ?_
      refine lv_iload_n (pc := 641) hx hb dL_law_641 rfl (lv_at hl 3 rfl) ?_
      refine lv_iconst (pc := 642) (v := 1) hx hb dL_law_642 (by decide) ?_
      refine lv_iadd (pc := 643) hx hb dL_law_643 ?_
      refine va_sld (pc := 644) hx hb hX hbl hbA hW.2.2.2.1 hk1 dL_law_644 ?_
      refine lv_aload_n (pc := 645) hx hb dL_law_645 rfl (lv_at hl 0 rfl) ?_
      refine lv_iload_n (pc := 646) hx hb dL_law_646 rfl (lv_at hl 3 rfl) ?_
      refine lv_iconst (pc := 647) (v := 2) hx hb dL_law_647 (by decide) ?_
      refine lv_iadd (pc := 648) hx hb dL_law_648 ?_
      refine va_sld (pc := 649) hx hb hX hbl hbA hW.2.2.2.1 hk2 dL_law_649 ?_
      refine lv_aload_n (pc := 650) hx hb dL_law_650 rfl (lv_at hl 0 rfl) ?_
      refine lv_iload_n (pc := 651) hx hb dL_law_651 rfl (lv_at hl 3 rfl) ?_
      refine lv_iconst (pc := 652) (v := 3) hx hb dL_law_652 (by decide) ?_
      refine lv_iadd (pc := 653) hx hb dL_law_653 ?_
      refine va_sld (pc := 654) hx hb hX hbl hbA hW.2.2.2.1 hk3 dL_law_654 ?_
      refine zcMi (As := [.int (xs (Int32.toNatClampNeg (x3 + 1))), .int (xs (Int32.toNatClampNeg (x3 + 2))), .int (xs (Int32.toNatClampNeg (x3 + 3)))]) (pc := 655) zTr_ok trivial C0 hA hKR hW hmapR (kX12_over l D cA2 h2 H.size zN (xs (Int32.toNatClampNeg (x3 + 1))) (xs (Int32.toNatClampNeg (x3 + 2))) (xs (Int32.toNatClampNeg (x3 + 3))) SR r SR1 f2) (cwV 3 hts (zgL inR gaR rfl rfl (List.mem_of_getElem? (i := 1563) (by decide +kernel)) (List.mem_of_getElem? (i := 1564) (by decide +kernel)) (List.mem_of_getElem? (i := 1565) (by decide +kernel)) (List.mem_of_getElem? (i := 108) (by decide +kernel)) mR_245 rfl rfl) rfl rfl rfl (by decide +kernel) ⟨(Nat.le_of_ble_eq_true rfl), (Nat.le_of_ble_eq_true rfl)⟩) (hrR hW) rfl hl.1 rfl (Nat.le_of_ble_eq_true rfl) dL_law_655 hc0 hs0 (fun H locs hW => ?_)
      refine lv_icmp_eq (pc := 658) (tgt := 1592) hx hb dL_law_658 (by decide) (fun c1 => ?_) (fun c1 => absurd rfl c1)
      refine lv_iinc (pc := 1592) (v := (x3 + 6)) (lv' := [(3, .int (x3 + 6)), (0, .ref b), (1, .ref (h 11)), (2, .ref (h2 0))]) hx hb dL_law_1592 hl (k := 3) rfl rfl (by decide) rfl (fun ls hl => ?_)
      refine lv_goto (pc := 1595) (tgt := 18) hx hb dL_law_1595 (by decide) ?_
      exact ih (i + 6) (x3 + 6) (by omega) (by omega) (by rw [ex3]; exact nI_add i 6) SX1 SR1 hRel H locs hW ls (lv_sub hl [1, 2, 3, 0] rfl)
    by_cases c_13 : v = 13
    · refine lv_tableIn (pc := 33) (tgt := 663) (off := 630) hx hb dL_law_33 (by rw [c_13]; decide) (by rw [c_13]; decide) (by rw [c_13]; decide) (by decide) ?_
      refine lv_aload_n (pc := 663) hx hb dL_law_663 rfl (lv_at hl 1 rfl) ?_
      refine lv_aload_n (pc := 664) hx hb dL_law_664 rfl (lv_at hl 0 rfl) ?_
      refine lv_iload_n (pc := 665) hx hb dL_law_665 rfl (lv_at hl 3 rfl) ?_
      refine lv_iconst (pc := 666) (v := 1) hx hb dL_law_666 (by decide) ?_
      refine lv_iadd (pc := 667) hx hb dL_law_667 ?_
      refine va_sld (pc := 668) hx hb hX hbl hbA hW.2.2.2.1 hk1 dL_law_668 ?_
      refine lv_aload_n (pc := 669) hx hb dL_law_669 rfl (lv_at hl 0 rfl) ?_
      refine lv_iload_n (pc := 670) hx hb dL_law_670 rfl (lv_at hl 3 rfl) ?_
      refine lv_iconst (pc := 671) (v := 2) hx hb dL_law_671 (by decide) ?_
      refine lv_iadd (pc := 672) hx hb dL_law_672 ?_
      refine va_sld (pc := 673) hx hb hX hbl hbA hW.2.2.2.1 hk2 dL_law_673 ?_
      refine lv_aload_n (pc := 674) hx hb dL_law_674 rfl (lv_at hl 0 rfl) ?_
      refine lv_iload_n (pc := 675) hx hb dL_law_675 rfl (lv_at hl 3 rfl) ?_
      refine lv_iconst (pc := 676) (v := 3) hx hb dL_law_676 (by decide) ?_
      refine lv_iadd (pc := 677) hx hb dL_law_677 ?_
      refine va_sld (pc := 678) hx hb hX hbl hbA hW.2.2.2.1 hk3 dL_law_678 ?_
      obtain ⟨r, SX1, SR1, f1, f2, hRel⟩ := p_order hRel (xs (Int32.toNatClampNeg (x3 + 1))) (xs (Int32.toNatClampNeg (x3 + 2))) (xs (Int32.toNatClampNeg (x3 + 3)))
      refine zcMi (As := [.int (xs (Int32.toNatClampNeg (x3 + 1))), .int (xs (Int32.toNatClampNeg (x3 + 2))), .int (xs (Int32.toNatClampNeg (x3 + 3)))]) (pc := 679) (zEX_ok tt) hEs C0 hA hKX hW hmapX (kX11_order l D cA h tt H.size zN (xs (Int32.toNatClampNeg (x3 + 1))) (xs (Int32.toNatClampNeg (x3 + 2))) (xs (Int32.toNatClampNeg (x3 + 3))) SX r SX1 f1) (cwV 3 hts (zgL inX gaX rfl rfl (List.mem_of_getElem? (i := 829) (by decide +kernel)) (List.mem_of_getElem? (i := 830) (by decide +kernel)) (List.mem_of_getElem? (i := 831) (by decide +kernel)) (List.mem_of_getElem? (i := 95) (by decide +kernel)) mX_676 rfl rfl) rfl rfl rfl (by decide +kernel) ⟨(Nat.le_of_ble_eq_true rfl), (Nat.le_of_ble_eq_true rfl)⟩) (hrX hW) rfl hl.1 rfl (Nat.le_of_ble_eq_true rfl) dL_law_679 hc0 hs0 (fun H locs hW => ?_)
      refine lv_aload_n (pc := 682) hx hb dL_law_682 rfl (lv_at hl 2 rfl) ?_
      refine lv_aload_n (pc := 683) hx hb dL_law_683 rfl (lv_at hl 0 rfl) ?_
      refine lv_iload_n (pc := 684) hx hb dL_law_684 rfl (lv_at hl 3 rfl) ?_
      refine lv_iconst (pc := 685) (v := 1) hx hb dL_law_685 (by decide) ?_
      refine lv_iadd (pc := 686) hx hb dL_law_686 ?_
      refine va_sld (pc := 687) hx hb hX hbl hbA hW.2.2.2.1 hk1 dL_law_687 ?_
      refine lv_aload_n (pc := 688) hx hb dL_law_688 rfl (lv_at hl 0 rfl) ?_
      refine lv_iload_n (pc := 689) hx hb dL_law_689 rfl (lv_at hl 3 rfl) ?_
      refine lv_iconst (pc := 690) (v := 2) hx hb dL_law_690 (by decide) ?_
      refine lv_iadd (pc := 691) hx hb dL_law_691 ?_
      refine va_sld (pc := 692) hx hb hX hbl hbA hW.2.2.2.1 hk2 dL_law_692 ?_
      refine lv_aload_n (pc := 693) hx hb dL_law_693 rfl (lv_at hl 0 rfl) ?_
      refine lv_iload_n (pc := 694) hx hb dL_law_694 rfl (lv_at hl 3 rfl) ?_
      refine lv_iconst (pc := 695) (v := 3) hx hb dL_law_695 (by decide) ?_
      refine lv_iadd (pc := 696) hx hb dL_law_696 ?_
      refine va_sld (pc := 697) hx hb hX hbl hbA hW.2.2.2.1 hk3 dL_law_697 ?_
      refine zcMi (As := [.int (xs (Int32.toNatClampNeg (x3 + 1))), .int (xs (Int32.toNatClampNeg (x3 + 2))), .int (xs (Int32.toNatClampNeg (x3 + 3)))]) (pc := 698) zTr_ok trivial C0 hA hKR hW hmapR (kX12_order l D cA2 h2 H.size zN (xs (Int32.toNatClampNeg (x3 + 1))) (xs (Int32.toNatClampNeg (x3 + 2))) (xs (Int32.toNatClampNeg (x3 + 3))) SR r SR1 f2) (cwV 3 hts (zgL inR gaR rfl rfl (List.mem_of_getElem? (i := 1579) (by decide +kernel)) (List.mem_of_getElem? (i := 1580) (by decide +kernel)) (List.mem_of_getElem? (i := 1581) (by decide +kernel)) (List.mem_of_getElem? (i := 108) (by decide +kernel)) mR_252 rfl rfl) rfl rfl rfl (by decide +kernel) ⟨(Nat.le_of_ble_eq_true rfl), (Nat.le_of_ble_eq_true rfl)⟩) (hrR hW) rfl hl.1 rfl (Nat.le_of_ble_eq_true rfl) dL_law_698 hc0 hs0 (fun H locs hW => ?_)
      refine lv_icmp_eq (pc := 701) (tgt := 1592) hx hb dL_law_701 (by decide) (fun c1 => ?_) (fun c1 => absurd rfl c1)
      refine lv_iinc (pc := 1592) (v := (x3 + 6)) (lv' := [(3, .int (x3 + 6)), (0, .ref b), (1, .ref (h 11)), (2, .ref (h2 0))]) hx hb dL_law_1592 hl (k := 3) rfl rfl (by decide) rfl (fun ls hl => ?_)
      refine lv_goto (pc := 1595) (tgt := 18) hx hb dL_law_1595 (by decide) ?_
      exact ih (i + 6) (x3 + 6) (by omega) (by omega) (by rw [ex3]; exact nI_add i 6) SX1 SR1 hRel H locs hW ls (lv_sub hl [1, 2, 3, 0] rfl)
    by_cases c_14 : v = 14
    · refine lv_tableIn (pc := 33) (tgt := 706) (off := 673) hx hb dL_law_33 (by rw [c_14]; decide) (by rw [c_14]; decide) (by rw [c_14]; decide) (by decide) ?_
      refine lv_aload_n (pc := 706) hx hb dL_law_706 rfl (lv_at hl 1 rfl) ?_
      refine lv_aload_n (pc := 707) hx hb dL_law_707 rfl (lv_at hl 0 rfl) ?_
      refine lv_iload_n (pc := 708) hx hb dL_law_708 rfl (lv_at hl 3 rfl) ?_
      refine lv_iconst (pc := 709) (v := 1) hx hb dL_law_709 (by decide) ?_
      refine lv_iadd (pc := 710) hx hb dL_law_710 ?_
      refine va_sld (pc := 711) hx hb hX hbl hbA hW.2.2.2.1 hk1 dL_law_711 ?_
      refine lv_aload_n (pc := 712) hx hb dL_law_712 rfl (lv_at hl 0 rfl) ?_
      refine lv_iload_n (pc := 713) hx hb dL_law_713 rfl (lv_at hl 3 rfl) ?_
      refine lv_iconst (pc := 714) (v := 2) hx hb dL_law_714 (by decide) ?_
      refine lv_iadd (pc := 715) hx hb dL_law_715 ?_
      refine va_sld (pc := 716) hx hb hX hbl hbA hW.2.2.2.1 hk2 dL_law_716 ?_
      refine lv_aload_n (pc := 717) hx hb dL_law_717 rfl (lv_at hl 0 rfl) ?_
      refine lv_iload_n (pc := 718) hx hb dL_law_718 rfl (lv_at hl 3 rfl) ?_
      refine lv_iconst (pc := 719) (v := 3) hx hb dL_law_719 (by decide) ?_
      refine lv_iadd (pc := 720) hx hb dL_law_720 ?_
      refine va_sld (pc := 721) hx hb hX hbl hbA hW.2.2.2.1 hk3 dL_law_721 ?_
      obtain ⟨r, SX1, SR1, f1, f2, hRel⟩ := p_best hRel (xs (Int32.toNatClampNeg (x3 + 1))) (xs (Int32.toNatClampNeg (x3 + 2))) (xs (Int32.toNatClampNeg (x3 + 3)))
      refine zcMi (As := [.int (xs (Int32.toNatClampNeg (x3 + 1))), .int (xs (Int32.toNatClampNeg (x3 + 2))), .int (xs (Int32.toNatClampNeg (x3 + 3)))]) (pc := 722) (zEX_ok tt) hEs C0 hA hKX hW hmapX (kX11_best l D cA h tt H.size zN (xs (Int32.toNatClampNeg (x3 + 1))) (xs (Int32.toNatClampNeg (x3 + 2))) (xs (Int32.toNatClampNeg (x3 + 3))) SX r SX1 f1) (cwV 3 hts (zgL inX gaX rfl rfl (List.mem_of_getElem? (i := 855) (by decide +kernel)) (List.mem_of_getElem? (i := 856) (by decide +kernel)) (List.mem_of_getElem? (i := 857) (by decide +kernel)) (List.mem_of_getElem? (i := 95) (by decide +kernel)) mX_682 rfl rfl) rfl rfl rfl (by decide +kernel) ⟨(Nat.le_of_ble_eq_true rfl), (Nat.le_of_ble_eq_true rfl)⟩) (hrX hW) rfl hl.1 rfl (Nat.le_of_ble_eq_true rfl) dL_law_722 hc0 hs0 (fun H locs hW => ?_)
      refine lv_aload_n (pc := 725) hx hb dL_law_725 rfl (lv_at hl 2 rfl) ?_
      refine lv_aload_n (pc := 726) hx hb dL_law_726 rfl (lv_at hl 0 rfl) ?_
      refine lv_iload_n (pc := 727) hx hb dL_law_727 rfl (lv_at hl 3 rfl) ?_
      refine lv_iconst (pc := 728) (v := 1) hx hb dL_law_728 (by decide) ?_
      refine lv_iadd (pc := 729) hx hb dL_law_729 ?_
      refine va_sld (pc := 730) hx hb hX hbl hbA hW.2.2.2.1 hk1 dL_law_730 ?_
      refine lv_aload_n (pc := 731) hx hb dL_law_731 rfl (lv_at hl 0 rfl) ?_
      refine lv_iload_n (pc := 732) hx hb dL_law_732 rfl (lv_at hl 3 rfl) ?_
      refine lv_iconst (pc := 733) (v := 2) hx hb dL_law_733 (by decide) ?_
      refine lv_iadd (pc := 734) hx hb dL_law_734 ?_
      refine va_sld (pc := 735) hx hb hX hbl hbA hW.2.2.2.1 hk2 dL_law_735 ?_
      refine lv_aload_n (pc := 736) hx hb dL_law_736 rfl (lv_at hl 0 rfl) ?_
      refine lv_iload_n (pc := 737) hx hb dL_law_737 rfl (lv_at hl 3 rfl) ?_
      refine lv_iconst (pc := 738) (v := 3) hx hb dL_law_738 (by decide) ?_
      refine lv_iadd (pc := 739) hx hb dL_law_739 ?_
      refine va_sld (pc := 740) hx hb hX hbl hbA hW.2.2.2.1 hk3 dL_law_740 ?_
      refine zcMi (As := [.int (xs (Int32.toNatClampNeg (x3 + 1))), .int (xs (Int32.toNatClampNeg (x3 + 2))), .int (xs (Int32.toNatClampNeg (x3 + 3)))]) (pc := 741) zTr_ok trivial C0 hA hKR hW hmapR (kX12_best l D cA2 h2 H.size zN (xs (Int32.toNatClampNeg (x3 + 1))) (xs (Int32.toNatClampNeg (x3 + 2))) (xs (Int32.toNatClampNeg (x3 + 3))) SR r SR1 f2) (cwV 3 hts (zgL inR gaR rfl rfl (List.mem_of_getElem? (i := 1587) (by decide +kernel)) (List.mem_of_getElem? (i := 1588) (by decide +kernel)) (List.mem_of_getElem? (i := 1589) (by decide +kernel)) (List.mem_of_getElem? (i := 108) (by decide +kernel)) mR_258 rfl rfl) rfl rfl rfl (by decide +kernel) ⟨(Nat.le_of_ble_eq_true rfl), (Nat.le_of_ble_eq_true rfl)⟩) (hrR hW) rfl hl.1 rfl (Nat.le_of_ble_eq_true rfl) dL_law_741 hc0 hs0 (fun H locs hW => ?_)
      refine lv_icmp_eq (pc := 744) (tgt := 1592) hx hb dL_law_744 (by decide) (fun c1 => ?_) (fun c1 => absurd rfl c1)
      refine lv_iinc (pc := 1592) (v := (x3 + 6)) (lv' := [(3, .int (x3 + 6)), (0, .ref b), (1, .ref (h 11)), (2, .ref (h2 0))]) hx hb dL_law_1592 hl (k := 3) rfl rfl (by decide) rfl (fun ls hl => ?_)
      refine lv_goto (pc := 1595) (tgt := 18) hx hb dL_law_1595 (by decide) ?_
      exact ih (i + 6) (x3 + 6) (by omega) (by omega) (by rw [ex3]; exact nI_add i 6) SX1 SR1 hRel H locs hW ls (lv_sub hl [1, 2, 3, 0] rfl)
    by_cases c_15 : v = 15
    · refine lv_tableIn (pc := 33) (tgt := 749) (off := 716) hx hb dL_law_33 (by rw [c_15]; decide) (by rw [c_15]; decide) (by rw [c_15]; decide) (by decide) ?_
      refine lv_aload_n (pc := 749) hx hb dL_law_749 rfl (lv_at hl 1 rfl) ?_
      refine lv_aload_n (pc := 750) hx hb dL_law_750 rfl (lv_at hl 0 rfl) ?_
      refine lv_iload_n (pc := 751) hx hb dL_law_751 rfl (lv_at hl 3 rfl) ?_
      refine lv_iconst (pc := 752) (v := 1) hx hb dL_law_752 (by decide) ?_
      refine lv_iadd (pc := 753) hx hb dL_law_753 ?_
      refine va_sld (pc := 754) hx hb hX hbl hbA hW.2.2.2.1 hk1 dL_law_754 ?_
      refine lv_aload_n (pc := 755) hx hb dL_law_755 rfl (lv_at hl 0 rfl) ?_
      refine lv_iload_n (pc := 756) hx hb dL_law_756 rfl (lv_at hl 3 rfl) ?_
      refine lv_iconst (pc := 757) (v := 2) hx hb dL_law_757 (by decide) ?_
      refine lv_iadd (pc := 758) hx hb dL_law_758 ?_
      refine va_sld (pc := 759) hx hb hX hbl hbA hW.2.2.2.1 hk2 dL_law_759 ?_
      refine lv_aload_n (pc := 760) hx hb dL_law_760 rfl (lv_at hl 0 rfl) ?_
      refine lv_iload_n (pc := 761) hx hb dL_law_761 rfl (lv_at hl 3 rfl) ?_
      refine lv_iconst (pc := 762) (v := 3) hx hb dL_law_762 (by decide) ?_
      refine lv_iadd (pc := 763) hx hb dL_law_763 ?_
      refine va_sld (pc := 764) hx hb hX hbl hbA hW.2.2.2.1 hk3 dL_law_764 ?_
      refine lv_aload_n (pc := 765) hx hb dL_law_765 rfl (lv_at hl 0 rfl) ?_
      refine lv_iload_n (pc := 766) hx hb dL_law_766 rfl (lv_at hl 3 rfl) ?_
      refine lv_iconst (pc := 767) (v := 4) hx hb dL_law_767 (by decide) ?_
      refine lv_iadd (pc := 768) hx hb dL_law_768 ?_
      refine va_sld (pc := 769) hx hb hX hbl hbA hW.2.2.2.1 hk4 dL_law_769 ?_
      refine lv_aload_n (pc := 770) hx hb dL_law_770 rfl (lv_at hl 0 rfl) ?_
      refine lv_iload_n (pc := 771) hx hb dL_law_771 rfl (lv_at hl 3 rfl) ?_
      refine lv_iconst (pc := 772) (v := 5) hx hb dL_law_772 (by decide) ?_
      refine lv_iadd (pc := 773) hx hb dL_law_773 ?_
      refine va_sld (pc := 774) hx hb hX hbl hbA hW.2.2.2.1 hk5 dL_law_774 ?_
      obtain ⟨r, SX1, SR1, f1, f2, hRel⟩ := p_gusts hRel (xs (Int32.toNatClampNeg (x3 + 1))) (xs (Int32.toNatClampNeg (x3 + 2))) (xs (Int32.toNatClampNeg (x3 + 3))) (xs (Int32.toNatClampNeg (x3 + 4))) (xs (Int32.toNatClampNeg (x3 + 5)))
      refine zcMi (As := [.int (xs (Int32.toNatClampNeg (x3 + 1))), .int (xs (Int32.toNatClampNeg (x3 + 2))), .int (xs (Int32.toNatClampNeg (x3 + 3))), .int (xs (Int32.toNatClampNeg (x3 + 4))), .int (xs (Int32.toNatClampNeg (x3 + 5)))]) (pc := 775) (zEX_ok tt) hEs C0 hA hKX hW hmapX (kX11_gusts l D cA h tt H.size zN (xs (Int32.toNatClampNeg (x3 + 1))) (xs (Int32.toNatClampNeg (x3 + 2))) (xs (Int32.toNatClampNeg (x3 + 3))) (xs (Int32.toNatClampNeg (x3 + 4))) (xs (Int32.toNatClampNeg (x3 + 5))) SX r SX1 f1) (cwV 5 hts (zgL inX gaX rfl rfl (List.mem_of_getElem? (i := 871) (by decide +kernel)) (List.mem_of_getElem? (i := 872) (by decide +kernel)) (List.mem_of_getElem? (i := 873) (by decide +kernel)) (List.mem_of_getElem? (i := 95) (by decide +kernel)) mX_686 rfl rfl) rfl rfl rfl (by decide +kernel) ⟨(Nat.le_of_ble_eq_true rfl), (Nat.le_of_ble_eq_true rfl)⟩) (hrX hW) rfl hl.1 rfl (Nat.le_of_ble_eq_true rfl) dL_law_775 hc0 hs0 (fun H locs hW => ?_)
      refine lv_aload_n (pc := 778) hx hb dL_law_778 rfl (lv_at hl 2 rfl) ?_
      refine lv_aload_n (pc := 779) hx hb dL_law_779 rfl (lv_at hl 0 rfl) ?_
      refine lv_iload_n (pc := 780) hx hb dL_law_780 rfl (lv_at hl 3 rfl) ?_
      refine lv_iconst (pc := 781) (v := 1) hx hb dL_law_781 (by decide) ?_
      refine lv_iadd (pc := 782) hx hb dL_law_782 ?_
      refine va_sld (pc := 783) hx hb hX hbl hbA hW.2.2.2.1 hk1 dL_law_783 ?_
      refine lv_aload_n (pc := 784) hx hb dL_law_784 rfl (lv_at hl 0 rfl) ?_
      refine lv_iload_n (pc := 785) hx hb dL_law_785 rfl (lv_at hl 3 rfl) ?_
      refine lv_iconst (pc := 786) (v := 2) hx hb dL_law_786 (by decide) ?_
      refine lv_iadd (pc := 787) hx hb dL_law_787 ?_
      refine va_sld (pc := 788) hx hb hX hbl hbA hW.2.2.2.1 hk2 dL_law_788 ?_
      refine lv_aload_n (pc := 789) hx hb dL_law_789 rfl (lv_at hl 0 rfl) ?_
      refine lv_iload_n (pc := 790) hx hb dL_law_790 rfl (lv_at hl 3 rfl) ?_
      refine lv_iconst (pc := 791) (v := 3) hx hb dL_law_791 (by decide) ?_
      refine lv_iadd (pc := 792) hx hb dL_law_792 ?_
      refine va_sld (pc := 793) hx hb hX hbl hbA hW.2.2.2.1 hk3 dL_law_793 ?_
      refine lv_aload_n (pc := 794) hx hb dL_law_794 rfl (lv_at hl 0 rfl) ?_
      refine lv_iload_n (pc := 795) hx hb dL_law_795 rfl (lv_at hl 3 rfl) ?_
      refine lv_iconst (pc := 796) (v := 4) hx hb dL_law_796 (by decide) ?_
      refine lv_iadd (pc := 797) hx hb dL_law_797 ?_
      refine va_sld (pc := 798) hx hb hX hbl hbA hW.2.2.2.1 hk4 dL_law_798 ?_
      refine lv_aload_n (pc := 799) hx hb dL_law_799 rfl (lv_at hl 0 rfl) ?_
      refine lv_iload_n (pc := 800) hx hb dL_law_800 rfl (lv_at hl 3 rfl) ?_
      refine lv_iconst (pc := 801) (v := 5) hx hb dL_law_801 (by decide) ?_
      refine lv_iadd (pc := 802) hx hb dL_law_802 ?_
      refine va_sld (pc := 803) hx hb hX hbl hbA hW.2.2.2.1 hk5 dL_law_803 ?_
      refine zcMi (As := [.int (xs (Int32.toNatClampNeg (x3 + 1))), .int (xs (Int32.toNatClampNeg (x3 + 2))), .int (xs (Int32.toNatClampNeg (x3 + 3))), .int (xs (Int32.toNatClampNeg (x3 + 4))), .int (xs (Int32.toNatClampNeg (x3 + 5)))]) (pc := 804) zTr_ok trivial C0 hA hKR hW hmapR (kX12_gusts l D cA2 h2 H.size zN (xs (Int32.toNatClampNeg (x3 + 1))) (xs (Int32.toNatClampNeg (x3 + 2))) (xs (Int32.toNatClampNeg (x3 + 3))) (xs (Int32.toNatClampNeg (x3 + 4))) (xs (Int32.toNatClampNeg (x3 + 5))) SR r SR1 f2) (cwV 5 hts (zgL inR gaR rfl rfl (List.mem_of_getElem? (i := 1594) (by decide +kernel)) (List.mem_of_getElem? (i := 1595) (by decide +kernel)) (List.mem_of_getElem? (i := 1596) (by decide +kernel)) (List.mem_of_getElem? (i := 108) (by decide +kernel)) mR_261 rfl rfl) rfl rfl rfl (by decide +kernel) ⟨(Nat.le_of_ble_eq_true rfl), (Nat.le_of_ble_eq_true rfl)⟩) (hrR hW) rfl hl.1 rfl (Nat.le_of_ble_eq_true rfl) dL_law_804 hc0 hs0 (fun H locs hW => ?_)
      refine lv_icmp_eq (pc := 807) (tgt := 1592) hx hb dL_law_807 (by decide) (fun c1 => ?_) (fun c1 => absurd rfl c1)
      refine lv_iinc (pc := 1592) (v := (x3 + 6)) (lv' := [(3, .int (x3 + 6)), (0, .ref b), (1, .ref (h 11)), (2, .ref (h2 0))]) hx hb dL_law_1592 hl (k := 3) rfl rfl (by decide) rfl (fun ls hl => ?_)
      refine lv_goto (pc := 1595) (tgt := 18) hx hb dL_law_1595 (by decide) ?_
      exact ih (i + 6) (x3 + 6) (by omega) (by omega) (by rw [ex3]; exact nI_add i 6) SX1 SR1 hRel H locs hW ls (lv_sub hl [1, 2, 3, 0] rfl)
    by_cases c_16 : v = 16
    · refine lv_tableIn (pc := 33) (tgt := 812) (off := 779) hx hb dL_law_33 (by rw [c_16]; decide) (by rw [c_16]; decide) (by rw [c_16]; decide) (by decide) ?_
      refine lv_aload_n (pc := 812) hx hb dL_law_812 rfl (lv_at hl 1 rfl) ?_
      refine lv_aload_n (pc := 813) hx hb dL_law_813 rfl (lv_at hl 0 rfl) ?_
      refine lv_iload_n (pc := 814) hx hb dL_law_814 rfl (lv_at hl 3 rfl) ?_
      refine lv_iconst (pc := 815) (v := 1) hx hb dL_law_815 (by decide) ?_
      refine lv_iadd (pc := 816) hx hb dL_law_816 ?_
      refine va_sld (pc := 817) hx hb hX hbl hbA hW.2.2.2.1 hk1 dL_law_817 ?_
      refine lv_aload_n (pc := 818) hx hb dL_law_818 rfl (lv_at hl 0 rfl) ?_
      refine lv_iload_n (pc := 819) hx hb dL_law_819 rfl (lv_at hl 3 rfl) ?_
      refine lv_iconst (pc := 820) (v := 2) hx hb dL_law_820 (by decide) ?_
      refine lv_iadd (pc := 821) hx hb dL_law_821 ?_
      refine va_sld (pc := 822) hx hb hX hbl hbA hW.2.2.2.1 hk2 dL_law_822 ?_
      obtain ⟨r, SX1, SR1, f1, f2, hRel⟩ := p_await hRel (xs (Int32.toNatClampNeg (x3 + 1))) (xs (Int32.toNatClampNeg (x3 + 2)))
      refine zcMi (As := [.int (xs (Int32.toNatClampNeg (x3 + 1))), .int (xs (Int32.toNatClampNeg (x3 + 2)))]) (pc := 823) (zEX_ok tt) hEs C0 hA hKX hW hmapX (kX11_await l D cA h tt H.size zN (xs (Int32.toNatClampNeg (x3 + 1))) (xs (Int32.toNatClampNeg (x3 + 2))) SX r SX1 f1) (cwV 2 hts (zgL inX gaX rfl rfl (List.mem_of_getElem? (i := 886) (by decide +kernel)) (List.mem_of_getElem? (i := 887) (by decide +kernel)) (List.mem_of_getElem? (i := 888) (by decide +kernel)) (List.mem_of_getElem? (i := 95) (by decide +kernel)) mX_690 rfl rfl) rfl rfl rfl (by decide +kernel) ⟨(Nat.le_of_ble_eq_true rfl), (Nat.le_of_ble_eq_true rfl)⟩) (hrX hW) rfl hl.1 rfl (Nat.le_of_ble_eq_true rfl) dL_law_823 hc0 hs0 (fun H locs hW => ?_)
      refine lv_aload_n (pc := 826) hx hb dL_law_826 rfl (lv_at hl 2 rfl) ?_
      refine lv_aload_n (pc := 827) hx hb dL_law_827 rfl (lv_at hl 0 rfl) ?_
      refine lv_iload_n (pc := 828) hx hb dL_law_828 rfl (lv_at hl 3 rfl) ?_
      refine lv_iconst (pc := 829) (v := 1) hx hb dL_law_829 (by decide) ?_
      refine lv_iadd (pc := 830) hx hb dL_law_830 ?_
      refine va_sld (pc := 831) hx hb hX hbl hbA hW.2.2.2.1 hk1 dL_law_831 ?_
      refine lv_aload_n (pc := 832) hx hb dL_law_832 rfl (lv_at hl 0 rfl) ?_
      refine lv_iload_n (pc := 833) hx hb dL_law_833 rfl (lv_at hl 3 rfl) ?_
      refine lv_iconst (pc := 834) (v := 2) hx hb dL_law_834 (by decide) ?_
      refine lv_iadd (pc := 835) hx hb dL_law_835 ?_
      refine va_sld (pc := 836) hx hb hX hbl hbA hW.2.2.2.1 hk2 dL_law_836 ?_
      refine zcMi (As := [.int (xs (Int32.toNatClampNeg (x3 + 1))), .int (xs (Int32.toNatClampNeg (x3 + 2)))]) (pc := 837) zTr_ok trivial C0 hA hKR hW hmapR (kX12_await l D cA2 h2 H.size zN (xs (Int32.toNatClampNeg (x3 + 1))) (xs (Int32.toNatClampNeg (x3 + 2))) SR r SR1 f2) (cwV 2 hts (zgL inR gaR rfl rfl (List.mem_of_getElem? (i := 1599) (by decide +kernel)) (List.mem_of_getElem? (i := 1600) (by decide +kernel)) (List.mem_of_getElem? (i := 1601) (by decide +kernel)) (List.mem_of_getElem? (i := 108) (by decide +kernel)) mR_263 rfl rfl) rfl rfl rfl (by decide +kernel) ⟨(Nat.le_of_ble_eq_true rfl), (Nat.le_of_ble_eq_true rfl)⟩) (hrR hW) rfl hl.1 rfl (Nat.le_of_ble_eq_true rfl) dL_law_837 hc0 hs0 (fun H locs hW => ?_)
      refine lv_icmp_eq (pc := 840) (tgt := 1592) hx hb dL_law_840 (by decide) (fun c1 => ?_) (fun c1 => absurd rfl c1)
      refine lv_iinc (pc := 1592) (v := (x3 + 6)) (lv' := [(3, .int (x3 + 6)), (0, .ref b), (1, .ref (h 11)), (2, .ref (h2 0))]) hx hb dL_law_1592 hl (k := 3) rfl rfl (by decide) rfl (fun ls hl => ?_)
      refine lv_goto (pc := 1595) (tgt := 18) hx hb dL_law_1595 (by decide) ?_
      exact ih (i + 6) (x3 + 6) (by omega) (by omega) (by rw [ex3]; exact nI_add i 6) SX1 SR1 hRel H locs hW ls (lv_sub hl [1, 2, 3, 0] rfl)
    by_cases c_17 : v = 17
    · refine lv_tableIn (pc := 33) (tgt := 845) (off := 812) hx hb dL_law_33 (by rw [c_17]; decide) (by rw [c_17]; decide) (by rw [c_17]; decide) (by decide) ?_
      refine lv_aload_n (pc := 845) hx hb dL_law_845 rfl (lv_at hl 1 rfl) ?_
      refine lv_aload_n (pc := 846) hx hb dL_law_846 rfl (lv_at hl 0 rfl) ?_
      refine lv_iload_n (pc := 847) hx hb dL_law_847 rfl (lv_at hl 3 rfl) ?_
      refine lv_iconst (pc := 848) (v := 1) hx hb dL_law_848 (by decide) ?_
      refine lv_iadd (pc := 849) hx hb dL_law_849 ?_
      refine va_sld (pc := 850) hx hb hX hbl hbA hW.2.2.2.1 hk1 dL_law_850 ?_
      obtain ⟨r, SX1, SR1, f1, f2, hRel⟩ := p_mustNot hRel (xs (Int32.toNatClampNeg (x3 + 1)))
      refine zcMi (As := [.int (xs (Int32.toNatClampNeg (x3 + 1)))]) (pc := 851) (zEX_ok tt) hEs C0 hA hKX hW hmapX (kX11_mustNot l D cA h tt H.size zN (xs (Int32.toNatClampNeg (x3 + 1))) SX r SX1 f1) (cwV 1 hts (zgL inX gaX rfl rfl (List.mem_of_getElem? (i := 895) (by decide +kernel)) (List.mem_of_getElem? (i := 896) (by decide +kernel)) (List.mem_of_getElem? (i := 897) (by decide +kernel)) (List.mem_of_getElem? (i := 95) (by decide +kernel)) mX_694 rfl rfl) rfl rfl rfl (by decide +kernel) ⟨(Nat.le_of_ble_eq_true rfl), (Nat.le_of_ble_eq_true rfl)⟩) (hrX hW) rfl hl.1 rfl (Nat.le_of_ble_eq_true rfl) dL_law_851 hc0 hs0 (fun H locs hW => ?_)
      refine lv_aload_n (pc := 854) hx hb dL_law_854 rfl (lv_at hl 2 rfl) ?_
      refine lv_aload_n (pc := 855) hx hb dL_law_855 rfl (lv_at hl 0 rfl) ?_
      refine lv_iload_n (pc := 856) hx hb dL_law_856 rfl (lv_at hl 3 rfl) ?_
      refine lv_iconst (pc := 857) (v := 1) hx hb dL_law_857 (by decide) ?_
      refine lv_iadd (pc := 858) hx hb dL_law_858 ?_
      refine va_sld (pc := 859) hx hb hX hbl hbA hW.2.2.2.1 hk1 dL_law_859 ?_
      refine zcMi (As := [.int (xs (Int32.toNatClampNeg (x3 + 1)))]) (pc := 860) zTr_ok trivial C0 hA hKR hW hmapR (kX12_mustNot l D cA2 h2 H.size zN (xs (Int32.toNatClampNeg (x3 + 1))) SR r SR1 f2) (cwV 1 hts (zgL inR gaR rfl rfl (List.mem_of_getElem? (i := 1603) (by decide +kernel)) (List.mem_of_getElem? (i := 1604) (by decide +kernel)) (List.mem_of_getElem? (i := 1605) (by decide +kernel)) (List.mem_of_getElem? (i := 108) (by decide +kernel)) mR_264 rfl rfl) rfl rfl rfl (by decide +kernel) ⟨(Nat.le_of_ble_eq_true rfl), (Nat.le_of_ble_eq_true rfl)⟩) (hrR hW) rfl hl.1 rfl (Nat.le_of_ble_eq_true rfl) dL_law_860 hc0 hs0 (fun H locs hW => ?_)
      refine lv_icmp_eq (pc := 863) (tgt := 1592) hx hb dL_law_863 (by decide) (fun c1 => ?_) (fun c1 => absurd rfl c1)
      refine lv_iinc (pc := 1592) (v := (x3 + 6)) (lv' := [(3, .int (x3 + 6)), (0, .ref b), (1, .ref (h 11)), (2, .ref (h2 0))]) hx hb dL_law_1592 hl (k := 3) rfl rfl (by decide) rfl (fun ls hl => ?_)
      refine lv_goto (pc := 1595) (tgt := 18) hx hb dL_law_1595 (by decide) ?_
      exact ih (i + 6) (x3 + 6) (by omega) (by omega) (by rw [ex3]; exact nI_add i 6) SX1 SR1 hRel H locs hW ls (lv_sub hl [1, 2, 3, 0] rfl)
    by_cases c_18 : v = 18
    · refine lv_tableIn (pc := 33) (tgt := 868) (off := 835) hx hb dL_law_33 (by rw [c_18]; decide) (by rw [c_18]; decide) (by rw [c_18]; decide) (by decide) ?_
      refine lv_aload_n (pc := 868) hx hb dL_law_868 rfl (lv_at hl 1 rfl) ?_
      refine lv_aload_n (pc := 869) hx hb dL_law_869 rfl (lv_at hl 0 rfl) ?_
      refine lv_iload_n (pc := 870) hx hb dL_law_870 rfl (lv_at hl 3 rfl) ?_
      refine lv_iconst (pc := 871) (v := 1) hx hb dL_law_871 (by decide) ?_
      refine lv_iadd (pc := 872) hx hb dL_law_872 ?_
      refine va_sld (pc := 873) hx hb hX hbl hbA hW.2.2.2.1 hk1 dL_law_873 ?_
      refine lv_aload_n (pc := 874) hx hb dL_law_874 rfl (lv_at hl 0 rfl) ?_
      refine lv_iload_n (pc := 875) hx hb dL_law_875 rfl (lv_at hl 3 rfl) ?_
      refine lv_iconst (pc := 876) (v := 2) hx hb dL_law_876 (by decide) ?_
      refine lv_iadd (pc := 877) hx hb dL_law_877 ?_
      refine va_sld (pc := 878) hx hb hX hbl hbA hW.2.2.2.1 hk2 dL_law_878 ?_
      refine lv_aload_n (pc := 879) hx hb dL_law_879 rfl (lv_at hl 0 rfl) ?_
      refine lv_iload_n (pc := 880) hx hb dL_law_880 rfl (lv_at hl 3 rfl) ?_
      refine lv_iconst (pc := 881) (v := 3) hx hb dL_law_881 (by decide) ?_
      refine lv_iadd (pc := 882) hx hb dL_law_882 ?_
      refine va_sld (pc := 883) hx hb hX hbl hbA hW.2.2.2.1 hk3 dL_law_883 ?_
      refine lv_aload_n (pc := 884) hx hb dL_law_884 rfl (lv_at hl 0 rfl) ?_
      refine lv_iload_n (pc := 885) hx hb dL_law_885 rfl (lv_at hl 3 rfl) ?_
      refine lv_iconst (pc := 886) (v := 4) hx hb dL_law_886 (by decide) ?_
      refine lv_iadd (pc := 887) hx hb dL_law_887 ?_
      refine va_sld (pc := 888) hx hb hX hbl hbA hW.2.2.2.1 hk4 dL_law_888 ?_
      obtain ⟨r, SX1, SR1, f1, f2, hRel⟩ := p_midst hRel (xs (Int32.toNatClampNeg (x3 + 1))) (xs (Int32.toNatClampNeg (x3 + 2))) (xs (Int32.toNatClampNeg (x3 + 3))) (xs (Int32.toNatClampNeg (x3 + 4)))
      refine zcMi (As := [.int (xs (Int32.toNatClampNeg (x3 + 1))), .int (xs (Int32.toNatClampNeg (x3 + 2))), .int (xs (Int32.toNatClampNeg (x3 + 3))), .int (xs (Int32.toNatClampNeg (x3 + 4)))]) (pc := 889) (zEX_ok tt) hEs C0 hA hKX hW hmapX (kX11_midst l D cA h tt H.size zN (xs (Int32.toNatClampNeg (x3 + 1))) (xs (Int32.toNatClampNeg (x3 + 2))) (xs (Int32.toNatClampNeg (x3 + 3))) (xs (Int32.toNatClampNeg (x3 + 4))) SX r SX1 f1) (cwV 4 hts (zgL inX gaX rfl rfl (List.mem_of_getElem? (i := 911) (by decide +kernel)) (List.mem_of_getElem? (i := 912) (by decide +kernel)) (List.mem_of_getElem? (i := 913) (by decide +kernel)) (List.mem_of_getElem? (i := 95) (by decide +kernel)) mX_698 rfl rfl) rfl rfl rfl (by decide +kernel) ⟨(Nat.le_of_ble_eq_true rfl), (Nat.le_of_ble_eq_true rfl)⟩) (hrX hW) rfl hl.1 rfl (Nat.le_of_ble_eq_true rfl) dL_law_889 hc0 hs0 (fun H locs hW => ?_)
      refine lv_aload_n (pc := 892) hx hb dL_law_892 rfl (lv_at hl 2 rfl) ?_
      refine lv_aload_n (pc := 893) hx hb dL_law_893 rfl (lv_at hl 0 rfl) ?_
      refine lv_iload_n (pc := 894) hx hb dL_law_894 rfl (lv_at hl 3 rfl) ?_
      refine lv_iconst (pc := 895) (v := 1) hx hb dL_law_895 (by decide) ?_
      refine lv_iadd (pc := 896) hx hb dL_law_896 ?_
      refine va_sld (pc := 897) hx hb hX hbl hbA hW.2.2.2.1 hk1 dL_law_897 ?_
      refine lv_aload_n (pc := 898) hx hb dL_law_898 rfl (lv_at hl 0 rfl) ?_
      refine lv_iload_n (pc := 899) hx hb dL_law_899 rfl (lv_at hl 3 rfl) ?_
      refine lv_iconst (pc := 900) (v := 2) hx hb dL_law_900 (by decide) ?_
      refine lv_iadd (pc := 901) hx hb dL_law_901 ?_
      refine va_sld (pc := 902) hx hb hX hbl hbA hW.2.2.2.1 hk2 dL_law_902 ?_
      refine lv_aload_n (pc := 903) hx hb dL_law_903 rfl (lv_at hl 0 rfl) ?_
      refine lv_iload_n (pc := 904) hx hb dL_law_904 rfl (lv_at hl 3 rfl) ?_
      refine lv_iconst (pc := 905) (v := 3) hx hb dL_law_905 (by decide) ?_
      refine lv_iadd (pc := 906) hx hb dL_law_906 ?_
      refine va_sld (pc := 907) hx hb hX hbl hbA hW.2.2.2.1 hk3 dL_law_907 ?_
      refine lv_aload_n (pc := 908) hx hb dL_law_908 rfl (lv_at hl 0 rfl) ?_
      refine lv_iload_n (pc := 909) hx hb dL_law_909 rfl (lv_at hl 3 rfl) ?_
      refine lv_iconst (pc := 910) (v := 4) hx hb dL_law_910 (by decide) ?_
      refine lv_iadd (pc := 911) hx hb dL_law_911 ?_
      refine va_sld (pc := 912) hx hb hX hbl hbA hW.2.2.2.1 hk4 dL_law_912 ?_
      refine zcMi (As := [.int (xs (Int32.toNatClampNeg (x3 + 1))), .int (xs (Int32.toNatClampNeg (x3 + 2))), .int (xs (Int32.toNatClampNeg (x3 + 3))), .int (xs (Int32.toNatClampNeg (x3 + 4)))]) (pc := 913) zTr_ok trivial C0 hA hKR hW hmapR (kX12_midst l D cA2 h2 H.size zN (xs (Int32.toNatClampNeg (x3 + 1))) (xs (Int32.toNatClampNeg (x3 + 2))) (xs (Int32.toNatClampNeg (x3 + 3))) (xs (Int32.toNatClampNeg (x3 + 4))) SR r SR1 f2) (cwV 4 hts (zgL inR gaR rfl rfl (List.mem_of_getElem? (i := 1607) (by decide +kernel)) (List.mem_of_getElem? (i := 1608) (by decide +kernel)) (List.mem_of_getElem? (i := 1609) (by decide +kernel)) (List.mem_of_getElem? (i := 108) (by decide +kernel)) mR_266 rfl rfl) rfl rfl rfl (by decide +kernel) ⟨(Nat.le_of_ble_eq_true rfl), (Nat.le_of_ble_eq_true rfl)⟩) (hrR hW) rfl hl.1 rfl (Nat.le_of_ble_eq_true rfl) dL_law_913 hc0 hs0 (fun H locs hW => ?_)
      refine lv_icmp_eq (pc := 916) (tgt := 1592) hx hb dL_law_916 (by decide) (fun c1 => ?_) (fun c1 => absurd rfl c1)
      refine lv_iinc (pc := 1592) (v := (x3 + 6)) (lv' := [(3, .int (x3 + 6)), (0, .ref b), (1, .ref (h 11)), (2, .ref (h2 0))]) hx hb dL_law_1592 hl (k := 3) rfl rfl (by decide) rfl (fun ls hl => ?_)
      refine lv_goto (pc := 1595) (tgt := 18) hx hb dL_law_1595 (by decide) ?_
      exact ih (i + 6) (x3 + 6) (by omega) (by omega) (by rw [ex3]; exact nI_add i 6) SX1 SR1 hRel H locs hW ls (lv_sub hl [1, 2, 3, 0] rfl)
    by_cases c_19 : v = 19
    · refine lv_tableIn (pc := 33) (tgt := 921) (off := 888) hx hb dL_law_33 (by rw [c_19]; decide) (by rw [c_19]; decide) (by rw [c_19]; decide) (by decide) ?_
      refine lv_aload_n (pc := 921) hx hb dL_law_921 rfl (lv_at hl 1 rfl) ?_
      refine lv_aload_n (pc := 922) hx hb dL_law_922 rfl (lv_at hl 0 rfl) ?_
      refine lv_iload_n (pc := 923) hx hb dL_law_923 rfl (lv_at hl 3 rfl) ?_
      refine lv_iconst (pc := 924) (v := 1) hx hb dL_law_924 (by decide) ?_
      refine lv_iadd (pc := 925) hx hb dL_law_925 ?_
      refine va_sld (pc := 926) hx hb hX hbl hbA hW.2.2.2.1 hk1 dL_law_926 ?_
      refine lv_aload_n (pc := 927) hx hb dL_law_927 rfl (lv_at hl 0 rfl) ?_
      refine lv_iload_n (pc := 928) hx hb dL_law_928 rfl (lv_at hl 3 rfl) ?_
      refine lv_iconst (pc := 929) (v := 2) hx hb dL_law_929 (by decide) ?_
      refine lv_iadd (pc := 930) hx hb dL_law_930 ?_
      refine va_sld (pc := 931) hx hb hX hbl hbA hW.2.2.2.1 hk2 dL_law_931 ?_
      obtain ⟨r, SX1, SR1, f1, f2, hRel⟩ := p_line hRel (xs (Int32.toNatClampNeg (x3 + 1))) (xs (Int32.toNatClampNeg (x3 + 2)))
      refine zcMi (As := [.int (xs (Int32.toNatClampNeg (x3 + 1))), .int (xs (Int32.toNatClampNeg (x3 + 2)))]) (pc := 932) (zEX_ok tt) hEs C0 hA hKX hW hmapX (kX11_line l D cA h tt H.size zN (xs (Int32.toNatClampNeg (x3 + 1))) (xs (Int32.toNatClampNeg (x3 + 2))) SX r SX1 f1) (cwV 2 hts (zgL inX gaX rfl rfl (List.mem_of_getElem? (i := 926) (by decide +kernel)) (List.mem_of_getElem? (i := 927) (by decide +kernel)) (List.mem_of_getElem? (i := 928) (by decide +kernel)) (List.mem_of_getElem? (i := 95) (by decide +kernel)) mX_705 rfl rfl) rfl rfl rfl (by decide +kernel) ⟨(Nat.le_of_ble_eq_true rfl), (Nat.le_of_ble_eq_true rfl)⟩) (hrX hW) rfl hl.1 rfl (Nat.le_of_ble_eq_true rfl) dL_law_932 hc0 hs0 (fun H locs hW => ?_)
      refine lv_aload_n (pc := 935) hx hb dL_law_935 rfl (lv_at hl 2 rfl) ?_
      refine lv_aload_n (pc := 936) hx hb dL_law_936 rfl (lv_at hl 0 rfl) ?_
      refine lv_iload_n (pc := 937) hx hb dL_law_937 rfl (lv_at hl 3 rfl) ?_
      refine lv_iconst (pc := 938) (v := 1) hx hb dL_law_938 (by decide) ?_
      refine lv_iadd (pc := 939) hx hb dL_law_939 ?_
      refine va_sld (pc := 940) hx hb hX hbl hbA hW.2.2.2.1 hk1 dL_law_940 ?_
      refine lv_aload_n (pc := 941) hx hb dL_law_941 rfl (lv_at hl 0 rfl) ?_
      refine lv_iload_n (pc := 942) hx hb dL_law_942 rfl (lv_at hl 3 rfl) ?_
      refine lv_iconst (pc := 943) (v := 2) hx hb dL_law_943 (by decide) ?_
      refine lv_iadd (pc := 944) hx hb dL_law_944 ?_
      refine va_sld (pc := 945) hx hb hX hbl hbA hW.2.2.2.1 hk2 dL_law_945 ?_
      refine zcMi (As := [.int (xs (Int32.toNatClampNeg (x3 + 1))), .int (xs (Int32.toNatClampNeg (x3 + 2)))]) (pc := 946) zTr_ok trivial C0 hA hKR hW hmapR (kX12_line l D cA2 h2 H.size zN (xs (Int32.toNatClampNeg (x3 + 1))) (xs (Int32.toNatClampNeg (x3 + 2))) SR r SR1 f2) (cwV 2 hts (zgL inR gaR rfl rfl (List.mem_of_getElem? (i := 1614) (by decide +kernel)) (List.mem_of_getElem? (i := 1615) (by decide +kernel)) (List.mem_of_getElem? (i := 1616) (by decide +kernel)) (List.mem_of_getElem? (i := 108) (by decide +kernel)) mR_270 rfl rfl) rfl rfl rfl (by decide +kernel) ⟨(Nat.le_of_ble_eq_true rfl), (Nat.le_of_ble_eq_true rfl)⟩) (hrR hW) rfl hl.1 rfl (Nat.le_of_ble_eq_true rfl) dL_law_946 hc0 hs0 (fun H locs hW => ?_)
      refine lv_icmp_eq (pc := 949) (tgt := 1592) hx hb dL_law_949 (by decide) (fun c1 => ?_) (fun c1 => absurd rfl c1)
      refine lv_iinc (pc := 1592) (v := (x3 + 6)) (lv' := [(3, .int (x3 + 6)), (0, .ref b), (1, .ref (h 11)), (2, .ref (h2 0))]) hx hb dL_law_1592 hl (k := 3) rfl rfl (by decide) rfl (fun ls hl => ?_)
      refine lv_goto (pc := 1595) (tgt := 18) hx hb dL_law_1595 (by decide) ?_
      exact ih (i + 6) (x3 + 6) (by omega) (by omega) (by rw [ex3]; exact nI_add i 6) SX1 SR1 hRel H locs hW ls (lv_sub hl [1, 2, 3, 0] rfl)
    by_cases c_20 : v = 20
    · refine lv_tableIn (pc := 33) (tgt := 954) (off := 921) hx hb dL_law_33 (by rw [c_20]; decide) (by rw [c_20]; decide) (by rw [c_20]; decide) (by decide) ?_
      refine lv_aload_n (pc := 954) hx hb dL_law_954 rfl (lv_at hl 1 rfl) ?_
      refine lv_aload_n (pc := 955) hx hb dL_law_955 rfl (lv_at hl 0 rfl) ?_
      refine lv_iload_n (pc := 956) hx hb dL_law_956 rfl (lv_at hl 3 rfl) ?_
      refine lv_iconst (pc := 957) (v := 1) hx hb dL_law_957 (by decide) ?_
      refine lv_iadd (pc := 958) hx hb dL_law_958 ?_
      refine va_sld (pc := 959) hx hb hX hbl hbA hW.2.2.2.1 hk1 dL_law_959 ?_
      refine lv_aload_n (pc := 960) hx hb dL_law_960 rfl (lv_at hl 0 rfl) ?_
      refine lv_iload_n (pc := 961) hx hb dL_law_961 rfl (lv_at hl 3 rfl) ?_
      refine lv_iconst (pc := 962) (v := 2) hx hb dL_law_962 (by decide) ?_
      refine lv_iadd (pc := 963) hx hb dL_law_963 ?_
      refine va_sld (pc := 964) hx hb hX hbl hbA hW.2.2.2.1 hk2 dL_law_964 ?_
      obtain ⟨r, SX1, SR1, f1, f2, hRel⟩ := p_wall hRel (xs (Int32.toNatClampNeg (x3 + 1))) (xs (Int32.toNatClampNeg (x3 + 2)))
      refine zcMi (As := [.int (xs (Int32.toNatClampNeg (x3 + 1))), .int (xs (Int32.toNatClampNeg (x3 + 2)))]) (pc := 965) (zEX_ok tt) hEs C0 hA hKX hW hmapX (kX11_wall l D cA h tt H.size zN (xs (Int32.toNatClampNeg (x3 + 1))) (xs (Int32.toNatClampNeg (x3 + 2))) SX r SX1 f1) (cwV 2 hts (zgL inX gaX rfl rfl (List.mem_of_getElem? (i := 934) (by decide +kernel)) (List.mem_of_getElem? (i := 935) (by decide +kernel)) (List.mem_of_getElem? (i := 936) (by decide +kernel)) (List.mem_of_getElem? (i := 95) (by decide +kernel)) mX_707 rfl rfl) rfl rfl rfl (by decide +kernel) ⟨(Nat.le_of_ble_eq_true rfl), (Nat.le_of_ble_eq_true rfl)⟩) (hrX hW) rfl hl.1 rfl (Nat.le_of_ble_eq_true rfl) dL_law_965 hc0 hs0 (fun H locs hW => ?_)
      refine lv_aload_n (pc := 968) hx hb dL_law_968 rfl (lv_at hl 2 rfl) ?_
      refine lv_aload_n (pc := 969) hx hb dL_law_969 rfl (lv_at hl 0 rfl) ?_
      refine lv_iload_n (pc := 970) hx hb dL_law_970 rfl (lv_at hl 3 rfl) ?_
      refine lv_iconst (pc := 971) (v := 1) hx hb dL_law_971 (by decide) ?_
      refine lv_iadd (pc := 972) hx hb dL_law_972 ?_
      refine va_sld (pc := 973) hx hb hX hbl hbA hW.2.2.2.1 hk1 dL_law_973 ?_
      refine lv_aload_n (pc := 974) hx hb dL_law_974 rfl (lv_at hl 0 rfl) ?_
      refine lv_iload_n (pc := 975) hx hb dL_law_975 rfl (lv_at hl 3 rfl) ?_
      refine lv_iconst (pc := 976) (v := 2) hx hb dL_law_976 (by decide) ?_
      refine lv_iadd (pc := 977) hx hb dL_law_977 ?_
      refine va_sld (pc := 978) hx hb hX hbl hbA hW.2.2.2.1 hk2 dL_law_978 ?_
      refine zcMi (As := [.int (xs (Int32.toNatClampNeg (x3 + 1))), .int (xs (Int32.toNatClampNeg (x3 + 2)))]) (pc := 979) zTr_ok trivial C0 hA hKR hW hmapR (kX12_wall l D cA2 h2 H.size zN (xs (Int32.toNatClampNeg (x3 + 1))) (xs (Int32.toNatClampNeg (x3 + 2))) SR r SR1 f2) (cwV 2 hts (zgL inR gaR rfl rfl (List.mem_of_getElem? (i := 1622) (by decide +kernel)) (List.mem_of_getElem? (i := 1623) (by decide +kernel)) (List.mem_of_getElem? (i := 1624) (by decide +kernel)) (List.mem_of_getElem? (i := 108) (by decide +kernel)) mR_274 rfl rfl) rfl rfl rfl (by decide +kernel) ⟨(Nat.le_of_ble_eq_true rfl), (Nat.le_of_ble_eq_true rfl)⟩) (hrR hW) rfl hl.1 rfl (Nat.le_of_ble_eq_true rfl) dL_law_979 hc0 hs0 (fun H locs hW => ?_)
      refine lv_icmp_eq (pc := 982) (tgt := 1592) hx hb dL_law_982 (by decide) (fun c1 => ?_) (fun c1 => absurd rfl c1)
      refine lv_iinc (pc := 1592) (v := (x3 + 6)) (lv' := [(3, .int (x3 + 6)), (0, .ref b), (1, .ref (h 11)), (2, .ref (h2 0))]) hx hb dL_law_1592 hl (k := 3) rfl rfl (by decide) rfl (fun ls hl => ?_)
      refine lv_goto (pc := 1595) (tgt := 18) hx hb dL_law_1595 (by decide) ?_
      exact ih (i + 6) (x3 + 6) (by omega) (by omega) (by rw [ex3]; exact nI_add i 6) SX1 SR1 hRel H locs hW ls (lv_sub hl [1, 2, 3, 0] rfl)
    by_cases c_21 : v = 21
    · refine lv_tableIn (pc := 33) (tgt := 987) (off := 954) hx hb dL_law_33 (by rw [c_21]; decide) (by rw [c_21]; decide) (by rw [c_21]; decide) (by decide) ?_
      refine lv_aload_n (pc := 987) hx hb dL_law_987 rfl (lv_at hl 1 rfl) ?_
      refine lv_aload_n (pc := 988) hx hb dL_law_988 rfl (lv_at hl 0 rfl) ?_
      refine lv_iload_n (pc := 989) hx hb dL_law_989 rfl (lv_at hl 3 rfl) ?_
      refine lv_iconst (pc := 990) (v := 1) hx hb dL_law_990 (by decide) ?_
      refine lv_iadd (pc := 991) hx hb dL_law_991 ?_
      refine va_sld (pc := 992) hx hb hX hbl hbA hW.2.2.2.1 hk1 dL_law_992 ?_
      refine lv_aload_n (pc := 993) hx hb dL_law_993 rfl (lv_at hl 0 rfl) ?_
      refine lv_iload_n (pc := 994) hx hb dL_law_994 rfl (lv_at hl 3 rfl) ?_
      refine lv_iconst (pc := 995) (v := 2) hx hb dL_law_995 (by decide) ?_
      refine lv_iadd (pc := 996) hx hb dL_law_996 ?_
      refine va_sld (pc := 997) hx hb hX hbl hbA hW.2.2.2.1 hk2 dL_law_997 ?_
      refine lv_aload_n (pc := 998) hx hb dL_law_998 rfl (lv_at hl 0 rfl) ?_
      refine lv_iload_n (pc := 999) hx hb dL_law_999 rfl (lv_at hl 3 rfl) ?_
      refine lv_iconst (pc := 1000) (v := 3) hx hb dL_law_1000 (by decide) ?_
      refine lv_iadd (pc := 1001) hx hb dL_law_1001 ?_
      refine va_sld (pc := 1002) hx hb hX hbl hbA hW.2.2.2.1 hk3 dL_law_1002 ?_
      obtain ⟨r, SX1, SR1, f1, f2, hRel⟩ := p_roped hRel (xs (Int32.toNatClampNeg (x3 + 1))) (xs (Int32.toNatClampNeg (x3 + 2))) (xs (Int32.toNatClampNeg (x3 + 3)))
      refine zcMi (As := [.int (xs (Int32.toNatClampNeg (x3 + 1))), .int (xs (Int32.toNatClampNeg (x3 + 2))), .int (xs (Int32.toNatClampNeg (x3 + 3)))]) (pc := 1003) (zEX_ok tt) hEs C0 hA hKX hW hmapX (kX11_roped l D cA h tt H.size zN (xs (Int32.toNatClampNeg (x3 + 1))) (xs (Int32.toNatClampNeg (x3 + 2))) (xs (Int32.toNatClampNeg (x3 + 3))) SX r SX1 f1) (cwV 3 hts (zgL inX gaX rfl rfl (List.mem_of_getElem? (i := 943) (by decide +kernel)) (List.mem_of_getElem? (i := 944) (by decide +kernel)) (List.mem_of_getElem? (i := 945) (by decide +kernel)) (List.mem_of_getElem? (i := 95) (by decide +kernel)) mX_711 rfl rfl) rfl rfl rfl (by decide +kernel) ⟨(Nat.le_of_ble_eq_true rfl), (Nat.le_of_ble_eq_true rfl)⟩) (hrX hW) rfl hl.1 rfl (Nat.le_of_ble_eq_true rfl) dL_law_1003 hc0 hs0 (fun H locs hW => ?_)
      refine lv_aload_n (pc := 1006) hx hb dL_law_1006 rfl (lv_at hl 2 rfl) ?_
      refine lv_aload_n (pc := 1007) hx hb dL_law_1007 rfl (lv_at hl 0 rfl) ?_
      refine lv_iload_n (pc := 1008) hx hb dL_law_1008 rfl (lv_at hl 3 rfl) ?_
      refine lv_iconst (pc := 1009) (v := 1) hx hb dL_law_1009 (by decide) ?_
      refine lv_iadd (pc := 1010) hx hb dL_law_1010 ?_
      refine va_sld (pc := 1011) hx hb hX hbl hbA hW.2.2.2.1 hk1 dL_law_1011 ?_
      refine lv_aload_n (pc := 1012) hx hb dL_law_1012 rfl (lv_at hl 0 rfl) ?_
      refine lv_iload_n (pc := 1013) hx hb dL_law_1013 rfl (lv_at hl 3 rfl) ?_
      refine lv_iconst (pc := 1014) (v := 2) hx hb dL_law_1014 (by decide) ?_
      refine lv_iadd (pc := 1015) hx hb dL_law_1015 ?_
      refine va_sld (pc := 1016) hx hb hX hbl hbA hW.2.2.2.1 hk2 dL_law_1016 ?_
      refine lv_aload_n (pc := 1017) hx hb dL_law_1017 rfl (lv_at hl 0 rfl) ?_
      refine lv_iload_n (pc := 1018) hx hb dL_law_1018 rfl (lv_at hl 3 rfl) ?_
      refine lv_iconst (pc := 1019) (v := 3) hx hb dL_law_1019 (by decide) ?_
      refine lv_iadd (pc := 1020) hx hb dL_law_1020 ?_
      refine va_sld (pc := 1021) hx hb hX hbl hbA hW.2.2.2.1 hk3 dL_law_1021 ?_
      refine zcMi (As := [.int (xs (Int32.toNatClampNeg (x3 + 1))), .int (xs (Int32.toNatClampNeg (x3 + 2))), .int (xs (Int32.toNatClampNeg (x3 + 3)))]) (pc := 1022) zTr_ok trivial C0 hA hKR hW hmapR (kX12_roped l D cA2 h2 H.size zN (xs (Int32.toNatClampNeg (x3 + 1))) (xs (Int32.toNatClampNeg (x3 + 2))) (xs (Int32.toNatClampNeg (x3 + 3))) SR r SR1 f2) (cwV 3 hts (zgL inR gaR rfl rfl (List.mem_of_getElem? (i := 1626) (by decide +kernel)) (List.mem_of_getElem? (i := 1627) (by decide +kernel)) (List.mem_of_getElem? (i := 1628) (by decide +kernel)) (List.mem_of_getElem? (i := 108) (by decide +kernel)) mR_275 rfl rfl) rfl rfl rfl (by decide +kernel) ⟨(Nat.le_of_ble_eq_true rfl), (Nat.le_of_ble_eq_true rfl)⟩) (hrR hW) rfl hl.1 rfl (Nat.le_of_ble_eq_true rfl) dL_law_1022 hc0 hs0 (fun H locs hW => ?_)
      refine lv_icmp_eq (pc := 1025) (tgt := 1592) hx hb dL_law_1025 (by decide) (fun c1 => ?_) (fun c1 => absurd rfl c1)
      refine lv_iinc (pc := 1592) (v := (x3 + 6)) (lv' := [(3, .int (x3 + 6)), (0, .ref b), (1, .ref (h 11)), (2, .ref (h2 0))]) hx hb dL_law_1592 hl (k := 3) rfl rfl (by decide) rfl (fun ls hl => ?_)
      refine lv_goto (pc := 1595) (tgt := 18) hx hb dL_law_1595 (by decide) ?_
      exact ih (i + 6) (x3 + 6) (by omega) (by omega) (by rw [ex3]; exact nI_add i 6) SX1 SR1 hRel H locs hW ls (lv_sub hl [1, 2, 3, 0] rfl)
    by_cases c_22 : v = 22
    · refine lv_tableIn (pc := 33) (tgt := 1030) (off := 997) hx hb dL_law_33 (by rw [c_22]; decide) (by rw [c_22]; decide) (by rw [c_22]; decide) (by decide) ?_
      refine lv_aload_n (pc := 1030) hx hb dL_law_1030 rfl (lv_at hl 1 rfl) ?_
      refine lv_aload_n (pc := 1031) hx hb dL_law_1031 rfl (lv_at hl 0 rfl) ?_
      refine lv_iload_n (pc := 1032) hx hb dL_law_1032 rfl (lv_at hl 3 rfl) ?_
      refine lv_iconst (pc := 1033) (v := 1) hx hb dL_law_1033 (by decide) ?_
      refine lv_iadd (pc := 1034) hx hb dL_law_1034 ?_
      refine va_sld (pc := 1035) hx hb hX hbl hbA hW.2.2.2.1 hk1 dL_law_1035 ?_
      refine lv_aload_n (pc := 1036) hx hb dL_law_1036 rfl (lv_at hl 0 rfl) ?_
      refine lv_iload_n (pc := 1037) hx hb dL_law_1037 rfl (lv_at hl 3 rfl) ?_
      refine lv_iconst (pc := 1038) (v := 2) hx hb dL_law_1038 (by decide) ?_
      refine lv_iadd (pc := 1039) hx hb dL_law_1039 ?_
      refine va_sld (pc := 1040) hx hb hX hbl hbA hW.2.2.2.1 hk2 dL_law_1040 ?_
      obtain ⟨r, SX1, SR1, f1, f2, hRel⟩ := p_stick hRel (xs (Int32.toNatClampNeg (x3 + 1))) (xs (Int32.toNatClampNeg (x3 + 2)))
      refine zcMi (As := [.int (xs (Int32.toNatClampNeg (x3 + 1))), .int (xs (Int32.toNatClampNeg (x3 + 2)))]) (pc := 1041) (zEX_ok tt) hEs C0 hA hKX hW hmapX (kX11_stick l D cA h tt H.size zN (xs (Int32.toNatClampNeg (x3 + 1))) (xs (Int32.toNatClampNeg (x3 + 2))) SX r SX1 f1) (cwV 2 hts (zgL inX gaX rfl rfl (List.mem_of_getElem? (i := 955) (by decide +kernel)) (List.mem_of_getElem? (i := 956) (by decide +kernel)) (List.mem_of_getElem? (i := 957) (by decide +kernel)) (List.mem_of_getElem? (i := 95) (by decide +kernel)) mX_715 rfl rfl) rfl rfl rfl (by decide +kernel) ⟨(Nat.le_of_ble_eq_true rfl), (Nat.le_of_ble_eq_true rfl)⟩) (hrX hW) rfl hl.1 rfl (Nat.le_of_ble_eq_true rfl) dL_law_1041 hc0 hs0 (fun H locs hW => ?_)
      refine lv_aload_n (pc := 1044) hx hb dL_law_1044 rfl (lv_at hl 2 rfl) ?_
      refine lv_aload_n (pc := 1045) hx hb dL_law_1045 rfl (lv_at hl 0 rfl) ?_
      refine lv_iload_n (pc := 1046) hx hb dL_law_1046 rfl (lv_at hl 3 rfl) ?_
      refine lv_iconst (pc := 1047) (v := 1) hx hb dL_law_1047 (by decide) ?_
      refine lv_iadd (pc := 1048) hx hb dL_law_1048 ?_
      refine va_sld (pc := 1049) hx hb hX hbl hbA hW.2.2.2.1 hk1 dL_law_1049 ?_
      refine lv_aload_n (pc := 1050) hx hb dL_law_1050 rfl (lv_at hl 0 rfl) ?_
      refine lv_iload_n (pc := 1051) hx hb dL_law_1051 rfl (lv_at hl 3 rfl) ?_
      refine lv_iconst (pc := 1052) (v := 2) hx hb dL_law_1052 (by decide) ?_
      refine lv_iadd (pc := 1053) hx hb dL_law_1053 ?_
      refine va_sld (pc := 1054) hx hb hX hbl hbA hW.2.2.2.1 hk2 dL_law_1054 ?_
      refine zcMi (As := [.int (xs (Int32.toNatClampNeg (x3 + 1))), .int (xs (Int32.toNatClampNeg (x3 + 2)))]) (pc := 1055) zTr_ok trivial C0 hA hKR hW hmapR (kX12_stick l D cA2 h2 H.size zN (xs (Int32.toNatClampNeg (x3 + 1))) (xs (Int32.toNatClampNeg (x3 + 2))) SR r SR1 f2) (cwV 2 hts (zgL inR gaR rfl rfl (List.mem_of_getElem? (i := 1630) (by decide +kernel)) (List.mem_of_getElem? (i := 1631) (by decide +kernel)) (List.mem_of_getElem? (i := 1632) (by decide +kernel)) (List.mem_of_getElem? (i := 108) (by decide +kernel)) mR_276 rfl rfl) rfl rfl rfl (by decide +kernel) ⟨(Nat.le_of_ble_eq_true rfl), (Nat.le_of_ble_eq_true rfl)⟩) (hrR hW) rfl hl.1 rfl (Nat.le_of_ble_eq_true rfl) dL_law_1055 hc0 hs0 (fun H locs hW => ?_)
      refine lv_icmp_eq (pc := 1058) (tgt := 1592) hx hb dL_law_1058 (by decide) (fun c1 => ?_) (fun c1 => absurd rfl c1)
      refine lv_iinc (pc := 1592) (v := (x3 + 6)) (lv' := [(3, .int (x3 + 6)), (0, .ref b), (1, .ref (h 11)), (2, .ref (h2 0))]) hx hb dL_law_1592 hl (k := 3) rfl rfl (by decide) rfl (fun ls hl => ?_)
      refine lv_goto (pc := 1595) (tgt := 18) hx hb dL_law_1595 (by decide) ?_
      exact ih (i + 6) (x3 + 6) (by omega) (by omega) (by rw [ex3]; exact nI_add i 6) SX1 SR1 hRel H locs hW ls (lv_sub hl [1, 2, 3, 0] rfl)
    by_cases c_23 : v = 23
    · refine lv_tableIn (pc := 33) (tgt := 1063) (off := 1030) hx hb dL_law_33 (by rw [c_23]; decide) (by rw [c_23]; decide) (by rw [c_23]; decide) (by decide) ?_
      refine lv_aload_n (pc := 1063) hx hb dL_law_1063 rfl (lv_at hl 1 rfl) ?_
      refine lv_aload_n (pc := 1064) hx hb dL_law_1064 rfl (lv_at hl 0 rfl) ?_
      refine lv_iload_n (pc := 1065) hx hb dL_law_1065 rfl (lv_at hl 3 rfl) ?_
      refine lv_iconst (pc := 1066) (v := 1) hx hb dL_law_1066 (by decide) ?_
      refine lv_iadd (pc := 1067) hx hb dL_law_1067 ?_
      refine va_sld (pc := 1068) hx hb hX hbl hbA hW.2.2.2.1 hk1 dL_law_1068 ?_
      refine lv_aload_n (pc := 1069) hx hb dL_law_1069 rfl (lv_at hl 0 rfl) ?_
      refine lv_iload_n (pc := 1070) hx hb dL_law_1070 rfl (lv_at hl 3 rfl) ?_
      refine lv_iconst (pc := 1071) (v := 2) hx hb dL_law_1071 (by decide) ?_
      refine lv_iadd (pc := 1072) hx hb dL_law_1072 ?_
      refine va_sld (pc := 1073) hx hb hX hbl hbA hW.2.2.2.1 hk2 dL_law_1073 ?_
      obtain ⟨r, SX1, SR1, f1, f2, hRel⟩ := p_notch hRel (xs (Int32.toNatClampNeg (x3 + 1))) (xs (Int32.toNatClampNeg (x3 + 2)))
      refine zcMi (As := [.int (xs (Int32.toNatClampNeg (x3 + 1))), .int (xs (Int32.toNatClampNeg (x3 + 2)))]) (pc := 1074) (zEX_ok tt) hEs C0 hA hKX hW hmapX (kX11_notch l D cA h tt H.size (xs (Int32.toNatClampNeg (x3 + 1))) (xs (Int32.toNatClampNeg (x3 + 2))) SX r SX1 f1) (cwV 2 hts (zgL inX gaX rfl rfl (List.mem_of_getElem? (i := 969) (by decide +kernel)) (List.mem_of_getElem? (i := 970) (by decide +kernel)) (List.mem_of_getElem? (i := 971) (by decide +kernel)) (List.mem_of_getElem? (i := 95) (by decide +kernel)) mX_720 rfl rfl) rfl rfl rfl (by decide +kernel) ⟨(Nat.le_of_ble_eq_true rfl), (Nat.le_of_ble_eq_true rfl)⟩) (hrX hW) rfl hl.1 rfl (Nat.le_of_ble_eq_true rfl) dL_law_1074 hc0 hs0 (fun H locs hW => ?_)
      refine lv_aload_n (pc := 1077) hx hb dL_law_1077 rfl (lv_at hl 2 rfl) ?_
      refine lv_aload_n (pc := 1078) hx hb dL_law_1078 rfl (lv_at hl 0 rfl) ?_
      refine lv_iload_n (pc := 1079) hx hb dL_law_1079 rfl (lv_at hl 3 rfl) ?_
      refine lv_iconst (pc := 1080) (v := 1) hx hb dL_law_1080 (by decide) ?_
      refine lv_iadd (pc := 1081) hx hb dL_law_1081 ?_
      refine va_sld (pc := 1082) hx hb hX hbl hbA hW.2.2.2.1 hk1 dL_law_1082 ?_
      refine lv_aload_n (pc := 1083) hx hb dL_law_1083 rfl (lv_at hl 0 rfl) ?_
      refine lv_iload_n (pc := 1084) hx hb dL_law_1084 rfl (lv_at hl 3 rfl) ?_
      refine lv_iconst (pc := 1085) (v := 2) hx hb dL_law_1085 (by decide) ?_
      refine lv_iadd (pc := 1086) hx hb dL_law_1086 ?_
      refine va_sld (pc := 1087) hx hb hX hbl hbA hW.2.2.2.1 hk2 dL_law_1087 ?_
      refine zcMi (As := [.int (xs (Int32.toNatClampNeg (x3 + 1))), .int (xs (Int32.toNatClampNeg (x3 + 2)))]) (pc := 1088) zTr_ok trivial C0 hA hKR hW hmapR (kX12_notch l D cA2 h2 H.size (xs (Int32.toNatClampNeg (x3 + 1))) (xs (Int32.toNatClampNeg (x3 + 2))) SR r SR1 f2) (cwV 2 hts (zgL inR gaR rfl rfl (List.mem_of_getElem? (i := 1637) (by decide +kernel)) (List.mem_of_getElem? (i := 1638) (by decide +kernel)) (List.mem_of_getElem? (i := 1639) (by decide +kernel)) (List.mem_of_getElem? (i := 108) (by decide +kernel)) mR_282 rfl rfl) rfl rfl rfl (by decide +kernel) ⟨(Nat.le_of_ble_eq_true rfl), (Nat.le_of_ble_eq_true rfl)⟩) (hrR hW) rfl hl.1 rfl (Nat.le_of_ble_eq_true rfl) dL_law_1088 hc0 hs0 (fun H locs hW => ?_)
      refine lv_icmp_eq (pc := 1091) (tgt := 1592) hx hb dL_law_1091 (by decide) (fun c1 => ?_) (fun c1 => absurd rfl c1)
      refine lv_iinc (pc := 1592) (v := (x3 + 6)) (lv' := [(3, .int (x3 + 6)), (0, .ref b), (1, .ref (h 11)), (2, .ref (h2 0))]) hx hb dL_law_1592 hl (k := 3) rfl rfl (by decide) rfl (fun ls hl => ?_)
      refine lv_goto (pc := 1595) (tgt := 18) hx hb dL_law_1595 (by decide) ?_
      exact ih (i + 6) (x3 + 6) (by omega) (by omega) (by rw [ex3]; exact nI_add i 6) SX1 SR1 hRel H locs hW ls (lv_sub hl [1, 2, 3, 0] rfl)
    by_cases c_24 : v = 24
    · refine lv_tableIn (pc := 33) (tgt := 1096) (off := 1063) hx hb dL_law_33 (by rw [c_24]; decide) (by rw [c_24]; decide) (by rw [c_24]; decide) (by decide) ?_
      refine lv_aload_n (pc := 1096) hx hb dL_law_1096 rfl (lv_at hl 1 rfl) ?_
      refine lv_aload_n (pc := 1097) hx hb dL_law_1097 rfl (lv_at hl 0 rfl) ?_
      refine lv_iload_n (pc := 1098) hx hb dL_law_1098 rfl (lv_at hl 3 rfl) ?_
      refine lv_iconst (pc := 1099) (v := 1) hx hb dL_law_1099 (by decide) ?_
      refine lv_iadd (pc := 1100) hx hb dL_law_1100 ?_
      refine va_sld (pc := 1101) hx hb hX hbl hbA hW.2.2.2.1 hk1 dL_law_1101 ?_
      refine lv_aload_n (pc := 1102) hx hb dL_law_1102 rfl (lv_at hl 0 rfl) ?_
      refine lv_iload_n (pc := 1103) hx hb dL_law_1103 rfl (lv_at hl 3 rfl) ?_
      refine lv_iconst (pc := 1104) (v := 2) hx hb dL_law_1104 (by decide) ?_
      refine lv_iadd (pc := 1105) hx hb dL_law_1105 ?_
      refine va_sld (pc := 1106) hx hb hX hbl hbA hW.2.2.2.1 hk2 dL_law_1106 ?_
      refine lv_aload_n (pc := 1107) hx hb dL_law_1107 rfl (lv_at hl 0 rfl) ?_
      refine lv_iload_n (pc := 1108) hx hb dL_law_1108 rfl (lv_at hl 3 rfl) ?_
      refine lv_iconst (pc := 1109) (v := 3) hx hb dL_law_1109 (by decide) ?_
      refine lv_iadd (pc := 1110) hx hb dL_law_1110 ?_
      refine va_sld (pc := 1111) hx hb hX hbl hbA hW.2.2.2.1 hk3 dL_law_1111 ?_
      obtain ⟨r, SX1, SR1, f1, f2, hRel⟩ := p_notches hRel (xs (Int32.toNatClampNeg (x3 + 1))) (xs (Int32.toNatClampNeg (x3 + 2))) (xs (Int32.toNatClampNeg (x3 + 3)))
      refine zcMi (As := [.int (xs (Int32.toNatClampNeg (x3 + 1))), .int (xs (Int32.toNatClampNeg (x3 + 2))), .int (xs (Int32.toNatClampNeg (x3 + 3)))]) (pc := 1112) (zEX_ok tt) hEs C0 hA hKX hW hmapX (kX11_notches l D cA h tt H.size zN (xs (Int32.toNatClampNeg (x3 + 1))) (xs (Int32.toNatClampNeg (x3 + 2))) (xs (Int32.toNatClampNeg (x3 + 3))) SX r SX1 f1) (cwV 3 hts (zgL inX gaX rfl rfl (List.mem_of_getElem? (i := 988) (by decide +kernel)) (List.mem_of_getElem? (i := 989) (by decide +kernel)) (List.mem_of_getElem? (i := 990) (by decide +kernel)) (List.mem_of_getElem? (i := 95) (by decide +kernel)) mX_728 rfl rfl) rfl rfl rfl (by decide +kernel) ⟨(Nat.le_of_ble_eq_true rfl), (Nat.le_of_ble_eq_true rfl)⟩) (hrX hW) rfl hl.1 rfl (Nat.le_of_ble_eq_true rfl) dL_law_1112 hc0 hs0 (fun H locs hW => ?_)
      refine lv_aload_n (pc := 1115) hx hb dL_law_1115 rfl (lv_at hl 2 rfl) ?_
      refine lv_aload_n (pc := 1116) hx hb dL_law_1116 rfl (lv_at hl 0 rfl) ?_
      refine lv_iload_n (pc := 1117) hx hb dL_law_1117 rfl (lv_at hl 3 rfl) ?_
      refine lv_iconst (pc := 1118) (v := 1) hx hb dL_law_1118 (by decide) ?_
      refine lv_iadd (pc := 1119) hx hb dL_law_1119 ?_
      refine va_sld (pc := 1120) hx hb hX hbl hbA hW.2.2.2.1 hk1 dL_law_1120 ?_
      refine lv_aload_n (pc := 1121) hx hb dL_law_1121 rfl (lv_at hl 0 rfl) ?_
      refine lv_iload_n (pc := 1122) hx hb dL_law_1122 rfl (lv_at hl 3 rfl) ?_
      refine lv_iconst (pc := 1123) (v := 2) hx hb dL_law_1123 (by decide) ?_
      refine lv_iadd (pc := 1124) hx hb dL_law_1124 ?_
      refine va_sld (pc := 1125) hx hb hX hbl hbA hW.2.2.2.1 hk2 dL_law_1125 ?_
      refine lv_aload_n (pc := 1126) hx hb dL_law_1126 rfl (lv_at hl 0 rfl) ?_
      refine lv_iload_n (pc := 1127) hx hb dL_law_1127 rfl (lv_at hl 3 rfl) ?_
      refine lv_iconst (pc := 1128) (v := 3) hx hb dL_law_1128 (by decide) ?_
      refine lv_iadd (pc := 1129) hx hb dL_law_1129 ?_
      refine va_sld (pc := 1130) hx hb hX hbl hbA hW.2.2.2.1 hk3 dL_law_1130 ?_
      refine zcMi (As := [.int (xs (Int32.toNatClampNeg (x3 + 1))), .int (xs (Int32.toNatClampNeg (x3 + 2))), .int (xs (Int32.toNatClampNeg (x3 + 3)))]) (pc := 1131) zTr_ok trivial C0 hA hKR hW hmapR (kX12_notches l D cA2 h2 H.size zN (xs (Int32.toNatClampNeg (x3 + 1))) (xs (Int32.toNatClampNeg (x3 + 2))) (xs (Int32.toNatClampNeg (x3 + 3))) SR r SR1 f2) (cwV 3 hts (zgL inR gaR rfl rfl (List.mem_of_getElem? (i := 1649) (by decide +kernel)) (List.mem_of_getElem? (i := 1650) (by decide +kernel)) (List.mem_of_getElem? (i := 1651) (by decide +kernel)) (List.mem_of_getElem? (i := 108) (by decide +kernel)) mR_289 rfl rfl) rfl rfl rfl (by decide +kernel) ⟨(Nat.le_of_ble_eq_true rfl), (Nat.le_of_ble_eq_true rfl)⟩) (hrR hW) rfl hl.1 rfl (Nat.le_of_ble_eq_true rfl) dL_law_1131 hc0 hs0 (fun H locs hW => ?_)
      refine lv_icmp_eq (pc := 1134) (tgt := 1592) hx hb dL_law_1134 (by decide) (fun c1 => ?_) (fun c1 => absurd rfl c1)
      refine lv_iinc (pc := 1592) (v := (x3 + 6)) (lv' := [(3, .int (x3 + 6)), (0, .ref b), (1, .ref (h 11)), (2, .ref (h2 0))]) hx hb dL_law_1592 hl (k := 3) rfl rfl (by decide) rfl (fun ls hl => ?_)
      refine lv_goto (pc := 1595) (tgt := 18) hx hb dL_law_1595 (by decide) ?_
      exact ih (i + 6) (x3 + 6) (by omega) (by omega) (by rw [ex3]; exact nI_add i 6) SX1 SR1 hRel H locs hW ls (lv_sub hl [1, 2, 3, 0] rfl)
    by_cases c_25 : v = 25
    · refine lv_tableIn (pc := 33) (tgt := 1139) (off := 1106) hx hb dL_law_33 (by rw [c_25]; decide) (by rw [c_25]; decide) (by rw [c_25]; decide) (by decide) ?_
      refine lv_aload_n (pc := 1139) hx hb dL_law_1139 rfl (lv_at hl 1 rfl) ?_
      refine lv_aload_n (pc := 1140) hx hb dL_law_1140 rfl (lv_at hl 0 rfl) ?_
      refine lv_iload_n (pc := 1141) hx hb dL_law_1141 rfl (lv_at hl 3 rfl) ?_
      refine lv_iconst (pc := 1142) (v := 1) hx hb dL_law_1142 (by decide) ?_
      refine lv_iadd (pc := 1143) hx hb dL_law_1143 ?_
      refine va_sld (pc := 1144) hx hb hX hbl hbA hW.2.2.2.1 hk1 dL_law_1144 ?_
      obtain ⟨r, SX1, SR1, f1, f2, hRel⟩ := p_off hRel (xs (Int32.toNatClampNeg (x3 + 1)))
      refine zcMi (As := [.int (xs (Int32.toNatClampNeg (x3 + 1)))]) (pc := 1145) (zEX_ok tt) hEs C0 hA hKX hW hmapX (kX11_off l D cA h tt H.size zN (xs (Int32.toNatClampNeg (x3 + 1))) SX r SX1 f1) (cwV 1 hts (zgL inX gaX rfl rfl (List.mem_of_getElem? (i := 1017) (by decide +kernel)) (List.mem_of_getElem? (i := 1018) (by decide +kernel)) (List.mem_of_getElem? (i := 1019) (by decide +kernel)) (List.mem_of_getElem? (i := 95) (by decide +kernel)) mX_741 rfl rfl) rfl rfl rfl (by decide +kernel) ⟨(Nat.le_of_ble_eq_true rfl), (Nat.le_of_ble_eq_true rfl)⟩) (hrX hW) rfl hl.1 rfl (Nat.le_of_ble_eq_true rfl) dL_law_1145 hc0 hs0 (fun H locs hW => ?_)
      refine lv_aload_n (pc := 1148) hx hb dL_law_1148 rfl (lv_at hl 2 rfl) ?_
      refine lv_aload_n (pc := 1149) hx hb dL_law_1149 rfl (lv_at hl 0 rfl) ?_
      refine lv_iload_n (pc := 1150) hx hb dL_law_1150 rfl (lv_at hl 3 rfl) ?_
      refine lv_iconst (pc := 1151) (v := 1) hx hb dL_law_1151 (by decide) ?_
      refine lv_iadd (pc := 1152) hx hb dL_law_1152 ?_
      refine va_sld (pc := 1153) hx hb hX hbl hbA hW.2.2.2.1 hk1 dL_law_1153 ?_
      refine zcMi (As := [.int (xs (Int32.toNatClampNeg (x3 + 1)))]) (pc := 1154) zTr_ok trivial C0 hA hKR hW hmapR (kX12_off l D cA2 h2 H.size zN (xs (Int32.toNatClampNeg (x3 + 1))) SR r SR1 f2) (cwV 1 hts (zgL inR gaR rfl rfl (List.mem_of_getElem? (i := 1656) (by decide +kernel)) (List.mem_of_getElem? (i := 1657) (by decide +kernel)) (List.mem_of_getElem? (i := 1658) (by decide +kernel)) (List.mem_of_getElem? (i := 108) (by decide +kernel)) mR_294 rfl rfl) rfl rfl rfl (by decide +kernel) ⟨(Nat.le_of_ble_eq_true rfl), (Nat.le_of_ble_eq_true rfl)⟩) (hrR hW) rfl hl.1 rfl (Nat.le_of_ble_eq_true rfl) dL_law_1154 hc0 hs0 (fun H locs hW => ?_)
      refine lv_icmp_eq (pc := 1157) (tgt := 1592) hx hb dL_law_1157 (by decide) (fun c1 => ?_) (fun c1 => absurd rfl c1)
      refine lv_iinc (pc := 1592) (v := (x3 + 6)) (lv' := [(3, .int (x3 + 6)), (0, .ref b), (1, .ref (h 11)), (2, .ref (h2 0))]) hx hb dL_law_1592 hl (k := 3) rfl rfl (by decide) rfl (fun ls hl => ?_)
      refine lv_goto (pc := 1595) (tgt := 18) hx hb dL_law_1595 (by decide) ?_
      exact ih (i + 6) (x3 + 6) (by omega) (by omega) (by rw [ex3]; exact nI_add i 6) SX1 SR1 hRel H locs hW ls (lv_sub hl [1, 2, 3, 0] rfl)
    by_cases c_26 : v = 26
    · refine lv_tableIn (pc := 33) (tgt := 1162) (off := 1129) hx hb dL_law_33 (by rw [c_26]; decide) (by rw [c_26]; decide) (by rw [c_26]; decide) (by decide) ?_
      refine lv_aload_n (pc := 1162) hx hb dL_law_1162 rfl (lv_at hl 1 rfl) ?_
      obtain ⟨r, SX1, SR1, f1, f2, hRel⟩ := p_fit hRel
      refine zcMi (As := []) (pc := 1163) (zEX_ok tt) hEs C0 hA hKX hW hmapX (kX11_fit l D cA h tt H.size zN SX r SX1 f1) (cwV 0 hts (zgL inX gaX rfl rfl (List.mem_of_getElem? (i := 1027) (by decide +kernel)) (List.mem_of_getElem? (i := 1028) (by decide +kernel)) (List.mem_of_getElem? (i := 1029) (by decide +kernel)) (List.mem_of_getElem? (i := 95) (by decide +kernel)) mX_744 rfl rfl) rfl rfl rfl (by decide +kernel) ⟨(Nat.le_of_ble_eq_true rfl), (Nat.le_of_ble_eq_true rfl)⟩) (hrX hW) rfl hl.1 rfl (Nat.le_of_ble_eq_true rfl) dL_law_1163 hc0 hs0 (fun H locs hW => ?_)
      refine lv_aload_n (pc := 1166) hx hb dL_law_1166 rfl (lv_at hl 2 rfl) ?_
      refine zcMi (As := []) (pc := 1167) zTr_ok trivial C0 hA hKR hW hmapR (kX12_fit l D cA2 h2 H.size zN SR r SR1 f2) (cwV 0 hts (zgL inR gaR rfl rfl (List.mem_of_getElem? (i := 1664) (by decide +kernel)) (List.mem_of_getElem? (i := 1665) (by decide +kernel)) (List.mem_of_getElem? (i := 1666) (by decide +kernel)) (List.mem_of_getElem? (i := 108) (by decide +kernel)) mR_298 rfl rfl) rfl rfl rfl (by decide +kernel) ⟨(Nat.le_of_ble_eq_true rfl), (Nat.le_of_ble_eq_true rfl)⟩) (hrR hW) rfl hl.1 rfl (Nat.le_of_ble_eq_true rfl) dL_law_1167 hc0 hs0 (fun H locs hW => ?_)
      refine lv_icmp_eq (pc := 1170) (tgt := 1592) hx hb dL_law_1170 (by decide) (fun c1 => ?_) (fun c1 => absurd rfl c1)
      refine lv_iinc (pc := 1592) (v := (x3 + 6)) (lv' := [(3, .int (x3 + 6)), (0, .ref b), (1, .ref (h 11)), (2, .ref (h2 0))]) hx hb dL_law_1592 hl (k := 3) rfl rfl (by decide) rfl (fun ls hl => ?_)
      refine lv_goto (pc := 1595) (tgt := 18) hx hb dL_law_1595 (by decide) ?_
      exact ih (i + 6) (x3 + 6) (by omega) (by omega) (by rw [ex3]; exact nI_add i 6) SX1 SR1 hRel H locs hW ls (lv_sub hl [1, 2, 3, 0] rfl)
    by_cases c_27 : v = 27
    · refine lv_tableIn (pc := 33) (tgt := 1175) (off := 1142) hx hb dL_law_33 (by rw [c_27]; decide) (by rw [c_27]; decide) (by rw [c_27]; decide) (by decide) ?_
      refine lv_aload_n (pc := 1175) hx hb dL_law_1175 rfl (lv_at hl 1 rfl) ?_
      obtain ⟨r, SX1, SR1, f1, f2, hRel⟩ := p_undo hRel
      refine zcMi (As := []) (pc := 1176) (zEX_ok tt) hEs C0 hA hKX hW hmapX (kX11_undo l D cA h tt H.size SX r SX1 f1) (cwV 0 hts (zgL inX gaX rfl rfl (List.mem_of_getElem? (i := 1036) (by decide +kernel)) (List.mem_of_getElem? (i := 1037) (by decide +kernel)) (List.mem_of_getElem? (i := 1038) (by decide +kernel)) (List.mem_of_getElem? (i := 95) (by decide +kernel)) mX_748 rfl rfl) rfl rfl rfl (by decide +kernel) ⟨(Nat.le_of_ble_eq_true rfl), (Nat.le_of_ble_eq_true rfl)⟩) (hrX hW) rfl hl.1 rfl (Nat.le_of_ble_eq_true rfl) dL_law_1176 hc0 hs0 (fun H locs hW => ?_)
      refine lv_aload_n (pc := 1179) hx hb dL_law_1179 rfl (lv_at hl 2 rfl) ?_
      refine zcMi (As := []) (pc := 1180) zTr_ok trivial C0 hA hKR hW hmapR (kX12_undo l D cA2 h2 H.size SR r SR1 f2) (cwV 0 hts (zgL inR gaR rfl rfl (List.mem_of_getElem? (i := 1367) (by decide +kernel)) (List.mem_of_getElem? (i := 1368) (by decide +kernel)) (List.mem_of_getElem? (i := 1369) (by decide +kernel)) (List.mem_of_getElem? (i := 108) (by decide +kernel)) mR_87 rfl rfl) rfl rfl rfl (by decide +kernel) ⟨(Nat.le_of_ble_eq_true rfl), (Nat.le_of_ble_eq_true rfl)⟩) (hrR hW) rfl hl.1 rfl (Nat.le_of_ble_eq_true rfl) dL_law_1180 hc0 hs0 (fun H locs hW => ?_)
      refine lv_icmp_eq (pc := 1183) (tgt := 1592) hx hb dL_law_1183 (by decide) (fun c1 => ?_) (fun c1 => absurd rfl c1)
      refine lv_iinc (pc := 1592) (v := (x3 + 6)) (lv' := [(3, .int (x3 + 6)), (0, .ref b), (1, .ref (h 11)), (2, .ref (h2 0))]) hx hb dL_law_1592 hl (k := 3) rfl rfl (by decide) rfl (fun ls hl => ?_)
      refine lv_goto (pc := 1595) (tgt := 18) hx hb dL_law_1595 (by decide) ?_
      exact ih (i + 6) (x3 + 6) (by omega) (by omega) (by rw [ex3]; exact nI_add i 6) SX1 SR1 hRel H locs hW ls (lv_sub hl [1, 2, 3, 0] rfl)
    by_cases c_28 : v = 28
    · refine lv_tableIn (pc := 33) (tgt := 1188) (off := 1155) hx hb dL_law_33 (by rw [c_28]; decide) (by rw [c_28]; decide) (by rw [c_28]; decide) (by decide) ?_
      refine lv_aload_n (pc := 1188) hx hb dL_law_1188 rfl (lv_at hl 1 rfl) ?_
      obtain ⟨r, SX1, SR1, f1, f2, hRel⟩ := p_redo hRel
      refine zcMi (As := []) (pc := 1189) (zEX_ok tt) hEs C0 hA hKX hW hmapX (kX11_redo l D cA h tt H.size SX r SX1 f1) (cwV 0 hts (zgL inX gaX rfl rfl (List.mem_of_getElem? (i := 1044) (by decide +kernel)) (List.mem_of_getElem? (i := 1045) (by decide +kernel)) (List.mem_of_getElem? (i := 1046) (by decide +kernel)) (List.mem_of_getElem? (i := 95) (by decide +kernel)) mX_753 rfl rfl) rfl rfl rfl (by decide +kernel) ⟨(Nat.le_of_ble_eq_true rfl), (Nat.le_of_ble_eq_true rfl)⟩) (hrX hW) rfl hl.1 rfl (Nat.le_of_ble_eq_true rfl) dL_law_1189 hc0 hs0 (fun H locs hW => ?_)
      refine lv_aload_n (pc := 1192) hx hb dL_law_1192 rfl (lv_at hl 2 rfl) ?_
      refine zcMi (As := []) (pc := 1193) zTr_ok trivial C0 hA hKR hW hmapR (kX12_redo l D cA2 h2 H.size SR r SR1 f2) (cwV 0 hts (zgL inR gaR rfl rfl (List.mem_of_getElem? (i := 1375) (by decide +kernel)) (List.mem_of_getElem? (i := 1376) (by decide +kernel)) (List.mem_of_getElem? (i := 1377) (by decide +kernel)) (List.mem_of_getElem? (i := 108) (by decide +kernel)) mR_88 rfl rfl) rfl rfl rfl (by decide +kernel) ⟨(Nat.le_of_ble_eq_true rfl), (Nat.le_of_ble_eq_true rfl)⟩) (hrR hW) rfl hl.1 rfl (Nat.le_of_ble_eq_true rfl) dL_law_1193 hc0 hs0 (fun H locs hW => ?_)
      refine lv_icmp_eq (pc := 1196) (tgt := 1592) hx hb dL_law_1196 (by decide) (fun c1 => ?_) (fun c1 => absurd rfl c1)
      refine lv_iinc (pc := 1592) (v := (x3 + 6)) (lv' := [(3, .int (x3 + 6)), (0, .ref b), (1, .ref (h 11)), (2, .ref (h2 0))]) hx hb dL_law_1592 hl (k := 3) rfl rfl (by decide) rfl (fun ls hl => ?_)
      refine lv_goto (pc := 1595) (tgt := 18) hx hb dL_law_1595 (by decide) ?_
      exact ih (i + 6) (x3 + 6) (by omega) (by omega) (by rw [ex3]; exact nI_add i 6) SX1 SR1 hRel H locs hW ls (lv_sub hl [1, 2, 3, 0] rfl)
    by_cases c_29 : v = 29
    · refine lv_tableIn (pc := 33) (tgt := 1201) (off := 1168) hx hb dL_law_33 (by rw [c_29]; decide) (by rw [c_29]; decide) (by rw [c_29]; decide) (by decide) ?_
      refine lv_aload_n (pc := 1201) hx hb dL_law_1201 rfl (lv_at hl 1 rfl) ?_
      refine lv_aload_n (pc := 1202) hx hb dL_law_1202 rfl (lv_at hl 0 rfl) ?_
      refine lv_iload_n (pc := 1203) hx hb dL_law_1203 rfl (lv_at hl 3 rfl) ?_
      refine lv_iconst (pc := 1204) (v := 1) hx hb dL_law_1204 (by decide) ?_
      refine lv_iadd (pc := 1205) hx hb dL_law_1205 ?_
      refine va_sld (pc := 1206) hx hb hX hbl hbA hW.2.2.2.1 hk1 dL_law_1206 ?_
      obtain ⟨r, SX1, SR1, f1, f2, hRel⟩ := p_body hRel (xs (Int32.toNatClampNeg (x3 + 1)))
      refine zcMi (As := [.int (xs (Int32.toNatClampNeg (x3 + 1)))]) (pc := 1207) (zEX_ok tt) hEs C0 hA hKX hW hmapX (kX11_body l D cA h tt H.size (xs (Int32.toNatClampNeg (x3 + 1))) SX r SX1 f1) (cwV 1 hts (zgL inX gaX rfl rfl (List.mem_of_getElem? (i := 1052) (by decide +kernel)) (List.mem_of_getElem? (i := 1053) (by decide +kernel)) (List.mem_of_getElem? (i := 1054) (by decide +kernel)) (List.mem_of_getElem? (i := 95) (by decide +kernel)) mX_758 rfl rfl) rfl rfl rfl (by decide +kernel) ⟨(Nat.le_of_ble_eq_true rfl), (Nat.le_of_ble_eq_true rfl)⟩) (hrX hW) rfl hl.1 rfl (Nat.le_of_ble_eq_true rfl) dL_law_1207 hc0 hs0 (fun H locs hW => ?_)
      refine lv_aload_n (pc := 1210) hx hb dL_law_1210 rfl (lv_at hl 2 rfl) ?_
      refine lv_aload_n (pc := 1211) hx hb dL_law_1211 rfl (lv_at hl 0 rfl) ?_
      refine lv_iload_n (pc := 1212) hx hb dL_law_1212 rfl (lv_at hl 3 rfl) ?_
      refine lv_iconst (pc := 1213) (v := 1) hx hb dL_law_1213 (by decide) ?_
      refine lv_iadd (pc := 1214) hx hb dL_law_1214 ?_
      refine va_sld (pc := 1215) hx hb hX hbl hbA hW.2.2.2.1 hk1 dL_law_1215 ?_
      refine zcMi (As := [.int (xs (Int32.toNatClampNeg (x3 + 1)))]) (pc := 1216) zTr_ok trivial C0 hA hKR hW hmapR (kX12_body l D cA2 h2 H.size (xs (Int32.toNatClampNeg (x3 + 1))) SR r SR1 f2) (cwV 1 hts (zgL inR gaR rfl rfl (List.mem_of_getElem? (i := 1672) (by decide +kernel)) (List.mem_of_getElem? (i := 1673) (by decide +kernel)) (List.mem_of_getElem? (i := 1674) (by decide +kernel)) (List.mem_of_getElem? (i := 108) (by decide +kernel)) mR_304 rfl rfl) rfl rfl rfl (by decide +kernel) ⟨(Nat.le_of_ble_eq_true rfl), (Nat.le_of_ble_eq_true rfl)⟩) (hrR hW) rfl hl.1 rfl (Nat.le_of_ble_eq_true rfl) dL_law_1216 hc0 hs0 (fun H locs hW => ?_)
      refine lv_icmp_eq (pc := 1219) (tgt := 1592) hx hb dL_law_1219 (by decide) (fun c1 => ?_) (fun c1 => absurd rfl c1)
      refine lv_iinc (pc := 1592) (v := (x3 + 6)) (lv' := [(3, .int (x3 + 6)), (0, .ref b), (1, .ref (h 11)), (2, .ref (h2 0))]) hx hb dL_law_1592 hl (k := 3) rfl rfl (by decide) rfl (fun ls hl => ?_)
      refine lv_goto (pc := 1595) (tgt := 18) hx hb dL_law_1595 (by decide) ?_
      exact ih (i + 6) (x3 + 6) (by omega) (by omega) (by rw [ex3]; exact nI_add i 6) SX1 SR1 hRel H locs hW ls (lv_sub hl [1, 2, 3, 0] rfl)
    by_cases c_30 : v = 30
    · refine lv_tableIn (pc := 33) (tgt := 1224) (off := 1191) hx hb dL_law_33 (by rw [c_30]; decide) (by rw [c_30]; decide) (by rw [c_30]; decide) (by decide) ?_
      refine lv_aload_n (pc := 1224) hx hb dL_law_1224 rfl (lv_at hl 1 rfl) ?_
      refine lv_aload_n (pc := 1225) hx hb dL_law_1225 rfl (lv_at hl 0 rfl) ?_
      refine lv_iload_n (pc := 1226) hx hb dL_law_1226 rfl (lv_at hl 3 rfl) ?_
      refine lv_iconst (pc := 1227) (v := 1) hx hb dL_law_1227 (by decide) ?_
      refine lv_iadd (pc := 1228) hx hb dL_law_1228 ?_
      refine va_sld (pc := 1229) hx hb hX hbl hbA hW.2.2.2.1 hk1 dL_law_1229 ?_
      refine lv_aload_n (pc := 1230) hx hb dL_law_1230 rfl (lv_at hl 0 rfl) ?_
      refine lv_iload_n (pc := 1231) hx hb dL_law_1231 rfl (lv_at hl 3 rfl) ?_
      refine lv_iconst (pc := 1232) (v := 2) hx hb dL_law_1232 (by decide) ?_
      refine lv_iadd (pc := 1233) hx hb dL_law_1233 ?_
      refine va_sld (pc := 1234) hx hb hX hbl hbA hW.2.2.2.1 hk2 dL_law_1234 ?_
      refine lv_aload_n (pc := 1235) hx hb dL_law_1235 rfl (lv_at hl 0 rfl) ?_
      refine lv_iload_n (pc := 1236) hx hb dL_law_1236 rfl (lv_at hl 3 rfl) ?_
      refine lv_iconst (pc := 1237) (v := 3) hx hb dL_law_1237 (by decide) ?_
      refine lv_iadd (pc := 1238) hx hb dL_law_1238 ?_
      refine va_sld (pc := 1239) hx hb hX hbl hbA hW.2.2.2.1 hk3 dL_law_1239 ?_
      obtain ⟨r, SX1, SR1, f1, f2, hRel⟩ := p_act hRel (xs (Int32.toNatClampNeg (x3 + 1))) (xs (Int32.toNatClampNeg (x3 + 2))) (xs (Int32.toNatClampNeg (x3 + 3)))
      refine zcMi (As := [.int (xs (Int32.toNatClampNeg (x3 + 1))), .int (xs (Int32.toNatClampNeg (x3 + 2))), .int (xs (Int32.toNatClampNeg (x3 + 3)))]) (pc := 1240) (zEX_ok tt) hEs C0 hA hKX hW hmapX (kX11_act l D cA h tt H.size zN (xs (Int32.toNatClampNeg (x3 + 1))) (xs (Int32.toNatClampNeg (x3 + 2))) (xs (Int32.toNatClampNeg (x3 + 3))) SX r SX1 f1) (cwV 3 hts (zgL inX gaX rfl rfl (List.mem_of_getElem? (i := 1068) (by decide +kernel)) (List.mem_of_getElem? (i := 1069) (by decide +kernel)) (List.mem_of_getElem? (i := 1070) (by decide +kernel)) (List.mem_of_getElem? (i := 95) (by decide +kernel)) mX_764 rfl rfl) rfl rfl rfl (by decide +kernel) ⟨(Nat.le_of_ble_eq_true rfl), (Nat.le_of_ble_eq_true rfl)⟩) (hrX hW) rfl hl.1 rfl (Nat.le_of_ble_eq_true rfl) dL_law_1240 hc0 hs0 (fun H locs hW => ?_)
      refine lv_aload_n (pc := 1243) hx hb dL_law_1243 rfl (lv_at hl 2 rfl) ?_
      refine lv_aload_n (pc := 1244) hx hb dL_law_1244 rfl (lv_at hl 0 rfl) ?_
      refine lv_iload_n (pc := 1245) hx hb dL_law_1245 rfl (lv_at hl 3 rfl) ?_
      refine lv_iconst (pc := 1246) (v := 1) hx hb dL_law_1246 (by decide) ?_
      refine lv_iadd (pc := 1247) hx hb dL_law_1247 ?_
      refine va_sld (pc := 1248) hx hb hX hbl hbA hW.2.2.2.1 hk1 dL_law_1248 ?_
      refine lv_aload_n (pc := 1249) hx hb dL_law_1249 rfl (lv_at hl 0 rfl) ?_
      refine lv_iload_n (pc := 1250) hx hb dL_law_1250 rfl (lv_at hl 3 rfl) ?_
      refine lv_iconst (pc := 1251) (v := 2) hx hb dL_law_1251 (by decide) ?_
      refine lv_iadd (pc := 1252) hx hb dL_law_1252 ?_
      refine va_sld (pc := 1253) hx hb hX hbl hbA hW.2.2.2.1 hk2 dL_law_1253 ?_
      refine lv_aload_n (pc := 1254) hx hb dL_law_1254 rfl (lv_at hl 0 rfl) ?_
      refine lv_iload_n (pc := 1255) hx hb dL_law_1255 rfl (lv_at hl 3 rfl) ?_
      refine lv_iconst (pc := 1256) (v := 3) hx hb dL_law_1256 (by decide) ?_
      refine lv_iadd (pc := 1257) hx hb dL_law_1257 ?_
      refine va_sld (pc := 1258) hx hb hX hbl hbA hW.2.2.2.1 hk3 dL_law_1258 ?_
      refine zcMi (As := [.int (xs (Int32.toNatClampNeg (x3 + 1))), .int (xs (Int32.toNatClampNeg (x3 + 2))), .int (xs (Int32.toNatClampNeg (x3 + 3)))]) (pc := 1259) zTr_ok trivial C0 hA hKR hW hmapR (kX12_act l D cA2 h2 H.size (xs (Int32.toNatClampNeg (x3 + 1))) (xs (Int32.toNatClampNeg (x3 + 2))) (xs (Int32.toNatClampNeg (x3 + 3))) SR r SR1 f2) (cwV 3 hts (zgL inR gaR rfl rfl (List.mem_of_getElem? (i := 1676) (by decide +kernel)) (List.mem_of_getElem? (i := 1677) (by decide +kernel)) (List.mem_of_getElem? (i := 1678) (by decide +kernel)) (List.mem_of_getElem? (i := 108) (by decide +kernel)) mR_352 rfl rfl) rfl rfl rfl (by decide +kernel) ⟨(Nat.le_of_ble_eq_true rfl), (Nat.le_of_ble_eq_true rfl)⟩) (hrR hW) rfl hl.1 rfl (Nat.le_of_ble_eq_true rfl) dL_law_1259 hc0 hs0 (fun H locs hW => ?_)
      refine lv_icmp_eq (pc := 1262) (tgt := 1592) hx hb dL_law_1262 (by decide) (fun c1 => ?_) (fun c1 => absurd rfl c1)
      refine lv_iinc (pc := 1592) (v := (x3 + 6)) (lv' := [(3, .int (x3 + 6)), (0, .ref b), (1, .ref (h 11)), (2, .ref (h2 0))]) hx hb dL_law_1592 hl (k := 3) rfl rfl (by decide) rfl (fun ls hl => ?_)
      refine lv_goto (pc := 1595) (tgt := 18) hx hb dL_law_1595 (by decide) ?_
      exact ih (i + 6) (x3 + 6) (by omega) (by omega) (by rw [ex3]; exact nI_add i 6) SX1 SR1 hRel H locs hW ls (lv_sub hl [1, 2, 3, 0] rfl)
    by_cases c_31 : v = 31
    · refine lv_tableIn (pc := 33) (tgt := 1267) (off := 1234) hx hb dL_law_33 (by rw [c_31]; decide) (by rw [c_31]; decide) (by rw [c_31]; decide) (by decide) ?_
      refine lv_aload_n (pc := 1267) hx hb dL_law_1267 rfl (lv_at hl 1 rfl) ?_
      refine lv_aload_n (pc := 1268) hx hb dL_law_1268 rfl (lv_at hl 0 rfl) ?_
      refine lv_iload_n (pc := 1269) hx hb dL_law_1269 rfl (lv_at hl 3 rfl) ?_
      refine lv_iconst (pc := 1270) (v := 1) hx hb dL_law_1270 (by decide) ?_
      refine lv_iadd (pc := 1271) hx hb dL_law_1271 ?_
      refine va_sld (pc := 1272) hx hb hX hbl hbA hW.2.2.2.1 hk1 dL_law_1272 ?_
      obtain ⟨r, SX1, SR1, f1, f2, hRel⟩ := p_trace hRel (xs (Int32.toNatClampNeg (x3 + 1)))
      refine zcMi (As := [.int (xs (Int32.toNatClampNeg (x3 + 1)))]) (pc := 1273) (zEX_ok tt) hEs C0 hA hKX hW hmapX (kX11_trace l D cA h tt H.size (xs (Int32.toNatClampNeg (x3 + 1))) SX r SX1 f1) (cwV 1 hts (zgL inX gaX rfl rfl (List.mem_of_getElem? (i := 1104) (by decide +kernel)) (List.mem_of_getElem? (i := 1105) (by decide +kernel)) (List.mem_of_getElem? (i := 1106) (by decide +kernel)) (List.mem_of_getElem? (i := 95) (by decide +kernel)) mX_768 rfl rfl) rfl rfl rfl (by decide +kernel) ⟨(Nat.le_of_ble_eq_true rfl), (Nat.le_of_ble_eq_true rfl)⟩) (hrX hW) rfl hl.1 rfl (Nat.le_of_ble_eq_true rfl) dL_law_1273 hc0 hs0 (fun H locs hW => ?_)
      refine lv_aload_n (pc := 1276) hx hb dL_law_1276 rfl (lv_at hl 2 rfl) ?_
      refine lv_aload_n (pc := 1277) hx hb dL_law_1277 rfl (lv_at hl 0 rfl) ?_
      refine lv_iload_n (pc := 1278) hx hb dL_law_1278 rfl (lv_at hl 3 rfl) ?_
      refine lv_iconst (pc := 1279) (v := 1) hx hb dL_law_1279 (by decide) ?_
      refine lv_iadd (pc := 1280) hx hb dL_law_1280 ?_
      refine va_sld (pc := 1281) hx hb hX hbl hbA hW.2.2.2.1 hk1 dL_law_1281 ?_
      refine zcMi (As := [.int (xs (Int32.toNatClampNeg (x3 + 1)))]) (pc := 1282) zTr_ok trivial C0 hA hKR hW hmapR (kX12_trace l D cA2 h2 H.size (xs (Int32.toNatClampNeg (x3 + 1))) SR r SR1 f2) (cwV 1 hts (zgL inR gaR rfl rfl (List.mem_of_getElem? (i := 1668) (by decide +kernel)) (List.mem_of_getElem? (i := 1669) (by decide +kernel)) (List.mem_of_getElem? (i := 1670) (by decide +kernel)) (List.mem_of_getElem? (i := 108) (by decide +kernel)) mR_303 rfl rfl) rfl rfl rfl (by decide +kernel) ⟨(Nat.le_of_ble_eq_true rfl), (Nat.le_of_ble_eq_true rfl)⟩) (hrR hW) rfl hl.1 rfl (Nat.le_of_ble_eq_true rfl) dL_law_1282 hc0 hs0 (fun H locs hW => ?_)
      refine lv_icmp_eq (pc := 1285) (tgt := 1592) hx hb dL_law_1285 (by decide) (fun c1 => ?_) (fun c1 => absurd rfl c1)
      refine lv_iinc (pc := 1592) (v := (x3 + 6)) (lv' := [(3, .int (x3 + 6)), (0, .ref b), (1, .ref (h 11)), (2, .ref (h2 0))]) hx hb dL_law_1592 hl (k := 3) rfl rfl (by decide) rfl (fun ls hl => ?_)
      refine lv_goto (pc := 1595) (tgt := 18) hx hb dL_law_1595 (by decide) ?_
      exact ih (i + 6) (x3 + 6) (by omega) (by omega) (by rw [ex3]; exact nI_add i 6) SX1 SR1 hRel H locs hW ls (lv_sub hl [1, 2, 3, 0] rfl)
    by_cases c_32 : v = 32
    · refine lv_tableIn (pc := 33) (tgt := 1290) (off := 1257) hx hb dL_law_33 (by rw [c_32]; decide) (by rw [c_32]; decide) (by rw [c_32]; decide) (by decide) ?_
      refine lv_aload_n (pc := 1290) hx hb dL_law_1290 rfl (lv_at hl 1 rfl) ?_
      refine lv_aload_n (pc := 1291) hx hb dL_law_1291 rfl (lv_at hl 0 rfl) ?_
      refine lv_iload_n (pc := 1292) hx hb dL_law_1292 rfl (lv_at hl 3 rfl) ?_
      refine lv_iconst (pc := 1293) (v := 1) hx hb dL_law_1293 (by decide) ?_
      refine lv_iadd (pc := 1294) hx hb dL_law_1294 ?_
      refine va_sld (pc := 1295) hx hb hX hbl hbA hW.2.2.2.1 hk1 dL_law_1295 ?_
      refine lv_aload_n (pc := 1296) hx hb dL_law_1296 rfl (lv_at hl 0 rfl) ?_
      refine lv_iload_n (pc := 1297) hx hb dL_law_1297 rfl (lv_at hl 3 rfl) ?_
      refine lv_iconst (pc := 1298) (v := 2) hx hb dL_law_1298 (by decide) ?_
      refine lv_iadd (pc := 1299) hx hb dL_law_1299 ?_
      refine va_sld (pc := 1300) hx hb hX hbl hbA hW.2.2.2.1 hk2 dL_law_1300 ?_
      obtain ⟨r, SX1, SR1, f1, f2, hRel⟩ := p_keep hRel (xs (Int32.toNatClampNeg (x3 + 1))) (xs (Int32.toNatClampNeg (x3 + 2)))
      refine zcMi (As := [.int (xs (Int32.toNatClampNeg (x3 + 1))), .int (xs (Int32.toNatClampNeg (x3 + 2)))]) (pc := 1301) (zEX_ok tt) hEs C0 hA hKX hW hmapX (kX11_keep l D cA h tt H.size (xs (Int32.toNatClampNeg (x3 + 1))) (xs (Int32.toNatClampNeg (x3 + 2))) SX r SX1 f1) (cwV 2 hts (zgL inX gaX rfl rfl (List.mem_of_getElem? (i := 1118) (by decide +kernel)) (List.mem_of_getElem? (i := 1119) (by decide +kernel)) (List.mem_of_getElem? (i := 1120) (by decide +kernel)) (List.mem_of_getElem? (i := 95) (by decide +kernel)) mX_773 rfl rfl) rfl rfl rfl (by decide +kernel) ⟨(Nat.le_of_ble_eq_true rfl), (Nat.le_of_ble_eq_true rfl)⟩) (hrX hW) rfl hl.1 rfl (Nat.le_of_ble_eq_true rfl) dL_law_1301 hc0 hs0 (fun H locs hW => ?_)
      refine lv_aload_n (pc := 1304) hx hb dL_law_1304 rfl (lv_at hl 2 rfl) ?_
      refine lv_aload_n (pc := 1305) hx hb dL_law_1305 rfl (lv_at hl 0 rfl) ?_
      refine lv_iload_n (pc := 1306) hx hb dL_law_1306 rfl (lv_at hl 3 rfl) ?_
      refine lv_iconst (pc := 1307) (v := 1) hx hb dL_law_1307 (by decide) ?_
      refine lv_iadd (pc := 1308) hx hb dL_law_1308 ?_
      refine va_sld (pc := 1309) hx hb hX hbl hbA hW.2.2.2.1 hk1 dL_law_1309 ?_
      refine lv_aload_n (pc := 1310) hx hb dL_law_1310 rfl (lv_at hl 0 rfl) ?_
      refine lv_iload_n (pc := 1311) hx hb dL_law_1311 rfl (lv_at hl 3 rfl) ?_
      refine lv_iconst (pc := 1312) (v := 2) hx hb dL_law_1312 (by decide) ?_
      refine lv_iadd (pc := 1313) hx hb dL_law_1313 ?_
      refine va_sld (pc := 1314) hx hb hX hbl hbA hW.2.2.2.1 hk2 dL_law_1314 ?_
      refine zcMi (As := [.int (xs (Int32.toNatClampNeg (x3 + 1))), .int (xs (Int32.toNatClampNeg (x3 + 2)))]) (pc := 1315) zTr_ok trivial C0 hA hKR hW hmapR (kX12_keep l D cA2 h2 H.size (xs (Int32.toNatClampNeg (x3 + 1))) (xs (Int32.toNatClampNeg (x3 + 2))) SR r SR1 f2) (cwV 2 hts (zgL inR gaR rfl rfl (List.mem_of_getElem? (i := 1739) (by decide +kernel)) (List.mem_of_getElem? (i := 1740) (by decide +kernel)) (List.mem_of_getElem? (i := 1741) (by decide +kernel)) (List.mem_of_getElem? (i := 108) (by decide +kernel)) mR_360 rfl rfl) rfl rfl rfl (by decide +kernel) ⟨(Nat.le_of_ble_eq_true rfl), (Nat.le_of_ble_eq_true rfl)⟩) (hrR hW) rfl hl.1 rfl (Nat.le_of_ble_eq_true rfl) dL_law_1315 hc0 hs0 (fun H locs hW => ?_)
      refine lv_icmp_eq (pc := 1318) (tgt := 1592) hx hb dL_law_1318 (by decide) (fun c1 => ?_) (fun c1 => absurd rfl c1)
      refine lv_iinc (pc := 1592) (v := (x3 + 6)) (lv' := [(3, .int (x3 + 6)), (0, .ref b), (1, .ref (h 11)), (2, .ref (h2 0))]) hx hb dL_law_1592 hl (k := 3) rfl rfl (by decide) rfl (fun ls hl => ?_)
      refine lv_goto (pc := 1595) (tgt := 18) hx hb dL_law_1595 (by decide) ?_
      exact ih (i + 6) (x3 + 6) (by omega) (by omega) (by rw [ex3]; exact nI_add i 6) SX1 SR1 hRel H locs hW ls (lv_sub hl [1, 2, 3, 0] rfl)
    by_cases c_33 : v = 33
    · refine lv_tableIn (pc := 33) (tgt := 1323) (off := 1290) hx hb dL_law_33 (by rw [c_33]; decide) (by rw [c_33]; decide) (by rw [c_33]; decide) (by decide) ?_
      refine lv_aload_n (pc := 1323) hx hb dL_law_1323 rfl (lv_at hl 1 rfl) ?_
      refine lv_aload_n (pc := 1324) hx hb dL_law_1324 rfl (lv_at hl 0 rfl) ?_
      refine lv_iload_n (pc := 1325) hx hb dL_law_1325 rfl (lv_at hl 3 rfl) ?_
      refine lv_iconst (pc := 1326) (v := 1) hx hb dL_law_1326 (by decide) ?_
      refine lv_iadd (pc := 1327) hx hb dL_law_1327 ?_
      refine va_sld (pc := 1328) hx hb hX hbl hbA hW.2.2.2.1 hk1 dL_law_1328 ?_
      refine lv_aload_n (pc := 1329) hx hb dL_law_1329 rfl (lv_at hl 0 rfl) ?_
      refine lv_iload_n (pc := 1330) hx hb dL_law_1330 rfl (lv_at hl 3 rfl) ?_
      refine lv_iconst (pc := 1331) (v := 2) hx hb dL_law_1331 (by decide) ?_
      refine lv_iadd (pc := 1332) hx hb dL_law_1332 ?_
      refine va_sld (pc := 1333) hx hb hX hbl hbA hW.2.2.2.1 hk2 dL_law_1333 ?_
      refine lv_aload_n (pc := 1334) hx hb dL_law_1334 rfl (lv_at hl 0 rfl) ?_
      refine lv_iload_n (pc := 1335) hx hb dL_law_1335 rfl (lv_at hl 3 rfl) ?_
      refine lv_iconst (pc := 1336) (v := 3) hx hb dL_law_1336 (by decide) ?_
      refine lv_iadd (pc := 1337) hx hb dL_law_1337 ?_
      refine va_sld (pc := 1338) hx hb hX hbl hbA hW.2.2.2.1 hk3 dL_law_1338 ?_
      obtain ⟨r, SX1, SR1, f1, f2, hRel⟩ := p_row hRel (xs (Int32.toNatClampNeg (x3 + 1))) (xs (Int32.toNatClampNeg (x3 + 2))) (xs (Int32.toNatClampNeg (x3 + 3)))
      refine zcMi (As := [.int (xs (Int32.toNatClampNeg (x3 + 1))), .int (xs (Int32.toNatClampNeg (x3 + 2))), .int (xs (Int32.toNatClampNeg (x3 + 3)))]) (pc := 1339) (zEX_ok tt) hEs C0 hA hKX hW hmapX (kX11_row l D cA h tt H.size zN (xs (Int32.toNatClampNeg (x3 + 1))) (xs (Int32.toNatClampNeg (x3 + 2))) (xs (Int32.toNatClampNeg (x3 + 3))) SX r SX1 f1) (cwV 3 hts (zgL inX gaX rfl rfl (List.mem_of_getElem? (i := 1127) (by decide +kernel)) (List.mem_of_getElem? (i := 1128) (by decide +kernel)) (List.mem_of_getElem? (i := 1129) (by decide +kernel)) (List.mem_of_getElem? (i := 95) (by decide +kernel)) mX_778 rfl rfl) rfl rfl rfl (by decide +kernel) ⟨(Nat.le_of_ble_eq_true rfl), (Nat.le_of_ble_eq_true rfl)⟩) (hrX hW) rfl hl.1 rfl (Nat.le_of_ble_eq_true rfl) dL_law_1339 hc0 hs0 (fun H locs hW => ?_)
      refine lv_aload_n (pc := 1342) hx hb dL_law_1342 rfl (lv_at hl 2 rfl) ?_
      refine lv_aload_n (pc := 1343) hx hb dL_law_1343 rfl (lv_at hl 0 rfl) ?_
      refine lv_iload_n (pc := 1344) hx hb dL_law_1344 rfl (lv_at hl 3 rfl) ?_
      refine lv_iconst (pc := 1345) (v := 1) hx hb dL_law_1345 (by decide) ?_
      refine lv_iadd (pc := 1346) hx hb dL_law_1346 ?_
      refine va_sld (pc := 1347) hx hb hX hbl hbA hW.2.2.2.1 hk1 dL_law_1347 ?_
      refine lv_aload_n (pc := 1348) hx hb dL_law_1348 rfl (lv_at hl 0 rfl) ?_
      refine lv_iload_n (pc := 1349) hx hb dL_law_1349 rfl (lv_at hl 3 rfl) ?_
      refine lv_iconst (pc := 1350) (v := 2) hx hb dL_law_1350 (by decide) ?_
      refine lv_iadd (pc := 1351) hx hb dL_law_1351 ?_
      refine va_sld (pc := 1352) hx hb hX hbl hbA hW.2.2.2.1 hk2 dL_law_1352 ?_
      refine lv_aload_n (pc := 1353) hx hb dL_law_1353 rfl (lv_at hl 0 rfl) ?_
      refine lv_iload_n (pc := 1354) hx hb dL_law_1354 rfl (lv_at hl 3 rfl) ?_
      refine lv_iconst (pc := 1355) (v := 3) hx hb dL_law_1355 (by decide) ?_
      refine lv_iadd (pc := 1356) hx hb dL_law_1356 ?_
      refine va_sld (pc := 1357) hx hb hX hbl hbA hW.2.2.2.1 hk3 dL_law_1357 ?_
      refine zcMi (As := [.int (xs (Int32.toNatClampNeg (x3 + 1))), .int (xs (Int32.toNatClampNeg (x3 + 2))), .int (xs (Int32.toNatClampNeg (x3 + 3)))]) (pc := 1358) zTr_ok trivial C0 hA hKR hW hmapR (kX12_row l D cA2 h2 H.size zN (xs (Int32.toNatClampNeg (x3 + 1))) (xs (Int32.toNatClampNeg (x3 + 2))) (xs (Int32.toNatClampNeg (x3 + 3))) SR r SR1 f2) (cwV 3 hts (zgL inR gaR rfl rfl (List.mem_of_getElem? (i := 1743) (by decide +kernel)) (List.mem_of_getElem? (i := 1744) (by decide +kernel)) (List.mem_of_getElem? (i := 1745) (by decide +kernel)) (List.mem_of_getElem? (i := 108) (by decide +kernel)) mR_361 rfl rfl) rfl rfl rfl (by decide +kernel) ⟨(Nat.le_of_ble_eq_true rfl), (Nat.le_of_ble_eq_true rfl)⟩) (hrR hW) rfl hl.1 rfl (Nat.le_of_ble_eq_true rfl) dL_law_1358 hc0 hs0 (fun H locs hW => ?_)
      refine lv_icmp_eq (pc := 1361) (tgt := 1592) hx hb dL_law_1361 (by decide) (fun c1 => ?_) (fun c1 => absurd rfl c1)
      refine lv_iinc (pc := 1592) (v := (x3 + 6)) (lv' := [(3, .int (x3 + 6)), (0, .ref b), (1, .ref (h 11)), (2, .ref (h2 0))]) hx hb dL_law_1592 hl (k := 3) rfl rfl (by decide) rfl (fun ls hl => ?_)
      refine lv_goto (pc := 1595) (tgt := 18) hx hb dL_law_1595 (by decide) ?_
      exact ih (i + 6) (x3 + 6) (by omega) (by omega) (by rw [ex3]; exact nI_add i 6) SX1 SR1 hRel H locs hW ls (lv_sub hl [1, 2, 3, 0] rfl)
    by_cases c_34 : v = 34
    · refine lv_tableIn (pc := 33) (tgt := 1366) (off := 1333) hx hb dL_law_33 (by rw [c_34]; decide) (by rw [c_34]; decide) (by rw [c_34]; decide) (by decide) ?_
      refine lv_aload_n (pc := 1366) hx hb dL_law_1366 rfl (lv_at hl 1 rfl) ?_
      refine lv_aload_n (pc := 1367) hx hb dL_law_1367 rfl (lv_at hl 0 rfl) ?_
      refine lv_iload_n (pc := 1368) hx hb dL_law_1368 rfl (lv_at hl 3 rfl) ?_
      refine lv_iconst (pc := 1369) (v := 1) hx hb dL_law_1369 (by decide) ?_
      refine lv_iadd (pc := 1370) hx hb dL_law_1370 ?_
      refine va_sld (pc := 1371) hx hb hX hbl hbA hW.2.2.2.1 hk1 dL_law_1371 ?_
      refine lv_aload_n (pc := 1372) hx hb dL_law_1372 rfl (lv_at hl 0 rfl) ?_
      refine lv_iload_n (pc := 1373) hx hb dL_law_1373 rfl (lv_at hl 3 rfl) ?_
      refine lv_iconst (pc := 1374) (v := 2) hx hb dL_law_1374 (by decide) ?_
      refine lv_iadd (pc := 1375) hx hb dL_law_1375 ?_
      refine va_sld (pc := 1376) hx hb hX hbl hbA hW.2.2.2.1 hk2 dL_law_1376 ?_
      refine lv_aload_n (pc := 1377) hx hb dL_law_1377 rfl (lv_at hl 0 rfl) ?_
      refine lv_iload_n (pc := 1378) hx hb dL_law_1378 rfl (lv_at hl 3 rfl) ?_
      refine lv_iconst (pc := 1379) (v := 3) hx hb dL_law_1379 (by decide) ?_
      refine lv_iadd (pc := 1380) hx hb dL_law_1380 ?_
      refine va_sld (pc := 1381) hx hb hX hbl hbA hW.2.2.2.1 hk3 dL_law_1381 ?_
      refine lv_i2l (pc := 1382) (v := (Int32.toInt64 (xs (Int32.toNatClampNeg (x3 + 3))))) hx hb dL_law_1382 rfl ?_
      refine lv_bipush (pc := 1383) (v := 32) hx hb dL_law_1383 (by decide) ?_
      refine lv_lshl (pc := 1385) (v := ((Int32.toInt64 (xs (Int32.toNatClampNeg (x3 + 3)))) <<< ((Int32.toInt64 32) &&& 63))) hx hb dL_law_1385 rfl ?_
      refine lv_aload_n (pc := 1386) hx hb dL_law_1386 rfl (lv_at hl 0 rfl) ?_
      refine lv_iload_n (pc := 1387) hx hb dL_law_1387 rfl (lv_at hl 3 rfl) ?_
      refine lv_iconst (pc := 1388) (v := 4) hx hb dL_law_1388 (by decide) ?_
      refine lv_iadd (pc := 1389) hx hb dL_law_1389 ?_
      refine va_sld (pc := 1390) hx hb hX hbl hbA hW.2.2.2.1 hk4 dL_law_1390 ?_
      refine lv_i2l (pc := 1391) (v := (Int32.toInt64 (xs (Int32.toNatClampNeg (x3 + 4))))) hx hb dL_law_1391 rfl ?_
      refine lv_ldc2 (pc := 1392) (v := 4294967295) hx hb hown (hts _ (List.mem_of_getElem? (i := 1768) (by decide +kernel))) dL_law_1392 ?_
      refine lv_land (pc := 1395) hx hb dL_law_1395 ?_
      refine lv_lor (pc := 1396) hx hb dL_law_1396 ?_
      obtain ⟨r, SX1, SR1, f1, f2, hRel⟩ := p_put hRel (xs (Int32.toNatClampNeg (x3 + 1))) (xs (Int32.toNatClampNeg (x3 + 2))) (((Int32.toInt64 (xs (Int32.toNatClampNeg (x3 + 3)))) <<< ((Int32.toInt64 32) &&& 63)) ||| ((Int32.toInt64 (xs (Int32.toNatClampNeg (x3 + 4)))) &&& 4294967295))
      refine zcMi (As := [.int (xs (Int32.toNatClampNeg (x3 + 1))), .int (xs (Int32.toNatClampNeg (x3 + 2))), .long (((Int32.toInt64 (xs (Int32.toNatClampNeg (x3 + 3)))) <<< ((Int32.toInt64 32) &&& 63)) ||| ((Int32.toInt64 (xs (Int32.toNatClampNeg (x3 + 4)))) &&& 4294967295))]) (pc := 1397) (zEX_ok tt) hEs C0 hA hKX hW hmapX (kX11_put l D cA h tt H.size (xs (Int32.toNatClampNeg (x3 + 1))) (xs (Int32.toNatClampNeg (x3 + 2))) (((Int32.toInt64 (xs (Int32.toNatClampNeg (x3 + 3)))) <<< ((Int32.toInt64 32) &&& 63)) ||| ((Int32.toInt64 (xs (Int32.toNatClampNeg (x3 + 4)))) &&& 4294967295)) SX r SX1 f1) (cwV 3 hts (zgL inX gaX rfl rfl (List.mem_of_getElem? (i := 1139) (by decide +kernel)) (List.mem_of_getElem? (i := 1140) (by decide +kernel)) (List.mem_of_getElem? (i := 1141) (by decide +kernel)) (List.mem_of_getElem? (i := 95) (by decide +kernel)) mX_783 rfl rfl) rfl rfl rfl (by decide +kernel) ⟨(Nat.le_of_ble_eq_true rfl), (Nat.le_of_ble_eq_true rfl)⟩) (hrX hW) rfl hl.1 rfl (Nat.le_of_ble_eq_true rfl) dL_law_1397 hc0 hs0 (fun H locs hW => ?_)
      refine lv_aload_n (pc := 1400) hx hb dL_law_1400 rfl (lv_at hl 2 rfl) ?_
      refine lv_aload_n (pc := 1401) hx hb dL_law_1401 rfl (lv_at hl 0 rfl) ?_
      refine lv_iload_n (pc := 1402) hx hb dL_law_1402 rfl (lv_at hl 3 rfl) ?_
      refine lv_iconst (pc := 1403) (v := 1) hx hb dL_law_1403 (by decide) ?_
      refine lv_iadd (pc := 1404) hx hb dL_law_1404 ?_
      refine va_sld (pc := 1405) hx hb hX hbl hbA hW.2.2.2.1 hk1 dL_law_1405 ?_
      refine lv_aload_n (pc := 1406) hx hb dL_law_1406 rfl (lv_at hl 0 rfl) ?_
      refine lv_iload_n (pc := 1407) hx hb dL_law_1407 rfl (lv_at hl 3 rfl) ?_
      refine lv_iconst (pc := 1408) (v := 2) hx hb dL_law_1408 (by decide) ?_
      refine lv_iadd (pc := 1409) hx hb dL_law_1409 ?_
      refine va_sld (pc := 1410) hx hb hX hbl hbA hW.2.2.2.1 hk2 dL_law_1410 ?_
      refine lv_aload_n (pc := 1411) hx hb dL_law_1411 rfl (lv_at hl 0 rfl) ?_
      refine lv_iload_n (pc := 1412) hx hb dL_law_1412 rfl (lv_at hl 3 rfl) ?_
      refine lv_iconst (pc := 1413) (v := 3) hx hb dL_law_1413 (by decide) ?_
      refine lv_iadd (pc := 1414) hx hb dL_law_1414 ?_
      refine va_sld (pc := 1415) hx hb hX hbl hbA hW.2.2.2.1 hk3 dL_law_1415 ?_
      refine lv_i2l (pc := 1416) (v := (Int32.toInt64 (xs (Int32.toNatClampNeg (x3 + 3))))) hx hb dL_law_1416 rfl ?_
      refine lv_bipush (pc := 1417) (v := 32) hx hb dL_law_1417 (by decide) ?_
      refine lv_lshl (pc := 1419) (v := ((Int32.toInt64 (xs (Int32.toNatClampNeg (x3 + 3)))) <<< ((Int32.toInt64 32) &&& 63))) hx hb dL_law_1419 rfl ?_
      refine lv_aload_n (pc := 1420) hx hb dL_law_1420 rfl (lv_at hl 0 rfl) ?_
      refine lv_iload_n (pc := 1421) hx hb dL_law_1421 rfl (lv_at hl 3 rfl) ?_
      refine lv_iconst (pc := 1422) (v := 4) hx hb dL_law_1422 (by decide) ?_
      refine lv_iadd (pc := 1423) hx hb dL_law_1423 ?_
      refine va_sld (pc := 1424) hx hb hX hbl hbA hW.2.2.2.1 hk4 dL_law_1424 ?_
      refine lv_i2l (pc := 1425) (v := (Int32.toInt64 (xs (Int32.toNatClampNeg (x3 + 4))))) hx hb dL_law_1425 rfl ?_
      refine lv_ldc2 (pc := 1426) (v := 4294967295) hx hb hown (hts _ (List.mem_of_getElem? (i := 1768) (by decide +kernel))) dL_law_1426 ?_
      refine lv_land (pc := 1429) hx hb dL_law_1429 ?_
      refine lv_lor (pc := 1430) hx hb dL_law_1430 ?_
      refine zcMi (As := [.int (xs (Int32.toNatClampNeg (x3 + 1))), .int (xs (Int32.toNatClampNeg (x3 + 2))), .long (((Int32.toInt64 (xs (Int32.toNatClampNeg (x3 + 3)))) <<< ((Int32.toInt64 32) &&& 63)) ||| ((Int32.toInt64 (xs (Int32.toNatClampNeg (x3 + 4)))) &&& 4294967295))]) (pc := 1431) zTr_ok trivial C0 hA hKR hW hmapR (kX12_put l D cA2 h2 H.size (xs (Int32.toNatClampNeg (x3 + 1))) (xs (Int32.toNatClampNeg (x3 + 2))) (((Int32.toInt64 (xs (Int32.toNatClampNeg (x3 + 3)))) <<< ((Int32.toInt64 32) &&& 63)) ||| ((Int32.toInt64 (xs (Int32.toNatClampNeg (x3 + 4)))) &&& 4294967295)) SR r SR1 f2) (cwV 3 hts (zgL inR gaR rfl rfl (List.mem_of_getElem? (i := 1747) (by decide +kernel)) (List.mem_of_getElem? (i := 1748) (by decide +kernel)) (List.mem_of_getElem? (i := 1749) (by decide +kernel)) (List.mem_of_getElem? (i := 108) (by decide +kernel)) mR_363 rfl rfl) rfl rfl rfl (by decide +kernel) ⟨(Nat.le_of_ble_eq_true rfl), (Nat.le_of_ble_eq_true rfl)⟩) (hrR hW) rfl hl.1 rfl (Nat.le_of_ble_eq_true rfl) dL_law_1431 hc0 hs0 (fun H locs hW => ?_)
      refine lv_icmp_eq (pc := 1434) (tgt := 1592) hx hb dL_law_1434 (by decide) (fun c1 => ?_) (fun c1 => absurd rfl c1)
      refine lv_iinc (pc := 1592) (v := (x3 + 6)) (lv' := [(3, .int (x3 + 6)), (0, .ref b), (1, .ref (h 11)), (2, .ref (h2 0))]) hx hb dL_law_1592 hl (k := 3) rfl rfl (by decide) rfl (fun ls hl => ?_)
      refine lv_goto (pc := 1595) (tgt := 18) hx hb dL_law_1595 (by decide) ?_
      exact ih (i + 6) (x3 + 6) (by omega) (by omega) (by rw [ex3]; exact nI_add i 6) SX1 SR1 hRel H locs hW ls (lv_sub hl [1, 2, 3, 0] rfl)
    by_cases c_35 : v = 35
    · refine lv_tableIn (pc := 33) (tgt := 1439) (off := 1406) hx hb dL_law_33 (by rw [c_35]; decide) (by rw [c_35]; decide) (by rw [c_35]; decide) (by decide) ?_
      refine lv_aload_n (pc := 1439) hx hb dL_law_1439 rfl (lv_at hl 1 rfl) ?_
      refine lv_aload_n (pc := 1440) hx hb dL_law_1440 rfl (lv_at hl 0 rfl) ?_
      refine lv_iload_n (pc := 1441) hx hb dL_law_1441 rfl (lv_at hl 3 rfl) ?_
      refine lv_iconst (pc := 1442) (v := 1) hx hb dL_law_1442 (by decide) ?_
      refine lv_iadd (pc := 1443) hx hb dL_law_1443 ?_
      refine va_sld (pc := 1444) hx hb hX hbl hbA hW.2.2.2.1 hk1 dL_law_1444 ?_
      refine lv_aload_n (pc := 1445) hx hb dL_law_1445 rfl (lv_at hl 0 rfl) ?_
      refine lv_iload_n (pc := 1446) hx hb dL_law_1446 rfl (lv_at hl 3 rfl) ?_
      refine lv_iconst (pc := 1447) (v := 2) hx hb dL_law_1447 (by decide) ?_
      refine lv_iadd (pc := 1448) hx hb dL_law_1448 ?_
      refine va_sld (pc := 1449) hx hb hX hbl hbA hW.2.2.2.1 hk2 dL_law_1449 ?_
      obtain ⟨r, SX1, SR1, f1, f2, hRel⟩ := p_element hRel (xs (Int32.toNatClampNeg (x3 + 1))) (xs (Int32.toNatClampNeg (x3 + 2)))
      refine zcMl (As := [.int (xs (Int32.toNatClampNeg (x3 + 1))), .int (xs (Int32.toNatClampNeg (x3 + 2)))]) (pc := 1450) (zEX_ok tt) hEs C0 hA hKX hW hmapX (kX11_element l D cA h tt H.size (xs (Int32.toNatClampNeg (x3 + 1))) (xs (Int32.toNatClampNeg (x3 + 2))) SX r SX1 f1) (cwV 2 hts (zgL inX gaX rfl rfl (List.mem_of_getElem? (i := 1154) (by decide +kernel)) (List.mem_of_getElem? (i := 1155) (by decide +kernel)) (List.mem_of_getElem? (i := 1156) (by decide +kernel)) (List.mem_of_getElem? (i := 95) (by decide +kernel)) mX_790 rfl rfl) rfl rfl rfl (by decide +kernel) ⟨(Nat.le_of_ble_eq_true rfl), (Nat.le_of_ble_eq_true rfl)⟩) (hrX hW) rfl hl.1 rfl (Nat.le_of_ble_eq_true rfl) dL_law_1450 hc0 hs0 (fun H locs hW => ?_)
      refine lv_aload_n (pc := 1453) hx hb dL_law_1453 rfl (lv_at hl 2 rfl) ?_
      refine lv_aload_n (pc := 1454) hx hb dL_law_1454 rfl (lv_at hl 0 rfl) ?_
      refine lv_iload_n (pc := 1455) hx hb dL_law_1455 rfl (lv_at hl 3 rfl) ?_
      refine lv_iconst (pc := 1456) (v := 1) hx hb dL_law_1456 (by decide) ?_
      refine lv_iadd (pc := 1457) hx hb dL_law_1457 ?_
      refine va_sld (pc := 1458) hx hb hX hbl hbA hW.2.2.2.1 hk1 dL_law_1458 ?_
      refine lv_aload_n (pc := 1459) hx hb dL_law_1459 rfl (lv_at hl 0 rfl) ?_
      refine lv_iload_n (pc := 1460) hx hb dL_law_1460 rfl (lv_at hl 3 rfl) ?_
      refine lv_iconst (pc := 1461) (v := 2) hx hb dL_law_1461 (by decide) ?_
      refine lv_iadd (pc := 1462) hx hb dL_law_1462 ?_
      refine va_sld (pc := 1463) hx hb hX hbl hbA hW.2.2.2.1 hk2 dL_law_1463 ?_
      refine zcMl (As := [.int (xs (Int32.toNatClampNeg (x3 + 1))), .int (xs (Int32.toNatClampNeg (x3 + 2)))]) (pc := 1464) zTr_ok trivial C0 hA hKR hW hmapR (kX12_element l D cA2 h2 H.size (xs (Int32.toNatClampNeg (x3 + 1))) (xs (Int32.toNatClampNeg (x3 + 2))) SR r SR1 f2) (cwV 2 hts (zgL inR gaR rfl rfl (List.mem_of_getElem? (i := 1755) (by decide +kernel)) (List.mem_of_getElem? (i := 1756) (by decide +kernel)) (List.mem_of_getElem? (i := 1757) (by decide +kernel)) (List.mem_of_getElem? (i := 108) (by decide +kernel)) mR_367 rfl rfl) rfl rfl rfl (by decide +kernel) ⟨(Nat.le_of_ble_eq_true rfl), (Nat.le_of_ble_eq_true rfl)⟩) (hrR hW) rfl hl.1 rfl (Nat.le_of_ble_eq_true rfl) dL_law_1464 hc0 hs0 (fun H locs hW => ?_)
      refine W.lcmp (pc := 1467) hx hb dL_law_1467 ?_
      refine lv_if_eq (pc := 1468) (tgt := 1592) hx hb dL_law_1468 (by decide) (fun c1 => ?_) (fun c1 => absurd (by simp [lg_cmp]) c1)
      refine lv_iinc (pc := 1592) (v := (x3 + 6)) (lv' := [(3, .int (x3 + 6)), (0, .ref b), (1, .ref (h 11)), (2, .ref (h2 0))]) hx hb dL_law_1592 hl (k := 3) rfl rfl (by decide) rfl (fun ls hl => ?_)
      refine lv_goto (pc := 1595) (tgt := 18) hx hb dL_law_1595 (by decide) ?_
      exact ih (i + 6) (x3 + 6) (by omega) (by omega) (by rw [ex3]; exact nI_add i 6) SX1 SR1 hRel H locs hW ls (lv_sub hl [1, 2, 3, 0] rfl)
    by_cases c_36 : v = 36
    · refine lv_tableIn (pc := 33) (tgt := 1473) (off := 1440) hx hb dL_law_33 (by rw [c_36]; decide) (by rw [c_36]; decide) (by rw [c_36]; decide) (by decide) ?_
      refine lv_aload_n (pc := 1473) hx hb dL_law_1473 rfl (lv_at hl 1 rfl) ?_
      refine lv_aload_n (pc := 1474) hx hb dL_law_1474 rfl (lv_at hl 0 rfl) ?_
      refine lv_iload_n (pc := 1475) hx hb dL_law_1475 rfl (lv_at hl 3 rfl) ?_
      refine lv_iconst (pc := 1476) (v := 1) hx hb dL_law_1476 (by decide) ?_
      refine lv_iadd (pc := 1477) hx hb dL_law_1477 ?_
      refine va_sld (pc := 1478) hx hb hX hbl hbA hW.2.2.2.1 hk1 dL_law_1478 ?_
      refine lv_aload_n (pc := 1479) hx hb dL_law_1479 rfl (lv_at hl 0 rfl) ?_
      refine lv_iload_n (pc := 1480) hx hb dL_law_1480 rfl (lv_at hl 3 rfl) ?_
      refine lv_iconst (pc := 1481) (v := 2) hx hb dL_law_1481 (by decide) ?_
      refine lv_iadd (pc := 1482) hx hb dL_law_1482 ?_
      refine va_sld (pc := 1483) hx hb hX hbl hbA hW.2.2.2.1 hk2 dL_law_1483 ?_
      refine lv_aload_n (pc := 1484) hx hb dL_law_1484 rfl (lv_at hl 0 rfl) ?_
      refine lv_iload_n (pc := 1485) hx hb dL_law_1485 rfl (lv_at hl 3 rfl) ?_
      refine lv_iconst (pc := 1486) (v := 3) hx hb dL_law_1486 (by decide) ?_
      refine lv_iadd (pc := 1487) hx hb dL_law_1487 ?_
      refine va_sld (pc := 1488) hx hb hX hbl hbA hW.2.2.2.1 hk3 dL_law_1488 ?_
      refine lv_aload_n (pc := 1489) hx hb dL_law_1489 rfl (lv_at hl 0 rfl) ?_
      refine lv_iload_n (pc := 1490) hx hb dL_law_1490 rfl (lv_at hl 3 rfl) ?_
      refine lv_iconst (pc := 1491) (v := 4) hx hb dL_law_1491 (by decide) ?_
      refine lv_iadd (pc := 1492) hx hb dL_law_1492 ?_
      refine va_sld (pc := 1493) hx hb hX hbl hbA hW.2.2.2.1 hk4 dL_law_1493 ?_
      refine lv_aload_n (pc := 1494) hx hb dL_law_1494 rfl (lv_at hl 0 rfl) ?_
      refine lv_iload_n (pc := 1495) hx hb dL_law_1495 rfl (lv_at hl 3 rfl) ?_
      refine lv_iconst (pc := 1496) (v := 5) hx hb dL_law_1496 (by decide) ?_
      refine lv_iadd (pc := 1497) hx hb dL_law_1497 ?_
      refine va_sld (pc := 1498) hx hb hX hbl hbA hW.2.2.2.1 hk5 dL_law_1498 ?_
      obtain ⟨r, SX1, SR1, f1, f2, hRel⟩ := p_shift hRel (xs (Int32.toNatClampNeg (x3 + 1))) (xs (Int32.toNatClampNeg (x3 + 2))) (xs (Int32.toNatClampNeg (x3 + 3))) (xs (Int32.toNatClampNeg (x3 + 4))) (xs (Int32.toNatClampNeg (x3 + 5)))
      refine zcMi (As := [.int (xs (Int32.toNatClampNeg (x3 + 1))), .int (xs (Int32.toNatClampNeg (x3 + 2))), .int (xs (Int32.toNatClampNeg (x3 + 3))), .int (xs (Int32.toNatClampNeg (x3 + 4))), .int (xs (Int32.toNatClampNeg (x3 + 5)))]) (pc := 1499) (zEX_ok tt) hEs C0 hA hKX hW hmapX (kX11_shift l D cA h tt H.size (xs (Int32.toNatClampNeg (x3 + 1))) (xs (Int32.toNatClampNeg (x3 + 2))) (xs (Int32.toNatClampNeg (x3 + 3))) (xs (Int32.toNatClampNeg (x3 + 4))) (xs (Int32.toNatClampNeg (x3 + 5))) SX r SX1 f1) (cwV 5 hts (zgL inX gaX rfl rfl (List.mem_of_getElem? (i := 1159) (by decide +kernel)) (List.mem_of_getElem? (i := 1160) (by decide +kernel)) (List.mem_of_getElem? (i := 1161) (by decide +kernel)) (List.mem_of_getElem? (i := 95) (by decide +kernel)) mX_792 rfl rfl) rfl rfl rfl (by decide +kernel) ⟨(Nat.le_of_ble_eq_true rfl), (Nat.le_of_ble_eq_true rfl)⟩) (hrX hW) rfl hl.1 rfl (Nat.le_of_ble_eq_true rfl) dL_law_1499 hc0 hs0 (fun H locs hW => ?_)
      refine lv_aload_n (pc := 1502) hx hb dL_law_1502 rfl (lv_at hl 2 rfl) ?_
      refine lv_aload_n (pc := 1503) hx hb dL_law_1503 rfl (lv_at hl 0 rfl) ?_
      refine lv_iload_n (pc := 1504) hx hb dL_law_1504 rfl (lv_at hl 3 rfl) ?_
      refine lv_iconst (pc := 1505) (v := 1) hx hb dL_law_1505 (by decide) ?_
      refine lv_iadd (pc := 1506) hx hb dL_law_1506 ?_
      refine va_sld (pc := 1507) hx hb hX hbl hbA hW.2.2.2.1 hk1 dL_law_1507 ?_
      refine lv_aload_n (pc := 1508) hx hb dL_law_1508 rfl (lv_at hl 0 rfl) ?_
      refine lv_iload_n (pc := 1509) hx hb dL_law_1509 rfl (lv_at hl 3 rfl) ?_
      refine lv_iconst (pc := 1510) (v := 2) hx hb dL_law_1510 (by decide) ?_
      refine lv_iadd (pc := 1511) hx hb dL_law_1511 ?_
      refine va_sld (pc := 1512) hx hb hX hbl hbA hW.2.2.2.1 hk2 dL_law_1512 ?_
      refine lv_aload_n (pc := 1513) hx hb dL_law_1513 rfl (lv_at hl 0 rfl) ?_
      refine lv_iload_n (pc := 1514) hx hb dL_law_1514 rfl (lv_at hl 3 rfl) ?_
      refine lv_iconst (pc := 1515) (v := 3) hx hb dL_law_1515 (by decide) ?_
      refine lv_iadd (pc := 1516) hx hb dL_law_1516 ?_
      refine va_sld (pc := 1517) hx hb hX hbl hbA hW.2.2.2.1 hk3 dL_law_1517 ?_
      refine lv_aload_n (pc := 1518) hx hb dL_law_1518 rfl (lv_at hl 0 rfl) ?_
      refine lv_iload_n (pc := 1519) hx hb dL_law_1519 rfl (lv_at hl 3 rfl) ?_
      refine lv_iconst (pc := 1520) (v := 4) hx hb dL_law_1520 (by decide) ?_
      refine lv_iadd (pc := 1521) hx hb dL_law_1521 ?_
      refine va_sld (pc := 1522) hx hb hX hbl hbA hW.2.2.2.1 hk4 dL_law_1522 ?_
      refine lv_aload_n (pc := 1523) hx hb dL_law_1523 rfl (lv_at hl 0 rfl) ?_
      refine lv_iload_n (pc := 1524) hx hb dL_law_1524 rfl (lv_at hl 3 rfl) ?_
      refine lv_iconst (pc := 1525) (v := 5) hx hb dL_law_1525 (by decide) ?_
      refine lv_iadd (pc := 1526) hx hb dL_law_1526 ?_
      refine va_sld (pc := 1527) hx hb hX hbl hbA hW.2.2.2.1 hk5 dL_law_1527 ?_
      refine zcMi (As := [.int (xs (Int32.toNatClampNeg (x3 + 1))), .int (xs (Int32.toNatClampNeg (x3 + 2))), .int (xs (Int32.toNatClampNeg (x3 + 3))), .int (xs (Int32.toNatClampNeg (x3 + 4))), .int (xs (Int32.toNatClampNeg (x3 + 5)))]) (pc := 1528) zTr_ok trivial C0 hA hKR hW hmapR (kX12_shift l D cA2 h2 H.size zN (xs (Int32.toNatClampNeg (x3 + 1))) (xs (Int32.toNatClampNeg (x3 + 2))) (xs (Int32.toNatClampNeg (x3 + 3))) (xs (Int32.toNatClampNeg (x3 + 4))) (xs (Int32.toNatClampNeg (x3 + 5))) SR r SR1 f2) (cwV 5 hts (zgL inR gaR rfl rfl (List.mem_of_getElem? (i := 1760) (by decide +kernel)) (List.mem_of_getElem? (i := 1761) (by decide +kernel)) (List.mem_of_getElem? (i := 1762) (by decide +kernel)) (List.mem_of_getElem? (i := 108) (by decide +kernel)) mR_369 rfl rfl) rfl rfl rfl (by decide +kernel) ⟨(Nat.le_of_ble_eq_true rfl), (Nat.le_of_ble_eq_true rfl)⟩) (hrR hW) rfl hl.1 rfl (Nat.le_of_ble_eq_true rfl) dL_law_1528 hc0 hs0 (fun H locs hW => ?_)
      refine lv_icmp_eq (pc := 1531) (tgt := 1592) hx hb dL_law_1531 (by decide) (fun c1 => ?_) (fun c1 => absurd rfl c1)
      refine lv_iinc (pc := 1592) (v := (x3 + 6)) (lv' := [(3, .int (x3 + 6)), (0, .ref b), (1, .ref (h 11)), (2, .ref (h2 0))]) hx hb dL_law_1592 hl (k := 3) rfl rfl (by decide) rfl (fun ls hl => ?_)
      refine lv_goto (pc := 1595) (tgt := 18) hx hb dL_law_1595 (by decide) ?_
      exact ih (i + 6) (x3 + 6) (by omega) (by omega) (by rw [ex3]; exact nI_add i 6) SX1 SR1 hRel H locs hW ls (lv_sub hl [1, 2, 3, 0] rfl)
    by_cases c_37 : v = 37
    · refine lv_tableIn (pc := 33) (tgt := 1536) (off := 1503) hx hb dL_law_33 (by rw [c_37]; decide) (by rw [c_37]; decide) (by rw [c_37]; decide) (by decide) ?_
      refine lv_aload_n (pc := 1536) hx hb dL_law_1536 rfl (lv_at hl 1 rfl) ?_
      refine lv_aload_n (pc := 1537) hx hb dL_law_1537 rfl (lv_at hl 0 rfl) ?_
      refine lv_iload_n (pc := 1538) hx hb dL_law_1538 rfl (lv_at hl 3 rfl) ?_
      refine lv_iconst (pc := 1539) (v := 1) hx hb dL_law_1539 (by decide) ?_
      refine lv_iadd (pc := 1540) hx hb dL_law_1540 ?_
      refine va_sld (pc := 1541) hx hb hX hbl hbA hW.2.2.2.1 hk1 dL_law_1541 ?_
      refine lv_aload_n (pc := 1542) hx hb dL_law_1542 rfl (lv_at hl 0 rfl) ?_
      refine lv_iload_n (pc := 1543) hx hb dL_law_1543 rfl (lv_at hl 3 rfl) ?_
      refine lv_iconst (pc := 1544) (v := 2) hx hb dL_law_1544 (by decide) ?_
      refine lv_iadd (pc := 1545) hx hb dL_law_1545 ?_
      refine va_sld (pc := 1546) hx hb hX hbl hbA hW.2.2.2.1 hk2 dL_law_1546 ?_
      obtain ⟨r, SX1, SR1, f1, f2, hRel⟩ := p_taken hRel (xs (Int32.toNatClampNeg (x3 + 1))) (xs (Int32.toNatClampNeg (x3 + 2)))
      refine zcMi (As := [.int (xs (Int32.toNatClampNeg (x3 + 1))), .int (xs (Int32.toNatClampNeg (x3 + 2)))]) (pc := 1547) (zEX_ok tt) hEs C0 hA hKX hW hmapX (kX11_taken l D cA h tt H.size zN (xs (Int32.toNatClampNeg (x3 + 1))) (xs (Int32.toNatClampNeg (x3 + 2))) SX r SX1 f1) (cwV 2 hts (zgL inX gaX rfl rfl (List.mem_of_getElem? (i := 1168) (by decide +kernel)) (List.mem_of_getElem? (i := 1169) (by decide +kernel)) (List.mem_of_getElem? (i := 1170) (by decide +kernel)) (List.mem_of_getElem? (i := 95) (by decide +kernel)) mX_796 rfl rfl) rfl rfl rfl (by decide +kernel) ⟨(Nat.le_of_ble_eq_true rfl), (Nat.le_of_ble_eq_true rfl)⟩) (hrX hW) rfl hl.1 rfl (Nat.le_of_ble_eq_true rfl) dL_law_1547 hc0 hs0 (fun H locs hW => ?_)
      refine lv_aload_n (pc := 1550) hx hb dL_law_1550 rfl (lv_at hl 2 rfl) ?_
      refine lv_aload_n (pc := 1551) hx hb dL_law_1551 rfl (lv_at hl 0 rfl) ?_
      refine lv_iload_n (pc := 1552) hx hb dL_law_1552 rfl (lv_at hl 3 rfl) ?_
      refine lv_iconst (pc := 1553) (v := 1) hx hb dL_law_1553 (by decide) ?_
      refine lv_iadd (pc := 1554) hx hb dL_law_1554 ?_
      refine va_sld (pc := 1555) hx hb hX hbl hbA hW.2.2.2.1 hk1 dL_law_1555 ?_
      refine lv_aload_n (pc := 1556) hx hb dL_law_1556 rfl (lv_at hl 0 rfl) ?_
      refine lv_iload_n (pc := 1557) hx hb dL_law_1557 rfl (lv_at hl 3 rfl) ?_
      refine lv_iconst (pc := 1558) (v := 2) hx hb dL_law_1558 (by decide) ?_
      refine lv_iadd (pc := 1559) hx hb dL_law_1559 ?_
      refine va_sld (pc := 1560) hx hb hX hbl hbA hW.2.2.2.1 hk2 dL_law_1560 ?_
      refine zcMi (As := [.int (xs (Int32.toNatClampNeg (x3 + 1))), .int (xs (Int32.toNatClampNeg (x3 + 2)))]) (pc := 1561) zTr_ok trivial C0 hA hKR hW hmapR (kX12_taken l D cA2 h2 H.size (xs (Int32.toNatClampNeg (x3 + 1))) (xs (Int32.toNatClampNeg (x3 + 2))) SR r SR1 f2) (cwV 2 hts (zgL inR gaR rfl rfl (List.mem_of_getElem? (i := 1764) (by decide +kernel)) (List.mem_of_getElem? (i := 1765) (by decide +kernel)) (List.mem_of_getElem? (i := 1766) (by decide +kernel)) (List.mem_of_getElem? (i := 108) (by decide +kernel)) mR_370 rfl rfl) rfl rfl rfl (by decide +kernel) ⟨(Nat.le_of_ble_eq_true rfl), (Nat.le_of_ble_eq_true rfl)⟩) (hrR hW) rfl hl.1 rfl (Nat.le_of_ble_eq_true rfl) dL_law_1561 hc0 hs0 (fun H locs hW => ?_)
      refine lv_icmp_eq (pc := 1564) (tgt := 1592) hx hb dL_law_1564 (by decide) (fun c1 => ?_) (fun c1 => absurd rfl c1)
      refine lv_iinc (pc := 1592) (v := (x3 + 6)) (lv' := [(3, .int (x3 + 6)), (0, .ref b), (1, .ref (h 11)), (2, .ref (h2 0))]) hx hb dL_law_1592 hl (k := 3) rfl rfl (by decide) rfl (fun ls hl => ?_)
      refine lv_goto (pc := 1595) (tgt := 18) hx hb dL_law_1595 (by decide) ?_
      exact ih (i + 6) (x3 + 6) (by omega) (by omega) (by rw [ex3]; exact nI_add i 6) SX1 SR1 hRel H locs hW ls (lv_sub hl [1, 2, 3, 0] rfl)
    by_cases c_38 : v = 38
    · refine lv_tableIn (pc := 33) (tgt := 1569) (off := 1536) hx hb dL_law_33 (by rw [c_38]; decide) (by rw [c_38]; decide) (by rw [c_38]; decide) (by decide) ?_
      refine lv_aload_n (pc := 1569) hx hb dL_law_1569 rfl (lv_at hl 1 rfl) ?_
      refine lv_aload_n (pc := 1570) hx hb dL_law_1570 rfl (lv_at hl 0 rfl) ?_
      refine lv_iload_n (pc := 1571) hx hb dL_law_1571 rfl (lv_at hl 3 rfl) ?_
      refine lv_iconst (pc := 1572) (v := 1) hx hb dL_law_1572 (by decide) ?_
      refine lv_iadd (pc := 1573) hx hb dL_law_1573 ?_
      refine va_sld (pc := 1574) hx hb hX hbl hbA hW.2.2.2.1 hk1 dL_law_1574 ?_
      obtain ⟨r, SX1, SR1, f1, f2, hRel⟩ := p_count hRel (xs (Int32.toNatClampNeg (x3 + 1)))
      refine zcMi (As := [.int (xs (Int32.toNatClampNeg (x3 + 1)))]) (pc := 1575) (zEX_ok tt) hEs C0 hA hKX hW hmapX (kX11_count l D cA h tt H.size (xs (Int32.toNatClampNeg (x3 + 1))) SX r SX1 f1) (cwV 1 hts (zgL inX gaX rfl rfl (List.mem_of_getElem? (i := 1180) (by decide +kernel)) (List.mem_of_getElem? (i := 1181) (by decide +kernel)) (List.mem_of_getElem? (i := 1182) (by decide +kernel)) (List.mem_of_getElem? (i := 95) (by decide +kernel)) mX_803 rfl rfl) rfl rfl rfl (by decide +kernel) ⟨(Nat.le_of_ble_eq_true rfl), (Nat.le_of_ble_eq_true rfl)⟩) (hrX hW) rfl hl.1 rfl (Nat.le_of_ble_eq_true rfl) dL_law_1575 hc0 hs0 (fun H locs hW => ?_)
      refine lv_aload_n (pc := 1578) hx hb dL_law_1578 rfl (lv_at hl 2 rfl) ?_
      refine lv_aload_n (pc := 1579) hx hb dL_law_1579 rfl (lv_at hl 0 rfl) ?_
      refine lv_iload_n (pc := 1580) hx hb dL_law_1580 rfl (lv_at hl 3 rfl) ?_
      refine lv_iconst (pc := 1581) (v := 1) hx hb dL_law_1581 (by decide) ?_
      refine lv_iadd (pc := 1582) hx hb dL_law_1582 ?_
      refine va_sld (pc := 1583) hx hb hX hbl hbA hW.2.2.2.1 hk1 dL_law_1583 ?_
      refine zcMi (As := [.int (xs (Int32.toNatClampNeg (x3 + 1)))]) (pc := 1584) zTr_ok trivial C0 hA hKR hW hmapR (kX12_count l D cA2 h2 H.size (xs (Int32.toNatClampNeg (x3 + 1))) SR r SR1 f2) (cwV 1 hts (zgL inR gaR rfl rfl (List.mem_of_getElem? (i := 1735) (by decide +kernel)) (List.mem_of_getElem? (i := 1736) (by decide +kernel)) (List.mem_of_getElem? (i := 1737) (by decide +kernel)) (List.mem_of_getElem? (i := 108) (by decide +kernel)) mR_359 rfl rfl) rfl rfl rfl (by decide +kernel) ⟨(Nat.le_of_ble_eq_true rfl), (Nat.le_of_ble_eq_true rfl)⟩) (hrR hW) rfl hl.1 rfl (Nat.le_of_ble_eq_true rfl) dL_law_1584 hc0 hs0 (fun H locs hW => ?_)
      refine lv_icmp_eq (pc := 1587) (tgt := 1592) hx hb dL_law_1587 (by decide) (fun c1 => ?_) (fun c1 => absurd rfl c1)
      refine lv_iinc (pc := 1592) (v := (x3 + 6)) (lv' := [(3, .int (x3 + 6)), (0, .ref b), (1, .ref (h 11)), (2, .ref (h2 0))]) hx hb dL_law_1592 hl (k := 3) rfl rfl (by decide) rfl (fun ls hl => ?_)
      refine lv_goto (pc := 1595) (tgt := 18) hx hb dL_law_1595 (by decide) ?_
      exact ih (i + 6) (x3 + 6) (by omega) (by omega) (by rw [ex3]; exact nI_add i 6) SX1 SR1 hRel H locs hW ls (lv_sub hl [1, 2, 3, 0] rfl)
    refine lv_tableOut (pc := 33) (tgt := 1592) hx hb dL_law_33 (ztab 0 38 39 v (by decide) (fun j hj => match j, hj with | 0, _ => fun e => c_0 (e.trans (by decide)) | 1, _ => fun e => c_1 (e.trans (by decide)) | 2, _ => fun e => c_2 (e.trans (by decide)) | 3, _ => fun e => c_3 (e.trans (by decide)) | 4, _ => fun e => c_4 (e.trans (by decide)) | 5, _ => fun e => c_5 (e.trans (by decide)) | 6, _ => fun e => c_6 (e.trans (by decide)) | 7, _ => fun e => c_7 (e.trans (by decide)) | 8, _ => fun e => c_8 (e.trans (by decide)) | 9, _ => fun e => c_9 (e.trans (by decide)) | 10, _ => fun e => c_10 (e.trans (by decide)) | 11, _ => fun e => c_11 (e.trans (by decide)) | 12, _ => fun e => c_12 (e.trans (by decide)) | 13, _ => fun e => c_13 (e.trans (by decide)) | 14, _ => fun e => c_14 (e.trans (by decide)) | 15, _ => fun e => c_15 (e.trans (by decide)) | 16, _ => fun e => c_16 (e.trans (by decide)) | 17, _ => fun e => c_17 (e.trans (by decide)) | 18, _ => fun e => c_18 (e.trans (by decide)) | 19, _ => fun e => c_19 (e.trans (by decide)) | 20, _ => fun e => c_20 (e.trans (by decide)) | 21, _ => fun e => c_21 (e.trans (by decide)) | 22, _ => fun e => c_22 (e.trans (by decide)) | 23, _ => fun e => c_23 (e.trans (by decide)) | 24, _ => fun e => c_24 (e.trans (by decide)) | 25, _ => fun e => c_25 (e.trans (by decide)) | 26, _ => fun e => c_26 (e.trans (by decide)) | 27, _ => fun e => c_27 (e.trans (by decide)) | 28, _ => fun e => c_28 (e.trans (by decide)) | 29, _ => fun e => c_29 (e.trans (by decide)) | 30, _ => fun e => c_30 (e.trans (by decide)) | 31, _ => fun e => c_31 (e.trans (by decide)) | 32, _ => fun e => c_32 (e.trans (by decide)) | 33, _ => fun e => c_33 (e.trans (by decide)) | 34, _ => fun e => c_34 (e.trans (by decide)) | 35, _ => fun e => c_35 (e.trans (by decide)) | 36, _ => fun e => c_36 (e.trans (by decide)) | 37, _ => fun e => c_37 (e.trans (by decide)) | 38, _ => fun e => c_38 (e.trans (by decide)) | j + 39, h => absurd h (by omega))) (by decide) ?_
    refine lv_iinc (pc := 1592) (v := (x3 + 6)) (lv' := [(3, .int (x3 + 6)), (0, .ref b), (1, .ref (h 11)), (2, .ref (h2 0))]) hx hb dL_law_1592 hl (k := 3) rfl rfl (by decide) rfl (fun ls hl => ?_)
    refine lv_goto (pc := 1595) (tgt := 18) hx hb dL_law_1595 (by decide) ?_
    exact ih (i + 6) (x3 + 6) (by omega) (by omega) (by rw [ex3]; exact nI_add i 6) SX SR hRel H locs hW ls (lv_sub hl [1, 2, 3, 0] rfl)
