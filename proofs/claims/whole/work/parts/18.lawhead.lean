/-! THE CLAIM OUT OF ONE WALK OF THE LAW'S BODY. Your part is whole_start (and what it stands on); all else here is the same for every law, but numbers. -/
def R_law : String := "AcrossOnFootLaw"
def lw_P (b : Addr) (xs : List Int32) (args : Array Value) (s : State) : Prop := args = #[.ref b] ∧ s.IntsAt b xs ∧ xs.length ≤ 3072 ∧ (Jvm.Cond.and given_1 narrow_1).before args s = true
def lw_Q (_ : Array Value) (s : State) (o : Outcome) (t : State) : Prop := o = .returned (some (.int 1)) ∧ Framed s o t [] 600000 7302250
def lw_Z (below : List Frame) (a : Array Value) (s : State) : State → Prop := fun t => ∃ o, t.status = .running ∧ Ended t below o ∧ lw_Q a s o t
/-- the law's own end, with 1 on the stack, nothing written that was there before, its room as the claim has it -/
theorem lw_ret {p : Program} {l : Launch} {e : Env} {s : State} {m : MethodId} {below : List Frame} {meth : Method} {c : Code} {b : Nat} (hx : p.tables.exec = Jvm.exec) (hb : c.code = code) (hr : meth.sig.returnType = ret) (hlocks : meth.locks = false) {pc : Nat} {H : Heap} {ls : Array Slot} (hdg : decode code pc = .ok (.ireturn, 1)) : W p l e room_1 s m #[Value.ref b] below meth c H [] 600000 7302250 (lw_Z below #[Value.ref b] s) (F0 m pc ls [.int 1]) := by
  intro T hT X
  obtain ⟨fs, hret, hrun, hended, hW, hframe⟩ := X.leave (v := some (.int 1)) (hlocks := hlocks) (fun h => by rw [hr] at h; cases h)
  have hmeth' : T.vm.method? m = some meth := X.method'
  refine ⟨T.setFrames fs, ?_, .returned (some (.int 1)), hrun, hended, rfl, ⟨_, rfl⟩, hW, hframe⟩
  jvm_step X.here [X.here.top, hx, hb, hdg, hmeth', hr, ret, narrow_b1]
  (try refine ⟨rfl, ?_⟩); (try refine ⟨rfl, ?_⟩)
  first | (intro acts; rw [hret _ acts rfl rfl rfl]) | rw [hret _ _ rfl rfl rfl]
  exact Steps.refl _
/-- what holds at the law's entry: the machine, the code, the tables' words (any of lw_tbl by 'hts w (by decide +kernel)'), the script of L ints xs at the cell b, what the Statement gives of the start (any of its parts by flat_of_before) -/
def lw_At (p : Program) (s : State) (m : MethodId) (meth : Method) (c : Code) (b L : Nat) (xs : Nat → Int32) : Prop :=
  p.tables.exec = Jvm.exec ∧ c.code = code ∧ meth.sig.returnType = ret ∧ c.maxLocals = 4 ∧ s.vm.findClass R_law = some m.cls ∧ (∀ w ∈ lw_tbl, w.before #[Value.ref b] s = true) ∧ va_X b L xs s s.heap ∧ b < s.heap.size ∧ meth.locks = false ∧ (Jvm.Cond.and given_1 narrow_1).before #[Value.ref b] s = true


theorem zgL {big wa : List Cond} {own C : String} {idx maxL : Nat} {y : MethodName} {cc : ByteArray} {ret0 : Option FieldType} (hin : ∀ w ∈ wa, w ∈ big) (ha : ∀ w ∈ wa, goodWord w = true) (k1 : goodWord (Cond.methodLink own idx y) = true) (k3 : goodWord (Cond.selects C y y) = true) (h1 : Cond.methodLink own idx y ∈ big) (h2 : Cond.instanceMethod y ∈ big) (h3 : Cond.selects C y y ∈ big) (h4 : Cond.initialized C ∈ big) (h5 : Cond.code y cc maxL ret0 ∈ wa) (k2 : goodWord (Cond.instanceMethod y) = true) (k4 : goodWord (Cond.initialized C) = true) : GoodIn big (wsV own idx C y (Cond.code y cc maxL ret0 :: wa)) := by
  have key : ∀ w, w ∈ big → goodWord w = true → w ∈ big ∧ ((w.onTables && w.keeps) = true ∨ ∃ ty, w = .arrayClass ty) := fun w h g => ⟨h, good_of_word g⟩
  intro w hw
  unfold wsV at hw
  rcases List.mem_append.mp hw with hw | hw
  · rcases List.mem_cons.mp hw with rfl | hw
    · exact key _ h1 k1
    rcases List.mem_cons.mp hw with rfl | hw
    · exact key _ h2 k2
    rcases List.mem_cons.mp hw with rfl | hw
    · exact key _ h3 k3
    rcases List.mem_cons.mp hw with rfl | hw
    · exact key _ h4 k4
    · exact absurd hw List.not_mem_nil
  · rcases List.mem_cons.mp hw with rfl | hw
    · exact key _ (hin _ h5) (ha _ h5)
    · exact key _ (hin _ hw) (ha _ hw)
theorem zgLc {big wa : List Cond} {maxL : Nat} {y : MethodName} {cc : ByteArray} {ret0 : Option FieldType} (hin : ∀ w ∈ wa, w ∈ big) (ha : ∀ w ∈ wa, goodWord w = true) (h5 : Cond.code y cc maxL ret0 ∈ wa) : GoodIn big (Cond.code y cc maxL ret0 :: wa) := by
  have key : ∀ w, w ∈ big → goodWord w = true → w ∈ big ∧ ((w.onTables && w.keeps) = true ∨ ∃ ty, w = .arrayClass ty) := fun w h g => ⟨h, good_of_word g⟩
  intro w hw
  rcases List.mem_cons.mp hw with rfl | hw
  · exact key _ (hin _ h5) (ha _ h5)
  · exact key _ (hin _ hw) (ha _ hw)
section ZLW
variable {p : Program} {l : Launch} {e : Env} {R : Room} {s : State} {m : MethodId} {args : Array Value} {below : List Frame} {meth : Method} {c : Code} {H : Heap} {locs : List Loc} {cells slots : Nat} {Q : State → Prop}
variable {E : (Nat → Prop) → State → Heap → Prop} {cc : ByteArray} {pc nL : Nat} {ls : Array Slot} {rest : List Value} {D : va_G} {A : Nat → Prop} {a : Nat} {tys : List (ClassId × FieldType)} {ws : va_W} {own C : String} {Ts : List Cond} {hs : List Nat}
variable {y : MethodName} {bytes : ByteArray} {maxL n index : Nat} {cs : List Cond} {rm : Room} {b : Addr} {As : List Value} {wc wr : va_W} {tc : List (ClassId × FieldType)} {w1f : va_W} {st : List Value} {ret0 : Option FieldType}
theorem zLcut (hA : ∀ q, s.heap.size ≤ q → A q) (hW : zW zTr D tys (wc ++ wr) A s H locs) (hwc : wc.map Prod.fst = hs) :
    (∀ q, aW hs H.size q → A q) ∧ va_P D vwCl wc H ∧ va_D A wc := by
  have hL : ∀ (k : Nat) (q : Nat × va_E), wc[k]? = some q → (wc ++ wr)[k]? = some q := fun k q hq => by
    rw [List.getElem?_append_left (List.getElem?_eq_some_iff.mp hq).1]; exact hq
  have hDc : va_D A wc := ⟨fun i j x y hx hy hxy => hW.2.2.1.1 _ _ _ _ (hL i x hx) (hL j y hy) hxy, fun k q hq => hW.2.2.1.2 _ q (hL k q hq)⟩
  refine ⟨fun q hq => ?_, fun k q hq => hW.2.1 k q (hL k q hq), hDc⟩
  rcases hq with h | h
  · rw [← hwc] at h
    obtain ⟨x, h1, h2⟩ := List.mem_map.mp h
    obtain ⟨k, hk⟩ := List.getElem?_of_mem h1
    rw [← h2]
    exact hDc.2 k x hk
  · exact hA q (Nat.le_trans hW.2.2.2.1.1 h)
theorem zLjoin (hA : ∀ q, s.heap.size ≤ q → A q) (hW : zW zTr D tys (wc ++ wr) A s H locs) (hwc : wc.map Prod.fst = hs) {t : State} {H1 : Heap} {locs1 : List Loc} (ht : t.heap = H1) (hvm : s.vm.Alike t.vm) (hp : zPost D tc w1f (aW hs H.size) t) (hk : ∀ q : Nat, q < H.size → ¬ aW hs H.size q → H1[q]? = H[q]?) (hS : va_S A s.heap H1 locs1) : zW zTr D tys (wr ++ w1f) A s H1 locs1 := by
  obtain ⟨a1, a2, a3⟩ := hp
  rw [ht] at a1
  have hF : ∀ q, aW hs H.size q → A q := (zLcut hA hW hwc).1
  have key : ∀ (k : Nat) (q : Nat × va_E), wr[k]? = some q → q.1 < H.size ∧ ¬ aW hs H.size q.1 := fun k q hq => by
    have h1 : (wc ++ wr)[wc.length + k]? = some q := by rw [List.getElem?_append_right (by omega), show wc.length + k - wc.length = k by omega]; exact hq
    refine ⟨(hW.2.1 _ q h1).lt, fun z => ?_⟩
    rcases z with z | z
    · rw [← hwc] at z
      obtain ⟨x, h2, h3⟩ := List.mem_map.mp z
      obtain ⟨k2, hk2⟩ := List.getElem?_of_mem h2
      have hlt : k2 < wc.length := (List.getElem?_eq_some_iff.mp hk2).1
      have h4 : (wc ++ wr)[k2]? = some x := by rw [List.getElem?_append_left hlt]; exact hk2
      have := hW.2.2.1.1 _ _ _ _ h4 h1 h3
      omega
    · have := (hW.2.1 _ q h1).lt
      omega
  have hR : ∀ (k : Nat) (q : Nat × va_E), wr[k]? = some q → (wc ++ wr)[wc.length + k]? = some q := fun k q hq => by
    rw [List.getElem?_append_right (by omega), show wc.length + k - wc.length = k by omega]; exact hq
  have hPr : va_P D vwCl wr H1 := fun k q hq => (hW.2.1 _ q (hR k q hq)).kept (hk q.1 (key k q hq).1 (key k q hq).2)
  have hDr : va_D A wr := ⟨fun i j x y hx hy hxy => by have := hW.2.2.1.1 _ _ _ _ (hR i x hx) (hR j y hy) hxy; omega, fun k q hq => hW.2.2.1.2 _ q (hR k q hq)⟩
  exact ⟨hW.1, va_P.app hPr a1, va_D.app hDr (a3.weaken fun _ q _ h => hF _ h) (fun i j x y hx hy hxy => (key i x hx).2 (by rw [hxy]; exact a3.2 j y hy)), hS, trivial⟩
theorem zcMi {r : Int32} (hE : zOk E) (hEs : E A s s.heap) (C0 : CallFix p m c cc nL s args Ts own) (hA : ∀ q, s.heap.size ≤ q → A q) (hKc : va_K D vwCl tc s) (hW : zW zTr D tys (wc ++ wr) A s H locs) (hwc : wc.map Prod.fst = hs) (hM : zMi l y cs rm E D tc hs (.ref b :: As) wc w1f H.size r) (cw : CallW R s args own C index y bytes maxL ret0 cs rm 0 0 n) (hrc : ∃ cell : Cell, H[b]? = some cell ∧ cell.vm.isStatics = false ∧ s.vm.findClass C = some cell.cls)
    (hn : As.length = n) (hsz : ls.size = nL) (hst : st = As.reverse ++ .ref b :: rest) (hroom : (rest.map fun v => v.category).sum ≤ 8) (hdg : decode cc pc = .ok (.invokevirtual index, 3)) (hc0 : cells ≤ R.cells) (hs0 : slots ≤ R.slots)
    (kk : ∀ (H1 : Heap) (locs1 : List Loc), zW zTr D tys (wr ++ w1f) A s H1 locs1 → W p l e R s m args below meth c H1 locs1 cells slots Q (F0 m (pc + 3) ls (.int r :: rest))) : W p l e R s m args below meth c H locs cells slots Q (F0 m pc ls st) := by
  obtain ⟨hF, hPc, hDc⟩ := zLcut hA hW hwc
  have hpay : ∀ U : State, U.heap = H → s.WarmedH U.vm → va_Pc (.ref b :: As) (zPre E D tc hs wc H.size) (Value.ref b :: As).toArray U := fun U hU hw => by
    subst hU
    exact ⟨rfl, rfl, hPc, va_K.moved hw.alike hKc, hDc.weaken (fun _ _ _ _ => trivial), hE _ _ s U locs hEs hW.2.2.2.1 hw hF⟩
  refine va_calli (va_runV (As := As) (rest := rest) C0 hM cw ⟨zblind hE, hrc, hpay⟩ rfl hn hsz hst (lv_room hroom) hdg ⟨hc0, hs0⟩) hW.2.2.2.1 (fun q _ h => hF q h) hF (fun r' u t H1 locs1 ht hvm hr hp _ hk hS => ?_)
  subst hr
  exact kk H1 locs1 (zLjoin hA hW hwc ht hvm hp hk hS)
theorem zcMl {r : Int64} (hE : zOk E) (hEs : E A s s.heap) (C0 : CallFix p m c cc nL s args Ts own) (hA : ∀ q, s.heap.size ≤ q → A q) (hKc : va_K D vwCl tc s) (hW : zW zTr D tys (wc ++ wr) A s H locs) (hwc : wc.map Prod.fst = hs) (hM : zMl l y cs rm E D tc hs (.ref b :: As) wc w1f H.size r) (cw : CallW R s args own C index y bytes maxL ret0 cs rm 0 0 n) (hrc : ∃ cell : Cell, H[b]? = some cell ∧ cell.vm.isStatics = false ∧ s.vm.findClass C = some cell.cls)
    (hn : As.length = n) (hsz : ls.size = nL) (hst : st = As.reverse ++ .ref b :: rest) (hroom : (rest.map fun v => v.category).sum ≤ 8) (hdg : decode cc pc = .ok (.invokevirtual index, 3)) (hc0 : cells ≤ R.cells) (hs0 : slots ≤ R.slots)
    (kk : ∀ (H1 : Heap) (locs1 : List Loc), zW zTr D tys (wr ++ w1f) A s H1 locs1 → W p l e R s m args below meth c H1 locs1 cells slots Q (F0 m (pc + 3) ls (.long r :: rest))) : W p l e R s m args below meth c H locs cells slots Q (F0 m pc ls st) := by
  obtain ⟨hF, hPc, hDc⟩ := zLcut hA hW hwc
  have hpay : ∀ U : State, U.heap = H → s.WarmedH U.vm → va_Pc (.ref b :: As) (zPre E D tc hs wc H.size) (Value.ref b :: As).toArray U := fun U hU hw => by
    subst hU
    exact ⟨rfl, rfl, hPc, va_K.moved hw.alike hKc, hDc.weaken (fun _ _ _ _ => trivial), hE _ _ s U locs hEs hW.2.2.2.1 hw hF⟩
  refine va_calll (va_runV (As := As) (rest := rest) C0 hM cw ⟨zblind hE, hrc, hpay⟩ rfl hn hsz hst (lv_room hroom) hdg ⟨hc0, hs0⟩) hW.2.2.2.1 (fun q _ h => hF q h) hF (fun r' u t H1 locs1 ht hvm hr hp _ hk hS => ?_)
  subst hr
  exact kk H1 locs1 (zLjoin hA hW hwc ht hvm hp hk hS)
end ZLW
theorem zlaw_in {L i : Nat} (hL : L ≤ 3072) (hi : i ≤ L + 6) (c : ¬ (Int32.ofNat L - 6 < nI i)) : i + 6 ≤ L := by
  have e1 : (Int32.ofNat L).toInt = (L : Int) := Int32.toInt_ofNat_of_lt (by omega)
  have e2 : (nI i).toInt = (i : Int) := nI_toInt (by omega)
  have e3 : (Int32.ofNat L - 6).toInt = (L : Int) - 6 := by
    rw [Int32.toInt_sub, e1, show (6 : Int32).toInt = 6 by decide, Int.bmod_eq_of_le (by omega) (by omega)]
  rw [Int32.lt_iff_toInt_lt, e3, e2] at c
  omega
theorem zlaw_at {L i : Nat} (k : Nat) (h : i + 6 ≤ L) (hL : L ≤ 3072) (hk : k < 6) : vp_in (nI i + nI k) L := by
  rw [nI_add]
  exact vp_in_nI (by omega) (by omega)
theorem zlaw_at0 {L i : Nat} (h : i + 6 ≤ L) (hL : L ≤ 3072) : vp_in (nI i) L := vp_in_nI (by omega) (by omega)

