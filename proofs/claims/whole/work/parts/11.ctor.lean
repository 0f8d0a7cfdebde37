/-! CONSTRUCTORS: the world grows -/
abbrev zQt : Type := (Nat → Nat) × (Nat → ClassId)
abbrev zMc (l : Launch) (y : MethodName) (ws : List Cond) (rm : Room) (E : (Nat → Prop) → State → Heap → Prop) (D : va_G) (hs : List Nat) (av : List Value) (w0 : va_W) (ty1 : zQt → List (ClassId × FieldType)) (w1 : zQt → va_W) (sz mc ms : Nat) : Prop :=
  Met l y ws rm (va_Pc av (zPre E D [] hs w0 sz)) (va_Qv (fun (_ : zQt) => True) (fun u => zPost D (ty1 u) (w1 u) (aW hs sz)) (aW hs sz)) mc ms (aW hs sz)
theorem zEn_c {l : Launch} {y : MethodName} {ws ws' : List Cond} {rm : Room} {E : (Nat → Prop) → State → Heap → Prop} {D : va_G} {hs : List Nat} {av : List Value} {w0 : va_W} {ty1 : zQt → List (ClassId × FieldType)} {w1 : zQt → va_W} {sz mc ms : Nat} {cc : ByteArray} {maxL : Nat} {own : String}
    (hy : plainName y.cls = true) (hw : ws = Cond.code y cc maxL none :: ws') (ho : y.cls = own) (hi : y.name = "<init>") (hm : ∀ q ∈ w0, q.1 ∈ hs) (hlen : (lg_sl av).length ≤ maxL)
    (body : ∀ (p : Program) (e : Env) (s : State) (m : MethodId) (args : Array Value) (below : List Frame) (meth : Method) (c : Code) (Q : State → Prop) (H : Heap) (locs : List Loc), CallFix p m c cc maxL s args ws' own → meth.name = "<init>" → zW E D [] w0 (aW hs s.heap.size) s H locs →
      (∀ (u : zQt) (H : Heap) (locs : List Loc) (pc : Nat) (ls : Array Slot), zW E D (ty1 u) (w1 u) (aW hs s.heap.size) s H locs → decode cc pc = .ok (.return_, 1) → W p l e rm s m args below meth c H locs mc ms Q (F0 m pc ls [])) →
      ∀ ls : Array Slot, lv_has ls maxL (lv_args 0 av) → W p l e rm s m args below meth c H locs 0 0 Q (F0 m 0 ls [])) : zMc l y ws rm E D hs av w0 ty1 w1 sz mc ms := by
  refine Met.ofW (cc := cc) (maxL := maxL) (ret := none) hy hw ?_
  intro p e s m args below meth c s₁ B hml hv
  obtain ⟨rfl, hsz, hP, hK, hD0, hE0⟩ := hv
  have hx := B.exec
  have hb := B.bytes
  have hr := B.returns
  have hlocks := B.notSynchronized
  have hts0 := atoms_spec (ws := ws) B.pre
  have hts : ∀ w ∈ ws', w.before _ s = true := fun w h => hts0 w (by rw [hw]; exact List.mem_cons_of_mem _ h)
  have hown : s.vm.findClass own = some m.cls := by rw [← ho]; exact findClass_of_methodNamed B.named
  have hin : meth.name = "<init>" := (name_of_methodNamed B.named B.method).1.trans hi
  subst hsz
  rw [lg_entry_eq]
  refine body p e s m _ below meth c _ _ _ ⟨hx, hb, hml, hown, hts⟩ hin (zhW hm hP hK hD0 hE0) (fun u H locs pc ls hW hd => ?_) _ (lv_entry av hlen)
  exact W.vret hx hb hr (fun t ht hw => ⟨⟨u, rfl, trivial, by rw [ht]; exact hW.2.1, va_K.moved hw.alike hW.1, hW.2.2.1⟩, hW.2.2.2.1.F ht⟩) hW.2.2.2.1.2.2 hd
section ZC
variable {p : Program} {l : Launch} {e : Env} {R : Room} {s : State} {m : MethodId} {args : Array Value} {below : List Frame} {meth : Method} {c : Code} {H : Heap} {locs : List Loc} {cells slots : Nat} {Q : State → Prop}
variable {E : (Nat → Prop) → State → Heap → Prop} {cc : ByteArray} {pc nL : Nat} {ls : Array Slot} {rest : List Value} {D : va_G} {A : Nat → Prop} {a : Nat} {tys : List (ClassId × FieldType)} {ws : va_W} {own : String} {Ts : List Cond} {hs : List Nat}
theorem znew {C : String} {T : u_T} {N ci index : Nat} (C0 : CallFix p m c cc nL s args Ts own) (hin : ∀ w ∈ u_ws C T N, w ∈ Ts) (ty : Nat → FieldType) (hty : ∀ k, k < N → parseFieldDescriptor (T k).2.2.1 = some (ty k)) (hcl : Cond.classLink own index C ∈ Ts) (hinst : Cond.instantiable C N ∈ Ts) (hini : Cond.initialized C ∈ Ts)
    (hA : ∀ q, s.heap.size ≤ q → A q) (hW : zW E D tys ws A s H locs) (hc : vwCl[ci]? = some (C, T, N)) {fs : List Value} (hfs : ∀ j, j < N → defaultValue (ty j) = vp_V fs j) (hcells : cells + 1 ≤ R.cells) (hslots : slots + N ≤ R.slots) (hdg : decode cc pc = .ok (.new index, 3))
    (kk : ∀ (q : Nat) (H1 : Heap), zW E D tys (ws ++ [(q, .inr (ci, fs))]) A s H1 locs → W p l e R s m args below meth c H1 locs (cells + 1) (slots + N) Q (F0 m (pc + 3) ls (.ref q :: rest))) : W p l e R s m args below meth c H locs cells slots Q (F0 m pc ls rest) :=
  va_new C0.1 C0.2.1 C0.2.2.2.2 hin ty hty C0.2.2.2.1 (C0.2.2.2.2 _ hcl) (C0.2.2.2.2 _ hinst) (C0.2.2.2.2 _ hini) hW.1 hW.2.1 hW.2.2.1 hW.2.2.2.1 hA hc hfs hcells hslots hdg fun q H1 a1 a2 a3 => kk q H1 ⟨hW.1, a1, a2, a3, hW.2.2.2.2⟩
theorem znewa {atype : ArrayType} (C0 : CallFix p m c cc nL s args Ts own) (harr : Cond.arrayClass (newarray.typeOf atype) ∈ Ts) {ty : FieldType} (hty : newarray.typeOf atype = ty) (hA : ∀ q, s.heap.size ≤ q → A q) (hW : zW E D tys ws A s H locs)
    {n : Int32} {N' : Nat} {a0 : vp_A} (ha : ∀ cA : ClassId, vp_cell cA a0 = arrV cA N' (fun _ => defaultValue ty)) (hn : ¬ n < 0) (hN : n.toNatClampNeg = N') (hbytes : N' * componentBytes ty ≤ 536870912) (hcells : cells + 1 ≤ R.cells) (hslots : slots + N' ≤ R.slots) (hdg : decode cc pc = .ok (.newarray atype, 2))
    (kk : ∀ (q : Nat) (cA : ClassId) (H1 : Heap), zW E D (tys ++ [(cA, ty)]) (ws ++ [(q, .inl (cA, a0))]) A s H1 locs → W p l e R s m args below meth c H1 locs (cells + 1) (slots + N') Q (F0 m (pc + 2) ls (.ref q :: rest))) : W p l e R s m args below meth c H locs cells slots Q (F0 m pc ls (.int n :: rest)) :=
  va_newa C0.1 C0.2.1 (C0.2.2.2.2 _ harr) hty hW.1 hW.2.1 hW.2.2.1 hW.2.2.2.1 hA ha hn hN hbytes hcells hslots hdg fun q cA H1 k1 a1 a2 a3 => kk q cA H1 ⟨k1, a1, a2, a3, hW.2.2.2.2⟩
/-- a field in a constructor (a final one, a reference) -/
theorem zputR {C : String} {T : u_T} {N ci index : Nat} (C0 : CallFix p m c cc nL s args Ts own) (hmn : meth.name = "<init>") (hin : ∀ w ∈ u_ws C T N, w ∈ Ts) (ty0 : Nat → FieldType) (hty : ∀ k, k < N → parseFieldDescriptor (T k).2.2.1 = some (ty0 k)) (hnm : ∀ a, a < N → ∀ b, b < N → a ≠ b → (T a).2.1 ≠ (T b).2.1) (hW : zW E D tys ws A s H locs) (q0 : Nat) {fs : List Value} (he : ws[q0]? = some (a, .inr (ci, fs))) (hc : vwCl[ci]? = some (C, T, N)) (k : Nat) (hk : k < N) (hl : Cond.fieldLink own index (T k).1 (T k).2.1 (T k).2.2.1 ∈ Ts) (hfin : (T k).2.2.2 = true) (hdecl : (T k).1 = own) {ty : FieldType} {v : Value} (hd : parseFieldDescriptor (T k).2.2.1 = some ty) (hn : narrow ty v = v) (hfit : fits ty v = true) (hlen : k < fs.length)
    (hdg : decode cc pc = .ok (.putfield index, 3)) (kk : ∀ (H1 : Heap) (locs1 : List Loc), zW E D tys (ws.set q0 (a, .inr (ci, fs.set k v))) A s H1 locs1 → W p l e R s m args below meth c H1 locs1 cells slots Q (F0 m (pc + 3) ls rest)) : W p l e R s m args below meth c H locs cells slots Q (F0 m pc ls (v :: .ref a :: rest)) :=
  va_putF C0.1 C0.2.1 C0.2.2.2.2 hin ty0 hty hnm C0.2.2.2.1 hW.1 hW.2.1 hW.2.2.1 hW.2.2.2.1 q0 he hc k hk (C0.2.2.2.2 _ hl) (fun _ h => h) hfin hmn hdecl hd hn hfit hlen hdg fun H1 locs1 a1 a2 a3 => kk H1 locs1 ⟨hW.1, a1, a2, a3, hW.2.2.2.2⟩
variable {y : MethodName} {bytes : ByteArray} {maxL n index : Nat} {cs : List Cond} {rm : Room} {b : Addr} {As : List Value} {wc wr : va_W} {ty1 : zQt → List (ClassId × FieldType)} {w1 : zQt → va_W} {st : List Value} {mc ms : Nat}
theorem zjoin (hA : ∀ q, s.heap.size ≤ q → A q) (hW : zW E D tys ws A s H locs) (isC isR : List Nat) (hC : isC.map (fun i => ws[i]?) = wc.map some) (hR : isR.map (fun i => ws[i]?) = wr.map some) (hn : va_nd isR = true) (hdis : ∀ i ∈ isR, i ∉ isC) (hwc : wc.map Prod.fst = hs)
    {u : zQt} {t : State} {H1 : Heap} {locs1 : List Loc} (ht : t.heap = H1) (hvm : s.vm.Alike t.vm) (hp : zPost D (ty1 u) (w1 u) (aW hs H.size) t) (hk : ∀ q : Nat, q < H.size → ¬ aW hs H.size q → H1[q]? = H[q]?) (hS : va_S A s.heap H1 locs1) : zW E D (tys ++ ty1 u) (wr ++ w1 u) A s H1 locs1 := by
  obtain ⟨a1, a2, a3⟩ := hp
  rw [ht] at a1
  have hmem : ∀ q, va_A wc H.size q ↔ aW hs H.size q := by
    intro q
    constructor
    · rintro (⟨k, e, h⟩ | h)
      · exact Or.inl (by rw [← hwc]; exact List.mem_map_of_mem (f := Prod.fst) (List.mem_of_getElem? h))
      · exact Or.inr h
    · rintro (h | h)
      · rw [← hwc] at h
        obtain ⟨⟨q', e⟩, h1, h2⟩ := List.mem_map.mp h
        obtain ⟨k, hk⟩ := List.getElem?_of_mem h1
        exact Or.inl ⟨k, e, by rw [hk]; cases h2; rfl⟩
      · exact Or.inr h
  have hF := va_free (wc := wc) hW.2.2.1 hW.2.2.2.1 hA isC hC
  obtain ⟨j1, j2⟩ := va_join hW.2.1 hW.2.2.1 isC isR hC hR hn hdis (fun q h1 h2 => hk q h1 (fun z => h2 ((hmem q).mpr z))) hF a1 (a3.weaken fun _ q _ h => (hmem _).mpr h)
  exact ⟨hW.1.app (va_K.moved hvm.symm a2), j1, j2, hS, hW.2.2.2.2⟩
theorem zcut {sz : Nat} (hE : zOk E) (hA : ∀ q, s.heap.size ≤ q → A q) (hW : zW E D tys ws A s H locs) (isC : List Nat) (hCs : va_P D vwCl wc H) (hCd : va_D A wc) (hwc : wc.map Prod.fst = hs) {av : List Value} : ∀ U : State, U.heap = H → s.WarmedH U.vm → va_Pc av (zPre E D [] hs wc H.size) av.toArray U := fun U hU hw => by
  subst hU
  refine ⟨rfl, rfl, hCs, ⟨(va_K.moved hw.alike hW.1).1, fun k q h => by simp at h⟩, hCd.weaken (fun _ _ _ _ => trivial), hE _ _ s U locs hW.2.2.2.2 hW.2.2.2.1 hw fun q hq => ?_⟩
  rcases hq with h | h
  · rw [← hwc] at h
    obtain ⟨x, h1, h2⟩ := List.mem_map.mp h
    obtain ⟨k, hk⟩ := List.getElem?_of_mem h1
    rw [← h2]
    exact hCd.2 k x hk
  · exact hA q (Nat.le_trans hW.2.2.2.1.1 h)
/-- a constructor called on an object just made: its cell goes, and comes back with what it made -/
theorem zcC (hE : zOk E) (C0 : CallFix p m c cc nL s args Ts own) (hA : ∀ q, s.heap.size ≤ q → A q) (hW : zW E D tys ws A s H locs) (hM : zMc l y cs rm E D hs (.ref b :: As) wc ty1 w1 H.size mc ms) (cw : CallB R s args own index y bytes maxL none cs rm mc ms n ∧ y.name = "<init>" ∧ (Cond.instanceMethod y).before args s = true)
    (isC isR : List Nat) (hCf : isC.filterMap (fun i => ws[i]?) = wc) (hC : isC.map (fun i => ws[i]?) = wc.map some) (hR : isR.map (fun i => ws[i]?) = wr.map some) (hnC : va_nd isC = true) (hnd : va_nd isR = true) (hdis : ∀ i ∈ isR, i ∉ isC) (hwc : wc.map Prod.fst = hs)
    (hn : As.length = n) (hsz : ls.size = nL) (hst : st = As.reverse ++ .ref b :: rest) (hroom : (rest.map fun v => v.category).sum ≤ 8) (hf : cells + mc ≤ R.cells ∧ slots + ms ≤ R.slots) (hdg : decode cc pc = .ok (.invokespecial index, 3))
    (kk : ∀ (u : zQt) (H1 : Heap) (locs1 : List Loc), zW E D (tys ++ ty1 u) (wr ++ w1 u) A s H1 locs1 → W p l e R s m args below meth c H1 locs1 (cells + mc) (slots + ms) Q (F0 m (pc + 3) ls rest)) : W p l e R s m args below meth c H locs cells slots Q (F0 m pc ls st) := by
  have hF : ∀ q, aW hs H.size q → A q := fun q hq => by
    rcases hq with h | h
    · rw [← hwc] at h
      obtain ⟨x, h1, h2⟩ := List.mem_map.mp h
      obtain ⟨k, hk⟩ := List.getElem?_of_mem h1
      rw [← h2]
      exact (hW.2.2.1.sub isC hnC hC).2 k x hk
    · exact hA q (Nat.le_trans hW.2.2.2.1.1 h)
  refine va_callv (va_runI (As := As) (rest := rest) C0 hM cw ⟨zblind hE, zcut (sz := 0) hE hA hW isC (hW.2.1.sub isC hCf) (hW.2.2.1.sub isC hnC hC) hwc⟩ rfl hn hsz hst (lv_room hroom) hdg hf) hW.2.2.2.1 (fun q _ h => hF q h) hF (fun u t H1 locs1 ht hvm _ hp _ hk hS => ?_)
  exact kk u H1 locs1 (zjoin hA hW isC isR hC hR hnd hdis hwc ht hvm hp hk hS)
/-- the same, a nest mate's private constructor -/
theorem zcCN {host : String} (hE : zOk E) (C0 : CallFix p m c cc nL s args Ts own) (hA : ∀ q, s.heap.size ≤ q → A q) (hW : zW E D tys ws A s H locs) (hM : zMc l y cs rm E D hs (.ref b :: As) wc ty1 w1 H.size mc ms) (cw : va_CN R s args own index y host bytes maxL none cs rm mc ms n ∧ y.name = "<init>" ∧ (Cond.instanceMethod y).before args s = true)
    (isC isR : List Nat) (hCf : isC.filterMap (fun i => ws[i]?) = wc) (hC : isC.map (fun i => ws[i]?) = wc.map some) (hR : isR.map (fun i => ws[i]?) = wr.map some) (hnC : va_nd isC = true) (hnd : va_nd isR = true) (hdis : ∀ i ∈ isR, i ∉ isC) (hwc : wc.map Prod.fst = hs)
    (hn : As.length = n) (hsz : ls.size = nL) (hst : st = As.reverse ++ .ref b :: rest) (hroom : (rest.map fun v => v.category).sum ≤ 8) (hf : cells + mc ≤ R.cells ∧ slots + ms ≤ R.slots) (hdg : decode cc pc = .ok (.invokespecial index, 3))
    (kk : ∀ (u : zQt) (H1 : Heap) (locs1 : List Loc), zW E D (tys ++ ty1 u) (wr ++ w1 u) A s H1 locs1 → W p l e R s m args below meth c H1 locs1 (cells + mc) (slots + ms) Q (F0 m (pc + 3) ls rest)) : W p l e R s m args below meth c H locs cells slots Q (F0 m pc ls st) := by
  have hF : ∀ q, aW hs H.size q → A q := fun q hq => by
    rcases hq with h | h
    · rw [← hwc] at h
      obtain ⟨x, h1, h2⟩ := List.mem_map.mp h
      obtain ⟨k, hk⟩ := List.getElem?_of_mem h1
      rw [← h2]
      exact (hW.2.2.1.sub isC hnC hC).2 k x hk
    · exact hA q (Nat.le_trans hW.2.2.2.1.1 h)
  refine va_callv (va_runIN (As := As) (rest := rest) C0 hM cw ⟨zblind hE, zcut (sz := 0) hE hA hW isC (hW.2.1.sub isC hCf) (hW.2.2.1.sub isC hnC hC) hwc⟩ rfl hn hsz hst (lv_room hroom) hdg hf) hW.2.2.2.1 (fun q _ h => hF q h) hF (fun u t H1 locs1 ht hvm _ hp _ hk hS => ?_)
  exact kk u H1 locs1 (zjoin hA hW isC isR hC hR hnd hdis hwc ht hvm hp hk hS)
/-- a static method on one array of the world -/
theorem zcSC {tc : List (ClassId × FieldType)} {w1f : va_W} (hE : zOk E) (C0 : CallFix p m c cc nL s args Ts own) (hA : ∀ q, s.heap.size ≤ q → A q) (hW : zW E D tys ws A s H locs) (hM : zMv l y cs rm E D tc hs As wc w1f H.size) (cw : CallB R s args own index y bytes maxL none cs rm 0 0 n ∧ (Cond.static y).before args s = true)
    (isC isR isT : List Nat) (hCf : isC.filterMap (fun i => ws[i]?) = wc) (hC : isC.map (fun i => ws[i]?) = wc.map some) (hR : isR.map (fun i => ws[i]?) = wr.map some) (hT : isT.filterMap (fun i => tys[i]?) = tc) (hnC : va_nd isC = true) (hnd : va_nd isR = true) (hdis : ∀ i ∈ isR, i ∉ isC) (hwc : wc.map Prod.fst = hs)
    (hn : As.length = n) (hsz : ls.size = nL) (hst : st = As.reverse ++ rest) (hroom : (rest.map fun v => v.category).sum ≤ 8) (hdg : decode cc pc = .ok (.invokestatic index, 3)) (hc0 : cells ≤ R.cells) (hs0 : slots ≤ R.slots)
    (kk : ∀ (H1 : Heap) (locs1 : List Loc), zW E D tys (wr ++ w1f) A s H1 locs1 → W p l e R s m args below meth c H1 locs1 cells slots Q (F0 m (pc + 3) ls rest)) : W p l e R s m args below meth c H locs cells slots Q (F0 m pc ls st) := by
  have hF : ∀ q, aW hs H.size q → A q := fun q hq => by
    rcases hq with h | h
    · rw [← hwc] at h
      obtain ⟨x, h1, h2⟩ := List.mem_map.mp h
      obtain ⟨k, hk⟩ := List.getElem?_of_mem h1
      rw [← h2]
      exact (hW.2.2.1.sub isC hnC hC).2 k x hk
    · exact hA q (Nat.le_trans hW.2.2.2.1.1 h)
  have hpay : ∀ U : State, U.heap = H → s.WarmedH U.vm → va_Pc As (zPre E D tc hs wc H.size) As.toArray U := fun U hU hw => by
    obtain ⟨-, a1, a2, a3, a4, a5⟩ := zcut (sz := 0) hE hA hW isC (hW.2.1.sub isC hCf) (hW.2.2.1.sub isC hnC hC) hwc (av := As) U hU hw
    exact ⟨rfl, a1, a2, va_K.moved hw.alike (hW.1.sub isT hT), a4, a5⟩
  refine va_callv (va_runS (As := As) (rest := rest) C0 hM cw ⟨zblind hE, hpay⟩ rfl hn hsz hst (lv_room hroom) hdg ⟨hc0, hs0⟩) hW.2.2.2.1 (fun q _ h => hF q h) hF (fun u t H1 locs1 ht hvm _ hp _ hk hS => ?_)
  have hJ := zjoin (ty1 := fun _ => tc) (w1 := fun _ => w1f) (u := (fun _ => 0, fun _ => D.1 0)) hA hW isC isR hC hR hnd hdis hwc ht hvm hp hk hS
  exact kk H1 locs1 ⟨hW.1, hJ.2.1, hJ.2.2.1, hJ.2.2.2.1, hJ.2.2.2.2⟩
/-- new T[n][m] -/
theorem zmna {ty : FieldType} {idx : Nat} (C0 : CallFix p m c cc nL s args Ts own) (hclink : Cond.classLink own idx ("[" ++ (FieldType.array ty).toString) ∈ Ts) (hover : (Cond.arrayOver (.array ty)).before args s = true) (harr : Cond.arrayClass ty ∈ Ts) (hra : ∀ x : ClassId, s.vm.findClass (FieldType.array ty).toString = some x → va_RA s x ty)
    (hA : ∀ q, s.heap.size ≤ q → A q) (hW : zW E D tys ws A s H locs) {k n : Int32} {N' K' : Nat} {z : vp_A} (hn : ¬ n < 0) (hk : ¬ k < 0) (hN : n.toNatClampNeg = N') (hM : k.toNatClampNeg = K')
    (hb1 : N' * 4 ≤ 536870912) (hb2 : K' * componentBytes ty ≤ 536870912) (hb3 : K' ≤ 536870912) (hdf : fits ty (defaultValue ty) = true) (hdd : (defaultValue ty).isDefault = true) (hcells : cells + (1 + N') ≤ R.cells) (hslots : slots + (N' + N' * K') ≤ R.slots) (hz : ∀ c : ClassId, Jvm.Free.Multi.innerC c K' (defaultValue ty) = vp_cell c z) (hdg : decode cc pc = .ok (.multianewarray idx 2, 4))
    (kk : ∀ (q : Nat) (r : Nat → Nat) (cA cy : ClassId) (H1 : Heap), zW E D (tys ++ [(cA, .array ty), (cy, ty)]) (ws ++ ((q, .inl (cA, N', .inr (.inr (.inr (.inr (fun i => if i < N' then some (r i) else none)))))) :: (List.range N').map (fun i => (r i, .inl (cy, z))))) A s H1 locs →
      W p l e R s m args below meth c H1 locs (cells + 1 + N') (slots + N' + N' * K') Q (F0 m (pc + 4) ls (.ref q :: rest))) : W p l e R s m args below meth c H locs cells slots Q (F0 m pc ls (.int k :: .int n :: rest)) := by
  subst hN
  subst hM
  intro T hT Xs
  obtain ⟨hK, hP, hD, hS, hEE⟩ := hW
  obtain ⟨vm₁, cA, cy, -, fA, fC, hO, hI, X', step⟩ := Xs.multianewarray2F C0.1 C0.2.2.2.1 (C0.2.2.2.2 _ hclink) hover (C0.2.2.2.2 _ harr) (g := F0 m pc ls (.int k :: .int n :: rest)) rfl (by rw [C0.2.1]; exact hdg) rfl hn hk hb1 hb2 hb3 hdf hdd hcells hslots
  generalize hF : Jvm.Free.Multi.fill (T.setVm vm₁) cA cy n.toNatClampNeg k.toNatClampNeg (defaultValue ty) n.toNatClampNeg = F at X' step
  have hTh : (T.setVm vm₁).heap = H := hT
  obtain ⟨f1, f2, -, -⟩ := Jvm.Free.Multi.fill_facts (T.setVm vm₁) cA cy n.toNatClampNeg k.toNatClampNeg (defaultValue ty) n.toNatClampNeg
  rw [hF, hTh] at f1 f2
  have hold : ∀ x : Nat, x < H.size → F.heap[x]? = H[x]? := fun x hx => by
    have := Jvm.Free.Multi.fill_old (T.setVm vm₁) cA cy n.toNatClampNeg k.toNatClampNeg (defaultValue ty) (a := x) (by rw [hTh]; exact hx) n.toNatClampNeg
    rw [hF, hTh] at this
    exact this
  have hrow : ∀ j : Nat, j < n.toNatClampNeg → F.heap[H.size + 1 + j]? = some (vp_cell cy z) := fun j hj => by
    have := Jvm.Free.Multi.fill_inner (T.setVm vm₁) cA cy n.toNatClampNeg k.toNatClampNeg (defaultValue ty) n.toNatClampNeg j hj
    rw [hF, hTh, hz] at this
    exact this
  have hout : Jvm.Free.Multi.outerC cA n.toNatClampNeg H.size n.toNatClampNeg = vp_cell cA (n.toNatClampNeg, .inr (.inr (.inr (.inr (fun i => if i < n.toNatClampNeg then some (H.size + 1 + i) else none))))) := by
    rw [vp_cell_q]
    exact vr_outer cA n.toNatClampNeg H.size n.toNatClampNeg
  rw [hout] at f2
  have hlt : ∀ (k9 : Nat) (x : Nat × va_E), ws[k9]? = some x → x.1 < H.size := fun k9 x hx => (hP k9 x hx).lt
  have hP0 : va_P D vwCl ws F.heap := hP.kept (fun k9 x hx => hold x.1 (hlt k9 x hx))
  have hrg : ∀ (k9 : Nat) (x : Nat × va_E), ((List.range n.toNatClampNeg).map (fun i => ((H.size + 1 + i, .inl (cy, z)) : Nat × va_E)))[k9]? = some x → k9 < n.toNatClampNeg ∧ x = (H.size + 1 + k9, .inl (cy, z)) := fun k9 x hx => by
    rw [List.getElem?_map] at hx
    by_cases h9 : k9 < n.toNatClampNeg
    · rw [List.getElem?_range h9] at hx
      cases hx
      exact ⟨h9, rfl⟩
    · rw [List.getElem?_eq_none (by rw [List.length_range]; omega)] at hx
      cases hx
  have hnew : ∀ (k9 : Nat) (x : Nat × va_E), (((H.size, .inl (cA, n.toNatClampNeg, .inr (.inr (.inr (.inr (fun i => if i < n.toNatClampNeg then some (H.size + 1 + i) else none)))))) : Nat × va_E) :: (List.range n.toNatClampNeg).map (fun i => (H.size + 1 + i, .inl (cy, z))))[k9]? = some x → x.1 = H.size + k9 ∧ va_at D vwCl x F.heap := fun k9 x hx => by
    cases k9 with
    | zero =>
      cases hx
      exact ⟨rfl, f2⟩
    | succ k9 =>
      obtain ⟨h1, rfl⟩ := hrg k9 x hx
      exact ⟨by show H.size + 1 + k9 = H.size + (k9 + 1); omega, hrow k9 h1⟩
  have hP1 := hP0.app (fun k9 x hx => (hnew k9 x hx).2)
  have hD1 : va_D A (ws ++ (((H.size, .inl (cA, n.toNatClampNeg, .inr (.inr (.inr (.inr (fun i => if i < n.toNatClampNeg then some (H.size + 1 + i) else none)))))) : Nat × va_E) :: (List.range n.toNatClampNeg).map (fun i => (H.size + 1 + i, .inl (cy, z))))) := by
    refine ⟨fun i j x y hi hj hxy => ?_, fun k9 x hx => ?_⟩
    · by_cases h1 : i < ws.length <;> by_cases h2 : j < ws.length
      · rw [List.getElem?_append_left h1] at hi
        rw [List.getElem?_append_left h2] at hj
        exact hD.1 i j x y hi hj hxy
      · rw [List.getElem?_append_left h1] at hi
        rw [List.getElem?_append_right (by omega)] at hj
        have := hlt _ _ hi
        have := (hnew _ _ hj).1
        omega
      · rw [List.getElem?_append_right (by omega)] at hi
        rw [List.getElem?_append_left h2] at hj
        have := hlt _ _ hj
        have := (hnew _ _ hi).1
        omega
      · rw [List.getElem?_append_right (by omega)] at hi hj
        have := (hnew _ _ hi).1
        have := (hnew _ _ hj).1
        omega
    · by_cases h1 : k9 < ws.length
      · rw [List.getElem?_append_left h1] at hx
        exact hD.2 k9 x hx
      · rw [List.getElem?_append_right (by omega)] at hx
        have := (hnew _ _ hx).1
        exact hA _ (by have := hS.1; omega)
  have hAr : ArrOfT s cA (.array ty) := fun N9 z9 => by
    obtain ⟨-, k9, hk9, cm9, hkk9⟩ := (hO 0 0 0).1
    exact ⟨(fun q hq => by cases hq), k9, hk9, cm9, hkk9⟩
  have hAi : ArrOfT s cy ty := fun N9 z9 => by
    obtain ⟨-, k9, hk9, cm9, hkk9⟩ := (hI 0 (defaultValue ty)).1
    exact ⟨(fun q hq => by cases hq), k9, hk9, cm9, hkk9⟩
  have hK2 : va_K D vwCl (tys ++ [(cA, .array ty), (cy, ty)]) s := ⟨hK.1, fun k9 x hx => by
    by_cases hl : k9 < tys.length
    · rw [List.getElem?_append_left hl] at hx
      exact hK.2 k9 x hx
    · rw [List.getElem?_append_right (by omega)] at hx
      have h0 : k9 - tys.length < 2 := (List.getElem?_eq_some_iff.mp hx).1
      rcases (show k9 - tys.length = 0 ∨ k9 - tys.length = 1 by omega) with h0 | h0
      · rw [h0] at hx
        cases hx
        exact ⟨hAr, fA⟩
      · rw [h0] at hx
        cases hx
        exact ⟨hAi, hra _ fC⟩⟩
  obtain ⟨t, a1, b1⟩ := kk H.size (fun i => H.size + 1 + i) cA cy F.heap ⟨hK2, hP1, hD1, ⟨by rw [f1]; have := hS.1; omega, fun x h1 h2 => (hold x (Nat.lt_of_lt_of_le h1 hS.1)).trans (hS.2.1 x h1 h2), hS.2.2⟩, hEE⟩ F rfl X'
  refine ⟨t, step t ?_, b1⟩
  have e : T.heap.size = H.size := by rw [hT]
  rw [e]
  exact a1
end ZC
