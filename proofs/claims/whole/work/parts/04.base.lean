/-! BASE: states as functions, rows over one bundle (classes known, the world's cells, frame), contracts that say 'the method computes this function' -/
abbrev zSt : Type := (Nat → Int32) × (Nat → Nat → Int32) × (Nat → Nat → Int64)
def zI (S : zSt) (k : Nat) (v : Int32) : zSt := (vf_upd S.1 k v, S.2)
def zA (S : zSt) (c k : Nat) (v : Int32) : zSt := (S.1, vf_upd S.2.1 c (upd (S.2.1 c) k v), S.2.2)
def zJ (S : zSt) (c k : Nat) (v : Int64) : zSt := (S.1, S.2.1, vf_upd S.2.2 c (vp_updL (S.2.2 c) k v))
abbrev zin (i : Int32) (n : Nat) : Prop := ¬ (i < 0 ∨ n ≤ i.toNatClampNeg)
abbrev zbit (v : Int32) : Prop := v = 0 ∨ v = 1
def zB {α β γ : Type} (o : Option (α × β)) (k : α → β → Option γ) : Option γ := o.bind fun q => k q.1 q.2
def zU {α γ : Type} (o : Option α) (k : α → Option γ) : Option γ := o.bind k
def zL {α γ : Type} (a : α) (k : α → γ) : γ := k a
theorem zB_e {α β γ : Type} {o : Option (α × β)} {k : α → β → Option γ} {x : γ} (e : zB o k = some x) : ∃ (a : α) (b : β), o = some (a, b) ∧ k a b = some x := by
  obtain ⟨⟨a, b⟩, h1, h2⟩ := Option.bind_eq_some_iff.mp e
  exact ⟨a, b, h1, h2⟩
theorem zU_e {α γ : Type} {o : Option α} {k : α → Option γ} {x : γ} (e : zU o k = some x) : ∃ a : α, o = some a ∧ k a = some x := by
  obtain ⟨a, h1, h2⟩ := Option.bind_eq_some_iff.mp e
  exact ⟨a, h1, h2⟩
theorem zL_e {α γ : Type} {a : α} {k : α → Option γ} {x : γ} (e : zL a k = some x) : ∃ b : α, b = a ∧ k b = some x := ⟨a, rfl, e⟩
theorem zt {c : Prop} [Decidable c] {α : Type} {a b x : α} (h : c) (e : (if c then a else b) = x) : a = x := by rw [if_pos h] at e; exact e
theorem zf {c : Prop} [Decidable c] {α : Type} {a b x : α} (h : ¬ c) (e : (if c then a else b) = x) : b = x := by rw [if_neg h] at e; exact e
theorem zn {c : Prop} [Decidable c] {α : Type} {a : Option α} {x : α} (e : (if c then a else none) = some x) : c ∧ a = some x := by
  by_cases h : c
  · exact ⟨h, zt h e⟩
  · exact absurd (zf h e) (by simp)
theorem zbit_nar {v : Int32} (h : zbit v) : narrow .boolean (.int v) = .int v := by
  rcases h with h | h <;> subst h <;> rfl
theorem zlook (dflt : Int) (x : Int32) : ∀ ps : List (Int × Int), (∀ q ∈ ps, ¬ x.toInt = q.1) → Op.lookupswitch.offset ps dflt x.toInt = dflt := by
  intro ps
  induction ps with
  | nil => intro _; rfl
  | cons q t ih =>
    intro h
    obtain ⟨a, o⟩ := q
    rw [Op.lookupswitch.offset_cons, if_neg (fun e => h (a, o) List.mem_cons_self e.symm)]
    exact ih fun z hz => h z (List.mem_cons_of_mem _ hz)
theorem zlk {x k : Int32} {n : Int} (h : ¬ x = k) (e : k.toInt = n) : ¬ x.toInt = n := fun z => h (Int32.toInt.inj (z.trans e.symm))
theorem ztab (lo hi : Int) (n : Nat) (x : Int32) (hh : hi = lo + n - 1) (h : ∀ j : Nat, j < n → ¬ x = Int32.ofInt (lo + j)) : x.toInt < lo ∨ hi < x.toInt := by
  by_cases a : x.toInt < lo
  · exact Or.inl a
  · by_cases b : hi < x.toInt
    · exact Or.inr b
    · exfalso
      refine h (x.toInt - lo).toNat (by omega) ?_
      rw [show lo + ((x.toInt - lo).toNat : Int) = x.toInt from by omega]
      exact (Int32.ofInt_toInt x).symm
abbrev zmx (x y : Int32) : Int32 := if x < y then y else x
abbrev zmn (x y : Int32) : Int32 := if y < x then y else x
abbrev zab (x : Int32) : Int32 := if 0 ≤ x then x else 0 - x
def zcA (S : zSt) (a b i j n : Nat) : zSt := (S.1, vf_upd S.2.1 b (va_cpy (S.2.1 a) (S.2.1 b) i j n), S.2.2)
def zcJ (S : zSt) (a b i j n : Nat) : zSt := (S.1, S.2.1, vf_upd S.2.2 b (va_cpy (S.2.2 a) (S.2.2 b) i j n))
def zi8 (x : Int32) : Int32 := x.toInt8.toInt32
def zi16 (x : Int32) : Int32 := x.toInt16.toInt32
def zus (x y : Int32) : Int32 := (x.toUInt32 >>> (y.toUInt32 &&& Int32.toUInt32 31)).toInt32
/-- a set of addresses, and all that is new -/
def aW (hs : List Nat) (sz : Nat) : Nat → Prop := fun q => q ∈ hs ∨ sz ≤ q
theorem aW_up {hs : List Nat} {a b : Nat} (h : a ≤ b) : ∀ q, aW hs b q → aW hs a q := fun q hq => hq.elim Or.inl fun x => Or.inr (Nat.le_trans h x)
/-- the world in hand: the classes' facts s, the cells ws, apart and within A, what isn't in A as it was -/
def zW (E : (Nat → Prop) → State → Heap → Prop) (D : va_G) (tys : List (ClassId × FieldType)) (ws : va_W) (A : Nat → Prop) (s : State) (H : Heap) (locs : List Loc) : Prop := va_K D vwCl tys s ∧ va_P D vwCl ws H ∧ va_D A ws ∧ va_S A s.heap H locs ∧ E A s s.heap
def zPre (E : (Nat → Prop) → State → Heap → Prop) (D : va_G) (tys : List (ClassId × FieldType)) (hs : List Nat) (ws : va_W) (sz : Nat) (U : State) : Prop := U.heap.size = sz ∧ va_P D vwCl ws U.heap ∧ va_K D vwCl tys U ∧ va_D (fun _ => True) ws ∧ E (aW hs sz) U U.heap
/-- E stays true from a start to a later one, over fewer addresses -/
def zOk (E : (Nat → Prop) → State → Heap → Prop) : Prop := ∀ (A B : Nat → Prop) (s U : State) (locs : List Loc), E A s s.heap → va_S A s.heap U.heap locs → s.WarmedH U.vm → (∀ q, B q → A q) → E B U U.heap
def zPost (D : va_G) (tys : List (ClassId × FieldType)) (ws : va_W) (A : Nat → Prop) (t : State) : Prop := va_P D vwCl ws t.heap ∧ va_K D vwCl tys t ∧ va_D A ws
/-- contracts: the method answers r (an int, a long, nothing), and the world becomes w1 -/
abbrev zMi (l : Launch) (y : MethodName) (ws : List Cond) (rm : Room) (E : (Nat → Prop) → State → Heap → Prop) (D : va_G) (tys : List (ClassId × FieldType)) (hs : List Nat) (av : List Value) (w0 w1 : va_W) (sz : Nat) (r : Int32) : Prop :=
  Met l y ws rm (va_Pc av (zPre E D tys hs w0 sz)) (va_Qi (fun (r' : Int32) (_ : Unit) => r' = r) (fun _ => zPost D tys w1 (aW hs sz)) (aW hs sz)) 0 0 (aW hs sz)
abbrev zMl (l : Launch) (y : MethodName) (ws : List Cond) (rm : Room) (E : (Nat → Prop) → State → Heap → Prop) (D : va_G) (tys : List (ClassId × FieldType)) (hs : List Nat) (av : List Value) (w0 w1 : va_W) (sz : Nat) (r : Int64) : Prop :=
  Met l y ws rm (va_Pc av (zPre E D tys hs w0 sz)) (va_Ql (fun (r' : Int64) (_ : Unit) => r' = r) (fun _ => zPost D tys w1 (aW hs sz)) (aW hs sz)) 0 0 (aW hs sz)
abbrev zMv (l : Launch) (y : MethodName) (ws : List Cond) (rm : Room) (E : (Nat → Prop) → State → Heap → Prop) (D : va_G) (tys : List (ClassId × FieldType)) (hs : List Nat) (av : List Value) (w0 w1 : va_W) (sz : Nat) : Prop :=
  Met l y ws rm (va_Pc av (zPre E D tys hs w0 sz)) (va_Qv (fun (_ : Unit) => True) (fun _ => zPost D tys w1 (aW hs sz)) (aW hs sz)) 0 0 (aW hs sz)
/-- contracts of static methods that touch no cell -/
abbrev zMs (l : Launch) (y : MethodName) (ws : List Cond) (rm : Room) (av : List Value) (sz : Nat) (r : Int32) : Prop :=
  Met l y ws rm (va_Pc av (fun U => U.heap.size = sz)) (va_Qi (fun (r' : Int32) (_ : Unit) => r' = r) (fun _ _ => True) (aW [] sz)) 0 0 (aW [] sz)
abbrev zMsl (l : Launch) (y : MethodName) (ws : List Cond) (rm : Room) (av : List Value) (sz : Nat) (r : Int64) : Prop :=
  Met l y ws rm (va_Pc av (fun U => U.heap.size = sz)) (va_Ql (fun (r' : Int64) (_ : Unit) => r' = r) (fun _ _ => True) (aW [] sz)) 0 0 (aW [] sz)
/-- the words that a call of y wants, out of one list of words for all methods -/
theorem zgV {wa : List Cond} {own C : String} {idx maxL : Nat} {y : MethodName} {cc : ByteArray} {ret : Option FieldType} (ha : ∀ w ∈ wa, goodWord w = true) (h1 : Cond.methodLink own idx y ∈ wa) (h2 : Cond.instanceMethod y ∈ wa) (h3 : Cond.selects C y y ∈ wa) (h4 : Cond.initialized C ∈ wa) (h5 : Cond.code y cc maxL ret ∈ wa) : GoodIn wa (wsV own idx C y (Cond.code y cc maxL ret :: wa)) := by
  have key : ∀ w, w ∈ wa → w ∈ wa ∧ ((w.onTables && w.keeps) = true ∨ ∃ ty, w = .arrayClass ty) := fun w h => ⟨h, good_of_word (ha w h)⟩
  intro w hw
  apply key
  unfold wsV at hw
  rcases List.mem_append.mp hw with hw | hw
  · rcases List.mem_cons.mp hw with rfl | hw
    · exact h1
    rcases List.mem_cons.mp hw with rfl | hw
    · exact h2
    rcases List.mem_cons.mp hw with rfl | hw
    · exact h3
    rcases List.mem_cons.mp hw with rfl | hw
    · exact h4
    · exact absurd hw List.not_mem_nil
  · rcases List.mem_cons.mp hw with rfl | hw
    · exact h5
    · exact hw
theorem zgS {wa : List Cond} {own : String} {idx maxL : Nat} {y : MethodName} {cc : ByteArray} {ret : Option FieldType} (ha : ∀ w ∈ wa, goodWord w = true) (h1 : Cond.methodLink own idx y ∈ wa) (h2 : Cond.static y ∈ wa) (h4 : Cond.initialized y.cls ∈ wa) (h5 : Cond.code y cc maxL ret ∈ wa) : GoodIn wa (va_wsS own idx y (Cond.code y cc maxL ret :: wa)) := by
  have key : ∀ w, w ∈ wa → w ∈ wa ∧ ((w.onTables && w.keeps) = true ∨ ∃ ty, w = .arrayClass ty) := fun w h => ⟨h, good_of_word (ha w h)⟩
  intro w hw
  apply key
  unfold va_wsS at hw
  rcases List.mem_append.mp hw with hw | hw
  · rcases List.mem_cons.mp hw with rfl | hw
    · exact h1
    rcases List.mem_cons.mp hw with rfl | hw
    · exact h2
    rcases List.mem_cons.mp hw with rfl | hw
    · exact h4
    · exact absurd hw List.not_mem_nil
  · rcases List.mem_cons.mp hw with rfl | hw
    · exact h5
    · exact hw
theorem zgN {wa : List Cond} {maxL : Nat} {y : MethodName} {cc : ByteArray} {ret : Option FieldType} (ha : ∀ w ∈ wa, goodWord w = true) (h5 : Cond.code y cc maxL ret ∈ wa) : GoodIn wa (Cond.code y cc maxL ret :: wa) := fun w hw => by
  have key : ∀ w, w ∈ wa → w ∈ wa ∧ ((w.onTables && w.keeps) = true ∨ ∃ ty, w = .arrayClass ty) := fun w h => ⟨h, good_of_word (ha w h)⟩
  apply key
  rcases List.mem_cons.mp hw with rfl | hw
  · exact h5
  · exact hw
section ZB
variable {p : Program} {l : Launch} {e : Env} {R : Room} {s : State} {m : MethodId} {args : Array Value} {below : List Frame} {meth : Method} {c : Code} {H : Heap} {locs : List Loc} {cells slots : Nat} {Q : State → Prop}
variable {E : (Nat → Prop) → State → Heap → Prop} {cc : ByteArray} {pc nL : Nat} {ls : Array Slot} {rest : List Value} {D : va_G} {A : Nat → Prop} {a : Nat} {tys : List (ClassId × FieldType)} {ws : va_W} {own : String} {Ts : List Cond} {hs : List Nat}
theorem ztopi {x v : Int32} (h : v = x) (k : W p l e R s m args below meth c H locs cells slots Q (F0 m pc ls (.int v :: rest))) : W p l e R s m args below meth c H locs cells slots Q (F0 m pc ls (.int x :: rest)) := h ▸ k
theorem ztopl {x v : Int64} (h : v = x) (k : W p l e R s m args below meth c H locs cells slots Q (F0 m pc ls (.long v :: rest))) : W p l e R s m args below meth c H locs cells slots Q (F0 m pc ls (.long x :: rest)) := h ▸ k
theorem zget {C : String} {T : u_T} {N ci index : Nat} (C0 : CallFix p m c cc nL s args Ts own) (hin : ∀ w ∈ u_ws C T N, w ∈ Ts) (hW : zW E D tys ws A s H locs) (q0 : Nat) {fs : List Value} (he : ws[q0]? = some (a, .inr (ci, fs))) (hc : vwCl[ci]? = some (C, T, N)) (k : Nat) (hk : k < N) (hl : Cond.fieldLink own index (T k).1 (T k).2.1 (T k).2.2.1 ∈ Ts) {v : Value} (hv : fs[k]? = some v) (hdg : decode cc pc = .ok (.getfield index, 3))
    (kk : W p l e R s m args below meth c H locs cells slots Q (F0 m (pc + 3) ls (v :: rest))) : W p l e R s m args below meth c H locs cells slots Q (F0 m pc ls (.ref a :: rest)) :=
  va_get C0.1 C0.2.1 C0.2.2.2.2 hin C0.2.2.2.1 hW.1 hW.2.1 q0 he hc k hk (C0.2.2.2.2 _ hl) (fun _ h => h) hv hdg kk
theorem zput {C : String} {T : u_T} {N ci index : Nat} (C0 : CallFix p m c cc nL s args Ts own) (hin : ∀ w ∈ u_ws C T N, w ∈ Ts) (ty0 : Nat → FieldType) (hty : ∀ k, k < N → parseFieldDescriptor (T k).2.2.1 = some (ty0 k)) (hnm : ∀ a, a < N → ∀ b, b < N → a ≠ b → (T a).2.1 ≠ (T b).2.1) (hW : zW E D tys ws A s H locs) (q0 : Nat) {fs : List Value} (he : ws[q0]? = some (a, .inr (ci, fs))) (hc : vwCl[ci]? = some (C, T, N)) (k : Nat) (hk : k < N) (hl : Cond.fieldLink own index (T k).1 (T k).2.1 (T k).2.2.1 ∈ Ts) (hfin : (T k).2.2.2 = false) {v : Int32} (hd : parseFieldDescriptor (T k).2.2.1 = some .int) (hlen : k < fs.length)
    (hdg : decode cc pc = .ok (.putfield index, 3)) (kk : ∀ (H1 : Heap) (locs1 : List Loc), zW E D tys (ws.set q0 (a, .inr (ci, fs.set k (.int v)))) A s H1 locs1 → W p l e R s m args below meth c H1 locs1 cells slots Q (F0 m (pc + 3) ls rest)) : W p l e R s m args below meth c H locs cells slots Q (F0 m pc ls (.int v :: .ref a :: rest)) :=
  va_put C0.1 C0.2.1 C0.2.2.2.2 hin ty0 hty hnm C0.2.2.2.1 hW.1 hW.2.1 hW.2.2.1 hW.2.2.2.1 q0 he hc k hk (C0.2.2.2.2 _ hl) (fun _ h => h) hfin hd rfl rfl hlen hdg fun H1 locs1 a1 a2 a3 => kk H1 locs1 ⟨hW.1, a1, a2, a3, hW.2.2.2.2⟩
theorem ziald (C0 : CallFix p m c cc nL s args Ts own) (hW : zW E D tys ws A s H locs) (q0 t0 : Nat) {cA : ClassId} {n : Nat} {f : Nat → Int32} (ha : ws[q0]? = some (a, .inl (cA, n, .inl f))) (ht : tys[t0]? = some (cA, .int)) {i : Int32} (hin : vp_in i n) (hdg : decode cc pc = .ok (.iaload, 1))
    (kk : W p l e R s m args below meth c H locs cells slots Q (F0 m (pc + 1) ls (.int (f i.toNatClampNeg) :: rest))) : W p l e R s m args below meth c H locs cells slots Q (F0 m pc ls (.int i :: .ref a :: rest)) :=
  va_iald C0.1 C0.2.1 hW.1 hW.2.1 q0 t0 ha ht hin hdg kk
theorem zbald (C0 : CallFix p m c cc nL s args Ts own) (hW : zW E D tys ws A s H locs) (q0 t0 : Nat) {cA : ClassId} {n : Nat} {f : Nat → Int32} (ha : ws[q0]? = some (a, .inl (cA, n, .inl f))) (ht : tys[t0]? = some (cA, .byte)) {i : Int32} (hin : vp_in i n) (hdg : decode cc pc = .ok (.baload, 1))
    (kk : W p l e R s m args below meth c H locs cells slots Q (F0 m (pc + 1) ls (.int (f i.toNatClampNeg) :: rest))) : W p l e R s m args below meth c H locs cells slots Q (F0 m pc ls (.int i :: .ref a :: rest)) :=
  va_bald C0.1 C0.2.1 hW.1 hW.2.1 q0 t0 ha ht hin hdg kk
theorem zsald (C0 : CallFix p m c cc nL s args Ts own) (hW : zW E D tys ws A s H locs) (q0 t0 : Nat) {cA : ClassId} {n : Nat} {f : Nat → Int32} (ha : ws[q0]? = some (a, .inl (cA, n, .inl f))) (ht : tys[t0]? = some (cA, .short)) {i : Int32} (hin : vp_in i n) (hdg : decode cc pc = .ok (.saload, 1))
    (kk : W p l e R s m args below meth c H locs cells slots Q (F0 m (pc + 1) ls (.int (f i.toNatClampNeg) :: rest))) : W p l e R s m args below meth c H locs cells slots Q (F0 m pc ls (.int i :: .ref a :: rest)) :=
  va_sald C0.1 C0.2.1 hW.1 hW.2.1 q0 t0 ha ht hin hdg kk
theorem zlald (C0 : CallFix p m c cc nL s args Ts own) (hW : zW E D tys ws A s H locs) (q0 t0 : Nat) {cA : ClassId} {n : Nat} {f : Nat → Int64} (ha : ws[q0]? = some (a, .inl (cA, n, .inr (.inl f)))) (ht : tys[t0]? = some (cA, .long)) {i : Int32} (hin : vp_in i n) (hdg : decode cc pc = .ok (.laload, 1))
    (kk : W p l e R s m args below meth c H locs cells slots Q (F0 m (pc + 1) ls (.long (f i.toNatClampNeg) :: rest))) : W p l e R s m args below meth c H locs cells slots Q (F0 m pc ls (.int i :: .ref a :: rest)) :=
  va_lald C0.1 C0.2.1 hW.1 hW.2.1 q0 t0 ha ht hin hdg kk
theorem ziast (C0 : CallFix p m c cc nL s args Ts own) (hW : zW E D tys ws A s H locs) (q0 t0 : Nat) {cA : ClassId} {n : Nat} {f : Nat → Int32} (ha : ws[q0]? = some (a, .inl (cA, n, .inl f))) (ht : tys[t0]? = some (cA, .int)) {i x : Int32} (hin : vp_in i n) (hdg : decode cc pc = .ok (.iastore, 1))
    (kk : ∀ (H1 : Heap) (locs1 : List Loc), zW E D tys (ws.set q0 (a, .inl (cA, n, .inl (upd f i.toNatClampNeg x)))) A s H1 locs1 → W p l e R s m args below meth c H1 locs1 cells slots Q (F0 m (pc + 1) ls rest)) : W p l e R s m args below meth c H locs cells slots Q (F0 m pc ls (.int x :: .int i :: .ref a :: rest)) :=
  va_iast C0.1 C0.2.1 hW.1 hW.2.1 hW.2.2.1 hW.2.2.2.1 q0 t0 ha ht hin hdg fun H1 locs1 a1 a2 a3 => kk H1 locs1 ⟨hW.1, a1, a2, a3, hW.2.2.2.2⟩
theorem zbast (C0 : CallFix p m c cc nL s args Ts own) (hW : zW E D tys ws A s H locs) (q0 t0 : Nat) {cA : ClassId} {n : Nat} {f : Nat → Int32} (ha : ws[q0]? = some (a, .inl (cA, n, .inl f))) (ht : tys[t0]? = some (cA, .byte)) {i x : Int32} (hin : vp_in i n) (hdg : decode cc pc = .ok (.bastore, 1))
    (kk : ∀ (H1 : Heap) (locs1 : List Loc), zW E D tys (ws.set q0 (a, .inl (cA, n, .inl (upd f i.toNatClampNeg (vp_nar .byte x))))) A s H1 locs1 → W p l e R s m args below meth c H1 locs1 cells slots Q (F0 m (pc + 1) ls rest)) : W p l e R s m args below meth c H locs cells slots Q (F0 m pc ls (.int x :: .int i :: .ref a :: rest)) :=
  va_bast C0.1 C0.2.1 hW.1 hW.2.1 hW.2.2.1 hW.2.2.2.1 q0 t0 ha ht hin hdg fun H1 locs1 a1 a2 a3 => kk H1 locs1 ⟨hW.1, a1, a2, a3, hW.2.2.2.2⟩
theorem zsast (C0 : CallFix p m c cc nL s args Ts own) (hW : zW E D tys ws A s H locs) (q0 t0 : Nat) {cA : ClassId} {n : Nat} {f : Nat → Int32} (ha : ws[q0]? = some (a, .inl (cA, n, .inl f))) (ht : tys[t0]? = some (cA, .short)) {i x : Int32} (hin : vp_in i n) (hdg : decode cc pc = .ok (.sastore, 1))
    (kk : ∀ (H1 : Heap) (locs1 : List Loc), zW E D tys (ws.set q0 (a, .inl (cA, n, .inl (upd f i.toNatClampNeg (vp_nar .short x))))) A s H1 locs1 → W p l e R s m args below meth c H1 locs1 cells slots Q (F0 m (pc + 1) ls rest)) : W p l e R s m args below meth c H locs cells slots Q (F0 m pc ls (.int x :: .int i :: .ref a :: rest)) :=
  va_sast C0.1 C0.2.1 hW.1 hW.2.1 hW.2.2.1 hW.2.2.2.1 q0 t0 ha ht hin hdg fun H1 locs1 a1 a2 a3 => kk H1 locs1 ⟨hW.1, a1, a2, a3, hW.2.2.2.2⟩
theorem zlast (C0 : CallFix p m c cc nL s args Ts own) (hW : zW E D tys ws A s H locs) (q0 t0 : Nat) {cA : ClassId} {n : Nat} {f : Nat → Int64} (ha : ws[q0]? = some (a, .inl (cA, n, .inr (.inl f)))) (ht : tys[t0]? = some (cA, .long)) {i : Int32} {x : Int64} (hin : vp_in i n) (hdg : decode cc pc = .ok (.lastore, 1))
    (kk : ∀ (H1 : Heap) (locs1 : List Loc), zW E D tys (ws.set q0 (a, .inl (cA, n, .inr (.inl (vp_updL f i.toNatClampNeg x))))) A s H1 locs1 → W p l e R s m args below meth c H1 locs1 cells slots Q (F0 m (pc + 1) ls rest)) : W p l e R s m args below meth c H locs cells slots Q (F0 m pc ls (.long x :: .int i :: .ref a :: rest)) :=
  va_last C0.1 C0.2.1 hW.1 hW.2.1 hW.2.2.1 hW.2.2.2.1 q0 t0 ha ht hin hdg fun H1 locs1 a1 a2 a3 => kk H1 locs1 ⟨hW.1, a1, a2, a3, hW.2.2.2.2⟩
theorem zblind (hE : zOk E) {av : List Value} {w0 : va_W} {sz : Nat} : FrameBlind (va_Pc av (zPre E D tys hs w0 sz)) := fun a U g mk q => by
  obtain ⟨h1, h2, h3, h4, h5, h6⟩ := q
  exact ⟨h1, h2, h3, va_K.moved (u := U) (U := U.calling g mk a) (Vm.Alike.refl U.vm) h4, h5, hE _ _ U (U.calling g mk a) [] h6 va_S.rf (State.WarmedH.refl U) fun _ h => h⟩
theorem zpay (hE : zOk E) {av : List Value} (hW : zW E D tys ws (aW hs s.heap.size) s H locs) : ∀ U : State, U.heap = H → s.WarmedH U.vm → va_Pc av (zPre E D tys hs ws H.size) av.toArray U := fun U hU hw => by
  subst hU
  exact ⟨rfl, rfl, hW.2.1, va_K.moved hw.alike hW.1, hW.2.2.1.weaken (fun _ _ _ _ => trivial), hE _ _ s U locs hW.2.2.2.2 hW.2.2.2.1 hw (aW_up hW.2.2.2.1.1)⟩
theorem zback {w1 : va_W} {t : State} {H1 : Heap} {locs1 : List Loc} (hW : zW E D tys ws (aW hs s.heap.size) s H locs) (ht : t.heap = H1) (hp : zPost D tys w1 (aW hs H.size) t) (hS : va_S (aW hs s.heap.size) s.heap H1 locs1) : zW E D tys w1 (aW hs s.heap.size) s H1 locs1 := by
  obtain ⟨a1, a2, a3⟩ := hp
  rw [ht] at a1
  exact ⟨hW.1, a1, a3.weaken (fun _ q _ h => aW_up hW.2.2.2.1.1 _ h), hS, hW.2.2.2.2⟩
variable {y : MethodName} {bytes : ByteArray} {maxL n index : Nat} {ret : Option FieldType} {cs : List Cond} {rm : Room} {b : Addr} {As : List Value} {C : String} {w1 : va_W} {st : List Value}
theorem zcVi {r : Int32} (hE : zOk E) (C0 : CallFix p m c cc nL s args Ts own) (hW : zW E D tys ws (aW hs s.heap.size) s H locs) (hM : zMi l y cs rm E D tys hs (.ref b :: As) ws w1 H.size r) (cw : CallW R s args own C index y bytes maxL ret cs rm 0 0 n) (hrc : ∃ cell : Cell, H[b]? = some cell ∧ cell.vm.isStatics = false ∧ s.vm.findClass C = some cell.cls)
    (hn : As.length = n) (hsz : ls.size = nL) (hst : st = As.reverse ++ .ref b :: rest) (hroom : (rest.map fun v => v.category).sum ≤ 8) (hdg : decode cc pc = .ok (.invokevirtual index, 3))
    (kk : ∀ (H1 : Heap) (locs1 : List Loc), zW E D tys w1 (aW hs s.heap.size) s H1 locs1 → W p l e R s m args below meth c H1 locs1 0 0 Q (F0 m (pc + 3) ls (.int r :: rest))) : W p l e R s m args below meth c H locs 0 0 Q (F0 m pc ls st) := by
  refine va_calli (va_runV (As := As) (rest := rest) C0 hM cw ⟨zblind hE, hrc, zpay hE hW⟩ rfl hn hsz hst (lv_room hroom) hdg ⟨Nat.zero_le _, Nat.zero_le _⟩) hW.2.2.2.1 (fun q _ h => aW_up hW.2.2.2.1.1 _ h) (fun q h => aW_up hW.2.2.2.1.1 _ h) (fun r' u t H1 locs1 ht _ hr hp _ _ hS => ?_)
  subst hr
  exact kk H1 locs1 (zback hW ht hp hS)
theorem zcVl {r : Int64} (hE : zOk E) (C0 : CallFix p m c cc nL s args Ts own) (hW : zW E D tys ws (aW hs s.heap.size) s H locs) (hM : zMl l y cs rm E D tys hs (.ref b :: As) ws w1 H.size r) (cw : CallW R s args own C index y bytes maxL ret cs rm 0 0 n) (hrc : ∃ cell : Cell, H[b]? = some cell ∧ cell.vm.isStatics = false ∧ s.vm.findClass C = some cell.cls)
    (hn : As.length = n) (hsz : ls.size = nL) (hst : st = As.reverse ++ .ref b :: rest) (hroom : (rest.map fun v => v.category).sum ≤ 8) (hdg : decode cc pc = .ok (.invokevirtual index, 3))
    (kk : ∀ (H1 : Heap) (locs1 : List Loc), zW E D tys w1 (aW hs s.heap.size) s H1 locs1 → W p l e R s m args below meth c H1 locs1 0 0 Q (F0 m (pc + 3) ls (.long r :: rest))) : W p l e R s m args below meth c H locs 0 0 Q (F0 m pc ls st) := by
  refine va_calll (va_runV (As := As) (rest := rest) C0 hM cw ⟨zblind hE, hrc, zpay hE hW⟩ rfl hn hsz hst (lv_room hroom) hdg ⟨Nat.zero_le _, Nat.zero_le _⟩) hW.2.2.2.1 (fun q _ h => aW_up hW.2.2.2.1.1 _ h) (fun q h => aW_up hW.2.2.2.1.1 _ h) (fun r' u t H1 locs1 ht _ hr hp _ _ hS => ?_)
  subst hr
  exact kk H1 locs1 (zback hW ht hp hS)
theorem zcVv (hE : zOk E) (C0 : CallFix p m c cc nL s args Ts own) (hW : zW E D tys ws (aW hs s.heap.size) s H locs) (hM : zMv l y cs rm E D tys hs (.ref b :: As) ws w1 H.size) (cw : CallW R s args own C index y bytes maxL ret cs rm 0 0 n) (hrc : ∃ cell : Cell, H[b]? = some cell ∧ cell.vm.isStatics = false ∧ s.vm.findClass C = some cell.cls)
    (hn : As.length = n) (hsz : ls.size = nL) (hst : st = As.reverse ++ .ref b :: rest) (hroom : (rest.map fun v => v.category).sum ≤ 8) (hdg : decode cc pc = .ok (.invokevirtual index, 3))
    (kk : ∀ (H1 : Heap) (locs1 : List Loc), zW E D tys w1 (aW hs s.heap.size) s H1 locs1 → W p l e R s m args below meth c H1 locs1 0 0 Q (F0 m (pc + 3) ls rest)) : W p l e R s m args below meth c H locs 0 0 Q (F0 m pc ls st) := by
  refine va_callv (va_runV (As := As) (rest := rest) C0 hM cw ⟨zblind hE, hrc, zpay hE hW⟩ rfl hn hsz hst (lv_room hroom) hdg ⟨Nat.zero_le _, Nat.zero_le _⟩) hW.2.2.2.1 (fun q _ h => aW_up hW.2.2.2.1.1 _ h) (fun q h => aW_up hW.2.2.2.1.1 _ h) (fun u t H1 locs1 ht _ _ hp _ _ hS => ?_)
  exact kk H1 locs1 (zback hW ht hp hS)
theorem zcWi {r : Int32} (hE : zOk E) (C0 : CallFix p m c cc nL s args Ts own) (hW : zW E D tys ws (aW hs s.heap.size) s H locs) (hM : zMi l y cs rm E D tys hs As ws w1 H.size r) (cw : CallB R s args own index y bytes maxL ret cs rm 0 0 n ∧ (Cond.static y).before args s = true)
    (hn : As.length = n) (hsz : ls.size = nL) (hst : st = As.reverse ++ rest) (hroom : (rest.map fun v => v.category).sum ≤ 8) (hdg : decode cc pc = .ok (.invokestatic index, 3))
    (kk : ∀ (H1 : Heap) (locs1 : List Loc), zW E D tys w1 (aW hs s.heap.size) s H1 locs1 → W p l e R s m args below meth c H1 locs1 0 0 Q (F0 m (pc + 3) ls (.int r :: rest))) : W p l e R s m args below meth c H locs 0 0 Q (F0 m pc ls st) := by
  refine va_calli (va_runS (As := As) (rest := rest) C0 hM cw ⟨zblind hE, zpay hE hW⟩ rfl hn hsz hst (lv_room hroom) hdg ⟨Nat.zero_le _, Nat.zero_le _⟩) hW.2.2.2.1 (fun q _ h => aW_up hW.2.2.2.1.1 _ h) (fun q h => aW_up hW.2.2.2.1.1 _ h) (fun r' u t H1 locs1 ht _ hr hp _ _ hS => ?_)
  subst hr
  exact kk H1 locs1 (zback hW ht hp hS)
theorem zcWv (hE : zOk E) (C0 : CallFix p m c cc nL s args Ts own) (hW : zW E D tys ws (aW hs s.heap.size) s H locs) (hM : zMv l y cs rm E D tys hs As ws w1 H.size) (cw : CallB R s args own index y bytes maxL ret cs rm 0 0 n ∧ (Cond.static y).before args s = true)
    (hn : As.length = n) (hsz : ls.size = nL) (hst : st = As.reverse ++ rest) (hroom : (rest.map fun v => v.category).sum ≤ 8) (hdg : decode cc pc = .ok (.invokestatic index, 3))
    (kk : ∀ (H1 : Heap) (locs1 : List Loc), zW E D tys w1 (aW hs s.heap.size) s H1 locs1 → W p l e R s m args below meth c H1 locs1 0 0 Q (F0 m (pc + 3) ls rest)) : W p l e R s m args below meth c H locs 0 0 Q (F0 m pc ls st) := by
  refine va_callv (va_runS (As := As) (rest := rest) C0 hM cw ⟨zblind hE, zpay hE hW⟩ rfl hn hsz hst (lv_room hroom) hdg ⟨Nat.zero_le _, Nat.zero_le _⟩) hW.2.2.2.1 (fun q _ h => aW_up hW.2.2.2.1.1 _ h) (fun q h => aW_up hW.2.2.2.1.1 _ h) (fun u t H1 locs1 ht _ _ hp _ _ hS => ?_)
  exact kk H1 locs1 (zback hW ht hp hS)
/-- an element of an array of arrays -/
theorem zaald (C0 : CallFix p m c cc nL s args Ts own) (hW : zW E D tys ws A s H locs) (q0 t0 : Nat) {cA : ClassId} {ty : FieldType} {n b : Nat} {f : Nat → Option Nat} (ha : ws[q0]? = some (a, .inl (cA, n, .inr (.inr (.inr (.inr f)))))) (ht : tys[t0]? = some (cA, .array ty)) {i : Int32} (hin : vp_in i n) (hf : f i.toNatClampNeg = some b) (hdg : decode cc pc = .ok (.aaload, 1))
    (kk : W p l e R s m args below meth c H locs cells slots Q (F0 m (pc + 1) ls (.ref b :: rest))) : W p l e R s m args below meth c H locs cells slots Q (F0 m pc ls (.int i :: .ref a :: rest)) := by
  have hlt : i.toNatClampNeg < n := Nat.not_le.mp fun q => hin (Or.inr q)
  exact W.aald (v := .ref b) (ty := .array ty) C0.1 C0.2.1 (hW.2.1 q0 _ ha) ((hW.1.2 t0 _ ht).1 n (fun j => va_rf (f j))) rfl (fun q => by cases q) (by show ¬ (i < 0 ∨ (arrV _ _ _).slots.size ≤ _); rw [arrV_size]; exact hin) (by show (arrV _ _ _).slots[_]? = _; rw [arrV_read _ _ hlt, hf]; rfl) rfl rfl hdg kk
/-- a static method that touches no cell, called where a world is in hand, or only a frame -/
theorem zcS0 {r : Int32} (C0 : CallFix p m c cc nL s args Ts own) (hS0 : va_S (aW hs s.heap.size) s.heap H locs) (hM : zMs l y cs rm As H.size r) (cw : CallB R s args own index y bytes maxL ret cs rm 0 0 n ∧ (Cond.static y).before args s = true)
    (hn : As.length = n) (hsz : ls.size = nL) (hst : st = As.reverse ++ rest) (hroom : (rest.map fun v => v.category).sum ≤ 8) (hdg : decode cc pc = .ok (.invokestatic index, 3))
    (kk : ∀ (H1 : Heap) (locs1 : List Loc), (∀ q : Nat, q < H.size → H1[q]? = H[q]?) → va_S (aW hs s.heap.size) s.heap H1 locs1 → W p l e R s m args below meth c H1 locs1 0 0 Q (F0 m (pc + 3) ls (.int r :: rest))) : W p l e R s m args below meth c H locs 0 0 Q (F0 m pc ls st) := by
  refine va_calli (va_runS (As := As) (rest := rest) C0 hM cw ⟨fun a U g mk q => q, fun U hU _ => ⟨rfl, congrArg Array.size hU⟩⟩ rfl hn hsz hst (lv_room hroom) hdg ⟨Nat.zero_le _, Nat.zero_le _⟩) hS0 (fun q _ h => h.elim (fun z => absurd z List.not_mem_nil) fun z => Or.inr (Nat.le_trans hS0.1 z)) (fun q h => h.elim (fun z => absurd z List.not_mem_nil) fun z => Or.inr (Nat.le_trans hS0.1 z)) (fun r' u t H1 locs1 ht _ hr _ _ hk hS => ?_)
  subst hr
  exact kk H1 locs1 (fun q hq => hk q hq fun z => z.elim (fun z => absurd z List.not_mem_nil) fun z => absurd hq (Nat.not_lt.mpr z)) hS
theorem zcS0l {r : Int64} (C0 : CallFix p m c cc nL s args Ts own) (hS0 : va_S (aW hs s.heap.size) s.heap H locs) (hM : zMsl l y cs rm As H.size r) (cw : CallB R s args own index y bytes maxL ret cs rm 0 0 n ∧ (Cond.static y).before args s = true)
    (hn : As.length = n) (hsz : ls.size = nL) (hst : st = As.reverse ++ rest) (hroom : (rest.map fun v => v.category).sum ≤ 8) (hdg : decode cc pc = .ok (.invokestatic index, 3))
    (kk : ∀ (H1 : Heap) (locs1 : List Loc), (∀ q : Nat, q < H.size → H1[q]? = H[q]?) → va_S (aW hs s.heap.size) s.heap H1 locs1 → W p l e R s m args below meth c H1 locs1 0 0 Q (F0 m (pc + 3) ls (.long r :: rest))) : W p l e R s m args below meth c H locs 0 0 Q (F0 m pc ls st) := by
  refine va_calll (va_runS (As := As) (rest := rest) C0 hM cw ⟨fun a U g mk q => q, fun U hU _ => ⟨rfl, congrArg Array.size hU⟩⟩ rfl hn hsz hst (lv_room hroom) hdg ⟨Nat.zero_le _, Nat.zero_le _⟩) hS0 (fun q _ h => h.elim (fun z => absurd z List.not_mem_nil) fun z => Or.inr (Nat.le_trans hS0.1 z)) (fun q h => h.elim (fun z => absurd z List.not_mem_nil) fun z => Or.inr (Nat.le_trans hS0.1 z)) (fun r' u t H1 locs1 ht _ hr _ _ hk hS => ?_)
  subst hr
  exact kk H1 locs1 (fun q hq => hk q hq fun z => z.elim (fun z => absurd z List.not_mem_nil) fun z => absurd hq (Nat.not_lt.mpr z)) hS
theorem zcSi {r : Int32} (C0 : CallFix p m c cc nL s args Ts own) (hW : zW E D tys ws (aW hs s.heap.size) s H locs) (hM : zMs l y cs rm As H.size r) (cw : CallB R s args own index y bytes maxL ret cs rm 0 0 n ∧ (Cond.static y).before args s = true)
    (hn : As.length = n) (hsz : ls.size = nL) (hst : st = As.reverse ++ rest) (hroom : (rest.map fun v => v.category).sum ≤ 8) (hdg : decode cc pc = .ok (.invokestatic index, 3))
    (kk : ∀ (H1 : Heap) (locs1 : List Loc), zW E D tys ws (aW hs s.heap.size) s H1 locs1 → W p l e R s m args below meth c H1 locs1 0 0 Q (F0 m (pc + 3) ls (.int r :: rest))) : W p l e R s m args below meth c H locs 0 0 Q (F0 m pc ls st) :=
  zcS0 C0 hW.2.2.2.1 hM cw hn hsz hst hroom hdg fun H1 locs1 hk hS => kk H1 locs1 ⟨hW.1, hW.2.1.kept fun k q hq => hk q.1 ((hW.2.1 k q hq).lt), hW.2.2.1, hS, hW.2.2.2.2⟩
theorem zcSl {r : Int64} (C0 : CallFix p m c cc nL s args Ts own) (hW : zW E D tys ws (aW hs s.heap.size) s H locs) (hM : zMsl l y cs rm As H.size r) (cw : CallB R s args own index y bytes maxL ret cs rm 0 0 n ∧ (Cond.static y).before args s = true)
    (hn : As.length = n) (hsz : ls.size = nL) (hst : st = As.reverse ++ rest) (hroom : (rest.map fun v => v.category).sum ≤ 8) (hdg : decode cc pc = .ok (.invokestatic index, 3))
    (kk : ∀ (H1 : Heap) (locs1 : List Loc), zW E D tys ws (aW hs s.heap.size) s H1 locs1 → W p l e R s m args below meth c H1 locs1 0 0 Q (F0 m (pc + 3) ls (.long r :: rest))) : W p l e R s m args below meth c H locs 0 0 Q (F0 m pc ls st) :=
  zcS0l C0 hW.2.2.2.1 hM cw hn hsz hst hroom hdg fun H1 locs1 hk hS => kk H1 locs1 ⟨hW.1, hW.2.1.kept fun k q hq => hk q.1 ((hW.2.1 k q hq).lt), hW.2.2.1, hS, hW.2.2.2.2⟩
/-- a nest mate's private static method that touches no cell -/
theorem zcNi {r : Int32} {host : String} (C0 : CallFix p m c cc nL s args Ts own) (hW : zW E D tys ws (aW hs s.heap.size) s H locs) (hM : zMs l y cs rm As H.size r) (cw : va_CN R s args own index y host bytes maxL ret cs rm 0 0 n ∧ (Cond.static y).before args s = true ∧ True)
    (hn : As.length = n) (hsz : ls.size = nL) (hst : st = As.reverse ++ rest) (hroom : (rest.map fun v => v.category).sum ≤ 8) (hdg : decode cc pc = .ok (.invokestatic index, 3))
    (kk : ∀ (H1 : Heap) (locs1 : List Loc), zW E D tys ws (aW hs s.heap.size) s H1 locs1 → W p l e R s m args below meth c H1 locs1 0 0 Q (F0 m (pc + 3) ls (.int r :: rest))) : W p l e R s m args below meth c H locs 0 0 Q (F0 m pc ls st) := by
  have hS0 := hW.2.2.2.1
  refine va_calli (va_runSN (As := As) (rest := rest) C0 hM cw ⟨fun a U g mk q => q, fun U hU _ => ⟨rfl, congrArg Array.size hU⟩⟩ rfl hn hsz hst (lv_room hroom) hdg ⟨Nat.zero_le _, Nat.zero_le _⟩) hS0 (fun q _ h => h.elim (fun z => absurd z List.not_mem_nil) fun z => Or.inr (Nat.le_trans hS0.1 z)) (fun q h => h.elim (fun z => absurd z List.not_mem_nil) fun z => Or.inr (Nat.le_trans hS0.1 z)) (fun r' u t H1 locs1 ht _ hr _ _ hk hS => ?_)
  subst hr
  have hk1 : ∀ q : Nat, q < H.size → H1[q]? = H[q]? := fun q hq => hk q hq fun z => z.elim (fun z => absurd z List.not_mem_nil) fun z => absurd hq (Nat.not_lt.mpr z)
  exact kk H1 locs1 ⟨hW.1, hW.2.1.kept fun k q hq => hk1 q.1 ((hW.2.1 k q hq).lt), hW.2.2.1, hS, hW.2.2.2.2⟩
end ZB
section ZE
variable {l : Launch} {y : MethodName} {ws ws' : List Cond} {rm : Room} {E : (Nat → Prop) → State → Heap → Prop} {D : va_G} {tys : List (ClassId × FieldType)} {hs : List Nat} {av : List Value} {w0 w1 : va_W} {sz : Nat} {cc : ByteArray} {maxL : Nat} {own : String}
theorem zhW {s : State} (hm : ∀ q ∈ w0, q.1 ∈ hs) (hP : va_P D vwCl w0 s.heap) (hK : va_K D vwCl tys s) (hD : va_D (fun _ => True) w0) (hE : E (aW hs s.heap.size) s s.heap) : zW E D tys w0 (aW hs s.heap.size) s s.heap [] :=
  ⟨hK, hP, ⟨hD.1, fun _ q hq => Or.inl (hm q (List.mem_of_getElem? hq))⟩, va_S.rf, hE⟩
theorem zEn_i {r : Int32} (hy : plainName y.cls = true) (hw : ws = Cond.code y cc maxL (some .int) :: ws') (ho : y.cls = own) (hm : ∀ q ∈ w0, q.1 ∈ hs) (hlen : (lg_sl av).length ≤ maxL)
    (body : ∀ (p : Program) (e : Env) (s : State) (m : MethodId) (args : Array Value) (below : List Frame) (meth : Method) (c : Code) (Q : State → Prop) (H : Heap) (locs : List Loc), CallFix p m c cc maxL s args ws' own → zW E D tys w0 (aW hs s.heap.size) s H locs →
      (∀ (H : Heap) (locs : List Loc) (pc : Nat) (ls : Array Slot), zW E D tys w1 (aW hs s.heap.size) s H locs → decode cc pc = .ok (.ireturn, 1) → W p l e rm s m args below meth c H locs 0 0 Q (F0 m pc ls [.int r])) →
      ∀ ls : Array Slot, lv_has ls maxL (lv_args 0 av) → W p l e rm s m args below meth c H locs 0 0 Q (F0 m 0 ls [])) : zMi l y ws rm E D tys hs av w0 w1 sz r := by
  refine Met.ofW (cc := cc) (maxL := maxL) (ret := some .int) hy hw ?_
  intro p e s m args below meth c s₁ B hml hv
  obtain ⟨rfl, hsz, hP, hK, hD0, hE0⟩ := hv
  have hx := B.exec
  have hb := B.bytes
  have hr := B.returns
  have hlocks := B.notSynchronized
  have hts0 := atoms_spec (ws := ws) B.pre
  have hts : ∀ w ∈ ws', w.before _ s = true := fun w h => hts0 w (by rw [hw]; exact List.mem_cons_of_mem _ h)
  have hown : s.vm.findClass own = some m.cls := by rw [← ho]; exact findClass_of_methodNamed B.named
  subst hsz
  rw [lg_entry_eq]
  refine body p e s m _ below meth c _ _ _ ⟨hx, hb, hml, hown, hts⟩ (zhW hm hP hK hD0 hE0) (fun H locs pc ls hW hd => ?_) _ (lv_entry av hlen)
  exact W.iret hx hb hr (fun t ht hw => ⟨⟨r, (), rfl, rfl, by rw [ht]; exact hW.2.1, va_K.moved hw.alike hW.1, hW.2.2.1⟩, hW.2.2.2.1.F ht⟩) hW.2.2.2.1.2.2 hd
theorem zEn_z {r : Int32} (hy : plainName y.cls = true) (hw : ws = Cond.code y cc maxL (some .boolean) :: ws') (ho : y.cls = own) (hm : ∀ q ∈ w0, q.1 ∈ hs) (hlen : (lg_sl av).length ≤ maxL)
    (body : ∀ (p : Program) (e : Env) (s : State) (m : MethodId) (args : Array Value) (below : List Frame) (meth : Method) (c : Code) (Q : State → Prop) (H : Heap) (locs : List Loc), CallFix p m c cc maxL s args ws' own → zW E D tys w0 (aW hs s.heap.size) s H locs →
      (∀ (H : Heap) (locs : List Loc) (pc : Nat) (ls : Array Slot), zbit r → zW E D tys w1 (aW hs s.heap.size) s H locs → decode cc pc = .ok (.ireturn, 1) → W p l e rm s m args below meth c H locs 0 0 Q (F0 m pc ls [.int r])) →
      ∀ ls : Array Slot, lv_has ls maxL (lv_args 0 av) → W p l e rm s m args below meth c H locs 0 0 Q (F0 m 0 ls [])) : zMi l y ws rm E D tys hs av w0 w1 sz r := by
  refine Met.ofW (cc := cc) (maxL := maxL) (ret := some .boolean) hy hw ?_
  intro p e s m args below meth c s₁ B hml hv
  obtain ⟨rfl, hsz, hP, hK, hD0, hE0⟩ := hv
  have hx := B.exec
  have hb := B.bytes
  have hr := B.returns
  have hlocks := B.notSynchronized
  have hts0 := atoms_spec (ws := ws) B.pre
  have hts : ∀ w ∈ ws', w.before _ s = true := fun w h => hts0 w (by rw [hw]; exact List.mem_cons_of_mem _ h)
  have hown : s.vm.findClass own = some m.cls := by rw [← ho]; exact findClass_of_methodNamed B.named
  subst hsz
  rw [lg_entry_eq]
  refine body p e s m _ below meth c _ _ _ ⟨hx, hb, hml, hown, hts⟩ (zhW hm hP hK hD0 hE0) (fun H locs pc ls hbit hW hd => ?_) _ (lv_entry av hlen)
  exact W.zret hx hb hr (zbit_nar hbit) (fun t ht hw => ⟨⟨r, (), rfl, rfl, by rw [ht]; exact hW.2.1, va_K.moved hw.alike hW.1, hW.2.2.1⟩, hW.2.2.2.1.F ht⟩) hW.2.2.2.1.2.2 hd
theorem zEn_l {r : Int64} (hy : plainName y.cls = true) (hw : ws = Cond.code y cc maxL (some .long) :: ws') (ho : y.cls = own) (hm : ∀ q ∈ w0, q.1 ∈ hs) (hlen : (lg_sl av).length ≤ maxL)
    (body : ∀ (p : Program) (e : Env) (s : State) (m : MethodId) (args : Array Value) (below : List Frame) (meth : Method) (c : Code) (Q : State → Prop) (H : Heap) (locs : List Loc), CallFix p m c cc maxL s args ws' own → zW E D tys w0 (aW hs s.heap.size) s H locs →
      (∀ (H : Heap) (locs : List Loc) (pc : Nat) (ls : Array Slot), zW E D tys w1 (aW hs s.heap.size) s H locs → decode cc pc = .ok (.lreturn, 1) → W p l e rm s m args below meth c H locs 0 0 Q (F0 m pc ls [.long r])) →
      ∀ ls : Array Slot, lv_has ls maxL (lv_args 0 av) → W p l e rm s m args below meth c H locs 0 0 Q (F0 m 0 ls [])) : zMl l y ws rm E D tys hs av w0 w1 sz r := by
  refine Met.ofW (cc := cc) (maxL := maxL) (ret := some .long) hy hw ?_
  intro p e s m args below meth c s₁ B hml hv
  obtain ⟨rfl, hsz, hP, hK, hD0, hE0⟩ := hv
  have hx := B.exec
  have hb := B.bytes
  have hr := B.returns
  have hlocks := B.notSynchronized
  have hts0 := atoms_spec (ws := ws) B.pre
  have hts : ∀ w ∈ ws', w.before _ s = true := fun w h => hts0 w (by rw [hw]; exact List.mem_cons_of_mem _ h)
  have hown : s.vm.findClass own = some m.cls := by rw [← ho]; exact findClass_of_methodNamed B.named
  subst hsz
  rw [lg_entry_eq]
  refine body p e s m _ below meth c _ _ _ ⟨hx, hb, hml, hown, hts⟩ (zhW hm hP hK hD0 hE0) (fun H locs pc ls hW hd => ?_) _ (lv_entry av hlen)
  exact W.lret hx hb hr (fun t ht hw => ⟨⟨r, (), rfl, rfl, by rw [ht]; exact hW.2.1, va_K.moved hw.alike hW.1, hW.2.2.1⟩, hW.2.2.2.1.F ht⟩) hW.2.2.2.1.2.2 hd
theorem zEn_v (hy : plainName y.cls = true) (hw : ws = Cond.code y cc maxL none :: ws') (ho : y.cls = own) (hm : ∀ q ∈ w0, q.1 ∈ hs) (hlen : (lg_sl av).length ≤ maxL)
    (body : ∀ (p : Program) (e : Env) (s : State) (m : MethodId) (args : Array Value) (below : List Frame) (meth : Method) (c : Code) (Q : State → Prop) (H : Heap) (locs : List Loc), CallFix p m c cc maxL s args ws' own → zW E D tys w0 (aW hs s.heap.size) s H locs →
      (∀ (H : Heap) (locs : List Loc) (pc : Nat) (ls : Array Slot), zW E D tys w1 (aW hs s.heap.size) s H locs → decode cc pc = .ok (.return_, 1) → W p l e rm s m args below meth c H locs 0 0 Q (F0 m pc ls [])) →
      ∀ ls : Array Slot, lv_has ls maxL (lv_args 0 av) → W p l e rm s m args below meth c H locs 0 0 Q (F0 m 0 ls [])) : zMv l y ws rm E D tys hs av w0 w1 sz := by
  refine Met.ofW (cc := cc) (maxL := maxL) (ret := none) hy hw ?_
  intro p e s m args below meth c s₁ B hml hv
  obtain ⟨rfl, hsz, hP, hK, hD0, hE0⟩ := hv
  have hx := B.exec
  have hb := B.bytes
  have hr := B.returns
  have hlocks := B.notSynchronized
  have hts0 := atoms_spec (ws := ws) B.pre
  have hts : ∀ w ∈ ws', w.before _ s = true := fun w h => hts0 w (by rw [hw]; exact List.mem_cons_of_mem _ h)
  have hown : s.vm.findClass own = some m.cls := by rw [← ho]; exact findClass_of_methodNamed B.named
  subst hsz
  rw [lg_entry_eq]
  refine body p e s m _ below meth c _ _ _ ⟨hx, hb, hml, hown, hts⟩ (zhW hm hP hK hD0 hE0) (fun H locs pc ls hW hd => ?_) _ (lv_entry av hlen)
  exact W.vret hx hb hr (fun t ht hw => ⟨⟨(), rfl, trivial, by rw [ht]; exact hW.2.1, va_K.moved hw.alike hW.1, hW.2.2.1⟩, hW.2.2.2.1.F ht⟩) hW.2.2.2.1.2.2 hd
theorem zEs_i {r : Int32} (hy : plainName y.cls = true) (hw : ws = Cond.code y cc maxL (some .int) :: ws') (ho : y.cls = own) (hlen : (lg_sl av).length ≤ maxL)
    (body : ∀ (p : Program) (e : Env) (s : State) (m : MethodId) (args : Array Value) (below : List Frame) (meth : Method) (c : Code) (Q : State → Prop) (H : Heap) (locs : List Loc), CallFix p m c cc maxL s args ws' own → va_S (aW [] s.heap.size) s.heap H locs →
      (∀ (H : Heap) (locs : List Loc) (pc : Nat) (ls : Array Slot), va_S (aW [] s.heap.size) s.heap H locs → decode cc pc = .ok (.ireturn, 1) → W p l e rm s m args below meth c H locs 0 0 Q (F0 m pc ls [.int r])) →
      ∀ ls : Array Slot, lv_has ls maxL (lv_args 0 av) → W p l e rm s m args below meth c H locs 0 0 Q (F0 m 0 ls [])) : zMs l y ws rm av sz r := by
  refine Met.ofW (cc := cc) (maxL := maxL) (ret := some .int) hy hw ?_
  intro p e s m args below meth c s₁ B hml hv
  obtain ⟨rfl, hsz⟩ := hv
  have hx := B.exec
  have hb := B.bytes
  have hr := B.returns
  have hlocks := B.notSynchronized
  have hts0 := atoms_spec (ws := ws) B.pre
  have hts : ∀ w ∈ ws', w.before _ s = true := fun w h => hts0 w (by rw [hw]; exact List.mem_cons_of_mem _ h)
  have hown : s.vm.findClass own = some m.cls := by rw [← ho]; exact findClass_of_methodNamed B.named
  have hsz : s.heap.size = sz := hsz
  subst hsz
  rw [lg_entry_eq]
  refine body p e s m _ below meth c _ _ _ ⟨hx, hb, hml, hown, hts⟩ va_S.rf (fun H locs pc ls hS hd => ?_) _ (lv_entry av hlen)
  exact W.iret hx hb hr (fun t ht hw => ⟨⟨r, (), rfl, rfl, trivial⟩, hS.F ht⟩) hS.2.2 hd
theorem zEs_z {r : Int32} (hy : plainName y.cls = true) (hw : ws = Cond.code y cc maxL (some .boolean) :: ws') (ho : y.cls = own) (hlen : (lg_sl av).length ≤ maxL)
    (body : ∀ (p : Program) (e : Env) (s : State) (m : MethodId) (args : Array Value) (below : List Frame) (meth : Method) (c : Code) (Q : State → Prop) (H : Heap) (locs : List Loc), CallFix p m c cc maxL s args ws' own → va_S (aW [] s.heap.size) s.heap H locs →
      (∀ (H : Heap) (locs : List Loc) (pc : Nat) (ls : Array Slot), zbit r → va_S (aW [] s.heap.size) s.heap H locs → decode cc pc = .ok (.ireturn, 1) → W p l e rm s m args below meth c H locs 0 0 Q (F0 m pc ls [.int r])) →
      ∀ ls : Array Slot, lv_has ls maxL (lv_args 0 av) → W p l e rm s m args below meth c H locs 0 0 Q (F0 m 0 ls [])) : zMs l y ws rm av sz r := by
  refine Met.ofW (cc := cc) (maxL := maxL) (ret := some .boolean) hy hw ?_
  intro p e s m args below meth c s₁ B hml hv
  obtain ⟨rfl, hsz⟩ := hv
  have hx := B.exec
  have hb := B.bytes
  have hr := B.returns
  have hlocks := B.notSynchronized
  have hts0 := atoms_spec (ws := ws) B.pre
  have hts : ∀ w ∈ ws', w.before _ s = true := fun w h => hts0 w (by rw [hw]; exact List.mem_cons_of_mem _ h)
  have hown : s.vm.findClass own = some m.cls := by rw [← ho]; exact findClass_of_methodNamed B.named
  have hsz : s.heap.size = sz := hsz
  subst hsz
  rw [lg_entry_eq]
  refine body p e s m _ below meth c _ _ _ ⟨hx, hb, hml, hown, hts⟩ va_S.rf (fun H locs pc ls hbit hS hd => ?_) _ (lv_entry av hlen)
  exact W.zret hx hb hr (zbit_nar hbit) (fun t ht hw => ⟨⟨r, (), rfl, rfl, trivial⟩, hS.F ht⟩) hS.2.2 hd
theorem zEs_l {r : Int64} (hy : plainName y.cls = true) (hw : ws = Cond.code y cc maxL (some .long) :: ws') (ho : y.cls = own) (hlen : (lg_sl av).length ≤ maxL)
    (body : ∀ (p : Program) (e : Env) (s : State) (m : MethodId) (args : Array Value) (below : List Frame) (meth : Method) (c : Code) (Q : State → Prop) (H : Heap) (locs : List Loc), CallFix p m c cc maxL s args ws' own → va_S (aW [] s.heap.size) s.heap H locs →
      (∀ (H : Heap) (locs : List Loc) (pc : Nat) (ls : Array Slot), va_S (aW [] s.heap.size) s.heap H locs → decode cc pc = .ok (.lreturn, 1) → W p l e rm s m args below meth c H locs 0 0 Q (F0 m pc ls [.long r])) →
      ∀ ls : Array Slot, lv_has ls maxL (lv_args 0 av) → W p l e rm s m args below meth c H locs 0 0 Q (F0 m 0 ls [])) : zMsl l y ws rm av sz r := by
  refine Met.ofW (cc := cc) (maxL := maxL) (ret := some .long) hy hw ?_
  intro p e s m args below meth c s₁ B hml hv
  obtain ⟨rfl, hsz⟩ := hv
  have hx := B.exec
  have hb := B.bytes
  have hr := B.returns
  have hlocks := B.notSynchronized
  have hts0 := atoms_spec (ws := ws) B.pre
  have hts : ∀ w ∈ ws', w.before _ s = true := fun w h => hts0 w (by rw [hw]; exact List.mem_cons_of_mem _ h)
  have hown : s.vm.findClass own = some m.cls := by rw [← ho]; exact findClass_of_methodNamed B.named
  have hsz : s.heap.size = sz := hsz
  subst hsz
  rw [lg_entry_eq]
  refine body p e s m _ below meth c _ _ _ ⟨hx, hb, hml, hown, hts⟩ va_S.rf (fun H locs pc ls hS hd => ?_) _ (lv_entry av hlen)
  exact W.lret hx hb hr (fun t ht hw => ⟨⟨r, (), rfl, rfl, trivial⟩, hS.F ht⟩) hS.2.2 hd
end ZE
section ZR
variable {p : Program} {l : Launch} {e : Env} {R : Room} {s : State} {m : MethodId} {args : Array Value} {below : List Frame} {meth : Method} {c : Code} {H : Heap} {locs : List Loc} {Q : State → Prop} {cc : ByteArray} {pc : Nat} {ls : Array Slot} {E : (Nat → Prop) → State → Heap → Prop} {D : va_G} {A : Nat → Prop} {tys : List (ClassId × FieldType)} {hs : List Nat} {w : zSt → va_W} {S S1 : zSt}
theorem zend_i {v r : Int32} (fin : ∀ (H : Heap) (locs : List Loc) (pc : Nat) (ls : Array Slot), zW E D tys (w S1) A s H locs → decode cc pc = .ok (.ireturn, 1) → W p l e R s m args below meth c H locs 0 0 Q (F0 m pc ls [.int r])) (hf : some (v, S) = some (r, S1)) (hW : zW E D tys (w S) A s H locs) (hd : decode cc pc = .ok (.ireturn, 1)) : W p l e R s m args below meth c H locs 0 0 Q (F0 m pc ls [.int v]) := by
  cases hf
  exact fin H locs pc ls hW hd
theorem zend_z {v r : Int32} (fin : ∀ (H : Heap) (locs : List Loc) (pc : Nat) (ls : Array Slot), zbit r → zW E D tys (w S1) A s H locs → decode cc pc = .ok (.ireturn, 1) → W p l e R s m args below meth c H locs 0 0 Q (F0 m pc ls [.int r])) (hf : some (v, S) = some (r, S1)) (hb : zbit v) (hW : zW E D tys (w S) A s H locs) (hd : decode cc pc = .ok (.ireturn, 1)) : W p l e R s m args below meth c H locs 0 0 Q (F0 m pc ls [.int v]) := by
  cases hf
  exact fin H locs pc ls hb hW hd
theorem zend_l {v r : Int64} (fin : ∀ (H : Heap) (locs : List Loc) (pc : Nat) (ls : Array Slot), zW E D tys (w S1) A s H locs → decode cc pc = .ok (.lreturn, 1) → W p l e R s m args below meth c H locs 0 0 Q (F0 m pc ls [.long r])) (hf : some (v, S) = some (r, S1)) (hW : zW E D tys (w S) A s H locs) (hd : decode cc pc = .ok (.lreturn, 1)) : W p l e R s m args below meth c H locs 0 0 Q (F0 m pc ls [.long v]) := by
  cases hf
  exact fin H locs pc ls hW hd
theorem zend_v (fin : ∀ (H : Heap) (locs : List Loc) (pc : Nat) (ls : Array Slot), zW E D tys (w S1) A s H locs → decode cc pc = .ok (.return_, 1) → W p l e R s m args below meth c H locs 0 0 Q (F0 m pc ls [])) (hf : some S = some S1) (hW : zW E D tys (w S) A s H locs) (hd : decode cc pc = .ok (.return_, 1)) : W p l e R s m args below meth c H locs 0 0 Q (F0 m pc ls []) := by
  cases hf
  exact fin H locs pc ls hW hd
theorem zens_i {v r : Int32} (fin : ∀ (H : Heap) (locs : List Loc) (pc : Nat) (ls : Array Slot), va_S A s.heap H locs → decode cc pc = .ok (.ireturn, 1) → W p l e R s m args below meth c H locs 0 0 Q (F0 m pc ls [.int r])) (hf : some v = some r) (hW : va_S A s.heap H locs) (hd : decode cc pc = .ok (.ireturn, 1)) : W p l e R s m args below meth c H locs 0 0 Q (F0 m pc ls [.int v]) := by
  cases hf
  exact fin H locs pc ls hW hd
theorem zens_z {v r : Int32} (fin : ∀ (H : Heap) (locs : List Loc) (pc : Nat) (ls : Array Slot), zbit r → va_S A s.heap H locs → decode cc pc = .ok (.ireturn, 1) → W p l e R s m args below meth c H locs 0 0 Q (F0 m pc ls [.int r])) (hf : some v = some r) (hb : zbit v) (hW : va_S A s.heap H locs) (hd : decode cc pc = .ok (.ireturn, 1)) : W p l e R s m args below meth c H locs 0 0 Q (F0 m pc ls [.int v]) := by
  cases hf
  exact fin H locs pc ls hb hW hd
theorem zens_l {v r : Int64} (fin : ∀ (H : Heap) (locs : List Loc) (pc : Nat) (ls : Array Slot), va_S A s.heap H locs → decode cc pc = .ok (.lreturn, 1) → W p l e R s m args below meth c H locs 0 0 Q (F0 m pc ls [.long r])) (hf : some v = some r) (hW : va_S A s.heap H locs) (hd : decode cc pc = .ok (.lreturn, 1)) : W p l e R s m args below meth c H locs 0 0 Q (F0 m pc ls [.long v]) := by
  cases hf
  exact fin H locs pc ls hW hd
end ZR
def zTr : (Nat → Prop) → State → Heap → Prop := fun _ _ _ => True
theorem zTr_ok : zOk zTr := fun _ _ _ _ _ _ _ _ _ => trivial
/-- the room of a method that calls itself, by how deep it may go -/
def zfuel : Nat := 100
def zRm (g : Nat) : Room := { frames := g + 12, cells := 0, slots := 0, locals := 40 * g + 600 }
theorem zRm_up (g : Nat) {maxL : Nat} (h : maxL ≤ 20) : (zRm g).frames + 1 ≤ (zRm (g + 1)).frames ∧ 8 + (maxL + 11) + (zRm g).locals ≤ (zRm (g + 1)).locals := by
  show g + 12 + 1 ≤ g + 1 + 12 ∧ 8 + (maxL + 11) + (40 * g + 600) ≤ 40 * (g + 1) + 600
  omega
theorem zRm_k {rm : Room} (g : Nat) {maxL : Nat} (h1 : rm.frames + 1 ≤ 12) (h2 : 8 + (maxL + 11) + rm.locals ≤ 600) : rm.frames + 1 ≤ (zRm (g + 1)).frames ∧ 8 + (maxL + 11) + rm.locals ≤ (zRm (g + 1)).locals := by
  show rm.frames + 1 ≤ g + 1 + 12 ∧ 8 + (maxL + 11) + rm.locals ≤ 40 * (g + 1) + 600
  omega
