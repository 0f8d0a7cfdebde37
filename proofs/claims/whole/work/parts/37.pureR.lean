-- who falls first; the least MARGIN
def zFirst (F : Nat → Int32) : Nat → Nat → Int32
  | 0, _ => -2
  | c + 1, k => if 0 ≤ F k then zFirst F c (k + 1) else Int32.ofNat k
def zFF (G : Nat → Int32) : Nat → Nat → Int32
  | 0, _ => -2
  | c + 1, i => if G i = -2 then zFF G c (i + 1) else 100 * Int32.ofNat i + G i
theorem zFirst_or (F : Nat → Int32) : ∀ (c k : Nat), zFirst F c k = -2 ∨ ∃ j, k ≤ j ∧ j < k + c ∧ zFirst F c k = Int32.ofNat j := by
  intro c
  induction c with
  | zero => intro k; exact Or.inl rfl
  | succ c ih =>
    intro k
    rw [zFirst]
    by_cases h : 0 ≤ F k
    · rw [if_pos h]
      rcases ih (k + 1) with e | ⟨j, j1, j2, e⟩
      · exact Or.inl e
      · exact Or.inr ⟨j, by omega, by omega, e⟩
    · rw [if_neg h]
      exact Or.inr ⟨k, by omega, by omega, rfl⟩
theorem zo_ne2 {j : Nat} (h : j < 2147483648) : ¬ Int32.ofNat j = -2 := fun e => by
  have := zo_0 h
  rw [e] at this
  exact absurd this (by decide)
theorem zFF_ne {i k : Nat} (hi : i < 100) (hk : k < 100) : ¬ (100 : Int32) * Int32.ofNat i + Int32.ofNat k = -2 := by
  have e : (100 : Int32) * Int32.ofNat i + Int32.ofNat k = Int32.ofNat (100 * i + k) := by
    rw [Int32.ofNat_add, Int32.ofNat_mul]
    rfl
  rw [e]
  exact zo_ne2 (by omega)
/-- both hypotheses at once -/
def zH (E : zE) (np m : Nat) (nc : Nat → Nat) (n : Nat) (g : Nat → Nat) : Prop := zOkE E np m nc ∧ zGok m n g
def zSX (E : zE) (np m : Nat) (nc : Nat → Nat) (n : Nat) (g : Nat → Nat) (f : Int32) (S : zSt) : Prop := zXV E np m nc S ∧ zGX n g f S
def zSR (E : zE) (np m : Nat) (nc : Nat → Nat) (n : Nat) (g : Nat → Nat) (U : Nat → Int32) (S : zSt) : Prop := zRV E np m nc S ∧ zGrp n g S ∧ ∀ i, i < 12 → S.2.1 35 i = U i
theorem zSX_K {E : zE} {np m : Nat} {nc : Nat → Nat} {n : Nat} {g : Nat → Nat} {f : Int32} {a b : zSt} {I A : List Nat} (h : zSX E np m nc n g f a) (k : zKeep I A a b) (hI : ∀ j ∈ [904, 801, 705, 706], j ∉ I) (hA : ∀ j ∈ [902, 903, 901, 800, 701], j ∉ A) : zSX E np m nc n g f b :=
  ⟨zXV_K h.1 k (fun j hj => hI j (by simp at hj ⊢; omega)) (fun j hj => hA j (by simp at hj ⊢; omega)), zGX_K h.2 k (fun j hj => hI j (by simp at hj ⊢; omega)) (hA 701 (by simp))⟩
theorem zSR_K {E : zE} {np m : Nat} {nc : Nat → Nat} {n : Nat} {g : Nat → Nat} {U : Nat → Int32} {a b : zSt} {I A : List Nat} (h : zSR E np m nc n g U a) (k : zKeep I A a b) (hI : ∀ j ∈ [3, 28, 33], j ∉ I) (hA : ∀ j ∈ [4, 29, 30, 31, 32, 6, 5, 34, 35], j ∉ A) : zSR E np m nc n g U b :=
  ⟨zRV_K h.1 k (fun j hj => hI j (by simp at hj ⊢; omega)) (fun j hj => hA j (by simp at hj ⊢; omega)), zGrp_K h.2.1 k (hI 33 (by simp)) (hA 34 (by simp)), fun i hi => by rw [k.2.1 35 (hA 35 (by simp))]; exact h.2.2 i hi⟩
/-- all who stand: the CELL's first faller -/
def zG (E : zE) (n : Nat) (g : Nat → Nat) (f : Int32) (p : Nat) (e : Int32) (U : Nat → Int32) (i : Nat) : Int32 := zFirst (zMar E n g f p i e (U i)) n 0
theorem x_first {F : Nat → Int32} {n : Nat} (hn : n ≤ 8) {S : zSt} (h5 : S.1 705 = Int32.ofNat n) (hF : ∀ j, j < n → S.2.1 704 j = F j) : ∀ (fu k c : Nat), k + c = n → 8 < k + fu → fX6_firstFaller_b2 zN fu (Int32.ofNat k) S = some (zFirst F c k, S) := by
  intro fu
  induction fu with
  | zero => intro k c h1 h2; exact absurd h2 (by omega)
  | succ fu ih =>
    intro k c h1 h2
    rw [fX6_firstFaller_b2, h5, zi_le (by omega) (by omega)]
    cases c with
    | zero => rw [if_pos (by omega)]; rfl
    | succ c =>
      rw [if_neg (by omega), if_pos (zin_o (by omega) (by decide)), zo_t (by omega), hF k (by omega), zFirst]
      by_cases d : 0 ≤ F k
      · rw [if_pos d, if_pos d, zo_s]
        exact ih (k + 1) c (by omega) (by omega)
      · rw [if_neg d, if_neg d]
theorem x_all {E : zE} {np m : Nat} {nc : Nat → Nat} {n : Nat} {g : Nat → Nat} (hH : zH E np m nc n g) {f : Int32} {S : zSt} (hS : zSX E np m nc n g f S) {p i : Nat} (hp : p < np) (hi : i < nc p) (e u : Int32) :
    ∃ S1 : zSt, fX2_allStand zN (Int32.ofNat p) (Int32.ofNat i) e u S = some (if zFirst (zMar E n g f p i e u) n 0 = -2 then 1 else 0, S1) ∧ zKeep [] [702, 703, 704] S S1 := by
  have n5 := hH.2.2.1
  have n1 := hH.2.1
  obtain ⟨S1, e1, k1, r1⟩ := x_enter hH.1 (by omega) hH.2.2.2.1 (fun _ => n5) (fun _ => n1) hS.1 hS.2 hp hi e u
  refine ⟨S1, ?_, k1⟩
  have h5 : S1.1 705 = Int32.ofNat n := (k1.1 705 (by simp)).trans hS.2.1
  have ff := x_first (F := zMar E n g f p i e u) (by omega) h5 (fun j hj => (r1 j hj).2.2) zN 0 n (by omega) (by decide)
  unfold fX2_allStand fX6_firstFaller
  rw [e1, zU_some, show fX6_firstFaller_b2 zN zN 0 S1 = _ from ff, zB_some]
  split <;> rfl
theorem x_ff {E : zE} {np m : Nat} {nc : Nat → Nat} {n : Nat} {g : Nat → Nat} (hH : zH E np m nc n g) {f : Int32} {p : Nat} (hp : p < np) (e : Int32) : ∀ (fu i c : Nat) (S : zSt), zSX E np m nc n g f S → i + c = nc p → 12 < i + fu →
    ∃ S1 : zSt, fX2_firstFall_b2 zN fu (Int32.ofNat p) e (Int32.ofNat i) S = some (zFF (zG E n g f p e (fun _ => 0)) c i, S1) ∧ zKeep [] [702, 703, 704] S S1 := by
  have n5 := hH.2.2.1
  have n1 := hH.2.1
  have n12 := (hH.1.2.2.1 p hp).2.1
  intro fu
  induction fu with
  | zero => intro i c S hS h1 h2; exact absurd h2 (by omega)
  | succ fu ih =>
    intro i c S hS h1 h2
    rw [fX2_firstFall_b2, x_cellsOf hH.1 hS.1 hp, zB_some, zi_le (by omega) (by omega)]
    cases c with
    | zero => rw [if_pos (by omega)]; exact ⟨S, rfl, zK_refl _⟩
    | succ c =>
      obtain ⟨S1, e1, k1, r1⟩ := x_enter hH.1 (by omega) hH.2.2.2.1 (fun _ => n5) (fun _ => n1) hS.1 hS.2 hp (by omega : i < nc p) e 0
      have h5 : S1.1 705 = Int32.ofNat n := (k1.1 705 (by simp)).trans hS.2.1
      have ff := x_first (F := zMar E n g f p i e 0) (by omega) h5 (fun j hj => (r1 j hj).2.2) zN 0 n (by omega) (by decide)
      unfold fX6_firstFaller
      rw [if_neg (by omega), e1, zU_some, show fX6_firstFaller_b2 zN zN 0 S1 = _ from ff, zB_some, zFF]
      show ∃ S2 : zSt, (if zG E n g f p e (fun _ => 0) i = -2 then _ else _) = _ ∧ _
      by_cases d : zG E n g f p e (fun _ => 0) i = -2
      · rw [if_pos d, if_pos d, zo_s]
        obtain ⟨S2, e2, k2⟩ := ih (i + 1) c S1 (zSX_K hS k1 (by simp) (by decide)) (by omega) (by omega)
        exact ⟨S2, e2, zK_t k1 k2⟩
      · rw [if_neg d, if_neg d]
        exact ⟨S1, rfl, k1⟩
theorem x_firstFall {E : zE} {np m : Nat} {nc : Nat → Nat} {n : Nat} {g : Nat → Nat} (hH : zH E np m nc n g) {f : Int32} {p : Nat} (hp : p < np) (e : Int32) {S : zSt} (hS : zSX E np m nc n g f S) :
    ∃ S1 : zSt, fX2_firstFall zN (Int32.ofNat p) e S = some (zFF (zG E n g f p e (fun _ => 0)) (nc p) 0, S1) ∧ zKeep [] [702, 703, 704] S S1 :=
  x_ff hH hp e zN 0 (nc p) S hS (by omega) (by decide)
-- the reference's
theorem r_mar {E : zE} {np m : Nat} {nc : Nat → Nat} {n : Nat} {g : Nat → Nat} (hH : zH E np m nc n g) {U : Nat → Int32} {S : zSt} (hS : zSR E np m nc n g U S) {f : Int32} (hf : ¬ f = 4) {p i : Nat} (hp : p < np) (hi : i < 12) (e : Int32) {k : Nat} (hk : k < n) :
    fX12_marginIn zN (Int32.ofNat p) (Int32.ofNat i) e (Int32.ofNat k) f S = some (zMar E n g f p i e (U i) k, S) := by
  rw [r_margin hH.1 hS.1 hS.2.1 hH.2.2.1 hH.2.2.2.1 hf hp hi e hk, hS.2.2 i hi]
theorem r_all {E : zE} {np m : Nat} {nc : Nat → Nat} {n : Nat} {g : Nat → Nat} (hH : zH E np m nc n g) {U : Nat → Int32} {S : zSt} (hS : zSR E np m nc n g U S) {f : Int32} (hf : ¬ f = 4) {p i : Nat} (hp : p < np) (hi : i < 12) (e : Int32) : ∀ (fu k c : Nat), k + c = n → 5 < k + fu →
    fX12_allStand_b3 zN fu (Int32.ofNat p) (Int32.ofNat i) e f (Int32.ofNat k) S = some (if zFirst (zMar E n g f p i e (U i)) c k = -2 then 1 else 0, S) := by
  have n5 := hH.2.2.1
  intro fu
  induction fu with
  | zero => intro k c h1 h2; exact absurd h2 (by omega)
  | succ fu ih =>
    intro k c h1 h2
    rw [fX12_allStand_b3, hS.2.1.1, zi_le (by omega) (by omega)]
    cases c with
    | zero => rw [if_pos (by omega)]; rfl
    | succ c =>
      rw [if_neg (by omega), r_mar hH hS hf hp hi e (by omega), zB_some, zFirst]
      by_cases d : 0 ≤ zMar E n g f p i e (U i) k
      · rw [if_pos d, if_pos d, zo_s]
        exact ih (k + 1) c (by omega) (by omega)
      · rw [if_neg d, if_neg d, if_neg (zo_ne2 (by omega))]
theorem r_allStand {E : zE} {np m : Nat} {nc : Nat → Nat} {n : Nat} {g : Nat → Nat} (hH : zH E np m nc n g) {U : Nat → Int32} {S : zSt} (hS : zSR E np m nc n g U S) {f : Int32} (hf : ¬ f = 4) {p i : Nat} (hp : p < np) (hi : i < 12) (e : Int32) :
    fX12_allStand zN (Int32.ofNat p) (Int32.ofNat i) e f S = some (if zG E n g f p e U i = -2 then 1 else 0, S) :=
  r_all hH hS hf hp hi e zN 0 n (by omega) (by decide)
theorem r_over_loop {E : zE} {np m : Nat} {nc : Nat → Nat} {n : Nat} {g : Nat → Nat} (hH : zH E np m nc n g) {U : Nat → Int32} {S : zSt} (hS : zSR E np m nc n g U S) {f : Int32} (hf : ¬ f = 4) {p : Nat} (hp : p < np) (e : Int32) : ∀ (fu i c : Nat), i + c = nc p → 12 < i + fu →
    fX12_isOver_b3 zN fu (Int32.ofNat p) e f (Int32.ofNat i) S = some (if zFF (zG E n g f p e U) c i = -2 then 1 else 0, S) := by
  have n6 := hH.1.1
  have n5 := hH.2.2.1
  have n12 := (hH.1.2.2.1 p hp).2.1
  intro fu
  induction fu with
  | zero => intro i c h1 h2; exact absurd h2 (by omega)
  | succ fu ih =>
    intro i c h1 h2
    rw [fX12_isOver_b3, if_pos (zin_o (by omega) (by decide)), zo_t (by omega), hS.1.2.2.1 p hp, zi_le (by omega) (by omega)]
    cases c with
    | zero => rw [if_pos (by omega)]; rfl
    | succ c =>
      rw [if_neg (by omega), r_allStand hH hS hf hp (by omega) e, zB_some, zFF]
      by_cases d : zG E n g f p e U i = -2
      · rw [if_pos d, if_pos d, if_neg zn10, zo_s]
        exact ih (i + 1) c (by omega) (by omega)
      · rw [if_neg d, if_neg d, if_pos zn00]
        rcases zFirst_or (zMar E n g f p i e (U i)) n 0 with q | ⟨j, j1, j2, q⟩
        · exact absurd q d
        · have q : zG E n g f p e U i = Int32.ofNat j := q
          rw [q, if_neg (zFF_ne (by omega) (by omega))]
theorem r_isOver {E : zE} {np m : Nat} {nc : Nat → Nat} {n : Nat} {g : Nat → Nat} (hH : zH E np m nc n g) {U : Nat → Int32} {S : zSt} (hS : zSR E np m nc n g U S) {f : Int32} (hf : ¬ f = 4) {p : Nat} (hp : p < np) (e : Int32) :
    fX12_isOver zN (Int32.ofNat p) e f S = some (if zFF (zG E n g f p e U) (nc p) 0 = -2 then 1 else 0, S) :=
  r_over_loop hH hS hf hp e zN 0 (nc p) (by omega) (by decide)
-- the least
def zLst (F : Nat → Nat → Int32) (c n : Nat) (v : Int32) : Prop := (∀ i k, i < c → k < n → v ≤ F i k) ∧ ∃ i k, i < c ∧ k < n ∧ v = F i k
theorem zLst_one {F : Nat → Nat → Int32} {c n : Nat} {v w : Int32} (h : zLst F c n v) (h2 : zLst F c n w) : v = w := by
  obtain ⟨i, k, hi, hk, e⟩ := h.2
  obtain ⟨i2, k2, hi2, hk2, e2⟩ := h2.2
  exact Int32.le_antisymm (by rw [e2]; exact h.1 i2 k2 hi2 hk2) (by rw [e]; exact h2.1 i k hi hk)
def zMinF (F : Nat → Int32) : Nat → Nat → Int32 → Int32
  | 0, _, a => a
  | c + 1, k, a => zMinF F c (k + 1) (zmn a (F k))
theorem zmn_le (a b : Int32) : zmn a b ≤ a ∧ zmn a b ≤ b ∧ (zmn a b = a ∨ zmn a b = b) := by
  unfold zmn
  by_cases h : b < a
  · rw [if_pos h]; exact ⟨Int32.le_of_lt h, Int32.le_refl _, Or.inr rfl⟩
  · rw [if_neg h]; exact ⟨Int32.le_refl _, Int32.not_lt.mp h, Or.inl rfl⟩
theorem zMinF_le (F : Nat → Int32) : ∀ (c k : Nat) (a : Int32), zMinF F c k a ≤ a ∧ (∀ j, k ≤ j → j < k + c → zMinF F c k a ≤ F j) ∧ (zMinF F c k a = a ∨ ∃ j, k ≤ j ∧ j < k + c ∧ zMinF F c k a = F j) := by
  intro c
  induction c with
  | zero => intro k a; exact ⟨Int32.le_refl _, fun j h1 h2 => absurd h2 (by omega), Or.inl rfl⟩
  | succ c ih =>
    intro k a
    obtain ⟨m1, m2, m3⟩ := zmn_le a (F k)
    obtain ⟨i1, i2, i3⟩ := ih (k + 1) (zmn a (F k))
    show zMinF F c (k + 1) (zmn a (F k)) ≤ a ∧ (∀ j, k ≤ j → j < k + (c + 1) → zMinF F c (k + 1) (zmn a (F k)) ≤ F j) ∧ (zMinF F c (k + 1) (zmn a (F k)) = a ∨ ∃ j, k ≤ j ∧ j < k + (c + 1) ∧ zMinF F c (k + 1) (zmn a (F k)) = F j)
    refine ⟨Int32.le_trans i1 m1, fun j h1 h2 => ?_, ?_⟩
    · by_cases e : j = k
      · rw [e]; exact Int32.le_trans i1 m2
      · exact i2 j (by omega) (by omega)
    · rcases i3 with e | ⟨j, j1, j2, e⟩
      · rcases m3 with x | x
        · exact Or.inl (e.trans x)
        · exact Or.inr ⟨k, by omega, by omega, e.trans x⟩
      · exact Or.inr ⟨j, by omega, by omega, e⟩
theorem x_least1 {F : Nat → Int32} {n : Nat} (hn : n ≤ 8) {S : zSt} (h5 : S.1 705 = Int32.ofNat n) (hF : ∀ j, j < n → S.2.1 704 j = F j) : ∀ (fu k c : Nat) (a : Int32), k + c = n → 8 < k + fu → fX6_leastMargin_b5 zN fu a (Int32.ofNat k) S = some (zMinF F c k a, S) := by
  intro fu
  induction fu with
  | zero => intro k c a h1 h2; exact absurd h2 (by omega)
  | succ fu ih =>
    intro k c a h1 h2
    rw [fX6_leastMargin_b5, h5, zi_le (by omega) (by omega)]
    cases c with
    | zero => rw [if_pos (by omega)]; rfl
    | succ c =>
      rw [if_neg (by omega), if_pos (zin_o (by omega) (by decide)), zo_t (by omega), hF k (by omega), zL_def, zo_s]
      exact ih (k + 1) c _ (by omega) (by omega)
theorem zmax (x : Int32) : x ≤ 2147483647 := by
  rw [Int32.le_iff_toInt_le]
  have := Int32.toInt_lt x
  have e : (2147483647 : Int32).toInt = 2147483647 := by decide
  omega
theorem x_least_loop {E : zE} {np m : Nat} {nc : Nat → Nat} {n : Nat} {g : Nat → Nat} (hH : zH E np m nc n g) {f : Int32} {p : Nat} (hp : p < np) (e flo : Int32) : ∀ (fu i : Nat) (a : Int32) (S : zSt), zSX E np m nc n g f S → i ≤ nc p → 12 < i + fu →
    (∀ i2 k, i2 < i → k < n → a ≤ zMar E n g f p i2 e 0 k) → ((i = 0 ∧ a = 2147483647) ∨ ∃ i2 k, i2 < i ∧ k < n ∧ a = zMar E n g f p i2 e 0 k) →
    ∃ (S1 : zSt) (r : Int32), fX2_leastMargin_b7 zN fu (Int32.ofNat p) e flo a (Int32.ofNat i) S = some (r, S1) ∧ zKeep [] [702, 703, 704] S S1 ∧ ∀ l, zLst (fun i k => zMar E n g f p i e 0 k) (nc p) n l → (flo < l → r = l) ∧ (l ≤ flo → r ≤ flo) := by
  have n5 := hH.2.2.1
  have n1 := hH.2.1
  have c1 := (hH.1.2.2.1 p hp).1
  have n12 := (hH.1.2.2.1 p hp).2.1
  intro fu
  induction fu with
  | zero => intro i a S hS h1 h2; exact absurd h2 (by omega)
  | succ fu ih =>
    intro i a S hS h1 h2 h3 h4
    rw [fX2_leastMargin_b7, x_cellsOf hH.1 hS.1 hp, zB_some, zi_le (by omega) (by omega)]
    by_cases c : nc p ≤ i
    · have : i = nc p := by omega
      subst this
      rw [if_pos c]
      refine ⟨S, a, rfl, zK_refl _, fun l hl => ?_⟩
      have al : a = l := by
        refine zLst_one (F := fun i k => zMar E n g f p i e 0 k) (c := nc p) (n := n) ⟨h3, ?_⟩ hl
        rcases h4 with ⟨x, -⟩ | x
        · omega
        · exact x
      exact ⟨fun _ => al, fun h => by rw [al]; exact h⟩
    · rw [if_neg c]
      by_cases d : a ≤ flo
      · rw [if_pos d]
        refine ⟨S, a, rfl, zK_refl _, fun l hl => ⟨fun h => ?_, fun _ => d⟩⟩
        have : l ≤ a := by
          rcases h4 with ⟨-, x⟩ | ⟨i2, k, i3, k3, x⟩
          · rw [x]; exact zmax l
          · rw [x]; exact hl.1 i2 k (by omega) k3
        exact absurd h (Int32.not_lt.mpr (Int32.le_trans this d))
      · obtain ⟨S1, e1, k1, r1⟩ := x_enter hH.1 (by omega) hH.2.2.2.1 (fun _ => n5) (fun _ => n1) hS.1 hS.2 hp (by omega : i < nc p) e 0
        have h5 : S1.1 705 = Int32.ofNat n := (k1.1 705 (by simp)).trans hS.2.1
        have ll := x_least1 (F := zMar E n g f p i e 0) (by omega) h5 (fun j hj => (r1 j hj).2.2) zN 0 n 2147483647 (by omega) (by decide)
        obtain ⟨q1, q2, q3⟩ := zMinF_le (zMar E n g f p i e 0) n 0 2147483647
        obtain ⟨m1, m2, m3⟩ := zmn_le a (zMinF (zMar E n g f p i e 0) n 0 2147483647)
        have q4 : ∃ k, k < n ∧ zMinF (zMar E n g f p i e 0) n 0 2147483647 = zMar E n g f p i e 0 k := by
          rcases q3 with x | ⟨j, -, j2, x⟩
          · refine ⟨0, by omega, Int32.le_antisymm (q2 0 (by omega) (by omega)) ?_⟩
            rw [x]; exact zmax _
          · exact ⟨j, by omega, x⟩
        unfold fX6_leastMargin
        rw [if_neg d, e1, zU_some, show fX6_leastMargin_b5 zN zN 2147483647 0 S1 = _ from ll, zB_some, zo_s]
        obtain ⟨S2, r, e2, k2, p2⟩ := ih (i + 1) (zmn a (zMinF (zMar E n g f p i e 0) n 0 2147483647)) S1 (zSX_K hS k1 (by simp) (by decide)) (by omega) (by omega) (fun i2 k hi2 hk => by
          by_cases y : i2 = i
          · rw [y]; exact Int32.le_trans m2 (q2 k (by omega) (by omega))
          · exact Int32.le_trans m1 (h3 i2 k (by omega) hk)) (Or.inr (by
          rcases m3 with x | x
          · rcases h4 with ⟨z1, z2⟩ | ⟨i2, k, i3, k3, z⟩
            · obtain ⟨k, hk, y⟩ := q4
              refine ⟨i, k, by omega, hk, Int32.le_antisymm (by rw [← y]; exact m2) ?_⟩
              rw [x, z2]; exact zmax _
            · exact ⟨i2, k, by omega, k3, x.trans z⟩
          · obtain ⟨k, hk, y⟩ := q4
            exact ⟨i, k, by omega, hk, x.trans y⟩))
        exact ⟨S2, r, e2, zK_t k1 k2, p2⟩
theorem x_least {E : zE} {np m : Nat} {nc : Nat → Nat} {n : Nat} {g : Nat → Nat} (hH : zH E np m nc n g) {f : Int32} {p : Nat} (hp : p < np) (e flo : Int32) {S : zSt} (hS : zSX E np m nc n g f S) :
    ∃ (S1 : zSt) (r : Int32), fX2_leastMargin zN (Int32.ofNat p) e flo S = some (r, S1) ∧ zKeep [] [702, 703, 704] S S1 ∧ ∀ l, zLst (fun i k => zMar E n g f p i e 0 k) (nc p) n l → (flo < l → r = l) ∧ (l ≤ flo → r ≤ flo) :=
  x_least_loop hH hp e flo zN 0 2147483647 S hS (by omega) (by decide) (fun i2 k h => absurd h (by omega)) (Or.inl ⟨rfl, rfl⟩)
theorem r_least_in {E : zE} {np m : Nat} {nc : Nat → Nat} {n : Nat} {g : Nat → Nat} (hH : zH E np m nc n g) {U : Nat → Int32} {S : zSt} (hS : zSR E np m nc n g U S) {f : Int32} (hf : ¬ f = 4) {p i : Nat} (hp : p < np) (hi : i < 12) (e : Int32) (K : Int32 → Int32 → Int32 → Int32 → Int32 → zSt → Option (Int32 × zSt)) : ∀ (fu k c : Nat) (a : Int32), k + c = n → 5 < k + fu →
    fX12_leastOf_b28 zN K fu (Int32.ofNat p) e f a (Int32.ofNat i) (Int32.ofNat k) S = K (Int32.ofNat p) e f (zMinF (zMar E n g f p i e (U i)) c k a) (Int32.ofNat (i + 1)) S := by
  have n5 := hH.2.2.1
  intro fu
  induction fu with
  | zero => intro k c a h1 h2; exact absurd h2 (by omega)
  | succ fu ih =>
    intro k c a h1 h2
    rw [fX12_leastOf_b28, hS.2.1.1, zi_le (by omega) (by omega)]
    cases c with
    | zero => rw [if_pos (by omega), zo_s]; rfl
    | succ c =>
      rw [if_neg (by omega), r_mar hH hS hf hp hi e (by omega), zB_some, zo_s]
      show _ = K (Int32.ofNat p) e f (zMinF (zMar E n g f p i e (U i)) c (k + 1) (zmn a (zMar E n g f p i e (U i) k))) (Int32.ofNat (i + 1)) S
      by_cases d : a ≤ zMar E n g f p i e (U i) k
      · have : zmn a (zMar E n g f p i e (U i) k) = a := if_neg (Int32.not_lt.mpr d)
        rw [if_pos d, this]
        exact ih (k + 1) c a (by omega) (by omega)
      · have : zmn a (zMar E n g f p i e (U i) k) = zMar E n g f p i e (U i) k := if_pos (Int32.not_le.mp d)
        rw [if_neg d, this]
        exact ih (k + 1) c _ (by omega) (by omega)
theorem r_least_loop {E : zE} {np m : Nat} {nc : Nat → Nat} {n : Nat} {g : Nat → Nat} (hH : zH E np m nc n g) {U : Nat → Int32} {S : zSt} (hS : zSR E np m nc n g U S) {f : Int32} (hf : ¬ f = 4) {p : Nat} (hp : p < np) (e : Int32) : ∀ (fu i : Nat) (a : Int32), i ≤ nc p → 12 < i + fu →
    (∀ i2 k, i2 < i → k < n → a ≤ zMar E n g f p i2 e (U i2) k) → (∃ i2 k, i2 < nc p ∧ k < n ∧ a = zMar E n g f p i2 e (U i2) k) →
    ∃ l : Int32, fX12_leastOf_b14 zN fu (Int32.ofNat p) e f a (Int32.ofNat i) S = some (l, S) ∧ zLst (fun i k => zMar E n g f p i e (U i) k) (nc p) n l := by
  have n6 := hH.1.1
  have n12 := (hH.1.2.2.1 p hp).2.1
  intro fu
  induction fu with
  | zero => intro i a h1 h2; exact absurd h2 (by omega)
  | succ fu ih =>
    intro i a h1 h2 h3 h4
    rw [fX12_leastOf_b14, if_pos (zin_o (by omega) (by decide)), zo_t (by omega), hS.1.2.2.1 p hp, zi_le (by omega) (by omega)]
    by_cases c : nc p ≤ i
    · have : i = nc p := by omega
      subst this
      rw [if_pos c]
      exact ⟨a, rfl, h3, h4⟩
    · rw [if_neg c]
      have ll := r_least_in hH hS hf hp (by omega : i < 12) e (fX12_leastOf_b14 zN fu) zN 0 n a (by omega) (by decide)
      obtain ⟨q1, q2, q3⟩ := zMinF_le (zMar E n g f p i e (U i)) n 0 a
      rw [show fX12_leastOf_b28 zN (fX12_leastOf_b14 zN fu) zN (Int32.ofNat p) e f a (Int32.ofNat i) 0 S = _ from ll]
      exact ih (i + 1) _ (by omega) (by omega) (fun i2 k hi2 hk => by
        by_cases y : i2 = i
        · rw [y]; exact q2 k (by omega) (by omega)
        · exact Int32.le_trans q1 (h3 i2 k (by omega) hk)) (by
        rcases q3 with x | ⟨j, -, j2, x⟩
        · rw [x]; exact h4
        · exact ⟨i, j, by omega, by omega, x⟩)
theorem r_least {E : zE} {np m : Nat} {nc : Nat → Nat} {n : Nat} {g : Nat → Nat} (hH : zH E np m nc n g) {U : Nat → Int32} {S : zSt} (hS : zSR E np m nc n g U S) {f : Int32} (hf : ¬ f = 4) {p : Nat} (hp : p < np) (e : Int32) :
    ∃ l : Int32, fX12_leastOf zN (Int32.ofNat p) e f S = some (l, S) ∧ zLst (fun i k => zMar E n g f p i e (U i) k) (nc p) n l := by
  have c1 := (hH.1.2.2.1 p hp).1
  have n1 := hH.2.1
  have m0 := r_mar hH hS hf hp (by omega : 0 < 12) e (by omega : 0 < n)
  unfold fX12_leastOf
  rw [show fX12_marginIn zN (Int32.ofNat p) 0 e 0 f S = _ from m0, zB_some]
  exact r_least_loop hH hS hf hp e zN 0 _ (by omega) (by decide) (fun i2 k h => absurd h (by omega)) ⟨0, 0, by omega, by omega, rfl⟩
