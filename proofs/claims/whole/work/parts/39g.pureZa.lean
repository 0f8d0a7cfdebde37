-- orders: lists and values
def zVl (h : Nat → Nat) : Nat → Nat
  | 0 => 0
  | k + 1 => 9 * zVl h k + h k
def zDg (h : Nat → Nat) : Nat → Nat
  | 0 => 0
  | k + 1 => 10 * zDg h k + h k + 1
theorem zVl_congr {h h2 : Nat → Nat} : ∀ n, (∀ j, j < n → h j = h2 j) → zVl h n = zVl h2 n := by
  intro n
  induction n with
  | zero => intro _; rfl
  | succ n ih => intro q; rw [zVl, zVl, ih (fun j hj => q j (by omega)), q n (by omega)]
theorem zDg_congr {h h2 : Nat → Nat} : ∀ n, (∀ j, j < n → h j = h2 j) → zDg h n = zDg h2 n := by
  intro n
  induction n with
  | zero => intro _; rfl
  | succ n ih => intro q; rw [zDg, zDg, ih (fun j hj => q j (by omega)), q n (by omega)]
theorem zVl_lt {h h2 : Nat → Nat} : ∀ n, (∀ j, j < n → h j < 9) → zLx n h h2 → zVl h n < zVl h2 n := by
  intro n
  induction n with
  | zero => rintro _ ⟨k, hk, _⟩; exact absurd hk (by omega)
  | succ n ih =>
    rintro h9 ⟨k, hk, e, lt⟩
    rw [zVl, zVl]
    by_cases q : k = n
    · subst q
      rw [zVl_congr k e]
      omega
    · have := ih (fun j hj => h9 j (by omega)) ⟨k, by omega, e, lt⟩
      have := h9 n (by omega)
      omega
theorem zFn_map {n j : Nat} (f : Nat → Nat) (hj : j < n) : zFn ((List.range n).map f) j = f j := by
  unfold zFn
  simp [List.getD_eq_getElem?_getD, hj]
theorem zFn_get {l : List Nat} {j : Nat} (hj : j < l.length) : zFn l j = l[j] := by
  unfold zFn
  simp [List.getD_eq_getElem?_getD, hj]
theorem zFn_0 (a : Nat) (r : List Nat) : zFn (a :: r) 0 = a := rfl
theorem zFn_s (a : Nat) (r : List Nat) (j : Nat) : zFn (a :: r) (j + 1) = zFn r j := rfl
theorem zFn_mem {l : List Nat} {j : Nat} (hj : j < l.length) : zFn l j ∈ l := by
  rw [zFn_get hj]
  exact List.getElem_mem hj
theorem zFn_of {l : List Nat} {a : Nat} (h : a ∈ l) : ∃ j, j < l.length ∧ zFn l j = a := by
  obtain ⟨j, hj, e⟩ := List.getElem_of_mem h
  exact ⟨j, hj, by rw [zFn_get hj]; exact e⟩
theorem zDis_inj : ∀ (l : List Nat), zDis l = true → ∀ i j, i < l.length → j < l.length → zFn l i = zFn l j → i = j := by
  intro l
  induction l with
  | nil => intro _ i j hi; exact absurd hi (by simp)
  | cons a r ih =>
    intro h i j hi hj e
    rw [zDis, Bool.and_eq_true, Bool.not_eq_true'] at h
    have na : ¬ a ∈ r := fun x => by
      have := List.elem_eq_true_of_mem x
      rw [h.1] at this
      exact absurd this (by decide)
    obtain _ | i := i
    · obtain _ | j := j
      · rfl
      · rw [zFn_0, zFn_s] at e
        exact absurd (e ▸ zFn_mem (by simpa using hj)) na
    · obtain _ | j := j
      · rw [zFn_0, zFn_s] at e
        exact absurd (e ▸ zFn_mem (by simpa using hi)) na
      · rw [zFn_s, zFn_s] at e
        rw [ih h.2 i j (by simpa using hi) (by simpa using hj) e]
theorem zDis_of : ∀ (l : List Nat), (∀ i j, i < l.length → j < l.length → zFn l i = zFn l j → i = j) → zDis l = true := by
  intro l
  induction l with
  | nil => intro _; rfl
  | cons a r ih =>
    intro h
    rw [zDis, Bool.and_eq_true, Bool.not_eq_true']
    refine ⟨?_, ih (fun i j hi hj e => by
      have := h (i + 1) (j + 1) (by simpa using hi) (by simpa using hj) (by rw [zFn_s, zFn_s]; exact e)
      omega)⟩
    cases q : r.elem a with
    | false => rfl
    | true =>
      obtain ⟨j, hj, e⟩ := zFn_of (List.mem_of_elem_eq_true q)
      have := h 0 (j + 1) (by simp) (by simpa using hj) (by rw [zFn_0, zFn_s]; exact e.symm)
      omega
theorem zTup_mem {n : Nat} : ∀ (c : Nat) (l : List Nat), l.length = c → (∀ a ∈ l, a < n) → l ∈ zTup n c := by
  intro c
  induction c with
  | zero =>
    intro l h _
    rw [List.length_eq_zero_iff.mp h]
    exact List.mem_singleton.mpr rfl
  | succ c ih =>
    intro l h hl
    obtain _ | ⟨a, r⟩ := l
    · exact absurd h (by simp)
    · rw [zTup, List.mem_flatMap]
      refine ⟨r, ih r (by simpa using h) (fun x hx => hl x (List.mem_cons_of_mem _ hx)), ?_⟩
      rw [List.mem_map]
      exact ⟨a, List.mem_range.mpr (hl a (List.mem_cons_self)), rfl⟩
theorem zPerm_mem {n : Nat} (h1 : 1 ≤ n) (h5 : n ≤ 5) {f : Nat → Nat} (hf : ∀ j, j < n → f j < n) (hi : ∀ i j, i < n → j < n → f i = f j → i = j) : (List.range n).map f ∈ zPerms n := by
  have t := (zTab h1 h5).2.1
  unfold zCkA at t
  rw [List.all_eq_true] at t
  have q := t ((List.range n).map f) (zTup_mem n _ (by simp) (fun a ha => by
    obtain ⟨j, hj, e⟩ := List.mem_map.mp ha
    rw [← e]
    exact hf j (List.mem_range.mp hj)))
  have d : zDis ((List.range n).map f) = true := zDis_of _ (fun i j hi2 hj2 e => by
    have hi2 : i < n := by simpa using hi2
    have hj2 : j < n := by simpa using hj2
    rw [zFn_map f hi2, zFn_map f hj2] at e
    exact hi i j hi2 hj2 e)
  rw [d] at q
  exact List.mem_of_elem_eq_true (by simpa using q)
theorem zCkO_of {n : Nat} {l : List Nat} (h : zCkO n l = true) : l.length = n ∧ (∀ j, j < n → zFn l j < n) ∧ ∀ i j, i < n → j < n → zFn l i = zFn l j → i = j := by
  unfold zCkO at h
  rw [Bool.and_eq_true, Bool.and_eq_true] at h
  obtain ⟨⟨a, b⟩, c⟩ := h
  have a := eq_of_beq a
  rw [List.all_eq_true] at b
  subst a
  exact ⟨rfl, fun j hj => Nat.blt_eq.mp (b _ (zFn_mem hj)), zDis_inj l c⟩
theorem zLxB_of {n : Nat} {a b : List Nat} (h : zLxB n a b = true) : zLx n (zFn a) (zFn b) := by
  unfold zLxB at h
  rw [List.any_eq_true] at h
  obtain ⟨k, hk, q⟩ := h
  rw [Bool.and_eq_true, List.all_eq_true] at q
  exact ⟨k, List.mem_range.mp hk, fun j hj => eq_of_beq (q.1 j (List.mem_range.mpr hj)), Nat.blt_eq.mp q.2⟩
theorem zLx_s {n : Nat} {s h h2 : Nat → Nat} (hs : ∀ a b, a < b → b < n → s a < s b) (h3 : ∀ j, j < n → h2 j < n) (q : zLx n h h2) : zLx n (fun j => s (h j)) (fun j => s (h2 j)) := by
  obtain ⟨k, hk, e, lt⟩ := q
  exact ⟨k, hk, fun j hj => by show s (h j) = s (h2 j); rw [e j hj], hs _ _ lt (h3 k hk)⟩
theorem zs_le {n : Nat} {s : Nat → Nat} (hs : ∀ a b, a < b → b < n → s a < s b) {a b : Nat} (ha : a < n) (hb : b < n) : s a ≤ s b ↔ a ≤ b := by
  constructor
  · intro h
    refine Classical.byContradiction (fun x => ?_)
    have := hs b a (by omega) ha
    omega
  · intro h
    by_cases e : a = b
    · rw [e]; exact Nat.le_refl _
    · exact Nat.le_of_lt (hs a b (by omega) hb)
theorem zFK_s {n : Nat} {s h : Nat → Nat} (hs : ∀ a b, a < b → b < n → s a < s b) (hh : ∀ j, j < n → h j < n) : ∀ c, c < n → zFK (fun j => s (h j)) c = zFK h c := by
  intro c
  induction c with
  | zero => intro _; rfl
  | succ c ih =>
    intro hc
    rw [zFK, zFK, ih (by omega)]
    have := zs_le hs (hh c (by omega)) (hh (c + 1) hc)
    by_cases q : h c ≤ h (c + 1)
    · rw [if_pos (this.mpr q), if_pos q]
    · rw [if_neg (fun x => q (this.mp x)), if_neg q]
theorem zFGr_s {n : Nat} {s h : Nat → Nat} (hs : ∀ a b, a < b → b < n → s a < s b) (hh : ∀ j, j < n → h j < n) {k : Nat} (hk : k < n) : ∀ g, g < n → zFGr (fun j => s (h j)) k g = zFGr h k g := by
  intro g
  induction g with
  | zero => intro _; rfl
  | succ g ih =>
    intro hg
    rw [zFGr, zFGr, ih (by omega)]
    have := zs_le hs (hh k hk) (hh (g + 1) hg)
    by_cases q : h k ≤ h (g + 1)
    · rw [if_pos (this.mpr q), if_pos q]
    · rw [if_neg (fun x => q (this.mp x)), if_neg q]
theorem zFK_lt (h : Nat → Nat) : ∀ c k, zFK h c = some k → k < c := by
  intro c
  induction c with
  | zero => intro k e; exact absurd e (by simp [zFK])
  | succ c ih =>
    intro k e
    rw [zFK] at e
    by_cases q : h c ≤ h (c + 1)
    · rw [if_pos q] at e
      have := Option.some.inj e
      omega
    · rw [if_neg q] at e
      have := ih k e
      omega
theorem zFGr_lt (h : Nat → Nat) (k : Nat) : ∀ g, zFGr h k g ≤ g := by
  intro g
  induction g with
  | zero => exact Nat.le_refl _
  | succ g ih =>
    rw [zFGr]
    split
    · omega
    · split
      · omega
      · omega
theorem zNext_s {n : Nat} {s h : Nat → Nat} (hs : ∀ a b, a < b → b < n → s a < s b) (hh : ∀ j, j < n → h j < n) (hn : 1 ≤ n) : zNext n (fun j => s (h j)) = (zNext n h).map fun h2 j => s (h2 j) := by
  unfold zNext
  rw [zFK_s hs hh _ (by omega)]
  cases q : zFK h (n - 1) with
  | none => rfl
  | some k =>
    have hk := zFK_lt h _ _ q
    show some (zRev (zSwp (fun j => s (h j)) k (zFGr (fun j => s (h j)) k (n - 1))) (k + 1) (n - 1)) = some (fun j => s (zRev (zSwp h k (zFGr h k (n - 1))) (k + 1) (n - 1) j))
    rw [zFGr_s hs hh (by omega : k < n) _ (by omega)]
    congr 1
    funext j
    unfold zRev zSwp
    simp only [apply_ite s]
-- orders: the class's
theorem x_next {n : Nat} (hn : 1 ≤ n) (hn8 : n ≤ 8) {h : Nat → Nat} (hh : ∀ j, j < n → h j < 8) {S : zSt} (h5 : S.1 705 = Int32.ofNat n) (hr : ∀ j, j < n → S.2.1 701 j = Int32.ofNat (h j)) :
    (zNext n h = none ∧ fX6_goOnToNextOrder zN S = some (0, S)) ∨ (∃ (h2 : Nat → Nat) (S1 : zSt), zNext n h = some h2 ∧ fX6_goOnToNextOrder zN S = some (1, S1) ∧ zKeep [] [701] S S1 ∧ ∀ j, j < n → S1.2.1 701 j = Int32.ofNat (h2 j)) := by
  have gr : ∀ (k : Nat), k < n → ∀ (g fu : Nat), g < n → g < fu → fX6_goOnToNextOrder_b47 zN fu (Int32.ofNat k) (Int32.ofNat g) S = fX6_goOnToNextOrder_b73 zN (Int32.ofNat k) (Int32.ofNat (zFGr h k g)) S := by
    intro k hk g
    induction g with
    | zero =>
      intro fu h1 h2
      obtain _ | fu := fu
      · exact absurd h2 (by omega)
      rw [fX6_goOnToNextOrder_b47, zi_le (by omega) (by omega), if_pos (by omega)]
      rfl
    | succ g ih =>
      intro fu h1 h2
      obtain _ | fu := fu
      · exact absurd h2 (by omega)
      have z1 : zin (Int32.ofNat (g + 1)) 8 := zin_o (by omega) (by decide)
      have z2 : zin (Int32.ofNat k) 8 := zin_o (by omega) (by decide)
      have a1 := hh k hk
      have a2 := hh (g + 1) h1
      rw [fX6_goOnToNextOrder_b47, zi_le (by omega) (by omega), zFGr]
      by_cases c : g + 1 ≤ k
      · rw [if_pos c, if_pos c]
      · rw [if_neg c, if_neg c, if_pos z1, if_pos z2, zo_t (by omega), zo_t (by omega), hr k hk, hr (g + 1) h1, zi_le (by omega) (by omega)]
        by_cases d : h k ≤ h (g + 1)
        · rw [if_pos d, if_pos d]
        · rw [if_neg d, if_neg d, zo_m (by omega)]
          exact ih fu (by omega) (by omega)
  have fk : ∀ (c fu : Nat), c < n → c < fu → fX6_goOnToNextOrder_b7 zN fu (Int32.ofNat c - 1) S = match zFK h c with
      | none => some (0, S)
      | some k => fX6_goOnToNextOrder_b47 zN zN (Int32.ofNat k) (Int32.ofNat (n - 1)) S := by
    intro c
    induction c with
    | zero =>
      intro fu h1 h2
      obtain _ | fu := fu
      · exact absurd h2 (by omega)
      rw [fX6_goOnToNextOrder_b7, if_pos (show Int32.ofNat 0 - 1 < 0 by decide)]
      unfold fX6_goOnToNextOrder_b34
      rw [if_neg (show ¬ 0 ≤ Int32.ofNat 0 - 1 by decide)]
      rfl
    | succ c ih =>
      intro fu h1 h2
      obtain _ | fu := fu
      · exact absurd h2 (by omega)
      have ec : Int32.ofNat (c + 1) - 1 = Int32.ofNat c := zo_p (by omega)
      have em : Int32.ofNat c + (-1) = Int32.ofNat c - 1 := (Int32.sub_eq_add_neg _ _).symm
      have z1 : zin (Int32.ofNat c) 8 := zin_o (by omega) (by decide)
      have z2 : zin (Int32.ofNat c + 1) 8 := by rw [zo_s]; exact zin_o (by omega) (by decide)
      have a1 := hh c (by omega)
      have a2 := hh (c + 1) h1
      rw [fX6_goOnToNextOrder_b7, ec, if_neg (Int32.not_lt.mpr (zo_0 (by omega))), if_pos z1, if_pos z2, zo_s, zo_t (by omega), zo_t (by omega), hr c (by omega), hr (c + 1) h1, zi_le (by omega) (by omega), zFK, em]
      by_cases d : h c ≤ h (c + 1)
      · rw [if_pos d, if_pos d]
        unfold fX6_goOnToNextOrder_b34
        rw [if_pos (zo_0 (by omega)), h5, zo_p hn]
      · rw [if_neg d, if_neg d]
        exact ih fu (by omega) (by omega)
  have e2 : Int32.ofNat n - 2 = Int32.ofNat (n - 1) - 1 := by
    rw [← zo_p hn]
    generalize Int32.ofNat n = x
    grind
  have ff := fk (n - 1) zN (by omega) (Nat.lt_of_lt_of_le (by omega : n - 1 < 8) (by decide))
  unfold fX6_goOnToNextOrder zNext
  rw [h5, e2, ff]
  cases q : zFK h (n - 1) with
  | none => exact Or.inl ⟨rfl, rfl⟩
  | some k =>
    have hk := zFK_lt h _ _ q
    have hg := zFGr_lt h k (n - 1)
    refine Or.inr ?_
    show ∃ (h2 : Nat → Nat) (S1 : zSt), some (zRev (zSwp h k (zFGr h k (n - 1))) (k + 1) (n - 1)) = some h2 ∧ fX6_goOnToNextOrder_b47 zN zN (Int32.ofNat k) (Int32.ofNat (n - 1)) S = some (1, S1) ∧ _
    rw [gr k (by omega) (n - 1) zN (by omega) (Nat.lt_of_lt_of_le (by omega : n - 1 < 8) (by decide))]
    have KS : zKeep [] [701] S (zA (zA S 701 k (S.2.1 701 (zFGr h k (n - 1)))) 701 (zFGr h k (n - 1)) (S.2.1 701 k)) := zK_t (zK_A _ _ _ _) (zK_A _ _ _ _)
    obtain ⟨S1, t1, t2, t3⟩ := x_turn zN (k + 1) (n - 1) (zA (zA S 701 k (S.2.1 701 (zFGr h k (n - 1)))) 701 (zFGr h k (n - 1)) (S.2.1 701 k)) (by omega) (by omega) (by omega) (Nat.lt_of_lt_of_le (by decide : 8 < zN) (Nat.le_add_left _ _))
    refine ⟨_, S1, rfl, ?_, zK_t KS t2, fun j hj => ?_⟩
    · unfold fX6_goOnToNextOrder_b73 fX6_turnAround
      rw [x_swap (by omega) (by omega), zU_some, zo_s, show (zA (zA S 701 k (S.2.1 701 (zFGr h k (n - 1)))) 701 (zFGr h k (n - 1)) (S.2.1 701 k)).1 705 = Int32.ofNat n from h5, zo_p hn, t1, zU_some]
    · have sw : ∀ j, j < n → (zA (zA S 701 k (S.2.1 701 (zFGr h k (n - 1)))) 701 (zFGr h k (n - 1)) (S.2.1 701 k)).2.1 701 j = Int32.ofNat (zSwp h k (zFGr h k (n - 1)) j) := fun j hj => by
        rw [zA_get, zA_get]
        unfold zSwp
        by_cases c : j = zFGr h k (n - 1)
        · rw [if_pos c, if_pos c, hr k (by omega)]
        · rw [if_neg c, if_neg c]
          by_cases d : j = k
          · rw [if_pos d, if_pos d, hr _ (by omega)]
          · rw [if_neg d, if_neg d, hr j hj]
      rw [t3 j]
      unfold zRev
      by_cases c : k + 1 ≤ j ∧ j ≤ n - 1
      · rw [if_pos c, if_pos c]
        exact sw _ (by omega)
      · rw [if_neg c, if_neg c]
        exact sw j hj
theorem zDg_lt {h : Nat → Nat} : ∀ k, (∀ j, j < k → h j < 9) → zDg h k < 10 ^ k := by
  intro k
  induction k with
  | zero => intro _; exact (by decide : 0 < 1)
  | succ k ih =>
    intro q
    have := ih (fun j hj => q j (by omega))
    have := q k (by omega)
    rw [zDg, Nat.pow_succ]
    omega
theorem zDg_step (h : Nat → Nat) (k : Nat) : (10 : Int32) * Int32.ofNat (zDg h k) + Int32.ofNat (h k) + 1 = Int32.ofNat (zDg h (k + 1)) := by
  rw [zDg, Int32.ofNat_add, Int32.ofNat_add, Int32.ofNat_mul]
  rfl
theorem x_digits {n : Nat} (hn8 : n ≤ 8) {h : Nat → Nat} {S : zSt} (h5 : S.1 705 = Int32.ofNat n) (hr : ∀ j, j < n → S.2.1 701 j = Int32.ofNat (h j)) : ∀ (c fu k : Nat), k + c = n → c < fu → fX6_asDigits_b4 zN fu (Int32.ofNat (zDg h k)) (Int32.ofNat k) S = some (Int32.ofNat (zDg h n), S) := by
  intro c
  induction c with
  | zero =>
    intro fu k h1 h2
    obtain _ | fu := fu
    · exact absurd h2 (by omega)
    have : k = n := by omega
    subst this
    rw [fX6_asDigits_b4, h5, zi_le (by omega) (by omega), if_pos (Nat.le_refl _)]
  | succ c ih =>
    intro fu k h1 h2
    obtain _ | fu := fu
    · exact absurd h2 (by omega)
    rw [fX6_asDigits_b4, h5, zi_le (by omega) (by omega), if_neg (by omega), if_pos (zin_o (by omega) (by decide)), zo_t (by omega), hr k (by omega), zL_def, zDg_step, zo_s]
    exact ih fu (k + 1) (by omega) (by omega)
