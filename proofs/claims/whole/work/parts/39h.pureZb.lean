-- orders: put in order
def zSame (n : Nat) (g h : Nat → Nat) : Prop := (∀ k, k < n → ∃ i, i < n ∧ h k = g i) ∧ (∀ i, i < n → ∃ k, k < n ∧ g i = h k) ∧ ∀ i j, i < n → j < n → h i = h j → i = j
theorem zSame_swp {n : Nat} {g h : Nat → Nat} (H : zSame n g h) {a b : Nat} (ha : a < n) (hb : b < n) : zSame n g (zSwp h a b) := by
  obtain ⟨h1, h2, h3⟩ := H
  have sv : ∀ k, k < n → ∃ k2, k2 < n ∧ zSwp h a b k = h k2 ∧ (k = b → k2 = a) ∧ (k ≠ b → k = a → k2 = b) ∧ (k ≠ b → k ≠ a → k2 = k) := fun k hk => by
    unfold zSwp
    by_cases c : k = b
    · exact ⟨a, ha, by rw [if_pos c], fun _ => rfl, fun x => absurd c x, fun x => absurd c x⟩
    · by_cases d : k = a
      · exact ⟨b, hb, by rw [if_neg c, if_pos d], fun x => absurd x c, fun _ _ => rfl, fun _ x => absurd d x⟩
      · exact ⟨k, hk, by rw [if_neg c, if_neg d], fun x => absurd x c, fun _ x => absurd x d, fun _ _ => rfl⟩
  refine ⟨fun k hk => ?_, fun i hi => ?_, fun i j hi hj e => ?_⟩
  · obtain ⟨k2, hk2, e, -⟩ := sv k hk
    obtain ⟨i, hi, e2⟩ := h1 k2 hk2
    exact ⟨i, hi, e.trans e2⟩
  · obtain ⟨k, hk, e⟩ := h2 i hi
    by_cases c : k = a
    · exact ⟨b, hb, by unfold zSwp; rw [if_pos rfl, ← c]; exact e⟩
    · by_cases d : k = b
      · refine ⟨a, ha, ?_⟩
        unfold zSwp
        by_cases w : a = b
        · rw [if_pos w, w, ← d]; exact e
        · rw [if_neg w, if_pos rfl, ← d]; exact e
      · exact ⟨k, hk, by unfold zSwp; rw [if_neg d, if_neg c]; exact e⟩
  · obtain ⟨i2, hi2, ei, i3, i4, i5⟩ := sv i hi
    obtain ⟨j2, hj2, ej, j3, j4, j5⟩ := sv j hj
    have := h3 i2 j2 hi2 hj2 (by rw [← ei, ← ej]; exact e)
    by_cases a1 : i = b
    · by_cases b1 : j = b
      · omega
      · by_cases b2 : j = a
        · have := i3 a1; have := j4 b1 b2; omega
        · have := i3 a1; have := j5 b1 b2; omega
    · by_cases a2 : i = a
      · by_cases b1 : j = b
        · have := j3 b1; have := i4 a1 a2; omega
        · by_cases b2 : j = a
          · omega
          · have := i4 a1 a2; have := j5 b1 b2; omega
      · by_cases b1 : j = b
        · have := j3 b1; have := i5 a1 a2; omega
        · by_cases b2 : j = a
          · have := i5 a1 a2; have := j4 b1 b2; omega
          · have := i5 a1 a2; have := j5 b1 b2; omega
theorem x_swap_h {n : Nat} (hn8 : n ≤ 8) {h : Nat → Nat} {S : zSt} (hr : ∀ j, j < n → S.2.1 701 j = Int32.ofNat (h j)) {a b : Nat} (ha : a < n) (hb : b < n) :
    ∃ S1 : zSt, fX6_swap (Int32.ofNat a) (Int32.ofNat b) S = some S1 ∧ zKeep [] [701] S S1 ∧ ∀ j, j < n → S1.2.1 701 j = Int32.ofNat (zSwp h a b j) := by
  refine ⟨_, x_swap (by omega) (by omega) S, zK_t (zK_A _ _ _ _) (zK_A _ _ _ _), fun j hj => ?_⟩
  rw [zA_get, zA_get]
  unfold zSwp
  by_cases c : j = b
  · rw [if_pos c, if_pos c, hr a ha]
  · rw [if_neg c, if_neg c]
    by_cases d : j = a
    · rw [if_pos d, if_pos d, hr b hb]
    · rw [if_neg d, if_neg d, hr j hj]
theorem x_sort_in {n : Nat} (hn8 : n ≤ 8) {g : Nat → Nat} (hg : ∀ j, j < n → g j < 8) (K : Int32 → zSt → Option zSt) {j : Nat} (hj : j < n) : ∀ (k fu : Nat) (h : Nat → Nat) (S : zSt), k ≤ j → k < fu → (∀ i, i < n → S.2.1 701 i = Int32.ofNat (h i)) → zSame n g h → (∀ a b, a < b → b ≤ j → ¬ b = k → h a < h b) →
    ∃ (h2 : Nat → Nat) (S1 : zSt), fX6_putInOrder_b12 zN K fu (Int32.ofNat j) (Int32.ofNat k) S = K (Int32.ofNat (j + 1)) S1 ∧ zKeep [] [701] S S1 ∧ (∀ i, i < n → S1.2.1 701 i = Int32.ofNat (h2 i)) ∧ zSame n g h2 ∧ ∀ a b, a < b → b ≤ j → h2 a < h2 b := by
  have h8 : ∀ h, zSame n g h → ∀ i, i < n → h i < 8 := fun h H i hi => by
    obtain ⟨x, hx, e⟩ := H.1 i hi
    rw [e]; exact hg x hx
  intro k
  induction k with
  | zero =>
    intro fu h S h1 h2 hr H hs
    obtain _ | fu := fu
    · exact absurd h2 (by omega)
    have e0 : (Int32.ofNat 0 ≤ 0) := by decide
    rw [fX6_putInOrder_b12, if_pos e0, zo_s]
    exact ⟨h, S, rfl, zK_refl _, hr, H, fun a b hab hb => hs a b hab hb (by omega)⟩
  | succ k ih =>
    intro fu h S h1 h2 hr H hs
    obtain _ | fu := fu
    · exact absurd h2 (by omega)
    have e0 : (Int32.ofNat (k + 1) ≤ 0) = (k + 1 ≤ 0) := zo_le (b := 0) (by omega) (by omega)
    have ec : Int32.ofNat (k + 1) - 1 = Int32.ofNat k := zo_p (by omega)
    have z1 : zin (Int32.ofNat k) 8 := zin_o (by omega) (by decide)
    have z2 : zin (Int32.ofNat (k + 1)) 8 := zin_o (by omega) (by decide)
    have a1 := h8 h H k (by omega)
    have a2 := h8 h H (k + 1) (by omega)
    rw [fX6_putInOrder_b12, zi_of e0, if_neg (by omega), ec, if_pos z1, if_pos z2, zo_t (by omega), zo_t (by omega), hr k (by omega), hr (k + 1) (by omega), zi_le (by omega) (by omega), zo_m (by omega), zo_s]
    by_cases c : h k ≤ h (k + 1)
    · rw [if_pos c]
      refine ⟨h, S, rfl, zK_refl _, hr, H, fun a b hab hb => ?_⟩
      by_cases q : b = k + 1
      · have ne : ¬ h k = h (k + 1) := fun e => by
          have := H.2.2 k (k + 1) (by omega) (by omega) e
          omega
        subst q
        by_cases w : a = k
        · rw [w]; omega
        · have := hs a k (by omega) (by omega) (by omega)
          omega
      · exact hs a b hab hb q
    · rw [if_neg c]
      obtain ⟨S1, e1, k1, r1⟩ := x_swap_h hn8 hr (by omega : k < n) (by omega : k + 1 < n)
      rw [e1, zU_some]
      obtain ⟨h2, S2, i1, i2, i3, i4, i5⟩ := ih fu (zSwp h k (k + 1)) S1 (by omega) (by omega) r1 (zSame_swp H (by omega) (by omega)) (fun a b hab hb nb => by
        unfold zSwp
        by_cases b1 : b = k + 1
        · rw [if_pos b1]
          by_cases a3 : a = k
          · rw [if_neg (by omega), if_pos a3]; omega
          · rw [if_neg (by omega), if_neg a3]
            exact hs a k (by omega) (by omega) (by omega)
        · rw [if_neg b1, if_neg nb]
          by_cases a3 : a = k + 1
          · rw [if_pos a3]
            exact hs k b (by omega) hb b1
          · by_cases a4 : a = k
            · rw [if_neg a3, if_pos a4]
              exact hs (k + 1) b (by omega) hb b1
            · rw [if_neg a3, if_neg a4]
              exact hs a b hab hb b1)
      exact ⟨h2, S2, i1, zK_t k1 i2, i3, i4, i5⟩
theorem x_sort {n : Nat} (hn8 : n ≤ 8) {g : Nat → Nat} (hg : ∀ j, j < n → g j < 8) : ∀ (c fu j : Nat) (h : Nat → Nat) (S : zSt), 1 ≤ j → j + c = n → c < fu → S.1 705 = Int32.ofNat n → (∀ i, i < n → S.2.1 701 i = Int32.ofNat (h i)) → zSame n g h → (∀ a b, a < b → b < j → h a < h b) →
    ∃ (h2 : Nat → Nat) (S1 : zSt), fX6_putInOrder_b2 zN fu (Int32.ofNat j) S = some S1 ∧ zKeep [] [701] S S1 ∧ (∀ i, i < n → S1.2.1 701 i = Int32.ofNat (h2 i)) ∧ zSame n g h2 ∧ ∀ a b, a < b → b < n → h2 a < h2 b := by
  intro c
  induction c with
  | zero =>
    intro fu j h S h0 h1 h2 h5 hr H hs
    obtain _ | fu := fu
    · exact absurd h2 (by omega)
    have : j = n := by omega
    subst this
    rw [fX6_putInOrder_b2, h5, zi_le (by omega) (by omega), if_pos (Nat.le_refl _)]
    exact ⟨h, S, rfl, zK_refl _, hr, H, hs⟩
  | succ c ih =>
    intro fu j h S h0 h1 h2 h5 hr H hs
    obtain _ | fu := fu
    · exact absurd h2 (by omega)
    rw [fX6_putInOrder_b2, h5, zi_le (by omega) (by omega), if_neg (by omega)]
    obtain ⟨h3, S1, a1, a2, a3, a4, a5⟩ := x_sort_in hn8 hg (fX6_putInOrder_b2 zN fu) (by omega : j < n) j zN h S (Nat.le_refl _) (Nat.lt_of_lt_of_le (by omega : j < 8) (by decide)) hr H (fun a b hab hb nb => hs a b hab (by omega))
    obtain ⟨h4, S2, b1, b2, b3, b4, b5⟩ := ih fu (j + 1) h3 S1 (by omega) (by omega) (by omega) ((a2.1 705 (by simp)).trans h5) a3 a4 (fun a b hab hb => a5 a b hab (by omega))
    exact ⟨h4, S2, a1.trans b1, zK_t a2 b2, b3, b4, b5⟩
-- orders: the class goes through all
theorem zMar_congr {E : zE} {n : Nat} {g g2 : Nat → Nat} (h : ∀ j, j < n → g j = g2 j) (f : Int32) (p i : Nat) (e u : Int32) {k : Nat} (hk : k < n) : zMar E n g f p i e u k = zMar E n g2 f p i e u k := by
  have hs : ∀ (d b : Int32) c, c ≤ n → zSum E g d b c = zSum E g2 d b c := fun d b c => by
    induction c with
    | zero => intro _; rfl
    | succ c ih => intro hc; rw [zSum, zSum, ih (by omega), h c (by omega)]
  unfold zMar zMarg zHold
  rw [h k hk, hs _ _ n (Nat.le_refl _)]
def zLs (E : zE) (nc : Nat → Nat) (n : Nat) (f : Int32) (p : Nat) (e : Int32) (h : Nat → Nat) (l : Int32) : Prop := zLst (fun i k => zMar E n h f p i e 0 k) (nc p) n l
theorem zLs_congr {E : zE} {nc : Nat → Nat} {n : Nat} {f : Int32} {p : Nat} {e l : Int32} {g g2 : Nat → Nat} (h : ∀ j, j < n → g j = g2 j) (q : zLs E nc n f p e g l) : zLs E nc n f p e g2 l := by
  obtain ⟨q1, i, k, hi, hk, q2⟩ := q
  refine ⟨fun i k hi hk => ?_, i, k, hi, hk, ?_⟩
  · show l ≤ zMar E n g2 f p i e 0 k
    rw [← zMar_congr h f p i e 0 hk]
    exact q1 i k hi hk
  · show l = zMar E n g2 f p i e 0 k
    rw [← zMar_congr h f p i e 0 hk]
    exact q2
/-- the best of those that have been seen -/
def zOI (E : zE) (nc : Nat → Nat) (n : Nat) (f : Int32) (p : Nat) (e : Int32) (s : Nat → Nat) (S : zSt) (vis : List Nat → Prop) : Prop :=
  ((∀ b, ¬ vis b) ∧ zBI S (-2) (-2000000000)) ∨ ∃ (b : List Nat) (w : Int32), vis b ∧ zBI S (Int32.ofNat (zDg (fun j => s (zFn b j)) n)) w ∧ zLs E nc n f p e (fun j => s (zFn b j)) w ∧
    ∀ c l, vis c → zLs E nc n f p e (fun j => s (zFn c j)) l → l ≤ w ∧ (l = w → zVl (fun j => s (zFn b j)) n ≤ zVl (fun j => s (zFn c j)) n)
theorem zOI_mono {E : zE} {nc : Nat → Nat} {n : Nat} {f : Int32} {p : Nat} {e : Int32} {s : Nat → Nat} {S : zSt} {v v2 : List Nat → Prop} (h : zOI E nc n f p e s S v) (q : ∀ b, v b ↔ v2 b) : zOI E nc n f p e s S v2 := by
  have : v = v2 := funext fun b => propext (q b)
  rw [← this]; exact h
theorem zOI_K {E : zE} {nc : Nat → Nat} {n : Nat} {f : Int32} {p : Nat} {e : Int32} {s : Nat → Nat} {S S1 : zSt} {v : List Nat → Prop} {I A : List Nat} (h : zOI E nc n f p e s S v) (k : zKeep I A S S1) (h1 : 303 ∉ I) (h2 : 304 ∉ I) : zOI E nc n f p e s S1 v := by
  rcases h with ⟨a, b⟩ | ⟨b, w, x, y, z⟩
  · exact Or.inl ⟨a, zBI_K b k h1 h2⟩
  · exact Or.inr ⟨b, w, x, zBI_K y k h1 h2, z⟩
theorem zLst_ex (F : Nat → Nat → Int32) {n : Nat} (hn : 1 ≤ n) : ∀ c, 1 ≤ c → ∃ l, zLst F c n l := by
  have row : ∀ i, ∃ l, (∀ k, k < n → l ≤ F i k) ∧ ∃ k, k < n ∧ l = F i k := fun i => by
    obtain ⟨q1, q2, q3⟩ := zMinF_le (F i) n 0 (F i 0)
    refine ⟨zMinF (F i) n 0 (F i 0), fun k hk => q2 k (by omega) (by omega), ?_⟩
    rcases q3 with x | ⟨j, -, j2, x⟩
    · exact ⟨0, by omega, x⟩
    · exact ⟨j, by omega, x⟩
  intro c
  induction c with
  | zero => intro h; exact absurd h (by omega)
  | succ c ih =>
    intro _
    obtain ⟨l2, r1, k2, hk2, r2⟩ := row c
    by_cases q : c = 0
    · subst q
      refine ⟨l2, fun i k hi hk => ?_, 0, k2, by omega, hk2, r2⟩
      have : i = 0 := by omega
      rw [this]; exact r1 k hk
    · obtain ⟨l, a, i0, k0, hi0, hk0, b⟩ := ih (by omega)
      obtain ⟨m1, m2, m3⟩ := zmn_le l l2
      refine ⟨zmn l l2, fun i k hi hk => ?_, ?_⟩
      · by_cases w : i = c
        · rw [w]; exact Int32.le_trans m2 (r1 k hk)
        · exact Int32.le_trans m1 (a i k (by omega) hk)
      · rcases m3 with w | w
        · exact ⟨i0, k0, by omega, hk0, w.trans b⟩
        · exact ⟨c, k2, by omega, hk2, w.trans r2⟩
theorem x_ord_visit {E : zE} {np m : Nat} {nc : Nat → Nat} (hE : zOkE E np m nc) {n : Nat} (hn : 1 ≤ n) (hn5 : n ≤ 5) {s : Nat → Nat} (hs : ∀ a b, a < b → b < n → s a < s b) (hsm : ∀ a, a < n → s a < m) {f : Int32} {p : Nat} (hp : p < np) (e : Int32) {a : List Nat} (hc : zCkO n a = true) {S : zSt} {vis : List Nat → Prop} (hX : zXV E np m nc S) (h5 : S.1 705 = Int32.ofNat n) (h6 : S.1 706 = f) (hr : ∀ j, j < n → S.2.1 701 j = Int32.ofNat (s (zFn a j))) (hI : zOI E nc n f p e s S vis) (hv : ∀ b, vis b → zVl (fun j => s (zFn b j)) n < zVl (fun j => s (zFn a j)) n) :
    ∃ S3 : zSt, (∀ K : zSt → Option zSt, (zB (fX6_asDigits zN S) fun r3 S4 => zB (fX2_leastMargin zN (Int32.ofNat p) e (S4.1 304) S4) fun r6 S7 => zU (fX2_prefer r3 r6 S7) fun S10 => K S10) = K S3) ∧ zKeep [303, 304] [702, 703, 704] S S3 ∧ zOI E nc n f p e s S3 (fun b => vis b ∨ b = a) := by
  obtain ⟨-, ha, hi⟩ := zCkO_of hc
  have hok : zGok m n (fun j => s (zFn a j)) := ⟨hn, hn5, fun k hk => hsm _ (ha k hk), fun i j hi2 hj2 eq => hi i j hi2 hj2 (by
    have x := (zs_le hs (ha i hi2) (ha j hj2)).mp (Nat.le_of_eq eq)
    have y := (zs_le hs (ha j hj2) (ha i hi2)).mp (Nat.le_of_eq eq.symm)
    omega)⟩
  have hH : zH E np m nc n (fun j => s (zFn a j)) := ⟨hE, hok⟩
  have hS : zSX E np m nc n (fun j => s (zFn a j)) f S := ⟨hX, h5, h6, hr⟩
  obtain ⟨l, hl⟩ := zLst_ex (fun i k => zMar E n (fun j => s (zFn a j)) f p i e 0 k) hn (nc p) (hE.2.2.1 p hp).1
  have lgt := zLst_gt (U := fun _ => 0) hH hp hl
  obtain ⟨S7, r, a1, a2, a3⟩ := x_least hH hp e (S.1 304) hS
  obtain ⟨a4, a5⟩ := a3 l hl
  have dg := x_digits (h := fun j => s (zFn a j)) (by omega) h5 hr n zN 0 (by omega) (Nat.lt_of_le_of_lt hn5 (by decide))
  have e304 : S7.1 304 = S.1 304 := a2.1 304 (by simp)
  refine ⟨if r ≤ S.1 304 then S7 else zI (zI S7 303 (Int32.ofNat (zDg (fun j => s (zFn a j)) n))) 304 r, fun K => ?_, ?_, ?_⟩
  · unfold fX6_asDigits
    rw [show fX6_asDigits_b4 zN zN 0 0 S = _ from dg, zB_some, a1, zB_some, e_prefer, zU_some, e304]
  · split
    · exact zK_mono a2 (by simp) (by simp)
    · exact zK_mono (zK_trans a2 (zK_set _ _ _)) (by simp) (by simp)
  · have taken : S.1 304 < l → (∀ c l2, vis c → zLs E nc n f p e (fun j => s (zFn c j)) l2 → l2 < l) → zOI E nc n f p e s (if r ≤ S.1 304 then S7 else zI (zI S7 303 (Int32.ofNat (zDg (fun j => s (zFn a j)) n))) 304 r) (fun b => vis b ∨ b = a) := fun d1 d2 => by
      rw [if_neg (by rw [a4 d1]; exact Int32.not_le.mpr d1), a4 d1]
      refine Or.inr ⟨a, l, Or.inr rfl, zBI_set _ _ _, hl, fun c l2 hc2 hl2 => ?_⟩
      rcases hc2 with hc2 | rfl
      · have := d2 c l2 hc2 hl2
        exact ⟨Int32.le_of_lt this, fun x => by rw [x] at this; exact absurd this (Int32.not_lt.mpr (Int32.le_refl _))⟩
      · have : l2 = l := zLst_one hl2 hl
        exact ⟨by rw [this]; exact Int32.le_refl _, fun _ => Nat.le_refl _⟩
    rcases hI with ⟨x, y⟩ | ⟨b, w, x, y, z, q⟩
    · exact taken (by rw [y.2]; exact lgt) (fun c l2 hc2 => absurd hc2 (x c))
    · by_cases d : w < l
      · refine taken (by rw [y.2]; exact d) (fun c l2 hc2 hl2 => ?_)
        exact Int32.lt_of_le_of_lt (q c l2 hc2 hl2).1 d
      · have lw := Int32.not_lt.mp d
        rw [if_pos (a5 (by rw [y.2]; exact lw))]
        refine Or.inr ⟨b, w, Or.inl x, zBI_K y a2 (by simp) (by simp), z, fun c l2 hc2 hl2 => ?_⟩
        rcases hc2 with hc2 | rfl
        · exact q c l2 hc2 hl2
        · have : l2 = l := zLst_one hl2 hl
          exact ⟨by rw [this]; exact lw, fun _ => Nat.le_of_lt (hv b x)⟩
theorem x_ord_loop {E : zE} {np m : Nat} {nc : Nat → Nat} (hE : zOkE E np m nc) {n : Nat} (hn : 1 ≤ n) (hn5 : n ≤ 5) {s : Nat → Nat} (hs : ∀ a b, a < b → b < n → s a < s b) (hsm : ∀ a, a < n → s a < m) {f : Int32} {p : Nat} (hp : p < np) (e : Int32) : ∀ (r : List (List Nat)) (a : List Nat) (fu t : Nat) (S : zSt) (vis : List Nat → Prop), zCkC n (a :: r) = true → t + (r.length + 1) ≤ 120 → 120 < t + fu → zXV E np m nc S → S.1 705 = Int32.ofNat n → S.1 706 = f → (∀ j, j < n → S.2.1 701 j = Int32.ofNat (s (zFn a j))) → zOI E nc n f p e s S vis → (∀ b, vis b → zVl (fun j => s (zFn b j)) n < zVl (fun j => s (zFn a j)) n) →
    ∃ S1 : zSt, fX2_seekOrder_b24 zN fu (Int32.ofNat p) e 1 (Int32.ofNat t) S = some S1 ∧ zOI E nc n f p e s S1 (fun b => vis b ∨ b ∈ a :: r) ∧ zTX S S1 := by
  have m8 := hE.2.1
  intro r
  induction r with
  | nil =>
    intro a fu t S vis hc h1 h2 hX h5 h6 hr hI hv
    rw [List.length_nil] at h1
    obtain _ | _ | fu := fu
    · exact absurd h2 (by omega)
    · exact absurd h2 (by omega)
    have e120 : (120 ≤ Int32.ofNat t) = (120 ≤ t) := zo_le (a := 120) (by omega) (by omega)
    have hc : ((zNxL n a).isNone && zCkO n a) = true := hc
    rw [Bool.and_eq_true] at hc
    obtain ⟨S3, a1, a2, a3⟩ := x_ord_visit hE hn hn5 hs hsm hp e hc.2 hX h5 h6 hr hI hv
    obtain ⟨-, ha, -⟩ := zCkO_of hc.2
    rw [fX2_seekOrder_b24, if_neg zn10, zi_of e120, if_neg (by omega)]
    rw [a1 (fun S10 => zB (fX6_goOnToNextOrder zN S10) fun r12 S13 => fX2_seekOrder_b24 zN (fu + 1) (Int32.ofNat p) e r12 (Int32.ofNat t + 1) S13)]
    have nn : zNext n (fun j => s (zFn a j)) = none := by
      rw [zNext_s hs ha hn]
      have x := hc.1
      unfold zNxL at x
      cases q : zNext n (zFn a) with
      | none => rfl
      | some h => rw [q] at x; exact absurd x (by simp)
    rcases x_next hn (by omega) (h := fun j => s (zFn a j)) (fun j hj => by have := hsm _ (ha j hj); omega) ((a2.1 705 (by simp)).trans h5) (fun j hj => by rw [a2.2.1 701 (by simp)]; exact hr j hj) with ⟨-, q⟩ | ⟨h2, S4, q, -⟩
    · rw [q, zB_some, fX2_seekOrder_b24, if_pos zn00]
      refine ⟨S3, rfl, zOI_mono a3 (fun b => ?_), zTX_of a2 (by simp) (by simp)⟩
      rw [List.mem_singleton]
    · rw [nn] at q
      exact absurd q (by simp)
  | cons b r ih =>
    intro a fu t S vis hc h1 h2 hX h5 h6 hr hI hv
    rw [List.length_cons] at h1
    obtain _ | fu := fu
    · exact absurd h2 (by omega)
    have e120 : (120 ≤ Int32.ofNat t) = (120 ≤ t) := zo_le (a := 120) (by omega) (by omega)
    have hc : (zNxL n a == some b && zLxB n a b && zCkO n a && zCkC n (b :: r)) = true := hc
    rw [Bool.and_eq_true, Bool.and_eq_true, Bool.and_eq_true] at hc
    obtain ⟨⟨⟨c1, c2⟩, c3⟩, c4⟩ := hc
    obtain ⟨S3, a1, a2, a3⟩ := x_ord_visit hE hn hn5 hs hsm hp e c3 hX h5 h6 hr hI hv
    obtain ⟨-, ha, -⟩ := zCkO_of c3
    have hbO : zCkO n b = true := by
      cases r with
      | nil =>
        have x : ((zNxL n b).isNone && zCkO n b) = true := c4
        rw [Bool.and_eq_true] at x
        exact x.2
      | cons d r =>
        have x : (zNxL n b == some d && zLxB n b d && zCkO n b && zCkC n (d :: r)) = true := c4
        rw [Bool.and_eq_true, Bool.and_eq_true] at x
        exact x.1.2
    obtain ⟨-, hb, -⟩ := zCkO_of hbO
    have c1 := eq_of_beq c1
    have hab : zVl (fun j => s (zFn a j)) n < zVl (fun j => s (zFn b j)) n := zVl_lt n (fun j hj => by have := hsm _ (ha j hj); omega) (zLx_s hs hb (zLxB_of c2))
    rw [fX2_seekOrder_b24, if_neg zn10, zi_of e120, if_neg (by omega)]
    rw [a1 (fun S10 => zB (fX6_goOnToNextOrder zN S10) fun r12 S13 => fX2_seekOrder_b24 zN fu (Int32.ofNat p) e r12 (Int32.ofNat t + 1) S13)]
    rcases x_next hn (by omega) (h := fun j => s (zFn a j)) (fun j hj => by have := hsm _ (ha j hj); omega) ((a2.1 705 (by simp)).trans h5) (fun j hj => by rw [a2.2.1 701 (by simp)]; exact hr j hj) with ⟨q, -⟩ | ⟨h2, S4, q, q2, q3, q4⟩
    · rw [zNext_s hs ha hn] at q
      unfold zNxL at c1
      cases w : zNext n (zFn a) with
      | none => rw [w] at c1; exact absurd c1 (by simp)
      | some h => rw [w] at q; exact absurd q (by simp)
    · rw [zNext_s hs ha hn] at q
      unfold zNxL at c1
      cases w : zNext n (zFn a) with
      | none => rw [w] at c1; exact absurd c1 (by simp)
      | some h =>
        rw [w] at c1 q
        have c1 : (List.range n).map h = b := Option.some.inj c1
        have q : (fun j => s (h j)) = h2 := Option.some.inj q
        have KK : zKeep [303, 304] [701, 702, 703, 704] S S4 := zK_mono (zK_trans a2 q3) (by simp) (by simp)
        rw [q2, zB_some, zo_s]
        obtain ⟨S5, i1, i2, i3⟩ := ih b fu (t + 1) S4 (fun c => vis c ∨ c = a) c4 (by omega) (by omega) (zXV_K hX KK (by decide) (by decide)) ((KK.1 705 (by simp)).trans h5) ((KK.1 706 (by simp)).trans h6) (fun j hj => by
          rw [q4 j hj, ← q, ← c1, zFn_map h hj]) (zOI_K a3 q3 (by simp) (by simp)) (fun c hc => by
          rcases hc with hc | rfl
          · exact Nat.lt_trans (hv c hc) hab
          · exact hab)
        refine ⟨S5, i1, zOI_mono i2 (fun c => ?_), zTX_t (zTX_of KK (by simp) (by simp)) i3⟩
        rw [List.mem_cons (a := c) (b := a)]
        exact or_assoc
