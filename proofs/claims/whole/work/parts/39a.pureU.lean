-- a RANK and a CELL
theorem zEq_i_of {r r2 : Int32} {SX SR : zSt} {x : Option (Int32 × zSt)} (h : r = r2) (hx : x = some (r2, SR)) (hR : zRel SX SR) : zEq (some (r, SX)) x := by
  rw [hx]
  exact zEq_i h hR
theorem e_rank {SX SR : zSt} (hRel : zRel SX SR) {E : zE} {np m : Nat} {nc : Nat → Nat} {n : Nat} {g : Nat → Nat} {f : Int32} (hH : zH E np m nc n g) (hX : zSX E np m nc n g f SX) (hV : zSR E np m nc n g (fun _ => 0) SR) {p : Nat} (hp : p < np) (p3 bad : Int32) (kX kR : zSt → Option (Int32 × zSt))
    (h : ∀ k i : Nat, k < n → i < nc p → p3 / 100 = Int32.ofNat k → p3 - p3 / 100 * 100 = Int32.ofNat i → zEq (kX SX) (kR SR)) :
    zEq (zB (fX11_isRankAndCell p3 (Int32.ofNat p) SX) fun r9 S10 => if r9 = 0 then some (bad, S10) else kX S10)
      (if p3 < 0 then some (bad, SR) else if SR.1 33 ≤ p3 / 100 then some (bad, SR) else zB (fX12_isCell (Int32.ofNat p) (p3 - p3 / 100 * 100) SR) fun r11 S12 => if r11 = 0 then some (bad, S12) else kR S12) := by
  have n6 := hH.1.1
  have n5 := hH.2.2.1
  have n12 := (hH.1.2.2.1 p hp).2.1
  unfold fX11_isRankAndCell
  by_cases c : p3 < 0
  · rw [if_pos c, if_pos c, zB_some, if_pos zn00]
    exact zEq_i rfl hRel
  · obtain ⟨x, hx, e0, e1, e2⟩ := zdv (Int32.not_lt.mp c) 100 (by decide)
    have e1 : p3 / 100 = Int32.ofNat (x / 100) := e1
    have e2 : p3 - p3 / 100 * 100 = Int32.ofNat (x % 100) := e2
    obtain ⟨hc1, hc2⟩ := e_hasCell hRel.2.1 (Int32.ofNat p) (p3 - p3 / 100 * 100)
    rw [if_neg c, if_neg c, hc1, hc2, e2, e1, hX.2.1, hV.2.1.1, zi_le (by omega) (by omega), zi_le (by omega) (by omega)]
    by_cases d : n ≤ x / 100
    · rw [if_pos d, if_pos d, zB_some, if_pos zn00]
      exact zEq_i rfl hRel
    · rw [if_neg d, if_neg d, zo_t (by omega), (hX.1.2.2.1 p hp).1, hV.1.1]
      by_cases q : x % 100 < nc p
      · have w : (0 ≤ Int32.ofNat p ∧ Int32.ofNat p < Int32.ofNat np) ∧ 0 ≤ Int32.ofNat (x % 100) ∧ Int32.ofNat (x % 100) < Int32.ofNat (nc p) := ⟨⟨zo_0 (by omega), by rw [zo_lt (by omega) (by omega)]; exact hp⟩, zo_0 (by omega), by rw [zo_lt (by omega) (by omega)]; exact q⟩
        rw [if_pos w, zB_some, if_neg zn10, zB_some, if_neg zn10, zB_some, if_neg zn10]
        exact h (x / 100) (x % 100) (by omega) q e1 e2
      · have w : ¬ ((0 ≤ Int32.ofNat p ∧ Int32.ofNat p < Int32.ofNat np) ∧ 0 ≤ Int32.ofNat (x % 100) ∧ Int32.ofNat (x % 100) < Int32.ofNat (nc p)) := fun y => by
          have z := y.2.2
          rw [zo_lt (by omega) (by omega)] at z
          exact q z
        rw [if_neg w, zB_some, if_pos zn00, zB_some, if_pos zn00, zB_some, if_pos zn00]
        exact zEq_i rfl hRel
theorem x_isRank {n k : Nat} (hk : k < n) (hn : n ≤ 8) {S : zSt} (h5 : S.1 705 = Int32.ofNat n) : fX6_isRank (Int32.ofNat k) S = some (1, S) := by
  unfold fX6_isRank
  rw [if_neg (Int32.not_lt.mpr (zo_0 (by omega))), h5, zi_le (by omega) (by omega), if_neg (by omega)]
theorem x_ofs {n k : Nat} (hk : k < n) (hn : n ≤ 8) {S : zSt} (h5 : S.1 705 = Int32.ofNat n) : fX6_marginOf (Int32.ofNat k) S = some (S.2.1 704 k, S) ∧ fX6_holdOf (Int32.ofNat k) S = some (S.2.1 702 k, S) ∧ fX6_pushOn (Int32.ofNat k) S = some (S.2.1 703 k, S) := by
  have z8 : zin (Int32.ofNat k) 8 := zin_o (by omega) (by decide)
  unfold fX6_marginOf fX6_holdOf fX6_pushOn
  rw [x_isRank hk hn h5, zB_some, zB_some, zB_some, if_neg zn10, if_neg zn10, if_neg zn10, if_pos z8, if_pos z8, if_pos z8, zo_t (by omega)]
  exact ⟨rfl, rfl, rfl⟩
theorem q_margin {SX SR : zSt} (hRel : zRel SX SR) (p1 p2 p3 p4 : Int32) : zEq (fX11_margin zN p1 p2 p3 p4 SX) (fX12_margin zN p1 p2 p3 p4 SR) := by
  unfold fX11_margin fX12_margin
  refine e_pre hRel p1 p2 _ _ _ (fun E np m nc n g f p hr SX1 SR1 hH hR hX hV f4 hp hh e1 e2 ef => ?_)
  have n6 := hH.1.1
  have n5 := hH.2.2.1
  have n1 := hH.2.1
  have n12 := (hH.1.2.2.1 p hp).2.1
  rw [e2, e1]
  refine e_rank hR hH hX hV hp p3 _ _ _ (fun k i hk hi ek ei => ?_)
  rw [e_isWithin, e_in, zU_some, zU_some]
  by_cases w : 0 ≤ p4 ∧ p4 ≤ 2
  · obtain ⟨v, SX2, SR2, g1, g2, b, hR2, hX2, hV2, -, -⟩ := e_riseG hR hX hV (Int32.ofNat hr)
    obtain ⟨SX3, a1, k1, r1⟩ := x_enter hH.1 (by omega) hH.2.2.2.1 (fun _ => n5) (fun _ => n1) hX2.1 hX2.2 hp hi v 0
    obtain ⟨r2, r3, r4⟩ := r1 k hk
    have hR3 := zRel_X hR2 k1 (by simp) (by simp)
    have h5 : SX3.1 705 = Int32.ofNat n := (k1.1 705 (by simp)).trans hX2.2.1
    obtain ⟨o1, o2, o3⟩ := x_ofs hk (by omega) h5
    rw [if_pos w, if_neg zn10, if_neg zn10, g1, g2, zB_some, zB_some, ei, ek, a1, zU_some, ef]
    rcases zw9 w with h | h | h
    · subst h
      rw [if_pos zn00, if_pos zn00, o1, zB_some, r_mar hH hV2 (zn4 f4) hp (by omega) v hk, zB_some]
      exact zEq_i r4 hR3
    · subst h
      rw [if_neg zn10, if_neg zn10, if_pos (show (1 : Int32) = 1 from rfl), r_depth hH.1 hV2.1 hp (by omega), zB_some, if_pos (show (1 : Int32) = 1 from rfl), o2, zB_some, if_pos (show zin (36 * Int32.ofNat p + 3 * Int32.ofNat i + 2) 252 by rw [zix2]; exact zin_o (by omega) (by decide)), zix2, zo_t (by omega), hV2.1.2.2.2.2.2.2.2.1]
      refine zEq_i_of r2 ((congrArg (fun o => zB o _) (r_hold hH.1 hV2.1 hV2.2.1 n5 hH.2.2.2.1 (Int32.ofNat f) (zDep E p i v) (zBed E p i) hk)).trans rfl) hR3
    · subst h
      rw [if_neg (show ¬ (2 : Int32) = 0 by decide), if_neg (show ¬ (2 : Int32) = 0 by decide), if_neg (show ¬ (2 : Int32) = 1 by decide), r_depth hH.1 hV2.1 hp (by omega), zB_some, if_neg (show ¬ (2 : Int32) = 1 by decide), o3, zB_some, if_pos (zin_o (by omega) (by decide)), r_pace hH.1 hV2.1 hp (by omega), zB_some, r_lee (zn4 f4) (by omega), zU_some, zo_t (by omega), hV2.2.1.2 k hk, r_push hH.1 hV2.1 (hH.2.2.2.1 k hk), zB_some]
      exact zEq_i (by rw [r3, Int32.add_zero]) hR3
  · rw [if_neg w, if_pos zn00, if_pos zn00]
    exact zEq_i rfl hR
-- roped
def zPl (Q : Nat → Int32) (n : Nat) (t : Int32) (r : Nat) : Int32 := if r < n ∧ zb t r = true then Q r / 2 else 0
def zLo (Q : Nat → Int32) (n : Nat) (t : Int32) (k : Nat) : Int32 := if k = 0 then 0 else zPl Q n t (k - 1)
def zStp (M Q : Nat → Int32) (n : Nat) (t : Int32) : Nat → Nat → Int32 → Int32
  | 0, _, a => a
  | c + 1, k, a => zStp M Q n t c (k + 1) (if zLo Q n t k + zPl Q n t (k + 1) ≤ M k then a else a ||| (1 <<< (Int32.ofNat k &&& 31)))
def zIt (M Q : Nat → Int32) (n : Nat) : Nat → Int32 → Int32
  | 0, t => t
  | j + 1, t => zIt M Q n j (zStp M Q n t n 0 t)
theorem zStp_b (M Q : Nat → Int32) (n : Nat) (t : Int32) : ∀ (c k : Nat) (a : Int32), k + c ≤ 32 → ∀ j, j < 32 → (zb (zStp M Q n t c k a) j = true ↔ zb a j = true ∨ (k ≤ j ∧ j < k + c ∧ ¬ zLo Q n t j + zPl Q n t (j + 1) ≤ M j)) := by
  intro c
  induction c with
  | zero =>
    intro k a h j hj
    exact ⟨Or.inl, fun x => x.elim id (fun y => absurd y.2.1 (by omega))⟩
  | succ c ih =>
    intro k a h j hj
    rw [zStp, ih (k + 1) _ (by omega) j hj]
    by_cases q : zLo Q n t k + zPl Q n t (k + 1) ≤ M k
    · rw [if_pos q]
      constructor
      · rintro (x | ⟨x, y, z⟩)
        · exact Or.inl x
        · exact Or.inr ⟨by omega, by omega, z⟩
      · rintro (x | ⟨x, y, z⟩)
        · exact Or.inl x
        · by_cases e : j = k
          · rw [e] at z; exact absurd q z
          · exact Or.inr ⟨by omega, by omega, z⟩
    · rw [if_neg q, zb_or a hj (by omega)]
      constructor
      · rintro (x | ⟨x, y, z⟩)
        · by_cases e : j = k
          · exact Or.inr ⟨by omega, by omega, by rw [e]; exact q⟩
          · simp only [e, decide_false, Bool.or_false] at x
            exact Or.inl x
        · exact Or.inr ⟨by omega, by omega, z⟩
      · rintro (x | ⟨x, y, z⟩)
        · exact Or.inl (by rw [x]; rfl)
        · by_cases e : j = k
          · exact Or.inl (by simp [e])
          · exact Or.inr ⟨by omega, by omega, z⟩
def zcn (t : Int32) : Nat → Nat
  | 0 => 0
  | k + 1 => zcn t k + (if zb t k = true then 0 else 1)
theorem zcn_le (t : Int32) : ∀ n, zcn t n ≤ n := by
  intro n
  induction n with
  | zero => exact Nat.le_refl _
  | succ n ih =>
    unfold zcn
    split <;> omega
theorem zcn_mono {s t : Int32} : ∀ n, (∀ j, j < n → zb s j = true → zb t j = true) → zcn t n ≤ zcn s n ∧ ((∃ j, j < n ∧ zb t j = true ∧ ¬ zb s j = true) → zcn t n < zcn s n) := by
  intro n
  induction n with
  | zero => intro h; exact ⟨Nat.le_refl _, fun ⟨j, hj, _⟩ => absurd hj (by omega)⟩
  | succ n ih =>
    intro h
    obtain ⟨i1, i2⟩ := ih (fun j hj => h j (by omega))
    have hn := h n (by omega)
    unfold zcn
    refine ⟨?_, ?_⟩
    · by_cases a : zb s n = true
      · rw [if_pos a, if_pos (hn a)]; omega
      · rw [if_neg a]; split <;> omega
    · rintro ⟨j, hj, x, y⟩
      by_cases e : j = n
      · subst e
        rw [if_pos x, if_neg y]; omega
      · have := i2 ⟨j, by omega, x, y⟩
        by_cases a : zb s n = true
        · rw [if_pos a, if_pos (hn a)]; omega
        · rw [if_neg a]; split <;> omega
theorem zIt_fix (M Q : Nat → Int32) (n : Nat) {t : Int32} (h : zStp M Q n t n 0 t = t) : ∀ j, zIt M Q n j t = t := by
  intro j
  induction j with
  | zero => rfl
  | succ j ih => rw [zIt, h]; exact ih
theorem x_pull {M Q : Nat → Int32} {n : Nat} (hn : n ≤ 8) {S : zSt} (h5 : S.1 705 = Int32.ofNat n) (hQ : ∀ j, j < n → S.2.1 703 j = Q j) (t : Int32) {r : Nat} (hr : r < 9) : fX6_pullOf (Int32.ofNat r) t S = some (zPl Q n t r, S) := by
  unfold fX6_pullOf zPl
  by_cases c : r < n
  · rw [x_isRank c hn h5, zB_some, if_neg zn10, e_hasBit t (by omega), zU_some]
    by_cases d : zb t r = true
    · rw [if_pos d, if_neg zn10, if_pos (zin_o (by omega) (by decide)), zo_t (by omega), hQ r c, if_pos ⟨c, d⟩]
    · rw [if_neg d, if_pos zn00, if_neg (fun x => d x.2)]
  · have : fX6_isRank (Int32.ofNat r) S = some (0, S) := by
      unfold fX6_isRank
      rw [if_neg (Int32.not_lt.mpr (zo_0 (by omega))), h5, zi_le (by omega) (by omega), if_pos (by omega)]
    rw [this, zB_some, if_pos zn00, if_neg (fun x => c x.1)]
theorem x_pullL {M Q : Nat → Int32} {n : Nat} (hn : n ≤ 8) {S : zSt} (h5 : S.1 705 = Int32.ofNat n) (hQ : ∀ j, j < n → S.2.1 703 j = Q j) (t : Int32) {k : Nat} (hk : k < n) : fX6_pullOf (Int32.ofNat k - 1) t S = some (zLo Q n t k, S) := by
  unfold zLo
  by_cases c : k = 0
  · subst c
    unfold fX6_pullOf fX6_isRank
    rw [if_pos (show Int32.ofNat 0 - 1 < 0 by decide), zB_some, if_pos zn00, if_pos rfl]
  · rw [zo_p (by omega), if_neg c]
    exact x_pull (M := M) hn h5 hQ t (by omega)
theorem x_rope_in {M Q : Nat → Int32} {n : Nat} (hn : n ≤ 5) {S : zSt} (h5 : S.1 705 = Int32.ofNat n) (hQ : ∀ j, j < n → S.2.1 703 j = Q j) (hM : ∀ j, j < n → S.2.1 704 j = M j) (K : Int32 → Int32 → zSt → Option (Int32 × zSt)) (t rd : Int32) : ∀ (fu k c : Nat) (a : Int32), k + c = n → 8 < k + fu →
    fX6_pulledInBy_b20 zN K fu t rd a (Int32.ofNat k) S = K (zStp M Q n t c k a) (rd + 1) S := by
  intro fu
  induction fu with
  | zero => intro k c a h1 h2; exact absurd h2 (by omega)
  | succ fu ih =>
    intro k c a h1 h2
    rw [fX6_pulledInBy_b20, h5, zi_le (by omega) (by omega)]
    cases c with
    | zero => rw [if_pos (by omega)]; rfl
    | succ c =>
      rw [if_neg (by omega), if_pos (zin_o (by omega) (by decide)), x_pullL (M := M) (by omega) h5 hQ t (by omega), zB_some, zo_s, x_pull (M := M) (by omega) h5 hQ t (by omega), zB_some, zo_t (by omega), hM k (by omega), zStp]
      by_cases d : zLo Q n t k + zPl Q n t (k + 1) ≤ M k
      · rw [if_pos d, if_pos d]
        exact ih (k + 1) c _ (by omega) (by omega)
      · rw [if_neg d, if_neg d]
        exact ih (k + 1) c _ (by omega) (by omega)
theorem x_rope {M Q : Nat → Int32} {n : Nat} (hn : n ≤ 5) {S : zSt} (h5 : S.1 705 = Int32.ofNat n) (hQ : ∀ j, j < n → S.2.1 703 j = Q j) (hM : ∀ j, j < n → S.2.1 704 j = M j) : ∀ (fu rd c : Nat) (t : Int32), rd + c = n → 8 < rd + fu →
    fX6_pulledInBy_b6 zN fu t (Int32.ofNat rd) S = some (zIt M Q n c t, S) := by
  intro fu
  induction fu with
  | zero => intro rd c t h1 h2; exact absurd h2 (by omega)
  | succ fu ih =>
    intro rd c t h1 h2
    rw [fX6_pulledInBy_b6, h5, zi_le (by omega) (by omega)]
    cases c with
    | zero => rw [if_pos (by omega)]; rfl
    | succ c =>
      have ll := x_rope_in hn h5 hQ hM (fX6_pulledInBy_b6 zN fu) t (Int32.ofNat rd) zN 0 n t (by omega) (by decide)
      rw [if_neg (by omega)]
      refine (show fX6_pulledInBy_b20 zN (fX6_pulledInBy_b6 zN fu) zN t (Int32.ofNat rd) t 0 S = _ from ll).trans ?_
      rw [zo_s]
      exact ih (rd + 1) c _ (by omega) (by omega)
