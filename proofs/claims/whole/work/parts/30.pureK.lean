-- shift
theorem zadd_t {a b : Int32} (h0 : 0 ≤ a) (h1 : a ≤ 1000) (h2 : 0 ≤ b) (h3 : b ≤ 1000) : Int32.toNatClampNeg (a + b) = Int32.toNatClampNeg a + Int32.toNatClampNeg b ∧ 0 ≤ a + b := by
  have e0 : (0 : Int32).toInt = 0 := by decide
  have ek : (1000 : Int32).toInt = 1000 := by decide
  have a0 := zle_toInt h0
  have a1 := zle_toInt h1
  have b0 := zle_toInt h2
  have b1 := zle_toInt h3
  rw [e0] at a0 b0
  rw [ek] at a1 b1
  have e : (a + b).toInt = a.toInt + b.toInt := by
    rw [Int32.toInt_add, Int.bmod_eq_of_le (by omega) (by omega)]
  have p : 0 ≤ a + b := by
    rw [Int32.le_iff_toInt_le, e0, e]; omega
  refine ⟨?_, p⟩
  have x := ztn h0
  have y := ztn h2
  have z := ztn p
  omega
theorem zsub_t {a b : Int32} (h0 : 0 ≤ b) (h1 : b ≤ a) : Int32.toNatClampNeg (a - b) = Int32.toNatClampNeg a - Int32.toNatClampNeg b ∧ 0 ≤ a - b := by
  have e0 : (0 : Int32).toInt = 0 := by decide
  have a0 := zle_toInt h0
  have a1 := zle_toInt h1
  rw [e0] at a0
  have l1 := Int32.toInt_lt a
  have e : (a - b).toInt = a.toInt - b.toInt := by
    rw [Int32.toInt_sub, Int.bmod_eq_of_le (by omega) (by omega)]
  have p : 0 ≤ a - b := by
    rw [Int32.le_iff_toInt_le, e0, e]; omega
  refine ⟨?_, p⟩
  have x := ztn h0
  have y := ztn (Int32.le_trans h0 h1)
  have z := ztn p
  omega
theorem zle_n {a b : Int32} (h0 : 0 ≤ a) (h1 : 0 ≤ b) : a ≤ b ↔ Int32.toNatClampNeg a ≤ Int32.toNatClampNeg b := by
  have x := ztn h0
  have y := ztn h1
  rw [Int32.le_iff_toInt_le]; omega
theorem zlt_n {a b : Int32} (h0 : 0 ≤ a) (h1 : 0 ≤ b) : a < b ↔ Int32.toNatClampNeg a < Int32.toNatClampNeg b := by
  have x := ztn h0
  have y := ztn h1
  rw [Int32.lt_iff_toInt_lt]; omega
theorem zsh1 {s i k n : Int32} (h0 : 0 ≤ s) (h1 : s < 6) (i0 : 0 ≤ i) (n1 : i ≤ 60) (n2 : 0 ≤ n) (n3 : n ≤ 60) (h : i + n ≤ 60) (k0 : 0 ≤ k) (hk : ¬ n ≤ k) : 0 ≤ 60 * s + i + k ∧ 60 * s + i + k < 360 ∧ k < 60 ∧ 0 ≤ k + 1 ∧ k + 1 ≤ n ∧ k < 1000000 := by
  refine ⟨?_, ?_, ?_, ?_, ?_, ?_⟩ <;> grind
theorem zsh2 {k n j : Int32} (n2 : 0 ≤ n) (n3 : n ≤ 60) (k0 : 0 ≤ k) (hk : ¬ n ≤ k) (j0 : 0 ≤ j) (j1 : j < 60) : ((k + 1 ≤ j ∧ j < n) ∨ j = k) ↔ (k ≤ j ∧ j < n) := by grind
theorem zsh3 {k n j : Int32} (hk : n ≤ k) : ¬ (k ≤ j ∧ j < n) := by grind
theorem e_sh1 (N : Nat) (v1 v2 v3 v4 v5 : Int32) (h0 : 0 ≤ v1) (h1 : v1 < 6) (i0 : 0 ≤ v2) (n1 : v2 ≤ 60) (n2 : 0 ≤ v5) (n3 : v5 ≤ 60) (hh : v2 + v5 ≤ 60) : ∀ (n : Nat) (k : Int32) (S : zSt), 0 ≤ k → k ≤ v5 → (61 : Int) ≤ k.toInt + n →
    ∃ S1 : zSt, fX12_shift_b113 N n v1 v2 v3 v4 v5 k S = fX12_shift_b150 N N v3 v4 v5 0 S1 ∧ S1.1 = S.1 ∧ S1.2.1 = S.2.1 ∧ (∀ d, ¬ d = 47 → S1.2.2 d = S.2.2 d) ∧ ∀ j : Int32, 0 ≤ j → j < 60 → S1.2.2 47 (Int32.toNatClampNeg j) = if k ≤ j ∧ j < v5 then S.2.2 46 (Int32.toNatClampNeg (60 * v1 + v2 + j)) else S.2.2 47 (Int32.toNatClampNeg j) := by
  intro n
  induction n with
  | zero =>
    intro k S k0 k1 f
    have a := zle_toInt (Int32.le_trans k1 n3)
    have e : (60 : Int32).toInt = 60 := by decide
    rw [e] at a
    exact absurd f (by omega)
  | succ n ih =>
    intro k S k0 k1 f
    rw [fX12_shift_b113]
    by_cases c : v5 ≤ k
    · rw [if_pos c]
      exact ⟨S, rfl, rfl, rfl, fun _ _ => rfl, fun j j0 j1 => by rw [if_neg (zsh3 c)]⟩
    · obtain ⟨x1, x2, x3, x4, x5, x6⟩ := zsh1 h0 h1 i0 n1 n2 n3 hh k0 c
      have z1 : zin (60 * v1 + v2 + k) 360 := zin_of (k := 360) rfl (by decide) x1 x2
      have z2 : zin k 60 := zin_of (k := 60) rfl (by decide) k0 x3
      have hk : (k + 1).toInt = k.toInt + 1 := zadd1 k0 x6
      obtain ⟨S1, e1, e2, e3, e4, e5⟩ := ih (k + 1) (zJ S 47 (Int32.toNatClampNeg k) (S.2.2 46 (Int32.toNatClampNeg (60 * v1 + v2 + k)))) x4 x5 (by rw [hk]; push_cast at f ⊢; omega)
      refine ⟨S1, ?_, e2, e3, fun d hd => ?_, fun j j0 j1 => ?_⟩
      · rw [if_neg c, if_pos z1, if_pos z2]; exact e1
      · rw [e4 d hd]; exact if_neg hd
      · rw [e5 j j0 j1]
        have er : (zJ S 47 (Int32.toNatClampNeg k) (S.2.2 46 (Int32.toNatClampNeg (60 * v1 + v2 + k)))).2.2 47 = vp_updL (S.2.2 47) (Int32.toNatClampNeg k) (S.2.2 46 (Int32.toNatClampNeg (60 * v1 + v2 + k))) := rfl
        have er2 : (zJ S 47 (Int32.toNatClampNeg k) (S.2.2 46 (Int32.toNatClampNeg (60 * v1 + v2 + k)))).2.2 46 = S.2.2 46 := rfl
        have e := zsh2 n2 n3 k0 c j0 j1
        rw [er, er2, zupdL_at k0 j0]
        by_cases a : k + 1 ≤ j ∧ j < v5
        · rw [if_pos a, if_pos (e.mp (Or.inl a))]
        · rw [if_neg a]
          by_cases b : j = k
          · rw [if_pos b, if_pos (e.mp (Or.inr b)), b]
          · rw [if_neg b, if_neg (fun z => (e.mpr z).elim a b)]
theorem zsh7 {s i : Int32} (h0 : 0 ≤ s) (h1 : s < 6) (i0 : 0 ≤ i) (n1 : i ≤ 60) : 0 ≤ 60 * s + i ∧ 60 * s + i ≤ 360 := by
  constructor <;> grind
theorem zsh8 {b k n q : Int32} (h0 : 0 ≤ b) (h1 : b ≤ 360) (n3 : n ≤ 60) (k0 : 0 ≤ k) (hk : ¬ n ≤ k) (a : b + (k + 1) ≤ q) : b + k ≤ q := by grind
theorem zsh9 {b k n q : Int32} (h0 : 0 ≤ b) (h1 : b ≤ 360) (n3 : n ≤ 60) (k0 : 0 ≤ k) (hk : ¬ n ≤ k) : b + k < b + n := by grind
theorem zsh10 {b k n q : Int32} (h0 : 0 ≤ b) (h1 : b ≤ 360) (n3 : n ≤ 60) (k0 : 0 ≤ k) (hk : ¬ n ≤ k) (a : b + k ≤ q) (c : ¬ q = b + k) : b + (k + 1) ≤ q := by grind
theorem zsh4 {s i k n q : Int32} (h0 : 0 ≤ s) (h1 : s < 6) (i0 : 0 ≤ i) (n1 : i ≤ 60) (n3 : n ≤ 60) (k0 : 0 ≤ k) (hk : ¬ n ≤ k) : ((60 * s + i + (k + 1) ≤ q ∧ q < 60 * s + i + n) ∨ q = 60 * s + i + k) ↔ (60 * s + i + k ≤ q ∧ q < 60 * s + i + n) := by
  obtain ⟨b0, b1⟩ := zsh7 h0 h1 i0 n1
  constructor
  · rintro (a | a)
    · exact ⟨zsh8 b0 b1 n3 k0 hk a.1, a.2⟩
    · exact ⟨by rw [a]; exact Int32.le_refl _, by rw [a]; exact zsh9 (q := 0) b0 b1 n3 k0 hk⟩
  · rintro ⟨a, c⟩
    by_cases e : q = 60 * s + i + k
    · exact Or.inr e
    · exact Or.inl ⟨zsh10 b0 b1 n3 k0 hk a e, c⟩
theorem zsh5 {s i k n q : Int32} (hk : n = k) : ¬ (60 * s + i + k ≤ q ∧ q < 60 * s + i + n) := by
  subst hk
  exact fun z => Int32.not_le.mpr z.2 z.1
theorem zsh11 {k n : Int32} (a : k ≤ n) (b : n ≤ k) : n = k := by grind
theorem zsh6 {b k : Int32} : b + k - b = k := by grind
theorem e_sh2 (N : Nat) (v3 v4 v5 : Int32) (h0 : 0 ≤ v3) (h1 : v3 < 6) (i0 : 0 ≤ v4) (n1 : v4 ≤ 60) (n2 : 0 ≤ v5) (n3 : v5 ≤ 60) (hh : v4 + v5 ≤ 60) : ∀ (n : Nat) (k : Int32) (S : zSt), 0 ≤ k → k ≤ v5 → (61 : Int) ≤ k.toInt + n →
    ∃ S1 : zSt, fX12_shift_b150 N n v3 v4 v5 k S = some (v5, S1) ∧ S1.1 = S.1 ∧ S1.2.1 = S.2.1 ∧ (∀ d, ¬ d = 46 → S1.2.2 d = S.2.2 d) ∧ ∀ q : Int32, 0 ≤ q → q < 360 → S1.2.2 46 (Int32.toNatClampNeg q) = if 60 * v3 + v4 + k ≤ q ∧ q < 60 * v3 + v4 + v5 then S.2.2 47 (Int32.toNatClampNeg (q - (60 * v3 + v4))) else S.2.2 46 (Int32.toNatClampNeg q) := by
  intro n
  induction n with
  | zero =>
    intro k S k0 k1 f
    have a := zle_toInt (Int32.le_trans k1 n3)
    have e : (60 : Int32).toInt = 60 := by decide
    rw [e] at a
    exact absurd f (by omega)
  | succ n ih =>
    intro k S k0 k1 f
    rw [fX12_shift_b150]
    by_cases c : v5 ≤ k
    · rw [if_pos c]
      exact ⟨S, rfl, rfl, rfl, fun _ _ => rfl, fun j j0 j1 => by rw [if_neg (zsh5 (zsh11 k1 c))]⟩
    · obtain ⟨x1, x2, x3, x4, x5, x6⟩ := zsh1 h0 h1 i0 n1 n2 n3 hh k0 c
      have z1 : zin (60 * v3 + v4 + k) 360 := zin_of (k := 360) rfl (by decide) x1 x2
      have z2 : zin k 60 := zin_of (k := 60) rfl (by decide) k0 x3
      have hk : (k + 1).toInt = k.toInt + 1 := zadd1 k0 x6
      obtain ⟨S1, e1, e2, e3, e4, e5⟩ := ih (k + 1) (zJ S 46 (Int32.toNatClampNeg (60 * v3 + v4 + k)) (S.2.2 47 (Int32.toNatClampNeg k))) x4 x5 (by rw [hk]; push_cast at f ⊢; omega)
      refine ⟨S1, ?_, e2, e3, fun d hd => ?_, fun q q0 q1 => ?_⟩
      · rw [if_neg c, if_pos z2, if_pos z1]; exact e1
      · rw [e4 d hd]; exact if_neg hd
      · rw [e5 q q0 q1]
        have er : (zJ S 46 (Int32.toNatClampNeg (60 * v3 + v4 + k)) (S.2.2 47 (Int32.toNatClampNeg k))).2.2 46 = vp_updL (S.2.2 46) (Int32.toNatClampNeg (60 * v3 + v4 + k)) (S.2.2 47 (Int32.toNatClampNeg k)) := rfl
        have er2 : (zJ S 46 (Int32.toNatClampNeg (60 * v3 + v4 + k)) (S.2.2 47 (Int32.toNatClampNeg k))).2.2 47 = S.2.2 47 := rfl
        have e := zsh4 (q := q) h0 h1 i0 n1 n3 k0 c
        rw [er, er2, zupdL_at x1 q0]
        by_cases a : 60 * v3 + v4 + (k + 1) ≤ q ∧ q < 60 * v3 + v4 + v5
        · rw [if_pos a, if_pos (e.mp (Or.inl a))]
        · rw [if_neg a]
          by_cases b : q = 60 * v3 + v4 + k
          · rw [if_pos b, if_pos (e.mp (Or.inr b)), b, zsh6]
          · rw [if_neg b, if_neg (fun z => (e.mpr z).elim a b)]
/-- what a shift asks of a stretch, both ways -/
theorem zsh12 {p n le : Int32} (l0 : 0 ≤ le) (l1 : le ≤ 60) (n0 : 0 ≤ n) (p0 : 0 ≤ p) : ((p ≤ le ∧ n ≤ le - p) ↔ ¬ le - n < p) ∧ ((p ≤ le ∧ n ≤ le - p) ↔ p ≤ le - n) := by
  constructor <;> grind
theorem zsh13 {p n le : Int32} (l0 : 0 ≤ le) (l1 : le ≤ 60) (n0 : 0 ≤ n) (p0 : 0 ≤ p) (a : p ≤ le) (b : n ≤ le - p) : p ≤ 60 ∧ n ≤ 60 ∧ p + n ≤ 60 := by
  refine ⟨?_, ?_, ?_⟩ <;> grind
theorem zsh14 {i p : Int32} (i0 : 0 ≤ i) (i1 : i < 60) (p0 : 0 ≤ p) (a : p ≤ i) : i - p < 60 ∧ i - p ≤ 1000 ∧ 0 ≤ i - p := by
  refine ⟨?_, ?_, ?_⟩ <;> grind
theorem zsh15 {i p n b : Int32} (b0 : 0 ≤ b) (b1 : b ≤ 300) (i0 : 0 ≤ i) (i1 : i < 60) (p0 : 0 ≤ p) (p1 : p ≤ 60) (n0 : 0 ≤ n) (h : p + n ≤ 60) (n1 : n ≤ 60) : (b + p + 0 ≤ b + i ↔ p ≤ i) ∧ (b + i < b + p + n ↔ i < p + n) := by
  constructor <;> grind
theorem zsh16 {i p b : Int32} : b + i - (b + p) = i - p := by grind
theorem zsh17 {i p b : Int32} : b + p + i = b + (p + i) := by grind
theorem zsh18 {i p q n : Int32} (i0 : 0 ≤ i) (i1 : i < 60) (p0 : 0 ≤ p) (q0 : 0 ≤ q) (p1 : p ≤ 60) (q1 : q ≤ 60) (n0 : 0 ≤ n) (h : p + n ≤ 60) (h2 : q + n ≤ 60) (n1 : n ≤ 60) (a : p ≤ i) (c : i < p + n) : 0 ≤ q + (i - p) ∧ q + (i - p) < 60 ∧ i - p < n := by
  refine ⟨?_, ?_, ?_⟩ <;> grind
theorem zsh19 {s : Int32} (h0 : 0 ≤ s) (h1 : s < 6) : 0 ≤ 60 * s ∧ 60 * s ≤ 300 := by
  constructor <;> grind
theorem zsh20 {s t i p n : Int32} (h0 : 0 ≤ s) (h1 : s < 6) (t0 : 0 ≤ t) (t1 : t < 6) (a : 0 ≤ i) (b : i < 60) (p0 : 0 ≤ p) (p1 : p ≤ 60) (n0 : 0 ≤ n) (n1 : n ≤ 60) (h : p + n ≤ 60) (z1 : 60 * s + p + 0 ≤ 60 * t + i) (z2 : 60 * t + i < 60 * s + p + n) : 60 * s ≤ 60 * t + i ∧ 60 * t + i < 60 * s + 60 := by
  constructor <;> grind
theorem e_sortOn (p : Int32) (S : zSt) (h : 0 ≤ p ∧ p < 6) : fX9_sortOn p S = some (S.2.1 1000 (Int32.toNatClampNeg p), S) := by
  have hz : zin p 6 := zin_of (k := 6) rfl (by decide) h.1 h.2
  unfold fX9_sortOn
  simp only [e_has9, h, and_self, if_true, zU_some, one_ne, if_false, if_pos hz]
theorem zsh21 {a b c d : Int32} (h : c = -2 - a) (h2 : d = -2 - b) : c = d ↔ a = b := by
  constructor <;> grind
theorem zsh22 {a c d : Int32} (h : c = -2 - a) (a0 : 0 ≤ a) (a4 : a ≤ 4) (d0 : ¬ d < 0) : ¬ 0 ≤ c ∧ ¬ c = d ∧ 0 ≤ d := by
  refine ⟨?_, ?_, ?_⟩ <;> grind
theorem zsh23 {c : Int32} (h : ¬ c < 0) : 0 ≤ c := by grind
theorem zsh24 {c : Int32} (h : c < 0) : ¬ 0 ≤ c := by grind
theorem zsh25 {c : Int32} (h : 0 ≤ c ∧ c ≤ 4) : ¬ c = -1 := by grind
theorem zsh26 {n : Int32} (h : n ≤ 60) : n ≤ 1000 := by grind
theorem rShelf_shift {nb : Int32} {so le bo ho si : Nat → Int32} {ro : Nat → Nat → Int64} {el ml : Nat → Int64} (h : rShelf nb so le bo ho si ro el) {s1 i1 s3 i3 n : Int32} (h1 : 0 ≤ s1 ∧ s1 < 6) (h3 : 0 ≤ s3 ∧ s3 < 6) (a1 : 0 ≤ i1) (b1 : i1 ≤ 60) (a3 : 0 ≤ i3) (b3 : i3 ≤ 60) (n0 : 0 ≤ n) (n1 : n ≤ 60) (c1 : i1 + n ≤ 60) (c3 : i3 + n ≤ 60)
    (hs1 : ∀ i : Int32, 0 ≤ i → i < 60 → ro (10030 + Int32.toNatClampNeg s1) (Int32.toNatClampNeg i) = el (Int32.toNatClampNeg (60 * s1 + i)))
    (hs : ∀ q : Int32, 0 ≤ q → q < 360 → ml (Int32.toNatClampNeg q) = if 60 * s3 + i3 + 0 ≤ q ∧ q < 60 * s3 + i3 + n then el (Int32.toNatClampNeg (60 * s1 + i1 + (q - (60 * s3 + i3)))) else el (Int32.toNatClampNeg q)) :
    rShelf nb so le bo ho si (vf_upd ro (10030 + Int32.toNatClampNeg s3) (va_cpy (ro (10030 + Int32.toNatClampNeg s1)) (ro (10030 + Int32.toNatClampNeg s3)) (Int32.toNatClampNeg i1) (Int32.toNatClampNeg i3) (Int32.toNatClampNeg n))) ml := fun t t0 t1 => by
  rcases h t t0 t1 with a | a | ⟨x1, x2, x3, x4, x5, x6, x7⟩
  · exact Or.inl a
  · exact Or.inr (Or.inl a)
  · refine Or.inr (Or.inr ⟨x1, x2, x3, x4, x5, x6, fun j j0 j1 => ?_⟩)
    obtain ⟨m0, m1⟩ := zsE t0 t1 j0 j1
    rw [zrow_at h3.1 t0, hs _ m0 m1]
    by_cases c : t = s3
    · subst c
      obtain ⟨b0, b00⟩ := zsh19 t0 t1
      obtain ⟨e1, e2⟩ := zsh15 b0 b00 j0 j1 a3 b3 n0 c3 n1
      have p0 := zadd_t a3 (zsh26 b3) n0 (zsh26 n1)
      have k1 : (Int32.toNatClampNeg i3 ≤ Int32.toNatClampNeg j ∧ Int32.toNatClampNeg j < Int32.toNatClampNeg i3 + Int32.toNatClampNeg n) ↔ (i3 ≤ j ∧ j < i3 + n) := by
        rw [zle_n a3 j0, zlt_n j0 p0.2, p0.1]
      rw [if_pos rfl, zsh16]
      unfold va_cpy
      by_cases g : i3 ≤ j ∧ j < i3 + n
      · obtain ⟨w1, w2, w3⟩ := zsh14 j0 j1 a3 g.1
        obtain ⟨y1, y2, y3⟩ := zsh18 j0 j1 a3 a1 b3 b1 n0 c3 c1 n1 g.1 g.2
        rw [if_pos (k1.mpr g), if_pos ⟨e1.mpr g.1, e2.mpr g.2⟩, zsh17, ← hs1 _ y1 y2, (zadd_t a1 (zsh26 b1) w3 w2).1, (zsub_t a3 g.1).1]
      · rw [if_neg (fun z => g (k1.mp z)), if_neg (fun z => g ⟨e1.mp z.1, e2.mp z.2⟩)]
        exact x7 j j0 j1
    · rw [if_neg c, if_neg (fun z => zother60 h3.1 h3.2 t0 t1 j0 j1 c (zsh20 h3.1 h3.2 t0 t1 j0 j1 a3 b3 n0 n1 c3 z.1 z.2))]
      exact x7 j j0 j1
theorem zsh27 {b n q : Int32} (b0 : 0 ≤ b) (b1 : b ≤ 360) (n0 : 0 ≤ n) (n1 : n ≤ 60) (q0 : 0 ≤ q) (a : b + 0 ≤ q) (c : q < b + n) : 0 ≤ q - b ∧ q - b < 60 ∧ q - b < n := by
  refine ⟨?_, ?_, ?_⟩ <;> grind
theorem zsh_ref {α : Type} {p2 p4 p5 l1 l3 : Int32} (a0 : 0 ≤ l1) (a1 : l1 ≤ 60) (b0 : 0 ≤ l3) (b1 : l3 ≤ 60) (x y : α) : (if p5 < 0 then y else if p2 < 0 then y else if p4 < 0 then y else if l1 - p5 < p2 then y else if p4 ≤ l3 - p5 then x else y) = if (0 ≤ p5 ∧ 0 ≤ p2 ∧ p2 ≤ l1 ∧ p5 ≤ l1 - p2) ∧ (0 ≤ p5 ∧ 0 ≤ p4 ∧ p4 ≤ l3 ∧ p5 ≤ l3 - p4) then x else y := by
  by_cases c5 : p5 < 0
  · rw [if_pos c5, if_neg (fun z => zsh24 c5 z.1.1)]
  have n5 := zsh23 c5
  rw [if_neg c5]
  by_cases c2 : p2 < 0
  · rw [if_pos c2, if_neg (fun z => zsh24 c2 z.1.2.1)]
  have n2 := zsh23 c2
  rw [if_neg c2]
  by_cases c4 : p4 < 0
  · rw [if_pos c4, if_neg (fun z => zsh24 c4 z.2.2.1)]
  have n4 := zsh23 c4
  rw [if_neg c4]
  obtain ⟨u1, u2⟩ := zsh12 (p := p2) (n := p5) a0 a1 n5 n2
  obtain ⟨v1, v2⟩ := zsh12 (p := p4) (n := p5) b0 b1 n5 n4
  by_cases d : l1 - p5 < p2
  · rw [if_pos d, if_neg (fun z => u1.mp z.1.2.2 d)]
  rw [if_neg d]
  by_cases d2 : p4 ≤ l3 - p5
  · rw [if_pos d2, if_pos ⟨⟨n5, n2, u1.mpr d⟩, n5, n4, v2.mpr d2⟩]
  · rw [if_neg d2, if_neg (fun z => d2 (v2.mp z.2.2.2))]
theorem zsh_cls {α : Type} {A B : Prop} [Decidable A] [Decidable B] (x y : α) : (if ¬ A then y else if ¬ B then y else x) = if A ∧ B then x else y := by
  by_cases a : A <;> by_cases b : B <;> simp [a, b]
theorem zsh_eq {C : Prop} [Decidable C] {r : Int32} {SX SR : zSt} {x1 x2 : Option (Int32 × zSt)} (h : C → zEq x1 x2) (hR : zRel SX SR) : zEq (if C then x1 else some (r, SX)) (if C then x2 else some (r, SR)) := by
  by_cases c : C
  · rw [if_pos c, if_pos c]; exact h c
  · rw [if_neg c, if_neg c]; exact zEq_i rfl hR
theorem q_shift {SX SR : zSt} (hRel : zRel SX SR) (p1 p2 p3 p4 p5 : Int32) : zEq (fX11_shift p1 p2 p3 p4 p5 SX) (fX12_shift zN p1 p2 p3 p4 p5 SR) := by
  obtain ⟨hT, hP, hPe, hS, hL, hN, hB, hTr, hSh, hC, hG⟩ := id hRel
  have hnb : SR.1 40 ≤ 50 := by rw [← hB.1]; exact hB.2.2.1
  unfold fX11_shift fX12_shift
  by_cases h : 0 ≤ p1 ∧ p1 < 6
  case neg =>
    simp only [e_has9, e_isShelf, h, if_false, zU_some, if_true]
    exact zEq_i rfl hRel
  by_cases h3 : 0 ≤ p3 ∧ p3 < 6
  case neg =>
    simp only [e_has9, e_isShelf, h, h3, and_self, if_false, zU_some, if_true, one_ne]
    exact zEq_i rfl hRel
  have hz : zin p1 6 := zin_of (k := 6) rfl (by decide) h.1 h.2
  have hz3 : zin p3 6 := zin_of (k := 6) rfl (by decide) h3.1 h3.2
  simp only [e_has9, e_isShelf, h, h3, and_self, zU_some, if_true, one_ne, if_false, e_sortOn p1 _ h, e_sortOn p3 _ h3, zB_some, e_isSort, z10, if_pos hz, if_pos hz3, e_stretch p1 _ _ _ h, e_stretch p3 _ _ _ h3]
  rcases zshelf hSh hnb h 0 with a | a | a
  · simp only [a.1, a.2, if_true]
    exact zEq_i rfl hRel
  · rcases zshelf hSh hnb h3 0 with b | b | b
    · simp only [a.1, a.2.1, b.1, b.2, if_true, if_false]
      exact zEq_i rfl hRel
    · have n0 : 0 ≤ SR.2.1 44 (Int32.toNatClampNeg p1) := zsh23 a.2.2.1
      simp only [a.1, a.2.1, b.1, b.2.1, n0, if_true, if_false]
      exact zEq_i rfl hRel
    · have n0 : 0 ≤ SR.2.1 44 (Int32.toNatClampNeg p1) := zsh23 a.2.2.1
      simp only [a.1, a.2.1, b.2.1, b.2.2.1, b.2.2.2.2.1, n0, if_true, if_false]
      exact zEq_i rfl hRel
  · obtain ⟨a1, a2, a3, a4, a5, a6, a7, a8, a9, a10, a11, a12⟩ := a
    have a13 := zsh24 a6
    rcases zshelf hSh hnb h3 0 with b | b | b
    · simp only [a2, a5, b.1, b.2, if_true, if_false]
      exact zEq_i rfl hRel
    · have n2 : ¬ SR.2.1 44 (Int32.toNatClampNeg p1) = SR.2.1 44 (Int32.toNatClampNeg p3) := (zsh22 (a := SX.2.1 1000 (Int32.toNatClampNeg p1)) a4 a1.1 a1.2 b.2.2.1).2.1
      simp only [a1, a2, a3, a5, a13, b.1, b.2.1, n2, and_self, not_true_eq_false, if_true, if_false]
      exact zEq_i rfl hRel
    · obtain ⟨b1, b2, b3, b4, b5, b6, b7, b8, b9, b10, b11, b12⟩ := b
      by_cases e : SX.2.1 1000 (Int32.toNatClampNeg p1) = SX.2.1 1000 (Int32.toNatClampNeg p3)
      case neg =>
        have e2 : ¬ SR.2.1 44 (Int32.toNatClampNeg p1) = SR.2.1 44 (Int32.toNatClampNeg p3) := fun z => e ((zsh21 a4 b4).mp z)
        simp only [a1, a2, a5, a13, b2, b5, e, e2, and_self, not_true_eq_false, if_true, if_false]
        exact zEq_i rfl hRel
      have e2 : SR.2.1 44 (Int32.toNatClampNeg p1) = SR.2.1 44 (Int32.toNatClampNeg p3) := (zsh21 a4 b4).mpr e
      have b13 := zsh24 b6
      simp only [a2, a5, a13, b2, b5, b13, e, e2, b1, and_self, true_and, not_true_eq_false, if_true, if_false]
      rw [a7, b7, zsh_ref (α := Option (Int32 × zSt)) a8 a9 b8 b9, zsh_cls]
      refine zsh_eq (fun g => ?_) hRel
      obtain ⟨⟨g1, g2, g3, g4⟩, g5, g6, g7, g8⟩ := g
      obtain ⟨y1, y2, y3⟩ := zsh13 a8 a9 g1 g2 g3 g4
      obtain ⟨w1, w2, w3⟩ := zsh13 b8 b9 g5 g6 g7 g8
      have k60 : ∀ m : Nat, m ≤ 1000 → (m : Int) ≤ (zN : Nat) := fun m hm => by
        rw [show ((zN : Nat) : Int) = 1000000 from rfl]; omega
      have z0 : (0 : Int32).toInt = 0 := by decide
      obtain ⟨R1, r1, r2, r3, r4, r5⟩ := e_sh1 zN p1 p2 p3 p4 p5 h.1 h.2 g2 y1 g1 y2 y3 zN 0 SR (by decide) g1 (by have := k60 61 (by decide); rw [z0]; omega)
      obtain ⟨R2, q1, q2, q3, q4, q5⟩ := e_sh2 zN p3 p4 p5 h3.1 h3.2 g6 w1 g1 y2 w3 zN 0 R1 (by decide) g1 (by have := k60 61 (by decide); rw [z0]; omega)
      have hcond : ¬ (p2 : Int32) < 0 ∧ ¬ (p4 : Int32) < 0 ∧ ¬ (p5 : Int32) < 0 ∧ Int32.toNatClampNeg p2 + Int32.toNatClampNeg p5 ≤ 60 ∧ Int32.toNatClampNeg p4 + Int32.toNatClampNeg p5 ≤ 60 := by
        refine ⟨fun z => zsh24 z g2, fun z => zsh24 z g6, fun z => zsh24 z g1, ?_, ?_⟩
        · have v := zadd_t g2 (zsh26 y1) g1 (zsh26 y2)
          rw [← v.1]
          exact (zle_n v.2 (by decide : (0 : Int32) ≤ 60)).mp y3
        · have v := zadd_t g6 (zsh26 w1) g1 (zsh26 y2)
          rw [← v.1]
          exact (zle_n v.2 (by decide : (0 : Int32) ≤ 60)).mp w3
      have hX : fX9_copy p1 p2 p3 p4 p5 SX = some (zcJ SX (10030 + Int32.toNatClampNeg p1) (10030 + Int32.toNatClampNeg p3) (Int32.toNatClampNeg p2) (Int32.toNatClampNeg p4) (Int32.toNatClampNeg p5)) := by
        unfold fX9_copy
        have A1 : (0 ≤ SX.2.1 1000 (Int32.toNatClampNeg p1) ∧ SX.2.1 1000 (Int32.toNatClampNeg p1) ≤ 4) ∧ 0 ≤ p5 ∧ 0 ≤ p2 ∧ p2 ≤ SX.2.1 1001 (Int32.toNatClampNeg p1) ∧ p5 ≤ SX.2.1 1001 (Int32.toNatClampNeg p1) - p2 := by
          rw [a7]; exact ⟨a1, g1, g2, g3, g4⟩
        have A3 : (0 ≤ SX.2.1 1000 (Int32.toNatClampNeg p3) ∧ SX.2.1 1000 (Int32.toNatClampNeg p3) ≤ 4) ∧ 0 ≤ p5 ∧ 0 ≤ p4 ∧ p4 ≤ SX.2.1 1001 (Int32.toNatClampNeg p3) ∧ p5 ≤ SX.2.1 1001 (Int32.toNatClampNeg p3) - p4 := by
          rw [b7]; exact ⟨b1, g5, g6, g7, g8⟩
        have B1 := e_stretch p1 p2 p5 SX h
        have B3 := e_stretch p3 p4 p5 SX h3
        rw [if_pos A1] at B1
        rw [if_pos A3] at B3
        rw [B1, zB_some, if_neg (show ¬ (1 : Int32) = 0 by decide), B3, zB_some, if_neg (show ¬ (1 : Int32) = 0 by decide), if_pos hz, if_pos hz3, if_pos hcond]
        rfl
      rw [hX, r1, q1]
      refine zEq_i (SX := zcJ SX (10030 + Int32.toNatClampNeg p1) (10030 + Int32.toNatClampNeg p3) (Int32.toNatClampNeg p2) (Int32.toNatClampNeg p4) (Int32.toNatClampNeg p5)) rfl ?_
      unfold zRel
      rw [q2, q3, r2, r3]
      refine ⟨hT, hP, hPe, hS, hL, hN, hB, hTr, rShelf_shift hSh h h3 g2 y1 g6 w1 g1 y2 y3 w3 a12 (fun q q0 q1' => ?_), hC, hG⟩
      rw [q5 q q0 q1', r4 46 (by decide)]
      by_cases c : 60 * p3 + p4 + 0 ≤ q ∧ q < 60 * p3 + p4 + p5
      · obtain ⟨b0, b00⟩ := zsh7 h3.1 h3.2 g6 w1
        obtain ⟨s1, s2, s3⟩ := zsh27 b0 b00 g1 y2 q0 c.1 c.2
        rw [if_pos c, if_pos c, r5 _ s1 s2, if_pos ⟨s1, s3⟩]
      · rw [if_neg c, if_neg c]
