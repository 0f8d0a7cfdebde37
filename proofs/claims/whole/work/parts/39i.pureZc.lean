-- orders: the reference's
def zD (n v k : Nat) : Nat := v / 9 ^ (n - 1 - k) % 9
theorem zD_lt (n v k : Nat) : zD n v k < 9 := Nat.mod_lt _ (by decide)
theorem zVl_b {h : Nat → Nat} : ∀ n, (∀ j, j < n → h j < 9) → zVl h n < 9 ^ n := by
  intro n
  induction n with
  | zero => intro _; exact (by decide : 0 < 1)
  | succ n ih =>
    intro q
    have := ih (fun j hj => q j (by omega))
    have := q n (by omega)
    rw [zVl, Nat.pow_succ]
    omega
theorem zD_s {n v k : Nat} (h : k < n) : zD (n + 1) v k = zD n (v / 9) k := by
  unfold zD
  have : n + 1 - 1 - k = (n - 1 - k) + 1 := by omega
  rw [this, Nat.pow_succ, Nat.mul_comm, Nat.div_div_eq_div_mul]
theorem zD_n (n v : Nat) : zD (n + 1) v n = v % 9 := by
  unfold zD
  have : n + 1 - 1 - n = 0 := by omega
  rw [this, Nat.pow_zero, Nat.div_one]
theorem zD_zVl {h : Nat → Nat} : ∀ n, (∀ j, j < n → h j < 9) → ∀ k, k < n → zD n (zVl h n) k = h k := by
  intro n
  induction n with
  | zero => intro _ k hk; exact absurd hk (by omega)
  | succ n ih =>
    intro q k hk
    have hn := q n (by omega)
    by_cases c : k = n
    · subst c
      rw [zD_n, zVl]
      omega
    · rw [zD_s (by omega), zVl]
      have : (9 * zVl h n + h n) / 9 = zVl h n := by omega
      rw [this]
      exact ih (fun j hj => q j (by omega)) k (by omega)
theorem zVl_zD : ∀ n v, v < 9 ^ n → zVl (zD n v) n = v := by
  intro n
  induction n with
  | zero => intro v h; have : v = 0 := by simpa using h
            rw [this]; rfl
  | succ n ih =>
    intro v h
    rw [Nat.pow_succ] at h
    rw [zVl, zD_n, zVl_congr (h2 := zD n (v / 9)) n (fun j hj => zD_s hj), ih (v / 9) (by omega)]
    omega
def zVd (n : Nat) (g : Nat → Nat) (v : Nat) : Prop := (∀ j, j < n → ∃ i, i < n ∧ zD n v j = g i) ∧ ∀ i j, i < n → j < n → zD n v i = zD n v j → i = j
theorem zb_and0 (x : BitVec 32) : (x &&& 1#32 = 0#32) ↔ x.getLsbD 0 = false := by
  constructor
  · intro h
    have := congrArg (fun y => BitVec.getLsbD y 0) h
    simpa using this
  · intro h
    apply BitVec.eq_of_getLsbD_eq
    intro i hi
    rw [BitVec.getLsbD_and, BitVec.getLsbD_one]
    by_cases c : i = 0
    · subst c; rw [h]; simp
    · simp [c]
theorem zb_iff0 (t : Int32) {a : Nat} (h : a < 32) : (((t >>> (Int32.ofNat a &&& 31)) &&& 1) = 0) = (zb t a = false) := by
  have e := zb_sm ⟨a, h⟩
  apply propext
  have q : (((t >>> (Int32.ofNat a &&& 31)) &&& 1) = 0) ↔ (t.toBitVec.sshiftRight' ((Int32.ofNat a &&& 31).toBitVec.smod 32) &&& 1#32 = 0#32) := Int32.toBitVec_inj.symm
  rw [q, zb_and0, BitVec.getLsbD_sshiftRight', e]
  simp [h, zb]
theorem r_isOne {n : Nat} (hn5 : n ≤ 5) {g : Nat → Nat} (hg : ∀ j, j < n → g j < 8) {S : zSt} (hw : ∀ j, j < n → S.2.1 36 j = Int32.ofNat (g j)) {x : Nat} (hx : x < 9) : ∀ (c fu k : Nat), k + c = n → c < fu →
    ((∃ i, k ≤ i ∧ i < n ∧ x = g i) ∧ fX12_isOne_b2 zN fu (Int32.ofNat x) (Int32.ofNat n) (Int32.ofNat k) S = some (1, S)) ∨ ((¬ ∃ i, k ≤ i ∧ i < n ∧ x = g i) ∧ fX12_isOne_b2 zN fu (Int32.ofNat x) (Int32.ofNat n) (Int32.ofNat k) S = some (0, S)) := by
  intro c
  induction c with
  | zero =>
    intro fu k h1 h2
    obtain _ | fu := fu
    · exact absurd h2 (by omega)
    rw [fX12_isOne_b2, zi_le (by omega) (by omega), if_pos (by omega)]
    exact Or.inr ⟨fun ⟨i, a, b, _⟩ => by omega, rfl⟩
  | succ c ih =>
    intro fu k h1 h2
    obtain _ | fu := fu
    · exact absurd h2 (by omega)
    have gk := hg k (by omega)
    have eq : (Int32.ofNat (g k) = Int32.ofNat x) = (g k = x) := zo_eq (by omega) (by omega)
    rw [fX12_isOne_b2, zi_le (by omega) (by omega), if_neg (by omega), if_pos (zin_o (by omega) (by decide)), zo_t (by omega), hw k (by omega), zi_of eq, zo_s]
    by_cases d : g k = x
    · rw [if_pos d]
      exact Or.inl ⟨⟨k, by omega, by omega, d.symm⟩, rfl⟩
    · rw [if_neg d]
      rcases ih fu (k + 1) (by omega) (by omega) with ⟨⟨i, a, b, w⟩, q⟩ | ⟨a, q⟩
      · exact Or.inl ⟨⟨i, by omega, b, w⟩, q⟩
      · refine Or.inr ⟨fun ⟨i, a1, b1, w1⟩ => ?_, q⟩
        by_cases z : i = k
        · rw [z] at w1; exact d w1.symm
        · exact a ⟨i, by omega, b1, w1⟩
theorem r_ord_bad (K97 : Int32 → Int32 → Int32 → Int32 → Int32 → Int32 → Int32 → Int32 → Int32 → zSt → Option (Int32 × zSt)) (fu : Nat) (v1 v2 v3 v4 v5 v6 v7 v8 v9 v10 v11 v13 v14 : Int32) (S : zSt) :
    fX12_order_b123 zN K97 (fu + 1) v1 v2 v3 v4 v5 v6 v7 v8 v9 v10 v11 0 v13 v14 S = K97 v1 v2 v3 v4 v5 v6 v7 v8 (v9 + 1) S := by
  rw [fX12_order_b123]
  unfold fX12_order_b216
  by_cases c : v4 ≤ v14
  · rw [if_pos c, if_pos zn00]
  · rw [if_neg c, if_pos zn00, if_pos zn00]
theorem r_ord_in {n v : Nat} (hn5 : n ≤ 5) (hv : v < 9 ^ n) {g : Nat → Nat} (hg : ∀ j, j < n → g j < 8) (K97 : Int32 → Int32 → Int32 → Int32 → Int32 → Int32 → Int32 → Int32 → Int32 → zSt → Option (Int32 × zSt)) (v1 v2 v3 e v6 v7 v8 : Int32) : ∀ (c fu k : Nat) (t : Int32) (S : zSt), k + c = n → c < fu → (∀ j, j < k → ∃ i, i < n ∧ zD n v j = g i) → (∀ i j, i < k → j < k → zD n v i = zD n v j → i = j) → (∀ a, a < 32 → (zb t a = true ↔ ∃ j, j < k ∧ zD n v j = a)) → (∀ j, j < k → S.2.1 34 j = Int32.ofNat (zD n v j)) → (∀ j, j < n → S.2.1 36 j = Int32.ofNat (g j)) →
    (zVd n g v ∧ ∃ S1 : zSt, fX12_order_b123 zN K97 fu v1 v2 v3 (Int32.ofNat n) e v6 v7 v8 (Int32.ofNat v) (Int32.ofNat (zDg (zD n v) k)) (Int32.ofNat (9 ^ c / 9)) 1 t (Int32.ofNat k) S = fX12_order_b216 zN K97 v1 v2 v3 (Int32.ofNat n) e v6 v7 v8 (Int32.ofNat v) (Int32.ofNat (zDg (zD n v) n)) 1 S1 ∧ zKeep [] [34] S S1 ∧ ∀ j, j < n → S1.2.1 34 j = Int32.ofNat (zD n v j)) ∨
    (¬ zVd n g v ∧ ∃ S1 : zSt, fX12_order_b123 zN K97 fu v1 v2 v3 (Int32.ofNat n) e v6 v7 v8 (Int32.ofNat v) (Int32.ofNat (zDg (zD n v) k)) (Int32.ofNat (9 ^ c / 9)) 1 t (Int32.ofNat k) S = K97 v1 v2 v3 (Int32.ofNat n) e v6 v7 v8 (Int32.ofNat v + 1) S1 ∧ zKeep [] [34] S S1) := by
  have h95 : 9 ^ n ≤ 59049 := by
    have : n = 0 ∨ n = 1 ∨ n = 2 ∨ n = 3 ∨ n = 4 ∨ n = 5 := by omega
    rcases this with rfl | rfl | rfl | rfl | rfl | rfl <;> decide
  intro c
  induction c with
  | zero =>
    intro fu k t S h1 h2 hP hI hT hR hW
    obtain _ | fu := fu
    · exact absurd h2 (by omega)
    have : k = n := by omega
    subst this
    rw [fX12_order_b123, zi_le (by omega) (by omega), if_pos (Nat.le_refl _)]
    exact Or.inl ⟨⟨hP, hI⟩, S, rfl, zK_refl _, hR⟩
  | succ c ih =>
    intro fu k t S h1 h2 hP hI hT hR hW
    obtain _ | fu := fu
    · exact absurd h2 (by omega)
    have hc : 9 ^ c ≤ 59049 := Nat.le_trans (Nat.pow_le_pow_right (by decide) (by omega)) h95
    have hc0 : 0 < 9 ^ c := Nat.pow_pos (by decide)
    have ecc : 9 ^ (c + 1) / 9 = 9 ^ c := by rw [Nat.pow_succ]; omega
    have e0 : ¬ Int32.ofNat (9 ^ c) = 0 := by
      show ¬ Int32.ofNat (9 ^ c) = Int32.ofNat 0
      rw [zo_eq (by omega) (by omega)]
      omega
    have hvc : v / 9 ^ c < 2147483648 := Nat.lt_of_le_of_lt (Nat.div_le_self _ _) (by omega)
    have ed : Int32.ofNat v / Int32.ofNat (9 ^ c) = Int32.ofNat (v / 9 ^ c) := zo_div (by omega) (by omega)
    have em : Int32.ofNat (v / 9 ^ c) - Int32.ofNat (v / 9 ^ c) / 9 * 9 = Int32.ofNat (zD n v k) := by
      have := zo_mod (a := v / 9 ^ c) (b := 9) hvc (by omega)
      refine (show _ = _ from this).trans ?_
      unfold zD
      have : n - 1 - k = c := by omega
      rw [this]
    have e9 : Int32.ofNat (9 ^ c) / 9 = Int32.ofNat (9 ^ c / 9) := zo_div (b := 9) (by omega) (by omega)
    have d9 := zD_lt n v k
    have z5 : zin (Int32.ofNat k) 5 := zin_o (by omega) (by decide)
    have K0 := zK_A S 34 k (Int32.ofNat (zD n v k))
    have hT2 : ∀ a, a < 32 → (zb (t ||| 1 <<< (Int32.ofNat (zD n v k) &&& 31)) a = true ↔ ∃ j, j < k + 1 ∧ zD n v j = a) := fun a ha => by
      rw [zb_or t ha (by omega), Bool.or_eq_true, hT a ha, decide_eq_true_eq]
      constructor
      · rintro (⟨j, hj, q⟩ | q)
        · exact ⟨j, by omega, q⟩
        · exact ⟨k, by omega, q.symm⟩
      · rintro ⟨j, hj, q⟩
        by_cases w : j = k
        · exact Or.inr (by rw [← w]; exact q.symm)
        · exact Or.inl ⟨j, by omega, q⟩
    obtain _ | fu := fu
    · exact absurd h2 (by omega)
    rw [ecc, fX12_order_b123, zi_le (by omega) (by omega), if_neg (by omega), if_neg zn10, if_pos e0, ed, em, zL_def, zDg_step, e9, zi_of (zb_iff0 t (by omega : zD n v k < 32))]
    unfold fX12_order_b189 fX12_order_b190 fX12_isOne
    by_cases b : zb t (zD n v k) = false
    · rw [if_pos b]
      have nb : ∀ j, j < k → ¬ zD n v j = zD n v k := fun j hj q => by
        have := (hT (zD n v k) (by omega)).mpr ⟨j, hj, q⟩
        rw [b] at this
        exact absurd this (by decide)
      rcases r_isOne hn5 hg hW d9 n zN 0 (by omega) (Nat.lt_of_le_of_lt hn5 (by decide)) with ⟨⟨i, -, hi, q⟩, r⟩ | ⟨q, r⟩
      · rw [show fX12_isOne_b2 zN zN (Int32.ofNat (zD n v k)) (Int32.ofNat n) 0 S = _ from r, zB_some, if_neg zn10, if_pos z5, zL_def, zo_t (by omega), zo_s]
        have := ih (fu + 1) (k + 1) (t ||| 1 <<< (Int32.ofNat (zD n v k) &&& 31)) (zA S 34 k (Int32.ofNat (zD n v k))) (by omega) (by omega) (fun j hj => by
          by_cases w : j = k
          · rw [w]; exact ⟨i, hi, q⟩
          · exact hP j (by omega)) (fun i j hi2 hj2 w => by
          by_cases a1 : i = k
          · by_cases a2 : j = k
            · omega
            · rw [a1] at w; exact absurd w.symm (nb j (by omega))
          · by_cases a2 : j = k
            · rw [a2] at w; exact absurd w (nb i (by omega))
            · exact hI i j (by omega) (by omega) w) hT2 (fun j hj => by
          rw [zA_get]
          by_cases w : j = k
          · rw [if_pos w, w]
          · rw [if_neg w]; exact hR j (by omega)) hW
        rcases this with ⟨a1, S1, a2, a3, a4⟩ | ⟨a1, S1, a2, a3⟩
        · exact Or.inl ⟨a1, S1, a2, zK_t K0 a3, a4⟩
        · exact Or.inr ⟨a1, S1, a2, zK_t K0 a3⟩
      · rw [show fX12_isOne_b2 zN zN (Int32.ofNat (zD n v k)) (Int32.ofNat n) 0 S = _ from r, zB_some, if_pos zn00, if_pos z5, zL_def, r_ord_bad]
        refine Or.inr ⟨fun x => ?_, _, rfl, by rw [zo_t (by omega)]; exact K0⟩
        obtain ⟨i, hi, w⟩ := x.1 k (by omega)
        exact q ⟨i, by omega, hi, w⟩
    · rw [if_neg b, if_pos z5, zL_def, r_ord_bad]
      refine Or.inr ⟨fun x => ?_, _, rfl, by rw [zo_t (by omega)]; exact K0⟩
      have b : zb t (zD n v k) = true := by simpa using b
      obtain ⟨j, hj, q⟩ := (hT _ (by omega)).mp b
      have := x.2 j k (by omega) (by omega) q
      omega
/-- the best of all below v -/
def zRI (E : zE) (nc : Nat → Nat) (n : Nat) (f : Int32) (p : Nat) (e : Int32) (g : Nat → Nat) (v : Nat) (b w : Int32) : Prop :=
  ((∀ x, x < v → ¬ zVd n g x) ∧ b = 0) ∨ ∃ v0, v0 < v ∧ zVd n g v0 ∧ b = Int32.ofNat (zDg (zD n v0) n) ∧ zLs E nc n f p e (zD n v0) w ∧ ∀ x, x < v → zVd n g x → ∀ l, zLs E nc n f p e (zD n x) l → l ≤ w ∧ (l = w → v0 ≤ x)
theorem r_ord {E : zE} {np m : Nat} {nc : Nat → Nat} {n : Nat} {g : Nat → Nat} (hH : zH E np m nc n g) {f : Nat} (hf : f < 4) {p : Nat} (hp : p < np) {v1 v2 : Int32} (e1 : v1 / 100 = Int32.ofNat p) (e2 : v2 - v2 / 10 * 10 = Int32.ofNat f) (v3 e : Int32) : ∀ (c fu v : Nat) (b w : Int32) (S : zSt), v + c = 9 ^ n → c < fu → zRV E np m nc S → S.1 33 = Int32.ofNat n → (∀ i, i < 12 → S.2.1 35 i = 0) → (∀ j, j < n → S.2.1 36 j = Int32.ofNat (g j)) → zRI E nc n (Int32.ofNat f) p e g v b w →
    ∃ (S1 : zSt) (b1 w1 : Int32), fX12_order_b97 zN fu v1 v2 v3 (Int32.ofNat n) e (Int32.ofNat (9 ^ n)) b w (Int32.ofNat v) S = some (if v3 = 0 then b1 else w1, S1) ∧ zRI E nc n (Int32.ofNat f) p e g (9 ^ n) b1 w1 ∧ zKeep [] [34] S S1 := by
  have m8 := hH.1.2.1
  have n1 := hH.2.1
  have n5 := hH.2.2.1
  have h95 : 9 ^ n ≤ 59049 := by
    have : n = 1 ∨ n = 2 ∨ n = 3 ∨ n = 4 ∨ n = 5 := by omega
    rcases this with rfl | rfl | rfl | rfl | rfl <;> decide
  intro c
  induction c with
  | zero =>
    intro fu v b w S h1 h2 hV h33 hU hW hI
    obtain _ | fu := fu
    · exact absurd h2 (by omega)
    have : v = 9 ^ n := by omega
    subst this
    rw [fX12_order_b97, zi_le (by omega) (by omega), if_pos (Nat.le_refl _)]
    refine ⟨S, b, w, ?_, hI, zK_refl _⟩
    split <;> rfl
  | succ c ih =>
    intro fu v b w S h1 h2 hV h33 hU hW hI
    obtain _ | fu := fu
    · exact absurd h2 (by omega)
    have e9 : Int32.ofNat (9 ^ n) / 9 = Int32.ofNat (9 ^ n / 9) := zo_div (b := 9) (by omega) (by omega)
    rw [fX12_order_b97, zi_le (by omega) (by omega), if_neg (by omega), e9]
    have L := r_ord_in n5 (by omega : v < 9 ^ n) (fun j hj => Nat.lt_of_lt_of_le (hH.2.2.2.1 j hj) m8) (fX12_order_b97 zN fu) v1 v2 v3 e (Int32.ofNat (9 ^ n)) b w n zN 0 0 S (by omega) (Nat.lt_of_le_of_lt n5 (by decide)) (fun j hj => absurd hj (by omega)) (fun i j hi => absurd hi (by omega)) (fun a _ => by rw [zb_0]; exact ⟨fun x => absurd x (by decide), fun ⟨j, hj, _⟩ => absurd hj (by omega)⟩) (fun j hj => absurd hj (by omega)) hW
    have fin : ∀ (S1 : zSt) (b2 w2 : Int32), zKeep [] [34] S S1 → zRI E nc n (Int32.ofNat f) p e g (v + 1) b2 w2 → ∃ (S2 : zSt) (b1 w1 : Int32), fX12_order_b97 zN fu v1 v2 v3 (Int32.ofNat n) e (Int32.ofNat (9 ^ n)) b2 w2 (Int32.ofNat (v + 1)) S1 = some (if v3 = 0 then b1 else w1, S2) ∧ zRI E nc n (Int32.ofNat f) p e g (9 ^ n) b1 w1 ∧ zKeep [] [34] S S2 := fun S1 b2 w2 k hI2 => by
      obtain ⟨S2, b1, w1, i1, i2, i3⟩ := ih fu (v + 1) b2 w2 S1 (by omega) (by omega) (zRV_K hV k (by simp) (by decide)) ((k.1 33 (by simp)).trans h33) (fun i hi => by rw [k.2.1 35 (by decide)]; exact hU i hi) (fun j hj => by rw [k.2.1 36 (by decide)]; exact hW j hj) hI2
      exact ⟨S2, b1, w1, i1, i2, zK_t k i3⟩
    rcases L with ⟨a1, S1, a2, a3, a4⟩ | ⟨a1, S1, a2, a3⟩
    · have hok : zGok m n (zD n v) := ⟨n1, n5, fun k hk => by
        obtain ⟨i, hi, q⟩ := a1.1 k hk
        rw [q]; exact hH.2.2.2.1 i hi, a1.2⟩
      have hV1 : zSR E np m nc n (zD n v) (fun _ => 0) S1 := ⟨zRV_K hV a3 (by simp) (by decide), ⟨(a3.1 33 (by simp)).trans h33, a4⟩, fun i hi => by rw [a3.2.1 35 (by decide)]; exact hU i hi⟩
      obtain ⟨l, b1, b2⟩ := r_least (f := Int32.ofNat f) ⟨hH.1, hok⟩ hV1 (zn4 hf) hp e
      have b2 : zLs E nc n (Int32.ofNat f) p e (zD n v) l := b2
      refine (show ∃ (S2 : zSt) (b1 w1 : Int32), fX12_order_b123 zN (fX12_order_b97 zN fu) zN v1 v2 v3 (Int32.ofNat n) e (Int32.ofNat (9 ^ n)) b w (Int32.ofNat v) 0 (Int32.ofNat (9 ^ n / 9)) 1 0 0 S = some (if v3 = 0 then b1 else w1, S2) ∧ zRI E nc n (Int32.ofNat f) p e g (9 ^ n) b1 w1 ∧ zKeep [] [34] S S2 from ?_)
      rw [show fX12_order_b123 zN (fX12_order_b97 zN fu) zN v1 v2 v3 (Int32.ofNat n) e (Int32.ofNat (9 ^ n)) b w (Int32.ofNat v) 0 (Int32.ofNat (9 ^ n / 9)) 1 0 0 S = _ from a2]
      unfold fX12_order_b216 fX12_order_b255
      rw [if_neg zn10, e1, e2, b1, zB_some, zo_s]
      have taken : (∀ x, x < v → zVd n g x → ∀ l2, zLs E nc n (Int32.ofNat f) p e (zD n x) l2 → l2 < l) → zRI E nc n (Int32.ofNat f) p e g (v + 1) (Int32.ofNat (zDg (zD n v) n)) l := fun q => by
        refine Or.inr ⟨v, by omega, a1, rfl, b2, fun x hx hx2 l2 hl2 => ?_⟩
        by_cases y : x = v
        · subst y
          have : l2 = l := zLst_one hl2 b2
          exact ⟨by rw [this]; exact Int32.le_refl _, fun _ => Nat.le_refl _⟩
        · have := q x (by omega) hx2 l2 hl2
          exact ⟨Int32.le_of_lt this, fun z => by rw [z] at this; exact absurd this (Int32.not_lt.mpr (Int32.le_refl _))⟩
      rcases hI with ⟨c1, c2⟩ | ⟨v0, c1, c2, c3, c4, c5⟩
      · subst c2
        rw [if_pos (by decide)]
        exact fin S1 _ _ a3 (taken (fun x hx hx2 => absurd hx2 (c1 x hx)))
      · have hd : zDg (zD n v0) n < 10 ^ n := zDg_lt n (fun j _ => zD_lt n v0 j)
        have hd1 : 1 ≤ zDg (zD n v0) n := by
          obtain _ | n := n
          · exact absurd n1 (by omega)
          · rw [zDg]; omega
        have h10 : 10 ^ n ≤ 100000 := by
          have : n = 1 ∨ n = 2 ∨ n = 3 ∨ n = 4 ∨ n = 5 := by omega
          rcases this with rfl | rfl | rfl | rfl | rfl <;> decide
        have nb : ¬ b ≤ 0 := by
          rw [c3]
          show ¬ Int32.ofNat (zDg (zD n v0) n) ≤ Int32.ofNat 0
          rw [zo_le (by omega) (by omega)]
          omega
        rw [if_neg nb]
        by_cases d : w < l
        · rw [if_pos d]
          exact fin S1 _ _ a3 (taken (fun x hx hx2 l2 hl2 => Int32.lt_of_le_of_lt (c5 x hx hx2 l2 hl2).1 d))
        · rw [if_neg d]
          refine fin S1 _ _ a3 (Or.inr ⟨v0, by omega, c2, c3, c4, fun x hx hx2 l2 hl2 => ?_⟩)
          by_cases y : x = v
          · subst y
            have : l2 = l := zLst_one hl2 b2
            exact ⟨by rw [this]; exact Int32.not_lt.mp d, fun _ => by omega⟩
          · exact c5 x (by omega) hx2 l2 hl2
    · refine (show ∃ (S2 : zSt) (b1 w1 : Int32), fX12_order_b123 zN (fX12_order_b97 zN fu) zN v1 v2 v3 (Int32.ofNat n) e (Int32.ofNat (9 ^ n)) b w (Int32.ofNat v) 0 (Int32.ofNat (9 ^ n / 9)) 1 0 0 S = some (if v3 = 0 then b1 else w1, S2) ∧ zRI E nc n (Int32.ofNat f) p e g (9 ^ n) b1 w1 ∧ zKeep [] [34] S S2 from ?_)
      rw [show fX12_order_b123 zN (fX12_order_b97 zN fu) zN v1 v2 v3 (Int32.ofNat n) e (Int32.ofNat (9 ^ n)) b w (Int32.ofNat v) 0 (Int32.ofNat (9 ^ n / 9)) 1 0 0 S = _ from a2, zo_s]
      refine fin S1 b w a3 ?_
      rcases hI with ⟨c1, c2⟩ | ⟨v0, c1, c2, c3, c4, c5⟩
      · refine Or.inl ⟨fun x hx => ?_, c2⟩
        by_cases y : x = v
        · rw [y]; exact a1
        · exact c1 x (by omega)
      · refine Or.inr ⟨v0, by omega, c2, c3, c4, fun x hx hx2 l2 hl2 => ?_⟩
        by_cases y : x = v
        · rw [y] at hx2; exact absurd hx2 a1
        · exact c5 x (by omega) hx2 l2 hl2
theorem r_copy {n : Nat} (hn5 : n ≤ 5) {g : Nat → Nat} (v1 v2 v3 e : Int32) : ∀ (c fu k : Nat) (S : zSt), k + c = n → c < fu → (∀ j, j < n → S.2.1 34 j = Int32.ofNat (g j)) → (∀ j, j < k → S.2.1 36 j = Int32.ofNat (g j)) →
    ∃ S1 : zSt, fX12_order_b54 zN fu v1 v2 v3 (Int32.ofNat n) e (Int32.ofNat (9 ^ k)) (Int32.ofNat k) S = fX12_order_b97 zN zN v1 v2 v3 (Int32.ofNat n) e (Int32.ofNat (9 ^ n)) 0 0 0 S1 ∧ zKeep [] [36] S S1 ∧ ∀ j, j < n → S1.2.1 36 j = Int32.ofNat (g j) := by
  intro c
  induction c with
  | zero =>
    intro fu k S h1 h2 h3 h4
    obtain _ | fu := fu
    · exact absurd h2 (by omega)
    have : k = n := by omega
    subst this
    rw [fX12_order_b54, zi_le (by omega) (by omega), if_pos (Nat.le_refl _)]
    exact ⟨S, rfl, zK_refl _, h4⟩
  | succ c ih =>
    intro fu k S h1 h2 h3 h4
    obtain _ | fu := fu
    · exact absurd h2 (by omega)
    have z5 : zin (Int32.ofNat k) 5 := zin_o (by omega) (by decide)
    have e9 : Int32.ofNat (9 ^ k) * 9 = Int32.ofNat (9 ^ (k + 1)) := by
      rw [Nat.pow_succ]
      exact zo_mul (9 ^ k) 9
    rw [fX12_order_b54, zi_le (by omega) (by omega), if_neg (by omega), if_pos z5, if_pos z5, zL_def, zo_t (by omega), h3 k (by omega), e9, zo_s]
    have K0 := zK_A S 36 k (Int32.ofNat (g k))
    obtain ⟨S1, a1, a2, a3⟩ := ih fu (k + 1) (zA S 36 k (Int32.ofNat (g k))) (by omega) (by omega) (fun j hj => by rw [zA_oth _ _ _ _ (by decide)]; exact h3 j hj) (fun j hj => by
      rw [zA_get]
      by_cases q : j = k
      · rw [if_pos q, q]
      · rw [if_neg q]; exact h4 j (by omega))
    exact ⟨S1, a1, zK_t K0 a2, a3⟩
theorem q_order {SX SR : zSt} (hRel : zRel SX SR) (p1 p2 p3 : Int32) : zEq (fX11_order zN p1 p2 p3 SX) (fX12_order zN p1 p2 p3 SR) := by
  unfold fX11_order fX12_order
  refine e_pre hRel p1 p2 _ _ _ (fun E np m nc n g f p hr SX1 SR1 hH hR hX hV f4 hp hh e1 e2 ef => ?_)
  have m8 := hH.1.2.1
  have n1 := hH.2.1
  have n5 := hH.2.2.1
  rw [e_isWithin, e_in, zU_some, zU_some]
  by_cases w : 0 ≤ p3 ∧ p3 ≤ 1
  · obtain ⟨v, SX2, SR2, g1, g2, -, hR2, hX2, hV2, -, kR⟩ := e_riseG hR hX hV (p1 - p1 / 100 * 100)
    have KS := zK_set SX2 (-2) (-2000000000)
    have hX3 := zSX_K hX2 KS (by decide) (by simp)
    obtain ⟨s, SX4, a1, a2, a3, a4, a5⟩ := x_sort (n := n) (by omega) (fun j hj => Nat.lt_of_lt_of_le (hH.2.2.2.1 j hj) m8) (n - 1) zN 1 g (zI (zI SX2 303 (-2)) 304 (-2000000000)) (Nat.le_refl _) (by omega) (Nat.lt_of_le_of_lt (by omega : n - 1 ≤ 4) (by decide)) hX3.2.1 hX3.2.2.2 ⟨fun k hk => ⟨k, hk, rfl⟩, fun k hk => ⟨k, hk, rfl⟩, hH.2.2.2.2⟩ (fun a b hab hb => by omega)
    have hsm : ∀ a, a < n → s a < m := fun a ha => by
      obtain ⟨i, hi, q⟩ := a4.1 a ha
      rw [q]; exact hH.2.2.2.1 i hi
    obtain ⟨t1, t2, t3, t4⟩ := zTab n1 n5
    cases hz : zPerms n with
    | nil => rw [hz] at t4; exact absurd t4 (by simp)
    | cons a r =>
      have ha : a = List.range n := by
        rw [hz] at t4
        exact Option.some.inj t4
      have hal : ∀ j, j < n → zFn a j = j := fun j hj => by
        rw [ha]
        unfold zFn
        simp [List.getD_eq_getElem?_getD, hj]
      rw [hz] at t1
      have t3 : r.length + 1 ≤ 120 := by
        rw [hz] at t3
        exact t3
      have k34 : zKeep [] [701] (zI (zI SX2 303 (-2)) 304 (-2000000000)) SX4 := a2
      obtain ⟨SX5, b1, b2, b3⟩ := x_ord_loop hH.1 n1 n5 a5 hsm (f := Int32.ofNat f) hp v r a zN 0 SX4 (fun _ => False) t1 (by omega) (by decide) (zXV_K hX3.1 k34 (by simp) (by decide)) ((k34.1 705 (by simp)).trans hX3.2.1) ((k34.1 706 (by simp)).trans hX3.2.2.1) (fun j hj => by rw [a3 j hj, hal j hj]) (Or.inl ⟨fun _ x => x, zBI_K (zBI_set _ _ _) k34 (by simp) (by simp)⟩) (fun _ x => x.elim)
      obtain ⟨SR3, c1, c2, c3⟩ := r_copy n5 p1 p2 p3 v n zN 0 SR2 (by omega) (Nat.lt_of_le_of_lt n5 (by decide)) hV2.2.1.2 (fun j hj => absurd hj (by omega))
      have h95 : 9 ^ n ≤ 59049 := by
        have : n = 1 ∨ n = 2 ∨ n = 3 ∨ n = 4 ∨ n = 5 := by omega
        rcases this with rfl | rfl | rfl | rfl | rfl <;> decide
      obtain ⟨SR4, rb, rw1, d1, d2, d3⟩ := r_ord hH f4 hp e1 ef p3 v (9 ^ n) zN 0 0 0 SR3 (by omega) (Nat.lt_of_le_of_lt h95 (by decide)) (zRV_K hV2.1 c2 (by simp) (by decide)) ((c2.1 33 (by simp)).trans hV2.2.1.1) (fun i hi => by rw [c2.2.1 35 (by decide)]; exact hV2.2.2 i hi) c3 (Or.inl ⟨fun x hx => absurd hx (by omega), rfl⟩)
      have hRf : zRel SX5 SR4 := zRel_T hR2 (zTX_t (zTX_of KS (by simp) (by simp)) (zTX_t (zTX_of k34 (by simp) (by simp)) b3)) (zTR_t (zTR_of c2 (by simp) (by simp)) (zTR_of d3 (by simp) (by simp)))
      have e33 : SR1.1 33 = Int32.ofNat n := hV.2.1.1
      have ans : SX5.1 303 = rb ∧ SX5.1 304 = rw1 := by
        rcases b2 with ⟨x, -⟩ | ⟨b, w0, x1, x2, x3, x4⟩
        · exact absurd (Or.inr (List.mem_cons_self)) (x a)
        · have hbm : b ∈ zPerms n := by
            rcases x1 with x1 | x1
            · exact x1.elim
            · rw [hz]; exact x1
          have hbO : zCkO n b = true := by
            have all : ∀ (l : List (List Nat)), zCkC n l = true → ∀ b, b ∈ l → zCkO n b = true := by
              intro l
              induction l with
              | nil => intro _ b hb; exact absurd hb (by simp)
              | cons a r ih =>
                intro hc b hb
                cases r with
                | nil =>
                  have y : ((zNxL n a).isNone && zCkO n a) = true := hc
                  rw [Bool.and_eq_true] at y
                  rw [List.mem_singleton.mp hb]
                  exact y.2
                | cons d r =>
                  have y : (zNxL n a == some d && zLxB n a d && zCkO n a && zCkC n (d :: r)) = true := hc
                  rw [Bool.and_eq_true, Bool.and_eq_true] at y
                  rcases List.mem_cons.mp hb with q | q
                  · rw [q]; exact y.1.2
                  · exact ih y.2 b q
            exact all _ (zTab n1 n5).1 b hbm
          obtain ⟨-, hb1, hb2⟩ := zCkO_of hbO
          have h9 : ∀ j, j < n → s (zFn b j) < 9 := fun j hj => by have := hsm _ (hb1 j hj); omega
          have hzv := zVl_b n h9
          have hzd := zD_zVl n h9
          have hvd : zVd n g (zVl (fun j => s (zFn b j)) n) := ⟨fun j hj => by
            rw [hzd j hj]
            exact a4.1 _ (hb1 j hj), fun i j hi hj q => by
            rw [hzd i hi, hzd j hj] at q
            have y1 := (zs_le a5 (hb1 i hi) (hb1 j hj)).mp (Nat.le_of_eq q)
            have y2 := (zs_le a5 (hb1 j hj) (hb1 i hi)).mp (Nat.le_of_eq q.symm)
            exact hb2 i j hi hj (by omega)⟩
          rcases d2 with ⟨y, -⟩ | ⟨v0, y1, y2, y3, y4, y5⟩
          · exact absurd hvd (y _ hzv)
          · obtain ⟨m1, m2⟩ := y5 _ hzv hvd w0 (zLs_congr (fun j hj => (hzd j hj).symm) x3)
            have hex : ∀ j, j < n → ∃ k, k < n ∧ zD n v0 j = s k := fun j hj => by
              obtain ⟨i, hi, q⟩ := y2.1 j hj
              obtain ⟨k, hk, q2⟩ := a4.2.1 i hi
              exact ⟨k, hk, q.trans q2⟩
            have hsg : ∃ sg : Nat → Nat, ∀ j, j < n → sg j < n ∧ zD n v0 j = s (sg j) :=
              ⟨fun j => if h : j < n then Classical.choose (hex j h) else 0, fun j hj => by
                simp only [dif_pos hj]
                exact Classical.choose_spec (hex j hj)⟩
            obtain ⟨sg, hsg⟩ := hsg
            have cm := zPerm_mem n1 n5 (f := sg) (fun j hj => (hsg j hj).1) (fun i j hi hj q => y2.2 i j hi hj (by rw [(hsg i hi).2, (hsg j hj).2, q]))
            have cc : ∀ j, j < n → zD n v0 j = s (zFn ((List.range n).map sg) j) := fun j hj => by
              rw [zFn_map sg hj]; exact (hsg j hj).2
            obtain ⟨m3, m4⟩ := x4 ((List.range n).map sg) rw1 (Or.inr (by rw [← hz]; exact cm)) (zLs_congr cc y4)
            have ew : w0 = rw1 := Int32.le_antisymm m1 m3
            have l1 := m2 ew
            have l2 := m4 ew.symm
            rw [← zVl_congr n cc, zVl_zD n v0 y1] at l2
            have ev : v0 = zVl (fun j => s (zFn b j)) n := by omega
            refine ⟨x2.1.trans ?_, x2.2.trans ew⟩
            rw [y3]
            exact congrArg Int32.ofNat (zDg_congr (h := fun j => s (zFn b j)) (h2 := zD n v0) n (fun j hj => by rw [ev]; exact (hzd j hj).symm))
      unfold fX2_seekOrder fX6_putInOrder
      rw [if_pos w, if_neg zn10, if_neg zn10, g1, g2, zB_some, zB_some, e1, zL_def, zL_def, e33]
      rw [show fX6_putInOrder_b2 zN zN 1 (zI (zI SX2 303 (-2)) 304 (-2000000000)) = _ from a1, zU_some, show fX2_seekOrder_b24 zN zN (Int32.ofNat p) v 1 0 SX4 = _ from b1, zU_some, show fX12_order_b54 zN zN p1 p2 p3 (Int32.ofNat n) v 1 0 SR2 = _ from c1.trans d1]
      by_cases q : p3 = 0
      · rw [if_pos q, if_pos q]
        exact zEq_i ans.1 hRf
      · rw [if_neg q, if_neg q]
        exact zEq_i ans.2 hRf
  · rw [if_neg w, if_pos zn00, if_pos zn00]
    exact zEq_i rfl hR
