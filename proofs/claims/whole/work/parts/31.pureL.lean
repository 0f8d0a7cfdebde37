-- numbers as Nat; the rise
theorem zn10 : ¬ (1 : Int32) = 0 := by decide
theorem zn00 : (0 : Int32) = 0 := rfl
theorem zo_t {n : Nat} (h : n < 2147483648) : Int32.toNatClampNeg (Int32.ofNat n) = n := Int32.toNatClampNeg_ofNat_of_lt h
theorem zo_i {n : Nat} (h : n < 2147483648) : (Int32.ofNat n).toInt = (n : Int) := Int32.toInt_ofNat_of_lt h
theorem zo_le {a b : Nat} (ha : a < 2147483648) (hb : b < 2147483648) : (Int32.ofNat a ≤ Int32.ofNat b) = (a ≤ b) := propext (Int32.ofNat_le_iff_le ha hb)
theorem zo_lt {a b : Nat} (ha : a < 2147483648) (hb : b < 2147483648) : (Int32.ofNat a < Int32.ofNat b) = (a < b) := propext (Int32.ofNat_lt_iff_lt ha hb)
theorem zo_eq {a b : Nat} (ha : a < 2147483648) (hb : b < 2147483648) : (Int32.ofNat a = Int32.ofNat b) = (a = b) := propext ⟨fun h => by
  have := congrArg Int32.toNatClampNeg h
  rwa [zo_t ha, zo_t hb] at this, fun h => by rw [h]⟩
theorem zo_s (n : Nat) : Int32.ofNat n + 1 = Int32.ofNat (n + 1) := (Int32.ofNat_add n 1).symm
theorem zo_p {n : Nat} (h : 1 ≤ n) : Int32.ofNat n - 1 = Int32.ofNat (n - 1) := (Int32.ofNat_sub n 1 h).symm
theorem zo_add (a b : Nat) : Int32.ofNat a + Int32.ofNat b = Int32.ofNat (a + b) := (Int32.ofNat_add a b).symm
theorem zo_mul (a b : Nat) : Int32.ofNat a * Int32.ofNat b = Int32.ofNat (a * b) := (Int32.ofNat_mul a b).symm
theorem zo_sub {a b : Nat} (h : b ≤ a) : Int32.ofNat a - Int32.ofNat b = Int32.ofNat (a - b) := (Int32.ofNat_sub a b h).symm
theorem zo_m {n : Nat} (h : 1 ≤ n) : Int32.ofNat n + (-1) = Int32.ofNat (n - 1) := by
  rw [← zo_p h, Int32.sub_eq_add_neg]
theorem zo_div {a b : Nat} (ha : a < 2147483648) (hb : b < 2147483648) : Int32.ofNat a / Int32.ofNat b = Int32.ofNat (a / b) := (Int32.ofNat_div ha hb).symm
theorem zo_mod {a b : Nat} (ha : a < 2147483648) (hb : b < 2147483648) : Int32.ofNat a - Int32.ofNat a / Int32.ofNat b * Int32.ofNat b = Int32.ofNat (a % b) := by
  rw [zo_div ha hb, zo_mul, zo_sub (Nat.div_mul_le_self a b)]
  congr 1
  have := Nat.div_add_mod a b
  rw [Nat.mul_comm] at this
  omega
theorem zo_0 {n : Nat} (h : n < 2147483648) : (0 : Int32) ≤ Int32.ofNat n := Int32.zero_le_ofNat_of_lt h
theorem zo_ex {x : Int32} (h : 0 ≤ x) : ∃ n : Nat, n < 2147483648 ∧ x = Int32.ofNat n :=
  ⟨Int32.toNatClampNeg x, Int32.toNatClampNeg_lt x, (Int32.ofNat_toNatClampNeg x h).symm⟩
theorem zo_exlt {x : Int32} {k : Nat} (h : 0 ≤ x) (hk : k < 2147483648) (h2 : x < Int32.ofNat k) : ∃ n : Nat, n < k ∧ x = Int32.ofNat n := by
  obtain ⟨n, n1, rfl⟩ := zo_ex h
  exact ⟨n, by rwa [zo_lt n1 hk] at h2, rfl⟩
theorem zo_exle {x : Int32} {k : Nat} (h : 0 ≤ x) (hk : k < 2147483648) (h2 : x ≤ Int32.ofNat k) : ∃ n : Nat, n ≤ k ∧ x = Int32.ofNat n := by
  obtain ⟨n, n1, rfl⟩ := zo_ex h
  exact ⟨n, by rwa [zo_le n1 hk] at h2, rfl⟩
theorem zin_o {n k : Nat} (h : n < k) (hk : k < 2147483648) : zin (Int32.ofNat n) k :=
  zin_of (k := Int32.ofNat k) rfl hk (zo_0 (by omega)) (by rw [zo_lt (by omega) hk]; exact h)
theorem zi_of {α : Type} {c d : Prop} [Decidable c] [Decidable d] (h : c = d) (x y : α) : (if c then x else y) = if d then x else y := by
  subst h
  by_cases q : c
  · rw [if_pos q, if_pos q]
  · rw [if_neg q, if_neg q]
theorem zi_le {α : Type} {a b : Nat} [Decidable (Int32.ofNat a ≤ Int32.ofNat b)] (ha : a < 2147483648) (hb : b < 2147483648) (x y : α) : (if Int32.ofNat a ≤ Int32.ofNat b then x else y) = if a ≤ b then x else y := zi_of (zo_le ha hb) x y
-- what is kept
theorem zK_refl {I A : List Nat} (a : zSt) : zKeep I A a a := ⟨fun _ _ => rfl, fun _ _ => rfl, rfl⟩
theorem zK_trans {I A I2 A2 : List Nat} {a b c : zSt} (h : zKeep I A a b) (h2 : zKeep I2 A2 b c) : zKeep (I ++ I2) (A ++ A2) a c :=
  ⟨fun k hk => by rw [h2.1 k (fun x => hk (List.mem_append_right _ x)), h.1 k (fun x => hk (List.mem_append_left _ x))],
   fun k hk => by rw [h2.2.1 k (fun x => hk (List.mem_append_right _ x)), h.2.1 k (fun x => hk (List.mem_append_left _ x))],
   h2.2.2.trans h.2.2⟩
theorem zK_mono {I A I2 A2 : List Nat} {a b : zSt} (h : zKeep I A a b) (hI : ∀ k ∈ I, k ∈ I2) (hA : ∀ k ∈ A, k ∈ A2) : zKeep I2 A2 a b :=
  ⟨fun k hk => h.1 k (fun x => hk (hI k x)), fun k hk => h.2.1 k (fun x => hk (hA k x)), h.2.2⟩
theorem zK_t {I A : List Nat} {a b c : zSt} (h : zKeep I A a b) (h2 : zKeep I A b c) : zKeep I A a c :=
  zK_mono (zK_trans h h2) (fun k hk => (List.mem_append.mp hk).elim id id) (fun k hk => (List.mem_append.mp hk).elim id id)
theorem zK_I (S : zSt) (k : Nat) (v : Int32) : zKeep [k] [] S (zI S k v) := ⟨fun j hj => zI_ne _ _ (by simpa using hj), fun _ _ => rfl, rfl⟩
theorem zK_A (S : zSt) (c k : Nat) (v : Int32) : zKeep [] [c] S (zA S c k v) := ⟨fun _ _ => rfl, fun d hd => zA_ne _ _ _ (by simpa using hd), rfl⟩
/-- what the calls that only ask leave as it is -/
def zTX (a b : zSt) : Prop := zKeep [303, 304, 504, 705, 706] [503, 701, 702, 703, 704] a b
def zTR (a b : zSt) : Prop := zKeep [33] [22, 23, 34, 36] a b
theorem zRel_T {SX SR SX1 SR1 : zSt} (hR : zRel SX SR) (h1 : zTX SX SX1) (h2 : zTR SR SR1) : zRel SX1 SR1 :=
  zRel_tmp hR h1 h2 (by decide) (by decide) (by decide) (by decide)
theorem zTX_of {I A : List Nat} {a b : zSt} (h : zKeep I A a b) (hI : ∀ k ∈ I, k ∈ [303, 304, 504, 705, 706]) (hA : ∀ k ∈ A, k ∈ [503, 701, 702, 703, 704]) : zTX a b := zK_mono h hI hA
theorem zTR_of {I A : List Nat} {a b : zSt} (h : zKeep I A a b) (hI : ∀ k ∈ I, k ∈ [33]) (hA : ∀ k ∈ A, k ∈ [22, 23, 34, 36]) : zTR a b := zK_mono h hI hA
