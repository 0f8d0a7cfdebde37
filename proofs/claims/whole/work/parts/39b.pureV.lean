-- roped: the reference's
theorem zb_same {a : Int32} {k : Nat} (hk : k < 32) (h : zb a k = true) : a ||| (1 <<< (Int32.ofNat k &&& 31)) = a := zb_ext (fun j hj => by
  rw [zb_or a hj hk]
  by_cases e : j = k
  · rw [e, h]; rfl
  · simp [e])
theorem zk_m1p2 (x : Int32) : x - 1 + 2 = x + 1 := by grind
theorem r_rope_o {E : zE} {np m : Nat} {nc : Nat → Nat} {n : Nat} {g : Nat → Nat} (hH : zH E np m nc n g) {U : Nat → Int32} {S : zSt} (hS : zSR E np m nc n g U S) {f : Nat} (hf : f < 4) {v2 : Int32} (e2 : v2 - v2 / 10 * 10 = Int32.ofNat f)
    (K109 : Int32 → Int32 → Int32 → Int32 → Int32 → Int32 → Int32 → Int32 → zSt → Option (Int32 × zSt)) (K121 : Int32 → Int32 → Int32 → Int32 → Int32 → Int32 → Int32 → Int32 → Int32 → zSt → Option (Int32 × zSt)) (v4 v5 e d s t a v13 : Int32) {k o : Nat} (hk : k < n) (ho : o ≤ k + 1) (fu : Nat) :
    fX12_roped_b153 zN K109 K121 (fu + 1) v2 v4 v5 e d s t a (Int32.ofNat k) v13 (Int32.ofNat o) S = fX12_roped_b153 zN K109 K121 fu v2 v4 v5 e d s t a (Int32.ofNat k) (v13 + zPl (fun o => zPush E (g o) d s (zLee (Int32.ofNat f) o)) n t o) (Int32.ofNat o + 2) S := by
  have n5 := hH.2.2.1
  have n1 := hH.2.1
  have hlt : ¬ Int32.ofNat k + 1 < Int32.ofNat o := by
    rw [zo_s, zo_lt (by omega) (by omega)]
    omega
  rw [fX12_roped_b153, if_neg hlt, e_in, zU_some, hS.2.1.1, zo_p n1]
  unfold zPl
  by_cases c : o < n
  · have q : 0 ≤ Int32.ofNat o ∧ Int32.ofNat o ≤ Int32.ofNat (n - 1) := ⟨zo_0 (by omega), by rw [zo_le (by omega) (by omega)]; omega⟩
    rw [if_pos q, if_neg zn10, zi_of (zb_iff t (by omega : o < 32))]
    by_cases w : zb t o = true
    · have z5 : zin (Int32.ofNat o) 5 := zin_o (by omega) (by decide)
      rw [if_pos w, if_pos z5, e2, r_lee (zn4 hf) (by omega), zU_some, zo_t (by omega), hS.2.1.2 o c, r_push hH.1 hS.1 (hH.2.2.2.1 o c), zB_some, if_pos ⟨c, w⟩]
    · rw [if_neg w, if_neg (fun x => w x.2), Int32.add_zero]
  · have q : ¬ (0 ≤ Int32.ofNat o ∧ Int32.ofNat o ≤ Int32.ofNat (n - 1)) := fun x => by
      have y := x.2
      rw [zo_le (by omega) (by omega)] at y
      omega
    rw [if_neg q, if_pos zn00, if_neg (fun x => c x.1), Int32.add_zero]
theorem r_rope_k {E : zE} {np m : Nat} {nc : Nat → Nat} {n : Nat} {g : Nat → Nat} (hH : zH E np m nc n g) {U : Nat → Int32} {S : zSt} (hS : zSR E np m nc n g U S) {f : Nat} (hf : f < 4) {v2 : Int32} (e2 : v2 - v2 / 10 * 10 = Int32.ofNat f)
    (K109 : Int32 → Int32 → Int32 → Int32 → Int32 → Int32 → Int32 → Int32 → zSt → Option (Int32 × zSt)) (K121 : Int32 → Int32 → Int32 → Int32 → Int32 → Int32 → Int32 → Int32 → Int32 → zSt → Option (Int32 × zSt)) {p i : Nat} (hp : p < np) (hi : i < 12) (e d s t a : Int32) {k : Nat} (hk : k < n) (fu : Nat) :
    fX12_roped_b153 zN K109 K121 (fu + 3) v2 (Int32.ofNat p) (Int32.ofNat i) e d s t a (Int32.ofNat k) 0 (Int32.ofNat k - 1) S = K121 v2 (Int32.ofNat p) (Int32.ofNat i) e d s t (if zLo (fun o => zPush E (g o) d s (zLee (Int32.ofNat f) o)) n t k + zPl (fun o => zPush E (g o) d s (zLee (Int32.ofNat f) o)) n t (k + 1) ≤ zMar E n g (Int32.ofNat f) p i e (U i) k then a else a ||| (1 <<< (Int32.ofNat k &&& 31))) (Int32.ofNat (k + 1)) S := by
  have n5 := hH.2.2.1
  have n1 := hH.2.1
  have first : fX12_roped_b153 zN K109 K121 (fu + 3) v2 (Int32.ofNat p) (Int32.ofNat i) e d s t a (Int32.ofNat k) 0 (Int32.ofNat k - 1) S = fX12_roped_b153 zN K109 K121 (fu + 2) v2 (Int32.ofNat p) (Int32.ofNat i) e d s t a (Int32.ofNat k) (zLo (fun o => zPush E (g o) d s (zLee (Int32.ofNat f) o)) n t k) (Int32.ofNat (k + 1)) S := by
    unfold zLo
    by_cases c : k = 0
    · subst c
      have q : ¬ ((0 : Int32) ≤ Int32.ofNat 0 - 1 ∧ Int32.ofNat 0 - 1 ≤ S.1 33 - 1) := fun x => absurd x.1 (by decide)
      rw [fX12_roped_b153, if_neg (show ¬ Int32.ofNat 0 + 1 < Int32.ofNat 0 - 1 by decide), e_in, zU_some, if_neg q, if_pos zn00, if_pos rfl, zk_m1p2, zo_s]
    · rw [zo_p (by omega), r_rope_o hH hS hf e2 K109 K121 _ _ e d s t a 0 hk (by omega) (fu + 2), Int32.zero_add, if_neg c, ← zo_p (by omega), zk_m1p2, zo_s]
  have last : ¬ zin 0 0 := by decide
  rw [first, r_rope_o hH hS hf e2 K109 K121 _ _ e d s t a _ hk (by omega) (fu + 1), fX12_roped_b153, if_pos (show Int32.ofNat k + 1 < Int32.ofNat (k + 1) + 2 by
    show Int32.ofNat k + Int32.ofNat 1 < Int32.ofNat (k + 1) + Int32.ofNat 2
    rw [zo_add, zo_add, zo_lt (by omega) (by omega)]
    omega), e2, r_mar hH hS (zn4 hf) hp hi e hk, zB_some, zo_s]
  by_cases c : zLo (fun o => zPush E (g o) d s (zLee (Int32.ofNat f) o)) n t k + zPl (fun o => zPush E (g o) d s (zLee (Int32.ofNat f) o)) n t (k + 1) ≤ zMar E n g (Int32.ofNat f) p i e (U i) k
  · rw [if_pos c, if_pos c]
  · rw [if_neg c, if_neg c]
theorem r_rope_in {E : zE} {np m : Nat} {nc : Nat → Nat} {n : Nat} {g : Nat → Nat} (hH : zH E np m nc n g) {U : Nat → Int32} {S : zSt} (hS : zSR E np m nc n g U S) {f : Nat} (hf : f < 4) {v2 : Int32} (e2 : v2 - v2 / 10 * 10 = Int32.ofNat f)
    (K109 : Int32 → Int32 → Int32 → Int32 → Int32 → Int32 → Int32 → Int32 → zSt → Option (Int32 × zSt)) {p i : Nat} (hp : p < np) (hi : i < 12) (e d s t : Int32) : ∀ (fu k c : Nat) (a : Int32), k + c = n → 5 < k + fu → (∀ j, j < 32 → zb t j = true → zb a j = true) →
    fX12_roped_b121 zN K109 fu v2 (Int32.ofNat p) (Int32.ofNat i) e d s t a (Int32.ofNat k) S = if zStp (zMar E n g (Int32.ofNat f) p i e (U i)) (fun o => zPush E (g o) d s (zLee (Int32.ofNat f) o)) n t c k a = t then K109 v2 (Int32.ofNat p) (Int32.ofNat i) e d s (zStp (zMar E n g (Int32.ofNat f) p i e (U i)) (fun o => zPush E (g o) d s (zLee (Int32.ofNat f) o)) n t c k a) 0 S else K109 v2 (Int32.ofNat p) (Int32.ofNat i) e d s (zStp (zMar E n g (Int32.ofNat f) p i e (U i)) (fun o => zPush E (g o) d s (zLee (Int32.ofNat f) o)) n t c k a) 1 S := by
  have n5 := hH.2.2.1
  intro fu
  induction fu with
  | zero => intro k c a h1 h2; exact absurd h2 (by omega)
  | succ fu ih =>
    intro k c a h1 h2 h3
    rw [fX12_roped_b121, hS.2.1.1, zi_le (by omega) (by omega)]
    cases c with
    | zero => rw [if_pos (by omega)]; rfl
    | succ c =>
      rw [if_neg (by omega), zi_of (zb_iff t (by omega : k < 32)), zStp]
      by_cases w : zb t k = true
      · have : (if zLo (fun o => zPush E (g o) d s (zLee (Int32.ofNat f) o)) n t k + zPl (fun o => zPush E (g o) d s (zLee (Int32.ofNat f) o)) n t (k + 1) ≤ zMar E n g (Int32.ofNat f) p i e (U i) k then a else a ||| (1 <<< (Int32.ofNat k &&& 31))) = a := by
          rw [zb_same (by omega) (h3 k (by omega) w)]
          split <;> rfl
        rw [if_pos w, this, zo_s]
        exact ih (k + 1) c a (by omega) (by omega) h3
      · rw [if_neg w, show fX12_roped_b153 zN K109 (fX12_roped_b121 zN K109 fu) zN v2 (Int32.ofNat p) (Int32.ofNat i) e d s t a (Int32.ofNat k) 0 (Int32.ofNat k - 1) S = _ from r_rope_k hH hS hf e2 K109 (fX12_roped_b121 zN K109 fu) hp hi e d s t a (by omega) 999997]
        refine ih (k + 1) c _ (by omega) (by omega) (fun j hj x => ?_)
        split
        · exact h3 j hj x
        · rw [zb_or a hj (by omega), h3 j hj x]; rfl
theorem r_rope {E : zE} {np m : Nat} {nc : Nat → Nat} {n : Nat} {g : Nat → Nat} (hH : zH E np m nc n g) {U : Nat → Int32} {S : zSt} (hS : zSR E np m nc n g U S) {f : Nat} (hf : f < 4) {v2 : Int32} (e2 : v2 - v2 / 10 * 10 = Int32.ofNat f) {p i : Nat} (hp : p < np) (hi : i < 12) (e d s : Int32) : ∀ (c fu : Nat) (t : Int32), zcn t n ≤ c → c + 1 < fu →
    fX12_roped_b109 zN fu v2 (Int32.ofNat p) (Int32.ofNat i) e d s t 1 S = some (zIt (zMar E n g (Int32.ofNat f) p i e (U i)) (fun o => zPush E (g o) d s (zLee (Int32.ofNat f) o)) n c t, S) := by
  have n5 := hH.2.2.1
  intro c
  induction c with
  | zero =>
    intro fu t h1 h2
    obtain _ | fu := fu
    · exact absurd h2 (by omega)
    have ll := r_rope_in hH hS hf e2 (fX12_roped_b109 zN fu) hp hi e d s t zN 0 n t (by omega) (by decide) (fun j _ x => x)
    have hb := zStp_b (zMar E n g (Int32.ofNat f) p i e (U i)) (fun o => zPush E (g o) d s (zLee (Int32.ofNat f) o)) n t n 0 t (by omega)
    have hfix : zStp (zMar E n g (Int32.ofNat f) p i e (U i)) (fun o => zPush E (g o) d s (zLee (Int32.ofNat f) o)) n t n 0 t = t := by
      by_cases q : ∃ j, j < n ∧ zb (zStp (zMar E n g (Int32.ofNat f) p i e (U i)) (fun o => zPush E (g o) d s (zLee (Int32.ofNat f) o)) n t n 0 t) j = true ∧ ¬ zb t j = true
      · have := (zcn_mono n (fun j hj x => (hb j (by omega)).mpr (Or.inl x))).2 q
        omega
      · refine zb_ext (fun j hj => ?_)
        have hj2 := hb j hj
        by_cases x : zb t j = true
        · rw [x]; exact hj2.mpr (Or.inl x)
        · have : ¬ zb (zStp (zMar E n g (Int32.ofNat f) p i e (U i)) (fun o => zPush E (g o) d s (zLee (Int32.ofNat f) o)) n t n 0 t) j = true := fun y => by
            by_cases z : j < n
            · exact q ⟨j, z, y, x⟩
            · rcases hj2.mp y with w | w
              · exact x w
              · omega
          rw [Bool.not_eq_true] at x this
          rw [x, this]
    obtain _ | fu := fu
    · exact absurd h2 (by omega)
    rw [fX12_roped_b109, if_neg zn10]
    refine (show fX12_roped_b121 zN (fX12_roped_b109 zN (fu + 1)) zN v2 (Int32.ofNat p) (Int32.ofNat i) e d s t t 0 S = _ from ll).trans ?_
    rw [if_pos hfix, fX12_roped_b109, if_pos zn00, hfix]
    rfl
  | succ c ih =>
    intro fu t h1 h2
    obtain _ | fu := fu
    · exact absurd h2 (by omega)
    have ll := r_rope_in hH hS hf e2 (fX12_roped_b109 zN fu) hp hi e d s t zN 0 n t (by omega) (by decide) (fun j _ x => x)
    have hb := zStp_b (zMar E n g (Int32.ofNat f) p i e (U i)) (fun o => zPush E (g o) d s (zLee (Int32.ofNat f) o)) n t n 0 t (by omega)
    rw [fX12_roped_b109, if_neg zn10]
    refine (show fX12_roped_b121 zN (fX12_roped_b109 zN fu) zN v2 (Int32.ofNat p) (Int32.ofNat i) e d s t t 0 S = _ from ll).trans ?_
    by_cases hfix : zStp (zMar E n g (Int32.ofNat f) p i e (U i)) (fun o => zPush E (g o) d s (zLee (Int32.ofNat f) o)) n t n 0 t = t
    · obtain _ | fu := fu
      · exact absurd h2 (by omega)
      rw [if_pos hfix, fX12_roped_b109, if_pos zn00, hfix, zIt_fix _ _ _ hfix]
    · rw [if_neg hfix, zIt]
      refine ih fu _ ?_ (by omega)
      have hm := zcn_mono (s := t) (t := zStp (zMar E n g (Int32.ofNat f) p i e (U i)) (fun o => zPush E (g o) d s (zLee (Int32.ofNat f) o)) n t n 0 t) n (fun j hj x => (hb j (by omega)).mpr (Or.inl x))
      have : ∃ j, j < n ∧ zb (zStp (zMar E n g (Int32.ofNat f) p i e (U i)) (fun o => zPush E (g o) d s (zLee (Int32.ofNat f) o)) n t n 0 t) j = true ∧ ¬ zb t j = true := by
        refine Classical.byContradiction (fun q => hfix (zb_ext (fun j hj => ?_)))
        have hj2 := hb j hj
        by_cases x : zb t j = true
        · rw [x]; exact hj2.mpr (Or.inl x)
        · have : ¬ zb (zStp (zMar E n g (Int32.ofNat f) p i e (U i)) (fun o => zPush E (g o) d s (zLee (Int32.ofNat f) o)) n t n 0 t) j = true := fun y => by
            by_cases z : j < n
            · exact q ⟨j, z, y, x⟩
            · rcases hj2.mp y with w | w
              · exact x w
              · omega
          rw [Bool.not_eq_true] at x this
          rw [x, this]
      have := hm.2 this
      omega
theorem q_roped {SX SR : zSt} (hRel : zRel SX SR) (p1 p2 p3 : Int32) : zEq (fX11_roped zN p1 p2 p3 SX) (fX12_roped zN p1 p2 p3 SR) := by
  unfold fX11_roped fX12_roped
  refine e_pre hRel p1 p2 _ _ _ (fun E np m nc n g f p hr SX1 SR1 hH hR hX hV f4 hp hh e1 e2 ef => ?_)
  have n6 := hH.1.1
  have n5 := hH.2.2.1
  have n1 := hH.2.1
  have n12 := (hH.1.2.2.1 p hp).2.1
  rw [e2, e1]
  refine e_rank hR hH hX hV hp p3 _ _ _ (fun k i hk hi ek ei => ?_)
  obtain ⟨v, SX2, SR2, g1, g2, b, hR2, hX2, hV2, -, -⟩ := e_riseG hR hX hV (Int32.ofNat hr)
  obtain ⟨SX3, a1, k1, r1⟩ := x_enter hH.1 (by omega) hH.2.2.2.1 (fun _ => n5) (fun _ => n1) hX2.1 hX2.2 hp hi v 0
  have hR3 := zRel_X hR2 k1 (by simp) (by simp)
  have h5 : SX3.1 705 = Int32.ofNat n := (k1.1 705 (by simp)).trans hX2.2.1
  have xx := x_rope (M := zMar E n g (Int32.ofNat f) p i v 0) (Q := fun o => zPush E (g o) (zDep E p i v) (zPac E p i v) (zLee (Int32.ofNat f) o)) n5 h5 (fun j hj => by
    have := (r1 j hj).2.1
    rw [Int32.add_zero] at this
    exact this) (fun j hj => (r1 j hj).2.2) zN 0 n (1 <<< (Int32.ofNat k &&& 31)) (by omega) (by decide)
  have rr := r_rope hH hV2 f4 ef hp (by omega : i < 12) v (zDep E p i v) (zPac E p i v) n zN (1 <<< (Int32.ofNat k &&& 31)) (zcn_le _ n) (Nat.lt_of_le_of_lt (by omega : n + 1 ≤ 6) (by decide))
  unfold fX6_pulledInBy
  rw [g1, g2, zB_some, zB_some, ei, ek, a1, zU_some, r_depth hH.1 hV2.1 hp (by omega), zB_some, r_pace hH.1 hV2.1 hp (by omega), zB_some, rr]
  rw [show fX6_pulledInBy_b6 zN zN (1 <<< (Int32.ofNat k &&& 31)) 0 SX3 = _ from xx]
  exact zEq_i rfl hR3
