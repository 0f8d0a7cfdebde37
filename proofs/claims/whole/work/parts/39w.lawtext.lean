-- the lines of a law
def zCd (v : Int32) : Prop := v = 1 ∨ v = 2 ∨ v = 3 ∨ v = 4 ∨ zSgn v
theorem nar_cd {v : Int32} (h : zCd v) : vp_nar .byte v = v := by
  rcases h with rfl | rfl | rfl | rfl | h
  · decide
  · decide
  · decide
  · decide
  · rcases h with rfl | rfl | rfl | rfl | rfl | rfl | rfl | rfl | rfl | rfl <;> decide
theorem zAt_mv {cod act wi cod2 act2 wi2 : Nat → Int32} {N8 : Int32 → Int32} (h8 : ∀ v, zCd v → N8 v = v) {B B2 : Nat} : ∀ (os : List zOp) (d e x y : Nat), zDs os d e → (∀ i, x ≤ i → i < x + os.length → cod2 i = cod i) → (∀ j, y ≤ j → j < y + os.length → act2 (B2 + j) = N8 (act (B + j)) ∧ wi2 (B2 + j) = wi (B + j)) → zAt cod act wi os x (B + y) → zAt cod2 act2 wi2 os x (B2 + y) := by
  intro os
  induction os with
  | nil => intro d e x y _ _ _ _; trivial
  | cons o r ih =>
    intro d e x y hd h1 h2 h
    rw [List.length_cons] at h1 h2
    obtain ⟨a1, a2, a3, a4⟩ := h
    have step : ∀ d2, zDs r d2 e → zCd o.1 → zAt cod2 act2 wi2 (o :: r) x (B2 + y) := fun d2 hd2 hc => by
      refine ⟨by rw [h1 x (by omega) (by omega)]; exact a1, by rw [(h2 y (by omega) (by omega)).1, a2]; exact h8 _ hc, by rw [(h2 y (by omega) (by omega)).2]; exact a3, ?_⟩
      rw [Nat.add_assoc]
      exact ih d2 e (x + 1) (y + 1) hd2 (fun i i0 i1 => h1 i (by omega) (by omega)) (fun j j0 j1 => h2 j (by omega) (by omega)) (by rw [← Nat.add_assoc]; exact a4)
    rcases hd with ⟨hc, hd⟩ | ⟨hc, -, hd⟩ | ⟨hc, -, hd⟩
    · refine step _ hd ?_
      rcases hc with hc | hc
      · exact Or.inl hc.1
      · exact Or.inr (Or.inl hc.1)
    · refine step _ hd ?_
      rcases hc with hc | hc
      · exact Or.inr (Or.inr (Or.inl hc))
      · exact Or.inr (Or.inr (Or.inr (Or.inl hc)))
    · exact step _ hd (Or.inr (Or.inr (Or.inr (Or.inr hc))))
theorem zAt_nil_mv {cod2 act2 wi2 : Nat → Int32} {x y : Nat} : zAt cod2 act2 wi2 [] x y := trivial
theorem zLR_mv {cod act wi te le cod2 act2 wi2 te2 le2 : Nat → Int32} {N8 N16 : Int32 → Int32} (h8 : ∀ v, zCd v → N8 v = v) (h16 : ∀ n : Nat, n < 251 → N16 (Int32.ofNat n) = Int32.ofNat n) {B B2 K K2 : Nat} : ∀ (ls : List (List zOp × List zOp)) (x y k : Nat), y + zYt ls < 251 →
    (∀ i, x ≤ i → i < x + zXt ls → cod2 i = cod i) → (∀ j, y ≤ j → j < y + zYt ls → act2 (B2 + j) = N8 (act (B + j)) ∧ wi2 (B2 + j) = wi (B + j)) → (∀ j, k ≤ j → j < k + ls.length → te2 (K2 + j) = N16 (te (K + j)) ∧ le2 (K2 + j) = N16 (le (K + j))) →
    zLR cod act wi te le B K ls x y k → zLR cod2 act2 wi2 te2 le2 B2 K2 ls x y k := by
  intro ls
  induction ls with
  | nil => intro x y k _ _ _ _ _; trivial
  | cons l r ih =>
    intro x y k hy h1 h2 h3 h
    have eX : zXt (l :: r) = zXl l.1 + l.2.length + 1 + zXt r := rfl
    have eY : zYt (l :: r) = l.1.length + l.2.length + zYt r := rfl
    have ll : l.1.length ≤ zXl l.1 := by
      unfold zXl
      split
      · rename_i e; rw [e]; exact Nat.le_refl _
      · omega
    rw [eX] at h1
    rw [eY] at h2 hy
    rw [List.length_cons] at h3
    obtain ⟨g1, g2, g3, g4, g5, g6, g7, g8⟩ := h
    refine ⟨?_, g2, ?_, ?_, ?_, ?_, ?_, ?_⟩
    · rcases g1 with g1 | ⟨g1, g1b⟩
      · exact Or.inl g1
      · refine Or.inr ⟨g1, ?_⟩
        have : zXl l.1 = l.1.length + 1 := if_neg (zDs_ne g1)
        rw [h1 _ (by omega) (by omega)]
        exact g1b
    · rcases g1 with g1 | ⟨g1, g1b⟩
      · rw [g1]; trivial
      · exact zAt_mv h8 l.1 0 1 x y g1 (fun i i0 i1 => h1 i i0 (by omega)) (fun j j0 j1 => h2 j j0 (by omega)) g3
    · exact zAt_mv h8 l.2 0 1 _ _ g2 (fun i i0 i1 => h1 i (by omega) (by omega)) (fun j j0 j1 => h2 j (by omega) (by omega)) g4
    · rw [h1 _ (by omega) (by omega)]; exact g5
    · rw [(h3 k (by omega) (by omega)).1, g6]; exact h16 _ (by omega)
    · rw [(h3 k (by omega) (by omega)).2, g7]; exact h16 _ (by omega)
    · exact ih _ _ _ (by omega) (fun i i0 i1 => h1 i (by omega) (by omega)) (fun j j0 j1 => h2 j (by omega) (by omega)) (fun j j0 j1 => h3 j (by omega) (by omega)) g8
theorem zLR_app {cod act wi te le : Nat → Int32} {B K : Nat} {l : List zOp × List zOp} : ∀ (ls : List (List zOp × List zOp)) (x y k : Nat), zLR cod act wi te le B K ls x y k → zLR cod act wi te le B K [l] (x + zXt ls) (y + zYt ls) (k + ls.length) → zLR cod act wi te le B K (ls ++ [l]) x y k := by
  intro ls
  induction ls with
  | nil => intro x y k _ h; exact h
  | cons a r ih =>
    intro x y k h h2
    obtain ⟨g1, g2, g3, g4, g5, g6, g7, g8⟩ := h
    refine ⟨g1, g2, g3, g4, g5, g6, g7, ?_⟩
    have eX : zXt (a :: r) = zXl a.1 + a.2.length + 1 + zXt r := rfl
    have eY : zYt (a :: r) = a.1.length + a.2.length + zYt r := rfl
    rw [eX, eY, List.length_cons] at h2
    refine ih _ _ _ g8 ?_
    rw [show x + zXl a.1 + a.2.length + 1 + zXt r = x + (zXl a.1 + a.2.length + 1 + zXt r) by omega, show y + a.1.length + a.2.length + zYt r = y + (a.1.length + a.2.length + zYt r) by omega, show k + 1 + r.length = k + (r.length + 1) by omega]
    exact h2
theorem zXt_app (ls : List (List zOp × List zOp)) (l : List zOp × List zOp) : zXt (ls ++ [l]) = zXt ls + (zXl l.1 + l.2.length + 1) := by
  induction ls with
  | nil => show zXl l.1 + l.2.length + 1 + 0 = 0 + _; omega
  | cons a r ih => show zXl a.1 + a.2.length + 1 + zXt (r ++ [l]) = zXl a.1 + a.2.length + 1 + zXt r + _; rw [ih]; omega
theorem zYt_app (ls : List (List zOp × List zOp)) (l : List zOp × List zOp) : zYt (ls ++ [l]) = zYt ls + (l.1.length + l.2.length) := by
  induction ls with
  | nil => show l.1.length + l.2.length + 0 = 0 + _; omega
  | cons a r ih => show a.1.length + a.2.length + zYt (r ++ [l]) = a.1.length + a.2.length + zYt r + _; rw [ih]; omega
def zLS (f g : Nat → Int32) (t a : Nat) (ls : List (List zOp × List zOp)) (SX SR : zSt) : Prop :=
  zPs f g t a 0 (zXt ls) (zYt ls) SX SR ∧ SR.2.1 19 4 = Int32.ofNat ls.length ∧ zLR (SX.2.1 401) (SR.2.1 17) (SR.2.1 18) (SR.2.1 20) (SR.2.1 21) 520 244 ls 0 0 0
theorem zLS_n {f g : Nat → Int32} {t a a2 : Nat} {ls : List (List zOp × List zOp)} {l : List zOp × List zOp} {SX SR SX1 SR1 : zSt} (h : zLS f g t a ls SX SR) (hy : zYt ls < 251) (hn : zLn f g t a (zXt ls) (zYt ls) ls.length SX SR a2 l SX1 SR1) : zLS f g t a2 (ls ++ [l]) SX1 SR1 := by
  obtain ⟨h1, h2, h3⟩ := h
  obtain ⟨n1, n2, n3, n4, n4b, n5, n6, n7, n8, n9⟩ := hn
  refine ⟨?_, ?_, ?_⟩
  · rw [zXt_app, zYt_app, show zXt ls + (zXl l.1 + l.2.length + 1) = zXt ls + zXl l.1 + l.2.length + 1 by omega, show zYt ls + (l.1.length + l.2.length) = zYt ls + l.1.length + l.2.length by omega]
    exact n3
  · rw [List.length_append]
    exact n5
  · refine zLR_app ls 0 0 0 ?_ (by rw [Nat.zero_add, Nat.zero_add, Nat.zero_add]; exact n6)
    exact zLR_mv (N8 := id) (N16 := id) (fun _ _ => rfl) (fun _ _ => rfl) ls 0 0 0 (by omega) (fun i _ i1 => n8 i (by omega)) (fun j _ j1 => n9.2.1 _ (by omega)) (fun j _ j1 => n9.2.2.2 _ (by omega)) h3
theorem e_text {f g : Nat → Int32} {t : Nat} (hz : zTz f g t) (u : Int32) : ∀ (c n n2 v a : Nat) (ls : List (List zOp × List zOp)) (SX SR : zSt), a + c = t → c < n → c < n2 → zXt ls ≤ a → zYt ls ≤ a → 2 * ls.length ≤ a → v ≤ ls.length → zLS f g t a ls SX SR →
    (∃ (ls2 : List (List zOp × List zOp)) (SX1 SR1 : zSt), fX3_read_b7 zN n (Int32.ofNat v) SX = some (Int32.ofNat (zXt ls2), SX1) ∧ (zU (fX12_readLine zN SR) fun S33 => fX12_readText_b31 zN n2 u S33) = fX12_readText_b86 zN u SR1 ∧ zLS f g t t ls2 SX1 SR1 ∧ zXt ls2 ≤ 121 ∧ zYt ls2 ≤ 120 ∧ ls2.length ≤ 61 ∧ zKX SX SX1 ∧ zKW 0 0 SR SR1) ∨
    (∃ (q : Nat) (SX1 SR1 : zSt), fX3_read_b7 zN n (Int32.ofNat v) SX = some (-1, SX1) ∧ (zU (fX12_readLine zN SR) fun S33 => fX12_readText_b31 zN n2 u S33) = fX12_readText_b86 zN u SR1 ∧ q ≤ t ∧ SX1.1 1102 = Int32.ofNat q ∧ SR1.1 14 = Int32.ofNat q ∧ zKX SX SX1 ∧ zKW 0 0 SR SR1) := by
  have ht := hz.1
  intro c
  induction c using Nat.strongRecOn with
  | ind c ih =>
    intro n n2 v a ls SX SR h1 h2 h3 h4 h5 h6 h7 hS
    obtain _ | n := n
    · exact absurd h2 (by omega)
    obtain _ | n2 := n2
    · exact absurd h3 (by omega)
    have e120 : (120 < Int32.ofNat v) = (120 < v) := zo_lt (a := 120) (by omega) (by omega)
    rw [fX3_read_b7, zi_of e120, if_neg (by omega)]
    rcases e_readLine hz (a := a) (m := zXt ls) (L := zYt ls) (k := ls.length) (by omega) h4 h5 (by omega) hS.1 hS.2.1 with ⟨a2, l, SX1, SR1, e1, e2, hN⟩ | ⟨r, q, L2, SX1, SR1, e1, e2, e3, q1, q2, hF, kX, kW⟩
    · have hS1 := zLS_n hS (by omega) hN
      have lX := zXt_app ls l
      have lY := zYt_app ls l
      have ll : (ls ++ [l]).length = ls.length + 1 := by rw [List.length_append]; rfl
      obtain ⟨n1, n2t, n3, n4, n4b, n5, n6, n7, n8, n9⟩ := hN
      have kW : zKW 0 0 SR SR1 := zKW_t (zKW_refl 0 0 SR) n9 (by omega) (by omega)
      have lk := r_look ht n2t ⟨n3.2.1.1, n3.2.1.2.1, n3.2.1.2.2.2⟩
      have q59 := zSb_eq hz a2 (c := 59) (by decide) (by decide)
      rw [e1, e2, zB_some, zU_some, if_neg zn10, x_pass ht n2t n3.1, fX12_readText_b31, n3.2.1.2.2.1, if_neg zn14, lk, zB_some]
      by_cases w : zSb f t a2 = 59
      · have hat : a2 < t := zSb_lt (by rw [w]; decide)
        rw [if_pos w, zB_some, if_neg zn10, if_pos (q59.mp w), zL_def, n3.2.1.2.1, zo_s, zo_s]
        have hS2 : zLS f g t (a2 + 1) (ls ++ [l]) (zI SX1 1102 (Int32.ofNat (a2 + 1))) (zI SR1 13 (Int32.ofNat (a2 + 1))) := ⟨zPs_up hS1.1 (a2 + 1), hS1.2.1, hS1.2.2⟩
        have kx : zKX SX (zI SX1 1102 (Int32.ofNat (a2 + 1))) := zKX_t n7 (zKX_k (zK_I SX1 1102 _) (by simp))
        have kw : zKW 0 0 SR (zI SR1 13 (Int32.ofNat (a2 + 1))) := zKW_t kW (zKW_k (zK_I SR1 13 _) (by simp)) (Nat.le_refl _) (Nat.le_refl _)
        rcases ih (t - (a2 + 1)) (by omega) n n2 (v + 1) (a2 + 1) (ls ++ [l]) _ _ (by omega) (by omega) (by omega) (by omega) (by omega) (by omega) (by omega) hS2 with ⟨ls2, SX2, SR2, j1, j2, j3, j4, j5, j6, j7, j8⟩ | ⟨q, SX2, SR2, j1, j2, j3, j4, j5, j6, j7⟩
        · exact Or.inl ⟨ls2, SX2, SR2, j1, j2, j3, j4, j5, j6, zKX_t kx j7, zKW_t kw j8 (Nat.le_refl _) (Nat.le_refl _)⟩
        · exact Or.inr ⟨q, SX2, SR2, j1, j2, j3, j4, j5, zKX_t kx j6, zKW_t kw j7 (Nat.le_refl _) (Nat.le_refl _)⟩
      · rw [if_neg w, zB_some, if_pos zn00, if_neg (fun e => w (q59.mpr e))]
        have et : (Int32.ofNat a2 < Int32.ofNat t) = (a2 < t) := zo_lt (by omega) (by omega)
        have et2 : (Int32.ofNat t ≤ Int32.ofNat a2) = (t ≤ a2) := zo_le (by omega) (by omega)
        unfold fX10_isAtEnd fX12_readText_b64
        rw [n3.1.1, n3.1.2.1, n3.2.1.1, n3.2.1.2.1, n3.2.1.2.2.1, if_neg zn14, zi_of et, zi_of et2]
        by_cases y : a2 < t
        · rw [if_pos y, if_neg (by omega), zB_some, if_pos zn00, r_wrong n3.2.1.2.2.1 n3.2.1.2.1, zU_some]
          exact Or.inr ⟨a2, SX1, _, rfl, rfl, n2t, n3.1.2.1, zI_self _ _ _, n7, zKW_t kW (zKW_k (zK_I SR1 14 _) (by simp)) (Nat.le_refl _) (Nat.le_refl _)⟩
        · rw [if_neg y, if_pos (by omega), zB_some, if_neg zn10]
          have ea : a2 = t := by omega
          rw [ea] at hS1
          exact Or.inl ⟨ls ++ [l], SX1, SR1, by rw [hS1.1.2.2.2.1], rfl, hS1, by omega, by omega, by omega, n7, kW⟩
    · have kW0 : zKW 0 0 SR SR1 := zKW_t (zKW_refl 0 0 SR) kW (by omega) (by omega)
      have p14 : (0 : Int32) ≤ SR1.1 14 := by rw [hF.2.1.2.2.1]; exact zo_0 (by omega)
      rw [e1, e2, zB_some, zU_some, fX12_readText_b31, if_pos p14]
      unfold fX12_readText_b64
      rw [if_pos p14]
      rcases e3 with rfl | ⟨rfl, d⟩
      · rw [if_pos zn00]
        exact Or.inr ⟨q, SX1, SR1, rfl, rfl, q2, hF.1.2.1, hF.2.1.2.2.1, kX, kW0⟩
      · have hq : q < t := zSb_lt (Int32.le_trans (by decide) d.1)
        have n59 : ¬ zSb f t q = 59 := fun e => by
          have := d.2
          rw [e] at this
          exact absurd this (by decide)
        have et : (Int32.ofNat q < Int32.ofNat t) = (q < t) := zo_lt (by omega) (by omega)
        rw [if_neg zn10, x_pass ht q2 hF.1, if_neg n59, zB_some, if_pos zn00]
        unfold fX10_isAtEnd
        rw [hF.1.1, hF.1.2.1, zi_of et, if_pos hq, zB_some, if_pos zn00]
        exact Or.inr ⟨q, SX1, SR1, rfl, rfl, q2, hF.1.2.1, hF.2.1.2.2.1, kX, kW0⟩
