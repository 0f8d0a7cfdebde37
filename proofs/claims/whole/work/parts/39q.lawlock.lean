-- the reading of a law: both sides side by side
theorem nar_b : vp_nar .byte (zi8 1) = 1 ∧ vp_nar .byte (zi8 2) = 2 ∧ vp_nar .byte (zi8 3) = 3 ∧ vp_nar .byte (zi8 4) = 4 := by
  refine ⟨by decide, by decide, by decide, by decide⟩
theorem nar_sgn {s : Int32} (h : zSgn s) : vp_nar .byte (zi8 s) = s := by
  rcases h with rfl | rfl | rfl | rfl | rfl | rfl | rfl | rfl | rfl | rfl <;> decide
theorem zDs_app : ∀ (a b : List zOp) (d m e : Nat), zDs a d m → zDs b m e → zDs (a ++ b) d e := by
  intro a
  induction a with
  | nil => intro b d m e h1 h2; have h1 : d = m := h1; rw [h1]; exact h2
  | cons o r ih =>
    intro b d m e h1 h2
    rcases h1 with ⟨h, h1⟩ | ⟨h, h3, h1⟩ | ⟨h, h3, h1⟩
    · exact Or.inl ⟨h, ih b _ m e h1 h2⟩
    · exact Or.inr (Or.inl ⟨h, h3, ih b _ m e h1 h2⟩)
    · exact Or.inr (Or.inr ⟨h, h3, ih b _ m e h1 h2⟩)
theorem zDs_sh : ∀ (a : List zOp) (d e k : Nat), zDs a d e → zDs a (d + k) (e + k) := by
  intro a
  induction a with
  | nil => intro d e k h; have h : d = e := h; rw [h]; exact rfl
  | cons o r ih =>
    intro d e k h
    rcases h with ⟨h, h1⟩ | ⟨h, h3, h1⟩ | ⟨h, h3, h1⟩
    · have := ih (d + 1) e k h1
      rw [show d + 1 + k = d + k + 1 by omega] at this
      exact Or.inl ⟨h, this⟩
    · exact Or.inr (Or.inl ⟨h, by omega, ih d e k h1⟩)
    · have := ih (d - 1) e k h1
      rw [show d - 1 + k = d + k - 1 by omega] at this
      exact Or.inr (Or.inr ⟨h, by omega, this⟩)
theorem zDs_two {a b : List zOp} {s : Int32} (ha : zDs a 0 1) (hb : zDs b 0 1) (hs : zSgn s) : zDs (a ++ (b ++ [(s, 0)])) 0 1 :=
  zDs_app a _ 0 1 1 ha (zDs_app b _ 1 2 1 (zDs_sh b 0 1 1 hb) (Or.inr (Or.inr ⟨hs, by omega, rfl⟩)))
theorem zDs_one {a : List zOp} {w : Int32} (ha : zDs a 0 1) (hw : w = 3 ∨ w = 4) : zDs (a ++ [(w, 0)]) 0 1 :=
  zDs_app a _ 0 1 1 ha (Or.inr (Or.inl ⟨hw, by omega, rfl⟩))
theorem zAt_app {cod act wi : Nat → Int32} : ∀ (a b : List zOp) (x y : Nat), zAt cod act wi a x y → zAt cod act wi b (x + a.length) (y + a.length) → zAt cod act wi (a ++ b) x y := by
  intro a
  induction a with
  | nil => intro b x y _ h; exact h
  | cons o r ih =>
    intro b x y h1 h2
    obtain ⟨a1, a2, a3, a4⟩ := h1
    rw [List.length_cons] at h2
    exact ⟨a1, a2, a3, ih b (x + 1) (y + 1) a4 (by rw [show x + 1 + r.length = x + (r.length + 1) by omega, show y + 1 + r.length = y + (r.length + 1) by omega]; exact h2)⟩
theorem zAt_cg {cod act wi cod2 act2 wi2 : Nat → Int32} : ∀ (a : List zOp) (x y : Nat), (∀ i, x ≤ i → i < x + a.length → cod2 i = cod i) → (∀ i, y ≤ i → i < y + a.length → act2 i = act i ∧ wi2 i = wi i) → zAt cod act wi a x y → zAt cod2 act2 wi2 a x y := by
  intro a
  induction a with
  | nil => intro x y _ _ _; trivial
  | cons o r ih =>
    intro x y h1 h2 h
    rw [List.length_cons] at h1 h2
    obtain ⟨a1, a2, a3, a4⟩ := h
    exact ⟨by rw [h1 x (by omega) (by omega)]; exact a1, by rw [(h2 y (by omega) (by omega)).1]; exact a2, by rw [(h2 y (by omega) (by omega)).2]; exact a3, ih (x + 1) (y + 1) (fun i i0 i1 => h1 i (by omega) (by omega)) (fun i i0 i1 => h2 i (by omega) (by omega)) a4⟩
/-- reading is at byte a, o are open, m codes and L steps are written -/
def zPs (f g : Nat → Int32) (t a o m L : Nat) (SX SR : zSt) : Prop := zTXs f t a SX ∧ zTRs g t a SR ∧ SR.1 15 = Int32.ofNat o ∧ SX.1 402 = Int32.ofNat m ∧ SR.1 16 = Int32.ofNat L
def zKX (SX SX1 : zSt) : Prop := zKeep [402, 1102] [401] SX SX1
def zKR (L : Nat) (SR SR1 : zSt) : Prop := zKeep [13, 14, 15, 16] [17, 18] SR SR1 ∧ ∀ i, i < 520 + L → SR1.2.1 17 i = SR.2.1 17 i ∧ SR1.2.1 18 i = SR.2.1 18 i
def zKM (m : Nat) (SX SX1 : zSt) : Prop := ∀ i, i < m → SX1.2.1 401 i = SX.2.1 401 i
def zDg2 (f : Nat → Int32) (t q : Nat) : Prop := 48 ≤ zSb f t q ∧ zSb f t q ≤ 57
def zFlt (f g : Nat → Int32) (t q L : Nat) (SX SR : zSt) : Prop := zTXs f t q SX ∧ (SR.1 2 = Int32.ofNat t ∧ SR.1 13 = Int32.ofNat q ∧ SR.1 14 = Int32.ofNat q ∧ SR.2.1 1 = g) ∧ SR.1 16 = Int32.ofNat L ∧ ∃ m, m ≤ 121 ∧ SX.1 402 = Int32.ofNat m
/-- a part was read on both sides; or the reference has its FAULT at q, and the class refuses there, or sees a fifth digit there -/
def zOut (f g : Nat → Int32) (t o a m L : Nat) (SX SR : zSt) (X : Option (Int32 × zSt)) (R : Option zSt) : Prop :=
  (∃ (a2 : Nat) (os : List zOp) (SX1 SR1 : zSt), X = some (1, SX1) ∧ R = some SR1 ∧ a < a2 ∧ a2 ≤ t ∧ zPs f g t a2 o (m + os.length) (L + os.length) SX1 SR1 ∧ os.length ≤ a2 - a ∧ zDs os 0 1 ∧ zAt (SX1.2.1 401) (SR1.2.1 17) (SR1.2.1 18) os m (520 + L) ∧ zKX SX SX1 ∧ zKM m SX SX1 ∧ zKR L SR SR1) ∨
  (∃ (q L2 : Nat) (r : Int32) (SX1 SR1 : zSt), X = some (r, SX1) ∧ R = some SR1 ∧ (r = 0 ∨ (r = 1 ∧ zDg2 f t q)) ∧ a ≤ q ∧ q ≤ t ∧ zFlt f g t q L2 SX1 SR1 ∧ L ≤ L2 ∧ L2 ≤ L + (q - a) + 1 ∧ zKX SX SX1 ∧ zKR L SR SR1)
def zCL (f g : Nat → Int32) (t o : Nat) (X : zSt → Option (Int32 × zSt)) (R : zSt → Option zSt) : Prop :=
  ∀ (a m L : Nat) (SX SR : zSt), a ≤ t → m ≤ a → L ≤ a → zPs f g t a o m L SX SR → zOut f g t o a m L SX SR (X SX) (R SR)
theorem zKX_refl (a : zSt) : zKX a a := zK_refl _
theorem zKX_t {a b c : zSt} (h : zKX a b) (h2 : zKX b c) : zKX a c := zK_t h h2
theorem zKR_refl (L : Nat) (a : zSt) : zKR L a a := ⟨zK_refl _, fun _ _ => ⟨rfl, rfl⟩⟩
theorem zKR_t {L L2 : Nat} {a b c : zSt} (h : zKR L a b) (h2 : zKR L2 b c) (hL : L ≤ L2) : zKR L a c := ⟨zK_t h.1 h2.1, fun i hi => ⟨(h2.2 i (by omega)).1.trans (h.2 i hi).1, (h2.2 i (by omega)).2.trans (h.2 i hi).2⟩⟩
theorem zKM_t {m m2 : Nat} {a b c : zSt} (h : zKM m a b) (h2 : zKM m2 b c) (hm : m ≤ m2) : zKM m a c := fun i hi => (h2 i (by omega)).trans (h i hi)
theorem zKR_k {L : Nat} {a b : zSt} {I : List Nat} (k : zKeep I [] a b) (hI : ∀ j ∈ I, j ∈ [13, 14, 15, 16]) : zKR L a b := ⟨zK_mono k hI (by simp), fun i _ => by rw [k.2.1 17 (by simp), k.2.1 18 (by simp)]; exact ⟨rfl, rfl⟩⟩
theorem zKX_k {a b : zSt} {I : List Nat} (k : zKeep I [] a b) (hI : ∀ j ∈ I, j ∈ [402, 1102]) : zKX a b := zK_mono k hI (by simp)
theorem zKM_k {m : Nat} {a b : zSt} {I : List Nat} (k : zKeep I [] a b) : zKM m a b := fun i _ => by rw [k.2.1 401 (by simp)]
theorem x_make {m : Nat} (hm : m < 121) {S : zSt} (h : S.1 402 = Int32.ofNat m) (c : Int32) : fX3_make c S = some (zI (zA S 401 m c) 402 (Int32.ofNat (m + 1))) := by
  have e : (121 ≤ Int32.ofNat m) = (121 ≤ m) := zo_le (a := 121) (by omega) (by omega)
  unfold fX3_make
  rw [h, zi_of e, if_neg (by omega), if_pos (zin_o hm (by decide)), zL_def, zL_def, zo_t (by omega), show (zA S 401 m c).1 402 = Int32.ofNat m from h, zo_s]
theorem x_make_f {m : Nat} (hm : m ≤ 121) {S : zSt} (h : S.1 402 = Int32.ofNat m) (c : Int32) : ∃ (S1 : zSt) (m2 : Nat), fX3_make c S = some S1 ∧ m2 ≤ 121 ∧ S1.1 402 = Int32.ofNat m2 ∧ zKeep [402] [401] S S1 := by
  by_cases q : m < 121
  · exact ⟨_, m + 1, x_make q h c, by omega, zI_self _ _ _, zK_mono (zK_trans (zK_A S 401 m c) (zK_I _ 402 _)) (by simp) (by simp)⟩
  · have e : (121 ≤ Int32.ofNat m) = (121 ≤ m) := zo_le (a := 121) (by omega) (by omega)
    refine ⟨S, m, ?_, hm, h, zK_refl _⟩
    unfold fX3_make
    rw [h, zi_of e, if_pos (by omega)]
theorem r_step {L : Nat} (hL : L < 130) {S : zSt} (h : S.1 16 = Int32.ofNat L) {w : Int32} (hw : vp_nar .byte (zi8 w) = w) (v : Int32) : fX12_addStep w v S = some (zI (zA (zA S 17 (520 + L) w) 18 (520 + L) v) 16 (Int32.ofNat (L + 1))) := by
  have e : (520 : Int32) + Int32.ofNat L = Int32.ofNat (520 + L) := zo_add 520 L
  have z : zin (Int32.ofNat (520 + L)) 650 := zin_o (by omega) (by decide)
  unfold fX12_addStep
  rw [h, e, if_pos z, zL_def, hw, zo_t (by omega), show (zA S 17 (520 + L) w).1 16 = Int32.ofNat L from h, e, if_pos z, zL_def, zL_def, zo_t (by omega), show (zA (zA S 17 (520 + L) w) 18 (520 + L) v).1 16 = Int32.ofNat L from h, zo_s]
theorem zKR_step {L : Nat} (S : zSt) (w v x : Int32) : zKR L S (zI (zA (zA S 17 (520 + L) w) 18 (520 + L) v) 16 x) := by
  refine ⟨zK_mono (zK_trans (zK_trans (zK_A S 17 (520 + L) w) (zK_A _ 18 (520 + L) v)) (zK_I _ 16 x)) (by simp) (by simp), fun i hi => ⟨?_, ?_⟩⟩
  · show (zA (zA S 17 (520 + L) w) 18 (520 + L) v).2.1 17 i = _
    rw [zA_oth _ _ _ _ (by decide), zA_get, if_neg (by omega)]
  · show (zA (zA S 17 (520 + L) w) 18 (520 + L) v).2.1 18 i = _
    rw [zA_get, if_neg (by omega), zA_oth _ _ _ _ (by decide)]
theorem zKR_le {L L2 : Nat} {a b : zSt} (h : zKR L a b) (hL : L2 ≤ L) : zKR L2 a b := ⟨h.1, fun i hi => h.2 i (by omega)⟩
/-- one more step on both sides -/
theorem e_one {f g : Nat → Int32} {t a o m L : Nat} {SX SR : zSt} (h : zPs f g t a o m L SX SR) (hm : m < 121) (hL : L < 130) {w : Int32} (hw : vp_nar .byte (zi8 w) = w) (v : Int32) :
    ∃ SX1 SR1 : zSt, fX3_make (zXc (w, v)) SX = some SX1 ∧ fX12_addStep w v SR = some SR1 ∧ zPs f g t a o (m + 1) (L + 1) SX1 SR1 ∧ zAt (SX1.2.1 401) (SR1.2.1 17) (SR1.2.1 18) [(w, v)] m (520 + L) ∧ zKX SX SX1 ∧ zKM m SX SX1 ∧ zKR L SR SR1 := by
  obtain ⟨h1, h2, h3, h4, h5⟩ := h
  have kx : zKeep [402] [401] SX (zI (zA SX 401 m (zXc (w, v))) 402 (Int32.ofNat (m + 1))) := zK_mono (zK_trans (zK_A SX 401 m _) (zK_I _ 402 _)) (by simp) (by simp)
  have kr : zKeep [16] [17, 18] SR (zI (zA (zA SR 17 (520 + L) w) 18 (520 + L) v) 16 (Int32.ofNat (L + 1))) := zK_mono (zK_trans (zK_trans (zK_A SR 17 (520 + L) w) (zK_A _ 18 (520 + L) v)) (zK_I _ 16 _)) (by simp) (by simp)
  refine ⟨_, _, x_make hm h4 _, r_step hL h5 hw v, ⟨zTXs_K h1 kx (by decide) (by decide), zTRs_K h2 kr (by decide) (by decide), (kr.1 15 (by decide)).trans h3, zI_self _ _ _, zI_self _ _ _⟩, ⟨?_, ?_, ?_, trivial⟩, zK_mono kx (by simp) (by simp), fun i hi => ?_, zKR_step SR w v _⟩
  · show (zA SX 401 m (zXc (w, v))).2.1 401 m = _
    rw [zA_get, if_pos rfl]
  · show (zA (zA SR 17 (520 + L) w) 18 (520 + L) v).2.1 17 (520 + L) = _
    rw [zA_oth _ _ _ _ (by decide), zA_get, if_pos rfl]
  · show (zA (zA SR 17 (520 + L) w) 18 (520 + L) v).2.1 18 (520 + L) = _
    rw [zA_get, if_pos rfl]
  · show (zA SX 401 m (zXc (w, v))).2.1 401 i = _
    rw [zA_get, if_neg (by omega)]
/-- the reference's further step behind its FAULT -/
theorem r_step_f {f g : Nat → Int32} {t q L : Nat} {SX SR : zSt} (h : zFlt f g t q L SX SR) (hL : L < 130) {w : Int32} (hw : vp_nar .byte (zi8 w) = w) (v : Int32) : ∃ SR1 : zSt, fX12_addStep w v SR = some SR1 ∧ zFlt f g t q (L + 1) SX SR1 ∧ zKR L SR SR1 := by
  obtain ⟨h1, ⟨h2, h3, h4, h5⟩, h6, h7⟩ := h
  have kr : zKeep [16] [17, 18] SR (zI (zA (zA SR 17 (520 + L) w) 18 (520 + L) v) 16 (Int32.ofNat (L + 1))) := zK_mono (zK_trans (zK_trans (zK_A SR 17 (520 + L) w) (zK_A _ 18 (520 + L) v)) (zK_I _ 16 _)) (by simp) (by simp)
  exact ⟨_, r_step hL h6 hw v, ⟨h1, ⟨(kr.1 2 (by decide)).trans h2, (kr.1 13 (by decide)).trans h3, (kr.1 14 (by decide)).trans h4, (kr.2.1 1 (by decide)).trans h5⟩, zI_self _ _ _, h7⟩, zKR_step SR w v _⟩
/-- the class's further code where the reference has its FAULT -/
theorem x_make_q {f g : Nat → Int32} {t q L : Nat} {SX SR : zSt} (h : zFlt f g t q L SX SR) (c : Int32) : ∃ SX1 : zSt, fX3_make c SX = some SX1 ∧ zFlt f g t q L SX1 SR ∧ zKX SX SX1 := by
  obtain ⟨h1, h2, h6, m, h7, h8⟩ := h
  obtain ⟨S1, m2, a1, a2, a3, a4⟩ := x_make_f h7 h8 c
  exact ⟨S1, a1, ⟨zTXs_K h1 a4 (by decide) (by decide), h2, h6, m2, a2, a3⟩, zK_mono a4 (by simp) (by simp)⟩
-- a number
theorem zdg6 {x y : Int32} : 10 * x + y - 48 = 10 * x + (y - 48) := by grind
theorem zdg7 {y : Int32} (h : 48 ≤ y ∧ y ≤ 57) : ∃ d : Nat, d ≤ 9 ∧ y - 48 = Int32.ofNat d := by
  obtain ⟨a, b, -⟩ := zdg4 h
  exact zo_exle (k := 9) a (by decide) b
theorem x_sees {f : Nat → Int32} {t a : Nat} (ht : t ≤ 120) (ha : a ≤ t) {S : zSt} (h : zTXs f t a S) : (zDg2 f t a → fX10_seesDigit S = some (1, S)) ∧ (¬ zDg2 f t a → fX10_seesDigit S = some (0, S)) := by
  unfold fX10_seesDigit zDg2
  rw [x_seen ht ha h, zB_some]
  refine ⟨fun q => ?_, fun q => ?_⟩
  · rw [if_neg (Int32.not_lt.mpr q.1), if_neg (Int32.not_lt.mpr q.2)]
  · by_cases w : zSb f t a < 48
    · rw [if_pos w]
    · rw [if_neg w, if_pos (Int32.not_le.mp (fun z => q ⟨Int32.not_lt.mp w, z⟩))]
theorem e_num_loop {f g : Nat → Int32} {t : Nat} (hz : zTz f g t) : ∀ (c fu fu2 j w a : Nat) (SX SR : zSt), j + c = 4 → c < fu → c < fu2 → a ≤ t → zTXs f t a SX → zTRs g t a SR → w < 10 ^ j →
    ∃ (j2 w2 : Nat) (SX1 SR1 : zSt), fX3_readNumber_b4 zN fu (Int32.ofNat w) (Int32.ofNat j) SX = fX3_readNumber_b38 zN (Int32.ofNat w2) SX1 ∧ fX12_figure_b4 zN fu2 (Int32.ofNat w) (Int32.ofNat j) SR = fX12_figure_b52 zN (Int32.ofNat w2) (Int32.ofNat j2) SR1 ∧ j ≤ j2 ∧ j2 ≤ 4 ∧ a + (j2 - j) ≤ t ∧ zTXs f t (a + (j2 - j)) SX1 ∧ zTRs g t (a + (j2 - j)) SR1 ∧ zKeep [1102] [] SX SX1 ∧ zKeep [13] [] SR SR1 ∧ w2 < 10 ^ j2 ∧ (zDg2 f t a → j < 4 → j < j2) := by
  have ht := hz.1
  intro c
  induction c with
  | zero =>
    intro fu fu2 j w a SX SR h1 h2 h3 ha hX hR hw
    obtain _ | fu := fu
    · exact absurd h2 (by omega)
    obtain _ | fu2 := fu2
    · exact absurd h3 (by omega)
    have e4 : (4 ≤ Int32.ofNat j) = (4 ≤ j) := zo_le (a := 4) (by omega) (by omega)
    rw [fX3_readNumber_b4, fX12_figure_b4, zi_of e4, zi_of e4, if_pos (by omega), if_pos (by omega)]
    refine ⟨j, w, SX, SR, rfl, rfl, Nat.le_refl _, by omega, by omega, ?_, ?_, zK_refl _, zK_refl _, hw, fun _ h => absurd h (by omega)⟩
    · rw [Nat.sub_self, Nat.add_zero]; exact hX
    · rw [Nat.sub_self, Nat.add_zero]; exact hR
  | succ c ih =>
    intro fu fu2 j w a SX SR h1 h2 h3 ha hX hR hw
    obtain _ | fu := fu
    · exact absurd h2 (by omega)
    obtain _ | fu2 := fu2
    · exact absurd h3 (by omega)
    have e4 : (4 ≤ Int32.ofNat j) = (4 ≤ j) := zo_le (a := 4) (by omega) (by omega)
    have lk := r_look ht ha ⟨hR.1, hR.2.1, hR.2.2.2⟩
    rw [fX3_readNumber_b4, fX12_figure_b4, zi_of e4, zi_of e4, if_neg (by omega), if_neg (by omega), lk, zB_some, e_in, zU_some, lk, zB_some]
    by_cases d : zDg2 f t a
    · have dR := (zSb_dig hz a).1.mp d
      have eR := (zSb_dig hz a).2 d
      have hat : a < t := zSb_lt (Int32.le_trans (by decide) d.1)
      obtain ⟨dg, hdg, edg⟩ := zdg7 d
      have ev : (10 : Int32) * Int32.ofNat w + Int32.ofNat dg = Int32.ofNat (10 * w + dg) := by
        rw [Int32.ofNat_add, Int32.ofNat_mul]
        rfl
      have hp : 10 * w + dg < 10 ^ (j + 1) := by rw [Nat.pow_succ]; omega
      rw [(x_sees ht ha hX).1 d, zB_some, if_neg zn10, x_digit ht ha hX, if_pos (show 48 ≤ zSb f t a ∧ zSb f t a ≤ 57 from d), zB_some, if_pos dR, if_neg zn10, zL_def, hR.2.1, zdg6, ← eR, edg, ev, zo_s, zo_s]
      obtain ⟨j2, w2, SX1, SR1, i1, i2, i3, i4, i5, i6, i7, i8, i9, i10, -⟩ := ih fu fu2 (j + 1) (10 * w + dg) (a + 1) _ _ (by omega) (by omega) (by omega) (by omega) (zTXs_s hX (a + 1)) (zTRs_s hR (a + 1)) hp
      have ea : a + 1 + (j2 - (j + 1)) = a + (j2 - j) := by omega
      rw [ea] at i5 i6 i7
      exact ⟨j2, w2, SX1, SR1, i1, i2, by omega, i4, i5, i6, i7, zK_t (zK_I _ _ _) i8, zK_t (zK_I _ _ _) i9, i10, fun _ _ => by omega⟩
    · have dR : ¬ (48 ≤ zSb g t a ∧ zSb g t a ≤ 57) := fun y => d ((zSb_dig hz a).1.mpr y)
      rw [(x_sees ht ha hX).2 d, zB_some, if_pos zn00, if_neg dR, if_pos zn00]
      refine ⟨j, w, SX, SR, rfl, rfl, Nat.le_refl _, by omega, by omega, ?_, ?_, zK_refl _, zK_refl _, hw, fun q _ => absurd q d⟩
      · rw [Nat.sub_self, Nat.add_zero]; exact hX
      · rw [Nat.sub_self, Nat.add_zero]; exact hR
theorem r_wrong {S : zSt} {a : Nat} (h14 : S.1 14 = -1) (h13 : S.1 13 = Int32.ofNat a) : fX12_wrong S = some (zI S 14 (Int32.ofNat a)) := by
  unfold fX12_wrong
  rw [h14, if_neg (show ¬ (0 : Int32) ≤ -1 by decide), zL_def, h13]
theorem e_num {f g : Nat → Int32} {t : Nat} (hz : zTz f g t) {a o m L : Nat} (ha : a ≤ t) (hm : m ≤ a) (hL : L ≤ a) {SX SR : zSt} (h : zPs f g t a o m L SX SR) (hd : zDg2 f t a) : zOut f g t o a m L SX SR (zU (fX3_readNumber zN SX) fun S48 => some (1, S48)) (fX12_figure zN SR) := by
  have ht := hz.1
  obtain ⟨h1, h2, h3, h4, h5⟩ := h
  obtain ⟨j, w, SX1, SR1, i1, i2, -, i4, i5, i6, i7, i8, i9, i10, i11⟩ := e_num_loop hz 4 zN zN 0 0 a SX SR (by omega) (by decide) (by decide) ha h1 h2 (by decide)
  have j0 := i11 hd (by omega)
  rw [Nat.sub_zero] at i5 i6 i7
  have hP : zPs f g t (a + j) o m L SX1 SR1 := ⟨i6, i7, (i9.1 15 (by decide)).trans h3, (i8.1 402 (by decide)).trans h4, (i9.1 16 (by decide)).trans h5⟩
  have hw : w < 10000 := Nat.lt_of_lt_of_le i10 (Nat.le_trans (Nat.pow_le_pow_right (by decide) i4) (by decide))
  obtain ⟨SX2, SR2, b1, b2, b3, b4, b5, b6, b7⟩ := e_one hP (by omega) (by omega) nar_b.1 (Int32.ofNat w)
  have nj : ¬ Int32.ofNat j = 0 := by
    show ¬ Int32.ofNat j = Int32.ofNat 0
    rw [zo_eq (by omega) (by omega)]
    omega
  have lk := r_look ht i5 ⟨i7.1, i7.2.1, i7.2.2.2⟩
  unfold fX3_readNumber fX12_figure
  rw [show fX3_readNumber_b4 zN zN 0 0 SX = _ from i1, show fX12_figure_b4 zN zN 0 0 SR = _ from i2]
  unfold fX3_readNumber_b38 fX12_figure_b52 fX12_figure_b70 fX12_figure_b74
  rw [show fX3_make (Int32.ofNat w) SX1 = _ from b1, zU_some, zU_some, if_neg nj, lk, zB_some, e_in, zU_some]
  have kX : zKX SX SX2 := zKX_t (zKX_k i8 (by simp)) b5
  have kM : zKM m SX SX2 := zKM_t (zKM_k i8) b6 (Nat.le_refl _)
  by_cases d : zDg2 f t (a + j)
  · have dR := (zSb_dig hz (a + j)).1.mp d
    rw [if_pos dR, if_neg zn10, r_wrong i7.2.2.1 i7.2.1, zU_some]
    have kq : zKeep [14] [] SR1 (zI SR1 14 (Int32.ofNat (a + j))) := zK_I _ _ _
    obtain ⟨SR3, c1, c2, c3⟩ := r_step_f (f := f) (g := g) (t := t) (q := a + j) (L := L) (SX := SX2) (SR := zI SR1 14 (Int32.ofNat (a + j))) ⟨b3.1, ⟨(kq.1 2 (by decide)).trans i7.1, (kq.1 13 (by decide)).trans i7.2.1, zI_self _ _ _, i7.2.2.2⟩, (kq.1 16 (by decide)).trans hP.2.2.2.2, m + 1, by omega, b3.2.2.2.1⟩ (by omega) nar_b.1 (Int32.ofNat w)
    rw [c1, zU_some]
    exact Or.inr ⟨a + j, L + 1, 1, SX2, SR3, rfl, rfl, Or.inr ⟨rfl, d⟩, by omega, i5, c2, by omega, by omega, kX, zKR_t (zKR_k i9 (by simp)) (zKR_t (zKR_k kq (by simp)) c3 (Nat.le_refl _)) (Nat.le_refl _)⟩
  · have dR : ¬ (48 ≤ zSb g t (a + j) ∧ zSb g t (a + j) ≤ 57) := fun y => d ((zSb_dig hz (a + j)).1.mpr y)
    rw [if_neg dR, if_pos zn00, b2, zU_some]
    exact Or.inl ⟨a + j, [(1, Int32.ofNat w)], SX2, SR2, rfl, rfl, by omega, i5, b3, by simp; omega, Or.inl ⟨Or.inl ⟨rfl, zo_0 (by omega)⟩, rfl⟩, b4, kX, kM, zKR_t (zKR_k i9 (by simp)) b7 (Nat.le_refl _)⟩
