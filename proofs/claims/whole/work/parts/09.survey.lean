/-! survey: where the shape can stand, where it is out -/
theorem ok_markClear_u {d : Nat} {M : Mem} {Q : Post} {s : Nat} {t : Nat → Nat} (hs : s < 33554432) (ht : ∀ i, t i < 2 ^ 24) (hM : ∀ i, i < 24 → M 9 i = J (t i)) (h : ∀ M', (∀ a j, a ≠ 11 → M' a j = M a j) → (∀ y, y < 20 → M' 11 y = J (markN s t y)) → Q none M') : Mt (d + 2) mX2_markClear [.ref 2, .int (J (s : Int)), .ref 11] M Q := by
  refine e_X2_markClear_u ?_
  have key : ∀ k y : Nat, y + k = 20 → ∀ M1 : Mem, (∀ a j, a ≠ 11 → M1 a j = M a j) → (∀ j, j < y → M1 11 j = J (markN s t j)) → R none (d + 2) mX2_markClear 2 [.ref 2, .int (J (s : Int)), .ref 11, .int (J (y : Int)), .null, .null] [] M1 Q := by
    intro k
    induction k with
    | zero =>
      intro y hy M1 h1 h2
      refine b_X2_markClear_u_2 ⟨fun _ => h M1 h1 (fun j hj => h2 j (by omega)), fun c => ?_⟩
      simp (disch := omega) only [J_add, J_sub, J_mul, J_neg, J_bit, J_shl, J_shr, J_andn, J_and, J_or, J_xor, J_div, J_rem, J_lt, J_le, J_eq, J_lt0, J_le0, J_0le, J_0lt, J_eq0, vp_in_J, J_clamp, J_max, J_abs, Int.toNat_natCast, Int.reduceToNat, Int.reduceAdd, Int.reduceSub, Int.reduceMul, Int.reduceNeg, not_true_eq_false, not_false_eq_true] at c; omega
    | succ k ih =>
      intro y hy M1 h1 h2
      refine b_X2_markClear_u_2 ⟨fun c => ?_, fun _ => ?_⟩
      · simp (disch := omega) only [J_add, J_sub, J_mul, J_neg, J_bit, J_shl, J_shr, J_andn, J_and, J_or, J_xor, J_div, J_rem, J_lt, J_le, J_eq, J_lt0, J_le0, J_0le, J_0lt, J_eq0, vp_in_J, J_clamp, J_max, J_abs, Int.toNat_natCast, Int.reduceToNat, Int.reduceAdd, Int.reduceSub, Int.reduceMul, Int.reduceNeg, not_true_eq_false, not_false_eq_true] at c; omega
      · have key2 : ∀ k r : Nat, r + k = 5 → R none (d + 2) mX2_markClear 14 [.ref 2, .int (J (s : Int)), .ref 11, .int (J (y : Int)), .int (J (orN (markF s t y) r)), .int (J (r : Int))] [] M1 Q := by
          intro k
          induction k with
          | zero =>
            intro r hr
            refine b_X2_markClear_u_14 ⟨fun _ => ⟨vin (by omega) (by omega), ?_⟩, fun c => ?_⟩
            · have hlt := orN_lt (markF_lt (s := s) ht y) r
              have hr5 : r = 5 := by omega
              subst hr5
              rw [J_suc, nI2 (by omega), show J 1048575 = J ((1048575 : Nat) : Int) from rfl, J_andn2 (by omega) (by omega)]
              refine ih (y + 1) (by omega) _ (fun a j ha => ?_) (fun j hj => ?_)
              · rw [mset_o ha]; exact h1 a j ha
              · by_cases hj2 : j = y
                · subst hj2; rw [mset_self]; rfl
                · rw [mset_k hj2]; exact h2 j (by omega)
            · simp (disch := omega) only [J_add, J_sub, J_mul, J_neg, J_bit, J_shl, J_shr, J_andn, J_and, J_or, J_xor, J_div, J_rem, J_lt, J_le, J_eq, J_lt0, J_le0, J_0le, J_0lt, J_eq0, vp_in_J, J_clamp, J_max, J_abs, Int.toNat_natCast, Int.reduceToNat, Int.reduceAdd, Int.reduceSub, Int.reduceMul, Int.reduceNeg, not_true_eq_false, not_false_eq_true] at c; omega
          | succ k ih2 =>
            intro r hr
            refine b_X2_markClear_u_14 ⟨fun c => ?_, fun _ => ⟨fun c => ?_, fun _ => ?_⟩⟩
            · simp (disch := omega) only [J_add, J_sub, J_mul, J_neg, J_bit, J_shl, J_shr, J_andn, J_and, J_or, J_xor, J_div, J_rem, J_lt, J_le, J_eq, J_lt0, J_le0, J_0le, J_0lt, J_eq0, vp_in_J, J_clamp, J_max, J_abs, Int.toNat_natCast, Int.reduceToNat, Int.reduceAdd, Int.reduceSub, Int.reduceMul, Int.reduceNeg, not_true_eq_false, not_false_eq_true] at c; omega
            · simp (disch := omega) only [J_add, J_sub, J_mul, J_neg, J_bit, J_shl, J_shr, J_andn, J_and, J_or, J_xor, J_div, J_rem, J_lt, J_le, J_eq, J_lt0, J_le0, J_0le, J_0lt, J_eq0, vp_in_J, J_clamp, J_max, J_abs, Int.toNat_natCast, Int.reduceToNat, Int.reduceAdd, Int.reduceSub, Int.reduceMul, Int.reduceNeg, not_true_eq_false, not_false_eq_true] at c; omega
            · refine ok_rowOf hs (by omega) (by omega) (ri_some ?_)
              rw [J_add, ← Int.natCast_add, nI2 (by omega), h1 9 _ (by omega), hM _ (by omega)]
              have hr5 := rowN_lt s (r : Int)
              refine ⟨vin (by omega) (by omega), ok_hitPlaces (by omega) (ht _) (ri_some ?_)⟩
              rw [J_suc, J_orN]
              exact ih2 (r + 1) (by omega)
        exact key2 5 0 (by omega)
  exact key 20 0 (by omega) M (fun _ _ _ => rfl) (fun j hj => by omega)
def tkF (σ : St) (oth : Nat) (i : Nat) : Nat := (if 0 ≤ (i : Int) + -6 ∧ (i : Int) + -6 < sR σ then sW σ ((i : Int) + -6).toNat * 64 else 0) ||| setR σ oth ((i : Int) + -6)
def bdF (σ : St) (i : Nat) : Nat := if 0 ≤ (i : Int) + -6 ∧ (i : Int) + -6 < sR σ then full σ * 64 else 0
def opF (σ : St) (oth s y : Nat) : Nat := markN s (tkF σ oth) y
def ouF (σ : St) (s y : Nat) : Nat := markN s (bdF σ) y
def wallP (σ : St) (c r : Int) : Prop := (0 ≤ c ∧ c < sC σ) ∧ (0 ≤ r ∧ r < sR σ) ∧ (sW σ r.toNat).testBit c.toNat = true
def onB (σ : St) (c r : Int) : Prop := (0 ≤ c ∧ c < sC σ) ∧ (0 ≤ r ∧ r < sR σ)
def blkd (σ : St) (oth : Nat) (c r : Int) : Prop := wallP σ c r ∨ ∃ o, oth.testBit o = true ∧ (sL σ).testBit o = true ∧ sq (sS σ o) (sX σ o) (sY σ o) c r = true
def stP (σ : St) (oth s : Nat) (x y : Int) : Prop := ∀ c r, sq s x y c r = true → ¬ blkd σ oth c r
def outP (σ : St) (s : Nat) (x y : Int) : Prop := ∀ c r, sq s x y c r = true → ¬ onB σ c r
section SUR
variable {d : Nat} {M : Mem} {Q : Post} {σ : St}
theorem tkF_lt (hW : WF σ) (oth i : Nat) : tkF σ oth i < 2 ^ 24 := by
  have hr := hW.R
  unfold tkF
  apply Nat.or_lt_two_pow
  · split
    · have := hW.W (show ((i : Int) + -6).toNat < 10 by omega)
      omega
    · decide
  · exact setR_lt hW _ _
theorem bdF_lt (hW : WF σ) (i : Nat) : bdF σ i < 2 ^ 24 := by
  have := full_lt hW
  unfold bdF
  split
  · omega
  · decide
theorem full_bit (σ : St) (i : Nat) : (full σ).testBit i = decide (i < (sC σ).toNat) := by
  unfold full; rw [Nat.testBit_two_pow_sub_one]
theorem tkF_bit (hW : WF σ) (oth i j : Nat) : (tkF σ oth i).testBit j = true ↔ blkd σ oth ((j : Int) - 6) ((i : Int) - 6) := by
  have hr := hW.R
  have hc := hW.C
  unfold tkF blkd
  rw [Nat.testBit_or, Bool.or_eq_true, setR_bit hW, show (i : Int) + -6 = (i : Int) - 6 by omega]
  apply or_congr _ Iff.rfl
  unfold wallP
  split
  · next h =>
    rw [show (64 : Nat) = 2 ^ 6 from rfl, Nat.testBit_mul_two_pow, Bool.and_eq_true, decide_eq_true_iff]
    constructor
    · rintro ⟨h1, h2⟩
      have h3 := hW.2.2.2.1 ((i : Int) - 6).toNat (by omega)
      have h4 : j - 6 < (sC σ).toNat := by
        rcases Nat.lt_or_ge (j - 6) (sC σ).toNat with q | q
        · exact q
        · rw [Nat.testBit_lt_two_pow (Nat.lt_of_lt_of_le h3 (Nat.pow_le_pow_right (by omega) q))] at h2
          cases h2
      refine ⟨⟨by omega, by omega⟩, h, ?_⟩
      rw [show ((j : Int) - 6).toNat = j - 6 by omega]; exact h2
    · rintro ⟨⟨h1, h2⟩, h3, h4⟩
      refine ⟨by omega, ?_⟩
      rw [show ((j : Int) - 6).toNat = j - 6 by omega] at h4; exact h4
  · next h =>
    constructor
    · intro h1; simp at h1
    · rintro ⟨-, h3, -⟩; exact absurd h3 h
theorem bdF_bit (hW : WF σ) (i j : Nat) : (bdF σ i).testBit j = true ↔ onB σ ((j : Int) - 6) ((i : Int) - 6) := by
  have hr := hW.R
  have hc := hW.C
  unfold bdF onB
  rw [show (i : Int) + -6 = (i : Int) - 6 by omega]
  split
  · next h =>
    rw [show (64 : Nat) = 2 ^ 6 from rfl, Nat.testBit_mul_two_pow, Bool.and_eq_true, decide_eq_true_iff, full_bit, decide_eq_true_iff]
    constructor
    · rintro ⟨h1, h2⟩
      exact ⟨by omega, h⟩
    · rintro ⟨h1, h2⟩
      exact ⟨by omega, by omega⟩
  · next h =>
    constructor
    · intro h1; simp at h1
    · rintro ⟨-, h3⟩; exact absurd h3 h
/-- a shape's squares, by column and row of the shape -/
theorem sq_all {s : Nat} {x y : Int} {P : Int → Int → Prop} : (∀ c r, sq s x y c r = true → P c r) ↔ ∀ r c : Nat, r < 5 → c < 5 → s.testBit (5 * r + c) = true → P (x + c) (y + r) := by
  constructor
  · intro h r c hr hc hs
    apply h
    unfold sq
    rw [decide_eq_true (by omega), Bool.true_and, show (5 * (y + (r : Int) - y) + (x + (c : Int) - x)).toNat = 5 * r + c by omega]
    exact hs
  · intro h c r hs
    unfold sq at hs
    rw [Bool.and_eq_true, decide_eq_true_iff] at hs
    have := h (r - y).toNat (c - x).toNat (by omega) (by omega) (by rw [← hs.2]; congr 1; omega)
    rw [show x + ((c - x).toNat : Int) = c by omega, show y + ((r - y).toNat : Int) = r by omega] at this
    exact this
theorem opF_bit (hW : WF σ) (oth s : Nat) {x y : Nat} (hx : x < 20) : (opF σ oth s y).testBit x = true ↔ stP σ oth s ((x : Int) - 6) ((y : Int) - 6) := by
  unfold opF stP
  rw [markN_bit, sq_all]
  constructor
  · rintro ⟨-, h⟩ r c hr hc hs hb
    refine h r c hr hc hs ?_
    rw [tkF_bit hW, show ((x + c : Nat) : Int) - 6 = (x : Int) - 6 + c by omega, show ((y + r : Nat) : Int) - 6 = (y : Int) - 6 + r by omega]
    exact hb
  · intro h
    refine ⟨hx, fun r c hr hc hs hb => h r c hr hc hs ?_⟩
    rw [tkF_bit hW, show ((x + c : Nat) : Int) - 6 = (x : Int) - 6 + c by omega, show ((y + r : Nat) : Int) - 6 = (y : Int) - 6 + r by omega] at hb
    exact hb
theorem ouF_bit (hW : WF σ) (s : Nat) {x y : Nat} (hx : x < 20) : (ouF σ s y).testBit x = true ↔ outP σ s ((x : Int) - 6) ((y : Int) - 6) := by
  unfold ouF outP
  rw [markN_bit, sq_all]
  constructor
  · rintro ⟨-, h⟩ r c hr hc hs hb
    refine h r c hr hc hs ?_
    rw [bdF_bit hW, show ((x + c : Nat) : Int) - 6 = (x : Int) - 6 + c by omega, show ((y + r : Nat) : Int) - 6 = (y : Int) - 6 + r by omega]
    exact hb
  · intro h
    refine ⟨hx, fun r c hr hc hs hb => h r c hr hc hs ?_⟩
    rw [bdF_bit hW, show ((x + c : Nat) : Int) - 6 = (x : Int) - 6 + c by omega, show ((y + r : Nat) : Int) - 6 = (y : Int) - 6 + r by omega] at hb
    exact hb
/-- the table's cells are as they were -/
def TK (M M' : Mem) : Prop := (∀ k, M' 1 k = M 1 k) ∧ ∀ a j, 5 ≤ a → a ≤ 8 → M' a j = M a j
theorem TR.keep {M' : Mem} (hT : TR M σ) (h : TK M M') : TR M' σ := by
  obtain ⟨t1, t2, t3, t4, t5, t6, t7⟩ := hT
  refine ⟨by rw [h.1]; exact t1, by rw [h.1]; exact t2, by rw [h.1]; exact t3, by rw [h.1]; exact t4, fun y hy => ?_, fun p hp => ?_, fun p hp => ?_⟩
  · rw [h.2 5 y (by omega) (by omega)]; exact t5 y hy
  · rw [h.2 6 p (by omega) (by omega)]; exact t6 p hp
  · rw [h.2 7 p (by omega) (by omega), h.2 8 p (by omega) (by omega)]; exact t7 p hp
/-- what survey leaves -/
def SV (σ : St) (oth s : Nat) (M M' : Mem) : Prop := (∀ y, y < 20 → M' 10 y = J (opF σ oth s y)) ∧ (∀ y, y < 20 → M' 11 y = J (ouF σ s y)) ∧ M' 2 6 = J 0 ∧ (∀ k, k < 400 → M' 12 k = J (-4)) ∧ (∀ a j, a ≠ 9 → a ≠ 10 → a ≠ 11 → a ≠ 12 → (a ≠ 2 ∨ j ≠ 6) → M' a j = M a j)
theorem SV.TK {oth s : Nat} {M' : Mem} (h : SV σ oth s M M') : TK M M' := ⟨fun k => h.2.2.2.2 1 k (by decide) (by decide) (by decide) (by decide) (Or.inl (by decide)), fun a j h1 h2 => h.2.2.2.2 a j (by omega) (by omega) (by omega) (by omega) (Or.inl (by omega))⟩
theorem ok_survey {p oth : Nat} (hT : TR M σ) (hW : WF σ) (hp : p < sN σ) (ho : oth < 2147483648) (h : ∀ M', SV σ oth (sS σ p) M M' → Q none M') : Mt (d + 4) mX2_survey [.ref 2, .int (J (p : Int)), .int (J (oth : Int))] M Q := by
  have hs := hW.S hp
  refine e_X2_survey (ok_shapeOf hT hW hp (ri_some ?_))
  have key3 : ∀ k j : Nat, j + k = 400 → ∀ M1 : Mem, (∀ y, y < 20 → M1 10 y = J (opF σ oth (sS σ p) y)) → (∀ y, y < 20 → M1 11 y = J (ouF σ (sS σ p) y)) → M1 2 6 = J 0 → (∀ a j, a ≠ 9 → a ≠ 10 → a ≠ 11 → a ≠ 12 → (a ≠ 2 ∨ j ≠ 6) → M1 a j = M a j) → (∀ i, i < j → M1 12 i = J (-4)) → R none (d + 4) mX2_survey 125 [.ref 2, .null, .null, .null, .int (J (j : Int))] [] M1 Q := by
    intro k
    induction k with
    | zero =>
      intro j hj M1 g1 g2 g3 g4 g5
      refine b_X2_survey_125 ⟨fun _ => h M1 ⟨g1, g2, g3, fun i hi => g5 i (by omega), g4⟩, fun c => ?_⟩
      simp (disch := omega) only [J_add, J_sub, J_mul, J_neg, J_bit, J_shl, J_shr, J_andn, J_and, J_or, J_xor, J_div, J_rem, J_lt, J_le, J_eq, J_lt0, J_le0, J_0le, J_0lt, J_eq0, vp_in_J, J_clamp, J_max, J_abs, Int.toNat_natCast, Int.reduceToNat, Int.reduceAdd, Int.reduceSub, Int.reduceMul, Int.reduceNeg, not_true_eq_false, not_false_eq_true] at c; omega
    | succ k ih =>
      intro j hj M1 g1 g2 g3 g4 g5
      refine b_X2_survey_125 ⟨fun c => ?_, fun _ => ⟨vin (by omega) (by omega), ?_⟩⟩
      · simp (disch := omega) only [J_add, J_sub, J_mul, J_neg, J_bit, J_shl, J_shr, J_andn, J_and, J_or, J_xor, J_div, J_rem, J_lt, J_le, J_eq, J_lt0, J_le0, J_0le, J_0lt, J_eq0, vp_in_J, J_clamp, J_max, J_abs, Int.toNat_natCast, Int.reduceToNat, Int.reduceAdd, Int.reduceSub, Int.reduceMul, Int.reduceNeg, not_true_eq_false, not_false_eq_true] at c; omega
      · rw [J_suc, nI2 (by omega)]
        refine ih (j + 1) (by omega) _ (fun y hy => ?_) (fun y hy => ?_) ?_ (fun a i h1 h2 h3 h4 h5 => ?_) (fun i hi => ?_)
        · rw [mset_o (by decide)]; exact g1 y hy
        · rw [mset_o (by decide)]; exact g2 y hy
        · rw [mset_o (by decide)]; exact g3
        · rw [mset_o h4]; exact g4 a i h1 h2 h3 h4 h5
        · by_cases hij : i = j
          · subst hij; rw [mset_self]
          · rw [mset_k hij]; exact g5 i (by omega)
  have key2 : ∀ k j : Nat, j + k = 24 → ∀ M1 : Mem, (∀ y, y < 20 → M1 10 y = J (opF σ oth (sS σ p) y)) → (∀ a j, a ≠ 9 → a ≠ 10 → M1 a j = M a j) → (∀ i, i < j → M1 9 i = J (bdF σ i)) → R none (d + 4) mX2_survey 73 [.ref 2, .null, .null, .int (J (sS σ p : Int)), .int (J (j : Int))] [] M1 Q := by
    intro k
    induction k with
    | zero =>
      intro j hj M1 g1 g4 g5
      refine b_X2_survey_73 ⟨fun _ => ?_, fun c => ?_⟩
      · refine ok_markClear_u hs (bdF_lt hW) (fun i hi => g5 i (by omega)) (fun M2 f1 f2 => rn_none ?_)
        refine key3 400 0 (by omega) _ (fun y hy => ?_) (fun y hy => ?_) ?_ (fun a i h1 h2 h3 h4 h5 => ?_) (fun i hi => by omega)
        · rw [mset_o (by decide), f1 10 y (by decide)]; exact g1 y hy
        · rw [mset_o (by decide)]; exact f2 y hy
        · exact mset_self
        · rcases h5 with h5 | h5
          · rw [mset_o h5, f1 a i h3]; exact g4 a i h1 h2
          · rw [mset_k h5, f1 a i h3]; exact g4 a i h1 h2
      · simp (disch := omega) only [J_add, J_sub, J_mul, J_neg, J_bit, J_shl, J_shr, J_andn, J_and, J_or, J_xor, J_div, J_rem, J_lt, J_le, J_eq, J_lt0, J_le0, J_0le, J_0lt, J_eq0, vp_in_J, J_clamp, J_max, J_abs, Int.toNat_natCast, Int.reduceToNat, Int.reduceAdd, Int.reduceSub, Int.reduceMul, Int.reduceNeg, not_true_eq_false, not_false_eq_true] at c; omega
    | succ k ih =>
      intro j hj M1 g1 g4 g5
      refine b_X2_survey_73 ⟨fun c => ?_, fun _ => ?_⟩
      · simp (disch := omega) only [J_add, J_sub, J_mul, J_neg, J_bit, J_shl, J_shr, J_andn, J_and, J_or, J_xor, J_div, J_rem, J_lt, J_le, J_eq, J_lt0, J_le0, J_0le, J_0lt, J_eq0, vp_in_J, J_clamp, J_max, J_abs, Int.toNat_natCast, Int.reduceToNat, Int.reduceAdd, Int.reduceSub, Int.reduceMul, Int.reduceNeg, not_true_eq_false, not_false_eq_true] at c; omega
      · have hT1 : TR M1 σ := hT.keep ⟨fun k => g4 1 k (by decide) (by decide), fun a j h1 h2 => g4 a j (by omega) (by omega)⟩
        rw [J_add]
        refine ok_boardSquares hT1 hW (by omega) (by omega) (ri_some ⟨vin (by omega) (by omega), ?_⟩)
        rw [J_suc, nI2 (by omega)]
        refine ih (j + 1) (by omega) _ (fun y hy => ?_) (fun a i h1 h2 => ?_) (fun i hi => ?_)
        · rw [mset_o (by decide)]; exact g1 y hy
        · rw [mset_o h1]; exact g4 a i h1 h2
        · by_cases hij : i = j
          · subst hij; rw [mset_self]; rfl
          · rw [mset_k hij]; exact g5 i (by omega)
  have key1 : ∀ k j : Nat, j + k = 24 → ∀ M1 : Mem, (∀ a j, a ≠ 9 → M1 a j = M a j) → (∀ i, i < j → M1 9 i = J (tkF σ oth i)) → R none (d + 4) mX2_survey 12 [.ref 2, .null, .int (J (oth : Int)), .int (J (sS σ p : Int)), .int (J (j : Int))] [] M1 Q := by
    intro k
    induction k with
    | zero =>
      intro j hj M1 g4 g5
      refine b_X2_survey_12 ⟨fun _ => ?_, fun c => ?_⟩
      · refine ok_markClear_o hs (tkF_lt hW oth) (fun i hi => g5 i (by omega)) (fun M2 f1 f2 => rn_none ?_)
        refine key2 24 0 (by omega) _ f2 (fun a i h1 h2 => ?_) (fun i hi => by omega)
        rw [f1 a i h2]; exact g4 a i h1
      · simp (disch := omega) only [J_add, J_sub, J_mul, J_neg, J_bit, J_shl, J_shr, J_andn, J_and, J_or, J_xor, J_div, J_rem, J_lt, J_le, J_eq, J_lt0, J_le0, J_0le, J_0lt, J_eq0, vp_in_J, J_clamp, J_max, J_abs, Int.toNat_natCast, Int.reduceToNat, Int.reduceAdd, Int.reduceSub, Int.reduceMul, Int.reduceNeg, not_true_eq_false, not_false_eq_true] at c; omega
    | succ k ih =>
      intro j hj M1 g4 g5
      refine b_X2_survey_12 ⟨fun c => ?_, fun _ => ?_⟩
      · simp (disch := omega) only [J_add, J_sub, J_mul, J_neg, J_bit, J_shl, J_shr, J_andn, J_and, J_or, J_xor, J_div, J_rem, J_lt, J_le, J_eq, J_lt0, J_le0, J_0le, J_0lt, J_eq0, vp_in_J, J_clamp, J_max, J_abs, Int.toNat_natCast, Int.reduceToNat, Int.reduceAdd, Int.reduceSub, Int.reduceMul, Int.reduceNeg, not_true_eq_false, not_false_eq_true] at c; omega
      · have hT1 : TR M1 σ := hT.keep ⟨fun k => g4 1 k (by decide), fun a j h1 h2 => g4 a j (by omega)⟩
        rw [J_add]
        refine ok_wallSquares hT1 hW (by omega) (by omega) (ri_some ?_)
        refine ok_squaresOfSet hT1 hW ho (by omega) (by omega) (ri_some ⟨vin (by omega) (by omega), ?_⟩)
        rw [J_suc, nI2 (by omega), J_orN]
        refine ih (j + 1) (by omega) _ (fun a i h1 => ?_) (fun i hi => ?_)
        · rw [mset_o h1]; exact g4 a i h1
        · by_cases hij : i = j
          · subst hij; rw [mset_self]; rfl
          · rw [mset_k hij]; exact g5 i (by omega)
  exact key1 24 0 (by omega) M (fun _ _ _ => rfl) (fun i hi => by omega)
/-! places -/
def plc (x y : Int) : Nat := (20 * (y + 6) + (x + 6)).toNat
theorem J_quo {n m : Nat} (hn : n < 2147483648) (h0 : 0 < m) (hm : m < 2147483648) : J (n : Int) / J (m : Int) = J ((n / m : Nat) : Int) := by
  rw [J_div (by omega) (by omega) (by omega) (by omega), Int.natCast_ediv]
theorem J_remN {n m : Nat} (hn : n < 2147483648) (h0 : 0 < m) (hm : m < 2147483648) : J (n : Int) - J (n : Int) / J (m : Int) * J (m : Int) = J ((n % m : Nat) : Int) := by
  rw [J_quo hn h0 hm, J_mul, J_sub]
  congr 1
  have := Nat.div_add_mod n m
  rw [Nat.mul_comm] at this
  rw [← Int.natCast_mul]
  omega
theorem ok_isMarked_o {k : Nat} {f : Nat → Nat} (hk : k < 400) (hf : ∀ y, y < 20 → M 10 y = J (f y) ∧ f y < 1048576) (h : Q (some (jb ((f (k / 20)).testBit (k % 20)))) M) : Mt (d + 1) mX2_isMarked [.ref 10, .int (J (k : Int))] M Q := by
  refine e_X2_isMarked_o ?_
  rw [show J 20 = J ((20 : Nat) : Int) from rfl, J_remN (by omega) (by omega) (by omega), J_quo (by omega) (by omega) (by omega), nI2 (by omega), (hf _ (by omega)).1, J_tb (by have := (hf (k / 20) (by omega)).2; omega) (by omega), jb_eq1]
  refine ⟨fun c => ?_, fun _ => ⟨fun _ => ⟨vin (by omega) (by omega), fun c => ?_, fun c => ?_⟩, fun c => ?_⟩⟩
  · simp (disch := omega) only [J_add, J_sub, J_mul, J_neg, J_bit, J_shl, J_shr, J_andn, J_and, J_or, J_xor, J_div, J_rem, J_lt, J_le, J_eq, J_lt0, J_le0, J_0le, J_0lt, J_eq0, vp_in_J, J_clamp, J_max, J_abs, Int.toNat_natCast, Int.reduceToNat, Int.reduceAdd, Int.reduceSub, Int.reduceMul, Int.reduceNeg, not_true_eq_false, not_false_eq_true] at c; omega
  · rw [Bool.not_eq_true] at c; rw [c] at h; exact h
  · rw [c] at h; exact h
  · simp (disch := omega) only [J_add, J_sub, J_mul, J_neg, J_bit, J_shl, J_shr, J_andn, J_and, J_or, J_xor, J_div, J_rem, J_lt, J_le, J_eq, J_lt0, J_le0, J_0le, J_0lt, J_eq0, vp_in_J, J_clamp, J_max, J_abs, Int.toNat_natCast, Int.reduceToNat, Int.reduceAdd, Int.reduceSub, Int.reduceMul, Int.reduceNeg, not_true_eq_false, not_false_eq_true] at c; omega
theorem ok_isMarked_on {z : Int} (hz : z < 0) (hz2 : -1000 ≤ z) (h : Q (some (jb false)) M) : Mt (d + 1) mX2_isMarked [.ref 10, .int (J z)] M Q := by
  refine e_X2_isMarked_o ⟨fun _ => h, fun c => ?_⟩
  simp (disch := omega) only [J_add, J_sub, J_mul, J_neg, J_bit, J_shl, J_shr, J_andn, J_and, J_or, J_xor, J_div, J_rem, J_lt, J_le, J_eq, J_lt0, J_le0, J_0le, J_0lt, J_eq0, vp_in_J, J_clamp, J_max, J_abs, Int.toNat_natCast, Int.reduceToNat, Int.reduceAdd, Int.reduceSub, Int.reduceMul, Int.reduceNeg, not_true_eq_false, not_false_eq_true] at c; omega
theorem ok_isMarked_u {k : Nat} {f : Nat → Nat} (hk : k < 400) (hf : ∀ y, y < 20 → M 11 y = J (f y) ∧ f y < 1048576) (h : Q (some (jb ((f (k / 20)).testBit (k % 20)))) M) : Mt (d + 1) mX2_isMarked [.ref 11, .int (J (k : Int))] M Q := by
  refine e_X2_isMarked_u ?_
  rw [show J 20 = J ((20 : Nat) : Int) from rfl, J_remN (by omega) (by omega) (by omega), J_quo (by omega) (by omega) (by omega), nI2 (by omega), (hf _ (by omega)).1, J_tb (by have := (hf (k / 20) (by omega)).2; omega) (by omega), jb_eq1]
  refine ⟨fun c => ?_, fun _ => ⟨fun _ => ⟨vin (by omega) (by omega), fun c => ?_, fun c => ?_⟩, fun c => ?_⟩⟩
  · simp (disch := omega) only [J_add, J_sub, J_mul, J_neg, J_bit, J_shl, J_shr, J_andn, J_and, J_or, J_xor, J_div, J_rem, J_lt, J_le, J_eq, J_lt0, J_le0, J_0le, J_0lt, J_eq0, vp_in_J, J_clamp, J_max, J_abs, Int.toNat_natCast, Int.reduceToNat, Int.reduceAdd, Int.reduceSub, Int.reduceMul, Int.reduceNeg, not_true_eq_false, not_false_eq_true] at c; omega
  · rw [Bool.not_eq_true] at c; rw [c] at h; exact h
  · rw [c] at h; exact h
  · simp (disch := omega) only [J_add, J_sub, J_mul, J_neg, J_bit, J_shl, J_shr, J_andn, J_and, J_or, J_xor, J_div, J_rem, J_lt, J_le, J_eq, J_lt0, J_le0, J_0le, J_0lt, J_eq0, vp_in_J, J_clamp, J_max, J_abs, Int.toNat_natCast, Int.reduceToNat, Int.reduceAdd, Int.reduceSub, Int.reduceMul, Int.reduceNeg, not_true_eq_false, not_false_eq_true] at c; omega
theorem ok_placeAt {x y : Int} (hx : -6 ≤ x ∧ x ≤ 13) (hy : -6 ≤ y ∧ y ≤ 13) (h : Q (some (J (plc x y))) M) : Mt (d + 2) mX2_placeAt [.int (J x), .int (J y)] M Q := by
  refine e_X2_placeAt (ok_isPlace (by omega) (by omega) (by omega) (by omega) (ri_some ?_))
  rw [decide_eq_true ⟨hx, hy⟩]
  refine ⟨fun c => absurd c (by decide +kernel), fun _ => ?_⟩
  rw [J_sub, J_mul, J_add, J_sub, show 20 * (y - -6) + x - -6 = ((plc x y : Nat) : Int) by unfold plc; omega]
  exact h
theorem plc_lt {x y : Int} (hx : -6 ≤ x ∧ x ≤ 13) (hy : -6 ≤ y ∧ y ≤ 13) : plc x y < 400 := by unfold plc; omega
theorem plc_mod {x y : Int} (hx : -6 ≤ x ∧ x ≤ 13) (hy : -6 ≤ y ∧ y ≤ 13) : ((plc x y % 20 : Nat) : Int) = x + 6 := by unfold plc; omega
theorem plc_div {x y : Int} (hx : -6 ≤ x ∧ x ≤ 13) (hy : -6 ≤ y ∧ y ≤ 13) : ((plc x y / 20 : Nat) : Int) = y + 6 := by unfold plc; omega
theorem ok_whereLies {p : Nat} (hT : TR M σ) (hW : WF σ) (hp : (sL σ).testBit p = true) (h : Q (some (J (plc (sX σ p) (sY σ p)))) M) : Mt (d + 3) mX2_whereLies [.ref 2, .int (J (p : Int))] M Q := by
  have hx := hW.P hp
  exact e_X2_whereLies (ok_xOf hT hW hp (ri_some (ok_yOf hT hW hp (ri_some (ok_placeAt hx.1 hx.2 (ri_some h))))))
/-- a place is open, is out: by its number -/
def opn (σ : St) (oth s k : Nat) : Bool := (opF σ oth s (k / 20)).testBit (k % 20)
def oun (σ : St) (s k : Nat) : Bool := (ouF σ s (k / 20)).testBit (k % 20)
theorem opn_P (hW : WF σ) {oth s k : Nat} : opn σ oth s k = true ↔ stP σ oth s (((k % 20 : Nat) : Int) - 6) (((k / 20 : Nat) : Int) - 6) := opF_bit hW oth s (Nat.mod_lt _ (by omega))
theorem oun_P (hW : WF σ) {s k : Nat} : oun σ s k = true ↔ outP σ s (((k % 20 : Nat) : Int) - 6) (((k / 20 : Nat) : Int) - 6) := ouF_bit hW s (Nat.mod_lt _ (by omega))
theorem ok_marked {oth s k : Nat} {M0 : Mem} (hk : k < 400) (hS : ∀ y, y < 20 → M 10 y = J (opF σ oth s y)) (h : Q (some (jb (opn σ oth s k))) M) : Mt (d + 1) mX2_isMarked [.ref 10, .int (J (k : Int))] M Q :=
  ok_isMarked_o hk (fun y hy => ⟨hS y hy, markN_lt _ _ _⟩) h
theorem ok_markedU {s k : Nat} (hk : k < 400) (hS : ∀ y, y < 20 → M 11 y = J (ouF σ s y)) (h : Q (some (jb (oun σ s k))) M) : Mt (d + 1) mX2_isMarked [.ref 11, .int (J (k : Int))] M Q :=
  ok_isMarked_u hk (fun y hy => ⟨hS y hy, markN_lt _ _ _⟩) h
/-- what the methods of Paths may change -/
def PF (M M' : Mem) : Prop := ∀ a j, a ≠ 9 → a ≠ 10 → a ≠ 11 → a ≠ 12 → a ≠ 13 → (a ≠ 2 ∨ j ≠ 6) → M' a j = M a j
theorem SV.PF {oth s : Nat} {M' : Mem} (h : SV σ oth s M M') : PF M M' := fun a j h1 h2 h3 h4 _ h6 => h.2.2.2.2 a j h1 h2 h3 h4 h6
theorem PF.TK {M' : Mem} (h : PF M M') : TK M M' := ⟨fun k => h 1 k (by decide) (by decide) (by decide) (by decide) (by decide) (Or.inl (by decide)), fun a j h1 h2 => h a j (by omega) (by omega) (by omega) (by omega) (by omega) (Or.inl (by omega))⟩
theorem PF.rf : PF M M := fun _ _ _ _ _ _ _ _ => rfl
theorem PF.tr {M1 M2 : Mem} (h : PF M M1) (g : PF M1 M2) : PF M M2 := fun a j h1 h2 h3 h4 h5 h6 => (g a j h1 h2 h3 h4 h5 h6).trans (h a j h1 h2 h3 h4 h5 h6)
theorem wo_lt {a b n : Nat} (h : a < n) : wo a b < n := Nat.lt_of_le_of_lt (wo_le a b) h
theorem ok_canStand {p : Nat} {x y : Int} (hT : TR M σ) (hW : WF σ) (hp : p < sN σ) (hx : -6 ≤ x ∧ x ≤ 13) (hy : -6 ≤ y ∧ y ≤ 13) (h : ∀ M', PF M M' → Q (some (jb (pb (stP σ (wo (sL σ) (2 ^ p)) (sS σ p) x y)))) M') : Mt (d + 5) mX2_canStand [.ref 2, .int (J (p : Int)), .int (J x), .int (J y)] M Q := by
  have hl := hW.L
  refine e_X2_canStand (ok_lyingBeside hT hW hp (ri_some (ok_survey hT hW hp (wo_lt (by omega)) (fun M1 hS => rn_none (ok_placeAt hx hy (ri_some ?_))))))
  refine ok_marked (M0 := M) (plc_lt hx hy) hS.1 (ri_some ⟨jb_zo _, ?_⟩)
  rw [show opn σ (wo (sL σ) (2 ^ p)) (sS σ p) (plc x y) = pb (stP σ (wo (sL σ) (2 ^ p)) (sS σ p) x y) from pb_eq (by
    rw [opn_P hW, plc_mod hx hy, plc_div hx hy, show x + 6 - 6 = x by omega, show y + 6 - 6 = y by omega])]
  exact h M1 hS.PF
theorem ok_isOut {p : Nat} (hT : TR M σ) (hW : WF σ) (hp : (sL σ).testBit p = true) (h : ∀ M', PF M M' → Q (some (jb (pb (outP σ (sS σ p) (sX σ p) (sY σ p))))) M') : Mt (d + 5) mX2_isOutWhereItLies [.ref 2, .int (J (p : Int))] M Q := by
  have hl := hW.L
  have hx := hW.P hp
  have hp2 := hW.lp hp
  refine e_X2_isOutWhereItLies (ok_lyingBeside hT hW hp2 (ri_some (ok_survey hT hW hp2 (wo_lt (by omega)) (fun M1 hS => rn_none (ok_whereLies (hT.keep hS.TK) hW hp (ri_some ?_))))))
  refine ok_markedU (σ := σ) (s := sS σ p) (plc_lt hx.1 hx.2) hS.2.1 (ri_some ⟨jb_zo _, ?_⟩)
  rw [show oun σ (sS σ p) (plc (sX σ p) (sY σ p)) = pb (outP σ (sS σ p) (sX σ p) (sY σ p)) from pb_eq (by
    rw [oun_P hW, plc_mod hx.1 hx.2, plc_div hx.1 hx.2, show sX σ p + 6 - 6 = sX σ p by omega, show sY σ p + 6 - 6 = sY σ p by omega])]
  exact h M1 hS.PF
end SUR
