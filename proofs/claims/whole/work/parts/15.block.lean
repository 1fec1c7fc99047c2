/-! who blocks whom -/
def swR (n : Nat) : Nat → Nat
  | 0 => n
  | k + 1 => swR n k ||| swR n k * 2
def swL (n : Nat) : Nat → Nat
  | 0 => n
  | k + 1 => swL n k ||| swL n k / 2
theorem swR_bit (n i : Nat) : ∀ k, (swR n k).testBit i = true ↔ ∃ j, j ≤ k ∧ j ≤ i ∧ n.testBit (i - j) = true := by
  intro k
  induction k generalizing i with
  | zero =>
    rw [swR]
    constructor
    · intro h; exact ⟨0, by omega, by omega, h⟩
    · rintro ⟨j, h1, h2, h3⟩
      have : j = 0 := by omega
      subst this; exact h3
  | succ k ih =>
    rw [swR, Nat.testBit_or, Bool.or_eq_true, ih, show (2 : Nat) = 2 ^ 1 from rfl, Nat.testBit_mul_two_pow, Bool.and_eq_true, decide_eq_true_iff, ih]
    constructor
    · rintro (⟨j, h1, h2, h3⟩ | ⟨h0, j, h1, h2, h3⟩)
      · exact ⟨j, by omega, h2, h3⟩
      · exact ⟨j + 1, by omega, by omega, by rw [show i - (j + 1) = i - 1 - j by omega]; exact h3⟩
    · rintro ⟨j, h1, h2, h3⟩
      by_cases e : j ≤ k
      · exact Or.inl ⟨j, e, h2, h3⟩
      · exact Or.inr ⟨by omega, j - 1, by omega, by omega, by rw [show i - 1 - (j - 1) = i - j by omega]; exact h3⟩
theorem swL_bit (n i : Nat) : ∀ k, (swL n k).testBit i = true ↔ ∃ j, j ≤ k ∧ n.testBit (i + j) = true := by
  intro k
  induction k generalizing i with
  | zero =>
    rw [swL]
    constructor
    · intro h; exact ⟨0, by omega, h⟩
    · rintro ⟨j, h1, h3⟩
      have : j = 0 := by omega
      subst this; exact h3
  | succ k ih =>
    rw [swL, Nat.testBit_or, Bool.or_eq_true, ih, Nat.testBit_div_two, ih]
    constructor
    · rintro (⟨j, h1, h3⟩ | ⟨j, h1, h3⟩)
      · exact ⟨j, by omega, h3⟩
      · exact ⟨j + 1, by omega, by rw [show i + (j + 1) = i + 1 + j by omega]; exact h3⟩
    · rintro ⟨j, h1, h3⟩
      by_cases e : j ≤ k
      · exact Or.inl ⟨j, e, h3⟩
      · exact Or.inr ⟨j - 1, by omega, by rw [show i + 1 + (j - 1) = i + j by omega]; exact h3⟩
theorem swL_lt {n : Nat} (h : n < 2 ^ 24) : ∀ k, swL n k < 2 ^ 24 := by
  intro k
  induction k with
  | zero => exact h
  | succ k ih =>
    rw [swL]
    exact Nat.or_lt_two_pow ih (by omega)
theorem two_bit (a i : Nat) : (2 ^ a).testBit i = true ↔ i = a := by
  rw [Nat.testBit_two_pow, decide_eq_true_iff]
  exact ⟨fun h => h.symm, fun h => h.symm⟩
/-- a set by what its members are -/
def setN (f : Nat → Bool) (n : Nat) : Nat := orN (fun a => if f a = true then 2 ^ a else 0) n
theorem setN_bit (f : Nat → Bool) (n i : Nat) : (setN f n).testBit i = true ↔ i < n ∧ f i = true := by
  unfold setN
  rw [orN_bit]
  constructor
  · rintro ⟨p, h1, h2⟩
    split at h2
    · next h3 =>
      rw [two_bit] at h2
      subst h2; exact ⟨h1, h3⟩
    · simp at h2
  · rintro ⟨h1, h2⟩
    exact ⟨i, h1, by rw [if_pos h2, two_bit]⟩
theorem setN_lt (f : Nat → Bool) : ∀ n, setN f n < 2 ^ n := by
  intro n
  induction n with
  | zero => show 0 < 1; omega
  | succ n ih =>
    unfold setN at ih ⊢
    rw [orN]
    refine Nat.or_lt_two_pow (Nat.lt_of_lt_of_le ih (Nat.pow_le_pow_right (by omega) (by omega))) ?_
    split
    · exact Nat.pow_lt_pow_right (by omega) (by omega)
    · exact Nat.two_pow_pos _
section BLK
variable {d : Nat} {M : Mem} {Q : Post} {σ : St}
def pnF (σ : St) (t : Nat) (y : Int) (a : Nat) : Bool := decide (sqR σ a y &&& t ≠ 0)
theorem ok_piecesOn {t : Nat} {y : Int} (hT : TR M σ) (hW : WF σ) (h1 : -1000 ≤ y) (h2 : y < 1000) (h : Q (some (J (setN (pnF σ t y) (sN σ) : Nat))) M) : Mt (d + 3) mX3_piecesOn [.ref 1, .int (J (t : Int)), .int (J y)] M Q := by
  have hN := hW.N
  refine e_X3_piecesOn ?_
  have key : ∀ k j : Nat, j + k = sN σ → R none (d + 3) mX3_piecesOn 5 [.ref 1, .int (J (t : Int)), .int (J y), .int (J (setN (pnF σ t y) j : Nat)), .int (J (j : Int))] [] M Q := by
    intro k
    induction k with
    | zero =>
      intro j hj
      refine b_X3_piecesOn_5 ⟨fun _ => ?_, fun q => ?_⟩
      · rw [show j = sN σ by omega]; exact h
      · rw [hT.2.2.1] at q
        simp (disch := omega) only [J_add, J_sub, J_mul, J_neg, J_bit, J_shl, J_shr, J_andn, J_and, J_or, J_xor, J_div, J_rem, J_lt, J_le, J_eq, J_lt0, J_le0, J_0le, J_0lt, J_eq0, vp_in_J, J_clamp, J_max, J_abs, Int.toNat_natCast, Int.reduceToNat, Int.reduceAdd, Int.reduceSub, Int.reduceMul, Int.reduceNeg, not_true_eq_false, not_false_eq_true] at q; omega
    | succ k ih =>
      intro j hj
      have hlt := sqR_lt hW j y
      have hle : sqR σ j y &&& t ≤ sqR σ j y := Nat.and_le_left
      have ih2 := ih (j + 1) (by omega)
      unfold setN at ih2 ⊢
      rw [orN] at ih2
      refine b_X3_piecesOn_5 ⟨fun q => ?_, fun _ => ok_squaresOf hT hW (by omega) h1 h2 (ri_some ?_)⟩
      · rw [hT.2.2.1] at q
        simp (disch := omega) only [J_add, J_sub, J_mul, J_neg, J_bit, J_shl, J_shr, J_andn, J_and, J_or, J_xor, J_div, J_rem, J_lt, J_le, J_eq, J_lt0, J_le0, J_0le, J_0lt, J_eq0, vp_in_J, J_clamp, J_max, J_abs, Int.toNat_natCast, Int.reduceToNat, Int.reduceAdd, Int.reduceSub, Int.reduceMul, Int.reduceNeg, not_true_eq_false, not_false_eq_true] at q; omega
      · rw [J_andN, J_eq0 (by omega) (by omega), J_suc]
        refine ⟨fun q => ?_, fun q => ?_⟩
        · rw [if_neg (by unfold pnF; rw [decide_eq_true_iff]; omega), Nat.or_zero] at ih2
          exact ih2
        · rw [if_pos (by unfold pnF; rw [decide_eq_true_iff]; omega)] at ih2
          rw [J_or1 (by omega)]
          exact ih2
  exact key (sN σ) 0 (by omega)
theorem ok_sweptR {t : Nat} (h : Q (some (J (swR t 23 : Nat))) M) : Mt (d + 1) mX3_sweptAlong [.int (J (t : Int)), .int (J 0)] M Q := by
  refine e_X3_sweptAlong ?_
  have key : ∀ k j : Nat, j + k = 23 → R none (d + 1) mX3_sweptAlong 4 [.null, .int (J 0), .int (J (swR t j : Nat)), .int (J ((j + 1 : Nat) : Int))] [] M Q := by
    intro k
    induction k with
    | zero =>
      intro j hj
      refine b_X3_sweptAlong_4 ⟨fun _ => ?_, fun q => ?_⟩
      · rw [show j = 23 by omega]; exact h
      · simp (disch := omega) only [J_add, J_sub, J_mul, J_neg, J_bit, J_shl, J_shr, J_andn, J_and, J_or, J_xor, J_div, J_rem, J_lt, J_le, J_eq, J_lt0, J_le0, J_0le, J_0lt, J_eq0, vp_in_J, J_clamp, J_max, J_abs, Int.toNat_natCast, Int.reduceToNat, Int.reduceAdd, Int.reduceSub, Int.reduceMul, Int.reduceNeg, not_true_eq_false, not_false_eq_true] at q; omega
    | succ k ih =>
      intro j hj
      refine b_X3_sweptAlong_4 ⟨fun q => ?_, fun _ => ⟨fun q => absurd rfl q, fun _ => ?_⟩⟩
      · simp (disch := omega) only [J_add, J_sub, J_mul, J_neg, J_bit, J_shl, J_shr, J_andn, J_and, J_or, J_xor, J_div, J_rem, J_lt, J_le, J_eq, J_lt0, J_le0, J_0le, J_0lt, J_eq0, vp_in_J, J_clamp, J_max, J_abs, Int.toNat_natCast, Int.reduceToNat, Int.reduceAdd, Int.reduceSub, Int.reduceMul, Int.reduceNeg, not_true_eq_false, not_false_eq_true] at q; omega
      · rw [J_suc, J_shl (by omega) (by omega), show (swR t j : Int) * 2 ^ (1 : Int).toNat = ((swR t j * 2 : Nat) : Int) by rw [Int.natCast_mul]; rfl, J_orN]
        exact ih (j + 1) (by omega)
  exact key 23 0 (by omega)
theorem ok_sweptL {t : Nat} (ht : t < 2 ^ 24) (h : Q (some (J (swL t 23 : Nat))) M) : Mt (d + 1) mX3_sweptAlong [.int (J (t : Int)), .int (J 2)] M Q := by
  refine e_X3_sweptAlong ?_
  have key : ∀ k j : Nat, j + k = 23 → R none (d + 1) mX3_sweptAlong 4 [.null, .int (J 2), .int (J (swL t j : Nat)), .int (J ((j + 1 : Nat) : Int))] [] M Q := by
    intro k
    induction k with
    | zero =>
      intro j hj
      refine b_X3_sweptAlong_4 ⟨fun _ => ?_, fun q => ?_⟩
      · rw [show j = 23 by omega]; exact h
      · simp (disch := omega) only [J_add, J_sub, J_mul, J_neg, J_bit, J_shl, J_shr, J_andn, J_and, J_or, J_xor, J_div, J_rem, J_lt, J_le, J_eq, J_lt0, J_le0, J_0le, J_0lt, J_eq0, vp_in_J, J_clamp, J_max, J_abs, Int.toNat_natCast, Int.reduceToNat, Int.reduceAdd, Int.reduceSub, Int.reduceMul, Int.reduceNeg, not_true_eq_false, not_false_eq_true] at q; omega
    | succ k ih =>
      intro j hj
      have hl := swL_lt ht j
      refine b_X3_sweptAlong_4 ⟨fun q => ?_, fun _ => ⟨fun _ => ?_, fun q => absurd q (by decide +kernel)⟩⟩
      · simp (disch := omega) only [J_add, J_sub, J_mul, J_neg, J_bit, J_shl, J_shr, J_andn, J_and, J_or, J_xor, J_div, J_rem, J_lt, J_le, J_eq, J_lt0, J_le0, J_0le, J_0lt, J_eq0, vp_in_J, J_clamp, J_max, J_abs, Int.toNat_natCast, Int.reduceToNat, Int.reduceAdd, Int.reduceSub, Int.reduceMul, Int.reduceNeg, not_true_eq_false, not_false_eq_true] at q; omega
      · rw [J_suc, show J 1 = J ((1 : Nat) : Int) from rfl, J_ushrN (by omega) (by omega), show 2 ^ 1 = 2 from rfl, J_orN]
        exact ih (j + 1) (by omega)
  exact key 23 0 (by omega)
def yI (e : Int) (i : Nat) : Int := if e = 3 then 17 - (i : Int) else -6 + (i : Int)
def gI (σ : St) (p : Nat) (e : Int) (i : Nat) : Nat := sqR σ p (yI e i)
def SW (σ : St) (p : Nat) (e : Int) (i : Nat) : Nat := if e = 0 then swR (gI σ p e i) 23 else if e = 2 then swL (gI σ p e i) 23 else orN (gI σ p e) (i + 1)
def bF (σ : St) (p : Nat) (e : Int) (i : Nat) : Nat := setN (pnF σ (SW σ p e i) (yI e i)) (sN σ)
theorem ok_blockersOf0 {p : Nat} {e : Int} (hT : TR M σ) (hW : WF σ) (hp : p < sN σ) (he : 0 ≤ e ∧ e ≤ 3) (h : Q (some (J (orN (bF σ p e) 24 &&& wo (sL σ) (2 ^ p) : Nat))) M) : Mt (d + 4) mX3_blockersOf [.ref 1, .int (J (p : Int)), .int (J e)] M Q := by
  have hN := hW.N
  refine e_X3_blockersOf ?_
  have key : ∀ k j : Nat, j + k = 24 → ∀ x4 : Int32, ((e = 1 ∨ e = 3) → x4 = J (orN (gI σ p e) j : Nat)) → R none (d + 4) mX3_blockersOf 8 [.ref 1, .int (J (p : Int)), .int (J e), .int (J (orN (bF σ p e) j : Nat)), .int x4, .int (J (j : Int)), .null, .null] [] M Q := by
    intro k
    induction k with
    | zero =>
      intro j hj x4 hx
      refine b_X3_blockersOf_8 ⟨fun _ => ok_lyingBeside hT hW hp (ri_some ?_), fun q => ?_⟩
      · rw [show j = 24 by omega, J_andN]; exact h
      · simp (disch := omega) only [J_add, J_sub, J_mul, J_neg, J_bit, J_shl, J_shr, J_andn, J_and, J_or, J_xor, J_div, J_rem, J_lt, J_le, J_eq, J_lt0, J_le0, J_0le, J_0lt, J_eq0, vp_in_J, J_clamp, J_max, J_abs, Int.toNat_natCast, Int.reduceToNat, Int.reduceAdd, Int.reduceSub, Int.reduceMul, Int.reduceNeg, not_true_eq_false, not_false_eq_true] at q; omega
    | succ k ih =>
      intro j hj x4 hx
      have hg : gI σ p e j < 2 ^ 24 := sqR_lt hW _ _
      refine b_X3_blockersOf_8 ⟨fun q => ?_, fun _ => ?_⟩
      · simp (disch := omega) only [J_add, J_sub, J_mul, J_neg, J_bit, J_shl, J_shr, J_andn, J_and, J_or, J_xor, J_div, J_rem, J_lt, J_le, J_eq, J_lt0, J_le0, J_0le, J_0lt, J_eq0, vp_in_J, J_clamp, J_max, J_abs, Int.toNat_natCast, Int.reduceToNat, Int.reduceAdd, Int.reduceSub, Int.reduceMul, Int.reduceNeg, not_true_eq_false, not_false_eq_true] at q; omega
      · rw [J_suc]
        refine ⟨fun q => ?_, fun q => ?_⟩
        · have q3 : e ≠ 3 := fun h3 => q (by rw [h3])
          rw [J_add]
          have ey : -6 + (j : Int) = yI e j := by unfold yI; rw [if_neg q3]
          rw [ey]
          have by1 : -1000 ≤ yI e j ∧ yI e j < 1000 := by omega
          refine ok_squaresOf hT hW (by omega) by1.1 by1.2 (ri_some (ok_stepX (by omega) (by omega) (ri_some ?_)))
          rw [show sqR σ p (yI e j) = gI σ p e j from rfl]
          rcases (show e = 0 ∨ e = 1 ∨ e = 2 by omega) with r | r | r
          · refine ⟨fun _ => ?_, fun c => ?_⟩
            · rw [show J e = J 0 by rw [r]]
              refine ok_sweptR (ri_some (ok_piecesOn hT hW by1.1 by1.2 (ri_some ?_)))
              rw [J_orN]
              have := ih (j + 1) (by omega) (J (swR (gI σ p e j) 23 : Nat)) (fun h => by omega)
              rw [orN, show bF σ p e j = setN (pnF σ (swR (gI σ p e j) 23) (yI e j)) (sN σ) by unfold bF SW; rw [if_pos r]] at this
              rw [show J 0 = J e by rw [r]]
              exact this
            · rw [r] at c; exact absurd c (by decide +kernel)
          · refine ⟨fun c => ?_, fun _ => ?_⟩
            · rw [r] at c; exact absurd c (by decide +kernel)
            · rw [hx (Or.inl r), J_orN]
              refine ok_piecesOn hT hW by1.1 by1.2 (ri_some ?_)
              rw [J_orN]
              have := ih (j + 1) (by omega) (J (orN (gI σ p e) j ||| gI σ p e j : Nat)) (fun _ => by rw [orN])
              rw [orN, show bF σ p e j = setN (pnF σ (orN (gI σ p e) j ||| gI σ p e j) (yI e j)) (sN σ) by unfold bF SW; rw [if_neg (by omega), if_neg (by omega), orN]] at this
              exact this
          · refine ⟨fun _ => ?_, fun c => ?_⟩
            · rw [show J e = J 2 by rw [r]]
              refine ok_sweptL hg (ri_some (ok_piecesOn hT hW by1.1 by1.2 (ri_some ?_)))
              rw [J_orN]
              have := ih (j + 1) (by omega) (J (swL (gI σ p e j) 23 : Nat)) (fun h => by omega)
              rw [orN, show bF σ p e j = setN (pnF σ (swL (gI σ p e j) 23) (yI e j)) (sN σ) by unfold bF SW; rw [if_neg (by omega), if_pos r]] at this
              rw [show J 2 = J e by rw [r]]
              exact this
            · rw [r] at c; exact absurd c (by decide +kernel)
        · have q3 : e = 3 := by
            simp (disch := omega) only [J_add, J_sub, J_mul, J_neg, J_bit, J_shl, J_shr, J_andn, J_and, J_or, J_xor, J_div, J_rem, J_lt, J_le, J_eq, J_lt0, J_le0, J_0le, J_0lt, J_eq0, vp_in_J, J_clamp, J_max, J_abs, Int.toNat_natCast, Int.reduceToNat, Int.reduceAdd, Int.reduceSub, Int.reduceMul, Int.reduceNeg, not_true_eq_false, not_false_eq_true] at q
            exact q
          rw [J_sub]
          have ey : 17 - (j : Int) = yI e j := by unfold yI; rw [if_pos q3]
          rw [ey]
          have by1 : -1000 ≤ yI e j ∧ yI e j < 1000 := by omega
          refine ok_squaresOf hT hW (by omega) by1.1 by1.2 (ri_some (ok_stepX (by omega) (by omega) (ri_some ?_)))
          rw [show sqR σ p (yI e j) = gI σ p e j from rfl]
          refine ⟨fun c => ?_, fun _ => ?_⟩
          · rw [q3] at c; exact absurd c (by decide +kernel)
          · rw [hx (Or.inr q3), J_orN]
            refine ok_piecesOn hT hW by1.1 by1.2 (ri_some ?_)
            rw [J_orN]
            have := ih (j + 1) (by omega) (J (orN (gI σ p e) j ||| gI σ p e j : Nat)) (fun _ => by rw [orN])
            rw [orN, show bF σ p e j = setN (pnF σ (orN (gI σ p e) j ||| gI σ p e j) (yI e j)) (sN σ) by unfold bF SW; rw [if_neg (by omega), if_neg (by omega), orN]] at this
            exact this
  exact key 24 0 (by omega) (J 0) (fun _ => rfl)
/-- a blocks b in a direction -/
def blocksP (σ : St) (a b : Nat) (e : Int) : Prop := ∃ t : Nat, 1 ≤ t ∧ t ≤ 25 ∧ ∃ c r : Int, sq (sS σ b) (sX σ b + (t : Int) * dxI e) (sY σ b + (t : Int) * dyI e) c r = true ∧ sq (sS σ a) (sX σ a) (sY σ a) c r = true
noncomputable def blkN (σ : St) (b : Nat) (e : Int) (among : Nat) : Nat := setN (fun a => pb ((a ≠ b ∧ among.testBit a = true) ∧ blocksP σ a b e)) (sN σ)
/-- pieces that lie are apart -/
def DJ (σ : St) : Prop := ∀ a b, (sL σ).testBit a = true → (sL σ).testBit b = true → a ≠ b → ∀ c r, sq (sS σ a) (sX σ a) (sY σ a) c r = true → sq (sS σ b) (sX σ b) (sY σ b) c r = true → False
theorem sq_mv (s : Nat) (x y c r u v : Int) : sq s (x + u) (y + v) c r = sq s x y (c - u) (r - v) := by
  unfold sq
  rw [show c - (x + u) = c - u - x by omega, show r - (y + v) = r - v - y by omega]
theorem sq_in (hW : WF σ) {p : Nat} (hp : (sL σ).testBit p = true) {c r : Int} (h : sq (sS σ p) (sX σ p) (sY σ p) c r = true) : (-6 ≤ c ∧ c ≤ 17) ∧ (-6 ≤ r ∧ r ≤ 17) := by
  have := hW.P hp
  unfold sq at h
  rw [Bool.and_eq_true, decide_eq_true_iff] at h
  omega
theorem and_ne0 {a b : Nat} : a &&& b ≠ 0 ↔ ∃ i, a.testBit i = true ∧ b.testBit i = true := by
  constructor
  · intro h
    apply Classical.byContradiction
    intro q
    exact h (or_eq0.mpr (fun i h1 h2 => q ⟨i, h1, h2⟩))
  · rintro ⟨i, h1, h2⟩ h
    exact or_eq0.mp h i h1 h2
theorem blk_eq (hW : WF σ) (hD : DJ σ) {p : Nat} {e : Int} (hp : (sL σ).testBit p = true) (he : 0 ≤ e ∧ e ≤ 3) : orN (bF σ p e) 24 &&& wo (sL σ) (2 ^ p) = blkN σ p e (sL σ) := by
  apply Nat.eq_of_testBit_eq
  intro a
  rw [Bool.eq_iff_iff]
  unfold blkN
  rw [Nat.testBit_and, Bool.and_eq_true, orN_bit, wo_bit, Bool.and_eq_true, setN_bit, pb_t]
  have hG : ∀ (i c : Nat), (gI σ p e i).testBit c = true ↔ sq (sS σ p) (sX σ p) (sY σ p) ((c : Int) - 6) (yI e i) = true := by
    intro i c
    unfold gI
    rw [sqR_bit hW, hp, Bool.true_and]
  have hSW : ∀ (i c : Nat), i < 24 → c < 24 → ((SW σ p e i).testBit c = true ↔ ∃ t : Nat, t ≤ 25 ∧ sq (sS σ p) (sX σ p + (t : Int) * dxI e) (sY σ p + (t : Int) * dyI e) ((c : Int) - 6) (yI e i) = true) := by
    intro i c hi hc
    unfold SW
    rcases (show e = 0 ∨ e = 1 ∨ e = 2 ∨ e = 3 by omega) with r | r | r | r
    · rw [if_pos r, swR_bit]
      constructor
      · rintro ⟨j, h1, h2, h3⟩
        rw [hG] at h3
        refine ⟨j, by omega, ?_⟩
        rw [sq_mv, r, show dxI 0 = 1 from rfl, show dyI 0 = 0 from rfl, show (c : Int) - 6 - (j : Int) * 1 = ((c - j : Nat) : Int) - 6 by omega, show yI 0 i - (j : Int) * 0 = yI 0 i by omega]
        rw [r] at h3; exact h3
      · rintro ⟨t, h1, h2⟩
        rw [sq_mv, r, show dxI 0 = 1 from rfl, show dyI 0 = 0 from rfl, show yI 0 i - (t : Int) * 0 = yI 0 i by omega] at h2
        have := sq_in hW hp h2
        refine ⟨t, by omega, by omega, ?_⟩
        rw [hG, r, show ((c - t : Nat) : Int) - 6 = (c : Int) - 6 - (t : Int) * 1 by omega]
        exact h2
    · rw [if_neg (by omega), if_neg (by omega), orN_bit]
      have hy : ∀ j : Nat, yI e j = -6 + (j : Int) := fun j => by unfold yI; rw [if_neg (by omega)]
      constructor
      · rintro ⟨j, h1, h3⟩
        rw [hG] at h3
        refine ⟨i - j, by omega, ?_⟩
        rw [sq_mv, r, show dxI 1 = 0 from rfl, show dyI 1 = 1 from rfl, show (c : Int) - 6 - ((i - j : Nat) : Int) * 0 = (c : Int) - 6 by omega]
        rw [r] at h3 hy
        rw [show yI 1 i - ((i - j : Nat) : Int) * 1 = yI 1 j by rw [hy, hy]; omega]
        exact h3
      · rintro ⟨t, h1, h2⟩
        rw [sq_mv, r, show dxI 1 = 0 from rfl, show dyI 1 = 1 from rfl, show (c : Int) - 6 - (t : Int) * 0 = (c : Int) - 6 by omega] at h2
        have := sq_in hW hp h2
        rw [r] at hy
        rw [hy] at this
        refine ⟨i - t, by omega, ?_⟩
        rw [hG, r, show yI 1 (i - t) = yI 1 i - (t : Int) * 1 by rw [hy, hy]; omega]
        exact h2
    · rw [if_neg (by omega), if_pos r, swL_bit]
      constructor
      · rintro ⟨j, h1, h3⟩
        rw [hG] at h3
        refine ⟨j, by omega, ?_⟩
        rw [sq_mv, r, show dxI 2 = -1 from rfl, show dyI 2 = 0 from rfl, show (c : Int) - 6 - (j : Int) * -1 = ((c + j : Nat) : Int) - 6 by omega, show yI 2 i - (j : Int) * 0 = yI 2 i by omega]
        rw [r] at h3; exact h3
      · rintro ⟨t, h1, h2⟩
        rw [sq_mv, r, show dxI 2 = -1 from rfl, show dyI 2 = 0 from rfl, show yI 2 i - (t : Int) * 0 = yI 2 i by omega] at h2
        have := sq_in hW hp h2
        refine ⟨t, by omega, ?_⟩
        rw [hG, r, show ((c + t : Nat) : Int) - 6 = (c : Int) - 6 - (t : Int) * -1 by omega]
        exact h2
    · rw [if_neg (by omega), if_neg (by omega), orN_bit]
      have hy : ∀ j : Nat, yI e j = 17 - (j : Int) := fun j => by unfold yI; rw [if_pos r]
      constructor
      · rintro ⟨j, h1, h3⟩
        rw [hG] at h3
        refine ⟨i - j, by omega, ?_⟩
        rw [sq_mv, r, show dxI 3 = 0 from rfl, show dyI 3 = -1 from rfl, show (c : Int) - 6 - ((i - j : Nat) : Int) * 0 = (c : Int) - 6 by omega]
        rw [r] at h3 hy
        rw [show yI 3 i - ((i - j : Nat) : Int) * -1 = yI 3 j by rw [hy, hy]; omega]
        exact h3
      · rintro ⟨t, h1, h2⟩
        rw [sq_mv, r, show dxI 3 = 0 from rfl, show dyI 3 = -1 from rfl, show (c : Int) - 6 - (t : Int) * 0 = (c : Int) - 6 by omega] at h2
        have := sq_in hW hp h2
        rw [r] at hy
        rw [hy] at this
        refine ⟨i - t, by omega, ?_⟩
        rw [hG, r, show yI 3 (i - t) = yI 3 i - (t : Int) * -1 by rw [hy, hy]; omega]
        exact h2
  constructor
  · rintro ⟨⟨i, hi, h1⟩, h2, h3⟩
    unfold bF at h1
    rw [setN_bit] at h1
    obtain ⟨h4, h5⟩ := h1
    unfold pnF at h5
    rw [decide_eq_true_iff, and_ne0] at h5
    obtain ⟨c, h6, h7⟩ := h5
    have hap : a ≠ p := fun q => by
      subst q
      rw [Bool.not_eq_true', Nat.testBit_two_pow_self] at h3
      cases h3
    rw [sqR_bit hW, h2, Bool.true_and] at h6
    have hin := sq_in hW h2 h6
    rw [hSW i c hi (by omega)] at h7
    obtain ⟨t, h8, h9⟩ := h7
    have ht : t ≠ 0 := fun q => by
      subst q
      rw [sq_mv] at h9
      simp only [Int.natCast_zero, Int.zero_mul, Int.sub_zero] at h9
      exact hD a p h2 hp hap _ _ h6 h9
    exact ⟨h4, ⟨hap, h2⟩, t, by omega, h8, _, _, h9, h6⟩
  · rintro ⟨h1, ⟨h2, h3⟩, t, h4, h5, c, r, h6, h7⟩
    have hin := sq_in hW h3 h7
    refine ⟨?_, h3, by rw [Bool.not_eq_true', Nat.testBit_two_pow, decide_eq_false (fun q => h2 q.symm)]⟩
    have hyx : ∃ i : Nat, i < 24 ∧ yI e i = r := by
      unfold yI
      by_cases q : e = 3
      · exact ⟨(17 - r).toNat, by omega, by rw [if_pos q]; omega⟩
      · exact ⟨(r + 6).toNat, by omega, by rw [if_neg q]; omega⟩
    obtain ⟨i, hi, hyi⟩ := hyx
    refine ⟨i, hi, ?_⟩
    unfold bF
    rw [setN_bit]
    refine ⟨h1, ?_⟩
    unfold pnF
    rw [decide_eq_true_iff, and_ne0]
    refine ⟨(c + 6).toNat, ?_, ?_⟩
    · rw [sqR_bit hW, h3, Bool.true_and, show (((c + 6).toNat : Nat) : Int) - 6 = c by omega, hyi]; exact h7
    · rw [hSW i _ hi (by omega), show (((c + 6).toNat : Nat) : Int) - 6 = c by omega, hyi]
      exact ⟨t, h5, h6⟩
theorem ok_blockersOf {p : Nat} {e : Int} (hT : TR M σ) (hW : WF σ) (hD : DJ σ) (hp : (sL σ).testBit p = true) (he : 0 ≤ e ∧ e ≤ 3) (h : Q (some (J (blkN σ p e (sL σ) : Nat))) M) : Mt (d + 4) mX3_blockersOf [.ref 1, .int (J (p : Int)), .int (J e)] M Q :=
  ok_blockersOf0 hT hW (hW.lp hp) he (by rw [blk_eq hW hD hp he]; exact h)
end BLK
