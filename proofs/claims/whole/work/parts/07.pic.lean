/-! what the board and its pieces are: columns, rows, pieces; walls by rows; shapes; the set of those that lie; places -/
abbrev St : Type := Int × Int × Nat × (Nat → Nat) × (Nat → Nat) × Nat × (Nat → Int) × (Nat → Int)
def sC (σ : St) : Int := σ.1
def sR (σ : St) : Int := σ.2.1
def sN (σ : St) : Nat := σ.2.2.1
def sW (σ : St) : Nat → Nat := σ.2.2.2.1
def sS (σ : St) : Nat → Nat := σ.2.2.2.2.1
def sL (σ : St) : Nat := σ.2.2.2.2.2.1
def sX (σ : St) : Nat → Int := σ.2.2.2.2.2.2.1
def sY (σ : St) : Nat → Int := σ.2.2.2.2.2.2.2
def TR (M : Mem) (σ : St) : Prop := M 1 4 = J (sC σ) ∧ M 1 5 = J (sR σ) ∧ M 1 6 = J (sN σ) ∧ M 1 7 = J (sL σ) ∧ (∀ y, y < 10 → M 5 y = J (sW σ y)) ∧ (∀ p, p < sN σ → M 6 p = J (sS σ p)) ∧ (∀ p, (sL σ).testBit p = true → M 7 p = J (sX σ p) ∧ M 8 p = J (sY σ p))
/-- a shape as it lies: 25 bits, one in row 0, one in column 0 -/
def ShOK (s : Nat) : Prop := s < 33554432 ∧ (∃ c, c < 5 ∧ s.testBit c = true) ∧ (∃ r, r < 5 ∧ s.testBit (5 * r) = true)
def WF (σ : St) : Prop := (1 ≤ sC σ ∧ sC σ ≤ 12) ∧ (1 ≤ sR σ ∧ sR σ ≤ 10) ∧ sN σ ≤ 8 ∧ (∀ y, y < 10 → sW σ y < 2 ^ (sC σ).toNat) ∧ (∀ y : Nat, sR σ ≤ (y : Int) → sW σ y = 0) ∧ (∀ p, p < sN σ → ShOK (sS σ p)) ∧ sL σ < 2 ^ sN σ ∧ (∀ p, (sL σ).testBit p = true → (-6 ≤ sX σ p ∧ sX σ p ≤ 13) ∧ (-6 ≤ sY σ p ∧ sY σ p ≤ 13))
theorem WF.C {σ : St} (h : WF σ) : 1 ≤ sC σ ∧ sC σ ≤ 12 := h.1
theorem WF.R {σ : St} (h : WF σ) : 1 ≤ sR σ ∧ sR σ ≤ 10 := h.2.1
theorem WF.N {σ : St} (h : WF σ) : sN σ ≤ 8 := h.2.2.1
theorem WF.W {σ : St} (h : WF σ) {y : Nat} (hy : y < 10) : sW σ y < 4096 := Nat.lt_of_lt_of_le (h.2.2.2.1 y hy) (Nat.le_trans (Nat.pow_le_pow_right (by omega) (show (sC σ).toNat ≤ 12 by have := h.C; omega)) (by decide))
theorem WF.S {σ : St} (h : WF σ) {p : Nat} (hp : p < sN σ) : sS σ p < 33554432 := (h.2.2.2.2.2.1 p hp).1
theorem WF.L {σ : St} (h : WF σ) : sL σ < 256 := Nat.lt_of_lt_of_le h.2.2.2.2.2.2.1 (Nat.le_trans (Nat.pow_le_pow_right (by omega) h.N) (by decide))
theorem WF.lp {σ : St} (h : WF σ) {p : Nat} (hp : (sL σ).testBit p = true) : p < sN σ := by
  rcases Nat.lt_or_ge p (sN σ) with q | q
  · exact q
  · have h1 : sL σ < 2 ^ p := Nat.lt_of_lt_of_le h.2.2.2.2.2.2.1 (Nat.pow_le_pow_right (by omega) q)
    rw [Nat.testBit_lt_two_pow h1] at hp
    cases hp
theorem WF.P {σ : St} (h : WF σ) {p : Nat} (hp : (sL σ).testBit p = true) : (-6 ≤ sX σ p ∧ sX σ p ≤ 13) ∧ (-6 ≤ sY σ p ∧ sY σ p ≤ 13) := h.2.2.2.2.2.2.2 p hp
/-! small words -/
def jb (b : Bool) : Int32 := if b = true then J 1 else J 0
theorem jb_eq0 {b : Bool} : jb b = 0 ↔ b = false := by
  cases b
  · exact ⟨fun _ => rfl, fun _ => rfl⟩
  · exact ⟨fun h => absurd h (by decide +kernel), fun h => by cases h⟩
theorem jb_zo (b : Bool) : jb b = J 0 ∨ jb b = J 1 := by cases b <;> simp [jb]
theorem jb_t : jb true = J 1 := rfl
theorem jb_f : jb false = J 0 := rfl
theorem p2b {p : Nat} (hp : p < 31) : ((2 ^ p : Nat) : Int) < 2147483648 := by
  have : 2 ^ p ≤ 2 ^ 30 := Nat.pow_le_pow_right (by omega) (by omega)
  omega
theorem J_bitp {p : Nat} (hp : p < 31) : J 1 <<< (J (p : Int) &&& 31) = J ((2 ^ p : Nat) : Int) := by
  rw [J_shl (by omega) (by omega), Int.toNat_natCast, Int.one_mul, Int.natCast_pow]; rfl
theorem J_wo1 {n p : Nat} (hn : n < 2147483648) (hp : p < 31) : J (n : Int) &&& ((J 1 <<< (J (p : Int) &&& 31)) ^^^ J (-1)) = J ((wo n (2 ^ p) : Nat) : Int) := by
  have := p2b hp
  rw [J_bitp hp, J_andn (by omega) (by omega) (Int.natCast_nonneg _) (by omega), Int.toNat_natCast, Int.toNat_natCast]
theorem J_or1 {n p : Nat} (hp : p < 31) : J (n : Int) ||| (J 1 <<< (J (p : Int) &&& 31)) = J ((n ||| 2 ^ p : Nat) : Int) := by
  rw [J_bitp hp, J_or (by omega) (Int.natCast_nonneg _), Int.toNat_natCast, Int.toNat_natCast]
theorem J_tb {n p : Nat} (hn : n < 2147483648) (hp : p < 32) : (J (n : Int) >>> (J (p : Int) &&& 31)) &&& J 1 = jb (n.testBit p) := by
  rw [J_bit (by omega) (by omega) (by omega), Int.toNat_natCast]
  cases n.testBit p <;> rfl
theorem jb_eq1 {b : Bool} : jb b = J 1 ↔ b = true := by
  cases b
  · exact ⟨fun h => absurd h (by decide +kernel), fun h => by cases h⟩
  · exact ⟨fun _ => rfl, fun _ => rfl⟩
theorem wo_le (a b : Nat) : wo a b ≤ a := by
  apply Nat.le_of_testBit
  intro i h
  rw [wo_bit] at h
  simp at h
  exact h.1
theorem J_nat {z : Int} (h : 0 ≤ z) : ∃ n : Nat, z = n := Int.eq_ofNat_of_zero_le h
/-! rows of a shape -/
def rowN (s : Nat) (r : Int) : Nat := if 0 ≤ r ∧ r < 5 then (s / 2 ^ (5 * r).toNat) &&& 31 else 0
theorem rowN_bit (s : Nat) (r : Int) (c : Nat) : (rowN s r).testBit c = (decide (0 ≤ r ∧ r < 5 ∧ c < 5) && s.testBit ((5 * r).toNat + c)) := by
  unfold rowN
  by_cases h : 0 ≤ r ∧ r < 5
  · rw [if_pos h, Nat.testBit_and, Nat.testBit_div_two_pow, show (31 : Nat) = 2 ^ 5 - 1 from rfl, Nat.testBit_two_pow_sub_one]
    rw [show (decide (0 ≤ r ∧ r < 5 ∧ c < 5)) = decide (c < 5) by simp [h.1, h.2], Bool.and_comm, Nat.add_comm]
  · rw [if_neg h, Nat.zero_testBit, show (decide (0 ≤ r ∧ r < 5 ∧ c < 5)) = false by simp only [decide_eq_false_iff_not]; omega, Bool.false_and]
theorem rowN_lt (s : Nat) (r : Int) : rowN s r < 32 := by
  unfold rowN
  split
  · exact Nat.lt_of_le_of_lt Nat.and_le_right (by omega)
  · omega
theorem ok_rowOf {d : Nat} {M : Mem} {Q : Post} {s : Nat} {r : Int} (hs : s < 33554432) (h1 : -2147483648 ≤ r) (h2 : r < 2147483648) (h : Q (some (J (rowN s r))) M) : Mt (d + 1) mX4_rowOf [.int (J s), .int (J r)] M Q := by
  refine e_X4_rowOf ⟨fun c => ?_, fun c => ⟨fun c2 => ?_, fun c2 => ?_⟩⟩
  · simp (disch := omega) only [J_add, J_sub, J_mul, J_neg, J_bit, J_shl, J_shr, J_andn, J_and, J_or, J_xor, J_div, J_rem, J_lt, J_le, J_eq, J_lt0, J_le0, J_0le, J_0lt, J_eq0, vp_in_J, J_clamp, J_max, J_abs, Int.toNat_natCast, Int.reduceToNat, Int.reduceAdd, Int.reduceSub, Int.reduceMul, Int.reduceNeg, not_true_eq_false, not_false_eq_true] at c
    rw [show rowN s r = 0 from if_neg (by omega)] at h; exact h
  · simp (disch := omega) only [J_add, J_sub, J_mul, J_neg, J_bit, J_shl, J_shr, J_andn, J_and, J_or, J_xor, J_div, J_rem, J_lt, J_le, J_eq, J_lt0, J_le0, J_0le, J_0lt, J_eq0, vp_in_J, J_clamp, J_max, J_abs, Int.toNat_natCast, Int.reduceToNat, Int.reduceAdd, Int.reduceSub, Int.reduceMul, Int.reduceNeg, not_true_eq_false, not_false_eq_true] at c c2
    rw [show rowN s r = (s / 2 ^ (5 * r).toNat) &&& 31 from if_pos (by omega)] at h
    have e : (J (s : Int) >>> ((J 5 * J r) &&& 31)) &&& J 31 = J (((s / 2 ^ (5 * r).toNat) &&& 31 : Nat) : Int) := by
      rw [J_mul, J_shr (by omega) (by omega) (by omega) (by omega), show ((s : Int) / 2 ^ (5 * r).toNat) = ((s / 2 ^ (5 * r).toNat : Nat) : Int) by rw [Int.natCast_ediv, Int.natCast_pow]; rfl, J_and (Int.natCast_nonneg _) (by omega), Int.toNat_natCast]; rfl
    rw [e]; exact h
  · simp (disch := omega) only [J_add, J_sub, J_mul, J_neg, J_bit, J_shl, J_shr, J_andn, J_and, J_or, J_xor, J_div, J_rem, J_lt, J_le, J_eq, J_lt0, J_le0, J_0le, J_0lt, J_eq0, vp_in_J, J_clamp, J_max, J_abs, Int.toNat_natCast, Int.reduceToNat, Int.reduceAdd, Int.reduceSub, Int.reduceMul, Int.reduceNeg, not_true_eq_false, not_false_eq_true] at c c2
    rw [show rowN s r = 0 from if_neg (by omega)] at h; exact h
theorem ok_isPlace {d : Nat} {M : Mem} {Q : Post} {x y : Int} (h1 : -2147483648 ≤ x) (h2 : x < 2147483648) (h3 : -2147483648 ≤ y) (h4 : y < 2147483648) (h : Q (some (jb (decide ((-6 ≤ x ∧ x ≤ 13) ∧ (-6 ≤ y ∧ y ≤ 13))))) M) : Mt (d + 1) mX4_isPlace [.int (J x), .int (J y)] M Q := by
  refine e_X4_isPlace ⟨fun c => ?_, fun c => ⟨fun c2 => ?_, fun c2 => ⟨fun c3 => ?_, fun c3 => ⟨fun c4 => ?_, fun c4 => ?_⟩⟩⟩⟩
  all_goals simp (disch := omega) only [J_add, J_sub, J_mul, J_neg, J_bit, J_shl, J_shr, J_andn, J_and, J_or, J_xor, J_div, J_rem, J_lt, J_le, J_eq, J_lt0, J_le0, J_0le, J_0lt, J_eq0, vp_in_J, J_clamp, J_max, J_abs, Int.toNat_natCast, Int.reduceToNat, Int.reduceAdd, Int.reduceSub, Int.reduceMul, Int.reduceNeg, not_true_eq_false, not_false_eq_true] at *
  · rw [decide_eq_false (by omega)] at h; exact h
  · rw [decide_eq_false (by omega)] at h; exact h
  · rw [decide_eq_false (by omega)] at h; exact h
  · rw [decide_eq_false (by omega)] at h; exact h
  · rw [decide_eq_true (by omega)] at h; exact h
theorem ok_isDirection {d : Nat} {M : Mem} {Q : Post} {x : Int} (h1 : -2147483648 ≤ x) (h2 : x < 2147483648) (h : Q (some (jb (decide (0 ≤ x ∧ x ≤ 3)))) M) : Mt (d + 1) mX4_isDirection [.int (J x)] M Q := by
  refine e_X4_isDirection ⟨fun c => ?_, fun c => ⟨fun c2 => ?_, fun c2 => ?_⟩⟩
  all_goals simp (disch := omega) only [J_add, J_sub, J_mul, J_neg, J_bit, J_shl, J_shr, J_andn, J_and, J_or, J_xor, J_div, J_rem, J_lt, J_le, J_eq, J_lt0, J_le0, J_0le, J_0lt, J_eq0, vp_in_J, J_clamp, J_max, J_abs, Int.toNat_natCast, Int.reduceToNat, Int.reduceAdd, Int.reduceSub, Int.reduceMul, Int.reduceNeg, not_true_eq_false, not_false_eq_true] at *
  · rw [decide_eq_false (by omega)] at h; exact h
  · rw [decide_eq_false (by omega)] at h; exact h
  · rw [decide_eq_true (by omega)] at h; exact h
def dxI (d : Int) : Int := if d = 0 then 1 else if d = 2 then -1 else 0
def dyI (d : Int) : Int := if d = 1 then 1 else if d = 3 then -1 else 0
theorem ok_stepX {d : Nat} {M : Mem} {Q : Post} {x : Int} (h1 : -2147483648 ≤ x) (h2 : x < 2147483648) (h : Q (some (J (dxI x))) M) : Mt (d + 1) mX4_stepX [.int (J x)] M Q := by
  refine e_X4_stepX ⟨fun c => ⟨fun c2 => ?_, fun c2 => ?_⟩, fun c => ?_⟩
  all_goals simp (disch := omega) only [J_add, J_sub, J_mul, J_neg, J_bit, J_shl, J_shr, J_andn, J_and, J_or, J_xor, J_div, J_rem, J_lt, J_le, J_eq, J_lt0, J_le0, J_0le, J_0lt, J_eq0, vp_in_J, J_clamp, J_max, J_abs, Int.toNat_natCast, Int.reduceToNat, Int.reduceAdd, Int.reduceSub, Int.reduceMul, Int.reduceNeg, not_true_eq_false, not_false_eq_true] at *
  · rw [show dxI x = 0 by unfold dxI; rw [if_neg c, if_neg c2]] at h; exact h
  · rw [show dxI x = -1 by unfold dxI; rw [if_neg c, if_pos c2]] at h; exact h
  · rw [show dxI x = 1 by unfold dxI; rw [if_pos c]] at h; exact h
theorem ok_stepY {d : Nat} {M : Mem} {Q : Post} {x : Int} (h1 : -2147483648 ≤ x) (h2 : x < 2147483648) (h : Q (some (J (dyI x))) M) : Mt (d + 1) mX4_stepY [.int (J x)] M Q := by
  refine e_X4_stepY ⟨fun c => ⟨fun c2 => ?_, fun c2 => ?_⟩, fun c => ?_⟩
  all_goals simp (disch := omega) only [J_add, J_sub, J_mul, J_neg, J_bit, J_shl, J_shr, J_andn, J_and, J_or, J_xor, J_div, J_rem, J_lt, J_le, J_eq, J_lt0, J_le0, J_0le, J_0lt, J_eq0, vp_in_J, J_clamp, J_max, J_abs, Int.toNat_natCast, Int.reduceToNat, Int.reduceAdd, Int.reduceSub, Int.reduceMul, Int.reduceNeg, not_true_eq_false, not_false_eq_true] at *
  · rw [show dyI x = 0 by unfold dyI; rw [if_neg c, if_neg c2]] at h; exact h
  · rw [show dyI x = -1 by unfold dyI; rw [if_neg c, if_pos c2]] at h; exact h
  · rw [show dyI x = 1 by unfold dyI; rw [if_pos c]] at h; exact h
theorem ok_isIn {d : Nat} {M : Mem} {Q : Post} {n p : Nat} (hn : n < 2147483648) (hp : p < 32) (h : Q (some (jb (n.testBit p))) M) : Mt (d + 1) mX4_isIn [.int (J n), .int (J p)] M Q := by
  refine e_X4_isIn ?_
  rw [J_tb hn hp, jb_eq1]
  refine ⟨fun c => ?_, fun c => ?_⟩
  · rw [Bool.not_eq_true] at c; rw [c] at h; exact h
  · rw [c] at h; exact h
/-! the table's small methods -/
def isPc (σ : St) (z : Int) : Bool := decide (0 ≤ z ∧ z < sN σ)
section TAB
variable {d : Nat} {M : Mem} {Q : Post} {σ : St}
theorem ok_has {z : Int} (hT : TR M σ) (hW : WF σ) (h1 : -2147483648 ≤ z) (h2 : z < 2147483648) (h : Q (some (jb (isPc σ z))) M) : Mt (d + 1) mX3_has [.ref 1, .int (J z)] M Q := by
  have h8 := hW.N
  refine e_X3_has ?_
  rw [hT.2.2.1]
  unfold isPc at h
  refine ⟨fun c => ?_, fun c => ⟨fun c2 => ?_, fun c2 => ⟨fun c3 => ?_, fun c3 => ?_⟩⟩⟩
  all_goals simp (disch := omega) only [J_add, J_sub, J_mul, J_neg, J_bit, J_shl, J_shr, J_andn, J_and, J_or, J_xor, J_div, J_rem, J_lt, J_le, J_eq, J_lt0, J_le0, J_0le, J_0lt, J_eq0, vp_in_J, J_clamp, J_max, J_abs, Int.toNat_natCast, Int.reduceToNat, Int.reduceAdd, Int.reduceSub, Int.reduceMul, Int.reduceNeg, not_true_eq_false, not_false_eq_true] at *
  · rw [decide_eq_false (by omega)] at h; exact h
  · rw [decide_eq_false (by omega)] at h; exact h
  · omega
  · rw [decide_eq_true (by omega)] at h; exact h
theorem ok_hasRow {z : Int} (hT : TR M σ) (hW : WF σ) (h1 : -2147483648 ≤ z) (h2 : z < 2147483648) (h : Q (some (jb (decide (0 ≤ z ∧ z < sR σ)))) M) : Mt (d + 1) mX3_hasRow [.ref 1, .int (J z)] M Q := by
  have h8 := hW.R
  refine e_X3_hasRow ?_
  rw [hT.2.1]
  refine ⟨fun c => ?_, fun c => ⟨fun c2 => ?_, fun c2 => ⟨fun c3 => ?_, fun c3 => ?_⟩⟩⟩
  all_goals simp (disch := omega) only [J_add, J_sub, J_mul, J_neg, J_bit, J_shl, J_shr, J_andn, J_and, J_or, J_xor, J_div, J_rem, J_lt, J_le, J_eq, J_lt0, J_le0, J_0le, J_0lt, J_eq0, vp_in_J, J_clamp, J_max, J_abs, Int.toNat_natCast, Int.reduceToNat, Int.reduceAdd, Int.reduceSub, Int.reduceMul, Int.reduceNeg, not_true_eq_false, not_false_eq_true] at *
  · rw [decide_eq_false (by omega)] at h; exact h
  · rw [decide_eq_false (by omega)] at h; exact h
  · omega
  · rw [decide_eq_true (by omega)] at h; exact h
def full (σ : St) : Nat := 2 ^ (sC σ).toNat - 1
theorem full_lt (hW : WF σ) : full σ < 4096 := by
  have h1 := hW.C
  have : 2 ^ (sC σ).toNat ≤ 2 ^ 12 := Nat.pow_le_pow_right (by omega) (by omega)
  unfold full; omega
theorem ok_wholeRow (hT : TR M σ) (hW : WF σ) (h : Q (some (J (full σ))) M) : Mt (d + 1) mX3_wholeRow [.ref 1] M Q := by
  have h1 := hW.C
  refine e_X3_wholeRow ?_
  rw [hT.1]
  obtain ⟨n, hn⟩ := J_nat (show 0 ≤ sC σ by omega)
  rw [hn, J_bitp (by omega), J_sub, ← show ((full σ : Nat) : Int) = ((2 ^ n : Nat) : Int) - 1 by
    unfold full
    rw [hn, Int.toNat_natCast]
    have : 1 ≤ 2 ^ n := Nat.one_le_two_pow
    omega]
  exact h
theorem ok_columnCount (hT : TR M σ) (h : Q (some (J (sC σ))) M) : Mt (d + 1) mX3_columnCount [.ref 1] M Q := e_X3_columnCount (by rw [hT.1]; exact h)
theorem ok_rowCount (hT : TR M σ) (h : Q (some (J (sR σ))) M) : Mt (d + 1) mX3_rowCount [.ref 1] M Q := e_X3_rowCount (by rw [hT.2.1]; exact h)
theorem ok_pieceCount (hT : TR M σ) (h : Q (some (J (sN σ))) M) : Mt (d + 1) mX3_pieceCount [.ref 1] M Q := e_X3_pieceCount (by rw [hT.2.2.1]; exact h)
theorem ok_lyingSet (hT : TR M σ) (h : Q (some (J (sL σ))) M) : Mt (d + 1) mX3_lyingSet [.ref 1] M Q := e_X3_lyingSet (by rw [hT.2.2.2.1]; exact h)
theorem isPc_nat {p : Nat} (hp : p < sN σ) : isPc σ (p : Int) = true := decide_eq_true ⟨by omega, by omega⟩
theorem ok_isLying {p : Nat} (hT : TR M σ) (hW : WF σ) (hp : p < sN σ) (h : Q (some (jb ((sL σ).testBit p))) M) : Mt (d + 2) mX3_isLying [.ref 1, .int (J (p : Int))] M Q := by
  have h8 := hW.N
  have hl := hW.L
  refine e_X3_isLying (ok_has hT hW (by omega) (by omega) (ri_some ?_))
  rw [isPc_nat hp, hT.2.2.2.1]
  refine ⟨fun c => absurd c (by decide +kernel), fun _ => ok_isIn (by omega) (by omega) (ri_some ?_)⟩
  rw [jb_eq0]
  refine ⟨fun c => ?_, fun c => ?_⟩
  · rw [c] at h; exact h
  · rw [Bool.not_eq_false] at c; rw [c] at h; exact h
theorem ok_lyingBeside {p : Nat} (hT : TR M σ) (hW : WF σ) (hp : p < sN σ) (h : Q (some (J (wo (sL σ) (2 ^ p)))) M) : Mt (d + 2) mX3_lyingBeside [.ref 1, .int (J (p : Int))] M Q := by
  have h8 := hW.N
  have hl := hW.L
  refine e_X3_lyingBeside (ok_has hT hW (by omega) (by omega) (ri_some ?_))
  rw [isPc_nat hp, hT.2.2.2.1]
  refine ⟨fun c => absurd c (by decide +kernel), fun _ => ?_⟩
  rw [J_wo1 (by omega) (by omega)]; exact h
theorem ok_shapeOf {p : Nat} (hT : TR M σ) (hW : WF σ) (hp : p < sN σ) (h : Q (some (J (sS σ p))) M) : Mt (d + 2) mX3_shapeOf [.ref 1, .int (J (p : Int))] M Q := by
  have h8 := hW.N
  refine e_X3_shapeOf (ok_has hT hW (by omega) (by omega) (ri_some ?_))
  rw [isPc_nat hp]
  refine ⟨fun c => absurd c (by decide +kernel), fun _ => ⟨(vp_in_J (by omega) (by omega)).mpr ⟨by omega, by omega⟩, ?_⟩⟩
  rw [J_clamp (by omega) (by omega), Int.toNat_natCast, hT.2.2.2.2.2.1 p hp]; exact h
theorem ok_xOf {p : Nat} (hT : TR M σ) (hW : WF σ) (hp : (sL σ).testBit p = true) (h : Q (some (J (sX σ p))) M) : Mt (d + 2) mX3_xOf [.ref 1, .int (J (p : Int))] M Q := by
  have h8 := hW.N
  have hp2 := hW.lp hp
  refine e_X3_xOf (ok_has hT hW (by omega) (by omega) (ri_some ?_))
  rw [isPc_nat hp2]
  refine ⟨fun c => absurd c (by decide +kernel), fun _ => ⟨(vp_in_J (by omega) (by omega)).mpr ⟨by omega, by omega⟩, ?_⟩⟩
  rw [J_clamp (by omega) (by omega), Int.toNat_natCast, (hT.2.2.2.2.2.2 p hp).1]; exact h
theorem ok_yOf {p : Nat} (hT : TR M σ) (hW : WF σ) (hp : (sL σ).testBit p = true) (h : Q (some (J (sY σ p))) M) : Mt (d + 2) mX3_yOf [.ref 1, .int (J (p : Int))] M Q := by
  have h8 := hW.N
  have hp2 := hW.lp hp
  refine e_X3_yOf (ok_has hT hW (by omega) (by omega) (ri_some ?_))
  rw [isPc_nat hp2]
  refine ⟨fun c => absurd c (by decide +kernel), fun _ => ⟨(vp_in_J (by omega) (by omega)).mpr ⟨by omega, by omega⟩, ?_⟩⟩
  rw [J_clamp (by omega) (by omega), Int.toNat_natCast, (hT.2.2.2.2.2.2 p hp).2]; exact h
theorem J_shl6 {n : Nat} : J (n : Int) <<< (J 6 &&& 31) = J ((n * 64 : Nat) : Int) := by
  rw [J_shl (by omega) (by omega), Int.natCast_mul]; rfl
theorem ok_boardSquares {z : Int} (hT : TR M σ) (hW : WF σ) (h1 : -2147483648 ≤ z) (h2 : z < 2147483648) (h : Q (some (J ((if 0 ≤ z ∧ z < sR σ then full σ * 64 else 0 : Nat) : Int))) M) : Mt (d + 2) mX3_boardSquares [.ref 1, .int (J z)] M Q := by
  refine e_X3_boardSquares (ok_hasRow hT hW h1 h2 (ri_some ?_))
  rw [jb_eq0]
  refine ⟨fun c => ?_, fun c => ok_wholeRow hT hW (ri_some ?_)⟩
  · rw [if_neg (of_decide_eq_false c)] at h; exact h
  · rw [Bool.not_eq_false] at c
    rw [if_pos (of_decide_eq_true c)] at h
    rw [J_shl6]; exact h
theorem ok_wallSquares {z : Int} (hT : TR M σ) (hW : WF σ) (h1 : -2147483648 ≤ z) (h2 : z < 2147483648) (h : Q (some (J ((if 0 ≤ z ∧ z < sR σ then sW σ z.toNat * 64 else 0 : Nat) : Int))) M) : Mt (d + 2) mX3_wallSquares [.ref 1, .int (J z)] M Q := by
  have hr := hW.R
  refine e_X3_wallSquares (ok_hasRow hT hW h1 h2 (ri_some ?_))
  rw [jb_eq0]
  refine ⟨fun c => ?_, fun c => ?_⟩
  · rw [if_neg (of_decide_eq_false c)] at h; exact h
  · rw [Bool.not_eq_false] at c
    have c := of_decide_eq_true c
    rw [if_pos c] at h
    refine ⟨(vp_in_J h1 h2).mpr ⟨by omega, by omega⟩, ?_⟩
    rw [J_clamp h1 h2, hT.2.2.2.2.1 _ (by omega), J_shl6]; exact h
/-- the squares of a piece that lies, in row y, moved by 6 -/
def sqR (σ : St) (p : Nat) (y : Int) : Nat := if (sL σ).testBit p = true then rowN (sS σ p) (y - sY σ p) * 2 ^ (sX σ p + 6).toNat else 0
theorem ok_squaresOf {p : Nat} {y : Int} (hT : TR M σ) (hW : WF σ) (hp : p < 8) (h1 : -1000 ≤ y) (h2 : y < 1000) (h : Q (some (J (sqR σ p y))) M) : Mt (d + 2) mX3_squaresOf [.ref 1, .int (J (p : Int)), .int (J y)] M Q := by
  have hl := hW.L
  refine e_X3_squaresOf ?_
  rw [hT.2.2.2.1, J_tb (by omega) (by omega), jb_eq0]
  refine ⟨fun c => ?_, fun c => ⟨fun c2 => ?_, fun c2 => ⟨fun c3 => ?_, fun c3 => ?_⟩⟩⟩
  · simp (disch := omega) only [J_add, J_sub, J_mul, J_neg, J_bit, J_shl, J_shr, J_andn, J_and, J_or, J_xor, J_div, J_rem, J_lt, J_le, J_eq, J_lt0, J_le0, J_0le, J_0lt, J_eq0, vp_in_J, J_clamp, J_max, J_abs, Int.toNat_natCast, Int.reduceToNat, Int.reduceAdd, Int.reduceSub, Int.reduceMul, Int.reduceNeg, not_true_eq_false, not_false_eq_true] at c; omega
  · simp (disch := omega) only [J_add, J_sub, J_mul, J_neg, J_bit, J_shl, J_shr, J_andn, J_and, J_or, J_xor, J_div, J_rem, J_lt, J_le, J_eq, J_lt0, J_le0, J_0le, J_0lt, J_eq0, vp_in_J, J_clamp, J_max, J_abs, Int.toNat_natCast, Int.reduceToNat, Int.reduceAdd, Int.reduceSub, Int.reduceMul, Int.reduceNeg, not_true_eq_false, not_false_eq_true] at c2; omega
  · rw [Bool.not_eq_false] at c3
    have hv : vp_in (J (p : Int)) 8 := (vp_in_J (by omega) (by omega)).mpr ⟨by omega, by omega⟩
    have hp2 := hW.lp c3
    have hxy := hW.P c3
    refine ⟨hv, hv, ?_⟩
    rw [J_clamp (by omega) (by omega), Int.toNat_natCast, hT.2.2.2.2.2.1 p hp2, (hT.2.2.2.2.2.2 p c3).2, J_sub]
    refine ok_rowOf (hW.S hp2) (by omega) (by omega) (ri_some ⟨hv, ?_⟩)
    rw [(hT.2.2.2.2.2.2 p c3).1, J_sub, J_shl (by omega) (by omega)]
    rw [show sqR σ p y = _ from if_pos c3] at h
    rw [show (sX σ p - -6) = sX σ p + 6 by omega, show ((rowN (sS σ p) (y - sY σ p) : Nat) : Int) * 2 ^ (sX σ p + 6).toNat = ((rowN (sS σ p) (y - sY σ p) * 2 ^ (sX σ p + 6).toNat : Nat) : Int) by rw [Int.natCast_mul, Int.natCast_pow]; rfl]
    exact h
  · rw [show sqR σ p y = 0 from if_neg (by rw [c3]; decide)] at h; exact h
end TAB
