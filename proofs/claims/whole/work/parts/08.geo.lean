/-! squares of pieces -/
noncomputable def pb (P : Prop) : Bool := @decide P (Classical.propDecidable P)
theorem pb_t {P : Prop} : pb P = true ↔ P := by unfold pb; exact @decide_eq_true_iff P (Classical.propDecidable P)
theorem pb_f {P : Prop} : pb P = false ↔ ¬ P := by unfold pb; exact @decide_eq_false_iff_not P (Classical.propDecidable P)
theorem pb_congr {P P' : Prop} (h : P ↔ P') : pb P = pb P' := by
  have : P = P' := propext h
  rw [this]
theorem pb_eq {P : Prop} {b : Bool} (h : b = true ↔ P) : b = pb P := by
  cases b
  · exact (pb_f.mpr (fun q => by cases h.mpr q)).symm
  · exact (pb_t.mpr (h.mp rfl)).symm
def sq (s : Nat) (x y c r : Int) : Bool := decide ((0 ≤ c - x ∧ c - x ≤ 4) ∧ (0 ≤ r - y ∧ r - y ≤ 4)) && s.testBit (5 * (r - y) + (c - x)).toNat
def orN (f : Nat → Nat) : Nat → Nat
  | 0 => 0
  | n + 1 => orN f n ||| f n
theorem orN_bit (f : Nat → Nat) (i : Nat) : ∀ n, (orN f n).testBit i = true ↔ ∃ p, p < n ∧ (f p).testBit i = true := by
  intro n
  induction n with
  | zero => simp [orN]
  | succ n ih =>
    rw [orN, Nat.testBit_or, Bool.or_eq_true, ih]
    constructor
    · rintro (⟨p, h1, h2⟩ | h)
      · exact ⟨p, by omega, h2⟩
      · exact ⟨n, by omega, h⟩
    · rintro ⟨p, h1, h2⟩
      by_cases hp : p = n
      · subst hp; exact Or.inr h2
      · exact Or.inl ⟨p, by omega, h2⟩
theorem orN_lt {f : Nat → Nat} {w : Nat} (h : ∀ p, f p < 2 ^ w) : ∀ n, orN f n < 2 ^ w := by
  intro n
  induction n with
  | zero => exact Nat.two_pow_pos w
  | succ n ih => exact Nat.or_lt_two_pow ih (h n)
section GEO
variable {d : Nat} {M : Mem} {Q : Post} {σ : St}
theorem sqR_bit (hW : WF σ) (p : Nat) (r : Int) (i : Nat) : (sqR σ p r).testBit i = ((sL σ).testBit p && sq (sS σ p) (sX σ p) (sY σ p) ((i : Int) - 6) r) := by
  unfold sqR
  cases hp : (sL σ).testBit p with
  | false => simp
  | true =>
    have hx := hW.P hp
    rw [if_pos rfl, Nat.testBit_mul_two_pow, rowN_bit, Bool.true_and]
    unfold sq
    by_cases hc : (0 ≤ (i : Int) - 6 - sX σ p ∧ (i : Int) - 6 - sX σ p ≤ 4) ∧ (0 ≤ r - sY σ p ∧ r - sY σ p ≤ 4)
    · rw [decide_eq_true hc, decide_eq_true (show (sX σ p + 6).toNat ≤ i by omega), decide_eq_true (show 0 ≤ r - sY σ p ∧ r - sY σ p < 5 ∧ i - (sX σ p + 6).toNat < 5 by omega)]
      simp only [Bool.true_and]
      congr 1
      omega
    · rw [decide_eq_false hc, Bool.false_and]
      by_cases h1 : (sX σ p + 6).toNat ≤ i
      · rw [decide_eq_false (show ¬ (0 ≤ r - sY σ p ∧ r - sY σ p < 5 ∧ i - (sX σ p + 6).toNat < 5) by omega)]
        simp
      · rw [decide_eq_false h1]; simp
theorem sqR_lt (hW : WF σ) (p : Nat) (r : Int) : sqR σ p r < 2 ^ 24 := by
  unfold sqR
  split
  · next hp =>
    have hx := hW.P hp
    have h1 := rowN_lt (sS σ p) (r - sY σ p)
    have h2 : 2 ^ (sX σ p + 6).toNat ≤ 2 ^ 19 := Nat.pow_le_pow_right (by omega) (by omega)
    calc rowN (sS σ p) (r - sY σ p) * 2 ^ (sX σ p + 6).toNat ≤ 31 * 2 ^ 19 := Nat.mul_le_mul (by omega) h2
      _ < 2 ^ 24 := by decide
  · decide
/-- the squares of a set's pieces in a row -/
def setF (σ : St) (set : Nat) (r : Int) (p : Nat) : Nat := if set.testBit p = true then sqR σ p r else 0
def setR (σ : St) (set : Nat) (r : Int) : Nat := orN (setF σ set r) (sN σ)
theorem setF_lt (hW : WF σ) (set : Nat) (r : Int) (p : Nat) : setF σ set r p < 2 ^ 24 := by
  unfold setF
  split
  · exact sqR_lt hW p r
  · decide
theorem setR_lt (hW : WF σ) (set : Nat) (r : Int) : setR σ set r < 16777216 := orN_lt (setF_lt hW set r) _
theorem setR_bit (hW : WF σ) (set : Nat) (r : Int) (i : Nat) : (setR σ set r).testBit i = true ↔ ∃ p, set.testBit p = true ∧ (sL σ).testBit p = true ∧ sq (sS σ p) (sX σ p) (sY σ p) ((i : Int) - 6) r = true := by
  unfold setR
  rw [orN_bit]
  constructor
  · rintro ⟨p, h1, h2⟩
    unfold setF at h2
    split at h2
    · next h3 =>
      rw [sqR_bit hW, Bool.and_eq_true] at h2
      exact ⟨p, h3, h2.1, h2.2⟩
    · simp at h2
  · rintro ⟨p, h1, h2, h3⟩
    refine ⟨p, hW.lp h2, ?_⟩
    rw [show setF σ set r p = sqR σ p r from if_pos h1, sqR_bit hW, h2, h3]; rfl
theorem ok_squaresOfSet {set : Nat} {r : Int} (hT : TR M σ) (hW : WF σ) (hs : set < 2147483648) (h1 : -1000 ≤ r) (h2 : r < 1000) (h : Q (some (J (setR σ set r))) M) : Mt (d + 3) mX3_squaresOfSet [.ref 1, .int (J (set : Int)), .int (J r)] M Q := by
  have hN := hW.N
  refine e_X3_squaresOfSet ?_
  have key : ∀ k j : Nat, j + k = sN σ → R none (d + 3) mX3_squaresOfSet 5 [.ref 1, .int (J (set : Int)), .int (J r), .int (J (orN (setF σ set r) j)), .int (J (j : Int))] [] M Q := by
    intro k
    induction k with
    | zero =>
      intro j hj
      refine b_X3_squaresOfSet_5 ⟨fun _ => ?_, fun c => ?_⟩
      · rw [show j = sN σ by omega]; exact h
      · rw [hT.2.2.1] at c
        simp (disch := omega) only [J_add, J_sub, J_mul, J_neg, J_bit, J_shl, J_shr, J_andn, J_and, J_or, J_xor, J_div, J_rem, J_lt, J_le, J_eq, J_lt0, J_le0, J_0le, J_0lt, J_eq0, vp_in_J, J_clamp, J_max, J_abs, Int.toNat_natCast, Int.reduceToNat, Int.reduceAdd, Int.reduceSub, Int.reduceMul, Int.reduceNeg, not_true_eq_false, not_false_eq_true] at c
        omega
    | succ k ih =>
      intro j hj
      refine b_X3_squaresOfSet_5 ⟨fun c => ?_, fun _ => ?_⟩
      · rw [hT.2.2.1] at c
        simp (disch := omega) only [J_add, J_sub, J_mul, J_neg, J_bit, J_shl, J_shr, J_andn, J_and, J_or, J_xor, J_div, J_rem, J_lt, J_le, J_eq, J_lt0, J_le0, J_0le, J_0lt, J_eq0, vp_in_J, J_clamp, J_max, J_abs, Int.toNat_natCast, Int.reduceToNat, Int.reduceAdd, Int.reduceSub, Int.reduceMul, Int.reduceNeg, not_true_eq_false, not_false_eq_true] at c
        omega
      · refine ok_isIn hs (by omega) (ri_some ?_)
        rw [jb_eq0]
        have e1 : J (j : Int) + J 1 = J ((j + 1 : Nat) : Int) := by rw [J_add]; rfl
        have ih2 := ih (j + 1) (by omega)
        refine ⟨fun c => ?_, fun c => ok_squaresOf hT hW (by omega) h1 h2 (ri_some ?_)⟩
        · rw [e1]
          rw [orN, show setF σ set r j = 0 from if_neg (by rw [c]; decide), Nat.or_zero] at ih2
          exact ih2
        · rw [Bool.not_eq_false] at c
          rw [e1, J_or (by omega) (by omega), Int.toNat_natCast, Int.toNat_natCast]
          rw [orN, show setF σ set r j = sqR σ j r from if_pos c] at ih2
          exact ih2
  exact key (sN σ) 0 (by omega)
theorem or_eq0 {a b : Nat} : a &&& b = 0 ↔ ∀ i, a.testBit i = true → b.testBit i = true → False := by
  constructor
  · intro h i h1 h2
    have : (a &&& b).testBit i = true := by rw [Nat.testBit_and, h1, h2]; rfl
    rw [h, Nat.zero_testBit] at this
    cases this
  · intro h
    apply Nat.eq_of_testBit_eq
    intro i
    rw [Nat.testBit_and, Nat.zero_testBit]
    cases h1 : a.testBit i
    · rfl
    · cases h2 : b.testBit i
      · rfl
      · exact (h i h1 h2).elim
theorem ok_isLainOn {y bits : Nat} (hT : TR M σ) (hW : WF σ) (hy : y < 10) (hb : bits < 4096) (h : Q (some (jb (decide (setR σ (sL σ) y &&& (bits * 64) ≠ 0)))) M) : Mt (d + 4) mX3_isLainOn [.ref 1, .int (J (y : Int)), .int (J (bits : Int))] M Q := by
  have hl := hW.L
  refine e_X3_isLainOn ?_
  rw [hT.2.2.2.1]
  have hb2 := setR_lt hW (sL σ) (y : Int)
  refine ok_squaresOfSet hT hW (by omega) (by omega) (by omega) (ri_some ?_)
  rw [J_shl6, J_and (by omega) (by omega), Int.toNat_natCast, Int.toNat_natCast]
  have hle : (setR σ (sL σ) (y : Int) &&& bits * 64) ≤ setR σ (sL σ) (y : Int) := Nat.and_le_left
  rw [J_eq0 (by omega) (by omega)]
  refine ⟨fun c => ?_, fun c => ?_⟩
  · rw [decide_eq_false (by omega)] at h; exact h
  · rw [decide_eq_true (by omega)] at h; exact h
end GEO
/-! where a shape hits rows of squares -/
def hitF (row t : Nat) (c : Nat) : Nat := if row.testBit c = true then t / 2 ^ c else 0
def hitN (row t : Nat) : Nat := orN (hitF row t) 5
theorem hitF_lt {row t : Nat} (ht : t < 2 ^ 24) (c : Nat) : hitF row t c < 2 ^ 24 := by
  unfold hitF
  split
  · exact Nat.lt_of_le_of_lt (Nat.div_le_self _ _) ht
  · decide
theorem hitN_lt {row t : Nat} (ht : t < 2 ^ 24) : hitN row t < 2 ^ 24 := orN_lt (hitF_lt ht) 5
theorem hitN_bit (row t i : Nat) : (hitN row t).testBit i = true ↔ ∃ c, c < 5 ∧ row.testBit c = true ∧ t.testBit (i + c) = true := by
  unfold hitN
  rw [orN_bit]
  constructor
  · rintro ⟨c, h1, h2⟩
    unfold hitF at h2
    split at h2
    · next h3 =>
      rw [Nat.testBit_div_two_pow] at h2
      exact ⟨c, h1, h3, h2⟩
    · simp at h2
  · rintro ⟨c, h1, h2, h3⟩
    refine ⟨c, h1, ?_⟩
    rw [show hitF row t c = t / 2 ^ c from if_pos h2, Nat.testBit_div_two_pow]
    exact h3
theorem J_shrN {n k : Nat} (hn : n < 2147483648) (hk : k < 32) : J (n : Int) >>> (J (k : Int) &&& 31) = J ((n / 2 ^ k : Nat) : Int) := by
  rw [J_shr (by omega) (by omega) (by omega) (by omega), Int.toNat_natCast, Int.natCast_ediv, Int.natCast_pow]; rfl
theorem J_orN (a b : Nat) : J (a : Int) ||| J (b : Int) = J ((a ||| b : Nat) : Int) := by
  rw [J_or (by omega) (by omega), Int.toNat_natCast, Int.toNat_natCast]
theorem J_andN (a b : Nat) : J (a : Int) &&& J (b : Int) = J ((a &&& b : Nat) : Int) := by
  rw [J_and (by omega) (by omega), Int.toNat_natCast, Int.toNat_natCast]
theorem J_suc (n : Nat) : J (n : Int) + J 1 = J ((n + 1 : Nat) : Int) := by rw [J_add]; rfl
theorem ok_hitPlaces {d : Nat} {M : Mem} {Q : Post} {row t : Nat} (hr : row < 2147483648) (ht : t < 2 ^ 24) (h : Q (some (J (hitN row t))) M) : Mt (d + 1) mX2_hitPlaces [.int (J (row : Int)), .int (J (t : Int))] M Q := by
  refine e_X2_hitPlaces ?_
  have key : ∀ k j : Nat, j + k = 5 → R none (d + 1) mX2_hitPlaces 4 [.int (J (row : Int)), .int (J (t : Int)), .int (J (orN (hitF row t) j)), .int (J (j : Int))] [] M Q := by
    intro k
    induction k with
    | zero =>
      intro j hj
      refine b_X2_hitPlaces_4 ⟨fun _ => ?_, fun c => ?_⟩
      · rw [show j = 5 by omega]; exact h
      · simp (disch := omega) only [J_add, J_sub, J_mul, J_neg, J_bit, J_shl, J_shr, J_andn, J_and, J_or, J_xor, J_div, J_rem, J_lt, J_le, J_eq, J_lt0, J_le0, J_0le, J_0lt, J_eq0, vp_in_J, J_clamp, J_max, J_abs, Int.toNat_natCast, Int.reduceToNat, Int.reduceAdd, Int.reduceSub, Int.reduceMul, Int.reduceNeg, not_true_eq_false, not_false_eq_true] at c; omega
    | succ k ih =>
      intro j hj
      have ih2 := ih (j + 1) (by omega)
      refine b_X2_hitPlaces_4 ⟨fun c => ?_, fun _ => ?_⟩
      · simp (disch := omega) only [J_add, J_sub, J_mul, J_neg, J_bit, J_shl, J_shr, J_andn, J_and, J_or, J_xor, J_div, J_rem, J_lt, J_le, J_eq, J_lt0, J_le0, J_0le, J_0lt, J_eq0, vp_in_J, J_clamp, J_max, J_abs, Int.toNat_natCast, Int.reduceToNat, Int.reduceAdd, Int.reduceSub, Int.reduceMul, Int.reduceNeg, not_true_eq_false, not_false_eq_true] at c; omega
      · rw [J_tb hr (by omega), jb_eq1, J_suc]
        refine ⟨fun c => ?_, fun c => ?_⟩
        · rw [orN, show hitF row t j = 0 from if_neg c, Nat.or_zero] at ih2
          exact ih2
        · rw [J_shrN (by omega) (by omega), J_orN]
          rw [orN, show hitF row t j = t / 2 ^ j from if_pos c] at ih2
          exact ih2
  exact key 5 0 (by omega)
/-- the places in row y at which the shape is on no square that is taken -/
def markF (s : Nat) (t : Nat → Nat) (y r : Nat) : Nat := hitN (rowN s r) (t (y + r))
def markN (s : Nat) (t : Nat → Nat) (y : Nat) : Nat := wo 1048575 (orN (markF s t y) 5)
theorem markF_lt {s : Nat} {t : Nat → Nat} (ht : ∀ i, t i < 2 ^ 24) (y r : Nat) : markF s t y r < 2 ^ 24 := hitN_lt (ht _)
theorem markN_lt (s : Nat) (t : Nat → Nat) (y : Nat) : markN s t y < 1048576 := Nat.lt_of_le_of_lt (wo_le _ _) (by decide)
theorem markN_bit (s : Nat) (t : Nat → Nat) (y x : Nat) : (markN s t y).testBit x = true ↔ x < 20 ∧ ∀ r c, r < 5 → c < 5 → s.testBit (5 * r + c) = true → (t (y + r)).testBit (x + c) = true → False := by
  unfold markN
  rw [wo_bit, Bool.and_eq_true, Bool.not_eq_true', show (1048575 : Nat) = 2 ^ 20 - 1 from rfl, Nat.testBit_two_pow_sub_one, decide_eq_true_iff]
  constructor
  · rintro ⟨h1, h2⟩
    refine ⟨h1, fun r c hr hc hs ht => ?_⟩
    have : (orN (markF s t y) 5).testBit x = true := by
      rw [orN_bit]
      refine ⟨r, hr, ?_⟩
      unfold markF
      rw [hitN_bit]
      refine ⟨c, hc, ?_, ht⟩
      rw [rowN_bit, decide_eq_true (by omega), Bool.true_and, show (5 * (r : Int)).toNat + c = 5 * r + c by omega]
      exact hs
    rw [h2] at this
    cases this
  · rintro ⟨h1, h2⟩
    refine ⟨h1, ?_⟩
    rw [← Bool.not_eq_true, orN_bit]
    rintro ⟨r, hr, h3⟩
    unfold markF at h3
    rw [hitN_bit] at h3
    obtain ⟨c, hc, h4, h5⟩ := h3
    rw [rowN_bit, Bool.and_eq_true, show (5 * (r : Int)).toNat + c = 5 * r + c by omega] at h4
    exact h2 r c hr hc h4.2 h5
theorem J_andn2 {a b : Nat} (ha : a < 2147483648) (hb : b < 2147483648) : (J (b : Int) ^^^ J (-1)) &&& J (a : Int) = J ((wo a b : Nat) : Int) := by
  rw [Int32.and_comm, J_andn (by omega) (by omega) (by omega) (by omega), Int.toNat_natCast, Int.toNat_natCast]
theorem nI2 {n : Nat} (h : n < 2147483648) : (J (n : Int)).toNatClampNeg = n := by rw [J_clamp (by omega) (by omega), Int.toNat_natCast]
theorem vin {n N : Nat} (h : n < N) (hN : N < 2147483648) : vp_in (J (n : Int)) N := (vp_in_J (by omega) (by omega)).mpr ⟨by omega, by omega⟩
theorem mput_put (M : Mem) (o : Nat) (f g : Nat → Int32) : mput (mput M o f) o g = mput M o g := by
  funext a
  unfold mput
  by_cases h : a = o <;> simp [h]
theorem mset_self {M : Mem} {o k : Nat} {v : Int32} : mset M o k v o k = v := by simp [mset_ap]
theorem mset_o {M : Mem} {o k : Nat} {v : Int32} {a j : Nat} (h : a ≠ o) : mset M o k v a j = M a j := by simp [mset_ap, h]
theorem mset_k {M : Mem} {o k : Nat} {v : Int32} {a j : Nat} (h : j ≠ k) : mset M o k v a j = M a j := by
  rw [mset_ap]
  by_cases h2 : a = o
  · rw [if_pos h2, if_neg h, h2]
  · rw [if_neg h2]
/-- markClear, into the cell 10 or 11 -/
theorem ok_markClear_o {d : Nat} {M : Mem} {Q : Post} {s : Nat} {t : Nat → Nat} (hs : s < 33554432) (ht : ∀ i, t i < 2 ^ 24) (hM : ∀ i, i < 24 → M 9 i = J (t i)) (h : ∀ M', (∀ a j, a ≠ 10 → M' a j = M a j) → (∀ y, y < 20 → M' 10 y = J (markN s t y)) → Q none M') : Mt (d + 2) mX2_markClear [.ref 2, .int (J (s : Int)), .ref 10] M Q := by
  refine e_X2_markClear_o ?_
  have key : ∀ k y : Nat, y + k = 20 → ∀ M1 : Mem, (∀ a j, a ≠ 10 → M1 a j = M a j) → (∀ j, j < y → M1 10 j = J (markN s t j)) → R none (d + 2) mX2_markClear 2 [.ref 2, .int (J (s : Int)), .ref 10, .int (J (y : Int)), .null, .null] [] M1 Q := by
    intro k
    induction k with
    | zero =>
      intro y hy M1 h1 h2
      refine b_X2_markClear_o_2 ⟨fun _ => h M1 h1 (fun j hj => h2 j (by omega)), fun c => ?_⟩
      simp (disch := omega) only [J_add, J_sub, J_mul, J_neg, J_bit, J_shl, J_shr, J_andn, J_and, J_or, J_xor, J_div, J_rem, J_lt, J_le, J_eq, J_lt0, J_le0, J_0le, J_0lt, J_eq0, vp_in_J, J_clamp, J_max, J_abs, Int.toNat_natCast, Int.reduceToNat, Int.reduceAdd, Int.reduceSub, Int.reduceMul, Int.reduceNeg, not_true_eq_false, not_false_eq_true] at c; omega
    | succ k ih =>
      intro y hy M1 h1 h2
      refine b_X2_markClear_o_2 ⟨fun c => ?_, fun _ => ?_⟩
      · simp (disch := omega) only [J_add, J_sub, J_mul, J_neg, J_bit, J_shl, J_shr, J_andn, J_and, J_or, J_xor, J_div, J_rem, J_lt, J_le, J_eq, J_lt0, J_le0, J_0le, J_0lt, J_eq0, vp_in_J, J_clamp, J_max, J_abs, Int.toNat_natCast, Int.reduceToNat, Int.reduceAdd, Int.reduceSub, Int.reduceMul, Int.reduceNeg, not_true_eq_false, not_false_eq_true] at c; omega
      · have key2 : ∀ k r : Nat, r + k = 5 → R none (d + 2) mX2_markClear 14 [.ref 2, .int (J (s : Int)), .ref 10, .int (J (y : Int)), .int (J (orN (markF s t y) r)), .int (J (r : Int))] [] M1 Q := by
          intro k
          induction k with
          | zero =>
            intro r hr
            refine b_X2_markClear_o_14 ⟨fun _ => ⟨vin (by omega) (by omega), ?_⟩, fun c => ?_⟩
            · have hlt := orN_lt (markF_lt (s := s) ht y) r
              have hr5 : r = 5 := by omega
              subst hr5
              rw [J_suc, nI2 (by omega), show J 1048575 = J ((1048575 : Nat) : Int) from rfl, J_andn2 (by omega) (by omega)]
              refine ih (y + 1) (by omega) _ (fun a j ha => ?_) (fun j hj => ?_)
              · rw [mset_o ha]; exact h1 a j ha
              · by_cases hj2 : j = y
                · subst hj2; rw [mset_self]; rfl
                · rw [mset_k hj2]; exact h2 j (by omega)
            · simp (disch := omega) only [J_add, J_sub, J_mul, J_neg, J_bit, J_shl, J_shr, J_andn, J_and, J_or, J_xor, J_div, J_rem, J_lt, J_le, J_eq, J_lt0, J_le0, J_0le, J_0lt, J_eq0, vp_in_J, J_clamp, J_max, J_abs, Int.toNat_natCast, Int.reduceToNat, Int.reduceAdd, Int.reduceSub, Int.reduceMul, Int.reduceNeg, not_true_eq_false, not_false_eq_true] at c; omega
          | succ k ih2 =>
            intro r hr
            refine b_X2_markClear_o_14 ⟨fun c => ?_, fun _ => ⟨fun c => ?_, fun _ => ?_⟩⟩
            · simp (disch := omega) only [J_add, J_sub, J_mul, J_neg, J_bit, J_shl, J_shr, J_andn, J_and, J_or, J_xor, J_div, J_rem, J_lt, J_le, J_eq, J_lt0, J_le0, J_0le, J_0lt, J_eq0, vp_in_J, J_clamp, J_max, J_abs, Int.toNat_natCast, Int.reduceToNat, Int.reduceAdd, Int.reduceSub, Int.reduceMul, Int.reduceNeg, not_true_eq_false, not_false_eq_true] at c; omega
            · simp (disch := omega) only [J_add, J_sub, J_mul, J_neg, J_bit, J_shl, J_shr, J_andn, J_and, J_or, J_xor, J_div, J_rem, J_lt, J_le, J_eq, J_lt0, J_le0, J_0le, J_0lt, J_eq0, vp_in_J, J_clamp, J_max, J_abs, Int.toNat_natCast, Int.reduceToNat, Int.reduceAdd, Int.reduceSub, Int.reduceMul, Int.reduceNeg, not_true_eq_false, not_false_eq_true] at c; omega
            · refine ok_rowOf hs (by omega) (by omega) (ri_some ?_)
              rw [J_add, ← Int.natCast_add, nI2 (by omega), h1 9 _ (by omega), hM _ (by omega)]
              have hr5 := rowN_lt s (r : Int)
              refine ⟨vin (by omega) (by omega), ok_hitPlaces (by omega) (ht _) (ri_some ?_)⟩
              rw [J_suc, J_orN]
              exact ih2 (r + 1) (by omega)
        exact key2 5 0 (by omega)
  exact key 20 0 (by omega) M (fun _ _ _ => rfl) (fun j hj => by omega)
