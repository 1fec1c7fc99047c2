/-! widest, tallest -/
def mx (f : Nat → Nat) : Nat → Nat
  | 0 => 0
  | n + 1 => max (mx f n) (f n)
theorem mx_ge (f : Nat → Nat) : ∀ n k, k < n → f k ≤ mx f n := by
  intro n
  induction n with
  | zero => intro k h; omega
  | succ n ih =>
    intro k h
    rw [mx]
    by_cases e : k = n
    · subst e; omega
    · have := ih k (by omega); omega
theorem mx_at (f : Nat → Nat) : ∀ n, mx f n = 0 ∨ ∃ k, k < n ∧ mx f n = f k := by
  intro n
  induction n with
  | zero => left; rfl
  | succ n ih =>
    rw [mx]
    by_cases e : mx f n ≤ f n
    · right; exact ⟨n, by omega, by omega⟩
    · rcases ih with h | ⟨k, h1, h2⟩
      · omega
      · right; exact ⟨k, by omega, by omega⟩
def lastW (b : Nat → Bool) : Nat → Nat
  | 0 => 0
  | n + 1 => if b n = true then n + 1 else lastW b n
theorem lastW_ge (b : Nat → Bool) : ∀ n c, c < n → b c = true → c + 1 ≤ lastW b n := by
  intro n
  induction n with
  | zero => intro c h; omega
  | succ n ih =>
    intro c h hb
    rw [lastW]
    split
    · omega
    · next q =>
      have : c ≠ n := fun e => q (e ▸ hb)
      exact ih c (by omega) hb
theorem lastW_at (b : Nat → Bool) : ∀ n, lastW b n = 0 ∨ ∃ c, c < n ∧ b c = true ∧ lastW b n = c + 1 := by
  intro n
  induction n with
  | zero => left; rfl
  | succ n ih =>
    rw [lastW]
    split
    · next q => right; exact ⟨n, by omega, q, rfl⟩
    · rcases ih with h | ⟨c, h1, h2⟩
      · exact Or.inl h
      · right; exact ⟨c, by omega, h2⟩
def wideN (s : Nat) : Nat := mx (fun k => if s.testBit k = true then k % 5 + 1 else 0) 25
def tallN (s : Nat) : Nat := mx (fun k => if s.testBit k = true then k / 5 + 1 else 0) 25
theorem wide_eq {s : Nat} {b : Nat → Bool} (h : ∀ c, c < 5 → (b c = true ↔ ∃ r, r < 5 ∧ s.testBit (5 * r + c) = true)) : lastW b 5 = wideN s := by
  apply Nat.le_antisymm
  · rcases lastW_at b 5 with e | ⟨c, h1, h2, h3⟩
    · omega
    · obtain ⟨r, h4, h5⟩ := (h c h1).mp h2
      have h6 := mx_ge (fun k => if s.testBit k = true then k % 5 + 1 else 0) 25 (5 * r + c) (by omega)
      rw [if_pos h5] at h6
      unfold wideN; omega
  · unfold wideN
    rcases mx_at (fun k => if s.testBit k = true then k % 5 + 1 else 0) 25 with e | ⟨k, h1, h2⟩
    · omega
    · rw [h2]
      split
      · next q => exact lastW_ge b 5 (k % 5) (by omega) ((h (k % 5) (by omega)).mpr ⟨k / 5, by omega, by rw [show 5 * (k / 5) + k % 5 = k by omega]; exact q⟩)
      · omega
theorem tall_eq {s : Nat} {b : Nat → Bool} (h : ∀ r, r < 5 → (b r = true ↔ ∃ c, c < 5 ∧ s.testBit (5 * r + c) = true)) : lastW b 5 = tallN s := by
  apply Nat.le_antisymm
  · rcases lastW_at b 5 with e | ⟨r, h1, h2, h3⟩
    · omega
    · obtain ⟨c, h4, h5⟩ := (h r h1).mp h2
      have h6 := mx_ge (fun k => if s.testBit k = true then k / 5 + 1 else 0) 25 (5 * r + c) (by omega)
      rw [if_pos h5] at h6
      unfold tallN; omega
  · unfold tallN
    rcases mx_at (fun k => if s.testBit k = true then k / 5 + 1 else 0) 25 with e | ⟨k, h1, h2⟩
    · omega
    · rw [h2]
      split
      · next q => exact lastW_ge b 5 (k / 5) (by omega) ((h (k / 5) (by omega)).mpr ⟨k % 5, by omega, by rw [show 5 * (k / 5) + k % 5 = k by omega]; exact q⟩)
      · omega
theorem wideN_le (s : Nat) : wideN s ≤ 5 := by
  unfold wideN
  rcases mx_at (fun k => if s.testBit k = true then k % 5 + 1 else 0) 25 with e | ⟨k, h1, h2⟩
  · omega
  · rw [h2]; split <;> omega
theorem tallN_le (s : Nat) : tallN s ≤ 5 := by
  unfold tallN
  rcases mx_at (fun k => if s.testBit k = true then k / 5 + 1 else 0) 25 with e | ⟨k, h1, h2⟩
  · omega
  · rw [h2]; split <;> omega
def colB (s c : Nat) : Bool := decide ((s / 2 ^ c) &&& 1082401 ≠ 0)
theorem colM : ∀ i, i < 21 → Nat.testBit 1082401 i = true → i % 5 = 0 := by decide +kernel
theorem colM2 : ∀ r, r < 5 → Nat.testBit 1082401 (5 * r) = true := by decide +kernel
theorem colB_iff {s c : Nat} : colB s c = true ↔ ∃ r, r < 5 ∧ s.testBit (5 * r + c) = true := by
  unfold colB
  rw [decide_eq_true_iff]
  constructor
  · intro h
    apply Classical.byContradiction
    intro q
    refine h (or_eq0.mpr (fun i h1 h2 => ?_))
    rcases Nat.lt_or_ge i 21 with hi | hi
    · have := colM i hi h2
      refine q ⟨i / 5, by omega, ?_⟩
      rw [Nat.testBit_div_two_pow] at h1
      rw [show 5 * (i / 5) + c = i + c by omega]; exact h1
    · rw [Nat.testBit_lt_two_pow (Nat.lt_of_lt_of_le (by decide : 1082401 < 2 ^ 21) (Nat.pow_le_pow_right (by omega) hi))] at h2
      cases h2
  · rintro ⟨r, h1, h2⟩ h
    refine or_eq0.mp h (5 * r) ?_ (colM2 r h1)
    rw [Nat.testBit_div_two_pow]; exact h2
theorem rowB_iff {s r : Nat} (hr : r < 5) : decide (rowN s r ≠ 0) = true ↔ ∃ c, c < 5 ∧ s.testBit (5 * r + c) = true := by
  rw [decide_eq_true_iff]
  constructor
  · intro h
    apply Classical.byContradiction
    intro q
    apply h
    apply Nat.eq_of_testBit_eq
    intro i
    rw [Nat.zero_testBit, rowN_bit]
    rw [← Bool.not_eq_true]
    intro h1
    rw [Bool.and_eq_true, decide_eq_true_iff, show (5 * (r : Int)).toNat + i = 5 * r + i by omega] at h1
    exact q ⟨i, h1.1.2.2, h1.2⟩
  · rintro ⟨c, h1, h2⟩ h
    have := rowN_bit s r c
    rw [h, Nat.zero_testBit, decide_eq_true (by omega), show (5 * (r : Int)).toNat + c = 5 * r + c by omega, h2] at this
    cases this
section CNT
variable {d : Nat} {M : Mem} {Q : Post} {σ : St}
theorem ok_columnsOf {s : Nat} (hs : s < 33554432) (h : Q (some (J (wideN s : Nat))) M) : Mt (d + 1) mX4_columnsOf [.int (J (s : Int))] M Q := by
  refine e_X4_columnsOf ?_
  have key : ∀ k j : Nat, j + k = 5 → R none (d + 1) mX4_columnsOf 4 [.int (J (s : Int)), .int (J (lastW (colB s) j : Nat)), .int (J (j : Int))] [] M Q := by
    intro k
    induction k with
    | zero =>
      intro j hj
      refine b_X4_columnsOf_4 ⟨fun _ => ?_, fun c => ?_⟩
      · rw [show j = 5 by omega, wide_eq (fun c _ => colB_iff)]; exact h
      · simp (disch := omega) only [J_add, J_sub, J_mul, J_neg, J_bit, J_shl, J_shr, J_andn, J_and, J_or, J_xor, J_div, J_rem, J_lt, J_le, J_eq, J_lt0, J_le0, J_0le, J_0lt, J_eq0, vp_in_J, J_clamp, J_max, J_abs, Int.toNat_natCast, Int.reduceToNat, Int.reduceAdd, Int.reduceSub, Int.reduceMul, Int.reduceNeg, not_true_eq_false, not_false_eq_true] at c; omega
    | succ k ih =>
      intro j hj
      have ih2 := ih (j + 1) (by omega)
      have hle : (s / 2 ^ j) &&& 1082401 ≤ 1082401 := Nat.and_le_right
      refine b_X4_columnsOf_4 ⟨fun c => ?_, fun _ => ?_⟩
      · simp (disch := omega) only [J_add, J_sub, J_mul, J_neg, J_bit, J_shl, J_shr, J_andn, J_and, J_or, J_xor, J_div, J_rem, J_lt, J_le, J_eq, J_lt0, J_le0, J_0le, J_0lt, J_eq0, vp_in_J, J_clamp, J_max, J_abs, Int.toNat_natCast, Int.reduceToNat, Int.reduceAdd, Int.reduceSub, Int.reduceMul, Int.reduceNeg, not_true_eq_false, not_false_eq_true] at c; omega
      · rw [J_shrN (by omega) (by omega), show J 1082401 = J ((1082401 : Nat) : Int) from rfl, J_andN, J_eq0 (by omega) (by omega), J_suc]
        refine ⟨fun c => ?_, fun c => ?_⟩
        · rw [lastW, if_neg (by unfold colB; rw [decide_eq_true_iff]; omega)] at ih2
          exact ih2
        · rw [lastW, if_pos (by unfold colB; rw [decide_eq_true_iff]; omega)] at ih2
          exact ih2
  exact key 5 0 (by omega)
theorem ok_rowsOf {s : Nat} (hs : s < 33554432) (h : Q (some (J (tallN s : Nat))) M) : Mt (d + 2) mX4_rowsOf [.int (J (s : Int))] M Q := by
  refine e_X4_rowsOf ?_
  have key : ∀ k j : Nat, j + k = 5 → R none (d + 2) mX4_rowsOf 4 [.int (J (s : Int)), .int (J (lastW (fun r => decide (rowN s r ≠ 0)) j : Nat)), .int (J (j : Int))] [] M Q := by
    intro k
    induction k with
    | zero =>
      intro j hj
      refine b_X4_rowsOf_4 ⟨fun _ => ?_, fun c => ?_⟩
      · rw [show j = 5 by omega, tall_eq (fun r hr => rowB_iff hr)]; exact h
      · simp (disch := omega) only [J_add, J_sub, J_mul, J_neg, J_bit, J_shl, J_shr, J_andn, J_and, J_or, J_xor, J_div, J_rem, J_lt, J_le, J_eq, J_lt0, J_le0, J_0le, J_0lt, J_eq0, vp_in_J, J_clamp, J_max, J_abs, Int.toNat_natCast, Int.reduceToNat, Int.reduceAdd, Int.reduceSub, Int.reduceMul, Int.reduceNeg, not_true_eq_false, not_false_eq_true] at c; omega
    | succ k ih =>
      intro j hj
      have ih2 := ih (j + 1) (by omega)
      have hle := rowN_lt s (j : Int)
      refine b_X4_rowsOf_4 ⟨fun c => ?_, fun _ => ok_rowOf hs (by omega) (by omega) (ri_some ?_)⟩
      · simp (disch := omega) only [J_add, J_sub, J_mul, J_neg, J_bit, J_shl, J_shr, J_andn, J_and, J_or, J_xor, J_div, J_rem, J_lt, J_le, J_eq, J_lt0, J_le0, J_0le, J_0lt, J_eq0, vp_in_J, J_clamp, J_max, J_abs, Int.toNat_natCast, Int.reduceToNat, Int.reduceAdd, Int.reduceSub, Int.reduceMul, Int.reduceNeg, not_true_eq_false, not_false_eq_true] at c; omega
      · rw [J_eq0 (by omega) (by omega), J_suc]
        refine ⟨fun c => ?_, fun c => ?_⟩
        · rw [lastW, if_neg (by rw [decide_eq_true_iff]; omega)] at ih2
          exact ih2
        · rw [lastW, if_pos (by rw [decide_eq_true_iff]; omega)] at ih2
          exact ih2
  exact key 5 0 (by omega)
end CNT
/-! how many bits -/
def sumN (f : Nat → Nat) : Nat → Nat
  | 0 => 0
  | n + 1 => sumN f n + f n
def pcR : Nat → Nat → Nat
  | 0, _ => 0
  | k + 1, n => n % 2 + pcR k (n / 2)
theorem sumN_head (f : Nat → Nat) : ∀ k, sumN f (k + 1) = f 0 + sumN (fun i => f (i + 1)) k := by
  intro k
  induction k with
  | zero => simp [sumN]
  | succ k ih => rw [sumN, ih, sumN]; omega
theorem pcR_sum : ∀ k n, pcR k n = sumN (fun i => n / 2 ^ i % 2) k := by
  intro k
  induction k with
  | zero => intro n; rfl
  | succ k ih =>
    intro n
    rw [pcR, ih, sumN_head]
    congr 1
    · simp
    · congr 1
      funext i
      rw [Nat.div_div_eq_div_mul, Nat.pow_succ, Nat.mul_comm]
def ofD (m : Nat) : List Nat → Nat
  | [] => 0
  | d :: l => d + 2 ^ m * ofD m l
theorem and_split {m a b c e : Nat} (ha : a < 2 ^ m) (hb : b < 2 ^ m) : (a + 2 ^ m * c) &&& (b + 2 ^ m * e) = (a &&& b) + 2 ^ m * (c &&& e) := by
  have hab : a &&& b < 2 ^ m := Nat.and_lt_two_pow a hb
  apply Nat.eq_of_testBit_eq
  intro i
  rw [Nat.testBit_and, Nat.add_comm a, Nat.add_comm b, Nat.add_comm (a &&& b), Nat.testBit_two_pow_mul_add _ ha, Nat.testBit_two_pow_mul_add _ hb, Nat.testBit_two_pow_mul_add _ hab]
  split
  · rw [Nat.testBit_and]
  · rw [Nat.testBit_and]
theorem and_dig {m : Nat} : ∀ l l' : List Nat, (∀ d, d ∈ l → d < 2 ^ m) → (∀ d, d ∈ l' → d < 2 ^ m) → ofD m l &&& ofD m l' = ofD m (List.zipWith (fun a b => a &&& b) l l') := by
  intro l
  induction l with
  | nil => intro l' _ _; simp [ofD]
  | cons a l ih =>
    intro l' h h'
    cases l' with
    | nil => simp [ofD]
    | cons b l' =>
      rw [ofD, ofD, and_split (h a List.mem_cons_self) (h' b List.mem_cons_self), ih l' (fun d hd => h d (List.mem_cons_of_mem _ hd)) (fun d hd => h' d (List.mem_cons_of_mem _ hd))]
      rfl
theorem all_nil {P : Nat → Prop} : ∀ d, d ∈ ([] : List Nat) → P d := fun d h => by cases h
theorem all_cons {P : Nat → Prop} {a : Nat} {l : List Nat} (h1 : P a) (h2 : ∀ d, d ∈ l → P d) : ∀ d, d ∈ a :: l → P d := fun d h => by
  rcases List.mem_cons.mp h with e | e
  · subst e; exact h1
  · exact h2 d e
theorem and3 (n : Nat) : n &&& 3 = n % 4 := Nat.and_two_pow_sub_one_eq_mod n 2
theorem and15 (n : Nat) : n &&& 15 = n % 16 := Nat.and_two_pow_sub_one_eq_mod n 4
theorem and63 (n : Nat) : n &&& 63 = n % 64 := Nat.and_two_pow_sub_one_eq_mod n 6
