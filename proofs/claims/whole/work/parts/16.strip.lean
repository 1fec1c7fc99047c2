/-! a strip: its rows of squares; the first spot that is free -/
noncomputable def freeAt (G : Nat → Nat) (s x y : Nat) : Bool := pb (∀ r : Nat, r < 5 → (rowN s (r : Int) * 2 ^ x) &&& G (y + r) = 0)
def lst (f : Nat → Bool) : Nat → Nat → Nat
  | 0, t => t
  | k + 1, t => if f t = true then t else lst f k (t + 1)
def colsW (w s : Nat) : Nat := w - wideN s + 1
noncomputable def spotT (G : Nat → Nat) (s w : Nat) : Nat := lst (fun t => freeAt G s (t % colsW w s) (t / colsW w s)) 400 0
noncomputable def spX (G : Nat → Nat) (s w : Nat) : Nat := spotT G s w % colsW w s
noncomputable def spY (G : Nat → Nat) (s w : Nat) : Nat := spotT G s w / colsW w s
def xorG (G : Nat → Nat) (s x y : Nat) : Nat → Nat := fun j => if y ≤ j ∧ j < y + 5 then G j ^^^ (rowN s ((j - y : Nat) : Int) * 2 ^ x) else G j
def orG (G : Nat → Nat) (s x y : Nat) : Nat → Nat := fun j => if y ≤ j ∧ j < y + 5 then G j ||| (rowN s ((j - y : Nat) : Int) * 2 ^ x) else G j
theorem xor_or {a b : Nat} (h : b &&& a = 0) : a ^^^ b = a ||| b := by
  apply Nat.eq_of_testBit_eq
  intro i
  rw [Nat.testBit_xor, Nat.testBit_or]
  have := or_eq0.mp h i
  cases h1 : a.testBit i <;> cases h2 : b.testBit i <;> simp_all
theorem xorG_or {G : Nat → Nat} {s x y : Nat} (h : freeAt G s x y = true) : xorG G s x y = orG G s x y := by
  funext j
  unfold xorG orG
  split
  · next hj =>
    unfold freeAt at h
    rw [pb_t] at h
    have := h (j - y) (by omega)
    rw [show y + (j - y) = j by omega] at this
    exact xor_or this
  · rfl
theorem xorG_xorG (G : Nat → Nat) (s x y : Nat) : xorG (xorG G s x y) s x y = G := by
  funext j
  unfold xorG
  by_cases h : y ≤ j ∧ j < y + 5
  · simp only [if_pos h, Nat.xor_assoc, Nat.xor_self, Nat.xor_zero]
  · simp only [if_neg h]
theorem lst_spec (f : Nat → Bool) : ∀ (k t t0 : Nat), t ≤ t0 → t0 < t + k → f t0 = true → f (lst f k t) = true ∧ lst f k t ≤ t0 ∧ t ≤ lst f k t ∧ ∀ u, t ≤ u → u < lst f k t → f u = false := by
  intro k
  induction k with
  | zero => intro t t0 h1 h2; omega
  | succ k ih =>
    intro t t0 h1 h2 h3
    rw [lst]
    split
    · next q => exact ⟨q, h1, Nat.le_refl _, fun u h4 h5 => by omega⟩
    · next q =>
      have hne : t ≠ t0 := fun e => q (e ▸ h3)
      obtain ⟨g1, g2, g3, g4⟩ := ih (t + 1) t0 (by omega) (by omega) h3
      refine ⟨g1, g2, by omega, fun u h4 h5 => ?_⟩
      by_cases e : u = t
      · subst e; exact Bool.eq_false_iff.mpr q
      · exact g4 u (by omega) h5
/-- the rows from h on are empty -/
def emptyFrom (G : Nat → Nat) (h : Nat) : Prop := ∀ j, h ≤ j → G j = 0
theorem spot_spec {G : Nat → Nat} {s w h : Nat} (hE : emptyFrom G h) (hh : h ≤ 20) (hw : w ≤ 12) : freeAt G s (spX G s w) (spY G s w) = true ∧ spotT G s w ≤ h * colsW w s ∧ spY G s w ≤ h ∧ spX G s w < colsW w s ∧ ∀ u, u < spotT G s w → freeAt G s (u % colsW w s) (u / colsW w s) = false := by
  have hc : 0 < colsW w s := by unfold colsW; omega
  have hc2 : colsW w s ≤ 13 := by unfold colsW; omega
  have hf : (fun t => freeAt G s (t % colsW w s) (t / colsW w s)) (h * colsW w s) = true := by
    dsimp only
    rw [Nat.mul_mod_left, Nat.mul_div_cancel _ hc]
    unfold freeAt
    rw [pb_t]
    intro r hr
    rw [hE (h + r) (by omega), Nat.and_zero]
  have hb : h * colsW w s ≤ 20 * 13 := Nat.mul_le_mul hh hc2
  obtain ⟨g1, g2, g3, g4⟩ := lst_spec (fun t => freeAt G s (t % colsW w s) (t / colsW w s)) 400 0 (h * colsW w s) (Nat.zero_le _) (by omega) hf
  refine ⟨g1, g2, ?_, Nat.mod_lt _ hc, fun u hu => g4 u (Nat.zero_le _) hu⟩
  unfold spY
  exact Nat.div_le_of_le_mul (by rw [Nat.mul_comm]; exact g2)
section STRIP
variable {d : Nat} {M : Mem} {Q : Post} {σ : St} {G : Nat → Nat}
/-- the class's rows -/
def GM (M : Mem) (G : Nat → Nat) : Prop := ∀ j, j < 25 → M 16 j = J (G j)
theorem J_shlN {n k : Nat} (hk : k < 32) : J (n : Int) <<< (J (k : Int) &&& 31) = J ((n * 2 ^ k : Nat) : Int) := by
  rw [J_shl (by omega) (by omega), Int.toNat_natCast, Int.natCast_mul, Int.natCast_pow]; rfl
theorem ok_isClear {s x y : Nat} (hG : GM M G) (hs : s < 33554432) (hx : x < 13) (hy : y ≤ 20) (h : Q (some (jb (freeAt G s x y))) M) : Mt (d + 2) mX0_isClear [.ref 4, .int (J (s : Int)), .int (J (x : Int)), .int (J (y : Int))] M Q := by
  refine e_X0_isClear ?_
  have key : ∀ k r : Nat, r + k = 5 → (∀ i, i < r → (rowN s (i : Int) * 2 ^ x) &&& G (y + i) = 0) → R none (d + 2) mX0_isClear 3 [.ref 4, .int (J (s : Int)), .int (J (x : Int)), .int (J (y : Int)), .int (J (r : Int))] [] M Q := by
    intro k
    induction k with
    | zero =>
      intro r hr hi
      refine b_X0_isClear_3 ⟨fun _ => ?_, fun q => ?_⟩
      · rw [show freeAt G s x y = true from pb_t.mpr (fun i h1 => hi i (by omega))] at h
        exact h
      · simp (disch := omega) only [J_add, J_sub, J_mul, J_neg, J_bit, J_shl, J_shr, J_andn, J_and, J_or, J_xor, J_div, J_rem, J_lt, J_le, J_eq, J_lt0, J_le0, J_0le, J_0lt, J_eq0, vp_in_J, J_clamp, J_max, J_abs, Int.toNat_natCast, Int.reduceToNat, Int.reduceAdd, Int.reduceSub, Int.reduceMul, Int.reduceNeg, not_true_eq_false, not_false_eq_true] at q; omega
    | succ k ih =>
      intro r hr hi
      have hlt := rowN_lt s (r : Int)
      refine b_X0_isClear_3 ⟨fun q => ?_, fun _ => ⟨fun q => ?_, fun _ => ok_rowOf hs (by omega) (by omega) (ri_some ?_)⟩⟩
      · simp (disch := omega) only [J_add, J_sub, J_mul, J_neg, J_bit, J_shl, J_shr, J_andn, J_and, J_or, J_xor, J_div, J_rem, J_lt, J_le, J_eq, J_lt0, J_le0, J_0le, J_0lt, J_eq0, vp_in_J, J_clamp, J_max, J_abs, Int.toNat_natCast, Int.reduceToNat, Int.reduceAdd, Int.reduceSub, Int.reduceMul, Int.reduceNeg, not_true_eq_false, not_false_eq_true] at q; omega
      · simp (disch := omega) only [J_add, J_sub, J_mul, J_neg, J_bit, J_shl, J_shr, J_andn, J_and, J_or, J_xor, J_div, J_rem, J_lt, J_le, J_eq, J_lt0, J_le0, J_0le, J_0lt, J_eq0, vp_in_J, J_clamp, J_max, J_abs, Int.toNat_natCast, Int.reduceToNat, Int.reduceAdd, Int.reduceSub, Int.reduceMul, Int.reduceNeg, not_true_eq_false, not_false_eq_true] at q; omega
      · rw [J_add, ← Int.natCast_add, nI2 (by omega), hG _ (by omega), J_shlN (by omega), J_andN]
        have hle : rowN s (r : Int) * 2 ^ x &&& G (y + r) ≤ rowN s (r : Int) * 2 ^ x := Nat.and_le_left
        have hle2 : rowN s (r : Int) * 2 ^ x ≤ 32 * 2 ^ 12 := Nat.mul_le_mul (by omega) (Nat.pow_le_pow_right (by omega) (by omega))
        rw [J_eq0 (by omega) (by omega), J_suc]
        refine ⟨vin (by omega) (by omega), fun q => ?_, fun q => ?_⟩
        · refine ih (r + 1) (by omega) (fun i h1 => ?_)
          by_cases e : i = r
          · subst e; omega
          · exact hi i (by omega)
        · rw [show freeAt G s x y = false from pb_f.mpr (fun g => q (by have := g r (by omega); omega))] at h
          exact h
  exact key 5 0 (by omega) (fun i h => by omega)
theorem ok_spotFor {s w hh : Nat} (hG : GM M G) (hM : M 4 3 = J (w : Int)) (hE : emptyFrom G hh) (hh20 : hh ≤ 20) (hs : s < 33554432) (hw : w ≤ 12) (hwide : wideN s ≤ w) (h : Q (some (J ((100 * spY G s w + spX G s w : Nat) : Int))) M) : Mt (d + 3) mX0_spotFor [.ref 4, .int (J (s : Int))] M Q := by
  obtain ⟨g1, g2, g3, g4, g5⟩ := spot_spec (s := s) hE hh20 hw
  have hc : 0 < colsW w s := by unfold colsW; omega
  have hc2 : colsW w s ≤ 13 := by unfold colsW; omega
  have hT : colsW w s * spY G s w + spX G s w = spotT G s w := Nat.div_add_mod _ _
  refine e_X0_spotFor (ok_columnsOf hs (ri_some ?_))
  rw [hM, J_sub, J_add, show (w : Int) - (wideN s : Int) + 1 = (colsW w s : Int) by unfold colsW; omega]
  have keyX : ∀ y : Nat, y ≤ 20 → ((y + 1) * colsW w s ≤ spotT G s w → R none (d + 3) mX0_spotFor 14 [.ref 4, .int (J (s : Int)), .int (J (colsW w s : Int)), .int (J ((y + 1 : Nat) : Int)), .null] [] M Q) → ∀ k x : Nat, x + k = colsW w s → y * colsW w s + x ≤ spotT G s w → R none (d + 3) mX0_spotFor 23 [.ref 4, .int (J (s : Int)), .int (J (colsW w s : Int)), .int (J (y : Int)), .int (J (x : Int))] [] M Q := by
    intro y hy hk k
    induction k with
    | zero =>
      intro x hx ht
      refine b_X0_spotFor_23 ⟨fun _ => ?_, fun q => ?_⟩
      · rw [J_suc]
        exact hk (by rw [Nat.succ_mul]; omega)
      · simp (disch := omega) only [J_add, J_sub, J_mul, J_neg, J_bit, J_shl, J_shr, J_andn, J_and, J_or, J_xor, J_div, J_rem, J_lt, J_le, J_eq, J_lt0, J_le0, J_0le, J_0lt, J_eq0, vp_in_J, J_clamp, J_max, J_abs, Int.toNat_natCast, Int.reduceToNat, Int.reduceAdd, Int.reduceSub, Int.reduceMul, Int.reduceNeg, not_true_eq_false, not_false_eq_true] at q; omega
    | succ k ih =>
      intro x hx ht
      refine b_X0_spotFor_23 ⟨fun q => ?_, fun _ => ok_isClear hG hs (by omega) (by omega) (ri_some ?_)⟩
      · simp (disch := omega) only [J_add, J_sub, J_mul, J_neg, J_bit, J_shl, J_shr, J_andn, J_and, J_or, J_xor, J_div, J_rem, J_lt, J_le, J_eq, J_lt0, J_le0, J_0le, J_0lt, J_eq0, vp_in_J, J_clamp, J_max, J_abs, Int.toNat_natCast, Int.reduceToNat, Int.reduceAdd, Int.reduceSub, Int.reduceMul, Int.reduceNeg, not_true_eq_false, not_false_eq_true] at q; omega
      · have e1 : (y * colsW w s + x) % colsW w s = x := by rw [Nat.add_comm, Nat.add_mul_mod_self_right]; exact Nat.mod_eq_of_lt (by omega)
        have e2 : (y * colsW w s + x) / colsW w s = y := by rw [Nat.add_comm, Nat.add_mul_div_right _ _ hc, Nat.div_eq_of_lt (by omega)]; omega
        rw [jb_eq0, J_suc]
        by_cases et : y * colsW w s + x = spotT G s w
        · have ex : spX G s w = x := by unfold spX; rw [← et]; exact e1
          have ey : spY G s w = y := by unfold spY; rw [← et]; exact e2
          rw [ex, ey] at g1 h
          refine ⟨fun q => absurd (g1.symm.trans q) (by decide), fun _ => ?_⟩
          rw [J_mul, J_add, show (100 : Int) * (y : Int) + (x : Int) = ((100 * y + x : Nat) : Int) by omega]
          exact h
        · have hf := g5 (y * colsW w s + x) (by omega)
          rw [e1, e2] at hf
          refine ⟨fun _ => ih (x + 1) (by omega) (by omega), fun q => absurd hf q⟩
  have key : ∀ k y : Nat, y + k = 21 → y * colsW w s ≤ spotT G s w → R none (d + 3) mX0_spotFor 14 [.ref 4, .int (J (s : Int)), .int (J (colsW w s : Int)), .int (J (y : Int)), .null] [] M Q := by
    intro k
    induction k with
    | zero =>
      intro y hy ht
      exfalso
      have h1 : y * colsW w s ≤ hh * colsW w s := Nat.le_trans ht g2
      have := Nat.le_of_mul_le_mul_right h1 hc
      omega
    | succ k ih =>
      intro y hy ht
      refine b_X0_spotFor_14 ⟨fun q => ?_, fun _ => ?_⟩
      · simp (disch := omega) only [J_add, J_sub, J_mul, J_neg, J_bit, J_shl, J_shr, J_andn, J_and, J_or, J_xor, J_div, J_rem, J_lt, J_le, J_eq, J_lt0, J_le0, J_0le, J_0lt, J_eq0, vp_in_J, J_clamp, J_max, J_abs, Int.toNat_natCast, Int.reduceToNat, Int.reduceAdd, Int.reduceSub, Int.reduceMul, Int.reduceNeg, not_true_eq_false, not_false_eq_true] at q; omega
      · exact keyX y (by omega) (fun h2 => ih (y + 1) (by omega) h2) (colsW w s) 0 (by omega) (by omega)
  exact key 21 0 (by omega) (by omega)
/-- what the methods of Filler may change -/
def LF (M M' : Mem) : Prop := ∀ a j, a ≠ 16 → a ≠ 17 → a ≠ 4 → M' a j = M a j
theorem ok_toggle {s x y : Nat} (hG : GM M G) (hs : s < 33554432) (hx : x < 13) (hy : y ≤ 20) (h : ∀ M', GM M' (xorG G s x y) → (∀ a j, a ≠ 16 → M' a j = M a j) → Q none M') : Mt (d + 2) mX0_toggle [.ref 4, .int (J (s : Int)), .int (J ((100 * y + x : Nat) : Int))] M Q := by
  refine e_X0_toggle ?_
  rw [show J 100 = J ((100 : Nat) : Int) from rfl, J_remN (by omega) (by omega) (by omega), J_quo (by omega) (by omega) (by omega), show (100 * y + x) % 100 = x by omega, show (100 * y + x) / 100 = y by omega]
  have key : ∀ k r : Nat, r + k = 5 → ∀ M1 : Mem, (∀ a j, a ≠ 16 → M1 a j = M a j) → (∀ j, j < 25 → M1 16 j = J (if y ≤ j ∧ j < y + r then (G j ^^^ (rowN s ((j - y : Nat) : Int) * 2 ^ x) : Nat) else (G j : Nat))) → R none (d + 2) mX0_toggle 14 [.ref 4, .int (J (s : Int)), .null, .int (J (x : Int)), .int (J (y : Int)), .int (J (r : Int))] [] M1 Q := by
    intro k
    induction k with
    | zero =>
      intro r hr M1 g1 g2
      refine b_X0_toggle_14 ⟨fun _ => ?_, fun q => ?_⟩
      · refine h M1 (fun j hj => ?_) g1
        rw [g2 j hj, show r = 5 by omega]
        unfold xorG
        split <;> rfl
      · simp (disch := omega) only [J_add, J_sub, J_mul, J_neg, J_bit, J_shl, J_shr, J_andn, J_and, J_or, J_xor, J_div, J_rem, J_lt, J_le, J_eq, J_lt0, J_le0, J_0le, J_0lt, J_eq0, vp_in_J, J_clamp, J_max, J_abs, Int.toNat_natCast, Int.reduceToNat, Int.reduceAdd, Int.reduceSub, Int.reduceMul, Int.reduceNeg, not_true_eq_false, not_false_eq_true] at q; omega
    | succ k ih =>
      intro r hr M1 g1 g2
      have hlt := rowN_lt s (r : Int)
      refine b_X0_toggle_14 ⟨fun q => ?_, fun _ => ⟨fun q => ?_, fun _ => ⟨fun q => ?_, fun _ => ?_⟩⟩⟩
      · simp (disch := omega) only [J_add, J_sub, J_mul, J_neg, J_bit, J_shl, J_shr, J_andn, J_and, J_or, J_xor, J_div, J_rem, J_lt, J_le, J_eq, J_lt0, J_le0, J_0le, J_0lt, J_eq0, vp_in_J, J_clamp, J_max, J_abs, Int.toNat_natCast, Int.reduceToNat, Int.reduceAdd, Int.reduceSub, Int.reduceMul, Int.reduceNeg, not_true_eq_false, not_false_eq_true] at q; omega
      · simp (disch := omega) only [J_add, J_sub, J_mul, J_neg, J_bit, J_shl, J_shr, J_andn, J_and, J_or, J_xor, J_div, J_rem, J_lt, J_le, J_eq, J_lt0, J_le0, J_0le, J_0lt, J_eq0, vp_in_J, J_clamp, J_max, J_abs, Int.toNat_natCast, Int.reduceToNat, Int.reduceAdd, Int.reduceSub, Int.reduceMul, Int.reduceNeg, not_true_eq_false, not_false_eq_true] at q; omega
      · simp (disch := omega) only [J_add, J_sub, J_mul, J_neg, J_bit, J_shl, J_shr, J_andn, J_and, J_or, J_xor, J_div, J_rem, J_lt, J_le, J_eq, J_lt0, J_le0, J_0le, J_0lt, J_eq0, vp_in_J, J_clamp, J_max, J_abs, Int.toNat_natCast, Int.reduceToNat, Int.reduceAdd, Int.reduceSub, Int.reduceMul, Int.reduceNeg, not_true_eq_false, not_false_eq_true] at q; omega
      · rw [J_addN, nI2 (by omega)]
        refine ⟨vin (by omega) (by omega), ok_rowOf hs (by omega) (by omega) (ri_some ⟨vin (by omega) (by omega), ?_⟩)⟩
        rw [J_suc, J_shlN (by omega), g2 (y + r) (by omega), if_neg (by omega), J_xor (by omega) (Int.natCast_nonneg _), Int.toNat_natCast, Int.toNat_natCast]
        refine ih (r + 1) (by omega) _ (fun a j ha => ?_) (fun j hj => ?_)
        · rw [mset_o ha]; exact g1 a j ha
        · by_cases e : j = y + r
          · subst e
            rw [mset_self, if_pos (by omega), show y + r - y = r by omega]
          · rw [mset_k e, g2 j hj]
            by_cases e2 : y ≤ j ∧ j < y + r
            · rw [if_pos e2, if_pos (by omega)]
            · rw [if_neg e2, if_neg (by omega)]
  exact key 5 0 (by omega) M (fun _ _ _ => rfl) (fun j hj => by rw [if_neg (by omega)]; exact hG j hj)
theorem ok_empty {w : Nat} (h : ∀ M', GM M' (fun _ => 0) → M' 4 3 = J (w : Int) → (∀ a j, a ≠ 16 → (a ≠ 4 ∨ j ≠ 3) → M' a j = M a j) → Q none M') : Mt (d + 1) mX0_empty [.ref 4, .int (J (w : Int))] M Q := by
  refine e_X0_empty ?_
  have key : ∀ k j : Nat, j + k = 25 → ∀ M1 : Mem, M1 4 3 = J (w : Int) → (∀ a j, a ≠ 16 → (a ≠ 4 ∨ j ≠ 3) → M1 a j = M a j) → (∀ i, i < j → M1 16 i = J 0) → R none (d + 1) mX0_empty 7 [.ref 4, .null, .int (J (j : Int))] [] M1 Q := by
    intro k
    induction k with
    | zero =>
      intro j hj M1 g1 g2 g3
      refine b_X0_empty_7 ⟨fun _ => h M1 (fun i hi => g3 i (by omega)) g1 g2, fun q => ?_⟩
      simp (disch := omega) only [J_add, J_sub, J_mul, J_neg, J_bit, J_shl, J_shr, J_andn, J_and, J_or, J_xor, J_div, J_rem, J_lt, J_le, J_eq, J_lt0, J_le0, J_0le, J_0lt, J_eq0, vp_in_J, J_clamp, J_max, J_abs, Int.toNat_natCast, Int.reduceToNat, Int.reduceAdd, Int.reduceSub, Int.reduceMul, Int.reduceNeg, not_true_eq_false, not_false_eq_true] at q; omega
    | succ k ih =>
      intro j hj M1 g1 g2 g3
      refine b_X0_empty_7 ⟨fun q => ?_, fun _ => ⟨vin (by omega) (by omega), ?_⟩⟩
      · simp (disch := omega) only [J_add, J_sub, J_mul, J_neg, J_bit, J_shl, J_shr, J_andn, J_and, J_or, J_xor, J_div, J_rem, J_lt, J_le, J_eq, J_lt0, J_le0, J_0le, J_0lt, J_eq0, vp_in_J, J_clamp, J_max, J_abs, Int.toNat_natCast, Int.reduceToNat, Int.reduceAdd, Int.reduceSub, Int.reduceMul, Int.reduceNeg, not_true_eq_false, not_false_eq_true] at q; omega
      · rw [J_suc, nI2 (by omega)]
        refine ih (j + 1) (by omega) _ (by rw [mset_o (by decide)]; exact g1) (fun a i h1 h2 => by rw [mset_o h1]; exact g2 a i h1 h2) (fun i hi => ?_)
        by_cases e : i = j
        · subst e; rw [mset_self]
        · rw [mset_k e]; exact g3 i (by omega)
  refine key 25 0 (by omega) _ mset_self (fun a j h1 h2 => ?_) (fun i hi => by omega)
  rcases h2 with h2 | h2
  · rw [mset_o h2]
  · rw [mset_k h2]
end STRIP
