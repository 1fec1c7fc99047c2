/-! the whole state, and what each call answers and leaves: as values -/
abbrev SS : Type := St × (Nat × (Nat → Int))
def CR (M : Mem) (S : SS) : Prop := TR M S.1 ∧ M 2 8 = J (S.2.1 : Int) ∧ ∀ i, i < S.2.1 → M 14 i = J (S.2.2 i)
def SOK (σ : St) : Prop := ∀ p, (sL σ).testBit p = true → stP σ (wo (sL σ) (2 ^ p)) (sS σ p) (sX σ p) (sY σ p)
def OKS (S : SS) : Prop := WF S.1 ∧ SOK S.1 ∧ S.2.1 < 400
theorem SOK.DJ {σ : St} (h : SOK σ) : DJ σ := fun a b ha hb hab c r h1 h2 => h a ha c r h1 (Or.inr ⟨b, by rw [wo_bit, hb, Nat.testBit_two_pow, decide_eq_false hab]; rfl, hb, h2⟩)
def EF (M M' : Mem) : Prop := TK M M' ∧ M' 2 8 = M 2 8 ∧ ∀ j, M' 14 j = M 14 j
/-- the reference's cells are as they were -/
def MF (M M' : Mem) : Prop := ∀ a j, 18 ≤ a → M' a j = M a j
theorem CR.keep {M M' : Mem} {S : SS} (h : CR M S) (g : EF M M') : CR M' S := ⟨h.1.keep g.1, by rw [g.2.1]; exact h.2.1, fun i hi => by rw [g.2.2]; exact h.2.2 i hi⟩
theorem PF.EF {M M' : Mem} (h : PF M M') : EF M M' := ⟨h.TK, h 2 8 (by decide) (by decide) (by decide) (by decide) (by decide) (Or.inr (by decide)), fun j => h 14 j (by decide) (by decide) (by decide) (by decide) (by decide) (Or.inl (by decide))⟩
theorem PF.MF {M M' : Mem} (h : PF M M') : MF M M' := fun a j ha => h a j (by omega) (by omega) (by omega) (by omega) (by omega) (Or.inl (by omega))
theorem LF.EF {M M' : Mem} (h : LF M M') : EF M M' := ⟨⟨fun k => h 1 k (by decide) (by decide) (by decide), fun a j h1 h2 => h a j (by omega) (by omega) (by omega)⟩, h 2 8 (by decide) (by decide) (by decide), fun j => h 14 j (by decide) (by decide) (by decide)⟩
theorem LF.MF {M M' : Mem} (h : LF M M') : MF M M' := fun a j ha => h a j (by omega) (by omega) (by omega)
theorem MF.rf {M : Mem} : MF M M := fun _ _ _ => rfl
theorem MF.tr {M M1 M2 : Mem} (h : MF M M1) (g : MF M1 M2) : MF M M2 := fun a j ha => (g a j ha).trans (h a j ha)
theorem MF.set {M M1 : Mem} (h : MF M M1) {o k : Nat} {v : Int32} (ho : o < 18) : MF M (mset M1 o k v) := fun a j ha => by rw [mset_o (by omega)]; exact h a j ha
def upF {α : Type} (f : Nat → α) (k : Nat) (v : α) : Nat → α := fun j => if j = k then v else f j
theorem upF_s {α : Type} {f : Nat → α} {k : Nat} {v : α} : upF f k v k = v := if_pos rfl
theorem upF_n {α : Type} {f : Nat → α} {k j : Nat} {v : α} (h : j ≠ k) : upF f k v j = f j := if_neg h
def mkSt (c r : Int) (n : Nat) (w s : Nat → Nat) (l : Nat) (x y : Nat → Int) : St := (c, r, n, w, s, l, x, y)
def stLay (σ : St) (p : Nat) (x y : Int) : St := mkSt (sC σ) (sR σ) (sN σ) (sW σ) (sS σ) (sL σ ||| 2 ^ p) (upF (sX σ) p x) (upF (sY σ) p y)
def stTake (σ : St) (p : Nat) : St := mkSt (sC σ) (sR σ) (sN σ) (sW σ) (sS σ) (wo (sL σ) (2 ^ p)) (sX σ) (sY σ)
def stNew (σ : St) (c r : Int) : St := mkSt c r (sN σ) (fun _ => 0) (sS σ) 0 (sX σ) (sY σ)
def stWall (σ : St) (y b : Nat) : St := mkSt (sC σ) (sR σ) (sN σ) (upF (sW σ) y b) (sS σ) (sL σ) (sX σ) (sY σ)
def stPiece (σ : St) (s : Nat) : St := mkSt (sC σ) (sR σ) (sN σ + 1) (sW σ) (upF (sS σ) (sN σ) s) (sL σ) (sX σ) (sY σ)
section UPD
variable {d : Nat} {M : Mem} {Q : Post} {σ : St}
theorem ok_lay {p : Nat} {x y : Int} (hT : TR M σ) (hW : WF σ) (hp : p < sN σ) (h : ∀ M', TR M' (stLay σ p x y) → (∀ a j, a ≠ 1 → a ≠ 7 → a ≠ 8 → M' a j = M a j) → Q none M') : Mt (d + 2) mX3_lay [.ref 1, .int (J (p : Int)), .int (J x), .int (J y)] M Q := by
  have hN := hW.N
  obtain ⟨t1, t2, t3, t4, t5, t6, t7⟩ := id hT
  refine e_X3_lay (ok_has hT hW (by omega) (by omega) (ri_some ?_))
  rw [isPc_nat hp]
  refine ⟨fun c => absurd c (by decide +kernel), fun _ => ⟨vin (by omega) (by omega), vin (by omega) (by omega), ?_⟩⟩
  rw [nI2 (by omega), show mset (mset M 7 p (J x)) 8 p (J y) 1 7 = J (sL σ : Int) by rw [mset_o (by decide), mset_o (by decide)]; exact t4, J_or1 (by omega)]
  refine h _ ⟨?_, ?_, ?_, mset_self, fun i hi => ?_, fun i hi => ?_, fun i hi => ?_⟩ (fun a j h1 h2 h3 => by rw [mset_o h1, mset_o h3, mset_o h2])
  · rw [mset_k (by decide), mset_o (by decide), mset_o (by decide)]; exact t1
  · rw [mset_k (by decide), mset_o (by decide), mset_o (by decide)]; exact t2
  · rw [mset_k (by decide), mset_o (by decide), mset_o (by decide)]; exact t3
  · rw [mset_o (by decide), mset_o (by decide), mset_o (by decide)]; exact t5 i hi
  · rw [mset_o (by decide), mset_o (by decide), mset_o (by decide)]; exact t6 i hi
  · by_cases e : i = p
    · subst e
      refine ⟨?_, ?_⟩
      · rw [mset_o (by decide), mset_o (by decide), mset_self]
        exact congrArg J (upF_s (f := sX σ)).symm
      · rw [mset_o (by decide), mset_self]
        exact congrArg J (upF_s (f := sY σ)).symm
    · have hi2 : (sL σ).testBit i = true := by
        have h5 : (sL σ ||| 2 ^ p).testBit i = true := hi
        rw [Nat.testBit_or, Nat.testBit_two_pow, decide_eq_false (fun q => e q.symm), Bool.or_false] at h5
        exact h5
      refine ⟨?_, ?_⟩
      · rw [mset_o (by decide), mset_o (by decide), mset_k e, (t7 i hi2).1]
        exact congrArg J (upF_n e).symm
      · rw [mset_o (by decide), mset_k e, mset_o (by decide), (t7 i hi2).2]
        exact congrArg J (upF_n e).symm
theorem ok_take {p : Nat} (hT : TR M σ) (hW : WF σ) (hp : p < sN σ) (h : ∀ M', TR M' (stTake σ p) → (∀ a j, (a ≠ 1 ∨ j ≠ 7) → M' a j = M a j) → Q none M') : Mt (d + 2) mX3_take [.ref 1, .int (J (p : Int))] M Q := by
  have hN := hW.N
  have hl := hW.L
  obtain ⟨t1, t2, t3, t4, t5, t6, t7⟩ := id hT
  refine e_X3_take (ok_has hT hW (by omega) (by omega) (ri_some ?_))
  rw [isPc_nat hp]
  refine ⟨fun c => absurd c (by decide +kernel), fun _ => ?_⟩
  rw [t4, J_wo1 (by omega) (by omega)]
  refine h _ ⟨?_, ?_, ?_, mset_self, fun i hi => ?_, fun i hi => ?_, fun i hi => ?_⟩ (fun a j h1 => ?_)
  · rw [mset_k (by decide)]; exact t1
  · rw [mset_k (by decide)]; exact t2
  · rw [mset_k (by decide)]; exact t3
  · rw [mset_o (by decide)]; exact t5 i hi
  · rw [mset_o (by decide)]; exact t6 i hi
  · rw [mset_o (by decide), mset_o (by decide)]
    have h5 : (wo (sL σ) (2 ^ p)).testBit i = true := hi
    rw [wo_bit, Bool.and_eq_true] at h5
    exact t7 i h5.1
  · rcases h1 with h1 | h1
    · rw [mset_o h1]
    · rw [mset_k h1]
theorem ok_renew {c r : Int} (hT : TR M σ) (h : ∀ M', TR M' (stNew σ c r) → (∀ a j, a ≠ 1 → a ≠ 5 → M' a j = M a j) → Q none M') : Mt (d + 1) mX3_renew [.ref 1, .int (J c), .int (J r)] M Q := by
  obtain ⟨t1, t2, t3, t4, t5, t6, t7⟩ := id hT
  refine e_X3_renew ?_
  have key : ∀ k j : Nat, j + k = 10 → ∀ M1 : Mem, M1 1 4 = J c → M1 1 5 = J r → M1 1 6 = J (sN σ : Int) → M1 1 7 = J 0 → (∀ a i, a ≠ 1 → a ≠ 5 → M1 a i = M a i) → (∀ i, i < j → M1 5 i = J 0) → R none (d + 1) mX3_renew 17 [.ref 1, .null, .null, .int (J (j : Int))] [] M1 Q := by
    intro k
    induction k with
    | zero =>
      intro j hj M1 g1 g2 g3 g4 g5 g6
      refine b_X3_renew_17 ⟨fun _ => ?_, fun q => ?_⟩
      · exact h M1 ⟨g1, g2, g3, g4, fun i hi => g6 i (by omega), fun i hi => by rw [g5 6 i (by decide) (by decide)]; exact t6 i hi, fun i hi => by
          have h5 : (0 : Nat).testBit i = true := hi
          rw [Nat.zero_testBit] at h5
          cases h5⟩ g5
      · simp (disch := omega) only [J_add, J_sub, J_mul, J_neg, J_bit, J_shl, J_shr, J_andn, J_and, J_or, J_xor, J_div, J_rem, J_lt, J_le, J_eq, J_lt0, J_le0, J_0le, J_0lt, J_eq0, vp_in_J, J_clamp, J_max, J_abs, Int.toNat_natCast, Int.reduceToNat, Int.reduceAdd, Int.reduceSub, Int.reduceMul, Int.reduceNeg, not_true_eq_false, not_false_eq_true] at q; omega
    | succ k ih =>
      intro j hj M1 g1 g2 g3 g4 g5 g6
      refine b_X3_renew_17 ⟨fun q => ?_, fun _ => ⟨vin (by omega) (by omega), ?_⟩⟩
      · simp (disch := omega) only [J_add, J_sub, J_mul, J_neg, J_bit, J_shl, J_shr, J_andn, J_and, J_or, J_xor, J_div, J_rem, J_lt, J_le, J_eq, J_lt0, J_le0, J_0le, J_0lt, J_eq0, vp_in_J, J_clamp, J_max, J_abs, Int.toNat_natCast, Int.reduceToNat, Int.reduceAdd, Int.reduceSub, Int.reduceMul, Int.reduceNeg, not_true_eq_false, not_false_eq_true] at q; omega
      · rw [J_suc, nI2 (by omega)]
        refine ih (j + 1) (by omega) _ (by rw [mset_o (by decide)]; exact g1) (by rw [mset_o (by decide)]; exact g2) (by rw [mset_o (by decide)]; exact g3) (by rw [mset_o (by decide)]; exact g4) (fun a i h1 h2 => by rw [mset_o h2]; exact g5 a i h1 h2) (fun i hi => ?_)
        by_cases e : i = j
        · subst e; rw [mset_self]
        · rw [mset_k e]; exact g6 i (by omega)
  exact key 10 0 (by omega) _ (by rw [mset_k (by decide), mset_k (by decide), mset_self]) (by rw [mset_k (by decide), mset_self]) (by rw [mset_k (by decide), mset_k (by decide), mset_k (by decide)]; exact t3) mset_self (fun a i h1 h2 => by rw [mset_o h1, mset_o h1, mset_o h1]) (fun i hi => by omega)
theorem ok_setWalls {y b : Nat} (hT : TR M σ) (hW : WF σ) (hy : (y : Int) < sR σ) (h : ∀ M', TR M' (stWall σ y b) → (∀ a j, a ≠ 5 → M' a j = M a j) → Q none M') : Mt (d + 2) mX3_setWalls [.ref 1, .int (J (y : Int)), .int (J (b : Int))] M Q := by
  have hR := hW.R
  obtain ⟨t1, t2, t3, t4, t5, t6, t7⟩ := id hT
  refine e_X3_setWalls (ok_hasRow hT hW (by omega) (by omega) (ri_some ?_))
  rw [decide_eq_true ⟨by omega, hy⟩]
  refine ⟨fun c => absurd c (by decide +kernel), fun _ => ⟨vin (by omega) (by omega), ?_⟩⟩
  rw [nI2 (by omega)]
  refine h _ ⟨by rw [mset_o (by decide)]; exact t1, by rw [mset_o (by decide)]; exact t2, by rw [mset_o (by decide)]; exact t3, by rw [mset_o (by decide)]; exact t4, fun i hi => ?_, fun i hi => by rw [mset_o (by decide)]; exact t6 i hi, fun i hi => by rw [mset_o (by decide), mset_o (by decide)]; exact t7 i hi⟩ (fun a j ha => mset_o ha)
  by_cases e : i = y
  · subst e; rw [mset_self]; exact congrArg (fun n : Nat => J (n : Int)) (upF_s (f := sW σ)).symm
  · rw [mset_k e, t5 i hi]; exact congrArg (fun n : Nat => J (n : Int)) (upF_n e).symm
theorem ok_addPiece {s : Nat} (hT : TR M σ) (hW : WF σ) (h1 : sN σ < 8 → ∀ M', TR M' (stPiece σ s) → (∀ a j, a ≠ 1 → a ≠ 6 → M' a j = M a j) → Q (some (J (sN σ : Int))) M') (h2 : sN σ = 8 → Q (some (J (-3))) M) : Mt (d + 1) mX3_addPiece [.ref 1, .int (J (s : Int))] M Q := by
  have hN := hW.N
  obtain ⟨t1, t2, t3, t4, t5, t6, t7⟩ := id hT
  refine e_X3_addPiece ?_
  rw [t3]
  refine ⟨fun c => ⟨?_, ?_⟩, fun c => ?_⟩
  · simp (disch := omega) only [J_add, J_sub, J_mul, J_neg, J_bit, J_shl, J_shr, J_andn, J_and, J_or, J_xor, J_div, J_rem, J_lt, J_le, J_eq, J_lt0, J_le0, J_0le, J_0lt, J_eq0, vp_in_J, J_clamp, J_max, J_abs, Int.toNat_natCast, Int.reduceToNat, Int.reduceAdd, Int.reduceSub, Int.reduceMul, Int.reduceNeg, not_true_eq_false, not_false_eq_true] at c; exact vin (by omega) (by omega)
  · simp (disch := omega) only [J_add, J_sub, J_mul, J_neg, J_bit, J_shl, J_shr, J_andn, J_and, J_or, J_xor, J_div, J_rem, J_lt, J_le, J_eq, J_lt0, J_le0, J_0le, J_0lt, J_eq0, vp_in_J, J_clamp, J_max, J_abs, Int.toNat_natCast, Int.reduceToNat, Int.reduceAdd, Int.reduceSub, Int.reduceMul, Int.reduceNeg, not_true_eq_false, not_false_eq_true] at c
    rw [nI2 (by omega), show mset M 6 (sN σ) (J (s : Int)) 1 6 = J (sN σ : Int) by rw [mset_o (by decide)]; exact t3, J_suc]
    refine h1 (by omega) _ ⟨?_, ?_, mset_self, ?_, fun i hi => ?_, fun i hi => ?_, fun i hi => ?_⟩ (fun a j g1 g2 => by rw [mset_o g1, mset_o g2])
    · rw [mset_k (by decide), mset_o (by decide)]; exact t1
    · rw [mset_k (by decide), mset_o (by decide)]; exact t2
    · rw [mset_k (by decide), mset_o (by decide)]; exact t4
    · rw [mset_o (by decide), mset_o (by decide)]; exact t5 i hi
    · rw [mset_o (by decide)]
      by_cases e : i = sN σ
      · subst e; rw [mset_self]; exact congrArg (fun n : Nat => J (n : Int)) (upF_s (f := sS σ)).symm
      · have hi2 : i < sN σ + 1 := hi
        rw [mset_k e, t6 i (by omega)]; exact congrArg (fun n : Nat => J (n : Int)) (upF_n e).symm
    · rw [mset_o (by decide), mset_o (by decide), mset_o (by decide), mset_o (by decide)]; exact t7 i hi
  · simp (disch := omega) only [J_add, J_sub, J_mul, J_neg, J_bit, J_shl, J_shr, J_andn, J_and, J_or, J_xor, J_div, J_rem, J_lt, J_le, J_eq, J_lt0, J_le0, J_0le, J_0lt, J_eq0, vp_in_J, J_clamp, J_max, J_abs, Int.toNat_natCast, Int.reduceToNat, Int.reduceAdd, Int.reduceSub, Int.reduceMul, Int.reduceNeg, not_true_eq_false, not_false_eq_true] at c; exact h2 (by omega)
theorem ok_wallCount (hT : TR M σ) (hW : WF σ) (h : Q (some (J (sumN (fun y => pcR 25 (sW σ y)) 10 : Nat))) M) : Mt (d + 2) mX3_wallCount [.ref 1] M Q := by
  refine e_X3_wallCount ?_
  have key : ∀ k j : Nat, j + k = 10 → R none (d + 2) mX3_wallCount 4 [.ref 1, .int (J (sumN (fun y => pcR 25 (sW σ y)) j : Nat)), .int (J (j : Int))] [] M Q := by
    intro k
    induction k with
    | zero =>
      intro j hj
      refine b_X3_wallCount_4 ⟨fun _ => ?_, fun q => ?_⟩
      · rw [show j = 10 by omega]; exact h
      · simp (disch := omega) only [J_add, J_sub, J_mul, J_neg, J_bit, J_shl, J_shr, J_andn, J_and, J_or, J_xor, J_div, J_rem, J_lt, J_le, J_eq, J_lt0, J_le0, J_0le, J_0lt, J_eq0, vp_in_J, J_clamp, J_max, J_abs, Int.toNat_natCast, Int.reduceToNat, Int.reduceAdd, Int.reduceSub, Int.reduceMul, Int.reduceNeg, not_true_eq_false, not_false_eq_true] at q; omega
    | succ k ih =>
      intro j hj
      have hw := hW.W (show j < 10 by omega)
      refine b_X3_wallCount_4 ⟨fun q => ?_, fun _ => ⟨vin (by omega) (by omega), ?_⟩⟩
      · simp (disch := omega) only [J_add, J_sub, J_mul, J_neg, J_bit, J_shl, J_shr, J_andn, J_and, J_or, J_xor, J_div, J_rem, J_lt, J_le, J_eq, J_lt0, J_le0, J_0le, J_0lt, J_eq0, vp_in_J, J_clamp, J_max, J_abs, Int.toNat_natCast, Int.reduceToNat, Int.reduceAdd, Int.reduceSub, Int.reduceMul, Int.reduceNeg, not_true_eq_false, not_false_eq_true] at q; omega
      · rw [nI2 (by omega), hT.2.2.2.2.1 j (by omega)]
        refine ok_bitCount (by omega) (ri_some ?_)
        rw [J_addN, J_suc]
        exact ih (j + 1) (by omega)
  exact key 10 0 (by omega)
end UPD
/-! a shape moved into the corner -/
def rsN : Nat → Nat → Nat
  | 0, s => s
  | k + 1, s => if s % 32 = 0 then rsN k (s / 32) else s
def csN : Nat → Nat → Nat
  | 0, s => s
  | k + 1, s => if s &&& 1082401 = 0 then csN k (s / 2) else s
def crn (s : Nat) : Nat := csN 4 (rsN 4 s)
theorem and31 (n : Nat) : n &&& 31 = n % 32 := Nat.and_two_pow_sub_one_eq_mod n 5
theorem rsN_le : ∀ k s, rsN k s ≤ s := by
  intro k
  induction k with
  | zero => intro s; exact Nat.le_refl _
  | succ k ih =>
    intro s
    rw [rsN]
    split
    · exact Nat.le_trans (ih _) (Nat.div_le_self _ _)
    · exact Nat.le_refl _
theorem rsN_ok : ∀ k s, 0 < s → s < 32 ^ (k + 1) → rsN k s % 32 ≠ 0 := by
  intro k
  induction k with
  | zero =>
    intro s h1 h2
    rw [rsN]
    rw [Nat.mod_eq_of_lt (by simpa using h2)]; omega
  | succ k ih =>
    intro s h1 h2
    rw [rsN]
    split
    · next q =>
      refine ih (s / 32) (by omega) ?_
      rw [Nat.div_lt_iff_lt_mul (by omega)]
      rw [Nat.pow_succ] at h2
      exact h2
    · next q => exact q
section CRN
variable {d : Nat} {M : Mem} {Q : Post}
theorem ok_movedToCorner {s : Nat} (hs : s < 33554432) (h : Q (some (J (crn s : Nat))) M) : Mt (d + 1) mX4_movedToCorner [.int (J (s : Int))] M Q := by
  refine e_X4_movedToCorner ?_
  have key2 : ∀ k i t : Nat, i + k = 5 → t < 33554432 → csN k t = crn s → R none (d + 1) mX4_movedToCorner 28 [.null, .int (J (t : Int)), .int (J (i : Int))] [] M Q := by
    intro k
    induction k with
    | zero =>
      intro i t hi ht he
      refine b_X4_movedToCorner_28 ⟨fun _ => ?_, fun q => ?_⟩
      · rw [← he] at h; exact h
      · simp (disch := omega) only [J_add, J_sub, J_mul, J_neg, J_bit, J_shl, J_shr, J_andn, J_and, J_or, J_xor, J_div, J_rem, J_lt, J_le, J_eq, J_lt0, J_le0, J_0le, J_0lt, J_eq0, vp_in_J, J_clamp, J_max, J_abs, Int.toNat_natCast, Int.reduceToNat, Int.reduceAdd, Int.reduceSub, Int.reduceMul, Int.reduceNeg, not_true_eq_false, not_false_eq_true] at q; omega
    | succ k ih =>
      intro i t hi ht he
      rw [csN] at he
      have hle : t &&& 1082401 ≤ t := Nat.and_le_left
      refine b_X4_movedToCorner_28 ⟨fun q => ?_, fun _ => ?_⟩
      · simp (disch := omega) only [J_add, J_sub, J_mul, J_neg, J_bit, J_shl, J_shr, J_andn, J_and, J_or, J_xor, J_div, J_rem, J_lt, J_le, J_eq, J_lt0, J_le0, J_0le, J_0lt, J_eq0, vp_in_J, J_clamp, J_max, J_abs, Int.toNat_natCast, Int.reduceToNat, Int.reduceAdd, Int.reduceSub, Int.reduceMul, Int.reduceNeg, not_true_eq_false, not_false_eq_true] at q; omega
      · rw [show J 1082401 = J ((1082401 : Nat) : Int) from rfl, J_andN, J_eq0 (by omega) (by omega), J_suc, show J 1 = J ((1 : Nat) : Int) from rfl, J_shrN (by omega) (by omega)]
        refine ⟨fun q => ?_, fun q => ?_⟩
        · rw [if_neg (by omega)] at he
          rw [← he] at h; exact h
        · rw [if_pos (by omega)] at he
          exact ih (i + 1) (t / 2 ^ 1) (by omega) (by omega) he
  have key1 : ∀ k i t : Nat, i + k = 5 → t < 33554432 → csN 4 (rsN k t) = crn s → R none (d + 1) mX4_movedToCorner 4 [.null, .int (J (t : Int)), .int (J (i : Int))] [] M Q := by
    intro k
    induction k with
    | zero =>
      intro i t hi ht he
      refine b_X4_movedToCorner_4 ⟨fun _ => ?_, fun q => ?_⟩
      · exact key2 4 1 t (by omega) ht he
      · simp (disch := omega) only [J_add, J_sub, J_mul, J_neg, J_bit, J_shl, J_shr, J_andn, J_and, J_or, J_xor, J_div, J_rem, J_lt, J_le, J_eq, J_lt0, J_le0, J_0le, J_0lt, J_eq0, vp_in_J, J_clamp, J_max, J_abs, Int.toNat_natCast, Int.reduceToNat, Int.reduceAdd, Int.reduceSub, Int.reduceMul, Int.reduceNeg, not_true_eq_false, not_false_eq_true] at q; omega
    | succ k ih =>
      intro i t hi ht he
      rw [rsN] at he
      refine b_X4_movedToCorner_4 ⟨fun q => ?_, fun _ => ?_⟩
      · simp (disch := omega) only [J_add, J_sub, J_mul, J_neg, J_bit, J_shl, J_shr, J_andn, J_and, J_or, J_xor, J_div, J_rem, J_lt, J_le, J_eq, J_lt0, J_le0, J_0le, J_0lt, J_eq0, vp_in_J, J_clamp, J_max, J_abs, Int.toNat_natCast, Int.reduceToNat, Int.reduceAdd, Int.reduceSub, Int.reduceMul, Int.reduceNeg, not_true_eq_false, not_false_eq_true] at q; omega
      · rw [show J 31 = J ((31 : Nat) : Int) from rfl, J_andN, and31, J_eq0 (by omega) (by omega), J_suc, show J 5 = J ((5 : Nat) : Int) from rfl, J_shrN (by omega) (by omega)]
        refine ⟨fun q => ?_, fun q => ?_⟩
        · rw [if_neg (by omega)] at he
          exact key2 4 1 t (by omega) ht he
        · rw [if_pos (by omega)] at he
          exact ih (i + 1) (t / 2 ^ 5) (by omega) (by omega) he
  exact key1 4 1 s (by omega) hs rfl
end CRN
