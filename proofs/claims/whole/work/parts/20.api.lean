/-! what a call answers, and what is then -/
def BI32 (z : Int) : Prop := -2147483648 ≤ z ∧ z < 2147483648
def isSp (x y : Int) : Prop := (-6 ≤ x ∧ x ≤ 13) ∧ (-6 ≤ y ∧ y ≤ 13)
abbrev oth (σ : St) (p : Nat) : Nat := wo (sL σ) (2 ^ p)
abbrev opP (σ : St) (p : Nat) : Nat → Bool := opn σ (oth σ p) (sS σ p)
abbrev lyB (σ : St) (p : Nat) : Bool := (sL σ).testBit p
abbrev whP (σ : St) (p : Nat) : Nat := plc (sX σ p) (sY σ p)
def aBoard (S : SS) (c r : Int) : Int × SS := if (1 ≤ c ∧ c ≤ 12) ∧ (1 ≤ r ∧ r ≤ 10) then (c * r, (stNew S.1 c r, (0, S.2.2))) else (-1, S)
noncomputable def aWalls (S : SS) (y b : Int) : Int × SS := if (0 ≤ y ∧ y < sR S.1) ∧ (0 ≤ b ∧ b ≤ full S.1) then (if pb (∃ p c : Nat, (sL S.1).testBit p = true ∧ b.toNat.testBit c = true ∧ sq (sS S.1 p) (sX S.1 p) (sY S.1 p) c y = true) = true then (-2, S) else (b, (stWall S.1 y.toNat b.toNat, S.2))) else (-1, S)
def aPiece (S : SS) (z : Int) : Int × SS := if 1 ≤ z ∧ z ≤ 33554431 then (if sN S.1 < 8 then ((sN S.1 : Int), (stPiece S.1 (crn z.toNat), S.2)) else (-3, S)) else (-1, S)
noncomputable def aAbout (S : SS) (p w : Int) : Int := if isPc S.1 p = true then
  (if w = 0 then (pcR 25 (sS S.1 p.toNat) : Nat) else if w = 1 then (wideN (sS S.1 p.toNat) : Nat) else if w = 2 then (tallN (sS S.1 p.toNat) : Nat) else
   if w = 3 then (if lyB S.1 p.toNat = true then sX S.1 p.toNat else -100) else if w = 4 then (if lyB S.1 p.toNat = true then sY S.1 p.toNat else -100) else
   if w = 5 then (if lyB S.1 p.toNat = true then 1 else 0) else if w = 6 then (sS S.1 p.toNat : Nat) else
   if w = 7 then (if lyB S.1 p.toNat = true then (if pb (outP S.1 (sS S.1 p.toNat) (sX S.1 p.toNat) (sY S.1 p.toNat)) = true then 1 else 0) else 0) else -1) else -1
noncomputable def aPut (S : SS) (p x y : Int) : Int × SS := if isPc S.1 p = true ∧ ((-6 ≤ x ∧ x ≤ 13) ∧ (-6 ≤ y ∧ y ≤ 13)) then (if pb (stP S.1 (oth S.1 p.toNat) (sS S.1 p.toNat) x y) = true then (1, (stLay S.1 p.toNat x y, S.2)) else (-2, S)) else (-1, S)
def aAway (S : SS) (p : Int) : Int × SS := if isPc S.1 p = true then (if lyB S.1 p.toNat = true then (1, (stTake S.1 p.toNat, S.2)) else (0, S)) else (-1, S)
noncomputable def aStands (S : SS) (p x y : Int) : Int := if isPc S.1 p = true ∧ ((-6 ≤ x ∧ x ≤ 13) ∧ (-6 ≤ y ∧ y ≤ 13)) then (if pb (stP S.1 (oth S.1 p.toNat) (sS S.1 p.toNat) x y) = true then 1 else 0) else -1
def aSlide (S : SS) (p e n : Int) : Int × SS := if isPc S.1 p = true ∧ ((0 ≤ e ∧ e ≤ 3) ∧ (1 ≤ n ∧ n ≤ 20)) then (if lyB S.1 p.toNat = true then ((onw (opP S.1 p.toNat) e n.toNat (whP S.1 p.toNat) : Nat), (stLay S.1 p.toNat (sX S.1 p.toNat + (onw (opP S.1 p.toNat) e n.toNat (whP S.1 p.toNat) : Nat) * dxI e) (sY S.1 p.toNat + (onw (opP S.1 p.toNat) e n.toNat (whP S.1 p.toNat) : Nat) * dyI e), S.2)) else (-2, S)) else (-1, S)
def aWay (S : SS) (p x y : Int) : Int × SS := if isPc S.1 p = true ∧ ((-6 ≤ x ∧ x ≤ 13) ∧ (-6 ≤ y ∧ y ≤ 13)) then (if lyB S.1 p.toNat = true then
  (match (src (opP S.1 p.toNat) (plc x y)).1 (whP S.1 p.toNat) with
   | none => (-4, S)
   | some n => ((n : Int), (S.1, (n, fun i => (dirTo (src (opP S.1 p.toNat) (plc x y)) (pk (src (opP S.1 p.toNat) (plc x y)) (whP S.1 p.toNat) n i) (n - i - 1) : Nat))))) else (-2, S)) else (-1, S)
def aStepOf (S : SS) (i : Int) : Int := if i < 0 then -1 else if i < S.2.1 then S.2.2 i.toNat else -4
def outN (σ : St) (o p : Nat) : Int := fOut (oun σ (sS σ p)) (src (opn σ o (sS σ p)) (whP σ p)) (src (opn σ o (sS σ p)) (whP σ p)).2
def aOut (S : SS) (p : Int) : Int := if isPc S.1 p = true then (if lyB S.1 p.toNat = true then outN S.1 (oth S.1 p.toNat) p.toNat else -2) else -1
noncomputable def aPlaces (S : SS) (p w : Int) : Int := if isPc S.1 p = true ∧ (0 ≤ w ∧ w ≤ 1) then (if w = 0 then (insC (opP S.1 p.toNat) (colsN S.1 (sS S.1 p.toNat)) (rowsN S.1 (sS S.1 p.toNat)) : Nat) else (rooms (opP S.1 p.toNat) (oun S.1 (sS S.1 p.toNat)) : Nat)) else -1
noncomputable def aBlocks (S : SS) (p e : Int) : Int := if isPc S.1 p = true ∧ (0 ≤ e ∧ e ≤ 3) then (if lyB S.1 p.toNat = true then (blkN S.1 p.toNat e (sL S.1) : Nat) else -2) else -1
def aCount (S : SS) (w : Int) : Int := if w = 0 then sC S.1 else if w = 1 then sR S.1 else if w = 2 then (sN S.1 : Nat) else if w = 3 then (pcR 25 (sL S.1) : Nat) else if w = 4 then (sumN (fun y => pcR 25 (sW S.1 y)) 10 : Nat) else -1
theorem isPc_of {σ : St} {z : Int} (h : isPc σ z = true) : ∃ p : Nat, z = (p : Int) ∧ p < sN σ := by
  unfold isPc at h
  rw [decide_eq_true_iff] at h
  exact ⟨z.toNat, by omega, by omega⟩
theorem jb_ne {b : Bool} : ¬ jb b = 0 ↔ b = true := by rw [jb_eq0, Bool.not_eq_false]
section CAPI
variable {d : Nat} {M : Mem} {Q : Post} {S : SS}
theorem c_board {c r : Int} (hC : CR M S) (hc : BI32 c) (hr : BI32 r) (h : ∀ M', CR M' (aBoard S c r).2 → MF M M' → Q (some (J (aBoard S c r).1)) M') : Mt (d + 12) mX4_board [.ref 0, .int (J c), .int (J r)] M Q := by
  obtain ⟨hc1, hc2⟩ := hc
  obtain ⟨hr1, hr2⟩ := hr
  have bad : ¬ ((1 ≤ c ∧ c ≤ 12) ∧ (1 ≤ r ∧ r ≤ 10)) → Q (some (J (-1))) M := by
    intro q
    unfold aBoard at h
    rw [if_neg q] at h
    exact h M hC MF.rf
  refine e_X4_board ⟨fun q => ?_, fun q => ⟨fun q2 => ?_, fun q2 => ⟨fun q3 => ?_, fun q3 => ⟨fun q4 => ?_, fun q4 => ?_⟩⟩⟩⟩
  · simp (disch := omega) only [J_add, J_sub, J_mul, J_neg, J_bit, J_shl, J_shr, J_andn, J_and, J_or, J_xor, J_div, J_rem, J_lt, J_le, J_eq, J_lt0, J_le0, J_0le, J_0lt, J_eq0, vp_in_J, J_clamp, J_max, J_abs, Int.toNat_natCast, Int.reduceToNat, Int.reduceAdd, Int.reduceSub, Int.reduceMul, Int.reduceNeg, not_true_eq_false, not_false_eq_true] at q; exact bad (by omega)
  · simp (disch := omega) only [J_add, J_sub, J_mul, J_neg, J_bit, J_shl, J_shr, J_andn, J_and, J_or, J_xor, J_div, J_rem, J_lt, J_le, J_eq, J_lt0, J_le0, J_0le, J_0lt, J_eq0, vp_in_J, J_clamp, J_max, J_abs, Int.toNat_natCast, Int.reduceToNat, Int.reduceAdd, Int.reduceSub, Int.reduceMul, Int.reduceNeg, not_true_eq_false, not_false_eq_true] at q2; exact bad (by omega)
  · simp (disch := omega) only [J_add, J_sub, J_mul, J_neg, J_bit, J_shl, J_shr, J_andn, J_and, J_or, J_xor, J_div, J_rem, J_lt, J_le, J_eq, J_lt0, J_le0, J_0le, J_0lt, J_eq0, vp_in_J, J_clamp, J_max, J_abs, Int.toNat_natCast, Int.reduceToNat, Int.reduceAdd, Int.reduceSub, Int.reduceMul, Int.reduceNeg, not_true_eq_false, not_false_eq_true] at q3; exact bad (by omega)
  · simp (disch := omega) only [J_add, J_sub, J_mul, J_neg, J_bit, J_shl, J_shr, J_andn, J_and, J_or, J_xor, J_div, J_rem, J_lt, J_le, J_eq, J_lt0, J_le0, J_0le, J_0lt, J_eq0, vp_in_J, J_clamp, J_max, J_abs, Int.toNat_natCast, Int.reduceToNat, Int.reduceAdd, Int.reduceSub, Int.reduceMul, Int.reduceNeg, not_true_eq_false, not_false_eq_true] at q q2 q3 q4
    have hcr : (1 ≤ c ∧ c ≤ 12) ∧ (1 ≤ r ∧ r ≤ 10) := by omega
    unfold aBoard at h
    rw [if_pos hcr] at h
    refine ok_renew hC.1 (fun M1 g1 g2 => rn_none (e_X2_forgetSteps (rn_none ?_)))
    rw [J_mul]
    refine h _ ⟨g1.keep ⟨fun k => mset_o (by decide), fun a j h1 h2 => mset_o (by omega)⟩, mset_self, fun i hi => absurd hi (Nat.not_lt_zero i)⟩ ?_
    exact (MF.set (fun a j ha => g2 a j (by omega) (by omega)) (by decide))
  · simp (disch := omega) only [J_add, J_sub, J_mul, J_neg, J_bit, J_shl, J_shr, J_andn, J_and, J_or, J_xor, J_div, J_rem, J_lt, J_le, J_eq, J_lt0, J_le0, J_0le, J_0lt, J_eq0, vp_in_J, J_clamp, J_max, J_abs, Int.toNat_natCast, Int.reduceToNat, Int.reduceAdd, Int.reduceSub, Int.reduceMul, Int.reduceNeg, not_true_eq_false, not_false_eq_true] at q4; exact bad (by omega)
theorem J_per (b : Int) : J b = J (b + 4294967296) := by
  unfold J
  rw [Int32.ofInt_add]
  have : Int32.ofInt 4294967296 = 0 := by decide +kernel
  rw [this, Int32.add_zero]
theorem wo_full {b n : Nat} : wo b (2 ^ n - 1) = 0 ↔ b < 2 ^ n := by
  constructor
  · intro h
    apply Nat.lt_of_not_le
    intro q
    have : ∀ i, n ≤ i → b.testBit i = false := by
      intro i hi
      have h1 := wo_bit b (2 ^ n - 1) i
      rw [h, Nat.zero_testBit, Nat.testBit_two_pow_sub_one, decide_eq_false (by omega)] at h1
      simpa using h1.symm
    exact absurd (Nat.lt_pow_two_of_testBit b this) (by omega)
  · intro h
    apply Nat.eq_of_testBit_eq
    intro i
    rw [wo_bit, Nat.zero_testBit, Nat.testBit_two_pow_sub_one]
    by_cases hi : i < n
    · rw [decide_eq_true hi]; simp
    · rw [Nat.testBit_lt_two_pow (Nat.lt_of_lt_of_le h (Nat.pow_le_pow_right (by omega) (by omega)))]; rfl
theorem c_walls {y b : Int} (hC : CR M S) (hO : OKS S) (hy : BI32 y) (hb : BI32 b) (h : ∀ M', CR M' (aWalls S y b).2 → MF M M' → Q (some (J (aWalls S y b).1)) M') : Mt (d + 12) mX4_walls [.ref 0, .int (J y), .int (J b)] M Q := by
  obtain ⟨hy1, hy2⟩ := hy
  obtain ⟨hb1, hb2⟩ := hb
  have hW := hO.1
  have hR := hW.R
  have hT := hC.1
  have hfl := full_lt hW
  have bad : ¬ ((0 ≤ y ∧ y < sR S.1) ∧ (0 ≤ b ∧ b ≤ full S.1)) → Q (some (J (-1))) M := by
    intro q
    unfold aWalls at h
    rw [if_neg q] at h
    exact h M hC MF.rf
  refine e_X4_walls (ok_hasRow hT hW hy1 hy2 (ri_some ?_))
  rw [jb_ne, jb_eq0]
  refine ⟨fun q => bad (by have := of_decide_eq_false q; omega), fun q => ok_wholeRow hT hW (ri_some ?_)⟩
  have hyr := of_decide_eq_true q
  by_cases hb0 : 0 ≤ b
  · obtain ⟨n, rfl⟩ := J_nat hb0
    rw [J_andn (by omega) (by omega) (by omega) (by omega), Int.toNat_natCast, Int.toNat_natCast]
    have hle := wo_le n (full S.1)
    rw [J_eq0 (by omega) (by omega)]
    have hwf : wo n (full S.1) = 0 ↔ n < 2 ^ (sC S.1).toNat := wo_full
    have hff : full S.1 = 2 ^ (sC S.1).toNat - 1 := rfl
    have hpp := Nat.two_pow_pos (sC S.1).toNat
    refine ⟨fun q2 => ?_, fun q2 => bad (by omega)⟩
    obtain ⟨m, rfl⟩ := J_nat hyr.1
    have hin : (0 ≤ (m : Int) ∧ (m : Int) < sR S.1) ∧ (0 ≤ (n : Int) ∧ (n : Int) ≤ full S.1) := ⟨hyr, by omega, by omega⟩
    unfold aWalls at h
    rw [if_pos hin, Int.toNat_natCast, Int.toNat_natCast] at h
    have hset : decide (setR S.1 (sL S.1) m &&& (n * 64) ≠ 0) = pb (∃ p c : Nat, (sL S.1).testBit p = true ∧ n.testBit c = true ∧ sq (sS S.1 p) (sX S.1 p) (sY S.1 p) c m = true) := by
      apply pb_eq
      rw [decide_eq_true_iff, and_ne0]
      constructor
      · rintro ⟨i, h1, h2⟩
        rw [setR_bit hW] at h1
        obtain ⟨p, -, h3, h4⟩ := h1
        rw [show (64 : Nat) = 2 ^ 6 from rfl, Nat.testBit_mul_two_pow, Bool.and_eq_true, decide_eq_true_iff] at h2
        exact ⟨p, i - 6, h3, h2.2, by rw [show ((i - 6 : Nat) : Int) = (i : Int) - 6 by omega]; exact h4⟩
      · rintro ⟨p, c, h1, h2, h3⟩
        refine ⟨c + 6, ?_, ?_⟩
        · rw [setR_bit hW]
          exact ⟨p, h1, h1, by rw [show ((c + 6 : Nat) : Int) - 6 = (c : Int) by omega]; exact h3⟩
        · rw [show (64 : Nat) = 2 ^ 6 from rfl, Nat.testBit_mul_two_pow, decide_eq_true (by omega), Nat.add_sub_cancel]; exact h2
    refine ok_isLainOn hT hW (by omega) (by omega) (ri_some ?_)
    rw [hset, jb_ne, jb_eq0]
    refine ⟨fun q3 => ok_setWalls hT hW (by omega) (fun M1 g1 g2 => rn_none ?_), fun q3 => ?_⟩
    · rw [q3, if_neg (by decide)] at h
      exact h M1 ⟨g1, by rw [g2 2 8 (by decide)]; exact hC.2.1, fun i hi => by rw [g2 14 i (by decide)]; exact hC.2.2 i hi⟩ (fun a j ha => g2 a j (by omega))
    · rw [q3, if_pos rfl] at h
      exact h M hC MF.rf
  · have hbad := bad (by omega)
    refine ⟨fun q2 => ?_, fun q2 => hbad⟩
    exfalso
    rw [J_per b, J_andn (by omega) (by omega) (by omega) (by omega), Int.toNat_natCast] at q2
    have h31 : (wo (b + 4294967296).toNat (full S.1)).testBit 31 = true := by
      rw [wo_bit, Nat.testBit_lt_two_pow (x := full S.1) (Nat.lt_trans hfl (by decide)), Bool.not_false, Bool.and_true, Nat.testBit_eq_decide_div_mod_eq, decide_eq_true_iff]
      omega
    have hle : wo (b + 4294967296).toNat (full S.1) < 2 ^ 32 := wo_lt (by omega)
    have h1 := congrArg Int32.toBitVec q2
    rw [J_natbits] at h1
    have h2 := congrArg BitVec.toNat h1
    rw [BitVec.toNat_ofNat, Nat.mod_eq_of_lt hle] at h2
    rw [h2] at h31
    exact absurd h31 (by decide +kernel)
theorem c_piece {z : Int} (hC : CR M S) (hO : OKS S) (hz : BI32 z) (h : ∀ M', CR M' (aPiece S z).2 → MF M M' → Q (some (J (aPiece S z).1)) M') : Mt (d + 12) mX4_piece [.ref 0, .int (J z)] M Q := by
  obtain ⟨hz1, hz2⟩ := hz
  have hW := hO.1
  have hN := hW.N
  have bad : ¬ (1 ≤ z ∧ z ≤ 33554431) → Q (some (J (-1))) M := by
    intro q
    unfold aPiece at h
    rw [if_neg q] at h
    exact h M hC MF.rf
  refine e_X4_piece ⟨fun q => ?_, fun q => ⟨fun q2 => ?_, fun q2 => ?_⟩⟩
  · simp (disch := omega) only [J_add, J_sub, J_mul, J_neg, J_bit, J_shl, J_shr, J_andn, J_and, J_or, J_xor, J_div, J_rem, J_lt, J_le, J_eq, J_lt0, J_le0, J_0le, J_0lt, J_eq0, vp_in_J, J_clamp, J_max, J_abs, Int.toNat_natCast, Int.reduceToNat, Int.reduceAdd, Int.reduceSub, Int.reduceMul, Int.reduceNeg, not_true_eq_false, not_false_eq_true] at q; exact bad (by omega)
  · simp (disch := omega) only [J_add, J_sub, J_mul, J_neg, J_bit, J_shl, J_shr, J_andn, J_and, J_or, J_xor, J_div, J_rem, J_lt, J_le, J_eq, J_lt0, J_le0, J_0le, J_0lt, J_eq0, vp_in_J, J_clamp, J_max, J_abs, Int.toNat_natCast, Int.reduceToNat, Int.reduceAdd, Int.reduceSub, Int.reduceMul, Int.reduceNeg, not_true_eq_false, not_false_eq_true] at q q2
    obtain ⟨n, rfl⟩ := J_nat (show 0 ≤ z by omega)
    unfold aPiece at h
    rw [if_pos (by omega), Int.toNat_natCast] at h
    refine ok_movedToCorner (by omega) (ri_some (ok_addPiece hC.1 hW (fun q3 M1 g1 g2 => ri_some ?_) (fun q3 => ri_some ?_)))
    · rw [if_pos q3] at h
      exact h M1 ⟨g1, by rw [g2 2 8 (by decide) (by decide)]; exact hC.2.1, fun i hi => by rw [g2 14 i (by decide) (by decide)]; exact hC.2.2 i hi⟩ (fun a j ha => g2 a j (by omega) (by omega))
    · rw [if_neg (by omega)] at h
      exact h M hC MF.rf
  · simp (disch := omega) only [J_add, J_sub, J_mul, J_neg, J_bit, J_shl, J_shr, J_andn, J_and, J_or, J_xor, J_div, J_rem, J_lt, J_le, J_eq, J_lt0, J_le0, J_0le, J_0lt, J_eq0, vp_in_J, J_clamp, J_max, J_abs, Int.toNat_natCast, Int.reduceToNat, Int.reduceAdd, Int.reduceSub, Int.reduceMul, Int.reduceNeg, not_true_eq_false, not_false_eq_true] at q2; exact bad (by omega)
theorem c_put {p x y : Int} (hC : CR M S) (hO : OKS S) (hp : BI32 p) (hx : BI32 x) (hy : BI32 y) (h : ∀ M', CR M' (aPut S p x y).2 → MF M M' → Q (some (J (aPut S p x y).1)) M') : Mt (d + 12) mX4_put [.ref 0, .int (J p), .int (J x), .int (J y)] M Q := by
  have hW := hO.1
  refine e_X4_put (ok_has hC.1 hW hp.1 hp.2 (ri_some ?_))
  rw [jb_ne, jb_eq0]
  have bad : ¬ (isPc S.1 p = true ∧ ((-6 ≤ x ∧ x ≤ 13) ∧ (-6 ≤ y ∧ y ≤ 13))) → Q (some (J (-1))) M := by
    intro q
    unfold aPut at h
    rw [if_neg q] at h
    exact h M hC MF.rf
  refine ⟨fun q => bad (fun g => by rw [q] at g; cases g.1), fun q => ok_isPlace hx.1 hx.2 hy.1 hy.2 (ri_some ?_)⟩
  rw [jb_ne, jb_eq0]
  refine ⟨fun q2 => ?_, fun q2 => bad (fun g => absurd g.2 (of_decide_eq_false q2))⟩
  have hxy := of_decide_eq_true q2
  unfold aPut at h
  rw [if_pos ⟨q, hxy⟩] at h
  obtain ⟨k, rfl, hk⟩ := isPc_of q
  rw [Int.toNat_natCast] at h
  refine ok_canStand hC.1 hW hk hxy.1 hxy.2 (fun M1 g => ri_some ?_)
  have hC1 := hC.keep g.EF
  rw [jb_ne, jb_eq0]
  refine ⟨fun q3 => ok_lay hC1.1 hW hk (fun M2 f1 f2 => rn_none ?_), fun q3 => ?_⟩
  · rw [if_pos q3] at h
    exact h M2 ⟨f1, by rw [f2 2 8 (by decide) (by decide) (by decide)]; exact hC1.2.1, fun i hi => by rw [f2 14 i (by decide) (by decide) (by decide)]; exact hC1.2.2 i hi⟩ (g.MF.tr (fun a j ha => f2 a j (by omega) (by omega) (by omega)))
  · rw [if_neg (fun g => by unfold oth at g; rw [q3] at g; cases g)] at h
    exact h M1 hC1 g.MF
theorem c_away {p : Int} (hC : CR M S) (hO : OKS S) (hp : BI32 p) (h : ∀ M', CR M' (aAway S p).2 → MF M M' → Q (some (J (aAway S p).1)) M') : Mt (d + 12) mX4_away [.ref 0, .int (J p)] M Q := by
  have hW := hO.1
  refine e_X4_away (ok_has hC.1 hW hp.1 hp.2 (ri_some ?_))
  rw [jb_ne, jb_eq0]
  unfold aAway at h
  refine ⟨fun q => ?_, fun q => ?_⟩
  · rw [if_pos q] at h
    obtain ⟨k, rfl, hk⟩ := isPc_of q
    rw [Int.toNat_natCast] at h
    refine ok_isLying hC.1 hW hk (ri_some ?_)
    rw [jb_ne, jb_eq0]
    refine ⟨fun q2 => ok_take hC.1 hW hk (fun M1 f1 f2 => rn_none ?_), fun q2 => ?_⟩
    · rw [if_pos q2] at h
      exact h M1 ⟨f1, by rw [f2 2 8 (Or.inl (by decide))]; exact hC.2.1, fun i hi => by rw [f2 14 i (Or.inl (by decide))]; exact hC.2.2 i hi⟩ (fun a j ha => f2 a j (Or.inl (by omega)))
    · rw [if_neg (fun g => by unfold lyB at g; rw [q2] at g; cases g)] at h
      exact h M hC MF.rf
  · rw [if_neg (fun g => by rw [q] at g; cases g)] at h
    exact h M hC MF.rf
theorem c_stands {p x y : Int} (hC : CR M S) (hO : OKS S) (hp : BI32 p) (hx : BI32 x) (hy : BI32 y) (h : ∀ M', CR M' S → MF M M' → Q (some (J (aStands S p x y))) M') : Mt (d + 12) mX4_stands [.ref 0, .int (J p), .int (J x), .int (J y)] M Q := by
  have hW := hO.1
  refine e_X4_stands (ok_has hC.1 hW hp.1 hp.2 (ri_some ?_))
  rw [jb_ne, jb_eq0]
  have bad : ¬ (isPc S.1 p = true ∧ ((-6 ≤ x ∧ x ≤ 13) ∧ (-6 ≤ y ∧ y ≤ 13))) → Q (some (J (-1))) M := by
    intro q
    unfold aStands at h
    rw [if_neg q] at h
    exact h M hC MF.rf
  refine ⟨fun q => bad (fun g => by rw [q] at g; cases g.1), fun q => ok_isPlace hx.1 hx.2 hy.1 hy.2 (ri_some ?_)⟩
  rw [jb_ne, jb_eq0]
  refine ⟨fun q2 => ?_, fun q2 => bad (fun g => absurd g.2 (of_decide_eq_false q2))⟩
  have hxy := of_decide_eq_true q2
  unfold aStands at h
  rw [if_pos ⟨q, hxy⟩] at h
  obtain ⟨k, rfl, hk⟩ := isPc_of q
  rw [Int.toNat_natCast] at h
  refine ok_canStand hC.1 hW hk hxy.1 hxy.2 (fun M1 g => ri_some ?_)
  have hC1 := hC.keep g.EF
  rw [jb_ne, jb_eq0]
  refine ⟨fun q3 => ?_, fun q3 => ?_⟩
  · rw [if_neg (fun g => by unfold oth at g; rw [q3] at g; cases g)] at h
    exact h M1 hC1 g.MF
  · rw [if_pos q3] at h
    exact h M1 hC1 g.MF
theorem onw_le (op : Nat → Bool) (e : Int) : ∀ f k, onw op e f k ≤ f := by
  intro f
  induction f with
  | zero => intro k; exact Nat.le_refl _
  | succ f ih =>
    intro k
    rw [onw]
    split
    · have := ih (nb k e).toNat; omega
    · omega
theorem dxI_b (e : Int) : -1 ≤ dxI e ∧ dxI e ≤ 1 := by
  unfold dxI
  split
  · omega
  · split <;> omega
theorem dyI_b (e : Int) : -1 ≤ dyI e ∧ dyI e ≤ 1 := by
  unfold dyI
  split
  · omega
  · split <;> omega
theorem c_slide {p e n : Int} (hC : CR M S) (hO : OKS S) (hp : BI32 p) (he : BI32 e) (hn : BI32 n) (h : ∀ M', CR M' (aSlide S p e n).2 → MF M M' → Q (some (J (aSlide S p e n).1)) M') : Mt (d + 12) mX4_slide [.ref 0, .int (J p), .int (J e), .int (J n)] M Q := by
  have hW := hO.1
  obtain ⟨hn1, hn2⟩ := hn
  refine e_X4_slide (ok_has hC.1 hW hp.1 hp.2 (ri_some ?_))
  rw [jb_ne, jb_eq0]
  have bad : ¬ (isPc S.1 p = true ∧ ((0 ≤ e ∧ e ≤ 3) ∧ (1 ≤ n ∧ n ≤ 20))) → Q (some (J (-1))) M := by
    intro q
    unfold aSlide at h
    rw [if_neg q] at h
    exact h M hC MF.rf
  refine ⟨fun q => bad (fun g => by rw [q] at g; cases g.1), fun q => ok_isDirection he.1 he.2 (ri_some ?_)⟩
  rw [jb_ne, jb_eq0]
  refine ⟨fun q2 => bad (fun g => absurd g.2.1 (of_decide_eq_false q2)), fun q2 => ⟨fun q3 => ?_, fun q3 => ⟨fun q4 => ?_, fun q4 => ?_⟩⟩⟩
  · simp (disch := omega) only [J_add, J_sub, J_mul, J_neg, J_bit, J_shl, J_shr, J_andn, J_and, J_or, J_xor, J_div, J_rem, J_lt, J_le, J_eq, J_lt0, J_le0, J_0le, J_0lt, J_eq0, vp_in_J, J_clamp, J_max, J_abs, Int.toNat_natCast, Int.reduceToNat, Int.reduceAdd, Int.reduceSub, Int.reduceMul, Int.reduceNeg, not_true_eq_false, not_false_eq_true] at q3; exact bad (by omega)
  · simp (disch := omega) only [J_add, J_sub, J_mul, J_neg, J_bit, J_shl, J_shr, J_andn, J_and, J_or, J_xor, J_div, J_rem, J_lt, J_le, J_eq, J_lt0, J_le0, J_0le, J_0lt, J_eq0, vp_in_J, J_clamp, J_max, J_abs, Int.toNat_natCast, Int.reduceToNat, Int.reduceAdd, Int.reduceSub, Int.reduceMul, Int.reduceNeg, not_true_eq_false, not_false_eq_true] at q3 q4
    have he03 := of_decide_eq_true q2
    unfold aSlide at h
    rw [if_pos ⟨q, he03, by omega, by omega⟩] at h
    obtain ⟨k, rfl, hk⟩ := isPc_of q
    obtain ⟨m, rfl⟩ := J_nat (show 0 ≤ n by omega)
    rw [Int.toNat_natCast, Int.toNat_natCast] at h
    refine ok_isLying hC.1 hW hk (ri_some ?_)
    rw [jb_ne, jb_eq0]
    refine ⟨fun q5 => ok_stepsOnward hC.1 hW q5 he03 (by omega) (fun M1 g => ri_some ?_), fun q5 => ?_⟩
    · have hC1 := hC.keep g.EF
      have hxy := hW.P q5
      have hd1 := dxI_b e
      have hd2 := dyI_b e
      rw [if_pos q5] at h
      refine ok_xOf hC1.1 hW q5 (ri_some (ok_stepX (by omega) (by omega) (ri_some (ok_yOf hC1.1 hW q5 (ri_some (ok_stepY (by omega) (by omega) (ri_some ?_)))))))
      rw [J_mul, J_add, J_mul, J_add]
      refine ok_lay hC1.1 hW hk (fun M2 f1 f2 => rn_none ?_)
      exact h M2 ⟨f1, by rw [f2 2 8 (by decide) (by decide) (by decide)]; exact hC1.2.1, fun i hi => by rw [f2 14 i (by decide) (by decide) (by decide)]; exact hC1.2.2 i hi⟩ (g.MF.tr (fun a j ha => f2 a j (by omega) (by omega) (by omega)))
    · rw [if_neg (fun g => by unfold lyB at g; rw [q5] at g; cases g)] at h
      exact h M hC MF.rf
  · simp (disch := omega) only [J_add, J_sub, J_mul, J_neg, J_bit, J_shl, J_shr, J_andn, J_and, J_or, J_xor, J_div, J_rem, J_lt, J_le, J_eq, J_lt0, J_le0, J_0le, J_0lt, J_eq0, vp_in_J, J_clamp, J_max, J_abs, Int.toNat_natCast, Int.reduceToNat, Int.reduceAdd, Int.reduceSub, Int.reduceMul, Int.reduceNeg, not_true_eq_false, not_false_eq_true] at q4; exact bad (by omega)
set_option maxRecDepth 100000 in
theorem c_way {p x y : Int} (hC : CR M S) (hO : OKS S) (hp : BI32 p) (hx : BI32 x) (hy : BI32 y) (h : ∀ M', CR M' (aWay S p x y).2 → MF M M' → Q (some (J (aWay S p x y).1)) M') : Mt (d + 12) mX4_way [.ref 0, .int (J p), .int (J x), .int (J y)] M Q := by
  have hW := hO.1
  refine e_X4_way (ok_has hC.1 hW hp.1 hp.2 (ri_some ?_))
  rw [jb_ne, jb_eq0]
  have bad : ¬ (isPc S.1 p = true ∧ ((-6 ≤ x ∧ x ≤ 13) ∧ (-6 ≤ y ∧ y ≤ 13))) → Q (some (J (-1))) M := by
    intro q
    unfold aWay at h
    rw [if_neg q] at h
    exact h M hC MF.rf
  refine ⟨fun q => bad (fun g => by rw [q] at g; cases g.1), fun q => ok_isPlace hx.1 hx.2 hy.1 hy.2 (ri_some ?_)⟩
  rw [jb_ne, jb_eq0]
  refine ⟨fun q2 => ?_, fun q2 => bad (fun g => absurd g.2 (of_decide_eq_false q2))⟩
  have hxy := of_decide_eq_true q2
  unfold aWay at h
  rw [if_pos ⟨q, hxy⟩] at h
  obtain ⟨k, rfl, hk⟩ := isPc_of q
  rw [Int.toNat_natCast] at h
  refine ok_isLying hC.1 hW hk (ri_some ?_)
  rw [jb_ne, jb_eq0]
  refine ⟨fun q3 => ok_findWay hC.1 hW q3 hxy.1 hxy.2 (fun M1 g hd => ri_some ?_) (fun n M1 hd hn g g1 g2 => ri_some ?_), fun q3 => ?_⟩
  · rw [if_pos q3, hd] at h
    exact h M1 (hC.keep g.EF) g.MF
  · rw [if_pos q3, hd] at h
    refine h M1 ⟨hC.1.keep ⟨fun k => g 1 k (by decide) (by decide) (by decide) (by decide) (by decide) (by decide) (Or.inl (by decide)), fun a j h1 h2 => g a j (by omega) (by omega) (by omega) (by omega) (by omega) (by omega) (Or.inl (by omega))⟩, g1, g2⟩ (fun a j ha => g a j (by omega) (by omega) (by omega) (by omega) (by omega) (by omega) (Or.inl (by omega)))
  · rw [if_neg (fun g => by unfold lyB at g; rw [q3] at g; cases g)] at h
    exact h M hC MF.rf
theorem c_stepOf {i : Int} (hC : CR M S) (hO : OKS S) (hi : BI32 i) (h : ∀ M', CR M' S → MF M M' → Q (some (J (aStepOf S i))) M') : Mt (d + 12) mX4_stepOf [.ref 0, .int (J i)] M Q := by
  obtain ⟨hi1, hi2⟩ := hi
  have h400 := hO.2.2
  have h0 := h M hC MF.rf
  unfold aStepOf at h0
  refine e_X4_stepOf ⟨fun q => e_X2_stepAt ?_, fun q => ?_⟩
  · simp (disch := omega) only [J_add, J_sub, J_mul, J_neg, J_bit, J_shl, J_shr, J_andn, J_and, J_or, J_xor, J_div, J_rem, J_lt, J_le, J_eq, J_lt0, J_le0, J_0le, J_0lt, J_eq0, vp_in_J, J_clamp, J_max, J_abs, Int.toNat_natCast, Int.reduceToNat, Int.reduceAdd, Int.reduceSub, Int.reduceMul, Int.reduceNeg, not_true_eq_false, not_false_eq_true] at q
    rw [if_neg (by omega)] at h0
    obtain ⟨n, rfl⟩ := J_nat q
    rw [hC.2.1]
    refine ⟨fun q2 => ?_, fun _ => ⟨fun q2 => ri_some ?_, fun q2 => ⟨fun q3 => ?_, fun _ => ⟨?_, ri_some ?_⟩⟩⟩⟩
    · simp (disch := omega) only [J_add, J_sub, J_mul, J_neg, J_bit, J_shl, J_shr, J_andn, J_and, J_or, J_xor, J_div, J_rem, J_lt, J_le, J_eq, J_lt0, J_le0, J_0le, J_0lt, J_eq0, vp_in_J, J_clamp, J_max, J_abs, Int.toNat_natCast, Int.reduceToNat, Int.reduceAdd, Int.reduceSub, Int.reduceMul, Int.reduceNeg, not_true_eq_false, not_false_eq_true] at q2; omega
    · simp (disch := omega) only [J_add, J_sub, J_mul, J_neg, J_bit, J_shl, J_shr, J_andn, J_and, J_or, J_xor, J_div, J_rem, J_lt, J_le, J_eq, J_lt0, J_le0, J_0le, J_0lt, J_eq0, vp_in_J, J_clamp, J_max, J_abs, Int.toNat_natCast, Int.reduceToNat, Int.reduceAdd, Int.reduceSub, Int.reduceMul, Int.reduceNeg, not_true_eq_false, not_false_eq_true] at q2
      rw [if_neg (by omega)] at h0; exact h0
    · simp (disch := omega) only [J_add, J_sub, J_mul, J_neg, J_bit, J_shl, J_shr, J_andn, J_and, J_or, J_xor, J_div, J_rem, J_lt, J_le, J_eq, J_lt0, J_le0, J_0le, J_0lt, J_eq0, vp_in_J, J_clamp, J_max, J_abs, Int.toNat_natCast, Int.reduceToNat, Int.reduceAdd, Int.reduceSub, Int.reduceMul, Int.reduceNeg, not_true_eq_false, not_false_eq_true] at q2 q3; omega
    · simp (disch := omega) only [J_add, J_sub, J_mul, J_neg, J_bit, J_shl, J_shr, J_andn, J_and, J_or, J_xor, J_div, J_rem, J_lt, J_le, J_eq, J_lt0, J_le0, J_0le, J_0lt, J_eq0, vp_in_J, J_clamp, J_max, J_abs, Int.toNat_natCast, Int.reduceToNat, Int.reduceAdd, Int.reduceSub, Int.reduceMul, Int.reduceNeg, not_true_eq_false, not_false_eq_true] at q2; exact vin (by omega) (by omega)
    · simp (disch := omega) only [J_add, J_sub, J_mul, J_neg, J_bit, J_shl, J_shr, J_andn, J_and, J_or, J_xor, J_div, J_rem, J_lt, J_le, J_eq, J_lt0, J_le0, J_0le, J_0lt, J_eq0, vp_in_J, J_clamp, J_max, J_abs, Int.toNat_natCast, Int.reduceToNat, Int.reduceAdd, Int.reduceSub, Int.reduceMul, Int.reduceNeg, not_true_eq_false, not_false_eq_true] at q2
      rw [nI2 (by omega), hC.2.2 n (by omega)]
      rw [if_pos (by omega), Int.toNat_natCast] at h0; exact h0
  · simp (disch := omega) only [J_add, J_sub, J_mul, J_neg, J_bit, J_shl, J_shr, J_andn, J_and, J_or, J_xor, J_div, J_rem, J_lt, J_le, J_eq, J_lt0, J_le0, J_0le, J_0lt, J_eq0, vp_in_J, J_clamp, J_max, J_abs, Int.toNat_natCast, Int.reduceToNat, Int.reduceAdd, Int.reduceSub, Int.reduceMul, Int.reduceNeg, not_true_eq_false, not_false_eq_true] at q
    rw [if_pos (by omega)] at h0; exact h0
theorem c_out {p : Int} (hC : CR M S) (hO : OKS S) (hp : BI32 p) (h : ∀ M', CR M' S → MF M M' → Q (some (J (aOut S p))) M') : Mt (d + 12) mX4_out [.ref 0, .int (J p)] M Q := by
  have hW := hO.1
  have hl := hW.L
  refine e_X4_out (ok_has hC.1 hW hp.1 hp.2 (ri_some ?_))
  rw [jb_ne, jb_eq0]
  unfold aOut at h
  refine ⟨fun q => ?_, fun q => ?_⟩
  · rw [if_pos q] at h
    obtain ⟨k, rfl, hk⟩ := isPc_of q
    rw [Int.toNat_natCast] at h
    refine ok_isLying hC.1 hW hk (ri_some ?_)
    rw [jb_ne, jb_eq0]
    refine ⟨fun q2 => ok_lyingBeside hC.1 hW hk (ri_some (ok_stepsOut hC.1 hW q2 (wo_lt (by omega)) (fun M1 g => ri_some ?_))), fun q2 => ?_⟩
    · rw [if_pos q2] at h
      exact h M1 (hC.keep g.EF) g.MF
    · rw [if_neg (fun g => by unfold lyB at g; rw [q2] at g; cases g)] at h
      exact h M hC MF.rf
  · rw [if_neg (fun g => by rw [q] at g; cases g)] at h
    exact h M hC MF.rf
theorem c_places {p w : Int} (hC : CR M S) (hO : OKS S) (hp : BI32 p) (hw : BI32 w) (h : ∀ M', CR M' S → MF M M' → Q (some (J (aPlaces S p w))) M') : Mt (d + 12) mX4_places [.ref 0, .int (J p), .int (J w)] M Q := by
  have hW := hO.1
  obtain ⟨hw1, hw2⟩ := hw
  refine e_X4_places (ok_has hC.1 hW hp.1 hp.2 (ri_some ?_))
  rw [jb_ne, jb_eq0]
  have bad : ¬ (isPc S.1 p = true ∧ (0 ≤ w ∧ w ≤ 1)) → Q (some (J (-1))) M := by
    intro q
    unfold aPlaces at h
    rw [if_neg q] at h
    exact h M hC MF.rf
  refine ⟨fun q => bad (fun g => by rw [q] at g; cases g.1), fun q => ⟨fun q2 => ?_, fun q2 => ⟨fun q3 => ?_, fun q3 => ?_⟩⟩⟩
  · simp (disch := omega) only [J_add, J_sub, J_mul, J_neg, J_bit, J_shl, J_shr, J_andn, J_and, J_or, J_xor, J_div, J_rem, J_lt, J_le, J_eq, J_lt0, J_le0, J_0le, J_0lt, J_eq0, vp_in_J, J_clamp, J_max, J_abs, Int.toNat_natCast, Int.reduceToNat, Int.reduceAdd, Int.reduceSub, Int.reduceMul, Int.reduceNeg, not_true_eq_false, not_false_eq_true] at q2; exact bad (by omega)
  · simp (disch := omega) only [J_add, J_sub, J_mul, J_neg, J_bit, J_shl, J_shr, J_andn, J_and, J_or, J_xor, J_div, J_rem, J_lt, J_le, J_eq, J_lt0, J_le0, J_0le, J_0lt, J_eq0, vp_in_J, J_clamp, J_max, J_abs, Int.toNat_natCast, Int.reduceToNat, Int.reduceAdd, Int.reduceSub, Int.reduceMul, Int.reduceNeg, not_true_eq_false, not_false_eq_true] at q2 q3
    unfold aPlaces at h
    rw [if_pos ⟨q, by omega, by omega⟩] at h
    obtain ⟨k, rfl, hk⟩ := isPc_of q
    rw [Int.toNat_natCast] at h
    refine ⟨fun q4 => ok_countRooms hC.1 hW hk (fun M1 g => ri_some ?_), fun q4 => ok_countInside hC.1 hW hk (fun M1 g => ri_some ?_)⟩
    · simp (disch := omega) only [J_add, J_sub, J_mul, J_neg, J_bit, J_shl, J_shr, J_andn, J_and, J_or, J_xor, J_div, J_rem, J_lt, J_le, J_eq, J_lt0, J_le0, J_0le, J_0lt, J_eq0, vp_in_J, J_clamp, J_max, J_abs, Int.toNat_natCast, Int.reduceToNat, Int.reduceAdd, Int.reduceSub, Int.reduceMul, Int.reduceNeg, not_true_eq_false, not_false_eq_true] at q4
      rw [if_neg q4] at h
      exact h M1 (hC.keep g.EF) g.MF
    · simp (disch := omega) only [J_add, J_sub, J_mul, J_neg, J_bit, J_shl, J_shr, J_andn, J_and, J_or, J_xor, J_div, J_rem, J_lt, J_le, J_eq, J_lt0, J_le0, J_0le, J_0lt, J_eq0, vp_in_J, J_clamp, J_max, J_abs, Int.toNat_natCast, Int.reduceToNat, Int.reduceAdd, Int.reduceSub, Int.reduceMul, Int.reduceNeg, not_true_eq_false, not_false_eq_true] at q4
      rw [if_pos q4] at h
      exact h M1 (hC.keep g.EF) g.MF
  · simp (disch := omega) only [J_add, J_sub, J_mul, J_neg, J_bit, J_shl, J_shr, J_andn, J_and, J_or, J_xor, J_div, J_rem, J_lt, J_le, J_eq, J_lt0, J_le0, J_0le, J_0lt, J_eq0, vp_in_J, J_clamp, J_max, J_abs, Int.toNat_natCast, Int.reduceToNat, Int.reduceAdd, Int.reduceSub, Int.reduceMul, Int.reduceNeg, not_true_eq_false, not_false_eq_true] at q3; exact bad (by omega)
theorem c_blocks {p e : Int} (hC : CR M S) (hO : OKS S) (hp : BI32 p) (he : BI32 e) (h : ∀ M', CR M' S → MF M M' → Q (some (J (aBlocks S p e))) M') : Mt (d + 12) mX4_blocks [.ref 0, .int (J p), .int (J e)] M Q := by
  have hW := hO.1
  refine e_X4_blocks (ok_has hC.1 hW hp.1 hp.2 (ri_some ?_))
  rw [jb_ne, jb_eq0]
  have bad : ¬ (isPc S.1 p = true ∧ (0 ≤ e ∧ e ≤ 3)) → Q (some (J (-1))) M := by
    intro q
    unfold aBlocks at h
    rw [if_neg q] at h
    exact h M hC MF.rf
  refine ⟨fun q => bad (fun g => by rw [q] at g; cases g.1), fun q => ok_isDirection he.1 he.2 (ri_some ?_)⟩
  rw [jb_ne, jb_eq0]
  refine ⟨fun q2 => ?_, fun q2 => bad (fun g => absurd g.2 (of_decide_eq_false q2))⟩
  have he03 := of_decide_eq_true q2
  unfold aBlocks at h
  rw [if_pos ⟨q, he03⟩] at h
  obtain ⟨k, rfl, hk⟩ := isPc_of q
  rw [Int.toNat_natCast] at h
  refine ok_isLying hC.1 hW hk (ri_some ?_)
  rw [jb_ne, jb_eq0]
  refine ⟨fun q3 => ok_blockersOf hC.1 hW hO.2.1.DJ q3 he03 (ri_some ?_), fun q3 => ?_⟩
  · rw [if_pos q3] at h
    exact h M hC MF.rf
  · rw [if_neg (fun g => by unfold lyB at g; rw [q3] at g; cases g)] at h
    exact h M hC MF.rf
theorem c_count {w : Int} (hC : CR M S) (hO : OKS S) (hw : BI32 w) (h : ∀ M', CR M' S → MF M M' → Q (some (J (aCount S w))) M') : Mt (d + 12) mX4_count [.ref 0, .int (J w)] M Q := by
  have hW := hO.1
  have hl := hW.L
  obtain ⟨hw1, hw2⟩ := hw
  have h0 := h M hC MF.rf
  unfold aCount at h0
  refine e_X4_count ?_
  rw [J_toInt hw1 hw2]
  refine ⟨fun q => ?_, fun q => ok_columnCount hC.1 (ri_some ?_), fun q => ok_rowCount hC.1 (ri_some ?_), fun q => ok_pieceCount hC.1 (ri_some ?_), fun q => ok_lyingSet hC.1 (ri_some (ok_bitCount (by omega) (ri_some ?_))), fun q => ok_wallCount hC.1 hW (ri_some ?_)⟩
  · rw [if_neg (by omega), if_neg (by omega), if_neg (by omega), if_neg (by omega), if_neg (by omega)] at h0; exact h0
  · rw [if_pos q] at h0; exact h0
  · rw [if_neg (by omega), if_pos q] at h0; exact h0
  · rw [if_neg (by omega), if_neg (by omega), if_pos q] at h0; exact h0
  · rw [if_neg (by omega), if_neg (by omega), if_neg (by omega), if_pos q] at h0; exact h0
  · rw [if_neg (by omega), if_neg (by omega), if_neg (by omega), if_neg (by omega), if_pos q] at h0; exact h0
theorem c_about {p w : Int} (hC : CR M S) (hO : OKS S) (hp : BI32 p) (hw : BI32 w) (h : ∀ M', CR M' S → MF M M' → Q (some (J (aAbout S p w))) M') : Mt (d + 12) mX4_about [.ref 0, .int (J p), .int (J w)] M Q := by
  have hW := hO.1
  obtain ⟨hw1, hw2⟩ := hw
  refine e_X4_about (ok_has hC.1 hW hp.1 hp.2 (ri_some ?_))
  rw [jb_ne, jb_eq0]
  unfold aAbout at h
  refine ⟨fun q => ?_, fun q => ?_⟩
  · rw [if_pos q] at h
    obtain ⟨k, rfl, hk⟩ := isPc_of q
    rw [Int.toNat_natCast] at h
    have hs := hW.S hk
    refine ok_shapeOf hC.1 hW hk (ri_some (ok_isLying hC.1 hW hk (ri_some ?_)))
    rw [J_toInt hw1 hw2, jb_ne, jb_eq0]
    have h0 := h M hC MF.rf
    refine ⟨fun r => ?_, fun r => ok_bitCount hs (ri_some ?_), fun r => ok_columnsOf hs (ri_some ?_), fun r => ok_rowsOf hs (ri_some ?_), fun r => ⟨fun l => ?_, fun l => ok_xOf hC.1 hW l (ri_some ?_)⟩, fun r => ⟨fun l => ?_, fun l => ok_yOf hC.1 hW l (ri_some ?_)⟩, fun r => ⟨fun l => ?_, fun l => ?_⟩, fun r => ?_, fun r => ⟨fun l => ?_, fun l => ok_isOut hC.1 hW l (fun M1 g => ri_some ?_)⟩⟩
    · rw [if_neg (by omega), if_neg (by omega), if_neg (by omega), if_neg (by omega), if_neg (by omega), if_neg (by omega), if_neg (by omega), if_neg (by omega)] at h0; exact h0
    · subst r; exact h0
    · subst r; exact h0
    · subst r; exact h0
    · subst r
      have : lyB S.1 k = false := l
      rw [this] at h0; exact h0
    · subst r
      have : lyB S.1 k = true := l
      rw [this] at h0; exact h0
    · subst r
      have : lyB S.1 k = false := l
      rw [this] at h0; exact h0
    · subst r
      have : lyB S.1 k = true := l
      rw [this] at h0; exact h0
    · subst r
      have : lyB S.1 k = false := l
      rw [this] at h0; exact h0
    · subst r
      have : lyB S.1 k = true := l
      rw [this] at h0; exact h0
    · subst r; exact h0
    · subst r
      have : lyB S.1 k = false := l
      rw [this] at h0; exact h0
    · have h1 := h M1 (hC.keep g.EF) g.MF
      subst r
      have : lyB S.1 k = true := l
      rw [this] at h1
      rw [jb_ne, jb_eq0]
      refine ⟨fun o => ?_, fun o => ?_⟩
      · rw [o] at h1; exact h1
      · rw [o] at h1; exact h1
  · rw [if_neg (fun g => by rw [q] at g; cases g)] at h
    exact h M hC MF.rf
end CAPI
