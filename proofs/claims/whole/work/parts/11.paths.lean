/-! the class's spreading -/
def dI (o : Option Nat) : Int := match o with
  | none => -4
  | some n => (n : Int)
def CB (M : Mem) (s : BS) : Prop := (∀ k, k < 400 → M 12 k = J (dI (s.1 k))) ∧ M 2 6 = J (s.2.length : Int) ∧ ∀ i k : Nat, s.2[i]? = some k → M 13 i = J (k : Int)
def RF (M M' : Mem) : Prop := ∀ a j, a ≠ 12 → a ≠ 13 → (a ≠ 2 ∨ j ≠ 6) → M' a j = M a j
def s0 : BS := (fun _ => none, [])
def src (op : Nat → Bool) (k : Nat) : BS := spr op 401 (rch op s0 (k : Int) 0) 0
theorem s0_BI (op : Nat → Bool) : BI op s0 := ⟨List.nodup_nil, fun k h => (by cases h), fun i k h => (by simp [s0] at h)⟩
theorem s0_QI : QI s0 := fun k n h => by cases h
theorem bnd {op : Nat → Bool} {s : BS} (hB : BI op s) (hQ : QI s) {k n : Nat} (h : s.1 k = some n) : n < 400 := by
  obtain ⟨i, hi⟩ := List.getElem?_of_mem (hQ k n h)
  obtain ⟨m, h1, h2⟩ := hB.2.2 i k hi
  rw [h] at h1
  cases h1
  have := (List.getElem?_eq_some_iff.mp hi).1
  have := hB.len
  omega
theorem RF.PF {M M' : Mem} (h : RF M M') : PF M M' := fun a j _ _ _ h4 h5 h6 => h a j h4 h5 h6
theorem RF.rf {M : Mem} : RF M M := fun _ _ _ _ _ => rfl
theorem RF.tr {M M1 M2 : Mem} (h : RF M M1) (g : RF M1 M2) : RF M M2 := fun a j h1 h2 h3 => (g a j h1 h2 h3).trans (h a j h1 h2 h3)
theorem RF.op {M M' : Mem} (h : RF M M') {σ : St} {oth s : Nat} (g : ∀ y, y < 20 → M 10 y = J (opF σ oth s y)) : ∀ y, y < 20 → M' 10 y = J (opF σ oth s y) := fun y hy => by
  rw [h 10 y (by decide) (by decide) (Or.inl (by decide))]; exact g y hy
theorem RF.ou {M M' : Mem} (h : RF M M') {σ : St} {s : Nat} (g : ∀ y, y < 20 → M 11 y = J (ouF σ s y)) : ∀ y, y < 20 → M' 11 y = J (ouF σ s y) := fun y hy => by
  rw [h 11 y (by decide) (by decide) (Or.inl (by decide))]; exact g y hy
theorem SV.CB {σ : St} {oth s : Nat} {M M' : Mem} (h : SV σ oth s M M') : CB M' s0 := ⟨fun k hk => h.2.2.2.1 k hk, h.2.2.1, fun i k hi => by simp [s0] at hi⟩
theorem nb_range (k : Nat) (d : Int) : (nb k d = -4) ∨ (0 ≤ nb k d ∧ nb k d < 400) := by
  unfold nb
  split
  · right; omega
  · left; rfl
section PATHS
variable {d : Nat} {M : Mem} {Q : Post} {σ : St} {oth sh : Nat} {s : BS}
theorem ok_beside {k : Nat} {e : Int} (hk : k < 400) (he : 0 ≤ e ∧ e ≤ 3) (h : Q (some (J (nb k e))) M) : Mt (d + 2) mX2_beside [.int (J (k : Int)), .int (J e)] M Q := by
  have hx : -1 ≤ dxI e ∧ dxI e ≤ 1 := by
    unfold dxI
    split
    · omega
    · split <;> omega
  have hy : -1 ≤ dyI e ∧ dyI e ≤ 1 := by
    unfold dyI
    split
    · omega
    · split <;> omega
  refine e_X2_beside (ok_stepX (by omega) (by omega) (ri_some (ok_stepY (by omega) (by omega) (ri_some ?_))))
  rw [show J 20 = J ((20 : Nat) : Int) from rfl, J_remN (by omega) (by omega) (by omega), J_quo (by omega) (by omega) (by omega)]
  rw [J_add, J_add]
  refine ⟨fun c => ?_, fun _ => ⟨fun c => ?_, fun c => ⟨fun c2 => ?_, fun c2 => ⟨fun c3 => ?_, fun c3 => ⟨fun c4 => ?_, fun c4 => ?_⟩⟩⟩⟩⟩
  · simp (disch := omega) only [J_add, J_sub, J_mul, J_neg, J_bit, J_shl, J_shr, J_andn, J_and, J_or, J_xor, J_div, J_rem, J_lt, J_le, J_eq, J_lt0, J_le0, J_0le, J_0lt, J_eq0, vp_in_J, J_clamp, J_max, J_abs, Int.toNat_natCast, Int.reduceToNat, Int.reduceAdd, Int.reduceSub, Int.reduceMul, Int.reduceNeg, not_true_eq_false, not_false_eq_true] at c; omega
  · simp (disch := omega) only [J_add, J_sub, J_mul, J_neg, J_bit, J_shl, J_shr, J_andn, J_and, J_or, J_xor, J_div, J_rem, J_lt, J_le, J_eq, J_lt0, J_le0, J_0le, J_0lt, J_eq0, vp_in_J, J_clamp, J_max, J_abs, Int.toNat_natCast, Int.reduceToNat, Int.reduceAdd, Int.reduceSub, Int.reduceMul, Int.reduceNeg, not_true_eq_false, not_false_eq_true] at c
    rw [show nb k e = -4 from if_neg (by omega)] at h; exact h
  · simp (disch := omega) only [J_add, J_sub, J_mul, J_neg, J_bit, J_shl, J_shr, J_andn, J_and, J_or, J_xor, J_div, J_rem, J_lt, J_le, J_eq, J_lt0, J_le0, J_0le, J_0lt, J_eq0, vp_in_J, J_clamp, J_max, J_abs, Int.toNat_natCast, Int.reduceToNat, Int.reduceAdd, Int.reduceSub, Int.reduceMul, Int.reduceNeg, not_true_eq_false, not_false_eq_true] at c c2
    rw [show nb k e = -4 from if_neg (by omega)] at h; exact h
  · simp (disch := omega) only [J_add, J_sub, J_mul, J_neg, J_bit, J_shl, J_shr, J_andn, J_and, J_or, J_xor, J_div, J_rem, J_lt, J_le, J_eq, J_lt0, J_le0, J_0le, J_0lt, J_eq0, vp_in_J, J_clamp, J_max, J_abs, Int.toNat_natCast, Int.reduceToNat, Int.reduceAdd, Int.reduceSub, Int.reduceMul, Int.reduceNeg, not_true_eq_false, not_false_eq_true] at c c2 c3
    rw [show nb k e = -4 from if_neg (by omega)] at h; exact h
  · simp (disch := omega) only [J_add, J_sub, J_mul, J_neg, J_bit, J_shl, J_shr, J_andn, J_and, J_or, J_xor, J_div, J_rem, J_lt, J_le, J_eq, J_lt0, J_le0, J_0le, J_0lt, J_eq0, vp_in_J, J_clamp, J_max, J_abs, Int.toNat_natCast, Int.reduceToNat, Int.reduceAdd, Int.reduceSub, Int.reduceMul, Int.reduceNeg, not_true_eq_false, not_false_eq_true] at c c2 c3 c4
    rw [J_mul, J_add]
    rw [show nb k e = ((20 : Nat) : Int) * (((k / 20 : Nat) : Int) + dyI e) + (((k % 20 : Nat) : Int) + dxI e) from if_pos (by omega)] at h
    exact h
  · simp (disch := omega) only [J_add, J_sub, J_mul, J_neg, J_bit, J_shl, J_shr, J_andn, J_and, J_or, J_xor, J_div, J_rem, J_lt, J_le, J_eq, J_lt0, J_le0, J_0le, J_0lt, J_eq0, vp_in_J, J_clamp, J_max, J_abs, Int.toNat_natCast, Int.reduceToNat, Int.reduceAdd, Int.reduceSub, Int.reduceMul, Int.reduceNeg, not_true_eq_false, not_false_eq_true] at c c2 c3 c4
    rw [show nb k e = -4 from if_neg (by omega)] at h; exact h
theorem ok_distanceOf {k : Nat} (hC : CB M s) (hk : k < 400) (h : Q (some (J (dI (s.1 k)))) M) : Mt (d + 1) mX2_distanceOf [.ref 2, .int (J (k : Int))] M Q := by
  refine e_X2_distanceOf ⟨fun c => ?_, fun _ => ⟨fun _ => ⟨vin hk (by omega), ?_⟩, fun c => ?_⟩⟩
  · simp (disch := omega) only [J_add, J_sub, J_mul, J_neg, J_bit, J_shl, J_shr, J_andn, J_and, J_or, J_xor, J_div, J_rem, J_lt, J_le, J_eq, J_lt0, J_le0, J_0le, J_0lt, J_eq0, vp_in_J, J_clamp, J_max, J_abs, Int.toNat_natCast, Int.reduceToNat, Int.reduceAdd, Int.reduceSub, Int.reduceMul, Int.reduceNeg, not_true_eq_false, not_false_eq_true] at c; omega
  · rw [nI2 (by omega), hC.1 k hk]; exact h
  · simp (disch := omega) only [J_add, J_sub, J_mul, J_neg, J_bit, J_shl, J_shr, J_andn, J_and, J_or, J_xor, J_div, J_rem, J_lt, J_le, J_eq, J_lt0, J_le0, J_0le, J_0lt, J_eq0, vp_in_J, J_clamp, J_max, J_abs, Int.toNat_natCast, Int.reduceToNat, Int.reduceAdd, Int.reduceSub, Int.reduceMul, Int.reduceNeg, not_true_eq_false, not_false_eq_true] at c; omega
theorem ok_distanceOf_n (h : Q (some (J (-4))) M) : Mt (d + 1) mX2_distanceOf [.ref 2, .int (J (-4))] M Q := by
  refine e_X2_distanceOf ⟨fun _ => h, fun c => ?_⟩
  simp (disch := omega) only [J_add, J_sub, J_mul, J_neg, J_bit, J_shl, J_shr, J_andn, J_and, J_or, J_xor, J_div, J_rem, J_lt, J_le, J_eq, J_lt0, J_le0, J_0le, J_0lt, J_eq0, vp_in_J, J_clamp, J_max, J_abs, Int.toNat_natCast, Int.reduceToNat, Int.reduceAdd, Int.reduceSub, Int.reduceMul, Int.reduceNeg, not_true_eq_false, not_false_eq_true] at c; omega
theorem ok_reach {z : Int} {n : Nat} (hO : ∀ y, y < 20 → M 10 y = J (opF σ oth sh y)) (hC : CB M s) (hB : BI (opn σ oth sh) s) (hQ : QI s) (hz : -4 ≤ z ∧ z < 400) (hn : n ≤ s.2.length) (h : ∀ M', CB M' (rch (opn σ oth sh) s z n) → RF M M' → Q none M') : Mt (d + 2) mX2_reach [.ref 2, .int (J z), .int (J (n : Int))] M Q := by
  have hl := hB.len
  by_cases hz0 : 0 ≤ z
  · obtain ⟨k, rfl⟩ := J_nat hz0
    refine e_X2_reach (ok_marked (M0 := M) (by omega) hO (ri_some ?_))
    rw [jb_eq0]
    refine ⟨fun c => ?_, fun c => ok_distanceOf hC (by omega) (ri_some ?_)⟩
    · have e : rch (opn σ oth sh) s (k : Int) n = s := if_neg (fun q => by rw [Int.toNat_natCast, c] at q; cases q.2.2.1)
      exact h M (by rw [e]; exact hC) RF.rf
    · rw [Bool.not_eq_false] at c
      cases hd : s.1 k with
      | some v =>
        have hv := bnd hB hQ hd
        have e : rch (opn σ oth sh) s (k : Int) n = s := if_neg (fun q => by rw [Int.toNat_natCast, hd] at q; cases q.2.2.2)
        refine ⟨fun _ => h M (by rw [e]; exact hC) RF.rf, fun q => ?_⟩
        unfold dI at q
        simp (disch := omega) only [J_add, J_sub, J_mul, J_neg, J_bit, J_shl, J_shr, J_andn, J_and, J_or, J_xor, J_div, J_rem, J_lt, J_le, J_eq, J_lt0, J_le0, J_0le, J_0lt, J_eq0, vp_in_J, J_clamp, J_max, J_abs, Int.toNat_natCast, Int.reduceToNat, Int.reduceAdd, Int.reduceSub, Int.reduceMul, Int.reduceNeg, not_true_eq_false, not_false_eq_true] at q; omega
      | none =>
        have hr := hB.room (show k < 400 by omega) hd
        have e : rch (opn σ oth sh) s (k : Int) n = (updO s.1 k n, s.2 ++ [k]) := by
          unfold rch
          rw [if_pos ⟨by omega, by omega, by rw [Int.toNat_natCast]; exact c, by rw [Int.toNat_natCast]; exact hd⟩, Int.toNat_natCast]
        refine ⟨fun q => ?_, fun _ => ⟨fun q => ?_, fun _ => ⟨fun q => ?_, fun _ => ⟨vin (by omega) (by omega), ?_⟩⟩⟩⟩
        · unfold dI at q
          simp (disch := omega) only [J_add, J_sub, J_mul, J_neg, J_bit, J_shl, J_shr, J_andn, J_and, J_or, J_xor, J_div, J_rem, J_lt, J_le, J_eq, J_lt0, J_le0, J_0le, J_0lt, J_eq0, vp_in_J, J_clamp, J_max, J_abs, Int.toNat_natCast, Int.reduceToNat, Int.reduceAdd, Int.reduceSub, Int.reduceMul, Int.reduceNeg, not_true_eq_false, not_false_eq_true] at q; omega
        · simp (disch := omega) only [J_add, J_sub, J_mul, J_neg, J_bit, J_shl, J_shr, J_andn, J_and, J_or, J_xor, J_div, J_rem, J_lt, J_le, J_eq, J_lt0, J_le0, J_0le, J_0lt, J_eq0, vp_in_J, J_clamp, J_max, J_abs, Int.toNat_natCast, Int.reduceToNat, Int.reduceAdd, Int.reduceSub, Int.reduceMul, Int.reduceNeg, not_true_eq_false, not_false_eq_true] at q; omega
        · rw [hC.2.1] at q
          simp (disch := omega) only [J_add, J_sub, J_mul, J_neg, J_bit, J_shl, J_shr, J_andn, J_and, J_or, J_xor, J_div, J_rem, J_lt, J_le, J_eq, J_lt0, J_le0, J_0le, J_0lt, J_eq0, vp_in_J, J_clamp, J_max, J_abs, Int.toNat_natCast, Int.reduceToNat, Int.reduceAdd, Int.reduceSub, Int.reduceMul, Int.reduceNeg, not_true_eq_false, not_false_eq_true] at q; omega
        · rw [nI2 (by omega)]
          rw [show mset M 12 k (J (n : Int)) 2 6 = J (s.2.length : Int) by rw [mset_o (by decide)]; exact hC.2.1]
          refine ⟨vin hr (by omega), ?_⟩
          rw [nI2 (by omega), show mset (mset M 12 k (J (n : Int))) 13 s.2.length (J (k : Int)) 2 6 = J (s.2.length : Int) by rw [mset_o (by decide), mset_o (by decide)]; exact hC.2.1, J_suc]
          refine h _ ?_ ?_
          · rw [e]
            refine ⟨fun j hj => ?_, ?_, fun i j hi => ?_⟩
            · rw [mset_o (by decide), mset_o (by decide)]
              by_cases ej : j = k
              · subst ej; rw [mset_self]; simp [updO, dI]
              · rw [mset_k ej, hC.1 j hj]; simp [updO, ej]
            · rw [mset_self]; simp
            · rw [mset_o (by decide)]
              rcases getElem?_snoc hi with q | ⟨q1, q2⟩
              · have := (List.getElem?_eq_some_iff.mp q).1
                rw [mset_k (by omega), mset_o (by decide)]
                exact hC.2.2 i j q
              · subst q1; subst q2; rw [mset_self]
          · intro a j h1 h2 h3
            rcases h3 with h3 | h3
            · rw [mset_o h3, mset_o h2, mset_o h1]
            · rw [mset_k h3, mset_o h2, mset_o h1]
  · refine e_X2_reach (ok_isMarked_on (by omega) (by omega) (ri_some ⟨fun _ => ?_, fun c => absurd jb_f c⟩))
    have e : rch (opn σ oth sh) s z n = s := if_neg (fun q => hz0 q.1)
    exact h M (by rw [e]; exact hC) RF.rf
theorem rch_QI' {op : Nat → Bool} {k n : Nat} (h : QI s) : ∀ j, QI (rchs op s k n j) := rchs_QI h
theorem ok_spreadFrom {i0 : Nat} (hO : ∀ y, y < 20 → M 10 y = J (opF σ oth sh y)) (hC : CB M s) (hB : BI (opn σ oth sh) s) (hQ : QI s) (hi0 : i0 ≤ 400) (h : ∀ M', CB M' (spr (opn σ oth sh) (401 - i0) s i0) → RF M M' → Q none M') : Mt (d + 3) mX2_spreadFrom [.ref 2, .int (J (i0 : Int))] M Q := by
  refine e_X2_spreadFrom ?_
  have key : ∀ f i : Nat, i + f = 401 → ∀ (M1 : Mem) (s1 : BS), CB M1 s1 → BI (opn σ oth sh) s1 → QI s1 → RF M M1 → spr (opn σ oth sh) f s1 i = spr (opn σ oth sh) (401 - i0) s i0 → R none (d + 3) mX2_spreadFrom 2 [.ref 2, .null, .int (J (i : Int)), .null, .null, .null] [] M1 Q := by
    intro f
    induction f with
    | zero =>
      intro i hi M1 s1 hC1 hB1 hQ1 hF he
      have hl := hB1.len
      refine b_X2_spreadFrom_2 ⟨fun _ => h M1 (by rw [← he]; exact hC1) hF, fun c => ?_⟩
      rw [hC1.2.1] at c
      simp (disch := omega) only [J_add, J_sub, J_mul, J_neg, J_bit, J_shl, J_shr, J_andn, J_and, J_or, J_xor, J_div, J_rem, J_lt, J_le, J_eq, J_lt0, J_le0, J_0le, J_0lt, J_eq0, vp_in_J, J_clamp, J_max, J_abs, Int.toNat_natCast, Int.reduceToNat, Int.reduceAdd, Int.reduceSub, Int.reduceMul, Int.reduceNeg, not_true_eq_false, not_false_eq_true] at c; omega
    | succ f ih =>
      intro i hi M1 s1 hC1 hB1 hQ1 hF he
      have hl := hB1.len
      rw [spr] at he
      cases hk : s1.2[i]? with
      | none =>
        rw [hk] at he
        have hil := List.getElem?_eq_none_iff.mp hk
        refine b_X2_spreadFrom_2 ⟨fun _ => h M1 (by rw [← he]; exact hC1) hF, fun c => ?_⟩
        rw [hC1.2.1] at c
        simp (disch := omega) only [J_add, J_sub, J_mul, J_neg, J_bit, J_shl, J_shr, J_andn, J_and, J_or, J_xor, J_div, J_rem, J_lt, J_le, J_eq, J_lt0, J_le0, J_0le, J_0lt, J_eq0, vp_in_J, J_clamp, J_max, J_abs, Int.toNat_natCast, Int.reduceToNat, Int.reduceAdd, Int.reduceSub, Int.reduceMul, Int.reduceNeg, not_true_eq_false, not_false_eq_true] at c; omega
      | some k =>
        rw [hk] at he
        have hil := (List.getElem?_eq_some_iff.mp hk).1
        have hk4 := (hB1.2.1 k (List.mem_of_getElem? hk)).1
        refine b_X2_spreadFrom_2 ⟨fun c => ?_, fun _ => ⟨fun c => ?_, fun _ => ⟨vin (by omega) (by omega), ?_⟩⟩⟩
        · rw [hC1.2.1] at c
          simp (disch := omega) only [J_add, J_sub, J_mul, J_neg, J_bit, J_shl, J_shr, J_andn, J_and, J_or, J_xor, J_div, J_rem, J_lt, J_le, J_eq, J_lt0, J_le0, J_0le, J_0lt, J_eq0, vp_in_J, J_clamp, J_max, J_abs, Int.toNat_natCast, Int.reduceToNat, Int.reduceAdd, Int.reduceSub, Int.reduceMul, Int.reduceNeg, not_true_eq_false, not_false_eq_true] at c; omega
        · simp (disch := omega) only [J_add, J_sub, J_mul, J_neg, J_bit, J_shl, J_shr, J_andn, J_and, J_or, J_xor, J_div, J_rem, J_lt, J_le, J_eq, J_lt0, J_le0, J_0le, J_0lt, J_eq0, vp_in_J, J_clamp, J_max, J_abs, Int.toNat_natCast, Int.reduceToNat, Int.reduceAdd, Int.reduceSub, Int.reduceMul, Int.reduceNeg, not_true_eq_false, not_false_eq_true] at c; omega
        · rw [nI2 (by omega), hC1.2.2 i k hk]
          refine ok_distanceOf hC1 hk4 (ri_some ?_)
          obtain ⟨n, hn1, hn2⟩ := hB1.2.2 i k hk
          rw [hn1, show dI (some n) = (n : Int) from rfl, J_suc]
          dsimp only at he
          rw [hn1, Option.getD_some] at he
          have key2 : ∀ g j : Nat, j + g = 4 → ∀ M2 : Mem, CB M2 (rchs (opn σ oth sh) s1 k (n + 1) j) → RF M1 M2 → R none (d + 3) mX2_spreadFrom 38 [.ref 2, .null, .int (J (i : Int)), .int (J (k : Int)), .int (J ((n + 1 : Nat) : Int)), .int (J (j : Int))] [] M2 Q := by
            intro g
            induction g with
            | zero =>
              intro j hj M2 hC2 hF2
              refine b_X2_spreadFrom_38 ⟨fun _ => ?_, fun c => ?_⟩
              · rw [J_suc]
                have hj4 : j = 4 := by omega
                subst hj4
                exact ih (i + 1) (by omega) M2 _ hC2 (rchs_BI hB1 (by omega) 4) (rchs_QI hQ1 4) (hF.tr hF2) he
              · simp (disch := omega) only [J_add, J_sub, J_mul, J_neg, J_bit, J_shl, J_shr, J_andn, J_and, J_or, J_xor, J_div, J_rem, J_lt, J_le, J_eq, J_lt0, J_le0, J_0le, J_0lt, J_eq0, vp_in_J, J_clamp, J_max, J_abs, Int.toNat_natCast, Int.reduceToNat, Int.reduceAdd, Int.reduceSub, Int.reduceMul, Int.reduceNeg, not_true_eq_false, not_false_eq_true] at c; omega
            | succ g ihg =>
              intro j hj M2 hC2 hF2
              refine b_X2_spreadFrom_38 ⟨fun c => ?_, fun _ => ok_beside hk4 ⟨by omega, by omega⟩ (ri_some ?_)⟩
              · simp (disch := omega) only [J_add, J_sub, J_mul, J_neg, J_bit, J_shl, J_shr, J_andn, J_and, J_or, J_xor, J_div, J_rem, J_lt, J_le, J_eq, J_lt0, J_le0, J_0le, J_0lt, J_eq0, vp_in_J, J_clamp, J_max, J_abs, Int.toNat_natCast, Int.reduceToNat, Int.reduceAdd, Int.reduceSub, Int.reduceMul, Int.reduceNeg, not_true_eq_false, not_false_eq_true] at c; omega
              · have hnr := nb_range k (j : Int)
                refine ok_reach (hF2.op (hF.op hO)) hC2 (rchs_BI hB1 (by omega) j) (rchs_QI hQ1 j) (by omega) (Nat.le_trans (by omega) (rchs_ext _ s1 k (n + 1) j).len) (fun M3 hC3 hF3 => rn_none ?_)
                rw [J_suc]
                exact ihg (j + 1) (by omega) M3 hC3 (hF2.tr hF3)
          exact key2 4 0 (by omega) M1 hC1 RF.rf
  exact key (401 - i0) i0 (by omega) M s hC hB hQ RF.rf rfl
/-- reach and spread from one place -/
theorem src_BI (op : Nat → Bool) (k : Nat) : BI op (src op k) := spr_BI 401 0 (rch_BI (s0_BI op) (by simp [s0]))
theorem src_QI (op : Nat → Bool) (k : Nat) : QI (src op k) := spr_QI 401 0 (rch_QI s0_QI)
theorem src_PI (op : Nat → Bool) (k : Nat) : PI (src op k) := by
  refine spr_PI 401 0 (rch_BI (s0_BI op) (by simp [s0])) ?_
  rcases rch_or op s0 (k : Int) 0 with e | ⟨y, h1, h2, h3, h4, h5⟩
  · rw [e]; intro z n h; cases h
  · rw [h5]
    intro z n h
    by_cases ez : z = y
    · simp [updO, ez] at h
    · simp [updO, ez, s0] at h
theorem src_MI (op : Nat → Bool) (k : Nat) : ∃ j, MI (src op k) j := by
  refine spr_MI 401 0 (rch_BI (s0_BI op) (by simp [s0])) ?_
  rcases rch_or op s0 (k : Int) 0 with e | ⟨y, h1, h2, h3, h4, h5⟩
  · rw [e]; exact ⟨fun a b ka kb na nb' _ h => by simp [s0] at h, fun a b c e f h => by simp [s0] at h⟩
  · rw [h5]
    have hz : ∀ (a ka na : Nat), ([y] : List Nat)[a]? = some ka → updO s0.1 y 0 ka = some na → na = 0 := by
      intro a ka na h6 h7
      have : ka = y := by
        have := List.mem_of_getElem? h6
        simpa using this
      subst this
      simp [updO] at h7
      omega
    refine ⟨fun a b ka kb na nb' _ h6 h7 h8 h9 => ?_, fun ki ni b kb nb' h6 h7 h8 h9 => ?_⟩
    · rw [hz a ka na (by simpa [s0] using h6) h8]; omega
    · rw [hz b kb nb' (by simpa [s0] using h8) h9]; omega
theorem ok_src {k : Nat} (hk : k < 400) (hO : ∀ y, y < 20 → M 10 y = J (opF σ oth sh y)) (hC : CB M s0) (h : ∀ M', CB M' (src (opn σ oth sh) k) → RF M M' → Q none M') : Mt (d + 3) mX2_reach [.ref 2, .int (J (k : Int)), .int (J 0)] M (rn fun M1 => Mt (d + 3) mX2_spreadFrom [.ref 2, .int (J 0)] M1 Q) := by
  refine ok_reach (n := 0) hO hC (s0_BI _) s0_QI (by omega) (by omega) (fun M1 h1 h2 => rn_none ?_)
  exact ok_spreadFrom (i0 := 0) (h2.op hO) h1 (rch_BI (s0_BI _) (by simp [s0])) (rch_QI s0_QI) (by omega) (fun M2 h3 h4 => h M2 h3 (h2.tr h4))
/-! onward -/
def onw (op : Nat → Bool) (e : Int) : Nat → Nat → Nat
  | 0, _ => 0
  | f + 1, k => if 0 ≤ nb k e ∧ op (nb k e).toNat = true then onw op e f (nb k e).toNat + 1 else 0
theorem ok_stepsOnward {p n : Nat} {e : Int} (hT : TR M σ) (hW : WF σ) (hp : (sL σ).testBit p = true) (he : 0 ≤ e ∧ e ≤ 3) (hn : n ≤ 20) (h : ∀ M', PF M M' → Q (some (J (onw (opn σ (wo (sL σ) (2 ^ p)) (sS σ p)) e n (plc (sX σ p) (sY σ p)) : Nat))) M') : Mt (d + 5) mX2_stepsOnward [.ref 2, .int (J (p : Int)), .int (J e), .int (J (n : Int))] M Q := by
  have hl := hW.L
  have hx := hW.P hp
  have hp2 := hW.lp hp
  refine e_X2_stepsOnward (ok_lyingBeside hT hW hp2 (ri_some (ok_survey hT hW hp2 (wo_lt (by omega)) (fun M1 hS => rn_none (ok_whereLies (hT.keep hS.TK) hW hp (ri_some ?_))))))
  have key : ∀ f j k : Nat, j + f = n → k < 400 → j + onw (opn σ (wo (sL σ) (2 ^ p)) (sS σ p)) e f k = onw (opn σ (wo (sL σ) (2 ^ p)) (sS σ p)) e n (plc (sX σ p) (sY σ p)) → R none (d + 5) mX2_stepsOnward 23 [.ref 2, .null, .int (J e), .int (J (n : Int)), .int (J (k : Int)), .int (J (j : Int))] [] M1 Q := by
    intro f
    induction f with
    | zero =>
      intro j k hj hk hE
      refine b_X2_stepsOnward_23 ⟨fun _ => ?_, fun c => ?_⟩
      · rw [onw] at hE
        have := h M1 hS.PF
        rw [← hE, show j + 0 = n by omega] at this
        exact this
      · simp (disch := omega) only [J_add, J_sub, J_mul, J_neg, J_bit, J_shl, J_shr, J_andn, J_and, J_or, J_xor, J_div, J_rem, J_lt, J_le, J_eq, J_lt0, J_le0, J_0le, J_0lt, J_eq0, vp_in_J, J_clamp, J_max, J_abs, Int.toNat_natCast, Int.reduceToNat, Int.reduceAdd, Int.reduceSub, Int.reduceMul, Int.reduceNeg, not_true_eq_false, not_false_eq_true] at c; omega
    | succ f ih =>
      intro j k hj hk hE
      refine b_X2_stepsOnward_23 ⟨fun c => ?_, fun _ => ok_beside hk he (ri_some ?_)⟩
      · simp (disch := omega) only [J_add, J_sub, J_mul, J_neg, J_bit, J_shl, J_shr, J_andn, J_and, J_or, J_xor, J_div, J_rem, J_lt, J_le, J_eq, J_lt0, J_le0, J_0le, J_0lt, J_eq0, vp_in_J, J_clamp, J_max, J_abs, Int.toNat_natCast, Int.reduceToNat, Int.reduceAdd, Int.reduceSub, Int.reduceMul, Int.reduceNeg, not_true_eq_false, not_false_eq_true] at c; omega
      · rw [onw] at hE
        have fin : ¬ (0 ≤ nb k e ∧ opn σ (wo (sL σ) (2 ^ p)) (sS σ p) (nb k e).toNat = true) → Q (some (J (j : Int))) M1 := by
          intro q
          rw [if_neg q] at hE
          have := h M1 hS.PF
          rw [← hE] at this
          exact this
        rcases nb_range k e with q | q
        · rw [q]
          exact ok_isMarked_on (by omega) (by omega) (ri_some ⟨fun c => absurd jb_f c, fun _ => fin (by omega)⟩)
        · obtain ⟨z, hz⟩ := J_nat q.1
          rw [hz]
          refine ok_marked (M0 := M) (by omega) hS.1 (ri_some ?_)
          rw [jb_eq0]
          refine ⟨fun c => ?_, fun c => fin (fun q2 => by rw [hz, Int.toNat_natCast, c] at q2; cases q2.2)⟩
          rw [Bool.not_eq_false] at c
          rw [J_suc]
          rw [if_pos ⟨q.1, by rw [hz, Int.toNat_natCast]; exact c⟩, hz, Int.toNat_natCast] at hE
          exact ih (j + 1) z (by omega) (by omega) (by omega)
  exact key n 0 _ (by omega) (plc_lt hx.1 hx.2) (by omega)
/-! the way out -/
def fOut (ou : Nat → Bool) (t : BS) : List Nat → Int
  | [] => -4
  | k :: l => if ou k = true then dI (t.1 k) else fOut ou t l
theorem ok_stepsOut {p : Nat} (hT : TR M σ) (hW : WF σ) (hp : (sL σ).testBit p = true) (ho : oth < 2147483648) (h : ∀ M', PF M M' → Q (some (J (fOut (oun σ (sS σ p)) (src (opn σ oth (sS σ p)) (plc (sX σ p) (sY σ p))) (src (opn σ oth (sS σ p)) (plc (sX σ p) (sY σ p))).2))) M') : Mt (d + 5) mX2_stepsOut [.ref 2, .int (J (p : Int)), .int (J (oth : Int))] M Q := by
  have hx := hW.P hp
  have hp2 := hW.lp hp
  generalize hs : src (opn σ oth (sS σ p)) (plc (sX σ p) (sY σ p)) = t at h
  have hB : BI (opn σ oth (sS σ p)) t := by rw [← hs]; exact src_BI _ _
  have hl := hB.len
  refine e_X2_stepsOut (ok_survey hT hW hp2 ho (fun M1 hS => rn_none (ok_whereLies (hT.keep hS.TK) hW hp (ri_some ?_))))
  refine (ok_src (Q := rn fun M4 => R none (d + 5) mX2_stepsOut 23 [.ref 2, .null, .null, .int (J 0)] [] M4 Q) (plc_lt hx.1 hx.2) hS.1 hS.CB (fun M2 hC hF => rn_none ?_)).mono (fun _ _ q => q)
  rw [hs] at hC
  have key : ∀ (l : List Nat) (i : Nat), i ≤ 400 → t.2.drop i = l → fOut (oun σ (sS σ p)) t l = fOut (oun σ (sS σ p)) t t.2 → R none (d + 5) mX2_stepsOut 23 [.ref 2, .null, .null, .int (J (i : Int))] [] M2 Q := by
    intro l
    induction l with
    | nil =>
      intro i hi4 hi he
      have hil : t.2.length ≤ i := List.drop_eq_nil_iff.mp hi
      have fin : Q (some (J (-4))) M2 := by
        have := h M2 (hS.PF.tr hF.PF)
        rw [← he] at this
        exact this
      refine b_X2_stepsOut_23 ⟨fun _ => fin, fun c => ?_⟩
      rw [hC.2.1] at c
      simp (disch := omega) only [J_add, J_sub, J_mul, J_neg, J_bit, J_shl, J_shr, J_andn, J_and, J_or, J_xor, J_div, J_rem, J_lt, J_le, J_eq, J_lt0, J_le0, J_0le, J_0lt, J_eq0, vp_in_J, J_clamp, J_max, J_abs, Int.toNat_natCast, Int.reduceToNat, Int.reduceAdd, Int.reduceSub, Int.reduceMul, Int.reduceNeg, not_true_eq_false, not_false_eq_true] at c; omega
    | cons k l ih =>
      intro i hi4 hi he
      have hil : i < t.2.length := by
        rcases Nat.lt_or_ge i t.2.length with q | q
        · exact q
        · rw [List.drop_eq_nil_of_le q] at hi; cases hi
      have hk : t.2[i]? = some k := by
        rw [List.drop_eq_getElem_cons hil] at hi
        rw [List.getElem?_eq_getElem hil]
        exact congrArg some (List.cons.inj hi).1
      have hl2 : t.2.drop (i + 1) = l := by
        rw [List.drop_eq_getElem_cons hil] at hi
        exact (List.cons.inj hi).2
      have hk4 := (hB.2.1 k (List.mem_of_getElem? hk)).1
      refine b_X2_stepsOut_23 ⟨fun c => ?_, fun _ => ⟨fun c => ?_, fun _ => ⟨vin (by omega) (by omega), ?_⟩⟩⟩
      · rw [hC.2.1] at c
        simp (disch := omega) only [J_add, J_sub, J_mul, J_neg, J_bit, J_shl, J_shr, J_andn, J_and, J_or, J_xor, J_div, J_rem, J_lt, J_le, J_eq, J_lt0, J_le0, J_0le, J_0lt, J_eq0, vp_in_J, J_clamp, J_max, J_abs, Int.toNat_natCast, Int.reduceToNat, Int.reduceAdd, Int.reduceSub, Int.reduceMul, Int.reduceNeg, not_true_eq_false, not_false_eq_true] at c; omega
      · simp (disch := omega) only [J_add, J_sub, J_mul, J_neg, J_bit, J_shl, J_shr, J_andn, J_and, J_or, J_xor, J_div, J_rem, J_lt, J_le, J_eq, J_lt0, J_le0, J_0le, J_0lt, J_eq0, vp_in_J, J_clamp, J_max, J_abs, Int.toNat_natCast, Int.reduceToNat, Int.reduceAdd, Int.reduceSub, Int.reduceMul, Int.reduceNeg, not_true_eq_false, not_false_eq_true] at c; omega
      · rw [nI2 (by omega), hC.2.2 i k hk]
        refine ok_markedU (σ := σ) (s := sS σ p) hk4 (hF.ou hS.2.1) (ri_some ?_)
        rw [jb_eq0]
        rw [show fOut (oun σ (sS σ p)) t (k :: l) = if oun σ (sS σ p) k = true then dI (t.1 k) else fOut (oun σ (sS σ p)) t l from rfl] at he
        rw [hC.2.2 i k hk]
        refine ⟨fun c => ?_, fun c => ⟨vin (by omega) (by omega), ok_distanceOf hC hk4 (ri_some ?_)⟩⟩
        · rw [if_neg (by rw [c]; decide)] at he
          rw [J_suc]
          exact ih (i + 1) (by omega) hl2 he
        · rw [Bool.not_eq_false] at c
          rw [if_pos c] at he
          rw [he]
          exact h M2 (hS.PF.tr hF.PF)
  exact key t.2 0 (by omega) (by simp) rfl
end PATHS
