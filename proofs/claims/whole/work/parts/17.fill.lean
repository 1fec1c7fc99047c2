/-! filling in an order -/
def plr (order k : Nat) : Nat := order / 8 ^ k % 8
noncomputable def pG (σ : St) (w : Nat) (q : (Nat → Nat) × Nat) (p : Nat) : (Nat → Nat) × Nat := (orG q.1 (sS σ p) (spX q.1 (sS σ p) w) (spY q.1 (sS σ p) w), max q.2 (spY q.1 (sS σ p) w + tallN (sS σ p)))
noncomputable def fL (σ : St) (w : Nat) (l : List Nat) : (Nat → Nat) × Nat := l.foldl (pG σ w) (fun _ => 0, 0)
def ordL (order n : Nat) : List Nat := (List.range n).map (plr order)
theorem ordL_succ (order n : Nat) : ordL order (n + 1) = ordL order n ++ [plr order n] := by
  unfold ordL; rw [List.range_succ, List.map_append]; rfl
theorem fL_snoc (σ : St) (w : Nat) (l : List Nat) (p : Nat) : fL σ w (l ++ [p]) = pG σ w (fL σ w l) p := by
  unfold fL; rw [List.foldl_append]; rfl
noncomputable def spotN (σ : St) (w order k : Nat) : Nat := 100 * spY (fL σ w (ordL order k)).1 (sS σ (plr order k)) w + spX (fL σ w (ordL order k)).1 (sS σ (plr order k)) w
theorem pG_ok {σ : St} {w p k : Nat} {q : (Nat → Nat) × Nat} (hE : emptyFrom q.1 (5 * k)) (hh : q.2 ≤ 5 * k) (hk : k ≤ 4) (hw : w ≤ 12) : emptyFrom (pG σ w q p).1 (5 * (k + 1)) ∧ (pG σ w q p).2 ≤ 5 * (k + 1) := by
  obtain ⟨-, -, h3, -, -⟩ := spot_spec (s := sS σ p) hE (by omega) hw
  have ht := tallN_le (sS σ p)
  constructor
  · intro j hj
    show orG q.1 (sS σ p) _ _ j = 0
    unfold orG
    rw [if_neg (by omega)]
    exact hE j (by omega)
  · show max q.2 _ ≤ _
    omega
theorem fL_ok {σ : St} {w order : Nat} (hw : w ≤ 12) : ∀ k, k ≤ 5 → emptyFrom (fL σ w (ordL order k)).1 (5 * k) ∧ (fL σ w (ordL order k)).2 ≤ 5 * k := by
  intro k
  induction k with
  | zero => intro _; exact ⟨fun j _ => rfl, Nat.le_refl _⟩
  | succ k ih =>
    intro hk
    obtain ⟨h1, h2⟩ := ih (by omega)
    rw [ordL_succ, fL_snoc]
    exact pG_ok h1 h2 (by omega) hw
theorem and7 (n : Nat) : n &&& 7 = n % 8 := Nat.and_two_pow_sub_one_eq_mod n 3
theorem J_plr {order k : Nat} (ho : order < 2147483648) (hk : k < 10) : (J (order : Int) >>> ((J 3 * J (k : Int)) &&& 31)) &&& J 7 = J (plr order k : Nat) := by
  rw [J_mul, show (3 : Int) * (k : Int) = ((3 * k : Nat) : Int) by omega, J_shrN ho (by omega), show J 7 = J ((7 : Nat) : Int) from rfl, J_andN, and7, Nat.pow_mul]
  rfl
theorem plr_lt (order k : Nat) : plr order k < 8 := Nat.mod_lt _ (by omega)
section FILL
variable {d : Nat} {M : Mem} {Q : Post} {σ : St} {G : Nat → Nat}
theorem ok_pieceInOrder {order k : Nat} (ho : order < 2147483648) (hk : k < 10) (h : Q (some (J (plr order k : Nat))) M) : Mt (d + 1) mX4_pieceInOrder [.int (J (order : Int)), .int (J (k : Int))] M Q := by
  refine e_X4_pieceInOrder ?_
  rw [J_plr ho hk]; exact h
def setL (order n : Nat) : Nat := orN (fun k => 2 ^ plr order k) n
theorem setL_lt (order n : Nat) : setL order n < 256 := orN_lt (w := 8) (fun k => Nat.pow_lt_pow_right (by omega) (plr_lt order k)) n
theorem ok_setOf {n order : Nat} (ho : order < 2147483648) (hn : n ≤ 5) (h : Q (some (J (setL order n : Nat))) M) : Mt (d + 2) mX4_setOf [.int (J (n : Int)), .int (J (order : Int))] M Q := by
  refine e_X4_setOf ?_
  have key : ∀ k j : Nat, j + k = n → R none (d + 2) mX4_setOf 4 [.int (J (n : Int)), .int (J (order : Int)), .int (J (setL order j : Nat)), .int (J (j : Int))] [] M Q := by
    intro k
    induction k with
    | zero =>
      intro j hj
      refine b_X4_setOf_4 ⟨fun _ => ?_, fun q => ?_⟩
      · rw [show j = n by omega]; exact h
      · simp (disch := omega) only [J_add, J_sub, J_mul, J_neg, J_bit, J_shl, J_shr, J_andn, J_and, J_or, J_xor, J_div, J_rem, J_lt, J_le, J_eq, J_lt0, J_le0, J_0le, J_0lt, J_eq0, vp_in_J, J_clamp, J_max, J_abs, Int.toNat_natCast, Int.reduceToNat, Int.reduceAdd, Int.reduceSub, Int.reduceMul, Int.reduceNeg, not_true_eq_false, not_false_eq_true] at q; omega
    | succ k ih =>
      intro j hj
      refine b_X4_setOf_4 ⟨fun q => ?_, fun _ => ok_pieceInOrder ho (by omega) (ri_some ?_)⟩
      · simp (disch := omega) only [J_add, J_sub, J_mul, J_neg, J_bit, J_shl, J_shr, J_andn, J_and, J_or, J_xor, J_div, J_rem, J_lt, J_le, J_eq, J_lt0, J_le0, J_0le, J_0lt, J_eq0, vp_in_J, J_clamp, J_max, J_abs, Int.toNat_natCast, Int.reduceToNat, Int.reduceAdd, Int.reduceSub, Int.reduceMul, Int.reduceNeg, not_true_eq_false, not_false_eq_true] at q; omega
      · have hp := plr_lt order j
        rw [J_or1 (by omega), J_suc]
        exact ih (j + 1) (by omega)
  exact key n 0 (by omega)
theorem ok_fits {w : Int} {set : Nat} (hT : TR M σ) (hW : WF σ) (hw1 : -2147483648 ≤ w) (hw2 : w < 2147483648) (hs : set < 2147483648) (h : Q (some (jb (pb ((1 ≤ w ∧ w ≤ 12) ∧ set < 2 ^ sN σ ∧ ∀ p, set.testBit p = true → (wideN (sS σ p) : Int) ≤ w)))) M) : Mt (d + 3) mX0_fits [.ref 4, .int (J w), .int (J (set : Int))] M Q := by
  have hN := hW.N
  refine e_X0_fits ⟨fun q => ?_, fun q1 => ⟨fun q => ?_, fun q2 => ok_pieceCount hT (ri_some ?_)⟩⟩
  · simp (disch := omega) only [J_add, J_sub, J_mul, J_neg, J_bit, J_shl, J_shr, J_andn, J_and, J_or, J_xor, J_div, J_rem, J_lt, J_le, J_eq, J_lt0, J_le0, J_0le, J_0lt, J_eq0, vp_in_J, J_clamp, J_max, J_abs, Int.toNat_natCast, Int.reduceToNat, Int.reduceAdd, Int.reduceSub, Int.reduceMul, Int.reduceNeg, not_true_eq_false, not_false_eq_true] at q
    rw [pb_f.mpr (by omega)] at h; exact h
  · simp (disch := omega) only [J_add, J_sub, J_mul, J_neg, J_bit, J_shl, J_shr, J_andn, J_and, J_or, J_xor, J_div, J_rem, J_lt, J_le, J_eq, J_lt0, J_le0, J_0le, J_0lt, J_eq0, vp_in_J, J_clamp, J_max, J_abs, Int.toNat_natCast, Int.reduceToNat, Int.reduceAdd, Int.reduceSub, Int.reduceMul, Int.reduceNeg, not_true_eq_false, not_false_eq_true] at q q1
    rw [pb_f.mpr (by omega)] at h; exact h
  · simp (disch := omega) only [J_add, J_sub, J_mul, J_neg, J_bit, J_shl, J_shr, J_andn, J_and, J_or, J_xor, J_div, J_rem, J_lt, J_le, J_eq, J_lt0, J_le0, J_0le, J_0lt, J_eq0, vp_in_J, J_clamp, J_max, J_abs, Int.toNat_natCast, Int.reduceToNat, Int.reduceAdd, Int.reduceSub, Int.reduceMul, Int.reduceNeg, not_true_eq_false, not_false_eq_true] at q1 q2
    have hdiv : set / 2 ^ sN σ ≤ set := Nat.div_le_self _ _
    obtain ⟨qq, hqq⟩ : ∃ x, x = set / 2 ^ sN σ := ⟨_, rfl⟩
    rw [J_shrN hs (by omega), ← hqq, J_eq0 (by omega) (by omega)]
    refine ⟨fun q => ?_, fun q => ?_⟩
    · have hlt : set < 2 ^ sN σ := by
        rcases Nat.lt_or_ge set (2 ^ sN σ) with r | r
        · exact r
        · have := Nat.div_pos r (Nat.two_pow_pos _); omega
      have hbit : ∀ p, set.testBit p = true → p < sN σ := by
        intro p hp
        rcases Nat.lt_or_ge p (sN σ) with r | r
        · exact r
        · rw [Nat.testBit_lt_two_pow (Nat.lt_of_lt_of_le hlt (Nat.pow_le_pow_right (by omega) r))] at hp
          cases hp
      have key : ∀ k j : Nat, j + k = 8 → (∀ p, p < j → set.testBit p = true → (wideN (sS σ p) : Int) ≤ w) → R none (d + 3) mX0_fits 27 [.ref 4, .int (J w), .int (J (set : Int)), .int (J (j : Int))] [] M Q := by
        intro k
        induction k with
        | zero =>
          intro j hj hi
          refine b_X0_fits_27 ⟨fun _ => ?_, fun r => ?_⟩
          · rw [pb_t.mpr ⟨by omega, hlt, fun p hp => hi p (by have := hbit p hp; omega) hp⟩] at h
            exact h
          · simp (disch := omega) only [J_add, J_sub, J_mul, J_neg, J_bit, J_shl, J_shr, J_andn, J_and, J_or, J_xor, J_div, J_rem, J_lt, J_le, J_eq, J_lt0, J_le0, J_0le, J_0lt, J_eq0, vp_in_J, J_clamp, J_max, J_abs, Int.toNat_natCast, Int.reduceToNat, Int.reduceAdd, Int.reduceSub, Int.reduceMul, Int.reduceNeg, not_true_eq_false, not_false_eq_true] at r; omega
        | succ k ih =>
          intro j hj hi
          refine b_X0_fits_27 ⟨fun r => ?_, fun _ => ok_isIn hs (by omega) (ri_some ?_)⟩
          · simp (disch := omega) only [J_add, J_sub, J_mul, J_neg, J_bit, J_shl, J_shr, J_andn, J_and, J_or, J_xor, J_div, J_rem, J_lt, J_le, J_eq, J_lt0, J_le0, J_0le, J_0lt, J_eq0, vp_in_J, J_clamp, J_max, J_abs, Int.toNat_natCast, Int.reduceToNat, Int.reduceAdd, Int.reduceSub, Int.reduceMul, Int.reduceNeg, not_true_eq_false, not_false_eq_true] at r; omega
          · rw [jb_eq0, J_suc]
            refine ⟨fun r => ih (j + 1) (by omega) (fun p hp hb => ?_), fun r => ?_⟩
            · by_cases e : p = j
              · subst e; rw [r] at hb; cases hb
              · exact hi p (by omega) hb
            · rw [Bool.not_eq_false] at r
              have hjN := hbit j r
              have hwl := wideN_le (sS σ j)
              refine ok_shapeOf hT hW hjN (ri_some (ok_columnsOf (hW.S hjN) (ri_some ?_)))
              rw [J_le (by omega) (by omega) (by omega) (by omega)]
              refine ⟨fun g => ih (j + 1) (by omega) (fun p hp hb => ?_), fun g => ?_⟩
              · by_cases e : p = j
                · subst e; exact g
                · exact hi p (by omega) hb
              · rw [pb_f.mpr (fun x => g (x.2.2 j r))] at h
                exact h
      exact key 8 0 (by omega) (fun p hp => by omega)
    · rw [pb_f.mpr (fun x => q (by have := Nat.div_eq_of_lt x.2.1; omega))] at h
      exact h
theorem ok_fill {w n order : Nat} (hT : TR M σ) (hW : WF σ) (hw : w ≤ 12) (hn : n ≤ 5) (ho : order < 2147483648) (hp : ∀ k, k < n → plr order k < sN σ ∧ wideN (sS σ (plr order k)) ≤ w) (h : ∀ M', (∀ k, k < n → M' 17 k = J (spotN σ w order k : Nat)) → LF M M' → Q (some (J ((fL σ w (ordL order n)).2 : Nat))) M') : Mt (d + 4) mX0_fill [.ref 4, .int (J (w : Int)), .int (J (n : Int)), .int (J (order : Int))] M Q := by
  refine e_X0_fill (ok_empty (fun M1 g1 g2 g3 => rn_none ?_))
  have key : ∀ k j : Nat, j + k = n → ∀ M2 : Mem, GM M2 (fL σ w (ordL order j)).1 → M2 4 3 = J (w : Int) → LF M M2 → (∀ i, i < j → M2 17 i = J (spotN σ w order i : Nat)) → R none (d + 4) mX0_fill 11 [.ref 4, .null, .int (J (n : Int)), .int (J (order : Int)), .int (J ((fL σ w (ordL order j)).2 : Nat)), .int (J (j : Int)), .null] [] M2 Q := by
    intro k
    induction k with
    | zero =>
      intro j hj M2 f1 f2 f3 f4
      have hjn : j = n := by omega
      subst hjn
      refine b_X0_fill_11 ⟨fun _ => h M2 f4 f3, fun q => ?_⟩
      simp (disch := omega) only [J_add, J_sub, J_mul, J_neg, J_bit, J_shl, J_shr, J_andn, J_and, J_or, J_xor, J_div, J_rem, J_lt, J_le, J_eq, J_lt0, J_le0, J_0le, J_0lt, J_eq0, vp_in_J, J_clamp, J_max, J_abs, Int.toNat_natCast, Int.reduceToNat, Int.reduceAdd, Int.reduceSub, Int.reduceMul, Int.reduceNeg, not_true_eq_false, not_false_eq_true] at q; omega
    | succ k ih =>
      intro j hj M2 f1 f2 f3 f4
      obtain ⟨hpN, hpw⟩ := hp j (by omega)
      obtain ⟨hE, hH⟩ := fL_ok (σ := σ) (order := order) hw j (by omega)
      have hs := hW.S hpN
      have hT2 : TR M2 σ := hT.keep ⟨fun k => f3 1 k (by decide) (by decide) (by decide), fun a i h1 h2 => f3 a i (by omega) (by omega) (by omega)⟩
      obtain ⟨p1, p2, p3, p4, p5⟩ := spot_spec (s := sS σ (plr order j)) hE (by omega) hw
      have hcl : colsW w (sS σ (plr order j)) ≤ 13 := by unfold colsW; omega
      have htl := tallN_le (sS σ (plr order j))
      refine b_X0_fill_11 ⟨fun q => ?_, fun _ => ⟨fun q => ?_, fun _ => ok_pieceInOrder ho (by omega) (ri_some (ok_shapeOf hT2 hW hpN (ri_some (ok_spotFor f1 f2 hE (by omega) hs hw hpw (ri_some ⟨vin (by omega) (by omega), vin (by omega) (by omega), ?_⟩)))))⟩⟩
      · simp (disch := omega) only [J_add, J_sub, J_mul, J_neg, J_bit, J_shl, J_shr, J_andn, J_and, J_or, J_xor, J_div, J_rem, J_lt, J_le, J_eq, J_lt0, J_le0, J_0le, J_0lt, J_eq0, vp_in_J, J_clamp, J_max, J_abs, Int.toNat_natCast, Int.reduceToNat, Int.reduceAdd, Int.reduceSub, Int.reduceMul, Int.reduceNeg, not_true_eq_false, not_false_eq_true] at q; omega
      · simp (disch := omega) only [J_add, J_sub, J_mul, J_neg, J_bit, J_shl, J_shr, J_andn, J_and, J_or, J_xor, J_div, J_rem, J_lt, J_le, J_eq, J_lt0, J_le0, J_0le, J_0lt, J_eq0, vp_in_J, J_clamp, J_max, J_abs, Int.toNat_natCast, Int.reduceToNat, Int.reduceAdd, Int.reduceSub, Int.reduceMul, Int.reduceNeg, not_true_eq_false, not_false_eq_true] at q; omega
      · rw [nI2 (by omega), mset_self]
        have hG3 : GM (mset M2 17 j (J ((100 * spY (fL σ w (ordL order j)).1 (sS σ (plr order j)) w + spX (fL σ w (ordL order j)).1 (sS σ (plr order j)) w : Nat) : Int))) (fL σ w (ordL order j)).1 := fun i hi => by rw [mset_o (by decide)]; exact f1 i hi
        refine ok_toggle hG3 hs (by omega) (by omega) (fun M3 t1 t2 => rn_none ⟨vin (by omega) (by omega), ok_rowsOf hs (ri_some ?_)⟩)
        rw [xorG_or p1] at t1
        have e17 : M3 17 j = J (spotN σ w order j : Nat) := by rw [t2 17 j (by decide), mset_self]; rfl
        rw [e17, show J 100 = J ((100 : Nat) : Int) from rfl, J_quo (by unfold spotN; omega) (by omega) (by omega), show spotN σ w order j / 100 = spY (fL σ w (ordL order j)).1 (sS σ (plr order j)) w by unfold spotN; omega, J_addN, J_suc, J_max (by omega) (by omega) (by omega) (by omega)]
        have := ih (j + 1) (by omega) M3 ?_ ?_ ?_ ?_
        · rw [ordL_succ, fL_snoc] at this
          rw [show (max ((fL σ w (ordL order j)).2 : Int) ((spY (fL σ w (ordL order j)).1 (sS σ (plr order j)) w + tallN (sS σ (plr order j)) : Nat) : Int)) = (((pG σ w (fL σ w (ordL order j)) (plr order j)).2 : Nat) : Int) by unfold pG; dsimp only; omega]
          exact this
        · rw [ordL_succ, fL_snoc]; exact t1
        · rw [t2 4 3 (by decide), mset_o (by decide)]; exact f2
        · intro a i h1 h2 h3
          rw [t2 a i h1, mset_o h2]; exact f3 a i h1 h2 h3
        · intro i hi
          by_cases e : i = j
          · subst e; exact e17
          · rw [t2 17 i (by decide), mset_k e]; exact f4 i (by omega)
  exact key n 0 (by omega) M1 g1 g2 (fun a j h1 h2 h3 => g3 a j h1 (Or.inl h3)) (fun i hi => by omega)
/-! the search for the best order -/
noncomputable def dfs (σ : St) (w : Nat) : Nat → ((Nat → Nat) × Nat) → Nat → Nat → Nat → (Nat × Nat) → (Nat × Nat)
  | 0, _, _, _, _, b => b
  | f + 1, q, left, dep, ord, b => if b.1 ≤ q.2 then b else if left = 0 then (q.2, ord) else
      (List.range 8).foldl (fun b p => if left.testBit p = true then dfs σ w f (pG σ w q p) (wo left (2 ^ p)) (dep + 1) (ord ||| p * 8 ^ dep) b else b) b
end FILL
