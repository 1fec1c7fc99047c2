/-! the least push -/
def meetP (a b : Nat) (dx dy : Int) : Prop := ∃ c r : Int, sq a dx dy c r = true ∧ sq b 0 0 c r = true
def mvR (n : Nat) (dx : Int) : Nat := if dx < 0 then n / 2 ^ (-dx).toNat else n * 2 ^ dx.toNat
theorem meet_row {a b : Nat} {dx dy : Int} (hx : -10 ≤ dx ∧ dx ≤ 10) (hy : -10 ≤ dy ∧ dy ≤ 10) : meetP a b dx dy ↔ ∃ r : Nat, r < 5 ∧ mvR (rowN a (r : Int)) dx &&& rowN b ((r : Int) + dy) ≠ 0 := by
  unfold meetP
  constructor
  · rintro ⟨c, r, h1, h2⟩
    unfold sq at h1 h2
    rw [Bool.and_eq_true, decide_eq_true_iff] at h1 h2
    refine ⟨(r - dy).toNat, by omega, ?_⟩
    rw [and_ne0]
    refine ⟨c.toNat, ?_, ?_⟩
    · unfold mvR
      split
      · next q =>
        rw [Nat.testBit_div_two_pow, rowN_bit, decide_eq_true (by omega), Bool.true_and, ← h1.2]
        congr 1; omega
      · next q =>
        rw [Nat.testBit_mul_two_pow, rowN_bit, decide_eq_true (by omega), decide_eq_true (by omega), Bool.true_and, Bool.true_and, ← h1.2]
        congr 1; omega
    · rw [rowN_bit, decide_eq_true (by omega), Bool.true_and, ← h2.2]
      congr 1; omega
  · rintro ⟨r, hr, h⟩
    rw [and_ne0] at h
    obtain ⟨i, h1, h2⟩ := h
    rw [rowN_bit, Bool.and_eq_true, decide_eq_true_iff] at h2
    unfold mvR at h1
    refine ⟨(i : Int), (r : Int) + dy, ?_, ?_⟩
    · split at h1
      · next q =>
        rw [Nat.testBit_div_two_pow, rowN_bit, Bool.and_eq_true, decide_eq_true_iff] at h1
        unfold sq
        rw [Bool.and_eq_true, decide_eq_true_iff]
        refine ⟨by omega, ?_⟩
        rw [← h1.2]; congr 1; omega
      · next q =>
        rw [Nat.testBit_mul_two_pow, Bool.and_eq_true, rowN_bit, Bool.and_eq_true, decide_eq_true_iff, decide_eq_true_iff] at h1
        unfold sq
        rw [Bool.and_eq_true, decide_eq_true_iff]
        refine ⟨by omega, ?_⟩
        rw [← h1.2.2]; congr 1; omega
    · unfold sq
      rw [Bool.and_eq_true, decide_eq_true_iff]
      refine ⟨by omega, ?_⟩
      rw [← h2.2]; congr 1; omega
noncomputable def psh (a b : Nat) : Nat → Nat × Int × Int
  | 0 => (999, 99, 99)
  | t + 1 => if pb ((((t / 21 : Nat) : Int) - 10).natAbs + (((t % 21 : Nat) : Int) - 10).natAbs < (psh a b t).1 ∧ ¬ meetP a b (((t / 21 : Nat) : Int) - 10) (((t % 21 : Nat) : Int) - 10)) = true then
      ((((t / 21 : Nat) : Int) - 10).natAbs + (((t % 21 : Nat) : Int) - 10).natAbs, ((t / 21 : Nat) : Int) - 10, ((t % 21 : Nat) : Int) - 10) else psh a b t
theorem meet_far {a b : Nat} : ¬ meetP a b (-10) (-10) := by
  rintro ⟨c, r, h1, h2⟩
  unfold sq at h1 h2
  rw [Bool.and_eq_true, decide_eq_true_iff] at h1 h2
  omega
theorem psh_1 (a b : Nat) : psh a b 1 = (20, -10, -10) := by
  rw [psh, if_pos]
  · rfl
  · rw [pb_t]
    exact ⟨by show 20 < 999; omega, meet_far⟩
theorem psh_le (a b : Nat) : ∀ t, 1 ≤ t → (psh a b t).1 ≤ 20 ∧ (-10 ≤ (psh a b t).2.1 ∧ (psh a b t).2.1 ≤ 10 + t) ∧ (-10 ≤ (psh a b t).2.2 ∧ (psh a b t).2.2 ≤ 10) := by
  intro t ht
  induction t with
  | zero => omega
  | succ t ih =>
    by_cases h0 : t = 0
    · subst h0
      rw [psh_1]
      refine ⟨Nat.le_refl _, ?_⟩
      dsimp only
      omega
    · obtain ⟨h1, h2, h3⟩ := ih (by omega)
      rw [psh]
      split
      · next q =>
        rw [pb_t] at q
        refine ⟨by dsimp only; omega, ⟨by dsimp only; omega, by dsimp only; omega⟩, by dsimp only; omega, by dsimp only; omega⟩
      · exact ⟨h1, ⟨h2.1, by omega⟩, h3⟩
section PUSH
variable {d : Nat} {M : Mem} {Q : Post}
theorem ok_meet {a b : Nat} {dx dy : Int} (ha : a < 33554432) (hb : b < 33554432) (hx : -10 ≤ dx ∧ dx ≤ 10) (hy : -10 ≤ dy ∧ dy ≤ 10) (h : Q (some (jb (pb (meetP a b dx dy)))) M) : Mt (d + 2) mX4_meet [.int (J (a : Int)), .int (J (b : Int)), .int (J dx), .int (J dy)] M Q := by
  refine e_X4_meet ?_
  have hrow := meet_row (a := a) (b := b) hx hy
  have key : ∀ k r : Nat, r + k = 5 → (∀ i : Nat, i < r → mvR (rowN a (i : Int)) dx &&& rowN b ((i : Int) + dy) = 0) → R none (d + 2) mX4_meet 3 [.int (J (a : Int)), .int (J (b : Int)), .int (J dx), .int (J dy), .int (J (r : Int)), .null, .null] [] M Q := by
    intro k
    induction k with
    | zero =>
      intro r hr hi
      refine b_X4_meet_3 ⟨fun _ => ?_, fun q => ?_⟩
      · rw [pb_f.mpr (fun g => by obtain ⟨i, h1, h2⟩ := hrow.mp g; exact h2 (hi i (by omega)))] at h
        exact h
      · simp (disch := omega) only [J_add, J_sub, J_mul, J_neg, J_bit, J_shl, J_shr, J_andn, J_and, J_or, J_xor, J_div, J_rem, J_lt, J_le, J_eq, J_lt0, J_le0, J_0le, J_0lt, J_eq0, vp_in_J, J_clamp, J_max, J_abs, Int.toNat_natCast, Int.reduceToNat, Int.reduceAdd, Int.reduceSub, Int.reduceMul, Int.reduceNeg, not_true_eq_false, not_false_eq_true] at q; omega
    | succ k ih =>
      intro r hr hi
      have hr1 := rowN_lt a (r : Int)
      have hr2 := rowN_lt b ((r : Int) + dy)
      have hle : mvR (rowN a (r : Int)) dx &&& rowN b ((r : Int) + dy) ≤ rowN b ((r : Int) + dy) := Nat.and_le_right
      have go : (mvR (rowN a (r : Int)) dx &&& rowN b ((r : Int) + dy) = 0 → R none (d + 2) mX4_meet 3 [.int (J (a : Int)), .int (J (b : Int)), .int (J dx), .int (J dy), .int (J ((r + 1 : Nat) : Int)), .null, .null] [] M Q) ∧ (mvR (rowN a (r : Int)) dx &&& rowN b ((r : Int) + dy) ≠ 0 → Q (some (J 1)) M) := by
        refine ⟨fun q => ih (r + 1) (by omega) (fun i h1 => ?_), fun q => ?_⟩
        · by_cases e : i = r
          · subst e; exact q
          · exact hi i (by omega)
        · rw [pb_t.mpr (hrow.mpr ⟨r, by omega, q⟩)] at h
          exact h
      refine b_X4_meet_3 ⟨fun q => ?_, fun _ => ok_rowOf ha (by omega) (by omega) (ri_some ⟨fun q => ?_, fun q => ?_⟩)⟩
      · simp (disch := omega) only [J_add, J_sub, J_mul, J_neg, J_bit, J_shl, J_shr, J_andn, J_and, J_or, J_xor, J_div, J_rem, J_lt, J_le, J_eq, J_lt0, J_le0, J_0le, J_0lt, J_eq0, vp_in_J, J_clamp, J_max, J_abs, Int.toNat_natCast, Int.reduceToNat, Int.reduceAdd, Int.reduceSub, Int.reduceMul, Int.reduceNeg, not_true_eq_false, not_false_eq_true] at q; omega
      · simp (disch := omega) only [J_add, J_sub, J_mul, J_neg, J_bit, J_shl, J_shr, J_andn, J_and, J_or, J_xor, J_div, J_rem, J_lt, J_le, J_eq, J_lt0, J_le0, J_0le, J_0lt, J_eq0, vp_in_J, J_clamp, J_max, J_abs, Int.toNat_natCast, Int.reduceToNat, Int.reduceAdd, Int.reduceSub, Int.reduceMul, Int.reduceNeg, not_true_eq_false, not_false_eq_true] at q
        rw [J_add]
        refine ok_rowOf hb (by omega) (by omega) (ri_some ?_)
        rw [J_suc]
        have e1 : J ((rowN a (r : Int) : Nat) : Int) <<< (J dx &&& 31) = J ((mvR (rowN a (r : Int)) dx : Nat) : Int) := by
          unfold mvR
          obtain ⟨n, rfl⟩ := J_nat q
          rw [if_neg (by omega), J_shlN (by omega), Int.toNat_natCast]
        rw [e1, J_andN, J_eq0 (by omega) (by omega)]
        exact ⟨fun g => go.1 (by omega), fun g => go.2 (by omega)⟩
      · simp (disch := omega) only [J_add, J_sub, J_mul, J_neg, J_bit, J_shl, J_shr, J_andn, J_and, J_or, J_xor, J_div, J_rem, J_lt, J_le, J_eq, J_lt0, J_le0, J_0le, J_0lt, J_eq0, vp_in_J, J_clamp, J_max, J_abs, Int.toNat_natCast, Int.reduceToNat, Int.reduceAdd, Int.reduceSub, Int.reduceMul, Int.reduceNeg, not_true_eq_false, not_false_eq_true] at q
        rw [J_add]
        refine ok_rowOf hb (by omega) (by omega) (ri_some ?_)
        rw [J_suc]
        have e1 : J ((rowN a (r : Int) : Nat) : Int) >>> ((-J dx) &&& 31) = J ((mvR (rowN a (r : Int)) dx : Nat) : Int) := by
          unfold mvR
          rw [if_pos (by omega), J_neg]
          obtain ⟨n, hn⟩ := J_nat (show 0 ≤ -dx by omega)
          rw [hn, J_shrN (by omega) (by omega), Int.toNat_natCast]
        rw [e1, J_andN, J_eq0 (by omega) (by omega)]
        exact ⟨fun g => go.1 (by omega), fun g => go.2 (by omega)⟩
  exact key 5 0 (by omega) (fun i h => by omega)
noncomputable def pshA (a b : Nat) (w : Int) (t : Nat) : Int := if t = 0 then 0 else if w = 0 then (psh a b t).2.1 else (psh a b t).2.2
noncomputable def pshS (a b : Nat) (t : Nat) : Int := if t = 0 then 21 else ((psh a b t).1 : Int)
theorem ok_leastPush {a b : Nat} {w : Int} (ha : a < 33554432) (hb : b < 33554432) (hw : w = 0 ∨ w = 1) (h : Q (some (J (if w = 0 then (psh a b 441).2.1 else (psh a b 441).2.2))) M) : Mt (d + 3) mX4_leastPush [.int (J (a : Int)), .int (J (b : Int)), .int (J w)] M Q := by
  refine e_X4_leastPush ?_
  have inner : ∀ x : Nat, x < 21 → (R none (d + 3) mX4_leastPush 10 [.int (J (a : Int)), .int (J (b : Int)), .int (J w), .int (J (pshS a b ((x + 1) * 21))), .int (J (pshA a b w ((x + 1) * 21))), .int (J ((x : Int) - 10 + 1)), .null, .null] [] M Q) → ∀ k y : Nat, y + k = 21 → R none (d + 3) mX4_leastPush 21 [.int (J (a : Int)), .int (J (b : Int)), .int (J w), .int (J (pshS a b (x * 21 + y))), .int (J (pshA a b w (x * 21 + y))), .int (J ((x : Int) - 10)), .int (J ((y : Int) - 10)), .null] [] M Q := by
    intro x hx hk k
    induction k with
    | zero =>
      intro y hy
      refine b_X4_leastPush_21 ⟨fun _ => ?_, fun q => ?_⟩
      · rw [J_add, show x * 21 + y = (x + 1) * 21 by omega]
        exact hk
      · simp (disch := omega) only [J_add, J_sub, J_mul, J_neg, J_bit, J_shl, J_shr, J_andn, J_and, J_or, J_xor, J_div, J_rem, J_lt, J_le, J_eq, J_lt0, J_le0, J_0le, J_0lt, J_eq0, vp_in_J, J_clamp, J_max, J_abs, Int.toNat_natCast, Int.reduceToNat, Int.reduceAdd, Int.reduceSub, Int.reduceMul, Int.reduceNeg, not_true_eq_false, not_false_eq_true] at q; omega
    | succ k ih =>
      intro y hy
      have hS : -1000 ≤ pshS a b (x * 21 + y) ∧ pshS a b (x * 21 + y) ≤ 1000 := by
        unfold pshS
        split
        · omega
        · have := (psh_le a b (x * 21 + y) (by omega)).1
          omega
      have ih2 := ih (y + 1) (by omega)
      have e1 : (x * 21 + y) / 21 = x := by omega
      have e2 : (x * 21 + y) % 21 = y := by omega
      have hstep : psh a b (x * 21 + (y + 1)) = if pb (((x : Int) - 10).natAbs + ((y : Int) - 10).natAbs < (psh a b (x * 21 + y)).1 ∧ ¬ meetP a b ((x : Int) - 10) ((y : Int) - 10)) = true then (((x : Int) - 10).natAbs + ((y : Int) - 10).natAbs, (x : Int) - 10, (y : Int) - 10) else psh a b (x * 21 + y) := by
        rw [show x * 21 + (y + 1) = (x * 21 + y) + 1 by omega, psh, e1, e2]
      have hlt : ((((x : Int) - 10).natAbs + ((y : Int) - 10).natAbs : Nat) : Int) < pshS a b (x * 21 + y) ↔ ((x : Int) - 10).natAbs + ((y : Int) - 10).natAbs < (psh a b (x * 21 + y)).1 := by
        unfold pshS
        split
        · next q =>
          rw [q]
          show _ ↔ _ < 999
          omega
        · omega
      have keep : ¬ (((x : Int) - 10).natAbs + ((y : Int) - 10).natAbs < (psh a b (x * 21 + y)).1 ∧ ¬ meetP a b ((x : Int) - 10) ((y : Int) - 10)) → R none (d + 3) mX4_leastPush 21 [.int (J (a : Int)), .int (J (b : Int)), .int (J w), .int (J (pshS a b (x * 21 + y))), .int (J (pshA a b w (x * 21 + y))), .int (J ((x : Int) - 10)), .int (J ((y : Int) - 10 + 1)), .null] [] M Q := by
        intro q
        rw [if_neg (by rw [pb_t]; exact q)] at hstep
        have h0 : x * 21 + y ≠ 0 := by
          intro g
          apply q
          rw [g]
          refine ⟨by show _ < 999; omega, ?_⟩
          rw [show (x : Int) - 10 = -10 by omega, show (y : Int) - 10 = -10 by omega]
          exact meet_far
        have e3 : pshS a b (x * 21 + (y + 1)) = pshS a b (x * 21 + y) := by unfold pshS; rw [if_neg (by omega), if_neg h0, hstep]
        have e4 : pshA a b w (x * 21 + (y + 1)) = pshA a b w (x * 21 + y) := by unfold pshA; rw [if_neg (by omega), if_neg h0, hstep]
        rw [e3, e4, show (((y + 1 : Nat) : Int) - 10) = (y : Int) - 10 + 1 by omega] at ih2
        exact ih2
      refine b_X4_leastPush_21 ⟨fun q => ?_, fun _ => ?_⟩
      · simp (disch := omega) only [J_add, J_sub, J_mul, J_neg, J_bit, J_shl, J_shr, J_andn, J_and, J_or, J_xor, J_div, J_rem, J_lt, J_le, J_eq, J_lt0, J_le0, J_0le, J_0lt, J_eq0, vp_in_J, J_clamp, J_max, J_abs, Int.toNat_natCast, Int.reduceToNat, Int.reduceAdd, Int.reduceSub, Int.reduceMul, Int.reduceNeg, not_true_eq_false, not_false_eq_true] at q; omega
      · rw [J_abs (by omega) (by omega), J_abs (by omega) (by omega), J_add, ← Int.natCast_add, J_add, J_le (by omega) (by omega) (by omega) (by omega)]
        refine ⟨fun q => keep (fun g => by have := hlt.mpr g.1; omega), fun q => ok_meet ha hb (by omega) (by omega) (ri_some ?_)⟩
        rw [jb_ne, jb_eq0]
        refine ⟨fun q2 => keep (fun g => g.2 (pb_t.mp q2)), fun q2 => ?_⟩
        rw [if_pos (by rw [pb_t]; exact ⟨hlt.mp (by omega), pb_f.mp q2⟩)] at hstep
        have e3 : pshS a b (x * 21 + (y + 1)) = ((((x : Int) - 10).natAbs + ((y : Int) - 10).natAbs : Nat) : Int) := by unfold pshS; rw [if_neg (by omega), hstep]
        rw [e3, show (((y + 1 : Nat) : Int) - 10) = (y : Int) - 10 + 1 by omega] at ih2
        rw [J_eq0 (by omega) (by omega)]
        refine ⟨fun q3 => ?_, fun q3 => ?_⟩
        · have e4 : pshA a b w (x * 21 + (y + 1)) = (y : Int) - 10 := by unfold pshA; rw [if_neg (by omega), if_neg q3, hstep]
          rw [e4] at ih2; exact ih2
        · have e4 : pshA a b w (x * 21 + (y + 1)) = (x : Int) - 10 := by unfold pshA; rw [if_neg (by omega), if_pos q3, hstep]
          rw [e4] at ih2; exact ih2
  have key : ∀ k x : Nat, x + k = 21 → R none (d + 3) mX4_leastPush 10 [.int (J (a : Int)), .int (J (b : Int)), .int (J w), .int (J (pshS a b (x * 21))), .int (J (pshA a b w (x * 21))), .int (J ((x : Int) - 10)), .null, .null] [] M Q := by
    intro k
    induction k with
    | zero =>
      intro x hx
      refine b_X4_leastPush_10 ⟨fun _ => ?_, fun q => ?_⟩
      · rw [show x * 21 = 441 by omega]
        unfold pshA
        rw [if_neg (by omega)]; exact h
      · simp (disch := omega) only [J_add, J_sub, J_mul, J_neg, J_bit, J_shl, J_shr, J_andn, J_and, J_or, J_xor, J_div, J_rem, J_lt, J_le, J_eq, J_lt0, J_le0, J_0le, J_0lt, J_eq0, vp_in_J, J_clamp, J_max, J_abs, Int.toNat_natCast, Int.reduceToNat, Int.reduceAdd, Int.reduceSub, Int.reduceMul, Int.reduceNeg, not_true_eq_false, not_false_eq_true] at q; omega
    | succ k ih =>
      intro x hx
      refine b_X4_leastPush_10 ⟨fun q => ?_, fun _ => ?_⟩
      · simp (disch := omega) only [J_add, J_sub, J_mul, J_neg, J_bit, J_shl, J_shr, J_andn, J_and, J_or, J_xor, J_div, J_rem, J_lt, J_le, J_eq, J_lt0, J_le0, J_0le, J_0lt, J_eq0, vp_in_J, J_clamp, J_max, J_abs, Int.toNat_natCast, Int.reduceToNat, Int.reduceAdd, Int.reduceSub, Int.reduceMul, Int.reduceNeg, not_true_eq_false, not_false_eq_true] at q; omega
      · have ih2 := ih (x + 1) (by omega)
        rw [show ((x + 1 : Nat) : Int) - 10 = (x : Int) - 10 + 1 by omega] at ih2
        have := inner x (by omega) ih2 21 0 (by omega)
        exact this
  exact key 21 0 (by omega)
end PUSH
noncomputable def aPush (S : SS) (a b w : Int) : Int := if (isPc S.1 a = true ∧ isPc S.1 b = true) ∧ a ≠ b ∧ (0 ≤ w ∧ w ≤ 1) then (if w = 0 then (psh (sS S.1 a.toNat) (sS S.1 b.toNat) 441).2.1 else (psh (sS S.1 a.toNat) (sS S.1 b.toNat) 441).2.2) else -1000
/-! strips: what is asked -/
def stripOK (σ : St) (w n o t : Int) : Prop := (1 ≤ w ∧ w ≤ 12) ∧ (1 ≤ n ∧ n ≤ 5) ∧ (0 ≤ o ∧ o < 8 ^ n.toNat) ∧ (0 ≤ t ∧ t ≤ n) ∧ ∀ k, k < n.toNat → (plr o.toNat k < sN σ ∧ (wideN (sS σ (plr o.toNat k)) : Int) ≤ w) ∧ ∀ j, j < k → plr o.toNat j ≠ plr o.toNat k
noncomputable def aStrip (S : SS) (w n o t : Int) : Int := if pb (stripOK S.1 w n o t) = true then (if t = 0 then ((fL S.1 w.toNat (ordL o.toNat n.toNat)).2 : Nat) else (spotN S.1 w.toNat o.toNat (t.toNat - 1) : Nat)) else -1
def bestOK (σ : St) (w s t : Int) : Prop := (1 ≤ w ∧ w ≤ 12) ∧ (1 ≤ s ∧ s < 2 ^ sN σ) ∧ pcR 8 s.toNat ≤ 5 ∧ (0 ≤ t ∧ t ≤ 1) ∧ ∀ p, s.toNat.testBit p = true → (wideN (sS σ p) : Int) ≤ w
noncomputable def aBest (S : SS) (w s t : Int) : Int := if pb (bestOK S.1 w s t) = true then (if t = 0 then ((dfs S.1 w.toNat 6 (fun _ => 0, 0) s.toNat 0 0 (26, 0)).1 : Nat) else ((dfs S.1 w.toNat 6 (fun _ => 0, 0) s.toNat 0 0 (26, 0)).2 : Nat)) else -1
theorem pcR_small {s : Nat} (h : s < 256) : pcR 25 s = pcR 8 s := by
  rw [show 25 = 8 + 17 from rfl, pcR_add, show s / 2 ^ 8 = 0 by omega]
  rfl
theorem pc_or : ∀ s, s < 256 → ∀ p, p < 8 → pcR 8 (s ||| 2 ^ p) = pcR 8 s + (if Nat.testBit s p = true then 0 else 1) := by decide +kernel
theorem setL_bit (o n p : Nat) : (setL o n).testBit p = true ↔ ∃ k, k < n ∧ plr o k = p := by
  unfold setL
  rw [orN_bit]
  constructor
  · rintro ⟨k, h1, h2⟩
    rw [two_bit] at h2
    exact ⟨k, h1, h2.symm⟩
  · rintro ⟨k, h1, h2⟩
    exact ⟨k, h1, by rw [two_bit]; exact h2.symm⟩
theorem setL_pc (o : Nat) : ∀ n, pcR 8 (setL o n) ≤ n ∧ (pcR 8 (setL o n) = n ↔ ∀ k, k < n → ∀ j, j < k → plr o j ≠ plr o k) := by
  intro n
  induction n with
  | zero =>
    rw [show setL o 0 = 0 from rfl, show pcR 8 0 = 0 from rfl]
    exact ⟨Nat.le_refl _, ⟨fun _ k h => by omega, fun _ => rfl⟩⟩
  | succ n ih =>
    obtain ⟨h1, h2⟩ := ih
    have h3 := pc_or (setL o n) (setL_lt o n) (plr o n) (plr_lt o n)
    rw [show setL o n ||| 2 ^ plr o n = setL o (n + 1) from rfl] at h3
    rw [h3]
    split
    · next q =>
      rw [setL_bit] at q
      obtain ⟨j, g1, g2⟩ := q
      refine ⟨by omega, ⟨fun g => by omega, fun g => absurd g2 (g n (by omega) j g1)⟩⟩
    · next q =>
      rw [setL_bit] at q
      refine ⟨by omega, ⟨fun g k hk j hj => ?_, fun g => ?_⟩⟩
      · by_cases e : k = n
        · subst e; exact fun e2 => q ⟨j, hj, e2⟩
        · exact h2.mp (by omega) k (by omega) j hj
      · have := h2.mpr (fun k hk j hj => g k (by omega) j hj)
        omega
theorem ushr_neg {z : Int} {k : Nat} (h1 : -2147483648 ≤ z) (h2 : z < 0) (hk : k ≤ 15) : ¬ ushr (J z) (J (k : Int)) = 0 := by
  intro h
  have hm : ∀ n : Nat, n < 32 → (((J (n : Int)).toUInt32 &&& Int32.toUInt32 31).toBitVec % 32).toNat = n := by decide +kernel
  have h3 := pk_ushr (J z) (J (k : Int)) k (hm k (by omega))
  rw [show (((J z).toUInt32 >>> ((J (k : Int)).toUInt32 &&& Int32.toUInt32 31)).toInt32) = ushr (J z) (J (k : Int)) from rfl, h] at h3
  obtain ⟨n, hn⟩ := J_nat (show 0 ≤ z + 4294967296 by omega)
  rw [J_per z, hn, J_natbits, BitVec.toNat_ofNat, Nat.mod_eq_of_lt (by omega)] at h3
  have h4 : (0 : Int32).toBitVec.toNat = 0 := rfl
  rw [h4] at h3
  have h5 : 2 ^ k ≤ 2 ^ 15 := Nat.pow_le_pow_right (by omega) hk
  have h6 : 1 ≤ n / 2 ^ k := by
    rw [Nat.le_div_iff_mul_le (Nat.two_pow_pos _)]
    omega
  omega
section PAPI
variable {d : Nat} {M : Mem} {Q : Post} {S : SS}
theorem c_push {a b w : Int} (hC : CR M S) (hO : OKS S) (ha : BI32 a) (hb : BI32 b) (hw : BI32 w) (h : ∀ M', CR M' S → MF M M' → Q (some (J (aPush S a b w))) M') : Mt (d + 12) mX4_push [.ref 0, .int (J a), .int (J b), .int (J w)] M Q := by
  have hW := hO.1
  obtain ⟨hw1, hw2⟩ := hw
  have h0 := h M hC MF.rf
  unfold aPush at h0
  have bad : ¬ ((isPc S.1 a = true ∧ isPc S.1 b = true) ∧ a ≠ b ∧ (0 ≤ w ∧ w ≤ 1)) → Q (some (J (-1000))) M := by
    intro q
    rw [if_neg q] at h0
    exact h0
  refine e_X4_push (ok_has hC.1 hW ha.1 ha.2 (ri_some ?_))
  rw [jb_ne, jb_eq0]
  refine ⟨fun q => bad (fun g => by rw [q] at g; cases g.1.1), fun q => ok_has hC.1 hW hb.1 hb.2 (ri_some ?_)⟩
  rw [jb_ne, jb_eq0]
  refine ⟨fun q2 => bad (fun g => by rw [q2] at g; cases g.1.2), fun q2 => ?_⟩
  rw [J_eq ha.1 ha.2 hb.1 hb.2]
  refine ⟨fun q3 => bad (fun g => g.2.1 q3), fun q3 => ⟨fun q4 => ?_, fun q4 => ⟨fun q5 => ?_, fun q5 => ?_⟩⟩⟩
  · simp (disch := omega) only [J_add, J_sub, J_mul, J_neg, J_bit, J_shl, J_shr, J_andn, J_and, J_or, J_xor, J_div, J_rem, J_lt, J_le, J_eq, J_lt0, J_le0, J_0le, J_0lt, J_eq0, vp_in_J, J_clamp, J_max, J_abs, Int.toNat_natCast, Int.reduceToNat, Int.reduceAdd, Int.reduceSub, Int.reduceMul, Int.reduceNeg, not_true_eq_false, not_false_eq_true] at q4; exact bad (by omega)
  · simp (disch := omega) only [J_add, J_sub, J_mul, J_neg, J_bit, J_shl, J_shr, J_andn, J_and, J_or, J_xor, J_div, J_rem, J_lt, J_le, J_eq, J_lt0, J_le0, J_0le, J_0lt, J_eq0, vp_in_J, J_clamp, J_max, J_abs, Int.toNat_natCast, Int.reduceToNat, Int.reduceAdd, Int.reduceSub, Int.reduceMul, Int.reduceNeg, not_true_eq_false, not_false_eq_true] at q4 q5
    rw [if_pos ⟨⟨q, q2⟩, q3, by omega, by omega⟩] at h0
    obtain ⟨k, rfl, hk⟩ := isPc_of q
    obtain ⟨m, rfl, hm⟩ := isPc_of q2
    rw [Int.toNat_natCast, Int.toNat_natCast] at h0
    exact ok_shapeOf hC.1 hW hk (ri_some (ok_shapeOf hC.1 hW hm (ri_some (ok_leastPush (hW.S hk) (hW.S hm) (by omega) (ri_some h0)))))
  · simp (disch := omega) only [J_add, J_sub, J_mul, J_neg, J_bit, J_shl, J_shr, J_andn, J_and, J_or, J_xor, J_div, J_rem, J_lt, J_le, J_eq, J_lt0, J_le0, J_0le, J_0lt, J_eq0, vp_in_J, J_clamp, J_max, J_abs, Int.toNat_natCast, Int.reduceToNat, Int.reduceAdd, Int.reduceSub, Int.reduceMul, Int.reduceNeg, not_true_eq_false, not_false_eq_true] at q5; exact bad (by omega)
theorem c_strip {w n o t : Int} (hC : CR M S) (hO : OKS S) (hw : BI32 w) (hn : BI32 n) (ho : BI32 o) (ht : BI32 t) (h : ∀ M', CR M' S → MF M M' → Q (some (J (aStrip S w n o t))) M') : Mt (d + 12) mX4_strip [.ref 0, .int (J w), .int (J n), .int (J o), .int (J t)] M Q := by
  have hW := hO.1
  obtain ⟨hn1, hn2⟩ := hn
  obtain ⟨ho1, ho2⟩ := ho
  obtain ⟨ht1, ht2⟩ := ht
  unfold aStrip at h
  have bad : ¬ stripOK S.1 w n o t → Q (some (J (-1))) M := by
    intro q
    rw [if_neg (by rw [pb_t]; exact q)] at h
    exact h M hC MF.rf
  refine e_X4_strip ⟨fun q => ?_, fun q => ⟨fun q2 => ?_, fun q2 => ?_⟩⟩
  · simp (disch := omega) only [J_add, J_sub, J_mul, J_neg, J_bit, J_shl, J_shr, J_andn, J_and, J_or, J_xor, J_div, J_rem, J_lt, J_le, J_eq, J_lt0, J_le0, J_0le, J_0lt, J_eq0, vp_in_J, J_clamp, J_max, J_abs, Int.toNat_natCast, Int.reduceToNat, Int.reduceAdd, Int.reduceSub, Int.reduceMul, Int.reduceNeg, not_true_eq_false, not_false_eq_true] at q; exact bad (fun g => by have := g.2.1; omega)
  · simp (disch := omega) only [J_add, J_sub, J_mul, J_neg, J_bit, J_shl, J_shr, J_andn, J_and, J_or, J_xor, J_div, J_rem, J_lt, J_le, J_eq, J_lt0, J_le0, J_0le, J_0lt, J_eq0, vp_in_J, J_clamp, J_max, J_abs, Int.toNat_natCast, Int.reduceToNat, Int.reduceAdd, Int.reduceSub, Int.reduceMul, Int.reduceNeg, not_true_eq_false, not_false_eq_true] at q2; exact bad (fun g => by have := g.2.1; omega)
  · simp (disch := omega) only [J_add, J_sub, J_mul, J_neg, J_bit, J_shl, J_shr, J_andn, J_and, J_or, J_xor, J_div, J_rem, J_lt, J_le, J_eq, J_lt0, J_le0, J_0le, J_0lt, J_eq0, vp_in_J, J_clamp, J_max, J_abs, Int.toNat_natCast, Int.reduceToNat, Int.reduceAdd, Int.reduceSub, Int.reduceMul, Int.reduceNeg, not_true_eq_false, not_false_eq_true] at q q2
    obtain ⟨m, rfl⟩ := J_nat (show 0 ≤ n by omega)
    rw [J_mul, show (3 : Int) * (m : Int) = ((3 * m : Nat) : Int) by omega]
    refine ⟨fun q3 => bad (fun g => q3 ?_), fun q3 => ?_⟩
    · obtain ⟨k, hk⟩ := J_nat g.2.2.1.1
      have g3 := g.2.2.1.2
      rw [Int.toNat_natCast, hk, show (8 : Int) ^ m = ((8 ^ m : Nat) : Int) by rw [Int.natCast_pow]; rfl] at g3
      rw [hk, J_ushrN (by omega) (by omega), Nat.div_eq_of_lt (by rw [← pow8]; omega)]; rfl
    · have ho0 : 0 ≤ o := by
        apply Classical.byContradiction
        intro g
        exact ushr_neg ho1 (by omega) (show 3 * m ≤ 15 by omega) q3
      obtain ⟨k, rfl⟩ := J_nat ho0
      obtain ⟨qq, hqq⟩ : ∃ x, x = k / 2 ^ (3 * m) := ⟨_, rfl⟩
      have hqle : qq ≤ k := by rw [hqq]; exact Nat.div_le_self _ _
      rw [J_ushrN (by omega) (by omega), ← hqq, J_eq0 (by omega) (by omega)] at q3
      have hk8 : k < 8 ^ m := by
        rw [pow8]
        rcases Nat.lt_or_ge k (2 ^ (3 * m)) with r | r
        · exact r
        · have := Nat.div_pos r (Nat.two_pow_pos _); omega
      refine ⟨fun q4 => ?_, fun q4 => ⟨fun q5 => ?_, fun q5 => ?_⟩⟩
      · simp (disch := omega) only [J_add, J_sub, J_mul, J_neg, J_bit, J_shl, J_shr, J_andn, J_and, J_or, J_xor, J_div, J_rem, J_lt, J_le, J_eq, J_lt0, J_le0, J_0le, J_0lt, J_eq0, vp_in_J, J_clamp, J_max, J_abs, Int.toNat_natCast, Int.reduceToNat, Int.reduceAdd, Int.reduceSub, Int.reduceMul, Int.reduceNeg, not_true_eq_false, not_false_eq_true] at q4; exact bad (fun g => by have := g.2.2.2.1; omega)
      · simp (disch := omega) only [J_add, J_sub, J_mul, J_neg, J_bit, J_shl, J_shr, J_andn, J_and, J_or, J_xor, J_div, J_rem, J_lt, J_le, J_eq, J_lt0, J_le0, J_0le, J_0lt, J_eq0, vp_in_J, J_clamp, J_max, J_abs, Int.toNat_natCast, Int.reduceToNat, Int.reduceAdd, Int.reduceSub, Int.reduceMul, Int.reduceNeg, not_true_eq_false, not_false_eq_true] at q4 q5
        have hsl := setL_lt k m
        refine ok_setOf (by omega) (by omega) (ri_some (ok_bitCount (by omega) (ri_some ?_)))
        obtain ⟨hp1, hp2⟩ := setL_pc k m
        rw [pcR_small hsl, J_eq (by omega) (by omega) (by omega) (by omega)]
        refine ⟨fun q6 => bad (fun g => q6 ?_), fun q6 => ok_fits hC.1 hW hw.1 hw.2 (by omega) (ri_some ?_)⟩
        · have g5 := g.2.2.2.2
          rw [Int.toNat_natCast, Int.toNat_natCast] at g5
          rw [hp2.mpr (fun i hi j hj => (g5 i hi).2 j hj)]
        · have hdis := hp2.mp (by omega)
          rw [jb_ne, jb_eq0, pb_t, pb_f]
          refine ⟨fun q7 => ?_, fun q7 => bad (fun g => q7 ?_)⟩
          · obtain ⟨⟨w1, w2⟩, w3, w4⟩ := q7
            obtain ⟨v, rfl⟩ := J_nat (show 0 ≤ w by omega)
            have hall : ∀ i, i < m → plr k i < sN S.1 ∧ wideN (sS S.1 (plr k i)) ≤ v := by
              intro i hi
              have hb : (setL k m).testBit (plr k i) = true := (setL_bit k m _).mpr ⟨i, hi, rfl⟩
              refine ⟨?_, by have := w4 _ hb; omega⟩
              rcases Nat.lt_or_ge (plr k i) (sN S.1) with r | r
              · exact r
              · rw [Nat.testBit_lt_two_pow (Nat.lt_of_lt_of_le w3 (Nat.pow_le_pow_right (by omega) r))] at hb
                cases hb
            have hok : stripOK S.1 (v : Int) (m : Int) (k : Int) t := by
              refine ⟨⟨w1, w2⟩, ⟨by omega, by omega⟩, ⟨by omega, ?_⟩, ⟨by omega, by omega⟩, fun i hi => ?_⟩
              · rw [Int.toNat_natCast, show (8 : Int) ^ m = ((8 ^ m : Nat) : Int) by rw [Int.natCast_pow]; rfl]; omega
              · rw [Int.toNat_natCast] at hi ⊢
                exact ⟨⟨(hall i hi).1, by have := (hall i hi).2; omega⟩, fun j hj => hdis i hi j hj⟩
            rw [if_pos (by rw [pb_t]; exact hok), Int.toNat_natCast, Int.toNat_natCast, Int.toNat_natCast] at h
            refine ok_fill hC.1 hW (by omega) (by omega) (by omega) hall (fun M1 g1 g2 => ri_some ?_)
            have h1 := h M1 (hC.keep g2.EF) g2.MF
            rw [J_eq0 (by omega) (by omega)]
            refine ⟨fun q8 => e_X0_spotAt ?_, fun q8 => ?_⟩
            · rw [if_neg q8] at h1
              obtain ⟨u, hu⟩ := J_nat (show 0 ≤ t - 1 by omega)
              rw [J_sub, hu]
              refine ⟨fun c => ?_, fun _ => ⟨fun c => ⟨?_, ri_some ?_⟩, fun c => ?_⟩⟩
              · simp (disch := omega) only [J_add, J_sub, J_mul, J_neg, J_bit, J_shl, J_shr, J_andn, J_and, J_or, J_xor, J_div, J_rem, J_lt, J_le, J_eq, J_lt0, J_le0, J_0le, J_0lt, J_eq0, vp_in_J, J_clamp, J_max, J_abs, Int.toNat_natCast, Int.reduceToNat, Int.reduceAdd, Int.reduceSub, Int.reduceMul, Int.reduceNeg, not_true_eq_false, not_false_eq_true] at c; omega
              · exact vin (by omega) (by omega)
              · rw [nI2 (by omega), g1 u (by omega)]
                rw [show t.toNat - 1 = u by omega] at h1
                exact h1
              · simp (disch := omega) only [J_add, J_sub, J_mul, J_neg, J_bit, J_shl, J_shr, J_andn, J_and, J_or, J_xor, J_div, J_rem, J_lt, J_le, J_eq, J_lt0, J_le0, J_0le, J_0lt, J_eq0, vp_in_J, J_clamp, J_max, J_abs, Int.toNat_natCast, Int.reduceToNat, Int.reduceAdd, Int.reduceSub, Int.reduceMul, Int.reduceNeg, not_true_eq_false, not_false_eq_true] at c; omega
            · rw [if_pos q8] at h1; exact h1
          · obtain ⟨g1, g2, g3, g4, g5⟩ := g
            rw [Int.toNat_natCast, Int.toNat_natCast] at g5
            refine ⟨g1, ?_, fun p hp => ?_⟩
            · apply Nat.lt_pow_two_of_testBit
              intro i hi
              rw [← Bool.not_eq_true, setL_bit]
              rintro ⟨j, hj, e⟩
              have := (g5 j hj).1.1
              omega
            · obtain ⟨j, hj, e⟩ := (setL_bit k m p).mp hp
              have := (g5 j hj).1.2
              rw [e] at this; exact this
      · simp (disch := omega) only [J_add, J_sub, J_mul, J_neg, J_bit, J_shl, J_shr, J_andn, J_and, J_or, J_xor, J_div, J_rem, J_lt, J_le, J_eq, J_lt0, J_le0, J_0le, J_0lt, J_eq0, vp_in_J, J_clamp, J_max, J_abs, Int.toNat_natCast, Int.reduceToNat, Int.reduceAdd, Int.reduceSub, Int.reduceMul, Int.reduceNeg, not_true_eq_false, not_false_eq_true] at q5; exact bad (fun g => by have := g.2.2.2.1; omega)
theorem c_best {w s t : Int} (hC : CR M S) (hO : OKS S) (hw : BI32 w) (hs : BI32 s) (ht : BI32 t) (h : ∀ M', CR M' S → MF M M' → Q (some (J (aBest S w s t))) M') : Mt (d + 12) mX4_best [.ref 0, .int (J w), .int (J s), .int (J t)] M Q := by
  have hW := hO.1
  have hN := hW.N
  obtain ⟨hs1, hs2⟩ := hs
  obtain ⟨ht1, ht2⟩ := ht
  unfold aBest at h
  have h256 : 2 ^ sN S.1 ≤ 2 ^ 8 := Nat.pow_le_pow_right (by omega) hN
  have bad : ¬ bestOK S.1 w s t → Q (some (J (-1))) M := by
    intro q
    rw [if_neg (by rw [pb_t]; exact q)] at h
    exact h M hC MF.rf
  have e2 : ∀ x : Int, x < 2 ^ sN S.1 ↔ x < ((2 ^ sN S.1 : Nat) : Int) := fun x => by rw [Int.natCast_pow]; exact Iff.rfl
  refine e_X4_best ⟨fun q => ?_, fun q => ?_⟩
  · simp (disch := omega) only [J_add, J_sub, J_mul, J_neg, J_bit, J_shl, J_shr, J_andn, J_and, J_or, J_xor, J_div, J_rem, J_lt, J_le, J_eq, J_lt0, J_le0, J_0le, J_0lt, J_eq0, vp_in_J, J_clamp, J_max, J_abs, Int.toNat_natCast, Int.reduceToNat, Int.reduceAdd, Int.reduceSub, Int.reduceMul, Int.reduceNeg, not_true_eq_false, not_false_eq_true] at q; exact bad (fun g => by have := g.2.1.1; omega)
  · simp (disch := omega) only [J_add, J_sub, J_mul, J_neg, J_bit, J_shl, J_shr, J_andn, J_and, J_or, J_xor, J_div, J_rem, J_lt, J_le, J_eq, J_lt0, J_le0, J_0le, J_0lt, J_eq0, vp_in_J, J_clamp, J_max, J_abs, Int.toNat_natCast, Int.reduceToNat, Int.reduceAdd, Int.reduceSub, Int.reduceMul, Int.reduceNeg, not_true_eq_false, not_false_eq_true] at q
    obtain ⟨n, rfl⟩ := J_nat (show 0 ≤ s by omega)
    have rest : ∀ v : Int32, (v = J (pcR 8 n : Nat) ∨ 256 ≤ n) → (J 5 < v → pcR 8 n ≤ 5 → 256 ≤ n) → (n < 256 → ¬ J 5 < v → pcR 8 n ≤ 5) → ((J 5 < v → Q (some (J (-1))) M) ∧ (¬ J 5 < v → ((J t < 0 → Q (some (J (-1))) M) ∧ (¬ J t < 0 → ((J t ≤ J 1 → Mt (d + 11) mX0_fits [.ref 4, .int (J w), .int (J (n : Int))] M (ri fun v2 M2 => ((¬ v2 = 0 → Mt (d + 11) mX0_findBest [.ref 4, .int (J w), .int (J (n : Int))] M2 (rn fun M3 => ((¬ J t = 0 → Mt (d + 11) mX0_bestOrder [.ref 4] M3 (ri fun v3 M4 => Q (some v3) M4)) ∧ (J t = 0 → Mt (d + 11) mX0_bestHeight [.ref 4] M3 (ri fun v4 M5 => Q (some v4) M5))))) ∧ (v2 = 0 → Q (some (J (-1))) M2)))) ∧ (¬ J t ≤ J 1 → Q (some (J (-1))) M)))))) := by
      intro v hv hv2 hv3
      refine ⟨fun q2 => bad (fun g => ?_), fun q2 => ⟨fun q3 => ?_, fun q3 => ⟨fun q4 => ?_, fun q4 => ?_⟩⟩⟩
      · obtain ⟨g1, g2, g3, g4, g5⟩ := g
        rw [Int.toNat_natCast] at g3
        have := hv2 q2 g3
        rw [e2] at g2
        omega
      · simp (disch := omega) only [J_add, J_sub, J_mul, J_neg, J_bit, J_shl, J_shr, J_andn, J_and, J_or, J_xor, J_div, J_rem, J_lt, J_le, J_eq, J_lt0, J_le0, J_0le, J_0lt, J_eq0, vp_in_J, J_clamp, J_max, J_abs, Int.toNat_natCast, Int.reduceToNat, Int.reduceAdd, Int.reduceSub, Int.reduceMul, Int.reduceNeg, not_true_eq_false, not_false_eq_true] at q3; exact bad (fun g => by have := g.2.2.2.1; omega)
      · simp (disch := omega) only [J_add, J_sub, J_mul, J_neg, J_bit, J_shl, J_shr, J_andn, J_and, J_or, J_xor, J_div, J_rem, J_lt, J_le, J_eq, J_lt0, J_le0, J_0le, J_0lt, J_eq0, vp_in_J, J_clamp, J_max, J_abs, Int.toNat_natCast, Int.reduceToNat, Int.reduceAdd, Int.reduceSub, Int.reduceMul, Int.reduceNeg, not_true_eq_false, not_false_eq_true] at q3 q4
        refine ok_fits hC.1 hW hw.1 hw.2 (by omega) (ri_some ?_)
        rw [jb_ne, jb_eq0, pb_t, pb_f]
        refine ⟨fun q5 => ?_, fun q5 => bad (fun g => q5 ?_)⟩
        · obtain ⟨⟨w1, w2⟩, w3, w4⟩ := q5
          have hpc := hv3 (by omega) q2
          obtain ⟨u, rfl⟩ := J_nat (show 0 ≤ w by omega)
          have hok : bestOK S.1 (u : Int) (n : Int) t := ⟨⟨w1, w2⟩, ⟨by omega, by rw [e2]; omega⟩, by rw [Int.toNat_natCast]; exact hpc, ⟨by omega, by omega⟩, fun p hp => w4 p (by rw [Int.toNat_natCast] at hp; exact hp)⟩
          rw [if_pos (by rw [pb_t]; exact hok), Int.toNat_natCast, Int.toNat_natCast] at h
          have hbit : ∀ p, n.testBit p = true → p < sN S.1 ∧ wideN (sS S.1 p) ≤ u := by
            intro p hp
            refine ⟨?_, by have := w4 p hp; omega⟩
            rcases Nat.lt_or_ge p (sN S.1) with r | r
            · exact r
            · rw [Nat.testBit_lt_two_pow (Nat.lt_of_lt_of_le w3 (Nat.pow_le_pow_right (by omega) r))] at hp
              cases hp
          refine ok_findBest hC.1 hW (by omega) (by omega) hbit hpc (fun M1 g1 g2 g3 => rn_none ?_)
          have h1 := h M1 (hC.keep g1.EF) g1.MF
          rw [J_eq0 (by omega) (by omega)]
          refine ⟨fun q6 => e_X0_bestOrder (ri_some ?_), fun q6 => e_X0_bestHeight (ri_some ?_)⟩
          · rw [if_neg q6] at h1
            rw [g3]; exact h1
          · rw [if_pos q6] at h1
            rw [g2]; exact h1
        · obtain ⟨g1, g2, g3, g4, g5⟩ := g
          rw [e2] at g2
          rw [Int.toNat_natCast] at g5
          exact ⟨g1, by omega, g5⟩
      · simp (disch := omega) only [J_add, J_sub, J_mul, J_neg, J_bit, J_shl, J_shr, J_andn, J_and, J_or, J_xor, J_div, J_rem, J_lt, J_le, J_eq, J_lt0, J_le0, J_0le, J_0lt, J_eq0, vp_in_J, J_clamp, J_max, J_abs, Int.toNat_natCast, Int.reduceToNat, Int.reduceAdd, Int.reduceSub, Int.reduceMul, Int.reduceNeg, not_true_eq_false, not_false_eq_true] at q4; exact bad (fun g => by have := g.2.2.2.1; omega)
    by_cases hn : n < 256
    · have hp8 := pcR8_le n hn
      refine ok_bitCount (by omega) (ri_some ?_)
      rw [pcR_small hn]
      refine rest _ (Or.inl rfl) (fun g g2 => ?_) (fun _ g => ?_)
      · simp (disch := omega) only [J_add, J_sub, J_mul, J_neg, J_bit, J_shl, J_shr, J_andn, J_and, J_or, J_xor, J_div, J_rem, J_lt, J_le, J_eq, J_lt0, J_le0, J_0le, J_0lt, J_eq0, vp_in_J, J_clamp, J_max, J_abs, Int.toNat_natCast, Int.reduceToNat, Int.reduceAdd, Int.reduceSub, Int.reduceMul, Int.reduceNeg, not_true_eq_false, not_false_eq_true] at g; omega
      · simp (disch := omega) only [J_add, J_sub, J_mul, J_neg, J_bit, J_shl, J_shr, J_andn, J_and, J_or, J_xor, J_div, J_rem, J_lt, J_le, J_eq, J_lt0, J_le0, J_0le, J_0lt, J_eq0, vp_in_J, J_clamp, J_max, J_abs, Int.toNat_natCast, Int.reduceToNat, Int.reduceAdd, Int.reduceSub, Int.reduceMul, Int.reduceNeg, not_true_eq_false, not_false_eq_true] at g; omega
    · exact e_J6_bitCount_0f7a4 (ri_some (rest _ (Or.inr (by omega)) (fun _ _ => by omega) (fun g => absurd g hn)))
end PAPI
