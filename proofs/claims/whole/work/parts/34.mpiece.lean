/-! the reference: a new piece; and how its shape lies -/
theorem shr_bit {t c : Nat} : (t / 2).testBit c = t.testBit (c + 1) := by rw [Nat.testBit_succ]
theorem low32 {t : Nat} (h : t % 32 ≠ 0) : ∃ c, c < 5 ∧ t.testBit c = true := by
  apply Classical.byContradiction
  intro g
  apply h
  rw [show 32 = 2 ^ 5 from rfl]
  apply Nat.eq_of_testBit_eq
  intro i
  rw [Nat.zero_testBit, Nat.testBit_mod_two_pow, ← Bool.not_eq_true, Bool.and_eq_true, decide_eq_true_iff]
  exact fun q => g ⟨i, q.1, q.2⟩
theorem mask_0 {t : Nat} (h : t &&& 1082401 = 0) : t.testBit 0 = false := by
  rw [or_eq0] at h
  rw [← Bool.not_eq_true]
  exact fun q => h 0 q (by decide +kernel)
theorem mask_1 {t : Nat} (h : t &&& 1082401 ≠ 0) : ∃ r, r < 5 ∧ t.testBit (5 * r) = true := by
  rw [and_ne0] at h
  obtain ⟨i, h1, h2⟩ := h
  have hb : ∀ i, i < 21 → Nat.testBit 1082401 i = true → i % 5 = 0 := by decide +kernel
  have hi : i < 21 := by
    rcases Nat.lt_or_ge i 21 with r | r
    · exact r
    · rw [Nat.testBit_lt_two_pow (Nat.lt_of_lt_of_le (show 1082401 < 2 ^ 21 by decide) (Nat.pow_le_pow_right (by omega) r))] at h2
      cases h2
  refine ⟨i / 5, by omega, ?_⟩
  rw [show 5 * (i / 5) = i by have := hb i hi h2; omega]
  exact h1
theorem csN_ok : ∀ k t : Nat, t < 33554432 → k < 5 → (∃ c, c ≤ k ∧ t.testBit c = true) → ShOK (csN k t) := by
  intro k
  induction k with
  | zero =>
    intro t ht _ hc
    obtain ⟨c, h1, h2⟩ := hc
    have : c = 0 := by omega
    subst this
    exact ⟨ht, ⟨0, by omega, h2⟩, ⟨0, by omega, h2⟩⟩
  | succ k ih =>
    intro t ht hk hc
    obtain ⟨c, h1, h2⟩ := hc
    rw [csN]
    split
    · next q =>
      have h0 := mask_0 q
      refine ih (t / 2) (by omega) (by omega) ⟨c - 1, by omega, ?_⟩
      have : c ≠ 0 := fun e => by rw [e, h0] at h2; cases h2
      rw [shr_bit, show c - 1 + 1 = c by omega]; exact h2
    · next q => exact ⟨ht, ⟨c, by omega, h2⟩, mask_1 q⟩
theorem crn_ok {s : Nat} (h0 : 0 < s) (hs : s < 33554432) : ShOK (crn s) := by
  unfold crn
  obtain ⟨c, h1, h2⟩ := low32 (rsN_ok 4 s h0 (by omega))
  exact csN_ok 4 _ (Nat.lt_of_le_of_lt (rsN_le 4 s) hs) (by omega) ⟨c, by omega, h2⟩
section MPI
variable {d : Nat} {M : Mem} {Q : Post} {S : SS}
theorem mx_b5 (s : Nat) : ∀ k, mx (fun k => if s.testBit k = true then k / 5 + 1 else 0) k ≤ (k + 4) / 5 := by
  intro k
  induction k with
  | zero => exact Nat.zero_le _
  | succ k ih =>
    rw [mx]
    have : (if s.testBit k = true then k / 5 + 1 else 0) ≤ k / 5 + 1 := by split <;> omega
    omega
theorem m_piece {z : Int} (hC : MR M S) (hO : OKS S) (hz : BI32 z) (h : ∀ M', MR M' (aPiece S z).2 → NF M M' → Q (some (J (aPiece S z).1)) M') : Mt (d + 12) mX5_piece [.ref 18, .int (J z)] M Q := by
  have hW := hO.1
  have hN := hW.N
  have hT := hC.1
  have bad : ¬ (1 ≤ z ∧ z ≤ 33554431) → Q (some (J (-1))) M := by
    intro q
    unfold aPiece at h
    rw [if_neg q] at h
    exact h M hC NF.rf
  refine e_X5_piece (r_in hz (b32 (by omega) (by omega)) (b32 (by omega) (by omega)) (ri_some ?_))
  rw [jb_ne, jb_eq0]
  refine ⟨fun q => ?_, fun q => bad (of_decide_eq_false q)⟩
  have hzz := of_decide_eq_true q
  obtain ⟨n, rfl⟩ := J_nat (show 0 ≤ z by omega)
  unfold aPiece at h
  rw [if_pos hzz, Int.toNat_natCast] at h
  rw [hT.2.2.1, J_eq (by omega) (by omega) (by omega) (by omega)]
  refine ⟨fun q2 => ?_, fun q2 => ?_⟩
  · rw [if_pos (by omega)] at h
    obtain ⟨s, hsd⟩ : ∃ s, crn n = s := ⟨_, rfl⟩
    have hsh : ShOK s := by rw [← hsd]; exact crn_ok (by omega) (by omega)
    have hs := hsh.1
    rw [hsd] at h
    have hwd := hsh.wide
    have fin : ∀ M1 : Mem, M1 = mset M 20 (sN S.1) (J (s : Int)) → R none (d + 12) mX5_piece 72 [.ref 18, .null, .int (J (s : Int)), .int (J 1), .int (J 1), .int (J 0)] [] M1 Q := by
      intro M1 hM1
      have h183 : M1 18 3 = J (sN S.1 : Int) := by rw [hM1, mset_o (by decide)]; exact hT.2.2.1
      have key : ∀ f k : Nat, k + f = 25 → R none (d + 12) mX5_piece 72 [.ref 18, .null, .int (J (s : Int)), .int (J ((max 1 (mx (fun k => if s.testBit k = true then k % 5 + 1 else 0) k) : Nat) : Int)), .int (J ((max 1 (mx (fun k => if s.testBit k = true then k / 5 + 1 else 0) k) : Nat) : Int)), .int (J (k : Int))] [] M1 Q := by
        intro f
        induction f with
        | zero =>
          intro k hk
          have hk25 : k = 25 := by omega
          subst hk25
          rw [show max 1 (mx (fun k => if s.testBit k = true then k % 5 + 1 else 0) 25) = wideN s from Nat.max_eq_right hwd.1, show max 1 (mx (fun k => if s.testBit k = true then k / 5 + 1 else 0) 25) = tallN s from Nat.max_eq_right hwd.2]
          refine b_X5_piece_72 ⟨fun _ => ?_, fun c => ?_⟩
          · rw [h183, nI2 (by omega)]
            have e1 : mset M1 21 (sN S.1) (J (wideN s : Int)) 18 3 = J (sN S.1 : Int) := by rw [mset_o (by decide)]; exact h183
            rw [e1, nI2 (by omega)]
            have e2 : mset (mset M1 21 (sN S.1) (J (wideN s : Int))) 22 (sN S.1) (J (tallN s : Int)) 18 3 = J (sN S.1 : Int) := by rw [mset_o (by decide)]; exact e1
            rw [e2, nI2 (by omega)]
            have e3 : mset (mset (mset M1 21 (sN S.1) (J (wideN s : Int))) 22 (sN S.1) (J (tallN s : Int))) 23 (sN S.1) (J 0) 18 3 = J (sN S.1 : Int) := by rw [mset_o (by decide)]; exact e2
            rw [e3, mset_self, J_suc, J_sub, show ((sN S.1 + 1 : Nat) : Int) - 1 = (sN S.1 : Int) by omega]
            have hv := vin (n := sN S.1) (N := 8) (by omega) (by omega)
            refine ⟨hv, hv, hv, ?_⟩
            obtain ⟨t1, t2, t3, t4, t5, t6, t7⟩ := hT
            have oth' : ∀ a j, a < 20 → (a ≠ 18 ∨ j ≠ 3) → mset (mset (mset (mset M1 21 (sN S.1) (J (wideN s : Int))) 22 (sN S.1) (J (tallN s : Int))) 23 (sN S.1) (J 0)) 18 3 (J ((sN S.1 + 1 : Nat) : Int)) a j = M a j := by
              intro a j ha h2
              have hb : mset (mset (mset M1 21 (sN S.1) (J (wideN s : Int))) 22 (sN S.1) (J (tallN s : Int))) 23 (sN S.1) (J 0) a j = M a j := by
                rw [mset_o (by omega), mset_o (by omega), mset_o (by omega), hM1, mset_o (by omega)]
              rcases h2 with h2 | h2
              · rw [mset_o h2]; exact hb
              · rw [mset_k h2]; exact hb
            refine h _ ⟨⟨?_, ?_, mset_self, fun i hi => ?_, fun p hp => ?_, fun p hp => ?_, fun p hp => ?_⟩, MS.keep hC.2 ?_ (fun j => ?_)⟩ (fun a j ha => oth' a j (by omega) (Or.inl (by omega)))
            · rw [oth' 18 0 (by decide) (by decide)]; exact t1
            · rw [oth' 18 1 (by decide) (by decide)]; exact t2
            · rw [oth' 19 i (by decide) (Or.inl (by decide))]; exact t4 i hi
            · have hp2 : p < sN S.1 + 1 := hp
              show _ = J ((upF (sS S.1) (sN S.1) s p : Nat) : Int) ∧ _ = J ((wideN (upF (sS S.1) (sN S.1) s p) : Nat) : Int) ∧ _ = J ((tallN (upF (sS S.1) (sN S.1) s p) : Nat) : Int)
              refine ⟨?_, ?_, ?_⟩
              · rw [mset_o (by decide), mset_o (by decide), mset_o (by decide), mset_o (by decide), hM1]
                by_cases e : p = sN S.1
                · subst e; rw [upF_s, mset_self]
                · rw [upF_n e, mset_k e]; exact (t5 p (by omega)).1
              · rw [mset_o (by decide), mset_o (by decide), mset_o (by decide), hM1]
                by_cases e : p = sN S.1
                · subst e; rw [upF_s, mset_self]
                · rw [upF_n e, mset_k e, mset_o (by decide)]; exact (t5 p (by omega)).2.1
              · rw [mset_o (by decide), mset_o (by decide), hM1]
                by_cases e : p = sN S.1
                · subst e; rw [upF_s, mset_self]
                · rw [upF_n e, mset_k e, mset_o (by decide), mset_o (by decide)]; exact (t5 p (by omega)).2.2
            · rw [mset_o (by decide)]
              by_cases e : p = sN S.1
              · subst e
                rw [mset_self]
                show J 0 = jb ((sL S.1).testBit (sN S.1))
                rw [Nat.testBit_lt_two_pow hW.2.2.2.2.2.2.1]; rfl
              · rw [mset_k e, mset_o (by decide), mset_o (by decide), hM1, mset_o (by decide)]; exact t6 p hp
            · rw [mset_o (by decide), mset_o (by decide), mset_o (by decide), mset_o (by decide), mset_o (by decide), mset_o (by decide), mset_o (by decide), mset_o (by decide), hM1, mset_o (by decide), mset_o (by decide)]
              exact t7 p hp
            · exact oth' 18 10 (by decide) (by decide)
            · rw [mset_o (by decide), mset_o (by decide), mset_o (by decide), mset_o (by decide), hM1, mset_o (by decide)]
          · simp (disch := omega) only [J_add, J_sub, J_mul, J_neg, J_bit, J_shl, J_shr, J_andn, J_and, J_or, J_xor, J_div, J_rem, J_lt, J_le, J_eq, J_lt0, J_le0, J_0le, J_0lt, J_eq0, vp_in_J, J_clamp, J_max, J_abs, Int.toNat_natCast, Int.reduceToNat, Int.reduceAdd, Int.reduceSub, Int.reduceMul, Int.reduceNeg, not_true_eq_false, not_false_eq_true] at c; omega
        | succ f ih =>
          intro k hk
          have ih2 := ih (k + 1) (by omega)
          rw [mx, mx] at ih2
          have hb5 := mx_b5 s k
          refine b_X5_piece_72 ⟨fun c => ?_, fun _ => ?_⟩
          · simp (disch := omega) only [J_add, J_sub, J_mul, J_neg, J_bit, J_shl, J_shr, J_andn, J_and, J_or, J_xor, J_div, J_rem, J_lt, J_le, J_eq, J_lt0, J_le0, J_0le, J_0lt, J_eq0, vp_in_J, J_clamp, J_max, J_abs, Int.toNat_natCast, Int.reduceToNat, Int.reduceAdd, Int.reduceSub, Int.reduceMul, Int.reduceNeg, not_true_eq_false, not_false_eq_true] at c; omega
          · rw [J_tb (by omega) (by omega), jb_eq1, J_m5 (by omega), J_d5 (by omega), J_suc, J_suc, J_suc]
            have hmb : mx (fun k => if s.testBit k = true then k % 5 + 1 else 0) k ≤ 5 := by
              rcases mx_at (fun k => if s.testBit k = true then k % 5 + 1 else 0) k with e | ⟨j, j1, j2⟩
              · omega
              · rw [j2]; split <;> omega
            refine ⟨fun c => ?_, fun c => ?_⟩
            · rw [if_neg c, if_neg c, Nat.max_eq_left (Nat.zero_le _), Nat.max_eq_left (Nat.zero_le _)] at ih2
              exact ih2
            · rw [if_pos c, if_pos c] at ih2
              generalize mx (fun k => if s.testBit k = true then k % 5 + 1 else 0) k = a at *
              generalize mx (fun k => if s.testBit k = true then k / 5 + 1 else 0) k = b at *
              rw [show max 1 (max b (k / 5 + 1)) = k / 5 + 1 by omega] at ih2
              refine ⟨fun c2 => ?_, fun c2 => ?_⟩
              · simp (disch := omega) only [J_add, J_sub, J_mul, J_neg, J_bit, J_shl, J_shr, J_andn, J_and, J_or, J_xor, J_div, J_rem, J_lt, J_le, J_eq, J_lt0, J_le0, J_0le, J_0lt, J_eq0, vp_in_J, J_clamp, J_max, J_abs, Int.toNat_natCast, Int.reduceToNat, Int.reduceAdd, Int.reduceSub, Int.reduceMul, Int.reduceNeg, not_true_eq_false, not_false_eq_true] at c2
                rw [show max 1 (max a (k % 5 + 1)) = max 1 a by omega] at ih2
                exact ih2
              · simp (disch := omega) only [J_add, J_sub, J_mul, J_neg, J_bit, J_shl, J_shr, J_andn, J_and, J_or, J_xor, J_div, J_rem, J_lt, J_le, J_eq, J_lt0, J_le0, J_0le, J_0lt, J_eq0, vp_in_J, J_clamp, J_max, J_abs, Int.toNat_natCast, Int.reduceToNat, Int.reduceAdd, Int.reduceSub, Int.reduceMul, Int.reduceNeg, not_true_eq_false, not_false_eq_true] at c2
                rw [show max 1 (max a (k % 5 + 1)) = k % 5 + 1 by omega] at ih2
                exact ih2
      exact key 25 0 (by omega)
    have key2 : ∀ k t : Nat, t < 33554432 → csN k t = s → k < 5 → (∃ c, c ≤ k ∧ t.testBit c = true) → R none (d + 12) mX5_piece 40 [.ref 18, .null, .int (J (t : Int)), .null, .null, .null] [] M Q := by
      intro k
      induction k with
      | zero =>
        intro t ht he _ hc
        obtain ⟨c, h1, h2⟩ := hc
        have hc0 : c = 0 := by omega
        subst hc0
        have hle : t &&& 1082401 ≤ t := Nat.and_le_left
        refine b_X5_piece_40 ?_
        rw [show J 1082401 = J ((1082401 : Nat) : Int) from rfl, J_andN, J_eq0 (by omega) (by omega), hT.2.2.1, nI2 (by omega)]
        refine ⟨fun _ => ⟨vin (by omega) (by omega), ?_⟩, fun c => ?_⟩
        · rw [show t = s from he]
          exact fin _ rfl
        · rw [mask_0 (by omega)] at h2
          cases h2
      | succ k ih =>
        intro t ht he hk hc
        obtain ⟨c, h1, h2⟩ := hc
        have hle : t &&& 1082401 ≤ t := Nat.and_le_left
        rw [csN] at he
        refine b_X5_piece_40 ?_
        rw [show J 1082401 = J ((1082401 : Nat) : Int) from rfl, J_andN, J_eq0 (by omega) (by omega), hT.2.2.1, nI2 (by omega), show J 1 = J ((1 : Nat) : Int) from rfl, J_shrN (by omega) (by omega)]
        refine ⟨fun c2 => ⟨vin (by omega) (by omega), ?_⟩, fun c2 => ?_⟩
        · rw [if_neg (by omega)] at he
          rw [he]
          exact fin _ rfl
        · rw [if_pos (by omega)] at he
          have h0 := mask_0 (t := t) (by omega)
          refine ih (t / 2 ^ 1) (by omega) he (by omega) ⟨c - 1, by omega, ?_⟩
          have : c ≠ 0 := fun e => by rw [e, h0] at h2; cases h2
          rw [Nat.pow_one, shr_bit, show c - 1 + 1 = c by omega]; exact h2
    have key1 : ∀ k t : Nat, t < 33554432 → 0 < t → t < 32 ^ (k + 1) → csN 4 (rsN k t) = s → R none (d + 12) mX5_piece 26 [.ref 18, .null, .int (J (t : Int)), .null, .null, .null] [] M Q := by
      intro k
      induction k with
      | zero =>
        intro t ht h0 hlt he
        have ht32 : t < 32 := by simpa using hlt
        refine b_X5_piece_26 ?_
        rw [show J 31 = J ((31 : Nat) : Int) from rfl, J_andN, and31, J_eq0 (by omega) (by omega)]
        refine ⟨fun c => ?_, fun c => by omega⟩
        obtain ⟨c', g1, g2⟩ := low32 (t := t) (by omega)
        exact key2 4 t ht he (by omega) ⟨c', by omega, g2⟩
      | succ k ih =>
        intro t ht h0 hlt he
        rw [rsN] at he
        refine b_X5_piece_26 ?_
        rw [show J 31 = J ((31 : Nat) : Int) from rfl, J_andN, and31, J_eq0 (by omega) (by omega), show J 5 = J ((5 : Nat) : Int) from rfl, J_shrN (by omega) (by omega)]
        refine ⟨fun c => ?_, fun c => ?_⟩
        · rw [if_neg (by omega)] at he
          obtain ⟨c', g1, g2⟩ := low32 (t := t) (by omega)
          exact key2 4 t ht he (by omega) ⟨c', by omega, g2⟩
        · rw [if_pos (by omega)] at he
          refine ih (t / 2 ^ 5) (by omega) (by omega) ?_ he
          rw [show 2 ^ 5 = 32 from rfl, Nat.div_lt_iff_lt_mul (by omega)]
          rw [Nat.pow_succ] at hlt
          exact hlt
    exact key1 4 n (by omega) (by omega) (by omega) hsd
  · rw [if_neg (by omega)] at h
    exact h M hC NF.rf
end MPI
