theorem foldl_le {f : (Nat × Nat) → Nat → (Nat × Nat)} (h : ∀ b p, (f b p).1 ≤ b.1) : ∀ (l : List Nat) (b : Nat × Nat), (l.foldl f b).1 ≤ b.1 := by
  intro l
  induction l with
  | nil => intro b; exact Nat.le_refl _
  | cons p l ih => intro b; rw [List.foldl_cons]; exact Nat.le_trans (ih _) (h b p)
theorem dfs_le (σ : St) (w : Nat) : ∀ (f : Nat) (q : (Nat → Nat) × Nat) (left dep ord : Nat) (b : Nat × Nat), (dfs σ w f q left dep ord b).1 ≤ b.1 := by
  intro f
  induction f with
  | zero => intro q left dep ord b; exact Nat.le_refl _
  | succ f ih =>
    intro q left dep ord b
    rw [dfs]
    split
    · exact Nat.le_refl _
    · next h =>
      split
      · show q.2 ≤ b.1; omega
      · apply foldl_le
        intro b p
        split
        · exact ih _ _ _ _ _
        · exact Nat.le_refl _
theorem pc_wo : ∀ left, left < 256 → ∀ j, j < 8 → Nat.testBit left j = true → pcR 8 (wo left (2 ^ j)) + 1 = pcR 8 left := by decide +kernel
theorem pc_pos : ∀ left, left < 256 → left ≠ 0 → 1 ≤ pcR 8 left := by decide +kernel
noncomputable def dst (σ : St) (w f : Nat) (q : (Nat → Nat) × Nat) (left dep ord : Nat) (b : Nat × Nat) (p : Nat) : Nat × Nat := if left.testBit p = true then dfs σ w f (pG σ w q p) (wo left (2 ^ p)) (dep + 1) (ord ||| p * 8 ^ dep) b else b
theorem dfs_succ (σ : St) (w f : Nat) (q : (Nat → Nat) × Nat) (left dep ord : Nat) (b : Nat × Nat) : dfs σ w (f + 1) q left dep ord b = if b.1 ≤ q.2 then b else if left = 0 then (q.2, ord) else (List.range 8).foldl (dst σ w f q left dep ord) b := rfl
theorem dst_le (σ : St) (w f : Nat) (q : (Nat → Nat) × Nat) (left dep ord : Nat) (b : Nat × Nat) (p : Nat) : (dst σ w f q left dep ord b p).1 ≤ b.1 := by
  unfold dst
  split
  · exact dfs_le _ _ _ _ _ _ _ _
  · exact Nat.le_refl _
theorem pow8 (n : Nat) : 8 ^ n = 2 ^ (3 * n) := by rw [Nat.pow_mul]
theorem ord_lt {ord j dep : Nat} (h : ord < 8 ^ dep) (hj : j < 8) : (ord ||| j * 8 ^ dep) < 8 ^ (dep + 1) := by
  rw [pow8 (dep + 1)]
  have h1 : 8 ^ (dep + 1) = 2 ^ (3 * (dep + 1)) := pow8 _
  have h2 : 8 ^ (dep + 1) = 8 ^ dep * 8 := Nat.pow_succ ..
  apply Nat.or_lt_two_pow
  · rw [← h1]; omega
  · rw [← h1, h2, Nat.mul_comm]
    exact Nat.mul_lt_mul_of_pos_left hj (Nat.pow_pos (by omega))
section SEARCH
variable {σ : St}
/-- what search leaves: the strip as it was, the best so far -/
theorem ok_search {w : Nat} (hW : WF σ) (hw : w ≤ 12) : ∀ (f : Nat) (d : Nat) (M : Mem) (Q : Post) (q : (Nat → Nat) × Nat) (left dep ord : Nat) (b : Nat × Nat), TR M σ → GM M q.1 → M 4 3 = J (w : Int) → M 4 4 = J (b.1 : Int) → M 4 5 = J (b.2 : Int) →
    b.1 ≤ 26 → dep + f = 6 → left < 256 → (∀ p, left.testBit p = true → p < sN σ ∧ wideN (sS σ p) ≤ w) → pcR 8 left + dep ≤ 5 → emptyFrom q.1 (5 * dep) → q.2 ≤ 5 * dep → ord < 8 ^ dep →
    (∀ M', GM M' q.1 → M' 4 3 = J (w : Int) → M' 4 4 = J ((dfs σ w f q left dep ord b).1 : Nat) → M' 4 5 = J ((dfs σ w f q left dep ord b).2 : Nat) → LF M M' → Q none M') →
    Mt (d + f + 4) mX0_search [.ref 4, .int (J (left : Int)), .int (J (dep : Int)), .int (J (ord : Int)), .int (J (q.2 : Int))] M Q := by
  intro f
  induction f with
  | zero =>
    intro d M Q q left dep ord b hT hG h43 h44 h45 hb hdf hl hlp hpc hE hq ho h
    omega
  | succ f ih =>
    intro d M Q q left dep ord b hT hG h43 h44 h45 hb hdf hl hlp hpc hE hq ho h
    rw [dfs_succ] at h
    show Mt ((d + f + 4) + 1) mX0_search _ M Q
    have hN := hW.N
    have ho5 : ord < 32768 := Nat.lt_of_lt_of_le ho (Nat.le_trans (Nat.pow_le_pow_right (by omega) (show dep ≤ 5 by omega)) (by decide))
    refine e_X0_search ?_
    rw [h44]
    refine ⟨fun c => ?_, fun c => ⟨fun _ => ⟨fun c2 => ?_, fun c2 => ?_⟩, fun c2 => ?_⟩⟩
    · simp (disch := omega) only [J_add, J_sub, J_mul, J_neg, J_bit, J_shl, J_shr, J_andn, J_and, J_or, J_xor, J_div, J_rem, J_lt, J_le, J_eq, J_lt0, J_le0, J_0le, J_0lt, J_eq0, vp_in_J, J_clamp, J_max, J_abs, Int.toNat_natCast, Int.reduceToNat, Int.reduceAdd, Int.reduceSub, Int.reduceMul, Int.reduceNeg, not_true_eq_false, not_false_eq_true] at c
      rw [if_pos (by omega)] at h
      exact h M hG h43 h44 h45 (fun _ _ _ _ _ => rfl)
    · simp (disch := omega) only [J_add, J_sub, J_mul, J_neg, J_bit, J_shl, J_shr, J_andn, J_and, J_or, J_xor, J_div, J_rem, J_lt, J_le, J_eq, J_lt0, J_le0, J_0le, J_0lt, J_eq0, vp_in_J, J_clamp, J_max, J_abs, Int.toNat_natCast, Int.reduceToNat, Int.reduceAdd, Int.reduceSub, Int.reduceMul, Int.reduceNeg, not_true_eq_false, not_false_eq_true] at c c2
      rw [if_neg (by omega), if_neg (by omega)] at h
      have hdep : dep ≤ 4 := by
        have := pc_pos left hl (by omega)
        omega
      have key : ∀ k j : Nat, j + k = 8 → ∀ (M1 : Mem) (b1 : Nat × Nat), b1.1 ≤ 26 → GM M1 q.1 → M1 4 3 = J (w : Int) → M1 4 4 = J (b1.1 : Int) → M1 4 5 = J (b1.2 : Int) → LF M M1 → (List.range' j k).foldl (dst σ w f q left dep ord) b1 = (List.range 8).foldl (dst σ w f q left dep ord) b → R none ((d + f + 4) + 1) mX0_search 34 [.ref 4, .int (J (left : Int)), .int (J (dep : Int)), .int (J (ord : Int)), .int (J (q.2 : Int)), .int (J (j : Int)), .null, .null, .null] [] M1 Q := by
        intro k
        induction k with
        | zero =>
          intro j hj M1 b1 hb1 f1 f2 f3 f4 f5 hfold
          refine b_X0_search_34 ⟨fun _ => ?_, fun r => ?_⟩
          · have : b1 = (List.range 8).foldl (dst σ w f q left dep ord) b := hfold
            rw [← this] at h
            exact h M1 f1 f2 f3 f4 f5
          · simp (disch := omega) only [J_add, J_sub, J_mul, J_neg, J_bit, J_shl, J_shr, J_andn, J_and, J_or, J_xor, J_div, J_rem, J_lt, J_le, J_eq, J_lt0, J_le0, J_0le, J_0lt, J_eq0, vp_in_J, J_clamp, J_max, J_abs, Int.toNat_natCast, Int.reduceToNat, Int.reduceAdd, Int.reduceSub, Int.reduceMul, Int.reduceNeg, not_true_eq_false, not_false_eq_true] at r; omega
        | succ k ihk =>
          intro j hj M1 b1 hb1 f1 f2 f3 f4 f5 hfold
          rw [List.range'_succ, List.foldl_cons] at hfold
          have hT1 : TR M1 σ := hT.keep ⟨fun k => f5 1 k (by decide) (by decide) (by decide), fun a i h1 h2 => f5 a i (by omega) (by omega) (by omega)⟩
          refine b_X0_search_34 ⟨fun r => ?_, fun _ => ok_isIn (by omega) (by omega) (ri_some ?_)⟩
          · simp (disch := omega) only [J_add, J_sub, J_mul, J_neg, J_bit, J_shl, J_shr, J_andn, J_and, J_or, J_xor, J_div, J_rem, J_lt, J_le, J_eq, J_lt0, J_le0, J_0le, J_0lt, J_eq0, vp_in_J, J_clamp, J_max, J_abs, Int.toNat_natCast, Int.reduceToNat, Int.reduceAdd, Int.reduceSub, Int.reduceMul, Int.reduceNeg, not_true_eq_false, not_false_eq_true] at r; omega
          · rw [jb_eq0, J_suc]
            refine ⟨fun r => ?_, fun r => ?_⟩
            · rw [show dst σ w f q left dep ord b1 j = b1 by unfold dst; rw [if_neg (by rw [r]; decide)]] at hfold
              exact ihk (j + 1) (by omega) M1 b1 hb1 f1 f2 f3 f4 f5 hfold
            · rw [Bool.not_eq_false] at r
              obtain ⟨hjN, hjw⟩ := hlp j r
              have hs := hW.S hjN
              obtain ⟨p1, p2, p3, p4, p5⟩ := spot_spec (s := sS σ j) hE (by omega) hw
              have hcl : colsW w (sS σ j) ≤ 13 := by unfold colsW; omega
              have htl := tallN_le (sS σ j)
              obtain ⟨e1, e2⟩ := pG_ok (σ := σ) (w := w) (p := j) hE hq hdep hw
              have hdl := dfs_le σ w f (pG σ w q j) (wo left (2 ^ j)) (dep + 1) (ord ||| j * 8 ^ dep) b1
              refine ok_shapeOf hT1 hW hjN (ri_some (ok_spotFor f1 f2 hE (by omega) hs hw hjw (ri_some (ok_rowsOf hs (ri_some (ok_toggle f1 hs (by omega) (by omega) (fun M2 t1 t2 => rn_none ?_)))))))
              rw [xorG_or p1] at t1
              have hT2 : TR M2 σ := hT1.keep ⟨fun k => t2 1 k (by decide), fun a i h1 h2 => t2 a i (by omega)⟩
              rw [J_wo1 (by omega) (by omega), J_suc, J_mul, show (3 : Int) * (dep : Int) = ((3 * dep : Nat) : Int) by omega, J_shlN (by omega), J_orN, show J 100 = J ((100 : Nat) : Int) from rfl, J_quo (by omega) (by omega) (by omega), show (100 * spY q.1 (sS σ j) w + spX q.1 (sS σ j) w) / 100 = spY q.1 (sS σ j) w by omega, J_addN, J_max (by omega) (by omega) (by omega) (by omega), show max (q.2 : Int) ((spY q.1 (sS σ j) w + tallN (sS σ j) : Nat) : Int) = (((pG σ w q j).2 : Nat) : Int) by unfold pG; dsimp only; omega, ← pow8]
              have hpcw := pc_wo left hl j (by omega) r
              refine ih d M2 _ (pG σ w q j) (wo left (2 ^ j)) (dep + 1) (ord ||| j * 8 ^ dep) b1 hT2 t1 (by rw [t2 4 3 (by decide)]; exact f2) (by rw [t2 4 4 (by decide)]; exact f3) (by rw [t2 4 5 (by decide)]; exact f4) hb1 (by omega) (Nat.lt_of_le_of_lt (wo_le _ _) hl) (fun p hp => ?_) (by omega) e1 e2 (ord_lt ho (by omega)) (fun M3 s1 s2 s3 s4 s5 => rn_none ?_)
              · rw [wo_bit, Bool.and_eq_true] at hp
                exact hlp p hp.1
              · refine ok_toggle s1 hs (by omega) (by omega) (fun M4 u1 u2 => rn_none ?_)
                rw [show xorG (pG σ w q j).1 (sS σ j) (spX q.1 (sS σ j) w) (spY q.1 (sS σ j) w) = q.1 by
                  show xorG (orG q.1 (sS σ j) (spX q.1 (sS σ j) w) (spY q.1 (sS σ j) w)) _ _ _ = _
                  rw [← xorG_or p1, xorG_xorG]] at u1
                rw [show dst σ w f q left dep ord b1 j = dfs σ w f (pG σ w q j) (wo left (2 ^ j)) (dep + 1) (ord ||| j * 8 ^ dep) b1 by unfold dst; rw [if_pos r]] at hfold
                exact ihk (j + 1) (by omega) M4 _ (by omega) u1 (by rw [u2 4 3 (by decide)]; exact s2) (by rw [u2 4 4 (by decide)]; exact s3) (by rw [u2 4 5 (by decide)]; exact s4) (fun a i h1 h2 h3 => by rw [u2 a i h1, s5 a i h1 h2 h3, t2 a i h1]; exact f5 a i h1 h2 h3) hfold
      exact key 8 0 (by omega) M b hb hG h43 h44 h45 (fun _ _ _ _ _ => rfl) (by rw [List.range_eq_range'])
    · simp (disch := omega) only [J_add, J_sub, J_mul, J_neg, J_bit, J_shl, J_shr, J_andn, J_and, J_or, J_xor, J_div, J_rem, J_lt, J_le, J_eq, J_lt0, J_le0, J_0le, J_0lt, J_eq0, vp_in_J, J_clamp, J_max, J_abs, Int.toNat_natCast, Int.reduceToNat, Int.reduceAdd, Int.reduceSub, Int.reduceMul, Int.reduceNeg, not_true_eq_false, not_false_eq_true] at c c2
      rw [if_neg (by omega), if_pos (by omega)] at h
      refine h _ (fun j hj => by rw [mset_o (by decide), mset_o (by decide)]; exact hG j hj) (by rw [mset_k (by decide), mset_k (by decide)]; exact h43) (by rw [mset_k (by decide), mset_self]) mset_self (fun a j h1 h2 h3 => by rw [mset_o h3, mset_o h3])
    · simp (disch := omega) only [J_add, J_sub, J_mul, J_neg, J_bit, J_shl, J_shr, J_andn, J_and, J_or, J_xor, J_div, J_rem, J_lt, J_le, J_eq, J_lt0, J_le0, J_0le, J_0lt, J_eq0, vp_in_J, J_clamp, J_max, J_abs, Int.toNat_natCast, Int.reduceToNat, Int.reduceAdd, Int.reduceSub, Int.reduceMul, Int.reduceNeg, not_true_eq_false, not_false_eq_true] at c c2
      omega
theorem ok_findBest {d w set : Nat} {M : Mem} {Q : Post} (hT : TR M σ) (hW : WF σ) (hw : w ≤ 12) (hset : set < 256) (hp : ∀ p, set.testBit p = true → p < sN σ ∧ wideN (sS σ p) ≤ w) (hpc : pcR 8 set ≤ 5) (h : ∀ M', LF M M' → M' 4 4 = J ((dfs σ w 6 (fun _ => 0, 0) set 0 0 (26, 0)).1 : Nat) → M' 4 5 = J ((dfs σ w 6 (fun _ => 0, 0) set 0 0 (26, 0)).2 : Nat) → Q none M') : Mt (d + 11) mX0_findBest [.ref 4, .int (J (w : Int)), .int (J (set : Int))] M Q := by
  refine e_X0_findBest (ok_empty (fun M1 g1 g2 g3 => rn_none ?_))
  have hT1 : TR (mset (mset M1 4 4 (J 26)) 4 5 (J 0)) σ := hT.keep ⟨fun k => by rw [mset_o (by decide), mset_o (by decide)]; exact g3 1 k (by decide) (Or.inl (by decide)), fun a i h1 h2 => by rw [mset_o (by omega), mset_o (by omega)]; exact g3 a i (by omega) (Or.inl (by omega))⟩
  refine ok_search hW hw 6 d _ _ (fun _ => 0, 0) set 0 0 (26, 0) hT1 (fun j hj => by rw [mset_o (by decide), mset_o (by decide)]; exact g1 j hj) (by rw [mset_k (by decide), mset_k (by decide)]; exact g2) (by rw [mset_k (by decide), mset_self]; rfl) mset_self (Nat.le_refl _) rfl hset hp hpc (fun j _ => rfl) (Nat.le_refl _) (by decide) (fun M2 s1 s2 s3 s4 s5 => rn_none (h M2 (fun a j h1 h2 h3 => ?_) s3 s4))
  rw [s5 a j h1 h2 h3, mset_o h3, mset_o h3]
  exact g3 a j h1 (Or.inl h3)
end SEARCH
