/-! the reference: what blocks what, and heaps -/
section MH
variable {d : Nat} {M : Mem} {Q : Post} {σ : St}
theorem J_o0 (n : Nat) : J (n : Int) ||| J 0 = J (n : Int) := by
  have := J_orN n 0
  rw [Nat.or_zero] at this
  exact this
theorem r_blocks0 {a b : Nat} {e : Int} (hT : MT M σ) (hW : WF σ) (ha : (sL σ).testBit a = true) (hb : (sL σ).testBit b = true) (he : 0 ≤ e ∧ e ≤ 3) (h : Q (some (jb (pb (blocksP σ a b e)))) M) : Mt (d + 3) mX5_blocks0 [.ref 18, .int (J (a : Int)), .int (J (b : Int)), .int (J e)] M Q := by
  have hN := hW.N
  have ha2 := hW.lp ha
  have hb2 := hW.lp hb
  have hpa := hW.P ha
  have hpb := hW.P hb
  have hs := hW.S hb2
  have hdx := dxI_b e
  have hdy := dyI_b e
  have key : ∀ f t : Nat, t + f = 26 → 1 ≤ t → (∀ t' : Nat, 1 ≤ t' → t' < t → ¬ ∃ c r : Int, sq (sS σ b) (sX σ b + (t' : Int) * dxI e) (sY σ b + (t' : Int) * dyI e) c r = true ∧ sq (sS σ a) (sX σ a) (sY σ a) c r = true) → R none (d + 3) mX5_blocks0 3 [.ref 18, .int (J (a : Int)), .int (J (b : Int)), .int (J e), .int (J (t : Int)), .null, .null, .null] [] M Q := by
    intro f
    induction f with
    | zero =>
      intro t ht h1 hno
      refine b_X5_blocks0_3 ⟨fun _ => ?_, fun c => ?_⟩
      · rw [pb_f.mpr (fun ⟨t', g1, g2, g3⟩ => hno t' g1 (by omega) g3)] at h
        exact h
      · simp (disch := omega) only [J_add, J_sub, J_mul, J_neg, J_bit, J_shl, J_shr, J_andn, J_and, J_or, J_xor, J_div, J_rem, J_lt, J_le, J_eq, J_lt0, J_le0, J_0le, J_0lt, J_eq0, vp_in_J, J_clamp, J_max, J_abs, Int.toNat_natCast, Int.reduceToNat, Int.reduceAdd, Int.reduceSub, Int.reduceMul, Int.reduceNeg, not_true_eq_false, not_false_eq_true] at c; omega
    | succ f ih =>
      intro t ht h1 hno
      have hb1 : -25 ≤ (t : Int) * dxI e ∧ (t : Int) * dxI e ≤ 25 := by
        rcases (show dxI e = -1 ∨ dxI e = 0 ∨ dxI e = 1 by omega) with g | g | g <;> rw [g] <;> omega
      have hb3 : -25 ≤ (t : Int) * dyI e ∧ (t : Int) * dyI e ≤ 25 := by
        rcases (show dyI e = -1 ∨ dyI e = 0 ∨ dyI e = 1 by omega) with g | g | g <;> rw [g] <;> omega
      have inner : ∀ g k : Nat, k + g = 25 → (∀ j : Nat, j < k → (sS σ b).testBit j = true → ¬ sq (sS σ a) (sX σ a) (sY σ a) (sX σ b + (t : Int) * dxI e + ((j % 5 : Nat) : Int)) (sY σ b + (t : Int) * dyI e + ((j / 5 : Nat) : Int)) = true) → R none (d + 3) mX5_blocks0 45 [.ref 18, .int (J (a : Int)), .int (J (b : Int)), .int (J e), .int (J (t : Int)), .int (J (sX σ b + (t : Int) * dxI e)), .int (J (sY σ b + (t : Int) * dyI e)), .int (J (k : Int))] [] M Q := by
        intro g
        induction g with
        | zero =>
          intro k hk hj
          refine b_X5_blocks0_45 ⟨fun _ => ?_, fun c => ?_⟩
          · rw [J_suc]
            refine ih (t + 1) (by omega) (by omega) (fun t' g1 g2 => ?_)
            by_cases et : t' = t
            · subst et
              rintro ⟨c, r, q1, q2⟩
              exact (sq_k (P := fun c r => ¬ sq (sS σ a) (sX σ a) (sY σ a) c r = true)).mpr (fun j hj1 hj2 => hj j (by omega) hj2) c r q1 q2
            · exact hno t' g1 (by omega)
          · simp (disch := omega) only [J_add, J_sub, J_mul, J_neg, J_bit, J_shl, J_shr, J_andn, J_and, J_or, J_xor, J_div, J_rem, J_lt, J_le, J_eq, J_lt0, J_le0, J_0le, J_0lt, J_eq0, vp_in_J, J_clamp, J_max, J_abs, Int.toNat_natCast, Int.reduceToNat, Int.reduceAdd, Int.reduceSub, Int.reduceMul, Int.reduceNeg, not_true_eq_false, not_false_eq_true] at c; omega
        | succ g ihg =>
          intro k hk hj
          have skip : ¬ ((sS σ b).testBit k = true ∧ sq (sS σ a) (sX σ a) (sY σ a) (sX σ b + (t : Int) * dxI e + ((k % 5 : Nat) : Int)) (sY σ b + (t : Int) * dyI e + ((k / 5 : Nat) : Int)) = true) → R none (d + 3) mX5_blocks0 45 [.ref 18, .int (J (a : Int)), .int (J (b : Int)), .int (J e), .int (J (t : Int)), .int (J (sX σ b + (t : Int) * dxI e)), .int (J (sY σ b + (t : Int) * dyI e)), .int (J ((k + 1 : Nat) : Int))] [] M Q := by
            intro hn
            refine ihg (k + 1) (by omega) (fun j h2 h3 h4 => ?_)
            by_cases ej : j = k
            · subst ej; exact hn ⟨h3, h4⟩
            · exact hj j (by omega) h3 h4
          refine b_X5_blocks0_45 ⟨fun c => ?_, fun _ => ⟨vin (by omega) (by omega), ?_⟩⟩
          · simp (disch := omega) only [J_add, J_sub, J_mul, J_neg, J_bit, J_shl, J_shr, J_andn, J_and, J_or, J_xor, J_div, J_rem, J_lt, J_le, J_eq, J_lt0, J_le0, J_0le, J_0lt, J_eq0, vp_in_J, J_clamp, J_max, J_abs, Int.toNat_natCast, Int.reduceToNat, Int.reduceAdd, Int.reduceSub, Int.reduceMul, Int.reduceNeg, not_true_eq_false, not_false_eq_true] at c; omega
          · rw [nI2 (by omega), hT.shp hb2, J_tb (by omega) (by omega), jb_eq1, J_suc, J_m5 (by omega), J_d5 (by omega), nI2 (by omega), hT.px ha, hT.py ha, J_add, J_add]
            refine ⟨fun c => skip (fun q => c q.1), fun c => ⟨vin (by omega) (by omega), vin (by omega) (by omega), r_has hT hW ha2 (by omega) (by omega) (by omega) (by omega) (ri_some ?_)⟩⟩
            rw [jb_ne, jb_eq0]
            refine ⟨fun c2 => skip (fun q => by rw [c2] at q; cases q.2), fun c2 => ?_⟩
            rw [pb_t.mpr ⟨t, h1, by omega, _, _, sq_kk (by omega) c, c2⟩] at h
            exact h
      refine b_X5_blocks0_3 ⟨fun c => ?_, fun _ => ⟨vin (by omega) (by omega), r_dx he (ri_some ⟨vin (by omega) (by omega), r_dy he (ri_some ?_)⟩)⟩⟩
      · simp (disch := omega) only [J_add, J_sub, J_mul, J_neg, J_bit, J_shl, J_shr, J_andn, J_and, J_or, J_xor, J_div, J_rem, J_lt, J_le, J_eq, J_lt0, J_le0, J_0le, J_0lt, J_eq0, vp_in_J, J_clamp, J_max, J_abs, Int.toNat_natCast, Int.reduceToNat, Int.reduceAdd, Int.reduceSub, Int.reduceMul, Int.reduceNeg, not_true_eq_false, not_false_eq_true] at c; omega
      · rw [nI2 (by omega), hT.px hb, hT.py hb, J_mul, J_mul, J_add, J_add]
        exact inner 25 0 (by omega) (fun j hj => by omega)
  exact e_X5_blocks0 (key 25 1 (by omega) (by omega) (fun t' g1 g2 => by omega))
theorem setN_suc (f : Nat → Bool) (n : Nat) : setN f (n + 1) = setN f n ||| (if f n = true then 2 ^ n else 0) := rfl
theorem setN_256 (f : Nat → Bool) {n : Nat} (h : n ≤ 8) : setN f n < 256 := Nat.lt_of_lt_of_le (setN_lt f n) (Nat.pow_le_pow_right (by omega) h)
theorem r_blockers {b among : Nat} {e : Int} (hT : MT M σ) (hW : WF σ) (hb : (sL σ).testBit b = true) (hs : subS among (sL σ)) (hl : among < 256) (he : 0 ≤ e ∧ e ≤ 3) (h : Q (some (J (blkN σ b e among : Nat))) M) : Mt (d + 4) mX5_blockers [.ref 18, .int (J (b : Int)), .int (J e), .int (J (among : Int))] M Q := by
  have hN := hW.N
  have hb2 := hW.lp hb
  have key : ∀ f a : Nat, a + f = sN σ → R none (d + 4) mX5_blockers 6 [.ref 18, .int (J (b : Int)), .int (J e), .int (J (among : Int)), .int (J (setN (fun a => pb ((a ≠ b ∧ among.testBit a = true) ∧ blocksP σ a b e)) a : Nat)), .int (J (a : Int))] [] M Q := by
    intro f
    induction f with
    | zero =>
      intro a ha
      refine b_X5_blockers_6 ⟨fun _ => ?_, fun c => ?_⟩
      · rw [show a = sN σ by omega]; exact h
      · rw [hT.2.2.1] at c
        simp (disch := omega) only [J_add, J_sub, J_mul, J_neg, J_bit, J_shl, J_shr, J_andn, J_and, J_or, J_xor, J_div, J_rem, J_lt, J_le, J_eq, J_lt0, J_le0, J_0le, J_0lt, J_eq0, vp_in_J, J_clamp, J_max, J_abs, Int.toNat_natCast, Int.reduceToNat, Int.reduceAdd, Int.reduceSub, Int.reduceMul, Int.reduceNeg, not_true_eq_false, not_false_eq_true] at c; omega
    | succ f ih =>
      intro a ha
      have ih2 := ih (a + 1) (by omega)
      rw [setN_suc] at ih2
      generalize setN (fun a => pb ((a ≠ b ∧ among.testBit a = true) ∧ blocksP σ a b e)) a = v at ih2 ⊢
      have skip : ¬ ((a ≠ b ∧ among.testBit a = true) ∧ blocksP σ a b e) → R none (d + 4) mX5_blockers 6 [.ref 18, .int (J (b : Int)), .int (J e), .int (J (among : Int)), .int (J (v : Int)), .int (J ((a + 1 : Nat) : Int))] [] M Q := by
        intro hn
        rw [if_neg (by rw [pb_t]; exact hn), Nat.or_zero] at ih2
        exact ih2
      refine b_X5_blockers_6 ⟨fun c => ?_, fun _ => ?_⟩
      · rw [hT.2.2.1] at c
        simp (disch := omega) only [J_add, J_sub, J_mul, J_neg, J_bit, J_shl, J_shr, J_andn, J_and, J_or, J_xor, J_div, J_rem, J_lt, J_le, J_eq, J_lt0, J_le0, J_0le, J_0lt, J_eq0, vp_in_J, J_clamp, J_max, J_abs, Int.toNat_natCast, Int.reduceToNat, Int.reduceAdd, Int.reduceSub, Int.reduceMul, Int.reduceNeg, not_true_eq_false, not_false_eq_true] at c; omega
      · rw [J_o0, J_suc, J_eq (by omega) (by omega) (by omega) (by omega), J_tb (by omega) (by omega), jb_eq1, J_or1 (by omega)]
        refine ⟨fun c => skip (fun q => q.1.1 (by omega)), fun c => ⟨fun c2 => skip (fun q => c2 q.1.2), fun c2 => r_blocks0 hT hW (hs a c2) hb he (ri_some ?_)⟩⟩
        rw [jb_ne, jb_eq0, pb_t, pb_f]
        refine ⟨fun c3 => skip (fun q => c3 q.2), fun c3 => ?_⟩
        rw [if_pos (by rw [pb_t]; exact ⟨⟨fun g => c (by omega), c2⟩, c3⟩)] at ih2
        exact ih2
  exact e_X5_blockers (key (sN σ) 0 (by omega))
theorem subS_rf (a : Nat) : subS a a := fun _ h => h
theorem m_blocks {S : SS} {p e : Int} (hC : MR M S) (hO : OKS S) (hp : BI32 p) (he : BI32 e) (h : ∀ M', MR M' S → NF M M' → Q (some (J (aBlocks S p e))) M') : Mt (d + 12) mX5_blocks [.ref 18, .int (J p), .int (J e)] M Q := by
  have hW := hO.1
  have hN := hW.N
  have hl := hW.L
  have h0 := h M hC NF.rf
  refine e_X5_blocks (r_isPiece hC.1 hW hp (ri_some ?_))
  rw [jb_ne, jb_eq0]
  unfold aBlocks at h0
  have bad : ¬ (isPc S.1 p = true ∧ (0 ≤ e ∧ e ≤ 3)) → Q (some (J (-1))) M := by
    intro q
    rw [if_neg q] at h0
    exact h0
  refine ⟨fun q => bad (fun g => by rw [q] at g; cases g.1), fun q => r_in he (b32 (by omega) (by omega)) (b32 (by omega) (by omega)) (ri_some ?_)⟩
  rw [jb_ne, jb_eq0]
  refine ⟨fun q2 => ?_, fun q2 => bad (fun g => absurd g.2 (of_decide_eq_false q2))⟩
  have he03 := of_decide_eq_true q2
  rw [if_pos ⟨q, he03⟩] at h0
  obtain ⟨k, rfl, hk⟩ := isPc_of q
  rw [Int.toNat_natCast] at h0
  refine ⟨vin (by omega) (by omega), ?_⟩
  rw [nI2 (by omega), hC.1.lie (by omega), jb_ne, jb_eq0]
  refine ⟨fun q3 => ?_, fun q3 => r_lying hC.1 hW (ri_some (r_blockers hC.1 hW q3 (subS_rf _) hl he03 (ri_some ?_)))⟩
  · rw [if_neg (fun g => by unfold lyB at g; rw [q3] at g; cases g)] at h0
    exact h0
  · rw [if_pos q3] at h0
    exact h0
theorem r_lowest {s q : Nat} (hs : s < 2147483648) (hq : q < 31) (hb : s.testBit q = true) (hm : ∀ j, j < q → s.testBit j = false) (h : Q (some (J (q : Int))) M) : Mt (d + 1) mX5_lowest [.int (J (s : Int))] M Q := by
  have key : ∀ f k : Nat, k + f = q → R none (d + 1) mX5_lowest 2 [.int (J (s : Int)), .int (J (k : Int))] [] M Q := by
    intro f
    induction f with
    | zero =>
      intro k hk
      refine b_X5_lowest_2 ?_
      rw [J_tb (by omega) (by omega), jb_eq0, show k = q by omega]
      exact ⟨fun _ => h, fun c => by rw [hb] at c; cases c⟩
    | succ f ih =>
      intro k hk
      refine b_X5_lowest_2 ?_
      rw [J_tb (by omega) (by omega), jb_eq0, J_suc]
      exact ⟨fun c => absurd (hm k (by omega)) c, fun _ => ih (k + 1) (by omega)⟩
  exact e_X5_lowest (key q 0 (by omega))
theorem lowG_spec (f : Nat → Bool) : ∀ k p, (lowG f k p = -4 ∧ ∀ j, p ≤ j → j < p + k → f j = false) ∨ ∃ q : Nat, lowG f k p = (q : Int) ∧ p ≤ q ∧ q < p + k ∧ f q = true ∧ ∀ j, p ≤ j → j < q → f j = false := by
  intro k
  induction k with
  | zero => intro p; left; exact ⟨rfl, fun j h1 h2 => by omega⟩
  | succ k ih =>
    intro p
    rw [lowG]
    split
    · next h => right; exact ⟨p, rfl, by omega, by omega, h, fun j h1 h2 => by omega⟩
    · next h =>
      rw [Bool.not_eq_true] at h
      rcases ih (p + 1) with ⟨g1, g2⟩ | ⟨q, h1, h2, h3, h4, h5⟩
      · left
        refine ⟨g1, fun j h1 h2 => ?_⟩
        by_cases e : j = p
        · subst e; exact h
        · exact g2 j (by omega) (by omega)
      · right
        refine ⟨q, h1, by omega, by omega, h4, fun j g1 g2 => ?_⟩
        by_cases e : j = p
        · subst e; exact h
        · exact h5 j (by omega) (by omega)
theorem lowF_at {how : Int} {left q : Nat} (hq : q < 8) (h : goF σ how left q = true) (hm : ∀ j, j < q → goF σ how left j = false) : lowF σ how left = (q : Int) := by
  unfold lowF
  rcases lowG_spec (goF σ how left) 8 0 with ⟨g1, g2⟩ | ⟨q', h1, h2, h3, h4, h5⟩
  · rw [g2 q (by omega) (by omega)] at h; cases h
  · rw [h1]
    rcases Nat.lt_trichotomy q q' with r | r | r
    · rw [h5 q (by omega) r] at h; cases h
    · rw [r]
    · rw [hm q' r] at h4; cases h4
theorem lowF_no {how : Int} {left : Nat} (hm : ∀ j, j < 8 → goF σ how left j = false) : lowF σ how left = -4 := by
  unfold lowF
  rcases lowG_spec (goF σ how left) 8 0 with ⟨g1, g2⟩ | ⟨q', h1, h2, h3, h4, h5⟩
  · exact g1
  · rw [hm q' (by omega)] at h4; cases h4
theorem goF_L {how : Int} {left j : Nat} (h : goF σ how left j = true) : left.testBit j = true := by
  unfold goF at h
  rw [Bool.and_eq_true] at h
  exact h.1
theorem clr_next {how : Int} {f left q : Nat} (h : lowF σ how left = (q : Int)) : clr σ how (f + 1) left = ((q : Int) :: (clr σ how f (wo left (2 ^ q))).1, (clr σ how f (wo left (2 ^ q))).2) := by
  rw [clr, if_neg (by omega), h, Int.toNat_natCast]
theorem clr_stop {how : Int} {f left : Nat} (h : lowF σ how left < 0) : clr σ how f left = ([], left) := by
  cases f with
  | zero => rfl
  | succ f => rw [clr, if_pos h]
theorem getD_past {l : List Int} {i : Nat} (h : l.length ≤ i) : l.getD i (-4) = -4 := by
  rw [List.getD_eq_getElem?_getD, List.getElem?_eq_none_iff.mpr h]; rfl
theorem getD_at {l l' : List Int} {q : Int} {i : Nat} (h : i = l.length) : (l ++ q :: l').getD i (-4) = q := by
  subst h
  rw [List.getD_eq_getElem?_getD, List.getElem?_append_right (Nat.le_refl _)]
  simp
theorem wo_sub {left L q : Nat} (h : subS left L) : subS (wo left (2 ^ q)) L := fun p hp => by
  rw [wo_bit, Bool.and_eq_true] at hp
  exact h p hp.1
theorem m_order {S : SS} {e i : Int} (hC : MR M S) (hO : OKS S) (he : BI32 e) (hi : BI32 i) (h : ∀ M', MR M' S → NF M M' → Q (some (J (aOrder S e i))) M') : Mt (d + 12) mX5_order [.ref 18, .int (J e), .int (J i)] M Q := by
  have hW := hO.1
  have hN := hW.N
  have hl := hW.L
  have h0 := h M hC NF.rf
  have hT := hC.1
  obtain ⟨hi1, hi2⟩ := hi
  unfold aOrder at h0
  have bad : ¬ ((0 ≤ e ∧ e ≤ 3) ∧ -1 ≤ i) → Q (some (J (-1))) M := by
    intro q
    rw [if_neg q] at h0
    exact h0
  refine e_X5_order (r_in he (b32 (by omega) (by omega)) (b32 (by omega) (by omega)) (ri_some ?_))
  rw [jb_ne, jb_eq0]
  refine ⟨fun q => bad (fun g => absurd g.1 (of_decide_eq_false q)), fun q => ⟨fun q2 => ?_, fun q2 => ?_⟩⟩
  · simp (disch := omega) only [J_add, J_sub, J_mul, J_neg, J_bit, J_shl, J_shr, J_andn, J_and, J_or, J_xor, J_div, J_rem, J_lt, J_le, J_eq, J_lt0, J_le0, J_0le, J_0lt, J_eq0, vp_in_J, J_clamp, J_max, J_abs, Int.toNat_natCast, Int.reduceToNat, Int.reduceAdd, Int.reduceSub, Int.reduceMul, Int.reduceNeg, not_true_eq_false, not_false_eq_true] at q2
    have he03 := of_decide_eq_true q
    rw [if_pos ⟨he03, q2⟩] at h0
    refine r_lying hT hW (ri_some ?_)
    have fin : ∀ (l : List Int) (left : Nat), (l, left) = clr S.1 e 8 (sL S.1) → ¬ (0 ≤ i ∧ i < (l.length : Int)) → R none (d + 12) mX5_order 27 [.ref 18, .int (J e), .int (J i), .int (J (left : Int)), .int (J (l.length : Int)), .int (J 0), .null, .null] [] M Q := by
      intro l left hc hn
      unfold told at h0
      rw [← hc] at h0
      dsimp only at h0
      refine b_X5_order_27 ⟨fun _ => ⟨fun c => ?_, fun c => ?_⟩, fun c => absurd rfl c⟩
      · simp (disch := omega) only [J_add, J_sub, J_mul, J_neg, J_bit, J_shl, J_shr, J_andn, J_and, J_or, J_xor, J_div, J_rem, J_lt, J_le, J_eq, J_lt0, J_le0, J_0le, J_0lt, J_eq0, vp_in_J, J_clamp, J_max, J_abs, Int.toNat_natCast, Int.reduceToNat, Int.reduceAdd, Int.reduceSub, Int.reduceMul, Int.reduceNeg, not_true_eq_false, not_false_eq_true] at c
        rw [if_neg (by omega), getD_past (by omega)] at h0
        exact h0
      · simp (disch := omega) only [J_add, J_sub, J_mul, J_neg, J_bit, J_shl, J_shr, J_andn, J_and, J_or, J_xor, J_div, J_rem, J_lt, J_le, J_eq, J_lt0, J_le0, J_0le, J_0lt, J_eq0, vp_in_J, J_clamp, J_max, J_abs, Int.toNat_natCast, Int.reduceToNat, Int.reduceAdd, Int.reduceSub, Int.reduceMul, Int.reduceNeg, not_true_eq_false, not_false_eq_true] at c
        rw [if_pos (by omega)] at h0
        exact h0
    have sweep : ∀ (n left : Nat), n ≤ 8 → subS left (sL S.1) → left < 256 → (lowF S.1 e left < 0 → R none (d + 12) mX5_order 27 [.ref 18, .int (J e), .int (J i), .int (J (left : Int)), .int (J (n : Int)), .int (J 0), .null, .null] [] M Q) → (∀ q : Nat, lowF S.1 e left = (q : Int) → (n : Int) = i → Q (some (J (q : Int))) M) → (∀ q : Nat, lowF S.1 e left = (q : Int) → q < 8 → left.testBit q = true → (n : Int) ≠ i → R none (d + 12) mX5_order 27 [.ref 18, .int (J e), .int (J i), .int (J (wo left (2 ^ q) : Nat)), .int (J ((n + 1 : Nat) : Int)), .int (J 1), .null, .null] [] M Q) → R none (d + 12) mX5_order 27 [.ref 18, .int (J e), .int (J i), .int (J (left : Int)), .int (J (n : Int)), .int (J 1), .null, .null] [] M Q := by
      intro n left hn8 hs hlt k1 k2 k3
      have hgo : ∀ p, goF S.1 e left p = (left.testBit p && decide (blkN S.1 p e left = 0)) := fun p => by unfold goF; rw [if_neg (by omega)]
      have key : ∀ f p : Nat, p + f = sN S.1 → R none (d + 12) mX5_order 38 [.ref 18, .int (J e), .int (J i), .int (J (left : Int)), .int (J (n : Int)), .null, .int (J (setN (goF S.1 e left) p : Nat)), .int (J (p : Int))] [] M Q := by
        intro f
        induction f with
        | zero =>
          intro p hp
          have hfl := setN_256 (goF S.1 e left) (show p ≤ 8 by omega)
          have hbit := setN_bit (goF S.1 e left) p
          have hpast : ∀ j, p ≤ j → goF S.1 e left j = false := by
            intro j hj
            rw [← Bool.not_eq_true]
            intro g
            have := hW.lp (hs j (goF_L g))
            omega
          refine b_X5_order_38 ⟨fun _ => ?_, fun c => ?_⟩
          · rw [J_eq0 (by omega) (by omega), J_eq (by omega) (by omega) (by omega) (by omega), J_suc]
            rcases lowG_spec (goF S.1 e left) 8 0 with ⟨g1, g2⟩ | ⟨q, g1, g2, g3, g4, g5⟩
            · have hz : setN (goF S.1 e left) p = 0 := by
                apply Nat.eq_of_testBit_eq
                intro j
                rw [Nat.zero_testBit, ← Bool.not_eq_true, hbit]
                rintro ⟨r1, r2⟩
                rw [g2 j (by omega) (by omega)] at r2
                cases r2
              refine ⟨fun _ => ⟨fun _ => k1 ?_, fun c => absurd rfl c⟩, fun c => absurd (by omega) c⟩
              have : lowF S.1 e left = -4 := g1
              omega
            · have hqp : q < p := by
                rcases Nat.lt_or_ge q p with r | r
                · exact r
                · rw [hpast q r] at g4; cases g4
              have hb := (hbit q).mpr ⟨hqp, g4⟩
              have hne : setN (goF S.1 e left) p ≠ 0 := fun g => by rw [g, Nat.zero_testBit] at hb; cases hb
              have hlow : ∀ j, j < q → (setN (goF S.1 e left) p).testBit j = false := by
                intro j hj
                rw [← Bool.not_eq_true, hbit]
                rintro ⟨r1, r2⟩
                rw [g5 j (by omega) hj] at r2
                cases r2
              refine ⟨fun c => absurd (by omega) hne, fun _ => ⟨fun c => absurd c one_ne, fun _ => ⟨fun c => r_lowest (by omega) (by omega) hb hlow (ri_some ?_), fun c => r_lowest (by omega) (by omega) hb hlow (ri_some (k2 q g1 c))⟩⟩⟩
              rw [J_wo1 (by omega) (by omega)]
              exact k3 q g1 (by omega) (goF_L g4) c
          · rw [hT.2.2.1] at c
            simp (disch := omega) only [J_add, J_sub, J_mul, J_neg, J_bit, J_shl, J_shr, J_andn, J_and, J_or, J_xor, J_div, J_rem, J_lt, J_le, J_eq, J_lt0, J_le0, J_0le, J_0lt, J_eq0, vp_in_J, J_clamp, J_max, J_abs, Int.toNat_natCast, Int.reduceToNat, Int.reduceAdd, Int.reduceSub, Int.reduceMul, Int.reduceNeg, not_true_eq_false, not_false_eq_true] at c; omega
        | succ f ih =>
          intro p hp
          have ih2 := ih (p + 1) (by omega)
          rw [setN_suc] at ih2
          have hfl := setN_256 (goF S.1 e left) (show p ≤ 8 by omega)
          have hbl := setN_256 (fun a => pb ((a ≠ p ∧ left.testBit a = true) ∧ blocksP S.1 a p e)) hN
          rw [show setN (fun a => pb ((a ≠ p ∧ left.testBit a = true) ∧ blocksP S.1 a p e)) (sN S.1) = blkN S.1 p e left from rfl] at hbl
          refine b_X5_order_38 ⟨fun c => ?_, fun _ => ?_⟩
          · rw [hT.2.2.1] at c
            simp (disch := omega) only [J_add, J_sub, J_mul, J_neg, J_bit, J_shl, J_shr, J_andn, J_and, J_or, J_xor, J_div, J_rem, J_lt, J_le, J_eq, J_lt0, J_le0, J_0le, J_0lt, J_eq0, vp_in_J, J_clamp, J_max, J_abs, Int.toNat_natCast, Int.reduceToNat, Int.reduceAdd, Int.reduceSub, Int.reduceMul, Int.reduceNeg, not_true_eq_false, not_false_eq_true] at c; omega
          · rw [J_o0, J_suc, J_tb (by omega) (by omega), jb_eq1, J_or1 (by omega)]
            refine ⟨fun c => ?_, fun c => r_blockers hT hW (hs p c) hs hlt he03 (ri_some ?_)⟩
            · rw [if_neg (by rw [hgo, Bool.and_eq_true]; exact fun g => c g.1), Nat.or_zero] at ih2
              exact ih2
            · rw [J_eq0 (by omega) (by omega)]
              refine ⟨fun c2 => ?_, fun c2 => ?_⟩
              · rw [if_neg (by rw [hgo, Bool.and_eq_true, decide_eq_true_iff]; exact fun g => c2 (by omega)), Nat.or_zero] at ih2
                exact ih2
              · rw [if_pos (by rw [hgo, Bool.and_eq_true, decide_eq_true_iff]; exact ⟨c, by omega⟩)] at ih2
                exact ih2
      refine b_X5_order_27 ⟨fun c => absurd c one_ne, fun _ => key (sN S.1) 0 (by omega)⟩
    have key : ∀ f : Nat, ∀ (l : List Int) (left : Nat), l.length + f = 8 → subS left (sL S.1) → left < 256 → pcR 8 left ≤ f → (l ++ (clr S.1 e f left).1, (clr S.1 e f left).2) = clr S.1 e 8 (sL S.1) → ¬ (0 ≤ i ∧ i < (l.length : Int)) → R none (d + 12) mX5_order 27 [.ref 18, .int (J e), .int (J i), .int (J (left : Int)), .int (J (l.length : Int)), .int (J 1), .null, .null] [] M Q := by
      intro f
      induction f with
      | zero =>
        intro l left hlen hs hlt hpc hcl hno
        have hzero : left = 0 := by
          rcases Nat.eq_zero_or_pos left with g | g
          · exact g
          · have := pc_pos left hlt (by omega); omega
        subst hzero
        have hlow : lowF S.1 e 0 = -4 := lowF_no (fun j _ => by
          rw [← Bool.not_eq_true]
          intro g
          have := goF_L g
          rw [Nat.zero_testBit] at this
          cases this)
        rw [clr, List.append_nil] at hcl
        exact sweep l.length 0 (by omega) hs hlt (fun _ => fin l 0 hcl hno) (fun q hq => by omega) (fun q hq => by omega)
      | succ f ih =>
        intro l left hlen hs hlt hpc hcl hno
        refine sweep l.length left (by omega) hs hlt (fun hneg => ?_) (fun q hq hat => ?_) (fun q hq h8 hbq hat => ?_)
        · rw [clr_stop hneg, List.append_nil] at hcl
          exact fin l left hcl hno
        · rw [clr_next hq] at hcl
          unfold told at h0
          rw [← hcl, if_neg (by omega), getD_at (by omega)] at h0
          exact h0
        · rw [clr_next hq] at hcl
          have hpw := pc_wo left hlt q h8 hbq
          have ih2 := ih (l ++ [(q : Int)]) (wo left (2 ^ q)) (by simp; omega) (wo_sub hs) (wo_lt hlt) (by omega) (by rw [← hcl, List.append_assoc]; rfl) (by simp; omega)
          rw [show (l ++ [(q : Int)]).length = l.length + 1 by simp] at ih2
          exact ih2
    exact key 8 [] (sL S.1) rfl (subS_rf _) hl (pcR8_le _ hl) rfl (by simp)
  · simp (disch := omega) only [J_add, J_sub, J_mul, J_neg, J_bit, J_shl, J_shr, J_andn, J_and, J_or, J_xor, J_div, J_rem, J_lt, J_le, J_eq, J_lt0, J_le0, J_0le, J_0lt, J_eq0, vp_in_J, J_clamp, J_max, J_abs, Int.toNat_natCast, Int.reduceToNat, Int.reduceAdd, Int.reduceSub, Int.reduceMul, Int.reduceNeg, not_true_eq_false, not_false_eq_true] at q2; exact bad (by omega)
end MH
