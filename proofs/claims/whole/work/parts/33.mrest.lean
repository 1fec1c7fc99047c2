/-! the reference: what writes, and the rest -/
/-- all but who lies and where -/
def PLF (M M' : Mem) (p : Nat) : Prop := (∀ a j, a < 27 → a ≠ 23 → a ≠ 24 → a ≠ 25 → M' a j = M a j) ∧ ∀ a j, a = 23 ∨ a = 24 ∨ a = 25 → j ≠ p → M' a j = M a j
theorem MT.lay {M M' : Mem} {σ : St} {p : Nat} {x y : Int} (h : MT M σ) (g : PLF M M' p) (h3 : M' 23 p = J 1) (h4 : M' 24 p = J x) (h5 : M' 25 p = J y) : MT M' (stLay σ p x y) := by
  obtain ⟨t1, t2, t3, t4, t5, t6, t7⟩ := h
  obtain ⟨g1, g2⟩ := g
  refine ⟨by rw [g1 _ _ (by decide) (by decide) (by decide) (by decide)]; exact t1, by rw [g1 _ _ (by decide) (by decide) (by decide) (by decide)]; exact t2, by rw [g1 _ _ (by decide) (by decide) (by decide) (by decide)]; exact t3, fun y hy => by rw [g1 _ _ (by decide) (by decide) (by decide) (by decide)]; exact t4 y hy, fun p hp => ?_, fun j hj => ?_, fun j hj => ?_⟩
  · rw [g1 _ _ (by decide) (by decide) (by decide) (by decide), g1 _ _ (by decide) (by decide) (by decide) (by decide), g1 _ _ (by decide) (by decide) (by decide) (by decide)]; exact t5 p hp
  · show M' 23 j = jb ((sL σ ||| 2 ^ p).testBit j)
    rw [Nat.testBit_or, Nat.testBit_two_pow]
    by_cases e : j = p
    · subst e; rw [h3, decide_eq_true rfl, Bool.or_true]; rfl
    · rw [g2 23 j (by omega) e, decide_eq_false (fun q => e q.symm), Bool.or_false]; exact t6 j hj
  · have hj2 : (sL σ ||| 2 ^ p).testBit j = true := hj
    by_cases e : j = p
    · subst e
      exact ⟨h4.trans (congrArg J (upF_s (f := sX σ)).symm), h5.trans (congrArg J (upF_s (f := sY σ)).symm)⟩
    · rw [Nat.testBit_or, Nat.testBit_two_pow, decide_eq_false (fun q => e q.symm), Bool.or_false] at hj2
      rw [g2 24 j (by omega) e, g2 25 j (by omega) e]
      exact ⟨(t7 j hj2).1.trans (congrArg J (upF_n e).symm), (t7 j hj2).2.trans (congrArg J (upF_n e).symm)⟩
theorem MS.keep {M M' : Mem} {S : SS} (h : MS M S) (h1 : M' 18 10 = M 18 10) (h2 : ∀ j, M' 26 j = M 26 j) {σ : St} : MS M' (σ, S.2) := ⟨by rw [h1]; exact h.1, fun i hi => by rw [h2]; exact h.2 i hi⟩
theorem stLay_WF {σ : St} {p : Nat} {x y : Int} (hW : WF σ) (hp : p < sN σ) (hx : -6 ≤ x ∧ x ≤ 13) (hy : -6 ≤ y ∧ y ≤ 13) : WF (stLay σ p x y) := by
  obtain ⟨h1, h2, h3, h4, h5, h6, h7, h8⟩ := hW
  refine ⟨h1, h2, h3, h4, h5, h6, ?_, fun j hj => ?_⟩
  · show sL σ ||| 2 ^ p < 2 ^ sN σ
    exact Nat.or_lt_two_pow h7 (Nat.pow_lt_pow_right (by omega) hp)
  · have hj2 : (sL σ ||| 2 ^ p).testBit j = true := hj
    show (-6 ≤ upF (sX σ) p x j ∧ upF (sX σ) p x j ≤ 13) ∧ (-6 ≤ upF (sY σ) p y j ∧ upF (sY σ) p y j ≤ 13)
    by_cases e : j = p
    · subst e; rw [upF_s, upF_s]; exact ⟨hx, hy⟩
    · rw [Nat.testBit_or, Nat.testBit_two_pow, decide_eq_false (fun q => e q.symm), Bool.or_false] at hj2
      rw [upF_n e, upF_n e]; exact h8 j hj2
theorem oth_lay {σ : St} {p : Nat} {x y : Int} : oth (stLay σ p x y) p = oth σ p := by
  apply Nat.eq_of_testBit_eq
  intro i
  show (wo (sL σ ||| 2 ^ p) (2 ^ p)).testBit i = (wo (sL σ) (2 ^ p)).testBit i
  rw [wo_bit, wo_bit, Nat.testBit_or]
  cases (2 ^ p).testBit i <;> simp
theorem stP_lay {σ : St} {p s : Nat} {x y u v : Int} : stP (stLay σ p x y) (oth σ p) s u v ↔ stP σ (oth σ p) s u v := by
  have hb : ∀ c r, blkd (stLay σ p x y) (oth σ p) c r ↔ blkd σ (oth σ p) c r := by
    intro c r
    have ho : ∀ o, (oth σ p).testBit o = true → o ≠ p ∧ (sL σ).testBit o = true := by
      intro o h
      unfold oth at h
      rw [wo_bit, Bool.and_eq_true, Nat.testBit_two_pow] at h
      exact ⟨fun e => (by rw [decide_eq_true e.symm] at h; cases h.2), h.1⟩
    unfold blkd
    constructor
    · rintro (g | ⟨o, g1, g2, g3⟩)
      · exact Or.inl g
      · obtain ⟨e1, e2⟩ := ho o g1
        refine Or.inr ⟨o, g1, e2, ?_⟩
        have g4 : sq (sS σ o) (upF (sX σ) p x o) (upF (sY σ) p y o) c r = true := g3
        rw [upF_n e1, upF_n e1] at g4
        exact g4
    · rintro (g | ⟨o, g1, g2, g3⟩)
      · exact Or.inl g
      · obtain ⟨e1, e2⟩ := ho o g1
        refine Or.inr ⟨o, g1, ?_, ?_⟩
        · show (sL σ ||| 2 ^ p).testBit o = true
          rw [Nat.testBit_or, e2, Bool.true_or]
        · show sq (sS σ o) (upF (sX σ) p x o) (upF (sY σ) p y o) c r = true
          rw [upF_n e1, upF_n e1]; exact g3
  unfold stP
  constructor
  · intro g c r hc h2; exact g c r hc ((hb c r).mpr h2)
  · intro g c r hc h2; exact g c r hc ((hb c r).mp h2)
section MRE
variable {d : Nat} {M : Mem} {Q : Post} {S : SS}
theorem m_stepOf {i : Int} (hC : MR M S) (hO : OKS S) (hi : BI32 i) (h : ∀ M', MR M' S → NF M M' → Q (some (J (aStepOf S i))) M') : Mt (d + 12) mX5_stepOf [.ref 18, .int (J i)] M Q := by
  obtain ⟨hi1, hi2⟩ := hi
  have h400 := hO.2.2
  have h0 := h M hC NF.rf
  unfold aStepOf at h0
  refine e_X5_stepOf ⟨fun q => ?_, fun q => ?_⟩
  · simp (disch := omega) only [J_add, J_sub, J_mul, J_neg, J_bit, J_shl, J_shr, J_andn, J_and, J_or, J_xor, J_div, J_rem, J_lt, J_le, J_eq, J_lt0, J_le0, J_0le, J_0lt, J_eq0, vp_in_J, J_clamp, J_max, J_abs, Int.toNat_natCast, Int.reduceToNat, Int.reduceAdd, Int.reduceSub, Int.reduceMul, Int.reduceNeg, not_true_eq_false, not_false_eq_true] at q
    rw [if_neg (by omega)] at h0
    obtain ⟨n, rfl⟩ := J_nat q
    rcases hC.2.1 with g | ⟨g, g2⟩
    · rw [g]
      refine ⟨fun q2 => ?_, fun q2 => ⟨?_, ?_⟩⟩
      · simp (disch := omega) only [J_add, J_sub, J_mul, J_neg, J_bit, J_shl, J_shr, J_andn, J_and, J_or, J_xor, J_div, J_rem, J_lt, J_le, J_eq, J_lt0, J_le0, J_0le, J_0lt, J_eq0, vp_in_J, J_clamp, J_max, J_abs, Int.toNat_natCast, Int.reduceToNat, Int.reduceAdd, Int.reduceSub, Int.reduceMul, Int.reduceNeg, not_true_eq_false, not_false_eq_true] at q2
        rw [if_neg (by omega)] at h0; exact h0
      · simp (disch := omega) only [J_add, J_sub, J_mul, J_neg, J_bit, J_shl, J_shr, J_andn, J_and, J_or, J_xor, J_div, J_rem, J_lt, J_le, J_eq, J_lt0, J_le0, J_0le, J_0lt, J_eq0, vp_in_J, J_clamp, J_max, J_abs, Int.toNat_natCast, Int.reduceToNat, Int.reduceAdd, Int.reduceSub, Int.reduceMul, Int.reduceNeg, not_true_eq_false, not_false_eq_true] at q2; exact vin (by omega) (by omega)
      · simp (disch := omega) only [J_add, J_sub, J_mul, J_neg, J_bit, J_shl, J_shr, J_andn, J_and, J_or, J_xor, J_div, J_rem, J_lt, J_le, J_eq, J_lt0, J_le0, J_0le, J_0lt, J_eq0, vp_in_J, J_clamp, J_max, J_abs, Int.toNat_natCast, Int.reduceToNat, Int.reduceAdd, Int.reduceSub, Int.reduceMul, Int.reduceNeg, not_true_eq_false, not_false_eq_true] at q2
        rw [nI2 (by omega), hC.2.2 n (by omega)]
        rw [if_pos (by omega), Int.toNat_natCast] at h0; exact h0
    · rw [g]
      refine ⟨fun q2 => ?_, fun q2 => ?_⟩
      · rw [if_neg (by omega)] at h0; exact h0
      · simp (disch := omega) only [J_add, J_sub, J_mul, J_neg, J_bit, J_shl, J_shr, J_andn, J_and, J_or, J_xor, J_div, J_rem, J_lt, J_le, J_eq, J_lt0, J_le0, J_0le, J_0lt, J_eq0, vp_in_J, J_clamp, J_max, J_abs, Int.toNat_natCast, Int.reduceToNat, Int.reduceAdd, Int.reduceSub, Int.reduceMul, Int.reduceNeg, not_true_eq_false, not_false_eq_true] at q2; omega
  · simp (disch := omega) only [J_add, J_sub, J_mul, J_neg, J_bit, J_shl, J_shr, J_andn, J_and, J_or, J_xor, J_div, J_rem, J_lt, J_le, J_eq, J_lt0, J_le0, J_0le, J_0lt, J_eq0, vp_in_J, J_clamp, J_max, J_abs, Int.toNat_natCast, Int.reduceToNat, Int.reduceAdd, Int.reduceSub, Int.reduceMul, Int.reduceNeg, not_true_eq_false, not_false_eq_true] at q
    rw [if_pos (by omega)] at h0; exact h0
theorem m_stands {p x y : Int} (hC : MR M S) (hO : OKS S) (hp : BI32 p) (hx : BI32 x) (hy : BI32 y) (h : ∀ M', MR M' S → NF M M' → Q (some (J (aStands S p x y))) M') : Mt (d + 12) mX5_stands [.ref 18, .int (J p), .int (J x), .int (J y)] M Q := by
  have hW := hO.1
  have h0 := h M hC NF.rf
  unfold aStands at h0
  refine e_X5_stands (r_isPiece hC.1 hW hp (ri_some ?_))
  rw [jb_ne, jb_eq0]
  have bad : ¬ (isPc S.1 p = true ∧ ((-6 ≤ x ∧ x ≤ 13) ∧ (-6 ≤ y ∧ y ≤ 13))) → Q (some (J (-1))) M := by
    intro q
    rw [if_neg q] at h0
    exact h0
  refine ⟨fun q => bad (fun g => by rw [q] at g; cases g.1), fun q => r_isSpot hx hy (ri_some ?_)⟩
  rw [jb_ne, jb_eq0]
  refine ⟨fun q2 => ?_, fun q2 => bad (fun g => absurd g.2 (of_decide_eq_false q2))⟩
  have hxy := of_decide_eq_true q2
  rw [if_pos ⟨q, hxy⟩] at h0
  obtain ⟨k, rfl, hk⟩ := isPc_of q
  rw [Int.toNat_natCast] at h0
  refine r_stand hC.1 hW hk hxy.1 hxy.2 (ri_some ?_)
  rw [jb_ne, jb_eq0]
  refine ⟨fun q3 => ?_, fun q3 => ?_⟩
  · rw [if_neg (fun g => by rw [q3] at g; cases g)] at h0; exact h0
  · rw [if_pos q3] at h0; exact h0
theorem m_put {p x y : Int} (hC : MR M S) (hO : OKS S) (hp : BI32 p) (hx : BI32 x) (hy : BI32 y) (h : ∀ M', MR M' (aPut S p x y).2 → NF M M' → Q (some (J (aPut S p x y).1)) M') : Mt (d + 12) mX5_put [.ref 18, .int (J p), .int (J x), .int (J y)] M Q := by
  have hW := hO.1
  have hN := hW.N
  refine e_X5_put (r_isPiece hC.1 hW hp (ri_some ?_))
  rw [jb_ne, jb_eq0]
  have bad : ¬ (isPc S.1 p = true ∧ ((-6 ≤ x ∧ x ≤ 13) ∧ (-6 ≤ y ∧ y ≤ 13))) → Q (some (J (-1))) M := by
    intro q
    unfold aPut at h
    rw [if_neg q] at h
    exact h M hC NF.rf
  refine ⟨fun q => bad (fun g => by rw [q] at g; cases g.1), fun q => r_isSpot hx hy (ri_some ?_)⟩
  rw [jb_ne, jb_eq0]
  refine ⟨fun q2 => ?_, fun q2 => bad (fun g => absurd g.2 (of_decide_eq_false q2))⟩
  have hxy := of_decide_eq_true q2
  unfold aPut at h
  rw [if_pos ⟨q, hxy⟩] at h
  obtain ⟨k, rfl, hk⟩ := isPc_of q
  rw [Int.toNat_natCast] at h
  refine r_stand hC.1 hW hk hxy.1 hxy.2 (ri_some ?_)
  rw [jb_ne, jb_eq0]
  refine ⟨fun q3 => ⟨vin (by omega) (by omega), vin (by omega) (by omega), vin (by omega) (by omega), ?_⟩, fun q3 => ?_⟩
  · rw [if_pos q3] at h
    rw [nI2 (by omega)]
    refine h _ ⟨MT.lay hC.1 ⟨fun a j h1 h2 h3 h4 => by rw [mset_o h4, mset_o h3, mset_o h2], fun a j h1 h2 => by
      rcases h1 with e | e | e <;> subst e
      · rw [mset_o (by decide), mset_o (by decide), mset_k h2]
      · rw [mset_o (by decide), mset_k h2, mset_o (by decide)]
      · rw [mset_k h2, mset_o (by decide), mset_o (by decide)]⟩ (by rw [mset_o (by decide), mset_o (by decide), mset_self]) (by rw [mset_o (by decide), mset_self]) mset_self, MS.keep hC.2 (by rw [mset_o (by decide), mset_o (by decide), mset_o (by decide)]) (fun j => by rw [mset_o (by decide), mset_o (by decide), mset_o (by decide)])⟩ (NF.set (NF.set (NF.set NF.rf (by decide)) (by decide)) (by decide))
  · rw [if_neg (fun g => by unfold oth at g; rw [q3] at g; cases g)] at h
    exact h M hC NF.rf
theorem m_away {p : Int} (hC : MR M S) (hO : OKS S) (hp : BI32 p) (h : ∀ M', MR M' (aAway S p).2 → NF M M' → Q (some (J (aAway S p).1)) M') : Mt (d + 12) mX5_away [.ref 18, .int (J p)] M Q := by
  have hW := hO.1
  have hN := hW.N
  refine e_X5_away (r_isPiece hC.1 hW hp (ri_some ?_))
  rw [jb_ne, jb_eq0]
  unfold aAway at h
  refine ⟨fun q => ?_, fun q => ?_⟩
  · rw [if_pos q] at h
    obtain ⟨k, rfl, hk⟩ := isPc_of q
    rw [Int.toNat_natCast] at h
    refine ⟨vin (by omega) (by omega), ?_⟩
    rw [nI2 (by omega), hC.1.lie (by omega), jb_ne, jb_eq0]
    have hfr : TF M (mset M 23 k (J 0)) := TF.set TF.rf
    refine ⟨fun q2 => ⟨vin (by omega) (by omega), ?_⟩, fun q2 => ⟨vin (by omega) (by omega), ?_⟩⟩
    · rw [if_neg (fun g => by unfold lyB at g; rw [q2] at g; cases g)] at h
      refine h _ (TF.back hC hfr (fun j hj => ?_)) hfr.NF
      by_cases e : j = k
      · subst e; rw [mset_self, q2]; rfl
      · rw [mset_k e]; exact hC.1.lie hj
    · rw [if_pos q2] at h
      refine h _ ⟨TF.MT hC.1 hfr (wo_subS _ _) (fun j hj => ?_), MS.keep hC.2 (mset_o (by decide)) (fun j => mset_o (by decide))⟩ hfr.NF
      rw [wo_bit, Nat.testBit_two_pow]
      by_cases e : j = k
      · subst e; rw [mset_self, decide_eq_true rfl, Bool.not_true, Bool.and_false]; rfl
      · rw [mset_k e, decide_eq_false (fun g => e g.symm), Bool.not_false, Bool.and_true]; exact hC.1.lie hj
  · rw [if_neg (fun g => by rw [q] at g; cases g)] at h
    exact h M hC NF.rf
theorem m_slide {p e n : Int} (hC : MR M S) (hO : OKS S) (hp : BI32 p) (he : BI32 e) (hn : BI32 n) (h : ∀ M', MR M' (aSlide S p e n).2 → NF M M' → Q (some (J (aSlide S p e n).1)) M') : Mt (d + 12) mX5_slide [.ref 18, .int (J p), .int (J e), .int (J n)] M Q := by
  have hW := hO.1
  have hN := hW.N
  refine e_X5_slide (r_isPiece hC.1 hW hp (ri_some ?_))
  rw [jb_ne, jb_eq0]
  have bad : ¬ (isPc S.1 p = true ∧ ((0 ≤ e ∧ e ≤ 3) ∧ (1 ≤ n ∧ n ≤ 20))) → Q (some (J (-1))) M := by
    intro q
    unfold aSlide at h
    rw [if_neg q] at h
    exact h M hC NF.rf
  refine ⟨fun q => bad (fun g => by rw [q] at g; cases g.1), fun q => r_in he (b32 (by omega) (by omega)) (b32 (by omega) (by omega)) (ri_some ?_)⟩
  rw [jb_ne, jb_eq0]
  refine ⟨fun q2 => bad (fun g => absurd g.2.1 (of_decide_eq_false q2)), fun q2 => r_in hn (b32 (by omega) (by omega)) (b32 (by omega) (by omega)) (ri_some ?_)⟩
  rw [jb_ne, jb_eq0]
  refine ⟨fun q3 => ?_, fun q3 => bad (fun g => absurd g.2.2 (of_decide_eq_false q3))⟩
  have he03 := of_decide_eq_true q2
  have hn20 := of_decide_eq_true q3
  unfold aSlide at h
  rw [if_pos ⟨q, he03, hn20⟩] at h
  obtain ⟨k, rfl, hk⟩ := isPc_of q
  obtain ⟨m, rfl⟩ := J_nat (show 0 ≤ n by omega)
  rw [Int.toNat_natCast, Int.toNat_natCast] at h
  refine ⟨vin (by omega) (by omega), ?_⟩
  rw [nI2 (by omega), hC.1.lie (by omega), jb_ne, jb_eq0]
  refine ⟨fun q5 => ?_, fun q5 => ?_⟩
  · rw [if_pos q5] at h
    have hxy := hW.P q5
    have hdx := dxI_b e
    have hdy := dyI_b e
    generalize hT' : onw (opP S.1 k) e m (whP S.1 k) = T at h
    dsimp only at h
    have base : ∀ (M1 : Mem) (x y : Int), PLF M M1 k → NF M M1 → M1 23 k = J 1 → M1 24 k = J x → M1 25 k = J y → x = sX S.1 k + (T : Int) * dxI e → y = sY S.1 k + (T : Int) * dyI e → Q (some (J (T : Int))) M1 := by
      intro M1 x y g1 g0 g2 g3 g4 g5 g6
      subst g5
      subst g6
      exact h M1 ⟨MT.lay hC.1 g1 g2 g3 g4, MS.keep hC.2 (g1.1 18 10 (by decide) (by decide) (by decide) (by decide)) (fun j => g1.1 26 j (by decide) (by decide) (by decide) (by decide))⟩ g0
    have key : ∀ f j : Nat, j + f = m → ∀ (M1 : Mem) (x y : Int), PLF M M1 k → NF M M1 → M1 23 k = J 1 → M1 24 k = J x → M1 25 k = J y → x = sX S.1 k + (j : Int) * dxI e → y = sY S.1 k + (j : Int) * dyI e → (-6 ≤ x ∧ x ≤ 13) → (-6 ≤ y ∧ y ≤ 13) → j + onw (opP S.1 k) e f (plc x y) = T → R none (d + 12) mX5_slide 47 [.ref 18, .int (J (k : Int)), .int (J e), .int (J (m : Int)), .int (J (j : Int)), .int (J 1), .null, .null] [] M1 Q := by
      intro f
      induction f with
      | zero =>
        intro j hj M1 x y g1 g0 g2 g3 g4 g5 g6 g7 g8 g9
        rw [onw] at g9
        refine b_X5_slide_47 ⟨fun c => absurd c one_ne, fun _ => ⟨fun _ => ?_, fun c => ?_⟩⟩
        · rw [show j = T by omega] at g5 g6 ⊢
          exact base M1 x y g1 g0 g2 g3 g4 g5 g6
        · simp (disch := omega) only [J_add, J_sub, J_mul, J_neg, J_bit, J_shl, J_shr, J_andn, J_and, J_or, J_xor, J_div, J_rem, J_lt, J_le, J_eq, J_lt0, J_le0, J_0le, J_0lt, J_eq0, vp_in_J, J_clamp, J_max, J_abs, Int.toNat_natCast, Int.reduceToNat, Int.reduceAdd, Int.reduceSub, Int.reduceMul, Int.reduceNeg, not_true_eq_false, not_false_eq_true] at c; omega
      | succ f ih =>
        intro j hj M1 x y g1 g0 g2 g3 g4 g5 g6 g7 g8 g9
        rw [onw] at g9
        have hpb := plc_back g7 g8
        have stop : ¬ (0 ≤ nb (plc x y) e ∧ opP S.1 k (nb (plc x y) e).toNat = true) → ∀ x6 x7 : Value, R none (d + 12) mX5_slide 47 [.ref 18, .int (J (k : Int)), .int (J e), .int (J (m : Int)), .int (J (j : Int)), .int (J 0), .null, .null] [] M1 Q := by
          intro hno _ _
          rw [if_neg hno] at g9
          refine b_X5_slide_47 ⟨fun _ => ?_, fun c => absurd rfl c⟩
          rw [show j = T by omega] at g5 g6 ⊢
          exact base M1 x y g1 g0 g2 g3 g4 g5 g6
        refine b_X5_slide_47 ⟨fun c => absurd c one_ne, fun _ => ⟨fun c => ?_, fun _ => ⟨vin (by omega) (by omega), r_dx he03 (ri_some ⟨vin (by omega) (by omega), r_dy he03 (ri_some ?_)⟩)⟩⟩⟩
        · simp (disch := omega) only [J_add, J_sub, J_mul, J_neg, J_bit, J_shl, J_shr, J_andn, J_and, J_or, J_xor, J_div, J_rem, J_lt, J_le, J_eq, J_lt0, J_le0, J_0le, J_0lt, J_eq0, vp_in_J, J_clamp, J_max, J_abs, Int.toNat_natCast, Int.reduceToNat, Int.reduceAdd, Int.reduceSub, Int.reduceMul, Int.reduceNeg, not_true_eq_false, not_false_eq_true] at c; omega
        · rw [nI2 (by omega), g3, g4, J_add, J_add]
          refine r_isSpot (b32 (by omega) (by omega)) (b32 (by omega) (by omega)) (ri_some ?_)
          rw [jb_ne, jb_eq0]
          refine ⟨fun c => ⟨fun _ => stop (fun g => ?_) .null .null, fun c2 => absurd rfl c2⟩, fun c => ?_⟩
          · have := nb_nospot (k := plc x y) (e := e) (by rw [hpb.1, hpb.2]; exact of_decide_eq_false c)
            omega
          · have c1 := of_decide_eq_true c
            have hnb := nb_spot (k := plc x y) (e := e) (by rw [hpb.1, hpb.2]; exact c1)
            rw [hpb.1, hpb.2] at hnb
            have hW1 := stLay_WF hW hk g7 g8
            have hT1 := MT.lay hC.1 g1 g2 g3 g4
            have hpb2 := plc_back c1.1 c1.2
            have hop : opP S.1 k (plc (x + dxI e) (y + dyI e)) = true ↔ stP S.1 (oth S.1 k) (sS S.1 k) (x + dxI e) (y + dyI e) := by
              rw [opn_P hW, hpb2.1, hpb2.2]
            refine r_stand hT1 hW1 hk c1.1 c1.2 (ri_some ?_)
            rw [oth_lay, jb_ne, jb_eq0, pb_t, pb_f]
            rw [show stP (stLay S.1 k x y) (oth S.1 k) (sS (stLay S.1 k x y) k) (x + dxI e) (y + dyI e) ↔ stP S.1 (oth S.1 k) (sS S.1 k) (x + dxI e) (y + dyI e) from stP_lay]
            refine ⟨fun c2 => ⟨fun _ => stop (fun g => ?_) .null .null, fun c3 => absurd rfl c3⟩, fun c2 => ⟨fun c3 => absurd c3 one_ne, fun _ => ⟨vin (by omega) (by omega), vin (by omega) (by omega), ?_⟩⟩⟩
            · have := g.2
              rw [hnb, Int.toNat_natCast] at this
              exact c2 (hop.mp this)
            · rw [if_pos ⟨by omega, by rw [hnb, Int.toNat_natCast]; exact hop.mpr c2⟩, hnb, Int.toNat_natCast] at g9
              rw [J_suc]
              refine ih (j + 1) (by omega) _ (x + dxI e) (y + dyI e) ⟨fun a i h1 h2 h3 h4 => by rw [mset_o h4, mset_o h3]; exact g1.1 a i h1 h2 h3 h4, fun a i h1 h2 => ?_⟩ (NF.set (NF.set g0 (by decide)) (by decide)) (by rw [mset_o (by decide), mset_o (by decide)]; exact g2) (by rw [mset_o (by decide), mset_self]) mset_self (by rw [g5, show ((j + 1 : Nat) : Int) = (j : Int) + 1 by omega, Int.add_mul]; omega) (by rw [g6, show ((j + 1 : Nat) : Int) = (j : Int) + 1 by omega, Int.add_mul]; omega) c1.1 c1.2 (by omega)
              rcases h1 with e1 | e1 | e1 <;> subst e1
              · rw [mset_o (by decide), mset_o (by decide)]; exact g1.2 23 i (by omega) h2
              · rw [mset_o (by decide), mset_k h2]; exact g1.2 24 i (by omega) h2
              · rw [mset_k h2, mset_o (by decide)]; exact g1.2 25 i (by omega) h2
    exact key m 0 (by omega) M (sX S.1 k) (sY S.1 k) ⟨fun _ _ _ _ _ _ => rfl, fun _ _ _ _ => rfl⟩ NF.rf (by rw [hC.1.lie (by omega), q5]; rfl) (hC.1.px q5) (hC.1.py q5) (by omega) (by omega) hxy.1 hxy.2 (by rw [Nat.zero_add]; exact hT')
  · rw [if_neg (fun g => by unfold lyB at g; rw [q5] at g; cases g)] at h
    exact h M hC NF.rf
theorem m_about {p w : Int} (hC : MR M S) (hO : OKS S) (hp : BI32 p) (hw : BI32 w) (h : ∀ M', MR M' S → NF M M' → Q (some (J (aAbout S p w))) M') : Mt (d + 12) mX5_about [.ref 18, .int (J p), .int (J w)] M Q := by
  have hW := hO.1
  have hN := hW.N
  have h0 := h M hC NF.rf
  unfold aAbout at h0
  refine e_X5_about (r_isPiece hC.1 hW hp (ri_some ?_))
  rw [jb_ne, jb_eq0]
  refine ⟨fun q => ?_, fun q => r_in hw (b32 (by omega) (by omega)) (b32 (by omega) (by omega)) (ri_some ?_)⟩
  · rw [if_neg (fun g => by rw [q] at g; cases g)] at h0; exact h0
  rw [jb_ne, jb_eq0]
  rw [if_pos q] at h0
  obtain ⟨k, rfl, hk⟩ := isPc_of q
  rw [Int.toNat_natCast] at h0
  have hs := hW.S hk
  have hV := vin (n := k) (N := 8) (by omega) (by omega)
  refine ⟨fun q2 => ?_, fun q2 => ?_⟩
  · have hw7 := of_decide_eq_true q2
    rw [J_toInt hw.1 hw.2, nI2 (by omega), hC.1.lie (by omega), jb_ne, jb_eq0]
    refine ⟨fun r => ⟨hV, fun l => ?_, fun l => ⟨hV, hV, ?_⟩⟩, fun r => ⟨hV, ?_⟩, fun r => ⟨hV, ?_⟩, fun r => ⟨hV, ?_⟩, fun r => ⟨hV, fun l => ?_, fun l => ⟨hV, ?_⟩⟩, fun r => ⟨hV, fun l => ?_, fun l => ⟨hV, ?_⟩⟩, fun r => ⟨hV, fun l => ?_, fun l => ?_⟩, fun r => ⟨hV, ?_⟩⟩
    · have h7 : w = 7 := by omega
      subst h7
      have : lyB S.1 k = false := l
      rw [this] at h0; exact h0
    · have h7 : w = 7 := by omega
      subst h7
      have : lyB S.1 k = true := l
      rw [this] at h0
      have hxy := hW.P l
      have hoc := obN_le S.1 (sS S.1 k) (sX S.1 k) (sY S.1 k) 25
      have hob := ob_out (σ := S.1) (s := sS S.1 k) (x := sX S.1 k) (y := sY S.1 k)
      rw [hC.1.px l, hC.1.py l]
      refine r_onBoard hC.1 hW hk hxy.1 hxy.2 (ri_some ?_)
      rw [J_eq0 (by omega) (by omega)]
      refine ⟨fun c => ?_, fun c => ?_⟩
      · rw [pb_f.mpr (fun g => c (by have := hob.mpr g; omega))] at h0; exact h0
      · rw [pb_t.mpr (hob.mp (by omega))] at h0; exact h0
    · subst r
      rw [hC.1.shp hk]
      exact r_squares hs (ri_some h0)
    · subst r
      rw [(hC.1.2.2.2.2.1 k hk).2.1]; exact h0
    · subst r
      rw [(hC.1.2.2.2.2.1 k hk).2.2]; exact h0
    · subst r
      have : lyB S.1 k = false := l
      rw [this] at h0; exact h0
    · subst r
      have : lyB S.1 k = true := l
      rw [this] at h0
      rw [hC.1.px l]; exact h0
    · subst r
      have : lyB S.1 k = false := l
      rw [this] at h0; exact h0
    · subst r
      have : lyB S.1 k = true := l
      rw [this] at h0
      rw [hC.1.py l]; exact h0
    · subst r
      have : lyB S.1 k = false := l
      rw [this] at h0; exact h0
    · subst r
      have : lyB S.1 k = true := l
      rw [this] at h0; exact h0
    · subst r
      rw [hC.1.shp hk]; exact h0
  · have hw7 := of_decide_eq_false q2
    rw [if_neg (by omega), if_neg (by omega), if_neg (by omega), if_neg (by omega), if_neg (by omega), if_neg (by omega), if_neg (by omega), if_neg (by omega)] at h0
    exact h0
theorem m_board {c r : Int} (hC : MR M S) (hO : OKS S) (hc : BI32 c) (hr : BI32 r) (h : ∀ M', MR M' (aBoard S c r).2 → NF M M' → Q (some (J (aBoard S c r).1)) M') : Mt (d + 12) mX5_board [.ref 18, .int (J c), .int (J r)] M Q := by
  refine e_X5_board (r_in hc (b32 (by omega) (by omega)) (b32 (by omega) (by omega)) (ri_some ?_))
  rw [jb_ne, jb_eq0]
  have bad : ¬ ((1 ≤ c ∧ c ≤ 12) ∧ (1 ≤ r ∧ r ≤ 10)) → Q (some (J (-1))) M := by
    intro q
    unfold aBoard at h
    rw [if_neg q] at h
    exact h M hC NF.rf
  refine ⟨fun q => bad (fun g => absurd g.1 (of_decide_eq_false q)), fun q => r_in hr (b32 (by omega) (by omega)) (b32 (by omega) (by omega)) (ri_some ?_)⟩
  rw [jb_ne, jb_eq0]
  refine ⟨fun q2 => ?_, fun q2 => bad (fun g => absurd g.2 (of_decide_eq_false q2))⟩
  unfold aBoard at h
  rw [if_pos ⟨of_decide_eq_true q, of_decide_eq_true q2⟩] at h
  obtain ⟨t1, t2, t3, t4, t5, t6, t7⟩ := hC.1
  have key2 : ∀ f j : Nat, j + f = 8 → ∀ M1 : Mem, NF M M1 → M1 18 0 = J c → M1 18 1 = J r → M1 18 3 = J (sN S.1 : Int) → (∀ i, i < 10 → M1 19 i = J 0) → (∀ a i, 20 ≤ a → a ≤ 22 → M1 a i = M a i) → (∀ i, i < j → M1 23 i = J 0) → R none (d + 12) mX5_board 55 [.ref 18, .int (J c), .int (J r), .int (J (j : Int))] [] M1 Q := by
    intro f
    induction f with
    | zero =>
      intro j hj M1 g0 g1 g2 g3 g4 g5 g6
      refine b_X5_board_55 ⟨fun _ => ?_, fun q => ?_⟩
      · rw [J_mul]
        refine h _ ⟨⟨by rw [mset_k (by decide)]; exact g1, by rw [mset_k (by decide)]; exact g2, by rw [mset_k (by decide)]; exact g3, fun i hi => by rw [mset_o (by decide)]; exact g4 i hi, fun p hp => ?_, fun p hp => ?_, fun p hp => ?_⟩, Or.inr ⟨mset_self, rfl⟩, fun i hi => absurd hi (Nat.not_lt_zero i)⟩ (NF.set g0 (by decide))
        · rw [mset_o (by decide), mset_o (by decide), mset_o (by decide), g5 _ _ (by decide) (by decide), g5 _ _ (by decide) (by decide), g5 _ _ (by decide) (by decide)]
          exact t5 p hp
        · rw [mset_o (by decide), g6 p (by omega)]
          show J 0 = jb ((0 : Nat).testBit p)
          rw [Nat.zero_testBit]; rfl
        · have hp2 : (0 : Nat).testBit p = true := hp
          rw [Nat.zero_testBit] at hp2
          cases hp2
      · simp (disch := omega) only [J_add, J_sub, J_mul, J_neg, J_bit, J_shl, J_shr, J_andn, J_and, J_or, J_xor, J_div, J_rem, J_lt, J_le, J_eq, J_lt0, J_le0, J_0le, J_0lt, J_eq0, vp_in_J, J_clamp, J_max, J_abs, Int.toNat_natCast, Int.reduceToNat, Int.reduceAdd, Int.reduceSub, Int.reduceMul, Int.reduceNeg, not_true_eq_false, not_false_eq_true] at q; omega
    | succ f ih =>
      intro j hj M1 g0 g1 g2 g3 g4 g5 g6
      refine b_X5_board_55 ⟨fun q => ?_, fun _ => ⟨vin (by omega) (by omega), ?_⟩⟩
      · simp (disch := omega) only [J_add, J_sub, J_mul, J_neg, J_bit, J_shl, J_shr, J_andn, J_and, J_or, J_xor, J_div, J_rem, J_lt, J_le, J_eq, J_lt0, J_le0, J_0le, J_0lt, J_eq0, vp_in_J, J_clamp, J_max, J_abs, Int.toNat_natCast, Int.reduceToNat, Int.reduceAdd, Int.reduceSub, Int.reduceMul, Int.reduceNeg, not_true_eq_false, not_false_eq_true] at q; omega
      · rw [J_suc, nI2 (by omega)]
        refine ih (j + 1) (by omega) _ (NF.set g0 (by decide)) (by rw [mset_o (by decide)]; exact g1) (by rw [mset_o (by decide)]; exact g2) (by rw [mset_o (by decide)]; exact g3) (fun i hi => by rw [mset_o (by decide)]; exact g4 i hi) (fun a i h1 h2 => by rw [mset_o (by omega)]; exact g5 a i h1 h2) (fun i hi => ?_)
        by_cases e : i = j
        · subst e; rw [mset_self]
        · rw [mset_k e]; exact g6 i (by omega)
  have key1 : ∀ f j : Nat, j + f = 10 → ∀ M1 : Mem, NF M M1 → M1 18 0 = J c → M1 18 1 = J r → M1 18 3 = J (sN S.1 : Int) → (∀ i, i < j → M1 19 i = J 0) → (∀ a i, 20 ≤ a → a ≤ 22 → M1 a i = M a i) → R none (d + 12) mX5_board 34 [.ref 18, .int (J c), .int (J r), .int (J (j : Int))] [] M1 Q := by
    intro f
    induction f with
    | zero =>
      intro j hj M1 g0 g1 g2 g3 g4 g5
      refine b_X5_board_34 ⟨fun _ => ?_, fun q => ?_⟩
      · exact key2 8 0 (by omega) M1 g0 g1 g2 g3 (fun i hi => g4 i (by omega)) g5 (fun i hi => by omega)
      · simp (disch := omega) only [J_add, J_sub, J_mul, J_neg, J_bit, J_shl, J_shr, J_andn, J_and, J_or, J_xor, J_div, J_rem, J_lt, J_le, J_eq, J_lt0, J_le0, J_0le, J_0lt, J_eq0, vp_in_J, J_clamp, J_max, J_abs, Int.toNat_natCast, Int.reduceToNat, Int.reduceAdd, Int.reduceSub, Int.reduceMul, Int.reduceNeg, not_true_eq_false, not_false_eq_true] at q; omega
    | succ f ih =>
      intro j hj M1 g0 g1 g2 g3 g4 g5
      refine b_X5_board_34 ⟨fun q => ?_, fun _ => ⟨vin (by omega) (by omega), ?_⟩⟩
      · simp (disch := omega) only [J_add, J_sub, J_mul, J_neg, J_bit, J_shl, J_shr, J_andn, J_and, J_or, J_xor, J_div, J_rem, J_lt, J_le, J_eq, J_lt0, J_le0, J_0le, J_0lt, J_eq0, vp_in_J, J_clamp, J_max, J_abs, Int.toNat_natCast, Int.reduceToNat, Int.reduceAdd, Int.reduceSub, Int.reduceMul, Int.reduceNeg, not_true_eq_false, not_false_eq_true] at q; omega
      · rw [J_suc, nI2 (by omega)]
        refine ih (j + 1) (by omega) _ (NF.set g0 (by decide)) (by rw [mset_o (by decide)]; exact g1) (by rw [mset_o (by decide)]; exact g2) (by rw [mset_o (by decide)]; exact g3) (fun i hi => ?_) (fun a i h1 h2 => by rw [mset_o (by omega)]; exact g5 a i h1 h2)
        by_cases e : i = j
        · subst e; rw [mset_self]
        · rw [mset_k e]; exact g4 i (by omega)
  exact key1 10 0 (by omega) _ (NF.set (NF.set NF.rf (by decide)) (by decide)) (by rw [mset_k (by decide), mset_self]) mset_self (by rw [mset_k (by decide), mset_k (by decide)]; exact t3) (fun i hi => by omega) (fun a i h1 h2 => by rw [mset_o (by omega), mset_o (by omega)])
theorem m_walls {y b : Int} (hC : MR M S) (hO : OKS S) (hy : BI32 y) (hb : BI32 b) (h : ∀ M', MR M' (aWalls S y b).2 → NF M M' → Q (some (J (aWalls S y b).1)) M') : Mt (d + 12) mX5_walls [.ref 18, .int (J y), .int (J b)] M Q := by
  have hW := hO.1
  have hN := hW.N
  have hT := hC.1
  have hCC := hW.C
  have hRR := hW.R
  have hfl := full_lt hW
  have bad : ¬ ((0 ≤ y ∧ y < sR S.1) ∧ (0 ≤ b ∧ b ≤ full S.1)) → Q (some (J (-1))) M := by
    intro q
    unfold aWalls at h
    rw [if_neg q] at h
    exact h M hC NF.rf
  refine e_X5_walls ?_
  rw [hT.2.1, J_sub]
  refine r_in hy (b32 (by omega) (by omega)) (b32 (by omega) (by omega)) (ri_some ?_)
  rw [jb_ne, jb_eq0]
  refine ⟨fun q => bad (fun g => ?_), fun q => ?_⟩
  · have := of_decide_eq_false q
    omega
  have hyr := of_decide_eq_true q
  have e1 : (1 : Int) * 2 ^ (sC S.1).toNat - 1 = ((full S.1 : Nat) : Int) := by
    have hp := Nat.two_pow_pos (sC S.1).toNat
    rw [Int.one_mul, show (2 : Int) ^ (sC S.1).toNat = ((2 ^ (sC S.1).toNat : Nat) : Int) by rw [Int.natCast_pow]; rfl]
    unfold full
    omega
  rw [hT.1, J_shl (by omega) (by omega), J_sub, e1]
  refine r_in hb (b32 (by omega) (by omega)) (b32 (by omega) (by omega)) (ri_some ?_)
  rw [jb_ne, jb_eq0]
  refine ⟨fun q2 => ?_, fun q2 => bad (fun g => absurd g.2 (of_decide_eq_false q2))⟩
  have hbr := of_decide_eq_true q2
  obtain ⟨m, rfl⟩ := J_nat hyr.1
  obtain ⟨n, rfl⟩ := J_nat hbr.1
  unfold aWalls at h
  rw [if_pos ⟨by omega, hbr⟩, Int.toNat_natCast, Int.toNat_natCast] at h
  have hn12 : ∀ c : Nat, n.testBit c = true → c < (sC S.1).toNat := by
    intro c hc
    rcases Nat.lt_or_ge c (sC S.1).toNat with r | r
    · exact r
    · have hp := Nat.two_pow_pos (sC S.1).toNat
      have hf : full S.1 = 2 ^ (sC S.1).toNat - 1 := rfl
      rw [Nat.testBit_lt_two_pow (Nat.lt_of_lt_of_le (show n < 2 ^ (sC S.1).toNat by omega) (Nat.pow_le_pow_right (by omega) r))] at hc
      cases hc
  have no : (∃ p c : Nat, (sL S.1).testBit p = true ∧ n.testBit c = true ∧ sq (sS S.1 p) (sX S.1 p) (sY S.1 p) c m = true) → Q (some (J (-2))) M := by
    intro g
    rw [if_pos (pb_t.mpr g)] at h
    exact h M hC NF.rf
  have key : ∀ f x : Nat, x + f = (sC S.1).toNat → (∀ p c : Nat, c < x → (sL S.1).testBit p = true → n.testBit c = true → ¬ sq (sS S.1 p) (sX S.1 p) (sY S.1 p) c m = true) → R none (d + 12) mX5_walls 34 [.ref 18, .int (J (m : Int)), .int (J (n : Int)), .int (J (x : Int)), .null] [] M Q := by
    intro f
    induction f with
    | zero =>
      intro x hx hno
      refine b_X5_walls_34 ⟨fun _ => ⟨vin (by omega) (by omega), ?_⟩, fun c => ?_⟩
      · rw [nI2 (by omega)]
        rw [if_neg (by rw [pb_t]; exact fun ⟨p, c, g1, g2, g3⟩ => hno p c (by have := hn12 c g2; omega) g1 g2 g3)] at h
        obtain ⟨t1, t2, t3, t4, t5, t6, t7⟩ := hT
        refine h _ ⟨⟨by rw [mset_o (by decide)]; exact t1, by rw [mset_o (by decide)]; exact t2, by rw [mset_o (by decide)]; exact t3, fun i hi => ?_, fun p hp => by rw [mset_o (by decide), mset_o (by decide), mset_o (by decide)]; exact t5 p hp, fun p hp => by rw [mset_o (by decide)]; exact t6 p hp, fun p hp => by rw [mset_o (by decide), mset_o (by decide)]; exact t7 p hp⟩, MS.keep hC.2 (mset_o (by decide)) (fun j => mset_o (by decide))⟩ (NF.set NF.rf (by decide))
        by_cases e : i = m
        · subst e; rw [mset_self]; exact congrArg (fun n : Nat => J (n : Int)) (upF_s (f := sW S.1)).symm
        · rw [mset_k e, t4 i hi]; exact congrArg (fun n : Nat => J (n : Int)) (upF_n e).symm
      · rw [hT.1] at c
        simp (disch := omega) only [J_add, J_sub, J_mul, J_neg, J_bit, J_shl, J_shr, J_andn, J_and, J_or, J_xor, J_div, J_rem, J_lt, J_le, J_eq, J_lt0, J_le0, J_0le, J_0lt, J_eq0, vp_in_J, J_clamp, J_max, J_abs, Int.toNat_natCast, Int.reduceToNat, Int.reduceAdd, Int.reduceSub, Int.reduceMul, Int.reduceNeg, not_true_eq_false, not_false_eq_true] at c; omega
    | succ f ih =>
      intro x hx hno
      have inner : ∀ g p : Nat, p + g = sN S.1 → (∀ p' : Nat, p' < p → (sL S.1).testBit p' = true → n.testBit x = true → ¬ sq (sS S.1 p') (sX S.1 p') (sY S.1 p') x m = true) → R none (d + 12) mX5_walls 45 [.ref 18, .int (J (m : Int)), .int (J (n : Int)), .int (J (x : Int)), .int (J (p : Int))] [] M Q := by
        intro g
        induction g with
        | zero =>
          intro p hp hn2
          refine b_X5_walls_45 ⟨fun _ => ?_, fun c => ?_⟩
          · rw [J_suc]
            refine ih (x + 1) (by omega) (fun p' c hc h1 h2 => ?_)
            by_cases e : c = x
            · subst e; exact hn2 p' (by have := hW.lp h1; omega) h1 h2
            · exact hno p' c (by omega) h1 h2
          · rw [hT.2.2.1] at c
            simp (disch := omega) only [J_add, J_sub, J_mul, J_neg, J_bit, J_shl, J_shr, J_andn, J_and, J_or, J_xor, J_div, J_rem, J_lt, J_le, J_eq, J_lt0, J_le0, J_0le, J_0lt, J_eq0, vp_in_J, J_clamp, J_max, J_abs, Int.toNat_natCast, Int.reduceToNat, Int.reduceAdd, Int.reduceSub, Int.reduceMul, Int.reduceNeg, not_true_eq_false, not_false_eq_true] at c; omega
        | succ g ihg =>
          intro p hp hn2
          have skip : ¬ ((sL S.1).testBit p = true ∧ n.testBit x = true ∧ sq (sS S.1 p) (sX S.1 p) (sY S.1 p) x m = true) → R none (d + 12) mX5_walls 45 [.ref 18, .int (J (m : Int)), .int (J (n : Int)), .int (J (x : Int)), .int (J ((p + 1 : Nat) : Int))] [] M Q := by
            intro hn
            refine ihg (p + 1) (by omega) (fun p' h1 h2 h3 h4 => ?_)
            by_cases e : p' = p
            · subst e; exact hn ⟨h2, h3, h4⟩
            · exact hn2 p' (by omega) h2 h3 h4
          refine b_X5_walls_45 ⟨fun c => ?_, fun _ => ?_⟩
          · rw [hT.2.2.1] at c
            simp (disch := omega) only [J_add, J_sub, J_mul, J_neg, J_bit, J_shl, J_shr, J_andn, J_and, J_or, J_xor, J_div, J_rem, J_lt, J_le, J_eq, J_lt0, J_le0, J_0le, J_0lt, J_eq0, vp_in_J, J_clamp, J_max, J_abs, Int.toNat_natCast, Int.reduceToNat, Int.reduceAdd, Int.reduceSub, Int.reduceMul, Int.reduceNeg, not_true_eq_false, not_false_eq_true] at c; omega
          · rw [J_tb (by omega) (by omega), jb_eq1, J_suc, nI2 (by omega), hT.lie (by omega), jb_ne, jb_eq0]
            refine ⟨fun c => skip (fun g => c g.2.1), fun c => ⟨vin (by omega) (by omega), fun c2 => skip (fun g => by rw [c2] at g; cases g.1), fun c2 => ⟨vin (by omega) (by omega), vin (by omega) (by omega), ?_⟩⟩⟩
            have hxy := hW.P c2
            rw [hT.px c2, hT.py c2]
            refine r_has hT hW (by omega) (by omega) (by omega) (by omega) (by omega) (ri_some ?_)
            rw [jb_ne, jb_eq0]
            exact ⟨fun c3 => skip (fun g => by rw [c3] at g; cases g.2.2), fun c3 => no ⟨p, x, c2, c, c3⟩⟩
      refine b_X5_walls_34 ⟨fun c => ?_, fun _ => inner (sN S.1) 0 (by omega) (fun p' hp' => by omega)⟩
      rw [hT.1] at c
      simp (disch := omega) only [J_add, J_sub, J_mul, J_neg, J_bit, J_shl, J_shr, J_andn, J_and, J_or, J_xor, J_div, J_rem, J_lt, J_le, J_eq, J_lt0, J_le0, J_0le, J_0lt, J_eq0, vp_in_J, J_clamp, J_max, J_abs, Int.toNat_natCast, Int.reduceToNat, Int.reduceAdd, Int.reduceSub, Int.reduceMul, Int.reduceNeg, not_true_eq_false, not_false_eq_true] at c; omega
  exact key (sC S.1).toNat 0 (by omega) (fun p c hc => by omega)
theorem rowCount {n C : Nat} (h : n < 2 ^ C) (hC : C ≤ 25) : sumN (fun i => n / 2 ^ i % 2) C = pcR 25 n := by
  rw [pcR_sum, show 25 = C + (25 - C) by omega, sumN_add, (sumN_0 _ (25 - C)).mpr (fun i hi => ?_), Nat.add_zero]
  rw [Nat.div_eq_of_lt (Nat.lt_of_lt_of_le h (Nat.pow_le_pow_right (by omega) (by omega)))]
theorem m_count {w : Int} (hC : MR M S) (hO : OKS S) (hw : BI32 w) (h : ∀ M', MR M' S → NF M M' → Q (some (J (aCount S w))) M') : Mt (d + 12) mX5_count [.ref 18, .int (J w)] M Q := by
  have hW := hO.1
  have hT := hC.1
  have hl := hW.L
  have hCC := hW.C
  have hRR := hW.R
  obtain ⟨hw1, hw2⟩ := hw
  have h0 := h M hC NF.rf
  unfold aCount at h0
  have key : ∀ f y : Nat, y + f = (sR S.1).toNat → R none (d + 12) mX5_count 4 [.ref 18, .int (J w), .int (J (sumN (fun y => pcR 25 (sW S.1 y)) y : Nat)), .int (J (y : Int)), .null] [] M Q := by
    intro f
    induction f with
    | zero =>
      intro y hy
      have htot : sumN (fun y => pcR 25 (sW S.1 y)) y = sumN (fun y => pcR 25 (sW S.1 y)) 10 := by
        rw [show 10 = y + (10 - y) by omega, sumN_add, (sumN_0 _ (10 - y)).mpr (fun i hi => ?_), Nat.add_zero]
        rw [hW.2.2.2.2.1 (y + i) (by omega)]; rfl
      refine b_X5_count_4 ⟨fun _ => ?_, fun c => ?_⟩
      · rw [J_toInt hw1 hw2, hT.1, hT.2.1, hT.2.2.1, htot]
        refine ⟨fun q => ?_, fun q => ?_, fun q => ?_, fun q => ?_, fun q => r_lying hT hW (ri_some (r_bits (by omega) (ri_some ?_))), fun q => ?_⟩
        · rw [if_neg (by omega), if_neg (by omega), if_neg (by omega), if_neg (by omega), if_neg (by omega)] at h0; exact h0
        · rw [if_pos q] at h0; exact h0
        · rw [if_neg (by omega), if_pos q] at h0; exact h0
        · rw [if_neg (by omega), if_neg (by omega), if_pos q] at h0; exact h0
        · rw [if_neg (by omega), if_neg (by omega), if_neg (by omega), if_pos q, pcR_small hl] at h0; exact h0
        · rw [if_neg (by omega), if_neg (by omega), if_neg (by omega), if_neg (by omega), if_pos q] at h0; exact h0
      · rw [hT.2.1] at c
        simp (disch := omega) only [J_add, J_sub, J_mul, J_neg, J_bit, J_shl, J_shr, J_andn, J_and, J_or, J_xor, J_div, J_rem, J_lt, J_le, J_eq, J_lt0, J_le0, J_0le, J_0lt, J_eq0, vp_in_J, J_clamp, J_max, J_abs, Int.toNat_natCast, Int.reduceToNat, Int.reduceAdd, Int.reduceSub, Int.reduceMul, Int.reduceNeg, not_true_eq_false, not_false_eq_true] at c; omega
    | succ f ih =>
      intro y hy
      have hwy := hW.2.2.2.1 y (by omega)
      have hwy2 := hW.W (show y < 10 by omega)
      have inner : ∀ g x : Nat, x + g = (sC S.1).toNat → R none (d + 12) mX5_count 15 [.ref 18, .int (J w), .int (J ((sumN (fun y => pcR 25 (sW S.1 y)) y + sumN (fun i => sW S.1 y / 2 ^ i % 2) x : Nat) : Int)), .int (J (y : Int)), .int (J (x : Int))] [] M Q := by
        intro g
        induction g with
        | zero =>
          intro x hx
          refine b_X5_count_15 ⟨fun _ => ?_, fun c => ?_⟩
          · rw [J_suc]
            have ih2 := ih (y + 1) (by omega)
            rw [sumN, ← rowCount hwy (by omega)] at ih2
            rw [show x = (sC S.1).toNat by omega]
            exact ih2
          · rw [hT.1] at c
            simp (disch := omega) only [J_add, J_sub, J_mul, J_neg, J_bit, J_shl, J_shr, J_andn, J_and, J_or, J_xor, J_div, J_rem, J_lt, J_le, J_eq, J_lt0, J_le0, J_0le, J_0lt, J_eq0, vp_in_J, J_clamp, J_max, J_abs, Int.toNat_natCast, Int.reduceToNat, Int.reduceAdd, Int.reduceSub, Int.reduceMul, Int.reduceNeg, not_true_eq_false, not_false_eq_true] at c; omega
        | succ g ihg =>
          intro x hx
          refine b_X5_count_15 ⟨fun c => ?_, fun _ => ⟨vin (by omega) (by omega), ?_⟩⟩
          · rw [hT.1] at c
            simp (disch := omega) only [J_add, J_sub, J_mul, J_neg, J_bit, J_shl, J_shr, J_andn, J_and, J_or, J_xor, J_div, J_rem, J_lt, J_le, J_eq, J_lt0, J_le0, J_0le, J_0lt, J_eq0, vp_in_J, J_clamp, J_max, J_abs, Int.toNat_natCast, Int.reduceToNat, Int.reduceAdd, Int.reduceSub, Int.reduceMul, Int.reduceNeg, not_true_eq_false, not_false_eq_true] at c; omega
          · have ih2 := ihg (x + 1) (by omega)
            rw [nI2 (by omega), hT.2.2.2.1 y (by omega), J_shrN (by omega) (by omega), show J 1 = J ((1 : Nat) : Int) from rfl, J_andN, Nat.and_one_is_mod, J_addN, J_addN]
            rw [sumN, ← Nat.add_assoc] at ih2
            exact ih2
      refine b_X5_count_4 ⟨fun c => ?_, fun _ => inner (sC S.1).toNat 0 (by omega)⟩
      rw [hT.2.1] at c
      simp (disch := omega) only [J_add, J_sub, J_mul, J_neg, J_bit, J_shl, J_shr, J_andn, J_and, J_or, J_xor, J_div, J_rem, J_lt, J_le, J_eq, J_lt0, J_le0, J_0le, J_0lt, J_eq0, vp_in_J, J_clamp, J_max, J_abs, Int.toNat_natCast, Int.reduceToNat, Int.reduceAdd, Int.reduceSub, Int.reduceMul, Int.reduceNeg, not_true_eq_false, not_false_eq_true] at c; omega
  exact e_X5_count (key (sR S.1).toNat 0 (by omega))
end MRE
