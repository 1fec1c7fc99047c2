/-! the reference: apart -/
def stL (σ : St) (l : Nat) : St := mkSt (sC σ) (sR σ) (sN σ) (sW σ) (sS σ) l (sX σ) (sY σ)
theorem subS_lt {left L n : Nat} (h : subS left L) (hL : L < 2 ^ n) : left < 2 ^ n := by
  apply Nat.lt_pow_two_of_testBit
  intro i hi
  rw [← Bool.not_eq_true]
  intro g
  have h1 := h i g
  rw [Nat.testBit_lt_two_pow (Nat.lt_of_lt_of_le hL (Nat.pow_le_pow_right (by omega) hi))] at h1
  cases h1
theorem stL_WF {σ : St} {left : Nat} (hW : WF σ) (h : subS left (sL σ)) : WF (stL σ left) := by
  obtain ⟨h1, h2, h3, h4, h5, h6, h7, h8⟩ := hW
  exact ⟨h1, h2, h3, h4, h5, h6, subS_lt h h7, fun p hp => h8 p (h p hp)⟩
theorem stL_blkd {σ : St} {left o : Nat} (h : subS left (sL σ)) (ho : subS o left) {c r : Int} : blkd (stL σ left) o c r ↔ blkd σ o c r := by
  unfold blkd
  constructor
  · rintro (g | ⟨p, g1, g2, g3⟩)
    · exact Or.inl g
    · exact Or.inr ⟨p, g1, h p g2, g3⟩
  · rintro (g | ⟨p, g1, g2, g3⟩)
    · exact Or.inl g
    · exact Or.inr ⟨p, g1, ho p g1, g3⟩
theorem stL_stP {σ : St} {left o s : Nat} {x y : Int} (h : subS left (sL σ)) (ho : subS o left) : stP (stL σ left) o s x y ↔ stP σ o s x y := by
  unfold stP
  constructor
  · intro g c r hc hb; exact g c r hc ((stL_blkd h ho).mpr hb)
  · intro g c r hc hb; exact g c r hc ((stL_blkd h ho).mp hb)
theorem wo_subS (a b : Nat) : subS (wo a b) a := fun p hp => by
  rw [wo_bit, Bool.and_eq_true] at hp
  exact hp.1
theorem stL_SOK {σ : St} {left : Nat} (h : subS left (sL σ)) (hS : SOK σ) : SOK (stL σ left) := by
  intro p hp
  refine (stL_stP h (wo_subS _ _)).mpr (fun c r hc hb => ?_)
  refine hS p (h p hp) c r hc ?_
  rcases hb with g | ⟨o, g1, g2, g3⟩
  · exact Or.inl g
  · refine Or.inr ⟨o, ?_, g2, g3⟩
    rw [wo_bit, Bool.and_eq_true] at g1 ⊢
    exact ⟨g2, g1.2⟩
theorem stL_out {σ : St} {left p : Nat} (hW : WF σ) (h : subS left (sL σ)) : outN (stL σ left) (oth (stL σ left) p) p = outN σ (wo left (2 ^ p)) p := by
  have e : opn (stL σ left) (wo left (2 ^ p)) (sS σ p) = opn σ (wo left (2 ^ p)) (sS σ p) := by
    funext k
    rw [Bool.eq_iff_iff, opn_P (stL_WF hW h), opn_P hW]
    exact stL_stP h (wo_subS _ _)
  show fOut (oun σ (sS σ p)) (src (opn (stL σ left) (wo left (2 ^ p)) (sS σ p)) (whP σ p)) (src (opn (stL σ left) (wo left (2 ^ p)) (sS σ p)) (whP σ p)).2 = _
  rw [e]; rfl
/-- all but who lies -/
def TF (M M' : Mem) : Prop := ∀ a j, a < 27 → a ≠ 23 → M' a j = M a j
theorem TF.rf {M : Mem} : TF M M := fun _ _ _ _ => rfl
theorem QF.TF {M M' : Mem} (h : QF M M') : TF M M' := fun a j q _ => h a j q
theorem TF.tr {M M1 M2 : Mem} (h : TF M M1) (g : TF M1 M2) : TF M M2 := fun a j q1 q2 => (g a j q1 q2).trans (h a j q1 q2)
theorem TF.set {M M1 : Mem} (h : TF M M1) {k : Nat} {v : Int32} : TF M (mset M1 23 k v) := fun a j q1 q2 => by rw [mset_o q2]; exact h a j q1 q2
theorem TF.MT {M M' : Mem} {σ : St} {left : Nat} (hT : MT M σ) (g : TF M M') (hs : subS left (sL σ)) (hl : ∀ p, p < 8 → M' 23 p = jb (left.testBit p)) : MT M' (stL σ left) := by
  obtain ⟨t1, t2, t3, t4, t5, t6, t7⟩ := hT
  refine ⟨by rw [g _ _ (by decide) (by decide)]; exact t1, by rw [g _ _ (by decide) (by decide)]; exact t2, by rw [g _ _ (by decide) (by decide)]; exact t3, fun y hy => by rw [g _ _ (by decide) (by decide)]; exact t4 y hy, fun p hp => ?_, hl, fun p hp => ?_⟩
  · rw [g _ _ (by decide) (by decide), g _ _ (by decide) (by decide), g _ _ (by decide) (by decide)]; exact t5 p hp
  · rw [g _ _ (by decide) (by decide), g _ _ (by decide) (by decide)]; exact t7 p (hs p hp)
theorem jb0 {b : Bool} (h : b = false) : jb b = J 0 := by rw [h]; rfl
theorem jb1 {b : Bool} (h : b = true) : jb b = J 1 := by rw [h]; rfl
theorem TF.back {M M' : Mem} {S : SS} (h : MR M S) (g : TF M M') (hl : ∀ p, p < 8 → M' 23 p = jb ((sL S.1).testBit p)) : MR M' S := by
  obtain ⟨hT, hs1, hs2⟩ := h
  exact ⟨TF.MT hT g (subS_rf _) hl, by rw [g _ _ (by decide) (by decide)]; exact hs1, fun i hi => by rw [g _ _ (by decide) (by decide)]; exact hs2 i hi⟩
theorem TF.NF {M M' : Mem} (h : TF M M') : NF M M' := fun a j q => h a j (by omega) (by omega)
section MA
variable {d : Nat} {M : Mem} {Q : Post}
theorem m_apart {S : SS} {i : Int} (hC : MR M S) (hO : OKS S) (hi : BI32 i) (h : ∀ M', MR M' S → NF M M' → Q (some (J (aApart S i))) M') : Mt (d + 12) mX5_apart [.ref 18, .int (J i)] M Q := by
  have hW := hO.1
  have hN := hW.N
  have hl := hW.L
  have hT := hC.1
  obtain ⟨hi1, hi2⟩ := hi
  unfold aApart at h
  refine e_X5_apart ⟨fun q2 => ?_, fun q2 => ?_⟩
  · simp (disch := omega) only [J_add, J_sub, J_mul, J_neg, J_bit, J_shl, J_shr, J_andn, J_and, J_or, J_xor, J_div, J_rem, J_lt, J_le, J_eq, J_lt0, J_le0, J_0le, J_0lt, J_eq0, vp_in_J, J_clamp, J_max, J_abs, Int.toNat_natCast, Int.reduceToNat, Int.reduceAdd, Int.reduceSub, Int.reduceMul, Int.reduceNeg, not_true_eq_false, not_false_eq_true] at q2
    rw [if_pos q2] at h
    refine r_lying hT hW (ri_some ?_)
    have fin : ∀ (M1 : Mem) (l : List Int) (left : Nat) (x4 : Int32), (l, left) = clr S.1 (-1) 8 (sL S.1) → subS left (sL S.1) → TF M M1 → (∀ p, p < 8 → M1 23 p = jb (left.testBit p)) → R none (d + 12) mX5_apart 21 [.ref 18, .int (J i), .int (J (sL S.1 : Int)), .int (J (if i < 0 then -4 else l.getD i.toNat (-4))), .int x4, .int (J 0), .null, .null] [] M1 Q := by
      intro M1 l left x4 hc hs hF hM
      have hltl := subS_lt hs (show sL S.1 < 2 ^ 8 by omega)
      unfold told at h
      rw [← hc] at h
      dsimp only at h
      refine b_X5_apart_21 ⟨fun _ => r_lying (TF.MT hT hF hs hM) (stL_WF hW hs) (ri_some ?_), fun c => absurd rfl c⟩
      show R none (d + 12) mX5_apart 129 [.ref 18, .int (J i), .int (J (sL S.1 : Int)), .int (J (if i < 0 then -4 else l.getD i.toNat (-4))), .null, .null, .int (J (left : Int)), .int (J 0)] [] M1 Q
      have key : ∀ f p : Nat, p + f = sN S.1 → ∀ M2 : Mem, TF M M2 → (∀ j, j < p → M2 23 j = jb ((sL S.1).testBit j)) → (∀ j, p ≤ j → j < 8 → M2 23 j = jb (left.testBit j)) → R none (d + 12) mX5_apart 129 [.ref 18, .int (J i), .int (J (sL S.1 : Int)), .int (J (if i < 0 then -4 else l.getD i.toNat (-4))), .null, .null, .int (J (left : Int)), .int (J (p : Int))] [] M2 Q := by
        intro f
        induction f with
        | zero =>
          intro p hp M2 hF2 g1 g2
          have hall : ∀ j, j < 8 → M2 23 j = jb ((sL S.1).testBit j) := by
            intro j hj
            rcases Nat.lt_or_ge j p with r | r
            · exact g1 j r
            · rw [g2 j r hj]
              congr 1
              rw [Bool.eq_iff_iff]
              exact ⟨fun g => hs j g, fun g => by have := hW.lp g; omega⟩
          have h2 := h M2 (TF.back hC hF2 hall) hF2.NF
          refine b_X5_apart_129 ⟨fun _ => ⟨fun c => ?_, fun c => ?_⟩, fun c => ?_⟩
          · simp (disch := omega) only [J_add, J_sub, J_mul, J_neg, J_bit, J_shl, J_shr, J_andn, J_and, J_or, J_xor, J_div, J_rem, J_lt, J_le, J_eq, J_lt0, J_le0, J_0le, J_0lt, J_eq0, vp_in_J, J_clamp, J_max, J_abs, Int.toNat_natCast, Int.reduceToNat, Int.reduceAdd, Int.reduceSub, Int.reduceMul, Int.reduceNeg, not_true_eq_false, not_false_eq_true] at c
            rw [if_neg (by omega)] at h2 ⊢
            exact h2
          · simp (disch := omega) only [J_add, J_sub, J_mul, J_neg, J_bit, J_shl, J_shr, J_andn, J_and, J_or, J_xor, J_div, J_rem, J_lt, J_le, J_eq, J_lt0, J_le0, J_0le, J_0lt, J_eq0, vp_in_J, J_clamp, J_max, J_abs, Int.toNat_natCast, Int.reduceToNat, Int.reduceAdd, Int.reduceSub, Int.reduceMul, Int.reduceNeg, not_true_eq_false, not_false_eq_true] at c
            rw [if_pos (by omega)] at h2
            exact h2
          · rw [hF2 18 3 (by decide) (by decide), hT.2.2.1] at c
            simp (disch := omega) only [J_add, J_sub, J_mul, J_neg, J_bit, J_shl, J_shr, J_andn, J_and, J_or, J_xor, J_div, J_rem, J_lt, J_le, J_eq, J_lt0, J_le0, J_0le, J_0lt, J_eq0, vp_in_J, J_clamp, J_max, J_abs, Int.toNat_natCast, Int.reduceToNat, Int.reduceAdd, Int.reduceSub, Int.reduceMul, Int.reduceNeg, not_true_eq_false, not_false_eq_true] at c; omega
        | succ f ih =>
          intro p hp M2 hF2 g1 g2
          have nxt : ∀ v : Int32, v = jb ((sL S.1).testBit p) → R none (d + 12) mX5_apart 129 [.ref 18, .int (J i), .int (J (sL S.1 : Int)), .int (J (if i < 0 then -4 else l.getD i.toNat (-4))), .null, .null, .int (J (left : Int)), .int (J ((p + 1 : Nat) : Int))] [] (mset M2 23 p v) Q := by
            intro v hv
            refine ih (p + 1) (by omega) _ hF2.set (fun j hj => ?_) (fun j hj1 hj2 => ?_)
            · by_cases e : j = p
              · subst e; rw [mset_self, hv]
              · rw [mset_k e]; exact g1 j (by omega)
            · rw [mset_k (by omega)]; exact g2 j (by omega) hj2
          refine b_X5_apart_129 ⟨fun c => ?_, fun _ => ?_⟩
          · rw [hF2 18 3 (by decide) (by decide), hT.2.2.1] at c
            simp (disch := omega) only [J_add, J_sub, J_mul, J_neg, J_bit, J_shl, J_shr, J_andn, J_and, J_or, J_xor, J_div, J_rem, J_lt, J_le, J_eq, J_lt0, J_le0, J_0le, J_0lt, J_eq0, vp_in_J, J_clamp, J_max, J_abs, Int.toNat_natCast, Int.reduceToNat, Int.reduceAdd, Int.reduceSub, Int.reduceMul, Int.reduceNeg, not_true_eq_false, not_false_eq_true] at c; omega
          · rw [J_tb (by omega) (by omega), jb_eq1, J_suc, nI2 (by omega)]
            refine ⟨fun c => ⟨vin (by omega) (by omega), nxt _ ?_⟩, fun c => ⟨vin (by omega) (by omega), nxt _ ?_⟩⟩
            · rw [Bool.not_eq_true] at c; rw [c]; rfl
            · rw [c]; rfl
      exact key (sN S.1) 0 (by omega) M1 hF (fun j hj => by omega) (fun j _ hj => hM j hj)
    have sweep : ∀ (M1 : Mem) (n left : Nat) (fd : Int), n ≤ 8 → subS left (sL S.1) → left < 256 → TF M M1 → (∀ p, p < 8 → M1 23 p = jb (left.testBit p)) → (∀ M2, TF M M2 → (∀ p, p < 8 → M2 23 p = jb (left.testBit p)) → lowF S.1 (-1) left < 0 → R none (d + 12) mX5_apart 21 [.ref 18, .int (J i), .int (J (sL S.1 : Int)), .int (J fd), .int (J (n : Int)), .int (J 0), .null, .null] [] M2 Q) → (∀ (M2 : Mem) (q : Nat), lowF S.1 (-1) left = (q : Int) → q < 8 → left.testBit q = true → TF M M2 → (∀ p, p < 8 → M2 23 p = jb ((wo left (2 ^ q)).testBit p)) → R none (d + 12) mX5_apart 21 [.ref 18, .int (J i), .int (J (sL S.1 : Int)), .int (J (if (n : Int) = i then (q : Int) else fd)), .int (J ((n + 1 : Nat) : Int)), .int (J 1), .null, .null] [] M2 Q) → R none (d + 12) mX5_apart 21 [.ref 18, .int (J i), .int (J (sL S.1 : Int)), .int (J fd), .int (J (n : Int)), .int (J 1), .null, .null] [] M1 Q := by
      intro M1 n left fd hn8 hs hlt hF hM k1 k2
      have hgo : ∀ p, goF S.1 (-1) left p = (left.testBit p && decide (0 ≤ outN S.1 (wo left (2 ^ p)) p)) := fun p => by unfold goF; rw [if_pos rfl]
      have hpast : ∀ j, sN S.1 ≤ j → goF S.1 (-1) left j = false := by
        intro j hj
        rw [← Bool.not_eq_true]
        intro g
        have := hW.lp (hs j (goF_L g))
        omega
      have key : ∀ f : Nat, ∀ e who : Int, e + 1 = (f : Int) → e < (sN S.1 : Int) → ∀ M2 : Mem, TF M M2 → (∀ p, p < 8 → M2 23 p = jb (left.testBit p)) → ((who = -1 ∧ ∀ j : Nat, e < (j : Int) → goF S.1 (-1) left j = false) ∨ ∃ q : Nat, who = (q : Int) ∧ e < (q : Int) ∧ goF S.1 (-1) left q = true ∧ ∀ j : Nat, e < (j : Int) → j < q → goF S.1 (-1) left j = false) → R none (d + 12) mX5_apart 37 [.ref 18, .int (J i), .int (J (sL S.1 : Int)), .int (J fd), .int (J (n : Int)), .null, .int (J who), .int (J e)] [] M2 Q := by
        intro f
        induction f with
        | zero =>
          intro e who he heN M2 hF2 hM2 hinv
          refine b_X5_apart_37 ⟨fun _ => ?_, fun c => ?_⟩
          · rcases hinv with ⟨g1, g2⟩ | ⟨q, g1, g2, g3, g4⟩
            · have hlow : lowF S.1 (-1) left = -4 := lowF_no (fun j _ => g2 j (by omega))
              refine ⟨fun _ => ⟨fun _ => k1 M2 hF2 hM2 (by omega), fun c => absurd rfl c⟩, fun c => ?_⟩
              simp (disch := omega) only [J_add, J_sub, J_mul, J_neg, J_bit, J_shl, J_shr, J_andn, J_and, J_or, J_xor, J_div, J_rem, J_lt, J_le, J_eq, J_lt0, J_le0, J_0le, J_0lt, J_eq0, vp_in_J, J_clamp, J_max, J_abs, Int.toNat_natCast, Int.reduceToNat, Int.reduceAdd, Int.reduceSub, Int.reduceMul, Int.reduceNeg, not_true_eq_false, not_false_eq_true] at c; omega
            · have hqN : q < sN S.1 := by
                rcases Nat.lt_or_ge q (sN S.1) with r | r
                · exact r
                · rw [hpast q r] at g3; cases g3
              have hlow := lowF_at (show q < 8 by omega) g3 (fun j hj => g4 j (by omega) hj)
              have hM3 : ∀ p, p < 8 → mset M2 23 q (J 0) 23 p = jb ((wo left (2 ^ q)).testBit p) := by
                intro p hp
                rw [wo_bit, Nat.testBit_two_pow]
                by_cases e1 : p = q
                · subst e1
                  rw [mset_self, decide_eq_true rfl, Bool.not_true, Bool.and_false]; rfl
                · rw [mset_k e1, decide_eq_false (fun g => e1 g.symm), Bool.not_false, Bool.and_true]
                  exact hM2 p hp
              have k3 := k2 (mset M2 23 q (J 0)) q hlow (by omega) (goF_L g3) hF2.set hM3
              rw [g1]
              refine ⟨fun c => ?_, fun _ => ⟨fun c => absurd c one_ne, fun _ => ?_⟩⟩
              · simp (disch := omega) only [J_add, J_sub, J_mul, J_neg, J_bit, J_shl, J_shr, J_andn, J_and, J_or, J_xor, J_div, J_rem, J_lt, J_le, J_eq, J_lt0, J_le0, J_0le, J_0lt, J_eq0, vp_in_J, J_clamp, J_max, J_abs, Int.toNat_natCast, Int.reduceToNat, Int.reduceAdd, Int.reduceSub, Int.reduceMul, Int.reduceNeg, not_true_eq_false, not_false_eq_true] at c; omega
              · rw [J_eq (by omega) (by omega) (by omega) (by omega), J_suc, nI2 (by omega)]
                refine ⟨fun c => ⟨vin (by omega) (by omega), ?_⟩, fun c => ⟨vin (by omega) (by omega), ?_⟩⟩
                · rw [if_neg c] at k3; exact k3
                · rw [if_pos c] at k3; exact k3
          · simp (disch := omega) only [J_add, J_sub, J_mul, J_neg, J_bit, J_shl, J_shr, J_andn, J_and, J_or, J_xor, J_div, J_rem, J_lt, J_le, J_eq, J_lt0, J_le0, J_0le, J_0lt, J_eq0, vp_in_J, J_clamp, J_max, J_abs, Int.toNat_natCast, Int.reduceToNat, Int.reduceAdd, Int.reduceSub, Int.reduceMul, Int.reduceNeg, not_true_eq_false, not_false_eq_true] at c; omega
        | succ f ih =>
          intro e who he heN M2 hF2 hM2 hinv
          obtain ⟨p, hp⟩ := J_nat (show 0 ≤ e by omega)
          subst hp
          have hWl := stL_WF hW hs
          have hTl := TF.MT hT hF2 hs hM2
          have keep : ∀ M3, TF M M3 → (∀ p, p < 8 → M3 23 p = jb (left.testBit p)) → goF S.1 (-1) left p = false → R none (d + 12) mX5_apart 37 [.ref 18, .int (J i), .int (J (sL S.1 : Int)), .int (J fd), .int (J (n : Int)), .null, .int (J who), .int (J ((p : Int) + -1))] [] M3 Q := by
            intro M3 hF3 hM3 hg
            refine ih ((p : Int) + -1) who (by omega) (by omega) M3 hF3 hM3 ?_
            rcases hinv with ⟨g1, g2⟩ | ⟨q, g1, g2, g3, g4⟩
            · left
              refine ⟨g1, fun j hj => ?_⟩
              by_cases ej : j = p
              · subst ej; exact hg
              · exact g2 j (by omega)
            · right
              refine ⟨q, g1, by omega, g3, fun j hj hjq => ?_⟩
              by_cases ej : j = p
              · subst ej; exact hg
              · exact g4 j (by omega) hjq
          refine b_X5_apart_37 ⟨fun c => ?_, fun _ => ⟨vin (by omega) (by omega), ?_⟩⟩
          · simp (disch := omega) only [J_add, J_sub, J_mul, J_neg, J_bit, J_shl, J_shr, J_andn, J_and, J_or, J_xor, J_div, J_rem, J_lt, J_le, J_eq, J_lt0, J_le0, J_0le, J_0lt, J_eq0, vp_in_J, J_clamp, J_max, J_abs, Int.toNat_natCast, Int.reduceToNat, Int.reduceAdd, Int.reduceSub, Int.reduceMul, Int.reduceNeg, not_true_eq_false, not_false_eq_true] at c; omega
          · rw [nI2 (by omega), hM2 p (by omega), jb_ne, jb_eq0, J_add]
            refine ⟨fun c => keep M2 hF2 hM2 (by rw [hgo, c, Bool.false_and]), fun c => r_outOf hTl hWl (stL_SOK hs hO.2.1) c (fun M3 hF3 => ri_some ?_)⟩
            rw [stL_out hW hs]
            have hob := outN_b S.1 (wo left (2 ^ p)) p
            have hF4 := hF2.tr hF3.TF
            have hM4 : ∀ p, p < 8 → M3 23 p = jb (left.testBit p) := fun p hp => by rw [hF3 _ _ (by decide)]; exact hM2 p hp
            rw [J_lt0 (by omega) (by omega)]
            refine ⟨fun c2 => keep M3 hF4 hM4 (by rw [hgo, decide_eq_false (by omega), Bool.and_false]), fun c2 => ?_⟩
            exact ih ((p : Int) + -1) (p : Int) (by omega) (by omega) M3 hF4 hM4 (Or.inr ⟨p, rfl, by omega, by rw [hgo, c, decide_eq_true (by omega)]; rfl, fun j hj hjq => by omega⟩)
      refine b_X5_apart_21 ⟨fun c => absurd c one_ne, fun _ => ?_⟩
      rw [hF 18 3 (by decide) (by decide), hT.2.2.1, J_sub]
      exact key (sN S.1) _ (-1) (by omega) (by omega) M1 hF hM (Or.inl ⟨rfl, fun j hj => hpast j (by omega)⟩)
    have key : ∀ f : Nat, ∀ (M1 : Mem) (l : List Int) (left : Nat), l.length + f = 8 → subS left (sL S.1) → left < 256 → pcR 8 left ≤ f → (l ++ (clr S.1 (-1) f left).1, (clr S.1 (-1) f left).2) = clr S.1 (-1) 8 (sL S.1) → TF M M1 → (∀ p, p < 8 → M1 23 p = jb (left.testBit p)) → R none (d + 12) mX5_apart 21 [.ref 18, .int (J i), .int (J (sL S.1 : Int)), .int (J (if i < 0 then -4 else l.getD i.toNat (-4))), .int (J (l.length : Int)), .int (J 1), .null, .null] [] M1 Q := by
      intro f
      induction f with
      | zero =>
        intro M1 l left hlen hs hlt hpc hcl hF hM
        have hzero : left = 0 := by
          rcases Nat.eq_zero_or_pos left with g | g
          · exact g
          · have := pc_pos left hlt (by omega); omega
        subst hzero
        have hlow : lowF S.1 (-1) 0 = -4 := lowF_no (fun j _ => by
          rw [← Bool.not_eq_true]
          intro g
          have := goF_L g
          rw [Nat.zero_testBit] at this
          cases this)
        rw [clr, List.append_nil] at hcl
        exact sweep M1 l.length 0 _ (by omega) hs hlt hF hM (fun M2 f1 f2 _ => fin M2 l 0 _ hcl hs f1 f2) (fun M2 q hq => by omega)
      | succ f ih =>
        intro M1 l left hlen hs hlt hpc hcl hF hM
        refine sweep M1 l.length left _ (by omega) hs hlt hF hM (fun M2 f1 f2 hneg => ?_) (fun M2 q hq h8 hbq f1 f2 => ?_)
        · rw [clr_stop hneg, List.append_nil] at hcl
          exact fin M2 l left _ hcl hs f1 f2
        · rw [clr_next hq] at hcl
          have hpw := pc_wo left hlt q h8 hbq
          have ih2 := ih M2 (l ++ [(q : Int)]) (wo left (2 ^ q)) (by simp; omega) (wo_sub hs) (wo_lt hlt) (by omega) (by rw [← hcl, List.append_assoc]; rfl) f1 f2
          have hfd : (if ((l.length : Nat) : Int) = i then (q : Int) else if i < 0 then -4 else l.getD i.toNat (-4)) = if i < 0 then -4 else (l ++ [(q : Int)]).getD i.toNat (-4) := by
            by_cases e1 : ((l.length : Nat) : Int) = i
            · rw [if_pos e1, if_neg (by omega), getD_at (by omega)]
            · rw [if_neg e1]
              by_cases e2 : i < 0
              · rw [if_pos e2, if_pos e2]
              · rw [if_neg e2, if_neg e2]
                rcases Nat.lt_or_ge i.toNat l.length with r | r
                · rw [List.getD_eq_getElem?_getD, List.getD_eq_getElem?_getD, List.getElem?_append_left r]
                · rw [getD_past r, getD_past (by simp; omega)]
          rw [hfd]
          rw [show (l ++ [(q : Int)]).length = l.length + 1 by simp] at ih2
          exact ih2
    have hst := key 8 M [] (sL S.1) rfl (subS_rf _) hl (pcR8_le _ hl) rfl TF.rf (fun p hp => hT.lie hp)
    rw [show (if i < 0 then (-4 : Int) else ([] : List Int).getD i.toNat (-4)) = -4 by split <;> rfl] at hst
    exact hst
  · simp (disch := omega) only [J_add, J_sub, J_mul, J_neg, J_bit, J_shl, J_shr, J_andn, J_and, J_or, J_xor, J_div, J_rem, J_lt, J_le, J_eq, J_lt0, J_le0, J_0le, J_0lt, J_eq0, vp_in_J, J_clamp, J_max, J_abs, Int.toNat_natCast, Int.reduceToNat, Int.reduceAdd, Int.reduceSub, Int.reduceMul, Int.reduceNeg, not_true_eq_false, not_false_eq_true] at q2
    rw [if_neg q2] at h
    exact h M hC NF.rf
end MA
