/-! in what order a heap goes -/
def lowG (f : Nat → Bool) : Nat → Nat → Int
  | 0, _ => -4
  | k + 1, p => if f p = true then (p : Int) else lowG f k (p + 1)
noncomputable def goF (σ : St) (how : Int) (left p : Nat) : Bool := left.testBit p && (if how = -1 then decide (0 ≤ outN σ (wo left (2 ^ p)) p) else decide (blkN σ p how left = 0))
noncomputable def lowF (σ : St) (how : Int) (left : Nat) : Int := lowG (goF σ how left) 8 0
noncomputable def clr (σ : St) (how : Int) : Nat → Nat → List Int × Nat
  | 0, left => ([], left)
  | k + 1, left => if lowF σ how left < 0 then ([], left) else ((lowF σ how left) :: (clr σ how k (wo left (2 ^ (lowF σ how left).toNat))).1, (clr σ how k (wo left (2 ^ (lowF σ how left).toNat))).2)
noncomputable def told (σ : St) (how i : Int) : Int := if i < 0 then ((clr σ how 8 (sL σ)).2 : Nat) else (clr σ how 8 (sL σ)).1.getD i.toNat (-4)
theorem lowG_b (f : Nat → Bool) : ∀ k p, lowG f k p = -4 ∨ ∃ q : Nat, lowG f k p = (q : Int) ∧ p ≤ q ∧ q < p + k ∧ f q = true := by
  intro k
  induction k with
  | zero => intro p; left; rfl
  | succ k ih =>
    intro p
    rw [lowG]
    split
    · next h => right; exact ⟨p, rfl, by omega, by omega, h⟩
    · rcases ih (p + 1) with h | ⟨q, h1, h2, h3, h4⟩
      · exact Or.inl h
      · right; exact ⟨q, h1, by omega, by omega, h4⟩
def subS (a b : Nat) : Prop := ∀ p, a.testBit p = true → b.testBit p = true
theorem blk_among {σ : St} {p left : Nat} {e : Int} (h : subS left (sL σ)) : blkN σ p e (sL σ) &&& wo left (2 ^ p) = blkN σ p e left := by
  apply Nat.eq_of_testBit_eq
  intro a
  rw [Bool.eq_iff_iff]
  unfold blkN
  rw [Nat.testBit_and, Bool.and_eq_true, setN_bit, setN_bit, wo_bit, Bool.and_eq_true, pb_t, pb_t]
  constructor
  · rintro ⟨⟨h1, ⟨h2, h3⟩, h4⟩, h5, h6⟩
    exact ⟨h1, ⟨h2, h5⟩, h4⟩
  · rintro ⟨h1, ⟨h2, h3⟩, h4⟩
    exact ⟨⟨h1, ⟨h2, h a h3⟩, h4⟩, h3, by rw [Bool.not_eq_true', Nat.testBit_two_pow, decide_eq_false (fun q => h2 q.symm)]⟩
theorem blkN_lt (σ : St) (p : Nat) (e : Int) (m : Nat) : blkN σ p e m < 2 ^ sN σ := setN_lt _ _
theorem dI_b {op : Nat → Bool} {s : BS} (hB : BI op s) (hQ : QI s) (k : Nat) : -4 ≤ dI (s.1 k) ∧ dI (s.1 k) < 400 := by
  cases hd : s.1 k with
  | none => unfold dI; dsimp only; omega
  | some n =>
    have := bnd hB hQ hd
    unfold dI; dsimp only; omega
theorem fOut_b {op : Nat → Bool} {s : BS} (ou : Nat → Bool) (hB : BI op s) (hQ : QI s) : ∀ l, -4 ≤ fOut ou s l ∧ fOut ou s l < 400 := by
  intro l
  induction l with
  | nil => unfold fOut; omega
  | cons k l ih =>
    rw [fOut]
    split
    · exact dI_b hB hQ k
    · exact ih
theorem outN_b (σ : St) (o p : Nat) : -4 ≤ outN σ o p ∧ outN σ o p < 400 := fOut_b _ (src_BI _ _) (src_QI _ _) _
section HEAP
variable {d : Nat} {M : Mem} {Q : Post} {σ : St}
theorem ok_lowestToGo {how : Int} {left : Nat} (hT : TR M σ) (hW : WF σ) (hD : DJ σ) (hh : -1 ≤ how ∧ how ≤ 3) (hM : M 3 4 = J (left : Int)) (hs : subS left (sL σ)) (hl : left < 256) (h : ∀ M', PF M M' → Q (some (J (lowF σ how left))) M') : Mt (d + 6) mX1_lowestToGo [.ref 3, .int (J how)] M Q := by
  refine e_X1_lowestToGo ?_
  have key : ∀ k p : Nat, p + k = 8 → ∀ M1 : Mem, PF M M1 → lowG (goF σ how left) k p = lowF σ how left → R none (d + 6) mX1_lowestToGo 2 [.ref 3, .int (J how), .int (J (p : Int)), .null, .null] [] M1 Q := by
    intro k
    induction k with
    | zero =>
      intro p hp M1 hF he
      refine b_X1_lowestToGo_2 ⟨fun _ => ?_, fun q => ?_⟩
      · have := h M1 hF
        rw [← he] at this; exact this
      · simp (disch := omega) only [J_add, J_sub, J_mul, J_neg, J_bit, J_shl, J_shr, J_andn, J_and, J_or, J_xor, J_div, J_rem, J_lt, J_le, J_eq, J_lt0, J_le0, J_0le, J_0lt, J_eq0, vp_in_J, J_clamp, J_max, J_abs, Int.toNat_natCast, Int.reduceToNat, Int.reduceAdd, Int.reduceSub, Int.reduceMul, Int.reduceNeg, not_true_eq_false, not_false_eq_true] at q; omega
    | succ k ih =>
      intro p hp M1 hF he
      have hT1 := hT.keep hF.TK
      have hM1 : M1 3 4 = J (left : Int) := by rw [hF 3 4 (by decide) (by decide) (by decide) (by decide) (by decide) (Or.inl (by decide))]; exact hM
      rw [lowG] at he
      refine b_X1_lowestToGo_2 ⟨fun q => ?_, fun _ => ?_⟩
      · simp (disch := omega) only [J_add, J_sub, J_mul, J_neg, J_bit, J_shl, J_shr, J_andn, J_and, J_or, J_xor, J_div, J_rem, J_lt, J_le, J_eq, J_lt0, J_le0, J_0le, J_0lt, J_eq0, vp_in_J, J_clamp, J_max, J_abs, Int.toNat_natCast, Int.reduceToNat, Int.reduceAdd, Int.reduceSub, Int.reduceMul, Int.reduceNeg, not_true_eq_false, not_false_eq_true] at q; omega
      · rw [hM1]
        refine ok_isIn (by omega) (by omega) (ri_some ?_)
        rw [jb_ne, jb_eq0, J_suc, hM1, J_wo1 (by omega) (by omega)]
        have hwl : wo left (2 ^ p) < 256 := wo_lt hl
        refine ⟨fun hb => ?_, fun hb => ?_⟩
        · have hbL := hs p hb
          rw [J_eq (by omega) (by omega) (by omega) (by omega)]
          refine ⟨fun hn => ?_, fun hn => ?_⟩
          · have hgo : goF σ how left p = decide (blkN σ p how left = 0) := by unfold goF; rw [hb, if_neg hn, Bool.true_and]
            have hbl := blkN_lt σ p how left
            have hbl2 : 2 ^ sN σ ≤ 2 ^ 8 := Nat.pow_le_pow_right (by omega) hW.N
            refine ok_blockersOf hT1 hW hD hbL ⟨by omega, hh.2⟩ (ri_some ?_)
            rw [J_andN, blk_among hs, J_eq0 (by omega) (by omega)]
            refine ⟨fun c => ⟨fun _ => ?_, fun c2 => absurd rfl c2⟩, fun c => ⟨fun c2 => absurd c2 (by decide +kernel), fun _ => ?_⟩⟩
            · rw [if_neg (by rw [hgo, decide_eq_true_iff]; omega)] at he
              exact ih (p + 1) (by omega) M1 hF he
            · rw [if_pos (by rw [hgo, decide_eq_true_iff]; omega)] at he
              have := h M1 hF
              rw [← he] at this; exact this
          · have hgo : goF σ how left p = decide (0 ≤ outN σ (wo left (2 ^ p)) p) := by unfold goF; rw [hb, if_pos hn, Bool.true_and]
            have hob := outN_b σ (wo left (2 ^ p)) p
            refine ok_stepsOut hT1 hW hbL (by omega) (fun M2 hF2 => ri_some ?_)
            show (J (outN σ (wo left (2 ^ p)) p) < 0 → _) ∧ (¬ J (outN σ (wo left (2 ^ p)) p) < 0 → _)
            rw [J_lt0 (by omega) (by omega)]
            refine ⟨fun c => ⟨fun _ => ?_, fun c2 => absurd rfl c2⟩, fun c => ⟨fun c2 => absurd c2 (by decide +kernel), fun _ => ?_⟩⟩
            · rw [if_neg (by rw [hgo, decide_eq_true_iff]; omega)] at he
              exact ih (p + 1) (by omega) M2 (hF.tr hF2) he
            · rw [if_pos (by rw [hgo, decide_eq_true_iff]; omega)] at he
              have := h M2 (hF.tr hF2)
              rw [← he] at this; exact this
        · rw [if_neg (by unfold goF; rw [hb, Bool.false_and]; decide)] at he
          exact ih (p + 1) (by omega) M1 hF he
  exact key 8 0 (by omega) M PF.rf rfl
def HF (M M' : Mem) : Prop := ∀ a j, a ≠ 9 → a ≠ 10 → a ≠ 11 → a ≠ 12 → a ≠ 13 → a ≠ 15 → a ≠ 3 → (a ≠ 2 ∨ j ≠ 6) → M' a j = M a j
theorem PF.HF {M M' : Mem} (h : PF M M') : HF M M' := fun a j h1 h2 h3 h4 h5 _ _ h8 => h a j h1 h2 h3 h4 h5 h8
theorem HF.tr {M M1 M2 : Mem} (h : HF M M1) (g : HF M1 M2) : HF M M2 := fun a j h1 h2 h3 h4 h5 h6 h7 h8 => (g a j h1 h2 h3 h4 h5 h6 h7 h8).trans (h a j h1 h2 h3 h4 h5 h6 h7 h8)
theorem HF.EF {M M' : Mem} (h : HF M M') : EF M M' := ⟨⟨fun k => h 1 k (by decide) (by decide) (by decide) (by decide) (by decide) (by decide) (by decide) (Or.inl (by decide)), fun a j h1 h2 => h a j (by omega) (by omega) (by omega) (by omega) (by omega) (by omega) (by omega) (Or.inl (by omega))⟩, h 2 8 (by decide) (by decide) (by decide) (by decide) (by decide) (by decide) (by decide) (Or.inr (by decide)), fun j => h 14 j (by decide) (by decide) (by decide) (by decide) (by decide) (by decide) (by decide) (Or.inl (by decide))⟩
theorem HF.MF {M M' : Mem} (h : HF M M') : MF M M' := fun a j ha => h a j (by omega) (by omega) (by omega) (by omega) (by omega) (by omega) (by omega) (Or.inl (by omega))
theorem HF.set15 {M M1 : Mem} (h : HF M M1) {k : Nat} {v : Int32} : HF M (mset M1 15 k v) := fun a j h1 h2 h3 h4 h5 h6 h7 h8 => by rw [mset_o h6]; exact h a j h1 h2 h3 h4 h5 h6 h7 h8
theorem HF.set3 {M M1 : Mem} (h : HF M M1) {k : Nat} {v : Int32} : HF M (mset M1 3 k v) := fun a j h1 h2 h3 h4 h5 h6 h7 h8 => by rw [mset_o h7]; exact h a j h1 h2 h3 h4 h5 h6 h7 h8
/-- what clearOff leaves -/
def GL (M : Mem) (l : List Int) (left : Nat) : Prop := M 3 3 = J (l.length : Int) ∧ M 3 4 = J (left : Int) ∧ ∀ i z, l[i]? = some z → M 15 i = J z
theorem ok_clearOff {how : Int} (hT : TR M σ) (hW : WF σ) (hD : DJ σ) (hh : -1 ≤ how ∧ how ≤ 3) (h : ∀ M', HF M M' → GL M' (clr σ how 8 (sL σ)).1 (clr σ how 8 (sL σ)).2 → Q none M') : Mt (d + 7) mX1_clearOff [.ref 3, .int (J how)] M Q := by
  refine e_X1_clearOff (ok_lyingSet hT (ri_some ?_))
  have key : ∀ k i : Nat, i + k = 8 → ∀ (M1 : Mem) (l : List Int) (left : Nat), l.length = i → HF M M1 → GL M1 l left → subS left (sL σ) → left < 256 → (l ++ (clr σ how k left).1, (clr σ how k left).2) = clr σ how 8 (sL σ) → R none (d + 7) mX1_clearOff 18 [.ref 3, .int (J how), .int (J (i : Int)), .null] [] M1 Q := by
    intro k
    induction k with
    | zero =>
      intro i hi M1 l left hl hF hG hs hlt he
      refine b_X1_clearOff_18 ⟨fun _ => ?_, fun q => ?_⟩
      · rw [clr, List.append_nil] at he
        rw [← he] at h
        exact h M1 hF hG
      · simp (disch := omega) only [J_add, J_sub, J_mul, J_neg, J_bit, J_shl, J_shr, J_andn, J_and, J_or, J_xor, J_div, J_rem, J_lt, J_le, J_eq, J_lt0, J_le0, J_0le, J_0lt, J_eq0, vp_in_J, J_clamp, J_max, J_abs, Int.toNat_natCast, Int.reduceToNat, Int.reduceAdd, Int.reduceSub, Int.reduceMul, Int.reduceNeg, not_true_eq_false, not_false_eq_true] at q; omega
    | succ k ih =>
      intro i hi M1 l left hl hF hG hs hlt he
      refine b_X1_clearOff_18 ⟨fun q => ?_, fun _ => ok_lowestToGo (hT.keep hF.EF.1) hW hD hh hG.2.1 hs hlt (fun M2 hF2 => ri_some ?_)⟩
      · simp (disch := omega) only [J_add, J_sub, J_mul, J_neg, J_bit, J_shl, J_shr, J_andn, J_and, J_or, J_xor, J_div, J_rem, J_lt, J_le, J_eq, J_lt0, J_le0, J_0le, J_0lt, J_eq0, vp_in_J, J_clamp, J_max, J_abs, Int.toNat_natCast, Int.reduceToNat, Int.reduceAdd, Int.reduceSub, Int.reduceMul, Int.reduceNeg, not_true_eq_false, not_false_eq_true] at q; omega
      · have hlow := lowG_b (goF σ how left) 8 0
        rw [show lowG (goF σ how left) 8 0 = lowF σ how left from rfl] at hlow
        rw [J_0le (by omega) (by omega)]
        have e33 : M2 3 3 = J (l.length : Int) := by rw [hF2 3 3 (by decide) (by decide) (by decide) (by decide) (by decide) (Or.inl (by decide))]; exact hG.1
        have e34 : M2 3 4 = J (left : Int) := by rw [hF2 3 4 (by decide) (by decide) (by decide) (by decide) (by decide) (Or.inl (by decide))]; exact hG.2.1
        have e15 : ∀ j, M2 15 j = M1 15 j := fun j => hF2 15 j (by decide) (by decide) (by decide) (by decide) (by decide) (Or.inl (by decide))
        rw [clr] at he
        refine ⟨fun q => ⟨vin (by omega) (by omega), ?_⟩, fun q => ?_⟩
        · obtain ⟨p, hp⟩ := J_nat q
          rw [if_neg (by omega)] at he
          rw [hp, Int.toNat_natCast] at he
          have hp8 : p < 8 := by
            rcases hlow with g | ⟨q', g1, g2, g3, g4⟩
            · omega
            · omega
          rw [hp, nI2 (by omega), J_suc]
          rw [show mset M2 15 i (J (p : Int)) 3 3 = J (l.length : Int) by rw [mset_o (by decide)]; exact e33, J_suc]
          rw [show mset (mset M2 15 i (J (p : Int))) 3 3 (J ((l.length + 1 : Nat) : Int)) 3 4 = J (left : Int) by rw [mset_k (by decide), mset_o (by decide)]; exact e34, J_wo1 (by omega) (by omega)]
          refine ih (i + 1) (by omega) _ (l ++ [(p : Int)]) (wo left (2 ^ p)) (by simp [hl]) ((HF.set15 (hF.tr hF2.HF)).set3.set3) ⟨?_, mset_self, fun j z hj => ?_⟩ (fun j hj => ?_) (wo_lt hlt) ?_
          · rw [mset_k (by decide), mset_self]; simp
          · rw [mset_o (by decide), mset_o (by decide)]
            by_cases hji : j < l.length
            · rw [List.getElem?_append_left hji] at hj
              rw [mset_k (by omega), e15]
              exact hG.2.2 j z hj
            · rw [List.getElem?_append_right (by omega)] at hj
              have h1 : j - l.length < 1 := (List.getElem?_eq_some_iff.mp hj).1
              rw [show j - l.length = 0 by omega] at hj
              have h2 : z = (p : Int) := (Option.some.inj hj).symm
              rw [show j = i by omega, mset_self, h2]
          · rw [wo_bit, Bool.and_eq_true] at hj
            exact hs j hj.1
          · rw [← he, List.append_assoc]; rfl
        · rw [if_pos (by omega), List.append_nil] at he
          rw [← he] at h
          exact h M2 (hF.tr hF2.HF) ⟨e33, e34, fun j z hj => by rw [e15]; exact hG.2.2 j z hj⟩
  refine key 8 0 (by omega) _ [] (sL σ) rfl (fun a j h1 h2 h3 h4 h5 h6 h7 h8 => by rw [mset_o h7, mset_o h7]) ⟨mset_self, by rw [mset_k (by decide), mset_self], fun i z hz => by simp at hz⟩ (fun p hp => hp) hW.L rfl
theorem clr_len (σ : St) (how : Int) : ∀ k left, (clr σ how k left).1.length ≤ k := by
  intro k
  induction k with
  | zero => intro left; exact Nat.le_refl _
  | succ k ih =>
    intro left
    rw [clr]
    split
    · exact Nat.zero_le _
    · exact Nat.succ_le_succ (ih _)
theorem ok_told {i : Int} {l : List Int} {left : Nat} (hG : GL M l left) (hl : l.length ≤ 8) (hi : -1 ≤ i ∧ i < 2147483648) (h : Q (some (J (if i < 0 then (left : Int) else l.getD i.toNat (-4)))) M) : Mt (d + 1) mX1_told [.ref 3, .int (J i)] M Q := by
  refine e_X1_told ?_
  rw [hG.1, hG.2.1]
  refine ⟨fun q => ⟨fun q2 => ?_, fun q2 => ⟨fun q3 => ?_, fun q3 => ⟨?_, ?_⟩⟩⟩, fun q => ?_⟩
  · simp (disch := omega) only [J_add, J_sub, J_mul, J_neg, J_bit, J_shl, J_shr, J_andn, J_and, J_or, J_xor, J_div, J_rem, J_lt, J_le, J_eq, J_lt0, J_le0, J_0le, J_0lt, J_eq0, vp_in_J, J_clamp, J_max, J_abs, Int.toNat_natCast, Int.reduceToNat, Int.reduceAdd, Int.reduceSub, Int.reduceMul, Int.reduceNeg, not_true_eq_false, not_false_eq_true] at q q2
    rw [if_neg (by omega), List.getD_eq_getElem?_getD, List.getElem?_eq_none_iff.mpr (by omega)] at h
    exact h
  · simp (disch := omega) only [J_add, J_sub, J_mul, J_neg, J_bit, J_shl, J_shr, J_andn, J_and, J_or, J_xor, J_div, J_rem, J_lt, J_le, J_eq, J_lt0, J_le0, J_0le, J_0lt, J_eq0, vp_in_J, J_clamp, J_max, J_abs, Int.toNat_natCast, Int.reduceToNat, Int.reduceAdd, Int.reduceSub, Int.reduceMul, Int.reduceNeg, not_true_eq_false, not_false_eq_true] at q q2 q3; omega
  · simp (disch := omega) only [J_add, J_sub, J_mul, J_neg, J_bit, J_shl, J_shr, J_andn, J_and, J_or, J_xor, J_div, J_rem, J_lt, J_le, J_eq, J_lt0, J_le0, J_0le, J_0lt, J_eq0, vp_in_J, J_clamp, J_max, J_abs, Int.toNat_natCast, Int.reduceToNat, Int.reduceAdd, Int.reduceSub, Int.reduceMul, Int.reduceNeg, not_true_eq_false, not_false_eq_true] at q q2
    obtain ⟨n, rfl⟩ := J_nat q
    exact vin (by omega) (by omega)
  · simp (disch := omega) only [J_add, J_sub, J_mul, J_neg, J_bit, J_shl, J_shr, J_andn, J_and, J_or, J_xor, J_div, J_rem, J_lt, J_le, J_eq, J_lt0, J_le0, J_0le, J_0lt, J_eq0, vp_in_J, J_clamp, J_max, J_abs, Int.toNat_natCast, Int.reduceToNat, Int.reduceAdd, Int.reduceSub, Int.reduceMul, Int.reduceNeg, not_true_eq_false, not_false_eq_true] at q q2
    obtain ⟨n, rfl⟩ := J_nat q
    rw [if_neg (by omega), Int.toNat_natCast, List.getD_eq_getElem?_getD, List.getElem?_eq_getElem (by omega)] at h
    rw [nI2 (by omega), hG.2.2 n _ (List.getElem?_eq_getElem (by omega))]
    exact h
  · simp (disch := omega) only [J_add, J_sub, J_mul, J_neg, J_bit, J_shl, J_shr, J_andn, J_and, J_or, J_xor, J_div, J_rem, J_lt, J_le, J_eq, J_lt0, J_le0, J_0le, J_0lt, J_eq0, vp_in_J, J_clamp, J_max, J_abs, Int.toNat_natCast, Int.reduceToNat, Int.reduceAdd, Int.reduceSub, Int.reduceMul, Int.reduceNeg, not_true_eq_false, not_false_eq_true] at q
    rw [if_pos (by omega)] at h
    exact h
end HEAP
noncomputable def aOrder (S : SS) (e i : Int) : Int := if (0 ≤ e ∧ e ≤ 3) ∧ -1 ≤ i then told S.1 e i else -1
noncomputable def aApart (S : SS) (i : Int) : Int := if -1 ≤ i then told S.1 (-1) i else -1
section HAPI
variable {d : Nat} {M : Mem} {Q : Post} {S : SS}
theorem c_order {e i : Int} (hC : CR M S) (hO : OKS S) (he : BI32 e) (hi : BI32 i) (h : ∀ M', CR M' S → MF M M' → Q (some (J (aOrder S e i))) M') : Mt (d + 12) mX4_order [.ref 0, .int (J e), .int (J i)] M Q := by
  obtain ⟨hi1, hi2⟩ := hi
  have bad : ¬ ((0 ≤ e ∧ e ≤ 3) ∧ -1 ≤ i) → Q (some (J (-1))) M := by
    intro q
    unfold aOrder at h
    rw [if_neg q] at h
    exact h M hC MF.rf
  refine e_X4_order (ok_isDirection he.1 he.2 (ri_some ?_))
  rw [jb_ne, jb_eq0]
  refine ⟨fun q => bad (fun g => absurd g.1 (of_decide_eq_false q)), fun q => ⟨fun q2 => ?_, fun q2 => ?_⟩⟩
  · simp (disch := omega) only [J_add, J_sub, J_mul, J_neg, J_bit, J_shl, J_shr, J_andn, J_and, J_or, J_xor, J_div, J_rem, J_lt, J_le, J_eq, J_lt0, J_le0, J_0le, J_0lt, J_eq0, vp_in_J, J_clamp, J_max, J_abs, Int.toNat_natCast, Int.reduceToNat, Int.reduceAdd, Int.reduceSub, Int.reduceMul, Int.reduceNeg, not_true_eq_false, not_false_eq_true] at q2
    have he03 := of_decide_eq_true q
    unfold aOrder at h
    rw [if_pos ⟨he03, q2⟩] at h
    refine ok_clearOff hC.1 hO.1 hO.2.1.DJ (by omega) (fun M1 hF hG => rn_none (ok_told hG (clr_len _ _ _ _) ⟨q2, hi2⟩ (ri_some ?_)))
    exact h M1 (hC.keep hF.EF) hF.MF
  · simp (disch := omega) only [J_add, J_sub, J_mul, J_neg, J_bit, J_shl, J_shr, J_andn, J_and, J_or, J_xor, J_div, J_rem, J_lt, J_le, J_eq, J_lt0, J_le0, J_0le, J_0lt, J_eq0, vp_in_J, J_clamp, J_max, J_abs, Int.toNat_natCast, Int.reduceToNat, Int.reduceAdd, Int.reduceSub, Int.reduceMul, Int.reduceNeg, not_true_eq_false, not_false_eq_true] at q2; exact bad (by omega)
theorem c_apart {i : Int} (hC : CR M S) (hO : OKS S) (hi : BI32 i) (h : ∀ M', CR M' S → MF M M' → Q (some (J (aApart S i))) M') : Mt (d + 12) mX4_apart [.ref 0, .int (J i)] M Q := by
  obtain ⟨hi1, hi2⟩ := hi
  unfold aApart at h
  refine e_X4_apart ⟨fun q2 => ?_, fun q2 => ?_⟩
  · simp (disch := omega) only [J_add, J_sub, J_mul, J_neg, J_bit, J_shl, J_shr, J_andn, J_and, J_or, J_xor, J_div, J_rem, J_lt, J_le, J_eq, J_lt0, J_le0, J_0le, J_0lt, J_eq0, vp_in_J, J_clamp, J_max, J_abs, Int.toNat_natCast, Int.reduceToNat, Int.reduceAdd, Int.reduceSub, Int.reduceMul, Int.reduceNeg, not_true_eq_false, not_false_eq_true] at q2
    rw [if_pos q2] at h
    refine ok_clearOff hC.1 hO.1 hO.2.1.DJ (by omega) (fun M1 hF hG => rn_none (ok_told hG (clr_len _ _ _ _) ⟨q2, hi2⟩ (ri_some ?_)))
    exact h M1 (hC.keep hF.EF) hF.MF
  · simp (disch := omega) only [J_add, J_sub, J_mul, J_neg, J_bit, J_shl, J_shr, J_andn, J_and, J_or, J_xor, J_div, J_rem, J_lt, J_le, J_eq, J_lt0, J_le0, J_0le, J_0lt, J_eq0, vp_in_J, J_clamp, J_max, J_abs, Int.toNat_natCast, Int.reduceToNat, Int.reduceAdd, Int.reduceSub, Int.reduceMul, Int.reduceNeg, not_true_eq_false, not_false_eq_true] at q2
    rw [if_neg q2] at h
    exact h M hC MF.rf
end HAPI
