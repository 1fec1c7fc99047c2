/-! what holds stays so -/
theorem inv_board {S : SS} {c r : Int} (h : OKS S) : OKS (aBoard S c r).2 := by
  unfold aBoard
  split
  · next q =>
    obtain ⟨⟨h1, h2, h3, h4, h5, h6, h7, h8⟩, hS, hc⟩ := h
    have hz : ∀ p, ¬ (sL (stNew S.1 c r)).testBit p = true := fun p g => by
      have g2 : (0 : Nat).testBit p = true := g
      rw [Nat.zero_testBit] at g2; cases g2
    exact ⟨⟨q.1, q.2, h3, fun y hy => Nat.two_pow_pos _, fun y hy => rfl, h6, Nat.two_pow_pos _, fun p hp => absurd hp (hz p)⟩, fun p hp => absurd hp (hz p), by show 0 < 400; omega⟩
  · exact h
theorem inv_walls {S : SS} {y b : Int} (h : OKS S) : OKS (aWalls S y b).2 := by
  unfold aWalls
  split
  · next q =>
    split
    · exact h
    · next q2 =>
      rw [pb_t] at q2
      obtain ⟨hW, hS, hc⟩ := h
      obtain ⟨h1, h2, h3, h4, h5, h6, h7, h8⟩ := hW
      have hpp := Nat.two_pow_pos (sC S.1).toNat
      have hff : full S.1 = 2 ^ (sC S.1).toNat - 1 := rfl
      refine ⟨⟨h1, h2, h3, fun y' hy => ?_, fun y' hy => ?_, h6, h7, h8⟩, fun p hp c r hsq hb => ?_, hc⟩
      · show upF (sW S.1) y.toNat b.toNat y' < 2 ^ (sC S.1).toNat
        by_cases e : y' = y.toNat
        · subst e; rw [upF_s]; omega
        · rw [upF_n e]; exact h4 y' hy
      · have hy2 : sR S.1 ≤ (y' : Int) := hy
        show upF (sW S.1) y.toNat b.toNat y' = 0
        rw [upF_n (by omega)]; exact h5 y' hy2
      · rcases hb with ⟨g1, g2, g3⟩ | g
        · have g3' : (upF (sW S.1) y.toNat b.toNat r.toNat).testBit c.toNat = true := g3
          by_cases e : r.toNat = y.toNat
          · rw [e, upF_s] at g3'
            refine q2 ⟨p, c.toNat, hp, g3', ?_⟩
            have hsq2 : sq (sS S.1 p) (sX S.1 p) (sY S.1 p) c r = true := hsq
            rw [show ((c.toNat : Nat) : Int) = c by omega, show y = r by omega]
            exact hsq2
          · rw [upF_n e] at g3'
            exact hS p hp c r hsq (Or.inl ⟨g1, g2, g3'⟩)
        · exact hS p hp c r hsq (Or.inr g)
  · exact h
theorem inv_piece {S : SS} {z : Int} (h : OKS S) : OKS (aPiece S z).2 := by
  unfold aPiece
  split
  · next q =>
    split
    · next q2 =>
      obtain ⟨hW, hS, hc⟩ := h
      have hlp : ∀ p, (sL S.1).testBit p = true → p ≠ sN S.1 := fun p hp => by have := hW.lp hp; omega
      obtain ⟨h1, h2, h3, h4, h5, h6, h7, h8⟩ := hW
      refine ⟨⟨h1, h2, by show sN S.1 + 1 ≤ 8; omega, h4, h5, fun p hp => ?_, ?_, h8⟩, fun p hp c r hsq hb => ?_, hc⟩
      · have hp2 : p < sN S.1 + 1 := hp
        show ShOK (upF (sS S.1) (sN S.1) (crn z.toNat) p)
        by_cases e : p = sN S.1
        · subst e; rw [upF_s]; exact crn_ok (by omega) (by omega)
        · rw [upF_n e]; exact h6 p (by omega)
      · show sL S.1 < 2 ^ (sN S.1 + 1)
        exact Nat.lt_of_lt_of_le h7 (Nat.pow_le_pow_right (by omega) (by omega))
      · have hsq2 : sq (upF (sS S.1) (sN S.1) (crn z.toNat) p) (sX S.1 p) (sY S.1 p) c r = true := hsq
        rw [upF_n (hlp p hp)] at hsq2
        refine hS p hp c r hsq2 ?_
        rcases hb with g | ⟨o, g1, g2, g3⟩
        · exact Or.inl g
        · have g3' : sq (upF (sS S.1) (sN S.1) (crn z.toNat) o) (sX S.1 o) (sY S.1 o) c r = true := g3
          rw [upF_n (hlp o g2)] at g3'
          exact Or.inr ⟨o, g1, g2, g3'⟩
    · exact h
  · exact h
theorem lay_SOK {σ : St} {p : Nat} {x y : Int} (hS : SOK σ) (hst : stP σ (oth σ p) (sS σ p) x y) : SOK (stLay σ p x y) := by
  intro j hj c r hsq hb
  have hj2 : (sL σ ||| 2 ^ p).testBit j = true := hj
  by_cases e : j = p
  · subst e
    have h1 : stP (stLay σ j x y) (oth σ j) (sS σ j) x y := stP_lay.mpr hst
    have hsq2 : sq (sS σ j) (upF (sX σ) j x j) (upF (sY σ) j y j) c r = true := hsq
    rw [upF_s, upF_s] at hsq2
    have ho : wo (sL (stLay σ j x y)) (2 ^ j) = oth σ j := oth_lay (x := x) (y := y)
    rw [ho] at hb
    exact h1 c r hsq2 hb
  · rw [Nat.testBit_or, Nat.testBit_two_pow, decide_eq_false (fun q => e q.symm), Bool.or_false] at hj2
    have hsq2 : sq (sS σ j) (upF (sX σ) p x j) (upF (sY σ) p y j) c r = true := hsq
    rw [upF_n e, upF_n e] at hsq2
    rcases hb with g | ⟨o, g1, g2, g3⟩
    · exact hS j hj2 c r hsq2 (Or.inl g)
    · have g1' : (wo (sL σ ||| 2 ^ p) (2 ^ j)).testBit o = true := g1
      have g3' : sq (sS σ o) (upF (sX σ) p x o) (upF (sY σ) p y o) c r = true := g3
      rw [wo_bit, Bool.and_eq_true, Nat.testBit_or] at g1'
      by_cases eo : o = p
      · subst eo
        rw [upF_s, upF_s] at g3'
        refine hst c r g3' (Or.inr ⟨j, ?_, hj2, hsq2⟩)
        unfold oth
        rw [wo_bit, Nat.testBit_two_pow, hj2, decide_eq_false (fun q => e q.symm)]; rfl
      · rw [upF_n eo, upF_n eo] at g3'
        have g4 : (sL σ).testBit o = true := by
          have := g1'.1
          rw [Nat.testBit_two_pow, decide_eq_false (fun q => eo q.symm), Bool.or_false] at this
          exact this
        refine hS j hj2 c r hsq2 (Or.inr ⟨o, ?_, g4, g3'⟩)
        rw [wo_bit, Bool.and_eq_true]
        exact ⟨g4, g1'.2⟩
theorem inv_put {S : SS} {p x y : Int} (h : OKS S) : OKS (aPut S p x y).2 := by
  unfold aPut
  split
  · next q =>
    split
    · next q2 =>
      rw [pb_t] at q2
      obtain ⟨k, rfl, hk⟩ := isPc_of q.1
      rw [Int.toNat_natCast] at q2 ⊢
      exact ⟨stLay_WF h.1 hk q.2.1 q.2.2, lay_SOK h.2.1 q2, h.2.2⟩
    · exact h
  · exact h
theorem inv_away {S : SS} {p : Int} (h : OKS S) : OKS (aAway S p).2 := by
  unfold aAway
  split
  · split
    · exact ⟨stL_WF h.1 (wo_subS _ _), stL_SOK (wo_subS _ _) h.2.1, h.2.2⟩
    · exact h
  · exact h
theorem onw_in {op : Nat → Bool} {e : Int} : ∀ (f : Nat) (x y : Int), (-6 ≤ x ∧ x ≤ 13) → (-6 ≤ y ∧ y ≤ 13) → op (plc x y) = true → ((-6 ≤ x + (onw op e f (plc x y) : Nat) * dxI e ∧ x + (onw op e f (plc x y) : Nat) * dxI e ≤ 13) ∧ (-6 ≤ y + (onw op e f (plc x y) : Nat) * dyI e ∧ y + (onw op e f (plc x y) : Nat) * dyI e ≤ 13)) ∧ op (plc (x + (onw op e f (plc x y) : Nat) * dxI e) (y + (onw op e f (plc x y) : Nat) * dyI e)) = true := by
  intro f
  induction f with
  | zero =>
    intro x y hx hy ho
    rw [onw, show ((0 : Nat) : Int) = 0 from rfl, Int.zero_mul, Int.zero_mul, Int.add_zero, Int.add_zero]
    exact ⟨⟨hx, hy⟩, ho⟩
  | succ f ih =>
    intro x y hx hy ho
    rw [onw]
    split
    · next q =>
      have hpb := plc_back hx hy
      by_cases hsp : (-6 ≤ x + dxI e ∧ x + dxI e ≤ 13) ∧ (-6 ≤ y + dyI e ∧ y + dyI e ≤ 13)
      · have hnb := nb_spot (k := plc x y) (e := e) (by rw [hpb.1, hpb.2]; exact hsp)
        rw [hpb.1, hpb.2] at hnb
        rw [hnb, Int.toNat_natCast] at q ⊢
        have := ih (x + dxI e) (y + dyI e) hsp.1 hsp.2 q.2
        generalize onw op e f (plc (x + dxI e) (y + dyI e)) = T at this ⊢
        rw [show x + ((T + 1 : Nat) : Int) * dxI e = x + dxI e + (T : Int) * dxI e by rw [show ((T + 1 : Nat) : Int) = (T : Int) + 1 by omega, Int.add_mul]; omega, show y + ((T + 1 : Nat) : Int) * dyI e = y + dyI e + (T : Int) * dyI e by rw [show ((T + 1 : Nat) : Int) = (T : Int) + 1 by omega, Int.add_mul]; omega]
        exact this
      · have := nb_nospot (k := plc x y) (e := e) (by rw [hpb.1, hpb.2]; exact hsp)
        omega
    · rw [show ((0 : Nat) : Int) = 0 from rfl, Int.zero_mul, Int.zero_mul, Int.add_zero, Int.add_zero]
      exact ⟨⟨hx, hy⟩, ho⟩
theorem inv_slide {S : SS} {p e n : Int} (h : OKS S) : OKS (aSlide S p e n).2 := by
  unfold aSlide
  split
  · next q =>
    split
    · next q2 =>
      obtain ⟨k, rfl, hk⟩ := isPc_of q.1
      rw [Int.toNat_natCast] at q2 ⊢
      have hxy := h.1.P q2
      have hop := h.2.1.op h.1 q2
      obtain ⟨⟨g1, g2⟩, g3⟩ := onw_in (op := opP S.1 k) (e := e) n.toNat (sX S.1 k) (sY S.1 k) hxy.1 hxy.2 hop
      have hpb := plc_back g1 g2
      have g4 := (opn_P h.1).mp g3
      rw [hpb.1, hpb.2] at g4
      exact ⟨stLay_WF h.1 hk g1 g2, lay_SOK h.2.1 g4, h.2.2⟩
    · exact h
  · exact h
set_option maxRecDepth 100000 in
theorem inv_way {S : SS} {p x y : Int} (h : OKS S) : OKS (aWay S p x y).2 := by
  unfold aWay
  split
  · split
    · cases hd : (src (opP S.1 p.toNat) (plc x y)).1 (whP S.1 p.toNat) with
      | none => exact h
      | some n => exact ⟨h.1, h.2.1, bnd (src_BI _ _) (src_QI _ _) hd⟩
    · exact h
  · exact h
