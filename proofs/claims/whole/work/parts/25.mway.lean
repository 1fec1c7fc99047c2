/-! the reference: ways and ways out -/
theorem src_eq {op : Nat → Bool} {k : Nat} (hk : k < 400) (ho : op k = true) : spr op 401 (updO (fun _ => none) k 0, [k]) 0 = src op k := by
  unfold src rch
  rw [if_pos ⟨by omega, by omega, by rw [Int.toNat_natCast]; exact ho, rfl⟩, Int.toNat_natCast]; rfl
theorem src_no {op : Nat → Bool} {k : Nat} (ho : op k = false) : src op k = s0 := by
  unfold src rch
  rw [if_neg (fun q => by rw [Int.toNat_natCast, ho] at q; cases q.2.2.1)]
  rfl
theorem BI.BD {op : Nat → Bool} {s : BS} (hB : BI op s) (hQ : QI s) : BD s.1 := fun _ _ h => bnd hB hQ h
theorem BD0 : BD (fun _ => none) := fun _ _ h => by cases h
theorem dirTo_min {s : BS} {k n : Nat} {c : Int} (hc : 0 ≤ c ∧ c ≤ 3) (h : dz s (nb k c) = (n : Int)) (hm : ∀ e : Int, 0 ≤ e → e < c → dz s (nb k e) ≠ (n : Int)) : (dirTo s k n : Int) = c := by
  unfold dirTo
  rcases (show c = 0 ∨ c = 1 ∨ c = 2 ∨ c = 3 by omega) with e | e | e | e
  · subst e; rw [if_pos h]; rfl
  · subst e; rw [if_neg (hm 0 (by omega) (by omega)), if_pos h]; rfl
  · subst e; rw [if_neg (hm 0 (by omega) (by omega)), if_neg (hm 1 (by omega) (by omega)), if_pos h]; rfl
  · subst e; rw [if_neg (hm 0 (by omega) (by omega)), if_neg (hm 1 (by omega) (by omega)), if_neg (hm 2 (by omega) (by omega))]; rfl
theorem fv_dI {op : Nat → Bool} {D : Nat → Option Nat} {k n : Nat} : fv op D k = (n : Int) ↔ dI (D k) = (n : Int) := by
  unfold fv dI
  cases D k with
  | none =>
    dsimp only
    constructor
    · intro h; split at h <;> omega
    · intro h; omega
  | some m => exact Iff.rfl
/-- what the walk back changes -/
def WB (M M' : Mem) : Prop := ∀ a j, a ≠ 26 → (a ≠ 18 ∨ j ≠ 10) → M' a j = M a j
section MW
variable {d : Nat} {M : Mem} {Q : Post} {σ : St} {op : Nat → Bool} {s : BS}
theorem r_back {k n : Nat} (hM : FB M op s.1) (hB : BI op s) (hQ : QI s) (hP : PI s) (hk : s.1 k = some n) (h0 : M 18 10 = J 0) (h : ∀ M', M' 18 10 = J (n : Int) → (∀ i, i < n → M' 26 i = J (dirTo s (pk s k n i) (n - i - 1) : Nat)) → WB M M' → Q (some (J (n : Int))) M') : R none (d + 4) mX5_way 100 [.ref 18, .null, .null, .null, .int (J (k : Int)), .int (J (n : Int)), .null, .null, .null, .null] [] M Q := by
  have hn := bnd hB hQ hk
  have hD := hB.BD hQ
  have key : ∀ f i : Nat, i + f = n → ∀ M1 : Mem, M1 18 10 = J (i : Int) → (∀ j, j < i → M1 26 j = J (dirTo s (pk s k n j) (n - j - 1) : Nat)) → WB M M1 → R none (d + 4) mX5_way 100 [.ref 18, .null, .null, .null, .int (J (pk s k n i : Nat)), .int (J (n : Int)), .null, .null, .null, .null] [] M1 Q := by
    intro f
    induction f with
    | zero =>
      intro i hi M1 g1 g2 g3
      have hpi := pk_ok hP hk i (by omega)
      have hpl : pk s k n i < 400 := (hB.2.1 _ (hQ _ _ hpi)).1
      refine b_X5_way_100 ⟨vin hpl (by omega), ?_⟩
      rw [nI2 (by omega), g3 27 _ (by decide) (Or.inl (by decide)), hM _ hpl, fv_some hpi]
      refine ⟨fun _ => h M1 (by rw [g1, show i = n by omega]) (fun j hj => g2 j (by omega)) g3, fun c => ?_⟩
      simp (disch := omega) only [J_add, J_sub, J_mul, J_neg, J_bit, J_shl, J_shr, J_andn, J_and, J_or, J_xor, J_div, J_rem, J_lt, J_le, J_eq, J_lt0, J_le0, J_0le, J_0lt, J_eq0, vp_in_J, J_clamp, J_max, J_abs, Int.toNat_natCast, Int.reduceToNat, Int.reduceAdd, Int.reduceSub, Int.reduceMul, Int.reduceNeg, not_true_eq_false, not_false_eq_true] at c; omega
    | succ f ih =>
      intro i hi M1 g1 g2 g3
      have hpi := pk_ok hP hk i (by omega)
      have hpl : pk s k n i < 400 := (hB.2.1 _ (hQ _ _ hpi)).1
      have hpi2 := hpi
      rw [show n - i = (n - i - 1) + 1 by omega] at hpi2
      have hd := dirTo_ok hP hpi2
      obtain ⟨m, hm⟩ : ∃ m, n - i - 1 = m := ⟨_, rfl⟩
      have ih2 := ih (i + 1) (by omega)
      rw [pk, hm] at ih2
      rw [hm] at hd
      have hgo : ∀ j, j ≤ i → ∀ M2 : Mem, j < i + 1 → (∀ j, j < i → M2 26 j = J (dirTo s (pk s k n j) (n - j - 1) : Nat)) → True := fun _ _ _ _ _ => trivial
      have inner : ∀ g : Nat, ∀ e nx : Int, e + 1 = (g : Int) → e ≤ 3 → ∀ M2 : Mem, M2 18 10 = J (i : Int) → (∀ j, j < i → M2 26 j = J (dirTo s (pk s k n j) (n - j - 1) : Nat)) → WB M M2 → ((∀ c : Int, e < c → c ≤ 3 → dz s (nb (pk s k n i) c) ≠ (m : Int)) ∨ ∃ c : Int, e < c ∧ c ≤ 3 ∧ dz s (nb (pk s k n i) c) = (m : Int) ∧ (∀ c' : Int, e < c' → c' < c → dz s (nb (pk s k n i) c') ≠ (m : Int)) ∧ nx = nb (pk s k n i) c ∧ M2 26 i = J c) → R none (d + 4) mX5_way 116 [.ref 18, .null, .null, .null, .int (J (pk s k n i : Nat)), .int (J (n : Int)), .int (J nx), .int (J e), .null, .null] [] M2 Q := by
        intro g
        induction g with
        | zero =>
          intro e nx he he3 M2 f1 f2 f3 hinv
          have hc : ∃ c : Int, (dirTo s (pk s k n i) m : Int) = c ∧ nx = nb (pk s k n i) c ∧ M2 26 i = J c := by
            rcases hinv with q | ⟨c, q1, q2, q3, q4, q5, q6⟩
            · exfalso
              have hdl := dirTo_lt s (pk s k n i) m
              refine q (dirTo s (pk s k n i) m : Nat) (by omega) (by omega) ?_
              unfold dz
              rw [if_pos hd.1, hd.2]; rfl
            · exact ⟨c, dirTo_min ⟨by omega, q2⟩ q3 (fun c' h1 h2 => q4 c' (by omega) h2), q5, q6⟩
          obtain ⟨c, c1, c2, c3⟩ := hc
          refine b_X5_way_116 ⟨fun _ => ?_, fun q => ?_⟩
          · rw [f1, J_suc]
            rw [c1] at ih2
            obtain ⟨z, hz⟩ := J_nat (show 0 ≤ nb (pk s k n i) c by rw [← c1]; exact hd.1)
            rw [hz, Int.toNat_natCast] at ih2
            rw [c2, hz]
            refine ih2 _ mset_self (fun j hj => ?_) (fun a j h1 h2 => ?_)
            · rw [mset_o (by decide)]
              by_cases ej : j = i
              · subst ej; rw [c3, hm, c1]
              · exact f2 j (by omega)
            · rcases h2 with h2 | h2
              · rw [mset_o h2]; exact f3 a j h1 (Or.inl h2)
              · rw [mset_k h2]; exact f3 a j h1 (Or.inr h2)
          · simp (disch := omega) only [J_add, J_sub, J_mul, J_neg, J_bit, J_shl, J_shr, J_andn, J_and, J_or, J_xor, J_div, J_rem, J_lt, J_le, J_eq, J_lt0, J_le0, J_0le, J_0lt, J_eq0, vp_in_J, J_clamp, J_max, J_abs, Int.toNat_natCast, Int.reduceToNat, Int.reduceAdd, Int.reduceSub, Int.reduceMul, Int.reduceNeg, not_true_eq_false, not_false_eq_true] at q; omega
        | succ g ihg =>
          intro e nx he he3 M2 f1 f2 f3 hinv
          have hdx := dxI_b e
          have hdy := dyI_b e
          have miss : dz s (nb (pk s k n i) e) ≠ (m : Int) → R none (d + 4) mX5_way 116 [.ref 18, .null, .null, .null, .int (J (pk s k n i : Nat)), .int (J (n : Int)), .int (J nx), .int (J (e + -1)), .null, .null] [] M2 Q := by
            intro hne
            refine ihg (e + -1) nx (by omega) (by omega) M2 f1 f2 f3 ?_
            rcases hinv with q | ⟨c, q1, q2, q3, q4, q5, q6⟩
            · left
              intro c h1 h2
              by_cases ec : c = e
              · subst ec; exact hne
              · exact q c (by omega) h2
            · right
              refine ⟨c, by omega, q2, q3, fun c' h1 h2 => ?_, q5, q6⟩
              by_cases ec : c' = e
              · subst ec; exact hne
              · exact q4 c' (by omega) h2
          refine b_X5_way_116 ⟨fun q => ?_, fun _ => r_dx ⟨by omega, he3⟩ (ri_some (r_dy ⟨by omega, he3⟩ (ri_some ?_)))⟩
          · simp (disch := omega) only [J_add, J_sub, J_mul, J_neg, J_bit, J_shl, J_shr, J_andn, J_and, J_or, J_xor, J_div, J_rem, J_lt, J_le, J_eq, J_lt0, J_le0, J_0le, J_0lt, J_eq0, vp_in_J, J_clamp, J_max, J_abs, Int.toNat_natCast, Int.reduceToNat, Int.reduceAdd, Int.reduceSub, Int.reduceMul, Int.reduceNeg, not_true_eq_false, not_false_eq_true] at q; omega
          · rw [J_m20 (by omega), J_d20 (by omega), J_sub, J_sub, J_add, J_add]
            refine r_isSpot (b32 (by omega) (by omega)) (b32 (by omega) (by omega)) (ri_some ?_)
            rw [jb_ne, jb_eq0, J_add]
            refine ⟨fun c => miss ?_, fun c => ?_⟩
            · rw [nb_nospot (of_decide_eq_false c)]
              unfold dz
              rw [if_neg (by omega)]; omega
            · have c1 := of_decide_eq_true c
              have e1 := nb_spot c1
              have hp2 := plc_lt c1.1 c1.2
              obtain ⟨z, hzz⟩ : ∃ z, plc (((pk s k n i % 20 : Nat) : Int) - 6 + dxI e) (((pk s k n i / 20 : Nat) : Int) - 6 + dyI e) = z := ⟨_, rfl⟩
              rw [hzz] at hp2 e1
              refine r_spot c1.1 c1.2 (ri_some ?_)
              rw [hzz]
              refine ⟨vin hp2 (by omega), vin hpl (by omega), ?_⟩
              have hzb := fv_b (op := op) hD z
              rw [nI2 (by omega), nI2 (by omega), f3 27 _ (by decide) (Or.inl (by decide)), f3 27 _ (by decide) (Or.inl (by decide)), hM z hp2, hM _ hpl, fv_some hpi, J_sub, J_eq (by omega) (by omega) (by omega) (by omega)]
              rw [show ((n - i : Nat) : Int) - 1 = (m : Int) by omega, fv_dI]
              have hdzz : dz s (nb (pk s k n i) e) = dI (s.1 z) := by
                unfold dz
                rw [e1, if_pos (by omega), Int.toNat_natCast]
              refine ⟨fun c2 => miss (by rw [hdzz]; exact c2), fun c2 => r_spot c1.1 c1.2 (ri_some ?_)⟩
              rw [hzz, f1]
              refine ⟨vin (by omega) (by omega), ?_⟩
              rw [nI2 (by omega)]
              refine ihg (e + -1) (z : Int) (by omega) (by omega) _ (by rw [mset_o (by decide)]; exact f1) (fun j hj => by rw [mset_k (by omega)]; exact f2 j hj) (fun a j h1 h2 => by rw [mset_o h1]; exact f3 a j h1 h2) (Or.inr ⟨e, by omega, he3, by rw [hdzz]; exact c2, fun c' h1 h2 => by omega, e1.symm, mset_self⟩)
      refine b_X5_way_100 ⟨vin hpl (by omega), ?_⟩
      rw [nI2 (by omega), g3 27 _ (by decide) (Or.inl (by decide)), hM _ hpl, fv_some hpi]
      refine ⟨fun c => ?_, fun _ => inner 4 3 (-1) (by omega) (by omega) M1 g1 g2 g3 (Or.inl (fun c h1 h2 => by omega))⟩
      simp (disch := omega) only [J_add, J_sub, J_mul, J_neg, J_bit, J_shl, J_shr, J_andn, J_and, J_or, J_xor, J_div, J_rem, J_lt, J_le, J_eq, J_lt0, J_le0, J_0le, J_0lt, J_eq0, vp_in_J, J_clamp, J_max, J_abs, Int.toNat_natCast, Int.reduceToNat, Int.reduceAdd, Int.reduceSub, Int.reduceMul, Int.reduceNeg, not_true_eq_false, not_false_eq_true] at c; omega
  exact key n 0 (by omega) M h0 (fun j hj => by omega) (fun _ _ _ _ => rfl)
theorem MT.keepW {M' : Mem} (h : MT M σ) (g : WB M M') : MT M' σ := by
  obtain ⟨t1, t2, t3, t4, t5, t6, t7⟩ := h
  refine ⟨by rw [g _ _ (by decide) (by decide)]; exact t1, by rw [g _ _ (by decide) (by decide)]; exact t2, by rw [g _ _ (by decide) (by decide)]; exact t3, fun y hy => by rw [g _ _ (by decide) (Or.inl (by decide))]; exact t4 y hy, fun p hp => ?_, fun p hp => by rw [g _ _ (by decide) (Or.inl (by decide))]; exact t6 p hp, fun p hp => ?_⟩
  · rw [g _ _ (by decide) (Or.inl (by decide)), g _ _ (by decide) (Or.inl (by decide)), g _ _ (by decide) (Or.inl (by decide))]; exact t5 p hp
  · rw [g _ _ (by decide) (Or.inl (by decide)), g _ _ (by decide) (Or.inl (by decide))]; exact t7 p hp
set_option maxRecDepth 100000 in
theorem m_way {S : SS} {p x y : Int} (hC : MR M S) (hO : OKS S) (hp : BI32 p) (hx : BI32 x) (hy : BI32 y) (h : ∀ M', MR M' (aWay S p x y).2 → NF M M' → Q (some (J (aWay S p x y).1)) M') : Mt (d + 12) mX5_way [.ref 18, .int (J p), .int (J x), .int (J y)] M Q := by
  have hW := hO.1
  have hN := hW.N
  refine e_X5_way (r_isPiece hC.1 hW hp (ri_some ?_))
  rw [jb_ne, jb_eq0]
  have bad : ¬ (isPc S.1 p = true ∧ ((-6 ≤ x ∧ x ≤ 13) ∧ (-6 ≤ y ∧ y ≤ 13))) → Q (some (J (-1))) M := by
    intro q
    unfold aWay at h
    rw [if_neg q] at h
    exact h M hC NF.rf
  refine ⟨fun q => bad (fun g => by rw [q] at g; cases g.1), fun q => r_isSpot hx hy (ri_some ?_)⟩
  rw [jb_ne, jb_eq0]
  refine ⟨fun q2 => ?_, fun q2 => bad (fun g => absurd g.2 (of_decide_eq_false q2))⟩
  have hxy := of_decide_eq_true q2
  unfold aWay at h
  rw [if_pos ⟨q, hxy⟩] at h
  obtain ⟨k, rfl, hk⟩ := isPc_of q
  rw [Int.toNat_natCast] at h
  refine ⟨vin (by omega) (by omega), ?_⟩
  rw [nI2 (by omega), hC.1.lie (by omega), jb_ne, jb_eq0]
  refine ⟨fun q3 => r_lays hC.1 hW hk (fun M1 hF1 hS1 => rn_none (r_spot hxy.1 hxy.2 (ri_some ?_))), fun q3 => ?_⟩
  · rw [if_pos q3] at h
    have hpl := plc_lt hxy.1 hxy.2
    have hkp := hW.P q3
    have hwl := plc_lt hkp.1 hkp.2
    refine ⟨vin hpl (by omega), ?_⟩
    rw [nI2 (by omega), hF1 _ hpl, fv_none rfl]
    by_cases ho : opP S.1 k (plc x y) = true
    · rw [if_pos ho]
      refine ⟨fun _ => r_spot hxy.1 hxy.2 (ri_some (r_spreads hpl ho hF1 BD0 (fun M2 hF2 hS2 => rn_none ⟨vin (by omega) (by omega), vin (by omega) (by omega), ?_⟩))), fun c => absurd c (by decide +kernel)⟩
      rw [src_eq hpl ho] at hF2
      have hS := hS1.tr hS2
      have hT2 := hC.1.keep hS.QF
      rw [hT2.px q3, hT2.py q3]
      refine r_spot hkp.1 hkp.2 (ri_some ⟨vin hwl (by omega), ?_⟩)
      rw [nI2 (by omega), hF2 _ hwl]
      have hB := src_BI (opP S.1 k) (plc x y)
      have hQ := src_QI (opP S.1 k) (plc x y)
      have hP := src_PI (opP S.1 k) (plc x y)
      cases hd : (src (opP S.1 k) (plc x y)).1 (whP S.1 k) with
      | none =>
        rw [hd] at h
        have hfv : fv (opP S.1 k) (src (opP S.1 k) (plc x y)).1 (plc (sX S.1 k) (sY S.1 k)) < 0 := by
          rw [fv_none hd]
          split <;> omega
        have hfb := fv_b (op := opP S.1 k) (hB.BD hQ) (plc (sX S.1 k) (sY S.1 k))
        refine ⟨fun c => ?_, fun _ => h M2 (hC.keep hS.QF) hS.QF.NF⟩
        simp (disch := omega) only [J_add, J_sub, J_mul, J_neg, J_bit, J_shl, J_shr, J_andn, J_and, J_or, J_xor, J_div, J_rem, J_lt, J_le, J_eq, J_lt0, J_le0, J_0le, J_0lt, J_eq0, vp_in_J, J_clamp, J_max, J_abs, Int.toNat_natCast, Int.reduceToNat, Int.reduceAdd, Int.reduceSub, Int.reduceMul, Int.reduceNeg, not_true_eq_false, not_false_eq_true] at c; omega
      | some n =>
        rw [hd] at h
        have hn := bnd hB hQ hd
        rw [fv_some hd]
        refine ⟨fun _ => ?_, fun c => ?_⟩
        · refine r_back (op := opP S.1 k) (s := src (opP S.1 k) (plc x y)) (fun j hj => by rw [mset_o (by decide)]; exact hF2 j hj) hB hQ hP hd mset_self (fun M3 g1 g2 g3 => ?_)
          have hNF : NF M M3 := fun a j ha => by rw [g3 a j (by omega) (Or.inl (by omega)), mset_o (by omega)]; exact hS a j (by omega) (by omega)
          exact h M3 ⟨MT.keepW hT2 (fun a j h1 h2 => by
            rw [g3 a j h1 h2]
            rcases h2 with h2 | h2
            · rw [mset_o h2]
            · rw [mset_k h2]), Or.inl g1, g2⟩ hNF
        · simp (disch := omega) only [J_add, J_sub, J_mul, J_neg, J_bit, J_shl, J_shr, J_andn, J_and, J_or, J_xor, J_div, J_rem, J_lt, J_le, J_eq, J_lt0, J_le0, J_0le, J_0lt, J_eq0, vp_in_J, J_clamp, J_max, J_abs, Int.toNat_natCast, Int.reduceToNat, Int.reduceAdd, Int.reduceSub, Int.reduceMul, Int.reduceNeg, not_true_eq_false, not_false_eq_true] at c; omega
    · rw [if_neg ho]
      rw [Bool.not_eq_true] at ho
      rw [src_no ho] at h
      refine ⟨fun c => absurd rfl c, fun _ => ?_⟩
      exact h M1 (hC.keep hS1.QF) hS1.QF.NF
  · rw [if_neg (fun g => by unfold lyB at g; rw [q3] at g; cases g)] at h
    exact h M hC NF.rf
end MW
