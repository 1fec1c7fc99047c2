/-! the reference: out and places, as calls -/
theorem one_ne : ¬ J 1 = 0 := by decide +kernel
theorem plc_back {x y : Int} (hx : -6 ≤ x ∧ x ≤ 13) (hy : -6 ≤ y ∧ y ≤ 13) : (((plc x y % 20 : Nat) : Int) - 6 = x) ∧ ((plc x y / 20 : Nat) : Int) - 6 = y := by
  have h1 := plc_mod hx hy
  have h2 := plc_div hx hy
  omega
theorem SOK.op {σ : St} (hW : WF σ) (hS : SOK σ) {p : Nat} (hp : (sL σ).testBit p = true) : opP σ p (whP σ p) = true := by
  have hx := hW.P hp
  refine (opn_P hW).mpr ?_
  rw [(plc_back hx.1 hx.2).1, (plc_back hx.1 hx.2).2]
  exact hS p hp
section MO
variable {d : Nat} {M : Mem} {Q : Post} {σ : St}
theorem oun_ob (hW : WF σ) {s k : Nat} : obN σ s (((k % 20 : Nat) : Int) - 6) (((k / 20 : Nat) : Int) - 6) 25 = 0 ↔ oun σ s k = true := by rw [ob_out, oun_P hW]
theorem r_outOf {p : Nat} (hT : MT M σ) (hW : WF σ) (hS : SOK σ) (hp : (sL σ).testBit p = true) (h : ∀ M', QF M M' → Q (some (J (outN σ (oth σ p) p))) M') : Mt (d + 5) mX5_outOf [.ref 18, .int (J (p : Int))] M Q := by
  have hN := hW.N
  have hp2 := hW.lp hp
  have hx := hW.P hp
  have hwl := plc_lt hx.1 hx.2
  have hB := src_BI (opP σ p) (whP σ p)
  have hQ := src_QI (opP σ p) (whP σ p)
  have hMI := src_MI (opP σ p) (whP σ p)
  have hD := hB.BD hQ
  have heq : mnO (src (opP σ p) (whP σ p)).1 (oun σ (sS σ p)) 400 = outN σ (oth σ p) p := mnO_fOut hB hQ hMI
  refine e_X5_outOf (r_lays hT hW hp2 (fun M1 hF1 hS1 => rn_none ⟨vin (by omega) (by omega), vin (by omega) (by omega), ?_⟩))
  have hT1 := hT.keep hS1.QF
  rw [nI2 (by omega), hT1.px hp, hT1.py hp]
  refine r_spot hx.1 hx.2 (ri_some (r_spreads hwl (hS.op hW hp) hF1 BD0 (fun M2 hF2 hS2 => rn_none ?_)))
  rw [src_eq hwl (hS.op hW hp)] at hF2
  have hSS := hS1.tr hS2
  have hT2 := hT.keep hSS.QF
  generalize hdd : (src (opP σ p) (plc (sX σ p) (sY σ p))).1 = D at hF2
  rw [show (src (opP σ p) (whP σ p)).1 = D from hdd] at hD heq
  have key : ∀ f k : Nat, k + f = 400 → R none (d + 5) mX5_outOf 29 [.ref 18, .int (J (p : Int)), .int (J (mnO D (oun σ (sS σ p)) k)), .int (J (k : Int)), .null] [] M2 Q := by
    intro f
    induction f with
    | zero =>
      intro k hk
      refine b_X5_outOf_29 ⟨fun _ => ?_, fun c => ?_⟩
      · rw [show k = 400 by omega, heq]; exact h M2 hSS.QF
      · simp (disch := omega) only [J_add, J_sub, J_mul, J_neg, J_bit, J_shl, J_shr, J_andn, J_and, J_or, J_xor, J_div, J_rem, J_lt, J_le, J_eq, J_lt0, J_le0, J_0le, J_0lt, J_eq0, vp_in_J, J_clamp, J_max, J_abs, Int.toNat_natCast, Int.reduceToNat, Int.reduceAdd, Int.reduceSub, Int.reduceMul, Int.reduceNeg, not_true_eq_false, not_false_eq_true] at c; omega
    | succ f ih =>
      intro k hk
      have ih2 := ih (k + 1) (by omega)
      rw [mnO] at ih2
      have hmb : -4 ≤ mnO D (oun σ (sS σ p)) k ∧ mnO D (oun σ (sS σ p)) k < 400 := by
        rcases mnO_spec D (oun σ (sS σ p)) k with ⟨h1, -⟩ | ⟨j, n, -, h2, -, h4, -⟩
        · omega
        · have := hD j n h2; omega
      generalize mnO D (oun σ (sS σ p)) k = b at ih2 hmb ⊢
      have hob := oun_ob hW (s := sS σ p) (k := k)
      have hoc := obN_le σ (sS σ p) (((k % 20 : Nat) : Int) - 6) (((k / 20 : Nat) : Int) - 6) 25
      refine b_X5_outOf_29 ⟨fun c => ?_, fun _ => ⟨vin (by omega) (by omega), ?_⟩⟩
      · simp (disch := omega) only [J_add, J_sub, J_mul, J_neg, J_bit, J_shl, J_shr, J_andn, J_and, J_or, J_xor, J_div, J_rem, J_lt, J_le, J_eq, J_lt0, J_le0, J_0le, J_0lt, J_eq0, vp_in_J, J_clamp, J_max, J_abs, Int.toNat_natCast, Int.reduceToNat, Int.reduceAdd, Int.reduceSub, Int.reduceMul, Int.reduceNeg, not_true_eq_false, not_false_eq_true] at c; omega
      · rw [nI2 (by omega), hF2 k (by omega), J_suc, J_m20 (by omega), J_d20 (by omega), J_sub, J_sub]
        cases hd : D k with
        | none =>
          rw [hd] at ih2
          have hneg : fv (opP σ p) D k < 0 ∧ -2 ≤ fv (opP σ p) D k := by
            rw [fv_none hd]
            split <;> omega
          refine ⟨fun _ => ⟨fun _ => ih2, fun c => absurd rfl c⟩, fun c => ?_⟩
          simp (disch := omega) only [J_add, J_sub, J_mul, J_neg, J_bit, J_shl, J_shr, J_andn, J_and, J_or, J_xor, J_div, J_rem, J_lt, J_le, J_eq, J_lt0, J_le0, J_0le, J_0lt, J_eq0, vp_in_J, J_clamp, J_max, J_abs, Int.toNat_natCast, Int.reduceToNat, Int.reduceAdd, Int.reduceSub, Int.reduceMul, Int.reduceNeg, not_true_eq_false, not_false_eq_true] at c; omega
        | some n =>
          rw [hd] at ih2
          dsimp only at ih2
          have hn := hD k n hd
          have hfk := hF2 k (by omega)
          rw [fv_some hd] at hfk
          rw [fv_some hd]
          have ask : ((b < 0 ∨ (n : Int) < b)) → Mt (d + 4) mX5_onBoard [.ref 18, .int (J (p : Int)), .int (J (((k % 20 : Nat) : Int) - 6)), .int (J (((k / 20 : Nat) : Int) - 6))] M2 (ri fun v2 M3 => ((¬ v2 = 0 → R none (d + 5) mX5_outOf 29 [.ref 18, .int (J (p : Int)), .int (J b), .int (J ((k + 1 : Nat) : Int)), .null] [] M3 Q) ∧ (v2 = 0 → (vp_in (J (k : Int)) 400 ∧ R none (d + 5) mX5_outOf 29 [.ref 18, .int (J (p : Int)), .int (M3 27 k), .int (J ((k + 1 : Nat) : Int)), .null] [] M3 Q)))) := by
            intro hcond
            refine r_onBoard hT2 hW hp2 (by omega) (by omega) (ri_some ?_)
            rw [J_eq0 (by omega) (by omega)]
            refine ⟨fun c => ?_, fun c => ⟨vin (by omega) (by omega), ?_⟩⟩
            · rw [if_neg (fun g => c (by have := hob.mpr g.1; omega))] at ih2
              exact ih2
            · rw [if_pos ⟨hob.mp (by omega), hcond⟩] at ih2
              rw [hfk]; exact ih2
          have skip : ¬ (b < 0 ∨ (n : Int) < b) → R none (d + 5) mX5_outOf 29 [.ref 18, .int (J (p : Int)), .int (J b), .int (J ((k + 1 : Nat) : Int)), .null] [] M2 Q := by
            intro hcond
            rw [if_neg (fun g => hcond g.2)] at ih2
            exact ih2
          refine ⟨fun c => ?_, fun _ => ⟨fun c => ⟨fun c2 => absurd c2 one_ne, fun _ => ?_⟩, fun c => ⟨vin (by omega) (by omega), fun c2 => ⟨fun _ => ?_, fun c3 => absurd rfl c3⟩, fun c2 => ⟨fun c3 => absurd c3 one_ne, fun _ => ?_⟩⟩⟩⟩
          · simp (disch := omega) only [J_add, J_sub, J_mul, J_neg, J_bit, J_shl, J_shr, J_andn, J_and, J_or, J_xor, J_div, J_rem, J_lt, J_le, J_eq, J_lt0, J_le0, J_0le, J_0lt, J_eq0, vp_in_J, J_clamp, J_max, J_abs, Int.toNat_natCast, Int.reduceToNat, Int.reduceAdd, Int.reduceSub, Int.reduceMul, Int.reduceNeg, not_true_eq_false, not_false_eq_true] at c; omega
          · simp (disch := omega) only [J_add, J_sub, J_mul, J_neg, J_bit, J_shl, J_shr, J_andn, J_and, J_or, J_xor, J_div, J_rem, J_lt, J_le, J_eq, J_lt0, J_le0, J_0le, J_0lt, J_eq0, vp_in_J, J_clamp, J_max, J_abs, Int.toNat_natCast, Int.reduceToNat, Int.reduceAdd, Int.reduceSub, Int.reduceMul, Int.reduceNeg, not_true_eq_false, not_false_eq_true] at c; exact ask (by omega)
          · simp (disch := omega) only [J_add, J_sub, J_mul, J_neg, J_bit, J_shl, J_shr, J_andn, J_and, J_or, J_xor, J_div, J_rem, J_lt, J_le, J_eq, J_lt0, J_le0, J_0le, J_0lt, J_eq0, vp_in_J, J_clamp, J_max, J_abs, Int.toNat_natCast, Int.reduceToNat, Int.reduceAdd, Int.reduceSub, Int.reduceMul, Int.reduceNeg, not_true_eq_false, not_false_eq_true] at c c2; exact skip (by omega)
          · simp (disch := omega) only [J_add, J_sub, J_mul, J_neg, J_bit, J_shl, J_shr, J_andn, J_and, J_or, J_xor, J_div, J_rem, J_lt, J_le, J_eq, J_lt0, J_le0, J_0le, J_0lt, J_eq0, vp_in_J, J_clamp, J_max, J_abs, Int.toNat_natCast, Int.reduceToNat, Int.reduceAdd, Int.reduceSub, Int.reduceMul, Int.reduceNeg, not_true_eq_false, not_false_eq_true] at c c2; exact ask (by omega)
  exact key 400 0 (by omega)
theorem m_out {S : SS} {p : Int} (hC : MR M S) (hO : OKS S) (hp : BI32 p) (h : ∀ M', MR M' S → NF M M' → Q (some (J (aOut S p))) M') : Mt (d + 12) mX5_out [.ref 18, .int (J p)] M Q := by
  have hW := hO.1
  have hN := hW.N
  refine e_X5_out (r_isPiece hC.1 hW hp (ri_some ?_))
  rw [jb_ne, jb_eq0]
  unfold aOut at h
  refine ⟨fun q => ⟨?_, ?_⟩, fun q => ?_⟩
  · obtain ⟨k, rfl, hk⟩ := isPc_of q
    exact vin (by omega) (by omega)
  · rw [if_pos q] at h
    obtain ⟨k, rfl, hk⟩ := isPc_of q
    rw [Int.toNat_natCast] at h
    rw [nI2 (by omega), hC.1.lie (by omega), jb_ne, jb_eq0]
    refine ⟨fun q2 => ?_, fun q2 => r_outOf hC.1 hW hO.2.1 q2 (fun M1 hF => ri_some ?_)⟩
    · rw [if_neg (fun g => by unfold lyB at g; rw [q2] at g; cases g)] at h
      exact h M hC NF.rf
    · rw [if_pos q2] at h
      exact h M1 (hC.keep hF) hF.NF
  · rw [if_neg (fun g => by rw [q] at g; cases g)] at h
    exact h M hC NF.rf
theorem m_places {S : SS} {p w : Int} (hC : MR M S) (hO : OKS S) (hp : BI32 p) (hw : BI32 w) (h : ∀ M', MR M' S → NF M M' → Q (some (J (aPlaces S p w))) M') : Mt (d + 12) mX5_places [.ref 18, .int (J p), .int (J w)] M Q := by
  have hW := hO.1
  have hN := hW.N
  have hCC := hW.C
  have hRR := hW.R
  obtain ⟨hw1, hw2⟩ := hw
  refine e_X5_places (r_isPiece hC.1 hW hp (ri_some ?_))
  rw [jb_ne, jb_eq0]
  have bad : ¬ (isPc S.1 p = true ∧ (0 ≤ w ∧ w ≤ 1)) → Q (some (J (-1))) M := by
    intro q
    unfold aPlaces at h
    rw [if_neg q] at h
    exact h M hC NF.rf
  refine ⟨fun q => bad (fun g => by rw [q] at g; cases g.1), fun q => r_in (b32 hw1 hw2) (b32 (by omega) (by omega)) (b32 (by omega) (by omega)) (ri_some ?_)⟩
  rw [jb_ne, jb_eq0]
  refine ⟨fun q2 => ?_, fun q2 => bad (fun g => absurd g.2 (of_decide_eq_false q2))⟩
  have hw01 := of_decide_eq_true q2
  unfold aPlaces at h
  rw [if_pos ⟨q, hw01⟩] at h
  obtain ⟨k, rfl, hk⟩ := isPc_of q
  rw [Int.toNat_natCast] at h
  have hsh := hW.2.2.2.2.2.1 k hk
  have hs := hsh.1
  refine r_lays hC.1 hW hk (fun M1 hF1 hS1 => rn_none ?_)
  have hT1 := hC.1.keep hS1.QF
  rw [J_eq0 (by omega) (by omega)]
  refine ⟨fun q3 => ?_, fun q3 => ⟨vin (by omega) (by omega), ?_⟩⟩
  · rw [if_neg q3] at h
    generalize hop : opP S.1 k = op at h hF1
    generalize hou : oun S.1 (sS S.1 k) = ou at h
    have key2 : ∀ f i : Nat, i + f = 400 → ∀ (M2 : Mem) (D : Nat → Option Nat) (n : Nat), n ≤ i → FB M2 op D → BD D → clo op (vD D) → SF M M2 → n + rmN op f i (vD D) = rooms op ou → R none (d + 12) mX5_places 168 [.ref 18, .null, .null, .int (J (n : Int)), .int (J (i : Int)), .null] [] M2 Q := by
      intro f
      induction f with
      | zero =>
        intro i hi M2 D n hn hF hD hc hS he
        rw [rmN] at he
        refine b_X5_places_168 ⟨fun _ => ?_, fun c => ?_⟩
        · rw [show n = rooms op ou by omega]
          exact h M2 (hC.keep hS.QF) hS.QF.NF
        · simp (disch := omega) only [J_add, J_sub, J_mul, J_neg, J_bit, J_shl, J_shr, J_andn, J_and, J_or, J_xor, J_div, J_rem, J_lt, J_le, J_eq, J_lt0, J_le0, J_0le, J_0lt, J_eq0, vp_in_J, J_clamp, J_max, J_abs, Int.toNat_natCast, Int.reduceToNat, Int.reduceAdd, Int.reduceSub, Int.reduceMul, Int.reduceNeg, not_true_eq_false, not_false_eq_true] at c; omega
      | succ f ih =>
        intro i hi M2 D n hn hF hD hc hS he
        rw [rmN] at he
        have hfb := fv_b (op := op) hD i
        refine b_X5_places_168 ⟨fun c => ?_, fun _ => ⟨vin (by omega) (by omega), ?_⟩⟩
        · simp (disch := omega) only [J_add, J_sub, J_mul, J_neg, J_bit, J_shl, J_shr, J_andn, J_and, J_or, J_xor, J_div, J_rem, J_lt, J_le, J_eq, J_lt0, J_le0, J_0le, J_0lt, J_eq0, vp_in_J, J_clamp, J_max, J_abs, Int.toNat_natCast, Int.reduceToNat, Int.reduceAdd, Int.reduceSub, Int.reduceMul, Int.reduceNeg, not_true_eq_false, not_false_eq_true] at c; omega
        · rw [nI2 (by omega), hF i (by omega), J_eq (by omega) (by omega) (by omega) (by omega), J_suc, J_suc]
          have hcond : fv op D i = -2 ↔ (op i = true ∧ ¬ vD D i) := by
            cases hd : D i with
            | some m =>
              rw [fv_some hd]
              exact ⟨fun g => by omega, fun g => absurd ⟨m, hd⟩ g.2⟩
            | none =>
              rw [fv_none hd]
              constructor
              · intro g
                split at g
                · next g1 => exact ⟨g1, fun ⟨m, hm⟩ => by rw [hd] at hm; cases hm⟩
                · omega
              · intro g; rw [if_pos g.1]
          refine ⟨fun c => ?_, fun c => ?_⟩
          · rw [if_neg (by rw [pb_t]; exact fun g => c (hcond.mpr g))] at he
            exact ih (i + 1) (by omega) M2 D n (by omega) hF hD hc hS he
          · have hc2 := hcond.mp c
            rw [if_pos (by rw [pb_t]; exact hc2)] at he
            refine r_spreads (by omega) hc2.1 hF hD (fun M3 hF3 hS3 => rn_none ?_)
            have hv := nx_vis (D := D) (show i < 400 by omega) hc2.1 hc
            refine ih (i + 1) (by omega) M3 _ (n + 1) (by omega) hF3 (spr_BD 401 0 (one_BI (by omega) hc2.1) (one_BD hD)) ?_ (hS.tr hS3) ?_
            · show clo op (vD (nxD op D i))
              rw [hv]; exact cl_clo _ _
            · show n + 1 + rmN op f (i + 1) (vD (nxD op D i)) = _
              rw [hv]; omega
    have key1 : ∀ f i : Nat, i + f = 400 → ∀ (M2 : Mem) (D : Nat → Option Nat), FB M2 op D → BD D → vD D = cl op (fun j => j < i ∧ ou j = true ∧ op j = true) → SF M M2 → R none (d + 12) mX5_places 109 [.ref 18, .int (J (k : Int)), .null, .int (J 0), .int (J (i : Int)), .null] [] M2 Q := by
      intro f
      induction f with
      | zero =>
        intro i hi M2 D hF hD hv hS
        refine b_X5_places_109 ⟨fun _ => ?_, fun c => ?_⟩
        · refine key2 400 0 (by omega) M2 D 0 (by omega) hF hD (by rw [hv]; exact cl_clo _ _) hS ?_
          rw [hv, show i = 400 by omega, Nat.zero_add]; rfl
        · simp (disch := omega) only [J_add, J_sub, J_mul, J_neg, J_bit, J_shl, J_shr, J_andn, J_and, J_or, J_xor, J_div, J_rem, J_lt, J_le, J_eq, J_lt0, J_le0, J_0le, J_0lt, J_eq0, vp_in_J, J_clamp, J_max, J_abs, Int.toNat_natCast, Int.reduceToNat, Int.reduceAdd, Int.reduceSub, Int.reduceMul, Int.reduceNeg, not_true_eq_false, not_false_eq_true] at c; omega
      | succ f ih =>
        intro i hi M2 D hF hD hv hS
        have hfb := fv_b (op := op) hD i
        have hob := oun_ob hW (s := sS S.1 k) (k := i)
        rw [hou] at hob
        have hoc := obN_le S.1 (sS S.1 k) (((i % 20 : Nat) : Int) - 6) (((i / 20 : Nat) : Int) - 6) 25
        have same : ¬ (op i = true ∧ ou i = true ∧ ¬ vD D i) → R none (d + 12) mX5_places 109 [.ref 18, .int (J (k : Int)), .null, .int (J 0), .int (J ((i + 1 : Nat) : Int)), .null] [] M2 Q := by
          intro hn
          refine ih (i + 1) (by omega) M2 D hF hD ?_ hS
          rw [hv] at hn ⊢
          refine cl_ext (fun j hj => cl_sub ⟨by omega, hj.2⟩) (fun j hj => ?_)
          by_cases e : j = i
          · subst e
            exact Classical.byContradiction (fun g => hn ⟨hj.2.2, hj.2.1, g⟩)
          · exact cl_sub ⟨by omega, hj.2⟩
        refine b_X5_places_109 ⟨fun c => ?_, fun _ => ⟨vin (by omega) (by omega), ?_⟩⟩
        · simp (disch := omega) only [J_add, J_sub, J_mul, J_neg, J_bit, J_shl, J_shr, J_andn, J_and, J_or, J_xor, J_div, J_rem, J_lt, J_le, J_eq, J_lt0, J_le0, J_0le, J_0lt, J_eq0, vp_in_J, J_clamp, J_max, J_abs, Int.toNat_natCast, Int.reduceToNat, Int.reduceAdd, Int.reduceSub, Int.reduceMul, Int.reduceNeg, not_true_eq_false, not_false_eq_true] at c; omega
        · rw [nI2 (by omega), hF i (by omega), J_eq (by omega) (by omega) (by omega) (by omega), J_suc, J_m20 (by omega), J_d20 (by omega), J_sub, J_sub]
          refine ⟨fun c => same (fun g => c ?_), fun c => r_onBoard (hC.1.keep hS.QF) hW hk (by omega) (by omega) (ri_some ?_)⟩
          · cases hd : D i with
            | some m => exact absurd ⟨m, hd⟩ g.2.2
            | none => rw [fv_none hd, if_pos g.1]
          · rw [J_eq0 (by omega) (by omega)]
            refine ⟨fun c2 => same (fun g => c2 (by have := hob.mpr g.2.1; omega)), fun c2 => ?_⟩
            have hoi : ou i = true := hob.mp (by omega)
            have hdn : D i = none := by
              cases hd : D i with
              | none => rfl
              | some m => rw [fv_some hd] at c; omega
            have hopi : op i = true := by
              rw [fv_none hdn] at c
              split at c
              · next g => exact g
              · omega
            refine r_spreads (by omega) hopi hF hD (fun M3 hF3 hS3 => rn_none ?_)
            have hv2 := nx_vis (D := D) (show i < 400 by omega) hopi (by rw [hv]; exact cl_clo _ _)
            refine ih (i + 1) (by omega) M3 _ hF3 (spr_BD 401 0 (one_BI (by omega) hopi) (one_BD hD)) ?_ (hS.tr hS3)
            show vD (nxD op D i) = _
            rw [hv2, hv]
            refine cl_ext (fun j hj => ?_) (fun j hj => ?_)
            · rcases hj with hj | e
              · exact cl_mono (fun j' hj' => cl_sub ⟨by omega, hj'.2⟩) hj
              · subst e; exact cl_sub ⟨by omega, hoi, hopi⟩
            · by_cases e : j = i
              · exact cl_sub (Or.inr e)
              · exact cl_sub (Or.inl (cl_sub ⟨by omega, hj.2⟩))
    refine key1 400 0 (by omega) M1 _ hF1 BD0 ?_ hS1
    funext z
    apply propext
    constructor
    · rintro ⟨n, hn⟩; cases hn
    · intro hz
      exact absurd (hz (fun _ => False) (fun j hj => by omega) (fun _ _ _ g _ _ _ => g)) id
  · rw [if_pos q3] at h
    rw [nI2 (by omega), hT1.shp hk]
    refine r_squares hs (ri_some ?_)
    have hpc : pcR 25 (sS S.1 k) ≤ 25 := by
      rw [pcR_sum]
      have := sumN_le (f := fun i => sS S.1 k / 2 ^ i % 2) (b := 1) (fun j => by omega) 25
      omega
    have hwd := hsh.wide
    have heq : cntB (fun i => opP S.1 k i && pb (allP S.1 (sS S.1 k) (((i % 20 : Nat) : Int) - 6) (((i / 20 : Nat) : Int) - 6))) 400 = insC (opP S.1 k) (colsN S.1 (sS S.1 k)) (rowsN S.1 (sS S.1 k)) := by
      have e1 : colsN S.1 (sS S.1 k) = (sC S.1 - (wideN (sS S.1 k) : Int) + 1).toNat := rfl
      have e2 : rowsN S.1 (sS S.1 k) = (sR S.1 - (tallN (sS S.1 k) : Int) + 1).toNat := rfl
      refine ins_eq (by omega) (by omega) (fun y x hx hy => ?_)
      rw [Bool.and_comm]
      congr 1
      rw [show (20 * y + x) % 20 = x by omega, show (20 * y + x) / 20 = y by omega]
      symm
      apply pb_eq
      rw [decide_eq_true_iff, all_in hsh]
      omega
    have key : ∀ f i : Nat, i + f = 400 → R none (d + 12) mX5_places 44 [.ref 18, .int (J (k : Int)), .null, .int (J (cntB (fun i => opP S.1 k i && pb (allP S.1 (sS S.1 k) (((i % 20 : Nat) : Int) - 6) (((i / 20 : Nat) : Int) - 6))) i : Nat)), .int (J (pcR 25 (sS S.1 k) : Nat)), .int (J (i : Int))] [] M1 Q := by
      intro f
      induction f with
      | zero =>
        intro i hi
        refine b_X5_places_44 ⟨fun _ => ?_, fun c => ?_⟩
        · rw [show i = 400 by omega, heq]
          exact h M1 (hC.keep hS1.QF) hS1.QF.NF
        · simp (disch := omega) only [J_add, J_sub, J_mul, J_neg, J_bit, J_shl, J_shr, J_andn, J_and, J_or, J_xor, J_div, J_rem, J_lt, J_le, J_eq, J_lt0, J_le0, J_0le, J_0lt, J_eq0, vp_in_J, J_clamp, J_max, J_abs, Int.toNat_natCast, Int.reduceToNat, Int.reduceAdd, Int.reduceSub, Int.reduceMul, Int.reduceNeg, not_true_eq_false, not_false_eq_true] at c; omega
      | succ f ih =>
        intro i hi
        have ih2 := ih (i + 1) (by omega)
        rw [cntB] at ih2
        have hfb := fv_b (op := opP S.1 k) BD0 i
        have hoc := obN_le S.1 (sS S.1 k) (((i % 20 : Nat) : Int) - 6) (((i / 20 : Nat) : Int) - 6) 25
        refine b_X5_places_44 ⟨fun c => ?_, fun _ => ⟨vin (by omega) (by omega), ?_⟩⟩
        · simp (disch := omega) only [J_add, J_sub, J_mul, J_neg, J_bit, J_shl, J_shr, J_andn, J_and, J_or, J_xor, J_div, J_rem, J_lt, J_le, J_eq, J_lt0, J_le0, J_0le, J_0lt, J_eq0, vp_in_J, J_clamp, J_max, J_abs, Int.toNat_natCast, Int.reduceToNat, Int.reduceAdd, Int.reduceSub, Int.reduceMul, Int.reduceNeg, not_true_eq_false, not_false_eq_true] at c; omega
        · rw [nI2 (by omega), hF1 i (by omega), J_eq (by omega) (by omega) (by omega) (by omega), J_suc, J_suc, J_m20 (by omega), J_d20 (by omega), J_sub, J_sub, J_a0]
          have hcond : fv (opP S.1 k) (fun _ => none) i = -2 ↔ opP S.1 k i = true := by
            rw [fv_none rfl]
            constructor
            · intro g
              split at g
              · next g1 => exact g1
              · omega
            · intro g; rw [if_pos g]
          refine ⟨fun c => ?_, fun c => r_onBoard hT1 hW hk (by omega) (by omega) (ri_some ?_)⟩
          · rw [if_neg (by rw [Bool.and_eq_true]; exact fun g => c (hcond.mpr g.1))] at ih2
            exact ih2
          · rw [J_eq (by omega) (by omega) (by omega) (by omega)]
            have hob := ob_all (σ := S.1) (s := sS S.1 k) (x := ((i % 20 : Nat) : Int) - 6) (y := ((i / 20 : Nat) : Int) - 6)
            refine ⟨fun c2 => ?_, fun c2 => ?_⟩
            · rw [if_neg (by rw [Bool.and_eq_true, pb_t]; exact fun g => c2 (by have := hob.mpr g.2; omega))] at ih2
              exact ih2
            · rw [if_pos (by rw [Bool.and_eq_true, pb_t]; exact ⟨hcond.mp c, hob.mp (by omega)⟩)] at ih2
              exact ih2
    exact key 400 0 (by omega)
end MO
