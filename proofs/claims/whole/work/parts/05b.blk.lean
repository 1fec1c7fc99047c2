set_option maxRecDepth 100000 in
set_option maxHeartbeats 4000000 in
theorem b_X0_fits_0 {d : Nat} {M : Mem} {Q : Post} {x1 x2 : Int32} (h : ((x1 < (J 1) → Q (some (J 0)) M) ∧ (¬ x1 < (J 1) → (((J 12) < x1 → Q (some (J 0)) M) ∧ (¬ (J 12) < x1 → (Mt d mX3_pieceCount [.ref 1] M (ri fun v1 M1 => (((x2 >>> (v1 &&& 31)) = 0 → R none (d + 1) mX0_fits 27 [.ref 4, .int x1, .int x2, .int (J 0)] [] M1 Q) ∧ (¬ (x2 >>> (v1 &&& 31)) = 0 → Q (some (J 0)) M1))))))))) : R none (d + 1) mX0_fits 0 [.ref 4, .int x1, .int x2, .null] [] M Q := by
  refine r_iload_n dX0_fits_0 rfl rfl ?_
  refine r_iconst (v := J 1) dX0_fits_1 rfl ?_
  refine r_icmp_lt (tgt := 23) dX0_fits_2 (by decide) (fun c_2 => ?_) (fun c_2 => ?_)
  · replace h := h.1 c_2
    refine r_iconst (v := J 0) dX0_fits_23 rfl ?_
    exact r_ret dX0_fits_24 rfl nb0 h
  · replace h := h.2 c_2
    refine r_iload_n dX0_fits_5 rfl rfl ?_
    refine r_bipush (v := J 12) dX0_fits_6 (by decide +kernel) ?_
    refine r_icmp_gt (tgt := 23) dX0_fits_8 (by decide) (fun c_8 => ?_) (fun c_8 => ?_)
    · replace h := h.1 c_8
      refine r_iconst (v := J 0) dX0_fits_23 rfl ?_
      exact r_ret dX0_fits_24 rfl nb0 h
    · replace h := h.2 c_8
      refine r_iload_n dX0_fits_11 rfl rfl ?_
      refine r_aload_n dX0_fits_12 rfl rfl ?_
      refine r_getR dX0_fits_13 flX0_28 rfl rfl ?_
      refine r_callV (as := []) (st := [.int x2]) dX0_fits_16 cvX0_32 rfl rfl rfl rfl (Nat.le_of_ble_eq_true rfl) h (fun r M1 h => ?_)
      obtain ⟨v1, rfl, h⟩ := h
      refine r_ishr dX0_fits_19 ?_
      refine r_if_eq (tgt := 25) dX0_fits_20 (by decide) (fun c_20 => ?_) (fun c_20 => ?_)
      · replace h := h.1 c_20
        refine r_iconst (v := J 0) dX0_fits_25 rfl ?_
        refine r_istore_n dX0_fits_26 rfl (by decide) rfl ?_
        exact h
      · replace h := h.2 c_20
        refine r_iconst (v := J 0) dX0_fits_23 rfl ?_
        exact r_ret dX0_fits_24 rfl nb0 h
set_option maxRecDepth 100000 in
set_option maxHeartbeats 4000000 in
theorem b_X0_fits_27 {d : Nat} {M : Mem} {Q : Post} {x1 x2 x3 : Int32} (h : (((J 8) ≤ x3 → Q (some (J 1)) M) ∧ (¬ (J 8) ≤ x3 → (Mt d mX4_isIn [.int x2, .int x3] M (ri fun v1 M1 => ((v1 = 0 → R none (d + 1) mX0_fits 27 [.ref 4, .int x1, .int x2, .int (x3 + J 1)] [] M1 Q) ∧ (¬ v1 = 0 → (Mt d mX3_shapeOf [.ref 1, .int x3] M1 (ri fun v2 M2 => (Mt d mX4_columnsOf [.int v2] M2 (ri fun v3 M3 => ((v3 ≤ x1 → R none (d + 1) mX0_fits 27 [.ref 4, .int x1, .int x2, .int (x3 + J 1)] [] M3 Q) ∧ (¬ v3 ≤ x1 → Q (some (J 0)) M3))))))))))))) : R none (d + 1) mX0_fits 27 [.ref 4, .int x1, .int x2, .int x3] [] M Q := by
  refine r_iload_n dX0_fits_27 rfl rfl ?_
  refine r_bipush (v := J 8) dX0_fits_28 (by decide +kernel) ?_
  refine r_icmp_ge (tgt := 64) dX0_fits_30 (by decide) (fun c_30 => ?_) (fun c_30 => ?_)
  · replace h := h.1 c_30
    refine r_iconst (v := J 1) dX0_fits_64 rfl ?_
    exact r_ret dX0_fits_65 rfl nb1 h
  · replace h := h.2 c_30
    refine r_iload_n dX0_fits_33 rfl rfl ?_
    refine r_iload_n dX0_fits_34 rfl rfl ?_
    refine r_callN (as := [.int x2, .int x3]) (st := []) dX0_fits_35 cnX0_38 rfl rfl (Nat.le_of_ble_eq_true rfl) h (fun r M1 h => ?_)
    obtain ⟨v1, rfl, h⟩ := h
    refine r_if_eq (tgt := 58) dX0_fits_38 (by decide) (fun c_38 => ?_) (fun c_38 => ?_)
    · replace h := h.1 c_38
      refine r_iinc (v := J 1) dX0_fits_58 rfl rfl (by decide) rfl ?_
      refine r_goto (tgt := 27) dX0_fits_61 (by decide) ?_
      exact h
    · replace h := h.2 c_38
      refine r_aload_n dX0_fits_41 rfl rfl ?_
      refine r_getR dX0_fits_42 flX0_28 rfl rfl ?_
      refine r_iload_n dX0_fits_45 rfl rfl ?_
      refine r_callV (as := [.int x3]) (st := []) dX0_fits_46 cvX0_42 rfl rfl rfl rfl (Nat.le_of_ble_eq_true rfl) h (fun r M2 h => ?_)
      obtain ⟨v2, rfl, h⟩ := h
      refine r_callN (as := [.int v2]) (st := []) dX0_fits_49 cnX0_46 rfl rfl (Nat.le_of_ble_eq_true rfl) h (fun r M3 h => ?_)
      obtain ⟨v3, rfl, h⟩ := h
      refine r_iload_n dX0_fits_52 rfl rfl ?_
      refine r_icmp_le (tgt := 58) dX0_fits_53 (by decide) (fun c_53 => ?_) (fun c_53 => ?_)
      · replace h := h.1 c_53
        refine r_iinc (v := J 1) dX0_fits_58 rfl rfl (by decide) rfl ?_
        refine r_goto (tgt := 27) dX0_fits_61 (by decide) ?_
        exact h
      · replace h := h.2 c_53
        refine r_iconst (v := J 0) dX0_fits_56 rfl ?_
        exact r_ret dX0_fits_57 rfl nb0 h
theorem e_X0_fits {d : Nat} {M : Mem} {Q : Post} {x1 x2 : Int32} (h : ((x1 < (J 1) → Q (some (J 0)) M) ∧ (¬ x1 < (J 1) → (((J 12) < x1 → Q (some (J 0)) M) ∧ (¬ (J 12) < x1 → (Mt d mX3_pieceCount [.ref 1] M (ri fun v1 M1 => (((x2 >>> (v1 &&& 31)) = 0 → R none (d + 1) mX0_fits 27 [.ref 4, .int x1, .int x2, .int (J 0)] [] M1 Q) ∧ (¬ (x2 >>> (v1 &&& 31)) = 0 → Q (some (J 0)) M1))))))))) : Mt (d + 1) mX0_fits [.ref 4, .int x1, .int x2] M Q := Mt.of (k := 1) (by decide +kernel) (okR (okI (okI okN))) (Nat.le_of_ble_eq_true rfl) rfl (b_X0_fits_0 h)
set_option maxRecDepth 100000 in
set_option maxHeartbeats 4000000 in
theorem b_X0_fill_0 {d : Nat} {M : Mem} {Q : Post} {x1 x2 x3 : Int32} (h : (Mt d mX0_empty [.ref 4, .int x1] M (rn fun M1 => R none (d + 1) mX0_fill 11 [.ref 4, .null, .int x2, .int x3, .int (J 0), .int (J 0), .null] [] M1 Q))) : R none (d + 1) mX0_fill 0 [.ref 4, .int x1, .int x2, .int x3, .null, .null, .null] [] M Q := by
  refine r_aload_n dX0_fill_0 rfl rfl ?_
  refine r_iload_n dX0_fill_1 rfl rfl ?_
  refine r_callV (as := [.int x1]) (st := []) dX0_fill_2 cvX0_49 rfl rfl rfl rfl (Nat.le_of_ble_eq_true rfl) h (fun r M1 h => ?_)
  obtain ⟨rfl, h⟩ := h
  refine r_iconst (v := J 0) dX0_fill_5 rfl ?_
  refine r_istore dX0_fill_6 (by decide) rfl ?_
  refine r_iconst (v := J 0) dX0_fill_8 rfl ?_
  refine r_istore dX0_fill_9 (by decide) rfl ?_
  refine r_kill [false, true, false, false, false, false, false] rfl ?_
  exact h
set_option maxRecDepth 100000 in
set_option maxHeartbeats 4000000 in
theorem b_X0_fill_11 {d : Nat} {M : Mem} {Q : Post} {x2 x3 x4 x5 : Int32} (h : ((x2 ≤ x5 → Q (some x4) M) ∧ (¬ x2 ≤ x5 → (((J 5) ≤ x5 → Q (some x4) M) ∧ (¬ (J 5) ≤ x5 → (Mt d mX4_pieceInOrder [.int x3, .int x5] M (ri fun v1 M1 => (Mt d mX3_shapeOf [.ref 1, .int v1] M1 (ri fun v2 M2 => (Mt d mX0_spotFor [.ref 4, .int v2] M2 (ri fun v3 M3 => (vp_in x5 5 ∧ (vp_in x5 5 ∧ (Mt d mX0_toggle [.ref 4, .int v2, .int ((mset M3 17 x5.toNatClampNeg v3) 17 x5.toNatClampNeg)] (mset M3 17 x5.toNatClampNeg v3) (rn fun M4 => (vp_in x5 5 ∧ (Mt d mX4_rowsOf [.int v2] M4 (ri fun v4 M5 => R none (d + 1) mX0_fill 11 [.ref 4, .null, .int x2, .int x3, .int (jmax x4 (((M4 17 x5.toNatClampNeg) / (J 100)) + v4)), .int (x5 + J 1), .null] [] M5 Q)))))))))))))))))) : R none (d + 1) mX0_fill 11 [.ref 4, .null, .int x2, .int x3, .int x4, .int x5, .null] [] M Q := by
  refine r_iload dX0_fill_11 rfl ?_
  refine r_iload_n dX0_fill_13 rfl rfl ?_
  refine r_icmp_ge (tgt := 97) dX0_fill_14 (by decide) (fun c_14 => ?_) (fun c_14 => ?_)
  · replace h := h.1 c_14
    refine r_iload dX0_fill_97 rfl ?_
    exact r_ret dX0_fill_99 rfl rfl h
  · replace h := h.2 c_14
    refine r_iload dX0_fill_17 rfl ?_
    refine r_aload_n dX0_fill_19 rfl rfl ?_
    refine r_getR dX0_fill_20 flX0_15 rfl rfl ?_
    refine r_alen (v := J 5) dX0_fill_23 rfl (by decide +kernel) ?_
    refine r_icmp_ge (tgt := 97) dX0_fill_24 (by decide) (fun c_24 => ?_) (fun c_24 => ?_)
    · replace h := h.1 c_24
      refine r_iload dX0_fill_97 rfl ?_
      exact r_ret dX0_fill_99 rfl rfl h
    · replace h := h.2 c_24
      refine r_aload_n dX0_fill_27 rfl rfl ?_
      refine r_getR dX0_fill_28 flX0_28 rfl rfl ?_
      refine r_iload_n dX0_fill_31 rfl rfl ?_
      refine r_iload dX0_fill_32 rfl ?_
      refine r_callN (as := [.int x3, .int x5]) (st := [.ref 1]) dX0_fill_34 cnX0_53 rfl rfl (Nat.le_of_ble_eq_true rfl) h (fun r M1 h => ?_)
      obtain ⟨v1, rfl, h⟩ := h
      refine r_callV (as := [.int v1]) (st := []) dX0_fill_37 cvX0_42 rfl rfl rfl rfl (Nat.le_of_ble_eq_true rfl) h (fun r M2 h => ?_)
      obtain ⟨v2, rfl, h⟩ := h
      refine r_istore dX0_fill_40 (by decide) rfl ?_
      refine r_aload_n dX0_fill_42 rfl rfl ?_
      refine r_getR dX0_fill_43 flX0_15 rfl rfl ?_
      refine r_iload dX0_fill_46 rfl ?_
      refine r_aload_n dX0_fill_48 rfl rfl ?_
      refine r_iload dX0_fill_49 rfl ?_
      refine r_callV (as := [.int v2]) (st := [.int x5, .ref 17]) dX0_fill_51 cvX0_57 rfl rfl rfl rfl (Nat.le_of_ble_eq_true rfl) h (fun r M3 h => ?_)
      obtain ⟨v3, rfl, h⟩ := h
      refine r_iast dX0_fill_54 rfl h.1 ?_
      replace h := h.2
      refine r_aload_n dX0_fill_55 rfl rfl ?_
      refine r_iload dX0_fill_56 rfl ?_
      refine r_aload_n dX0_fill_58 rfl rfl ?_
      refine r_getR dX0_fill_59 flX0_15 rfl rfl ?_
      refine r_iload dX0_fill_62 rfl ?_
      refine r_iald dX0_fill_64 rfl h.1 ?_
      replace h := h.2
      refine r_callV (as := [.int v2, .int ((mset M3 17 x5.toNatClampNeg v3) 17 x5.toNatClampNeg)]) (st := []) dX0_fill_65 cvX0_60 rfl rfl rfl rfl (Nat.le_of_ble_eq_true rfl) h (fun r M4 h => ?_)
      obtain ⟨rfl, h⟩ := h
      refine r_iload dX0_fill_68 rfl ?_
      refine r_aload_n dX0_fill_70 rfl rfl ?_
      refine r_getR dX0_fill_71 flX0_15 rfl rfl ?_
      refine r_iload dX0_fill_74 rfl ?_
      refine r_iald dX0_fill_76 rfl h.1 ?_
      replace h := h.2
      refine r_bipush (v := J 100) dX0_fill_77 (by decide +kernel) ?_
      refine r_idiv dX0_fill_79 (by decide +kernel) ?_
      refine r_iload dX0_fill_80 rfl ?_
      refine r_callN (as := [.int v2]) (st := [.int ((M4 17 x5.toNatClampNeg) / (J 100)), .int x4]) dX0_fill_82 cnX0_64 rfl rfl (Nat.le_of_ble_eq_true rfl) h (fun r M5 h => ?_)
      obtain ⟨v4, rfl, h⟩ := h
      refine r_iadd dX0_fill_85 ?_
      refine r_max dX0_fill_86 mxX0_67 (Nat.le_of_ble_eq_true rfl) ?_
      refine r_istore dX0_fill_89 (by decide) rfl ?_
      refine r_iinc (v := J 1) dX0_fill_91 rfl rfl (by decide) rfl ?_
      refine r_goto (tgt := 11) dX0_fill_94 (by decide) ?_
      refine r_kill [false, false, false, false, false, false, true] rfl ?_
      exact h
theorem e_X0_fill {d : Nat} {M : Mem} {Q : Post} {x1 x2 x3 : Int32} (h : (Mt d mX0_empty [.ref 4, .int x1] M (rn fun M1 => R none (d + 1) mX0_fill 11 [.ref 4, .null, .int x2, .int x3, .int (J 0), .int (J 0), .null] [] M1 Q))) : Mt (d + 1) mX0_fill [.ref 4, .int x1, .int x2, .int x3] M Q := Mt.of (k := 3) (by decide +kernel) (okR (okI (okI (okI okN)))) (Nat.le_of_ble_eq_true rfl) rfl (b_X0_fill_0 h)
set_option maxRecDepth 100000 in
set_option maxHeartbeats 4000000 in
theorem b_X0_spotAt_0 {d : Nat} {M : Mem} {Q : Post} {x1 : Int32} (h : ((x1 < 0 → Q (some (J (-4))) M) ∧ (¬ x1 < 0 → ((x1 < (J 5) → (vp_in x1 5 ∧ Q (some (M 17 x1.toNatClampNeg)) M)) ∧ (¬ x1 < (J 5) → Q (some (J (-4))) M))))) : R none (d + 1) mX0_spotAt 0 [.ref 4, .int x1] [] M Q := by
  refine r_iload_n dX0_spotAt_0 rfl rfl ?_
  refine r_if_lt (tgt := 13) dX0_spotAt_1 (by decide) (fun c_1 => ?_) (fun c_1 => ?_)
  · replace h := h.1 c_1
    refine r_bipush (v := J (-4)) dX0_spotAt_13 (by decide +kernel) ?_
    refine r_goto (tgt := 24) dX0_spotAt_15 (by decide) ?_
    exact r_ret dX0_spotAt_24 rfl rfl h
  · replace h := h.2 c_1
    refine r_iload_n dX0_spotAt_4 rfl rfl ?_
    refine r_aload_n dX0_spotAt_5 rfl rfl ?_
    refine r_getR dX0_spotAt_6 flX0_15 rfl rfl ?_
    refine r_alen (v := J 5) dX0_spotAt_9 rfl (by decide +kernel) ?_
    refine r_icmp_lt (tgt := 18) dX0_spotAt_10 (by decide) (fun c_10 => ?_) (fun c_10 => ?_)
    · replace h := h.1 c_10
      refine r_aload_n dX0_spotAt_18 rfl rfl ?_
      refine r_getR dX0_spotAt_19 flX0_15 rfl rfl ?_
      refine r_iload_n dX0_spotAt_22 rfl rfl ?_
      refine r_iald dX0_spotAt_23 rfl h.1 ?_
      replace h := h.2
      exact r_ret dX0_spotAt_24 rfl rfl h
    · replace h := h.2 c_10
      refine r_bipush (v := J (-4)) dX0_spotAt_13 (by decide +kernel) ?_
      refine r_goto (tgt := 24) dX0_spotAt_15 (by decide) ?_
      exact r_ret dX0_spotAt_24 rfl rfl h
theorem e_X0_spotAt {d : Nat} {M : Mem} {Q : Post} {x1 : Int32} (h : ((x1 < 0 → Q (some (J (-4))) M) ∧ (¬ x1 < 0 → ((x1 < (J 5) → (vp_in x1 5 ∧ Q (some (M 17 x1.toNatClampNeg)) M)) ∧ (¬ x1 < (J 5) → Q (some (J (-4))) M))))) : Mt (d + 1) mX0_spotAt [.ref 4, .int x1] M Q := Mt.of (k := 0) (by decide +kernel) (okR (okI okN)) (Nat.le_of_ble_eq_true rfl) rfl (b_X0_spotAt_0 h)
set_option maxRecDepth 100000 in
set_option maxHeartbeats 4000000 in
theorem b_X0_findBest_0 {d : Nat} {M : Mem} {Q : Post} {x1 x2 : Int32} (h : (Mt d mX0_empty [.ref 4, .int x1] M (rn fun M1 => (Mt d mX0_search [.ref 4, .int x2, .int (J 0), .int (J 0), .int (J 0)] (mset (mset M1 4 4 (J 26)) 4 5 (J 0)) (rn fun M2 => Q none M2))))) : R none (d + 1) mX0_findBest 0 [.ref 4, .int x1, .int x2] [] M Q := by
  refine r_aload_n dX0_findBest_0 rfl rfl ?_
  refine r_iload_n dX0_findBest_1 rfl rfl ?_
  refine r_callV (as := [.int x1]) (st := []) dX0_findBest_2 cvX0_49 rfl rfl rfl rfl (Nat.le_of_ble_eq_true rfl) h (fun r M1 h => ?_)
  obtain ⟨rfl, h⟩ := h
  refine r_aload_n dX0_findBest_5 rfl rfl ?_
  refine r_bipush (v := J 26) dX0_findBest_6 (by decide +kernel) ?_
  refine r_putI dX0_findBest_8 fwX0_22 rfl rfl ?_
  refine r_aload_n dX0_findBest_11 rfl rfl ?_
  refine r_iconst (v := J 0) dX0_findBest_12 rfl ?_
  refine r_putI dX0_findBest_13 fwX0_25 rfl rfl ?_
  refine r_aload_n dX0_findBest_16 rfl rfl ?_
  refine r_iload_n dX0_findBest_17 rfl rfl ?_
  refine r_iconst (v := J 0) dX0_findBest_18 rfl ?_
  refine r_iconst (v := J 0) dX0_findBest_19 rfl ?_
  refine r_iconst (v := J 0) dX0_findBest_20 rfl ?_
  refine r_callS (as := [.ref 4, .int x2, .int (J 0), .int (J 0), .int (J 0)]) (st := []) dX0_findBest_21 csX0_72 rfl rfl (Nat.le_of_ble_eq_true rfl) h (fun r M2 h => ?_)
  obtain ⟨rfl, h⟩ := h
  exact r_vret dX0_findBest_24 rfl h
theorem e_X0_findBest {d : Nat} {M : Mem} {Q : Post} {x1 x2 : Int32} (h : (Mt d mX0_empty [.ref 4, .int x1] M (rn fun M1 => (Mt d mX0_search [.ref 4, .int x2, .int (J 0), .int (J 0), .int (J 0)] (mset (mset M1 4 4 (J 26)) 4 5 (J 0)) (rn fun M2 => Q none M2))))) : Mt (d + 1) mX0_findBest [.ref 4, .int x1, .int x2] M Q := Mt.of (k := 0) (by decide +kernel) (okR (okI (okI okN))) (Nat.le_of_ble_eq_true rfl) rfl (b_X0_findBest_0 h)
set_option maxRecDepth 100000 in
set_option maxHeartbeats 4000000 in
theorem b_X0_bestHeight_0 {d : Nat} {M : Mem} {Q : Post} (h : Q (some (M 4 4)) M) : R none (d + 1) mX0_bestHeight 0 [.ref 4] [] M Q := by
  refine r_aload_n dX0_bestHeight_0 rfl rfl ?_
  refine r_getI dX0_bestHeight_1 flX0_22 rfl rfl ?_
  exact r_ret dX0_bestHeight_4 rfl rfl h
theorem e_X0_bestHeight {d : Nat} {M : Mem} {Q : Post} (h : Q (some (M 4 4)) M) : Mt (d + 1) mX0_bestHeight [.ref 4] M Q := Mt.of (k := 0) (by decide +kernel) (okR okN) (Nat.le_of_ble_eq_true rfl) rfl (b_X0_bestHeight_0 h)
set_option maxRecDepth 100000 in
set_option maxHeartbeats 4000000 in
theorem b_X0_bestOrder_0 {d : Nat} {M : Mem} {Q : Post} (h : Q (some (M 4 5)) M) : R none (d + 1) mX0_bestOrder 0 [.ref 4] [] M Q := by
  refine r_aload_n dX0_bestOrder_0 rfl rfl ?_
  refine r_getI dX0_bestOrder_1 flX0_25 rfl rfl ?_
  exact r_ret dX0_bestOrder_4 rfl rfl h
theorem e_X0_bestOrder {d : Nat} {M : Mem} {Q : Post} (h : Q (some (M 4 5)) M) : Mt (d + 1) mX0_bestOrder [.ref 4] M Q := Mt.of (k := 0) (by decide +kernel) (okR okN) (Nat.le_of_ble_eq_true rfl) rfl (b_X0_bestOrder_0 h)
set_option maxRecDepth 100000 in
set_option maxHeartbeats 4000000 in
theorem b_X0_search_0 {d : Nat} {M : Mem} {Q : Post} {x1 x2 x3 x4 : Int32} (h : (((M 4 4) ≤ x4 → Q none M) ∧ (¬ (M 4 4) ≤ x4 → ((x2 ≤ (J 5) → ((¬ x1 = 0 → R none (d + 1) mX0_search 34 [.ref 4, .int x1, .int x2, .int x3, .int x4, .int (J 0), .null, .null, .null] [] M Q) ∧ (x1 = 0 → Q none (mset (mset M 4 4 x4) 4 5 x3)))) ∧ (¬ x2 ≤ (J 5) → Q none M))))) : R none (d + 1) mX0_search 0 [.ref 4, .int x1, .int x2, .int x3, .int x4, .null, .null, .null, .null] [] M Q := by
  refine r_iload dX0_search_0 rfl ?_
  refine r_aload_n dX0_search_2 rfl rfl ?_
  refine r_getI dX0_search_3 flX0_22 rfl rfl ?_
  refine r_icmp_ge (tgt := 14) dX0_search_6 (by decide) (fun c_6 => ?_) (fun c_6 => ?_)
  · replace h := h.1 c_6
    exact r_vret dX0_search_14 rfl h
  · replace h := h.2 c_6
    refine r_iload_n dX0_search_9 rfl rfl ?_
    refine r_iconst (v := J 5) dX0_search_10 rfl ?_
    refine r_icmp_le (tgt := 15) dX0_search_11 (by decide) (fun c_11 => ?_) (fun c_11 => ?_)
    · replace h := h.1 c_11
      refine r_iload_n dX0_search_15 rfl rfl ?_
      refine r_if_ne (tgt := 31) dX0_search_16 (by decide) (fun c_16 => ?_) (fun c_16 => ?_)
      · replace h := h.1 c_16
        refine r_iconst (v := J 0) dX0_search_31 rfl ?_
        refine r_istore dX0_search_32 (by decide) rfl ?_
        exact h
      · replace h := h.2 c_16
        refine r_aload_n dX0_search_19 rfl rfl ?_
        refine r_iload dX0_search_20 rfl ?_
        refine r_putI dX0_search_22 fwX0_22 rfl rfl ?_
        refine r_aload_n dX0_search_25 rfl rfl ?_
        refine r_iload_n dX0_search_26 rfl rfl ?_
        refine r_putI dX0_search_27 fwX0_25 rfl rfl ?_
        exact r_vret dX0_search_30 rfl h
    · replace h := h.2 c_11
      exact r_vret dX0_search_14 rfl h
set_option maxRecDepth 100000 in
set_option maxHeartbeats 4000000 in
theorem b_X0_search_34 {d : Nat} {M : Mem} {Q : Post} {x1 x2 x3 x4 x5 : Int32} (h : (((J 8) ≤ x5 → Q none M) ∧ (¬ (J 8) ≤ x5 → (Mt d mX4_isIn [.int x1, .int x5] M (ri fun v1 M1 => ((v1 = 0 → R none (d + 1) mX0_search 34 [.ref 4, .int x1, .int x2, .int x3, .int x4, .int (x5 + J 1), .null, .null, .null] [] M1 Q) ∧ (¬ v1 = 0 → (Mt d mX3_shapeOf [.ref 1, .int x5] M1 (ri fun v2 M2 => (Mt d mX0_spotFor [.ref 4, .int v2] M2 (ri fun v3 M3 => (Mt d mX4_rowsOf [.int v2] M3 (ri fun v4 M4 => (Mt d mX0_toggle [.ref 4, .int v2, .int v3] M4 (rn fun M5 => (Mt d mX0_search [.ref 4, .int (x1 &&& (((J 1) <<< (x5 &&& 31)) ^^^ (J (-1)))), .int (x2 + (J 1)), .int (x3 ||| (x5 <<< (((J 3) * x2) &&& 31))), .int (jmax x4 ((v3 / (J 100)) + v4))] M5 (rn fun M6 => (Mt d mX0_toggle [.ref 4, .int v2, .int v3] M6 (rn fun M7 => R none (d + 1) mX0_search 34 [.ref 4, .int x1, .int x2, .int x3, .int x4, .int (x5 + J 1), .null, .null, .null] [] M7 Q))))))))))))))))))) : R none (d + 1) mX0_search 34 [.ref 4, .int x1, .int x2, .int x3, .int x4, .int x5, .null, .null, .null] [] M Q := by
  refine r_iload dX0_search_34 rfl ?_
  refine r_bipush (v := J 8) dX0_search_36 (by decide +kernel) ?_
  refine r_icmp_ge (tgt := 134) dX0_search_38 (by decide) (fun c_38 => ?_) (fun c_38 => ?_)
  · replace h := h.1 c_38
    exact r_vret dX0_search_134 rfl h
  · replace h := h.2 c_38
    refine r_iload_n dX0_search_41 rfl rfl ?_
    refine r_iload dX0_search_42 rfl ?_
    refine r_callN (as := [.int x1, .int x5]) (st := []) dX0_search_44 cnX0_38 rfl rfl (Nat.le_of_ble_eq_true rfl) h (fun r M1 h => ?_)
    obtain ⟨v1, rfl, h⟩ := h
    refine r_if_eq (tgt := 128) dX0_search_47 (by decide) (fun c_47 => ?_) (fun c_47 => ?_)
    · replace h := h.1 c_47
      refine r_iinc (v := J 1) dX0_search_128 rfl rfl (by decide) rfl ?_
      refine r_goto (tgt := 34) dX0_search_131 (by decide) ?_
      exact h
    · replace h := h.2 c_47
      refine r_aload_n dX0_search_50 rfl rfl ?_
      refine r_getR dX0_search_51 flX0_28 rfl rfl ?_
      refine r_iload dX0_search_54 rfl ?_
      refine r_callV (as := [.int x5]) (st := []) dX0_search_56 cvX0_42 rfl rfl rfl rfl (Nat.le_of_ble_eq_true rfl) h (fun r M2 h => ?_)
      obtain ⟨v2, rfl, h⟩ := h
      refine r_istore dX0_search_59 (by decide) rfl ?_
      refine r_aload_n dX0_search_61 rfl rfl ?_
      refine r_iload dX0_search_62 rfl ?_
      refine r_callV (as := [.int v2]) (st := []) dX0_search_64 cvX0_57 rfl rfl rfl rfl (Nat.le_of_ble_eq_true rfl) h (fun r M3 h => ?_)
      obtain ⟨v3, rfl, h⟩ := h
      refine r_istore dX0_search_67 (by decide) rfl ?_
      refine r_iload dX0_search_69 rfl ?_
      refine r_iload dX0_search_71 rfl ?_
      refine r_bipush (v := J 100) dX0_search_73 (by decide +kernel) ?_
      refine r_idiv dX0_search_75 (by decide +kernel) ?_
      refine r_iload dX0_search_76 rfl ?_
      refine r_callN (as := [.int v2]) (st := [.int (v3 / (J 100)), .int x4]) dX0_search_78 cnX0_64 rfl rfl (Nat.le_of_ble_eq_true rfl) h (fun r M4 h => ?_)
      obtain ⟨v4, rfl, h⟩ := h
      refine r_iadd dX0_search_81 ?_
      refine r_max dX0_search_82 mxX0_67 (Nat.le_of_ble_eq_true rfl) ?_
      refine r_istore dX0_search_85 (by decide) rfl ?_
      refine r_aload_n dX0_search_87 rfl rfl ?_
      refine r_iload dX0_search_88 rfl ?_
      refine r_iload dX0_search_90 rfl ?_
      refine r_callV (as := [.int v2, .int v3]) (st := []) dX0_search_92 cvX0_60 rfl rfl rfl rfl (Nat.le_of_ble_eq_true rfl) h (fun r M5 h => ?_)
      obtain ⟨rfl, h⟩ := h
      refine r_aload_n dX0_search_95 rfl rfl ?_
      refine r_iload_n dX0_search_96 rfl rfl ?_
      refine r_iconst (v := J 1) dX0_search_97 rfl ?_
      refine r_iload dX0_search_98 rfl ?_
      refine r_ishl dX0_search_100 ?_
      refine r_iconst (v := J (-1)) dX0_search_101 rfl ?_
      refine r_ixor dX0_search_102 ?_
      refine r_iand dX0_search_103 ?_
      refine r_iload_n dX0_search_104 rfl rfl ?_
      refine r_iconst (v := J 1) dX0_search_105 rfl ?_
      refine r_iadd dX0_search_106 ?_
      refine r_iload_n dX0_search_107 rfl rfl ?_
      refine r_iload dX0_search_108 rfl ?_
      refine r_iconst (v := J 3) dX0_search_110 rfl ?_
      refine r_iload_n dX0_search_111 rfl rfl ?_
      refine r_imul dX0_search_112 ?_
      refine r_ishl dX0_search_113 ?_
      refine r_ior dX0_search_114 ?_
      refine r_iload dX0_search_115 rfl ?_
      refine r_callS (as := [.ref 4, .int (x1 &&& (((J 1) <<< (x5 &&& 31)) ^^^ (J (-1)))), .int (x2 + (J 1)), .int (x3 ||| (x5 <<< (((J 3) * x2) &&& 31))), .int (jmax x4 ((v3 / (J 100)) + v4))]) (st := []) dX0_search_117 csX0_72 rfl rfl (Nat.le_of_ble_eq_true rfl) h (fun r M6 h => ?_)
      obtain ⟨rfl, h⟩ := h
      refine r_aload_n dX0_search_120 rfl rfl ?_
      refine r_iload dX0_search_121 rfl ?_
      refine r_iload dX0_search_123 rfl ?_
      refine r_callV (as := [.int v2, .int v3]) (st := []) dX0_search_125 cvX0_60 rfl rfl rfl rfl (Nat.le_of_ble_eq_true rfl) h (fun r M7 h => ?_)
      obtain ⟨rfl, h⟩ := h
      refine r_iinc (v := J 1) dX0_search_128 rfl rfl (by decide) rfl ?_
      refine r_goto (tgt := 34) dX0_search_131 (by decide) ?_
      refine r_kill [false, false, false, false, false, false, true, true, true] rfl ?_
      exact h
theorem e_X0_search {d : Nat} {M : Mem} {Q : Post} {x1 x2 x3 x4 : Int32} (h : (((M 4 4) ≤ x4 → Q none M) ∧ (¬ (M 4 4) ≤ x4 → ((x2 ≤ (J 5) → ((¬ x1 = 0 → R none (d + 1) mX0_search 34 [.ref 4, .int x1, .int x2, .int x3, .int x4, .int (J 0), .null, .null, .null] [] M Q) ∧ (x1 = 0 → Q none (mset (mset M 4 4 x4) 4 5 x3)))) ∧ (¬ x2 ≤ (J 5) → Q none M))))) : Mt (d + 1) mX0_search [.ref 4, .int x1, .int x2, .int x3, .int x4] M Q := Mt.of (k := 4) (by decide +kernel) (okR (okI (okI (okI (okI okN))))) (Nat.le_of_ble_eq_true rfl) rfl (b_X0_search_0 h)
set_option maxRecDepth 100000 in
set_option maxHeartbeats 4000000 in
theorem b_X0_empty_0 {d : Nat} {M : Mem} {Q : Post} {x1 : Int32} (h : R none (d + 1) mX0_empty 7 [.ref 4, .null, .int (J 0)] [] (mset M 4 3 x1) Q) : R none (d + 1) mX0_empty 0 [.ref 4, .int x1, .null] [] M Q := by
  refine r_aload_n dX0_empty_0 rfl rfl ?_
  refine r_iload_n dX0_empty_1 rfl rfl ?_
  refine r_putI dX0_empty_2 fwX0_18 rfl rfl ?_
  refine r_iconst (v := J 0) dX0_empty_5 rfl ?_
  refine r_istore_n dX0_empty_6 rfl (by decide) rfl ?_
  refine r_kill [false, true, false] rfl ?_
  exact h
set_option maxRecDepth 100000 in
set_option maxHeartbeats 4000000 in
theorem b_X0_empty_7 {d : Nat} {M : Mem} {Q : Post} {x2 : Int32} (h : (((J 25) ≤ x2 → Q none M) ∧ (¬ (J 25) ≤ x2 → (vp_in x2 25 ∧ R none (d + 1) mX0_empty 7 [.ref 4, .null, .int (x2 + J 1)] [] (mset M 16 x2.toNatClampNeg (J 0)) Q)))) : R none (d + 1) mX0_empty 7 [.ref 4, .null, .int x2] [] M Q := by
  refine r_iload_n dX0_empty_7 rfl rfl ?_
  refine r_aload_n dX0_empty_8 rfl rfl ?_
  refine r_getR dX0_empty_9 flX0_9 rfl rfl ?_
  refine r_alen (v := J 25) dX0_empty_12 rfl (by decide +kernel) ?_
  refine r_icmp_ge (tgt := 29) dX0_empty_13 (by decide) (fun c_13 => ?_) (fun c_13 => ?_)
  · replace h := h.1 c_13
    exact r_vret dX0_empty_29 rfl h
  · replace h := h.2 c_13
    refine r_aload_n dX0_empty_16 rfl rfl ?_
    refine r_getR dX0_empty_17 flX0_9 rfl rfl ?_
    refine r_iload_n dX0_empty_20 rfl rfl ?_
    refine r_iconst (v := J 0) dX0_empty_21 rfl ?_
    refine r_iast dX0_empty_22 rfl h.1 ?_
    replace h := h.2
    refine r_iinc (v := J 1) dX0_empty_23 rfl rfl (by decide) rfl ?_
    refine r_goto (tgt := 7) dX0_empty_26 (by decide) ?_
    exact h
theorem e_X0_empty {d : Nat} {M : Mem} {Q : Post} {x1 : Int32} (h : R none (d + 1) mX0_empty 7 [.ref 4, .null, .int (J 0)] [] (mset M 4 3 x1) Q) : Mt (d + 1) mX0_empty [.ref 4, .int x1] M Q := Mt.of (k := 1) (by decide +kernel) (okR (okI okN)) (Nat.le_of_ble_eq_true rfl) rfl (b_X0_empty_0 h)
set_option maxRecDepth 100000 in
set_option maxHeartbeats 4000000 in
theorem b_X0_spotFor_0 {d : Nat} {M : Mem} {Q : Post} {x1 : Int32} (h : (Mt d mX4_columnsOf [.int x1] M (ri fun v1 M1 => R none (d + 1) mX0_spotFor 14 [.ref 4, .int x1, .int (((M 4 3) - v1) + (J 1)), .int (J 0), .null] [] M1 Q))) : R none (d + 1) mX0_spotFor 0 [.ref 4, .int x1, .null, .null, .null] [] M Q := by
  refine r_aload_n dX0_spotFor_0 rfl rfl ?_
  refine r_getI dX0_spotFor_1 flX0_18 rfl rfl ?_
  refine r_iload_n dX0_spotFor_4 rfl rfl ?_
  refine r_callN (as := [.int x1]) (st := [.int (M 4 3)]) dX0_spotFor_5 cnX0_46 rfl rfl (Nat.le_of_ble_eq_true rfl) h (fun r M1 h => ?_)
  obtain ⟨v1, rfl, h⟩ := h
  refine r_isub dX0_spotFor_8 ?_
  refine r_iconst (v := J 1) dX0_spotFor_9 rfl ?_
  refine r_iadd dX0_spotFor_10 ?_
  refine r_istore_n dX0_spotFor_11 rfl (by decide) rfl ?_
  refine r_iconst (v := J 0) dX0_spotFor_12 rfl ?_
  refine r_istore_n dX0_spotFor_13 rfl (by decide) rfl ?_
  exact h
set_option maxRecDepth 100000 in
set_option maxHeartbeats 4000000 in
theorem b_X0_spotFor_14 {d : Nat} {M : Mem} {Q : Post} {x1 x2 x3 : Int32} (h : (((J 25) ≤ x3 → Q (some (J 0)) M) ∧ (¬ (J 25) ≤ x3 → R none (d + 1) mX0_spotFor 23 [.ref 4, .int x1, .int x2, .int x3, .int (J 0)] [] M Q))) : R none (d + 1) mX0_spotFor 14 [.ref 4, .int x1, .int x2, .int x3, .null] [] M Q := by
  refine r_iload_n dX0_spotFor_14 rfl rfl ?_
  refine r_bipush (v := J 25) dX0_spotFor_15 (by decide +kernel) ?_
  refine r_icmp_ge (tgt := 60) dX0_spotFor_17 (by decide) (fun c_17 => ?_) (fun c_17 => ?_)
  · replace h := h.1 c_17
    refine r_iconst (v := J 0) dX0_spotFor_60 rfl ?_
    exact r_ret dX0_spotFor_61 rfl rfl h
  · replace h := h.2 c_17
    refine r_iconst (v := J 0) dX0_spotFor_20 rfl ?_
    refine r_istore dX0_spotFor_21 (by decide) rfl ?_
    exact h
set_option maxRecDepth 100000 in
set_option maxHeartbeats 4000000 in
theorem b_X0_spotFor_23 {d : Nat} {M : Mem} {Q : Post} {x1 x2 x3 x4 : Int32} (h : ((x2 ≤ x4 → R none (d + 1) mX0_spotFor 14 [.ref 4, .int x1, .int x2, .int (x3 + J 1), .null] [] M Q) ∧ (¬ x2 ≤ x4 → (Mt d mX0_isClear [.ref 4, .int x1, .int x4, .int x3] M (ri fun v1 M1 => ((v1 = 0 → R none (d + 1) mX0_spotFor 23 [.ref 4, .int x1, .int x2, .int x3, .int (x4 + J 1)] [] M1 Q) ∧ (¬ v1 = 0 → Q (some (((J 100) * x3) + x4)) M1))))))) : R none (d + 1) mX0_spotFor 23 [.ref 4, .int x1, .int x2, .int x3, .int x4] [] M Q := by
  refine r_iload dX0_spotFor_23 rfl ?_
  refine r_iload_n dX0_spotFor_25 rfl rfl ?_
  refine r_icmp_ge (tgt := 54) dX0_spotFor_26 (by decide) (fun c_26 => ?_) (fun c_26 => ?_)
  · replace h := h.1 c_26
    refine r_iinc (v := J 1) dX0_spotFor_54 rfl rfl (by decide) rfl ?_
    refine r_goto (tgt := 14) dX0_spotFor_57 (by decide) ?_
    refine r_kill [false, false, false, false, true] rfl ?_
    exact h
  · replace h := h.2 c_26
    refine r_aload_n dX0_spotFor_29 rfl rfl ?_
    refine r_iload_n dX0_spotFor_30 rfl rfl ?_
    refine r_iload dX0_spotFor_31 rfl ?_
    refine r_iload_n dX0_spotFor_33 rfl rfl ?_
    refine r_callV (as := [.int x1, .int x4, .int x3]) (st := []) dX0_spotFor_34 cvX0_76 rfl rfl rfl rfl (Nat.le_of_ble_eq_true rfl) h (fun r M1 h => ?_)
    obtain ⟨v1, rfl, h⟩ := h
    refine r_if_eq (tgt := 48) dX0_spotFor_37 (by decide) (fun c_37 => ?_) (fun c_37 => ?_)
    · replace h := h.1 c_37
      refine r_iinc (v := J 1) dX0_spotFor_48 rfl rfl (by decide) rfl ?_
      refine r_goto (tgt := 23) dX0_spotFor_51 (by decide) ?_
      exact h
    · replace h := h.2 c_37
      refine r_bipush (v := J 100) dX0_spotFor_40 (by decide +kernel) ?_
      refine r_iload_n dX0_spotFor_42 rfl rfl ?_
      refine r_imul dX0_spotFor_43 ?_
      refine r_iload dX0_spotFor_44 rfl ?_
      refine r_iadd dX0_spotFor_46 ?_
      exact r_ret dX0_spotFor_47 rfl rfl h
theorem e_X0_spotFor {d : Nat} {M : Mem} {Q : Post} {x1 : Int32} (h : (Mt d mX4_columnsOf [.int x1] M (ri fun v1 M1 => R none (d + 1) mX0_spotFor 14 [.ref 4, .int x1, .int (((M 4 3) - v1) + (J 1)), .int (J 0), .null] [] M1 Q))) : Mt (d + 1) mX0_spotFor [.ref 4, .int x1] M Q := Mt.of (k := 3) (by decide +kernel) (okR (okI okN)) (Nat.le_of_ble_eq_true rfl) rfl (b_X0_spotFor_0 h)
set_option maxRecDepth 100000 in
set_option maxHeartbeats 4000000 in
theorem b_X0_isClear_0 {d : Nat} {M : Mem} {Q : Post} {x1 x2 x3 : Int32} (h : R none (d + 1) mX0_isClear 3 [.ref 4, .int x1, .int x2, .int x3, .int (J 0)] [] M Q) : R none (d + 1) mX0_isClear 0 [.ref 4, .int x1, .int x2, .int x3, .null] [] M Q := by
  refine r_iconst (v := J 0) dX0_isClear_0 rfl ?_
  refine r_istore dX0_isClear_1 (by decide) rfl ?_
  exact h
set_option maxRecDepth 100000 in
set_option maxHeartbeats 4000000 in
theorem b_X0_isClear_3 {d : Nat} {M : Mem} {Q : Post} {x1 x2 x3 x4 : Int32} (h : (((J 5) ≤ x4 → Q (some (J 1)) M) ∧ (¬ (J 5) ≤ x4 → (((J 25) ≤ (x3 + x4) → Q (some (J 1)) M) ∧ (¬ (J 25) ≤ (x3 + x4) → (Mt d mX4_rowOf [.int x1, .int x4] M (ri fun v1 M1 => (vp_in (x3 + x4) 25 ∧ ((((v1 <<< (x2 &&& 31)) &&& (M1 16 (x3 + x4).toNatClampNeg)) = 0 → R none (d + 1) mX0_isClear 3 [.ref 4, .int x1, .int x2, .int x3, .int (x4 + J 1)] [] M1 Q) ∧ (¬ ((v1 <<< (x2 &&& 31)) &&& (M1 16 (x3 + x4).toNatClampNeg)) = 0 → Q (some (J 0)) M1)))))))))) : R none (d + 1) mX0_isClear 3 [.ref 4, .int x1, .int x2, .int x3, .int x4] [] M Q := by
  refine r_iload dX0_isClear_3 rfl ?_
  refine r_iconst (v := J 5) dX0_isClear_5 rfl ?_
  refine r_icmp_ge (tgt := 50) dX0_isClear_6 (by decide) (fun c_6 => ?_) (fun c_6 => ?_)
  · replace h := h.1 c_6
    refine r_iconst (v := J 1) dX0_isClear_50 rfl ?_
    exact r_ret dX0_isClear_51 rfl nb1 h
  · replace h := h.2 c_6
    refine r_iload_n dX0_isClear_9 rfl rfl ?_
    refine r_iload dX0_isClear_10 rfl ?_
    refine r_iadd dX0_isClear_12 ?_
    refine r_aload_n dX0_isClear_13 rfl rfl ?_
    refine r_getR dX0_isClear_14 flX0_9 rfl rfl ?_
    refine r_alen (v := J 25) dX0_isClear_17 rfl (by decide +kernel) ?_
    refine r_icmp_ge (tgt := 50) dX0_isClear_18 (by decide) (fun c_18 => ?_) (fun c_18 => ?_)
    · replace h := h.1 c_18
      refine r_iconst (v := J 1) dX0_isClear_50 rfl ?_
      exact r_ret dX0_isClear_51 rfl nb1 h
    · replace h := h.2 c_18
      refine r_iload_n dX0_isClear_21 rfl rfl ?_
      refine r_iload dX0_isClear_22 rfl ?_
      refine r_callN (as := [.int x1, .int x4]) (st := []) dX0_isClear_24 cnX0_80 rfl rfl (Nat.le_of_ble_eq_true rfl) h (fun r M1 h => ?_)
      obtain ⟨v1, rfl, h⟩ := h
      refine r_iload_n dX0_isClear_27 rfl rfl ?_
      refine r_ishl dX0_isClear_28 ?_
      refine r_aload_n dX0_isClear_29 rfl rfl ?_
      refine r_getR dX0_isClear_30 flX0_9 rfl rfl ?_
      refine r_iload_n dX0_isClear_33 rfl rfl ?_
      refine r_iload dX0_isClear_34 rfl ?_
      refine r_iadd dX0_isClear_36 ?_
      refine r_iald dX0_isClear_37 rfl h.1 ?_
      replace h := h.2
      refine r_iand dX0_isClear_38 ?_
      refine r_if_eq (tgt := 44) dX0_isClear_39 (by decide) (fun c_39 => ?_) (fun c_39 => ?_)
      · replace h := h.1 c_39
        refine r_iinc (v := J 1) dX0_isClear_44 rfl rfl (by decide) rfl ?_
        refine r_goto (tgt := 3) dX0_isClear_47 (by decide) ?_
        exact h
      · replace h := h.2 c_39
        refine r_iconst (v := J 0) dX0_isClear_42 rfl ?_
        exact r_ret dX0_isClear_43 rfl nb0 h
theorem e_X0_isClear {d : Nat} {M : Mem} {Q : Post} {x1 x2 x3 : Int32} (h : R none (d + 1) mX0_isClear 3 [.ref 4, .int x1, .int x2, .int x3, .int (J 0)] [] M Q) : Mt (d + 1) mX0_isClear [.ref 4, .int x1, .int x2, .int x3] M Q := Mt.of (k := 1) (by decide +kernel) (okR (okI (okI (okI okN)))) (Nat.le_of_ble_eq_true rfl) rfl (b_X0_isClear_0 h)
set_option maxRecDepth 100000 in
set_option maxHeartbeats 4000000 in
theorem b_X0_toggle_0 {d : Nat} {M : Mem} {Q : Post} {x1 x2 : Int32} (h : R none (d + 1) mX0_toggle 14 [.ref 4, .int x1, .null, .int (x2 - x2 / (J 100) * (J 100)), .int (x2 / (J 100)), .int (J 0)] [] M Q) : R none (d + 1) mX0_toggle 0 [.ref 4, .int x1, .int x2, .null, .null, .null] [] M Q := by
  refine r_iload_n dX0_toggle_0 rfl rfl ?_
  refine r_bipush (v := J 100) dX0_toggle_1 (by decide +kernel) ?_
  refine r_irem dX0_toggle_3 (by decide +kernel) ?_
  refine r_istore_n dX0_toggle_4 rfl (by decide) rfl ?_
  refine r_iload_n dX0_toggle_5 rfl rfl ?_
  refine r_bipush (v := J 100) dX0_toggle_6 (by decide +kernel) ?_
  refine r_idiv dX0_toggle_8 (by decide +kernel) ?_
  refine r_istore dX0_toggle_9 (by decide) rfl ?_
  refine r_iconst (v := J 0) dX0_toggle_11 rfl ?_
  refine r_istore dX0_toggle_12 (by decide) rfl ?_
  refine r_kill [false, false, true, false, false, false] rfl ?_
  exact h
set_option maxRecDepth 100000 in
set_option maxHeartbeats 4000000 in
theorem b_X0_toggle_14 {d : Nat} {M : Mem} {Q : Post} {x1 x3 x4 x5 : Int32} (h : (((J 5) ≤ x5 → Q none M) ∧ (¬ (J 5) ≤ x5 → (((x4 + x5) < 0 → Q none M) ∧ (¬ (x4 + x5) < 0 → (((J 25) ≤ (x4 + x5) → Q none M) ∧ (¬ (J 25) ≤ (x4 + x5) → (vp_in (x4 + x5) 25 ∧ (Mt d mX4_rowOf [.int x1, .int x5] M (ri fun v1 M1 => (vp_in (x4 + x5) 25 ∧ R none (d + 1) mX0_toggle 14 [.ref 4, .int x1, .null, .int x3, .int x4, .int (x5 + J 1)] [] (mset M1 16 (x4 + x5).toNatClampNeg ((M 16 (x4 + x5).toNatClampNeg) ^^^ (v1 <<< (x3 &&& 31)))) Q))))))))))) : R none (d + 1) mX0_toggle 14 [.ref 4, .int x1, .null, .int x3, .int x4, .int x5] [] M Q := by
  refine r_iload dX0_toggle_14 rfl ?_
  refine r_iconst (v := J 5) dX0_toggle_16 rfl ?_
  refine r_icmp_ge (tgt := 68) dX0_toggle_17 (by decide) (fun c_17 => ?_) (fun c_17 => ?_)
  · replace h := h.1 c_17
    exact r_vret dX0_toggle_68 rfl h
  · replace h := h.2 c_17
    refine r_iload dX0_toggle_20 rfl ?_
    refine r_iload dX0_toggle_22 rfl ?_
    refine r_iadd dX0_toggle_24 ?_
    refine r_if_lt (tgt := 68) dX0_toggle_25 (by decide) (fun c_25 => ?_) (fun c_25 => ?_)
    · replace h := h.1 c_25
      exact r_vret dX0_toggle_68 rfl h
    · replace h := h.2 c_25
      refine r_iload dX0_toggle_28 rfl ?_
      refine r_iload dX0_toggle_30 rfl ?_
      refine r_iadd dX0_toggle_32 ?_
      refine r_aload_n dX0_toggle_33 rfl rfl ?_
      refine r_getR dX0_toggle_34 flX0_9 rfl rfl ?_
      refine r_alen (v := J 25) dX0_toggle_37 rfl (by decide +kernel) ?_
      refine r_icmp_ge (tgt := 68) dX0_toggle_38 (by decide) (fun c_38 => ?_) (fun c_38 => ?_)
      · replace h := h.1 c_38
        exact r_vret dX0_toggle_68 rfl h
      · replace h := h.2 c_38
        refine r_aload_n dX0_toggle_41 rfl rfl ?_
        refine r_getR dX0_toggle_42 flX0_9 rfl rfl ?_
        refine r_iload dX0_toggle_45 rfl ?_
        refine r_iload dX0_toggle_47 rfl ?_
        refine r_iadd dX0_toggle_49 ?_
        refine r_dup2 dX0_toggle_50 rfl rfl ?_
        refine r_iald dX0_toggle_51 rfl h.1 ?_
        replace h := h.2
        refine r_iload_n dX0_toggle_52 rfl rfl ?_
        refine r_iload dX0_toggle_53 rfl ?_
        refine r_callN (as := [.int x1, .int x5]) (st := [.int (M 16 (x4 + x5).toNatClampNeg), .int (x4 + x5), .ref 16]) dX0_toggle_55 cnX0_80 rfl rfl (Nat.le_of_ble_eq_true rfl) h (fun r M1 h => ?_)
        obtain ⟨v1, rfl, h⟩ := h
        refine r_iload_n dX0_toggle_58 rfl rfl ?_
        refine r_ishl dX0_toggle_59 ?_
        refine r_ixor dX0_toggle_60 ?_
        refine r_iast dX0_toggle_61 rfl h.1 ?_
        replace h := h.2
        refine r_iinc (v := J 1) dX0_toggle_62 rfl rfl (by decide) rfl ?_
        refine r_goto (tgt := 14) dX0_toggle_65 (by decide) ?_
        exact h
theorem e_X0_toggle {d : Nat} {M : Mem} {Q : Post} {x1 x2 : Int32} (h : R none (d + 1) mX0_toggle 14 [.ref 4, .int x1, .null, .int (x2 - x2 / (J 100) * (J 100)), .int (x2 / (J 100)), .int (J 0)] [] M Q) : Mt (d + 1) mX0_toggle [.ref 4, .int x1, .int x2] M Q := Mt.of (k := 3) (by decide +kernel) (okR (okI (okI okN))) (Nat.le_of_ble_eq_true rfl) rfl (b_X0_toggle_0 h)
set_option maxRecDepth 100000 in
set_option maxHeartbeats 4000000 in
theorem b_X1_clearOff_0 {d : Nat} {M : Mem} {Q : Post} {x1 : Int32} (h : (Mt d mX3_lyingSet [.ref 1] M (ri fun v1 M1 => R none (d + 1) mX1_clearOff 18 [.ref 3, .int x1, .int (J 0), .null] [] (mset (mset M1 3 4 v1) 3 3 (J 0)) Q))) : R none (d + 1) mX1_clearOff 0 [.ref 3, .int x1, .null, .null] [] M Q := by
  refine r_aload_n dX1_clearOff_0 rfl rfl ?_
  refine r_aload_n dX1_clearOff_1 rfl rfl ?_
  refine r_getR dX1_clearOff_2 flX1_22 rfl rfl ?_
  refine r_callV (as := []) (st := [.ref 3]) dX1_clearOff_5 cvX1_30 rfl rfl rfl rfl (Nat.le_of_ble_eq_true rfl) h (fun r M1 h => ?_)
  obtain ⟨v1, rfl, h⟩ := h
  refine r_putI dX1_clearOff_8 fwX1_19 rfl rfl ?_
  refine r_aload_n dX1_clearOff_11 rfl rfl ?_
  refine r_iconst (v := J 0) dX1_clearOff_12 rfl ?_
  refine r_putI dX1_clearOff_13 fwX1_15 rfl rfl ?_
  refine r_iconst (v := J 0) dX1_clearOff_16 rfl ?_
  refine r_istore_n dX1_clearOff_17 rfl (by decide) rfl ?_
  exact h
set_option maxRecDepth 100000 in
set_option maxHeartbeats 4000000 in
theorem b_X1_clearOff_18 {d : Nat} {M : Mem} {Q : Post} {x1 x2 : Int32} (h : (((J 8) ≤ x2 → Q none M) ∧ (¬ (J 8) ≤ x2 → (Mt d mX1_lowestToGo [.ref 3, .int x1] M (ri fun v1 M1 => ((0 ≤ v1 → (vp_in x2 8 ∧ R none (d + 1) mX1_clearOff 18 [.ref 3, .int x1, .int (x2 + J 1), .null] [] (mset (mset (mset M1 15 x2.toNatClampNeg v1) 3 3 (((mset M1 15 x2.toNatClampNeg v1) 3 3) + (J 1))) 3 4 (((mset (mset M1 15 x2.toNatClampNeg v1) 3 3 (((mset M1 15 x2.toNatClampNeg v1) 3 3) + (J 1))) 3 4) &&& (((J 1) <<< (v1 &&& 31)) ^^^ (J (-1))))) Q)) ∧ (¬ 0 ≤ v1 → Q none M1))))))) : R none (d + 1) mX1_clearOff 18 [.ref 3, .int x1, .int x2, .null] [] M Q := by
  refine r_iload_n dX1_clearOff_18 rfl rfl ?_
  refine r_aload_n dX1_clearOff_19 rfl rfl ?_
  refine r_getR dX1_clearOff_20 flX1_9 rfl rfl ?_
  refine r_alen (v := J 8) dX1_clearOff_23 rfl (by decide +kernel) ?_
  refine r_icmp_ge (tgt := 75) dX1_clearOff_24 (by decide) (fun c_24 => ?_) (fun c_24 => ?_)
  · replace h := h.1 c_24
    exact r_vret dX1_clearOff_75 rfl h
  · replace h := h.2 c_24
    refine r_aload_n dX1_clearOff_27 rfl rfl ?_
    refine r_iload_n dX1_clearOff_28 rfl rfl ?_
    refine r_callV (as := [.int x1]) (st := []) dX1_clearOff_29 cvX1_36 rfl rfl rfl rfl (Nat.le_of_ble_eq_true rfl) h (fun r M1 h => ?_)
    obtain ⟨v1, rfl, h⟩ := h
    refine r_istore_n dX1_clearOff_32 rfl (by decide) rfl ?_
    refine r_iload_n dX1_clearOff_33 rfl rfl ?_
    refine r_if_ge (tgt := 38) dX1_clearOff_34 (by decide) (fun c_34 => ?_) (fun c_34 => ?_)
    · replace h := h.1 c_34
      refine r_aload_n dX1_clearOff_38 rfl rfl ?_
      refine r_getR dX1_clearOff_39 flX1_9 rfl rfl ?_
      refine r_iload_n dX1_clearOff_42 rfl rfl ?_
      refine r_iload_n dX1_clearOff_43 rfl rfl ?_
      refine r_iast dX1_clearOff_44 rfl h.1 ?_
      replace h := h.2
      refine r_aload_n dX1_clearOff_45 rfl rfl ?_
      refine r_dup dX1_clearOff_46 rfl ?_
      refine r_getI dX1_clearOff_47 flX1_15 rfl rfl ?_
      refine r_iconst (v := J 1) dX1_clearOff_50 rfl ?_
      refine r_iadd dX1_clearOff_51 ?_
      refine r_putI dX1_clearOff_52 fwX1_15 rfl rfl ?_
      refine r_aload_n dX1_clearOff_55 rfl rfl ?_
      refine r_dup dX1_clearOff_56 rfl ?_
      refine r_getI dX1_clearOff_57 flX1_19 rfl rfl ?_
      refine r_iconst (v := J 1) dX1_clearOff_60 rfl ?_
      refine r_iload_n dX1_clearOff_61 rfl rfl ?_
      refine r_ishl dX1_clearOff_62 ?_
      refine r_iconst (v := J (-1)) dX1_clearOff_63 rfl ?_
      refine r_ixor dX1_clearOff_64 ?_
      refine r_iand dX1_clearOff_65 ?_
      refine r_putI dX1_clearOff_66 fwX1_19 rfl rfl ?_
      refine r_iinc (v := J 1) dX1_clearOff_69 rfl rfl (by decide) rfl ?_
      refine r_goto (tgt := 18) dX1_clearOff_72 (by decide) ?_
      refine r_kill [false, false, false, true] rfl ?_
      exact h
    · replace h := h.2 c_34
      exact r_vret dX1_clearOff_37 rfl h
theorem e_X1_clearOff {d : Nat} {M : Mem} {Q : Post} {x1 : Int32} (h : (Mt d mX3_lyingSet [.ref 1] M (ri fun v1 M1 => R none (d + 1) mX1_clearOff 18 [.ref 3, .int x1, .int (J 0), .null] [] (mset (mset M1 3 4 v1) 3 3 (J 0)) Q))) : Mt (d + 1) mX1_clearOff [.ref 3, .int x1] M Q := Mt.of (k := 2) (by decide +kernel) (okR (okI okN)) (Nat.le_of_ble_eq_true rfl) rfl (b_X1_clearOff_0 h)
set_option maxRecDepth 100000 in
set_option maxHeartbeats 4000000 in
theorem b_X1_told_0 {d : Nat} {M : Mem} {Q : Post} {x1 : Int32} (h : ((0 ≤ x1 → (((M 3 3) ≤ x1 → Q (some (J (-4))) M) ∧ (¬ (M 3 3) ≤ x1 → (((J 8) ≤ x1 → Q (some (J (-4))) M) ∧ (¬ (J 8) ≤ x1 → (vp_in x1 8 ∧ Q (some (M 15 x1.toNatClampNeg)) M)))))) ∧ (¬ 0 ≤ x1 → Q (some (M 3 4)) M))) : R none (d + 1) mX1_told 0 [.ref 3, .int x1] [] M Q := by
  refine r_iload_n dX1_told_0 rfl rfl ?_
  refine r_if_ge (tgt := 9) dX1_told_1 (by decide) (fun c_1 => ?_) (fun c_1 => ?_)
  · replace h := h.1 c_1
    refine r_iload_n dX1_told_9 rfl rfl ?_
    refine r_aload_n dX1_told_10 rfl rfl ?_
    refine r_getI dX1_told_11 flX1_15 rfl rfl ?_
    refine r_icmp_ge (tgt := 35) dX1_told_14 (by decide) (fun c_14 => ?_) (fun c_14 => ?_)
    · replace h := h.1 c_14
      refine r_bipush (v := J (-4)) dX1_told_35 (by decide +kernel) ?_
      exact r_ret dX1_told_37 rfl rfl h
    · replace h := h.2 c_14
      refine r_iload_n dX1_told_17 rfl rfl ?_
      refine r_aload_n dX1_told_18 rfl rfl ?_
      refine r_getR dX1_told_19 flX1_9 rfl rfl ?_
      refine r_alen (v := J 8) dX1_told_22 rfl (by decide +kernel) ?_
      refine r_icmp_ge (tgt := 35) dX1_told_23 (by decide) (fun c_23 => ?_) (fun c_23 => ?_)
      · replace h := h.1 c_23
        refine r_bipush (v := J (-4)) dX1_told_35 (by decide +kernel) ?_
        exact r_ret dX1_told_37 rfl rfl h
      · replace h := h.2 c_23
        refine r_aload_n dX1_told_26 rfl rfl ?_
        refine r_getR dX1_told_27 flX1_9 rfl rfl ?_
        refine r_iload_n dX1_told_30 rfl rfl ?_
        refine r_iald dX1_told_31 rfl h.1 ?_
        replace h := h.2
        refine r_goto (tgt := 37) dX1_told_32 (by decide) ?_
        exact r_ret dX1_told_37 rfl rfl h
  · replace h := h.2 c_1
    refine r_aload_n dX1_told_4 rfl rfl ?_
    refine r_getI dX1_told_5 flX1_19 rfl rfl ?_
    exact r_ret dX1_told_8 rfl rfl h
theorem e_X1_told {d : Nat} {M : Mem} {Q : Post} {x1 : Int32} (h : ((0 ≤ x1 → (((M 3 3) ≤ x1 → Q (some (J (-4))) M) ∧ (¬ (M 3 3) ≤ x1 → (((J 8) ≤ x1 → Q (some (J (-4))) M) ∧ (¬ (J 8) ≤ x1 → (vp_in x1 8 ∧ Q (some (M 15 x1.toNatClampNeg)) M)))))) ∧ (¬ 0 ≤ x1 → Q (some (M 3 4)) M))) : Mt (d + 1) mX1_told [.ref 3, .int x1] M Q := Mt.of (k := 0) (by decide +kernel) (okR (okI okN)) (Nat.le_of_ble_eq_true rfl) rfl (b_X1_told_0 h)
set_option maxRecDepth 100000 in
set_option maxHeartbeats 4000000 in
theorem b_X1_lowestToGo_0 {d : Nat} {M : Mem} {Q : Post} {x1 : Int32} (h : R none (d + 1) mX1_lowestToGo 2 [.ref 3, .int x1, .int (J 0), .null, .null] [] M Q) : R none (d + 1) mX1_lowestToGo 0 [.ref 3, .int x1, .null, .null, .null] [] M Q := by
  refine r_iconst (v := J 0) dX1_lowestToGo_0 rfl ?_
  refine r_istore_n dX1_lowestToGo_1 rfl (by decide) rfl ?_
  exact h
set_option maxRecDepth 100000 in
set_option maxHeartbeats 4000000 in
theorem b_X1_lowestToGo_2 {d : Nat} {M : Mem} {Q : Post} {x1 x2 : Int32} (h : (((J 8) ≤ x2 → Q (some (J (-4))) M) ∧ (¬ (J 8) ≤ x2 → (Mt d mX4_isIn [.int (M 3 4), .int x2] M (ri fun v1 M1 => ((¬ v1 = 0 → ((¬ x1 = (J (-1)) → (Mt d mX3_blockersOf [.ref 1, .int x2, .int x1] M1 (ri fun v2 M2 => ((¬ (v2 &&& ((M1 3 4) &&& (((J 1) <<< (x2 &&& 31)) ^^^ (J (-1))))) = 0 → (((J 0) = 0 → R none (d + 1) mX1_lowestToGo 2 [.ref 3, .int x1, .int (x2 + J 1), .null, .null] [] M2 Q) ∧ (¬ (J 0) = 0 → Q (some x2) M2))) ∧ ((v2 &&& ((M1 3 4) &&& (((J 1) <<< (x2 &&& 31)) ^^^ (J (-1))))) = 0 → (((J 1) = 0 → R none (d + 1) mX1_lowestToGo 2 [.ref 3, .int x1, .int (x2 + J 1), .null, .null] [] M2 Q) ∧ (¬ (J 1) = 0 → Q (some x2) M2))))))) ∧ (x1 = (J (-1)) → (Mt d mX2_stepsOut [.ref 2, .int x2, .int ((M1 3 4) &&& (((J 1) <<< (x2 &&& 31)) ^^^ (J (-1))))] M1 (ri fun v3 M3 => ((v3 < 0 → (((J 0) = 0 → R none (d + 1) mX1_lowestToGo 2 [.ref 3, .int x1, .int (x2 + J 1), .null, .null] [] M3 Q) ∧ (¬ (J 0) = 0 → Q (some x2) M3))) ∧ (¬ v3 < 0 → (((J 1) = 0 → R none (d + 1) mX1_lowestToGo 2 [.ref 3, .int x1, .int (x2 + J 1), .null, .null] [] M3 Q) ∧ (¬ (J 1) = 0 → Q (some x2) M3))))))))) ∧ (v1 = 0 → R none (d + 1) mX1_lowestToGo 2 [.ref 3, .int x1, .int (x2 + J 1), .null, .null] [] M1 Q))))))) : R none (d + 1) mX1_lowestToGo 2 [.ref 3, .int x1, .int x2, .null, .null] [] M Q := by
  refine r_iload_n dX1_lowestToGo_2 rfl rfl ?_
  refine r_bipush (v := J 8) dX1_lowestToGo_3 (by decide +kernel) ?_
  refine r_icmp_ge (tgt := 92) dX1_lowestToGo_5 (by decide) (fun c_5 => ?_) (fun c_5 => ?_)
  · replace h := h.1 c_5
    refine r_bipush (v := J (-4)) dX1_lowestToGo_92 (by decide +kernel) ?_
    exact r_ret dX1_lowestToGo_94 rfl rfl h
  · replace h := h.2 c_5
    refine r_aload_n dX1_lowestToGo_8 rfl rfl ?_
    refine r_getI dX1_lowestToGo_9 flX1_19 rfl rfl ?_
    refine r_iload_n dX1_lowestToGo_12 rfl rfl ?_
    refine r_callN (as := [.int (M 3 4), .int x2]) (st := []) dX1_lowestToGo_13 cnX1_40 rfl rfl (Nat.le_of_ble_eq_true rfl) h (fun r M1 h => ?_)
    obtain ⟨v1, rfl, h⟩ := h
    refine r_if_ne (tgt := 22) dX1_lowestToGo_16 (by decide) (fun c_16 => ?_) (fun c_16 => ?_)
    · replace h := h.1 c_16
      refine r_aload_n dX1_lowestToGo_22 rfl rfl ?_
      refine r_getI dX1_lowestToGo_23 flX1_19 rfl rfl ?_
      refine r_iconst (v := J 1) dX1_lowestToGo_26 rfl ?_
      refine r_iload_n dX1_lowestToGo_27 rfl rfl ?_
      refine r_ishl dX1_lowestToGo_28 ?_
      refine r_iconst (v := J (-1)) dX1_lowestToGo_29 rfl ?_
      refine r_ixor dX1_lowestToGo_30 ?_
      refine r_iand dX1_lowestToGo_31 ?_
      refine r_istore_n dX1_lowestToGo_32 rfl (by decide) rfl ?_
      refine r_iload_n dX1_lowestToGo_33 rfl rfl ?_
      refine r_iconst (v := J (-1)) dX1_lowestToGo_34 rfl ?_
      refine r_icmp_ne (tgt := 58) dX1_lowestToGo_35 (by decide) (fun c_35 => ?_) (fun c_35 => ?_)
      · replace h := h.1 c_35
        refine r_aload_n dX1_lowestToGo_58 rfl rfl ?_
        refine r_getR dX1_lowestToGo_59 flX1_22 rfl rfl ?_
        refine r_iload_n dX1_lowestToGo_62 rfl rfl ?_
        refine r_iload_n dX1_lowestToGo_63 rfl rfl ?_
        refine r_callV (as := [.int x2, .int x1]) (st := []) dX1_lowestToGo_64 cvX1_50 rfl rfl rfl rfl (Nat.le_of_ble_eq_true rfl) h (fun r M2 h => ?_)
        obtain ⟨v2, rfl, h⟩ := h
        refine r_iload_n dX1_lowestToGo_67 rfl rfl ?_
        refine r_iand dX1_lowestToGo_68 ?_
        refine r_if_ne (tgt := 76) dX1_lowestToGo_69 (by decide) (fun c_69 => ?_) (fun c_69 => ?_)
        · replace h := h.1 c_69
          refine r_iconst (v := J 0) dX1_lowestToGo_76 rfl ?_
          refine r_istore dX1_lowestToGo_77 (by decide) rfl ?_
          refine r_iload dX1_lowestToGo_79 rfl ?_
          refine r_if_eq (tgt := 86) dX1_lowestToGo_81 (by decide) (fun c_81 => ?_) (fun c_81 => ?_)
          · replace h := h.1 c_81
            refine r_iinc (v := J 1) dX1_lowestToGo_86 rfl rfl (by decide) rfl ?_
            refine r_goto (tgt := 2) dX1_lowestToGo_89 (by decide) ?_
            refine r_kill [false, false, false, true, true] rfl ?_
            exact h
          · replace h := h.2 c_81
            refine r_iload_n dX1_lowestToGo_84 rfl rfl ?_
            exact r_ret dX1_lowestToGo_85 rfl rfl h
        · replace h := h.2 c_69
          refine r_iconst (v := J 1) dX1_lowestToGo_72 rfl ?_
          refine r_goto (tgt := 77) dX1_lowestToGo_73 (by decide) ?_
          refine r_istore dX1_lowestToGo_77 (by decide) rfl ?_
          refine r_iload dX1_lowestToGo_79 rfl ?_
          refine r_if_eq (tgt := 86) dX1_lowestToGo_81 (by decide) (fun c_81 => ?_) (fun c_81 => ?_)
          · replace h := h.1 c_81
            refine r_iinc (v := J 1) dX1_lowestToGo_86 rfl rfl (by decide) rfl ?_
            refine r_goto (tgt := 2) dX1_lowestToGo_89 (by decide) ?_
            refine r_kill [false, false, false, true, true] rfl ?_
            exact h
          · replace h := h.2 c_81
            refine r_iload_n dX1_lowestToGo_84 rfl rfl ?_
            exact r_ret dX1_lowestToGo_85 rfl rfl h
      · replace h := h.2 c_35
        refine r_aload_n dX1_lowestToGo_38 rfl rfl ?_
        refine r_getR dX1_lowestToGo_39 flX1_26 rfl rfl ?_
        refine r_iload_n dX1_lowestToGo_42 rfl rfl ?_
        refine r_iload_n dX1_lowestToGo_43 rfl rfl ?_
        refine r_callV (as := [.int x2, .int ((M1 3 4) &&& (((J 1) <<< (x2 &&& 31)) ^^^ (J (-1))))]) (st := []) dX1_lowestToGo_44 cvX1_44 rfl rfl rfl rfl (Nat.le_of_ble_eq_true rfl) h (fun r M3 h => ?_)
        obtain ⟨v3, rfl, h⟩ := h
        refine r_if_lt (tgt := 54) dX1_lowestToGo_47 (by decide) (fun c_47 => ?_) (fun c_47 => ?_)
        · replace h := h.1 c_47
          refine r_iconst (v := J 0) dX1_lowestToGo_54 rfl ?_
          refine r_goto (tgt := 77) dX1_lowestToGo_55 (by decide) ?_
          refine r_istore dX1_lowestToGo_77 (by decide) rfl ?_
          refine r_iload dX1_lowestToGo_79 rfl ?_
          refine r_if_eq (tgt := 86) dX1_lowestToGo_81 (by decide) (fun c_81 => ?_) (fun c_81 => ?_)
          · replace h := h.1 c_81
            refine r_iinc (v := J 1) dX1_lowestToGo_86 rfl rfl (by decide) rfl ?_
            refine r_goto (tgt := 2) dX1_lowestToGo_89 (by decide) ?_
            refine r_kill [false, false, false, true, true] rfl ?_
            exact h
          · replace h := h.2 c_81
            refine r_iload_n dX1_lowestToGo_84 rfl rfl ?_
            exact r_ret dX1_lowestToGo_85 rfl rfl h
        · replace h := h.2 c_47
          refine r_iconst (v := J 1) dX1_lowestToGo_50 rfl ?_
          refine r_goto (tgt := 77) dX1_lowestToGo_51 (by decide) ?_
          refine r_istore dX1_lowestToGo_77 (by decide) rfl ?_
          refine r_iload dX1_lowestToGo_79 rfl ?_
          refine r_if_eq (tgt := 86) dX1_lowestToGo_81 (by decide) (fun c_81 => ?_) (fun c_81 => ?_)
          · replace h := h.1 c_81
            refine r_iinc (v := J 1) dX1_lowestToGo_86 rfl rfl (by decide) rfl ?_
            refine r_goto (tgt := 2) dX1_lowestToGo_89 (by decide) ?_
            refine r_kill [false, false, false, true, true] rfl ?_
            exact h
          · replace h := h.2 c_81
            refine r_iload_n dX1_lowestToGo_84 rfl rfl ?_
            exact r_ret dX1_lowestToGo_85 rfl rfl h
    · replace h := h.2 c_16
      refine r_goto (tgt := 86) dX1_lowestToGo_19 (by decide) ?_
      refine r_iinc (v := J 1) dX1_lowestToGo_86 rfl rfl (by decide) rfl ?_
      refine r_goto (tgt := 2) dX1_lowestToGo_89 (by decide) ?_
      exact h
theorem e_X1_lowestToGo {d : Nat} {M : Mem} {Q : Post} {x1 : Int32} (h : R none (d + 1) mX1_lowestToGo 2 [.ref 3, .int x1, .int (J 0), .null, .null] [] M Q) : Mt (d + 1) mX1_lowestToGo [.ref 3, .int x1] M Q := Mt.of (k := 3) (by decide +kernel) (okR (okI okN)) (Nat.le_of_ble_eq_true rfl) rfl (b_X1_lowestToGo_0 h)
set_option maxRecDepth 100000 in
set_option maxHeartbeats 4000000 in
theorem b_X3_renew_0 {d : Nat} {M : Mem} {Q : Post} {x1 x2 : Int32} (h : R none (d + 1) mX3_renew 17 [.ref 1, .null, .null, .int (J 0)] [] (mset (mset (mset M 1 4 x1) 1 5 x2) 1 7 (J 0)) Q) : R none (d + 1) mX3_renew 0 [.ref 1, .int x1, .int x2, .null] [] M Q := by
  refine r_aload_n dX3_renew_0 rfl rfl ?_
  refine r_iload_n dX3_renew_1 rfl rfl ?_
  refine r_putI dX3_renew_2 fwX3_24 rfl rfl ?_
  refine r_aload_n dX3_renew_5 rfl rfl ?_
  refine r_iload_n dX3_renew_6 rfl rfl ?_
  refine r_putI dX3_renew_7 fwX3_28 rfl rfl ?_
  refine r_aload_n dX3_renew_10 rfl rfl ?_
  refine r_iconst (v := J 0) dX3_renew_11 rfl ?_
  refine r_putI dX3_renew_12 fwX3_34 rfl rfl ?_
  refine r_iconst (v := J 0) dX3_renew_15 rfl ?_
  refine r_istore_n dX3_renew_16 rfl (by decide) rfl ?_
  refine r_kill [false, true, true, false] rfl ?_
  exact h
set_option maxRecDepth 100000 in
set_option maxHeartbeats 4000000 in
theorem b_X3_renew_17 {d : Nat} {M : Mem} {Q : Post} {x3 : Int32} (h : (((J 10) ≤ x3 → Q none M) ∧ (¬ (J 10) ≤ x3 → (vp_in x3 10 ∧ R none (d + 1) mX3_renew 17 [.ref 1, .null, .null, .int (x3 + J 1)] [] (mset M 5 x3.toNatClampNeg (J 0)) Q)))) : R none (d + 1) mX3_renew 17 [.ref 1, .null, .null, .int x3] [] M Q := by
  refine r_iload_n dX3_renew_17 rfl rfl ?_
  refine r_aload_n dX3_renew_18 rfl rfl ?_
  refine r_getR dX3_renew_19 flX3_9 rfl rfl ?_
  refine r_alen (v := J 10) dX3_renew_22 rfl (by decide +kernel) ?_
  refine r_icmp_ge (tgt := 39) dX3_renew_23 (by decide) (fun c_23 => ?_) (fun c_23 => ?_)
  · replace h := h.1 c_23
    exact r_vret dX3_renew_39 rfl h
  · replace h := h.2 c_23
    refine r_aload_n dX3_renew_26 rfl rfl ?_
    refine r_getR dX3_renew_27 flX3_9 rfl rfl ?_
    refine r_iload_n dX3_renew_30 rfl rfl ?_
    refine r_iconst (v := J 0) dX3_renew_31 rfl ?_
    refine r_iast dX3_renew_32 rfl h.1 ?_
    replace h := h.2
    refine r_iinc (v := J 1) dX3_renew_33 rfl rfl (by decide) rfl ?_
    refine r_goto (tgt := 17) dX3_renew_36 (by decide) ?_
    exact h
theorem e_X3_renew {d : Nat} {M : Mem} {Q : Post} {x1 x2 : Int32} (h : R none (d + 1) mX3_renew 17 [.ref 1, .null, .null, .int (J 0)] [] (mset (mset (mset M 1 4 x1) 1 5 x2) 1 7 (J 0)) Q) : Mt (d + 1) mX3_renew [.ref 1, .int x1, .int x2] M Q := Mt.of (k := 1) (by decide +kernel) (okR (okI (okI okN))) (Nat.le_of_ble_eq_true rfl) rfl (b_X3_renew_0 h)
set_option maxRecDepth 100000 in
set_option maxHeartbeats 4000000 in
theorem b_X3_columnCount_0 {d : Nat} {M : Mem} {Q : Post} (h : Q (some (M 1 4)) M) : R none (d + 1) mX3_columnCount 0 [.ref 1] [] M Q := by
  refine r_aload_n dX3_columnCount_0 rfl rfl ?_
  refine r_getI dX3_columnCount_1 flX3_24 rfl rfl ?_
  exact r_ret dX3_columnCount_4 rfl rfl h
theorem e_X3_columnCount {d : Nat} {M : Mem} {Q : Post} (h : Q (some (M 1 4)) M) : Mt (d + 1) mX3_columnCount [.ref 1] M Q := Mt.of (k := 0) (by decide +kernel) (okR okN) (Nat.le_of_ble_eq_true rfl) rfl (b_X3_columnCount_0 h)
set_option maxRecDepth 100000 in
set_option maxHeartbeats 4000000 in
theorem b_X3_rowCount_0 {d : Nat} {M : Mem} {Q : Post} (h : Q (some (M 1 5)) M) : R none (d + 1) mX3_rowCount 0 [.ref 1] [] M Q := by
  refine r_aload_n dX3_rowCount_0 rfl rfl ?_
  refine r_getI dX3_rowCount_1 flX3_28 rfl rfl ?_
  exact r_ret dX3_rowCount_4 rfl rfl h
theorem e_X3_rowCount {d : Nat} {M : Mem} {Q : Post} (h : Q (some (M 1 5)) M) : Mt (d + 1) mX3_rowCount [.ref 1] M Q := Mt.of (k := 0) (by decide +kernel) (okR okN) (Nat.le_of_ble_eq_true rfl) rfl (b_X3_rowCount_0 h)
set_option maxRecDepth 100000 in
set_option maxHeartbeats 4000000 in
theorem b_X3_pieceCount_0 {d : Nat} {M : Mem} {Q : Post} (h : Q (some (M 1 6)) M) : R none (d + 1) mX3_pieceCount 0 [.ref 1] [] M Q := by
  refine r_aload_n dX3_pieceCount_0 rfl rfl ?_
  refine r_getI dX3_pieceCount_1 flX3_31 rfl rfl ?_
  exact r_ret dX3_pieceCount_4 rfl rfl h
theorem e_X3_pieceCount {d : Nat} {M : Mem} {Q : Post} (h : Q (some (M 1 6)) M) : Mt (d + 1) mX3_pieceCount [.ref 1] M Q := Mt.of (k := 0) (by decide +kernel) (okR okN) (Nat.le_of_ble_eq_true rfl) rfl (b_X3_pieceCount_0 h)
set_option maxRecDepth 100000 in
set_option maxHeartbeats 4000000 in
theorem b_X3_lyingSet_0 {d : Nat} {M : Mem} {Q : Post} (h : Q (some (M 1 7)) M) : R none (d + 1) mX3_lyingSet 0 [.ref 1] [] M Q := by
  refine r_aload_n dX3_lyingSet_0 rfl rfl ?_
  refine r_getI dX3_lyingSet_1 flX3_34 rfl rfl ?_
  exact r_ret dX3_lyingSet_4 rfl rfl h
theorem e_X3_lyingSet {d : Nat} {M : Mem} {Q : Post} (h : Q (some (M 1 7)) M) : Mt (d + 1) mX3_lyingSet [.ref 1] M Q := Mt.of (k := 0) (by decide +kernel) (okR okN) (Nat.le_of_ble_eq_true rfl) rfl (b_X3_lyingSet_0 h)
set_option maxRecDepth 100000 in
set_option maxHeartbeats 4000000 in
theorem b_X3_wallCount_0 {d : Nat} {M : Mem} {Q : Post} (h : R none (d + 1) mX3_wallCount 4 [.ref 1, .int (J 0), .int (J 0)] [] M Q) : R none (d + 1) mX3_wallCount 0 [.ref 1, .null, .null] [] M Q := by
  refine r_iconst (v := J 0) dX3_wallCount_0 rfl ?_
  refine r_istore_n dX3_wallCount_1 rfl (by decide) rfl ?_
  refine r_iconst (v := J 0) dX3_wallCount_2 rfl ?_
  refine r_istore_n dX3_wallCount_3 rfl (by decide) rfl ?_
  exact h
set_option maxRecDepth 100000 in
set_option maxHeartbeats 4000000 in
theorem b_X3_wallCount_4 {d : Nat} {M : Mem} {Q : Post} {x1 x2 : Int32} (h : (((J 10) ≤ x2 → Q (some x1) M) ∧ (¬ (J 10) ≤ x2 → (vp_in x2 10 ∧ (Mt d mJ6_bitCount_0f7a4 [.int (M 5 x2.toNatClampNeg)] M (ri fun v1 M1 => R none (d + 1) mX3_wallCount 4 [.ref 1, .int (x1 + v1), .int (x2 + J 1)] [] M1 Q)))))) : R none (d + 1) mX3_wallCount 4 [.ref 1, .int x1, .int x2] [] M Q := by
  refine r_iload_n dX3_wallCount_4 rfl rfl ?_
  refine r_aload_n dX3_wallCount_5 rfl rfl ?_
  refine r_getR dX3_wallCount_6 flX3_9 rfl rfl ?_
  refine r_alen (v := J 10) dX3_wallCount_9 rfl (by decide +kernel) ?_
  refine r_icmp_ge (tgt := 31) dX3_wallCount_10 (by decide) (fun c_10 => ?_) (fun c_10 => ?_)
  · replace h := h.1 c_10
    refine r_iload_n dX3_wallCount_31 rfl rfl ?_
    exact r_ret dX3_wallCount_32 rfl rfl h
  · replace h := h.2 c_10
    refine r_iload_n dX3_wallCount_13 rfl rfl ?_
    refine r_aload_n dX3_wallCount_14 rfl rfl ?_
    refine r_getR dX3_wallCount_15 flX3_9 rfl rfl ?_
    refine r_iload_n dX3_wallCount_18 rfl rfl ?_
    refine r_iald dX3_wallCount_19 rfl h.1 ?_
    replace h := h.2
    refine r_callS (as := [.int (M 5 x2.toNatClampNeg)]) (st := [.int x1]) dX3_wallCount_20 csX3_37 rfl rfl (Nat.le_of_ble_eq_true rfl) h (fun r M1 h => ?_)
    obtain ⟨v1, rfl, h⟩ := h
    refine r_iadd dX3_wallCount_23 ?_
    refine r_istore_n dX3_wallCount_24 rfl (by decide) rfl ?_
    refine r_iinc (v := J 1) dX3_wallCount_25 rfl rfl (by decide) rfl ?_
    refine r_goto (tgt := 4) dX3_wallCount_28 (by decide) ?_
    exact h
theorem e_X3_wallCount {d : Nat} {M : Mem} {Q : Post} (h : R none (d + 1) mX3_wallCount 4 [.ref 1, .int (J 0), .int (J 0)] [] M Q) : Mt (d + 1) mX3_wallCount [.ref 1] M Q := Mt.of (k := 2) (by decide +kernel) (okR okN) (Nat.le_of_ble_eq_true rfl) rfl (b_X3_wallCount_0 h)
set_option maxRecDepth 100000 in
set_option maxHeartbeats 4000000 in
theorem b_X3_hasRow_0 {d : Nat} {M : Mem} {Q : Post} {x1 : Int32} (h : ((x1 < 0 → Q (some (J 0)) M) ∧ (¬ x1 < 0 → (((M 1 5) ≤ x1 → Q (some (J 0)) M) ∧ (¬ (M 1 5) ≤ x1 → (((J 10) ≤ x1 → Q (some (J 0)) M) ∧ (¬ (J 10) ≤ x1 → Q (some (J 1)) M))))))) : R none (d + 1) mX3_hasRow 0 [.ref 1, .int x1] [] M Q := by
  refine r_iload_n dX3_hasRow_0 rfl rfl ?_
  refine r_if_lt (tgt := 25) dX3_hasRow_1 (by decide) (fun c_1 => ?_) (fun c_1 => ?_)
  · replace h := h.1 c_1
    refine r_iconst (v := J 0) dX3_hasRow_25 rfl ?_
    exact r_ret dX3_hasRow_26 rfl nb0 h
  · replace h := h.2 c_1
    refine r_iload_n dX3_hasRow_4 rfl rfl ?_
    refine r_aload_n dX3_hasRow_5 rfl rfl ?_
    refine r_getI dX3_hasRow_6 flX3_28 rfl rfl ?_
    refine r_icmp_ge (tgt := 25) dX3_hasRow_9 (by decide) (fun c_9 => ?_) (fun c_9 => ?_)
    · replace h := h.1 c_9
      refine r_iconst (v := J 0) dX3_hasRow_25 rfl ?_
      exact r_ret dX3_hasRow_26 rfl nb0 h
    · replace h := h.2 c_9
      refine r_iload_n dX3_hasRow_12 rfl rfl ?_
      refine r_aload_n dX3_hasRow_13 rfl rfl ?_
      refine r_getR dX3_hasRow_14 flX3_9 rfl rfl ?_
      refine r_alen (v := J 10) dX3_hasRow_17 rfl (by decide +kernel) ?_
      refine r_icmp_ge (tgt := 25) dX3_hasRow_18 (by decide) (fun c_18 => ?_) (fun c_18 => ?_)
      · replace h := h.1 c_18
        refine r_iconst (v := J 0) dX3_hasRow_25 rfl ?_
        exact r_ret dX3_hasRow_26 rfl nb0 h
      · replace h := h.2 c_18
        refine r_iconst (v := J 1) dX3_hasRow_21 rfl ?_
        refine r_goto (tgt := 26) dX3_hasRow_22 (by decide) ?_
        exact r_ret dX3_hasRow_26 rfl nb1 h
theorem e_X3_hasRow {d : Nat} {M : Mem} {Q : Post} {x1 : Int32} (h : ((x1 < 0 → Q (some (J 0)) M) ∧ (¬ x1 < 0 → (((M 1 5) ≤ x1 → Q (some (J 0)) M) ∧ (¬ (M 1 5) ≤ x1 → (((J 10) ≤ x1 → Q (some (J 0)) M) ∧ (¬ (J 10) ≤ x1 → Q (some (J 1)) M))))))) : Mt (d + 1) mX3_hasRow [.ref 1, .int x1] M Q := Mt.of (k := 0) (by decide +kernel) (okR (okI okN)) (Nat.le_of_ble_eq_true rfl) rfl (b_X3_hasRow_0 h)
set_option maxRecDepth 100000 in
set_option maxHeartbeats 4000000 in
theorem b_X3_wholeRow_0 {d : Nat} {M : Mem} {Q : Post} (h : Q (some (((J 1) <<< ((M 1 4) &&& 31)) - (J 1))) M) : R none (d + 1) mX3_wholeRow 0 [.ref 1] [] M Q := by
  refine r_iconst (v := J 1) dX3_wholeRow_0 rfl ?_
  refine r_aload_n dX3_wholeRow_1 rfl rfl ?_
  refine r_getI dX3_wholeRow_2 flX3_24 rfl rfl ?_
  refine r_ishl dX3_wholeRow_5 ?_
  refine r_iconst (v := J 1) dX3_wholeRow_6 rfl ?_
  refine r_isub dX3_wholeRow_7 ?_
  exact r_ret dX3_wholeRow_8 rfl rfl h
theorem e_X3_wholeRow {d : Nat} {M : Mem} {Q : Post} (h : Q (some (((J 1) <<< ((M 1 4) &&& 31)) - (J 1))) M) : Mt (d + 1) mX3_wholeRow [.ref 1] M Q := Mt.of (k := 0) (by decide +kernel) (okR okN) (Nat.le_of_ble_eq_true rfl) rfl (b_X3_wholeRow_0 h)
set_option maxRecDepth 100000 in
set_option maxHeartbeats 4000000 in
theorem b_X3_setWalls_0 {d : Nat} {M : Mem} {Q : Post} {x1 x2 : Int32} (h : (Mt d mX3_hasRow [.ref 1, .int x1] M (ri fun v1 M1 => ((v1 = 0 → Q none M1) ∧ (¬ v1 = 0 → (vp_in x1 10 ∧ Q none (mset M1 5 x1.toNatClampNeg x2))))))) : R none (d + 1) mX3_setWalls 0 [.ref 1, .int x1, .int x2] [] M Q := by
  refine r_aload_n dX3_setWalls_0 rfl rfl ?_
  refine r_iload_n dX3_setWalls_1 rfl rfl ?_
  refine r_callV (as := [.int x1]) (st := []) dX3_setWalls_2 cvX3_43 rfl rfl rfl rfl (Nat.le_of_ble_eq_true rfl) h (fun r M1 h => ?_)
  obtain ⟨v1, rfl, h⟩ := h
  refine r_if_eq (tgt := 15) dX3_setWalls_5 (by decide) (fun c_5 => ?_) (fun c_5 => ?_)
  · replace h := h.1 c_5
    exact r_vret dX3_setWalls_15 rfl h
  · replace h := h.2 c_5
    refine r_aload_n dX3_setWalls_8 rfl rfl ?_
    refine r_getR dX3_setWalls_9 flX3_9 rfl rfl ?_
    refine r_iload_n dX3_setWalls_12 rfl rfl ?_
    refine r_iload_n dX3_setWalls_13 rfl rfl ?_
    refine r_iast dX3_setWalls_14 rfl h.1 ?_
    replace h := h.2
    exact r_vret dX3_setWalls_15 rfl h
theorem e_X3_setWalls {d : Nat} {M : Mem} {Q : Post} {x1 x2 : Int32} (h : (Mt d mX3_hasRow [.ref 1, .int x1] M (ri fun v1 M1 => ((v1 = 0 → Q none M1) ∧ (¬ v1 = 0 → (vp_in x1 10 ∧ Q none (mset M1 5 x1.toNatClampNeg x2))))))) : Mt (d + 1) mX3_setWalls [.ref 1, .int x1, .int x2] M Q := Mt.of (k := 0) (by decide +kernel) (okR (okI (okI okN))) (Nat.le_of_ble_eq_true rfl) rfl (b_X3_setWalls_0 h)
set_option maxRecDepth 100000 in
set_option maxHeartbeats 4000000 in
theorem b_X3_addPiece_0 {d : Nat} {M : Mem} {Q : Post} {x1 : Int32} (h : (((M 1 6) < (J 8) → (vp_in (M 1 6) 8 ∧ Q (some ((mset M 6 (M 1 6).toNatClampNeg x1) 1 6)) (mset (mset M 6 (M 1 6).toNatClampNeg x1) 1 6 (((mset M 6 (M 1 6).toNatClampNeg x1) 1 6) + (J 1))))) ∧ (¬ (M 1 6) < (J 8) → Q (some (J (-3))) M))) : R none (d + 1) mX3_addPiece 0 [.ref 1, .int x1] [] M Q := by
  refine r_aload_n dX3_addPiece_0 rfl rfl ?_
  refine r_getI dX3_addPiece_1 flX3_31 rfl rfl ?_
  refine r_aload_n dX3_addPiece_4 rfl rfl ?_
  refine r_getR dX3_addPiece_5 flX3_15 rfl rfl ?_
  refine r_alen (v := J 8) dX3_addPiece_8 rfl (by decide +kernel) ?_
  refine r_icmp_lt (tgt := 15) dX3_addPiece_9 (by decide) (fun c_9 => ?_) (fun c_9 => ?_)
  · replace h := h.1 c_9
    refine r_aload_n dX3_addPiece_15 rfl rfl ?_
    refine r_getR dX3_addPiece_16 flX3_15 rfl rfl ?_
    refine r_aload_n dX3_addPiece_19 rfl rfl ?_
    refine r_getI dX3_addPiece_20 flX3_31 rfl rfl ?_
    refine r_iload_n dX3_addPiece_23 rfl rfl ?_
    refine r_iast dX3_addPiece_24 rfl h.1 ?_
    replace h := h.2
    refine r_aload_n dX3_addPiece_25 rfl rfl ?_
    refine r_dup dX3_addPiece_26 rfl ?_
    refine r_getI dX3_addPiece_27 flX3_31 rfl rfl ?_
    refine r_dup_x1 dX3_addPiece_30 rfl rfl ?_
    refine r_iconst (v := J 1) dX3_addPiece_31 rfl ?_
    refine r_iadd dX3_addPiece_32 ?_
    refine r_putI dX3_addPiece_33 fwX3_31 rfl rfl ?_
    exact r_ret dX3_addPiece_36 rfl rfl h
  · replace h := h.2 c_9
    refine r_bipush (v := J (-3)) dX3_addPiece_12 (by decide +kernel) ?_
    exact r_ret dX3_addPiece_14 rfl rfl h
theorem e_X3_addPiece {d : Nat} {M : Mem} {Q : Post} {x1 : Int32} (h : (((M 1 6) < (J 8) → (vp_in (M 1 6) 8 ∧ Q (some ((mset M 6 (M 1 6).toNatClampNeg x1) 1 6)) (mset (mset M 6 (M 1 6).toNatClampNeg x1) 1 6 (((mset M 6 (M 1 6).toNatClampNeg x1) 1 6) + (J 1))))) ∧ (¬ (M 1 6) < (J 8) → Q (some (J (-3))) M))) : Mt (d + 1) mX3_addPiece [.ref 1, .int x1] M Q := Mt.of (k := 0) (by decide +kernel) (okR (okI okN)) (Nat.le_of_ble_eq_true rfl) rfl (b_X3_addPiece_0 h)
set_option maxRecDepth 100000 in
set_option maxHeartbeats 4000000 in
theorem b_X3_has_0 {d : Nat} {M : Mem} {Q : Post} {x1 : Int32} (h : ((x1 < 0 → Q (some (J 0)) M) ∧ (¬ x1 < 0 → (((M 1 6) ≤ x1 → Q (some (J 0)) M) ∧ (¬ (M 1 6) ≤ x1 → (((J 8) ≤ x1 → Q (some (J 0)) M) ∧ (¬ (J 8) ≤ x1 → Q (some (J 1)) M))))))) : R none (d + 1) mX3_has 0 [.ref 1, .int x1] [] M Q := by
  refine r_iload_n dX3_has_0 rfl rfl ?_
  refine r_if_lt (tgt := 25) dX3_has_1 (by decide) (fun c_1 => ?_) (fun c_1 => ?_)
  · replace h := h.1 c_1
    refine r_iconst (v := J 0) dX3_has_25 rfl ?_
    exact r_ret dX3_has_26 rfl nb0 h
  · replace h := h.2 c_1
    refine r_iload_n dX3_has_4 rfl rfl ?_
    refine r_aload_n dX3_has_5 rfl rfl ?_
    refine r_getI dX3_has_6 flX3_31 rfl rfl ?_
    refine r_icmp_ge (tgt := 25) dX3_has_9 (by decide) (fun c_9 => ?_) (fun c_9 => ?_)
    · replace h := h.1 c_9
      refine r_iconst (v := J 0) dX3_has_25 rfl ?_
      exact r_ret dX3_has_26 rfl nb0 h
    · replace h := h.2 c_9
      refine r_iload_n dX3_has_12 rfl rfl ?_
      refine r_aload_n dX3_has_13 rfl rfl ?_
      refine r_getR dX3_has_14 flX3_15 rfl rfl ?_
      refine r_alen (v := J 8) dX3_has_17 rfl (by decide +kernel) ?_
      refine r_icmp_ge (tgt := 25) dX3_has_18 (by decide) (fun c_18 => ?_) (fun c_18 => ?_)
      · replace h := h.1 c_18
        refine r_iconst (v := J 0) dX3_has_25 rfl ?_
        exact r_ret dX3_has_26 rfl nb0 h
      · replace h := h.2 c_18
        refine r_iconst (v := J 1) dX3_has_21 rfl ?_
        refine r_goto (tgt := 26) dX3_has_22 (by decide) ?_
        exact r_ret dX3_has_26 rfl nb1 h
theorem e_X3_has {d : Nat} {M : Mem} {Q : Post} {x1 : Int32} (h : ((x1 < 0 → Q (some (J 0)) M) ∧ (¬ x1 < 0 → (((M 1 6) ≤ x1 → Q (some (J 0)) M) ∧ (¬ (M 1 6) ≤ x1 → (((J 8) ≤ x1 → Q (some (J 0)) M) ∧ (¬ (J 8) ≤ x1 → Q (some (J 1)) M))))))) : Mt (d + 1) mX3_has [.ref 1, .int x1] M Q := Mt.of (k := 0) (by decide +kernel) (okR (okI okN)) (Nat.le_of_ble_eq_true rfl) rfl (b_X3_has_0 h)
set_option maxRecDepth 100000 in
set_option maxHeartbeats 4000000 in
theorem b_X3_isLying_0 {d : Nat} {M : Mem} {Q : Post} {x1 : Int32} (h : (Mt d mX3_has [.ref 1, .int x1] M (ri fun v1 M1 => ((v1 = 0 → Q (some (J 0)) M1) ∧ (¬ v1 = 0 → (Mt d mX4_isIn [.int (M1 1 7), .int x1] M1 (ri fun v2 M2 => ((v2 = 0 → Q (some (J 0)) M2) ∧ (¬ v2 = 0 → Q (some (J 1)) M2))))))))) : R none (d + 1) mX3_isLying 0 [.ref 1, .int x1] [] M Q := by
  refine r_aload_n dX3_isLying_0 rfl rfl ?_
  refine r_iload_n dX3_isLying_1 rfl rfl ?_
  refine r_callV (as := [.int x1]) (st := []) dX3_isLying_2 cvX3_47 rfl rfl rfl rfl (Nat.le_of_ble_eq_true rfl) h (fun r M1 h => ?_)
  obtain ⟨v1, rfl, h⟩ := h
  refine r_if_eq (tgt := 23) dX3_isLying_5 (by decide) (fun c_5 => ?_) (fun c_5 => ?_)
  · replace h := h.1 c_5
    refine r_iconst (v := J 0) dX3_isLying_23 rfl ?_
    exact r_ret dX3_isLying_24 rfl nb0 h
  · replace h := h.2 c_5
    refine r_aload_n dX3_isLying_8 rfl rfl ?_
    refine r_getI dX3_isLying_9 flX3_34 rfl rfl ?_
    refine r_iload_n dX3_isLying_12 rfl rfl ?_
    refine r_callN (as := [.int (M1 1 7), .int x1]) (st := []) dX3_isLying_13 cnX3_50 rfl rfl (Nat.le_of_ble_eq_true rfl) h (fun r M2 h => ?_)
    obtain ⟨v2, rfl, h⟩ := h
    refine r_if_eq (tgt := 23) dX3_isLying_16 (by decide) (fun c_16 => ?_) (fun c_16 => ?_)
    · replace h := h.1 c_16
      refine r_iconst (v := J 0) dX3_isLying_23 rfl ?_
      exact r_ret dX3_isLying_24 rfl nb0 h
    · replace h := h.2 c_16
      refine r_iconst (v := J 1) dX3_isLying_19 rfl ?_
      refine r_goto (tgt := 24) dX3_isLying_20 (by decide) ?_
      exact r_ret dX3_isLying_24 rfl nb1 h
theorem e_X3_isLying {d : Nat} {M : Mem} {Q : Post} {x1 : Int32} (h : (Mt d mX3_has [.ref 1, .int x1] M (ri fun v1 M1 => ((v1 = 0 → Q (some (J 0)) M1) ∧ (¬ v1 = 0 → (Mt d mX4_isIn [.int (M1 1 7), .int x1] M1 (ri fun v2 M2 => ((v2 = 0 → Q (some (J 0)) M2) ∧ (¬ v2 = 0 → Q (some (J 1)) M2))))))))) : Mt (d + 1) mX3_isLying [.ref 1, .int x1] M Q := Mt.of (k := 0) (by decide +kernel) (okR (okI okN)) (Nat.le_of_ble_eq_true rfl) rfl (b_X3_isLying_0 h)
set_option maxRecDepth 100000 in
set_option maxHeartbeats 4000000 in
theorem b_X3_lyingBeside_0 {d : Nat} {M : Mem} {Q : Post} {x1 : Int32} (h : (Mt d mX3_has [.ref 1, .int x1] M (ri fun v1 M1 => ((v1 = 0 → Q (some (M1 1 7)) M1) ∧ (¬ v1 = 0 → Q (some ((M1 1 7) &&& (((J 1) <<< (x1 &&& 31)) ^^^ (J (-1))))) M1))))) : R none (d + 1) mX3_lyingBeside 0 [.ref 1, .int x1] [] M Q := by
  refine r_aload_n dX3_lyingBeside_0 rfl rfl ?_
  refine r_iload_n dX3_lyingBeside_1 rfl rfl ?_
  refine r_callV (as := [.int x1]) (st := []) dX3_lyingBeside_2 cvX3_47 rfl rfl rfl rfl (Nat.le_of_ble_eq_true rfl) h (fun r M1 h => ?_)
  obtain ⟨v1, rfl, h⟩ := h
  refine r_if_eq (tgt := 21) dX3_lyingBeside_5 (by decide) (fun c_5 => ?_) (fun c_5 => ?_)
  · replace h := h.1 c_5
    refine r_aload_n dX3_lyingBeside_21 rfl rfl ?_
    refine r_getI dX3_lyingBeside_22 flX3_34 rfl rfl ?_
    exact r_ret dX3_lyingBeside_25 rfl rfl h
  · replace h := h.2 c_5
    refine r_aload_n dX3_lyingBeside_8 rfl rfl ?_
    refine r_getI dX3_lyingBeside_9 flX3_34 rfl rfl ?_
    refine r_iconst (v := J 1) dX3_lyingBeside_12 rfl ?_
    refine r_iload_n dX3_lyingBeside_13 rfl rfl ?_
    refine r_ishl dX3_lyingBeside_14 ?_
    refine r_iconst (v := J (-1)) dX3_lyingBeside_15 rfl ?_
    refine r_ixor dX3_lyingBeside_16 ?_
    refine r_iand dX3_lyingBeside_17 ?_
    refine r_goto (tgt := 25) dX3_lyingBeside_18 (by decide) ?_
    exact r_ret dX3_lyingBeside_25 rfl rfl h
theorem e_X3_lyingBeside {d : Nat} {M : Mem} {Q : Post} {x1 : Int32} (h : (Mt d mX3_has [.ref 1, .int x1] M (ri fun v1 M1 => ((v1 = 0 → Q (some (M1 1 7)) M1) ∧ (¬ v1 = 0 → Q (some ((M1 1 7) &&& (((J 1) <<< (x1 &&& 31)) ^^^ (J (-1))))) M1))))) : Mt (d + 1) mX3_lyingBeside [.ref 1, .int x1] M Q := Mt.of (k := 0) (by decide +kernel) (okR (okI okN)) (Nat.le_of_ble_eq_true rfl) rfl (b_X3_lyingBeside_0 h)
set_option maxRecDepth 100000 in
set_option maxHeartbeats 4000000 in
theorem b_X3_shapeOf_0 {d : Nat} {M : Mem} {Q : Post} {x1 : Int32} (h : (Mt d mX3_has [.ref 1, .int x1] M (ri fun v1 M1 => ((v1 = 0 → Q (some (J 0)) M1) ∧ (¬ v1 = 0 → (vp_in x1 8 ∧ Q (some (M1 6 x1.toNatClampNeg)) M1)))))) : R none (d + 1) mX3_shapeOf 0 [.ref 1, .int x1] [] M Q := by
  refine r_aload_n dX3_shapeOf_0 rfl rfl ?_
  refine r_iload_n dX3_shapeOf_1 rfl rfl ?_
  refine r_callV (as := [.int x1]) (st := []) dX3_shapeOf_2 cvX3_47 rfl rfl rfl rfl (Nat.le_of_ble_eq_true rfl) h (fun r M1 h => ?_)
  obtain ⟨v1, rfl, h⟩ := h
  refine r_if_eq (tgt := 17) dX3_shapeOf_5 (by decide) (fun c_5 => ?_) (fun c_5 => ?_)
  · replace h := h.1 c_5
    refine r_iconst (v := J 0) dX3_shapeOf_17 rfl ?_
    exact r_ret dX3_shapeOf_18 rfl rfl h
  · replace h := h.2 c_5
    refine r_aload_n dX3_shapeOf_8 rfl rfl ?_
    refine r_getR dX3_shapeOf_9 flX3_15 rfl rfl ?_
    refine r_iload_n dX3_shapeOf_12 rfl rfl ?_
    refine r_iald dX3_shapeOf_13 rfl h.1 ?_
    replace h := h.2
    refine r_goto (tgt := 18) dX3_shapeOf_14 (by decide) ?_
    exact r_ret dX3_shapeOf_18 rfl rfl h
theorem e_X3_shapeOf {d : Nat} {M : Mem} {Q : Post} {x1 : Int32} (h : (Mt d mX3_has [.ref 1, .int x1] M (ri fun v1 M1 => ((v1 = 0 → Q (some (J 0)) M1) ∧ (¬ v1 = 0 → (vp_in x1 8 ∧ Q (some (M1 6 x1.toNatClampNeg)) M1)))))) : Mt (d + 1) mX3_shapeOf [.ref 1, .int x1] M Q := Mt.of (k := 0) (by decide +kernel) (okR (okI okN)) (Nat.le_of_ble_eq_true rfl) rfl (b_X3_shapeOf_0 h)
set_option maxRecDepth 100000 in
set_option maxHeartbeats 4000000 in
theorem b_X3_xOf_0 {d : Nat} {M : Mem} {Q : Post} {x1 : Int32} (h : (Mt d mX3_has [.ref 1, .int x1] M (ri fun v1 M1 => ((v1 = 0 → Q (some (J 0)) M1) ∧ (¬ v1 = 0 → (vp_in x1 8 ∧ Q (some (M1 7 x1.toNatClampNeg)) M1)))))) : R none (d + 1) mX3_xOf 0 [.ref 1, .int x1] [] M Q := by
  refine r_aload_n dX3_xOf_0 rfl rfl ?_
  refine r_iload_n dX3_xOf_1 rfl rfl ?_
  refine r_callV (as := [.int x1]) (st := []) dX3_xOf_2 cvX3_47 rfl rfl rfl rfl (Nat.le_of_ble_eq_true rfl) h (fun r M1 h => ?_)
  obtain ⟨v1, rfl, h⟩ := h
  refine r_if_eq (tgt := 17) dX3_xOf_5 (by decide) (fun c_5 => ?_) (fun c_5 => ?_)
  · replace h := h.1 c_5
    refine r_iconst (v := J 0) dX3_xOf_17 rfl ?_
    exact r_ret dX3_xOf_18 rfl rfl h
  · replace h := h.2 c_5
    refine r_aload_n dX3_xOf_8 rfl rfl ?_
    refine r_getR dX3_xOf_9 flX3_18 rfl rfl ?_
    refine r_iload_n dX3_xOf_12 rfl rfl ?_
    refine r_iald dX3_xOf_13 rfl h.1 ?_
    replace h := h.2
    refine r_goto (tgt := 18) dX3_xOf_14 (by decide) ?_
    exact r_ret dX3_xOf_18 rfl rfl h
theorem e_X3_xOf {d : Nat} {M : Mem} {Q : Post} {x1 : Int32} (h : (Mt d mX3_has [.ref 1, .int x1] M (ri fun v1 M1 => ((v1 = 0 → Q (some (J 0)) M1) ∧ (¬ v1 = 0 → (vp_in x1 8 ∧ Q (some (M1 7 x1.toNatClampNeg)) M1)))))) : Mt (d + 1) mX3_xOf [.ref 1, .int x1] M Q := Mt.of (k := 0) (by decide +kernel) (okR (okI okN)) (Nat.le_of_ble_eq_true rfl) rfl (b_X3_xOf_0 h)
set_option maxRecDepth 100000 in
set_option maxHeartbeats 4000000 in
theorem b_X3_yOf_0 {d : Nat} {M : Mem} {Q : Post} {x1 : Int32} (h : (Mt d mX3_has [.ref 1, .int x1] M (ri fun v1 M1 => ((v1 = 0 → Q (some (J 0)) M1) ∧ (¬ v1 = 0 → (vp_in x1 8 ∧ Q (some (M1 8 x1.toNatClampNeg)) M1)))))) : R none (d + 1) mX3_yOf 0 [.ref 1, .int x1] [] M Q := by
  refine r_aload_n dX3_yOf_0 rfl rfl ?_
  refine r_iload_n dX3_yOf_1 rfl rfl ?_
  refine r_callV (as := [.int x1]) (st := []) dX3_yOf_2 cvX3_47 rfl rfl rfl rfl (Nat.le_of_ble_eq_true rfl) h (fun r M1 h => ?_)
  obtain ⟨v1, rfl, h⟩ := h
  refine r_if_eq (tgt := 17) dX3_yOf_5 (by decide) (fun c_5 => ?_) (fun c_5 => ?_)
  · replace h := h.1 c_5
    refine r_iconst (v := J 0) dX3_yOf_17 rfl ?_
    exact r_ret dX3_yOf_18 rfl rfl h
  · replace h := h.2 c_5
    refine r_aload_n dX3_yOf_8 rfl rfl ?_
    refine r_getR dX3_yOf_9 flX3_21 rfl rfl ?_
    refine r_iload_n dX3_yOf_12 rfl rfl ?_
    refine r_iald dX3_yOf_13 rfl h.1 ?_
    replace h := h.2
    refine r_goto (tgt := 18) dX3_yOf_14 (by decide) ?_
    exact r_ret dX3_yOf_18 rfl rfl h
theorem e_X3_yOf {d : Nat} {M : Mem} {Q : Post} {x1 : Int32} (h : (Mt d mX3_has [.ref 1, .int x1] M (ri fun v1 M1 => ((v1 = 0 → Q (some (J 0)) M1) ∧ (¬ v1 = 0 → (vp_in x1 8 ∧ Q (some (M1 8 x1.toNatClampNeg)) M1)))))) : Mt (d + 1) mX3_yOf [.ref 1, .int x1] M Q := Mt.of (k := 0) (by decide +kernel) (okR (okI okN)) (Nat.le_of_ble_eq_true rfl) rfl (b_X3_yOf_0 h)
set_option maxRecDepth 100000 in
set_option maxHeartbeats 4000000 in
theorem b_X3_lay_0 {d : Nat} {M : Mem} {Q : Post} {x1 x2 x3 : Int32} (h : (Mt d mX3_has [.ref 1, .int x1] M (ri fun v1 M1 => ((v1 = 0 → Q none M1) ∧ (¬ v1 = 0 → (vp_in x1 8 ∧ (vp_in x1 8 ∧ Q none (mset (mset (mset M1 7 x1.toNatClampNeg x2) 8 x1.toNatClampNeg x3) 1 7 (((mset (mset M1 7 x1.toNatClampNeg x2) 8 x1.toNatClampNeg x3) 1 7) ||| ((J 1) <<< (x1 &&& 31))))))))))) : R none (d + 1) mX3_lay 0 [.ref 1, .int x1, .int x2, .int x3] [] M Q := by
  refine r_aload_n dX3_lay_0 rfl rfl ?_
  refine r_iload_n dX3_lay_1 rfl rfl ?_
  refine r_callV (as := [.int x1]) (st := []) dX3_lay_2 cvX3_47 rfl rfl rfl rfl (Nat.le_of_ble_eq_true rfl) h (fun r M1 h => ?_)
  obtain ⟨v1, rfl, h⟩ := h
  refine r_if_eq (tgt := 34) dX3_lay_5 (by decide) (fun c_5 => ?_) (fun c_5 => ?_)
  · replace h := h.1 c_5
    exact r_vret dX3_lay_34 rfl h
  · replace h := h.2 c_5
    refine r_aload_n dX3_lay_8 rfl rfl ?_
    refine r_getR dX3_lay_9 flX3_18 rfl rfl ?_
    refine r_iload_n dX3_lay_12 rfl rfl ?_
    refine r_iload_n dX3_lay_13 rfl rfl ?_
    refine r_iast dX3_lay_14 rfl h.1 ?_
    replace h := h.2
    refine r_aload_n dX3_lay_15 rfl rfl ?_
    refine r_getR dX3_lay_16 flX3_21 rfl rfl ?_
    refine r_iload_n dX3_lay_19 rfl rfl ?_
    refine r_iload_n dX3_lay_20 rfl rfl ?_
    refine r_iast dX3_lay_21 rfl h.1 ?_
    replace h := h.2
    refine r_aload_n dX3_lay_22 rfl rfl ?_
    refine r_dup dX3_lay_23 rfl ?_
    refine r_getI dX3_lay_24 flX3_34 rfl rfl ?_
    refine r_iconst (v := J 1) dX3_lay_27 rfl ?_
    refine r_iload_n dX3_lay_28 rfl rfl ?_
    refine r_ishl dX3_lay_29 ?_
    refine r_ior dX3_lay_30 ?_
    refine r_putI dX3_lay_31 fwX3_34 rfl rfl ?_
    exact r_vret dX3_lay_34 rfl h
theorem e_X3_lay {d : Nat} {M : Mem} {Q : Post} {x1 x2 x3 : Int32} (h : (Mt d mX3_has [.ref 1, .int x1] M (ri fun v1 M1 => ((v1 = 0 → Q none M1) ∧ (¬ v1 = 0 → (vp_in x1 8 ∧ (vp_in x1 8 ∧ Q none (mset (mset (mset M1 7 x1.toNatClampNeg x2) 8 x1.toNatClampNeg x3) 1 7 (((mset (mset M1 7 x1.toNatClampNeg x2) 8 x1.toNatClampNeg x3) 1 7) ||| ((J 1) <<< (x1 &&& 31))))))))))) : Mt (d + 1) mX3_lay [.ref 1, .int x1, .int x2, .int x3] M Q := Mt.of (k := 0) (by decide +kernel) (okR (okI (okI (okI okN)))) (Nat.le_of_ble_eq_true rfl) rfl (b_X3_lay_0 h)
set_option maxRecDepth 100000 in
set_option maxHeartbeats 4000000 in
theorem b_X3_take_0 {d : Nat} {M : Mem} {Q : Post} {x1 : Int32} (h : (Mt d mX3_has [.ref 1, .int x1] M (ri fun v1 M1 => ((v1 = 0 → Q none M1) ∧ (¬ v1 = 0 → Q none (mset M1 1 7 ((M1 1 7) &&& (((J 1) <<< (x1 &&& 31)) ^^^ (J (-1)))))))))) : R none (d + 1) mX3_take 0 [.ref 1, .int x1] [] M Q := by
  refine r_aload_n dX3_take_0 rfl rfl ?_
  refine r_iload_n dX3_take_1 rfl rfl ?_
  refine r_callV (as := [.int x1]) (st := []) dX3_take_2 cvX3_47 rfl rfl rfl rfl (Nat.le_of_ble_eq_true rfl) h (fun r M1 h => ?_)
  obtain ⟨v1, rfl, h⟩ := h
  refine r_if_eq (tgt := 22) dX3_take_5 (by decide) (fun c_5 => ?_) (fun c_5 => ?_)
  · replace h := h.1 c_5
    exact r_vret dX3_take_22 rfl h
  · replace h := h.2 c_5
    refine r_aload_n dX3_take_8 rfl rfl ?_
    refine r_dup dX3_take_9 rfl ?_
    refine r_getI dX3_take_10 flX3_34 rfl rfl ?_
    refine r_iconst (v := J 1) dX3_take_13 rfl ?_
    refine r_iload_n dX3_take_14 rfl rfl ?_
    refine r_ishl dX3_take_15 ?_
    refine r_iconst (v := J (-1)) dX3_take_16 rfl ?_
    refine r_ixor dX3_take_17 ?_
    refine r_iand dX3_take_18 ?_
    refine r_putI dX3_take_19 fwX3_34 rfl rfl ?_
    exact r_vret dX3_take_22 rfl h
theorem e_X3_take {d : Nat} {M : Mem} {Q : Post} {x1 : Int32} (h : (Mt d mX3_has [.ref 1, .int x1] M (ri fun v1 M1 => ((v1 = 0 → Q none M1) ∧ (¬ v1 = 0 → Q none (mset M1 1 7 ((M1 1 7) &&& (((J 1) <<< (x1 &&& 31)) ^^^ (J (-1)))))))))) : Mt (d + 1) mX3_take [.ref 1, .int x1] M Q := Mt.of (k := 0) (by decide +kernel) (okR (okI okN)) (Nat.le_of_ble_eq_true rfl) rfl (b_X3_take_0 h)
set_option maxRecDepth 100000 in
set_option maxHeartbeats 4000000 in
theorem b_X3_boardSquares_0 {d : Nat} {M : Mem} {Q : Post} {x1 : Int32} (h : (Mt d mX3_hasRow [.ref 1, .int x1] M (ri fun v1 M1 => ((v1 = 0 → Q (some (J 0)) M1) ∧ (¬ v1 = 0 → (Mt d mX3_wholeRow [.ref 1] M1 (ri fun v2 M2 => Q (some (v2 <<< ((J 6) &&& 31))) M2))))))) : R none (d + 1) mX3_boardSquares 0 [.ref 1, .int x1] [] M Q := by
  refine r_aload_n dX3_boardSquares_0 rfl rfl ?_
  refine r_iload_n dX3_boardSquares_1 rfl rfl ?_
  refine r_callV (as := [.int x1]) (st := []) dX3_boardSquares_2 cvX3_43 rfl rfl rfl rfl (Nat.le_of_ble_eq_true rfl) h (fun r M1 h => ?_)
  obtain ⟨v1, rfl, h⟩ := h
  refine r_if_eq (tgt := 18) dX3_boardSquares_5 (by decide) (fun c_5 => ?_) (fun c_5 => ?_)
  · replace h := h.1 c_5
    refine r_iconst (v := J 0) dX3_boardSquares_18 rfl ?_
    exact r_ret dX3_boardSquares_19 rfl rfl h
  · replace h := h.2 c_5
    refine r_aload_n dX3_boardSquares_8 rfl rfl ?_
    refine r_callV (as := []) (st := []) dX3_boardSquares_9 cvX3_54 rfl rfl rfl rfl (Nat.le_of_ble_eq_true rfl) h (fun r M2 h => ?_)
    obtain ⟨v2, rfl, h⟩ := h
    refine r_bipush (v := J 6) dX3_boardSquares_12 (by decide +kernel) ?_
    refine r_ishl dX3_boardSquares_14 ?_
    refine r_goto (tgt := 19) dX3_boardSquares_15 (by decide) ?_
    exact r_ret dX3_boardSquares_19 rfl rfl h
theorem e_X3_boardSquares {d : Nat} {M : Mem} {Q : Post} {x1 : Int32} (h : (Mt d mX3_hasRow [.ref 1, .int x1] M (ri fun v1 M1 => ((v1 = 0 → Q (some (J 0)) M1) ∧ (¬ v1 = 0 → (Mt d mX3_wholeRow [.ref 1] M1 (ri fun v2 M2 => Q (some (v2 <<< ((J 6) &&& 31))) M2))))))) : Mt (d + 1) mX3_boardSquares [.ref 1, .int x1] M Q := Mt.of (k := 0) (by decide +kernel) (okR (okI okN)) (Nat.le_of_ble_eq_true rfl) rfl (b_X3_boardSquares_0 h)
set_option maxRecDepth 100000 in
set_option maxHeartbeats 4000000 in
theorem b_X3_wallSquares_0 {d : Nat} {M : Mem} {Q : Post} {x1 : Int32} (h : (Mt d mX3_hasRow [.ref 1, .int x1] M (ri fun v1 M1 => ((v1 = 0 → Q (some (J 0)) M1) ∧ (¬ v1 = 0 → (vp_in x1 10 ∧ Q (some ((M1 5 x1.toNatClampNeg) <<< ((J 6) &&& 31))) M1)))))) : R none (d + 1) mX3_wallSquares 0 [.ref 1, .int x1] [] M Q := by
  refine r_aload_n dX3_wallSquares_0 rfl rfl ?_
  refine r_iload_n dX3_wallSquares_1 rfl rfl ?_
  refine r_callV (as := [.int x1]) (st := []) dX3_wallSquares_2 cvX3_43 rfl rfl rfl rfl (Nat.le_of_ble_eq_true rfl) h (fun r M1 h => ?_)
  obtain ⟨v1, rfl, h⟩ := h
  refine r_if_eq (tgt := 20) dX3_wallSquares_5 (by decide) (fun c_5 => ?_) (fun c_5 => ?_)
  · replace h := h.1 c_5
    refine r_iconst (v := J 0) dX3_wallSquares_20 rfl ?_
    exact r_ret dX3_wallSquares_21 rfl rfl h
  · replace h := h.2 c_5
    refine r_aload_n dX3_wallSquares_8 rfl rfl ?_
    refine r_getR dX3_wallSquares_9 flX3_9 rfl rfl ?_
    refine r_iload_n dX3_wallSquares_12 rfl rfl ?_
    refine r_iald dX3_wallSquares_13 rfl h.1 ?_
    replace h := h.2
    refine r_bipush (v := J 6) dX3_wallSquares_14 (by decide +kernel) ?_
    refine r_ishl dX3_wallSquares_16 ?_
    refine r_goto (tgt := 21) dX3_wallSquares_17 (by decide) ?_
    exact r_ret dX3_wallSquares_21 rfl rfl h
theorem e_X3_wallSquares {d : Nat} {M : Mem} {Q : Post} {x1 : Int32} (h : (Mt d mX3_hasRow [.ref 1, .int x1] M (ri fun v1 M1 => ((v1 = 0 → Q (some (J 0)) M1) ∧ (¬ v1 = 0 → (vp_in x1 10 ∧ Q (some ((M1 5 x1.toNatClampNeg) <<< ((J 6) &&& 31))) M1)))))) : Mt (d + 1) mX3_wallSquares [.ref 1, .int x1] M Q := Mt.of (k := 0) (by decide +kernel) (okR (okI okN)) (Nat.le_of_ble_eq_true rfl) rfl (b_X3_wallSquares_0 h)
set_option maxRecDepth 100000 in
set_option maxHeartbeats 4000000 in
theorem b_X3_squaresOf_0 {d : Nat} {M : Mem} {Q : Post} {x1 x2 : Int32} (h : ((x1 < 0 → Q (some (J 0)) M) ∧ (¬ x1 < 0 → (((J 8) ≤ x1 → Q (some (J 0)) M) ∧ (¬ (J 8) ≤ x1 → ((¬ (((M 1 7) >>> (x1 &&& 31)) &&& (J 1)) = 0 → (vp_in x1 8 ∧ (vp_in x1 8 ∧ (Mt d mX4_rowOf [.int (M 6 x1.toNatClampNeg), .int (x2 - (M 8 x1.toNatClampNeg))] M (ri fun v1 M1 => (vp_in x1 8 ∧ Q (some (v1 <<< (((M1 7 x1.toNatClampNeg) - (J (-6))) &&& 31))) M1)))))) ∧ ((((M 1 7) >>> (x1 &&& 31)) &&& (J 1)) = 0 → Q (some (J 0)) M))))))) : R none (d + 1) mX3_squaresOf 0 [.ref 1, .int x1, .int x2] [] M Q := by
  refine r_iload_n dX3_squaresOf_0 rfl rfl ?_
  refine r_if_lt (tgt := 21) dX3_squaresOf_1 (by decide) (fun c_1 => ?_) (fun c_1 => ?_)
  · replace h := h.1 c_1
    refine r_iconst (v := J 0) dX3_squaresOf_21 rfl ?_
    exact r_ret dX3_squaresOf_22 rfl rfl h
  · replace h := h.2 c_1
    refine r_iload_n dX3_squaresOf_4 rfl rfl ?_
    refine r_bipush (v := J 8) dX3_squaresOf_5 (by decide +kernel) ?_
    refine r_icmp_ge (tgt := 21) dX3_squaresOf_7 (by decide) (fun c_7 => ?_) (fun c_7 => ?_)
    · replace h := h.1 c_7
      refine r_iconst (v := J 0) dX3_squaresOf_21 rfl ?_
      exact r_ret dX3_squaresOf_22 rfl rfl h
    · replace h := h.2 c_7
      refine r_aload_n dX3_squaresOf_10 rfl rfl ?_
      refine r_getI dX3_squaresOf_11 flX3_34 rfl rfl ?_
      refine r_iload_n dX3_squaresOf_14 rfl rfl ?_
      refine r_ishr dX3_squaresOf_15 ?_
      refine r_iconst (v := J 1) dX3_squaresOf_16 rfl ?_
      refine r_iand dX3_squaresOf_17 ?_
      refine r_if_ne (tgt := 23) dX3_squaresOf_18 (by decide) (fun c_18 => ?_) (fun c_18 => ?_)
      · replace h := h.1 c_18
        refine r_aload_n dX3_squaresOf_23 rfl rfl ?_
        refine r_getR dX3_squaresOf_24 flX3_15 rfl rfl ?_
        refine r_iload_n dX3_squaresOf_27 rfl rfl ?_
        refine r_iald dX3_squaresOf_28 rfl h.1 ?_
        replace h := h.2
        refine r_iload_n dX3_squaresOf_29 rfl rfl ?_
        refine r_aload_n dX3_squaresOf_30 rfl rfl ?_
        refine r_getR dX3_squaresOf_31 flX3_21 rfl rfl ?_
        refine r_iload_n dX3_squaresOf_34 rfl rfl ?_
        refine r_iald dX3_squaresOf_35 rfl h.1 ?_
        replace h := h.2
        refine r_isub dX3_squaresOf_36 ?_
        refine r_callN (as := [.int (M 6 x1.toNatClampNeg), .int (x2 - (M 8 x1.toNatClampNeg))]) (st := []) dX3_squaresOf_37 cnX3_58 rfl rfl (Nat.le_of_ble_eq_true rfl) h (fun r M1 h => ?_)
        obtain ⟨v1, rfl, h⟩ := h
        refine r_aload_n dX3_squaresOf_40 rfl rfl ?_
        refine r_getR dX3_squaresOf_41 flX3_18 rfl rfl ?_
        refine r_iload_n dX3_squaresOf_44 rfl rfl ?_
        refine r_iald dX3_squaresOf_45 rfl h.1 ?_
        replace h := h.2
        refine r_bipush (v := J (-6)) dX3_squaresOf_46 (by decide +kernel) ?_
        refine r_isub dX3_squaresOf_48 ?_
        refine r_ishl dX3_squaresOf_49 ?_
        exact r_ret dX3_squaresOf_50 rfl rfl h
      · replace h := h.2 c_18
        refine r_iconst (v := J 0) dX3_squaresOf_21 rfl ?_
        exact r_ret dX3_squaresOf_22 rfl rfl h
theorem e_X3_squaresOf {d : Nat} {M : Mem} {Q : Post} {x1 x2 : Int32} (h : ((x1 < 0 → Q (some (J 0)) M) ∧ (¬ x1 < 0 → (((J 8) ≤ x1 → Q (some (J 0)) M) ∧ (¬ (J 8) ≤ x1 → ((¬ (((M 1 7) >>> (x1 &&& 31)) &&& (J 1)) = 0 → (vp_in x1 8 ∧ (vp_in x1 8 ∧ (Mt d mX4_rowOf [.int (M 6 x1.toNatClampNeg), .int (x2 - (M 8 x1.toNatClampNeg))] M (ri fun v1 M1 => (vp_in x1 8 ∧ Q (some (v1 <<< (((M1 7 x1.toNatClampNeg) - (J (-6))) &&& 31))) M1)))))) ∧ ((((M 1 7) >>> (x1 &&& 31)) &&& (J 1)) = 0 → Q (some (J 0)) M))))))) : Mt (d + 1) mX3_squaresOf [.ref 1, .int x1, .int x2] M Q := Mt.of (k := 0) (by decide +kernel) (okR (okI (okI okN))) (Nat.le_of_ble_eq_true rfl) rfl (b_X3_squaresOf_0 h)
set_option maxRecDepth 100000 in
set_option maxHeartbeats 4000000 in
theorem b_X3_squaresOfSet_0 {d : Nat} {M : Mem} {Q : Post} {x1 x2 : Int32} (h : R none (d + 1) mX3_squaresOfSet 5 [.ref 1, .int x1, .int x2, .int (J 0), .int (J 0)] [] M Q) : R none (d + 1) mX3_squaresOfSet 0 [.ref 1, .int x1, .int x2, .null, .null] [] M Q := by
  refine r_iconst (v := J 0) dX3_squaresOfSet_0 rfl ?_
  refine r_istore_n dX3_squaresOfSet_1 rfl (by decide) rfl ?_
  refine r_iconst (v := J 0) dX3_squaresOfSet_2 rfl ?_
  refine r_istore dX3_squaresOfSet_3 (by decide) rfl ?_
  exact h
set_option maxRecDepth 100000 in
set_option maxHeartbeats 4000000 in
theorem b_X3_squaresOfSet_5 {d : Nat} {M : Mem} {Q : Post} {x1 x2 x3 x4 : Int32} (h : (((M 1 6) ≤ x4 → Q (some x3) M) ∧ (¬ (M 1 6) ≤ x4 → (Mt d mX4_isIn [.int x1, .int x4] M (ri fun v1 M1 => ((v1 = 0 → R none (d + 1) mX3_squaresOfSet 5 [.ref 1, .int x1, .int x2, .int x3, .int (x4 + J 1)] [] M1 Q) ∧ (¬ v1 = 0 → (Mt d mX3_squaresOf [.ref 1, .int x4, .int x2] M1 (ri fun v2 M2 => R none (d + 1) mX3_squaresOfSet 5 [.ref 1, .int x1, .int x2, .int (x3 ||| v2), .int (x4 + J 1)] [] M2 Q))))))))) : R none (d + 1) mX3_squaresOfSet 5 [.ref 1, .int x1, .int x2, .int x3, .int x4] [] M Q := by
  refine r_iload dX3_squaresOfSet_5 rfl ?_
  refine r_aload_n dX3_squaresOfSet_7 rfl rfl ?_
  refine r_getI dX3_squaresOfSet_8 flX3_31 rfl rfl ?_
  refine r_icmp_ge (tgt := 39) dX3_squaresOfSet_11 (by decide) (fun c_11 => ?_) (fun c_11 => ?_)
  · replace h := h.1 c_11
    refine r_iload_n dX3_squaresOfSet_39 rfl rfl ?_
    exact r_ret dX3_squaresOfSet_40 rfl rfl h
  · replace h := h.2 c_11
    refine r_iload_n dX3_squaresOfSet_14 rfl rfl ?_
    refine r_iload dX3_squaresOfSet_15 rfl ?_
    refine r_callN (as := [.int x1, .int x4]) (st := []) dX3_squaresOfSet_17 cnX3_50 rfl rfl (Nat.le_of_ble_eq_true rfl) h (fun r M1 h => ?_)
    obtain ⟨v1, rfl, h⟩ := h
    refine r_if_eq (tgt := 33) dX3_squaresOfSet_20 (by decide) (fun c_20 => ?_) (fun c_20 => ?_)
    · replace h := h.1 c_20
      refine r_iinc (v := J 1) dX3_squaresOfSet_33 rfl rfl (by decide) rfl ?_
      refine r_goto (tgt := 5) dX3_squaresOfSet_36 (by decide) ?_
      exact h
    · replace h := h.2 c_20
      refine r_iload_n dX3_squaresOfSet_23 rfl rfl ?_
      refine r_aload_n dX3_squaresOfSet_24 rfl rfl ?_
      refine r_iload dX3_squaresOfSet_25 rfl ?_
      refine r_iload_n dX3_squaresOfSet_27 rfl rfl ?_
      refine r_callV (as := [.int x4, .int x2]) (st := [.int x3]) dX3_squaresOfSet_28 cvX3_62 rfl rfl rfl rfl (Nat.le_of_ble_eq_true rfl) h (fun r M2 h => ?_)
      obtain ⟨v2, rfl, h⟩ := h
      refine r_ior dX3_squaresOfSet_31 ?_
      refine r_istore_n dX3_squaresOfSet_32 rfl (by decide) rfl ?_
      refine r_iinc (v := J 1) dX3_squaresOfSet_33 rfl rfl (by decide) rfl ?_
      refine r_goto (tgt := 5) dX3_squaresOfSet_36 (by decide) ?_
      exact h
theorem e_X3_squaresOfSet {d : Nat} {M : Mem} {Q : Post} {x1 x2 : Int32} (h : R none (d + 1) mX3_squaresOfSet 5 [.ref 1, .int x1, .int x2, .int (J 0), .int (J 0)] [] M Q) : Mt (d + 1) mX3_squaresOfSet [.ref 1, .int x1, .int x2] M Q := Mt.of (k := 2) (by decide +kernel) (okR (okI (okI okN))) (Nat.le_of_ble_eq_true rfl) rfl (b_X3_squaresOfSet_0 h)
set_option maxRecDepth 100000 in
set_option maxHeartbeats 4000000 in
theorem b_X3_isLainOn_0 {d : Nat} {M : Mem} {Q : Post} {x1 x2 : Int32} (h : (Mt d mX3_squaresOfSet [.ref 1, .int (M 1 7), .int x1] M (ri fun v1 M1 => (((v1 &&& (x2 <<< ((J 6) &&& 31))) = 0 → Q (some (J 0)) M1) ∧ (¬ (v1 &&& (x2 <<< ((J 6) &&& 31))) = 0 → Q (some (J 1)) M1))))) : R none (d + 1) mX3_isLainOn 0 [.ref 1, .int x1, .int x2] [] M Q := by
  refine r_aload_n dX3_isLainOn_0 rfl rfl ?_
  refine r_aload_n dX3_isLainOn_1 rfl rfl ?_
  refine r_getI dX3_isLainOn_2 flX3_34 rfl rfl ?_
  refine r_iload_n dX3_isLainOn_5 rfl rfl ?_
  refine r_callV (as := [.int (M 1 7), .int x1]) (st := []) dX3_isLainOn_6 cvX3_65 rfl rfl rfl rfl (Nat.le_of_ble_eq_true rfl) h (fun r M1 h => ?_)
  obtain ⟨v1, rfl, h⟩ := h
  refine r_iload_n dX3_isLainOn_9 rfl rfl ?_
  refine r_bipush (v := J 6) dX3_isLainOn_10 (by decide +kernel) ?_
  refine r_ishl dX3_isLainOn_12 ?_
  refine r_iand dX3_isLainOn_13 ?_
  refine r_if_eq (tgt := 21) dX3_isLainOn_14 (by decide) (fun c_14 => ?_) (fun c_14 => ?_)
  · replace h := h.1 c_14
    refine r_iconst (v := J 0) dX3_isLainOn_21 rfl ?_
    exact r_ret dX3_isLainOn_22 rfl nb0 h
  · replace h := h.2 c_14
    refine r_iconst (v := J 1) dX3_isLainOn_17 rfl ?_
    refine r_goto (tgt := 22) dX3_isLainOn_18 (by decide) ?_
    exact r_ret dX3_isLainOn_22 rfl nb1 h
theorem e_X3_isLainOn {d : Nat} {M : Mem} {Q : Post} {x1 x2 : Int32} (h : (Mt d mX3_squaresOfSet [.ref 1, .int (M 1 7), .int x1] M (ri fun v1 M1 => (((v1 &&& (x2 <<< ((J 6) &&& 31))) = 0 → Q (some (J 0)) M1) ∧ (¬ (v1 &&& (x2 <<< ((J 6) &&& 31))) = 0 → Q (some (J 1)) M1))))) : Mt (d + 1) mX3_isLainOn [.ref 1, .int x1, .int x2] M Q := Mt.of (k := 0) (by decide +kernel) (okR (okI (okI okN))) (Nat.le_of_ble_eq_true rfl) rfl (b_X3_isLainOn_0 h)
set_option maxRecDepth 100000 in
set_option maxHeartbeats 4000000 in
theorem b_X3_blockersOf_0 {d : Nat} {M : Mem} {Q : Post} {x1 x2 : Int32} (h : R none (d + 1) mX3_blockersOf 8 [.ref 1, .int x1, .int x2, .int (J 0), .int (J 0), .int (J 0), .null, .null] [] M Q) : R none (d + 1) mX3_blockersOf 0 [.ref 1, .int x1, .int x2, .null, .null, .null, .null, .null] [] M Q := by
  refine r_iconst (v := J 0) dX3_blockersOf_0 rfl ?_
  refine r_istore_n dX3_blockersOf_1 rfl (by decide) rfl ?_
  refine r_iconst (v := J 0) dX3_blockersOf_2 rfl ?_
  refine r_istore dX3_blockersOf_3 (by decide) rfl ?_
  refine r_iconst (v := J 0) dX3_blockersOf_5 rfl ?_
  refine r_istore dX3_blockersOf_6 (by decide) rfl ?_
  exact h
set_option maxRecDepth 100000 in
set_option maxHeartbeats 4000000 in
theorem b_X3_blockersOf_8 {d : Nat} {M : Mem} {Q : Post} {x1 x2 x3 x4 x5 : Int32} (h : (((J 24) ≤ x5 → (Mt d mX3_lyingBeside [.ref 1, .int x1] M (ri fun v1 M1 => Q (some (x3 &&& v1)) M1))) ∧ (¬ (J 24) ≤ x5 → ((¬ x2 = (J 3) → (Mt d mX3_squaresOf [.ref 1, .int x1, .int ((J (-6)) + x5)] M (ri fun v2 M2 => (Mt d mX4_stepX [.int x2] M2 (ri fun v3 M3 => ((¬ v3 = 0 → (Mt d mX3_sweptAlong [.int v2, .int x2] M3 (ri fun v4 M4 => (Mt d mX3_piecesOn [.ref 1, .int v4, .int ((J (-6)) + x5)] M4 (ri fun v5 M5 => R none (d + 1) mX3_blockersOf 8 [.ref 1, .int x1, .int x2, .int (x3 ||| v5), .int v4, .int (x5 + J 1), .null, .null] [] M5 Q))))) ∧ (v3 = 0 → (Mt d mX3_piecesOn [.ref 1, .int (x4 ||| v2), .int ((J (-6)) + x5)] M3 (ri fun v6 M6 => R none (d + 1) mX3_blockersOf 8 [.ref 1, .int x1, .int x2, .int (x3 ||| v6), .int (x4 ||| v2), .int (x5 + J 1), .null, .null] [] M6 Q))))))))) ∧ (x2 = (J 3) → (Mt d mX3_squaresOf [.ref 1, .int x1, .int ((J 17) - x5)] M (ri fun v7 M7 => (Mt d mX4_stepX [.int x2] M7 (ri fun v8 M8 => ((¬ v8 = 0 → (Mt d mX3_sweptAlong [.int v7, .int x2] M8 (ri fun v9 M9 => (Mt d mX3_piecesOn [.ref 1, .int v9, .int ((J 17) - x5)] M9 (ri fun v10 M10 => R none (d + 1) mX3_blockersOf 8 [.ref 1, .int x1, .int x2, .int (x3 ||| v10), .int v9, .int (x5 + J 1), .null, .null] [] M10 Q))))) ∧ (v8 = 0 → (Mt d mX3_piecesOn [.ref 1, .int (x4 ||| v7), .int ((J 17) - x5)] M8 (ri fun v11 M11 => R none (d + 1) mX3_blockersOf 8 [.ref 1, .int x1, .int x2, .int (x3 ||| v11), .int (x4 ||| v7), .int (x5 + J 1), .null, .null] [] M11 Q))))))))))))) : R none (d + 1) mX3_blockersOf 8 [.ref 1, .int x1, .int x2, .int x3, .int x4, .int x5, .null, .null] [] M Q := by
  refine r_iload dX3_blockersOf_8 rfl ?_
  refine r_bipush (v := J 24) dX3_blockersOf_10 (by decide +kernel) ?_
  refine r_icmp_ge (tgt := 84) dX3_blockersOf_12 (by decide) (fun c_12 => ?_) (fun c_12 => ?_)
  · replace h := h.1 c_12
    refine r_iload_n dX3_blockersOf_84 rfl rfl ?_
    refine r_aload_n dX3_blockersOf_85 rfl rfl ?_
    refine r_iload_n dX3_blockersOf_86 rfl rfl ?_
    refine r_callV (as := [.int x1]) (st := [.int x3]) dX3_blockersOf_87 cvX3_77 rfl rfl rfl rfl (Nat.le_of_ble_eq_true rfl) h (fun r M1 h => ?_)
    obtain ⟨v1, rfl, h⟩ := h
    refine r_iand dX3_blockersOf_90 ?_
    exact r_ret dX3_blockersOf_91 rfl rfl h
  · replace h := h.2 c_12
    refine r_iload_n dX3_blockersOf_15 rfl rfl ?_
    refine r_iconst (v := J 3) dX3_blockersOf_16 rfl ?_
    refine r_icmp_ne (tgt := 28) dX3_blockersOf_17 (by decide) (fun c_17 => ?_) (fun c_17 => ?_)
    · replace h := h.1 c_17
      refine r_bipush (v := J (-6)) dX3_blockersOf_28 (by decide +kernel) ?_
      refine r_iload dX3_blockersOf_30 rfl ?_
      refine r_iadd dX3_blockersOf_32 ?_
      refine r_istore dX3_blockersOf_33 (by decide) rfl ?_
      refine r_aload_n dX3_blockersOf_35 rfl rfl ?_
      refine r_iload_n dX3_blockersOf_36 rfl rfl ?_
      refine r_iload dX3_blockersOf_37 rfl ?_
      refine r_callV (as := [.int x1, .int ((J (-6)) + x5)]) (st := []) dX3_blockersOf_39 cvX3_62 rfl rfl rfl rfl (Nat.le_of_ble_eq_true rfl) h (fun r M2 h => ?_)
      obtain ⟨v2, rfl, h⟩ := h
      refine r_istore dX3_blockersOf_42 (by decide) rfl ?_
      refine r_iload_n dX3_blockersOf_44 rfl rfl ?_
      refine r_callN (as := [.int x2]) (st := []) dX3_blockersOf_45 cnX3_68 rfl rfl (Nat.le_of_ble_eq_true rfl) h (fun r M3 h => ?_)
      obtain ⟨v3, rfl, h⟩ := h
      refine r_if_ne (tgt := 59) dX3_blockersOf_48 (by decide) (fun c_48 => ?_) (fun c_48 => ?_)
      · replace h := h.1 c_48
        refine r_iload dX3_blockersOf_59 rfl ?_
        refine r_iload_n dX3_blockersOf_61 rfl rfl ?_
        refine r_callS (as := [.int v2, .int x2]) (st := []) dX3_blockersOf_62 csX3_71 rfl rfl (Nat.le_of_ble_eq_true rfl) h (fun r M4 h => ?_)
        obtain ⟨v4, rfl, h⟩ := h
        refine r_istore dX3_blockersOf_65 (by decide) rfl ?_
        refine r_iload_n dX3_blockersOf_67 rfl rfl ?_
        refine r_aload_n dX3_blockersOf_68 rfl rfl ?_
        refine r_iload dX3_blockersOf_69 rfl ?_
        refine r_iload dX3_blockersOf_71 rfl ?_
        refine r_callV (as := [.int v4, .int ((J (-6)) + x5)]) (st := [.int x3]) dX3_blockersOf_73 cvX3_74 rfl rfl rfl rfl (Nat.le_of_ble_eq_true rfl) h (fun r M5 h => ?_)
        obtain ⟨v5, rfl, h⟩ := h
        refine r_ior dX3_blockersOf_76 ?_
        refine r_istore_n dX3_blockersOf_77 rfl (by decide) rfl ?_
        refine r_iinc (v := J 1) dX3_blockersOf_78 rfl rfl (by decide) rfl ?_
        refine r_goto (tgt := 8) dX3_blockersOf_81 (by decide) ?_
        refine r_kill [false, false, false, false, false, false, true, true] rfl ?_
        exact h
      · replace h := h.2 c_48
        refine r_iload dX3_blockersOf_51 rfl ?_
        refine r_iload dX3_blockersOf_53 rfl ?_
        refine r_ior dX3_blockersOf_55 ?_
        refine r_goto (tgt := 65) dX3_blockersOf_56 (by decide) ?_
        refine r_istore dX3_blockersOf_65 (by decide) rfl ?_
        refine r_iload_n dX3_blockersOf_67 rfl rfl ?_
        refine r_aload_n dX3_blockersOf_68 rfl rfl ?_
        refine r_iload dX3_blockersOf_69 rfl ?_
        refine r_iload dX3_blockersOf_71 rfl ?_
        refine r_callV (as := [.int (x4 ||| v2), .int ((J (-6)) + x5)]) (st := [.int x3]) dX3_blockersOf_73 cvX3_74 rfl rfl rfl rfl (Nat.le_of_ble_eq_true rfl) h (fun r M6 h => ?_)
        obtain ⟨v6, rfl, h⟩ := h
        refine r_ior dX3_blockersOf_76 ?_
        refine r_istore_n dX3_blockersOf_77 rfl (by decide) rfl ?_
        refine r_iinc (v := J 1) dX3_blockersOf_78 rfl rfl (by decide) rfl ?_
        refine r_goto (tgt := 8) dX3_blockersOf_81 (by decide) ?_
        refine r_kill [false, false, false, false, false, false, true, true] rfl ?_
        exact h
    · replace h := h.2 c_17
      refine r_bipush (v := J 17) dX3_blockersOf_20 (by decide +kernel) ?_
      refine r_iload dX3_blockersOf_22 rfl ?_
      refine r_isub dX3_blockersOf_24 ?_
      refine r_goto (tgt := 33) dX3_blockersOf_25 (by decide) ?_
      refine r_istore dX3_blockersOf_33 (by decide) rfl ?_
      refine r_aload_n dX3_blockersOf_35 rfl rfl ?_
      refine r_iload_n dX3_blockersOf_36 rfl rfl ?_
      refine r_iload dX3_blockersOf_37 rfl ?_
      refine r_callV (as := [.int x1, .int ((J 17) - x5)]) (st := []) dX3_blockersOf_39 cvX3_62 rfl rfl rfl rfl (Nat.le_of_ble_eq_true rfl) h (fun r M7 h => ?_)
      obtain ⟨v7, rfl, h⟩ := h
      refine r_istore dX3_blockersOf_42 (by decide) rfl ?_
      refine r_iload_n dX3_blockersOf_44 rfl rfl ?_
      refine r_callN (as := [.int x2]) (st := []) dX3_blockersOf_45 cnX3_68 rfl rfl (Nat.le_of_ble_eq_true rfl) h (fun r M8 h => ?_)
      obtain ⟨v8, rfl, h⟩ := h
      refine r_if_ne (tgt := 59) dX3_blockersOf_48 (by decide) (fun c_48 => ?_) (fun c_48 => ?_)
      · replace h := h.1 c_48
        refine r_iload dX3_blockersOf_59 rfl ?_
        refine r_iload_n dX3_blockersOf_61 rfl rfl ?_
        refine r_callS (as := [.int v7, .int x2]) (st := []) dX3_blockersOf_62 csX3_71 rfl rfl (Nat.le_of_ble_eq_true rfl) h (fun r M9 h => ?_)
        obtain ⟨v9, rfl, h⟩ := h
        refine r_istore dX3_blockersOf_65 (by decide) rfl ?_
        refine r_iload_n dX3_blockersOf_67 rfl rfl ?_
        refine r_aload_n dX3_blockersOf_68 rfl rfl ?_
        refine r_iload dX3_blockersOf_69 rfl ?_
        refine r_iload dX3_blockersOf_71 rfl ?_
        refine r_callV (as := [.int v9, .int ((J 17) - x5)]) (st := [.int x3]) dX3_blockersOf_73 cvX3_74 rfl rfl rfl rfl (Nat.le_of_ble_eq_true rfl) h (fun r M10 h => ?_)
        obtain ⟨v10, rfl, h⟩ := h
        refine r_ior dX3_blockersOf_76 ?_
        refine r_istore_n dX3_blockersOf_77 rfl (by decide) rfl ?_
        refine r_iinc (v := J 1) dX3_blockersOf_78 rfl rfl (by decide) rfl ?_
        refine r_goto (tgt := 8) dX3_blockersOf_81 (by decide) ?_
        refine r_kill [false, false, false, false, false, false, true, true] rfl ?_
        exact h
      · replace h := h.2 c_48
        refine r_iload dX3_blockersOf_51 rfl ?_
        refine r_iload dX3_blockersOf_53 rfl ?_
        refine r_ior dX3_blockersOf_55 ?_
        refine r_goto (tgt := 65) dX3_blockersOf_56 (by decide) ?_
        refine r_istore dX3_blockersOf_65 (by decide) rfl ?_
        refine r_iload_n dX3_blockersOf_67 rfl rfl ?_
        refine r_aload_n dX3_blockersOf_68 rfl rfl ?_
        refine r_iload dX3_blockersOf_69 rfl ?_
        refine r_iload dX3_blockersOf_71 rfl ?_
        refine r_callV (as := [.int (x4 ||| v7), .int ((J 17) - x5)]) (st := [.int x3]) dX3_blockersOf_73 cvX3_74 rfl rfl rfl rfl (Nat.le_of_ble_eq_true rfl) h (fun r M11 h => ?_)
        obtain ⟨v11, rfl, h⟩ := h
        refine r_ior dX3_blockersOf_76 ?_
        refine r_istore_n dX3_blockersOf_77 rfl (by decide) rfl ?_
        refine r_iinc (v := J 1) dX3_blockersOf_78 rfl rfl (by decide) rfl ?_
        refine r_goto (tgt := 8) dX3_blockersOf_81 (by decide) ?_
        refine r_kill [false, false, false, false, false, false, true, true] rfl ?_
        exact h
theorem e_X3_blockersOf {d : Nat} {M : Mem} {Q : Post} {x1 x2 : Int32} (h : R none (d + 1) mX3_blockersOf 8 [.ref 1, .int x1, .int x2, .int (J 0), .int (J 0), .int (J 0), .null, .null] [] M Q) : Mt (d + 1) mX3_blockersOf [.ref 1, .int x1, .int x2] M Q := Mt.of (k := 5) (by decide +kernel) (okR (okI (okI okN))) (Nat.le_of_ble_eq_true rfl) rfl (b_X3_blockersOf_0 h)
set_option maxRecDepth 100000 in
set_option maxHeartbeats 4000000 in
theorem b_X3_sweptAlong_0 {d : Nat} {M : Mem} {Q : Post} {x0 x1 : Int32} (h : R none (d + 1) mX3_sweptAlong 4 [.null, .int x1, .int x0, .int (J 1)] [] M Q) : R none (d + 1) mX3_sweptAlong 0 [.int x0, .int x1, .null, .null] [] M Q := by
  refine r_iload_n dX3_sweptAlong_0 rfl rfl ?_
  refine r_istore_n dX3_sweptAlong_1 rfl (by decide) rfl ?_
  refine r_iconst (v := J 1) dX3_sweptAlong_2 rfl ?_
  refine r_istore_n dX3_sweptAlong_3 rfl (by decide) rfl ?_
  refine r_kill [true, false, false, false] rfl ?_
  exact h
set_option maxRecDepth 100000 in
set_option maxHeartbeats 4000000 in
theorem b_X3_sweptAlong_4 {d : Nat} {M : Mem} {Q : Post} {x1 x2 x3 : Int32} (h : (((J 24) ≤ x3 → Q (some x2) M) ∧ (¬ (J 24) ≤ x3 → ((¬ x1 = 0 → R none (d + 1) mX3_sweptAlong 4 [.null, .int x1, .int (x2 ||| (ushr x2 (J 1))), .int (x3 + J 1)] [] M Q) ∧ (x1 = 0 → R none (d + 1) mX3_sweptAlong 4 [.null, .int x1, .int (x2 ||| (x2 <<< ((J 1) &&& 31))), .int (x3 + J 1)] [] M Q))))) : R none (d + 1) mX3_sweptAlong 4 [.null, .int x1, .int x2, .int x3] [] M Q := by
  refine r_iload_n dX3_sweptAlong_4 rfl rfl ?_
  refine r_bipush (v := J 24) dX3_sweptAlong_5 (by decide +kernel) ?_
  refine r_icmp_ge (tgt := 32) dX3_sweptAlong_7 (by decide) (fun c_7 => ?_) (fun c_7 => ?_)
  · replace h := h.1 c_7
    refine r_iload_n dX3_sweptAlong_32 rfl rfl ?_
    exact r_ret dX3_sweptAlong_33 rfl rfl h
  · replace h := h.2 c_7
    refine r_iload_n dX3_sweptAlong_10 rfl rfl ?_
    refine r_iload_n dX3_sweptAlong_11 rfl rfl ?_
    refine r_if_ne (tgt := 21) dX3_sweptAlong_12 (by decide) (fun c_12 => ?_) (fun c_12 => ?_)
    · replace h := h.1 c_12
      refine r_iload_n dX3_sweptAlong_21 rfl rfl ?_
      refine r_iconst (v := J 1) dX3_sweptAlong_22 rfl ?_
      refine r_iushr dX3_sweptAlong_23 ?_
      refine r_ior dX3_sweptAlong_24 ?_
      refine r_istore_n dX3_sweptAlong_25 rfl (by decide) rfl ?_
      refine r_iinc (v := J 1) dX3_sweptAlong_26 rfl rfl (by decide) rfl ?_
      refine r_goto (tgt := 4) dX3_sweptAlong_29 (by decide) ?_
      exact h
    · replace h := h.2 c_12
      refine r_iload_n dX3_sweptAlong_15 rfl rfl ?_
      refine r_iconst (v := J 1) dX3_sweptAlong_16 rfl ?_
      refine r_ishl dX3_sweptAlong_17 ?_
      refine r_goto (tgt := 24) dX3_sweptAlong_18 (by decide) ?_
      refine r_ior dX3_sweptAlong_24 ?_
      refine r_istore_n dX3_sweptAlong_25 rfl (by decide) rfl ?_
      refine r_iinc (v := J 1) dX3_sweptAlong_26 rfl rfl (by decide) rfl ?_
      refine r_goto (tgt := 4) dX3_sweptAlong_29 (by decide) ?_
      exact h
theorem e_X3_sweptAlong {d : Nat} {M : Mem} {Q : Post} {x0 x1 : Int32} (h : R none (d + 1) mX3_sweptAlong 4 [.null, .int x1, .int x0, .int (J 1)] [] M Q) : Mt (d + 1) mX3_sweptAlong [.int x0, .int x1] M Q := Mt.of (k := 2) (by decide +kernel) (okI (okI okN)) (Nat.le_of_ble_eq_true rfl) rfl (b_X3_sweptAlong_0 h)
set_option maxRecDepth 100000 in
set_option maxHeartbeats 4000000 in
theorem b_X3_piecesOn_0 {d : Nat} {M : Mem} {Q : Post} {x1 x2 : Int32} (h : R none (d + 1) mX3_piecesOn 5 [.ref 1, .int x1, .int x2, .int (J 0), .int (J 0)] [] M Q) : R none (d + 1) mX3_piecesOn 0 [.ref 1, .int x1, .int x2, .null, .null] [] M Q := by
  refine r_iconst (v := J 0) dX3_piecesOn_0 rfl ?_
  refine r_istore_n dX3_piecesOn_1 rfl (by decide) rfl ?_
  refine r_iconst (v := J 0) dX3_piecesOn_2 rfl ?_
  refine r_istore dX3_piecesOn_3 (by decide) rfl ?_
  exact h
set_option maxRecDepth 100000 in
set_option maxHeartbeats 4000000 in
theorem b_X3_piecesOn_5 {d : Nat} {M : Mem} {Q : Post} {x1 x2 x3 x4 : Int32} (h : (((M 1 6) ≤ x4 → Q (some x3) M) ∧ (¬ (M 1 6) ≤ x4 → (Mt d mX3_squaresOf [.ref 1, .int x4, .int x2] M (ri fun v1 M1 => (((v1 &&& x1) = 0 → R none (d + 1) mX3_piecesOn 5 [.ref 1, .int x1, .int x2, .int x3, .int (x4 + J 1)] [] M1 Q) ∧ (¬ (v1 &&& x1) = 0 → R none (d + 1) mX3_piecesOn 5 [.ref 1, .int x1, .int x2, .int (x3 ||| ((J 1) <<< (x4 &&& 31))), .int (x4 + J 1)] [] M1 Q))))))) : R none (d + 1) mX3_piecesOn 5 [.ref 1, .int x1, .int x2, .int x3, .int x4] [] M Q := by
  refine r_iload dX3_piecesOn_5 rfl ?_
  refine r_aload_n dX3_piecesOn_7 rfl rfl ?_
  refine r_getI dX3_piecesOn_8 flX3_31 rfl rfl ?_
  refine r_icmp_ge (tgt := 39) dX3_piecesOn_11 (by decide) (fun c_11 => ?_) (fun c_11 => ?_)
  · replace h := h.1 c_11
    refine r_iload_n dX3_piecesOn_39 rfl rfl ?_
    exact r_ret dX3_piecesOn_40 rfl rfl h
  · replace h := h.2 c_11
    refine r_aload_n dX3_piecesOn_14 rfl rfl ?_
    refine r_iload dX3_piecesOn_15 rfl ?_
    refine r_iload_n dX3_piecesOn_17 rfl rfl ?_
    refine r_callV (as := [.int x4, .int x2]) (st := []) dX3_piecesOn_18 cvX3_62 rfl rfl rfl rfl (Nat.le_of_ble_eq_true rfl) h (fun r M1 h => ?_)
    obtain ⟨v1, rfl, h⟩ := h
    refine r_iload_n dX3_piecesOn_21 rfl rfl ?_
    refine r_iand dX3_piecesOn_22 ?_
    refine r_if_eq (tgt := 33) dX3_piecesOn_23 (by decide) (fun c_23 => ?_) (fun c_23 => ?_)
    · replace h := h.1 c_23
      refine r_iinc (v := J 1) dX3_piecesOn_33 rfl rfl (by decide) rfl ?_
      refine r_goto (tgt := 5) dX3_piecesOn_36 (by decide) ?_
      exact h
    · replace h := h.2 c_23
      refine r_iload_n dX3_piecesOn_26 rfl rfl ?_
      refine r_iconst (v := J 1) dX3_piecesOn_27 rfl ?_
      refine r_iload dX3_piecesOn_28 rfl ?_
      refine r_ishl dX3_piecesOn_30 ?_
      refine r_ior dX3_piecesOn_31 ?_
      refine r_istore_n dX3_piecesOn_32 rfl (by decide) rfl ?_
      refine r_iinc (v := J 1) dX3_piecesOn_33 rfl rfl (by decide) rfl ?_
      refine r_goto (tgt := 5) dX3_piecesOn_36 (by decide) ?_
      exact h
theorem e_X3_piecesOn {d : Nat} {M : Mem} {Q : Post} {x1 x2 : Int32} (h : R none (d + 1) mX3_piecesOn 5 [.ref 1, .int x1, .int x2, .int (J 0), .int (J 0)] [] M Q) : Mt (d + 1) mX3_piecesOn [.ref 1, .int x1, .int x2] M Q := Mt.of (k := 2) (by decide +kernel) (okR (okI (okI okN))) (Nat.le_of_ble_eq_true rfl) rfl (b_X3_piecesOn_0 h)
