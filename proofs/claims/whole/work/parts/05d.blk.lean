set_option maxRecDepth 100000 in
set_option maxHeartbeats 4000000 in
theorem b_X5_in_0 {d : Nat} {M : Mem} {Q : Post} {x0 x1 x2 : Int32} (h : ((x0 < x1 → Q (some (J 0)) M) ∧ (¬ x0 < x1 → ((x2 < x0 → Q (some (J 0)) M) ∧ (¬ x2 < x0 → Q (some (J 1)) M))))) : R none (d + 1) mX5_in 0 [.int x0, .int x1, .int x2] [] M Q := by
  refine r_iload_n dX5_in_0 rfl rfl ?_
  refine r_iload_n dX5_in_1 rfl rfl ?_
  refine r_icmp_lt (tgt := 14) dX5_in_2 (by decide) (fun c_2 => ?_) (fun c_2 => ?_)
  · replace h := h.1 c_2
    refine r_iconst (v := J 0) dX5_in_14 rfl ?_
    exact r_ret dX5_in_15 rfl nb0 h
  · replace h := h.2 c_2
    refine r_iload_n dX5_in_5 rfl rfl ?_
    refine r_iload_n dX5_in_6 rfl rfl ?_
    refine r_icmp_gt (tgt := 14) dX5_in_7 (by decide) (fun c_7 => ?_) (fun c_7 => ?_)
    · replace h := h.1 c_7
      refine r_iconst (v := J 0) dX5_in_14 rfl ?_
      exact r_ret dX5_in_15 rfl nb0 h
    · replace h := h.2 c_7
      refine r_iconst (v := J 1) dX5_in_10 rfl ?_
      refine r_goto (tgt := 15) dX5_in_11 (by decide) ?_
      exact r_ret dX5_in_15 rfl nb1 h
theorem e_X5_in {d : Nat} {M : Mem} {Q : Post} {x0 x1 x2 : Int32} (h : ((x0 < x1 → Q (some (J 0)) M) ∧ (¬ x0 < x1 → ((x2 < x0 → Q (some (J 0)) M) ∧ (¬ x2 < x0 → Q (some (J 1)) M))))) : Mt (d + 1) mX5_in [.int x0, .int x1, .int x2] M Q := Mt.of (k := 0) (by decide +kernel) (okI (okI (okI okN))) (Nat.le_of_ble_eq_true rfl) rfl (b_X5_in_0 h)
set_option maxRecDepth 100000 in
set_option maxHeartbeats 4000000 in
theorem b_X5_isPiece_0 {d : Nat} {M : Mem} {Q : Post} {x1 : Int32} (h : (Mt d mX5_in [.int x1, .int (J 0), .int ((M 18 3) - (J 1))] M (ri fun v1 M1 => ((v1 = J 0 ∨ v1 = J 1) ∧ Q (some v1) M1)))) : R none (d + 1) mX5_isPiece 0 [.ref 18, .int x1] [] M Q := by
  refine r_iload_n dX5_isPiece_0 rfl rfl ?_
  refine r_iconst (v := J 0) dX5_isPiece_1 rfl ?_
  refine r_aload_n dX5_isPiece_2 rfl rfl ?_
  refine r_getI dX5_isPiece_3 flX5_60 rfl rfl ?_
  refine r_iconst (v := J 1) dX5_isPiece_6 rfl ?_
  refine r_isub dX5_isPiece_7 ?_
  refine r_callS (as := [.int x1, .int (J 0), .int ((M 18 3) - (J 1))]) (st := []) dX5_isPiece_8 csX5_63 rfl rfl (Nat.le_of_ble_eq_true rfl) h (fun r M1 h => ?_)
  obtain ⟨v1, rfl, h⟩ := h
  exact r_ret dX5_isPiece_11 rfl (nbz h.1) h.2
theorem e_X5_isPiece {d : Nat} {M : Mem} {Q : Post} {x1 : Int32} (h : (Mt d mX5_in [.int x1, .int (J 0), .int ((M 18 3) - (J 1))] M (ri fun v1 M1 => ((v1 = J 0 ∨ v1 = J 1) ∧ Q (some v1) M1)))) : Mt (d + 1) mX5_isPiece [.ref 18, .int x1] M Q := Mt.of (k := 0) (by decide +kernel) (okR (okI okN)) (Nat.le_of_ble_eq_true rfl) rfl (b_X5_isPiece_0 h)
set_option maxRecDepth 100000 in
set_option maxHeartbeats 4000000 in
theorem b_X5_isSpot_0 {d : Nat} {M : Mem} {Q : Post} {x0 x1 : Int32} (h : (Mt d mX5_in [.int x0, .int (J (-6)), .int (J 13)] M (ri fun v1 M1 => ((v1 = 0 → Q (some (J 0)) M1) ∧ (¬ v1 = 0 → (Mt d mX5_in [.int x1, .int (J (-6)), .int (J 13)] M1 (ri fun v2 M2 => ((v2 = 0 → Q (some (J 0)) M2) ∧ (¬ v2 = 0 → Q (some (J 1)) M2))))))))) : R none (d + 1) mX5_isSpot 0 [.int x0, .int x1] [] M Q := by
  refine r_iload_n dX5_isSpot_0 rfl rfl ?_
  refine r_bipush (v := J (-6)) dX5_isSpot_1 (by decide +kernel) ?_
  refine r_bipush (v := J 13) dX5_isSpot_3 (by decide +kernel) ?_
  refine r_callS (as := [.int x0, .int (J (-6)), .int (J 13)]) (st := []) dX5_isSpot_5 csX5_63 rfl rfl (Nat.le_of_ble_eq_true rfl) h (fun r M1 h => ?_)
  obtain ⟨v1, rfl, h⟩ := h
  refine r_if_eq (tgt := 26) dX5_isSpot_8 (by decide) (fun c_8 => ?_) (fun c_8 => ?_)
  · replace h := h.1 c_8
    refine r_iconst (v := J 0) dX5_isSpot_26 rfl ?_
    exact r_ret dX5_isSpot_27 rfl nb0 h
  · replace h := h.2 c_8
    refine r_iload_n dX5_isSpot_11 rfl rfl ?_
    refine r_bipush (v := J (-6)) dX5_isSpot_12 (by decide +kernel) ?_
    refine r_bipush (v := J 13) dX5_isSpot_14 (by decide +kernel) ?_
    refine r_callS (as := [.int x1, .int (J (-6)), .int (J 13)]) (st := []) dX5_isSpot_16 csX5_63 rfl rfl (Nat.le_of_ble_eq_true rfl) h (fun r M2 h => ?_)
    obtain ⟨v2, rfl, h⟩ := h
    refine r_if_eq (tgt := 26) dX5_isSpot_19 (by decide) (fun c_19 => ?_) (fun c_19 => ?_)
    · replace h := h.1 c_19
      refine r_iconst (v := J 0) dX5_isSpot_26 rfl ?_
      exact r_ret dX5_isSpot_27 rfl nb0 h
    · replace h := h.2 c_19
      refine r_iconst (v := J 1) dX5_isSpot_22 rfl ?_
      refine r_goto (tgt := 27) dX5_isSpot_23 (by decide) ?_
      exact r_ret dX5_isSpot_27 rfl nb1 h
theorem e_X5_isSpot {d : Nat} {M : Mem} {Q : Post} {x0 x1 : Int32} (h : (Mt d mX5_in [.int x0, .int (J (-6)), .int (J 13)] M (ri fun v1 M1 => ((v1 = 0 → Q (some (J 0)) M1) ∧ (¬ v1 = 0 → (Mt d mX5_in [.int x1, .int (J (-6)), .int (J 13)] M1 (ri fun v2 M2 => ((v2 = 0 → Q (some (J 0)) M2) ∧ (¬ v2 = 0 → Q (some (J 1)) M2))))))))) : Mt (d + 1) mX5_isSpot [.int x0, .int x1] M Q := Mt.of (k := 0) (by decide +kernel) (okI (okI okN)) (Nat.le_of_ble_eq_true rfl) rfl (b_X5_isSpot_0 h)
set_option maxRecDepth 100000 in
set_option maxHeartbeats 4000000 in
theorem b_X5_board_0 {d : Nat} {M : Mem} {Q : Post} {x1 x2 : Int32} (h : (Mt d mX5_in [.int x1, .int (J 1), .int (J 12)] M (ri fun v1 M1 => ((v1 = 0 → Q (some (J (-1))) M1) ∧ (¬ v1 = 0 → (Mt d mX5_in [.int x2, .int (J 1), .int (J 10)] M1 (ri fun v2 M2 => ((¬ v2 = 0 → R none (d + 1) mX5_board 34 [.ref 18, .int x1, .int x2, .int (J 0)] [] (mset (mset M2 18 0 x1) 18 1 x2) Q) ∧ (v2 = 0 → Q (some (J (-1))) M2))))))))) : R none (d + 1) mX5_board 0 [.ref 18, .int x1, .int x2, .null] [] M Q := by
  refine r_iload_n dX5_board_0 rfl rfl ?_
  refine r_iconst (v := J 1) dX5_board_1 rfl ?_
  refine r_bipush (v := J 12) dX5_board_2 (by decide +kernel) ?_
  refine r_callS (as := [.int x1, .int (J 1), .int (J 12)]) (st := []) dX5_board_4 csX5_63 rfl rfl (Nat.le_of_ble_eq_true rfl) h (fun r M1 h => ?_)
  obtain ⟨v1, rfl, h⟩ := h
  refine r_if_eq (tgt := 20) dX5_board_7 (by decide) (fun c_7 => ?_) (fun c_7 => ?_)
  · replace h := h.1 c_7
    refine r_iconst (v := J (-1)) dX5_board_20 rfl ?_
    exact r_ret dX5_board_21 rfl rfl h
  · replace h := h.2 c_7
    refine r_iload_n dX5_board_10 rfl rfl ?_
    refine r_iconst (v := J 1) dX5_board_11 rfl ?_
    refine r_bipush (v := J 10) dX5_board_12 (by decide +kernel) ?_
    refine r_callS (as := [.int x2, .int (J 1), .int (J 10)]) (st := []) dX5_board_14 csX5_63 rfl rfl (Nat.le_of_ble_eq_true rfl) h (fun r M2 h => ?_)
    obtain ⟨v2, rfl, h⟩ := h
    refine r_if_ne (tgt := 22) dX5_board_17 (by decide) (fun c_17 => ?_) (fun c_17 => ?_)
    · replace h := h.1 c_17
      refine r_aload_n dX5_board_22 rfl rfl ?_
      refine r_iload_n dX5_board_23 rfl rfl ?_
      refine r_putI dX5_board_24 fwX5_7 rfl rfl ?_
      refine r_aload_n dX5_board_27 rfl rfl ?_
      refine r_iload_n dX5_board_28 rfl rfl ?_
      refine r_putI dX5_board_29 fwX5_13 rfl rfl ?_
      refine r_iconst (v := J 0) dX5_board_32 rfl ?_
      refine r_istore_n dX5_board_33 rfl (by decide) rfl ?_
      exact h
    · replace h := h.2 c_17
      refine r_iconst (v := J (-1)) dX5_board_20 rfl ?_
      exact r_ret dX5_board_21 rfl rfl h
set_option maxRecDepth 100000 in
set_option maxHeartbeats 4000000 in
theorem b_X5_board_34 {d : Nat} {M : Mem} {Q : Post} {x1 x2 x3 : Int32} (h : (((J 10) ≤ x3 → R none (d + 1) mX5_board 55 [.ref 18, .int x1, .int x2, .int (J 0)] [] M Q) ∧ (¬ (J 10) ≤ x3 → (vp_in x3 10 ∧ R none (d + 1) mX5_board 34 [.ref 18, .int x1, .int x2, .int (x3 + J 1)] [] (mset M 19 x3.toNatClampNeg (J 0)) Q)))) : R none (d + 1) mX5_board 34 [.ref 18, .int x1, .int x2, .int x3] [] M Q := by
  refine r_iload_n dX5_board_34 rfl rfl ?_
  refine r_bipush (v := J 10) dX5_board_35 (by decide +kernel) ?_
  refine r_icmp_ge (tgt := 53) dX5_board_37 (by decide) (fun c_37 => ?_) (fun c_37 => ?_)
  · replace h := h.1 c_37
    refine r_iconst (v := J 0) dX5_board_53 rfl ?_
    refine r_istore_n dX5_board_54 rfl (by decide) rfl ?_
    exact h
  · replace h := h.2 c_37
    refine r_aload_n dX5_board_40 rfl rfl ?_
    refine r_getR dX5_board_41 flX5_16 rfl rfl ?_
    refine r_iload_n dX5_board_44 rfl rfl ?_
    refine r_iconst (v := J 0) dX5_board_45 rfl ?_
    refine r_iast dX5_board_46 rfl h.1 ?_
    replace h := h.2
    refine r_iinc (v := J 1) dX5_board_47 rfl rfl (by decide) rfl ?_
    refine r_goto (tgt := 34) dX5_board_50 (by decide) ?_
    exact h
set_option maxRecDepth 100000 in
set_option maxHeartbeats 4000000 in
theorem b_X5_board_55 {d : Nat} {M : Mem} {Q : Post} {x1 x2 x3 : Int32} (h : (((J 8) ≤ x3 → Q (some (x1 * x2)) (mset M 18 10 (J (-1)))) ∧ (¬ (J 8) ≤ x3 → (vp_in x3 8 ∧ R none (d + 1) mX5_board 55 [.ref 18, .int x1, .int x2, .int (x3 + J 1)] [] (mset M 23 x3.toNatClampNeg (J 0)) Q)))) : R none (d + 1) mX5_board 55 [.ref 18, .int x1, .int x2, .int x3] [] M Q := by
  refine r_iload_n dX5_board_55 rfl rfl ?_
  refine r_bipush (v := J 8) dX5_board_56 (by decide +kernel) ?_
  refine r_icmp_ge (tgt := 74) dX5_board_58 (by decide) (fun c_58 => ?_) (fun c_58 => ?_)
  · replace h := h.1 c_58
    refine r_aload_n dX5_board_74 rfl rfl ?_
    refine r_iconst (v := J (-1)) dX5_board_75 rfl ?_
    refine r_putI dX5_board_76 fwX5_39 rfl rfl ?_
    refine r_iload_n dX5_board_79 rfl rfl ?_
    refine r_iload_n dX5_board_80 rfl rfl ?_
    refine r_imul dX5_board_81 ?_
    exact r_ret dX5_board_82 rfl rfl h
  · replace h := h.2 c_58
    refine r_aload_n dX5_board_61 rfl rfl ?_
    refine r_getR dX5_board_62 flX5_29 rfl rfl ?_
    refine r_iload_n dX5_board_65 rfl rfl ?_
    refine r_iconst (v := J 0) dX5_board_66 rfl ?_
    refine r_zast dX5_board_67 rfl (by decide +kernel) h.1 ?_
    replace h := h.2
    refine r_iinc (v := J 1) dX5_board_68 rfl rfl (by decide) rfl ?_
    refine r_goto (tgt := 55) dX5_board_71 (by decide) ?_
    exact h
theorem e_X5_board {d : Nat} {M : Mem} {Q : Post} {x1 x2 : Int32} (h : (Mt d mX5_in [.int x1, .int (J 1), .int (J 12)] M (ri fun v1 M1 => ((v1 = 0 → Q (some (J (-1))) M1) ∧ (¬ v1 = 0 → (Mt d mX5_in [.int x2, .int (J 1), .int (J 10)] M1 (ri fun v2 M2 => ((¬ v2 = 0 → R none (d + 1) mX5_board 34 [.ref 18, .int x1, .int x2, .int (J 0)] [] (mset (mset M2 18 0 x1) 18 1 x2) Q) ∧ (v2 = 0 → Q (some (J (-1))) M2))))))))) : Mt (d + 1) mX5_board [.ref 18, .int x1, .int x2] M Q := Mt.of (k := 1) (by decide +kernel) (okR (okI (okI okN))) (Nat.le_of_ble_eq_true rfl) rfl (b_X5_board_0 h)
set_option maxRecDepth 100000 in
set_option maxHeartbeats 4000000 in
theorem b_X5_has_0 {d : Nat} {M : Mem} {Q : Post} {x1 x2 x3 x4 x5 : Int32} (h : (Mt d mX5_in [.int (x4 - x2), .int (J 0), .int (J 4)] M (ri fun v1 M1 => ((v1 = 0 → Q (some (J 0)) M1) ∧ (¬ v1 = 0 → (Mt d mX5_in [.int (x5 - x3), .int (J 0), .int (J 4)] M1 (ri fun v2 M2 => ((v2 = 0 → Q (some (J 0)) M2) ∧ (¬ v2 = 0 → (vp_in x1 8 ∧ ((¬ (((M2 20 x1.toNatClampNeg) >>> (((((J 5) * (x5 - x3)) + x4) - x2) &&& 31)) &&& (J 1)) = (J 1) → Q (some (J 0)) M2) ∧ ((((M2 20 x1.toNatClampNeg) >>> (((((J 5) * (x5 - x3)) + x4) - x2) &&& 31)) &&& (J 1)) = (J 1) → Q (some (J 1)) M2)))))))))))) : R none (d + 1) mX5_has 0 [.ref 18, .int x1, .int x2, .int x3, .int x4, .int x5] [] M Q := by
  refine r_iload dX5_has_0 rfl ?_
  refine r_iload_n dX5_has_2 rfl rfl ?_
  refine r_isub dX5_has_3 ?_
  refine r_iconst (v := J 0) dX5_has_4 rfl ?_
  refine r_iconst (v := J 4) dX5_has_5 rfl ?_
  refine r_callS (as := [.int (x4 - x2), .int (J 0), .int (J 4)]) (st := []) dX5_has_6 csX5_63 rfl rfl (Nat.le_of_ble_eq_true rfl) h (fun r M1 h => ?_)
  obtain ⟨v1, rfl, h⟩ := h
  refine r_if_eq (tgt := 52) dX5_has_9 (by decide) (fun c_9 => ?_) (fun c_9 => ?_)
  · replace h := h.1 c_9
    refine r_iconst (v := J 0) dX5_has_52 rfl ?_
    exact r_ret dX5_has_53 rfl nb0 h
  · replace h := h.2 c_9
    refine r_iload dX5_has_12 rfl ?_
    refine r_iload_n dX5_has_14 rfl rfl ?_
    refine r_isub dX5_has_15 ?_
    refine r_iconst (v := J 0) dX5_has_16 rfl ?_
    refine r_iconst (v := J 4) dX5_has_17 rfl ?_
    refine r_callS (as := [.int (x5 - x3), .int (J 0), .int (J 4)]) (st := []) dX5_has_18 csX5_63 rfl rfl (Nat.le_of_ble_eq_true rfl) h (fun r M2 h => ?_)
    obtain ⟨v2, rfl, h⟩ := h
    refine r_if_eq (tgt := 52) dX5_has_21 (by decide) (fun c_21 => ?_) (fun c_21 => ?_)
    · replace h := h.1 c_21
      refine r_iconst (v := J 0) dX5_has_52 rfl ?_
      exact r_ret dX5_has_53 rfl nb0 h
    · replace h := h.2 c_21
      refine r_aload_n dX5_has_24 rfl rfl ?_
      refine r_getR dX5_has_25 flX5_20 rfl rfl ?_
      refine r_iload_n dX5_has_28 rfl rfl ?_
      refine r_iald dX5_has_29 rfl h.1 ?_
      replace h := h.2
      refine r_iconst (v := J 5) dX5_has_30 rfl ?_
      refine r_iload dX5_has_31 rfl ?_
      refine r_iload_n dX5_has_33 rfl rfl ?_
      refine r_isub dX5_has_34 ?_
      refine r_imul dX5_has_35 ?_
      refine r_iload dX5_has_36 rfl ?_
      refine r_iadd dX5_has_38 ?_
      refine r_iload_n dX5_has_39 rfl rfl ?_
      refine r_isub dX5_has_40 ?_
      refine r_ishr dX5_has_41 ?_
      refine r_iconst (v := J 1) dX5_has_42 rfl ?_
      refine r_iand dX5_has_43 ?_
      refine r_iconst (v := J 1) dX5_has_44 rfl ?_
      refine r_icmp_ne (tgt := 52) dX5_has_45 (by decide) (fun c_45 => ?_) (fun c_45 => ?_)
      · replace h := h.1 c_45
        refine r_iconst (v := J 0) dX5_has_52 rfl ?_
        exact r_ret dX5_has_53 rfl nb0 h
      · replace h := h.2 c_45
        refine r_iconst (v := J 1) dX5_has_48 rfl ?_
        refine r_goto (tgt := 53) dX5_has_49 (by decide) ?_
        exact r_ret dX5_has_53 rfl nb1 h
theorem e_X5_has {d : Nat} {M : Mem} {Q : Post} {x1 x2 x3 x4 x5 : Int32} (h : (Mt d mX5_in [.int (x4 - x2), .int (J 0), .int (J 4)] M (ri fun v1 M1 => ((v1 = 0 → Q (some (J 0)) M1) ∧ (¬ v1 = 0 → (Mt d mX5_in [.int (x5 - x3), .int (J 0), .int (J 4)] M1 (ri fun v2 M2 => ((v2 = 0 → Q (some (J 0)) M2) ∧ (¬ v2 = 0 → (vp_in x1 8 ∧ ((¬ (((M2 20 x1.toNatClampNeg) >>> (((((J 5) * (x5 - x3)) + x4) - x2) &&& 31)) &&& (J 1)) = (J 1) → Q (some (J 0)) M2) ∧ ((((M2 20 x1.toNatClampNeg) >>> (((((J 5) * (x5 - x3)) + x4) - x2) &&& 31)) &&& (J 1)) = (J 1) → Q (some (J 1)) M2)))))))))))) : Mt (d + 1) mX5_has [.ref 18, .int x1, .int x2, .int x3, .int x4, .int x5] M Q := Mt.of (k := 0) (by decide +kernel) (okR (okI (okI (okI (okI (okI okN)))))) (Nat.le_of_ble_eq_true rfl) rfl (b_X5_has_0 h)
set_option maxRecDepth 100000 in
set_option maxHeartbeats 4000000 in
theorem b_X5_isOnBoard_0 {d : Nat} {M : Mem} {Q : Post} {x1 x2 : Int32} (h : (Mt d mX5_in [.int x1, .int (J 0), .int ((M 18 0) - (J 1))] M (ri fun v1 M1 => ((v1 = 0 → Q (some (J 0)) M1) ∧ (¬ v1 = 0 → (Mt d mX5_in [.int x2, .int (J 0), .int ((M1 18 1) - (J 1))] M1 (ri fun v2 M2 => ((v2 = 0 → Q (some (J 0)) M2) ∧ (¬ v2 = 0 → Q (some (J 1)) M2))))))))) : R none (d + 1) mX5_isOnBoard 0 [.ref 18, .int x1, .int x2] [] M Q := by
  refine r_iload_n dX5_isOnBoard_0 rfl rfl ?_
  refine r_iconst (v := J 0) dX5_isOnBoard_1 rfl ?_
  refine r_aload_n dX5_isOnBoard_2 rfl rfl ?_
  refine r_getI dX5_isOnBoard_3 flX5_7 rfl rfl ?_
  refine r_iconst (v := J 1) dX5_isOnBoard_6 rfl ?_
  refine r_isub dX5_isOnBoard_7 ?_
  refine r_callS (as := [.int x1, .int (J 0), .int ((M 18 0) - (J 1))]) (st := []) dX5_isOnBoard_8 csX5_63 rfl rfl (Nat.le_of_ble_eq_true rfl) h (fun r M1 h => ?_)
  obtain ⟨v1, rfl, h⟩ := h
  refine r_if_eq (tgt := 32) dX5_isOnBoard_11 (by decide) (fun c_11 => ?_) (fun c_11 => ?_)
  · replace h := h.1 c_11
    refine r_iconst (v := J 0) dX5_isOnBoard_32 rfl ?_
    exact r_ret dX5_isOnBoard_33 rfl nb0 h
  · replace h := h.2 c_11
    refine r_iload_n dX5_isOnBoard_14 rfl rfl ?_
    refine r_iconst (v := J 0) dX5_isOnBoard_15 rfl ?_
    refine r_aload_n dX5_isOnBoard_16 rfl rfl ?_
    refine r_getI dX5_isOnBoard_17 flX5_13 rfl rfl ?_
    refine r_iconst (v := J 1) dX5_isOnBoard_20 rfl ?_
    refine r_isub dX5_isOnBoard_21 ?_
    refine r_callS (as := [.int x2, .int (J 0), .int ((M1 18 1) - (J 1))]) (st := []) dX5_isOnBoard_22 csX5_63 rfl rfl (Nat.le_of_ble_eq_true rfl) h (fun r M2 h => ?_)
    obtain ⟨v2, rfl, h⟩ := h
    refine r_if_eq (tgt := 32) dX5_isOnBoard_25 (by decide) (fun c_25 => ?_) (fun c_25 => ?_)
    · replace h := h.1 c_25
      refine r_iconst (v := J 0) dX5_isOnBoard_32 rfl ?_
      exact r_ret dX5_isOnBoard_33 rfl nb0 h
    · replace h := h.2 c_25
      refine r_iconst (v := J 1) dX5_isOnBoard_28 rfl ?_
      refine r_goto (tgt := 33) dX5_isOnBoard_29 (by decide) ?_
      exact r_ret dX5_isOnBoard_33 rfl nb1 h
theorem e_X5_isOnBoard {d : Nat} {M : Mem} {Q : Post} {x1 x2 : Int32} (h : (Mt d mX5_in [.int x1, .int (J 0), .int ((M 18 0) - (J 1))] M (ri fun v1 M1 => ((v1 = 0 → Q (some (J 0)) M1) ∧ (¬ v1 = 0 → (Mt d mX5_in [.int x2, .int (J 0), .int ((M1 18 1) - (J 1))] M1 (ri fun v2 M2 => ((v2 = 0 → Q (some (J 0)) M2) ∧ (¬ v2 = 0 → Q (some (J 1)) M2))))))))) : Mt (d + 1) mX5_isOnBoard [.ref 18, .int x1, .int x2] M Q := Mt.of (k := 0) (by decide +kernel) (okR (okI (okI okN))) (Nat.le_of_ble_eq_true rfl) rfl (b_X5_isOnBoard_0 h)
set_option maxRecDepth 100000 in
set_option maxHeartbeats 4000000 in
theorem b_X5_walls_0 {d : Nat} {M : Mem} {Q : Post} {x1 x2 : Int32} (h : (Mt d mX5_in [.int x1, .int (J 0), .int ((M 18 1) - (J 1))] M (ri fun v1 M1 => ((v1 = 0 → Q (some (J (-1))) M1) ∧ (¬ v1 = 0 → (Mt d mX5_in [.int x2, .int (J 0), .int (((J 1) <<< ((M1 18 0) &&& 31)) - (J 1))] M1 (ri fun v2 M2 => ((¬ v2 = 0 → R none (d + 1) mX5_walls 34 [.ref 18, .int x1, .int x2, .int (J 0), .null] [] M2 Q) ∧ (v2 = 0 → Q (some (J (-1))) M2))))))))) : R none (d + 1) mX5_walls 0 [.ref 18, .int x1, .int x2, .null, .null] [] M Q := by
  refine r_iload_n dX5_walls_0 rfl rfl ?_
  refine r_iconst (v := J 0) dX5_walls_1 rfl ?_
  refine r_aload_n dX5_walls_2 rfl rfl ?_
  refine r_getI dX5_walls_3 flX5_13 rfl rfl ?_
  refine r_iconst (v := J 1) dX5_walls_6 rfl ?_
  refine r_isub dX5_walls_7 ?_
  refine r_callS (as := [.int x1, .int (J 0), .int ((M 18 1) - (J 1))]) (st := []) dX5_walls_8 csX5_63 rfl rfl (Nat.le_of_ble_eq_true rfl) h (fun r M1 h => ?_)
  obtain ⟨v1, rfl, h⟩ := h
  refine r_if_eq (tgt := 30) dX5_walls_11 (by decide) (fun c_11 => ?_) (fun c_11 => ?_)
  · replace h := h.1 c_11
    refine r_iconst (v := J (-1)) dX5_walls_30 rfl ?_
    exact r_ret dX5_walls_31 rfl rfl h
  · replace h := h.2 c_11
    refine r_iload_n dX5_walls_14 rfl rfl ?_
    refine r_iconst (v := J 0) dX5_walls_15 rfl ?_
    refine r_iconst (v := J 1) dX5_walls_16 rfl ?_
    refine r_aload_n dX5_walls_17 rfl rfl ?_
    refine r_getI dX5_walls_18 flX5_7 rfl rfl ?_
    refine r_ishl dX5_walls_21 ?_
    refine r_iconst (v := J 1) dX5_walls_22 rfl ?_
    refine r_isub dX5_walls_23 ?_
    refine r_callS (as := [.int x2, .int (J 0), .int (((J 1) <<< ((M1 18 0) &&& 31)) - (J 1))]) (st := []) dX5_walls_24 csX5_63 rfl rfl (Nat.le_of_ble_eq_true rfl) h (fun r M2 h => ?_)
    obtain ⟨v2, rfl, h⟩ := h
    refine r_if_ne (tgt := 32) dX5_walls_27 (by decide) (fun c_27 => ?_) (fun c_27 => ?_)
    · replace h := h.1 c_27
      refine r_iconst (v := J 0) dX5_walls_32 rfl ?_
      refine r_istore_n dX5_walls_33 rfl (by decide) rfl ?_
      exact h
    · replace h := h.2 c_27
      refine r_iconst (v := J (-1)) dX5_walls_30 rfl ?_
      exact r_ret dX5_walls_31 rfl rfl h
set_option maxRecDepth 100000 in
set_option maxHeartbeats 4000000 in
theorem b_X5_walls_34 {d : Nat} {M : Mem} {Q : Post} {x1 x2 x3 : Int32} (h : (((M 18 0) ≤ x3 → (vp_in x1 10 ∧ Q (some x2) (mset M 19 x1.toNatClampNeg x2))) ∧ (¬ (M 18 0) ≤ x3 → R none (d + 1) mX5_walls 45 [.ref 18, .int x1, .int x2, .int x3, .int (J 0)] [] M Q))) : R none (d + 1) mX5_walls 34 [.ref 18, .int x1, .int x2, .int x3, .null] [] M Q := by
  refine r_iload_n dX5_walls_34 rfl rfl ?_
  refine r_aload_n dX5_walls_35 rfl rfl ?_
  refine r_getI dX5_walls_36 flX5_7 rfl rfl ?_
  refine r_icmp_ge (tgt := 113) dX5_walls_39 (by decide) (fun c_39 => ?_) (fun c_39 => ?_)
  · replace h := h.1 c_39
    refine r_aload_n dX5_walls_113 rfl rfl ?_
    refine r_getR dX5_walls_114 flX5_16 rfl rfl ?_
    refine r_iload_n dX5_walls_117 rfl rfl ?_
    refine r_iload_n dX5_walls_118 rfl rfl ?_
    refine r_iast dX5_walls_119 rfl h.1 ?_
    replace h := h.2
    refine r_iload_n dX5_walls_120 rfl rfl ?_
    exact r_ret dX5_walls_121 rfl rfl h
  · replace h := h.2 c_39
    refine r_iconst (v := J 0) dX5_walls_42 rfl ?_
    refine r_istore dX5_walls_43 (by decide) rfl ?_
    exact h
set_option maxRecDepth 100000 in
set_option maxHeartbeats 4000000 in
theorem b_X5_walls_45 {d : Nat} {M : Mem} {Q : Post} {x1 x2 x3 x4 : Int32} (h : (((M 18 3) ≤ x4 → R none (d + 1) mX5_walls 34 [.ref 18, .int x1, .int x2, .int (x3 + J 1), .null] [] M Q) ∧ (¬ (M 18 3) ≤ x4 → ((¬ ((x2 >>> (x3 &&& 31)) &&& (J 1)) = (J 1) → R none (d + 1) mX5_walls 45 [.ref 18, .int x1, .int x2, .int x3, .int (x4 + J 1)] [] M Q) ∧ (((x2 >>> (x3 &&& 31)) &&& (J 1)) = (J 1) → (vp_in x4 8 ∧ (((M 23 x4.toNatClampNeg) = 0 → R none (d + 1) mX5_walls 45 [.ref 18, .int x1, .int x2, .int x3, .int (x4 + J 1)] [] M Q) ∧ (¬ (M 23 x4.toNatClampNeg) = 0 → (vp_in x4 8 ∧ (vp_in x4 8 ∧ (Mt d mX5_has [.ref 18, .int x4, .int (M 24 x4.toNatClampNeg), .int (M 25 x4.toNatClampNeg), .int x3, .int x1] M (ri fun v1 M1 => ((v1 = 0 → R none (d + 1) mX5_walls 45 [.ref 18, .int x1, .int x2, .int x3, .int (x4 + J 1)] [] M1 Q) ∧ (¬ v1 = 0 → Q (some (J (-2))) M1)))))))))))))) : R none (d + 1) mX5_walls 45 [.ref 18, .int x1, .int x2, .int x3, .int x4] [] M Q := by
  refine r_iload dX5_walls_45 rfl ?_
  refine r_aload_n dX5_walls_47 rfl rfl ?_
  refine r_getI dX5_walls_48 flX5_60 rfl rfl ?_
  refine r_icmp_ge (tgt := 107) dX5_walls_51 (by decide) (fun c_51 => ?_) (fun c_51 => ?_)
  · replace h := h.1 c_51
    refine r_iinc (v := J 1) dX5_walls_107 rfl rfl (by decide) rfl ?_
    refine r_goto (tgt := 34) dX5_walls_110 (by decide) ?_
    refine r_kill [false, false, false, false, true] rfl ?_
    exact h
  · replace h := h.2 c_51
    refine r_iload_n dX5_walls_54 rfl rfl ?_
    refine r_iload_n dX5_walls_55 rfl rfl ?_
    refine r_ishr dX5_walls_56 ?_
    refine r_iconst (v := J 1) dX5_walls_57 rfl ?_
    refine r_iand dX5_walls_58 ?_
    refine r_iconst (v := J 1) dX5_walls_59 rfl ?_
    refine r_icmp_ne (tgt := 101) dX5_walls_60 (by decide) (fun c_60 => ?_) (fun c_60 => ?_)
    · replace h := h.1 c_60
      refine r_iinc (v := J 1) dX5_walls_101 rfl rfl (by decide) rfl ?_
      refine r_goto (tgt := 45) dX5_walls_104 (by decide) ?_
      exact h
    · replace h := h.2 c_60
      refine r_aload_n dX5_walls_63 rfl rfl ?_
      refine r_getR dX5_walls_64 flX5_29 rfl rfl ?_
      refine r_iload dX5_walls_67 rfl ?_
      refine r_zald dX5_walls_69 rfl h.1 ?_
      replace h := h.2
      refine r_if_eq (tgt := 101) dX5_walls_70 (by decide) (fun c_70 => ?_) (fun c_70 => ?_)
      · replace h := h.1 c_70
        refine r_iinc (v := J 1) dX5_walls_101 rfl rfl (by decide) rfl ?_
        refine r_goto (tgt := 45) dX5_walls_104 (by decide) ?_
        exact h
      · replace h := h.2 c_70
        refine r_aload_n dX5_walls_73 rfl rfl ?_
        refine r_iload dX5_walls_74 rfl ?_
        refine r_aload_n dX5_walls_76 rfl rfl ?_
        refine r_getR dX5_walls_77 flX5_33 rfl rfl ?_
        refine r_iload dX5_walls_80 rfl ?_
        refine r_iald dX5_walls_82 rfl h.1 ?_
        replace h := h.2
        refine r_aload_n dX5_walls_83 rfl rfl ?_
        refine r_getR dX5_walls_84 flX5_36 rfl rfl ?_
        refine r_iload dX5_walls_87 rfl ?_
        refine r_iald dX5_walls_89 rfl h.1 ?_
        replace h := h.2
        refine r_iload_n dX5_walls_90 rfl rfl ?_
        refine r_iload_n dX5_walls_91 rfl rfl ?_
        refine r_callV (as := [.int x4, .int (M 24 x4.toNatClampNeg), .int (M 25 x4.toNatClampNeg), .int x3, .int x1]) (st := []) dX5_walls_92 cvX5_67 rfl rfl rfl rfl (Nat.le_of_ble_eq_true rfl) h (fun r M1 h => ?_)
        obtain ⟨v1, rfl, h⟩ := h
        refine r_if_eq (tgt := 101) dX5_walls_95 (by decide) (fun c_95 => ?_) (fun c_95 => ?_)
        · replace h := h.1 c_95
          refine r_iinc (v := J 1) dX5_walls_101 rfl rfl (by decide) rfl ?_
          refine r_goto (tgt := 45) dX5_walls_104 (by decide) ?_
          exact h
        · replace h := h.2 c_95
          refine r_bipush (v := J (-2)) dX5_walls_98 (by decide +kernel) ?_
          exact r_ret dX5_walls_100 rfl rfl h
theorem e_X5_walls {d : Nat} {M : Mem} {Q : Post} {x1 x2 : Int32} (h : (Mt d mX5_in [.int x1, .int (J 0), .int ((M 18 1) - (J 1))] M (ri fun v1 M1 => ((v1 = 0 → Q (some (J (-1))) M1) ∧ (¬ v1 = 0 → (Mt d mX5_in [.int x2, .int (J 0), .int (((J 1) <<< ((M1 18 0) &&& 31)) - (J 1))] M1 (ri fun v2 M2 => ((¬ v2 = 0 → R none (d + 1) mX5_walls 34 [.ref 18, .int x1, .int x2, .int (J 0), .null] [] M2 Q) ∧ (v2 = 0 → Q (some (J (-1))) M2))))))))) : Mt (d + 1) mX5_walls [.ref 18, .int x1, .int x2] M Q := Mt.of (k := 2) (by decide +kernel) (okR (okI (okI okN))) (Nat.le_of_ble_eq_true rfl) rfl (b_X5_walls_0 h)
set_option maxRecDepth 100000 in
set_option maxHeartbeats 4000000 in
theorem b_X5_piece_0 {d : Nat} {M : Mem} {Q : Post} {x1 : Int32} (h : (Mt d mX5_in [.int x1, .int (J 1), .int (J 33554431)] M (ri fun v1 M1 => ((¬ v1 = 0 → ((¬ (M1 18 3) = (J 8) → R none (d + 1) mX5_piece 26 [.ref 18, .null, .int x1, .null, .null, .null] [] M1 Q) ∧ ((M1 18 3) = (J 8) → Q (some (J (-3))) M1))) ∧ (v1 = 0 → Q (some (J (-1))) M1))))) : R none (d + 1) mX5_piece 0 [.ref 18, .int x1, .null, .null, .null, .null] [] M Q := by
  refine r_iload_n dX5_piece_0 rfl rfl ?_
  refine r_iconst (v := J 1) dX5_piece_1 rfl ?_
  refine r_ldc dX5_piece_2 kcX5_71 ?_
  refine r_callS (as := [.int x1, .int (J 1), .int (J 33554431)]) (st := []) dX5_piece_4 csX5_63 rfl rfl (Nat.le_of_ble_eq_true rfl) h (fun r M1 h => ?_)
  obtain ⟨v1, rfl, h⟩ := h
  refine r_if_ne (tgt := 12) dX5_piece_7 (by decide) (fun c_7 => ?_) (fun c_7 => ?_)
  · replace h := h.1 c_7
    refine r_aload_n dX5_piece_12 rfl rfl ?_
    refine r_getI dX5_piece_13 flX5_60 rfl rfl ?_
    refine r_bipush (v := J 8) dX5_piece_16 (by decide +kernel) ?_
    refine r_icmp_ne (tgt := 24) dX5_piece_18 (by decide) (fun c_18 => ?_) (fun c_18 => ?_)
    · replace h := h.1 c_18
      refine r_iload_n dX5_piece_24 rfl rfl ?_
      refine r_istore_n dX5_piece_25 rfl (by decide) rfl ?_
      refine r_kill [false, true, false, false, false, false] rfl ?_
      exact h
    · replace h := h.2 c_18
      refine r_bipush (v := J (-3)) dX5_piece_21 (by decide +kernel) ?_
      exact r_ret dX5_piece_23 rfl rfl h
  · replace h := h.2 c_7
    refine r_iconst (v := J (-1)) dX5_piece_10 rfl ?_
    exact r_ret dX5_piece_11 rfl rfl h
set_option maxRecDepth 100000 in
set_option maxHeartbeats 4000000 in
theorem b_X5_piece_26 {d : Nat} {M : Mem} {Q : Post} {x2 : Int32} (h : ((¬ (x2 &&& (J 31)) = 0 → R none (d + 1) mX5_piece 40 [.ref 18, .null, .int x2, .null, .null, .null] [] M Q) ∧ ((x2 &&& (J 31)) = 0 → R none (d + 1) mX5_piece 26 [.ref 18, .null, .int (x2 >>> ((J 5) &&& 31)), .null, .null, .null] [] M Q))) : R none (d + 1) mX5_piece 26 [.ref 18, .null, .int x2, .null, .null, .null] [] M Q := by
  refine r_iload_n dX5_piece_26 rfl rfl ?_
  refine r_bipush (v := J 31) dX5_piece_27 (by decide +kernel) ?_
  refine r_iand dX5_piece_29 ?_
  refine r_if_ne (tgt := 40) dX5_piece_30 (by decide) (fun c_30 => ?_) (fun c_30 => ?_)
  · replace h := h.1 c_30
    exact h
  · replace h := h.2 c_30
    refine r_iload_n dX5_piece_33 rfl rfl ?_
    refine r_iconst (v := J 5) dX5_piece_34 rfl ?_
    refine r_ishr dX5_piece_35 ?_
    refine r_istore_n dX5_piece_36 rfl (by decide) rfl ?_
    refine r_goto (tgt := 26) dX5_piece_37 (by decide) ?_
    exact h
set_option maxRecDepth 100000 in
set_option maxHeartbeats 4000000 in
theorem b_X5_piece_40 {d : Nat} {M : Mem} {Q : Post} {x2 : Int32} (h : ((¬ (x2 &&& (J 1082401)) = 0 → (vp_in (M 18 3) 8 ∧ R none (d + 1) mX5_piece 72 [.ref 18, .null, .int x2, .int (J 1), .int (J 1), .int (J 0)] [] (mset M 20 (M 18 3).toNatClampNeg x2) Q)) ∧ ((x2 &&& (J 1082401)) = 0 → R none (d + 1) mX5_piece 40 [.ref 18, .null, .int (x2 >>> ((J 1) &&& 31)), .null, .null, .null] [] M Q))) : R none (d + 1) mX5_piece 40 [.ref 18, .null, .int x2, .null, .null, .null] [] M Q := by
  refine r_iload_n dX5_piece_40 rfl rfl ?_
  refine r_ldc dX5_piece_41 kcX5_72 ?_
  refine r_iand dX5_piece_43 ?_
  refine r_if_ne (tgt := 54) dX5_piece_44 (by decide) (fun c_44 => ?_) (fun c_44 => ?_)
  · replace h := h.1 c_44
    refine r_aload_n dX5_piece_54 rfl rfl ?_
    refine r_getR dX5_piece_55 flX5_20 rfl rfl ?_
    refine r_aload_n dX5_piece_58 rfl rfl ?_
    refine r_getI dX5_piece_59 flX5_60 rfl rfl ?_
    refine r_iload_n dX5_piece_62 rfl rfl ?_
    refine r_iast dX5_piece_63 rfl h.1 ?_
    replace h := h.2
    refine r_iconst (v := J 1) dX5_piece_64 rfl ?_
    refine r_istore_n dX5_piece_65 rfl (by decide) rfl ?_
    refine r_iconst (v := J 1) dX5_piece_66 rfl ?_
    refine r_istore dX5_piece_67 (by decide) rfl ?_
    refine r_iconst (v := J 0) dX5_piece_69 rfl ?_
    refine r_istore dX5_piece_70 (by decide) rfl ?_
    exact h
  · replace h := h.2 c_44
    refine r_iload_n dX5_piece_47 rfl rfl ?_
    refine r_iconst (v := J 1) dX5_piece_48 rfl ?_
    refine r_ishr dX5_piece_49 ?_
    refine r_istore_n dX5_piece_50 rfl (by decide) rfl ?_
    refine r_goto (tgt := 40) dX5_piece_51 (by decide) ?_
    exact h
set_option maxRecDepth 100000 in
set_option maxHeartbeats 4000000 in
theorem b_X5_piece_72 {d : Nat} {M : Mem} {Q : Post} {x2 x3 x4 x5 : Int32} (h : (((J 25) ≤ x5 → (vp_in (M 18 3) 8 ∧ (vp_in ((mset M 21 (M 18 3).toNatClampNeg x3) 18 3) 8 ∧ (vp_in ((mset (mset M 21 (M 18 3).toNatClampNeg x3) 22 ((mset M 21 (M 18 3).toNatClampNeg x3) 18 3).toNatClampNeg x4) 18 3) 8 ∧ Q (some (((mset (mset (mset (mset M 21 (M 18 3).toNatClampNeg x3) 22 ((mset M 21 (M 18 3).toNatClampNeg x3) 18 3).toNatClampNeg x4) 23 ((mset (mset M 21 (M 18 3).toNatClampNeg x3) 22 ((mset M 21 (M 18 3).toNatClampNeg x3) 18 3).toNatClampNeg x4) 18 3).toNatClampNeg (J 0)) 18 3 (((mset (mset (mset M 21 (M 18 3).toNatClampNeg x3) 22 ((mset M 21 (M 18 3).toNatClampNeg x3) 18 3).toNatClampNeg x4) 23 ((mset (mset M 21 (M 18 3).toNatClampNeg x3) 22 ((mset M 21 (M 18 3).toNatClampNeg x3) 18 3).toNatClampNeg x4) 18 3).toNatClampNeg (J 0)) 18 3) + (J 1))) 18 3) - (J 1))) (mset (mset (mset (mset M 21 (M 18 3).toNatClampNeg x3) 22 ((mset M 21 (M 18 3).toNatClampNeg x3) 18 3).toNatClampNeg x4) 23 ((mset (mset M 21 (M 18 3).toNatClampNeg x3) 22 ((mset M 21 (M 18 3).toNatClampNeg x3) 18 3).toNatClampNeg x4) 18 3).toNatClampNeg (J 0)) 18 3 (((mset (mset (mset M 21 (M 18 3).toNatClampNeg x3) 22 ((mset M 21 (M 18 3).toNatClampNeg x3) 18 3).toNatClampNeg x4) 23 ((mset (mset M 21 (M 18 3).toNatClampNeg x3) 22 ((mset M 21 (M 18 3).toNatClampNeg x3) 18 3).toNatClampNeg x4) 18 3).toNatClampNeg (J 0)) 18 3) + (J 1))))))) ∧ (¬ (J 25) ≤ x5 → ((¬ ((x2 >>> (x5 &&& 31)) &&& (J 1)) = (J 1) → R none (d + 1) mX5_piece 72 [.ref 18, .null, .int x2, .int x3, .int x4, .int (x5 + J 1)] [] M Q) ∧ (((x2 >>> (x5 &&& 31)) &&& (J 1)) = (J 1) → ((((x5 - x5 / (J 5) * (J 5)) + (J 1)) ≤ x3 → R none (d + 1) mX5_piece 72 [.ref 18, .null, .int x2, .int x3, .int ((x5 / (J 5)) + (J 1)), .int (x5 + J 1)] [] M Q) ∧ (¬ ((x5 - x5 / (J 5) * (J 5)) + (J 1)) ≤ x3 → R none (d + 1) mX5_piece 72 [.ref 18, .null, .int x2, .int ((x5 - x5 / (J 5) * (J 5)) + (J 1)), .int ((x5 / (J 5)) + (J 1)), .int (x5 + J 1)] [] M Q))))))) : R none (d + 1) mX5_piece 72 [.ref 18, .null, .int x2, .int x3, .int x4, .int x5] [] M Q := by
  refine r_iload dX5_piece_72 rfl ?_
  refine r_bipush (v := J 25) dX5_piece_74 (by decide +kernel) ?_
  refine r_icmp_ge (tgt := 124) dX5_piece_76 (by decide) (fun c_76 => ?_) (fun c_76 => ?_)
  · replace h := h.1 c_76
    refine r_aload_n dX5_piece_124 rfl rfl ?_
    refine r_getR dX5_piece_125 flX5_23 rfl rfl ?_
    refine r_aload_n dX5_piece_128 rfl rfl ?_
    refine r_getI dX5_piece_129 flX5_60 rfl rfl ?_
    refine r_iload_n dX5_piece_132 rfl rfl ?_
    refine r_iast dX5_piece_133 rfl h.1 ?_
    replace h := h.2
    refine r_aload_n dX5_piece_134 rfl rfl ?_
    refine r_getR dX5_piece_135 flX5_26 rfl rfl ?_
    refine r_aload_n dX5_piece_138 rfl rfl ?_
    refine r_getI dX5_piece_139 flX5_60 rfl rfl ?_
    refine r_iload dX5_piece_142 rfl ?_
    refine r_iast dX5_piece_144 rfl h.1 ?_
    replace h := h.2
    refine r_aload_n dX5_piece_145 rfl rfl ?_
    refine r_getR dX5_piece_146 flX5_29 rfl rfl ?_
    refine r_aload_n dX5_piece_149 rfl rfl ?_
    refine r_getI dX5_piece_150 flX5_60 rfl rfl ?_
    refine r_iconst (v := J 0) dX5_piece_153 rfl ?_
    refine r_zast dX5_piece_154 rfl (by decide +kernel) h.1 ?_
    replace h := h.2
    refine r_aload_n dX5_piece_155 rfl rfl ?_
    refine r_dup dX5_piece_156 rfl ?_
    refine r_getI dX5_piece_157 flX5_60 rfl rfl ?_
    refine r_iconst (v := J 1) dX5_piece_160 rfl ?_
    refine r_iadd dX5_piece_161 ?_
    refine r_putI dX5_piece_162 fwX5_60 rfl rfl ?_
    refine r_aload_n dX5_piece_165 rfl rfl ?_
    refine r_getI dX5_piece_166 flX5_60 rfl rfl ?_
    refine r_iconst (v := J 1) dX5_piece_169 rfl ?_
    refine r_isub dX5_piece_170 ?_
    exact r_ret dX5_piece_171 rfl rfl h
  · replace h := h.2 c_76
    refine r_iload_n dX5_piece_79 rfl rfl ?_
    refine r_iload dX5_piece_80 rfl ?_
    refine r_ishr dX5_piece_82 ?_
    refine r_iconst (v := J 1) dX5_piece_83 rfl ?_
    refine r_iand dX5_piece_84 ?_
    refine r_iconst (v := J 1) dX5_piece_85 rfl ?_
    refine r_icmp_ne (tgt := 118) dX5_piece_86 (by decide) (fun c_86 => ?_) (fun c_86 => ?_)
    · replace h := h.1 c_86
      refine r_iinc (v := J 1) dX5_piece_118 rfl rfl (by decide) rfl ?_
      refine r_goto (tgt := 72) dX5_piece_121 (by decide) ?_
      exact h
    · replace h := h.2 c_86
      refine r_iload dX5_piece_89 rfl ?_
      refine r_iconst (v := J 5) dX5_piece_91 rfl ?_
      refine r_irem dX5_piece_92 (by decide +kernel) ?_
      refine r_iconst (v := J 1) dX5_piece_93 rfl ?_
      refine r_iadd dX5_piece_94 ?_
      refine r_iload_n dX5_piece_95 rfl rfl ?_
      refine r_icmp_le (tgt := 108) dX5_piece_96 (by decide) (fun c_96 => ?_) (fun c_96 => ?_)
      · replace h := h.1 c_96
        refine r_iload_n dX5_piece_108 rfl rfl ?_
        refine r_istore_n dX5_piece_109 rfl (by decide) rfl ?_
        refine r_iload dX5_piece_110 rfl ?_
        refine r_iconst (v := J 5) dX5_piece_112 rfl ?_
        refine r_idiv dX5_piece_113 (by decide +kernel) ?_
        refine r_iconst (v := J 1) dX5_piece_114 rfl ?_
        refine r_iadd dX5_piece_115 ?_
        refine r_istore dX5_piece_116 (by decide) rfl ?_
        refine r_iinc (v := J 1) dX5_piece_118 rfl rfl (by decide) rfl ?_
        refine r_goto (tgt := 72) dX5_piece_121 (by decide) ?_
        exact h
      · replace h := h.2 c_96
        refine r_iload dX5_piece_99 rfl ?_
        refine r_iconst (v := J 5) dX5_piece_101 rfl ?_
        refine r_irem dX5_piece_102 (by decide +kernel) ?_
        refine r_iconst (v := J 1) dX5_piece_103 rfl ?_
        refine r_iadd dX5_piece_104 ?_
        refine r_goto (tgt := 109) dX5_piece_105 (by decide) ?_
        refine r_istore_n dX5_piece_109 rfl (by decide) rfl ?_
        refine r_iload dX5_piece_110 rfl ?_
        refine r_iconst (v := J 5) dX5_piece_112 rfl ?_
        refine r_idiv dX5_piece_113 (by decide +kernel) ?_
        refine r_iconst (v := J 1) dX5_piece_114 rfl ?_
        refine r_iadd dX5_piece_115 ?_
        refine r_istore dX5_piece_116 (by decide) rfl ?_
        refine r_iinc (v := J 1) dX5_piece_118 rfl rfl (by decide) rfl ?_
        refine r_goto (tgt := 72) dX5_piece_121 (by decide) ?_
        exact h
theorem e_X5_piece {d : Nat} {M : Mem} {Q : Post} {x1 : Int32} (h : (Mt d mX5_in [.int x1, .int (J 1), .int (J 33554431)] M (ri fun v1 M1 => ((¬ v1 = 0 → ((¬ (M1 18 3) = (J 8) → R none (d + 1) mX5_piece 26 [.ref 18, .null, .int x1, .null, .null, .null] [] M1 Q) ∧ ((M1 18 3) = (J 8) → Q (some (J (-3))) M1))) ∧ (v1 = 0 → Q (some (J (-1))) M1))))) : Mt (d + 1) mX5_piece [.ref 18, .int x1] M Q := Mt.of (k := 4) (by decide +kernel) (okR (okI okN)) (Nat.le_of_ble_eq_true rfl) rfl (b_X5_piece_0 h)
set_option maxRecDepth 100000 in
set_option maxHeartbeats 4000000 in
theorem b_X5_stand_0 {d : Nat} {M : Mem} {Q : Post} {x1 x2 x3 : Int32} (h : R none (d + 1) mX5_stand 3 [.ref 18, .int x1, .int x2, .int x3, .int (J 0), .null, .null, .null] [] M Q) : R none (d + 1) mX5_stand 0 [.ref 18, .int x1, .int x2, .int x3, .null, .null, .null, .null] [] M Q := by
  refine r_iconst (v := J 0) dX5_stand_0 rfl ?_
  refine r_istore dX5_stand_1 (by decide) rfl ?_
  exact h
set_option maxRecDepth 100000 in
set_option maxHeartbeats 4000000 in
theorem b_X5_stand_3 {d : Nat} {M : Mem} {Q : Post} {x1 x2 x3 x4 : Int32} (h : (((J 25) ≤ x4 → Q (some (J 1)) M) ∧ (¬ (J 25) ≤ x4 → (vp_in x1 8 ∧ ((¬ (((M 20 x1.toNatClampNeg) >>> (x4 &&& 31)) &&& (J 1)) = (J 1) → R none (d + 1) mX5_stand 3 [.ref 18, .int x1, .int x2, .int x3, .int (x4 + J 1), .null, .null, .null] [] M Q) ∧ ((((M 20 x1.toNatClampNeg) >>> (x4 &&& 31)) &&& (J 1)) = (J 1) → (Mt d mX5_isOnBoard [.ref 18, .int (x2 + (x4 - x4 / (J 5) * (J 5))), .int (x3 + (x4 / (J 5)))] M (ri fun v1 M1 => ((v1 = 0 → R none (d + 1) mX5_stand 73 [.ref 18, .int x1, .int x2, .int x3, .int x4, .int (x2 + (x4 - x4 / (J 5) * (J 5))), .int (x3 + (x4 / (J 5))), .int (J 0)] [] M1 Q) ∧ (¬ v1 = 0 → (vp_in (x3 + (x4 / (J 5))) 10 ∧ ((¬ (((M1 19 (x3 + (x4 / (J 5))).toNatClampNeg) >>> ((x2 + (x4 - x4 / (J 5) * (J 5))) &&& 31)) &&& (J 1)) = (J 1) → R none (d + 1) mX5_stand 73 [.ref 18, .int x1, .int x2, .int x3, .int x4, .int (x2 + (x4 - x4 / (J 5) * (J 5))), .int (x3 + (x4 / (J 5))), .int (J 0)] [] M1 Q) ∧ ((((M1 19 (x3 + (x4 / (J 5))).toNatClampNeg) >>> ((x2 + (x4 - x4 / (J 5) * (J 5))) &&& 31)) &&& (J 1)) = (J 1) → Q (some (J 0)) M1))))))))))))) : R none (d + 1) mX5_stand 3 [.ref 18, .int x1, .int x2, .int x3, .int x4, .null, .null, .null] [] M Q := by
  refine r_iload dX5_stand_3 rfl ?_
  refine r_bipush (v := J 25) dX5_stand_5 (by decide +kernel) ?_
  refine r_icmp_ge (tgt := 139) dX5_stand_7 (by decide) (fun c_7 => ?_) (fun c_7 => ?_)
  · replace h := h.1 c_7
    refine r_iconst (v := J 1) dX5_stand_139 rfl ?_
    exact r_ret dX5_stand_140 rfl nb1 h
  · replace h := h.2 c_7
    refine r_aload_n dX5_stand_10 rfl rfl ?_
    refine r_getR dX5_stand_11 flX5_20 rfl rfl ?_
    refine r_iload_n dX5_stand_14 rfl rfl ?_
    refine r_iald dX5_stand_15 rfl h.1 ?_
    replace h := h.2
    refine r_iload dX5_stand_16 rfl ?_
    refine r_ishr dX5_stand_18 ?_
    refine r_iconst (v := J 1) dX5_stand_19 rfl ?_
    refine r_iand dX5_stand_20 ?_
    refine r_iconst (v := J 1) dX5_stand_21 rfl ?_
    refine r_icmp_ne (tgt := 133) dX5_stand_22 (by decide) (fun c_22 => ?_) (fun c_22 => ?_)
    · replace h := h.1 c_22
      refine r_iinc (v := J 1) dX5_stand_133 rfl rfl (by decide) rfl ?_
      refine r_goto (tgt := 3) dX5_stand_136 (by decide) ?_
      exact h
    · replace h := h.2 c_22
      refine r_iload_n dX5_stand_25 rfl rfl ?_
      refine r_iload dX5_stand_26 rfl ?_
      refine r_iconst (v := J 5) dX5_stand_28 rfl ?_
      refine r_irem dX5_stand_29 (by decide +kernel) ?_
      refine r_iadd dX5_stand_30 ?_
      refine r_istore dX5_stand_31 (by decide) rfl ?_
      refine r_iload_n dX5_stand_33 rfl rfl ?_
      refine r_iload dX5_stand_34 rfl ?_
      refine r_iconst (v := J 5) dX5_stand_36 rfl ?_
      refine r_idiv dX5_stand_37 (by decide +kernel) ?_
      refine r_iadd dX5_stand_38 ?_
      refine r_istore dX5_stand_39 (by decide) rfl ?_
      refine r_aload_n dX5_stand_41 rfl rfl ?_
      refine r_iload dX5_stand_42 rfl ?_
      refine r_iload dX5_stand_44 rfl ?_
      refine r_callV (as := [.int (x2 + (x4 - x4 / (J 5) * (J 5))), .int (x3 + (x4 / (J 5)))]) (st := []) dX5_stand_46 cvX5_73 rfl rfl rfl rfl (Nat.le_of_ble_eq_true rfl) h (fun r M1 h => ?_)
      obtain ⟨v1, rfl, h⟩ := h
      refine r_if_eq (tgt := 70) dX5_stand_49 (by decide) (fun c_49 => ?_) (fun c_49 => ?_)
      · replace h := h.1 c_49
        refine r_iconst (v := J 0) dX5_stand_70 rfl ?_
        refine r_istore dX5_stand_71 (by decide) rfl ?_
        exact h
      · replace h := h.2 c_49
        refine r_aload_n dX5_stand_52 rfl rfl ?_
        refine r_getR dX5_stand_53 flX5_16 rfl rfl ?_
        refine r_iload dX5_stand_56 rfl ?_
        refine r_iald dX5_stand_58 rfl h.1 ?_
        replace h := h.2
        refine r_iload dX5_stand_59 rfl ?_
        refine r_ishr dX5_stand_61 ?_
        refine r_iconst (v := J 1) dX5_stand_62 rfl ?_
        refine r_iand dX5_stand_63 ?_
        refine r_iconst (v := J 1) dX5_stand_64 rfl ?_
        refine r_icmp_ne (tgt := 70) dX5_stand_65 (by decide) (fun c_65 => ?_) (fun c_65 => ?_)
        · replace h := h.1 c_65
          refine r_iconst (v := J 0) dX5_stand_70 rfl ?_
          refine r_istore dX5_stand_71 (by decide) rfl ?_
          exact h
        · replace h := h.2 c_65
          refine r_iconst (v := J 0) dX5_stand_68 rfl ?_
          exact r_ret dX5_stand_69 rfl nb0 h
set_option maxRecDepth 100000 in
set_option maxHeartbeats 4000000 in
theorem b_X5_stand_73 {d : Nat} {M : Mem} {Q : Post} {x1 x2 x3 x4 x5 x6 x7 : Int32} (h : (((M 18 3) ≤ x7 → R none (d + 1) mX5_stand 3 [.ref 18, .int x1, .int x2, .int x3, .int (x4 + J 1), .null, .null, .null] [] M Q) ∧ (¬ (M 18 3) ≤ x7 → ((x7 = x1 → R none (d + 1) mX5_stand 73 [.ref 18, .int x1, .int x2, .int x3, .int x4, .int x5, .int x6, .int (x7 + J 1)] [] M Q) ∧ (¬ x7 = x1 → (vp_in x7 8 ∧ (((M 23 x7.toNatClampNeg) = 0 → R none (d + 1) mX5_stand 73 [.ref 18, .int x1, .int x2, .int x3, .int x4, .int x5, .int x6, .int (x7 + J 1)] [] M Q) ∧ (¬ (M 23 x7.toNatClampNeg) = 0 → (vp_in x7 8 ∧ (vp_in x7 8 ∧ (Mt d mX5_has [.ref 18, .int x7, .int (M 24 x7.toNatClampNeg), .int (M 25 x7.toNatClampNeg), .int x5, .int x6] M (ri fun v1 M1 => ((v1 = 0 → R none (d + 1) mX5_stand 73 [.ref 18, .int x1, .int x2, .int x3, .int x4, .int x5, .int x6, .int (x7 + J 1)] [] M1 Q) ∧ (¬ v1 = 0 → Q (some (J 0)) M1)))))))))))))) : R none (d + 1) mX5_stand 73 [.ref 18, .int x1, .int x2, .int x3, .int x4, .int x5, .int x6, .int x7] [] M Q := by
  refine r_iload dX5_stand_73 rfl ?_
  refine r_aload_n dX5_stand_75 rfl rfl ?_
  refine r_getI dX5_stand_76 flX5_60 rfl rfl ?_
  refine r_icmp_ge (tgt := 133) dX5_stand_79 (by decide) (fun c_79 => ?_) (fun c_79 => ?_)
  · replace h := h.1 c_79
    refine r_iinc (v := J 1) dX5_stand_133 rfl rfl (by decide) rfl ?_
    refine r_goto (tgt := 3) dX5_stand_136 (by decide) ?_
    refine r_kill [false, false, false, false, false, true, true, true] rfl ?_
    exact h
  · replace h := h.2 c_79
    refine r_iload dX5_stand_82 rfl ?_
    refine r_iload_n dX5_stand_84 rfl rfl ?_
    refine r_icmp_eq (tgt := 127) dX5_stand_85 (by decide) (fun c_85 => ?_) (fun c_85 => ?_)
    · replace h := h.1 c_85
      refine r_iinc (v := J 1) dX5_stand_127 rfl rfl (by decide) rfl ?_
      refine r_goto (tgt := 73) dX5_stand_130 (by decide) ?_
      exact h
    · replace h := h.2 c_85
      refine r_aload_n dX5_stand_88 rfl rfl ?_
      refine r_getR dX5_stand_89 flX5_29 rfl rfl ?_
      refine r_iload dX5_stand_92 rfl ?_
      refine r_zald dX5_stand_94 rfl h.1 ?_
      replace h := h.2
      refine r_if_eq (tgt := 127) dX5_stand_95 (by decide) (fun c_95 => ?_) (fun c_95 => ?_)
      · replace h := h.1 c_95
        refine r_iinc (v := J 1) dX5_stand_127 rfl rfl (by decide) rfl ?_
        refine r_goto (tgt := 73) dX5_stand_130 (by decide) ?_
        exact h
      · replace h := h.2 c_95
        refine r_aload_n dX5_stand_98 rfl rfl ?_
        refine r_iload dX5_stand_99 rfl ?_
        refine r_aload_n dX5_stand_101 rfl rfl ?_
        refine r_getR dX5_stand_102 flX5_33 rfl rfl ?_
        refine r_iload dX5_stand_105 rfl ?_
        refine r_iald dX5_stand_107 rfl h.1 ?_
        replace h := h.2
        refine r_aload_n dX5_stand_108 rfl rfl ?_
        refine r_getR dX5_stand_109 flX5_36 rfl rfl ?_
        refine r_iload dX5_stand_112 rfl ?_
        refine r_iald dX5_stand_114 rfl h.1 ?_
        replace h := h.2
        refine r_iload dX5_stand_115 rfl ?_
        refine r_iload dX5_stand_117 rfl ?_
        refine r_callV (as := [.int x7, .int (M 24 x7.toNatClampNeg), .int (M 25 x7.toNatClampNeg), .int x5, .int x6]) (st := []) dX5_stand_119 cvX5_67 rfl rfl rfl rfl (Nat.le_of_ble_eq_true rfl) h (fun r M1 h => ?_)
        obtain ⟨v1, rfl, h⟩ := h
        refine r_if_eq (tgt := 127) dX5_stand_122 (by decide) (fun c_122 => ?_) (fun c_122 => ?_)
        · replace h := h.1 c_122
          refine r_iinc (v := J 1) dX5_stand_127 rfl rfl (by decide) rfl ?_
          refine r_goto (tgt := 73) dX5_stand_130 (by decide) ?_
          exact h
        · replace h := h.2 c_122
          refine r_iconst (v := J 0) dX5_stand_125 rfl ?_
          exact r_ret dX5_stand_126 rfl nb0 h
theorem e_X5_stand {d : Nat} {M : Mem} {Q : Post} {x1 x2 x3 : Int32} (h : R none (d + 1) mX5_stand 3 [.ref 18, .int x1, .int x2, .int x3, .int (J 0), .null, .null, .null] [] M Q) : Mt (d + 1) mX5_stand [.ref 18, .int x1, .int x2, .int x3] M Q := Mt.of (k := 4) (by decide +kernel) (okR (okI (okI (okI okN)))) (Nat.le_of_ble_eq_true rfl) rfl (b_X5_stand_0 h)
set_option maxRecDepth 100000 in
set_option maxHeartbeats 4000000 in
theorem b_X5_onBoard_0 {d : Nat} {M : Mem} {Q : Post} {x1 x2 x3 : Int32} (h : R none (d + 1) mX5_onBoard 6 [.ref 18, .int x1, .int x2, .int x3, .int (J 0), .int (J 0)] [] M Q) : R none (d + 1) mX5_onBoard 0 [.ref 18, .int x1, .int x2, .int x3, .null, .null] [] M Q := by
  refine r_iconst (v := J 0) dX5_onBoard_0 rfl ?_
  refine r_istore dX5_onBoard_1 (by decide) rfl ?_
  refine r_iconst (v := J 0) dX5_onBoard_3 rfl ?_
  refine r_istore dX5_onBoard_4 (by decide) rfl ?_
  exact h
set_option maxRecDepth 100000 in
set_option maxHeartbeats 4000000 in
theorem b_X5_onBoard_6 {d : Nat} {M : Mem} {Q : Post} {x1 x2 x3 x4 x5 : Int32} (h : (((J 25) ≤ x5 → Q (some x4) M) ∧ (¬ (J 25) ≤ x5 → (vp_in x1 8 ∧ ((¬ (((M 20 x1.toNatClampNeg) >>> (x5 &&& 31)) &&& (J 1)) = (J 1) → R none (d + 1) mX5_onBoard 6 [.ref 18, .int x1, .int x2, .int x3, .int (x4 + (J 0)), .int (x5 + J 1)] [] M Q) ∧ ((((M 20 x1.toNatClampNeg) >>> (x5 &&& 31)) &&& (J 1)) = (J 1) → (Mt d mX5_isOnBoard [.ref 18, .int (x2 + (x5 - x5 / (J 5) * (J 5))), .int (x3 + (x5 / (J 5)))] M (ri fun v1 M1 => ((v1 = 0 → R none (d + 1) mX5_onBoard 6 [.ref 18, .int x1, .int x2, .int x3, .int (x4 + (J 0)), .int (x5 + J 1)] [] M1 Q) ∧ (¬ v1 = 0 → R none (d + 1) mX5_onBoard 6 [.ref 18, .int x1, .int x2, .int x3, .int (x4 + (J 1)), .int (x5 + J 1)] [] M1 Q)))))))))) : R none (d + 1) mX5_onBoard 6 [.ref 18, .int x1, .int x2, .int x3, .int x4, .int x5] [] M Q := by
  refine r_iload dX5_onBoard_6 rfl ?_
  refine r_bipush (v := J 25) dX5_onBoard_8 (by decide +kernel) ?_
  refine r_icmp_ge (tgt := 63) dX5_onBoard_10 (by decide) (fun c_10 => ?_) (fun c_10 => ?_)
  · replace h := h.1 c_10
    refine r_iload dX5_onBoard_63 rfl ?_
    exact r_ret dX5_onBoard_65 rfl rfl h
  · replace h := h.2 c_10
    refine r_iload dX5_onBoard_13 rfl ?_
    refine r_aload_n dX5_onBoard_15 rfl rfl ?_
    refine r_getR dX5_onBoard_16 flX5_20 rfl rfl ?_
    refine r_iload_n dX5_onBoard_19 rfl rfl ?_
    refine r_iald dX5_onBoard_20 rfl h.1 ?_
    replace h := h.2
    refine r_iload dX5_onBoard_21 rfl ?_
    refine r_ishr dX5_onBoard_23 ?_
    refine r_iconst (v := J 1) dX5_onBoard_24 rfl ?_
    refine r_iand dX5_onBoard_25 ?_
    refine r_iconst (v := J 1) dX5_onBoard_26 rfl ?_
    refine r_icmp_ne (tgt := 53) dX5_onBoard_27 (by decide) (fun c_27 => ?_) (fun c_27 => ?_)
    · replace h := h.1 c_27
      refine r_iconst (v := J 0) dX5_onBoard_53 rfl ?_
      refine r_iadd dX5_onBoard_54 ?_
      refine r_istore dX5_onBoard_55 (by decide) rfl ?_
      refine r_iinc (v := J 1) dX5_onBoard_57 rfl rfl (by decide) rfl ?_
      refine r_goto (tgt := 6) dX5_onBoard_60 (by decide) ?_
      exact h
    · replace h := h.2 c_27
      refine r_aload_n dX5_onBoard_30 rfl rfl ?_
      refine r_iload_n dX5_onBoard_31 rfl rfl ?_
      refine r_iload dX5_onBoard_32 rfl ?_
      refine r_iconst (v := J 5) dX5_onBoard_34 rfl ?_
      refine r_irem dX5_onBoard_35 (by decide +kernel) ?_
      refine r_iadd dX5_onBoard_36 ?_
      refine r_iload_n dX5_onBoard_37 rfl rfl ?_
      refine r_iload dX5_onBoard_38 rfl ?_
      refine r_iconst (v := J 5) dX5_onBoard_40 rfl ?_
      refine r_idiv dX5_onBoard_41 (by decide +kernel) ?_
      refine r_iadd dX5_onBoard_42 ?_
      refine r_callV (as := [.int (x2 + (x5 - x5 / (J 5) * (J 5))), .int (x3 + (x5 / (J 5)))]) (st := [.int x4]) dX5_onBoard_43 cvX5_73 rfl rfl rfl rfl (Nat.le_of_ble_eq_true rfl) h (fun r M1 h => ?_)
      obtain ⟨v1, rfl, h⟩ := h
      refine r_if_eq (tgt := 53) dX5_onBoard_46 (by decide) (fun c_46 => ?_) (fun c_46 => ?_)
      · replace h := h.1 c_46
        refine r_iconst (v := J 0) dX5_onBoard_53 rfl ?_
        refine r_iadd dX5_onBoard_54 ?_
        refine r_istore dX5_onBoard_55 (by decide) rfl ?_
        refine r_iinc (v := J 1) dX5_onBoard_57 rfl rfl (by decide) rfl ?_
        refine r_goto (tgt := 6) dX5_onBoard_60 (by decide) ?_
        exact h
      · replace h := h.2 c_46
        refine r_iconst (v := J 1) dX5_onBoard_49 rfl ?_
        refine r_goto (tgt := 54) dX5_onBoard_50 (by decide) ?_
        refine r_iadd dX5_onBoard_54 ?_
        refine r_istore dX5_onBoard_55 (by decide) rfl ?_
        refine r_iinc (v := J 1) dX5_onBoard_57 rfl rfl (by decide) rfl ?_
        refine r_goto (tgt := 6) dX5_onBoard_60 (by decide) ?_
        exact h
theorem e_X5_onBoard {d : Nat} {M : Mem} {Q : Post} {x1 x2 x3 : Int32} (h : R none (d + 1) mX5_onBoard 6 [.ref 18, .int x1, .int x2, .int x3, .int (J 0), .int (J 0)] [] M Q) : Mt (d + 1) mX5_onBoard [.ref 18, .int x1, .int x2, .int x3] M Q := Mt.of (k := 2) (by decide +kernel) (okR (okI (okI (okI okN)))) (Nat.le_of_ble_eq_true rfl) rfl (b_X5_onBoard_0 h)
set_option maxRecDepth 100000 in
set_option maxHeartbeats 4000000 in
theorem b_X5_squares_0 {d : Nat} {M : Mem} {Q : Post} {x0 : Int32} (h : R none (d + 1) mX5_squares 4 [.int x0, .int (J 0), .int (J 0)] [] M Q) : R none (d + 1) mX5_squares 0 [.int x0, .null, .null] [] M Q := by
  refine r_iconst (v := J 0) dX5_squares_0 rfl ?_
  refine r_istore_n dX5_squares_1 rfl (by decide) rfl ?_
  refine r_iconst (v := J 0) dX5_squares_2 rfl ?_
  refine r_istore_n dX5_squares_3 rfl (by decide) rfl ?_
  exact h
set_option maxRecDepth 100000 in
set_option maxHeartbeats 4000000 in
theorem b_X5_squares_4 {d : Nat} {M : Mem} {Q : Post} {x0 x1 x2 : Int32} (h : (((J 25) ≤ x2 → Q (some x1) M) ∧ (¬ (J 25) ≤ x2 → R none (d + 1) mX5_squares 4 [.int x0, .int (x1 + ((x0 >>> (x2 &&& 31)) &&& (J 1))), .int (x2 + J 1)] [] M Q))) : R none (d + 1) mX5_squares 4 [.int x0, .int x1, .int x2] [] M Q := by
  refine r_iload_n dX5_squares_4 rfl rfl ?_
  refine r_bipush (v := J 25) dX5_squares_5 (by decide +kernel) ?_
  refine r_icmp_ge (tgt := 24) dX5_squares_7 (by decide) (fun c_7 => ?_) (fun c_7 => ?_)
  · replace h := h.1 c_7
    refine r_iload_n dX5_squares_24 rfl rfl ?_
    exact r_ret dX5_squares_25 rfl rfl h
  · replace h := h.2 c_7
    refine r_iload_n dX5_squares_10 rfl rfl ?_
    refine r_iload_n dX5_squares_11 rfl rfl ?_
    refine r_iload_n dX5_squares_12 rfl rfl ?_
    refine r_ishr dX5_squares_13 ?_
    refine r_iconst (v := J 1) dX5_squares_14 rfl ?_
    refine r_iand dX5_squares_15 ?_
    refine r_iadd dX5_squares_16 ?_
    refine r_istore_n dX5_squares_17 rfl (by decide) rfl ?_
    refine r_iinc (v := J 1) dX5_squares_18 rfl rfl (by decide) rfl ?_
    refine r_goto (tgt := 4) dX5_squares_21 (by decide) ?_
    exact h
theorem e_X5_squares {d : Nat} {M : Mem} {Q : Post} {x0 : Int32} (h : R none (d + 1) mX5_squares 4 [.int x0, .int (J 0), .int (J 0)] [] M Q) : Mt (d + 1) mX5_squares [.int x0] M Q := Mt.of (k := 2) (by decide +kernel) (okI okN) (Nat.le_of_ble_eq_true rfl) rfl (b_X5_squares_0 h)
set_option maxRecDepth 100000 in
set_option maxHeartbeats 4000000 in
theorem b_X5_about_0 {d : Nat} {M : Mem} {Q : Post} {x1 x2 : Int32} (h : (Mt d mX5_isPiece [.ref 18, .int x1] M (ri fun v1 M1 => ((v1 = 0 → Q (some (J (-1))) M1) ∧ (¬ v1 = 0 → (Mt d mX5_in [.int x2, .int (J 0), .int (J 7)] M1 (ri fun v2 M2 => ((¬ v2 = 0 → (((x2.toInt < 0 ∨ 6 < x2.toInt) → (vp_in x1 8 ∧ (((M2 23 x1.toNatClampNeg) = 0 → Q (some (J 0)) M2) ∧ (¬ (M2 23 x1.toNatClampNeg) = 0 → (vp_in x1 8 ∧ (vp_in x1 8 ∧ (Mt d mX5_onBoard [.ref 18, .int x1, .int (M2 24 x1.toNatClampNeg), .int (M2 25 x1.toNatClampNeg)] M2 (ri fun v3 M3 => ((¬ v3 = 0 → Q (some (J 0)) M3) ∧ (v3 = 0 → Q (some (J 1)) M3)))))))))) ∧ ((x2.toInt = 0) → (vp_in x1 8 ∧ (Mt d mX5_squares [.int (M2 20 x1.toNatClampNeg)] M2 (ri fun v4 M4 => Q (some v4) M4)))) ∧ ((x2.toInt = 1) → (vp_in x1 8 ∧ Q (some (M2 21 x1.toNatClampNeg)) M2)) ∧ ((x2.toInt = 2) → (vp_in x1 8 ∧ Q (some (M2 22 x1.toNatClampNeg)) M2)) ∧ ((x2.toInt = 3) → (vp_in x1 8 ∧ (((M2 23 x1.toNatClampNeg) = 0 → Q (some (J (-100))) M2) ∧ (¬ (M2 23 x1.toNatClampNeg) = 0 → (vp_in x1 8 ∧ Q (some (M2 24 x1.toNatClampNeg)) M2))))) ∧ ((x2.toInt = 4) → (vp_in x1 8 ∧ (((M2 23 x1.toNatClampNeg) = 0 → Q (some (J (-100))) M2) ∧ (¬ (M2 23 x1.toNatClampNeg) = 0 → (vp_in x1 8 ∧ Q (some (M2 25 x1.toNatClampNeg)) M2))))) ∧ ((x2.toInt = 5) → (vp_in x1 8 ∧ (((M2 23 x1.toNatClampNeg) = 0 → Q (some (J 0)) M2) ∧ (¬ (M2 23 x1.toNatClampNeg) = 0 → Q (some (J 1)) M2)))) ∧ ((x2.toInt = 6) → (vp_in x1 8 ∧ Q (some (M2 20 x1.toNatClampNeg)) M2)))) ∧ (v2 = 0 → Q (some (J (-1))) M2))))))))) : R none (d + 1) mX5_about 0 [.ref 18, .int x1, .int x2] [] M Q := by
  refine r_aload_n dX5_about_0 rfl rfl ?_
  refine r_iload_n dX5_about_1 rfl rfl ?_
  refine r_callV (as := [.int x1]) (st := []) dX5_about_2 cvX5_77 rfl rfl rfl rfl (Nat.le_of_ble_eq_true rfl) h (fun r M1 h => ?_)
  obtain ⟨v1, rfl, h⟩ := h
  refine r_if_eq (tgt := 18) dX5_about_5 (by decide) (fun c_5 => ?_) (fun c_5 => ?_)
  · replace h := h.1 c_5
    refine r_iconst (v := J (-1)) dX5_about_18 rfl ?_
    exact r_ret dX5_about_19 rfl rfl h
  · replace h := h.2 c_5
    refine r_iload_n dX5_about_8 rfl rfl ?_
    refine r_iconst (v := J 0) dX5_about_9 rfl ?_
    refine r_bipush (v := J 7) dX5_about_10 (by decide +kernel) ?_
    refine r_callS (as := [.int x2, .int (J 0), .int (J 7)]) (st := []) dX5_about_12 csX5_63 rfl rfl (Nat.le_of_ble_eq_true rfl) h (fun r M2 h => ?_)
    obtain ⟨v2, rfl, h⟩ := h
    refine r_if_ne (tgt := 20) dX5_about_15 (by decide) (fun c_15 => ?_) (fun c_15 => ?_)
    · replace h := h.1 c_15
      refine r_iload_n dX5_about_20 rfl rfl ?_
      rcases (show (x2.toInt < 0 ∨ 6 < x2.toInt) ∨ (x2.toInt = 0) ∨ (x2.toInt = 1) ∨ (x2.toInt = 2) ∨ (x2.toInt = 3) ∨ (x2.toInt = 4) ∨ (x2.toInt = 5) ∨ (x2.toInt = 6) by omega) with q | q | q | q | q | q | q | q
      · replace h := h.1 q
        refine r_table (off := 131) (tgt := 152) dX5_about_21 (by rw [if_pos q]) (by decide) ?_
        refine r_aload_n dX5_about_152 rfl rfl ?_
        refine r_getR dX5_about_153 flX5_29 rfl rfl ?_
        refine r_iload_n dX5_about_156 rfl rfl ?_
        refine r_zald dX5_about_157 rfl h.1 ?_
        replace h := h.2
        refine r_if_eq (tgt := 185) dX5_about_158 (by decide) (fun c_158 => ?_) (fun c_158 => ?_)
        · replace h := h.1 c_158
          refine r_iconst (v := J 0) dX5_about_185 rfl ?_
          exact r_ret dX5_about_186 rfl rfl h
        · replace h := h.2 c_158
          refine r_aload_n dX5_about_161 rfl rfl ?_
          refine r_iload_n dX5_about_162 rfl rfl ?_
          refine r_aload_n dX5_about_163 rfl rfl ?_
          refine r_getR dX5_about_164 flX5_33 rfl rfl ?_
          refine r_iload_n dX5_about_167 rfl rfl ?_
          refine r_iald dX5_about_168 rfl h.1 ?_
          replace h := h.2
          refine r_aload_n dX5_about_169 rfl rfl ?_
          refine r_getR dX5_about_170 flX5_36 rfl rfl ?_
          refine r_iload_n dX5_about_173 rfl rfl ?_
          refine r_iald dX5_about_174 rfl h.1 ?_
          replace h := h.2
          refine r_callV (as := [.int x1, .int (M2 24 x1.toNatClampNeg), .int (M2 25 x1.toNatClampNeg)]) (st := []) dX5_about_175 cvX5_85 rfl rfl rfl rfl (Nat.le_of_ble_eq_true rfl) h (fun r M3 h => ?_)
          obtain ⟨v3, rfl, h⟩ := h
          refine r_if_ne (tgt := 185) dX5_about_178 (by decide) (fun c_178 => ?_) (fun c_178 => ?_)
          · replace h := h.1 c_178
            refine r_iconst (v := J 0) dX5_about_185 rfl ?_
            exact r_ret dX5_about_186 rfl rfl h
          · replace h := h.2 c_178
            refine r_iconst (v := J 1) dX5_about_181 rfl ?_
            refine r_goto (tgt := 186) dX5_about_182 (by decide) ?_
            exact r_ret dX5_about_186 rfl rfl h
      · replace h := h.2.1 q
        refine r_table (off := 43) (tgt := 64) dX5_about_21 (by rw [if_neg (by omega), q]; rfl) (by decide) ?_
        refine r_aload_n dX5_about_64 rfl rfl ?_
        refine r_getR dX5_about_65 flX5_20 rfl rfl ?_
        refine r_iload_n dX5_about_68 rfl rfl ?_
        refine r_iald dX5_about_69 rfl h.1 ?_
        replace h := h.2
        refine r_callS (as := [.int (M2 20 x1.toNatClampNeg)]) (st := []) dX5_about_70 csX5_81 rfl rfl (Nat.le_of_ble_eq_true rfl) h (fun r M4 h => ?_)
        obtain ⟨v4, rfl, h⟩ := h
        exact r_ret dX5_about_73 rfl rfl h
      · replace h := h.2.2.1 q
        refine r_table (off := 53) (tgt := 74) dX5_about_21 (by rw [if_neg (by omega), q]; rfl) (by decide) ?_
        refine r_aload_n dX5_about_74 rfl rfl ?_
        refine r_getR dX5_about_75 flX5_23 rfl rfl ?_
        refine r_iload_n dX5_about_78 rfl rfl ?_
        refine r_iald dX5_about_79 rfl h.1 ?_
        replace h := h.2
        exact r_ret dX5_about_80 rfl rfl h
      · replace h := h.2.2.2.1 q
        refine r_table (off := 60) (tgt := 81) dX5_about_21 (by rw [if_neg (by omega), q]; rfl) (by decide) ?_
        refine r_aload_n dX5_about_81 rfl rfl ?_
        refine r_getR dX5_about_82 flX5_26 rfl rfl ?_
        refine r_iload_n dX5_about_85 rfl rfl ?_
        refine r_iald dX5_about_86 rfl h.1 ?_
        replace h := h.2
        exact r_ret dX5_about_87 rfl rfl h
      · replace h := h.2.2.2.2.1 q
        refine r_table (off := 67) (tgt := 88) dX5_about_21 (by rw [if_neg (by omega), q]; rfl) (by decide) ?_
        refine r_aload_n dX5_about_88 rfl rfl ?_
        refine r_getR dX5_about_89 flX5_29 rfl rfl ?_
        refine r_iload_n dX5_about_92 rfl rfl ?_
        refine r_zald dX5_about_93 rfl h.1 ?_
        replace h := h.2
        refine r_if_eq (tgt := 106) dX5_about_94 (by decide) (fun c_94 => ?_) (fun c_94 => ?_)
        · replace h := h.1 c_94
          refine r_bipush (v := J (-100)) dX5_about_106 (by decide +kernel) ?_
          exact r_ret dX5_about_108 rfl rfl h
        · replace h := h.2 c_94
          refine r_aload_n dX5_about_97 rfl rfl ?_
          refine r_getR dX5_about_98 flX5_33 rfl rfl ?_
          refine r_iload_n dX5_about_101 rfl rfl ?_
          refine r_iald dX5_about_102 rfl h.1 ?_
          replace h := h.2
          refine r_goto (tgt := 108) dX5_about_103 (by decide) ?_
          exact r_ret dX5_about_108 rfl rfl h
      · replace h := h.2.2.2.2.2.1 q
        refine r_table (off := 88) (tgt := 109) dX5_about_21 (by rw [if_neg (by omega), q]; rfl) (by decide) ?_
        refine r_aload_n dX5_about_109 rfl rfl ?_
        refine r_getR dX5_about_110 flX5_29 rfl rfl ?_
        refine r_iload_n dX5_about_113 rfl rfl ?_
        refine r_zald dX5_about_114 rfl h.1 ?_
        replace h := h.2
        refine r_if_eq (tgt := 127) dX5_about_115 (by decide) (fun c_115 => ?_) (fun c_115 => ?_)
        · replace h := h.1 c_115
          refine r_bipush (v := J (-100)) dX5_about_127 (by decide +kernel) ?_
          exact r_ret dX5_about_129 rfl rfl h
        · replace h := h.2 c_115
          refine r_aload_n dX5_about_118 rfl rfl ?_
          refine r_getR dX5_about_119 flX5_36 rfl rfl ?_
          refine r_iload_n dX5_about_122 rfl rfl ?_
          refine r_iald dX5_about_123 rfl h.1 ?_
          replace h := h.2
          refine r_goto (tgt := 129) dX5_about_124 (by decide) ?_
          exact r_ret dX5_about_129 rfl rfl h
      · replace h := h.2.2.2.2.2.2.1 q
        refine r_table (off := 109) (tgt := 130) dX5_about_21 (by rw [if_neg (by omega), q]; rfl) (by decide) ?_
        refine r_aload_n dX5_about_130 rfl rfl ?_
        refine r_getR dX5_about_131 flX5_29 rfl rfl ?_
        refine r_iload_n dX5_about_134 rfl rfl ?_
        refine r_zald dX5_about_135 rfl h.1 ?_
        replace h := h.2
        refine r_if_eq (tgt := 143) dX5_about_136 (by decide) (fun c_136 => ?_) (fun c_136 => ?_)
        · replace h := h.1 c_136
          refine r_iconst (v := J 0) dX5_about_143 rfl ?_
          exact r_ret dX5_about_144 rfl rfl h
        · replace h := h.2 c_136
          refine r_iconst (v := J 1) dX5_about_139 rfl ?_
          refine r_goto (tgt := 144) dX5_about_140 (by decide) ?_
          exact r_ret dX5_about_144 rfl rfl h
      · replace h := h.2.2.2.2.2.2.2 q
        refine r_table (off := 124) (tgt := 145) dX5_about_21 (by rw [if_neg (by omega), q]; rfl) (by decide) ?_
        refine r_aload_n dX5_about_145 rfl rfl ?_
        refine r_getR dX5_about_146 flX5_20 rfl rfl ?_
        refine r_iload_n dX5_about_149 rfl rfl ?_
        refine r_iald dX5_about_150 rfl h.1 ?_
        replace h := h.2
        exact r_ret dX5_about_151 rfl rfl h
    · replace h := h.2 c_15
      refine r_iconst (v := J (-1)) dX5_about_18 rfl ?_
      exact r_ret dX5_about_19 rfl rfl h
theorem e_X5_about {d : Nat} {M : Mem} {Q : Post} {x1 x2 : Int32} (h : (Mt d mX5_isPiece [.ref 18, .int x1] M (ri fun v1 M1 => ((v1 = 0 → Q (some (J (-1))) M1) ∧ (¬ v1 = 0 → (Mt d mX5_in [.int x2, .int (J 0), .int (J 7)] M1 (ri fun v2 M2 => ((¬ v2 = 0 → (((x2.toInt < 0 ∨ 6 < x2.toInt) → (vp_in x1 8 ∧ (((M2 23 x1.toNatClampNeg) = 0 → Q (some (J 0)) M2) ∧ (¬ (M2 23 x1.toNatClampNeg) = 0 → (vp_in x1 8 ∧ (vp_in x1 8 ∧ (Mt d mX5_onBoard [.ref 18, .int x1, .int (M2 24 x1.toNatClampNeg), .int (M2 25 x1.toNatClampNeg)] M2 (ri fun v3 M3 => ((¬ v3 = 0 → Q (some (J 0)) M3) ∧ (v3 = 0 → Q (some (J 1)) M3)))))))))) ∧ ((x2.toInt = 0) → (vp_in x1 8 ∧ (Mt d mX5_squares [.int (M2 20 x1.toNatClampNeg)] M2 (ri fun v4 M4 => Q (some v4) M4)))) ∧ ((x2.toInt = 1) → (vp_in x1 8 ∧ Q (some (M2 21 x1.toNatClampNeg)) M2)) ∧ ((x2.toInt = 2) → (vp_in x1 8 ∧ Q (some (M2 22 x1.toNatClampNeg)) M2)) ∧ ((x2.toInt = 3) → (vp_in x1 8 ∧ (((M2 23 x1.toNatClampNeg) = 0 → Q (some (J (-100))) M2) ∧ (¬ (M2 23 x1.toNatClampNeg) = 0 → (vp_in x1 8 ∧ Q (some (M2 24 x1.toNatClampNeg)) M2))))) ∧ ((x2.toInt = 4) → (vp_in x1 8 ∧ (((M2 23 x1.toNatClampNeg) = 0 → Q (some (J (-100))) M2) ∧ (¬ (M2 23 x1.toNatClampNeg) = 0 → (vp_in x1 8 ∧ Q (some (M2 25 x1.toNatClampNeg)) M2))))) ∧ ((x2.toInt = 5) → (vp_in x1 8 ∧ (((M2 23 x1.toNatClampNeg) = 0 → Q (some (J 0)) M2) ∧ (¬ (M2 23 x1.toNatClampNeg) = 0 → Q (some (J 1)) M2)))) ∧ ((x2.toInt = 6) → (vp_in x1 8 ∧ Q (some (M2 20 x1.toNatClampNeg)) M2)))) ∧ (v2 = 0 → Q (some (J (-1))) M2))))))))) : Mt (d + 1) mX5_about [.ref 18, .int x1, .int x2] M Q := Mt.of (k := 0) (by decide +kernel) (okR (okI (okI okN))) (Nat.le_of_ble_eq_true rfl) rfl (b_X5_about_0 h)
set_option maxRecDepth 100000 in
set_option maxHeartbeats 4000000 in
theorem b_X5_put_0 {d : Nat} {M : Mem} {Q : Post} {x1 x2 x3 : Int32} (h : (Mt d mX5_isPiece [.ref 18, .int x1] M (ri fun v1 M1 => ((v1 = 0 → Q (some (J (-1))) M1) ∧ (¬ v1 = 0 → (Mt d mX5_isSpot [.int x2, .int x3] M1 (ri fun v2 M2 => ((¬ v2 = 0 → (Mt d mX5_stand [.ref 18, .int x1, .int x2, .int x3] M2 (ri fun v3 M3 => ((¬ v3 = 0 → (vp_in x1 8 ∧ (vp_in x1 8 ∧ (vp_in x1 8 ∧ Q (some (J 1)) (mset (mset (mset M3 23 x1.toNatClampNeg (J 1)) 24 x1.toNatClampNeg x2) 25 x1.toNatClampNeg x3))))) ∧ (v3 = 0 → Q (some (J (-2))) M3))))) ∧ (v2 = 0 → Q (some (J (-1))) M2))))))))) : R none (d + 1) mX5_put 0 [.ref 18, .int x1, .int x2, .int x3] [] M Q := by
  refine r_aload_n dX5_put_0 rfl rfl ?_
  refine r_iload_n dX5_put_1 rfl rfl ?_
  refine r_callV (as := [.int x1]) (st := []) dX5_put_2 cvX5_77 rfl rfl rfl rfl (Nat.le_of_ble_eq_true rfl) h (fun r M1 h => ?_)
  obtain ⟨v1, rfl, h⟩ := h
  refine r_if_eq (tgt := 16) dX5_put_5 (by decide) (fun c_5 => ?_) (fun c_5 => ?_)
  · replace h := h.1 c_5
    refine r_iconst (v := J (-1)) dX5_put_16 rfl ?_
    exact r_ret dX5_put_17 rfl rfl h
  · replace h := h.2 c_5
    refine r_iload_n dX5_put_8 rfl rfl ?_
    refine r_iload_n dX5_put_9 rfl rfl ?_
    refine r_callS (as := [.int x2, .int x3]) (st := []) dX5_put_10 csX5_89 rfl rfl (Nat.le_of_ble_eq_true rfl) h (fun r M2 h => ?_)
    obtain ⟨v2, rfl, h⟩ := h
    refine r_if_ne (tgt := 18) dX5_put_13 (by decide) (fun c_13 => ?_) (fun c_13 => ?_)
    · replace h := h.1 c_13
      refine r_aload_n dX5_put_18 rfl rfl ?_
      refine r_iload_n dX5_put_19 rfl rfl ?_
      refine r_iload_n dX5_put_20 rfl rfl ?_
      refine r_iload_n dX5_put_21 rfl rfl ?_
      refine r_callV (as := [.int x1, .int x2, .int x3]) (st := []) dX5_put_22 cvX5_92 rfl rfl rfl rfl (Nat.le_of_ble_eq_true rfl) h (fun r M3 h => ?_)
      obtain ⟨v3, rfl, h⟩ := h
      refine r_if_ne (tgt := 31) dX5_put_25 (by decide) (fun c_25 => ?_) (fun c_25 => ?_)
      · replace h := h.1 c_25
        refine r_aload_n dX5_put_31 rfl rfl ?_
        refine r_getR dX5_put_32 flX5_29 rfl rfl ?_
        refine r_iload_n dX5_put_35 rfl rfl ?_
        refine r_iconst (v := J 1) dX5_put_36 rfl ?_
        refine r_zast dX5_put_37 rfl (by decide +kernel) h.1 ?_
        replace h := h.2
        refine r_aload_n dX5_put_38 rfl rfl ?_
        refine r_getR dX5_put_39 flX5_33 rfl rfl ?_
        refine r_iload_n dX5_put_42 rfl rfl ?_
        refine r_iload_n dX5_put_43 rfl rfl ?_
        refine r_iast dX5_put_44 rfl h.1 ?_
        replace h := h.2
        refine r_aload_n dX5_put_45 rfl rfl ?_
        refine r_getR dX5_put_46 flX5_36 rfl rfl ?_
        refine r_iload_n dX5_put_49 rfl rfl ?_
        refine r_iload_n dX5_put_50 rfl rfl ?_
        refine r_iast dX5_put_51 rfl h.1 ?_
        replace h := h.2
        refine r_iconst (v := J 1) dX5_put_52 rfl ?_
        exact r_ret dX5_put_53 rfl rfl h
      · replace h := h.2 c_25
        refine r_bipush (v := J (-2)) dX5_put_28 (by decide +kernel) ?_
        exact r_ret dX5_put_30 rfl rfl h
    · replace h := h.2 c_13
      refine r_iconst (v := J (-1)) dX5_put_16 rfl ?_
      exact r_ret dX5_put_17 rfl rfl h
theorem e_X5_put {d : Nat} {M : Mem} {Q : Post} {x1 x2 x3 : Int32} (h : (Mt d mX5_isPiece [.ref 18, .int x1] M (ri fun v1 M1 => ((v1 = 0 → Q (some (J (-1))) M1) ∧ (¬ v1 = 0 → (Mt d mX5_isSpot [.int x2, .int x3] M1 (ri fun v2 M2 => ((¬ v2 = 0 → (Mt d mX5_stand [.ref 18, .int x1, .int x2, .int x3] M2 (ri fun v3 M3 => ((¬ v3 = 0 → (vp_in x1 8 ∧ (vp_in x1 8 ∧ (vp_in x1 8 ∧ Q (some (J 1)) (mset (mset (mset M3 23 x1.toNatClampNeg (J 1)) 24 x1.toNatClampNeg x2) 25 x1.toNatClampNeg x3))))) ∧ (v3 = 0 → Q (some (J (-2))) M3))))) ∧ (v2 = 0 → Q (some (J (-1))) M2))))))))) : Mt (d + 1) mX5_put [.ref 18, .int x1, .int x2, .int x3] M Q := Mt.of (k := 0) (by decide +kernel) (okR (okI (okI (okI okN)))) (Nat.le_of_ble_eq_true rfl) rfl (b_X5_put_0 h)
set_option maxRecDepth 100000 in
set_option maxHeartbeats 4000000 in
theorem b_X5_away_0 {d : Nat} {M : Mem} {Q : Post} {x1 : Int32} (h : (Mt d mX5_isPiece [.ref 18, .int x1] M (ri fun v1 M1 => ((¬ v1 = 0 → (vp_in x1 8 ∧ (((M1 23 x1.toNatClampNeg) = 0 → (vp_in x1 8 ∧ Q (some (J 0)) (mset M1 23 x1.toNatClampNeg (J 0)))) ∧ (¬ (M1 23 x1.toNatClampNeg) = 0 → (vp_in x1 8 ∧ Q (some (J 1)) (mset M1 23 x1.toNatClampNeg (J 0))))))) ∧ (v1 = 0 → Q (some (J (-1))) M1))))) : R none (d + 1) mX5_away 0 [.ref 18, .int x1, .null] [] M Q := by
  refine r_aload_n dX5_away_0 rfl rfl ?_
  refine r_iload_n dX5_away_1 rfl rfl ?_
  refine r_callV (as := [.int x1]) (st := []) dX5_away_2 cvX5_77 rfl rfl rfl rfl (Nat.le_of_ble_eq_true rfl) h (fun r M1 h => ?_)
  obtain ⟨v1, rfl, h⟩ := h
  refine r_if_ne (tgt := 10) dX5_away_5 (by decide) (fun c_5 => ?_) (fun c_5 => ?_)
  · replace h := h.1 c_5
    refine r_aload_n dX5_away_10 rfl rfl ?_
    refine r_getR dX5_away_11 flX5_29 rfl rfl ?_
    refine r_iload_n dX5_away_14 rfl rfl ?_
    refine r_zald dX5_away_15 rfl h.1 ?_
    replace h := h.2
    refine r_if_eq (tgt := 23) dX5_away_16 (by decide) (fun c_16 => ?_) (fun c_16 => ?_)
    · replace h := h.1 c_16
      refine r_iconst (v := J 0) dX5_away_23 rfl ?_
      refine r_istore_n dX5_away_24 rfl (by decide) rfl ?_
      refine r_aload_n dX5_away_25 rfl rfl ?_
      refine r_getR dX5_away_26 flX5_29 rfl rfl ?_
      refine r_iload_n dX5_away_29 rfl rfl ?_
      refine r_iconst (v := J 0) dX5_away_30 rfl ?_
      refine r_zast dX5_away_31 rfl (by decide +kernel) h.1 ?_
      replace h := h.2
      refine r_iload_n dX5_away_32 rfl rfl ?_
      exact r_ret dX5_away_33 rfl rfl h
    · replace h := h.2 c_16
      refine r_iconst (v := J 1) dX5_away_19 rfl ?_
      refine r_goto (tgt := 24) dX5_away_20 (by decide) ?_
      refine r_istore_n dX5_away_24 rfl (by decide) rfl ?_
      refine r_aload_n dX5_away_25 rfl rfl ?_
      refine r_getR dX5_away_26 flX5_29 rfl rfl ?_
      refine r_iload_n dX5_away_29 rfl rfl ?_
      refine r_iconst (v := J 0) dX5_away_30 rfl ?_
      refine r_zast dX5_away_31 rfl (by decide +kernel) h.1 ?_
      replace h := h.2
      refine r_iload_n dX5_away_32 rfl rfl ?_
      exact r_ret dX5_away_33 rfl rfl h
  · replace h := h.2 c_5
    refine r_iconst (v := J (-1)) dX5_away_8 rfl ?_
    exact r_ret dX5_away_9 rfl rfl h
theorem e_X5_away {d : Nat} {M : Mem} {Q : Post} {x1 : Int32} (h : (Mt d mX5_isPiece [.ref 18, .int x1] M (ri fun v1 M1 => ((¬ v1 = 0 → (vp_in x1 8 ∧ (((M1 23 x1.toNatClampNeg) = 0 → (vp_in x1 8 ∧ Q (some (J 0)) (mset M1 23 x1.toNatClampNeg (J 0)))) ∧ (¬ (M1 23 x1.toNatClampNeg) = 0 → (vp_in x1 8 ∧ Q (some (J 1)) (mset M1 23 x1.toNatClampNeg (J 0))))))) ∧ (v1 = 0 → Q (some (J (-1))) M1))))) : Mt (d + 1) mX5_away [.ref 18, .int x1] M Q := Mt.of (k := 1) (by decide +kernel) (okR (okI okN)) (Nat.le_of_ble_eq_true rfl) rfl (b_X5_away_0 h)
set_option maxRecDepth 100000 in
set_option maxHeartbeats 4000000 in
theorem b_X5_stands_0 {d : Nat} {M : Mem} {Q : Post} {x1 x2 x3 : Int32} (h : (Mt d mX5_isPiece [.ref 18, .int x1] M (ri fun v1 M1 => ((v1 = 0 → Q (some (J (-1))) M1) ∧ (¬ v1 = 0 → (Mt d mX5_isSpot [.int x2, .int x3] M1 (ri fun v2 M2 => ((¬ v2 = 0 → (Mt d mX5_stand [.ref 18, .int x1, .int x2, .int x3] M2 (ri fun v3 M3 => ((v3 = 0 → Q (some (J 0)) M3) ∧ (¬ v3 = 0 → Q (some (J 1)) M3))))) ∧ (v2 = 0 → Q (some (J (-1))) M2))))))))) : R none (d + 1) mX5_stands 0 [.ref 18, .int x1, .int x2, .int x3] [] M Q := by
  refine r_aload_n dX5_stands_0 rfl rfl ?_
  refine r_iload_n dX5_stands_1 rfl rfl ?_
  refine r_callV (as := [.int x1]) (st := []) dX5_stands_2 cvX5_77 rfl rfl rfl rfl (Nat.le_of_ble_eq_true rfl) h (fun r M1 h => ?_)
  obtain ⟨v1, rfl, h⟩ := h
  refine r_if_eq (tgt := 16) dX5_stands_5 (by decide) (fun c_5 => ?_) (fun c_5 => ?_)
  · replace h := h.1 c_5
    refine r_iconst (v := J (-1)) dX5_stands_16 rfl ?_
    refine r_goto (tgt := 35) dX5_stands_17 (by decide) ?_
    exact r_ret dX5_stands_35 rfl rfl h
  · replace h := h.2 c_5
    refine r_iload_n dX5_stands_8 rfl rfl ?_
    refine r_iload_n dX5_stands_9 rfl rfl ?_
    refine r_callS (as := [.int x2, .int x3]) (st := []) dX5_stands_10 csX5_89 rfl rfl (Nat.le_of_ble_eq_true rfl) h (fun r M2 h => ?_)
    obtain ⟨v2, rfl, h⟩ := h
    refine r_if_ne (tgt := 20) dX5_stands_13 (by decide) (fun c_13 => ?_) (fun c_13 => ?_)
    · replace h := h.1 c_13
      refine r_aload_n dX5_stands_20 rfl rfl ?_
      refine r_iload_n dX5_stands_21 rfl rfl ?_
      refine r_iload_n dX5_stands_22 rfl rfl ?_
      refine r_iload_n dX5_stands_23 rfl rfl ?_
      refine r_callV (as := [.int x1, .int x2, .int x3]) (st := []) dX5_stands_24 cvX5_92 rfl rfl rfl rfl (Nat.le_of_ble_eq_true rfl) h (fun r M3 h => ?_)
      obtain ⟨v3, rfl, h⟩ := h
      refine r_if_eq (tgt := 34) dX5_stands_27 (by decide) (fun c_27 => ?_) (fun c_27 => ?_)
      · replace h := h.1 c_27
        refine r_iconst (v := J 0) dX5_stands_34 rfl ?_
        exact r_ret dX5_stands_35 rfl rfl h
      · replace h := h.2 c_27
        refine r_iconst (v := J 1) dX5_stands_30 rfl ?_
        refine r_goto (tgt := 35) dX5_stands_31 (by decide) ?_
        exact r_ret dX5_stands_35 rfl rfl h
    · replace h := h.2 c_13
      refine r_iconst (v := J (-1)) dX5_stands_16 rfl ?_
      refine r_goto (tgt := 35) dX5_stands_17 (by decide) ?_
      exact r_ret dX5_stands_35 rfl rfl h
theorem e_X5_stands {d : Nat} {M : Mem} {Q : Post} {x1 x2 x3 : Int32} (h : (Mt d mX5_isPiece [.ref 18, .int x1] M (ri fun v1 M1 => ((v1 = 0 → Q (some (J (-1))) M1) ∧ (¬ v1 = 0 → (Mt d mX5_isSpot [.int x2, .int x3] M1 (ri fun v2 M2 => ((¬ v2 = 0 → (Mt d mX5_stand [.ref 18, .int x1, .int x2, .int x3] M2 (ri fun v3 M3 => ((v3 = 0 → Q (some (J 0)) M3) ∧ (¬ v3 = 0 → Q (some (J 1)) M3))))) ∧ (v2 = 0 → Q (some (J (-1))) M2))))))))) : Mt (d + 1) mX5_stands [.ref 18, .int x1, .int x2, .int x3] M Q := Mt.of (k := 0) (by decide +kernel) (okR (okI (okI (okI okN)))) (Nat.le_of_ble_eq_true rfl) rfl (b_X5_stands_0 h)
set_option maxRecDepth 100000 in
set_option maxHeartbeats 4000000 in
theorem b_X5_dx_0 {d : Nat} {M : Mem} {Q : Post} {x0 : Int32} (h : ((¬ x0 = 0 → ((¬ x0 = (J 2) → Q (some (J 0)) M) ∧ (x0 = (J 2) → Q (some (J (-1))) M))) ∧ (x0 = 0 → Q (some (J 1)) M))) : R none (d + 1) mX5_dx 0 [.int x0] [] M Q := by
  refine r_iload_n dX5_dx_0 rfl rfl ?_
  refine r_if_ne (tgt := 8) dX5_dx_1 (by decide) (fun c_1 => ?_) (fun c_1 => ?_)
  · replace h := h.1 c_1
    refine r_iload_n dX5_dx_8 rfl rfl ?_
    refine r_iconst (v := J 2) dX5_dx_9 rfl ?_
    refine r_icmp_ne (tgt := 17) dX5_dx_10 (by decide) (fun c_10 => ?_) (fun c_10 => ?_)
    · replace h := h.1 c_10
      refine r_iconst (v := J 0) dX5_dx_17 rfl ?_
      exact r_ret dX5_dx_18 rfl rfl h
    · replace h := h.2 c_10
      refine r_iconst (v := J (-1)) dX5_dx_13 rfl ?_
      refine r_goto (tgt := 18) dX5_dx_14 (by decide) ?_
      exact r_ret dX5_dx_18 rfl rfl h
  · replace h := h.2 c_1
    refine r_iconst (v := J 1) dX5_dx_4 rfl ?_
    refine r_goto (tgt := 18) dX5_dx_5 (by decide) ?_
    exact r_ret dX5_dx_18 rfl rfl h
theorem e_X5_dx {d : Nat} {M : Mem} {Q : Post} {x0 : Int32} (h : ((¬ x0 = 0 → ((¬ x0 = (J 2) → Q (some (J 0)) M) ∧ (x0 = (J 2) → Q (some (J (-1))) M))) ∧ (x0 = 0 → Q (some (J 1)) M))) : Mt (d + 1) mX5_dx [.int x0] M Q := Mt.of (k := 0) (by decide +kernel) (okI okN) (Nat.le_of_ble_eq_true rfl) rfl (b_X5_dx_0 h)
set_option maxRecDepth 100000 in
set_option maxHeartbeats 4000000 in
theorem b_X5_dy_0 {d : Nat} {M : Mem} {Q : Post} {x0 : Int32} (h : ((¬ x0 = (J 1) → ((¬ x0 = (J 3) → Q (some (J 0)) M) ∧ (x0 = (J 3) → Q (some (J (-1))) M))) ∧ (x0 = (J 1) → Q (some (J 1)) M))) : R none (d + 1) mX5_dy 0 [.int x0] [] M Q := by
  refine r_iload_n dX5_dy_0 rfl rfl ?_
  refine r_iconst (v := J 1) dX5_dy_1 rfl ?_
  refine r_icmp_ne (tgt := 9) dX5_dy_2 (by decide) (fun c_2 => ?_) (fun c_2 => ?_)
  · replace h := h.1 c_2
    refine r_iload_n dX5_dy_9 rfl rfl ?_
    refine r_iconst (v := J 3) dX5_dy_10 rfl ?_
    refine r_icmp_ne (tgt := 18) dX5_dy_11 (by decide) (fun c_11 => ?_) (fun c_11 => ?_)
    · replace h := h.1 c_11
      refine r_iconst (v := J 0) dX5_dy_18 rfl ?_
      exact r_ret dX5_dy_19 rfl rfl h
    · replace h := h.2 c_11
      refine r_iconst (v := J (-1)) dX5_dy_14 rfl ?_
      refine r_goto (tgt := 19) dX5_dy_15 (by decide) ?_
      exact r_ret dX5_dy_19 rfl rfl h
  · replace h := h.2 c_2
    refine r_iconst (v := J 1) dX5_dy_5 rfl ?_
    refine r_goto (tgt := 19) dX5_dy_6 (by decide) ?_
    exact r_ret dX5_dy_19 rfl rfl h
theorem e_X5_dy {d : Nat} {M : Mem} {Q : Post} {x0 : Int32} (h : ((¬ x0 = (J 1) → ((¬ x0 = (J 3) → Q (some (J 0)) M) ∧ (x0 = (J 3) → Q (some (J (-1))) M))) ∧ (x0 = (J 1) → Q (some (J 1)) M))) : Mt (d + 1) mX5_dy [.int x0] M Q := Mt.of (k := 0) (by decide +kernel) (okI okN) (Nat.le_of_ble_eq_true rfl) rfl (b_X5_dy_0 h)
set_option maxRecDepth 100000 in
set_option maxHeartbeats 4000000 in
theorem b_X5_slide_0 {d : Nat} {M : Mem} {Q : Post} {x1 x2 x3 : Int32} (h : (Mt d mX5_isPiece [.ref 18, .int x1] M (ri fun v1 M1 => ((v1 = 0 → Q (some (J (-1))) M1) ∧ (¬ v1 = 0 → (Mt d mX5_in [.int x2, .int (J 0), .int (J 3)] M1 (ri fun v2 M2 => ((v2 = 0 → Q (some (J (-1))) M2) ∧ (¬ v2 = 0 → (Mt d mX5_in [.int x3, .int (J 1), .int (J 20)] M2 (ri fun v3 M3 => ((¬ v3 = 0 → (vp_in x1 8 ∧ ((¬ (M3 23 x1.toNatClampNeg) = 0 → R none (d + 1) mX5_slide 47 [.ref 18, .int x1, .int x2, .int x3, .int (J 0), .int (J 1), .null, .null] [] M3 Q) ∧ ((M3 23 x1.toNatClampNeg) = 0 → Q (some (J (-2))) M3)))) ∧ (v3 = 0 → Q (some (J (-1))) M3))))))))))))) : R none (d + 1) mX5_slide 0 [.ref 18, .int x1, .int x2, .int x3, .null, .null, .null, .null] [] M Q := by
  refine r_aload_n dX5_slide_0 rfl rfl ?_
  refine r_iload_n dX5_slide_1 rfl rfl ?_
  refine r_callV (as := [.int x1]) (st := []) dX5_slide_2 cvX5_77 rfl rfl rfl rfl (Nat.le_of_ble_eq_true rfl) h (fun r M1 h => ?_)
  obtain ⟨v1, rfl, h⟩ := h
  refine r_if_eq (tgt := 27) dX5_slide_5 (by decide) (fun c_5 => ?_) (fun c_5 => ?_)
  · replace h := h.1 c_5
    refine r_iconst (v := J (-1)) dX5_slide_27 rfl ?_
    exact r_ret dX5_slide_28 rfl rfl h
  · replace h := h.2 c_5
    refine r_iload_n dX5_slide_8 rfl rfl ?_
    refine r_iconst (v := J 0) dX5_slide_9 rfl ?_
    refine r_iconst (v := J 3) dX5_slide_10 rfl ?_
    refine r_callS (as := [.int x2, .int (J 0), .int (J 3)]) (st := []) dX5_slide_11 csX5_63 rfl rfl (Nat.le_of_ble_eq_true rfl) h (fun r M2 h => ?_)
    obtain ⟨v2, rfl, h⟩ := h
    refine r_if_eq (tgt := 27) dX5_slide_14 (by decide) (fun c_14 => ?_) (fun c_14 => ?_)
    · replace h := h.1 c_14
      refine r_iconst (v := J (-1)) dX5_slide_27 rfl ?_
      exact r_ret dX5_slide_28 rfl rfl h
    · replace h := h.2 c_14
      refine r_iload_n dX5_slide_17 rfl rfl ?_
      refine r_iconst (v := J 1) dX5_slide_18 rfl ?_
      refine r_bipush (v := J 20) dX5_slide_19 (by decide +kernel) ?_
      refine r_callS (as := [.int x3, .int (J 1), .int (J 20)]) (st := []) dX5_slide_21 csX5_63 rfl rfl (Nat.le_of_ble_eq_true rfl) h (fun r M3 h => ?_)
      obtain ⟨v3, rfl, h⟩ := h
      refine r_if_ne (tgt := 29) dX5_slide_24 (by decide) (fun c_24 => ?_) (fun c_24 => ?_)
      · replace h := h.1 c_24
        refine r_aload_n dX5_slide_29 rfl rfl ?_
        refine r_getR dX5_slide_30 flX5_29 rfl rfl ?_
        refine r_iload_n dX5_slide_33 rfl rfl ?_
        refine r_zald dX5_slide_34 rfl h.1 ?_
        replace h := h.2
        refine r_if_ne (tgt := 41) dX5_slide_35 (by decide) (fun c_35 => ?_) (fun c_35 => ?_)
        · replace h := h.1 c_35
          refine r_iconst (v := J 0) dX5_slide_41 rfl ?_
          refine r_istore dX5_slide_42 (by decide) rfl ?_
          refine r_iconst (v := J 1) dX5_slide_44 rfl ?_
          refine r_istore dX5_slide_45 (by decide) rfl ?_
          exact h
        · replace h := h.2 c_35
          refine r_bipush (v := J (-2)) dX5_slide_38 (by decide +kernel) ?_
          exact r_ret dX5_slide_40 rfl rfl h
      · replace h := h.2 c_24
        refine r_iconst (v := J (-1)) dX5_slide_27 rfl ?_
        exact r_ret dX5_slide_28 rfl rfl h
set_option maxRecDepth 100000 in
set_option maxHeartbeats 4000000 in
theorem b_X5_slide_47 {d : Nat} {M : Mem} {Q : Post} {x1 x2 x3 x4 x5 : Int32} (h : ((x5 = 0 → Q (some x4) M) ∧ (¬ x5 = 0 → ((x3 ≤ x4 → Q (some x4) M) ∧ (¬ x3 ≤ x4 → (vp_in x1 8 ∧ (Mt d mX5_dx [.int x2] M (ri fun v1 M1 => (vp_in x1 8 ∧ (Mt d mX5_dy [.int x2] M1 (ri fun v2 M2 => (Mt d mX5_isSpot [.int ((M 24 x1.toNatClampNeg) + v1), .int ((M1 25 x1.toNatClampNeg) + v2)] M2 (ri fun v3 M3 => ((v3 = 0 → (((J 0) = 0 → R none (d + 1) mX5_slide 47 [.ref 18, .int x1, .int x2, .int x3, .int x4, .int (J 0), .null, .null] [] M3 Q) ∧ (¬ (J 0) = 0 → (vp_in x1 8 ∧ (vp_in x1 8 ∧ R none (d + 1) mX5_slide 47 [.ref 18, .int x1, .int x2, .int x3, .int (x4 + J 1), .int (J 0), .null, .null] [] (mset (mset M3 24 x1.toNatClampNeg ((M 24 x1.toNatClampNeg) + v1)) 25 x1.toNatClampNeg ((M1 25 x1.toNatClampNeg) + v2)) Q))))) ∧ (¬ v3 = 0 → (Mt d mX5_stand [.ref 18, .int x1, .int ((M 24 x1.toNatClampNeg) + v1), .int ((M1 25 x1.toNatClampNeg) + v2)] M3 (ri fun v4 M4 => ((v4 = 0 → (((J 0) = 0 → R none (d + 1) mX5_slide 47 [.ref 18, .int x1, .int x2, .int x3, .int x4, .int (J 0), .null, .null] [] M4 Q) ∧ (¬ (J 0) = 0 → (vp_in x1 8 ∧ (vp_in x1 8 ∧ R none (d + 1) mX5_slide 47 [.ref 18, .int x1, .int x2, .int x3, .int (x4 + J 1), .int (J 0), .null, .null] [] (mset (mset M4 24 x1.toNatClampNeg ((M 24 x1.toNatClampNeg) + v1)) 25 x1.toNatClampNeg ((M1 25 x1.toNatClampNeg) + v2)) Q))))) ∧ (¬ v4 = 0 → (((J 1) = 0 → R none (d + 1) mX5_slide 47 [.ref 18, .int x1, .int x2, .int x3, .int x4, .int (J 1), .null, .null] [] M4 Q) ∧ (¬ (J 1) = 0 → (vp_in x1 8 ∧ (vp_in x1 8 ∧ R none (d + 1) mX5_slide 47 [.ref 18, .int x1, .int x2, .int x3, .int (x4 + J 1), .int (J 1), .null, .null] [] (mset (mset M4 24 x1.toNatClampNeg ((M 24 x1.toNatClampNeg) + v1)) 25 x1.toNatClampNeg ((M1 25 x1.toNatClampNeg) + v2)) Q))))))))))))))))))))))) : R none (d + 1) mX5_slide 47 [.ref 18, .int x1, .int x2, .int x3, .int x4, .int x5, .null, .null] [] M Q := by
  refine r_iload dX5_slide_47 rfl ?_
  refine r_if_eq (tgt := 140) dX5_slide_49 (by decide) (fun c_49 => ?_) (fun c_49 => ?_)
  · replace h := h.1 c_49
    refine r_iload dX5_slide_140 rfl ?_
    exact r_ret dX5_slide_142 rfl rfl h
  · replace h := h.2 c_49
    refine r_iload dX5_slide_52 rfl ?_
    refine r_iload_n dX5_slide_54 rfl rfl ?_
    refine r_icmp_ge (tgt := 140) dX5_slide_55 (by decide) (fun c_55 => ?_) (fun c_55 => ?_)
    · replace h := h.1 c_55
      refine r_iload dX5_slide_140 rfl ?_
      exact r_ret dX5_slide_142 rfl rfl h
    · replace h := h.2 c_55
      refine r_aload_n dX5_slide_58 rfl rfl ?_
      refine r_getR dX5_slide_59 flX5_33 rfl rfl ?_
      refine r_iload_n dX5_slide_62 rfl rfl ?_
      refine r_iald dX5_slide_63 rfl h.1 ?_
      replace h := h.2
      refine r_iload_n dX5_slide_64 rfl rfl ?_
      refine r_callS (as := [.int x2]) (st := [.int (M 24 x1.toNatClampNeg)]) dX5_slide_65 csX5_95 rfl rfl (Nat.le_of_ble_eq_true rfl) h (fun r M1 h => ?_)
      obtain ⟨v1, rfl, h⟩ := h
      refine r_iadd dX5_slide_68 ?_
      refine r_istore dX5_slide_69 (by decide) rfl ?_
      refine r_aload_n dX5_slide_71 rfl rfl ?_
      refine r_getR dX5_slide_72 flX5_36 rfl rfl ?_
      refine r_iload_n dX5_slide_75 rfl rfl ?_
      refine r_iald dX5_slide_76 rfl h.1 ?_
      replace h := h.2
      refine r_iload_n dX5_slide_77 rfl rfl ?_
      refine r_callS (as := [.int x2]) (st := [.int (M1 25 x1.toNatClampNeg)]) dX5_slide_78 csX5_98 rfl rfl (Nat.le_of_ble_eq_true rfl) h (fun r M2 h => ?_)
      obtain ⟨v2, rfl, h⟩ := h
      refine r_iadd dX5_slide_81 ?_
      refine r_istore dX5_slide_82 (by decide) rfl ?_
      refine r_iload dX5_slide_84 rfl ?_
      refine r_iload dX5_slide_86 rfl ?_
      refine r_callS (as := [.int ((M 24 x1.toNatClampNeg) + v1), .int ((M1 25 x1.toNatClampNeg) + v2)]) (st := []) dX5_slide_88 csX5_89 rfl rfl (Nat.le_of_ble_eq_true rfl) h (fun r M3 h => ?_)
      obtain ⟨v3, rfl, h⟩ := h
      refine r_if_eq (tgt := 110) dX5_slide_91 (by decide) (fun c_91 => ?_) (fun c_91 => ?_)
      · replace h := h.1 c_91
        refine r_iconst (v := J 0) dX5_slide_110 rfl ?_
        refine r_istore dX5_slide_111 (by decide) rfl ?_
        refine r_iload dX5_slide_113 rfl ?_
        refine r_if_eq (tgt := 137) dX5_slide_115 (by decide) (fun c_115 => ?_) (fun c_115 => ?_)
        · replace h := h.1 c_115
          refine r_goto (tgt := 47) dX5_slide_137 (by decide) ?_
          refine r_kill [false, false, false, false, false, false, true, true] rfl ?_
          exact h
        · replace h := h.2 c_115
          refine r_aload_n dX5_slide_118 rfl rfl ?_
          refine r_getR dX5_slide_119 flX5_33 rfl rfl ?_
          refine r_iload_n dX5_slide_122 rfl rfl ?_
          refine r_iload dX5_slide_123 rfl ?_
          refine r_iast dX5_slide_125 rfl h.1 ?_
          replace h := h.2
          refine r_aload_n dX5_slide_126 rfl rfl ?_
          refine r_getR dX5_slide_127 flX5_36 rfl rfl ?_
          refine r_iload_n dX5_slide_130 rfl rfl ?_
          refine r_iload dX5_slide_131 rfl ?_
          refine r_iast dX5_slide_133 rfl h.1 ?_
          replace h := h.2
          refine r_iinc (v := J 1) dX5_slide_134 rfl rfl (by decide) rfl ?_
          refine r_goto (tgt := 47) dX5_slide_137 (by decide) ?_
          refine r_kill [false, false, false, false, false, false, true, true] rfl ?_
          exact h
      · replace h := h.2 c_91
        refine r_aload_n dX5_slide_94 rfl rfl ?_
        refine r_iload_n dX5_slide_95 rfl rfl ?_
        refine r_iload dX5_slide_96 rfl ?_
        refine r_iload dX5_slide_98 rfl ?_
        refine r_callV (as := [.int x1, .int ((M 24 x1.toNatClampNeg) + v1), .int ((M1 25 x1.toNatClampNeg) + v2)]) (st := []) dX5_slide_100 cvX5_92 rfl rfl rfl rfl (Nat.le_of_ble_eq_true rfl) h (fun r M4 h => ?_)
        obtain ⟨v4, rfl, h⟩ := h
        refine r_if_eq (tgt := 110) dX5_slide_103 (by decide) (fun c_103 => ?_) (fun c_103 => ?_)
        · replace h := h.1 c_103
          refine r_iconst (v := J 0) dX5_slide_110 rfl ?_
          refine r_istore dX5_slide_111 (by decide) rfl ?_
          refine r_iload dX5_slide_113 rfl ?_
          refine r_if_eq (tgt := 137) dX5_slide_115 (by decide) (fun c_115 => ?_) (fun c_115 => ?_)
          · replace h := h.1 c_115
            refine r_goto (tgt := 47) dX5_slide_137 (by decide) ?_
            refine r_kill [false, false, false, false, false, false, true, true] rfl ?_
            exact h
          · replace h := h.2 c_115
            refine r_aload_n dX5_slide_118 rfl rfl ?_
            refine r_getR dX5_slide_119 flX5_33 rfl rfl ?_
            refine r_iload_n dX5_slide_122 rfl rfl ?_
            refine r_iload dX5_slide_123 rfl ?_
            refine r_iast dX5_slide_125 rfl h.1 ?_
            replace h := h.2
            refine r_aload_n dX5_slide_126 rfl rfl ?_
            refine r_getR dX5_slide_127 flX5_36 rfl rfl ?_
            refine r_iload_n dX5_slide_130 rfl rfl ?_
            refine r_iload dX5_slide_131 rfl ?_
            refine r_iast dX5_slide_133 rfl h.1 ?_
            replace h := h.2
            refine r_iinc (v := J 1) dX5_slide_134 rfl rfl (by decide) rfl ?_
            refine r_goto (tgt := 47) dX5_slide_137 (by decide) ?_
            refine r_kill [false, false, false, false, false, false, true, true] rfl ?_
            exact h
        · replace h := h.2 c_103
          refine r_iconst (v := J 1) dX5_slide_106 rfl ?_
          refine r_goto (tgt := 111) dX5_slide_107 (by decide) ?_
          refine r_istore dX5_slide_111 (by decide) rfl ?_
          refine r_iload dX5_slide_113 rfl ?_
          refine r_if_eq (tgt := 137) dX5_slide_115 (by decide) (fun c_115 => ?_) (fun c_115 => ?_)
          · replace h := h.1 c_115
            refine r_goto (tgt := 47) dX5_slide_137 (by decide) ?_
            refine r_kill [false, false, false, false, false, false, true, true] rfl ?_
            exact h
          · replace h := h.2 c_115
            refine r_aload_n dX5_slide_118 rfl rfl ?_
            refine r_getR dX5_slide_119 flX5_33 rfl rfl ?_
            refine r_iload_n dX5_slide_122 rfl rfl ?_
            refine r_iload dX5_slide_123 rfl ?_
            refine r_iast dX5_slide_125 rfl h.1 ?_
            replace h := h.2
            refine r_aload_n dX5_slide_126 rfl rfl ?_
            refine r_getR dX5_slide_127 flX5_36 rfl rfl ?_
            refine r_iload_n dX5_slide_130 rfl rfl ?_
            refine r_iload dX5_slide_131 rfl ?_
            refine r_iast dX5_slide_133 rfl h.1 ?_
            replace h := h.2
            refine r_iinc (v := J 1) dX5_slide_134 rfl rfl (by decide) rfl ?_
            refine r_goto (tgt := 47) dX5_slide_137 (by decide) ?_
            refine r_kill [false, false, false, false, false, false, true, true] rfl ?_
            exact h
theorem e_X5_slide {d : Nat} {M : Mem} {Q : Post} {x1 x2 x3 : Int32} (h : (Mt d mX5_isPiece [.ref 18, .int x1] M (ri fun v1 M1 => ((v1 = 0 → Q (some (J (-1))) M1) ∧ (¬ v1 = 0 → (Mt d mX5_in [.int x2, .int (J 0), .int (J 3)] M1 (ri fun v2 M2 => ((v2 = 0 → Q (some (J (-1))) M2) ∧ (¬ v2 = 0 → (Mt d mX5_in [.int x3, .int (J 1), .int (J 20)] M2 (ri fun v3 M3 => ((¬ v3 = 0 → (vp_in x1 8 ∧ ((¬ (M3 23 x1.toNatClampNeg) = 0 → R none (d + 1) mX5_slide 47 [.ref 18, .int x1, .int x2, .int x3, .int (J 0), .int (J 1), .null, .null] [] M3 Q) ∧ ((M3 23 x1.toNatClampNeg) = 0 → Q (some (J (-2))) M3)))) ∧ (v3 = 0 → Q (some (J (-1))) M3))))))))))))) : Mt (d + 1) mX5_slide [.ref 18, .int x1, .int x2, .int x3] M Q := Mt.of (k := 4) (by decide +kernel) (okR (okI (okI (okI okN)))) (Nat.le_of_ble_eq_true rfl) rfl (b_X5_slide_0 h)
set_option maxRecDepth 100000 in
set_option maxHeartbeats 4000000 in
theorem b_X5_spot_0 {d : Nat} {M : Mem} {Q : Post} {x0 x1 : Int32} (h : Q (some ((((J 20) * (x1 + (J 6))) + x0) + (J 6))) M) : R none (d + 1) mX5_spot 0 [.int x0, .int x1] [] M Q := by
  refine r_bipush (v := J 20) dX5_spot_0 (by decide +kernel) ?_
  refine r_iload_n dX5_spot_2 rfl rfl ?_
  refine r_bipush (v := J 6) dX5_spot_3 (by decide +kernel) ?_
  refine r_iadd dX5_spot_5 ?_
  refine r_imul dX5_spot_6 ?_
  refine r_iload_n dX5_spot_7 rfl rfl ?_
  refine r_iadd dX5_spot_8 ?_
  refine r_bipush (v := J 6) dX5_spot_9 (by decide +kernel) ?_
  refine r_iadd dX5_spot_11 ?_
  exact r_ret dX5_spot_12 rfl rfl h
theorem e_X5_spot {d : Nat} {M : Mem} {Q : Post} {x0 x1 : Int32} (h : Q (some ((((J 20) * (x1 + (J 6))) + x0) + (J 6))) M) : Mt (d + 1) mX5_spot [.int x0, .int x1] M Q := Mt.of (k := 0) (by decide +kernel) (okI (okI okN)) (Nat.le_of_ble_eq_true rfl) rfl (b_X5_spot_0 h)
set_option maxRecDepth 100000 in
set_option maxHeartbeats 4000000 in
theorem b_X5_lays_0 {d : Nat} {M : Mem} {Q : Post} {x1 : Int32} (h : R none (d + 1) mX5_lays 2 [.ref 18, .int x1, .int (J 0)] [] M Q) : R none (d + 1) mX5_lays 0 [.ref 18, .int x1, .null] [] M Q := by
  refine r_iconst (v := J 0) dX5_lays_0 rfl ?_
  refine r_istore_n dX5_lays_1 rfl (by decide) rfl ?_
  exact h
set_option maxRecDepth 100000 in
set_option maxHeartbeats 4000000 in
theorem b_X5_lays_2 {d : Nat} {M : Mem} {Q : Post} {x1 x2 : Int32} (h : (((J 400) ≤ x2 → Q none M) ∧ (¬ (J 400) ≤ x2 → (Mt d mX5_stand [.ref 18, .int x1, .int ((x2 - x2 / (J 20) * (J 20)) - (J 6)), .int ((x2 / (J 20)) - (J 6))] M (ri fun v1 M1 => ((v1 = 0 → (vp_in x2 400 ∧ R none (d + 1) mX5_lays 2 [.ref 18, .int x1, .int (x2 + J 1)] [] (mset M1 27 x2.toNatClampNeg (J (-1))) Q)) ∧ (¬ v1 = 0 → (vp_in x2 400 ∧ R none (d + 1) mX5_lays 2 [.ref 18, .int x1, .int (x2 + J 1)] [] (mset M1 27 x2.toNatClampNeg (J (-2))) Q)))))))) : R none (d + 1) mX5_lays 2 [.ref 18, .int x1, .int x2] [] M Q := by
  refine r_iload_n dX5_lays_2 rfl rfl ?_
  refine r_sipush (v := J 400) dX5_lays_3 (by decide +kernel) ?_
  refine r_icmp_ge (tgt := 49) dX5_lays_6 (by decide) (fun c_6 => ?_) (fun c_6 => ?_)
  · replace h := h.1 c_6
    exact r_vret dX5_lays_49 rfl h
  · replace h := h.2 c_6
    refine r_aload_n dX5_lays_9 rfl rfl ?_
    refine r_getR dX5_lays_10 flX5_45 rfl rfl ?_
    refine r_iload_n dX5_lays_13 rfl rfl ?_
    refine r_aload_n dX5_lays_14 rfl rfl ?_
    refine r_iload_n dX5_lays_15 rfl rfl ?_
    refine r_iload_n dX5_lays_16 rfl rfl ?_
    refine r_bipush (v := J 20) dX5_lays_17 (by decide +kernel) ?_
    refine r_irem dX5_lays_19 (by decide +kernel) ?_
    refine r_bipush (v := J 6) dX5_lays_20 (by decide +kernel) ?_
    refine r_isub dX5_lays_22 ?_
    refine r_iload_n dX5_lays_23 rfl rfl ?_
    refine r_bipush (v := J 20) dX5_lays_24 (by decide +kernel) ?_
    refine r_idiv dX5_lays_26 (by decide +kernel) ?_
    refine r_bipush (v := J 6) dX5_lays_27 (by decide +kernel) ?_
    refine r_isub dX5_lays_29 ?_
    refine r_callV (as := [.int x1, .int ((x2 - x2 / (J 20) * (J 20)) - (J 6)), .int ((x2 / (J 20)) - (J 6))]) (st := [.int x2, .ref 27]) dX5_lays_30 cvX5_92 rfl rfl rfl rfl (Nat.le_of_ble_eq_true rfl) h (fun r M1 h => ?_)
    obtain ⟨v1, rfl, h⟩ := h
    refine r_if_eq (tgt := 41) dX5_lays_33 (by decide) (fun c_33 => ?_) (fun c_33 => ?_)
    · replace h := h.1 c_33
      refine r_iconst (v := J (-1)) dX5_lays_41 rfl ?_
      refine r_iast dX5_lays_42 rfl h.1 ?_
      replace h := h.2
      refine r_iinc (v := J 1) dX5_lays_43 rfl rfl (by decide) rfl ?_
      refine r_goto (tgt := 2) dX5_lays_46 (by decide) ?_
      exact h
    · replace h := h.2 c_33
      refine r_bipush (v := J (-2)) dX5_lays_36 (by decide +kernel) ?_
      refine r_goto (tgt := 42) dX5_lays_38 (by decide) ?_
      refine r_iast dX5_lays_42 rfl h.1 ?_
      replace h := h.2
      refine r_iinc (v := J 1) dX5_lays_43 rfl rfl (by decide) rfl ?_
      refine r_goto (tgt := 2) dX5_lays_46 (by decide) ?_
      exact h
theorem e_X5_lays {d : Nat} {M : Mem} {Q : Post} {x1 : Int32} (h : R none (d + 1) mX5_lays 2 [.ref 18, .int x1, .int (J 0)] [] M Q) : Mt (d + 1) mX5_lays [.ref 18, .int x1] M Q := Mt.of (k := 1) (by decide +kernel) (okR (okI okN)) (Nat.le_of_ble_eq_true rfl) rfl (b_X5_lays_0 h)
set_option maxRecDepth 100000 in
set_option maxHeartbeats 4000000 in
theorem b_X5_spreads_0 {d : Nat} {M : Mem} {Q : Post} {x1 : Int32} (h : (vp_in (J 0) 400 ∧ (vp_in x1 400 ∧ R none (d + 1) mX5_spreads 18 [.ref 18, .null, .int (J 1), .int (J 0), .null, .null, .null, .null] [] (mset (mset M 28 (J 0).toNatClampNeg x1) 27 x1.toNatClampNeg (J 0)) Q))) : R none (d + 1) mX5_spreads 0 [.ref 18, .int x1, .null, .null, .null, .null, .null, .null] [] M Q := by
  refine r_iconst (v := J 1) dX5_spreads_0 rfl ?_
  refine r_istore_n dX5_spreads_1 rfl (by decide) rfl ?_
  refine r_aload_n dX5_spreads_2 rfl rfl ?_
  refine r_getR dX5_spreads_3 flX5_48 rfl rfl ?_
  refine r_iconst (v := J 0) dX5_spreads_6 rfl ?_
  refine r_iload_n dX5_spreads_7 rfl rfl ?_
  refine r_iast dX5_spreads_8 rfl h.1 ?_
  replace h := h.2
  refine r_aload_n dX5_spreads_9 rfl rfl ?_
  refine r_getR dX5_spreads_10 flX5_45 rfl rfl ?_
  refine r_iload_n dX5_spreads_13 rfl rfl ?_
  refine r_iconst (v := J 0) dX5_spreads_14 rfl ?_
  refine r_iast dX5_spreads_15 rfl h.1 ?_
  replace h := h.2
  refine r_iconst (v := J 0) dX5_spreads_16 rfl ?_
  refine r_istore_n dX5_spreads_17 rfl (by decide) rfl ?_
  refine r_kill [false, true, false, false, false, false, false, false] rfl ?_
  exact h
set_option maxRecDepth 100000 in
set_option maxHeartbeats 4000000 in
theorem b_X5_spreads_18 {d : Nat} {M : Mem} {Q : Post} {x2 x3 : Int32} (h : ((x2 ≤ x3 → Q none M) ∧ (¬ x2 ≤ x3 → (vp_in x3 400 ∧ R none (d + 1) mX5_spreads 34 [.ref 18, .null, .int x2, .int x3, .int (M 28 x3.toNatClampNeg), .int (J 0), .null, .null] [] M Q)))) : R none (d + 1) mX5_spreads 18 [.ref 18, .null, .int x2, .int x3, .null, .null, .null, .null] [] M Q := by
  refine r_iload_n dX5_spreads_18 rfl rfl ?_
  refine r_iload_n dX5_spreads_19 rfl rfl ?_
  refine r_icmp_ge (tgt := 148) dX5_spreads_20 (by decide) (fun c_20 => ?_) (fun c_20 => ?_)
  · replace h := h.1 c_20
    exact r_vret dX5_spreads_148 rfl h
  · replace h := h.2 c_20
    refine r_aload_n dX5_spreads_23 rfl rfl ?_
    refine r_getR dX5_spreads_24 flX5_48 rfl rfl ?_
    refine r_iload_n dX5_spreads_27 rfl rfl ?_
    refine r_iald dX5_spreads_28 rfl h.1 ?_
    replace h := h.2
    refine r_istore dX5_spreads_29 (by decide) rfl ?_
    refine r_iconst (v := J 0) dX5_spreads_31 rfl ?_
    refine r_istore dX5_spreads_32 (by decide) rfl ?_
    exact h
set_option maxRecDepth 100000 in
set_option maxHeartbeats 4000000 in
theorem b_X5_spreads_34 {d : Nat} {M : Mem} {Q : Post} {x2 x3 x4 x5 : Int32} (h : (((J 4) ≤ x5 → R none (d + 1) mX5_spreads 18 [.ref 18, .null, .int x2, .int (x3 + J 1), .null, .null, .null, .null] [] M Q) ∧ (¬ (J 4) ≤ x5 → (Mt d mX5_dx [.int x5] M (ri fun v1 M1 => (Mt d mX5_dy [.int x5] M1 (ri fun v2 M2 => (Mt d mX5_isSpot [.int (((x4 - x4 / (J 20) * (J 20)) - (J 6)) + v1), .int (((x4 / (J 20)) - (J 6)) + v2)] M2 (ri fun v3 M3 => ((v3 = 0 → R none (d + 1) mX5_spreads 34 [.ref 18, .null, .int x2, .int x3, .int x4, .int (x5 + J 1), .null, .null] [] M3 Q) ∧ (¬ v3 = 0 → (Mt d mX5_spot [.int (((x4 - x4 / (J 20) * (J 20)) - (J 6)) + v1), .int (((x4 / (J 20)) - (J 6)) + v2)] M3 (ri fun v4 M4 => (vp_in v4 400 ∧ ((¬ (M4 27 v4.toNatClampNeg) = (J (-2)) → R none (d + 1) mX5_spreads 34 [.ref 18, .null, .int x2, .int x3, .int x4, .int (x5 + J 1), .null, .null] [] M4 Q) ∧ ((M4 27 v4.toNatClampNeg) = (J (-2)) → (Mt d mX5_spot [.int (((x4 - x4 / (J 20) * (J 20)) - (J 6)) + v1), .int (((x4 / (J 20)) - (J 6)) + v2)] M4 (ri fun v5 M5 => (vp_in x4 400 ∧ (vp_in v5 400 ∧ (Mt d mX5_spot [.int (((x4 - x4 / (J 20) * (J 20)) - (J 6)) + v1), .int (((x4 / (J 20)) - (J 6)) + v2)] (mset M5 27 v5.toNatClampNeg ((M5 27 x4.toNatClampNeg) + (J 1))) (ri fun v6 M6 => (vp_in x2 400 ∧ R none (d + 1) mX5_spreads 34 [.ref 18, .null, .int (x2 + J 1), .int x3, .int x4, .int (x5 + J 1), .null, .null] [] (mset M6 28 x2.toNatClampNeg v6) Q))))))))))))))))))))))) : R none (d + 1) mX5_spreads 34 [.ref 18, .null, .int x2, .int x3, .int x4, .int x5, .null, .null] [] M Q := by
  refine r_iload dX5_spreads_34 rfl ?_
  refine r_iconst (v := J 4) dX5_spreads_36 rfl ?_
  refine r_icmp_ge (tgt := 142) dX5_spreads_37 (by decide) (fun c_37 => ?_) (fun c_37 => ?_)
  · replace h := h.1 c_37
    refine r_iinc (v := J 1) dX5_spreads_142 rfl rfl (by decide) rfl ?_
    refine r_goto (tgt := 18) dX5_spreads_145 (by decide) ?_
    refine r_kill [false, false, false, false, true, true, false, false] rfl ?_
    exact h
  · replace h := h.2 c_37
    refine r_iload dX5_spreads_40 rfl ?_
    refine r_bipush (v := J 20) dX5_spreads_42 (by decide +kernel) ?_
    refine r_irem dX5_spreads_44 (by decide +kernel) ?_
    refine r_bipush (v := J 6) dX5_spreads_45 (by decide +kernel) ?_
    refine r_isub dX5_spreads_47 ?_
    refine r_iload dX5_spreads_48 rfl ?_
    refine r_callS (as := [.int x5]) (st := [.int ((x4 - x4 / (J 20) * (J 20)) - (J 6))]) dX5_spreads_50 csX5_95 rfl rfl (Nat.le_of_ble_eq_true rfl) h (fun r M1 h => ?_)
    obtain ⟨v1, rfl, h⟩ := h
    refine r_iadd dX5_spreads_53 ?_
    refine r_istore dX5_spreads_54 (by decide) rfl ?_
    refine r_iload dX5_spreads_56 rfl ?_
    refine r_bipush (v := J 20) dX5_spreads_58 (by decide +kernel) ?_
    refine r_idiv dX5_spreads_60 (by decide +kernel) ?_
    refine r_bipush (v := J 6) dX5_spreads_61 (by decide +kernel) ?_
    refine r_isub dX5_spreads_63 ?_
    refine r_iload dX5_spreads_64 rfl ?_
    refine r_callS (as := [.int x5]) (st := [.int ((x4 / (J 20)) - (J 6))]) dX5_spreads_66 csX5_98 rfl rfl (Nat.le_of_ble_eq_true rfl) h (fun r M2 h => ?_)
    obtain ⟨v2, rfl, h⟩ := h
    refine r_iadd dX5_spreads_69 ?_
    refine r_istore dX5_spreads_70 (by decide) rfl ?_
    refine r_iload dX5_spreads_72 rfl ?_
    refine r_iload dX5_spreads_74 rfl ?_
    refine r_callS (as := [.int (((x4 - x4 / (J 20) * (J 20)) - (J 6)) + v1), .int (((x4 / (J 20)) - (J 6)) + v2)]) (st := []) dX5_spreads_76 csX5_89 rfl rfl (Nat.le_of_ble_eq_true rfl) h (fun r M3 h => ?_)
    obtain ⟨v3, rfl, h⟩ := h
    refine r_if_eq (tgt := 136) dX5_spreads_79 (by decide) (fun c_79 => ?_) (fun c_79 => ?_)
    · replace h := h.1 c_79
      refine r_iinc (v := J 1) dX5_spreads_136 rfl rfl (by decide) rfl ?_
      refine r_goto (tgt := 34) dX5_spreads_139 (by decide) ?_
      refine r_kill [false, false, false, false, false, false, true, true] rfl ?_
      exact h
    · replace h := h.2 c_79
      refine r_aload_n dX5_spreads_82 rfl rfl ?_
      refine r_getR dX5_spreads_83 flX5_45 rfl rfl ?_
      refine r_iload dX5_spreads_86 rfl ?_
      refine r_iload dX5_spreads_88 rfl ?_
      refine r_callS (as := [.int (((x4 - x4 / (J 20) * (J 20)) - (J 6)) + v1), .int (((x4 / (J 20)) - (J 6)) + v2)]) (st := [.ref 27]) dX5_spreads_90 csX5_101 rfl rfl (Nat.le_of_ble_eq_true rfl) h (fun r M4 h => ?_)
      obtain ⟨v4, rfl, h⟩ := h
      refine r_iald dX5_spreads_93 rfl h.1 ?_
      replace h := h.2
      refine r_bipush (v := J (-2)) dX5_spreads_94 (by decide +kernel) ?_
      refine r_icmp_ne (tgt := 136) dX5_spreads_96 (by decide) (fun c_96 => ?_) (fun c_96 => ?_)
      · replace h := h.1 c_96
        refine r_iinc (v := J 1) dX5_spreads_136 rfl rfl (by decide) rfl ?_
        refine r_goto (tgt := 34) dX5_spreads_139 (by decide) ?_
        refine r_kill [false, false, false, false, false, false, true, true] rfl ?_
        exact h
      · replace h := h.2 c_96
        refine r_aload_n dX5_spreads_99 rfl rfl ?_
        refine r_getR dX5_spreads_100 flX5_45 rfl rfl ?_
        refine r_iload dX5_spreads_103 rfl ?_
        refine r_iload dX5_spreads_105 rfl ?_
        refine r_callS (as := [.int (((x4 - x4 / (J 20) * (J 20)) - (J 6)) + v1), .int (((x4 / (J 20)) - (J 6)) + v2)]) (st := [.ref 27]) dX5_spreads_107 csX5_101 rfl rfl (Nat.le_of_ble_eq_true rfl) h (fun r M5 h => ?_)
        obtain ⟨v5, rfl, h⟩ := h
        refine r_aload_n dX5_spreads_110 rfl rfl ?_
        refine r_getR dX5_spreads_111 flX5_45 rfl rfl ?_
        refine r_iload dX5_spreads_114 rfl ?_
        refine r_iald dX5_spreads_116 rfl h.1 ?_
        replace h := h.2
        refine r_iconst (v := J 1) dX5_spreads_117 rfl ?_
        refine r_iadd dX5_spreads_118 ?_
        refine r_iast dX5_spreads_119 rfl h.1 ?_
        replace h := h.2
        refine r_aload_n dX5_spreads_120 rfl rfl ?_
        refine r_getR dX5_spreads_121 flX5_48 rfl rfl ?_
        refine r_iload_n dX5_spreads_124 rfl rfl ?_
        refine r_iload dX5_spreads_125 rfl ?_
        refine r_iload dX5_spreads_127 rfl ?_
        refine r_callS (as := [.int (((x4 - x4 / (J 20) * (J 20)) - (J 6)) + v1), .int (((x4 / (J 20)) - (J 6)) + v2)]) (st := [.int x2, .ref 28]) dX5_spreads_129 csX5_101 rfl rfl (Nat.le_of_ble_eq_true rfl) h (fun r M6 h => ?_)
        obtain ⟨v6, rfl, h⟩ := h
        refine r_iast dX5_spreads_132 rfl h.1 ?_
        replace h := h.2
        refine r_iinc (v := J 1) dX5_spreads_133 rfl rfl (by decide) rfl ?_
        refine r_iinc (v := J 1) dX5_spreads_136 rfl rfl (by decide) rfl ?_
        refine r_goto (tgt := 34) dX5_spreads_139 (by decide) ?_
        refine r_kill [false, false, false, false, false, false, true, true] rfl ?_
        exact h
theorem e_X5_spreads {d : Nat} {M : Mem} {Q : Post} {x1 : Int32} (h : (vp_in (J 0) 400 ∧ (vp_in x1 400 ∧ R none (d + 1) mX5_spreads 18 [.ref 18, .null, .int (J 1), .int (J 0), .null, .null, .null, .null] [] (mset (mset M 28 (J 0).toNatClampNeg x1) 27 x1.toNatClampNeg (J 0)) Q))) : Mt (d + 1) mX5_spreads [.ref 18, .int x1] M Q := Mt.of (k := 6) (by decide +kernel) (okR (okI okN)) (Nat.le_of_ble_eq_true rfl) rfl (b_X5_spreads_0 h)
set_option maxRecDepth 100000 in
set_option maxHeartbeats 4000000 in
theorem b_X5_way_0 {d : Nat} {M : Mem} {Q : Post} {x1 x2 x3 : Int32} (h : (Mt d mX5_isPiece [.ref 18, .int x1] M (ri fun v1 M1 => ((v1 = 0 → Q (some (J (-1))) M1) ∧ (¬ v1 = 0 → (Mt d mX5_isSpot [.int x2, .int x3] M1 (ri fun v2 M2 => ((¬ v2 = 0 → (vp_in x1 8 ∧ ((¬ (M2 23 x1.toNatClampNeg) = 0 → (Mt d mX5_lays [.ref 18, .int x1] M2 (rn fun M3 => (Mt d mX5_spot [.int x2, .int x3] M3 (ri fun v3 M4 => (vp_in v3 400 ∧ ((¬ (M4 27 v3.toNatClampNeg) = (J (-1)) → (Mt d mX5_spot [.int x2, .int x3] M4 (ri fun v4 M5 => (Mt d mX5_spreads [.ref 18, .int v4] M5 (rn fun M6 => (vp_in x1 8 ∧ (vp_in x1 8 ∧ (Mt d mX5_spot [.int (M6 24 x1.toNatClampNeg), .int (M6 25 x1.toNatClampNeg)] M6 (ri fun v5 M7 => (vp_in v5 400 ∧ ((0 ≤ (M7 27 v5.toNatClampNeg) → R none (d + 1) mX5_way 100 [.ref 18, .null, .null, .null, .int v5, .int (M7 27 v5.toNatClampNeg), .null, .null, .null, .null] [] (mset M7 18 10 (J 0)) Q) ∧ (¬ 0 ≤ (M7 27 v5.toNatClampNeg) → Q (some (J (-4))) M7)))))))))))) ∧ ((M4 27 v3.toNatClampNeg) = (J (-1)) → Q (some (J (-4))) M4)))))))) ∧ ((M2 23 x1.toNatClampNeg) = 0 → Q (some (J (-2))) M2)))) ∧ (v2 = 0 → Q (some (J (-1))) M2))))))))) : R none (d + 1) mX5_way 0 [.ref 18, .int x1, .int x2, .int x3, .null, .null, .null, .null, .null, .null] [] M Q := by
  refine r_aload_n dX5_way_0 rfl rfl ?_
  refine r_iload_n dX5_way_1 rfl rfl ?_
  refine r_callV (as := [.int x1]) (st := []) dX5_way_2 cvX5_77 rfl rfl rfl rfl (Nat.le_of_ble_eq_true rfl) h (fun r M1 h => ?_)
  obtain ⟨v1, rfl, h⟩ := h
  refine r_if_eq (tgt := 16) dX5_way_5 (by decide) (fun c_5 => ?_) (fun c_5 => ?_)
  · replace h := h.1 c_5
    refine r_iconst (v := J (-1)) dX5_way_16 rfl ?_
    exact r_ret dX5_way_17 rfl rfl h
  · replace h := h.2 c_5
    refine r_iload_n dX5_way_8 rfl rfl ?_
    refine r_iload_n dX5_way_9 rfl rfl ?_
    refine r_callS (as := [.int x2, .int x3]) (st := []) dX5_way_10 csX5_89 rfl rfl (Nat.le_of_ble_eq_true rfl) h (fun r M2 h => ?_)
    obtain ⟨v2, rfl, h⟩ := h
    refine r_if_ne (tgt := 18) dX5_way_13 (by decide) (fun c_13 => ?_) (fun c_13 => ?_)
    · replace h := h.1 c_13
      refine r_aload_n dX5_way_18 rfl rfl ?_
      refine r_getR dX5_way_19 flX5_29 rfl rfl ?_
      refine r_iload_n dX5_way_22 rfl rfl ?_
      refine r_zald dX5_way_23 rfl h.1 ?_
      replace h := h.2
      refine r_if_ne (tgt := 30) dX5_way_24 (by decide) (fun c_24 => ?_) (fun c_24 => ?_)
      · replace h := h.1 c_24
        refine r_aload_n dX5_way_30 rfl rfl ?_
        refine r_iload_n dX5_way_31 rfl rfl ?_
        refine r_callV (as := [.int x1]) (st := []) dX5_way_32 cvX5_105 rfl rfl rfl rfl (Nat.le_of_ble_eq_true rfl) h (fun r M3 h => ?_)
        obtain ⟨rfl, h⟩ := h
        refine r_aload_n dX5_way_35 rfl rfl ?_
        refine r_getR dX5_way_36 flX5_45 rfl rfl ?_
        refine r_iload_n dX5_way_39 rfl rfl ?_
        refine r_iload_n dX5_way_40 rfl rfl ?_
        refine r_callS (as := [.int x2, .int x3]) (st := [.ref 27]) dX5_way_41 csX5_101 rfl rfl (Nat.le_of_ble_eq_true rfl) h (fun r M4 h => ?_)
        obtain ⟨v3, rfl, h⟩ := h
        refine r_iald dX5_way_44 rfl h.1 ?_
        replace h := h.2
        refine r_iconst (v := J (-1)) dX5_way_45 rfl ?_
        refine r_icmp_ne (tgt := 52) dX5_way_46 (by decide) (fun c_46 => ?_) (fun c_46 => ?_)
        · replace h := h.1 c_46
          refine r_aload_n dX5_way_52 rfl rfl ?_
          refine r_iload_n dX5_way_53 rfl rfl ?_
          refine r_iload_n dX5_way_54 rfl rfl ?_
          refine r_callS (as := [.int x2, .int x3]) (st := [.ref 18]) dX5_way_55 csX5_101 rfl rfl (Nat.le_of_ble_eq_true rfl) h (fun r M5 h => ?_)
          obtain ⟨v4, rfl, h⟩ := h
          refine r_callV (as := [.int v4]) (st := []) dX5_way_58 cvX5_109 rfl rfl rfl rfl (Nat.le_of_ble_eq_true rfl) h (fun r M6 h => ?_)
          obtain ⟨rfl, h⟩ := h
          refine r_aload_n dX5_way_61 rfl rfl ?_
          refine r_getR dX5_way_62 flX5_33 rfl rfl ?_
          refine r_iload_n dX5_way_65 rfl rfl ?_
          refine r_iald dX5_way_66 rfl h.1 ?_
          replace h := h.2
          refine r_aload_n dX5_way_67 rfl rfl ?_
          refine r_getR dX5_way_68 flX5_36 rfl rfl ?_
          refine r_iload_n dX5_way_71 rfl rfl ?_
          refine r_iald dX5_way_72 rfl h.1 ?_
          replace h := h.2
          refine r_callS (as := [.int (M6 24 x1.toNatClampNeg), .int (M6 25 x1.toNatClampNeg)]) (st := []) dX5_way_73 csX5_101 rfl rfl (Nat.le_of_ble_eq_true rfl) h (fun r M7 h => ?_)
          obtain ⟨v5, rfl, h⟩ := h
          refine r_istore dX5_way_76 (by decide) rfl ?_
          refine r_aload_n dX5_way_78 rfl rfl ?_
          refine r_getR dX5_way_79 flX5_45 rfl rfl ?_
          refine r_iload dX5_way_82 rfl ?_
          refine r_iald dX5_way_84 rfl h.1 ?_
          replace h := h.2
          refine r_istore dX5_way_85 (by decide) rfl ?_
          refine r_iload dX5_way_87 rfl ?_
          refine r_if_ge (tgt := 95) dX5_way_89 (by decide) (fun c_89 => ?_) (fun c_89 => ?_)
          · replace h := h.1 c_89
            refine r_aload_n dX5_way_95 rfl rfl ?_
            refine r_iconst (v := J 0) dX5_way_96 rfl ?_
            refine r_putI dX5_way_97 fwX5_39 rfl rfl ?_
            refine r_kill [false, true, true, true, false, false, false, false, false, false] rfl ?_
            exact h
          · replace h := h.2 c_89
            refine r_bipush (v := J (-4)) dX5_way_92 (by decide +kernel) ?_
            exact r_ret dX5_way_94 rfl rfl h
        · replace h := h.2 c_46
          refine r_bipush (v := J (-4)) dX5_way_49 (by decide +kernel) ?_
          exact r_ret dX5_way_51 rfl rfl h
      · replace h := h.2 c_24
        refine r_bipush (v := J (-2)) dX5_way_27 (by decide +kernel) ?_
        exact r_ret dX5_way_29 rfl rfl h
    · replace h := h.2 c_13
      refine r_iconst (v := J (-1)) dX5_way_16 rfl ?_
      exact r_ret dX5_way_17 rfl rfl h
set_option maxRecDepth 100000 in
set_option maxHeartbeats 4000000 in
theorem b_X5_way_100 {d : Nat} {M : Mem} {Q : Post} {x4 x5 : Int32} (h : (vp_in x4 400 ∧ (((M 27 x4.toNatClampNeg) ≤ 0 → Q (some x5) M) ∧ (¬ (M 27 x4.toNatClampNeg) ≤ 0 → R none (d + 1) mX5_way 116 [.ref 18, .null, .null, .null, .int x4, .int x5, .int (J (-1)), .int (J 3), .null, .null] [] M Q)))) : R none (d + 1) mX5_way 100 [.ref 18, .null, .null, .null, .int x4, .int x5, .null, .null, .null, .null] [] M Q := by
  refine r_aload_n dX5_way_100 rfl rfl ?_
  refine r_getR dX5_way_101 flX5_45 rfl rfl ?_
  refine r_iload dX5_way_104 rfl ?_
  refine r_iald dX5_way_106 rfl h.1 ?_
  replace h := h.2
  refine r_if_le (tgt := 230) dX5_way_107 (by decide) (fun c_107 => ?_) (fun c_107 => ?_)
  · replace h := h.1 c_107
    refine r_iload dX5_way_230 rfl ?_
    exact r_ret dX5_way_232 rfl rfl h
  · replace h := h.2 c_107
    refine r_iconst (v := J (-1)) dX5_way_110 rfl ?_
    refine r_istore dX5_way_111 (by decide) rfl ?_
    refine r_iconst (v := J 3) dX5_way_113 rfl ?_
    refine r_istore dX5_way_114 (by decide) rfl ?_
    exact h
set_option maxRecDepth 100000 in
set_option maxHeartbeats 4000000 in
theorem b_X5_way_116 {d : Nat} {M : Mem} {Q : Post} {x4 x5 x6 x7 : Int32} (h : ((x7 < 0 → R none (d + 1) mX5_way 100 [.ref 18, .null, .null, .null, .int x6, .int x5, .null, .null, .null, .null] [] (mset M 18 10 ((M 18 10) + (J 1))) Q) ∧ (¬ x7 < 0 → (Mt d mX5_dx [.int x7] M (ri fun v1 M1 => (Mt d mX5_dy [.int x7] M1 (ri fun v2 M2 => (Mt d mX5_isSpot [.int (((x4 - x4 / (J 20) * (J 20)) - (J 6)) + v1), .int (((x4 / (J 20)) - (J 6)) + v2)] M2 (ri fun v3 M3 => ((v3 = 0 → R none (d + 1) mX5_way 116 [.ref 18, .null, .null, .null, .int x4, .int x5, .int x6, .int (x7 + J (-1)), .null, .null] [] M3 Q) ∧ (¬ v3 = 0 → (Mt d mX5_spot [.int (((x4 - x4 / (J 20) * (J 20)) - (J 6)) + v1), .int (((x4 / (J 20)) - (J 6)) + v2)] M3 (ri fun v4 M4 => (vp_in v4 400 ∧ (vp_in x4 400 ∧ ((¬ (M4 27 v4.toNatClampNeg) = ((M4 27 x4.toNatClampNeg) - (J 1)) → R none (d + 1) mX5_way 116 [.ref 18, .null, .null, .null, .int x4, .int x5, .int x6, .int (x7 + J (-1)), .null, .null] [] M4 Q) ∧ ((M4 27 v4.toNatClampNeg) = ((M4 27 x4.toNatClampNeg) - (J 1)) → (Mt d mX5_spot [.int (((x4 - x4 / (J 20) * (J 20)) - (J 6)) + v1), .int (((x4 / (J 20)) - (J 6)) + v2)] M4 (ri fun v5 M5 => (vp_in (M5 18 10) 400 ∧ R none (d + 1) mX5_way 116 [.ref 18, .null, .null, .null, .int x4, .int x5, .int v5, .int (x7 + J (-1)), .null, .null] [] (mset M5 26 (M5 18 10).toNatClampNeg x7) Q)))))))))))))))))))) : R none (d + 1) mX5_way 116 [.ref 18, .null, .null, .null, .int x4, .int x5, .int x6, .int x7, .null, .null] [] M Q := by
  refine r_iload dX5_way_116 rfl ?_
  refine r_if_lt (tgt := 213) dX5_way_118 (by decide) (fun c_118 => ?_) (fun c_118 => ?_)
  · replace h := h.1 c_118
    refine r_aload_n dX5_way_213 rfl rfl ?_
    refine r_dup dX5_way_214 rfl ?_
    refine r_getI dX5_way_215 flX5_39 rfl rfl ?_
    refine r_iconst (v := J 1) dX5_way_218 rfl ?_
    refine r_iadd dX5_way_219 ?_
    refine r_putI dX5_way_220 fwX5_39 rfl rfl ?_
    refine r_iload dX5_way_223 rfl ?_
    refine r_istore dX5_way_225 (by decide) rfl ?_
    refine r_goto (tgt := 100) dX5_way_227 (by decide) ?_
    refine r_kill [false, false, false, false, false, false, true, true, false, false] rfl ?_
    exact h
  · replace h := h.2 c_118
    refine r_iload dX5_way_121 rfl ?_
    refine r_bipush (v := J 20) dX5_way_123 (by decide +kernel) ?_
    refine r_irem dX5_way_125 (by decide +kernel) ?_
    refine r_bipush (v := J 6) dX5_way_126 (by decide +kernel) ?_
    refine r_isub dX5_way_128 ?_
    refine r_iload dX5_way_129 rfl ?_
    refine r_callS (as := [.int x7]) (st := [.int ((x4 - x4 / (J 20) * (J 20)) - (J 6))]) dX5_way_131 csX5_95 rfl rfl (Nat.le_of_ble_eq_true rfl) h (fun r M1 h => ?_)
    obtain ⟨v1, rfl, h⟩ := h
    refine r_iadd dX5_way_134 ?_
    refine r_istore dX5_way_135 (by decide) rfl ?_
    refine r_iload dX5_way_137 rfl ?_
    refine r_bipush (v := J 20) dX5_way_139 (by decide +kernel) ?_
    refine r_idiv dX5_way_141 (by decide +kernel) ?_
    refine r_bipush (v := J 6) dX5_way_142 (by decide +kernel) ?_
    refine r_isub dX5_way_144 ?_
    refine r_iload dX5_way_145 rfl ?_
    refine r_callS (as := [.int x7]) (st := [.int ((x4 / (J 20)) - (J 6))]) dX5_way_147 csX5_98 rfl rfl (Nat.le_of_ble_eq_true rfl) h (fun r M2 h => ?_)
    obtain ⟨v2, rfl, h⟩ := h
    refine r_iadd dX5_way_150 ?_
    refine r_istore dX5_way_151 (by decide) rfl ?_
    refine r_iload dX5_way_153 rfl ?_
    refine r_iload dX5_way_155 rfl ?_
    refine r_callS (as := [.int (((x4 - x4 / (J 20) * (J 20)) - (J 6)) + v1), .int (((x4 / (J 20)) - (J 6)) + v2)]) (st := []) dX5_way_157 csX5_89 rfl rfl (Nat.le_of_ble_eq_true rfl) h (fun r M3 h => ?_)
    obtain ⟨v3, rfl, h⟩ := h
    refine r_if_eq (tgt := 207) dX5_way_160 (by decide) (fun c_160 => ?_) (fun c_160 => ?_)
    · replace h := h.1 c_160
      refine r_iinc (v := J (-1)) dX5_way_207 rfl rfl (by decide) rfl ?_
      refine r_goto (tgt := 116) dX5_way_210 (by decide) ?_
      refine r_kill [false, false, false, false, false, false, false, false, true, true] rfl ?_
      exact h
    · replace h := h.2 c_160
      refine r_aload_n dX5_way_163 rfl rfl ?_
      refine r_getR dX5_way_164 flX5_45 rfl rfl ?_
      refine r_iload dX5_way_167 rfl ?_
      refine r_iload dX5_way_169 rfl ?_
      refine r_callS (as := [.int (((x4 - x4 / (J 20) * (J 20)) - (J 6)) + v1), .int (((x4 / (J 20)) - (J 6)) + v2)]) (st := [.ref 27]) dX5_way_171 csX5_101 rfl rfl (Nat.le_of_ble_eq_true rfl) h (fun r M4 h => ?_)
      obtain ⟨v4, rfl, h⟩ := h
      refine r_iald dX5_way_174 rfl h.1 ?_
      replace h := h.2
      refine r_aload_n dX5_way_175 rfl rfl ?_
      refine r_getR dX5_way_176 flX5_45 rfl rfl ?_
      refine r_iload dX5_way_179 rfl ?_
      refine r_iald dX5_way_181 rfl h.1 ?_
      replace h := h.2
      refine r_iconst (v := J 1) dX5_way_182 rfl ?_
      refine r_isub dX5_way_183 ?_
      refine r_icmp_ne (tgt := 207) dX5_way_184 (by decide) (fun c_184 => ?_) (fun c_184 => ?_)
      · replace h := h.1 c_184
        refine r_iinc (v := J (-1)) dX5_way_207 rfl rfl (by decide) rfl ?_
        refine r_goto (tgt := 116) dX5_way_210 (by decide) ?_
        refine r_kill [false, false, false, false, false, false, false, false, true, true] rfl ?_
        exact h
      · replace h := h.2 c_184
        refine r_iload dX5_way_187 rfl ?_
        refine r_iload dX5_way_189 rfl ?_
        refine r_callS (as := [.int (((x4 - x4 / (J 20) * (J 20)) - (J 6)) + v1), .int (((x4 / (J 20)) - (J 6)) + v2)]) (st := []) dX5_way_191 csX5_101 rfl rfl (Nat.le_of_ble_eq_true rfl) h (fun r M5 h => ?_)
        obtain ⟨v5, rfl, h⟩ := h
        refine r_istore dX5_way_194 (by decide) rfl ?_
        refine r_aload_n dX5_way_196 rfl rfl ?_
        refine r_getR dX5_way_197 flX5_42 rfl rfl ?_
        refine r_aload_n dX5_way_200 rfl rfl ?_
        refine r_getI dX5_way_201 flX5_39 rfl rfl ?_
        refine r_iload dX5_way_204 rfl ?_
        refine r_iast dX5_way_206 rfl h.1 ?_
        replace h := h.2
        refine r_iinc (v := J (-1)) dX5_way_207 rfl rfl (by decide) rfl ?_
        refine r_goto (tgt := 116) dX5_way_210 (by decide) ?_
        refine r_kill [false, false, false, false, false, false, false, false, true, true] rfl ?_
        exact h
theorem e_X5_way {d : Nat} {M : Mem} {Q : Post} {x1 x2 x3 : Int32} (h : (Mt d mX5_isPiece [.ref 18, .int x1] M (ri fun v1 M1 => ((v1 = 0 → Q (some (J (-1))) M1) ∧ (¬ v1 = 0 → (Mt d mX5_isSpot [.int x2, .int x3] M1 (ri fun v2 M2 => ((¬ v2 = 0 → (vp_in x1 8 ∧ ((¬ (M2 23 x1.toNatClampNeg) = 0 → (Mt d mX5_lays [.ref 18, .int x1] M2 (rn fun M3 => (Mt d mX5_spot [.int x2, .int x3] M3 (ri fun v3 M4 => (vp_in v3 400 ∧ ((¬ (M4 27 v3.toNatClampNeg) = (J (-1)) → (Mt d mX5_spot [.int x2, .int x3] M4 (ri fun v4 M5 => (Mt d mX5_spreads [.ref 18, .int v4] M5 (rn fun M6 => (vp_in x1 8 ∧ (vp_in x1 8 ∧ (Mt d mX5_spot [.int (M6 24 x1.toNatClampNeg), .int (M6 25 x1.toNatClampNeg)] M6 (ri fun v5 M7 => (vp_in v5 400 ∧ ((0 ≤ (M7 27 v5.toNatClampNeg) → R none (d + 1) mX5_way 100 [.ref 18, .null, .null, .null, .int v5, .int (M7 27 v5.toNatClampNeg), .null, .null, .null, .null] [] (mset M7 18 10 (J 0)) Q) ∧ (¬ 0 ≤ (M7 27 v5.toNatClampNeg) → Q (some (J (-4))) M7)))))))))))) ∧ ((M4 27 v3.toNatClampNeg) = (J (-1)) → Q (some (J (-4))) M4)))))))) ∧ ((M2 23 x1.toNatClampNeg) = 0 → Q (some (J (-2))) M2)))) ∧ (v2 = 0 → Q (some (J (-1))) M2))))))))) : Mt (d + 1) mX5_way [.ref 18, .int x1, .int x2, .int x3] M Q := Mt.of (k := 6) (by decide +kernel) (okR (okI (okI (okI okN)))) (Nat.le_of_ble_eq_true rfl) rfl (b_X5_way_0 h)
set_option maxRecDepth 100000 in
set_option maxHeartbeats 4000000 in
theorem b_X5_stepOf_0 {d : Nat} {M : Mem} {Q : Post} {x1 : Int32} (h : ((0 ≤ x1 → (((M 18 10) ≤ x1 → Q (some (J (-4))) M) ∧ (¬ (M 18 10) ≤ x1 → (vp_in x1 400 ∧ Q (some (M 26 x1.toNatClampNeg)) M)))) ∧ (¬ 0 ≤ x1 → Q (some (J (-1))) M))) : R none (d + 1) mX5_stepOf 0 [.ref 18, .int x1] [] M Q := by
  refine r_iload_n dX5_stepOf_0 rfl rfl ?_
  refine r_if_ge (tgt := 8) dX5_stepOf_1 (by decide) (fun c_1 => ?_) (fun c_1 => ?_)
  · replace h := h.1 c_1
    refine r_iload_n dX5_stepOf_8 rfl rfl ?_
    refine r_aload_n dX5_stepOf_9 rfl rfl ?_
    refine r_getI dX5_stepOf_10 flX5_39 rfl rfl ?_
    refine r_icmp_ge (tgt := 25) dX5_stepOf_13 (by decide) (fun c_13 => ?_) (fun c_13 => ?_)
    · replace h := h.1 c_13
      refine r_bipush (v := J (-4)) dX5_stepOf_25 (by decide +kernel) ?_
      exact r_ret dX5_stepOf_27 rfl rfl h
    · replace h := h.2 c_13
      refine r_aload_n dX5_stepOf_16 rfl rfl ?_
      refine r_getR dX5_stepOf_17 flX5_42 rfl rfl ?_
      refine r_iload_n dX5_stepOf_20 rfl rfl ?_
      refine r_iald dX5_stepOf_21 rfl h.1 ?_
      replace h := h.2
      refine r_goto (tgt := 27) dX5_stepOf_22 (by decide) ?_
      exact r_ret dX5_stepOf_27 rfl rfl h
  · replace h := h.2 c_1
    refine r_iconst (v := J (-1)) dX5_stepOf_4 rfl ?_
    refine r_goto (tgt := 27) dX5_stepOf_5 (by decide) ?_
    exact r_ret dX5_stepOf_27 rfl rfl h
theorem e_X5_stepOf {d : Nat} {M : Mem} {Q : Post} {x1 : Int32} (h : ((0 ≤ x1 → (((M 18 10) ≤ x1 → Q (some (J (-4))) M) ∧ (¬ (M 18 10) ≤ x1 → (vp_in x1 400 ∧ Q (some (M 26 x1.toNatClampNeg)) M)))) ∧ (¬ 0 ≤ x1 → Q (some (J (-1))) M))) : Mt (d + 1) mX5_stepOf [.ref 18, .int x1] M Q := Mt.of (k := 0) (by decide +kernel) (okR (okI okN)) (Nat.le_of_ble_eq_true rfl) rfl (b_X5_stepOf_0 h)
set_option maxRecDepth 100000 in
set_option maxHeartbeats 4000000 in
theorem b_X5_outOf_0 {d : Nat} {M : Mem} {Q : Post} {x1 : Int32} (h : (Mt d mX5_lays [.ref 18, .int x1] M (rn fun M1 => (vp_in x1 8 ∧ (vp_in x1 8 ∧ (Mt d mX5_spot [.int (M1 24 x1.toNatClampNeg), .int (M1 25 x1.toNatClampNeg)] M1 (ri fun v1 M2 => (Mt d mX5_spreads [.ref 18, .int v1] M2 (rn fun M3 => R none (d + 1) mX5_outOf 29 [.ref 18, .int x1, .int (J (-4)), .int (J 0), .null] [] M3 Q))))))))) : R none (d + 1) mX5_outOf 0 [.ref 18, .int x1, .null, .null, .null] [] M Q := by
  refine r_aload_n dX5_outOf_0 rfl rfl ?_
  refine r_iload_n dX5_outOf_1 rfl rfl ?_
  refine r_callV (as := [.int x1]) (st := []) dX5_outOf_2 cvX5_105 rfl rfl rfl rfl (Nat.le_of_ble_eq_true rfl) h (fun r M1 h => ?_)
  obtain ⟨rfl, h⟩ := h
  refine r_aload_n dX5_outOf_5 rfl rfl ?_
  refine r_aload_n dX5_outOf_6 rfl rfl ?_
  refine r_getR dX5_outOf_7 flX5_33 rfl rfl ?_
  refine r_iload_n dX5_outOf_10 rfl rfl ?_
  refine r_iald dX5_outOf_11 rfl h.1 ?_
  replace h := h.2
  refine r_aload_n dX5_outOf_12 rfl rfl ?_
  refine r_getR dX5_outOf_13 flX5_36 rfl rfl ?_
  refine r_iload_n dX5_outOf_16 rfl rfl ?_
  refine r_iald dX5_outOf_17 rfl h.1 ?_
  replace h := h.2
  refine r_callS (as := [.int (M1 24 x1.toNatClampNeg), .int (M1 25 x1.toNatClampNeg)]) (st := [.ref 18]) dX5_outOf_18 csX5_101 rfl rfl (Nat.le_of_ble_eq_true rfl) h (fun r M2 h => ?_)
  obtain ⟨v1, rfl, h⟩ := h
  refine r_callV (as := [.int v1]) (st := []) dX5_outOf_21 cvX5_109 rfl rfl rfl rfl (Nat.le_of_ble_eq_true rfl) h (fun r M3 h => ?_)
  obtain ⟨rfl, h⟩ := h
  refine r_bipush (v := J (-4)) dX5_outOf_24 (by decide +kernel) ?_
  refine r_istore_n dX5_outOf_26 rfl (by decide) rfl ?_
  refine r_iconst (v := J 0) dX5_outOf_27 rfl ?_
  refine r_istore_n dX5_outOf_28 rfl (by decide) rfl ?_
  exact h
set_option maxRecDepth 100000 in
set_option maxHeartbeats 4000000 in
theorem b_X5_outOf_29 {d : Nat} {M : Mem} {Q : Post} {x1 x2 x3 : Int32} (h : (((J 400) ≤ x3 → Q (some x2) M) ∧ (¬ (J 400) ≤ x3 → (vp_in x3 400 ∧ (((M 27 x3.toNatClampNeg) < 0 → (((J 0) = 0 → R none (d + 1) mX5_outOf 29 [.ref 18, .int x1, .int x2, .int (x3 + J 1), .null] [] M Q) ∧ (¬ (J 0) = 0 → (Mt d mX5_onBoard [.ref 18, .int x1, .int ((x3 - x3 / (J 20) * (J 20)) - (J 6)), .int ((x3 / (J 20)) - (J 6))] M (ri fun v1 M1 => ((¬ v1 = 0 → R none (d + 1) mX5_outOf 29 [.ref 18, .int x1, .int x2, .int (x3 + J 1), .null] [] M1 Q) ∧ (v1 = 0 → (vp_in x3 400 ∧ R none (d + 1) mX5_outOf 29 [.ref 18, .int x1, .int (M1 27 x3.toNatClampNeg), .int (x3 + J 1), .null] [] M1 Q)))))))) ∧ (¬ (M 27 x3.toNatClampNeg) < 0 → ((x2 < 0 → (((J 1) = 0 → R none (d + 1) mX5_outOf 29 [.ref 18, .int x1, .int x2, .int (x3 + J 1), .null] [] M Q) ∧ (¬ (J 1) = 0 → (Mt d mX5_onBoard [.ref 18, .int x1, .int ((x3 - x3 / (J 20) * (J 20)) - (J 6)), .int ((x3 / (J 20)) - (J 6))] M (ri fun v2 M2 => ((¬ v2 = 0 → R none (d + 1) mX5_outOf 29 [.ref 18, .int x1, .int x2, .int (x3 + J 1), .null] [] M2 Q) ∧ (v2 = 0 → (vp_in x3 400 ∧ R none (d + 1) mX5_outOf 29 [.ref 18, .int x1, .int (M2 27 x3.toNatClampNeg), .int (x3 + J 1), .null] [] M2 Q)))))))) ∧ (¬ x2 < 0 → (vp_in x3 400 ∧ ((x2 ≤ (M 27 x3.toNatClampNeg) → (((J 0) = 0 → R none (d + 1) mX5_outOf 29 [.ref 18, .int x1, .int x2, .int (x3 + J 1), .null] [] M Q) ∧ (¬ (J 0) = 0 → (Mt d mX5_onBoard [.ref 18, .int x1, .int ((x3 - x3 / (J 20) * (J 20)) - (J 6)), .int ((x3 / (J 20)) - (J 6))] M (ri fun v3 M3 => ((¬ v3 = 0 → R none (d + 1) mX5_outOf 29 [.ref 18, .int x1, .int x2, .int (x3 + J 1), .null] [] M3 Q) ∧ (v3 = 0 → (vp_in x3 400 ∧ R none (d + 1) mX5_outOf 29 [.ref 18, .int x1, .int (M3 27 x3.toNatClampNeg), .int (x3 + J 1), .null] [] M3 Q)))))))) ∧ (¬ x2 ≤ (M 27 x3.toNatClampNeg) → (((J 1) = 0 → R none (d + 1) mX5_outOf 29 [.ref 18, .int x1, .int x2, .int (x3 + J 1), .null] [] M Q) ∧ (¬ (J 1) = 0 → (Mt d mX5_onBoard [.ref 18, .int x1, .int ((x3 - x3 / (J 20) * (J 20)) - (J 6)), .int ((x3 / (J 20)) - (J 6))] M (ri fun v4 M4 => ((¬ v4 = 0 → R none (d + 1) mX5_outOf 29 [.ref 18, .int x1, .int x2, .int (x3 + J 1), .null] [] M4 Q) ∧ (v4 = 0 → (vp_in x3 400 ∧ R none (d + 1) mX5_outOf 29 [.ref 18, .int x1, .int (M4 27 x3.toNatClampNeg), .int (x3 + J 1), .null] [] M4 Q)))))))))))))))))) : R none (d + 1) mX5_outOf 29 [.ref 18, .int x1, .int x2, .int x3, .null] [] M Q := by
  refine r_iload_n dX5_outOf_29 rfl rfl ?_
  refine r_sipush (v := J 400) dX5_outOf_30 (by decide +kernel) ?_
  refine r_icmp_ge (tgt := 110) dX5_outOf_33 (by decide) (fun c_33 => ?_) (fun c_33 => ?_)
  · replace h := h.1 c_33
    refine r_iload_n dX5_outOf_110 rfl rfl ?_
    exact r_ret dX5_outOf_111 rfl rfl h
  · replace h := h.2 c_33
    refine r_aload_n dX5_outOf_36 rfl rfl ?_
    refine r_getR dX5_outOf_37 flX5_45 rfl rfl ?_
    refine r_iload_n dX5_outOf_40 rfl rfl ?_
    refine r_iald dX5_outOf_41 rfl h.1 ?_
    replace h := h.2
    refine r_if_lt (tgt := 63) dX5_outOf_42 (by decide) (fun c_42 => ?_) (fun c_42 => ?_)
    · replace h := h.1 c_42
      refine r_iconst (v := J 0) dX5_outOf_63 rfl ?_
      refine r_istore dX5_outOf_64 (by decide) rfl ?_
      refine r_iload dX5_outOf_66 rfl ?_
      refine r_if_eq (tgt := 102) dX5_outOf_68 (by decide) (fun c_68 => ?_) (fun c_68 => ?_)
      · replace h := h.1 c_68
        refine r_iload_n dX5_outOf_102 rfl rfl ?_
        refine r_istore_n dX5_outOf_103 rfl (by decide) rfl ?_
        refine r_iinc (v := J 1) dX5_outOf_104 rfl rfl (by decide) rfl ?_
        refine r_goto (tgt := 29) dX5_outOf_107 (by decide) ?_
        refine r_kill [false, false, false, false, true] rfl ?_
        exact h
      · replace h := h.2 c_68
        refine r_aload_n dX5_outOf_71 rfl rfl ?_
        refine r_iload_n dX5_outOf_72 rfl rfl ?_
        refine r_iload_n dX5_outOf_73 rfl rfl ?_
        refine r_bipush (v := J 20) dX5_outOf_74 (by decide +kernel) ?_
        refine r_irem dX5_outOf_76 (by decide +kernel) ?_
        refine r_bipush (v := J 6) dX5_outOf_77 (by decide +kernel) ?_
        refine r_isub dX5_outOf_79 ?_
        refine r_iload_n dX5_outOf_80 rfl rfl ?_
        refine r_bipush (v := J 20) dX5_outOf_81 (by decide +kernel) ?_
        refine r_idiv dX5_outOf_83 (by decide +kernel) ?_
        refine r_bipush (v := J 6) dX5_outOf_84 (by decide +kernel) ?_
        refine r_isub dX5_outOf_86 ?_
        refine r_callV (as := [.int x1, .int ((x3 - x3 / (J 20) * (J 20)) - (J 6)), .int ((x3 / (J 20)) - (J 6))]) (st := []) dX5_outOf_87 cvX5_85 rfl rfl rfl rfl (Nat.le_of_ble_eq_true rfl) h (fun r M1 h => ?_)
        obtain ⟨v1, rfl, h⟩ := h
        refine r_if_ne (tgt := 102) dX5_outOf_90 (by decide) (fun c_90 => ?_) (fun c_90 => ?_)
        · replace h := h.1 c_90
          refine r_iload_n dX5_outOf_102 rfl rfl ?_
          refine r_istore_n dX5_outOf_103 rfl (by decide) rfl ?_
          refine r_iinc (v := J 1) dX5_outOf_104 rfl rfl (by decide) rfl ?_
          refine r_goto (tgt := 29) dX5_outOf_107 (by decide) ?_
          refine r_kill [false, false, false, false, true] rfl ?_
          exact h
        · replace h := h.2 c_90
          refine r_aload_n dX5_outOf_93 rfl rfl ?_
          refine r_getR dX5_outOf_94 flX5_45 rfl rfl ?_
          refine r_iload_n dX5_outOf_97 rfl rfl ?_
          refine r_iald dX5_outOf_98 rfl h.1 ?_
          replace h := h.2
          refine r_goto (tgt := 103) dX5_outOf_99 (by decide) ?_
          refine r_istore_n dX5_outOf_103 rfl (by decide) rfl ?_
          refine r_iinc (v := J 1) dX5_outOf_104 rfl rfl (by decide) rfl ?_
          refine r_goto (tgt := 29) dX5_outOf_107 (by decide) ?_
          refine r_kill [false, false, false, false, true] rfl ?_
          exact h
    · replace h := h.2 c_42
      refine r_iload_n dX5_outOf_45 rfl rfl ?_
      refine r_if_lt (tgt := 59) dX5_outOf_46 (by decide) (fun c_46 => ?_) (fun c_46 => ?_)
      · replace h := h.1 c_46
        refine r_iconst (v := J 1) dX5_outOf_59 rfl ?_
        refine r_goto (tgt := 64) dX5_outOf_60 (by decide) ?_
        refine r_istore dX5_outOf_64 (by decide) rfl ?_
        refine r_iload dX5_outOf_66 rfl ?_
        refine r_if_eq (tgt := 102) dX5_outOf_68 (by decide) (fun c_68 => ?_) (fun c_68 => ?_)
        · replace h := h.1 c_68
          refine r_iload_n dX5_outOf_102 rfl rfl ?_
          refine r_istore_n dX5_outOf_103 rfl (by decide) rfl ?_
          refine r_iinc (v := J 1) dX5_outOf_104 rfl rfl (by decide) rfl ?_
          refine r_goto (tgt := 29) dX5_outOf_107 (by decide) ?_
          refine r_kill [false, false, false, false, true] rfl ?_
          exact h
        · replace h := h.2 c_68
          refine r_aload_n dX5_outOf_71 rfl rfl ?_
          refine r_iload_n dX5_outOf_72 rfl rfl ?_
          refine r_iload_n dX5_outOf_73 rfl rfl ?_
          refine r_bipush (v := J 20) dX5_outOf_74 (by decide +kernel) ?_
          refine r_irem dX5_outOf_76 (by decide +kernel) ?_
          refine r_bipush (v := J 6) dX5_outOf_77 (by decide +kernel) ?_
          refine r_isub dX5_outOf_79 ?_
          refine r_iload_n dX5_outOf_80 rfl rfl ?_
          refine r_bipush (v := J 20) dX5_outOf_81 (by decide +kernel) ?_
          refine r_idiv dX5_outOf_83 (by decide +kernel) ?_
          refine r_bipush (v := J 6) dX5_outOf_84 (by decide +kernel) ?_
          refine r_isub dX5_outOf_86 ?_
          refine r_callV (as := [.int x1, .int ((x3 - x3 / (J 20) * (J 20)) - (J 6)), .int ((x3 / (J 20)) - (J 6))]) (st := []) dX5_outOf_87 cvX5_85 rfl rfl rfl rfl (Nat.le_of_ble_eq_true rfl) h (fun r M2 h => ?_)
          obtain ⟨v2, rfl, h⟩ := h
          refine r_if_ne (tgt := 102) dX5_outOf_90 (by decide) (fun c_90 => ?_) (fun c_90 => ?_)
          · replace h := h.1 c_90
            refine r_iload_n dX5_outOf_102 rfl rfl ?_
            refine r_istore_n dX5_outOf_103 rfl (by decide) rfl ?_
            refine r_iinc (v := J 1) dX5_outOf_104 rfl rfl (by decide) rfl ?_
            refine r_goto (tgt := 29) dX5_outOf_107 (by decide) ?_
            refine r_kill [false, false, false, false, true] rfl ?_
            exact h
          · replace h := h.2 c_90
            refine r_aload_n dX5_outOf_93 rfl rfl ?_
            refine r_getR dX5_outOf_94 flX5_45 rfl rfl ?_
            refine r_iload_n dX5_outOf_97 rfl rfl ?_
            refine r_iald dX5_outOf_98 rfl h.1 ?_
            replace h := h.2
            refine r_goto (tgt := 103) dX5_outOf_99 (by decide) ?_
            refine r_istore_n dX5_outOf_103 rfl (by decide) rfl ?_
            refine r_iinc (v := J 1) dX5_outOf_104 rfl rfl (by decide) rfl ?_
            refine r_goto (tgt := 29) dX5_outOf_107 (by decide) ?_
            refine r_kill [false, false, false, false, true] rfl ?_
            exact h
      · replace h := h.2 c_46
        refine r_aload_n dX5_outOf_49 rfl rfl ?_
        refine r_getR dX5_outOf_50 flX5_45 rfl rfl ?_
        refine r_iload_n dX5_outOf_53 rfl rfl ?_
        refine r_iald dX5_outOf_54 rfl h.1 ?_
        replace h := h.2
        refine r_iload_n dX5_outOf_55 rfl rfl ?_
        refine r_icmp_ge (tgt := 63) dX5_outOf_56 (by decide) (fun c_56 => ?_) (fun c_56 => ?_)
        · replace h := h.1 c_56
          refine r_iconst (v := J 0) dX5_outOf_63 rfl ?_
          refine r_istore dX5_outOf_64 (by decide) rfl ?_
          refine r_iload dX5_outOf_66 rfl ?_
          refine r_if_eq (tgt := 102) dX5_outOf_68 (by decide) (fun c_68 => ?_) (fun c_68 => ?_)
          · replace h := h.1 c_68
            refine r_iload_n dX5_outOf_102 rfl rfl ?_
            refine r_istore_n dX5_outOf_103 rfl (by decide) rfl ?_
            refine r_iinc (v := J 1) dX5_outOf_104 rfl rfl (by decide) rfl ?_
            refine r_goto (tgt := 29) dX5_outOf_107 (by decide) ?_
            refine r_kill [false, false, false, false, true] rfl ?_
            exact h
          · replace h := h.2 c_68
            refine r_aload_n dX5_outOf_71 rfl rfl ?_
            refine r_iload_n dX5_outOf_72 rfl rfl ?_
            refine r_iload_n dX5_outOf_73 rfl rfl ?_
            refine r_bipush (v := J 20) dX5_outOf_74 (by decide +kernel) ?_
            refine r_irem dX5_outOf_76 (by decide +kernel) ?_
            refine r_bipush (v := J 6) dX5_outOf_77 (by decide +kernel) ?_
            refine r_isub dX5_outOf_79 ?_
            refine r_iload_n dX5_outOf_80 rfl rfl ?_
            refine r_bipush (v := J 20) dX5_outOf_81 (by decide +kernel) ?_
            refine r_idiv dX5_outOf_83 (by decide +kernel) ?_
            refine r_bipush (v := J 6) dX5_outOf_84 (by decide +kernel) ?_
            refine r_isub dX5_outOf_86 ?_
            refine r_callV (as := [.int x1, .int ((x3 - x3 / (J 20) * (J 20)) - (J 6)), .int ((x3 / (J 20)) - (J 6))]) (st := []) dX5_outOf_87 cvX5_85 rfl rfl rfl rfl (Nat.le_of_ble_eq_true rfl) h (fun r M3 h => ?_)
            obtain ⟨v3, rfl, h⟩ := h
            refine r_if_ne (tgt := 102) dX5_outOf_90 (by decide) (fun c_90 => ?_) (fun c_90 => ?_)
            · replace h := h.1 c_90
              refine r_iload_n dX5_outOf_102 rfl rfl ?_
              refine r_istore_n dX5_outOf_103 rfl (by decide) rfl ?_
              refine r_iinc (v := J 1) dX5_outOf_104 rfl rfl (by decide) rfl ?_
              refine r_goto (tgt := 29) dX5_outOf_107 (by decide) ?_
              refine r_kill [false, false, false, false, true] rfl ?_
              exact h
            · replace h := h.2 c_90
              refine r_aload_n dX5_outOf_93 rfl rfl ?_
              refine r_getR dX5_outOf_94 flX5_45 rfl rfl ?_
              refine r_iload_n dX5_outOf_97 rfl rfl ?_
              refine r_iald dX5_outOf_98 rfl h.1 ?_
              replace h := h.2
              refine r_goto (tgt := 103) dX5_outOf_99 (by decide) ?_
              refine r_istore_n dX5_outOf_103 rfl (by decide) rfl ?_
              refine r_iinc (v := J 1) dX5_outOf_104 rfl rfl (by decide) rfl ?_
              refine r_goto (tgt := 29) dX5_outOf_107 (by decide) ?_
              refine r_kill [false, false, false, false, true] rfl ?_
              exact h
        · replace h := h.2 c_56
          refine r_iconst (v := J 1) dX5_outOf_59 rfl ?_
          refine r_goto (tgt := 64) dX5_outOf_60 (by decide) ?_
          refine r_istore dX5_outOf_64 (by decide) rfl ?_
          refine r_iload dX5_outOf_66 rfl ?_
          refine r_if_eq (tgt := 102) dX5_outOf_68 (by decide) (fun c_68 => ?_) (fun c_68 => ?_)
          · replace h := h.1 c_68
            refine r_iload_n dX5_outOf_102 rfl rfl ?_
            refine r_istore_n dX5_outOf_103 rfl (by decide) rfl ?_
            refine r_iinc (v := J 1) dX5_outOf_104 rfl rfl (by decide) rfl ?_
            refine r_goto (tgt := 29) dX5_outOf_107 (by decide) ?_
            refine r_kill [false, false, false, false, true] rfl ?_
            exact h
          · replace h := h.2 c_68
            refine r_aload_n dX5_outOf_71 rfl rfl ?_
            refine r_iload_n dX5_outOf_72 rfl rfl ?_
            refine r_iload_n dX5_outOf_73 rfl rfl ?_
            refine r_bipush (v := J 20) dX5_outOf_74 (by decide +kernel) ?_
            refine r_irem dX5_outOf_76 (by decide +kernel) ?_
            refine r_bipush (v := J 6) dX5_outOf_77 (by decide +kernel) ?_
            refine r_isub dX5_outOf_79 ?_
            refine r_iload_n dX5_outOf_80 rfl rfl ?_
            refine r_bipush (v := J 20) dX5_outOf_81 (by decide +kernel) ?_
            refine r_idiv dX5_outOf_83 (by decide +kernel) ?_
            refine r_bipush (v := J 6) dX5_outOf_84 (by decide +kernel) ?_
            refine r_isub dX5_outOf_86 ?_
            refine r_callV (as := [.int x1, .int ((x3 - x3 / (J 20) * (J 20)) - (J 6)), .int ((x3 / (J 20)) - (J 6))]) (st := []) dX5_outOf_87 cvX5_85 rfl rfl rfl rfl (Nat.le_of_ble_eq_true rfl) h (fun r M4 h => ?_)
            obtain ⟨v4, rfl, h⟩ := h
            refine r_if_ne (tgt := 102) dX5_outOf_90 (by decide) (fun c_90 => ?_) (fun c_90 => ?_)
            · replace h := h.1 c_90
              refine r_iload_n dX5_outOf_102 rfl rfl ?_
              refine r_istore_n dX5_outOf_103 rfl (by decide) rfl ?_
              refine r_iinc (v := J 1) dX5_outOf_104 rfl rfl (by decide) rfl ?_
              refine r_goto (tgt := 29) dX5_outOf_107 (by decide) ?_
              refine r_kill [false, false, false, false, true] rfl ?_
              exact h
            · replace h := h.2 c_90
              refine r_aload_n dX5_outOf_93 rfl rfl ?_
              refine r_getR dX5_outOf_94 flX5_45 rfl rfl ?_
              refine r_iload_n dX5_outOf_97 rfl rfl ?_
              refine r_iald dX5_outOf_98 rfl h.1 ?_
              replace h := h.2
              refine r_goto (tgt := 103) dX5_outOf_99 (by decide) ?_
              refine r_istore_n dX5_outOf_103 rfl (by decide) rfl ?_
              refine r_iinc (v := J 1) dX5_outOf_104 rfl rfl (by decide) rfl ?_
              refine r_goto (tgt := 29) dX5_outOf_107 (by decide) ?_
              refine r_kill [false, false, false, false, true] rfl ?_
              exact h
theorem e_X5_outOf {d : Nat} {M : Mem} {Q : Post} {x1 : Int32} (h : (Mt d mX5_lays [.ref 18, .int x1] M (rn fun M1 => (vp_in x1 8 ∧ (vp_in x1 8 ∧ (Mt d mX5_spot [.int (M1 24 x1.toNatClampNeg), .int (M1 25 x1.toNatClampNeg)] M1 (ri fun v1 M2 => (Mt d mX5_spreads [.ref 18, .int v1] M2 (rn fun M3 => R none (d + 1) mX5_outOf 29 [.ref 18, .int x1, .int (J (-4)), .int (J 0), .null] [] M3 Q))))))))) : Mt (d + 1) mX5_outOf [.ref 18, .int x1] M Q := Mt.of (k := 3) (by decide +kernel) (okR (okI okN)) (Nat.le_of_ble_eq_true rfl) rfl (b_X5_outOf_0 h)
set_option maxRecDepth 100000 in
set_option maxHeartbeats 4000000 in
theorem b_X5_out_0 {d : Nat} {M : Mem} {Q : Post} {x1 : Int32} (h : (Mt d mX5_isPiece [.ref 18, .int x1] M (ri fun v1 M1 => ((¬ v1 = 0 → (vp_in x1 8 ∧ (((M1 23 x1.toNatClampNeg) = 0 → Q (some (J (-2))) M1) ∧ (¬ (M1 23 x1.toNatClampNeg) = 0 → (Mt d mX5_outOf [.ref 18, .int x1] M1 (ri fun v2 M2 => Q (some v2) M2)))))) ∧ (v1 = 0 → Q (some (J (-1))) M1))))) : R none (d + 1) mX5_out 0 [.ref 18, .int x1] [] M Q := by
  refine r_aload_n dX5_out_0 rfl rfl ?_
  refine r_iload_n dX5_out_1 rfl rfl ?_
  refine r_callV (as := [.int x1]) (st := []) dX5_out_2 cvX5_77 rfl rfl rfl rfl (Nat.le_of_ble_eq_true rfl) h (fun r M1 h => ?_)
  obtain ⟨v1, rfl, h⟩ := h
  refine r_if_ne (tgt := 10) dX5_out_5 (by decide) (fun c_5 => ?_) (fun c_5 => ?_)
  · replace h := h.1 c_5
    refine r_aload_n dX5_out_10 rfl rfl ?_
    refine r_getR dX5_out_11 flX5_29 rfl rfl ?_
    refine r_iload_n dX5_out_14 rfl rfl ?_
    refine r_zald dX5_out_15 rfl h.1 ?_
    replace h := h.2
    refine r_if_eq (tgt := 27) dX5_out_16 (by decide) (fun c_16 => ?_) (fun c_16 => ?_)
    · replace h := h.1 c_16
      refine r_bipush (v := J (-2)) dX5_out_27 (by decide +kernel) ?_
      exact r_ret dX5_out_29 rfl rfl h
    · replace h := h.2 c_16
      refine r_aload_n dX5_out_19 rfl rfl ?_
      refine r_iload_n dX5_out_20 rfl rfl ?_
      refine r_callV (as := [.int x1]) (st := []) dX5_out_21 cvX5_112 rfl rfl rfl rfl (Nat.le_of_ble_eq_true rfl) h (fun r M2 h => ?_)
      obtain ⟨v2, rfl, h⟩ := h
      refine r_goto (tgt := 29) dX5_out_24 (by decide) ?_
      exact r_ret dX5_out_29 rfl rfl h
  · replace h := h.2 c_5
    refine r_iconst (v := J (-1)) dX5_out_8 rfl ?_
    exact r_ret dX5_out_9 rfl rfl h
theorem e_X5_out {d : Nat} {M : Mem} {Q : Post} {x1 : Int32} (h : (Mt d mX5_isPiece [.ref 18, .int x1] M (ri fun v1 M1 => ((¬ v1 = 0 → (vp_in x1 8 ∧ (((M1 23 x1.toNatClampNeg) = 0 → Q (some (J (-2))) M1) ∧ (¬ (M1 23 x1.toNatClampNeg) = 0 → (Mt d mX5_outOf [.ref 18, .int x1] M1 (ri fun v2 M2 => Q (some v2) M2)))))) ∧ (v1 = 0 → Q (some (J (-1))) M1))))) : Mt (d + 1) mX5_out [.ref 18, .int x1] M Q := Mt.of (k := 0) (by decide +kernel) (okR (okI okN)) (Nat.le_of_ble_eq_true rfl) rfl (b_X5_out_0 h)
set_option maxRecDepth 100000 in
set_option maxHeartbeats 4000000 in
theorem b_X5_places_0 {d : Nat} {M : Mem} {Q : Post} {x1 x2 : Int32} (h : (Mt d mX5_isPiece [.ref 18, .int x1] M (ri fun v1 M1 => ((v1 = 0 → Q (some (J (-1))) M1) ∧ (¬ v1 = 0 → (Mt d mX5_in [.int x2, .int (J 0), .int (J 1)] M1 (ri fun v2 M2 => ((¬ v2 = 0 → (Mt d mX5_lays [.ref 18, .int x1] M2 (rn fun M3 => ((¬ x2 = 0 → R none (d + 1) mX5_places 109 [.ref 18, .int x1, .null, .int (J 0), .int (J 0), .null] [] M3 Q) ∧ (x2 = 0 → (vp_in x1 8 ∧ (Mt d mX5_squares [.int (M3 20 x1.toNatClampNeg)] M3 (ri fun v3 M4 => R none (d + 1) mX5_places 44 [.ref 18, .int x1, .null, .int (J 0), .int v3, .int (J 0)] [] M4 Q)))))))) ∧ (v2 = 0 → Q (some (J (-1))) M2))))))))) : R none (d + 1) mX5_places 0 [.ref 18, .int x1, .int x2, .null, .null, .null] [] M Q := by
  refine r_aload_n dX5_places_0 rfl rfl ?_
  refine r_iload_n dX5_places_1 rfl rfl ?_
  refine r_callV (as := [.int x1]) (st := []) dX5_places_2 cvX5_77 rfl rfl rfl rfl (Nat.le_of_ble_eq_true rfl) h (fun r M1 h => ?_)
  obtain ⟨v1, rfl, h⟩ := h
  refine r_if_eq (tgt := 17) dX5_places_5 (by decide) (fun c_5 => ?_) (fun c_5 => ?_)
  · replace h := h.1 c_5
    refine r_iconst (v := J (-1)) dX5_places_17 rfl ?_
    exact r_ret dX5_places_18 rfl rfl h
  · replace h := h.2 c_5
    refine r_iload_n dX5_places_8 rfl rfl ?_
    refine r_iconst (v := J 0) dX5_places_9 rfl ?_
    refine r_iconst (v := J 1) dX5_places_10 rfl ?_
    refine r_callS (as := [.int x2, .int (J 0), .int (J 1)]) (st := []) dX5_places_11 csX5_63 rfl rfl (Nat.le_of_ble_eq_true rfl) h (fun r M2 h => ?_)
    obtain ⟨v2, rfl, h⟩ := h
    refine r_if_ne (tgt := 19) dX5_places_14 (by decide) (fun c_14 => ?_) (fun c_14 => ?_)
    · replace h := h.1 c_14
      refine r_aload_n dX5_places_19 rfl rfl ?_
      refine r_iload_n dX5_places_20 rfl rfl ?_
      refine r_callV (as := [.int x1]) (st := []) dX5_places_21 cvX5_105 rfl rfl rfl rfl (Nat.le_of_ble_eq_true rfl) h (fun r M3 h => ?_)
      obtain ⟨rfl, h⟩ := h
      refine r_iconst (v := J 0) dX5_places_24 rfl ?_
      refine r_istore_n dX5_places_25 rfl (by decide) rfl ?_
      refine r_iload_n dX5_places_26 rfl rfl ?_
      refine r_if_ne (tgt := 106) dX5_places_27 (by decide) (fun c_27 => ?_) (fun c_27 => ?_)
      · replace h := h.1 c_27
        refine r_iconst (v := J 0) dX5_places_106 rfl ?_
        refine r_istore dX5_places_107 (by decide) rfl ?_
        refine r_kill [false, false, true, false, false, false] rfl ?_
        exact h
      · replace h := h.2 c_27
        refine r_aload_n dX5_places_30 rfl rfl ?_
        refine r_getR dX5_places_31 flX5_20 rfl rfl ?_
        refine r_iload_n dX5_places_34 rfl rfl ?_
        refine r_iald dX5_places_35 rfl h.1 ?_
        replace h := h.2
        refine r_callS (as := [.int (M3 20 x1.toNatClampNeg)]) (st := []) dX5_places_36 csX5_81 rfl rfl (Nat.le_of_ble_eq_true rfl) h (fun r M4 h => ?_)
        obtain ⟨v3, rfl, h⟩ := h
        refine r_istore dX5_places_39 (by decide) rfl ?_
        refine r_iconst (v := J 0) dX5_places_41 rfl ?_
        refine r_istore dX5_places_42 (by decide) rfl ?_
        refine r_kill [false, false, true, false, false, false] rfl ?_
        exact h
    · replace h := h.2 c_14
      refine r_iconst (v := J (-1)) dX5_places_17 rfl ?_
      exact r_ret dX5_places_18 rfl rfl h
set_option maxRecDepth 100000 in
set_option maxHeartbeats 4000000 in
theorem b_X5_places_44 {d : Nat} {M : Mem} {Q : Post} {x1 x3 x4 x5 : Int32} (h : (((J 400) ≤ x5 → Q (some x3) M) ∧ (¬ (J 400) ≤ x5 → (vp_in x5 400 ∧ ((¬ (M 27 x5.toNatClampNeg) = (J (-2)) → R none (d + 1) mX5_places 44 [.ref 18, .int x1, .null, .int (x3 + (J 0)), .int x4, .int (x5 + J 1)] [] M Q) ∧ ((M 27 x5.toNatClampNeg) = (J (-2)) → (Mt d mX5_onBoard [.ref 18, .int x1, .int ((x5 - x5 / (J 20) * (J 20)) - (J 6)), .int ((x5 / (J 20)) - (J 6))] M (ri fun v1 M1 => ((¬ v1 = x4 → R none (d + 1) mX5_places 44 [.ref 18, .int x1, .null, .int (x3 + (J 0)), .int x4, .int (x5 + J 1)] [] M1 Q) ∧ (v1 = x4 → R none (d + 1) mX5_places 44 [.ref 18, .int x1, .null, .int (x3 + (J 1)), .int x4, .int (x5 + J 1)] [] M1 Q)))))))))) : R none (d + 1) mX5_places 44 [.ref 18, .int x1, .null, .int x3, .int x4, .int x5] [] M Q := by
  refine r_iload dX5_places_44 rfl ?_
  refine r_sipush (v := J 400) dX5_places_46 (by decide +kernel) ?_
  refine r_icmp_ge (tgt := 104) dX5_places_49 (by decide) (fun c_49 => ?_) (fun c_49 => ?_)
  · replace h := h.1 c_49
    refine r_iload_n dX5_places_104 rfl rfl ?_
    exact r_ret dX5_places_105 rfl rfl h
  · replace h := h.2 c_49
    refine r_iload_n dX5_places_52 rfl rfl ?_
    refine r_aload_n dX5_places_53 rfl rfl ?_
    refine r_getR dX5_places_54 flX5_45 rfl rfl ?_
    refine r_iload dX5_places_57 rfl ?_
    refine r_iald dX5_places_59 rfl h.1 ?_
    replace h := h.2
    refine r_bipush (v := J (-2)) dX5_places_60 (by decide +kernel) ?_
    refine r_icmp_ne (tgt := 95) dX5_places_62 (by decide) (fun c_62 => ?_) (fun c_62 => ?_)
    · replace h := h.1 c_62
      refine r_iconst (v := J 0) dX5_places_95 rfl ?_
      refine r_iadd dX5_places_96 ?_
      refine r_istore_n dX5_places_97 rfl (by decide) rfl ?_
      refine r_iinc (v := J 1) dX5_places_98 rfl rfl (by decide) rfl ?_
      refine r_goto (tgt := 44) dX5_places_101 (by decide) ?_
      exact h
    · replace h := h.2 c_62
      refine r_aload_n dX5_places_65 rfl rfl ?_
      refine r_iload_n dX5_places_66 rfl rfl ?_
      refine r_iload dX5_places_67 rfl ?_
      refine r_bipush (v := J 20) dX5_places_69 (by decide +kernel) ?_
      refine r_irem dX5_places_71 (by decide +kernel) ?_
      refine r_bipush (v := J 6) dX5_places_72 (by decide +kernel) ?_
      refine r_isub dX5_places_74 ?_
      refine r_iload dX5_places_75 rfl ?_
      refine r_bipush (v := J 20) dX5_places_77 (by decide +kernel) ?_
      refine r_idiv dX5_places_79 (by decide +kernel) ?_
      refine r_bipush (v := J 6) dX5_places_80 (by decide +kernel) ?_
      refine r_isub dX5_places_82 ?_
      refine r_callV (as := [.int x1, .int ((x5 - x5 / (J 20) * (J 20)) - (J 6)), .int ((x5 / (J 20)) - (J 6))]) (st := [.int x3]) dX5_places_83 cvX5_85 rfl rfl rfl rfl (Nat.le_of_ble_eq_true rfl) h (fun r M1 h => ?_)
      obtain ⟨v1, rfl, h⟩ := h
      refine r_iload dX5_places_86 rfl ?_
      refine r_icmp_ne (tgt := 95) dX5_places_88 (by decide) (fun c_88 => ?_) (fun c_88 => ?_)
      · replace h := h.1 c_88
        refine r_iconst (v := J 0) dX5_places_95 rfl ?_
        refine r_iadd dX5_places_96 ?_
        refine r_istore_n dX5_places_97 rfl (by decide) rfl ?_
        refine r_iinc (v := J 1) dX5_places_98 rfl rfl (by decide) rfl ?_
        refine r_goto (tgt := 44) dX5_places_101 (by decide) ?_
        exact h
      · replace h := h.2 c_88
        refine r_iconst (v := J 1) dX5_places_91 rfl ?_
        refine r_goto (tgt := 96) dX5_places_92 (by decide) ?_
        refine r_iadd dX5_places_96 ?_
        refine r_istore_n dX5_places_97 rfl (by decide) rfl ?_
        refine r_iinc (v := J 1) dX5_places_98 rfl rfl (by decide) rfl ?_
        refine r_goto (tgt := 44) dX5_places_101 (by decide) ?_
        exact h
set_option maxRecDepth 100000 in
set_option maxHeartbeats 4000000 in
theorem b_X5_places_109 {d : Nat} {M : Mem} {Q : Post} {x1 x3 x4 : Int32} (h : (((J 400) ≤ x4 → R none (d + 1) mX5_places 168 [.ref 18, .null, .null, .int x3, .int (J 0), .null] [] M Q) ∧ (¬ (J 400) ≤ x4 → (vp_in x4 400 ∧ ((¬ (M 27 x4.toNatClampNeg) = (J (-2)) → R none (d + 1) mX5_places 109 [.ref 18, .int x1, .null, .int x3, .int (x4 + J 1), .null] [] M Q) ∧ ((M 27 x4.toNatClampNeg) = (J (-2)) → (Mt d mX5_onBoard [.ref 18, .int x1, .int ((x4 - x4 / (J 20) * (J 20)) - (J 6)), .int ((x4 / (J 20)) - (J 6))] M (ri fun v1 M1 => ((¬ v1 = 0 → R none (d + 1) mX5_places 109 [.ref 18, .int x1, .null, .int x3, .int (x4 + J 1), .null] [] M1 Q) ∧ (v1 = 0 → (Mt d mX5_spreads [.ref 18, .int x4] M1 (rn fun M2 => R none (d + 1) mX5_places 109 [.ref 18, .int x1, .null, .int x3, .int (x4 + J 1), .null] [] M2 Q)))))))))))) : R none (d + 1) mX5_places 109 [.ref 18, .int x1, .null, .int x3, .int x4, .null] [] M Q := by
  refine r_iload dX5_places_109 rfl ?_
  refine r_sipush (v := J 400) dX5_places_111 (by decide +kernel) ?_
  refine r_icmp_ge (tgt := 165) dX5_places_114 (by decide) (fun c_114 => ?_) (fun c_114 => ?_)
  · replace h := h.1 c_114
    refine r_iconst (v := J 0) dX5_places_165 rfl ?_
    refine r_istore dX5_places_166 (by decide) rfl ?_
    refine r_kill [false, true, false, false, false, false] rfl ?_
    exact h
  · replace h := h.2 c_114
    refine r_aload_n dX5_places_117 rfl rfl ?_
    refine r_getR dX5_places_118 flX5_45 rfl rfl ?_
    refine r_iload dX5_places_121 rfl ?_
    refine r_iald dX5_places_123 rfl h.1 ?_
    replace h := h.2
    refine r_bipush (v := J (-2)) dX5_places_124 (by decide +kernel) ?_
    refine r_icmp_ne (tgt := 159) dX5_places_126 (by decide) (fun c_126 => ?_) (fun c_126 => ?_)
    · replace h := h.1 c_126
      refine r_iinc (v := J 1) dX5_places_159 rfl rfl (by decide) rfl ?_
      refine r_goto (tgt := 109) dX5_places_162 (by decide) ?_
      exact h
    · replace h := h.2 c_126
      refine r_aload_n dX5_places_129 rfl rfl ?_
      refine r_iload_n dX5_places_130 rfl rfl ?_
      refine r_iload dX5_places_131 rfl ?_
      refine r_bipush (v := J 20) dX5_places_133 (by decide +kernel) ?_
      refine r_irem dX5_places_135 (by decide +kernel) ?_
      refine r_bipush (v := J 6) dX5_places_136 (by decide +kernel) ?_
      refine r_isub dX5_places_138 ?_
      refine r_iload dX5_places_139 rfl ?_
      refine r_bipush (v := J 20) dX5_places_141 (by decide +kernel) ?_
      refine r_idiv dX5_places_143 (by decide +kernel) ?_
      refine r_bipush (v := J 6) dX5_places_144 (by decide +kernel) ?_
      refine r_isub dX5_places_146 ?_
      refine r_callV (as := [.int x1, .int ((x4 - x4 / (J 20) * (J 20)) - (J 6)), .int ((x4 / (J 20)) - (J 6))]) (st := []) dX5_places_147 cvX5_85 rfl rfl rfl rfl (Nat.le_of_ble_eq_true rfl) h (fun r M1 h => ?_)
      obtain ⟨v1, rfl, h⟩ := h
      refine r_if_ne (tgt := 159) dX5_places_150 (by decide) (fun c_150 => ?_) (fun c_150 => ?_)
      · replace h := h.1 c_150
        refine r_iinc (v := J 1) dX5_places_159 rfl rfl (by decide) rfl ?_
        refine r_goto (tgt := 109) dX5_places_162 (by decide) ?_
        exact h
      · replace h := h.2 c_150
        refine r_aload_n dX5_places_153 rfl rfl ?_
        refine r_iload dX5_places_154 rfl ?_
        refine r_callV (as := [.int x4]) (st := []) dX5_places_156 cvX5_109 rfl rfl rfl rfl (Nat.le_of_ble_eq_true rfl) h (fun r M2 h => ?_)
        obtain ⟨rfl, h⟩ := h
        refine r_iinc (v := J 1) dX5_places_159 rfl rfl (by decide) rfl ?_
        refine r_goto (tgt := 109) dX5_places_162 (by decide) ?_
        exact h
set_option maxRecDepth 100000 in
set_option maxHeartbeats 4000000 in
theorem b_X5_places_168 {d : Nat} {M : Mem} {Q : Post} {x3 x4 : Int32} (h : (((J 400) ≤ x4 → Q (some x3) M) ∧ (¬ (J 400) ≤ x4 → (vp_in x4 400 ∧ ((¬ (M 27 x4.toNatClampNeg) = (J (-2)) → R none (d + 1) mX5_places 168 [.ref 18, .null, .null, .int x3, .int (x4 + J 1), .null] [] M Q) ∧ ((M 27 x4.toNatClampNeg) = (J (-2)) → (Mt d mX5_spreads [.ref 18, .int x4] M (rn fun M1 => R none (d + 1) mX5_places 168 [.ref 18, .null, .null, .int (x3 + J 1), .int (x4 + J 1), .null] [] M1 Q)))))))) : R none (d + 1) mX5_places 168 [.ref 18, .null, .null, .int x3, .int x4, .null] [] M Q := by
  refine r_iload dX5_places_168 rfl ?_
  refine r_sipush (v := J 400) dX5_places_170 (by decide +kernel) ?_
  refine r_icmp_ge (tgt := 203) dX5_places_173 (by decide) (fun c_173 => ?_) (fun c_173 => ?_)
  · replace h := h.1 c_173
    refine r_iload_n dX5_places_203 rfl rfl ?_
    exact r_ret dX5_places_204 rfl rfl h
  · replace h := h.2 c_173
    refine r_aload_n dX5_places_176 rfl rfl ?_
    refine r_getR dX5_places_177 flX5_45 rfl rfl ?_
    refine r_iload dX5_places_180 rfl ?_
    refine r_iald dX5_places_182 rfl h.1 ?_
    replace h := h.2
    refine r_bipush (v := J (-2)) dX5_places_183 (by decide +kernel) ?_
    refine r_icmp_ne (tgt := 197) dX5_places_185 (by decide) (fun c_185 => ?_) (fun c_185 => ?_)
    · replace h := h.1 c_185
      refine r_iinc (v := J 1) dX5_places_197 rfl rfl (by decide) rfl ?_
      refine r_goto (tgt := 168) dX5_places_200 (by decide) ?_
      exact h
    · replace h := h.2 c_185
      refine r_aload_n dX5_places_188 rfl rfl ?_
      refine r_iload dX5_places_189 rfl ?_
      refine r_callV (as := [.int x4]) (st := []) dX5_places_191 cvX5_109 rfl rfl rfl rfl (Nat.le_of_ble_eq_true rfl) h (fun r M1 h => ?_)
      obtain ⟨rfl, h⟩ := h
      refine r_iinc (v := J 1) dX5_places_194 rfl rfl (by decide) rfl ?_
      refine r_iinc (v := J 1) dX5_places_197 rfl rfl (by decide) rfl ?_
      refine r_goto (tgt := 168) dX5_places_200 (by decide) ?_
      exact h
theorem e_X5_places {d : Nat} {M : Mem} {Q : Post} {x1 x2 : Int32} (h : (Mt d mX5_isPiece [.ref 18, .int x1] M (ri fun v1 M1 => ((v1 = 0 → Q (some (J (-1))) M1) ∧ (¬ v1 = 0 → (Mt d mX5_in [.int x2, .int (J 0), .int (J 1)] M1 (ri fun v2 M2 => ((¬ v2 = 0 → (Mt d mX5_lays [.ref 18, .int x1] M2 (rn fun M3 => ((¬ x2 = 0 → R none (d + 1) mX5_places 109 [.ref 18, .int x1, .null, .int (J 0), .int (J 0), .null] [] M3 Q) ∧ (x2 = 0 → (vp_in x1 8 ∧ (Mt d mX5_squares [.int (M3 20 x1.toNatClampNeg)] M3 (ri fun v3 M4 => R none (d + 1) mX5_places 44 [.ref 18, .int x1, .null, .int (J 0), .int v3, .int (J 0)] [] M4 Q)))))))) ∧ (v2 = 0 → Q (some (J (-1))) M2))))))))) : Mt (d + 1) mX5_places [.ref 18, .int x1, .int x2] M Q := Mt.of (k := 3) (by decide +kernel) (okR (okI (okI okN))) (Nat.le_of_ble_eq_true rfl) rfl (b_X5_places_0 h)
set_option maxRecDepth 100000 in
set_option maxHeartbeats 4000000 in
theorem b_X5_blocks0_0 {d : Nat} {M : Mem} {Q : Post} {x1 x2 x3 : Int32} (h : R none (d + 1) mX5_blocks0 3 [.ref 18, .int x1, .int x2, .int x3, .int (J 1), .null, .null, .null] [] M Q) : R none (d + 1) mX5_blocks0 0 [.ref 18, .int x1, .int x2, .int x3, .null, .null, .null, .null] [] M Q := by
  refine r_iconst (v := J 1) dX5_blocks0_0 rfl ?_
  refine r_istore dX5_blocks0_1 (by decide) rfl ?_
  exact h
set_option maxRecDepth 100000 in
set_option maxHeartbeats 4000000 in
theorem b_X5_blocks0_3 {d : Nat} {M : Mem} {Q : Post} {x1 x2 x3 x4 : Int32} (h : (((J 26) ≤ x4 → Q (some (J 0)) M) ∧ (¬ (J 26) ≤ x4 → (vp_in x2 8 ∧ (Mt d mX5_dx [.int x3] M (ri fun v1 M1 => (vp_in x2 8 ∧ (Mt d mX5_dy [.int x3] M1 (ri fun v2 M2 => R none (d + 1) mX5_blocks0 45 [.ref 18, .int x1, .int x2, .int x3, .int x4, .int ((M 24 x2.toNatClampNeg) + (x4 * v1)), .int ((M1 25 x2.toNatClampNeg) + (x4 * v2)), .int (J 0)] [] M2 Q))))))))) : R none (d + 1) mX5_blocks0 3 [.ref 18, .int x1, .int x2, .int x3, .int x4, .null, .null, .null] [] M Q := by
  refine r_iload dX5_blocks0_3 rfl ?_
  refine r_bipush (v := J 26) dX5_blocks0_5 (by decide +kernel) ?_
  refine r_icmp_ge (tgt := 115) dX5_blocks0_7 (by decide) (fun c_7 => ?_) (fun c_7 => ?_)
  · replace h := h.1 c_7
    refine r_iconst (v := J 0) dX5_blocks0_115 rfl ?_
    exact r_ret dX5_blocks0_116 rfl nb0 h
  · replace h := h.2 c_7
    refine r_aload_n dX5_blocks0_10 rfl rfl ?_
    refine r_getR dX5_blocks0_11 flX5_33 rfl rfl ?_
    refine r_iload_n dX5_blocks0_14 rfl rfl ?_
    refine r_iald dX5_blocks0_15 rfl h.1 ?_
    replace h := h.2
    refine r_iload dX5_blocks0_16 rfl ?_
    refine r_iload_n dX5_blocks0_18 rfl rfl ?_
    refine r_callS (as := [.int x3]) (st := [.int x4, .int (M 24 x2.toNatClampNeg)]) dX5_blocks0_19 csX5_95 rfl rfl (Nat.le_of_ble_eq_true rfl) h (fun r M1 h => ?_)
    obtain ⟨v1, rfl, h⟩ := h
    refine r_imul dX5_blocks0_22 ?_
    refine r_iadd dX5_blocks0_23 ?_
    refine r_istore dX5_blocks0_24 (by decide) rfl ?_
    refine r_aload_n dX5_blocks0_26 rfl rfl ?_
    refine r_getR dX5_blocks0_27 flX5_36 rfl rfl ?_
    refine r_iload_n dX5_blocks0_30 rfl rfl ?_
    refine r_iald dX5_blocks0_31 rfl h.1 ?_
    replace h := h.2
    refine r_iload dX5_blocks0_32 rfl ?_
    refine r_iload_n dX5_blocks0_34 rfl rfl ?_
    refine r_callS (as := [.int x3]) (st := [.int x4, .int (M1 25 x2.toNatClampNeg)]) dX5_blocks0_35 csX5_98 rfl rfl (Nat.le_of_ble_eq_true rfl) h (fun r M2 h => ?_)
    obtain ⟨v2, rfl, h⟩ := h
    refine r_imul dX5_blocks0_38 ?_
    refine r_iadd dX5_blocks0_39 ?_
    refine r_istore dX5_blocks0_40 (by decide) rfl ?_
    refine r_iconst (v := J 0) dX5_blocks0_42 rfl ?_
    refine r_istore dX5_blocks0_43 (by decide) rfl ?_
    exact h
set_option maxRecDepth 100000 in
set_option maxHeartbeats 4000000 in
theorem b_X5_blocks0_45 {d : Nat} {M : Mem} {Q : Post} {x1 x2 x3 x4 x5 x6 x7 : Int32} (h : (((J 25) ≤ x7 → R none (d + 1) mX5_blocks0 3 [.ref 18, .int x1, .int x2, .int x3, .int (x4 + J 1), .null, .null, .null] [] M Q) ∧ (¬ (J 25) ≤ x7 → (vp_in x2 8 ∧ ((¬ (((M 20 x2.toNatClampNeg) >>> (x7 &&& 31)) &&& (J 1)) = (J 1) → R none (d + 1) mX5_blocks0 45 [.ref 18, .int x1, .int x2, .int x3, .int x4, .int x5, .int x6, .int (x7 + J 1)] [] M Q) ∧ ((((M 20 x2.toNatClampNeg) >>> (x7 &&& 31)) &&& (J 1)) = (J 1) → (vp_in x1 8 ∧ (vp_in x1 8 ∧ (Mt d mX5_has [.ref 18, .int x1, .int (M 24 x1.toNatClampNeg), .int (M 25 x1.toNatClampNeg), .int (x5 + (x7 - x7 / (J 5) * (J 5))), .int (x6 + (x7 / (J 5)))] M (ri fun v1 M1 => ((v1 = 0 → R none (d + 1) mX5_blocks0 45 [.ref 18, .int x1, .int x2, .int x3, .int x4, .int x5, .int x6, .int (x7 + J 1)] [] M1 Q) ∧ (¬ v1 = 0 → Q (some (J 1)) M1)))))))))))) : R none (d + 1) mX5_blocks0 45 [.ref 18, .int x1, .int x2, .int x3, .int x4, .int x5, .int x6, .int x7] [] M Q := by
  refine r_iload dX5_blocks0_45 rfl ?_
  refine r_bipush (v := J 25) dX5_blocks0_47 (by decide +kernel) ?_
  refine r_icmp_ge (tgt := 109) dX5_blocks0_49 (by decide) (fun c_49 => ?_) (fun c_49 => ?_)
  · replace h := h.1 c_49
    refine r_iinc (v := J 1) dX5_blocks0_109 rfl rfl (by decide) rfl ?_
    refine r_goto (tgt := 3) dX5_blocks0_112 (by decide) ?_
    refine r_kill [false, false, false, false, false, true, true, true] rfl ?_
    exact h
  · replace h := h.2 c_49
    refine r_aload_n dX5_blocks0_52 rfl rfl ?_
    refine r_getR dX5_blocks0_53 flX5_20 rfl rfl ?_
    refine r_iload_n dX5_blocks0_56 rfl rfl ?_
    refine r_iald dX5_blocks0_57 rfl h.1 ?_
    replace h := h.2
    refine r_iload dX5_blocks0_58 rfl ?_
    refine r_ishr dX5_blocks0_60 ?_
    refine r_iconst (v := J 1) dX5_blocks0_61 rfl ?_
    refine r_iand dX5_blocks0_62 ?_
    refine r_iconst (v := J 1) dX5_blocks0_63 rfl ?_
    refine r_icmp_ne (tgt := 103) dX5_blocks0_64 (by decide) (fun c_64 => ?_) (fun c_64 => ?_)
    · replace h := h.1 c_64
      refine r_iinc (v := J 1) dX5_blocks0_103 rfl rfl (by decide) rfl ?_
      refine r_goto (tgt := 45) dX5_blocks0_106 (by decide) ?_
      exact h
    · replace h := h.2 c_64
      refine r_aload_n dX5_blocks0_67 rfl rfl ?_
      refine r_iload_n dX5_blocks0_68 rfl rfl ?_
      refine r_aload_n dX5_blocks0_69 rfl rfl ?_
      refine r_getR dX5_blocks0_70 flX5_33 rfl rfl ?_
      refine r_iload_n dX5_blocks0_73 rfl rfl ?_
      refine r_iald dX5_blocks0_74 rfl h.1 ?_
      replace h := h.2
      refine r_aload_n dX5_blocks0_75 rfl rfl ?_
      refine r_getR dX5_blocks0_76 flX5_36 rfl rfl ?_
      refine r_iload_n dX5_blocks0_79 rfl rfl ?_
      refine r_iald dX5_blocks0_80 rfl h.1 ?_
      replace h := h.2
      refine r_iload dX5_blocks0_81 rfl ?_
      refine r_iload dX5_blocks0_83 rfl ?_
      refine r_iconst (v := J 5) dX5_blocks0_85 rfl ?_
      refine r_irem dX5_blocks0_86 (by decide +kernel) ?_
      refine r_iadd dX5_blocks0_87 ?_
      refine r_iload dX5_blocks0_88 rfl ?_
      refine r_iload dX5_blocks0_90 rfl ?_
      refine r_iconst (v := J 5) dX5_blocks0_92 rfl ?_
      refine r_idiv dX5_blocks0_93 (by decide +kernel) ?_
      refine r_iadd dX5_blocks0_94 ?_
      refine r_callV (as := [.int x1, .int (M 24 x1.toNatClampNeg), .int (M 25 x1.toNatClampNeg), .int (x5 + (x7 - x7 / (J 5) * (J 5))), .int (x6 + (x7 / (J 5)))]) (st := []) dX5_blocks0_95 cvX5_67 rfl rfl rfl rfl (Nat.le_of_ble_eq_true rfl) h (fun r M1 h => ?_)
      obtain ⟨v1, rfl, h⟩ := h
      refine r_if_eq (tgt := 103) dX5_blocks0_98 (by decide) (fun c_98 => ?_) (fun c_98 => ?_)
      · replace h := h.1 c_98
        refine r_iinc (v := J 1) dX5_blocks0_103 rfl rfl (by decide) rfl ?_
        refine r_goto (tgt := 45) dX5_blocks0_106 (by decide) ?_
        exact h
      · replace h := h.2 c_98
        refine r_iconst (v := J 1) dX5_blocks0_101 rfl ?_
        exact r_ret dX5_blocks0_102 rfl nb1 h
theorem e_X5_blocks0 {d : Nat} {M : Mem} {Q : Post} {x1 x2 x3 : Int32} (h : R none (d + 1) mX5_blocks0 3 [.ref 18, .int x1, .int x2, .int x3, .int (J 1), .null, .null, .null] [] M Q) : Mt (d + 1) mX5_blocks0 [.ref 18, .int x1, .int x2, .int x3] M Q := Mt.of (k := 4) (by decide +kernel) (okR (okI (okI (okI okN)))) (Nat.le_of_ble_eq_true rfl) rfl (b_X5_blocks0_0 h)
set_option maxRecDepth 100000 in
set_option maxHeartbeats 4000000 in
theorem b_X5_blockers_0 {d : Nat} {M : Mem} {Q : Post} {x1 x2 x3 : Int32} (h : R none (d + 1) mX5_blockers 6 [.ref 18, .int x1, .int x2, .int x3, .int (J 0), .int (J 0)] [] M Q) : R none (d + 1) mX5_blockers 0 [.ref 18, .int x1, .int x2, .int x3, .null, .null] [] M Q := by
  refine r_iconst (v := J 0) dX5_blockers_0 rfl ?_
  refine r_istore dX5_blockers_1 (by decide) rfl ?_
  refine r_iconst (v := J 0) dX5_blockers_3 rfl ?_
  refine r_istore dX5_blockers_4 (by decide) rfl ?_
  exact h
set_option maxRecDepth 100000 in
set_option maxHeartbeats 4000000 in
theorem b_X5_blockers_6 {d : Nat} {M : Mem} {Q : Post} {x1 x2 x3 x4 x5 : Int32} (h : (((M 18 3) ≤ x5 → Q (some x4) M) ∧ (¬ (M 18 3) ≤ x5 → ((x5 = x1 → R none (d + 1) mX5_blockers 6 [.ref 18, .int x1, .int x2, .int x3, .int (x4 ||| (J 0)), .int (x5 + J 1)] [] M Q) ∧ (¬ x5 = x1 → ((¬ ((x3 >>> (x5 &&& 31)) &&& (J 1)) = (J 1) → R none (d + 1) mX5_blockers 6 [.ref 18, .int x1, .int x2, .int x3, .int (x4 ||| (J 0)), .int (x5 + J 1)] [] M Q) ∧ (((x3 >>> (x5 &&& 31)) &&& (J 1)) = (J 1) → (Mt d mX5_blocks0 [.ref 18, .int x5, .int x1, .int x2] M (ri fun v1 M1 => ((v1 = 0 → R none (d + 1) mX5_blockers 6 [.ref 18, .int x1, .int x2, .int x3, .int (x4 ||| (J 0)), .int (x5 + J 1)] [] M1 Q) ∧ (¬ v1 = 0 → R none (d + 1) mX5_blockers 6 [.ref 18, .int x1, .int x2, .int x3, .int (x4 ||| ((J 1) <<< (x5 &&& 31))), .int (x5 + J 1)] [] M1 Q))))))))))) : R none (d + 1) mX5_blockers 6 [.ref 18, .int x1, .int x2, .int x3, .int x4, .int x5] [] M Q := by
  refine r_iload dX5_blockers_6 rfl ?_
  refine r_aload_n dX5_blockers_8 rfl rfl ?_
  refine r_getI dX5_blockers_9 flX5_60 rfl rfl ?_
  refine r_icmp_ge (tgt := 61) dX5_blockers_12 (by decide) (fun c_12 => ?_) (fun c_12 => ?_)
  · replace h := h.1 c_12
    refine r_iload dX5_blockers_61 rfl ?_
    exact r_ret dX5_blockers_63 rfl rfl h
  · replace h := h.2 c_12
    refine r_iload dX5_blockers_15 rfl ?_
    refine r_iload dX5_blockers_17 rfl ?_
    refine r_iload_n dX5_blockers_19 rfl rfl ?_
    refine r_icmp_eq (tgt := 51) dX5_blockers_20 (by decide) (fun c_20 => ?_) (fun c_20 => ?_)
    · replace h := h.1 c_20
      refine r_iconst (v := J 0) dX5_blockers_51 rfl ?_
      refine r_ior dX5_blockers_52 ?_
      refine r_istore dX5_blockers_53 (by decide) rfl ?_
      refine r_iinc (v := J 1) dX5_blockers_55 rfl rfl (by decide) rfl ?_
      refine r_goto (tgt := 6) dX5_blockers_58 (by decide) ?_
      exact h
    · replace h := h.2 c_20
      refine r_iload_n dX5_blockers_23 rfl rfl ?_
      refine r_iload dX5_blockers_24 rfl ?_
      refine r_ishr dX5_blockers_26 ?_
      refine r_iconst (v := J 1) dX5_blockers_27 rfl ?_
      refine r_iand dX5_blockers_28 ?_
      refine r_iconst (v := J 1) dX5_blockers_29 rfl ?_
      refine r_icmp_ne (tgt := 51) dX5_blockers_30 (by decide) (fun c_30 => ?_) (fun c_30 => ?_)
      · replace h := h.1 c_30
        refine r_iconst (v := J 0) dX5_blockers_51 rfl ?_
        refine r_ior dX5_blockers_52 ?_
        refine r_istore dX5_blockers_53 (by decide) rfl ?_
        refine r_iinc (v := J 1) dX5_blockers_55 rfl rfl (by decide) rfl ?_
        refine r_goto (tgt := 6) dX5_blockers_58 (by decide) ?_
        exact h
      · replace h := h.2 c_30
        refine r_aload_n dX5_blockers_33 rfl rfl ?_
        refine r_iload dX5_blockers_34 rfl ?_
        refine r_iload_n dX5_blockers_36 rfl rfl ?_
        refine r_iload_n dX5_blockers_37 rfl rfl ?_
        refine r_callV (as := [.int x5, .int x1, .int x2]) (st := [.int x4]) dX5_blockers_38 cvX5_115 rfl rfl rfl rfl (Nat.le_of_ble_eq_true rfl) h (fun r M1 h => ?_)
        obtain ⟨v1, rfl, h⟩ := h
        refine r_if_eq (tgt := 51) dX5_blockers_41 (by decide) (fun c_41 => ?_) (fun c_41 => ?_)
        · replace h := h.1 c_41
          refine r_iconst (v := J 0) dX5_blockers_51 rfl ?_
          refine r_ior dX5_blockers_52 ?_
          refine r_istore dX5_blockers_53 (by decide) rfl ?_
          refine r_iinc (v := J 1) dX5_blockers_55 rfl rfl (by decide) rfl ?_
          refine r_goto (tgt := 6) dX5_blockers_58 (by decide) ?_
          exact h
        · replace h := h.2 c_41
          refine r_iconst (v := J 1) dX5_blockers_44 rfl ?_
          refine r_iload dX5_blockers_45 rfl ?_
          refine r_ishl dX5_blockers_47 ?_
          refine r_goto (tgt := 52) dX5_blockers_48 (by decide) ?_
          refine r_ior dX5_blockers_52 ?_
          refine r_istore dX5_blockers_53 (by decide) rfl ?_
          refine r_iinc (v := J 1) dX5_blockers_55 rfl rfl (by decide) rfl ?_
          refine r_goto (tgt := 6) dX5_blockers_58 (by decide) ?_
          exact h
theorem e_X5_blockers {d : Nat} {M : Mem} {Q : Post} {x1 x2 x3 : Int32} (h : R none (d + 1) mX5_blockers 6 [.ref 18, .int x1, .int x2, .int x3, .int (J 0), .int (J 0)] [] M Q) : Mt (d + 1) mX5_blockers [.ref 18, .int x1, .int x2, .int x3] M Q := Mt.of (k := 2) (by decide +kernel) (okR (okI (okI (okI okN)))) (Nat.le_of_ble_eq_true rfl) rfl (b_X5_blockers_0 h)
set_option maxRecDepth 100000 in
set_option maxHeartbeats 4000000 in
theorem b_X5_lying_0 {d : Nat} {M : Mem} {Q : Post} (h : R none (d + 1) mX5_lying 4 [.ref 18, .int (J 0), .int (J 0)] [] M Q) : R none (d + 1) mX5_lying 0 [.ref 18, .null, .null] [] M Q := by
  refine r_iconst (v := J 0) dX5_lying_0 rfl ?_
  refine r_istore_n dX5_lying_1 rfl (by decide) rfl ?_
  refine r_iconst (v := J 0) dX5_lying_2 rfl ?_
  refine r_istore_n dX5_lying_3 rfl (by decide) rfl ?_
  exact h
set_option maxRecDepth 100000 in
set_option maxHeartbeats 4000000 in
theorem b_X5_lying_4 {d : Nat} {M : Mem} {Q : Post} {x1 x2 : Int32} (h : (((M 18 3) ≤ x2 → Q (some x1) M) ∧ (¬ (M 18 3) ≤ x2 → (vp_in x2 8 ∧ (((M 23 x2.toNatClampNeg) = 0 → R none (d + 1) mX5_lying 4 [.ref 18, .int (x1 ||| (J 0)), .int (x2 + J 1)] [] M Q) ∧ (¬ (M 23 x2.toNatClampNeg) = 0 → R none (d + 1) mX5_lying 4 [.ref 18, .int (x1 ||| ((J 1) <<< (x2 &&& 31))), .int (x2 + J 1)] [] M Q)))))) : R none (d + 1) mX5_lying 4 [.ref 18, .int x1, .int x2] [] M Q := by
  refine r_iload_n dX5_lying_4 rfl rfl ?_
  refine r_aload_n dX5_lying_5 rfl rfl ?_
  refine r_getI dX5_lying_6 flX5_60 rfl rfl ?_
  refine r_icmp_ge (tgt := 37) dX5_lying_9 (by decide) (fun c_9 => ?_) (fun c_9 => ?_)
  · replace h := h.1 c_9
    refine r_iload_n dX5_lying_37 rfl rfl ?_
    exact r_ret dX5_lying_38 rfl rfl h
  · replace h := h.2 c_9
    refine r_iload_n dX5_lying_12 rfl rfl ?_
    refine r_aload_n dX5_lying_13 rfl rfl ?_
    refine r_getR dX5_lying_14 flX5_29 rfl rfl ?_
    refine r_iload_n dX5_lying_17 rfl rfl ?_
    refine r_zald dX5_lying_18 rfl h.1 ?_
    replace h := h.2
    refine r_if_eq (tgt := 28) dX5_lying_19 (by decide) (fun c_19 => ?_) (fun c_19 => ?_)
    · replace h := h.1 c_19
      refine r_iconst (v := J 0) dX5_lying_28 rfl ?_
      refine r_ior dX5_lying_29 ?_
      refine r_istore_n dX5_lying_30 rfl (by decide) rfl ?_
      refine r_iinc (v := J 1) dX5_lying_31 rfl rfl (by decide) rfl ?_
      refine r_goto (tgt := 4) dX5_lying_34 (by decide) ?_
      exact h
    · replace h := h.2 c_19
      refine r_iconst (v := J 1) dX5_lying_22 rfl ?_
      refine r_iload_n dX5_lying_23 rfl rfl ?_
      refine r_ishl dX5_lying_24 ?_
      refine r_goto (tgt := 29) dX5_lying_25 (by decide) ?_
      refine r_ior dX5_lying_29 ?_
      refine r_istore_n dX5_lying_30 rfl (by decide) rfl ?_
      refine r_iinc (v := J 1) dX5_lying_31 rfl rfl (by decide) rfl ?_
      refine r_goto (tgt := 4) dX5_lying_34 (by decide) ?_
      exact h
theorem e_X5_lying {d : Nat} {M : Mem} {Q : Post} (h : R none (d + 1) mX5_lying 4 [.ref 18, .int (J 0), .int (J 0)] [] M Q) : Mt (d + 1) mX5_lying [.ref 18] M Q := Mt.of (k := 2) (by decide +kernel) (okR okN) (Nat.le_of_ble_eq_true rfl) rfl (b_X5_lying_0 h)
set_option maxRecDepth 100000 in
set_option maxHeartbeats 4000000 in
theorem b_X5_blocks_0 {d : Nat} {M : Mem} {Q : Post} {x1 x2 : Int32} (h : (Mt d mX5_isPiece [.ref 18, .int x1] M (ri fun v1 M1 => ((v1 = 0 → Q (some (J (-1))) M1) ∧ (¬ v1 = 0 → (Mt d mX5_in [.int x2, .int (J 0), .int (J 3)] M1 (ri fun v2 M2 => ((¬ v2 = 0 → (vp_in x1 8 ∧ (((M2 23 x1.toNatClampNeg) = 0 → Q (some (J (-2))) M2) ∧ (¬ (M2 23 x1.toNatClampNeg) = 0 → (Mt d mX5_lying [.ref 18] M2 (ri fun v3 M3 => (Mt d mX5_blockers [.ref 18, .int x1, .int x2, .int v3] M3 (ri fun v4 M4 => Q (some v4) M4)))))))) ∧ (v2 = 0 → Q (some (J (-1))) M2))))))))) : R none (d + 1) mX5_blocks 0 [.ref 18, .int x1, .int x2] [] M Q := by
  refine r_aload_n dX5_blocks_0 rfl rfl ?_
  refine r_iload_n dX5_blocks_1 rfl rfl ?_
  refine r_callV (as := [.int x1]) (st := []) dX5_blocks_2 cvX5_77 rfl rfl rfl rfl (Nat.le_of_ble_eq_true rfl) h (fun r M1 h => ?_)
  obtain ⟨v1, rfl, h⟩ := h
  refine r_if_eq (tgt := 17) dX5_blocks_5 (by decide) (fun c_5 => ?_) (fun c_5 => ?_)
  · replace h := h.1 c_5
    refine r_iconst (v := J (-1)) dX5_blocks_17 rfl ?_
    exact r_ret dX5_blocks_18 rfl rfl h
  · replace h := h.2 c_5
    refine r_iload_n dX5_blocks_8 rfl rfl ?_
    refine r_iconst (v := J 0) dX5_blocks_9 rfl ?_
    refine r_iconst (v := J 3) dX5_blocks_10 rfl ?_
    refine r_callS (as := [.int x2, .int (J 0), .int (J 3)]) (st := []) dX5_blocks_11 csX5_63 rfl rfl (Nat.le_of_ble_eq_true rfl) h (fun r M2 h => ?_)
    obtain ⟨v2, rfl, h⟩ := h
    refine r_if_ne (tgt := 19) dX5_blocks_14 (by decide) (fun c_14 => ?_) (fun c_14 => ?_)
    · replace h := h.1 c_14
      refine r_aload_n dX5_blocks_19 rfl rfl ?_
      refine r_getR dX5_blocks_20 flX5_29 rfl rfl ?_
      refine r_iload_n dX5_blocks_23 rfl rfl ?_
      refine r_zald dX5_blocks_24 rfl h.1 ?_
      replace h := h.2
      refine r_if_eq (tgt := 41) dX5_blocks_25 (by decide) (fun c_25 => ?_) (fun c_25 => ?_)
      · replace h := h.1 c_25
        refine r_bipush (v := J (-2)) dX5_blocks_41 (by decide +kernel) ?_
        exact r_ret dX5_blocks_43 rfl rfl h
      · replace h := h.2 c_25
        refine r_aload_n dX5_blocks_28 rfl rfl ?_
        refine r_iload_n dX5_blocks_29 rfl rfl ?_
        refine r_iload_n dX5_blocks_30 rfl rfl ?_
        refine r_aload_n dX5_blocks_31 rfl rfl ?_
        refine r_callV (as := []) (st := [.int x2, .int x1, .ref 18]) dX5_blocks_32 cvX5_118 rfl rfl rfl rfl (Nat.le_of_ble_eq_true rfl) h (fun r M3 h => ?_)
        obtain ⟨v3, rfl, h⟩ := h
        refine r_callV (as := [.int x1, .int x2, .int v3]) (st := []) dX5_blocks_35 cvX5_122 rfl rfl rfl rfl (Nat.le_of_ble_eq_true rfl) h (fun r M4 h => ?_)
        obtain ⟨v4, rfl, h⟩ := h
        refine r_goto (tgt := 43) dX5_blocks_38 (by decide) ?_
        exact r_ret dX5_blocks_43 rfl rfl h
    · replace h := h.2 c_14
      refine r_iconst (v := J (-1)) dX5_blocks_17 rfl ?_
      exact r_ret dX5_blocks_18 rfl rfl h
theorem e_X5_blocks {d : Nat} {M : Mem} {Q : Post} {x1 x2 : Int32} (h : (Mt d mX5_isPiece [.ref 18, .int x1] M (ri fun v1 M1 => ((v1 = 0 → Q (some (J (-1))) M1) ∧ (¬ v1 = 0 → (Mt d mX5_in [.int x2, .int (J 0), .int (J 3)] M1 (ri fun v2 M2 => ((¬ v2 = 0 → (vp_in x1 8 ∧ (((M2 23 x1.toNatClampNeg) = 0 → Q (some (J (-2))) M2) ∧ (¬ (M2 23 x1.toNatClampNeg) = 0 → (Mt d mX5_lying [.ref 18] M2 (ri fun v3 M3 => (Mt d mX5_blockers [.ref 18, .int x1, .int x2, .int v3] M3 (ri fun v4 M4 => Q (some v4) M4)))))))) ∧ (v2 = 0 → Q (some (J (-1))) M2))))))))) : Mt (d + 1) mX5_blocks [.ref 18, .int x1, .int x2] M Q := Mt.of (k := 0) (by decide +kernel) (okR (okI (okI okN))) (Nat.le_of_ble_eq_true rfl) rfl (b_X5_blocks_0 h)
set_option maxRecDepth 100000 in
set_option maxHeartbeats 4000000 in
theorem b_X5_lowest_0 {d : Nat} {M : Mem} {Q : Post} {x0 : Int32} (h : R none (d + 1) mX5_lowest 2 [.int x0, .int (J 0)] [] M Q) : R none (d + 1) mX5_lowest 0 [.int x0, .null] [] M Q := by
  refine r_iconst (v := J 0) dX5_lowest_0 rfl ?_
  refine r_istore_n dX5_lowest_1 rfl (by decide) rfl ?_
  exact h
set_option maxRecDepth 100000 in
set_option maxHeartbeats 4000000 in
theorem b_X5_lowest_2 {d : Nat} {M : Mem} {Q : Post} {x0 x1 : Int32} (h : ((¬ ((x0 >>> (x1 &&& 31)) &&& (J 1)) = 0 → Q (some x1) M) ∧ (((x0 >>> (x1 &&& 31)) &&& (J 1)) = 0 → R none (d + 1) mX5_lowest 2 [.int x0, .int (x1 + J 1)] [] M Q))) : R none (d + 1) mX5_lowest 2 [.int x0, .int x1] [] M Q := by
  refine r_iload_n dX5_lowest_2 rfl rfl ?_
  refine r_iload_n dX5_lowest_3 rfl rfl ?_
  refine r_ishr dX5_lowest_4 ?_
  refine r_iconst (v := J 1) dX5_lowest_5 rfl ?_
  refine r_iand dX5_lowest_6 ?_
  refine r_if_ne (tgt := 16) dX5_lowest_7 (by decide) (fun c_7 => ?_) (fun c_7 => ?_)
  · replace h := h.1 c_7
    refine r_iload_n dX5_lowest_16 rfl rfl ?_
    exact r_ret dX5_lowest_17 rfl rfl h
  · replace h := h.2 c_7
    refine r_iinc (v := J 1) dX5_lowest_10 rfl rfl (by decide) rfl ?_
    refine r_goto (tgt := 2) dX5_lowest_13 (by decide) ?_
    exact h
theorem e_X5_lowest {d : Nat} {M : Mem} {Q : Post} {x0 : Int32} (h : R none (d + 1) mX5_lowest 2 [.int x0, .int (J 0)] [] M Q) : Mt (d + 1) mX5_lowest [.int x0] M Q := Mt.of (k := 1) (by decide +kernel) (okI okN) (Nat.le_of_ble_eq_true rfl) rfl (b_X5_lowest_0 h)
set_option maxRecDepth 100000 in
set_option maxHeartbeats 4000000 in
theorem b_X5_order_0 {d : Nat} {M : Mem} {Q : Post} {x1 x2 : Int32} (h : (Mt d mX5_in [.int x1, .int (J 0), .int (J 3)] M (ri fun v1 M1 => ((v1 = 0 → Q (some (J (-1))) M1) ∧ (¬ v1 = 0 → (((J (-1)) ≤ x2 → (Mt d mX5_lying [.ref 18] M1 (ri fun v2 M2 => R none (d + 1) mX5_order 27 [.ref 18, .int x1, .int x2, .int v2, .int (J 0), .int (J 1), .null, .null] [] M2 Q))) ∧ (¬ (J (-1)) ≤ x2 → Q (some (J (-1))) M1))))))) : R none (d + 1) mX5_order 0 [.ref 18, .int x1, .int x2, .null, .null, .null, .null, .null] [] M Q := by
  refine r_iload_n dX5_order_0 rfl rfl ?_
  refine r_iconst (v := J 0) dX5_order_1 rfl ?_
  refine r_iconst (v := J 3) dX5_order_2 rfl ?_
  refine r_callS (as := [.int x1, .int (J 0), .int (J 3)]) (st := []) dX5_order_3 csX5_63 rfl rfl (Nat.le_of_ble_eq_true rfl) h (fun r M1 h => ?_)
  obtain ⟨v1, rfl, h⟩ := h
  refine r_if_eq (tgt := 14) dX5_order_6 (by decide) (fun c_6 => ?_) (fun c_6 => ?_)
  · replace h := h.1 c_6
    refine r_iconst (v := J (-1)) dX5_order_14 rfl ?_
    exact r_ret dX5_order_15 rfl rfl h
  · replace h := h.2 c_6
    refine r_iload_n dX5_order_9 rfl rfl ?_
    refine r_iconst (v := J (-1)) dX5_order_10 rfl ?_
    refine r_icmp_ge (tgt := 16) dX5_order_11 (by decide) (fun c_11 => ?_) (fun c_11 => ?_)
    · replace h := h.1 c_11
      refine r_aload_n dX5_order_16 rfl rfl ?_
      refine r_callV (as := []) (st := []) dX5_order_17 cvX5_118 rfl rfl rfl rfl (Nat.le_of_ble_eq_true rfl) h (fun r M2 h => ?_)
      obtain ⟨v2, rfl, h⟩ := h
      refine r_istore_n dX5_order_20 rfl (by decide) rfl ?_
      refine r_iconst (v := J 0) dX5_order_21 rfl ?_
      refine r_istore dX5_order_22 (by decide) rfl ?_
      refine r_iconst (v := J 1) dX5_order_24 rfl ?_
      refine r_istore dX5_order_25 (by decide) rfl ?_
      exact h
    · replace h := h.2 c_11
      refine r_iconst (v := J (-1)) dX5_order_14 rfl ?_
      exact r_ret dX5_order_15 rfl rfl h
set_option maxRecDepth 100000 in
set_option maxHeartbeats 4000000 in
theorem b_X5_order_27 {d : Nat} {M : Mem} {Q : Post} {x1 x2 x3 x4 x5 : Int32} (h : ((x5 = 0 → ((0 ≤ x2 → Q (some (J (-4))) M) ∧ (¬ 0 ≤ x2 → Q (some x3) M))) ∧ (¬ x5 = 0 → R none (d + 1) mX5_order 38 [.ref 18, .int x1, .int x2, .int x3, .int x4, .null, .int (J 0), .int (J 0)] [] M Q))) : R none (d + 1) mX5_order 27 [.ref 18, .int x1, .int x2, .int x3, .int x4, .int x5, .null, .null] [] M Q := by
  refine r_iload dX5_order_27 rfl ?_
  refine r_if_eq (tgt := 134) dX5_order_29 (by decide) (fun c_29 => ?_) (fun c_29 => ?_)
  · replace h := h.1 c_29
    refine r_iload_n dX5_order_134 rfl rfl ?_
    refine r_if_ge (tgt := 142) dX5_order_135 (by decide) (fun c_135 => ?_) (fun c_135 => ?_)
    · replace h := h.1 c_135
      refine r_bipush (v := J (-4)) dX5_order_142 (by decide +kernel) ?_
      exact r_ret dX5_order_144 rfl rfl h
    · replace h := h.2 c_135
      refine r_iload_n dX5_order_138 rfl rfl ?_
      refine r_goto (tgt := 144) dX5_order_139 (by decide) ?_
      exact r_ret dX5_order_144 rfl rfl h
  · replace h := h.2 c_29
    refine r_iconst (v := J 0) dX5_order_32 rfl ?_
    refine r_istore dX5_order_33 (by decide) rfl ?_
    refine r_iconst (v := J 0) dX5_order_35 rfl ?_
    refine r_istore dX5_order_36 (by decide) rfl ?_
    refine r_kill [false, false, false, false, false, true, false, false] rfl ?_
    exact h
set_option maxRecDepth 100000 in
set_option maxHeartbeats 4000000 in
theorem b_X5_order_38 {d : Nat} {M : Mem} {Q : Post} {x1 x2 x3 x4 x6 x7 : Int32} (h : (((M 18 3) ≤ x7 → ((x6 = 0 → (((J 0) = 0 → R none (d + 1) mX5_order 27 [.ref 18, .int x1, .int x2, .int x3, .int x4, .int (J 0), .null, .null] [] M Q) ∧ (¬ (J 0) = 0 → ((¬ x4 = x2 → (Mt d mX5_lowest [.int x6] M (ri fun v1 M1 => R none (d + 1) mX5_order 27 [.ref 18, .int x1, .int x2, .int (x3 &&& (((J 1) <<< (v1 &&& 31)) ^^^ (J (-1)))), .int (x4 + J 1), .int (J 0), .null, .null] [] M1 Q))) ∧ (x4 = x2 → (Mt d mX5_lowest [.int x6] M (ri fun v2 M2 => Q (some v2) M2))))))) ∧ (¬ x6 = 0 → (((J 1) = 0 → R none (d + 1) mX5_order 27 [.ref 18, .int x1, .int x2, .int x3, .int x4, .int (J 1), .null, .null] [] M Q) ∧ (¬ (J 1) = 0 → ((¬ x4 = x2 → (Mt d mX5_lowest [.int x6] M (ri fun v3 M3 => R none (d + 1) mX5_order 27 [.ref 18, .int x1, .int x2, .int (x3 &&& (((J 1) <<< (v3 &&& 31)) ^^^ (J (-1)))), .int (x4 + J 1), .int (J 1), .null, .null] [] M3 Q))) ∧ (x4 = x2 → (Mt d mX5_lowest [.int x6] M (ri fun v4 M4 => Q (some v4) M4))))))))) ∧ (¬ (M 18 3) ≤ x7 → ((¬ ((x3 >>> (x7 &&& 31)) &&& (J 1)) = (J 1) → R none (d + 1) mX5_order 38 [.ref 18, .int x1, .int x2, .int x3, .int x4, .null, .int (x6 ||| (J 0)), .int (x7 + J 1)] [] M Q) ∧ (((x3 >>> (x7 &&& 31)) &&& (J 1)) = (J 1) → (Mt d mX5_blockers [.ref 18, .int x7, .int x1, .int x3] M (ri fun v5 M5 => ((¬ v5 = 0 → R none (d + 1) mX5_order 38 [.ref 18, .int x1, .int x2, .int x3, .int x4, .null, .int (x6 ||| (J 0)), .int (x7 + J 1)] [] M5 Q) ∧ (v5 = 0 → R none (d + 1) mX5_order 38 [.ref 18, .int x1, .int x2, .int x3, .int x4, .null, .int (x6 ||| ((J 1) <<< (x7 &&& 31))), .int (x7 + J 1)] [] M5 Q))))))))) : R none (d + 1) mX5_order 38 [.ref 18, .int x1, .int x2, .int x3, .int x4, .null, .int x6, .int x7] [] M Q := by
  refine r_iload dX5_order_38 rfl ?_
  refine r_aload_n dX5_order_40 rfl rfl ?_
  refine r_getI dX5_order_41 flX5_60 rfl rfl ?_
  refine r_icmp_ge (tgt := 87) dX5_order_44 (by decide) (fun c_44 => ?_) (fun c_44 => ?_)
  · replace h := h.1 c_44
    refine r_iload dX5_order_87 rfl ?_
    refine r_if_eq (tgt := 96) dX5_order_89 (by decide) (fun c_89 => ?_) (fun c_89 => ?_)
    · replace h := h.1 c_89
      refine r_iconst (v := J 0) dX5_order_96 rfl ?_
      refine r_istore dX5_order_97 (by decide) rfl ?_
      refine r_iload dX5_order_99 rfl ?_
      refine r_if_eq (tgt := 131) dX5_order_101 (by decide) (fun c_101 => ?_) (fun c_101 => ?_)
      · replace h := h.1 c_101
        refine r_goto (tgt := 27) dX5_order_131 (by decide) ?_
        refine r_kill [false, false, false, false, false, false, true, true] rfl ?_
        exact h
      · replace h := h.2 c_101
        refine r_iload dX5_order_104 rfl ?_
        refine r_iload_n dX5_order_106 rfl rfl ?_
        refine r_icmp_ne (tgt := 116) dX5_order_107 (by decide) (fun c_107 => ?_) (fun c_107 => ?_)
        · replace h := h.1 c_107
          refine r_iload_n dX5_order_116 rfl rfl ?_
          refine r_iconst (v := J 1) dX5_order_117 rfl ?_
          refine r_iload dX5_order_118 rfl ?_
          refine r_callS (as := [.int x6]) (st := [.int (J 1), .int x3]) dX5_order_120 csX5_125 rfl rfl (Nat.le_of_ble_eq_true rfl) h (fun r M1 h => ?_)
          obtain ⟨v1, rfl, h⟩ := h
          refine r_ishl dX5_order_123 ?_
          refine r_iconst (v := J (-1)) dX5_order_124 rfl ?_
          refine r_ixor dX5_order_125 ?_
          refine r_iand dX5_order_126 ?_
          refine r_istore_n dX5_order_127 rfl (by decide) rfl ?_
          refine r_iinc (v := J 1) dX5_order_128 rfl rfl (by decide) rfl ?_
          refine r_goto (tgt := 27) dX5_order_131 (by decide) ?_
          refine r_kill [false, false, false, false, false, false, true, true] rfl ?_
          exact h
        · replace h := h.2 c_107
          refine r_iload dX5_order_110 rfl ?_
          refine r_callS (as := [.int x6]) (st := []) dX5_order_112 csX5_125 rfl rfl (Nat.le_of_ble_eq_true rfl) h (fun r M2 h => ?_)
          obtain ⟨v2, rfl, h⟩ := h
          exact r_ret dX5_order_115 rfl rfl h
    · replace h := h.2 c_89
      refine r_iconst (v := J 1) dX5_order_92 rfl ?_
      refine r_goto (tgt := 97) dX5_order_93 (by decide) ?_
      refine r_istore dX5_order_97 (by decide) rfl ?_
      refine r_iload dX5_order_99 rfl ?_
      refine r_if_eq (tgt := 131) dX5_order_101 (by decide) (fun c_101 => ?_) (fun c_101 => ?_)
      · replace h := h.1 c_101
        refine r_goto (tgt := 27) dX5_order_131 (by decide) ?_
        refine r_kill [false, false, false, false, false, false, true, true] rfl ?_
        exact h
      · replace h := h.2 c_101
        refine r_iload dX5_order_104 rfl ?_
        refine r_iload_n dX5_order_106 rfl rfl ?_
        refine r_icmp_ne (tgt := 116) dX5_order_107 (by decide) (fun c_107 => ?_) (fun c_107 => ?_)
        · replace h := h.1 c_107
          refine r_iload_n dX5_order_116 rfl rfl ?_
          refine r_iconst (v := J 1) dX5_order_117 rfl ?_
          refine r_iload dX5_order_118 rfl ?_
          refine r_callS (as := [.int x6]) (st := [.int (J 1), .int x3]) dX5_order_120 csX5_125 rfl rfl (Nat.le_of_ble_eq_true rfl) h (fun r M3 h => ?_)
          obtain ⟨v3, rfl, h⟩ := h
          refine r_ishl dX5_order_123 ?_
          refine r_iconst (v := J (-1)) dX5_order_124 rfl ?_
          refine r_ixor dX5_order_125 ?_
          refine r_iand dX5_order_126 ?_
          refine r_istore_n dX5_order_127 rfl (by decide) rfl ?_
          refine r_iinc (v := J 1) dX5_order_128 rfl rfl (by decide) rfl ?_
          refine r_goto (tgt := 27) dX5_order_131 (by decide) ?_
          refine r_kill [false, false, false, false, false, false, true, true] rfl ?_
          exact h
        · replace h := h.2 c_107
          refine r_iload dX5_order_110 rfl ?_
          refine r_callS (as := [.int x6]) (st := []) dX5_order_112 csX5_125 rfl rfl (Nat.le_of_ble_eq_true rfl) h (fun r M4 h => ?_)
          obtain ⟨v4, rfl, h⟩ := h
          exact r_ret dX5_order_115 rfl rfl h
  · replace h := h.2 c_44
    refine r_iload dX5_order_47 rfl ?_
    refine r_iload_n dX5_order_49 rfl rfl ?_
    refine r_iload dX5_order_50 rfl ?_
    refine r_ishr dX5_order_52 ?_
    refine r_iconst (v := J 1) dX5_order_53 rfl ?_
    refine r_iand dX5_order_54 ?_
    refine r_iconst (v := J 1) dX5_order_55 rfl ?_
    refine r_icmp_ne (tgt := 77) dX5_order_56 (by decide) (fun c_56 => ?_) (fun c_56 => ?_)
    · replace h := h.1 c_56
      refine r_iconst (v := J 0) dX5_order_77 rfl ?_
      refine r_ior dX5_order_78 ?_
      refine r_istore dX5_order_79 (by decide) rfl ?_
      refine r_iinc (v := J 1) dX5_order_81 rfl rfl (by decide) rfl ?_
      refine r_goto (tgt := 38) dX5_order_84 (by decide) ?_
      exact h
    · replace h := h.2 c_56
      refine r_aload_n dX5_order_59 rfl rfl ?_
      refine r_iload dX5_order_60 rfl ?_
      refine r_iload_n dX5_order_62 rfl rfl ?_
      refine r_iload_n dX5_order_63 rfl rfl ?_
      refine r_callV (as := [.int x7, .int x1, .int x3]) (st := [.int x6]) dX5_order_64 cvX5_122 rfl rfl rfl rfl (Nat.le_of_ble_eq_true rfl) h (fun r M5 h => ?_)
      obtain ⟨v5, rfl, h⟩ := h
      refine r_if_ne (tgt := 77) dX5_order_67 (by decide) (fun c_67 => ?_) (fun c_67 => ?_)
      · replace h := h.1 c_67
        refine r_iconst (v := J 0) dX5_order_77 rfl ?_
        refine r_ior dX5_order_78 ?_
        refine r_istore dX5_order_79 (by decide) rfl ?_
        refine r_iinc (v := J 1) dX5_order_81 rfl rfl (by decide) rfl ?_
        refine r_goto (tgt := 38) dX5_order_84 (by decide) ?_
        exact h
      · replace h := h.2 c_67
        refine r_iconst (v := J 1) dX5_order_70 rfl ?_
        refine r_iload dX5_order_71 rfl ?_
        refine r_ishl dX5_order_73 ?_
        refine r_goto (tgt := 78) dX5_order_74 (by decide) ?_
        refine r_ior dX5_order_78 ?_
        refine r_istore dX5_order_79 (by decide) rfl ?_
        refine r_iinc (v := J 1) dX5_order_81 rfl rfl (by decide) rfl ?_
        refine r_goto (tgt := 38) dX5_order_84 (by decide) ?_
        exact h
theorem e_X5_order {d : Nat} {M : Mem} {Q : Post} {x1 x2 : Int32} (h : (Mt d mX5_in [.int x1, .int (J 0), .int (J 3)] M (ri fun v1 M1 => ((v1 = 0 → Q (some (J (-1))) M1) ∧ (¬ v1 = 0 → (((J (-1)) ≤ x2 → (Mt d mX5_lying [.ref 18] M1 (ri fun v2 M2 => R none (d + 1) mX5_order 27 [.ref 18, .int x1, .int x2, .int v2, .int (J 0), .int (J 1), .null, .null] [] M2 Q))) ∧ (¬ (J (-1)) ≤ x2 → Q (some (J (-1))) M1))))))) : Mt (d + 1) mX5_order [.ref 18, .int x1, .int x2] M Q := Mt.of (k := 5) (by decide +kernel) (okR (okI (okI okN))) (Nat.le_of_ble_eq_true rfl) rfl (b_X5_order_0 h)
set_option maxRecDepth 100000 in
set_option maxHeartbeats 4000000 in
theorem b_X5_apart_0 {d : Nat} {M : Mem} {Q : Post} {x1 : Int32} (h : (((J (-1)) ≤ x1 → (Mt d mX5_lying [.ref 18] M (ri fun v1 M1 => R none (d + 1) mX5_apart 21 [.ref 18, .int x1, .int v1, .int (J (-4)), .int (J 0), .int (J 1), .null, .null] [] M1 Q))) ∧ (¬ (J (-1)) ≤ x1 → Q (some (J (-1))) M))) : R none (d + 1) mX5_apart 0 [.ref 18, .int x1, .null, .null, .null, .null, .null, .null] [] M Q := by
  refine r_iload_n dX5_apart_0 rfl rfl ?_
  refine r_iconst (v := J (-1)) dX5_apart_1 rfl ?_
  refine r_icmp_ge (tgt := 7) dX5_apart_2 (by decide) (fun c_2 => ?_) (fun c_2 => ?_)
  · replace h := h.1 c_2
    refine r_aload_n dX5_apart_7 rfl rfl ?_
    refine r_callV (as := []) (st := []) dX5_apart_8 cvX5_118 rfl rfl rfl rfl (Nat.le_of_ble_eq_true rfl) h (fun r M1 h => ?_)
    obtain ⟨v1, rfl, h⟩ := h
    refine r_istore_n dX5_apart_11 rfl (by decide) rfl ?_
    refine r_bipush (v := J (-4)) dX5_apart_12 (by decide +kernel) ?_
    refine r_istore_n dX5_apart_14 rfl (by decide) rfl ?_
    refine r_iconst (v := J 0) dX5_apart_15 rfl ?_
    refine r_istore dX5_apart_16 (by decide) rfl ?_
    refine r_iconst (v := J 1) dX5_apart_18 rfl ?_
    refine r_istore dX5_apart_19 (by decide) rfl ?_
    exact h
  · replace h := h.2 c_2
    refine r_iconst (v := J (-1)) dX5_apart_5 rfl ?_
    exact r_ret dX5_apart_6 rfl rfl h
set_option maxRecDepth 100000 in
set_option maxHeartbeats 4000000 in
theorem b_X5_apart_21 {d : Nat} {M : Mem} {Q : Post} {x1 x2 x3 x4 x5 : Int32} (h : ((x5 = 0 → (Mt d mX5_lying [.ref 18] M (ri fun v1 M1 => R none (d + 1) mX5_apart 129 [.ref 18, .int x1, .int x2, .int x3, .null, .null, .int v1, .int (J 0)] [] M1 Q))) ∧ (¬ x5 = 0 → R none (d + 1) mX5_apart 37 [.ref 18, .int x1, .int x2, .int x3, .int x4, .null, .int (J (-1)), .int ((M 18 3) - (J 1))] [] M Q))) : R none (d + 1) mX5_apart 21 [.ref 18, .int x1, .int x2, .int x3, .int x4, .int x5, .null, .null] [] M Q := by
  refine r_iload dX5_apart_21 rfl ?_
  refine r_if_eq (tgt := 120) dX5_apart_23 (by decide) (fun c_23 => ?_) (fun c_23 => ?_)
  · replace h := h.1 c_23
    refine r_aload_n dX5_apart_120 rfl rfl ?_
    refine r_callV (as := []) (st := []) dX5_apart_121 cvX5_118 rfl rfl rfl rfl (Nat.le_of_ble_eq_true rfl) h (fun r M1 h => ?_)
    obtain ⟨v1, rfl, h⟩ := h
    refine r_istore dX5_apart_124 (by decide) rfl ?_
    refine r_iconst (v := J 0) dX5_apart_126 rfl ?_
    refine r_istore dX5_apart_127 (by decide) rfl ?_
    refine r_kill [false, false, false, false, true, true, false, false] rfl ?_
    exact h
  · replace h := h.2 c_23
    refine r_iconst (v := J (-1)) dX5_apart_26 rfl ?_
    refine r_istore dX5_apart_27 (by decide) rfl ?_
    refine r_aload_n dX5_apart_29 rfl rfl ?_
    refine r_getI dX5_apart_30 flX5_60 rfl rfl ?_
    refine r_iconst (v := J 1) dX5_apart_33 rfl ?_
    refine r_isub dX5_apart_34 ?_
    refine r_istore dX5_apart_35 (by decide) rfl ?_
    refine r_kill [false, false, false, false, false, true, false, false] rfl ?_
    exact h
set_option maxRecDepth 100000 in
set_option maxHeartbeats 4000000 in
theorem b_X5_apart_37 {d : Nat} {M : Mem} {Q : Post} {x1 x2 x3 x4 x6 x7 : Int32} (h : ((x7 < 0 → ((x6 < 0 → (((J 0) = 0 → R none (d + 1) mX5_apart 21 [.ref 18, .int x1, .int x2, .int x3, .int x4, .int (J 0), .null, .null] [] M Q) ∧ (¬ (J 0) = 0 → ((¬ x4 = x1 → (vp_in x6 8 ∧ R none (d + 1) mX5_apart 21 [.ref 18, .int x1, .int x2, .int x3, .int (x4 + J 1), .int (J 0), .null, .null] [] (mset M 23 x6.toNatClampNeg (J 0)) Q)) ∧ (x4 = x1 → (vp_in x6 8 ∧ R none (d + 1) mX5_apart 21 [.ref 18, .int x1, .int x2, .int x6, .int (x4 + J 1), .int (J 0), .null, .null] [] (mset M 23 x6.toNatClampNeg (J 0)) Q)))))) ∧ (¬ x6 < 0 → (((J 1) = 0 → R none (d + 1) mX5_apart 21 [.ref 18, .int x1, .int x2, .int x3, .int x4, .int (J 1), .null, .null] [] M Q) ∧ (¬ (J 1) = 0 → ((¬ x4 = x1 → (vp_in x6 8 ∧ R none (d + 1) mX5_apart 21 [.ref 18, .int x1, .int x2, .int x3, .int (x4 + J 1), .int (J 1), .null, .null] [] (mset M 23 x6.toNatClampNeg (J 0)) Q)) ∧ (x4 = x1 → (vp_in x6 8 ∧ R none (d + 1) mX5_apart 21 [.ref 18, .int x1, .int x2, .int x6, .int (x4 + J 1), .int (J 1), .null, .null] [] (mset M 23 x6.toNatClampNeg (J 0)) Q)))))))) ∧ (¬ x7 < 0 → (vp_in x7 8 ∧ (((M 23 x7.toNatClampNeg) = 0 → R none (d + 1) mX5_apart 37 [.ref 18, .int x1, .int x2, .int x3, .int x4, .null, .int x6, .int (x7 + J (-1))] [] M Q) ∧ (¬ (M 23 x7.toNatClampNeg) = 0 → (Mt d mX5_outOf [.ref 18, .int x7] M (ri fun v1 M1 => ((v1 < 0 → R none (d + 1) mX5_apart 37 [.ref 18, .int x1, .int x2, .int x3, .int x4, .null, .int x6, .int (x7 + J (-1))] [] M1 Q) ∧ (¬ v1 < 0 → R none (d + 1) mX5_apart 37 [.ref 18, .int x1, .int x2, .int x3, .int x4, .null, .int x7, .int (x7 + J (-1))] [] M1 Q)))))))))) : R none (d + 1) mX5_apart 37 [.ref 18, .int x1, .int x2, .int x3, .int x4, .null, .int x6, .int x7] [] M Q := by
  refine r_iload dX5_apart_37 rfl ?_
  refine r_if_lt (tgt := 76) dX5_apart_39 (by decide) (fun c_39 => ?_) (fun c_39 => ?_)
  · replace h := h.1 c_39
    refine r_iload dX5_apart_76 rfl ?_
    refine r_if_lt (tgt := 85) dX5_apart_78 (by decide) (fun c_78 => ?_) (fun c_78 => ?_)
    · replace h := h.1 c_78
      refine r_iconst (v := J 0) dX5_apart_85 rfl ?_
      refine r_istore dX5_apart_86 (by decide) rfl ?_
      refine r_iload dX5_apart_88 rfl ?_
      refine r_if_eq (tgt := 117) dX5_apart_90 (by decide) (fun c_90 => ?_) (fun c_90 => ?_)
      · replace h := h.1 c_90
        refine r_goto (tgt := 21) dX5_apart_117 (by decide) ?_
        refine r_kill [false, false, false, false, false, false, true, true] rfl ?_
        exact h
      · replace h := h.2 c_90
        refine r_iload dX5_apart_93 rfl ?_
        refine r_iload_n dX5_apart_95 rfl rfl ?_
        refine r_icmp_ne (tgt := 104) dX5_apart_96 (by decide) (fun c_96 => ?_) (fun c_96 => ?_)
        · replace h := h.1 c_96
          refine r_iload_n dX5_apart_104 rfl rfl ?_
          refine r_istore_n dX5_apart_105 rfl (by decide) rfl ?_
          refine r_aload_n dX5_apart_106 rfl rfl ?_
          refine r_getR dX5_apart_107 flX5_29 rfl rfl ?_
          refine r_iload dX5_apart_110 rfl ?_
          refine r_iconst (v := J 0) dX5_apart_112 rfl ?_
          refine r_zast dX5_apart_113 rfl (by decide +kernel) h.1 ?_
          replace h := h.2
          refine r_iinc (v := J 1) dX5_apart_114 rfl rfl (by decide) rfl ?_
          refine r_goto (tgt := 21) dX5_apart_117 (by decide) ?_
          refine r_kill [false, false, false, false, false, false, true, true] rfl ?_
          exact h
        · replace h := h.2 c_96
          refine r_iload dX5_apart_99 rfl ?_
          refine r_goto (tgt := 105) dX5_apart_101 (by decide) ?_
          refine r_istore_n dX5_apart_105 rfl (by decide) rfl ?_
          refine r_aload_n dX5_apart_106 rfl rfl ?_
          refine r_getR dX5_apart_107 flX5_29 rfl rfl ?_
          refine r_iload dX5_apart_110 rfl ?_
          refine r_iconst (v := J 0) dX5_apart_112 rfl ?_
          refine r_zast dX5_apart_113 rfl (by decide +kernel) h.1 ?_
          replace h := h.2
          refine r_iinc (v := J 1) dX5_apart_114 rfl rfl (by decide) rfl ?_
          refine r_goto (tgt := 21) dX5_apart_117 (by decide) ?_
          refine r_kill [false, false, false, false, false, false, true, true] rfl ?_
          exact h
    · replace h := h.2 c_78
      refine r_iconst (v := J 1) dX5_apart_81 rfl ?_
      refine r_goto (tgt := 86) dX5_apart_82 (by decide) ?_
      refine r_istore dX5_apart_86 (by decide) rfl ?_
      refine r_iload dX5_apart_88 rfl ?_
      refine r_if_eq (tgt := 117) dX5_apart_90 (by decide) (fun c_90 => ?_) (fun c_90 => ?_)
      · replace h := h.1 c_90
        refine r_goto (tgt := 21) dX5_apart_117 (by decide) ?_
        refine r_kill [false, false, false, false, false, false, true, true] rfl ?_
        exact h
      · replace h := h.2 c_90
        refine r_iload dX5_apart_93 rfl ?_
        refine r_iload_n dX5_apart_95 rfl rfl ?_
        refine r_icmp_ne (tgt := 104) dX5_apart_96 (by decide) (fun c_96 => ?_) (fun c_96 => ?_)
        · replace h := h.1 c_96
          refine r_iload_n dX5_apart_104 rfl rfl ?_
          refine r_istore_n dX5_apart_105 rfl (by decide) rfl ?_
          refine r_aload_n dX5_apart_106 rfl rfl ?_
          refine r_getR dX5_apart_107 flX5_29 rfl rfl ?_
          refine r_iload dX5_apart_110 rfl ?_
          refine r_iconst (v := J 0) dX5_apart_112 rfl ?_
          refine r_zast dX5_apart_113 rfl (by decide +kernel) h.1 ?_
          replace h := h.2
          refine r_iinc (v := J 1) dX5_apart_114 rfl rfl (by decide) rfl ?_
          refine r_goto (tgt := 21) dX5_apart_117 (by decide) ?_
          refine r_kill [false, false, false, false, false, false, true, true] rfl ?_
          exact h
        · replace h := h.2 c_96
          refine r_iload dX5_apart_99 rfl ?_
          refine r_goto (tgt := 105) dX5_apart_101 (by decide) ?_
          refine r_istore_n dX5_apart_105 rfl (by decide) rfl ?_
          refine r_aload_n dX5_apart_106 rfl rfl ?_
          refine r_getR dX5_apart_107 flX5_29 rfl rfl ?_
          refine r_iload dX5_apart_110 rfl ?_
          refine r_iconst (v := J 0) dX5_apart_112 rfl ?_
          refine r_zast dX5_apart_113 rfl (by decide +kernel) h.1 ?_
          replace h := h.2
          refine r_iinc (v := J 1) dX5_apart_114 rfl rfl (by decide) rfl ?_
          refine r_goto (tgt := 21) dX5_apart_117 (by decide) ?_
          refine r_kill [false, false, false, false, false, false, true, true] rfl ?_
          exact h
  · replace h := h.2 c_39
    refine r_aload_n dX5_apart_42 rfl rfl ?_
    refine r_getR dX5_apart_43 flX5_29 rfl rfl ?_
    refine r_iload dX5_apart_46 rfl ?_
    refine r_zald dX5_apart_48 rfl h.1 ?_
    replace h := h.2
    refine r_if_eq (tgt := 66) dX5_apart_49 (by decide) (fun c_49 => ?_) (fun c_49 => ?_)
    · replace h := h.1 c_49
      refine r_iload dX5_apart_66 rfl ?_
      refine r_istore dX5_apart_68 (by decide) rfl ?_
      refine r_iinc (v := J (-1)) dX5_apart_70 rfl rfl (by decide) rfl ?_
      refine r_goto (tgt := 37) dX5_apart_73 (by decide) ?_
      exact h
    · replace h := h.2 c_49
      refine r_aload_n dX5_apart_52 rfl rfl ?_
      refine r_iload dX5_apart_53 rfl ?_
      refine r_callV (as := [.int x7]) (st := []) dX5_apart_55 cvX5_112 rfl rfl rfl rfl (Nat.le_of_ble_eq_true rfl) h (fun r M1 h => ?_)
      obtain ⟨v1, rfl, h⟩ := h
      refine r_if_lt (tgt := 66) dX5_apart_58 (by decide) (fun c_58 => ?_) (fun c_58 => ?_)
      · replace h := h.1 c_58
        refine r_iload dX5_apart_66 rfl ?_
        refine r_istore dX5_apart_68 (by decide) rfl ?_
        refine r_iinc (v := J (-1)) dX5_apart_70 rfl rfl (by decide) rfl ?_
        refine r_goto (tgt := 37) dX5_apart_73 (by decide) ?_
        exact h
      · replace h := h.2 c_58
        refine r_iload dX5_apart_61 rfl ?_
        refine r_goto (tgt := 68) dX5_apart_63 (by decide) ?_
        refine r_istore dX5_apart_68 (by decide) rfl ?_
        refine r_iinc (v := J (-1)) dX5_apart_70 rfl rfl (by decide) rfl ?_
        refine r_goto (tgt := 37) dX5_apart_73 (by decide) ?_
        exact h
set_option maxRecDepth 100000 in
set_option maxHeartbeats 4000000 in
theorem b_X5_apart_129 {d : Nat} {M : Mem} {Q : Post} {x1 x2 x3 x6 x7 : Int32} (h : (((M 18 3) ≤ x7 → ((0 ≤ x1 → Q (some x3) M) ∧ (¬ 0 ≤ x1 → Q (some x6) M))) ∧ (¬ (M 18 3) ≤ x7 → ((¬ ((x2 >>> (x7 &&& 31)) &&& (J 1)) = (J 1) → (vp_in x7 8 ∧ R none (d + 1) mX5_apart 129 [.ref 18, .int x1, .int x2, .int x3, .null, .null, .int x6, .int (x7 + J 1)] [] (mset M 23 x7.toNatClampNeg (J 0)) Q)) ∧ (((x2 >>> (x7 &&& 31)) &&& (J 1)) = (J 1) → (vp_in x7 8 ∧ R none (d + 1) mX5_apart 129 [.ref 18, .int x1, .int x2, .int x3, .null, .null, .int x6, .int (x7 + J 1)] [] (mset M 23 x7.toNatClampNeg (J 1)) Q)))))) : R none (d + 1) mX5_apart 129 [.ref 18, .int x1, .int x2, .int x3, .null, .null, .int x6, .int x7] [] M Q := by
  refine r_iload dX5_apart_129 rfl ?_
  refine r_aload_n dX5_apart_131 rfl rfl ?_
  refine r_getI dX5_apart_132 flX5_60 rfl rfl ?_
  refine r_icmp_ge (tgt := 166) dX5_apart_135 (by decide) (fun c_135 => ?_) (fun c_135 => ?_)
  · replace h := h.1 c_135
    refine r_iload_n dX5_apart_166 rfl rfl ?_
    refine r_if_ge (tgt := 175) dX5_apart_167 (by decide) (fun c_167 => ?_) (fun c_167 => ?_)
    · replace h := h.1 c_167
      refine r_iload_n dX5_apart_175 rfl rfl ?_
      exact r_ret dX5_apart_176 rfl rfl h
    · replace h := h.2 c_167
      refine r_iload dX5_apart_170 rfl ?_
      refine r_goto (tgt := 176) dX5_apart_172 (by decide) ?_
      exact r_ret dX5_apart_176 rfl rfl h
  · replace h := h.2 c_135
    refine r_aload_n dX5_apart_138 rfl rfl ?_
    refine r_getR dX5_apart_139 flX5_29 rfl rfl ?_
    refine r_iload dX5_apart_142 rfl ?_
    refine r_iload_n dX5_apart_144 rfl rfl ?_
    refine r_iload dX5_apart_145 rfl ?_
    refine r_ishr dX5_apart_147 ?_
    refine r_iconst (v := J 1) dX5_apart_148 rfl ?_
    refine r_iand dX5_apart_149 ?_
    refine r_iconst (v := J 1) dX5_apart_150 rfl ?_
    refine r_icmp_ne (tgt := 158) dX5_apart_151 (by decide) (fun c_151 => ?_) (fun c_151 => ?_)
    · replace h := h.1 c_151
      refine r_iconst (v := J 0) dX5_apart_158 rfl ?_
      refine r_zast dX5_apart_159 rfl (by decide +kernel) h.1 ?_
      replace h := h.2
      refine r_iinc (v := J 1) dX5_apart_160 rfl rfl (by decide) rfl ?_
      refine r_goto (tgt := 129) dX5_apart_163 (by decide) ?_
      exact h
    · replace h := h.2 c_151
      refine r_iconst (v := J 1) dX5_apart_154 rfl ?_
      refine r_goto (tgt := 159) dX5_apart_155 (by decide) ?_
      refine r_zast dX5_apart_159 rfl (by decide +kernel) h.1 ?_
      replace h := h.2
      refine r_iinc (v := J 1) dX5_apart_160 rfl rfl (by decide) rfl ?_
      refine r_goto (tgt := 129) dX5_apart_163 (by decide) ?_
      exact h
theorem e_X5_apart {d : Nat} {M : Mem} {Q : Post} {x1 : Int32} (h : (((J (-1)) ≤ x1 → (Mt d mX5_lying [.ref 18] M (ri fun v1 M1 => R none (d + 1) mX5_apart 21 [.ref 18, .int x1, .int v1, .int (J (-4)), .int (J 0), .int (J 1), .null, .null] [] M1 Q))) ∧ (¬ (J (-1)) ≤ x1 → Q (some (J (-1))) M))) : Mt (d + 1) mX5_apart [.ref 18, .int x1] M Q := Mt.of (k := 6) (by decide +kernel) (okR (okI okN)) (Nat.le_of_ble_eq_true rfl) rfl (b_X5_apart_0 h)
set_option maxRecDepth 100000 in
set_option maxHeartbeats 4000000 in
theorem b_X5_meet_0 {d : Nat} {M : Mem} {Q : Post} {x1 x2 x3 x4 : Int32} (h : R none (d + 1) mX5_meet 6 [.ref 18, .int x1, .int x2, .int x3, .int x4, .int (J 0), .int (J 0)] [] M Q) : R none (d + 1) mX5_meet 0 [.ref 18, .int x1, .int x2, .int x3, .int x4, .null, .null] [] M Q := by
  refine r_iconst (v := J 0) dX5_meet_0 rfl ?_
  refine r_istore dX5_meet_1 (by decide) rfl ?_
  refine r_iconst (v := J 0) dX5_meet_3 rfl ?_
  refine r_istore dX5_meet_4 (by decide) rfl ?_
  exact h
set_option maxRecDepth 100000 in
set_option maxHeartbeats 4000000 in
theorem b_X5_meet_6 {d : Nat} {M : Mem} {Q : Post} {x1 x2 x3 x4 x5 x6 : Int32} (h : (((J 25) ≤ x6 → ((x5 = J 0 ∨ x5 = J 1) ∧ Q (some x5) M)) ∧ (¬ (J 25) ≤ x6 → ((¬ x5 = 0 → R none (d + 1) mX5_meet 6 [.ref 18, .int x1, .int x2, .int x3, .int x4, .int (J 1), .int (x6 + J 1)] [] M Q) ∧ (x5 = 0 → (vp_in x1 8 ∧ ((¬ (((M 20 x1.toNatClampNeg) >>> (x6 &&& 31)) &&& (J 1)) = (J 1) → R none (d + 1) mX5_meet 6 [.ref 18, .int x1, .int x2, .int x3, .int x4, .int (J 0), .int (x6 + J 1)] [] M Q) ∧ ((((M 20 x1.toNatClampNeg) >>> (x6 &&& 31)) &&& (J 1)) = (J 1) → (Mt d mX5_has [.ref 18, .int x2, .int (J 0), .int (J 0), .int (x3 + (x6 - x6 / (J 5) * (J 5))), .int (x4 + (x6 / (J 5)))] M (ri fun v1 M1 => ((v1 = 0 → R none (d + 1) mX5_meet 6 [.ref 18, .int x1, .int x2, .int x3, .int x4, .int (J 0), .int (x6 + J 1)] [] M1 Q) ∧ (¬ v1 = 0 → R none (d + 1) mX5_meet 6 [.ref 18, .int x1, .int x2, .int x3, .int x4, .int (J 1), .int (x6 + J 1)] [] M1 Q)))))))))))) : R none (d + 1) mX5_meet 6 [.ref 18, .int x1, .int x2, .int x3, .int x4, .int x5, .int x6] [] M Q := by
  refine r_iload dX5_meet_6 rfl ?_
  refine r_bipush (v := J 25) dX5_meet_8 (by decide +kernel) ?_
  refine r_icmp_ge (tgt := 69) dX5_meet_10 (by decide) (fun c_10 => ?_) (fun c_10 => ?_)
  · replace h := h.1 c_10
    refine r_iload dX5_meet_69 rfl ?_
    exact r_ret dX5_meet_71 rfl (nbz h.1) h.2
  · replace h := h.2 c_10
    refine r_iload dX5_meet_13 rfl ?_
    refine r_if_ne (tgt := 56) dX5_meet_15 (by decide) (fun c_15 => ?_) (fun c_15 => ?_)
    · replace h := h.1 c_15
      refine r_iconst (v := J 1) dX5_meet_56 rfl ?_
      refine r_goto (tgt := 61) dX5_meet_57 (by decide) ?_
      refine r_istore dX5_meet_61 (by decide) rfl ?_
      refine r_iinc (v := J 1) dX5_meet_63 rfl rfl (by decide) rfl ?_
      refine r_goto (tgt := 6) dX5_meet_66 (by decide) ?_
      exact h
    · replace h := h.2 c_15
      refine r_aload_n dX5_meet_18 rfl rfl ?_
      refine r_getR dX5_meet_19 flX5_20 rfl rfl ?_
      refine r_iload_n dX5_meet_22 rfl rfl ?_
      refine r_iald dX5_meet_23 rfl h.1 ?_
      replace h := h.2
      refine r_iload dX5_meet_24 rfl ?_
      refine r_ishr dX5_meet_26 ?_
      refine r_iconst (v := J 1) dX5_meet_27 rfl ?_
      refine r_iand dX5_meet_28 ?_
      refine r_iconst (v := J 1) dX5_meet_29 rfl ?_
      refine r_icmp_ne (tgt := 60) dX5_meet_30 (by decide) (fun c_30 => ?_) (fun c_30 => ?_)
      · replace h := h.1 c_30
        refine r_iconst (v := J 0) dX5_meet_60 rfl ?_
        refine r_istore dX5_meet_61 (by decide) rfl ?_
        refine r_iinc (v := J 1) dX5_meet_63 rfl rfl (by decide) rfl ?_
        refine r_goto (tgt := 6) dX5_meet_66 (by decide) ?_
        exact h
      · replace h := h.2 c_30
        refine r_aload_n dX5_meet_33 rfl rfl ?_
        refine r_iload_n dX5_meet_34 rfl rfl ?_
        refine r_iconst (v := J 0) dX5_meet_35 rfl ?_
        refine r_iconst (v := J 0) dX5_meet_36 rfl ?_
        refine r_iload_n dX5_meet_37 rfl rfl ?_
        refine r_iload dX5_meet_38 rfl ?_
        refine r_iconst (v := J 5) dX5_meet_40 rfl ?_
        refine r_irem dX5_meet_41 (by decide +kernel) ?_
        refine r_iadd dX5_meet_42 ?_
        refine r_iload dX5_meet_43 rfl ?_
        refine r_iload dX5_meet_45 rfl ?_
        refine r_iconst (v := J 5) dX5_meet_47 rfl ?_
        refine r_idiv dX5_meet_48 (by decide +kernel) ?_
        refine r_iadd dX5_meet_49 ?_
        refine r_callV (as := [.int x2, .int (J 0), .int (J 0), .int (x3 + (x6 - x6 / (J 5) * (J 5))), .int (x4 + (x6 / (J 5)))]) (st := []) dX5_meet_50 cvX5_67 rfl rfl rfl rfl (Nat.le_of_ble_eq_true rfl) h (fun r M1 h => ?_)
        obtain ⟨v1, rfl, h⟩ := h
        refine r_if_eq (tgt := 60) dX5_meet_53 (by decide) (fun c_53 => ?_) (fun c_53 => ?_)
        · replace h := h.1 c_53
          refine r_iconst (v := J 0) dX5_meet_60 rfl ?_
          refine r_istore dX5_meet_61 (by decide) rfl ?_
          refine r_iinc (v := J 1) dX5_meet_63 rfl rfl (by decide) rfl ?_
          refine r_goto (tgt := 6) dX5_meet_66 (by decide) ?_
          exact h
        · replace h := h.2 c_53
          refine r_iconst (v := J 1) dX5_meet_56 rfl ?_
          refine r_goto (tgt := 61) dX5_meet_57 (by decide) ?_
          refine r_istore dX5_meet_61 (by decide) rfl ?_
          refine r_iinc (v := J 1) dX5_meet_63 rfl rfl (by decide) rfl ?_
          refine r_goto (tgt := 6) dX5_meet_66 (by decide) ?_
          exact h
theorem e_X5_meet {d : Nat} {M : Mem} {Q : Post} {x1 x2 x3 x4 : Int32} (h : R none (d + 1) mX5_meet 6 [.ref 18, .int x1, .int x2, .int x3, .int x4, .int (J 0), .int (J 0)] [] M Q) : Mt (d + 1) mX5_meet [.ref 18, .int x1, .int x2, .int x3, .int x4] M Q := Mt.of (k := 2) (by decide +kernel) (okR (okI (okI (okI (okI okN))))) (Nat.le_of_ble_eq_true rfl) rfl (b_X5_meet_0 h)
set_option maxRecDepth 100000 in
set_option maxHeartbeats 4000000 in
theorem b_X5_push_0 {d : Nat} {M : Mem} {Q : Post} {x1 x2 x3 : Int32} (h : (Mt d mX5_isPiece [.ref 18, .int x1] M (ri fun v1 M1 => ((v1 = 0 → Q (some (J (-1000))) M1) ∧ (¬ v1 = 0 → (Mt d mX5_isPiece [.ref 18, .int x2] M1 (ri fun v2 M2 => ((v2 = 0 → Q (some (J (-1000))) M2) ∧ (¬ v2 = 0 → ((x1 = x2 → Q (some (J (-1000))) M2) ∧ (¬ x1 = x2 → (Mt d mX5_in [.int x3, .int (J 0), .int (J 1)] M2 (ri fun v3 M3 => ((¬ v3 = 0 → R none (d + 1) mX5_push 51 [.ref 18, .int x1, .int x2, .int x3, .int (J 99), .int (J 99), .int (J 999), .int (J (-10)), .null, .null] [] M3 Q) ∧ (v3 = 0 → Q (some (J (-1000))) M3))))))))))))))) : R none (d + 1) mX5_push 0 [.ref 18, .int x1, .int x2, .int x3, .null, .null, .null, .null, .null, .null] [] M Q := by
  refine r_aload_n dX5_push_0 rfl rfl ?_
  refine r_iload_n dX5_push_1 rfl rfl ?_
  refine r_callV (as := [.int x1]) (st := []) dX5_push_2 cvX5_77 rfl rfl rfl rfl (Nat.le_of_ble_eq_true rfl) h (fun r M1 h => ?_)
  obtain ⟨v1, rfl, h⟩ := h
  refine r_if_eq (tgt := 30) dX5_push_5 (by decide) (fun c_5 => ?_) (fun c_5 => ?_)
  · replace h := h.1 c_5
    refine r_sipush (v := J (-1000)) dX5_push_30 (by decide +kernel) ?_
    exact r_ret dX5_push_33 rfl rfl h
  · replace h := h.2 c_5
    refine r_aload_n dX5_push_8 rfl rfl ?_
    refine r_iload_n dX5_push_9 rfl rfl ?_
    refine r_callV (as := [.int x2]) (st := []) dX5_push_10 cvX5_77 rfl rfl rfl rfl (Nat.le_of_ble_eq_true rfl) h (fun r M2 h => ?_)
    obtain ⟨v2, rfl, h⟩ := h
    refine r_if_eq (tgt := 30) dX5_push_13 (by decide) (fun c_13 => ?_) (fun c_13 => ?_)
    · replace h := h.1 c_13
      refine r_sipush (v := J (-1000)) dX5_push_30 (by decide +kernel) ?_
      exact r_ret dX5_push_33 rfl rfl h
    · replace h := h.2 c_13
      refine r_iload_n dX5_push_16 rfl rfl ?_
      refine r_iload_n dX5_push_17 rfl rfl ?_
      refine r_icmp_eq (tgt := 30) dX5_push_18 (by decide) (fun c_18 => ?_) (fun c_18 => ?_)
      · replace h := h.1 c_18
        refine r_sipush (v := J (-1000)) dX5_push_30 (by decide +kernel) ?_
        exact r_ret dX5_push_33 rfl rfl h
      · replace h := h.2 c_18
        refine r_iload_n dX5_push_21 rfl rfl ?_
        refine r_iconst (v := J 0) dX5_push_22 rfl ?_
        refine r_iconst (v := J 1) dX5_push_23 rfl ?_
        refine r_callS (as := [.int x3, .int (J 0), .int (J 1)]) (st := []) dX5_push_24 csX5_63 rfl rfl (Nat.le_of_ble_eq_true rfl) h (fun r M3 h => ?_)
        obtain ⟨v3, rfl, h⟩ := h
        refine r_if_ne (tgt := 34) dX5_push_27 (by decide) (fun c_27 => ?_) (fun c_27 => ?_)
        · replace h := h.1 c_27
          refine r_bipush (v := J 99) dX5_push_34 (by decide +kernel) ?_
          refine r_istore dX5_push_36 (by decide) rfl ?_
          refine r_bipush (v := J 99) dX5_push_38 (by decide +kernel) ?_
          refine r_istore dX5_push_40 (by decide) rfl ?_
          refine r_sipush (v := J 999) dX5_push_42 (by decide +kernel) ?_
          refine r_istore dX5_push_45 (by decide) rfl ?_
          refine r_bipush (v := J (-10)) dX5_push_47 (by decide +kernel) ?_
          refine r_istore dX5_push_49 (by decide) rfl ?_
          exact h
        · replace h := h.2 c_27
          refine r_sipush (v := J (-1000)) dX5_push_30 (by decide +kernel) ?_
          exact r_ret dX5_push_33 rfl rfl h
set_option maxRecDepth 100000 in
set_option maxHeartbeats 4000000 in
theorem b_X5_push_51 {d : Nat} {M : Mem} {Q : Post} {x1 x2 x3 x4 x5 x6 x7 : Int32} (h : (((J 10) < x7 → ((¬ x3 = 0 → Q (some x5) M) ∧ (x3 = 0 → Q (some x4) M))) ∧ (¬ (J 10) < x7 → R none (d + 1) mX5_push 62 [.ref 18, .int x1, .int x2, .int x3, .int x4, .int x5, .int x6, .int x7, .int (J (-10)), .null] [] M Q))) : R none (d + 1) mX5_push 51 [.ref 18, .int x1, .int x2, .int x3, .int x4, .int x5, .int x6, .int x7, .null, .null] [] M Q := by
  refine r_iload dX5_push_51 rfl ?_
  refine r_bipush (v := J 10) dX5_push_53 (by decide +kernel) ?_
  refine r_icmp_gt (tgt := 142) dX5_push_55 (by decide) (fun c_55 => ?_) (fun c_55 => ?_)
  · replace h := h.1 c_55
    refine r_iload_n dX5_push_142 rfl rfl ?_
    refine r_if_ne (tgt := 151) dX5_push_143 (by decide) (fun c_143 => ?_) (fun c_143 => ?_)
    · replace h := h.1 c_143
      refine r_iload dX5_push_151 rfl ?_
      exact r_ret dX5_push_153 rfl rfl h
    · replace h := h.2 c_143
      refine r_iload dX5_push_146 rfl ?_
      refine r_goto (tgt := 153) dX5_push_148 (by decide) ?_
      exact r_ret dX5_push_153 rfl rfl h
  · replace h := h.2 c_55
    refine r_bipush (v := J (-10)) dX5_push_58 (by decide +kernel) ?_
    refine r_istore dX5_push_60 (by decide) rfl ?_
    exact h
set_option maxRecDepth 100000 in
set_option maxHeartbeats 4000000 in
theorem b_X5_push_62 {d : Nat} {M : Mem} {Q : Post} {x1 x2 x3 x4 x5 x6 x7 x8 : Int32} (h : (((J 10) < x8 → R none (d + 1) mX5_push 51 [.ref 18, .int x1, .int x2, .int x3, .int x4, .int x5, .int x6, .int (x7 + J 1), .null, .null] [] M Q) ∧ (¬ (J 10) < x8 → ((0 ≤ x7 → ((0 ≤ x8 → ((x6 ≤ (x7 + x8) → R none (d + 1) mX5_push 62 [.ref 18, .int x1, .int x2, .int x3, .int x4, .int x5, .int x6, .int x7, .int (x8 + J 1), .null] [] M Q) ∧ (¬ x6 ≤ (x7 + x8) → (Mt d mX5_meet [.ref 18, .int x1, .int x2, .int x7, .int x8] M (ri fun v1 M1 => ((¬ v1 = 0 → R none (d + 1) mX5_push 62 [.ref 18, .int x1, .int x2, .int x3, .int x4, .int x5, .int x6, .int x7, .int (x8 + J 1), .null] [] M1 Q) ∧ (v1 = 0 → R none (d + 1) mX5_push 62 [.ref 18, .int x1, .int x2, .int x3, .int x7, .int x8, .int (x7 + x8), .int x7, .int (x8 + J 1), .null] [] M1 Q))))))) ∧ (¬ 0 ≤ x8 → ((x6 ≤ (x7 + (-x8)) → R none (d + 1) mX5_push 62 [.ref 18, .int x1, .int x2, .int x3, .int x4, .int x5, .int x6, .int x7, .int (x8 + J 1), .null] [] M Q) ∧ (¬ x6 ≤ (x7 + (-x8)) → (Mt d mX5_meet [.ref 18, .int x1, .int x2, .int x7, .int x8] M (ri fun v2 M2 => ((¬ v2 = 0 → R none (d + 1) mX5_push 62 [.ref 18, .int x1, .int x2, .int x3, .int x4, .int x5, .int x6, .int x7, .int (x8 + J 1), .null] [] M2 Q) ∧ (v2 = 0 → R none (d + 1) mX5_push 62 [.ref 18, .int x1, .int x2, .int x3, .int x7, .int x8, .int (x7 + (-x8)), .int x7, .int (x8 + J 1), .null] [] M2 Q))))))))) ∧ (¬ 0 ≤ x7 → ((0 ≤ x8 → ((x6 ≤ ((-x7) + x8) → R none (d + 1) mX5_push 62 [.ref 18, .int x1, .int x2, .int x3, .int x4, .int x5, .int x6, .int x7, .int (x8 + J 1), .null] [] M Q) ∧ (¬ x6 ≤ ((-x7) + x8) → (Mt d mX5_meet [.ref 18, .int x1, .int x2, .int x7, .int x8] M (ri fun v3 M3 => ((¬ v3 = 0 → R none (d + 1) mX5_push 62 [.ref 18, .int x1, .int x2, .int x3, .int x4, .int x5, .int x6, .int x7, .int (x8 + J 1), .null] [] M3 Q) ∧ (v3 = 0 → R none (d + 1) mX5_push 62 [.ref 18, .int x1, .int x2, .int x3, .int x7, .int x8, .int ((-x7) + x8), .int x7, .int (x8 + J 1), .null] [] M3 Q))))))) ∧ (¬ 0 ≤ x8 → ((x6 ≤ ((-x7) + (-x8)) → R none (d + 1) mX5_push 62 [.ref 18, .int x1, .int x2, .int x3, .int x4, .int x5, .int x6, .int x7, .int (x8 + J 1), .null] [] M Q) ∧ (¬ x6 ≤ ((-x7) + (-x8)) → (Mt d mX5_meet [.ref 18, .int x1, .int x2, .int x7, .int x8] M (ri fun v4 M4 => ((¬ v4 = 0 → R none (d + 1) mX5_push 62 [.ref 18, .int x1, .int x2, .int x3, .int x4, .int x5, .int x6, .int x7, .int (x8 + J 1), .null] [] M4 Q) ∧ (v4 = 0 → R none (d + 1) mX5_push 62 [.ref 18, .int x1, .int x2, .int x3, .int x7, .int x8, .int ((-x7) + (-x8)), .int x7, .int (x8 + J 1), .null] [] M4 Q))))))))))))) : R none (d + 1) mX5_push 62 [.ref 18, .int x1, .int x2, .int x3, .int x4, .int x5, .int x6, .int x7, .int x8, .null] [] M Q := by
  refine r_iload dX5_push_62 rfl ?_
  refine r_bipush (v := J 10) dX5_push_64 (by decide +kernel) ?_
  refine r_icmp_gt (tgt := 136) dX5_push_66 (by decide) (fun c_66 => ?_) (fun c_66 => ?_)
  · replace h := h.1 c_66
    refine r_iinc (v := J 1) dX5_push_136 rfl rfl (by decide) rfl ?_
    refine r_goto (tgt := 51) dX5_push_139 (by decide) ?_
    refine r_kill [false, false, false, false, false, false, false, false, true, false] rfl ?_
    exact h
  · replace h := h.2 c_66
    refine r_iload dX5_push_69 rfl ?_
    refine r_if_ge (tgt := 80) dX5_push_71 (by decide) (fun c_71 => ?_) (fun c_71 => ?_)
    · replace h := h.1 c_71
      refine r_iload dX5_push_80 rfl ?_
      refine r_iload dX5_push_82 rfl ?_
      refine r_if_ge (tgt := 93) dX5_push_84 (by decide) (fun c_84 => ?_) (fun c_84 => ?_)
      · replace h := h.1 c_84
        refine r_iload dX5_push_93 rfl ?_
        refine r_iadd dX5_push_95 ?_
        refine r_istore dX5_push_96 (by decide) rfl ?_
        refine r_iload dX5_push_98 rfl ?_
        refine r_iload dX5_push_100 rfl ?_
        refine r_icmp_ge (tgt := 130) dX5_push_102 (by decide) (fun c_102 => ?_) (fun c_102 => ?_)
        · replace h := h.1 c_102
          refine r_iinc (v := J 1) dX5_push_130 rfl rfl (by decide) rfl ?_
          refine r_goto (tgt := 62) dX5_push_133 (by decide) ?_
          refine r_kill [false, false, false, false, false, false, false, false, false, true] rfl ?_
          exact h
        · replace h := h.2 c_102
          refine r_aload_n dX5_push_105 rfl rfl ?_
          refine r_iload_n dX5_push_106 rfl rfl ?_
          refine r_iload_n dX5_push_107 rfl rfl ?_
          refine r_iload dX5_push_108 rfl ?_
          refine r_iload dX5_push_110 rfl ?_
          refine r_callV (as := [.int x1, .int x2, .int x7, .int x8]) (st := []) dX5_push_112 cvX5_128 rfl rfl rfl rfl (Nat.le_of_ble_eq_true rfl) h (fun r M1 h => ?_)
          obtain ⟨v1, rfl, h⟩ := h
          refine r_if_ne (tgt := 130) dX5_push_115 (by decide) (fun c_115 => ?_) (fun c_115 => ?_)
          · replace h := h.1 c_115
            refine r_iinc (v := J 1) dX5_push_130 rfl rfl (by decide) rfl ?_
            refine r_goto (tgt := 62) dX5_push_133 (by decide) ?_
            refine r_kill [false, false, false, false, false, false, false, false, false, true] rfl ?_
            exact h
          · replace h := h.2 c_115
            refine r_iload dX5_push_118 rfl ?_
            refine r_istore dX5_push_120 (by decide) rfl ?_
            refine r_iload dX5_push_122 rfl ?_
            refine r_istore dX5_push_124 (by decide) rfl ?_
            refine r_iload dX5_push_126 rfl ?_
            refine r_istore dX5_push_128 (by decide) rfl ?_
            refine r_iinc (v := J 1) dX5_push_130 rfl rfl (by decide) rfl ?_
            refine r_goto (tgt := 62) dX5_push_133 (by decide) ?_
            refine r_kill [false, false, false, false, false, false, false, false, false, true] rfl ?_
            exact h
      · replace h := h.2 c_84
        refine r_iload dX5_push_87 rfl ?_
        refine r_ineg dX5_push_89 ?_
        refine r_goto (tgt := 95) dX5_push_90 (by decide) ?_
        refine r_iadd dX5_push_95 ?_
        refine r_istore dX5_push_96 (by decide) rfl ?_
        refine r_iload dX5_push_98 rfl ?_
        refine r_iload dX5_push_100 rfl ?_
        refine r_icmp_ge (tgt := 130) dX5_push_102 (by decide) (fun c_102 => ?_) (fun c_102 => ?_)
        · replace h := h.1 c_102
          refine r_iinc (v := J 1) dX5_push_130 rfl rfl (by decide) rfl ?_
          refine r_goto (tgt := 62) dX5_push_133 (by decide) ?_
          refine r_kill [false, false, false, false, false, false, false, false, false, true] rfl ?_
          exact h
        · replace h := h.2 c_102
          refine r_aload_n dX5_push_105 rfl rfl ?_
          refine r_iload_n dX5_push_106 rfl rfl ?_
          refine r_iload_n dX5_push_107 rfl rfl ?_
          refine r_iload dX5_push_108 rfl ?_
          refine r_iload dX5_push_110 rfl ?_
          refine r_callV (as := [.int x1, .int x2, .int x7, .int x8]) (st := []) dX5_push_112 cvX5_128 rfl rfl rfl rfl (Nat.le_of_ble_eq_true rfl) h (fun r M2 h => ?_)
          obtain ⟨v2, rfl, h⟩ := h
          refine r_if_ne (tgt := 130) dX5_push_115 (by decide) (fun c_115 => ?_) (fun c_115 => ?_)
          · replace h := h.1 c_115
            refine r_iinc (v := J 1) dX5_push_130 rfl rfl (by decide) rfl ?_
            refine r_goto (tgt := 62) dX5_push_133 (by decide) ?_
            refine r_kill [false, false, false, false, false, false, false, false, false, true] rfl ?_
            exact h
          · replace h := h.2 c_115
            refine r_iload dX5_push_118 rfl ?_
            refine r_istore dX5_push_120 (by decide) rfl ?_
            refine r_iload dX5_push_122 rfl ?_
            refine r_istore dX5_push_124 (by decide) rfl ?_
            refine r_iload dX5_push_126 rfl ?_
            refine r_istore dX5_push_128 (by decide) rfl ?_
            refine r_iinc (v := J 1) dX5_push_130 rfl rfl (by decide) rfl ?_
            refine r_goto (tgt := 62) dX5_push_133 (by decide) ?_
            refine r_kill [false, false, false, false, false, false, false, false, false, true] rfl ?_
            exact h
    · replace h := h.2 c_71
      refine r_iload dX5_push_74 rfl ?_
      refine r_ineg dX5_push_76 ?_
      refine r_goto (tgt := 82) dX5_push_77 (by decide) ?_
      refine r_iload dX5_push_82 rfl ?_
      refine r_if_ge (tgt := 93) dX5_push_84 (by decide) (fun c_84 => ?_) (fun c_84 => ?_)
      · replace h := h.1 c_84
        refine r_iload dX5_push_93 rfl ?_
        refine r_iadd dX5_push_95 ?_
        refine r_istore dX5_push_96 (by decide) rfl ?_
        refine r_iload dX5_push_98 rfl ?_
        refine r_iload dX5_push_100 rfl ?_
        refine r_icmp_ge (tgt := 130) dX5_push_102 (by decide) (fun c_102 => ?_) (fun c_102 => ?_)
        · replace h := h.1 c_102
          refine r_iinc (v := J 1) dX5_push_130 rfl rfl (by decide) rfl ?_
          refine r_goto (tgt := 62) dX5_push_133 (by decide) ?_
          refine r_kill [false, false, false, false, false, false, false, false, false, true] rfl ?_
          exact h
        · replace h := h.2 c_102
          refine r_aload_n dX5_push_105 rfl rfl ?_
          refine r_iload_n dX5_push_106 rfl rfl ?_
          refine r_iload_n dX5_push_107 rfl rfl ?_
          refine r_iload dX5_push_108 rfl ?_
          refine r_iload dX5_push_110 rfl ?_
          refine r_callV (as := [.int x1, .int x2, .int x7, .int x8]) (st := []) dX5_push_112 cvX5_128 rfl rfl rfl rfl (Nat.le_of_ble_eq_true rfl) h (fun r M3 h => ?_)
          obtain ⟨v3, rfl, h⟩ := h
          refine r_if_ne (tgt := 130) dX5_push_115 (by decide) (fun c_115 => ?_) (fun c_115 => ?_)
          · replace h := h.1 c_115
            refine r_iinc (v := J 1) dX5_push_130 rfl rfl (by decide) rfl ?_
            refine r_goto (tgt := 62) dX5_push_133 (by decide) ?_
            refine r_kill [false, false, false, false, false, false, false, false, false, true] rfl ?_
            exact h
          · replace h := h.2 c_115
            refine r_iload dX5_push_118 rfl ?_
            refine r_istore dX5_push_120 (by decide) rfl ?_
            refine r_iload dX5_push_122 rfl ?_
            refine r_istore dX5_push_124 (by decide) rfl ?_
            refine r_iload dX5_push_126 rfl ?_
            refine r_istore dX5_push_128 (by decide) rfl ?_
            refine r_iinc (v := J 1) dX5_push_130 rfl rfl (by decide) rfl ?_
            refine r_goto (tgt := 62) dX5_push_133 (by decide) ?_
            refine r_kill [false, false, false, false, false, false, false, false, false, true] rfl ?_
            exact h
      · replace h := h.2 c_84
        refine r_iload dX5_push_87 rfl ?_
        refine r_ineg dX5_push_89 ?_
        refine r_goto (tgt := 95) dX5_push_90 (by decide) ?_
        refine r_iadd dX5_push_95 ?_
        refine r_istore dX5_push_96 (by decide) rfl ?_
        refine r_iload dX5_push_98 rfl ?_
        refine r_iload dX5_push_100 rfl ?_
        refine r_icmp_ge (tgt := 130) dX5_push_102 (by decide) (fun c_102 => ?_) (fun c_102 => ?_)
        · replace h := h.1 c_102
          refine r_iinc (v := J 1) dX5_push_130 rfl rfl (by decide) rfl ?_
          refine r_goto (tgt := 62) dX5_push_133 (by decide) ?_
          refine r_kill [false, false, false, false, false, false, false, false, false, true] rfl ?_
          exact h
        · replace h := h.2 c_102
          refine r_aload_n dX5_push_105 rfl rfl ?_
          refine r_iload_n dX5_push_106 rfl rfl ?_
          refine r_iload_n dX5_push_107 rfl rfl ?_
          refine r_iload dX5_push_108 rfl ?_
          refine r_iload dX5_push_110 rfl ?_
          refine r_callV (as := [.int x1, .int x2, .int x7, .int x8]) (st := []) dX5_push_112 cvX5_128 rfl rfl rfl rfl (Nat.le_of_ble_eq_true rfl) h (fun r M4 h => ?_)
          obtain ⟨v4, rfl, h⟩ := h
          refine r_if_ne (tgt := 130) dX5_push_115 (by decide) (fun c_115 => ?_) (fun c_115 => ?_)
          · replace h := h.1 c_115
            refine r_iinc (v := J 1) dX5_push_130 rfl rfl (by decide) rfl ?_
            refine r_goto (tgt := 62) dX5_push_133 (by decide) ?_
            refine r_kill [false, false, false, false, false, false, false, false, false, true] rfl ?_
            exact h
          · replace h := h.2 c_115
            refine r_iload dX5_push_118 rfl ?_
            refine r_istore dX5_push_120 (by decide) rfl ?_
            refine r_iload dX5_push_122 rfl ?_
            refine r_istore dX5_push_124 (by decide) rfl ?_
            refine r_iload dX5_push_126 rfl ?_
            refine r_istore dX5_push_128 (by decide) rfl ?_
            refine r_iinc (v := J 1) dX5_push_130 rfl rfl (by decide) rfl ?_
            refine r_goto (tgt := 62) dX5_push_133 (by decide) ?_
            refine r_kill [false, false, false, false, false, false, false, false, false, true] rfl ?_
            exact h
theorem e_X5_push {d : Nat} {M : Mem} {Q : Post} {x1 x2 x3 : Int32} (h : (Mt d mX5_isPiece [.ref 18, .int x1] M (ri fun v1 M1 => ((v1 = 0 → Q (some (J (-1000))) M1) ∧ (¬ v1 = 0 → (Mt d mX5_isPiece [.ref 18, .int x2] M1 (ri fun v2 M2 => ((v2 = 0 → Q (some (J (-1000))) M2) ∧ (¬ v2 = 0 → ((x1 = x2 → Q (some (J (-1000))) M2) ∧ (¬ x1 = x2 → (Mt d mX5_in [.int x3, .int (J 0), .int (J 1)] M2 (ri fun v3 M3 => ((¬ v3 = 0 → R none (d + 1) mX5_push 51 [.ref 18, .int x1, .int x2, .int x3, .int (J 99), .int (J 99), .int (J 999), .int (J (-10)), .null, .null] [] M3 Q) ∧ (v3 = 0 → Q (some (J (-1000))) M3))))))))))))))) : Mt (d + 1) mX5_push [.ref 18, .int x1, .int x2, .int x3] M Q := Mt.of (k := 6) (by decide +kernel) (okR (okI (okI (okI okN)))) (Nat.le_of_ble_eq_true rfl) rfl (b_X5_push_0 h)
set_option maxRecDepth 100000 in
set_option maxHeartbeats 4000000 in
theorem b_X5_rowOf_0 {d : Nat} {M : Mem} {Q : Post} {x1 x2 : Int32} (h : (vp_in x1 8 ∧ Q (some (((M 20 x1.toNatClampNeg) >>> (((J 5) * x2) &&& 31)) &&& (J 31))) M)) : R none (d + 1) mX5_rowOf 0 [.ref 18, .int x1, .int x2] [] M Q := by
  refine r_aload_n dX5_rowOf_0 rfl rfl ?_
  refine r_getR dX5_rowOf_1 flX5_20 rfl rfl ?_
  refine r_iload_n dX5_rowOf_4 rfl rfl ?_
  refine r_iald dX5_rowOf_5 rfl h.1 ?_
  replace h := h.2
  refine r_iconst (v := J 5) dX5_rowOf_6 rfl ?_
  refine r_iload_n dX5_rowOf_7 rfl rfl ?_
  refine r_imul dX5_rowOf_8 ?_
  refine r_ishr dX5_rowOf_9 ?_
  refine r_bipush (v := J 31) dX5_rowOf_10 (by decide +kernel) ?_
  refine r_iand dX5_rowOf_12 ?_
  exact r_ret dX5_rowOf_13 rfl rfl h
theorem e_X5_rowOf {d : Nat} {M : Mem} {Q : Post} {x1 x2 : Int32} (h : (vp_in x1 8 ∧ Q (some (((M 20 x1.toNatClampNeg) >>> (((J 5) * x2) &&& 31)) &&& (J 31))) M)) : Mt (d + 1) mX5_rowOf [.ref 18, .int x1, .int x2] M Q := Mt.of (k := 0) (by decide +kernel) (okR (okI (okI okN))) (Nat.le_of_ble_eq_true rfl) rfl (b_X5_rowOf_0 h)
set_option maxRecDepth 100000 in
set_option maxHeartbeats 4000000 in
theorem b_X5_isFree_0 {d : Nat} {M : Mem} {Q : Post} {x1 x2 x3 : Int32} (h : R none (d + 1) mX5_isFree 6 [.ref 18, .int x1, .int x2, .int x3, .int (J 1), .int (J 0)] [] M Q) : R none (d + 1) mX5_isFree 0 [.ref 18, .int x1, .int x2, .int x3, .null, .null] [] M Q := by
  refine r_iconst (v := J 1) dX5_isFree_0 rfl ?_
  refine r_istore dX5_isFree_1 (by decide) rfl ?_
  refine r_iconst (v := J 0) dX5_isFree_3 rfl ?_
  refine r_istore dX5_isFree_4 (by decide) rfl ?_
  exact h
set_option maxRecDepth 100000 in
set_option maxHeartbeats 4000000 in
theorem b_X5_isFree_6 {d : Nat} {M : Mem} {Q : Post} {x1 x2 x3 x4 x5 : Int32} (h : (((J 5) ≤ x5 → ((x4 = J 0 ∨ x4 = J 1) ∧ Q (some x4) M)) ∧ (¬ (J 5) ≤ x5 → ((x4 = 0 → R none (d + 1) mX5_isFree 6 [.ref 18, .int x1, .int x2, .int x3, .int (J 0), .int (x5 + J 1)] [] M Q) ∧ (¬ x4 = 0 → (vp_in (x3 + x5) 40 ∧ (Mt d mX5_rowOf [.ref 18, .int x1, .int x5] M (ri fun v1 M1 => ((¬ ((M 29 (x3 + x5).toNatClampNeg) &&& (v1 <<< (x2 &&& 31))) = 0 → R none (d + 1) mX5_isFree 6 [.ref 18, .int x1, .int x2, .int x3, .int (J 0), .int (x5 + J 1)] [] M1 Q) ∧ (((M 29 (x3 + x5).toNatClampNeg) &&& (v1 <<< (x2 &&& 31))) = 0 → R none (d + 1) mX5_isFree 6 [.ref 18, .int x1, .int x2, .int x3, .int (J 1), .int (x5 + J 1)] [] M1 Q)))))))))) : R none (d + 1) mX5_isFree 6 [.ref 18, .int x1, .int x2, .int x3, .int x4, .int x5] [] M Q := by
  refine r_iload dX5_isFree_6 rfl ?_
  refine r_iconst (v := J 5) dX5_isFree_8 rfl ?_
  refine r_icmp_ge (tgt := 52) dX5_isFree_9 (by decide) (fun c_9 => ?_) (fun c_9 => ?_)
  · replace h := h.1 c_9
    refine r_iload dX5_isFree_52 rfl ?_
    exact r_ret dX5_isFree_54 rfl (nbz h.1) h.2
  · replace h := h.2 c_9
    refine r_iload dX5_isFree_12 rfl ?_
    refine r_if_eq (tgt := 43) dX5_isFree_14 (by decide) (fun c_14 => ?_) (fun c_14 => ?_)
    · replace h := h.1 c_14
      refine r_iconst (v := J 0) dX5_isFree_43 rfl ?_
      refine r_istore dX5_isFree_44 (by decide) rfl ?_
      refine r_iinc (v := J 1) dX5_isFree_46 rfl rfl (by decide) rfl ?_
      refine r_goto (tgt := 6) dX5_isFree_49 (by decide) ?_
      exact h
    · replace h := h.2 c_14
      refine r_aload_n dX5_isFree_17 rfl rfl ?_
      refine r_getR dX5_isFree_18 flX5_51 rfl rfl ?_
      refine r_iload_n dX5_isFree_21 rfl rfl ?_
      refine r_iload dX5_isFree_22 rfl ?_
      refine r_iadd dX5_isFree_24 ?_
      refine r_iald dX5_isFree_25 rfl h.1 ?_
      replace h := h.2
      refine r_aload_n dX5_isFree_26 rfl rfl ?_
      refine r_iload_n dX5_isFree_27 rfl rfl ?_
      refine r_iload dX5_isFree_28 rfl ?_
      refine r_callV (as := [.int x1, .int x5]) (st := [.int (M 29 (x3 + x5).toNatClampNeg)]) dX5_isFree_30 cvX5_132 rfl rfl rfl rfl (Nat.le_of_ble_eq_true rfl) h (fun r M1 h => ?_)
      obtain ⟨v1, rfl, h⟩ := h
      refine r_iload_n dX5_isFree_33 rfl rfl ?_
      refine r_ishl dX5_isFree_34 ?_
      refine r_iand dX5_isFree_35 ?_
      refine r_if_ne (tgt := 43) dX5_isFree_36 (by decide) (fun c_36 => ?_) (fun c_36 => ?_)
      · replace h := h.1 c_36
        refine r_iconst (v := J 0) dX5_isFree_43 rfl ?_
        refine r_istore dX5_isFree_44 (by decide) rfl ?_
        refine r_iinc (v := J 1) dX5_isFree_46 rfl rfl (by decide) rfl ?_
        refine r_goto (tgt := 6) dX5_isFree_49 (by decide) ?_
        exact h
      · replace h := h.2 c_36
        refine r_iconst (v := J 1) dX5_isFree_39 rfl ?_
        refine r_goto (tgt := 44) dX5_isFree_40 (by decide) ?_
        refine r_istore dX5_isFree_44 (by decide) rfl ?_
        refine r_iinc (v := J 1) dX5_isFree_46 rfl rfl (by decide) rfl ?_
        refine r_goto (tgt := 6) dX5_isFree_49 (by decide) ?_
        exact h
theorem e_X5_isFree {d : Nat} {M : Mem} {Q : Post} {x1 x2 x3 : Int32} (h : R none (d + 1) mX5_isFree 6 [.ref 18, .int x1, .int x2, .int x3, .int (J 1), .int (J 0)] [] M Q) : Mt (d + 1) mX5_isFree [.ref 18, .int x1, .int x2, .int x3] M Q := Mt.of (k := 2) (by decide +kernel) (okR (okI (okI (okI okN)))) (Nat.le_of_ble_eq_true rfl) rfl (b_X5_isFree_0 h)
set_option maxRecDepth 100000 in
set_option maxHeartbeats 4000000 in
theorem b_X5_fills_0 {d : Nat} {M : Mem} {Q : Post} {x1 x2 x3 : Int32} (h : R none (d + 1) mX5_fills 3 [.ref 18, .int x1, .int x2, .int x3, .int (J 0), .null, .null, .null, .null, .null] [] M Q) : R none (d + 1) mX5_fills 0 [.ref 18, .int x1, .int x2, .int x3, .null, .null, .null, .null, .null, .null] [] M Q := by
  refine r_iconst (v := J 0) dX5_fills_0 rfl ?_
  refine r_istore dX5_fills_1 (by decide) rfl ?_
  exact h
set_option maxRecDepth 100000 in
set_option maxHeartbeats 4000000 in
theorem b_X5_fills_3 {d : Nat} {M : Mem} {Q : Post} {x1 x2 x3 x4 : Int32} (h : (((J 40) ≤ x4 → R none (d + 1) mX5_fills 30 [.ref 18, .int x1, .int x2, .int x3, .int (J 0), .int (J 0), .null, .null, .null, .null] [] M Q) ∧ (¬ (J 40) ≤ x4 → (vp_in x4 40 ∧ R none (d + 1) mX5_fills 3 [.ref 18, .int x1, .int x2, .int x3, .int (x4 + J 1), .null, .null, .null, .null, .null] [] (mset M 29 x4.toNatClampNeg (J 0)) Q)))) : R none (d + 1) mX5_fills 3 [.ref 18, .int x1, .int x2, .int x3, .int x4, .null, .null, .null, .null, .null] [] M Q := by
  refine r_iload dX5_fills_3 rfl ?_
  refine r_bipush (v := J 40) dX5_fills_5 (by decide +kernel) ?_
  refine r_icmp_ge (tgt := 24) dX5_fills_7 (by decide) (fun c_7 => ?_) (fun c_7 => ?_)
  · replace h := h.1 c_7
    refine r_iconst (v := J 0) dX5_fills_24 rfl ?_
    refine r_istore dX5_fills_25 (by decide) rfl ?_
    refine r_iconst (v := J 0) dX5_fills_27 rfl ?_
    refine r_istore dX5_fills_28 (by decide) rfl ?_
    exact h
  · replace h := h.2 c_7
    refine r_aload_n dX5_fills_10 rfl rfl ?_
    refine r_getR dX5_fills_11 flX5_51 rfl rfl ?_
    refine r_iload dX5_fills_14 rfl ?_
    refine r_iconst (v := J 0) dX5_fills_16 rfl ?_
    refine r_iast dX5_fills_17 rfl h.1 ?_
    replace h := h.2
    refine r_iinc (v := J 1) dX5_fills_18 rfl rfl (by decide) rfl ?_
    refine r_goto (tgt := 3) dX5_fills_21 (by decide) ?_
    exact h
set_option maxRecDepth 100000 in
set_option maxHeartbeats 4000000 in
theorem b_X5_fills_30 {d : Nat} {M : Mem} {Q : Post} {x1 x2 x3 x4 x5 : Int32} (h : ((x2 ≤ x5 → Q (some x4) M) ∧ (¬ x2 ≤ x5 → R none (d + 1) mX5_fills 53 [.ref 18, .int x1, .int x2, .int x3, .int x4, .int x5, .int ((x3 >>> (((J 3) * x5) &&& 31)) &&& (J 7)), .int (J 0), .int (J 0), .null] [] M Q))) : R none (d + 1) mX5_fills 30 [.ref 18, .int x1, .int x2, .int x3, .int x4, .int x5, .null, .null, .null, .null] [] M Q := by
  refine r_iload dX5_fills_30 rfl ?_
  refine r_iload_n dX5_fills_32 rfl rfl ?_
  refine r_icmp_ge (tgt := 187) dX5_fills_33 (by decide) (fun c_33 => ?_) (fun c_33 => ?_)
  · replace h := h.1 c_33
    refine r_iload dX5_fills_187 rfl ?_
    exact r_ret dX5_fills_189 rfl rfl h
  · replace h := h.2 c_33
    refine r_iload_n dX5_fills_36 rfl rfl ?_
    refine r_iconst (v := J 3) dX5_fills_37 rfl ?_
    refine r_iload dX5_fills_38 rfl ?_
    refine r_imul dX5_fills_40 ?_
    refine r_ishr dX5_fills_41 ?_
    refine r_bipush (v := J 7) dX5_fills_42 (by decide +kernel) ?_
    refine r_iand dX5_fills_44 ?_
    refine r_istore dX5_fills_45 (by decide) rfl ?_
    refine r_iconst (v := J 0) dX5_fills_47 rfl ?_
    refine r_istore dX5_fills_48 (by decide) rfl ?_
    refine r_iconst (v := J 0) dX5_fills_50 rfl ?_
    refine r_istore dX5_fills_51 (by decide) rfl ?_
    exact h
set_option maxRecDepth 100000 in
set_option maxHeartbeats 4000000 in
theorem b_X5_fills_53 {d : Nat} {M : Mem} {Q : Post} {x1 x2 x3 x4 x5 x6 x7 x8 : Int32} (h : (Mt d mX5_isFree [.ref 18, .int x6, .int x7, .int x8] M (ri fun v1 M1 => ((¬ v1 = 0 → R none (d + 1) mX5_fills 95 [.ref 18, .int x1, .int x2, .int x3, .int x4, .int x5, .int x6, .int x7, .int x8, .int (J 0)] [] M1 Q) ∧ (v1 = 0 → (vp_in x6 8 ∧ (((x7 + J 1) ≤ (x1 - (M1 21 x6.toNatClampNeg)) → R none (d + 1) mX5_fills 53 [.ref 18, .int x1, .int x2, .int x3, .int x4, .int x5, .int x6, .int (x7 + J 1), .int x8, .null] [] M1 Q) ∧ (¬ (x7 + J 1) ≤ (x1 - (M1 21 x6.toNatClampNeg)) → R none (d + 1) mX5_fills 53 [.ref 18, .int x1, .int x2, .int x3, .int x4, .int x5, .int x6, .int (J 0), .int (x8 + J 1), .null] [] M1 Q)))))))) : R none (d + 1) mX5_fills 53 [.ref 18, .int x1, .int x2, .int x3, .int x4, .int x5, .int x6, .int x7, .int x8, .null] [] M Q := by
  refine r_aload_n dX5_fills_53 rfl rfl ?_
  refine r_iload dX5_fills_54 rfl ?_
  refine r_iload dX5_fills_56 rfl ?_
  refine r_iload dX5_fills_58 rfl ?_
  refine r_callV (as := [.int x6, .int x7, .int x8]) (st := []) dX5_fills_60 cvX5_135 rfl rfl rfl rfl (Nat.le_of_ble_eq_true rfl) h (fun r M1 h => ?_)
  obtain ⟨v1, rfl, h⟩ := h
  refine r_if_ne (tgt := 92) dX5_fills_63 (by decide) (fun c_63 => ?_) (fun c_63 => ?_)
  · replace h := h.1 c_63
    refine r_iconst (v := J 0) dX5_fills_92 rfl ?_
    refine r_istore dX5_fills_93 (by decide) rfl ?_
    exact h
  · replace h := h.2 c_63
    refine r_iinc (v := J 1) dX5_fills_66 rfl rfl (by decide) rfl ?_
    refine r_iload dX5_fills_69 rfl ?_
    refine r_iload_n dX5_fills_71 rfl rfl ?_
    refine r_aload_n dX5_fills_72 rfl rfl ?_
    refine r_getR dX5_fills_73 flX5_23 rfl rfl ?_
    refine r_iload dX5_fills_76 rfl ?_
    refine r_iald dX5_fills_78 rfl h.1 ?_
    replace h := h.2
    refine r_isub dX5_fills_79 ?_
    refine r_icmp_le (tgt := 53) dX5_fills_80 (by decide) (fun c_80 => ?_) (fun c_80 => ?_)
    · replace h := h.1 c_80
      exact h
    · replace h := h.2 c_80
      refine r_iconst (v := J 0) dX5_fills_83 rfl ?_
      refine r_istore dX5_fills_84 (by decide) rfl ?_
      refine r_iinc (v := J 1) dX5_fills_86 rfl rfl (by decide) rfl ?_
      refine r_goto (tgt := 53) dX5_fills_89 (by decide) ?_
      exact h
set_option maxRecDepth 100000 in
set_option maxHeartbeats 4000000 in
theorem b_X5_fills_95 {d : Nat} {M : Mem} {Q : Post} {x1 x2 x3 x4 x5 x6 x7 x8 x9 : Int32} (h : (((J 5) ≤ x9 → (vp_in x5 5 ∧ (vp_in x5 5 ∧ (vp_in x6 8 ∧ (((x8 + ((mset (mset M 30 x5.toNatClampNeg x7) 31 x5.toNatClampNeg x8) 22 x6.toNatClampNeg)) ≤ x4 → R none (d + 1) mX5_fills 30 [.ref 18, .int x1, .int x2, .int x3, .int x4, .int (x5 + J 1), .null, .null, .null, .null] [] (mset (mset M 30 x5.toNatClampNeg x7) 31 x5.toNatClampNeg x8) Q) ∧ (¬ (x8 + ((mset (mset M 30 x5.toNatClampNeg x7) 31 x5.toNatClampNeg x8) 22 x6.toNatClampNeg)) ≤ x4 → (vp_in x6 8 ∧ R none (d + 1) mX5_fills 30 [.ref 18, .int x1, .int x2, .int x3, .int (x8 + ((mset (mset M 30 x5.toNatClampNeg x7) 31 x5.toNatClampNeg x8) 22 x6.toNatClampNeg)), .int (x5 + J 1), .null, .null, .null, .null] [] (mset (mset M 30 x5.toNatClampNeg x7) 31 x5.toNatClampNeg x8) Q))))))) ∧ (¬ (J 5) ≤ x9 → (vp_in (x8 + x9) 40 ∧ (Mt d mX5_rowOf [.ref 18, .int x6, .int x9] M (ri fun v1 M1 => (vp_in (x8 + x9) 40 ∧ R none (d + 1) mX5_fills 95 [.ref 18, .int x1, .int x2, .int x3, .int x4, .int x5, .int x6, .int x7, .int x8, .int (x9 + J 1)] [] (mset M1 29 (x8 + x9).toNatClampNeg ((M 29 (x8 + x9).toNatClampNeg) ||| (v1 <<< (x7 &&& 31)))) Q))))))) : R none (d + 1) mX5_fills 95 [.ref 18, .int x1, .int x2, .int x3, .int x4, .int x5, .int x6, .int x7, .int x8, .int x9] [] M Q := by
  refine r_iload dX5_fills_95 rfl ?_
  refine r_iconst (v := J 5) dX5_fills_97 rfl ?_
  refine r_icmp_ge (tgt := 131) dX5_fills_98 (by decide) (fun c_98 => ?_) (fun c_98 => ?_)
  · replace h := h.1 c_98
    refine r_aload_n dX5_fills_131 rfl rfl ?_
    refine r_getR dX5_fills_132 flX5_54 rfl rfl ?_
    refine r_iload dX5_fills_135 rfl ?_
    refine r_iload dX5_fills_137 rfl ?_
    refine r_iast dX5_fills_139 rfl h.1 ?_
    replace h := h.2
    refine r_aload_n dX5_fills_140 rfl rfl ?_
    refine r_getR dX5_fills_141 flX5_57 rfl rfl ?_
    refine r_iload dX5_fills_144 rfl ?_
    refine r_iload dX5_fills_146 rfl ?_
    refine r_iast dX5_fills_148 rfl h.1 ?_
    replace h := h.2
    refine r_iload dX5_fills_149 rfl ?_
    refine r_aload_n dX5_fills_151 rfl rfl ?_
    refine r_getR dX5_fills_152 flX5_26 rfl rfl ?_
    refine r_iload dX5_fills_155 rfl ?_
    refine r_iald dX5_fills_157 rfl h.1 ?_
    replace h := h.2
    refine r_iadd dX5_fills_158 ?_
    refine r_iload dX5_fills_159 rfl ?_
    refine r_icmp_le (tgt := 177) dX5_fills_161 (by decide) (fun c_161 => ?_) (fun c_161 => ?_)
    · replace h := h.1 c_161
      refine r_iload dX5_fills_177 rfl ?_
      refine r_istore dX5_fills_179 (by decide) rfl ?_
      refine r_iinc (v := J 1) dX5_fills_181 rfl rfl (by decide) rfl ?_
      refine r_goto (tgt := 30) dX5_fills_184 (by decide) ?_
      refine r_kill [false, false, false, false, false, false, true, true, true, true] rfl ?_
      exact h
    · replace h := h.2 c_161
      refine r_iload dX5_fills_164 rfl ?_
      refine r_aload_n dX5_fills_166 rfl rfl ?_
      refine r_getR dX5_fills_167 flX5_26 rfl rfl ?_
      refine r_iload dX5_fills_170 rfl ?_
      refine r_iald dX5_fills_172 rfl h.1 ?_
      replace h := h.2
      refine r_iadd dX5_fills_173 ?_
      refine r_goto (tgt := 179) dX5_fills_174 (by decide) ?_
      refine r_istore dX5_fills_179 (by decide) rfl ?_
      refine r_iinc (v := J 1) dX5_fills_181 rfl rfl (by decide) rfl ?_
      refine r_goto (tgt := 30) dX5_fills_184 (by decide) ?_
      refine r_kill [false, false, false, false, false, false, true, true, true, true] rfl ?_
      exact h
  · replace h := h.2 c_98
    refine r_aload_n dX5_fills_101 rfl rfl ?_
    refine r_getR dX5_fills_102 flX5_51 rfl rfl ?_
    refine r_iload dX5_fills_105 rfl ?_
    refine r_iload dX5_fills_107 rfl ?_
    refine r_iadd dX5_fills_109 ?_
    refine r_dup2 dX5_fills_110 rfl rfl ?_
    refine r_iald dX5_fills_111 rfl h.1 ?_
    replace h := h.2
    refine r_aload_n dX5_fills_112 rfl rfl ?_
    refine r_iload dX5_fills_113 rfl ?_
    refine r_iload dX5_fills_115 rfl ?_
    refine r_callV (as := [.int x6, .int x9]) (st := [.int (M 29 (x8 + x9).toNatClampNeg), .int (x8 + x9), .ref 29]) dX5_fills_117 cvX5_132 rfl rfl rfl rfl (Nat.le_of_ble_eq_true rfl) h (fun r M1 h => ?_)
    obtain ⟨v1, rfl, h⟩ := h
    refine r_iload dX5_fills_120 rfl ?_
    refine r_ishl dX5_fills_122 ?_
    refine r_ior dX5_fills_123 ?_
    refine r_iast dX5_fills_124 rfl h.1 ?_
    replace h := h.2
    refine r_iinc (v := J 1) dX5_fills_125 rfl rfl (by decide) rfl ?_
    refine r_goto (tgt := 95) dX5_fills_128 (by decide) ?_
    exact h
theorem e_X5_fills {d : Nat} {M : Mem} {Q : Post} {x1 x2 x3 : Int32} (h : R none (d + 1) mX5_fills 3 [.ref 18, .int x1, .int x2, .int x3, .int (J 0), .null, .null, .null, .null, .null] [] M Q) : Mt (d + 1) mX5_fills [.ref 18, .int x1, .int x2, .int x3] M Q := Mt.of (k := 6) (by decide +kernel) (okR (okI (okI (okI okN)))) (Nat.le_of_ble_eq_true rfl) rfl (b_X5_fills_0 h)
set_option maxRecDepth 100000 in
set_option maxHeartbeats 4000000 in
theorem b_X5_strip_0 {d : Nat} {M : Mem} {Q : Post} {x1 x2 x3 x4 : Int32} (h : (Mt d mX5_in [.int x1, .int (J 1), .int (J 12)] M (ri fun v1 M1 => ((v1 = 0 → Q (some (J (-1))) M1) ∧ (¬ v1 = 0 → (Mt d mX5_in [.int x2, .int (J 1), .int (J 5)] M1 (ri fun v2 M2 => ((v2 = 0 → Q (some (J (-1))) M2) ∧ (¬ v2 = 0 → (Mt d mX5_in [.int x3, .int (J 0), .int (((J 1) <<< (((J 3) * x2) &&& 31)) - (J 1))] M2 (ri fun v3 M3 => ((v3 = 0 → Q (some (J (-1))) M3) ∧ (¬ v3 = 0 → (Mt d mX5_in [.int x4, .int (J 0), .int x2] M3 (ri fun v4 M4 => ((¬ v4 = 0 → R none (d + 1) mX5_strip 52 [.ref 18, .int x1, .int x2, .int x3, .int x4, .int (J 0), .int (J 0), .null] [] M4 Q) ∧ (v4 = 0 → Q (some (J (-1))) M4))))))))))))))))) : R none (d + 1) mX5_strip 0 [.ref 18, .int x1, .int x2, .int x3, .int x4, .null, .null, .null] [] M Q := by
  refine r_iload_n dX5_strip_0 rfl rfl ?_
  refine r_iconst (v := J 1) dX5_strip_1 rfl ?_
  refine r_bipush (v := J 12) dX5_strip_2 (by decide +kernel) ?_
  refine r_callS (as := [.int x1, .int (J 1), .int (J 12)]) (st := []) dX5_strip_4 csX5_63 rfl rfl (Nat.le_of_ble_eq_true rfl) h (fun r M1 h => ?_)
  obtain ⟨v1, rfl, h⟩ := h
  refine r_if_eq (tgt := 44) dX5_strip_7 (by decide) (fun c_7 => ?_) (fun c_7 => ?_)
  · replace h := h.1 c_7
    refine r_iconst (v := J (-1)) dX5_strip_44 rfl ?_
    exact r_ret dX5_strip_45 rfl rfl h
  · replace h := h.2 c_7
    refine r_iload_n dX5_strip_10 rfl rfl ?_
    refine r_iconst (v := J 1) dX5_strip_11 rfl ?_
    refine r_iconst (v := J 5) dX5_strip_12 rfl ?_
    refine r_callS (as := [.int x2, .int (J 1), .int (J 5)]) (st := []) dX5_strip_13 csX5_63 rfl rfl (Nat.le_of_ble_eq_true rfl) h (fun r M2 h => ?_)
    obtain ⟨v2, rfl, h⟩ := h
    refine r_if_eq (tgt := 44) dX5_strip_16 (by decide) (fun c_16 => ?_) (fun c_16 => ?_)
    · replace h := h.1 c_16
      refine r_iconst (v := J (-1)) dX5_strip_44 rfl ?_
      exact r_ret dX5_strip_45 rfl rfl h
    · replace h := h.2 c_16
      refine r_iload_n dX5_strip_19 rfl rfl ?_
      refine r_iconst (v := J 0) dX5_strip_20 rfl ?_
      refine r_iconst (v := J 1) dX5_strip_21 rfl ?_
      refine r_iconst (v := J 3) dX5_strip_22 rfl ?_
      refine r_iload_n dX5_strip_23 rfl rfl ?_
      refine r_imul dX5_strip_24 ?_
      refine r_ishl dX5_strip_25 ?_
      refine r_iconst (v := J 1) dX5_strip_26 rfl ?_
      refine r_isub dX5_strip_27 ?_
      refine r_callS (as := [.int x3, .int (J 0), .int (((J 1) <<< (((J 3) * x2) &&& 31)) - (J 1))]) (st := []) dX5_strip_28 csX5_63 rfl rfl (Nat.le_of_ble_eq_true rfl) h (fun r M3 h => ?_)
      obtain ⟨v3, rfl, h⟩ := h
      refine r_if_eq (tgt := 44) dX5_strip_31 (by decide) (fun c_31 => ?_) (fun c_31 => ?_)
      · replace h := h.1 c_31
        refine r_iconst (v := J (-1)) dX5_strip_44 rfl ?_
        exact r_ret dX5_strip_45 rfl rfl h
      · replace h := h.2 c_31
        refine r_iload dX5_strip_34 rfl ?_
        refine r_iconst (v := J 0) dX5_strip_36 rfl ?_
        refine r_iload_n dX5_strip_37 rfl rfl ?_
        refine r_callS (as := [.int x4, .int (J 0), .int x2]) (st := []) dX5_strip_38 csX5_63 rfl rfl (Nat.le_of_ble_eq_true rfl) h (fun r M4 h => ?_)
        obtain ⟨v4, rfl, h⟩ := h
        refine r_if_ne (tgt := 46) dX5_strip_41 (by decide) (fun c_41 => ?_) (fun c_41 => ?_)
        · replace h := h.1 c_41
          refine r_iconst (v := J 0) dX5_strip_46 rfl ?_
          refine r_istore dX5_strip_47 (by decide) rfl ?_
          refine r_iconst (v := J 0) dX5_strip_49 rfl ?_
          refine r_istore dX5_strip_50 (by decide) rfl ?_
          exact h
        · replace h := h.2 c_41
          refine r_iconst (v := J (-1)) dX5_strip_44 rfl ?_
          exact r_ret dX5_strip_45 rfl rfl h
set_option maxRecDepth 100000 in
set_option maxHeartbeats 4000000 in
theorem b_X5_strip_52 {d : Nat} {M : Mem} {Q : Post} {x1 x2 x3 x4 x5 x6 : Int32} (h : ((x2 ≤ x6 → (Mt d mX5_fills [.ref 18, .int x1, .int x2, .int x3] M (ri fun v1 M1 => ((¬ x4 = 0 → (vp_in (x4 - (J 1)) 5 ∧ (vp_in (x4 - (J 1)) 5 ∧ Q (some (((J 100) * (M1 31 (x4 - (J 1)).toNatClampNeg)) + (M1 30 (x4 - (J 1)).toNatClampNeg))) M1))) ∧ (x4 = 0 → Q (some v1) M1))))) ∧ (¬ x2 ≤ x6 → (Mt d mX5_isPiece [.ref 18, .int ((x3 >>> (((J 3) * x6) &&& 31)) &&& (J 7))] M (ri fun v2 M2 => ((v2 = 0 → Q (some (J (-1))) M2) ∧ (¬ v2 = 0 → ((((x5 >>> (((x3 >>> (((J 3) * x6) &&& 31)) &&& (J 7)) &&& 31)) &&& (J 1)) = (J 1) → Q (some (J (-1))) M2) ∧ (¬ ((x5 >>> (((x3 >>> (((J 3) * x6) &&& 31)) &&& (J 7)) &&& 31)) &&& (J 1)) = (J 1) → (vp_in ((x3 >>> (((J 3) * x6) &&& 31)) &&& (J 7)) 8 ∧ (((M2 21 ((x3 >>> (((J 3) * x6) &&& 31)) &&& (J 7)).toNatClampNeg) ≤ x1 → R none (d + 1) mX5_strip 52 [.ref 18, .int x1, .int x2, .int x3, .int x4, .int (x5 ||| ((J 1) <<< (((x3 >>> (((J 3) * x6) &&& 31)) &&& (J 7)) &&& 31))), .int (x6 + J 1), .null] [] M2 Q) ∧ (¬ (M2 21 ((x3 >>> (((J 3) * x6) &&& 31)) &&& (J 7)).toNatClampNeg) ≤ x1 → Q (some (J (-1))) M2)))))))))))) : R none (d + 1) mX5_strip 52 [.ref 18, .int x1, .int x2, .int x3, .int x4, .int x5, .int x6, .null] [] M Q := by
  refine r_iload dX5_strip_52 rfl ?_
  refine r_iload_n dX5_strip_54 rfl rfl ?_
  refine r_icmp_ge (tgt := 117) dX5_strip_55 (by decide) (fun c_55 => ?_) (fun c_55 => ?_)
  · replace h := h.1 c_55
    refine r_aload_n dX5_strip_117 rfl rfl ?_
    refine r_iload_n dX5_strip_118 rfl rfl ?_
    refine r_iload_n dX5_strip_119 rfl rfl ?_
    refine r_iload_n dX5_strip_120 rfl rfl ?_
    refine r_callV (as := [.int x1, .int x2, .int x3]) (st := []) dX5_strip_121 cvX5_138 rfl rfl rfl rfl (Nat.le_of_ble_eq_true rfl) h (fun r M1 h => ?_)
    obtain ⟨v1, rfl, h⟩ := h
    refine r_istore dX5_strip_124 (by decide) rfl ?_
    refine r_iload dX5_strip_126 rfl ?_
    refine r_if_ne (tgt := 136) dX5_strip_128 (by decide) (fun c_128 => ?_) (fun c_128 => ?_)
    · replace h := h.1 c_128
      refine r_bipush (v := J 100) dX5_strip_136 (by decide +kernel) ?_
      refine r_aload_n dX5_strip_138 rfl rfl ?_
      refine r_getR dX5_strip_139 flX5_57 rfl rfl ?_
      refine r_iload dX5_strip_142 rfl ?_
      refine r_iconst (v := J 1) dX5_strip_144 rfl ?_
      refine r_isub dX5_strip_145 ?_
      refine r_iald dX5_strip_146 rfl h.1 ?_
      replace h := h.2
      refine r_imul dX5_strip_147 ?_
      refine r_aload_n dX5_strip_148 rfl rfl ?_
      refine r_getR dX5_strip_149 flX5_54 rfl rfl ?_
      refine r_iload dX5_strip_152 rfl ?_
      refine r_iconst (v := J 1) dX5_strip_154 rfl ?_
      refine r_isub dX5_strip_155 ?_
      refine r_iald dX5_strip_156 rfl h.1 ?_
      replace h := h.2
      refine r_iadd dX5_strip_157 ?_
      exact r_ret dX5_strip_158 rfl rfl h
    · replace h := h.2 c_128
      refine r_iload dX5_strip_131 rfl ?_
      refine r_goto (tgt := 158) dX5_strip_133 (by decide) ?_
      exact r_ret dX5_strip_158 rfl rfl h
  · replace h := h.2 c_55
    refine r_iload_n dX5_strip_58 rfl rfl ?_
    refine r_iconst (v := J 3) dX5_strip_59 rfl ?_
    refine r_iload dX5_strip_60 rfl ?_
    refine r_imul dX5_strip_62 ?_
    refine r_ishr dX5_strip_63 ?_
    refine r_bipush (v := J 7) dX5_strip_64 (by decide +kernel) ?_
    refine r_iand dX5_strip_66 ?_
    refine r_istore dX5_strip_67 (by decide) rfl ?_
    refine r_aload_n dX5_strip_69 rfl rfl ?_
    refine r_iload dX5_strip_70 rfl ?_
    refine r_callV (as := [.int ((x3 >>> (((J 3) * x6) &&& 31)) &&& (J 7))]) (st := []) dX5_strip_72 cvX5_77 rfl rfl rfl rfl (Nat.le_of_ble_eq_true rfl) h (fun r M2 h => ?_)
    obtain ⟨v2, rfl, h⟩ := h
    refine r_if_eq (tgt := 100) dX5_strip_75 (by decide) (fun c_75 => ?_) (fun c_75 => ?_)
    · replace h := h.1 c_75
      refine r_iconst (v := J (-1)) dX5_strip_100 rfl ?_
      exact r_ret dX5_strip_101 rfl rfl h
    · replace h := h.2 c_75
      refine r_iload dX5_strip_78 rfl ?_
      refine r_iload dX5_strip_80 rfl ?_
      refine r_ishr dX5_strip_82 ?_
      refine r_iconst (v := J 1) dX5_strip_83 rfl ?_
      refine r_iand dX5_strip_84 ?_
      refine r_iconst (v := J 1) dX5_strip_85 rfl ?_
      refine r_icmp_eq (tgt := 100) dX5_strip_86 (by decide) (fun c_86 => ?_) (fun c_86 => ?_)
      · replace h := h.1 c_86
        refine r_iconst (v := J (-1)) dX5_strip_100 rfl ?_
        exact r_ret dX5_strip_101 rfl rfl h
      · replace h := h.2 c_86
        refine r_aload_n dX5_strip_89 rfl rfl ?_
        refine r_getR dX5_strip_90 flX5_23 rfl rfl ?_
        refine r_iload dX5_strip_93 rfl ?_
        refine r_iald dX5_strip_95 rfl h.1 ?_
        replace h := h.2
        refine r_iload_n dX5_strip_96 rfl rfl ?_
        refine r_icmp_le (tgt := 102) dX5_strip_97 (by decide) (fun c_97 => ?_) (fun c_97 => ?_)
        · replace h := h.1 c_97
          refine r_iload dX5_strip_102 rfl ?_
          refine r_iconst (v := J 1) dX5_strip_104 rfl ?_
          refine r_iload dX5_strip_105 rfl ?_
          refine r_ishl dX5_strip_107 ?_
          refine r_ior dX5_strip_108 ?_
          refine r_istore dX5_strip_109 (by decide) rfl ?_
          refine r_iinc (v := J 1) dX5_strip_111 rfl rfl (by decide) rfl ?_
          refine r_goto (tgt := 52) dX5_strip_114 (by decide) ?_
          refine r_kill [false, false, false, false, false, false, false, true] rfl ?_
          exact h
        · replace h := h.2 c_97
          refine r_iconst (v := J (-1)) dX5_strip_100 rfl ?_
          exact r_ret dX5_strip_101 rfl rfl h
theorem e_X5_strip {d : Nat} {M : Mem} {Q : Post} {x1 x2 x3 x4 : Int32} (h : (Mt d mX5_in [.int x1, .int (J 1), .int (J 12)] M (ri fun v1 M1 => ((v1 = 0 → Q (some (J (-1))) M1) ∧ (¬ v1 = 0 → (Mt d mX5_in [.int x2, .int (J 1), .int (J 5)] M1 (ri fun v2 M2 => ((v2 = 0 → Q (some (J (-1))) M2) ∧ (¬ v2 = 0 → (Mt d mX5_in [.int x3, .int (J 0), .int (((J 1) <<< (((J 3) * x2) &&& 31)) - (J 1))] M2 (ri fun v3 M3 => ((v3 = 0 → Q (some (J (-1))) M3) ∧ (¬ v3 = 0 → (Mt d mX5_in [.int x4, .int (J 0), .int x2] M3 (ri fun v4 M4 => ((¬ v4 = 0 → R none (d + 1) mX5_strip 52 [.ref 18, .int x1, .int x2, .int x3, .int x4, .int (J 0), .int (J 0), .null] [] M4 Q) ∧ (v4 = 0 → Q (some (J (-1))) M4))))))))))))))))) : Mt (d + 1) mX5_strip [.ref 18, .int x1, .int x2, .int x3, .int x4] M Q := Mt.of (k := 3) (by decide +kernel) (okR (okI (okI (okI (okI okN))))) (Nat.le_of_ble_eq_true rfl) rfl (b_X5_strip_0 h)
set_option maxRecDepth 100000 in
set_option maxHeartbeats 4000000 in
theorem b_X5_bits_0 {d : Nat} {M : Mem} {Q : Post} {x0 : Int32} (h : R none (d + 1) mX5_bits 4 [.int x0, .int (J 0), .int (J 0)] [] M Q) : R none (d + 1) mX5_bits 0 [.int x0, .null, .null] [] M Q := by
  refine r_iconst (v := J 0) dX5_bits_0 rfl ?_
  refine r_istore_n dX5_bits_1 rfl (by decide) rfl ?_
  refine r_iconst (v := J 0) dX5_bits_2 rfl ?_
  refine r_istore_n dX5_bits_3 rfl (by decide) rfl ?_
  exact h
set_option maxRecDepth 100000 in
set_option maxHeartbeats 4000000 in
theorem b_X5_bits_4 {d : Nat} {M : Mem} {Q : Post} {x0 x1 x2 : Int32} (h : (((J 8) ≤ x2 → Q (some x1) M) ∧ (¬ (J 8) ≤ x2 → R none (d + 1) mX5_bits 4 [.int x0, .int (x1 + ((x0 >>> (x2 &&& 31)) &&& (J 1))), .int (x2 + J 1)] [] M Q))) : R none (d + 1) mX5_bits 4 [.int x0, .int x1, .int x2] [] M Q := by
  refine r_iload_n dX5_bits_4 rfl rfl ?_
  refine r_bipush (v := J 8) dX5_bits_5 (by decide +kernel) ?_
  refine r_icmp_ge (tgt := 24) dX5_bits_7 (by decide) (fun c_7 => ?_) (fun c_7 => ?_)
  · replace h := h.1 c_7
    refine r_iload_n dX5_bits_24 rfl rfl ?_
    exact r_ret dX5_bits_25 rfl rfl h
  · replace h := h.2 c_7
    refine r_iload_n dX5_bits_10 rfl rfl ?_
    refine r_iload_n dX5_bits_11 rfl rfl ?_
    refine r_iload_n dX5_bits_12 rfl rfl ?_
    refine r_ishr dX5_bits_13 ?_
    refine r_iconst (v := J 1) dX5_bits_14 rfl ?_
    refine r_iand dX5_bits_15 ?_
    refine r_iadd dX5_bits_16 ?_
    refine r_istore_n dX5_bits_17 rfl (by decide) rfl ?_
    refine r_iinc (v := J 1) dX5_bits_18 rfl rfl (by decide) rfl ?_
    refine r_goto (tgt := 4) dX5_bits_21 (by decide) ?_
    exact h
theorem e_X5_bits {d : Nat} {M : Mem} {Q : Post} {x0 : Int32} (h : R none (d + 1) mX5_bits 4 [.int x0, .int (J 0), .int (J 0)] [] M Q) : Mt (d + 1) mX5_bits [.int x0] M Q := Mt.of (k := 2) (by decide +kernel) (okI okN) (Nat.le_of_ble_eq_true rfl) rfl (b_X5_bits_0 h)
set_option maxRecDepth 100000 in
set_option maxHeartbeats 4000000 in
theorem b_X5_isOrder_0 {d : Nat} {M : Mem} {Q : Post} {x0 x1 x2 : Int32} (h : R none (d + 1) mX5_isOrder 5 [.int x0, .int x1, .int x2, .int (J 0), .int (J 0)] [] M Q) : R none (d + 1) mX5_isOrder 0 [.int x0, .int x1, .int x2, .null, .null] [] M Q := by
  refine r_iconst (v := J 0) dX5_isOrder_0 rfl ?_
  refine r_istore_n dX5_isOrder_1 rfl (by decide) rfl ?_
  refine r_iconst (v := J 0) dX5_isOrder_2 rfl ?_
  refine r_istore dX5_isOrder_3 (by decide) rfl ?_
  exact h
set_option maxRecDepth 100000 in
set_option maxHeartbeats 4000000 in
theorem b_X5_isOrder_5 {d : Nat} {M : Mem} {Q : Post} {x0 x1 x2 x3 x4 : Int32} (h : ((x1 ≤ x4 → ((¬ x3 = x2 → Q (some (J 0)) M) ∧ (x3 = x2 → Q (some (J 1)) M))) ∧ (¬ x1 ≤ x4 → R none (d + 1) mX5_isOrder 5 [.int x0, .int x1, .int x2, .int (x3 ||| ((J 1) <<< (((x0 >>> (((J 3) * x4) &&& 31)) &&& (J 7)) &&& 31))), .int (x4 + J 1)] [] M Q))) : R none (d + 1) mX5_isOrder 5 [.int x0, .int x1, .int x2, .int x3, .int x4] [] M Q := by
  refine r_iload dX5_isOrder_5 rfl ?_
  refine r_iload_n dX5_isOrder_7 rfl rfl ?_
  refine r_icmp_ge (tgt := 31) dX5_isOrder_8 (by decide) (fun c_8 => ?_) (fun c_8 => ?_)
  · replace h := h.1 c_8
    refine r_iload_n dX5_isOrder_31 rfl rfl ?_
    refine r_iload_n dX5_isOrder_32 rfl rfl ?_
    refine r_icmp_ne (tgt := 40) dX5_isOrder_33 (by decide) (fun c_33 => ?_) (fun c_33 => ?_)
    · replace h := h.1 c_33
      refine r_iconst (v := J 0) dX5_isOrder_40 rfl ?_
      exact r_ret dX5_isOrder_41 rfl nb0 h
    · replace h := h.2 c_33
      refine r_iconst (v := J 1) dX5_isOrder_36 rfl ?_
      refine r_goto (tgt := 41) dX5_isOrder_37 (by decide) ?_
      exact r_ret dX5_isOrder_41 rfl nb1 h
  · replace h := h.2 c_8
    refine r_iload_n dX5_isOrder_11 rfl rfl ?_
    refine r_iconst (v := J 1) dX5_isOrder_12 rfl ?_
    refine r_iload_n dX5_isOrder_13 rfl rfl ?_
    refine r_iconst (v := J 3) dX5_isOrder_14 rfl ?_
    refine r_iload dX5_isOrder_15 rfl ?_
    refine r_imul dX5_isOrder_17 ?_
    refine r_ishr dX5_isOrder_18 ?_
    refine r_bipush (v := J 7) dX5_isOrder_19 (by decide +kernel) ?_
    refine r_iand dX5_isOrder_21 ?_
    refine r_ishl dX5_isOrder_22 ?_
    refine r_ior dX5_isOrder_23 ?_
    refine r_istore_n dX5_isOrder_24 rfl (by decide) rfl ?_
    refine r_iinc (v := J 1) dX5_isOrder_25 rfl rfl (by decide) rfl ?_
    refine r_goto (tgt := 5) dX5_isOrder_28 (by decide) ?_
    exact h
theorem e_X5_isOrder {d : Nat} {M : Mem} {Q : Post} {x0 x1 x2 : Int32} (h : R none (d + 1) mX5_isOrder 5 [.int x0, .int x1, .int x2, .int (J 0), .int (J 0)] [] M Q) : Mt (d + 1) mX5_isOrder [.int x0, .int x1, .int x2] M Q := Mt.of (k := 2) (by decide +kernel) (okI (okI (okI okN))) (Nat.le_of_ble_eq_true rfl) rfl (b_X5_isOrder_0 h)
set_option maxRecDepth 100000 in
set_option maxHeartbeats 4000000 in
theorem b_X5_isLower_0 {d : Nat} {M : Mem} {Q : Post} {x0 x1 : Int32} (h : R none (d + 1) mX5_isLower 2 [.int x0, .int x1, .int (J 0)] [] M Q) : R none (d + 1) mX5_isLower 0 [.int x0, .int x1, .null] [] M Q := by
  refine r_iconst (v := J 0) dX5_isLower_0 rfl ?_
  refine r_istore_n dX5_isLower_1 rfl (by decide) rfl ?_
  exact h
set_option maxRecDepth 100000 in
set_option maxHeartbeats 4000000 in
theorem b_X5_isLower_2 {d : Nat} {M : Mem} {Q : Post} {x0 x1 x2 : Int32} (h : ((¬ ((x0 >>> (((J 3) * x2) &&& 31)) &&& (J 7)) = ((x1 >>> (((J 3) * x2) &&& 31)) &&& (J 7)) → ((((x1 >>> (((J 3) * x2) &&& 31)) &&& (J 7)) ≤ ((x0 >>> (((J 3) * x2) &&& 31)) &&& (J 7)) → Q (some (J 0)) M) ∧ (¬ ((x1 >>> (((J 3) * x2) &&& 31)) &&& (J 7)) ≤ ((x0 >>> (((J 3) * x2) &&& 31)) &&& (J 7)) → Q (some (J 1)) M))) ∧ (((x0 >>> (((J 3) * x2) &&& 31)) &&& (J 7)) = ((x1 >>> (((J 3) * x2) &&& 31)) &&& (J 7)) → R none (d + 1) mX5_isLower 2 [.int x0, .int x1, .int (x2 + J 1)] [] M Q))) : R none (d + 1) mX5_isLower 2 [.int x0, .int x1, .int x2] [] M Q := by
  refine r_iload_n dX5_isLower_2 rfl rfl ?_
  refine r_iconst (v := J 3) dX5_isLower_3 rfl ?_
  refine r_iload_n dX5_isLower_4 rfl rfl ?_
  refine r_imul dX5_isLower_5 ?_
  refine r_ishr dX5_isLower_6 ?_
  refine r_bipush (v := J 7) dX5_isLower_7 (by decide +kernel) ?_
  refine r_iand dX5_isLower_9 ?_
  refine r_iload_n dX5_isLower_10 rfl rfl ?_
  refine r_iconst (v := J 3) dX5_isLower_11 rfl ?_
  refine r_iload_n dX5_isLower_12 rfl rfl ?_
  refine r_imul dX5_isLower_13 ?_
  refine r_ishr dX5_isLower_14 ?_
  refine r_bipush (v := J 7) dX5_isLower_15 (by decide +kernel) ?_
  refine r_iand dX5_isLower_17 ?_
  refine r_icmp_ne (tgt := 27) dX5_isLower_18 (by decide) (fun c_18 => ?_) (fun c_18 => ?_)
  · replace h := h.1 c_18
    refine r_iload_n dX5_isLower_27 rfl rfl ?_
    refine r_iconst (v := J 3) dX5_isLower_28 rfl ?_
    refine r_iload_n dX5_isLower_29 rfl rfl ?_
    refine r_imul dX5_isLower_30 ?_
    refine r_ishr dX5_isLower_31 ?_
    refine r_bipush (v := J 7) dX5_isLower_32 (by decide +kernel) ?_
    refine r_iand dX5_isLower_34 ?_
    refine r_iload_n dX5_isLower_35 rfl rfl ?_
    refine r_iconst (v := J 3) dX5_isLower_36 rfl ?_
    refine r_iload_n dX5_isLower_37 rfl rfl ?_
    refine r_imul dX5_isLower_38 ?_
    refine r_ishr dX5_isLower_39 ?_
    refine r_bipush (v := J 7) dX5_isLower_40 (by decide +kernel) ?_
    refine r_iand dX5_isLower_42 ?_
    refine r_icmp_ge (tgt := 50) dX5_isLower_43 (by decide) (fun c_43 => ?_) (fun c_43 => ?_)
    · replace h := h.1 c_43
      refine r_iconst (v := J 0) dX5_isLower_50 rfl ?_
      exact r_ret dX5_isLower_51 rfl nb0 h
    · replace h := h.2 c_43
      refine r_iconst (v := J 1) dX5_isLower_46 rfl ?_
      refine r_goto (tgt := 51) dX5_isLower_47 (by decide) ?_
      exact r_ret dX5_isLower_51 rfl nb1 h
  · replace h := h.2 c_18
    refine r_iinc (v := J 1) dX5_isLower_21 rfl rfl (by decide) rfl ?_
    refine r_goto (tgt := 2) dX5_isLower_24 (by decide) ?_
    exact h
theorem e_X5_isLower {d : Nat} {M : Mem} {Q : Post} {x0 x1 : Int32} (h : R none (d + 1) mX5_isLower 2 [.int x0, .int x1, .int (J 0)] [] M Q) : Mt (d + 1) mX5_isLower [.int x0, .int x1] M Q := Mt.of (k := 1) (by decide +kernel) (okI (okI okN)) (Nat.le_of_ble_eq_true rfl) rfl (b_X5_isLower_0 h)
set_option maxRecDepth 100000 in
set_option maxHeartbeats 4000000 in
theorem b_X5_best_0 {d : Nat} {M : Mem} {Q : Post} {x1 x2 x3 : Int32} (h : (Mt d mX5_in [.int x1, .int (J 1), .int (J 12)] M (ri fun v1 M1 => ((v1 = 0 → Q (some (J (-1))) M1) ∧ (¬ v1 = 0 → (Mt d mX5_in [.int x2, .int (J 1), .int (((J 1) <<< ((M1 18 3) &&& 31)) - (J 1))] M1 (ri fun v2 M2 => ((v2 = 0 → Q (some (J (-1))) M2) ∧ (¬ v2 = 0 → (Mt d mX5_bits [.int x2] M2 (ri fun v3 M3 => (((J 5) < v3 → Q (some (J (-1))) M3) ∧ (¬ (J 5) < v3 → (Mt d mX5_in [.int x3, .int (J 0), .int (J 1)] M3 (ri fun v4 M4 => ((¬ v4 = 0 → R none (d + 1) mX5_best 48 [.ref 18, .int x1, .int x2, .int x3, .int (J 0), .null, .null, .null, .null] [] M4 Q) ∧ (v4 = 0 → Q (some (J (-1))) M4))))))))))))))))) : R none (d + 1) mX5_best 0 [.ref 18, .int x1, .int x2, .int x3, .null, .null, .null, .null, .null] [] M Q := by
  refine r_iload_n dX5_best_0 rfl rfl ?_
  refine r_iconst (v := J 1) dX5_best_1 rfl ?_
  refine r_bipush (v := J 12) dX5_best_2 (by decide +kernel) ?_
  refine r_callS (as := [.int x1, .int (J 1), .int (J 12)]) (st := []) dX5_best_4 csX5_63 rfl rfl (Nat.le_of_ble_eq_true rfl) h (fun r M1 h => ?_)
  obtain ⟨v1, rfl, h⟩ := h
  refine r_if_eq (tgt := 43) dX5_best_7 (by decide) (fun c_7 => ?_) (fun c_7 => ?_)
  · replace h := h.1 c_7
    refine r_iconst (v := J (-1)) dX5_best_43 rfl ?_
    exact r_ret dX5_best_44 rfl rfl h
  · replace h := h.2 c_7
    refine r_iload_n dX5_best_10 rfl rfl ?_
    refine r_iconst (v := J 1) dX5_best_11 rfl ?_
    refine r_iconst (v := J 1) dX5_best_12 rfl ?_
    refine r_aload_n dX5_best_13 rfl rfl ?_
    refine r_getI dX5_best_14 flX5_60 rfl rfl ?_
    refine r_ishl dX5_best_17 ?_
    refine r_iconst (v := J 1) dX5_best_18 rfl ?_
    refine r_isub dX5_best_19 ?_
    refine r_callS (as := [.int x2, .int (J 1), .int (((J 1) <<< ((M1 18 3) &&& 31)) - (J 1))]) (st := []) dX5_best_20 csX5_63 rfl rfl (Nat.le_of_ble_eq_true rfl) h (fun r M2 h => ?_)
    obtain ⟨v2, rfl, h⟩ := h
    refine r_if_eq (tgt := 43) dX5_best_23 (by decide) (fun c_23 => ?_) (fun c_23 => ?_)
    · replace h := h.1 c_23
      refine r_iconst (v := J (-1)) dX5_best_43 rfl ?_
      exact r_ret dX5_best_44 rfl rfl h
    · replace h := h.2 c_23
      refine r_iload_n dX5_best_26 rfl rfl ?_
      refine r_callS (as := [.int x2]) (st := []) dX5_best_27 csX5_141 rfl rfl (Nat.le_of_ble_eq_true rfl) h (fun r M3 h => ?_)
      obtain ⟨v3, rfl, h⟩ := h
      refine r_iconst (v := J 5) dX5_best_30 rfl ?_
      refine r_icmp_gt (tgt := 43) dX5_best_31 (by decide) (fun c_31 => ?_) (fun c_31 => ?_)
      · replace h := h.1 c_31
        refine r_iconst (v := J (-1)) dX5_best_43 rfl ?_
        exact r_ret dX5_best_44 rfl rfl h
      · replace h := h.2 c_31
        refine r_iload_n dX5_best_34 rfl rfl ?_
        refine r_iconst (v := J 0) dX5_best_35 rfl ?_
        refine r_iconst (v := J 1) dX5_best_36 rfl ?_
        refine r_callS (as := [.int x3, .int (J 0), .int (J 1)]) (st := []) dX5_best_37 csX5_63 rfl rfl (Nat.le_of_ble_eq_true rfl) h (fun r M4 h => ?_)
        obtain ⟨v4, rfl, h⟩ := h
        refine r_if_ne (tgt := 45) dX5_best_40 (by decide) (fun c_40 => ?_) (fun c_40 => ?_)
        · replace h := h.1 c_40
          refine r_iconst (v := J 0) dX5_best_45 rfl ?_
          refine r_istore dX5_best_46 (by decide) rfl ?_
          exact h
        · replace h := h.2 c_40
          refine r_iconst (v := J (-1)) dX5_best_43 rfl ?_
          exact r_ret dX5_best_44 rfl rfl h
set_option maxRecDepth 100000 in
set_option maxHeartbeats 4000000 in
theorem b_X5_best_48 {d : Nat} {M : Mem} {Q : Post} {x1 x2 x3 x4 : Int32} (h : (((M 18 3) ≤ x4 → (Mt d mX5_bits [.int x2] M (ri fun v1 M1 => R none (d + 1) mX5_best 103 [.ref 18, .int x1, .int x2, .int x3, .int v1, .int (J 999), .int (J 0), .int (J 0), .null] [] M1 Q))) ∧ (¬ (M 18 3) ≤ x4 → ((¬ ((x2 >>> (x4 &&& 31)) &&& (J 1)) = (J 1) → R none (d + 1) mX5_best 48 [.ref 18, .int x1, .int x2, .int x3, .int (x4 + J 1), .null, .null, .null, .null] [] M Q) ∧ (((x2 >>> (x4 &&& 31)) &&& (J 1)) = (J 1) → (vp_in x4 8 ∧ (((M 21 x4.toNatClampNeg) ≤ x1 → R none (d + 1) mX5_best 48 [.ref 18, .int x1, .int x2, .int x3, .int (x4 + J 1), .null, .null, .null, .null] [] M Q) ∧ (¬ (M 21 x4.toNatClampNeg) ≤ x1 → Q (some (J (-1))) M)))))))) : R none (d + 1) mX5_best 48 [.ref 18, .int x1, .int x2, .int x3, .int x4, .null, .null, .null, .null] [] M Q := by
  refine r_iload dX5_best_48 rfl ?_
  refine r_aload_n dX5_best_50 rfl rfl ?_
  refine r_getI dX5_best_51 flX5_60 rfl rfl ?_
  refine r_icmp_ge (tgt := 86) dX5_best_54 (by decide) (fun c_54 => ?_) (fun c_54 => ?_)
  · replace h := h.1 c_54
    refine r_iload_n dX5_best_86 rfl rfl ?_
    refine r_callS (as := [.int x2]) (st := []) dX5_best_87 csX5_141 rfl rfl (Nat.le_of_ble_eq_true rfl) h (fun r M1 h => ?_)
    obtain ⟨v1, rfl, h⟩ := h
    refine r_istore dX5_best_90 (by decide) rfl ?_
    refine r_sipush (v := J 999) dX5_best_92 (by decide +kernel) ?_
    refine r_istore dX5_best_95 (by decide) rfl ?_
    refine r_iconst (v := J 0) dX5_best_97 rfl ?_
    refine r_istore dX5_best_98 (by decide) rfl ?_
    refine r_iconst (v := J 0) dX5_best_100 rfl ?_
    refine r_istore dX5_best_101 (by decide) rfl ?_
    exact h
  · replace h := h.2 c_54
    refine r_iload_n dX5_best_57 rfl rfl ?_
    refine r_iload dX5_best_58 rfl ?_
    refine r_ishr dX5_best_60 ?_
    refine r_iconst (v := J 1) dX5_best_61 rfl ?_
    refine r_iand dX5_best_62 ?_
    refine r_iconst (v := J 1) dX5_best_63 rfl ?_
    refine r_icmp_ne (tgt := 80) dX5_best_64 (by decide) (fun c_64 => ?_) (fun c_64 => ?_)
    · replace h := h.1 c_64
      refine r_iinc (v := J 1) dX5_best_80 rfl rfl (by decide) rfl ?_
      refine r_goto (tgt := 48) dX5_best_83 (by decide) ?_
      exact h
    · replace h := h.2 c_64
      refine r_aload_n dX5_best_67 rfl rfl ?_
      refine r_getR dX5_best_68 flX5_23 rfl rfl ?_
      refine r_iload dX5_best_71 rfl ?_
      refine r_iald dX5_best_73 rfl h.1 ?_
      replace h := h.2
      refine r_iload_n dX5_best_74 rfl rfl ?_
      refine r_icmp_le (tgt := 80) dX5_best_75 (by decide) (fun c_75 => ?_) (fun c_75 => ?_)
      · replace h := h.1 c_75
        refine r_iinc (v := J 1) dX5_best_80 rfl rfl (by decide) rfl ?_
        refine r_goto (tgt := 48) dX5_best_83 (by decide) ?_
        exact h
      · replace h := h.2 c_75
        refine r_iconst (v := J (-1)) dX5_best_78 rfl ?_
        exact r_ret dX5_best_79 rfl rfl h
set_option maxRecDepth 100000 in
set_option maxHeartbeats 4000000 in
theorem b_X5_best_103 {d : Nat} {M : Mem} {Q : Post} {x1 x2 x3 x4 x5 x6 x7 : Int32} (h : ((((J 1) <<< (((J 3) * x4) &&& 31)) ≤ x7 → ((¬ x3 = 0 → Q (some x6) M) ∧ (x3 = 0 → Q (some x5) M))) ∧ (¬ ((J 1) <<< (((J 3) * x4) &&& 31)) ≤ x7 → (Mt d mX5_isOrder [.int x7, .int x4, .int x2] M (ri fun v1 M1 => ((v1 = 0 → R none (d + 1) mX5_best 103 [.ref 18, .int x1, .int x2, .int x3, .int x4, .int x5, .int x6, .int (x7 + J 1), .null] [] M1 Q) ∧ (¬ v1 = 0 → (Mt d mX5_fills [.ref 18, .int x1, .int x4, .int x7] M1 (ri fun v2 M2 => ((v2 < x5 → R none (d + 1) mX5_best 103 [.ref 18, .int x1, .int x2, .int x3, .int x4, .int v2, .int x7, .int (x7 + J 1), .null] [] M2 Q) ∧ (¬ v2 < x5 → ((¬ v2 = x5 → R none (d + 1) mX5_best 103 [.ref 18, .int x1, .int x2, .int x3, .int x4, .int x5, .int x6, .int (x7 + J 1), .null] [] M2 Q) ∧ (v2 = x5 → (Mt d mX5_isLower [.int x7, .int x6] M2 (ri fun v3 M3 => ((v3 = 0 → R none (d + 1) mX5_best 103 [.ref 18, .int x1, .int x2, .int x3, .int x4, .int x5, .int x6, .int (x7 + J 1), .null] [] M3 Q) ∧ (¬ v3 = 0 → R none (d + 1) mX5_best 103 [.ref 18, .int x1, .int x2, .int x3, .int x4, .int v2, .int x7, .int (x7 + J 1), .null] [] M3 Q))))))))))))))))) : R none (d + 1) mX5_best 103 [.ref 18, .int x1, .int x2, .int x3, .int x4, .int x5, .int x6, .int x7, .null] [] M Q := by
  refine r_iload dX5_best_103 rfl ?_
  refine r_iconst (v := J 1) dX5_best_105 rfl ?_
  refine r_iconst (v := J 3) dX5_best_106 rfl ?_
  refine r_iload dX5_best_107 rfl ?_
  refine r_imul dX5_best_109 ?_
  refine r_ishl dX5_best_110 ?_
  refine r_icmp_ge (tgt := 174) dX5_best_111 (by decide) (fun c_111 => ?_) (fun c_111 => ?_)
  · replace h := h.1 c_111
    refine r_iload_n dX5_best_174 rfl rfl ?_
    refine r_if_ne (tgt := 183) dX5_best_175 (by decide) (fun c_175 => ?_) (fun c_175 => ?_)
    · replace h := h.1 c_175
      refine r_iload dX5_best_183 rfl ?_
      exact r_ret dX5_best_185 rfl rfl h
    · replace h := h.2 c_175
      refine r_iload dX5_best_178 rfl ?_
      refine r_goto (tgt := 185) dX5_best_180 (by decide) ?_
      exact r_ret dX5_best_185 rfl rfl h
  · replace h := h.2 c_111
    refine r_iload dX5_best_114 rfl ?_
    refine r_iload dX5_best_116 rfl ?_
    refine r_iload_n dX5_best_118 rfl rfl ?_
    refine r_callS (as := [.int x7, .int x4, .int x2]) (st := []) dX5_best_119 csX5_144 rfl rfl (Nat.le_of_ble_eq_true rfl) h (fun r M1 h => ?_)
    obtain ⟨v1, rfl, h⟩ := h
    refine r_if_eq (tgt := 168) dX5_best_122 (by decide) (fun c_122 => ?_) (fun c_122 => ?_)
    · replace h := h.1 c_122
      refine r_iinc (v := J 1) dX5_best_168 rfl rfl (by decide) rfl ?_
      refine r_goto (tgt := 103) dX5_best_171 (by decide) ?_
      exact h
    · replace h := h.2 c_122
      refine r_aload_n dX5_best_125 rfl rfl ?_
      refine r_iload_n dX5_best_126 rfl rfl ?_
      refine r_iload dX5_best_127 rfl ?_
      refine r_iload dX5_best_129 rfl ?_
      refine r_callV (as := [.int x1, .int x4, .int x7]) (st := []) dX5_best_131 cvX5_138 rfl rfl rfl rfl (Nat.le_of_ble_eq_true rfl) h (fun r M2 h => ?_)
      obtain ⟨v2, rfl, h⟩ := h
      refine r_istore dX5_best_134 (by decide) rfl ?_
      refine r_iload dX5_best_136 rfl ?_
      refine r_iload dX5_best_138 rfl ?_
      refine r_icmp_lt (tgt := 160) dX5_best_140 (by decide) (fun c_140 => ?_) (fun c_140 => ?_)
      · replace h := h.1 c_140
        refine r_iload dX5_best_160 rfl ?_
        refine r_istore dX5_best_162 (by decide) rfl ?_
        refine r_iload dX5_best_164 rfl ?_
        refine r_istore dX5_best_166 (by decide) rfl ?_
        refine r_iinc (v := J 1) dX5_best_168 rfl rfl (by decide) rfl ?_
        refine r_goto (tgt := 103) dX5_best_171 (by decide) ?_
        refine r_kill [false, false, false, false, false, false, false, false, true] rfl ?_
        exact h
      · replace h := h.2 c_140
        refine r_iload dX5_best_143 rfl ?_
        refine r_iload dX5_best_145 rfl ?_
        refine r_icmp_ne (tgt := 168) dX5_best_147 (by decide) (fun c_147 => ?_) (fun c_147 => ?_)
        · replace h := h.1 c_147
          refine r_iinc (v := J 1) dX5_best_168 rfl rfl (by decide) rfl ?_
          refine r_goto (tgt := 103) dX5_best_171 (by decide) ?_
          refine r_kill [false, false, false, false, false, false, false, false, true] rfl ?_
          exact h
        · replace h := h.2 c_147
          refine r_iload dX5_best_150 rfl ?_
          refine r_iload dX5_best_152 rfl ?_
          refine r_callS (as := [.int x7, .int x6]) (st := []) dX5_best_154 csX5_147 rfl rfl (Nat.le_of_ble_eq_true rfl) h (fun r M3 h => ?_)
          obtain ⟨v3, rfl, h⟩ := h
          refine r_if_eq (tgt := 168) dX5_best_157 (by decide) (fun c_157 => ?_) (fun c_157 => ?_)
          · replace h := h.1 c_157
            refine r_iinc (v := J 1) dX5_best_168 rfl rfl (by decide) rfl ?_
            refine r_goto (tgt := 103) dX5_best_171 (by decide) ?_
            refine r_kill [false, false, false, false, false, false, false, false, true] rfl ?_
            exact h
          · replace h := h.2 c_157
            refine r_iload dX5_best_160 rfl ?_
            refine r_istore dX5_best_162 (by decide) rfl ?_
            refine r_iload dX5_best_164 rfl ?_
            refine r_istore dX5_best_166 (by decide) rfl ?_
            refine r_iinc (v := J 1) dX5_best_168 rfl rfl (by decide) rfl ?_
            refine r_goto (tgt := 103) dX5_best_171 (by decide) ?_
            refine r_kill [false, false, false, false, false, false, false, false, true] rfl ?_
            exact h
theorem e_X5_best {d : Nat} {M : Mem} {Q : Post} {x1 x2 x3 : Int32} (h : (Mt d mX5_in [.int x1, .int (J 1), .int (J 12)] M (ri fun v1 M1 => ((v1 = 0 → Q (some (J (-1))) M1) ∧ (¬ v1 = 0 → (Mt d mX5_in [.int x2, .int (J 1), .int (((J 1) <<< ((M1 18 3) &&& 31)) - (J 1))] M1 (ri fun v2 M2 => ((v2 = 0 → Q (some (J (-1))) M2) ∧ (¬ v2 = 0 → (Mt d mX5_bits [.int x2] M2 (ri fun v3 M3 => (((J 5) < v3 → Q (some (J (-1))) M3) ∧ (¬ (J 5) < v3 → (Mt d mX5_in [.int x3, .int (J 0), .int (J 1)] M3 (ri fun v4 M4 => ((¬ v4 = 0 → R none (d + 1) mX5_best 48 [.ref 18, .int x1, .int x2, .int x3, .int (J 0), .null, .null, .null, .null] [] M4 Q) ∧ (v4 = 0 → Q (some (J (-1))) M4))))))))))))))))) : Mt (d + 1) mX5_best [.ref 18, .int x1, .int x2, .int x3] M Q := Mt.of (k := 5) (by decide +kernel) (okR (okI (okI (okI okN)))) (Nat.le_of_ble_eq_true rfl) rfl (b_X5_best_0 h)
set_option maxRecDepth 100000 in
set_option maxHeartbeats 4000000 in
theorem b_X5_count_0 {d : Nat} {M : Mem} {Q : Post} {x1 : Int32} (h : R none (d + 1) mX5_count 4 [.ref 18, .int x1, .int (J 0), .int (J 0), .null] [] M Q) : R none (d + 1) mX5_count 0 [.ref 18, .int x1, .null, .null, .null] [] M Q := by
  refine r_iconst (v := J 0) dX5_count_0 rfl ?_
  refine r_istore_n dX5_count_1 rfl (by decide) rfl ?_
  refine r_iconst (v := J 0) dX5_count_2 rfl ?_
  refine r_istore_n dX5_count_3 rfl (by decide) rfl ?_
  exact h
set_option maxRecDepth 100000 in
set_option maxHeartbeats 4000000 in
theorem b_X5_count_4 {d : Nat} {M : Mem} {Q : Post} {x1 x2 x3 : Int32} (h : (((M 18 1) ≤ x3 → (((x1.toInt < 0 ∨ 4 < x1.toInt) → Q (some (J (-1))) M) ∧ ((x1.toInt = 0) → Q (some (M 18 0)) M) ∧ ((x1.toInt = 1) → Q (some (M 18 1)) M) ∧ ((x1.toInt = 2) → Q (some (M 18 3)) M) ∧ ((x1.toInt = 3) → (Mt d mX5_lying [.ref 18] M (ri fun v1 M1 => (Mt d mX5_bits [.int v1] M1 (ri fun v2 M2 => Q (some v2) M2))))) ∧ ((x1.toInt = 4) → Q (some x2) M))) ∧ (¬ (M 18 1) ≤ x3 → R none (d + 1) mX5_count 15 [.ref 18, .int x1, .int x2, .int x3, .int (J 0)] [] M Q))) : R none (d + 1) mX5_count 4 [.ref 18, .int x1, .int x2, .int x3, .null] [] M Q := by
  refine r_iload_n dX5_count_4 rfl rfl ?_
  refine r_aload_n dX5_count_5 rfl rfl ?_
  refine r_getI dX5_count_6 flX5_13 rfl rfl ?_
  refine r_icmp_ge (tgt := 50) dX5_count_9 (by decide) (fun c_9 => ?_) (fun c_9 => ?_)
  · replace h := h.1 c_9
    refine r_iload_n dX5_count_50 rfl rfl ?_
    rcases (show (x1.toInt < 0 ∨ 4 < x1.toInt) ∨ (x1.toInt = 0) ∨ (x1.toInt = 1) ∨ (x1.toInt = 2) ∨ (x1.toInt = 3) ∨ (x1.toInt = 4) by omega) with q | q | q | q | q | q
    · replace h := h.1 q
      refine r_table (off := 58) (tgt := 109) dX5_count_51 (by rw [if_pos q]) (by decide) ?_
      refine r_iconst (v := J (-1)) dX5_count_109 rfl ?_
      exact r_ret dX5_count_110 rfl rfl h
    · replace h := h.2.1 q
      refine r_table (off := 33) (tgt := 84) dX5_count_51 (by rw [if_neg (by omega), q]; rfl) (by decide) ?_
      refine r_aload_n dX5_count_84 rfl rfl ?_
      refine r_getI dX5_count_85 flX5_7 rfl rfl ?_
      exact r_ret dX5_count_88 rfl rfl h
    · replace h := h.2.2.1 q
      refine r_table (off := 38) (tgt := 89) dX5_count_51 (by rw [if_neg (by omega), q]; rfl) (by decide) ?_
      refine r_aload_n dX5_count_89 rfl rfl ?_
      refine r_getI dX5_count_90 flX5_13 rfl rfl ?_
      exact r_ret dX5_count_93 rfl rfl h
    · replace h := h.2.2.2.1 q
      refine r_table (off := 43) (tgt := 94) dX5_count_51 (by rw [if_neg (by omega), q]; rfl) (by decide) ?_
      refine r_aload_n dX5_count_94 rfl rfl ?_
      refine r_getI dX5_count_95 flX5_60 rfl rfl ?_
      exact r_ret dX5_count_98 rfl rfl h
    · replace h := h.2.2.2.2.1 q
      refine r_table (off := 48) (tgt := 99) dX5_count_51 (by rw [if_neg (by omega), q]; rfl) (by decide) ?_
      refine r_aload_n dX5_count_99 rfl rfl ?_
      refine r_callV (as := []) (st := []) dX5_count_100 cvX5_118 rfl rfl rfl rfl (Nat.le_of_ble_eq_true rfl) h (fun r M1 h => ?_)
      obtain ⟨v1, rfl, h⟩ := h
      refine r_callS (as := [.int v1]) (st := []) dX5_count_103 csX5_141 rfl rfl (Nat.le_of_ble_eq_true rfl) h (fun r M2 h => ?_)
      obtain ⟨v2, rfl, h⟩ := h
      exact r_ret dX5_count_106 rfl rfl h
    · replace h := h.2.2.2.2.2 q
      refine r_table (off := 56) (tgt := 107) dX5_count_51 (by rw [if_neg (by omega), q]; rfl) (by decide) ?_
      refine r_iload_n dX5_count_107 rfl rfl ?_
      exact r_ret dX5_count_108 rfl rfl h
  · replace h := h.2 c_9
    refine r_iconst (v := J 0) dX5_count_12 rfl ?_
    refine r_istore dX5_count_13 (by decide) rfl ?_
    exact h
set_option maxRecDepth 100000 in
set_option maxHeartbeats 4000000 in
theorem b_X5_count_15 {d : Nat} {M : Mem} {Q : Post} {x1 x2 x3 x4 : Int32} (h : (((M 18 0) ≤ x4 → R none (d + 1) mX5_count 4 [.ref 18, .int x1, .int x2, .int (x3 + J 1), .null] [] M Q) ∧ (¬ (M 18 0) ≤ x4 → (vp_in x3 10 ∧ R none (d + 1) mX5_count 15 [.ref 18, .int x1, .int (x2 + (((M 19 x3.toNatClampNeg) >>> (x4 &&& 31)) &&& (J 1))), .int x3, .int (x4 + J 1)] [] M Q)))) : R none (d + 1) mX5_count 15 [.ref 18, .int x1, .int x2, .int x3, .int x4] [] M Q := by
  refine r_iload dX5_count_15 rfl ?_
  refine r_aload_n dX5_count_17 rfl rfl ?_
  refine r_getI dX5_count_18 flX5_7 rfl rfl ?_
  refine r_icmp_ge (tgt := 44) dX5_count_21 (by decide) (fun c_21 => ?_) (fun c_21 => ?_)
  · replace h := h.1 c_21
    refine r_iinc (v := J 1) dX5_count_44 rfl rfl (by decide) rfl ?_
    refine r_goto (tgt := 4) dX5_count_47 (by decide) ?_
    refine r_kill [false, false, false, false, true] rfl ?_
    exact h
  · replace h := h.2 c_21
    refine r_iload_n dX5_count_24 rfl rfl ?_
    refine r_aload_n dX5_count_25 rfl rfl ?_
    refine r_getR dX5_count_26 flX5_16 rfl rfl ?_
    refine r_iload_n dX5_count_29 rfl rfl ?_
    refine r_iald dX5_count_30 rfl h.1 ?_
    replace h := h.2
    refine r_iload dX5_count_31 rfl ?_
    refine r_ishr dX5_count_33 ?_
    refine r_iconst (v := J 1) dX5_count_34 rfl ?_
    refine r_iand dX5_count_35 ?_
    refine r_iadd dX5_count_36 ?_
    refine r_istore_n dX5_count_37 rfl (by decide) rfl ?_
    refine r_iinc (v := J 1) dX5_count_38 rfl rfl (by decide) rfl ?_
    refine r_goto (tgt := 15) dX5_count_41 (by decide) ?_
    exact h
theorem e_X5_count {d : Nat} {M : Mem} {Q : Post} {x1 : Int32} (h : R none (d + 1) mX5_count 4 [.ref 18, .int x1, .int (J 0), .int (J 0), .null] [] M Q) : Mt (d + 1) mX5_count [.ref 18, .int x1] M Q := Mt.of (k := 3) (by decide +kernel) (okR (okI okN)) (Nat.le_of_ble_eq_true rfl) rfl (b_X5_count_0 h)
