set_option maxRecDepth 100000 in
set_option maxHeartbeats 4000000 in
theorem b_X2_forgetSteps_0 {d : Nat} {M : Mem} {Q : Post} (h : Q none (mset M 2 8 (J 0))) : R none (d + 1) mX2_forgetSteps 0 [.ref 2] [] M Q := by
  refine r_aload_n dX2_forgetSteps_0 rfl rfl ?_
  refine r_iconst (v := J 0) dX2_forgetSteps_1 rfl ?_
  refine r_putI dX2_forgetSteps_2 fwX2_34 rfl rfl ?_
  exact r_vret dX2_forgetSteps_5 rfl h
theorem e_X2_forgetSteps {d : Nat} {M : Mem} {Q : Post} (h : Q none (mset M 2 8 (J 0))) : Mt (d + 1) mX2_forgetSteps [.ref 2] M Q := Mt.of (k := 0) (by decide +kernel) (okR okN) (Nat.le_of_ble_eq_true rfl) rfl (b_X2_forgetSteps_0 h)
set_option maxRecDepth 100000 in
set_option maxHeartbeats 4000000 in
theorem b_X2_stepAt_0 {d : Nat} {M : Mem} {Q : Post} {x1 : Int32} (h : ((x1 < 0 → Q (some (J (-4))) M) ∧ (¬ x1 < 0 → (((M 2 8) ≤ x1 → Q (some (J (-4))) M) ∧ (¬ (M 2 8) ≤ x1 → (((J 400) ≤ x1 → Q (some (J (-4))) M) ∧ (¬ (J 400) ≤ x1 → (vp_in x1 400 ∧ Q (some (M 14 x1.toNatClampNeg)) M)))))))) : R none (d + 1) mX2_stepAt 0 [.ref 2, .int x1] [] M Q := by
  refine r_iload_n dX2_stepAt_0 rfl rfl ?_
  refine r_if_lt (tgt := 30) dX2_stepAt_1 (by decide) (fun c_1 => ?_) (fun c_1 => ?_)
  · replace h := h.1 c_1
    refine r_bipush (v := J (-4)) dX2_stepAt_30 (by decide +kernel) ?_
    exact r_ret dX2_stepAt_32 rfl rfl h
  · replace h := h.2 c_1
    refine r_iload_n dX2_stepAt_4 rfl rfl ?_
    refine r_aload_n dX2_stepAt_5 rfl rfl ?_
    refine r_getI dX2_stepAt_6 flX2_34 rfl rfl ?_
    refine r_icmp_ge (tgt := 30) dX2_stepAt_9 (by decide) (fun c_9 => ?_) (fun c_9 => ?_)
    · replace h := h.1 c_9
      refine r_bipush (v := J (-4)) dX2_stepAt_30 (by decide +kernel) ?_
      exact r_ret dX2_stepAt_32 rfl rfl h
    · replace h := h.2 c_9
      refine r_iload_n dX2_stepAt_12 rfl rfl ?_
      refine r_aload_n dX2_stepAt_13 rfl rfl ?_
      refine r_getR dX2_stepAt_14 flX2_31 rfl rfl ?_
      refine r_alen (v := J 400) dX2_stepAt_17 rfl (by decide +kernel) ?_
      refine r_icmp_ge (tgt := 30) dX2_stepAt_18 (by decide) (fun c_18 => ?_) (fun c_18 => ?_)
      · replace h := h.1 c_18
        refine r_bipush (v := J (-4)) dX2_stepAt_30 (by decide +kernel) ?_
        exact r_ret dX2_stepAt_32 rfl rfl h
      · replace h := h.2 c_18
        refine r_aload_n dX2_stepAt_21 rfl rfl ?_
        refine r_getR dX2_stepAt_22 flX2_31 rfl rfl ?_
        refine r_iload_n dX2_stepAt_25 rfl rfl ?_
        refine r_iald dX2_stepAt_26 rfl h.1 ?_
        replace h := h.2
        refine r_goto (tgt := 32) dX2_stepAt_27 (by decide) ?_
        exact r_ret dX2_stepAt_32 rfl rfl h
theorem e_X2_stepAt {d : Nat} {M : Mem} {Q : Post} {x1 : Int32} (h : ((x1 < 0 → Q (some (J (-4))) M) ∧ (¬ x1 < 0 → (((M 2 8) ≤ x1 → Q (some (J (-4))) M) ∧ (¬ (M 2 8) ≤ x1 → (((J 400) ≤ x1 → Q (some (J (-4))) M) ∧ (¬ (J 400) ≤ x1 → (vp_in x1 400 ∧ Q (some (M 14 x1.toNatClampNeg)) M)))))))) : Mt (d + 1) mX2_stepAt [.ref 2, .int x1] M Q := Mt.of (k := 0) (by decide +kernel) (okR (okI okN)) (Nat.le_of_ble_eq_true rfl) rfl (b_X2_stepAt_0 h)
set_option maxRecDepth 100000 in
set_option maxHeartbeats 4000000 in
theorem b_X2_canStand_0 {d : Nat} {M : Mem} {Q : Post} {x1 x2 x3 : Int32} (h : (Mt d mX3_lyingBeside [.ref 1, .int x1] M (ri fun v1 M1 => (Mt d mX2_survey [.ref 2, .int x1, .int v1] M1 (rn fun M2 => (Mt d mX2_placeAt [.int x2, .int x3] M2 (ri fun v2 M3 => (Mt d mX2_isMarked [.ref 10, .int v2] M3 (ri fun v3 M4 => ((v3 = J 0 ∨ v3 = J 1) ∧ Q (some v3) M4)))))))))) : R none (d + 1) mX2_canStand 0 [.ref 2, .int x1, .int x2, .int x3] [] M Q := by
  refine r_aload_n dX2_canStand_0 rfl rfl ?_
  refine r_iload_n dX2_canStand_1 rfl rfl ?_
  refine r_aload_n dX2_canStand_2 rfl rfl ?_
  refine r_getR dX2_canStand_3 flX2_37 rfl rfl ?_
  refine r_iload_n dX2_canStand_6 rfl rfl ?_
  refine r_callV (as := [.int x1]) (st := [.int x1, .ref 2]) dX2_canStand_7 cvX2_41 rfl rfl rfl rfl (Nat.le_of_ble_eq_true rfl) h (fun r M1 h => ?_)
  obtain ⟨v1, rfl, h⟩ := h
  refine r_callV (as := [.int x1, .int v1]) (st := []) dX2_canStand_10 cvX2_47 rfl rfl rfl rfl (Nat.le_of_ble_eq_true rfl) h (fun r M2 h => ?_)
  obtain ⟨rfl, h⟩ := h
  refine r_aload_n dX2_canStand_13 rfl rfl ?_
  refine r_getR dX2_canStand_14 flX2_15 rfl rfl ?_
  refine r_iload_n dX2_canStand_17 rfl rfl ?_
  refine r_iload_n dX2_canStand_18 rfl rfl ?_
  refine r_callS (as := [.int x2, .int x3]) (st := [.ref 10]) dX2_canStand_19 csX2_51 rfl rfl (Nat.le_of_ble_eq_true rfl) h (fun r M3 h => ?_)
  obtain ⟨v2, rfl, h⟩ := h
  refine r_callS (as := [.ref 10, .int v2]) (st := []) dX2_canStand_22 csX2_55 rfl rfl (Nat.le_of_ble_eq_true rfl) h (fun r M4 h => ?_)
  obtain ⟨v3, rfl, h⟩ := h
  exact r_ret dX2_canStand_25 rfl (nbz h.1) h.2
theorem e_X2_canStand {d : Nat} {M : Mem} {Q : Post} {x1 x2 x3 : Int32} (h : (Mt d mX3_lyingBeside [.ref 1, .int x1] M (ri fun v1 M1 => (Mt d mX2_survey [.ref 2, .int x1, .int v1] M1 (rn fun M2 => (Mt d mX2_placeAt [.int x2, .int x3] M2 (ri fun v2 M3 => (Mt d mX2_isMarked [.ref 10, .int v2] M3 (ri fun v3 M4 => ((v3 = J 0 ∨ v3 = J 1) ∧ Q (some v3) M4)))))))))) : Mt (d + 1) mX2_canStand [.ref 2, .int x1, .int x2, .int x3] M Q := Mt.of (k := 0) (by decide +kernel) (okR (okI (okI (okI okN)))) (Nat.le_of_ble_eq_true rfl) rfl (b_X2_canStand_0 h)
set_option maxRecDepth 100000 in
set_option maxHeartbeats 4000000 in
theorem b_X2_isOutWhereItLies_0 {d : Nat} {M : Mem} {Q : Post} {x1 : Int32} (h : (Mt d mX3_lyingBeside [.ref 1, .int x1] M (ri fun v1 M1 => (Mt d mX2_survey [.ref 2, .int x1, .int v1] M1 (rn fun M2 => (Mt d mX2_whereLies [.ref 2, .int x1] M2 (ri fun v2 M3 => (Mt d mX2_isMarked [.ref 11, .int v2] M3 (ri fun v3 M4 => ((v3 = J 0 ∨ v3 = J 1) ∧ Q (some v3) M4)))))))))) : R none (d + 1) mX2_isOutWhereItLies 0 [.ref 2, .int x1] [] M Q := by
  refine r_aload_n dX2_isOutWhereItLies_0 rfl rfl ?_
  refine r_iload_n dX2_isOutWhereItLies_1 rfl rfl ?_
  refine r_aload_n dX2_isOutWhereItLies_2 rfl rfl ?_
  refine r_getR dX2_isOutWhereItLies_3 flX2_37 rfl rfl ?_
  refine r_iload_n dX2_isOutWhereItLies_6 rfl rfl ?_
  refine r_callV (as := [.int x1]) (st := [.int x1, .ref 2]) dX2_isOutWhereItLies_7 cvX2_41 rfl rfl rfl rfl (Nat.le_of_ble_eq_true rfl) h (fun r M1 h => ?_)
  obtain ⟨v1, rfl, h⟩ := h
  refine r_callV (as := [.int x1, .int v1]) (st := []) dX2_isOutWhereItLies_10 cvX2_47 rfl rfl rfl rfl (Nat.le_of_ble_eq_true rfl) h (fun r M2 h => ?_)
  obtain ⟨rfl, h⟩ := h
  refine r_aload_n dX2_isOutWhereItLies_13 rfl rfl ?_
  refine r_getR dX2_isOutWhereItLies_14 flX2_18 rfl rfl ?_
  refine r_aload_n dX2_isOutWhereItLies_17 rfl rfl ?_
  refine r_iload_n dX2_isOutWhereItLies_18 rfl rfl ?_
  refine r_callV (as := [.int x1]) (st := [.ref 11]) dX2_isOutWhereItLies_19 cvX2_59 rfl rfl rfl rfl (Nat.le_of_ble_eq_true rfl) h (fun r M3 h => ?_)
  obtain ⟨v2, rfl, h⟩ := h
  refine r_callS (as := [.ref 11, .int v2]) (st := []) dX2_isOutWhereItLies_22 csX2_55 rfl rfl (Nat.le_of_ble_eq_true rfl) h (fun r M4 h => ?_)
  obtain ⟨v3, rfl, h⟩ := h
  exact r_ret dX2_isOutWhereItLies_25 rfl (nbz h.1) h.2
theorem e_X2_isOutWhereItLies {d : Nat} {M : Mem} {Q : Post} {x1 : Int32} (h : (Mt d mX3_lyingBeside [.ref 1, .int x1] M (ri fun v1 M1 => (Mt d mX2_survey [.ref 2, .int x1, .int v1] M1 (rn fun M2 => (Mt d mX2_whereLies [.ref 2, .int x1] M2 (ri fun v2 M3 => (Mt d mX2_isMarked [.ref 11, .int v2] M3 (ri fun v3 M4 => ((v3 = J 0 ∨ v3 = J 1) ∧ Q (some v3) M4)))))))))) : Mt (d + 1) mX2_isOutWhereItLies [.ref 2, .int x1] M Q := Mt.of (k := 0) (by decide +kernel) (okR (okI okN)) (Nat.le_of_ble_eq_true rfl) rfl (b_X2_isOutWhereItLies_0 h)
set_option maxRecDepth 100000 in
set_option maxHeartbeats 4000000 in
theorem b_X2_stepsOnward_0 {d : Nat} {M : Mem} {Q : Post} {x1 x2 x3 : Int32} (h : (Mt d mX3_lyingBeside [.ref 1, .int x1] M (ri fun v1 M1 => (Mt d mX2_survey [.ref 2, .int x1, .int v1] M1 (rn fun M2 => (Mt d mX2_whereLies [.ref 2, .int x1] M2 (ri fun v2 M3 => R none (d + 1) mX2_stepsOnward 23 [.ref 2, .null, .int x2, .int x3, .int v2, .int (J 0)] [] M3 Q))))))) : R none (d + 1) mX2_stepsOnward 0 [.ref 2, .int x1, .int x2, .int x3, .null, .null] [] M Q := by
  refine r_aload_n dX2_stepsOnward_0 rfl rfl ?_
  refine r_iload_n dX2_stepsOnward_1 rfl rfl ?_
  refine r_aload_n dX2_stepsOnward_2 rfl rfl ?_
  refine r_getR dX2_stepsOnward_3 flX2_37 rfl rfl ?_
  refine r_iload_n dX2_stepsOnward_6 rfl rfl ?_
  refine r_callV (as := [.int x1]) (st := [.int x1, .ref 2]) dX2_stepsOnward_7 cvX2_41 rfl rfl rfl rfl (Nat.le_of_ble_eq_true rfl) h (fun r M1 h => ?_)
  obtain ⟨v1, rfl, h⟩ := h
  refine r_callV (as := [.int x1, .int v1]) (st := []) dX2_stepsOnward_10 cvX2_47 rfl rfl rfl rfl (Nat.le_of_ble_eq_true rfl) h (fun r M2 h => ?_)
  obtain ⟨rfl, h⟩ := h
  refine r_aload_n dX2_stepsOnward_13 rfl rfl ?_
  refine r_iload_n dX2_stepsOnward_14 rfl rfl ?_
  refine r_callV (as := [.int x1]) (st := []) dX2_stepsOnward_15 cvX2_59 rfl rfl rfl rfl (Nat.le_of_ble_eq_true rfl) h (fun r M3 h => ?_)
  obtain ⟨v2, rfl, h⟩ := h
  refine r_istore dX2_stepsOnward_18 (by decide) rfl ?_
  refine r_iconst (v := J 0) dX2_stepsOnward_20 rfl ?_
  refine r_istore dX2_stepsOnward_21 (by decide) rfl ?_
  refine r_kill [false, true, false, false, false, false] rfl ?_
  exact h
set_option maxRecDepth 100000 in
set_option maxHeartbeats 4000000 in
theorem b_X2_stepsOnward_23 {d : Nat} {M : Mem} {Q : Post} {x2 x3 x4 x5 : Int32} (h : ((x3 ≤ x5 → Q (some x3) M) ∧ (¬ x3 ≤ x5 → (Mt d mX2_beside [.int x4, .int x2] M (ri fun v1 M1 => (Mt d mX2_isMarked [.ref 10, .int v1] M1 (ri fun v2 M2 => ((¬ v2 = 0 → R none (d + 1) mX2_stepsOnward 23 [.ref 2, .null, .int x2, .int x3, .int v1, .int (x5 + J 1)] [] M2 Q) ∧ (v2 = 0 → Q (some x5) M2))))))))) : R none (d + 1) mX2_stepsOnward 23 [.ref 2, .null, .int x2, .int x3, .int x4, .int x5] [] M Q := by
  refine r_iload dX2_stepsOnward_23 rfl ?_
  refine r_iload_n dX2_stepsOnward_25 rfl rfl ?_
  refine r_icmp_ge (tgt := 58) dX2_stepsOnward_26 (by decide) (fun c_26 => ?_) (fun c_26 => ?_)
  · replace h := h.1 c_26
    refine r_iload_n dX2_stepsOnward_58 rfl rfl ?_
    exact r_ret dX2_stepsOnward_59 rfl rfl h
  · replace h := h.2 c_26
    refine r_iload dX2_stepsOnward_29 rfl ?_
    refine r_iload_n dX2_stepsOnward_31 rfl rfl ?_
    refine r_callS (as := [.int x4, .int x2]) (st := []) dX2_stepsOnward_32 csX2_62 rfl rfl (Nat.le_of_ble_eq_true rfl) h (fun r M1 h => ?_)
    obtain ⟨v1, rfl, h⟩ := h
    refine r_istore dX2_stepsOnward_35 (by decide) rfl ?_
    refine r_aload_n dX2_stepsOnward_37 rfl rfl ?_
    refine r_getR dX2_stepsOnward_38 flX2_15 rfl rfl ?_
    refine r_iload dX2_stepsOnward_41 rfl ?_
    refine r_callS (as := [.ref 10, .int v1]) (st := []) dX2_stepsOnward_43 csX2_55 rfl rfl (Nat.le_of_ble_eq_true rfl) h (fun r M2 h => ?_)
    obtain ⟨v2, rfl, h⟩ := h
    refine r_if_ne (tgt := 52) dX2_stepsOnward_46 (by decide) (fun c_46 => ?_) (fun c_46 => ?_)
    · replace h := h.1 c_46
      refine r_iinc (v := J 1) dX2_stepsOnward_52 rfl rfl (by decide) rfl ?_
      refine r_goto (tgt := 23) dX2_stepsOnward_55 (by decide) ?_
      exact h
    · replace h := h.2 c_46
      refine r_iload dX2_stepsOnward_49 rfl ?_
      exact r_ret dX2_stepsOnward_51 rfl rfl h
theorem e_X2_stepsOnward {d : Nat} {M : Mem} {Q : Post} {x1 x2 x3 : Int32} (h : (Mt d mX3_lyingBeside [.ref 1, .int x1] M (ri fun v1 M1 => (Mt d mX2_survey [.ref 2, .int x1, .int v1] M1 (rn fun M2 => (Mt d mX2_whereLies [.ref 2, .int x1] M2 (ri fun v2 M3 => R none (d + 1) mX2_stepsOnward 23 [.ref 2, .null, .int x2, .int x3, .int v2, .int (J 0)] [] M3 Q))))))) : Mt (d + 1) mX2_stepsOnward [.ref 2, .int x1, .int x2, .int x3] M Q := Mt.of (k := 2) (by decide +kernel) (okR (okI (okI (okI okN)))) (Nat.le_of_ble_eq_true rfl) rfl (b_X2_stepsOnward_0 h)
set_option maxRecDepth 100000 in
set_option maxHeartbeats 4000000 in
theorem b_X2_stepsOut_0 {d : Nat} {M : Mem} {Q : Post} {x1 x2 : Int32} (h : (Mt d mX2_survey [.ref 2, .int x1, .int x2] M (rn fun M1 => (Mt d mX2_whereLies [.ref 2, .int x1] M1 (ri fun v1 M2 => (Mt d mX2_reach [.ref 2, .int v1, .int (J 0)] M2 (rn fun M3 => (Mt d mX2_spreadFrom [.ref 2, .int (J 0)] M3 (rn fun M4 => R none (d + 1) mX2_stepsOut 23 [.ref 2, .null, .null, .int (J 0)] [] M4 Q))))))))) : R none (d + 1) mX2_stepsOut 0 [.ref 2, .int x1, .int x2, .null] [] M Q := by
  refine r_aload_n dX2_stepsOut_0 rfl rfl ?_
  refine r_iload_n dX2_stepsOut_1 rfl rfl ?_
  refine r_iload_n dX2_stepsOut_2 rfl rfl ?_
  refine r_callV (as := [.int x1, .int x2]) (st := []) dX2_stepsOut_3 cvX2_47 rfl rfl rfl rfl (Nat.le_of_ble_eq_true rfl) h (fun r M1 h => ?_)
  obtain ⟨rfl, h⟩ := h
  refine r_aload_n dX2_stepsOut_6 rfl rfl ?_
  refine r_aload_n dX2_stepsOut_7 rfl rfl ?_
  refine r_iload_n dX2_stepsOut_8 rfl rfl ?_
  refine r_callV (as := [.int x1]) (st := [.ref 2]) dX2_stepsOut_9 cvX2_59 rfl rfl rfl rfl (Nat.le_of_ble_eq_true rfl) h (fun r M2 h => ?_)
  obtain ⟨v1, rfl, h⟩ := h
  refine r_iconst (v := J 0) dX2_stepsOut_12 rfl ?_
  refine r_callV (as := [.int v1, .int (J 0)]) (st := []) dX2_stepsOut_13 cvX2_65 rfl rfl rfl rfl (Nat.le_of_ble_eq_true rfl) h (fun r M3 h => ?_)
  obtain ⟨rfl, h⟩ := h
  refine r_aload_n dX2_stepsOut_16 rfl rfl ?_
  refine r_iconst (v := J 0) dX2_stepsOut_17 rfl ?_
  refine r_callV (as := [.int (J 0)]) (st := []) dX2_stepsOut_18 cvX2_68 rfl rfl rfl rfl (Nat.le_of_ble_eq_true rfl) h (fun r M4 h => ?_)
  obtain ⟨rfl, h⟩ := h
  refine r_iconst (v := J 0) dX2_stepsOut_21 rfl ?_
  refine r_istore_n dX2_stepsOut_22 rfl (by decide) rfl ?_
  refine r_kill [false, true, true, false] rfl ?_
  exact h
set_option maxRecDepth 100000 in
set_option maxHeartbeats 4000000 in
theorem b_X2_stepsOut_23 {d : Nat} {M : Mem} {Q : Post} {x3 : Int32} (h : (((M 2 6) ≤ x3 → Q (some (J (-4))) M) ∧ (¬ (M 2 6) ≤ x3 → (((J 400) ≤ x3 → Q (some (J (-4))) M) ∧ (¬ (J 400) ≤ x3 → (vp_in x3 400 ∧ (Mt d mX2_isMarked [.ref 11, .int (M 13 x3.toNatClampNeg)] M (ri fun v1 M1 => ((v1 = 0 → R none (d + 1) mX2_stepsOut 23 [.ref 2, .null, .null, .int (x3 + J 1)] [] M1 Q) ∧ (¬ v1 = 0 → (vp_in x3 400 ∧ (Mt d mX2_distanceOf [.ref 2, .int (M1 13 x3.toNatClampNeg)] M1 (ri fun v2 M2 => Q (some v2) M2))))))))))))) : R none (d + 1) mX2_stepsOut 23 [.ref 2, .null, .null, .int x3] [] M Q := by
  refine r_iload_n dX2_stepsOut_23 rfl rfl ?_
  refine r_aload_n dX2_stepsOut_24 rfl rfl ?_
  refine r_getI dX2_stepsOut_25 flX2_27 rfl rfl ?_
  refine r_icmp_ge (tgt := 73) dX2_stepsOut_28 (by decide) (fun c_28 => ?_) (fun c_28 => ?_)
  · replace h := h.1 c_28
    refine r_bipush (v := J (-4)) dX2_stepsOut_73 (by decide +kernel) ?_
    exact r_ret dX2_stepsOut_75 rfl rfl h
  · replace h := h.2 c_28
    refine r_iload_n dX2_stepsOut_31 rfl rfl ?_
    refine r_aload_n dX2_stepsOut_32 rfl rfl ?_
    refine r_getR dX2_stepsOut_33 flX2_24 rfl rfl ?_
    refine r_alen (v := J 400) dX2_stepsOut_36 rfl (by decide +kernel) ?_
    refine r_icmp_ge (tgt := 73) dX2_stepsOut_37 (by decide) (fun c_37 => ?_) (fun c_37 => ?_)
    · replace h := h.1 c_37
      refine r_bipush (v := J (-4)) dX2_stepsOut_73 (by decide +kernel) ?_
      exact r_ret dX2_stepsOut_75 rfl rfl h
    · replace h := h.2 c_37
      refine r_aload_n dX2_stepsOut_40 rfl rfl ?_
      refine r_getR dX2_stepsOut_41 flX2_18 rfl rfl ?_
      refine r_aload_n dX2_stepsOut_44 rfl rfl ?_
      refine r_getR dX2_stepsOut_45 flX2_24 rfl rfl ?_
      refine r_iload_n dX2_stepsOut_48 rfl rfl ?_
      refine r_iald dX2_stepsOut_49 rfl h.1 ?_
      replace h := h.2
      refine r_callS (as := [.ref 11, .int (M 13 x3.toNatClampNeg)]) (st := []) dX2_stepsOut_50 csX2_55 rfl rfl (Nat.le_of_ble_eq_true rfl) h (fun r M1 h => ?_)
      obtain ⟨v1, rfl, h⟩ := h
      refine r_if_eq (tgt := 67) dX2_stepsOut_53 (by decide) (fun c_53 => ?_) (fun c_53 => ?_)
      · replace h := h.1 c_53
        refine r_iinc (v := J 1) dX2_stepsOut_67 rfl rfl (by decide) rfl ?_
        refine r_goto (tgt := 23) dX2_stepsOut_70 (by decide) ?_
        exact h
      · replace h := h.2 c_53
        refine r_aload_n dX2_stepsOut_56 rfl rfl ?_
        refine r_aload_n dX2_stepsOut_57 rfl rfl ?_
        refine r_getR dX2_stepsOut_58 flX2_24 rfl rfl ?_
        refine r_iload_n dX2_stepsOut_61 rfl rfl ?_
        refine r_iald dX2_stepsOut_62 rfl h.1 ?_
        replace h := h.2
        refine r_callV (as := [.int (M1 13 x3.toNatClampNeg)]) (st := []) dX2_stepsOut_63 cvX2_72 rfl rfl rfl rfl (Nat.le_of_ble_eq_true rfl) h (fun r M2 h => ?_)
        obtain ⟨v2, rfl, h⟩ := h
        exact r_ret dX2_stepsOut_66 rfl rfl h
theorem e_X2_stepsOut {d : Nat} {M : Mem} {Q : Post} {x1 x2 : Int32} (h : (Mt d mX2_survey [.ref 2, .int x1, .int x2] M (rn fun M1 => (Mt d mX2_whereLies [.ref 2, .int x1] M1 (ri fun v1 M2 => (Mt d mX2_reach [.ref 2, .int v1, .int (J 0)] M2 (rn fun M3 => (Mt d mX2_spreadFrom [.ref 2, .int (J 0)] M3 (rn fun M4 => R none (d + 1) mX2_stepsOut 23 [.ref 2, .null, .null, .int (J 0)] [] M4 Q))))))))) : Mt (d + 1) mX2_stepsOut [.ref 2, .int x1, .int x2] M Q := Mt.of (k := 1) (by decide +kernel) (okR (okI (okI okN))) (Nat.le_of_ble_eq_true rfl) rfl (b_X2_stepsOut_0 h)
set_option maxRecDepth 100000 in
set_option maxHeartbeats 4000000 in
theorem b_X2_findWay_0 {d : Nat} {M : Mem} {Q : Post} {x1 x2 x3 : Int32} (h : (Mt d mX3_lyingBeside [.ref 1, .int x1] M (ri fun v1 M1 => (Mt d mX2_survey [.ref 2, .int x1, .int v1] M1 (rn fun M2 => (Mt d mX2_placeAt [.int x2, .int x3] M2 (ri fun v2 M3 => (Mt d mX2_reach [.ref 2, .int v2, .int (J 0)] M3 (rn fun M4 => (Mt d mX2_spreadFrom [.ref 2, .int (J 0)] M4 (rn fun M5 => (Mt d mX2_whereLies [.ref 2, .int x1] M5 (ri fun v3 M6 => (Mt d mX2_distanceOf [.ref 2, .int v3] M6 (ri fun v4 M7 => ((0 ≤ v4 → (Mt d mX2_keepSteps [.ref 2, .int v3, .int v4] M7 (rn fun M8 => Q (some v4) M8))) ∧ (¬ 0 ≤ v4 → Q (some (J (-4))) M7))))))))))))))))) : R none (d + 1) mX2_findWay 0 [.ref 2, .int x1, .int x2, .int x3, .null, .null] [] M Q := by
  refine r_aload_n dX2_findWay_0 rfl rfl ?_
  refine r_iload_n dX2_findWay_1 rfl rfl ?_
  refine r_aload_n dX2_findWay_2 rfl rfl ?_
  refine r_getR dX2_findWay_3 flX2_37 rfl rfl ?_
  refine r_iload_n dX2_findWay_6 rfl rfl ?_
  refine r_callV (as := [.int x1]) (st := [.int x1, .ref 2]) dX2_findWay_7 cvX2_41 rfl rfl rfl rfl (Nat.le_of_ble_eq_true rfl) h (fun r M1 h => ?_)
  obtain ⟨v1, rfl, h⟩ := h
  refine r_callV (as := [.int x1, .int v1]) (st := []) dX2_findWay_10 cvX2_47 rfl rfl rfl rfl (Nat.le_of_ble_eq_true rfl) h (fun r M2 h => ?_)
  obtain ⟨rfl, h⟩ := h
  refine r_aload_n dX2_findWay_13 rfl rfl ?_
  refine r_iload_n dX2_findWay_14 rfl rfl ?_
  refine r_iload_n dX2_findWay_15 rfl rfl ?_
  refine r_callS (as := [.int x2, .int x3]) (st := [.ref 2]) dX2_findWay_16 csX2_51 rfl rfl (Nat.le_of_ble_eq_true rfl) h (fun r M3 h => ?_)
  obtain ⟨v2, rfl, h⟩ := h
  refine r_iconst (v := J 0) dX2_findWay_19 rfl ?_
  refine r_callV (as := [.int v2, .int (J 0)]) (st := []) dX2_findWay_20 cvX2_65 rfl rfl rfl rfl (Nat.le_of_ble_eq_true rfl) h (fun r M4 h => ?_)
  obtain ⟨rfl, h⟩ := h
  refine r_aload_n dX2_findWay_23 rfl rfl ?_
  refine r_iconst (v := J 0) dX2_findWay_24 rfl ?_
  refine r_callV (as := [.int (J 0)]) (st := []) dX2_findWay_25 cvX2_68 rfl rfl rfl rfl (Nat.le_of_ble_eq_true rfl) h (fun r M5 h => ?_)
  obtain ⟨rfl, h⟩ := h
  refine r_aload_n dX2_findWay_28 rfl rfl ?_
  refine r_iload_n dX2_findWay_29 rfl rfl ?_
  refine r_callV (as := [.int x1]) (st := []) dX2_findWay_30 cvX2_59 rfl rfl rfl rfl (Nat.le_of_ble_eq_true rfl) h (fun r M6 h => ?_)
  obtain ⟨v3, rfl, h⟩ := h
  refine r_istore dX2_findWay_33 (by decide) rfl ?_
  refine r_aload_n dX2_findWay_35 rfl rfl ?_
  refine r_iload dX2_findWay_36 rfl ?_
  refine r_callV (as := [.int v3]) (st := []) dX2_findWay_38 cvX2_72 rfl rfl rfl rfl (Nat.le_of_ble_eq_true rfl) h (fun r M7 h => ?_)
  obtain ⟨v4, rfl, h⟩ := h
  refine r_istore dX2_findWay_41 (by decide) rfl ?_
  refine r_iload dX2_findWay_43 rfl ?_
  refine r_if_ge (tgt := 51) dX2_findWay_45 (by decide) (fun c_45 => ?_) (fun c_45 => ?_)
  · replace h := h.1 c_45
    refine r_aload_n dX2_findWay_51 rfl rfl ?_
    refine r_iload dX2_findWay_52 rfl ?_
    refine r_iload dX2_findWay_54 rfl ?_
    refine r_callV (as := [.int v3, .int v4]) (st := []) dX2_findWay_56 cvX2_75 rfl rfl rfl rfl (Nat.le_of_ble_eq_true rfl) h (fun r M8 h => ?_)
    obtain ⟨rfl, h⟩ := h
    refine r_iload dX2_findWay_59 rfl ?_
    exact r_ret dX2_findWay_61 rfl rfl h
  · replace h := h.2 c_45
    refine r_bipush (v := J (-4)) dX2_findWay_48 (by decide +kernel) ?_
    exact r_ret dX2_findWay_50 rfl rfl h
theorem e_X2_findWay {d : Nat} {M : Mem} {Q : Post} {x1 x2 x3 : Int32} (h : (Mt d mX3_lyingBeside [.ref 1, .int x1] M (ri fun v1 M1 => (Mt d mX2_survey [.ref 2, .int x1, .int v1] M1 (rn fun M2 => (Mt d mX2_placeAt [.int x2, .int x3] M2 (ri fun v2 M3 => (Mt d mX2_reach [.ref 2, .int v2, .int (J 0)] M3 (rn fun M4 => (Mt d mX2_spreadFrom [.ref 2, .int (J 0)] M4 (rn fun M5 => (Mt d mX2_whereLies [.ref 2, .int x1] M5 (ri fun v3 M6 => (Mt d mX2_distanceOf [.ref 2, .int v3] M6 (ri fun v4 M7 => ((0 ≤ v4 → (Mt d mX2_keepSteps [.ref 2, .int v3, .int v4] M7 (rn fun M8 => Q (some v4) M8))) ∧ (¬ 0 ≤ v4 → Q (some (J (-4))) M7))))))))))))))))) : Mt (d + 1) mX2_findWay [.ref 2, .int x1, .int x2, .int x3] M Q := Mt.of (k := 2) (by decide +kernel) (okR (okI (okI (okI okN)))) (Nat.le_of_ble_eq_true rfl) rfl (b_X2_findWay_0 h)
set_option maxRecDepth 100000 in
set_option maxHeartbeats 4000000 in
theorem b_X2_countInside_0 {d : Nat} {M : Mem} {Q : Post} {x1 : Int32} (h : (Mt d mX3_lyingBeside [.ref 1, .int x1] M (ri fun v1 M1 => (Mt d mX2_survey [.ref 2, .int x1, .int v1] M1 (rn fun M2 => (Mt d mX3_shapeOf [.ref 1, .int x1] M2 (ri fun v2 M3 => (Mt d mX3_columnCount [.ref 1] M3 (ri fun v3 M4 => (Mt d mX4_columnsOf [.int v2] M4 (ri fun v4 M5 => (Mt d mX3_rowCount [.ref 1] M5 (ri fun v5 M6 => (Mt d mX4_rowsOf [.int v2] M6 (ri fun v6 M7 => R none (d + 1) mX2_countInside 59 [.ref 2, .null, .null, .int ((v3 - v4) + (J 1)), .int ((v5 - v6) + (J 1)), .int (J 0), .int (J 0), .null] [] M7 Q))))))))))))))) : R none (d + 1) mX2_countInside 0 [.ref 2, .int x1, .null, .null, .null, .null, .null, .null] [] M Q := by
  refine r_aload_n dX2_countInside_0 rfl rfl ?_
  refine r_iload_n dX2_countInside_1 rfl rfl ?_
  refine r_aload_n dX2_countInside_2 rfl rfl ?_
  refine r_getR dX2_countInside_3 flX2_37 rfl rfl ?_
  refine r_iload_n dX2_countInside_6 rfl rfl ?_
  refine r_callV (as := [.int x1]) (st := [.int x1, .ref 2]) dX2_countInside_7 cvX2_41 rfl rfl rfl rfl (Nat.le_of_ble_eq_true rfl) h (fun r M1 h => ?_)
  obtain ⟨v1, rfl, h⟩ := h
  refine r_callV (as := [.int x1, .int v1]) (st := []) dX2_countInside_10 cvX2_47 rfl rfl rfl rfl (Nat.le_of_ble_eq_true rfl) h (fun r M2 h => ?_)
  obtain ⟨rfl, h⟩ := h
  refine r_aload_n dX2_countInside_13 rfl rfl ?_
  refine r_getR dX2_countInside_14 flX2_37 rfl rfl ?_
  refine r_iload_n dX2_countInside_17 rfl rfl ?_
  refine r_callV (as := [.int x1]) (st := []) dX2_countInside_18 cvX2_78 rfl rfl rfl rfl (Nat.le_of_ble_eq_true rfl) h (fun r M3 h => ?_)
  obtain ⟨v2, rfl, h⟩ := h
  refine r_istore_n dX2_countInside_21 rfl (by decide) rfl ?_
  refine r_aload_n dX2_countInside_22 rfl rfl ?_
  refine r_getR dX2_countInside_23 flX2_37 rfl rfl ?_
  refine r_callV (as := []) (st := []) dX2_countInside_26 cvX2_81 rfl rfl rfl rfl (Nat.le_of_ble_eq_true rfl) h (fun r M4 h => ?_)
  obtain ⟨v3, rfl, h⟩ := h
  refine r_iload_n dX2_countInside_29 rfl rfl ?_
  refine r_callN (as := [.int v2]) (st := [.int v3]) dX2_countInside_30 cnX2_85 rfl rfl (Nat.le_of_ble_eq_true rfl) h (fun r M5 h => ?_)
  obtain ⟨v4, rfl, h⟩ := h
  refine r_isub dX2_countInside_33 ?_
  refine r_iconst (v := J 1) dX2_countInside_34 rfl ?_
  refine r_iadd dX2_countInside_35 ?_
  refine r_istore_n dX2_countInside_36 rfl (by decide) rfl ?_
  refine r_aload_n dX2_countInside_37 rfl rfl ?_
  refine r_getR dX2_countInside_38 flX2_37 rfl rfl ?_
  refine r_callV (as := []) (st := []) dX2_countInside_41 cvX2_88 rfl rfl rfl rfl (Nat.le_of_ble_eq_true rfl) h (fun r M6 h => ?_)
  obtain ⟨v5, rfl, h⟩ := h
  refine r_iload_n dX2_countInside_44 rfl rfl ?_
  refine r_callN (as := [.int v2]) (st := [.int v5]) dX2_countInside_45 cnX2_91 rfl rfl (Nat.le_of_ble_eq_true rfl) h (fun r M7 h => ?_)
  obtain ⟨v6, rfl, h⟩ := h
  refine r_isub dX2_countInside_48 ?_
  refine r_iconst (v := J 1) dX2_countInside_49 rfl ?_
  refine r_iadd dX2_countInside_50 ?_
  refine r_istore dX2_countInside_51 (by decide) rfl ?_
  refine r_iconst (v := J 0) dX2_countInside_53 rfl ?_
  refine r_istore dX2_countInside_54 (by decide) rfl ?_
  refine r_iconst (v := J 0) dX2_countInside_56 rfl ?_
  refine r_istore dX2_countInside_57 (by decide) rfl ?_
  refine r_kill [false, true, true, false, false, false, false, false] rfl ?_
  exact h
set_option maxRecDepth 100000 in
set_option maxHeartbeats 4000000 in
theorem b_X2_countInside_59 {d : Nat} {M : Mem} {Q : Post} {x3 x4 x5 x6 : Int32} (h : ((x4 ≤ x6 → Q (some x5) M) ∧ (¬ x4 ≤ x6 → R none (d + 1) mX2_countInside 69 [.ref 2, .null, .null, .int x3, .int x4, .int x5, .int x6, .int (J 0)] [] M Q))) : R none (d + 1) mX2_countInside 59 [.ref 2, .null, .null, .int x3, .int x4, .int x5, .int x6, .null] [] M Q := by
  refine r_iload dX2_countInside_59 rfl ?_
  refine r_iload dX2_countInside_61 rfl ?_
  refine r_icmp_ge (tgt := 114) dX2_countInside_63 (by decide) (fun c_63 => ?_) (fun c_63 => ?_)
  · replace h := h.1 c_63
    refine r_iload dX2_countInside_114 rfl ?_
    exact r_ret dX2_countInside_116 rfl rfl h
  · replace h := h.2 c_63
    refine r_iconst (v := J 0) dX2_countInside_66 rfl ?_
    refine r_istore dX2_countInside_67 (by decide) rfl ?_
    exact h
set_option maxRecDepth 100000 in
set_option maxHeartbeats 4000000 in
theorem b_X2_countInside_69 {d : Nat} {M : Mem} {Q : Post} {x3 x4 x5 x6 x7 : Int32} (h : ((x3 ≤ x7 → R none (d + 1) mX2_countInside 59 [.ref 2, .null, .null, .int x3, .int x4, .int x5, .int (x6 + J 1), .null] [] M Q) ∧ (¬ x3 ≤ x7 → (Mt d mX2_placeAt [.int x7, .int x6] M (ri fun v1 M1 => (Mt d mX2_isMarked [.ref 10, .int v1] M1 (ri fun v2 M2 => ((v2 = 0 → R none (d + 1) mX2_countInside 69 [.ref 2, .null, .null, .int x3, .int x4, .int (x5 + (J 0)), .int x6, .int (x7 + J 1)] [] M2 Q) ∧ (¬ v2 = 0 → R none (d + 1) mX2_countInside 69 [.ref 2, .null, .null, .int x3, .int x4, .int (x5 + (J 1)), .int x6, .int (x7 + J 1)] [] M2 Q))))))))) : R none (d + 1) mX2_countInside 69 [.ref 2, .null, .null, .int x3, .int x4, .int x5, .int x6, .int x7] [] M Q := by
  refine r_iload dX2_countInside_69 rfl ?_
  refine r_iload_n dX2_countInside_71 rfl rfl ?_
  refine r_icmp_ge (tgt := 108) dX2_countInside_72 (by decide) (fun c_72 => ?_) (fun c_72 => ?_)
  · replace h := h.1 c_72
    refine r_iinc (v := J 1) dX2_countInside_108 rfl rfl (by decide) rfl ?_
    refine r_goto (tgt := 59) dX2_countInside_111 (by decide) ?_
    refine r_kill [false, false, false, false, false, false, false, true] rfl ?_
    exact h
  · replace h := h.2 c_72
    refine r_iload dX2_countInside_75 rfl ?_
    refine r_aload_n dX2_countInside_77 rfl rfl ?_
    refine r_getR dX2_countInside_78 flX2_15 rfl rfl ?_
    refine r_iload dX2_countInside_81 rfl ?_
    refine r_iload dX2_countInside_83 rfl ?_
    refine r_callS (as := [.int x7, .int x6]) (st := [.ref 10, .int x5]) dX2_countInside_85 csX2_51 rfl rfl (Nat.le_of_ble_eq_true rfl) h (fun r M1 h => ?_)
    obtain ⟨v1, rfl, h⟩ := h
    refine r_callS (as := [.ref 10, .int v1]) (st := [.int x5]) dX2_countInside_88 csX2_55 rfl rfl (Nat.le_of_ble_eq_true rfl) h (fun r M2 h => ?_)
    obtain ⟨v2, rfl, h⟩ := h
    refine r_if_eq (tgt := 98) dX2_countInside_91 (by decide) (fun c_91 => ?_) (fun c_91 => ?_)
    · replace h := h.1 c_91
      refine r_iconst (v := J 0) dX2_countInside_98 rfl ?_
      refine r_iadd dX2_countInside_99 ?_
      refine r_istore dX2_countInside_100 (by decide) rfl ?_
      refine r_iinc (v := J 1) dX2_countInside_102 rfl rfl (by decide) rfl ?_
      refine r_goto (tgt := 69) dX2_countInside_105 (by decide) ?_
      exact h
    · replace h := h.2 c_91
      refine r_iconst (v := J 1) dX2_countInside_94 rfl ?_
      refine r_goto (tgt := 99) dX2_countInside_95 (by decide) ?_
      refine r_iadd dX2_countInside_99 ?_
      refine r_istore dX2_countInside_100 (by decide) rfl ?_
      refine r_iinc (v := J 1) dX2_countInside_102 rfl rfl (by decide) rfl ?_
      refine r_goto (tgt := 69) dX2_countInside_105 (by decide) ?_
      exact h
theorem e_X2_countInside {d : Nat} {M : Mem} {Q : Post} {x1 : Int32} (h : (Mt d mX3_lyingBeside [.ref 1, .int x1] M (ri fun v1 M1 => (Mt d mX2_survey [.ref 2, .int x1, .int v1] M1 (rn fun M2 => (Mt d mX3_shapeOf [.ref 1, .int x1] M2 (ri fun v2 M3 => (Mt d mX3_columnCount [.ref 1] M3 (ri fun v3 M4 => (Mt d mX4_columnsOf [.int v2] M4 (ri fun v4 M5 => (Mt d mX3_rowCount [.ref 1] M5 (ri fun v5 M6 => (Mt d mX4_rowsOf [.int v2] M6 (ri fun v6 M7 => R none (d + 1) mX2_countInside 59 [.ref 2, .null, .null, .int ((v3 - v4) + (J 1)), .int ((v5 - v6) + (J 1)), .int (J 0), .int (J 0), .null] [] M7 Q))))))))))))))) : Mt (d + 1) mX2_countInside [.ref 2, .int x1] M Q := Mt.of (k := 6) (by decide +kernel) (okR (okI okN)) (Nat.le_of_ble_eq_true rfl) rfl (b_X2_countInside_0 h)
set_option maxRecDepth 100000 in
set_option maxHeartbeats 4000000 in
theorem b_X2_countRooms_0 {d : Nat} {M : Mem} {Q : Post} {x1 : Int32} (h : (Mt d mX3_lyingBeside [.ref 1, .int x1] M (ri fun v1 M1 => (Mt d mX2_survey [.ref 2, .int x1, .int v1] M1 (rn fun M2 => R none (d + 1) mX2_countRooms 15 [.ref 2, .null, .int (J 0), .null, .null] [] M2 Q))))) : R none (d + 1) mX2_countRooms 0 [.ref 2, .int x1, .null, .null, .null] [] M Q := by
  refine r_aload_n dX2_countRooms_0 rfl rfl ?_
  refine r_iload_n dX2_countRooms_1 rfl rfl ?_
  refine r_aload_n dX2_countRooms_2 rfl rfl ?_
  refine r_getR dX2_countRooms_3 flX2_37 rfl rfl ?_
  refine r_iload_n dX2_countRooms_6 rfl rfl ?_
  refine r_callV (as := [.int x1]) (st := [.int x1, .ref 2]) dX2_countRooms_7 cvX2_41 rfl rfl rfl rfl (Nat.le_of_ble_eq_true rfl) h (fun r M1 h => ?_)
  obtain ⟨v1, rfl, h⟩ := h
  refine r_callV (as := [.int x1, .int v1]) (st := []) dX2_countRooms_10 cvX2_47 rfl rfl rfl rfl (Nat.le_of_ble_eq_true rfl) h (fun r M2 h => ?_)
  obtain ⟨rfl, h⟩ := h
  refine r_iconst (v := J 0) dX2_countRooms_13 rfl ?_
  refine r_istore_n dX2_countRooms_14 rfl (by decide) rfl ?_
  refine r_kill [false, true, false, false, false] rfl ?_
  exact h
set_option maxRecDepth 100000 in
set_option maxHeartbeats 4000000 in
theorem b_X2_countRooms_15 {d : Nat} {M : Mem} {Q : Post} {x2 : Int32} (h : (((J 400) ≤ x2 → (Mt d mX2_spreadFrom [.ref 2, .int (J 0)] M (rn fun M1 => R none (d + 1) mX2_countRooms 54 [.ref 2, .null, .int (J 0), .int (J 0), .null] [] M1 Q))) ∧ (¬ (J 400) ≤ x2 → (Mt d mX2_isMarked [.ref 11, .int x2] M (ri fun v1 M2 => ((v1 = 0 → R none (d + 1) mX2_countRooms 15 [.ref 2, .null, .int (x2 + J 1), .null, .null] [] M2 Q) ∧ (¬ v1 = 0 → (Mt d mX2_reach [.ref 2, .int x2, .int (J 0)] M2 (rn fun M3 => R none (d + 1) mX2_countRooms 15 [.ref 2, .null, .int (x2 + J 1), .null, .null] [] M3 Q))))))))) : R none (d + 1) mX2_countRooms 15 [.ref 2, .null, .int x2, .null, .null] [] M Q := by
  refine r_iload_n dX2_countRooms_15 rfl rfl ?_
  refine r_sipush (v := J 400) dX2_countRooms_16 (by decide +kernel) ?_
  refine r_icmp_ge (tgt := 45) dX2_countRooms_19 (by decide) (fun c_19 => ?_) (fun c_19 => ?_)
  · replace h := h.1 c_19
    refine r_aload_n dX2_countRooms_45 rfl rfl ?_
    refine r_iconst (v := J 0) dX2_countRooms_46 rfl ?_
    refine r_callV (as := [.int (J 0)]) (st := []) dX2_countRooms_47 cvX2_68 rfl rfl rfl rfl (Nat.le_of_ble_eq_true rfl) h (fun r M1 h => ?_)
    obtain ⟨rfl, h⟩ := h
    refine r_iconst (v := J 0) dX2_countRooms_50 rfl ?_
    refine r_istore_n dX2_countRooms_51 rfl (by decide) rfl ?_
    refine r_iconst (v := J 0) dX2_countRooms_52 rfl ?_
    refine r_istore_n dX2_countRooms_53 rfl (by decide) rfl ?_
    exact h
  · replace h := h.2 c_19
    refine r_aload_n dX2_countRooms_22 rfl rfl ?_
    refine r_getR dX2_countRooms_23 flX2_18 rfl rfl ?_
    refine r_iload_n dX2_countRooms_26 rfl rfl ?_
    refine r_callS (as := [.ref 11, .int x2]) (st := []) dX2_countRooms_27 csX2_55 rfl rfl (Nat.le_of_ble_eq_true rfl) h (fun r M2 h => ?_)
    obtain ⟨v1, rfl, h⟩ := h
    refine r_if_eq (tgt := 39) dX2_countRooms_30 (by decide) (fun c_30 => ?_) (fun c_30 => ?_)
    · replace h := h.1 c_30
      refine r_iinc (v := J 1) dX2_countRooms_39 rfl rfl (by decide) rfl ?_
      refine r_goto (tgt := 15) dX2_countRooms_42 (by decide) ?_
      exact h
    · replace h := h.2 c_30
      refine r_aload_n dX2_countRooms_33 rfl rfl ?_
      refine r_iload_n dX2_countRooms_34 rfl rfl ?_
      refine r_iconst (v := J 0) dX2_countRooms_35 rfl ?_
      refine r_callV (as := [.int x2, .int (J 0)]) (st := []) dX2_countRooms_36 cvX2_65 rfl rfl rfl rfl (Nat.le_of_ble_eq_true rfl) h (fun r M3 h => ?_)
      obtain ⟨rfl, h⟩ := h
      refine r_iinc (v := J 1) dX2_countRooms_39 rfl rfl (by decide) rfl ?_
      refine r_goto (tgt := 15) dX2_countRooms_42 (by decide) ?_
      exact h
set_option maxRecDepth 100000 in
set_option maxHeartbeats 4000000 in
theorem b_X2_countRooms_54 {d : Nat} {M : Mem} {Q : Post} {x2 x3 : Int32} (h : (((J 400) ≤ x3 → Q (some x2) M) ∧ (¬ (J 400) ≤ x3 → (Mt d mX2_reach [.ref 2, .int x3, .int (J 0)] M (rn fun M1 => (((M1 2 6) ≤ (M 2 6) → R none (d + 1) mX2_countRooms 54 [.ref 2, .null, .int x2, .int (x3 + J 1), .null] [] M1 Q) ∧ (¬ (M1 2 6) ≤ (M 2 6) → (Mt d mX2_spreadFrom [.ref 2, .int (M 2 6)] M1 (rn fun M2 => R none (d + 1) mX2_countRooms 54 [.ref 2, .null, .int (x2 + J 1), .int (x3 + J 1), .null] [] M2 Q))))))))) : R none (d + 1) mX2_countRooms 54 [.ref 2, .null, .int x2, .int x3, .null] [] M Q := by
  refine r_iload_n dX2_countRooms_54 rfl rfl ?_
  refine r_sipush (v := J 400) dX2_countRooms_55 (by decide +kernel) ?_
  refine r_icmp_ge (tgt := 97) dX2_countRooms_58 (by decide) (fun c_58 => ?_) (fun c_58 => ?_)
  · replace h := h.1 c_58
    refine r_iload_n dX2_countRooms_97 rfl rfl ?_
    exact r_ret dX2_countRooms_98 rfl rfl h
  · replace h := h.2 c_58
    refine r_aload_n dX2_countRooms_61 rfl rfl ?_
    refine r_getI dX2_countRooms_62 flX2_27 rfl rfl ?_
    refine r_istore dX2_countRooms_65 (by decide) rfl ?_
    refine r_aload_n dX2_countRooms_67 rfl rfl ?_
    refine r_iload_n dX2_countRooms_68 rfl rfl ?_
    refine r_iconst (v := J 0) dX2_countRooms_69 rfl ?_
    refine r_callV (as := [.int x3, .int (J 0)]) (st := []) dX2_countRooms_70 cvX2_65 rfl rfl rfl rfl (Nat.le_of_ble_eq_true rfl) h (fun r M1 h => ?_)
    obtain ⟨rfl, h⟩ := h
    refine r_aload_n dX2_countRooms_73 rfl rfl ?_
    refine r_getI dX2_countRooms_74 flX2_27 rfl rfl ?_
    refine r_iload dX2_countRooms_77 rfl ?_
    refine r_icmp_le (tgt := 91) dX2_countRooms_79 (by decide) (fun c_79 => ?_) (fun c_79 => ?_)
    · replace h := h.1 c_79
      refine r_iinc (v := J 1) dX2_countRooms_91 rfl rfl (by decide) rfl ?_
      refine r_goto (tgt := 54) dX2_countRooms_94 (by decide) ?_
      refine r_kill [false, false, false, false, true] rfl ?_
      exact h
    · replace h := h.2 c_79
      refine r_iinc (v := J 1) dX2_countRooms_82 rfl rfl (by decide) rfl ?_
      refine r_aload_n dX2_countRooms_85 rfl rfl ?_
      refine r_iload dX2_countRooms_86 rfl ?_
      refine r_callV (as := [.int (M 2 6)]) (st := []) dX2_countRooms_88 cvX2_68 rfl rfl rfl rfl (Nat.le_of_ble_eq_true rfl) h (fun r M2 h => ?_)
      obtain ⟨rfl, h⟩ := h
      refine r_iinc (v := J 1) dX2_countRooms_91 rfl rfl (by decide) rfl ?_
      refine r_goto (tgt := 54) dX2_countRooms_94 (by decide) ?_
      refine r_kill [false, false, false, false, true] rfl ?_
      exact h
theorem e_X2_countRooms {d : Nat} {M : Mem} {Q : Post} {x1 : Int32} (h : (Mt d mX3_lyingBeside [.ref 1, .int x1] M (ri fun v1 M1 => (Mt d mX2_survey [.ref 2, .int x1, .int v1] M1 (rn fun M2 => R none (d + 1) mX2_countRooms 15 [.ref 2, .null, .int (J 0), .null, .null] [] M2 Q))))) : Mt (d + 1) mX2_countRooms [.ref 2, .int x1] M Q := Mt.of (k := 3) (by decide +kernel) (okR (okI okN)) (Nat.le_of_ble_eq_true rfl) rfl (b_X2_countRooms_0 h)
set_option maxRecDepth 100000 in
set_option maxHeartbeats 4000000 in
theorem b_X2_keepSteps_0 {d : Nat} {M : Mem} {Q : Post} {x1 x2 : Int32} (h : R none (d + 1) mX2_keepSteps 10 [.ref 2, .null, .int x2, .int x1, .int (J 0), .null] [] (mset M 2 8 x2) Q) : R none (d + 1) mX2_keepSteps 0 [.ref 2, .int x1, .int x2, .null, .null, .null] [] M Q := by
  refine r_iload_n dX2_keepSteps_0 rfl rfl ?_
  refine r_istore_n dX2_keepSteps_1 rfl (by decide) rfl ?_
  refine r_aload_n dX2_keepSteps_2 rfl rfl ?_
  refine r_iload_n dX2_keepSteps_3 rfl rfl ?_
  refine r_putI dX2_keepSteps_4 fwX2_34 rfl rfl ?_
  refine r_iconst (v := J 0) dX2_keepSteps_7 rfl ?_
  refine r_istore dX2_keepSteps_8 (by decide) rfl ?_
  refine r_kill [false, true, false, false, false, false] rfl ?_
  exact h
set_option maxRecDepth 100000 in
set_option maxHeartbeats 4000000 in
theorem b_X2_keepSteps_10 {d : Nat} {M : Mem} {Q : Post} {x2 x3 x4 : Int32} (h : ((x2 ≤ x4 → Q none M) ∧ (¬ x2 ≤ x4 → (((J 400) ≤ x4 → Q none M) ∧ (¬ (J 400) ≤ x4 → (Mt d mX2_directionTo [.ref 2, .int x3, .int ((x2 - x4) - (J 1))] M (ri fun v1 M1 => (vp_in x4 400 ∧ (Mt d mX2_beside [.int x3, .int v1] (mset M1 14 x4.toNatClampNeg v1) (ri fun v2 M2 => R none (d + 1) mX2_keepSteps 10 [.ref 2, .null, .int x2, .int v2, .int (x4 + J 1), .null] [] M2 Q)))))))))) : R none (d + 1) mX2_keepSteps 10 [.ref 2, .null, .int x2, .int x3, .int x4, .null] [] M Q := by
  refine r_iload dX2_keepSteps_10 rfl ?_
  refine r_iload_n dX2_keepSteps_12 rfl rfl ?_
  refine r_icmp_ge (tgt := 61) dX2_keepSteps_13 (by decide) (fun c_13 => ?_) (fun c_13 => ?_)
  · replace h := h.1 c_13
    exact r_vret dX2_keepSteps_61 rfl h
  · replace h := h.2 c_13
    refine r_iload dX2_keepSteps_16 rfl ?_
    refine r_aload_n dX2_keepSteps_18 rfl rfl ?_
    refine r_getR dX2_keepSteps_19 flX2_31 rfl rfl ?_
    refine r_alen (v := J 400) dX2_keepSteps_22 rfl (by decide +kernel) ?_
    refine r_icmp_ge (tgt := 61) dX2_keepSteps_23 (by decide) (fun c_23 => ?_) (fun c_23 => ?_)
    · replace h := h.1 c_23
      exact r_vret dX2_keepSteps_61 rfl h
    · replace h := h.2 c_23
      refine r_aload_n dX2_keepSteps_26 rfl rfl ?_
      refine r_iload_n dX2_keepSteps_27 rfl rfl ?_
      refine r_iload_n dX2_keepSteps_28 rfl rfl ?_
      refine r_iload dX2_keepSteps_29 rfl ?_
      refine r_isub dX2_keepSteps_31 ?_
      refine r_iconst (v := J 1) dX2_keepSteps_32 rfl ?_
      refine r_isub dX2_keepSteps_33 ?_
      refine r_callV (as := [.int x3, .int ((x2 - x4) - (J 1))]) (st := []) dX2_keepSteps_34 cvX2_94 rfl rfl rfl rfl (Nat.le_of_ble_eq_true rfl) h (fun r M1 h => ?_)
      obtain ⟨v1, rfl, h⟩ := h
      refine r_istore dX2_keepSteps_37 (by decide) rfl ?_
      refine r_aload_n dX2_keepSteps_39 rfl rfl ?_
      refine r_getR dX2_keepSteps_40 flX2_31 rfl rfl ?_
      refine r_iload dX2_keepSteps_43 rfl ?_
      refine r_iload dX2_keepSteps_45 rfl ?_
      refine r_iast dX2_keepSteps_47 rfl h.1 ?_
      replace h := h.2
      refine r_iload_n dX2_keepSteps_48 rfl rfl ?_
      refine r_iload dX2_keepSteps_49 rfl ?_
      refine r_callS (as := [.int x3, .int v1]) (st := []) dX2_keepSteps_51 csX2_62 rfl rfl (Nat.le_of_ble_eq_true rfl) h (fun r M2 h => ?_)
      obtain ⟨v2, rfl, h⟩ := h
      refine r_istore_n dX2_keepSteps_54 rfl (by decide) rfl ?_
      refine r_iinc (v := J 1) dX2_keepSteps_55 rfl rfl (by decide) rfl ?_
      refine r_goto (tgt := 10) dX2_keepSteps_58 (by decide) ?_
      refine r_kill [false, false, false, false, false, true] rfl ?_
      exact h
theorem e_X2_keepSteps {d : Nat} {M : Mem} {Q : Post} {x1 x2 : Int32} (h : R none (d + 1) mX2_keepSteps 10 [.ref 2, .null, .int x2, .int x1, .int (J 0), .null] [] (mset M 2 8 x2) Q) : Mt (d + 1) mX2_keepSteps [.ref 2, .int x1, .int x2] M Q := Mt.of (k := 3) (by decide +kernel) (okR (okI (okI okN))) (Nat.le_of_ble_eq_true rfl) rfl (b_X2_keepSteps_0 h)
set_option maxRecDepth 100000 in
set_option maxHeartbeats 4000000 in
theorem b_X2_directionTo_0 {d : Nat} {M : Mem} {Q : Post} {x1 x2 : Int32} (h : R none (d + 1) mX2_directionTo 2 [.ref 2, .int x1, .int x2, .int (J 0)] [] M Q) : R none (d + 1) mX2_directionTo 0 [.ref 2, .int x1, .int x2, .null] [] M Q := by
  refine r_iconst (v := J 0) dX2_directionTo_0 rfl ?_
  refine r_istore_n dX2_directionTo_1 rfl (by decide) rfl ?_
  exact h
set_option maxRecDepth 100000 in
set_option maxHeartbeats 4000000 in
theorem b_X2_directionTo_2 {d : Nat} {M : Mem} {Q : Post} {x1 x2 x3 : Int32} (h : (((J 3) ≤ x3 → Q (some (J 3)) M) ∧ (¬ (J 3) ≤ x3 → (Mt d mX2_beside [.int x1, .int x3] M (ri fun v1 M1 => (Mt d mX2_distanceOf [.ref 2, .int v1] M1 (ri fun v2 M2 => ((¬ v2 = x2 → R none (d + 1) mX2_directionTo 2 [.ref 2, .int x1, .int x2, .int (x3 + J 1)] [] M2 Q) ∧ (v2 = x2 → Q (some x3) M2))))))))) : R none (d + 1) mX2_directionTo 2 [.ref 2, .int x1, .int x2, .int x3] [] M Q := by
  refine r_iload_n dX2_directionTo_2 rfl rfl ?_
  refine r_iconst (v := J 3) dX2_directionTo_3 rfl ?_
  refine r_icmp_ge (tgt := 28) dX2_directionTo_4 (by decide) (fun c_4 => ?_) (fun c_4 => ?_)
  · replace h := h.1 c_4
    refine r_iconst (v := J 3) dX2_directionTo_28 rfl ?_
    exact r_ret dX2_directionTo_29 rfl rfl h
  · replace h := h.2 c_4
    refine r_aload_n dX2_directionTo_7 rfl rfl ?_
    refine r_iload_n dX2_directionTo_8 rfl rfl ?_
    refine r_iload_n dX2_directionTo_9 rfl rfl ?_
    refine r_callS (as := [.int x1, .int x3]) (st := [.ref 2]) dX2_directionTo_10 csX2_62 rfl rfl (Nat.le_of_ble_eq_true rfl) h (fun r M1 h => ?_)
    obtain ⟨v1, rfl, h⟩ := h
    refine r_callV (as := [.int v1]) (st := []) dX2_directionTo_13 cvX2_72 rfl rfl rfl rfl (Nat.le_of_ble_eq_true rfl) h (fun r M2 h => ?_)
    obtain ⟨v2, rfl, h⟩ := h
    refine r_iload_n dX2_directionTo_16 rfl rfl ?_
    refine r_icmp_ne (tgt := 22) dX2_directionTo_17 (by decide) (fun c_17 => ?_) (fun c_17 => ?_)
    · replace h := h.1 c_17
      refine r_iinc (v := J 1) dX2_directionTo_22 rfl rfl (by decide) rfl ?_
      refine r_goto (tgt := 2) dX2_directionTo_25 (by decide) ?_
      exact h
    · replace h := h.2 c_17
      refine r_iload_n dX2_directionTo_20 rfl rfl ?_
      exact r_ret dX2_directionTo_21 rfl rfl h
theorem e_X2_directionTo {d : Nat} {M : Mem} {Q : Post} {x1 x2 : Int32} (h : R none (d + 1) mX2_directionTo 2 [.ref 2, .int x1, .int x2, .int (J 0)] [] M Q) : Mt (d + 1) mX2_directionTo [.ref 2, .int x1, .int x2] M Q := Mt.of (k := 1) (by decide +kernel) (okR (okI (okI okN))) (Nat.le_of_ble_eq_true rfl) rfl (b_X2_directionTo_0 h)
set_option maxRecDepth 100000 in
set_option maxHeartbeats 4000000 in
theorem b_X2_survey_0 {d : Nat} {M : Mem} {Q : Post} {x1 x2 : Int32} (h : (Mt d mX3_shapeOf [.ref 1, .int x1] M (ri fun v1 M1 => R none (d + 1) mX2_survey 12 [.ref 2, .null, .int x2, .int v1, .int (J 0)] [] M1 Q))) : R none (d + 1) mX2_survey 0 [.ref 2, .int x1, .int x2, .null, .null] [] M Q := by
  refine r_aload_n dX2_survey_0 rfl rfl ?_
  refine r_getR dX2_survey_1 flX2_37 rfl rfl ?_
  refine r_iload_n dX2_survey_4 rfl rfl ?_
  refine r_callV (as := [.int x1]) (st := []) dX2_survey_5 cvX2_78 rfl rfl rfl rfl (Nat.le_of_ble_eq_true rfl) h (fun r M1 h => ?_)
  obtain ⟨v1, rfl, h⟩ := h
  refine r_istore_n dX2_survey_8 rfl (by decide) rfl ?_
  refine r_iconst (v := J 0) dX2_survey_9 rfl ?_
  refine r_istore dX2_survey_10 (by decide) rfl ?_
  refine r_kill [false, true, false, false, false] rfl ?_
  exact h
set_option maxRecDepth 100000 in
set_option maxHeartbeats 4000000 in
theorem b_X2_survey_12 {d : Nat} {M : Mem} {Q : Post} {x2 x3 x4 : Int32} (h : (((J 24) ≤ x4 → (Mt d mX2_markClear [.ref 2, .int x3, .ref 10] M (rn fun M1 => R none (d + 1) mX2_survey 73 [.ref 2, .null, .null, .int x3, .int (J 0)] [] M1 Q))) ∧ (¬ (J 24) ≤ x4 → (Mt d mX3_wallSquares [.ref 1, .int (x4 + (J (-6)))] M (ri fun v1 M2 => (Mt d mX3_squaresOfSet [.ref 1, .int x2, .int (x4 + (J (-6)))] M2 (ri fun v2 M3 => (vp_in x4 24 ∧ R none (d + 1) mX2_survey 12 [.ref 2, .null, .int x2, .int x3, .int (x4 + J 1)] [] (mset M3 9 x4.toNatClampNeg (v1 ||| v2)) Q)))))))) : R none (d + 1) mX2_survey 12 [.ref 2, .null, .int x2, .int x3, .int x4] [] M Q := by
  refine r_iload dX2_survey_12 rfl ?_
  refine r_aload_n dX2_survey_14 rfl rfl ?_
  refine r_getR dX2_survey_15 flX2_9 rfl rfl ?_
  refine r_alen (v := J 24) dX2_survey_18 rfl (by decide +kernel) ?_
  refine r_icmp_ge (tgt := 61) dX2_survey_19 (by decide) (fun c_19 => ?_) (fun c_19 => ?_)
  · replace h := h.1 c_19
    refine r_aload_n dX2_survey_61 rfl rfl ?_
    refine r_iload_n dX2_survey_62 rfl rfl ?_
    refine r_aload_n dX2_survey_63 rfl rfl ?_
    refine r_getR dX2_survey_64 flX2_15 rfl rfl ?_
    refine r_callV (as := [.int x3, .ref 10]) (st := []) dX2_survey_67 cvX2_103 rfl rfl rfl rfl (Nat.le_of_ble_eq_true rfl) h (fun r M1 h => ?_)
    obtain ⟨rfl, h⟩ := h
    refine r_iconst (v := J 0) dX2_survey_70 rfl ?_
    refine r_istore dX2_survey_71 (by decide) rfl ?_
    refine r_kill [false, false, true, false, false] rfl ?_
    exact h
  · replace h := h.2 c_19
    refine r_aload_n dX2_survey_22 rfl rfl ?_
    refine r_getR dX2_survey_23 flX2_9 rfl rfl ?_
    refine r_iload dX2_survey_26 rfl ?_
    refine r_aload_n dX2_survey_28 rfl rfl ?_
    refine r_getR dX2_survey_29 flX2_37 rfl rfl ?_
    refine r_iload dX2_survey_32 rfl ?_
    refine r_bipush (v := J (-6)) dX2_survey_34 (by decide +kernel) ?_
    refine r_iadd dX2_survey_36 ?_
    refine r_callV (as := [.int (x4 + (J (-6)))]) (st := [.int x4, .ref 9]) dX2_survey_37 cvX2_97 rfl rfl rfl rfl (Nat.le_of_ble_eq_true rfl) h (fun r M2 h => ?_)
    obtain ⟨v1, rfl, h⟩ := h
    refine r_aload_n dX2_survey_40 rfl rfl ?_
    refine r_getR dX2_survey_41 flX2_37 rfl rfl ?_
    refine r_iload_n dX2_survey_44 rfl rfl ?_
    refine r_iload dX2_survey_45 rfl ?_
    refine r_bipush (v := J (-6)) dX2_survey_47 (by decide +kernel) ?_
    refine r_iadd dX2_survey_49 ?_
    refine r_callV (as := [.int x2, .int (x4 + (J (-6)))]) (st := [.int v1, .int x4, .ref 9]) dX2_survey_50 cvX2_100 rfl rfl rfl rfl (Nat.le_of_ble_eq_true rfl) h (fun r M3 h => ?_)
    obtain ⟨v2, rfl, h⟩ := h
    refine r_ior dX2_survey_53 ?_
    refine r_iast dX2_survey_54 rfl h.1 ?_
    replace h := h.2
    refine r_iinc (v := J 1) dX2_survey_55 rfl rfl (by decide) rfl ?_
    refine r_goto (tgt := 12) dX2_survey_58 (by decide) ?_
    exact h
set_option maxRecDepth 100000 in
set_option maxHeartbeats 4000000 in
theorem b_X2_survey_73 {d : Nat} {M : Mem} {Q : Post} {x3 x4 : Int32} (h : (((J 24) ≤ x4 → (Mt d mX2_markClear [.ref 2, .int x3, .ref 11] M (rn fun M1 => R none (d + 1) mX2_survey 125 [.ref 2, .null, .null, .null, .int (J 0)] [] (mset M1 2 6 (J 0)) Q))) ∧ (¬ (J 24) ≤ x4 → (Mt d mX3_boardSquares [.ref 1, .int (x4 + (J (-6)))] M (ri fun v1 M2 => (vp_in x4 24 ∧ R none (d + 1) mX2_survey 73 [.ref 2, .null, .null, .int x3, .int (x4 + J 1)] [] (mset M2 9 x4.toNatClampNeg v1) Q)))))) : R none (d + 1) mX2_survey 73 [.ref 2, .null, .null, .int x3, .int x4] [] M Q := by
  refine r_iload dX2_survey_73 rfl ?_
  refine r_aload_n dX2_survey_75 rfl rfl ?_
  refine r_getR dX2_survey_76 flX2_9 rfl rfl ?_
  refine r_alen (v := J 24) dX2_survey_79 rfl (by decide +kernel) ?_
  refine r_icmp_ge (tgt := 108) dX2_survey_80 (by decide) (fun c_80 => ?_) (fun c_80 => ?_)
  · replace h := h.1 c_80
    refine r_aload_n dX2_survey_108 rfl rfl ?_
    refine r_iload_n dX2_survey_109 rfl rfl ?_
    refine r_aload_n dX2_survey_110 rfl rfl ?_
    refine r_getR dX2_survey_111 flX2_18 rfl rfl ?_
    refine r_callV (as := [.int x3, .ref 11]) (st := []) dX2_survey_114 cvX2_103 rfl rfl rfl rfl (Nat.le_of_ble_eq_true rfl) h (fun r M1 h => ?_)
    obtain ⟨rfl, h⟩ := h
    refine r_aload_n dX2_survey_117 rfl rfl ?_
    refine r_iconst (v := J 0) dX2_survey_118 rfl ?_
    refine r_putI dX2_survey_119 fwX2_27 rfl rfl ?_
    refine r_iconst (v := J 0) dX2_survey_122 rfl ?_
    refine r_istore dX2_survey_123 (by decide) rfl ?_
    refine r_kill [false, false, false, true, false] rfl ?_
    exact h
  · replace h := h.2 c_80
    refine r_aload_n dX2_survey_83 rfl rfl ?_
    refine r_getR dX2_survey_84 flX2_9 rfl rfl ?_
    refine r_iload dX2_survey_87 rfl ?_
    refine r_aload_n dX2_survey_89 rfl rfl ?_
    refine r_getR dX2_survey_90 flX2_37 rfl rfl ?_
    refine r_iload dX2_survey_93 rfl ?_
    refine r_bipush (v := J (-6)) dX2_survey_95 (by decide +kernel) ?_
    refine r_iadd dX2_survey_97 ?_
    refine r_callV (as := [.int (x4 + (J (-6)))]) (st := [.int x4, .ref 9]) dX2_survey_98 cvX2_107 rfl rfl rfl rfl (Nat.le_of_ble_eq_true rfl) h (fun r M2 h => ?_)
    obtain ⟨v1, rfl, h⟩ := h
    refine r_iast dX2_survey_101 rfl h.1 ?_
    replace h := h.2
    refine r_iinc (v := J 1) dX2_survey_102 rfl rfl (by decide) rfl ?_
    refine r_goto (tgt := 73) dX2_survey_105 (by decide) ?_
    exact h
set_option maxRecDepth 100000 in
set_option maxHeartbeats 4000000 in
theorem b_X2_survey_125 {d : Nat} {M : Mem} {Q : Post} {x4 : Int32} (h : (((J 400) ≤ x4 → Q none M) ∧ (¬ (J 400) ≤ x4 → (vp_in x4 400 ∧ R none (d + 1) mX2_survey 125 [.ref 2, .null, .null, .null, .int (x4 + J 1)] [] (mset M 12 x4.toNatClampNeg (J (-4))) Q)))) : R none (d + 1) mX2_survey 125 [.ref 2, .null, .null, .null, .int x4] [] M Q := by
  refine r_iload dX2_survey_125 rfl ?_
  refine r_aload_n dX2_survey_127 rfl rfl ?_
  refine r_getR dX2_survey_128 flX2_21 rfl rfl ?_
  refine r_alen (v := J 400) dX2_survey_131 rfl (by decide +kernel) ?_
  refine r_icmp_ge (tgt := 150) dX2_survey_132 (by decide) (fun c_132 => ?_) (fun c_132 => ?_)
  · replace h := h.1 c_132
    exact r_vret dX2_survey_150 rfl h
  · replace h := h.2 c_132
    refine r_aload_n dX2_survey_135 rfl rfl ?_
    refine r_getR dX2_survey_136 flX2_21 rfl rfl ?_
    refine r_iload dX2_survey_139 rfl ?_
    refine r_bipush (v := J (-4)) dX2_survey_141 (by decide +kernel) ?_
    refine r_iast dX2_survey_143 rfl h.1 ?_
    replace h := h.2
    refine r_iinc (v := J 1) dX2_survey_144 rfl rfl (by decide) rfl ?_
    refine r_goto (tgt := 125) dX2_survey_147 (by decide) ?_
    exact h
theorem e_X2_survey {d : Nat} {M : Mem} {Q : Post} {x1 x2 : Int32} (h : (Mt d mX3_shapeOf [.ref 1, .int x1] M (ri fun v1 M1 => R none (d + 1) mX2_survey 12 [.ref 2, .null, .int x2, .int v1, .int (J 0)] [] M1 Q))) : Mt (d + 1) mX2_survey [.ref 2, .int x1, .int x2] M Q := Mt.of (k := 2) (by decide +kernel) (okR (okI (okI okN))) (Nat.le_of_ble_eq_true rfl) rfl (b_X2_survey_0 h)
set_option maxRecDepth 100000 in
set_option maxHeartbeats 4000000 in
theorem b_X2_markClear_o_0 {d : Nat} {M : Mem} {Q : Post} {x1 : Int32} (h : R none (d + 1) mX2_markClear 2 [.ref 2, .int x1, .ref 10, .int (J 0), .null, .null] [] M Q) : R none (d + 1) mX2_markClear 0 [.ref 2, .int x1, .ref 10, .null, .null, .null] [] M Q := by
  refine r_iconst (v := J 0) dX2_markClear_0 rfl ?_
  refine r_istore_n dX2_markClear_1 rfl (by decide) rfl ?_
  exact h
set_option maxRecDepth 100000 in
set_option maxHeartbeats 4000000 in
theorem b_X2_markClear_o_2 {d : Nat} {M : Mem} {Q : Post} {x1 x3 : Int32} (h : (((J 20) ≤ x3 → Q none M) ∧ (¬ (J 20) ≤ x3 → R none (d + 1) mX2_markClear 14 [.ref 2, .int x1, .ref 10, .int x3, .int (J 0), .int (J 0)] [] M Q))) : R none (d + 1) mX2_markClear 2 [.ref 2, .int x1, .ref 10, .int x3, .null, .null] [] M Q := by
  refine r_iload_n dX2_markClear_2 rfl rfl ?_
  refine r_aload_n dX2_markClear_3 rfl rfl ?_
  refine r_alen (v := J 20) dX2_markClear_4 rfl (by decide +kernel) ?_
  refine r_icmp_ge (tgt := 77) dX2_markClear_5 (by decide) (fun c_5 => ?_) (fun c_5 => ?_)
  · replace h := h.1 c_5
    exact r_vret dX2_markClear_77 rfl h
  · replace h := h.2 c_5
    refine r_iconst (v := J 0) dX2_markClear_8 rfl ?_
    refine r_istore dX2_markClear_9 (by decide) rfl ?_
    refine r_iconst (v := J 0) dX2_markClear_11 rfl ?_
    refine r_istore dX2_markClear_12 (by decide) rfl ?_
    exact h
set_option maxRecDepth 100000 in
set_option maxHeartbeats 4000000 in
theorem b_X2_markClear_o_14 {d : Nat} {M : Mem} {Q : Post} {x1 x3 x4 x5 : Int32} (h : (((J 5) ≤ x5 → (vp_in x3 20 ∧ R none (d + 1) mX2_markClear 2 [.ref 2, .int x1, .ref 10, .int (x3 + J 1), .null, .null] [] (mset M 10 x3.toNatClampNeg ((x4 ^^^ (J (-1))) &&& (J 1048575))) Q)) ∧ (¬ (J 5) ≤ x5 → (((J 24) ≤ (x3 + x5) → (vp_in x3 20 ∧ R none (d + 1) mX2_markClear 2 [.ref 2, .int x1, .ref 10, .int (x3 + J 1), .null, .null] [] (mset M 10 x3.toNatClampNeg ((x4 ^^^ (J (-1))) &&& (J 1048575))) Q)) ∧ (¬ (J 24) ≤ (x3 + x5) → (Mt d mX4_rowOf [.int x1, .int x5] M (ri fun v1 M1 => (vp_in (x3 + x5) 24 ∧ (Mt d mX2_hitPlaces [.int v1, .int (M1 9 (x3 + x5).toNatClampNeg)] M1 (ri fun v2 M2 => R none (d + 1) mX2_markClear 14 [.ref 2, .int x1, .ref 10, .int x3, .int (x4 ||| v2), .int (x5 + J 1)] [] M2 Q)))))))))) : R none (d + 1) mX2_markClear 14 [.ref 2, .int x1, .ref 10, .int x3, .int x4, .int x5] [] M Q := by
  refine r_iload dX2_markClear_14 rfl ?_
  refine r_iconst (v := J 5) dX2_markClear_16 rfl ?_
  refine r_icmp_ge (tgt := 61) dX2_markClear_17 (by decide) (fun c_17 => ?_) (fun c_17 => ?_)
  · replace h := h.1 c_17
    refine r_aload_n dX2_markClear_61 rfl rfl ?_
    refine r_iload_n dX2_markClear_62 rfl rfl ?_
    refine r_iload dX2_markClear_63 rfl ?_
    refine r_iconst (v := J (-1)) dX2_markClear_65 rfl ?_
    refine r_ixor dX2_markClear_66 ?_
    refine r_ldc dX2_markClear_67 kcX2_116 ?_
    refine r_iand dX2_markClear_69 ?_
    refine r_iast dX2_markClear_70 rfl h.1 ?_
    replace h := h.2
    refine r_iinc (v := J 1) dX2_markClear_71 rfl rfl (by decide) rfl ?_
    refine r_goto (tgt := 2) dX2_markClear_74 (by decide) ?_
    refine r_kill [false, false, false, false, true, true] rfl ?_
    exact h
  · replace h := h.2 c_17
    refine r_iload_n dX2_markClear_20 rfl rfl ?_
    refine r_iload dX2_markClear_21 rfl ?_
    refine r_iadd dX2_markClear_23 ?_
    refine r_aload_n dX2_markClear_24 rfl rfl ?_
    refine r_getR dX2_markClear_25 flX2_9 rfl rfl ?_
    refine r_alen (v := J 24) dX2_markClear_28 rfl (by decide +kernel) ?_
    refine r_icmp_ge (tgt := 61) dX2_markClear_29 (by decide) (fun c_29 => ?_) (fun c_29 => ?_)
    · replace h := h.1 c_29
      refine r_aload_n dX2_markClear_61 rfl rfl ?_
      refine r_iload_n dX2_markClear_62 rfl rfl ?_
      refine r_iload dX2_markClear_63 rfl ?_
      refine r_iconst (v := J (-1)) dX2_markClear_65 rfl ?_
      refine r_ixor dX2_markClear_66 ?_
      refine r_ldc dX2_markClear_67 kcX2_116 ?_
      refine r_iand dX2_markClear_69 ?_
      refine r_iast dX2_markClear_70 rfl h.1 ?_
      replace h := h.2
      refine r_iinc (v := J 1) dX2_markClear_71 rfl rfl (by decide) rfl ?_
      refine r_goto (tgt := 2) dX2_markClear_74 (by decide) ?_
      refine r_kill [false, false, false, false, true, true] rfl ?_
      exact h
    · replace h := h.2 c_29
      refine r_iload dX2_markClear_32 rfl ?_
      refine r_iload_n dX2_markClear_34 rfl rfl ?_
      refine r_iload dX2_markClear_35 rfl ?_
      refine r_callN (as := [.int x1, .int x5]) (st := [.int x4]) dX2_markClear_37 cnX2_110 rfl rfl (Nat.le_of_ble_eq_true rfl) h (fun r M1 h => ?_)
      obtain ⟨v1, rfl, h⟩ := h
      refine r_aload_n dX2_markClear_40 rfl rfl ?_
      refine r_getR dX2_markClear_41 flX2_9 rfl rfl ?_
      refine r_iload_n dX2_markClear_44 rfl rfl ?_
      refine r_iload dX2_markClear_45 rfl ?_
      refine r_iadd dX2_markClear_47 ?_
      refine r_iald dX2_markClear_48 rfl h.1 ?_
      replace h := h.2
      refine r_callS (as := [.int v1, .int (M1 9 (x3 + x5).toNatClampNeg)]) (st := [.int x4]) dX2_markClear_49 csX2_113 rfl rfl (Nat.le_of_ble_eq_true rfl) h (fun r M2 h => ?_)
      obtain ⟨v2, rfl, h⟩ := h
      refine r_ior dX2_markClear_52 ?_
      refine r_istore dX2_markClear_53 (by decide) rfl ?_
      refine r_iinc (v := J 1) dX2_markClear_55 rfl rfl (by decide) rfl ?_
      refine r_goto (tgt := 14) dX2_markClear_58 (by decide) ?_
      exact h
theorem e_X2_markClear_o {d : Nat} {M : Mem} {Q : Post} {x1 : Int32} (h : R none (d + 1) mX2_markClear 2 [.ref 2, .int x1, .ref 10, .int (J 0), .null, .null] [] M Q) : Mt (d + 1) mX2_markClear [.ref 2, .int x1, .ref 10] M Q := Mt.of (k := 3) (by decide +kernel) (okR (okI (okR okN))) (Nat.le_of_ble_eq_true rfl) rfl (b_X2_markClear_o_0 h)
set_option maxRecDepth 100000 in
set_option maxHeartbeats 4000000 in
theorem b_X2_markClear_u_0 {d : Nat} {M : Mem} {Q : Post} {x1 : Int32} (h : R none (d + 1) mX2_markClear 2 [.ref 2, .int x1, .ref 11, .int (J 0), .null, .null] [] M Q) : R none (d + 1) mX2_markClear 0 [.ref 2, .int x1, .ref 11, .null, .null, .null] [] M Q := by
  refine r_iconst (v := J 0) dX2_markClear_0 rfl ?_
  refine r_istore_n dX2_markClear_1 rfl (by decide) rfl ?_
  exact h
set_option maxRecDepth 100000 in
set_option maxHeartbeats 4000000 in
theorem b_X2_markClear_u_2 {d : Nat} {M : Mem} {Q : Post} {x1 x3 : Int32} (h : (((J 20) ≤ x3 → Q none M) ∧ (¬ (J 20) ≤ x3 → R none (d + 1) mX2_markClear 14 [.ref 2, .int x1, .ref 11, .int x3, .int (J 0), .int (J 0)] [] M Q))) : R none (d + 1) mX2_markClear 2 [.ref 2, .int x1, .ref 11, .int x3, .null, .null] [] M Q := by
  refine r_iload_n dX2_markClear_2 rfl rfl ?_
  refine r_aload_n dX2_markClear_3 rfl rfl ?_
  refine r_alen (v := J 20) dX2_markClear_4 rfl (by decide +kernel) ?_
  refine r_icmp_ge (tgt := 77) dX2_markClear_5 (by decide) (fun c_5 => ?_) (fun c_5 => ?_)
  · replace h := h.1 c_5
    exact r_vret dX2_markClear_77 rfl h
  · replace h := h.2 c_5
    refine r_iconst (v := J 0) dX2_markClear_8 rfl ?_
    refine r_istore dX2_markClear_9 (by decide) rfl ?_
    refine r_iconst (v := J 0) dX2_markClear_11 rfl ?_
    refine r_istore dX2_markClear_12 (by decide) rfl ?_
    exact h
set_option maxRecDepth 100000 in
set_option maxHeartbeats 4000000 in
theorem b_X2_markClear_u_14 {d : Nat} {M : Mem} {Q : Post} {x1 x3 x4 x5 : Int32} (h : (((J 5) ≤ x5 → (vp_in x3 20 ∧ R none (d + 1) mX2_markClear 2 [.ref 2, .int x1, .ref 11, .int (x3 + J 1), .null, .null] [] (mset M 11 x3.toNatClampNeg ((x4 ^^^ (J (-1))) &&& (J 1048575))) Q)) ∧ (¬ (J 5) ≤ x5 → (((J 24) ≤ (x3 + x5) → (vp_in x3 20 ∧ R none (d + 1) mX2_markClear 2 [.ref 2, .int x1, .ref 11, .int (x3 + J 1), .null, .null] [] (mset M 11 x3.toNatClampNeg ((x4 ^^^ (J (-1))) &&& (J 1048575))) Q)) ∧ (¬ (J 24) ≤ (x3 + x5) → (Mt d mX4_rowOf [.int x1, .int x5] M (ri fun v1 M1 => (vp_in (x3 + x5) 24 ∧ (Mt d mX2_hitPlaces [.int v1, .int (M1 9 (x3 + x5).toNatClampNeg)] M1 (ri fun v2 M2 => R none (d + 1) mX2_markClear 14 [.ref 2, .int x1, .ref 11, .int x3, .int (x4 ||| v2), .int (x5 + J 1)] [] M2 Q)))))))))) : R none (d + 1) mX2_markClear 14 [.ref 2, .int x1, .ref 11, .int x3, .int x4, .int x5] [] M Q := by
  refine r_iload dX2_markClear_14 rfl ?_
  refine r_iconst (v := J 5) dX2_markClear_16 rfl ?_
  refine r_icmp_ge (tgt := 61) dX2_markClear_17 (by decide) (fun c_17 => ?_) (fun c_17 => ?_)
  · replace h := h.1 c_17
    refine r_aload_n dX2_markClear_61 rfl rfl ?_
    refine r_iload_n dX2_markClear_62 rfl rfl ?_
    refine r_iload dX2_markClear_63 rfl ?_
    refine r_iconst (v := J (-1)) dX2_markClear_65 rfl ?_
    refine r_ixor dX2_markClear_66 ?_
    refine r_ldc dX2_markClear_67 kcX2_116 ?_
    refine r_iand dX2_markClear_69 ?_
    refine r_iast dX2_markClear_70 rfl h.1 ?_
    replace h := h.2
    refine r_iinc (v := J 1) dX2_markClear_71 rfl rfl (by decide) rfl ?_
    refine r_goto (tgt := 2) dX2_markClear_74 (by decide) ?_
    refine r_kill [false, false, false, false, true, true] rfl ?_
    exact h
  · replace h := h.2 c_17
    refine r_iload_n dX2_markClear_20 rfl rfl ?_
    refine r_iload dX2_markClear_21 rfl ?_
    refine r_iadd dX2_markClear_23 ?_
    refine r_aload_n dX2_markClear_24 rfl rfl ?_
    refine r_getR dX2_markClear_25 flX2_9 rfl rfl ?_
    refine r_alen (v := J 24) dX2_markClear_28 rfl (by decide +kernel) ?_
    refine r_icmp_ge (tgt := 61) dX2_markClear_29 (by decide) (fun c_29 => ?_) (fun c_29 => ?_)
    · replace h := h.1 c_29
      refine r_aload_n dX2_markClear_61 rfl rfl ?_
      refine r_iload_n dX2_markClear_62 rfl rfl ?_
      refine r_iload dX2_markClear_63 rfl ?_
      refine r_iconst (v := J (-1)) dX2_markClear_65 rfl ?_
      refine r_ixor dX2_markClear_66 ?_
      refine r_ldc dX2_markClear_67 kcX2_116 ?_
      refine r_iand dX2_markClear_69 ?_
      refine r_iast dX2_markClear_70 rfl h.1 ?_
      replace h := h.2
      refine r_iinc (v := J 1) dX2_markClear_71 rfl rfl (by decide) rfl ?_
      refine r_goto (tgt := 2) dX2_markClear_74 (by decide) ?_
      refine r_kill [false, false, false, false, true, true] rfl ?_
      exact h
    · replace h := h.2 c_29
      refine r_iload dX2_markClear_32 rfl ?_
      refine r_iload_n dX2_markClear_34 rfl rfl ?_
      refine r_iload dX2_markClear_35 rfl ?_
      refine r_callN (as := [.int x1, .int x5]) (st := [.int x4]) dX2_markClear_37 cnX2_110 rfl rfl (Nat.le_of_ble_eq_true rfl) h (fun r M1 h => ?_)
      obtain ⟨v1, rfl, h⟩ := h
      refine r_aload_n dX2_markClear_40 rfl rfl ?_
      refine r_getR dX2_markClear_41 flX2_9 rfl rfl ?_
      refine r_iload_n dX2_markClear_44 rfl rfl ?_
      refine r_iload dX2_markClear_45 rfl ?_
      refine r_iadd dX2_markClear_47 ?_
      refine r_iald dX2_markClear_48 rfl h.1 ?_
      replace h := h.2
      refine r_callS (as := [.int v1, .int (M1 9 (x3 + x5).toNatClampNeg)]) (st := [.int x4]) dX2_markClear_49 csX2_113 rfl rfl (Nat.le_of_ble_eq_true rfl) h (fun r M2 h => ?_)
      obtain ⟨v2, rfl, h⟩ := h
      refine r_ior dX2_markClear_52 ?_
      refine r_istore dX2_markClear_53 (by decide) rfl ?_
      refine r_iinc (v := J 1) dX2_markClear_55 rfl rfl (by decide) rfl ?_
      refine r_goto (tgt := 14) dX2_markClear_58 (by decide) ?_
      exact h
theorem e_X2_markClear_u {d : Nat} {M : Mem} {Q : Post} {x1 : Int32} (h : R none (d + 1) mX2_markClear 2 [.ref 2, .int x1, .ref 11, .int (J 0), .null, .null] [] M Q) : Mt (d + 1) mX2_markClear [.ref 2, .int x1, .ref 11] M Q := Mt.of (k := 3) (by decide +kernel) (okR (okI (okR okN))) (Nat.le_of_ble_eq_true rfl) rfl (b_X2_markClear_u_0 h)
set_option maxRecDepth 100000 in
set_option maxHeartbeats 4000000 in
theorem b_X2_hitPlaces_0 {d : Nat} {M : Mem} {Q : Post} {x0 x1 : Int32} (h : R none (d + 1) mX2_hitPlaces 4 [.int x0, .int x1, .int (J 0), .int (J 0)] [] M Q) : R none (d + 1) mX2_hitPlaces 0 [.int x0, .int x1, .null, .null] [] M Q := by
  refine r_iconst (v := J 0) dX2_hitPlaces_0 rfl ?_
  refine r_istore_n dX2_hitPlaces_1 rfl (by decide) rfl ?_
  refine r_iconst (v := J 0) dX2_hitPlaces_2 rfl ?_
  refine r_istore_n dX2_hitPlaces_3 rfl (by decide) rfl ?_
  exact h
set_option maxRecDepth 100000 in
set_option maxHeartbeats 4000000 in
theorem b_X2_hitPlaces_4 {d : Nat} {M : Mem} {Q : Post} {x0 x1 x2 x3 : Int32} (h : (((J 5) ≤ x3 → Q (some x2) M) ∧ (¬ (J 5) ≤ x3 → ((¬ ((x0 >>> (x3 &&& 31)) &&& (J 1)) = (J 1) → R none (d + 1) mX2_hitPlaces 4 [.int x0, .int x1, .int x2, .int (x3 + J 1)] [] M Q) ∧ (((x0 >>> (x3 &&& 31)) &&& (J 1)) = (J 1) → R none (d + 1) mX2_hitPlaces 4 [.int x0, .int x1, .int (x2 ||| (x1 >>> (x3 &&& 31))), .int (x3 + J 1)] [] M Q))))) : R none (d + 1) mX2_hitPlaces 4 [.int x0, .int x1, .int x2, .int x3] [] M Q := by
  refine r_iload_n dX2_hitPlaces_4 rfl rfl ?_
  refine r_iconst (v := J 5) dX2_hitPlaces_5 rfl ?_
  refine r_icmp_ge (tgt := 30) dX2_hitPlaces_6 (by decide) (fun c_6 => ?_) (fun c_6 => ?_)
  · replace h := h.1 c_6
    refine r_iload_n dX2_hitPlaces_30 rfl rfl ?_
    exact r_ret dX2_hitPlaces_31 rfl rfl h
  · replace h := h.2 c_6
    refine r_iload_n dX2_hitPlaces_9 rfl rfl ?_
    refine r_iload_n dX2_hitPlaces_10 rfl rfl ?_
    refine r_ishr dX2_hitPlaces_11 ?_
    refine r_iconst (v := J 1) dX2_hitPlaces_12 rfl ?_
    refine r_iand dX2_hitPlaces_13 ?_
    refine r_iconst (v := J 1) dX2_hitPlaces_14 rfl ?_
    refine r_icmp_ne (tgt := 24) dX2_hitPlaces_15 (by decide) (fun c_15 => ?_) (fun c_15 => ?_)
    · replace h := h.1 c_15
      refine r_iinc (v := J 1) dX2_hitPlaces_24 rfl rfl (by decide) rfl ?_
      refine r_goto (tgt := 4) dX2_hitPlaces_27 (by decide) ?_
      exact h
    · replace h := h.2 c_15
      refine r_iload_n dX2_hitPlaces_18 rfl rfl ?_
      refine r_iload_n dX2_hitPlaces_19 rfl rfl ?_
      refine r_iload_n dX2_hitPlaces_20 rfl rfl ?_
      refine r_ishr dX2_hitPlaces_21 ?_
      refine r_ior dX2_hitPlaces_22 ?_
      refine r_istore_n dX2_hitPlaces_23 rfl (by decide) rfl ?_
      refine r_iinc (v := J 1) dX2_hitPlaces_24 rfl rfl (by decide) rfl ?_
      refine r_goto (tgt := 4) dX2_hitPlaces_27 (by decide) ?_
      exact h
theorem e_X2_hitPlaces {d : Nat} {M : Mem} {Q : Post} {x0 x1 : Int32} (h : R none (d + 1) mX2_hitPlaces 4 [.int x0, .int x1, .int (J 0), .int (J 0)] [] M Q) : Mt (d + 1) mX2_hitPlaces [.int x0, .int x1] M Q := Mt.of (k := 2) (by decide +kernel) (okI (okI okN)) (Nat.le_of_ble_eq_true rfl) rfl (b_X2_hitPlaces_0 h)
set_option maxRecDepth 100000 in
set_option maxHeartbeats 4000000 in
theorem b_X2_spreadFrom_0 {d : Nat} {M : Mem} {Q : Post} {x1 : Int32} (h : R none (d + 1) mX2_spreadFrom 2 [.ref 2, .null, .int x1, .null, .null, .null] [] M Q) : R none (d + 1) mX2_spreadFrom 0 [.ref 2, .int x1, .null, .null, .null, .null] [] M Q := by
  refine r_iload_n dX2_spreadFrom_0 rfl rfl ?_
  refine r_istore_n dX2_spreadFrom_1 rfl (by decide) rfl ?_
  refine r_kill [false, true, false, false, false, false] rfl ?_
  exact h
set_option maxRecDepth 100000 in
set_option maxHeartbeats 4000000 in
theorem b_X2_spreadFrom_2 {d : Nat} {M : Mem} {Q : Post} {x2 : Int32} (h : (((M 2 6) ≤ x2 → Q none M) ∧ (¬ (M 2 6) ≤ x2 → (((J 400) ≤ x2 → Q none M) ∧ (¬ (J 400) ≤ x2 → (vp_in x2 400 ∧ (Mt d mX2_distanceOf [.ref 2, .int (M 13 x2.toNatClampNeg)] M (ri fun v1 M1 => R none (d + 1) mX2_spreadFrom 38 [.ref 2, .null, .int x2, .int (M 13 x2.toNatClampNeg), .int (v1 + (J 1)), .int (J 0)] [] M1 Q)))))))) : R none (d + 1) mX2_spreadFrom 2 [.ref 2, .null, .int x2, .null, .null, .null] [] M Q := by
  refine r_iload_n dX2_spreadFrom_2 rfl rfl ?_
  refine r_aload_n dX2_spreadFrom_3 rfl rfl ?_
  refine r_getI dX2_spreadFrom_4 flX2_27 rfl rfl ?_
  refine r_icmp_ge (tgt := 68) dX2_spreadFrom_7 (by decide) (fun c_7 => ?_) (fun c_7 => ?_)
  · replace h := h.1 c_7
    exact r_vret dX2_spreadFrom_68 rfl h
  · replace h := h.2 c_7
    refine r_iload_n dX2_spreadFrom_10 rfl rfl ?_
    refine r_aload_n dX2_spreadFrom_11 rfl rfl ?_
    refine r_getR dX2_spreadFrom_12 flX2_24 rfl rfl ?_
    refine r_alen (v := J 400) dX2_spreadFrom_15 rfl (by decide +kernel) ?_
    refine r_icmp_ge (tgt := 68) dX2_spreadFrom_16 (by decide) (fun c_16 => ?_) (fun c_16 => ?_)
    · replace h := h.1 c_16
      exact r_vret dX2_spreadFrom_68 rfl h
    · replace h := h.2 c_16
      refine r_aload_n dX2_spreadFrom_19 rfl rfl ?_
      refine r_getR dX2_spreadFrom_20 flX2_24 rfl rfl ?_
      refine r_iload_n dX2_spreadFrom_23 rfl rfl ?_
      refine r_iald dX2_spreadFrom_24 rfl h.1 ?_
      replace h := h.2
      refine r_istore_n dX2_spreadFrom_25 rfl (by decide) rfl ?_
      refine r_aload_n dX2_spreadFrom_26 rfl rfl ?_
      refine r_iload_n dX2_spreadFrom_27 rfl rfl ?_
      refine r_callV (as := [.int (M 13 x2.toNatClampNeg)]) (st := []) dX2_spreadFrom_28 cvX2_72 rfl rfl rfl rfl (Nat.le_of_ble_eq_true rfl) h (fun r M1 h => ?_)
      obtain ⟨v1, rfl, h⟩ := h
      refine r_iconst (v := J 1) dX2_spreadFrom_31 rfl ?_
      refine r_iadd dX2_spreadFrom_32 ?_
      refine r_istore dX2_spreadFrom_33 (by decide) rfl ?_
      refine r_iconst (v := J 0) dX2_spreadFrom_35 rfl ?_
      refine r_istore dX2_spreadFrom_36 (by decide) rfl ?_
      exact h
set_option maxRecDepth 100000 in
set_option maxHeartbeats 4000000 in
theorem b_X2_spreadFrom_38 {d : Nat} {M : Mem} {Q : Post} {x2 x3 x4 x5 : Int32} (h : (((J 3) < x5 → R none (d + 1) mX2_spreadFrom 2 [.ref 2, .null, .int (x2 + J 1), .null, .null, .null] [] M Q) ∧ (¬ (J 3) < x5 → (Mt d mX2_beside [.int x3, .int x5] M (ri fun v1 M1 => (Mt d mX2_reach [.ref 2, .int v1, .int x4] M1 (rn fun M2 => R none (d + 1) mX2_spreadFrom 38 [.ref 2, .null, .int x2, .int x3, .int x4, .int (x5 + J 1)] [] M2 Q))))))) : R none (d + 1) mX2_spreadFrom 38 [.ref 2, .null, .int x2, .int x3, .int x4, .int x5] [] M Q := by
  refine r_iload dX2_spreadFrom_38 rfl ?_
  refine r_iconst (v := J 3) dX2_spreadFrom_40 rfl ?_
  refine r_icmp_gt (tgt := 62) dX2_spreadFrom_41 (by decide) (fun c_41 => ?_) (fun c_41 => ?_)
  · replace h := h.1 c_41
    refine r_iinc (v := J 1) dX2_spreadFrom_62 rfl rfl (by decide) rfl ?_
    refine r_goto (tgt := 2) dX2_spreadFrom_65 (by decide) ?_
    refine r_kill [false, false, false, true, true, true] rfl ?_
    exact h
  · replace h := h.2 c_41
    refine r_aload_n dX2_spreadFrom_44 rfl rfl ?_
    refine r_iload_n dX2_spreadFrom_45 rfl rfl ?_
    refine r_iload dX2_spreadFrom_46 rfl ?_
    refine r_callS (as := [.int x3, .int x5]) (st := [.ref 2]) dX2_spreadFrom_48 csX2_62 rfl rfl (Nat.le_of_ble_eq_true rfl) h (fun r M1 h => ?_)
    obtain ⟨v1, rfl, h⟩ := h
    refine r_iload dX2_spreadFrom_51 rfl ?_
    refine r_callV (as := [.int v1, .int x4]) (st := []) dX2_spreadFrom_53 cvX2_65 rfl rfl rfl rfl (Nat.le_of_ble_eq_true rfl) h (fun r M2 h => ?_)
    obtain ⟨rfl, h⟩ := h
    refine r_iinc (v := J 1) dX2_spreadFrom_56 rfl rfl (by decide) rfl ?_
    refine r_goto (tgt := 38) dX2_spreadFrom_59 (by decide) ?_
    exact h
theorem e_X2_spreadFrom {d : Nat} {M : Mem} {Q : Post} {x1 : Int32} (h : R none (d + 1) mX2_spreadFrom 2 [.ref 2, .null, .int x1, .null, .null, .null] [] M Q) : Mt (d + 1) mX2_spreadFrom [.ref 2, .int x1] M Q := Mt.of (k := 4) (by decide +kernel) (okR (okI okN)) (Nat.le_of_ble_eq_true rfl) rfl (b_X2_spreadFrom_0 h)
set_option maxRecDepth 100000 in
set_option maxHeartbeats 4000000 in
theorem b_X2_reach_0 {d : Nat} {M : Mem} {Q : Post} {x1 x2 : Int32} (h : (Mt d mX2_isMarked [.ref 10, .int x1] M (ri fun v1 M1 => ((v1 = 0 → Q none M1) ∧ (¬ v1 = 0 → (Mt d mX2_distanceOf [.ref 2, .int x1] M1 (ri fun v2 M2 => ((0 ≤ v2 → Q none M2) ∧ (¬ 0 ≤ v2 → (((J 400) ≤ x1 → Q none M2) ∧ (¬ (J 400) ≤ x1 → (((J 400) ≤ (M2 2 6) → Q none M2) ∧ (¬ (J 400) ≤ (M2 2 6) → (vp_in x1 400 ∧ (vp_in ((mset M2 12 x1.toNatClampNeg x2) 2 6) 400 ∧ Q none (mset (mset (mset M2 12 x1.toNatClampNeg x2) 13 ((mset M2 12 x1.toNatClampNeg x2) 2 6).toNatClampNeg x1) 2 6 (((mset (mset M2 12 x1.toNatClampNeg x2) 13 ((mset M2 12 x1.toNatClampNeg x2) 2 6).toNatClampNeg x1) 2 6) + (J 1)))))))))))))))))) : R none (d + 1) mX2_reach 0 [.ref 2, .int x1, .int x2] [] M Q := by
  refine r_aload_n dX2_reach_0 rfl rfl ?_
  refine r_getR dX2_reach_1 flX2_15 rfl rfl ?_
  refine r_iload_n dX2_reach_4 rfl rfl ?_
  refine r_callS (as := [.ref 10, .int x1]) (st := []) dX2_reach_5 csX2_55 rfl rfl (Nat.le_of_ble_eq_true rfl) h (fun r M1 h => ?_)
  obtain ⟨v1, rfl, h⟩ := h
  refine r_if_eq (tgt := 67) dX2_reach_8 (by decide) (fun c_8 => ?_) (fun c_8 => ?_)
  · replace h := h.1 c_8
    exact r_vret dX2_reach_67 rfl h
  · replace h := h.2 c_8
    refine r_aload_n dX2_reach_11 rfl rfl ?_
    refine r_iload_n dX2_reach_12 rfl rfl ?_
    refine r_callV (as := [.int x1]) (st := []) dX2_reach_13 cvX2_72 rfl rfl rfl rfl (Nat.le_of_ble_eq_true rfl) h (fun r M2 h => ?_)
    obtain ⟨v2, rfl, h⟩ := h
    refine r_if_ge (tgt := 67) dX2_reach_16 (by decide) (fun c_16 => ?_) (fun c_16 => ?_)
    · replace h := h.1 c_16
      exact r_vret dX2_reach_67 rfl h
    · replace h := h.2 c_16
      refine r_iload_n dX2_reach_19 rfl rfl ?_
      refine r_aload_n dX2_reach_20 rfl rfl ?_
      refine r_getR dX2_reach_21 flX2_21 rfl rfl ?_
      refine r_alen (v := J 400) dX2_reach_24 rfl (by decide +kernel) ?_
      refine r_icmp_ge (tgt := 67) dX2_reach_25 (by decide) (fun c_25 => ?_) (fun c_25 => ?_)
      · replace h := h.1 c_25
        exact r_vret dX2_reach_67 rfl h
      · replace h := h.2 c_25
        refine r_aload_n dX2_reach_28 rfl rfl ?_
        refine r_getI dX2_reach_29 flX2_27 rfl rfl ?_
        refine r_aload_n dX2_reach_32 rfl rfl ?_
        refine r_getR dX2_reach_33 flX2_24 rfl rfl ?_
        refine r_alen (v := J 400) dX2_reach_36 rfl (by decide +kernel) ?_
        refine r_icmp_ge (tgt := 67) dX2_reach_37 (by decide) (fun c_37 => ?_) (fun c_37 => ?_)
        · replace h := h.1 c_37
          exact r_vret dX2_reach_67 rfl h
        · replace h := h.2 c_37
          refine r_aload_n dX2_reach_40 rfl rfl ?_
          refine r_getR dX2_reach_41 flX2_21 rfl rfl ?_
          refine r_iload_n dX2_reach_44 rfl rfl ?_
          refine r_iload_n dX2_reach_45 rfl rfl ?_
          refine r_iast dX2_reach_46 rfl h.1 ?_
          replace h := h.2
          refine r_aload_n dX2_reach_47 rfl rfl ?_
          refine r_getR dX2_reach_48 flX2_24 rfl rfl ?_
          refine r_aload_n dX2_reach_51 rfl rfl ?_
          refine r_getI dX2_reach_52 flX2_27 rfl rfl ?_
          refine r_iload_n dX2_reach_55 rfl rfl ?_
          refine r_iast dX2_reach_56 rfl h.1 ?_
          replace h := h.2
          refine r_aload_n dX2_reach_57 rfl rfl ?_
          refine r_dup dX2_reach_58 rfl ?_
          refine r_getI dX2_reach_59 flX2_27 rfl rfl ?_
          refine r_iconst (v := J 1) dX2_reach_62 rfl ?_
          refine r_iadd dX2_reach_63 ?_
          refine r_putI dX2_reach_64 fwX2_27 rfl rfl ?_
          exact r_vret dX2_reach_67 rfl h
theorem e_X2_reach {d : Nat} {M : Mem} {Q : Post} {x1 x2 : Int32} (h : (Mt d mX2_isMarked [.ref 10, .int x1] M (ri fun v1 M1 => ((v1 = 0 → Q none M1) ∧ (¬ v1 = 0 → (Mt d mX2_distanceOf [.ref 2, .int x1] M1 (ri fun v2 M2 => ((0 ≤ v2 → Q none M2) ∧ (¬ 0 ≤ v2 → (((J 400) ≤ x1 → Q none M2) ∧ (¬ (J 400) ≤ x1 → (((J 400) ≤ (M2 2 6) → Q none M2) ∧ (¬ (J 400) ≤ (M2 2 6) → (vp_in x1 400 ∧ (vp_in ((mset M2 12 x1.toNatClampNeg x2) 2 6) 400 ∧ Q none (mset (mset (mset M2 12 x1.toNatClampNeg x2) 13 ((mset M2 12 x1.toNatClampNeg x2) 2 6).toNatClampNeg x1) 2 6 (((mset (mset M2 12 x1.toNatClampNeg x2) 13 ((mset M2 12 x1.toNatClampNeg x2) 2 6).toNatClampNeg x1) 2 6) + (J 1)))))))))))))))))) : Mt (d + 1) mX2_reach [.ref 2, .int x1, .int x2] M Q := Mt.of (k := 0) (by decide +kernel) (okR (okI (okI okN))) (Nat.le_of_ble_eq_true rfl) rfl (b_X2_reach_0 h)
set_option maxRecDepth 100000 in
set_option maxHeartbeats 4000000 in
theorem b_X2_distanceOf_0 {d : Nat} {M : Mem} {Q : Post} {x1 : Int32} (h : ((x1 < 0 → Q (some (J (-4))) M) ∧ (¬ x1 < 0 → ((x1 < (J 400) → (vp_in x1 400 ∧ Q (some (M 12 x1.toNatClampNeg)) M)) ∧ (¬ x1 < (J 400) → Q (some (J (-4))) M))))) : R none (d + 1) mX2_distanceOf 0 [.ref 2, .int x1] [] M Q := by
  refine r_iload_n dX2_distanceOf_0 rfl rfl ?_
  refine r_if_lt (tgt := 13) dX2_distanceOf_1 (by decide) (fun c_1 => ?_) (fun c_1 => ?_)
  · replace h := h.1 c_1
    refine r_bipush (v := J (-4)) dX2_distanceOf_13 (by decide +kernel) ?_
    refine r_goto (tgt := 24) dX2_distanceOf_15 (by decide) ?_
    exact r_ret dX2_distanceOf_24 rfl rfl h
  · replace h := h.2 c_1
    refine r_iload_n dX2_distanceOf_4 rfl rfl ?_
    refine r_aload_n dX2_distanceOf_5 rfl rfl ?_
    refine r_getR dX2_distanceOf_6 flX2_21 rfl rfl ?_
    refine r_alen (v := J 400) dX2_distanceOf_9 rfl (by decide +kernel) ?_
    refine r_icmp_lt (tgt := 18) dX2_distanceOf_10 (by decide) (fun c_10 => ?_) (fun c_10 => ?_)
    · replace h := h.1 c_10
      refine r_aload_n dX2_distanceOf_18 rfl rfl ?_
      refine r_getR dX2_distanceOf_19 flX2_21 rfl rfl ?_
      refine r_iload_n dX2_distanceOf_22 rfl rfl ?_
      refine r_iald dX2_distanceOf_23 rfl h.1 ?_
      replace h := h.2
      exact r_ret dX2_distanceOf_24 rfl rfl h
    · replace h := h.2 c_10
      refine r_bipush (v := J (-4)) dX2_distanceOf_13 (by decide +kernel) ?_
      refine r_goto (tgt := 24) dX2_distanceOf_15 (by decide) ?_
      exact r_ret dX2_distanceOf_24 rfl rfl h
theorem e_X2_distanceOf {d : Nat} {M : Mem} {Q : Post} {x1 : Int32} (h : ((x1 < 0 → Q (some (J (-4))) M) ∧ (¬ x1 < 0 → ((x1 < (J 400) → (vp_in x1 400 ∧ Q (some (M 12 x1.toNatClampNeg)) M)) ∧ (¬ x1 < (J 400) → Q (some (J (-4))) M))))) : Mt (d + 1) mX2_distanceOf [.ref 2, .int x1] M Q := Mt.of (k := 0) (by decide +kernel) (okR (okI okN)) (Nat.le_of_ble_eq_true rfl) rfl (b_X2_distanceOf_0 h)
set_option maxRecDepth 100000 in
set_option maxHeartbeats 4000000 in
theorem b_X2_isMarked_o_0 {d : Nat} {M : Mem} {Q : Post} {x1 : Int32} (h : ((x1 < 0 → Q (some (J 0)) M) ∧ (¬ x1 < 0 → (((x1 / (J 20)) < (J 20) → (vp_in (x1 / (J 20)) 20 ∧ ((¬ (((M 10 (x1 / (J 20)).toNatClampNeg) >>> ((x1 - x1 / (J 20) * (J 20)) &&& 31)) &&& (J 1)) = (J 1) → Q (some (J 0)) M) ∧ ((((M 10 (x1 / (J 20)).toNatClampNeg) >>> ((x1 - x1 / (J 20) * (J 20)) &&& 31)) &&& (J 1)) = (J 1) → Q (some (J 1)) M)))) ∧ (¬ (x1 / (J 20)) < (J 20) → Q (some (J 0)) M))))) : R none (d + 1) mX2_isMarked 0 [.ref 10, .int x1] [] M Q := by
  refine r_iload_n dX2_isMarked_0 rfl rfl ?_
  refine r_if_lt (tgt := 13) dX2_isMarked_1 (by decide) (fun c_1 => ?_) (fun c_1 => ?_)
  · replace h := h.1 c_1
    refine r_iconst (v := J 0) dX2_isMarked_13 rfl ?_
    exact r_ret dX2_isMarked_14 rfl nb0 h
  · replace h := h.2 c_1
    refine r_iload_n dX2_isMarked_4 rfl rfl ?_
    refine r_bipush (v := J 20) dX2_isMarked_5 (by decide +kernel) ?_
    refine r_idiv dX2_isMarked_7 (by decide +kernel) ?_
    refine r_aload_n dX2_isMarked_8 rfl rfl ?_
    refine r_alen (v := J 20) dX2_isMarked_9 rfl (by decide +kernel) ?_
    refine r_icmp_lt (tgt := 15) dX2_isMarked_10 (by decide) (fun c_10 => ?_) (fun c_10 => ?_)
    · replace h := h.1 c_10
      refine r_aload_n dX2_isMarked_15 rfl rfl ?_
      refine r_iload_n dX2_isMarked_16 rfl rfl ?_
      refine r_bipush (v := J 20) dX2_isMarked_17 (by decide +kernel) ?_
      refine r_idiv dX2_isMarked_19 (by decide +kernel) ?_
      refine r_iald dX2_isMarked_20 rfl h.1 ?_
      replace h := h.2
      refine r_iload_n dX2_isMarked_21 rfl rfl ?_
      refine r_bipush (v := J 20) dX2_isMarked_22 (by decide +kernel) ?_
      refine r_irem dX2_isMarked_24 (by decide +kernel) ?_
      refine r_ishr dX2_isMarked_25 ?_
      refine r_iconst (v := J 1) dX2_isMarked_26 rfl ?_
      refine r_iand dX2_isMarked_27 ?_
      refine r_iconst (v := J 1) dX2_isMarked_28 rfl ?_
      refine r_icmp_ne (tgt := 36) dX2_isMarked_29 (by decide) (fun c_29 => ?_) (fun c_29 => ?_)
      · replace h := h.1 c_29
        refine r_iconst (v := J 0) dX2_isMarked_36 rfl ?_
        exact r_ret dX2_isMarked_37 rfl nb0 h
      · replace h := h.2 c_29
        refine r_iconst (v := J 1) dX2_isMarked_32 rfl ?_
        refine r_goto (tgt := 37) dX2_isMarked_33 (by decide) ?_
        exact r_ret dX2_isMarked_37 rfl nb1 h
    · replace h := h.2 c_10
      refine r_iconst (v := J 0) dX2_isMarked_13 rfl ?_
      exact r_ret dX2_isMarked_14 rfl nb0 h
theorem e_X2_isMarked_o {d : Nat} {M : Mem} {Q : Post} {x1 : Int32} (h : ((x1 < 0 → Q (some (J 0)) M) ∧ (¬ x1 < 0 → (((x1 / (J 20)) < (J 20) → (vp_in (x1 / (J 20)) 20 ∧ ((¬ (((M 10 (x1 / (J 20)).toNatClampNeg) >>> ((x1 - x1 / (J 20) * (J 20)) &&& 31)) &&& (J 1)) = (J 1) → Q (some (J 0)) M) ∧ ((((M 10 (x1 / (J 20)).toNatClampNeg) >>> ((x1 - x1 / (J 20) * (J 20)) &&& 31)) &&& (J 1)) = (J 1) → Q (some (J 1)) M)))) ∧ (¬ (x1 / (J 20)) < (J 20) → Q (some (J 0)) M))))) : Mt (d + 1) mX2_isMarked [.ref 10, .int x1] M Q := Mt.of (k := 0) (by decide +kernel) (okR (okI okN)) (Nat.le_of_ble_eq_true rfl) rfl (b_X2_isMarked_o_0 h)
set_option maxRecDepth 100000 in
set_option maxHeartbeats 4000000 in
theorem b_X2_isMarked_u_0 {d : Nat} {M : Mem} {Q : Post} {x1 : Int32} (h : ((x1 < 0 → Q (some (J 0)) M) ∧ (¬ x1 < 0 → (((x1 / (J 20)) < (J 20) → (vp_in (x1 / (J 20)) 20 ∧ ((¬ (((M 11 (x1 / (J 20)).toNatClampNeg) >>> ((x1 - x1 / (J 20) * (J 20)) &&& 31)) &&& (J 1)) = (J 1) → Q (some (J 0)) M) ∧ ((((M 11 (x1 / (J 20)).toNatClampNeg) >>> ((x1 - x1 / (J 20) * (J 20)) &&& 31)) &&& (J 1)) = (J 1) → Q (some (J 1)) M)))) ∧ (¬ (x1 / (J 20)) < (J 20) → Q (some (J 0)) M))))) : R none (d + 1) mX2_isMarked 0 [.ref 11, .int x1] [] M Q := by
  refine r_iload_n dX2_isMarked_0 rfl rfl ?_
  refine r_if_lt (tgt := 13) dX2_isMarked_1 (by decide) (fun c_1 => ?_) (fun c_1 => ?_)
  · replace h := h.1 c_1
    refine r_iconst (v := J 0) dX2_isMarked_13 rfl ?_
    exact r_ret dX2_isMarked_14 rfl nb0 h
  · replace h := h.2 c_1
    refine r_iload_n dX2_isMarked_4 rfl rfl ?_
    refine r_bipush (v := J 20) dX2_isMarked_5 (by decide +kernel) ?_
    refine r_idiv dX2_isMarked_7 (by decide +kernel) ?_
    refine r_aload_n dX2_isMarked_8 rfl rfl ?_
    refine r_alen (v := J 20) dX2_isMarked_9 rfl (by decide +kernel) ?_
    refine r_icmp_lt (tgt := 15) dX2_isMarked_10 (by decide) (fun c_10 => ?_) (fun c_10 => ?_)
    · replace h := h.1 c_10
      refine r_aload_n dX2_isMarked_15 rfl rfl ?_
      refine r_iload_n dX2_isMarked_16 rfl rfl ?_
      refine r_bipush (v := J 20) dX2_isMarked_17 (by decide +kernel) ?_
      refine r_idiv dX2_isMarked_19 (by decide +kernel) ?_
      refine r_iald dX2_isMarked_20 rfl h.1 ?_
      replace h := h.2
      refine r_iload_n dX2_isMarked_21 rfl rfl ?_
      refine r_bipush (v := J 20) dX2_isMarked_22 (by decide +kernel) ?_
      refine r_irem dX2_isMarked_24 (by decide +kernel) ?_
      refine r_ishr dX2_isMarked_25 ?_
      refine r_iconst (v := J 1) dX2_isMarked_26 rfl ?_
      refine r_iand dX2_isMarked_27 ?_
      refine r_iconst (v := J 1) dX2_isMarked_28 rfl ?_
      refine r_icmp_ne (tgt := 36) dX2_isMarked_29 (by decide) (fun c_29 => ?_) (fun c_29 => ?_)
      · replace h := h.1 c_29
        refine r_iconst (v := J 0) dX2_isMarked_36 rfl ?_
        exact r_ret dX2_isMarked_37 rfl nb0 h
      · replace h := h.2 c_29
        refine r_iconst (v := J 1) dX2_isMarked_32 rfl ?_
        refine r_goto (tgt := 37) dX2_isMarked_33 (by decide) ?_
        exact r_ret dX2_isMarked_37 rfl nb1 h
    · replace h := h.2 c_10
      refine r_iconst (v := J 0) dX2_isMarked_13 rfl ?_
      exact r_ret dX2_isMarked_14 rfl nb0 h
theorem e_X2_isMarked_u {d : Nat} {M : Mem} {Q : Post} {x1 : Int32} (h : ((x1 < 0 → Q (some (J 0)) M) ∧ (¬ x1 < 0 → (((x1 / (J 20)) < (J 20) → (vp_in (x1 / (J 20)) 20 ∧ ((¬ (((M 11 (x1 / (J 20)).toNatClampNeg) >>> ((x1 - x1 / (J 20) * (J 20)) &&& 31)) &&& (J 1)) = (J 1) → Q (some (J 0)) M) ∧ ((((M 11 (x1 / (J 20)).toNatClampNeg) >>> ((x1 - x1 / (J 20) * (J 20)) &&& 31)) &&& (J 1)) = (J 1) → Q (some (J 1)) M)))) ∧ (¬ (x1 / (J 20)) < (J 20) → Q (some (J 0)) M))))) : Mt (d + 1) mX2_isMarked [.ref 11, .int x1] M Q := Mt.of (k := 0) (by decide +kernel) (okR (okI okN)) (Nat.le_of_ble_eq_true rfl) rfl (b_X2_isMarked_u_0 h)
set_option maxRecDepth 100000 in
set_option maxHeartbeats 4000000 in
theorem b_X2_whereLies_0 {d : Nat} {M : Mem} {Q : Post} {x1 : Int32} (h : (Mt d mX3_xOf [.ref 1, .int x1] M (ri fun v1 M1 => (Mt d mX3_yOf [.ref 1, .int x1] M1 (ri fun v2 M2 => (Mt d mX2_placeAt [.int v1, .int v2] M2 (ri fun v3 M3 => Q (some v3) M3))))))) : R none (d + 1) mX2_whereLies 0 [.ref 2, .int x1] [] M Q := by
  refine r_aload_n dX2_whereLies_0 rfl rfl ?_
  refine r_getR dX2_whereLies_1 flX2_37 rfl rfl ?_
  refine r_iload_n dX2_whereLies_4 rfl rfl ?_
  refine r_callV (as := [.int x1]) (st := []) dX2_whereLies_5 cvX2_117 rfl rfl rfl rfl (Nat.le_of_ble_eq_true rfl) h (fun r M1 h => ?_)
  obtain ⟨v1, rfl, h⟩ := h
  refine r_aload_n dX2_whereLies_8 rfl rfl ?_
  refine r_getR dX2_whereLies_9 flX2_37 rfl rfl ?_
  refine r_iload_n dX2_whereLies_12 rfl rfl ?_
  refine r_callV (as := [.int x1]) (st := [.int v1]) dX2_whereLies_13 cvX2_120 rfl rfl rfl rfl (Nat.le_of_ble_eq_true rfl) h (fun r M2 h => ?_)
  obtain ⟨v2, rfl, h⟩ := h
  refine r_callS (as := [.int v1, .int v2]) (st := []) dX2_whereLies_16 csX2_51 rfl rfl (Nat.le_of_ble_eq_true rfl) h (fun r M3 h => ?_)
  obtain ⟨v3, rfl, h⟩ := h
  exact r_ret dX2_whereLies_19 rfl rfl h
theorem e_X2_whereLies {d : Nat} {M : Mem} {Q : Post} {x1 : Int32} (h : (Mt d mX3_xOf [.ref 1, .int x1] M (ri fun v1 M1 => (Mt d mX3_yOf [.ref 1, .int x1] M1 (ri fun v2 M2 => (Mt d mX2_placeAt [.int v1, .int v2] M2 (ri fun v3 M3 => Q (some v3) M3))))))) : Mt (d + 1) mX2_whereLies [.ref 2, .int x1] M Q := Mt.of (k := 0) (by decide +kernel) (okR (okI okN)) (Nat.le_of_ble_eq_true rfl) rfl (b_X2_whereLies_0 h)
set_option maxRecDepth 100000 in
set_option maxHeartbeats 4000000 in
theorem b_X2_placeAt_0 {d : Nat} {M : Mem} {Q : Post} {x0 x1 : Int32} (h : (Mt d mX4_isPlace [.int x0, .int x1] M (ri fun v1 M1 => ((v1 = 0 → Q (some (J (-4))) M1) ∧ (¬ v1 = 0 → Q (some ((((J 20) * (x1 - (J (-6)))) + x0) - (J (-6)))) M1))))) : R none (d + 1) mX2_placeAt 0 [.int x0, .int x1] [] M Q := by
  refine r_iload_n dX2_placeAt_0 rfl rfl ?_
  refine r_iload_n dX2_placeAt_1 rfl rfl ?_
  refine r_callN (as := [.int x0, .int x1]) (st := []) dX2_placeAt_2 cnX2_123 rfl rfl (Nat.le_of_ble_eq_true rfl) h (fun r M1 h => ?_)
  obtain ⟨v1, rfl, h⟩ := h
  refine r_if_eq (tgt := 23) dX2_placeAt_5 (by decide) (fun c_5 => ?_) (fun c_5 => ?_)
  · replace h := h.1 c_5
    refine r_bipush (v := J (-4)) dX2_placeAt_23 (by decide +kernel) ?_
    exact r_ret dX2_placeAt_25 rfl rfl h
  · replace h := h.2 c_5
    refine r_bipush (v := J 20) dX2_placeAt_8 (by decide +kernel) ?_
    refine r_iload_n dX2_placeAt_10 rfl rfl ?_
    refine r_bipush (v := J (-6)) dX2_placeAt_11 (by decide +kernel) ?_
    refine r_isub dX2_placeAt_13 ?_
    refine r_imul dX2_placeAt_14 ?_
    refine r_iload_n dX2_placeAt_15 rfl rfl ?_
    refine r_iadd dX2_placeAt_16 ?_
    refine r_bipush (v := J (-6)) dX2_placeAt_17 (by decide +kernel) ?_
    refine r_isub dX2_placeAt_19 ?_
    refine r_goto (tgt := 25) dX2_placeAt_20 (by decide) ?_
    exact r_ret dX2_placeAt_25 rfl rfl h
theorem e_X2_placeAt {d : Nat} {M : Mem} {Q : Post} {x0 x1 : Int32} (h : (Mt d mX4_isPlace [.int x0, .int x1] M (ri fun v1 M1 => ((v1 = 0 → Q (some (J (-4))) M1) ∧ (¬ v1 = 0 → Q (some ((((J 20) * (x1 - (J (-6)))) + x0) - (J (-6)))) M1))))) : Mt (d + 1) mX2_placeAt [.int x0, .int x1] M Q := Mt.of (k := 0) (by decide +kernel) (okI (okI okN)) (Nat.le_of_ble_eq_true rfl) rfl (b_X2_placeAt_0 h)
set_option maxRecDepth 100000 in
set_option maxHeartbeats 4000000 in
theorem b_X2_beside_0 {d : Nat} {M : Mem} {Q : Post} {x0 x1 : Int32} (h : (Mt d mX4_stepX [.int x1] M (ri fun v1 M1 => (Mt d mX4_stepY [.int x1] M1 (ri fun v2 M2 => ((x0 < 0 → Q (some (J (-4))) M2) ∧ (¬ x0 < 0 → ((((x0 - x0 / (J 20) * (J 20)) + v1) < 0 → Q (some (J (-4))) M2) ∧ (¬ ((x0 - x0 / (J 20) * (J 20)) + v1) < 0 → (((J 20) ≤ ((x0 - x0 / (J 20) * (J 20)) + v1) → Q (some (J (-4))) M2) ∧ (¬ (J 20) ≤ ((x0 - x0 / (J 20) * (J 20)) + v1) → ((((x0 / (J 20)) + v2) < 0 → Q (some (J (-4))) M2) ∧ (¬ ((x0 / (J 20)) + v2) < 0 → ((((x0 / (J 20)) + v2) < (J 20) → Q (some (((J 20) * ((x0 / (J 20)) + v2)) + ((x0 - x0 / (J 20) * (J 20)) + v1))) M2) ∧ (¬ ((x0 / (J 20)) + v2) < (J 20) → Q (some (J (-4))) M2))))))))))))))) : R none (d + 1) mX2_beside 0 [.int x0, .int x1, .null, .null] [] M Q := by
  refine r_iload_n dX2_beside_0 rfl rfl ?_
  refine r_bipush (v := J 20) dX2_beside_1 (by decide +kernel) ?_
  refine r_irem dX2_beside_3 (by decide +kernel) ?_
  refine r_iload_n dX2_beside_4 rfl rfl ?_
  refine r_callN (as := [.int x1]) (st := [.int (x0 - x0 / (J 20) * (J 20))]) dX2_beside_5 cnX2_127 rfl rfl (Nat.le_of_ble_eq_true rfl) h (fun r M1 h => ?_)
  obtain ⟨v1, rfl, h⟩ := h
  refine r_iadd dX2_beside_8 ?_
  refine r_istore_n dX2_beside_9 rfl (by decide) rfl ?_
  refine r_iload_n dX2_beside_10 rfl rfl ?_
  refine r_bipush (v := J 20) dX2_beside_11 (by decide +kernel) ?_
  refine r_idiv dX2_beside_13 (by decide +kernel) ?_
  refine r_iload_n dX2_beside_14 rfl rfl ?_
  refine r_callN (as := [.int x1]) (st := [.int (x0 / (J 20))]) dX2_beside_15 cnX2_130 rfl rfl (Nat.le_of_ble_eq_true rfl) h (fun r M2 h => ?_)
  obtain ⟨v2, rfl, h⟩ := h
  refine r_iadd dX2_beside_18 ?_
  refine r_istore_n dX2_beside_19 rfl (by decide) rfl ?_
  refine r_iload_n dX2_beside_20 rfl rfl ?_
  refine r_if_lt (tgt := 44) dX2_beside_21 (by decide) (fun c_21 => ?_) (fun c_21 => ?_)
  · replace h := h.1 c_21
    refine r_bipush (v := J (-4)) dX2_beside_44 (by decide +kernel) ?_
    exact r_ret dX2_beside_46 rfl rfl h
  · replace h := h.2 c_21
    refine r_iload_n dX2_beside_24 rfl rfl ?_
    refine r_if_lt (tgt := 44) dX2_beside_25 (by decide) (fun c_25 => ?_) (fun c_25 => ?_)
    · replace h := h.1 c_25
      refine r_bipush (v := J (-4)) dX2_beside_44 (by decide +kernel) ?_
      exact r_ret dX2_beside_46 rfl rfl h
    · replace h := h.2 c_25
      refine r_iload_n dX2_beside_28 rfl rfl ?_
      refine r_bipush (v := J 20) dX2_beside_29 (by decide +kernel) ?_
      refine r_icmp_ge (tgt := 44) dX2_beside_31 (by decide) (fun c_31 => ?_) (fun c_31 => ?_)
      · replace h := h.1 c_31
        refine r_bipush (v := J (-4)) dX2_beside_44 (by decide +kernel) ?_
        exact r_ret dX2_beside_46 rfl rfl h
      · replace h := h.2 c_31
        refine r_iload_n dX2_beside_34 rfl rfl ?_
        refine r_if_lt (tgt := 44) dX2_beside_35 (by decide) (fun c_35 => ?_) (fun c_35 => ?_)
        · replace h := h.1 c_35
          refine r_bipush (v := J (-4)) dX2_beside_44 (by decide +kernel) ?_
          exact r_ret dX2_beside_46 rfl rfl h
        · replace h := h.2 c_35
          refine r_iload_n dX2_beside_38 rfl rfl ?_
          refine r_bipush (v := J 20) dX2_beside_39 (by decide +kernel) ?_
          refine r_icmp_lt (tgt := 47) dX2_beside_41 (by decide) (fun c_41 => ?_) (fun c_41 => ?_)
          · replace h := h.1 c_41
            refine r_bipush (v := J 20) dX2_beside_47 (by decide +kernel) ?_
            refine r_iload_n dX2_beside_49 rfl rfl ?_
            refine r_imul dX2_beside_50 ?_
            refine r_iload_n dX2_beside_51 rfl rfl ?_
            refine r_iadd dX2_beside_52 ?_
            exact r_ret dX2_beside_53 rfl rfl h
          · replace h := h.2 c_41
            refine r_bipush (v := J (-4)) dX2_beside_44 (by decide +kernel) ?_
            exact r_ret dX2_beside_46 rfl rfl h
theorem e_X2_beside {d : Nat} {M : Mem} {Q : Post} {x0 x1 : Int32} (h : (Mt d mX4_stepX [.int x1] M (ri fun v1 M1 => (Mt d mX4_stepY [.int x1] M1 (ri fun v2 M2 => ((x0 < 0 → Q (some (J (-4))) M2) ∧ (¬ x0 < 0 → ((((x0 - x0 / (J 20) * (J 20)) + v1) < 0 → Q (some (J (-4))) M2) ∧ (¬ ((x0 - x0 / (J 20) * (J 20)) + v1) < 0 → (((J 20) ≤ ((x0 - x0 / (J 20) * (J 20)) + v1) → Q (some (J (-4))) M2) ∧ (¬ (J 20) ≤ ((x0 - x0 / (J 20) * (J 20)) + v1) → ((((x0 / (J 20)) + v2) < 0 → Q (some (J (-4))) M2) ∧ (¬ ((x0 / (J 20)) + v2) < 0 → ((((x0 / (J 20)) + v2) < (J 20) → Q (some (((J 20) * ((x0 / (J 20)) + v2)) + ((x0 - x0 / (J 20) * (J 20)) + v1))) M2) ∧ (¬ ((x0 / (J 20)) + v2) < (J 20) → Q (some (J (-4))) M2))))))))))))))) : Mt (d + 1) mX2_beside [.int x0, .int x1] M Q := Mt.of (k := 2) (by decide +kernel) (okI (okI okN)) (Nat.le_of_ble_eq_true rfl) rfl (b_X2_beside_0 h)
