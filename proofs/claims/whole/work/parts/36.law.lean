/-! the law's loop, as a tree -/
set_option maxRecDepth 100000 in
set_option maxHeartbeats 4000000 in
theorem b_L_law_18 {d n : Nat} {xs : Nat → Int32} {M : Mem} {Q : Post} {x3 : Int32} (h : ((((Int32.ofNat n) - (J 5)) < x3 → Q (some (J 1)) M) ∧ (¬ ((Int32.ofNat n) - (J 5)) < x3 → (vp_in x3 n ∧ (((((xs x3.toNatClampNeg) &&& (J 31)).toInt < 0 ∨ 18 < ((xs x3.toNatClampNeg) &&& (J 31)).toInt) → R (some (n, xs)) (d + 1) mL_law 18 [.ref 1000, .ref 0, .ref 18, .int (x3 + J 5)] [] M Q) ∧ ((((xs x3.toNatClampNeg) &&& (J 31)).toInt = 0) → (vp_in (x3 + (J 1)) n ∧ (vp_in (x3 + (J 2)) n ∧ (Mt d mX4_board [.ref 0, .int (xs (x3 + (J 1)).toNatClampNeg), .int (xs (x3 + (J 2)).toNatClampNeg)] M (ri fun v1 M1 => (vp_in (x3 + (J 1)) n ∧ (vp_in (x3 + (J 2)) n ∧ (Mt d mX5_board [.ref 18, .int (xs (x3 + (J 1)).toNatClampNeg), .int (xs (x3 + (J 2)).toNatClampNeg)] M1 (ri fun v2 M2 => ((v1 = v2 → R (some (n, xs)) (d + 1) mL_law 18 [.ref 1000, .ref 0, .ref 18, .int (x3 + J 5)] [] M2 Q) ∧ (¬ v1 = v2 → Q (some (J 0)) M2))))))))))) ∧ ((((xs x3.toNatClampNeg) &&& (J 31)).toInt = 1) → (vp_in (x3 + (J 1)) n ∧ (vp_in (x3 + (J 2)) n ∧ (Mt d mX4_walls [.ref 0, .int (xs (x3 + (J 1)).toNatClampNeg), .int (xs (x3 + (J 2)).toNatClampNeg)] M (ri fun v3 M3 => (vp_in (x3 + (J 1)) n ∧ (vp_in (x3 + (J 2)) n ∧ (Mt d mX5_walls [.ref 18, .int (xs (x3 + (J 1)).toNatClampNeg), .int (xs (x3 + (J 2)).toNatClampNeg)] M3 (ri fun v4 M4 => ((v3 = v4 → R (some (n, xs)) (d + 1) mL_law 18 [.ref 1000, .ref 0, .ref 18, .int (x3 + J 5)] [] M4 Q) ∧ (¬ v3 = v4 → Q (some (J 0)) M4))))))))))) ∧ ((((xs x3.toNatClampNeg) &&& (J 31)).toInt = 2) → (vp_in (x3 + (J 1)) n ∧ (Mt d mX4_piece [.ref 0, .int (xs (x3 + (J 1)).toNatClampNeg)] M (ri fun v5 M5 => (vp_in (x3 + (J 1)) n ∧ (Mt d mX5_piece [.ref 18, .int (xs (x3 + (J 1)).toNatClampNeg)] M5 (ri fun v6 M6 => ((v5 = v6 → R (some (n, xs)) (d + 1) mL_law 18 [.ref 1000, .ref 0, .ref 18, .int (x3 + J 5)] [] M6 Q) ∧ (¬ v5 = v6 → Q (some (J 0)) M6))))))))) ∧ ((((xs x3.toNatClampNeg) &&& (J 31)).toInt = 3) → (vp_in (x3 + (J 1)) n ∧ (vp_in (x3 + (J 2)) n ∧ (Mt d mX4_about [.ref 0, .int (xs (x3 + (J 1)).toNatClampNeg), .int (xs (x3 + (J 2)).toNatClampNeg)] M (ri fun v7 M7 => (vp_in (x3 + (J 1)) n ∧ (vp_in (x3 + (J 2)) n ∧ (Mt d mX5_about [.ref 18, .int (xs (x3 + (J 1)).toNatClampNeg), .int (xs (x3 + (J 2)).toNatClampNeg)] M7 (ri fun v8 M8 => ((v7 = v8 → R (some (n, xs)) (d + 1) mL_law 18 [.ref 1000, .ref 0, .ref 18, .int (x3 + J 5)] [] M8 Q) ∧ (¬ v7 = v8 → Q (some (J 0)) M8))))))))))) ∧ ((((xs x3.toNatClampNeg) &&& (J 31)).toInt = 4) → (vp_in (x3 + (J 1)) n ∧ (vp_in (x3 + (J 2)) n ∧ (vp_in (x3 + (J 3)) n ∧ (Mt d mX4_put [.ref 0, .int (xs (x3 + (J 1)).toNatClampNeg), .int (xs (x3 + (J 2)).toNatClampNeg), .int (xs (x3 + (J 3)).toNatClampNeg)] M (ri fun v9 M9 => (vp_in (x3 + (J 1)) n ∧ (vp_in (x3 + (J 2)) n ∧ (vp_in (x3 + (J 3)) n ∧ (Mt d mX5_put [.ref 18, .int (xs (x3 + (J 1)).toNatClampNeg), .int (xs (x3 + (J 2)).toNatClampNeg), .int (xs (x3 + (J 3)).toNatClampNeg)] M9 (ri fun v10 M10 => ((v9 = v10 → R (some (n, xs)) (d + 1) mL_law 18 [.ref 1000, .ref 0, .ref 18, .int (x3 + J 5)] [] M10 Q) ∧ (¬ v9 = v10 → Q (some (J 0)) M10))))))))))))) ∧ ((((xs x3.toNatClampNeg) &&& (J 31)).toInt = 5) → (vp_in (x3 + (J 1)) n ∧ (Mt d mX4_away [.ref 0, .int (xs (x3 + (J 1)).toNatClampNeg)] M (ri fun v11 M11 => (vp_in (x3 + (J 1)) n ∧ (Mt d mX5_away [.ref 18, .int (xs (x3 + (J 1)).toNatClampNeg)] M11 (ri fun v12 M12 => ((v11 = v12 → R (some (n, xs)) (d + 1) mL_law 18 [.ref 1000, .ref 0, .ref 18, .int (x3 + J 5)] [] M12 Q) ∧ (¬ v11 = v12 → Q (some (J 0)) M12))))))))) ∧ ((((xs x3.toNatClampNeg) &&& (J 31)).toInt = 6) → (vp_in (x3 + (J 1)) n ∧ (vp_in (x3 + (J 2)) n ∧ (vp_in (x3 + (J 3)) n ∧ (Mt d mX4_stands [.ref 0, .int (xs (x3 + (J 1)).toNatClampNeg), .int (xs (x3 + (J 2)).toNatClampNeg), .int (xs (x3 + (J 3)).toNatClampNeg)] M (ri fun v13 M13 => (vp_in (x3 + (J 1)) n ∧ (vp_in (x3 + (J 2)) n ∧ (vp_in (x3 + (J 3)) n ∧ (Mt d mX5_stands [.ref 18, .int (xs (x3 + (J 1)).toNatClampNeg), .int (xs (x3 + (J 2)).toNatClampNeg), .int (xs (x3 + (J 3)).toNatClampNeg)] M13 (ri fun v14 M14 => ((v13 = v14 → R (some (n, xs)) (d + 1) mL_law 18 [.ref 1000, .ref 0, .ref 18, .int (x3 + J 5)] [] M14 Q) ∧ (¬ v13 = v14 → Q (some (J 0)) M14))))))))))))) ∧ ((((xs x3.toNatClampNeg) &&& (J 31)).toInt = 7) → (vp_in (x3 + (J 1)) n ∧ (vp_in (x3 + (J 2)) n ∧ (vp_in (x3 + (J 3)) n ∧ (Mt d mX4_slide [.ref 0, .int (xs (x3 + (J 1)).toNatClampNeg), .int (xs (x3 + (J 2)).toNatClampNeg), .int (xs (x3 + (J 3)).toNatClampNeg)] M (ri fun v15 M15 => (vp_in (x3 + (J 1)) n ∧ (vp_in (x3 + (J 2)) n ∧ (vp_in (x3 + (J 3)) n ∧ (Mt d mX5_slide [.ref 18, .int (xs (x3 + (J 1)).toNatClampNeg), .int (xs (x3 + (J 2)).toNatClampNeg), .int (xs (x3 + (J 3)).toNatClampNeg)] M15 (ri fun v16 M16 => ((v15 = v16 → R (some (n, xs)) (d + 1) mL_law 18 [.ref 1000, .ref 0, .ref 18, .int (x3 + J 5)] [] M16 Q) ∧ (¬ v15 = v16 → Q (some (J 0)) M16))))))))))))) ∧ ((((xs x3.toNatClampNeg) &&& (J 31)).toInt = 8) → (vp_in (x3 + (J 1)) n ∧ (vp_in (x3 + (J 2)) n ∧ (vp_in (x3 + (J 3)) n ∧ (Mt d mX4_way [.ref 0, .int (xs (x3 + (J 1)).toNatClampNeg), .int (xs (x3 + (J 2)).toNatClampNeg), .int (xs (x3 + (J 3)).toNatClampNeg)] M (ri fun v17 M17 => (vp_in (x3 + (J 1)) n ∧ (vp_in (x3 + (J 2)) n ∧ (vp_in (x3 + (J 3)) n ∧ (Mt d mX5_way [.ref 18, .int (xs (x3 + (J 1)).toNatClampNeg), .int (xs (x3 + (J 2)).toNatClampNeg), .int (xs (x3 + (J 3)).toNatClampNeg)] M17 (ri fun v18 M18 => ((v17 = v18 → R (some (n, xs)) (d + 1) mL_law 18 [.ref 1000, .ref 0, .ref 18, .int (x3 + J 5)] [] M18 Q) ∧ (¬ v17 = v18 → Q (some (J 0)) M18))))))))))))) ∧ ((((xs x3.toNatClampNeg) &&& (J 31)).toInt = 9) → (vp_in (x3 + (J 1)) n ∧ (Mt d mX4_stepOf [.ref 0, .int (xs (x3 + (J 1)).toNatClampNeg)] M (ri fun v19 M19 => (vp_in (x3 + (J 1)) n ∧ (Mt d mX5_stepOf [.ref 18, .int (xs (x3 + (J 1)).toNatClampNeg)] M19 (ri fun v20 M20 => ((v19 = v20 → R (some (n, xs)) (d + 1) mL_law 18 [.ref 1000, .ref 0, .ref 18, .int (x3 + J 5)] [] M20 Q) ∧ (¬ v19 = v20 → Q (some (J 0)) M20))))))))) ∧ ((((xs x3.toNatClampNeg) &&& (J 31)).toInt = 10) → (vp_in (x3 + (J 1)) n ∧ (Mt d mX4_out [.ref 0, .int (xs (x3 + (J 1)).toNatClampNeg)] M (ri fun v21 M21 => (vp_in (x3 + (J 1)) n ∧ (Mt d mX5_out [.ref 18, .int (xs (x3 + (J 1)).toNatClampNeg)] M21 (ri fun v22 M22 => ((v21 = v22 → R (some (n, xs)) (d + 1) mL_law 18 [.ref 1000, .ref 0, .ref 18, .int (x3 + J 5)] [] M22 Q) ∧ (¬ v21 = v22 → Q (some (J 0)) M22))))))))) ∧ ((((xs x3.toNatClampNeg) &&& (J 31)).toInt = 11) → (vp_in (x3 + (J 1)) n ∧ (vp_in (x3 + (J 2)) n ∧ (Mt d mX4_places [.ref 0, .int (xs (x3 + (J 1)).toNatClampNeg), .int (xs (x3 + (J 2)).toNatClampNeg)] M (ri fun v23 M23 => (vp_in (x3 + (J 1)) n ∧ (vp_in (x3 + (J 2)) n ∧ (Mt d mX5_places [.ref 18, .int (xs (x3 + (J 1)).toNatClampNeg), .int (xs (x3 + (J 2)).toNatClampNeg)] M23 (ri fun v24 M24 => ((v23 = v24 → R (some (n, xs)) (d + 1) mL_law 18 [.ref 1000, .ref 0, .ref 18, .int (x3 + J 5)] [] M24 Q) ∧ (¬ v23 = v24 → Q (some (J 0)) M24))))))))))) ∧ ((((xs x3.toNatClampNeg) &&& (J 31)).toInt = 12) → (vp_in (x3 + (J 1)) n ∧ (vp_in (x3 + (J 2)) n ∧ (Mt d mX4_blocks [.ref 0, .int (xs (x3 + (J 1)).toNatClampNeg), .int (xs (x3 + (J 2)).toNatClampNeg)] M (ri fun v25 M25 => (vp_in (x3 + (J 1)) n ∧ (vp_in (x3 + (J 2)) n ∧ (Mt d mX5_blocks [.ref 18, .int (xs (x3 + (J 1)).toNatClampNeg), .int (xs (x3 + (J 2)).toNatClampNeg)] M25 (ri fun v26 M26 => ((v25 = v26 → R (some (n, xs)) (d + 1) mL_law 18 [.ref 1000, .ref 0, .ref 18, .int (x3 + J 5)] [] M26 Q) ∧ (¬ v25 = v26 → Q (some (J 0)) M26))))))))))) ∧ ((((xs x3.toNatClampNeg) &&& (J 31)).toInt = 13) → (vp_in (x3 + (J 1)) n ∧ (vp_in (x3 + (J 2)) n ∧ (Mt d mX4_order [.ref 0, .int (xs (x3 + (J 1)).toNatClampNeg), .int (xs (x3 + (J 2)).toNatClampNeg)] M (ri fun v27 M27 => (vp_in (x3 + (J 1)) n ∧ (vp_in (x3 + (J 2)) n ∧ (Mt d mX5_order [.ref 18, .int (xs (x3 + (J 1)).toNatClampNeg), .int (xs (x3 + (J 2)).toNatClampNeg)] M27 (ri fun v28 M28 => ((v27 = v28 → R (some (n, xs)) (d + 1) mL_law 18 [.ref 1000, .ref 0, .ref 18, .int (x3 + J 5)] [] M28 Q) ∧ (¬ v27 = v28 → Q (some (J 0)) M28))))))))))) ∧ ((((xs x3.toNatClampNeg) &&& (J 31)).toInt = 14) → (vp_in (x3 + (J 1)) n ∧ (Mt d mX4_apart [.ref 0, .int (xs (x3 + (J 1)).toNatClampNeg)] M (ri fun v29 M29 => (vp_in (x3 + (J 1)) n ∧ (Mt d mX5_apart [.ref 18, .int (xs (x3 + (J 1)).toNatClampNeg)] M29 (ri fun v30 M30 => ((v29 = v30 → R (some (n, xs)) (d + 1) mL_law 18 [.ref 1000, .ref 0, .ref 18, .int (x3 + J 5)] [] M30 Q) ∧ (¬ v29 = v30 → Q (some (J 0)) M30))))))))) ∧ ((((xs x3.toNatClampNeg) &&& (J 31)).toInt = 15) → (vp_in (x3 + (J 1)) n ∧ (vp_in (x3 + (J 2)) n ∧ (vp_in (x3 + (J 3)) n ∧ (Mt d mX4_push [.ref 0, .int (xs (x3 + (J 1)).toNatClampNeg), .int (xs (x3 + (J 2)).toNatClampNeg), .int (xs (x3 + (J 3)).toNatClampNeg)] M (ri fun v31 M31 => (vp_in (x3 + (J 1)) n ∧ (vp_in (x3 + (J 2)) n ∧ (vp_in (x3 + (J 3)) n ∧ (Mt d mX5_push [.ref 18, .int (xs (x3 + (J 1)).toNatClampNeg), .int (xs (x3 + (J 2)).toNatClampNeg), .int (xs (x3 + (J 3)).toNatClampNeg)] M31 (ri fun v32 M32 => ((v31 = v32 → R (some (n, xs)) (d + 1) mL_law 18 [.ref 1000, .ref 0, .ref 18, .int (x3 + J 5)] [] M32 Q) ∧ (¬ v31 = v32 → Q (some (J 0)) M32))))))))))))) ∧ ((((xs x3.toNatClampNeg) &&& (J 31)).toInt = 16) → (vp_in (x3 + (J 1)) n ∧ (vp_in (x3 + (J 2)) n ∧ (vp_in (x3 + (J 3)) n ∧ (vp_in (x3 + (J 4)) n ∧ (Mt d mX4_strip [.ref 0, .int (xs (x3 + (J 1)).toNatClampNeg), .int (xs (x3 + (J 2)).toNatClampNeg), .int (xs (x3 + (J 3)).toNatClampNeg), .int (xs (x3 + (J 4)).toNatClampNeg)] M (ri fun v33 M33 => (vp_in (x3 + (J 1)) n ∧ (vp_in (x3 + (J 2)) n ∧ (vp_in (x3 + (J 3)) n ∧ (vp_in (x3 + (J 4)) n ∧ (Mt d mX5_strip [.ref 18, .int (xs (x3 + (J 1)).toNatClampNeg), .int (xs (x3 + (J 2)).toNatClampNeg), .int (xs (x3 + (J 3)).toNatClampNeg), .int (xs (x3 + (J 4)).toNatClampNeg)] M33 (ri fun v34 M34 => ((v33 = v34 → R (some (n, xs)) (d + 1) mL_law 18 [.ref 1000, .ref 0, .ref 18, .int (x3 + J 5)] [] M34 Q) ∧ (¬ v33 = v34 → Q (some (J 0)) M34))))))))))))))) ∧ ((((xs x3.toNatClampNeg) &&& (J 31)).toInt = 17) → (vp_in (x3 + (J 1)) n ∧ (vp_in (x3 + (J 2)) n ∧ (vp_in (x3 + (J 3)) n ∧ (Mt d mX4_best [.ref 0, .int (xs (x3 + (J 1)).toNatClampNeg), .int (xs (x3 + (J 2)).toNatClampNeg), .int (xs (x3 + (J 3)).toNatClampNeg)] M (ri fun v35 M35 => (vp_in (x3 + (J 1)) n ∧ (vp_in (x3 + (J 2)) n ∧ (vp_in (x3 + (J 3)) n ∧ (Mt d mX5_best [.ref 18, .int (xs (x3 + (J 1)).toNatClampNeg), .int (xs (x3 + (J 2)).toNatClampNeg), .int (xs (x3 + (J 3)).toNatClampNeg)] M35 (ri fun v36 M36 => ((v35 = v36 → R (some (n, xs)) (d + 1) mL_law 18 [.ref 1000, .ref 0, .ref 18, .int (x3 + J 5)] [] M36 Q) ∧ (¬ v35 = v36 → Q (some (J 0)) M36))))))))))))) ∧ ((((xs x3.toNatClampNeg) &&& (J 31)).toInt = 18) → (vp_in (x3 + (J 1)) n ∧ (Mt d mX4_count [.ref 0, .int (xs (x3 + (J 1)).toNatClampNeg)] M (ri fun v37 M37 => (vp_in (x3 + (J 1)) n ∧ (Mt d mX5_count [.ref 18, .int (xs (x3 + (J 1)).toNatClampNeg)] M37 (ri fun v38 M38 => ((v37 = v38 → R (some (n, xs)) (d + 1) mL_law 18 [.ref 1000, .ref 0, .ref 18, .int (x3 + J 5)] [] M38 Q) ∧ (¬ v37 = v38 → Q (some (J 0)) M38)))))))))))))) : R (some (n, xs)) (d + 1) mL_law 18 [.ref 1000, .ref 0, .ref 18, .int x3] [] M Q := by
  refine r_iload_n dL_law_18 rfl rfl ?_
  refine r_aload_n dL_law_19 rfl rfl ?_
  refine r_slen dL_law_20 rfl ?_
  refine r_iconst (v := J 5) dL_law_21 rfl ?_
  refine r_isub dL_law_22 ?_
  refine r_icmp_gt (tgt := 777) dL_law_23 (by decide) (fun c_23 => ?_) (fun c_23 => ?_)
  · replace h := h.1 c_23
    refine r_iconst (v := J 1) dL_law_777 rfl ?_
    exact r_ret dL_law_778 rfl nb1 h
  · replace h := h.2 c_23
    refine r_aload_n dL_law_26 rfl rfl ?_
    refine r_iload_n dL_law_27 rfl rfl ?_
    refine r_sld dL_law_28 rfl h.1 ?_
    replace h := h.2
    refine r_bipush (v := J 31) dL_law_29 (by decide +kernel) ?_
    refine r_iand dL_law_31 ?_
    rcases (show (((xs x3.toNatClampNeg) &&& (J 31)).toInt < 0 ∨ 18 < ((xs x3.toNatClampNeg) &&& (J 31)).toInt) ∨ (((xs x3.toNatClampNeg) &&& (J 31)).toInt = 0) ∨ (((xs x3.toNatClampNeg) &&& (J 31)).toInt = 1) ∨ (((xs x3.toNatClampNeg) &&& (J 31)).toInt = 2) ∨ (((xs x3.toNatClampNeg) &&& (J 31)).toInt = 3) ∨ (((xs x3.toNatClampNeg) &&& (J 31)).toInt = 4) ∨ (((xs x3.toNatClampNeg) &&& (J 31)).toInt = 5) ∨ (((xs x3.toNatClampNeg) &&& (J 31)).toInt = 6) ∨ (((xs x3.toNatClampNeg) &&& (J 31)).toInt = 7) ∨ (((xs x3.toNatClampNeg) &&& (J 31)).toInt = 8) ∨ (((xs x3.toNatClampNeg) &&& (J 31)).toInt = 9) ∨ (((xs x3.toNatClampNeg) &&& (J 31)).toInt = 10) ∨ (((xs x3.toNatClampNeg) &&& (J 31)).toInt = 11) ∨ (((xs x3.toNatClampNeg) &&& (J 31)).toInt = 12) ∨ (((xs x3.toNatClampNeg) &&& (J 31)).toInt = 13) ∨ (((xs x3.toNatClampNeg) &&& (J 31)).toInt = 14) ∨ (((xs x3.toNatClampNeg) &&& (J 31)).toInt = 15) ∨ (((xs x3.toNatClampNeg) &&& (J 31)).toInt = 16) ∨ (((xs x3.toNatClampNeg) &&& (J 31)).toInt = 17) ∨ (((xs x3.toNatClampNeg) &&& (J 31)).toInt = 18) by omega) with q | q | q | q | q | q | q | q | q | q | q | q | q | q | q | q | q | q | q | q
    · replace h := h.1 q
      refine r_table (off := 739) (tgt := 771) dL_law_32 (by rw [if_pos q]) (by decide) ?_
      refine r_iinc (v := J 5) dL_law_771 rfl rfl (by decide) rfl ?_
      refine r_goto (tgt := 18) dL_law_774 (by decide) ?_
      exact h
    · replace h := h.2.1 q
      refine r_table (off := 92) (tgt := 124) dL_law_32 (by rw [if_neg (by omega), q]; rfl) (by decide) ?_
      refine r_aload_n dL_law_124 rfl rfl ?_
      refine r_aload_n dL_law_125 rfl rfl ?_
      refine r_iload_n dL_law_126 rfl rfl ?_
      refine r_iconst (v := J 1) dL_law_127 rfl ?_
      refine r_iadd dL_law_128 ?_
      refine r_sld dL_law_129 rfl h.1 ?_
      replace h := h.2
      refine r_aload_n dL_law_130 rfl rfl ?_
      refine r_iload_n dL_law_131 rfl rfl ?_
      refine r_iconst (v := J 2) dL_law_132 rfl ?_
      refine r_iadd dL_law_133 ?_
      refine r_sld dL_law_134 rfl h.1 ?_
      replace h := h.2
      refine r_callV (as := [.int (xs (x3 + (J 1)).toNatClampNeg), .int (xs (x3 + (J 2)).toNatClampNeg)]) (st := []) dL_law_135 cvL_13 rfl rfl rfl rfl (Nat.le_of_ble_eq_true rfl) h (fun r M1 h => ?_)
      obtain ⟨v1, rfl, h⟩ := h
      refine r_aload_n dL_law_138 rfl rfl ?_
      refine r_aload_n dL_law_139 rfl rfl ?_
      refine r_iload_n dL_law_140 rfl rfl ?_
      refine r_iconst (v := J 1) dL_law_141 rfl ?_
      refine r_iadd dL_law_142 ?_
      refine r_sld dL_law_143 rfl h.1 ?_
      replace h := h.2
      refine r_aload_n dL_law_144 rfl rfl ?_
      refine r_iload_n dL_law_145 rfl rfl ?_
      refine r_iconst (v := J 2) dL_law_146 rfl ?_
      refine r_iadd dL_law_147 ?_
      refine r_sld dL_law_148 rfl h.1 ?_
      replace h := h.2
      refine r_callV (as := [.int (xs (x3 + (J 1)).toNatClampNeg), .int (xs (x3 + (J 2)).toNatClampNeg)]) (st := [.int v1]) dL_law_149 cvL_17 rfl rfl rfl rfl (Nat.le_of_ble_eq_true rfl) h (fun r M2 h => ?_)
      obtain ⟨v2, rfl, h⟩ := h
      refine r_icmp_eq (tgt := 771) dL_law_152 (by decide) (fun c_152 => ?_) (fun c_152 => ?_)
      · replace h := h.1 c_152
        refine r_iinc (v := J 5) dL_law_771 rfl rfl (by decide) rfl ?_
        refine r_goto (tgt := 18) dL_law_774 (by decide) ?_
        exact h
      · replace h := h.2 c_152
        refine r_iconst (v := J 0) dL_law_155 rfl ?_
        exact r_ret dL_law_156 rfl nb0 h
    · replace h := h.2.2.1 q
      refine r_table (off := 125) (tgt := 157) dL_law_32 (by rw [if_neg (by omega), q]; rfl) (by decide) ?_
      refine r_aload_n dL_law_157 rfl rfl ?_
      refine r_aload_n dL_law_158 rfl rfl ?_
      refine r_iload_n dL_law_159 rfl rfl ?_
      refine r_iconst (v := J 1) dL_law_160 rfl ?_
      refine r_iadd dL_law_161 ?_
      refine r_sld dL_law_162 rfl h.1 ?_
      replace h := h.2
      refine r_aload_n dL_law_163 rfl rfl ?_
      refine r_iload_n dL_law_164 rfl rfl ?_
      refine r_iconst (v := J 2) dL_law_165 rfl ?_
      refine r_iadd dL_law_166 ?_
      refine r_sld dL_law_167 rfl h.1 ?_
      replace h := h.2
      refine r_callV (as := [.int (xs (x3 + (J 1)).toNatClampNeg), .int (xs (x3 + (J 2)).toNatClampNeg)]) (st := []) dL_law_168 cvL_18 rfl rfl rfl rfl (Nat.le_of_ble_eq_true rfl) h (fun r M3 h => ?_)
      obtain ⟨v3, rfl, h⟩ := h
      refine r_aload_n dL_law_171 rfl rfl ?_
      refine r_aload_n dL_law_172 rfl rfl ?_
      refine r_iload_n dL_law_173 rfl rfl ?_
      refine r_iconst (v := J 1) dL_law_174 rfl ?_
      refine r_iadd dL_law_175 ?_
      refine r_sld dL_law_176 rfl h.1 ?_
      replace h := h.2
      refine r_aload_n dL_law_177 rfl rfl ?_
      refine r_iload_n dL_law_178 rfl rfl ?_
      refine r_iconst (v := J 2) dL_law_179 rfl ?_
      refine r_iadd dL_law_180 ?_
      refine r_sld dL_law_181 rfl h.1 ?_
      replace h := h.2
      refine r_callV (as := [.int (xs (x3 + (J 1)).toNatClampNeg), .int (xs (x3 + (J 2)).toNatClampNeg)]) (st := [.int v3]) dL_law_182 cvL_21 rfl rfl rfl rfl (Nat.le_of_ble_eq_true rfl) h (fun r M4 h => ?_)
      obtain ⟨v4, rfl, h⟩ := h
      refine r_icmp_eq (tgt := 771) dL_law_185 (by decide) (fun c_185 => ?_) (fun c_185 => ?_)
      · replace h := h.1 c_185
        refine r_iinc (v := J 5) dL_law_771 rfl rfl (by decide) rfl ?_
        refine r_goto (tgt := 18) dL_law_774 (by decide) ?_
        exact h
      · replace h := h.2 c_185
        refine r_iconst (v := J 0) dL_law_188 rfl ?_
        exact r_ret dL_law_189 rfl nb0 h
    · replace h := h.2.2.2.1 q
      refine r_table (off := 158) (tgt := 190) dL_law_32 (by rw [if_neg (by omega), q]; rfl) (by decide) ?_
      refine r_aload_n dL_law_190 rfl rfl ?_
      refine r_aload_n dL_law_191 rfl rfl ?_
      refine r_iload_n dL_law_192 rfl rfl ?_
      refine r_iconst (v := J 1) dL_law_193 rfl ?_
      refine r_iadd dL_law_194 ?_
      refine r_sld dL_law_195 rfl h.1 ?_
      replace h := h.2
      refine r_callV (as := [.int (xs (x3 + (J 1)).toNatClampNeg)]) (st := []) dL_law_196 cvL_22 rfl rfl rfl rfl (Nat.le_of_ble_eq_true rfl) h (fun r M5 h => ?_)
      obtain ⟨v5, rfl, h⟩ := h
      refine r_aload_n dL_law_199 rfl rfl ?_
      refine r_aload_n dL_law_200 rfl rfl ?_
      refine r_iload_n dL_law_201 rfl rfl ?_
      refine r_iconst (v := J 1) dL_law_202 rfl ?_
      refine r_iadd dL_law_203 ?_
      refine r_sld dL_law_204 rfl h.1 ?_
      replace h := h.2
      refine r_callV (as := [.int (xs (x3 + (J 1)).toNatClampNeg)]) (st := [.int v5]) dL_law_205 cvL_26 rfl rfl rfl rfl (Nat.le_of_ble_eq_true rfl) h (fun r M6 h => ?_)
      obtain ⟨v6, rfl, h⟩ := h
      refine r_icmp_eq (tgt := 771) dL_law_208 (by decide) (fun c_208 => ?_) (fun c_208 => ?_)
      · replace h := h.1 c_208
        refine r_iinc (v := J 5) dL_law_771 rfl rfl (by decide) rfl ?_
        refine r_goto (tgt := 18) dL_law_774 (by decide) ?_
        exact h
      · replace h := h.2 c_208
        refine r_iconst (v := J 0) dL_law_211 rfl ?_
        exact r_ret dL_law_212 rfl nb0 h
    · replace h := h.2.2.2.2.1 q
      refine r_table (off := 181) (tgt := 213) dL_law_32 (by rw [if_neg (by omega), q]; rfl) (by decide) ?_
      refine r_aload_n dL_law_213 rfl rfl ?_
      refine r_aload_n dL_law_214 rfl rfl ?_
      refine r_iload_n dL_law_215 rfl rfl ?_
      refine r_iconst (v := J 1) dL_law_216 rfl ?_
      refine r_iadd dL_law_217 ?_
      refine r_sld dL_law_218 rfl h.1 ?_
      replace h := h.2
      refine r_aload_n dL_law_219 rfl rfl ?_
      refine r_iload_n dL_law_220 rfl rfl ?_
      refine r_iconst (v := J 2) dL_law_221 rfl ?_
      refine r_iadd dL_law_222 ?_
      refine r_sld dL_law_223 rfl h.1 ?_
      replace h := h.2
      refine r_callV (as := [.int (xs (x3 + (J 1)).toNatClampNeg), .int (xs (x3 + (J 2)).toNatClampNeg)]) (st := []) dL_law_224 cvL_27 rfl rfl rfl rfl (Nat.le_of_ble_eq_true rfl) h (fun r M7 h => ?_)
      obtain ⟨v7, rfl, h⟩ := h
      refine r_aload_n dL_law_227 rfl rfl ?_
      refine r_aload_n dL_law_228 rfl rfl ?_
      refine r_iload_n dL_law_229 rfl rfl ?_
      refine r_iconst (v := J 1) dL_law_230 rfl ?_
      refine r_iadd dL_law_231 ?_
      refine r_sld dL_law_232 rfl h.1 ?_
      replace h := h.2
      refine r_aload_n dL_law_233 rfl rfl ?_
      refine r_iload_n dL_law_234 rfl rfl ?_
      refine r_iconst (v := J 2) dL_law_235 rfl ?_
      refine r_iadd dL_law_236 ?_
      refine r_sld dL_law_237 rfl h.1 ?_
      replace h := h.2
      refine r_callV (as := [.int (xs (x3 + (J 1)).toNatClampNeg), .int (xs (x3 + (J 2)).toNatClampNeg)]) (st := [.int v7]) dL_law_238 cvL_30 rfl rfl rfl rfl (Nat.le_of_ble_eq_true rfl) h (fun r M8 h => ?_)
      obtain ⟨v8, rfl, h⟩ := h
      refine r_icmp_eq (tgt := 771) dL_law_241 (by decide) (fun c_241 => ?_) (fun c_241 => ?_)
      · replace h := h.1 c_241
        refine r_iinc (v := J 5) dL_law_771 rfl rfl (by decide) rfl ?_
        refine r_goto (tgt := 18) dL_law_774 (by decide) ?_
        exact h
      · replace h := h.2 c_241
        refine r_iconst (v := J 0) dL_law_244 rfl ?_
        exact r_ret dL_law_245 rfl nb0 h
    · replace h := h.2.2.2.2.2.1 q
      refine r_table (off := 214) (tgt := 246) dL_law_32 (by rw [if_neg (by omega), q]; rfl) (by decide) ?_
      refine r_aload_n dL_law_246 rfl rfl ?_
      refine r_aload_n dL_law_247 rfl rfl ?_
      refine r_iload_n dL_law_248 rfl rfl ?_
      refine r_iconst (v := J 1) dL_law_249 rfl ?_
      refine r_iadd dL_law_250 ?_
      refine r_sld dL_law_251 rfl h.1 ?_
      replace h := h.2
      refine r_aload_n dL_law_252 rfl rfl ?_
      refine r_iload_n dL_law_253 rfl rfl ?_
      refine r_iconst (v := J 2) dL_law_254 rfl ?_
      refine r_iadd dL_law_255 ?_
      refine r_sld dL_law_256 rfl h.1 ?_
      replace h := h.2
      refine r_aload_n dL_law_257 rfl rfl ?_
      refine r_iload_n dL_law_258 rfl rfl ?_
      refine r_iconst (v := J 3) dL_law_259 rfl ?_
      refine r_iadd dL_law_260 ?_
      refine r_sld dL_law_261 rfl h.1 ?_
      replace h := h.2
      refine r_callV (as := [.int (xs (x3 + (J 1)).toNatClampNeg), .int (xs (x3 + (J 2)).toNatClampNeg), .int (xs (x3 + (J 3)).toNatClampNeg)]) (st := []) dL_law_262 cvL_31 rfl rfl rfl rfl (Nat.le_of_ble_eq_true rfl) h (fun r M9 h => ?_)
      obtain ⟨v9, rfl, h⟩ := h
      refine r_aload_n dL_law_265 rfl rfl ?_
      refine r_aload_n dL_law_266 rfl rfl ?_
      refine r_iload_n dL_law_267 rfl rfl ?_
      refine r_iconst (v := J 1) dL_law_268 rfl ?_
      refine r_iadd dL_law_269 ?_
      refine r_sld dL_law_270 rfl h.1 ?_
      replace h := h.2
      refine r_aload_n dL_law_271 rfl rfl ?_
      refine r_iload_n dL_law_272 rfl rfl ?_
      refine r_iconst (v := J 2) dL_law_273 rfl ?_
      refine r_iadd dL_law_274 ?_
      refine r_sld dL_law_275 rfl h.1 ?_
      replace h := h.2
      refine r_aload_n dL_law_276 rfl rfl ?_
      refine r_iload_n dL_law_277 rfl rfl ?_
      refine r_iconst (v := J 3) dL_law_278 rfl ?_
      refine r_iadd dL_law_279 ?_
      refine r_sld dL_law_280 rfl h.1 ?_
      replace h := h.2
      refine r_callV (as := [.int (xs (x3 + (J 1)).toNatClampNeg), .int (xs (x3 + (J 2)).toNatClampNeg), .int (xs (x3 + (J 3)).toNatClampNeg)]) (st := [.int v9]) dL_law_281 cvL_35 rfl rfl rfl rfl (Nat.le_of_ble_eq_true rfl) h (fun r M10 h => ?_)
      obtain ⟨v10, rfl, h⟩ := h
      refine r_icmp_eq (tgt := 771) dL_law_284 (by decide) (fun c_284 => ?_) (fun c_284 => ?_)
      · replace h := h.1 c_284
        refine r_iinc (v := J 5) dL_law_771 rfl rfl (by decide) rfl ?_
        refine r_goto (tgt := 18) dL_law_774 (by decide) ?_
        exact h
      · replace h := h.2 c_284
        refine r_iconst (v := J 0) dL_law_287 rfl ?_
        exact r_ret dL_law_288 rfl nb0 h
    · replace h := h.2.2.2.2.2.2.1 q
      refine r_table (off := 257) (tgt := 289) dL_law_32 (by rw [if_neg (by omega), q]; rfl) (by decide) ?_
      refine r_aload_n dL_law_289 rfl rfl ?_
      refine r_aload_n dL_law_290 rfl rfl ?_
      refine r_iload_n dL_law_291 rfl rfl ?_
      refine r_iconst (v := J 1) dL_law_292 rfl ?_
      refine r_iadd dL_law_293 ?_
      refine r_sld dL_law_294 rfl h.1 ?_
      replace h := h.2
      refine r_callV (as := [.int (xs (x3 + (J 1)).toNatClampNeg)]) (st := []) dL_law_295 cvL_36 rfl rfl rfl rfl (Nat.le_of_ble_eq_true rfl) h (fun r M11 h => ?_)
      obtain ⟨v11, rfl, h⟩ := h
      refine r_aload_n dL_law_298 rfl rfl ?_
      refine r_aload_n dL_law_299 rfl rfl ?_
      refine r_iload_n dL_law_300 rfl rfl ?_
      refine r_iconst (v := J 1) dL_law_301 rfl ?_
      refine r_iadd dL_law_302 ?_
      refine r_sld dL_law_303 rfl h.1 ?_
      replace h := h.2
      refine r_callV (as := [.int (xs (x3 + (J 1)).toNatClampNeg)]) (st := [.int v11]) dL_law_304 cvL_39 rfl rfl rfl rfl (Nat.le_of_ble_eq_true rfl) h (fun r M12 h => ?_)
      obtain ⟨v12, rfl, h⟩ := h
      refine r_icmp_eq (tgt := 771) dL_law_307 (by decide) (fun c_307 => ?_) (fun c_307 => ?_)
      · replace h := h.1 c_307
        refine r_iinc (v := J 5) dL_law_771 rfl rfl (by decide) rfl ?_
        refine r_goto (tgt := 18) dL_law_774 (by decide) ?_
        exact h
      · replace h := h.2 c_307
        refine r_iconst (v := J 0) dL_law_310 rfl ?_
        exact r_ret dL_law_311 rfl nb0 h
    · replace h := h.2.2.2.2.2.2.2.1 q
      refine r_table (off := 280) (tgt := 312) dL_law_32 (by rw [if_neg (by omega), q]; rfl) (by decide) ?_
      refine r_aload_n dL_law_312 rfl rfl ?_
      refine r_aload_n dL_law_313 rfl rfl ?_
      refine r_iload_n dL_law_314 rfl rfl ?_
      refine r_iconst (v := J 1) dL_law_315 rfl ?_
      refine r_iadd dL_law_316 ?_
      refine r_sld dL_law_317 rfl h.1 ?_
      replace h := h.2
      refine r_aload_n dL_law_318 rfl rfl ?_
      refine r_iload_n dL_law_319 rfl rfl ?_
      refine r_iconst (v := J 2) dL_law_320 rfl ?_
      refine r_iadd dL_law_321 ?_
      refine r_sld dL_law_322 rfl h.1 ?_
      replace h := h.2
      refine r_aload_n dL_law_323 rfl rfl ?_
      refine r_iload_n dL_law_324 rfl rfl ?_
      refine r_iconst (v := J 3) dL_law_325 rfl ?_
      refine r_iadd dL_law_326 ?_
      refine r_sld dL_law_327 rfl h.1 ?_
      replace h := h.2
      refine r_callV (as := [.int (xs (x3 + (J 1)).toNatClampNeg), .int (xs (x3 + (J 2)).toNatClampNeg), .int (xs (x3 + (J 3)).toNatClampNeg)]) (st := []) dL_law_328 cvL_40 rfl rfl rfl rfl (Nat.le_of_ble_eq_true rfl) h (fun r M13 h => ?_)
      obtain ⟨v13, rfl, h⟩ := h
      refine r_aload_n dL_law_331 rfl rfl ?_
      refine r_aload_n dL_law_332 rfl rfl ?_
      refine r_iload_n dL_law_333 rfl rfl ?_
      refine r_iconst (v := J 1) dL_law_334 rfl ?_
      refine r_iadd dL_law_335 ?_
      refine r_sld dL_law_336 rfl h.1 ?_
      replace h := h.2
      refine r_aload_n dL_law_337 rfl rfl ?_
      refine r_iload_n dL_law_338 rfl rfl ?_
      refine r_iconst (v := J 2) dL_law_339 rfl ?_
      refine r_iadd dL_law_340 ?_
      refine r_sld dL_law_341 rfl h.1 ?_
      replace h := h.2
      refine r_aload_n dL_law_342 rfl rfl ?_
      refine r_iload_n dL_law_343 rfl rfl ?_
      refine r_iconst (v := J 3) dL_law_344 rfl ?_
      refine r_iadd dL_law_345 ?_
      refine r_sld dL_law_346 rfl h.1 ?_
      replace h := h.2
      refine r_callV (as := [.int (xs (x3 + (J 1)).toNatClampNeg), .int (xs (x3 + (J 2)).toNatClampNeg), .int (xs (x3 + (J 3)).toNatClampNeg)]) (st := [.int v13]) dL_law_347 cvL_43 rfl rfl rfl rfl (Nat.le_of_ble_eq_true rfl) h (fun r M14 h => ?_)
      obtain ⟨v14, rfl, h⟩ := h
      refine r_icmp_eq (tgt := 771) dL_law_350 (by decide) (fun c_350 => ?_) (fun c_350 => ?_)
      · replace h := h.1 c_350
        refine r_iinc (v := J 5) dL_law_771 rfl rfl (by decide) rfl ?_
        refine r_goto (tgt := 18) dL_law_774 (by decide) ?_
        exact h
      · replace h := h.2 c_350
        refine r_iconst (v := J 0) dL_law_353 rfl ?_
        exact r_ret dL_law_354 rfl nb0 h
    · replace h := h.2.2.2.2.2.2.2.2.1 q
      refine r_table (off := 323) (tgt := 355) dL_law_32 (by rw [if_neg (by omega), q]; rfl) (by decide) ?_
      refine r_aload_n dL_law_355 rfl rfl ?_
      refine r_aload_n dL_law_356 rfl rfl ?_
      refine r_iload_n dL_law_357 rfl rfl ?_
      refine r_iconst (v := J 1) dL_law_358 rfl ?_
      refine r_iadd dL_law_359 ?_
      refine r_sld dL_law_360 rfl h.1 ?_
      replace h := h.2
      refine r_aload_n dL_law_361 rfl rfl ?_
      refine r_iload_n dL_law_362 rfl rfl ?_
      refine r_iconst (v := J 2) dL_law_363 rfl ?_
      refine r_iadd dL_law_364 ?_
      refine r_sld dL_law_365 rfl h.1 ?_
      replace h := h.2
      refine r_aload_n dL_law_366 rfl rfl ?_
      refine r_iload_n dL_law_367 rfl rfl ?_
      refine r_iconst (v := J 3) dL_law_368 rfl ?_
      refine r_iadd dL_law_369 ?_
      refine r_sld dL_law_370 rfl h.1 ?_
      replace h := h.2
      refine r_callV (as := [.int (xs (x3 + (J 1)).toNatClampNeg), .int (xs (x3 + (J 2)).toNatClampNeg), .int (xs (x3 + (J 3)).toNatClampNeg)]) (st := []) dL_law_371 cvL_44 rfl rfl rfl rfl (Nat.le_of_ble_eq_true rfl) h (fun r M15 h => ?_)
      obtain ⟨v15, rfl, h⟩ := h
      refine r_aload_n dL_law_374 rfl rfl ?_
      refine r_aload_n dL_law_375 rfl rfl ?_
      refine r_iload_n dL_law_376 rfl rfl ?_
      refine r_iconst (v := J 1) dL_law_377 rfl ?_
      refine r_iadd dL_law_378 ?_
      refine r_sld dL_law_379 rfl h.1 ?_
      replace h := h.2
      refine r_aload_n dL_law_380 rfl rfl ?_
      refine r_iload_n dL_law_381 rfl rfl ?_
      refine r_iconst (v := J 2) dL_law_382 rfl ?_
      refine r_iadd dL_law_383 ?_
      refine r_sld dL_law_384 rfl h.1 ?_
      replace h := h.2
      refine r_aload_n dL_law_385 rfl rfl ?_
      refine r_iload_n dL_law_386 rfl rfl ?_
      refine r_iconst (v := J 3) dL_law_387 rfl ?_
      refine r_iadd dL_law_388 ?_
      refine r_sld dL_law_389 rfl h.1 ?_
      replace h := h.2
      refine r_callV (as := [.int (xs (x3 + (J 1)).toNatClampNeg), .int (xs (x3 + (J 2)).toNatClampNeg), .int (xs (x3 + (J 3)).toNatClampNeg)]) (st := [.int v15]) dL_law_390 cvL_47 rfl rfl rfl rfl (Nat.le_of_ble_eq_true rfl) h (fun r M16 h => ?_)
      obtain ⟨v16, rfl, h⟩ := h
      refine r_icmp_eq (tgt := 771) dL_law_393 (by decide) (fun c_393 => ?_) (fun c_393 => ?_)
      · replace h := h.1 c_393
        refine r_iinc (v := J 5) dL_law_771 rfl rfl (by decide) rfl ?_
        refine r_goto (tgt := 18) dL_law_774 (by decide) ?_
        exact h
      · replace h := h.2 c_393
        refine r_iconst (v := J 0) dL_law_396 rfl ?_
        exact r_ret dL_law_397 rfl nb0 h
    · replace h := h.2.2.2.2.2.2.2.2.2.1 q
      refine r_table (off := 366) (tgt := 398) dL_law_32 (by rw [if_neg (by omega), q]; rfl) (by decide) ?_
      refine r_aload_n dL_law_398 rfl rfl ?_
      refine r_aload_n dL_law_399 rfl rfl ?_
      refine r_iload_n dL_law_400 rfl rfl ?_
      refine r_iconst (v := J 1) dL_law_401 rfl ?_
      refine r_iadd dL_law_402 ?_
      refine r_sld dL_law_403 rfl h.1 ?_
      replace h := h.2
      refine r_aload_n dL_law_404 rfl rfl ?_
      refine r_iload_n dL_law_405 rfl rfl ?_
      refine r_iconst (v := J 2) dL_law_406 rfl ?_
      refine r_iadd dL_law_407 ?_
      refine r_sld dL_law_408 rfl h.1 ?_
      replace h := h.2
      refine r_aload_n dL_law_409 rfl rfl ?_
      refine r_iload_n dL_law_410 rfl rfl ?_
      refine r_iconst (v := J 3) dL_law_411 rfl ?_
      refine r_iadd dL_law_412 ?_
      refine r_sld dL_law_413 rfl h.1 ?_
      replace h := h.2
      refine r_callV (as := [.int (xs (x3 + (J 1)).toNatClampNeg), .int (xs (x3 + (J 2)).toNatClampNeg), .int (xs (x3 + (J 3)).toNatClampNeg)]) (st := []) dL_law_414 cvL_48 rfl rfl rfl rfl (Nat.le_of_ble_eq_true rfl) h (fun r M17 h => ?_)
      obtain ⟨v17, rfl, h⟩ := h
      refine r_aload_n dL_law_417 rfl rfl ?_
      refine r_aload_n dL_law_418 rfl rfl ?_
      refine r_iload_n dL_law_419 rfl rfl ?_
      refine r_iconst (v := J 1) dL_law_420 rfl ?_
      refine r_iadd dL_law_421 ?_
      refine r_sld dL_law_422 rfl h.1 ?_
      replace h := h.2
      refine r_aload_n dL_law_423 rfl rfl ?_
      refine r_iload_n dL_law_424 rfl rfl ?_
      refine r_iconst (v := J 2) dL_law_425 rfl ?_
      refine r_iadd dL_law_426 ?_
      refine r_sld dL_law_427 rfl h.1 ?_
      replace h := h.2
      refine r_aload_n dL_law_428 rfl rfl ?_
      refine r_iload_n dL_law_429 rfl rfl ?_
      refine r_iconst (v := J 3) dL_law_430 rfl ?_
      refine r_iadd dL_law_431 ?_
      refine r_sld dL_law_432 rfl h.1 ?_
      replace h := h.2
      refine r_callV (as := [.int (xs (x3 + (J 1)).toNatClampNeg), .int (xs (x3 + (J 2)).toNatClampNeg), .int (xs (x3 + (J 3)).toNatClampNeg)]) (st := [.int v17]) dL_law_433 cvL_51 rfl rfl rfl rfl (Nat.le_of_ble_eq_true rfl) h (fun r M18 h => ?_)
      obtain ⟨v18, rfl, h⟩ := h
      refine r_icmp_eq (tgt := 771) dL_law_436 (by decide) (fun c_436 => ?_) (fun c_436 => ?_)
      · replace h := h.1 c_436
        refine r_iinc (v := J 5) dL_law_771 rfl rfl (by decide) rfl ?_
        refine r_goto (tgt := 18) dL_law_774 (by decide) ?_
        exact h
      · replace h := h.2 c_436
        refine r_iconst (v := J 0) dL_law_439 rfl ?_
        exact r_ret dL_law_440 rfl nb0 h
    · replace h := h.2.2.2.2.2.2.2.2.2.2.1 q
      refine r_table (off := 409) (tgt := 441) dL_law_32 (by rw [if_neg (by omega), q]; rfl) (by decide) ?_
      refine r_aload_n dL_law_441 rfl rfl ?_
      refine r_aload_n dL_law_442 rfl rfl ?_
      refine r_iload_n dL_law_443 rfl rfl ?_
      refine r_iconst (v := J 1) dL_law_444 rfl ?_
      refine r_iadd dL_law_445 ?_
      refine r_sld dL_law_446 rfl h.1 ?_
      replace h := h.2
      refine r_callV (as := [.int (xs (x3 + (J 1)).toNatClampNeg)]) (st := []) dL_law_447 cvL_52 rfl rfl rfl rfl (Nat.le_of_ble_eq_true rfl) h (fun r M19 h => ?_)
      obtain ⟨v19, rfl, h⟩ := h
      refine r_aload_n dL_law_450 rfl rfl ?_
      refine r_aload_n dL_law_451 rfl rfl ?_
      refine r_iload_n dL_law_452 rfl rfl ?_
      refine r_iconst (v := J 1) dL_law_453 rfl ?_
      refine r_iadd dL_law_454 ?_
      refine r_sld dL_law_455 rfl h.1 ?_
      replace h := h.2
      refine r_callV (as := [.int (xs (x3 + (J 1)).toNatClampNeg)]) (st := [.int v19]) dL_law_456 cvL_55 rfl rfl rfl rfl (Nat.le_of_ble_eq_true rfl) h (fun r M20 h => ?_)
      obtain ⟨v20, rfl, h⟩ := h
      refine r_icmp_eq (tgt := 771) dL_law_459 (by decide) (fun c_459 => ?_) (fun c_459 => ?_)
      · replace h := h.1 c_459
        refine r_iinc (v := J 5) dL_law_771 rfl rfl (by decide) rfl ?_
        refine r_goto (tgt := 18) dL_law_774 (by decide) ?_
        exact h
      · replace h := h.2 c_459
        refine r_iconst (v := J 0) dL_law_462 rfl ?_
        exact r_ret dL_law_463 rfl nb0 h
    · replace h := h.2.2.2.2.2.2.2.2.2.2.2.1 q
      refine r_table (off := 432) (tgt := 464) dL_law_32 (by rw [if_neg (by omega), q]; rfl) (by decide) ?_
      refine r_aload_n dL_law_464 rfl rfl ?_
      refine r_aload_n dL_law_465 rfl rfl ?_
      refine r_iload_n dL_law_466 rfl rfl ?_
      refine r_iconst (v := J 1) dL_law_467 rfl ?_
      refine r_iadd dL_law_468 ?_
      refine r_sld dL_law_469 rfl h.1 ?_
      replace h := h.2
      refine r_callV (as := [.int (xs (x3 + (J 1)).toNatClampNeg)]) (st := []) dL_law_470 cvL_56 rfl rfl rfl rfl (Nat.le_of_ble_eq_true rfl) h (fun r M21 h => ?_)
      obtain ⟨v21, rfl, h⟩ := h
      refine r_aload_n dL_law_473 rfl rfl ?_
      refine r_aload_n dL_law_474 rfl rfl ?_
      refine r_iload_n dL_law_475 rfl rfl ?_
      refine r_iconst (v := J 1) dL_law_476 rfl ?_
      refine r_iadd dL_law_477 ?_
      refine r_sld dL_law_478 rfl h.1 ?_
      replace h := h.2
      refine r_callV (as := [.int (xs (x3 + (J 1)).toNatClampNeg)]) (st := [.int v21]) dL_law_479 cvL_59 rfl rfl rfl rfl (Nat.le_of_ble_eq_true rfl) h (fun r M22 h => ?_)
      obtain ⟨v22, rfl, h⟩ := h
      refine r_icmp_eq (tgt := 771) dL_law_482 (by decide) (fun c_482 => ?_) (fun c_482 => ?_)
      · replace h := h.1 c_482
        refine r_iinc (v := J 5) dL_law_771 rfl rfl (by decide) rfl ?_
        refine r_goto (tgt := 18) dL_law_774 (by decide) ?_
        exact h
      · replace h := h.2 c_482
        refine r_iconst (v := J 0) dL_law_485 rfl ?_
        exact r_ret dL_law_486 rfl nb0 h
    · replace h := h.2.2.2.2.2.2.2.2.2.2.2.2.1 q
      refine r_table (off := 455) (tgt := 487) dL_law_32 (by rw [if_neg (by omega), q]; rfl) (by decide) ?_
      refine r_aload_n dL_law_487 rfl rfl ?_
      refine r_aload_n dL_law_488 rfl rfl ?_
      refine r_iload_n dL_law_489 rfl rfl ?_
      refine r_iconst (v := J 1) dL_law_490 rfl ?_
      refine r_iadd dL_law_491 ?_
      refine r_sld dL_law_492 rfl h.1 ?_
      replace h := h.2
      refine r_aload_n dL_law_493 rfl rfl ?_
      refine r_iload_n dL_law_494 rfl rfl ?_
      refine r_iconst (v := J 2) dL_law_495 rfl ?_
      refine r_iadd dL_law_496 ?_
      refine r_sld dL_law_497 rfl h.1 ?_
      replace h := h.2
      refine r_callV (as := [.int (xs (x3 + (J 1)).toNatClampNeg), .int (xs (x3 + (J 2)).toNatClampNeg)]) (st := []) dL_law_498 cvL_60 rfl rfl rfl rfl (Nat.le_of_ble_eq_true rfl) h (fun r M23 h => ?_)
      obtain ⟨v23, rfl, h⟩ := h
      refine r_aload_n dL_law_501 rfl rfl ?_
      refine r_aload_n dL_law_502 rfl rfl ?_
      refine r_iload_n dL_law_503 rfl rfl ?_
      refine r_iconst (v := J 1) dL_law_504 rfl ?_
      refine r_iadd dL_law_505 ?_
      refine r_sld dL_law_506 rfl h.1 ?_
      replace h := h.2
      refine r_aload_n dL_law_507 rfl rfl ?_
      refine r_iload_n dL_law_508 rfl rfl ?_
      refine r_iconst (v := J 2) dL_law_509 rfl ?_
      refine r_iadd dL_law_510 ?_
      refine r_sld dL_law_511 rfl h.1 ?_
      replace h := h.2
      refine r_callV (as := [.int (xs (x3 + (J 1)).toNatClampNeg), .int (xs (x3 + (J 2)).toNatClampNeg)]) (st := [.int v23]) dL_law_512 cvL_63 rfl rfl rfl rfl (Nat.le_of_ble_eq_true rfl) h (fun r M24 h => ?_)
      obtain ⟨v24, rfl, h⟩ := h
      refine r_icmp_eq (tgt := 771) dL_law_515 (by decide) (fun c_515 => ?_) (fun c_515 => ?_)
      · replace h := h.1 c_515
        refine r_iinc (v := J 5) dL_law_771 rfl rfl (by decide) rfl ?_
        refine r_goto (tgt := 18) dL_law_774 (by decide) ?_
        exact h
      · replace h := h.2 c_515
        refine r_iconst (v := J 0) dL_law_518 rfl ?_
        exact r_ret dL_law_519 rfl nb0 h
    · replace h := h.2.2.2.2.2.2.2.2.2.2.2.2.2.1 q
      refine r_table (off := 488) (tgt := 520) dL_law_32 (by rw [if_neg (by omega), q]; rfl) (by decide) ?_
      refine r_aload_n dL_law_520 rfl rfl ?_
      refine r_aload_n dL_law_521 rfl rfl ?_
      refine r_iload_n dL_law_522 rfl rfl ?_
      refine r_iconst (v := J 1) dL_law_523 rfl ?_
      refine r_iadd dL_law_524 ?_
      refine r_sld dL_law_525 rfl h.1 ?_
      replace h := h.2
      refine r_aload_n dL_law_526 rfl rfl ?_
      refine r_iload_n dL_law_527 rfl rfl ?_
      refine r_iconst (v := J 2) dL_law_528 rfl ?_
      refine r_iadd dL_law_529 ?_
      refine r_sld dL_law_530 rfl h.1 ?_
      replace h := h.2
      refine r_callV (as := [.int (xs (x3 + (J 1)).toNatClampNeg), .int (xs (x3 + (J 2)).toNatClampNeg)]) (st := []) dL_law_531 cvL_64 rfl rfl rfl rfl (Nat.le_of_ble_eq_true rfl) h (fun r M25 h => ?_)
      obtain ⟨v25, rfl, h⟩ := h
      refine r_aload_n dL_law_534 rfl rfl ?_
      refine r_aload_n dL_law_535 rfl rfl ?_
      refine r_iload_n dL_law_536 rfl rfl ?_
      refine r_iconst (v := J 1) dL_law_537 rfl ?_
      refine r_iadd dL_law_538 ?_
      refine r_sld dL_law_539 rfl h.1 ?_
      replace h := h.2
      refine r_aload_n dL_law_540 rfl rfl ?_
      refine r_iload_n dL_law_541 rfl rfl ?_
      refine r_iconst (v := J 2) dL_law_542 rfl ?_
      refine r_iadd dL_law_543 ?_
      refine r_sld dL_law_544 rfl h.1 ?_
      replace h := h.2
      refine r_callV (as := [.int (xs (x3 + (J 1)).toNatClampNeg), .int (xs (x3 + (J 2)).toNatClampNeg)]) (st := [.int v25]) dL_law_545 cvL_67 rfl rfl rfl rfl (Nat.le_of_ble_eq_true rfl) h (fun r M26 h => ?_)
      obtain ⟨v26, rfl, h⟩ := h
      refine r_icmp_eq (tgt := 771) dL_law_548 (by decide) (fun c_548 => ?_) (fun c_548 => ?_)
      · replace h := h.1 c_548
        refine r_iinc (v := J 5) dL_law_771 rfl rfl (by decide) rfl ?_
        refine r_goto (tgt := 18) dL_law_774 (by decide) ?_
        exact h
      · replace h := h.2 c_548
        refine r_iconst (v := J 0) dL_law_551 rfl ?_
        exact r_ret dL_law_552 rfl nb0 h
    · replace h := h.2.2.2.2.2.2.2.2.2.2.2.2.2.2.1 q
      refine r_table (off := 521) (tgt := 553) dL_law_32 (by rw [if_neg (by omega), q]; rfl) (by decide) ?_
      refine r_aload_n dL_law_553 rfl rfl ?_
      refine r_aload_n dL_law_554 rfl rfl ?_
      refine r_iload_n dL_law_555 rfl rfl ?_
      refine r_iconst (v := J 1) dL_law_556 rfl ?_
      refine r_iadd dL_law_557 ?_
      refine r_sld dL_law_558 rfl h.1 ?_
      replace h := h.2
      refine r_aload_n dL_law_559 rfl rfl ?_
      refine r_iload_n dL_law_560 rfl rfl ?_
      refine r_iconst (v := J 2) dL_law_561 rfl ?_
      refine r_iadd dL_law_562 ?_
      refine r_sld dL_law_563 rfl h.1 ?_
      replace h := h.2
      refine r_callV (as := [.int (xs (x3 + (J 1)).toNatClampNeg), .int (xs (x3 + (J 2)).toNatClampNeg)]) (st := []) dL_law_564 cvL_68 rfl rfl rfl rfl (Nat.le_of_ble_eq_true rfl) h (fun r M27 h => ?_)
      obtain ⟨v27, rfl, h⟩ := h
      refine r_aload_n dL_law_567 rfl rfl ?_
      refine r_aload_n dL_law_568 rfl rfl ?_
      refine r_iload_n dL_law_569 rfl rfl ?_
      refine r_iconst (v := J 1) dL_law_570 rfl ?_
      refine r_iadd dL_law_571 ?_
      refine r_sld dL_law_572 rfl h.1 ?_
      replace h := h.2
      refine r_aload_n dL_law_573 rfl rfl ?_
      refine r_iload_n dL_law_574 rfl rfl ?_
      refine r_iconst (v := J 2) dL_law_575 rfl ?_
      refine r_iadd dL_law_576 ?_
      refine r_sld dL_law_577 rfl h.1 ?_
      replace h := h.2
      refine r_callV (as := [.int (xs (x3 + (J 1)).toNatClampNeg), .int (xs (x3 + (J 2)).toNatClampNeg)]) (st := [.int v27]) dL_law_578 cvL_71 rfl rfl rfl rfl (Nat.le_of_ble_eq_true rfl) h (fun r M28 h => ?_)
      obtain ⟨v28, rfl, h⟩ := h
      refine r_icmp_eq (tgt := 771) dL_law_581 (by decide) (fun c_581 => ?_) (fun c_581 => ?_)
      · replace h := h.1 c_581
        refine r_iinc (v := J 5) dL_law_771 rfl rfl (by decide) rfl ?_
        refine r_goto (tgt := 18) dL_law_774 (by decide) ?_
        exact h
      · replace h := h.2 c_581
        refine r_iconst (v := J 0) dL_law_584 rfl ?_
        exact r_ret dL_law_585 rfl nb0 h
    · replace h := h.2.2.2.2.2.2.2.2.2.2.2.2.2.2.2.1 q
      refine r_table (off := 554) (tgt := 586) dL_law_32 (by rw [if_neg (by omega), q]; rfl) (by decide) ?_
      refine r_aload_n dL_law_586 rfl rfl ?_
      refine r_aload_n dL_law_587 rfl rfl ?_
      refine r_iload_n dL_law_588 rfl rfl ?_
      refine r_iconst (v := J 1) dL_law_589 rfl ?_
      refine r_iadd dL_law_590 ?_
      refine r_sld dL_law_591 rfl h.1 ?_
      replace h := h.2
      refine r_callV (as := [.int (xs (x3 + (J 1)).toNatClampNeg)]) (st := []) dL_law_592 cvL_72 rfl rfl rfl rfl (Nat.le_of_ble_eq_true rfl) h (fun r M29 h => ?_)
      obtain ⟨v29, rfl, h⟩ := h
      refine r_aload_n dL_law_595 rfl rfl ?_
      refine r_aload_n dL_law_596 rfl rfl ?_
      refine r_iload_n dL_law_597 rfl rfl ?_
      refine r_iconst (v := J 1) dL_law_598 rfl ?_
      refine r_iadd dL_law_599 ?_
      refine r_sld dL_law_600 rfl h.1 ?_
      replace h := h.2
      refine r_callV (as := [.int (xs (x3 + (J 1)).toNatClampNeg)]) (st := [.int v29]) dL_law_601 cvL_75 rfl rfl rfl rfl (Nat.le_of_ble_eq_true rfl) h (fun r M30 h => ?_)
      obtain ⟨v30, rfl, h⟩ := h
      refine r_icmp_eq (tgt := 771) dL_law_604 (by decide) (fun c_604 => ?_) (fun c_604 => ?_)
      · replace h := h.1 c_604
        refine r_iinc (v := J 5) dL_law_771 rfl rfl (by decide) rfl ?_
        refine r_goto (tgt := 18) dL_law_774 (by decide) ?_
        exact h
      · replace h := h.2 c_604
        refine r_iconst (v := J 0) dL_law_607 rfl ?_
        exact r_ret dL_law_608 rfl nb0 h
    · replace h := h.2.2.2.2.2.2.2.2.2.2.2.2.2.2.2.2.1 q
      refine r_table (off := 577) (tgt := 609) dL_law_32 (by rw [if_neg (by omega), q]; rfl) (by decide) ?_
      refine r_aload_n dL_law_609 rfl rfl ?_
      refine r_aload_n dL_law_610 rfl rfl ?_
      refine r_iload_n dL_law_611 rfl rfl ?_
      refine r_iconst (v := J 1) dL_law_612 rfl ?_
      refine r_iadd dL_law_613 ?_
      refine r_sld dL_law_614 rfl h.1 ?_
      replace h := h.2
      refine r_aload_n dL_law_615 rfl rfl ?_
      refine r_iload_n dL_law_616 rfl rfl ?_
      refine r_iconst (v := J 2) dL_law_617 rfl ?_
      refine r_iadd dL_law_618 ?_
      refine r_sld dL_law_619 rfl h.1 ?_
      replace h := h.2
      refine r_aload_n dL_law_620 rfl rfl ?_
      refine r_iload_n dL_law_621 rfl rfl ?_
      refine r_iconst (v := J 3) dL_law_622 rfl ?_
      refine r_iadd dL_law_623 ?_
      refine r_sld dL_law_624 rfl h.1 ?_
      replace h := h.2
      refine r_callV (as := [.int (xs (x3 + (J 1)).toNatClampNeg), .int (xs (x3 + (J 2)).toNatClampNeg), .int (xs (x3 + (J 3)).toNatClampNeg)]) (st := []) dL_law_625 cvL_76 rfl rfl rfl rfl (Nat.le_of_ble_eq_true rfl) h (fun r M31 h => ?_)
      obtain ⟨v31, rfl, h⟩ := h
      refine r_aload_n dL_law_628 rfl rfl ?_
      refine r_aload_n dL_law_629 rfl rfl ?_
      refine r_iload_n dL_law_630 rfl rfl ?_
      refine r_iconst (v := J 1) dL_law_631 rfl ?_
      refine r_iadd dL_law_632 ?_
      refine r_sld dL_law_633 rfl h.1 ?_
      replace h := h.2
      refine r_aload_n dL_law_634 rfl rfl ?_
      refine r_iload_n dL_law_635 rfl rfl ?_
      refine r_iconst (v := J 2) dL_law_636 rfl ?_
      refine r_iadd dL_law_637 ?_
      refine r_sld dL_law_638 rfl h.1 ?_
      replace h := h.2
      refine r_aload_n dL_law_639 rfl rfl ?_
      refine r_iload_n dL_law_640 rfl rfl ?_
      refine r_iconst (v := J 3) dL_law_641 rfl ?_
      refine r_iadd dL_law_642 ?_
      refine r_sld dL_law_643 rfl h.1 ?_
      replace h := h.2
      refine r_callV (as := [.int (xs (x3 + (J 1)).toNatClampNeg), .int (xs (x3 + (J 2)).toNatClampNeg), .int (xs (x3 + (J 3)).toNatClampNeg)]) (st := [.int v31]) dL_law_644 cvL_79 rfl rfl rfl rfl (Nat.le_of_ble_eq_true rfl) h (fun r M32 h => ?_)
      obtain ⟨v32, rfl, h⟩ := h
      refine r_icmp_eq (tgt := 771) dL_law_647 (by decide) (fun c_647 => ?_) (fun c_647 => ?_)
      · replace h := h.1 c_647
        refine r_iinc (v := J 5) dL_law_771 rfl rfl (by decide) rfl ?_
        refine r_goto (tgt := 18) dL_law_774 (by decide) ?_
        exact h
      · replace h := h.2 c_647
        refine r_iconst (v := J 0) dL_law_650 rfl ?_
        exact r_ret dL_law_651 rfl nb0 h
    · replace h := h.2.2.2.2.2.2.2.2.2.2.2.2.2.2.2.2.2.1 q
      refine r_table (off := 620) (tgt := 652) dL_law_32 (by rw [if_neg (by omega), q]; rfl) (by decide) ?_
      refine r_aload_n dL_law_652 rfl rfl ?_
      refine r_aload_n dL_law_653 rfl rfl ?_
      refine r_iload_n dL_law_654 rfl rfl ?_
      refine r_iconst (v := J 1) dL_law_655 rfl ?_
      refine r_iadd dL_law_656 ?_
      refine r_sld dL_law_657 rfl h.1 ?_
      replace h := h.2
      refine r_aload_n dL_law_658 rfl rfl ?_
      refine r_iload_n dL_law_659 rfl rfl ?_
      refine r_iconst (v := J 2) dL_law_660 rfl ?_
      refine r_iadd dL_law_661 ?_
      refine r_sld dL_law_662 rfl h.1 ?_
      replace h := h.2
      refine r_aload_n dL_law_663 rfl rfl ?_
      refine r_iload_n dL_law_664 rfl rfl ?_
      refine r_iconst (v := J 3) dL_law_665 rfl ?_
      refine r_iadd dL_law_666 ?_
      refine r_sld dL_law_667 rfl h.1 ?_
      replace h := h.2
      refine r_aload_n dL_law_668 rfl rfl ?_
      refine r_iload_n dL_law_669 rfl rfl ?_
      refine r_iconst (v := J 4) dL_law_670 rfl ?_
      refine r_iadd dL_law_671 ?_
      refine r_sld dL_law_672 rfl h.1 ?_
      replace h := h.2
      refine r_callV (as := [.int (xs (x3 + (J 1)).toNatClampNeg), .int (xs (x3 + (J 2)).toNatClampNeg), .int (xs (x3 + (J 3)).toNatClampNeg), .int (xs (x3 + (J 4)).toNatClampNeg)]) (st := []) dL_law_673 cvL_80 rfl rfl rfl rfl (Nat.le_of_ble_eq_true rfl) h (fun r M33 h => ?_)
      obtain ⟨v33, rfl, h⟩ := h
      refine r_aload_n dL_law_676 rfl rfl ?_
      refine r_aload_n dL_law_677 rfl rfl ?_
      refine r_iload_n dL_law_678 rfl rfl ?_
      refine r_iconst (v := J 1) dL_law_679 rfl ?_
      refine r_iadd dL_law_680 ?_
      refine r_sld dL_law_681 rfl h.1 ?_
      replace h := h.2
      refine r_aload_n dL_law_682 rfl rfl ?_
      refine r_iload_n dL_law_683 rfl rfl ?_
      refine r_iconst (v := J 2) dL_law_684 rfl ?_
      refine r_iadd dL_law_685 ?_
      refine r_sld dL_law_686 rfl h.1 ?_
      replace h := h.2
      refine r_aload_n dL_law_687 rfl rfl ?_
      refine r_iload_n dL_law_688 rfl rfl ?_
      refine r_iconst (v := J 3) dL_law_689 rfl ?_
      refine r_iadd dL_law_690 ?_
      refine r_sld dL_law_691 rfl h.1 ?_
      replace h := h.2
      refine r_aload_n dL_law_692 rfl rfl ?_
      refine r_iload_n dL_law_693 rfl rfl ?_
      refine r_iconst (v := J 4) dL_law_694 rfl ?_
      refine r_iadd dL_law_695 ?_
      refine r_sld dL_law_696 rfl h.1 ?_
      replace h := h.2
      refine r_callV (as := [.int (xs (x3 + (J 1)).toNatClampNeg), .int (xs (x3 + (J 2)).toNatClampNeg), .int (xs (x3 + (J 3)).toNatClampNeg), .int (xs (x3 + (J 4)).toNatClampNeg)]) (st := [.int v33]) dL_law_697 cvL_84 rfl rfl rfl rfl (Nat.le_of_ble_eq_true rfl) h (fun r M34 h => ?_)
      obtain ⟨v34, rfl, h⟩ := h
      refine r_icmp_eq (tgt := 771) dL_law_700 (by decide) (fun c_700 => ?_) (fun c_700 => ?_)
      · replace h := h.1 c_700
        refine r_iinc (v := J 5) dL_law_771 rfl rfl (by decide) rfl ?_
        refine r_goto (tgt := 18) dL_law_774 (by decide) ?_
        exact h
      · replace h := h.2 c_700
        refine r_iconst (v := J 0) dL_law_703 rfl ?_
        exact r_ret dL_law_704 rfl nb0 h
    · replace h := h.2.2.2.2.2.2.2.2.2.2.2.2.2.2.2.2.2.2.1 q
      refine r_table (off := 673) (tgt := 705) dL_law_32 (by rw [if_neg (by omega), q]; rfl) (by decide) ?_
      refine r_aload_n dL_law_705 rfl rfl ?_
      refine r_aload_n dL_law_706 rfl rfl ?_
      refine r_iload_n dL_law_707 rfl rfl ?_
      refine r_iconst (v := J 1) dL_law_708 rfl ?_
      refine r_iadd dL_law_709 ?_
      refine r_sld dL_law_710 rfl h.1 ?_
      replace h := h.2
      refine r_aload_n dL_law_711 rfl rfl ?_
      refine r_iload_n dL_law_712 rfl rfl ?_
      refine r_iconst (v := J 2) dL_law_713 rfl ?_
      refine r_iadd dL_law_714 ?_
      refine r_sld dL_law_715 rfl h.1 ?_
      replace h := h.2
      refine r_aload_n dL_law_716 rfl rfl ?_
      refine r_iload_n dL_law_717 rfl rfl ?_
      refine r_iconst (v := J 3) dL_law_718 rfl ?_
      refine r_iadd dL_law_719 ?_
      refine r_sld dL_law_720 rfl h.1 ?_
      replace h := h.2
      refine r_callV (as := [.int (xs (x3 + (J 1)).toNatClampNeg), .int (xs (x3 + (J 2)).toNatClampNeg), .int (xs (x3 + (J 3)).toNatClampNeg)]) (st := []) dL_law_721 cvL_85 rfl rfl rfl rfl (Nat.le_of_ble_eq_true rfl) h (fun r M35 h => ?_)
      obtain ⟨v35, rfl, h⟩ := h
      refine r_aload_n dL_law_724 rfl rfl ?_
      refine r_aload_n dL_law_725 rfl rfl ?_
      refine r_iload_n dL_law_726 rfl rfl ?_
      refine r_iconst (v := J 1) dL_law_727 rfl ?_
      refine r_iadd dL_law_728 ?_
      refine r_sld dL_law_729 rfl h.1 ?_
      replace h := h.2
      refine r_aload_n dL_law_730 rfl rfl ?_
      refine r_iload_n dL_law_731 rfl rfl ?_
      refine r_iconst (v := J 2) dL_law_732 rfl ?_
      refine r_iadd dL_law_733 ?_
      refine r_sld dL_law_734 rfl h.1 ?_
      replace h := h.2
      refine r_aload_n dL_law_735 rfl rfl ?_
      refine r_iload_n dL_law_736 rfl rfl ?_
      refine r_iconst (v := J 3) dL_law_737 rfl ?_
      refine r_iadd dL_law_738 ?_
      refine r_sld dL_law_739 rfl h.1 ?_
      replace h := h.2
      refine r_callV (as := [.int (xs (x3 + (J 1)).toNatClampNeg), .int (xs (x3 + (J 2)).toNatClampNeg), .int (xs (x3 + (J 3)).toNatClampNeg)]) (st := [.int v35]) dL_law_740 cvL_88 rfl rfl rfl rfl (Nat.le_of_ble_eq_true rfl) h (fun r M36 h => ?_)
      obtain ⟨v36, rfl, h⟩ := h
      refine r_icmp_eq (tgt := 771) dL_law_743 (by decide) (fun c_743 => ?_) (fun c_743 => ?_)
      · replace h := h.1 c_743
        refine r_iinc (v := J 5) dL_law_771 rfl rfl (by decide) rfl ?_
        refine r_goto (tgt := 18) dL_law_774 (by decide) ?_
        exact h
      · replace h := h.2 c_743
        refine r_iconst (v := J 0) dL_law_746 rfl ?_
        exact r_ret dL_law_747 rfl nb0 h
    · replace h := h.2.2.2.2.2.2.2.2.2.2.2.2.2.2.2.2.2.2.2 q
      refine r_table (off := 716) (tgt := 748) dL_law_32 (by rw [if_neg (by omega), q]; rfl) (by decide) ?_
      refine r_aload_n dL_law_748 rfl rfl ?_
      refine r_aload_n dL_law_749 rfl rfl ?_
      refine r_iload_n dL_law_750 rfl rfl ?_
      refine r_iconst (v := J 1) dL_law_751 rfl ?_
      refine r_iadd dL_law_752 ?_
      refine r_sld dL_law_753 rfl h.1 ?_
      replace h := h.2
      refine r_callV (as := [.int (xs (x3 + (J 1)).toNatClampNeg)]) (st := []) dL_law_754 cvL_89 rfl rfl rfl rfl (Nat.le_of_ble_eq_true rfl) h (fun r M37 h => ?_)
      obtain ⟨v37, rfl, h⟩ := h
      refine r_aload_n dL_law_757 rfl rfl ?_
      refine r_aload_n dL_law_758 rfl rfl ?_
      refine r_iload_n dL_law_759 rfl rfl ?_
      refine r_iconst (v := J 1) dL_law_760 rfl ?_
      refine r_iadd dL_law_761 ?_
      refine r_sld dL_law_762 rfl h.1 ?_
      replace h := h.2
      refine r_callV (as := [.int (xs (x3 + (J 1)).toNatClampNeg)]) (st := [.int v37]) dL_law_763 cvL_92 rfl rfl rfl rfl (Nat.le_of_ble_eq_true rfl) h (fun r M38 h => ?_)
      obtain ⟨v38, rfl, h⟩ := h
      refine r_icmp_eq (tgt := 771) dL_law_766 (by decide) (fun c_766 => ?_) (fun c_766 => ?_)
      · replace h := h.1 c_766
        refine r_iinc (v := J 5) dL_law_771 rfl rfl (by decide) rfl ?_
        refine r_goto (tgt := 18) dL_law_774 (by decide) ?_
        exact h
      · replace h := h.2 c_766
        refine r_iconst (v := J 0) dL_law_769 rfl ?_
        exact r_ret dL_law_770 rfl nb0 h
