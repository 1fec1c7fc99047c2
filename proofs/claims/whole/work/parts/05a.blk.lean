/-! what a call hands back -/
def ri (K : Int32 → Mem → Prop) : Post := fun r M => ∃ v, r = some v ∧ K v M
def rn (K : Mem → Prop) : Post := fun r M => r = none ∧ K M
theorem ri_some {K : Int32 → Mem → Prop} {v : Int32} {M : Mem} (h : K v M) : ri K (some v) M := ⟨v, rfl, h⟩
theorem rn_none {K : Mem → Prop} {M : Mem} (h : K M) : rn K none M := ⟨rfl, h⟩
theorem nb0 : narrow .boolean (.int (J 0)) = .int (J 0) := rfl
theorem nb1 : narrow .boolean (.int (J 1)) = .int (J 1) := rfl
theorem nbz {v : Int32} (h : v = J 0 ∨ v = J 1) : narrow .boolean (.int v) = .int v := by
  rcases h with rfl | rfl
  · exact nb0
  · exact nb1
def MX (own : String) (idx : Nat) (y : MethodName) (b : ByteArray) (n : Nat) : Prop := Cond.methodLink own idx y ∈ lw_w ∧ Cond.static y ∈ lw_w ∧ Cond.initialized "java/lang/Math" ∈ lw_w ∧ Cond.code y b n (some .int) ∈ lw_w
def jmax (x y : Int32) : Int32 := if x < y then y else x
def jabs (x : Int32) : Int32 := if 0 ≤ x then x else 0 - x
theorem mxX4_199 : MX RX4 199 Lib.Math.abs.name Lib.Math.abs.code 1 := ⟨lw_in (i := 482) (by decide +kernel) rfl, lw_in (i := 483) (by decide +kernel) rfl, lw_in (i := 37) (by decide +kernel) rfl, lw_in (i := 484) (by decide +kernel) rfl⟩
theorem mxX0_67 : MX RX0 67 Lib.Math.max.name Lib.Math.max.code 2 := ⟨lw_in (i := 532) (by decide +kernel) rfl, lw_in (i := 533) (by decide +kernel) rfl, lw_in (i := 37) (by decide +kernel) rfl, lw_in (i := 534) (by decide +kernel) rfl⟩
theorem r_max {X : Scr} {d : Nat} {y : Meth} {pc idx : Nat} {ls st : List Value} {M : Mem} {Q : Post} {a b : Int32} (hd : decode y.2.1 pc = .ok (.invokestatic idx, 3)) (hC : MX y.1.cls idx Lib.Math.max.name Lib.Math.max.code 2) (hs : (st.map fun v => v.category).sum ≤ 8) (kk : R X (d + 1) y (pc + 3) ls (.int (jmax a b) :: st) M Q) : R X (d + 1) y pc ls (.int b :: .int a :: st) M Q := by
  intro p l e rm s m args below meth c D cA ad A cells slots Z C H locs L hP hS hl
  obtain ⟨c1, c2, c3, c4⟩ := hC
  have hts := C.2.2.2.2.1
  have hr := C.2.2.2.2.2.2.2.2.2.1
  have hsum := cv_sum ad st
  refine va_mmax C.1 C.2.1 (C.2.2.1.trans hl.1.symm) C.2.2.2.1 (hts _ (WS_in c1)) (hts _ (WS_in c2)) (hts _ (WS_in c3)) (hts _ (WS_in c4)) (Nat.le_trans (Nat.le_add_left 1 d) hr.1) ?_ hr.2.2.1 hr.2.2.2 hd (kk p l e rm s m args below meth c D cA ad A cells slots Z C H locs L hP hS hl)
  have h1 := hr.2.1
  rw [hsum]
  omega
theorem r_abs {X : Scr} {d : Nat} {y : Meth} {pc idx : Nat} {ls st : List Value} {M : Mem} {Q : Post} {a : Int32} (hd : decode y.2.1 pc = .ok (.invokestatic idx, 3)) (hC : MX y.1.cls idx Lib.Math.abs.name Lib.Math.abs.code 1) (hs : (st.map fun v => v.category).sum ≤ 8) (kk : R X (d + 1) y (pc + 3) ls (.int (jabs a) :: st) M Q) : R X (d + 1) y pc ls (.int a :: st) M Q := by
  intro p l e rm s m args below meth c D cA ad A cells slots Z C H locs L hP hS hl
  obtain ⟨c1, c2, c3, c4⟩ := hC
  have hts := C.2.2.2.2.1
  have hr := C.2.2.2.2.2.2.2.2.2.1
  have hsum := cv_sum ad st
  refine va_mabs C.1 C.2.1 (C.2.2.1.trans hl.1.symm) C.2.2.2.1 (hts _ (WS_in c1)) (hts _ (WS_in c2)) (hts _ (WS_in c3)) (hts _ (WS_in c4)) (Nat.le_trans (Nat.le_add_left 1 d) hr.1) ?_ hr.2.2.1 hr.2.2.2 hd (kk p l e rm s m args below meth c D cA ad A cells slots Z C H locs L hP hS hl)
  have h1 := hr.2.1
  rw [hsum]
  omega
theorem okN : okA [] := fun v h => by cases h
theorem okI {x : Int32} {t : List Value} (h : okA t) : okA (.int x :: t) := fun v hv => by
  rcases List.mem_cons.mp hv with rfl | hv
  · exact Or.inl ⟨x, rfl⟩
  · exact h v hv
theorem okR {x : Nat} {t : List Value} (h : okA t) : okA (.ref x :: t) := fun v hv => by
  rcases List.mem_cons.mp hv with rfl | hv
  · exact Or.inr ⟨x, rfl⟩
  · exact h v hv

set_option maxRecDepth 100000 in
set_option maxHeartbeats 4000000 in
theorem b_X4_board_0 {d : Nat} {M : Mem} {Q : Post} {x1 x2 : Int32} (h : ((x1 < (J 1) → Q (some (J (-1))) M) ∧ (¬ x1 < (J 1) → (((J 12) < x1 → Q (some (J (-1))) M) ∧ (¬ (J 12) < x1 → ((x2 < (J 1) → Q (some (J (-1))) M) ∧ (¬ x2 < (J 1) → ((x2 ≤ (J 10) → (Mt d mX3_renew [.ref 1, .int x1, .int x2] M (rn fun M1 => (Mt d mX2_forgetSteps [.ref 2] M1 (rn fun M2 => Q (some (x1 * x2)) M2))))) ∧ (¬ x2 ≤ (J 10) → Q (some (J (-1))) M))))))))) : R none (d + 1) mX4_board 0 [.ref 0, .int x1, .int x2] [] M Q := by
  refine r_iload_n dX4_board_0 rfl rfl ?_
  refine r_iconst (v := J 1) dX4_board_1 rfl ?_
  refine r_icmp_lt (tgt := 22) dX4_board_2 (by decide) (fun c_2 => ?_) (fun c_2 => ?_)
  · replace h := h.1 c_2
    refine r_iconst (v := J (-1)) dX4_board_22 rfl ?_
    exact r_ret dX4_board_23 rfl rfl h
  · replace h := h.2 c_2
    refine r_iload_n dX4_board_5 rfl rfl ?_
    refine r_bipush (v := J 12) dX4_board_6 (by decide +kernel) ?_
    refine r_icmp_gt (tgt := 22) dX4_board_8 (by decide) (fun c_8 => ?_) (fun c_8 => ?_)
    · replace h := h.1 c_8
      refine r_iconst (v := J (-1)) dX4_board_22 rfl ?_
      exact r_ret dX4_board_23 rfl rfl h
    · replace h := h.2 c_8
      refine r_iload_n dX4_board_11 rfl rfl ?_
      refine r_iconst (v := J 1) dX4_board_12 rfl ?_
      refine r_icmp_lt (tgt := 22) dX4_board_13 (by decide) (fun c_13 => ?_) (fun c_13 => ?_)
      · replace h := h.1 c_13
        refine r_iconst (v := J (-1)) dX4_board_22 rfl ?_
        exact r_ret dX4_board_23 rfl rfl h
      · replace h := h.2 c_13
        refine r_iload_n dX4_board_16 rfl rfl ?_
        refine r_bipush (v := J 10) dX4_board_17 (by decide +kernel) ?_
        refine r_icmp_le (tgt := 24) dX4_board_19 (by decide) (fun c_19 => ?_) (fun c_19 => ?_)
        · replace h := h.1 c_19
          refine r_aload_n dX4_board_24 rfl rfl ?_
          refine r_getR dX4_board_25 flX4_12 rfl rfl ?_
          refine r_iload_n dX4_board_28 rfl rfl ?_
          refine r_iload_n dX4_board_29 rfl rfl ?_
          refine r_callV (as := [.int x1, .int x2]) (st := []) dX4_board_30 cvX4_41 rfl rfl rfl rfl (Nat.le_of_ble_eq_true rfl) h (fun r M1 h => ?_)
          obtain ⟨rfl, h⟩ := h
          refine r_aload_n dX4_board_33 rfl rfl ?_
          refine r_getR dX4_board_34 flX4_21 rfl rfl ?_
          refine r_callV (as := []) (st := []) dX4_board_37 cvX4_45 rfl rfl rfl rfl (Nat.le_of_ble_eq_true rfl) h (fun r M2 h => ?_)
          obtain ⟨rfl, h⟩ := h
          refine r_iload_n dX4_board_40 rfl rfl ?_
          refine r_iload_n dX4_board_41 rfl rfl ?_
          refine r_imul dX4_board_42 ?_
          exact r_ret dX4_board_43 rfl rfl h
        · replace h := h.2 c_19
          refine r_iconst (v := J (-1)) dX4_board_22 rfl ?_
          exact r_ret dX4_board_23 rfl rfl h
theorem e_X4_board {d : Nat} {M : Mem} {Q : Post} {x1 x2 : Int32} (h : ((x1 < (J 1) → Q (some (J (-1))) M) ∧ (¬ x1 < (J 1) → (((J 12) < x1 → Q (some (J (-1))) M) ∧ (¬ (J 12) < x1 → ((x2 < (J 1) → Q (some (J (-1))) M) ∧ (¬ x2 < (J 1) → ((x2 ≤ (J 10) → (Mt d mX3_renew [.ref 1, .int x1, .int x2] M (rn fun M1 => (Mt d mX2_forgetSteps [.ref 2] M1 (rn fun M2 => Q (some (x1 * x2)) M2))))) ∧ (¬ x2 ≤ (J 10) → Q (some (J (-1))) M))))))))) : Mt (d + 1) mX4_board [.ref 0, .int x1, .int x2] M Q := Mt.of (k := 0) (by decide +kernel) (okR (okI (okI okN))) (Nat.le_of_ble_eq_true rfl) rfl (b_X4_board_0 h)
set_option maxRecDepth 100000 in
set_option maxHeartbeats 4000000 in
theorem b_X4_walls_0 {d : Nat} {M : Mem} {Q : Post} {x1 x2 : Int32} (h : (Mt d mX3_hasRow [.ref 1, .int x1] M (ri fun v1 M1 => ((v1 = 0 → Q (some (J (-1))) M1) ∧ (¬ v1 = 0 → (Mt d mX3_wholeRow [.ref 1] M1 (ri fun v2 M2 => (((x2 &&& (v2 ^^^ (J (-1)))) = 0 → (Mt d mX3_isLainOn [.ref 1, .int x1, .int x2] M2 (ri fun v3 M3 => ((v3 = 0 → (Mt d mX3_setWalls [.ref 1, .int x1, .int x2] M3 (rn fun M4 => Q (some x2) M4))) ∧ (¬ v3 = 0 → Q (some (J (-2))) M3))))) ∧ (¬ (x2 &&& (v2 ^^^ (J (-1)))) = 0 → Q (some (J (-1))) M2))))))))) : R none (d + 1) mX4_walls 0 [.ref 0, .int x1, .int x2] [] M Q := by
  refine r_aload_n dX4_walls_0 rfl rfl ?_
  refine r_getR dX4_walls_1 flX4_12 rfl rfl ?_
  refine r_iload_n dX4_walls_4 rfl rfl ?_
  refine r_callV (as := [.int x1]) (st := []) dX4_walls_5 cvX4_48 rfl rfl rfl rfl (Nat.le_of_ble_eq_true rfl) h (fun r M1 h => ?_)
  obtain ⟨v1, rfl, h⟩ := h
  refine r_if_eq (tgt := 25) dX4_walls_8 (by decide) (fun c_8 => ?_) (fun c_8 => ?_)
  · replace h := h.1 c_8
    refine r_iconst (v := J (-1)) dX4_walls_25 rfl ?_
    exact r_ret dX4_walls_26 rfl rfl h
  · replace h := h.2 c_8
    refine r_iload_n dX4_walls_11 rfl rfl ?_
    refine r_aload_n dX4_walls_12 rfl rfl ?_
    refine r_getR dX4_walls_13 flX4_12 rfl rfl ?_
    refine r_callV (as := []) (st := [.int x2]) dX4_walls_16 cvX4_52 rfl rfl rfl rfl (Nat.le_of_ble_eq_true rfl) h (fun r M2 h => ?_)
    obtain ⟨v2, rfl, h⟩ := h
    refine r_iconst (v := J (-1)) dX4_walls_19 rfl ?_
    refine r_ixor dX4_walls_20 ?_
    refine r_iand dX4_walls_21 ?_
    refine r_if_eq (tgt := 27) dX4_walls_22 (by decide) (fun c_22 => ?_) (fun c_22 => ?_)
    · replace h := h.1 c_22
      refine r_aload_n dX4_walls_27 rfl rfl ?_
      refine r_getR dX4_walls_28 flX4_12 rfl rfl ?_
      refine r_iload_n dX4_walls_31 rfl rfl ?_
      refine r_iload_n dX4_walls_32 rfl rfl ?_
      refine r_callV (as := [.int x1, .int x2]) (st := []) dX4_walls_33 cvX4_56 rfl rfl rfl rfl (Nat.le_of_ble_eq_true rfl) h (fun r M3 h => ?_)
      obtain ⟨v3, rfl, h⟩ := h
      refine r_if_eq (tgt := 42) dX4_walls_36 (by decide) (fun c_36 => ?_) (fun c_36 => ?_)
      · replace h := h.1 c_36
        refine r_aload_n dX4_walls_42 rfl rfl ?_
        refine r_getR dX4_walls_43 flX4_12 rfl rfl ?_
        refine r_iload_n dX4_walls_46 rfl rfl ?_
        refine r_iload_n dX4_walls_47 rfl rfl ?_
        refine r_callV (as := [.int x1, .int x2]) (st := []) dX4_walls_48 cvX4_60 rfl rfl rfl rfl (Nat.le_of_ble_eq_true rfl) h (fun r M4 h => ?_)
        obtain ⟨rfl, h⟩ := h
        refine r_iload_n dX4_walls_51 rfl rfl ?_
        exact r_ret dX4_walls_52 rfl rfl h
      · replace h := h.2 c_36
        refine r_bipush (v := J (-2)) dX4_walls_39 (by decide +kernel) ?_
        exact r_ret dX4_walls_41 rfl rfl h
    · replace h := h.2 c_22
      refine r_iconst (v := J (-1)) dX4_walls_25 rfl ?_
      exact r_ret dX4_walls_26 rfl rfl h
theorem e_X4_walls {d : Nat} {M : Mem} {Q : Post} {x1 x2 : Int32} (h : (Mt d mX3_hasRow [.ref 1, .int x1] M (ri fun v1 M1 => ((v1 = 0 → Q (some (J (-1))) M1) ∧ (¬ v1 = 0 → (Mt d mX3_wholeRow [.ref 1] M1 (ri fun v2 M2 => (((x2 &&& (v2 ^^^ (J (-1)))) = 0 → (Mt d mX3_isLainOn [.ref 1, .int x1, .int x2] M2 (ri fun v3 M3 => ((v3 = 0 → (Mt d mX3_setWalls [.ref 1, .int x1, .int x2] M3 (rn fun M4 => Q (some x2) M4))) ∧ (¬ v3 = 0 → Q (some (J (-2))) M3))))) ∧ (¬ (x2 &&& (v2 ^^^ (J (-1)))) = 0 → Q (some (J (-1))) M2))))))))) : Mt (d + 1) mX4_walls [.ref 0, .int x1, .int x2] M Q := Mt.of (k := 0) (by decide +kernel) (okR (okI (okI okN))) (Nat.le_of_ble_eq_true rfl) rfl (b_X4_walls_0 h)
set_option maxRecDepth 100000 in
set_option maxHeartbeats 4000000 in
theorem b_X4_piece_0 {d : Nat} {M : Mem} {Q : Post} {x1 : Int32} (h : ((x1 < (J 1) → Q (some (J (-1))) M) ∧ (¬ x1 < (J 1) → ((x1 ≤ (J 33554431) → (Mt d mX4_movedToCorner [.int x1] M (ri fun v1 M1 => (Mt d mX3_addPiece [.ref 1, .int v1] M1 (ri fun v2 M2 => Q (some v2) M2))))) ∧ (¬ x1 ≤ (J 33554431) → Q (some (J (-1))) M))))) : R none (d + 1) mX4_piece 0 [.ref 0, .int x1] [] M Q := by
  refine r_iload_n dX4_piece_0 rfl rfl ?_
  refine r_iconst (v := J 1) dX4_piece_1 rfl ?_
  refine r_icmp_lt (tgt := 11) dX4_piece_2 (by decide) (fun c_2 => ?_) (fun c_2 => ?_)
  · replace h := h.1 c_2
    refine r_iconst (v := J (-1)) dX4_piece_11 rfl ?_
    exact r_ret dX4_piece_12 rfl rfl h
  · replace h := h.2 c_2
    refine r_iload_n dX4_piece_5 rfl rfl ?_
    refine r_ldc dX4_piece_6 kcX4_63 ?_
    refine r_icmp_le (tgt := 13) dX4_piece_8 (by decide) (fun c_8 => ?_) (fun c_8 => ?_)
    · replace h := h.1 c_8
      refine r_aload_n dX4_piece_13 rfl rfl ?_
      refine r_getR dX4_piece_14 flX4_12 rfl rfl ?_
      refine r_iload_n dX4_piece_17 rfl rfl ?_
      refine r_callS (as := [.int x1]) (st := [.ref 1]) dX4_piece_18 csX4_64 rfl rfl (Nat.le_of_ble_eq_true rfl) h (fun r M1 h => ?_)
      obtain ⟨v1, rfl, h⟩ := h
      refine r_callV (as := [.int v1]) (st := []) dX4_piece_21 cvX4_68 rfl rfl rfl rfl (Nat.le_of_ble_eq_true rfl) h (fun r M2 h => ?_)
      obtain ⟨v2, rfl, h⟩ := h
      exact r_ret dX4_piece_24 rfl rfl h
    · replace h := h.2 c_8
      refine r_iconst (v := J (-1)) dX4_piece_11 rfl ?_
      exact r_ret dX4_piece_12 rfl rfl h
theorem e_X4_piece {d : Nat} {M : Mem} {Q : Post} {x1 : Int32} (h : ((x1 < (J 1) → Q (some (J (-1))) M) ∧ (¬ x1 < (J 1) → ((x1 ≤ (J 33554431) → (Mt d mX4_movedToCorner [.int x1] M (ri fun v1 M1 => (Mt d mX3_addPiece [.ref 1, .int v1] M1 (ri fun v2 M2 => Q (some v2) M2))))) ∧ (¬ x1 ≤ (J 33554431) → Q (some (J (-1))) M))))) : Mt (d + 1) mX4_piece [.ref 0, .int x1] M Q := Mt.of (k := 0) (by decide +kernel) (okR (okI okN)) (Nat.le_of_ble_eq_true rfl) rfl (b_X4_piece_0 h)
set_option maxRecDepth 100000 in
set_option maxHeartbeats 4000000 in
theorem b_X4_about_0 {d : Nat} {M : Mem} {Q : Post} {x1 x2 : Int32} (h : (Mt d mX3_has [.ref 1, .int x1] M (ri fun v1 M1 => ((¬ v1 = 0 → (Mt d mX3_shapeOf [.ref 1, .int x1] M1 (ri fun v2 M2 => (Mt d mX3_isLying [.ref 1, .int x1] M2 (ri fun v3 M3 => (((x2.toInt < 0 ∨ 7 < x2.toInt) → Q (some (J (-1))) M3) ∧ ((x2.toInt = 0) → (Mt d mJ6_bitCount_0f7a4 [.int v2] M3 (ri fun v4 M4 => Q (some v4) M4))) ∧ ((x2.toInt = 1) → (Mt d mX4_columnsOf [.int v2] M3 (ri fun v5 M5 => Q (some v5) M5))) ∧ ((x2.toInt = 2) → (Mt d mX4_rowsOf [.int v2] M3 (ri fun v6 M6 => Q (some v6) M6))) ∧ ((x2.toInt = 3) → ((v3 = 0 → Q (some (J (-100))) M3) ∧ (¬ v3 = 0 → (Mt d mX3_xOf [.ref 1, .int x1] M3 (ri fun v7 M7 => Q (some v7) M7))))) ∧ ((x2.toInt = 4) → ((v3 = 0 → Q (some (J (-100))) M3) ∧ (¬ v3 = 0 → (Mt d mX3_yOf [.ref 1, .int x1] M3 (ri fun v8 M8 => Q (some v8) M8))))) ∧ ((x2.toInt = 5) → ((v3 = 0 → Q (some (J 0)) M3) ∧ (¬ v3 = 0 → Q (some (J 1)) M3))) ∧ ((x2.toInt = 6) → Q (some v2) M3) ∧ ((x2.toInt = 7) → ((v3 = 0 → Q (some (J 0)) M3) ∧ (¬ v3 = 0 → (Mt d mX2_isOutWhereItLies [.ref 2, .int x1] M3 (ri fun v9 M9 => ((v9 = 0 → Q (some (J 0)) M9) ∧ (¬ v9 = 0 → Q (some (J 1)) M9))))))))))))) ∧ (v1 = 0 → Q (some (J (-1))) M1))))) : R none (d + 1) mX4_about 0 [.ref 0, .int x1, .int x2, .null, .null] [] M Q := by
  refine r_aload_n dX4_about_0 rfl rfl ?_
  refine r_getR dX4_about_1 flX4_12 rfl rfl ?_
  refine r_iload_n dX4_about_4 rfl rfl ?_
  refine r_callV (as := [.int x1]) (st := []) dX4_about_5 cvX4_71 rfl rfl rfl rfl (Nat.le_of_ble_eq_true rfl) h (fun r M1 h => ?_)
  obtain ⟨v1, rfl, h⟩ := h
  refine r_if_ne (tgt := 13) dX4_about_8 (by decide) (fun c_8 => ?_) (fun c_8 => ?_)
  · replace h := h.1 c_8
    refine r_aload_n dX4_about_13 rfl rfl ?_
    refine r_getR dX4_about_14 flX4_12 rfl rfl ?_
    refine r_iload_n dX4_about_17 rfl rfl ?_
    refine r_callV (as := [.int x1]) (st := []) dX4_about_18 cvX4_74 rfl rfl rfl rfl (Nat.le_of_ble_eq_true rfl) h (fun r M2 h => ?_)
    obtain ⟨v2, rfl, h⟩ := h
    refine r_istore_n dX4_about_21 rfl (by decide) rfl ?_
    refine r_aload_n dX4_about_22 rfl rfl ?_
    refine r_getR dX4_about_23 flX4_12 rfl rfl ?_
    refine r_iload_n dX4_about_26 rfl rfl ?_
    refine r_callV (as := [.int x1]) (st := []) dX4_about_27 cvX4_77 rfl rfl rfl rfl (Nat.le_of_ble_eq_true rfl) h (fun r M3 h => ?_)
    obtain ⟨v3, rfl, h⟩ := h
    refine r_istore dX4_about_30 (by decide) rfl ?_
    refine r_iload_n dX4_about_32 rfl rfl ?_
    rcases (show (x2.toInt < 0 ∨ 7 < x2.toInt) ∨ (x2.toInt = 0) ∨ (x2.toInt = 1) ∨ (x2.toInt = 2) ∨ (x2.toInt = 3) ∨ (x2.toInt = 4) ∨ (x2.toInt = 5) ∨ (x2.toInt = 6) ∨ (x2.toInt = 7) by omega) with q | q | q | q | q | q | q | q | q
    · replace h := h.1 q
      refine r_table (off := 135) (tgt := 168) dX4_about_33 (by rw [if_pos q]) (by decide) ?_
      refine r_iconst (v := J (-1)) dX4_about_168 rfl ?_
      exact r_ret dX4_about_169 rfl rfl h
    · replace h := h.2.1 q
      refine r_table (off := 47) (tgt := 80) dX4_about_33 (by rw [if_neg (by omega), q]; rfl) (by decide) ?_
      refine r_iload_n dX4_about_80 rfl rfl ?_
      refine r_callS (as := [.int v2]) (st := []) dX4_about_81 csX4_80 rfl rfl (Nat.le_of_ble_eq_true rfl) h (fun r M4 h => ?_)
      obtain ⟨v4, rfl, h⟩ := h
      exact r_ret dX4_about_84 rfl rfl h
    · replace h := h.2.2.1 q
      refine r_table (off := 52) (tgt := 85) dX4_about_33 (by rw [if_neg (by omega), q]; rfl) (by decide) ?_
      refine r_iload_n dX4_about_85 rfl rfl ?_
      refine r_callS (as := [.int v2]) (st := []) dX4_about_86 csX4_85 rfl rfl (Nat.le_of_ble_eq_true rfl) h (fun r M5 h => ?_)
      obtain ⟨v5, rfl, h⟩ := h
      exact r_ret dX4_about_89 rfl rfl h
    · replace h := h.2.2.2.1 q
      refine r_table (off := 57) (tgt := 90) dX4_about_33 (by rw [if_neg (by omega), q]; rfl) (by decide) ?_
      refine r_iload_n dX4_about_90 rfl rfl ?_
      refine r_callS (as := [.int v2]) (st := []) dX4_about_91 csX4_88 rfl rfl (Nat.le_of_ble_eq_true rfl) h (fun r M6 h => ?_)
      obtain ⟨v6, rfl, h⟩ := h
      exact r_ret dX4_about_94 rfl rfl h
    · replace h := h.2.2.2.2.1 q
      refine r_table (off := 62) (tgt := 95) dX4_about_33 (by rw [if_neg (by omega), q]; rfl) (by decide) ?_
      refine r_iload dX4_about_95 rfl ?_
      refine r_if_eq (tgt := 111) dX4_about_97 (by decide) (fun c_97 => ?_) (fun c_97 => ?_)
      · replace h := h.1 c_97
        refine r_bipush (v := J (-100)) dX4_about_111 (by decide +kernel) ?_
        exact r_ret dX4_about_113 rfl rfl h
      · replace h := h.2 c_97
        refine r_aload_n dX4_about_100 rfl rfl ?_
        refine r_getR dX4_about_101 flX4_12 rfl rfl ?_
        refine r_iload_n dX4_about_104 rfl rfl ?_
        refine r_callV (as := [.int x1]) (st := []) dX4_about_105 cvX4_91 rfl rfl rfl rfl (Nat.le_of_ble_eq_true rfl) h (fun r M7 h => ?_)
        obtain ⟨v7, rfl, h⟩ := h
        refine r_goto (tgt := 113) dX4_about_108 (by decide) ?_
        exact r_ret dX4_about_113 rfl rfl h
    · replace h := h.2.2.2.2.2.1 q
      refine r_table (off := 81) (tgt := 114) dX4_about_33 (by rw [if_neg (by omega), q]; rfl) (by decide) ?_
      refine r_iload dX4_about_114 rfl ?_
      refine r_if_eq (tgt := 130) dX4_about_116 (by decide) (fun c_116 => ?_) (fun c_116 => ?_)
      · replace h := h.1 c_116
        refine r_bipush (v := J (-100)) dX4_about_130 (by decide +kernel) ?_
        exact r_ret dX4_about_132 rfl rfl h
      · replace h := h.2 c_116
        refine r_aload_n dX4_about_119 rfl rfl ?_
        refine r_getR dX4_about_120 flX4_12 rfl rfl ?_
        refine r_iload_n dX4_about_123 rfl rfl ?_
        refine r_callV (as := [.int x1]) (st := []) dX4_about_124 cvX4_94 rfl rfl rfl rfl (Nat.le_of_ble_eq_true rfl) h (fun r M8 h => ?_)
        obtain ⟨v8, rfl, h⟩ := h
        refine r_goto (tgt := 132) dX4_about_127 (by decide) ?_
        exact r_ret dX4_about_132 rfl rfl h
    · replace h := h.2.2.2.2.2.2.1 q
      refine r_table (off := 100) (tgt := 133) dX4_about_33 (by rw [if_neg (by omega), q]; rfl) (by decide) ?_
      refine r_iload dX4_about_133 rfl ?_
      refine r_if_eq (tgt := 142) dX4_about_135 (by decide) (fun c_135 => ?_) (fun c_135 => ?_)
      · replace h := h.1 c_135
        refine r_iconst (v := J 0) dX4_about_142 rfl ?_
        exact r_ret dX4_about_143 rfl rfl h
      · replace h := h.2 c_135
        refine r_iconst (v := J 1) dX4_about_138 rfl ?_
        refine r_goto (tgt := 143) dX4_about_139 (by decide) ?_
        exact r_ret dX4_about_143 rfl rfl h
    · replace h := h.2.2.2.2.2.2.2.1 q
      refine r_table (off := 111) (tgt := 144) dX4_about_33 (by rw [if_neg (by omega), q]; rfl) (by decide) ?_
      refine r_iload_n dX4_about_144 rfl rfl ?_
      exact r_ret dX4_about_145 rfl rfl h
    · replace h := h.2.2.2.2.2.2.2.2 q
      refine r_table (off := 113) (tgt := 146) dX4_about_33 (by rw [if_neg (by omega), q]; rfl) (by decide) ?_
      refine r_iload dX4_about_146 rfl ?_
      refine r_if_eq (tgt := 166) dX4_about_148 (by decide) (fun c_148 => ?_) (fun c_148 => ?_)
      · replace h := h.1 c_148
        refine r_iconst (v := J 0) dX4_about_166 rfl ?_
        exact r_ret dX4_about_167 rfl rfl h
      · replace h := h.2 c_148
        refine r_aload_n dX4_about_151 rfl rfl ?_
        refine r_getR dX4_about_152 flX4_21 rfl rfl ?_
        refine r_iload_n dX4_about_155 rfl rfl ?_
        refine r_callV (as := [.int x1]) (st := []) dX4_about_156 cvX4_97 rfl rfl rfl rfl (Nat.le_of_ble_eq_true rfl) h (fun r M9 h => ?_)
        obtain ⟨v9, rfl, h⟩ := h
        refine r_if_eq (tgt := 166) dX4_about_159 (by decide) (fun c_159 => ?_) (fun c_159 => ?_)
        · replace h := h.1 c_159
          refine r_iconst (v := J 0) dX4_about_166 rfl ?_
          exact r_ret dX4_about_167 rfl rfl h
        · replace h := h.2 c_159
          refine r_iconst (v := J 1) dX4_about_162 rfl ?_
          refine r_goto (tgt := 167) dX4_about_163 (by decide) ?_
          exact r_ret dX4_about_167 rfl rfl h
  · replace h := h.2 c_8
    refine r_iconst (v := J (-1)) dX4_about_11 rfl ?_
    exact r_ret dX4_about_12 rfl rfl h
theorem e_X4_about {d : Nat} {M : Mem} {Q : Post} {x1 x2 : Int32} (h : (Mt d mX3_has [.ref 1, .int x1] M (ri fun v1 M1 => ((¬ v1 = 0 → (Mt d mX3_shapeOf [.ref 1, .int x1] M1 (ri fun v2 M2 => (Mt d mX3_isLying [.ref 1, .int x1] M2 (ri fun v3 M3 => (((x2.toInt < 0 ∨ 7 < x2.toInt) → Q (some (J (-1))) M3) ∧ ((x2.toInt = 0) → (Mt d mJ6_bitCount_0f7a4 [.int v2] M3 (ri fun v4 M4 => Q (some v4) M4))) ∧ ((x2.toInt = 1) → (Mt d mX4_columnsOf [.int v2] M3 (ri fun v5 M5 => Q (some v5) M5))) ∧ ((x2.toInt = 2) → (Mt d mX4_rowsOf [.int v2] M3 (ri fun v6 M6 => Q (some v6) M6))) ∧ ((x2.toInt = 3) → ((v3 = 0 → Q (some (J (-100))) M3) ∧ (¬ v3 = 0 → (Mt d mX3_xOf [.ref 1, .int x1] M3 (ri fun v7 M7 => Q (some v7) M7))))) ∧ ((x2.toInt = 4) → ((v3 = 0 → Q (some (J (-100))) M3) ∧ (¬ v3 = 0 → (Mt d mX3_yOf [.ref 1, .int x1] M3 (ri fun v8 M8 => Q (some v8) M8))))) ∧ ((x2.toInt = 5) → ((v3 = 0 → Q (some (J 0)) M3) ∧ (¬ v3 = 0 → Q (some (J 1)) M3))) ∧ ((x2.toInt = 6) → Q (some v2) M3) ∧ ((x2.toInt = 7) → ((v3 = 0 → Q (some (J 0)) M3) ∧ (¬ v3 = 0 → (Mt d mX2_isOutWhereItLies [.ref 2, .int x1] M3 (ri fun v9 M9 => ((v9 = 0 → Q (some (J 0)) M9) ∧ (¬ v9 = 0 → Q (some (J 1)) M9))))))))))))) ∧ (v1 = 0 → Q (some (J (-1))) M1))))) : Mt (d + 1) mX4_about [.ref 0, .int x1, .int x2] M Q := Mt.of (k := 2) (by decide +kernel) (okR (okI (okI okN))) (Nat.le_of_ble_eq_true rfl) rfl (b_X4_about_0 h)
set_option maxRecDepth 100000 in
set_option maxHeartbeats 4000000 in
theorem b_X4_put_0 {d : Nat} {M : Mem} {Q : Post} {x1 x2 x3 : Int32} (h : (Mt d mX3_has [.ref 1, .int x1] M (ri fun v1 M1 => ((v1 = 0 → Q (some (J (-1))) M1) ∧ (¬ v1 = 0 → (Mt d mX4_isPlace [.int x2, .int x3] M1 (ri fun v2 M2 => ((¬ v2 = 0 → (Mt d mX2_canStand [.ref 2, .int x1, .int x2, .int x3] M2 (ri fun v3 M3 => ((¬ v3 = 0 → (Mt d mX3_lay [.ref 1, .int x1, .int x2, .int x3] M3 (rn fun M4 => Q (some (J 1)) M4))) ∧ (v3 = 0 → Q (some (J (-2))) M3))))) ∧ (v2 = 0 → Q (some (J (-1))) M2))))))))) : R none (d + 1) mX4_put 0 [.ref 0, .int x1, .int x2, .int x3] [] M Q := by
  refine r_aload_n dX4_put_0 rfl rfl ?_
  refine r_getR dX4_put_1 flX4_12 rfl rfl ?_
  refine r_iload_n dX4_put_4 rfl rfl ?_
  refine r_callV (as := [.int x1]) (st := []) dX4_put_5 cvX4_71 rfl rfl rfl rfl (Nat.le_of_ble_eq_true rfl) h (fun r M1 h => ?_)
  obtain ⟨v1, rfl, h⟩ := h
  refine r_if_eq (tgt := 19) dX4_put_8 (by decide) (fun c_8 => ?_) (fun c_8 => ?_)
  · replace h := h.1 c_8
    refine r_iconst (v := J (-1)) dX4_put_19 rfl ?_
    exact r_ret dX4_put_20 rfl rfl h
  · replace h := h.2 c_8
    refine r_iload_n dX4_put_11 rfl rfl ?_
    refine r_iload_n dX4_put_12 rfl rfl ?_
    refine r_callS (as := [.int x2, .int x3]) (st := []) dX4_put_13 csX4_100 rfl rfl (Nat.le_of_ble_eq_true rfl) h (fun r M2 h => ?_)
    obtain ⟨v2, rfl, h⟩ := h
    refine r_if_ne (tgt := 21) dX4_put_16 (by decide) (fun c_16 => ?_) (fun c_16 => ?_)
    · replace h := h.1 c_16
      refine r_aload_n dX4_put_21 rfl rfl ?_
      refine r_getR dX4_put_22 flX4_21 rfl rfl ?_
      refine r_iload_n dX4_put_25 rfl rfl ?_
      refine r_iload_n dX4_put_26 rfl rfl ?_
      refine r_iload_n dX4_put_27 rfl rfl ?_
      refine r_callV (as := [.int x1, .int x2, .int x3]) (st := []) dX4_put_28 cvX4_103 rfl rfl rfl rfl (Nat.le_of_ble_eq_true rfl) h (fun r M3 h => ?_)
      obtain ⟨v3, rfl, h⟩ := h
      refine r_if_ne (tgt := 37) dX4_put_31 (by decide) (fun c_31 => ?_) (fun c_31 => ?_)
      · replace h := h.1 c_31
        refine r_aload_n dX4_put_37 rfl rfl ?_
        refine r_getR dX4_put_38 flX4_12 rfl rfl ?_
        refine r_iload_n dX4_put_41 rfl rfl ?_
        refine r_iload_n dX4_put_42 rfl rfl ?_
        refine r_iload_n dX4_put_43 rfl rfl ?_
        refine r_callV (as := [.int x1, .int x2, .int x3]) (st := []) dX4_put_44 cvX4_107 rfl rfl rfl rfl (Nat.le_of_ble_eq_true rfl) h (fun r M4 h => ?_)
        obtain ⟨rfl, h⟩ := h
        refine r_iconst (v := J 1) dX4_put_47 rfl ?_
        exact r_ret dX4_put_48 rfl rfl h
      · replace h := h.2 c_31
        refine r_bipush (v := J (-2)) dX4_put_34 (by decide +kernel) ?_
        exact r_ret dX4_put_36 rfl rfl h
    · replace h := h.2 c_16
      refine r_iconst (v := J (-1)) dX4_put_19 rfl ?_
      exact r_ret dX4_put_20 rfl rfl h
theorem e_X4_put {d : Nat} {M : Mem} {Q : Post} {x1 x2 x3 : Int32} (h : (Mt d mX3_has [.ref 1, .int x1] M (ri fun v1 M1 => ((v1 = 0 → Q (some (J (-1))) M1) ∧ (¬ v1 = 0 → (Mt d mX4_isPlace [.int x2, .int x3] M1 (ri fun v2 M2 => ((¬ v2 = 0 → (Mt d mX2_canStand [.ref 2, .int x1, .int x2, .int x3] M2 (ri fun v3 M3 => ((¬ v3 = 0 → (Mt d mX3_lay [.ref 1, .int x1, .int x2, .int x3] M3 (rn fun M4 => Q (some (J 1)) M4))) ∧ (v3 = 0 → Q (some (J (-2))) M3))))) ∧ (v2 = 0 → Q (some (J (-1))) M2))))))))) : Mt (d + 1) mX4_put [.ref 0, .int x1, .int x2, .int x3] M Q := Mt.of (k := 0) (by decide +kernel) (okR (okI (okI (okI okN)))) (Nat.le_of_ble_eq_true rfl) rfl (b_X4_put_0 h)
set_option maxRecDepth 100000 in
set_option maxHeartbeats 4000000 in
theorem b_X4_away_0 {d : Nat} {M : Mem} {Q : Post} {x1 : Int32} (h : (Mt d mX3_has [.ref 1, .int x1] M (ri fun v1 M1 => ((¬ v1 = 0 → (Mt d mX3_isLying [.ref 1, .int x1] M1 (ri fun v2 M2 => ((¬ v2 = 0 → (Mt d mX3_take [.ref 1, .int x1] M2 (rn fun M3 => Q (some (J 1)) M3))) ∧ (v2 = 0 → Q (some (J 0)) M2))))) ∧ (v1 = 0 → Q (some (J (-1))) M1))))) : R none (d + 1) mX4_away 0 [.ref 0, .int x1] [] M Q := by
  refine r_aload_n dX4_away_0 rfl rfl ?_
  refine r_getR dX4_away_1 flX4_12 rfl rfl ?_
  refine r_iload_n dX4_away_4 rfl rfl ?_
  refine r_callV (as := [.int x1]) (st := []) dX4_away_5 cvX4_71 rfl rfl rfl rfl (Nat.le_of_ble_eq_true rfl) h (fun r M1 h => ?_)
  obtain ⟨v1, rfl, h⟩ := h
  refine r_if_ne (tgt := 13) dX4_away_8 (by decide) (fun c_8 => ?_) (fun c_8 => ?_)
  · replace h := h.1 c_8
    refine r_aload_n dX4_away_13 rfl rfl ?_
    refine r_getR dX4_away_14 flX4_12 rfl rfl ?_
    refine r_iload_n dX4_away_17 rfl rfl ?_
    refine r_callV (as := [.int x1]) (st := []) dX4_away_18 cvX4_77 rfl rfl rfl rfl (Nat.le_of_ble_eq_true rfl) h (fun r M2 h => ?_)
    obtain ⟨v2, rfl, h⟩ := h
    refine r_if_ne (tgt := 26) dX4_away_21 (by decide) (fun c_21 => ?_) (fun c_21 => ?_)
    · replace h := h.1 c_21
      refine r_aload_n dX4_away_26 rfl rfl ?_
      refine r_getR dX4_away_27 flX4_12 rfl rfl ?_
      refine r_iload_n dX4_away_30 rfl rfl ?_
      refine r_callV (as := [.int x1]) (st := []) dX4_away_31 cvX4_111 rfl rfl rfl rfl (Nat.le_of_ble_eq_true rfl) h (fun r M3 h => ?_)
      obtain ⟨rfl, h⟩ := h
      refine r_iconst (v := J 1) dX4_away_34 rfl ?_
      exact r_ret dX4_away_35 rfl rfl h
    · replace h := h.2 c_21
      refine r_iconst (v := J 0) dX4_away_24 rfl ?_
      exact r_ret dX4_away_25 rfl rfl h
  · replace h := h.2 c_8
    refine r_iconst (v := J (-1)) dX4_away_11 rfl ?_
    exact r_ret dX4_away_12 rfl rfl h
theorem e_X4_away {d : Nat} {M : Mem} {Q : Post} {x1 : Int32} (h : (Mt d mX3_has [.ref 1, .int x1] M (ri fun v1 M1 => ((¬ v1 = 0 → (Mt d mX3_isLying [.ref 1, .int x1] M1 (ri fun v2 M2 => ((¬ v2 = 0 → (Mt d mX3_take [.ref 1, .int x1] M2 (rn fun M3 => Q (some (J 1)) M3))) ∧ (v2 = 0 → Q (some (J 0)) M2))))) ∧ (v1 = 0 → Q (some (J (-1))) M1))))) : Mt (d + 1) mX4_away [.ref 0, .int x1] M Q := Mt.of (k := 0) (by decide +kernel) (okR (okI okN)) (Nat.le_of_ble_eq_true rfl) rfl (b_X4_away_0 h)
set_option maxRecDepth 100000 in
set_option maxHeartbeats 4000000 in
theorem b_X4_stands_0 {d : Nat} {M : Mem} {Q : Post} {x1 x2 x3 : Int32} (h : (Mt d mX3_has [.ref 1, .int x1] M (ri fun v1 M1 => ((v1 = 0 → Q (some (J (-1))) M1) ∧ (¬ v1 = 0 → (Mt d mX4_isPlace [.int x2, .int x3] M1 (ri fun v2 M2 => ((¬ v2 = 0 → (Mt d mX2_canStand [.ref 2, .int x1, .int x2, .int x3] M2 (ri fun v3 M3 => ((v3 = 0 → Q (some (J 0)) M3) ∧ (¬ v3 = 0 → Q (some (J 1)) M3))))) ∧ (v2 = 0 → Q (some (J (-1))) M2))))))))) : R none (d + 1) mX4_stands 0 [.ref 0, .int x1, .int x2, .int x3] [] M Q := by
  refine r_aload_n dX4_stands_0 rfl rfl ?_
  refine r_getR dX4_stands_1 flX4_12 rfl rfl ?_
  refine r_iload_n dX4_stands_4 rfl rfl ?_
  refine r_callV (as := [.int x1]) (st := []) dX4_stands_5 cvX4_71 rfl rfl rfl rfl (Nat.le_of_ble_eq_true rfl) h (fun r M1 h => ?_)
  obtain ⟨v1, rfl, h⟩ := h
  refine r_if_eq (tgt := 19) dX4_stands_8 (by decide) (fun c_8 => ?_) (fun c_8 => ?_)
  · replace h := h.1 c_8
    refine r_iconst (v := J (-1)) dX4_stands_19 rfl ?_
    exact r_ret dX4_stands_20 rfl rfl h
  · replace h := h.2 c_8
    refine r_iload_n dX4_stands_11 rfl rfl ?_
    refine r_iload_n dX4_stands_12 rfl rfl ?_
    refine r_callS (as := [.int x2, .int x3]) (st := []) dX4_stands_13 csX4_100 rfl rfl (Nat.le_of_ble_eq_true rfl) h (fun r M2 h => ?_)
    obtain ⟨v2, rfl, h⟩ := h
    refine r_if_ne (tgt := 21) dX4_stands_16 (by decide) (fun c_16 => ?_) (fun c_16 => ?_)
    · replace h := h.1 c_16
      refine r_aload_n dX4_stands_21 rfl rfl ?_
      refine r_getR dX4_stands_22 flX4_21 rfl rfl ?_
      refine r_iload_n dX4_stands_25 rfl rfl ?_
      refine r_iload_n dX4_stands_26 rfl rfl ?_
      refine r_iload_n dX4_stands_27 rfl rfl ?_
      refine r_callV (as := [.int x1, .int x2, .int x3]) (st := []) dX4_stands_28 cvX4_103 rfl rfl rfl rfl (Nat.le_of_ble_eq_true rfl) h (fun r M3 h => ?_)
      obtain ⟨v3, rfl, h⟩ := h
      refine r_if_eq (tgt := 38) dX4_stands_31 (by decide) (fun c_31 => ?_) (fun c_31 => ?_)
      · replace h := h.1 c_31
        refine r_iconst (v := J 0) dX4_stands_38 rfl ?_
        exact r_ret dX4_stands_39 rfl rfl h
      · replace h := h.2 c_31
        refine r_iconst (v := J 1) dX4_stands_34 rfl ?_
        refine r_goto (tgt := 39) dX4_stands_35 (by decide) ?_
        exact r_ret dX4_stands_39 rfl rfl h
    · replace h := h.2 c_16
      refine r_iconst (v := J (-1)) dX4_stands_19 rfl ?_
      exact r_ret dX4_stands_20 rfl rfl h
theorem e_X4_stands {d : Nat} {M : Mem} {Q : Post} {x1 x2 x3 : Int32} (h : (Mt d mX3_has [.ref 1, .int x1] M (ri fun v1 M1 => ((v1 = 0 → Q (some (J (-1))) M1) ∧ (¬ v1 = 0 → (Mt d mX4_isPlace [.int x2, .int x3] M1 (ri fun v2 M2 => ((¬ v2 = 0 → (Mt d mX2_canStand [.ref 2, .int x1, .int x2, .int x3] M2 (ri fun v3 M3 => ((v3 = 0 → Q (some (J 0)) M3) ∧ (¬ v3 = 0 → Q (some (J 1)) M3))))) ∧ (v2 = 0 → Q (some (J (-1))) M2))))))))) : Mt (d + 1) mX4_stands [.ref 0, .int x1, .int x2, .int x3] M Q := Mt.of (k := 0) (by decide +kernel) (okR (okI (okI (okI okN)))) (Nat.le_of_ble_eq_true rfl) rfl (b_X4_stands_0 h)
set_option maxRecDepth 100000 in
set_option maxHeartbeats 4000000 in
theorem b_X4_slide_0 {d : Nat} {M : Mem} {Q : Post} {x1 x2 x3 : Int32} (h : (Mt d mX3_has [.ref 1, .int x1] M (ri fun v1 M1 => ((v1 = 0 → Q (some (J (-1))) M1) ∧ (¬ v1 = 0 → (Mt d mX4_isDirection [.int x2] M1 (ri fun v2 M2 => ((v2 = 0 → Q (some (J (-1))) M2) ∧ (¬ v2 = 0 → ((x3 < (J 1) → Q (some (J (-1))) M2) ∧ (¬ x3 < (J 1) → ((x3 ≤ (J 20) → (Mt d mX3_isLying [.ref 1, .int x1] M2 (ri fun v3 M3 => ((¬ v3 = 0 → (Mt d mX2_stepsOnward [.ref 2, .int x1, .int x2, .int x3] M3 (ri fun v4 M4 => (Mt d mX3_xOf [.ref 1, .int x1] M4 (ri fun v5 M5 => (Mt d mX4_stepX [.int x2] M5 (ri fun v6 M6 => (Mt d mX3_yOf [.ref 1, .int x1] M6 (ri fun v7 M7 => (Mt d mX4_stepY [.int x2] M7 (ri fun v8 M8 => (Mt d mX3_lay [.ref 1, .int x1, .int (v5 + (v4 * v6)), .int (v7 + (v4 * v8))] M8 (rn fun M9 => Q (some v4) M9))))))))))))) ∧ (v3 = 0 → Q (some (J (-2))) M3))))) ∧ (¬ x3 ≤ (J 20) → Q (some (J (-1))) M2))))))))))))) : R none (d + 1) mX4_slide 0 [.ref 0, .int x1, .int x2, .int x3, .null] [] M Q := by
  refine r_aload_n dX4_slide_0 rfl rfl ?_
  refine r_getR dX4_slide_1 flX4_12 rfl rfl ?_
  refine r_iload_n dX4_slide_4 rfl rfl ?_
  refine r_callV (as := [.int x1]) (st := []) dX4_slide_5 cvX4_71 rfl rfl rfl rfl (Nat.le_of_ble_eq_true rfl) h (fun r M1 h => ?_)
  obtain ⟨v1, rfl, h⟩ := h
  refine r_if_eq (tgt := 29) dX4_slide_8 (by decide) (fun c_8 => ?_) (fun c_8 => ?_)
  · replace h := h.1 c_8
    refine r_iconst (v := J (-1)) dX4_slide_29 rfl ?_
    exact r_ret dX4_slide_30 rfl rfl h
  · replace h := h.2 c_8
    refine r_iload_n dX4_slide_11 rfl rfl ?_
    refine r_callS (as := [.int x2]) (st := []) dX4_slide_12 csX4_115 rfl rfl (Nat.le_of_ble_eq_true rfl) h (fun r M2 h => ?_)
    obtain ⟨v2, rfl, h⟩ := h
    refine r_if_eq (tgt := 29) dX4_slide_15 (by decide) (fun c_15 => ?_) (fun c_15 => ?_)
    · replace h := h.1 c_15
      refine r_iconst (v := J (-1)) dX4_slide_29 rfl ?_
      exact r_ret dX4_slide_30 rfl rfl h
    · replace h := h.2 c_15
      refine r_iload_n dX4_slide_18 rfl rfl ?_
      refine r_iconst (v := J 1) dX4_slide_19 rfl ?_
      refine r_icmp_lt (tgt := 29) dX4_slide_20 (by decide) (fun c_20 => ?_) (fun c_20 => ?_)
      · replace h := h.1 c_20
        refine r_iconst (v := J (-1)) dX4_slide_29 rfl ?_
        exact r_ret dX4_slide_30 rfl rfl h
      · replace h := h.2 c_20
        refine r_iload_n dX4_slide_23 rfl rfl ?_
        refine r_bipush (v := J 20) dX4_slide_24 (by decide +kernel) ?_
        refine r_icmp_le (tgt := 31) dX4_slide_26 (by decide) (fun c_26 => ?_) (fun c_26 => ?_)
        · replace h := h.1 c_26
          refine r_aload_n dX4_slide_31 rfl rfl ?_
          refine r_getR dX4_slide_32 flX4_12 rfl rfl ?_
          refine r_iload_n dX4_slide_35 rfl rfl ?_
          refine r_callV (as := [.int x1]) (st := []) dX4_slide_36 cvX4_77 rfl rfl rfl rfl (Nat.le_of_ble_eq_true rfl) h (fun r M3 h => ?_)
          obtain ⟨v3, rfl, h⟩ := h
          refine r_if_ne (tgt := 45) dX4_slide_39 (by decide) (fun c_39 => ?_) (fun c_39 => ?_)
          · replace h := h.1 c_39
            refine r_aload_n dX4_slide_45 rfl rfl ?_
            refine r_getR dX4_slide_46 flX4_21 rfl rfl ?_
            refine r_iload_n dX4_slide_49 rfl rfl ?_
            refine r_iload_n dX4_slide_50 rfl rfl ?_
            refine r_iload_n dX4_slide_51 rfl rfl ?_
            refine r_callV (as := [.int x1, .int x2, .int x3]) (st := []) dX4_slide_52 cvX4_118 rfl rfl rfl rfl (Nat.le_of_ble_eq_true rfl) h (fun r M4 h => ?_)
            obtain ⟨v4, rfl, h⟩ := h
            refine r_istore dX4_slide_55 (by decide) rfl ?_
            refine r_aload_n dX4_slide_57 rfl rfl ?_
            refine r_getR dX4_slide_58 flX4_12 rfl rfl ?_
            refine r_iload_n dX4_slide_61 rfl rfl ?_
            refine r_aload_n dX4_slide_62 rfl rfl ?_
            refine r_getR dX4_slide_63 flX4_12 rfl rfl ?_
            refine r_iload_n dX4_slide_66 rfl rfl ?_
            refine r_callV (as := [.int x1]) (st := [.int x1, .ref 1]) dX4_slide_67 cvX4_91 rfl rfl rfl rfl (Nat.le_of_ble_eq_true rfl) h (fun r M5 h => ?_)
            obtain ⟨v5, rfl, h⟩ := h
            refine r_iload dX4_slide_70 rfl ?_
            refine r_iload_n dX4_slide_72 rfl rfl ?_
            refine r_callS (as := [.int x2]) (st := [.int v4, .int v5, .int x1, .ref 1]) dX4_slide_73 csX4_122 rfl rfl (Nat.le_of_ble_eq_true rfl) h (fun r M6 h => ?_)
            obtain ⟨v6, rfl, h⟩ := h
            refine r_imul dX4_slide_76 ?_
            refine r_iadd dX4_slide_77 ?_
            refine r_aload_n dX4_slide_78 rfl rfl ?_
            refine r_getR dX4_slide_79 flX4_12 rfl rfl ?_
            refine r_iload_n dX4_slide_82 rfl rfl ?_
            refine r_callV (as := [.int x1]) (st := [.int (v5 + (v4 * v6)), .int x1, .ref 1]) dX4_slide_83 cvX4_94 rfl rfl rfl rfl (Nat.le_of_ble_eq_true rfl) h (fun r M7 h => ?_)
            obtain ⟨v7, rfl, h⟩ := h
            refine r_iload dX4_slide_86 rfl ?_
            refine r_iload_n dX4_slide_88 rfl rfl ?_
            refine r_callS (as := [.int x2]) (st := [.int v4, .int v7, .int (v5 + (v4 * v6)), .int x1, .ref 1]) dX4_slide_89 csX4_125 rfl rfl (Nat.le_of_ble_eq_true rfl) h (fun r M8 h => ?_)
            obtain ⟨v8, rfl, h⟩ := h
            refine r_imul dX4_slide_92 ?_
            refine r_iadd dX4_slide_93 ?_
            refine r_callV (as := [.int x1, .int (v5 + (v4 * v6)), .int (v7 + (v4 * v8))]) (st := []) dX4_slide_94 cvX4_107 rfl rfl rfl rfl (Nat.le_of_ble_eq_true rfl) h (fun r M9 h => ?_)
            obtain ⟨rfl, h⟩ := h
            refine r_iload dX4_slide_97 rfl ?_
            exact r_ret dX4_slide_99 rfl rfl h
          · replace h := h.2 c_39
            refine r_bipush (v := J (-2)) dX4_slide_42 (by decide +kernel) ?_
            exact r_ret dX4_slide_44 rfl rfl h
        · replace h := h.2 c_26
          refine r_iconst (v := J (-1)) dX4_slide_29 rfl ?_
          exact r_ret dX4_slide_30 rfl rfl h
theorem e_X4_slide {d : Nat} {M : Mem} {Q : Post} {x1 x2 x3 : Int32} (h : (Mt d mX3_has [.ref 1, .int x1] M (ri fun v1 M1 => ((v1 = 0 → Q (some (J (-1))) M1) ∧ (¬ v1 = 0 → (Mt d mX4_isDirection [.int x2] M1 (ri fun v2 M2 => ((v2 = 0 → Q (some (J (-1))) M2) ∧ (¬ v2 = 0 → ((x3 < (J 1) → Q (some (J (-1))) M2) ∧ (¬ x3 < (J 1) → ((x3 ≤ (J 20) → (Mt d mX3_isLying [.ref 1, .int x1] M2 (ri fun v3 M3 => ((¬ v3 = 0 → (Mt d mX2_stepsOnward [.ref 2, .int x1, .int x2, .int x3] M3 (ri fun v4 M4 => (Mt d mX3_xOf [.ref 1, .int x1] M4 (ri fun v5 M5 => (Mt d mX4_stepX [.int x2] M5 (ri fun v6 M6 => (Mt d mX3_yOf [.ref 1, .int x1] M6 (ri fun v7 M7 => (Mt d mX4_stepY [.int x2] M7 (ri fun v8 M8 => (Mt d mX3_lay [.ref 1, .int x1, .int (v5 + (v4 * v6)), .int (v7 + (v4 * v8))] M8 (rn fun M9 => Q (some v4) M9))))))))))))) ∧ (v3 = 0 → Q (some (J (-2))) M3))))) ∧ (¬ x3 ≤ (J 20) → Q (some (J (-1))) M2))))))))))))) : Mt (d + 1) mX4_slide [.ref 0, .int x1, .int x2, .int x3] M Q := Mt.of (k := 1) (by decide +kernel) (okR (okI (okI (okI okN)))) (Nat.le_of_ble_eq_true rfl) rfl (b_X4_slide_0 h)
set_option maxRecDepth 100000 in
set_option maxHeartbeats 4000000 in
theorem b_X4_way_0 {d : Nat} {M : Mem} {Q : Post} {x1 x2 x3 : Int32} (h : (Mt d mX3_has [.ref 1, .int x1] M (ri fun v1 M1 => ((v1 = 0 → Q (some (J (-1))) M1) ∧ (¬ v1 = 0 → (Mt d mX4_isPlace [.int x2, .int x3] M1 (ri fun v2 M2 => ((¬ v2 = 0 → (Mt d mX3_isLying [.ref 1, .int x1] M2 (ri fun v3 M3 => ((¬ v3 = 0 → (Mt d mX2_findWay [.ref 2, .int x1, .int x2, .int x3] M3 (ri fun v4 M4 => Q (some v4) M4))) ∧ (v3 = 0 → Q (some (J (-2))) M3))))) ∧ (v2 = 0 → Q (some (J (-1))) M2))))))))) : R none (d + 1) mX4_way 0 [.ref 0, .int x1, .int x2, .int x3] [] M Q := by
  refine r_aload_n dX4_way_0 rfl rfl ?_
  refine r_getR dX4_way_1 flX4_12 rfl rfl ?_
  refine r_iload_n dX4_way_4 rfl rfl ?_
  refine r_callV (as := [.int x1]) (st := []) dX4_way_5 cvX4_71 rfl rfl rfl rfl (Nat.le_of_ble_eq_true rfl) h (fun r M1 h => ?_)
  obtain ⟨v1, rfl, h⟩ := h
  refine r_if_eq (tgt := 19) dX4_way_8 (by decide) (fun c_8 => ?_) (fun c_8 => ?_)
  · replace h := h.1 c_8
    refine r_iconst (v := J (-1)) dX4_way_19 rfl ?_
    exact r_ret dX4_way_20 rfl rfl h
  · replace h := h.2 c_8
    refine r_iload_n dX4_way_11 rfl rfl ?_
    refine r_iload_n dX4_way_12 rfl rfl ?_
    refine r_callS (as := [.int x2, .int x3]) (st := []) dX4_way_13 csX4_100 rfl rfl (Nat.le_of_ble_eq_true rfl) h (fun r M2 h => ?_)
    obtain ⟨v2, rfl, h⟩ := h
    refine r_if_ne (tgt := 21) dX4_way_16 (by decide) (fun c_16 => ?_) (fun c_16 => ?_)
    · replace h := h.1 c_16
      refine r_aload_n dX4_way_21 rfl rfl ?_
      refine r_getR dX4_way_22 flX4_12 rfl rfl ?_
      refine r_iload_n dX4_way_25 rfl rfl ?_
      refine r_callV (as := [.int x1]) (st := []) dX4_way_26 cvX4_77 rfl rfl rfl rfl (Nat.le_of_ble_eq_true rfl) h (fun r M3 h => ?_)
      obtain ⟨v3, rfl, h⟩ := h
      refine r_if_ne (tgt := 35) dX4_way_29 (by decide) (fun c_29 => ?_) (fun c_29 => ?_)
      · replace h := h.1 c_29
        refine r_aload_n dX4_way_35 rfl rfl ?_
        refine r_getR dX4_way_36 flX4_21 rfl rfl ?_
        refine r_iload_n dX4_way_39 rfl rfl ?_
        refine r_iload_n dX4_way_40 rfl rfl ?_
        refine r_iload_n dX4_way_41 rfl rfl ?_
        refine r_callV (as := [.int x1, .int x2, .int x3]) (st := []) dX4_way_42 cvX4_128 rfl rfl rfl rfl (Nat.le_of_ble_eq_true rfl) h (fun r M4 h => ?_)
        obtain ⟨v4, rfl, h⟩ := h
        exact r_ret dX4_way_45 rfl rfl h
      · replace h := h.2 c_29
        refine r_bipush (v := J (-2)) dX4_way_32 (by decide +kernel) ?_
        exact r_ret dX4_way_34 rfl rfl h
    · replace h := h.2 c_16
      refine r_iconst (v := J (-1)) dX4_way_19 rfl ?_
      exact r_ret dX4_way_20 rfl rfl h
theorem e_X4_way {d : Nat} {M : Mem} {Q : Post} {x1 x2 x3 : Int32} (h : (Mt d mX3_has [.ref 1, .int x1] M (ri fun v1 M1 => ((v1 = 0 → Q (some (J (-1))) M1) ∧ (¬ v1 = 0 → (Mt d mX4_isPlace [.int x2, .int x3] M1 (ri fun v2 M2 => ((¬ v2 = 0 → (Mt d mX3_isLying [.ref 1, .int x1] M2 (ri fun v3 M3 => ((¬ v3 = 0 → (Mt d mX2_findWay [.ref 2, .int x1, .int x2, .int x3] M3 (ri fun v4 M4 => Q (some v4) M4))) ∧ (v3 = 0 → Q (some (J (-2))) M3))))) ∧ (v2 = 0 → Q (some (J (-1))) M2))))))))) : Mt (d + 1) mX4_way [.ref 0, .int x1, .int x2, .int x3] M Q := Mt.of (k := 0) (by decide +kernel) (okR (okI (okI (okI okN)))) (Nat.le_of_ble_eq_true rfl) rfl (b_X4_way_0 h)
set_option maxRecDepth 100000 in
set_option maxHeartbeats 4000000 in
theorem b_X4_stepOf_0 {d : Nat} {M : Mem} {Q : Post} {x1 : Int32} (h : ((0 ≤ x1 → (Mt d mX2_stepAt [.ref 2, .int x1] M (ri fun v1 M1 => Q (some v1) M1))) ∧ (¬ 0 ≤ x1 → Q (some (J (-1))) M))) : R none (d + 1) mX4_stepOf 0 [.ref 0, .int x1] [] M Q := by
  refine r_iload_n dX4_stepOf_0 rfl rfl ?_
  refine r_if_ge (tgt := 8) dX4_stepOf_1 (by decide) (fun c_1 => ?_) (fun c_1 => ?_)
  · replace h := h.1 c_1
    refine r_aload_n dX4_stepOf_8 rfl rfl ?_
    refine r_getR dX4_stepOf_9 flX4_21 rfl rfl ?_
    refine r_iload_n dX4_stepOf_12 rfl rfl ?_
    refine r_callV (as := [.int x1]) (st := []) dX4_stepOf_13 cvX4_131 rfl rfl rfl rfl (Nat.le_of_ble_eq_true rfl) h (fun r M1 h => ?_)
    obtain ⟨v1, rfl, h⟩ := h
    exact r_ret dX4_stepOf_16 rfl rfl h
  · replace h := h.2 c_1
    refine r_iconst (v := J (-1)) dX4_stepOf_4 rfl ?_
    refine r_goto (tgt := 16) dX4_stepOf_5 (by decide) ?_
    exact r_ret dX4_stepOf_16 rfl rfl h
theorem e_X4_stepOf {d : Nat} {M : Mem} {Q : Post} {x1 : Int32} (h : ((0 ≤ x1 → (Mt d mX2_stepAt [.ref 2, .int x1] M (ri fun v1 M1 => Q (some v1) M1))) ∧ (¬ 0 ≤ x1 → Q (some (J (-1))) M))) : Mt (d + 1) mX4_stepOf [.ref 0, .int x1] M Q := Mt.of (k := 0) (by decide +kernel) (okR (okI okN)) (Nat.le_of_ble_eq_true rfl) rfl (b_X4_stepOf_0 h)
set_option maxRecDepth 100000 in
set_option maxHeartbeats 4000000 in
theorem b_X4_out_0 {d : Nat} {M : Mem} {Q : Post} {x1 : Int32} (h : (Mt d mX3_has [.ref 1, .int x1] M (ri fun v1 M1 => ((¬ v1 = 0 → (Mt d mX3_isLying [.ref 1, .int x1] M1 (ri fun v2 M2 => ((¬ v2 = 0 → (Mt d mX3_lyingBeside [.ref 1, .int x1] M2 (ri fun v3 M3 => (Mt d mX2_stepsOut [.ref 2, .int x1, .int v3] M3 (ri fun v4 M4 => Q (some v4) M4))))) ∧ (v2 = 0 → Q (some (J (-2))) M2))))) ∧ (v1 = 0 → Q (some (J (-1))) M1))))) : R none (d + 1) mX4_out 0 [.ref 0, .int x1] [] M Q := by
  refine r_aload_n dX4_out_0 rfl rfl ?_
  refine r_getR dX4_out_1 flX4_12 rfl rfl ?_
  refine r_iload_n dX4_out_4 rfl rfl ?_
  refine r_callV (as := [.int x1]) (st := []) dX4_out_5 cvX4_71 rfl rfl rfl rfl (Nat.le_of_ble_eq_true rfl) h (fun r M1 h => ?_)
  obtain ⟨v1, rfl, h⟩ := h
  refine r_if_ne (tgt := 13) dX4_out_8 (by decide) (fun c_8 => ?_) (fun c_8 => ?_)
  · replace h := h.1 c_8
    refine r_aload_n dX4_out_13 rfl rfl ?_
    refine r_getR dX4_out_14 flX4_12 rfl rfl ?_
    refine r_iload_n dX4_out_17 rfl rfl ?_
    refine r_callV (as := [.int x1]) (st := []) dX4_out_18 cvX4_77 rfl rfl rfl rfl (Nat.le_of_ble_eq_true rfl) h (fun r M2 h => ?_)
    obtain ⟨v2, rfl, h⟩ := h
    refine r_if_ne (tgt := 27) dX4_out_21 (by decide) (fun c_21 => ?_) (fun c_21 => ?_)
    · replace h := h.1 c_21
      refine r_aload_n dX4_out_27 rfl rfl ?_
      refine r_getR dX4_out_28 flX4_21 rfl rfl ?_
      refine r_iload_n dX4_out_31 rfl rfl ?_
      refine r_aload_n dX4_out_32 rfl rfl ?_
      refine r_getR dX4_out_33 flX4_12 rfl rfl ?_
      refine r_iload_n dX4_out_36 rfl rfl ?_
      refine r_callV (as := [.int x1]) (st := [.int x1, .ref 2]) dX4_out_37 cvX4_134 rfl rfl rfl rfl (Nat.le_of_ble_eq_true rfl) h (fun r M3 h => ?_)
      obtain ⟨v3, rfl, h⟩ := h
      refine r_callV (as := [.int x1, .int v3]) (st := []) dX4_out_40 cvX4_137 rfl rfl rfl rfl (Nat.le_of_ble_eq_true rfl) h (fun r M4 h => ?_)
      obtain ⟨v4, rfl, h⟩ := h
      exact r_ret dX4_out_43 rfl rfl h
    · replace h := h.2 c_21
      refine r_bipush (v := J (-2)) dX4_out_24 (by decide +kernel) ?_
      exact r_ret dX4_out_26 rfl rfl h
  · replace h := h.2 c_8
    refine r_iconst (v := J (-1)) dX4_out_11 rfl ?_
    exact r_ret dX4_out_12 rfl rfl h
theorem e_X4_out {d : Nat} {M : Mem} {Q : Post} {x1 : Int32} (h : (Mt d mX3_has [.ref 1, .int x1] M (ri fun v1 M1 => ((¬ v1 = 0 → (Mt d mX3_isLying [.ref 1, .int x1] M1 (ri fun v2 M2 => ((¬ v2 = 0 → (Mt d mX3_lyingBeside [.ref 1, .int x1] M2 (ri fun v3 M3 => (Mt d mX2_stepsOut [.ref 2, .int x1, .int v3] M3 (ri fun v4 M4 => Q (some v4) M4))))) ∧ (v2 = 0 → Q (some (J (-2))) M2))))) ∧ (v1 = 0 → Q (some (J (-1))) M1))))) : Mt (d + 1) mX4_out [.ref 0, .int x1] M Q := Mt.of (k := 0) (by decide +kernel) (okR (okI okN)) (Nat.le_of_ble_eq_true rfl) rfl (b_X4_out_0 h)
set_option maxRecDepth 100000 in
set_option maxHeartbeats 4000000 in
theorem b_X4_places_0 {d : Nat} {M : Mem} {Q : Post} {x1 x2 : Int32} (h : (Mt d mX3_has [.ref 1, .int x1] M (ri fun v1 M1 => ((v1 = 0 → Q (some (J (-1))) M1) ∧ (¬ v1 = 0 → ((x2 < 0 → Q (some (J (-1))) M1) ∧ (¬ x2 < 0 → ((x2 ≤ (J 1) → ((¬ x2 = 0 → (Mt d mX2_countRooms [.ref 2, .int x1] M1 (ri fun v2 M2 => Q (some v2) M2))) ∧ (x2 = 0 → (Mt d mX2_countInside [.ref 2, .int x1] M1 (ri fun v3 M3 => Q (some v3) M3))))) ∧ (¬ x2 ≤ (J 1) → Q (some (J (-1))) M1))))))))) : R none (d + 1) mX4_places 0 [.ref 0, .int x1, .int x2] [] M Q := by
  refine r_aload_n dX4_places_0 rfl rfl ?_
  refine r_getR dX4_places_1 flX4_12 rfl rfl ?_
  refine r_iload_n dX4_places_4 rfl rfl ?_
  refine r_callV (as := [.int x1]) (st := []) dX4_places_5 cvX4_71 rfl rfl rfl rfl (Nat.le_of_ble_eq_true rfl) h (fun r M1 h => ?_)
  obtain ⟨v1, rfl, h⟩ := h
  refine r_if_eq (tgt := 20) dX4_places_8 (by decide) (fun c_8 => ?_) (fun c_8 => ?_)
  · replace h := h.1 c_8
    refine r_iconst (v := J (-1)) dX4_places_20 rfl ?_
    exact r_ret dX4_places_21 rfl rfl h
  · replace h := h.2 c_8
    refine r_iload_n dX4_places_11 rfl rfl ?_
    refine r_if_lt (tgt := 20) dX4_places_12 (by decide) (fun c_12 => ?_) (fun c_12 => ?_)
    · replace h := h.1 c_12
      refine r_iconst (v := J (-1)) dX4_places_20 rfl ?_
      exact r_ret dX4_places_21 rfl rfl h
    · replace h := h.2 c_12
      refine r_iload_n dX4_places_15 rfl rfl ?_
      refine r_iconst (v := J 1) dX4_places_16 rfl ?_
      refine r_icmp_le (tgt := 22) dX4_places_17 (by decide) (fun c_17 => ?_) (fun c_17 => ?_)
      · replace h := h.1 c_17
        refine r_iload_n dX4_places_22 rfl rfl ?_
        refine r_if_ne (tgt := 37) dX4_places_23 (by decide) (fun c_23 => ?_) (fun c_23 => ?_)
        · replace h := h.1 c_23
          refine r_aload_n dX4_places_37 rfl rfl ?_
          refine r_getR dX4_places_38 flX4_21 rfl rfl ?_
          refine r_iload_n dX4_places_41 rfl rfl ?_
          refine r_callV (as := [.int x1]) (st := []) dX4_places_42 cvX4_144 rfl rfl rfl rfl (Nat.le_of_ble_eq_true rfl) h (fun r M2 h => ?_)
          obtain ⟨v2, rfl, h⟩ := h
          exact r_ret dX4_places_45 rfl rfl h
        · replace h := h.2 c_23
          refine r_aload_n dX4_places_26 rfl rfl ?_
          refine r_getR dX4_places_27 flX4_21 rfl rfl ?_
          refine r_iload_n dX4_places_30 rfl rfl ?_
          refine r_callV (as := [.int x1]) (st := []) dX4_places_31 cvX4_141 rfl rfl rfl rfl (Nat.le_of_ble_eq_true rfl) h (fun r M3 h => ?_)
          obtain ⟨v3, rfl, h⟩ := h
          refine r_goto (tgt := 45) dX4_places_34 (by decide) ?_
          exact r_ret dX4_places_45 rfl rfl h
      · replace h := h.2 c_17
        refine r_iconst (v := J (-1)) dX4_places_20 rfl ?_
        exact r_ret dX4_places_21 rfl rfl h
theorem e_X4_places {d : Nat} {M : Mem} {Q : Post} {x1 x2 : Int32} (h : (Mt d mX3_has [.ref 1, .int x1] M (ri fun v1 M1 => ((v1 = 0 → Q (some (J (-1))) M1) ∧ (¬ v1 = 0 → ((x2 < 0 → Q (some (J (-1))) M1) ∧ (¬ x2 < 0 → ((x2 ≤ (J 1) → ((¬ x2 = 0 → (Mt d mX2_countRooms [.ref 2, .int x1] M1 (ri fun v2 M2 => Q (some v2) M2))) ∧ (x2 = 0 → (Mt d mX2_countInside [.ref 2, .int x1] M1 (ri fun v3 M3 => Q (some v3) M3))))) ∧ (¬ x2 ≤ (J 1) → Q (some (J (-1))) M1))))))))) : Mt (d + 1) mX4_places [.ref 0, .int x1, .int x2] M Q := Mt.of (k := 0) (by decide +kernel) (okR (okI (okI okN))) (Nat.le_of_ble_eq_true rfl) rfl (b_X4_places_0 h)
set_option maxRecDepth 100000 in
set_option maxHeartbeats 4000000 in
theorem b_X4_blocks_0 {d : Nat} {M : Mem} {Q : Post} {x1 x2 : Int32} (h : (Mt d mX3_has [.ref 1, .int x1] M (ri fun v1 M1 => ((v1 = 0 → Q (some (J (-1))) M1) ∧ (¬ v1 = 0 → (Mt d mX4_isDirection [.int x2] M1 (ri fun v2 M2 => ((¬ v2 = 0 → (Mt d mX3_isLying [.ref 1, .int x1] M2 (ri fun v3 M3 => ((¬ v3 = 0 → (Mt d mX3_blockersOf [.ref 1, .int x1, .int x2] M3 (ri fun v4 M4 => Q (some v4) M4))) ∧ (v3 = 0 → Q (some (J (-2))) M3))))) ∧ (v2 = 0 → Q (some (J (-1))) M2))))))))) : R none (d + 1) mX4_blocks 0 [.ref 0, .int x1, .int x2] [] M Q := by
  refine r_aload_n dX4_blocks_0 rfl rfl ?_
  refine r_getR dX4_blocks_1 flX4_12 rfl rfl ?_
  refine r_iload_n dX4_blocks_4 rfl rfl ?_
  refine r_callV (as := [.int x1]) (st := []) dX4_blocks_5 cvX4_71 rfl rfl rfl rfl (Nat.le_of_ble_eq_true rfl) h (fun r M1 h => ?_)
  obtain ⟨v1, rfl, h⟩ := h
  refine r_if_eq (tgt := 18) dX4_blocks_8 (by decide) (fun c_8 => ?_) (fun c_8 => ?_)
  · replace h := h.1 c_8
    refine r_iconst (v := J (-1)) dX4_blocks_18 rfl ?_
    exact r_ret dX4_blocks_19 rfl rfl h
  · replace h := h.2 c_8
    refine r_iload_n dX4_blocks_11 rfl rfl ?_
    refine r_callS (as := [.int x2]) (st := []) dX4_blocks_12 csX4_115 rfl rfl (Nat.le_of_ble_eq_true rfl) h (fun r M2 h => ?_)
    obtain ⟨v2, rfl, h⟩ := h
    refine r_if_ne (tgt := 20) dX4_blocks_15 (by decide) (fun c_15 => ?_) (fun c_15 => ?_)
    · replace h := h.1 c_15
      refine r_aload_n dX4_blocks_20 rfl rfl ?_
      refine r_getR dX4_blocks_21 flX4_12 rfl rfl ?_
      refine r_iload_n dX4_blocks_24 rfl rfl ?_
      refine r_callV (as := [.int x1]) (st := []) dX4_blocks_25 cvX4_77 rfl rfl rfl rfl (Nat.le_of_ble_eq_true rfl) h (fun r M3 h => ?_)
      obtain ⟨v3, rfl, h⟩ := h
      refine r_if_ne (tgt := 34) dX4_blocks_28 (by decide) (fun c_28 => ?_) (fun c_28 => ?_)
      · replace h := h.1 c_28
        refine r_aload_n dX4_blocks_34 rfl rfl ?_
        refine r_getR dX4_blocks_35 flX4_12 rfl rfl ?_
        refine r_iload_n dX4_blocks_38 rfl rfl ?_
        refine r_iload_n dX4_blocks_39 rfl rfl ?_
        refine r_callV (as := [.int x1, .int x2]) (st := []) dX4_blocks_40 cvX4_147 rfl rfl rfl rfl (Nat.le_of_ble_eq_true rfl) h (fun r M4 h => ?_)
        obtain ⟨v4, rfl, h⟩ := h
        exact r_ret dX4_blocks_43 rfl rfl h
      · replace h := h.2 c_28
        refine r_bipush (v := J (-2)) dX4_blocks_31 (by decide +kernel) ?_
        exact r_ret dX4_blocks_33 rfl rfl h
    · replace h := h.2 c_15
      refine r_iconst (v := J (-1)) dX4_blocks_18 rfl ?_
      exact r_ret dX4_blocks_19 rfl rfl h
theorem e_X4_blocks {d : Nat} {M : Mem} {Q : Post} {x1 x2 : Int32} (h : (Mt d mX3_has [.ref 1, .int x1] M (ri fun v1 M1 => ((v1 = 0 → Q (some (J (-1))) M1) ∧ (¬ v1 = 0 → (Mt d mX4_isDirection [.int x2] M1 (ri fun v2 M2 => ((¬ v2 = 0 → (Mt d mX3_isLying [.ref 1, .int x1] M2 (ri fun v3 M3 => ((¬ v3 = 0 → (Mt d mX3_blockersOf [.ref 1, .int x1, .int x2] M3 (ri fun v4 M4 => Q (some v4) M4))) ∧ (v3 = 0 → Q (some (J (-2))) M3))))) ∧ (v2 = 0 → Q (some (J (-1))) M2))))))))) : Mt (d + 1) mX4_blocks [.ref 0, .int x1, .int x2] M Q := Mt.of (k := 0) (by decide +kernel) (okR (okI (okI okN))) (Nat.le_of_ble_eq_true rfl) rfl (b_X4_blocks_0 h)
set_option maxRecDepth 100000 in
set_option maxHeartbeats 4000000 in
theorem b_X4_order_0 {d : Nat} {M : Mem} {Q : Post} {x1 x2 : Int32} (h : (Mt d mX4_isDirection [.int x1] M (ri fun v1 M1 => ((v1 = 0 → Q (some (J (-1))) M1) ∧ (¬ v1 = 0 → (((J (-1)) ≤ x2 → (Mt d mX1_clearOff [.ref 3, .int x1] M1 (rn fun M2 => (Mt d mX1_told [.ref 3, .int x2] M2 (ri fun v2 M3 => Q (some v2) M3))))) ∧ (¬ (J (-1)) ≤ x2 → Q (some (J (-1))) M1))))))) : R none (d + 1) mX4_order 0 [.ref 0, .int x1, .int x2] [] M Q := by
  refine r_iload_n dX4_order_0 rfl rfl ?_
  refine r_callS (as := [.int x1]) (st := []) dX4_order_1 csX4_115 rfl rfl (Nat.le_of_ble_eq_true rfl) h (fun r M1 h => ?_)
  obtain ⟨v1, rfl, h⟩ := h
  refine r_if_eq (tgt := 12) dX4_order_4 (by decide) (fun c_4 => ?_) (fun c_4 => ?_)
  · replace h := h.1 c_4
    refine r_iconst (v := J (-1)) dX4_order_12 rfl ?_
    exact r_ret dX4_order_13 rfl rfl h
  · replace h := h.2 c_4
    refine r_iload_n dX4_order_7 rfl rfl ?_
    refine r_iconst (v := J (-1)) dX4_order_8 rfl ?_
    refine r_icmp_ge (tgt := 14) dX4_order_9 (by decide) (fun c_9 => ?_) (fun c_9 => ?_)
    · replace h := h.1 c_9
      refine r_aload_n dX4_order_14 rfl rfl ?_
      refine r_getR dX4_order_15 flX4_30 rfl rfl ?_
      refine r_iload_n dX4_order_18 rfl rfl ?_
      refine r_callV (as := [.int x1]) (st := []) dX4_order_19 cvX4_150 rfl rfl rfl rfl (Nat.le_of_ble_eq_true rfl) h (fun r M2 h => ?_)
      obtain ⟨rfl, h⟩ := h
      refine r_aload_n dX4_order_22 rfl rfl ?_
      refine r_getR dX4_order_23 flX4_30 rfl rfl ?_
      refine r_iload_n dX4_order_26 rfl rfl ?_
      refine r_callV (as := [.int x2]) (st := []) dX4_order_27 cvX4_153 rfl rfl rfl rfl (Nat.le_of_ble_eq_true rfl) h (fun r M3 h => ?_)
      obtain ⟨v2, rfl, h⟩ := h
      exact r_ret dX4_order_30 rfl rfl h
    · replace h := h.2 c_9
      refine r_iconst (v := J (-1)) dX4_order_12 rfl ?_
      exact r_ret dX4_order_13 rfl rfl h
theorem e_X4_order {d : Nat} {M : Mem} {Q : Post} {x1 x2 : Int32} (h : (Mt d mX4_isDirection [.int x1] M (ri fun v1 M1 => ((v1 = 0 → Q (some (J (-1))) M1) ∧ (¬ v1 = 0 → (((J (-1)) ≤ x2 → (Mt d mX1_clearOff [.ref 3, .int x1] M1 (rn fun M2 => (Mt d mX1_told [.ref 3, .int x2] M2 (ri fun v2 M3 => Q (some v2) M3))))) ∧ (¬ (J (-1)) ≤ x2 → Q (some (J (-1))) M1))))))) : Mt (d + 1) mX4_order [.ref 0, .int x1, .int x2] M Q := Mt.of (k := 0) (by decide +kernel) (okR (okI (okI okN))) (Nat.le_of_ble_eq_true rfl) rfl (b_X4_order_0 h)
set_option maxRecDepth 100000 in
set_option maxHeartbeats 4000000 in
theorem b_X4_apart_0 {d : Nat} {M : Mem} {Q : Post} {x1 : Int32} (h : (((J (-1)) ≤ x1 → (Mt d mX1_clearOff [.ref 3, .int (J (-1))] M (rn fun M1 => (Mt d mX1_told [.ref 3, .int x1] M1 (ri fun v1 M2 => Q (some v1) M2))))) ∧ (¬ (J (-1)) ≤ x1 → Q (some (J (-1))) M))) : R none (d + 1) mX4_apart 0 [.ref 0, .int x1] [] M Q := by
  refine r_iload_n dX4_apart_0 rfl rfl ?_
  refine r_iconst (v := J (-1)) dX4_apart_1 rfl ?_
  refine r_icmp_ge (tgt := 7) dX4_apart_2 (by decide) (fun c_2 => ?_) (fun c_2 => ?_)
  · replace h := h.1 c_2
    refine r_aload_n dX4_apart_7 rfl rfl ?_
    refine r_getR dX4_apart_8 flX4_30 rfl rfl ?_
    refine r_iconst (v := J (-1)) dX4_apart_11 rfl ?_
    refine r_callV (as := [.int (J (-1))]) (st := []) dX4_apart_12 cvX4_150 rfl rfl rfl rfl (Nat.le_of_ble_eq_true rfl) h (fun r M1 h => ?_)
    obtain ⟨rfl, h⟩ := h
    refine r_aload_n dX4_apart_15 rfl rfl ?_
    refine r_getR dX4_apart_16 flX4_30 rfl rfl ?_
    refine r_iload_n dX4_apart_19 rfl rfl ?_
    refine r_callV (as := [.int x1]) (st := []) dX4_apart_20 cvX4_153 rfl rfl rfl rfl (Nat.le_of_ble_eq_true rfl) h (fun r M2 h => ?_)
    obtain ⟨v1, rfl, h⟩ := h
    exact r_ret dX4_apart_23 rfl rfl h
  · replace h := h.2 c_2
    refine r_iconst (v := J (-1)) dX4_apart_5 rfl ?_
    exact r_ret dX4_apart_6 rfl rfl h
theorem e_X4_apart {d : Nat} {M : Mem} {Q : Post} {x1 : Int32} (h : (((J (-1)) ≤ x1 → (Mt d mX1_clearOff [.ref 3, .int (J (-1))] M (rn fun M1 => (Mt d mX1_told [.ref 3, .int x1] M1 (ri fun v1 M2 => Q (some v1) M2))))) ∧ (¬ (J (-1)) ≤ x1 → Q (some (J (-1))) M))) : Mt (d + 1) mX4_apart [.ref 0, .int x1] M Q := Mt.of (k := 0) (by decide +kernel) (okR (okI okN)) (Nat.le_of_ble_eq_true rfl) rfl (b_X4_apart_0 h)
set_option maxRecDepth 100000 in
set_option maxHeartbeats 4000000 in
theorem b_X4_push_0 {d : Nat} {M : Mem} {Q : Post} {x1 x2 x3 : Int32} (h : (Mt d mX3_has [.ref 1, .int x1] M (ri fun v1 M1 => ((v1 = 0 → Q (some (J (-1000))) M1) ∧ (¬ v1 = 0 → (Mt d mX3_has [.ref 1, .int x2] M1 (ri fun v2 M2 => ((v2 = 0 → Q (some (J (-1000))) M2) ∧ (¬ v2 = 0 → ((x1 = x2 → Q (some (J (-1000))) M2) ∧ (¬ x1 = x2 → ((x3 < 0 → Q (some (J (-1000))) M2) ∧ (¬ x3 < 0 → ((x3 ≤ (J 1) → (Mt d mX3_shapeOf [.ref 1, .int x1] M2 (ri fun v3 M3 => (Mt d mX3_shapeOf [.ref 1, .int x2] M3 (ri fun v4 M4 => (Mt d mX4_leastPush [.int v3, .int v4, .int x3] M4 (ri fun v5 M5 => Q (some v5) M5))))))) ∧ (¬ x3 ≤ (J 1) → Q (some (J (-1000))) M2))))))))))))))) : R none (d + 1) mX4_push 0 [.ref 0, .int x1, .int x2, .int x3] [] M Q := by
  refine r_aload_n dX4_push_0 rfl rfl ?_
  refine r_getR dX4_push_1 flX4_12 rfl rfl ?_
  refine r_iload_n dX4_push_4 rfl rfl ?_
  refine r_callV (as := [.int x1]) (st := []) dX4_push_5 cvX4_71 rfl rfl rfl rfl (Nat.le_of_ble_eq_true rfl) h (fun r M1 h => ?_)
  obtain ⟨v1, rfl, h⟩ := h
  refine r_if_eq (tgt := 36) dX4_push_8 (by decide) (fun c_8 => ?_) (fun c_8 => ?_)
  · replace h := h.1 c_8
    refine r_sipush (v := J (-1000)) dX4_push_36 (by decide +kernel) ?_
    exact r_ret dX4_push_39 rfl rfl h
  · replace h := h.2 c_8
    refine r_aload_n dX4_push_11 rfl rfl ?_
    refine r_getR dX4_push_12 flX4_12 rfl rfl ?_
    refine r_iload_n dX4_push_15 rfl rfl ?_
    refine r_callV (as := [.int x2]) (st := []) dX4_push_16 cvX4_71 rfl rfl rfl rfl (Nat.le_of_ble_eq_true rfl) h (fun r M2 h => ?_)
    obtain ⟨v2, rfl, h⟩ := h
    refine r_if_eq (tgt := 36) dX4_push_19 (by decide) (fun c_19 => ?_) (fun c_19 => ?_)
    · replace h := h.1 c_19
      refine r_sipush (v := J (-1000)) dX4_push_36 (by decide +kernel) ?_
      exact r_ret dX4_push_39 rfl rfl h
    · replace h := h.2 c_19
      refine r_iload_n dX4_push_22 rfl rfl ?_
      refine r_iload_n dX4_push_23 rfl rfl ?_
      refine r_icmp_eq (tgt := 36) dX4_push_24 (by decide) (fun c_24 => ?_) (fun c_24 => ?_)
      · replace h := h.1 c_24
        refine r_sipush (v := J (-1000)) dX4_push_36 (by decide +kernel) ?_
        exact r_ret dX4_push_39 rfl rfl h
      · replace h := h.2 c_24
        refine r_iload_n dX4_push_27 rfl rfl ?_
        refine r_if_lt (tgt := 36) dX4_push_28 (by decide) (fun c_28 => ?_) (fun c_28 => ?_)
        · replace h := h.1 c_28
          refine r_sipush (v := J (-1000)) dX4_push_36 (by decide +kernel) ?_
          exact r_ret dX4_push_39 rfl rfl h
        · replace h := h.2 c_28
          refine r_iload_n dX4_push_31 rfl rfl ?_
          refine r_iconst (v := J 1) dX4_push_32 rfl ?_
          refine r_icmp_le (tgt := 40) dX4_push_33 (by decide) (fun c_33 => ?_) (fun c_33 => ?_)
          · replace h := h.1 c_33
            refine r_aload_n dX4_push_40 rfl rfl ?_
            refine r_getR dX4_push_41 flX4_12 rfl rfl ?_
            refine r_iload_n dX4_push_44 rfl rfl ?_
            refine r_callV (as := [.int x1]) (st := []) dX4_push_45 cvX4_74 rfl rfl rfl rfl (Nat.le_of_ble_eq_true rfl) h (fun r M3 h => ?_)
            obtain ⟨v3, rfl, h⟩ := h
            refine r_aload_n dX4_push_48 rfl rfl ?_
            refine r_getR dX4_push_49 flX4_12 rfl rfl ?_
            refine r_iload_n dX4_push_52 rfl rfl ?_
            refine r_callV (as := [.int x2]) (st := [.int v3]) dX4_push_53 cvX4_74 rfl rfl rfl rfl (Nat.le_of_ble_eq_true rfl) h (fun r M4 h => ?_)
            obtain ⟨v4, rfl, h⟩ := h
            refine r_iload_n dX4_push_56 rfl rfl ?_
            refine r_callS (as := [.int v3, .int v4, .int x3]) (st := []) dX4_push_57 csX4_156 rfl rfl (Nat.le_of_ble_eq_true rfl) h (fun r M5 h => ?_)
            obtain ⟨v5, rfl, h⟩ := h
            exact r_ret dX4_push_60 rfl rfl h
          · replace h := h.2 c_33
            refine r_sipush (v := J (-1000)) dX4_push_36 (by decide +kernel) ?_
            exact r_ret dX4_push_39 rfl rfl h
theorem e_X4_push {d : Nat} {M : Mem} {Q : Post} {x1 x2 x3 : Int32} (h : (Mt d mX3_has [.ref 1, .int x1] M (ri fun v1 M1 => ((v1 = 0 → Q (some (J (-1000))) M1) ∧ (¬ v1 = 0 → (Mt d mX3_has [.ref 1, .int x2] M1 (ri fun v2 M2 => ((v2 = 0 → Q (some (J (-1000))) M2) ∧ (¬ v2 = 0 → ((x1 = x2 → Q (some (J (-1000))) M2) ∧ (¬ x1 = x2 → ((x3 < 0 → Q (some (J (-1000))) M2) ∧ (¬ x3 < 0 → ((x3 ≤ (J 1) → (Mt d mX3_shapeOf [.ref 1, .int x1] M2 (ri fun v3 M3 => (Mt d mX3_shapeOf [.ref 1, .int x2] M3 (ri fun v4 M4 => (Mt d mX4_leastPush [.int v3, .int v4, .int x3] M4 (ri fun v5 M5 => Q (some v5) M5))))))) ∧ (¬ x3 ≤ (J 1) → Q (some (J (-1000))) M2))))))))))))))) : Mt (d + 1) mX4_push [.ref 0, .int x1, .int x2, .int x3] M Q := Mt.of (k := 0) (by decide +kernel) (okR (okI (okI (okI okN)))) (Nat.le_of_ble_eq_true rfl) rfl (b_X4_push_0 h)
set_option maxRecDepth 100000 in
set_option maxHeartbeats 4000000 in
theorem b_X4_strip_0 {d : Nat} {M : Mem} {Q : Post} {x1 x2 x3 x4 : Int32} (h : ((x2 < (J 1) → Q (some (J (-1))) M) ∧ (¬ x2 < (J 1) → (((J 5) < x2 → Q (some (J (-1))) M) ∧ (¬ (J 5) < x2 → ((¬ (ushr x3 ((J 3) * x2)) = 0 → Q (some (J (-1))) M) ∧ ((ushr x3 ((J 3) * x2)) = 0 → ((x4 < 0 → Q (some (J (-1))) M) ∧ (¬ x4 < 0 → ((x4 ≤ x2 → (Mt d mX4_setOf [.int x2, .int x3] M (ri fun v1 M1 => (Mt d mJ6_bitCount_0f7a4 [.int v1] M1 (ri fun v2 M2 => ((¬ v2 = x2 → Q (some (J (-1))) M2) ∧ (v2 = x2 → (Mt d mX0_fits [.ref 4, .int x1, .int v1] M2 (ri fun v3 M3 => ((¬ v3 = 0 → (Mt d mX0_fill [.ref 4, .int x1, .int x2, .int x3] M3 (ri fun v4 M4 => ((¬ x4 = 0 → (Mt d mX0_spotAt [.ref 4, .int (x4 - (J 1))] M4 (ri fun v5 M5 => Q (some v5) M5))) ∧ (x4 = 0 → Q (some v4) M4))))) ∧ (v3 = 0 → Q (some (J (-1))) M3))))))))))) ∧ (¬ x4 ≤ x2 → Q (some (J (-1))) M))))))))))) : R none (d + 1) mX4_strip 0 [.ref 0, .int x1, .int x2, .int x3, .int x4, .null, .null] [] M Q := by
  refine r_iload_n dX4_strip_0 rfl rfl ?_
  refine r_iconst (v := J 1) dX4_strip_1 rfl ?_
  refine r_icmp_lt (tgt := 29) dX4_strip_2 (by decide) (fun c_2 => ?_) (fun c_2 => ?_)
  · replace h := h.1 c_2
    refine r_iconst (v := J (-1)) dX4_strip_29 rfl ?_
    exact r_ret dX4_strip_30 rfl rfl h
  · replace h := h.2 c_2
    refine r_iload_n dX4_strip_5 rfl rfl ?_
    refine r_iconst (v := J 5) dX4_strip_6 rfl ?_
    refine r_icmp_gt (tgt := 29) dX4_strip_7 (by decide) (fun c_7 => ?_) (fun c_7 => ?_)
    · replace h := h.1 c_7
      refine r_iconst (v := J (-1)) dX4_strip_29 rfl ?_
      exact r_ret dX4_strip_30 rfl rfl h
    · replace h := h.2 c_7
      refine r_iload_n dX4_strip_10 rfl rfl ?_
      refine r_iconst (v := J 3) dX4_strip_11 rfl ?_
      refine r_iload_n dX4_strip_12 rfl rfl ?_
      refine r_imul dX4_strip_13 ?_
      refine r_iushr dX4_strip_14 ?_
      refine r_if_ne (tgt := 29) dX4_strip_15 (by decide) (fun c_15 => ?_) (fun c_15 => ?_)
      · replace h := h.1 c_15
        refine r_iconst (v := J (-1)) dX4_strip_29 rfl ?_
        exact r_ret dX4_strip_30 rfl rfl h
      · replace h := h.2 c_15
        refine r_iload dX4_strip_18 rfl ?_
        refine r_if_lt (tgt := 29) dX4_strip_20 (by decide) (fun c_20 => ?_) (fun c_20 => ?_)
        · replace h := h.1 c_20
          refine r_iconst (v := J (-1)) dX4_strip_29 rfl ?_
          exact r_ret dX4_strip_30 rfl rfl h
        · replace h := h.2 c_20
          refine r_iload dX4_strip_23 rfl ?_
          refine r_iload_n dX4_strip_25 rfl rfl ?_
          refine r_icmp_le (tgt := 31) dX4_strip_26 (by decide) (fun c_26 => ?_) (fun c_26 => ?_)
          · replace h := h.1 c_26
            refine r_iload_n dX4_strip_31 rfl rfl ?_
            refine r_iload_n dX4_strip_32 rfl rfl ?_
            refine r_callS (as := [.int x2, .int x3]) (st := []) dX4_strip_33 csX4_159 rfl rfl (Nat.le_of_ble_eq_true rfl) h (fun r M1 h => ?_)
            obtain ⟨v1, rfl, h⟩ := h
            refine r_istore dX4_strip_36 (by decide) rfl ?_
            refine r_iload dX4_strip_38 rfl ?_
            refine r_callS (as := [.int v1]) (st := []) dX4_strip_40 csX4_80 rfl rfl (Nat.le_of_ble_eq_true rfl) h (fun r M2 h => ?_)
            obtain ⟨v2, rfl, h⟩ := h
            refine r_iload_n dX4_strip_43 rfl rfl ?_
            refine r_icmp_ne (tgt := 60) dX4_strip_44 (by decide) (fun c_44 => ?_) (fun c_44 => ?_)
            · replace h := h.1 c_44
              refine r_iconst (v := J (-1)) dX4_strip_60 rfl ?_
              exact r_ret dX4_strip_61 rfl rfl h
            · replace h := h.2 c_44
              refine r_aload_n dX4_strip_47 rfl rfl ?_
              refine r_getR dX4_strip_48 flX4_37 rfl rfl ?_
              refine r_iload_n dX4_strip_51 rfl rfl ?_
              refine r_iload dX4_strip_52 rfl ?_
              refine r_callV (as := [.int x1, .int v1]) (st := []) dX4_strip_54 cvX4_162 rfl rfl rfl rfl (Nat.le_of_ble_eq_true rfl) h (fun r M3 h => ?_)
              obtain ⟨v3, rfl, h⟩ := h
              refine r_if_ne (tgt := 62) dX4_strip_57 (by decide) (fun c_57 => ?_) (fun c_57 => ?_)
              · replace h := h.1 c_57
                refine r_aload_n dX4_strip_62 rfl rfl ?_
                refine r_getR dX4_strip_63 flX4_37 rfl rfl ?_
                refine r_iload_n dX4_strip_66 rfl rfl ?_
                refine r_iload_n dX4_strip_67 rfl rfl ?_
                refine r_iload_n dX4_strip_68 rfl rfl ?_
                refine r_callV (as := [.int x1, .int x2, .int x3]) (st := []) dX4_strip_69 cvX4_165 rfl rfl rfl rfl (Nat.le_of_ble_eq_true rfl) h (fun r M4 h => ?_)
                obtain ⟨v4, rfl, h⟩ := h
                refine r_istore dX4_strip_72 (by decide) rfl ?_
                refine r_iload dX4_strip_74 rfl ?_
                refine r_if_ne (tgt := 84) dX4_strip_76 (by decide) (fun c_76 => ?_) (fun c_76 => ?_)
                · replace h := h.1 c_76
                  refine r_aload_n dX4_strip_84 rfl rfl ?_
                  refine r_getR dX4_strip_85 flX4_37 rfl rfl ?_
                  refine r_iload dX4_strip_88 rfl ?_
                  refine r_iconst (v := J 1) dX4_strip_90 rfl ?_
                  refine r_isub dX4_strip_91 ?_
                  refine r_callV (as := [.int (x4 - (J 1))]) (st := []) dX4_strip_92 cvX4_168 rfl rfl rfl rfl (Nat.le_of_ble_eq_true rfl) h (fun r M5 h => ?_)
                  obtain ⟨v5, rfl, h⟩ := h
                  exact r_ret dX4_strip_95 rfl rfl h
                · replace h := h.2 c_76
                  refine r_iload dX4_strip_79 rfl ?_
                  refine r_goto (tgt := 95) dX4_strip_81 (by decide) ?_
                  exact r_ret dX4_strip_95 rfl rfl h
              · replace h := h.2 c_57
                refine r_iconst (v := J (-1)) dX4_strip_60 rfl ?_
                exact r_ret dX4_strip_61 rfl rfl h
          · replace h := h.2 c_26
            refine r_iconst (v := J (-1)) dX4_strip_29 rfl ?_
            exact r_ret dX4_strip_30 rfl rfl h
theorem e_X4_strip {d : Nat} {M : Mem} {Q : Post} {x1 x2 x3 x4 : Int32} (h : ((x2 < (J 1) → Q (some (J (-1))) M) ∧ (¬ x2 < (J 1) → (((J 5) < x2 → Q (some (J (-1))) M) ∧ (¬ (J 5) < x2 → ((¬ (ushr x3 ((J 3) * x2)) = 0 → Q (some (J (-1))) M) ∧ ((ushr x3 ((J 3) * x2)) = 0 → ((x4 < 0 → Q (some (J (-1))) M) ∧ (¬ x4 < 0 → ((x4 ≤ x2 → (Mt d mX4_setOf [.int x2, .int x3] M (ri fun v1 M1 => (Mt d mJ6_bitCount_0f7a4 [.int v1] M1 (ri fun v2 M2 => ((¬ v2 = x2 → Q (some (J (-1))) M2) ∧ (v2 = x2 → (Mt d mX0_fits [.ref 4, .int x1, .int v1] M2 (ri fun v3 M3 => ((¬ v3 = 0 → (Mt d mX0_fill [.ref 4, .int x1, .int x2, .int x3] M3 (ri fun v4 M4 => ((¬ x4 = 0 → (Mt d mX0_spotAt [.ref 4, .int (x4 - (J 1))] M4 (ri fun v5 M5 => Q (some v5) M5))) ∧ (x4 = 0 → Q (some v4) M4))))) ∧ (v3 = 0 → Q (some (J (-1))) M3))))))))))) ∧ (¬ x4 ≤ x2 → Q (some (J (-1))) M))))))))))) : Mt (d + 1) mX4_strip [.ref 0, .int x1, .int x2, .int x3, .int x4] M Q := Mt.of (k := 2) (by decide +kernel) (okR (okI (okI (okI (okI okN))))) (Nat.le_of_ble_eq_true rfl) rfl (b_X4_strip_0 h)
set_option maxRecDepth 100000 in
set_option maxHeartbeats 4000000 in
theorem b_X4_best_0 {d : Nat} {M : Mem} {Q : Post} {x1 x2 x3 : Int32} (h : ((x2 < (J 1) → Q (some (J (-1))) M) ∧ (¬ x2 < (J 1) → (Mt d mJ6_bitCount_0f7a4 [.int x2] M (ri fun v1 M1 => (((J 5) < v1 → Q (some (J (-1))) M1) ∧ (¬ (J 5) < v1 → ((x3 < 0 → Q (some (J (-1))) M1) ∧ (¬ x3 < 0 → ((x3 ≤ (J 1) → (Mt d mX0_fits [.ref 4, .int x1, .int x2] M1 (ri fun v2 M2 => ((¬ v2 = 0 → (Mt d mX0_findBest [.ref 4, .int x1, .int x2] M2 (rn fun M3 => ((¬ x3 = 0 → (Mt d mX0_bestOrder [.ref 4] M3 (ri fun v3 M4 => Q (some v3) M4))) ∧ (x3 = 0 → (Mt d mX0_bestHeight [.ref 4] M3 (ri fun v4 M5 => Q (some v4) M5))))))) ∧ (v2 = 0 → Q (some (J (-1))) M2))))) ∧ (¬ x3 ≤ (J 1) → Q (some (J (-1))) M1))))))))))) : R none (d + 1) mX4_best 0 [.ref 0, .int x1, .int x2, .int x3] [] M Q := by
  refine r_iload_n dX4_best_0 rfl rfl ?_
  refine r_iconst (v := J 1) dX4_best_1 rfl ?_
  refine r_icmp_lt (tgt := 22) dX4_best_2 (by decide) (fun c_2 => ?_) (fun c_2 => ?_)
  · replace h := h.1 c_2
    refine r_iconst (v := J (-1)) dX4_best_22 rfl ?_
    exact r_ret dX4_best_23 rfl rfl h
  · replace h := h.2 c_2
    refine r_iload_n dX4_best_5 rfl rfl ?_
    refine r_callS (as := [.int x2]) (st := []) dX4_best_6 csX4_80 rfl rfl (Nat.le_of_ble_eq_true rfl) h (fun r M1 h => ?_)
    obtain ⟨v1, rfl, h⟩ := h
    refine r_iconst (v := J 5) dX4_best_9 rfl ?_
    refine r_icmp_gt (tgt := 22) dX4_best_10 (by decide) (fun c_10 => ?_) (fun c_10 => ?_)
    · replace h := h.1 c_10
      refine r_iconst (v := J (-1)) dX4_best_22 rfl ?_
      exact r_ret dX4_best_23 rfl rfl h
    · replace h := h.2 c_10
      refine r_iload_n dX4_best_13 rfl rfl ?_
      refine r_if_lt (tgt := 22) dX4_best_14 (by decide) (fun c_14 => ?_) (fun c_14 => ?_)
      · replace h := h.1 c_14
        refine r_iconst (v := J (-1)) dX4_best_22 rfl ?_
        exact r_ret dX4_best_23 rfl rfl h
      · replace h := h.2 c_14
        refine r_iload_n dX4_best_17 rfl rfl ?_
        refine r_iconst (v := J 1) dX4_best_18 rfl ?_
        refine r_icmp_le (tgt := 24) dX4_best_19 (by decide) (fun c_19 => ?_) (fun c_19 => ?_)
        · replace h := h.1 c_19
          refine r_aload_n dX4_best_24 rfl rfl ?_
          refine r_getR dX4_best_25 flX4_37 rfl rfl ?_
          refine r_iload_n dX4_best_28 rfl rfl ?_
          refine r_iload_n dX4_best_29 rfl rfl ?_
          refine r_callV (as := [.int x1, .int x2]) (st := []) dX4_best_30 cvX4_162 rfl rfl rfl rfl (Nat.le_of_ble_eq_true rfl) h (fun r M2 h => ?_)
          obtain ⟨v2, rfl, h⟩ := h
          refine r_if_ne (tgt := 38) dX4_best_33 (by decide) (fun c_33 => ?_) (fun c_33 => ?_)
          · replace h := h.1 c_33
            refine r_aload_n dX4_best_38 rfl rfl ?_
            refine r_getR dX4_best_39 flX4_37 rfl rfl ?_
            refine r_iload_n dX4_best_42 rfl rfl ?_
            refine r_iload_n dX4_best_43 rfl rfl ?_
            refine r_callV (as := [.int x1, .int x2]) (st := []) dX4_best_44 cvX4_171 rfl rfl rfl rfl (Nat.le_of_ble_eq_true rfl) h (fun r M3 h => ?_)
            obtain ⟨rfl, h⟩ := h
            refine r_iload_n dX4_best_47 rfl rfl ?_
            refine r_if_ne (tgt := 61) dX4_best_48 (by decide) (fun c_48 => ?_) (fun c_48 => ?_)
            · replace h := h.1 c_48
              refine r_aload_n dX4_best_61 rfl rfl ?_
              refine r_getR dX4_best_62 flX4_37 rfl rfl ?_
              refine r_callV (as := []) (st := []) dX4_best_65 cvX4_177 rfl rfl rfl rfl (Nat.le_of_ble_eq_true rfl) h (fun r M4 h => ?_)
              obtain ⟨v3, rfl, h⟩ := h
              exact r_ret dX4_best_68 rfl rfl h
            · replace h := h.2 c_48
              refine r_aload_n dX4_best_51 rfl rfl ?_
              refine r_getR dX4_best_52 flX4_37 rfl rfl ?_
              refine r_callV (as := []) (st := []) dX4_best_55 cvX4_174 rfl rfl rfl rfl (Nat.le_of_ble_eq_true rfl) h (fun r M5 h => ?_)
              obtain ⟨v4, rfl, h⟩ := h
              refine r_goto (tgt := 68) dX4_best_58 (by decide) ?_
              exact r_ret dX4_best_68 rfl rfl h
          · replace h := h.2 c_33
            refine r_iconst (v := J (-1)) dX4_best_36 rfl ?_
            exact r_ret dX4_best_37 rfl rfl h
        · replace h := h.2 c_19
          refine r_iconst (v := J (-1)) dX4_best_22 rfl ?_
          exact r_ret dX4_best_23 rfl rfl h
theorem e_X4_best {d : Nat} {M : Mem} {Q : Post} {x1 x2 x3 : Int32} (h : ((x2 < (J 1) → Q (some (J (-1))) M) ∧ (¬ x2 < (J 1) → (Mt d mJ6_bitCount_0f7a4 [.int x2] M (ri fun v1 M1 => (((J 5) < v1 → Q (some (J (-1))) M1) ∧ (¬ (J 5) < v1 → ((x3 < 0 → Q (some (J (-1))) M1) ∧ (¬ x3 < 0 → ((x3 ≤ (J 1) → (Mt d mX0_fits [.ref 4, .int x1, .int x2] M1 (ri fun v2 M2 => ((¬ v2 = 0 → (Mt d mX0_findBest [.ref 4, .int x1, .int x2] M2 (rn fun M3 => ((¬ x3 = 0 → (Mt d mX0_bestOrder [.ref 4] M3 (ri fun v3 M4 => Q (some v3) M4))) ∧ (x3 = 0 → (Mt d mX0_bestHeight [.ref 4] M3 (ri fun v4 M5 => Q (some v4) M5))))))) ∧ (v2 = 0 → Q (some (J (-1))) M2))))) ∧ (¬ x3 ≤ (J 1) → Q (some (J (-1))) M1))))))))))) : Mt (d + 1) mX4_best [.ref 0, .int x1, .int x2, .int x3] M Q := Mt.of (k := 0) (by decide +kernel) (okR (okI (okI (okI okN)))) (Nat.le_of_ble_eq_true rfl) rfl (b_X4_best_0 h)
set_option maxRecDepth 100000 in
set_option maxHeartbeats 4000000 in
theorem b_X4_count_0 {d : Nat} {M : Mem} {Q : Post} {x1 : Int32} (h : (((x1.toInt < 0 ∨ 4 < x1.toInt) → Q (some (J (-1))) M) ∧ ((x1.toInt = 0) → (Mt d mX3_columnCount [.ref 1] M (ri fun v1 M1 => Q (some v1) M1))) ∧ ((x1.toInt = 1) → (Mt d mX3_rowCount [.ref 1] M (ri fun v2 M2 => Q (some v2) M2))) ∧ ((x1.toInt = 2) → (Mt d mX3_pieceCount [.ref 1] M (ri fun v3 M3 => Q (some v3) M3))) ∧ ((x1.toInt = 3) → (Mt d mX3_lyingSet [.ref 1] M (ri fun v4 M4 => (Mt d mJ6_bitCount_0f7a4 [.int v4] M4 (ri fun v5 M5 => Q (some v5) M5))))) ∧ ((x1.toInt = 4) → (Mt d mX3_wallCount [.ref 1] M (ri fun v6 M6 => Q (some v6) M6))))) : R none (d + 1) mX4_count 0 [.ref 0, .int x1] [] M Q := by
  refine r_iload_n dX4_count_0 rfl rfl ?_
  rcases (show (x1.toInt < 0 ∨ 4 < x1.toInt) ∨ (x1.toInt = 0) ∨ (x1.toInt = 1) ∨ (x1.toInt = 2) ∨ (x1.toInt = 3) ∨ (x1.toInt = 4) by omega) with q | q | q | q | q | q
  · replace h := h.1 q
    refine r_table (off := 78) (tgt := 79) dX4_count_1 (by rw [if_pos q]) (by decide) ?_
    refine r_iconst (v := J (-1)) dX4_count_79 rfl ?_
    exact r_ret dX4_count_80 rfl rfl h
  · replace h := h.2.1 q
    refine r_table (off := 35) (tgt := 36) dX4_count_1 (by rw [if_neg (by omega), q]; rfl) (by decide) ?_
    refine r_aload_n dX4_count_36 rfl rfl ?_
    refine r_getR dX4_count_37 flX4_12 rfl rfl ?_
    refine r_callV (as := []) (st := []) dX4_count_40 cvX4_180 rfl rfl rfl rfl (Nat.le_of_ble_eq_true rfl) h (fun r M1 h => ?_)
    obtain ⟨v1, rfl, h⟩ := h
    exact r_ret dX4_count_43 rfl rfl h
  · replace h := h.2.2.1 q
    refine r_table (off := 43) (tgt := 44) dX4_count_1 (by rw [if_neg (by omega), q]; rfl) (by decide) ?_
    refine r_aload_n dX4_count_44 rfl rfl ?_
    refine r_getR dX4_count_45 flX4_12 rfl rfl ?_
    refine r_callV (as := []) (st := []) dX4_count_48 cvX4_183 rfl rfl rfl rfl (Nat.le_of_ble_eq_true rfl) h (fun r M2 h => ?_)
    obtain ⟨v2, rfl, h⟩ := h
    exact r_ret dX4_count_51 rfl rfl h
  · replace h := h.2.2.2.1 q
    refine r_table (off := 51) (tgt := 52) dX4_count_1 (by rw [if_neg (by omega), q]; rfl) (by decide) ?_
    refine r_aload_n dX4_count_52 rfl rfl ?_
    refine r_getR dX4_count_53 flX4_12 rfl rfl ?_
    refine r_callV (as := []) (st := []) dX4_count_56 cvX4_186 rfl rfl rfl rfl (Nat.le_of_ble_eq_true rfl) h (fun r M3 h => ?_)
    obtain ⟨v3, rfl, h⟩ := h
    exact r_ret dX4_count_59 rfl rfl h
  · replace h := h.2.2.2.2.1 q
    refine r_table (off := 59) (tgt := 60) dX4_count_1 (by rw [if_neg (by omega), q]; rfl) (by decide) ?_
    refine r_aload_n dX4_count_60 rfl rfl ?_
    refine r_getR dX4_count_61 flX4_12 rfl rfl ?_
    refine r_callV (as := []) (st := []) dX4_count_64 cvX4_189 rfl rfl rfl rfl (Nat.le_of_ble_eq_true rfl) h (fun r M4 h => ?_)
    obtain ⟨v4, rfl, h⟩ := h
    refine r_callS (as := [.int v4]) (st := []) dX4_count_67 csX4_80 rfl rfl (Nat.le_of_ble_eq_true rfl) h (fun r M5 h => ?_)
    obtain ⟨v5, rfl, h⟩ := h
    exact r_ret dX4_count_70 rfl rfl h
  · replace h := h.2.2.2.2.2 q
    refine r_table (off := 70) (tgt := 71) dX4_count_1 (by rw [if_neg (by omega), q]; rfl) (by decide) ?_
    refine r_aload_n dX4_count_71 rfl rfl ?_
    refine r_getR dX4_count_72 flX4_12 rfl rfl ?_
    refine r_callV (as := []) (st := []) dX4_count_75 cvX4_192 rfl rfl rfl rfl (Nat.le_of_ble_eq_true rfl) h (fun r M6 h => ?_)
    obtain ⟨v6, rfl, h⟩ := h
    exact r_ret dX4_count_78 rfl rfl h
theorem e_X4_count {d : Nat} {M : Mem} {Q : Post} {x1 : Int32} (h : (((x1.toInt < 0 ∨ 4 < x1.toInt) → Q (some (J (-1))) M) ∧ ((x1.toInt = 0) → (Mt d mX3_columnCount [.ref 1] M (ri fun v1 M1 => Q (some v1) M1))) ∧ ((x1.toInt = 1) → (Mt d mX3_rowCount [.ref 1] M (ri fun v2 M2 => Q (some v2) M2))) ∧ ((x1.toInt = 2) → (Mt d mX3_pieceCount [.ref 1] M (ri fun v3 M3 => Q (some v3) M3))) ∧ ((x1.toInt = 3) → (Mt d mX3_lyingSet [.ref 1] M (ri fun v4 M4 => (Mt d mJ6_bitCount_0f7a4 [.int v4] M4 (ri fun v5 M5 => Q (some v5) M5))))) ∧ ((x1.toInt = 4) → (Mt d mX3_wallCount [.ref 1] M (ri fun v6 M6 => Q (some v6) M6))))) : Mt (d + 1) mX4_count [.ref 0, .int x1] M Q := Mt.of (k := 0) (by decide +kernel) (okR (okI okN)) (Nat.le_of_ble_eq_true rfl) rfl (b_X4_count_0 h)
set_option maxRecDepth 100000 in
set_option maxHeartbeats 4000000 in
theorem b_X4_isPlace_0 {d : Nat} {M : Mem} {Q : Post} {x0 x1 : Int32} (h : ((x0 < (J (-6)) → Q (some (J 0)) M) ∧ (¬ x0 < (J (-6)) → (((J 13) < x0 → Q (some (J 0)) M) ∧ (¬ (J 13) < x0 → ((x1 < (J (-6)) → Q (some (J 0)) M) ∧ (¬ x1 < (J (-6)) → (((J 13) < x1 → Q (some (J 0)) M) ∧ (¬ (J 13) < x1 → Q (some (J 1)) M))))))))) : R none (d + 1) mX4_isPlace 0 [.int x0, .int x1] [] M Q := by
  refine r_iload_n dX4_isPlace_0 rfl rfl ?_
  refine r_bipush (v := J (-6)) dX4_isPlace_1 (by decide +kernel) ?_
  refine r_icmp_lt (tgt := 28) dX4_isPlace_3 (by decide) (fun c_3 => ?_) (fun c_3 => ?_)
  · replace h := h.1 c_3
    refine r_iconst (v := J 0) dX4_isPlace_28 rfl ?_
    exact r_ret dX4_isPlace_29 rfl nb0 h
  · replace h := h.2 c_3
    refine r_iload_n dX4_isPlace_6 rfl rfl ?_
    refine r_bipush (v := J 13) dX4_isPlace_7 (by decide +kernel) ?_
    refine r_icmp_gt (tgt := 28) dX4_isPlace_9 (by decide) (fun c_9 => ?_) (fun c_9 => ?_)
    · replace h := h.1 c_9
      refine r_iconst (v := J 0) dX4_isPlace_28 rfl ?_
      exact r_ret dX4_isPlace_29 rfl nb0 h
    · replace h := h.2 c_9
      refine r_iload_n dX4_isPlace_12 rfl rfl ?_
      refine r_bipush (v := J (-6)) dX4_isPlace_13 (by decide +kernel) ?_
      refine r_icmp_lt (tgt := 28) dX4_isPlace_15 (by decide) (fun c_15 => ?_) (fun c_15 => ?_)
      · replace h := h.1 c_15
        refine r_iconst (v := J 0) dX4_isPlace_28 rfl ?_
        exact r_ret dX4_isPlace_29 rfl nb0 h
      · replace h := h.2 c_15
        refine r_iload_n dX4_isPlace_18 rfl rfl ?_
        refine r_bipush (v := J 13) dX4_isPlace_19 (by decide +kernel) ?_
        refine r_icmp_gt (tgt := 28) dX4_isPlace_21 (by decide) (fun c_21 => ?_) (fun c_21 => ?_)
        · replace h := h.1 c_21
          refine r_iconst (v := J 0) dX4_isPlace_28 rfl ?_
          exact r_ret dX4_isPlace_29 rfl nb0 h
        · replace h := h.2 c_21
          refine r_iconst (v := J 1) dX4_isPlace_24 rfl ?_
          refine r_goto (tgt := 29) dX4_isPlace_25 (by decide) ?_
          exact r_ret dX4_isPlace_29 rfl nb1 h
theorem e_X4_isPlace {d : Nat} {M : Mem} {Q : Post} {x0 x1 : Int32} (h : ((x0 < (J (-6)) → Q (some (J 0)) M) ∧ (¬ x0 < (J (-6)) → (((J 13) < x0 → Q (some (J 0)) M) ∧ (¬ (J 13) < x0 → ((x1 < (J (-6)) → Q (some (J 0)) M) ∧ (¬ x1 < (J (-6)) → (((J 13) < x1 → Q (some (J 0)) M) ∧ (¬ (J 13) < x1 → Q (some (J 1)) M))))))))) : Mt (d + 1) mX4_isPlace [.int x0, .int x1] M Q := Mt.of (k := 0) (by decide +kernel) (okI (okI okN)) (Nat.le_of_ble_eq_true rfl) rfl (b_X4_isPlace_0 h)
set_option maxRecDepth 100000 in
set_option maxHeartbeats 4000000 in
theorem b_X4_isDirection_0 {d : Nat} {M : Mem} {Q : Post} {x0 : Int32} (h : ((x0 < 0 → Q (some (J 0)) M) ∧ (¬ x0 < 0 → (((J 3) < x0 → Q (some (J 0)) M) ∧ (¬ (J 3) < x0 → Q (some (J 1)) M))))) : R none (d + 1) mX4_isDirection 0 [.int x0] [] M Q := by
  refine r_iload_n dX4_isDirection_0 rfl rfl ?_
  refine r_if_lt (tgt := 13) dX4_isDirection_1 (by decide) (fun c_1 => ?_) (fun c_1 => ?_)
  · replace h := h.1 c_1
    refine r_iconst (v := J 0) dX4_isDirection_13 rfl ?_
    exact r_ret dX4_isDirection_14 rfl nb0 h
  · replace h := h.2 c_1
    refine r_iload_n dX4_isDirection_4 rfl rfl ?_
    refine r_iconst (v := J 3) dX4_isDirection_5 rfl ?_
    refine r_icmp_gt (tgt := 13) dX4_isDirection_6 (by decide) (fun c_6 => ?_) (fun c_6 => ?_)
    · replace h := h.1 c_6
      refine r_iconst (v := J 0) dX4_isDirection_13 rfl ?_
      exact r_ret dX4_isDirection_14 rfl nb0 h
    · replace h := h.2 c_6
      refine r_iconst (v := J 1) dX4_isDirection_9 rfl ?_
      refine r_goto (tgt := 14) dX4_isDirection_10 (by decide) ?_
      exact r_ret dX4_isDirection_14 rfl nb1 h
theorem e_X4_isDirection {d : Nat} {M : Mem} {Q : Post} {x0 : Int32} (h : ((x0 < 0 → Q (some (J 0)) M) ∧ (¬ x0 < 0 → (((J 3) < x0 → Q (some (J 0)) M) ∧ (¬ (J 3) < x0 → Q (some (J 1)) M))))) : Mt (d + 1) mX4_isDirection [.int x0] M Q := Mt.of (k := 0) (by decide +kernel) (okI okN) (Nat.le_of_ble_eq_true rfl) rfl (b_X4_isDirection_0 h)
set_option maxRecDepth 100000 in
set_option maxHeartbeats 4000000 in
theorem b_X4_stepX_0 {d : Nat} {M : Mem} {Q : Post} {x0 : Int32} (h : ((¬ x0 = 0 → ((¬ x0 = (J 2) → Q (some (J 0)) M) ∧ (x0 = (J 2) → Q (some (J (-1))) M))) ∧ (x0 = 0 → Q (some (J 1)) M))) : R none (d + 1) mX4_stepX 0 [.int x0] [] M Q := by
  refine r_iload_n dX4_stepX_0 rfl rfl ?_
  refine r_if_ne (tgt := 8) dX4_stepX_1 (by decide) (fun c_1 => ?_) (fun c_1 => ?_)
  · replace h := h.1 c_1
    refine r_iload_n dX4_stepX_8 rfl rfl ?_
    refine r_iconst (v := J 2) dX4_stepX_9 rfl ?_
    refine r_icmp_ne (tgt := 17) dX4_stepX_10 (by decide) (fun c_10 => ?_) (fun c_10 => ?_)
    · replace h := h.1 c_10
      refine r_iconst (v := J 0) dX4_stepX_17 rfl ?_
      exact r_ret dX4_stepX_18 rfl rfl h
    · replace h := h.2 c_10
      refine r_iconst (v := J (-1)) dX4_stepX_13 rfl ?_
      refine r_goto (tgt := 18) dX4_stepX_14 (by decide) ?_
      exact r_ret dX4_stepX_18 rfl rfl h
  · replace h := h.2 c_1
    refine r_iconst (v := J 1) dX4_stepX_4 rfl ?_
    refine r_goto (tgt := 18) dX4_stepX_5 (by decide) ?_
    exact r_ret dX4_stepX_18 rfl rfl h
theorem e_X4_stepX {d : Nat} {M : Mem} {Q : Post} {x0 : Int32} (h : ((¬ x0 = 0 → ((¬ x0 = (J 2) → Q (some (J 0)) M) ∧ (x0 = (J 2) → Q (some (J (-1))) M))) ∧ (x0 = 0 → Q (some (J 1)) M))) : Mt (d + 1) mX4_stepX [.int x0] M Q := Mt.of (k := 0) (by decide +kernel) (okI okN) (Nat.le_of_ble_eq_true rfl) rfl (b_X4_stepX_0 h)
set_option maxRecDepth 100000 in
set_option maxHeartbeats 4000000 in
theorem b_X4_stepY_0 {d : Nat} {M : Mem} {Q : Post} {x0 : Int32} (h : ((¬ x0 = (J 1) → ((¬ x0 = (J 3) → Q (some (J 0)) M) ∧ (x0 = (J 3) → Q (some (J (-1))) M))) ∧ (x0 = (J 1) → Q (some (J 1)) M))) : R none (d + 1) mX4_stepY 0 [.int x0] [] M Q := by
  refine r_iload_n dX4_stepY_0 rfl rfl ?_
  refine r_iconst (v := J 1) dX4_stepY_1 rfl ?_
  refine r_icmp_ne (tgt := 9) dX4_stepY_2 (by decide) (fun c_2 => ?_) (fun c_2 => ?_)
  · replace h := h.1 c_2
    refine r_iload_n dX4_stepY_9 rfl rfl ?_
    refine r_iconst (v := J 3) dX4_stepY_10 rfl ?_
    refine r_icmp_ne (tgt := 18) dX4_stepY_11 (by decide) (fun c_11 => ?_) (fun c_11 => ?_)
    · replace h := h.1 c_11
      refine r_iconst (v := J 0) dX4_stepY_18 rfl ?_
      exact r_ret dX4_stepY_19 rfl rfl h
    · replace h := h.2 c_11
      refine r_iconst (v := J (-1)) dX4_stepY_14 rfl ?_
      refine r_goto (tgt := 19) dX4_stepY_15 (by decide) ?_
      exact r_ret dX4_stepY_19 rfl rfl h
  · replace h := h.2 c_2
    refine r_iconst (v := J 1) dX4_stepY_5 rfl ?_
    refine r_goto (tgt := 19) dX4_stepY_6 (by decide) ?_
    exact r_ret dX4_stepY_19 rfl rfl h
theorem e_X4_stepY {d : Nat} {M : Mem} {Q : Post} {x0 : Int32} (h : ((¬ x0 = (J 1) → ((¬ x0 = (J 3) → Q (some (J 0)) M) ∧ (x0 = (J 3) → Q (some (J (-1))) M))) ∧ (x0 = (J 1) → Q (some (J 1)) M))) : Mt (d + 1) mX4_stepY [.int x0] M Q := Mt.of (k := 0) (by decide +kernel) (okI okN) (Nat.le_of_ble_eq_true rfl) rfl (b_X4_stepY_0 h)
set_option maxRecDepth 100000 in
set_option maxHeartbeats 4000000 in
theorem b_X4_isIn_0 {d : Nat} {M : Mem} {Q : Post} {x0 x1 : Int32} (h : ((¬ ((x0 >>> (x1 &&& 31)) &&& (J 1)) = (J 1) → Q (some (J 0)) M) ∧ (((x0 >>> (x1 &&& 31)) &&& (J 1)) = (J 1) → Q (some (J 1)) M))) : R none (d + 1) mX4_isIn 0 [.int x0, .int x1] [] M Q := by
  refine r_iload_n dX4_isIn_0 rfl rfl ?_
  refine r_iload_n dX4_isIn_1 rfl rfl ?_
  refine r_ishr dX4_isIn_2 ?_
  refine r_iconst (v := J 1) dX4_isIn_3 rfl ?_
  refine r_iand dX4_isIn_4 ?_
  refine r_iconst (v := J 1) dX4_isIn_5 rfl ?_
  refine r_icmp_ne (tgt := 13) dX4_isIn_6 (by decide) (fun c_6 => ?_) (fun c_6 => ?_)
  · replace h := h.1 c_6
    refine r_iconst (v := J 0) dX4_isIn_13 rfl ?_
    exact r_ret dX4_isIn_14 rfl nb0 h
  · replace h := h.2 c_6
    refine r_iconst (v := J 1) dX4_isIn_9 rfl ?_
    refine r_goto (tgt := 14) dX4_isIn_10 (by decide) ?_
    exact r_ret dX4_isIn_14 rfl nb1 h
theorem e_X4_isIn {d : Nat} {M : Mem} {Q : Post} {x0 x1 : Int32} (h : ((¬ ((x0 >>> (x1 &&& 31)) &&& (J 1)) = (J 1) → Q (some (J 0)) M) ∧ (((x0 >>> (x1 &&& 31)) &&& (J 1)) = (J 1) → Q (some (J 1)) M))) : Mt (d + 1) mX4_isIn [.int x0, .int x1] M Q := Mt.of (k := 0) (by decide +kernel) (okI (okI okN)) (Nat.le_of_ble_eq_true rfl) rfl (b_X4_isIn_0 h)
set_option maxRecDepth 100000 in
set_option maxHeartbeats 4000000 in
theorem b_X4_movedToCorner_0 {d : Nat} {M : Mem} {Q : Post} {x0 : Int32} (h : R none (d + 1) mX4_movedToCorner 4 [.null, .int x0, .int (J 1)] [] M Q) : R none (d + 1) mX4_movedToCorner 0 [.int x0, .null, .null] [] M Q := by
  refine r_iload_n dX4_movedToCorner_0 rfl rfl ?_
  refine r_istore_n dX4_movedToCorner_1 rfl (by decide) rfl ?_
  refine r_iconst (v := J 1) dX4_movedToCorner_2 rfl ?_
  refine r_istore_n dX4_movedToCorner_3 rfl (by decide) rfl ?_
  refine r_kill [true, false, false] rfl ?_
  exact h
set_option maxRecDepth 100000 in
set_option maxHeartbeats 4000000 in
theorem b_X4_movedToCorner_4 {d : Nat} {M : Mem} {Q : Post} {x1 x2 : Int32} (h : (((J 5) ≤ x2 → R none (d + 1) mX4_movedToCorner 28 [.null, .int x1, .int (J 1)] [] M Q) ∧ (¬ (J 5) ≤ x2 → ((¬ (x1 &&& (J 31)) = 0 → R none (d + 1) mX4_movedToCorner 28 [.null, .int x1, .int (J 1)] [] M Q) ∧ ((x1 &&& (J 31)) = 0 → R none (d + 1) mX4_movedToCorner 4 [.null, .int (x1 >>> ((J 5) &&& 31)), .int (x2 + J 1)] [] M Q))))) : R none (d + 1) mX4_movedToCorner 4 [.null, .int x1, .int x2] [] M Q := by
  refine r_iload_n dX4_movedToCorner_4 rfl rfl ?_
  refine r_iconst (v := J 5) dX4_movedToCorner_5 rfl ?_
  refine r_icmp_ge (tgt := 26) dX4_movedToCorner_6 (by decide) (fun c_6 => ?_) (fun c_6 => ?_)
  · replace h := h.1 c_6
    refine r_iconst (v := J 1) dX4_movedToCorner_26 rfl ?_
    refine r_istore_n dX4_movedToCorner_27 rfl (by decide) rfl ?_
    exact h
  · replace h := h.2 c_6
    refine r_iload_n dX4_movedToCorner_9 rfl rfl ?_
    refine r_bipush (v := J 31) dX4_movedToCorner_10 (by decide +kernel) ?_
    refine r_iand dX4_movedToCorner_12 ?_
    refine r_if_ne (tgt := 26) dX4_movedToCorner_13 (by decide) (fun c_13 => ?_) (fun c_13 => ?_)
    · replace h := h.1 c_13
      refine r_iconst (v := J 1) dX4_movedToCorner_26 rfl ?_
      refine r_istore_n dX4_movedToCorner_27 rfl (by decide) rfl ?_
      exact h
    · replace h := h.2 c_13
      refine r_iload_n dX4_movedToCorner_16 rfl rfl ?_
      refine r_iconst (v := J 5) dX4_movedToCorner_17 rfl ?_
      refine r_ishr dX4_movedToCorner_18 ?_
      refine r_istore_n dX4_movedToCorner_19 rfl (by decide) rfl ?_
      refine r_iinc (v := J 1) dX4_movedToCorner_20 rfl rfl (by decide) rfl ?_
      refine r_goto (tgt := 4) dX4_movedToCorner_23 (by decide) ?_
      exact h
set_option maxRecDepth 100000 in
set_option maxHeartbeats 4000000 in
theorem b_X4_movedToCorner_28 {d : Nat} {M : Mem} {Q : Post} {x1 x2 : Int32} (h : (((J 5) ≤ x2 → Q (some x1) M) ∧ (¬ (J 5) ≤ x2 → ((¬ (x1 &&& (J 1082401)) = 0 → Q (some x1) M) ∧ ((x1 &&& (J 1082401)) = 0 → R none (d + 1) mX4_movedToCorner 28 [.null, .int (x1 >>> ((J 1) &&& 31)), .int (x2 + J 1)] [] M Q))))) : R none (d + 1) mX4_movedToCorner 28 [.null, .int x1, .int x2] [] M Q := by
  refine r_iload_n dX4_movedToCorner_28 rfl rfl ?_
  refine r_iconst (v := J 5) dX4_movedToCorner_29 rfl ?_
  refine r_icmp_ge (tgt := 50) dX4_movedToCorner_30 (by decide) (fun c_30 => ?_) (fun c_30 => ?_)
  · replace h := h.1 c_30
    refine r_iload_n dX4_movedToCorner_50 rfl rfl ?_
    exact r_ret dX4_movedToCorner_51 rfl rfl h
  · replace h := h.2 c_30
    refine r_iload_n dX4_movedToCorner_33 rfl rfl ?_
    refine r_ldc dX4_movedToCorner_34 kcX4_195 ?_
    refine r_iand dX4_movedToCorner_36 ?_
    refine r_if_ne (tgt := 50) dX4_movedToCorner_37 (by decide) (fun c_37 => ?_) (fun c_37 => ?_)
    · replace h := h.1 c_37
      refine r_iload_n dX4_movedToCorner_50 rfl rfl ?_
      exact r_ret dX4_movedToCorner_51 rfl rfl h
    · replace h := h.2 c_37
      refine r_iload_n dX4_movedToCorner_40 rfl rfl ?_
      refine r_iconst (v := J 1) dX4_movedToCorner_41 rfl ?_
      refine r_ishr dX4_movedToCorner_42 ?_
      refine r_istore_n dX4_movedToCorner_43 rfl (by decide) rfl ?_
      refine r_iinc (v := J 1) dX4_movedToCorner_44 rfl rfl (by decide) rfl ?_
      refine r_goto (tgt := 28) dX4_movedToCorner_47 (by decide) ?_
      exact h
theorem e_X4_movedToCorner {d : Nat} {M : Mem} {Q : Post} {x0 : Int32} (h : R none (d + 1) mX4_movedToCorner 4 [.null, .int x0, .int (J 1)] [] M Q) : Mt (d + 1) mX4_movedToCorner [.int x0] M Q := Mt.of (k := 2) (by decide +kernel) (okI okN) (Nat.le_of_ble_eq_true rfl) rfl (b_X4_movedToCorner_0 h)
set_option maxRecDepth 100000 in
set_option maxHeartbeats 4000000 in
theorem b_X4_rowOf_0 {d : Nat} {M : Mem} {Q : Post} {x0 x1 : Int32} (h : ((x1 < 0 → Q (some (J 0)) M) ∧ (¬ x1 < 0 → ((x1 < (J 5) → Q (some ((x0 >>> (((J 5) * x1) &&& 31)) &&& (J 31))) M) ∧ (¬ x1 < (J 5) → Q (some (J 0)) M))))) : R none (d + 1) mX4_rowOf 0 [.int x0, .int x1] [] M Q := by
  refine r_iload_n dX4_rowOf_0 rfl rfl ?_
  refine r_if_lt (tgt := 9) dX4_rowOf_1 (by decide) (fun c_1 => ?_) (fun c_1 => ?_)
  · replace h := h.1 c_1
    refine r_iconst (v := J 0) dX4_rowOf_9 rfl ?_
    refine r_goto (tgt := 21) dX4_rowOf_10 (by decide) ?_
    exact r_ret dX4_rowOf_21 rfl rfl h
  · replace h := h.2 c_1
    refine r_iload_n dX4_rowOf_4 rfl rfl ?_
    refine r_iconst (v := J 5) dX4_rowOf_5 rfl ?_
    refine r_icmp_lt (tgt := 13) dX4_rowOf_6 (by decide) (fun c_6 => ?_) (fun c_6 => ?_)
    · replace h := h.1 c_6
      refine r_iload_n dX4_rowOf_13 rfl rfl ?_
      refine r_iconst (v := J 5) dX4_rowOf_14 rfl ?_
      refine r_iload_n dX4_rowOf_15 rfl rfl ?_
      refine r_imul dX4_rowOf_16 ?_
      refine r_ishr dX4_rowOf_17 ?_
      refine r_bipush (v := J 31) dX4_rowOf_18 (by decide +kernel) ?_
      refine r_iand dX4_rowOf_20 ?_
      exact r_ret dX4_rowOf_21 rfl rfl h
    · replace h := h.2 c_6
      refine r_iconst (v := J 0) dX4_rowOf_9 rfl ?_
      refine r_goto (tgt := 21) dX4_rowOf_10 (by decide) ?_
      exact r_ret dX4_rowOf_21 rfl rfl h
theorem e_X4_rowOf {d : Nat} {M : Mem} {Q : Post} {x0 x1 : Int32} (h : ((x1 < 0 → Q (some (J 0)) M) ∧ (¬ x1 < 0 → ((x1 < (J 5) → Q (some ((x0 >>> (((J 5) * x1) &&& 31)) &&& (J 31))) M) ∧ (¬ x1 < (J 5) → Q (some (J 0)) M))))) : Mt (d + 1) mX4_rowOf [.int x0, .int x1] M Q := Mt.of (k := 0) (by decide +kernel) (okI (okI okN)) (Nat.le_of_ble_eq_true rfl) rfl (b_X4_rowOf_0 h)
set_option maxRecDepth 100000 in
set_option maxHeartbeats 4000000 in
theorem b_X4_columnsOf_0 {d : Nat} {M : Mem} {Q : Post} {x0 : Int32} (h : R none (d + 1) mX4_columnsOf 4 [.int x0, .int (J 0), .int (J 0)] [] M Q) : R none (d + 1) mX4_columnsOf 0 [.int x0, .null, .null] [] M Q := by
  refine r_iconst (v := J 0) dX4_columnsOf_0 rfl ?_
  refine r_istore_n dX4_columnsOf_1 rfl (by decide) rfl ?_
  refine r_iconst (v := J 0) dX4_columnsOf_2 rfl ?_
  refine r_istore_n dX4_columnsOf_3 rfl (by decide) rfl ?_
  exact h
set_option maxRecDepth 100000 in
set_option maxHeartbeats 4000000 in
theorem b_X4_columnsOf_4 {d : Nat} {M : Mem} {Q : Post} {x0 x1 x2 : Int32} (h : (((J 5) ≤ x2 → Q (some x1) M) ∧ (¬ (J 5) ≤ x2 → ((((x0 >>> (x2 &&& 31)) &&& (J 1082401)) = 0 → R none (d + 1) mX4_columnsOf 4 [.int x0, .int x1, .int (x2 + J 1)] [] M Q) ∧ (¬ ((x0 >>> (x2 &&& 31)) &&& (J 1082401)) = 0 → R none (d + 1) mX4_columnsOf 4 [.int x0, .int (x2 + (J 1)), .int (x2 + J 1)] [] M Q))))) : R none (d + 1) mX4_columnsOf 4 [.int x0, .int x1, .int x2] [] M Q := by
  refine r_iload_n dX4_columnsOf_4 rfl rfl ?_
  refine r_iconst (v := J 5) dX4_columnsOf_5 rfl ?_
  refine r_icmp_ge (tgt := 28) dX4_columnsOf_6 (by decide) (fun c_6 => ?_) (fun c_6 => ?_)
  · replace h := h.1 c_6
    refine r_iload_n dX4_columnsOf_28 rfl rfl ?_
    exact r_ret dX4_columnsOf_29 rfl rfl h
  · replace h := h.2 c_6
    refine r_iload_n dX4_columnsOf_9 rfl rfl ?_
    refine r_iload_n dX4_columnsOf_10 rfl rfl ?_
    refine r_ishr dX4_columnsOf_11 ?_
    refine r_ldc dX4_columnsOf_12 kcX4_195 ?_
    refine r_iand dX4_columnsOf_14 ?_
    refine r_if_eq (tgt := 22) dX4_columnsOf_15 (by decide) (fun c_15 => ?_) (fun c_15 => ?_)
    · replace h := h.1 c_15
      refine r_iinc (v := J 1) dX4_columnsOf_22 rfl rfl (by decide) rfl ?_
      refine r_goto (tgt := 4) dX4_columnsOf_25 (by decide) ?_
      exact h
    · replace h := h.2 c_15
      refine r_iload_n dX4_columnsOf_18 rfl rfl ?_
      refine r_iconst (v := J 1) dX4_columnsOf_19 rfl ?_
      refine r_iadd dX4_columnsOf_20 ?_
      refine r_istore_n dX4_columnsOf_21 rfl (by decide) rfl ?_
      refine r_iinc (v := J 1) dX4_columnsOf_22 rfl rfl (by decide) rfl ?_
      refine r_goto (tgt := 4) dX4_columnsOf_25 (by decide) ?_
      exact h
theorem e_X4_columnsOf {d : Nat} {M : Mem} {Q : Post} {x0 : Int32} (h : R none (d + 1) mX4_columnsOf 4 [.int x0, .int (J 0), .int (J 0)] [] M Q) : Mt (d + 1) mX4_columnsOf [.int x0] M Q := Mt.of (k := 2) (by decide +kernel) (okI okN) (Nat.le_of_ble_eq_true rfl) rfl (b_X4_columnsOf_0 h)
set_option maxRecDepth 100000 in
set_option maxHeartbeats 4000000 in
theorem b_X4_rowsOf_0 {d : Nat} {M : Mem} {Q : Post} {x0 : Int32} (h : R none (d + 1) mX4_rowsOf 4 [.int x0, .int (J 0), .int (J 0)] [] M Q) : R none (d + 1) mX4_rowsOf 0 [.int x0, .null, .null] [] M Q := by
  refine r_iconst (v := J 0) dX4_rowsOf_0 rfl ?_
  refine r_istore_n dX4_rowsOf_1 rfl (by decide) rfl ?_
  refine r_iconst (v := J 0) dX4_rowsOf_2 rfl ?_
  refine r_istore_n dX4_rowsOf_3 rfl (by decide) rfl ?_
  exact h
set_option maxRecDepth 100000 in
set_option maxHeartbeats 4000000 in
theorem b_X4_rowsOf_4 {d : Nat} {M : Mem} {Q : Post} {x0 x1 x2 : Int32} (h : (((J 5) ≤ x2 → Q (some x1) M) ∧ (¬ (J 5) ≤ x2 → (Mt d mX4_rowOf [.int x0, .int x2] M (ri fun v1 M1 => ((v1 = 0 → R none (d + 1) mX4_rowsOf 4 [.int x0, .int x1, .int (x2 + J 1)] [] M1 Q) ∧ (¬ v1 = 0 → R none (d + 1) mX4_rowsOf 4 [.int x0, .int (x2 + (J 1)), .int (x2 + J 1)] [] M1 Q))))))) : R none (d + 1) mX4_rowsOf 4 [.int x0, .int x1, .int x2] [] M Q := by
  refine r_iload_n dX4_rowsOf_4 rfl rfl ?_
  refine r_iconst (v := J 5) dX4_rowsOf_5 rfl ?_
  refine r_icmp_ge (tgt := 27) dX4_rowsOf_6 (by decide) (fun c_6 => ?_) (fun c_6 => ?_)
  · replace h := h.1 c_6
    refine r_iload_n dX4_rowsOf_27 rfl rfl ?_
    exact r_ret dX4_rowsOf_28 rfl rfl h
  · replace h := h.2 c_6
    refine r_iload_n dX4_rowsOf_9 rfl rfl ?_
    refine r_iload_n dX4_rowsOf_10 rfl rfl ?_
    refine r_callS (as := [.int x0, .int x2]) (st := []) dX4_rowsOf_11 csX4_196 rfl rfl (Nat.le_of_ble_eq_true rfl) h (fun r M1 h => ?_)
    obtain ⟨v1, rfl, h⟩ := h
    refine r_if_eq (tgt := 21) dX4_rowsOf_14 (by decide) (fun c_14 => ?_) (fun c_14 => ?_)
    · replace h := h.1 c_14
      refine r_iinc (v := J 1) dX4_rowsOf_21 rfl rfl (by decide) rfl ?_
      refine r_goto (tgt := 4) dX4_rowsOf_24 (by decide) ?_
      exact h
    · replace h := h.2 c_14
      refine r_iload_n dX4_rowsOf_17 rfl rfl ?_
      refine r_iconst (v := J 1) dX4_rowsOf_18 rfl ?_
      refine r_iadd dX4_rowsOf_19 ?_
      refine r_istore_n dX4_rowsOf_20 rfl (by decide) rfl ?_
      refine r_iinc (v := J 1) dX4_rowsOf_21 rfl rfl (by decide) rfl ?_
      refine r_goto (tgt := 4) dX4_rowsOf_24 (by decide) ?_
      exact h
theorem e_X4_rowsOf {d : Nat} {M : Mem} {Q : Post} {x0 : Int32} (h : R none (d + 1) mX4_rowsOf 4 [.int x0, .int (J 0), .int (J 0)] [] M Q) : Mt (d + 1) mX4_rowsOf [.int x0] M Q := Mt.of (k := 2) (by decide +kernel) (okI okN) (Nat.le_of_ble_eq_true rfl) rfl (b_X4_rowsOf_0 h)
set_option maxRecDepth 100000 in
set_option maxHeartbeats 4000000 in
theorem b_X4_leastPush_0 {d : Nat} {M : Mem} {Q : Post} {x0 x1 x2 : Int32} (h : R none (d + 1) mX4_leastPush 10 [.int x0, .int x1, .int x2, .int (J 21), .int (J 0), .int (J (-10)), .null, .null] [] M Q) : R none (d + 1) mX4_leastPush 0 [.int x0, .int x1, .int x2, .null, .null, .null, .null, .null] [] M Q := by
  refine r_bipush (v := J 21) dX4_leastPush_0 (by decide +kernel) ?_
  refine r_istore_n dX4_leastPush_2 rfl (by decide) rfl ?_
  refine r_iconst (v := J 0) dX4_leastPush_3 rfl ?_
  refine r_istore dX4_leastPush_4 (by decide) rfl ?_
  refine r_bipush (v := J (-10)) dX4_leastPush_6 (by decide +kernel) ?_
  refine r_istore dX4_leastPush_8 (by decide) rfl ?_
  exact h
set_option maxRecDepth 100000 in
set_option maxHeartbeats 4000000 in
theorem b_X4_leastPush_10 {d : Nat} {M : Mem} {Q : Post} {x0 x1 x2 x3 x4 x5 : Int32} (h : (((J 10) < x5 → Q (some x4) M) ∧ (¬ (J 10) < x5 → R none (d + 1) mX4_leastPush 21 [.int x0, .int x1, .int x2, .int x3, .int x4, .int x5, .int (J (-10)), .null] [] M Q))) : R none (d + 1) mX4_leastPush 10 [.int x0, .int x1, .int x2, .int x3, .int x4, .int x5, .null, .null] [] M Q := by
  refine r_iload dX4_leastPush_10 rfl ?_
  refine r_bipush (v := J 10) dX4_leastPush_12 (by decide +kernel) ?_
  refine r_icmp_gt (tgt := 87) dX4_leastPush_14 (by decide) (fun c_14 => ?_) (fun c_14 => ?_)
  · replace h := h.1 c_14
    refine r_iload dX4_leastPush_87 rfl ?_
    exact r_ret dX4_leastPush_89 rfl rfl h
  · replace h := h.2 c_14
    refine r_bipush (v := J (-10)) dX4_leastPush_17 (by decide +kernel) ?_
    refine r_istore dX4_leastPush_19 (by decide) rfl ?_
    exact h
set_option maxRecDepth 100000 in
set_option maxHeartbeats 4000000 in
theorem b_X4_leastPush_21 {d : Nat} {M : Mem} {Q : Post} {x0 x1 x2 x3 x4 x5 x6 : Int32} (h : (((J 10) < x6 → R none (d + 1) mX4_leastPush 10 [.int x0, .int x1, .int x2, .int x3, .int x4, .int (x5 + J 1), .null, .null] [] M Q) ∧ (¬ (J 10) < x6 → ((x3 ≤ ((jabs x5) + (jabs x6)) → R none (d + 1) mX4_leastPush 21 [.int x0, .int x1, .int x2, .int x3, .int x4, .int x5, .int (x6 + J 1), .null] [] M Q) ∧ (¬ x3 ≤ ((jabs x5) + (jabs x6)) → (Mt d mX4_meet [.int x0, .int x1, .int x5, .int x6] M (ri fun v1 M1 => ((¬ v1 = 0 → R none (d + 1) mX4_leastPush 21 [.int x0, .int x1, .int x2, .int x3, .int x4, .int x5, .int (x6 + J 1), .null] [] M1 Q) ∧ (v1 = 0 → ((¬ x2 = 0 → R none (d + 1) mX4_leastPush 21 [.int x0, .int x1, .int x2, .int ((jabs x5) + (jabs x6)), .int x6, .int x5, .int (x6 + J 1), .null] [] M1 Q) ∧ (x2 = 0 → R none (d + 1) mX4_leastPush 21 [.int x0, .int x1, .int x2, .int ((jabs x5) + (jabs x6)), .int x5, .int x5, .int (x6 + J 1), .null] [] M1 Q))))))))))) : R none (d + 1) mX4_leastPush 21 [.int x0, .int x1, .int x2, .int x3, .int x4, .int x5, .int x6, .null] [] M Q := by
  refine r_iload dX4_leastPush_21 rfl ?_
  refine r_bipush (v := J 10) dX4_leastPush_23 (by decide +kernel) ?_
  refine r_icmp_gt (tgt := 81) dX4_leastPush_25 (by decide) (fun c_25 => ?_) (fun c_25 => ?_)
  · replace h := h.1 c_25
    refine r_iinc (v := J 1) dX4_leastPush_81 rfl rfl (by decide) rfl ?_
    refine r_goto (tgt := 10) dX4_leastPush_84 (by decide) ?_
    refine r_kill [false, false, false, false, false, false, true, false] rfl ?_
    exact h
  · replace h := h.2 c_25
    refine r_iload dX4_leastPush_28 rfl ?_
    refine r_abs dX4_leastPush_30 mxX4_199 (Nat.le_of_ble_eq_true rfl) ?_
    refine r_iload dX4_leastPush_33 rfl ?_
    refine r_abs dX4_leastPush_35 mxX4_199 (Nat.le_of_ble_eq_true rfl) ?_
    refine r_iadd dX4_leastPush_38 ?_
    refine r_istore dX4_leastPush_39 (by decide) rfl ?_
    refine r_iload dX4_leastPush_41 rfl ?_
    refine r_iload_n dX4_leastPush_43 rfl rfl ?_
    refine r_icmp_ge (tgt := 75) dX4_leastPush_44 (by decide) (fun c_44 => ?_) (fun c_44 => ?_)
    · replace h := h.1 c_44
      refine r_iinc (v := J 1) dX4_leastPush_75 rfl rfl (by decide) rfl ?_
      refine r_goto (tgt := 21) dX4_leastPush_78 (by decide) ?_
      refine r_kill [false, false, false, false, false, false, false, true] rfl ?_
      exact h
    · replace h := h.2 c_44
      refine r_iload_n dX4_leastPush_47 rfl rfl ?_
      refine r_iload_n dX4_leastPush_48 rfl rfl ?_
      refine r_iload dX4_leastPush_49 rfl ?_
      refine r_iload dX4_leastPush_51 rfl ?_
      refine r_callS (as := [.int x0, .int x1, .int x5, .int x6]) (st := []) dX4_leastPush_53 csX4_204 rfl rfl (Nat.le_of_ble_eq_true rfl) h (fun r M1 h => ?_)
      obtain ⟨v1, rfl, h⟩ := h
      refine r_if_ne (tgt := 75) dX4_leastPush_56 (by decide) (fun c_56 => ?_) (fun c_56 => ?_)
      · replace h := h.1 c_56
        refine r_iinc (v := J 1) dX4_leastPush_75 rfl rfl (by decide) rfl ?_
        refine r_goto (tgt := 21) dX4_leastPush_78 (by decide) ?_
        refine r_kill [false, false, false, false, false, false, false, true] rfl ?_
        exact h
      · replace h := h.2 c_56
        refine r_iload dX4_leastPush_59 rfl ?_
        refine r_istore_n dX4_leastPush_61 rfl (by decide) rfl ?_
        refine r_iload_n dX4_leastPush_62 rfl rfl ?_
        refine r_if_ne (tgt := 71) dX4_leastPush_63 (by decide) (fun c_63 => ?_) (fun c_63 => ?_)
        · replace h := h.1 c_63
          refine r_iload dX4_leastPush_71 rfl ?_
          refine r_istore dX4_leastPush_73 (by decide) rfl ?_
          refine r_iinc (v := J 1) dX4_leastPush_75 rfl rfl (by decide) rfl ?_
          refine r_goto (tgt := 21) dX4_leastPush_78 (by decide) ?_
          refine r_kill [false, false, false, false, false, false, false, true] rfl ?_
          exact h
        · replace h := h.2 c_63
          refine r_iload dX4_leastPush_66 rfl ?_
          refine r_goto (tgt := 73) dX4_leastPush_68 (by decide) ?_
          refine r_istore dX4_leastPush_73 (by decide) rfl ?_
          refine r_iinc (v := J 1) dX4_leastPush_75 rfl rfl (by decide) rfl ?_
          refine r_goto (tgt := 21) dX4_leastPush_78 (by decide) ?_
          refine r_kill [false, false, false, false, false, false, false, true] rfl ?_
          exact h
theorem e_X4_leastPush {d : Nat} {M : Mem} {Q : Post} {x0 x1 x2 : Int32} (h : R none (d + 1) mX4_leastPush 10 [.int x0, .int x1, .int x2, .int (J 21), .int (J 0), .int (J (-10)), .null, .null] [] M Q) : Mt (d + 1) mX4_leastPush [.int x0, .int x1, .int x2] M Q := Mt.of (k := 5) (by decide +kernel) (okI (okI (okI okN))) (Nat.le_of_ble_eq_true rfl) rfl (b_X4_leastPush_0 h)
set_option maxRecDepth 100000 in
set_option maxHeartbeats 4000000 in
theorem b_X4_meet_0 {d : Nat} {M : Mem} {Q : Post} {x0 x1 x2 x3 : Int32} (h : R none (d + 1) mX4_meet 3 [.int x0, .int x1, .int x2, .int x3, .int (J 0), .null, .null] [] M Q) : R none (d + 1) mX4_meet 0 [.int x0, .int x1, .int x2, .int x3, .null, .null, .null] [] M Q := by
  refine r_iconst (v := J 0) dX4_meet_0 rfl ?_
  refine r_istore dX4_meet_1 (by decide) rfl ?_
  exact h
set_option maxRecDepth 100000 in
set_option maxHeartbeats 4000000 in
theorem b_X4_meet_3 {d : Nat} {M : Mem} {Q : Post} {x0 x1 x2 x3 x4 : Int32} (h : (((J 5) ≤ x4 → Q (some (J 0)) M) ∧ (¬ (J 5) ≤ x4 → (Mt d mX4_rowOf [.int x0, .int x4] M (ri fun v1 M1 => ((0 ≤ x2 → (Mt d mX4_rowOf [.int x1, .int (x4 + x3)] M1 (ri fun v2 M2 => ((((v1 <<< (x2 &&& 31)) &&& v2) = 0 → R none (d + 1) mX4_meet 3 [.int x0, .int x1, .int x2, .int x3, .int (x4 + J 1), .null, .null] [] M2 Q) ∧ (¬ ((v1 <<< (x2 &&& 31)) &&& v2) = 0 → Q (some (J 1)) M2))))) ∧ (¬ 0 ≤ x2 → (Mt d mX4_rowOf [.int x1, .int (x4 + x3)] M1 (ri fun v3 M3 => ((((v1 >>> ((-x2) &&& 31)) &&& v3) = 0 → R none (d + 1) mX4_meet 3 [.int x0, .int x1, .int x2, .int x3, .int (x4 + J 1), .null, .null] [] M3 Q) ∧ (¬ ((v1 >>> ((-x2) &&& 31)) &&& v3) = 0 → Q (some (J 1)) M3))))))))))) : R none (d + 1) mX4_meet 3 [.int x0, .int x1, .int x2, .int x3, .int x4, .null, .null] [] M Q := by
  refine r_iload dX4_meet_3 rfl ?_
  refine r_iconst (v := J 5) dX4_meet_5 rfl ?_
  refine r_icmp_ge (tgt := 57) dX4_meet_6 (by decide) (fun c_6 => ?_) (fun c_6 => ?_)
  · replace h := h.1 c_6
    refine r_iconst (v := J 0) dX4_meet_57 rfl ?_
    exact r_ret dX4_meet_58 rfl nb0 h
  · replace h := h.2 c_6
    refine r_iload_n dX4_meet_9 rfl rfl ?_
    refine r_iload dX4_meet_10 rfl ?_
    refine r_callS (as := [.int x0, .int x4]) (st := []) dX4_meet_12 csX4_196 rfl rfl (Nat.le_of_ble_eq_true rfl) h (fun r M1 h => ?_)
    obtain ⟨v1, rfl, h⟩ := h
    refine r_istore dX4_meet_15 (by decide) rfl ?_
    refine r_iload_n dX4_meet_17 rfl rfl ?_
    refine r_if_ge (tgt := 29) dX4_meet_18 (by decide) (fun c_18 => ?_) (fun c_18 => ?_)
    · replace h := h.1 c_18
      refine r_iload dX4_meet_29 rfl ?_
      refine r_iload_n dX4_meet_31 rfl rfl ?_
      refine r_ishl dX4_meet_32 ?_
      refine r_istore dX4_meet_33 (by decide) rfl ?_
      refine r_iload dX4_meet_35 rfl ?_
      refine r_iload_n dX4_meet_37 rfl rfl ?_
      refine r_iload dX4_meet_38 rfl ?_
      refine r_iload_n dX4_meet_40 rfl rfl ?_
      refine r_iadd dX4_meet_41 ?_
      refine r_callS (as := [.int x1, .int (x4 + x3)]) (st := [.int (v1 <<< (x2 &&& 31))]) dX4_meet_42 csX4_196 rfl rfl (Nat.le_of_ble_eq_true rfl) h (fun r M2 h => ?_)
      obtain ⟨v2, rfl, h⟩ := h
      refine r_iand dX4_meet_45 ?_
      refine r_if_eq (tgt := 51) dX4_meet_46 (by decide) (fun c_46 => ?_) (fun c_46 => ?_)
      · replace h := h.1 c_46
        refine r_iinc (v := J 1) dX4_meet_51 rfl rfl (by decide) rfl ?_
        refine r_goto (tgt := 3) dX4_meet_54 (by decide) ?_
        refine r_kill [false, false, false, false, false, true, true] rfl ?_
        exact h
      · replace h := h.2 c_46
        refine r_iconst (v := J 1) dX4_meet_49 rfl ?_
        exact r_ret dX4_meet_50 rfl nb1 h
    · replace h := h.2 c_18
      refine r_iload dX4_meet_21 rfl ?_
      refine r_iload_n dX4_meet_23 rfl rfl ?_
      refine r_ineg dX4_meet_24 ?_
      refine r_ishr dX4_meet_25 ?_
      refine r_goto (tgt := 33) dX4_meet_26 (by decide) ?_
      refine r_istore dX4_meet_33 (by decide) rfl ?_
      refine r_iload dX4_meet_35 rfl ?_
      refine r_iload_n dX4_meet_37 rfl rfl ?_
      refine r_iload dX4_meet_38 rfl ?_
      refine r_iload_n dX4_meet_40 rfl rfl ?_
      refine r_iadd dX4_meet_41 ?_
      refine r_callS (as := [.int x1, .int (x4 + x3)]) (st := [.int (v1 >>> ((-x2) &&& 31))]) dX4_meet_42 csX4_196 rfl rfl (Nat.le_of_ble_eq_true rfl) h (fun r M3 h => ?_)
      obtain ⟨v3, rfl, h⟩ := h
      refine r_iand dX4_meet_45 ?_
      refine r_if_eq (tgt := 51) dX4_meet_46 (by decide) (fun c_46 => ?_) (fun c_46 => ?_)
      · replace h := h.1 c_46
        refine r_iinc (v := J 1) dX4_meet_51 rfl rfl (by decide) rfl ?_
        refine r_goto (tgt := 3) dX4_meet_54 (by decide) ?_
        refine r_kill [false, false, false, false, false, true, true] rfl ?_
        exact h
      · replace h := h.2 c_46
        refine r_iconst (v := J 1) dX4_meet_49 rfl ?_
        exact r_ret dX4_meet_50 rfl nb1 h
theorem e_X4_meet {d : Nat} {M : Mem} {Q : Post} {x0 x1 x2 x3 : Int32} (h : R none (d + 1) mX4_meet 3 [.int x0, .int x1, .int x2, .int x3, .int (J 0), .null, .null] [] M Q) : Mt (d + 1) mX4_meet [.int x0, .int x1, .int x2, .int x3] M Q := Mt.of (k := 3) (by decide +kernel) (okI (okI (okI (okI okN)))) (Nat.le_of_ble_eq_true rfl) rfl (b_X4_meet_0 h)
set_option maxRecDepth 100000 in
set_option maxHeartbeats 4000000 in
theorem b_X4_pieceInOrder_0 {d : Nat} {M : Mem} {Q : Post} {x0 x1 : Int32} (h : Q (some ((x0 >>> (((J 3) * x1) &&& 31)) &&& (J 7))) M) : R none (d + 1) mX4_pieceInOrder 0 [.int x0, .int x1] [] M Q := by
  refine r_iload_n dX4_pieceInOrder_0 rfl rfl ?_
  refine r_iconst (v := J 3) dX4_pieceInOrder_1 rfl ?_
  refine r_iload_n dX4_pieceInOrder_2 rfl rfl ?_
  refine r_imul dX4_pieceInOrder_3 ?_
  refine r_ishr dX4_pieceInOrder_4 ?_
  refine r_bipush (v := J 7) dX4_pieceInOrder_5 (by decide +kernel) ?_
  refine r_iand dX4_pieceInOrder_7 ?_
  exact r_ret dX4_pieceInOrder_8 rfl rfl h
theorem e_X4_pieceInOrder {d : Nat} {M : Mem} {Q : Post} {x0 x1 : Int32} (h : Q (some ((x0 >>> (((J 3) * x1) &&& 31)) &&& (J 7))) M) : Mt (d + 1) mX4_pieceInOrder [.int x0, .int x1] M Q := Mt.of (k := 0) (by decide +kernel) (okI (okI okN)) (Nat.le_of_ble_eq_true rfl) rfl (b_X4_pieceInOrder_0 h)
set_option maxRecDepth 100000 in
set_option maxHeartbeats 4000000 in
theorem b_X4_setOf_0 {d : Nat} {M : Mem} {Q : Post} {x0 x1 : Int32} (h : R none (d + 1) mX4_setOf 4 [.int x0, .int x1, .int (J 0), .int (J 0)] [] M Q) : R none (d + 1) mX4_setOf 0 [.int x0, .int x1, .null, .null] [] M Q := by
  refine r_iconst (v := J 0) dX4_setOf_0 rfl ?_
  refine r_istore_n dX4_setOf_1 rfl (by decide) rfl ?_
  refine r_iconst (v := J 0) dX4_setOf_2 rfl ?_
  refine r_istore_n dX4_setOf_3 rfl (by decide) rfl ?_
  exact h
set_option maxRecDepth 100000 in
set_option maxHeartbeats 4000000 in
theorem b_X4_setOf_4 {d : Nat} {M : Mem} {Q : Post} {x0 x1 x2 x3 : Int32} (h : ((x0 ≤ x3 → Q (some x2) M) ∧ (¬ x0 ≤ x3 → (Mt d mX4_pieceInOrder [.int x1, .int x3] M (ri fun v1 M1 => R none (d + 1) mX4_setOf 4 [.int x0, .int x1, .int (x2 ||| ((J 1) <<< (v1 &&& 31))), .int (x3 + J 1)] [] M1 Q))))) : R none (d + 1) mX4_setOf 4 [.int x0, .int x1, .int x2, .int x3] [] M Q := by
  refine r_iload_n dX4_setOf_4 rfl rfl ?_
  refine r_iload_n dX4_setOf_5 rfl rfl ?_
  refine r_icmp_ge (tgt := 25) dX4_setOf_6 (by decide) (fun c_6 => ?_) (fun c_6 => ?_)
  · replace h := h.1 c_6
    refine r_iload_n dX4_setOf_25 rfl rfl ?_
    exact r_ret dX4_setOf_26 rfl rfl h
  · replace h := h.2 c_6
    refine r_iload_n dX4_setOf_9 rfl rfl ?_
    refine r_iconst (v := J 1) dX4_setOf_10 rfl ?_
    refine r_iload_n dX4_setOf_11 rfl rfl ?_
    refine r_iload_n dX4_setOf_12 rfl rfl ?_
    refine r_callS (as := [.int x1, .int x3]) (st := [.int (J 1), .int x2]) dX4_setOf_13 csX4_208 rfl rfl (Nat.le_of_ble_eq_true rfl) h (fun r M1 h => ?_)
    obtain ⟨v1, rfl, h⟩ := h
    refine r_ishl dX4_setOf_16 ?_
    refine r_ior dX4_setOf_17 ?_
    refine r_istore_n dX4_setOf_18 rfl (by decide) rfl ?_
    refine r_iinc (v := J 1) dX4_setOf_19 rfl rfl (by decide) rfl ?_
    refine r_goto (tgt := 4) dX4_setOf_22 (by decide) ?_
    exact h
theorem e_X4_setOf {d : Nat} {M : Mem} {Q : Post} {x0 x1 : Int32} (h : R none (d + 1) mX4_setOf 4 [.int x0, .int x1, .int (J 0), .int (J 0)] [] M Q) : Mt (d + 1) mX4_setOf [.int x0, .int x1] M Q := Mt.of (k := 2) (by decide +kernel) (okI (okI okN)) (Nat.le_of_ble_eq_true rfl) rfl (b_X4_setOf_0 h)
set_option maxRecDepth 100000 in
set_option maxHeartbeats 4000000 in
theorem b_J6_bitCount_0f7a4_0 {d : Nat} {M : Mem} {Q : Post} {x0 : Int32} (h : Q (some ((((((((x0 - ((ushr x0 (J 1)) &&& (J 1431655765))) &&& (J 858993459)) + ((ushr (x0 - ((ushr x0 (J 1)) &&& (J 1431655765))) (J 2)) &&& (J 858993459))) + (ushr (((x0 - ((ushr x0 (J 1)) &&& (J 1431655765))) &&& (J 858993459)) + ((ushr (x0 - ((ushr x0 (J 1)) &&& (J 1431655765))) (J 2)) &&& (J 858993459))) (J 4))) &&& (J 252645135)) + (ushr (((((x0 - ((ushr x0 (J 1)) &&& (J 1431655765))) &&& (J 858993459)) + ((ushr (x0 - ((ushr x0 (J 1)) &&& (J 1431655765))) (J 2)) &&& (J 858993459))) + (ushr (((x0 - ((ushr x0 (J 1)) &&& (J 1431655765))) &&& (J 858993459)) + ((ushr (x0 - ((ushr x0 (J 1)) &&& (J 1431655765))) (J 2)) &&& (J 858993459))) (J 4))) &&& (J 252645135)) (J 8))) + (ushr ((((((x0 - ((ushr x0 (J 1)) &&& (J 1431655765))) &&& (J 858993459)) + ((ushr (x0 - ((ushr x0 (J 1)) &&& (J 1431655765))) (J 2)) &&& (J 858993459))) + (ushr (((x0 - ((ushr x0 (J 1)) &&& (J 1431655765))) &&& (J 858993459)) + ((ushr (x0 - ((ushr x0 (J 1)) &&& (J 1431655765))) (J 2)) &&& (J 858993459))) (J 4))) &&& (J 252645135)) + (ushr (((((x0 - ((ushr x0 (J 1)) &&& (J 1431655765))) &&& (J 858993459)) + ((ushr (x0 - ((ushr x0 (J 1)) &&& (J 1431655765))) (J 2)) &&& (J 858993459))) + (ushr (((x0 - ((ushr x0 (J 1)) &&& (J 1431655765))) &&& (J 858993459)) + ((ushr (x0 - ((ushr x0 (J 1)) &&& (J 1431655765))) (J 2)) &&& (J 858993459))) (J 4))) &&& (J 252645135)) (J 8))) (J 16))) &&& (J 63))) M) : R none (d + 1) mJ6_bitCount_0f7a4 0 [.int x0] [] M Q := by
  refine r_iload_n dJ6_bitCount_0f7a4_0 rfl rfl ?_
  refine r_iload_n dJ6_bitCount_0f7a4_1 rfl rfl ?_
  refine r_iconst (v := J 1) dJ6_bitCount_0f7a4_2 rfl ?_
  refine r_iushr dJ6_bitCount_0f7a4_3 ?_
  refine r_ldcw dJ6_bitCount_0f7a4_4 kcJ6_265 ?_
  refine r_iand dJ6_bitCount_0f7a4_7 ?_
  refine r_isub dJ6_bitCount_0f7a4_8 ?_
  refine r_istore_n dJ6_bitCount_0f7a4_9 rfl (by decide) rfl ?_
  refine r_iload_n dJ6_bitCount_0f7a4_10 rfl rfl ?_
  refine r_ldcw dJ6_bitCount_0f7a4_11 kcJ6_266 ?_
  refine r_iand dJ6_bitCount_0f7a4_14 ?_
  refine r_iload_n dJ6_bitCount_0f7a4_15 rfl rfl ?_
  refine r_iconst (v := J 2) dJ6_bitCount_0f7a4_16 rfl ?_
  refine r_iushr dJ6_bitCount_0f7a4_17 ?_
  refine r_ldcw dJ6_bitCount_0f7a4_18 kcJ6_266 ?_
  refine r_iand dJ6_bitCount_0f7a4_21 ?_
  refine r_iadd dJ6_bitCount_0f7a4_22 ?_
  refine r_istore_n dJ6_bitCount_0f7a4_23 rfl (by decide) rfl ?_
  refine r_iload_n dJ6_bitCount_0f7a4_24 rfl rfl ?_
  refine r_iload_n dJ6_bitCount_0f7a4_25 rfl rfl ?_
  refine r_iconst (v := J 4) dJ6_bitCount_0f7a4_26 rfl ?_
  refine r_iushr dJ6_bitCount_0f7a4_27 ?_
  refine r_iadd dJ6_bitCount_0f7a4_28 ?_
  refine r_ldcw dJ6_bitCount_0f7a4_29 kcJ6_267 ?_
  refine r_iand dJ6_bitCount_0f7a4_32 ?_
  refine r_istore_n dJ6_bitCount_0f7a4_33 rfl (by decide) rfl ?_
  refine r_iload_n dJ6_bitCount_0f7a4_34 rfl rfl ?_
  refine r_iload_n dJ6_bitCount_0f7a4_35 rfl rfl ?_
  refine r_bipush (v := J 8) dJ6_bitCount_0f7a4_36 (by decide +kernel) ?_
  refine r_iushr dJ6_bitCount_0f7a4_38 ?_
  refine r_iadd dJ6_bitCount_0f7a4_39 ?_
  refine r_istore_n dJ6_bitCount_0f7a4_40 rfl (by decide) rfl ?_
  refine r_iload_n dJ6_bitCount_0f7a4_41 rfl rfl ?_
  refine r_iload_n dJ6_bitCount_0f7a4_42 rfl rfl ?_
  refine r_bipush (v := J 16) dJ6_bitCount_0f7a4_43 (by decide +kernel) ?_
  refine r_iushr dJ6_bitCount_0f7a4_45 ?_
  refine r_iadd dJ6_bitCount_0f7a4_46 ?_
  refine r_istore_n dJ6_bitCount_0f7a4_47 rfl (by decide) rfl ?_
  refine r_iload_n dJ6_bitCount_0f7a4_48 rfl rfl ?_
  refine r_bipush (v := J 63) dJ6_bitCount_0f7a4_49 (by decide +kernel) ?_
  refine r_iand dJ6_bitCount_0f7a4_51 ?_
  exact r_ret dJ6_bitCount_0f7a4_52 rfl rfl h
theorem e_J6_bitCount_0f7a4 {d : Nat} {M : Mem} {Q : Post} {x0 : Int32} (h : Q (some ((((((((x0 - ((ushr x0 (J 1)) &&& (J 1431655765))) &&& (J 858993459)) + ((ushr (x0 - ((ushr x0 (J 1)) &&& (J 1431655765))) (J 2)) &&& (J 858993459))) + (ushr (((x0 - ((ushr x0 (J 1)) &&& (J 1431655765))) &&& (J 858993459)) + ((ushr (x0 - ((ushr x0 (J 1)) &&& (J 1431655765))) (J 2)) &&& (J 858993459))) (J 4))) &&& (J 252645135)) + (ushr (((((x0 - ((ushr x0 (J 1)) &&& (J 1431655765))) &&& (J 858993459)) + ((ushr (x0 - ((ushr x0 (J 1)) &&& (J 1431655765))) (J 2)) &&& (J 858993459))) + (ushr (((x0 - ((ushr x0 (J 1)) &&& (J 1431655765))) &&& (J 858993459)) + ((ushr (x0 - ((ushr x0 (J 1)) &&& (J 1431655765))) (J 2)) &&& (J 858993459))) (J 4))) &&& (J 252645135)) (J 8))) + (ushr ((((((x0 - ((ushr x0 (J 1)) &&& (J 1431655765))) &&& (J 858993459)) + ((ushr (x0 - ((ushr x0 (J 1)) &&& (J 1431655765))) (J 2)) &&& (J 858993459))) + (ushr (((x0 - ((ushr x0 (J 1)) &&& (J 1431655765))) &&& (J 858993459)) + ((ushr (x0 - ((ushr x0 (J 1)) &&& (J 1431655765))) (J 2)) &&& (J 858993459))) (J 4))) &&& (J 252645135)) + (ushr (((((x0 - ((ushr x0 (J 1)) &&& (J 1431655765))) &&& (J 858993459)) + ((ushr (x0 - ((ushr x0 (J 1)) &&& (J 1431655765))) (J 2)) &&& (J 858993459))) + (ushr (((x0 - ((ushr x0 (J 1)) &&& (J 1431655765))) &&& (J 858993459)) + ((ushr (x0 - ((ushr x0 (J 1)) &&& (J 1431655765))) (J 2)) &&& (J 858993459))) (J 4))) &&& (J 252645135)) (J 8))) (J 16))) &&& (J 63))) M) : Mt (d + 1) mJ6_bitCount_0f7a4 [.int x0] M Q := Mt.of (k := 0) (by decide +kernel) (okI okN) (Nat.le_of_ble_eq_true rfl) rfl (b_J6_bitCount_0f7a4_0 h)
