/-! THE CLAIM OUT OF ONE WALK OF THE LAW'S BODY. Your part is whole_start (and what it stands on); all else here is the same for every law, but numbers. -/
def R_law : String := "GapPiecesLaw"
def lw_P (b : Addr) (xs : List Int32) (args : Array Value) (s : State) : Prop := args = #[.ref b] ∧ s.IntsAt b xs ∧ xs.length ≤ 2560 ∧ (Jvm.Cond.and given_1 narrow_1).before args s = true
def lw_Q (_ : Array Value) (s : State) (o : Outcome) (t : State) : Prop := o = .returned (some (.int 1)) ∧ Framed s o t [] 600000 7302250
def lw_Z (below : List Frame) (a : Array Value) (s : State) : State → Prop := fun t => ∃ o, t.status = .running ∧ Ended t below o ∧ lw_Q a s o t
/-- the law's own end, with 1 on the stack, nothing written that was there before, its room as the claim has it -/
theorem lw_ret {p : Program} {l : Launch} {e : Env} {s : State} {m : MethodId} {below : List Frame} {meth : Method} {c : Code} {b : Nat} (hx : p.tables.exec = Jvm.exec) (hb : c.code = code) (hr : meth.sig.returnType = ret) (hlocks : meth.locks = false) {pc : Nat} {H : Heap} {ls : Array Slot} (hdg : decode code pc = .ok (.ireturn, 1)) : W p l e room_1 s m #[Value.ref b] below meth c H [] 600000 7302250 (lw_Z below #[Value.ref b] s) (F0 m pc ls [.int 1]) := by
  intro T hT X
  obtain ⟨fs, hret, hrun, hended, hW, hframe⟩ := X.leave (v := some (.int 1)) (hlocks := hlocks) (fun h => by rw [hr] at h; cases h)
  have hmeth' : T.vm.method? m = some meth := X.method'
  refine ⟨T.setFrames fs, ?_, .returned (some (.int 1)), hrun, hended, rfl, ⟨_, rfl⟩, hW, hframe⟩
  jvm_step X.here [X.here.top, hx, hb, hdg, hmeth', hr, ret, narrow_b1]
  (try refine ⟨rfl, ?_⟩); (try refine ⟨rfl, ?_⟩)
  first | (intro acts; rw [hret _ acts rfl rfl rfl]) | rw [hret _ _ rfl rfl rfl]
  exact Steps.refl _
/-- what holds at the law's entry: the machine, the code, the tables' words (any of lw_tbl by 'hts w (by decide +kernel)'), the script of L ints xs at the cell b, what the Statement gives of the start (any of its parts by flat_of_before) -/
def lw_At (p : Program) (s : State) (m : MethodId) (meth : Method) (c : Code) (b L : Nat) (xs : Nat → Int32) : Prop :=
  p.tables.exec = Jvm.exec ∧ c.code = code ∧ meth.sig.returnType = ret ∧ c.maxLocals = 4 ∧ s.vm.findClass R_law = some m.cls ∧ (∀ w ∈ lw_tbl, w.before #[Value.ref b] s = true) ∧ va_X b L xs s s.heap ∧ b < s.heap.size ∧ meth.locks = false ∧ (Jvm.Cond.and given_1 narrow_1).before #[Value.ref b] s = true ∧ (Jvm.Cond.code x code maxLocals ret).before #[Value.ref b] s = true

set_option maxHeartbeats 8000000 in
set_option maxRecDepth 100000 in
theorem whole_start {p : Program} {e : Env} {s : State} {m : MethodId} {below : List Frame} {meth : Method} {c : Code} (l : Launch) (hflags : l.flags = flags0) {b L : Nat} {xs : Nat → Int32} (hL : L ≤ 2560) (C0 : lw_At p s m meth c b L xs) : W p l e room_1 s m #[Value.ref b] below meth c s.heap [] 0 0 (lw_Z below #[Value.ref b] s) (entryFrame m ([Value.ref b] : List Value).toArray 4) := by
  obtain ⟨hx, hb, hr, hml, hown, hts0, hX, hbl, hlocks, hgv, hcw⟩ := id C0
  have hts : ∀ w ∈ WS mL_law, w.before #[Value.ref b] s = true := by
    intro w hw
    rcases List.mem_cons.mp hw with rfl | hw
    · exact hcw
    · exact hts0 w (List.mem_filter.mp hw).1
  have hown : s.vm.findClass RL = some m.cls := hown
  have hN : nstOK s := List.forall_mem_cons.mpr ⟨va_Nw.of rfl (hts0 _ (List.mem_of_getElem? (i := 48) (by decide +kernel))), List.forall_mem_cons.mpr ⟨va_Nw.of rfl (hts0 _ (List.mem_of_getElem? (i := 204) (by decide +kernel))), List.forall_mem_cons.mpr ⟨va_Nw.of rfl (hts0 _ (List.mem_of_getElem? (i := 211) (by decide +kernel))), List.forall_mem_cons.mpr ⟨va_Nw.of rfl (hts0 _ (List.mem_of_getElem? (i := 292) (by decide +kernel))), List.forall_mem_cons.mpr ⟨va_Nw.of rfl (hts0 _ (List.mem_of_getElem? (i := 311) (by decide +kernel))), List.forall_mem_cons.mpr ⟨va_Nw.of rfl (hts0 _ (List.mem_of_getElem? (i := 356) (by decide +kernel))), List.forall_mem_cons.mpr ⟨va_Nw.of rfl (hts0 _ (List.mem_of_getElem? (i := 359) (by decide +kernel))), List.forall_mem_cons.mpr ⟨va_Nw.of rfl (hts0 _ (List.mem_of_getElem? (i := 421) (by decide +kernel))), List.forall_mem_cons.mpr ⟨va_Nw.of rfl (hts0 _ (List.mem_of_getElem? (i := 426) (by decide +kernel))), List.forall_mem_cons.mpr ⟨va_Nw.of rfl (hts0 _ (List.mem_of_getElem? (i := 439) (by decide +kernel))), List.forall_mem_cons.mpr ⟨va_Nw.of rfl (hts0 _ (List.mem_of_getElem? (i := 464) (by decide +kernel))), List.forall_mem_cons.mpr ⟨va_Nw.of rfl (hts0 _ (List.mem_of_getElem? (i := 506) (by decide +kernel))), List.forall_mem_cons.mpr ⟨va_Nw.of rfl (hts0 _ (List.mem_of_getElem? (i := 508) (by decide +kernel))), List.forall_mem_cons.mpr ⟨va_Nw.of rfl (hts0 _ (List.mem_of_getElem? (i := 517) (by decide +kernel))), List.forall_mem_cons.mpr ⟨va_Nw.of rfl (hts0 _ (List.mem_of_getElem? (i := 526) (by decide +kernel))), List.forall_mem_cons.mpr ⟨va_Nw.of rfl (hts0 _ (List.mem_of_getElem? (i := 531) (by decide +kernel))), fun q h => absurd h List.not_mem_nil⟩⟩⟩⟩⟩⟩⟩⟩⟩⟩⟩⟩⟩⟩⟩⟩
  have hA : ∀ q : Nat, s.heap.size ≤ q → (fun q : Nat => s.heap.size ≤ q) q := fun _ h => h
  have hbA : ¬ (fun q : Nat => s.heap.size ≤ q) b := Nat.not_le.mpr hbl
  obtain ⟨c0, iS0, hKn0⟩ := u_known (C := RX0) (T := TX0) (N := 6) (n := 6) hts (fun w hw => WS_in (inw0 w hw)) (hts _ (WS_in (lw_in (i := 135) (by decide +kernel) rfl)))
  obtain ⟨c1, iS1, hKn1⟩ := u_known (C := RX1) (T := TX1) (N := 5) (n := 5) hts (fun w hw => WS_in (inw1 w hw)) (hts _ (WS_in (lw_in (i := 113) (by decide +kernel) rfl)))
  obtain ⟨c2, iS2, hKn2⟩ := u_known (C := RX2) (T := TX2) (N := 9) (n := 9) hts (fun w hw => WS_in (inw2 w hw)) (hts _ (WS_in (lw_in (i := 79) (by decide +kernel) rfl)))
  obtain ⟨c3, iS3, hKn3⟩ := u_known (C := RX3) (T := TX3) (N := 8) (n := 8) hts (fun w hw => WS_in (inw3 w hw)) (hts _ (WS_in (lw_in (i := 47) (by decide +kernel) rfl)))
  obtain ⟨c4, iS4, hKn4⟩ := u_known (C := RX4) (T := TX4) (N := 4) (n := 4) hts (fun w hw => WS_in (inw4 w hw)) (hts _ (WS_in (lw_in (i := 39) (by decide +kernel) rfl)))
  obtain ⟨c5, iS5, hKn5⟩ := u_known (C := RX5) (T := TX5) (N := 17) (n := 17) hts (fun w hw => WS_in (inw5 w hw)) (hts _ (WS_in (lw_in (i := 572) (by decide +kernel) rfl)))
  obtain ⟨D, hKc⟩ : ∃ D : va_G, ∀ (k : Nat) (q : vw_C), clsT[k]? = some q → u_Kn s q.1 q.2.1 q.2.2 (D.1 k) (D.2 k) := by
    refine ⟨(fun k => [c0, c1, c2, c3, c4, c5].getD k c0, fun k => [iS0, iS1, iS2, iS3, iS4, iS5].getD k iS0), ?_⟩
    intro k q hq
    match k, hq with
    | 0, hq => cases hq; exact hKn0
    | 1, hq => cases hq; exact hKn1
    | 2, hq => cases hq; exact hKn2
    | 3, hq => cases hq; exact hKn3
    | 4, hq => cases hq; exact hKn4
    | 5, hq => cases hq; exact hKn5
    | k + 6, hq => simp at hq
  have hS : va_S (fun q : Nat => s.heap.size ≤ q) s.heap s.heap [] := va_S.rf
  have hK : va_K D clsT [] s := ⟨hKc, fun k q h => by simp at h⟩
  have hP : va_P D clsT [] s.heap := fun k q h => by simp at h
  have hD : va_D (fun q : Nat => s.heap.size ≤ q) [] := ⟨fun i j p q h => by simp at h, fun k q h => by simp at h⟩
  have hl := lv_entry ([.ref b]) (n := 4) (Nat.le_of_ble_eq_true rfl)
  rw [lg_entry_eq]
  generalize (lg_sl ([.ref b]) ++ List.replicate (4 - (lg_sl ([.ref b])).length) Slot.unset).toArray = ls at hl ⊢
  have hl : lv_has ls 4 [(0, .ref b)] := hl
  refine va_new (ci := 4) (fs := [.null, .null, .null, .null]) (C := RX4) (T := TX4) (N := 4) hx hb hts (fun w hw => WS_in (inw4 w hw)) tyX4 tyX4_ok hown (hts _ (WS_in (lw_in (i := 38) (by decide +kernel) rfl))) (hts _ (WS_in (lw_in (i := 39) (by decide +kernel) rfl))) (hts _ (WS_in (lw_in (i := 30) (by decide +kernel) rfl))) hK hP hD hS hA rfl (fun j hj => by rcases (show j = 0 ∨ j = 1 ∨ j = 2 ∨ j = 3 by omega) with rfl | rfl | rfl | rfl <;> rfl) (Nat.le_of_ble_eq_true rfl) (Nat.le_of_ble_eq_true rfl) dL_law_0 (fun g0 H hP hD hS => ?_)
  have hP : va_P D clsT [(g0, .inr (4, [.null, .null, .null, .null]))] H := hP
  have hD : va_D (fun q : Nat => s.heap.size ≤ q) [(g0, .inr (4, [.null, .null, .null, .null]))] := hD
  refine W.widen (k := 1) (n := 4) (Nat.le_of_ble_eq_true rfl) (Nat.le_of_ble_eq_true rfl) ?_
  refine lv_dup hx hb dL_law_3 rfl ?_
  have hPc := hP.sub (ws' := w0_X4_init g0) [0] rfl
  have hDc := hD.sub (ws' := w0_X4_init g0) [0] (by decide) rfl
  have hKc := hK.sub (tys' := []) [] rfl
  have hFc := va_free (wc := w0_X4_init g0) hD hS hA [0] rfl
  refine va_callv (va_runI (As := []) (rest := [.ref g0]) ⟨hx, hb, hml, hown, hts⟩ (n_X4_init l D g0 H.size) ⟨callB_of 0 hts (WS_good (y := mL_law) (y' := mX4_init) (lw_in (i := 42) (by decide +kernel) rfl)) rfl rfl rfl (hts _ (WS_in (lw_in (i := 30) (by decide +kernel) rfl))) (hts _ (WS_in (lw_in (i := 40) (by decide +kernel) rfl))) ⟨by decide +kernel, by decide +kernel, by decide +kernel⟩ ⟨Nat.le_of_ble_eq_true rfl, Nat.le_of_ble_eq_true rfl⟩, rfl, (hts _ (WS_in (lw_in (i := 41) (by decide +kernel) rfl)))⟩ ⟨fun a U g mk q => by obtain ⟨q0, q1, qP, qK, qD, qN⟩ := q; exact ⟨q0, q1, qP, va_K.moved (u := U) (U := U.calling g mk a) (Vm.Alike.refl U.vm) qK, qD, va_Nw.same rfl rfl qN⟩, fun U hU hW => ⟨rfl, by rw [hU], by rw [hU]; exact hPc, va_K.moved hW.alike hKc, hDc.weaken (fun _ _ _ _ => trivial), va_Nw.warmM hW (hN _ (List.mem_cons_self))⟩⟩ rfl rfl hl.1 rfl (lv_room (Nat.le_of_ble_eq_true rfl)) dL_law_4 ⟨Nat.le_of_ble_eq_true rfl, Nat.le_of_ble_eq_true rfl⟩) hS (fun q _ h => hFc q h) hFc (fun u t H1 locs ht hvm hw hB hz1 hk1 hS => ?_)
  obtain ⟨hP1, hK1, hD1⟩ := hB
  rw [ht] at hP1
  have hK1 := va_K.moved hvm.symm hK1
  obtain ⟨hP, hD⟩ := va_join (wr := []) (w1 := wI_X4_init g0 u) hP hD [0] [] rfl rfl (by decide) (by decide) hk1 hFc hP1 hD1
  have hK := hK.app hK1
  generalize H1 = H at hP hS ⊢
  have hP : va_P D clsT [(g0, .inr (4, [.ref (u.1 1), .ref (u.1 2), .ref (u.1 3), .ref (u.1 4)])), ((u.1 1), .inr (3, [.ref (u.1 5), .ref (u.1 6), .ref (u.1 7), .ref (u.1 8), .int (J 1), .int (J 1), .int (J 0), .int (J 0)])), ((u.1 5), .inl ((u.2 5), 10, .inl (fun _ => J 0))), ((u.1 6), .inl ((u.2 6), 8, .inl (fun _ => J 0))), ((u.1 7), .inl ((u.2 7), 8, .inl (fun _ => J 0))), ((u.1 8), .inl ((u.2 8), 8, .inl (fun _ => J 0))), ((u.1 2), .inr (2, [.ref (u.1 1), .ref (u.1 9), .ref (u.1 10), .ref (u.1 11), .ref (u.1 12), .ref (u.1 13), .int (J 0), .ref (u.1 14), .int (J 0)])), ((u.1 9), .inl ((u.2 9), 24, .inl (fun _ => J 0))), ((u.1 10), .inl ((u.2 10), 20, .inl (fun _ => J 0))), ((u.1 11), .inl ((u.2 11), 20, .inl (fun _ => J 0))), ((u.1 12), .inl ((u.2 12), 400, .inl (fun _ => J 0))), ((u.1 13), .inl ((u.2 13), 400, .inl (fun _ => J 0))), ((u.1 14), .inl ((u.2 14), 400, .inl (fun _ => J 0))), ((u.1 3), .inr (1, [.ref (u.1 1), .ref (u.1 2), .ref (u.1 15), .int (J 0), .int (J 0)])), ((u.1 15), .inl ((u.2 15), 8, .inl (fun _ => J 0))), ((u.1 4), .inr (0, [.ref (u.1 1), .ref (u.1 16), .ref (u.1 17), .int (J 1), .int (J 0), .int (J 0)])), ((u.1 16), .inl ((u.2 16), 25, .inl (fun _ => J 0))), ((u.1 17), .inl ((u.2 17), 5, .inl (fun _ => J 0)))] H := hP
  have hD : va_D (fun q : Nat => s.heap.size ≤ q) [(g0, .inr (4, [.ref (u.1 1), .ref (u.1 2), .ref (u.1 3), .ref (u.1 4)])), ((u.1 1), .inr (3, [.ref (u.1 5), .ref (u.1 6), .ref (u.1 7), .ref (u.1 8), .int (J 1), .int (J 1), .int (J 0), .int (J 0)])), ((u.1 5), .inl ((u.2 5), 10, .inl (fun _ => J 0))), ((u.1 6), .inl ((u.2 6), 8, .inl (fun _ => J 0))), ((u.1 7), .inl ((u.2 7), 8, .inl (fun _ => J 0))), ((u.1 8), .inl ((u.2 8), 8, .inl (fun _ => J 0))), ((u.1 2), .inr (2, [.ref (u.1 1), .ref (u.1 9), .ref (u.1 10), .ref (u.1 11), .ref (u.1 12), .ref (u.1 13), .int (J 0), .ref (u.1 14), .int (J 0)])), ((u.1 9), .inl ((u.2 9), 24, .inl (fun _ => J 0))), ((u.1 10), .inl ((u.2 10), 20, .inl (fun _ => J 0))), ((u.1 11), .inl ((u.2 11), 20, .inl (fun _ => J 0))), ((u.1 12), .inl ((u.2 12), 400, .inl (fun _ => J 0))), ((u.1 13), .inl ((u.2 13), 400, .inl (fun _ => J 0))), ((u.1 14), .inl ((u.2 14), 400, .inl (fun _ => J 0))), ((u.1 3), .inr (1, [.ref (u.1 1), .ref (u.1 2), .ref (u.1 15), .int (J 0), .int (J 0)])), ((u.1 15), .inl ((u.2 15), 8, .inl (fun _ => J 0))), ((u.1 4), .inr (0, [.ref (u.1 1), .ref (u.1 16), .ref (u.1 17), .int (J 1), .int (J 0), .int (J 0)])), ((u.1 16), .inl ((u.2 16), 25, .inl (fun _ => J 0))), ((u.1 17), .inl ((u.2 17), 5, .inl (fun _ => J 0)))] := hD
  have hK : va_K D clsT [((u.2 5), .int), ((u.2 6), .int), ((u.2 7), .int), ((u.2 8), .int), ((u.2 9), .int), ((u.2 10), .int), ((u.2 11), .int), ((u.2 12), .int), ((u.2 13), .int), ((u.2 14), .int), ((u.2 15), .int), ((u.2 16), .int), ((u.2 17), .int)] s := hK
  refine W.widen (k := 18) (n := 1368) (Nat.le_of_ble_eq_true rfl) (Nat.le_of_ble_eq_true rfl) ?_
  refine lv_astore_n (lv' := [(1, .ref g0), (0, .ref b)]) hx hb dL_law_7 rfl hl (by decide) rfl (fun ls hl => ?_)
  refine va_new (ci := 5) (fs := [.int (J 0), .int (J 0), .null, .int (J 0), .null, .null, .null, .null, .null, .null, .int (J 0), .null, .null, .null, .null, .null, .null]) (C := RX5) (T := TX5) (N := 17) hx hb hts (fun w hw => WS_in (inw5 w hw)) tyX5 tyX5_ok hown (hts _ (WS_in (lw_in (i := 571) (by decide +kernel) rfl))) (hts _ (WS_in (lw_in (i := 572) (by decide +kernel) rfl))) (hts _ (WS_in (lw_in (i := 35) (by decide +kernel) rfl))) hK hP hD hS hA rfl (fun j hj => by rcases (show j = 0 ∨ j = 1 ∨ j = 2 ∨ j = 3 ∨ j = 4 ∨ j = 5 ∨ j = 6 ∨ j = 7 ∨ j = 8 ∨ j = 9 ∨ j = 10 ∨ j = 11 ∨ j = 12 ∨ j = 13 ∨ j = 14 ∨ j = 15 ∨ j = 16 by omega) with rfl | rfl | rfl | rfl | rfl | rfl | rfl | rfl | rfl | rfl | rfl | rfl | rfl | rfl | rfl | rfl | rfl <;> rfl) (Nat.le_of_ble_eq_true rfl) (Nat.le_of_ble_eq_true rfl) dL_law_8 (fun m0 H hP hD hS => ?_)
  have hP : va_P D clsT [(g0, .inr (4, [.ref (u.1 1), .ref (u.1 2), .ref (u.1 3), .ref (u.1 4)])), ((u.1 1), .inr (3, [.ref (u.1 5), .ref (u.1 6), .ref (u.1 7), .ref (u.1 8), .int (J 1), .int (J 1), .int (J 0), .int (J 0)])), ((u.1 5), .inl ((u.2 5), 10, .inl (fun _ => J 0))), ((u.1 6), .inl ((u.2 6), 8, .inl (fun _ => J 0))), ((u.1 7), .inl ((u.2 7), 8, .inl (fun _ => J 0))), ((u.1 8), .inl ((u.2 8), 8, .inl (fun _ => J 0))), ((u.1 2), .inr (2, [.ref (u.1 1), .ref (u.1 9), .ref (u.1 10), .ref (u.1 11), .ref (u.1 12), .ref (u.1 13), .int (J 0), .ref (u.1 14), .int (J 0)])), ((u.1 9), .inl ((u.2 9), 24, .inl (fun _ => J 0))), ((u.1 10), .inl ((u.2 10), 20, .inl (fun _ => J 0))), ((u.1 11), .inl ((u.2 11), 20, .inl (fun _ => J 0))), ((u.1 12), .inl ((u.2 12), 400, .inl (fun _ => J 0))), ((u.1 13), .inl ((u.2 13), 400, .inl (fun _ => J 0))), ((u.1 14), .inl ((u.2 14), 400, .inl (fun _ => J 0))), ((u.1 3), .inr (1, [.ref (u.1 1), .ref (u.1 2), .ref (u.1 15), .int (J 0), .int (J 0)])), ((u.1 15), .inl ((u.2 15), 8, .inl (fun _ => J 0))), ((u.1 4), .inr (0, [.ref (u.1 1), .ref (u.1 16), .ref (u.1 17), .int (J 1), .int (J 0), .int (J 0)])), ((u.1 16), .inl ((u.2 16), 25, .inl (fun _ => J 0))), ((u.1 17), .inl ((u.2 17), 5, .inl (fun _ => J 0))), (m0, .inr (5, [.int (J 0), .int (J 0), .null, .int (J 0), .null, .null, .null, .null, .null, .null, .int (J 0), .null, .null, .null, .null, .null, .null]))] H := hP
  have hD : va_D (fun q : Nat => s.heap.size ≤ q) [(g0, .inr (4, [.ref (u.1 1), .ref (u.1 2), .ref (u.1 3), .ref (u.1 4)])), ((u.1 1), .inr (3, [.ref (u.1 5), .ref (u.1 6), .ref (u.1 7), .ref (u.1 8), .int (J 1), .int (J 1), .int (J 0), .int (J 0)])), ((u.1 5), .inl ((u.2 5), 10, .inl (fun _ => J 0))), ((u.1 6), .inl ((u.2 6), 8, .inl (fun _ => J 0))), ((u.1 7), .inl ((u.2 7), 8, .inl (fun _ => J 0))), ((u.1 8), .inl ((u.2 8), 8, .inl (fun _ => J 0))), ((u.1 2), .inr (2, [.ref (u.1 1), .ref (u.1 9), .ref (u.1 10), .ref (u.1 11), .ref (u.1 12), .ref (u.1 13), .int (J 0), .ref (u.1 14), .int (J 0)])), ((u.1 9), .inl ((u.2 9), 24, .inl (fun _ => J 0))), ((u.1 10), .inl ((u.2 10), 20, .inl (fun _ => J 0))), ((u.1 11), .inl ((u.2 11), 20, .inl (fun _ => J 0))), ((u.1 12), .inl ((u.2 12), 400, .inl (fun _ => J 0))), ((u.1 13), .inl ((u.2 13), 400, .inl (fun _ => J 0))), ((u.1 14), .inl ((u.2 14), 400, .inl (fun _ => J 0))), ((u.1 3), .inr (1, [.ref (u.1 1), .ref (u.1 2), .ref (u.1 15), .int (J 0), .int (J 0)])), ((u.1 15), .inl ((u.2 15), 8, .inl (fun _ => J 0))), ((u.1 4), .inr (0, [.ref (u.1 1), .ref (u.1 16), .ref (u.1 17), .int (J 1), .int (J 0), .int (J 0)])), ((u.1 16), .inl ((u.2 16), 25, .inl (fun _ => J 0))), ((u.1 17), .inl ((u.2 17), 5, .inl (fun _ => J 0))), (m0, .inr (5, [.int (J 0), .int (J 0), .null, .int (J 0), .null, .null, .null, .null, .null, .null, .int (J 0), .null, .null, .null, .null, .null, .null]))] := hD
  refine W.widen (k := 19) (n := 1385) (Nat.le_of_ble_eq_true rfl) (Nat.le_of_ble_eq_true rfl) ?_
  refine lv_dup hx hb dL_law_11 rfl ?_
  have hPc := hP.sub (ws' := w0_X5_init m0) [18] rfl
  have hDc := hD.sub (ws' := w0_X5_init m0) [18] (by decide) rfl
  have hKc := hK.sub (tys' := []) [] rfl
  have hFc := va_free (wc := w0_X5_init m0) hD hS hA [18] rfl
  refine va_callv (va_runI (As := []) (rest := [.ref m0]) ⟨hx, hb, hml, hown, hts⟩ (n_X5_init l D m0 H.size) ⟨callB_of 0 hts (WS_good (y := mL_law) (y' := mX5_init) (lw_in (i := 575) (by decide +kernel) rfl)) rfl rfl rfl (hts _ (WS_in (lw_in (i := 35) (by decide +kernel) rfl))) (hts _ (WS_in (lw_in (i := 573) (by decide +kernel) rfl))) ⟨by decide +kernel, by decide +kernel, by decide +kernel⟩ ⟨Nat.le_of_ble_eq_true rfl, Nat.le_of_ble_eq_true rfl⟩, rfl, (hts _ (WS_in (lw_in (i := 574) (by decide +kernel) rfl)))⟩ ⟨fun a U g mk q => by obtain ⟨q0, q1, qP, qK, qD⟩ := q; exact ⟨q0, q1, qP, va_K.moved (u := U) (U := U.calling g mk a) (Vm.Alike.refl U.vm) qK, qD⟩, fun U hU hW => ⟨rfl, by rw [hU], by rw [hU]; exact hPc, va_K.moved hW.alike hKc, hDc.weaken (fun _ _ _ _ => trivial)⟩⟩ rfl rfl hl.1 rfl (lv_room (Nat.le_of_ble_eq_true rfl)) dL_law_12 ⟨Nat.le_of_ble_eq_true rfl, Nat.le_of_ble_eq_true rfl⟩) hS (fun q _ h => hFc q h) hFc (fun w t H1 locs ht hvm hw hB hz1 hk1 hS => ?_)
  obtain ⟨hP1, hK1, hD1⟩ := hB
  rw [ht] at hP1
  have hK1 := va_K.moved hvm.symm hK1
  obtain ⟨hP, hD⟩ := va_join (wr := [(g0, .inr (4, [.ref (u.1 1), .ref (u.1 2), .ref (u.1 3), .ref (u.1 4)])), ((u.1 1), .inr (3, [.ref (u.1 5), .ref (u.1 6), .ref (u.1 7), .ref (u.1 8), .int (J 1), .int (J 1), .int (J 0), .int (J 0)])), ((u.1 5), .inl ((u.2 5), 10, .inl (fun _ => J 0))), ((u.1 6), .inl ((u.2 6), 8, .inl (fun _ => J 0))), ((u.1 7), .inl ((u.2 7), 8, .inl (fun _ => J 0))), ((u.1 8), .inl ((u.2 8), 8, .inl (fun _ => J 0))), ((u.1 2), .inr (2, [.ref (u.1 1), .ref (u.1 9), .ref (u.1 10), .ref (u.1 11), .ref (u.1 12), .ref (u.1 13), .int (J 0), .ref (u.1 14), .int (J 0)])), ((u.1 9), .inl ((u.2 9), 24, .inl (fun _ => J 0))), ((u.1 10), .inl ((u.2 10), 20, .inl (fun _ => J 0))), ((u.1 11), .inl ((u.2 11), 20, .inl (fun _ => J 0))), ((u.1 12), .inl ((u.2 12), 400, .inl (fun _ => J 0))), ((u.1 13), .inl ((u.2 13), 400, .inl (fun _ => J 0))), ((u.1 14), .inl ((u.2 14), 400, .inl (fun _ => J 0))), ((u.1 3), .inr (1, [.ref (u.1 1), .ref (u.1 2), .ref (u.1 15), .int (J 0), .int (J 0)])), ((u.1 15), .inl ((u.2 15), 8, .inl (fun _ => J 0))), ((u.1 4), .inr (0, [.ref (u.1 1), .ref (u.1 16), .ref (u.1 17), .int (J 1), .int (J 0), .int (J 0)])), ((u.1 16), .inl ((u.2 16), 25, .inl (fun _ => J 0))), ((u.1 17), .inl ((u.2 17), 5, .inl (fun _ => J 0)))]) (w1 := wI_X5_init m0 w) hP hD [18] [0, 1, 2, 3, 4, 5, 6, 7, 8, 9, 10, 11, 12, 13, 14, 15, 16, 17] rfl rfl (by decide) (by decide) hk1 hFc hP1 hD1
  have hK := hK.app hK1
  generalize H1 = H at hP hS ⊢
  have hP : va_P D clsT [(g0, .inr (4, [.ref (u.1 1), .ref (u.1 2), .ref (u.1 3), .ref (u.1 4)])), ((u.1 1), .inr (3, [.ref (u.1 5), .ref (u.1 6), .ref (u.1 7), .ref (u.1 8), .int (J 1), .int (J 1), .int (J 0), .int (J 0)])), ((u.1 5), .inl ((u.2 5), 10, .inl (fun _ => J 0))), ((u.1 6), .inl ((u.2 6), 8, .inl (fun _ => J 0))), ((u.1 7), .inl ((u.2 7), 8, .inl (fun _ => J 0))), ((u.1 8), .inl ((u.2 8), 8, .inl (fun _ => J 0))), ((u.1 2), .inr (2, [.ref (u.1 1), .ref (u.1 9), .ref (u.1 10), .ref (u.1 11), .ref (u.1 12), .ref (u.1 13), .int (J 0), .ref (u.1 14), .int (J 0)])), ((u.1 9), .inl ((u.2 9), 24, .inl (fun _ => J 0))), ((u.1 10), .inl ((u.2 10), 20, .inl (fun _ => J 0))), ((u.1 11), .inl ((u.2 11), 20, .inl (fun _ => J 0))), ((u.1 12), .inl ((u.2 12), 400, .inl (fun _ => J 0))), ((u.1 13), .inl ((u.2 13), 400, .inl (fun _ => J 0))), ((u.1 14), .inl ((u.2 14), 400, .inl (fun _ => J 0))), ((u.1 3), .inr (1, [.ref (u.1 1), .ref (u.1 2), .ref (u.1 15), .int (J 0), .int (J 0)])), ((u.1 15), .inl ((u.2 15), 8, .inl (fun _ => J 0))), ((u.1 4), .inr (0, [.ref (u.1 1), .ref (u.1 16), .ref (u.1 17), .int (J 1), .int (J 0), .int (J 0)])), ((u.1 16), .inl ((u.2 16), 25, .inl (fun _ => J 0))), ((u.1 17), .inl ((u.2 17), 5, .inl (fun _ => J 0))), (m0, .inr (5, [.int (J 1), .int (J 1), .ref (w.1 0), .int (J 0), .ref (w.1 1), .ref (w.1 2), .ref (w.1 3), .ref (w.1 4), .ref (w.1 5), .ref (w.1 6), .int (J (-1)), .ref (w.1 7), .ref (w.1 8), .ref (w.1 9), .ref (w.1 10), .ref (w.1 11), .ref (w.1 12)])), ((w.1 0), .inl ((w.2 0), 10, .inl (fun _ => J 0))), ((w.1 1), .inl ((w.2 1), 8, .inl (fun _ => J 0))), ((w.1 2), .inl ((w.2 2), 8, .inl (fun _ => J 0))), ((w.1 3), .inl ((w.2 3), 8, .inl (fun _ => J 0))), ((w.1 4), .inl ((w.2 4), 8, .inl (fun _ => J 0))), ((w.1 5), .inl ((w.2 5), 8, .inl (fun _ => J 0))), ((w.1 6), .inl ((w.2 6), 8, .inl (fun _ => J 0))), ((w.1 7), .inl ((w.2 7), 400, .inl (fun _ => J 0))), ((w.1 8), .inl ((w.2 8), 400, .inl (fun _ => J 0))), ((w.1 9), .inl ((w.2 9), 400, .inl (fun _ => J 0))), ((w.1 10), .inl ((w.2 10), 40, .inl (fun _ => J 0))), ((w.1 11), .inl ((w.2 11), 5, .inl (fun _ => J 0))), ((w.1 12), .inl ((w.2 12), 5, .inl (fun _ => J 0)))] H := hP
  have hD : va_D (fun q : Nat => s.heap.size ≤ q) [(g0, .inr (4, [.ref (u.1 1), .ref (u.1 2), .ref (u.1 3), .ref (u.1 4)])), ((u.1 1), .inr (3, [.ref (u.1 5), .ref (u.1 6), .ref (u.1 7), .ref (u.1 8), .int (J 1), .int (J 1), .int (J 0), .int (J 0)])), ((u.1 5), .inl ((u.2 5), 10, .inl (fun _ => J 0))), ((u.1 6), .inl ((u.2 6), 8, .inl (fun _ => J 0))), ((u.1 7), .inl ((u.2 7), 8, .inl (fun _ => J 0))), ((u.1 8), .inl ((u.2 8), 8, .inl (fun _ => J 0))), ((u.1 2), .inr (2, [.ref (u.1 1), .ref (u.1 9), .ref (u.1 10), .ref (u.1 11), .ref (u.1 12), .ref (u.1 13), .int (J 0), .ref (u.1 14), .int (J 0)])), ((u.1 9), .inl ((u.2 9), 24, .inl (fun _ => J 0))), ((u.1 10), .inl ((u.2 10), 20, .inl (fun _ => J 0))), ((u.1 11), .inl ((u.2 11), 20, .inl (fun _ => J 0))), ((u.1 12), .inl ((u.2 12), 400, .inl (fun _ => J 0))), ((u.1 13), .inl ((u.2 13), 400, .inl (fun _ => J 0))), ((u.1 14), .inl ((u.2 14), 400, .inl (fun _ => J 0))), ((u.1 3), .inr (1, [.ref (u.1 1), .ref (u.1 2), .ref (u.1 15), .int (J 0), .int (J 0)])), ((u.1 15), .inl ((u.2 15), 8, .inl (fun _ => J 0))), ((u.1 4), .inr (0, [.ref (u.1 1), .ref (u.1 16), .ref (u.1 17), .int (J 1), .int (J 0), .int (J 0)])), ((u.1 16), .inl ((u.2 16), 25, .inl (fun _ => J 0))), ((u.1 17), .inl ((u.2 17), 5, .inl (fun _ => J 0))), (m0, .inr (5, [.int (J 1), .int (J 1), .ref (w.1 0), .int (J 0), .ref (w.1 1), .ref (w.1 2), .ref (w.1 3), .ref (w.1 4), .ref (w.1 5), .ref (w.1 6), .int (J (-1)), .ref (w.1 7), .ref (w.1 8), .ref (w.1 9), .ref (w.1 10), .ref (w.1 11), .ref (w.1 12)])), ((w.1 0), .inl ((w.2 0), 10, .inl (fun _ => J 0))), ((w.1 1), .inl ((w.2 1), 8, .inl (fun _ => J 0))), ((w.1 2), .inl ((w.2 2), 8, .inl (fun _ => J 0))), ((w.1 3), .inl ((w.2 3), 8, .inl (fun _ => J 0))), ((w.1 4), .inl ((w.2 4), 8, .inl (fun _ => J 0))), ((w.1 5), .inl ((w.2 5), 8, .inl (fun _ => J 0))), ((w.1 6), .inl ((w.2 6), 8, .inl (fun _ => J 0))), ((w.1 7), .inl ((w.2 7), 400, .inl (fun _ => J 0))), ((w.1 8), .inl ((w.2 8), 400, .inl (fun _ => J 0))), ((w.1 9), .inl ((w.2 9), 400, .inl (fun _ => J 0))), ((w.1 10), .inl ((w.2 10), 40, .inl (fun _ => J 0))), ((w.1 11), .inl ((w.2 11), 5, .inl (fun _ => J 0))), ((w.1 12), .inl ((w.2 12), 5, .inl (fun _ => J 0)))] := hD
  have hK : va_K D clsT [((u.2 5), .int), ((u.2 6), .int), ((u.2 7), .int), ((u.2 8), .int), ((u.2 9), .int), ((u.2 10), .int), ((u.2 11), .int), ((u.2 12), .int), ((u.2 13), .int), ((u.2 14), .int), ((u.2 15), .int), ((u.2 16), .int), ((u.2 17), .int), ((w.2 0), .int), ((w.2 1), .int), ((w.2 2), .int), ((w.2 3), .int), ((w.2 4), .boolean), ((w.2 5), .int), ((w.2 6), .int), ((w.2 7), .int), ((w.2 8), .int), ((w.2 9), .int), ((w.2 10), .int), ((w.2 11), .int), ((w.2 12), .int)] s := hK
  refine W.widen (k := 32) (n := 2693) (Nat.le_of_ble_eq_true rfl) (Nat.le_of_ble_eq_true rfl) ?_
  refine lv_astore_n (lv' := [(2, .ref m0), (1, .ref g0), (0, .ref b)]) hx hb dL_law_15 rfl hl (by decide) rfl (fun ls hl => ?_)
  refine lv_iconst (v := J 0) hx hb dL_law_16 (by decide +kernel) ?_
  refine lv_istore_n (lv' := [(3, .int (J 0)), (2, .ref m0), (1, .ref g0), (0, .ref b)]) hx hb dL_law_17 rfl hl (by decide) rfl (fun ls hl => ?_)
  have hPw : va_P D clsT (wd (cAF u w) (adF b g0 m0 u w) M0) H := va_P.by (ws := W32 g0 m0 u w) hP gF w32_at
  have hDw : va_D (fun q : Nat => s.heap.size ≤ q) (wd (cAF u w) (adF b g0 m0 u w) M0) := va_D.by (ws := W32 g0 m0 u w) hD gF w32_at (fun i j hi hj => gF_inj i (by rw [wd_len] at hi; exact hi) j (by rw [wd_len] at hj; exact hj))
  have hKK : KK D (cAF u w) s := ⟨hK.sub [] rfl, t26_at hK, hN⟩
  have hlw : lv_has ls 4 [(0, .ref (adF b g0 m0 u w 1000)), (1, .ref (adF b g0 m0 u w 0)), (2, .ref (adF b g0 m0 u w 18)), (3, .int (J 0))] := lv_sub hl [3, 2, 1, 0] rfl
  have hadb : adF b g0 m0 u w 1000 = b := rfl
  generalize adF b g0 m0 u w = ad at hPw hDw hlw hadb
  generalize cAF u w = cA at hPw hDw hKK
  have hkn : ∀ i, i < 32 → ∃ q, knd[i]? = some q := fun i hi => ⟨_, List.getElem?_eq_getElem (show i < knd.length from hi)⟩
  have hinj : inj32 ad := by
    intro i j hi hj e
    obtain ⟨q, hq⟩ := hkn i hi
    obtain ⟨q', hq'⟩ := hkn j hj
    exact hDw.1 i j _ _ (wd_at hq) (wd_at hq') e
  have hin32 : ∀ i, i < 32 → (fun q : Nat => s.heap.size ≤ q) (ad i) := by
    intro i hi
    obtain ⟨q, hq⟩ := hkn i hi
    exact hDw.2 i _ (wd_at hq)
  have hgo := law_loop (d := 0) (xs := xs) hL L 0 M0 S0 (by omega) (by omega) S0_ok M0_C M0_R
  refine hgo p l e room_1 s m _ below meth c D cA ad (fun q : Nat => s.heap.size ≤ q) 32 2693 _ ⟨hx, hb, hml, hown, hts, hKK, hinj, hin32, hA, ⟨Nat.le_of_ble_eq_true rfl, Nat.le_of_ble_eq_true rfl, Nat.le_of_ble_eq_true rfl, Nat.le_of_ble_eq_true rfl⟩, ?_, ?_, ?_⟩ H locs ls hPw hS hlw
  · intro r M H locs pc L' hq hP hS hdg _
    have hr1 : r = J 1 := Option.some.inj hq
    subst hr1
    refine va_forget (fun q hq => hS.2.2 q hq) ?_
    refine W.widen (k := 600000) (n := 7302250) (Nat.le_of_ble_eq_true rfl) (Nat.le_of_ble_eq_true rfl) ?_
    exact lw_ret hx hb hr hlocks hdg
  · intro M H locs pc L' hq
    cases hq
  · intro n xs' hX'
    cases hX'
    rw [hadb]
    exact ⟨hX, hbl, hbA⟩
set_option maxHeartbeats 4000000 in
theorem lw_walk (l : Launch) (hflags : l.flags = flags0) (b : Addr) (xs : List Int32) : MetFree l x (headSpec (Jvm.Cond.code x code maxLocals ret :: tables_1) room_1) (lw_P b xs) (fun _ _ _ _ _ => True) lw_Q := by
  refine MetFree.of_bodyS (code := code) (maxLocals := maxLocals) (ret := ret) (by decide) ?_ ?_
  · intro args s m h hn
    obtain ⟨meth, c, h1, h2, h3, h4, h5, h6, -, -⟩ := Cond.code_spec hn (atoms_spec (ws := Jvm.Cond.code x code maxLocals ret :: tables_1) h _ List.mem_cons_self)
    exact ⟨meth, c, h1, h2, h3, h4, h5, h6⟩
  · intro p e s m args below meth c s₁ B hml0 hP _
    obtain ⟨rfl, hx, hbd, hgv⟩ := hP
    obtain ⟨scr, harrAt, hlist, hof, hsmall⟩ := hx
    obtain ⟨hcb, hkn, -, -⟩ := State.arrayAt?_spec harrAt
    have hown : s.vm.findClass R_law = some m.cls := findClass_of_methodNamed B.named
    have hts0 : ∀ c ∈ (Jvm.Cond.code x code maxLocals ret :: tables_1), c.before #[Value.ref b] s = true := atoms_spec (ws := Jvm.Cond.code x code maxLocals ret :: tables_1) B.pre
    have hts : ∀ w ∈ lw_tbl, w.before #[Value.ref b] s = true := k2_hts_sels lw_privs (fun w hw => hts0 w (List.mem_cons_of_mem _ hw)) lw_privs_ok
    have hml : c.maxLocals = 4 := B.maxLocals_eq (hts0 _ List.mem_cons_self)
    have X₀ : Stand p l e room_1 s m #[Value.ref b] below meth c s₁ [] 0 0 := Stand.of_body B
    have hh0 : s₁.heap = s.heap := by rw [B.state]; rfl
    have hsz : scr.slots.size = xs.length := by rw [← Array.length_toList, hlist, List.length_map]
    have hval : ∀ j : Nat, j < xs.length → scr.slots[j]? = some (.int (xs.getD j 0)) := fun j hj => by
      rw [← Array.getElem?_toList, hlist]
      simp [hj]
    have hbl : b < s.heap.size := (Array.getElem?_eq_some_iff.mp hcb).1
    have hX : va_X b xs.length (fun j => xs.getD j 0) s s.heap := ⟨scr, hcb, hof, hkn, hsz, hval⟩
    have K : W p l e room_1 s m #[Value.ref b] below meth c s₁.heap [] 0 0 (lw_Z below #[Value.ref b] s) (entryFrame m ([Value.ref b] : List Value).toArray 4) := by
      rw [hh0]
      exact whole_start l hflags hbd ⟨B.exec, B.bytes, B.returns, hml, hown, hts, hX, hbl, B.notSynchronized, hgv, hts0 _ List.mem_cons_self⟩
    obtain ⟨t, a1, o, b1, b2, b3⟩ := K s₁ rfl X₀
    exact ⟨t, o, a1, b1, b2, b3⟩
theorem lw_pre_spec {args : Array Value} {s : State} (h : (Jvm.Cond.and given_1 narrow_1).before args s = true) (hr : rest_1_c.before args s = true) : ∃ (b : Addr) (xs : List Int32), lw_P b xs args s := by
  have hs := flat_of_before _ h
  have hq := flat_of_before _ hr
  have hc : (Cond.count 1).before args s = true := hs _ (by decide +kernel)
  have harr : (Cond.arrayOf (.arg 0) .int).before args s = true := hs _ (by decide +kernel)
  have hle : (Cond.le (.length (.arg 0)) (.int 2560)).before args s = true := hs _ (by decide +kernel)
  have hlen : (Cond.isInt (.length (.arg 0))).before args s = true := hq _ (by decide +kernel)
  have hall : (Cond.all (.arg 0) (.isInt (.elem (.arg 0) (.index 0)))).before args s = true := hq _ (by decide +kernel)
  obtain ⟨b, xs, hb, hx⟩ := State.ints_of_pre rfl harr hlen hall
  have hsm : xs.length < 2 ^ 31 := hx.choose_spec.2.2.2
  have hev : (Term.length (.arg 0)).eval args s none [] s = some (.int xs.length.toInt32) := hx.length_eval hb
  have hv := Cond.le_ints hev (show (Term.int 2560).eval args s none [] s = some (.int 2560) from rfl)
  have hd : xs.length.toInt32 ≤ 2560 := by
    simpa [Cond.before, Cond.holds, hv] using hle
  have hN : xs.length ≤ 2560 := (Int32.ofNat_le_ofNat hsm (by decide)).mp (show Int32.ofNat xs.length ≤ Int32.ofNat 2560 from hd)
  exact ⟨b, xs, Cond.one_arg hc (show args[0]? = some (.ref b) from hb), hx, hN, h⟩
theorem lw_comes (l : Launch) (hflags : l.flags = flags0) : Comes l x (Jvm.Cond.code x code maxLocals ret :: tables_1) room_1 (fun tb e args s => Calls_1 tb e args s ∧ rest_1 tb e args s ∧ Pre_1 tb e args s)
    (fun _ _ args s o t => lw_Q args s o t) := by
  intro p e ha hc hk s m args below hf hfit hheap happ hpre
  obtain ⟨b, xs, hP⟩ := lw_pre_spec hpre.2.2 hpre.2.1
  obtain ⟨k, o, h1, h2, h3, hQ⟩ := lw_walk l hflags b xs p e ha hc hk s m args below hf ((Spec.applies_iff_loose hf).mp happ).1 hP trivial
  exact ⟨k, o, h1, h2, h3, hQ⟩
theorem lw_frame {s t : State} {o : Outcome} {args : Array Value} (h : Framed s o t [] 600000 7302250) :
    Framed s o t (fieldLocs frame_1_writes args s ++ arrayLocs frame_1_arrays args s ++ staticLocs frame_1_statics s) 600000 7302250 := h
theorem lw_limb (L : Cond) (hL : ∀ (args : Array Value) (s t : State), L.after args s (.returned (some (.int 1))) t = true) :
    ArmFor flags0 classFile x code maxLocals ret World_1 tables_1 room_1 Calls_1 rest_1 Pre_1
      (fun tb e a s o t => postC L tb e a s o t ∧ Framed s o t (fieldLocs frame_1_writes a s ++ arrayLocs frame_1_arrays a s ++ staticLocs frame_1_statics s) 600000 7302250) := by
  intro l hflags _ _ p e ha hc hk s m args below hf hfit hheap happ hpre
  obtain ⟨k, o, h1, h2, h3, rfl, hF⟩ := lw_comes l hflags p e ha hc hk s m args below hf hfit hheap happ hpre
  exact ⟨k, _, h1, h2, h3, hL args s _, lw_frame hF⟩
theorem i_vc : Claimed_1_1 ∧ Claimed_1_2 := ⟨lw_limb limb_1_1 (fun args s t => by simp [limb_1_1, Cond.after, Cond.holds, Cond.value]), lw_limb limb_1_2 (fun args s t => Cond.after_iff.mpr (by
  first | (rw [show limb_1_2 = Cond.eq .result (.int 1) from rfl, Cond.eq_ints (x := 1) (y := 1) rfl rfl]; simp; done) | (simp [limb_1_2, Cond.value, Term.eval]; done)))⟩
