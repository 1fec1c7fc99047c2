/-! the reference's spreading -/
def fv (op : Nat → Bool) (D : Nat → Option Nat) (k : Nat) : Int := match D k with
  | some n => (n : Int)
  | none => if op k = true then -2 else -1
def FB (M : Mem) (op : Nat → Bool) (D : Nat → Option Nat) : Prop := ∀ k, k < 400 → M 27 k = J (fv op D k)
def BD (D : Nat → Option Nat) : Prop := ∀ k n, D k = some n → n < 400
def QB (M : Mem) (op : Nat → Bool) (s : BS) : Prop := FB M op s.1 ∧ ∀ i k : Nat, s.2[i]? = some k → M 28 i = J (k : Int)
def SF (M M' : Mem) : Prop := ∀ a j, a ≠ 27 → a ≠ 28 → M' a j = M a j
theorem SF.rf {M : Mem} : SF M M := fun _ _ _ _ => rfl
theorem SF.tr {M M1 M2 : Mem} (h : SF M M1) (g : SF M1 M2) : SF M M2 := fun a j q1 q2 => (g a j q1 q2).trans (h a j q1 q2)
theorem SF.QF {M M' : Mem} (h : SF M M') : QF M M' := fun a j q => h a j (by omega) (by omega)
theorem fv_b {op : Nat → Bool} {D : Nat → Option Nat} (h : BD D) (k : Nat) : -2 ≤ fv op D k ∧ fv op D k < 400 := by
  unfold fv
  split
  · next n hn => have := h k n hn; omega
  · split <;> omega
theorem fv_some {op : Nat → Bool} {D : Nat → Option Nat} {k n : Nat} (h : D k = some n) : fv op D k = (n : Int) := by unfold fv; rw [h]
theorem fv_none {op : Nat → Bool} {D : Nat → Option Nat} {k : Nat} (h : D k = none) : fv op D k = if op k = true then -2 else -1 := by unfold fv; rw [h]
theorem nb_spot {k : Nat} {e : Int} (h : (-6 ≤ ((k % 20 : Nat) : Int) - 6 + dxI e ∧ ((k % 20 : Nat) : Int) - 6 + dxI e ≤ 13) ∧ (-6 ≤ ((k / 20 : Nat) : Int) - 6 + dyI e ∧ ((k / 20 : Nat) : Int) - 6 + dyI e ≤ 13)) : nb k e = (plc (((k % 20 : Nat) : Int) - 6 + dxI e) (((k / 20 : Nat) : Int) - 6 + dyI e) : Int) := by
  unfold nb plc
  rw [if_pos (by omega)]
  omega
theorem nb_nospot {k : Nat} {e : Int} (h : ¬ ((-6 ≤ ((k % 20 : Nat) : Int) - 6 + dxI e ∧ ((k % 20 : Nat) : Int) - 6 + dxI e ≤ 13) ∧ (-6 ≤ ((k / 20 : Nat) : Int) - 6 + dyI e ∧ ((k / 20 : Nat) : Int) - 6 + dyI e ≤ 13))) : nb k e = -4 := by
  unfold nb
  rw [if_neg (by omega)]
theorem rch_BD {op : Nat → Bool} {s : BS} {z : Int} {n : Nat} (hB : BI op s) (h : BD s.1) (hn : n ≤ s.2.length) : BD (rch op s z n).1 := by
  rcases rch_or op s z n with e | ⟨k, h1, h2, h3, h4, h5⟩
  · rw [e]; exact h
  · rw [h5]
    intro j m hj
    have := hB.room h2 h4
    by_cases ej : j = k
    · simp [updO, ej] at hj; omega
    · simp [updO, ej] at hj; exact h j m hj
theorem rchs_BD {op : Nat → Bool} {s : BS} {k n : Nat} (hB : BI op s) (h : BD s.1) (hn : n ≤ s.2.length) : ∀ j, BD (rchs op s k n j).1
  | 0 => h
  | j + 1 => rch_BD (rchs_BI hB hn j) (rchs_BD hB h hn j) (Nat.le_trans hn (rchs_ext op s k n j).len)
section MP
variable {d : Nat} {M : Mem} {Q : Post} {σ : St}
theorem r_lays {p : Nat} (hT : MT M σ) (hW : WF σ) (hp : p < sN σ) (h : ∀ M', FB M' (opP σ p) (fun _ => none) → SF M M' → Q none M') : Mt (d + 4) mX5_lays [.ref 18, .int (J (p : Int))] M Q := by
  have hN := hW.N
  have key : ∀ f k : Nat, k + f = 400 → ∀ M1 : Mem, (∀ j, j < k → M1 27 j = J (fv (opP σ p) (fun _ => none) j)) → SF M M1 → R none (d + 4) mX5_lays 2 [.ref 18, .int (J (p : Int)), .int (J (k : Int))] [] M1 Q := by
    intro f
    induction f with
    | zero =>
      intro k hk M1 hj hF
      refine b_X5_lays_2 ⟨fun _ => h M1 (fun j hj2 => hj j (by omega)) hF, fun c => ?_⟩
      simp (disch := omega) only [J_add, J_sub, J_mul, J_neg, J_bit, J_shl, J_shr, J_andn, J_and, J_or, J_xor, J_div, J_rem, J_lt, J_le, J_eq, J_lt0, J_le0, J_0le, J_0lt, J_eq0, vp_in_J, J_clamp, J_max, J_abs, Int.toNat_natCast, Int.reduceToNat, Int.reduceAdd, Int.reduceSub, Int.reduceMul, Int.reduceNeg, not_true_eq_false, not_false_eq_true] at c; omega
    | succ f ih =>
      intro k hk M1 hj hF
      have hop := opn_P hW (oth := oth σ p) (s := sS σ p) (k := k)
      have nxt : ∀ v : Int, v = fv (opP σ p) (fun _ => none) k → R none (d + 4) mX5_lays 2 [.ref 18, .int (J (p : Int)), .int (J (k : Int) + J 1)] [] (mset M1 27 k (J v)) Q := by
        intro v hv
        rw [J_suc]
        refine ih (k + 1) (by omega) _ (fun j h1 => ?_) (fun a j h1 h2 => by rw [mset_o h1]; exact hF a j h1 h2)
        by_cases e : j = k
        · subst e; rw [mset_self, hv]
        · rw [mset_k e]; exact hj j (by omega)
      refine b_X5_lays_2 ⟨fun c => ?_, fun _ => ?_⟩
      · simp (disch := omega) only [J_add, J_sub, J_mul, J_neg, J_bit, J_shl, J_shr, J_andn, J_and, J_or, J_xor, J_div, J_rem, J_lt, J_le, J_eq, J_lt0, J_le0, J_0le, J_0lt, J_eq0, vp_in_J, J_clamp, J_max, J_abs, Int.toNat_natCast, Int.reduceToNat, Int.reduceAdd, Int.reduceSub, Int.reduceMul, Int.reduceNeg, not_true_eq_false, not_false_eq_true] at c; omega
      · rw [J_m20 (by omega), J_d20 (by omega), J_sub, J_sub]
        refine r_stand (hT.keep hF.QF) hW hp (by omega) (by omega) (ri_some ?_)
        rw [jb_ne, jb_eq0, pb_t, pb_f, nI2 (by omega)]
        refine ⟨fun c => ⟨vin (by omega) (by omega), nxt (-1) ?_⟩, fun c => ⟨vin (by omega) (by omega), nxt (-2) ?_⟩⟩
        · rw [fv_none rfl, if_neg (fun g => c (hop.mp g))]
        · rw [fv_none rfl, if_pos (hop.mpr c)]
  exact e_X5_lays (key 400 0 (by omega) M (fun j hj => by omega) SF.rf)
theorem r_spreads {op : Nat → Bool} {D : Nat → Option Nat} {k : Nat} (hk : k < 400) (ho : op k = true) (hM : FB M op D) (hD : BD D) (h : ∀ M', FB M' op (spr op 401 (updO D k 0, [k]) 0).1 → SF M M' → Q none M') : Mt (d + 3) mX5_spreads [.ref 18, .int (J (k : Int))] M Q := by
  refine e_X5_spreads ⟨(vp_in_J (by omega) (by omega)).mpr (by omega), vin hk (by omega), ?_⟩
  rw [nI2 (by omega), show (J 0).toNatClampNeg = 0 from nI2 (n := 0) (by omega)]
  have hB0 : BI op ((updO D k 0, [k]) : BS) := by
    refine ⟨by simp, fun j hj => ?_, fun i j hi => ?_⟩
    · have : j = k := by simpa using hj
      subst this; exact ⟨hk, ho⟩
    · have : j = k := by
        have := List.mem_of_getElem? hi
        simpa using this
      subst this
      exact ⟨0, by simp [updO], by omega⟩
  have hD0 : BD (updO D k 0) := by
    intro j m hj
    by_cases e : j = k
    · simp [updO, e] at hj; omega
    · simp [updO, e] at hj; exact hD j m hj
  have key : ∀ f i : Nat, i + f = 401 → ∀ (M1 : Mem) (s1 : BS), QB M1 op s1 → BI op s1 → BD s1.1 → SF M M1 → spr op f s1 i = spr op 401 (updO D k 0, [k]) 0 → R none (d + 3) mX5_spreads 18 [.ref 18, .null, .int (J (s1.2.length : Int)), .int (J (i : Int)), .null, .null, .null, .null] [] M1 Q := by
    intro f
    induction f with
    | zero =>
      intro i hi M1 s1 hQ1 hB1 hD1 hF he
      have hl := hB1.len
      refine b_X5_spreads_18 ⟨fun _ => h M1 (by rw [← he]; exact hQ1.1) hF, fun c => ?_⟩
      simp (disch := omega) only [J_add, J_sub, J_mul, J_neg, J_bit, J_shl, J_shr, J_andn, J_and, J_or, J_xor, J_div, J_rem, J_lt, J_le, J_eq, J_lt0, J_le0, J_0le, J_0lt, J_eq0, vp_in_J, J_clamp, J_max, J_abs, Int.toNat_natCast, Int.reduceToNat, Int.reduceAdd, Int.reduceSub, Int.reduceMul, Int.reduceNeg, not_true_eq_false, not_false_eq_true] at c; omega
    | succ f ih =>
      intro i hi M1 s1 hQ1 hB1 hD1 hF he
      have hl := hB1.len
      rw [spr] at he
      cases hat : s1.2[i]? with
      | none =>
        rw [hat] at he
        have hil := List.getElem?_eq_none_iff.mp hat
        refine b_X5_spreads_18 ⟨fun _ => h M1 (by rw [← he]; exact hQ1.1) hF, fun c => ?_⟩
        simp (disch := omega) only [J_add, J_sub, J_mul, J_neg, J_bit, J_shl, J_shr, J_andn, J_and, J_or, J_xor, J_div, J_rem, J_lt, J_le, J_eq, J_lt0, J_le0, J_0le, J_0lt, J_eq0, vp_in_J, J_clamp, J_max, J_abs, Int.toNat_natCast, Int.reduceToNat, Int.reduceAdd, Int.reduceSub, Int.reduceMul, Int.reduceNeg, not_true_eq_false, not_false_eq_true] at c; omega
      | some at' =>
        rw [hat] at he
        have hil := (List.getElem?_eq_some_iff.mp hat).1
        have hk4 := (hB1.2.1 at' (List.mem_of_getElem? hat)).1
        obtain ⟨n, hn1, hn2⟩ := hB1.2.2 i at' hat
        dsimp only at he
        rw [hn1, Option.getD_some] at he
        refine b_X5_spreads_18 ⟨fun c => ?_, fun _ => ⟨vin (by omega) (by omega), ?_⟩⟩
        · simp (disch := omega) only [J_add, J_sub, J_mul, J_neg, J_bit, J_shl, J_shr, J_andn, J_and, J_or, J_xor, J_div, J_rem, J_lt, J_le, J_eq, J_lt0, J_le0, J_0le, J_0lt, J_eq0, vp_in_J, J_clamp, J_max, J_abs, Int.toNat_natCast, Int.reduceToNat, Int.reduceAdd, Int.reduceSub, Int.reduceMul, Int.reduceNeg, not_true_eq_false, not_false_eq_true] at c; omega
        · rw [nI2 (by omega), hQ1.2 i at' hat]
          have key2 : ∀ g j : Nat, j + g = 4 → ∀ M2 : Mem, QB M2 op (rchs op s1 at' (n + 1) j) → SF M1 M2 → R none (d + 3) mX5_spreads 34 [.ref 18, .null, .int (J ((rchs op s1 at' (n + 1) j).2.length : Int)), .int (J (i : Int)), .int (J (at' : Int)), .int (J (j : Int)), .null, .null] [] M2 Q := by
            intro g
            induction g with
            | zero =>
              intro j hj M2 hQ2 hF2
              refine b_X5_spreads_34 ⟨fun _ => ?_, fun c => ?_⟩
              · rw [J_suc]
                have hj4 : j = 4 := by omega
                subst hj4
                exact ih (i + 1) (by omega) M2 _ hQ2 (rchs_BI hB1 (by omega) 4) (rchs_BD hB1 hD1 (by omega) 4) (hF.tr hF2) he
              · simp (disch := omega) only [J_add, J_sub, J_mul, J_neg, J_bit, J_shl, J_shr, J_andn, J_and, J_or, J_xor, J_div, J_rem, J_lt, J_le, J_eq, J_lt0, J_le0, J_0le, J_0lt, J_eq0, vp_in_J, J_clamp, J_max, J_abs, Int.toNat_natCast, Int.reduceToNat, Int.reduceAdd, Int.reduceSub, Int.reduceMul, Int.reduceNeg, not_true_eq_false, not_false_eq_true] at c; omega
            | succ g ihg =>
              intro j hj M2 hQ2 hF2
              have ih3 := ihg (j + 1) (by omega)
              rw [rchs] at ih3
              have hB2 := rchs_BI hB1 (show n + 1 ≤ s1.2.length by omega) (k := at') j
              have hD2 := rchs_BD hB1 hD1 (show n + 1 ≤ s1.2.length by omega) (k := at') j
              have hE2 := rchs_ext op s1 at' (n + 1) j
              generalize rchs op s1 at' (n + 1) j = s2 at hQ2 hB2 hD2 hE2 ih3
              have hl2 := hB2.len
              have hdx := dxI_b (j : Int)
              have hdy := dyI_b (j : Int)
              refine b_X5_spreads_34 ⟨fun c => ?_, fun _ => r_dx ⟨by omega, by omega⟩ (ri_some (r_dy ⟨by omega, by omega⟩ (ri_some ?_)))⟩
              · simp (disch := omega) only [J_add, J_sub, J_mul, J_neg, J_bit, J_shl, J_shr, J_andn, J_and, J_or, J_xor, J_div, J_rem, J_lt, J_le, J_eq, J_lt0, J_le0, J_0le, J_0lt, J_eq0, vp_in_J, J_clamp, J_max, J_abs, Int.toNat_natCast, Int.reduceToNat, Int.reduceAdd, Int.reduceSub, Int.reduceMul, Int.reduceNeg, not_true_eq_false, not_false_eq_true] at c; omega
              · rw [J_m20 (by omega), J_d20 (by omega), J_sub, J_sub, J_add, J_add]
                refine r_isSpot (b32 (by omega) (by omega)) (b32 (by omega) (by omega)) (ri_some ?_)
                rw [jb_ne, jb_eq0, J_suc]
                refine ⟨fun c => ?_, fun c => ?_⟩
                · have e1 := nb_nospot (of_decide_eq_false c)
                  rw [e1, show rch op s2 (-4) (n + 1) = s2 from if_neg (by omega)] at ih3
                  exact ih3 M2 hQ2 hF2
                · have c1 := of_decide_eq_true c
                  have e1 := nb_spot c1
                  have hpl := plc_lt c1.1 c1.2
                  obtain ⟨z, hzz⟩ : ∃ z, plc (((at' % 20 : Nat) : Int) - 6 + dxI (j : Int)) (((at' / 20 : Nat) : Int) - 6 + dyI (j : Int)) = z := ⟨_, rfl⟩
                  rw [hzz] at hpl
                  rw [e1, hzz] at ih3
                  refine r_spot c1.1 c1.2 (ri_some ?_)
                  rw [hzz]
                  refine ⟨vin (by omega) (by omega), ?_⟩
                  rw [nI2 (by omega)]
                  have hz := hQ2.1 z hpl
                  have hzb := fv_b (op := op) hD2 z
                  rw [hz, J_eq (by omega) (by omega) (by omega) (by omega)]
                  refine ⟨fun c2 => ?_, fun c2 => r_spot c1.1 c1.2 (ri_some ?_)⟩
                  · rw [show rch op s2 (z : Int) (n + 1) = s2 from if_neg (fun q => c2 (by
                      rw [Int.toNat_natCast] at q
                      rw [fv_none q.2.2.2, if_pos q.2.2.1]))] at ih3
                    exact ih3 M2 hQ2 hF2
                  · rw [hzz]
                    have hnone : s2.1 z = none := by
                      cases hd : s2.1 z with
                      | none => rfl
                      | some v => rw [fv_some hd] at c2; omega
                    have hopz : op z = true := by
                      rw [fv_none hnone] at c2
                      split at c2
                      · next g => exact g
                      · omega
                    have hroom := hB2.room hpl hnone
                    have e : rch op s2 (z : Int) (n + 1) = (updO s2.1 z (n + 1), s2.2 ++ [z]) := by
                      unfold rch
                      rw [if_pos ⟨by omega, by omega, by rw [Int.toNat_natCast]; exact hopz, by rw [Int.toNat_natCast]; exact hnone⟩, Int.toNat_natCast]
                    rw [e] at ih3
                    refine ⟨vin (by omega) (by omega), vin (by omega) (by omega), r_spot c1.1 c1.2 (ri_some ⟨vin hroom (by omega), ?_⟩)⟩
                    rw [hzz, nI2 (by omega), nI2 (by omega), nI2 (by omega), hQ2.1 at' (by omega), fv_some (hE2.1 at' n hn1), J_suc, J_suc]
                    have ih4 := ih3 (mset (mset M2 27 z (J ((n + 1 : Nat) : Int))) 28 s2.2.length (J (z : Int))) ⟨fun k' hk' => ?_, fun i' k' hi' => ?_⟩ (fun a j h1 h2 => by rw [mset_o h2, mset_o h1]; exact hF2 a j h1 h2)
                    · rw [show (s2.2 ++ [z]).length = s2.2.length + 1 by simp] at ih4
                      exact ih4
                    · rw [mset_o (by decide)]
                      by_cases ek : k' = z
                      · subst ek; rw [mset_self, fv_some (n := n + 1) (by simp [updO])]
                      · rw [mset_k ek, hQ2.1 k' hk']
                        show J (fv op s2.1 k') = J (fv op (updO s2.1 z (n + 1)) k')
                        unfold fv updO; rw [if_neg ek]
                    · rcases getElem?_snoc hi' with q | ⟨q1, q2⟩
                      · have := (List.getElem?_eq_some_iff.mp q).1
                        rw [mset_k (by omega), mset_o (by decide)]
                        exact hQ2.2 i' k' q
                      · subst q1; subst q2; rw [mset_self]
          exact key2 4 0 (by omega) M1 hQ1 SF.rf
  have hs := key 401 0 (by omega) (mset (mset M 28 0 (J (k : Int))) 27 k (J 0)) (updO D k 0, [k]) ⟨fun j hj => ?_, fun i j hi => ?_⟩ hB0 hD0 (fun a j h1 h2 => by rw [mset_o h1, mset_o h2]) rfl
  · exact hs
  · by_cases e : j = k
    · subst e; rw [mset_self, fv_some (n := 0) (by simp [updO])]; rfl
    · rw [mset_k e, mset_o (by decide), hM j hj]
      show J (fv op D j) = J (fv op (updO D k 0) j)
      unfold fv updO; rw [if_neg e]
  · have hi0 : i < 1 := (List.getElem?_eq_some_iff.mp hi).1
    have : j = k := by
      have := List.mem_of_getElem? hi
      simpa using this
    subst this
    rw [mset_o (by decide), show i = 0 by omega, mset_self]
end MP
