/-! places and rooms of the class -/
def cntB (f : Nat → Bool) : Nat → Nat
  | 0 => 0
  | n + 1 => cntB f n + (if f n = true then 1 else 0)
theorem cntB_le (f : Nat → Bool) : ∀ n, cntB f n ≤ n := by
  intro n
  induction n with
  | zero => exact Nat.le_refl _
  | succ n ih => rw [cntB]; split <;> omega
def insC (op : Nat → Bool) (cols rows : Nat) : Nat := sumN (fun y => cntB (fun x => op (plc (x : Int) (y : Int))) cols) rows
theorem sumN_le {f : Nat → Nat} {b : Nat} (h : ∀ k, f k ≤ b) : ∀ n, sumN f n ≤ n * b := by
  intro n
  induction n with
  | zero => simp [sumN]
  | succ n ih => rw [sumN, Nat.succ_mul]; have := h n; omega
def colsN (σ : St) (s : Nat) : Nat := (sC σ - wideN s + 1).toNat
def rowsN (σ : St) (s : Nat) : Nat := (sR σ - tallN s + 1).toNat
section ROOMS
variable {d : Nat} {M : Mem} {Q : Post} {σ : St}
theorem ok_countInside {p : Nat} (hT : TR M σ) (hW : WF σ) (hp : p < sN σ) (h : ∀ M', PF M M' → Q (some (J (insC (opn σ (wo (sL σ) (2 ^ p)) (sS σ p)) (colsN σ (sS σ p)) (rowsN σ (sS σ p)) : Nat))) M') : Mt (d + 5) mX2_countInside [.ref 2, .int (J (p : Int))] M Q := by
  have hl := hW.L
  have hs := hW.S hp
  have hC := hW.C
  have hR := hW.R
  have hw := wideN_le (sS σ p)
  have ht := tallN_le (sS σ p)
  refine e_X2_countInside (ok_lyingBeside hT hW hp (ri_some (ok_survey hT hW hp (wo_lt (by omega)) (fun M1 hS => rn_none ?_))))
  have hT1 := hT.keep hS.TK
  refine ok_shapeOf hT1 hW hp (ri_some (ok_columnCount hT1 (ri_some (ok_columnsOf hs (ri_some (ok_rowCount hT1 (ri_some (ok_rowsOf hs (ri_some ?_)))))))))
  rw [J_sub, J_add, J_sub, J_add]
  have hc : sC σ - (wideN (sS σ p) : Int) + 1 ≤ 13 ∧ -4 ≤ sC σ - (wideN (sS σ p) : Int) + 1 := by omega
  have hr : sR σ - (tallN (sS σ p) : Int) + 1 ≤ 11 ∧ -4 ≤ sR σ - (tallN (sS σ p) : Int) + 1 := by omega
  have e1 : colsN σ (sS σ p) = (sC σ - (wideN (sS σ p) : Int) + 1).toNat := rfl
  have e2 : rowsN σ (sS σ p) = (sR σ - (tallN (sS σ p) : Int) + 1).toNat := rfl
  generalize sC σ - (wideN (sS σ p) : Int) + 1 = c at *
  generalize sR σ - (tallN (sS σ p) : Int) + 1 = r at *
  generalize hop : opn σ (wo (sL σ) (2 ^ p)) (sS σ p) = op at *
  have keyC : ∀ (a y : Nat), y < r.toNat → a ≤ 1000 → ∀ k x : Nat, x + k = c.toNat → (∀ a', a' = a + cntB (fun x => op (plc (x : Int) (y : Int))) c.toNat → R none (d + 5) mX2_countInside 59 [.ref 2, .null, .null, .int (J c), .int (J r), .int (J (a' : Nat)), .int (J ((y + 1 : Nat) : Int)), .null] [] M1 Q) → R none (d + 5) mX2_countInside 69 [.ref 2, .null, .null, .int (J c), .int (J r), .int (J ((a + cntB (fun x => op (plc (x : Int) (y : Int))) x : Nat) : Int)), .int (J (y : Int)), .int (J (x : Int))] [] M1 Q := by
    intro a y hy ha k
    induction k with
    | zero =>
      intro x hx hk
      refine b_X2_countInside_69 ⟨fun _ => ?_, fun q => ?_⟩
      · rw [J_suc, show x = c.toNat by omega]
        exact hk _ rfl
      · simp (disch := omega) only [J_add, J_sub, J_mul, J_neg, J_bit, J_shl, J_shr, J_andn, J_and, J_or, J_xor, J_div, J_rem, J_lt, J_le, J_eq, J_lt0, J_le0, J_0le, J_0lt, J_eq0, vp_in_J, J_clamp, J_max, J_abs, Int.toNat_natCast, Int.reduceToNat, Int.reduceAdd, Int.reduceSub, Int.reduceMul, Int.reduceNeg, not_true_eq_false, not_false_eq_true] at q; omega
    | succ k ih =>
      intro x hx hk
      refine b_X2_countInside_69 ⟨fun q => ?_, fun _ => ok_placeAt (by omega) (by omega) (ri_some (ok_marked (M0 := M) (plc_lt (by omega) (by omega)) hS.1 (ri_some ?_)))⟩
      · simp (disch := omega) only [J_add, J_sub, J_mul, J_neg, J_bit, J_shl, J_shr, J_andn, J_and, J_or, J_xor, J_div, J_rem, J_lt, J_le, J_eq, J_lt0, J_le0, J_0le, J_0lt, J_eq0, vp_in_J, J_clamp, J_max, J_abs, Int.toNat_natCast, Int.reduceToNat, Int.reduceAdd, Int.reduceSub, Int.reduceMul, Int.reduceNeg, not_true_eq_false, not_false_eq_true] at q; omega
      · have ih2 := ih (x + 1) (by omega) hk
        rw [cntB] at ih2
        rw [hop, jb_eq0, J_suc]
        refine ⟨fun q => ?_, fun q => ?_⟩
        · rw [if_neg (by rw [q]; decide)] at ih2
          rw [show J 0 = J ((0 : Nat) : Int) from rfl, J_addN]
          exact ih2
        · rw [Bool.not_eq_false] at q
          rw [if_pos q] at ih2
          rw [J_suc]
          exact ih2
  have key : ∀ k y : Nat, y + k = r.toNat → R none (d + 5) mX2_countInside 59 [.ref 2, .null, .null, .int (J c), .int (J r), .int (J (sumN (fun y => cntB (fun x => op (plc (x : Int) (y : Int))) c.toNat) y : Nat)), .int (J (y : Int)), .null] [] M1 Q := by
    intro k
    induction k with
    | zero =>
      intro y hy
      refine b_X2_countInside_59 ⟨fun _ => ?_, fun q => ?_⟩
      · rw [show y = r.toNat by omega]
        have := h M1 hS.PF
        unfold insC at this
        rw [e1, e2] at this
        exact this
      · simp (disch := omega) only [J_add, J_sub, J_mul, J_neg, J_bit, J_shl, J_shr, J_andn, J_and, J_or, J_xor, J_div, J_rem, J_lt, J_le, J_eq, J_lt0, J_le0, J_0le, J_0lt, J_eq0, vp_in_J, J_clamp, J_max, J_abs, Int.toNat_natCast, Int.reduceToNat, Int.reduceAdd, Int.reduceSub, Int.reduceMul, Int.reduceNeg, not_true_eq_false, not_false_eq_true] at q; omega
    | succ k ih =>
      intro y hy
      have hb := sumN_le (f := fun y => cntB (fun x => op (plc (x : Int) (y : Int))) c.toNat) (b := 13) (fun k => Nat.le_trans (cntB_le _ _) (by omega)) y
      refine b_X2_countInside_59 ⟨fun q => ?_, fun _ => ?_⟩
      · simp (disch := omega) only [J_add, J_sub, J_mul, J_neg, J_bit, J_shl, J_shr, J_andn, J_and, J_or, J_xor, J_div, J_rem, J_lt, J_le, J_eq, J_lt0, J_le0, J_0le, J_0lt, J_eq0, vp_in_J, J_clamp, J_max, J_abs, Int.toNat_natCast, Int.reduceToNat, Int.reduceAdd, Int.reduceSub, Int.reduceMul, Int.reduceNeg, not_true_eq_false, not_false_eq_true] at q; omega
      · refine keyC _ y (by omega) (by omega) c.toNat 0 (by omega) (fun a' ha' => ?_)
        subst ha'
        exact ih (y + 1) (by omega)
  exact key r.toNat 0 (by omega)
/-! rooms -/
noncomputable def rmN (op : Nat → Bool) : Nat → Nat → (Nat → Prop) → Nat
  | 0, _, _ => 0
  | f + 1, k, V => if pb (op k = true ∧ ¬ V k) = true then 1 + rmN op f (k + 1) (cl op (fun j => V j ∨ j = k)) else rmN op f (k + 1) V
noncomputable def rooms (op ou : Nat → Bool) : Nat := rmN op 400 0 (cl op (fun j => j < 400 ∧ ou j = true ∧ op j = true))
theorem rmN_le (op : Nat → Bool) : ∀ f k V, rmN op f k V ≤ f := by
  intro f
  induction f with
  | zero => intro k V; exact Nat.le_refl _
  | succ f ih =>
    intro k V
    rw [rmN]
    split
    · have := ih (k + 1) (cl op (fun j => V j ∨ j = k)); omega
    · have := ih (k + 1) V; omega
theorem cl_clo (op : Nat → Bool) (V : Nat → Prop) : clo op (cl op V) := by
  intro k e z h1 h2 h3 h4 C h5 h6
  exact h6 k e z (h1 C h5 h6) h2 h3 h4
theorem cl_sub {op : Nat → Bool} {V : Nat → Prop} {k : Nat} (h : V k) : cl op V k := fun C h1 _ => h1 k h
theorem vis_eq {s t : BS} {op : Nat → Bool} (h : ∀ z, vis t z ↔ cl op (vis s) z) : vis t = cl op (vis s) := funext fun z => propext (h z)
/-- nobody waits -/
def shut (op : Nat → Bool) (s : BS) : Prop := clo op (vis s)
theorem ok_countRooms {p : Nat} (hT : TR M σ) (hW : WF σ) (hp : p < sN σ) (h : ∀ M', PF M M' → Q (some (J (rooms (opn σ (wo (sL σ) (2 ^ p)) (sS σ p)) (oun σ (sS σ p)) : Nat))) M') : Mt (d + 5) mX2_countRooms [.ref 2, .int (J (p : Int))] M Q := by
  have hl := hW.L
  refine e_X2_countRooms (ok_lyingBeside hT hW hp (ri_some (ok_survey hT hW hp (wo_lt (by omega)) (fun M1 hS => rn_none ?_))))
  have hO0 := hS.1
  have hU0 := hS.2.1
  have hPF0 := hS.PF
  have hC0 := hS.CB
  clear hS
  unfold rooms at h
  have key2 : ∀ f k : Nat, k + f = 400 → ∀ (M2 : Mem) (s : BS), CB M2 s → BI (opn σ (wo (sL σ) (2 ^ p)) (sS σ p)) s → QI s → shut (opn σ (wo (sL σ) (2 ^ p)) (sS σ p)) s → RF M1 M2 → ∀ n : Nat, n ≤ 400 → n + rmN (opn σ (wo (sL σ) (2 ^ p)) (sS σ p)) f k (vis s) = rmN (opn σ (wo (sL σ) (2 ^ p)) (sS σ p)) 400 0 (cl (opn σ (wo (sL σ) (2 ^ p)) (sS σ p)) (fun j => j < 400 ∧ oun σ (sS σ p) j = true ∧ opn σ (wo (sL σ) (2 ^ p)) (sS σ p) j = true)) → R none (d + 5) mX2_countRooms 54 [.ref 2, .null, .int (J (n : Int)), .int (J (k : Int)), .null] [] M2 Q := by
    intro f
    induction f with
    | zero =>
      intro k hk M2 s hC hB hQ hsh hF n hn he
      refine b_X2_countRooms_54 ⟨fun _ => ?_, fun q => ?_⟩
      · have := h M2 (hPF0.tr hF.PF)
        rw [← he] at this
        exact this
      · simp (disch := omega) only [J_add, J_sub, J_mul, J_neg, J_bit, J_shl, J_shr, J_andn, J_and, J_or, J_xor, J_div, J_rem, J_lt, J_le, J_eq, J_lt0, J_le0, J_0le, J_0lt, J_eq0, vp_in_J, J_clamp, J_max, J_abs, Int.toNat_natCast, Int.reduceToNat, Int.reduceAdd, Int.reduceSub, Int.reduceMul, Int.reduceNeg, not_true_eq_false, not_false_eq_true] at q; omega
    | succ f ih =>
      intro k hk M2 s hC hB hQ hsh hF n hn he
      have hle := rmN_le (opn σ (wo (sL σ) (2 ^ p)) (sS σ p)) 400 0 (cl (opn σ (wo (sL σ) (2 ^ p)) (sS σ p)) (fun j => j < 400 ∧ oun σ (sS σ p) j = true ∧ opn σ (wo (sL σ) (2 ^ p)) (sS σ p) j = true))
      refine b_X2_countRooms_54 ⟨fun q => ?_, fun _ => ok_reach (n := 0) (hF.op hO0) hC hB hQ ⟨by omega, by omega⟩ (Nat.zero_le _) (fun M3 hC3 hF3 => rn_none ?_)⟩
      · simp (disch := omega) only [J_add, J_sub, J_mul, J_neg, J_bit, J_shl, J_shr, J_andn, J_and, J_or, J_xor, J_div, J_rem, J_lt, J_le, J_eq, J_lt0, J_le0, J_0le, J_0lt, J_eq0, vp_in_J, J_clamp, J_max, J_abs, Int.toNat_natCast, Int.reduceToNat, Int.reduceAdd, Int.reduceSub, Int.reduceMul, Int.reduceNeg, not_true_eq_false, not_false_eq_true] at q; omega
      · have hl1 := hB.len
        rw [hC.2.1, hC3.2.1]
        rcases rch_or (opn σ (wo (sL σ) (2 ^ p)) (sS σ p)) s (k : Int) 0 with e | ⟨z, h1, h2, h3, h4, h5⟩
        · rw [e] at hC3 ⊢
          have hnv : ¬ (opn σ (wo (sL σ) (2 ^ p)) (sS σ p) k = true ∧ ¬ vis s k) := by
            rintro ⟨g1, g2⟩
            have g3 : vis (rch (opn σ (wo (sL σ) (2 ^ p)) (sS σ p)) s (k : Int) 0) k := rch_vis.mpr (Or.inr ⟨rfl, by omega, g1⟩)
            rw [e] at g3
            exact g2 g3
          rw [rmN, if_neg (by rw [pb_t]; exact hnv)] at he
          refine ⟨fun _ => ?_, fun q => ?_⟩
          · rw [J_suc]
            exact ih (k + 1) (by omega) M3 s hC3 hB hQ hsh (hF.tr hF3) n hn he
          · simp (disch := omega) only [J_add, J_sub, J_mul, J_neg, J_bit, J_shl, J_shr, J_andn, J_and, J_or, J_xor, J_div, J_rem, J_lt, J_le, J_eq, J_lt0, J_le0, J_0le, J_0lt, J_eq0, vp_in_J, J_clamp, J_max, J_abs, Int.toNat_natCast, Int.reduceToNat, Int.reduceAdd, Int.reduceSub, Int.reduceMul, Int.reduceNeg, not_true_eq_false, not_false_eq_true] at q; omega
        · have hz : z = k := by omega
          subst hz
          have hB3 := rch_BI (z := (z : Int)) (n := 0) hB (Nat.zero_le _)
          have hQ3 : QI (rch (opn σ (wo (sL σ) (2 ^ p)) (sS σ p)) s (z : Int) 0) := rch_QI hQ
          have hv : vis (rch (opn σ (wo (sL σ) (2 ^ p)) (sS σ p)) s (z : Int) 0) = fun j => vis s j ∨ j = z := by
            funext j
            apply propext
            rw [rch_vis]
            constructor
            · rintro (q | ⟨q1, -, -⟩)
              · exact Or.inl q
              · right; omega
            · rintro (q | q)
              · exact Or.inl q
              · subst q; exact Or.inr ⟨rfl, h2, h3⟩
          have hpb : opn σ (wo (sL σ) (2 ^ p)) (sS σ p) z = true ∧ ¬ vis s z := ⟨h3, fun ⟨m, hm⟩ => by rw [h4] at hm; cases hm⟩
          rw [rmN, if_pos (pb_t.mpr hpb)] at he
          have hlen : (rch (opn σ (wo (sL σ) (2 ^ p)) (sS σ p)) s (z : Int) 0).2.length = s.2.length + 1 := by rw [h5]; simp
          have hat : (rch (opn σ (wo (sL σ) (2 ^ p)) (sS σ p)) s (z : Int) 0).2[s.2.length]? = some z := by rw [h5]; simp
          have hF1 : FI (opn σ (wo (sL σ) (2 ^ p)) (sS σ p)) (rch (opn σ (wo (sL σ) (2 ^ p)) (sS σ p)) s (z : Int) 0) s.2.length := by
            intro j hj
            rw [hv] at hj
            rcases hj with hj | hj
            · right
              intro e y g1 g2 g3
              rw [hv]
              exact Or.inl (hsh j e y hj g1 g2 g3)
            · left
              subst hj
              exact ⟨s.2.length, Nat.le_refl _, hat⟩
          have hcl := vis_eq (spr_cl (401 - s.2.length) s.2.length hB3 hF1 (by omega))
          have hB3l := hB3.len
          rw [hlen] at hB3l ⊢
          refine ⟨fun q => ?_, fun _ => ok_spreadFrom (i0 := s.2.length) ((hF.tr hF3).op hO0) hC3 hB3 hQ3 hl1 (fun M4 hC4 hF4 => rn_none ?_)⟩
          · simp (disch := omega) only [J_add, J_sub, J_mul, J_neg, J_bit, J_shl, J_shr, J_andn, J_and, J_or, J_xor, J_div, J_rem, J_lt, J_le, J_eq, J_lt0, J_le0, J_0le, J_0lt, J_eq0, vp_in_J, J_clamp, J_max, J_abs, Int.toNat_natCast, Int.reduceToNat, Int.reduceAdd, Int.reduceSub, Int.reduceMul, Int.reduceNeg, not_true_eq_false, not_false_eq_true] at q; omega
          · rw [J_suc, J_suc]
            refine ih (z + 1) (by omega) M4 _ hC4 (spr_BI _ _ hB3) (spr_QI _ _ hQ3) ?_ ((hF.tr hF3).tr hF4) (n + 1) (by omega) ?_
            · unfold shut; rw [hcl]; exact cl_clo _ _
            · rw [hcl, hv]; omega
  have key1 : ∀ f k : Nat, k + f = 400 → ∀ (M2 : Mem) (s : BS), CB M2 s → BI (opn σ (wo (sL σ) (2 ^ p)) (sS σ p)) s → QI s → RF M1 M2 → (∀ j, vis s j ↔ j < k ∧ oun σ (sS σ p) j = true ∧ opn σ (wo (sL σ) (2 ^ p)) (sS σ p) j = true) → R none (d + 5) mX2_countRooms 15 [.ref 2, .null, .int (J (k : Int)), .null, .null] [] M2 Q := by
    intro f
    induction f with
    | zero =>
      intro k hk M2 s hC hB hQ hF hv
      refine b_X2_countRooms_15 ⟨fun _ => ok_spreadFrom (i0 := 0) (hF.op hO0) hC hB hQ (by omega) (fun M3 hC3 hF3 => rn_none ?_), fun q => ?_⟩
      · have hF1 : FI (opn σ (wo (sL σ) (2 ^ p)) (sS σ p)) s 0 := by
          intro j hj
          obtain ⟨m, hm⟩ := hj
          obtain ⟨i, hi⟩ := List.getElem?_of_mem (hQ j m hm)
          exact Or.inl ⟨i, Nat.zero_le _, hi⟩
        have hcl := vis_eq (spr_cl 401 0 hB hF1 (by omega))
        have hv2 : vis s = fun j => j < 400 ∧ oun σ (sS σ p) j = true ∧ opn σ (wo (sL σ) (2 ^ p)) (sS σ p) j = true := by
          funext j
          rw [show k = 400 by omega] at hv
          exact propext (hv j)
        refine key2 400 0 (by omega) M3 _ hC3 (spr_BI _ _ hB) (spr_QI _ _ hQ) ?_ (hF.tr hF3) 0 (by omega) ?_
        · unfold shut; rw [hcl]; exact cl_clo _ _
        · rw [hcl, hv2]; omega
      · simp (disch := omega) only [J_add, J_sub, J_mul, J_neg, J_bit, J_shl, J_shr, J_andn, J_and, J_or, J_xor, J_div, J_rem, J_lt, J_le, J_eq, J_lt0, J_le0, J_0le, J_0lt, J_eq0, vp_in_J, J_clamp, J_max, J_abs, Int.toNat_natCast, Int.reduceToNat, Int.reduceAdd, Int.reduceSub, Int.reduceMul, Int.reduceNeg, not_true_eq_false, not_false_eq_true] at q; omega
    | succ f ih =>
      intro k hk M2 s hC hB hQ hF hv
      refine b_X2_countRooms_15 ⟨fun q => ?_, fun _ => ok_markedU (σ := σ) (s := sS σ p) (by omega) (hF.ou hU0) (ri_some ?_)⟩
      · simp (disch := omega) only [J_add, J_sub, J_mul, J_neg, J_bit, J_shl, J_shr, J_andn, J_and, J_or, J_xor, J_div, J_rem, J_lt, J_le, J_eq, J_lt0, J_le0, J_0le, J_0lt, J_eq0, vp_in_J, J_clamp, J_max, J_abs, Int.toNat_natCast, Int.reduceToNat, Int.reduceAdd, Int.reduceSub, Int.reduceMul, Int.reduceNeg, not_true_eq_false, not_false_eq_true] at q; omega
      · rw [jb_eq0, J_suc]
        refine ⟨fun q => ?_, fun q => ok_reach (n := 0) (hF.op hO0) hC hB hQ ⟨by omega, by omega⟩ (Nat.zero_le _) (fun M3 hC3 hF3 => rn_none ?_)⟩
        · refine ih (k + 1) (by omega) M2 s hC hB hQ hF (fun j => ?_)
          rw [hv]
          constructor
          · rintro ⟨g1, g2⟩; exact ⟨by omega, g2⟩
          · rintro ⟨g1, g2, g3⟩
            refine ⟨?_, g2, g3⟩
            have : j ≠ k := fun e => by rw [e, q] at g2; cases g2
            omega
        · rw [Bool.not_eq_false] at q
          refine ih (k + 1) (by omega) M3 _ hC3 (rch_BI hB (Nat.zero_le _)) (rch_QI hQ) (hF.tr hF3) (fun j => ?_)
          rw [rch_vis, hv]
          constructor
          · rintro (⟨g1, g2⟩ | ⟨g1, g2, g3⟩)
            · exact ⟨by omega, g2⟩
            · have : j = k := by omega
              subst this
              exact ⟨by omega, q, g3⟩
          · rintro ⟨g1, g2, g3⟩
            by_cases e : j = k
            · subst e; exact Or.inr ⟨rfl, by omega, g3⟩
            · exact Or.inl ⟨by omega, g2, g3⟩
  exact key1 400 0 (by omega) M1 s0 hC0 (s0_BI _) s0_QI RF.rf (fun j => ⟨fun ⟨m, hm⟩ => (by cases hm), fun g => (by omega)⟩)
end ROOMS
