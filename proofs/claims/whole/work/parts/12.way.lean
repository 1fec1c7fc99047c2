/-! the way: its steps -/
def dz (s : BS) (z : Int) : Int := if 0 ≤ z then dI (s.1 z.toNat) else -4
def dirTo (s : BS) (k n : Nat) : Nat := if dz s (nb k 0) = (n : Int) then 0 else if dz s (nb k 1) = (n : Int) then 1 else if dz s (nb k 2) = (n : Int) then 2 else 3
def pk (s : BS) (k n : Nat) : Nat → Nat
  | 0 => k
  | i + 1 => (nb (pk s k n i) (dirTo s (pk s k n i) (n - i - 1) : Nat)).toNat
theorem dz_some {s : BS} {z : Int} {n : Nat} (h : dz s z = (n : Int)) : 0 ≤ z ∧ s.1 z.toNat = some n := by
  unfold dz at h
  split at h
  · next hz =>
    refine ⟨hz, ?_⟩
    cases hd : s.1 z.toNat with
    | none => rw [hd] at h; unfold dI at h; dsimp only at h; omega
    | some m =>
      rw [hd] at h
      have : m = n := by unfold dI at h; dsimp only at h; omega
      rw [this]
  · omega
theorem dirTo_ok {s : BS} (hP : PI s) {k n : Nat} (h : s.1 k = some (n + 1)) : 0 ≤ nb k (dirTo s k n : Nat) ∧ s.1 (nb k (dirTo s k n : Nat)).toNat = some n := by
  obtain ⟨e, z, h1, h2, h3⟩ := hP k n h
  have hz : dz s (nb k e) = (n : Int) := by
    unfold dz
    rw [if_pos (by omega), h2, Int.toNat_natCast, h3]; rfl
  unfold dirTo
  split
  · next q => exact dz_some q
  · next q0 =>
    split
    · next q => exact dz_some q
    · next q1 =>
      split
      · next q => exact dz_some q
      · next q2 =>
        have : e = 3 := by
          rcases (show e = 0 ∨ e = 1 ∨ e = 2 ∨ e = 3 by omega) with r | r | r | r
          · subst r; exact absurd hz q0
          · subst r; exact absurd hz q1
          · subst r; exact absurd hz q2
          · exact r
        subst this
        exact dz_some hz
theorem pk_ok {s : BS} (hP : PI s) {k n : Nat} (h : s.1 k = some n) : ∀ i, i ≤ n → s.1 (pk s k n i) = some (n - i) := by
  intro i
  induction i with
  | zero => intro _; exact h
  | succ i ih =>
    intro hi
    have h1 := ih (by omega)
    rw [show n - i = (n - i - 1) + 1 by omega] at h1
    have h2 := (dirTo_ok hP h1).2
    rw [pk, h2]; rfl
theorem dirTo_lt (s : BS) (k n : Nat) : dirTo s k n ≤ 3 := by
  unfold dirTo
  split
  · omega
  · split
    · omega
    · split <;> omega
/-- what keepSteps leaves -/
def KF (M M' : Mem) : Prop := ∀ a j, a ≠ 9 → a ≠ 10 → a ≠ 11 → a ≠ 12 → a ≠ 13 → a ≠ 14 → (a ≠ 2 ∨ (j ≠ 6 ∧ j ≠ 8)) → M' a j = M a j
section WAY
variable {d : Nat} {M : Mem} {Q : Post} {σ : St} {s : BS}
theorem ok_dz {z : Int} (hC : CB M s) (hz : z = -4 ∨ (0 ≤ z ∧ z < 400)) (h : Q (some (J (dz s z))) M) : Mt (d + 1) mX2_distanceOf [.ref 2, .int (J z)] M Q := by
  rcases hz with rfl | hz
  · exact ok_distanceOf_n h
  · obtain ⟨k, rfl⟩ := J_nat hz.1
    refine ok_distanceOf hC (by omega) ?_
    unfold dz at h
    rw [if_pos (by omega), Int.toNat_natCast] at h
    exact h
theorem dz_b {op : Nat → Bool} (hB : BI op s) (hQ : QI s) (z : Int) : -4 ≤ dz s z ∧ dz s z < 400 := by
  unfold dz
  split
  · cases hd : s.1 z.toNat with
    | none => unfold dI; dsimp only; omega
    | some n =>
      have := bnd hB hQ hd
      unfold dI; dsimp only; omega
  · omega
theorem ok_directionTo {op : Nat → Bool} {k n : Nat} (hC : CB M s) (hB : BI op s) (hQ : QI s) (hk : k < 400) (hn : n < 400) (h : Q (some (J (dirTo s k n : Nat))) M) : Mt (d + 3) mX2_directionTo [.ref 2, .int (J (k : Int)), .int (J (n : Int))] M Q := by
  refine e_X2_directionTo ?_
  have b0 := dz_b hB hQ (nb k 0)
  have b1 := dz_b hB hQ (nb k 1)
  have b2 := dz_b hB hQ (nb k 2)
  unfold dirTo at h
  have st : ∀ e : Int, 0 ≤ e → e < 3 → (dz s (nb k e) = (n : Int) → Q (some (J e)) M) → (dz s (nb k e) ≠ (n : Int) → R none (d + 3) mX2_directionTo 2 [.ref 2, .int (J (k : Int)), .int (J (n : Int)), .int (J (e + 1))] [] M Q) → R none (d + 3) mX2_directionTo 2 [.ref 2, .int (J (k : Int)), .int (J (n : Int)), .int (J e)] [] M Q := by
    intro e he1 he2 q1 q2
    have b := dz_b hB hQ (nb k e)
    refine b_X2_directionTo_2 ⟨fun c => ?_, fun _ => ok_beside hk ⟨he1, by omega⟩ (ri_some (ok_dz hC (nb_range k e) (ri_some ?_)))⟩
    · simp (disch := omega) only [J_add, J_sub, J_mul, J_neg, J_bit, J_shl, J_shr, J_andn, J_and, J_or, J_xor, J_div, J_rem, J_lt, J_le, J_eq, J_lt0, J_le0, J_0le, J_0lt, J_eq0, vp_in_J, J_clamp, J_max, J_abs, Int.toNat_natCast, Int.reduceToNat, Int.reduceAdd, Int.reduceSub, Int.reduceMul, Int.reduceNeg, not_true_eq_false, not_false_eq_true] at c; omega
    · rw [J_add, J_eq (by omega) (by omega) (by omega) (by omega)]
      exact ⟨q2, q1⟩
  refine st 0 (by omega) (by omega) (fun q => by rw [if_pos q] at h; exact h) (fun q0 => ?_)
  rw [if_neg q0] at h
  refine st 1 (by omega) (by omega) (fun q => by rw [if_pos q] at h; exact h) (fun q1 => ?_)
  rw [if_neg q1] at h
  refine st 2 (by omega) (by omega) (fun q => by rw [if_pos q] at h; exact h) (fun q2 => ?_)
  rw [if_neg q2] at h
  refine b_X2_directionTo_2 ⟨fun _ => h, fun c => ?_⟩
  simp (disch := omega) only [J_add, J_sub, J_mul, J_neg, J_bit, J_shl, J_shr, J_andn, J_and, J_or, J_xor, J_div, J_rem, J_lt, J_le, J_eq, J_lt0, J_le0, J_0le, J_0lt, J_eq0, vp_in_J, J_clamp, J_max, J_abs, Int.toNat_natCast, Int.reduceToNat, Int.reduceAdd, Int.reduceSub, Int.reduceMul, Int.reduceNeg, not_true_eq_false, not_false_eq_true] at c; omega
theorem ok_keepSteps {op : Nat → Bool} {k n : Nat} (hC : CB M s) (hB : BI op s) (hQ : QI s) (hP : PI s) (hk : s.1 k = some n) (hk4 : k < 400) (h : ∀ M', M' 2 8 = J (n : Int) → (∀ i, i < n → M' 14 i = J (dirTo s (pk s k n i) (n - i - 1) : Nat)) → (∀ a j, a ≠ 14 → (a ≠ 2 ∨ j ≠ 8) → M' a j = M a j) → Q none M') : Mt (d + 4) mX2_keepSteps [.ref 2, .int (J (k : Int)), .int (J (n : Int))] M Q := by
  have hn := bnd hB hQ hk
  refine e_X2_keepSteps ?_
  have key : ∀ f i : Nat, i + f = n → ∀ M1 : Mem, M1 2 8 = J (n : Int) → (∀ j, j < i → M1 14 j = J (dirTo s (pk s k n j) (n - j - 1) : Nat)) → (∀ a j, a ≠ 14 → (a ≠ 2 ∨ j ≠ 8) → M1 a j = M a j) → R none (d + 4) mX2_keepSteps 10 [.ref 2, .null, .int (J (n : Int)), .int (J (pk s k n i : Nat)), .int (J (i : Int)), .null] [] M1 Q := by
    intro f
    induction f with
    | zero =>
      intro i hi M1 g1 g2 g3
      refine b_X2_keepSteps_10 ⟨fun _ => h M1 g1 (fun j hj => g2 j (by omega)) g3, fun c => ?_⟩
      simp (disch := omega) only [J_add, J_sub, J_mul, J_neg, J_bit, J_shl, J_shr, J_andn, J_and, J_or, J_xor, J_div, J_rem, J_lt, J_le, J_eq, J_lt0, J_le0, J_0le, J_0lt, J_eq0, vp_in_J, J_clamp, J_max, J_abs, Int.toNat_natCast, Int.reduceToNat, Int.reduceAdd, Int.reduceSub, Int.reduceMul, Int.reduceNeg, not_true_eq_false, not_false_eq_true] at c; omega
    | succ f ih =>
      intro i hi M1 g1 g2 g3
      have hC1 : CB M1 s := ⟨fun j hj => by rw [g3 12 j (by decide) (Or.inl (by decide))]; exact hC.1 j hj, by rw [g3 2 6 (by decide) (Or.inr (by decide))]; exact hC.2.1, fun i j hi => by rw [g3 13 i (by decide) (Or.inl (by decide))]; exact hC.2.2 i j hi⟩
      have hpi := pk_ok hP hk i (by omega)
      have hpl : pk s k n i < 400 := (hB.2.1 _ (hQ _ _ hpi)).1
      rw [show n - i = (n - i - 1) + 1 by omega] at hpi
      have hd := dirTo_ok hP hpi
      have hdl := dirTo_lt s (pk s k n i) (n - i - 1)
      refine b_X2_keepSteps_10 ⟨fun c => ?_, fun _ => ⟨fun c => ?_, fun _ => ?_⟩⟩
      · simp (disch := omega) only [J_add, J_sub, J_mul, J_neg, J_bit, J_shl, J_shr, J_andn, J_and, J_or, J_xor, J_div, J_rem, J_lt, J_le, J_eq, J_lt0, J_le0, J_0le, J_0lt, J_eq0, vp_in_J, J_clamp, J_max, J_abs, Int.toNat_natCast, Int.reduceToNat, Int.reduceAdd, Int.reduceSub, Int.reduceMul, Int.reduceNeg, not_true_eq_false, not_false_eq_true] at c; omega
      · simp (disch := omega) only [J_add, J_sub, J_mul, J_neg, J_bit, J_shl, J_shr, J_andn, J_and, J_or, J_xor, J_div, J_rem, J_lt, J_le, J_eq, J_lt0, J_le0, J_0le, J_0lt, J_eq0, vp_in_J, J_clamp, J_max, J_abs, Int.toNat_natCast, Int.reduceToNat, Int.reduceAdd, Int.reduceSub, Int.reduceMul, Int.reduceNeg, not_true_eq_false, not_false_eq_true] at c; omega
      · rw [J_sub, J_sub, show (n : Int) - i - 1 = ((n - i - 1 : Nat) : Int) by omega]
        refine ok_directionTo hC1 hB hQ hpl (by omega) (ri_some ⟨vin (by omega) (by omega), ?_⟩)
        rw [nI2 (by omega)]
        refine ok_beside hpl ⟨by omega, by omega⟩ (ri_some ?_)
        rw [J_suc]
        obtain ⟨z, hz⟩ := J_nat hd.1
        have ih2 := ih (i + 1) (by omega) (mset M1 14 i (J (dirTo s (pk s k n i) (n - i - 1) : Nat))) (by rw [mset_o (by decide)]; exact g1) (fun j hj => ?_) (fun a j h1 h2 => by rw [mset_o h1]; exact g3 a j h1 h2)
        · rw [pk, hz, Int.toNat_natCast] at ih2
          rw [hz]; exact ih2
        · by_cases e : j = i
          · subst e; rw [mset_self]
          · rw [mset_k e]; exact g2 j (by omega)
  exact key n 0 (by omega) _ mset_self (fun j hj => by omega) (fun a j h1 h2 => by
    rcases h2 with h2 | h2
    · rw [mset_o h2]
    · rw [mset_k h2])
/-- findWay: the steps, or none -/
theorem ok_findWay {p : Nat} {x y : Int} (hT : TR M σ) (hW : WF σ) (hp : (sL σ).testBit p = true) (hx : -6 ≤ x ∧ x ≤ 13) (hy : -6 ≤ y ∧ y ≤ 13)
    (h1 : ∀ M', PF M M' → (src (opn σ (wo (sL σ) (2 ^ p)) (sS σ p)) (plc x y)).1 (plc (sX σ p) (sY σ p)) = none → Q (some (J (-4))) M')
    (h2 : ∀ (n : Nat) M', (src (opn σ (wo (sL σ) (2 ^ p)) (sS σ p)) (plc x y)).1 (plc (sX σ p) (sY σ p)) = some n → n < 400 → KF M M' → M' 2 8 = J (n : Int) → (∀ i, i < n → M' 14 i = J (dirTo (src (opn σ (wo (sL σ) (2 ^ p)) (sS σ p)) (plc x y)) (pk (src (opn σ (wo (sL σ) (2 ^ p)) (sS σ p)) (plc x y)) (plc (sX σ p) (sY σ p)) n i) (n - i - 1) : Nat)) → Q (some (J (n : Int))) M') : Mt (d + 5) mX2_findWay [.ref 2, .int (J (p : Int)), .int (J x), .int (J y)] M Q := by
  have hl := hW.L
  have hxy := hW.P hp
  have hp2 := hW.lp hp
  generalize hs : src (opn σ (wo (sL σ) (2 ^ p)) (sS σ p)) (plc x y) = t at h1 h2
  have hB : BI (opn σ (wo (sL σ) (2 ^ p)) (sS σ p)) t := by rw [← hs]; exact src_BI _ _
  have hQ : QI t := by rw [← hs]; exact src_QI _ _
  have hP : PI t := by rw [← hs]; exact src_PI _ _
  refine e_X2_findWay (ok_lyingBeside hT hW hp2 (ri_some (ok_survey hT hW hp2 (wo_lt (by omega)) (fun M1 hS => rn_none (ok_placeAt hx hy (ri_some ?_))))))
  refine (ok_src (Q := rn fun M5 => Mt (d + 4) mX2_whereLies [.ref 2, .int (J (p : Int))] M5 (ri fun v3 M6 => Mt (d + 4) mX2_distanceOf [.ref 2, .int v3] M6 (ri fun v4 M7 => ((0 ≤ v4 → (Mt (d + 4) mX2_keepSteps [.ref 2, .int v3, .int v4] M7 (rn fun M8 => Q (some v4) M8))) ∧ (¬ 0 ≤ v4 → Q (some (J (-4))) M7))))) (d := d + 1) (plc_lt hx hy) hS.1 hS.CB (fun M2 hC hF => rn_none ?_)).mono (fun _ _ q => q)
  rw [hs] at hC
  have hPF := hS.PF.tr hF.PF
  refine ok_whereLies (hT.keep hPF.TK) hW hp (ri_some (ok_distanceOf hC (plc_lt hxy.1 hxy.2) (ri_some ?_)))
  cases hd : t.1 (plc (sX σ p) (sY σ p)) with
  | none =>
    refine ⟨fun c => ?_, fun _ => h1 M2 hPF hd⟩
    unfold dI at c
    simp (disch := omega) only [J_add, J_sub, J_mul, J_neg, J_bit, J_shl, J_shr, J_andn, J_and, J_or, J_xor, J_div, J_rem, J_lt, J_le, J_eq, J_lt0, J_le0, J_0le, J_0lt, J_eq0, vp_in_J, J_clamp, J_max, J_abs, Int.toNat_natCast, Int.reduceToNat, Int.reduceAdd, Int.reduceSub, Int.reduceMul, Int.reduceNeg, not_true_eq_false, not_false_eq_true] at c; omega
  | some n =>
    have hn := bnd hB hQ hd
    refine ⟨fun _ => ok_keepSteps hC hB hQ hP hd (plc_lt hxy.1 hxy.2) (fun M3 g1 g2 g3 => rn_none (h2 n M3 hd hn ?_ g1 g2)), fun c => ?_⟩
    · intro a j a1 a2 a3 a4 a5 a6 a7
      rw [g3 a j a6 (a7.imp id And.right)]
      exact hPF a j a1 a2 a3 a4 a5 (a7.imp id And.left)
    · unfold dI at c
      simp (disch := omega) only [J_add, J_sub, J_mul, J_neg, J_bit, J_shl, J_shr, J_andn, J_and, J_or, J_xor, J_div, J_rem, J_lt, J_le, J_eq, J_lt0, J_le0, J_0le, J_0lt, J_eq0, vp_in_J, J_clamp, J_max, J_abs, Int.toNat_natCast, Int.reduceToNat, Int.reduceAdd, Int.reduceSub, Int.reduceMul, Int.reduceNeg, not_true_eq_false, not_false_eq_true] at c; omega
end WAY
