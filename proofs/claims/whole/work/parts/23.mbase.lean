/-! the reference: how it keeps what is, and its small methods -/
def MT (M : Mem) (σ : St) : Prop := M 18 0 = J (sC σ) ∧ M 18 1 = J (sR σ) ∧ M 18 3 = J (sN σ : Int) ∧ (∀ y, y < 10 → M 19 y = J (sW σ y : Int)) ∧ (∀ p, p < sN σ → M 20 p = J (sS σ p : Int) ∧ M 21 p = J (wideN (sS σ p) : Int) ∧ M 22 p = J (tallN (sS σ p) : Int)) ∧ (∀ p, p < 8 → M 23 p = jb ((sL σ).testBit p)) ∧ ∀ p, (sL σ).testBit p = true → M 24 p = J (sX σ p) ∧ M 25 p = J (sY σ p)
def MS (M : Mem) (S : SS) : Prop := (M 18 10 = J (S.2.1 : Int) ∨ (M 18 10 = J (-1) ∧ S.2.1 = 0)) ∧ ∀ i, i < S.2.1 → M 26 i = J (S.2.2 i)
def MR (M : Mem) (S : SS) : Prop := MT M S.1 ∧ MS M S
/-- the class's cells are as they were -/
def NF (M M' : Mem) : Prop := ∀ a j, a < 18 → M' a j = M a j
/-- and of the reference's, all but the rows it counts with -/
def QF (M M' : Mem) : Prop := ∀ a j, a < 27 → M' a j = M a j
theorem QF.rf {M : Mem} : QF M M := fun _ _ _ => rfl
theorem QF.tr {M M1 M2 : Mem} (h : QF M M1) (g : QF M1 M2) : QF M M2 := fun a j q => (g a j q).trans (h a j q)
theorem QF.NF {M M' : Mem} (h : QF M M') : NF M M' := fun a j q => h a j (by omega)
theorem QF.set {M M1 : Mem} (h : QF M M1) {o k : Nat} {v : Int32} (ho : 27 ≤ o) : QF M (mset M1 o k v) := fun a j q => by rw [mset_o (by omega)]; exact h a j q
theorem NF.set {M M1 : Mem} (h : NF M M1) {o k : Nat} {v : Int32} (ho : 18 ≤ o) : NF M (mset M1 o k v) := fun a j q => by rw [mset_o (by omega)]; exact h a j q
theorem NF.rf {M : Mem} : NF M M := fun _ _ _ => rfl
theorem NF.tr {M M1 M2 : Mem} (h : NF M M1) (g : NF M1 M2) : NF M M2 := fun a j q => (g a j q).trans (h a j q)
theorem MT.keep {M M' : Mem} {σ : St} (h : MT M σ) (g : QF M M') : MT M' σ := by
  obtain ⟨t1, t2, t3, t4, t5, t6, t7⟩ := h
  refine ⟨by rw [g _ _ (by decide)]; exact t1, by rw [g _ _ (by decide)]; exact t2, by rw [g _ _ (by decide)]; exact t3, fun y hy => by rw [g _ _ (by decide)]; exact t4 y hy, fun p hp => ?_, fun p hp => by rw [g _ _ (by decide)]; exact t6 p hp, fun p hp => ?_⟩
  · rw [g _ _ (by decide), g _ _ (by decide), g _ _ (by decide)]; exact t5 p hp
  · rw [g _ _ (by decide), g _ _ (by decide)]; exact t7 p hp
theorem MR.keep {M M' : Mem} {S : SS} (h : MR M S) (g : QF M M') : MR M' S := ⟨h.1.keep g, by rw [g _ _ (by decide)]; exact h.2.1, fun i hi => by rw [g _ _ (by decide)]; exact h.2.2 i hi⟩
theorem J_m5 {n : Nat} (h : n < 2147483648) : J (n : Int) - J (n : Int) / (J 5) * (J 5) = J ((n % 5 : Nat) : Int) := J_remN (m := 5) h (by omega) (by omega)
theorem J_d5 {n : Nat} (h : n < 2147483648) : J (n : Int) / (J 5) = J ((n / 5 : Nat) : Int) := J_quo (m := 5) h (by omega) (by omega)
theorem J_m20 {n : Nat} (h : n < 2147483648) : J (n : Int) - J (n : Int) / (J 20) * (J 20) = J ((n % 20 : Nat) : Int) := J_remN (m := 20) h (by omega) (by omega)
theorem J_d20 {n : Nat} (h : n < 2147483648) : J (n : Int) / (J 20) = J ((n / 20 : Nat) : Int) := J_quo (m := 20) h (by omega) (by omega)
theorem J_a0 (z : Int) : J z + J 0 = J z := by rw [J_add, Int.add_zero]
section MB
variable {d : Nat} {M : Mem} {Q : Post} {σ : St}
theorem r_in {z a b : Int} (hz : BI32 z) (ha : BI32 a) (hb : BI32 b) (h : Q (some (jb (decide (a ≤ z ∧ z ≤ b)))) M) : Mt (d + 1) mX5_in [.int (J z), .int (J a), .int (J b)] M Q := by
  obtain ⟨z1, z2⟩ := hz
  obtain ⟨a1, a2⟩ := ha
  obtain ⟨b1, b2⟩ := hb
  refine e_X5_in ⟨fun c => ?_, fun c => ⟨fun c2 => ?_, fun c2 => ?_⟩⟩
  · simp (disch := omega) only [J_add, J_sub, J_mul, J_neg, J_bit, J_shl, J_shr, J_andn, J_and, J_or, J_xor, J_div, J_rem, J_lt, J_le, J_eq, J_lt0, J_le0, J_0le, J_0lt, J_eq0, vp_in_J, J_clamp, J_max, J_abs, Int.toNat_natCast, Int.reduceToNat, Int.reduceAdd, Int.reduceSub, Int.reduceMul, Int.reduceNeg, not_true_eq_false, not_false_eq_true] at c; rw [decide_eq_false (by omega)] at h; exact h
  · simp (disch := omega) only [J_add, J_sub, J_mul, J_neg, J_bit, J_shl, J_shr, J_andn, J_and, J_or, J_xor, J_div, J_rem, J_lt, J_le, J_eq, J_lt0, J_le0, J_0le, J_0lt, J_eq0, vp_in_J, J_clamp, J_max, J_abs, Int.toNat_natCast, Int.reduceToNat, Int.reduceAdd, Int.reduceSub, Int.reduceMul, Int.reduceNeg, not_true_eq_false, not_false_eq_true] at c2; rw [decide_eq_false (by omega)] at h; exact h
  · simp (disch := omega) only [J_add, J_sub, J_mul, J_neg, J_bit, J_shl, J_shr, J_andn, J_and, J_or, J_xor, J_div, J_rem, J_lt, J_le, J_eq, J_lt0, J_le0, J_0le, J_0lt, J_eq0, vp_in_J, J_clamp, J_max, J_abs, Int.toNat_natCast, Int.reduceToNat, Int.reduceAdd, Int.reduceSub, Int.reduceMul, Int.reduceNeg, not_true_eq_false, not_false_eq_true] at c c2; rw [decide_eq_true (by omega)] at h; exact h
theorem b32 {z : Int} (h1 : -2147483648 ≤ z) (h2 : z < 2147483648) : BI32 z := ⟨h1, h2⟩
theorem r_isPiece {z : Int} (hT : MT M σ) (hW : WF σ) (hz : BI32 z) (h : Q (some (jb (isPc σ z))) M) : Mt (d + 2) mX5_isPiece [.ref 18, .int (J z)] M Q := by
  have hN := hW.N
  refine e_X5_isPiece ?_
  rw [hT.2.2.1, J_sub]
  refine r_in hz (b32 (by omega) (by omega)) (b32 (by omega) (by omega)) (ri_some ⟨jb_zo _, ?_⟩)
  rw [show isPc σ z = decide (0 ≤ z ∧ z ≤ (sN σ : Int) - 1) from decide_eq_decide.mpr (by omega)] at h
  exact h
theorem r_isSpot {x y : Int} (hx : BI32 x) (hy : BI32 y) (h : Q (some (jb (decide ((-6 ≤ x ∧ x ≤ 13) ∧ (-6 ≤ y ∧ y ≤ 13))))) M) : Mt (d + 2) mX5_isSpot [.int (J x), .int (J y)] M Q := by
  refine e_X5_isSpot (r_in hx (b32 (by omega) (by omega)) (b32 (by omega) (by omega)) (ri_some ?_))
  rw [jb_ne, jb_eq0]
  refine ⟨fun c => ?_, fun c => r_in hy (b32 (by omega) (by omega)) (b32 (by omega) (by omega)) (ri_some ?_)⟩
  · have := of_decide_eq_false c
    rw [decide_eq_false (by omega)] at h; exact h
  · have := of_decide_eq_true c
    rw [jb_ne, jb_eq0]
    refine ⟨fun c2 => ?_, fun c2 => ?_⟩
    · have := of_decide_eq_false c2
      rw [decide_eq_false (by omega)] at h; exact h
    · have := of_decide_eq_true c2
      rw [decide_eq_true (by omega)] at h; exact h
theorem r_isOnBoard {x y : Int} (hT : MT M σ) (hW : WF σ) (hx : BI32 x) (hy : BI32 y) (h : Q (some (jb (pb (onB σ x y)))) M) : Mt (d + 2) mX5_isOnBoard [.ref 18, .int (J x), .int (J y)] M Q := by
  have hC := hW.C
  have hR := hW.R
  refine e_X5_isOnBoard ?_
  rw [hT.1, J_sub]
  refine r_in hx (b32 (by omega) (by omega)) (b32 (by omega) (by omega)) (ri_some ?_)
  rw [hT.2.1, J_sub, jb_ne, jb_eq0]
  refine ⟨fun c => ?_, fun c => r_in hy (b32 (by omega) (by omega)) (b32 (by omega) (by omega)) (ri_some ?_)⟩
  · have := of_decide_eq_false c
    rw [pb_f.mpr (fun g => this ⟨g.1.1, by have := g.1.2; omega⟩)] at h; exact h
  · have := of_decide_eq_true c
    rw [jb_ne, jb_eq0]
    refine ⟨fun c2 => ?_, fun c2 => ?_⟩
    · have := of_decide_eq_false c2
      rw [pb_f.mpr (fun g => this ⟨g.2.1, by have := g.2.2; omega⟩)] at h; exact h
    · have := of_decide_eq_true c2
      rw [pb_t.mpr ⟨by omega, by omega⟩] at h; exact h
theorem r_has {p : Nat} {x y c r : Int} (hT : MT M σ) (hW : WF σ) (hp : p < sN σ) (hx : -1000 ≤ x ∧ x ≤ 1000) (hy : -1000 ≤ y ∧ y ≤ 1000) (hc : -1000 ≤ c ∧ c ≤ 1000) (hr : -1000 ≤ r ∧ r ≤ 1000) (h : Q (some (jb (sq (sS σ p) x y c r))) M) : Mt (d + 2) mX5_has [.ref 18, .int (J (p : Int)), .int (J x), .int (J y), .int (J c), .int (J r)] M Q := by
  have hN := hW.N
  have hs := hW.S hp
  refine e_X5_has ?_
  rw [J_sub, J_sub]
  refine r_in (b32 (by omega) (by omega)) (b32 (by omega) (by omega)) (b32 (by omega) (by omega)) (ri_some ?_)
  rw [jb_ne, jb_eq0]
  unfold sq at h
  refine ⟨fun c1 => ?_, fun c1 => r_in (b32 (by omega) (by omega)) (b32 (by omega) (by omega)) (b32 (by omega) (by omega)) (ri_some ?_)⟩
  · have := of_decide_eq_false c1
    rw [decide_eq_false (by omega), Bool.false_and] at h; exact h
  · have := of_decide_eq_true c1
    rw [jb_ne, jb_eq0]
    refine ⟨fun c2 => ?_, fun c2 => ⟨vin (by omega) (by omega), ?_⟩⟩
    · have := of_decide_eq_false c2
      rw [decide_eq_false (by omega), Bool.false_and] at h; exact h
    · have := of_decide_eq_true c2
      rw [decide_eq_true (by omega), Bool.true_and] at h
      rw [nI2 (by omega), (hT.2.2.2.2.1 p hp).1, J_mul, J_add, J_sub]
      obtain ⟨k, hk⟩ := J_nat (show 0 ≤ 5 * (r - y) + (c - x) by omega)
      rw [show 5 * (r - y) + c - x = (k : Int) by omega, J_tb (by omega) (by omega), jb_eq1]
      rw [hk, Int.toNat_natCast] at h
      refine ⟨fun c3 => ?_, fun c3 => ?_⟩
      · rw [Bool.not_eq_true] at c3; rw [c3] at h; exact h
      · rw [c3] at h; exact h
theorem sq_k {s : Nat} {x y : Int} {P : Int → Int → Prop} : (∀ c r, sq s x y c r = true → P c r) ↔ ∀ k : Nat, k < 25 → s.testBit k = true → P (x + ((k % 5 : Nat) : Int)) (y + ((k / 5 : Nat) : Int)) := by
  rw [sq_all]
  constructor
  · intro h k hk hb
    exact h (k / 5) (k % 5) (by omega) (by omega) (by rw [show 5 * (k / 5) + k % 5 = k by omega]; exact hb)
  · intro h r c hr hc hb
    have := h (5 * r + c) (by omega) hb
    rw [show (5 * r + c) % 5 = c by omega, show (5 * r + c) / 5 = r by omega] at this
    exact this
theorem sq_kk {s k : Nat} {x y : Int} (hk : k < 25) (hb : s.testBit k = true) : sq s x y (x + ((k % 5 : Nat) : Int)) (y + ((k / 5 : Nat) : Int)) = true := (sq_k (P := fun c r => sq s x y c r = true)).mp (fun _ _ h => h) k hk hb
theorem MT.lie {p : Nat} (hT : MT M σ) (hp : p < 8) : M 23 p = jb ((sL σ).testBit p) := hT.2.2.2.2.2.1 p hp
theorem MT.shp {p : Nat} (hT : MT M σ) (hp : p < sN σ) : M 20 p = J (sS σ p : Int) := (hT.2.2.2.2.1 p hp).1
theorem MT.px {p : Nat} (hT : MT M σ) (hp : (sL σ).testBit p = true) : M 24 p = J (sX σ p) := (hT.2.2.2.2.2.2 p hp).1
theorem MT.py {p : Nat} (hT : MT M σ) (hp : (sL σ).testBit p = true) : M 25 p = J (sY σ p) := (hT.2.2.2.2.2.2 p hp).2
theorem r_stand {p : Nat} {x y : Int} (hT : MT M σ) (hW : WF σ) (hp : p < sN σ) (hx : -6 ≤ x ∧ x ≤ 13) (hy : -6 ≤ y ∧ y ≤ 13) (h : Q (some (jb (pb (stP σ (oth σ p) (sS σ p) x y)))) M) : Mt (d + 3) mX5_stand [.ref 18, .int (J (p : Int)), .int (J x), .int (J y)] M Q := by
  have hN := hW.N
  have hs := hW.S hp
  have hC := hW.C
  have hR := hW.R
  have key : ∀ f k : Nat, k + f = 25 → (∀ j, j < k → (sS σ p).testBit j = true → ¬ blkd σ (oth σ p) (x + ((j % 5 : Nat) : Int)) (y + ((j / 5 : Nat) : Int))) → R none (d + 3) mX5_stand 3 [.ref 18, .int (J (p : Int)), .int (J x), .int (J y), .int (J (k : Int)), .null, .null, .null] [] M Q := by
    intro f
    induction f with
    | zero =>
      intro k hk hj
      refine b_X5_stand_3 ⟨fun _ => ?_, fun c => ?_⟩
      · rw [pb_t.mpr (show stP σ (oth σ p) (sS σ p) x y from sq_k.mpr (fun j h1 h2 => hj j (by omega) h2))] at h
        exact h
      · simp (disch := omega) only [J_add, J_sub, J_mul, J_neg, J_bit, J_shl, J_shr, J_andn, J_and, J_or, J_xor, J_div, J_rem, J_lt, J_le, J_eq, J_lt0, J_le0, J_0le, J_0lt, J_eq0, vp_in_J, J_clamp, J_max, J_abs, Int.toNat_natCast, Int.reduceToNat, Int.reduceAdd, Int.reduceSub, Int.reduceMul, Int.reduceNeg, not_true_eq_false, not_false_eq_true] at c; omega
    | succ f ih =>
      intro k hk hj
      have bad : (sS σ p).testBit k = true → blkd σ (oth σ p) (x + ((k % 5 : Nat) : Int)) (y + ((k / 5 : Nat) : Int)) → Q (some (J 0)) M := by
        intro h1 h2
        rw [pb_f.mpr (fun g => g _ _ (sq_kk (by omega) h1) h2)] at h
        exact h
      refine b_X5_stand_3 ⟨fun c => ?_, fun _ => ⟨vin (by omega) (by omega), ?_⟩⟩
      · simp (disch := omega) only [J_add, J_sub, J_mul, J_neg, J_bit, J_shl, J_shr, J_andn, J_and, J_or, J_xor, J_div, J_rem, J_lt, J_le, J_eq, J_lt0, J_le0, J_0le, J_0lt, J_eq0, vp_in_J, J_clamp, J_max, J_abs, Int.toNat_natCast, Int.reduceToNat, Int.reduceAdd, Int.reduceSub, Int.reduceMul, Int.reduceNeg, not_true_eq_false, not_false_eq_true] at c; omega
      · rw [nI2 (by omega), hT.shp hp, J_tb (by omega) (by omega), jb_eq1, J_suc, J_m5 (by omega), J_d5 (by omega), J_add, J_add]
        refine ⟨fun c => ih (k + 1) (by omega) (fun j h1 h2 => ?_), fun c => r_isOnBoard hT hW (b32 (by omega) (by omega)) (b32 (by omega) (by omega)) (ri_some ?_)⟩
        · by_cases e : j = k
          · subst e; exact absurd h2 c
          · exact hj j (by omega) h2
        · have inner : ¬ wallP σ (x + ((k % 5 : Nat) : Int)) (y + ((k / 5 : Nat) : Int)) → ∀ g o : Nat, o + g = sN σ → (∀ q, q < o → (oth σ p).testBit q = true → ¬ sq (sS σ q) (sX σ q) (sY σ q) (x + ((k % 5 : Nat) : Int)) (y + ((k / 5 : Nat) : Int)) = true) → R none (d + 3) mX5_stand 73 [.ref 18, .int (J (p : Int)), .int (J x), .int (J y), .int (J (k : Int)), .int (J (x + ((k % 5 : Nat) : Int))), .int (J (y + ((k / 5 : Nat) : Int))), .int (J (o : Int))] [] M Q := by
            intro hw g
            induction g with
            | zero =>
              intro o ho hq
              refine b_X5_stand_73 ⟨fun _ => ?_, fun c2 => ?_⟩
              · rw [J_suc]
                refine ih (k + 1) (by omega) (fun j h1 h2 => ?_)
                by_cases e : j = k
                · subst e
                  rintro (h3 | ⟨q, h3, h4, h5⟩)
                  · exact hw h3
                  · exact hq q (by have := hW.lp h4; omega) h3 h5
                · exact hj j (by omega) h2
              · rw [hT.2.2.1] at c2
                simp (disch := omega) only [J_add, J_sub, J_mul, J_neg, J_bit, J_shl, J_shr, J_andn, J_and, J_or, J_xor, J_div, J_rem, J_lt, J_le, J_eq, J_lt0, J_le0, J_0le, J_0lt, J_eq0, vp_in_J, J_clamp, J_max, J_abs, Int.toNat_natCast, Int.reduceToNat, Int.reduceAdd, Int.reduceSub, Int.reduceMul, Int.reduceNeg, not_true_eq_false, not_false_eq_true] at c2; omega
            | succ g ihg =>
              intro o ho hq
              have skip : ¬ ((oth σ p).testBit o = true ∧ sq (sS σ o) (sX σ o) (sY σ o) (x + ((k % 5 : Nat) : Int)) (y + ((k / 5 : Nat) : Int)) = true) → R none (d + 3) mX5_stand 73 [.ref 18, .int (J (p : Int)), .int (J x), .int (J y), .int (J (k : Int)), .int (J (x + ((k % 5 : Nat) : Int))), .int (J (y + ((k / 5 : Nat) : Int))), .int (J ((o + 1 : Nat) : Int))] [] M Q := by
                intro hn
                refine ihg (o + 1) (by omega) (fun q h1 h2 h3 => ?_)
                by_cases e : q = o
                · subst e; exact hn ⟨h2, h3⟩
                · exact hq q (by omega) h2 h3
              refine b_X5_stand_73 ⟨fun c2 => ?_, fun _ => ?_⟩
              · rw [hT.2.2.1] at c2
                simp (disch := omega) only [J_add, J_sub, J_mul, J_neg, J_bit, J_shl, J_shr, J_andn, J_and, J_or, J_xor, J_div, J_rem, J_lt, J_le, J_eq, J_lt0, J_le0, J_0le, J_0lt, J_eq0, vp_in_J, J_clamp, J_max, J_abs, Int.toNat_natCast, Int.reduceToNat, Int.reduceAdd, Int.reduceSub, Int.reduceMul, Int.reduceNeg, not_true_eq_false, not_false_eq_true] at c2; omega
              · rw [J_suc, J_eq (by omega) (by omega) (by omega) (by omega)]
                refine ⟨fun c2 => skip (fun g2 => ?_), fun c2 => ⟨vin (by omega) (by omega), ?_⟩⟩
                · have := g2.1
                  unfold oth at this
                  rw [wo_bit, Nat.testBit_two_pow, decide_eq_true (by omega)] at this
                  simp at this
                · rw [nI2 (by omega), hT.lie (by omega), jb_ne, jb_eq0]
                  have hoth : (oth σ p).testBit o = (sL σ).testBit o := by unfold oth; rw [wo_bit, Nat.testBit_two_pow, decide_eq_false (by omega), Bool.not_false, Bool.and_true]
                  refine ⟨fun c3 => skip (fun g2 => by rw [hoth, c3] at g2; cases g2.1), fun c3 => ⟨vin (by omega) (by omega), vin (by omega) (by omega), ?_⟩⟩
                  have hxy := hW.P c3
                  rw [hT.px c3, hT.py c3]
                  refine r_has hT hW (by omega) (by omega) (by omega) (by omega) (by omega) (ri_some ?_)
                  rw [jb_ne, jb_eq0]
                  refine ⟨fun c4 => skip (fun g2 => by rw [c4] at g2; cases g2.2), fun c4 => bad c (Or.inr ⟨o, by rw [hoth]; exact c3, c3, c4⟩)⟩
          rw [jb_ne, jb_eq0, pb_t, pb_f]
          refine ⟨fun c2 => inner (fun g => c2 ⟨g.1, g.2.1⟩) (sN σ) 0 (by omega) (fun q hq => by omega), fun c2 => ?_⟩
          obtain ⟨c3, c4⟩ := c2
          obtain ⟨m, hm⟩ := J_nat c4.1
          obtain ⟨l, hl⟩ := J_nat c3.1
          have hw := hW.W (show m < 10 by omega)
          rw [hm, hl]
          refine ⟨vin (by omega) (by omega), ?_⟩
          rw [nI2 (by omega), hT.2.2.2.1 m (by omega), J_tb (by omega) (by omega), jb_eq1]
          rw [hm, hl] at inner bad
          refine ⟨fun c5 => inner (fun g => c5 ?_) (sN σ) 0 (by omega) (fun q hq => by omega), fun c5 => bad c (Or.inl ⟨by omega, by omega, ?_⟩)⟩
          · have := g.2.2
            rw [Int.toNat_natCast, Int.toNat_natCast] at this
            exact this
          · rw [Int.toNat_natCast, Int.toNat_natCast]; exact c5
  exact e_X5_stand (key 25 0 (by omega) (fun j hj => by omega))
/-- how many of the squares are on the board -/
noncomputable def obN (σ : St) (s : Nat) (x y : Int) (k : Nat) : Nat := sumN (fun j => if s.testBit j = true ∧ pb (onB σ (x + ((j % 5 : Nat) : Int)) (y + ((j / 5 : Nat) : Int))) = true then 1 else 0) k
theorem obN_le (σ : St) (s : Nat) (x y : Int) (k : Nat) : obN σ s x y k ≤ k := by
  have := sumN_le (f := fun j => if s.testBit j = true ∧ pb (onB σ (x + ((j % 5 : Nat) : Int)) (y + ((j / 5 : Nat) : Int))) = true then 1 else 0) (b := 1) (fun j => by split <;> omega) k
  rw [Nat.mul_one] at this
  exact this
theorem r_onBoard {p : Nat} {x y : Int} (hT : MT M σ) (hW : WF σ) (hp : p < sN σ) (hx : -6 ≤ x ∧ x ≤ 13) (hy : -6 ≤ y ∧ y ≤ 13) (h : Q (some (J (obN σ (sS σ p) x y 25 : Nat))) M) : Mt (d + 3) mX5_onBoard [.ref 18, .int (J (p : Int)), .int (J x), .int (J y)] M Q := by
  have hN := hW.N
  have hs := hW.S hp
  have key : ∀ f k : Nat, k + f = 25 → R none (d + 3) mX5_onBoard 6 [.ref 18, .int (J (p : Int)), .int (J x), .int (J y), .int (J (obN σ (sS σ p) x y k : Nat)), .int (J (k : Int))] [] M Q := by
    intro f
    induction f with
    | zero =>
      intro k hk
      refine b_X5_onBoard_6 ⟨fun _ => ?_, fun c => ?_⟩
      · rw [show k = 25 by omega]; exact h
      · simp (disch := omega) only [J_add, J_sub, J_mul, J_neg, J_bit, J_shl, J_shr, J_andn, J_and, J_or, J_xor, J_div, J_rem, J_lt, J_le, J_eq, J_lt0, J_le0, J_0le, J_0lt, J_eq0, vp_in_J, J_clamp, J_max, J_abs, Int.toNat_natCast, Int.reduceToNat, Int.reduceAdd, Int.reduceSub, Int.reduceMul, Int.reduceNeg, not_true_eq_false, not_false_eq_true] at c; omega
    | succ f ih =>
      intro k hk
      have ih2 := ih (k + 1) (by omega)
      rw [show obN σ (sS σ p) x y (k + 1) = obN σ (sS σ p) x y k + (if (sS σ p).testBit k = true ∧ pb (onB σ (x + ((k % 5 : Nat) : Int)) (y + ((k / 5 : Nat) : Int))) = true then 1 else 0) from rfl] at ih2
      refine b_X5_onBoard_6 ⟨fun c => ?_, fun _ => ⟨vin (by omega) (by omega), ?_⟩⟩
      · simp (disch := omega) only [J_add, J_sub, J_mul, J_neg, J_bit, J_shl, J_shr, J_andn, J_and, J_or, J_xor, J_div, J_rem, J_lt, J_le, J_eq, J_lt0, J_le0, J_0le, J_0lt, J_eq0, vp_in_J, J_clamp, J_max, J_abs, Int.toNat_natCast, Int.reduceToNat, Int.reduceAdd, Int.reduceSub, Int.reduceMul, Int.reduceNeg, not_true_eq_false, not_false_eq_true] at c; omega
      · rw [nI2 (by omega), hT.shp hp, J_tb (by omega) (by omega), jb_eq1, J_a0, J_suc, J_suc, J_m5 (by omega), J_d5 (by omega), J_add, J_add]
        refine ⟨fun c => ?_, fun c => r_isOnBoard hT hW (b32 (by omega) (by omega)) (b32 (by omega) (by omega)) (ri_some ?_)⟩
        · rw [if_neg (fun g => c g.1)] at ih2; exact ih2
        · rw [jb_ne, jb_eq0]
          refine ⟨fun c2 => ?_, fun c2 => ?_⟩
          · rw [if_neg (fun g => by rw [c2] at g; cases g.2)] at ih2; exact ih2
          · rw [if_pos ⟨c, c2⟩] at ih2; exact ih2
  exact e_X5_onBoard (key 25 0 (by omega))
theorem r_squares {s : Nat} (hs : s < 33554432) (h : Q (some (J (pcR 25 s : Nat))) M) : Mt (d + 1) mX5_squares [.int (J (s : Int))] M Q := by
  rw [pcR_sum] at h
  have key : ∀ f k : Nat, k + f = 25 → R none (d + 1) mX5_squares 4 [.int (J (s : Int)), .int (J (sumN (fun i => s / 2 ^ i % 2) k : Nat)), .int (J (k : Int))] [] M Q := by
    intro f
    induction f with
    | zero =>
      intro k hk
      refine b_X5_squares_4 ⟨fun _ => ?_, fun c => ?_⟩
      · rw [show k = 25 by omega]; exact h
      · simp (disch := omega) only [J_add, J_sub, J_mul, J_neg, J_bit, J_shl, J_shr, J_andn, J_and, J_or, J_xor, J_div, J_rem, J_lt, J_le, J_eq, J_lt0, J_le0, J_0le, J_0lt, J_eq0, vp_in_J, J_clamp, J_max, J_abs, Int.toNat_natCast, Int.reduceToNat, Int.reduceAdd, Int.reduceSub, Int.reduceMul, Int.reduceNeg, not_true_eq_false, not_false_eq_true] at c; omega
    | succ f ih =>
      intro k hk
      refine b_X5_squares_4 ⟨fun c => ?_, fun _ => ?_⟩
      · simp (disch := omega) only [J_add, J_sub, J_mul, J_neg, J_bit, J_shl, J_shr, J_andn, J_and, J_or, J_xor, J_div, J_rem, J_lt, J_le, J_eq, J_lt0, J_le0, J_0le, J_0lt, J_eq0, vp_in_J, J_clamp, J_max, J_abs, Int.toNat_natCast, Int.reduceToNat, Int.reduceAdd, Int.reduceSub, Int.reduceMul, Int.reduceNeg, not_true_eq_false, not_false_eq_true] at c; omega
      · have ih2 := ih (k + 1) (by omega)
        rw [J_shrN (by omega) (by omega), show J 1 = J ((1 : Nat) : Int) from rfl, J_andN, Nat.and_one_is_mod, J_addN, J_addN]
        exact ih2
  exact e_X5_squares (key 25 0 (by omega))
theorem r_bits {s : Nat} (hs : s < 33554432) (h : Q (some (J (pcR 8 s : Nat))) M) : Mt (d + 1) mX5_bits [.int (J (s : Int))] M Q := by
  rw [pcR_sum] at h
  have key : ∀ f k : Nat, k + f = 8 → R none (d + 1) mX5_bits 4 [.int (J (s : Int)), .int (J (sumN (fun i => s / 2 ^ i % 2) k : Nat)), .int (J (k : Int))] [] M Q := by
    intro f
    induction f with
    | zero =>
      intro k hk
      refine b_X5_bits_4 ⟨fun _ => ?_, fun c => ?_⟩
      · rw [show k = 8 by omega]; exact h
      · simp (disch := omega) only [J_add, J_sub, J_mul, J_neg, J_bit, J_shl, J_shr, J_andn, J_and, J_or, J_xor, J_div, J_rem, J_lt, J_le, J_eq, J_lt0, J_le0, J_0le, J_0lt, J_eq0, vp_in_J, J_clamp, J_max, J_abs, Int.toNat_natCast, Int.reduceToNat, Int.reduceAdd, Int.reduceSub, Int.reduceMul, Int.reduceNeg, not_true_eq_false, not_false_eq_true] at c; omega
    | succ f ih =>
      intro k hk
      refine b_X5_bits_4 ⟨fun c => ?_, fun _ => ?_⟩
      · simp (disch := omega) only [J_add, J_sub, J_mul, J_neg, J_bit, J_shl, J_shr, J_andn, J_and, J_or, J_xor, J_div, J_rem, J_lt, J_le, J_eq, J_lt0, J_le0, J_0le, J_0lt, J_eq0, vp_in_J, J_clamp, J_max, J_abs, Int.toNat_natCast, Int.reduceToNat, Int.reduceAdd, Int.reduceSub, Int.reduceMul, Int.reduceNeg, not_true_eq_false, not_false_eq_true] at c; omega
      · have ih2 := ih (k + 1) (by omega)
        rw [J_shrN (by omega) (by omega), show J 1 = J ((1 : Nat) : Int) from rfl, J_andN, Nat.and_one_is_mod, J_addN, J_addN]
        exact ih2
  exact e_X5_bits (key 8 0 (by omega))
theorem r_dx {e : Int} (he : 0 ≤ e ∧ e ≤ 3) (h : Q (some (J (dxI e))) M) : Mt (d + 1) mX5_dx [.int (J e)] M Q := by
  refine e_X5_dx ⟨fun c => ⟨fun c2 => ?_, fun c2 => ?_⟩, fun c => ?_⟩
  all_goals simp (disch := omega) only [J_add, J_sub, J_mul, J_neg, J_bit, J_shl, J_shr, J_andn, J_and, J_or, J_xor, J_div, J_rem, J_lt, J_le, J_eq, J_lt0, J_le0, J_0le, J_0lt, J_eq0, vp_in_J, J_clamp, J_max, J_abs, Int.toNat_natCast, Int.reduceToNat, Int.reduceAdd, Int.reduceSub, Int.reduceMul, Int.reduceNeg, not_true_eq_false, not_false_eq_true] at *
  · rw [show dxI e = 0 by unfold dxI; rw [if_neg c, if_neg c2]] at h; exact h
  · rw [show dxI e = -1 by unfold dxI; rw [if_neg c, if_pos c2]] at h; exact h
  · rw [show dxI e = 1 by unfold dxI; rw [if_pos c]] at h; exact h
theorem r_dy {e : Int} (he : 0 ≤ e ∧ e ≤ 3) (h : Q (some (J (dyI e))) M) : Mt (d + 1) mX5_dy [.int (J e)] M Q := by
  refine e_X5_dy ⟨fun c => ⟨fun c2 => ?_, fun c2 => ?_⟩, fun c => ?_⟩
  all_goals simp (disch := omega) only [J_add, J_sub, J_mul, J_neg, J_bit, J_shl, J_shr, J_andn, J_and, J_or, J_xor, J_div, J_rem, J_lt, J_le, J_eq, J_lt0, J_le0, J_0le, J_0lt, J_eq0, vp_in_J, J_clamp, J_max, J_abs, Int.toNat_natCast, Int.reduceToNat, Int.reduceAdd, Int.reduceSub, Int.reduceMul, Int.reduceNeg, not_true_eq_false, not_false_eq_true] at *
  · rw [show dyI e = 0 by unfold dyI; rw [if_neg c, if_neg c2]] at h; exact h
  · rw [show dyI e = -1 by unfold dyI; rw [if_neg c, if_pos c2]] at h; exact h
  · rw [show dyI e = 1 by unfold dyI; rw [if_pos c]] at h; exact h
theorem r_spot {x y : Int} (hx : -6 ≤ x ∧ x ≤ 13) (hy : -6 ≤ y ∧ y ≤ 13) (h : Q (some (J (plc x y : Nat))) M) : Mt (d + 1) mX5_spot [.int (J x), .int (J y)] M Q := by
  refine e_X5_spot ?_
  rw [J_add, J_mul, J_add, J_add]
  rw [show ((plc x y : Nat) : Int) = 20 * (y + 6) + x + 6 by unfold plc; omega] at h
  exact h
theorem r_lying (hT : MT M σ) (hW : WF σ) (h : Q (some (J (sL σ : Int))) M) : Mt (d + 1) mX5_lying [.ref 18] M Q := by
  have hN := hW.N
  have hL := hW.2.2.2.2.2.2.1
  have key : ∀ f k : Nat, k + f = sN σ → R none (d + 1) mX5_lying 4 [.ref 18, .int (J (sL σ % 2 ^ k : Nat)), .int (J (k : Int))] [] M Q := by
    intro f
    induction f with
    | zero =>
      intro k hk
      refine b_X5_lying_4 ⟨fun _ => ?_, fun c => ?_⟩
      · rw [show k = sN σ by omega, Nat.mod_eq_of_lt hL]; exact h
      · rw [hT.2.2.1] at c
        simp (disch := omega) only [J_add, J_sub, J_mul, J_neg, J_bit, J_shl, J_shr, J_andn, J_and, J_or, J_xor, J_div, J_rem, J_lt, J_le, J_eq, J_lt0, J_le0, J_0le, J_0lt, J_eq0, vp_in_J, J_clamp, J_max, J_abs, Int.toNat_natCast, Int.reduceToNat, Int.reduceAdd, Int.reduceSub, Int.reduceMul, Int.reduceNeg, not_true_eq_false, not_false_eq_true] at c; omega
    | succ f ih =>
      intro k hk
      have ih2 := ih (k + 1) (by omega)
      have hst : sL σ % 2 ^ (k + 1) = sL σ % 2 ^ k ||| (if (sL σ).testBit k = true then 2 ^ k else 0) := by
        apply Nat.eq_of_testBit_eq
        intro i
        rw [Nat.testBit_mod_two_pow, Nat.testBit_or, Nat.testBit_mod_two_pow]
        by_cases e : i = k
        · subst e
          by_cases hb : (sL σ).testBit i = true
          · rw [if_pos hb, hb, Nat.testBit_two_pow_self]; simp
          · rw [if_neg hb, Nat.zero_testBit]
            rw [Bool.not_eq_true] at hb
            rw [hb]; simp
        · have e2 : (if (sL σ).testBit k = true then 2 ^ k else 0).testBit i = false := by
            split
            · rw [Nat.testBit_two_pow, decide_eq_false (by omega)]
            · exact Nat.zero_testBit i
          rw [e2, Bool.or_false, show decide (i < k + 1) = decide (i < k) from decide_eq_decide.mpr (by omega)]
      rw [hst] at ih2
      refine b_X5_lying_4 ⟨fun c => ?_, fun _ => ⟨vin (by omega) (by omega), ?_⟩⟩
      · rw [hT.2.2.1] at c
        simp (disch := omega) only [J_add, J_sub, J_mul, J_neg, J_bit, J_shl, J_shr, J_andn, J_and, J_or, J_xor, J_div, J_rem, J_lt, J_le, J_eq, J_lt0, J_le0, J_0le, J_0lt, J_eq0, vp_in_J, J_clamp, J_max, J_abs, Int.toNat_natCast, Int.reduceToNat, Int.reduceAdd, Int.reduceSub, Int.reduceMul, Int.reduceNeg, not_true_eq_false, not_false_eq_true] at c; omega
      · rw [nI2 (by omega), hT.lie (by omega), jb_ne, jb_eq0, J_suc, J_or1 (by omega), show J (sL σ % 2 ^ k : Nat) ||| J 0 = J ((sL σ % 2 ^ k ||| 0 : Nat) : Int) from J_orN _ 0]
        refine ⟨fun c => ?_, fun c => ?_⟩
        · rw [if_neg (by rw [c]; decide)] at ih2; exact ih2
        · rw [if_pos c] at ih2; exact ih2
  have := key (sN σ) 0 (by omega)
  rw [show sL σ % 2 ^ 0 = 0 by rw [Nat.pow_zero]; exact Nat.mod_one _] at this
  exact e_X5_lying this
end MB
