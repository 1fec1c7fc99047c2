/-! the reference: push -/
section MPU
variable {d : Nat} {M : Mem} {Q : Post} {σ : St}
theorem r_meet {a b : Nat} {x y : Int} (hT : MT M σ) (hW : WF σ) (ha : a < sN σ) (hb : b < sN σ) (hx : -100 ≤ x ∧ x ≤ 100) (hy : -100 ≤ y ∧ y ≤ 100) (h : Q (some (jb (pb (meetP (sS σ a) (sS σ b) x y)))) M) : Mt (d + 3) mX5_meet [.ref 18, .int (J (a : Int)), .int (J (b : Int)), .int (J x), .int (J y)] M Q := by
  have hN := hW.N
  have hs := hW.S ha
  have done : ∀ f k : Nat, k + f = 25 → ∀ v : Bool, v = pb (meetP (sS σ a) (sS σ b) x y) → (v = false → ∀ j, j < k → True) → (v = true) → R none (d + 3) mX5_meet 6 [.ref 18, .int (J (a : Int)), .int (J (b : Int)), .int (J x), .int (J y), .int (J 1), .int (J (k : Int))] [] M Q := by
    intro f
    induction f with
    | zero =>
      intro k hk v hv _ ht
      refine b_X5_meet_6 ⟨fun _ => ⟨Or.inr rfl, ?_⟩, fun c => ?_⟩
      · rw [← hv, ht] at h; exact h
      · simp (disch := omega) only [J_add, J_sub, J_mul, J_neg, J_bit, J_shl, J_shr, J_andn, J_and, J_or, J_xor, J_div, J_rem, J_lt, J_le, J_eq, J_lt0, J_le0, J_0le, J_0lt, J_eq0, vp_in_J, J_clamp, J_max, J_abs, Int.toNat_natCast, Int.reduceToNat, Int.reduceAdd, Int.reduceSub, Int.reduceMul, Int.reduceNeg, not_true_eq_false, not_false_eq_true] at c; omega
    | succ f ih =>
      intro k hk v hv _ ht
      refine b_X5_meet_6 ⟨fun c => ?_, fun _ => ⟨fun _ => ?_, fun c => absurd c one_ne⟩⟩
      · simp (disch := omega) only [J_add, J_sub, J_mul, J_neg, J_bit, J_shl, J_shr, J_andn, J_and, J_or, J_xor, J_div, J_rem, J_lt, J_le, J_eq, J_lt0, J_le0, J_0le, J_0lt, J_eq0, vp_in_J, J_clamp, J_max, J_abs, Int.toNat_natCast, Int.reduceToNat, Int.reduceAdd, Int.reduceSub, Int.reduceMul, Int.reduceNeg, not_true_eq_false, not_false_eq_true] at c; omega
      · rw [J_suc]
        exact ih (k + 1) (by omega) v hv (fun _ _ _ => trivial) ht
  have key : ∀ f k : Nat, k + f = 25 → (∀ j, j < k → (sS σ a).testBit j = true → ¬ sq (sS σ b) 0 0 (x + ((j % 5 : Nat) : Int)) (y + ((j / 5 : Nat) : Int)) = true) → R none (d + 3) mX5_meet 6 [.ref 18, .int (J (a : Int)), .int (J (b : Int)), .int (J x), .int (J y), .int (J 0), .int (J (k : Int))] [] M Q := by
    intro f
    induction f with
    | zero =>
      intro k hk hj
      refine b_X5_meet_6 ⟨fun _ => ⟨Or.inl rfl, ?_⟩, fun c => ?_⟩
      · rw [pb_f.mpr (fun ⟨c, r, g1, g2⟩ => (sq_k (P := fun c r => ¬ sq (sS σ b) 0 0 c r = true)).mpr (fun j h1 h2 => hj j (by omega) h2) c r g1 g2)] at h
        exact h
      · simp (disch := omega) only [J_add, J_sub, J_mul, J_neg, J_bit, J_shl, J_shr, J_andn, J_and, J_or, J_xor, J_div, J_rem, J_lt, J_le, J_eq, J_lt0, J_le0, J_0le, J_0lt, J_eq0, vp_in_J, J_clamp, J_max, J_abs, Int.toNat_natCast, Int.reduceToNat, Int.reduceAdd, Int.reduceSub, Int.reduceMul, Int.reduceNeg, not_true_eq_false, not_false_eq_true] at c; omega
    | succ f ih =>
      intro k hk hj
      have skip : ¬ ((sS σ a).testBit k = true ∧ sq (sS σ b) 0 0 (x + ((k % 5 : Nat) : Int)) (y + ((k / 5 : Nat) : Int)) = true) → R none (d + 3) mX5_meet 6 [.ref 18, .int (J (a : Int)), .int (J (b : Int)), .int (J x), .int (J y), .int (J 0), .int (J ((k + 1 : Nat) : Int))] [] M Q := by
        intro hn
        refine ih (k + 1) (by omega) (fun j h2 h3 h4 => ?_)
        by_cases ej : j = k
        · subst ej; exact hn ⟨h3, h4⟩
        · exact hj j (by omega) h3 h4
      refine b_X5_meet_6 ⟨fun c => ?_, fun _ => ⟨fun c => absurd rfl c, fun _ => ⟨vin (by omega) (by omega), ?_⟩⟩⟩
      · simp (disch := omega) only [J_add, J_sub, J_mul, J_neg, J_bit, J_shl, J_shr, J_andn, J_and, J_or, J_xor, J_div, J_rem, J_lt, J_le, J_eq, J_lt0, J_le0, J_0le, J_0lt, J_eq0, vp_in_J, J_clamp, J_max, J_abs, Int.toNat_natCast, Int.reduceToNat, Int.reduceAdd, Int.reduceSub, Int.reduceMul, Int.reduceNeg, not_true_eq_false, not_false_eq_true] at c; omega
      · rw [nI2 (by omega), hT.shp ha, J_tb (by omega) (by omega), jb_eq1, J_suc, J_m5 (by omega), J_d5 (by omega), J_add, J_add]
        refine ⟨fun c => skip (fun q => c q.1), fun c => r_has hT hW hb (by omega) (by omega) (by omega) (by omega) (ri_some ?_)⟩
        rw [jb_ne, jb_eq0]
        refine ⟨fun c2 => skip (fun q => by rw [c2] at q; cases q.2), fun c2 => ?_⟩
        exact done f (k + 1) (by omega) true (pb_t.mpr ⟨_, _, sq_kk (by omega) c, c2⟩).symm (fun _ _ _ => trivial) rfl
  exact e_X5_meet (key 25 0 (by omega) (fun j hj => by omega))
theorem psh_b (a b : Nat) : ∀ t, (psh a b t).1 ≤ 999 ∧ (-10 ≤ (psh a b t).2.1 ∧ (psh a b t).2.1 ≤ 99 + t) ∧ (-10 ≤ (psh a b t).2.2 ∧ (psh a b t).2.2 ≤ 99) := by
  intro t
  rcases Nat.eq_zero_or_pos t with e | e
  · subst e; exact ⟨Nat.le_refl _, ⟨by show (-10 : Int) ≤ 99; omega, by show (99 : Int) ≤ _; omega⟩, by show (-10 : Int) ≤ 99; omega, by show (99 : Int) ≤ 99; omega⟩
  · have := psh_le a b t e; omega
theorem m_push {S : SS} {a b w : Int} (hC : MR M S) (hO : OKS S) (ha : BI32 a) (hb : BI32 b) (hw : BI32 w) (h : ∀ M', MR M' S → NF M M' → Q (some (J (aPush S a b w))) M') : Mt (d + 12) mX5_push [.ref 18, .int (J a), .int (J b), .int (J w)] M Q := by
  have hW := hO.1
  have hT := hC.1
  have h0 := h M hC NF.rf
  unfold aPush at h0
  have bad : ¬ ((isPc S.1 a = true ∧ isPc S.1 b = true) ∧ a ≠ b ∧ (0 ≤ w ∧ w ≤ 1)) → Q (some (J (-1000))) M := by
    intro q
    rw [if_neg q] at h0
    exact h0
  refine e_X5_push (r_isPiece hT hW ha (ri_some ?_))
  rw [jb_ne, jb_eq0]
  refine ⟨fun q => bad (fun g => by rw [q] at g; cases g.1.1), fun q => r_isPiece hT hW hb (ri_some ?_)⟩
  rw [jb_ne, jb_eq0]
  refine ⟨fun q2 => bad (fun g => by rw [q2] at g; cases g.1.2), fun q2 => ?_⟩
  rw [J_eq ha.1 ha.2 hb.1 hb.2]
  refine ⟨fun q3 => bad (fun g => g.2.1 q3), fun q3 => r_in hw (b32 (by omega) (by omega)) (b32 (by omega) (by omega)) (ri_some ?_)⟩
  rw [jb_ne, jb_eq0]
  refine ⟨fun q4 => ?_, fun q4 => bad (fun g => absurd g.2.2 (of_decide_eq_false q4))⟩
  have hw01 := of_decide_eq_true q4
  rw [if_pos ⟨⟨q, q2⟩, q3, hw01⟩] at h0
  obtain ⟨k, rfl, hk⟩ := isPc_of q
  obtain ⟨m, rfl, hm⟩ := isPc_of q2
  rw [Int.toNat_natCast, Int.toNat_natCast] at h0
  generalize hsa : sS S.1 k = sa at h0
  generalize hsb : sS S.1 m = sb at h0
  have inner : ∀ x : Nat, x < 21 → (R none (d + 12) mX5_push 51 [.ref 18, .int (J (k : Int)), .int (J (m : Int)), .int (J w), .int (J (psh sa sb ((x + 1) * 21)).2.1), .int (J (psh sa sb ((x + 1) * 21)).2.2), .int (J ((psh sa sb ((x + 1) * 21)).1 : Int)), .int (J ((x : Int) - 10 + 1)), .null, .null] [] M Q) → ∀ f y : Nat, y + f = 21 → R none (d + 12) mX5_push 62 [.ref 18, .int (J (k : Int)), .int (J (m : Int)), .int (J w), .int (J (psh sa sb (x * 21 + y)).2.1), .int (J (psh sa sb (x * 21 + y)).2.2), .int (J ((psh sa sb (x * 21 + y)).1 : Int)), .int (J ((x : Int) - 10)), .int (J ((y : Int) - 10)), .null] [] M Q := by
    intro x hx hk2 f
    induction f with
    | zero =>
      intro y hy
      refine b_X5_push_62 ⟨fun _ => ?_, fun c => ?_⟩
      · rw [J_add, show x * 21 + y = (x + 1) * 21 by omega]
        exact hk2
      · simp (disch := omega) only [J_add, J_sub, J_mul, J_neg, J_bit, J_shl, J_shr, J_andn, J_and, J_or, J_xor, J_div, J_rem, J_lt, J_le, J_eq, J_lt0, J_le0, J_0le, J_0lt, J_eq0, vp_in_J, J_clamp, J_max, J_abs, Int.toNat_natCast, Int.reduceToNat, Int.reduceAdd, Int.reduceSub, Int.reduceMul, Int.reduceNeg, not_true_eq_false, not_false_eq_true] at c; omega
    | succ f ih =>
      intro y hy
      have ih2 := ih (y + 1) (by omega)
      have hpb := psh_b sa sb (x * 21 + y)
      have e1 : (x * 21 + y) / 21 = x := by omega
      have e2 : (x * 21 + y) % 21 = y := by omega
      rw [show x * 21 + (y + 1) = (x * 21 + y) + 1 by omega, psh, e1, e2, show ((y + 1 : Nat) : Int) - 10 = (y : Int) - 10 + 1 by omega] at ih2
      generalize psh sa sb (x * 21 + y) = v at ih2 hpb ⊢
      have step : ∀ z : Int, z = ((((x : Int) - 10).natAbs + ((y : Int) - 10).natAbs : Nat) : Int) → ((J (v.1 : Int) ≤ J z → R none (d + 12) mX5_push 62 [.ref 18, .int (J (k : Int)), .int (J (m : Int)), .int (J w), .int (J v.2.1), .int (J v.2.2), .int (J (v.1 : Int)), .int (J ((x : Int) - 10)), .int (J ((y : Int) - 10 + 1)), .null] [] M Q) ∧ (¬ J (v.1 : Int) ≤ J z → Mt (d + 11) mX5_meet [.ref 18, .int (J (k : Int)), .int (J (m : Int)), .int (J ((x : Int) - 10)), .int (J ((y : Int) - 10))] M (ri fun v2 M2 => ((¬ v2 = 0 → R none (d + 12) mX5_push 62 [.ref 18, .int (J (k : Int)), .int (J (m : Int)), .int (J w), .int (J v.2.1), .int (J v.2.2), .int (J (v.1 : Int)), .int (J ((x : Int) - 10)), .int (J ((y : Int) - 10 + 1)), .null] [] M2 Q) ∧ (v2 = 0 → R none (d + 12) mX5_push 62 [.ref 18, .int (J (k : Int)), .int (J (m : Int)), .int (J w), .int (J ((x : Int) - 10)), .int (J ((y : Int) - 10)), .int (J z), .int (J ((x : Int) - 10)), .int (J ((y : Int) - 10 + 1)), .null] [] M2 Q))))) := by
        intro z hz
        rw [J_le (by omega) (by omega) (by omega) (by omega)]
        refine ⟨fun c => ?_, fun c => r_meet hT hW hk hm (by omega) (by omega) (ri_some ?_)⟩
        · rw [if_neg (by rw [pb_t]; exact fun g => by have := g.1; omega)] at ih2
          exact ih2
        · rw [jb_ne, jb_eq0, pb_t, pb_f, hsa, hsb]
          refine ⟨fun c2 => ?_, fun c2 => ?_⟩
          · rw [if_neg (by rw [pb_t]; exact fun g => g.2 c2)] at ih2
            exact ih2
          · rw [if_pos (by rw [pb_t]; exact ⟨by omega, c2⟩)] at ih2
            dsimp only at ih2
            rw [hz]; exact ih2
      refine b_X5_push_62 ⟨fun c => ?_, fun _ => ⟨fun c => ⟨fun c2 => ?_, fun c2 => ?_⟩, fun c => ⟨fun c2 => ?_, fun c2 => ?_⟩⟩⟩
      · simp (disch := omega) only [J_add, J_sub, J_mul, J_neg, J_bit, J_shl, J_shr, J_andn, J_and, J_or, J_xor, J_div, J_rem, J_lt, J_le, J_eq, J_lt0, J_le0, J_0le, J_0lt, J_eq0, vp_in_J, J_clamp, J_max, J_abs, Int.toNat_natCast, Int.reduceToNat, Int.reduceAdd, Int.reduceSub, Int.reduceMul, Int.reduceNeg, not_true_eq_false, not_false_eq_true] at c; omega
      · rw [J_add, J_add]
        simp (disch := omega) only [J_add, J_sub, J_mul, J_neg, J_bit, J_shl, J_shr, J_andn, J_and, J_or, J_xor, J_div, J_rem, J_lt, J_le, J_eq, J_lt0, J_le0, J_0le, J_0lt, J_eq0, vp_in_J, J_clamp, J_max, J_abs, Int.toNat_natCast, Int.reduceToNat, Int.reduceAdd, Int.reduceSub, Int.reduceMul, Int.reduceNeg, not_true_eq_false, not_false_eq_true] at c c2
        exact step _ (by omega)
      · rw [J_neg, J_add, J_add]
        simp (disch := omega) only [J_add, J_sub, J_mul, J_neg, J_bit, J_shl, J_shr, J_andn, J_and, J_or, J_xor, J_div, J_rem, J_lt, J_le, J_eq, J_lt0, J_le0, J_0le, J_0lt, J_eq0, vp_in_J, J_clamp, J_max, J_abs, Int.toNat_natCast, Int.reduceToNat, Int.reduceAdd, Int.reduceSub, Int.reduceMul, Int.reduceNeg, not_true_eq_false, not_false_eq_true] at c c2
        exact step _ (by omega)
      · rw [J_neg, J_add, J_add]
        simp (disch := omega) only [J_add, J_sub, J_mul, J_neg, J_bit, J_shl, J_shr, J_andn, J_and, J_or, J_xor, J_div, J_rem, J_lt, J_le, J_eq, J_lt0, J_le0, J_0le, J_0lt, J_eq0, vp_in_J, J_clamp, J_max, J_abs, Int.toNat_natCast, Int.reduceToNat, Int.reduceAdd, Int.reduceSub, Int.reduceMul, Int.reduceNeg, not_true_eq_false, not_false_eq_true] at c c2
        exact step _ (by omega)
      · rw [J_neg, J_neg, J_add, J_add]
        simp (disch := omega) only [J_add, J_sub, J_mul, J_neg, J_bit, J_shl, J_shr, J_andn, J_and, J_or, J_xor, J_div, J_rem, J_lt, J_le, J_eq, J_lt0, J_le0, J_0le, J_0lt, J_eq0, vp_in_J, J_clamp, J_max, J_abs, Int.toNat_natCast, Int.reduceToNat, Int.reduceAdd, Int.reduceSub, Int.reduceMul, Int.reduceNeg, not_true_eq_false, not_false_eq_true] at c c2
        exact step _ (by omega)
  have key : ∀ f x : Nat, x + f = 21 → R none (d + 12) mX5_push 51 [.ref 18, .int (J (k : Int)), .int (J (m : Int)), .int (J w), .int (J (psh sa sb (x * 21)).2.1), .int (J (psh sa sb (x * 21)).2.2), .int (J ((psh sa sb (x * 21)).1 : Int)), .int (J ((x : Int) - 10)), .null, .null] [] M Q := by
    intro f
    induction f with
    | zero =>
      intro x hx
      refine b_X5_push_51 ⟨fun _ => ⟨fun c => ?_, fun c => ?_⟩, fun c => ?_⟩
      · simp (disch := omega) only [J_add, J_sub, J_mul, J_neg, J_bit, J_shl, J_shr, J_andn, J_and, J_or, J_xor, J_div, J_rem, J_lt, J_le, J_eq, J_lt0, J_le0, J_0le, J_0lt, J_eq0, vp_in_J, J_clamp, J_max, J_abs, Int.toNat_natCast, Int.reduceToNat, Int.reduceAdd, Int.reduceSub, Int.reduceMul, Int.reduceNeg, not_true_eq_false, not_false_eq_true] at c
        rw [if_neg c] at h0
        rw [show x * 21 = 441 by omega]; exact h0
      · simp (disch := omega) only [J_add, J_sub, J_mul, J_neg, J_bit, J_shl, J_shr, J_andn, J_and, J_or, J_xor, J_div, J_rem, J_lt, J_le, J_eq, J_lt0, J_le0, J_0le, J_0lt, J_eq0, vp_in_J, J_clamp, J_max, J_abs, Int.toNat_natCast, Int.reduceToNat, Int.reduceAdd, Int.reduceSub, Int.reduceMul, Int.reduceNeg, not_true_eq_false, not_false_eq_true] at c
        rw [if_pos c] at h0
        rw [show x * 21 = 441 by omega]; exact h0
      · simp (disch := omega) only [J_add, J_sub, J_mul, J_neg, J_bit, J_shl, J_shr, J_andn, J_and, J_or, J_xor, J_div, J_rem, J_lt, J_le, J_eq, J_lt0, J_le0, J_0le, J_0lt, J_eq0, vp_in_J, J_clamp, J_max, J_abs, Int.toNat_natCast, Int.reduceToNat, Int.reduceAdd, Int.reduceSub, Int.reduceMul, Int.reduceNeg, not_true_eq_false, not_false_eq_true] at c; omega
    | succ f ih =>
      intro x hx
      refine b_X5_push_51 ⟨fun c => ?_, fun _ => ?_⟩
      · simp (disch := omega) only [J_add, J_sub, J_mul, J_neg, J_bit, J_shl, J_shr, J_andn, J_and, J_or, J_xor, J_div, J_rem, J_lt, J_le, J_eq, J_lt0, J_le0, J_0le, J_0lt, J_eq0, vp_in_J, J_clamp, J_max, J_abs, Int.toNat_natCast, Int.reduceToNat, Int.reduceAdd, Int.reduceSub, Int.reduceMul, Int.reduceNeg, not_true_eq_false, not_false_eq_true] at c; omega
      · have ih2 := ih (x + 1) (by omega)
        rw [show ((x + 1 : Nat) : Int) - 10 = (x : Int) - 10 + 1 by omega] at ih2
        exact inner x (by omega) ih2 21 0 (by omega)
  exact key 21 0 (by omega)
end MPU
