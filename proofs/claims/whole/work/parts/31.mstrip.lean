/-! the reference: strips -/
def GM5 (M : Mem) (G : Nat → Nat) : Prop := ∀ j, j < 40 → M 29 j = J (G j : Int)
theorem next_dm {c : Nat} (hc : 0 < c) (t : Nat) : (t % c + 1 < c → (t + 1) % c = t % c + 1 ∧ (t + 1) / c = t / c) ∧ (¬ t % c + 1 < c → (t + 1) % c = 0 ∧ (t + 1) / c = t / c + 1) := by
  have h1 := Nat.div_add_mod t c
  have h2 := Nat.mod_lt t hc
  refine ⟨fun h => ?_, fun h => ?_⟩
  · have := (Nat.div_mod_unique (a := t + 1) (d := t / c) (c := t % c + 1) hc).mpr ⟨by omega, h⟩
    exact ⟨this.2, this.1⟩
  · have := (Nat.div_mod_unique (a := t + 1) (d := t / c + 1) (c := 0) hc).mpr ⟨by rw [Nat.mul_succ]; omega, hc⟩
    exact ⟨this.2, this.1⟩
section MST
variable {d : Nat} {M : Mem} {Q : Post} {σ : St}
theorem r_rowOf {p r : Nat} (hT : MT M σ) (hW : WF σ) (hp : p < sN σ) (hr : r < 5) (h : Q (some (J (rowN (sS σ p) (r : Int) : Nat))) M) : Mt (d + 1) mX5_rowOf [.ref 18, .int (J (p : Int)), .int (J (r : Int))] M Q := by
  have hN := hW.N
  have hs := hW.S hp
  refine e_X5_rowOf ⟨vin (by omega) (by omega), ?_⟩
  rw [nI2 (by omega), hT.shp hp, J_mul, show (5 : Int) * (r : Int) = ((5 * r : Nat) : Int) by omega, J_shrN (by omega) (by omega), show J 31 = J ((31 : Nat) : Int) from rfl, J_andN]
  rw [show rowN (sS σ p) (r : Int) = (sS σ p / 2 ^ (5 * (r : Int)).toNat) &&& 31 from if_pos (by omega), show (5 * (r : Int)).toNat = 5 * r by omega] at h
  exact h
theorem r_isFree {p x y : Nat} {G : Nat → Nat} (hT : MT M σ) (hW : WF σ) (hG : GM5 M G) (hp : p < sN σ) (hx : x < 13) (hy : y ≤ 30) (h : Q (some (jb (freeAt G (sS σ p) x y))) M) : Mt (d + 2) mX5_isFree [.ref 18, .int (J (p : Int)), .int (J (x : Int)), .int (J (y : Int))] M Q := by
  have no : ∀ f k : Nat, k + f = 5 → freeAt G (sS σ p) x y = false → R none (d + 2) mX5_isFree 6 [.ref 18, .int (J (p : Int)), .int (J (x : Int)), .int (J (y : Int)), .int (J 0), .int (J (k : Int))] [] M Q := by
    intro f
    induction f with
    | zero =>
      intro k hk hf
      rw [hf] at h
      refine b_X5_isFree_6 ⟨fun _ => ⟨Or.inl rfl, h⟩, fun c => ?_⟩
      simp (disch := omega) only [J_add, J_sub, J_mul, J_neg, J_bit, J_shl, J_shr, J_andn, J_and, J_or, J_xor, J_div, J_rem, J_lt, J_le, J_eq, J_lt0, J_le0, J_0le, J_0lt, J_eq0, vp_in_J, J_clamp, J_max, J_abs, Int.toNat_natCast, Int.reduceToNat, Int.reduceAdd, Int.reduceSub, Int.reduceMul, Int.reduceNeg, not_true_eq_false, not_false_eq_true] at c; omega
    | succ f ih =>
      intro k hk hf
      refine b_X5_isFree_6 ⟨fun c => ?_, fun _ => ⟨fun _ => ?_, fun c => absurd rfl c⟩⟩
      · simp (disch := omega) only [J_add, J_sub, J_mul, J_neg, J_bit, J_shl, J_shr, J_andn, J_and, J_or, J_xor, J_div, J_rem, J_lt, J_le, J_eq, J_lt0, J_le0, J_0le, J_0lt, J_eq0, vp_in_J, J_clamp, J_max, J_abs, Int.toNat_natCast, Int.reduceToNat, Int.reduceAdd, Int.reduceSub, Int.reduceMul, Int.reduceNeg, not_true_eq_false, not_false_eq_true] at c; omega
      · rw [J_suc]; exact ih (k + 1) (by omega) hf
  have key : ∀ f k : Nat, k + f = 5 → (∀ r : Nat, r < k → (rowN (sS σ p) (r : Int) * 2 ^ x) &&& G (y + r) = 0) → R none (d + 2) mX5_isFree 6 [.ref 18, .int (J (p : Int)), .int (J (x : Int)), .int (J (y : Int)), .int (J 1), .int (J (k : Int))] [] M Q := by
    intro f
    induction f with
    | zero =>
      intro k hk hr
      rw [show freeAt G (sS σ p) x y = true from pb_t.mpr (fun r h1 => hr r (by omega))] at h
      refine b_X5_isFree_6 ⟨fun _ => ⟨Or.inr rfl, h⟩, fun c => ?_⟩
      simp (disch := omega) only [J_add, J_sub, J_mul, J_neg, J_bit, J_shl, J_shr, J_andn, J_and, J_or, J_xor, J_div, J_rem, J_lt, J_le, J_eq, J_lt0, J_le0, J_0le, J_0lt, J_eq0, vp_in_J, J_clamp, J_max, J_abs, Int.toNat_natCast, Int.reduceToNat, Int.reduceAdd, Int.reduceSub, Int.reduceMul, Int.reduceNeg, not_true_eq_false, not_false_eq_true] at c; omega
    | succ f ih =>
      intro k hk hr
      have hrl := rowN_lt (sS σ p) (k : Int)
      have hp2 : 2 ^ x ≤ 2 ^ 12 := Nat.pow_le_pow_right (by omega) (by omega)
      have hm : rowN (sS σ p) (k : Int) * 2 ^ x ≤ 31 * 2 ^ 12 := Nat.mul_le_mul (by omega) hp2
      have hle : G (y + k) &&& (rowN (sS σ p) (k : Int) * 2 ^ x) ≤ rowN (sS σ p) (k : Int) * 2 ^ x := Nat.and_le_right
      refine b_X5_isFree_6 ⟨fun c => ?_, fun _ => ⟨fun c => absurd c one_ne, fun _ => ?_⟩⟩
      · simp (disch := omega) only [J_add, J_sub, J_mul, J_neg, J_bit, J_shl, J_shr, J_andn, J_and, J_or, J_xor, J_div, J_rem, J_lt, J_le, J_eq, J_lt0, J_le0, J_0le, J_0lt, J_eq0, vp_in_J, J_clamp, J_max, J_abs, Int.toNat_natCast, Int.reduceToNat, Int.reduceAdd, Int.reduceSub, Int.reduceMul, Int.reduceNeg, not_true_eq_false, not_false_eq_true] at c; omega
      · rw [J_addN]
        refine ⟨vin (by omega) (by omega), r_rowOf hT hW hp (by omega) (ri_some ?_)⟩
        rw [nI2 (by omega), hG (y + k) (by omega), J_shlN (by omega), J_andN, J_eq0 (by omega) (by omega), J_suc]
        refine ⟨fun c => no f (k + 1) (by omega) ?_, fun c => ih (k + 1) (by omega) (fun r h1 => ?_)⟩
        · refine pb_f.mpr (fun g => ?_)
          have := g k (by omega)
          rw [Nat.and_comm] at this
          omega
        · by_cases e : r = k
          · subst e; rw [Nat.and_comm]; omega
          · exact hr r (by omega)
  exact e_X5_isFree (key 5 0 (by omega) (fun r h1 => by omega))
def LF5 (M M' : Mem) : Prop := ∀ a j, a ≠ 29 → a ≠ 30 → a ≠ 31 → M' a j = M a j
theorem LF5.QF {M M' : Mem} (h : LF5 M M') : QF M M' := fun a j q => h a j (by omega) (by omega) (by omega)
theorem r_fills {w n order : Nat} (hT : MT M σ) (hW : WF σ) (hw : w ≤ 12) (hn : n ≤ 5) (ho : order < 2147483648) (hp : ∀ k, k < n → plr order k < sN σ ∧ wideN (sS σ (plr order k)) ≤ w) (h : ∀ M', (∀ k, k < n → M' 30 k = J (spX (fL σ w (ordL order k)).1 (sS σ (plr order k)) w : Nat) ∧ M' 31 k = J (spY (fL σ w (ordL order k)).1 (sS σ (plr order k)) w : Nat)) → LF5 M M' → Q (some (J ((fL σ w (ordL order n)).2 : Nat))) M') : Mt (d + 4) mX5_fills [.ref 18, .int (J (w : Int)), .int (J (n : Int)), .int (J (order : Int))] M Q := by
  have hN := hW.N
  have key : ∀ f k : Nat, k + f = n → ∀ M1 : Mem, GM5 M1 (fL σ w (ordL order k)).1 → (∀ j, j < k → M1 30 j = J (spX (fL σ w (ordL order j)).1 (sS σ (plr order j)) w : Nat) ∧ M1 31 j = J (spY (fL σ w (ordL order j)).1 (sS σ (plr order j)) w : Nat)) → LF5 M M1 → R none (d + 4) mX5_fills 30 [.ref 18, .int (J (w : Int)), .int (J (n : Int)), .int (J (order : Int)), .int (J ((fL σ w (ordL order k)).2 : Nat)), .int (J (k : Int)), .null, .null, .null, .null] [] M1 Q := by
    intro f
    induction f with
    | zero =>
      intro k hk M1 hG hS hF
      refine b_X5_fills_30 ⟨fun _ => ?_, fun c => ?_⟩
      · rw [show k = n by omega] at hS ⊢
        exact h M1 hS hF
      · simp (disch := omega) only [J_add, J_sub, J_mul, J_neg, J_bit, J_shl, J_shr, J_andn, J_and, J_or, J_xor, J_div, J_rem, J_lt, J_le, J_eq, J_lt0, J_le0, J_0le, J_0lt, J_eq0, vp_in_J, J_clamp, J_max, J_abs, Int.toNat_natCast, Int.reduceToNat, Int.reduceAdd, Int.reduceSub, Int.reduceMul, Int.reduceNeg, not_true_eq_false, not_false_eq_true] at c; omega
    | succ f ih =>
      intro k hk M1 hG hS hF
      obtain ⟨hp1, hp2⟩ := hp k (by omega)
      obtain ⟨hE, hh⟩ := fL_ok (σ := σ) (order := order) hw k (by omega)
      have ih2 := ih (k + 1) (by omega)
      rw [ordL_succ, fL_snoc] at ih2
      generalize hqq : fL σ w (ordL order k) = q at hG hE hh ih2 hS ⊢
      have hsp := spot_spec (s := sS σ (plr order k)) (w := w) hE (by omega) hw
      have hs := hW.S hp1
      have hwt : tallN (sS σ (plr order k)) ≤ 5 := tallN_le _
      have hT1 := hT.keep hF.QF
      refine b_X5_fills_30 ⟨fun c => ?_, fun _ => ?_⟩
      · simp (disch := omega) only [J_add, J_sub, J_mul, J_neg, J_bit, J_shl, J_shr, J_andn, J_and, J_or, J_xor, J_div, J_rem, J_lt, J_le, J_eq, J_lt0, J_le0, J_0le, J_0lt, J_eq0, vp_in_J, J_clamp, J_max, J_abs, Int.toNat_natCast, Int.reduceToNat, Int.reduceAdd, Int.reduceSub, Int.reduceMul, Int.reduceNeg, not_true_eq_false, not_false_eq_true] at c; omega
      · rw [J_plr ho (by omega)]
        generalize hpp : plr order k = p at *
        obtain ⟨s1, s2, s3, s4, s5⟩ := hsp
        have hcw : colsW w (sS σ p) = w - wideN (sS σ p) + 1 := rfl
        have hcp : 0 < colsW w (sS σ p) := by omega
        have paint : ∀ f r : Nat, r + f = 5 → ∀ M2 : Mem, (∀ j, j < 40 → M2 29 j = J ((if spY q.1 (sS σ p) w ≤ j ∧ j < spY q.1 (sS σ p) w + r then q.1 j ||| (rowN (sS σ p) ((j - spY q.1 (sS σ p) w : Nat) : Int) * 2 ^ spX q.1 (sS σ p) w) else q.1 j : Nat) : Int)) → (∀ a j, a ≠ 29 → M2 a j = M1 a j) → R none (d + 4) mX5_fills 95 [.ref 18, .int (J (w : Int)), .int (J (n : Int)), .int (J (order : Int)), .int (J (q.2 : Int)), .int (J (k : Int)), .int (J (p : Int)), .int (J (spX q.1 (sS σ p) w : Nat)), .int (J (spY q.1 (sS σ p) w : Nat)), .int (J (r : Int))] [] M2 Q := by
          intro f
          induction f with
          | zero =>
            intro r hr M2 hM2 hF2
            have hr5 : r = 5 := by omega
            subst hr5
            have htall : mset (mset M2 30 k (J (spX q.1 (sS σ p) w : Nat))) 31 k (J (spY q.1 (sS σ p) w : Nat)) 22 p = J (tallN (sS σ p) : Int) := by
              rw [mset_o (by decide), mset_o (by decide), hF2 22 p (by decide)]
              exact (hT1.2.2.2.2.1 p hp1).2.2
            have ih3 := ih2 (mset (mset M2 30 k (J (spX q.1 (sS σ p) w : Nat))) 31 k (J (spY q.1 (sS σ p) w : Nat))) (fun j hj => by rw [mset_o (by decide), mset_o (by decide)]; exact hM2 j hj) (fun j hj => ?_) (fun a j h1 h2 h3 => by rw [mset_o h3, mset_o h2, hF2 a j h1]; exact hF a j h1 h2 h3)
            · refine b_X5_fills_95 ⟨fun _ => ⟨vin (by omega) (by omega), vin (by omega) (by omega), vin (by omega) (by omega), ?_⟩, fun c => ?_⟩
              · rw [nI2 (by omega), nI2 (by omega), htall, J_addN, J_suc]
                have hmax : (pG σ w q p).2 = max q.2 (spY q.1 (sS σ p) w + tallN (sS σ p)) := rfl
                rw [hmax] at ih3
                refine ⟨fun c => ?_, fun c => ⟨vin (by omega) (by omega), ?_⟩⟩
                · simp (disch := omega) only [J_add, J_sub, J_mul, J_neg, J_bit, J_shl, J_shr, J_andn, J_and, J_or, J_xor, J_div, J_rem, J_lt, J_le, J_eq, J_lt0, J_le0, J_0le, J_0lt, J_eq0, vp_in_J, J_clamp, J_max, J_abs, Int.toNat_natCast, Int.reduceToNat, Int.reduceAdd, Int.reduceSub, Int.reduceMul, Int.reduceNeg, not_true_eq_false, not_false_eq_true] at c
                  rw [Nat.max_eq_left (by omega)] at ih3
                  exact ih3
                · simp (disch := omega) only [J_add, J_sub, J_mul, J_neg, J_bit, J_shl, J_shr, J_andn, J_and, J_or, J_xor, J_div, J_rem, J_lt, J_le, J_eq, J_lt0, J_le0, J_0le, J_0lt, J_eq0, vp_in_J, J_clamp, J_max, J_abs, Int.toNat_natCast, Int.reduceToNat, Int.reduceAdd, Int.reduceSub, Int.reduceMul, Int.reduceNeg, not_true_eq_false, not_false_eq_true] at c
                  rw [Nat.max_eq_right (by omega)] at ih3
                  exact ih3
              · simp (disch := omega) only [J_add, J_sub, J_mul, J_neg, J_bit, J_shl, J_shr, J_andn, J_and, J_or, J_xor, J_div, J_rem, J_lt, J_le, J_eq, J_lt0, J_le0, J_0le, J_0lt, J_eq0, vp_in_J, J_clamp, J_max, J_abs, Int.toNat_natCast, Int.reduceToNat, Int.reduceAdd, Int.reduceSub, Int.reduceMul, Int.reduceNeg, not_true_eq_false, not_false_eq_true] at c; omega
            · by_cases e : j = k
              · subst e
                rw [mset_o (by decide), mset_self, mset_self]
                rw [hqq, hpp]; exact ⟨rfl, rfl⟩
              · rw [mset_o (by decide), mset_k e, mset_k e, mset_o (by decide), hF2 30 j (by decide), hF2 31 j (by decide)]
                exact hS j (by omega)
          | succ f ihf =>
            intro r hr M2 hM2 hF2
            have hT2 := hT1.keep (fun a j hq => hF2 a j (by omega))
            refine b_X5_fills_95 ⟨fun c => ?_, fun _ => ?_⟩
            · simp (disch := omega) only [J_add, J_sub, J_mul, J_neg, J_bit, J_shl, J_shr, J_andn, J_and, J_or, J_xor, J_div, J_rem, J_lt, J_le, J_eq, J_lt0, J_le0, J_0le, J_0lt, J_eq0, vp_in_J, J_clamp, J_max, J_abs, Int.toNat_natCast, Int.reduceToNat, Int.reduceAdd, Int.reduceSub, Int.reduceMul, Int.reduceNeg, not_true_eq_false, not_false_eq_true] at c; omega
            · rw [J_addN]
              refine ⟨vin (by omega) (by omega), r_rowOf hT2 hW hp1 (by omega) (ri_some ⟨vin (by omega) (by omega), ?_⟩)⟩
              rw [nI2 (by omega), hM2 _ (by omega), if_neg (by omega), J_shlN (by omega), J_orN, J_suc]
              refine ihf (r + 1) (by omega) _ (fun j hj => ?_) (fun a j h1 => by rw [mset_o h1]; exact hF2 a j h1)
              by_cases e : j = spY q.1 (sS σ p) w + r
              · subst e
                rw [mset_self, if_pos (by omega), show spY q.1 (sS σ p) w + r - spY q.1 (sS σ p) w = r by omega]
              · rw [mset_k e, hM2 j hj]
                by_cases e2 : spY q.1 (sS σ p) w ≤ j ∧ j < spY q.1 (sS σ p) w + r
                · rw [if_pos e2, if_pos (by omega)]
                · rw [if_neg e2, if_neg (by omega)]
        have walk : ∀ f t : Nat, t + f = spotT q.1 (sS σ p) w → R none (d + 4) mX5_fills 53 [.ref 18, .int (J (w : Int)), .int (J (n : Int)), .int (J (order : Int)), .int (J (q.2 : Int)), .int (J (k : Int)), .int (J (p : Int)), .int (J (t % colsW w (sS σ p) : Nat)), .int (J (t / colsW w (sS σ p) : Nat)), .null] [] M1 Q := by
          intro f
          induction f with
          | zero =>
            intro t ht
            have e1 : t % colsW w (sS σ p) = spX q.1 (sS σ p) w := by rw [show t = spotT q.1 (sS σ p) w by omega]; rfl
            have e2 : t / colsW w (sS σ p) = spY q.1 (sS σ p) w := by rw [show t = spotT q.1 (sS σ p) w by omega]; rfl
            rw [e1, e2]
            refine b_X5_fills_53 (r_isFree hT1 hW hG hp1 (by omega) (by omega) (ri_some ?_))
            rw [s1, jb_ne, jb_eq0]
            refine ⟨fun _ => paint 5 0 (by omega) M1 (fun j hj => ?_) (fun _ _ _ => rfl), fun c => by cases c⟩
            rw [if_neg (by omega)]
            exact hG j hj
          | succ f ihf =>
            intro t ht
            have hm := Nat.mod_lt t hcp
            have hd : t / colsW w (sS σ p) ≤ 5 * k := Nat.div_le_of_le_mul (by rw [Nat.mul_comm]; omega)
            obtain ⟨n1, n2⟩ := next_dm hcp t
            have ih3 := ihf (t + 1) (by omega)
            refine b_X5_fills_53 (r_isFree hT1 hW hG hp1 (by omega) (by omega) (ri_some ?_))
            rw [s5 t (by omega), jb_ne, jb_eq0]
            refine ⟨fun c => (by cases c), fun _ => ⟨vin (by omega) (by omega), ?_⟩⟩
            rw [nI2 (by omega), (hT1.2.2.2.2.1 p hp1).2.1, J_sub, J_suc, J_le (by omega) (by omega) (by omega) (by omega), J_suc]
            refine ⟨fun c => ?_, fun c => ?_⟩
            · obtain ⟨e1, e2⟩ := n1 (by omega)
              rw [e1, e2] at ih3; exact ih3
            · obtain ⟨e1, e2⟩ := n2 (by omega)
              rw [e1, e2] at ih3; exact ih3
        have hst := walk (spotT q.1 (sS σ p) w) 0 (by omega)
        rw [Nat.zero_mod, Nat.zero_div] at hst
        exact hst
  have zero : ∀ f j : Nat, j + f = 40 → ∀ M1 : Mem, (∀ i, i < j → M1 29 i = J 0) → LF5 M M1 → R none (d + 4) mX5_fills 3 [.ref 18, .int (J (w : Int)), .int (J (n : Int)), .int (J (order : Int)), .int (J (j : Int)), .null, .null, .null, .null, .null] [] M1 Q := by
    intro f
    induction f with
    | zero =>
      intro j hj M1 hz hF
      refine b_X5_fills_3 ⟨fun _ => ?_, fun c => ?_⟩
      · exact key n 0 (by omega) M1 (fun i hi => hz i (by omega)) (fun i hi => by omega) hF
      · simp (disch := omega) only [J_add, J_sub, J_mul, J_neg, J_bit, J_shl, J_shr, J_andn, J_and, J_or, J_xor, J_div, J_rem, J_lt, J_le, J_eq, J_lt0, J_le0, J_0le, J_0lt, J_eq0, vp_in_J, J_clamp, J_max, J_abs, Int.toNat_natCast, Int.reduceToNat, Int.reduceAdd, Int.reduceSub, Int.reduceMul, Int.reduceNeg, not_true_eq_false, not_false_eq_true] at c; omega
    | succ f ih =>
      intro j hj M1 hz hF
      refine b_X5_fills_3 ⟨fun c => ?_, fun _ => ⟨vin (by omega) (by omega), ?_⟩⟩
      · simp (disch := omega) only [J_add, J_sub, J_mul, J_neg, J_bit, J_shl, J_shr, J_andn, J_and, J_or, J_xor, J_div, J_rem, J_lt, J_le, J_eq, J_lt0, J_le0, J_0le, J_0lt, J_eq0, vp_in_J, J_clamp, J_max, J_abs, Int.toNat_natCast, Int.reduceToNat, Int.reduceAdd, Int.reduceSub, Int.reduceMul, Int.reduceNeg, not_true_eq_false, not_false_eq_true] at c; omega
      · rw [nI2 (by omega), J_suc]
        refine ih (j + 1) (by omega) _ (fun i hi => ?_) (fun a i h1 h2 h3 => by rw [mset_o h1]; exact hF a i h1 h2 h3)
        by_cases e : i = j
        · subst e; rw [mset_self]
        · rw [mset_k e]; exact hz i (by omega)
  exact e_X5_fills (zero 40 0 (by omega) M (fun i hi => by omega) (fun _ _ _ _ _ => rfl))
theorem m_strip {S : SS} {w n o t : Int} (hC : MR M S) (hO : OKS S) (hw : BI32 w) (hn : BI32 n) (ho : BI32 o) (ht : BI32 t) (h : ∀ M', MR M' S → NF M M' → Q (some (J (aStrip S w n o t))) M') : Mt (d + 12) mX5_strip [.ref 18, .int (J w), .int (J n), .int (J o), .int (J t)] M Q := by
  have hW := hO.1
  have hN := hW.N
  have hT := hC.1
  unfold aStrip at h
  have bad : ¬ stripOK S.1 w n o t → Q (some (J (-1))) M := by
    intro q
    rw [if_neg (by rw [pb_t]; exact q)] at h
    exact h M hC NF.rf
  refine e_X5_strip (r_in hw (b32 (by omega) (by omega)) (b32 (by omega) (by omega)) (ri_some ?_))
  rw [jb_ne, jb_eq0]
  refine ⟨fun q => bad (fun g => absurd g.1 (of_decide_eq_false q)), fun q => r_in hn (b32 (by omega) (by omega)) (b32 (by omega) (by omega)) (ri_some ?_)⟩
  have hw12 := of_decide_eq_true q
  rw [jb_ne, jb_eq0]
  refine ⟨fun q2 => bad (fun g => absurd g.2.1 (of_decide_eq_false q2)), fun q2 => ?_⟩
  have hn5 := of_decide_eq_true q2
  obtain ⟨v, rfl⟩ := J_nat (show 0 ≤ w by omega)
  obtain ⟨m, rfl⟩ := J_nat (show 0 ≤ n by omega)
  have h8 : (1 : Int) * 2 ^ (3 * m) = ((8 ^ m : Nat) : Int) := by rw [Int.one_mul, pow8, Int.natCast_pow]; rfl
  have h8b : 8 ^ m ≤ 8 ^ 5 := Nat.pow_le_pow_right (by omega) (by omega)
  have h8p : 0 < 8 ^ m := Nat.pow_pos (by omega)
  have h8c : (8 : Int) ^ m = ((8 ^ m : Nat) : Int) := by rw [Int.natCast_pow]; rfl
  rw [J_mul, show (3 : Int) * (m : Int) = ((3 * m : Nat) : Int) by omega, J_shl (by omega) (by omega), Int.toNat_natCast, h8, J_sub]
  refine r_in ho (b32 (by omega) (by omega)) (b32 (by omega) (by omega)) (ri_some ?_)
  rw [jb_ne, jb_eq0]
  refine ⟨fun q3 => bad (fun g => ?_), fun q3 => r_in ht (b32 (by omega) (by omega)) (b32 (by omega) (by omega)) (ri_some ?_)⟩
  · have g3 := g.2.2.1
    rw [Int.toNat_natCast, h8c] at g3
    exact of_decide_eq_false q3 ⟨g3.1, by omega⟩
  have ho8 := of_decide_eq_true q3
  obtain ⟨k, rfl⟩ := J_nat ho8.1
  rw [jb_ne, jb_eq0]
  refine ⟨fun q4 => ?_, fun q4 => bad (fun g => absurd g.2.2.2.1 (of_decide_eq_false q4))⟩
  have htn := of_decide_eq_true q4
  have key : ∀ f i : Nat, i + f = m → (∀ j, j < i → (plr k j < sN S.1 ∧ wideN (sS S.1 (plr k j)) ≤ v) ∧ ∀ j', j' < j → plr k j' ≠ plr k j) → R none (d + 12) mX5_strip 52 [.ref 18, .int (J (v : Int)), .int (J (m : Int)), .int (J (k : Int)), .int (J t), .int (J (setL k i : Nat)), .int (J (i : Int)), .null] [] M Q := by
    intro f
    induction f with
    | zero =>
      intro i hi hj
      have him : i = m := by omega
      subst him
      have hok : stripOK S.1 (v : Int) (i : Int) (k : Int) t := by
        refine ⟨hw12, hn5, ⟨by omega, ?_⟩, htn, fun j hj2 => ?_⟩
        · rw [Int.toNat_natCast, h8c]; omega
        · rw [Int.toNat_natCast] at hj2 ⊢
          exact ⟨⟨(hj j hj2).1.1, by have := (hj j hj2).1.2; omega⟩, (hj j hj2).2⟩
      rw [if_pos (by rw [pb_t]; exact hok), Int.toNat_natCast, Int.toNat_natCast, Int.toNat_natCast] at h
      refine b_X5_strip_52 ⟨fun _ => r_fills hT hW (by omega) (by omega) (by omega) (fun j h1 => (hj j h1).1) (fun M1 g1 g2 => ri_some ?_), fun c => ?_⟩
      · have h1 := h M1 (hC.keep g2.QF) g2.QF.NF
        rw [J_eq0 (by omega) (by omega)]
        refine ⟨fun q8 => ?_, fun q8 => ?_⟩
        · rw [if_neg q8] at h1
          obtain ⟨u, hu⟩ := J_nat (show 0 ≤ t - 1 by omega)
          obtain ⟨f1, f2⟩ := g1 u (by omega)
          rw [J_sub, hu]
          refine ⟨vin (by omega) (by omega), vin (by omega) (by omega), ?_⟩
          rw [nI2 (by omega), f1, f2, J_mul, J_add]
          rw [show t.toNat - 1 = u by omega] at h1
          exact h1
        · rw [if_pos q8] at h1; exact h1
      · simp (disch := omega) only [J_add, J_sub, J_mul, J_neg, J_bit, J_shl, J_shr, J_andn, J_and, J_or, J_xor, J_div, J_rem, J_lt, J_le, J_eq, J_lt0, J_le0, J_0le, J_0lt, J_eq0, vp_in_J, J_clamp, J_max, J_abs, Int.toNat_natCast, Int.reduceToNat, Int.reduceAdd, Int.reduceSub, Int.reduceMul, Int.reduceNeg, not_true_eq_false, not_false_eq_true] at c; omega
    | succ f ih =>
      intro i hi hj
      have hpl := plr_lt k i
      have hsl := setL_lt k i
      have nope : ¬ ((plr k i < sN S.1 ∧ (wideN (sS S.1 (plr k i)) : Int) ≤ (v : Int)) ∧ ∀ j', j' < i → plr k j' ≠ plr k i) → Q (some (J (-1))) M := fun g => bad (fun hok => g (by
        have := hok.2.2.2.2 i
        rw [Int.toNat_natCast, Int.toNat_natCast] at this
        exact this (by omega)))
      refine b_X5_strip_52 ⟨fun c => ?_, fun _ => ?_⟩
      · simp (disch := omega) only [J_add, J_sub, J_mul, J_neg, J_bit, J_shl, J_shr, J_andn, J_and, J_or, J_xor, J_div, J_rem, J_lt, J_le, J_eq, J_lt0, J_le0, J_0le, J_0lt, J_eq0, vp_in_J, J_clamp, J_max, J_abs, Int.toNat_natCast, Int.reduceToNat, Int.reduceAdd, Int.reduceSub, Int.reduceMul, Int.reduceNeg, not_true_eq_false, not_false_eq_true] at c; omega
      · rw [J_plr (by omega) (by omega)]
        refine r_isPiece hT hW (b32 (by omega) (by omega)) (ri_some ?_)
        rw [jb_ne, jb_eq0, J_tb (by omega) (by omega), jb_eq1]
        refine ⟨fun c => nope (fun g => ?_), fun c => ⟨fun c2 => nope (fun g => ?_), fun c2 => ⟨vin (by omega) (by omega), ?_⟩⟩⟩
        · have := of_decide_eq_false c
          omega
        · obtain ⟨j', r1, r2⟩ := (setL_bit k i _).mp c2
          exact g.2 j' r1 r2
        · have hc := of_decide_eq_true c
          have hwl := wideN_le (sS S.1 (plr k i))
          rw [nI2 (by omega), (hT.2.2.2.2.1 _ (show plr k i < sN S.1 by omega)).2.1, J_le (by omega) (by omega) (by omega) (by omega), J_or1 (by omega), J_suc]
          refine ⟨fun c3 => ?_, fun c3 => nope (fun g => c3 g.1.2)⟩
          exact ih (i + 1) (by omega) (fun j hj2 => by
            by_cases e : j = i
            · subst e
              exact ⟨⟨by omega, by omega⟩, fun j' h1 h2 => c2 ((setL_bit k j _).mpr ⟨j', h1, h2⟩)⟩
            · exact hj j (by omega))
  exact key m 0 (by omega) (fun j hj => by omega)
end MST
