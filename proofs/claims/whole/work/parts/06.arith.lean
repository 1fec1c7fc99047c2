/-! ints by the numbers that they tell -/
theorem J_of (x : Int32) : ∃ z : Int, x = J z ∧ -2147483648 ≤ z ∧ z < 2147483648 :=
  ⟨x.toInt, (Int32.ofInt_toInt x).symm, by have := x.le_toInt; omega, by have := x.toInt_lt; omega⟩
theorem J_add (a b : Int) : J a + J b = J (a + b) := (Int32.ofInt_add a b).symm
theorem J_sub (a b : Int) : J a - J b = J (a - b) := (Int32.ofInt_sub a b).symm
theorem J_mul (a b : Int) : J a * J b = J (a * b) := (Int32.ofInt_mul a b).symm
theorem J_neg (a : Int) : -J a = J (-a) := (Int32.ofInt_neg a).symm
theorem J_toInt {a : Int} (h1 : -2147483648 ≤ a) (h2 : a < 2147483648) : (J a).toInt = a := Int32.toInt_ofInt_of_le (by omega) (by omega)
theorem J_lt {a b : Int} (h1 : -2147483648 ≤ a) (h2 : a < 2147483648) (h3 : -2147483648 ≤ b) (h4 : b < 2147483648) : J a < J b ↔ a < b := by
  rw [Int32.lt_iff_toInt_lt, J_toInt h1 h2, J_toInt h3 h4]
theorem J_le {a b : Int} (h1 : -2147483648 ≤ a) (h2 : a < 2147483648) (h3 : -2147483648 ≤ b) (h4 : b < 2147483648) : J a ≤ J b ↔ a ≤ b := by
  rw [Int32.le_iff_toInt_le, J_toInt h1 h2, J_toInt h3 h4]
theorem J_eq {a b : Int} (h1 : -2147483648 ≤ a) (h2 : a < 2147483648) (h3 : -2147483648 ≤ b) (h4 : b < 2147483648) : J a = J b ↔ a = b := by
  rw [← Int32.toInt_inj, J_toInt h1 h2, J_toInt h3 h4]
theorem J_0 : (0 : Int32) = J 0 := rfl
theorem J_lt0 {a : Int} (h1 : -2147483648 ≤ a) (h2 : a < 2147483648) : J a < 0 ↔ a < 0 := by
  rw [J_0]; exact J_lt h1 h2 (by omega) (by omega)
theorem J_le0 {a : Int} (h1 : -2147483648 ≤ a) (h2 : a < 2147483648) : J a ≤ 0 ↔ a ≤ 0 := by
  rw [J_0]; exact J_le h1 h2 (by omega) (by omega)
theorem J_0le {a : Int} (h1 : -2147483648 ≤ a) (h2 : a < 2147483648) : 0 ≤ J a ↔ 0 ≤ a := by
  rw [J_0]; exact J_le (by omega) (by omega) h1 h2
theorem J_0lt {a : Int} (h1 : -2147483648 ≤ a) (h2 : a < 2147483648) : 0 < J a ↔ 0 < a := by
  rw [J_0]; exact J_lt (by omega) (by omega) h1 h2
theorem J_eq0 {a : Int} (h1 : -2147483648 ≤ a) (h2 : a < 2147483648) : J a = 0 ↔ a = 0 := by
  rw [J_0]; exact J_eq h1 h2 (by omega) (by omega)
theorem J_clamp {a : Int} (h1 : -2147483648 ≤ a) (h2 : a < 2147483648) : (J a).toNatClampNeg = a.toNat := Int32.toNatClampNeg_ofInt_of_le (by omega) (by omega)
theorem vp_in_J {a : Int} {n : Nat} (h1 : -2147483648 ≤ a) (h2 : a < 2147483648) : vp_in (J a) n ↔ 0 ≤ a ∧ a < n := by
  rw [vp_in_iff, J_toInt h1 h2]
theorem J_max {a b : Int} (h1 : -2147483648 ≤ a) (h2 : a < 2147483648) (h3 : -2147483648 ≤ b) (h4 : b < 2147483648) : jmax (J a) (J b) = J (max a b) := by
  unfold jmax
  rw [Int.max_def]
  by_cases h : a < b
  · rw [if_pos ((J_lt h1 h2 h3 h4).mpr h), if_pos (by omega)]
  · rw [if_neg (fun q => h ((J_lt h1 h2 h3 h4).mp q))]
    by_cases h5 : a ≤ b
    · rw [if_pos h5, show a = b by omega]
    · rw [if_neg h5]
theorem J_abs {a : Int} (h1 : -2147483648 ≤ a) (h2 : a < 2147483648) : jabs (J a) = J (a.natAbs : Int) := by
  unfold jabs
  by_cases h : 0 ≤ a
  · rw [if_pos ((J_0le h1 h2).mpr h), show (a.natAbs : Int) = a by omega]
  · rw [if_neg (fun q => h ((J_0le h1 h2).mp q)), J_0, J_sub, show (a.natAbs : Int) = 0 - a by omega]
theorem J_div {a b : Int} (h0 : 0 ≤ a) (h2 : a < 2147483648) (h3 : 0 < b) (h4 : b < 2147483648) : J a / J b = J (a / b) := by
  rw [← Int32.toInt_inj, Int32.toInt_div_of_ne_right _ _ (by rw [show (-1 : Int32) = J (-1) from rfl]; intro q; rw [J_eq (by omega) (by omega) (by omega) (by omega)] at q; omega), J_toInt (by omega) h2, J_toInt (by omega) h4]
  have : a / b ≤ a := Int.ediv_le_self b h0
  have h5 : 0 ≤ a / b := Int.ediv_nonneg h0 (by omega)
  rw [J_toInt (by omega) (by omega), Int.tdiv_eq_ediv_of_nonneg h0]
theorem J_rem {a b : Int} (h0 : 0 ≤ a) (h2 : a < 2147483648) (h3 : 0 < b) (h4 : b < 2147483648) : J a - J (a / b) * J b = J (a % b) := by
  rw [J_mul, J_sub, Int.emod_def, Int.mul_comm]
theorem J_and {a b : Int} (ha : 0 ≤ a) (hb : 0 ≤ b) : J a &&& J b = J ((a.toNat &&& b.toNat : Nat) : Int) := by
  obtain ⟨n, rfl⟩ := Int.eq_ofNat_of_zero_le ha
  obtain ⟨m, rfl⟩ := Int.eq_ofNat_of_zero_le hb
  simp only [Int.toNat_natCast]
  unfold J
  rw [Int32.ofInt_eq_ofNat, Int32.ofInt_eq_ofNat, Int32.ofInt_eq_ofNat]
  apply Int32.toBitVec.inj
  simp [Int32.toBitVec_and]
theorem J_or {a b : Int} (ha : 0 ≤ a) (hb : 0 ≤ b) : J a ||| J b = J ((a.toNat ||| b.toNat : Nat) : Int) := by
  obtain ⟨n, rfl⟩ := Int.eq_ofNat_of_zero_le ha
  obtain ⟨m, rfl⟩ := Int.eq_ofNat_of_zero_le hb
  simp only [Int.toNat_natCast]
  unfold J
  rw [Int32.ofInt_eq_ofNat, Int32.ofInt_eq_ofNat, Int32.ofInt_eq_ofNat]
  apply Int32.toBitVec.inj
  simp [Int32.toBitVec_or]
theorem J_xor {a b : Int} (ha : 0 ≤ a) (hb : 0 ≤ b) : J a ^^^ J b = J ((a.toNat ^^^ b.toNat : Nat) : Int) := by
  obtain ⟨n, rfl⟩ := Int.eq_ofNat_of_zero_le ha
  obtain ⟨m, rfl⟩ := Int.eq_ofNat_of_zero_le hb
  simp only [Int.toNat_natCast]
  unfold J
  rw [Int32.ofInt_eq_ofNat, Int32.ofInt_eq_ofNat, Int32.ofInt_eq_ofNat]
  apply Int32.toBitVec.inj
  simp [Int32.toBitVec_xor]
theorem J_bits (a : Int) : (J a).toBitVec = BitVec.ofInt 32 a := rfl
theorem J_natbits (n : Nat) : (J (n : Int)).toBitVec = BitVec.ofNat 32 n := by rw [J_bits]; exact BitVec.ofInt_natCast ..
/-- a without the bits of b -/
def wo (a b : Nat) : Nat := a ^^^ (a &&& b)
theorem wo_bit (a b i : Nat) : (wo a b).testBit i = (a.testBit i && !b.testBit i) := by
  unfold wo
  rw [Nat.testBit_xor, Nat.testBit_and]
  cases a.testBit i <;> cases b.testBit i <;> rfl
theorem J_andn {a b : Int} (ha : 0 ≤ a) (ha2 : a < 4294967296) (hb : 0 ≤ b) (hb2 : b < 4294967296) : J a &&& (J b ^^^ J (-1)) = J ((wo a.toNat b.toNat : Nat) : Int) := by
  obtain ⟨n, rfl⟩ := Int.eq_ofNat_of_zero_le ha
  obtain ⟨m, rfl⟩ := Int.eq_ofNat_of_zero_le hb
  simp only [Int.toNat_natCast]
  apply Int32.toBitVec.inj
  rw [Int32.toBitVec_and, Int32.toBitVec_xor, J_natbits, J_natbits, J_natbits, show (J (-1)).toBitVec = BitVec.allOnes 32 from by decide +kernel]
  apply BitVec.eq_of_getLsbD_eq
  intro i hi
  simp only [BitVec.getLsbD_and, BitVec.getLsbD_xor, BitVec.getLsbD_ofNat, BitVec.getLsbD_allOnes, hi, decide_true, Bool.true_and, wo_bit, Bool.xor_true]
theorem mod31 {k : Int} (h0 : 0 ≤ k) (h1 : k < 32) : ((J k &&& 31).toBitVec.smod 32).toNat = k.toNat := by
  have : ∀ n : Nat, n < 32 → ((J (n : Int) &&& 31).toBitVec.smod 32).toNat = n := by decide +kernel
  obtain ⟨n, rfl⟩ := Int.eq_ofNat_of_zero_le h0
  exact this n (by omega)
theorem J_shl {a k : Int} (h0 : 0 ≤ k) (h1 : k < 32) : J a <<< (J k &&& 31) = J (a * 2 ^ k.toNat) := by
  apply Int32.toBitVec.inj
  rw [Int32.toBitVec_shiftLeft, BitVec.shiftLeft_eq', mod31 h0 h1]
  apply BitVec.eq_of_toInt_eq
  rw [BitVec.toInt_shiftLeft, J_bits, J_bits, BitVec.toInt_ofInt, Nat.shiftLeft_eq, BitVec.toNat_ofInt]
  have e : (((a % ((2 ^ 32 : Nat) : Int)).toNat * 2 ^ k.toNat : Nat) : Int) = (a % ((2 ^ 32 : Nat) : Int)) * 2 ^ k.toNat := by
    have h5 : 0 ≤ a % ((2 ^ 32 : Nat) : Int) := Int.emod_nonneg a (by decide)
    rw [Int.natCast_mul, Int.toNat_of_nonneg h5, Int.natCast_pow]
    rfl
  rw [e]
  unfold Int.bmod
  rw [show a % ((2 ^ 32 : Nat) : Int) * 2 ^ k.toNat % ((2 ^ 32 : Nat) : Int) = a * 2 ^ k.toNat % ((2 ^ 32 : Nat) : Int) by rw [Int.mul_emod, Int.emod_emod, ← Int.mul_emod]]
theorem J_shr {a k : Int} (h1 : -2147483648 ≤ a) (h2 : a < 2147483648) (h3 : 0 ≤ k) (h4 : k < 32) : J a >>> (J k &&& 31) = J (a / 2 ^ k.toNat) := by
  rw [← Int32.toInt_inj, pk_shr _ _ k.toNat (mod31 h3 h4), J_toInt h1 h2, Int.shiftRight_eq_div_pow]
  have hp : (0 : Int) < ((2 ^ k.toNat : Nat) : Int) := Int.natCast_pos.mpr (Nat.two_pow_pos _)
  have e : (2 : Int) ^ k.toNat = ((2 ^ k.toNat : Nat) : Int) := by rw [Int.natCast_pow]; rfl
  rw [e]
  have h5 : a / ((2 ^ k.toNat : Nat) : Int) < 2147483648 := by
    rcases (show a < 0 ∨ 0 ≤ a by omega) with q | q
    · have := Int.ediv_neg_of_neg_of_pos q hp
      omega
    · have := Int.ediv_le_self (a := a) ((2 ^ k.toNat : Nat) : Int) q
      omega
  have h6 : -2147483648 ≤ a / ((2 ^ k.toNat : Nat) : Int) := by
    rw [Int.le_ediv_iff_mul_le hp]
    have : (1 : Int) ≤ ((2 ^ k.toNat : Nat) : Int) := hp
    have h7 : (-2147483648 : Int) * ((2 ^ k.toNat : Nat) : Int) ≤ (-2147483648) * 1 := Int.mul_le_mul_of_nonpos_left (by omega) this
    omega
  rw [J_toInt h6 h5]
theorem J_bit {n : Nat} {k : Int} (hn : (n : Int) < 2147483648) (h3 : 0 ≤ k) (h4 : k < 32) : (J (n : Int) >>> (J k &&& 31)) &&& J 1 = J (if n.testBit k.toNat then 1 else 0) := by
  have e : (2 : Int) ^ k.toNat = ((2 ^ k.toNat : Nat) : Int) := by rw [Int.natCast_pow]; rfl
  rw [J_shr (by omega) hn h3 h4, e, ← Int.natCast_ediv, J_and (Int.natCast_nonneg _) (by omega)]
  simp only [Int.toNat_natCast]
  rw [show ((1 : Int).toNat) = 1 from rfl, Nat.and_one_is_mod, Nat.testBit_eq_decide_div_mod_eq]
  rcases Nat.mod_two_eq_zero_or_one (n / 2 ^ k.toNat) with h | h <;> simp [h]
theorem J_ushr {a k : Int} (h1 : 0 ≤ a) (h2 : a < 2147483648) (h3 : 0 ≤ k) (h4 : k < 32) : ushr (J a) (J k) = J (a / 2 ^ k.toNat) := by
  have hm : ∀ n : Nat, n < 32 → (((J (n : Int)).toUInt32 &&& Int32.toUInt32 31).toBitVec % 32).toNat = n := by decide +kernel
  obtain ⟨n, rfl⟩ := Int.eq_ofNat_of_zero_le h1
  obtain ⟨j, rfl⟩ := Int.eq_ofNat_of_zero_le h3
  have e : J (n : Int) = nI n := by unfold J nI; exact Int32.ofInt_eq_ofNat
  unfold ushr
  rw [e, pk_ushrN (by omega) _ j (hm j (by omega))]
  unfold nI J
  rw [Int.toNat_natCast, show ((n : Int) / 2 ^ j) = ((n / 2 ^ j : Nat) : Int) by rw [Int.natCast_ediv, Int.natCast_pow]; rfl, Int32.ofInt_eq_ofNat]
theorem mset_ap (M : Mem) (o k : Nat) (v : Int32) (a j : Nat) : mset M o k v a j = if a = o then (if j = k then v else M o j) else M a j := by
  unfold mset mput upd
  by_cases h : a = o
  · simp [h]
  · simp [h]
