/-! the JDK's bitCount, byte by byte -/
def q1 (M n : Nat) : Nat := n - (n / 2 &&& M)
def q2 (M n : Nat) : Nat := (n &&& M) + (n / 4 &&& M)
def q3 (M n : Nat) : Nat := (n + n / 16) &&& M
theorem tb1 : ∀ a, a < 256 → ∀ r, r < 2 → (a / 2 + 128 * r) &&& 85 = a / 2 &&& 85 := by decide +kernel
theorem tb2 : ∀ a, a < 256 → (a / 2 &&& 85) ≤ a ∧ q1 85 a < 256 := by decide +kernel
theorem tb3 : ∀ a, a < 256 → ∀ r, r < 4 → (a / 4 + 64 * r) &&& 51 = a / 4 &&& 51 := by decide +kernel
theorem tb4 : ∀ a, a < 256 → q2 51 (q1 85 a) ≤ 68 ∧ q2 51 (q1 85 a) % 16 ≤ 4 ∧ q2 51 (q1 85 a) / 16 ≤ 4 ∧ q3 15 (q2 51 (q1 85 a)) = pcR 8 a := by decide +kernel
theorem tb5 : ∀ c, c < 69 → ∀ r, r < 5 → (c + c / 16 + 16 * r) &&& 15 = (c + c / 16) &&& 15 := by decide +kernel
theorem cut (n : Nat) : n = n % 256 + 2 ^ 8 * (n / 256) := by omega
theorem q1_le (M n : Nat) (h : (n / 256 / 2 &&& M) ≤ n / 256) : (n / 2 &&& (85 + 2 ^ 8 * M)) ≤ n ∧ q1 (85 + 2 ^ 8 * M) n = q1 85 (n % 256) + 2 ^ 8 * q1 M (n / 256) := by
  have h1 : n / 2 = (n % 256 / 2 + 128 * (n / 256 % 2)) + 2 ^ 8 * (n / 256 / 2) := by omega
  have h2 := tb1 (n % 256) (by omega) (n / 256 % 2) (by omega)
  have h3 := (tb2 (n % 256) (by omega)).1
  have h4 : n / 2 &&& (85 + 2 ^ 8 * M) = (n % 256 / 2 &&& 85) + 2 ^ 8 * (n / 256 / 2 &&& M) := by
    rw [h1, and_split (by omega) (by omega), h2]
  unfold q1
  rw [h4]
  have := cut n
  omega
theorem q2_cut (M n : Nat) : q2 (51 + 2 ^ 8 * M) n = q2 51 (n % 256) + 2 ^ 8 * q2 M (n / 256) := by
  have h1 : n / 4 = (n % 256 / 4 + 64 * (n / 256 % 4)) + 2 ^ 8 * (n / 256 / 4) := by omega
  have h2 := tb3 (n % 256) (by omega) (n / 256 % 4) (by omega)
  have h4 : n / 4 &&& (51 + 2 ^ 8 * M) = (n % 256 / 4 &&& 51) + 2 ^ 8 * (n / 256 / 4 &&& M) := by
    rw [h1, and_split (by omega) (by omega), h2]
  have h5 : n &&& (51 + 2 ^ 8 * M) = (n % 256 &&& 51) + 2 ^ 8 * (n / 256 &&& M) := by
    have := and_split (m := 8) (a := n % 256) (b := 51) (c := n / 256) (e := M) (by omega) (by omega)
    rw [← cut n] at this
    exact this
  unfold q2
  rw [h4, h5]
  omega
theorem q3_cut (M c p : Nat) (hc : c ≤ 68) (hp : p % 16 ≤ 4) : q3 (15 + 2 ^ 8 * M) (c + 2 ^ 8 * p) = q3 15 c + 2 ^ 8 * q3 M p := by
  have h1 : (c + 2 ^ 8 * p) + (c + 2 ^ 8 * p) / 16 = (c + c / 16 + 16 * (p % 16)) + 2 ^ 8 * (p + p / 16) := by omega
  have h2 := tb5 c (by omega) (p % 16) (by omega)
  unfold q3
  rw [h1, and_split (by omega) (by omega), h2]
/-- all three, of the bytes of n -/
theorem step3 (M1 M2 M3 n : Nat) (h : (n / 256 / 2 &&& M1) ≤ n / 256) (hp : q2 M2 (q1 M1 (n / 256)) % 16 ≤ 4) :
    (n / 2 &&& (85 + 2 ^ 8 * M1)) ≤ n ∧ q2 (51 + 2 ^ 8 * M2) (q1 (85 + 2 ^ 8 * M1) n) % 16 ≤ 4 ∧ q3 (15 + 2 ^ 8 * M3) (q2 (51 + 2 ^ 8 * M2) (q1 (85 + 2 ^ 8 * M1) n)) = pcR 8 (n % 256) + 2 ^ 8 * q3 M3 (q2 M2 (q1 M1 (n / 256))) := by
  obtain ⟨h1, h2⟩ := q1_le M1 n h
  have h3 := (tb2 (n % 256) (by omega)).2
  obtain ⟨h4, h5, -, h6⟩ := tb4 (n % 256) (by omega)
  have h7 : q2 (51 + 2 ^ 8 * M2) (q1 (85 + 2 ^ 8 * M1) n) = q2 51 (q1 85 (n % 256)) + 2 ^ 8 * q2 M2 (q1 M1 (n / 256)) := by
    rw [q2_cut, h2, show (q1 85 (n % 256) + 2 ^ 8 * q1 M1 (n / 256)) % 256 = q1 85 (n % 256) by omega, show (q1 85 (n % 256) + 2 ^ 8 * q1 M1 (n / 256)) / 256 = q1 M1 (n / 256) by omega]
  refine ⟨h1, by rw [h7]; omega, ?_⟩
  rw [h7, q3_cut M3 _ _ h4 hp, h6]
theorem pcR_add : ∀ j k n, pcR (j + k) n = pcR j n + pcR k (n / 2 ^ j) := by
  intro j
  induction j with
  | zero => intro k n; simp [pcR]
  | succ j ih =>
    intro k n
    rw [show j + 1 + k = (j + k) + 1 by omega, pcR, ih, pcR, Nat.div_div_eq_div_mul, Nat.pow_succ, Nat.mul_comm 2, Nat.add_assoc]
theorem pcR_mod (n : Nat) : pcR 8 (n % 256) = pcR 8 n := by
  simp only [pcR]
  omega
theorem pcR8_le : ∀ a, a < 256 → pcR 8 a ≤ 8 := by decide +kernel
theorem swar {n : Nat} (hn : n < 33554432) : ∃ y z w : Nat, y = n - (n / 2 &&& 1431655765) ∧ (n / 2 &&& 1431655765) ≤ n ∧ z = (y &&& 858993459) + (y / 4 &&& 858993459) ∧ w = ((z + z / 16) &&& 252645135) ∧ y < 2147483648 ∧ z < 2147483648 ∧ w + w / 256 < 2147483648 ∧ (w + w / 256 + (w + w / 256) / 65536) &&& 63 = pcR 25 n := by
  have k3 := step3 0 0 0 (n / 256 / 256 / 256) (by simp) (by simp [q2])
  have k2 := step3 (85 + 2 ^ 8 * 0) (51 + 2 ^ 8 * 0) (15 + 2 ^ 8 * 0) (n / 256 / 256) k3.1 k3.2.1
  have k1 := step3 _ _ (15 + 2 ^ 8 * (15 + 2 ^ 8 * 0)) (n / 256) k2.1 k2.2.1
  have k0 := step3 _ _ (15 + 2 ^ 8 * (15 + 2 ^ 8 * (15 + 2 ^ 8 * 0))) n k1.1 k1.2.1
  have e1 : (85 + 2 ^ 8 * (85 + 2 ^ 8 * (85 + 2 ^ 8 * (85 + 2 ^ 8 * 0)))) = 1431655765 := by decide
  have e2 : (51 + 2 ^ 8 * (51 + 2 ^ 8 * (51 + 2 ^ 8 * (51 + 2 ^ 8 * 0)))) = 858993459 := by decide
  have e3 : (15 + 2 ^ 8 * (15 + 2 ^ 8 * (15 + 2 ^ 8 * (15 + 2 ^ 8 * 0)))) = 252645135 := by decide
  rw [e1, e2, e3] at k0
  have hw : q3 252645135 (q2 858993459 (q1 1431655765 n)) = pcR 8 (n % 256) + 2 ^ 8 * (pcR 8 (n / 256 % 256) + 2 ^ 8 * (pcR 8 (n / 256 / 256 % 256) + 2 ^ 8 * pcR 8 (n / 256 / 256 / 256 % 256))) := by
    rw [k0.2.2, k1.2.2, k2.2.2, k3.2.2]
    have : q3 0 (q2 0 (q1 0 (n / 256 / 256 / 256 / 256))) = 0 := by simp [q3]
    rw [this, Nat.mul_zero, Nat.add_zero]
  have hy : q1 1431655765 n ≤ n := Nat.sub_le _ _
  have hz1 : q1 1431655765 n &&& 858993459 ≤ q1 1431655765 n := Nat.and_le_left
  have hz2 : q1 1431655765 n / 4 &&& 858993459 ≤ q1 1431655765 n / 4 := Nat.and_le_left
  have b0 := pcR8_le (n % 256) (by omega)
  have b1 := pcR8_le (n / 256 % 256) (by omega)
  have b2 := pcR8_le (n / 256 / 256 % 256) (by omega)
  have b3 : pcR 8 (n / 256 / 256 / 256 % 256) = pcR 1 (n / 256 / 256 / 256) := by
    have : n / 256 / 256 / 256 < 2 := by omega
    rcases (show n / 256 / 256 / 256 = 0 ∨ n / 256 / 256 / 256 = 1 by omega) with e | e <;> rw [e] <;> decide
  have b4 : pcR 1 (n / 256 / 256 / 256) ≤ 1 := by simp only [pcR]; omega
  have hpc : pcR 25 n = pcR 8 (n % 256) + (pcR 8 (n / 256 % 256) + (pcR 8 (n / 256 / 256 % 256) + pcR 1 (n / 256 / 256 / 256))) := by
    rw [show 25 = 8 + (8 + (8 + 1)) from rfl, pcR_add, pcR_add, pcR_add, pcR_mod, pcR_mod, pcR_mod]
  refine ⟨q1 1431655765 n, q2 858993459 (q1 1431655765 n), q3 252645135 (q2 858993459 (q1 1431655765 n)), rfl, k0.1, rfl, rfl, by omega, by unfold q2; omega, ?_, ?_⟩
  · rw [hw, b3]; omega
  · rw [hw, b3, hpc, and63]
    generalize pcR 8 (n % 256) = c0 at *
    generalize pcR 8 (n / 256 % 256) = c1 at *
    generalize pcR 8 (n / 256 / 256 % 256) = c2 at *
    generalize pcR 1 (n / 256 / 256 / 256) = c3 at *
    clear hw k0 k1 k2 k3 hpc b3 hz1 hz2 hy e1 e2 e3 hn
    have f1 : (c0 + 2 ^ 8 * (c1 + 2 ^ 8 * (c2 + 2 ^ 8 * c3))) / 256 = c1 + 256 * c2 + 65536 * c3 := by omega
    rw [f1]
    have f2 : (c0 + 2 ^ 8 * (c1 + 2 ^ 8 * (c2 + 2 ^ 8 * c3)) + (c1 + 256 * c2 + 65536 * c3)) / 65536 = c2 + c3 + 256 * c3 := by omega
    rw [f2]
    omega
theorem J_ushrN {n k : Nat} (hn : n < 2147483648) (hk : k < 32) : ushr (J (n : Int)) (J (k : Int)) = J ((n / 2 ^ k : Nat) : Int) := by
  rw [J_ushr (by omega) (by omega) (by omega) (by omega), Int.toNat_natCast, Int.natCast_ediv, Int.natCast_pow]; rfl
theorem J_addN (a b : Nat) : J (a : Int) + J (b : Int) = J ((a + b : Nat) : Int) := by rw [J_add]; rfl
theorem J_subN {a b : Nat} (h : b ≤ a) : J (a : Int) - J (b : Int) = J ((a - b : Nat) : Int) := by rw [J_sub, Int.natCast_sub h]
theorem ok_bitCount {d : Nat} {M : Mem} {Q : Post} {n : Nat} (hn : n < 33554432) (h : Q (some (J (pcR 25 n : Nat))) M) : Mt (d + 1) mJ6_bitCount_0f7a4 [.int (J (n : Int))] M Q := by
  obtain ⟨y, z, w, h1, h2, h3, h4, h5, h6, h7, h8⟩ := swar hn
  refine e_J6_bitCount_0f7a4 ?_
  have a1 : J (n : Int) - (ushr (J (n : Int)) (J 1) &&& J 1431655765) = J (y : Int) := by
    rw [show J 1 = J ((1 : Nat) : Int) from rfl, J_ushrN (by omega) (by omega), show J 1431655765 = J ((1431655765 : Nat) : Int) from rfl, J_andN, show 2 ^ 1 = 2 from rfl, J_subN h2, ← h1]
  rw [a1]
  have a2 : (J (y : Int) &&& J 858993459) + (ushr (J (y : Int)) (J 2) &&& J 858993459) = J (z : Int) := by
    rw [show J 2 = J ((2 : Nat) : Int) from rfl, J_ushrN (by omega) (by omega), show J 858993459 = J ((858993459 : Nat) : Int) from rfl, J_andN, J_andN, show 2 ^ 2 = 4 from rfl, J_addN, ← h3]
  rw [a2]
  have a3 : (J (z : Int) + ushr (J (z : Int)) (J 4)) &&& J 252645135 = J (w : Int) := by
    rw [show J 4 = J ((4 : Nat) : Int) from rfl, J_ushrN (by omega) (by omega), show J 252645135 = J ((252645135 : Nat) : Int) from rfl, J_addN, J_andN, show 2 ^ 4 = 16 from rfl, ← h4]
  rw [a3]
  have a4 : (J (w : Int) + ushr (J (w : Int)) (J 8)) = J ((w + w / 256 : Nat) : Int) := by
    rw [show J 8 = J ((8 : Nat) : Int) from rfl, J_ushrN (by omega) (by omega), J_addN]
  rw [a4]
  have a5 : (J ((w + w / 256 : Nat) : Int) + ushr (J ((w + w / 256 : Nat) : Int)) (J 16)) &&& J 63 = J (pcR 25 n : Nat) := by
    rw [show J 16 = J ((16 : Nat) : Int) from rfl, J_ushrN (by omega) (by omega), J_addN, show J 63 = J ((63 : Nat) : Int) from rfl, J_andN, show 2 ^ 16 = 65536 from rfl, h8]
  rw [a5]
  exact h
