/-! the first world -/
def M0 : Mem := fun o => match o with
  | 1 => fun k => if k = 4 then J 1 else if k = 5 then J 1 else J 0
  | 4 => fun k => if k = 3 then J 1 else J 0
  | 18 => fun k => if k = 0 then J 1 else if k = 1 then J 1 else if k = 10 then J (-1) else J 0
  | _ => fun _ => J 0
def S0 : SS := (mkSt 1 1 0 (fun _ => 0) (fun _ => 0) 0 (fun _ => 0) (fun _ => 0), (0, fun _ => 0))
theorem S0_no (p : Nat) : ¬ (sL S0.1).testBit p = true := fun g => by
  have g2 : (0 : Nat).testBit p = true := g
  rw [Nat.zero_testBit] at g2; cases g2
theorem S0_ok : OKS S0 := ⟨⟨by decide, by decide, by decide, fun y _ => (by decide : 0 < 2 ^ (1 : Int).toNat), fun _ _ => rfl, fun p hp => absurd hp (Nat.not_lt_zero p), by decide, fun p hp => absurd hp (S0_no p)⟩, fun p hp => absurd hp (S0_no p), by decide⟩
theorem M0_C : CR M0 S0 := ⟨⟨rfl, rfl, rfl, rfl, fun _ _ => rfl, fun p hp => absurd hp (Nat.not_lt_zero p), fun p hp => absurd hp (S0_no p)⟩, rfl, fun i hi => absurd hi (Nat.not_lt_zero i)⟩
theorem M0_R : MR M0 S0 := ⟨⟨rfl, rfl, rfl, fun _ _ => rfl, fun p hp => absurd hp (Nat.not_lt_zero p), fun p _ => by
  show J 0 = jb ((0 : Nat).testBit p)
  rw [Nat.zero_testBit]; rfl, fun p hp => absurd hp (S0_no p)⟩, Or.inr ⟨rfl, rfl⟩, fun i hi => absurd hi (Nat.not_lt_zero i)⟩
def adF (b g0 m0 : Nat) (u w : (Nat → Nat) × (Nat → ClassId)) : Nat → Nat := fun i => if i = 1000 then b else [g0, (u.1 1), (u.1 2), (u.1 3), (u.1 4), (u.1 5), (u.1 6), (u.1 7), (u.1 8), (u.1 9), (u.1 10), (u.1 11), (u.1 12), (u.1 13), (u.1 14), (u.1 15), (u.1 16), (u.1 17), m0, (w.1 0), (w.1 1), (w.1 2), (w.1 3), (w.1 4), (w.1 5), (w.1 6), (w.1 7), (w.1 8), (w.1 9), (w.1 10), (w.1 11), (w.1 12)].getD i 0
def cAF (u w : (Nat → Nat) × (Nat → ClassId)) : Nat → ClassId := fun i => [(u.2 5), (u.2 5), (u.2 5), (u.2 5), (u.2 5), (u.2 5), (u.2 6), (u.2 7), (u.2 8), (u.2 9), (u.2 10), (u.2 11), (u.2 12), (u.2 13), (u.2 14), (u.2 15), (u.2 16), (u.2 17), (u.2 5), (w.2 0), (w.2 1), (w.2 2), (w.2 3), (w.2 4), (w.2 5), (w.2 6), (w.2 7), (w.2 8), (w.2 9), (w.2 10), (w.2 11), (w.2 12)].getD i (u.2 5)
def W32 (g0 m0 : Nat) (u w : (Nat → Nat) × (Nat → ClassId)) : va_W := [(g0, .inr (4, [.ref (u.1 1), .ref (u.1 2), .ref (u.1 3), .ref (u.1 4)])), ((u.1 1), .inr (3, [.ref (u.1 5), .ref (u.1 6), .ref (u.1 7), .ref (u.1 8), .int (J 1), .int (J 1), .int (J 0), .int (J 0)])), ((u.1 5), .inl ((u.2 5), 10, .inl (fun _ => J 0))), ((u.1 6), .inl ((u.2 6), 8, .inl (fun _ => J 0))), ((u.1 7), .inl ((u.2 7), 8, .inl (fun _ => J 0))), ((u.1 8), .inl ((u.2 8), 8, .inl (fun _ => J 0))), ((u.1 2), .inr (2, [.ref (u.1 1), .ref (u.1 9), .ref (u.1 10), .ref (u.1 11), .ref (u.1 12), .ref (u.1 13), .int (J 0), .ref (u.1 14), .int (J 0)])), ((u.1 9), .inl ((u.2 9), 24, .inl (fun _ => J 0))), ((u.1 10), .inl ((u.2 10), 20, .inl (fun _ => J 0))), ((u.1 11), .inl ((u.2 11), 20, .inl (fun _ => J 0))), ((u.1 12), .inl ((u.2 12), 400, .inl (fun _ => J 0))), ((u.1 13), .inl ((u.2 13), 400, .inl (fun _ => J 0))), ((u.1 14), .inl ((u.2 14), 400, .inl (fun _ => J 0))), ((u.1 3), .inr (1, [.ref (u.1 1), .ref (u.1 2), .ref (u.1 15), .int (J 0), .int (J 0)])), ((u.1 15), .inl ((u.2 15), 8, .inl (fun _ => J 0))), ((u.1 4), .inr (0, [.ref (u.1 1), .ref (u.1 16), .ref (u.1 17), .int (J 1), .int (J 0), .int (J 0)])), ((u.1 16), .inl ((u.2 16), 25, .inl (fun _ => J 0))), ((u.1 17), .inl ((u.2 17), 5, .inl (fun _ => J 0))), (m0, .inr (5, [.int (J 1), .int (J 1), .ref (w.1 0), .int (J 0), .ref (w.1 1), .ref (w.1 2), .ref (w.1 3), .ref (w.1 4), .ref (w.1 5), .ref (w.1 6), .int (J (-1)), .ref (w.1 7), .ref (w.1 8), .ref (w.1 9), .ref (w.1 10), .ref (w.1 11), .ref (w.1 12)])), ((w.1 0), .inl ((w.2 0), 10, .inl (fun _ => J 0))), ((w.1 1), .inl ((w.2 1), 8, .inl (fun _ => J 0))), ((w.1 2), .inl ((w.2 2), 8, .inl (fun _ => J 0))), ((w.1 3), .inl ((w.2 3), 8, .inl (fun _ => J 0))), ((w.1 4), .inl ((w.2 4), 8, .inl (fun _ => J 0))), ((w.1 5), .inl ((w.2 5), 8, .inl (fun _ => J 0))), ((w.1 6), .inl ((w.2 6), 8, .inl (fun _ => J 0))), ((w.1 7), .inl ((w.2 7), 400, .inl (fun _ => J 0))), ((w.1 8), .inl ((w.2 8), 400, .inl (fun _ => J 0))), ((w.1 9), .inl ((w.2 9), 400, .inl (fun _ => J 0))), ((w.1 10), .inl ((w.2 10), 40, .inl (fun _ => J 0))), ((w.1 11), .inl ((w.2 11), 5, .inl (fun _ => J 0))), ((w.1 12), .inl ((w.2 12), 5, .inl (fun _ => J 0)))]
def T26 (u w : (Nat → Nat) × (Nat → ClassId)) : List (ClassId × FieldType) := [((u.2 5), .int), ((u.2 6), .int), ((u.2 7), .int), ((u.2 8), .int), ((u.2 9), .int), ((u.2 10), .int), ((u.2 11), .int), ((u.2 12), .int), ((u.2 13), .int), ((u.2 14), .int), ((u.2 15), .int), ((u.2 16), .int), ((u.2 17), .int), ((w.2 0), .int), ((w.2 1), .int), ((w.2 2), .int), ((w.2 3), .int), ((w.2 4), .boolean), ((w.2 5), .int), ((w.2 6), .int), ((w.2 7), .int), ((w.2 8), .int), ((w.2 9), .int), ((w.2 10), .int), ((w.2 11), .int), ((w.2 12), .int)]
def gF : Nat → Nat := fun k => [0, 1, 6, 13, 15, 2, 3, 4, 5, 7, 8, 9, 10, 11, 12, 14, 16, 17, 18, 19, 20, 21, 22, 23, 24, 25, 26, 27, 28, 29, 30, 31].getD k 0
theorem gF_inj : ∀ i, i < 32 → ∀ j, j < 32 → gF i = gF j → i = j := by decide +kernel
section W32S
variable {b g0 m0 : Nat} {u w : (Nat → Nat) × (Nat → ClassId)}
theorem w32_0 : (W32 g0 m0 u w)[gF 0]? = some (adF b g0 m0 u w 0, cel (cAF u w) (adF b g0 m0 u w) 0 (M0 0) (.inr (4, [some 1, some 2, some 3, some 4]))) := by
  simp only [cel, fvals, List.mapIdx_cons, List.mapIdx_nil, fval]
  rfl
theorem w32_1 : (W32 g0 m0 u w)[gF 1]? = some (adF b g0 m0 u w 1, cel (cAF u w) (adF b g0 m0 u w) 1 (M0 1) (.inr (3, [some 5, some 6, some 7, some 8, none, none, none, none]))) := by
  simp only [cel, fvals, List.mapIdx_cons, List.mapIdx_nil, fval]
  rfl
theorem w32_2 : (W32 g0 m0 u w)[gF 2]? = some (adF b g0 m0 u w 2, cel (cAF u w) (adF b g0 m0 u w) 2 (M0 2) (.inr (2, [some 1, some 9, some 10, some 11, some 12, some 13, none, some 14, none]))) := by
  simp only [cel, fvals, List.mapIdx_cons, List.mapIdx_nil, fval]
  rfl
theorem w32_3 : (W32 g0 m0 u w)[gF 3]? = some (adF b g0 m0 u w 3, cel (cAF u w) (adF b g0 m0 u w) 3 (M0 3) (.inr (1, [some 1, some 2, some 15, none, none]))) := by
  simp only [cel, fvals, List.mapIdx_cons, List.mapIdx_nil, fval]
  rfl
theorem w32_4 : (W32 g0 m0 u w)[gF 4]? = some (adF b g0 m0 u w 4, cel (cAF u w) (adF b g0 m0 u w) 4 (M0 4) (.inr (0, [some 1, some 16, some 17, none, none, none]))) := by
  simp only [cel, fvals, List.mapIdx_cons, List.mapIdx_nil, fval]
  rfl
theorem w32_5 : (W32 g0 m0 u w)[gF 5]? = some (adF b g0 m0 u w 5, cel (cAF u w) (adF b g0 m0 u w) 5 (M0 5) (.inl (10, .int))) := by
  rfl
theorem w32_6 : (W32 g0 m0 u w)[gF 6]? = some (adF b g0 m0 u w 6, cel (cAF u w) (adF b g0 m0 u w) 6 (M0 6) (.inl (8, .int))) := by
  rfl
theorem w32_7 : (W32 g0 m0 u w)[gF 7]? = some (adF b g0 m0 u w 7, cel (cAF u w) (adF b g0 m0 u w) 7 (M0 7) (.inl (8, .int))) := by
  rfl
theorem w32_8 : (W32 g0 m0 u w)[gF 8]? = some (adF b g0 m0 u w 8, cel (cAF u w) (adF b g0 m0 u w) 8 (M0 8) (.inl (8, .int))) := by
  rfl
theorem w32_9 : (W32 g0 m0 u w)[gF 9]? = some (adF b g0 m0 u w 9, cel (cAF u w) (adF b g0 m0 u w) 9 (M0 9) (.inl (24, .int))) := by
  rfl
theorem w32_10 : (W32 g0 m0 u w)[gF 10]? = some (adF b g0 m0 u w 10, cel (cAF u w) (adF b g0 m0 u w) 10 (M0 10) (.inl (20, .int))) := by
  rfl
theorem w32_11 : (W32 g0 m0 u w)[gF 11]? = some (adF b g0 m0 u w 11, cel (cAF u w) (adF b g0 m0 u w) 11 (M0 11) (.inl (20, .int))) := by
  rfl
theorem w32_12 : (W32 g0 m0 u w)[gF 12]? = some (adF b g0 m0 u w 12, cel (cAF u w) (adF b g0 m0 u w) 12 (M0 12) (.inl (400, .int))) := by
  rfl
theorem w32_13 : (W32 g0 m0 u w)[gF 13]? = some (adF b g0 m0 u w 13, cel (cAF u w) (adF b g0 m0 u w) 13 (M0 13) (.inl (400, .int))) := by
  rfl
theorem w32_14 : (W32 g0 m0 u w)[gF 14]? = some (adF b g0 m0 u w 14, cel (cAF u w) (adF b g0 m0 u w) 14 (M0 14) (.inl (400, .int))) := by
  rfl
theorem w32_15 : (W32 g0 m0 u w)[gF 15]? = some (adF b g0 m0 u w 15, cel (cAF u w) (adF b g0 m0 u w) 15 (M0 15) (.inl (8, .int))) := by
  rfl
theorem w32_16 : (W32 g0 m0 u w)[gF 16]? = some (adF b g0 m0 u w 16, cel (cAF u w) (adF b g0 m0 u w) 16 (M0 16) (.inl (25, .int))) := by
  rfl
theorem w32_17 : (W32 g0 m0 u w)[gF 17]? = some (adF b g0 m0 u w 17, cel (cAF u w) (adF b g0 m0 u w) 17 (M0 17) (.inl (5, .int))) := by
  rfl
theorem w32_18 : (W32 g0 m0 u w)[gF 18]? = some (adF b g0 m0 u w 18, cel (cAF u w) (adF b g0 m0 u w) 18 (M0 18) (.inr (5, [none, none, some 19, none, some 20, some 21, some 22, some 23, some 24, some 25, none, some 26, some 27, some 28, some 29, some 30, some 31]))) := by
  simp only [cel, fvals, List.mapIdx_cons, List.mapIdx_nil, fval]
  rfl
theorem w32_19 : (W32 g0 m0 u w)[gF 19]? = some (adF b g0 m0 u w 19, cel (cAF u w) (adF b g0 m0 u w) 19 (M0 19) (.inl (10, .int))) := by
  rfl
theorem w32_20 : (W32 g0 m0 u w)[gF 20]? = some (adF b g0 m0 u w 20, cel (cAF u w) (adF b g0 m0 u w) 20 (M0 20) (.inl (8, .int))) := by
  rfl
theorem w32_21 : (W32 g0 m0 u w)[gF 21]? = some (adF b g0 m0 u w 21, cel (cAF u w) (adF b g0 m0 u w) 21 (M0 21) (.inl (8, .int))) := by
  rfl
theorem w32_22 : (W32 g0 m0 u w)[gF 22]? = some (adF b g0 m0 u w 22, cel (cAF u w) (adF b g0 m0 u w) 22 (M0 22) (.inl (8, .int))) := by
  rfl
theorem w32_23 : (W32 g0 m0 u w)[gF 23]? = some (adF b g0 m0 u w 23, cel (cAF u w) (adF b g0 m0 u w) 23 (M0 23) (.inl (8, .boolean))) := by
  rfl
theorem w32_24 : (W32 g0 m0 u w)[gF 24]? = some (adF b g0 m0 u w 24, cel (cAF u w) (adF b g0 m0 u w) 24 (M0 24) (.inl (8, .int))) := by
  rfl
theorem w32_25 : (W32 g0 m0 u w)[gF 25]? = some (adF b g0 m0 u w 25, cel (cAF u w) (adF b g0 m0 u w) 25 (M0 25) (.inl (8, .int))) := by
  rfl
theorem w32_26 : (W32 g0 m0 u w)[gF 26]? = some (adF b g0 m0 u w 26, cel (cAF u w) (adF b g0 m0 u w) 26 (M0 26) (.inl (400, .int))) := by
  rfl
theorem w32_27 : (W32 g0 m0 u w)[gF 27]? = some (adF b g0 m0 u w 27, cel (cAF u w) (adF b g0 m0 u w) 27 (M0 27) (.inl (400, .int))) := by
  rfl
theorem w32_28 : (W32 g0 m0 u w)[gF 28]? = some (adF b g0 m0 u w 28, cel (cAF u w) (adF b g0 m0 u w) 28 (M0 28) (.inl (400, .int))) := by
  rfl
theorem w32_29 : (W32 g0 m0 u w)[gF 29]? = some (adF b g0 m0 u w 29, cel (cAF u w) (adF b g0 m0 u w) 29 (M0 29) (.inl (40, .int))) := by
  rfl
theorem w32_30 : (W32 g0 m0 u w)[gF 30]? = some (adF b g0 m0 u w 30, cel (cAF u w) (adF b g0 m0 u w) 30 (M0 30) (.inl (5, .int))) := by
  rfl
theorem w32_31 : (W32 g0 m0 u w)[gF 31]? = some (adF b g0 m0 u w 31, cel (cAF u w) (adF b g0 m0 u w) 31 (M0 31) (.inl (5, .int))) := by
  rfl
end W32S
section W32T
variable {b g0 m0 : Nat} {u w : (Nat → Nat) × (Nat → ClassId)}
theorem w32_at : ∀ (k : Nat) (q : Nat × va_E), (wd (cAF u w) (adF b g0 m0 u w) M0)[k]? = some q → (W32 g0 m0 u w)[gF k]? = some q := by
  intro k q h
  obtain ⟨x, h1, rfl⟩ := wd_of h
  have hk := (List.getElem?_eq_some_iff.mp h1).1
  rw [knd_len] at hk
  rcases (show k = 0 ∨ k = 1 ∨ k = 2 ∨ k = 3 ∨ k = 4 ∨ k = 5 ∨ k = 6 ∨ k = 7 ∨ k = 8 ∨ k = 9 ∨ k = 10 ∨ k = 11 ∨ k = 12 ∨ k = 13 ∨ k = 14 ∨ k = 15 ∨ k = 16 ∨ k = 17 ∨ k = 18 ∨ k = 19 ∨ k = 20 ∨ k = 21 ∨ k = 22 ∨ k = 23 ∨ k = 24 ∨ k = 25 ∨ k = 26 ∨ k = 27 ∨ k = 28 ∨ k = 29 ∨ k = 30 ∨ k = 31 by omega) with rfl | rfl | rfl | rfl | rfl | rfl | rfl | rfl | rfl | rfl | rfl | rfl | rfl | rfl | rfl | rfl | rfl | rfl | rfl | rfl | rfl | rfl | rfl | rfl | rfl | rfl | rfl | rfl | rfl | rfl | rfl | rfl
  · obtain rfl : (.inr (4, [some 1, some 2, some 3, some 4]) : Knd) = x := Option.some.inj h1
    exact w32_0
  · obtain rfl : (.inr (3, [some 5, some 6, some 7, some 8, none, none, none, none]) : Knd) = x := Option.some.inj h1
    exact w32_1
  · obtain rfl : (.inr (2, [some 1, some 9, some 10, some 11, some 12, some 13, none, some 14, none]) : Knd) = x := Option.some.inj h1
    exact w32_2
  · obtain rfl : (.inr (1, [some 1, some 2, some 15, none, none]) : Knd) = x := Option.some.inj h1
    exact w32_3
  · obtain rfl : (.inr (0, [some 1, some 16, some 17, none, none, none]) : Knd) = x := Option.some.inj h1
    exact w32_4
  · obtain rfl : (.inl (10, .int) : Knd) = x := Option.some.inj h1
    exact w32_5
  · obtain rfl : (.inl (8, .int) : Knd) = x := Option.some.inj h1
    exact w32_6
  · obtain rfl : (.inl (8, .int) : Knd) = x := Option.some.inj h1
    exact w32_7
  · obtain rfl : (.inl (8, .int) : Knd) = x := Option.some.inj h1
    exact w32_8
  · obtain rfl : (.inl (24, .int) : Knd) = x := Option.some.inj h1
    exact w32_9
  · obtain rfl : (.inl (20, .int) : Knd) = x := Option.some.inj h1
    exact w32_10
  · obtain rfl : (.inl (20, .int) : Knd) = x := Option.some.inj h1
    exact w32_11
  · obtain rfl : (.inl (400, .int) : Knd) = x := Option.some.inj h1
    exact w32_12
  · obtain rfl : (.inl (400, .int) : Knd) = x := Option.some.inj h1
    exact w32_13
  · obtain rfl : (.inl (400, .int) : Knd) = x := Option.some.inj h1
    exact w32_14
  · obtain rfl : (.inl (8, .int) : Knd) = x := Option.some.inj h1
    exact w32_15
  · obtain rfl : (.inl (25, .int) : Knd) = x := Option.some.inj h1
    exact w32_16
  · obtain rfl : (.inl (5, .int) : Knd) = x := Option.some.inj h1
    exact w32_17
  · obtain rfl : (.inr (5, [none, none, some 19, none, some 20, some 21, some 22, some 23, some 24, some 25, none, some 26, some 27, some 28, some 29, some 30, some 31]) : Knd) = x := Option.some.inj h1
    exact w32_18
  · obtain rfl : (.inl (10, .int) : Knd) = x := Option.some.inj h1
    exact w32_19
  · obtain rfl : (.inl (8, .int) : Knd) = x := Option.some.inj h1
    exact w32_20
  · obtain rfl : (.inl (8, .int) : Knd) = x := Option.some.inj h1
    exact w32_21
  · obtain rfl : (.inl (8, .int) : Knd) = x := Option.some.inj h1
    exact w32_22
  · obtain rfl : (.inl (8, .boolean) : Knd) = x := Option.some.inj h1
    exact w32_23
  · obtain rfl : (.inl (8, .int) : Knd) = x := Option.some.inj h1
    exact w32_24
  · obtain rfl : (.inl (8, .int) : Knd) = x := Option.some.inj h1
    exact w32_25
  · obtain rfl : (.inl (400, .int) : Knd) = x := Option.some.inj h1
    exact w32_26
  · obtain rfl : (.inl (400, .int) : Knd) = x := Option.some.inj h1
    exact w32_27
  · obtain rfl : (.inl (400, .int) : Knd) = x := Option.some.inj h1
    exact w32_28
  · obtain rfl : (.inl (40, .int) : Knd) = x := Option.some.inj h1
    exact w32_29
  · obtain rfl : (.inl (5, .int) : Knd) = x := Option.some.inj h1
    exact w32_30
  · obtain rfl : (.inl (5, .int) : Knd) = x := Option.some.inj h1
    exact w32_31
theorem wd_len {cA : Nat → ClassId} {ad : Nat → Nat} {M : Mem} : (wd cA ad M).length = 32 := by
  unfold wd
  rw [List.length_mapIdx, knd_len]
theorem t26_at {D : va_G} {s : State} (hK : va_K D clsT (T26 u w) s) : ∀ (o n : Nat) (ty : FieldType), knd[o]? = some (.inl (n, ty)) → ArrOfT s (cAF u w o) ty ∧ va_RA s (cAF u w o) ty := by
  intro o n ty ho
  have ho32 := (List.getElem?_eq_some_iff.mp ho).1
  rw [knd_len] at ho32
  rcases (show o = 0 ∨ o = 1 ∨ o = 2 ∨ o = 3 ∨ o = 4 ∨ o = 5 ∨ o = 6 ∨ o = 7 ∨ o = 8 ∨ o = 9 ∨ o = 10 ∨ o = 11 ∨ o = 12 ∨ o = 13 ∨ o = 14 ∨ o = 15 ∨ o = 16 ∨ o = 17 ∨ o = 18 ∨ o = 19 ∨ o = 20 ∨ o = 21 ∨ o = 22 ∨ o = 23 ∨ o = 24 ∨ o = 25 ∨ o = 26 ∨ o = 27 ∨ o = 28 ∨ o = 29 ∨ o = 30 ∨ o = 31 by omega) with rfl | rfl | rfl | rfl | rfl | rfl | rfl | rfl | rfl | rfl | rfl | rfl | rfl | rfl | rfl | rfl | rfl | rfl | rfl | rfl | rfl | rfl | rfl | rfl | rfl | rfl | rfl | rfl | rfl | rfl | rfl | rfl
  · have h2 : some (.inr (4, [some 1, some 2, some 3, some 4]) : Knd) = some (.inl (n, ty)) := ho
    cases h2
  · have h2 : some (.inr (3, [some 5, some 6, some 7, some 8, none, none, none, none]) : Knd) = some (.inl (n, ty)) := ho
    cases h2
  · have h2 : some (.inr (2, [some 1, some 9, some 10, some 11, some 12, some 13, none, some 14, none]) : Knd) = some (.inl (n, ty)) := ho
    cases h2
  · have h2 : some (.inr (1, [some 1, some 2, some 15, none, none]) : Knd) = some (.inl (n, ty)) := ho
    cases h2
  · have h2 : some (.inr (0, [some 1, some 16, some 17, none, none, none]) : Knd) = some (.inl (n, ty)) := ho
    cases h2
  · have h2 : some (.inl (10, .int) : Knd) = some (.inl (n, ty)) := ho
    cases h2
    exact hK.2 0 ((u.2 5), .int) rfl
  · have h2 : some (.inl (8, .int) : Knd) = some (.inl (n, ty)) := ho
    cases h2
    exact hK.2 1 ((u.2 6), .int) rfl
  · have h2 : some (.inl (8, .int) : Knd) = some (.inl (n, ty)) := ho
    cases h2
    exact hK.2 2 ((u.2 7), .int) rfl
  · have h2 : some (.inl (8, .int) : Knd) = some (.inl (n, ty)) := ho
    cases h2
    exact hK.2 3 ((u.2 8), .int) rfl
  · have h2 : some (.inl (24, .int) : Knd) = some (.inl (n, ty)) := ho
    cases h2
    exact hK.2 4 ((u.2 9), .int) rfl
  · have h2 : some (.inl (20, .int) : Knd) = some (.inl (n, ty)) := ho
    cases h2
    exact hK.2 5 ((u.2 10), .int) rfl
  · have h2 : some (.inl (20, .int) : Knd) = some (.inl (n, ty)) := ho
    cases h2
    exact hK.2 6 ((u.2 11), .int) rfl
  · have h2 : some (.inl (400, .int) : Knd) = some (.inl (n, ty)) := ho
    cases h2
    exact hK.2 7 ((u.2 12), .int) rfl
  · have h2 : some (.inl (400, .int) : Knd) = some (.inl (n, ty)) := ho
    cases h2
    exact hK.2 8 ((u.2 13), .int) rfl
  · have h2 : some (.inl (400, .int) : Knd) = some (.inl (n, ty)) := ho
    cases h2
    exact hK.2 9 ((u.2 14), .int) rfl
  · have h2 : some (.inl (8, .int) : Knd) = some (.inl (n, ty)) := ho
    cases h2
    exact hK.2 10 ((u.2 15), .int) rfl
  · have h2 : some (.inl (25, .int) : Knd) = some (.inl (n, ty)) := ho
    cases h2
    exact hK.2 11 ((u.2 16), .int) rfl
  · have h2 : some (.inl (5, .int) : Knd) = some (.inl (n, ty)) := ho
    cases h2
    exact hK.2 12 ((u.2 17), .int) rfl
  · have h2 : some (.inr (5, [none, none, some 19, none, some 20, some 21, some 22, some 23, some 24, some 25, none, some 26, some 27, some 28, some 29, some 30, some 31]) : Knd) = some (.inl (n, ty)) := ho
    cases h2
  · have h2 : some (.inl (10, .int) : Knd) = some (.inl (n, ty)) := ho
    cases h2
    exact hK.2 13 ((w.2 0), .int) rfl
  · have h2 : some (.inl (8, .int) : Knd) = some (.inl (n, ty)) := ho
    cases h2
    exact hK.2 14 ((w.2 1), .int) rfl
  · have h2 : some (.inl (8, .int) : Knd) = some (.inl (n, ty)) := ho
    cases h2
    exact hK.2 15 ((w.2 2), .int) rfl
  · have h2 : some (.inl (8, .int) : Knd) = some (.inl (n, ty)) := ho
    cases h2
    exact hK.2 16 ((w.2 3), .int) rfl
  · have h2 : some (.inl (8, .boolean) : Knd) = some (.inl (n, ty)) := ho
    cases h2
    exact hK.2 17 ((w.2 4), .boolean) rfl
  · have h2 : some (.inl (8, .int) : Knd) = some (.inl (n, ty)) := ho
    cases h2
    exact hK.2 18 ((w.2 5), .int) rfl
  · have h2 : some (.inl (8, .int) : Knd) = some (.inl (n, ty)) := ho
    cases h2
    exact hK.2 19 ((w.2 6), .int) rfl
  · have h2 : some (.inl (400, .int) : Knd) = some (.inl (n, ty)) := ho
    cases h2
    exact hK.2 20 ((w.2 7), .int) rfl
  · have h2 : some (.inl (400, .int) : Knd) = some (.inl (n, ty)) := ho
    cases h2
    exact hK.2 21 ((w.2 8), .int) rfl
  · have h2 : some (.inl (400, .int) : Knd) = some (.inl (n, ty)) := ho
    cases h2
    exact hK.2 22 ((w.2 9), .int) rfl
  · have h2 : some (.inl (40, .int) : Knd) = some (.inl (n, ty)) := ho
    cases h2
    exact hK.2 23 ((w.2 10), .int) rfl
  · have h2 : some (.inl (5, .int) : Knd) = some (.inl (n, ty)) := ho
    cases h2
    exact hK.2 24 ((w.2 11), .int) rfl
  · have h2 : some (.inl (5, .int) : Knd) = some (.inl (n, ty)) := ho
    cases h2
    exact hK.2 25 ((w.2 12), .int) rfl
end W32T
