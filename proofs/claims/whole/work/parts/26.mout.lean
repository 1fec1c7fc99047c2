/-! the reference: out, places -/
def mnO (D : Nat → Option Nat) (ou : Nat → Bool) : Nat → Int
  | 0 => -4
  | k + 1 => match D k with
    | some n => if ou k = true ∧ (mnO D ou k < 0 ∨ (n : Int) < mnO D ou k) then (n : Int) else mnO D ou k
    | none => mnO D ou k
theorem mnO_spec (D : Nat → Option Nat) (ou : Nat → Bool) : ∀ k, (mnO D ou k = -4 ∧ ∀ j n, j < k → D j = some n → ou j = false) ∨ ∃ j n, j < k ∧ D j = some n ∧ ou j = true ∧ mnO D ou k = (n : Int) ∧ ∀ j' n', j' < k → D j' = some n' → ou j' = true → n ≤ n' := by
  intro k
  induction k with
  | zero => left; exact ⟨rfl, fun j n h => by omega⟩
  | succ k ih =>
    rw [mnO]
    cases hd : D k with
    | none =>
      dsimp only
      rcases ih with ⟨h1, h2⟩ | ⟨j, n, h1, h2, h3, h4, h5⟩
      · left
        refine ⟨h1, fun j n hj hn => ?_⟩
        by_cases e : j = k
        · subst e; rw [hd] at hn; cases hn
        · exact h2 j n (by omega) hn
      · right
        refine ⟨j, n, by omega, h2, h3, h4, fun j' n' hj hn ho => ?_⟩
        by_cases e : j' = k
        · subst e; rw [hd] at hn; cases hn
        · exact h5 j' n' (by omega) hn ho
    | some m =>
      dsimp only
      split
      · next q =>
        right
        refine ⟨k, m, by omega, hd, q.1, rfl, fun j' n' hj hn ho => ?_⟩
        by_cases e : j' = k
        · subst e; rw [hd] at hn; cases hn; omega
        · rcases ih with ⟨h1, h2⟩ | ⟨j, n, h1, h2, h3, h4, h5⟩
          · rw [h2 j' n' (by omega) hn] at ho; cases ho
          · have := h5 j' n' (by omega) hn ho
            rcases q.2 with r | r <;> omega
      · next q =>
        rcases ih with ⟨h1, h2⟩ | ⟨j, n, h1, h2, h3, h4, h5⟩
        · left
          refine ⟨h1, fun j n hj hn => ?_⟩
          by_cases e : j = k
          · subst e
            rw [← Bool.not_eq_true]
            intro ho
            exact q ⟨ho, Or.inl (by omega)⟩
          · exact h2 j n (by omega) hn
        · right
          refine ⟨j, n, by omega, h2, h3, h4, fun j' n' hj hn ho => ?_⟩
          by_cases e : j' = k
          · subst e
            rw [hd] at hn
            cases hn
            rcases Nat.lt_or_ge m n with r | r
            · exact absurd ⟨ho, Or.inr (by omega)⟩ q
            · exact r
          · exact h5 j' n' (by omega) hn ho
theorem fOut_spec (ou : Nat → Bool) (t : BS) : ∀ l : List Nat, (fOut ou t l = -4 ∧ ∀ k, k ∈ l → ou k = false) ∨ ∃ i k : Nat, l[i]? = some k ∧ ou k = true ∧ fOut ou t l = dI (t.1 k) ∧ ∀ i' k' : Nat, i' < i → l[i']? = some k' → ou k' = false := by
  intro l
  induction l with
  | nil => left; exact ⟨rfl, fun k h => by cases h⟩
  | cons a l ih =>
    rw [fOut]
    split
    · next q => right; exact ⟨0, a, rfl, q, rfl, fun i' k' h => by omega⟩
    · next q =>
      rcases ih with ⟨h1, h2⟩ | ⟨i, k, h1, h2, h3, h4⟩
      · left
        refine ⟨h1, fun k hk => ?_⟩
        rcases List.mem_cons.mp hk with e | e
        · subst e; exact Bool.not_eq_true _ ▸ q
        · exact h2 k e
      · right
        refine ⟨i + 1, k, by simpa using h1, h2, h3, fun i' k' hi hk => ?_⟩
        cases i' with
        | zero =>
          have : a = k' := by simpa using hk
          subst this
          exact Bool.not_eq_true _ ▸ q
        | succ i' => exact h4 i' k' (by omega) (by simpa using hk)
theorem mnO_fOut {op ou : Nat → Bool} {s : BS} (hB : BI op s) (hQ : QI s) (hM : ∃ j, MI s j) : mnO s.1 ou 400 = fOut ou s s.2 := by
  obtain ⟨jj, hM, -⟩ := hM
  rcases mnO_spec s.1 ou 400 with ⟨h1, h2⟩ | ⟨j, n, h1, h2, h3, h4, h5⟩
  · rcases fOut_spec ou s s.2 with ⟨g1, g2⟩ | ⟨i, k, g1, g2, g3, g4⟩
    · rw [h1, g1]
    · exfalso
      have hm := List.mem_of_getElem? g1
      obtain ⟨m, hmm⟩ := hB.sm hm
      rw [h2 k m (hB.2.1 k hm).1 hmm] at g2
      cases g2
  · obtain ⟨a, ha⟩ := List.getElem?_of_mem (hQ j n h2)
    rcases fOut_spec ou s s.2 with ⟨g1, g2⟩ | ⟨i, k, g1, g2, g3, g4⟩
    · exfalso
      rw [g2 j (hQ j n h2)] at h3
      cases h3
    · have hm := List.mem_of_getElem? g1
      obtain ⟨m, hmm⟩ := hB.sm hm
      have e1 : n ≤ m := h5 k m (hB.2.1 k hm).1 hmm g2
      have e2 : i ≤ a := by
        rcases Nat.lt_or_ge a i with r | r
        · rw [g4 a j r ha] at h3; cases h3
        · exact r
      have e3 := hM i a k j m n e2 g1 ha hmm h2
      rw [h4, g3, hmm]
      show (n : Int) = (m : Int)
      omega
theorem sumN_0 (f : Nat → Nat) : ∀ n, sumN f n = 0 ↔ ∀ k, k < n → f k = 0 := by
  intro n
  induction n with
  | zero => exact ⟨fun _ k h => by omega, fun _ => rfl⟩
  | succ n ih =>
    rw [sumN]
    constructor
    · intro h k hk
      by_cases e : k = n
      · subst e; omega
      · exact ih.mp (by omega) k (by omega)
    · intro h
      rw [ih.mpr (fun k hk => h k (by omega)), h n (by omega)]
theorem sumN_eq {f g : Nat → Nat} (h : ∀ k, f k ≤ g k) : ∀ n, sumN f n ≤ sumN g n ∧ (sumN f n = sumN g n ↔ ∀ k, k < n → f k = g k) := by
  intro n
  induction n with
  | zero => exact ⟨Nat.le_refl _, fun _ k h => by omega, fun _ => rfl⟩
  | succ n ih =>
    have hn := h n
    rw [sumN, sumN]
    refine ⟨by omega, fun q k hk => ?_, fun q => ?_⟩
    · by_cases e : k = n
      · subst e; omega
      · exact ih.2.mp (by omega) k (by omega)
    · rw [ih.2.mpr (fun k hk => q k (by omega)), q n (by omega)]
theorem ob_out {σ : St} {s : Nat} {x y : Int} : obN σ s x y 25 = 0 ↔ outP σ s x y := by
  unfold obN outP
  rw [sumN_0, sq_k]
  constructor
  · intro h k hk hb ho
    have := h k hk
    rw [if_pos ⟨hb, pb_t.mpr ho⟩] at this
    omega
  · intro h k hk
    rw [if_neg (fun g => h k hk g.1 (pb_t.mp g.2))]
def allP (σ : St) (s : Nat) (x y : Int) : Prop := ∀ c r, sq s x y c r = true → onB σ c r
theorem ob_all {σ : St} {s : Nat} {x y : Int} : obN σ s x y 25 = pcR 25 s ↔ allP σ s x y := by
  unfold obN allP
  rw [pcR_sum, sq_k]
  have hb : ∀ k, s / 2 ^ k % 2 = if s.testBit k = true then 1 else 0 := by
    intro k
    rw [Nat.testBit_eq_decide_div_mod_eq]
    by_cases e : s / 2 ^ k % 2 = 1
    · rw [e]; rfl
    · rw [if_neg (by rw [decide_eq_true_iff]; exact e)]; omega
  have hle : ∀ k, (if s.testBit k = true ∧ pb (onB σ (x + ((k % 5 : Nat) : Int)) (y + ((k / 5 : Nat) : Int))) = true then 1 else 0) ≤ s / 2 ^ k % 2 := by
    intro k
    rw [hb]
    split
    · next q => rw [if_pos q.1]; exact Nat.le_refl _
    · exact Nat.zero_le _
  rw [(sumN_eq hle 25).2]
  constructor
  · intro h k hk hbk
    have := h k hk
    rw [hb, if_pos hbk] at this
    split at this
    · next q => exact pb_t.mp q.2
    · omega
  · intro h k hk
    rw [hb]
    by_cases e : s.testBit k = true
    · rw [if_pos e, if_pos ⟨e, pb_t.mpr (h k hk e)⟩]
    · rw [if_neg e, if_neg (fun g => e g.1)]
theorem wide_ge {s k : Nat} (hk : k < 25) (hb : s.testBit k = true) : k % 5 + 1 ≤ wideN s ∧ k / 5 + 1 ≤ tallN s := by
  have h1 := mx_ge (fun k => if s.testBit k = true then k % 5 + 1 else 0) 25 k hk
  have h2 := mx_ge (fun k => if s.testBit k = true then k / 5 + 1 else 0) 25 k hk
  rw [if_pos hb] at h1 h2
  exact ⟨h1, h2⟩
theorem wide_at {s : Nat} (h : 1 ≤ wideN s) : ∃ k, k < 25 ∧ s.testBit k = true ∧ k % 5 + 1 = wideN s := by
  rcases mx_at (fun k => if s.testBit k = true then k % 5 + 1 else 0) 25 with e | ⟨k, h1, h2⟩
  · have : wideN s = 0 := e
    omega
  · split at h2
    · next q => exact ⟨k, h1, q, h2.symm⟩
    · have : wideN s = 0 := h2
      omega
theorem tall_at {s : Nat} (h : 1 ≤ tallN s) : ∃ k, k < 25 ∧ s.testBit k = true ∧ k / 5 + 1 = tallN s := by
  rcases mx_at (fun k => if s.testBit k = true then k / 5 + 1 else 0) 25 with e | ⟨k, h1, h2⟩
  · have : tallN s = 0 := e
    omega
  · split at h2
    · next q => exact ⟨k, h1, q, h2.symm⟩
    · have : tallN s = 0 := h2
      omega
theorem ShOK.wide {s : Nat} (h : ShOK s) : 1 ≤ wideN s ∧ 1 ≤ tallN s := by
  obtain ⟨c, h1, h2⟩ := h.2.1
  have := wide_ge (by omega) h2
  omega
theorem all_in {σ : St} {s : Nat} {x y : Int} (h : ShOK s) : allP σ s x y ↔ (0 ≤ x ∧ x + wideN s ≤ sC σ) ∧ (0 ≤ y ∧ y + tallN s ≤ sR σ) := by
  unfold allP
  rw [sq_k]
  unfold onB
  constructor
  · intro g
    obtain ⟨c, c1, c2⟩ := h.2.1
    obtain ⟨r, r1, r2⟩ := h.2.2
    obtain ⟨k1, a1, a2, a3⟩ := wide_at h.wide.1
    obtain ⟨k2, b1, b2, b3⟩ := tall_at h.wide.2
    have g1 := g c (by omega) c2
    have g2 := g (5 * r) (by omega) r2
    have g3 := g k1 a1 a2
    have g4 := g k2 b1 b2
    omega
  · rintro ⟨h1, h2⟩ k hk hb
    have := wide_ge hk hb
    omega
theorem cntB_add (f : Nat → Bool) (a : Nat) : ∀ b, cntB f (a + b) = cntB f a + cntB (fun i => f (a + i)) b := by
  intro b
  induction b with
  | zero => rfl
  | succ b ih => rw [← Nat.add_assoc, cntB, cntB, ih]; omega
theorem cntB_no {f : Nat → Bool} : ∀ n, (∀ i, i < n → f i = false) → cntB f n = 0 := by
  intro n
  induction n with
  | zero => intro _; rfl
  | succ n ih => intro h; rw [cntB, ih (fun i hi => h i (by omega)), if_neg (by rw [h n (by omega)]; decide)]
theorem cntB_congr {f g : Nat → Bool} : ∀ n, (∀ i, i < n → f i = g i) → cntB f n = cntB g n := by
  intro n
  induction n with
  | zero => intro _; rfl
  | succ n ih => intro h; rw [cntB, cntB, ih (fun i hi => h i (by omega)), h n (by omega)]
theorem sumN_congr {f g : Nat → Nat} : ∀ n, (∀ i, i < n → f i = g i) → sumN f n = sumN g n := by
  intro n
  induction n with
  | zero => intro _; rfl
  | succ n ih => intro h; rw [sumN, sumN, ih (fun i hi => h i (by omega)), h n (by omega)]
theorem sumN_add (f : Nat → Nat) (a : Nat) : ∀ b, sumN f (a + b) = sumN f a + sumN (fun i => f (a + i)) b := by
  intro b
  induction b with
  | zero => rfl
  | succ b ih => rw [← Nat.add_assoc, sumN, sumN, ih]; omega
theorem cntB_rows (f : Nat → Bool) : ∀ m, cntB f (20 * m) = sumN (fun y => cntB (fun x => f (20 * y + x)) 20) m := by
  intro m
  induction m with
  | zero => rfl
  | succ m ih => rw [Nat.mul_succ, cntB_add, ih]; rfl
theorem ins_eq {op : Nat → Bool} {f : Nat → Bool} {c r : Nat} (hc : c ≤ 14) (hr : r ≤ 14) (h : ∀ y x, x < 20 → y < 20 → f (20 * y + x) = (decide ((6 ≤ x ∧ x < 6 + c) ∧ (6 ≤ y ∧ y < 6 + r)) && op (20 * y + x))) : cntB f 400 = insC op c r := by
  rw [show 400 = 20 * 20 from rfl, cntB_rows]
  have hrow : ∀ y, y < 20 → cntB (fun x => f (20 * y + x)) 20 = if 6 ≤ y ∧ y < 6 + r then cntB (fun x => op (20 * y + (6 + x))) c else 0 := by
    intro y hy
    split
    · next q =>
      rw [show 20 = 6 + (c + (14 - c)) by omega, cntB_add, cntB_add, cntB_no 6 (fun i hi => ?_), cntB_no (14 - c) (fun i hi => ?_)]
      · rw [Nat.zero_add, Nat.add_zero]
        refine cntB_congr c (fun i hi => ?_)
        rw [← show 20 = 6 + (c + (14 - c)) by omega, h y (6 + i) (by omega) hy, decide_eq_true (by omega), Bool.true_and]
      · rw [← show 20 = 6 + (c + (14 - c)) by omega, h y (6 + (c + i)) (by omega) hy, decide_eq_false (by omega), Bool.false_and]
      · rw [← show 20 = 6 + (c + (14 - c)) by omega, h y i (by omega) hy, decide_eq_false (by omega), Bool.false_and]
    · next q =>
      refine cntB_no 20 (fun i hi => ?_)
      rw [h y i (by omega) hy, decide_eq_false (by omega), Bool.false_and]
  rw [sumN_congr 20 hrow]
  have hz : ∀ (g : Nat → Nat) n, (∀ i, i < n → g i = 0) → sumN g n = 0 := fun g n hg => (sumN_0 g n).mpr hg
  have e20 : sumN (fun y => if 6 ≤ y ∧ y < 6 + r then cntB (fun x => op (20 * y + (6 + x))) c else 0) (6 + (r + (14 - r))) = insC op c r := by
    rw [sumN_add, sumN_add, hz _ 6 (fun i hi => by rw [if_neg (by omega)]), hz _ (14 - r) (fun i hi => by rw [if_neg (by omega)]), Nat.zero_add, Nat.add_zero]
    unfold insC
    refine sumN_congr r (fun i hi => ?_)
    rw [if_pos (by omega)]
    refine cntB_congr c (fun j hj => ?_)
    congr 1
    unfold plc
    omega
  rw [show 6 + (r + (14 - r)) = 20 by omega] at e20
  exact e20
theorem spr_BD {op : Nat → Bool} : ∀ (f : Nat) {s : BS} (i : Nat), BI op s → BD s.1 → BD (spr op f s i).1 := by
  intro f
  induction f with
  | zero => intro s i _ h; exact h
  | succ f ih =>
    intro s i hB h
    rw [spr]
    split
    · exact h
    · next k hk => exact ih _ (rchs_BI hB (hB.next hk) 4) (rchs_BD hB h (hB.next hk) 4)
theorem one_BI {op : Nat → Bool} {D : Nat → Option Nat} {k : Nat} (hk : k < 400) (ho : op k = true) : BI op ((updO D k 0, [k]) : BS) := by
  refine ⟨by simp, fun j hj => ?_, fun i j hi => ?_⟩
  · have : j = k := by simpa using hj
    subst this; exact ⟨hk, ho⟩
  · have : j = k := by
      have := List.mem_of_getElem? hi
      simpa using this
    subst this
    exact ⟨0, by simp [updO], by omega⟩
theorem one_BD {D : Nat → Option Nat} {k : Nat} (hD : BD D) : BD (updO D k 0) := by
  intro j m hj
  by_cases e : j = k
  · simp [updO, e] at hj; omega
  · simp [updO, e] at hj; exact hD j m hj
abbrev nxD (op : Nat → Bool) (D : Nat → Option Nat) (k : Nat) : Nat → Option Nat := (spr op 401 (updO D k 0, [k]) 0).1
abbrev vD (D : Nat → Option Nat) : Nat → Prop := fun j => ∃ n, D j = some n
theorem nx_vis {op : Nat → Bool} {D : Nat → Option Nat} {k : Nat} (hk : k < 400) (ho : op k = true) (hc : clo op (vD D)) : vD (nxD op D k) = cl op (fun j => vD D j ∨ j = k) := by
  have hF : FI op ((updO D k 0, [k]) : BS) 0 := by
    intro j hj
    obtain ⟨n, hn⟩ := hj
    by_cases e : j = k
    · subst e; exact Or.inl ⟨0, Nat.le_refl _, rfl⟩
    · right
      intro e' z he hz hoz
      have hn2 : D j = some n := by simpa [updO, e] using hn
      obtain ⟨m, hm⟩ := hc j e' z ⟨n, hn2⟩ he hz hoz
      by_cases ez : z = k
      · subst ez; exact ⟨0, by simp [updO]⟩
      · exact ⟨m, by simp [updO, ez]; exact hm⟩
  have h1 := vis_eq (spr_cl 401 0 (one_BI hk ho) hF (by omega))
  have h2 : vis ((updO D k 0, [k]) : BS) = fun j => vD D j ∨ j = k := by
    funext j
    apply propext
    constructor
    · rintro ⟨n, hn⟩
      by_cases e : j = k
      · exact Or.inr e
      · exact Or.inl ⟨n, by simpa [updO, e] using hn⟩
    · rintro (⟨n, hn⟩ | e)
      · by_cases e : j = k
        · subst e; exact ⟨0, by simp [updO]⟩
        · exact ⟨n, by simp [updO, e]; exact hn⟩
      · subst e; exact ⟨0, by simp [updO]⟩
  rw [h2] at h1
  exact h1
theorem cl_mono {op : Nat → Bool} {V W : Nat → Prop} (h : ∀ k, V k → cl op W k) {z : Nat} (hz : cl op V z) : cl op W z := fun C h1 h2 => hz C (fun k hk => h k hk C h1 h2) h2
theorem cl_ext {op : Nat → Bool} {V W : Nat → Prop} (h : ∀ k, V k → cl op W k) (g : ∀ k, W k → cl op V k) : cl op V = cl op W := funext fun _ => propext ⟨cl_mono h, cl_mono g⟩
