/-! spreading over places, as a value: how far each place is (none: not come to), and the row of places come to -/
abbrev BS : Type := (Nat → Option Nat) × List Nat
def nb (k : Nat) (d : Int) : Int := if (0 ≤ ((k % 20 : Nat) : Int) + dxI d ∧ ((k % 20 : Nat) : Int) + dxI d < 20) ∧ (0 ≤ ((k / 20 : Nat) : Int) + dyI d ∧ ((k / 20 : Nat) : Int) + dyI d < 20) then 20 * (((k / 20 : Nat) : Int) + dyI d) + (((k % 20 : Nat) : Int) + dxI d) else -4
def updO (D : Nat → Option Nat) (k n : Nat) : Nat → Option Nat := fun j => if j = k then some n else D j
def rch (op : Nat → Bool) (s : BS) (z : Int) (n : Nat) : BS := if 0 ≤ z ∧ z < 400 ∧ op z.toNat = true ∧ s.1 z.toNat = none then (updO s.1 z.toNat n, s.2 ++ [z.toNat]) else s
def rchs (op : Nat → Bool) (s : BS) (k n : Nat) : Nat → BS
  | 0 => s
  | j + 1 => rch op (rchs op s k n j) (nb k (j : Int)) n
def spr (op : Nat → Bool) : Nat → BS → Nat → BS
  | 0, s, _ => s
  | f + 1, s, i => match s.2[i]? with
    | none => s
    | some k => spr op f (rchs op s k ((s.1 k).getD 0 + 1) 4) (i + 1)
theorem rch_or (op : Nat → Bool) (s : BS) (z : Int) (n : Nat) : rch op s z n = s ∨ ∃ k : Nat, z = (k : Int) ∧ k < 400 ∧ op k = true ∧ s.1 k = none ∧ rch op s z n = (updO s.1 k n, s.2 ++ [k]) := by
  unfold rch
  split
  · next h =>
    right
    exact ⟨z.toNat, by omega, by omega, h.2.2.1, h.2.2.2, rfl⟩
  · left; rfl
/-- later: nothing is forgotten -/
def Ext (s t : BS) : Prop := (∀ k v, s.1 k = some v → t.1 k = some v) ∧ ∃ l, t.2 = s.2 ++ l
theorem Ext.rf (s : BS) : Ext s s := ⟨fun _ _ h => h, [], by simp⟩
theorem Ext.tr {s t u : BS} (h : Ext s t) (g : Ext t u) : Ext s u := by
  obtain ⟨l, hl⟩ := h.2
  obtain ⟨l', hl'⟩ := g.2
  exact ⟨fun k v q => g.1 k v (h.1 k v q), l ++ l', by rw [hl', hl, List.append_assoc]⟩
theorem updO_new {D : Nat → Option Nat} {k n j v : Nat} (hk : D k = none) (h : D j = some v) : updO D k n j = some v := by
  unfold updO
  rw [if_neg (fun e => by rw [e, hk] at h; cases h)]; exact h
theorem rch_ext (op : Nat → Bool) (s : BS) (z : Int) (n : Nat) : Ext s (rch op s z n) := by
  rcases rch_or op s z n with h | ⟨k, h1, h2, h3, h4, h5⟩
  · rw [h]; exact Ext.rf s
  · rw [h5]; exact ⟨fun j v h => updO_new h4 h, [k], rfl⟩
theorem rchs_ext (op : Nat → Bool) (s : BS) (k n : Nat) : ∀ j, Ext s (rchs op s k n j)
  | 0 => Ext.rf s
  | j + 1 => (rchs_ext op s k n j).tr (rch_ext op _ _ n)
theorem spr_ext (op : Nat → Bool) : ∀ (f : Nat) (s : BS) (i : Nat), Ext s (spr op f s i) := by
  intro f
  induction f with
  | zero => intro s i; exact Ext.rf s
  | succ f ih =>
    intro s i
    rw [spr]
    split
    · exact Ext.rf s
    · exact (rchs_ext op s _ _ 4).tr (ih _ _)
theorem getElem?_snoc {l : List Nat} {a i k : Nat} (h : (l ++ [a])[i]? = some k) : l[i]? = some k ∨ (i = l.length ∧ k = a) := by
  by_cases hi : i < l.length
  · left; rwa [List.getElem?_append_left hi] at h
  · right
    rw [List.getElem?_append_right (by omega)] at h
    have : i - l.length < 1 := (List.getElem?_eq_some_iff.mp h).1
    refine ⟨by omega, ?_⟩
    rw [show i - l.length = 0 by omega] at h
    exact (Option.some.inj h).symm
/-- the queue's places are once each, open, come to, each no farther than its place in the queue -/
def BI (op : Nat → Bool) (s : BS) : Prop := s.2.Nodup ∧ (∀ k, k ∈ s.2 → k < 400 ∧ op k = true) ∧ (∀ i k, s.2[i]? = some k → ∃ n, s.1 k = some n ∧ n ≤ i)
theorem BI.sm {op : Nat → Bool} {s : BS} (h : BI op s) {k : Nat} (hk : k ∈ s.2) : ∃ n, s.1 k = some n := by
  obtain ⟨i, hi⟩ := List.getElem?_of_mem hk
  obtain ⟨n, h1, -⟩ := h.2.2 i k hi
  exact ⟨n, h1⟩
theorem rch_BI {op : Nat → Bool} {s : BS} {z : Int} {n : Nat} (h : BI op s) (hn : n ≤ s.2.length) : BI op (rch op s z n) := by
  rcases rch_or op s z n with e | ⟨k, h1, h2, h3, h4, h5⟩
  · rw [e]; exact h
  · rw [h5]
    refine ⟨?_, fun j hj => ?_, fun i j hi => ?_⟩
    · refine List.nodup_append.mpr ⟨h.1, by simp, fun a ha b hb => ?_⟩
      rw [List.mem_singleton] at hb
      subst hb
      intro e
      subst e
      obtain ⟨n, h6⟩ := h.sm ha
      rw [h4] at h6
      cases h6
    · rcases List.mem_append.mp hj with q | q
      · exact h.2.1 j q
      · rw [List.mem_singleton] at q
        subst q
        exact ⟨h2, h3⟩
    · rcases getElem?_snoc hi with q | ⟨q1, q2⟩
      · obtain ⟨m, g1, g2⟩ := h.2.2 i j q
        exact ⟨m, updO_new h4 g1, g2⟩
      · subst q2
        exact ⟨n, by simp [updO], by omega⟩
theorem Ext.len {s t : BS} (h : Ext s t) : s.2.length ≤ t.2.length := by
  obtain ⟨l, hl⟩ := h.2
  rw [hl, List.length_append]; omega
theorem Ext.at {s t : BS} (h : Ext s t) {i k : Nat} (hi : s.2[i]? = some k) : t.2[i]? = some k := by
  obtain ⟨l, hl⟩ := h.2
  rw [hl, List.getElem?_append_left (List.getElem?_eq_some_iff.mp hi).1]; exact hi
theorem rchs_BI {op : Nat → Bool} {s : BS} {k n : Nat} (h : BI op s) (hn : n ≤ s.2.length) : ∀ j, BI op (rchs op s k n j)
  | 0 => h
  | j + 1 => rch_BI (rchs_BI h hn j) (Nat.le_trans hn (rchs_ext op s k n j).len)
theorem BI.next {op : Nat → Bool} {s : BS} (h : BI op s) {i k : Nat} (hi : s.2[i]? = some k) : (s.1 k).getD 0 + 1 ≤ s.2.length := by
  obtain ⟨n, h1, h2⟩ := h.2.2 i k hi
  have := (List.getElem?_eq_some_iff.mp hi).1
  rw [h1, Option.getD_some]; omega
theorem spr_BI {op : Nat → Bool} : ∀ (f : Nat) {s : BS} (i : Nat), BI op s → BI op (spr op f s i) := by
  intro f
  induction f with
  | zero => intro s i h; exact h
  | succ f ih =>
    intro s i h
    rw [spr]
    split
    · exact h
    · next k hk => exact ih _ (rchs_BI h (h.next hk) 4)
theorem nodup_le : ∀ (n : Nat) (l : List Nat), l.Nodup → (∀ k, k ∈ l → k < n) → l.length ≤ n := by
  intro n
  induction n with
  | zero =>
    intro l _ h
    cases l with
    | nil => simp
    | cons a l => exact absurd (h a List.mem_cons_self) (by omega)
  | succ n ih =>
    intro l hn h
    by_cases hm : n ∈ l
    · have h1 := ih (l.erase n) (hn.erase n) (fun k hk => by
        have h2 := (hn.mem_erase_iff).mp hk
        have := h k h2.2
        have := h2.1
        omega)
      rw [List.length_erase_of_mem hm] at h1
      omega
    · exact Nat.le_succ_of_le (ih l hn (fun k hk => by
        have := h k hk
        have : k ≠ n := fun e => hm (e ▸ hk)
        omega))
theorem BI.len {op : Nat → Bool} {s : BS} (h : BI op s) : s.2.length ≤ 400 := nodup_le 400 s.2 h.1 (fun k hk => (h.2.1 k hk).1)
theorem nodup_le' {l : List Nat} {k n : Nat} (h : l.Nodup) (h2 : ∀ j, j ∈ l → j < n) (hk : k < n) (hkl : k ∉ l) : l.length < n := by
  have := nodup_le n (k :: l) (List.nodup_cons.mpr ⟨hkl, h⟩) (fun j hj => by
    rcases List.mem_cons.mp hj with e | e
    · subst e; exact hk
    · exact h2 j e)
  simp at this
  omega
theorem BI.room {op : Nat → Bool} {s : BS} (h : BI op s) {k : Nat} (hk : k < 400) (hd : s.1 k = none) : s.2.length < 400 := nodup_le' h.1 (fun j hj => (h.2.1 j hj).1) hk (fun q => by
  obtain ⟨n, h1⟩ := h.sm q
  rw [hd] at h1
  cases h1)
/-! one source: the farther, the later; each but the source has a nearer one beside it -/
theorem nb_opp {k : Nat} {d : Int} (hk : k < 400) (hd : 0 ≤ d ∧ d ≤ 3) {z : Nat} (h : nb k d = (z : Int)) : ∃ d' : Int, (0 ≤ d' ∧ d' ≤ 3) ∧ nb z d' = (k : Int) := by
  unfold nb at h
  split at h
  · next hc =>
    rcases (show d = 0 ∨ d = 1 ∨ d = 2 ∨ d = 3 by omega) with e | e | e | e
    · subst e
      simp only [dxI, dyI] at h hc
      refine ⟨2, by omega, ?_⟩
      unfold nb
      simp only [dxI, dyI]
      simp at *
      omega
    · subst e
      simp only [dxI, dyI] at h hc
      refine ⟨3, by omega, ?_⟩
      unfold nb
      simp only [dxI, dyI]
      simp at *
      omega
    · subst e
      simp only [dxI, dyI] at h hc
      refine ⟨0, by omega, ?_⟩
      unfold nb
      simp only [dxI, dyI]
      simp at *
      omega
    · subst e
      simp only [dxI, dyI] at h hc
      refine ⟨1, by omega, ?_⟩
      unfold nb
      simp only [dxI, dyI]
      simp at *
      omega
  · omega
def PI (s : BS) : Prop := ∀ z n, s.1 z = some (n + 1) → ∃ (d : Int) (k : Nat), (0 ≤ d ∧ d ≤ 3) ∧ nb z d = (k : Int) ∧ s.1 k = some n
theorem rch_PI {op : Nat → Bool} {s : BS} {k n : Nat} {d : Int} (hk4 : k < 400) (h : PI s) (hd : 0 ≤ d ∧ d ≤ 3) (hk : s.1 k = some n) : PI (rch op s (nb k d) (n + 1)) := by
  rcases rch_or op s (nb k d) (n + 1) with e | ⟨z, h1, h2, h3, h4, h5⟩
  · rw [e]; exact h
  · rw [h5]
    intro y m hy
    by_cases e : y = z
    · subst e
      have : m = n := by simp [updO] at hy; omega
      subst this
      obtain ⟨d', g1, g2⟩ := nb_opp hk4 hd h1
      exact ⟨d', k, g1, g2, updO_new h4 hk⟩
    · have hy2 : s.1 y = some (m + 1) := by simpa [updO, e] using hy
      obtain ⟨d', k', g1, g2, g3⟩ := h y m hy2
      exact ⟨d', k', g1, g2, updO_new h4 g3⟩
theorem rchs_PI {op : Nat → Bool} {s : BS} {k n : Nat} (hk4 : k < 400) (h : PI s) (hk : s.1 k = some n) : ∀ j, j ≤ 4 → PI (rchs op s k (n + 1) j)
  | 0, _ => h
  | j + 1, hj => rch_PI hk4 (rchs_PI hk4 h hk j (by omega)) ⟨by omega, by omega⟩ ((rchs_ext op s k (n + 1) j).1 k n hk)
theorem spr_PI {op : Nat → Bool} : ∀ (f : Nat) {s : BS} (i : Nat), BI op s → PI s → PI (spr op f s i) := by
  intro f
  induction f with
  | zero => intro s i _ h; exact h
  | succ f ih =>
    intro s i hB h
    rw [spr]
    split
    · exact h
    · next k hk =>
      obtain ⟨n, h1, -⟩ := hB.2.2 i k hk
      refine ih _ (rchs_BI hB (hB.next hk) 4) ?_
      rw [h1, Option.getD_some]
      exact rchs_PI (hB.2.1 k (List.mem_of_getElem? hk)).1 h h1 4 (by omega)
def MI (s : BS) (i : Nat) : Prop := (∀ (a b ka kb na nb' : Nat), a ≤ b → s.2[a]? = some ka → s.2[b]? = some kb → s.1 ka = some na → s.1 kb = some nb' → na ≤ nb') ∧ (∀ (ki ni b kb nb' : Nat), s.2[i]? = some ki → s.1 ki = some ni → s.2[b]? = some kb → s.1 kb = some nb' → nb' ≤ ni + 1)
theorem rch_MI {op : Nat → Bool} {s : BS} {i k n : Nat} {z : Int} (hB : BI op s) (h : MI s i) (hi : s.2[i]? = some k) (hk : s.1 k = some n) : MI (rch op s z (n + 1)) i := by
  rcases rch_or op s z (n + 1) with e | ⟨y, h1, h2, h3, h4, h5⟩
  · rw [e]; exact h
  · rw [h5]
    have old : ∀ (a ka na : Nat), s.2[a]? = some ka → updO s.1 y (n + 1) ka = some na → s.1 ka = some na := by
      intro a ka na ha hn
      obtain ⟨m, g1, -⟩ := hB.2.2 a ka ha
      rw [updO_new h4 g1] at hn
      rw [g1]; exact hn
    have new : ∀ na : Nat, updO s.1 y (n + 1) y = some na → na = n + 1 := by
      intro na hn
      simp [updO] at hn
      omega
    refine ⟨fun a b ka kb na nb' hab ha hb hna hnb => ?_, fun ki ni b kb nb' hi2 hni hb hnb => ?_⟩
    · rcases getElem?_snoc ha with qa | ⟨qa, qa2⟩
      · rcases getElem?_snoc hb with qb | ⟨qb, qb2⟩
        · exact h.1 a b ka kb na nb' hab qa qb (old a ka na qa hna) (old b kb nb' qb hnb)
        · subst qb2
          rw [new nb' hnb]
          exact h.2 k n a ka na hi hk qa (old a ka na qa hna)
      · rcases getElem?_snoc hb with qb | ⟨qb, qb2⟩
        · have := (List.getElem?_eq_some_iff.mp qb).1
          omega
        · subst qa2; subst qb2
          rw [new na hna, new nb' hnb]; exact Nat.le_refl _
    · have hil := (List.getElem?_eq_some_iff.mp hi).1
      rcases getElem?_snoc hi2 with qa | ⟨qa, qa2⟩
      · have e1 : ki = k := Option.some.inj (qa.symm.trans hi)
        subst e1
        have e2 : ni = n := Option.some.inj ((old i ki ni qa hni).symm.trans hk)
        subst e2
        rcases getElem?_snoc hb with qb | ⟨qb, qb2⟩
        · exact h.2 ki ni b kb nb' hi hk qb (old b kb nb' qb hnb)
        · subst qb2
          rw [new nb' hnb]; exact Nat.le_refl _
      · omega
theorem rchs_MI {op : Nat → Bool} {s : BS} {i k n : Nat} (hB : BI op s) (h : MI s i) (hi : s.2[i]? = some k) (hk : s.1 k = some n) (hn : n + 1 ≤ s.2.length) : ∀ j, MI (rchs op s k (n + 1) j) i
  | 0 => h
  | j + 1 => rch_MI (rchs_BI hB hn j) (rchs_MI hB h hi hk hn j) ((rchs_ext op s k (n + 1) j).at hi) ((rchs_ext op s k (n + 1) j).1 k n hk)
theorem MI.next {op : Nat → Bool} {s : BS} {i : Nat} (hB : BI op s) (h : MI s i) (hi : i < s.2.length) : MI s (i + 1) := by
  refine ⟨h.1, fun ki ni b kb nb' hki hni hb hnb => ?_⟩
  have h0 := List.getElem?_eq_getElem hi
  obtain ⟨m, g1, -⟩ := hB.2.2 i _ h0
  have h1 := h.2 _ m b kb nb' h0 g1 hb hnb
  have h2 := h.1 i (i + 1) _ ki m ni (by omega) h0 hki g1 hni
  omega
theorem spr_MI {op : Nat → Bool} : ∀ (f : Nat) {s : BS} (i : Nat), BI op s → MI s i → ∃ j, MI (spr op f s i) j := by
  intro f
  induction f with
  | zero => intro s i _ h; exact ⟨i, h⟩
  | succ f ih =>
    intro s i hB h
    rw [spr]
    split
    · exact ⟨i, h⟩
    · next k hk =>
      obtain ⟨n, h1, -⟩ := hB.2.2 i k hk
      have hn := hB.next hk
      rw [h1, Option.getD_some] at hn ⊢
      have hB2 := rchs_BI (k := k) hB hn 4
      have hl := (rchs_ext op s k (n + 1) 4).len
      exact ih _ hB2 (MI.next hB2 (rchs_MI hB h hk h1 hn 4) (Nat.lt_of_lt_of_le (List.getElem?_eq_some_iff.mp hk).1 hl))
/-! all places come to are in the queue, where it began so -/
def QI (s : BS) : Prop := ∀ k n, s.1 k = some n → k ∈ s.2
theorem rch_QI {op : Nat → Bool} {s : BS} {z : Int} {n : Nat} (h : QI s) : QI (rch op s z n) := by
  rcases rch_or op s z n with e | ⟨y, h1, h2, h3, h4, h5⟩
  · rw [e]; exact h
  · rw [h5]
    intro k m hk
    by_cases e : k = y
    · subst e; simp
    · exact List.mem_append_left _ (h k m (by simpa [updO, e] using hk))
theorem rchs_QI {op : Nat → Bool} {s : BS} {k n : Nat} (h : QI s) : ∀ j, QI (rchs op s k n j)
  | 0 => h
  | j + 1 => rch_QI (rchs_QI h j)
theorem spr_QI {op : Nat → Bool} : ∀ (f : Nat) {s : BS} (i : Nat), QI s → QI (spr op f s i) := by
  intro f
  induction f with
  | zero => intro s i h; exact h
  | succ f ih =>
    intro s i h
    rw [spr]
    split
    · exact h
    · exact ih _ (rchs_QI h 4)
/-! which places are come to: the least set that is closed -/
def clo (op : Nat → Bool) (C : Nat → Prop) : Prop := ∀ (k : Nat) (d : Int) (z : Nat), C k → (0 ≤ d ∧ d ≤ 3) → nb k d = (z : Int) → op z = true → C z
def cl (op : Nat → Bool) (V : Nat → Prop) (z : Nat) : Prop := ∀ C : Nat → Prop, (∀ k, V k → C k) → clo op C → C z
def vis (s : BS) (k : Nat) : Prop := ∃ n, s.1 k = some n
theorem nb_lt {k : Nat} {d : Int} {z : Nat} (h : nb k d = (z : Int)) : z < 400 := by
  unfold nb at h
  split at h <;> omega
theorem rch_vis {op : Nat → Bool} {s : BS} {z : Int} {n : Nat} {k : Nat} : vis (rch op s z n) k ↔ vis s k ∨ (z = (k : Int) ∧ k < 400 ∧ op k = true) := by
  rcases rch_or op s z n with e | ⟨y, h1, h2, h3, h4, h5⟩
  · rw [e]
    constructor
    · exact Or.inl
    · rintro (h | ⟨h1, h2, h3⟩)
      · exact h
      · unfold rch at e
        by_cases hd : s.1 k = none
        · rw [if_pos ⟨by omega, by omega, by rw [h1, Int.toNat_natCast]; exact h3, by rw [h1, Int.toNat_natCast]; exact hd⟩] at e
          have e2 := congrArg (fun t : BS => t.2.length) e
          simp at e2
        · obtain ⟨m, hm⟩ := Option.ne_none_iff_exists'.mp hd
          exact ⟨m, hm⟩
  · rw [h5]
    unfold vis
    constructor
    · rintro ⟨m, hm⟩
      by_cases e : k = y
      · subst e; exact Or.inr ⟨h1, h2, h3⟩
      · exact Or.inl ⟨m, by simpa [updO, e] using hm⟩
    · rintro (⟨m, hm⟩ | ⟨q1, q2, q3⟩)
      · exact ⟨m, updO_new h4 hm⟩
      · have : k = y := by omega
        subst this
        exact ⟨n, by simp [updO]⟩
theorem rchs_vis {op : Nat → Bool} {s : BS} {k n z : Nat} : ∀ j, vis (rchs op s k n j) z ↔ vis s z ∨ ∃ d : Nat, d < j ∧ nb k (d : Int) = (z : Int) ∧ op z = true
  | 0 => by simp [rchs]
  | j + 1 => by
    rw [rchs, rch_vis, rchs_vis j]
    constructor
    · rintro ((h | ⟨d, h1, h2⟩) | ⟨h1, h2, h3⟩)
      · exact Or.inl h
      · exact Or.inr ⟨d, by omega, h2⟩
      · exact Or.inr ⟨j, by omega, h1, h3⟩
    · rintro (h | ⟨d, h1, h2, h3⟩)
      · exact Or.inl (Or.inl h)
      · by_cases e : d = j
        · subst e; exact Or.inr ⟨h2, nb_lt h2, h3⟩
        · exact Or.inl (Or.inr ⟨d, by omega, h2, h3⟩)
/-- all but those that wait have had their turn -/
def FI (op : Nat → Bool) (s : BS) (i : Nat) : Prop := ∀ k, vis s k → (∃ j, i ≤ j ∧ s.2[j]? = some k) ∨ ∀ (d : Int) (z : Nat), (0 ≤ d ∧ d ≤ 3) → nb k d = (z : Int) → op z = true → vis s z
theorem spr_cl {op : Nat → Bool} : ∀ (f : Nat) {s : BS} (i : Nat), BI op s → FI op s i → 401 ≤ i + f → ∀ z, vis (spr op f s i) z ↔ cl op (vis s) z := by
  have fin : ∀ {s : BS} {i : Nat}, FI op s i → s.2[i]? = none → ∀ z, vis s z ↔ cl op (vis s) z := by
    intro s i h hi z
    constructor
    · intro hz C h1 _; exact h1 z hz
    · intro hz
      refine hz (vis s) (fun k hk => hk) (fun k d y hk hd hn ho => ?_)
      rcases h k hk with ⟨j, h1, h2⟩ | h1
      · have h3 := (List.getElem?_eq_some_iff.mp h2).1
        rw [List.getElem?_eq_none_iff] at hi
        omega
      · exact h1 d y hd hn ho
  intro f
  induction f with
  | zero =>
    intro s i hB h hf z
    exact fin h (List.getElem?_eq_none_iff.mpr (by have := hB.len; omega)) z
  | succ f ih =>
    intro s i hB h hf z
    rw [spr]
    split
    · next hi => exact fin h hi z
    · next k hk =>
      have hn := hB.next hk
      have hB2 := rchs_BI (k := k) hB hn 4
      have hv : ∀ y, vis (rchs op s k ((s.1 k).getD 0 + 1) 4) y ↔ vis s y ∨ ∃ d : Nat, d < 4 ∧ nb k (d : Int) = (y : Int) ∧ op y = true := fun y => rchs_vis 4
      have hkv : vis s k := hB.sm (List.mem_of_getElem? hk)
      have hF : FI op (rchs op s k ((s.1 k).getD 0 + 1) 4) (i + 1) := by
        intro y hy
        rcases (hv y).mp hy with hy | ⟨d, h1, h2, h3⟩
        · by_cases e : y = k
          · subst e
            right
            intro d z hd hn2 ho
            exact (hv z).mpr (Or.inr ⟨d.toNat, by omega, by rw [Int.toNat_of_nonneg hd.1]; exact hn2, ho⟩)
          · rcases h y hy with ⟨j, h1, h2⟩ | h1
            · left
              refine ⟨j, ?_, (rchs_ext op s k _ 4).at h2⟩
              rcases Nat.lt_or_ge i j with q | q
              · exact q
              · exfalso
                have : j = i := by omega
                subst this
                exact e (Option.some.inj (h2.symm.trans hk))
            · right
              intro d z hd hn2 ho
              exact (hv z).mpr (Or.inl (h1 d z hd hn2 ho))
        · by_cases hy2 : vis s y
          · by_cases e : y = k
            · subst e
              right
              intro d z hd hn2 ho
              exact (hv z).mpr (Or.inr ⟨d.toNat, by omega, by rw [Int.toNat_of_nonneg hd.1]; exact hn2, ho⟩)
            · rcases h y hy2 with ⟨j, h1, h2⟩ | h1
              · left
                refine ⟨j, ?_, (rchs_ext op s k _ 4).at h2⟩
                rcases Nat.lt_or_ge i j with q | q
                · exact q
                · exfalso
                  have : j = i := by omega
                  subst this
                  exact e (Option.some.inj (h2.symm.trans hk))
              · right
                intro d z hd hn2 ho
                exact (hv z).mpr (Or.inl (h1 d z hd hn2 ho))
          · left
            have hq : ∀ j, j ≤ 4 → vis (rchs op s k ((s.1 k).getD 0 + 1) j) y → y ∈ (rchs op s k ((s.1 k).getD 0 + 1) j).2 := by
              intro j
              induction j with
              | zero => intro _ q; exact absurd q hy2
              | succ j ihj =>
                intro hj q
                rw [rchs] at q ⊢
                rcases rch_or op (rchs op s k ((s.1 k).getD 0 + 1) j) (nb k (j : Int)) ((s.1 k).getD 0 + 1) with e | ⟨w, w1, w2, w3, w4, w5⟩
                · rw [e] at q ⊢; exact ihj (by omega) q
                · rw [w5] at q ⊢
                  by_cases e : y = w
                  · subst e; simp
                  · obtain ⟨m, hm⟩ := q
                    exact List.mem_append_left _ (ihj (by omega) ⟨m, by simpa [updO, e] using hm⟩)
            obtain ⟨j, hj⟩ := List.getElem?_of_mem (hq 4 (by omega) hy)
            refine ⟨j, ?_, hj⟩
            rcases Nat.lt_or_ge i j with q | q
            · exact q
            · exfalso
              have hjl : j < s.2.length := Nat.lt_of_le_of_lt q (List.getElem?_eq_some_iff.mp hk).1
              have h5 := (rchs_ext op s k ((s.1 k).getD 0 + 1) 4).at (List.getElem?_eq_getElem hjl)
              rw [hj] at h5
              have h6 : s.2[j] = y := (Option.some.inj h5).symm
              exact hy2 (hB.sm (h6 ▸ List.getElem_mem hjl))
      rw [ih (i + 1) hB2 hF (by omega) z]
      constructor
      · intro hz C h1 h2
        refine hz C (fun y hy => ?_) h2
        rcases (hv y).mp hy with hy | ⟨d, q1, q2, q3⟩
        · exact h1 y hy
        · exact h2 k (d : Int) y (h1 k hkv) ⟨by omega, by omega⟩ q2 q3
      · intro hz C h1 h2
        exact hz C (fun y hy => h1 y ((hv y).mpr (Or.inl hy))) h2
