/-! the least order: by depth, and by numbers -/
theorem or_add {ord j dep : Nat} (h : ord < 8 ^ dep) : (ord ||| j * 8 ^ dep) = ord + 8 ^ dep * j := by
  rw [pow8] at h ⊢
  rw [Nat.or_comm, Nat.mul_comm, ← Nat.two_pow_add_eq_or_of_lt h, Nat.add_comm]
theorem plr_or_lt {ord j dep i : Nat} (h : ord < 8 ^ dep) (hi : i < dep) : plr (ord ||| j * 8 ^ dep) i = plr ord i := by
  rw [or_add h]
  unfold plr
  obtain ⟨m, hm⟩ : ∃ m, dep = i + (m + 1) := ⟨dep - i - 1, by omega⟩
  rw [hm, Nat.pow_add, Nat.pow_succ, Nat.mul_assoc, Nat.add_mul_div_left _ _ (Nat.pow_pos (by omega))]
  have : 8 ^ m * 8 * j = 8 * (8 ^ m * j) := by rw [Nat.mul_comm (8 ^ m) 8, Nat.mul_assoc]
  omega
theorem plr_or_eq {ord j dep : Nat} (h : ord < 8 ^ dep) (hj : j < 8) : plr (ord ||| j * 8 ^ dep) dep = j := by
  rw [or_add h]
  unfold plr
  rw [Nat.add_mul_div_left _ _ (Nat.pow_pos (by omega)), Nat.div_eq_of_lt h]
  omega
theorem plr_suc (a k : Nat) : plr (a / 8) k = plr a (k + 1) := by
  unfold plr
  rw [Nat.div_div_eq_div_mul, Nat.pow_succ, Nat.mul_comm]
theorem plr_ext : ∀ (n a b : Nat), a < 8 ^ n → b < 8 ^ n → (∀ j, j < n → plr a j = plr b j) → a = b := by
  intro n
  induction n with
  | zero => intro a b ha hb _; simp at ha hb; omega
  | succ n ih =>
    intro a b ha hb h
    rw [Nat.pow_succ] at ha hb
    have h1 := ih (a / 8) (b / 8) (by omega) (by omega) (fun j hj => by rw [plr_suc, plr_suc]; exact h (j + 1) (by omega))
    have h0 := h 0 (by omega)
    unfold plr at h0
    rw [Nat.pow_zero, Nat.div_one, Nat.div_one] at h0
    omega
def lexl (n a b : Nat) : Prop := ∃ k, k < n ∧ (∀ j, j < k → plr a j = plr b j) ∧ plr a k < plr b k
theorem lexl_asym {n a b : Nat} (h : lexl n a b) (g : lexl n b a) : False := by
  obtain ⟨k, h1, h2, h3⟩ := h
  obtain ⟨l, g1, g2, g3⟩ := g
  rcases Nat.lt_trichotomy k l with r | r | r
  · have := g2 k r; omega
  · subst r; omega
  · have := h2 l r; omega
theorem first_diff (a b : Nat) : ∀ n, (∀ j, j < n → plr a j = plr b j) ∨ ∃ k, k < n ∧ (∀ j, j < k → plr a j = plr b j) ∧ plr a k ≠ plr b k := by
  intro n
  induction n with
  | zero => left; intro j hj; omega
  | succ n ih =>
    rcases ih with h | ⟨k, h1, h2, h3⟩
    · by_cases e : plr a n = plr b n
      · left
        intro j hj
        by_cases ej : j = n
        · subst ej; exact e
        · exact h j (by omega)
      · right; exact ⟨n, by omega, h, e⟩
    · right; exact ⟨k, by omega, h2, h3⟩
theorem lexl_tot {n a b : Nat} (ha : a < 8 ^ n) (hb : b < 8 ^ n) (h : a ≠ b) : lexl n a b ∨ lexl n b a := by
  rcases first_diff a b n with g | ⟨k, h1, h2, h3⟩
  · exact absurd (plr_ext n a b ha hb g) h
  · rcases Nat.lt_or_ge (plr a k) (plr b k) with r | r
    · exact Or.inl ⟨k, h1, h2, r⟩
    · exact Or.inr ⟨k, h1, fun j hj => (h2 j hj).symm, by omega⟩
/-- the whole orders under a beginning, first ones first -/
def comps : Nat → Nat → Nat → Nat → List Nat
  | 0, _, _, _ => []
  | f + 1, left, dep, ord => if left = 0 then [ord] else (List.range 8).flatMap (fun p => if left.testBit p = true then comps f (wo left (2 ^ p)) (dep + 1) (ord ||| p * 8 ^ dep) else [])
noncomputable def bst (H : Nat → Nat) (b : Nat × Nat) (o : Nat) : Nat × Nat := if b.1 ≤ H o then b else (H o, o)
theorem foldl_flat {α : Type} {g h : α → Nat → α} {F : Nat → List Nat} : ∀ (l : List Nat) (b : α), (∀ p, p ∈ l → ∀ b, g b p = (F p).foldl h b) → l.foldl g b = (l.flatMap F).foldl h b := by
  intro l
  induction l with
  | nil => intro b _; rfl
  | cons a l ih =>
    intro b hb
    rw [List.foldl_cons, List.flatMap_cons, List.foldl_append, hb a List.mem_cons_self]
    exact ih _ (fun p hp => hb p (List.mem_cons_of_mem _ hp))
theorem bst_keep (H : Nat → Nat) : ∀ (l : List Nat) (b : Nat × Nat), (∀ o, o ∈ l → b.1 ≤ H o) → l.foldl (bst H) b = b := by
  intro l
  induction l with
  | nil => intro b _; rfl
  | cons a l ih =>
    intro b h
    rw [List.foldl_cons, show bst H b a = b from if_pos (h a List.mem_cons_self)]
    exact ih b (fun o ho => h o (List.mem_cons_of_mem _ ho))
def CC (dep n left o : Nat) : Prop := (∀ p, left.testBit p = true ↔ ∃ j, dep ≤ j ∧ j < n ∧ plr o j = p) ∧ ∀ j j', dep ≤ j → j < j' → j' < n → plr o j ≠ plr o j'
theorem comps_mem : ∀ (f left dep ord o : Nat), left < 256 → ord < 8 ^ dep → pcR 8 left < f → (o ∈ comps f left dep ord ↔ o < 8 ^ (dep + pcR 8 left) ∧ (∀ j, j < dep → plr o j = plr ord j) ∧ CC dep (dep + pcR 8 left) left o) := by
  intro f
  induction f with
  | zero => intro left dep ord o _ _ h; omega
  | succ f ih =>
    intro left dep ord o hl ho hf
    rw [comps]
    by_cases h0 : left = 0
    · subst h0
      rw [if_pos rfl, List.mem_singleton, show pcR 8 0 = 0 from rfl, Nat.add_zero]
      constructor
      · intro e
        subst e
        refine ⟨ho, fun j _ => rfl, fun p => ?_, fun j j' h1 h2 h3 => by omega⟩
        rw [Nat.zero_testBit]
        exact ⟨fun g => (by cases g), fun ⟨j, g1, g2, g3⟩ => (by omega)⟩
      · rintro ⟨h1, h2, -⟩
        exact plr_ext dep o ord h1 ho h2
    · rw [if_neg h0, List.mem_flatMap]
      constructor
      · rintro ⟨p, hp, hm⟩
        have hp8 := List.mem_range.mp hp
        split at hm
        · next hb =>
          have hpw := pc_wo left hl p hp8 hb
          obtain ⟨g1, g2, g3, g4⟩ := (ih (wo left (2 ^ p)) (dep + 1) (ord ||| p * 8 ^ dep) o (wo_lt hl) (ord_lt ho hp8) (by omega)).mp hm
          rw [show dep + 1 + pcR 8 (wo left (2 ^ p)) = dep + pcR 8 left by omega] at g1 g3 g4
          have hd : plr o dep = p := by rw [g2 dep (by omega), plr_or_eq ho hp8]
          refine ⟨g1, fun j hj => by rw [g2 j (by omega), plr_or_lt ho hj], fun p' => ?_, fun j j' h1 h2 h3 => ?_⟩
          · by_cases ep : p' = p
            · subst ep
              exact ⟨fun _ => ⟨dep, Nat.le_refl _, by omega, hd⟩, fun _ => hb⟩
            · have := g3 p'
              rw [wo_bit, Nat.testBit_two_pow, decide_eq_false (fun g => ep g.symm), Bool.not_false, Bool.and_true] at this
              rw [this]
              constructor
              · rintro ⟨j, r1, r2, r3⟩; exact ⟨j, by omega, r2, r3⟩
              · rintro ⟨j, r1, r2, r3⟩
                refine ⟨j, ?_, r2, r3⟩
                by_cases ej : j = dep
                · subst ej; exact absurd (r3.symm.trans hd) ep
                · omega
          · by_cases ej : j = dep
            · subst ej
              intro e
              have := (g3 (plr o j')).mpr ⟨j', by omega, h3, rfl⟩
              rw [← e, hd, wo_bit, Nat.testBit_two_pow_self] at this
              simp at this
            · exact g4 j j' (by omega) h2 h3
        · exact absurd hm (by simp)
      · rintro ⟨g1, g2, g3, g4⟩
        have hpos := pc_pos left hl h0
        have hb : left.testBit (plr o dep) = true := (g3 _).mpr ⟨dep, Nat.le_refl _, by omega, rfl⟩
        have hp8 := plr_lt o dep
        have hpw := pc_wo left hl _ hp8 hb
        refine ⟨plr o dep, List.mem_range.mpr hp8, ?_⟩
        rw [if_pos hb]
        refine (ih _ _ _ o (wo_lt hl) (ord_lt ho hp8) (by omega)).mpr ?_
        rw [show dep + 1 + pcR 8 (wo left (2 ^ plr o dep)) = dep + pcR 8 left by omega]
        refine ⟨g1, fun j hj => ?_, fun p' => ?_, fun j j' h1 h2 h3 => g4 j j' (by omega) h2 h3⟩
        · by_cases ej : j = dep
          · subst ej; rw [plr_or_eq ho hp8]
          · rw [plr_or_lt ho (by omega)]; exact g2 j (by omega)
        · rw [wo_bit, Bool.and_eq_true, g3, Nat.testBit_two_pow]
          constructor
          · rintro ⟨⟨j, r1, r2, r3⟩, r4⟩
            refine ⟨j, ?_, r2, r3⟩
            by_cases ej : j = dep
            · subst ej
              rw [r3, decide_eq_true rfl] at r4
              cases r4
            · omega
          · rintro ⟨j, r1, r2, r3⟩
            refine ⟨⟨j, by omega, r2, r3⟩, ?_⟩
            rw [decide_eq_false]; rfl
            intro e
            exact g4 dep j (Nat.le_refl _) (by omega) r2 (e.trans r3.symm)
theorem comps_sorted : ∀ (f left dep ord : Nat), left < 256 → ord < 8 ^ dep → pcR 8 left < f → (comps f left dep ord).Pairwise (lexl (dep + pcR 8 left)) := by
  intro f
  induction f with
  | zero => intro left dep ord _ _ h; omega
  | succ f ih =>
    intro left dep ord hl ho hf
    rw [comps]
    by_cases h0 : left = 0
    · rw [if_pos h0]; exact List.pairwise_singleton _ _
    · rw [if_neg h0, List.pairwise_flatMap]
      have hpos := pc_pos left hl h0
      refine ⟨fun p hp => ?_, ?_⟩
      · have hp8 := List.mem_range.mp hp
        split
        · next hb =>
          have hpw := pc_wo left hl p hp8 hb
          have := ih (wo left (2 ^ p)) (dep + 1) (ord ||| p * 8 ^ dep) (wo_lt hl) (ord_lt ho hp8) (by omega)
          rw [show dep + 1 + pcR 8 (wo left (2 ^ p)) = dep + pcR 8 left by omega] at this
          exact this
        · exact List.Pairwise.nil
      · refine List.Pairwise.imp_of_mem ?_ (List.pairwise_lt_range (n := 8))
        intro a b ha hb hab x hx y hy
        have ha8 := List.mem_range.mp ha
        have hb8 := List.mem_range.mp hb
        split at hx
        · next hba =>
          split at hy
          · next hbb =>
            have hpa := pc_wo left hl a ha8 hba
            have hpb := pc_wo left hl b hb8 hbb
            have hx2 := ((comps_mem f _ _ _ x (wo_lt hl) (ord_lt ho ha8) (by omega)).mp hx).2.1
            have hy2 := ((comps_mem f _ _ _ y (wo_lt hl) (ord_lt ho hb8) (by omega)).mp hy).2.1
            refine ⟨dep, by omega, fun j hj => ?_, ?_⟩
            · rw [hx2 j (by omega), hy2 j (by omega), plr_or_lt ho hj, plr_or_lt ho hj]
            · rw [hx2 dep (by omega), hy2 dep (by omega), plr_or_eq ho ha8, plr_or_eq ho hb8]
              exact hab
          · exact absurd hy (by simp)
        · exact absurd hx (by simp)
noncomputable def HH (σ : St) (w n o : Nat) : Nat := (fL σ w (ordL o n)).2
theorem HH_mono (σ : St) (w o a : Nat) : ∀ m, HH σ w a o ≤ HH σ w (a + m) o := by
  intro m
  induction m with
  | zero => exact Nat.le_refl _
  | succ m ih =>
    refine Nat.le_trans ih ?_
    unfold HH
    rw [← Nat.add_assoc, ordL_succ, fL_snoc]
    exact Nat.le_max_left _ _
theorem ordL_ext {a b n : Nat} (h : ∀ j, j < n → plr a j = plr b j) : ordL a n = ordL b n := by
  unfold ordL
  exact List.map_congr_left (fun j hj => h j (List.mem_range.mp hj))
theorem dfs_fold (σ : St) (w : Nat) : ∀ (f left dep ord : Nat) (b : Nat × Nat), left < 256 → ord < 8 ^ dep → pcR 8 left < f → dfs σ w f (fL σ w (ordL ord dep)) left dep ord b = (comps f left dep ord).foldl (bst (HH σ w (dep + pcR 8 left))) b := by
  intro f
  induction f with
  | zero => intro left dep ord b _ _ h; omega
  | succ f ih =>
    intro left dep ord b hl ho hf
    rw [dfs_succ]
    split
    · next hb =>
      rw [bst_keep]
      intro o hom
      have h2 := ((comps_mem (f + 1) left dep ord o hl ho hf).mp hom).2.1
      have h3 := HH_mono σ w o dep (pcR 8 left)
      have h4 : HH σ w dep o = (fL σ w (ordL ord dep)).2 := by unfold HH; rw [ordL_ext h2]
      omega
    · next hb =>
      rw [comps]
      split
      · next h0 =>
        subst h0
        have h4 : HH σ w (dep + pcR 8 0) ord = (fL σ w (ordL ord dep)).2 := rfl
        rw [List.foldl_cons, List.foldl_nil, bst, if_neg (by rw [h4]; exact hb), h4]
      · next h0 =>
        refine foldl_flat _ _ (fun p hp b => ?_)
        have hp8 := List.mem_range.mp hp
        unfold dst
        split
        · next hbp =>
          have hpw := pc_wo left hl p hp8 hbp
          have := ih (wo left (2 ^ p)) (dep + 1) (ord ||| p * 8 ^ dep) b (wo_lt hl) (ord_lt ho hp8) (by omega)
          rw [ordL_succ, fL_snoc, ordL_ext (fun j hj => plr_or_lt (j := p) ho hj), plr_or_eq ho hp8, show dep + 1 + pcR 8 (wo left (2 ^ p)) = dep + pcR 8 left by omega] at this
          exact this
        · rfl
def isBest (H : Nat → Nat) (n : Nat) (C : Nat → Prop) (x : Nat) : Prop := C x ∧ ∀ o, C o → o ≠ x → H x < H o ∨ (H x = H o ∧ lexl n x o)
theorem isBest_one {H : Nat → Nat} {n : Nat} {C : Nat → Prop} {x y : Nat} (hx : isBest H n C x) (hy : isBest H n C y) : x = y := by
  apply Classical.byContradiction
  intro h
  rcases hx.2 y hy.1 (fun e => h e.symm) with r | ⟨r1, r2⟩
  · rcases hy.2 x hx.1 h with s | ⟨s1, s2⟩ <;> omega
  · rcases hy.2 x hx.1 h with s | ⟨s1, s2⟩
    · omega
    · exact lexl_asym r2 s2
theorem fold_best {H : Nat → Nat} {n : Nat} : ∀ (l : List Nat) (b : Nat × Nat), l.Pairwise (lexl n) → (l.foldl (bst H) b = b ∧ ∀ o, o ∈ l → b.1 ≤ H o) ∨ ∃ x, l.foldl (bst H) b = (H x, x) ∧ H x < b.1 ∧ isBest H n (fun o => o ∈ l) x := by
  intro l
  induction l with
  | nil => intro b _; left; exact ⟨rfl, fun o h => by cases h⟩
  | cons a l ih =>
    intro b hp
    obtain ⟨hp1, hp2⟩ := List.pairwise_cons.mp hp
    rw [List.foldl_cons]
    by_cases hb : b.1 ≤ H a
    · rw [show bst H b a = b from if_pos hb]
      rcases ih b hp2 with ⟨h1, h2⟩ | ⟨x, h1, h2, h3, h4⟩
      · left
        refine ⟨h1, fun o ho => ?_⟩
        rcases List.mem_cons.mp ho with e | e
        · subst e; exact hb
        · exact h2 o e
      · right
        refine ⟨x, h1, h2, List.mem_cons_of_mem _ h3, fun o ho hne => ?_⟩
        rcases List.mem_cons.mp ho with e | e
        · subst e; left; omega
        · exact h4 o e hne
    · rw [show bst H b a = (H a, a) from if_neg hb]
      right
      rcases ih (H a, a) hp2 with ⟨h1, h2⟩ | ⟨x, h1, h2, h3, h4⟩
      · refine ⟨a, h1, by omega, List.mem_cons_self, fun o ho hne => ?_⟩
        rcases List.mem_cons.mp ho with e | e
        · exact absurd e hne
        · have h5 : H a ≤ H o := h2 o e
          rcases Nat.lt_or_ge (H a) (H o) with r | r
          · exact Or.inl r
          · exact Or.inr ⟨by omega, hp1 o e⟩
      · have h2' : H x < H a := h2
        refine ⟨x, h1, by omega, List.mem_cons_of_mem _ h3, fun o ho hne => ?_⟩
        rcases List.mem_cons.mp ho with e | e
        · subst e; exact Or.inl h2'
        · exact h4 o e hne
theorem setL_CC {s o : Nat} (hs : s < 256) : setL o (pcR 8 s) = s ↔ CC 0 (pcR 8 s) s o := by
  have h1 := setL_pc o (pcR 8 s)
  have h2 := setL_bit o (pcR 8 s)
  constructor
  · intro e
    rw [e] at h1 h2
    refine ⟨fun p => ?_, fun j j' _ h3 h4 => h1.2.mp rfl j' h4 j h3⟩
    rw [h2]
    exact ⟨fun ⟨k, g1, g2⟩ => ⟨k, Nat.zero_le _, g1, g2⟩, fun ⟨k, _, g1, g2⟩ => ⟨k, g1, g2⟩⟩
  · rintro ⟨g1, g2⟩
    apply Nat.eq_of_testBit_eq
    intro p
    rw [Bool.eq_iff_iff, h2, g1]
    exact ⟨fun ⟨k, g1, g2⟩ => ⟨k, Nat.zero_le _, g1, g2⟩, fun ⟨k, _, g1, g2⟩ => ⟨k, g1, g2⟩⟩
def Ord8 (s o : Nat) : Prop := o < 8 ^ pcR 8 s ∧ setL o (pcR 8 s) = s
theorem dfs_best {σ : St} {w s : Nat} (hs : s < 256) (hpc : pcR 8 s ≤ 5) (hw : w ≤ 12) (hex : ∃ o, Ord8 s o) : ∃ x, isBest (HH σ w (pcR 8 s)) (pcR 8 s) (Ord8 s) x ∧ dfs σ w 6 (fun _ => 0, 0) s 0 0 (26, 0) = (HH σ w (pcR 8 s) x, x) := by
  have h1 := dfs_fold σ w 6 s 0 0 (26, 0) hs (by omega) (by omega)
  rw [show fL σ w (ordL 0 0) = (fun _ => 0, 0) from rfl, Nat.zero_add] at h1
  have h2 := comps_sorted 6 s 0 0 hs (by omega) (by omega)
  rw [Nat.zero_add] at h2
  have hmem : ∀ o, o ∈ comps 6 s 0 0 ↔ Ord8 s o := by
    intro o
    rw [comps_mem 6 s 0 0 o hs (by omega) (by omega), Nat.zero_add]
    unfold Ord8
    rw [setL_CC hs]
    exact ⟨fun g => ⟨g.1, g.2.2⟩, fun g => ⟨g.1, fun j hj => by omega, g.2⟩⟩
  rcases fold_best (H := HH σ w (pcR 8 s)) (comps 6 s 0 0) (26, 0) h2 with ⟨g1, g2⟩ | ⟨x, g1, g2, g3, g4⟩
  · exfalso
    obtain ⟨o, ho⟩ := hex
    have h3 : 26 ≤ HH σ w (pcR 8 s) o := g2 o ((hmem o).mpr ho)
    have h4 := (fL_ok (σ := σ) (order := o) hw (pcR 8 s) hpc).2
    have h5 : HH σ w (pcR 8 s) o = (fL σ w (ordL o (pcR 8 s))).2 := rfl
    omega
  · exact ⟨x, ⟨(hmem x).mp g3, fun o ho hne => g4 o ((hmem o).mpr ho) hne⟩, h1.trans g1⟩
theorem ord_ex : ∀ (m : Nat) (s : Nat), s < 256 → pcR 8 s = m → ∃ o, Ord8 s o := by
  intro m s hs hm
  have hne : ∀ (f left dep ord : Nat), left < 256 → ord < 8 ^ dep → pcR 8 left < f → ∃ o, o ∈ comps f left dep ord := by
    intro f
    induction f with
    | zero => intro left dep ord _ _ h; omega
    | succ f ih =>
      intro left dep ord hl ho hf
      rw [comps]
      by_cases h0 : left = 0
      · rw [if_pos h0]; exact ⟨ord, List.mem_singleton.mpr rfl⟩
      · rw [if_neg h0]
        obtain ⟨p, hp⟩ : ∃ p, left.testBit p = true := by
          apply Classical.byContradiction
          intro g
          apply h0
          apply Nat.eq_of_testBit_eq
          intro i
          rw [Nat.zero_testBit, ← Bool.not_eq_true]
          exact fun q => g ⟨i, q⟩
        have hp8 : p < 8 := by
          rcases Nat.lt_or_ge p 8 with r | r
          · exact r
          · rw [Nat.testBit_lt_two_pow (Nat.lt_of_lt_of_le hl (Nat.pow_le_pow_right (n := 2) (by omega) r))] at hp
            cases hp
        have hpw := pc_wo left hl p hp8 hp
        obtain ⟨o, hoo⟩ := ih (wo left (2 ^ p)) (dep + 1) (ord ||| p * 8 ^ dep) (wo_lt hl) (ord_lt ho hp8) (by omega)
        exact ⟨o, List.mem_flatMap.mpr ⟨p, List.mem_range.mpr hp8, by rw [if_pos hp]; exact hoo⟩⟩
  have h8 := pcR8_le s hs
  obtain ⟨o, ho⟩ := hne 9 s 0 0 hs (by omega) (by omega)
  rw [comps_mem 9 s 0 0 o hs (by omega) (by omega), Nat.zero_add] at ho
  exact ⟨o, ho.1, (setL_CC hs).mpr ho.2.2⟩
theorem lexl_trans {n a b c : Nat} (h : lexl n a b) (g : lexl n b c) : lexl n a c := by
  obtain ⟨k, h1, h2, h3⟩ := h
  obtain ⟨l, g1, g2, g3⟩ := g
  rcases Nat.lt_trichotomy k l with r | r | r
  · exact ⟨k, h1, fun j hj => (h2 j hj).trans (g2 j (by omega)), by rw [← g2 k r]; exact h3⟩
  · subst r; exact ⟨k, h1, fun j hj => (h2 j hj).trans (g2 j hj), by omega⟩
  · exact ⟨l, g1, fun j hj => (h2 j (by omega)).trans (g2 j hj), by rw [h2 l r]; exact g3⟩
section MBE
variable {d : Nat} {M : Mem} {Q : Post} {σ : St}
theorem r_isOrder {o n s : Nat} (ho : o < 2147483648) (hn : n ≤ 5) (hs : s < 2147483648) (h : Q (some (jb (decide (setL o n = s)))) M) : Mt (d + 1) mX5_isOrder [.int (J (o : Int)), .int (J (n : Int)), .int (J (s : Int))] M Q := by
  have key : ∀ f k : Nat, k + f = n → R none (d + 1) mX5_isOrder 5 [.int (J (o : Int)), .int (J (n : Int)), .int (J (s : Int)), .int (J (setL o k : Nat)), .int (J (k : Int))] [] M Q := by
    intro f
    induction f with
    | zero =>
      intro k hk
      have hl := setL_lt o n
      refine b_X5_isOrder_5 ⟨fun _ => ?_, fun c => ?_⟩
      · rw [show k = n by omega, J_eq (by omega) (by omega) (by omega) (by omega)]
        refine ⟨fun c => ?_, fun c => ?_⟩
        · rw [decide_eq_false (by omega)] at h; exact h
        · rw [decide_eq_true (by omega)] at h; exact h
      · simp (disch := omega) only [J_add, J_sub, J_mul, J_neg, J_bit, J_shl, J_shr, J_andn, J_and, J_or, J_xor, J_div, J_rem, J_lt, J_le, J_eq, J_lt0, J_le0, J_0le, J_0lt, J_eq0, vp_in_J, J_clamp, J_max, J_abs, Int.toNat_natCast, Int.reduceToNat, Int.reduceAdd, Int.reduceSub, Int.reduceMul, Int.reduceNeg, not_true_eq_false, not_false_eq_true] at c; omega
    | succ f ih =>
      intro k hk
      have hp := plr_lt o k
      refine b_X5_isOrder_5 ⟨fun c => ?_, fun _ => ?_⟩
      · simp (disch := omega) only [J_add, J_sub, J_mul, J_neg, J_bit, J_shl, J_shr, J_andn, J_and, J_or, J_xor, J_div, J_rem, J_lt, J_le, J_eq, J_lt0, J_le0, J_0le, J_0lt, J_eq0, vp_in_J, J_clamp, J_max, J_abs, Int.toNat_natCast, Int.reduceToNat, Int.reduceAdd, Int.reduceSub, Int.reduceMul, Int.reduceNeg, not_true_eq_false, not_false_eq_true] at c; omega
      · rw [J_plr ho (by omega), J_or1 (by omega), J_suc]
        exact ih (k + 1) (by omega)
  exact e_X5_isOrder (key n 0 (by omega))
theorem r_isLower {a b n : Nat} (ha : a < 2147483648) (hb : b < 2147483648) (hn : n ≤ 5) (hab : lexl n a b ∨ lexl n b a) (h : Q (some (jb (pb (lexl n a b)))) M) : Mt (d + 1) mX5_isLower [.int (J (a : Int)), .int (J (b : Int))] M Q := by
  obtain ⟨k, h1, h2, h3⟩ : ∃ k, k < n ∧ (∀ j, j < k → plr a j = plr b j) ∧ plr a k ≠ plr b k := by
    rcases hab with ⟨k, h1, h2, h3⟩ | ⟨k, h1, h2, h3⟩
    · exact ⟨k, h1, h2, by omega⟩
    · exact ⟨k, h1, fun j hj => (h2 j hj).symm, by omega⟩
  have key : ∀ f i : Nat, i + f = k → R none (d + 1) mX5_isLower 2 [.int (J (a : Int)), .int (J (b : Int)), .int (J (i : Int))] [] M Q := by
    intro f
    induction f with
    | zero =>
      intro i hi
      have hik : i = k := by omega
      subst hik
      have p1 := plr_lt a i
      have p2 := plr_lt b i
      refine b_X5_isLower_2 ?_
      rw [J_plr ha (by omega), J_plr hb (by omega), J_eq (by omega) (by omega) (by omega) (by omega), J_le (by omega) (by omega) (by omega) (by omega)]
      refine ⟨fun _ => ⟨fun c => ?_, fun c => ?_⟩, fun c => absurd (by omega) h3⟩
      · rw [pb_f.mpr (fun g => lexl_asym g ⟨i, h1, fun j hj => (h2 j hj).symm, by omega⟩)] at h
        exact h
      · rw [pb_t.mpr ⟨i, h1, h2, by omega⟩] at h
        exact h
    | succ f ih =>
      intro i hi
      have p1 := plr_lt a i
      have p2 := plr_lt b i
      have p3 := h2 i (by omega)
      refine b_X5_isLower_2 ?_
      rw [J_plr ha (by omega), J_plr hb (by omega), J_eq (by omega) (by omega) (by omega) (by omega), J_suc]
      exact ⟨fun c => absurd (by omega) c, fun _ => ih (i + 1) (by omega)⟩
  exact e_X5_isLower (key k 0 (by omega))
theorem m_best {S : SS} {w s t : Int} (hC : MR M S) (hO : OKS S) (hw : BI32 w) (hs : BI32 s) (ht : BI32 t) (h : ∀ M', MR M' S → NF M M' → Q (some (J (aBest S w s t))) M') : Mt (d + 12) mX5_best [.ref 18, .int (J w), .int (J s), .int (J t)] M Q := by
  have hW := hO.1
  have hN := hW.N
  have hT := hC.1
  unfold aBest at h
  have h256 : 2 ^ sN S.1 ≤ 2 ^ 8 := Nat.pow_le_pow_right (by omega) hN
  have hp0 := Nat.two_pow_pos (sN S.1)
  have bad : ¬ bestOK S.1 w s t → Q (some (J (-1))) M := by
    intro q
    rw [if_neg (by rw [pb_t]; exact q)] at h
    exact h M hC NF.rf
  have e2 : (2 : Int) ^ sN S.1 = ((2 ^ sN S.1 : Nat) : Int) := by rw [Int.natCast_pow]; rfl
  refine e_X5_best (r_in hw (b32 (by omega) (by omega)) (b32 (by omega) (by omega)) (ri_some ?_))
  rw [jb_ne, jb_eq0]
  refine ⟨fun q => bad (fun g => absurd g.1 (of_decide_eq_false q)), fun q => ?_⟩
  have hw12 := of_decide_eq_true q
  rw [hT.2.2.1, J_shl (by omega) (by omega), Int.toNat_natCast, Int.one_mul, e2, J_sub]
  refine r_in hs (b32 (by omega) (by omega)) (b32 (by omega) (by omega)) (ri_some ?_)
  rw [jb_ne, jb_eq0]
  refine ⟨fun q2 => bad (fun g => ?_), fun q2 => ?_⟩
  · have := g.2.1
    have := of_decide_eq_false q2
    omega
  have hs1 := of_decide_eq_true q2
  obtain ⟨v, rfl⟩ := J_nat (show 0 ≤ w by omega)
  obtain ⟨u, rfl⟩ := J_nat (show 0 ≤ s by omega)
  have hpc8 := pcR8_le u (by omega)
  refine r_bits (by omega) (ri_some ?_)
  refine ⟨fun q3 => bad (fun g => ?_), fun q3 => r_in ht (b32 (by omega) (by omega)) (b32 (by omega) (by omega)) (ri_some ?_)⟩
  · simp (disch := omega) only [J_add, J_sub, J_mul, J_neg, J_bit, J_shl, J_shr, J_andn, J_and, J_or, J_xor, J_div, J_rem, J_lt, J_le, J_eq, J_lt0, J_le0, J_0le, J_0lt, J_eq0, vp_in_J, J_clamp, J_max, J_abs, Int.toNat_natCast, Int.reduceToNat, Int.reduceAdd, Int.reduceSub, Int.reduceMul, Int.reduceNeg, not_true_eq_false, not_false_eq_true] at q3
    have := g.2.2.1
    rw [Int.toNat_natCast] at this
    omega
  simp (disch := omega) only [J_add, J_sub, J_mul, J_neg, J_bit, J_shl, J_shr, J_andn, J_and, J_or, J_xor, J_div, J_rem, J_lt, J_le, J_eq, J_lt0, J_le0, J_0le, J_0lt, J_eq0, vp_in_J, J_clamp, J_max, J_abs, Int.toNat_natCast, Int.reduceToNat, Int.reduceAdd, Int.reduceSub, Int.reduceMul, Int.reduceNeg, not_true_eq_false, not_false_eq_true] at q3
  rw [jb_ne, jb_eq0]
  refine ⟨fun q4 => ?_, fun q4 => bad (fun g => absurd g.2.2.2.1 (of_decide_eq_false q4))⟩
  have ht1 := of_decide_eq_true q4
  have main : (∀ p, u.testBit p = true → p < sN S.1 ∧ wideN (sS S.1 p) ≤ v) → R none (d + 12) mX5_best 103 [.ref 18, .int (J (v : Int)), .int (J (u : Int)), .int (J t), .int (J (pcR 8 u : Nat)), .int (J 999), .int (J 0), .int (J 0), .null] [] M Q := by
    intro hall
    have hok : bestOK S.1 (v : Int) (u : Int) t := ⟨hw12, ⟨hs1.1, by omega⟩, by rw [Int.toNat_natCast]; omega, ht1, fun p hp => by
      rw [Int.toNat_natCast] at hp
      have := (hall p hp).2
      omega⟩
    rw [if_pos (by rw [pb_t]; exact hok), Int.toNat_natCast, Int.toNat_natCast] at h
    obtain ⟨x, hbx, hdx⟩ := dfs_best (σ := S.1) (w := v) (s := u) (by omega) (by omega) (by omega) (ord_ex _ u (by omega) rfl)
    rw [hdx] at h
    dsimp only at h
    generalize hnn : pcR 8 u = n at *
    have h8b : 8 ^ n ≤ 8 ^ 5 := Nat.pow_le_pow_right (by omega) (by omega)
    have hHb : ∀ o, HH S.1 v n o ≤ 25 := fun o => by
      have := (fL_ok (σ := S.1) (order := o) (show v ≤ 12 by omega) n (by omega)).2
      have h5 : HH S.1 v n o = (fL S.1 v (ordL o n)).2 := rfl
      omega
    have hO8 : ∀ o, Ord8 u o ↔ o < 8 ^ n ∧ setL o n = u := fun o => by unfold Ord8; rw [hnn]
    have key : ∀ f o : Nat, o + f = 8 ^ n → ∀ (M1 : Mem) (l fo : Nat), QF M M1 → l ≤ 999 → fo ≤ o → ((l = 999 ∧ fo = 0 ∧ ∀ o', o' < o → ¬ Ord8 u o') ∨ (Ord8 u fo ∧ fo < o ∧ l = HH S.1 v n fo ∧ ∀ o', o' < o → Ord8 u o' → o' ≠ fo → HH S.1 v n fo < HH S.1 v n o' ∨ (HH S.1 v n fo = HH S.1 v n o' ∧ lexl n fo o'))) → R none (d + 12) mX5_best 103 [.ref 18, .int (J (v : Int)), .int (J (u : Int)), .int (J t), .int (J (n : Int)), .int (J (l : Int)), .int (J (fo : Int)), .int (J (o : Int)), .null] [] M1 Q := by
      intro f
      have h8e : J 1 <<< ((J 3 * J (n : Int)) &&& 31) = J ((8 ^ n : Nat) : Int) := by
        rw [J_mul, show (3 : Int) * (n : Int) = ((3 * n : Nat) : Int) by omega, J_shl (by omega) (by omega), Int.toNat_natCast, Int.one_mul, pow8, Int.natCast_pow]; rfl
      induction f with
      | zero =>
        intro o ho M1 l fo hF hl hfo hinv
        have h1 := h M1 (hC.keep hF) hF.NF
        refine b_X5_best_103 ?_
        rw [h8e]
        refine ⟨fun _ => ?_, fun c => ?_⟩
        · have hfin : fo = x ∧ l = HH S.1 v n x := by
            rcases hinv with ⟨g1, g2, g3⟩ | ⟨g1, g2, g3, g4⟩
            · exact absurd hbx.1 (g3 x (by have := ((hO8 x).mp hbx.1).1; omega))
            · have : fo = x := isBest_one (H := HH S.1 v n) (n := n) (C := Ord8 u) ⟨g1, fun o' ho' hne => g4 o' (by have := ((hO8 o').mp ho').1; omega) ho' hne⟩ hbx
              subst this
              exact ⟨rfl, g3⟩
          rw [hfin.1, hfin.2, J_eq0 (by omega) (by omega)]
          refine ⟨fun c => ?_, fun c => ?_⟩
          · rw [if_neg c] at h1; exact h1
          · rw [if_pos c] at h1; exact h1
        · simp (disch := omega) only [J_add, J_sub, J_mul, J_neg, J_bit, J_shl, J_shr, J_andn, J_and, J_or, J_xor, J_div, J_rem, J_lt, J_le, J_eq, J_lt0, J_le0, J_0le, J_0lt, J_eq0, vp_in_J, J_clamp, J_max, J_abs, Int.toNat_natCast, Int.reduceToNat, Int.reduceAdd, Int.reduceSub, Int.reduceMul, Int.reduceNeg, not_true_eq_false, not_false_eq_true] at c; omega
      | succ f ih =>
        intro o ho M1 l fo hF hl hfo hinv
        have hT1 := hT.keep hF
        refine b_X5_best_103 ?_
        rw [h8e]
        refine ⟨fun c => ?_, fun _ => r_isOrder (by omega) (by omega) (by omega) (ri_some ?_)⟩
        · simp (disch := omega) only [J_add, J_sub, J_mul, J_neg, J_bit, J_shl, J_shr, J_andn, J_and, J_or, J_xor, J_div, J_rem, J_lt, J_le, J_eq, J_lt0, J_le0, J_0le, J_0lt, J_eq0, vp_in_J, J_clamp, J_max, J_abs, Int.toNat_natCast, Int.reduceToNat, Int.reduceAdd, Int.reduceSub, Int.reduceMul, Int.reduceNeg, not_true_eq_false, not_false_eq_true] at c; omega
        · rw [jb_ne, jb_eq0, J_suc]
          refine ⟨fun c => ?_, fun c => ?_⟩
          · have hno : ¬ Ord8 u o := fun g => of_decide_eq_false c ((hO8 o).mp g).2
            refine ih (o + 1) (by omega) M1 l fo hF hl (by omega) ?_
            rcases hinv with ⟨g1, g2, g3⟩ | ⟨g1, g2, g3, g4⟩
            · left
              refine ⟨g1, g2, fun o' ho' => ?_⟩
              by_cases e : o' = o
              · subst e; exact hno
              · exact g3 o' (by omega)
            · right
              refine ⟨g1, by omega, g3, fun o' ho' h2 h3 => ?_⟩
              by_cases e : o' = o
              · subst e; exact absurd h2 hno
              · exact g4 o' (by omega) h2 h3
          · have hset := of_decide_eq_true c
            have hyes : Ord8 u o := (hO8 o).mpr ⟨by omega, hset⟩
            refine r_fills hT1 hW (by omega) (by omega) (by omega) (fun k hk => hall _ ?_) (fun M2 _ hF2 => ri_some ?_)
            · rw [← hset, setL_bit]; exact ⟨k, hk, rfl⟩
            · have hQ2 := hF.tr hF2.QF
              have hHo := hHb o
              rw [show (fL S.1 v (ordL o n)).2 = HH S.1 v n o from rfl, J_lt (by omega) (by omega) (by omega) (by omega), J_eq (by omega) (by omega) (by omega) (by omega)]
              refine ⟨fun c1 => ?_, fun c1 => ⟨fun c2 => ?_, fun c2 => ?_⟩⟩
              · refine ih (o + 1) (by omega) M2 _ o hQ2 (by omega) (by omega) (Or.inr ⟨hyes, by omega, rfl, fun o' ho' h2 h3 => ?_⟩)
                rcases hinv with ⟨g1, g2, g3⟩ | ⟨g1, g2, g3, g4⟩
                · exact absurd h2 (g3 o' (by omega))
                · by_cases e : o' = fo
                  · subst e; left; omega
                  · rcases g4 o' (by omega) h2 e with r | ⟨r, _⟩ <;> (left; omega)
              · rcases hinv with ⟨g1, g2, g3⟩ | ⟨g1, g2, g3, g4⟩
                · omega
                · refine ih (o + 1) (by omega) M2 l fo hQ2 hl (by omega) (Or.inr ⟨g1, by omega, g3, fun o' ho' h2 h3 => ?_⟩)
                  by_cases e : o' = o
                  · subst e; left; omega
                  · exact g4 o' (by omega) h2 h3
              · rcases hinv with ⟨g1, g2, g3⟩ | ⟨g1, g2, g3, g4⟩
                · omega
                · have hfo8 := ((hO8 fo).mp g1).1
                  have htot := lexl_tot (n := n) (show o < 8 ^ n by omega) hfo8 (by omega)
                  refine r_isLower (n := n) (by omega) (by omega) (by omega) htot (ri_some ?_)
                  rw [jb_ne, jb_eq0, pb_t, pb_f]
                  refine ⟨fun c3 => ?_, fun c3 => ?_⟩
                  · refine ih (o + 1) (by omega) M2 l fo hQ2 hl (by omega) (Or.inr ⟨g1, by omega, g3, fun o' ho' h2 h3 => ?_⟩)
                    by_cases e : o' = o
                    · subst e
                      right
                      refine ⟨by omega, ?_⟩
                      rcases htot with r | r
                      · exact absurd r c3
                      · exact r
                    · exact g4 o' (by omega) h2 h3
                  · refine ih (o + 1) (by omega) M2 _ o hQ2 (by omega) (by omega) (Or.inr ⟨hyes, by omega, rfl, fun o' ho' h2 h3 => ?_⟩)
                    by_cases e : o' = fo
                    · subst e; right; exact ⟨by omega, c3⟩
                    · rcases g4 o' (by omega) h2 e with r | ⟨r, r2⟩
                      · left; omega
                      · right; exact ⟨by omega, lexl_trans c3 r2⟩
    exact key (8 ^ n) 0 (by omega) M 999 0 QF.rf (by omega) (by omega) (Or.inl ⟨rfl, rfl, fun o' ho' => by omega⟩)
  have ask : ∀ f p : Nat, p + f = sN S.1 → (∀ j, j < p → u.testBit j = true → wideN (sS S.1 j) ≤ v) → R none (d + 12) mX5_best 48 [.ref 18, .int (J (v : Int)), .int (J (u : Int)), .int (J t), .int (J (p : Int)), .null, .null, .null, .null] [] M Q := by
    intro f
    induction f with
    | zero =>
      intro p hp hj
      refine b_X5_best_48 ⟨fun _ => r_bits (by omega) (ri_some (main (fun j hb => ?_))), fun c => ?_⟩
      · have hjN : j < sN S.1 := by
          rcases Nat.lt_or_ge j (sN S.1) with r | r
          · exact r
          · rw [Nat.testBit_lt_two_pow (Nat.lt_of_lt_of_le (show u < 2 ^ sN S.1 by omega) (Nat.pow_le_pow_right (by omega) r))] at hb
            cases hb
        exact ⟨hjN, hj j (by omega) hb⟩
      · rw [hT.2.2.1] at c
        simp (disch := omega) only [J_add, J_sub, J_mul, J_neg, J_bit, J_shl, J_shr, J_andn, J_and, J_or, J_xor, J_div, J_rem, J_lt, J_le, J_eq, J_lt0, J_le0, J_0le, J_0lt, J_eq0, vp_in_J, J_clamp, J_max, J_abs, Int.toNat_natCast, Int.reduceToNat, Int.reduceAdd, Int.reduceSub, Int.reduceMul, Int.reduceNeg, not_true_eq_false, not_false_eq_true] at c; omega
    | succ f ih =>
      intro p hp hj
      have hwl := wideN_le (sS S.1 p)
      refine b_X5_best_48 ⟨fun c => ?_, fun _ => ?_⟩
      · rw [hT.2.2.1] at c
        simp (disch := omega) only [J_add, J_sub, J_mul, J_neg, J_bit, J_shl, J_shr, J_andn, J_and, J_or, J_xor, J_div, J_rem, J_lt, J_le, J_eq, J_lt0, J_le0, J_0le, J_0lt, J_eq0, vp_in_J, J_clamp, J_max, J_abs, Int.toNat_natCast, Int.reduceToNat, Int.reduceAdd, Int.reduceSub, Int.reduceMul, Int.reduceNeg, not_true_eq_false, not_false_eq_true] at c; omega
      · rw [J_tb (by omega) (by omega), jb_eq1, J_suc, nI2 (by omega), (hT.2.2.2.2.1 p (by omega)).2.1, J_le (by omega) (by omega) (by omega) (by omega)]
        refine ⟨fun c => ih (p + 1) (by omega) (fun j h1 h2 => ?_), fun c => ⟨vin (by omega) (by omega), fun c2 => ih (p + 1) (by omega) (fun j h1 h2 => ?_), fun c2 => bad (fun g => ?_)⟩⟩
        · by_cases e : j = p
          · subst e; exact absurd h2 c
          · exact hj j (by omega) h2
        · by_cases e : j = p
          · subst e; omega
          · exact hj j (by omega) h2
        · have := g.2.2.2.2 p (by rw [Int.toNat_natCast]; exact c)
          omega
  exact ask (sN S.1) 0 (by omega) (fun j hj => by omega)
end MBE
