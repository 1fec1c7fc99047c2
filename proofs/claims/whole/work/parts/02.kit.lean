/-! THE STATE: all cells of class and reference as one table 'knd'; a memory is their ints -/
abbrev Mem : Type := Nat → Nat → Int32
abbrev Scr : Type := Option (Nat × (Nat → Int32))
abbrev Knd : Type := (Nat × FieldType) ⊕ (Nat × List (Option Nat))
def mput (M : Mem) (o : Nat) (f : Nat → Int32) : Mem := fun a => if a = o then f else M a
def mset (M : Mem) (o k : Nat) (v : Int32) : Mem := mput M o (upd (M o) k v)
/-- 0 GapPieces, 1 Table, 2 Paths, 3 Heap, 4 Filler, 5 wallRows, 6 shapes, 7 xs, 8 ys, 9 taken, 10 open, 11 outside, 12 distances, 13 queue, 14 steps, 15 gone, 16 filled, 17 spots; 18 the reference, 19 wall, 20 shape, 21 wide, 22 tall, 23 lies, 24 px, 25 py, 26 steps, 27 far, 28 queue, 29 taken, 30 stripX, 31 stripY -/
def knd : List Knd := [
  .inr (4, [some 1, some 2, some 3, some 4]),
  .inr (3, [some 5, some 6, some 7, some 8, none, none, none, none]),
  .inr (2, [some 1, some 9, some 10, some 11, some 12, some 13, none, some 14, none]),
  .inr (1, [some 1, some 2, some 15, none, none]),
  .inr (0, [some 1, some 16, some 17, none, none, none]),
  .inl (10, .int), .inl (8, .int), .inl (8, .int), .inl (8, .int),
  .inl (24, .int), .inl (20, .int), .inl (20, .int), .inl (400, .int), .inl (400, .int), .inl (400, .int),
  .inl (8, .int), .inl (25, .int), .inl (5, .int),
  .inr (5, [none, none, some 19, none, some 20, some 21, some 22, some 23, some 24, some 25, none, some 26, some 27, some 28, some 29, some 30, some 31]),
  .inl (10, .int), .inl (8, .int), .inl (8, .int), .inl (8, .int), .inl (8, .boolean), .inl (8, .int), .inl (8, .int), .inl (400, .int), .inl (400, .int), .inl (400, .int), .inl (40, .int), .inl (5, .int), .inl (5, .int)]
def fval (ad : Nat → Nat) (f : Nat → Int32) (k : Nat) (x : Option Nat) : Value := match x with
  | some r => .ref (ad r)
  | none => .int (f k)
def fvals (ad : Nat → Nat) (f : Nat → Int32) (fl : List (Option Nat)) : List Value := fl.mapIdx (fun k x => fval ad f k x)
def cel (cA : Nat → ClassId) (ad : Nat → Nat) (o : Nat) (f : Nat → Int32) (q : Knd) : va_E := match q with
  | .inl a => .inl (cA o, a.1, .inl f)
  | .inr b => .inr (b.1, fvals ad f b.2)
def wd (cA : Nat → ClassId) (ad : Nat → Nat) (M : Mem) : va_W := knd.mapIdx (fun o q => (ad o, cel cA ad o (M o) q))
theorem wd_at {cA : Nat → ClassId} {ad : Nat → Nat} {M : Mem} {o : Nat} {q : Knd} (h : knd[o]? = some q) : (wd cA ad M)[o]? = some (ad o, cel cA ad o (M o) q) := by
  unfold wd
  rw [List.getElem?_mapIdx, h]
  rfl
theorem wd_of {cA : Nat → ClassId} {ad : Nat → Nat} {M : Mem} {o : Nat} {x : Nat × va_E} (h : (wd cA ad M)[o]? = some x) : ∃ q, knd[o]? = some q ∧ x = (ad o, cel cA ad o (M o) q) := by
  unfold wd at h
  rw [List.getElem?_mapIdx] at h
  cases hq : knd[o]? with
  | none => rw [hq] at h; cases h
  | some q => rw [hq] at h; exact ⟨q, rfl, (Option.some.inj h).symm⟩
theorem wd_set {cA : Nat → ClassId} {ad : Nat → Nat} {M : Mem} {o : Nat} {q : Knd} {f : Nat → Int32} (h : knd[o]? = some q) : (wd cA ad M).set o (ad o, cel cA ad o f q) = wd cA ad (mput M o f) := by
  apply List.ext_getElem?
  intro i
  have hl : o < (wd cA ad M).length := (List.getElem?_eq_some_iff.mp (wd_at h)).1
  by_cases hi : i = o
  · subst hi
    rw [List.getElem?_set_self hl, wd_at h]
    simp [mput]
  · rw [List.getElem?_set_ne (Ne.symm hi)]
    unfold wd
    rw [List.getElem?_mapIdx, List.getElem?_mapIdx]
    cases knd[i]? with
    | none => rfl
    | some q => simp [mput, hi]
theorem fvals_at {ad : Nat → Nat} {f : Nat → Int32} {fl : List (Option Nat)} {k : Nat} {x : Option Nat} (h : fl[k]? = some x) : (fvals ad f fl)[k]? = some (fval ad f k x) := by
  unfold fvals
  rw [List.getElem?_mapIdx, h]
  rfl
theorem fvals_set {ad : Nat → Nat} {f : Nat → Int32} {fl : List (Option Nat)} {k : Nat} {v : Int32} (h : fl[k]? = some none) : (fvals ad f fl).set k (.int v) = fvals ad (upd f k v) fl := by
  apply List.ext_getElem?
  intro i
  have hl : k < (fvals ad f fl).length := (List.getElem?_eq_some_iff.mp (fvals_at h)).1
  by_cases hi : i = k
  · subst hi
    rw [List.getElem?_set_self hl, fvals_at h]
    simp [fval, upd]
  · rw [List.getElem?_set_ne (Ne.symm hi)]
    unfold fvals
    rw [List.getElem?_mapIdx, List.getElem?_mapIdx]
    cases hx : fl[i]? with
    | none => rfl
    | some x => cases x <;> simp [fval, upd, hi]
/-! values: a reference is the number of its cell -/
def cv (ad : Nat → Nat) : Value → Value
  | .ref a => .ref (ad a)
  | v => v
theorem cv_cat (ad : Nat → Nat) (v : Value) : (cv ad v).category = v.category := by cases v <;> rfl
theorem cv_sum (ad : Nat → Nat) (l : List Value) : ((l.map (cv ad)).map fun v => v.category).sum = (l.map fun v => v.category).sum := by
  rw [List.map_map]
  congr 1
  apply List.map_congr_left
  intro v _
  exact cv_cat ad v
def asc (ad : Nat → Nat) : Nat → List Value → List (Nat × Value)
  | _, [] => []
  | i, .int x :: t => (i, .int x) :: asc ad (i + 1) t
  | i, .ref a :: t => (i, .ref (ad a)) :: asc ad (i + 1) t
  | i, _ :: t => asc ad (i + 1) t
theorem asc_iff (ad : Nat → Nat) (q : Nat × Value) : ∀ (ls : List Value) (i : Nat), q ∈ asc ad i ls ↔ ∃ j, q.1 = i + j ∧ ((∃ x, ls[j]? = some (.int x) ∧ q.2 = .int x) ∨ ∃ a, ls[j]? = some (.ref a) ∧ q.2 = .ref (ad a)) := by
  intro ls
  induction ls with
  | nil => intro i; simp [asc]
  | cons v t ih =>
    intro i
    have key : (∃ j, q.1 = i + j ∧ ((∃ x, (v :: t)[j]? = some (.int x) ∧ q.2 = .int x) ∨ ∃ a, (v :: t)[j]? = some (.ref a) ∧ q.2 = .ref (ad a))) ↔ (q.1 = i ∧ ((∃ x, v = .int x ∧ q.2 = .int x) ∨ ∃ a, v = .ref a ∧ q.2 = .ref (ad a))) ∨ q ∈ asc ad (i + 1) t := by
      rw [ih (i + 1)]
      constructor
      · rintro ⟨j, h1, h2⟩
        cases j with
        | zero => left; exact ⟨h1, by simpa using h2⟩
        | succ j => right; exact ⟨j, by omega, by simpa using h2⟩
      · rintro (⟨h1, h2⟩ | ⟨j, h1, h2⟩)
        · exact ⟨0, h1, by simpa using h2⟩
        · exact ⟨j + 1, by omega, by simpa using h2⟩
    rw [key]
    cases v with
    | int x =>
      simp only [asc, List.mem_cons]
      constructor
      · rintro (rfl | h)
        · exact Or.inl ⟨rfl, Or.inl ⟨x, rfl, rfl⟩⟩
        · exact Or.inr h
      · rintro (⟨h1, h2⟩ | h)
        · rcases h2 with ⟨y, h3, h4⟩ | ⟨a, h3, h4⟩
          · cases h3; exact Or.inl (Prod.ext h1 h4)
          · cases h3
        · exact Or.inr h
    | ref x =>
      simp only [asc, List.mem_cons]
      constructor
      · rintro (rfl | h)
        · exact Or.inl ⟨rfl, Or.inr ⟨x, rfl, rfl⟩⟩
        · exact Or.inr h
      · rintro (⟨h1, h2⟩ | h)
        · rcases h2 with ⟨y, h3, h4⟩ | ⟨a, h3, h4⟩
          · cases h3
          · cases h3; exact Or.inl (Prod.ext h1 h4)
        · exact Or.inr h
    | _ =>
      simp only [asc]
      constructor
      · exact Or.inr
      · rintro (⟨h1, h2⟩ | h)
        · rcases h2 with ⟨y, h3, h4⟩ | ⟨a, h3, h4⟩ <;> cases h3
        · exact h
def Lh (n : Nat) (ad : Nat → Nat) (L : Array Slot) (ls : List Value) : Prop := lv_has L n (asc ad 0 ls)
theorem Lh.int {n : Nat} {ad : Nat → Nat} {L : Array Slot} {ls : List Value} (h : Lh n ad L ls) {i : Nat} {x : Int32} (hi : ls[i]? = some (.int x)) : L[i]? = some (.val (.int x)) :=
  h.2.2 (i, .int x) ((asc_iff ad _ ls 0).mpr ⟨i, by simp, Or.inl ⟨x, hi, rfl⟩⟩)
theorem Lh.ref {n : Nat} {ad : Nat → Nat} {L : Array Slot} {ls : List Value} (h : Lh n ad L ls) {i : Nat} {x : Nat} (hi : ls[i]? = some (.ref x)) : L[i]? = some (.val (.ref (ad x))) :=
  h.2.2 (i, .ref (ad x)) ((asc_iff ad _ ls 0).mpr ⟨i, by simp, Or.inr ⟨x, hi, rfl⟩⟩)
theorem Lh.sub {n : Nat} {ad : Nat → Nat} {L : Array Slot} {ls ls' : List Value} (h : Lh n ad L ls) (hs : ∀ (j : Nat) (v : Value), ls'[j]? = some v → v = .null ∨ ls[j]? = some v) : Lh n ad L ls' := by
  refine ⟨h.1, h.2.1, fun q hq => h.2.2 q ?_⟩
  obtain ⟨j, h1, h2⟩ := (asc_iff ad q ls' 0).mp hq
  refine (asc_iff ad q ls 0).mpr ⟨j, h1, ?_⟩
  rcases h2 with ⟨x, h3, h4⟩ | ⟨x, h3, h4⟩
  · rcases hs j _ h3 with h | h
    · cases h
    · exact Or.inl ⟨x, h, h4⟩
  · rcases hs j _ h3 with h | h
    · cases h
    · exact Or.inr ⟨x, h, h4⟩
theorem Lh.store {n : Nat} {ad : Nat → Nat} {L : Array Slot} {ls : List Value} {i : Nat} {v : Value} (h : lv_has L n ((i, cv ad v) :: (asc ad 0 ls).filter (fun q => !(q.1 == i) && !(q.1 + 1 == i && q.2.category == 2)))) : Lh n ad L (ls.set i v) := by
  refine ⟨h.1, h.2.1, fun q hq => h.2.2 q ?_⟩
  obtain ⟨j, h1, h2⟩ := (asc_iff ad q _ 0).mp hq
  rw [Nat.zero_add] at h1
  by_cases hj : j = i
  · subst hj
    have hv : ∀ w, (ls.set j v)[j]? = some w → w = v := by
      intro w hw
      have hl : j < (ls.set j v).length := (List.getElem?_eq_some_iff.mp hw).1
      rw [List.length_set] at hl
      rw [List.getElem?_set_self hl] at hw
      exact (Option.some.inj hw).symm
    refine List.mem_cons.mpr (Or.inl (Prod.ext h1 ?_))
    rcases h2 with ⟨x, h3, h4⟩ | ⟨x, h3, h4⟩
    · rw [h4, ← hv _ h3]; rfl
    · rw [h4, ← hv _ h3]; rfl
  · refine List.mem_cons.mpr (Or.inr (List.mem_filter.mpr ⟨(asc_iff ad q ls 0).mpr ⟨j, by omega, ?_⟩, ?_⟩))
    · rw [List.getElem?_set_ne (Ne.symm hj)] at h2
      exact h2
    · have hq1 : q.1 ≠ i := by omega
      have hc : q.2.category ≠ 2 := by
        rcases h2 with ⟨x, h3, h4⟩ | ⟨x, h3, h4⟩ <;> rw [h4] <;> simp [Value.category]
      simp [hq1, hc]
/-- locals that are forgotten -/
def kill : List Bool → List Value → List Value
  | true :: b, _ :: t => .null :: kill b t
  | false :: b, v :: t => v :: kill b t
  | [], l => l
  | _ :: _, [] => []
theorem kill_sub (b : List Bool) : ∀ (ls : List Value) (j : Nat) (v : Value), (kill b ls)[j]? = some v → v = .null ∨ ls[j]? = some v := by
  induction b with
  | nil => intro ls j v h; right; simpa [kill] using h
  | cons a b ih =>
    intro ls j v h
    cases ls with
    | nil => cases a <;> simp [kill] at h
    | cons w t =>
      cases a with
      | true =>
        cases j with
        | zero => left; simpa [kill, eq_comm] using h
        | succ j =>
          have h1 : (kill b t)[j]? = some v := by simpa [kill] using h
          rcases ih t j v h1 with h | h
          · exact Or.inl h
          · right; simpa using h
      | false =>
        cases j with
        | zero => right; simpa [kill] using h
        | succ j =>
          have h1 : (kill b t)[j]? = some v := by simpa [kill] using h
          rcases ih t j v h1 with h | h
          · exact Or.inl h
          · right; simpa using h
/-! words -/
def lw_w : List Cond := lw_tbl.filter goodWord
theorem lw_in {i : Nat} {w : Cond} (h : lw_tbl[i]? = some w) (g : goodWord w = true) : w ∈ lw_w := List.mem_filter.mpr ⟨List.mem_of_getElem? h, g⟩
theorem lw_good : ∀ w ∈ lw_w, (w.onTables && w.keeps) = true ∨ ∃ ty, w = .arrayClass ty := fun _ h => good_of_word (List.mem_filter.mp h).2
def WS (y : Meth) : List Cond := .code y.1 y.2.1 y.2.2.1 y.2.2.2 :: lw_w
theorem WS_in {y : Meth} {w : Cond} (h : w ∈ lw_w) : w ∈ WS y := List.mem_cons_of_mem _ h
def nst : List (String × Nat × MethodName × String) := [("GapPieces", 11, yX3_init, "GapPieces"), ("GapPieces$Table", 50, yX4_isIn, "GapPieces"), ("GapPieces$Table", 58, yX4_rowOf, "GapPieces"), ("GapPieces$Paths", 110, yX4_rowOf, "GapPieces"), ("GapPieces$Paths", 123, yX4_isPlace, "GapPieces"), ("GapPieces$Paths", 127, yX4_stepX, "GapPieces"), ("GapPieces$Paths", 130, yX4_stepY, "GapPieces"), ("GapPieces$Paths", 85, yX4_columnsOf, "GapPieces"), ("GapPieces$Paths", 91, yX4_rowsOf, "GapPieces"), ("GapPieces$Table", 68, yX4_stepX, "GapPieces"), ("GapPieces$Heap", 40, yX4_isIn, "GapPieces"), ("GapPieces$Filler", 38, yX4_isIn, "GapPieces"), ("GapPieces$Filler", 46, yX4_columnsOf, "GapPieces"), ("GapPieces$Filler", 53, yX4_pieceInOrder, "GapPieces"), ("GapPieces$Filler", 80, yX4_rowOf, "GapPieces"), ("GapPieces$Filler", 64, yX4_rowsOf, "GapPieces")]
def nstOK (U : State) : Prop := ∀ q ∈ nst, va_Nw (.methodLinkNest q.1 q.2.1 q.2.2.1 q.2.2.2) U
def KK (D : va_G) (cA : Nat → ClassId) (U : State) : Prop := va_K D clsT [] U ∧ (∀ (o n : Nat) (ty : FieldType), knd[o]? = some (.inl (n, ty)) → ArrOfT U (cA o) ty ∧ va_RA U (cA o) ty) ∧ nstOK U
theorem KK.arr {D : va_G} {cA : Nat → ClassId} {U : State} (h : KK D cA U) {o n : Nat} {ty : FieldType} (ho : knd[o]? = some (.inl (n, ty))) : va_K D clsT [(cA o, ty)] U :=
  ⟨h.1.1, fun k q hk => by
    cases k with
    | zero => cases hk; exact h.2.1 o n ty ho
    | succ k => simp at hk⟩
theorem KK.warm {D : va_G} {cA : Nat → ClassId} {s U : State} (hW : s.WarmedH U.vm) (h : KK D cA s) : KK D cA U :=
  ⟨va_K.moved hW.alike h.1, fun o n ty ho => ⟨arrOfT_moved hW.alike (h.2.1 o n ty ho).1, (h.2.1 o n ty ho).2.moved hW.alike⟩, fun q hq => va_Nw.warmM hW (h.2.2 q hq)⟩
theorem KK.calling {D : va_G} {cA : Nat → ClassId} {U : State} {g : JFrame} {mk : MethodId} {a : Array Value} (h : KK D cA U) : KK D cA (U.calling g mk a) :=
  ⟨va_K.moved (u := U) (U := U.calling g mk a) (Vm.Alike.refl U.vm) h.1, fun o n ty ho => ⟨arrOfT_moved (E := U.calling g mk a) (Vm.Alike.refl U.vm) (h.2.1 o n ty ho).1, va_RA.moved (u := U) (U := U.calling g mk a) (Vm.Alike.refl U.vm) (h.2.1 o n ty ho).2⟩, fun q hq => va_Nw.same rfl rfl (h.2.2 q hq)⟩
def rvv (r : Option Int32) : Option Value := r.map Value.int
def rv (r : Option Int32) : List Value := match r with
  | some v => [.int v]
  | none => []
def AA (ad : Nat → Nat) (sz : Nat) : Nat → Prop := fun q => (∃ i, i < 32 ∧ q = ad i) ∨ sz ≤ q
abbrev Post : Type := Option Int32 → Mem → Prop
def QM (D : va_G) (cA : Nat → ClassId) (ad : Nat → Nat) (A : Nat → Prop) (Q : Post) : Array Value → State → Outcome → State → Prop := fun _ st oc t => (∃ (r : Option Int32) (M : Mem), oc = .returned (rvv r) ∧ Q r M ∧ va_P D clsT (wd cA ad M) t.heap) ∧ va_F A st t
def rmD (d : Nat) : Room := { frames := d, cells := 0, slots := 0, locals := 40 * d }
def inj32 (ad : Nat → Nat) : Prop := ∀ i j, i < 32 → j < 32 → ad i = ad j → i = j
def Mraw (d : Nat) (y : Meth) (as : List Value) (M : Mem) (Q : Post) : Prop :=
  ∀ (l : Launch) (D : va_G) (cA : Nat → ClassId) (ad : Nat → Nat) (sz : Nat), Met l y.1 (WS y) (rmD d)
    (va_Pc (as.map (cv ad)) (fun U => U.heap.size = sz ∧ va_P D clsT (wd cA ad M) U.heap ∧ KK D cA U ∧ inj32 ad))
    (QM D cA ad (AA ad sz) Q) 0 0 (AA ad sz)
/-- a method's contract -/
def Mt (d : Nat) (y : Meth) (as : List Value) (M : Mem) (Q : Post) : Prop := ∃ Q0 : Post, (∀ r M', Q0 r M' → Q r M') ∧ Mraw d y as M Q0
theorem Mt.mono {d : Nat} {y : Meth} {as : List Value} {M : Mem} {Q Q' : Post} (h : Mt d y as M Q) (k : ∀ r M', Q r M' → Q' r M') : Mt d y as M Q' := by
  obtain ⟨Q0, h1, h2⟩ := h
  exact ⟨Q0, fun r M' q => k r M' (h1 r M' q), h2⟩
theorem knd_len : knd.length = 32 := rfl
theorem wd_D {A : Nat → Prop} {cA : Nat → ClassId} {ad : Nat → Nat} {M : Mem} (hi : inj32 ad) (hA : ∀ i, i < 32 → A (ad i)) : va_D A (wd cA ad M) := by
  have hl : ∀ (k : Nat) (q : Nat × va_E), (wd cA ad M)[k]? = some q → k < 32 ∧ q.1 = ad k := by
    intro k q hk
    obtain ⟨x, h1, h2⟩ := wd_of hk
    have := (List.getElem?_eq_some_iff.mp h1).1
    rw [knd_len] at this
    exact ⟨this, by rw [h2]⟩
  refine ⟨fun i j p q hp hq e => ?_, fun k q hk => ?_⟩
  · obtain ⟨h1, h2⟩ := hl i p hp
    obtain ⟨h3, h4⟩ := hl j q hq
    exact hi i j h1 h3 (by rw [← h2, ← h4]; exact e)
  · obtain ⟨h1, h2⟩ := hl k q hk
    rw [h2]
    exact hA k h1
/-! the walk of a body: at pc, with locals, stack, memory, it comes to an end that Q tells -/
def Cx (X : Scr) (d : Nat) (y : Meth) (Q : Post) (p : Program) (l : Launch) (e : Env) (rm : Room) (s : State) (m : MethodId) (args : Array Value) (below : List Frame) (meth : Method) (c : Code) (D : va_G) (cA : Nat → ClassId) (ad : Nat → Nat) (A : Nat → Prop) (cells slots : Nat) (Z : State → Prop) : Prop :=
  p.tables.exec = Jvm.exec ∧ c.code = y.2.1 ∧ c.maxLocals = y.2.2.1 ∧ s.vm.findClass y.1.cls = some m.cls ∧ (∀ w ∈ WS y, w.before args s = true) ∧ KK D cA s ∧ inj32 ad ∧ (∀ i, i < 32 → A (ad i)) ∧ (∀ q, s.heap.size ≤ q → A q) ∧
  (d ≤ rm.frames ∧ 40 * d ≤ rm.locals ∧ cells ≤ rm.cells ∧ slots ≤ rm.slots) ∧
  (∀ (r : Int32) (M : Mem) (H : Heap) (locs : List Loc) (pc : Nat) (L : Array Slot), Q (some r) M → va_P D clsT (wd cA ad M) H → va_S A s.heap H locs → decode y.2.1 pc = .ok (.ireturn, 1) → (∃ ty, y.2.2.2 = some ty ∧ narrow ty (.int r) = .int r) → W p l e rm s m args below meth c H locs cells slots Z (F0 m pc L [.int r])) ∧
  (∀ (M : Mem) (H : Heap) (locs : List Loc) (pc : Nat) (L : Array Slot), Q none M → va_P D clsT (wd cA ad M) H → va_S A s.heap H locs → decode y.2.1 pc = .ok (.return_, 1) → y.2.2.2 = none → W p l e rm s m args below meth c H locs cells slots Z (F0 m pc L [])) ∧
  (∀ n xs, X = some (n, xs) → va_X (ad 1000) n xs s s.heap ∧ ad 1000 < s.heap.size ∧ ¬ A (ad 1000))
def R (X : Scr) (d : Nat) (y : Meth) (pc : Nat) (ls st : List Value) (M : Mem) (Q : Post) : Prop :=
  ∀ (p : Program) (l : Launch) (e : Env) (rm : Room) (s : State) (m : MethodId) (args : Array Value) (below : List Frame) (meth : Method) (c : Code) (D : va_G) (cA : Nat → ClassId) (ad : Nat → Nat) (A : Nat → Prop) (cells slots : Nat) (Z : State → Prop),
    Cx X d y Q p l e rm s m args below meth c D cA ad A cells slots Z → ∀ (H : Heap) (locs : List Loc) (L : Array Slot), va_P D clsT (wd cA ad M) H → va_S A s.heap H locs → Lh y.2.2.1 ad L ls → W p l e rm s m args below meth c H locs cells slots Z (F0 m pc L (st.map (cv ad)))
section RULES
variable {X : Scr} {d : Nat} {y : Meth} {pc : Nat} {ls st : List Value} {M : Mem} {Q : Post}
theorem r_iconst {n : Int} {v : Int32} (hd : decode y.2.1 pc = .ok (.iconst n, 1)) (hv : Int32.ofInt n = v) (k : R X d y (pc + 1) ls (.int v :: st) M Q) : R X d y pc ls st M Q :=
  fun p l e rm s m args below meth c D cA ad A cells slots Z C H locs L hP hS hl => lv_iconst C.1 C.2.1 hd hv (k p l e rm s m args below meth c D cA ad A cells slots Z C H locs L hP hS hl)
theorem r_bipush {n : Int} {v : Int32} (hd : decode y.2.1 pc = .ok (.bipush n, 2)) (hv : (Int8.ofInt n).toInt32 = v) (k : R X d y (pc + 2) ls (.int v :: st) M Q) : R X d y pc ls st M Q :=
  fun p l e rm s m args below meth c D cA ad A cells slots Z C H locs L hP hS hl => lv_bipush C.1 C.2.1 hd hv (k p l e rm s m args below meth c D cA ad A cells slots Z C H locs L hP hS hl)
theorem r_sipush {n : Int} {v : Int32} (hd : decode y.2.1 pc = .ok (.sipush n, 3)) (hv : (Int16.ofInt n).toInt32 = v) (k : R X d y (pc + 3) ls (.int v :: st) M Q) : R X d y pc ls st M Q :=
  fun p l e rm s m args below meth c D cA ad A cells slots Z C H locs L hP hS hl => lv_sipush C.1 C.2.1 hd hv (k p l e rm s m args below meth c D cA ad A cells slots Z C H locs L hP hS hl)
theorem r_ldc {i : Nat} {v : Int32} (hd : decode y.2.1 pc = .ok (.ldc i, 2)) (hw : Cond.constant y.1.cls i v ∈ lw_w) (k : R X d y (pc + 2) ls (.int v :: st) M Q) : R X d y pc ls st M Q :=
  fun p l e rm s m args below meth c D cA ad A cells slots Z C H locs L hP hS hl => lv_ldc C.1 C.2.1 C.2.2.2.1 (C.2.2.2.2.1 _ (WS_in hw)) hd (k p l e rm s m args below meth c D cA ad A cells slots Z C H locs L hP hS hl)
theorem r_ldcw {i : Nat} {v : Int32} (hd : decode y.2.1 pc = .ok (.ldc_w i, 3)) (hw : Cond.constant y.1.cls i v ∈ lw_w) (k : R X d y (pc + 3) ls (.int v :: st) M Q) : R X d y pc ls st M Q :=
  fun p l e rm s m args below meth c D cA ad A cells slots Z C H locs L hP hS hl => lv_ldcw C.1 C.2.1 C.2.2.2.1 (C.2.2.2.2.1 _ (WS_in hw)) hd (k p l e rm s m args below meth c D cA ad A cells slots Z C H locs L hP hS hl)
theorem r_iload_n {i : Fin 4} {j : Nat} {x : Int32} (hd : decode y.2.1 pc = .ok (.iload_n i, 1)) (hj : (i : Nat) = j) (hx : ls[j]? = some (.int x)) (k : R X d y (pc + 1) ls (.int x :: st) M Q) : R X d y pc ls st M Q :=
  fun p l e rm s m args below meth c D cA ad A cells slots Z C H locs L hP hS hl => lv_iload_n C.1 C.2.1 hd hj (hl.int hx) (k p l e rm s m args below meth c D cA ad A cells slots Z C H locs L hP hS hl)
theorem r_iload {j : Nat} {x : Int32} (hd : decode y.2.1 pc = .ok (.iload j, 2)) (hx : ls[j]? = some (.int x)) (k : R X d y (pc + 2) ls (.int x :: st) M Q) : R X d y pc ls st M Q :=
  fun p l e rm s m args below meth c D cA ad A cells slots Z C H locs L hP hS hl => lv_iload C.1 C.2.1 hd (hl.int hx) (k p l e rm s m args below meth c D cA ad A cells slots Z C H locs L hP hS hl)
theorem r_aload_n {i : Fin 4} {j : Nat} {x : Nat} (hd : decode y.2.1 pc = .ok (.aload_n i, 1)) (hj : (i : Nat) = j) (hx : ls[j]? = some (.ref x)) (k : R X d y (pc + 1) ls (.ref x :: st) M Q) : R X d y pc ls st M Q :=
  fun p l e rm s m args below meth c D cA ad A cells slots Z C H locs L hP hS hl => lv_aload_n C.1 C.2.1 hd hj (hl.ref hx) (k p l e rm s m args below meth c D cA ad A cells slots Z C H locs L hP hS hl)
theorem r_istore_n {i : Fin 4} {j : Nat} {x : Int32} {ls' : List Value} (hd : decode y.2.1 pc = .ok (.istore_n i, 1)) (hj : (i : Nat) = j) (hn : j < y.2.2.1) (hs : ls.set j (.int x) = ls') (k : R X d y (pc + 1) ls' st M Q) : R X d y pc ls (.int x :: st) M Q := by
  subst hs
  exact fun p l e rm s m args below meth c D cA ad A cells slots Z C H locs L hP hS hl => lv_istore_n C.1 C.2.1 hd hj hl hn rfl (fun L' hl' => k p l e rm s m args below meth c D cA ad A cells slots Z C H locs L' hP hS (Lh.store hl'))
theorem r_istore {j : Nat} {x : Int32} {ls' : List Value} (hd : decode y.2.1 pc = .ok (.istore j, 2)) (hn : j < y.2.2.1) (hs : ls.set j (.int x) = ls') (k : R X d y (pc + 2) ls' st M Q) : R X d y pc ls (.int x :: st) M Q := by
  subst hs
  exact fun p l e rm s m args below meth c D cA ad A cells slots Z C H locs L hP hS hl => lv_istore C.1 C.2.1 hd hl hn rfl (fun L' hl' => k p l e rm s m args below meth c D cA ad A cells slots Z C H locs L' hP hS (Lh.store hl'))
theorem r_iinc {j : Nat} {n : Int} {x v : Int32} {ls' : List Value} (hd : decode y.2.1 pc = .ok (.iinc j n, 3)) (hx : ls[j]? = some (.int x)) (hv : Int32.ofInt n = v) (hn : j < y.2.2.1) (hs : ls.set j (.int (x + v)) = ls') (k : R X d y (pc + 3) ls' st M Q) : R X d y pc ls st M Q := by
  subst hs
  subst hv
  intro p l e rm s m args below meth c D cA ad A cells slots Z C H locs L hP hS hl
  have hm : ((j, Value.int x) : Nat × Value) ∈ asc ad 0 ls := (asc_iff ad _ ls 0).mpr ⟨j, by simp, Or.inl ⟨x, hx, rfl⟩⟩
  obtain ⟨q, hq⟩ := List.getElem?_of_mem hm
  exact lv_iinc (k := q) C.1 C.2.1 hd hl hq rfl hn rfl (fun L' hl' => k p l e rm s m args below meth c D cA ad A cells slots Z C H locs L' hP hS (Lh.store hl'))
theorem r_iadd {a b : Int32} (hd : decode y.2.1 pc = .ok (.iadd, 1)) (k : R X d y (pc + 1) ls (.int (a + b) :: st) M Q) : R X d y pc ls (.int b :: .int a :: st) M Q :=
  fun p l e rm s m args below meth c D cA ad A cells slots Z C H locs L hP hS hl => lv_iadd C.1 C.2.1 hd (k p l e rm s m args below meth c D cA ad A cells slots Z C H locs L hP hS hl)
theorem r_isub {a b : Int32} (hd : decode y.2.1 pc = .ok (.isub, 1)) (k : R X d y (pc + 1) ls (.int (a - b) :: st) M Q) : R X d y pc ls (.int b :: .int a :: st) M Q :=
  fun p l e rm s m args below meth c D cA ad A cells slots Z C H locs L hP hS hl => lv_isub C.1 C.2.1 hd (k p l e rm s m args below meth c D cA ad A cells slots Z C H locs L hP hS hl)
theorem r_imul {a b : Int32} (hd : decode y.2.1 pc = .ok (.imul, 1)) (k : R X d y (pc + 1) ls (.int (a * b) :: st) M Q) : R X d y pc ls (.int b :: .int a :: st) M Q :=
  fun p l e rm s m args below meth c D cA ad A cells slots Z C H locs L hP hS hl => lv_imul C.1 C.2.1 hd (k p l e rm s m args below meth c D cA ad A cells slots Z C H locs L hP hS hl)
theorem r_iand {a b : Int32} (hd : decode y.2.1 pc = .ok (.iand, 1)) (k : R X d y (pc + 1) ls (.int (a &&& b) :: st) M Q) : R X d y pc ls (.int b :: .int a :: st) M Q :=
  fun p l e rm s m args below meth c D cA ad A cells slots Z C H locs L hP hS hl => lv_iand C.1 C.2.1 hd (k p l e rm s m args below meth c D cA ad A cells slots Z C H locs L hP hS hl)
theorem r_ior {a b : Int32} (hd : decode y.2.1 pc = .ok (.ior, 1)) (k : R X d y (pc + 1) ls (.int (a ||| b) :: st) M Q) : R X d y pc ls (.int b :: .int a :: st) M Q :=
  fun p l e rm s m args below meth c D cA ad A cells slots Z C H locs L hP hS hl => lv_ior C.1 C.2.1 hd (k p l e rm s m args below meth c D cA ad A cells slots Z C H locs L hP hS hl)
theorem r_ixor {a b : Int32} (hd : decode y.2.1 pc = .ok (.ixor, 1)) (k : R X d y (pc + 1) ls (.int (a ^^^ b) :: st) M Q) : R X d y pc ls (.int b :: .int a :: st) M Q :=
  fun p l e rm s m args below meth c D cA ad A cells slots Z C H locs L hP hS hl => lv_ixor C.1 C.2.1 hd (k p l e rm s m args below meth c D cA ad A cells slots Z C H locs L hP hS hl)
theorem r_idiv {a b : Int32} (hd : decode y.2.1 pc = .ok (.idiv, 1)) (hn : ¬ b = 0) (k : R X d y (pc + 1) ls (.int (a / b) :: st) M Q) : R X d y pc ls (.int b :: .int a :: st) M Q :=
  fun p l e rm s m args below meth c D cA ad A cells slots Z C H locs L hP hS hl => lv_idiv C.1 C.2.1 hd hn (k p l e rm s m args below meth c D cA ad A cells slots Z C H locs L hP hS hl)
theorem r_irem {a b : Int32} (hd : decode y.2.1 pc = .ok (.irem, 1)) (hn : ¬ b = 0) (k : R X d y (pc + 1) ls (.int (a - a / b * b) :: st) M Q) : R X d y pc ls (.int b :: .int a :: st) M Q :=
  fun p l e rm s m args below meth c D cA ad A cells slots Z C H locs L hP hS hl => lv_irem C.1 C.2.1 hd hn (k p l e rm s m args below meth c D cA ad A cells slots Z C H locs L hP hS hl)
theorem r_ishl {a b : Int32} (hd : decode y.2.1 pc = .ok (.ishl, 1)) (k : R X d y (pc + 1) ls (.int (a <<< (b &&& 31)) :: st) M Q) : R X d y pc ls (.int b :: .int a :: st) M Q :=
  fun p l e rm s m args below meth c D cA ad A cells slots Z C H locs L hP hS hl => lv_ishl C.1 C.2.1 hd (k p l e rm s m args below meth c D cA ad A cells slots Z C H locs L hP hS hl)
theorem r_ishr {a b : Int32} (hd : decode y.2.1 pc = .ok (.ishr, 1)) (k : R X d y (pc + 1) ls (.int (a >>> (b &&& 31)) :: st) M Q) : R X d y pc ls (.int b :: .int a :: st) M Q :=
  fun p l e rm s m args below meth c D cA ad A cells slots Z C H locs L hP hS hl => lv_ishr C.1 C.2.1 hd (k p l e rm s m args below meth c D cA ad A cells slots Z C H locs L hP hS hl)
def ushr (x y : Int32) : Int32 := (x.toUInt32 >>> (y.toUInt32 &&& Int32.toUInt32 31)).toInt32
theorem r_iushr {a b : Int32} (hd : decode y.2.1 pc = .ok (.iushr, 1)) (k : R X d y (pc + 1) ls (.int (ushr a b) :: st) M Q) : R X d y pc ls (.int b :: .int a :: st) M Q :=
  fun p l e rm s m args below meth c D cA ad A cells slots Z C H locs L hP hS hl => lv_iushr C.1 C.2.1 hd rfl (k p l e rm s m args below meth c D cA ad A cells slots Z C H locs L hP hS hl)
theorem r_ineg {a : Int32} (hd : decode y.2.1 pc = .ok (.ineg, 1)) (k : R X d y (pc + 1) ls (.int (-a) :: st) M Q) : R X d y pc ls (.int a :: st) M Q :=
  fun p l e rm s m args below meth c D cA ad A cells slots Z C H locs L hP hS hl => lv_ineg C.1 C.2.1 hd (k p l e rm s m args below meth c D cA ad A cells slots Z C H locs L hP hS hl)
theorem r_dup {v : Value} (hd : decode y.2.1 pc = .ok (.dup, 1)) (hc : v.category = 1) (k : R X d y (pc + 1) ls (v :: v :: st) M Q) : R X d y pc ls (v :: st) M Q :=
  fun p l e rm s m args below meth c D cA ad A cells slots Z C H locs L hP hS hl => lv_dup C.1 C.2.1 hd (by rw [cv_cat]; exact hc) (k p l e rm s m args below meth c D cA ad A cells slots Z C H locs L hP hS hl)
theorem r_dup2 {v w : Value} (hd : decode y.2.1 pc = .ok (.dup2, 1)) (hc : v.category = 1) (hc2 : w.category = 1) (k : R X d y (pc + 1) ls (v :: w :: v :: w :: st) M Q) : R X d y pc ls (v :: w :: st) M Q :=
  fun p l e rm s m args below meth c D cA ad A cells slots Z C H locs L hP hS hl => lv_dup2_11 C.1 C.2.1 hd (by rw [cv_cat]; exact hc) (by rw [cv_cat]; exact hc2) (k p l e rm s m args below meth c D cA ad A cells slots Z C H locs L hP hS hl)
theorem r_dup_x1 {v w : Value} (hd : decode y.2.1 pc = .ok (.dup_x1, 1)) (hc : v.category = 1) (hc2 : w.category = 1) (k : R X d y (pc + 1) ls (v :: w :: v :: st) M Q) : R X d y pc ls (v :: w :: st) M Q :=
  fun p l e rm s m args below meth c D cA ad A cells slots Z C H locs L hP hS hl => lv_dup_x1 C.1 C.2.1 hd (by rw [cv_cat]; exact hc) (by rw [cv_cat]; exact hc2) (k p l e rm s m args below meth c D cA ad A cells slots Z C H locs L hP hS hl)
theorem r_goto {off : Int} {tgt : Nat} (hd : decode y.2.1 pc = .ok (.goto off, 3)) (ht : (pc : Int) + off = (tgt : Int)) (k : R X d y tgt ls st M Q) : R X d y pc ls st M Q :=
  fun p l e rm s m args below meth c D cA ad A cells slots Z C H locs L hP hS hl => lv_goto C.1 C.2.1 hd ht (k p l e rm s m args below meth c D cA ad A cells slots Z C H locs L hP hS hl)
theorem r_if_eq {x : Int32} {off : Int} {tgt : Nat} (hd : decode y.2.1 pc = .ok (.ifCond .eq off, 3)) (ht : (pc : Int) + off = (tgt : Int)) (kt : x = 0 → R X d y tgt ls st M Q) (kf : ¬ x = 0 → R X d y (pc + 3) ls st M Q) : R X d y pc ls (.int x :: st) M Q :=
  fun p l e rm s m args below meth c D cA ad A cells slots Z C H locs L hP hS hl => lv_if_eq C.1 C.2.1 hd ht (fun h => kt h p l e rm s m args below meth c D cA ad A cells slots Z C H locs L hP hS hl) (fun h => kf h p l e rm s m args below meth c D cA ad A cells slots Z C H locs L hP hS hl)
theorem r_if_ne {x : Int32} {off : Int} {tgt : Nat} (hd : decode y.2.1 pc = .ok (.ifCond .ne off, 3)) (ht : (pc : Int) + off = (tgt : Int)) (kt : ¬ x = 0 → R X d y tgt ls st M Q) (kf : x = 0 → R X d y (pc + 3) ls st M Q) : R X d y pc ls (.int x :: st) M Q :=
  fun p l e rm s m args below meth c D cA ad A cells slots Z C H locs L hP hS hl => lv_if_ne C.1 C.2.1 hd ht (fun h => kt h p l e rm s m args below meth c D cA ad A cells slots Z C H locs L hP hS hl) (fun h => kf h p l e rm s m args below meth c D cA ad A cells slots Z C H locs L hP hS hl)
theorem r_if_lt {x : Int32} {off : Int} {tgt : Nat} (hd : decode y.2.1 pc = .ok (.ifCond .lt off, 3)) (ht : (pc : Int) + off = (tgt : Int)) (kt : x < 0 → R X d y tgt ls st M Q) (kf : ¬ x < 0 → R X d y (pc + 3) ls st M Q) : R X d y pc ls (.int x :: st) M Q :=
  fun p l e rm s m args below meth c D cA ad A cells slots Z C H locs L hP hS hl => lv_if_lt C.1 C.2.1 hd ht (fun h => kt h p l e rm s m args below meth c D cA ad A cells slots Z C H locs L hP hS hl) (fun h => kf h p l e rm s m args below meth c D cA ad A cells slots Z C H locs L hP hS hl)
theorem r_if_ge {x : Int32} {off : Int} {tgt : Nat} (hd : decode y.2.1 pc = .ok (.ifCond .ge off, 3)) (ht : (pc : Int) + off = (tgt : Int)) (kt : 0 ≤ x → R X d y tgt ls st M Q) (kf : ¬ 0 ≤ x → R X d y (pc + 3) ls st M Q) : R X d y pc ls (.int x :: st) M Q :=
  fun p l e rm s m args below meth c D cA ad A cells slots Z C H locs L hP hS hl => lv_if_ge C.1 C.2.1 hd ht (fun h => kt h p l e rm s m args below meth c D cA ad A cells slots Z C H locs L hP hS hl) (fun h => kf h p l e rm s m args below meth c D cA ad A cells slots Z C H locs L hP hS hl)
theorem r_if_gt {x : Int32} {off : Int} {tgt : Nat} (hd : decode y.2.1 pc = .ok (.ifCond .gt off, 3)) (ht : (pc : Int) + off = (tgt : Int)) (kt : 0 < x → R X d y tgt ls st M Q) (kf : ¬ 0 < x → R X d y (pc + 3) ls st M Q) : R X d y pc ls (.int x :: st) M Q :=
  fun p l e rm s m args below meth c D cA ad A cells slots Z C H locs L hP hS hl => lv_if_gt C.1 C.2.1 hd ht (fun h => kt h p l e rm s m args below meth c D cA ad A cells slots Z C H locs L hP hS hl) (fun h => kf h p l e rm s m args below meth c D cA ad A cells slots Z C H locs L hP hS hl)
theorem r_if_le {x : Int32} {off : Int} {tgt : Nat} (hd : decode y.2.1 pc = .ok (.ifCond .le off, 3)) (ht : (pc : Int) + off = (tgt : Int)) (kt : x ≤ 0 → R X d y tgt ls st M Q) (kf : ¬ x ≤ 0 → R X d y (pc + 3) ls st M Q) : R X d y pc ls (.int x :: st) M Q :=
  fun p l e rm s m args below meth c D cA ad A cells slots Z C H locs L hP hS hl => lv_if_le C.1 C.2.1 hd ht (fun h => kt h p l e rm s m args below meth c D cA ad A cells slots Z C H locs L hP hS hl) (fun h => kf h p l e rm s m args below meth c D cA ad A cells slots Z C H locs L hP hS hl)
theorem r_icmp_eq {a b : Int32} {off : Int} {tgt : Nat} (hd : decode y.2.1 pc = .ok (.if_icmp .eq off, 3)) (ht : (pc : Int) + off = (tgt : Int)) (kt : a = b → R X d y tgt ls st M Q) (kf : ¬ a = b → R X d y (pc + 3) ls st M Q) : R X d y pc ls (.int b :: .int a :: st) M Q :=
  fun p l e rm s m args below meth c D cA ad A cells slots Z C H locs L hP hS hl => lv_icmp_eq C.1 C.2.1 hd ht (fun h => kt h p l e rm s m args below meth c D cA ad A cells slots Z C H locs L hP hS hl) (fun h => kf h p l e rm s m args below meth c D cA ad A cells slots Z C H locs L hP hS hl)
theorem r_icmp_ne {a b : Int32} {off : Int} {tgt : Nat} (hd : decode y.2.1 pc = .ok (.if_icmp .ne off, 3)) (ht : (pc : Int) + off = (tgt : Int)) (kt : ¬ a = b → R X d y tgt ls st M Q) (kf : a = b → R X d y (pc + 3) ls st M Q) : R X d y pc ls (.int b :: .int a :: st) M Q :=
  fun p l e rm s m args below meth c D cA ad A cells slots Z C H locs L hP hS hl => lv_icmp_ne C.1 C.2.1 hd ht (fun h => kt h p l e rm s m args below meth c D cA ad A cells slots Z C H locs L hP hS hl) (fun h => kf h p l e rm s m args below meth c D cA ad A cells slots Z C H locs L hP hS hl)
theorem r_icmp_lt {a b : Int32} {off : Int} {tgt : Nat} (hd : decode y.2.1 pc = .ok (.if_icmp .lt off, 3)) (ht : (pc : Int) + off = (tgt : Int)) (kt : a < b → R X d y tgt ls st M Q) (kf : ¬ a < b → R X d y (pc + 3) ls st M Q) : R X d y pc ls (.int b :: .int a :: st) M Q :=
  fun p l e rm s m args below meth c D cA ad A cells slots Z C H locs L hP hS hl => lv_icmp_lt C.1 C.2.1 hd ht (fun h => kt h p l e rm s m args below meth c D cA ad A cells slots Z C H locs L hP hS hl) (fun h => kf h p l e rm s m args below meth c D cA ad A cells slots Z C H locs L hP hS hl)
theorem r_icmp_ge {a b : Int32} {off : Int} {tgt : Nat} (hd : decode y.2.1 pc = .ok (.if_icmp .ge off, 3)) (ht : (pc : Int) + off = (tgt : Int)) (kt : b ≤ a → R X d y tgt ls st M Q) (kf : ¬ b ≤ a → R X d y (pc + 3) ls st M Q) : R X d y pc ls (.int b :: .int a :: st) M Q :=
  fun p l e rm s m args below meth c D cA ad A cells slots Z C H locs L hP hS hl => lv_icmp_ge C.1 C.2.1 hd ht (fun h => kt h p l e rm s m args below meth c D cA ad A cells slots Z C H locs L hP hS hl) (fun h => kf h p l e rm s m args below meth c D cA ad A cells slots Z C H locs L hP hS hl)
theorem r_icmp_gt {a b : Int32} {off : Int} {tgt : Nat} (hd : decode y.2.1 pc = .ok (.if_icmp .gt off, 3)) (ht : (pc : Int) + off = (tgt : Int)) (kt : b < a → R X d y tgt ls st M Q) (kf : ¬ b < a → R X d y (pc + 3) ls st M Q) : R X d y pc ls (.int b :: .int a :: st) M Q :=
  fun p l e rm s m args below meth c D cA ad A cells slots Z C H locs L hP hS hl => lv_icmp_gt C.1 C.2.1 hd ht (fun h => kt h p l e rm s m args below meth c D cA ad A cells slots Z C H locs L hP hS hl) (fun h => kf h p l e rm s m args below meth c D cA ad A cells slots Z C H locs L hP hS hl)
theorem r_icmp_le {a b : Int32} {off : Int} {tgt : Nat} (hd : decode y.2.1 pc = .ok (.if_icmp .le off, 3)) (ht : (pc : Int) + off = (tgt : Int)) (kt : a ≤ b → R X d y tgt ls st M Q) (kf : ¬ a ≤ b → R X d y (pc + 3) ls st M Q) : R X d y pc ls (.int b :: .int a :: st) M Q :=
  fun p l e rm s m args below meth c D cA ad A cells slots Z C H locs L hP hS hl => lv_icmp_le C.1 C.2.1 hd ht (fun h => kt h p l e rm s m args below meth c D cA ad A cells slots Z C H locs L hP hS hl) (fun h => kf h p l e rm s m args below meth c D cA ad A cells slots Z C H locs L hP hS hl)
theorem r_kill {ls' : List Value} (b : List Bool) (h : kill b ls = ls') (k : R X d y pc ls' st M Q) : R X d y pc ls st M Q := by
  subst h
  exact fun p l e rm s m args below meth c D cA ad A cells slots Z C H locs L hP hS hl => k p l e rm s m args below meth c D cA ad A cells slots Z C H locs L hP hS (hl.sub (kill_sub b ls))
end RULES
/-! fields and arrays -/
def FL (own : String) (idx ci k : Nat) : Prop := ∃ (C : String) (T : u_T) (N : Nat), clsT[ci]? = some (C, T, N) ∧ (∀ w ∈ u_ws C T N, w ∈ lw_w) ∧ k < N ∧ Cond.fieldLink own idx (T k).1 (T k).2.1 (T k).2.2.1 ∈ lw_w
def FW (own : String) (idx ci k : Nat) : Prop := ∃ (C : String) (T : u_T) (N : Nat) (ty : Nat → FieldType), clsT[ci]? = some (C, T, N) ∧ (∀ w ∈ u_ws C T N, w ∈ lw_w) ∧ k < N ∧ Cond.fieldLink own idx (T k).1 (T k).2.1 (T k).2.2.1 ∈ lw_w ∧ (∀ k, k < N → parseFieldDescriptor (T k).2.2.1 = some (ty k)) ∧ (∀ a, a < N → ∀ b, b < N → a ≠ b → (T a).2.1 ≠ (T b).2.1) ∧ (T k).2.2.2 = false ∧ parseFieldDescriptor (T k).2.2.1 = some .int
section RULES2
variable {X : Scr} {d : Nat} {y : Meth} {pc : Nat} {ls st : List Value} {M : Mem} {Q : Post}
theorem r_getI {o ci k idx : Nat} {fl : List (Option Nat)} (hd : decode y.2.1 pc = .ok (.getfield idx, 3)) (hF : FL y.1.cls idx ci k) (hk : knd[o]? = some (.inr (ci, fl))) (hf : fl[k]? = some none) (kk : R X d y (pc + 3) ls (.int (M o k) :: st) M Q) : R X d y pc ls (.ref o :: st) M Q := by
  intro p l e rm s m args below meth c D cA ad A cells slots Z C H locs L hP hS hl
  obtain ⟨Cn, T, N, h1, h2, h3, h4⟩ := hF
  exact va_get (v := .int (M o k)) C.1 C.2.1 C.2.2.2.2.1 (fun w hw => WS_in (h2 w hw)) C.2.2.2.1 C.2.2.2.2.2.1.1 hP o (wd_at hk) h1 k h3 (C.2.2.2.2.1 _ (WS_in h4)) (fun _ h9 => h9) (fvals_at hf) hd (kk p l e rm s m args below meth c D cA ad A cells slots Z C H locs L hP hS hl)
theorem r_getR {o ci k idx r : Nat} {fl : List (Option Nat)} (hd : decode y.2.1 pc = .ok (.getfield idx, 3)) (hF : FL y.1.cls idx ci k) (hk : knd[o]? = some (.inr (ci, fl))) (hf : fl[k]? = some (some r)) (kk : R X d y (pc + 3) ls (.ref r :: st) M Q) : R X d y pc ls (.ref o :: st) M Q := by
  intro p l e rm s m args below meth c D cA ad A cells slots Z C H locs L hP hS hl
  obtain ⟨Cn, T, N, h1, h2, h3, h4⟩ := hF
  exact va_get (v := .ref (ad r)) C.1 C.2.1 C.2.2.2.2.1 (fun w hw => WS_in (h2 w hw)) C.2.2.2.1 C.2.2.2.2.2.1.1 hP o (wd_at hk) h1 k h3 (C.2.2.2.2.1 _ (WS_in h4)) (fun _ h9 => h9) (fvals_at hf) hd (kk p l e rm s m args below meth c D cA ad A cells slots Z C H locs L hP hS hl)
theorem r_putI {o ci k idx : Nat} {v : Int32} {fl : List (Option Nat)} (hd : decode y.2.1 pc = .ok (.putfield idx, 3)) (hF : FW y.1.cls idx ci k) (hk : knd[o]? = some (.inr (ci, fl))) (hf : fl[k]? = some none) (kk : R X d y (pc + 3) ls st (mset M o k v) Q) : R X d y pc ls (.int v :: .ref o :: st) M Q := by
  intro p l e rm s m args below meth c D cA ad A cells slots Z C H locs L hP hS hl
  obtain ⟨Cn, T, N, ty, h1, h2, h3, h4, h5, h6, h7, h8⟩ := hF
  refine va_put (ty := .int) (v := .int v) C.1 C.2.1 C.2.2.2.2.1 (fun w hw => WS_in (h2 w hw)) ty h5 h6 C.2.2.2.1 C.2.2.2.2.2.1.1 hP (wd_D C.2.2.2.2.2.2.1 C.2.2.2.2.2.2.2.1) hS o (wd_at hk) h1 k h3 (C.2.2.2.2.1 _ (WS_in h4)) (fun _ h9 => h9) h7 h8 rfl rfl (List.getElem?_eq_some_iff.mp (fvals_at (ad := ad) (f := M o) hf)).1 hd (fun H1 locs1 hP1 hD1 hS1 => ?_)
  have e9 : (wd cA ad M).set o (ad o, .inr (ci, (fvals ad (M o) fl).set k (.int v))) = wd cA ad (mset M o k v) := by
    rw [fvals_set hf]
    exact wd_set (q := .inr (ci, fl)) hk
  rw [e9] at hP1
  exact kk p l e rm s m args below meth c D cA ad A cells slots Z C H1 locs1 L hP1 hS1 hl
theorem r_iald {o n : Nat} {i : Int32} (hd : decode y.2.1 pc = .ok (.iaload, 1)) (hk : knd[o]? = some (.inl (n, .int))) (hin : vp_in i n) (kk : R X d y (pc + 1) ls (.int (M o i.toNatClampNeg) :: st) M Q) : R X d y pc ls (.int i :: .ref o :: st) M Q := by
  intro p l e rm s m args below meth c D cA ad A cells slots Z C H locs L hP hS hl
  exact va_iald C.1 C.2.1 (C.2.2.2.2.2.1.arr hk) hP o 0 (wd_at hk) rfl hin hd (kk p l e rm s m args below meth c D cA ad A cells slots Z C H locs L hP hS hl)
theorem r_zald {o n : Nat} {i : Int32} (hd : decode y.2.1 pc = .ok (.baload, 1)) (hk : knd[o]? = some (.inl (n, .boolean))) (hin : vp_in i n) (kk : R X d y (pc + 1) ls (.int (M o i.toNatClampNeg) :: st) M Q) : R X d y pc ls (.int i :: .ref o :: st) M Q := by
  intro p l e rm s m args below meth c D cA ad A cells slots Z C H locs L hP hS hl
  exact va_zald C.1 C.2.1 (C.2.2.2.2.2.1.arr hk) hP o 0 (wd_at hk) rfl hin hd (kk p l e rm s m args below meth c D cA ad A cells slots Z C H locs L hP hS hl)
theorem r_iast {o n : Nat} {i v : Int32} (hd : decode y.2.1 pc = .ok (.iastore, 1)) (hk : knd[o]? = some (.inl (n, .int))) (hin : vp_in i n) (kk : R X d y (pc + 1) ls st (mset M o i.toNatClampNeg v) Q) : R X d y pc ls (.int v :: .int i :: .ref o :: st) M Q := by
  intro p l e rm s m args below meth c D cA ad A cells slots Z C H locs L hP hS hl
  refine va_iast C.1 C.2.1 (C.2.2.2.2.2.1.arr hk) hP (wd_D C.2.2.2.2.2.2.1 C.2.2.2.2.2.2.2.1) hS o 0 (wd_at hk) rfl hin hd (fun H1 locs1 hP1 hD1 hS1 => ?_)
  have e9 : (wd cA ad M).set o (ad o, .inl (cA o, n, .inl (upd (M o) i.toNatClampNeg v))) = wd cA ad (mset M o i.toNatClampNeg v) := wd_set (q := .inl (n, .int)) hk
  rw [e9] at hP1
  exact kk p l e rm s m args below meth c D cA ad A cells slots Z C H1 locs1 L hP1 hS1 hl
theorem r_zast {o n : Nat} {i v : Int32} (hd : decode y.2.1 pc = .ok (.bastore, 1)) (hk : knd[o]? = some (.inl (n, .boolean))) (hv : vp_nar .boolean v = v) (hin : vp_in i n) (kk : R X d y (pc + 1) ls st (mset M o i.toNatClampNeg v) Q) : R X d y pc ls (.int v :: .int i :: .ref o :: st) M Q := by
  intro p l e rm s m args below meth c D cA ad A cells slots Z C H locs L hP hS hl
  refine va_zast C.1 C.2.1 (C.2.2.2.2.2.1.arr hk) hP (wd_D C.2.2.2.2.2.2.1 C.2.2.2.2.2.2.2.1) hS o 0 (wd_at hk) rfl hin hd (fun H1 locs1 hP1 hD1 hS1 => ?_)
  have e9 : (wd cA ad M).set o (ad o, .inl (cA o, n, .inl (upd (M o) i.toNatClampNeg v))) = wd cA ad (mset M o i.toNatClampNeg v) := wd_set (q := .inl (n, .boolean)) hk
  rw [hv, e9] at hP1
  exact kk p l e rm s m args below meth c D cA ad A cells slots Z C H1 locs1 L hP1 hS1 hl
theorem r_alen {o n : Nat} {ty : FieldType} {v : Int32} (hd : decode y.2.1 pc = .ok (.arraylength, 1)) (hk : knd[o]? = some (.inl (n, ty))) (hv : Int32.ofNat n = v) (kk : R X d y (pc + 1) ls (.int v :: st) M Q) : R X d y pc ls (.ref o :: st) M Q := by
  intro p l e rm s m args below meth c D cA ad A cells slots Z C H locs L hP hS hl
  exact va_alen C.1 C.2.1 (C.2.2.2.2.2.1.arr hk) hP o 0 (wd_at hk) rfl hv hd (kk p l e rm s m args below meth c D cA ad A cells slots Z C H locs L hP hS hl)
theorem r_sld {n : Nat} {xs : Nat → Int32} {i : Int32} (hd : decode y.2.1 pc = .ok (.iaload, 1)) (hX : X = some (n, xs)) (hin : vp_in i n) (kk : R X d y (pc + 1) ls (.int (xs i.toNatClampNeg) :: st) M Q) : R X d y pc ls (.int i :: .ref 1000 :: st) M Q := by
  intro p l e rm s m args below meth c D cA ad A cells slots Z C H locs L hP hS hl
  obtain ⟨h1, h2, h3⟩ := C.2.2.2.2.2.2.2.2.2.2.2.2 n xs hX
  exact va_sld C.1 C.2.1 h1 h2 h3 hS hin hd (kk p l e rm s m args below meth c D cA ad A cells slots Z C H locs L hP hS hl)
theorem r_slen {n : Nat} {xs : Nat → Int32} (hd : decode y.2.1 pc = .ok (.arraylength, 1)) (hX : X = some (n, xs)) (kk : R X d y (pc + 1) ls (.int (Int32.ofNat n) :: st) M Q) : R X d y pc ls (.ref 1000 :: st) M Q := by
  intro p l e rm s m args below meth c D cA ad A cells slots Z C H locs L hP hS hl
  obtain ⟨h1, h2, h3⟩ := C.2.2.2.2.2.2.2.2.2.2.2.2 n xs hX
  exact va_slen C.1 C.2.1 h1 h2 h3 hS hd (kk p l e rm s m args below meth c D cA ad A cells slots Z C H locs L hP hS hl)
theorem r_table {x : Int32} {dflt lo hi : Int} {offs : Array Int} {len tgt : Nat} {off : Int} (hd : decode y.2.1 pc = .ok (.tableswitch dflt lo hi offs, len)) (ho : (if x.toInt < lo ∨ hi < x.toInt then some dflt else offs[(x.toInt - lo).toNat]?) = some off) (ht : (pc : Int) + off = (tgt : Int)) (kk : R X d y tgt ls st M Q) : R X d y pc ls (.int x :: st) M Q := by
  intro p l e rm s m args below meth c D cA ad A cells slots Z C H locs L hP hS hl
  by_cases h : x.toInt < lo ∨ hi < x.toInt
  · rw [if_pos h] at ho
    cases ho
    exact lv_tableOut C.1 C.2.1 hd h ht (kk p l e rm s m args below meth c D cA ad A cells slots Z C H locs L hP hS hl)
  · rw [if_neg h] at ho
    exact lv_tableIn C.1 C.2.1 hd (fun q => h (Or.inl q)) (fun q => h (Or.inr q)) ho ht (kk p l e rm s m args below meth c D cA ad A cells slots Z C H locs L hP hS hl)
theorem r_ret {v : Int32} {ty : FieldType} (hd : decode y.2.1 pc = .ok (.ireturn, 1)) (ht : y.2.2.2 = some ty) (hn : narrow ty (.int v) = .int v) (hq : Q (some v) M) : R X d y pc ls [.int v] M Q := by
  intro p l e rm s m args below meth c D cA ad A cells slots Z C H locs L hP hS hl
  exact C.2.2.2.2.2.2.2.2.2.2.1 v M H locs pc L hq hP hS hd ⟨ty, ht, hn⟩
theorem r_vret (hd : decode y.2.1 pc = .ok (.return_, 1)) (ht : y.2.2.2 = none) (hq : Q none M) : R X d y pc ls [] M Q := by
  intro p l e rm s m args below meth c D cA ad A cells slots Z C H locs L hP hS hl
  exact C.2.2.2.2.2.2.2.2.2.2.2.1 M H locs pc L hq hP hS hd ht
end RULES2
/-! calls -/
def CO (y' : Meth) (n : Nat) : Prop := y'.1.cls ≠ "java/lang/invoke/MethodHandle" ∧ y'.1.cls ≠ "java/lang/invoke/VarHandle" ∧ (parseMethodDescriptor y'.1.desc).map (fun d => d.parameters.length) = some n ∧ y'.2.2.1 ≤ 20 ∧ Cond.code y'.1 y'.2.1 y'.2.2.1 y'.2.2.2 ∈ lw_w ∧ Cond.initialized y'.1.cls ∈ lw_w
def CV (own : String) (idx : Nat) (y' : Meth) (n : Nat) : Prop := CO y' n ∧ Cond.methodLink own idx y'.1 ∈ lw_w ∧ Cond.instanceMethod y'.1 ∈ lw_w ∧ Cond.selects y'.1.cls y'.1 y'.1 ∈ lw_w
def CS (own : String) (idx : Nat) (y' : Meth) (n : Nat) : Prop := CO y' n ∧ Cond.methodLink own idx y'.1 ∈ lw_w ∧ Cond.static y'.1 ∈ lw_w
def CN (own : String) (idx : Nat) (y' : Meth) (n : Nat) : Prop := CO y' n ∧ (∃ host, (own, idx, y'.1, host) ∈ nst) ∧ Cond.static y'.1 ∈ lw_w
theorem WS_good {y y' : Meth} (h : Cond.code y'.1 y'.2.1 y'.2.2.1 y'.2.2.2 ∈ lw_w) : GoodIn (WS y) (WS y') := by
  intro w hw
  rcases List.mem_cons.mp hw with rfl | hw
  · exact ⟨WS_in h, lw_good _ h⟩
  · exact ⟨WS_in hw, lw_good _ hw⟩
section CALL
variable {p : Program} {l : Launch} {e : Env} {rm : Room} {s : State} {m : MethodId} {args : Array Value} {below : List Frame} {meth : Method} {c : Code} {H : Heap} {locs : List Loc} {cells slots : Nat} {Z : State → Prop}
theorem W_call {D : va_G} {cA : Nat → ClassId} {ad : Nat → Nat} {A A1 : Nat → Prop} {Q' : Post} {a : Array Value} {pc : Nat} {L : Array Slot} {stk rest : List Value} (hr : va_Run p l e rm s m args below meth c H locs cells slots 0 0 (F0 m pc L stk) rest (QM D cA ad A1 Q' a) A1) (hS : va_S A s.heap H locs) (hA : ∀ q, A1 q → A q)
    (kk : ∀ (r : Option Int32) (M' : Mem) (H1 : Heap) (locs1 : List Loc), Q' r M' → va_P D clsT (wd cA ad M') H1 → va_S A s.heap H1 locs1 → W p l e rm s m args below meth c H1 locs1 cells slots Z (F0 m (pc + 3) L ((rvv r).toList ++ rest))) : W p l e rm s m args below meth c H locs cells slots Z (F0 m pc L stk) := by
  intro T hT X
  obtain ⟨v, st₀, t, T', L1, h0, X', hL, e1, e2, ⟨⟨r, M', hv, hq, hP⟩, hz, hk⟩, st⟩ := hr T hT X
  cases hv
  rw [h0] at hz hk
  obtain ⟨t2, a1, b1⟩ := kk r M' T'.heap (locs ++ L1) hq (by rw [e1]; exact hP)
    ⟨Nat.le_trans hS.1 (by rw [e1]; exact hz), fun q h1 h2 => by rw [e1, hk q (Nat.lt_of_lt_of_le h1 hS.1) (fun z => h2 (hA q z))]; exact hS.2.1 q h1 h2, fun q hq => by
      rcases List.mem_append.mp hq with h | h
      · exact hS.2.2 q h
      · exact hA _ (hL q h)⟩ T' rfl X'
  exact ⟨t2, st t2 a1, b1⟩
end CALL
theorem rv_cv {ad : Nat → Nat} {r : Option Int32} {st : List Value} : (rvv r).toList ++ st.map (cv ad) = (rv r ++ st).map (cv ad) := by
  cases r <;> rfl
theorem AA_in {ad : Nat → Nat} {A : Nat → Prop} {H0 H : Heap} {locs : List Loc} (h1 : ∀ i, i < 32 → A (ad i)) (h2 : ∀ q, H0.size ≤ q → A q) (hS : va_S A H0 H locs) : ∀ q, AA ad H.size q → A q := by
  rintro q (⟨i, hi, rfl⟩ | h)
  · exact h1 i hi
  · exact h2 q (Nat.le_trans hS.1 h)
theorem pc_blind {D : va_G} {cA : Nat → ClassId} {ad : Nat → Nat} {M : Mem} {sz : Nat} {av : List Value} : FrameBlind (va_Pc av (fun U => U.heap.size = sz ∧ va_P D clsT (wd cA ad M) U.heap ∧ KK D cA U ∧ inj32 ad)) :=
  fun _ _ _ _ q => ⟨q.1, q.2.1, q.2.2.1, q.2.2.2.1.calling, q.2.2.2.2⟩
theorem st_room {pc : Nat} {ls : Array Slot} {m : MethodId} {stk st : List Value} {ad : Nat → Nat} (h : (st.map fun v => v.category).sum ≤ 8) : 2 * (F0 m pc ls stk).monitorRoom + ((st.map (cv ad)).map fun v => v.category).sum ≤ 8 := by
  rw [cv_sum]
  exact lv_room h
section RULES3
variable {X : Scr} {d : Nat} {y y' : Meth} {pc : Nat} {ls st stk : List Value} {M : Mem} {Q Q' : Post}
theorem rmD_ok {d : Nat} {rm : Room} {n : Nat} (h1 : d + 1 ≤ rm.frames) (h2 : 40 * (d + 1) ≤ rm.locals) (hn : n ≤ 20) : (rmD d).frames + 1 ≤ rm.frames ∧ 8 + (n + 11) + (rmD d).locals ≤ rm.locals := by
  refine ⟨h1, ?_⟩
  show 8 + (n + 11) + 40 * d ≤ rm.locals
  omega
theorem r_callS {idx n : Nat} {as : List Value} (hd : decode y.2.1 pc = .ok (.invokestatic idx, 3)) (hC : CS y.1.cls idx y' n) (hst : stk = as.reverse ++ st) (hn : as.length = n) (hs : (st.map fun v => v.category).sum ≤ 8) (hM : Mt d y' as M Q') (kk : ∀ r M', Q' r M' → R X (d + 1) y (pc + 3) ls (rv r ++ st) M' Q) : R X (d + 1) y pc ls stk M Q := by
  intro p l e rm s m args below meth c D cA ad A cells slots Z C H locs L hP hS hl
  obtain ⟨⟨c1, c2, c3, c4, c5, c6⟩, c7, c8⟩ := hC
  obtain ⟨Q0, hQ, hM⟩ := hM
  have hts := C.2.2.2.2.1
  have hcw : CallB rm s args y.1.cls idx y'.1 y'.2.1 y'.2.2.1 y'.2.2.2 (WS y') (rmD d) 0 0 n ∧ (Cond.static y'.1).before args s = true :=
    ⟨callB_of n hts (WS_good c5) rfl rfl rfl (hts _ (WS_in c6)) (hts _ (WS_in c7)) ⟨c1, c2, c3⟩ (rmD_ok C.2.2.2.2.2.2.2.2.2.1.1 C.2.2.2.2.2.2.2.2.2.1.2.1 c4), hts _ (WS_in c8)⟩
  have hpre : PreS s H (va_Pc (as.map (cv ad)) (fun U => U.heap.size = H.size ∧ va_P D clsT (wd cA ad M) U.heap ∧ KK D cA U ∧ inj32 ad)) (as.map (cv ad)) :=
    ⟨pc_blind, fun U hU hW => ⟨rfl, by rw [hU], by rw [hU]; exact hP, C.2.2.2.2.2.1.warm hW, C.2.2.2.2.2.2.1⟩⟩
  have hr := va_runS (H := H) (locs := locs) (cells := cells) (slots := slots) (g := F0 m pc L (stk.map (cv ad))) (rest := st.map (cv ad)) (As := as.map (cv ad)) (cc := y.2.1) (nL := y.2.2.1) (p := p) (e := e) (meth := meth) (below := below) ⟨C.1, C.2.1, C.2.2.1, C.2.2.2.1, hts⟩ (hM l D cA ad H.size) hcw hpre rfl (by rw [List.length_map]; exact hn) hl.1 (by rw [hst, List.map_append, List.map_reverse]) (st_room hs) hd ⟨C.2.2.2.2.2.2.2.2.2.1.2.2.1, C.2.2.2.2.2.2.2.2.2.1.2.2.2⟩
  refine W_call hr hS (AA_in C.2.2.2.2.2.2.2.1 C.2.2.2.2.2.2.2.2.1 hS) (fun r M' H1 locs1 hq hP1 hS1 => ?_)
  rw [rv_cv]
  exact kk r M' (hQ r M' hq) p l e rm s m args below meth c D cA ad A cells slots Z C H1 locs1 L hP1 hS1 hl
theorem r_callN {idx n : Nat} {as : List Value} (hd : decode y.2.1 pc = .ok (.invokestatic idx, 3)) (hC : CN y.1.cls idx y' n) (hst : stk = as.reverse ++ st) (hn : as.length = n) (hs : (st.map fun v => v.category).sum ≤ 8) (hM : Mt d y' as M Q') (kk : ∀ r M', Q' r M' → R X (d + 1) y (pc + 3) ls (rv r ++ st) M' Q) : R X (d + 1) y pc ls stk M Q := by
  intro p l e rm s m args below meth c D cA ad A cells slots Z C H locs L hP hS hl
  obtain ⟨⟨c1, c2, c3, c4, c5, c6⟩, ⟨host, c7⟩, c8⟩ := hC
  obtain ⟨Q0, hQ, hM⟩ := hM
  have hts := C.2.2.2.2.1
  have hcw := va_cnB (R := rm) (s := s) (args := args) (own := y.1.cls) (host := host) (index := idx) (y := y'.1) (bytes := y'.2.1) (maxL := y'.2.2.1) (ret := y'.2.2.2) (ws := WS y') (rm := rmD d) (mc := 0) (ms := 0) n hts (WS_good c5) rfl rfl rfl (C.2.2.2.2.2.1.2.2 _ c7) (hts _ (WS_in c6)) ⟨c1, c2, c3⟩ (rmD_ok C.2.2.2.2.2.2.2.2.2.1.1 C.2.2.2.2.2.2.2.2.2.1.2.1 c4)
  have hpre : PreS s H (va_Pc (as.map (cv ad)) (fun U => U.heap.size = H.size ∧ va_P D clsT (wd cA ad M) U.heap ∧ KK D cA U ∧ inj32 ad)) (as.map (cv ad)) :=
    ⟨pc_blind, fun U hU hW => ⟨rfl, by rw [hU], by rw [hU]; exact hP, C.2.2.2.2.2.1.warm hW, C.2.2.2.2.2.2.1⟩⟩
  have hr := va_runSN (H := H) (locs := locs) (cells := cells) (slots := slots) (g := F0 m pc L (stk.map (cv ad))) (rest := st.map (cv ad)) (As := as.map (cv ad)) (cc := y.2.1) (nL := y.2.2.1) (p := p) (e := e) (meth := meth) (below := below) ⟨C.1, C.2.1, C.2.2.1, C.2.2.2.1, hts⟩ (hM l D cA ad H.size) ⟨hcw, hts _ (WS_in c8), trivial⟩ hpre rfl (by rw [List.length_map]; exact hn) hl.1 (by rw [hst, List.map_append, List.map_reverse]) (st_room hs) hd ⟨C.2.2.2.2.2.2.2.2.2.1.2.2.1, C.2.2.2.2.2.2.2.2.2.1.2.2.2⟩
  refine W_call hr hS (AA_in C.2.2.2.2.2.2.2.1 C.2.2.2.2.2.2.2.2.1 hS) (fun r M' H1 locs1 hq hP1 hS1 => ?_)
  rw [rv_cv]
  exact kk r M' (hQ r M' hq) p l e rm s m args below meth c D cA ad A cells slots Z C H1 locs1 L hP1 hS1 hl
theorem r_callV {idx n o ci N : Nat} {T : u_T} {fl : List (Option Nat)} {as : List Value} (hd : decode y.2.1 pc = .ok (.invokevirtual idx, 3)) (hC : CV y.1.cls idx y' n) (hk : knd[o]? = some (.inr (ci, fl))) (hci : clsT[ci]? = some (y'.1.cls, T, N)) (hst : stk = as.reverse ++ .ref o :: st) (hn : as.length = n) (hs : (st.map fun v => v.category).sum ≤ 8) (hM : Mt d y' (.ref o :: as) M Q') (kk : ∀ r M', Q' r M' → R X (d + 1) y (pc + 3) ls (rv r ++ st) M' Q) : R X (d + 1) y pc ls stk M Q := by
  intro p l e rm s m args below meth c D cA ad A cells slots Z C H locs L hP hS hl
  obtain ⟨⟨c1, c2, c3, c4, c5, c6⟩, c7, c8, c9⟩ := hC
  obtain ⟨Q0, hQ, hM⟩ := hM
  have hts := C.2.2.2.2.1
  have hcw : CallW rm s args y.1.cls y'.1.cls idx y'.1 y'.2.1 y'.2.2.1 y'.2.2.2 (WS y') (rmD d) 0 0 n :=
    ⟨callB_of n hts (WS_good c5) rfl rfl rfl (hts _ (WS_in c6)) (hts _ (WS_in c7)) ⟨c1, c2, c3⟩ (rmD_ok C.2.2.2.2.2.2.2.2.2.1.1 C.2.2.2.2.2.2.2.2.2.1.2.1 c4), hts _ (WS_in c8), hts _ (WS_in c9)⟩
  have hpre : PreV s H y'.1.cls (ad o) (va_Pc ((Value.ref o :: as).map (cv ad)) (fun U => U.heap.size = H.size ∧ va_P D clsT (wd cA ad M) U.heap ∧ KK D cA U ∧ inj32 ad)) (as.map (cv ad)) :=
    ⟨pc_blind, va_recv C.2.2.2.2.2.1.1 hP hci (wd_at hk), fun U hU hW => ⟨rfl, by rw [hU], by rw [hU]; exact hP, C.2.2.2.2.2.1.warm hW, C.2.2.2.2.2.2.1⟩⟩
  have hr := va_runV (H := H) (locs := locs) (cells := cells) (slots := slots) (g := F0 m pc L (stk.map (cv ad))) (rest := st.map (cv ad)) (As := as.map (cv ad)) (b := ad o) (cc := y.2.1) (nL := y.2.2.1) (p := p) (e := e) (meth := meth) (below := below) ⟨C.1, C.2.1, C.2.2.1, C.2.2.2.1, hts⟩ (hM l D cA ad H.size) hcw hpre rfl (by rw [List.length_map]; exact hn) hl.1 (by rw [hst, List.map_append, List.map_reverse]; rfl) (st_room hs) hd ⟨C.2.2.2.2.2.2.2.2.2.1.2.2.1, C.2.2.2.2.2.2.2.2.2.1.2.2.2⟩
  refine W_call hr hS (AA_in C.2.2.2.2.2.2.2.1 C.2.2.2.2.2.2.2.2.1 hS) (fun r M' H1 locs1 hq hP1 hS1 => ?_)
  rw [rv_cv]
  exact kk r M' (hQ r M' hq) p l e rm s m args below meth c D cA ad A cells slots Z C H1 locs1 L hP1 hS1 hl
end RULES3
/-! a contract out of a walk -/
def okA (as : List Value) : Prop := ∀ v ∈ as, (∃ x, v = .int x) ∨ ∃ a, v = .ref a
theorem lv_args_in {ad : Nat → Nat} : ∀ (as : List Value) (i : Nat), okA as → ∀ q ∈ asc ad i as, q ∈ lv_args i (as.map (cv ad)) := by
  intro as
  induction as with
  | nil => intro i _ q hq; exact hq
  | cons v t ih =>
    intro i hok q hq
    have ht : okA t := fun v hv => hok v (List.mem_cons_of_mem _ hv)
    rcases hok v List.mem_cons_self with ⟨x, rfl⟩ | ⟨x, rfl⟩
    · rcases List.mem_cons.mp hq with rfl | hq
      · exact List.mem_cons_self
      · exact List.mem_cons_of_mem _ (by simpa [Value.category, cv] using ih (i + 1) ht q hq)
    · rcases List.mem_cons.mp hq with rfl | hq
      · exact List.mem_cons_self
      · exact List.mem_cons_of_mem _ (by simpa [Value.category, cv] using ih (i + 1) ht q hq)
theorem sl_len {ad : Nat → Nat} : ∀ (as : List Value), okA as → (lg_sl (as.map (cv ad))).length = as.length := by
  intro as
  induction as with
  | nil => intro _; rfl
  | cons v t ih =>
    intro hok
    have ht : okA t := fun v hv => hok v (List.mem_cons_of_mem _ hv)
    have := ih ht
    rcases hok v List.mem_cons_self with ⟨x, rfl⟩ | ⟨x, rfl⟩
    · simpa [lg_sl, Value.category, cv] using this
    · simpa [lg_sl, Value.category, cv] using this
theorem Lh_entry {n k : Nat} {ad : Nat → Nat} {as ls : List Value} (h1 : okA as) (h2 : as.length ≤ n) (hls : as ++ List.replicate k .null = ls) : Lh n ad ((lg_sl (as.map (cv ad)) ++ List.replicate (n - (lg_sl (as.map (cv ad))).length) Slot.unset).toArray) ls := by
  have h := lv_entry (as.map (cv ad)) (n := n) (by rw [sl_len as h1]; exact h2)
  have h3 : Lh n ad ((lg_sl (as.map (cv ad)) ++ List.replicate (n - (lg_sl (as.map (cv ad))).length) Slot.unset).toArray) as := ⟨h.1, h.2.1, fun q hq => h.2.2 q (lv_args_in as 0 h1 q hq)⟩
  refine h3.sub (fun j v hv => ?_)
  subst hls
  by_cases hj : j < as.length
  · rw [List.getElem?_append_left hj] at hv
    exact Or.inr hv
  · rw [List.getElem?_append_right (by omega)] at hv
    left
    exact List.eq_of_mem_replicate (List.mem_of_getElem? hv)
theorem Mt.of {d k : Nat} {y : Meth} {as ls : List Value} {M : Mem} {Q : Post} (h0 : plainName y.1.cls = true) (h1 : okA as) (h2 : as.length ≤ y.2.2.1) (hls : as ++ List.replicate k .null = ls) (hR : R none d y 0 ls [] M Q) : Mt d y as M Q := by
  refine ⟨Q, fun _ _ h => h, fun l D cA ad sz => ?_⟩
  refine Met.ofW (cc := y.2.1) (maxL := y.2.2.1) (ret := y.2.2.2) h0 rfl ?_
  intro p e s m args below meth c s₁ B hml hv
  obtain ⟨rfl, hsz, hP, hK, hi⟩ := hv
  have hts := atoms_spec (ws := WS y) B.pre
  have hr := B.returns
  have hlocks := B.notSynchronized
  subst hsz
  rw [lg_entry_eq]
  have hA : ∀ i, i < 32 → AA ad s.heap.size (ad i) := fun i hi => Or.inl ⟨i, hi, rfl⟩
  refine hR p l e (headSpec (WS y) (rmD d)).room s m _ below meth c D cA ad (AA ad s.heap.size) 0 0 _ ⟨B.exec, B.bytes, hml, findClass_of_methodNamed B.named, hts, hK, hi, hA, fun q h => Or.inr h, ⟨Nat.le_refl _, Nat.le_refl _, Nat.le_refl _, Nat.le_refl _⟩, ?_, ?_, fun n xs h => by cases h⟩ s.heap [] _ hP va_S.rf (Lh_entry h1 h2 hls)
  · rintro r M' H locs pc L hq hP1 hS1 hdg ⟨ty, ht, hn⟩
    exact W.zret B.exec B.bytes (hr.trans ht) hn (fun t ht hW => ⟨⟨some r, M', rfl, hq, by rw [ht]; exact hP1⟩, hS1.F ht⟩) hS1.2.2 hdg hlocks
  · intro M' H locs pc L hq hP1 hS1 hdg ht
    exact W.vret B.exec B.bytes (hr.trans ht) (fun t ht hW => ⟨⟨none, M', rfl, hq, by rw [ht]; exact hP1⟩, hS1.F ht⟩) hS1.2.2 hdg hlocks
