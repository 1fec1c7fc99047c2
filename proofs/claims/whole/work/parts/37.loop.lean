/-! the law: all its calls agree -/
theorem J_ofNat (n : Nat) : Int32.ofNat n = J (n : Int) := by
  unfold J
  apply Int32.toBitVec_inj.mp
  rw [show (Int32.ofNat n).toBitVec = BitVec.ofNat 32 n from rfl]
  exact (J_natbits n).symm
theorem MR.mf {M M' : Mem} {S : SS} (h : MR M S) (g : MF M M') : MR M' S := by
  obtain ⟨⟨t1, t2, t3, t4, t5, t6, t7⟩, s1, s2⟩ := h
  refine ⟨⟨by rw [g _ _ (by decide)]; exact t1, by rw [g _ _ (by decide)]; exact t2, by rw [g _ _ (by decide)]; exact t3, fun y hy => by rw [g _ _ (by decide)]; exact t4 y hy, fun p hp => by rw [g _ _ (by decide), g _ _ (by decide), g _ _ (by decide)]; exact t5 p hp, fun p hp => by rw [g _ _ (by decide)]; exact t6 p hp, fun p hp => by rw [g _ _ (by decide), g _ _ (by decide)]; exact t7 p hp⟩, by rw [g _ _ (by decide)]; exact s1, fun i hi => by rw [g _ _ (by decide)]; exact s2 i hi⟩
theorem CR.nf {M M' : Mem} {S : SS} (h : CR M S) (g : NF M M') : CR M' S := h.keep ⟨⟨fun k => g 1 k (by decide), fun a j _ h2 => g a j (by omega)⟩, g 2 8 (by decide), fun j => g 14 j (by decide)⟩
set_option maxRecDepth 100000 in
set_option maxHeartbeats 8000000 in
theorem law_loop {d n : Nat} {xs : Nat → Int32} (hn : n ≤ 2560) : ∀ (f i : Nat) (M : Mem) (S : SS), n ≤ i + f → i ≤ n + 5 → OKS S → CR M S → MR M S → R (some (n, xs)) (d + 13) mL_law 18 [.ref 1000, .ref 0, .ref 18, .int (J (i : Int))] [] M (fun r _ => r = some (J 1)) := by
  intro f
  induction f with
  | zero =>
    intro i M S h1 h2 hO hC hR
    refine b_L_law_18 ⟨fun _ => rfl, fun c => ?_⟩
    rw [J_ofNat, J_sub, J_lt (by omega) (by omega) (by omega) (by omega)] at c
    omega
  | succ f ih =>
    intro i M S h1 h2 hO hC hR
    have e1 : J (i : Int) + J 1 = J ((i + 1 : Nat) : Int) := J_suc i
    have e2 : J (i : Int) + J 2 = J ((i + 2 : Nat) : Int) := J_addN i 2
    have e3 : J (i : Int) + J 3 = J ((i + 3 : Nat) : Int) := J_addN i 3
    have e4 : J (i : Int) + J 4 = J ((i + 4 : Nat) : Int) := J_addN i 4
    have e5 : J (i : Int) + J 5 = J ((i + 5 : Nat) : Int) := J_addN i 5
    obtain ⟨z1, y1, b1⟩ := J_of (xs (i + 1))
    obtain ⟨z2, y2, b2⟩ := J_of (xs (i + 2))
    obtain ⟨z3, y3, b3⟩ := J_of (xs (i + 3))
    obtain ⟨z4, y4, b4⟩ := J_of (xs (i + 4))
    refine b_L_law_18 ?_
    rw [e1, e2, e3, e4, e5, nI2 (n := i + 1) (by omega), nI2 (n := i + 2) (by omega), nI2 (n := i + 3) (by omega), nI2 (n := i + 4) (by omega), y1, y2, y3, y4, J_ofNat, J_sub, J_lt (by omega) (by omega) (by omega) (by omega)]
    refine ⟨fun _ => rfl, fun c => ?_⟩
    have v1 := vin (n := i + 1) (N := n) (by omega) (by omega)
    have v2 := vin (n := i + 2) (N := n) (by omega) (by omega)
    have v3 := vin (n := i + 3) (N := n) (by omega) (by omega)
    have v4 := vin (n := i + 4) (N := n) (by omega) (by omega)
    have next : ∀ (M2 : Mem) (S2 : SS), OKS S2 → CR M2 S2 → MR M2 S2 → R (some (n, xs)) (d + 13) mL_law 18 [.ref 1000, .ref 0, .ref 18, .int (J ((i + 5 : Nat) : Int))] [] M2 (fun r _ => r = some (J 1)) := fun M2 S2 g1 g2 g3 => ih (i + 5) M2 S2 (by omega) (by omega) g1 g2 g3
    refine ⟨vin (by omega) (by omega), fun _ => next M S hO hC hR, ?_, ?_, ?_, ?_, ?_, ?_, ?_, ?_, ?_, ?_, ?_, ?_, ?_, ?_, ?_, ?_, ?_, ?_, ?_⟩
    · exact fun _ => ⟨v1, v2, c_board hC b1 b2 (fun M1 hC1 hF1 => ri_some ⟨v1, v2, m_board (hR.mf hF1) hO b1 b2 (fun M2 hR2 hN2 => ri_some ⟨fun _ => next M2 _ (inv_board hO) (hC1.nf hN2) hR2, fun c => absurd rfl c⟩)⟩)⟩
    · exact fun _ => ⟨v1, v2, c_walls hC hO b1 b2 (fun M1 hC1 hF1 => ri_some ⟨v1, v2, m_walls (hR.mf hF1) hO b1 b2 (fun M2 hR2 hN2 => ri_some ⟨fun _ => next M2 _ (inv_walls hO) (hC1.nf hN2) hR2, fun c => absurd rfl c⟩)⟩)⟩
    · exact fun _ => ⟨v1, c_piece hC hO b1 (fun M1 hC1 hF1 => ri_some ⟨v1, m_piece (hR.mf hF1) hO b1 (fun M2 hR2 hN2 => ri_some ⟨fun _ => next M2 _ (inv_piece hO) (hC1.nf hN2) hR2, fun c => absurd rfl c⟩)⟩)⟩
    · exact fun _ => ⟨v1, v2, c_about hC hO b1 b2 (fun M1 hC1 hF1 => ri_some ⟨v1, v2, m_about (hR.mf hF1) hO b1 b2 (fun M2 hR2 hN2 => ri_some ⟨fun _ => next M2 _ hO (hC1.nf hN2) hR2, fun c => absurd rfl c⟩)⟩)⟩
    · exact fun _ => ⟨v1, v2, v3, c_put hC hO b1 b2 b3 (fun M1 hC1 hF1 => ri_some ⟨v1, v2, v3, m_put (hR.mf hF1) hO b1 b2 b3 (fun M2 hR2 hN2 => ri_some ⟨fun _ => next M2 _ (inv_put hO) (hC1.nf hN2) hR2, fun c => absurd rfl c⟩)⟩)⟩
    · exact fun _ => ⟨v1, c_away hC hO b1 (fun M1 hC1 hF1 => ri_some ⟨v1, m_away (hR.mf hF1) hO b1 (fun M2 hR2 hN2 => ri_some ⟨fun _ => next M2 _ (inv_away hO) (hC1.nf hN2) hR2, fun c => absurd rfl c⟩)⟩)⟩
    · exact fun _ => ⟨v1, v2, v3, c_stands hC hO b1 b2 b3 (fun M1 hC1 hF1 => ri_some ⟨v1, v2, v3, m_stands (hR.mf hF1) hO b1 b2 b3 (fun M2 hR2 hN2 => ri_some ⟨fun _ => next M2 _ hO (hC1.nf hN2) hR2, fun c => absurd rfl c⟩)⟩)⟩
    · exact fun _ => ⟨v1, v2, v3, c_slide hC hO b1 b2 b3 (fun M1 hC1 hF1 => ri_some ⟨v1, v2, v3, m_slide (hR.mf hF1) hO b1 b2 b3 (fun M2 hR2 hN2 => ri_some ⟨fun _ => next M2 _ (inv_slide hO) (hC1.nf hN2) hR2, fun c => absurd rfl c⟩)⟩)⟩
    · exact fun _ => ⟨v1, v2, v3, c_way hC hO b1 b2 b3 (fun M1 hC1 hF1 => ri_some ⟨v1, v2, v3, m_way (hR.mf hF1) hO b1 b2 b3 (fun M2 hR2 hN2 => ri_some ⟨fun _ => next M2 _ (inv_way hO) (hC1.nf hN2) hR2, fun c => absurd rfl c⟩)⟩)⟩
    · exact fun _ => ⟨v1, c_stepOf hC hO b1 (fun M1 hC1 hF1 => ri_some ⟨v1, m_stepOf (hR.mf hF1) hO b1 (fun M2 hR2 hN2 => ri_some ⟨fun _ => next M2 _ hO (hC1.nf hN2) hR2, fun c => absurd rfl c⟩)⟩)⟩
    · exact fun _ => ⟨v1, c_out hC hO b1 (fun M1 hC1 hF1 => ri_some ⟨v1, m_out (hR.mf hF1) hO b1 (fun M2 hR2 hN2 => ri_some ⟨fun _ => next M2 _ hO (hC1.nf hN2) hR2, fun c => absurd rfl c⟩)⟩)⟩
    · exact fun _ => ⟨v1, v2, c_places hC hO b1 b2 (fun M1 hC1 hF1 => ri_some ⟨v1, v2, m_places (hR.mf hF1) hO b1 b2 (fun M2 hR2 hN2 => ri_some ⟨fun _ => next M2 _ hO (hC1.nf hN2) hR2, fun c => absurd rfl c⟩)⟩)⟩
    · exact fun _ => ⟨v1, v2, c_blocks hC hO b1 b2 (fun M1 hC1 hF1 => ri_some ⟨v1, v2, m_blocks (hR.mf hF1) hO b1 b2 (fun M2 hR2 hN2 => ri_some ⟨fun _ => next M2 _ hO (hC1.nf hN2) hR2, fun c => absurd rfl c⟩)⟩)⟩
    · exact fun _ => ⟨v1, v2, c_order hC hO b1 b2 (fun M1 hC1 hF1 => ri_some ⟨v1, v2, m_order (hR.mf hF1) hO b1 b2 (fun M2 hR2 hN2 => ri_some ⟨fun _ => next M2 _ hO (hC1.nf hN2) hR2, fun c => absurd rfl c⟩)⟩)⟩
    · exact fun _ => ⟨v1, c_apart hC hO b1 (fun M1 hC1 hF1 => ri_some ⟨v1, m_apart (hR.mf hF1) hO b1 (fun M2 hR2 hN2 => ri_some ⟨fun _ => next M2 _ hO (hC1.nf hN2) hR2, fun c => absurd rfl c⟩)⟩)⟩
    · exact fun _ => ⟨v1, v2, v3, c_push hC hO b1 b2 b3 (fun M1 hC1 hF1 => ri_some ⟨v1, v2, v3, m_push (hR.mf hF1) hO b1 b2 b3 (fun M2 hR2 hN2 => ri_some ⟨fun _ => next M2 _ hO (hC1.nf hN2) hR2, fun c => absurd rfl c⟩)⟩)⟩
    · exact fun _ => ⟨v1, v2, v3, v4, c_strip hC hO b1 b2 b3 b4 (fun M1 hC1 hF1 => ri_some ⟨v1, v2, v3, v4, m_strip (hR.mf hF1) hO b1 b2 b3 b4 (fun M2 hR2 hN2 => ri_some ⟨fun _ => next M2 _ hO (hC1.nf hN2) hR2, fun c => absurd rfl c⟩)⟩)⟩
    · exact fun _ => ⟨v1, v2, v3, c_best hC hO b1 b2 b3 (fun M1 hC1 hF1 => ri_some ⟨v1, v2, v3, m_best (hR.mf hF1) hO b1 b2 b3 (fun M2 hR2 hN2 => ri_some ⟨fun _ => next M2 _ hO (hC1.nf hN2) hR2, fun c => absurd rfl c⟩)⟩)⟩
    · exact fun _ => ⟨v1, c_count hC hO b1 (fun M1 hC1 hF1 => ri_some ⟨v1, m_count (hR.mf hF1) hO b1 (fun M2 hR2 hN2 => ri_some ⟨fun _ => next M2 _ hO (hC1.nf hN2) hR2, fun c => absurd rfl c⟩)⟩)⟩
