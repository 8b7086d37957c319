theorem five (p : Int32) : p < 0 ∨ nI 5 ≤ p ∨ ∃ c, c < 5 ∧ p = nI c := pk_ix p (by omega)
theorem stone_gd {t c : Nat} (ht : t ≤ 1000) (hc : c < 5) : GD ((10 : Int64) * (nI t).toInt64 + (nI c).toInt64) := by
  have e1 : (10 : Int64) * (nI t).toInt64 + (nI c).toInt64 = lN (10 * t + c) := by
    rw [nI_cast (show t < 2 ^ 31 by omega), nI_cast (show c < 2 ^ 31 by omega), show (10 : Int64) = lN 10 from by decide, lN_mul, lN_add]
  have e2 : h10 (lN (10 * t + c)) = nI c := by
    unfold h10
    rw [show (10 : Int64) = lN 10 from by decide, pk_lRem (by omega) (by omega) (by omega), lN_i]
    congr 1
    omega
  rw [e1]
  unfold GD
  rw [e2]
  rcases (show c = 0 ∨ c = 1 ∨ c = 2 ∨ c = 3 ∨ c = 4 by omega) with rfl | rfl | rfl | rfl | rfl
  · exact Or.inl (by decide)
  · exact Or.inr (Or.inl (by decide))
  · exact Or.inr (Or.inr (Or.inl (by decide)))
  · exact Or.inr (Or.inr (Or.inr (Or.inl (by decide))))
  · exact Or.inr (Or.inr (Or.inr (Or.inr (by decide))))
/-- with the stone in the hand, both go on alike -/
theorem put_on {i qx qm z : Nat} {f fm : hPl} {B C φ ψ : Nat → Nat} {L : Nat → Option Nat} {K : Option Nat} {mn : Nat → Nat} {la sa ma ia cn : Nat → Int32} {mem car kp kr hr : Nat → Int64} {pr : Nat → Option Nat} (R : RB i qx f qm fm B C φ ψ L K mn la sa ma ia cn mem car kp kr hr pr) {P : Nat} (hP : P < 8) (x : Int32) {st : Int64} (hst : GD st) :
    ∃ ans f2 fm', fX3_sweepThings (hup f (C 3) (aJ 1 (vp_updL hr 0 st))) z qx (some (C 1)) 0 (pr P) x 1 0 = some (ans, f2, z) ∧ fX4_put_j51 fm z qm (nI P) x st = some (ans, fm', z) ∧ RI i qx f2 qm fm' := by
  have hM := R.1
  have hRC0 : RC i qx f C φ ψ L K mn la sa ma ia cn mem kp kr hr pr := R.2
  have hRC := hRC0.hand (vp_updL hr 0 st)
  generalize hf1 : hup f (C 3) (aJ 1 (vp_updL hr 0 st)) = f1 at hRC
  have hC := hRC.1
  have R1 : RB i qx f1 qm fm B C φ ψ L K mn la sa ma ia cn mem car kp kr (vp_updL hr 0 st) pr := ⟨hM, hRC⟩
  have TH' : TT f1 (C 1) 6 (C 3) 1 (vp_updL hr 0 st) := ⟨hC.2.2.1, hC.2.2.2.2.1⟩
  have E1 : EP f1 (some (C 1)) 6 1 := Or.inr (Or.inr ⟨C 1, C 3, 1, _, rfl, by decide, by decide, by omega, nI_one, TH'⟩)
  obtain ⟨s2, m2, b1, b2, E2, F2⟩ := R1.ep hP
  have hz0 : (0 : Int32) = nI 0 := by decide
  rcases sw_ref (qx := qx) (z := z) E1 E2 0 x 1 0 with ⟨r, hr3, c1, c2⟩ | ⟨x1, y1, n1, row1, x2, y2, n2, row2, I, J, N, o1, o2, T1, T2, h1, h2, eI, rfl, eN, hI2, hJ2, hlike, c2, c1⟩
  · obtain ⟨f2, fm', d1, d2, d3, d4⟩ := both_refuse (z := z) hM hRC hr3
    have hpos : ¬ nI r ≤ 0 := nI_nle (by omega) (by omega)
    exact ⟨nI r, f2, fm', by simp [fX3_sweepThings, hC.ob, c1, d1], by simp [fX4_put_j51, hM.ob, b1, b2, c2, hpos, hM.q8, d2, d3], d4⟩
  · cases o1
    have hI0 : I = 0 := by
      rw [hz0] at eI
      exact ((nI_eq (by omega) (by omega)).mp eI).symm
    have hN1 : N = 1 := by
      rw [nI_one] at eN
      exact ((nI_eq (by omega) (by omega)).mp eN).symm
    subst hI0
    subst hN1
    obtain ⟨k2, u2, l2, e2, rfl, rfl, rfl, rfl, w1, w2, w3, w4, w5⟩ := F2 _ _ _ _ o2 T2
    have hrow1 : row1 0 = st := by
      have q1 := T1.1
      rw [TH'.1] at q1
      have q2 : C 3 = y1 := by
        have := Sum.inr.inj (Option.some.inj q1)
        simp at this
        exact this
      have q3 := T1.2
      rw [← q2, TH'.2] at q3
      have q4 := Sum.inl.inj (Option.some.inj q3)
      have q5 : vp_updL hr 0 st = row1 := by
        simp at q4
        exact q4.2
      rw [← q5, pk_uLs]
    obtain ⟨fm1, p1, p2⟩ := hM.s5 (show 0 < 40 by omega) st
    obtain ⟨ans, g1, g2, fm3, d1, d2, d3, d4, d5⟩ := both_carry (z := z) p2 hRC hP l2 u2 e2 w1 w2 h2 T2 w3 w4 T1 h1 hI2 hJ2 (fun t ht => by
      have : t = 0 := by omega
      subst this
      rw [pk_uLs, Nat.add_zero, hrow1]) (fun hs t ht => by
      have : t = 0 := by omega
      subst this
      rw [Nat.add_zero, hrow1]; exact hst)
    rw [if_pos rfl] at c1
    rw [← hz0, ← nI_one] at d1
    rw [← nI_one] at d4
    rw [← hz0] at p1
    rw [d1] at c1
    exact ⟨ans, g2, fm3, by simp [fX3_sweepThings, hC.ob, c1, d2, d3], by simp [fX4_put_j51, hM.ob, b1, b2, c2, hM.q5, p1, p2.ob, d4], d5⟩
theorem R_put : hS3 RI fX3_put fX4_put := by
  intro i0 z qx fx qm fm p x s hi hb h
  have hI := R_mono _ _ _ _ _ h
  obtain ⟨B, C, φ, ψ, L, K, mn, la, sa, ma, ia, cn, mem, car, kp, kr, hr, pr, R⟩ := h
  have hM := R.1
  have hC := R.2.1
  have hRC : RC i0 qx fx C φ ψ L K mn la sa ma ia cn mem kp kr hr pr := R.2
  rcases hplace p with h1 | ⟨P, hP, rfl⟩
  · exact ⟨-1, fx, z, fm, z, by simp [fX3_put, (fx_place_no (f := fx) h1).1], by simp [fX4_put, (fx_place_no (f := fm) h1).2], hI⟩
  have hpx := (fx_place_yes (f := fx) hP).1
  have hpm := (fx_place_yes (f := fm) hP).2
  rcases five s with h1 | h1 | ⟨c, hc, rfl⟩
  · exact ⟨-1, fx, z, fm, z, by simp [fX3_put, hpx, h1], by simp [fX4_put, hpm, h1], hI⟩
  · have h2 : ¬ s < 0 := fun h => by
      have := hneg h
      have h3 := Int32.le_iff_toInt_le.mp h1
      rw [nI_toInt (by omega)] at h3
      omega
    have h4 : ¬ s ≤ 4 := fun h => by
      have h3 := Int32.le_iff_toInt_le.mp h1
      rw [nI_toInt (by omega)] at h3
      have h5 := Int32.le_iff_toInt_le.mp h
      have e : (4 : Int32).toInt = 4 := by decide
      omega
    exact ⟨-1, fx, z, fm, z, by simp [fX3_put, hpx, h2, h4], by simp [fX4_put, hpm, h2, h4], hI⟩
  have hs0 : ¬ nI c < 0 := nI_pos (by omega)
  have hs4 : nI c ≤ 4 := by rw [show (4 : Int32) = nI 4 from by decide]; exact nI_le (by omega) (by omega)
  have hz0 : (0 : Int32) = nI 0 := by decide
  -- the hand, over a bench
  have hand : ∀ (f : hPl) (cn' : Nat → Int32), CX qx f C pr (K.map φ) kr hr cn' → ∀ st, fX2_write f z (C 1) 0 st = some (1, hup f (C 3) (aJ 1 (vp_updL hr 0 st)), z) := by
    intro f cn' hC' st
    have := TT.write (z := z) (fx := f) (a := C 1) (s := 6) (b := C 3) (n := 1) (row := hr) ⟨hC'.2.2.1, hC'.2.2.2.2.1⟩ (by omega) (i := 0) (by omega) st
    rw [← hz0] at this
    exact this
  obtain ⟨t, ht, hcn⟩ := hRC.2.2.2.2.2
  rcases Nat.eq_zero_or_pos c with rfl | hcp
  · -- a gap
    have R1 : RB (i0 + 1) qx fx qm fm B C φ ψ L K mn la sa ma ia cn mem car kp kr hr pr := ⟨hM, hRC.more⟩
    obtain ⟨ans, f2, fm', d1, d2, d3⟩ := put_on (z := z) R1 hP x gd0
    have hw := hand fx cn hC 0
    have hCh : CX qx (hup fx (C 3) (aJ 1 (vp_updL hr 0 0))) C pr (K.map φ) kr (vp_updL hr 0 0) cn := (hRC.hand (vp_updL hr 0 0)).1
    rw [nI_0]
    exact ⟨ans, f2, z, fm', z, by simp [fX3_put, hpx, hC.q1, hC.ob, fX3_newStone, g_ob hC.2.2.1, hw, hCh.q1, hCh.q0, hCh.lp hP, hCh.ob, d1], by simp [fX4_put, hpm, d2], d3⟩
  · -- a stone
    have hne0 : ¬ nI c = 0 := nI_ne0 hcp (by omega)
    have hnle : ¬ nI c ≤ 0 := nI_nle hcp (by omega)
    have hc1 : cn 0 + 1 = nI (t + 1) := by rw [hcn, nI_1]
    have hR1 := hRC.same (i' := i0 + 1) (cn' := upd cn 0 (cn 0 + 1)) ⟨t + 1, by omega, by rw [pk_us, hc1]⟩
    have hput0 : hput fx qx 2 4 (.int (cn 0 + 1)) = some (hup fx qx (oC 2 [.ref (C 0), .ref (C 1), .ref (C 2), va_rf (K.map φ), .int (upd cn 0 (cn 0 + 1) 0), .int (upd cn 0 (cn 0 + 1) 1), .int (upd cn 0 (cn 0 + 1) 2), .int (upd cn 0 (cn 0 + 1) 3), .int (upd cn 0 (cn 0 + 1) 4), .int (upd cn 0 (cn 0 + 1) 5), .int (upd cn 0 (cn 0 + 1) 6)])) := by
      rw [g_put hC.1 (by simp)]
      rfl
    generalize hup fx qx (oC 2 [.ref (C 0), .ref (C 1), .ref (C 2), va_rf (K.map φ), .int (upd cn 0 (cn 0 + 1) 0), .int (upd cn 0 (cn 0 + 1) 1), .int (upd cn 0 (cn 0 + 1) 2), .int (upd cn 0 (cn 0 + 1) 3), .int (upd cn 0 (cn 0 + 1) 4), .int (upd cn 0 (cn 0 + 1) 5), .int (upd cn 0 (cn 0 + 1) 6)]) = f1 at hR1 hput0
    have hC1 := hR1.1
    obtain ⟨fm1, p1, p2⟩ := hM.s8 (show 0 < 7 by omega) (cn 0 + 1)
    have hl0 := hM.l8 (show 0 < 7 by omega)
    have hl1 := p2.l8 (show 0 < 7 by omega)
    rw [pk_us] at hl1
    rw [← hz0] at p1 hl0 hl1
    have R1 : RB (i0 + 1) qx f1 qm fm1 B C φ ψ L K mn la sa ma ia (upd cn 0 (cn 0 + 1)) mem car kp kr hr pr := ⟨p2, hR1⟩
    have hgd : GD ((10 : Int64) * (cn 0 + 1).toInt64 + (nI c).toInt64) := by
      rw [hc1]
      exact stone_gd (by omega) hc
    generalize hstE : (10 : Int64) * (cn 0 + 1).toInt64 + (nI c).toInt64 = st at hgd
    obtain ⟨ans, f2, fm', d1, d2, d3⟩ := put_on (z := z) R1 hP x hgd
    have hw := hand f1 (upd cn 0 (cn 0 + 1)) hC1 st
    have hCh := (hR1.hand (vp_updL hr 0 st)).1
    have hns : fX3_newStone fx z qx (nI c) = some (st, f1, z) := by
      have hg4 := hC1.c4
      rw [pk_us] at hg4
      simp [fX3_newStone, hne0, hC.c4, hput0, hg4, hstE]
    refine ⟨ans, f2, z, fm', z, ?_, ?_, d3⟩
    · simp [fX3_put, hpx, hs0, hs4, hC.q1, hC.ob, hns, g_ob hC1.2.2.1, hw, hCh.q1, hCh.q0, hCh.lp hP, hCh.ob, d1]
    · simp [fX4_put, hpm, hs0, hs4, hnle, hM.q8, hl0, p1, p2.q8, hl1, hstE, d2]
theorem hAll_RI : hAll RI := ⟨R_init, R_mono, R_ob, R_lay, R_share, R_set, R_put, R_sweep, R_back, R_light, R_member, R_thing, R_worth, R_mirror, R_count⟩
