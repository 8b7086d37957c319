theorem TK.congr {s : Int32} {v w : Nat → Int64} {N T : Nat} (h : TK s v N T) (hv : ∀ q, q < N → w q = v q) : TK s w N T := by
  obtain ⟨h1, h2, h3⟩ := h
  exact ⟨h1, fun hs q hq => by rw [hv q (by omega)]; exact h2 hs q hq, fun hT => ⟨(h3 hT).1, by rw [hv T hT]; exact (h3 hT).2⟩⟩
theorem tl_ans {T N : Nat} (hT : T ≤ 40) : tl (if T = N then 0 else 10 + nI T) = if T = N then 1 else 5 := by
  by_cases h : T = N
  · rw [if_pos h, if_pos h]; rfl
  · rw [if_neg h, if_neg h, show (10 : Int32) = nI 10 from by decide, nI_add]
    have q0 : ¬ nI (10 + T) = 0 := by rw [← nI_0]; exact nI_ne (by omega) (by omega) (by omega)
    have q1 : ¬ nI (10 + T) = 1 := by rw [nI_one]; exact nI_ne (by omega) (by omega) (by omega)
    have q2 : ¬ nI (10 + T) = 2 := by rw [show (2 : Int32) = nI 2 from by decide]; exact nI_ne (by omega) (by omega) (by omega)
    have q3 : ¬ nI (10 + T) = 3 := by rw [show (3 : Int32) = nI 3 from by decide]; exact nI_ne (by omega) (by omega) (by omega)
    simp [tl, q0, q1, q2, q3]
theorem RC.same {i qx : Nat} {fx : hPl} {C φ ψ : Nat → Nat} {L : Nat → Option Nat} {K : Option Nat} {mn : Nat → Nat} {la sa ma ia cn : Nat → Int32} {mem kp kr hr : Nat → Int64} {pr : Nat → Option Nat} (R : RC i qx fx C φ ψ L K mn la sa ma ia cn mem kp kr hr pr) {i' : Nat} {cn' : Nat → Int32} (hc : ∃ t, t ≤ i' ∧ cn' 0 = nI t) :
    RC i' qx (hup fx qx (oC 2 [.ref (C 0), .ref (C 1), .ref (C 2), va_rf (K.map φ), .int (cn' 0), .int (cn' 1), .int (cn' 2), .int (cn' 3), .int (cn' 4), .int (cn' 5), .int (cn' 6)])) C φ ψ L K mn la sa ma ia cn' mem kp kr hr pr :=
  R.bench (fun k hk => ⟨Or.inr hk, R.2.2.2.2.1 k hk⟩) hc
/-- both carry, and go on alike -/
theorem both_carry {i qx qm z : Nat} {f fm : hPl} {B C φ ψ : Nat → Nat} {L : Nat → Option Nat} {K : Option Nat} {mn : Nat → Nat} {la sa ma ia cn : Nat → Int32} {mem car kp kr hr : Nat → Int64} {pr : Nat → Option Nat} (hM : MX qm fm B la sa ma ia cn mem car kp (hsh K)) (R : RC i qx f C φ ψ L K mn la sa ma ia cn mem kp kr hr pr) {Q k I J N a1 b1 n1 : Nat} {s1 : Int32} {row1 row2 : Nat → Int64} (hQ : Q < 8) (hk : k < 10) (hu : US L K k) (hl : la Q = nI k) (hs1 : 2 ≤ (sa k).toInt) (hs2 : (sa k).toInt ≤ 10) (h2 : mn k ≤ 40) (T2 : TT f (φ k) (sa k) (ψ k) (mn k) row2) (hrow : ∀ j, j < mn k → row2 j = mem (40 * k + j)) (hgd : 6 ≤ (sa k).toInt → ∀ j, j < mn k → GD (mem (40 * k + j))) (T1 : TT f a1 s1 b1 n1 row1) (h1 : n1 ≤ 40) (hI : I + N ≤ n1) (hJ : J + N ≤ mn k) (hcar : ∀ q, q < N → car q = row1 (I + q)) (hg1 : 6 ≤ (sa k).toInt → ∀ q, q < N → GD (row1 (I + q))) :
    ∃ ans f1 f2 fm', fX3_sweepOrRefuse_j80 f z qx (nI I) (nI J) (nI N) (some a1) (some (φ k)) = some (ans, f1, z) ∧ hob f1 qx 2 = some () ∧ fX3_tally f1 z qx ans = some ((), f2, z) ∧ fX4_carry fm z qm (nI Q) (nI J) (nI N) = some (ans, fm', z) ∧ RI i qx f2 qm fm' := by
  obtain ⟨T, hT⟩ := tk_ex (sa k) (fun q => row1 (I + q)) N
  have hTN := hT.1
  have hTc : TK (sa k) car N T := hT.congr hcar
  obtain ⟨fm', m1, m2⟩ := m_carry (z := z) hM hQ hk hl hs1 hs2 (show J + N ≤ 40 by omega) hTc
  have x1 := x_carry (z := z) R.1 T1 T2 h1 h2 ⟨hs1, hs2⟩ hI hJ hT
  have hin : ∀ x, J ≤ x → x < J + T → va_cpy car mem 0 (40 * k + J) T (40 * k + x) = row1 (I + (x - J)) := by
    intro x q1 q2
    rw [pk_cpy_in (by omega) (by omega), show 0 + (40 * k + x - (40 * k + J)) = x - J by omega]
    exact hcar (x - J) (by omega)
  have hout : ∀ x, (x < J ∨ J + T ≤ x) → va_cpy car mem 0 (40 * k + J) T (40 * k + x) = mem (40 * k + x) := fun x q => pk_cpy_out (by omega)
  have R3 := R.cells hu T2 (row' := va_cpy row1 row2 I J T) (mem' := va_cpy car mem 0 (40 * k + J) T) (fun x hx => pk_cpy_out (by omega)) (fun x hx => by
    by_cases q : J ≤ x ∧ x < J + T
    · rw [hin x q.1 q.2, pk_cpy_in q.1 q.2]
    · rw [hout x (by omega), pk_cpy_out (by omega)]; exact hrow x hx) (fun hs x hx => by
    by_cases q : J ≤ x ∧ x < J + T
    · rw [hin x q.1 q.2]; exact hg1 hs (x - J) (by omega)
    · rw [hout x (by omega)]; exact hgd hs x hx)
  have hc0 := R.2.2.2.2.2
  have R4 := R3.same (i' := i) (cn' := upd cn 6 (cn 6 + nI T)) (by rw [pk_un (show (0 : Nat) ≠ 6 by omega)]; exact hc0)
  have x2 := x_tally (z := z) R4.1 (if T = N then 0 else 10 + nI T)
  rw [tl_ans (show T ≤ 40 by omega)] at x2
  have hne6 : (if T = N then 1 else 5) ≠ 6 := by by_cases q : T = N <;> simp [q]
  have hne0 : (0 : Nat) ≠ (if T = N then 1 else 5) := by by_cases q : T = N <;> simp [q]
  rw [pk_un (f := cn) hne6] at x2
  have R5 := R4.same (i' := i) (cn' := upd (upd cn 6 (cn 6 + nI T)) (if T = N then 1 else 5) (cn (if T = N then 1 else 5) + 1)) (by rw [pk_un hne0, pk_un (show (0 : Nat) ≠ 6 by omega)]; exact hc0)
  exact ⟨_, _, _, fm', x1, R4.1.ob, x2, m1, RI_of m2 R5⟩
section EPs
variable {i qx : Nat} {fx : hPl} {qm : Nat} {fm : hPl} {B C φ ψ : Nat → Nat} {L : Nat → Option Nat} {K : Option Nat} {mn : Nat → Nat} {la sa ma ia cn : Nat → Int32} {mem car kp kr hr : Nat → Int64} {pr : Nat → Option Nat}
theorem RB.ep (R : RB i qx fx qm fm B C φ ψ L K mn la sa ma ia cn mem car kp kr hr pr) {P : Nat} (hP : P < 8) : ∃ s m, fX4_sortOn fm qm (nI P) = some s ∧ fX4_manyOn fm qm (nI P) = some m ∧ EP fx (pr P) s m ∧ ∀ a b n row, pr P = some a → TT fx a s b n row → ∃ k, US L K k ∧ k < 10 ∧ la P = nI k ∧ a = φ k ∧ b = ψ k ∧ n = mn k ∧ s = sa k ∧ 2 ≤ (sa k).toInt ∧ (sa k).toInt ≤ 10 ∧ (∀ j, j < mn k → row j = mem (40 * k + j)) ∧ (6 ≤ (sa k).toInt → ∀ j, j < mn k → GD (mem (40 * k + j))) ∧ ma k = nI (mn k) := by
  have hM := R.1
  rcases R.pl hP with ⟨h1, h2, h3⟩ | ⟨k, h1, hu, hk, h2, h3, h4, h5⟩
  · exact ⟨0, 0, hM.sortOn0 hP h2, hM.manyOn0 hP h2, Or.inl ⟨h3, rfl⟩, fun a b n row h => by rw [h3] at h; cases h⟩
  refine ⟨sa k, ma k, hM.sortOn hP hk h2, hM.manyOn hP hk h2, ?_, ?_⟩
  · rcases h5 with ⟨h5, h6, h7⟩ | ⟨t1, t2, t3, t4, t5, ⟨row, t6, t7⟩, t8⟩
    · exact Or.inr (Or.inl ⟨φ k, ia k, h3, h5, h7⟩)
    · exact Or.inr (Or.inr ⟨φ k, ψ k, mn k, row, h3, t1, t2, t3, h4, t6⟩)
  · intro a b n row h hT
    rw [h3] at h
    cases h
    rcases h5 with ⟨h5, h6, h7⟩ | ⟨t1, t2, t3, t4, t5, ⟨row', t6, t7⟩, t8⟩
    · have h9 := hT.1
      rw [show fx (φ k) = _ from h7] at h9
      cases h9
    · have h9 := hT.1
      rw [t6.1] at h9
      have h10' := Option.some.inj h9
      have e1 : b = ψ k := by
        have := Sum.inr.inj h10'
        simp at this
        exact this.symm
      subst e1
      have h11 := hT.2
      rw [t6.2] at h11
      have h12 := Option.some.inj h11
      have e2 : mn k = n ∧ row' = row := by
        have := Sum.inl.inj h12
        simp at this
        exact this
      obtain ⟨e3, e4⟩ := e2
      subst e4
      exact ⟨k, hu, hk, h2, rfl, rfl, e3.symm, rfl, t1, t2, t7, t8, h4⟩
end EPs
theorem tl_nI {r : Nat} (h : r = 1 ∨ r = 2 ∨ r = 3) : tl (nI r) = 1 + r := by
  rcases h with rfl | rfl | rfl <;> decide
/-- both refuse alike -/
theorem both_refuse {i qx qm z : Nat} {f fm : hPl} {B C φ ψ : Nat → Nat} {L : Nat → Option Nat} {K : Option Nat} {mn : Nat → Nat} {la sa ma ia cn : Nat → Int32} {mem car kp kr hr : Nat → Int64} {pr : Nat → Option Nat} (hM : MX qm fm B la sa ma ia cn mem car kp (hsh K)) (R : RC i qx f C φ ψ L K mn la sa ma ia cn mem kp kr hr pr) {r : Nat} (hr : r = 1 ∨ r = 2 ∨ r = 3) :
    ∃ f2 fm', fX3_tally f z qx (nI r) = some ((), f2, z) ∧ hlI fm (B 8) (1 + nI r) = some (cn (1 + r)) ∧ hsI fm (B 8) (1 + nI r) (cn (1 + r) + 1) = some fm' ∧ RI i qx f2 qm fm' := by
  have x2 := x_tally (z := z) R.1 (nI r)
  rw [tl_nI hr] at x2
  have e : (1 : Int32) + nI r = nI (1 + r) := by rw [nI_one, nI_add]
  obtain ⟨fm', m1, m2⟩ := hM.s8 (show 1 + r < 7 by omega) (cn (1 + r) + 1)
  have hl := hM.l8 (show 1 + r < 7 by omega)
  have R5 := R.same (i' := i) (cn' := upd cn (1 + r) (cn (1 + r) + 1)) (by rw [pk_un (show (0 : Nat) ≠ 1 + r by omega)]; exact R.2.2.2.2.2)
  exact ⟨_, fm', x2, by rw [e]; exact hl, by rw [e]; exact m1, RI_of m2 R5⟩
theorem R_sweep : hS5 RI fX3_sweep fX4_sweep := by
  intro i0 z qx fx qm fm p i q j n hi hb h
  have h := R_mono _ _ _ _ _ h
  obtain ⟨B, C, φ, ψ, L, K, mn, la, sa, ma, ia, cn, mem, car, kp, kr, hr, pr, R⟩ := h
  have hM := R.1
  have hC := R.2.1
  have hRC : RC (i0 + 1) qx fx C φ ψ L K mn la sa ma ia cn mem kp kr hr pr := R.2
  have hI : RI (i0 + 1) qx fx qm fm := ⟨B, C, φ, ψ, L, K, mn, la, sa, ma, ia, cn, mem, car, kp, kr, hr, pr, R⟩
  rcases hplace p with h1 | ⟨P, hP, rfl⟩
  · exact ⟨-1, fx, z, fm, z, by simp [fX3_sweep, (fx_place_no (f := fx) h1).1], by simp [fX4_sweep, (fx_place_no (f := fm) h1).2], hI⟩
  have hpx := (fx_place_yes (f := fx) hP).1
  have hpm := (fx_place_yes (f := fm) hP).2
  rcases hplace q with h1 | ⟨Q, hQ, rfl⟩
  · exact ⟨-1, fx, z, fm, z, by simp [fX3_sweep, hpx, (fx_place_no (f := fx) h1).1], by simp [fX4_sweep, hpm, (fx_place_no (f := fm) h1).2], hI⟩
  have hqx := (fx_place_yes (f := fx) hQ).1
  have hqm := (fx_place_yes (f := fm) hQ).2
  obtain ⟨s1, m1, a1, a2, E1, F1⟩ := R.ep hP
  obtain ⟨s2, m2, b1, b2, E2, F2⟩ := R.ep hQ
  rcases sw_ref (qx := qx) (z := z) E1 E2 i j n 1 with ⟨r, hr3, c1, c2⟩ | ⟨x1, y1, n1, row1, x2, y2, n2, row2, I, J, N, o1, o2, T1, T2, h1, h2, rfl, rfl, rfl, hI2, hJ2, hlike, c2, c1⟩
  · obtain ⟨f2, fm', d1, d2, d3, d4⟩ := both_refuse (z := z) hM hRC hr3
    have hpos : ¬ nI r ≤ 0 := nI_nle (by omega) (by omega)
    exact ⟨nI r, f2, z, fm', z, by simp [fX3_sweep, hpx, hqx, hC.q0, hC.lp hP, hC.lp hQ, hC.ob, fX3_sweepThings, c1, d1], by simp [fX4_sweep, hpm, hqm, hM.ob, a1, a2, b1, b2, c2, hpos, hM.q8, d2, d3], d4⟩
  · obtain ⟨k1, u1, l1, e1, rfl, rfl, rfl, rfl, g1, g2, g3, g4, g5⟩ := F1 _ _ _ _ o1 T1
    obtain ⟨k2, u2, l2, e2, rfl, rfl, rfl, rfl, w1, w2, w3, w4, w5⟩ := F2 _ _ _ _ o2 T2
    -- what is kept
    have hkr : ∀ t, t < mn k2 → va_cpy row2 kr 0 0 (mn k2) t = va_cpy (fun t => mem (40 * k2 + t)) kp 0 0 (mn k2) t := by
      intro t ht
      rw [pk_cpy_in (by omega) (by omega), pk_cpy_in (by omega) (by omega)]
      show row2 (0 + (t - 0)) = mem (40 * k2 + (0 + (t - 0)))
      rw [show 0 + (t - 0) = t by omega]
      exact w3 t ht
    have hkg : 6 ≤ (sa k2).toInt → ∀ t, t < mn k2 → GD (va_cpy (fun t => mem (40 * k2 + t)) kp 0 0 (mn k2) t) := by
      intro hs t ht
      rw [pk_cpy_in (by omega) (by omega)]
      show GD (mem (40 * k2 + (0 + (t - 0))))
      rw [show 0 + (t - 0) = t by omega]
      exact w4 hs t ht
    have hus0 : US L none k2 := by
      refine Or.inl ⟨Q, hQ, ?_⟩
      have := (R.2.2.1 Q hQ).2
      rw [o2] at this
      cases hL : L Q with
      | none => rw [hL] at this; cases this
      | some k3 =>
        have hu3 : US L K k3 := Or.inl ⟨Q, hQ, hL⟩
        rw [hL] at this
        have h9 : φ k2 = φ k3 := Option.some.inj this
        by_cases hkk : k2 = k3
        · rw [hkk]
        · exact absurd h9 (hRC.2.2.2.1 k2 k3 u2 hu3 hkk).1
    have hc0 := hRC.2.2.2.2.2
    have R0 := hRC.bench (i' := i0 + 1) (K' := none) (cn' := cn) (kp' := kp) (fun k hk => by cases hk) hc0
    have R1 := (R0.krow (va_cpy row2 kr 0 0 (mn k2))).resolve_right (fun ⟨k, hk⟩ => by cases hk)
    have R2 := R1.bench (i' := i0 + 1) (K' := some k2) (cn' := cn) (kp' := va_cpy (fun t => mem (40 * k2 + t)) kp 0 0 (mn k2)) (fun k hk => by cases hk; exact ⟨hus0, w1, hkr, hkg⟩) hc0
    have hq2 : qx ≠ C 2 := hne hC.1 hC.2.2.2.1 (fun e => by cases e)
    rw [hup_comm (f := fx) hq2, hup_hup] at R2
    generalize hfk : hup (hup fx (C 2) (aJ 40 (va_cpy row2 kr 0 0 (mn k2)))) qx (oC 2 [.ref (C 0), .ref (C 1), .ref (C 2), va_rf (Option.map φ (some k2)), .int (cn 0), .int (cn 1), .int (cn 2), .int (cn 3), .int (cn 4), .int (cn 5), .int (cn 6)]) = fk at R2
    -- the trays stay
    have hTk : ∀ (k : Nat) (row : Nat → Int64), US L K k → 2 ≤ (sa k).toInt → TT fx (φ k) (sa k) (ψ k) (mn k) row → TT fk (φ k) (sa k) (ψ k) (mn k) row := by
      intro k row hu hs hT
      have hψ : ψ k ≠ C 2 := by
        rcases (hRC.2.2.1 k hu).2.2.2 with ⟨c, -, -⟩ | c
        · rw [c] at hs; exact absurd hs (by decide)
        · exact c.2.2.2.1
      rw [← hfk]
      exact hT.kept (by rw [hup_n (hne hT.1 hC.1 (oC_ne (by omega))), hup_n (hne hT.1 hC.2.2.2.1 (fun e => by cases e))]) (by rw [hup_n (hne hT.2 hC.1 (fun e => by cases e)), hup_n hψ])
    have T1k := hTk k1 row1 u1 g1 T1
    have T2k := hTk k2 row2 u2 w1 T2
    -- keep()
    have hcopy := x_copyTo (z := z) T2 hC.2.2.2.1 h2 (by omega)
    have hq3 : hput (hup fx (C 2) (aJ 40 (va_cpy row2 kr 0 0 (mn k2)))) qx 2 3 (.ref (φ k2)) = some fk := by
      have hcx : hup fx (C 2) (aJ 40 (va_cpy row2 kr 0 0 (mn k2))) qx = some (oC 2 [.ref (C 0), .ref (C 1), .ref (C 2), va_rf (K.map φ), .int (cn 0), .int (cn 1), .int (cn 2), .int (cn 3), .int (cn 4), .int (cn 5), .int (cn 6)]) := by rw [hup_n hq2]; exact hC.1
      rw [← hfk]
      exact g_put hcx (by simp)
    have hkeep : fX3_keep fx z qx (some (φ k2)) = some ((), fk, z) := by simp [fX3_keep, hC.q2, T2.ob, hcopy, hq3]
    -- the reference
    have hM0 : MX qm fm B la sa ma ia cn mem (va_cpy (fun t => mem (40 * k1 + I + t)) car 0 0 0) kp (hsh K) := by rw [cpy_0]; exact hM
    obtain ⟨fm1, p1, p2⟩ := m_take (z := z) (J := J) hP hQ l1 e1 e2 (show I + N ≤ 40 by omega) N 0 64 fm (by omega) (by omega) hM0
    have hM1 : MX qm fm1 B la sa ma ia cn mem (va_cpy (fun t => mem (40 * k1 + I + t)) car 0 0 N) (va_cpy (fun t => mem (40 * k2 + t)) kp 0 0 0) (nI k2) := by rw [cpy_0 (m := kp)]; exact p2
    obtain ⟨fm2, p3, p4⟩ := m_keep (z := z) (p := nI Q) (j := nI J) (n := nI N) l2 w5 h2 (mn k2) 0 64 fm1 (by omega) (by omega) hM1
    rw [nI_0] at p1 p3
    have hv : ∀ t, t < N → row1 (I + t) = mem (40 * k1 + I + t) := fun t ht => by rw [g3 (I + t) (by omega), Nat.add_assoc]
    obtain ⟨ans, f1, f2, fm3, d1, d2, d3, d4, d5⟩ := both_carry (z := z) (K := some k2) p4 R2 hQ l2 (Or.inr rfl) e2 w1 w2 h2 T2k w3 w4 T1k h1 hI2 hJ2 (fun t ht => by
      rw [pk_cpy_in (by omega) (by omega), hv t ht]
      show mem (40 * k1 + I + (0 + (t - 0))) = _
      rw [show 0 + (t - 0) = t by omega]) (fun hs t ht => by rw [g3 (I + t) (by omega)]; exact g4 (hlike hs) (I + t) (by omega))
    rw [if_neg (by decide), hC.ob, Option.bind_some, hkeep, Option.bind_some, d1] at c1
    exact ⟨ans, f2, z, fm3, z, by simp [fX3_sweep, hpx, hqx, hC.q0, hC.lp hP, hC.lp hQ, hC.ob, fX3_sweepThings, c1, d2, d3], by simp [fX4_sweep, hpm, hqm, hM.ob, a1, a2, b1, b2, c2, p1, p3, d4], d5⟩
