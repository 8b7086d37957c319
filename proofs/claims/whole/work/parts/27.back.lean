theorem hup_comm {f : hPl} {a b : Nat} {x y : hCe} (h : a ≠ b) : hup (hup f a x) b y = hup (hup f b y) a x := by
  funext q
  unfold hup
  by_cases h1 : q = b
  · subst h1; simp [Ne.symm h]
  · by_cases h2 : q = a
    · subst h2; simp [h]
    · simp [h1, h2]
theorem hup_hup {f : hPl} {a : Nat} {x y : hCe} : hup (hup f a x) a y = hup f a y := by
  funext q
  unfold hup
  by_cases h1 : q = a <;> simp [h1]
theorem cpy_0 {v m : Nat → Int64} {s b : Nat} : va_cpy v m s b 0 = m := by
  funext q
  unfold va_cpy
  rw [if_neg (by omega)]
theorem cpy_step {v m : Nat → Int64} {b t : Nat} : vp_updL (va_cpy v m 0 b t) (b + t) (v t) = va_cpy v m 0 b (t + 1) := by
  funext q
  unfold vp_updL
  by_cases h : q = b + t
  · subst h
    rw [if_pos rfl, pk_cpy_in (by omega) (by omega)]
    congr 1
    omega
  · rw [if_neg h]
    by_cases h1 : b ≤ q ∧ q < b + t
    · rw [pk_cpy_in h1.1 h1.2, pk_cpy_in h1.1 (by omega)]
    · rw [pk_cpy_out (by omega), pk_cpy_out (by omega)]
theorem x_copyFrom {f : hPl} {z a b n c m : Nat} {s : Int32} {row kr : Nat → Int64} (hT : TT f a s b n row) (hc : f c = some (aJ m kr)) (hn : n ≤ m) (hm : m < 2 ^ 31) : fX2_copyFrom f z a (some c) = some ((), hup f b (aJ n (va_cpy kr row 0 0 n)), z) := by
  have h1 : ¬ nI m < nI n := nI_nlt hn hm
  have h2 := g_cp (sp := 0) (dp := 0) (n := n) hc hT.2 (by omega) (by omega) hm (by omega)
  rw [nI_0] at h2
  simp [fX2_copyFrom, hT.q, hT.ln, g_ln hc, h1, h2]
theorem x_copyTo {f : hPl} {z a b n c m : Nat} {s : Int32} {row kr : Nat → Int64} (hT : TT f a s b n row) (hc : f c = some (aJ m kr)) (hn : n ≤ m) (hm : m < 2 ^ 31) : fX2_copyTo f z a (some c) = some ((), hup f c (aJ m (va_cpy row kr 0 0 n)), z) := by
  have h1 : ¬ nI m < nI n := nI_nlt hn hm
  have h2 := g_cp (sp := 0) (dp := 0) (n := n) hT.2 hc (by omega) (by omega) (by omega) hm
  rw [nI_0] at h2
  simp [fX2_copyTo, hT.q, hT.ln, g_ln hc, h1, h2]
theorem m_back {qm z : Nat} {B : Nat → Nat} {la sa ma ia cn : Nat → Int32} {mem car kp : Nat → Int64} {k n : Nat} (hk : k < 10) (hn : n ≤ 40) : ∀ (d i fuel : Nat) (fm : hPl), i + d = n → d < fuel → MX qm fm B la sa ma ia cn (va_cpy kp mem 0 (40 * k) i) car kp (nI k) → ∃ fm', fX4_back_j22 fuel fm z qm (nI n) (nI i) = some (nI n, fm', z) ∧ MX qm fm' B la sa ma ia cn (va_cpy kp mem 0 (40 * k) n) car kp (-1) := by
  intro d
  induction d with
  | zero =>
    intro i fuel fm hi hf hM
    obtain ⟨m, rfl⟩ : ∃ m, fuel = m + 1 := ⟨fuel - 1, by omega⟩
    have hin : i = n := by omega
    subst hin
    obtain ⟨fm', m1, m2⟩ := hM.s7 (-1)
    refine ⟨fm', ?_, m2⟩
    show fX4_back_j22s _ fm z qm _ _ = _
    simp [fX4_back_j22s, m1]
  | succ d ih =>
    intro i fuel fm hi hf hM
    obtain ⟨m, rfl⟩ : ∃ m, fuel = m + 1 := ⟨fuel - 1, by omega⟩
    have h1 : ¬ nI n ≤ nI i := nI_ge (by omega) (by omega)
    obtain ⟨fm1, m1, m2⟩ := hM.s4 (show 40 * k + i < 400 by omega) (kp i)
    rw [cpy_step] at m2
    obtain ⟨fm', g1, g2⟩ := ih (i + 1) m fm1 (by omega) (by omega) m2
    refine ⟨fm', ?_, g2⟩
    show fX4_back_j22s _ fm z qm _ _ = _
    simp [fX4_back_j22s, h1, hM.q4, hM.gk, hM.q6, hM.l6 (show i < 40 by omega), nI_40, m1, nI_1, g1]
theorem R_back : hS0 RI fX3_back fX4_back := by
  intro i z qx fx qm fm hi hb h
  obtain ⟨B, C, φ, ψ, L, K, mn, la, sa, ma, ia, cn, mem, car, kp, kr, hr, pr, R⟩ := h
  have hM := R.1
  have hC := R.2.1
  have hRC : RC i qx fx C φ ψ L K mn la sa ma ia cn mem kp kr hr pr := R.2
  have hI : RI (i + 1) qx fx qm fm := R_mono _ _ _ _ _ ⟨B, C, φ, ψ, L, K, mn, la, sa, ma, ia, cn, mem, car, kp, kr, hr, pr, R⟩
  cases K with
  | none => exact ⟨-1, fx, z, fm, z, by simp [fX3_back, hC.q3], by simp [fX4_back, hM.gk, hsh], hI⟩
  | some k =>
    have hu : US L (some k) k := Or.inr rfl
    obtain ⟨hk, e1, e2, e3⟩ := hRC.2.2.1 k hu
    obtain ⟨k1, k2, k3⟩ := hRC.2.2.2.2.1 k rfl
    have htr : TR fx C (φ k) (ψ k) (mn k) (sa k) (fun j => mem (40 * k + j)) := by
      rcases e3 with ⟨c1, -, -⟩ | c
      · rw [c1] at k1; exact absurd k1 (by decide)
      · exact c
    obtain ⟨t1, t2, t3, t4, t5, ⟨row, t6, t7⟩, t8⟩ := htr
    have hin : ∀ j, j < mn k → va_cpy kp mem 0 (40 * k) (mn k) (40 * k + j) = kp j := by
      intro j hj
      rw [pk_cpy_in (by omega) (by omega)]
      congr 1
      omega
    have hR1 := hRC.cells hu t6 (row' := va_cpy kr row 0 0 (mn k)) (mem' := va_cpy kp mem 0 (40 * k) (mn k)) (fun x hx => pk_cpy_out (by omega)) (fun j hj => by rw [hin j hj, pk_cpy_in (by omega) (by omega), ← k2 j hj]; congr 1; omega) (fun hs j hj => by rw [hin j hj]; exact k3 hs j hj)
    have hR2 := hR1.bench (i' := i + 1) (K' := none) (cn' := cn) (kp' := kp) (fun k hk => by cases hk) (by obtain ⟨t, g1, g2⟩ := hRC.2.2.2.2.2; exact ⟨t, by omega, g2⟩)
    have hput1 : hput fx qx 2 3 .null = some (hup fx qx (oC 2 [.ref (C 0), .ref (C 1), .ref (C 2), va_rf ((none : Option Nat).map φ), .int (cn 0), .int (cn 1), .int (cn 2), .int (cn 3), .int (cn 4), .int (cn 5), .int (cn 6)])) := g_put hC.1 (by simp)
    generalize hX : oC 2 [.ref (C 0), .ref (C 1), .ref (C 2), va_rf ((none : Option Nat).map φ), .int (cn 0), .int (cn 1), .int (cn 2), .int (cn 3), .int (cn 4), .int (cn 5), .int (cn 6)] = X at hput1 hR2
    have hC4 : CX qx (hup fx qx X) C pr none kr hr cn := by
      have := hC.bench none cn
      rw [← hX]
      exact this
    have hqψ : qx ≠ ψ k := hne hC.1 t6.2 (fun e => by cases e)
    have hT4 : TT (hup fx qx X) (φ k) (sa k) (ψ k) (mn k) row := t6.kept (hup_n (hne t6.1 hC.1 (oC_ne (by omega)))) (hup_n hqψ.symm)
    have hcp := x_copyFrom (z := z) hT4 hC4.2.2.2.1 t3 (by omega)
    have hT5 : TT (hup (hup fx qx X) (ψ k) (aJ (mn k) (va_cpy kr row 0 0 (mn k)))) (φ k) (sa k) (ψ k) (mn k) (va_cpy kr row 0 0 (mn k)) := ⟨by rw [hup_n (hne hT4.1 hT4.2 (fun e => by cases e))]; exact hT4.1, hup_s⟩
    rw [← hup_comm hqψ] at hR2
    have hM0 : MX qm fm B la sa ma ia cn (va_cpy kp mem 0 (40 * k) 0) car kp (nI k) := by rw [cpy_0]; exact hM
    obtain ⟨fm', m1, m2⟩ := m_back (z := z) hk t3 (mn k) 0 64 fm (by omega) (by omega) hM0
    rw [nI_0] at m1
    refine ⟨nI (mn k), _, z, fm', z, ?_, ?_, B, C, φ, ψ, L, none, mn, la, sa, ma, ia, cn, _, car, kp, kr, hr, pr, m2, hR2⟩
    · simp [fX3_back, hC.q3, hput1, hC4.q2, hT4.ob, hcp, hT5.ob, hT5.size]
    · have h9 := hsh_aux (show k < 2 ^ 31 by omega)
      simp [fX4_back, hM.gk, hsh, h9, hM.q2, hM.l2 hk, e1, m1]
