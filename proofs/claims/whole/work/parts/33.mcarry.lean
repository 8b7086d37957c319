theorem upd_self {f : Nat → Int32} {k : Nat} {v : Int32} (h : f k = v) : upd f k v = f := by
  funext q
  by_cases hq : q = k
  · subst hq; rw [pk_us, h]
  · rw [pk_un hq]
theorem upd_upd {f : Nat → Int32} {k : Nat} {v w : Int32} : upd (upd f k v) k w = upd f k w := by
  funext q
  by_cases hq : q = k
  · subst hq; rw [pk_us, pk_us]
  · rw [pk_un hq, pk_un hq, pk_un hq]
theorem add_step (x : Int32) (q : Nat) : x + nI q + 1 = x + nI (q + 1) := by
  rw [Int32.add_assoc, nI_1]
/-- the reference carries -/
theorem m_carryL {qm z : Nat} {B : Nat → Nat} {la sa ma ia cn : Nat → Int32} {mem car kp : Nat → Int64} {ke : Int32} {s : Int32} {N T b : Nat} (hs1 : 2 ≤ s.toInt) (hs2 : s.toInt ≤ 10) (hN : N ≤ 40) (hb : b + N ≤ 400) (hT : TK s car N T) : ∀ (d q fuel : Nat) (fm : hPl), q + d = T → d < fuel → MX qm fm B la sa ma ia (upd cn 6 (cn 6 + nI q)) (va_cpy car mem 0 b q) car kp ke → ∃ fm', fX4_carry_j23 fuel fm z qm (nI N) s (nI b) (nI q) = some (if T = N then 0 else 10 + nI T, fm', z) ∧ MX qm fm' B la sa ma ia (upd (upd cn 6 (cn 6 + nI T)) (if T = N then 1 else 5) (cn (if T = N then 1 else 5) + 1)) (va_cpy car mem 0 b T) car kp ke := by
  obtain ⟨t1, t2, t3⟩ := hT
  have n1 : (1 : Int32) = nI 1 := by decide
  have n5 : (5 : Int32) = nI 5 := by decide
  have n6 : (6 : Int32) = nI 6 := by decide
  intro d
  induction d with
  | zero =>
    intro q fuel fm hq hf hM
    obtain ⟨m, rfl⟩ : ∃ m, fuel = m + 1 := ⟨fuel - 1, by omega⟩
    have hqT : q = T := by omega
    subst hqT
    by_cases h : q = N
    · subst h
      obtain ⟨fm', m1, m2⟩ := hM.s8 (show 1 < 7 by omega) (upd cn 6 (cn 6 + nI q) 1 + 1)
      have hl := hM.l8 (show 1 < 7 by omega)
      refine ⟨fm', ?_, ?_⟩
      · show fX4_carry_j23s _ fm z qm _ _ _ _ = _
        rw [← n1] at m1 hl
        simp [fX4_carry_j23s, hM.q8, hl, m1]
      · rw [if_pos rfl]
        rw [pk_un (show (1 : Nat) ≠ 6 by omega)] at m2
        exact m2
    · have h3 : ¬ nI N ≤ nI q := nI_ge (by omega) (by omega)
      obtain ⟨w1, w2⟩ := t3 (by omega)
      have hst : fX4_isOfStones fm s = some 1 := by
        rcases stones_iff (f := fm) hs1 hs2 with ⟨_, x, _⟩ | ⟨_, _, x⟩
        · omega
        · exact x
      obtain ⟨fm', m1, m2⟩ := hM.s8 (show 5 < 7 by omega) (upd cn 6 (cn 6 + nI q) 5 + 1)
      have hl := hM.l8 (show 5 < 7 by omega)
      have hc := hM.l5 (show q < 40 by omega)
      refine ⟨fm', ?_, ?_⟩
      · show fX4_carry_j23s _ fm z qm _ _ _ _ = _
        rw [← n5] at m1 hl
        simp [fX4_carry_j23s, h3, hst, hM.q5, hc, m_takes, w2, hM.q8, hl, m1, h]
      · rw [if_neg h]
        rw [pk_un (show (5 : Nat) ≠ 6 by omega)] at m2
        exact m2
  | succ d ih =>
    intro q fuel fm hq hf hM
    obtain ⟨m, rfl⟩ : ∃ m, fuel = m + 1 := ⟨fuel - 1, by omega⟩
    have h3 : ¬ nI N ≤ nI q := nI_ge (by omega) (by omega)
    have hc := hM.l5 (show q < 40 by omega)
    obtain ⟨f1, a1, a2⟩ := hM.s4 (show b + q < 400 by omega) (car q)
    rw [cpy_step] at a2
    have hl := a2.l8 (show 6 < 7 by omega)
    obtain ⟨f2, c1, c2⟩ := a2.s8 (show 6 < 7 by omega) (upd cn 6 (cn 6 + nI q) 6 + 1)
    rw [upd_upd, pk_us, add_step] at c2
    obtain ⟨fm', g1, g2⟩ := ih (q + 1) m f2 (by omega) (by omega) c2
    refine ⟨fm', ?_, g2⟩
    have step : fX4_carry_j68 (fX4_carry_j23 m) fm z qm (nI N) s (nI b) (nI q) = some (if T = N then 0 else 10 + nI T, fm', z) := by
      rw [← n6] at hl c1
      rw [pk_us] at hl
      rw [pk_us] at c1
      simp [fX4_carry_j68, hM.q4, hM.q5, hc, nI_add, a1, a2.q8, hl, c1, nI_1, g1]
    show fX4_carry_j23s _ fm z qm _ _ _ _ = _
    rcases stones_iff (f := fm) hs1 hs2 with ⟨_, x, y⟩ | ⟨_, x, y⟩
    · simp only [fX4_carry_j23s, if_neg h3, y, Option.bind_some]
      rw [if_pos trivial]
      exact step
    · have h5 : tkf s (h10 (car q)) = 1 := t2 x q (by omega)
      simp only [fX4_carry_j23s, if_neg h3, y, Option.bind_some, hM.q5, hc, m_takes, h5]
      rw [if_neg (by decide), if_neg (by decide)]
      exact step
theorem m_carry {qm z : Nat} {fm : hPl} {B : Nat → Nat} {la sa ma ia cn : Nat → Int32} {mem car kp : Nat → Int64} {ke : Int32} (hM : MX qm fm B la sa ma ia cn mem car kp ke) {P k J N T : Nat} (hP : P < 8) (hk : k < 10) (hl : la P = nI k) (hs1 : 2 ≤ (sa k).toInt) (hs2 : (sa k).toInt ≤ 10) (hJ : J + N ≤ 40) (hT : TK (sa k) car N T) : ∃ fm', fX4_carry fm z qm (nI P) (nI J) (nI N) = some (if T = N then 0 else 10 + nI T, fm', z) ∧ MX qm fm' B la sa ma ia (upd (upd cn 6 (cn 6 + nI T)) (if T = N then 1 else 5) (cn (if T = N then 1 else 5) + 1)) (va_cpy car mem 0 (40 * k + J) T) car kp ke := by
  have hM0 : MX qm fm B la sa ma ia (upd cn 6 (cn 6 + nI 0)) (va_cpy car mem 0 (40 * k + J) 0) car kp ke := by
    rw [cpy_0, nI_0, Int32.add_zero, upd_self rfl]; exact hM
  obtain ⟨fm', m1, m2⟩ := m_carryL (z := z) hs1 hs2 (by omega) (show 40 * k + J + N ≤ 400 by omega) hT T 0 64 fm (by omega) (by have := hT.1; omega) hM0
  rw [nI_0] at m1
  refine ⟨fm', ?_, m2⟩
  simp [fX4_carry, hM.ob, hM.sortOn hP hk hl, hM.q0, hM.l0 hP, hl, nI_40, m1]
/-- the reference copies what is to be carried -/
theorem m_take {qm z : Nat} {B : Nat → Nat} {la sa ma ia cn : Nat → Int32} {mem car kp : Nat → Int64} {ke : Int32} {P Q k k2 I J N : Nat} (hP : P < 8) (hQ : Q < 8) (hk : k < 10) (hl : la P = nI k) (hl2 : la Q = nI k2) (hN : I + N ≤ 40) : ∀ (d q fuel : Nat) (fm : hPl), q + d = N → d < fuel → MX qm fm B la sa ma ia cn mem (va_cpy (fun t => mem (40 * k + I + t)) car 0 0 q) kp ke → ∃ fm', fX4_sweep_j70 fuel fm z qm (nI P) (nI I) (nI Q) (nI J) (nI N) (nI q) = fX4_sweep_j122 64 fm' z qm (nI Q) (nI J) (nI N) 0 ∧ MX qm fm' B la sa ma ia cn mem (va_cpy (fun t => mem (40 * k + I + t)) car 0 0 N) kp (nI k2) := by
  intro d
  induction d with
  | zero =>
    intro q fuel fm hq hf hM
    obtain ⟨m, rfl⟩ : ∃ m, fuel = m + 1 := ⟨fuel - 1, by omega⟩
    have hqN : q = N := by omega
    subst hqN
    obtain ⟨fm', m1, m2⟩ := hM.s7 (nI k2)
    refine ⟨fm', ?_, m2⟩
    show fX4_sweep_j70s _ fm z qm _ _ _ _ _ _ = _
    simp [fX4_sweep_j70s, hM.q0, hM.l0 hQ, hl2, m1]
  | succ d ih =>
    intro q fuel fm hq hf hM
    obtain ⟨m, rfl⟩ : ∃ m, fuel = m + 1 := ⟨fuel - 1, by omega⟩
    have h3 : ¬ nI N ≤ nI q := nI_ge (by omega) (by omega)
    obtain ⟨f1, a1, a2⟩ := hM.s5 (show 0 + q < 40 by omega) ((fun t => mem (40 * k + I + t)) q)
    rw [cpy_step] at a2
    obtain ⟨fm', g1, g2⟩ := ih (q + 1) m f1 (by omega) (by omega) a2
    refine ⟨fm', ?_, g2⟩
    rw [Nat.zero_add] at a1
    show fX4_sweep_j70s _ fm z qm _ _ _ _ _ _ = _
    simp [fX4_sweep_j70s, h3, hM.q5, hM.q4, hM.q0, hM.l0 hP, hl, nI_40, nI_add, hM.l4 (show 40 * k + I + q < 400 by omega), a1, nI_1, g1]
/-- the reference keeps -/
theorem m_keep {qm z : Nat} {B : Nat → Nat} {la sa ma ia cn : Nat → Int32} {mem car kp : Nat → Int64} {p j n : Int32} {k M : Nat} (hk : k < 10) (hma : ma k = nI M) (hM40 : M ≤ 40) : ∀ (d q fuel : Nat) (fm : hPl), q + d = M → d < fuel → MX qm fm B la sa ma ia cn mem car (va_cpy (fun t => mem (40 * k + t)) kp 0 0 q) (nI k) → ∃ fm', fX4_sweep_j122 fuel fm z qm p j n (nI q) = fX4_carry fm' z qm p j n ∧ MX qm fm' B la sa ma ia cn mem car (va_cpy (fun t => mem (40 * k + t)) kp 0 0 M) (nI k) := by
  intro d
  induction d with
  | zero =>
    intro q fuel fm hq hf hM
    obtain ⟨m, rfl⟩ : ∃ m, fuel = m + 1 := ⟨fuel - 1, by omega⟩
    have hqN : q = M := by omega
    subst hqN
    refine ⟨fm, ?_, hM⟩
    show fX4_sweep_j122s _ fm z qm _ _ _ _ = _
    simp only [fX4_sweep_j122s, hM.q2, hM.gk, Option.bind_some, hM.l2 hk, hma, hM.ob]
    rw [if_pos (Int32.le_refl _)]
    cases fX4_carry fm z qm p j n <;> rfl
  | succ d ih =>
    intro q fuel fm hq hf hM
    obtain ⟨m, rfl⟩ : ∃ m, fuel = m + 1 := ⟨fuel - 1, by omega⟩
    have h3 : ¬ nI M ≤ nI q := nI_ge (by omega) (by omega)
    obtain ⟨f1, a1, a2⟩ := hM.s6 (show 0 + q < 40 by omega) ((fun t => mem (40 * k + t)) q)
    rw [cpy_step] at a2
    obtain ⟨fm', g1, g2⟩ := ih (q + 1) m f1 (by omega) (by omega) a2
    refine ⟨fm', ?_, g2⟩
    rw [Nat.zero_add] at a1
    show fX4_sweep_j122s _ fm z qm _ _ _ _ = _
    simp [fX4_sweep_j122s, hM.q2, hM.gk, hM.l2 hk, hma, h3, hM.q6, hM.q4, nI_40, hM.l4 (show 40 * k + q < 400 by omega), a1, nI_1, g1]
