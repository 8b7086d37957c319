/-! THE RELATION of the two objects -/
def US (L : Nat → Option Nat) (K : Option Nat) (k : Nat) : Prop := (∃ p, p < 8 ∧ L p = some k) ∨ K = some k
def GD (v : Int64) : Prop := h10 v = 0 ∨ h10 v = 1 ∨ h10 v = 2 ∨ h10 v = 3 ∨ h10 v = 4
/-- a Tray on a shelf -/
def TR (fx : hPl) (C : Nat → Nat) (a b n : Nat) (s : Int32) (rw : Nat → Int64) : Prop :=
  2 ≤ s.toInt ∧ s.toInt ≤ 10 ∧ n ≤ 40 ∧ b ≠ C 2 ∧ b ≠ C 3 ∧ (∃ row, TT fx a s b n row ∧ ∀ i, i < n → row i = rw i) ∧ (6 ≤ s.toInt → ∀ i, i < n → GD (rw i))
def TH (fx : hPl) (C : Nat → Nat) (a b n : Nat) (s li mk : Int32) (rw : Nat → Int64) : Prop :=
  mk = nI n ∧ a ≠ C 1 ∧ ((s = 1 ∧ n = 0 ∧ TL fx a li) ∨ TR fx C a b n s rw)
def RB (i qx : Nat) (fx : hPl) (qm : Nat) (fm : hPl) (B C φ ψ : Nat → Nat) (L : Nat → Option Nat) (K : Option Nat) (mn : Nat → Nat) (la sa ma ia cn : Nat → Int32) (mem car kp kr hr : Nat → Int64) (pr : Nat → Option Nat) : Prop :=
  MX qm fm B la sa ma ia cn mem car kp (hsh K) ∧ CX qx fx C pr (K.map φ) kr hr cn ∧ (∀ p, p < 8 → la p = hsh (L p) ∧ pr p = (L p).map φ) ∧
  (∀ k, US L K k → k < 10 ∧ TH fx C (φ k) (ψ k) (mn k) (sa k) (ia k) (ma k) (fun j => mem (40 * k + j))) ∧
  (∀ k k', US L K k → US L K k' → k ≠ k' → φ k ≠ φ k' ∧ (2 ≤ (sa k).toInt → 2 ≤ (sa k').toInt → ψ k ≠ ψ k')) ∧
  (∀ k, K = some k → 2 ≤ (sa k).toInt ∧ (∀ j, j < mn k → kr j = kp j) ∧ (6 ≤ (sa k).toInt → ∀ j, j < mn k → GD (kp j))) ∧
  ∃ t, t ≤ i ∧ cn 0 = nI t
def RI : hInv := fun i qx fx qm fm => ∃ B C φ ψ L K mn la sa ma ia cn mem car kp kr hr pr, RB i qx fx qm fm B C φ ψ L K mn la sa ma ia cn mem car kp kr hr pr
theorem as_none {fx : hPl} : fX3_asTray fx none = some none := by simp [fX3_asTray, hii]
theorem as_lamp {fx : hPl} {a : Nat} {v : Int32} (h : TL fx a v) : fX3_asTray fx (some a) = some none := by simp [fX3_asTray, hii, h.kd]
theorem as_tray {fx : hPl} {a b n : Nat} {s : Int32} {row : Nat → Int64} (h : TT fx a s b n row) : fX3_asTray fx (some a) = some (some a) := by simp [fX3_asTray, hii, h.kd, h.ob]
section RBs
variable {i qx : Nat} {fx : hPl} {qm : Nat} {fm : hPl} {B C φ ψ : Nat → Nat} {L : Nat → Option Nat} {K : Option Nat} {mn : Nat → Nat} {la sa ma ia cn : Nat → Int32} {mem car kp kr hr : Nat → Int64} {pr : Nat → Option Nat}
theorem RB.pl (R : RB i qx fx qm fm B C φ ψ L K mn la sa ma ia cn mem car kp kr hr pr) {P : Nat} (hP : P < 8) : (L P = none ∧ la P = -1 ∧ pr P = none) ∨ ∃ k, L P = some k ∧ US L K k ∧ k < 10 ∧ la P = nI k ∧ pr P = some (φ k) ∧ ma k = nI (mn k) ∧ ((sa k = 1 ∧ mn k = 0 ∧ TL fx (φ k) (ia k)) ∨ TR fx C (φ k) (ψ k) (mn k) (sa k) (fun j => mem (40 * k + j))) := by
  obtain ⟨-, -, hl, hu, -⟩ := R
  obtain ⟨h1, h2⟩ := hl P hP
  cases hL : L P with
  | none => rw [hL] at h1 h2; exact Or.inl ⟨rfl, h1, h2⟩
  | some k =>
    rw [hL] at h1 h2
    have hk : US L K k := Or.inl ⟨P, hP, hL⟩
    obtain ⟨h3, h4, h5, h6⟩ := hu k hk
    exact Or.inr ⟨k, rfl, hk, h3, h1, h2, h4, h6⟩
theorem RB.trayOn (R : RB i qx fx qm fm B C φ ψ L K mn la sa ma ia cn mem car kp kr hr pr) {P : Nat} (hP : P < 8) : fX3_trayOn fx qx (nI P) = fX3_asTray fx (pr P) := by
  have hC := R.2.1
  simp [fX3_trayOn, (fx_place_yes (f := fx) hP).1, hC.q0, hC.lp hP]
theorem trayOn_no {p : Int32} (h : p < 0 ∨ 8 ≤ p) : fX3_trayOn fx qx p = some none := by
  simp [fX3_trayOn, (fx_place_no (f := fx) h).1]
end RBs
theorem R_mono : ∀ i qx fx qm fm, RI i qx fx qm fm → RI (i + 1) qx fx qm fm := by
  intro i qx fx qm fm h
  obtain ⟨B, C, φ, ψ, L, K, mn, la, sa, ma, ia, cn, mem, car, kp, kr, hr, pr, h1, h2, h3, h4, h5, h6, t, h7, h8⟩ := h
  exact ⟨B, C, φ, ψ, L, K, mn, la, sa, ma, ia, cn, mem, car, kp, kr, hr, pr, h1, h2, h3, h4, h5, h6, t, by omega, h8⟩
theorem R_ob : ∀ i qx fx qm fm, RI i qx fx qm fm → hob fx qx 2 = some () ∧ hob fm qm 3 = some () := by
  intro i qx fx qm fm h
  obtain ⟨B, C, φ, ψ, L, K, mn, la, sa, ma, ia, cn, mem, car, kp, kr, hr, pr, h1, h2, -⟩ := h
  exact ⟨h2.ob, h1.ob⟩
/-- seven numbers -/
theorem hseven (p : Int32) : p < 0 ∨ nI 7 ≤ p ∨ ∃ j, j < 7 ∧ p = nI j := pk_ix p (by omega)
theorem hneg {p : Int32} (h : p < 0) : p.toInt < 0 := by
  have := Int32.lt_iff_toInt_lt.mp h
  simpa using this
theorem R_count : hR1 RI fX3_count fX4_count := by
  intro i qx fx qm fm p h
  obtain ⟨B, C, φ, ψ, L, K, mn, la, sa, ma, ia, cn, mem, car, kp, kr, hr, pr, hM, hC, -⟩ := h
  rcases hseven p with h1 | h1 | ⟨j, hj, rfl⟩
  · have h2 := hneg h1
    exact ⟨-1, by simp [fX3_count, h2], by simp [fX4_count, h1]⟩
  · have h2 : 6 < p.toInt := by
      have := Int32.le_iff_toInt_le.mp h1
      rw [nI_toInt (by omega)] at this
      omega
    have h3 : ¬ p < 0 := fun h => by
      have := hneg h
      omega
    have h4 : ¬ p ≤ 6 := fun h => by
      have := Int32.le_iff_toInt_le.mp h
      have e : (6 : Int32).toInt = 6 := by decide
      omega
    exact ⟨-1, by simp [fX3_count, h2], by simp [fX4_count, h3, h4]⟩
  · refine ⟨cn j, ?_, ?_⟩
    · rcases (show j = 0 ∨ j = 1 ∨ j = 2 ∨ j = 3 ∨ j = 4 ∨ j = 5 ∨ j = 6 by omega) with rfl | rfl | rfl | rfl | rfl | rfl | rfl
      · show fX3_count fx qx 0 = _
        simp [fX3_count, hC.c4]
      · show fX3_count fx qx 1 = _
        simp [fX3_count, hC.c5]
      · show fX3_count fx qx 2 = _
        simp [fX3_count, hC.c6]
      · show fX3_count fx qx 3 = _
        simp [fX3_count, hC.c7]
      · show fX3_count fx qx 4 = _
        simp [fX3_count, hC.c8]
      · show fX3_count fx qx 5 = _
        simp [fX3_count, hC.c9]
      · show fX3_count fx qx 6 = _
        simp [fX3_count, hC.c10]
    · have h1 : ¬ nI j < 0 := nI_pos (by omega)
      have h2 : nI j ≤ 6 := by rw [show (6 : Int32) = nI 6 from by decide]; exact nI_le (by omega) (by omega)
      simp [fX4_count, h1, h2, hM.q8, hM.l8 hj]
theorem R_member : hR2 RI fX3_member fX4_member := by
  intro i qx fx qm fm p x h
  obtain ⟨B, C, φ, ψ, L, K, mn, la, sa, ma, ia, cn, mem, car, kp, kr, hr, pr, R⟩ := h
  have hM := R.1
  have hC := R.2.1
  rcases hplace p with h1 | ⟨P, hP, rfl⟩
  · exact ⟨-1, by simp [fX3_member, hC.ob, trayOn_no h1], by simp [fX4_member, (fx_place_no (f := fm) h1).2]⟩
  have hpl := (fx_place_yes (f := fm) hP).2
  rcases R.pl hP with ⟨h1, h2, h3⟩ | ⟨k, h1, hu, hk, h2, h3, h4, h5⟩
  · refine ⟨-1, by simp [fX3_member, hC.ob, R.trayOn hP, h3, as_none], ?_⟩
    by_cases hx : x < 0 <;> simp [fX4_member, hpl, hM.ob, hM.manyOn0 hP h2, hx]
  rcases h5 with ⟨h5, h6, h7⟩ | ⟨t1, t2, t3, t4, t5, ⟨row, t6, t7⟩, t8⟩
  · refine ⟨-1, by simp [fX3_member, hC.ob, R.trayOn hP, h3, as_lamp h7], ?_⟩
    have h8 : ma k = 0 := by rw [h4, h6]; rfl
    by_cases hx : x < 0 <;> simp [fX4_member, hpl, hM.ob, hM.manyOn hP hk h2, h8, hx]
  · by_cases hx : x < 0
    · exact ⟨-1, by simp [fX3_member, hC.ob, R.trayOn hP, h3, as_tray t6, t6.ob, t6.read_out t3 (Or.inl hx)], by simp [fX4_member, hpl, hx]⟩
    · obtain ⟨j, hj, rfl⟩ := nI_of hx
      by_cases hjn : j < mn k
      · have h9 : nI j < nI (mn k) := nI_lt hjn (by omega)
        refine ⟨mem (40 * k + j), by simp [fX3_member, hC.ob, R.trayOn hP, h3, as_tray t6, t6.ob, t6.read t3 hjn, t7 j hjn], ?_⟩
        simp [fX4_member, hpl, hx, hM.ob, hM.manyOn hP hk h2, h4, h9, hM.q4, hM.q0, hM.l0 hP, h2, nI_40, hM.l4 (show 40 * k + j < 400 by omega)]
      · have h9 : ¬ nI j < nI (mn k) := nI_nlt (by omega) hj
        exact ⟨-1, by simp [fX3_member, hC.ob, R.trayOn hP, h3, as_tray t6, t6.ob, t6.read_out t3 (Or.inr (nI_le (show mn k ≤ j by omega) hj))], by simp [fX4_member, hpl, hx, hM.ob, hM.manyOn hP hk h2, h4, h9]⟩
