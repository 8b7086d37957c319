/-! which stones a Tray takes -/
def tkf (s t : Int32) : Int32 := if t = 0 then 1 else if s = 6 then 1 else if s = 7 then (if t = 2 then 1 else if t = 3 then 1 else 0) else if s = 8 then (if t = 3 then 1 else 0) else if s = 9 then (if t = 4 then 1 else 0) else (if t = 3 then 1 else if t = 4 then 1 else 0)
theorem some_if {c : Prop} {_ : Decidable c} {α : Type} {x y : α} : (if c then some x else some y) = some (if c then x else y) := by
  by_cases h : c
  · rw [if_pos h, if_pos h]
  · rw [if_neg h, if_neg h]
theorem m_takes {fm : hPl} {s : Int32} {v : Int64} : fX4_takes fm s v = some (tkf s (h10 v)) := by
  unfold fX4_takes tkf h10
  simp only [some_if]
theorem stone_cases {s : Int32} (h1 : 6 ≤ s.toInt) (h2 : s.toInt ≤ 10) : s = 6 ∨ s = 7 ∨ s = 8 ∨ s = 9 ∨ s = 10 := by
  have k : ∀ y : Int32, s.toInt = y.toInt → s = y := fun y h => Int32.toInt_inj.mp h
  rcases (show s.toInt = 6 ∨ s.toInt = 7 ∨ s.toInt = 8 ∨ s.toInt = 9 ∨ s.toInt = 10 by omega) with h | h | h | h | h
  · exact Or.inl (k 6 h)
  · exact Or.inr (Or.inl (k 7 h))
  · exact Or.inr (Or.inr (Or.inl (k 8 h)))
  · exact Or.inr (Or.inr (Or.inr (Or.inl (k 9 h))))
  · exact Or.inr (Or.inr (Or.inr (Or.inr (k 10 h))))
theorem x_takes {fx : hPl} {a b n : Nat} {s t : Int32} {row : Nat → Int64} (h : TT fx a s b n row) (h1 : 6 ≤ s.toInt) (h2 : s.toInt ≤ 10) : fX2_takesStone fx a t = some (tkf s t) := by
  have hg := h.gs
  rcases stone_cases h1 h2 with rfl | rfl | rfl | rfl | rfl
  · by_cases h0 : t = 0 <;> simp [fX2_takesStone, hg, tkf, h0]
  · by_cases h0 : t = 0 <;> by_cases h2 : t = 2 <;> by_cases h3 : t = 3 <;> simp [fX2_takesStone, hg, tkf, h0, h2, h3]
  · by_cases h0 : t = 0 <;> by_cases h3 : t = 3 <;> simp [fX2_takesStone, hg, tkf, h0, h3]
  · by_cases h0 : t = 0 <;> by_cases h3 : t = 4 <;> simp [fX2_takesStone, hg, tkf, h0, h3]
  · by_cases h0 : t = 0 <;> by_cases h3 : t = 3 <;> by_cases h4 : t = 4 <;> simp [fX2_takesStone, hg, tkf, h0, h3, h4, x_round]
theorem tkf_01 (s t : Int32) : tkf s t = 0 ∨ tkf s t = 1 := by
  unfold tkf
  repeat (first | exact Or.inl rfl | exact Or.inr rfl | split)
/-- how many of v's first N a Tray of the sort s takes -/
def TK (s : Int32) (v : Nat → Int64) (N T : Nat) : Prop := T ≤ N ∧ (6 ≤ s.toInt → ∀ q, q < T → tkf s (h10 (v q)) = 1) ∧ (T < N → 6 ≤ s.toInt ∧ tkf s (h10 (v T)) = 0)
theorem tk_ex (s : Int32) (v : Nat → Int64) (N : Nat) : ∃ T, TK s v N T := by
  by_cases hs : 6 ≤ s.toInt
  · by_cases h : ∃ q, q < N ∧ tkf s (h10 (v q)) = 0
    · obtain ⟨T, ⟨h1, h2⟩, h3⟩ := pk_least _ h
      refine ⟨T, by omega, fun _ q hq => ?_, fun _ => ⟨hs, h2⟩⟩
      rcases tkf_01 s (h10 (v q)) with h4 | h4
      · exact absurd ⟨by omega, h4⟩ (h3 q hq)
      · exact h4
    · refine ⟨N, Nat.le_refl _, fun _ q hq => ?_, fun h => absurd h (by omega)⟩
      rcases tkf_01 s (h10 (v q)) with h4 | h4
      · exact absurd ⟨q, hq, h4⟩ h
      · exact h4
  · exact ⟨N, Nat.le_refl _, fun h => absurd h hs, fun h => absurd h (by omega)⟩
section CA
variable {fx : hPl} {a1 b1 n1 a2 b2 n2 : Nat} {s1 s2 : Int32} {row1 row2 : Nat → Int64} {I J N T : Nat}
theorem x_many (T1 : TT fx a1 s1 b1 n1 row1) (T2 : TT fx a2 s2 b2 n2 row2) (h1 : n1 ≤ 40) (hs : 6 ≤ s2.toInt) (hs2 : s2.toInt ≤ 10) (hI : I + N ≤ n1) (hT : TK s2 (fun q => row1 (I + q)) N T) : ∀ (d q fuel : Nat), q + d = T → d < fuel → fX2_howManyTaken_j12 fuel fx a2 (some a1) (nI I) (nI N) (nI q) = some (nI T) := by
  obtain ⟨t1, t2, t3⟩ := hT
  intro d
  induction d with
  | zero =>
    intro q fuel hq hf
    obtain ⟨m, rfl⟩ : ∃ m, fuel = m + 1 := ⟨fuel - 1, by omega⟩
    have hqT : q = T := by omega
    subst hqT
    show fX2_howManyTaken_j12s _ fx a2 (some a1) _ _ _ = _
    by_cases h : q = N
    · subst h
      simp [fX2_howManyTaken_j12s]
    · have h3 : ¬ nI N ≤ nI q := nI_ge (by omega) (by omega)
      have h4 := T1.kind h1 (show I + q < n1 by omega)
      have h5 : tkf s2 (h10 (row1 (I + q))) = 0 := (t3 (by omega)).2
      simp [fX2_howManyTaken_j12s, h3, T1.ob, nI_add, h4, T2.ob, x_takes T2 hs hs2, h5]
  | succ d ih =>
    intro q fuel hq hf
    obtain ⟨m, rfl⟩ : ∃ m, fuel = m + 1 := ⟨fuel - 1, by omega⟩
    have h3 : ¬ nI N ≤ nI q := nI_ge (by omega) (by omega)
    have h4 := T1.kind h1 (show I + q < n1 by omega)
    have h5 : tkf s2 (h10 (row1 (I + q))) = 1 := t2 hs q (by omega)
    have h6 := ih (q + 1) m (by omega) (by omega)
    show fX2_howManyTaken_j12s _ fx a2 (some a1) _ _ _ = _
    simp [fX2_howManyTaken_j12s, h3, T1.ob, nI_add, h4, T2.ob, x_takes T2 hs hs2, h5, nI_1, h6]
theorem x_taken (T1 : TT fx a1 s1 b1 n1 row1) (T2 : TT fx a2 s2 b2 n2 row2) (h1 : n1 ≤ 40) (hs2 : 2 ≤ s2.toInt ∧ s2.toInt ≤ 10) (hI : I + N ≤ n1) (hT : TK s2 (fun q => row1 (I + q)) N T) : fX2_howManyTaken fx a2 (some a1) (nI I) (nI N) = some (nI T) := by
  rcases stones_iff (f := fx) hs2.1 hs2.2 with ⟨w1, w2, -⟩ | ⟨w1, w2, -⟩
  · have hTN : T = N := by
      rcases Nat.lt_or_ge T N with q | q
      · have := (hT.2.2 q).1; omega
      · have := hT.1; omega
    subst hTN
    simp [fX2_howManyTaken, T2.ob, T2.stones, w1]
  · have h := x_many T1 T2 h1 w2 hs2.2 hI hT T 0 64 (by omega) (by have := hT.1; omega)
    rw [nI_0] at h
    simp [fX2_howManyTaken, T2.ob, T2.stones, w1, h]
theorem x_copyRun {z : Nat} (T1 : TT fx a1 s1 b1 n1 row1) (T2 : TT fx a2 s2 b2 n2 row2) (h1 : n1 ≤ 40) (h2 : n2 ≤ 40) (hI : I + T ≤ n1) (hJ : J + T ≤ n2) : fX2_copyRun fx z a2 (some a1) (nI I) (nI J) (nI T) = some ((), hup fx b2 (aJ n2 (va_cpy row1 row2 I J T)), z) := by
  have r1 := T1.run h1 (i := I) (m := T) (by omega) (by omega)
  have r2 := T2.run h2 (i := J) (m := T) (by omega) (by omega)
  rw [if_pos hI] at r1
  rw [if_pos hJ] at r2
  have hc := g_cp T1.2 T2.2 hI hJ (by omega) (by omega)
  simp [fX2_copyRun, T1.ob, T2.ob, r1, r2, T1.q, T2.q, hc]
/-- the bench carries -/
theorem x_carry {qx z : Nat} {C : Nat → Nat} {pr : Nat → Option Nat} {kt : Option Nat} {kr hr : Nat → Int64} {cn : Nat → Int32} (hC : CX qx fx C pr kt kr hr cn) (T1 : TT fx a1 s1 b1 n1 row1) (T2 : TT fx a2 s2 b2 n2 row2) (h1 : n1 ≤ 40) (h2 : n2 ≤ 40) (hs2 : 2 ≤ s2.toInt ∧ s2.toInt ≤ 10) (hI : I + N ≤ n1) (hJ : J + N ≤ n2) (hT : TK s2 (fun q => row1 (I + q)) N T) :
    fX3_sweepOrRefuse_j80 fx z qx (nI I) (nI J) (nI N) (some a1) (some a2) = some (if T = N then 0 else 10 + nI T, hup (hup fx b2 (aJ n2 (va_cpy row1 row2 I J T))) qx (oC 2 [.ref (C 0), .ref (C 1), .ref (C 2), va_rf kt, .int (upd cn 6 (cn 6 + nI T) 0), .int (upd cn 6 (cn 6 + nI T) 1), .int (upd cn 6 (cn 6 + nI T) 2), .int (upd cn 6 (cn 6 + nI T) 3), .int (upd cn 6 (cn 6 + nI T) 4), .int (upd cn 6 (cn 6 + nI T) 5), .int (upd cn 6 (cn 6 + nI T) 6)]), z) := by
  have hTN := hT.1
  have e1 := x_taken T1 T2 h1 hs2 hI hT
  have e2 := x_copyRun (z := z) T1 T2 h1 h2 (show I + T ≤ n1 by omega) (show J + T ≤ n2 by omega)
  have hq : hup fx b2 (aJ n2 (va_cpy row1 row2 I J T)) qx = some (oC 2 [.ref (C 0), .ref (C 1), .ref (C 2), va_rf kt, .int (cn 0), .int (cn 1), .int (cn 2), .int (cn 3), .int (cn 4), .int (cn 5), .int (cn 6)]) := by
    rw [hup_n (hne hC.1 T2.2 (fun e => by cases e))]; exact hC.1
  have e3 : hgI (hup fx b2 (aJ n2 (va_cpy row1 row2 I J T))) qx 2 10 = some (cn 6) := g_I hq rfl
  have e4 : hput (hup fx b2 (aJ n2 (va_cpy row1 row2 I J T))) qx 2 10 (.int (cn 6 + nI T)) = some (hup (hup fx b2 (aJ n2 (va_cpy row1 row2 I J T))) qx (oC 2 [.ref (C 0), .ref (C 1), .ref (C 2), va_rf kt, .int (cn 0), .int (cn 1), .int (cn 2), .int (cn 3), .int (cn 4), .int (cn 5), .int (cn 6 + nI T)])) := g_put hq (by simp)
  have e5 : (nI T = nI N) ↔ T = N := nI_eq (by omega) (by omega)
  have u : ∀ j, j ≠ 6 → upd cn 6 (cn 6 + nI T) j = cn j := fun j hj => pk_un hj
  rw [u 0 (by omega), u 1 (by omega), u 2 (by omega), u 3 (by omega), u 4 (by omega), u 5 (by omega), pk_us]
  by_cases h : T = N
  · subst h
    simp [fX3_sweepOrRefuse_j80, T2.ob, e1, e2, e3, e4]
  · simp [fX3_sweepOrRefuse_j80, T2.ob, e1, e2, e3, e4, h, e5]
end CA
/-- which count an answer moves -/
def tl (r : Int32) : Nat := if r = 0 then 1 else if r = 1 then 2 else if r = 2 then 3 else if r = 3 then 4 else 5
theorem x_tally {fx : hPl} {qx z : Nat} {C : Nat → Nat} {pr : Nat → Option Nat} {kt : Option Nat} {kr hr : Nat → Int64} {cn : Nat → Int32} (hC : CX qx fx C pr kt kr hr cn) (r : Int32) : fX3_tally fx z qx r = some ((), hup fx qx (oC 2 [.ref (C 0), .ref (C 1), .ref (C 2), va_rf kt, .int (upd cn (tl r) (cn (tl r) + 1) 0), .int (upd cn (tl r) (cn (tl r) + 1) 1), .int (upd cn (tl r) (cn (tl r) + 1) 2), .int (upd cn (tl r) (cn (tl r) + 1) 3), .int (upd cn (tl r) (cn (tl r) + 1) 4), .int (upd cn (tl r) (cn (tl r) + 1) 5), .int (upd cn (tl r) (cn (tl r) + 1) 6)]), z) := by
  have e5 : hput fx qx 2 5 (.int (cn 1 + 1)) = some (hup fx qx (oC 2 [.ref (C 0), .ref (C 1), .ref (C 2), va_rf kt, .int (cn 0), .int (cn 1 + 1), .int (cn 2), .int (cn 3), .int (cn 4), .int (cn 5), .int (cn 6)])) := g_put hC.1 (by simp)
  have e6 : hput fx qx 2 6 (.int (cn 2 + 1)) = some (hup fx qx (oC 2 [.ref (C 0), .ref (C 1), .ref (C 2), va_rf kt, .int (cn 0), .int (cn 1), .int (cn 2 + 1), .int (cn 3), .int (cn 4), .int (cn 5), .int (cn 6)])) := g_put hC.1 (by simp)
  have e7 : hput fx qx 2 7 (.int (cn 3 + 1)) = some (hup fx qx (oC 2 [.ref (C 0), .ref (C 1), .ref (C 2), va_rf kt, .int (cn 0), .int (cn 1), .int (cn 2), .int (cn 3 + 1), .int (cn 4), .int (cn 5), .int (cn 6)])) := g_put hC.1 (by simp)
  have e8 : hput fx qx 2 8 (.int (cn 4 + 1)) = some (hup fx qx (oC 2 [.ref (C 0), .ref (C 1), .ref (C 2), va_rf kt, .int (cn 0), .int (cn 1), .int (cn 2), .int (cn 3), .int (cn 4 + 1), .int (cn 5), .int (cn 6)])) := g_put hC.1 (by simp)
  have e9 : hput fx qx 2 9 (.int (cn 5 + 1)) = some (hup fx qx (oC 2 [.ref (C 0), .ref (C 1), .ref (C 2), va_rf kt, .int (cn 0), .int (cn 1), .int (cn 2), .int (cn 3), .int (cn 4), .int (cn 5 + 1), .int (cn 6)])) := g_put hC.1 (by simp)
  by_cases h : r.toInt < 0 ∨ 3 < r.toInt
  · have q0 : ¬ r = 0 := fun e => by rw [e] at h; exact absurd h (by decide)
    have q1 : ¬ r = 1 := fun e => by rw [e] at h; exact absurd h (by decide)
    have q2 : ¬ r = 2 := fun e => by rw [e] at h; exact absurd h (by decide)
    have q3 : ¬ r = 3 := fun e => by rw [e] at h; exact absurd h (by decide)
    simp only [fX3_tally, if_pos h, hC.c9, Option.bind_some, e9, tl, if_neg q0, if_neg q1, if_neg q2, if_neg q3]
    rfl
  · have k : ∀ y : Int32, r.toInt = y.toInt → r = y := fun y h => Int32.toInt_inj.mp h
    rcases (show r.toInt = 0 ∨ r.toInt = 1 ∨ r.toInt = 2 ∨ r.toInt = 3 by omega) with g | g | g | g
    · cases (k 0 g)
      simp only [fX3_tally, if_neg h, hC.c5, Option.bind_some, e5, tl]
      rfl
    · cases (k 1 g)
      simp only [fX3_tally, if_neg h, hC.c6, Option.bind_some, e6, tl]
      rfl
    · cases (k 2 g)
      simp only [fX3_tally, if_neg h, hC.c7, Option.bind_some, e7, tl]
      rfl
    · cases (k 3 g)
      simp only [fX3_tally, if_neg h, hC.c8, Option.bind_some, e8, tl]
      rfl
