/-! THE CLASS'S CELLS -/
def CX (qx : Nat) (fx : hPl) (C : Nat → Nat) (pr : Nat → Option Nat) (kt : Option Nat) (kr hr : Nat → Int64) (cn : Nat → Int32) : Prop :=
  fx qx = some (oC 2 [.ref (C 0), .ref (C 1), .ref (C 2), va_rf kt, .int (cn 0), .int (cn 1), .int (cn 2), .int (cn 3), .int (cn 4), .int (cn 5), .int (cn 6)]) ∧ fx (C 0) = some (aQ 8 pr) ∧ fx (C 1) = some (oC 1 [.int 6, .ref (C 3)]) ∧ fx (C 2) = some (aJ 40 kr) ∧ fx (C 3) = some (aJ 1 hr) ∧ C 2 ≠ C 3
def TL (fx : hPl) (a : Nat) (v : Int32) : Prop := fx a = some (oC 0 [.int 1, .int v])
def TT (fx : hPl) (a : Nat) (s : Int32) (b n : Nat) (row : Nat → Int64) : Prop := fx a = some (oC 1 [.int s, .ref b]) ∧ fx b = some (aJ n row)
section CXs
variable {qx : Nat} {fx : hPl} {C : Nat → Nat} {pr : Nat → Option Nat} {kt : Option Nat} {kr hr : Nat → Int64} {cn : Nat → Int32}
theorem CX.ob (h : CX qx fx C pr kt kr hr cn) : hob fx qx 2 = some () := g_ob h.1
theorem CX.q0 (h : CX qx fx C pr kt kr hr cn) : hgQ fx qx 2 0 = some (some (C 0)) := g_Q h.1 rfl
theorem CX.q1 (h : CX qx fx C pr kt kr hr cn) : hgQ fx qx 2 1 = some (some (C 1)) := g_Q h.1 rfl
theorem CX.q2 (h : CX qx fx C pr kt kr hr cn) : hgQ fx qx 2 2 = some (some (C 2)) := g_Q h.1 rfl
theorem CX.q3 (h : CX qx fx C pr kt kr hr cn) : hgQ fx qx 2 3 = some kt := g_Q h.1 rfl
theorem CX.lp (h : CX qx fx C pr kt kr hr cn) {P : Nat} (hP : P < 8) : hlQ fx (C 0) (nI P) = some (pr P) := g_lQ h.2.1 hP (by omega)
theorem CX.c4 (h : CX qx fx C pr kt kr hr cn) : hgI fx qx 2 4 = some (cn 0) := g_I h.1 rfl
theorem CX.c5 (h : CX qx fx C pr kt kr hr cn) : hgI fx qx 2 5 = some (cn 1) := g_I h.1 rfl
theorem CX.c6 (h : CX qx fx C pr kt kr hr cn) : hgI fx qx 2 6 = some (cn 2) := g_I h.1 rfl
theorem CX.c7 (h : CX qx fx C pr kt kr hr cn) : hgI fx qx 2 7 = some (cn 3) := g_I h.1 rfl
theorem CX.c8 (h : CX qx fx C pr kt kr hr cn) : hgI fx qx 2 8 = some (cn 4) := g_I h.1 rfl
theorem CX.c9 (h : CX qx fx C pr kt kr hr cn) : hgI fx qx 2 9 = some (cn 5) := g_I h.1 rfl
theorem CX.c10 (h : CX qx fx C pr kt kr hr cn) : hgI fx qx 2 10 = some (cn 6) := g_I h.1 rfl
end CXs
theorem nI_cast {a : Nat} (h : a < 2 ^ 31) : (nI a).toInt64 = lN a := nI_l h
theorem lgc {a b : Nat} (ha : a < 2 ^ 63) (hb : b < 2 ^ 63) : (0 < lg_cmp (lN a) (lN b)) ↔ b < a := by
  unfold lg_cmp
  by_cases h : b < a
  · have h1 : lN a > lN b := (pk_lLT hb ha).mpr h
    rw [if_pos h1]
    exact ⟨fun _ => h, fun _ => by decide⟩
  · have h1 : ¬ lN a > lN b := fun h1 => h ((pk_lLT hb ha).mp h1)
    rw [if_neg h1]
    by_cases h2 : lN a = lN b
    · rw [if_pos h2]
      exact ⟨fun h3 => absurd h3 (by decide), fun h3 => absurd h3 h⟩
    · rw [if_neg h2]
      exact ⟨fun h3 => absurd h3 (by decide), fun h3 => absurd h3 h⟩
section TTs
variable {fx : hPl} {a b n : Nat} {s : Int32} {row : Nat → Int64}
theorem TT.q (h : TT fx a s b n row) : hgQ fx a 1 1 = some (some b) := g_Q h.1 rfl
theorem TT.gs (h : TT fx a s b n row) : hgI fx a 1 0 = some s := g_I h.1 rfl
theorem TT.ob (h : TT fx a s b n row) : hob fx a 1 = some () := g_ob h.1
theorem TT.kd (h : TT fx a s b n row) : hkd fx a = some 1 := g_kd h.1
theorem TT.ln (h : TT fx a s b n row) : hln fx b = some (nI n) := g_ln h.2
theorem TT.sort (h : TT fx a s b n row) : hgT fx a = some s := by simp [hgT, h.kd, h.gs]
theorem TL.kd {v : Int32} (h : TL fx a v) : hkd fx a = some 0 := g_kd h
theorem TL.sort {v : Int32} (h : TL fx a v) : hgT fx a = some 1 := by
  have h1 : hgI fx a 0 0 = some 1 := g_I h rfl
  simp [hgT, h.kd, h1]
theorem TT.size (h : TT fx a s b n row) : fX2_size fx a = some (nI n) := by simp [fX2_size, h.q, h.ln]
theorem TT.stones (h : TT fx a s b n row) : fX2_isOfStones fx a = some (if s < 6 then 0 else 1) := by
  by_cases h1 : s < 6 <;> simp [fX2_isOfStones, h.gs, h1]
theorem TT.run (h : TT fx a s b n row) (hn : n ≤ 40) {i m : Nat} (hi : i < 2 ^ 31) (hm : m < 2 ^ 31) : fX2_hasRun fx a (nI i) (nI m) = some (if i + m ≤ n then 1 else 0) := by
  have h1 : (0 < lg_cmp ((nI i).toInt64 + (nI m).toInt64) ((nI n).toInt64)) ↔ n < i + m := by
    rw [nI_cast hi, nI_cast hm, nI_cast (show n < 2 ^ 31 by omega), lN_add]
    exact lgc (by omega) (by omega)
  by_cases h2 : i + m ≤ n
  · have h3 : ¬ (0 < lg_cmp ((nI i).toInt64 + (nI m).toInt64) ((nI n).toInt64)) := fun h3 => by have := h1.mp h3; omega
    simp [fX2_hasRun, nI_pos hi, nI_pos hm, h.q, h.ln, h3, h2]
  · have h3 : (0 < lg_cmp ((nI i).toInt64 + (nI m).toInt64) ((nI n).toInt64)) := h1.mpr (by omega)
    simp [fX2_hasRun, nI_pos hi, nI_pos hm, h.q, h.ln, h3, h2]
theorem run_neg1 {i m : Int32} (h : i < 0) : fX2_hasRun fx a i m = some 0 := by simp [fX2_hasRun, h]
theorem run_neg2 {i m : Int32} (h : m < 0) : fX2_hasRun fx a i m = some 0 := by
  by_cases h1 : i < 0 <;> simp [fX2_hasRun, h, h1]
theorem nI_one : (1 : Int32) = nI 1 := by decide
theorem TT.read (h : TT fx a s b n row) (hn : n ≤ 40) {i : Nat} (hi : i < n) : fX2_read fx a (nI i) = some (row i) := by
  have h1 := h.run hn (i := i) (m := 1) (by omega) (by omega)
  rw [if_pos (by omega), ← nI_one] at h1
  simp [fX2_read, h.ob, h1, h.q, g_lJ h.2 hi (by omega)]
theorem TT.read_out (h : TT fx a s b n row) (hn : n ≤ 40) {i : Int32} (hi : i < 0 ∨ nI n ≤ i) : fX2_read fx a i = some (-1) := by
  have h1 : fX2_hasRun fx a i 1 = some 0 := by
    by_cases h2 : i < 0
    · exact run_neg1 h2
    · rcases hi with hi | hi
      · exact absurd hi h2
      · obtain ⟨j, hj, rfl⟩ := nI_of h2
        have h3 := h.run hn (i := j) (m := 1) hj (by omega)
        rw [nI_leI (by omega) hj] at hi
        rw [if_neg (by omega), ← nI_one] at h3
        exact h3
  simp [fX2_read, h.ob, h1]
theorem TT.kind (h : TT fx a s b n row) (hn : n ≤ 40) {i : Nat} (hi : i < n) : fX2_stoneSortAt fx a (nI i) = some (h10 (row i)) := by
  have h1 := h.run hn (i := i) (m := 1) (by omega) (by omega)
  rw [if_pos (by omega), ← nI_one] at h1
  simp [fX2_stoneSortAt, h10, h.ob, h1, h.q, g_lJ h.2 hi (by omega)]
theorem TT.write (h : TT fx a s b n row) (hn : n ≤ 40) {z i : Nat} (hi : i < n) (v : Int64) : fX2_write fx z a (nI i) v = some (1, hup fx b (aJ n (vp_updL row i v)), z) := by
  have h1 := h.run hn (i := i) (m := 1) (by omega) (by omega)
  rw [if_pos (by omega), ← nI_one] at h1
  simp [fX2_write, h.ob, h1, h.q, g_sJ h.2 hi (by omega)]
theorem TT.write_out (h : TT fx a s b n row) (hn : n ≤ 40) {z : Nat} {i : Int32} (hi : i < 0 ∨ nI n ≤ i) (v : Int64) : fX2_write fx z a i v = some (0, fx, z) := by
  have h1 : fX2_hasRun fx a i 1 = some 0 := by
    by_cases h2 : i < 0
    · exact run_neg1 h2
    · rcases hi with hi | hi
      · exact absurd hi h2
      · obtain ⟨j, hj, rfl⟩ := nI_of h2
        have h3 := h.run hn (i := j) (m := 1) hj (by omega)
        rw [nI_leI (by omega) hj] at hi
        rw [if_neg (by omega), ← nI_one] at h3
        exact h3
  simp [fX2_write, h.ob, h1]
end TTs
