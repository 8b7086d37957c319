/-! reads and writes of known cells -/
theorem g_V {f : hPl} {a ci k : Nat} {fs : List Value} {v : Value} (h : f a = some (oC ci fs)) (hk : fs[k]? = some v) : hgV f a ci k = some v := by simp [hgV, h, hk]
theorem g_Q {f : hPl} {a ci k : Nat} {fs : List Value} {x : Option Nat} (h : f a = some (oC ci fs)) (hk : fs[k]? = some (va_rf x)) : hgQ f a ci k = some x := by
  unfold hgQ
  rw [g_V h hk]
  cases x <;> rfl
theorem g_I {f : hPl} {a ci k : Nat} {fs : List Value} {x : Int32} (h : f a = some (oC ci fs)) (hk : fs[k]? = some (.int x)) : hgI f a ci k = some x := by
  unfold hgI
  rw [g_V h hk]
  rfl
theorem g_ob {f : hPl} {a ci : Nat} {fs : List Value} (h : f a = some (oC ci fs)) : hob f a ci = some () := by simp [hob, h]
theorem g_kd {f : hPl} {a ci : Nat} {fs : List Value} (h : f a = some (oC ci fs)) : hkd f a = some ci := by simp [hkd, h]
theorem g_put {f : hPl} {a ci k : Nat} {fs : List Value} {v : Value} (h : f a = some (oC ci fs)) (hk : k < fs.length) : hput f a ci k v = some (hup f a (oC ci (fs.set k v))) := by simp [hput, h, hk]
theorem g_in {k n : Nat} (hk : k < n) (hn : n < 2 ^ 31) : hinB (nI k) n = true := hinB_iff.mpr (vp_in_nI hk hn)
theorem g_rI {f : hPl} {a n : Nat} {r : Nat → Int32} (h : f a = some (aI n r)) : hrI f a = some (n, r) := by simp [hrI, h]
theorem g_rJ {f : hPl} {a n : Nat} {r : Nat → Int64} (h : f a = some (aJ n r)) : hrJ f a = some (n, r) := by simp [hrJ, h]
theorem g_rQ {f : hPl} {a n : Nat} {r : Nat → Option Nat} (h : f a = some (aQ n r)) : hrQ f a = some (n, r) := by simp [hrQ, h]
theorem g_lI {f : hPl} {a n k : Nat} {r : Nat → Int32} (h : f a = some (aI n r)) (hk : k < n) (hn : n < 2 ^ 31) : hlI f a (nI k) = some (r k) := by
  simp [hlI, g_rI h, g_in hk hn, nI_clamp (show k < 2 ^ 31 by omega)]
theorem g_lJ {f : hPl} {a n k : Nat} {r : Nat → Int64} (h : f a = some (aJ n r)) (hk : k < n) (hn : n < 2 ^ 31) : hlJ f a (nI k) = some (r k) := by
  simp [hlJ, g_rJ h, g_in hk hn, nI_clamp (show k < 2 ^ 31 by omega)]
theorem g_lQ {f : hPl} {a n k : Nat} {r : Nat → Option Nat} (h : f a = some (aQ n r)) (hk : k < n) (hn : n < 2 ^ 31) : hlQ f a (nI k) = some (r k) := by
  simp [hlQ, g_rQ h, g_in hk hn, nI_clamp (show k < 2 ^ 31 by omega)]
theorem g_sI {f : hPl} {a n k : Nat} {r : Nat → Int32} {v : Int32} (h : f a = some (aI n r)) (hk : k < n) (hn : n < 2 ^ 31) : hsI f a (nI k) v = some (hup f a (aI n (upd r k v))) := by
  simp [hsI, g_rI h, g_in hk hn, nI_clamp (show k < 2 ^ 31 by omega)]
theorem g_sJ {f : hPl} {a n k : Nat} {r : Nat → Int64} {v : Int64} (h : f a = some (aJ n r)) (hk : k < n) (hn : n < 2 ^ 31) : hsJ f a (nI k) v = some (hup f a (aJ n (vp_updL r k v))) := by
  simp [hsJ, g_rJ h, g_in hk hn, nI_clamp (show k < 2 ^ 31 by omega)]
theorem g_sQ {f : hPl} {a n k : Nat} {r : Nat → Option Nat} {v : Option Nat} (h : f a = some (aQ n r)) (hk : k < n) (hn : n < 2 ^ 31) : hsQ f a (nI k) v = some (hup f a (aQ n (va_up r k v))) := by
  simp [hsQ, g_rQ h, g_in hk hn, nI_clamp (show k < 2 ^ 31 by omega)]
theorem g_ln {f : hPl} {a n : Nat} {r : Nat → Int64} (h : f a = some (aJ n r)) : hln f a = some (nI n) := by simp [hln, h]; rfl
theorem g_cp {f : hPl} {a0 a n0 n1 sp dp n : Nat} {r0 r1 : Nat → Int64} (h0 : f a0 = some (aJ n0 r0)) (h1 : f a = some (aJ n1 r1)) (hs : sp + n ≤ n0) (hd : dp + n ≤ n1) (hn0 : n0 < 2 ^ 31) (hn1 : n1 < 2 ^ 31) : hcp f a0 (nI sp) a (nI dp) (nI n) = some (hup f a (aJ n1 (va_cpy r0 r1 sp dp n))) := by
  have e1 := nI_clamp (show sp < 2 ^ 31 by omega)
  have e2 := nI_clamp (show dp < 2 ^ 31 by omega)
  have e3 := nI_clamp (show n < 2 ^ 31 by omega)
  simp [hcp, g_rJ h0, g_rJ h1, e1, e2, e3, nI_pos (show sp < 2 ^ 31 by omega), nI_pos (show dp < 2 ^ 31 by omega), nI_pos (show n < 2 ^ 31 by omega), hs, hd]
/-- cells that differ lie apart -/
theorem hne {f : hPl} {a b : Nat} {x y : hCe} (h1 : f a = some x) (h2 : f b = some y) (hxy : x ≠ y) : a ≠ b := fun h => by
  subst h
  rw [h1] at h2
  exact hxy (Option.some.inj h2)
/-! numbers -/
/-- a place, or none -/
theorem hplace (p : Int32) : (p < 0 ∨ 8 ≤ p) ∨ ∃ P : Nat, P < 8 ∧ p = nI P := by
  rcases pk_ix p (n := 8) (by omega) with h | h | ⟨j, h1, h2⟩
  · exact Or.inl (Or.inl h)
  · exact Or.inl (Or.inr h)
  · exact Or.inr ⟨j, h1, h2⟩
theorem nlt {a : Nat} (h : a < 2 ^ 31) : ¬ nI a < 0 := nI_pos h
theorem hsh_aux {k : Nat} (h : k < 2 ^ 31) : ¬ nI k = (-1) := by
  intro h1
  have h2 := congrArg Int32.toInt h1
  rw [nI_toInt h] at h2
  have h3 : (-1 : Int32).toInt = -1 := by decide
  omega
def hsh (o : Option Nat) : Int32 := match o with
  | none => -1
  | some k => nI k
theorem nI_40 (k i : Nat) : (40 : Int32) * nI k + nI i = nI (40 * k + i) := by
  rw [show (40 : Int32) = nI 40 from by decide, pk_mul, nI_add]
theorem fx_place_no {f : hPl} {p : Int32} (h : p < 0 ∨ 8 ≤ p) : fX3_isPlace f p = some 0 ∧ fX4_isPlace f p = some 0 := by
  unfold fX3_isPlace fX4_isPlace
  by_cases h1 : p < 0
  · simp [h1]
  · rcases h with h | h
    · exact absurd h h1
    · simp [h1, h]
theorem fx_place_yes {f : hPl} {P : Nat} (h : P < 8) : fX3_isPlace f (nI P) = some 1 ∧ fX4_isPlace f (nI P) = some 1 := by
  unfold fX3_isPlace fX4_isPlace
  have h1 : ¬ nI P < 0 := nI_pos (by omega)
  have h2 : ¬ (8 : Int32) ≤ nI P := by
    rw [show (8 : Int32) = nI 8 from by decide, nI_leI (by omega) (by omega)]
    omega
  simp [h1, h2]
/-- a stone's sort -/
def h10 (v : Int64) : Int32 := (v - v / (10 : Int64) * (10 : Int64)).toInt32
/-! THE REFERENCE'S CELLS -/
def MX (qm : Nat) (fm : hPl) (B : Nat → Nat) (la sa ma ia cn : Nat → Int32) (mem car kp : Nat → Int64) (ke : Int32) : Prop :=
  fm qm = some (oC 3 [.ref (B 0), .ref (B 1), .ref (B 2), .ref (B 3), .ref (B 4), .ref (B 5), .ref (B 6), .int ke, .ref (B 8)]) ∧
  fm (B 0) = some (aI 8 la) ∧ fm (B 1) = some (aI 10 sa) ∧ fm (B 2) = some (aI 10 ma) ∧ fm (B 3) = some (aI 10 ia) ∧ fm (B 4) = some (aJ 400 mem) ∧ fm (B 5) = some (aJ 40 car) ∧ fm (B 6) = some (aJ 40 kp) ∧ fm (B 8) = some (aI 7 cn) ∧
  (∀ i j, i < 9 → j < 9 → B i = B j → i = j) ∧ ∀ i, i < 9 → B i ≠ qm
section MXs
variable {qm : Nat} {fm : hPl} {B : Nat → Nat} {la sa ma ia cn : Nat → Int32} {mem car kp : Nat → Int64} {ke : Int32}
theorem MX.ob (h : MX qm fm B la sa ma ia cn mem car kp ke) : hob fm qm 3 = some () := g_ob h.1
theorem MX.q0 (h : MX qm fm B la sa ma ia cn mem car kp ke) : hgQ fm qm 3 0 = some (some (B 0)) := g_Q h.1 rfl
theorem MX.q1 (h : MX qm fm B la sa ma ia cn mem car kp ke) : hgQ fm qm 3 1 = some (some (B 1)) := g_Q h.1 rfl
theorem MX.q2 (h : MX qm fm B la sa ma ia cn mem car kp ke) : hgQ fm qm 3 2 = some (some (B 2)) := g_Q h.1 rfl
theorem MX.q3 (h : MX qm fm B la sa ma ia cn mem car kp ke) : hgQ fm qm 3 3 = some (some (B 3)) := g_Q h.1 rfl
theorem MX.q4 (h : MX qm fm B la sa ma ia cn mem car kp ke) : hgQ fm qm 3 4 = some (some (B 4)) := g_Q h.1 rfl
theorem MX.q5 (h : MX qm fm B la sa ma ia cn mem car kp ke) : hgQ fm qm 3 5 = some (some (B 5)) := g_Q h.1 rfl
theorem MX.q6 (h : MX qm fm B la sa ma ia cn mem car kp ke) : hgQ fm qm 3 6 = some (some (B 6)) := g_Q h.1 rfl
theorem MX.q8 (h : MX qm fm B la sa ma ia cn mem car kp ke) : hgQ fm qm 3 8 = some (some (B 8)) := g_Q h.1 rfl
theorem MX.gk (h : MX qm fm B la sa ma ia cn mem car kp ke) : hgI fm qm 3 7 = some ke := g_I h.1 rfl
theorem MX.l0 (h : MX qm fm B la sa ma ia cn mem car kp ke) {k : Nat} (hk : k < 8) : hlI fm (B 0) (nI k) = some (la k) := g_lI h.2.1 hk (by omega)
theorem MX.l1 (h : MX qm fm B la sa ma ia cn mem car kp ke) {k : Nat} (hk : k < 10) : hlI fm (B 1) (nI k) = some (sa k) := g_lI h.2.2.1 hk (by omega)
theorem MX.l2 (h : MX qm fm B la sa ma ia cn mem car kp ke) {k : Nat} (hk : k < 10) : hlI fm (B 2) (nI k) = some (ma k) := g_lI h.2.2.2.1 hk (by omega)
theorem MX.l3 (h : MX qm fm B la sa ma ia cn mem car kp ke) {k : Nat} (hk : k < 10) : hlI fm (B 3) (nI k) = some (ia k) := g_lI h.2.2.2.2.1 hk (by omega)
theorem MX.l4 (h : MX qm fm B la sa ma ia cn mem car kp ke) {k : Nat} (hk : k < 400) : hlJ fm (B 4) (nI k) = some (mem k) := g_lJ h.2.2.2.2.2.1 hk (by omega)
theorem MX.l5 (h : MX qm fm B la sa ma ia cn mem car kp ke) {k : Nat} (hk : k < 40) : hlJ fm (B 5) (nI k) = some (car k) := g_lJ h.2.2.2.2.2.2.1 hk (by omega)
theorem MX.l6 (h : MX qm fm B la sa ma ia cn mem car kp ke) {k : Nat} (hk : k < 40) : hlJ fm (B 6) (nI k) = some (kp k) := g_lJ h.2.2.2.2.2.2.2.1 hk (by omega)
theorem MX.l8 (h : MX qm fm B la sa ma ia cn mem car kp ke) {k : Nat} (hk : k < 7) : hlI fm (B 8) (nI k) = some (cn k) := g_lI h.2.2.2.2.2.2.2.2.1 hk (by omega)
theorem MX.nb (h : MX qm fm B la sa ma ia cn mem car kp ke) {i j : Nat} (hi : i < 9) (hj : j < 9) (hij : i ≠ j) : B i ≠ B j := fun e => hij (h.2.2.2.2.2.2.2.2.2.1 i j hi hj e)
theorem MX.nq (h : MX qm fm B la sa ma ia cn mem car kp ke) {i : Nat} (hi : i < 9) : qm ≠ B i := fun e => h.2.2.2.2.2.2.2.2.2.2 i hi e.symm
theorem MX.s0 (h : MX qm fm B la sa ma ia cn mem car kp ke) {k : Nat} (hk : k < 8) (v : Int32) : ∃ f', hsI fm (B 0) (nI k) v = some f' ∧ MX qm f' B (upd la k v) sa ma ia cn mem car kp ke := by
  refine ⟨_, g_sI h.2.1 hk (by omega), ?_⟩
  have h9 := id h
  obtain ⟨a, a0, a1, a2, a3, a4, a5, a6, a8, hd, hq⟩ := h
  exact ⟨by rw [hup_n (h9.nq (by omega))]; exact a, hup_s, by rw [hup_n (h9.nb (by omega) (by omega) (by omega))]; exact a1, by rw [hup_n (h9.nb (by omega) (by omega) (by omega))]; exact a2, by rw [hup_n (h9.nb (by omega) (by omega) (by omega))]; exact a3, by rw [hup_n (h9.nb (by omega) (by omega) (by omega))]; exact a4, by rw [hup_n (h9.nb (by omega) (by omega) (by omega))]; exact a5, by rw [hup_n (h9.nb (by omega) (by omega) (by omega))]; exact a6, by rw [hup_n (h9.nb (by omega) (by omega) (by omega))]; exact a8, hd, hq⟩
theorem MX.s1 (h : MX qm fm B la sa ma ia cn mem car kp ke) {k : Nat} (hk : k < 10) (v : Int32) : ∃ f', hsI fm (B 1) (nI k) v = some f' ∧ MX qm f' B la (upd sa k v) ma ia cn mem car kp ke := by
  refine ⟨_, g_sI h.2.2.1 hk (by omega), ?_⟩
  have h9 := id h
  obtain ⟨a, a0, a1, a2, a3, a4, a5, a6, a8, hd, hq⟩ := h
  exact ⟨by rw [hup_n (h9.nq (by omega))]; exact a, by rw [hup_n (h9.nb (by omega) (by omega) (by omega))]; exact a0, hup_s, by rw [hup_n (h9.nb (by omega) (by omega) (by omega))]; exact a2, by rw [hup_n (h9.nb (by omega) (by omega) (by omega))]; exact a3, by rw [hup_n (h9.nb (by omega) (by omega) (by omega))]; exact a4, by rw [hup_n (h9.nb (by omega) (by omega) (by omega))]; exact a5, by rw [hup_n (h9.nb (by omega) (by omega) (by omega))]; exact a6, by rw [hup_n (h9.nb (by omega) (by omega) (by omega))]; exact a8, hd, hq⟩
theorem MX.s2 (h : MX qm fm B la sa ma ia cn mem car kp ke) {k : Nat} (hk : k < 10) (v : Int32) : ∃ f', hsI fm (B 2) (nI k) v = some f' ∧ MX qm f' B la sa (upd ma k v) ia cn mem car kp ke := by
  refine ⟨_, g_sI h.2.2.2.1 hk (by omega), ?_⟩
  have h9 := id h
  obtain ⟨a, a0, a1, a2, a3, a4, a5, a6, a8, hd, hq⟩ := h
  exact ⟨by rw [hup_n (h9.nq (by omega))]; exact a, by rw [hup_n (h9.nb (by omega) (by omega) (by omega))]; exact a0, by rw [hup_n (h9.nb (by omega) (by omega) (by omega))]; exact a1, hup_s, by rw [hup_n (h9.nb (by omega) (by omega) (by omega))]; exact a3, by rw [hup_n (h9.nb (by omega) (by omega) (by omega))]; exact a4, by rw [hup_n (h9.nb (by omega) (by omega) (by omega))]; exact a5, by rw [hup_n (h9.nb (by omega) (by omega) (by omega))]; exact a6, by rw [hup_n (h9.nb (by omega) (by omega) (by omega))]; exact a8, hd, hq⟩
theorem MX.s3 (h : MX qm fm B la sa ma ia cn mem car kp ke) {k : Nat} (hk : k < 10) (v : Int32) : ∃ f', hsI fm (B 3) (nI k) v = some f' ∧ MX qm f' B la sa ma (upd ia k v) cn mem car kp ke := by
  refine ⟨_, g_sI h.2.2.2.2.1 hk (by omega), ?_⟩
  have h9 := id h
  obtain ⟨a, a0, a1, a2, a3, a4, a5, a6, a8, hd, hq⟩ := h
  exact ⟨by rw [hup_n (h9.nq (by omega))]; exact a, by rw [hup_n (h9.nb (by omega) (by omega) (by omega))]; exact a0, by rw [hup_n (h9.nb (by omega) (by omega) (by omega))]; exact a1, by rw [hup_n (h9.nb (by omega) (by omega) (by omega))]; exact a2, hup_s, by rw [hup_n (h9.nb (by omega) (by omega) (by omega))]; exact a4, by rw [hup_n (h9.nb (by omega) (by omega) (by omega))]; exact a5, by rw [hup_n (h9.nb (by omega) (by omega) (by omega))]; exact a6, by rw [hup_n (h9.nb (by omega) (by omega) (by omega))]; exact a8, hd, hq⟩
theorem MX.s4 (h : MX qm fm B la sa ma ia cn mem car kp ke) {k : Nat} (hk : k < 400) (v : Int64) : ∃ f', hsJ fm (B 4) (nI k) v = some f' ∧ MX qm f' B la sa ma ia cn (vp_updL mem k v) car kp ke := by
  refine ⟨_, g_sJ h.2.2.2.2.2.1 hk (by omega), ?_⟩
  have h9 := id h
  obtain ⟨a, a0, a1, a2, a3, a4, a5, a6, a8, hd, hq⟩ := h
  exact ⟨by rw [hup_n (h9.nq (by omega))]; exact a, by rw [hup_n (h9.nb (by omega) (by omega) (by omega))]; exact a0, by rw [hup_n (h9.nb (by omega) (by omega) (by omega))]; exact a1, by rw [hup_n (h9.nb (by omega) (by omega) (by omega))]; exact a2, by rw [hup_n (h9.nb (by omega) (by omega) (by omega))]; exact a3, hup_s, by rw [hup_n (h9.nb (by omega) (by omega) (by omega))]; exact a5, by rw [hup_n (h9.nb (by omega) (by omega) (by omega))]; exact a6, by rw [hup_n (h9.nb (by omega) (by omega) (by omega))]; exact a8, hd, hq⟩
theorem MX.s5 (h : MX qm fm B la sa ma ia cn mem car kp ke) {k : Nat} (hk : k < 40) (v : Int64) : ∃ f', hsJ fm (B 5) (nI k) v = some f' ∧ MX qm f' B la sa ma ia cn mem (vp_updL car k v) kp ke := by
  refine ⟨_, g_sJ h.2.2.2.2.2.2.1 hk (by omega), ?_⟩
  have h9 := id h
  obtain ⟨a, a0, a1, a2, a3, a4, a5, a6, a8, hd, hq⟩ := h
  exact ⟨by rw [hup_n (h9.nq (by omega))]; exact a, by rw [hup_n (h9.nb (by omega) (by omega) (by omega))]; exact a0, by rw [hup_n (h9.nb (by omega) (by omega) (by omega))]; exact a1, by rw [hup_n (h9.nb (by omega) (by omega) (by omega))]; exact a2, by rw [hup_n (h9.nb (by omega) (by omega) (by omega))]; exact a3, by rw [hup_n (h9.nb (by omega) (by omega) (by omega))]; exact a4, hup_s, by rw [hup_n (h9.nb (by omega) (by omega) (by omega))]; exact a6, by rw [hup_n (h9.nb (by omega) (by omega) (by omega))]; exact a8, hd, hq⟩
theorem MX.s6 (h : MX qm fm B la sa ma ia cn mem car kp ke) {k : Nat} (hk : k < 40) (v : Int64) : ∃ f', hsJ fm (B 6) (nI k) v = some f' ∧ MX qm f' B la sa ma ia cn mem car (vp_updL kp k v) ke := by
  refine ⟨_, g_sJ h.2.2.2.2.2.2.2.1 hk (by omega), ?_⟩
  have h9 := id h
  obtain ⟨a, a0, a1, a2, a3, a4, a5, a6, a8, hd, hq⟩ := h
  exact ⟨by rw [hup_n (h9.nq (by omega))]; exact a, by rw [hup_n (h9.nb (by omega) (by omega) (by omega))]; exact a0, by rw [hup_n (h9.nb (by omega) (by omega) (by omega))]; exact a1, by rw [hup_n (h9.nb (by omega) (by omega) (by omega))]; exact a2, by rw [hup_n (h9.nb (by omega) (by omega) (by omega))]; exact a3, by rw [hup_n (h9.nb (by omega) (by omega) (by omega))]; exact a4, by rw [hup_n (h9.nb (by omega) (by omega) (by omega))]; exact a5, hup_s, by rw [hup_n (h9.nb (by omega) (by omega) (by omega))]; exact a8, hd, hq⟩
theorem MX.s8 (h : MX qm fm B la sa ma ia cn mem car kp ke) {k : Nat} (hk : k < 7) (v : Int32) : ∃ f', hsI fm (B 8) (nI k) v = some f' ∧ MX qm f' B la sa ma ia (upd cn k v) mem car kp ke := by
  refine ⟨_, g_sI h.2.2.2.2.2.2.2.2.1 hk (by omega), ?_⟩
  have h9 := id h
  obtain ⟨a, a0, a1, a2, a3, a4, a5, a6, a8, hd, hq⟩ := h
  exact ⟨by rw [hup_n (h9.nq (by omega))]; exact a, by rw [hup_n (h9.nb (by omega) (by omega) (by omega))]; exact a0, by rw [hup_n (h9.nb (by omega) (by omega) (by omega))]; exact a1, by rw [hup_n (h9.nb (by omega) (by omega) (by omega))]; exact a2, by rw [hup_n (h9.nb (by omega) (by omega) (by omega))]; exact a3, by rw [hup_n (h9.nb (by omega) (by omega) (by omega))]; exact a4, by rw [hup_n (h9.nb (by omega) (by omega) (by omega))]; exact a5, by rw [hup_n (h9.nb (by omega) (by omega) (by omega))]; exact a6, hup_s, hd, hq⟩
theorem MX.s7 (h : MX qm fm B la sa ma ia cn mem car kp ke) (v : Int32) : ∃ f', hput fm qm 3 7 (.int v) = some f' ∧ MX qm f' B la sa ma ia cn mem car kp v := by
  refine ⟨_, g_put h.1 (by simp), ?_⟩
  have h9 := id h
  obtain ⟨a, a0, a1, a2, a3, a4, a5, a6, a8, hd, hq⟩ := h
  exact ⟨hup_s, by rw [hup_n (hq 0 (by omega))]; exact a0, by rw [hup_n (hq 1 (by omega))]; exact a1, by rw [hup_n (hq 2 (by omega))]; exact a2, by rw [hup_n (hq 3 (by omega))]; exact a3, by rw [hup_n (hq 4 (by omega))]; exact a4, by rw [hup_n (hq 5 (by omega))]; exact a5, by rw [hup_n (hq 6 (by omega))]; exact a6, by rw [hup_n (hq 8 (by omega))]; exact a8, hd, hq⟩
theorem MX.sortOn0 (h : MX qm fm B la sa ma ia cn mem car kp ke) {P : Nat} (hP : P < 8) (hl : la P = -1) : fX4_sortOn fm qm (nI P) = some 0 := by
  simp [fX4_sortOn, h.q0, h.l0 hP, hl]
theorem MX.sortOn (h : MX qm fm B la sa ma ia cn mem car kp ke) {P k : Nat} (hP : P < 8) (hk : k < 10) (hl : la P = nI k) : fX4_sortOn fm qm (nI P) = some (sa k) := by
  simp [fX4_sortOn, h.q0, h.q1, h.l0 hP, hl, hsh_aux (show k < 2 ^ 31 by omega), h.l1 hk]
theorem MX.manyOn0 (h : MX qm fm B la sa ma ia cn mem car kp ke) {P : Nat} (hP : P < 8) (hl : la P = -1) : fX4_manyOn fm qm (nI P) = some 0 := by
  simp [fX4_manyOn, h.q0, h.l0 hP, hl]
theorem MX.manyOn (h : MX qm fm B la sa ma ia cn mem car kp ke) {P k : Nat} (hP : P < 8) (hk : k < 10) (hl : la P = nI k) : fX4_manyOn fm qm (nI P) = some (ma k) := by
  simp [fX4_manyOn, h.q0, h.q2, h.l0 hP, hl, hsh_aux (show k < 2 ^ 31 by omega), h.l2 hk]
theorem MX.kindAt (h : MX qm fm B la sa ma ia cn mem car kp ke) {P k i : Nat} (hP : P < 8) (hk : k < 10) (hl : la P = nI k) (hi : i < 40) : fX4_kindAt fm qm (nI P) (nI i) = some (h10 (mem (40 * k + i))) := by
  simp [fX4_kindAt, h10, h.q0, h.q4, h.l0 hP, hl, nI_40, h.l4 (show 40 * k + i < 400 by omega)]
end MXs
