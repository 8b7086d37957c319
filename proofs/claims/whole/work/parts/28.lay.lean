/-! which shelves are used -/
theorem m_usedL {qm : Nat} {fm : hPl} {B : Nat → Nat} {la sa ma ia cn : Nat → Int32} {mem car kp : Nat → Int64} {ke : Int32} (hM : MX qm fm B la sa ma ia cn mem car kp ke) {v : Int32} : ∀ (d i fuel : Nat), i + d = 8 → d < fuel → fX4_isUsed_j16 fuel fm qm v 1 (nI i) = some 1 ∧ ((∃ p, i ≤ p ∧ p < 8 ∧ la p = v) → fX4_isUsed_j16 fuel fm qm v 0 (nI i) = some 1) ∧ ((¬ ∃ p, i ≤ p ∧ p < 8 ∧ la p = v) → fX4_isUsed_j16 fuel fm qm v 0 (nI i) = some 0) := by
  intro d
  induction d with
  | zero =>
    intro i fuel hi hf
    obtain ⟨m, rfl⟩ : ∃ m, fuel = m + 1 := ⟨fuel - 1, by omega⟩
    have h1 : (8 : Int32) ≤ nI i := by rw [show (8 : Int32) = nI 8 from by decide]; exact nI_le (by omega) (by omega)
    refine ⟨?_, fun ⟨p, q1, q2, _⟩ => absurd q1 (by omega), fun _ => ?_⟩
    · show fX4_isUsed_j16s _ fm qm v 1 (nI i) = _
      simp [fX4_isUsed_j16s, h1]
    · show fX4_isUsed_j16s _ fm qm v 0 (nI i) = _
      simp [fX4_isUsed_j16s, h1]
  | succ d ih =>
    intro i fuel hi hf
    obtain ⟨m, rfl⟩ : ∃ m, fuel = m + 1 := ⟨fuel - 1, by omega⟩
    have h1 : ¬ (8 : Int32) ≤ nI i := by rw [show (8 : Int32) = nI 8 from by decide]; exact nI_ge (by omega) (by omega)
    obtain ⟨g1, g2, g3⟩ := ih (i + 1) m (by omega) (by omega)
    have hi8 : i < 8 := by omega
    refine ⟨?_, ?_, ?_⟩
    · show fX4_isUsed_j16s _ fm qm v 1 (nI i) = _
      simp [fX4_isUsed_j16s, h1, nI_1, g1]
    · rintro ⟨p, q1, q2, q3⟩
      show fX4_isUsed_j16s _ fm qm v 0 (nI i) = _
      by_cases h2 : la i = v
      · simp [fX4_isUsed_j16s, h1, hM.q0, hM.l0 hi8, h2, nI_1, g1]
      · have h3 := g2 ⟨p, by
          rcases Nat.lt_or_ge i p with q | q
          · omega
          · have : p = i := by omega
            subst this
            exact absurd q3 h2, q2, q3⟩
        simp [fX4_isUsed_j16s, h1, hM.q0, hM.l0 hi8, h2, nI_1, h3]
    · intro hq
      have h2 : ¬ la i = v := fun h => hq ⟨i, Nat.le_refl _, hi8, h⟩
      have h3 := g3 (fun ⟨p, q1, q2, q3⟩ => hq ⟨p, by omega, q2, q3⟩)
      show fX4_isUsed_j16s _ fm qm v 0 (nI i) = _
      simp [fX4_isUsed_j16s, h1, hM.q0, hM.l0 hi8, h2, nI_1, h3]
theorem hsh_iff {o : Option Nat} {k : Nat} (ho : ∀ j, o = some j → j < 10) (hk : k < 10) : nI k = hsh o ↔ o = some k := by
  cases o with
  | none => exact ⟨fun h => absurd h (hsh_aux (by omega)), fun h => by cases h⟩
  | some j =>
    have hj := ho j rfl
    show nI k = nI j ↔ _
    rw [nI_eq (by omega) (by omega)]
    exact ⟨fun h => by rw [h], fun h => (Option.some.inj h).symm⟩
theorem m_used {qm : Nat} {fm : hPl} {B : Nat → Nat} {la sa ma ia cn : Nat → Int32} {mem car kp : Nat → Int64} {L : Nat → Option Nat} {K : Option Nat} (hM : MX qm fm B la sa ma ia cn mem car kp (hsh K)) (hla : ∀ p, p < 8 → la p = hsh (L p)) (hL : ∀ p, p < 8 → ∀ j, L p = some j → j < 10) (hK : ∀ j, K = some j → j < 10) {k : Nat} (hk : k < 10) : (US L K k → fX4_isUsed fm qm (nI k) = some 1) ∧ (¬ US L K k → fX4_isUsed fm qm (nI k) = some 0) := by
  obtain ⟨g1, g2, g3⟩ := m_usedL hM (v := nI k) 8 0 64 (by omega) (by omega)
  rw [nI_0] at g1 g2 g3
  have e1 : ∀ p, p < 8 → (la p = nI k ↔ L p = some k) := fun p hp => by
    rw [hla p hp]
    exact ⟨fun h => (hsh_iff (hL p hp) hk).mp h.symm, fun h => ((hsh_iff (hL p hp) hk).mpr h).symm⟩
  have e2 := hsh_iff hK hk
  refine ⟨fun hu => ?_, fun hu => ?_⟩
  · by_cases h1 : nI k = hsh K
    · simp [fX4_isUsed, hM.gk, h1.symm, g1]
    · rcases hu with ⟨p, hp, hq⟩ | hq
      · simp [fX4_isUsed, hM.gk, h1, g2 ⟨p, by omega, hp, (e1 p hp).mpr hq⟩]
      · exact absurd (e2.mpr hq) h1
  · have h1 : ¬ nI k = hsh K := fun h => hu (Or.inr (e2.mp h))
    simp [fX4_isUsed, hM.gk, h1, g3 (fun ⟨p, _, hp, hq⟩ => hu (Or.inl ⟨p, hp, (e1 p hp).mp hq⟩))]
/-! nine shelves, eight at most in use -/
theorem pigeon : ∀ (n : Nat) (u : List Nat), (∀ k, k < n → k ∈ u) → n ≤ u.length := by
  intro n
  induction n with
  | zero => intro u _; omega
  | succ n ih =>
    intro u h
    have h1 := h n (by omega)
    have h2 := ih (u.erase n) (fun k hk => (List.mem_erase_of_ne (by omega)).mpr (h k (by omega)))
    rw [List.length_erase_of_mem h1] at h2
    have h3 : 0 < u.length := List.length_pos_of_mem h1
    omega
theorem filt7 : ∀ P, P < 8 → ((List.range 8).filter (fun q => decide (q ≠ P))).length = 7 := by decide
theorem free_shelf (L : Nat → Option Nat) (K : Option Nat) {P : Nat} (hP : P < 8) : ∃ k, k < 9 ∧ ¬ US (va_up L P none) K k := by
  refine Classical.byContradiction fun hno => ?_
  have hall : ∀ k, k < 9 → US (va_up L P none) K k := fun k hk => Classical.byContradiction fun h => hno ⟨k, hk, h⟩
  have h1 := pigeon 9 (((List.range 8).filter (fun q => decide (q ≠ P))).filterMap L ++ K.toList) (fun k hk => by
    rcases hall k hk with ⟨p, hp, hq⟩ | hq
    · by_cases hpP : p = P
      · subst hpP; simp [va_up] at hq
      · simp [va_up, hpP] at hq
        refine List.mem_append_left _ (List.mem_filterMap.mpr ⟨p, List.mem_filter.mpr ⟨List.mem_range.mpr hp, by simp [hpP]⟩, hq⟩)
    · exact List.mem_append_right _ (by simp [hq]))
  have h2 := List.length_filterMap_le L ((List.range 8).filter (fun q => decide (q ≠ P)))
  rw [filt7 P hP] at h2
  rw [List.length_append] at h1
  have h3 : K.toList.length ≤ 1 := by cases K <;> simp
  omega
/-! the reference lays a thing -/
theorem m_zero {qm z : Nat} {B : Nat → Nat} {la sa ma ia cn : Nat → Int32} {mem car kp : Nat → Int64} {ke : Int32} {P k : Nat} (hP : P < 8) (hk : k < 10) : ∀ (d i fuel : Nat) (fm : hPl), i + d = 40 → d < fuel → MX qm fm B la sa ma ia cn (va_cpy (fun _ => 0) mem 0 (40 * k) i) car kp ke → ∃ fm', fX4_lay_j112 fuel fm z qm (nI P) (nI k) (nI i) = some (1, fm', z) ∧ MX qm fm' B (upd la P (nI k)) sa ma ia cn (va_cpy (fun _ => 0) mem 0 (40 * k) 40) car kp ke := by
  intro d
  induction d with
  | zero =>
    intro i fuel fm hi hf hM
    obtain ⟨m, rfl⟩ : ∃ m, fuel = m + 1 := ⟨fuel - 1, by omega⟩
    have hin : i = 40 := by omega
    subst hin
    obtain ⟨fm', m1, m2⟩ := hM.s0 hP (nI k)
    refine ⟨fm', ?_, m2⟩
    have h1 : (40 : Int32) ≤ nI 40 := by decide
    show fX4_lay_j112s _ fm z qm _ _ _ = _
    simp [fX4_lay_j112s, h1, hM.q0, m1]
  | succ d ih =>
    intro i fuel fm hi hf hM
    obtain ⟨m, rfl⟩ : ∃ m, fuel = m + 1 := ⟨fuel - 1, by omega⟩
    have h1 : ¬ (40 : Int32) ≤ nI i := by rw [show (40 : Int32) = nI 40 from by decide]; exact nI_ge (by omega) (by omega)
    obtain ⟨fm1, m1, m2⟩ := hM.s4 (show 40 * k + i < 400 by omega) ((fun _ => 0 : Nat → Int64) i)
    rw [cpy_step] at m2
    obtain ⟨fm', g1, g2⟩ := ih (i + 1) m fm1 (by omega) (by omega) m2
    refine ⟨fm', ?_, g2⟩
    show fX4_lay_j112s _ fm z qm _ _ _ = _
    simp [fX4_lay_j112s, h1, hM.q4, nI_40, m1, nI_1, g1]
theorem m_lay74 {qm z : Nat} {fm : hPl} {B : Nat → Nat} {la sa ma ia cn : Nat → Int32} {mem car kp : Nat → Int64} {ke : Int32} (hM : MX qm fm B la sa ma ia cn mem car kp ke) {P k : Nat} (hP : P < 8) (hk : k < 10) {s n m' : Int32} (hs : (fX4_isTray fm s = some 0 ∧ m' = 0) ∨ (fX4_isTray fm s = some 1 ∧ m' = n)) : ∃ fm', fX4_lay_j74 fm z qm (nI P) s n (nI k) = some (1, fm', z) ∧ MX qm fm' B (upd la P (nI k)) (upd sa k s) (upd ma k m') (upd ia k 0) cn (va_cpy (fun _ => 0) mem 0 (40 * k) 40) car kp ke := by
  obtain ⟨f1, a1, a2⟩ := hM.s1 hk s
  obtain ⟨f2, b1, b2⟩ := a2.s2 hk m'
  obtain ⟨f3, c1, c2⟩ := b2.s3 hk 0
  have c3 : MX qm f3 B la (upd sa k s) (upd ma k m') (upd ia k 0) cn (va_cpy (fun _ => 0) mem 0 (40 * k) 0) car kp ke := by rw [cpy_0]; exact c2
  obtain ⟨fm', d1, d2⟩ := m_zero (z := z) hP hk 40 0 64 f3 (by omega) (by omega) c3
  rw [nI_0] at d1
  refine ⟨fm', ?_, d2⟩
  have hs' : (fX4_isTray f1 s = some 0 ∧ m' = 0) ∨ (fX4_isTray f1 s = some 1 ∧ m' = n) := hs
  rcases hs' with ⟨hs1, rfl⟩ | ⟨hs1, rfl⟩
  · simp [fX4_lay_j74, hM.q1, a1, a2.q2, hs1, fX4_lay_j100, b1, b2.q3, c1, d1]
  · simp [fX4_lay_j74, hM.q1, a1, a2.q2, hs1, fX4_lay_j100, b1, b2.q3, c1, d1]
theorem m_find {qm z : Nat} {fm : hPl} {B : Nat → Nat} {la sa ma ia cn : Nat → Int32} {mem car kp : Nat → Int64} {L : Nat → Option Nat} {K : Option Nat} (hM : MX qm fm B la sa ma ia cn mem car kp (hsh K)) (hla : ∀ p, p < 8 → la p = hsh (L p)) (hL : ∀ p, p < 8 → ∀ j, L p = some j → j < 10) (hK : ∀ j, K = some j → j < 10) {k : Nat} (hk : k < 9) (hun : ¬ US L K k) (hle : ∀ j, j < k → US L K j) {p s n : Int32} : ∀ (d i fuel : Nat), i + d = k → d < fuel → fX4_lay_j52 fuel fm z qm p s n (nI i) = fX4_lay_j74 fm z qm p s n (nI k) := by
  intro d
  induction d with
  | zero =>
    intro i fuel hi hf
    obtain ⟨m, rfl⟩ : ∃ m, fuel = m + 1 := ⟨fuel - 1, by omega⟩
    have hin : i = k := by omega
    subst hin
    have h1 : ¬ (9 : Int32) ≤ nI i := by rw [show (9 : Int32) = nI 9 from by decide]; exact nI_ge (by omega) (by omega)
    have h2 := (m_used hM hla hL hK (show i < 10 by omega)).2 hun
    show fX4_lay_j52s _ fm z qm _ _ _ _ = _
    simp [fX4_lay_j52s, h1, hM.ob, h2]
  | succ d ih =>
    intro i fuel hi hf
    obtain ⟨m, rfl⟩ : ∃ m, fuel = m + 1 := ⟨fuel - 1, by omega⟩
    have h1 : ¬ (9 : Int32) ≤ nI i := by rw [show (9 : Int32) = nI 9 from by decide]; exact nI_ge (by omega) (by omega)
    have h2 := (m_used hM hla hL hK (show i < 10 by omega)).1 (hle i (by omega))
    have h3 := ih (i + 1) m (by omega) (by omega)
    show fX4_lay_j52s _ fm z qm _ _ _ _ = _
    simp [fX4_lay_j52s, h1, hM.ob, h2, nI_1, h3]
/-- the bench lays a thing -/
theorem RC.put {i qx : Nat} {fx : hPl} {C φ ψ : Nat → Nat} {L : Nat → Option Nat} {K : Option Nat} {mn : Nat → Nat} {la sa ma ia cn : Nat → Int32} {mem kp kr hr : Nat → Int64} {pr : Nat → Option Nat} (R : RC i qx fx C φ ψ L K mn la sa ma ia cn mem kp kr hr pr) {P k a0 b0 n0 : Nat} {s0 : Int32} {fx2 : hPl} {mem' : Nat → Int64} (hP : P < 8) (hk : k < 10) (hun : ¬ US (va_up L P none) K k) (hold : ∀ a e, fx a = some e → fx2 a = some e) (hfa : fx a0 = none) (hfb : fx b0 = none) (hnew : TH fx2 C a0 b0 n0 s0 0 (nI n0) (fun j => mem' (40 * k + j))) (hmem : ∀ x, (x < 40 * k ∨ 40 * k + 40 ≤ x) → mem' x = mem x) :
    RC i qx (hup fx2 (C 0) (aQ 8 (va_up pr P (some a0)))) C (va_up φ k a0) (va_up ψ k b0) (va_up L P (some k)) K (va_up mn k n0) (upd la P (nI k)) (upd sa k s0) (upd ma k (nI n0)) (upd ia k 0) cn mem' kp kr hr (va_up pr P (some a0)) := by
  obtain ⟨hC, a1, a2, a3, a4, a5⟩ := R
  have hKk : ∀ j, K = some j → j ≠ k := fun j hj e => hun (Or.inr (by rw [hj, e]))
  have hkt : K.map (va_up φ k a0) = K.map φ := by
    cases K with
    | none => rfl
    | some j =>
      have := hKk j rfl
      simp [va_up, this]
  have hus : ∀ j, US (va_up L P (some k)) K j → j = k ∨ (j ≠ k ∧ US L K j) := by
    intro j hu
    by_cases hjk : j = k
    · exact Or.inl hjk
    · refine Or.inr ⟨hjk, ?_⟩
      rcases hu with ⟨p, hp, hq⟩ | hq
      · by_cases hpP : p = P
        · subst hpP
          simp [va_up] at hq
          exact absurd hq.symm hjk
        · simp [va_up, hpP] at hq
          exact Or.inl ⟨p, hp, hq⟩
      · exact Or.inr hq
  have hLk : ∀ p, p < 8 → p ≠ P → ∀ j, L p = some j → j ≠ k := fun p hp hpP j hj e => hun (Or.inl ⟨p, hp, by simp [va_up, hpP, hj, e]⟩)
  have hC2 : CX qx fx2 C pr (K.map φ) kr hr cn := ⟨hold _ _ hC.1, hold _ _ hC.2.1, hold _ _ hC.2.2.1, hold _ _ hC.2.2.2.1, hold _ _ hC.2.2.2.2.1, hC.2.2.2.2.2⟩
  refine ⟨by rw [hkt]; exact hC2.places _, ?_, ?_, ?_, ?_, a5⟩
  · intro p hp
    by_cases hpP : p = P
    · subst hpP
      rw [pk_us]
      refine ⟨?_, ?_⟩
      · simp [va_up, hsh]
      · simp [va_up]
    · rw [pk_un hpP]
      obtain ⟨g1, g2⟩ := a1 p hp
      simp only [va_up, if_neg hpP]
      refine ⟨g1, ?_⟩
      rw [g2]
      cases hL : L p with
      | none => rfl
      | some j => simp [va_up, hLk p hp hpP j hL]
  · intro j hu
    rcases hus j hu with rfl | ⟨hjk, hu'⟩
    · refine ⟨hk, ?_⟩
      rw [pk_us, pk_us, pk_us]
      simp only [va_up, if_true]
      exact hnew.kept (fun ⟨ci, fs, _, hq⟩ => hup_n (hne hq hC2.2.1 (fun e => by cases e))) (fun _ ⟨n, row, hq⟩ => hup_n (hne hq hC2.2.1 (fun e => by cases e)))
    · obtain ⟨g1, g2⟩ := a2 j hu'
      refine ⟨g1, ?_⟩
      rw [pk_un hjk, pk_un hjk, pk_un hjk]
      simp only [va_up, if_neg hjk]
      have g3 : TH fx2 C (φ j) (ψ j) (mn j) (sa j) (ia j) (ma j) (fun q => mem (40 * j + q)) := g2.kept (fun ⟨ci, fs, _, hq⟩ => by rw [hq]; exact hold _ _ hq) (fun _ ⟨n, row, hq⟩ => by rw [hq]; exact hold _ _ hq)
      have g4 : TH (hup fx2 (C 0) (aQ 8 fun j => if j = P then some a0 else pr j)) C (φ j) (ψ j) (mn j) (sa j) (ia j) (ma j) (fun q => mem (40 * j + q)) := g3.kept (fun ⟨ci, fs, _, hq⟩ => hup_n (hne hq hC2.2.1 (fun e => by cases e))) (fun _ ⟨n, row, hq⟩ => hup_n (hne hq hC2.2.1 (fun e => by cases e)))
      obtain ⟨d1, d2, d3⟩ := g4
      refine ⟨d1, d2, ?_⟩
      rcases d3 with d3 | ⟨e1, e2, e3, e4, e5, ⟨r2, e6, e7⟩, e8⟩
      · exact Or.inl d3
      · have hsame : ∀ q, q < mn j → mem' (40 * j + q) = mem (40 * j + q) := by
          intro q hq
          apply hmem
          have : mn j ≤ 40 := e3
          rcases Nat.lt_or_gt_of_ne hjk with w | w
          · left; omega
          · right; omega
        exact Or.inr ⟨e1, e2, e3, e4, e5, ⟨r2, e6, fun q hq => (e7 q hq).trans (hsame q hq).symm⟩, fun hs q hq => by show GD (mem' (40 * j + q)); rw [hsame q hq]; exact e8 hs q hq⟩
  · -- apart
    have hφ : ∀ j, US L K j → φ j ≠ a0 := by
      intro j hu e
      obtain ⟨g1, g2, g3, g4⟩ := a2 j hu
      rcases g4 with ⟨-, -, c⟩ | ⟨-, -, -, -, -, ⟨row, c, -⟩, -⟩
      · rw [e] at c; rw [show fx a0 = _ from c] at hfa; cases hfa
      · have c1 := c.1; rw [e, hfa] at c1; cases c1
    have hψ : ∀ j, US L K j → 2 ≤ (sa j).toInt → ψ j ≠ b0 := by
      intro j hu hs e
      obtain ⟨g1, g2, g3, g4⟩ := a2 j hu
      rcases g4 with ⟨c, -, -⟩ | ⟨-, -, -, -, -, ⟨row, c, -⟩, -⟩
      · rw [c] at hs; exact absurd hs (by decide)
      · have c1 := c.2; rw [e, hfb] at c1; cases c1
    intro j j' hu hu' hjj
    rcases hus j hu with rfl | ⟨hjk, hu1⟩
    · rcases hus j' hu' with rfl | ⟨hjk', hu1'⟩
      · exact absurd rfl hjj
      · rw [pk_us, pk_un hjk']
        simp only [va_up, if_true, if_neg hjk']
        exact ⟨fun e => hφ j' hu1' e.symm, fun _ hs e => hψ j' hu1' hs e.symm⟩
    · rcases hus j' hu' with rfl | ⟨hjk', hu1'⟩
      · rw [pk_us, pk_un hjk]
        simp only [va_up, if_true, if_neg hjk]
        exact ⟨hφ j hu1, fun hs _ => hψ j hu1 hs⟩
      · rw [pk_un hjk, pk_un hjk']
        simp only [va_up, if_neg hjk, if_neg hjk']
        exact a3 j j' hu1 hu1' hjj
  · intro j hj
    have hjk := hKk j hj
    rw [pk_un hjk]
    simp only [va_up, if_neg hjk]
    exact a4 j hj
theorem tray_iff {f : hPl} {s : Int32} (h0 : ¬ s < 0) (h10 : ¬ (10 : Int32) < s) (h1 : ¬ s = 0) : (s = 1 ∧ fX4_isTray f s = some 0) ∨ (¬ s = 1 ∧ 2 ≤ s.toInt ∧ s.toInt ≤ 10 ∧ fX4_isTray f s = some 1) := by
  have e10 : (10 : Int32).toInt = 10 := by decide
  have e2 : (2 : Int32).toInt = 2 := by decide
  have g10 : s.toInt ≤ 10 := by
    have : ¬ (10 : Int32).toInt < s.toInt := fun q => h10 (Int32.lt_iff_toInt_lt.mpr q)
    omega
  have g0 : 0 ≤ s.toInt := by
    have : ¬ s.toInt < (0 : Int32).toInt := fun q => h0 (Int32.lt_iff_toInt_lt.mpr q)
    simpa using this
  have g1 : s.toInt ≠ 0 := fun q => h1 (Int32.toInt_inj.mp (by rw [q]; rfl))
  by_cases h : s = 1
  · subst h
    exact Or.inl ⟨rfl, by simp [fX4_isTray]⟩
  · have g2 : s.toInt ≠ 1 := fun q => h (Int32.toInt_inj.mp (by rw [q]; rfl))
    have g3 : ¬ s < 2 := fun q => by have := Int32.lt_iff_toInt_lt.mp q; omega
    exact Or.inr ⟨h, by omega, g10, by simp [fX4_isTray, g3, h10]⟩
theorem gd0 : GD 0 := Or.inl (by decide +kernel)
