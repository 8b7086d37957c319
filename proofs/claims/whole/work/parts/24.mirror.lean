/-- the sorts of two strands, one from its end -/
def mOk (t u : Nat → Int32) (n j : Nat) : Prop := t j = u (n - 1 - j)
theorem sub_idx {n i : Nat} (h : i < n) : nI n - 1 - nI i = nI (n - 1 - i) := by
  rw [nI_one, pk_sub (by omega), pk_sub (by omega)]
theorem x_mirror {fx : hPl} {a a' b b' n : Nat} {s s' : Int32} {row row' : Nat → Int64} (h : TT fx a s b n row) (h' : TT fx a' s' b' n row') (hn : n ≤ 40) : ∀ (d i fuel : Nat), i + d = n → d < fuel →
    ((∀ j, i ≤ j → j < n → mOk (fun q => h10 (row q)) (fun q => h10 (row' q)) n j) → fX3_mirror_j60 fuel fx (some a) (some a') (nI n) (nI i) = some 1) ∧ ((¬ ∀ j, i ≤ j → j < n → mOk (fun q => h10 (row q)) (fun q => h10 (row' q)) n j) → fX3_mirror_j60 fuel fx (some a) (some a') (nI n) (nI i) = some 0) := by
  intro d
  induction d with
  | zero =>
    intro i fuel hi hf
    obtain ⟨m, rfl⟩ : ∃ m, fuel = m + 1 := ⟨fuel - 1, by omega⟩
    have h1 : nI n ≤ nI i := nI_le (by omega) (by omega)
    refine ⟨fun _ => ?_, fun hq => absurd (fun j h1 h2 => absurd h1 (by omega)) hq⟩
    show fX3_mirror_j60s _ fx (some a) (some a') _ _ = _
    simp [fX3_mirror_j60s, h1]
  | succ d ih =>
    intro i fuel hi hf
    obtain ⟨m, rfl⟩ : ∃ m, fuel = m + 1 := ⟨fuel - 1, by omega⟩
    have h1 : ¬ nI n ≤ nI i := nI_ge (by omega) (by omega)
    obtain ⟨g1, g2⟩ := ih (i + 1) m (by omega) (by omega)
    have e1 := h.kind hn (show i < n by omega)
    have e2 := h'.kind hn (show n - 1 - i < n by omega)
    have step : fX3_mirror_j60 (m + 1) fx (some a) (some a') (nI n) (nI i) = if h10 (row i) = h10 (row' (n - 1 - i)) then fX3_mirror_j60 m fx (some a) (some a') (nI n) (nI (i + 1)) else some 0 := by
      show fX3_mirror_j60s _ fx (some a) (some a') _ _ = _
      simp only [fX3_mirror_j60s, if_neg h1, Option.bind_some, h.ob, h'.ob, e1, sub_idx (show i < n by omega), e2, nI_1]
    rw [step]
    by_cases h2 : h10 (row i) = h10 (row' (n - 1 - i))
    · rw [if_pos h2]
      refine ⟨fun hq => g1 (fun j q1 q2 => hq j (by omega) q2), fun hq => g2 (fun hq2 => hq (fun j q1 q2 => ?_))⟩
      by_cases hij : j = i
      · subst hij; exact h2
      · exact hq2 j (by omega) q2
    · rw [if_neg h2]
      exact ⟨fun hq => absurd (hq i (Nat.le_refl _) (by omega)) h2, fun _ => rfl⟩
theorem m_mirror {qm : Nat} {fm : hPl} {B : Nat → Nat} {la sa ma ia cn : Nat → Int32} {mem car kp : Nat → Int64} {ke : Int32} (hM : MX qm fm B la sa ma ia cn mem car kp ke) {P P' k k' n : Nat} (hP : P < 8) (hP' : P' < 8) (hk : k < 10) (hk' : k' < 10) (hl : la P = nI k) (hl' : la P' = nI k') (hn : n ≤ 40) : ∀ (d i fuel : Nat), i + d = n → d < fuel →
    ((∀ j, i ≤ j → j < n → mOk (fun q => h10 (mem (40 * k + q))) (fun q => h10 (mem (40 * k' + q))) n j) → fX4_mirror_j61 fuel fm qm (nI P) (nI P') (nI n) 1 (nI i) = some 1) ∧ ((¬ ∀ j, i ≤ j → j < n → mOk (fun q => h10 (mem (40 * k + q))) (fun q => h10 (mem (40 * k' + q))) n j) → fX4_mirror_j61 fuel fm qm (nI P) (nI P') (nI n) 1 (nI i) = some 0) ∧ fX4_mirror_j61 fuel fm qm (nI P) (nI P') (nI n) 0 (nI i) = some 0 := by
  intro d
  induction d with
  | zero =>
    intro i fuel hi hf
    obtain ⟨m, rfl⟩ : ∃ m, fuel = m + 1 := ⟨fuel - 1, by omega⟩
    have h1 : nI n ≤ nI i := nI_le (by omega) (by omega)
    refine ⟨fun _ => ?_, fun hq => absurd (fun j h1 h2 => absurd h1 (by omega)) hq, ?_⟩
    · show fX4_mirror_j61s _ fm qm _ _ _ _ _ = _
      simp [fX4_mirror_j61s, h1]
    · show fX4_mirror_j61s _ fm qm _ _ _ _ _ = _
      simp [fX4_mirror_j61s, h1]
  | succ d ih =>
    intro i fuel hi hf
    obtain ⟨m, rfl⟩ : ∃ m, fuel = m + 1 := ⟨fuel - 1, by omega⟩
    have h1 : ¬ nI n ≤ nI i := nI_ge (by omega) (by omega)
    obtain ⟨g1, g2, g3⟩ := ih (i + 1) m (by omega) (by omega)
    have e1 := hM.kindAt hP hk hl (show i < 40 by omega)
    have e2 := hM.kindAt hP' hk' hl' (show n - 1 - i < 40 by omega)
    have step0 : fX4_mirror_j61 (m + 1) fm qm (nI P) (nI P') (nI n) 0 (nI i) = some 0 := by
      show fX4_mirror_j61s _ fm qm _ _ _ _ _ = _
      simp only [fX4_mirror_j61s, if_neg h1, nI_1, if_true]
      exact g3
    have step : fX4_mirror_j61 (m + 1) fm qm (nI P) (nI P') (nI n) 1 (nI i) = if h10 (mem (40 * k + i)) = h10 (mem (40 * k' + (n - 1 - i))) then fX4_mirror_j61 m fm qm (nI P) (nI P') (nI n) 1 (nI (i + 1)) else fX4_mirror_j61 m fm qm (nI P) (nI P') (nI n) 0 (nI (i + 1)) := by
      show fX4_mirror_j61s _ fm qm _ _ _ _ _ = _
      simp only [fX4_mirror_j61s, if_neg h1, Option.bind_some, hM.ob, e1, sub_idx (show i < n by omega), e2, nI_1]
      rw [if_neg (by decide)]
    refine ⟨?_, ?_, step0⟩ <;> rw [step]
    · intro hq
      rw [if_pos (show h10 (mem (40 * k + i)) = h10 (mem (40 * k' + (n - 1 - i))) from hq i (Nat.le_refl _) (by omega))]
      exact g1 (fun j q1 q2 => hq j (by omega) q2)
    · intro hq
      by_cases h2 : h10 (mem (40 * k + i)) = h10 (mem (40 * k' + (n - 1 - i)))
      · rw [if_pos h2]
        refine g2 (fun hq2 => hq (fun j q1 q2 => ?_))
        by_cases hij : j = i
        · subst hij; exact h2
        · exact hq2 j (by omega) q2
      · rw [if_neg h2]
        exact g3
/-- a place with a strand, or without one -/
theorem RB.strand {i qx : Nat} {fx : hPl} {qm : Nat} {fm : hPl} {B C φ ψ : Nat → Nat} {L : Nat → Option Nat} {K : Option Nat} {mn : Nat → Nat} {la sa ma ia cn : Nat → Int32} {mem car kp kr hr : Nat → Int64} {pr : Nat → Option Nat} (R : RB i qx fx qm fm B C φ ψ L K mn la sa ma ia cn mem car kp kr hr pr) (p : Int32) :
    ((∃ o, fX3_trayOn fx qx p = some o ∧ (o = none ∨ ∃ a, o = some a ∧ hob fx a 1 = some () ∧ fX2_isOfStones fx a = some 0)) ∧ (fX4_isPlace fm p = some 0 ∨ (fX4_isPlace fm p = some 1 ∧ ∃ s, fX4_sortOn fm qm p = some s ∧ fX4_isOfStones fm s = some 0))) ∨
    ∃ P k row, P < 8 ∧ p = nI P ∧ k < 10 ∧ la P = nI k ∧ ma k = nI (mn k) ∧ mn k ≤ 40 ∧ TT fx (φ k) (sa k) (ψ k) (mn k) row ∧ (∀ j, j < mn k → row j = mem (40 * k + j)) ∧ fX3_trayOn fx qx p = some (some (φ k)) ∧ fX2_isOfStones fx (φ k) = some 1 ∧ fX4_isPlace fm p = some 1 ∧ fX4_isOfStones fm (sa k) = some 1 := by
  have hM := R.1
  rcases hplace p with h1 | ⟨P, hP, rfl⟩
  · exact Or.inl ⟨⟨none, trayOn_no h1, Or.inl rfl⟩, Or.inl (fx_place_no h1).2⟩
  have hpm := (fx_place_yes (f := fm) hP).2
  rcases R.pl hP with ⟨h1, h2, h3⟩ | ⟨k, h1, hu, hk, h2, h3, h4, h5⟩
  · exact Or.inl ⟨⟨none, by rw [R.trayOn hP, h3, as_none], Or.inl rfl⟩, Or.inr ⟨hpm, 0, hM.sortOn0 hP h2, by simp [fX4_isOfStones]⟩⟩
  rcases h5 with ⟨h5, h6, h7⟩ | ⟨t1, t2, t3, t4, t5, ⟨row, t6, t7⟩, t8⟩
  · exact Or.inl ⟨⟨none, by rw [R.trayOn hP, h3, as_lamp h7], Or.inl rfl⟩, Or.inr ⟨hpm, sa k, hM.sortOn hP hk h2, by simp [h5, fX4_isOfStones]⟩⟩
  rcases stones_iff (f := fm) t1 t2 with ⟨q1, q2, q3⟩ | ⟨q1, q2, q3⟩
  · exact Or.inl ⟨⟨some (φ k), by rw [R.trayOn hP, h3, as_tray t6], Or.inr ⟨φ k, rfl, t6.ob, by rw [t6.stones, if_pos q1]⟩⟩, Or.inr ⟨hpm, sa k, hM.sortOn hP hk h2, q3⟩⟩
  · exact Or.inr ⟨P, k, row, hP, rfl, hk, h2, h4, t3, t6, t7, by rw [R.trayOn hP, h3, as_tray t6], by rw [t6.stones, if_neg q1], hpm, q3⟩
theorem R_mirror : hR2 RI fX3_mirror fX4_mirror := by
  intro i qx fx qm fm p p' h
  obtain ⟨B, C, φ, ψ, L, K, mn, la, sa, ma, ia, cn, mem, car, kp, kr, hr, pr, R⟩ := h
  have hM := R.1
  have hC := R.2.1
  rcases R.strand p with ⟨⟨o, x1, x2⟩, m1⟩ | ⟨P, k, row, hP, rfl, hk, hl, hma, hn, hT, hrow, x1, x2, m1, m2⟩
  · rcases R.strand p' with ⟨⟨o', y1, y2⟩, n1⟩ | ⟨P', k', row', hP', rfl, hk', hl', hma', hn', hT', hrow', y1, y2, n1, n2⟩
    · refine ⟨0, ?_, ?_⟩
      · rcases x2 with rfl | ⟨a, rfl, x3, x4⟩
        · simp [fX3_mirror, hC.ob, x1, y1]
        · rcases y2 with rfl | ⟨a', rfl, y3, y4⟩ <;> simp [fX3_mirror, hC.ob, x1, y1, x3, x4]
      · rcases m1 with m1 | ⟨m1, s, m2, m3⟩
        · simp [fX4_mirror, m1]
        · rcases n1 with n1 | ⟨n1, s', n2, n3⟩ <;> simp [fX4_mirror, m1, n1, hM.ob, m2, m3]
    · refine ⟨0, ?_, ?_⟩
      · rcases x2 with rfl | ⟨a, rfl, x3, x4⟩
        · simp [fX3_mirror, hC.ob, x1, y1]
        · simp [fX3_mirror, hC.ob, x1, y1, x3, x4]
      · rcases m1 with m1 | ⟨m1, s, m2, m3⟩
        · simp [fX4_mirror, m1]
        · simp [fX4_mirror, m1, n1, hM.ob, m2, m3]
  · have ms := hM.sortOn hP hk hl
    have mm := hM.manyOn hP hk hl
    rcases R.strand p' with ⟨⟨o', y1, y2⟩, n1⟩ | ⟨P', k', row', hP', rfl, hk', hl', hma', hn', hT', hrow', y1, y2, n1, n2⟩
    · refine ⟨0, ?_, ?_⟩
      · rcases y2 with rfl | ⟨a', rfl, y3, y4⟩
        · simp [fX3_mirror, hC.ob, x1, y1]
        · simp [fX3_mirror, hC.ob, x1, y1, hT.ob, x2, y3, y4]
      · rcases n1 with n1 | ⟨n1, s', n2, n3⟩
        · simp [fX4_mirror, m1, n1]
        · simp [fX4_mirror, m1, n1, hM.ob, ms, m2, n2, n3]
    · have ms' := hM.sortOn hP' hk' hl'
      have mm' := hM.manyOn hP' hk' hl'
      by_cases hnn : mn k = mn k'
      · have hT2 : TT fx (φ k') (sa k') (ψ k') (mn k) row' := by rw [hnn]; exact hT'
        obtain ⟨f1, f2⟩ := x_mirror hT hT2 hn (mn k) 0 64 (by omega) (by omega)
        obtain ⟨g1, g2, -⟩ := m_mirror hM hP hP' hk hk' hl hl' hn (mn k) 0 64 (by omega) (by omega)
        rw [nI_0] at f1 f2 g1 g2
        have hsame : ∀ j, j < mn k → (mOk (fun q => h10 (row q)) (fun q => h10 (row' q)) (mn k) j ↔ mOk (fun q => h10 (mem (40 * k + q))) (fun q => h10 (mem (40 * k' + q))) (mn k) j) := by
          intro j hj
          unfold mOk
          show (h10 (row j) = h10 (row' (mn k - 1 - j))) ↔ _
          rw [hrow j hj, hrow' (mn k - 1 - j) (by omega)]
        have e1 : fX3_mirror fx qx (nI P) (nI P') = fX3_mirror_j60 64 fx (some (φ k)) (some (φ k')) (nI (mn k)) 0 := by
          simp [fX3_mirror, hC.ob, x1, y1, hT.ob, hT'.ob, x2, y2, hT.size, hT'.size, hnn]
        have e2 : fX4_mirror fm qm (nI P) (nI P') = fX4_mirror_j61 64 fm qm (nI P) (nI P') (nI (mn k)) 1 0 := by
          simp [fX4_mirror, m1, n1, hM.ob, ms, ms', m2, n2, mm, mm', hma, hma', hnn]
        by_cases hall : ∀ j, 0 ≤ j → j < mn k → mOk (fun q => h10 (row q)) (fun q => h10 (row' q)) (mn k) j
        · exact ⟨1, by rw [e1]; exact f1 hall, by rw [e2]; exact g1 (fun j q1 q2 => (hsame j q2).mp (hall j q1 q2))⟩
        · exact ⟨0, by rw [e1]; exact f2 hall, by rw [e2]; exact g2 (fun hq => hall (fun j q1 q2 => (hsame j q2).mpr (hq j q1 q2)))⟩
      · have q1 : ¬ nI (mn k') = nI (mn k) := nI_ne (by omega) (by omega) (fun q => hnn q.symm)
        have q2 : ¬ nI (mn k) = nI (mn k') := nI_ne (by omega) (by omega) hnn
        exact ⟨0, by simp [fX3_mirror, hC.ob, x1, y1, hT.ob, hT'.ob, x2, y2, hT.size, hT'.size, q1], by simp [fX4_mirror, m1, n1, hM.ob, ms, ms', m2, n2, mm, mm', hma, hma', q2]⟩
