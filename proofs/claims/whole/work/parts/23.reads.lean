theorem nI_ne {a b : Nat} (ha : a < 2 ^ 31) (hb : b < 2 ^ 31) (h : a ≠ b) : ¬ nI a = nI b := fun e => h ((nI_eq ha hb).mp e)
theorem x_least {qx : Nat} {fx : hPl} {C : Nat → Nat} {pr : Nat → Option Nat} {kt : Option Nat} {kr hr : Nat → Int64} {cn : Nat → Int32} (hC : CX qx fx C pr kt kr hr cn) {o : Option Nat} {r : Nat} (hr8 : r < 8) (h1 : pr r = o) (h2 : ∀ q, q < r → pr q ≠ o) : ∀ (d q fuel : Nat), q + d = r → d < fuel → fX3_leastPlaceOf_j2 fuel fx qx o (nI q) = some (nI r) := by
  intro d
  induction d with
  | zero =>
    intro q fuel hq hf
    obtain ⟨n, rfl⟩ : ∃ n, fuel = n + 1 := ⟨fuel - 1, by omega⟩
    have hqr : q = r := by omega
    subst hqr
    have h3 : ¬ (8 : Int32) ≤ nI q := by rw [show (8 : Int32) = nI 8 from by decide, nI_leI (by omega) (by omega)]; omega
    show fX3_leastPlaceOf_j2s _ fx qx o (nI q) = _
    simp [fX3_leastPlaceOf_j2s, h3, hC.q0, hC.lp hr8, h1]
  | succ d ih =>
    intro q fuel hq hf
    obtain ⟨n, rfl⟩ : ∃ n, fuel = n + 1 := ⟨fuel - 1, by omega⟩
    have h3 : ¬ (8 : Int32) ≤ nI q := by rw [show (8 : Int32) = nI 8 from by decide, nI_leI (by omega) (by omega)]; omega
    have h4 := ih (q + 1) n (by omega) (by omega)
    show fX3_leastPlaceOf_j2s _ fx qx o (nI q) = _
    simp [fX3_leastPlaceOf_j2s, h3, hC.q0, hC.lp (show q < 8 by omega), h2 q (by omega), nI_1, h4]
theorem m_least {qm : Nat} {fm : hPl} {B : Nat → Nat} {la sa ma ia cn : Nat → Int32} {mem car kp : Nat → Int64} {ke : Int32} (hM : MX qm fm B la sa ma ia cn mem car kp ke) {P r : Nat} (hP : P < 8) (hr : r ≤ P) (h1 : la r = la P) (h2 : ∀ q, q < r → la q ≠ la P) : ∀ (d q fuel : Nat), q + d = r → d < fuel → fX4_thing_j53 fuel fm qm (nI P) (nI q) = some (nI r) := by
  intro d
  induction d with
  | zero =>
    intro q fuel hq hf
    obtain ⟨n, rfl⟩ : ∃ n, fuel = n + 1 := ⟨fuel - 1, by omega⟩
    have hqr : q = r := by omega
    subst hqr
    show fX4_thing_j53s _ fm qm (nI P) (nI q) = _
    by_cases h3 : nI P ≤ nI q
    · simp [fX4_thing_j53s, h3]
    · simp [fX4_thing_j53s, h3, hM.q0, hM.l0 hP, hM.l0 (show q < 8 by omega), h1]
  | succ d ih =>
    intro q fuel hq hf
    obtain ⟨n, rfl⟩ : ∃ n, fuel = n + 1 := ⟨fuel - 1, by omega⟩
    have h3 : ¬ nI P ≤ nI q := by rw [nI_leI (by omega) (by omega)]; omega
    have h4 := ih (q + 1) n (by omega) (by omega)
    show fX4_thing_j53s _ fm qm (nI P) (nI q) = _
    simp [fX4_thing_j53s, h3, hM.q0, hM.l0 hP, hM.l0 (show q < 8 by omega), h2 q (by omega), nI_1, h4]
theorem R_thing : hR2 RI fX3_thing fX4_thing := by
  intro i qx fx qm fm p x h
  obtain ⟨B, C, φ, ψ, L, K, mn, la, sa, ma, ia, cn, mem, car, kp, kr, hr, pr, R⟩ := h
  have hM := R.1
  have hC := R.2.1
  rcases hplace p with h1 | ⟨P, hP, rfl⟩
  · exact ⟨-1, by simp [fX3_thing, (fx_place_no (f := fx) h1).1], by simp [fX4_thing, (fx_place_no (f := fm) h1).2]⟩
  have hpx := (fx_place_yes (f := fx) hP).1
  have hpm := (fx_place_yes (f := fm) hP).2
  rcases pk_ix x (n := 3) (by omega) with h1 | h1 | ⟨j, hj, rfl⟩
  · have h2 := hneg h1
    exact ⟨-1, by simp [fX3_thing, hpx, hC.q0, hC.lp hP, h2], by simp [fX4_thing, hpm, h1]⟩
  · have h2 : 2 < x.toInt := by
      have := Int32.le_iff_toInt_le.mp h1
      rw [nI_toInt (by omega)] at this
      omega
    have h3 : ¬ x < 0 := fun h => by
      have := hneg h
      omega
    have h4 : ¬ x ≤ 2 := fun h => by
      have := Int32.le_iff_toInt_le.mp h
      have e : (2 : Int32).toInt = 2 := by decide
      omega
    exact ⟨-1, by simp [fX3_thing, hpx, hC.q0, hC.lp hP, h2], by simp [fX4_thing, hpm, h3, h4]⟩
  rcases (show j = 0 ∨ j = 1 ∨ j = 2 by omega) with rfl | rfl | rfl
  · show ∃ r, fX3_thing fx qx (nI P) 0 = some r ∧ fX4_thing fm qm (nI P) 0 = some r
    rcases R.pl hP with ⟨h1, h2, h3⟩ | ⟨k, h1, hu, hk, h2, h3, h4, h5⟩
    · exact ⟨0, by simp [fX3_thing, hpx, hC.q0, hC.lp hP, h3], by simp [fX4_thing, hpm, hM.ob, hM.sortOn0 hP h2]⟩
    · refine ⟨sa k, ?_, by simp [fX4_thing, hpm, hM.ob, hM.sortOn hP hk h2]⟩
      rcases h5 with ⟨h5, h6, h7⟩ | ⟨t1, t2, t3, t4, t5, ⟨row, t6, t7⟩, t8⟩
      · simp [fX3_thing, hpx, hC.q0, hC.lp hP, h3, h7.sort, h5]
      · simp [fX3_thing, hpx, hC.q0, hC.lp hP, h3, t6.sort]
  · show ∃ r, fX3_thing fx qx (nI P) 1 = some r ∧ fX4_thing fm qm (nI P) 1 = some r
    rcases R.pl hP with ⟨h1, h2, h3⟩ | ⟨k, h1, hu, hk, h2, h3, h4, h5⟩
    · exact ⟨0, by simp [fX3_thing, hpx, hC.q0, hC.lp hP, h3, fX3_sizeOf, as_none], by simp [fX4_thing, hpm, hM.ob, hM.manyOn0 hP h2]⟩
    · refine ⟨ma k, ?_, by simp [fX4_thing, hpm, hM.ob, hM.manyOn hP hk h2]⟩
      rcases h5 with ⟨h5, h6, h7⟩ | ⟨t1, t2, t3, t4, t5, ⟨row, t6, t7⟩, t8⟩
      · have h8 : ma k = 0 := by rw [h4, h6]; rfl
        simp [fX3_thing, hpx, hC.q0, hC.lp hP, h3, fX3_sizeOf, as_lamp h7, h8]
      · simp [fX3_thing, hpx, hC.q0, hC.lp hP, h3, fX3_sizeOf, as_tray t6, t6.ob, t6.size, h4]
  · show ∃ r, fX3_thing fx qx (nI P) 2 = some r ∧ fX4_thing fm qm (nI P) 2 = some r
    rcases R.pl hP with ⟨h1, h2, h3⟩ | ⟨k, h1, hu, hk, h2, h3, h4, h5⟩
    · exact ⟨nI P, by simp [fX3_thing, hpx, hC.q0, hC.lp hP, h3], by simp [fX4_thing, hpm, hM.q0, hM.l0 hP, h2]⟩
    · obtain ⟨r, hr1, hr2⟩ := pk_least (fun q => L q = some k ∧ q ≤ P) ⟨P, h1, Nat.le_refl P⟩
      have hr8 : r < 8 := by omega
      have e1 : la r = la P := by rw [(R.2.2.1 r hr8).1, hr1.1, h2]; rfl
      have e2 : ∀ q, q < r → la q ≠ la P := by
        intro q hq he
        have hq8 : q < 8 := by omega
        rw [(R.2.2.1 q hq8).1, h2] at he
        refine hr2 q hq ⟨?_, by omega⟩
        cases hL : L q with
        | none => rw [hL] at he; exact absurd he.symm (hsh_aux (by omega))
        | some k2 =>
          rw [hL] at he
          have hk2 := (R.2.2.2.1 k2 (Or.inl ⟨q, hq8, hL⟩)).1
          rw [(nI_eq (by omega) (by omega)).mp he]
      have e3 : pr r = some (φ k) := by rw [(R.2.2.1 r hr8).2, hr1.1]; rfl
      have e4 : ∀ q, q < r → pr q ≠ some (φ k) := by
        intro q hq he
        have hq8 : q < 8 := by omega
        rw [(R.2.2.1 q hq8).2] at he
        refine hr2 q hq ⟨?_, by omega⟩
        cases hL : L q with
        | none => rw [hL] at he; cases he
        | some k2 =>
          rw [hL] at he
          have he2 : φ k2 = φ k := Option.some.inj he
          by_cases hkk : k2 = k
          · rw [hkk]
          · exact absurd he2 (R.2.2.2.2.1 k2 k (Or.inl ⟨q, hq8, hL⟩) hu hkk).1
      have f1 := x_least hC hr8 e3 e4 r 0 64 (by omega) (by omega)
      have f2 := m_least hM hP hr1.2 e1 e2 r 0 64 (by omega) (by omega)
      rw [nI_0] at f1 f2
      exact ⟨nI r, by simp [fX3_thing, hpx, hC.q0, hC.lp hP, h3, hC.ob, fX3_leastPlaceOf, f1], by simp [fX4_thing, hpm, hM.q0, hM.l0 hP, h2, hsh_aux (show k < 2 ^ 31 by omega), f2]⟩
/-! worth -/
def wk (t : Int32) : Int32 := if t = 1 then 1 else if t = 2 then 4 else if t = 3 then 20 else if t = 4 then 15 else 0
def bf (t : Nat → Int32) (i : Nat) : Int32 := if i = 0 then 0 else t (i - 1)
def wS (t : Nat → Int32) : Nat → Int32
  | 0 => 0
  | i + 1 => if t i = bf t i ∧ (t i = 3 ∨ t i = 4) then (wS t i + wk (t i)) + 5 else wS t i + wk (t i)
theorem x_wk {fx : hPl} {t : Int32} (h : t = 0 ∨ t = 1 ∨ t = 2 ∨ t = 3 ∨ t = 4) : fX3_worthOfStone fx t = some (wk t) := by
  rcases h with rfl | rfl | rfl | rfl | rfl <;> simp [fX3_worthOfStone, wk]
theorem x_round {fx : hPl} {t : Int32} : fX3_isRound fx t = some (if t = 3 ∨ t = 4 then 1 else 0) := by
  by_cases h3 : t = 3 <;> by_cases h4 : t = 4 <;> simp [fX3_isRound, h3, h4]
theorem x_worth {fx : hPl} {a b n : Nat} {s : Int32} {row : Nat → Int64} (h : TT fx a s b n row) (hn : n ≤ 40) (hg : ∀ i, i < n → GD (row i)) : ∀ (d i fuel : Nat), i + d = n → d < fuel → fX3_worth_j27 fuel fx (some a) (wS (fun j => h10 (row j)) i) (bf (fun j => h10 (row j)) i) (nI i) = some (wS (fun j => h10 (row j)) n) := by
  intro d
  induction d with
  | zero =>
    intro i fuel hi hf
    obtain ⟨m, rfl⟩ : ∃ m, fuel = m + 1 := ⟨fuel - 1, by omega⟩
    have h1 : nI n ≤ nI i := nI_le (by omega) (by omega)
    have hin : i = n := by omega
    subst hin
    show fX3_worth_j27s _ fx (some a) _ _ _ = _
    simp [fX3_worth_j27s, h.ob, h.size]
  | succ d ih =>
    intro i fuel hi hf
    obtain ⟨m, rfl⟩ : ∃ m, fuel = m + 1 := ⟨fuel - 1, by omega⟩
    have h1 : ¬ nI n ≤ nI i := nI_ge (by omega) (by omega)
    have h2 := ih (i + 1) m (by omega) (by omega)
    have h3 := h.kind hn (show i < n by omega)
    have h4 : bf (fun j => h10 (row j)) (i + 1) = h10 (row i) := by simp [bf]
    have h5 : fX3_worthOfStone fx (h10 (row i)) = some (wk (h10 (row i))) := x_wk (hg i (by omega))
    show fX3_worth_j27s _ fx (some a) _ _ _ = _
    simp only [fX3_worth_j27s, Option.bind_some, h.ob, h.size, if_neg h1, h3, h5]
    rw [h4] at h2
    by_cases h6 : h10 (row i) = bf (fun j => h10 (row j)) i
    · rw [if_pos h6, x_round, Option.bind_some]
      by_cases h7 : h10 (row i) = 3 ∨ h10 (row i) = 4
      · have h8 : wS (fun j => h10 (row j)) (i + 1) = (wS (fun j => h10 (row j)) i + wk (h10 (row i))) + 5 := if_pos ⟨h6, h7⟩
        rw [h8] at h2
        rw [if_pos h7, if_neg (by decide), nI_1]
        exact h2
      · have h8 : wS (fun j => h10 (row j)) (i + 1) = wS (fun j => h10 (row j)) i + wk (h10 (row i)) := if_neg (fun q => h7 q.2)
        rw [h8] at h2
        rw [if_neg h7, if_pos rfl, nI_1]
        exact h2
    · have h8 : wS (fun j => h10 (row j)) (i + 1) = wS (fun j => h10 (row j)) i + wk (h10 (row i)) := if_neg (fun q => h6 q.1)
      rw [h8] at h2
      rw [if_neg h6, nI_1]
      exact h2
theorem m_worth {qm : Nat} {fm : hPl} {B : Nat → Nat} {la sa ma ia cn : Nat → Int32} {mem car kp : Nat → Int64} {ke : Int32} (hM : MX qm fm B la sa ma ia cn mem car kp ke) {P k n : Nat} (hP : P < 8) (hk : k < 10) (hl : la P = nI k) (hn : n ≤ 40) (hma : ma k = nI n) (hg : ∀ i, i < n → GD (mem (40 * k + i))) : ∀ (d i fuel : Nat), i + d = n → d < fuel → fX4_worth_j24 fuel fm qm (nI P) (wS (fun j => h10 (mem (40 * k + j))) i) (nI i) = some (wS (fun j => h10 (mem (40 * k + j))) n) := by
  intro d
  induction d with
  | zero =>
    intro i fuel hi hf
    obtain ⟨m, rfl⟩ : ∃ m, fuel = m + 1 := ⟨fuel - 1, by omega⟩
    have h1 : nI n ≤ nI i := nI_le (by omega) (by omega)
    have hin : i = n := by omega
    subst hin
    show fX4_worth_j24s _ fm qm (nI P) _ _ = _
    simp [fX4_worth_j24s, hM.ob, hM.manyOn hP hk hl, hma]
  | succ d ih =>
    intro i fuel hi hf
    obtain ⟨m, rfl⟩ : ∃ m, fuel = m + 1 := ⟨fuel - 1, by omega⟩
    have h1 : ¬ nI n ≤ nI i := nI_ge (by omega) (by omega)
    have h2 := ih (i + 1) m (by omega) (by omega)
    have h3 := hM.kindAt hP hk hl (show i < 40 by omega)
    have h6 : ∀ (x : Int32), x = wS (fun j => h10 (mem (40 * k + j))) i + wk (h10 (mem (40 * k + i))) → fX4_worth_j77 (fX4_worth_j24 m) fm qm (nI P) x (nI i) (h10 (mem (40 * k + i))) = some (wS (fun j => h10 (mem (40 * k + j))) n) := by
      intro x hx
      unfold fX4_worth_j77
      rw [nI_1]
      by_cases h7 : nI i ≤ 0
      · have hi0 : i = 0 := by
          rw [← nI_0, nI_leI (by omega) (by omega)] at h7
          omega
        subst hi0
        have h8 : wS (fun j => h10 (mem (40 * k + j))) (0 + 1) = wS (fun j => h10 (mem (40 * k + j))) 0 + wk (h10 (mem (40 * k + 0))) := by
          refine if_neg (fun q => ?_)
          have q1 : h10 (mem (40 * k + 0)) = 0 := q.1
          rcases q.2 with q2 | q2
          · have q3 : h10 (mem (40 * k + 0)) = 3 := q2
            rw [q1] at q3
            exact absurd q3 (by decide)
          · have q3 : h10 (mem (40 * k + 0)) = 4 := q2
            rw [q1] at q3
            exact absurd q3 (by decide)
        rw [if_pos h7, hx, ← h8]
        exact h2
      · have hi0 : 0 < i := by
          rcases Nat.eq_zero_or_pos i with q | q
          · rw [q, nI_0] at h7
            exact absurd (by decide) h7
          · exact q
        rw [if_neg h7]
        have h9 : bf (fun j => h10 (mem (40 * k + j))) i = h10 (mem (40 * k + (i - 1))) := by
          unfold bf
          rw [if_neg (by omega)]
        by_cases h8 : h10 (mem (40 * k + i)) < 3
        · have h10' : wS (fun j => h10 (mem (40 * k + j))) (i + 1) = wS (fun j => h10 (mem (40 * k + j))) i + wk (h10 (mem (40 * k + i))) := by
            refine if_neg (fun q => ?_)
            rcases q.2 with q2 | q2
            · have q3 : h10 (mem (40 * k + i)) = 3 := q2
              rw [q3] at h8
              exact absurd h8 (by decide)
            · have q3 : h10 (mem (40 * k + i)) = 4 := q2
              rw [q3] at h8
              exact absurd h8 (by decide)
          rw [if_pos h8, hx, ← h10']
          exact h2
        · have h34 : h10 (mem (40 * k + i)) = 3 ∨ h10 (mem (40 * k + i)) = 4 := by
            rcases hg i (by omega) with q | q | q | q | q
            · rw [q] at h8; exact absurd (by decide) h8
            · rw [q] at h8; exact absurd (by decide) h8
            · rw [q] at h8; exact absurd (by decide) h8
            · exact Or.inl q
            · exact Or.inr q
          have e1 : nI i - 1 = nI (i - 1) := by rw [nI_one, pk_sub (by omega)]
          have h11 := hM.kindAt hP hk hl (show i - 1 < 40 by omega)
          rw [if_neg h8, hM.ob, Option.bind_some, e1, h11, Option.bind_some]
          by_cases h12 : h10 (mem (40 * k + (i - 1))) = h10 (mem (40 * k + i))
          · have h13 : wS (fun j => h10 (mem (40 * k + j))) (i + 1) = (wS (fun j => h10 (mem (40 * k + j))) i + wk (h10 (mem (40 * k + i)))) + 5 := if_pos ⟨by rw [h9]; exact h12.symm, h34⟩
            rw [if_pos h12, hx, ← h13]
            exact h2
          · have h13 : wS (fun j => h10 (mem (40 * k + j))) (i + 1) = wS (fun j => h10 (mem (40 * k + j))) i + wk (h10 (mem (40 * k + i))) := if_neg (fun q => h12 (by rw [← h9]; exact q.1.symm))
            rw [if_neg h12, hx, ← h13]
            exact h2
    show fX4_worth_j24s _ fm qm (nI P) _ _ = _
    simp only [fX4_worth_j24s, hM.ob, Option.bind_some, hM.manyOn hP hk hl, hma, if_neg h1, h3]
    rcases hg i (by omega) with q | q | q | q | q
    · simp only [q] at h6 ⊢
      simp [fX4_worth_j59]
      refine h6 _ ?_
      simp [wk]
    · simp only [q] at h6 ⊢
      simp [fX4_worth_j59]
      refine h6 _ ?_
      simp [wk]
    · simp only [q] at h6 ⊢
      simp [fX4_worth_j59]
      refine h6 _ ?_
      simp [wk]
    · simp only [q] at h6 ⊢
      simp [fX4_worth_j59]
      refine h6 _ ?_
      simp [wk]
    · simp only [q] at h6 ⊢
      simp [fX4_worth_j59]
      refine h6 _ ?_
      simp [wk]
theorem wS_congr {t u : Nat → Int32} {n : Nat} (h : ∀ j, j < n → t j = u j) : ∀ i, i ≤ n → wS t i = wS u i := by
  intro i
  induction i with
  | zero => intro _; rfl
  | succ i ih =>
    intro hi
    have h1 := ih (by omega)
    have h2 := h i (by omega)
    have h3 : bf t i = bf u i := by
      unfold bf
      by_cases q : i = 0
      · rw [if_pos q, if_pos q]
      · rw [if_neg q, if_neg q]; exact h _ (by omega)
    unfold wS
    rw [h1, h2, h3]
theorem stones_iff {f : hPl} {s : Int32} (h1 : 2 ≤ s.toInt) (h2 : s.toInt ≤ 10) : (s < 6 ∧ s.toInt < 6 ∧ fX4_isOfStones f s = some 0) ∨ (¬ s < 6 ∧ 6 ≤ s.toInt ∧ fX4_isOfStones f s = some 1) := by
  have e6 : (6 : Int32).toInt = 6 := by decide
  have e10 : (10 : Int32).toInt = 10 := by decide
  by_cases h : s < 6
  · have := Int32.lt_iff_toInt_lt.mp h
    exact Or.inl ⟨h, by omega, by simp [fX4_isOfStones, h]⟩
  · have h3 : ¬ s.toInt < (6 : Int32).toInt := fun q => h (Int32.lt_iff_toInt_lt.mpr q)
    have h4 : ¬ (10 : Int32) < s := fun q => by have := Int32.lt_iff_toInt_lt.mp q; omega
    exact Or.inr ⟨h, by omega, by simp [fX4_isOfStones, h, h4]⟩
theorem R_worth : hR1 RI fX3_worth fX4_worth := by
  intro i qx fx qm fm p h
  obtain ⟨B, C, φ, ψ, L, K, mn, la, sa, ma, ia, cn, mem, car, kp, kr, hr, pr, R⟩ := h
  have hM := R.1
  have hC := R.2.1
  rcases hplace p with h1 | ⟨P, hP, rfl⟩
  · exact ⟨-1, by simp [fX3_worth, hC.ob, trayOn_no h1], by simp [fX4_worth, (fx_place_no (f := fm) h1).2]⟩
  have hpm := (fx_place_yes (f := fm) hP).2
  rcases R.pl hP with ⟨h1, h2, h3⟩ | ⟨k, h1, hu, hk, h2, h3, h4, h5⟩
  · exact ⟨-1, by simp [fX3_worth, hC.ob, R.trayOn hP, h3, as_none], by simp [fX4_worth, hpm, hM.ob, hM.sortOn0 hP h2, fX4_isOfStones]⟩
  rcases h5 with ⟨h5, h6, h7⟩ | ⟨t1, t2, t3, t4, t5, ⟨row, t6, t7⟩, t8⟩
  · exact ⟨-1, by simp [fX3_worth, hC.ob, R.trayOn hP, h3, as_lamp h7], by simp [fX4_worth, hpm, hM.ob, hM.sortOn hP hk h2, h5, fX4_isOfStones]⟩
  rcases stones_iff (f := fm) t1 t2 with ⟨q1, q2, q3⟩ | ⟨q1, q2, q3⟩
  · exact ⟨-1, by simp [fX3_worth, hC.ob, R.trayOn hP, h3, as_tray t6, t6.ob, t6.stones, q1], by simp [fX4_worth, hpm, hM.ob, hM.sortOn hP hk h2, q3]⟩
  · have g0 := t8 q2
    have g1 : ∀ j, j < mn k → GD (row j) := fun j hj => by rw [t7 j hj]; exact g0 j hj
    have f1 := x_worth t6 t3 g1 (mn k) 0 64 (by omega) (by omega)
    have f2 := m_worth hM hP hk h2 t3 h4 g0 (mn k) 0 64 (by omega) (by omega)
    have f3 := wS_congr (t := fun j => h10 (row j)) (u := fun j => h10 (mem (40 * k + j))) (n := mn k) (fun j hj => by show h10 (row j) = _; rw [t7 j hj]) (mn k) (Nat.le_refl _)
    rw [f3] at f1
    rw [nI_0] at f1 f2
    have f1 : fX3_worth_j27 64 fx (some (φ k)) 0 0 0 = _ := f1
    have f2 : fX4_worth_j24 64 fm qm (nI P) 0 0 = _ := f2
    exact ⟨_, by simp [fX3_worth, hC.ob, R.trayOn hP, h3, as_tray t6, t6.ob, t6.stones, q1]; exact f1, by simp [fX4_worth, hpm, hM.ob, hM.sortOn hP hk h2, q3]; exact f2⟩
