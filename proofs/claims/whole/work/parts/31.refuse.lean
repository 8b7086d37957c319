/-- an end of a sweep: nothing, a Lamp, a Tray -/
def EP (fx : hPl) (o : Option Nat) (s m : Int32) : Prop :=
  (o = none ∧ s = 0) ∨ (∃ a v, o = some a ∧ s = 1 ∧ TL fx a v) ∨ ∃ a b n row, o = some a ∧ 2 ≤ s.toInt ∧ s.toInt ≤ 10 ∧ n ≤ 40 ∧ m = nI n ∧ TT fx a s b n row
/-- a run lies in a row of m -/
def RN (i n : Int32) (m : Nat) : Prop := ∃ I N : Nat, I < 2 ^ 31 ∧ N < 2 ^ 31 ∧ i = nI I ∧ n = nI N ∧ I + N ≤ m
theorem TT.run_yes {fx : hPl} {a b n : Nat} {s : Int32} {row : Nat → Int64} (h : TT fx a s b n row) (hn : n ≤ 40) {i m : Int32} (hr : RN i m n) : fX2_hasRun fx a i m = some 1 := by
  obtain ⟨I, N, h1, h2, rfl, rfl, h3⟩ := hr
  rw [h.run hn h1 h2, if_pos h3]
theorem TT.run_no {fx : hPl} {a b n : Nat} {s : Int32} {row : Nat → Int64} (h : TT fx a s b n row) (hn : n ≤ 40) {i m : Int32} (hr : ¬ RN i m n) : fX2_hasRun fx a i m = some 0 := by
  by_cases h1 : i < 0
  · exact run_neg1 h1
  · by_cases h2 : m < 0
    · exact run_neg2 h2
    · obtain ⟨I, g1, rfl⟩ := nI_of h1
      obtain ⟨N, g2, rfl⟩ := nI_of h2
      rw [h.run hn g1 g2, if_neg (fun q => hr ⟨I, N, g1, g2, rfl, rfl, q⟩)]
/-- the reference's look at the runs -/
theorem m_runs {f : hPl} {a b i j n : Int32} {n1 n2 : Nat} (ha : ¬ a = 1) (hb : ¬ b = 1) (h1 : n1 ≤ 40) (h2 : n2 ≤ 40) : (RN i n n1 ∧ RN j n n2 → fX4_refusal_j34 f a (nI n1) i b (nI n2) j n 1 = some 0) ∧ (¬ (RN i n n1 ∧ RN j n n2) → fX4_refusal_j34 f a (nI n1) i b (nI n2) j n 1 = some 3) := by
  have e3 : ∀ x, fX4_refusal_j72 f (nI n1) i (nI n2) j n 1 = x → fX4_refusal_j72 f (nI n1) i (nI n2) j n 1 = x := fun _ h => h
  have beyond : fX4_refusal_j72 f (nI n1) i (nI n2) j n 1 = some 3 := by simp [fX4_refusal_j72, fX4_refusal_j98, fX4_refusal_j127]
  by_cases hi : i < 0
  · refine ⟨fun ⟨⟨I, N, g1, g2, q, _, _⟩, _⟩ => ?_, fun _ => by simp [fX4_refusal_j34, ha, hb, hi, beyond]⟩
    rw [q] at hi
    exact absurd hi (nI_pos g1)
  by_cases hj : j < 0
  · refine ⟨fun ⟨_, ⟨I, N, g1, g2, q, _, _⟩⟩ => ?_, fun _ => by simp [fX4_refusal_j34, ha, hb, hi, hj, beyond]⟩
    rw [q] at hj
    exact absurd hj (nI_pos g1)
  by_cases hn : n < 0
  · have hn0 : ¬ (0 : Int32) ≤ n := Int32.not_le.mpr hn
    refine ⟨fun ⟨⟨I, N, g1, g2, _, q, _⟩, _⟩ => ?_, fun _ => by simp [fX4_refusal_j34, ha, hb, hi, hj, hn0, beyond]⟩
    rw [q] at hn
    exact absurd hn (nI_pos g2)
  have hn0 : (0 : Int32) ≤ n := Int32.not_lt.mp hn
  obtain ⟨I, gI, rfl⟩ := nI_of hi
  obtain ⟨J, gJ, rfl⟩ := nI_of hj
  obtain ⟨N, gN, rfl⟩ := nI_of hn
  have r1 : RN (nI I) (nI N) n1 ↔ I + N ≤ n1 := ⟨fun ⟨I', N', a1, a2, a3, a4, a5⟩ => by rw [(nI_eq gI a1).mp a3, (nI_eq gN a2).mp a4]; exact a5, fun q => ⟨I, N, gI, gN, rfl, rfl, q⟩⟩
  have r2 : RN (nI J) (nI N) n2 ↔ J + N ≤ n2 := ⟨fun ⟨I', N', a1, a2, a3, a4, a5⟩ => by rw [(nI_eq gJ a1).mp a3, (nI_eq gN a2).mp a4]; exact a5, fun q => ⟨J, N, gJ, gN, rfl, rfl, q⟩⟩
  rw [r1, r2]
  have start : fX4_refusal_j34 f a (nI n1) (nI I) b (nI n2) (nI J) (nI N) 1 = fX4_refusal_j72 f (nI n1) (nI I) (nI n2) (nI J) (nI N) 0 := by simp [fX4_refusal_j34, ha, hb, hi, hj, hn0]
  rw [start]
  have b98 : fX4_refusal_j98 f (nI n2) (nI J) (nI N) 1 = some 3 := by simp [fX4_refusal_j98, fX4_refusal_j127]
  have s98 : (J + N ≤ n2 → fX4_refusal_j98 f (nI n2) (nI J) (nI N) 0 = some 0) ∧ (¬ J + N ≤ n2 → fX4_refusal_j98 f (nI n2) (nI J) (nI N) 0 = some 3) := by
    by_cases q1 : n2 < N
    · have q2 : nI n2 < nI N := nI_lt q1 gN
      exact ⟨fun q => absurd q (by omega), fun _ => by simp [fX4_refusal_j98, q2, fX4_refusal_j127]⟩
    · have q2 : ¬ nI n2 < nI N := nI_nlt (by omega) (by omega)
      have q3 : nI n2 - nI N = nI (n2 - N) := pk_sub (by omega)
      by_cases q4 : J ≤ n2 - N
      · have q5 : nI J ≤ nI (n2 - N) := nI_le q4 (by omega)
        exact ⟨fun _ => by simp [fX4_refusal_j98, q2, q3, q5, fX4_refusal_j127], fun q => absurd (by omega) q⟩
      · have q5 : ¬ nI J ≤ nI (n2 - N) := nI_ge (by omega) gJ
        exact ⟨fun q => absurd q (by omega), fun _ => by simp [fX4_refusal_j98, q2, q3, q5, fX4_refusal_j127]⟩
  by_cases q1 : n1 < N
  · have q2 : nI n1 < nI N := nI_lt q1 gN
    exact ⟨fun q => absurd q.1 (by omega), fun _ => by simp [fX4_refusal_j72, q2, b98]⟩
  · have q2 : ¬ nI n1 < nI N := nI_nlt (by omega) (by omega)
    have q3 : nI n1 - nI N = nI (n1 - N) := pk_sub (by omega)
    by_cases q4 : I ≤ n1 - N
    · have q5 : nI I ≤ nI (n1 - N) := nI_le q4 (by omega)
      refine ⟨fun q => by simp [fX4_refusal_j72, q2, q3, q5, s98.1 q.2], fun q => ?_⟩
      have q6 : ¬ J + N ≤ n2 := fun w => q ⟨by omega, w⟩
      simp [fX4_refusal_j72, q2, q3, q5, s98.2 q6]
    · have q5 : ¬ nI I ≤ nI (n1 - N) := nI_ge (by omega) gI
      exact ⟨fun q => absurd q.1 (by omega), fun _ => by simp [fX4_refusal_j72, q2, q3, q5, b98]⟩
theorem ne_of_toInt {s : Int32} {c : Int32} (h : s.toInt ≠ c.toInt) : ¬ s = c := fun e => h (by rw [e])
/-- refused alike, or carried -/
theorem sw_ref {fx : hPl} {qx z : Nat} {o1 o2 : Option Nat} {s1 m1 s2 m2 : Int32} (E1 : EP fx o1 s1 m1) (E2 : EP fx o2 s2 m2) (i j n kp : Int32) :
    (∃ r : Nat, (r = 1 ∨ r = 2 ∨ r = 3) ∧ fX3_sweepOrRefuse fx z qx o1 i o2 j n kp = some (nI r, fx, z) ∧ ∀ fm, fX4_refusal fm s1 m1 i s2 m2 j n = some (nI r)) ∨
    ∃ a1 b1 n1 row1 a2 b2 n2 row2 I J N, o1 = some a1 ∧ o2 = some a2 ∧ TT fx a1 s1 b1 n1 row1 ∧ TT fx a2 s2 b2 n2 row2 ∧ n1 ≤ 40 ∧ n2 ≤ 40 ∧ i = nI I ∧ j = nI J ∧ n = nI N ∧ I + N ≤ n1 ∧ J + N ≤ n2 ∧ (6 ≤ s2.toInt → 6 ≤ s1.toInt) ∧ (∀ fm, fX4_refusal fm s1 m1 i s2 m2 j n = some 0) ∧
      fX3_sweepOrRefuse fx z qx o1 i o2 j n kp = (if kp = 0 then fX3_sweepOrRefuse_j80 fx z qx i j n (some a1) (some a2) else (hob fx qx 2).bind fun _ => (fX3_keep fx z qx (some a2)).bind fun r => fX3_sweepOrRefuse_j80 r.2.1 r.2.2 qx i j n (some a1) (some a2)) := by
  have t1 : (1 : Int32).toInt = 1 := by decide
  have t0 : (0 : Int32).toInt = 0 := by decide
  have one : nI 1 = 1 := by decide
  have two : nI 2 = 2 := by decide
  have three : nI 3 = 3 := by decide
  rcases E1 with ⟨rfl, rfl⟩ | E1
  · exact Or.inl ⟨1, Or.inl rfl, by simp [fX3_sweepOrRefuse, one], fun fm => by simp [fX4_refusal, one]⟩
  have hs1 : ¬ s1 = 0 := by
    rcases E1 with ⟨a, v, -, h, -⟩ | ⟨a, b, n, row, -, h, -⟩
    · rw [h]; decide
    · exact ne_of_toInt (by omega)
  have ho1 : ∃ a, o1 = some a := by
    rcases E1 with ⟨a, v, h, -⟩ | ⟨a, b, n, row, h, -⟩ <;> exact ⟨a, h⟩
  obtain ⟨a1, rfl⟩ := ho1
  rcases E2 with ⟨rfl, rfl⟩ | E2
  · exact Or.inl ⟨1, Or.inl rfl, by simp [fX3_sweepOrRefuse, one], fun fm => by simp [fX4_refusal, hs1, one]⟩
  have hs2 : ¬ s2 = 0 := by
    rcases E2 with ⟨a, v, -, h, -⟩ | ⟨a, b, n, row, -, h, -⟩
    · rw [h]; decide
    · exact ne_of_toInt (by omega)
  have ho2 : ∃ a, o2 = some a := by
    rcases E2 with ⟨a, v, h, -⟩ | ⟨a, b, n, row, h, -⟩ <;> exact ⟨a, h⟩
  obtain ⟨a2, rfl⟩ := ho2
  -- the second end's own view of being no Tray
  have as2 : ∃ o, fX3_asTray fx (some a2) = some o := by
    rcases E2 with ⟨a, v, h, -, h3⟩ | ⟨a, b, n, row, h, -, -, -, -, h3⟩
    · cases h; exact ⟨none, as_lamp h3⟩
    · cases h; exact ⟨_, as_tray h3⟩
  rcases E1 with ⟨a, v, h, hs, h3⟩ | ⟨a, b1, n1, row1, h, p1, p2, p3, rfl, T1⟩
  · cases h
    obtain ⟨o, as2⟩ := as2
    refine Or.inl ⟨2, Or.inr (Or.inl rfl), by simp [fX3_sweepOrRefuse, as_lamp h3, as2, two], fun fm => ?_⟩
    subst hs
    by_cases h5 : (1 : Int32) = s2 <;> simp [fX4_refusal, hs2, h5, fX4_isOfStones, fX4_refusal_j34, two]
  cases h
  have h1n : ¬ s1 = 1 := ne_of_toInt (by omega)
  rcases E2 with ⟨a, v, h, hs, h3⟩ | ⟨a, b2, n2, row2, h, q1, q2, q3, rfl, T2⟩
  · cases h
    refine Or.inl ⟨2, Or.inr (Or.inl rfl), by simp [fX3_sweepOrRefuse, as_tray T1, as_lamp h3, two], fun fm => ?_⟩
    subst hs
    rcases stones_iff (f := fm) p1 p2 with ⟨w1, w2, w3⟩ | ⟨w1, w2, w3⟩
    · simp [fX4_refusal, hs1, h1n, w3, fX4_refusal_j34, two]
    · have w4 : fX4_isOfStones fm 1 = some 0 := by simp [fX4_isOfStones]
      simp [fX4_refusal, hs1, h1n, w3, w4, fX4_refusal_j34, two]
  cases h
  have h2n : ¬ s2 = 1 := ne_of_toInt (by omega)
  -- both are Trays
  have like : (fX2_isLike fx a1 (some a2) = some 0 ∧ ∀ fm, fX4_refusal fm s1 (nI n1) i s2 (nI n2) j n = some 2) ∨ (fX2_isLike fx a1 (some a2) = some 1 ∧ (6 ≤ s2.toInt → 6 ≤ s1.toInt) ∧ ∀ fm, fX4_refusal fm s1 (nI n1) i s2 (nI n2) j n = fX4_refusal_j34 fm s1 (nI n1) i s2 (nI n2) j n 1) := by
    by_cases h5 : s1 = s2
    · refine Or.inr ⟨by simp [fX2_isLike, T1.gs, T2.gs, h5], fun h => by rw [h5]; exact h, fun fm => ?_⟩
      unfold fX4_refusal
      rw [if_neg hs1, if_neg hs2, if_pos h5]
    · have c1 := stones_iff (f := fx) p1 p2
      have c2 := stones_iff (f := fx) q1 q2
      rcases c1 with ⟨w1, w2, w3⟩ | ⟨w1, w2, w3⟩
      · refine Or.inl ⟨by simp [fX2_isLike, T1.gs, T2.gs, h5, T1.ob, T1.stones, w1], fun fm => ?_⟩
        have w3' : fX4_isOfStones fm s1 = some 0 := w3
        simp [fX4_refusal, hs1, hs2, h5, w3', fX4_refusal_j34, h1n, h2n]
      · rcases c2 with ⟨x1, x2, x3⟩ | ⟨x1, x2, x3⟩
        · refine Or.inl ⟨by simp [fX2_isLike, T1.gs, T2.gs, h5, T1.ob, T1.stones, w1, T2.ob, T2.stones, x1], fun fm => ?_⟩
          have w3' : fX4_isOfStones fm s1 = some 1 := w3
          have x3' : fX4_isOfStones fm s2 = some 0 := x3
          simp [fX4_refusal, hs1, hs2, h5, w3', x3', fX4_refusal_j34, h1n, h2n]
        · refine Or.inr ⟨by simp [fX2_isLike, T1.gs, T2.gs, h5, T1.ob, T1.stones, w1, T2.ob, T2.stones, x1], fun _ => w2, fun fm => ?_⟩
          have w3' : fX4_isOfStones fm s1 = some 1 := w3
          have x3' : fX4_isOfStones fm s2 = some 1 := x3
          simp [fX4_refusal, hs1, hs2, h5, w3', x3']
  rcases like with ⟨l1, l2⟩ | ⟨l1, l2, l3⟩
  · exact Or.inl ⟨2, Or.inr (Or.inl rfl), by simp [fX3_sweepOrRefuse, as_tray T1, as_tray T2, T1.ob, l1, two], fun fm => by rw [l2 fm, two]⟩
  by_cases hr : RN i n n1 ∧ RN j n n2
  · obtain ⟨I, N, g1, g2, rfl, rfl, g3⟩ := hr.1
    obtain ⟨J, N', g4, g5, rfl, g6, g7⟩ := hr.2
    have hNN : N = N' := (nI_eq g2 g5).mp g6
    subst hNN
    refine Or.inr ⟨a1, b1, n1, row1, a2, b2, n2, row2, I, J, N, rfl, rfl, T1, T2, p3, q3, rfl, rfl, rfl, g3, g7, l2, fun fm => by rw [l3 fm]; exact (m_runs h1n h2n p3 q3).1 hr, ?_⟩
    have r1 := T1.run_yes p3 hr.1
    have r2 := T2.run_yes q3 hr.2
    simp only [fX3_sweepOrRefuse, as_tray T1, as_tray T2, Option.bind_some, T1.ob, T2.ob, l1, r1, r2]
    simp
  · refine Or.inl ⟨3, Or.inr (Or.inr rfl), ?_, fun fm => by rw [l3 fm, three]; exact (m_runs h1n h2n p3 q3).2 hr⟩
    by_cases r1 : RN i n n1
    · have r2 : ¬ RN j n n2 := fun q => hr ⟨r1, q⟩
      simp [fX3_sweepOrRefuse, as_tray T1, as_tray T2, T1.ob, T2.ob, l1, T1.run_yes p3 r1, T2.run_no q3 r2, three]
    · simp [fX3_sweepOrRefuse, as_tray T1, as_tray T2, T1.ob, T2.ob, l1, T1.run_no p3 r1, three]
