theorem TL.kept {fx fx' : hPl} {a : Nat} {v : Int32} (h : TL fx a v) (ha : fx' a = fx a) : TL fx' a v := ha.trans h
theorem TT.kept {fx fx' : hPl} {a b n : Nat} {s : Int32} {row : Nat → Int64} (h : TT fx a s b n row) (ha : fx' a = fx a) (hb : fx' b = fx b) : TT fx' a s b n row := ⟨ha.trans h.1, hb.trans h.2⟩
/-- a shelf's thing stays when its cells do -/
theorem TH.kept {fx fx' : hPl} {C : Nat → Nat} {a b n : Nat} {s li mk : Int32} {rw' : Nat → Int64} (h : TH fx C a b n s li mk rw') (ha : (∃ ci fs, ci < 2 ∧ fx a = some (oC ci fs)) → fx' a = fx a) (hb : 2 ≤ s.toInt → (∃ n row, fx b = some (aJ n row)) → fx' b = fx b) : TH fx' C a b n s li mk rw' := by
  obtain ⟨h1, h2, h3⟩ := h
  refine ⟨h1, h2, ?_⟩
  rcases h3 with ⟨h3, h4, h5⟩ | ⟨t1, t2, t3, t4, t5, ⟨row, t6, t7⟩, t8⟩
  · exact Or.inl ⟨h3, h4, h5.kept (ha ⟨0, _, by omega, h5⟩)⟩
  · exact Or.inr ⟨t1, t2, t3, t4, t5, ⟨row, t6.kept (ha ⟨1, _, by omega, t6.1⟩) (hb t1 ⟨_, _, t6.2⟩), t7⟩, t8⟩
theorem CX.kept {qx : Nat} {fx fx' : hPl} {C : Nat → Nat} {pr : Nat → Option Nat} {kt : Option Nat} {kr hr : Nat → Int64} {cn : Nat → Int32} (h : CX qx fx C pr kt kr hr cn) (hq : fx' qx = fx qx) (h0 : fx' (C 0) = fx (C 0)) (h1 : fx' (C 1) = fx (C 1)) (h2 : fx' (C 2) = fx (C 2)) (h3 : fx' (C 3) = fx (C 3)) : CX qx fx' C pr kt kr hr cn :=
  ⟨hq.trans h.1, h0.trans h.2.1, h1.trans h.2.2.1, h2.trans h.2.2.2.1, h3.trans h.2.2.2.2.1, h.2.2.2.2.2⟩
theorem oC_ne_aJ {ci n : Nat} {fs : List Value} {r : Nat → Int64} : (oC ci fs) ≠ (aJ n r) := fun h => by cases h
theorem oC_ne_aQ {ci n : Nat} {fs : List Value} {r : Nat → Option Nat} : (oC ci fs) ≠ (aQ n r) := fun h => by cases h
theorem aJ_ne_aQ {n n' : Nat} {r : Nat → Int64} {r' : Nat → Option Nat} : (aJ n r) ≠ (aQ n' r') := fun h => by cases h
theorem oC_ne {c c' : Nat} {fs fs' : List Value} (h : c ≠ c') : (oC c fs) ≠ (oC c' fs') := fun e => by
  have := Sum.inr.inj e
  exact h (congrArg Prod.fst this)
/-! light -/
theorem R_light : hS1 RI fX3_light fX4_light := by
  intro i z qx fx qm fm p hi hb h
  obtain ⟨B, C, φ, ψ, L, K, mn, la, sa, ma, ia, cn, mem, car, kp, kr, hr, pr, R⟩ := h
  have hM := R.1
  have hC := R.2.1
  have hI : RI (i + 1) qx fx qm fm := R_mono _ _ _ _ _ ⟨B, C, φ, ψ, L, K, mn, la, sa, ma, ia, cn, mem, car, kp, kr, hr, pr, R⟩
  rcases hplace p with h1 | ⟨P, hP, rfl⟩
  · exact ⟨-1, fx, z, fm, z, by simp [fX3_light, (fx_place_no (f := fx) h1).1], by simp [fX4_light, (fx_place_no (f := fm) h1).2], hI⟩
  have hpx := (fx_place_yes (f := fx) hP).1
  have hpm := (fx_place_yes (f := fm) hP).2
  rcases R.pl hP with ⟨h1, h2, h3⟩ | ⟨k, h1, hu, hk, h2, h3, h4, h5⟩
  · exact ⟨-1, fx, z, fm, z, by simp [fX3_light, hpx, hC.q0, hC.lp hP, h3, hii], by simp [fX4_light, hpm, hM.ob, hM.sortOn0 hP h2], hI⟩
  rcases h5 with ⟨h5, h6, h7⟩ | ⟨t1, t2, t3, t4, t5, ⟨row, t6, t7⟩, t8⟩
  · have hg : hgI fx (φ k) 0 1 = some (ia k) := g_I h7 rfl
    have hp : hput fx (φ k) 0 1 (.int (ia k + 1)) = some (hup fx (φ k) (oC 0 [.int 1, .int (ia k + 1)])) := g_put h7 (by simp)
    have hg2 : hgI (hup fx (φ k) (oC 0 [.int 1, .int (ia k + 1)])) (φ k) 0 1 = some (ia k + 1) := g_I hup_s rfl
    obtain ⟨fm', m1, m2⟩ := hM.s3 hk (ia k + 1)
    refine ⟨ia k + 1, hup fx (φ k) (oC 0 [.int 1, .int (ia k + 1)]), z, fm', z, ?_, ?_, B, C, φ, ψ, L, K, mn, la, sa, ma, upd ia k (ia k + 1), cn, mem, car, kp, kr, hr, pr, m2, ?_, R.2.2.1, ?_, R.2.2.2.2.1, R.2.2.2.2.2.1, ?_⟩
    · simp [fX3_light, hpx, hC.q0, hC.lp hP, h3, hii, h7.kd, g_ob h7, hg, hp, hg2]
    · simp [fX4_light, hpm, hM.ob, hM.sortOn hP hk h2, h5, hM.q3, hM.q0, hM.l0 hP, h2, hM.l3 hk, m1, m2.q3, m2.q0, m2.l0 hP, m2.l3 hk, upd]
    · exact hC.kept (hup_n (hne hC.1 h7 (oC_ne (by omega)))) (hup_n (hne hC.2.1 h7 (fun e => by cases e))) (hup_n (hne hC.2.2.1 h7 (oC_ne (by omega)))) (hup_n (hne hC.2.2.2.1 h7 (fun e => by cases e))) (hup_n (hne hC.2.2.2.2.1 h7 (fun e => by cases e)))
    · intro k2 hu2
      obtain ⟨g1, g2⟩ := R.2.2.2.1 k2 hu2
      refine ⟨g1, ?_⟩
      by_cases hkk : k2 = k
      · subst hkk
        exact ⟨g2.1, g2.2.1, Or.inl ⟨h5, h6, by rw [pk_us]; exact hup_s⟩⟩
      · rw [pk_un hkk]
        exact g2.kept (fun _ => hup_n (R.2.2.2.2.1 k2 k hu2 hu hkk).1) (fun _ ⟨n, row, hq⟩ => hup_n (hne hq h7 (fun e => by cases e)))
    · obtain ⟨t, g1, g2⟩ := R.2.2.2.2.2.2
      exact ⟨t, by omega, g2⟩
  · have h8 : ¬ sa k = 1 := fun e => by rw [e] at t1; exact absurd t1 (by decide)
    exact ⟨-1, fx, z, fm, z, by simp [fX3_light, hpx, hC.q0, hC.lp hP, h3, hii, t6.kd], by simp [fX4_light, hpm, hM.ob, hM.sortOn hP hk h2, h8], hI⟩
/-! share -/
theorem th_pr {i qx : Nat} {fx : hPl} {qm : Nat} {fm : hPl} {B C φ ψ : Nat → Nat} {L : Nat → Option Nat} {K : Option Nat} {mn : Nat → Nat} {la sa ma ia cn : Nat → Int32} {mem car kp kr hr : Nat → Int64} {pr : Nat → Option Nat} (R : RB i qx fx qm fm B C φ ψ L K mn la sa ma ia cn mem car kp kr hr pr) {P : Nat} (hP : P < 8) : hth fx (pr P) = some () := by
  rcases R.pl hP with ⟨h1, h2, h3⟩ | ⟨k, h1, hu, hk, h2, h3, h4, h5⟩
  · rw [h3]; rfl
  · rw [h3]
    rcases h5 with ⟨h5, h6, h7⟩ | ⟨t1, t2, t3, t4, t5, ⟨row, t6, t7⟩, t8⟩
    · simp [hth, h7.kd]
    · simp [hth, t6.kd]
/-- the row of places changes alone -/
theorem CX.places {qx : Nat} {fx : hPl} {C : Nat → Nat} {pr : Nat → Option Nat} {kt : Option Nat} {kr hr : Nat → Int64} {cn : Nat → Int32} (h : CX qx fx C pr kt kr hr cn) (pr' : Nat → Option Nat) : CX qx (hup fx (C 0) (aQ 8 pr')) C pr' kt kr hr cn :=
  ⟨by rw [hup_n (hne h.1 h.2.1 (fun e => by cases e))]; exact h.1, hup_s, by rw [hup_n (hne h.2.2.1 h.2.1 (fun e => by cases e))]; exact h.2.2.1, by rw [hup_n (hne h.2.2.2.1 h.2.1 (fun e => by cases e))]; exact h.2.2.2.1, by rw [hup_n (hne h.2.2.2.2.1 h.2.1 (fun e => by cases e))]; exact h.2.2.2.2.1, h.2.2.2.2.2⟩
/-- places change alone, over no new shelves -/
theorem RB.places {i qx : Nat} {fx : hPl} {qm : Nat} {fm fm' : hPl} {B C φ ψ : Nat → Nat} {L : Nat → Option Nat} {K : Option Nat} {mn : Nat → Nat} {la sa ma ia cn : Nat → Int32} {mem car kp kr hr : Nat → Int64} {pr : Nat → Option Nat} (R : RB i qx fx qm fm B C φ ψ L K mn la sa ma ia cn mem car kp kr hr pr) {Q : Nat} {o : Option Nat} (ho : ∀ k, o = some k → US L K k) {la' : Nat → Int32} (hla : la' = upd la Q (hsh o)) (hM' : MX qm fm' B la' sa ma ia cn mem car kp (hsh K)) :
    RB (i + 1) qx (hup fx (C 0) (aQ 8 (va_up pr Q (o.map φ)))) qm fm' B C φ ψ (va_up L Q o) K mn la' sa ma ia cn mem car kp kr hr (va_up pr Q (o.map φ)) := by
  have hC := R.2.1
  have hus : ∀ k, US (va_up L Q o) K k → US L K k := by
    intro k hu
    rcases hu with ⟨p, hp, hq⟩ | hq
    · by_cases hpq : p = Q
      · subst hpq
        simp [va_up] at hq
        exact ho k hq
      · simp [va_up, hpq] at hq
        exact Or.inl ⟨p, hp, hq⟩
    · exact Or.inr hq
  refine ⟨hM', hC.places _, ?_, ?_, ?_, R.2.2.2.2.2.1, ?_⟩
  · intro p hp
    rw [hla]
    by_cases hpq : p = Q
    · subst hpq
      simp [va_up, pk_us]
    · rw [pk_un hpq]
      simp [va_up, hpq]
      exact R.2.2.1 p hp
  · intro k hu
    obtain ⟨g1, g2⟩ := R.2.2.2.1 k (hus k hu)
    exact ⟨g1, g2.kept (fun ⟨ci, fs, _, hq⟩ => hup_n (hne hq hC.2.1 (fun e => by cases e))) (fun _ ⟨n, row, hq⟩ => hup_n (hne hq hC.2.1 (fun e => by cases e)))⟩
  · intro k k' hu hu' hkk
    exact R.2.2.2.2.1 k k' (hus k hu) (hus k' hu') hkk
  · obtain ⟨t, g1, g2⟩ := R.2.2.2.2.2.2
    exact ⟨t, by omega, g2⟩
theorem R_share : hS2 RI fX3_share fX4_share := by
  intro i z qx fx qm fm p q hi hb h
  obtain ⟨B, C, φ, ψ, L, K, mn, la, sa, ma, ia, cn, mem, car, kp, kr, hr, pr, R⟩ := h
  have hM := R.1
  have hC := R.2.1
  have hI : RI (i + 1) qx fx qm fm := R_mono _ _ _ _ _ ⟨B, C, φ, ψ, L, K, mn, la, sa, ma, ia, cn, mem, car, kp, kr, hr, pr, R⟩
  rcases hplace p with h1 | ⟨P, hP, rfl⟩
  · exact ⟨0, fx, z, fm, z, by simp [fX3_share, (fx_place_no (f := fx) h1).1], by simp [fX4_share, (fx_place_no (f := fm) h1).2], hI⟩
  have hpx := (fx_place_yes (f := fx) hP).1
  have hpm := (fx_place_yes (f := fm) hP).2
  rcases hplace q with h1 | ⟨Q, hQ, rfl⟩
  · exact ⟨0, fx, z, fm, z, by simp [fX3_share, hpx, (fx_place_no (f := fx) h1).1], by simp [fX4_share, hpm, (fx_place_no (f := fm) h1).2], hI⟩
  have hqx := (fx_place_yes (f := fx) hQ).1
  have hqm := (fx_place_yes (f := fm) hQ).2
  obtain ⟨fm', m1, m2⟩ := hM.s0 hQ (la P)
  have e1 := (R.2.2.1 P hP).1
  have e2 := (R.2.2.1 P hP).2
  have hs : hsQ fx (C 0) (nI Q) (pr P) = some (hup fx (C 0) (aQ 8 (va_up pr Q (pr P)))) := g_sQ hC.2.1 hQ (by omega)
  have hR := R.places (Q := Q) (o := L P) (fun k hk => Or.inl ⟨P, hP, hk⟩) (la' := upd la Q (la P)) (by rw [e1]) m2
  rw [← e2] at hR
  exact ⟨1, _, z, fm', z, by simp [fX3_share, hpx, hqx, hC.q0, hC.lp hP, th_pr R hP, hs], by simp [fX4_share, hpm, hqm, hM.q0, hM.l0 hP, m1], B, C, φ, ψ, _, K, mn, _, sa, ma, ia, cn, mem, car, kp, kr, hr, _, hR⟩
