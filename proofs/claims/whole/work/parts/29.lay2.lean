theorem below_none {fx : hPl} {z a : Nat} (h : hBelow fx z) (ha : z ≤ a) : fx a = none := by
  cases hf : fx a with
  | none => rfl
  | some e => have := h a e hf; omega
/-- a Lamp is made -/
theorem x_lamp {f : hPl} {z : Nat} : fX0_init (hup f z (oC 0 [.int 0, .int 0])) (z + 1) z = some ((), hup f z (oC 0 [.int 1, .int 0]), z + 1) := by
  have h1 : hkd (hup f z (oC 0 [.int 0, .int 0])) z = some 0 := g_kd hup_s
  have h2 : hput (hup f z (oC 0 [.int 0, .int 0])) z 0 0 (.int 1) = some (hup (hup f z (oC 0 [.int 0, .int 0])) z (oC 0 [.int 1, .int 0])) := g_put hup_s (by simp)
  simp [fX0_init, fX1_init, hputT, h1, h2, hup_hup]
/-- a Tray is made -/
theorem x_tray {f : hPl} {z n : Nat} {s : Int32} (hn : n ≤ 40) : fX2_init (hup f z (oC 1 [.int 0, .null])) (z + 1) z s (nI n) = some ((), hup (hup f (z + 1) (aJ n (fun _ => 0))) z (oC 1 [.int s, .ref (z + 1)]), z + 2) := by
  have h1 : hkd (hup f z (oC 1 [.int 0, .null])) z = some 1 := g_kd hup_s
  have h2 : hput (hup f z (oC 1 [.int 0, .null])) z 1 0 (.int s) = some (hup (hup f z (oC 1 [.int 0, .null])) z (oC 1 [.int s, .null])) := g_put hup_s (by simp)
  have h3 : hput (hup (hup f z (oC 1 [.int s, .null])) (z + 1) (aJ n (fun _ => 0))) z 1 1 (.ref (z + 1)) = some (hup (hup (hup f z (oC 1 [.int s, .null])) (z + 1) (aJ n (fun _ => 0))) z (oC 1 [.int s, .ref (z + 1)])) := g_put (fs := [.int s, .null]) (by rw [hup_n (by omega)]; exact hup_s) (by simp)
  have h4 : (nI n).toNatClampNeg = n := nI_clamp (by omega)
  have h5 : ¬ nI n < 0 := nI_pos (by omega)
  have h6 : hup (hup (hup f z (oC 1 [.int s, .null])) (z + 1) (aJ n (fun _ => 0))) z (oC 1 [.int s, .ref (z + 1)]) = hup (hup f (z + 1) (aJ n (fun _ => 0))) z (oC 1 [.int s, .ref (z + 1)]) := by
    rw [hup_comm (f := f) (by omega), hup_hup]
  rw [h6] at h3
  simp [fX2_init, fX1_init, hputT, h1, h2, hup_hup, h4, h5, hn, h3]
theorem RI_of {i qx : Nat} {fx : hPl} {qm : Nat} {fm : hPl} {B C φ ψ : Nat → Nat} {L : Nat → Option Nat} {K : Option Nat} {mn : Nat → Nat} {la sa ma ia cn : Nat → Int32} {mem car kp kr hr : Nat → Int64} {pr : Nat → Option Nat} (hM : MX qm fm B la sa ma ia cn mem car kp (hsh K)) (hR : RC i qx fx C φ ψ L K mn la sa ma ia cn mem kp kr hr pr) : RI i qx fx qm fm := ⟨B, C, φ, ψ, L, K, mn, la, sa, ma, ia, cn, mem, car, kp, kr, hr, pr, hM, hR⟩
theorem R_lay : hS3 RI fX3_lay fX4_lay := by
  intro i z qx fx qm fm p s n hi hb h
  obtain ⟨B, C, φ, ψ, L, K, mn, la, sa, ma, ia, cn, mem, car, kp, kr, hr, pr, R⟩ := h
  have hM := R.1
  have hC := R.2.1
  have hRC : RC i qx fx C φ ψ L K mn la sa ma ia cn mem kp kr hr pr := R.2
  have hI : RI (i + 1) qx fx qm fm := R_mono _ _ _ _ _ ⟨B, C, φ, ψ, L, K, mn, la, sa, ma, ia, cn, mem, car, kp, kr, hr, pr, R⟩
  rcases hplace p with h1 | ⟨P, hP, rfl⟩
  · exact ⟨0, fx, z, fm, z, by simp [fX3_lay, (fx_place_no (f := fx) h1).1], by simp [fX4_lay, (fx_place_no (f := fm) h1).2], hI⟩
  have hpx := (fx_place_yes (f := fx) hP).1
  have hpm := (fx_place_yes (f := fm) hP).2
  by_cases hs0 : s < 0
  · exact ⟨0, fx, z, fm, z, by simp [fX3_lay, hpx, hs0], by simp [fX4_lay, hpm, hs0], hI⟩
  by_cases hs10 : (10 : Int32) < s
  · have h1 : ¬ s ≤ 10 := Int32.not_le.mpr hs10
    exact ⟨0, fx, z, fm, z, by simp [fX3_lay, hpx, hs0, h1], by simp [fX4_lay, hpm, hs0, hs10], hI⟩
  have hs10' : s ≤ 10 := Int32.not_lt.mp hs10
  obtain ⟨fm1, m1, m2⟩ := hM.s0 hP (-1)
  -- the place is cleared in the reference
  by_cases hsz : s = 0
  · subst hsz
    have hs : hsQ fx (C 0) (nI P) none = some (hup fx (C 0) (aQ 8 (va_up pr P none))) := g_sQ hC.2.1 hP (by omega)
    have hR := R.places (Q := P) (o := none) (fun k hk => by cases hk) (la' := upd la P (-1)) rfl m2
    exact ⟨1, _, z, fm1, z, by simp [fX3_lay, hpx, hC.q0, hs], by simp [fX4_lay, hpm, fX4_isTray, fX4_lay_j36, hM.q0, m1], B, C, φ, ψ, _, K, mn, _, sa, ma, ia, cn, mem, car, kp, kr, hr, _, hR⟩
  -- a free shelf
  obtain ⟨k, ⟨hk9, hun⟩, hle⟩ := pk_least (fun k => k < 9 ∧ ¬ US (va_up L P none) K k) (free_shelf L K hP)
  have hle' : ∀ j, j < k → US (va_up L P none) K j := fun j hj => Classical.byContradiction fun hq => hle j hj ⟨by omega, hq⟩
  have hL10 : ∀ p, p < 8 → ∀ j, va_up L P none p = some j → j < 10 := by
    intro p hp j hj
    by_cases hpP : p = P
    · subst hpP; simp [va_up] at hj
    · simp [va_up, hpP] at hj
      exact (hRC.2.2.1 j (Or.inl ⟨p, hp, hj⟩)).1
  have hK10 : ∀ j, K = some j → j < 10 := fun j hj => (hRC.2.2.1 j (Or.inr hj)).1
  have hla1 : ∀ p, p < 8 → upd la P (-1) p = hsh (va_up L P none p) := by
    intro p hp
    by_cases hpP : p = P
    · subst hpP; rw [pk_us]; simp [va_up, hsh]
    · rw [pk_un hpP]; simp only [va_up, if_neg hpP]; exact (hRC.2.1 p hp).1
  have hupd : upd (upd la P (-1)) P (nI k) = upd la P (nI k) := by
    funext q
    by_cases hq : q = P
    · subst hq; rw [pk_us, pk_us]
    · rw [pk_un hq, pk_un hq, pk_un hq]
  have hmem : ∀ x, (x < 40 * k ∨ 40 * k + 40 ≤ x) → va_cpy (fun _ => 0) mem 0 (40 * k) 40 x = mem x := fun x hx => pk_cpy_out (by omega)
  have hmem0 : ∀ j, j < 40 → va_cpy (fun _ => 0) mem 0 (40 * k) 40 (40 * k + j) = 0 := fun j hj => pk_cpy_in (by omega) (by omega)
  have hz0 : fx z = none := below_none hb (Nat.le_refl _)
  have hz1 : fx (z + 1) = none := below_none hb (by omega)
  have hnz : ∀ a e, fx a = some e → a ≠ z ∧ a ≠ z + 1 := fun a e he => by have := hb a e he; omega
  have hfind := fun zz s n => m_find (z := zz) (p := nI P) (s := s) (n := n) m2 hla1 hL10 hK10 hk9 hun hle' k 0 64 (by omega) (by omega)
  rw [nI_0] at hfind
  rcases tray_iff (f := fm) hs0 hs10 hsz with ⟨rfl, ht⟩ | ⟨hs1, g1, g2, ht⟩
  · obtain ⟨fm2, n1, n2⟩ := m_lay74 (z := z + 1) m2 hP (show k < 10 by omega) (s := 1) (n := n) (m' := 0) (Or.inl ⟨by simp [fX4_isTray], rfl⟩)
    rw [hupd] at n2
    have hnew : TH (hup fx z (oC 0 [.int 1, .int 0])) C z z 0 1 0 (nI 0) (fun j => va_cpy (fun _ => 0) mem 0 (40 * k) 40 (40 * k + j)) := ⟨rfl, fun e => (hnz _ _ hC.2.2.1).1 e.symm, Or.inl ⟨rfl, rfl, hup_s⟩⟩
    have hR := (hRC.put hP (show k < 10 by omega) hun (fx2 := hup fx z (oC 0 [.int 1, .int 0])) (fun a e he => by rw [hup_n (hnz a e he).1]; exact he) hz0 hz0 hnew hmem).more
    have hC2 : CX qx (hup fx z (oC 0 [.int 1, .int 0])) C pr (K.map φ) kr hr cn := hC.kept (hup_n (hnz _ _ hC.1).1) (hup_n (hnz _ _ hC.2.1).1) (hup_n (hnz _ _ hC.2.2.1).1) (hup_n (hnz _ _ hC.2.2.2.1).1) (hup_n (hnz _ _ hC.2.2.2.2.1).1)
    have hs : hsQ (hup fx z (oC 0 [.int 1, .int 0])) (C 0) (nI P) (some z) = some (hup (hup fx z (oC 0 [.int 1, .int 0])) (C 0) (aQ 8 (va_up pr P (some z)))) := g_sQ hC2.2.1 hP (by omega)
    have hkd1 : hkd (hup fx z (oC 0 [.int 1, .int 0])) z = some 0 := g_kd hup_s
    refine ⟨1, _, z + 1, fm2, z + 1, ?_, ?_, RI_of n2 hR⟩
    · simp [fX3_lay, hpx, hC.q0, x_lamp, hth, hkd1, hs]
    · have e1 := hfind (z + 1) 1 n
      simp [fX4_lay, hpm, ht, fX4_lay_j36, hM.q0, m1, e1, n1]
  · by_cases hn0 : n < 0
    · exact ⟨0, fx, z, fm, z, by simp [fX3_lay, hpx, hs0, hs10', hsz, hs1, hn0], by simp [fX4_lay, hpm, hs0, hs10, ht, hn0], hI⟩
    obtain ⟨N, hN, rfl⟩ := nI_of hn0
    by_cases hn40 : N ≤ 40
    · have h40 : nI N ≤ 40 := by rw [show (40 : Int32) = nI 40 from by decide]; exact nI_le hn40 (by omega)
      obtain ⟨fm2, n1, n2⟩ := m_lay74 (z := z + 2) m2 hP (show k < 10 by omega) (s := s) (n := nI N) (m' := nI N) (Or.inr ⟨ht, rfl⟩)
      rw [hupd] at n2
      generalize hf2 : hup (hup fx (z + 1) (aJ N (fun _ => 0))) z (oC 1 [.int s, .ref (z + 1)]) = f2
      have hold : ∀ a e, fx a = some e → f2 a = some e := fun a e he => by rw [← hf2, hup_n (hnz a e he).1, hup_n (hnz a e he).2]; exact he
      have hT2 : TT f2 z s (z + 1) N (fun _ => 0) := by
        rw [← hf2]
        exact ⟨hup_s, by rw [hup_n (by omega)]; exact hup_s⟩
      have hnew : TH f2 C z (z + 1) N s 0 (nI N) (fun j => va_cpy (fun _ => 0) mem 0 (40 * k) 40 (40 * k + j)) := ⟨rfl, fun e => (hnz _ _ hC.2.2.1).1 e.symm, Or.inr ⟨g1, g2, hn40, fun e => (hnz _ _ hC.2.2.2.1).2 e.symm, fun e => (hnz _ _ hC.2.2.2.2.1).2 e.symm, ⟨fun _ => 0, hT2, fun j hj => (hmem0 j (by omega)).symm⟩, fun _ j hj => by show GD (va_cpy (fun _ => 0) mem 0 (40 * k) 40 (40 * k + j)); rw [hmem0 j (by omega)]; exact gd0⟩⟩
      have hR := (hRC.put hP (show k < 10 by omega) hun (fx2 := f2) hold hz0 hz1 hnew hmem).more
      have hC2 : f2 (C 0) = some (aQ 8 pr) := hold _ _ hC.2.1
      have hs : hsQ f2 (C 0) (nI P) (some z) = some (hup f2 (C 0) (aQ 8 (va_up pr P (some z)))) := g_sQ hC2 hP (by omega)
      have hxt := x_tray (f := fx) (z := z) (s := s) hn40
      rw [hf2] at hxt
      refine ⟨1, _, z + 2, fm2, z + 2, ?_, ?_, RI_of n2 hR⟩
      · simp [fX3_lay, hpx, hs0, hs10', hsz, hs1, hn0, h40, hC.q0, hxt, hth, hT2.kd, hs]
      · have e1 := hfind (z + 2) s (nI N)
        simp [fX4_lay, hpm, hs0, hs10, ht, hn0, h40, fX4_lay_j36, hM.q0, m1, hsz, e1, n1]
    · have h40 : ¬ nI N ≤ 40 := by rw [show (40 : Int32) = nI 40 from by decide]; exact nI_ge (by omega) hN
      exact ⟨0, fx, z, fm, z, by simp [fX3_lay, hpx, hs0, hs10', hsz, hs1, hn0, h40], by simp [fX4_lay, hpm, hs0, hs10, ht, hn0, h40], hI⟩
