theorem hp_bb (x : Int32) : x.toInt8.toInt32 &&& 255 = x &&& 255 := by
  apply Int32.toBitVec_inj.mp
  rw [Int32.toBitVec_and, Int32.toBitVec_and, Int8.toBitVec_toInt32, Int32.toBitVec_toInt8]
  apply BitVec.eq_of_getLsbD_eq
  intro i hi
  rw [BitVec.getLsbD_and, BitVec.getLsbD_and]
  have hm : ∀ i < 32, 8 ≤ i → (255 : Int32).toBitVec.getLsbD i = false := by decide
  rcases Nat.lt_or_ge i 8 with z | z
  · rw [BitVec.getLsbD_signExtend, BitVec.getLsbD_signExtend, if_pos z, if_pos hi]
    simp only [z, hi, decide_true, Bool.true_and]
  · rw [hm i hi z]; simp
theorem hp_b8 : ∀ n, n < 256 → (Int8.ofNat n).toInt32 = ((Int8.ofNat n).toInt32 &&& 255 &&& 127) - ((Int8.ofNat n).toInt32 &&& 255 &&& 128) := by decide +kernel
theorem hp_of8 (b : Int8) : ∃ n, n < 256 ∧ b = Int8.ofNat n := by
  refine ⟨b.toBitVec.toNat, b.toBitVec.isLt, ?_⟩
  apply Int8.toBitVec_inj.mp
  simp [Int8.toBitVec_ofNat']
theorem hp_and (x m : Int32) (h : (255 : Int32) &&& m = m) : x &&& 255 &&& m = x &&& m := by
  rw [Int32.and_assoc, h]
theorem hbyte (v : Int32) : v.toInt8.toInt32 = (v &&& 127) - (v &&& 128) := by
  obtain ⟨n, hn, hb⟩ := hp_of8 v.toInt8
  have h1 := hp_b8 n hn
  rw [← hb, hp_bb] at h1
  rw [h1, hp_and v 127 (by decide), hp_and v 128 (by decide)]
/-- what set() writes -/
def nv (s v : Int32) : Int64 := if s = 3 then v.toInt64 * 1000003 else if s = 4 then v.toInt8.toInt32.toInt64 else if s = 5 then (v &&& 1).toInt64 else v.toInt64
theorem num_cases {s : Int32} (h1 : 2 ≤ s.toInt) (h2 : s.toInt < 6) : s = 2 ∨ s = 3 ∨ s = 4 ∨ s = 5 := by
  have k : ∀ y : Int32, s.toInt = y.toInt → s = y := fun y h => Int32.toInt_inj.mp h
  rcases (show s.toInt = 2 ∨ s.toInt = 3 ∨ s.toInt = 4 ∨ s.toInt = 5 by omega) with h | h | h | h
  · exact Or.inl (k 2 h)
  · exact Or.inr (Or.inl (k 3 h))
  · exact Or.inr (Or.inr (Or.inl (k 4 h)))
  · exact Or.inr (Or.inr (Or.inr (k 5 h)))
theorem x_num {fx : hPl} {s v : Int32} (h : s = 2 ∨ s = 3 ∨ s = 4 ∨ s = 5) : fX3_numberFor fx s v = some (nv s v) := by
  rcases h with rfl | rfl | rfl | rfl <;> simp [fX3_numberFor, nv]
/-- what the bench keeps, apart from the reference -/
def RC (i qx : Nat) (fx : hPl) (C φ ψ : Nat → Nat) (L : Nat → Option Nat) (K : Option Nat) (mn : Nat → Nat) (la sa ma ia cn : Nat → Int32) (mem kp kr hr : Nat → Int64) (pr : Nat → Option Nat) : Prop :=
  CX qx fx C pr (K.map φ) kr hr cn ∧ (∀ p, p < 8 → la p = hsh (L p) ∧ pr p = (L p).map φ) ∧
  (∀ k, US L K k → k < 10 ∧ TH fx C (φ k) (ψ k) (mn k) (sa k) (ia k) (ma k) (fun j => mem (40 * k + j))) ∧
  (∀ k k', US L K k → US L K k' → k ≠ k' → φ k ≠ φ k' ∧ (2 ≤ (sa k).toInt → 2 ≤ (sa k').toInt → ψ k ≠ ψ k')) ∧
  (∀ k, K = some k → 2 ≤ (sa k).toInt ∧ (∀ j, j < mn k → kr j = kp j) ∧ (6 ≤ (sa k).toInt → ∀ j, j < mn k → GD (kp j))) ∧
  ∃ t, t ≤ i ∧ cn 0 = nI t
section RCs
variable {i qx : Nat} {fx : hPl} {C φ ψ : Nat → Nat} {L : Nat → Option Nat} {K : Option Nat} {mn : Nat → Nat} {la sa ma ia cn : Nat → Int32} {mem kp kr hr : Nat → Int64} {pr : Nat → Option Nat}
theorem RC.more (R : RC i qx fx C φ ψ L K mn la sa ma ia cn mem kp kr hr pr) : RC (i + 1) qx fx C φ ψ L K mn la sa ma ia cn mem kp kr hr pr := by
  obtain ⟨h1, h2, h3, h4, h5, t, h6, h7⟩ := R
  exact ⟨h1, h2, h3, h4, h5, t, by omega, h7⟩
/-- the members of one Tray change -/
theorem RC.cells (R : RC i qx fx C φ ψ L K mn la sa ma ia cn mem kp kr hr pr) {k : Nat} (hu : US L K k) {row row' mem' : Nat → Int64} (hT : TT fx (φ k) (sa k) (ψ k) (mn k) row) (h1 : ∀ x, (x < 40 * k ∨ 40 * k + 40 ≤ x) → mem' x = mem x) (h2 : ∀ j, j < mn k → row' j = mem' (40 * k + j)) (h3 : 6 ≤ (sa k).toInt → ∀ j, j < mn k → GD (mem' (40 * k + j))) :
    RC i qx (hup fx (ψ k) (aJ (mn k) row')) C φ ψ L K mn la sa ma ia cn mem' kp kr hr pr := by
  obtain ⟨hC, a1, a2, a3, a4, a5⟩ := R
  obtain ⟨hk, b1, b2, b3⟩ := a2 k hu
  have htr : TR fx C (φ k) (ψ k) (mn k) (sa k) (fun j => mem (40 * k + j)) := by
    rcases b3 with ⟨c1, c2, c3⟩ | c
    · have h9 := hT.1
      rw [show fx (φ k) = _ from c3] at h9
      cases h9
    · exact c
  obtain ⟨t1, t2, t3, t4, t5, -, -⟩ := htr
  refine ⟨hC.kept (hup_n (hne hC.1 hT.2 (fun e => by cases e))) (hup_n (hne hC.2.1 hT.2 (fun e => by cases e))) (hup_n (hne hC.2.2.1 hT.2 (fun e => by cases e))) (hup_n t4.symm) (hup_n t5.symm), a1, ?_, a3, a4, a5⟩
  intro k2 hu2
  obtain ⟨g1, g2⟩ := a2 k2 hu2
  refine ⟨g1, ?_⟩
  by_cases hkk : k2 = k
  · subst hkk
    exact ⟨b1, b2, Or.inr ⟨t1, t2, t3, t4, t5, ⟨row', ⟨by rw [hup_n (hne hT.1 hT.2 (fun e => by cases e))]; exact hT.1, hup_s⟩, h2⟩, h3⟩⟩
  · have g3 : TH (hup fx (ψ k) (aJ (mn k) row')) C (φ k2) (ψ k2) (mn k2) (sa k2) (ia k2) (ma k2) (fun j => mem (40 * k2 + j)) := g2.kept (fun ⟨ci, fs, _, hq⟩ => hup_n (hne hq hT.2 (fun e => by cases e))) (fun hs _ => hup_n ((a3 k2 k hu2 hu hkk).2 hs t1))
    obtain ⟨d1, d2, d3⟩ := g3
    refine ⟨d1, d2, ?_⟩
    rcases d3 with d3 | ⟨e1, e2, e3, e4, e5, ⟨r2, e6, e7⟩, e8⟩
    · exact Or.inl d3
    · have hsame : ∀ j, j < mn k2 → mem' (40 * k2 + j) = mem (40 * k2 + j) := by
        intro j hj
        apply h1
        have : mn k2 ≤ 40 := e3
        rcases Nat.lt_or_gt_of_ne hkk with q | q
        · left; omega
        · right; omega
      exact Or.inr ⟨e1, e2, e3, e4, e5, ⟨r2, e6, fun j hj => (e7 j hj).trans (hsame j hj).symm⟩, fun hs j hj => by show GD (mem' (40 * k2 + j)); rw [hsame j hj]; exact e8 hs j hj⟩
theorem CX.bench (h : CX qx fx C pr (K.map φ) kr hr cn) (kt' : Option Nat) (cn' : Nat → Int32) : CX qx (hup fx qx (oC 2 [.ref (C 0), .ref (C 1), .ref (C 2), va_rf kt', .int (cn' 0), .int (cn' 1), .int (cn' 2), .int (cn' 3), .int (cn' 4), .int (cn' 5), .int (cn' 6)])) C pr kt' kr hr cn' :=
  ⟨hup_s, by rw [hup_n (hne h.2.1 h.1 (fun e => by cases e))]; exact h.2.1, by rw [hup_n (hne h.2.2.1 h.1 (oC_ne (by omega)))]; exact h.2.2.1, by rw [hup_n (hne h.2.2.2.1 h.1 (fun e => by cases e))]; exact h.2.2.2.1, by rw [hup_n (hne h.2.2.2.2.1 h.1 (fun e => by cases e))]; exact h.2.2.2.2.1, h.2.2.2.2.2⟩
/-- the bench's own fields change: what is kept (of a used shelf, or nothing), the counts -/
theorem RC.bench (R : RC i qx fx C φ ψ L K mn la sa ma ia cn mem kp kr hr pr) {i' : Nat} {K' : Option Nat} {cn' : Nat → Int32} {kp' : Nat → Int64} (hK : ∀ k, K' = some k → US L K k ∧ 2 ≤ (sa k).toInt ∧ (∀ j, j < mn k → kr j = kp' j) ∧ (6 ≤ (sa k).toInt → ∀ j, j < mn k → GD (kp' j))) (hc : ∃ t, t ≤ i' ∧ cn' 0 = nI t) :
    RC i' qx (hup fx qx (oC 2 [.ref (C 0), .ref (C 1), .ref (C 2), va_rf (K'.map φ), .int (cn' 0), .int (cn' 1), .int (cn' 2), .int (cn' 3), .int (cn' 4), .int (cn' 5), .int (cn' 6)])) C φ ψ L K' mn la sa ma ia cn' mem kp' kr hr pr := by
  obtain ⟨hC, a1, a2, a3, a4, a5⟩ := R
  have hus : ∀ k, US L K' k → US L K k := by
    intro k hu
    rcases hu with hu | hu
    · exact Or.inl hu
    · exact (hK k hu).1
  refine ⟨hC.bench _ _, a1, ?_, fun k k' hu hu' hkk => a3 k k' (hus k hu) (hus k' hu') hkk, fun k hk => (hK k hk).2, hc⟩
  intro k hu
  obtain ⟨g1, g2⟩ := a2 k (hus k hu)
  exact ⟨g1, g2.kept (fun ⟨ci, fs, hci, hq⟩ => hup_n (hne hq hC.1 (oC_ne (by omega)))) (fun _ ⟨n, row, hq⟩ => hup_n (hne hq hC.1 (fun e => by cases e)))⟩
/-- the hand's member changes -/
theorem RC.hand (R : RC i qx fx C φ ψ L K mn la sa ma ia cn mem kp kr hr pr) (hr' : Nat → Int64) : RC i qx (hup fx (C 3) (aJ 1 hr')) C φ ψ L K mn la sa ma ia cn mem kp kr hr' pr := by
  obtain ⟨hC, a1, a2, a3, a4, a5⟩ := R
  refine ⟨⟨by rw [hup_n (hne hC.1 hC.2.2.2.2.1 (fun e => by cases e))]; exact hC.1, by rw [hup_n (hne hC.2.1 hC.2.2.2.2.1 (fun e => by cases e))]; exact hC.2.1, by rw [hup_n (hne hC.2.2.1 hC.2.2.2.2.1 (fun e => by cases e))]; exact hC.2.2.1, by rw [hup_n hC.2.2.2.2.2]; exact hC.2.2.2.1, hup_s, hC.2.2.2.2.2⟩, a1, ?_, a3, a4, a5⟩
  intro k hu
  obtain ⟨g1, g2⟩ := a2 k hu
  refine ⟨g1, g2.kept (fun ⟨ci, fs, hci, hq⟩ => hup_n (hne hq hC.2.2.2.2.1 (fun e => by cases e))) (fun hs _ => hup_n ?_)⟩
  rcases g2.2.2 with ⟨c1, -, -⟩ | c
  · rw [c1] at hs; exact absurd hs (by decide)
  · exact c.2.2.2.2.1
/-- the row that keeps changes, and what is kept with it -/
theorem RC.krow (R : RC i qx fx C φ ψ L K mn la sa ma ia cn mem kp kr hr pr) (kr' : Nat → Int64) : RC i qx (hup fx (C 2) (aJ 40 kr')) C φ ψ L K mn la sa ma ia cn mem kr' kr' hr pr ∨ ∃ k, K = some k := by
  cases K with
  | some k => exact Or.inr ⟨k, rfl⟩
  | none =>
    left
    obtain ⟨hC, a1, a2, a3, a4, a5⟩ := R
    refine ⟨⟨by rw [hup_n (hne hC.1 hC.2.2.2.1 (fun e => by cases e))]; exact hC.1, by rw [hup_n (hne hC.2.1 hC.2.2.2.1 (fun e => by cases e))]; exact hC.2.1, by rw [hup_n (hne hC.2.2.1 hC.2.2.2.1 (fun e => by cases e))]; exact hC.2.2.1, hup_s, by rw [hup_n (fun e => hC.2.2.2.2.2 e.symm)]; exact hC.2.2.2.2.1, hC.2.2.2.2.2⟩, a1, ?_, a3, fun k hk => (by cases hk), a5⟩
    intro k hu
    obtain ⟨g1, g2⟩ := a2 k hu
    refine ⟨g1, g2.kept (fun ⟨ci, fs, hci, hq⟩ => hup_n (hne hq hC.2.2.2.1 (fun e => by cases e))) (fun hs _ => hup_n ?_)⟩
    rcases g2.2.2 with ⟨c1, -, -⟩ | c
    · rw [c1] at hs; exact absurd hs (by decide)
    · exact c.2.2.2.1
end RCs
theorem numbers_iff {f : hPl} {s : Int32} (h1 : 2 ≤ s.toInt) (h2 : s.toInt ≤ 10) : (s.toInt < 6 ∧ fX4_isOfNumbers f s = some 1) ∨ (6 ≤ s.toInt ∧ fX4_isOfNumbers f s = some 0) := by
  have e2 : (2 : Int32).toInt = 2 := by decide
  have e5 : (5 : Int32).toInt = 5 := by decide
  have h3 : ¬ s < 2 := fun q => by have := Int32.lt_iff_toInt_lt.mp q; omega
  by_cases h : (5 : Int32) < s
  · have := Int32.lt_iff_toInt_lt.mp h
    exact Or.inr ⟨by omega, by simp [fX4_isOfNumbers, h3, h]⟩
  · have h4 : ¬ (5 : Int32).toInt < s.toInt := fun q => h (Int32.lt_iff_toInt_lt.mpr q)
    exact Or.inl ⟨by omega, by simp [fX4_isOfNumbers, h3, h]⟩
theorem m_set {qm : Nat} {fm : hPl} {z : Nat} {P x : Int32} {v s : Int32} (h : s = 2 ∨ s = 3 ∨ s = 4 ∨ s = 5) : (if s = 3 then fX4_set_j71 fm z qm P x v s ((v.toInt64) * (1000003 : Int64)) else fX4_set_j71 fm z qm P x v s (v.toInt64)) = fX4_set_j102 fm z qm P x (nv s v) := by
  rcases h with rfl | rfl | rfl | rfl
  · simp [fX4_set_j71, fX4_set_j90, nv]
  · simp [fX4_set_j71, fX4_set_j90, nv]
  · rw [if_neg (by decide)]
    unfold fX4_set_j71
    rw [if_pos rfl]
    unfold fX4_set_j90
    rw [if_neg (by decide), ← hbyte]
    simp [nv]
  · simp [fX4_set_j71, fX4_set_j90, nv]
theorem R_set : hS3 RI fX3_set fX4_set := by
  intro i z qx fx qm fm p x v hi hb h
  obtain ⟨B, C, φ, ψ, L, K, mn, la, sa, ma, ia, cn, mem, car, kp, kr, hr, pr, R⟩ := h
  have hM := R.1
  have hC := R.2.1
  have hI : RI (i + 1) qx fx qm fm := R_mono _ _ _ _ _ ⟨B, C, φ, ψ, L, K, mn, la, sa, ma, ia, cn, mem, car, kp, kr, hr, pr, R⟩
  rcases hplace p with h1 | ⟨P, hP, rfl⟩
  · exact ⟨-1, fx, z, fm, z, by simp [fX3_set, (fx_place_no (f := fx) h1).1], by simp [fX4_set, (fx_place_no (f := fm) h1).2], hI⟩
  have hpx := (fx_place_yes (f := fx) hP).1
  have hpm := (fx_place_yes (f := fm) hP).2
  rcases R.pl hP with ⟨h1, h2, h3⟩ | ⟨k, h1, hu, hk, h2, h3, h4, h5⟩
  · exact ⟨1, fx, z, fm, z, by simp [fX3_set, hpx, hC.q0, hC.lp hP, h3], by simp [fX4_set, hpm, hM.q0, hM.l0 hP, h2], hI⟩
  have hk1 := hsh_aux (show k < 2 ^ 31 by omega)
  rcases h5 with ⟨h5, h6, h7⟩ | ⟨t1, t2, t3, t4, t5, ⟨row, t6, t7⟩, t8⟩
  · exact ⟨2, fx, z, fm, z, by simp [fX3_set, hpx, hC.q0, hC.lp hP, h3, as_lamp h7], by simp [fX4_set, hpm, hM.q0, hM.l0 hP, h2, hk1, hM.ob, hM.sortOn hP hk h2, h5, fX4_isOfNumbers], hI⟩
  rcases numbers_iff (f := fm) t1 t2 with ⟨n1, n2⟩ | ⟨n1, n2⟩
  · have hs6 : sa k < 6 := Int32.lt_iff_toInt_lt.mpr (by have e6 : (6 : Int32).toInt = 6 := (by decide); omega)
    have hnum := num_cases t1 n1
    have hxn := x_num (fx := fx) (v := v) hnum
    by_cases hx : x < 0
    · exact ⟨3, fx, z, fm, z, by simp [fX3_set, hpx, hC.q0, hC.lp hP, h3, as_tray t6, t6.ob, t6.stones, hs6, t6.gs, hxn, t6.write_out t3 (Or.inl hx)], by simp [fX4_set, hpm, hM.q0, hM.l0 hP, h2, hk1, hM.ob, hM.sortOn hP hk h2, n2, hx], hI⟩
    · obtain ⟨j, hj, rfl⟩ := nI_of hx
      by_cases hjn : j < mn k
      · have h9 : nI j < nI (mn k) := nI_lt hjn (by omega)
        obtain ⟨fm', m1, m2⟩ := hM.s4 (show 40 * k + j < 400 by omega) (nv (sa k) v)
        have hRC : RC i qx fx C φ ψ L K mn la sa ma ia cn mem kp kr hr pr := R.2
        have hR := (hRC.cells hu t6 (row' := vp_updL row j (nv (sa k) v)) (mem' := vp_updL mem (40 * k + j) (nv (sa k) v)) (fun y hy => pk_uLn (by omega)) (fun j2 hj2 => by
          by_cases q : j2 = j
          · subst q; rw [pk_uLs, pk_uLs]
          · rw [pk_uLn q, pk_uLn (by omega)]; exact t7 j2 hj2) (fun hs => absurd hs (by omega))).more
        refine ⟨0, _, z, fm', z, ?_, ?_, B, C, φ, ψ, L, K, mn, la, sa, ma, ia, cn, _, car, kp, kr, hr, pr, m2, hR⟩
        · simp [fX3_set, hpx, hC.q0, hC.lp hP, h3, as_tray t6, t6.ob, t6.stones, hs6, t6.gs, hxn, t6.write t3 hjn]
        · simp only [fX4_set, hpm, Option.bind_some, hM.q0, hM.l0 hP, h2, if_neg hk1, hM.ob, hM.sortOn hP hk h2, n2, if_neg hx, hM.manyOn hP hk h2, h4, if_pos h9]
          rw [if_neg (by decide), if_neg (by decide), m_set hnum]
          simp [fX4_set_j102, hM.q4, hM.q0, hM.l0 hP, h2, nI_40, m1]
      · have h9 : ¬ nI j < nI (mn k) := nI_nlt (by omega) hj
        exact ⟨3, fx, z, fm, z, by simp [fX3_set, hpx, hC.q0, hC.lp hP, h3, as_tray t6, t6.ob, t6.stones, hs6, t6.gs, hxn, t6.write_out t3 (Or.inr (nI_le (show mn k ≤ j by omega) hj))], by simp [fX4_set, hpm, hM.q0, hM.l0 hP, h2, hk1, hM.ob, hM.sortOn hP hk h2, n2, hx, hM.manyOn hP hk h2, h4, h9], hI⟩
  · have hs6 : ¬ sa k < 6 := fun q => by
      have := Int32.lt_iff_toInt_lt.mp q
      have e6 : (6 : Int32).toInt = 6 := by decide
      omega
    exact ⟨2, fx, z, fm, z, by simp [fX3_set, hpx, hC.q0, hC.lp hP, h3, as_tray t6, t6.ob, t6.stones, hs6], by simp [fX4_set, hpm, hM.q0, hM.l0 hP, h2, hk1, hM.ob, hM.sortOn hP hk h2, n2], hI⟩
