theorem hup_a {f : hPl} {a y : Nat} {c e : hCe} (h : f a = some e) (hy : a ≠ y) : hup f y c a = some e := by rw [hup_n hy]; exact h
theorem x_init {f : hPl} {a y : Nat} (hay : a < y) (ha : f a = some (oC 2 hB0)) : ∃ F, fX3_init f y a = some ((), F, y + 4) ∧ CX a F (fun i => if i = 0 then y else if i = 1 then y + 1 else if i = 2 then y + 3 else y + 2) (fun _ => none) none (fun _ => 0) (fun _ => 0) (fun _ => 0) := by
  have c8 : (8 : Int32).toNatClampNeg = 8 := by decide
  have c40 : (40 : Int32).toNatClampNeg = 40 := by decide
  have e3 : hput (hup f y (aQ 8 (fun _ => none))) a 2 0 (.ref y) = some (hup (hup f y (aQ 8 (fun _ => none))) a (oC 2 [.ref y, .null, .null, .null, .int 0, .int 0, .int 0, .int 0, .int 0, .int 0, .int 0])) := g_put (hup_a ha (by omega)) (by simp)
  generalize hf3 : hup (hup f y (aQ 8 (fun _ => none))) a (oC 2 [.ref y, .null, .null, .null, .int 0, .int 0, .int 0, .int 0, .int 0, .int 0, .int 0]) = f3 at e3
  have a3 : f3 a = some (oC 2 [.ref y, .null, .null, .null, .int 0, .int 0, .int 0, .int 0, .int 0, .int 0, .int 0]) := by rw [← hf3]; exact hup_s
  have y3 : f3 y = some (aQ 8 (fun _ => none)) := by rw [← hf3, hup_n (by omega)]; exact hup_s
  have e5 := x_tray (f := f3) (z := y + 1) (s := 6) (n := 1) (by omega)
  rw [← nI_one] at e5
  generalize hf5 : hup (hup f3 (y + 1 + 1) (aJ 1 (fun _ => 0))) (y + 1) (oC 1 [.int 6, .ref (y + 1 + 1)]) = f5 at e5
  have a5 : f5 a = some (oC 2 [.ref y, .null, .null, .null, .int 0, .int 0, .int 0, .int 0, .int 0, .int 0, .int 0]) := by rw [← hf5, hup_n (by omega), hup_n (by omega)]; exact a3
  have y5 : f5 y = some (aQ 8 (fun _ => none)) := by rw [← hf5, hup_n (by omega), hup_n (by omega)]; exact y3
  have t5 : f5 (y + 1) = some (oC 1 [.int 6, .ref (y + 2)]) := by rw [← hf5]; exact hup_s
  have u5 : f5 (y + 2) = some (aJ 1 (fun _ => 0)) := by rw [← hf5, hup_n (by omega)]; exact hup_s
  have e8 : hput f5 a 2 1 (.ref (y + 1)) = some (hup f5 a (oC 2 [.ref y, .ref (y + 1), .null, .null, .int 0, .int 0, .int 0, .int 0, .int 0, .int 0, .int 0])) := g_put a5 (by simp)
  have e11 : hput (hup (hup f5 a (oC 2 [.ref y, .ref (y + 1), .null, .null, .int 0, .int 0, .int 0, .int 0, .int 0, .int 0, .int 0])) (y + 3) (aJ 40 (fun _ => 0))) a 2 2 (.ref (y + 3)) = some (hup (hup (hup f5 a (oC 2 [.ref y, .ref (y + 1), .null, .null, .int 0, .int 0, .int 0, .int 0, .int 0, .int 0, .int 0])) (y + 3) (aJ 40 (fun _ => 0))) a (oC 2 [.ref y, .ref (y + 1), .ref (y + 3), .null, .int 0, .int 0, .int 0, .int 0, .int 0, .int 0, .int 0])) := g_put (hup_a hup_s (by omega)) (by simp)
  generalize hF : hup (hup (hup f5 a (oC 2 [.ref y, .ref (y + 1), .null, .null, .int 0, .int 0, .int 0, .int 0, .int 0, .int 0, .int 0])) (y + 3) (aJ 40 (fun _ => 0))) a (oC 2 [.ref y, .ref (y + 1), .ref (y + 3), .null, .int 0, .int 0, .int 0, .int 0, .int 0, .int 0, .int 0]) = F at e11
  refine ⟨F, ?_, ?_⟩
  · simp only [fX3_init, c8, c40]
    simp [e3, e5, e8, e11]
  · subst hF
    refine ⟨hup_s, ?_, ?_, ?_, ?_, ?_⟩
    · show hup _ _ _ y = _
      rw [hup_n (by omega), hup_n (by omega), hup_n (by omega)]; exact y5
    · show hup _ _ _ (y + 1) = _
      rw [hup_n (by omega), hup_n (by omega), hup_n (by omega)]; exact t5
    · show hup _ _ _ (y + 3) = _
      rw [hup_n (by omega)]; exact hup_s
    · show hup _ _ _ (y + 2) = _
      rw [hup_n (by omega), hup_n (by omega), hup_n (by omega)]; exact u5
    · show y + 3 ≠ y + 2
      omega
theorem s_new {f : hPl} {y k n : Nat} {r : Nat → Int32} {v : Int32} (hk : k < n) (hn : n < 2 ^ 31) : hsI (hup f y (aI n r)) y (nI k) v = some (hup f y (aI n (upd r k v))) := by
  rw [g_sI hup_s hk hn, hup_hup]
theorem p_new {f : hPl} {a y ci k : Nat} {c : hCe} {fs : List Value} {v : Value} (ha : f a = some (oC ci fs)) (hy : a ≠ y) (hk : k < fs.length) : hput (hup f y c) a ci k v = some (hup (hup f y c) a (oC ci (fs.set k v))) := g_put (hup_a ha hy) hk
def la0 : Nat → Int32 := upd (upd (upd (upd (upd (upd (upd (upd (fun _ => 0) 0 (-1)) 1 (-1)) 2 (-1)) 3 (-1)) 4 (-1)) 5 (-1)) 6 (-1)) 7 (-1)
theorem la0_ok : ∀ p, p < 8 → la0 p = -1 := by decide +kernel
theorem m_init {f : hPl} {a y : Nat} (hay : a < y) (ha : f a = some (oC 3 hM0)) : ∃ F, fX4_init f y a = some ((), F, y + 8) ∧ MX a F (fun i => if i = 7 then y + 9 else if i = 8 then y + 7 else y + i) la0 (fun _ => 0) (fun _ => 0) (fun _ => 0) (fun _ => 0) (fun _ => 0) (fun _ => 0) (fun _ => 0) (-1) := by
  have c8 : (8 : Int32).toNatClampNeg = 8 := by decide
  have c10 : (10 : Int32).toNatClampNeg = 10 := by decide
  have c7 : (7 : Int32).toNatClampNeg = 7 := by decide
  have c400 : (400 : Int32).toNatClampNeg = 400 := by decide
  have c40 : (40 : Int32).toNatClampNeg = 40 := by decide
  have s0 := fun r => s_new (f := f) (y := y) (k := 0) (n := 8) (r := r) (v := -1) (by omega) (by omega)
  have s1 := fun r => s_new (f := f) (y := y) (k := 1) (n := 8) (r := r) (v := -1) (by omega) (by omega)
  have s2 := fun r => s_new (f := f) (y := y) (k := 2) (n := 8) (r := r) (v := -1) (by omega) (by omega)
  have s3 := fun r => s_new (f := f) (y := y) (k := 3) (n := 8) (r := r) (v := -1) (by omega) (by omega)
  have s4 := fun r => s_new (f := f) (y := y) (k := 4) (n := 8) (r := r) (v := -1) (by omega) (by omega)
  have s5 := fun r => s_new (f := f) (y := y) (k := 5) (n := 8) (r := r) (v := -1) (by omega) (by omega)
  have s6 := fun r => s_new (f := f) (y := y) (k := 6) (n := 8) (r := r) (v := -1) (by omega) (by omega)
  have s7 := fun r => s_new (f := f) (y := y) (k := 7) (n := 8) (r := r) (v := -1) (by omega) (by omega)
  have n0 : nI 0 = 0 := by decide
  have n1 : nI 1 = 1 := by decide
  have n2 : nI 2 = 2 := by decide
  have n3 : nI 3 = 3 := by decide
  have n4 : nI 4 = 4 := by decide
  have n5 : nI 5 = 5 := by decide
  have n6 : nI 6 = 6 := by decide
  have n7 : nI 7 = 7 := by decide
  rw [n0] at s0; rw [n1] at s1; rw [n2] at s2; rw [n3] at s3; rw [n4] at s4; rw [n5] at s5; rw [n6] at s6; rw [n7] at s7
  have p0 : hput (hup f y (aI 8 la0)) a 3 0 (.ref y) = some (hup (hup f y (aI 8 la0)) a (oC 3 [.ref y, .null, .null, .null, .null, .null, .null, .int 0, .null])) := p_new ha (by omega) (by simp)
  generalize hg0 : hup (hup f y (aI 8 la0)) a (oC 3 [.ref y, .null, .null, .null, .null, .null, .null, .int 0, .null]) = g0 at p0
  have a0 : g0 a = some (oC 3 [.ref y, .null, .null, .null, .null, .null, .null, .int 0, .null]) := by rw [← hg0]; exact hup_s
  have b0 : g0 y = some (aI 8 la0) := by rw [← hg0, hup_n (by omega)]; exact hup_s
  have p1 : hput (hup g0 (y + 1) (aI 10 (fun _ => 0))) a 3 1 (.ref (y + 1)) = some (hup (hup g0 (y + 1) (aI 10 (fun _ => 0))) a (oC 3 [.ref y, .ref (y + 1), .null, .null, .null, .null, .null, .int 0, .null])) := p_new a0 (by omega) (by simp)
  generalize hg1 : hup (hup g0 (y + 1) (aI 10 (fun _ => 0))) a (oC 3 [.ref y, .ref (y + 1), .null, .null, .null, .null, .null, .int 0, .null]) = g1 at p1
  have a1 : g1 a = some (oC 3 [.ref y, .ref (y + 1), .null, .null, .null, .null, .null, .int 0, .null]) := by rw [← hg1]; exact hup_s
  have b1 : g1 (y + 1) = some (aI 10 (fun _ => 0)) := by rw [← hg1, hup_n (by omega)]; exact hup_s
  have q1 : ∀ x, x ≠ a → x ≠ y + 1 → g1 x = g0 x := fun x h1 h2 => by rw [← hg1, hup_n h1, hup_n h2]
  have p2 : hput (hup g1 (y + 1 + 1) (aI 10 (fun _ => 0))) a 3 2 (.ref (y + 1 + 1)) = some (hup (hup g1 (y + 1 + 1) (aI 10 (fun _ => 0))) a (oC 3 [.ref y, .ref (y + 1), .ref (y + 1 + 1), .null, .null, .null, .null, .int 0, .null])) := p_new a1 (by omega) (by simp)
  generalize hg2 : hup (hup g1 (y + 1 + 1) (aI 10 (fun _ => 0))) a (oC 3 [.ref y, .ref (y + 1), .ref (y + 1 + 1), .null, .null, .null, .null, .int 0, .null]) = g2 at p2
  have a2 : g2 a = some (oC 3 [.ref y, .ref (y + 1), .ref (y + 1 + 1), .null, .null, .null, .null, .int 0, .null]) := by rw [← hg2]; exact hup_s
  have b2 : g2 (y + 1 + 1) = some (aI 10 (fun _ => 0)) := by rw [← hg2, hup_n (by omega)]; exact hup_s
  have q2 : ∀ x, x ≠ a → x ≠ y + 1 + 1 → g2 x = g1 x := fun x h1 h2 => by rw [← hg2, hup_n h1, hup_n h2]
  have p3 : hput (hup g2 (y + 1 + 1 + 1) (aI 10 (fun _ => 0))) a 3 3 (.ref (y + 1 + 1 + 1)) = some (hup (hup g2 (y + 1 + 1 + 1) (aI 10 (fun _ => 0))) a (oC 3 [.ref y, .ref (y + 1), .ref (y + 1 + 1), .ref (y + 1 + 1 + 1), .null, .null, .null, .int 0, .null])) := p_new a2 (by omega) (by simp)
  generalize hg3 : hup (hup g2 (y + 1 + 1 + 1) (aI 10 (fun _ => 0))) a (oC 3 [.ref y, .ref (y + 1), .ref (y + 1 + 1), .ref (y + 1 + 1 + 1), .null, .null, .null, .int 0, .null]) = g3 at p3
  have a3 : g3 a = some (oC 3 [.ref y, .ref (y + 1), .ref (y + 1 + 1), .ref (y + 1 + 1 + 1), .null, .null, .null, .int 0, .null]) := by rw [← hg3]; exact hup_s
  have b3 : g3 (y + 1 + 1 + 1) = some (aI 10 (fun _ => 0)) := by rw [← hg3, hup_n (by omega)]; exact hup_s
  have q3 : ∀ x, x ≠ a → x ≠ y + 1 + 1 + 1 → g3 x = g2 x := fun x h1 h2 => by rw [← hg3, hup_n h1, hup_n h2]
  have p4 : hput (hup g3 (y + 1 + 1 + 1 + 1) (aJ 400 (fun _ => 0))) a 3 4 (.ref (y + 1 + 1 + 1 + 1)) = some (hup (hup g3 (y + 1 + 1 + 1 + 1) (aJ 400 (fun _ => 0))) a (oC 3 [.ref y, .ref (y + 1), .ref (y + 1 + 1), .ref (y + 1 + 1 + 1), .ref (y + 1 + 1 + 1 + 1), .null, .null, .int 0, .null])) := p_new a3 (by omega) (by simp)
  generalize hg4 : hup (hup g3 (y + 1 + 1 + 1 + 1) (aJ 400 (fun _ => 0))) a (oC 3 [.ref y, .ref (y + 1), .ref (y + 1 + 1), .ref (y + 1 + 1 + 1), .ref (y + 1 + 1 + 1 + 1), .null, .null, .int 0, .null]) = g4 at p4
  have a4 : g4 a = some (oC 3 [.ref y, .ref (y + 1), .ref (y + 1 + 1), .ref (y + 1 + 1 + 1), .ref (y + 1 + 1 + 1 + 1), .null, .null, .int 0, .null]) := by rw [← hg4]; exact hup_s
  have b4 : g4 (y + 1 + 1 + 1 + 1) = some (aJ 400 (fun _ => 0)) := by rw [← hg4, hup_n (by omega)]; exact hup_s
  have q4 : ∀ x, x ≠ a → x ≠ y + 1 + 1 + 1 + 1 → g4 x = g3 x := fun x h1 h2 => by rw [← hg4, hup_n h1, hup_n h2]
  have p5 : hput (hup g4 (y + 1 + 1 + 1 + 1 + 1) (aJ 40 (fun _ => 0))) a 3 5 (.ref (y + 1 + 1 + 1 + 1 + 1)) = some (hup (hup g4 (y + 1 + 1 + 1 + 1 + 1) (aJ 40 (fun _ => 0))) a (oC 3 [.ref y, .ref (y + 1), .ref (y + 1 + 1), .ref (y + 1 + 1 + 1), .ref (y + 1 + 1 + 1 + 1), .ref (y + 1 + 1 + 1 + 1 + 1), .null, .int 0, .null])) := p_new a4 (by omega) (by simp)
  generalize hg5 : hup (hup g4 (y + 1 + 1 + 1 + 1 + 1) (aJ 40 (fun _ => 0))) a (oC 3 [.ref y, .ref (y + 1), .ref (y + 1 + 1), .ref (y + 1 + 1 + 1), .ref (y + 1 + 1 + 1 + 1), .ref (y + 1 + 1 + 1 + 1 + 1), .null, .int 0, .null]) = g5 at p5
  have a5 : g5 a = some (oC 3 [.ref y, .ref (y + 1), .ref (y + 1 + 1), .ref (y + 1 + 1 + 1), .ref (y + 1 + 1 + 1 + 1), .ref (y + 1 + 1 + 1 + 1 + 1), .null, .int 0, .null]) := by rw [← hg5]; exact hup_s
  have b5 : g5 (y + 1 + 1 + 1 + 1 + 1) = some (aJ 40 (fun _ => 0)) := by rw [← hg5, hup_n (by omega)]; exact hup_s
  have q5 : ∀ x, x ≠ a → x ≠ y + 1 + 1 + 1 + 1 + 1 → g5 x = g4 x := fun x h1 h2 => by rw [← hg5, hup_n h1, hup_n h2]
  have p6 : hput (hup g5 (y + 1 + 1 + 1 + 1 + 1 + 1) (aJ 40 (fun _ => 0))) a 3 6 (.ref (y + 1 + 1 + 1 + 1 + 1 + 1)) = some (hup (hup g5 (y + 1 + 1 + 1 + 1 + 1 + 1) (aJ 40 (fun _ => 0))) a (oC 3 [.ref y, .ref (y + 1), .ref (y + 1 + 1), .ref (y + 1 + 1 + 1), .ref (y + 1 + 1 + 1 + 1), .ref (y + 1 + 1 + 1 + 1 + 1), .ref (y + 1 + 1 + 1 + 1 + 1 + 1), .int 0, .null])) := p_new a5 (by omega) (by simp)
  generalize hg6 : hup (hup g5 (y + 1 + 1 + 1 + 1 + 1 + 1) (aJ 40 (fun _ => 0))) a (oC 3 [.ref y, .ref (y + 1), .ref (y + 1 + 1), .ref (y + 1 + 1 + 1), .ref (y + 1 + 1 + 1 + 1), .ref (y + 1 + 1 + 1 + 1 + 1), .ref (y + 1 + 1 + 1 + 1 + 1 + 1), .int 0, .null]) = g6 at p6
  have a6 : g6 a = some (oC 3 [.ref y, .ref (y + 1), .ref (y + 1 + 1), .ref (y + 1 + 1 + 1), .ref (y + 1 + 1 + 1 + 1), .ref (y + 1 + 1 + 1 + 1 + 1), .ref (y + 1 + 1 + 1 + 1 + 1 + 1), .int 0, .null]) := by rw [← hg6]; exact hup_s
  have b6 : g6 (y + 1 + 1 + 1 + 1 + 1 + 1) = some (aJ 40 (fun _ => 0)) := by rw [← hg6, hup_n (by omega)]; exact hup_s
  have q6 : ∀ x, x ≠ a → x ≠ y + 1 + 1 + 1 + 1 + 1 + 1 → g6 x = g5 x := fun x h1 h2 => by rw [← hg6, hup_n h1, hup_n h2]
  have p7 : hput g6 a 3 7 (.int (-1)) = some (hup g6 a (oC 3 [.ref y, .ref (y + 1), .ref (y + 1 + 1), .ref (y + 1 + 1 + 1), .ref (y + 1 + 1 + 1 + 1), .ref (y + 1 + 1 + 1 + 1 + 1), .ref (y + 1 + 1 + 1 + 1 + 1 + 1), .int (-1), .null])) := g_put a6 (by simp)
  generalize hg7 : hup g6 a (oC 3 [.ref y, .ref (y + 1), .ref (y + 1 + 1), .ref (y + 1 + 1 + 1), .ref (y + 1 + 1 + 1 + 1), .ref (y + 1 + 1 + 1 + 1 + 1), .ref (y + 1 + 1 + 1 + 1 + 1 + 1), .int (-1), .null]) = g7 at p7
  have a7 : g7 a = some (oC 3 [.ref y, .ref (y + 1), .ref (y + 1 + 1), .ref (y + 1 + 1 + 1), .ref (y + 1 + 1 + 1 + 1), .ref (y + 1 + 1 + 1 + 1 + 1), .ref (y + 1 + 1 + 1 + 1 + 1 + 1), .int (-1), .null]) := by rw [← hg7]; exact hup_s
  have q7 : ∀ x, x ≠ a → g7 x = g6 x := fun x h1 => by rw [← hg7, hup_n h1]
  have p8 : hput (hup g7 (y + 1 + 1 + 1 + 1 + 1 + 1 + 1) (aI 7 (fun _ => 0))) a 3 8 (.ref (y + 1 + 1 + 1 + 1 + 1 + 1 + 1)) = some (hup (hup g7 (y + 1 + 1 + 1 + 1 + 1 + 1 + 1) (aI 7 (fun _ => 0))) a (oC 3 [.ref y, .ref (y + 1), .ref (y + 1 + 1), .ref (y + 1 + 1 + 1), .ref (y + 1 + 1 + 1 + 1), .ref (y + 1 + 1 + 1 + 1 + 1), .ref (y + 1 + 1 + 1 + 1 + 1 + 1), .int (-1), .ref (y + 1 + 1 + 1 + 1 + 1 + 1 + 1)])) := p_new a7 (by omega) (by simp)
  generalize hg8 : hup (hup g7 (y + 1 + 1 + 1 + 1 + 1 + 1 + 1) (aI 7 (fun _ => 0))) a (oC 3 [.ref y, .ref (y + 1), .ref (y + 1 + 1), .ref (y + 1 + 1 + 1), .ref (y + 1 + 1 + 1 + 1), .ref (y + 1 + 1 + 1 + 1 + 1), .ref (y + 1 + 1 + 1 + 1 + 1 + 1), .int (-1), .ref (y + 1 + 1 + 1 + 1 + 1 + 1 + 1)]) = g8 at p8
  have a8 : g8 a = some (oC 3 [.ref y, .ref (y + 1), .ref (y + 1 + 1), .ref (y + 1 + 1 + 1), .ref (y + 1 + 1 + 1 + 1), .ref (y + 1 + 1 + 1 + 1 + 1), .ref (y + 1 + 1 + 1 + 1 + 1 + 1), .int (-1), .ref (y + 1 + 1 + 1 + 1 + 1 + 1 + 1)]) := by rw [← hg8]; exact hup_s
  have b8 : g8 (y + 1 + 1 + 1 + 1 + 1 + 1 + 1) = some (aI 7 (fun _ => 0)) := by rw [← hg8, hup_n (by omega)]; exact hup_s
  have q8 : ∀ x, x ≠ a → x ≠ y + 1 + 1 + 1 + 1 + 1 + 1 + 1 → g8 x = g7 x := fun x h1 h2 => by rw [← hg8, hup_n h1, hup_n h2]
  refine ⟨g8, ?_, ?_⟩
  · have hl0 : upd (upd (upd (upd (upd (upd (upd (upd (fun _ => 0) 0 (-1)) 1 (-1)) 2 (-1)) 3 (-1)) 4 (-1)) 5 (-1)) 6 (-1)) 7 (-1) = la0 := rfl
    simp only [fX4_init, c8, c10, c7, c400, c40]
    simp [s0, s1, s2, s3, s4, s5, s6, s7, hl0, p0, p1, p2, p3, p4, p5, p6, p7, p8]
  · refine ⟨a8, ?_, ?_, ?_, ?_, ?_, ?_, ?_, b8, ?_, ?_⟩
    · show g8 (y + 0) = _
      rw [q8 _ (by omega) (by omega), q7 _ (by omega), q6 _ (by omega) (by omega), q5 _ (by omega) (by omega), q4 _ (by omega) (by omega), q3 _ (by omega) (by omega), q2 _ (by omega) (by omega), q1 _ (by omega) (by omega)]; exact b0
    · show g8 (y + 1) = _
      rw [q8 _ (by omega) (by omega), q7 _ (by omega), q6 _ (by omega) (by omega), q5 _ (by omega) (by omega), q4 _ (by omega) (by omega), q3 _ (by omega) (by omega), q2 _ (by omega) (by omega)]; exact b1
    · show g8 (y + 2) = _
      rw [q8 _ (by omega) (by omega), q7 _ (by omega), q6 _ (by omega) (by omega), q5 _ (by omega) (by omega), q4 _ (by omega) (by omega), q3 _ (by omega) (by omega)]; exact b2
    · show g8 (y + 3) = _
      rw [q8 _ (by omega) (by omega), q7 _ (by omega), q6 _ (by omega) (by omega), q5 _ (by omega) (by omega), q4 _ (by omega) (by omega)]; exact b3
    · show g8 (y + 4) = _
      rw [q8 _ (by omega) (by omega), q7 _ (by omega), q6 _ (by omega) (by omega), q5 _ (by omega) (by omega)]; exact b4
    · show g8 (y + 5) = _
      rw [q8 _ (by omega) (by omega), q7 _ (by omega), q6 _ (by omega) (by omega)]; exact b5
    · show g8 (y + 6) = _
      rw [q8 _ (by omega) (by omega), q7 _ (by omega)]; exact b6
    · intro i j hi hj h
      dsimp only at h
      split at h <;> split at h <;> (try split at h) <;> (try split at h) <;> omega
    · intro i hi
      dsimp only
      split
      · omega
      · split <;> omega
theorem R_init : ∀ z, ∃ fx1 z1, fX3_init (hup hN z (oC 2 hB0)) (z + 1) z = some ((), fx1, z1) ∧ ∀ y, ∃ fm1 y1, fX4_init (hup hN y (oC 3 hM0)) (y + 1) y = some ((), fm1, y1) ∧ RI 0 z fx1 y fm1 := by
  intro z
  obtain ⟨F, h1, h2⟩ := x_init (f := hup hN z (oC 2 hB0)) (a := z) (y := z + 1) (by omega) hup_s
  refine ⟨F, _, h1, fun y => ?_⟩
  obtain ⟨G, g1, g2⟩ := m_init (f := hup hN y (oC 3 hM0)) (a := y) (y := y + 1) (by omega) hup_s
  refine ⟨G, _, g1, ?_⟩
  refine RI_of (φ := fun _ => 0) (ψ := fun _ => 0) (L := fun _ => none) (K := none) (mn := fun _ => 0) g2 ⟨h2, fun p hp => ⟨la0_ok p hp, rfl⟩, fun k hu => ?_, fun k k' hu => ?_, fun k hk => (by cases hk), 0, by omega, rfl⟩
  · rcases hu with ⟨p, hp, hq⟩ | hq <;> cases hq
  · rcases hu with ⟨p, hp, hq⟩ | hq <;> cases hq
