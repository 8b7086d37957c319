/-! THE CLAIM OUT OF ONE WALK OF THE LAW'S BODY. Your part is whole_start (and what it stands on); all else here is the same for every law, but numbers. -/
def R_law : String := "SetterBenchLaw"
def lw_P (b : Addr) (xs : List Int32) (args : Array Value) (s : State) : Prop := args = #[.ref b] ∧ s.IntsAt b xs ∧ xs.length ≤ 3072 ∧ (Jvm.Cond.and given_1 narrow_1).before args s = true
def lw_Q (_ : Array Value) (s : State) (o : Outcome) (t : State) : Prop := o = .returned (some (.int 1)) ∧ Framed s o t [] 600000 7302250
def lw_Z (below : List Frame) (a : Array Value) (s : State) : State → Prop := fun t => ∃ o, t.status = .running ∧ Ended t below o ∧ lw_Q a s o t
/-- the law's own end, with 1 on the stack, nothing written that was there before, its room as the claim has it -/
theorem lw_ret {p : Program} {l : Launch} {e : Env} {s : State} {m : MethodId} {below : List Frame} {meth : Method} {c : Code} {b : Nat} (hx : p.tables.exec = Jvm.exec) (hb : c.code = code) (hr : meth.sig.returnType = ret) (hlocks : meth.locks = false) {pc : Nat} {H : Heap} {ls : Array Slot} (hdg : decode code pc = .ok (.ireturn, 1)) : W p l e room_1 s m #[Value.ref b] below meth c H [] 600000 7302250 (lw_Z below #[Value.ref b] s) (F0 m pc ls [.int 1]) := by
  intro T hT X
  obtain ⟨fs, hret, hrun, hended, hW, hframe⟩ := X.leave (v := some (.int 1)) (hlocks := hlocks) (fun h => by rw [hr] at h; cases h)
  have hmeth' : T.vm.method? m = some meth := X.method'
  refine ⟨T.setFrames fs, ?_, .returned (some (.int 1)), hrun, hended, rfl, ⟨_, rfl⟩, hW, hframe⟩
  jvm_step X.here [X.here.top, hx, hb, hdg, hmeth', hr, ret, narrow_b1]
  (try refine ⟨rfl, ?_⟩); (try refine ⟨rfl, ?_⟩)
  first | (intro acts; rw [hret _ acts rfl rfl rfl]) | rw [hret _ _ rfl rfl rfl]
  exact Steps.refl _
/-- what holds at the law's entry: the machine, the code, the tables' words (any of lw_tbl by 'hts w (by decide +kernel)'), the script of L ints xs at the cell b, what the Statement gives of the start (any of its parts by flat_of_before) -/
def lw_At (p : Program) (s : State) (m : MethodId) (meth : Method) (c : Code) (b L : Nat) (xs : Nat → Int32) : Prop :=
  p.tables.exec = Jvm.exec ∧ c.code = code ∧ meth.sig.returnType = ret ∧ c.maxLocals = 4 ∧ s.vm.findClass R_law = some m.cls ∧ (∀ w ∈ lw_tbl, w.before #[Value.ref b] s = true) ∧ va_X b L xs s s.heap ∧ b < s.heap.size ∧ meth.locks = false ∧ (Jvm.Cond.and given_1 narrow_1).before #[Value.ref b] s = true
-- ===== YOUR PART BEGINS =====
theorem hsw12 {x : Int32} (h : ¬ (x.toInt < 0 ∨ 11 < x.toInt)) : x = 0 ∨ x = 1 ∨ x = 2 ∨ x = 3 ∨ x = 4 ∨ x = 5 ∨ x = 6 ∨ x = 7 ∨ x = 8 ∨ x = 9 ∨ x = 10 ∨ x = 11 := by
  have h1 : x.toInt = 0 ∨ x.toInt = 1 ∨ x.toInt = 2 ∨ x.toInt = 3 ∨ x.toInt = 4 ∨ x.toInt = 5 ∨ x.toInt = 6 ∨ x.toInt = 7 ∨ x.toInt = 8 ∨ x.toInt = 9 ∨ x.toInt = 10 ∨ x.toInt = 11 := by omega
  have k : ∀ y : Int32, x.toInt = y.toInt → x = y := fun y h => Int32.toInt_inj.mp h
  rcases h1 with h | h | h | h | h | h | h | h | h | h | h | h
  · exact Or.inl (k 0 h)
  · exact Or.inr (Or.inl (k 1 h))
  · exact Or.inr (Or.inr (Or.inl (k 2 h)))
  · exact Or.inr (Or.inr (Or.inr (Or.inl (k 3 h))))
  · exact Or.inr (Or.inr (Or.inr (Or.inr (Or.inl (k 4 h)))))
  · exact Or.inr (Or.inr (Or.inr (Or.inr (Or.inr (Or.inl (k 5 h))))))
  · exact Or.inr (Or.inr (Or.inr (Or.inr (Or.inr (Or.inr (Or.inl (k 6 h)))))))
  · exact Or.inr (Or.inr (Or.inr (Or.inr (Or.inr (Or.inr (Or.inr (Or.inl (k 7 h))))))))
  · exact Or.inr (Or.inr (Or.inr (Or.inr (Or.inr (Or.inr (Or.inr (Or.inr (Or.inl (k 8 h)))))))))
  · exact Or.inr (Or.inr (Or.inr (Or.inr (Or.inr (Or.inr (Or.inr (Or.inr (Or.inr (Or.inl (k 9 h))))))))))
  · exact Or.inr (Or.inr (Or.inr (Or.inr (Or.inr (Or.inr (Or.inr (Or.inr (Or.inr (Or.inr (Or.inl (k 10 h)))))))))))
  · exact Or.inr (Or.inr (Or.inr (Or.inr (Or.inr (Or.inr (Or.inr (Or.inr (Or.inr (Or.inr (Or.inr (k 11 h)))))))))))
theorem hlc (r : Int64) : lg_cmp r r = 0 := by
  have h : ¬ r > r := fun h => by
    have := Int64.lt_iff_toInt_lt.mp h
    omega
  simp [lg_cmp]
theorem hidx {j k : Nat} {x3 y : Int32} {L : Nat} (hx : x3 = nI (6 * j)) (hy : y = nI k) (hk : 6 * j + k < L) (hL : L ≤ 3072) : vp_in (x3 + y) L := by
  rw [hx, hy, nI_add]
  exact vp_in_nI hk (by omega)
set_option maxHeartbeats 8000000 in
set_option maxRecDepth 100000 in
theorem law_loop {p : Program} {l : Launch} {e : Env} {s : State} {m : MethodId} {below : List Frame} {meth : Method} {c : Code} {g : hGb} {b L : Nat} {xs : Nat → Int32} (hL : L ≤ 3072) (C0 : lw_At p s m meth c b L xs) (hk : hK g s) {I : hInv} (HA : hAll I) :
    ∀ (n j : Nat) (x3 : Int32), L + 1 ≤ 6 * j + n → 6 * j ≤ L → x3 = nI (6 * j) → ∀ (qx : Nat) (fx : hPl) (qm : Nat) (fm : hPl) (z : Nat) (H : Heap) (locs : List Loc), hW g (fun q : Nat => s.heap.size ≤ q) s fx z H locs → hW g (fun q : Nat => s.heap.size ≤ q) s fm z H locs → (∀ a, fx a ≠ none → fm a = none) → I j qx fx qm fm → ∀ (ls : Array Slot), lv_has ls 4 [(0, .ref b), (1, .ref qx), (2, .ref qm), (3, .int x3)] → W p l e room_1 s m #[Value.ref b] below meth c H locs (100 + 2 * j) (1000 + 42 * j) (lw_Z below #[Value.ref b] s) (F0 m 18 ls []) := by
  obtain ⟨hx, hb, hr, hml, hown, hts, hX, hbl, hlocks, hgv⟩ := C0
  have hts := fun w h => hts w (wsL_law_in w h)
  have hown : s.vm.findClass RL = some m.cls := hown
  obtain ⟨H_init, H_mono, H_ob, H_lay, H_share, H_set, H_put, H_sweep, H_back, H_light, H_member, H_thing, H_worth, H_mirror, H_count⟩ := HA
  have hbA : ¬ (fun q : Nat => s.heap.size ≤ q) b := Nat.not_le.mpr hbl
  intro n
  induction n with
  | zero =>
    intro j x3 h1 h2
    exact absurd h1 (by omega)
  | succ n ih =>
    intro j x3 h1 h2 ex3 qx fx qm fm z H locs hw hw2 hdis hI ls hl
    refine lv_iload_n hx hb dL_law_18 rfl (lv_at hl 3 rfl) ?_
    refine lv_aload_n hx hb dL_law_19 rfl (lv_at hl 0 rfl) ?_
    refine va_slen hx hb hX hbl hbA hw.2.2.1 dL_law_20 ?_
    refine lv_bipush (v := 6) hx hb dL_law_21 (by decide) ?_
    refine lv_isub hx hb dL_law_23 ?_
    refine lv_icmp_gt (tgt := 509) hx hb dL_law_24 (by decide) (fun c1 => ?_) (fun c1 => ?_)
    · refine lv_iconst (v := 1) hx hb dL_law_509 (by decide) ?_
      refine va_forget (fun q hq => hw.2.2.1.2.2 q hq) ?_
      refine W.widen (k := 600000) (n := 7302250) (by omega) (by omega) ?_
      exact lw_ret hx hb hr hlocks dL_law_510
    have hj : 6 * j + 6 ≤ L := by
      rcases Nat.lt_or_ge L (6 * j + 6) with q | q
      · refine absurd ?_ c1
        rw [ex3, Int32.lt_iff_toInt_lt, show (6 : Int32) = nI 6 from by decide, show Int32.ofNat L = nI L from rfl, pk_sub_toInt (by omega) (by omega), nI_toInt (by omega)]
        omega
      · exact q
    have hj5 : j < 512 := by omega
    have i0 : vp_in x3 L := by rw [ex3]; exact vp_in_nI (by omega) (by omega)
    have i1 : vp_in (x3 + 1) L := hidx (k := 1) ex3 (by decide) (by omega) hL
    have i2 : vp_in (x3 + 2) L := hidx (k := 2) ex3 (by decide) (by omega) hL
    have i3 : vp_in (x3 + 3) L := hidx (k := 3) ex3 (by decide) (by omega) hL
    have i4 : vp_in (x3 + 4) L := hidx (k := 4) ex3 (by decide) (by omega) hL
    have i5 : vp_in (x3 + 5) L := hidx (k := 5) ex3 (by decide) (by omega) hL
    have tail : ∀ (fx fm : hPl) (z : Nat) (H : Heap) (locs : List Loc), hW g (fun q : Nat => s.heap.size ≤ q) s fx z H locs → hW g (fun q : Nat => s.heap.size ≤ q) s fm z H locs → (∀ a, fx a ≠ none → fm a = none) → I (j + 1) qx fx qm fm → W p l e room_1 s m #[Value.ref b] below meth c H locs (100 + 2 * (j + 1)) (1000 + 42 * (j + 1)) (lw_Z below #[Value.ref b] s) (F0 m 503 ls []) := by
      intro fx fm z H locs hw hw2 hdis hI
      refine lv_iinc (v := x3 + 6) (lv' := [(3, .int (x3 + 6)), (0, .ref b), (1, .ref qx), (2, .ref qm)]) hx hb dL_law_503 hl (k := 3) rfl rfl (by decide) rfl (fun ls hl => ?_)
      refine lv_goto (tgt := 18) hx hb dL_law_506 (by decide) ?_
      exact ih (j + 1) (x3 + 6) (by omega) (by omega) (by rw [ex3, show (6 : Int32) = nI 6 from by decide, nI_add, Nat.mul_add]) qx fx qm fm z H locs hw hw2 hdis hI ls (lv_sub hl [1, 2, 3, 0] rfl)
    obtain ⟨hox, hom⟩ := H_ob _ _ _ _ _ hI
    refine lv_aload_n hx hb dL_law_27 rfl (lv_at hl 0 rfl) ?_
    refine lv_iload_n hx hb dL_law_28 rfl (lv_at hl 3 rfl) ?_
    refine va_sld hx hb hX hbl hbA hw.2.2.1 i0 dL_law_29 ?_
    refine lv_bipush (v := 15) hx hb dL_law_30 (by decide) ?_
    refine lv_iand hx hb dL_law_32 ?_
    by_cases c2 : (xs x3.toNatClampNeg &&& 15).toInt < 0 ∨ 11 < (xs x3.toNatClampNeg &&& 15).toInt
    · refine lv_tableOut (tgt := 503) hx hb dL_law_33 c2 (by decide) ?_
      refine W.widen (k := 100 + 2 * (j + 1)) (n := 1000 + 42 * (j + 1)) (by omega) (by omega) ?_
      exact tail fx fm z H locs hw hw2 hdis (H_mono _ _ _ _ _ hI)
    rcases hsw12 c2 with c3 | c3 | c3 | c3 | c3 | c3 | c3 | c3 | c3 | c3 | c3 | c3
    · refine hv_arm (off := 63) (tgt := 96) hx hb c3 dL_law_33 (by decide) (by decide) (by decide) (by decide) ?_
      refine lv_aload_n hx hb dL_law_96 rfl (lv_at hl 1 rfl) ?_
      refine lv_aload_n hx hb dL_law_97 rfl (lv_at hl 0 rfl) ?_
      refine lv_iload_n hx hb dL_law_98 rfl (lv_at hl 3 rfl) ?_
      refine lv_iconst (v := 1) hx hb dL_law_99 (by decide) ?_
      refine lv_iadd hx hb dL_law_100 ?_
      refine va_sld hx hb hX hbl hbA hw.2.2.1 i1 dL_law_101 ?_
      refine lv_aload_n hx hb dL_law_102 rfl (lv_at hl 0 rfl) ?_
      refine lv_iload_n hx hb dL_law_103 rfl (lv_at hl 3 rfl) ?_
      refine lv_iconst (v := 2) hx hb dL_law_104 (by decide) ?_
      refine lv_iadd hx hb dL_law_105 ?_
      refine va_sld hx hb hX hbl hbA hw.2.2.1 i2 dL_law_106 ?_
      refine lv_aload_n hx hb dL_law_107 rfl (lv_at hl 0 rfl) ?_
      refine lv_iload_n hx hb dL_law_108 rfl (lv_at hl 3 rfl) ?_
      refine lv_iconst (v := 3) hx hb dL_law_109 (by decide) ?_
      refine lv_iadd hx hb dL_law_110 ?_
      refine va_sld hx hb hX hbl hbA hw.2.2.1 i3 dL_law_111 ?_
      obtain ⟨r, fx1, z1, fm1, z2, ex, em, hI1⟩ := H_lay _ z _ _ _ _ _ _ _ hj5 (fun a e h => hw.lt h) hI
      refine hcallV2 (o := some (.int r)) hx hb hml hown hts hk [.int (xs (x3 + 1).toNatClampNeg), .int (xs (x3 + 2).toNatClampNeg), .int (xs (x3 + 3).toNatClampNeg)] [] (kX3_lay l g ex) gL_law_X3_lay rfl (n := 3) rfl (by decide +kernel) ⟨Nat.le_of_ble_eq_true rfl, Nat.le_of_ble_eq_true rfl⟩ (ci := 2) rfl hox hw hw2 hdis hl.1 rfl (Nat.le_of_ble_eq_true rfl) dL_law_112 ⟨by show _ ≤ 600000; omega, by show _ ≤ 7302250; omega⟩ (fun H locs hw hw2 hdis => ?_)
      refine W.eq (g2 := F0 m 115 ls [.int r]) rfl ?_
      refine lv_aload_n hx hb dL_law_115 rfl (lv_at hl 2 rfl) ?_
      refine lv_aload_n hx hb dL_law_116 rfl (lv_at hl 0 rfl) ?_
      refine lv_iload_n hx hb dL_law_117 rfl (lv_at hl 3 rfl) ?_
      refine lv_iconst (v := 1) hx hb dL_law_118 (by decide) ?_
      refine lv_iadd hx hb dL_law_119 ?_
      refine va_sld hx hb hX hbl hbA hw.2.2.1 i1 dL_law_120 ?_
      refine lv_aload_n hx hb dL_law_121 rfl (lv_at hl 0 rfl) ?_
      refine lv_iload_n hx hb dL_law_122 rfl (lv_at hl 3 rfl) ?_
      refine lv_iconst (v := 2) hx hb dL_law_123 (by decide) ?_
      refine lv_iadd hx hb dL_law_124 ?_
      refine va_sld hx hb hX hbl hbA hw.2.2.1 i2 dL_law_125 ?_
      refine lv_aload_n hx hb dL_law_126 rfl (lv_at hl 0 rfl) ?_
      refine lv_iload_n hx hb dL_law_127 rfl (lv_at hl 3 rfl) ?_
      refine lv_iconst (v := 3) hx hb dL_law_128 (by decide) ?_
      refine lv_iadd hx hb dL_law_129 ?_
      refine va_sld hx hb hX hbl hbA hw.2.2.1 i3 dL_law_130 ?_
      refine hcallV2 (o := some (.int r)) hx hb hml hown hts hk [.int (xs (x3 + 1).toNatClampNeg), .int (xs (x3 + 2).toNatClampNeg), .int (xs (x3 + 3).toNatClampNeg)] [.int r] (kX4_lay l g em) gL_law_X4_lay rfl (n := 3) rfl (by decide +kernel) ⟨Nat.le_of_ble_eq_true rfl, Nat.le_of_ble_eq_true rfl⟩ (ci := 3) rfl hom hw2 hw (fun a ha => Classical.byContradiction fun h9 => ha (hdis a h9)) hl.1 rfl (Nat.le_of_ble_eq_true rfl) dL_law_131 ⟨by show _ ≤ 600000; omega, by show _ ≤ 7302250; omega⟩ (fun H locs hw2 hw hdis => ?_)
      refine W.eq (g2 := F0 m 134 ls [.int r, .int r]) rfl ?_
      refine lv_icmp_eq (tgt := 503) hx hb dL_law_134 (by decide) (fun _ => ?_) (fun h9 => absurd rfl h9)
      refine W.widen (k := 100 + 2 * (j + 1)) (n := 1000 + 42 * (j + 1)) (by omega) (by omega) ?_
      exact tail fx1 fm1 _ _ _ hw hw2 (fun a ha => Classical.byContradiction fun h9 => ha (hdis a h9)) hI1
    · refine hv_arm (off := 106) (tgt := 139) hx hb c3 dL_law_33 (by decide) (by decide) (by decide) (by decide) ?_
      refine lv_aload_n hx hb dL_law_139 rfl (lv_at hl 1 rfl) ?_
      refine lv_aload_n hx hb dL_law_140 rfl (lv_at hl 0 rfl) ?_
      refine lv_iload_n hx hb dL_law_141 rfl (lv_at hl 3 rfl) ?_
      refine lv_iconst (v := 1) hx hb dL_law_142 (by decide) ?_
      refine lv_iadd hx hb dL_law_143 ?_
      refine va_sld hx hb hX hbl hbA hw.2.2.1 i1 dL_law_144 ?_
      refine lv_aload_n hx hb dL_law_145 rfl (lv_at hl 0 rfl) ?_
      refine lv_iload_n hx hb dL_law_146 rfl (lv_at hl 3 rfl) ?_
      refine lv_iconst (v := 2) hx hb dL_law_147 (by decide) ?_
      refine lv_iadd hx hb dL_law_148 ?_
      refine va_sld hx hb hX hbl hbA hw.2.2.1 i2 dL_law_149 ?_
      obtain ⟨r, fx1, z1, fm1, z2, ex, em, hI1⟩ := H_share _ z _ _ _ _ _ _ hj5 (fun a e h => hw.lt h) hI
      refine hcallV2 (o := some (.int r)) hx hb hml hown hts hk [.int (xs (x3 + 1).toNatClampNeg), .int (xs (x3 + 2).toNatClampNeg)] [] (kX3_share l g ex) gL_law_X3_share rfl (n := 2) rfl (by decide +kernel) ⟨Nat.le_of_ble_eq_true rfl, Nat.le_of_ble_eq_true rfl⟩ (ci := 2) rfl hox hw hw2 hdis hl.1 rfl (Nat.le_of_ble_eq_true rfl) dL_law_150 ⟨by show _ ≤ 600000; omega, by show _ ≤ 7302250; omega⟩ (fun H locs hw hw2 hdis => ?_)
      refine W.eq (g2 := F0 m 153 ls [.int r]) rfl ?_
      refine lv_aload_n hx hb dL_law_153 rfl (lv_at hl 2 rfl) ?_
      refine lv_aload_n hx hb dL_law_154 rfl (lv_at hl 0 rfl) ?_
      refine lv_iload_n hx hb dL_law_155 rfl (lv_at hl 3 rfl) ?_
      refine lv_iconst (v := 1) hx hb dL_law_156 (by decide) ?_
      refine lv_iadd hx hb dL_law_157 ?_
      refine va_sld hx hb hX hbl hbA hw.2.2.1 i1 dL_law_158 ?_
      refine lv_aload_n hx hb dL_law_159 rfl (lv_at hl 0 rfl) ?_
      refine lv_iload_n hx hb dL_law_160 rfl (lv_at hl 3 rfl) ?_
      refine lv_iconst (v := 2) hx hb dL_law_161 (by decide) ?_
      refine lv_iadd hx hb dL_law_162 ?_
      refine va_sld hx hb hX hbl hbA hw.2.2.1 i2 dL_law_163 ?_
      refine hcallV2 (o := some (.int r)) hx hb hml hown hts hk [.int (xs (x3 + 1).toNatClampNeg), .int (xs (x3 + 2).toNatClampNeg)] [.int r] (kX4_share l g em) gL_law_X4_share rfl (n := 2) rfl (by decide +kernel) ⟨Nat.le_of_ble_eq_true rfl, Nat.le_of_ble_eq_true rfl⟩ (ci := 3) rfl hom hw2 hw (fun a ha => Classical.byContradiction fun h9 => ha (hdis a h9)) hl.1 rfl (Nat.le_of_ble_eq_true rfl) dL_law_164 ⟨by show _ ≤ 600000; omega, by show _ ≤ 7302250; omega⟩ (fun H locs hw2 hw hdis => ?_)
      refine W.eq (g2 := F0 m 167 ls [.int r, .int r]) rfl ?_
      refine lv_icmp_eq (tgt := 503) hx hb dL_law_167 (by decide) (fun _ => ?_) (fun h9 => absurd rfl h9)
      refine W.widen (k := 100 + 2 * (j + 1)) (n := 1000 + 42 * (j + 1)) (by omega) (by omega) ?_
      exact tail fx1 fm1 _ _ _ hw hw2 (fun a ha => Classical.byContradiction fun h9 => ha (hdis a h9)) hI1
    · refine hv_arm (off := 139) (tgt := 172) hx hb c3 dL_law_33 (by decide) (by decide) (by decide) (by decide) ?_
      refine lv_aload_n hx hb dL_law_172 rfl (lv_at hl 1 rfl) ?_
      refine lv_aload_n hx hb dL_law_173 rfl (lv_at hl 0 rfl) ?_
      refine lv_iload_n hx hb dL_law_174 rfl (lv_at hl 3 rfl) ?_
      refine lv_iconst (v := 1) hx hb dL_law_175 (by decide) ?_
      refine lv_iadd hx hb dL_law_176 ?_
      refine va_sld hx hb hX hbl hbA hw.2.2.1 i1 dL_law_177 ?_
      refine lv_aload_n hx hb dL_law_178 rfl (lv_at hl 0 rfl) ?_
      refine lv_iload_n hx hb dL_law_179 rfl (lv_at hl 3 rfl) ?_
      refine lv_iconst (v := 2) hx hb dL_law_180 (by decide) ?_
      refine lv_iadd hx hb dL_law_181 ?_
      refine va_sld hx hb hX hbl hbA hw.2.2.1 i2 dL_law_182 ?_
      refine lv_aload_n hx hb dL_law_183 rfl (lv_at hl 0 rfl) ?_
      refine lv_iload_n hx hb dL_law_184 rfl (lv_at hl 3 rfl) ?_
      refine lv_iconst (v := 3) hx hb dL_law_185 (by decide) ?_
      refine lv_iadd hx hb dL_law_186 ?_
      refine va_sld hx hb hX hbl hbA hw.2.2.1 i3 dL_law_187 ?_
      obtain ⟨r, fx1, z1, fm1, z2, ex, em, hI1⟩ := H_set _ z _ _ _ _ _ _ _ hj5 (fun a e h => hw.lt h) hI
      refine hcallV2 (o := some (.int r)) hx hb hml hown hts hk [.int (xs (x3 + 1).toNatClampNeg), .int (xs (x3 + 2).toNatClampNeg), .int (xs (x3 + 3).toNatClampNeg)] [] (kX3_set l g ex) gL_law_X3_set rfl (n := 3) rfl (by decide +kernel) ⟨Nat.le_of_ble_eq_true rfl, Nat.le_of_ble_eq_true rfl⟩ (ci := 2) rfl hox hw hw2 hdis hl.1 rfl (Nat.le_of_ble_eq_true rfl) dL_law_188 ⟨by show _ ≤ 600000; omega, by show _ ≤ 7302250; omega⟩ (fun H locs hw hw2 hdis => ?_)
      refine W.eq (g2 := F0 m 191 ls [.int r]) rfl ?_
      refine lv_aload_n hx hb dL_law_191 rfl (lv_at hl 2 rfl) ?_
      refine lv_aload_n hx hb dL_law_192 rfl (lv_at hl 0 rfl) ?_
      refine lv_iload_n hx hb dL_law_193 rfl (lv_at hl 3 rfl) ?_
      refine lv_iconst (v := 1) hx hb dL_law_194 (by decide) ?_
      refine lv_iadd hx hb dL_law_195 ?_
      refine va_sld hx hb hX hbl hbA hw.2.2.1 i1 dL_law_196 ?_
      refine lv_aload_n hx hb dL_law_197 rfl (lv_at hl 0 rfl) ?_
      refine lv_iload_n hx hb dL_law_198 rfl (lv_at hl 3 rfl) ?_
      refine lv_iconst (v := 2) hx hb dL_law_199 (by decide) ?_
      refine lv_iadd hx hb dL_law_200 ?_
      refine va_sld hx hb hX hbl hbA hw.2.2.1 i2 dL_law_201 ?_
      refine lv_aload_n hx hb dL_law_202 rfl (lv_at hl 0 rfl) ?_
      refine lv_iload_n hx hb dL_law_203 rfl (lv_at hl 3 rfl) ?_
      refine lv_iconst (v := 3) hx hb dL_law_204 (by decide) ?_
      refine lv_iadd hx hb dL_law_205 ?_
      refine va_sld hx hb hX hbl hbA hw.2.2.1 i3 dL_law_206 ?_
      refine hcallV2 (o := some (.int r)) hx hb hml hown hts hk [.int (xs (x3 + 1).toNatClampNeg), .int (xs (x3 + 2).toNatClampNeg), .int (xs (x3 + 3).toNatClampNeg)] [.int r] (kX4_set l g em) gL_law_X4_set rfl (n := 3) rfl (by decide +kernel) ⟨Nat.le_of_ble_eq_true rfl, Nat.le_of_ble_eq_true rfl⟩ (ci := 3) rfl hom hw2 hw (fun a ha => Classical.byContradiction fun h9 => ha (hdis a h9)) hl.1 rfl (Nat.le_of_ble_eq_true rfl) dL_law_207 ⟨by show _ ≤ 600000; omega, by show _ ≤ 7302250; omega⟩ (fun H locs hw2 hw hdis => ?_)
      refine W.eq (g2 := F0 m 210 ls [.int r, .int r]) rfl ?_
      refine lv_icmp_eq (tgt := 503) hx hb dL_law_210 (by decide) (fun _ => ?_) (fun h9 => absurd rfl h9)
      refine W.widen (k := 100 + 2 * (j + 1)) (n := 1000 + 42 * (j + 1)) (by omega) (by omega) ?_
      exact tail fx1 fm1 _ _ _ hw hw2 (fun a ha => Classical.byContradiction fun h9 => ha (hdis a h9)) hI1
    · refine hv_arm (off := 182) (tgt := 215) hx hb c3 dL_law_33 (by decide) (by decide) (by decide) (by decide) ?_
      refine lv_aload_n hx hb dL_law_215 rfl (lv_at hl 1 rfl) ?_
      refine lv_aload_n hx hb dL_law_216 rfl (lv_at hl 0 rfl) ?_
      refine lv_iload_n hx hb dL_law_217 rfl (lv_at hl 3 rfl) ?_
      refine lv_iconst (v := 1) hx hb dL_law_218 (by decide) ?_
      refine lv_iadd hx hb dL_law_219 ?_
      refine va_sld hx hb hX hbl hbA hw.2.2.1 i1 dL_law_220 ?_
      refine lv_aload_n hx hb dL_law_221 rfl (lv_at hl 0 rfl) ?_
      refine lv_iload_n hx hb dL_law_222 rfl (lv_at hl 3 rfl) ?_
      refine lv_iconst (v := 2) hx hb dL_law_223 (by decide) ?_
      refine lv_iadd hx hb dL_law_224 ?_
      refine va_sld hx hb hX hbl hbA hw.2.2.1 i2 dL_law_225 ?_
      refine lv_aload_n hx hb dL_law_226 rfl (lv_at hl 0 rfl) ?_
      refine lv_iload_n hx hb dL_law_227 rfl (lv_at hl 3 rfl) ?_
      refine lv_iconst (v := 3) hx hb dL_law_228 (by decide) ?_
      refine lv_iadd hx hb dL_law_229 ?_
      refine va_sld hx hb hX hbl hbA hw.2.2.1 i3 dL_law_230 ?_
      obtain ⟨r, fx1, z1, fm1, z2, ex, em, hI1⟩ := H_put _ z _ _ _ _ _ _ _ hj5 (fun a e h => hw.lt h) hI
      refine hcallV2 (o := some (.int r)) hx hb hml hown hts hk [.int (xs (x3 + 1).toNatClampNeg), .int (xs (x3 + 2).toNatClampNeg), .int (xs (x3 + 3).toNatClampNeg)] [] (kX3_put l g ex) gL_law_X3_put rfl (n := 3) rfl (by decide +kernel) ⟨Nat.le_of_ble_eq_true rfl, Nat.le_of_ble_eq_true rfl⟩ (ci := 2) rfl hox hw hw2 hdis hl.1 rfl (Nat.le_of_ble_eq_true rfl) dL_law_231 ⟨by show _ ≤ 600000; omega, by show _ ≤ 7302250; omega⟩ (fun H locs hw hw2 hdis => ?_)
      refine W.eq (g2 := F0 m 234 ls [.int r]) rfl ?_
      refine lv_aload_n hx hb dL_law_234 rfl (lv_at hl 2 rfl) ?_
      refine lv_aload_n hx hb dL_law_235 rfl (lv_at hl 0 rfl) ?_
      refine lv_iload_n hx hb dL_law_236 rfl (lv_at hl 3 rfl) ?_
      refine lv_iconst (v := 1) hx hb dL_law_237 (by decide) ?_
      refine lv_iadd hx hb dL_law_238 ?_
      refine va_sld hx hb hX hbl hbA hw.2.2.1 i1 dL_law_239 ?_
      refine lv_aload_n hx hb dL_law_240 rfl (lv_at hl 0 rfl) ?_
      refine lv_iload_n hx hb dL_law_241 rfl (lv_at hl 3 rfl) ?_
      refine lv_iconst (v := 2) hx hb dL_law_242 (by decide) ?_
      refine lv_iadd hx hb dL_law_243 ?_
      refine va_sld hx hb hX hbl hbA hw.2.2.1 i2 dL_law_244 ?_
      refine lv_aload_n hx hb dL_law_245 rfl (lv_at hl 0 rfl) ?_
      refine lv_iload_n hx hb dL_law_246 rfl (lv_at hl 3 rfl) ?_
      refine lv_iconst (v := 3) hx hb dL_law_247 (by decide) ?_
      refine lv_iadd hx hb dL_law_248 ?_
      refine va_sld hx hb hX hbl hbA hw.2.2.1 i3 dL_law_249 ?_
      refine hcallV2 (o := some (.int r)) hx hb hml hown hts hk [.int (xs (x3 + 1).toNatClampNeg), .int (xs (x3 + 2).toNatClampNeg), .int (xs (x3 + 3).toNatClampNeg)] [.int r] (kX4_put l g em) gL_law_X4_put rfl (n := 3) rfl (by decide +kernel) ⟨Nat.le_of_ble_eq_true rfl, Nat.le_of_ble_eq_true rfl⟩ (ci := 3) rfl hom hw2 hw (fun a ha => Classical.byContradiction fun h9 => ha (hdis a h9)) hl.1 rfl (Nat.le_of_ble_eq_true rfl) dL_law_250 ⟨by show _ ≤ 600000; omega, by show _ ≤ 7302250; omega⟩ (fun H locs hw2 hw hdis => ?_)
      refine W.eq (g2 := F0 m 253 ls [.int r, .int r]) rfl ?_
      refine lv_icmp_eq (tgt := 503) hx hb dL_law_253 (by decide) (fun _ => ?_) (fun h9 => absurd rfl h9)
      refine W.widen (k := 100 + 2 * (j + 1)) (n := 1000 + 42 * (j + 1)) (by omega) (by omega) ?_
      exact tail fx1 fm1 _ _ _ hw hw2 (fun a ha => Classical.byContradiction fun h9 => ha (hdis a h9)) hI1
    · refine hv_arm (off := 225) (tgt := 258) hx hb c3 dL_law_33 (by decide) (by decide) (by decide) (by decide) ?_
      refine lv_aload_n hx hb dL_law_258 rfl (lv_at hl 1 rfl) ?_
      refine lv_aload_n hx hb dL_law_259 rfl (lv_at hl 0 rfl) ?_
      refine lv_iload_n hx hb dL_law_260 rfl (lv_at hl 3 rfl) ?_
      refine lv_iconst (v := 1) hx hb dL_law_261 (by decide) ?_
      refine lv_iadd hx hb dL_law_262 ?_
      refine va_sld hx hb hX hbl hbA hw.2.2.1 i1 dL_law_263 ?_
      refine lv_aload_n hx hb dL_law_264 rfl (lv_at hl 0 rfl) ?_
      refine lv_iload_n hx hb dL_law_265 rfl (lv_at hl 3 rfl) ?_
      refine lv_iconst (v := 2) hx hb dL_law_266 (by decide) ?_
      refine lv_iadd hx hb dL_law_267 ?_
      refine va_sld hx hb hX hbl hbA hw.2.2.1 i2 dL_law_268 ?_
      refine lv_aload_n hx hb dL_law_269 rfl (lv_at hl 0 rfl) ?_
      refine lv_iload_n hx hb dL_law_270 rfl (lv_at hl 3 rfl) ?_
      refine lv_iconst (v := 3) hx hb dL_law_271 (by decide) ?_
      refine lv_iadd hx hb dL_law_272 ?_
      refine va_sld hx hb hX hbl hbA hw.2.2.1 i3 dL_law_273 ?_
      refine lv_aload_n hx hb dL_law_274 rfl (lv_at hl 0 rfl) ?_
      refine lv_iload_n hx hb dL_law_275 rfl (lv_at hl 3 rfl) ?_
      refine lv_iconst (v := 4) hx hb dL_law_276 (by decide) ?_
      refine lv_iadd hx hb dL_law_277 ?_
      refine va_sld hx hb hX hbl hbA hw.2.2.1 i4 dL_law_278 ?_
      refine lv_aload_n hx hb dL_law_279 rfl (lv_at hl 0 rfl) ?_
      refine lv_iload_n hx hb dL_law_280 rfl (lv_at hl 3 rfl) ?_
      refine lv_iconst (v := 5) hx hb dL_law_281 (by decide) ?_
      refine lv_iadd hx hb dL_law_282 ?_
      refine va_sld hx hb hX hbl hbA hw.2.2.1 i5 dL_law_283 ?_
      obtain ⟨r, fx1, z1, fm1, z2, ex, em, hI1⟩ := H_sweep _ z _ _ _ _ _ _ _ _ _ hj5 (fun a e h => hw.lt h) hI
      refine hcallV2 (o := some (.int r)) hx hb hml hown hts hk [.int (xs (x3 + 1).toNatClampNeg), .int (xs (x3 + 2).toNatClampNeg), .int (xs (x3 + 3).toNatClampNeg), .int (xs (x3 + 4).toNatClampNeg), .int (xs (x3 + 5).toNatClampNeg)] [] (kX3_sweep l g ex) gL_law_X3_sweep rfl (n := 5) rfl (by decide +kernel) ⟨Nat.le_of_ble_eq_true rfl, Nat.le_of_ble_eq_true rfl⟩ (ci := 2) rfl hox hw hw2 hdis hl.1 rfl (Nat.le_of_ble_eq_true rfl) dL_law_284 ⟨by show _ ≤ 600000; omega, by show _ ≤ 7302250; omega⟩ (fun H locs hw hw2 hdis => ?_)
      refine W.eq (g2 := F0 m 287 ls [.int r]) rfl ?_
      refine lv_aload_n hx hb dL_law_287 rfl (lv_at hl 2 rfl) ?_
      refine lv_aload_n hx hb dL_law_288 rfl (lv_at hl 0 rfl) ?_
      refine lv_iload_n hx hb dL_law_289 rfl (lv_at hl 3 rfl) ?_
      refine lv_iconst (v := 1) hx hb dL_law_290 (by decide) ?_
      refine lv_iadd hx hb dL_law_291 ?_
      refine va_sld hx hb hX hbl hbA hw.2.2.1 i1 dL_law_292 ?_
      refine lv_aload_n hx hb dL_law_293 rfl (lv_at hl 0 rfl) ?_
      refine lv_iload_n hx hb dL_law_294 rfl (lv_at hl 3 rfl) ?_
      refine lv_iconst (v := 2) hx hb dL_law_295 (by decide) ?_
      refine lv_iadd hx hb dL_law_296 ?_
      refine va_sld hx hb hX hbl hbA hw.2.2.1 i2 dL_law_297 ?_
      refine lv_aload_n hx hb dL_law_298 rfl (lv_at hl 0 rfl) ?_
      refine lv_iload_n hx hb dL_law_299 rfl (lv_at hl 3 rfl) ?_
      refine lv_iconst (v := 3) hx hb dL_law_300 (by decide) ?_
      refine lv_iadd hx hb dL_law_301 ?_
      refine va_sld hx hb hX hbl hbA hw.2.2.1 i3 dL_law_302 ?_
      refine lv_aload_n hx hb dL_law_303 rfl (lv_at hl 0 rfl) ?_
      refine lv_iload_n hx hb dL_law_304 rfl (lv_at hl 3 rfl) ?_
      refine lv_iconst (v := 4) hx hb dL_law_305 (by decide) ?_
      refine lv_iadd hx hb dL_law_306 ?_
      refine va_sld hx hb hX hbl hbA hw.2.2.1 i4 dL_law_307 ?_
      refine lv_aload_n hx hb dL_law_308 rfl (lv_at hl 0 rfl) ?_
      refine lv_iload_n hx hb dL_law_309 rfl (lv_at hl 3 rfl) ?_
      refine lv_iconst (v := 5) hx hb dL_law_310 (by decide) ?_
      refine lv_iadd hx hb dL_law_311 ?_
      refine va_sld hx hb hX hbl hbA hw.2.2.1 i5 dL_law_312 ?_
      refine hcallV2 (o := some (.int r)) hx hb hml hown hts hk [.int (xs (x3 + 1).toNatClampNeg), .int (xs (x3 + 2).toNatClampNeg), .int (xs (x3 + 3).toNatClampNeg), .int (xs (x3 + 4).toNatClampNeg), .int (xs (x3 + 5).toNatClampNeg)] [.int r] (kX4_sweep l g em) gL_law_X4_sweep rfl (n := 5) rfl (by decide +kernel) ⟨Nat.le_of_ble_eq_true rfl, Nat.le_of_ble_eq_true rfl⟩ (ci := 3) rfl hom hw2 hw (fun a ha => Classical.byContradiction fun h9 => ha (hdis a h9)) hl.1 rfl (Nat.le_of_ble_eq_true rfl) dL_law_313 ⟨by show _ ≤ 600000; omega, by show _ ≤ 7302250; omega⟩ (fun H locs hw2 hw hdis => ?_)
      refine W.eq (g2 := F0 m 316 ls [.int r, .int r]) rfl ?_
      refine lv_icmp_eq (tgt := 503) hx hb dL_law_316 (by decide) (fun _ => ?_) (fun h9 => absurd rfl h9)
      refine W.widen (k := 100 + 2 * (j + 1)) (n := 1000 + 42 * (j + 1)) (by omega) (by omega) ?_
      exact tail fx1 fm1 _ _ _ hw hw2 (fun a ha => Classical.byContradiction fun h9 => ha (hdis a h9)) hI1
    · refine hv_arm (off := 288) (tgt := 321) hx hb c3 dL_law_33 (by decide) (by decide) (by decide) (by decide) ?_
      refine lv_aload_n hx hb dL_law_321 rfl (lv_at hl 1 rfl) ?_
      obtain ⟨r, fx1, z1, fm1, z2, ex, em, hI1⟩ := H_back _ z _ _ _ _  hj5 (fun a e h => hw.lt h) hI
      refine hcallV2 (o := some (.int r)) hx hb hml hown hts hk [] [] (kX3_back l g ex) gL_law_X3_back rfl (n := 0) rfl (by decide +kernel) ⟨Nat.le_of_ble_eq_true rfl, Nat.le_of_ble_eq_true rfl⟩ (ci := 2) rfl hox hw hw2 hdis hl.1 rfl (Nat.le_of_ble_eq_true rfl) dL_law_322 ⟨by show _ ≤ 600000; omega, by show _ ≤ 7302250; omega⟩ (fun H locs hw hw2 hdis => ?_)
      refine W.eq (g2 := F0 m 325 ls [.int r]) rfl ?_
      refine lv_aload_n hx hb dL_law_325 rfl (lv_at hl 2 rfl) ?_
      refine hcallV2 (o := some (.int r)) hx hb hml hown hts hk [] [.int r] (kX4_back l g em) gL_law_X4_back rfl (n := 0) rfl (by decide +kernel) ⟨Nat.le_of_ble_eq_true rfl, Nat.le_of_ble_eq_true rfl⟩ (ci := 3) rfl hom hw2 hw (fun a ha => Classical.byContradiction fun h9 => ha (hdis a h9)) hl.1 rfl (Nat.le_of_ble_eq_true rfl) dL_law_326 ⟨by show _ ≤ 600000; omega, by show _ ≤ 7302250; omega⟩ (fun H locs hw2 hw hdis => ?_)
      refine W.eq (g2 := F0 m 329 ls [.int r, .int r]) rfl ?_
      refine lv_icmp_eq (tgt := 503) hx hb dL_law_329 (by decide) (fun _ => ?_) (fun h9 => absurd rfl h9)
      refine W.widen (k := 100 + 2 * (j + 1)) (n := 1000 + 42 * (j + 1)) (by omega) (by omega) ?_
      exact tail fx1 fm1 _ _ _ hw hw2 (fun a ha => Classical.byContradiction fun h9 => ha (hdis a h9)) hI1
    · refine hv_arm (off := 301) (tgt := 334) hx hb c3 dL_law_33 (by decide) (by decide) (by decide) (by decide) ?_
      refine lv_aload_n hx hb dL_law_334 rfl (lv_at hl 1 rfl) ?_
      refine lv_aload_n hx hb dL_law_335 rfl (lv_at hl 0 rfl) ?_
      refine lv_iload_n hx hb dL_law_336 rfl (lv_at hl 3 rfl) ?_
      refine lv_iconst (v := 1) hx hb dL_law_337 (by decide) ?_
      refine lv_iadd hx hb dL_law_338 ?_
      refine va_sld hx hb hX hbl hbA hw.2.2.1 i1 dL_law_339 ?_
      obtain ⟨r, fx1, z1, fm1, z2, ex, em, hI1⟩ := H_light _ z _ _ _ _ _ hj5 (fun a e h => hw.lt h) hI
      refine hcallV2 (o := some (.int r)) hx hb hml hown hts hk [.int (xs (x3 + 1).toNatClampNeg)] [] (kX3_light l g ex) gL_law_X3_light rfl (n := 1) rfl (by decide +kernel) ⟨Nat.le_of_ble_eq_true rfl, Nat.le_of_ble_eq_true rfl⟩ (ci := 2) rfl hox hw hw2 hdis hl.1 rfl (Nat.le_of_ble_eq_true rfl) dL_law_340 ⟨by show _ ≤ 600000; omega, by show _ ≤ 7302250; omega⟩ (fun H locs hw hw2 hdis => ?_)
      refine W.eq (g2 := F0 m 343 ls [.int r]) rfl ?_
      refine lv_aload_n hx hb dL_law_343 rfl (lv_at hl 2 rfl) ?_
      refine lv_aload_n hx hb dL_law_344 rfl (lv_at hl 0 rfl) ?_
      refine lv_iload_n hx hb dL_law_345 rfl (lv_at hl 3 rfl) ?_
      refine lv_iconst (v := 1) hx hb dL_law_346 (by decide) ?_
      refine lv_iadd hx hb dL_law_347 ?_
      refine va_sld hx hb hX hbl hbA hw.2.2.1 i1 dL_law_348 ?_
      refine hcallV2 (o := some (.int r)) hx hb hml hown hts hk [.int (xs (x3 + 1).toNatClampNeg)] [.int r] (kX4_light l g em) gL_law_X4_light rfl (n := 1) rfl (by decide +kernel) ⟨Nat.le_of_ble_eq_true rfl, Nat.le_of_ble_eq_true rfl⟩ (ci := 3) rfl hom hw2 hw (fun a ha => Classical.byContradiction fun h9 => ha (hdis a h9)) hl.1 rfl (Nat.le_of_ble_eq_true rfl) dL_law_349 ⟨by show _ ≤ 600000; omega, by show _ ≤ 7302250; omega⟩ (fun H locs hw2 hw hdis => ?_)
      refine W.eq (g2 := F0 m 352 ls [.int r, .int r]) rfl ?_
      refine lv_icmp_eq (tgt := 503) hx hb dL_law_352 (by decide) (fun _ => ?_) (fun h9 => absurd rfl h9)
      refine W.widen (k := 100 + 2 * (j + 1)) (n := 1000 + 42 * (j + 1)) (by omega) (by omega) ?_
      exact tail fx1 fm1 _ _ _ hw hw2 (fun a ha => Classical.byContradiction fun h9 => ha (hdis a h9)) hI1
    · refine hv_arm (off := 324) (tgt := 357) hx hb c3 dL_law_33 (by decide) (by decide) (by decide) (by decide) ?_
      refine lv_aload_n hx hb dL_law_357 rfl (lv_at hl 1 rfl) ?_
      refine lv_aload_n hx hb dL_law_358 rfl (lv_at hl 0 rfl) ?_
      refine lv_iload_n hx hb dL_law_359 rfl (lv_at hl 3 rfl) ?_
      refine lv_iconst (v := 1) hx hb dL_law_360 (by decide) ?_
      refine lv_iadd hx hb dL_law_361 ?_
      refine va_sld hx hb hX hbl hbA hw.2.2.1 i1 dL_law_362 ?_
      refine lv_aload_n hx hb dL_law_363 rfl (lv_at hl 0 rfl) ?_
      refine lv_iload_n hx hb dL_law_364 rfl (lv_at hl 3 rfl) ?_
      refine lv_iconst (v := 2) hx hb dL_law_365 (by decide) ?_
      refine lv_iadd hx hb dL_law_366 ?_
      refine va_sld hx hb hX hbl hbA hw.2.2.1 i2 dL_law_367 ?_
      obtain ⟨r, ex, em⟩ := H_member _ _ _ _ _ _ _ hI
      refine hcallV2 (o := some (.long r)) hx hb hml hown hts hk [.int (xs (x3 + 1).toNatClampNeg), .int (xs (x3 + 2).toNatClampNeg)] [] (kX3_member l g ex) gL_law_X3_member rfl (n := 2) rfl (by decide +kernel) ⟨Nat.le_of_ble_eq_true rfl, Nat.le_of_ble_eq_true rfl⟩ (ci := 2) rfl hox hw hw2 hdis hl.1 rfl (Nat.le_of_ble_eq_true rfl) dL_law_368 ⟨by show _ ≤ 600000; omega, by show _ ≤ 7302250; omega⟩ (fun H locs hw hw2 hdis => ?_)
      refine W.eq (g2 := F0 m 371 ls [.long r]) rfl ?_
      refine lv_aload_n hx hb dL_law_371 rfl (lv_at hl 2 rfl) ?_
      refine lv_aload_n hx hb dL_law_372 rfl (lv_at hl 0 rfl) ?_
      refine lv_iload_n hx hb dL_law_373 rfl (lv_at hl 3 rfl) ?_
      refine lv_iconst (v := 1) hx hb dL_law_374 (by decide) ?_
      refine lv_iadd hx hb dL_law_375 ?_
      refine va_sld hx hb hX hbl hbA hw.2.2.1 i1 dL_law_376 ?_
      refine lv_aload_n hx hb dL_law_377 rfl (lv_at hl 0 rfl) ?_
      refine lv_iload_n hx hb dL_law_378 rfl (lv_at hl 3 rfl) ?_
      refine lv_iconst (v := 2) hx hb dL_law_379 (by decide) ?_
      refine lv_iadd hx hb dL_law_380 ?_
      refine va_sld hx hb hX hbl hbA hw.2.2.1 i2 dL_law_381 ?_
      refine hcallV2 (o := some (.long r)) hx hb hml hown hts hk [.int (xs (x3 + 1).toNatClampNeg), .int (xs (x3 + 2).toNatClampNeg)] [.long r] (kX4_member l g em) gL_law_X4_member rfl (n := 2) rfl (by decide +kernel) ⟨Nat.le_of_ble_eq_true rfl, Nat.le_of_ble_eq_true rfl⟩ (ci := 3) rfl hom hw2 hw (fun a ha => Classical.byContradiction fun h9 => ha (hdis a h9)) hl.1 rfl (Nat.le_of_ble_eq_true rfl) dL_law_382 ⟨by show _ ≤ 600000; omega, by show _ ≤ 7302250; omega⟩ (fun H locs hw2 hw hdis => ?_)
      refine W.eq (g2 := F0 m 385 ls [.long r, .long r]) rfl ?_
      refine W.lcmp hx hb dL_law_385 ?_
      refine lv_if_eq (tgt := 503) hx hb dL_law_386 (by decide) (fun _ => ?_) (fun h9 => absurd (hlc r) h9)
      refine W.widen (k := 100 + 2 * (j + 1)) (n := 1000 + 42 * (j + 1)) (by omega) (by omega) ?_
      exact tail fx fm _ _ _ hw hw2 (fun a ha => Classical.byContradiction fun h9 => ha (hdis a h9)) (H_mono _ _ _ _ _ hI)
    · refine hv_arm (off := 358) (tgt := 391) hx hb c3 dL_law_33 (by decide) (by decide) (by decide) (by decide) ?_
      refine lv_aload_n hx hb dL_law_391 rfl (lv_at hl 1 rfl) ?_
      refine lv_aload_n hx hb dL_law_392 rfl (lv_at hl 0 rfl) ?_
      refine lv_iload_n hx hb dL_law_393 rfl (lv_at hl 3 rfl) ?_
      refine lv_iconst (v := 1) hx hb dL_law_394 (by decide) ?_
      refine lv_iadd hx hb dL_law_395 ?_
      refine va_sld hx hb hX hbl hbA hw.2.2.1 i1 dL_law_396 ?_
      refine lv_aload_n hx hb dL_law_397 rfl (lv_at hl 0 rfl) ?_
      refine lv_iload_n hx hb dL_law_398 rfl (lv_at hl 3 rfl) ?_
      refine lv_iconst (v := 2) hx hb dL_law_399 (by decide) ?_
      refine lv_iadd hx hb dL_law_400 ?_
      refine va_sld hx hb hX hbl hbA hw.2.2.1 i2 dL_law_401 ?_
      obtain ⟨r, ex, em⟩ := H_thing _ _ _ _ _ _ _ hI
      refine hcallV2 (o := some (.int r)) hx hb hml hown hts hk [.int (xs (x3 + 1).toNatClampNeg), .int (xs (x3 + 2).toNatClampNeg)] [] (kX3_thing l g ex) gL_law_X3_thing rfl (n := 2) rfl (by decide +kernel) ⟨Nat.le_of_ble_eq_true rfl, Nat.le_of_ble_eq_true rfl⟩ (ci := 2) rfl hox hw hw2 hdis hl.1 rfl (Nat.le_of_ble_eq_true rfl) dL_law_402 ⟨by show _ ≤ 600000; omega, by show _ ≤ 7302250; omega⟩ (fun H locs hw hw2 hdis => ?_)
      refine W.eq (g2 := F0 m 405 ls [.int r]) rfl ?_
      refine lv_aload_n hx hb dL_law_405 rfl (lv_at hl 2 rfl) ?_
      refine lv_aload_n hx hb dL_law_406 rfl (lv_at hl 0 rfl) ?_
      refine lv_iload_n hx hb dL_law_407 rfl (lv_at hl 3 rfl) ?_
      refine lv_iconst (v := 1) hx hb dL_law_408 (by decide) ?_
      refine lv_iadd hx hb dL_law_409 ?_
      refine va_sld hx hb hX hbl hbA hw.2.2.1 i1 dL_law_410 ?_
      refine lv_aload_n hx hb dL_law_411 rfl (lv_at hl 0 rfl) ?_
      refine lv_iload_n hx hb dL_law_412 rfl (lv_at hl 3 rfl) ?_
      refine lv_iconst (v := 2) hx hb dL_law_413 (by decide) ?_
      refine lv_iadd hx hb dL_law_414 ?_
      refine va_sld hx hb hX hbl hbA hw.2.2.1 i2 dL_law_415 ?_
      refine hcallV2 (o := some (.int r)) hx hb hml hown hts hk [.int (xs (x3 + 1).toNatClampNeg), .int (xs (x3 + 2).toNatClampNeg)] [.int r] (kX4_thing l g em) gL_law_X4_thing rfl (n := 2) rfl (by decide +kernel) ⟨Nat.le_of_ble_eq_true rfl, Nat.le_of_ble_eq_true rfl⟩ (ci := 3) rfl hom hw2 hw (fun a ha => Classical.byContradiction fun h9 => ha (hdis a h9)) hl.1 rfl (Nat.le_of_ble_eq_true rfl) dL_law_416 ⟨by show _ ≤ 600000; omega, by show _ ≤ 7302250; omega⟩ (fun H locs hw2 hw hdis => ?_)
      refine W.eq (g2 := F0 m 419 ls [.int r, .int r]) rfl ?_
      refine lv_icmp_eq (tgt := 503) hx hb dL_law_419 (by decide) (fun _ => ?_) (fun h9 => absurd rfl h9)
      refine W.widen (k := 100 + 2 * (j + 1)) (n := 1000 + 42 * (j + 1)) (by omega) (by omega) ?_
      exact tail fx fm _ _ _ hw hw2 (fun a ha => Classical.byContradiction fun h9 => ha (hdis a h9)) (H_mono _ _ _ _ _ hI)
    · refine hv_arm (off := 391) (tgt := 424) hx hb c3 dL_law_33 (by decide) (by decide) (by decide) (by decide) ?_
      refine lv_aload_n hx hb dL_law_424 rfl (lv_at hl 1 rfl) ?_
      refine lv_aload_n hx hb dL_law_425 rfl (lv_at hl 0 rfl) ?_
      refine lv_iload_n hx hb dL_law_426 rfl (lv_at hl 3 rfl) ?_
      refine lv_iconst (v := 1) hx hb dL_law_427 (by decide) ?_
      refine lv_iadd hx hb dL_law_428 ?_
      refine va_sld hx hb hX hbl hbA hw.2.2.1 i1 dL_law_429 ?_
      obtain ⟨r, ex, em⟩ := H_worth _ _ _ _ _ _ hI
      refine hcallV2 (o := some (.int r)) hx hb hml hown hts hk [.int (xs (x3 + 1).toNatClampNeg)] [] (kX3_worth l g ex) gL_law_X3_worth rfl (n := 1) rfl (by decide +kernel) ⟨Nat.le_of_ble_eq_true rfl, Nat.le_of_ble_eq_true rfl⟩ (ci := 2) rfl hox hw hw2 hdis hl.1 rfl (Nat.le_of_ble_eq_true rfl) dL_law_430 ⟨by show _ ≤ 600000; omega, by show _ ≤ 7302250; omega⟩ (fun H locs hw hw2 hdis => ?_)
      refine W.eq (g2 := F0 m 433 ls [.int r]) rfl ?_
      refine lv_aload_n hx hb dL_law_433 rfl (lv_at hl 2 rfl) ?_
      refine lv_aload_n hx hb dL_law_434 rfl (lv_at hl 0 rfl) ?_
      refine lv_iload_n hx hb dL_law_435 rfl (lv_at hl 3 rfl) ?_
      refine lv_iconst (v := 1) hx hb dL_law_436 (by decide) ?_
      refine lv_iadd hx hb dL_law_437 ?_
      refine va_sld hx hb hX hbl hbA hw.2.2.1 i1 dL_law_438 ?_
      refine hcallV2 (o := some (.int r)) hx hb hml hown hts hk [.int (xs (x3 + 1).toNatClampNeg)] [.int r] (kX4_worth l g em) gL_law_X4_worth rfl (n := 1) rfl (by decide +kernel) ⟨Nat.le_of_ble_eq_true rfl, Nat.le_of_ble_eq_true rfl⟩ (ci := 3) rfl hom hw2 hw (fun a ha => Classical.byContradiction fun h9 => ha (hdis a h9)) hl.1 rfl (Nat.le_of_ble_eq_true rfl) dL_law_439 ⟨by show _ ≤ 600000; omega, by show _ ≤ 7302250; omega⟩ (fun H locs hw2 hw hdis => ?_)
      refine W.eq (g2 := F0 m 442 ls [.int r, .int r]) rfl ?_
      refine lv_icmp_eq (tgt := 503) hx hb dL_law_442 (by decide) (fun _ => ?_) (fun h9 => absurd rfl h9)
      refine W.widen (k := 100 + 2 * (j + 1)) (n := 1000 + 42 * (j + 1)) (by omega) (by omega) ?_
      exact tail fx fm _ _ _ hw hw2 (fun a ha => Classical.byContradiction fun h9 => ha (hdis a h9)) (H_mono _ _ _ _ _ hI)
    · refine hv_arm (off := 414) (tgt := 447) hx hb c3 dL_law_33 (by decide) (by decide) (by decide) (by decide) ?_
      refine lv_aload_n hx hb dL_law_447 rfl (lv_at hl 1 rfl) ?_
      refine lv_aload_n hx hb dL_law_448 rfl (lv_at hl 0 rfl) ?_
      refine lv_iload_n hx hb dL_law_449 rfl (lv_at hl 3 rfl) ?_
      refine lv_iconst (v := 1) hx hb dL_law_450 (by decide) ?_
      refine lv_iadd hx hb dL_law_451 ?_
      refine va_sld hx hb hX hbl hbA hw.2.2.1 i1 dL_law_452 ?_
      refine lv_aload_n hx hb dL_law_453 rfl (lv_at hl 0 rfl) ?_
      refine lv_iload_n hx hb dL_law_454 rfl (lv_at hl 3 rfl) ?_
      refine lv_iconst (v := 2) hx hb dL_law_455 (by decide) ?_
      refine lv_iadd hx hb dL_law_456 ?_
      refine va_sld hx hb hX hbl hbA hw.2.2.1 i2 dL_law_457 ?_
      obtain ⟨r, ex, em⟩ := H_mirror _ _ _ _ _ _ _ hI
      refine hcallV2 (o := some (.int r)) hx hb hml hown hts hk [.int (xs (x3 + 1).toNatClampNeg), .int (xs (x3 + 2).toNatClampNeg)] [] (kX3_mirror l g ex) gL_law_X3_mirror rfl (n := 2) rfl (by decide +kernel) ⟨Nat.le_of_ble_eq_true rfl, Nat.le_of_ble_eq_true rfl⟩ (ci := 2) rfl hox hw hw2 hdis hl.1 rfl (Nat.le_of_ble_eq_true rfl) dL_law_458 ⟨by show _ ≤ 600000; omega, by show _ ≤ 7302250; omega⟩ (fun H locs hw hw2 hdis => ?_)
      refine W.eq (g2 := F0 m 461 ls [.int r]) rfl ?_
      refine lv_aload_n hx hb dL_law_461 rfl (lv_at hl 2 rfl) ?_
      refine lv_aload_n hx hb dL_law_462 rfl (lv_at hl 0 rfl) ?_
      refine lv_iload_n hx hb dL_law_463 rfl (lv_at hl 3 rfl) ?_
      refine lv_iconst (v := 1) hx hb dL_law_464 (by decide) ?_
      refine lv_iadd hx hb dL_law_465 ?_
      refine va_sld hx hb hX hbl hbA hw.2.2.1 i1 dL_law_466 ?_
      refine lv_aload_n hx hb dL_law_467 rfl (lv_at hl 0 rfl) ?_
      refine lv_iload_n hx hb dL_law_468 rfl (lv_at hl 3 rfl) ?_
      refine lv_iconst (v := 2) hx hb dL_law_469 (by decide) ?_
      refine lv_iadd hx hb dL_law_470 ?_
      refine va_sld hx hb hX hbl hbA hw.2.2.1 i2 dL_law_471 ?_
      refine hcallV2 (o := some (.int r)) hx hb hml hown hts hk [.int (xs (x3 + 1).toNatClampNeg), .int (xs (x3 + 2).toNatClampNeg)] [.int r] (kX4_mirror l g em) gL_law_X4_mirror rfl (n := 2) rfl (by decide +kernel) ⟨Nat.le_of_ble_eq_true rfl, Nat.le_of_ble_eq_true rfl⟩ (ci := 3) rfl hom hw2 hw (fun a ha => Classical.byContradiction fun h9 => ha (hdis a h9)) hl.1 rfl (Nat.le_of_ble_eq_true rfl) dL_law_472 ⟨by show _ ≤ 600000; omega, by show _ ≤ 7302250; omega⟩ (fun H locs hw2 hw hdis => ?_)
      refine W.eq (g2 := F0 m 475 ls [.int r, .int r]) rfl ?_
      refine lv_icmp_eq (tgt := 503) hx hb dL_law_475 (by decide) (fun _ => ?_) (fun h9 => absurd rfl h9)
      refine W.widen (k := 100 + 2 * (j + 1)) (n := 1000 + 42 * (j + 1)) (by omega) (by omega) ?_
      exact tail fx fm _ _ _ hw hw2 (fun a ha => Classical.byContradiction fun h9 => ha (hdis a h9)) (H_mono _ _ _ _ _ hI)
    · refine hv_arm (off := 447) (tgt := 480) hx hb c3 dL_law_33 (by decide) (by decide) (by decide) (by decide) ?_
      refine lv_aload_n hx hb dL_law_480 rfl (lv_at hl 1 rfl) ?_
      refine lv_aload_n hx hb dL_law_481 rfl (lv_at hl 0 rfl) ?_
      refine lv_iload_n hx hb dL_law_482 rfl (lv_at hl 3 rfl) ?_
      refine lv_iconst (v := 1) hx hb dL_law_483 (by decide) ?_
      refine lv_iadd hx hb dL_law_484 ?_
      refine va_sld hx hb hX hbl hbA hw.2.2.1 i1 dL_law_485 ?_
      obtain ⟨r, ex, em⟩ := H_count _ _ _ _ _ _ hI
      refine hcallV2 (o := some (.int r)) hx hb hml hown hts hk [.int (xs (x3 + 1).toNatClampNeg)] [] (kX3_count l g ex) gL_law_X3_count rfl (n := 1) rfl (by decide +kernel) ⟨Nat.le_of_ble_eq_true rfl, Nat.le_of_ble_eq_true rfl⟩ (ci := 2) rfl hox hw hw2 hdis hl.1 rfl (Nat.le_of_ble_eq_true rfl) dL_law_486 ⟨by show _ ≤ 600000; omega, by show _ ≤ 7302250; omega⟩ (fun H locs hw hw2 hdis => ?_)
      refine W.eq (g2 := F0 m 489 ls [.int r]) rfl ?_
      refine lv_aload_n hx hb dL_law_489 rfl (lv_at hl 2 rfl) ?_
      refine lv_aload_n hx hb dL_law_490 rfl (lv_at hl 0 rfl) ?_
      refine lv_iload_n hx hb dL_law_491 rfl (lv_at hl 3 rfl) ?_
      refine lv_iconst (v := 1) hx hb dL_law_492 (by decide) ?_
      refine lv_iadd hx hb dL_law_493 ?_
      refine va_sld hx hb hX hbl hbA hw.2.2.1 i1 dL_law_494 ?_
      refine hcallV2 (o := some (.int r)) hx hb hml hown hts hk [.int (xs (x3 + 1).toNatClampNeg)] [.int r] (kX4_count l g em) gL_law_X4_count rfl (n := 1) rfl (by decide +kernel) ⟨Nat.le_of_ble_eq_true rfl, Nat.le_of_ble_eq_true rfl⟩ (ci := 3) rfl hom hw2 hw (fun a ha => Classical.byContradiction fun h9 => ha (hdis a h9)) hl.1 rfl (Nat.le_of_ble_eq_true rfl) dL_law_495 ⟨by show _ ≤ 600000; omega, by show _ ≤ 7302250; omega⟩ (fun H locs hw2 hw hdis => ?_)
      refine W.eq (g2 := F0 m 498 ls [.int r, .int r]) rfl ?_
      refine lv_icmp_eq (tgt := 503) hx hb dL_law_498 (by decide) (fun _ => ?_) (fun h9 => absurd rfl h9)
      refine W.widen (k := 100 + 2 * (j + 1)) (n := 1000 + 42 * (j + 1)) (by omega) (by omega) ?_
      exact tail fx fm _ _ _ hw hw2 (fun a ha => Classical.byContradiction fun h9 => ha (hdis a h9)) (H_mono _ _ _ _ _ hI)
