section HR2
variable {g : hGb} {p : Program} {l : Launch} {e : Env} {R : Room} {s : State} {m : MethodId} {args : Array Value} {below : List Frame} {meth : Method} {c : Code} {H : Heap} {locs : List Loc} {cells slots : Nat} {Q : State → Prop}
variable {cc : ByteArray} {pc : Nat} {ls : Array Slot} {rest : List Value} {A : Nat → Prop} {f : hPl} {z a : Nat}
theorem hr_new (hexec : p.tables.exec = Jvm.exec) (hb : c.code = cc) {own C : String} {T : u_T} {N ci index : Nat} {Ts : List Cond} (hts : ∀ w ∈ Ts, w.before args s = true) (hin : ∀ w ∈ u_ws C T N, w ∈ Ts) (ty : Nat → FieldType) (hty : ∀ k, k < N → parseFieldDescriptor (T k).2.2.1 = some (ty k)) (hown : s.vm.findClass own = some m.cls) (hcl : (Cond.classLink own index C).before args s = true) (hinst : (Cond.instantiable C N).before args s = true) (hini : (Cond.initialized C).before args s = true)
    (hk : hK g s) (hw : hW g A s f z H locs) (hc : vwCl[ci]? = some (C, T, N)) {fs : List Value} (hfs : ∀ j, j < N → defaultValue (ty j) = vp_V fs j) (hcells : cells + 1 ≤ R.cells) (hslots : slots + N ≤ R.slots) (hdg : decode cc pc = .ok (.new index, 3))
    (kk : ∀ (H1 : Heap), hW g A s (hup f z (oC ci fs)) (z + 1) H1 locs → W p l e R s m args below meth c H1 locs (cells + 1) (slots + N) Q (F0 m (pc + 3) ls (.ref z :: rest))) : W p l e R s m args below meth c H locs cells slots Q (F0 m pc ls rest) := by
  have hKn := hk.1.1 ci _ hc
  have hz := hw.1
  refine W.newcK hexec hb hown hcl hinst hini rfl hdg hcells hslots hKn.2.1 hz fun H1 kC hkC e1 z1 o1 => ?_
  exact kk H1 (hw.new z1 o1 ⟨_, hc, (u_born ty hts hin hKn hkC e1 hty).to hfs⟩)
theorem hr_newI (hexec : p.tables.exec = Jvm.exec) (hb : c.code = cc) (hk : hK g s) (harr : (Cond.arrayClass .int).before args s = true) (hw : hW g A s f z H locs) {n : Int32} {M : Nat} (hn : ¬ n < 0 ∧ n.toNatClampNeg ≤ M) (hM : M ≤ 1000) (hcells : cells + 1 ≤ R.cells) (hslots : slots + M ≤ R.slots) (hdg : decode cc pc = .ok (.newarray .int, 2))
    (kk : ∀ (H1 : Heap), hW g A s (hup f z (aI n.toNatClampNeg (fun _ => 0))) (z + 1) H1 locs → W p l e R s m args below meth c H1 locs (cells + 1) (slots + M) Q (F0 m (pc + 2) ls (.ref z :: rest))) : W p l e R s m args below meth c H locs cells slots Q (F0 m pc ls (.int n :: rest)) := by
  refine va_newaK (atype := .int) (N := n.toNatClampNeg) hexec hb harr rfl hdg rfl hn.1 rfl (Nat.le_trans (Nat.mul_le_mul_right 4 (Nat.le_trans hn.2 hM)) (by decide)) hcells (by omega) hw.1 fun H1 cA e1 z1 o1 hAr hNm => ?_
  have hcA : cA = g.2.2.1 := Option.some.inj (hNm.symm.trans (hk.1.2 0 _ rfl).2)
  subst hcA
  refine W.widen (k := cells + 1) (n := slots + M) (Nat.le_refl _) (by omega) ?_
  exact kk H1 (hw.new z1 o1 e1)
theorem hr_newJ (hexec : p.tables.exec = Jvm.exec) (hb : c.code = cc) (hk : hK g s) (harr : (Cond.arrayClass .long).before args s = true) (hw : hW g A s f z H locs) {n : Int32} {M : Nat} (hn : ¬ n < 0 ∧ n.toNatClampNeg ≤ M) (hM : M ≤ 1000) (hcells : cells + 1 ≤ R.cells) (hslots : slots + M ≤ R.slots) (hdg : decode cc pc = .ok (.newarray .long, 2))
    (kk : ∀ (H1 : Heap), hW g A s (hup f z (aJ n.toNatClampNeg (fun _ => 0))) (z + 1) H1 locs → W p l e R s m args below meth c H1 locs (cells + 1) (slots + M) Q (F0 m (pc + 2) ls (.ref z :: rest))) : W p l e R s m args below meth c H locs cells slots Q (F0 m pc ls (.int n :: rest)) := by
  refine va_newaK (atype := .long) (N := n.toNatClampNeg) hexec hb harr rfl hdg rfl hn.1 rfl (Nat.le_trans (Nat.mul_le_mul_right 8 (Nat.le_trans hn.2 hM)) (by decide)) hcells (by omega) hw.1 fun H1 cA e1 z1 o1 hAr hNm => ?_
  have hcA : cA = g.2.2.2.1 := Option.some.inj (hNm.symm.trans (hk.1.2 1 _ rfl).2)
  subst hcA
  refine W.widen (k := cells + 1) (n := slots + M) (Nat.le_refl _) (by omega) ?_
  exact kk H1 (hw.new z1 o1 e1)
theorem hr_newQ (hexec : p.tables.exec = Jvm.exec) (hb : c.code = cc) (hk : hK g s) {own : String} {index : Nat} (hown : s.vm.findClass own = some m.cls) (hclink : (Cond.classLink own index RX1).before args s = true) (hw : hW g A s f z H locs) {n : Int32} {M : Nat} (hn : ¬ n < 0 ∧ n.toNatClampNeg ≤ M) (hM : M ≤ 1000) (hcells : cells + 1 ≤ R.cells) (hslots : slots + M ≤ R.slots) (hdg : decode cc pc = .ok (.anewarray index, 3))
    (kk : ∀ (H1 : Heap), hW g A s (hup f z (aQ n.toNatClampNeg (fun _ => none))) (z + 1) H1 locs → W p l e R s m args below meth c H1 locs (cells + 1) (slots + M) Q (F0 m (pc + 3) ls (.ref z :: rest))) : W p l e R s m args below meth c H locs cells slots Q (F0 m pc ls (.int n :: rest)) := by
  refine W.anew hexec hb hown hclink (va_AO.use hk.2.2.2.2.2.2.2.2) rfl hdg rfl hn.1 (by omega) hcells (by omega) fun cA kA comp f1 f2 f3 f4 => ?_
  obtain ⟨kA', comp', k1, k2, k3, k4⟩ := (hk.1.2 2 _ rfl).2
  have hcA : cA = g.2.2.2.2 := Option.some.inj (f1.symm.trans k4)
  subst hcA
  have hz := hw.1
  refine W.widen (k := cells + 1) (n := slots + M) (Nat.le_refl _) (by omega) ?_
  subst hz
  refine kk _ (hw.new (by simp) (fun q hq => by rw [Array.getElem?_push, if_neg (Nat.ne_of_lt hq)]) ?_)
  show (H.push _)[H.size]? = some (arrV g.2.2.2.2 n.toNatClampNeg (fun _ => .null))
  rw [Array.getElem?_push_size, ← arrV_new]
theorem hr_cp (hexec : p.tables.exec = Jvm.exec) (hb : c.code = cc) (hml : c.maxLocals = ls.size) {own : String} {index : Nat} (hown : s.vm.findClass own = some m.cls) (hlink : (Cond.methodLink own index arraycopyName).before args s = true) (hnat : (Cond.native arraycopyName).before args s = true) (hstat : (Cond.static arraycopyName).before args s = true) (hini : (Cond.initialized "java/lang/System").before args s = true)
    (hk : hK g s) (hw : hW g A s f z H locs) {a0 : Nat} {sp dp n : Int32} {f' : hPl} (h : hcp f a0 sp a dp n = some f')
    (hframes : 1 ≤ R.frames) (hlocals : (rest.map fun v => v.category).sum + (nativeFrameWords "java/lang/System" "arraycopy" 5 + 11) ≤ R.locals) (hdg : decode cc pc = .ok (.invokestatic index, 3))
    (kk : ∀ (H1 : Heap) (locs1 : List Loc), hW g A s f' z H1 locs1 → W p l e R s m args below meth c H1 locs1 cells slots Q (F0 m (pc + 3) ls rest)) : W p l e R s m args below meth c H locs cells slots Q (F0 m pc ls (.int n :: .int dp :: .ref a :: .int sp :: .ref a0 :: rest)) := by
  have nn : ∀ z : Int32, ¬ z < 0 → z.toInt = (z.toNatClampNeg : Int) := by
    intro z hz
    have hz0 : (0 : Int) ≤ z.toInt := by
      have := Int32.not_lt.mp hz
      simpa using Int32.le_iff_toInt_le.mp this
    show z.toInt = ((z.toInt.toNat : Nat) : Int)
    omega
  obtain ⟨⟨n0, r0⟩, g1, h⟩ := Option.bind_eq_some_iff.mp h
  obtain ⟨⟨n1, r1⟩, g2, h⟩ := Option.bind_eq_some_iff.mp h
  obtain ⟨⟨h1, h2, h3, h4, h5⟩, rfl⟩ := hif h
  have hf0 := hrJ_spec g1
  have hf1 := hrJ_spec g2
  have hc0 : H[a0]? = some (vp_cell g.2.2.2.1 (n0, .inr (.inl r0))) := (hw.2.1 a0 _ hf0).1
  have hc1 : H[a]? = some (vp_cell g.2.2.2.1 (n1, .inr (.inl r1))) := (hw.2.1 a _ hf1).1
  dsimp only at h4 h5
  intro T hT X
  obtain ⟨-, k0, hk0, cm0, hkk0⟩ := (hk.1.2 1 _ rfl).1 n0 (fun j => .long (r0 j))
  obtain ⟨vm', X', step⟩ := X.arraycopy hexec hown hlink hnat hstat hini (src := a0) (dst := a) (cs := vp_cell g.2.2.2.1 (n0, .inr (.inl r0))) (cd := vp_cell g.2.2.2.1 (n1, .inr (.inl r1))) (srcPos := sp) (destPos := dp) (n := n) (by rw [hT]; exact hc0) (by rw [hT]; exact hc1)
    (fun _ h => by cases h) (fun _ h => by cases h) (fun h => by cases h) (fun h => by cases h) hk0 hk0 hkk0 hkk0 (by simp [refKind]) h1 h2 h3
    (by rw [nn sp h1, nn n h3]; show ¬ _ > ((arrV _ n0 (fun j => .long (r0 j))).slots.size : Int); rw [arrV_size]; omega)
    (by rw [nn dp h2, nn n h3]; show ¬ _ > ((arrV _ n1 (fun j => .long (r1 j))).slots.size : Int); rw [arrV_size]; omega)
    (fun vm₁ _ i hi => by
      have e : (vp_cell g.2.2.2.1 (n0, .inr (.inl r0))).slots.getD (sp.toNatClampNeg + i) .null = .long (r0 (sp.toNatClampNeg + i)) := by
        show (arrV _ n0 (fun j => .long (r0 j))).slots.getD _ _ = _
        rw [Array.getD_eq_getD_getElem?, arrV_read _ _ (by omega)]
        rfl
      refine ⟨?_, ?_⟩
      · rw [e]
        rfl
      · rw [e]
        exact trivial)
    (g := F0 m pc ls (.int n :: .int dp :: .ref a :: .int sp :: .ref a0 :: rest)) rfl (by rw [hml]) (rest := rest) rfl (by rw [hb]; exact hdg) hframes (by show 2 * 0 + _ + _ ≤ _; omega)
  have e1 : copied (vp_cell g.2.2.2.1 (n0, .inr (.inl r0))) (vp_cell g.2.2.2.1 (n1, .inr (.inl r1))) sp dp n = vp_cell g.2.2.2.1 (n1, .inr (.inl (va_cpy r0 r1 sp.toNatClampNeg dp.toNatClampNeg n.toNatClampNeg))) := va_copied (fun z => .long z) _ _ r0 r1 h4
  rw [e1] at X' step
  have hl : a < H.size := (Array.getElem?_eq_some_iff.mp hc1).1
  have hheap : ((T.setVm vm').setCell a (vp_cell g.2.2.2.1 (n1, .inr (.inl (va_cpy r0 r1 sp.toNatClampNeg dp.toNatClampNeg n.toNatClampNeg))))).heap = H.setIfInBounds a (vp_cell g.2.2.2.1 (n1, .inr (.inl (va_cpy r0 r1 sp.toNatClampNeg dp.toNatClampNeg n.toNatClampNeg)))) := by rw [← hT]; rfl
  have oq : ∀ q : Nat, q ≠ a → (H.setIfInBounds a (vp_cell g.2.2.2.1 (n1, .inr (.inl (va_cpy r0 r1 sp.toNatClampNeg dp.toNatClampNeg n.toNatClampNeg)))))[q]? = H[q]? := fun q hq => by simp [Array.getElem?_setIfInBounds, Ne.symm hq]
  have hu := hw.upd (k := 0) hf1 (H1 := H.setIfInBounds a (vp_cell g.2.2.2.1 (n1, .inr (.inl (va_cpy r0 r1 sp.toNatClampNeg dp.toNatClampNeg n.toNatClampNeg))))) (e' := aJ n1 (va_cpy r0 r1 sp.toNatClampNeg dp.toNatClampNeg n.toNatClampNeg)) (by simp) oq (show (H.setIfInBounds a _)[a]? = some _ by simp [Array.getElem?_setIfInBounds, hl]; rfl)
  obtain ⟨t, a1, b1⟩ := kk _ _ ⟨hu.1, hu.2.1, ⟨hu.2.2.1.1, hu.2.2.1.2.1, fun q hq => by
      rcases List.mem_append.mp hq with h | h
      · exact hw.2.2.1.2.2 q h
      · obtain ⟨z, -, hz⟩ := List.mem_map.mp h
        rw [← hz]
        exact (hw.2.1 a _ hf1).2⟩, hu.2.2.2⟩ _ hheap X'
  exact ⟨t, step t a1, b1⟩
/-! references that may be null -/
theorem hv_aload_n (hexec : p.tables.exec = Jvm.exec) (hb : c.code = cc) {k : Fin 4} {i : Nat} {q : Option Nat} (hdg : decode cc pc = .ok (.aload_n k, 1)) (hi : (k : Nat) = i) (hl : ls[i]? = some (.val (va_rf q)))
    (kk : W p l e R s m args below meth c H locs cells slots Q (F0 m (pc + 1) ls (va_rf q :: rest))) : W p l e R s m args below meth c H locs cells slots Q (F0 m pc ls rest) := by
  cases q with
  | none => exact lv_aload_nN hexec hb hdg hi hl kk
  | some a => exact lv_aload_n hexec hb hdg hi hl kk
theorem hv_aload (hexec : p.tables.exec = Jvm.exec) (hb : c.code = cc) {i : Nat} {q : Option Nat} (hdg : decode cc pc = .ok (.aload i, 2)) (hl : ls[i]? = some (.val (va_rf q)))
    (kk : W p l e R s m args below meth c H locs cells slots Q (F0 m (pc + 2) ls (va_rf q :: rest))) : W p l e R s m args below meth c H locs cells slots Q (F0 m pc ls rest) := by
  cases q with
  | none => exact lv_aloadN hexec hb hdg hl kk
  | some a => exact lv_aload hexec hb hdg hl kk
theorem hv_astore_n (hexec : p.tables.exec = Jvm.exec) (hb : c.code = cc) {k : Fin 4} {i nL : Nat} {q : Option Nat} {lv lv' : List (Nat × Value)} (hdg : decode cc pc = .ok (.astore_n k, 1)) (hi : (k : Nat) = i) (h : lv_has ls nL lv) (hn : i < nL) (hl : (i, va_rf q) :: lv.filter (fun q => !(q.1 == i) && !(q.1 + 1 == i && q.2.category == 2)) = lv')
    (kk : ∀ ls' : Array Slot, lv_has ls' nL lv' → W p l e R s m args below meth c H locs cells slots Q (F0 m (pc + 1) ls' rest)) : W p l e R s m args below meth c H locs cells slots Q (F0 m pc ls (va_rf q :: rest)) := by
  cases q with
  | none => exact lv_astore_nN hexec hb hdg hi h hn hl kk
  | some a => exact lv_astore_n hexec hb hdg hi h hn hl kk
theorem hv_astore (hexec : p.tables.exec = Jvm.exec) (hb : c.code = cc) {i nL : Nat} {q : Option Nat} {lv lv' : List (Nat × Value)} (hdg : decode cc pc = .ok (.astore i, 2)) (h : lv_has ls nL lv) (hn : i < nL) (hl : (i, va_rf q) :: lv.filter (fun q => !(q.1 == i) && !(q.1 + 1 == i && q.2.category == 2)) = lv')
    (kk : ∀ ls' : Array Slot, lv_has ls' nL lv' → W p l e R s m args below meth c H locs cells slots Q (F0 m (pc + 2) ls' rest)) : W p l e R s m args below meth c H locs cells slots Q (F0 m pc ls (va_rf q :: rest)) := by
  cases q with
  | none => exact lv_astoreN hexec hb hdg h hn hl kk
  | some a => exact lv_astore hexec hb hdg h hn hl kk
theorem hv_ifnull (hexec : p.tables.exec = Jvm.exec) (hb : c.code = cc) {q : Option Nat} {off : Int} {tgt : Nat} (hdg : decode cc pc = .ok (.ifnull off, 3)) (ht : (pc : Int) + off = (tgt : Int)) (kt : q = none → W p l e R s m args below meth c H locs cells slots Q (F0 m tgt ls rest)) (kf : ¬ q = none → W p l e R s m args below meth c H locs cells slots Q (F0 m (pc + 3) ls rest)) : W p l e R s m args below meth c H locs cells slots Q (F0 m pc ls (va_rf q :: rest)) := by
  cases q with
  | none => exact lv_ifnullN hexec hb hdg ht (kt rfl)
  | some a => exact lv_ifnull hexec hb hdg (kf (fun h => by cases h))
theorem hv_ifnonnull (hexec : p.tables.exec = Jvm.exec) (hb : c.code = cc) {q : Option Nat} {off : Int} {tgt : Nat} (hdg : decode cc pc = .ok (.ifnonnull off, 3)) (ht : (pc : Int) + off = (tgt : Int)) (kt : ¬ q = none → W p l e R s m args below meth c H locs cells slots Q (F0 m tgt ls rest)) (kf : q = none → W p l e R s m args below meth c H locs cells slots Q (F0 m (pc + 3) ls rest)) : W p l e R s m args below meth c H locs cells slots Q (F0 m pc ls (va_rf q :: rest)) := by
  cases q with
  | none => exact lv_ifnonnullN hexec hb hdg (kf rfl)
  | some a => exact lv_ifnonnull hexec hb hdg ht (kt (fun h => by cases h))
/-- whether what lies at q is of the kind ci (0 a Lamp, 1 a Tray) -/
def hii (f : hPl) (q : Option Nat) (ci : Nat) : Option Int32 := match q with
  | none => some 0
  | some a => (hkd f a).bind fun k => if k = 0 ∨ k = 1 then some (if k = ci then 1 else 0) else none
theorem hr_instL (hexec : p.tables.exec = Jvm.exec) (hb : c.code = cc) {own : String} {index : Nat} (hown : s.vm.findClass own = some m.cls) (hlink : (Cond.classLink own index RX0).before args s = true) (hk : hK g s) (hw : hW g A s f z H locs) {q : Option Nat} {x : Int32} (h : hii f q 0 = some x) (hdg : decode cc pc = .ok (.instanceof index, 3))
    (kk : W p l e R s m args below meth c H locs cells slots Q (F0 m (pc + 3) ls (.int x :: rest))) : W p l e R s m args below meth c H locs cells slots Q (F0 m pc ls (va_rf q :: rest)) := by
  cases q with
  | none => cases h; exact lv_instN hexec hb hdg kk
  | some a =>
    obtain ⟨k, h1, h2⟩ := Option.bind_eq_some_iff.mp h
    obtain ⟨h3, rfl⟩ := hif h2
    obtain ⟨fs, h4⟩ := hkd_spec h1
    rcases h3 with rfl | rfl
    · exact va_instY hexec hb hown hlink hk.2.2.1 (va_recv hk.1 (hw.P1 h4) (ci := 0) (q0 := 0) rfl rfl) hdg kk
    · exact va_instNo hexec hb hown hlink hk.2.2.2.2.2.2.2.1 (va_recv hk.1 (hw.P1 h4) (ci := 1) (q0 := 0) rfl rfl) hdg kk
theorem hr_instT (hexec : p.tables.exec = Jvm.exec) (hb : c.code = cc) {own : String} {index : Nat} (hown : s.vm.findClass own = some m.cls) (hlink : (Cond.classLink own index RX2).before args s = true) (hk : hK g s) (hw : hW g A s f z H locs) {q : Option Nat} {x : Int32} (h : hii f q 1 = some x) (hdg : decode cc pc = .ok (.instanceof index, 3))
    (kk : W p l e R s m args below meth c H locs cells slots Q (F0 m (pc + 3) ls (.int x :: rest))) : W p l e R s m args below meth c H locs cells slots Q (F0 m pc ls (va_rf q :: rest)) := by
  cases q with
  | none => cases h; exact lv_instN hexec hb hdg kk
  | some a =>
    obtain ⟨k, h1, h2⟩ := Option.bind_eq_some_iff.mp h
    obtain ⟨h3, rfl⟩ := hif h2
    obtain ⟨fs, h4⟩ := hkd_spec h1
    rcases h3 with rfl | rfl
    · exact va_instNo hexec hb hown hlink hk.2.2.2.2.2.2.1 (va_recv hk.1 (hw.P1 h4) (ci := 0) (q0 := 0) rfl rfl) hdg kk
    · exact va_instY hexec hb hown hlink hk.2.2.2.1 (va_recv hk.1 (hw.P1 h4) (ci := 1) (q0 := 0) rfl rfl) hdg kk
theorem hr_castL (hexec : p.tables.exec = Jvm.exec) (hb : c.code = cc) {own : String} {index : Nat} (hown : s.vm.findClass own = some m.cls) (hlink : (Cond.classLink own index RX0).before args s = true) (hk : hK g s) (hw : hW g A s f z H locs) {u : Unit} (h : hob f a 0 = some u) (hdg : decode cc pc = .ok (.checkcast index, 3))
    (kk : W p l e R s m args below meth c H locs cells slots Q (F0 m (pc + 3) ls (.ref a :: rest))) : W p l e R s m args below meth c H locs cells slots Q (F0 m pc ls (.ref a :: rest)) := by
  obtain ⟨fs, h4⟩ := hob_spec h
  exact va_castY hexec hb hown hlink hk.2.2.1 (va_recv hk.1 (hw.P1 h4) (ci := 0) (q0 := 0) rfl rfl) hdg kk
theorem hr_castT (hexec : p.tables.exec = Jvm.exec) (hb : c.code = cc) {own : String} {index : Nat} (hown : s.vm.findClass own = some m.cls) (hlink : (Cond.classLink own index RX2).before args s = true) (hk : hK g s) (hw : hW g A s f z H locs) {u : Unit} (h : hob f a 1 = some u) (hdg : decode cc pc = .ok (.checkcast index, 3))
    (kk : W p l e R s m args below meth c H locs cells slots Q (F0 m (pc + 3) ls (.ref a :: rest))) : W p l e R s m args below meth c H locs cells slots Q (F0 m pc ls (.ref a :: rest)) := by
  obtain ⟨fs, h4⟩ := hob_spec h
  exact va_castY hexec hb hown hlink hk.2.2.2.1 (va_recv hk.1 (hw.P1 h4) (ci := 1) (q0 := 0) rfl rfl) hdg kk
/-- one arm of a table switch -/
theorem hv_arm (hexec : p.tables.exec = Jvm.exec) (hb : c.code = cc) {dflt lo hi : Int} {offs : Array Int} {len : Nat} {x k : Int32} {off : Int} {tgt : Nat} (hx : x = k) (hdg : decode cc pc = .ok (.tableswitch dflt lo hi offs, len)) (h1 : ¬ k.toInt < lo) (h2 : ¬ hi < k.toInt) (ho : offs[(k.toInt - lo).toNat]? = some off) (ht : (pc : Int) + off = (tgt : Int))
    (kk : W p l e R s m args below meth c H locs cells slots Q (F0 m tgt ls rest)) : W p l e R s m args below meth c H locs cells slots Q (F0 m pc ls (.int x :: rest)) := by
  subst hx
  exact lv_tableIn hexec hb hdg h1 h2 ho ht kk
/-! contracts -/
def hPre (g : hGb) (av : List Value) (f : hPl) (z : Nat) : Array Value → State → Prop := va_Pc av (fun U => hK g U ∧ U.heap.size = z ∧ ∀ (a : Nat) (e : hCe), f a = some e → va_at (hD g) vwCl (a, hE g e) U.heap)
def hA (f : hPl) (z : Nat) : Nat → Prop := fun q => (f q).isSome = true ∨ z ≤ q
def hQ (g : hGb) (A : Nat → Prop) (o : Option Value) (f' : hPl) (z' : Nat) : Array Value → State → Outcome → State → Prop := fun _ st oc t => oc = .returned o ∧ (t.heap.size = z' ∧ ∀ (a : Nat) (e : hCe), f' a = some e → va_at (hD g) vwCl (a, hE g e) t.heap ∧ A a) ∧ va_F A st t
abbrev hRm (fr mc ms : Nat) : Room := { frames := fr, cells := mc, slots := ms, locals := 40 * fr }
def hCt (l : Launch) (g : hGb) (y : MethodName) (ws : List Cond) (fr mc ms : Nat) (av : List Value) (f : hPl) (z : Nat) (o : Option Value) (f' : hPl) (z' : Nat) : Prop := Met l y ws (hRm fr mc ms) (hPre g av f z) (hQ g (hA f z) o f' z') mc ms (hA f z)
abbrev hZ (g : hGb) (A : Nat → Prop) (below : List Frame) (args : Array Value) (s : State) (mc ms : Nat) (o : Option Value) (f' : hPl) (z' : Nat) : State → Prop := MQ below (hQ g A o f' z') args s mc ms A
theorem hCt.of {y : MethodName} {ws ws' : List Cond} {fr mc ms : Nat} {av : List Value} {o : Option Value} {f' : hPl} {z' : Nat} {maxL : Nat} {ret : Option FieldType} (hy : plainName y.cls = true) (hw : ws = Cond.code y cc maxL ret :: ws') (hn : (lg_sl av).length ≤ maxL)
    (body : ∀ (p : Program) (e : Env) (s : State) (m : MethodId) (below : List Frame) (meth : Method) (c : Code), hX g p s m av.toArray meth c y.cls cc maxL ws ret → meth.name = y.name → hW g (hA f z) s f z s.heap [] → ∀ ls : Array Slot, lv_has ls maxL (lv_args 0 av) →
      W p l e (hRm fr mc ms) s m av.toArray below meth c s.heap [] 0 0 (hZ g (hA f z) below av.toArray s mc ms o f' z') (F0 m 0 ls [])) : hCt l g y ws fr mc ms av f z o f' z' := by
  refine Met.ofW (cc := cc) (maxL := maxL) (ret := ret) hy hw ?_
  intro p e s m args below meth c s₁ B hml hv
  obtain ⟨rfl, hk, hsz, hp⟩ := hv
  have hl := lv_entry av (n := maxL) hn
  rw [lg_entry_eq]
  exact body p e s m below meth c ⟨B.exec, B.bytes, hml, findClass_of_methodNamed B.named, atoms_spec (ws := ws) B.pre, B.returns, B.notSynchronized, hk⟩ (name_of_methodNamed B.named B.method).1 ⟨hsz, fun a e h => ⟨hp a e h, Or.inl (by rw [h]; rfl)⟩, va_S.rf, fun q h => Or.inr (by rw [← hsz]; exact h)⟩ _ hl
theorem hret_q (hw : hW g A s f z H locs) {o : Option Value} (t : State) (ht : t.heap = H) : hQ g A o f z args s (.returned o) t := ⟨rfl, ⟨by rw [ht]; exact hw.1, fun a e h => by rw [ht]; exact hw.2.1 a e h⟩, hw.2.2.1.F ht⟩
theorem hret_i (hexec : p.tables.exec = Jvm.exec) (hb : c.code = cc) (hr : meth.sig.returnType = some .int) (hlocks : meth.locks = false) (hw : hW g A s f z H locs) {v : Int32} (hdg : decode cc pc = .ok (.ireturn, 1)) : W p l e R s m args below meth c H locs cells slots (hZ g A below args s cells slots (some (.int v)) f z) (F0 m pc ls [.int v]) := W.iret hexec hb hr (fun t ht _ => hret_q hw t ht) hw.2.2.1.2.2 hdg
theorem hret_z (hexec : p.tables.exec = Jvm.exec) (hb : c.code = cc) (hr : meth.sig.returnType = some .boolean) (hlocks : meth.locks = false) (hw : hW g A s f z H locs) {v : Int32} (hv : v = 0 ∨ v = 1) (hdg : decode cc pc = .ok (.ireturn, 1)) : W p l e R s m args below meth c H locs cells slots (hZ g A below args s cells slots (some (.int v)) f z) (F0 m pc ls [.int v]) := W.zret hexec hb hr (by rcases hv with rfl | rfl <;> decide +kernel) (fun t ht _ => hret_q hw t ht) hw.2.2.1.2.2 hdg
theorem hret_l (hexec : p.tables.exec = Jvm.exec) (hb : c.code = cc) (hr : meth.sig.returnType = some .long) (hlocks : meth.locks = false) (hw : hW g A s f z H locs) {v : Int64} (hdg : decode cc pc = .ok (.lreturn, 1)) : W p l e R s m args below meth c H locs cells slots (hZ g A below args s cells slots (some (.long v)) f z) (F0 m pc ls [.long v]) := W.lret hexec hb hr (fun t ht _ => hret_q hw t ht) hw.2.2.1.2.2 hdg
theorem hret_v (hexec : p.tables.exec = Jvm.exec) (hb : c.code = cc) (hr : meth.sig.returnType = none) (hlocks : meth.locks = false) (hw : hW g A s f z H locs) (hdg : decode cc pc = .ok (.return_, 1)) : W p l e R s m args below meth c H locs cells slots (hZ g A below args s cells slots none f z) (F0 m pc ls []) := W.vret hexec hb hr (fun t ht _ => hret_q hw t ht) hw.2.2.1.2.2 hdg
theorem hret_a (hexec : p.tables.exec = Jvm.exec) (hb : c.code = cc) {C : String} (hr : meth.sig.returnType = some (.object C)) (hlocks : meth.locks = false) (hw : hW g A s f z H locs) {q : Option Nat} (hdg : decode cc pc = .ok (.areturn, 1)) : W p l e R s m args below meth c H locs cells slots (hZ g A below args s cells slots (some (va_rf q)) f z) (F0 m pc ls [va_rf q]) := W.aret hexec hb hr (Or.inl ⟨_, rfl⟩) (va_rf_or q) (fun t ht _ => hret_q hw t ht) hw.2.2.1.2.2 hdg
theorem hblind {av : List Value} : FrameBlind (hPre g av f z) := fun a U gg mk q => ⟨q.1, q.2.1.same rfl, q.2.2⟩
theorem hpre (hk : hK g s) (hw : hW g A s f z H locs) {av : List Value} : PreS s H (hPre g av f z) av := ⟨hblind, fun U hU hV => ⟨rfl, hk.moved hV, by rw [hU]; exact hw.1, fun a e h => by rw [hU]; exact (hw.2.1 a e h).1⟩⟩
theorem hpreV (hk : hK g s) (hw : hW g A s f z H locs) {As : List Value} {ci b : Nat} {C : String} {T : u_T} {N : Nat} (hc : vwCl[ci]? = some (C, T, N)) {u : Unit} (ho : hob f b ci = some u) : PreV s H C b (hPre g (.ref b :: As) f z) As := by
  obtain ⟨fs, h4⟩ := hob_spec ho
  exact ⟨hblind, va_recv hk.1 (hw.P1 h4) (ci := ci) (q0 := 0) hc rfl, (hpre hk hw).2⟩
theorem h_call {mc ms : Nat} {st0 : List Value} {o : Option Value} {f' : hPl} {z' : Nat} {av : Array Value} (hr : va_Run p l e R s m args below meth c H locs cells slots mc ms (F0 m pc ls st0) rest (hQ g (hA f z) o f' z' av) (hA f z)) (hw : hW g A s f z H locs)
    (kk : ∀ (H1 : Heap) (locs1 : List Loc), hW g A s f' z' H1 locs1 → W p l e R s m args below meth c H1 locs1 (cells + mc) (slots + ms) Q (F0 m (pc + 3) ls (o.toList ++ rest))) : W p l e R s m args below meth c H locs cells slots Q (F0 m pc ls st0) := by
  intro T hT X
  obtain ⟨v, st₀, t, T', L, h0, X', hL, e1, e2, ⟨hv, ⟨hz', hp'⟩, hz, hkp⟩, st⟩ := hr T hT X
  cases hv
  rw [h0] at hz hkp
  obtain ⟨hwz, hwp, hS, hA0⟩ := hw
  have hAA : ∀ q, hA f z q → A q := by
    intro q hq
    rcases hq with hq | hq
    · cases hf : f q with
      | none => rw [hf] at hq; cases hq
      | some e => exact (hwp q e hf).2
    · exact hA0 q (Nat.le_trans hS.1 (by rw [hwz]; exact hq))
  obtain ⟨t2, a1, b1⟩ := kk T'.heap (locs ++ L) ⟨by rw [e1]; exact hz', fun a e h => ⟨by rw [e1]; exact (hp' a e h).1, hAA a (hp' a e h).2⟩, ⟨Nat.le_trans hS.1 (by rw [e1]; exact hz), fun q h1 h2 => by rw [e1, hkp q (Nat.lt_of_lt_of_le h1 hS.1) (fun z => h2 (hAA q z))]; exact hS.2.1 q h1 h2, fun q hq => by
      rcases List.mem_append.mp hq with h | h
      · exact hS.2.2 q h
      · exact hAA _ (hL q h)⟩, hA0⟩ T' rfl X'
  exact ⟨t2, st t2 a1, b1⟩
end HR2
