section HR
variable {g : hGb} {p : Program} {l : Launch} {e : Env} {R : Room} {s : State} {m : MethodId} {args : Array Value} {below : List Frame} {meth : Method} {c : Code} {H : Heap} {locs : List Loc} {cells slots : Nat} {Q : State → Prop}
variable {cc : ByteArray} {pc : Nat} {ls : Array Slot} {rest : List Value} {A : Nat → Prop} {f : hPl} {z a : Nat}
/-- what a walk of a method keeps: the machine, the code, the words, the tables -/
def hX (g : hGb) (p : Program) (s : State) (m : MethodId) (args : Array Value) (meth : Method) (c : Code) (own : String) (cc : ByteArray) (nL : Nat) (Ts : List Cond) (rt : Option FieldType) : Prop :=
  p.tables.exec = Jvm.exec ∧ c.code = cc ∧ c.maxLocals = nL ∧ s.vm.findClass own = some m.cls ∧ (∀ w ∈ Ts, w.before args s = true) ∧ meth.sig.returnType = rt ∧ meth.locks = false ∧ hK g s
theorem hr_getI (hexec : p.tables.exec = Jvm.exec) (hb : c.code = cc) {own ref C : String} {T : u_T} {N ci index : Nat} {Ts : List Cond} (hts : ∀ w ∈ Ts, w.before args s = true) (hin : ∀ w ∈ u_ws C T N, w ∈ Ts) (hown : s.vm.findClass own = some m.cls) (hk : hK g s) (hw : hW g A s f z H locs) (hc : vwCl[ci]? = some (C, T, N)) (k : Nat) (hkN : k < N) (hlink : (Cond.fieldLink own index ref (T k).2.1 (T k).2.2.1).before args s = true) (hsame : ∀ x, s.fieldFound? (T k).1 (T k).2.1 (T k).2.2.1 = some x → s.fieldFound? ref (T k).2.1 (T k).2.2.1 = some x) {x : Int32} (h : hgI f a ci k = some x) (hdg : decode cc pc = .ok (.getfield index, 3))
    (kk : W p l e R s m args below meth c H locs cells slots Q (F0 m (pc + 3) ls (.int x :: rest))) : W p l e R s m args below meth c H locs cells slots Q (F0 m pc ls (.ref a :: rest)) := by
  obtain ⟨fs, h1, h2⟩ := hgI_spec h
  exact va_get hexec hb hts hin hown hk.1 (hw.P1 h1) 0 rfl hc k hkN hlink hsame h2 hdg kk
theorem hr_getQ (hexec : p.tables.exec = Jvm.exec) (hb : c.code = cc) {own ref C : String} {T : u_T} {N ci index : Nat} {Ts : List Cond} (hts : ∀ w ∈ Ts, w.before args s = true) (hin : ∀ w ∈ u_ws C T N, w ∈ Ts) (hown : s.vm.findClass own = some m.cls) (hk : hK g s) (hw : hW g A s f z H locs) (hc : vwCl[ci]? = some (C, T, N)) (k : Nat) (hkN : k < N) (hlink : (Cond.fieldLink own index ref (T k).2.1 (T k).2.2.1).before args s = true) (hsame : ∀ x, s.fieldFound? (T k).1 (T k).2.1 (T k).2.2.1 = some x → s.fieldFound? ref (T k).2.1 (T k).2.2.1 = some x) {x : Option Nat} (h : hgQ f a ci k = some x) (hdg : decode cc pc = .ok (.getfield index, 3))
    (kk : W p l e R s m args below meth c H locs cells slots Q (F0 m (pc + 3) ls (va_rf x :: rest))) : W p l e R s m args below meth c H locs cells slots Q (F0 m pc ls (.ref a :: rest)) := by
  obtain ⟨fs, h1, h2⟩ := hgQ_spec h
  exact va_get hexec hb hts hin hown hk.1 (hw.P1 h1) 0 rfl hc k hkN hlink hsame h2 hdg kk
theorem hr_put (hexec : p.tables.exec = Jvm.exec) (hb : c.code = cc) {own ref C : String} {T : u_T} {N ci index : Nat} {Ts : List Cond} (hts : ∀ w ∈ Ts, w.before args s = true) (hin : ∀ w ∈ u_ws C T N, w ∈ Ts) (ty0 : Nat → FieldType) (hty : ∀ k, k < N → parseFieldDescriptor (T k).2.2.1 = some (ty0 k)) (hnm : ∀ a, a < N → ∀ b, b < N → a ≠ b → (T a).2.1 ≠ (T b).2.1) (hown : s.vm.findClass own = some m.cls) (hk : hK g s) (hw : hW g A s f z H locs) (hc : vwCl[ci]? = some (C, T, N)) (k : Nat) (hkN : k < N) (hlink : (Cond.fieldLink own index ref (T k).2.1 (T k).2.2.1).before args s = true) (hsame : ∀ x, s.fieldFound? (T k).1 (T k).2.1 (T k).2.2.1 = some x → s.fieldFound? ref (T k).2.1 (T k).2.2.1 = some x) (hfin : (T k).2.2.2 = false) {ty : FieldType} {v : Value} (hd : parseFieldDescriptor (T k).2.2.1 = some ty) (hn : narrow ty v = v) (hfit : fits ty v = true) {f' : hPl} (h : hput f a ci k v = some f')
    (hdg : decode cc pc = .ok (.putfield index, 3)) (kk : ∀ (H1 : Heap) (locs1 : List Loc), hW g A s f' z H1 locs1 → W p l e R s m args below meth c H1 locs1 cells slots Q (F0 m (pc + 3) ls rest)) : W p l e R s m args below meth c H locs cells slots Q (F0 m pc ls (v :: .ref a :: rest)) := by
  obtain ⟨fs, h1, h2, rfl⟩ := hput_spec h
  have hap := va_apart (own := own) hts hin ty0 hty hnm hk.1 hc
  obtain ⟨r, h3, cell, q1, q2, q3, q4⟩ := (hw.2.1 a _ h1).1
  have hr : r = (C, T, N) := Option.some.inj (h3.symm.trans hc)
  subst hr
  obtain ⟨hS, hfc, kC, hkC, hkind⟩ := hk.1.1 ci _ hc
  obtain ⟨cf, kf, fi, fl, hi, hsl⟩ := hS k hkN
  have hlay := hts _ (hin _ (u_in_lay hkN))
  unfold u_lay at hlay
  rw [if_neg (by rw [hfin]; decide)] at hlay
  have hst := (u_facts hfc hkC (u_lays hts hin hkN) hi).1
  have h6 := u_store hfc hkC hkind hlay hi hd hn hfit
  refine W.putK hexec hb (f := fl) ⟨hown, hlink, ⟨_, _, _, hsame _ hi⟩, hst⟩ (by rw [q2]; exact h6) q1 q3 (by rw [hsl]; exact k2_hasslot (q4 k hkN)) rfl rfl hdg fun H' e1 e2 e3 => ?_
  rw [hsl] at e1 ⊢
  exact kk H' _ (hw.upd h1 e2 e3 ⟨_, hc, t_OB.to (V := updV (vp_V fs) k v) ⟨_, e1, q2, q3, t_set q4 hap hkN v⟩ (fun j _ => vp_updV_set h2 v j)⟩)
theorem hr_putF (hexec : p.tables.exec = Jvm.exec) (hb : c.code = cc) {own ref C : String} {T : u_T} {N ci index : Nat} {Ts : List Cond} (hts : ∀ w ∈ Ts, w.before args s = true) (hin : ∀ w ∈ u_ws C T N, w ∈ Ts) (ty0 : Nat → FieldType) (hty : ∀ k, k < N → parseFieldDescriptor (T k).2.2.1 = some (ty0 k)) (hnm : ∀ a, a < N → ∀ b, b < N → a ≠ b → (T a).2.1 ≠ (T b).2.1) (hown : s.vm.findClass own = some m.cls) (hk : hK g s) (hw : hW g A s f z H locs) (hc : vwCl[ci]? = some (C, T, N)) (k : Nat) (hkN : k < N) (hlink : (Cond.fieldLink own index ref (T k).2.1 (T k).2.2.1).before args s = true) (hsame : ∀ x, s.fieldFound? (T k).1 (T k).2.1 (T k).2.2.1 = some x → s.fieldFound? ref (T k).2.1 (T k).2.2.1 = some x) (hfin : (T k).2.2.2 = true) (hin2 : meth.name = "<init>") (hdecl : (T k).1 = own) {ty : FieldType} {v : Value} (hd : parseFieldDescriptor (T k).2.2.1 = some ty) (hn : narrow ty v = v) (hfit : fits ty v = true) {f' : hPl} (h : hput f a ci k v = some f')
    (hdg : decode cc pc = .ok (.putfield index, 3)) (kk : ∀ (H1 : Heap) (locs1 : List Loc), hW g A s f' z H1 locs1 → W p l e R s m args below meth c H1 locs1 cells slots Q (F0 m (pc + 3) ls rest)) : W p l e R s m args below meth c H locs cells slots Q (F0 m pc ls (v :: .ref a :: rest)) := by
  obtain ⟨fs, h1, h2, rfl⟩ := hput_spec h
  have hap := va_apart (own := own) hts hin ty0 hty hnm hk.1 hc
  obtain ⟨r, h3, cell, q1, q2, q3, q4⟩ := (hw.2.1 a _ h1).1
  have hr : r = (C, T, N) := Option.some.inj (h3.symm.trans hc)
  subst hr
  obtain ⟨hS, hfc, kC, hkC, hkind⟩ := hk.1.1 ci _ hc
  obtain ⟨cf, kf, fi, fl, hi, hsl⟩ := hS k hkN
  have hlay := hts _ (hin _ (u_in_lay hkN))
  unfold u_lay at hlay
  rw [if_pos hfin] at hlay
  have hst := (u_facts hfc hkC (u_lays hts hin hkN) hi).1
  have hcf : m.cls = cf := by
    obtain ⟨_, _, c', _, _, _, -, -, hf', -, -, -, hown2, -⟩ := Cond.laysFinal_spec hlay
    have e1 : c' = cf := by have := hi.symm.trans hf'; simp at this; exact this.1.symm
    rw [hdecl] at hown2
    rw [← e1]; exact Option.some.inj (hown.symm.trans hown2)
  have h6 := u_fits hfc hkC hkind (Or.inr hlay) hi hd hn hfit
  refine W.putFinK hexec hb hown hlink (hsame _ hi) hst hcf hin2 (by rw [q2]; exact h6) q1 q3 (by rw [hsl]; exact k2_hasslot (q4 k hkN)) rfl rfl hdg fun H' e1 e2 e3 => ?_
  rw [hsl] at e1 ⊢
  exact kk H' _ (hw.upd h1 e2 e3 ⟨_, hc, t_OB.to (V := updV (vp_V fs) k v) ⟨_, e1, q2, q3, t_set q4 hap hkN v⟩ (fun j _ => vp_updV_set h2 v j)⟩)
theorem hr_lI (hexec : p.tables.exec = Jvm.exec) (hb : c.code = cc) (hk : hK g s) (hw : hW g A s f z H locs) {i x : Int32} (h : hlI f a i = some x) (hdg : decode cc pc = .ok (.iaload, 1))
    (kk : W p l e R s m args below meth c H locs cells slots Q (F0 m (pc + 1) ls (.int x :: rest))) : W p l e R s m args below meth c H locs cells slots Q (F0 m pc ls (.int i :: .ref a :: rest)) := by
  obtain ⟨⟨n, r⟩, h1, h2⟩ := Option.bind_eq_some_iff.mp h
  obtain ⟨h3, rfl⟩ := hif h2
  exact va_iald hexec hb hk.1 (hw.P1 (hrI_spec h1)) 0 0 rfl rfl (hinB_iff.mp h3) hdg kk
theorem hr_lJ (hexec : p.tables.exec = Jvm.exec) (hb : c.code = cc) (hk : hK g s) (hw : hW g A s f z H locs) {i : Int32} {x : Int64} (h : hlJ f a i = some x) (hdg : decode cc pc = .ok (.laload, 1))
    (kk : W p l e R s m args below meth c H locs cells slots Q (F0 m (pc + 1) ls (.long x :: rest))) : W p l e R s m args below meth c H locs cells slots Q (F0 m pc ls (.int i :: .ref a :: rest)) := by
  obtain ⟨⟨n, r⟩, h1, h2⟩ := Option.bind_eq_some_iff.mp h
  obtain ⟨h3, rfl⟩ := hif h2
  exact va_lald hexec hb hk.1 (hw.P1 (hrJ_spec h1)) 0 1 rfl rfl (hinB_iff.mp h3) hdg kk
theorem hr_lQ (hexec : p.tables.exec = Jvm.exec) (hb : c.code = cc) (hk : hK g s) (hw : hW g A s f z H locs) {i : Int32} {x : Option Nat} (h : hlQ f a i = some x) (hdg : decode cc pc = .ok (.aaload, 1))
    (kk : W p l e R s m args below meth c H locs cells slots Q (F0 m (pc + 1) ls (va_rf x :: rest))) : W p l e R s m args below meth c H locs cells slots Q (F0 m pc ls (.int i :: .ref a :: rest)) := by
  obtain ⟨⟨n, r⟩, h1, h2⟩ := Option.bind_eq_some_iff.mp h
  obtain ⟨h3, rfl⟩ := hif h2
  exact va_aldq hexec hb hk.1 (hw.P1 (hrQ_spec h1)) 0 2 rfl rfl (hinB_iff.mp h3) hdg kk
theorem hr_sI (hexec : p.tables.exec = Jvm.exec) (hb : c.code = cc) (hk : hK g s) (hw : hW g A s f z H locs) {i x : Int32} {f' : hPl} (h : hsI f a i x = some f') (hdg : decode cc pc = .ok (.iastore, 1))
    (kk : ∀ (H1 : Heap) (locs1 : List Loc), hW g A s f' z H1 locs1 → W p l e R s m args below meth c H1 locs1 cells slots Q (F0 m (pc + 1) ls rest)) : W p l e R s m args below meth c H locs cells slots Q (F0 m pc ls (.int x :: .int i :: .ref a :: rest)) := by
  obtain ⟨⟨n, r⟩, h1, h2⟩ := Option.bind_eq_some_iff.mp h
  obtain ⟨h3, rfl⟩ := hif h2
  have hf := hrI_spec h1
  have hin := hinB_iff.mp h3
  have hat : H[a]? = some (vp_cell g.2.2.1 (n, .inl r)) := (hw.2.1 a _ hf).1
  refine W.iast hexec hb hat ((hk.1.2 0 _ rfl).1 n (fun j => .int (r j))) (fun q => by cases q) (by show ¬ (i < 0 ∨ (arrV _ _ _).slots.size ≤ _); rw [arrV_size]; exact hin) rfl rfl hdg fun H1 e z oq => ?_
  refine kk H1 _ (hw.upd hf z oq ?_)
  show H1[a]? = some (arrV g.2.2.1 n (fun j => .int (upd r i.toNatClampNeg x j)))
  rw [e]
  rw [vp_cell_i]
  show some (Cell.setSlot (arrV _ _ _) _ _) = _
  rw [arrV_store]
  congr 2
  funext q
  by_cases hq : q = i.toNatClampNeg
  · subst hq
    simp [updV, upd]
  · simp [updV, upd, hq]
theorem hr_sJ (hexec : p.tables.exec = Jvm.exec) (hb : c.code = cc) (hk : hK g s) (hw : hW g A s f z H locs) {i : Int32} {x : Int64} {f' : hPl} (h : hsJ f a i x = some f') (hdg : decode cc pc = .ok (.lastore, 1))
    (kk : ∀ (H1 : Heap) (locs1 : List Loc), hW g A s f' z H1 locs1 → W p l e R s m args below meth c H1 locs1 cells slots Q (F0 m (pc + 1) ls rest)) : W p l e R s m args below meth c H locs cells slots Q (F0 m pc ls (.long x :: .int i :: .ref a :: rest)) := by
  obtain ⟨⟨n, r⟩, h1, h2⟩ := Option.bind_eq_some_iff.mp h
  obtain ⟨h3, rfl⟩ := hif h2
  have hf := hrJ_spec h1
  have hin := hinB_iff.mp h3
  have hat : H[a]? = some (vp_cell g.2.2.2.1 (n, .inr (.inl r))) := (hw.2.1 a _ hf).1
  refine W.last hexec hb hat ((hk.1.2 1 _ rfl).1 n (fun j => .long (r j))) (fun q => by cases q) (by show ¬ (i < 0 ∨ (arrV _ _ _).slots.size ≤ _); rw [arrV_size]; exact hin) rfl rfl hdg fun H1 e z oq => ?_
  refine kk H1 _ (hw.upd hf z oq ?_)
  show H1[a]? = some (arrV g.2.2.2.1 n (fun j => .long (vp_updL r i.toNatClampNeg x j)))
  rw [e]
  rw [vp_cell_l]
  show some (Cell.setSlot (arrV _ _ _) _ _) = _
  rw [arrV_store]
  congr 2
  funext q
  by_cases hq : q = i.toNatClampNeg
  · subst hq
    simp [updV, vp_updL]
  · simp [updV, vp_updL, hq]
theorem hr_sN (hexec : p.tables.exec = Jvm.exec) (hb : c.code = cc) (hk : hK g s) (hw : hW g A s f z H locs) {i : Int32} {f' : hPl} (h : hsQ f a i none = some f') (hdg : decode cc pc = .ok (.aastore, 1))
    (kk : ∀ (H1 : Heap) (locs1 : List Loc), hW g A s f' z H1 locs1 → W p l e R s m args below meth c H1 locs1 cells slots Q (F0 m (pc + 1) ls rest)) : W p l e R s m args below meth c H locs cells slots Q (F0 m pc ls (.null :: .int i :: .ref a :: rest)) := by
  obtain ⟨⟨n, r⟩, h1, h2⟩ := Option.bind_eq_some_iff.mp h
  obtain ⟨h3, rfl⟩ := hif h2
  have hf := hrQ_spec h1
  have hin := hinB_iff.mp h3
  have hat : H[a]? = some (vp_cell g.2.2.2.2 (n, .inr (.inr (.inr (.inr r))))) := (hw.2.1 a _ hf).1
  refine va_WaastN (C := "SetterBench$Thing") hexec hb hat ((hk.1.2 2 _ rfl).1 n (fun j => va_rf (r j))) (fun h => by cases h) (by show ¬ (i < 0 ∨ (arrV _ _ _).slots.size ≤ _); rw [arrV_size]; exact hin) rfl rfl hdg fun H1 e z oq => ?_
  refine kk H1 _ (hw.upd hf z oq ?_)
  show H1[a]? = some (arrV g.2.2.2.2 n (fun j => va_rf (va_up r i.toNatClampNeg none j)))
  rw [e]
  rw [vp_cell_q]
  show some (Cell.setSlot (arrV _ _ _) _ _) = _
  rw [arrV_store]
  congr 2
  funext q
  by_cases hq : q = i.toNatClampNeg
  · subst hq
    simp [updV, va_up, va_rf]
  · simp [updV, va_up, hq]
/-- a Lamp or a Tray lies at a: it may lie in a row of Things -/
theorem hany (hk : hK g s) (hw : hW g A s f z H locs) {a ci : Nat} (hc : hkd f a = some ci) (h2 : ci = 0 ∨ ci = 1) : va_Any RX1 s H a := by
  obtain ⟨fs, h1⟩ := hkd_spec hc
  rcases h2 with rfl | rfl
  · refine va_rAny hk.1 (hw.P1 h1) (q0 := 0) rfl (r := (RX0, TX0, 2)) rfl (fun comp c0 g1 g2 => ?_)
    obtain ⟨c1, t1, f1, f2, f3⟩ := Cond.castable_spec (args := #[]) (va_Nw.use (A := #[]) rfl hk.2.2.2.2.1)
    cases g2.symm.trans f1
    cases g1.symm.trans f2
    exact f3
  · refine va_rAny hk.1 (hw.P1 h1) (q0 := 0) rfl (r := (RX2, TX2, 2)) rfl (fun comp c0 g1 g2 => ?_)
    obtain ⟨c1, t1, f1, f2, f3⟩ := Cond.castable_spec (args := #[]) (va_Nw.use (A := #[]) rfl hk.2.2.2.2.2.1)
    cases g2.symm.trans f1
    cases g1.symm.trans f2
    exact f3
/-- what may lie in a row of Things: nothing, a Lamp, a Tray -/
def hth (f : hPl) (v : Option Nat) : Option Unit := match v with
  | none => some ()
  | some a => (hkd f a).bind fun ci => if ci = 0 ∨ ci = 1 then some () else none
theorem hr_sQ (hexec : p.tables.exec = Jvm.exec) (hb : c.code = cc) (hk : hK g s) (hw : hW g A s f z H locs) {i : Int32} {v : Option Nat} {u : Unit} (hv : hth f v = some u) {f' : hPl} (h : hsQ f a i v = some f') (hdg : decode cc pc = .ok (.aastore, 1))
    (kk : ∀ (H1 : Heap) (locs1 : List Loc), hW g A s f' z H1 locs1 → W p l e R s m args below meth c H1 locs1 cells slots Q (F0 m (pc + 1) ls rest)) : W p l e R s m args below meth c H locs cells slots Q (F0 m pc ls (va_rf v :: .int i :: .ref a :: rest)) := by
  cases v with
  | none => exact hr_sN hexec hb hk hw h hdg kk
  | some v =>
    obtain ⟨ci, hc, h9⟩ := Option.bind_eq_some_iff.mp hv
    have hci : ci = 0 ∨ ci = 1 := (hif h9).1
    obtain ⟨cellV, g1, g3, ⟨kC, hkC⟩, hasg⟩ := hany hk hw hc hci
    obtain ⟨⟨n, r⟩, h1, h2⟩ := Option.bind_eq_some_iff.mp h
    obtain ⟨h3, rfl⟩ := hif h2
    have hf := hrQ_spec h1
    have hin := hinB_iff.mp h3
    have hlt : i.toNatClampNeg < n := Nat.not_le.mp fun q => hin (Or.inr q)
    have h0 : ¬ i < 0 := fun q => hin (Or.inl q)
    have hat : H[a]? = some (vp_cell g.2.2.2.2 (n, .inr (.inr (.inr (.inr r))))) := (hw.2.1 a _ hf).1
    obtain ⟨kA, comp, k1, k2, k3, -⟩ := (hk.1.2 2 _ rfl).2
    obtain ⟨kE, hkE, -⟩ := Vm.findClass_spec k3
    refine W.aast hexec hb hat (fun q h => by cases h) (fun h => by cases h) k1 k2 rfl hkE ⟨h0, by show _ < (arrV _ _ _).slots.size; rw [arrV_size]; exact hlt⟩ g1 (fun q h => by rw [h] at g3; cases g3) hkC (hasg _ k3) rfl rfl hdg fun H1 e z oq => ?_
    refine kk H1 _ (hw.upd hf z oq ?_)
    show H1[a]? = some (arrV g.2.2.2.2 n (fun j => va_rf (va_up r i.toNatClampNeg (some v) j)))
    rw [e]
    rw [vp_cell_q]
    show some (Cell.setSlot (arrV _ _ _) _ _) = _
    rw [arrV_store]
    congr 2
    funext q
    by_cases hq : q = i.toNatClampNeg
    · subst hq
      simp [updV, va_up, va_rf]
    · simp [updV, va_up, hq]
theorem hr_len (hexec : p.tables.exec = Jvm.exec) (hb : c.code = cc) (hk : hK g s) (hw : hW g A s f z H locs) {x : Int32} (h : hln f a = some x) (hdg : decode cc pc = .ok (.arraylength, 1))
    (kk : W p l e R s m args below meth c H locs cells slots Q (F0 m (pc + 1) ls (.int x :: rest))) : W p l e R s m args below meth c H locs cells slots Q (F0 m pc ls (.ref a :: rest)) := by
  unfold hln at h
  cases hf : f a with
  | none => rw [hf] at h; cases h
  | some e =>
    rw [hf] at h
    cases e with
    | inr o => cases h
    | inl y =>
      obtain ⟨t, y⟩ := y
      obtain ⟨h3, rfl⟩ := hif h
      match t, h3 with
      | 0, _ => exact va_alen hexec hb hk.1 (hw.P1 hf) 0 0 rfl rfl rfl hdg kk
      | 1, _ => exact va_alen hexec hb hk.1 (hw.P1 hf) 0 1 rfl rfl rfl hdg kk
      | 2, _ => exact va_alen hexec hb hk.1 (hw.P1 hf) 0 2 rfl rfl rfl hdg kk
      | t + 3, h => exact absurd h (by simp)
end HR
