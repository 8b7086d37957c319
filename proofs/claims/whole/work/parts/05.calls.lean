section HC
variable {g : hGb} {p : Program} {l : Launch} {e : Env} {R : Room} {s : State} {m : MethodId} {args : Array Value} {below : List Frame} {meth : Method} {c : Code} {H : Heap} {locs : List Loc} {cells slots : Nat} {Q : State → Prop}
variable {cc : ByteArray} {pc : Nat} {ls : Array Slot} {rest : List Value} {A : Nat → Prop} {f : hPl} {z a : Nat}
variable {own : String} {index : Nat} {y : MethodName} {bytes : ByteArray} {maxL nL fr mc ms n : Nat} {ret : Option FieldType} {ws ws' Ts : List Cond} {As st0 : List Value} {o : Option Value} {f' : hPl} {z' : Nat}
theorem hcallV (hx : p.tables.exec = Jvm.exec) (hb : c.code = cc) (hml : c.maxLocals = nL) (hown : s.vm.findClass own = some m.cls) (hts : ∀ w ∈ Ts, w.before args s = true) (hk : hK g s) {b : Nat} (As rest : List Value) (hM : hCt l g y ws fr mc ms (.ref b :: As) f z o f' z') {C : String} (hG : GoodIn Ts (wsV own index C y ws)) (hw0 : ws = Cond.code y bytes maxL ret :: ws')
    (hn : As.length = n) (hd : y.cls = C ∧ y.cls ≠ "java/lang/invoke/MethodHandle" ∧ y.cls ≠ "java/lang/invoke/VarHandle" ∧ (parseMethodDescriptor y.desc).map (fun d => d.parameters.length) = some n) (hR : fr + 1 ≤ R.frames ∧ 8 + (maxL + 11) + 40 * fr ≤ R.locals) {ci : Nat} {T : u_T} {N : Nat} (hc : vwCl[ci]? = some (C, T, N)) {u : Unit} (ho : hob f b ci = some u) (hw : hW g A s f z H locs)
    (hs : ls.size = nL) (hst : st0 = As.reverse ++ .ref b :: rest) (hcat : (rest.map fun v => v.category).sum ≤ 8) (hdg : decode cc pc = .ok (.invokevirtual index, 3)) (hf : cells + mc ≤ R.cells ∧ slots + ms ≤ R.slots)
    (kk : ∀ (H1 : Heap) (locs1 : List Loc), hW g A s f' z' H1 locs1 → W p l e R s m args below meth c H1 locs1 (cells + mc) (slots + ms) Q (F0 m (pc + 3) ls (o.toList ++ rest))) : W p l e R s m args below meth c H locs cells slots Q (F0 m pc ls st0) :=
  h_call (va_runV (As := As) (rest := rest) ⟨hx, hb, hml, hown, hts⟩ hM (cwV n hts hG hw0 rfl rfl hd hR) (hpreV hk hw hc ho) rfl hn hs hst (lv_room hcat) hdg hf) hw kk
theorem hcallS (hx : p.tables.exec = Jvm.exec) (hb : c.code = cc) (hml : c.maxLocals = nL) (hown : s.vm.findClass own = some m.cls) (hts : ∀ w ∈ Ts, w.before args s = true) (hk : hK g s) (As rest : List Value) (hM : hCt l g y ws fr mc ms As f z o f' z') (hG : GoodIn Ts (va_wsS own index y ws)) (hw0 : ws = Cond.code y bytes maxL ret :: ws')
    (hn : As.length = n) (hd : y.cls ≠ "java/lang/invoke/MethodHandle" ∧ y.cls ≠ "java/lang/invoke/VarHandle" ∧ (parseMethodDescriptor y.desc).map (fun d => d.parameters.length) = some n) (hR : fr + 1 ≤ R.frames ∧ 8 + (maxL + 11) + 40 * fr ≤ R.locals) (hw : hW g A s f z H locs)
    (hs : ls.size = nL) (hst : st0 = As.reverse ++ rest) (hcat : (rest.map fun v => v.category).sum ≤ 8) (hdg : decode cc pc = .ok (.invokestatic index, 3)) (hf : cells + mc ≤ R.cells ∧ slots + ms ≤ R.slots)
    (kk : ∀ (H1 : Heap) (locs1 : List Loc), hW g A s f' z' H1 locs1 → W p l e R s m args below meth c H1 locs1 (cells + mc) (slots + ms) Q (F0 m (pc + 3) ls (o.toList ++ rest))) : W p l e R s m args below meth c H locs cells slots Q (F0 m pc ls st0) :=
  h_call (va_runS (As := As) (rest := rest) ⟨hx, hb, hml, hown, hts⟩ hM (va_cwS n hts hG hw0 rfl rfl hd hR) (hpre hk hw) rfl hn hs hst (lv_room hcat) hdg hf) hw kk
theorem hcallI (hx : p.tables.exec = Jvm.exec) (hb : c.code = cc) (hml : c.maxLocals = nL) (hown : s.vm.findClass own = some m.cls) (hts : ∀ w ∈ Ts, w.before args s = true) (hk : hK g s) {b : Nat} (As rest : List Value) (hM : hCt l g y ws fr mc ms (.ref b :: As) f z o f' z') (hG : GoodIn Ts ws) (hw0 : ws = Cond.code y bytes maxL none :: ws') (hini : (Cond.initialized y.cls).before args s = true) (hl : (Cond.methodLink own index y).before args s = true) (hin : (Cond.instanceMethod y).before args s = true)
    (hn : As.length = n) (hd : y.cls ≠ "java/lang/invoke/MethodHandle" ∧ y.cls ≠ "java/lang/invoke/VarHandle" ∧ (parseMethodDescriptor y.desc).map (fun d => d.parameters.length) = some n) (hy1 : y.name = "<init>") (hR : fr + 1 ≤ R.frames ∧ 8 + (maxL + 11) + 40 * fr ≤ R.locals) (hw : hW g A s f z H locs)
    (hs : ls.size = nL) (hst : st0 = As.reverse ++ .ref b :: rest) (hcat : (rest.map fun v => v.category).sum ≤ 8) (hdg : decode cc pc = .ok (.invokespecial index, 3)) (hf : cells + mc ≤ R.cells ∧ slots + ms ≤ R.slots)
    (kk : ∀ (H1 : Heap) (locs1 : List Loc), hW g A s f' z' H1 locs1 → W p l e R s m args below meth c H1 locs1 (cells + mc) (slots + ms) Q (F0 m (pc + 3) ls (o.toList ++ rest))) : W p l e R s m args below meth c H locs cells slots Q (F0 m pc ls st0) :=
  h_call (va_runI (As := As) (rest := rest) ⟨hx, hb, hml, hown, hts⟩ hM (cwI n hts hG hw0 rfl rfl hini hl hin hy1 hd hR) (hpre hk hw) rfl hn hs hst (lv_room hcat) hdg hf) hw kk
theorem hcallSN (hx : p.tables.exec = Jvm.exec) (hb : c.code = cc) (hml : c.maxLocals = nL) (hown : s.vm.findClass own = some m.cls) (hts : ∀ w ∈ Ts, w.before args s = true) (hk : hK g s) (As rest : List Value) (hM : hCt l g y ws fr mc ms As f z o f' z') (hG : GoodIn Ts ws) (hw0 : ws = Cond.code y bytes maxL ret :: ws') {host : String} (hl : va_Nw (.methodLinkNest own index y host) s) (hini : (Cond.initialized y.cls).before args s = true) (hstt : (Cond.static y).before args s = true)
    (hn : As.length = n) (hd : y.cls ≠ "java/lang/invoke/MethodHandle" ∧ y.cls ≠ "java/lang/invoke/VarHandle" ∧ (parseMethodDescriptor y.desc).map (fun d => d.parameters.length) = some n) (hR : fr + 1 ≤ R.frames ∧ 8 + (maxL + 11) + 40 * fr ≤ R.locals) (hw : hW g A s f z H locs)
    (hs : ls.size = nL) (hst : st0 = As.reverse ++ rest) (hcat : (rest.map fun v => v.category).sum ≤ 8) (hdg : decode cc pc = .ok (.invokestatic index, 3)) (hf : cells + mc ≤ R.cells ∧ slots + ms ≤ R.slots)
    (kk : ∀ (H1 : Heap) (locs1 : List Loc), hW g A s f' z' H1 locs1 → W p l e R s m args below meth c H1 locs1 (cells + mc) (slots + ms) Q (F0 m (pc + 3) ls (o.toList ++ rest))) : W p l e R s m args below meth c H locs cells slots Q (F0 m pc ls st0) :=
  h_call (va_runSN (As := As) (rest := rest) ⟨hx, hb, hml, hown, hts⟩ hM ⟨va_cnB n hts hG hw0 rfl rfl hl hini hd hR, hstt, trivial⟩ (hpre hk hw) rfl hn hs hst (lv_room hcat) hdg hf) hw kk
/-- the sort of a Thing, be it a Lamp or a Tray -/
def hgT (f : hPl) (a : Nat) : Option Int32 := (hkd f a).bind fun ci => if ci = 0 ∨ ci = 1 then hgI f a ci 0 else none
def hputT (f : hPl) (a : Nat) (v : Int32) : Option hPl := (hkd f a).bind fun ci => if ci = 0 ∨ ci = 1 then hput f a ci 0 (.int v) else none
theorem hr_getT (hexec : p.tables.exec = Jvm.exec) (hb : c.code = cc) (hts : ∀ w ∈ Ts, w.before args s = true) (hin0 : ∀ w ∈ wsX00, w ∈ Ts) (hin2 : ∀ w ∈ wsX20, w ∈ Ts) (hown : s.vm.findClass own = some m.cls) (hk : hK g s) (hw : hW g A s f z H locs) (hlink : (Cond.fieldLink own index "SetterBench$Thing" "sort" "I").before args s = true) {x : Int32} (h : hgT f a = some x) (hdg : decode cc pc = .ok (.getfield index, 3))
    (kk : W p l e R s m args below meth c H locs cells slots Q (F0 m (pc + 3) ls (.int x :: rest))) : W p l e R s m args below meth c H locs cells slots Q (F0 m pc ls (.ref a :: rest)) := by
  obtain ⟨ci, h1, h2⟩ := Option.bind_eq_some_iff.mp h
  by_cases hc : ci = 0 ∨ ci = 1
  · rw [if_pos hc] at h2
    rcases hc with rfl | rfl
    · exact hr_getI (C := RX0) (T := TX0) (N := 2) hexec hb hts hin0 hown hk hw rfl 0 (by decide) hlink (fun _ h9 => h9) h2 hdg kk
    · exact hr_getI (C := RX2) (T := TX2) (N := 2) hexec hb hts hin2 hown hk hw rfl 0 (by decide) hlink (fun _ h9 => h9) h2 hdg kk
  · rw [if_neg hc] at h2; cases h2
theorem hr_putT (hexec : p.tables.exec = Jvm.exec) (hb : c.code = cc) (hts : ∀ w ∈ Ts, w.before args s = true) (hin0 : ∀ w ∈ wsX00, w ∈ Ts) (hin2 : ∀ w ∈ wsX20, w ∈ Ts) (hown : s.vm.findClass "SetterBench$Thing" = some m.cls) (hk : hK g s) (hw : hW g A s f z H locs) (hname : meth.name = "<init>") (hlink : (Cond.fieldLink "SetterBench$Thing" index "SetterBench$Thing" "sort" "I").before args s = true) {v : Int32} {f' : hPl} (h : hputT f a v = some f') (hdg : decode cc pc = .ok (.putfield index, 3))
    (kk : ∀ (H1 : Heap) (locs1 : List Loc), hW g A s f' z H1 locs1 → W p l e R s m args below meth c H1 locs1 cells slots Q (F0 m (pc + 3) ls rest)) : W p l e R s m args below meth c H locs cells slots Q (F0 m pc ls (.int v :: .ref a :: rest)) := by
  obtain ⟨ci, h1, h2⟩ := Option.bind_eq_some_iff.mp h
  by_cases hc : ci = 0 ∨ ci = 1
  · rw [if_pos hc] at h2
    rcases hc with rfl | rfl
    · exact hr_putF (C := RX0) (T := TX0) (N := 2) (ty := .int) hexec hb hts hin0 tyX0 tyX0_ok nmX0 hown hk hw rfl 0 (by decide) hlink (fun _ h9 => h9) rfl hname rfl (by decide +kernel) rfl rfl h2 hdg kk
    · exact hr_putF (C := RX2) (T := TX2) (N := 2) (ty := .int) hexec hb hts hin2 tyX2 tyX2_ok nmX2 hown hk hw rfl 0 (by decide) hlink (fun _ h9 => h9) rfl hname rfl (by decide +kernel) rfl rfl h2 hdg kk
  · rw [if_neg hc] at h2; cases h2
theorem hbd {α β : Type} {o : Option α} {k : α → Option β} {b : β} (h : o.bind k = some b) : ∃ a, o = some a ∧ k a = some b := Option.bind_eq_some_iff.mp h
end HC
