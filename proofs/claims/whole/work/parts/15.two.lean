section HT
variable {g : hGb} {p : Program} {l : Launch} {e : Env} {R : Room} {s : State} {m : MethodId} {args : Array Value} {below : List Frame} {meth : Method} {c : Code} {H : Heap} {locs : List Loc} {cells slots : Nat} {Q : State → Prop}
variable {cc : ByteArray} {pc : Nat} {ls : Array Slot} {rest : List Value} {A : Nat → Prop} {f f2 : hPl} {z a : Nat}
variable {own : String} {index : Nat} {y : MethodName} {bytes : ByteArray} {maxL nL fr mc ms n : Nat} {ret : Option FieldType} {ws ws' Ts : List Cond} {As st0 : List Value} {o : Option Value} {f' : hPl} {z' : Nat}
theorem hW.lt (h : hW g A s f z H locs) {a : Nat} {e : hCe} (ha : f a = some e) : a < z := by
  have h1 := (h.2.1 a e ha).1.lt
  rw [h.1] at h1
  exact h1
theorem hW.part (h : hW g A s f z H locs) {f1 : hPl} (hs : ∀ a e, f1 a = some e → f a = some e) : hW g A s f1 z H locs := ⟨h.1, fun a e ha => h.2.1 a e (hs a e ha), h.2.2⟩
theorem h_call2 {av : Array Value} (hr : va_Run p l e R s m args below meth c H locs cells slots mc ms (F0 m pc ls st0) rest (hQ g (hA f z) o f' z' av) (hA f z)) (hw : hW g A s f z H locs) (hw2 : hW g A s f2 z H locs) (hdis : ∀ a, f a ≠ none → f2 a = none)
    (kk : ∀ (H1 : Heap) (locs1 : List Loc), hW g A s f' z' H1 locs1 → hW g A s f2 z' H1 locs1 → (∀ a, f' a ≠ none → f2 a = none) → W p l e R s m args below meth c H1 locs1 (cells + mc) (slots + ms) Q (F0 m (pc + 3) ls (o.toList ++ rest))) : W p l e R s m args below meth c H locs cells slots Q (F0 m pc ls st0) := by
  intro T hT X
  obtain ⟨v, st₀, t, T', L, h0, X', hL, e1, e2, ⟨hv, ⟨hz', hp'⟩, hz, hkp⟩, st⟩ := hr T hT X
  cases hv
  rw [h0] at hz hkp
  have hlt2 : ∀ a e, f2 a = some e → a < z := fun a e h => hw2.lt h
  have hout : ∀ a e, f2 a = some e → ¬ hA f z a := by
    intro a e h hq
    rcases hq with hq | hq
    · have h9 := hdis a (fun h9 => by rw [h9] at hq; cases hq)
      rw [h9] at h; cases h
    · have := hlt2 a e h; omega
  obtain ⟨hwz, hwp, hS, hA0⟩ := hw
  have hAA : ∀ q, hA f z q → A q := by
    intro q hq
    rcases hq with hq | hq
    · cases hf : f q with
      | none => rw [hf] at hq; cases hq
      | some e => exact (hwp q e hf).2
    · exact hA0 q (Nat.le_trans hS.1 (by rw [hwz]; exact hq))
  have hS' : va_S A s.heap T'.heap (locs ++ L) := ⟨Nat.le_trans hS.1 (by rw [e1]; exact hz), fun q h1 h2 => by rw [e1, hkp q (Nat.lt_of_lt_of_le h1 hS.1) (fun z => h2 (hAA q z))]; exact hS.2.1 q h1 h2, fun q hq => by
      rcases List.mem_append.mp hq with h | h
      · exact hS.2.2 q h
      · exact hAA _ (hL q h)⟩
  obtain ⟨t2, a1, b1⟩ := kk T'.heap (locs ++ L) ⟨by rw [e1]; exact hz', fun a e h => ⟨by rw [e1]; exact (hp' a e h).1, hAA a (hp' a e h).2⟩, hS', hA0⟩
    ⟨by rw [e1]; exact hz', fun a e h => ⟨(hw2.2.1 a e h).1.kept (by rw [e1]; exact hkp a (by rw [hwz]; exact hlt2 a e h) (hout a e h)), (hw2.2.1 a e h).2⟩, hS', hA0⟩
    (fun a ha => by
      cases hf : f' a with
      | none => exact absurd hf ha
      | some e =>
        cases hf2 : f2 a with
        | none => rfl
        | some e2 => exact absurd (hp' a e hf).2 (hout a e2 hf2)) T' rfl X'
  exact ⟨t2, st t2 a1, b1⟩
theorem hcallV2 (hx : p.tables.exec = Jvm.exec) (hb : c.code = cc) (hml : c.maxLocals = nL) (hown : s.vm.findClass own = some m.cls) (hts : ∀ w ∈ Ts, w.before args s = true) (hk : hK g s) {b : Nat} (As rest : List Value) (hM : hCt l g y ws fr mc ms (.ref b :: As) f z o f' z') {C : String} (hG : GoodIn Ts (wsV own index C y ws)) (hw0 : ws = Cond.code y bytes maxL ret :: ws')
    (hn : As.length = n) (hd : y.cls = C ∧ y.cls ≠ "java/lang/invoke/MethodHandle" ∧ y.cls ≠ "java/lang/invoke/VarHandle" ∧ (parseMethodDescriptor y.desc).map (fun d => d.parameters.length) = some n) (hR : fr + 1 ≤ R.frames ∧ 8 + (maxL + 11) + 40 * fr ≤ R.locals) {ci : Nat} {T : u_T} {N : Nat} (hc : vwCl[ci]? = some (C, T, N)) {u : Unit} (ho : hob f b ci = some u) (hw : hW g A s f z H locs) (hw2 : hW g A s f2 z H locs) (hdis : ∀ a, f a ≠ none → f2 a = none)
    (hs : ls.size = nL) (hst : st0 = As.reverse ++ .ref b :: rest) (hcat : (rest.map fun v => v.category).sum ≤ 8) (hdg : decode cc pc = .ok (.invokevirtual index, 3)) (hf : cells + mc ≤ R.cells ∧ slots + ms ≤ R.slots)
    (kk : ∀ (H1 : Heap) (locs1 : List Loc), hW g A s f' z' H1 locs1 → hW g A s f2 z' H1 locs1 → (∀ a, f' a ≠ none → f2 a = none) → W p l e R s m args below meth c H1 locs1 (cells + mc) (slots + ms) Q (F0 m (pc + 3) ls (o.toList ++ rest))) : W p l e R s m args below meth c H locs cells slots Q (F0 m pc ls st0) :=
  h_call2 (va_runV (As := As) (rest := rest) ⟨hx, hb, hml, hown, hts⟩ hM (cwV n hts hG hw0 rfl rfl hd hR) (hpreV hk hw hc ho) rfl hn hs hst (lv_room hcat) hdg hf) hw hw2 hdis kk
theorem hcallI2 (hx : p.tables.exec = Jvm.exec) (hb : c.code = cc) (hml : c.maxLocals = nL) (hown : s.vm.findClass own = some m.cls) (hts : ∀ w ∈ Ts, w.before args s = true) (hk : hK g s) {b : Nat} (As rest : List Value) (hM : hCt l g y ws fr mc ms (.ref b :: As) f z o f' z') (hG : GoodIn Ts ws) (hw0 : ws = Cond.code y bytes maxL none :: ws') (hini : (Cond.initialized y.cls).before args s = true) (hl : (Cond.methodLink own index y).before args s = true) (hin : (Cond.instanceMethod y).before args s = true)
    (hn : As.length = n) (hd : y.cls ≠ "java/lang/invoke/MethodHandle" ∧ y.cls ≠ "java/lang/invoke/VarHandle" ∧ (parseMethodDescriptor y.desc).map (fun d => d.parameters.length) = some n) (hy1 : y.name = "<init>") (hR : fr + 1 ≤ R.frames ∧ 8 + (maxL + 11) + 40 * fr ≤ R.locals) (hw : hW g A s f z H locs) (hw2 : hW g A s f2 z H locs) (hdis : ∀ a, f a ≠ none → f2 a = none)
    (hs : ls.size = nL) (hst : st0 = As.reverse ++ .ref b :: rest) (hcat : (rest.map fun v => v.category).sum ≤ 8) (hdg : decode cc pc = .ok (.invokespecial index, 3)) (hf : cells + mc ≤ R.cells ∧ slots + ms ≤ R.slots)
    (kk : ∀ (H1 : Heap) (locs1 : List Loc), hW g A s f' z' H1 locs1 → hW g A s f2 z' H1 locs1 → (∀ a, f' a ≠ none → f2 a = none) → W p l e R s m args below meth c H1 locs1 (cells + mc) (slots + ms) Q (F0 m (pc + 3) ls (o.toList ++ rest))) : W p l e R s m args below meth c H locs cells slots Q (F0 m pc ls st0) :=
  h_call2 (va_runI (As := As) (rest := rest) ⟨hx, hb, hml, hown, hts⟩ hM (cwI n hts hG hw0 rfl rfl hini hl hin hy1 hd hR) (hpre hk hw) rfl hn hs hst (lv_room hcat) hdg hf) hw hw2 hdis kk
end HT
/-- what a pair of objects must keep, step by step: the law's whole content, over the pool -/
abbrev hInv : Type := Nat → Nat → hPl → Nat → hPl → Prop
def hBelow (fx : hPl) (z : Nat) : Prop := ∀ a e, fx a = some e → a < z
def hS3 (I : hInv) (F : hPl → Nat → Nat → Int32 → Int32 → Int32 → Option (Int32 × hPl × Nat)) (G : hPl → Nat → Nat → Int32 → Int32 → Int32 → Option (Int32 × hPl × Nat)) : Prop := ∀ i z qx fx qm fm p1 p2 p3, i < 512 → hBelow fx z → I i qx fx qm fm → ∃ r fx' z1 fm' z2, F fx z qx p1 p2 p3 = some (r, fx', z1) ∧ G fm z1 qm p1 p2 p3 = some (r, fm', z2) ∧ I (i + 1) qx fx' qm fm'
def hS2 (I : hInv) (F : hPl → Nat → Nat → Int32 → Int32 → Option (Int32 × hPl × Nat)) (G : hPl → Nat → Nat → Int32 → Int32 → Option (Int32 × hPl × Nat)) : Prop := ∀ i z qx fx qm fm p1 p2, i < 512 → hBelow fx z → I i qx fx qm fm → ∃ r fx' z1 fm' z2, F fx z qx p1 p2 = some (r, fx', z1) ∧ G fm z1 qm p1 p2 = some (r, fm', z2) ∧ I (i + 1) qx fx' qm fm'
def hS5 (I : hInv) (F : hPl → Nat → Nat → Int32 → Int32 → Int32 → Int32 → Int32 → Option (Int32 × hPl × Nat)) (G : hPl → Nat → Nat → Int32 → Int32 → Int32 → Int32 → Int32 → Option (Int32 × hPl × Nat)) : Prop := ∀ i z qx fx qm fm p1 p2 p3 p4 p5, i < 512 → hBelow fx z → I i qx fx qm fm → ∃ r fx' z1 fm' z2, F fx z qx p1 p2 p3 p4 p5 = some (r, fx', z1) ∧ G fm z1 qm p1 p2 p3 p4 p5 = some (r, fm', z2) ∧ I (i + 1) qx fx' qm fm'
def hS0 (I : hInv) (F : hPl → Nat → Nat → Option (Int32 × hPl × Nat)) (G : hPl → Nat → Nat → Option (Int32 × hPl × Nat)) : Prop := ∀ i z qx fx qm fm, i < 512 → hBelow fx z → I i qx fx qm fm → ∃ r fx' z1 fm' z2, F fx z qx = some (r, fx', z1) ∧ G fm z1 qm = some (r, fm', z2) ∧ I (i + 1) qx fx' qm fm'
def hS1 (I : hInv) (F : hPl → Nat → Nat → Int32 → Option (Int32 × hPl × Nat)) (G : hPl → Nat → Nat → Int32 → Option (Int32 × hPl × Nat)) : Prop := ∀ i z qx fx qm fm p1, i < 512 → hBelow fx z → I i qx fx qm fm → ∃ r fx' z1 fm' z2, F fx z qx p1 = some (r, fx', z1) ∧ G fm z1 qm p1 = some (r, fm', z2) ∧ I (i + 1) qx fx' qm fm'
def hR1 (I : hInv) (F G : hPl → Nat → Int32 → Option Int32) : Prop := ∀ i qx fx qm fm p1, I i qx fx qm fm → ∃ r, F fx qx p1 = some r ∧ G fm qm p1 = some r
def hR2 {α : Type} (I : hInv) (F G : hPl → Nat → Int32 → Int32 → Option α) : Prop := ∀ i qx fx qm fm p1 p2, I i qx fx qm fm → ∃ r, F fx qx p1 p2 = some r ∧ G fm qm p1 p2 = some r
abbrev hN : hPl := fun _ => none
abbrev hB0 : List Value := [.null, .null, .null, .null, .int 0, .int 0, .int 0, .int 0, .int 0, .int 0, .int 0]
abbrev hM0 : List Value := [.null, .null, .null, .null, .null, .null, .null, .int 0, .null]
def hAll (I : hInv) : Prop :=
  (∀ z, ∃ fx1 z1, fX3_init (hup hN z (oC 2 hB0)) (z + 1) z = some ((), fx1, z1) ∧ ∀ y, ∃ fm1 y1, fX4_init (hup hN y (oC 3 hM0)) (y + 1) y = some ((), fm1, y1) ∧ I 0 z fx1 y fm1) ∧
  (∀ i qx fx qm fm, I i qx fx qm fm → I (i + 1) qx fx qm fm) ∧ (∀ i qx fx qm fm, I i qx fx qm fm → hob fx qx 2 = some () ∧ hob fm qm 3 = some ()) ∧
  hS3 I fX3_lay fX4_lay ∧ hS2 I fX3_share fX4_share ∧ hS3 I fX3_set fX4_set ∧ hS3 I fX3_put fX4_put ∧ hS5 I fX3_sweep fX4_sweep ∧ hS0 I fX3_back fX4_back ∧ hS1 I fX3_light fX4_light ∧ hR2 I fX3_member fX4_member ∧ hR2 I fX3_thing fX4_thing ∧ hR1 I fX3_worth fX4_worth ∧ hR2 I fX3_mirror fX4_mirror ∧ hR1 I fX3_count fX4_count
