/-! THE POOL: what a method can reach, as one map from addresses to cells -/
abbrev hCe : Type := (Nat × vp_A) ⊕ (Nat × List Value)
abbrev hPl : Type := Nat → Option hCe
abbrev hGb : Type := (Nat → ClassId) × (Nat → Nat → Nat) × ClassId × ClassId × ClassId
abbrev hD (g : hGb) : va_G := (g.1, g.2.1)
abbrev hty (g : hGb) : List (ClassId × FieldType) := [(g.2.2.1, .int), (g.2.2.2.1, .long), (g.2.2.2.2, .object "SetterBench$Thing")]
def hcid (g : hGb) : Nat → ClassId := fun t => match t with
  | 0 => g.2.2.1
  | 1 => g.2.2.2.1
  | _ => g.2.2.2.2
def hE (g : hGb) (e : hCe) : va_E := match e with
  | .inl x => .inl (hcid g x.1, x.2)
  | .inr o => .inr o
def hup (f : hPl) (a : Nat) (e : hCe) : hPl := fun b => if b = a then some e else f b
theorem hup_s {f : hPl} {a : Nat} {e : hCe} : hup f a e a = some e := by simp [hup]
theorem hup_n {f : hPl} {a b : Nat} {e : hCe} (h : b ≠ a) : hup f a e b = f b := by simp [hup, h]
abbrev oC (ci : Nat) (fs : List Value) : hCe := .inr (ci, fs)
abbrev aI (n : Nat) (r : Nat → Int32) : hCe := .inl (0, n, .inl r)
abbrev aJ (n : Nat) (r : Nat → Int64) : hCe := .inl (1, n, .inr (.inl r))
abbrev aQ (n : Nat) (r : Nat → Option Nat) : hCe := .inl (2, n, .inr (.inr (.inr (.inr r))))
/-- what the tables say, as it goes from a caller to its callee -/
def hK (g : hGb) (U : State) : Prop := va_K (hD g) vwCl (hty g) U ∧ va_Nw (.methodLinkNest RX2 39 yX3_isRound RX3) U ∧ va_Nw (.castable RX0 RX0) U ∧ va_Nw (.castable RX2 RX2) U ∧ va_Nw (.castable RX0 RX1) U ∧ va_Nw (.castable RX2 RX1) U ∧ va_Nc RX0 RX2 U ∧ va_Nc RX2 RX0 U ∧ va_AO RX1 U
theorem hK.moved {g : hGb} {s U : State} (hW : s.WarmedH U.vm) (h : hK g s) : hK g U := by
  obtain ⟨h1, h2, h3, h4, h5, h6, h7, h8, h9⟩ := h
  exact ⟨h1.moved hW.alike, h2.warmM hW, h3.warmC hW, h4.warmC hW, h5.warmC hW, h6.warmC hW, h7.moved hW.alike, h8.moved hW.alike, h9.moved hW.alike⟩
theorem hK.same {g : hGb} {s U : State} (e : s.vm = U.vm) (h : hK g s) : hK g U := by
  have ha : s.vm.Alike U.vm := by rw [e]; exact Vm.Alike.refl _
  obtain ⟨h1, h2, h3, h4, h5, h6, h7, h8, h9⟩ := h
  exact ⟨h1.moved ha, va_Nw.same rfl e h2, va_Nw.same rfl e h3, va_Nw.same rfl e h4, va_Nw.same rfl e h5, va_Nw.same rfl e h6, h7.moved ha, h8.moved ha, h9.moved ha⟩
/-- the heap holds the pool; z is the heap's size; A the cells that may be written -/
def hW (g : hGb) (A : Nat → Prop) (s : State) (f : hPl) (z : Nat) (H : Heap) (locs : List Loc) : Prop :=
  H.size = z ∧ (∀ (a : Nat) (e : hCe), f a = some e → va_at (hD g) vwCl (a, hE g e) H ∧ A a) ∧ va_S A s.heap H locs ∧ ∀ q : Nat, s.heap.size ≤ q → A q
theorem hW.P1 {g : hGb} {A : Nat → Prop} {s : State} {f : hPl} {z : Nat} {H : Heap} {locs : List Loc} (h : hW g A s f z H locs) {a : Nat} {e : hCe} (ha : f a = some e) : va_P (hD g) vwCl [(a, hE g e)] H := by
  intro k q hk
  match k, hk with
  | 0, hk => cases hk; exact (h.2.1 a e ha).1
  | k + 1, hk => simp at hk
theorem hW.upd {g : hGb} {A : Nat → Prop} {s : State} {f : hPl} {z : Nat} {H H1 : Heap} {locs : List Loc} (h : hW g A s f z H locs) {a k : Nat} {e e' : hCe} (ha : f a = some e) (z1 : H1.size = H.size) (oq : ∀ q, q ≠ a → H1[q]? = H[q]?) (h1 : va_at (hD g) vwCl (a, hE g e') H1) : hW g A s (hup f a e') z H1 (locs ++ [⟨a, k⟩]) := by
  obtain ⟨hz, hp, hS, hA⟩ := h
  refine ⟨z1.trans hz, fun b x hb => ?_, hS.put z1 oq (hp a e ha).2, hA⟩
  by_cases hba : b = a
  · subst hba
    rw [hup_s] at hb
    cases hb
    exact ⟨h1, (hp b e ha).2⟩
  · rw [hup_n hba] at hb
    exact ⟨(hp b x hb).1.kept (oq b hba), (hp b x hb).2⟩
theorem hW.new {g : hGb} {A : Nat → Prop} {s : State} {f : hPl} {z : Nat} {H H1 : Heap} {locs : List Loc} (h : hW g A s f z H locs) {e' : hCe} (z1 : H1.size = z + 1) (oq : ∀ q, q < z → H1[q]? = H[q]?) (h1 : va_at (hD g) vwCl (z, hE g e') H1) : hW g A s (hup f z e') (z + 1) H1 locs := by
  obtain ⟨hz, hp, hS, hA⟩ := h
  have hle : s.heap.size ≤ z := by rw [← hz]; exact hS.1
  refine ⟨z1, fun b x hb => ?_, ⟨by omega, fun q g1 g2 => (oq q (by omega)).trans (hS.2.1 q g1 g2), hS.2.2⟩, hA⟩
  by_cases hba : b = z
  · subst hba
    rw [hup_s] at hb
    cases hb
    exact ⟨h1, hA _ hle⟩
  · rw [hup_n hba] at hb
    have hlt : b < H.size := (hp b x hb).1.lt
    exact ⟨(hp b x hb).1.kept (oq b (by omega)), (hp b x hb).2⟩
/-! reads and writes of the pool -/
def hgV (f : hPl) (a ci k : Nat) : Option Value := match f a with
  | some (.inr o) => if o.1 = ci then o.2[k]? else none
  | _ => none
theorem hgV_spec {f : hPl} {a ci k : Nat} {v : Value} (h : hgV f a ci k = some v) : ∃ fs, f a = some (oC ci fs) ∧ fs[k]? = some v := by
  unfold hgV at h
  cases hf : f a with
  | none => rw [hf] at h; cases h
  | some e =>
    rw [hf] at h
    cases e with
    | inl x => cases h
    | inr o =>
      obtain ⟨c, fs⟩ := o
      by_cases hc : c = ci
      · subst hc
        simp at h
        exact ⟨fs, rfl, h⟩
      · simp [hc] at h
def hvI : Value → Option Int32
  | .int x => some x
  | _ => none
def hvJ : Value → Option Int64
  | .long x => some x
  | _ => none
def hvQ : Value → Option (Option Nat)
  | .null => some none
  | .ref a => some (some a)
  | _ => none
theorem hvI_spec {v : Value} {x : Int32} (h : hvI v = some x) : v = .int x := by
  cases v <;> simp [hvI] at h
  rw [h]
theorem hvJ_spec {v : Value} {x : Int64} (h : hvJ v = some x) : v = .long x := by
  cases v <;> simp [hvJ] at h
  rw [h]
theorem hvQ_spec {v : Value} {x : Option Nat} (h : hvQ v = some x) : v = va_rf x := by
  cases v <;> simp [hvQ] at h
  all_goals (rw [← h]; rfl)
def hgI (f : hPl) (a ci k : Nat) : Option Int32 := (hgV f a ci k).bind hvI
def hgQ (f : hPl) (a ci k : Nat) : Option (Option Nat) := (hgV f a ci k).bind hvQ
theorem hgI_spec {f : hPl} {a ci k : Nat} {x : Int32} (h : hgI f a ci k = some x) : ∃ fs, f a = some (oC ci fs) ∧ fs[k]? = some (.int x) := by
  obtain ⟨v, h1, h2⟩ := Option.bind_eq_some_iff.mp h
  obtain ⟨fs, h3, h4⟩ := hgV_spec h1
  exact ⟨fs, h3, by rw [h4, hvI_spec h2]⟩
theorem hgQ_spec {f : hPl} {a ci k : Nat} {x : Option Nat} (h : hgQ f a ci k = some x) : ∃ fs, f a = some (oC ci fs) ∧ fs[k]? = some (va_rf x) := by
  obtain ⟨v, h1, h2⟩ := Option.bind_eq_some_iff.mp h
  obtain ⟨fs, h3, h4⟩ := hgV_spec h1
  exact ⟨fs, h3, by rw [h4, hvQ_spec h2]⟩
def hput (f : hPl) (a ci k : Nat) (v : Value) : Option hPl := match f a with
  | some (.inr o) => if o.1 = ci ∧ k < o.2.length then some (hup f a (.inr (ci, o.2.set k v))) else none
  | _ => none
theorem hput_spec {f f' : hPl} {a ci k : Nat} {v : Value} (h : hput f a ci k v = some f') : ∃ fs, f a = some (oC ci fs) ∧ k < fs.length ∧ f' = hup f a (oC ci (fs.set k v)) := by
  unfold hput at h
  cases hf : f a with
  | none => rw [hf] at h; cases h
  | some e =>
    rw [hf] at h
    cases e with
    | inl x => cases h
    | inr o =>
      obtain ⟨c, fs⟩ := o
      by_cases hc : c = ci ∧ k < fs.length
      · obtain ⟨rfl, hk⟩ := hc
        simp [hk] at h
        exact ⟨fs, rfl, hk, h.symm⟩
      · simp at h
        exact absurd ⟨h.1.1, h.1.2⟩ hc
/-- an object of the kind ci lies at a -/
def hob (f : hPl) (a ci : Nat) : Option Unit := match f a with
  | some (.inr o) => if o.1 = ci then some () else none
  | _ => none
theorem hob_spec {f : hPl} {a ci : Nat} {u : Unit} (h : hob f a ci = some u) : ∃ fs, f a = some (oC ci fs) := by
  unfold hob at h
  cases hf : f a with
  | none => rw [hf] at h; cases h
  | some e =>
    rw [hf] at h
    cases e with
    | inl x => cases h
    | inr o =>
      obtain ⟨c, fs⟩ := o
      by_cases hc : c = ci
      · subst hc; exact ⟨fs, rfl⟩
      · simp [hc] at h
/-- which kind of object lies at a -/
def hkd (f : hPl) (a : Nat) : Option Nat := match f a with
  | some (.inr o) => some o.1
  | _ => none
theorem hkd_spec {f : hPl} {a ci : Nat} (h : hkd f a = some ci) : ∃ fs, f a = some (oC ci fs) := by
  unfold hkd at h
  cases hf : f a with
  | none => rw [hf] at h; cases h
  | some e =>
    rw [hf] at h
    cases e with
    | inl x => cases h
    | inr o =>
      obtain ⟨c, fs⟩ := o
      simp at h
      subst h
      exact ⟨fs, rfl⟩
def hin (i : Int32) (n : Nat) : Prop := ¬ (i < 0 ∨ n ≤ i.toNatClampNeg)
def hinB (i : Int32) (n : Nat) : Bool := decide (¬ (i < 0 ∨ n ≤ i.toNatClampNeg))
theorem hinB_iff {i : Int32} {n : Nat} : hinB i n = true ↔ vp_in i n := by simp [hinB, vp_in]
def hrI (f : hPl) (a : Nat) : Option (Nat × (Nat → Int32)) := match f a with
  | some (.inl (0, n, .inl r)) => some (n, r)
  | _ => none
def hrJ (f : hPl) (a : Nat) : Option (Nat × (Nat → Int64)) := match f a with
  | some (.inl (1, n, .inr (.inl r))) => some (n, r)
  | _ => none
def hrQ (f : hPl) (a : Nat) : Option (Nat × (Nat → Option Nat)) := match f a with
  | some (.inl (2, n, .inr (.inr (.inr (.inr r))))) => some (n, r)
  | _ => none
theorem hrI_spec {f : hPl} {a n : Nat} {r : Nat → Int32} (h : hrI f a = some (n, r)) : f a = some (aI n r) := by
  unfold hrI at h
  split at h
  · rename_i e; cases h; exact e
  · cases h
theorem hrJ_spec {f : hPl} {a n : Nat} {r : Nat → Int64} (h : hrJ f a = some (n, r)) : f a = some (aJ n r) := by
  unfold hrJ at h
  split at h
  · rename_i e; cases h; exact e
  · cases h
theorem hrQ_spec {f : hPl} {a n : Nat} {r : Nat → Option Nat} (h : hrQ f a = some (n, r)) : f a = some (aQ n r) := by
  unfold hrQ at h
  split at h
  · rename_i e; cases h; exact e
  · cases h
def hlI (f : hPl) (a : Nat) (i : Int32) : Option Int32 := (hrI f a).bind fun x => if hinB i x.1 = true then some (x.2 i.toNatClampNeg) else none
def hlJ (f : hPl) (a : Nat) (i : Int32) : Option Int64 := (hrJ f a).bind fun x => if hinB i x.1 = true then some (x.2 i.toNatClampNeg) else none
def hlQ (f : hPl) (a : Nat) (i : Int32) : Option (Option Nat) := (hrQ f a).bind fun x => if hinB i x.1 = true then some (x.2 i.toNatClampNeg) else none
def hsI (f : hPl) (a : Nat) (i v : Int32) : Option hPl := (hrI f a).bind fun x => if hinB i x.1 = true then some (hup f a (aI x.1 (upd x.2 i.toNatClampNeg v))) else none
def hsJ (f : hPl) (a : Nat) (i : Int32) (v : Int64) : Option hPl := (hrJ f a).bind fun x => if hinB i x.1 = true then some (hup f a (aJ x.1 (vp_updL x.2 i.toNatClampNeg v))) else none
def hsQ (f : hPl) (a : Nat) (i : Int32) (v : Option Nat) : Option hPl := (hrQ f a).bind fun x => if hinB i x.1 = true then some (hup f a (aQ x.1 (va_up x.2 i.toNatClampNeg v))) else none
/-- a row's length, of any kind -/
def hln (f : hPl) (a : Nat) : Option Int32 := match f a with
  | some (.inl x) => if x.1 < 3 then some (Int32.ofNat x.2.1) else none
  | _ => none
/-- System.arraycopy between rows of longs -/
def hcp (f : hPl) (a0 : Nat) (sp : Int32) (a : Nat) (dp n : Int32) : Option hPl := (hrJ f a0).bind fun x => (hrJ f a).bind fun y => if ¬ sp < 0 ∧ ¬ dp < 0 ∧ ¬ n < 0 ∧ sp.toNatClampNeg + n.toNatClampNeg ≤ x.1 ∧ dp.toNatClampNeg + n.toNatClampNeg ≤ y.1 then some (hup f a (aJ y.1 (va_cpy x.2 y.2 sp.toNatClampNeg dp.toNatClampNeg n.toNatClampNeg))) else none
theorem hif {c : Prop} {_ : Decidable c} {α : Type} {x y : α} (h : (if c then some x else none) = some y) : c ∧ x = y := by
  by_cases hc : c
  · rw [if_pos hc] at h; exact ⟨hc, Option.some.inj h⟩
  · rw [if_neg hc] at h; cases h
