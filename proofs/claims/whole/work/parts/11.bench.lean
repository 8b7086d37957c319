theorem iX3_init_X3 : ∀ w ∈ wsX30, w ∈ wsX3_init := by decide +kernel
theorem iX3_init_X2 : ∀ w ∈ wsX20, w ∈ wsX3_init := by decide +kernel
def fX3_init (f : hPl) (z : Nat) (a : Nat) : Option (Unit × hPl × Nat) := (if ¬ (8 : Int32) < 0 ∧ (8 : Int32).toNatClampNeg ≤ 8 then some () else none).bind fun _ => (some (hup f z (aQ (8 : Int32).toNatClampNeg (fun _ => none)))).bind fun f2 => (hput f2 a 2 0 (.ref z)).bind fun f3 => (some (hup f3 (z + 1) (oC 1 [.int 0, .null]))).bind fun f4 => (fX2_init f4 ((z + 1) + 1) (z + 1) 6 1).bind fun r5t => (hput r5t.2.1 a 2 1 (.ref (z + 1))).bind fun f8 => (if ¬ (40 : Int32) < 0 ∧ (40 : Int32).toNatClampNeg ≤ 40 then some () else none).bind fun _ => (some (hup f8 r5t.2.2 (aJ (40 : Int32).toNatClampNeg (fun _ => 0)))).bind fun f10 => (hput f10 a 2 2 (.ref r5t.2.2)).bind fun f11 => some ((), f11, (r5t.2.2 + 1))
set_option maxHeartbeats 4000000 in
set_option maxRecDepth 100000 in
theorem kX3_init (l : Launch) (g : hGb) {f : hPl} {z : Nat} {a : Nat} {r : Unit} {f' : hPl} {z' : Nat} (h : fX3_init f z a = some (r, f', z')) : hCt l g yX3_init wsX3_init 3 4 90 [.ref a] f z none f' z' := by
  refine hCt.of (cc := cX3_init) (maxL := 1) (ret := none) (by decide +kernel) rfl (by exact Nat.le_of_ble_eq_true rfl) ?_
  intro p e s m below meth c C hname hw ls hl
  obtain ⟨hx, hb, hml, hown, hts, hr, hlocks, hk⟩ := id C
  have hl : lv_has ls 1 [(0, .ref a)] := hl
  have hown : s.vm.findClass RX3 = some m.cls := hown
  unfold fX3_init at h
  refine lv_aload_n hx hb dX3_init_0 rfl (lv_at hl 0 rfl) ?_
  refine W.objInit hx hb hown (hts (.methodLink RX3 1 objectInit) (by decide +kernel)) (hts (.instanceMethod objectInit) (by decide +kernel)) (hts (.code objectInit ⟨#[0xb1]⟩ 1 none) (by decide +kernel)) rfl (hl.1.trans hml.symm) rfl dX3_init_1 (Nat.le_of_ble_eq_true rfl) (Nat.le_of_ble_eq_true rfl) ?_
  refine lv_aload_n hx hb dX3_init_4 rfl (lv_at hl 0 rfl) ?_
  refine lv_bipush (v := 8) hx hb dX3_init_5 (by decide) ?_
  replace h := hbd h
  obtain ⟨_, c1, h⟩ := h
  have c1 := (hif c1).1
  replace h := hbd h
  obtain ⟨f2, ef2, h⟩ := h
  have ef2 := Option.some.inj ef2
  refine hr_newQ (n := (8 : Int32)) (M := 8) hx hb hk hown (hts (.classLink RX3 9 RX1) (by decide +kernel)) hw c1 (by decide) (Nat.le_of_ble_eq_true rfl) (Nat.le_of_ble_eq_true rfl) dX3_init_7 (fun H hw => ?_)
  rw [ef2] at hw
  replace h := hbd h
  obtain ⟨f3, ef3, h⟩ := h
  refine hr_putF (C := RX3) (T := TX3) (N := 11) (ty := .array (.object "SetterBench$Thing")) hx hb hts iX3_init_X3 tyX3 tyX3_ok nmX3 hown hk hw rfl 0 (by decide) (hts (.fieldLink RX3 11 "SetterBench" "places" "[LSetterBench$Thing;") (by decide +kernel)) (fun _ h9 => h9) rfl hname rfl (by decide +kernel) rfl rfl ef3 dX3_init_10 (fun H locs hw => ?_)
  refine lv_aload_n hx hb dX3_init_13 rfl (lv_at hl 0 rfl) ?_
  replace h := hbd h
  obtain ⟨f4, ef4, h⟩ := h
  have ef4 := Option.some.inj ef4
  refine hr_new (C := RX2) (T := TX2) (N := 2) (ci := 1) (fs := [.int 0, .null]) hx hb hts iX3_init_X2 tyX2 tyX2_ok hown (hts (.classLink RX3 15 RX2) (by decide +kernel)) (hts (.instantiable RX2 2) (by decide +kernel)) (hts (.initialized RX2) (by decide +kernel)) hk hw rfl (fun j hj => by rcases (show j = 0 ∨ j = 1 by omega) with rfl | rfl <;> rfl) (Nat.le_of_ble_eq_true rfl) (Nat.le_of_ble_eq_true rfl) dX3_init_14 (fun H hw => ?_)
  rw [ef4] at hw
  refine lv_dup hx hb dX3_init_17 rfl ?_
  refine lv_bipush (v := 6) hx hb dX3_init_18 (by decide) ?_
  refine lv_iconst (v := 1) hx hb dX3_init_20 (by decide) ?_
  replace h := hbd h
  obtain ⟨⟨r5, f6, z7⟩, er5, h⟩ := h
  dsimp only at h
  refine hcallI (o := none) hx hb hml hown hts hk [.int 6, .int 1] [.ref (z + 1), .ref a] (kX2_init l g er5) gX3_init_X2_init rfl (hts (.initialized RX2) (by decide +kernel)) (hts (.methodLink RX3 17 yX2_init) (by decide +kernel)) (hts (.instanceMethod yX2_init) (by decide +kernel)) (n := 2) rfl (by decide +kernel) rfl ⟨Nat.le_of_ble_eq_true rfl, Nat.le_of_ble_eq_true rfl⟩ hw hl.1 rfl (Nat.le_of_ble_eq_true rfl) dX3_init_21 ⟨Nat.le_of_ble_eq_true rfl, Nat.le_of_ble_eq_true rfl⟩ (fun H locs hw => ?_)
  refine W.eq (g2 := F0 m 24 ls [.ref (z + 1), .ref a]) rfl ?_
  replace h := hbd h
  obtain ⟨f8, ef8, h⟩ := h
  refine hr_putF (C := RX3) (T := TX3) (N := 11) (ty := .object "SetterBench$Tray") hx hb hts iX3_init_X3 tyX3 tyX3_ok nmX3 hown hk hw rfl 1 (by decide) (hts (.fieldLink RX3 20 "SetterBench" "hand" "LSetterBench$Tray;") (by decide +kernel)) (fun _ h9 => h9) rfl hname rfl (by decide +kernel) rfl rfl ef8 dX3_init_24 (fun H locs hw => ?_)
  refine lv_aload_n hx hb dX3_init_27 rfl (lv_at hl 0 rfl) ?_
  refine lv_bipush (v := 40) hx hb dX3_init_28 (by decide) ?_
  replace h := hbd h
  obtain ⟨_, c9, h⟩ := h
  have c9 := (hif c9).1
  replace h := hbd h
  obtain ⟨f10, ef10, h⟩ := h
  have ef10 := Option.some.inj ef10
  refine hr_newJ (n := (40 : Int32)) (M := 40) hx hb hk (hts (.arrayClass .long) (by decide +kernel)) hw c9 (by decide) (Nat.le_of_ble_eq_true rfl) (Nat.le_of_ble_eq_true rfl) dX3_init_30 (fun H hw => ?_)
  rw [ef10] at hw
  replace h := hbd h
  obtain ⟨f11, ef11, h⟩ := h
  refine hr_putF (C := RX3) (T := TX3) (N := 11) (ty := .array .long) hx hb hts iX3_init_X3 tyX3 tyX3_ok nmX3 hown hk hw rfl 2 (by decide) (hts (.fieldLink RX3 24 "SetterBench" "kept" "[J") (by decide +kernel)) (fun _ h9 => h9) rfl hname rfl (by decide +kernel) rfl rfl ef11 dX3_init_32 (fun H locs hw => ?_)
  cases h
  exact hret_v hx hb hr hlocks hw dX3_init_35
def fX3_isPlace (f : hPl) (p1 : Int32) : Option Int32 := (if p1 < 0 then some 0 else (if 8 ≤ p1 then some 0 else some 1))
set_option maxHeartbeats 4000000 in
set_option maxRecDepth 100000 in
theorem kX3_isPlace (l : Launch) (g : hGb) {f : hPl} {z : Nat} {p1 : Int32} {r : Int32} (h : fX3_isPlace f p1 = some r) : hCt l g yX3_isPlace wsX3_isPlace 0 0 0 [.int p1] f z (some (.int r)) f z := by
  refine hCt.of (cc := cX3_isPlace) (maxL := 1) (ret := (some .boolean)) (by decide +kernel) rfl (by exact Nat.le_of_ble_eq_true rfl) ?_
  intro p e s m below meth c C hname hw ls hl
  obtain ⟨hx, hb, hml, hown, hts, hr, hlocks, hk⟩ := id C
  have hl : lv_has ls 1 [(0, .int p1)] := hl
  have hown : s.vm.findClass RX3 = some m.cls := hown
  unfold fX3_isPlace at h
  refine lv_iload_n hx hb dX3_isPlace_0 rfl (lv_at hl 0 rfl) ?_
  refine lv_if_lt (tgt := 14) hx hb dX3_isPlace_1 (by decide) (fun c1 => ?_) (fun c1 => ?_)
  · rw [if_pos c1] at h
    refine lv_iconst (v := 0) hx hb dX3_isPlace_14 (by decide) ?_
    cases h
    exact hret_z hx hb hr hlocks hw (Or.inl rfl) dX3_isPlace_15
  · rw [if_neg c1] at h
    refine lv_iload_n hx hb dX3_isPlace_4 rfl (lv_at hl 0 rfl) ?_
    refine lv_bipush (v := 8) hx hb dX3_isPlace_5 (by decide) ?_
    refine lv_icmp_ge (tgt := 14) hx hb dX3_isPlace_7 (by decide) (fun c2 => ?_) (fun c2 => ?_)
    · rw [if_pos c2] at h
      refine lv_iconst (v := 0) hx hb dX3_isPlace_14 (by decide) ?_
      cases h
      exact hret_z hx hb hr hlocks hw (Or.inl rfl) dX3_isPlace_15
    · rw [if_neg c2] at h
      refine lv_iconst (v := 1) hx hb dX3_isPlace_10 (by decide) ?_
      refine lv_goto (tgt := 15) hx hb dX3_isPlace_11 (by decide) ?_
      cases h
      exact hret_z hx hb hr hlocks hw (Or.inr rfl) dX3_isPlace_15
theorem iX3_lay_X3 : ∀ w ∈ wsX30, w ∈ wsX3_lay := by decide +kernel
theorem iX3_lay_X2 : ∀ w ∈ wsX20, w ∈ wsX3_lay := by decide +kernel
theorem iX3_lay_X0 : ∀ w ∈ wsX00, w ∈ wsX3_lay := by decide +kernel
def fX3_lay (f : hPl) (z : Nat) (a : Nat) (p1 : Int32) (p2 : Int32) (p3 : Int32) : Option (Int32 × hPl × Nat) := (fX3_isPlace f  p1).bind fun r1 => (if r1 = 0 then some (0, f, z) else (if p2 < 0 then some (0, f, z) else (if p2 ≤ 10 then (if p2 = 0 then (hgQ f a 2 0).bind fun q25 => q25.bind fun a26 => (hsQ f a26 p1 none).bind fun f27 => some (1, f27, z) else (if p2 = 1 then (hgQ f a 2 0).bind fun q17 => (some (hup f z (oC 0 [.int 0, .int 0]))).bind fun f18 => (fX0_init f18 (z + 1) z ).bind fun r19t => q17.bind fun a22 => (hth r19t.2.1 (some z)).bind fun u23 => (hsQ r19t.2.1 a22 p1 (some z)).bind fun f24 => some (1, f24, r19t.2.2) else (if p3 < 0 then some (0, f, z) else (if p3 ≤ 40 then (hgQ f a 2 0).bind fun q9 => (some (hup f z (oC 1 [.int 0, .null]))).bind fun f10 => (fX2_init f10 (z + 1) z p2 p3).bind fun r11t => q9.bind fun a14 => (hth r11t.2.1 (some z)).bind fun u15 => (hsQ r11t.2.1 a14 p1 (some z)).bind fun f16 => some (1, f16, r11t.2.2) else some (0, f, z))))) else some (0, f, z))))
set_option maxHeartbeats 4000000 in
set_option maxRecDepth 100000 in
theorem kX3_lay (l : Launch) (g : hGb) {f : hPl} {z : Nat} {a : Nat} {p1 : Int32} {p2 : Int32} {p3 : Int32} {r : Int32} {f' : hPl} {z' : Nat} (h : fX3_lay f z a p1 p2 p3 = some (r, f', z')) : hCt l g yX3_lay wsX3_lay 3 2 42 [.ref a, .int p1, .int p2, .int p3] f z (some (.int r)) f' z' := by
  refine hCt.of (cc := cX3_lay) (maxL := 4) (ret := (some .boolean)) (by decide +kernel) rfl (by exact Nat.le_of_ble_eq_true rfl) ?_
  intro p e s m below meth c C hname hw ls hl
  obtain ⟨hx, hb, hml, hown, hts, hr, hlocks, hk⟩ := id C
  have hl : lv_has ls 4 [(0, .ref a), (1, .int p1), (2, .int p2), (3, .int p3)] := hl
  have hown : s.vm.findClass RX3 = some m.cls := hown
  unfold fX3_lay at h
  refine lv_iload_n hx hb dX3_lay_0 rfl (lv_at hl 1 rfl) ?_
  replace h := hbd h
  obtain ⟨r1, er1, h⟩ := h
  refine hcallS (o := some (.int r1)) hx hb hml hown hts hk [.int p1] [] (kX3_isPlace l g er1) gX3_lay_X3_isPlace rfl (n := 1) rfl (by decide +kernel) ⟨Nat.le_of_ble_eq_true rfl, Nat.le_of_ble_eq_true rfl⟩ hw hl.1 rfl (Nat.le_of_ble_eq_true rfl) dX3_lay_1 ⟨Nat.le_of_ble_eq_true rfl, Nat.le_of_ble_eq_true rfl⟩ (fun H locs hw => ?_)
  refine W.eq (g2 := F0 m 4 ls [.int r1]) rfl ?_
  refine lv_if_eq (tgt := 17) hx hb dX3_lay_4 (by decide) (fun c2 => ?_) (fun c2 => ?_)
  · rw [if_pos c2] at h
    refine lv_iconst (v := 0) hx hb dX3_lay_17 (by decide) ?_
    refine W.widen (k := 2) (n := 42) (Nat.le_of_ble_eq_true rfl) (Nat.le_of_ble_eq_true rfl) ?_
    cases h
    exact hret_z hx hb hr hlocks hw (Or.inl rfl) dX3_lay_18
  · rw [if_neg c2] at h
    refine lv_iload_n hx hb dX3_lay_7 rfl (lv_at hl 2 rfl) ?_
    refine lv_if_lt (tgt := 17) hx hb dX3_lay_8 (by decide) (fun c3 => ?_) (fun c3 => ?_)
    · rw [if_pos c3] at h
      refine lv_iconst (v := 0) hx hb dX3_lay_17 (by decide) ?_
      refine W.widen (k := 2) (n := 42) (Nat.le_of_ble_eq_true rfl) (Nat.le_of_ble_eq_true rfl) ?_
      cases h
      exact hret_z hx hb hr hlocks hw (Or.inl rfl) dX3_lay_18
    · rw [if_neg c3] at h
      refine lv_iload_n hx hb dX3_lay_11 rfl (lv_at hl 2 rfl) ?_
      refine lv_bipush (v := 10) hx hb dX3_lay_12 (by decide) ?_
      refine lv_icmp_le (tgt := 19) hx hb dX3_lay_14 (by decide) (fun c4 => ?_) (fun c4 => ?_)
      · rw [if_pos c4] at h
        refine lv_iload_n hx hb dX3_lay_19 rfl (lv_at hl 2 rfl) ?_
        refine lv_if_ne (tgt := 32) hx hb dX3_lay_20 (by decide) (fun c5 => ?_) (fun c5 => ?_)
        · rw [if_neg c5] at h
          refine lv_iload_n hx hb dX3_lay_32 rfl (lv_at hl 2 rfl) ?_
          refine lv_iconst (v := 1) hx hb dX3_lay_33 (by decide) ?_
          refine lv_icmp_ne (tgt := 52) hx hb dX3_lay_34 (by decide) (fun c6 => ?_) (fun c6 => ?_)
          · rw [if_neg c6] at h
            refine lv_iload_n hx hb dX3_lay_52 rfl (lv_at hl 3 rfl) ?_
            refine lv_if_lt (tgt := 62) hx hb dX3_lay_53 (by decide) (fun c7 => ?_) (fun c7 => ?_)
            · rw [if_pos c7] at h
              refine lv_iconst (v := 0) hx hb dX3_lay_62 (by decide) ?_
              refine W.widen (k := 2) (n := 42) (Nat.le_of_ble_eq_true rfl) (Nat.le_of_ble_eq_true rfl) ?_
              cases h
              exact hret_z hx hb hr hlocks hw (Or.inl rfl) dX3_lay_63
            · rw [if_neg c7] at h
              refine lv_iload_n hx hb dX3_lay_56 rfl (lv_at hl 3 rfl) ?_
              refine lv_bipush (v := 40) hx hb dX3_lay_57 (by decide) ?_
              refine lv_icmp_le (tgt := 64) hx hb dX3_lay_59 (by decide) (fun c8 => ?_) (fun c8 => ?_)
              · rw [if_pos c8] at h
                refine lv_aload_n hx hb dX3_lay_64 rfl (lv_at hl 0 rfl) ?_
                replace h := hbd h
                obtain ⟨q9, eq9, h⟩ := h
                refine hr_getQ (C := RX3) (T := TX3) (N := 11) hx hb hts iX3_lay_X3 hown hk hw rfl 0 (by decide) (hts (.fieldLink RX3 11 "SetterBench" "places" "[LSetterBench$Thing;") (by decide +kernel)) (fun _ h9 => h9) eq9 dX3_lay_65 ?_
                refine lv_iload_n hx hb dX3_lay_68 rfl (lv_at hl 1 rfl) ?_
                replace h := hbd h
                obtain ⟨f10, ef10, h⟩ := h
                have ef10 := Option.some.inj ef10
                refine hr_new (C := RX2) (T := TX2) (N := 2) (ci := 1) (fs := [.int 0, .null]) hx hb hts iX3_lay_X2 tyX2 tyX2_ok hown (hts (.classLink RX3 15 RX2) (by decide +kernel)) (hts (.instantiable RX2 2) (by decide +kernel)) (hts (.initialized RX2) (by decide +kernel)) hk hw rfl (fun j hj => by rcases (show j = 0 ∨ j = 1 by omega) with rfl | rfl <;> rfl) (Nat.le_of_ble_eq_true rfl) (Nat.le_of_ble_eq_true rfl) dX3_lay_69 (fun H hw => ?_)
                rw [ef10] at hw
                refine lv_dup hx hb dX3_lay_72 rfl ?_
                refine lv_iload_n hx hb dX3_lay_73 rfl (lv_at hl 2 rfl) ?_
                refine lv_iload_n hx hb dX3_lay_74 rfl (lv_at hl 3 rfl) ?_
                replace h := hbd h
                obtain ⟨⟨r11, f12, z13⟩, er11, h⟩ := h
                dsimp only at h
                refine hcallI (o := none) hx hb hml hown hts hk [.int p2, .int p3] [.ref z, .int p1, va_rf q9] (kX2_init l g er11) gX3_lay_X2_init rfl (hts (.initialized RX2) (by decide +kernel)) (hts (.methodLink RX3 17 yX2_init) (by decide +kernel)) (hts (.instanceMethod yX2_init) (by decide +kernel)) (n := 2) rfl (by decide +kernel) rfl ⟨Nat.le_of_ble_eq_true rfl, Nat.le_of_ble_eq_true rfl⟩ hw hl.1 rfl (by cases q9 <;> exact Nat.le_of_ble_eq_true rfl) dX3_lay_75 ⟨Nat.le_of_ble_eq_true rfl, Nat.le_of_ble_eq_true rfl⟩ (fun H locs hw => ?_)
                refine W.eq (g2 := F0 m 78 ls [.ref z, .int p1, va_rf q9]) rfl ?_
                replace h := hbd h
                obtain ⟨a14, rfl, h⟩ := h
                replace h := hbd h
                obtain ⟨u15, eu15, h⟩ := h
                replace h := hbd h
                obtain ⟨f16, ef16, h⟩ := h
                refine hr_sQ (v := (some z)) hx hb hk hw eu15 ef16 dX3_lay_78 (fun H locs hw => ?_)
                refine lv_iconst (v := 1) hx hb dX3_lay_79 (by decide) ?_
                cases h
                exact hret_z hx hb hr hlocks hw (Or.inr rfl) dX3_lay_80
              · rw [if_neg c8] at h
                refine lv_iconst (v := 0) hx hb dX3_lay_62 (by decide) ?_
                refine W.widen (k := 2) (n := 42) (Nat.le_of_ble_eq_true rfl) (Nat.le_of_ble_eq_true rfl) ?_
                cases h
                exact hret_z hx hb hr hlocks hw (Or.inl rfl) dX3_lay_63
          · rw [if_pos c6] at h
            refine lv_aload_n hx hb dX3_lay_37 rfl (lv_at hl 0 rfl) ?_
            replace h := hbd h
            obtain ⟨q17, eq17, h⟩ := h
            refine hr_getQ (C := RX3) (T := TX3) (N := 11) hx hb hts iX3_lay_X3 hown hk hw rfl 0 (by decide) (hts (.fieldLink RX3 11 "SetterBench" "places" "[LSetterBench$Thing;") (by decide +kernel)) (fun _ h9 => h9) eq17 dX3_lay_38 ?_
            refine lv_iload_n hx hb dX3_lay_41 rfl (lv_at hl 1 rfl) ?_
            replace h := hbd h
            obtain ⟨f18, ef18, h⟩ := h
            have ef18 := Option.some.inj ef18
            refine hr_new (C := RX0) (T := TX0) (N := 2) (ci := 0) (fs := [.int 0, .int 0]) hx hb hts iX3_lay_X0 tyX0 tyX0_ok hown (hts (.classLink RX3 32 RX0) (by decide +kernel)) (hts (.instantiable RX0 2) (by decide +kernel)) (hts (.initialized RX0) (by decide +kernel)) hk hw rfl (fun j hj => by rcases (show j = 0 ∨ j = 1 by omega) with rfl | rfl <;> rfl) (Nat.le_of_ble_eq_true rfl) (Nat.le_of_ble_eq_true rfl) dX3_lay_42 (fun H hw => ?_)
            rw [ef18] at hw
            refine lv_dup hx hb dX3_lay_45 rfl ?_
            replace h := hbd h
            obtain ⟨⟨r19, f20, z21⟩, er19, h⟩ := h
            dsimp only at h
            refine hcallI (o := none) hx hb hml hown hts hk [] [.ref z, .int p1, va_rf q17] (kX0_init l g er19) gX3_lay_X0_init rfl (hts (.initialized RX0) (by decide +kernel)) (hts (.methodLink RX3 34 yX0_init) (by decide +kernel)) (hts (.instanceMethod yX0_init) (by decide +kernel)) (n := 0) rfl (by decide +kernel) rfl ⟨Nat.le_of_ble_eq_true rfl, Nat.le_of_ble_eq_true rfl⟩ hw hl.1 rfl (by cases q17 <;> exact Nat.le_of_ble_eq_true rfl) dX3_lay_46 ⟨Nat.le_of_ble_eq_true rfl, Nat.le_of_ble_eq_true rfl⟩ (fun H locs hw => ?_)
            refine W.eq (g2 := F0 m 49 ls [.ref z, .int p1, va_rf q17]) rfl ?_
            replace h := hbd h
            obtain ⟨a22, rfl, h⟩ := h
            replace h := hbd h
            obtain ⟨u23, eu23, h⟩ := h
            replace h := hbd h
            obtain ⟨f24, ef24, h⟩ := h
            refine hr_sQ (v := (some z)) hx hb hk hw eu23 ef24 dX3_lay_49 (fun H locs hw => ?_)
            refine lv_iconst (v := 1) hx hb dX3_lay_50 (by decide) ?_
            refine W.widen (k := 2) (n := 42) (Nat.le_of_ble_eq_true rfl) (Nat.le_of_ble_eq_true rfl) ?_
            cases h
            exact hret_z hx hb hr hlocks hw (Or.inr rfl) dX3_lay_51
        · rw [if_pos c5] at h
          refine lv_aload_n hx hb dX3_lay_23 rfl (lv_at hl 0 rfl) ?_
          replace h := hbd h
          obtain ⟨q25, eq25, h⟩ := h
          refine hr_getQ (C := RX3) (T := TX3) (N := 11) hx hb hts iX3_lay_X3 hown hk hw rfl 0 (by decide) (hts (.fieldLink RX3 11 "SetterBench" "places" "[LSetterBench$Thing;") (by decide +kernel)) (fun _ h9 => h9) eq25 dX3_lay_24 ?_
          refine lv_iload_n hx hb dX3_lay_27 rfl (lv_at hl 1 rfl) ?_
          refine lv_null hx hb dX3_lay_28 ?_
          replace h := hbd h
          obtain ⟨a26, rfl, h⟩ := h
          replace h := hbd h
          obtain ⟨f27, ef27, h⟩ := h
          refine hr_sN hx hb hk hw ef27 dX3_lay_29 (fun H locs hw => ?_)
          refine lv_iconst (v := 1) hx hb dX3_lay_30 (by decide) ?_
          refine W.widen (k := 2) (n := 42) (Nat.le_of_ble_eq_true rfl) (Nat.le_of_ble_eq_true rfl) ?_
          cases h
          exact hret_z hx hb hr hlocks hw (Or.inr rfl) dX3_lay_31
      · rw [if_neg c4] at h
        refine lv_iconst (v := 0) hx hb dX3_lay_17 (by decide) ?_
        refine W.widen (k := 2) (n := 42) (Nat.le_of_ble_eq_true rfl) (Nat.le_of_ble_eq_true rfl) ?_
        cases h
        exact hret_z hx hb hr hlocks hw (Or.inl rfl) dX3_lay_18
theorem iX3_share_X3 : ∀ w ∈ wsX30, w ∈ wsX3_share := by decide +kernel
def fX3_share (f : hPl) (z : Nat) (a : Nat) (p1 : Int32) (p2 : Int32) : Option (Int32 × hPl × Nat) := (fX3_isPlace f  p1).bind fun r1 => (if r1 = 0 then some (0, f, z) else (fX3_isPlace f  p2).bind fun r3 => (if r3 = 0 then some (0, f, z) else (hgQ f a 2 0).bind fun q5 => (hgQ f a 2 0).bind fun q6 => q6.bind fun a7 => (hlQ f a7 p1).bind fun q8 => q5.bind fun a9 => (hth f q8).bind fun u10 => (hsQ f a9 p2 q8).bind fun f11 => some (1, f11, z)))
set_option maxHeartbeats 4000000 in
set_option maxRecDepth 100000 in
theorem kX3_share (l : Launch) (g : hGb) {f : hPl} {z : Nat} {a : Nat} {p1 : Int32} {p2 : Int32} {r : Int32} {f' : hPl} {z' : Nat} (h : fX3_share f z a p1 p2 = some (r, f', z')) : hCt l g yX3_share wsX3_share 1 0 0 [.ref a, .int p1, .int p2] f z (some (.int r)) f' z' := by
  refine hCt.of (cc := cX3_share) (maxL := 3) (ret := (some .boolean)) (by decide +kernel) rfl (by exact Nat.le_of_ble_eq_true rfl) ?_
  intro p e s m below meth c C hname hw ls hl
  obtain ⟨hx, hb, hml, hown, hts, hr, hlocks, hk⟩ := id C
  have hl : lv_has ls 3 [(0, .ref a), (1, .int p1), (2, .int p2)] := hl
  have hown : s.vm.findClass RX3 = some m.cls := hown
  unfold fX3_share at h
  refine lv_iload_n hx hb dX3_share_0 rfl (lv_at hl 1 rfl) ?_
  replace h := hbd h
  obtain ⟨r1, er1, h⟩ := h
  refine hcallS (o := some (.int r1)) hx hb hml hown hts hk [.int p1] [] (kX3_isPlace l g er1) gX3_share_X3_isPlace rfl (n := 1) rfl (by decide +kernel) ⟨Nat.le_of_ble_eq_true rfl, Nat.le_of_ble_eq_true rfl⟩ hw hl.1 rfl (Nat.le_of_ble_eq_true rfl) dX3_share_1 ⟨Nat.le_of_ble_eq_true rfl, Nat.le_of_ble_eq_true rfl⟩ (fun H locs hw => ?_)
  refine W.eq (g2 := F0 m 4 ls [.int r1]) rfl ?_
  refine lv_if_eq (tgt := 14) hx hb dX3_share_4 (by decide) (fun c2 => ?_) (fun c2 => ?_)
  · rw [if_pos c2] at h
    refine lv_iconst (v := 0) hx hb dX3_share_14 (by decide) ?_
    cases h
    exact hret_z hx hb hr hlocks hw (Or.inl rfl) dX3_share_15
  · rw [if_neg c2] at h
    refine lv_iload_n hx hb dX3_share_7 rfl (lv_at hl 2 rfl) ?_
    replace h := hbd h
    obtain ⟨r3, er3, h⟩ := h
    refine hcallS (o := some (.int r3)) hx hb hml hown hts hk [.int p2] [] (kX3_isPlace l g er3) gX3_share_X3_isPlace rfl (n := 1) rfl (by decide +kernel) ⟨Nat.le_of_ble_eq_true rfl, Nat.le_of_ble_eq_true rfl⟩ hw hl.1 rfl (Nat.le_of_ble_eq_true rfl) dX3_share_8 ⟨Nat.le_of_ble_eq_true rfl, Nat.le_of_ble_eq_true rfl⟩ (fun H locs hw => ?_)
    refine W.eq (g2 := F0 m 11 ls [.int r3]) rfl ?_
    refine lv_if_ne (tgt := 16) hx hb dX3_share_11 (by decide) (fun c4 => ?_) (fun c4 => ?_)
    · rw [if_neg c4] at h
      refine lv_aload_n hx hb dX3_share_16 rfl (lv_at hl 0 rfl) ?_
      replace h := hbd h
      obtain ⟨q5, eq5, h⟩ := h
      refine hr_getQ (C := RX3) (T := TX3) (N := 11) hx hb hts iX3_share_X3 hown hk hw rfl 0 (by decide) (hts (.fieldLink RX3 11 "SetterBench" "places" "[LSetterBench$Thing;") (by decide +kernel)) (fun _ h9 => h9) eq5 dX3_share_17 ?_
      refine lv_iload_n hx hb dX3_share_20 rfl (lv_at hl 2 rfl) ?_
      refine lv_aload_n hx hb dX3_share_21 rfl (lv_at hl 0 rfl) ?_
      replace h := hbd h
      obtain ⟨q6, eq6, h⟩ := h
      refine hr_getQ (C := RX3) (T := TX3) (N := 11) hx hb hts iX3_share_X3 hown hk hw rfl 0 (by decide) (hts (.fieldLink RX3 11 "SetterBench" "places" "[LSetterBench$Thing;") (by decide +kernel)) (fun _ h9 => h9) eq6 dX3_share_22 ?_
      refine lv_iload_n hx hb dX3_share_25 rfl (lv_at hl 1 rfl) ?_
      replace h := hbd h
      obtain ⟨a7, rfl, h⟩ := h
      replace h := hbd h
      obtain ⟨q8, eq8, h⟩ := h
      refine hr_lQ hx hb hk hw eq8 dX3_share_26 ?_
      replace h := hbd h
      obtain ⟨a9, rfl, h⟩ := h
      replace h := hbd h
      obtain ⟨u10, eu10, h⟩ := h
      replace h := hbd h
      obtain ⟨f11, ef11, h⟩ := h
      refine hr_sQ (v := q8) hx hb hk hw eu10 ef11 dX3_share_27 (fun H locs hw => ?_)
      refine lv_iconst (v := 1) hx hb dX3_share_28 (by decide) ?_
      cases h
      exact hret_z hx hb hr hlocks hw (Or.inr rfl) dX3_share_29
    · rw [if_pos c4] at h
      refine lv_iconst (v := 0) hx hb dX3_share_14 (by decide) ?_
      cases h
      exact hret_z hx hb hr hlocks hw (Or.inl rfl) dX3_share_15
def fX3_asTray (f : hPl) (p1 : Option Nat) : Option (Option Nat) := (hii f p1 1).bind fun x1 => (if x1 = 0 then some none else p1.bind fun a3 => (hob f a3 1).bind fun u4 => some (some a3))
set_option maxHeartbeats 4000000 in
set_option maxRecDepth 100000 in
theorem kX3_asTray (l : Launch) (g : hGb) {f : hPl} {z : Nat} {p1 : Option Nat} {r : Option Nat} (h : fX3_asTray f p1 = some r) : hCt l g yX3_asTray wsX3_asTray 0 0 0 [va_rf p1] f z (some (va_rf r)) f z := by
  refine hCt.of (cc := cX3_asTray) (maxL := 2) (ret := (some (.object "SetterBench$Tray"))) (by decide +kernel) rfl (by cases p1 <;> exact Nat.le_of_ble_eq_true rfl) ?_
  intro p e s m below meth c C hname hw ls hl
  obtain ⟨hx, hb, hml, hown, hts, hr, hlocks, hk⟩ := id C
  have hl : lv_has ls 2 [(0, va_rf p1)] := by cases p1 <;> exact hl
  have hown : s.vm.findClass RX3 = some m.cls := hown
  unfold fX3_asTray at h
  refine hv_aload_n hx hb dX3_asTray_0 rfl (lv_at hl 0 rfl) ?_
  replace h := hbd h
  obtain ⟨x1, ex1, h⟩ := h
  refine hr_instT (q := p1) hx hb hown (hts (.classLink RX3 15 RX2) (by decide +kernel)) hk hw ex1 dX3_asTray_1 ?_
  refine lv_if_eq (tgt := 16) hx hb dX3_asTray_4 (by decide) (fun c2 => ?_) (fun c2 => ?_)
  · rw [if_pos c2] at h
    refine lv_null hx hb dX3_asTray_16 ?_
    cases h
    exact hret_a hx hb hr hlocks hw dX3_asTray_17
  · rw [if_neg c2] at h
    refine hv_aload_n hx hb dX3_asTray_7 rfl (lv_at hl 0 rfl) ?_
    replace h := hbd h
    obtain ⟨a3, rfl, h⟩ := h
    replace h := hbd h
    obtain ⟨u4, eu4, h⟩ := h
    refine hr_castT hx hb hown (hts (.classLink RX3 15 RX2) (by decide +kernel)) hk hw eu4 dX3_asTray_8 ?_
    refine lv_astore_n (lv' := [(1, .ref a3), (0, .ref a3)]) hx hb dX3_asTray_11 rfl hl (by decide) rfl (fun ls hl => ?_)
    refine lv_aload_n hx hb dX3_asTray_12 rfl (lv_at hl 0 rfl) ?_
    refine lv_goto (tgt := 17) hx hb dX3_asTray_13 (by decide) ?_
    cases h
    exact hret_a hx hb hr hlocks hw dX3_asTray_17
def fX3_numberFor (f : hPl) (p1 : Int32) (p2 : Int32) : Option Int64 := (if p1.toInt < 3 ∨ 5 < p1.toInt then some (p2.toInt64) else if p1 = 3 then some ((p2.toInt64) * (1000003 : Int64)) else if p1 = 4 then some ((p2.toInt8.toInt32).toInt64) else if p1 = 5 then some ((p2 &&& 1).toInt64) else none)
set_option maxHeartbeats 4000000 in
set_option maxRecDepth 100000 in
theorem kX3_numberFor (l : Launch) (g : hGb) {f : hPl} {z : Nat} {p1 : Int32} {p2 : Int32} {r : Int64} (h : fX3_numberFor f p1 p2 = some r) : hCt l g yX3_numberFor wsX3_numberFor 0 0 0 [.int p1, .int p2] f z (some (.long r)) f z := by
  refine hCt.of (cc := cX3_numberFor) (maxL := 2) (ret := (some .long)) (by decide +kernel) rfl (by exact Nat.le_of_ble_eq_true rfl) ?_
  intro p e s m below meth c C hname hw ls hl
  obtain ⟨hx, hb, hml, hown, hts, hr, hlocks, hk⟩ := id C
  have hl : lv_has ls 2 [(0, .int p1), (1, .int p2)] := hl
  have hown : s.vm.findClass RX3 = some m.cls := hown
  unfold fX3_numberFor at h
  refine lv_iload_n hx hb dX3_numberFor_0 rfl (lv_at hl 0 rfl) ?_
  by_cases c1 : p1.toInt < 3 ∨ 5 < p1.toInt
  · rw [if_pos c1] at h
    refine lv_tableOut (tgt := 44) hx hb dX3_numberFor_1 c1 (by decide) ?_
    refine lv_iload_n hx hb dX3_numberFor_44 rfl (lv_at hl 1 rfl) ?_
    refine lv_i2l hx hb dX3_numberFor_45 rfl ?_
    cases h
    exact hret_l hx hb hr hlocks hw dX3_numberFor_46
  rw [if_neg c1] at h
  by_cases c2 : p1 = 3
  · rw [if_pos c2] at h
    refine hv_arm (off := 27) (tgt := 28) hx hb c2 dX3_numberFor_1 (by decide) (by decide) (by decide) (by decide) ?_
    refine lv_iload_n hx hb dX3_numberFor_28 rfl (lv_at hl 1 rfl) ?_
    refine lv_i2l hx hb dX3_numberFor_29 rfl ?_
    refine lv_ldc2 (v := (1000003)) hx hb hown (hts (.constantLong RX3 125 (1000003)) (by decide +kernel)) dX3_numberFor_30 ?_
    refine lv_lmul hx hb dX3_numberFor_33 ?_
    cases h
    exact hret_l hx hb hr hlocks hw dX3_numberFor_34
  rw [if_neg c2] at h
  by_cases c3 : p1 = 4
  · rw [if_pos c3] at h
    refine hv_arm (off := 34) (tgt := 35) hx hb c3 dX3_numberFor_1 (by decide) (by decide) (by decide) (by decide) ?_
    refine lv_iload_n hx hb dX3_numberFor_35 rfl (lv_at hl 1 rfl) ?_
    refine lv_i2b hx hb dX3_numberFor_36 rfl ?_
    refine lv_i2l hx hb dX3_numberFor_37 rfl ?_
    cases h
    exact hret_l hx hb hr hlocks hw dX3_numberFor_38
  rw [if_neg c3] at h
  by_cases c4 : p1 = 5
  · rw [if_pos c4] at h
    refine hv_arm (off := 38) (tgt := 39) hx hb c4 dX3_numberFor_1 (by decide) (by decide) (by decide) (by decide) ?_
    refine lv_iload_n hx hb dX3_numberFor_39 rfl (lv_at hl 1 rfl) ?_
    refine lv_iconst (v := 1) hx hb dX3_numberFor_40 (by decide) ?_
    refine lv_iand hx hb dX3_numberFor_41 ?_
    refine lv_i2l hx hb dX3_numberFor_42 rfl ?_
    cases h
    exact hret_l hx hb hr hlocks hw dX3_numberFor_43
  rw [if_neg c4] at h
  cases h
theorem iX3_set_X3 : ∀ w ∈ wsX30, w ∈ wsX3_set := by decide +kernel
theorem iX3_set_X2 : ∀ w ∈ wsX20, w ∈ wsX3_set := by decide +kernel
def fX3_set (f : hPl) (z : Nat) (a : Nat) (p1 : Int32) (p2 : Int32) (p3 : Int32) : Option (Int32 × hPl × Nat) := (fX3_isPlace f  p1).bind fun r1 => (if r1 = 0 then some ((-1), f, z) else (hgQ f a 2 0).bind fun q3 => q3.bind fun a4 => (hlQ f a4 p1).bind fun q5 => (if q5 = none then some (1, f, z) else (hgQ f a 2 0).bind fun q7 => q7.bind fun a8 => (hlQ f a8 p1).bind fun q9 => (fX3_asTray f  q9).bind fun r10 => (if r10 = none then some (2, f, z) else r10.bind fun a12 => (hob f a12 1).bind fun u13 => (fX2_isOfStones f a12 ).bind fun r14 => (if r14 = 0 then (hgI f a12 1 0).bind fun x16 => (fX3_numberFor f  x16 p3).bind fun r17 => (hob f a12 1).bind fun u18 => (fX2_write f z a12 p2 r17).bind fun r19t => (if r19t.1 = 0 then some (3, r19t.2.1, r19t.2.2) else some (0, r19t.2.1, r19t.2.2)) else some (2, f, z)))))
set_option maxHeartbeats 4000000 in
set_option maxRecDepth 100000 in
theorem kX3_set (l : Launch) (g : hGb) {f : hPl} {z : Nat} {a : Nat} {p1 : Int32} {p2 : Int32} {p3 : Int32} {r : Int32} {f' : hPl} {z' : Nat} (h : fX3_set f z a p1 p2 p3 = some (r, f', z')) : hCt l g yX3_set wsX3_set 2 0 0 [.ref a, .int p1, .int p2, .int p3] f z (some (.int r)) f' z' := by
  refine hCt.of (cc := cX3_set) (maxL := 5) (ret := (some .int)) (by decide +kernel) rfl (by exact Nat.le_of_ble_eq_true rfl) ?_
  intro p e s m below meth c C hname hw ls hl
  obtain ⟨hx, hb, hml, hown, hts, hr, hlocks, hk⟩ := id C
  have hl : lv_has ls 5 [(0, .ref a), (1, .int p1), (2, .int p2), (3, .int p3)] := hl
  have hown : s.vm.findClass RX3 = some m.cls := hown
  unfold fX3_set at h
  refine lv_iload_n hx hb dX3_set_0 rfl (lv_at hl 1 rfl) ?_
  replace h := hbd h
  obtain ⟨r1, er1, h⟩ := h
  refine hcallS (o := some (.int r1)) hx hb hml hown hts hk [.int p1] [] (kX3_isPlace l g er1) gX3_set_X3_isPlace rfl (n := 1) rfl (by decide +kernel) ⟨Nat.le_of_ble_eq_true rfl, Nat.le_of_ble_eq_true rfl⟩ hw hl.1 rfl (Nat.le_of_ble_eq_true rfl) dX3_set_1 ⟨Nat.le_of_ble_eq_true rfl, Nat.le_of_ble_eq_true rfl⟩ (fun H locs hw => ?_)
  refine W.eq (g2 := F0 m 4 ls [.int r1]) rfl ?_
  refine lv_if_ne (tgt := 9) hx hb dX3_set_4 (by decide) (fun c2 => ?_) (fun c2 => ?_)
  · rw [if_neg c2] at h
    refine lv_aload_n hx hb dX3_set_9 rfl (lv_at hl 0 rfl) ?_
    replace h := hbd h
    obtain ⟨q3, eq3, h⟩ := h
    refine hr_getQ (C := RX3) (T := TX3) (N := 11) hx hb hts iX3_set_X3 hown hk hw rfl 0 (by decide) (hts (.fieldLink RX3 11 "SetterBench" "places" "[LSetterBench$Thing;") (by decide +kernel)) (fun _ h9 => h9) eq3 dX3_set_10 ?_
    refine lv_iload_n hx hb dX3_set_13 rfl (lv_at hl 1 rfl) ?_
    replace h := hbd h
    obtain ⟨a4, rfl, h⟩ := h
    replace h := hbd h
    obtain ⟨q5, eq5, h⟩ := h
    refine hr_lQ hx hb hk hw eq5 dX3_set_14 ?_
    refine hv_ifnonnull (q := q5) (tgt := 20) hx hb dX3_set_15 (by decide) (fun c6 => ?_) (fun c6 => ?_)
    · rw [if_neg c6] at h
      refine lv_aload_n hx hb dX3_set_20 rfl (lv_at hl 0 rfl) ?_
      replace h := hbd h
      obtain ⟨q7, eq7, h⟩ := h
      refine hr_getQ (C := RX3) (T := TX3) (N := 11) hx hb hts iX3_set_X3 hown hk hw rfl 0 (by decide) (hts (.fieldLink RX3 11 "SetterBench" "places" "[LSetterBench$Thing;") (by decide +kernel)) (fun _ h9 => h9) eq7 dX3_set_21 ?_
      refine lv_iload_n hx hb dX3_set_24 rfl (lv_at hl 1 rfl) ?_
      replace h := hbd h
      obtain ⟨a8, rfl, h⟩ := h
      replace h := hbd h
      obtain ⟨q9, eq9, h⟩ := h
      refine hr_lQ hx hb hk hw eq9 dX3_set_25 ?_
      replace h := hbd h
      obtain ⟨r10, er10, h⟩ := h
      refine hcallS (o := some (va_rf r10)) hx hb hml hown hts hk [va_rf q9] [] (kX3_asTray l g er10) gX3_set_X3_asTray rfl (n := 1) rfl (by decide +kernel) ⟨Nat.le_of_ble_eq_true rfl, Nat.le_of_ble_eq_true rfl⟩ hw hl.1 rfl (Nat.le_of_ble_eq_true rfl) dX3_set_26 ⟨Nat.le_of_ble_eq_true rfl, Nat.le_of_ble_eq_true rfl⟩ (fun H locs hw => ?_)
      refine W.eq (g2 := F0 m 29 ls [va_rf r10]) rfl ?_
      refine hv_astore (q := r10) (lv' := [(4, va_rf r10), (0, .ref a), (1, .int p1), (2, .int p2), (3, .int p3)]) hx hb dX3_set_29 hl (by decide) rfl (fun ls hl => ?_)
      refine hv_aload hx hb dX3_set_31 (lv_at hl 0 rfl) ?_
      refine hv_ifnull (q := r10) (tgt := 44) hx hb dX3_set_33 (by decide) (fun c11 => ?_) (fun c11 => ?_)
      · rw [if_pos c11] at h
        refine lv_iconst (v := 2) hx hb dX3_set_44 (by decide) ?_
        cases h
        exact hret_i hx hb hr hlocks hw dX3_set_45
      · rw [if_neg c11] at h
        refine hv_aload hx hb dX3_set_36 (lv_at hl 0 rfl) ?_
        replace h := hbd h
        obtain ⟨a12, rfl, h⟩ := h
        replace h := hbd h
        obtain ⟨u13, eu13, h⟩ := h
        replace h := hbd h
        obtain ⟨r14, er14, h⟩ := h
        refine hcallV (o := some (.int r14)) hx hb hml hown hts hk [] [] (kX2_isOfStones l g er14) gX3_set_X2_isOfStones rfl (n := 0) rfl (by decide +kernel) ⟨Nat.le_of_ble_eq_true rfl, Nat.le_of_ble_eq_true rfl⟩ (ci := 1) rfl eu13 hw hl.1 rfl (Nat.le_of_ble_eq_true rfl) dX3_set_38 ⟨Nat.le_of_ble_eq_true rfl, Nat.le_of_ble_eq_true rfl⟩ (fun H locs hw => ?_)
        refine W.eq (g2 := F0 m 41 ls [.int r14]) rfl ?_
        refine lv_if_eq (tgt := 46) hx hb dX3_set_41 (by decide) (fun c15 => ?_) (fun c15 => ?_)
        · rw [if_pos c15] at h
          refine lv_aload hx hb dX3_set_46 (lv_at hl 0 rfl) ?_
          refine lv_iload_n hx hb dX3_set_48 rfl (lv_at hl 3 rfl) ?_
          refine lv_aload hx hb dX3_set_49 (lv_at hl 0 rfl) ?_
          replace h := hbd h
          obtain ⟨x16, ex16, h⟩ := h
          refine hr_getI (C := RX2) (T := TX2) (N := 2) hx hb hts iX3_set_X2 hown hk hw rfl 0 (by decide) (hts (.fieldLink RX3 43 "SetterBench$Tray" "sort" "I") (by decide +kernel)) (u_same (hts (.sameField "SetterBench$Tray" "SetterBench$Thing" "sort" "I") (by decide +kernel))) ex16 dX3_set_51 ?_
          refine lv_iload_n hx hb dX3_set_54 rfl (lv_at hl 4 rfl) ?_
          replace h := hbd h
          obtain ⟨r17, er17, h⟩ := h
          refine hcallS (o := some (.long r17)) hx hb hml hown hts hk [.int x16, .int p3] [.int p2, .ref a12] (kX3_numberFor l g er17) gX3_set_X3_numberFor rfl (n := 2) rfl (by decide +kernel) ⟨Nat.le_of_ble_eq_true rfl, Nat.le_of_ble_eq_true rfl⟩ hw hl.1 rfl (Nat.le_of_ble_eq_true rfl) dX3_set_55 ⟨Nat.le_of_ble_eq_true rfl, Nat.le_of_ble_eq_true rfl⟩ (fun H locs hw => ?_)
          refine W.eq (g2 := F0 m 58 ls [.long r17, .int p2, .ref a12]) rfl ?_
          replace h := hbd h
          obtain ⟨u18, eu18, h⟩ := h
          replace h := hbd h
          obtain ⟨⟨r19, f20, z21⟩, er19, h⟩ := h
          dsimp only at h
          refine hcallV (o := some (.int r19)) hx hb hml hown hts hk [.int p2, .long r17] [] (kX2_write l g er19) gX3_set_X2_write rfl (n := 2) rfl (by decide +kernel) ⟨Nat.le_of_ble_eq_true rfl, Nat.le_of_ble_eq_true rfl⟩ (ci := 1) rfl eu18 hw hl.1 rfl (Nat.le_of_ble_eq_true rfl) dX3_set_58 ⟨Nat.le_of_ble_eq_true rfl, Nat.le_of_ble_eq_true rfl⟩ (fun H locs hw => ?_)
          refine W.eq (g2 := F0 m 61 ls [.int r19]) rfl ?_
          refine lv_if_eq (tgt := 68) hx hb dX3_set_61 (by decide) (fun c22 => ?_) (fun c22 => ?_)
          · rw [if_pos c22] at h
            refine lv_iconst (v := 3) hx hb dX3_set_68 (by decide) ?_
            cases h
            exact hret_i hx hb hr hlocks hw dX3_set_69
          · rw [if_neg c22] at h
            refine lv_iconst (v := 0) hx hb dX3_set_64 (by decide) ?_
            refine lv_goto (tgt := 69) hx hb dX3_set_65 (by decide) ?_
            cases h
            exact hret_i hx hb hr hlocks hw dX3_set_69
        · rw [if_neg c15] at h
          refine lv_iconst (v := 2) hx hb dX3_set_44 (by decide) ?_
          cases h
          exact hret_i hx hb hr hlocks hw dX3_set_45
    · rw [if_pos c6] at h
      refine lv_iconst (v := 1) hx hb dX3_set_18 (by decide) ?_
      cases h
      exact hret_i hx hb hr hlocks hw dX3_set_19
  · rw [if_pos c2] at h
    refine lv_iconst (v := (-1)) hx hb dX3_set_7 (by decide) ?_
    cases h
    exact hret_i hx hb hr hlocks hw dX3_set_8
theorem iX3_newStone_X3 : ∀ w ∈ wsX30, w ∈ wsX3_newStone := by decide +kernel
def fX3_newStone (f : hPl) (z : Nat) (a : Nat) (p1 : Int32) : Option (Int64 × hPl × Nat) := (if p1 = 0 then some ((0 : Int64), f, z) else (hgI f a 2 4).bind fun x2 => (hput f a 2 4 (.int (x2 + 1))).bind fun f3 => (hgI f3 a 2 4).bind fun x4 => some ((((10 : Int64) * (x4.toInt64)) + (p1.toInt64)), f3, z))
set_option maxHeartbeats 4000000 in
set_option maxRecDepth 100000 in
theorem kX3_newStone (l : Launch) (g : hGb) {f : hPl} {z : Nat} {a : Nat} {p1 : Int32} {r : Int64} {f' : hPl} {z' : Nat} (h : fX3_newStone f z a p1 = some (r, f', z')) : hCt l g yX3_newStone wsX3_newStone 0 0 0 [.ref a, .int p1] f z (some (.long r)) f' z' := by
  refine hCt.of (cc := cX3_newStone) (maxL := 2) (ret := (some .long)) (by decide +kernel) rfl (by exact Nat.le_of_ble_eq_true rfl) ?_
  intro p e s m below meth c C hname hw ls hl
  obtain ⟨hx, hb, hml, hown, hts, hr, hlocks, hk⟩ := id C
  have hl : lv_has ls 2 [(0, .ref a), (1, .int p1)] := hl
  have hown : s.vm.findClass RX3 = some m.cls := hown
  unfold fX3_newStone at h
  refine lv_iload_n hx hb dX3_newStone_0 rfl (lv_at hl 1 rfl) ?_
  refine lv_if_ne (tgt := 6) hx hb dX3_newStone_1 (by decide) (fun c1 => ?_) (fun c1 => ?_)
  · rw [if_neg c1] at h
    refine lv_aload_n hx hb dX3_newStone_6 rfl (lv_at hl 0 rfl) ?_
    refine lv_dup hx hb dX3_newStone_7 rfl ?_
    replace h := hbd h
    obtain ⟨x2, ex2, h⟩ := h
    refine hr_getI (C := RX3) (T := TX3) (N := 11) hx hb hts iX3_newStone_X3 hown hk hw rfl 4 (by decide) (hts (.fieldLink RX3 104 "SetterBench" "stonesMade" "I") (by decide +kernel)) (fun _ h9 => h9) ex2 dX3_newStone_8 ?_
    refine lv_iconst (v := 1) hx hb dX3_newStone_11 (by decide) ?_
    refine lv_iadd hx hb dX3_newStone_12 ?_
    replace h := hbd h
    obtain ⟨f3, ef3, h⟩ := h
    refine hr_put (C := RX3) (T := TX3) (N := 11) (ty := .int) hx hb hts iX3_newStone_X3 tyX3 tyX3_ok nmX3 hown hk hw rfl 4 (by decide) (hts (.fieldLink RX3 104 "SetterBench" "stonesMade" "I") (by decide +kernel)) (fun _ h9 => h9) rfl (by decide +kernel) rfl rfl ef3 dX3_newStone_13 (fun H locs hw => ?_)
    refine lv_ldc2 (v := (10)) hx hb hown (hts (.constantLong RX3 127 (10)) (by decide +kernel)) dX3_newStone_16 ?_
    refine lv_aload_n hx hb dX3_newStone_19 rfl (lv_at hl 0 rfl) ?_
    replace h := hbd h
    obtain ⟨x4, ex4, h⟩ := h
    refine hr_getI (C := RX3) (T := TX3) (N := 11) hx hb hts iX3_newStone_X3 hown hk hw rfl 4 (by decide) (hts (.fieldLink RX3 104 "SetterBench" "stonesMade" "I") (by decide +kernel)) (fun _ h9 => h9) ex4 dX3_newStone_20 ?_
    refine lv_i2l hx hb dX3_newStone_23 rfl ?_
    refine lv_lmul hx hb dX3_newStone_24 ?_
    refine lv_iload_n hx hb dX3_newStone_25 rfl (lv_at hl 1 rfl) ?_
    refine lv_i2l hx hb dX3_newStone_26 rfl ?_
    refine lv_ladd hx hb dX3_newStone_27 ?_
    cases h
    exact hret_l hx hb hr hlocks hw dX3_newStone_28
  · rw [if_pos c1] at h
    refine lv_lconst (v := 0) hx hb dX3_newStone_4 (by decide) ?_
    cases h
    exact hret_l hx hb hr hlocks hw dX3_newStone_5
theorem iX3_keep_X3 : ∀ w ∈ wsX30, w ∈ wsX3_keep := by decide +kernel
def fX3_keep (f : hPl) (z : Nat) (a : Nat) (p1 : Option Nat) : Option (Unit × hPl × Nat) := (hgQ f a 2 2).bind fun q1 => p1.bind fun a2 => (hob f a2 1).bind fun u3 => (fX2_copyTo f z a2 q1).bind fun r4t => (hput r4t.2.1 a 2 3 (.ref a2)).bind fun f7 => some ((), f7, r4t.2.2)
set_option maxHeartbeats 4000000 in
set_option maxRecDepth 100000 in
theorem kX3_keep (l : Launch) (g : hGb) {f : hPl} {z : Nat} {a : Nat} {p1 : Option Nat} {r : Unit} {f' : hPl} {z' : Nat} (h : fX3_keep f z a p1 = some (r, f', z')) : hCt l g yX3_keep wsX3_keep 2 0 0 [.ref a, va_rf p1] f z none f' z' := by
  refine hCt.of (cc := cX3_keep) (maxL := 2) (ret := none) (by decide +kernel) rfl (by cases p1 <;> exact Nat.le_of_ble_eq_true rfl) ?_
  intro p e s m below meth c C hname hw ls hl
  obtain ⟨hx, hb, hml, hown, hts, hr, hlocks, hk⟩ := id C
  have hl : lv_has ls 2 [(0, .ref a), (1, va_rf p1)] := by cases p1 <;> exact hl
  have hown : s.vm.findClass RX3 = some m.cls := hown
  unfold fX3_keep at h
  refine hv_aload_n hx hb dX3_keep_0 rfl (lv_at hl 1 rfl) ?_
  refine lv_aload_n hx hb dX3_keep_1 rfl (lv_at hl 0 rfl) ?_
  replace h := hbd h
  obtain ⟨q1, eq1, h⟩ := h
  refine hr_getQ (C := RX3) (T := TX3) (N := 11) hx hb hts iX3_keep_X3 hown hk hw rfl 2 (by decide) (hts (.fieldLink RX3 24 "SetterBench" "kept" "[J") (by decide +kernel)) (fun _ h9 => h9) eq1 dX3_keep_2 ?_
  replace h := hbd h
  obtain ⟨a2, rfl, h⟩ := h
  replace h := hbd h
  obtain ⟨u3, eu3, h⟩ := h
  replace h := hbd h
  obtain ⟨⟨r4, f5, z6⟩, er4, h⟩ := h
  dsimp only at h
  refine hcallV (o := none) hx hb hml hown hts hk [va_rf q1] [] (kX2_copyTo l g er4) gX3_keep_X2_copyTo rfl (n := 1) rfl (by decide +kernel) ⟨Nat.le_of_ble_eq_true rfl, Nat.le_of_ble_eq_true rfl⟩ (ci := 1) rfl eu3 hw hl.1 rfl (Nat.le_of_ble_eq_true rfl) dX3_keep_5 ⟨Nat.le_of_ble_eq_true rfl, Nat.le_of_ble_eq_true rfl⟩ (fun H locs hw => ?_)
  refine W.eq (g2 := F0 m 8 ls []) rfl ?_
  refine lv_aload_n hx hb dX3_keep_8 rfl (lv_at hl 0 rfl) ?_
  refine lv_aload_n hx hb dX3_keep_9 rfl (lv_at hl 1 rfl) ?_
  replace h := hbd h
  obtain ⟨f7, ef7, h⟩ := h
  refine hr_put (C := RX3) (T := TX3) (N := 11) (ty := .object "SetterBench$Tray") hx hb hts iX3_keep_X3 tyX3 tyX3_ok nmX3 hown hk hw rfl 3 (by decide) (hts (.fieldLink RX3 63 "SetterBench" "keptTray" "LSetterBench$Tray;") (by decide +kernel)) (fun _ h9 => h9) rfl (by decide +kernel) rfl rfl ef7 dX3_keep_10 (fun H locs hw => ?_)
  cases h
  exact hret_v hx hb hr hlocks hw dX3_keep_13
theorem iX3_sweepOrRefuse_X3 : ∀ w ∈ wsX30, w ∈ wsX3_sweepOrRefuse := by decide +kernel
def fX3_sweepOrRefuse_j80 (f : hPl) (z : Nat) (a : Nat) (v2 : Int32) (v4 : Int32) (v5 : Int32) (v7 : Option Nat) (v8 : Option Nat) : Option (Int32 × hPl × Nat) := v8.bind fun a19 => (hob f a19 1).bind fun u20 => (fX2_howManyTaken f a19 v7 v2 v5).bind fun r21 => (hob f a19 1).bind fun u22 => (fX2_copyRun f z a19 v7 v2 v4 r21).bind fun r23t => (hgI r23t.2.1 a 2 10).bind fun x26 => (hput r23t.2.1 a 2 10 (.int (x26 + r21))).bind fun f27 => (if r21 = v5 then some (0, f27, r23t.2.2) else some ((10 + r21), f27, r23t.2.2))
set_option maxHeartbeats 4000000 in
set_option maxRecDepth 100000 in
theorem kX3_sweepOrRefuse_j80 {g : hGb} {p : Program} {l : Launch} {e : Env} {s : State} {m : MethodId} {args : Array Value} {below : List Frame} {meth : Method} {c : Code} {A : Nat → Prop} (C : hX g p s m args meth c RX3 cX3_sweepOrRefuse 10 wsX3_sweepOrRefuse (some .int)) {r : Int32} {f' : hPl} {z' : Nat}  : ∀ (f : hPl) (z : Nat) (a : Nat) (v2 : Int32) (v4 : Int32) (v5 : Int32) (v7 : Option Nat) (v8 : Option Nat), fX3_sweepOrRefuse_j80 f z a v2 v4 v5 v7 v8 = some (r, f', z') → ∀ (H : Heap) (locs : List Loc) (ls : Array Slot), hW g A s f z H locs → lv_has ls 10 [(0, .ref a), (2, .int v2), (4, .int v4), (5, .int v5), (7, va_rf v7), (8, va_rf v8)] → W p l e (hRm 3 0 0) s m args below meth c H locs 0 0 (hZ g A below args s 0 0 (some (.int r)) f' z') (F0 m 80 ls []) := by
  obtain ⟨hx, hb, hml, hown, hts, hr, hlocks, hk⟩ := id C
  intro f z a v2 v4 v5 v7 v8 h H locs ls hw hl
  unfold fX3_sweepOrRefuse_j80 at h
  refine hv_aload hx hb dX3_sweepOrRefuse_80 (lv_at hl 5 rfl) ?_
  refine hv_aload hx hb dX3_sweepOrRefuse_82 (lv_at hl 4 rfl) ?_
  refine lv_iload_n hx hb dX3_sweepOrRefuse_84 rfl (lv_at hl 1 rfl) ?_
  refine lv_iload hx hb dX3_sweepOrRefuse_85 (lv_at hl 3 rfl) ?_
  replace h := hbd h
  obtain ⟨a19, rfl, h⟩ := h
  replace h := hbd h
  obtain ⟨u20, eu20, h⟩ := h
  replace h := hbd h
  obtain ⟨r21, er21, h⟩ := h
  refine hcallV (o := some (.int r21)) hx hb hml hown hts hk [va_rf v7, .int v2, .int v5] [] (kX2_howManyTaken l g er21) gX3_sweepOrRefuse_X2_howManyTaken rfl (n := 3) rfl (by decide +kernel) ⟨Nat.le_of_ble_eq_true rfl, Nat.le_of_ble_eq_true rfl⟩ (ci := 1) rfl eu20 hw hl.1 rfl (Nat.le_of_ble_eq_true rfl) dX3_sweepOrRefuse_87 ⟨Nat.le_of_ble_eq_true rfl, Nat.le_of_ble_eq_true rfl⟩ (fun H locs hw => ?_)
  refine W.eq (g2 := F0 m 90 ls [.int r21]) rfl ?_
  refine lv_istore (lv' := [(9, .int r21), (0, .ref a), (2, .int v2), (4, .int v4), (5, .int v5), (7, va_rf v7), (8, .ref a19)]) hx hb dX3_sweepOrRefuse_90 hl (by decide) rfl (fun ls hl => ?_)
  refine lv_aload hx hb dX3_sweepOrRefuse_92 (lv_at hl 6 rfl) ?_
  refine hv_aload hx hb dX3_sweepOrRefuse_94 (lv_at hl 5 rfl) ?_
  refine lv_iload_n hx hb dX3_sweepOrRefuse_96 rfl (lv_at hl 2 rfl) ?_
  refine lv_iload hx hb dX3_sweepOrRefuse_97 (lv_at hl 3 rfl) ?_
  refine lv_iload hx hb dX3_sweepOrRefuse_99 (lv_at hl 0 rfl) ?_
  replace h := hbd h
  obtain ⟨u22, eu22, h⟩ := h
  replace h := hbd h
  obtain ⟨⟨r23, f24, z25⟩, er23, h⟩ := h
  dsimp only at h
  refine hcallV (o := none) hx hb hml hown hts hk [va_rf v7, .int v2, .int v4, .int r21] [] (kX2_copyRun l g er23) gX3_sweepOrRefuse_X2_copyRun rfl (n := 4) rfl (by decide +kernel) ⟨Nat.le_of_ble_eq_true rfl, Nat.le_of_ble_eq_true rfl⟩ (ci := 1) rfl eu22 hw hl.1 rfl (Nat.le_of_ble_eq_true rfl) dX3_sweepOrRefuse_101 ⟨Nat.le_of_ble_eq_true rfl, Nat.le_of_ble_eq_true rfl⟩ (fun H locs hw => ?_)
  refine W.eq (g2 := F0 m 104 ls []) rfl ?_
  refine lv_aload_n hx hb dX3_sweepOrRefuse_104 rfl (lv_at hl 1 rfl) ?_
  refine lv_dup hx hb dX3_sweepOrRefuse_105 rfl ?_
  replace h := hbd h
  obtain ⟨x26, ex26, h⟩ := h
  refine hr_getI (C := RX3) (T := TX3) (N := 11) hx hb hts iX3_sweepOrRefuse_X3 hown hk hw rfl 10 (by decide) (hts (.fieldLink RX3 122 "SetterBench" "carriedMembers" "I") (by decide +kernel)) (fun _ h9 => h9) ex26 dX3_sweepOrRefuse_106 ?_
  refine lv_iload hx hb dX3_sweepOrRefuse_109 (lv_at hl 0 rfl) ?_
  refine lv_iadd hx hb dX3_sweepOrRefuse_111 ?_
  replace h := hbd h
  obtain ⟨f27, ef27, h⟩ := h
  refine hr_put (C := RX3) (T := TX3) (N := 11) (ty := .int) hx hb hts iX3_sweepOrRefuse_X3 tyX3 tyX3_ok nmX3 hown hk hw rfl 10 (by decide) (hts (.fieldLink RX3 122 "SetterBench" "carriedMembers" "I") (by decide +kernel)) (fun _ h9 => h9) rfl (by decide +kernel) rfl rfl ef27 dX3_sweepOrRefuse_112 (fun H locs hw => ?_)
  refine lv_iload hx hb dX3_sweepOrRefuse_115 (lv_at hl 0 rfl) ?_
  refine lv_iload hx hb dX3_sweepOrRefuse_117 (lv_at hl 4 rfl) ?_
  refine lv_icmp_ne (tgt := 126) hx hb dX3_sweepOrRefuse_119 (by decide) (fun c28 => ?_) (fun c28 => ?_)
  · rw [if_neg c28] at h
    refine lv_bipush (v := 10) hx hb dX3_sweepOrRefuse_126 (by decide) ?_
    refine lv_iload hx hb dX3_sweepOrRefuse_128 (lv_at hl 0 rfl) ?_
    refine lv_iadd hx hb dX3_sweepOrRefuse_130 ?_
    cases h
    exact hret_i hx hb hr hlocks hw dX3_sweepOrRefuse_131
  · rw [if_pos c28] at h
    refine lv_iconst (v := 0) hx hb dX3_sweepOrRefuse_122 (by decide) ?_
    refine lv_goto (tgt := 131) hx hb dX3_sweepOrRefuse_123 (by decide) ?_
    cases h
    exact hret_i hx hb hr hlocks hw dX3_sweepOrRefuse_131
def fX3_sweepOrRefuse (f : hPl) (z : Nat) (a : Nat) (p1 : Option Nat) (p2 : Int32) (p3 : Option Nat) (p4 : Int32) (p5 : Int32) (p6 : Int32) : Option (Int32 × hPl × Nat) := (if p1 = none then some (1, f, z) else (if p3 = none then some (1, f, z) else (fX3_asTray f  p1).bind fun r3 => (fX3_asTray f  p3).bind fun r4 => (if r3 = none then some (2, f, z) else (if r4 = none then some (2, f, z) else r3.bind fun a7 => (hob f a7 1).bind fun u8 => (fX2_isLike f a7 r4).bind fun r9 => (if r9 = 0 then some (2, f, z) else (hob f a7 1).bind fun u11 => (fX2_hasRun f a7 p2 p5).bind fun r12 => (if r12 = 0 then some (3, f, z) else r4.bind fun a14 => (hob f a14 1).bind fun u15 => (fX2_hasRun f a14 p4 p5).bind fun r16 => (if r16 = 0 then some (3, f, z) else (if p6 = 0 then fX3_sweepOrRefuse_j80 f z a p2 p4 p5 (some a7) (some a14) else (hob f a 2).bind fun u29 => (fX3_keep f z a (some a14)).bind fun r30t => fX3_sweepOrRefuse_j80 r30t.2.1 r30t.2.2 a p2 p4 p5 (some a7) (some a14)))))))))
set_option maxHeartbeats 4000000 in
set_option maxRecDepth 100000 in
theorem kX3_sweepOrRefuse (l : Launch) (g : hGb) {f : hPl} {z : Nat} {a : Nat} {p1 : Option Nat} {p2 : Int32} {p3 : Option Nat} {p4 : Int32} {p5 : Int32} {p6 : Int32} {r : Int32} {f' : hPl} {z' : Nat} (h : fX3_sweepOrRefuse f z a p1 p2 p3 p4 p5 p6 = some (r, f', z')) : hCt l g yX3_sweepOrRefuse wsX3_sweepOrRefuse 3 0 0 [.ref a, va_rf p1, .int p2, va_rf p3, .int p4, .int p5, .int p6] f z (some (.int r)) f' z' := by
  refine hCt.of (cc := cX3_sweepOrRefuse) (maxL := 10) (ret := (some .int)) (by decide +kernel) rfl (by cases p1 <;> cases p3 <;> exact Nat.le_of_ble_eq_true rfl) ?_
  intro p e s m below meth c C hname hw ls hl
  obtain ⟨hx, hb, hml, hown, hts, hr, hlocks, hk⟩ := id C
  have hl : lv_has ls 10 [(0, .ref a), (1, va_rf p1), (2, .int p2), (3, va_rf p3), (4, .int p4), (5, .int p5), (6, .int p6)] := by cases p1 <;> cases p3 <;> exact hl
  have hown : s.vm.findClass RX3 = some m.cls := hown
  unfold fX3_sweepOrRefuse at h
  refine hv_aload_n hx hb dX3_sweepOrRefuse_0 rfl (lv_at hl 1 rfl) ?_
  refine hv_ifnull (q := p1) (tgt := 8) hx hb dX3_sweepOrRefuse_1 (by decide) (fun c1 => ?_) (fun c1 => ?_)
  · rw [if_pos c1] at h
    refine lv_iconst (v := 1) hx hb dX3_sweepOrRefuse_8 (by decide) ?_
    cases h
    exact hret_i hx hb hr hlocks hw dX3_sweepOrRefuse_9
  · rw [if_neg c1] at h
    refine hv_aload_n hx hb dX3_sweepOrRefuse_4 rfl (lv_at hl 3 rfl) ?_
    refine hv_ifnonnull (q := p3) (tgt := 10) hx hb dX3_sweepOrRefuse_5 (by decide) (fun c2 => ?_) (fun c2 => ?_)
    · rw [if_neg c2] at h
      refine hv_aload_n hx hb dX3_sweepOrRefuse_10 rfl (lv_at hl 1 rfl) ?_
      replace h := hbd h
      obtain ⟨r3, er3, h⟩ := h
      refine hcallS (o := some (va_rf r3)) hx hb hml hown hts hk [va_rf p1] [] (kX3_asTray l g er3) gX3_sweepOrRefuse_X3_asTray rfl (n := 1) rfl (by decide +kernel) ⟨Nat.le_of_ble_eq_true rfl, Nat.le_of_ble_eq_true rfl⟩ hw hl.1 rfl (Nat.le_of_ble_eq_true rfl) dX3_sweepOrRefuse_11 ⟨Nat.le_of_ble_eq_true rfl, Nat.le_of_ble_eq_true rfl⟩ (fun H locs hw => ?_)
      refine W.eq (g2 := F0 m 14 ls [va_rf r3]) rfl ?_
      refine hv_astore (q := r3) (lv' := [(7, va_rf r3), (0, .ref a), (1, va_rf p1), (2, .int p2), (3, va_rf p3), (4, .int p4), (5, .int p5), (6, .int p6)]) hx hb dX3_sweepOrRefuse_14 hl (by decide) rfl (fun ls hl => ?_)
      refine hv_aload_n hx hb dX3_sweepOrRefuse_16 rfl (lv_at hl 4 rfl) ?_
      replace h := hbd h
      obtain ⟨r4, er4, h⟩ := h
      refine hcallS (o := some (va_rf r4)) hx hb hml hown hts hk [va_rf p3] [] (kX3_asTray l g er4) gX3_sweepOrRefuse_X3_asTray rfl (n := 1) rfl (by decide +kernel) ⟨Nat.le_of_ble_eq_true rfl, Nat.le_of_ble_eq_true rfl⟩ hw hl.1 rfl (Nat.le_of_ble_eq_true rfl) dX3_sweepOrRefuse_17 ⟨Nat.le_of_ble_eq_true rfl, Nat.le_of_ble_eq_true rfl⟩ (fun H locs hw => ?_)
      refine W.eq (g2 := F0 m 20 ls [va_rf r4]) rfl ?_
      refine hv_astore (q := r4) (lv' := [(8, va_rf r4), (7, va_rf r3), (0, .ref a), (1, va_rf p1), (2, .int p2), (3, va_rf p3), (4, .int p4), (5, .int p5), (6, .int p6)]) hx hb dX3_sweepOrRefuse_20 hl (by decide) (by cases r3 <;> rfl) (fun ls hl => ?_)
      refine hv_aload hx hb dX3_sweepOrRefuse_22 (lv_at hl 1 rfl) ?_
      refine hv_ifnull (q := r3) (tgt := 42) hx hb dX3_sweepOrRefuse_24 (by decide) (fun c5 => ?_) (fun c5 => ?_)
      · rw [if_pos c5] at h
        refine lv_iconst (v := 2) hx hb dX3_sweepOrRefuse_42 (by decide) ?_
        cases h
        exact hret_i hx hb hr hlocks hw dX3_sweepOrRefuse_43
      · rw [if_neg c5] at h
        refine hv_aload hx hb dX3_sweepOrRefuse_27 (lv_at hl 0 rfl) ?_
        refine hv_ifnull (q := r4) (tgt := 42) hx hb dX3_sweepOrRefuse_29 (by decide) (fun c6 => ?_) (fun c6 => ?_)
        · rw [if_pos c6] at h
          refine lv_iconst (v := 2) hx hb dX3_sweepOrRefuse_42 (by decide) ?_
          cases h
          exact hret_i hx hb hr hlocks hw dX3_sweepOrRefuse_43
        · rw [if_neg c6] at h
          refine hv_aload hx hb dX3_sweepOrRefuse_32 (lv_at hl 1 rfl) ?_
          refine hv_aload hx hb dX3_sweepOrRefuse_34 (lv_at hl 0 rfl) ?_
          replace h := hbd h
          obtain ⟨a7, rfl, h⟩ := h
          replace h := hbd h
          obtain ⟨u8, eu8, h⟩ := h
          replace h := hbd h
          obtain ⟨r9, er9, h⟩ := h
          refine hcallV (o := some (.int r9)) hx hb hml hown hts hk [va_rf r4] [] (kX2_isLike l g er9) gX3_sweepOrRefuse_X2_isLike rfl (n := 1) rfl (by decide +kernel) ⟨Nat.le_of_ble_eq_true rfl, Nat.le_of_ble_eq_true rfl⟩ (ci := 1) rfl eu8 hw hl.1 rfl (Nat.le_of_ble_eq_true rfl) dX3_sweepOrRefuse_36 ⟨Nat.le_of_ble_eq_true rfl, Nat.le_of_ble_eq_true rfl⟩ (fun H locs hw => ?_)
          refine W.eq (g2 := F0 m 39 ls [.int r9]) rfl ?_
          refine lv_if_ne (tgt := 44) hx hb dX3_sweepOrRefuse_39 (by decide) (fun c10 => ?_) (fun c10 => ?_)
          · rw [if_neg c10] at h
            refine lv_aload hx hb dX3_sweepOrRefuse_44 (lv_at hl 1 rfl) ?_
            refine lv_iload_n hx hb dX3_sweepOrRefuse_46 rfl (lv_at hl 4 rfl) ?_
            refine lv_iload hx hb dX3_sweepOrRefuse_47 (lv_at hl 7 rfl) ?_
            replace h := hbd h
            obtain ⟨u11, eu11, h⟩ := h
            replace h := hbd h
            obtain ⟨r12, er12, h⟩ := h
            refine hcallV (o := some (.int r12)) hx hb hml hown hts hk [.int p2, .int p5] [] (kX2_hasRun l g er12) gX3_sweepOrRefuse_X2_hasRun rfl (n := 2) rfl (by decide +kernel) ⟨Nat.le_of_ble_eq_true rfl, Nat.le_of_ble_eq_true rfl⟩ (ci := 1) rfl eu11 hw hl.1 rfl (Nat.le_of_ble_eq_true rfl) dX3_sweepOrRefuse_49 ⟨Nat.le_of_ble_eq_true rfl, Nat.le_of_ble_eq_true rfl⟩ (fun H locs hw => ?_)
            refine W.eq (g2 := F0 m 52 ls [.int r12]) rfl ?_
            refine lv_if_eq (tgt := 67) hx hb dX3_sweepOrRefuse_52 (by decide) (fun c13 => ?_) (fun c13 => ?_)
            · rw [if_pos c13] at h
              refine lv_iconst (v := 3) hx hb dX3_sweepOrRefuse_67 (by decide) ?_
              cases h
              exact hret_i hx hb hr hlocks hw dX3_sweepOrRefuse_68
            · rw [if_neg c13] at h
              refine hv_aload hx hb dX3_sweepOrRefuse_55 (lv_at hl 0 rfl) ?_
              refine lv_iload hx hb dX3_sweepOrRefuse_57 (lv_at hl 6 rfl) ?_
              refine lv_iload hx hb dX3_sweepOrRefuse_59 (lv_at hl 7 rfl) ?_
              replace h := hbd h
              obtain ⟨a14, rfl, h⟩ := h
              replace h := hbd h
              obtain ⟨u15, eu15, h⟩ := h
              replace h := hbd h
              obtain ⟨r16, er16, h⟩ := h
              refine hcallV (o := some (.int r16)) hx hb hml hown hts hk [.int p4, .int p5] [] (kX2_hasRun l g er16) gX3_sweepOrRefuse_X2_hasRun rfl (n := 2) rfl (by decide +kernel) ⟨Nat.le_of_ble_eq_true rfl, Nat.le_of_ble_eq_true rfl⟩ (ci := 1) rfl eu15 hw hl.1 rfl (Nat.le_of_ble_eq_true rfl) dX3_sweepOrRefuse_61 ⟨Nat.le_of_ble_eq_true rfl, Nat.le_of_ble_eq_true rfl⟩ (fun H locs hw => ?_)
              refine W.eq (g2 := F0 m 64 ls [.int r16]) rfl ?_
              refine lv_if_ne (tgt := 69) hx hb dX3_sweepOrRefuse_64 (by decide) (fun c17 => ?_) (fun c17 => ?_)
              · rw [if_neg c17] at h
                refine lv_iload hx hb dX3_sweepOrRefuse_69 (lv_at hl 8 rfl) ?_
                refine lv_if_eq (tgt := 80) hx hb dX3_sweepOrRefuse_71 (by decide) (fun c18 => ?_) (fun c18 => ?_)
                · rw [if_pos c18] at h
                  exact kX3_sweepOrRefuse_j80 C _ _ _ _ _ _ _ _ h _ _ _ hw (lv_sub hl [2, 4, 6, 7, 1, 0] rfl)
                · rw [if_neg c18] at h
                  refine lv_aload_n hx hb dX3_sweepOrRefuse_74 rfl (lv_at hl 2 rfl) ?_
                  refine lv_aload hx hb dX3_sweepOrRefuse_75 (lv_at hl 0 rfl) ?_
                  replace h := hbd h
                  obtain ⟨u29, eu29, h⟩ := h
                  replace h := hbd h
                  obtain ⟨⟨r30, f31, z32⟩, er30, h⟩ := h
                  dsimp only at h
                  refine hcallV (o := none) hx hb hml hown hts hk [va_rf (some a14)] [] (kX3_keep l g er30) gX3_sweepOrRefuse_X3_keep rfl (n := 1) rfl (by decide +kernel) ⟨Nat.le_of_ble_eq_true rfl, Nat.le_of_ble_eq_true rfl⟩ (ci := 2) rfl eu29 hw hl.1 rfl (Nat.le_of_ble_eq_true rfl) dX3_sweepOrRefuse_77 ⟨Nat.le_of_ble_eq_true rfl, Nat.le_of_ble_eq_true rfl⟩ (fun H locs hw => ?_)
                  refine W.eq (g2 := F0 m 80 ls []) rfl ?_
                  exact kX3_sweepOrRefuse_j80 C _ _ _ _ _ _ _ _ h _ _ _ hw (lv_sub hl [2, 4, 6, 7, 1, 0] rfl)
              · rw [if_pos c17] at h
                refine lv_iconst (v := 3) hx hb dX3_sweepOrRefuse_67 (by decide) ?_
                cases h
                exact hret_i hx hb hr hlocks hw dX3_sweepOrRefuse_68
          · rw [if_pos c10] at h
            refine lv_iconst (v := 2) hx hb dX3_sweepOrRefuse_42 (by decide) ?_
            cases h
            exact hret_i hx hb hr hlocks hw dX3_sweepOrRefuse_43
    · rw [if_pos c2] at h
      refine lv_iconst (v := 1) hx hb dX3_sweepOrRefuse_8 (by decide) ?_
      cases h
      exact hret_i hx hb hr hlocks hw dX3_sweepOrRefuse_9
theorem iX3_tally_X3 : ∀ w ∈ wsX30, w ∈ wsX3_tally := by decide +kernel
def fX3_tally (f : hPl) (z : Nat) (a : Nat) (p1 : Int32) : Option (Unit × hPl × Nat) := (if p1.toInt < 0 ∨ 3 < p1.toInt then (hgI f a 2 9).bind fun x2 => (hput f a 2 9 (.int (x2 + 1))).bind fun f3 => some ((), f3, z) else if p1 = 0 then (hgI f a 2 5).bind fun x5 => (hput f a 2 5 (.int (x5 + 1))).bind fun f6 => some ((), f6, z) else if p1 = 1 then (hgI f a 2 6).bind fun x8 => (hput f a 2 6 (.int (x8 + 1))).bind fun f9 => some ((), f9, z) else if p1 = 2 then (hgI f a 2 7).bind fun x11 => (hput f a 2 7 (.int (x11 + 1))).bind fun f12 => some ((), f12, z) else if p1 = 3 then (hgI f a 2 8).bind fun x14 => (hput f a 2 8 (.int (x14 + 1))).bind fun f15 => some ((), f15, z) else none)
set_option maxHeartbeats 4000000 in
set_option maxRecDepth 100000 in
theorem kX3_tally (l : Launch) (g : hGb) {f : hPl} {z : Nat} {a : Nat} {p1 : Int32} {r : Unit} {f' : hPl} {z' : Nat} (h : fX3_tally f z a p1 = some (r, f', z')) : hCt l g yX3_tally wsX3_tally 0 0 0 [.ref a, .int p1] f z none f' z' := by
  refine hCt.of (cc := cX3_tally) (maxL := 2) (ret := none) (by decide +kernel) rfl (by exact Nat.le_of_ble_eq_true rfl) ?_
  intro p e s m below meth c C hname hw ls hl
  obtain ⟨hx, hb, hml, hown, hts, hr, hlocks, hk⟩ := id C
  have hl : lv_has ls 2 [(0, .ref a), (1, .int p1)] := hl
  have hown : s.vm.findClass RX3 = some m.cls := hown
  unfold fX3_tally at h
  refine lv_iload_n hx hb dX3_tally_0 rfl (lv_at hl 1 rfl) ?_
  by_cases c1 : p1.toInt < 0 ∨ 3 < p1.toInt
  · rw [if_pos c1] at h
    refine lv_tableOut (tgt := 84) hx hb dX3_tally_1 c1 (by decide) ?_
    refine lv_aload_n hx hb dX3_tally_84 rfl (lv_at hl 0 rfl) ?_
    refine lv_dup hx hb dX3_tally_85 rfl ?_
    replace h := hbd h
    obtain ⟨x2, ex2, h⟩ := h
    refine hr_getI (C := RX3) (T := TX3) (N := 11) hx hb hts iX3_tally_X3 hown hk hw rfl 9 (by decide) (hts (.fieldLink RX3 119 "SetterBench" "stoppedSweeps" "I") (by decide +kernel)) (fun _ h9 => h9) ex2 dX3_tally_86 ?_
    refine lv_iconst (v := 1) hx hb dX3_tally_89 (by decide) ?_
    refine lv_iadd hx hb dX3_tally_90 ?_
    replace h := hbd h
    obtain ⟨f3, ef3, h⟩ := h
    refine hr_put (C := RX3) (T := TX3) (N := 11) (ty := .int) hx hb hts iX3_tally_X3 tyX3 tyX3_ok nmX3 hown hk hw rfl 9 (by decide) (hts (.fieldLink RX3 119 "SetterBench" "stoppedSweeps" "I") (by decide +kernel)) (fun _ h9 => h9) rfl (by decide +kernel) rfl rfl ef3 dX3_tally_91 (fun H locs hw => ?_)
    cases h
    exact hret_v hx hb hr hlocks hw dX3_tally_94
  rw [if_neg c1] at h
  by_cases c4 : p1 = 0
  · rw [if_pos c4] at h
    refine hv_arm (off := 31) (tgt := 32) hx hb c4 dX3_tally_1 (by decide) (by decide) (by decide) (by decide) ?_
    refine lv_aload_n hx hb dX3_tally_32 rfl (lv_at hl 0 rfl) ?_
    refine lv_dup hx hb dX3_tally_33 rfl ?_
    replace h := hbd h
    obtain ⟨x5, ex5, h⟩ := h
    refine hr_getI (C := RX3) (T := TX3) (N := 11) hx hb hts iX3_tally_X3 hown hk hw rfl 5 (by decide) (hts (.fieldLink RX3 107 "SetterBench" "doneSweeps" "I") (by decide +kernel)) (fun _ h9 => h9) ex5 dX3_tally_34 ?_
    refine lv_iconst (v := 1) hx hb dX3_tally_37 (by decide) ?_
    refine lv_iadd hx hb dX3_tally_38 ?_
    replace h := hbd h
    obtain ⟨f6, ef6, h⟩ := h
    refine hr_put (C := RX3) (T := TX3) (N := 11) (ty := .int) hx hb hts iX3_tally_X3 tyX3 tyX3_ok nmX3 hown hk hw rfl 5 (by decide) (hts (.fieldLink RX3 107 "SetterBench" "doneSweeps" "I") (by decide +kernel)) (fun _ h9 => h9) rfl (by decide +kernel) rfl rfl ef6 dX3_tally_39 (fun H locs hw => ?_)
    refine lv_goto (tgt := 94) hx hb dX3_tally_42 (by decide) ?_
    cases h
    exact hret_v hx hb hr hlocks hw dX3_tally_94
  rw [if_neg c4] at h
  by_cases c7 : p1 = 1
  · rw [if_pos c7] at h
    refine hv_arm (off := 44) (tgt := 45) hx hb c7 dX3_tally_1 (by decide) (by decide) (by decide) (by decide) ?_
    refine lv_aload_n hx hb dX3_tally_45 rfl (lv_at hl 0 rfl) ?_
    refine lv_dup hx hb dX3_tally_46 rfl ?_
    replace h := hbd h
    obtain ⟨x8, ex8, h⟩ := h
    refine hr_getI (C := RX3) (T := TX3) (N := 11) hx hb hts iX3_tally_X3 hown hk hw rfl 6 (by decide) (hts (.fieldLink RX3 110 "SetterBench" "emptySweeps" "I") (by decide +kernel)) (fun _ h9 => h9) ex8 dX3_tally_47 ?_
    refine lv_iconst (v := 1) hx hb dX3_tally_50 (by decide) ?_
    refine lv_iadd hx hb dX3_tally_51 ?_
    replace h := hbd h
    obtain ⟨f9, ef9, h⟩ := h
    refine hr_put (C := RX3) (T := TX3) (N := 11) (ty := .int) hx hb hts iX3_tally_X3 tyX3 tyX3_ok nmX3 hown hk hw rfl 6 (by decide) (hts (.fieldLink RX3 110 "SetterBench" "emptySweeps" "I") (by decide +kernel)) (fun _ h9 => h9) rfl (by decide +kernel) rfl rfl ef9 dX3_tally_52 (fun H locs hw => ?_)
    refine lv_goto (tgt := 94) hx hb dX3_tally_55 (by decide) ?_
    cases h
    exact hret_v hx hb hr hlocks hw dX3_tally_94
  rw [if_neg c7] at h
  by_cases c10 : p1 = 2
  · rw [if_pos c10] at h
    refine hv_arm (off := 57) (tgt := 58) hx hb c10 dX3_tally_1 (by decide) (by decide) (by decide) (by decide) ?_
    refine lv_aload_n hx hb dX3_tally_58 rfl (lv_at hl 0 rfl) ?_
    refine lv_dup hx hb dX3_tally_59 rfl ?_
    replace h := hbd h
    obtain ⟨x11, ex11, h⟩ := h
    refine hr_getI (C := RX3) (T := TX3) (N := 11) hx hb hts iX3_tally_X3 hown hk hw rfl 7 (by decide) (hts (.fieldLink RX3 113 "SetterBench" "unlikeSweeps" "I") (by decide +kernel)) (fun _ h9 => h9) ex11 dX3_tally_60 ?_
    refine lv_iconst (v := 1) hx hb dX3_tally_63 (by decide) ?_
    refine lv_iadd hx hb dX3_tally_64 ?_
    replace h := hbd h
    obtain ⟨f12, ef12, h⟩ := h
    refine hr_put (C := RX3) (T := TX3) (N := 11) (ty := .int) hx hb hts iX3_tally_X3 tyX3 tyX3_ok nmX3 hown hk hw rfl 7 (by decide) (hts (.fieldLink RX3 113 "SetterBench" "unlikeSweeps" "I") (by decide +kernel)) (fun _ h9 => h9) rfl (by decide +kernel) rfl rfl ef12 dX3_tally_65 (fun H locs hw => ?_)
    refine lv_goto (tgt := 94) hx hb dX3_tally_68 (by decide) ?_
    cases h
    exact hret_v hx hb hr hlocks hw dX3_tally_94
  rw [if_neg c10] at h
  by_cases c13 : p1 = 3
  · rw [if_pos c13] at h
    refine hv_arm (off := 70) (tgt := 71) hx hb c13 dX3_tally_1 (by decide) (by decide) (by decide) (by decide) ?_
    refine lv_aload_n hx hb dX3_tally_71 rfl (lv_at hl 0 rfl) ?_
    refine lv_dup hx hb dX3_tally_72 rfl ?_
    replace h := hbd h
    obtain ⟨x14, ex14, h⟩ := h
    refine hr_getI (C := RX3) (T := TX3) (N := 11) hx hb hts iX3_tally_X3 hown hk hw rfl 8 (by decide) (hts (.fieldLink RX3 116 "SetterBench" "beyondSweeps" "I") (by decide +kernel)) (fun _ h9 => h9) ex14 dX3_tally_73 ?_
    refine lv_iconst (v := 1) hx hb dX3_tally_76 (by decide) ?_
    refine lv_iadd hx hb dX3_tally_77 ?_
    replace h := hbd h
    obtain ⟨f15, ef15, h⟩ := h
    refine hr_put (C := RX3) (T := TX3) (N := 11) (ty := .int) hx hb hts iX3_tally_X3 tyX3 tyX3_ok nmX3 hown hk hw rfl 8 (by decide) (hts (.fieldLink RX3 116 "SetterBench" "beyondSweeps" "I") (by decide +kernel)) (fun _ h9 => h9) rfl (by decide +kernel) rfl rfl ef15 dX3_tally_78 (fun H locs hw => ?_)
    refine lv_goto (tgt := 94) hx hb dX3_tally_81 (by decide) ?_
    cases h
    exact hret_v hx hb hr hlocks hw dX3_tally_94
  rw [if_neg c13] at h
  cases h
def fX3_sweepThings (f : hPl) (z : Nat) (a : Nat) (p1 : Option Nat) (p2 : Int32) (p3 : Option Nat) (p4 : Int32) (p5 : Int32) (p6 : Int32) : Option (Int32 × hPl × Nat) := (hob f a 2).bind fun u1 => (fX3_sweepOrRefuse f z a p1 p2 p3 p4 p5 p6).bind fun r2t => (hob r2t.2.1 a 2).bind fun u5 => (fX3_tally r2t.2.1 r2t.2.2 a r2t.1).bind fun r6t => some (r2t.1, r6t.2.1, r6t.2.2)
set_option maxHeartbeats 4000000 in
set_option maxRecDepth 100000 in
theorem kX3_sweepThings (l : Launch) (g : hGb) {f : hPl} {z : Nat} {a : Nat} {p1 : Option Nat} {p2 : Int32} {p3 : Option Nat} {p4 : Int32} {p5 : Int32} {p6 : Int32} {r : Int32} {f' : hPl} {z' : Nat} (h : fX3_sweepThings f z a p1 p2 p3 p4 p5 p6 = some (r, f', z')) : hCt l g yX3_sweepThings wsX3_sweepThings 4 0 0 [.ref a, va_rf p1, .int p2, va_rf p3, .int p4, .int p5, .int p6] f z (some (.int r)) f' z' := by
  refine hCt.of (cc := cX3_sweepThings) (maxL := 8) (ret := (some .int)) (by decide +kernel) rfl (by cases p1 <;> cases p3 <;> exact Nat.le_of_ble_eq_true rfl) ?_
  intro p e s m below meth c C hname hw ls hl
  obtain ⟨hx, hb, hml, hown, hts, hr, hlocks, hk⟩ := id C
  have hl : lv_has ls 8 [(0, .ref a), (1, va_rf p1), (2, .int p2), (3, va_rf p3), (4, .int p4), (5, .int p5), (6, .int p6)] := by cases p1 <;> cases p3 <;> exact hl
  have hown : s.vm.findClass RX3 = some m.cls := hown
  unfold fX3_sweepThings at h
  refine lv_aload_n hx hb dX3_sweepThings_0 rfl (lv_at hl 0 rfl) ?_
  refine hv_aload_n hx hb dX3_sweepThings_1 rfl (lv_at hl 1 rfl) ?_
  refine lv_iload_n hx hb dX3_sweepThings_2 rfl (lv_at hl 2 rfl) ?_
  refine hv_aload_n hx hb dX3_sweepThings_3 rfl (lv_at hl 3 rfl) ?_
  refine lv_iload hx hb dX3_sweepThings_4 (lv_at hl 4 rfl) ?_
  refine lv_iload hx hb dX3_sweepThings_6 (lv_at hl 5 rfl) ?_
  refine lv_iload hx hb dX3_sweepThings_8 (lv_at hl 6 rfl) ?_
  replace h := hbd h
  obtain ⟨u1, eu1, h⟩ := h
  replace h := hbd h
  obtain ⟨⟨r2, f3, z4⟩, er2, h⟩ := h
  dsimp only at h
  refine hcallV (o := some (.int r2)) hx hb hml hown hts hk [va_rf p1, .int p2, va_rf p3, .int p4, .int p5, .int p6] [] (kX3_sweepOrRefuse l g er2) gX3_sweepThings_X3_sweepOrRefuse rfl (n := 6) rfl (by decide +kernel) ⟨Nat.le_of_ble_eq_true rfl, Nat.le_of_ble_eq_true rfl⟩ (ci := 2) rfl eu1 hw hl.1 rfl (Nat.le_of_ble_eq_true rfl) dX3_sweepThings_10 ⟨Nat.le_of_ble_eq_true rfl, Nat.le_of_ble_eq_true rfl⟩ (fun H locs hw => ?_)
  refine W.eq (g2 := F0 m 13 ls [.int r2]) rfl ?_
  refine lv_istore (lv' := [(7, .int r2), (0, .ref a), (1, va_rf p1), (2, .int p2), (3, va_rf p3), (4, .int p4), (5, .int p5), (6, .int p6)]) hx hb dX3_sweepThings_13 hl (by decide) rfl (fun ls hl => ?_)
  refine lv_aload_n hx hb dX3_sweepThings_15 rfl (lv_at hl 1 rfl) ?_
  refine lv_iload hx hb dX3_sweepThings_16 (lv_at hl 0 rfl) ?_
  replace h := hbd h
  obtain ⟨u5, eu5, h⟩ := h
  replace h := hbd h
  obtain ⟨⟨r6, f7, z8⟩, er6, h⟩ := h
  dsimp only at h
  refine hcallV (o := none) hx hb hml hown hts hk [.int r2] [] (kX3_tally l g er6) gX3_sweepThings_X3_tally rfl (n := 1) rfl (by decide +kernel) ⟨Nat.le_of_ble_eq_true rfl, Nat.le_of_ble_eq_true rfl⟩ (ci := 2) rfl eu5 hw hl.1 rfl (Nat.le_of_ble_eq_true rfl) dX3_sweepThings_18 ⟨Nat.le_of_ble_eq_true rfl, Nat.le_of_ble_eq_true rfl⟩ (fun H locs hw => ?_)
  refine W.eq (g2 := F0 m 21 ls []) rfl ?_
  refine lv_iload hx hb dX3_sweepThings_21 (lv_at hl 0 rfl) ?_
  cases h
  exact hret_i hx hb hr hlocks hw dX3_sweepThings_23
theorem iX3_put_X3 : ∀ w ∈ wsX30, w ∈ wsX3_put := by decide +kernel
def fX3_put (f : hPl) (z : Nat) (a : Nat) (p1 : Int32) (p2 : Int32) (p3 : Int32) : Option (Int32 × hPl × Nat) := (fX3_isPlace f  p1).bind fun r1 => (if r1 = 0 then some ((-1), f, z) else (if p3 < 0 then some ((-1), f, z) else (if p3 ≤ 4 then (hgQ f a 2 1).bind fun q5 => (hob f a 2).bind fun u6 => (fX3_newStone f z a p3).bind fun r7t => q5.bind fun a10 => (hob r7t.2.1 a10 1).bind fun u11 => (fX2_write r7t.2.1 r7t.2.2 a10 0 r7t.1).bind fun r12t => (hgQ r12t.2.1 a 2 1).bind fun q15 => (hgQ r12t.2.1 a 2 0).bind fun q16 => q16.bind fun a17 => (hlQ r12t.2.1 a17 p1).bind fun q18 => (hob r12t.2.1 a 2).bind fun u19 => (fX3_sweepThings r12t.2.1 r12t.2.2 a q15 0 q18 p2 1 0).bind fun r20t => some (r20t.1, r20t.2.1, r20t.2.2) else some ((-1), f, z))))
set_option maxHeartbeats 4000000 in
set_option maxRecDepth 100000 in
theorem kX3_put (l : Launch) (g : hGb) {f : hPl} {z : Nat} {a : Nat} {p1 : Int32} {p2 : Int32} {p3 : Int32} {r : Int32} {f' : hPl} {z' : Nat} (h : fX3_put f z a p1 p2 p3 = some (r, f', z')) : hCt l g yX3_put wsX3_put 5 0 0 [.ref a, .int p1, .int p2, .int p3] f z (some (.int r)) f' z' := by
  refine hCt.of (cc := cX3_put) (maxL := 4) (ret := (some .int)) (by decide +kernel) rfl (by exact Nat.le_of_ble_eq_true rfl) ?_
  intro p e s m below meth c C hname hw ls hl
  obtain ⟨hx, hb, hml, hown, hts, hr, hlocks, hk⟩ := id C
  have hl : lv_has ls 4 [(0, .ref a), (1, .int p1), (2, .int p2), (3, .int p3)] := hl
  have hown : s.vm.findClass RX3 = some m.cls := hown
  unfold fX3_put at h
  refine lv_iload_n hx hb dX3_put_0 rfl (lv_at hl 1 rfl) ?_
  replace h := hbd h
  obtain ⟨r1, er1, h⟩ := h
  refine hcallS (o := some (.int r1)) hx hb hml hown hts hk [.int p1] [] (kX3_isPlace l g er1) gX3_put_X3_isPlace rfl (n := 1) rfl (by decide +kernel) ⟨Nat.le_of_ble_eq_true rfl, Nat.le_of_ble_eq_true rfl⟩ hw hl.1 rfl (Nat.le_of_ble_eq_true rfl) dX3_put_1 ⟨Nat.le_of_ble_eq_true rfl, Nat.le_of_ble_eq_true rfl⟩ (fun H locs hw => ?_)
  refine W.eq (g2 := F0 m 4 ls [.int r1]) rfl ?_
  refine lv_if_eq (tgt := 16) hx hb dX3_put_4 (by decide) (fun c2 => ?_) (fun c2 => ?_)
  · rw [if_pos c2] at h
    refine lv_iconst (v := (-1)) hx hb dX3_put_16 (by decide) ?_
    cases h
    exact hret_i hx hb hr hlocks hw dX3_put_17
  · rw [if_neg c2] at h
    refine lv_iload_n hx hb dX3_put_7 rfl (lv_at hl 3 rfl) ?_
    refine lv_if_lt (tgt := 16) hx hb dX3_put_8 (by decide) (fun c3 => ?_) (fun c3 => ?_)
    · rw [if_pos c3] at h
      refine lv_iconst (v := (-1)) hx hb dX3_put_16 (by decide) ?_
      cases h
      exact hret_i hx hb hr hlocks hw dX3_put_17
    · rw [if_neg c3] at h
      refine lv_iload_n hx hb dX3_put_11 rfl (lv_at hl 3 rfl) ?_
      refine lv_iconst (v := 4) hx hb dX3_put_12 (by decide) ?_
      refine lv_icmp_le (tgt := 18) hx hb dX3_put_13 (by decide) (fun c4 => ?_) (fun c4 => ?_)
      · rw [if_pos c4] at h
        refine lv_aload_n hx hb dX3_put_18 rfl (lv_at hl 0 rfl) ?_
        replace h := hbd h
        obtain ⟨q5, eq5, h⟩ := h
        refine hr_getQ (C := RX3) (T := TX3) (N := 11) hx hb hts iX3_put_X3 hown hk hw rfl 1 (by decide) (hts (.fieldLink RX3 20 "SetterBench" "hand" "LSetterBench$Tray;") (by decide +kernel)) (fun _ h9 => h9) eq5 dX3_put_19 ?_
        refine lv_iconst (v := 0) hx hb dX3_put_22 (by decide) ?_
        refine lv_aload_n hx hb dX3_put_23 rfl (lv_at hl 0 rfl) ?_
        refine lv_iload_n hx hb dX3_put_24 rfl (lv_at hl 3 rfl) ?_
        replace h := hbd h
        obtain ⟨u6, eu6, h⟩ := h
        replace h := hbd h
        obtain ⟨⟨r7, f8, z9⟩, er7, h⟩ := h
        dsimp only at h
        refine hcallV (o := some (.long r7)) hx hb hml hown hts hk [.int p3] [.int 0, va_rf q5] (kX3_newStone l g er7) gX3_put_X3_newStone rfl (n := 1) rfl (by decide +kernel) ⟨Nat.le_of_ble_eq_true rfl, Nat.le_of_ble_eq_true rfl⟩ (ci := 2) rfl eu6 hw hl.1 rfl (by cases q5 <;> exact Nat.le_of_ble_eq_true rfl) dX3_put_25 ⟨Nat.le_of_ble_eq_true rfl, Nat.le_of_ble_eq_true rfl⟩ (fun H locs hw => ?_)
        refine W.eq (g2 := F0 m 28 ls [.long r7, .int 0, va_rf q5]) rfl ?_
        replace h := hbd h
        obtain ⟨a10, rfl, h⟩ := h
        replace h := hbd h
        obtain ⟨u11, eu11, h⟩ := h
        replace h := hbd h
        obtain ⟨⟨r12, f13, z14⟩, er12, h⟩ := h
        dsimp only at h
        refine hcallV (o := some (.int r12)) hx hb hml hown hts hk [.int 0, .long r7] [] (kX2_write l g er12) gX3_put_X2_write rfl (n := 2) rfl (by decide +kernel) ⟨Nat.le_of_ble_eq_true rfl, Nat.le_of_ble_eq_true rfl⟩ (ci := 1) rfl eu11 hw hl.1 rfl (Nat.le_of_ble_eq_true rfl) dX3_put_28 ⟨Nat.le_of_ble_eq_true rfl, Nat.le_of_ble_eq_true rfl⟩ (fun H locs hw => ?_)
        refine W.eq (g2 := F0 m 31 ls [.int r12]) rfl ?_
        refine lv_pop hx hb dX3_put_31 rfl ?_
        refine lv_aload_n hx hb dX3_put_32 rfl (lv_at hl 0 rfl) ?_
        refine lv_aload_n hx hb dX3_put_33 rfl (lv_at hl 0 rfl) ?_
        replace h := hbd h
        obtain ⟨q15, eq15, h⟩ := h
        refine hr_getQ (C := RX3) (T := TX3) (N := 11) hx hb hts iX3_put_X3 hown hk hw rfl 1 (by decide) (hts (.fieldLink RX3 20 "SetterBench" "hand" "LSetterBench$Tray;") (by decide +kernel)) (fun _ h9 => h9) eq15 dX3_put_34 ?_
        refine lv_iconst (v := 0) hx hb dX3_put_37 (by decide) ?_
        refine lv_aload_n hx hb dX3_put_38 rfl (lv_at hl 0 rfl) ?_
        replace h := hbd h
        obtain ⟨q16, eq16, h⟩ := h
        refine hr_getQ (C := RX3) (T := TX3) (N := 11) hx hb hts iX3_put_X3 hown hk hw rfl 0 (by decide) (hts (.fieldLink RX3 11 "SetterBench" "places" "[LSetterBench$Thing;") (by decide +kernel)) (fun _ h9 => h9) eq16 dX3_put_39 ?_
        refine lv_iload_n hx hb dX3_put_42 rfl (lv_at hl 1 rfl) ?_
        replace h := hbd h
        obtain ⟨a17, rfl, h⟩ := h
        replace h := hbd h
        obtain ⟨q18, eq18, h⟩ := h
        refine hr_lQ hx hb hk hw eq18 dX3_put_43 ?_
        refine lv_iload_n hx hb dX3_put_44 rfl (lv_at hl 2 rfl) ?_
        refine lv_iconst (v := 1) hx hb dX3_put_45 (by decide) ?_
        refine lv_iconst (v := 0) hx hb dX3_put_46 (by decide) ?_
        replace h := hbd h
        obtain ⟨u19, eu19, h⟩ := h
        replace h := hbd h
        obtain ⟨⟨r20, f21, z22⟩, er20, h⟩ := h
        dsimp only at h
        refine hcallV (o := some (.int r20)) hx hb hml hown hts hk [va_rf q15, .int 0, va_rf q18, .int p2, .int 1, .int 0] [] (kX3_sweepThings l g er20) gX3_put_X3_sweepThings rfl (n := 6) rfl (by decide +kernel) ⟨Nat.le_of_ble_eq_true rfl, Nat.le_of_ble_eq_true rfl⟩ (ci := 2) rfl eu19 hw hl.1 rfl (Nat.le_of_ble_eq_true rfl) dX3_put_47 ⟨Nat.le_of_ble_eq_true rfl, Nat.le_of_ble_eq_true rfl⟩ (fun H locs hw => ?_)
        refine W.eq (g2 := F0 m 50 ls [.int r20]) rfl ?_
        cases h
        exact hret_i hx hb hr hlocks hw dX3_put_50
      · rw [if_neg c4] at h
        refine lv_iconst (v := (-1)) hx hb dX3_put_16 (by decide) ?_
        cases h
        exact hret_i hx hb hr hlocks hw dX3_put_17
theorem iX3_sweep_X3 : ∀ w ∈ wsX30, w ∈ wsX3_sweep := by decide +kernel
def fX3_sweep (f : hPl) (z : Nat) (a : Nat) (p1 : Int32) (p2 : Int32) (p3 : Int32) (p4 : Int32) (p5 : Int32) : Option (Int32 × hPl × Nat) := (fX3_isPlace f  p1).bind fun r1 => (if r1 = 0 then some ((-1), f, z) else (fX3_isPlace f  p3).bind fun r3 => (if r3 = 0 then some ((-1), f, z) else (hgQ f a 2 0).bind fun q5 => q5.bind fun a6 => (hlQ f a6 p1).bind fun q7 => (hgQ f a 2 0).bind fun q8 => q8.bind fun a9 => (hlQ f a9 p3).bind fun q10 => (hob f a 2).bind fun u11 => (fX3_sweepThings f z a q7 p2 q10 p4 p5 1).bind fun r12t => some (r12t.1, r12t.2.1, r12t.2.2)))
set_option maxHeartbeats 4000000 in
set_option maxRecDepth 100000 in
theorem kX3_sweep (l : Launch) (g : hGb) {f : hPl} {z : Nat} {a : Nat} {p1 : Int32} {p2 : Int32} {p3 : Int32} {p4 : Int32} {p5 : Int32} {r : Int32} {f' : hPl} {z' : Nat} (h : fX3_sweep f z a p1 p2 p3 p4 p5 = some (r, f', z')) : hCt l g yX3_sweep wsX3_sweep 5 0 0 [.ref a, .int p1, .int p2, .int p3, .int p4, .int p5] f z (some (.int r)) f' z' := by
  refine hCt.of (cc := cX3_sweep) (maxL := 6) (ret := (some .int)) (by decide +kernel) rfl (by exact Nat.le_of_ble_eq_true rfl) ?_
  intro p e s m below meth c C hname hw ls hl
  obtain ⟨hx, hb, hml, hown, hts, hr, hlocks, hk⟩ := id C
  have hl : lv_has ls 6 [(0, .ref a), (1, .int p1), (2, .int p2), (3, .int p3), (4, .int p4), (5, .int p5)] := hl
  have hown : s.vm.findClass RX3 = some m.cls := hown
  unfold fX3_sweep at h
  refine lv_iload_n hx hb dX3_sweep_0 rfl (lv_at hl 1 rfl) ?_
  replace h := hbd h
  obtain ⟨r1, er1, h⟩ := h
  refine hcallS (o := some (.int r1)) hx hb hml hown hts hk [.int p1] [] (kX3_isPlace l g er1) gX3_sweep_X3_isPlace rfl (n := 1) rfl (by decide +kernel) ⟨Nat.le_of_ble_eq_true rfl, Nat.le_of_ble_eq_true rfl⟩ hw hl.1 rfl (Nat.le_of_ble_eq_true rfl) dX3_sweep_1 ⟨Nat.le_of_ble_eq_true rfl, Nat.le_of_ble_eq_true rfl⟩ (fun H locs hw => ?_)
  refine W.eq (g2 := F0 m 4 ls [.int r1]) rfl ?_
  refine lv_if_eq (tgt := 14) hx hb dX3_sweep_4 (by decide) (fun c2 => ?_) (fun c2 => ?_)
  · rw [if_pos c2] at h
    refine lv_iconst (v := (-1)) hx hb dX3_sweep_14 (by decide) ?_
    cases h
    exact hret_i hx hb hr hlocks hw dX3_sweep_15
  · rw [if_neg c2] at h
    refine lv_iload_n hx hb dX3_sweep_7 rfl (lv_at hl 3 rfl) ?_
    replace h := hbd h
    obtain ⟨r3, er3, h⟩ := h
    refine hcallS (o := some (.int r3)) hx hb hml hown hts hk [.int p3] [] (kX3_isPlace l g er3) gX3_sweep_X3_isPlace rfl (n := 1) rfl (by decide +kernel) ⟨Nat.le_of_ble_eq_true rfl, Nat.le_of_ble_eq_true rfl⟩ hw hl.1 rfl (Nat.le_of_ble_eq_true rfl) dX3_sweep_8 ⟨Nat.le_of_ble_eq_true rfl, Nat.le_of_ble_eq_true rfl⟩ (fun H locs hw => ?_)
    refine W.eq (g2 := F0 m 11 ls [.int r3]) rfl ?_
    refine lv_if_ne (tgt := 16) hx hb dX3_sweep_11 (by decide) (fun c4 => ?_) (fun c4 => ?_)
    · rw [if_neg c4] at h
      refine lv_aload_n hx hb dX3_sweep_16 rfl (lv_at hl 0 rfl) ?_
      refine lv_aload_n hx hb dX3_sweep_17 rfl (lv_at hl 0 rfl) ?_
      replace h := hbd h
      obtain ⟨q5, eq5, h⟩ := h
      refine hr_getQ (C := RX3) (T := TX3) (N := 11) hx hb hts iX3_sweep_X3 hown hk hw rfl 0 (by decide) (hts (.fieldLink RX3 11 "SetterBench" "places" "[LSetterBench$Thing;") (by decide +kernel)) (fun _ h9 => h9) eq5 dX3_sweep_18 ?_
      refine lv_iload_n hx hb dX3_sweep_21 rfl (lv_at hl 1 rfl) ?_
      replace h := hbd h
      obtain ⟨a6, rfl, h⟩ := h
      replace h := hbd h
      obtain ⟨q7, eq7, h⟩ := h
      refine hr_lQ hx hb hk hw eq7 dX3_sweep_22 ?_
      refine lv_iload_n hx hb dX3_sweep_23 rfl (lv_at hl 2 rfl) ?_
      refine lv_aload_n hx hb dX3_sweep_24 rfl (lv_at hl 0 rfl) ?_
      replace h := hbd h
      obtain ⟨q8, eq8, h⟩ := h
      refine hr_getQ (C := RX3) (T := TX3) (N := 11) hx hb hts iX3_sweep_X3 hown hk hw rfl 0 (by decide) (hts (.fieldLink RX3 11 "SetterBench" "places" "[LSetterBench$Thing;") (by decide +kernel)) (fun _ h9 => h9) eq8 dX3_sweep_25 ?_
      refine lv_iload_n hx hb dX3_sweep_28 rfl (lv_at hl 3 rfl) ?_
      replace h := hbd h
      obtain ⟨a9, rfl, h⟩ := h
      replace h := hbd h
      obtain ⟨q10, eq10, h⟩ := h
      refine hr_lQ hx hb hk hw eq10 dX3_sweep_29 ?_
      refine lv_iload hx hb dX3_sweep_30 (lv_at hl 4 rfl) ?_
      refine lv_iload hx hb dX3_sweep_32 (lv_at hl 5 rfl) ?_
      refine lv_iconst (v := 1) hx hb dX3_sweep_34 (by decide) ?_
      replace h := hbd h
      obtain ⟨u11, eu11, h⟩ := h
      replace h := hbd h
      obtain ⟨⟨r12, f13, z14⟩, er12, h⟩ := h
      dsimp only at h
      refine hcallV (o := some (.int r12)) hx hb hml hown hts hk [va_rf q7, .int p2, va_rf q10, .int p4, .int p5, .int 1] [] (kX3_sweepThings l g er12) gX3_sweep_X3_sweepThings rfl (n := 6) rfl (by decide +kernel) ⟨Nat.le_of_ble_eq_true rfl, Nat.le_of_ble_eq_true rfl⟩ (ci := 2) rfl eu11 hw hl.1 rfl (Nat.le_of_ble_eq_true rfl) dX3_sweep_35 ⟨Nat.le_of_ble_eq_true rfl, Nat.le_of_ble_eq_true rfl⟩ (fun H locs hw => ?_)
      refine W.eq (g2 := F0 m 38 ls [.int r12]) rfl ?_
      cases h
      exact hret_i hx hb hr hlocks hw dX3_sweep_38
    · rw [if_pos c4] at h
      refine lv_iconst (v := (-1)) hx hb dX3_sweep_14 (by decide) ?_
      cases h
      exact hret_i hx hb hr hlocks hw dX3_sweep_15
theorem iX3_back_X3 : ∀ w ∈ wsX30, w ∈ wsX3_back := by decide +kernel
def fX3_back (f : hPl) (z : Nat) (a : Nat) : Option (Int32 × hPl × Nat) := (hgQ f a 2 3).bind fun q1 => (if q1 = none then some ((-1), f, z) else (hgQ f a 2 3).bind fun q3 => (hput f a 2 3 (.null)).bind fun f4 => (hgQ f4 a 2 2).bind fun q5 => q3.bind fun a6 => (hob f4 a6 1).bind fun u7 => (fX2_copyFrom f4 z a6 q5).bind fun r8t => (hob r8t.2.1 a6 1).bind fun u11 => (fX2_size r8t.2.1 a6 ).bind fun r12 => some (r12, r8t.2.1, r8t.2.2))
set_option maxHeartbeats 4000000 in
set_option maxRecDepth 100000 in
theorem kX3_back (l : Launch) (g : hGb) {f : hPl} {z : Nat} {a : Nat} {r : Int32} {f' : hPl} {z' : Nat} (h : fX3_back f z a = some (r, f', z')) : hCt l g yX3_back wsX3_back 2 0 0 [.ref a] f z (some (.int r)) f' z' := by
  refine hCt.of (cc := cX3_back) (maxL := 2) (ret := (some .int)) (by decide +kernel) rfl (by exact Nat.le_of_ble_eq_true rfl) ?_
  intro p e s m below meth c C hname hw ls hl
  obtain ⟨hx, hb, hml, hown, hts, hr, hlocks, hk⟩ := id C
  have hl : lv_has ls 2 [(0, .ref a)] := hl
  have hown : s.vm.findClass RX3 = some m.cls := hown
  unfold fX3_back at h
  refine lv_aload_n hx hb dX3_back_0 rfl (lv_at hl 0 rfl) ?_
  replace h := hbd h
  obtain ⟨q1, eq1, h⟩ := h
  refine hr_getQ (C := RX3) (T := TX3) (N := 11) hx hb hts iX3_back_X3 hown hk hw rfl 3 (by decide) (hts (.fieldLink RX3 63 "SetterBench" "keptTray" "LSetterBench$Tray;") (by decide +kernel)) (fun _ h9 => h9) eq1 dX3_back_1 ?_
  refine hv_ifnonnull (q := q1) (tgt := 9) hx hb dX3_back_4 (by decide) (fun c2 => ?_) (fun c2 => ?_)
  · rw [if_neg c2] at h
    refine lv_aload_n hx hb dX3_back_9 rfl (lv_at hl 0 rfl) ?_
    replace h := hbd h
    obtain ⟨q3, eq3, h⟩ := h
    refine hr_getQ (C := RX3) (T := TX3) (N := 11) hx hb hts iX3_back_X3 hown hk hw rfl 3 (by decide) (hts (.fieldLink RX3 63 "SetterBench" "keptTray" "LSetterBench$Tray;") (by decide +kernel)) (fun _ h9 => h9) eq3 dX3_back_10 ?_
    refine hv_astore_n (q := q3) (lv' := [(1, va_rf q3), (0, .ref a)]) hx hb dX3_back_13 rfl hl (by decide) rfl (fun ls hl => ?_)
    refine lv_aload_n hx hb dX3_back_14 rfl (lv_at hl 1 rfl) ?_
    refine lv_null hx hb dX3_back_15 ?_
    replace h := hbd h
    obtain ⟨f4, ef4, h⟩ := h
    refine hr_put (C := RX3) (T := TX3) (N := 11) (ty := .object "SetterBench$Tray") hx hb hts iX3_back_X3 tyX3 tyX3_ok nmX3 hown hk hw rfl 3 (by decide) (hts (.fieldLink RX3 63 "SetterBench" "keptTray" "LSetterBench$Tray;") (by decide +kernel)) (fun _ h9 => h9) rfl (by decide +kernel) rfl rfl ef4 dX3_back_16 (fun H locs hw => ?_)
    refine hv_aload_n hx hb dX3_back_19 rfl (lv_at hl 0 rfl) ?_
    refine lv_aload_n hx hb dX3_back_20 rfl (lv_at hl 1 rfl) ?_
    replace h := hbd h
    obtain ⟨q5, eq5, h⟩ := h
    refine hr_getQ (C := RX3) (T := TX3) (N := 11) hx hb hts iX3_back_X3 hown hk hw rfl 2 (by decide) (hts (.fieldLink RX3 24 "SetterBench" "kept" "[J") (by decide +kernel)) (fun _ h9 => h9) eq5 dX3_back_21 ?_
    replace h := hbd h
    obtain ⟨a6, rfl, h⟩ := h
    replace h := hbd h
    obtain ⟨u7, eu7, h⟩ := h
    replace h := hbd h
    obtain ⟨⟨r8, f9, z10⟩, er8, h⟩ := h
    dsimp only at h
    refine hcallV (o := none) hx hb hml hown hts hk [va_rf q5] [] (kX2_copyFrom l g er8) gX3_back_X2_copyFrom rfl (n := 1) rfl (by decide +kernel) ⟨Nat.le_of_ble_eq_true rfl, Nat.le_of_ble_eq_true rfl⟩ (ci := 1) rfl eu7 hw hl.1 rfl (Nat.le_of_ble_eq_true rfl) dX3_back_24 ⟨Nat.le_of_ble_eq_true rfl, Nat.le_of_ble_eq_true rfl⟩ (fun H locs hw => ?_)
    refine W.eq (g2 := F0 m 27 ls []) rfl ?_
    refine lv_aload_n hx hb dX3_back_27 rfl (lv_at hl 0 rfl) ?_
    replace h := hbd h
    obtain ⟨u11, eu11, h⟩ := h
    replace h := hbd h
    obtain ⟨r12, er12, h⟩ := h
    refine hcallV (o := some (.int r12)) hx hb hml hown hts hk [] [] (kX2_size l g er12) gX3_back_X2_size rfl (n := 0) rfl (by decide +kernel) ⟨Nat.le_of_ble_eq_true rfl, Nat.le_of_ble_eq_true rfl⟩ (ci := 1) rfl eu11 hw hl.1 rfl (Nat.le_of_ble_eq_true rfl) dX3_back_28 ⟨Nat.le_of_ble_eq_true rfl, Nat.le_of_ble_eq_true rfl⟩ (fun H locs hw => ?_)
    refine W.eq (g2 := F0 m 31 ls [.int r12]) rfl ?_
    cases h
    exact hret_i hx hb hr hlocks hw dX3_back_31
  · rw [if_pos c2] at h
    refine lv_iconst (v := (-1)) hx hb dX3_back_7 (by decide) ?_
    cases h
    exact hret_i hx hb hr hlocks hw dX3_back_8
theorem iX3_light_X3 : ∀ w ∈ wsX30, w ∈ wsX3_light := by decide +kernel
theorem iX3_light_X0 : ∀ w ∈ wsX00, w ∈ wsX3_light := by decide +kernel
def fX3_light (f : hPl) (z : Nat) (a : Nat) (p1 : Int32) : Option (Int32 × hPl × Nat) := (fX3_isPlace f  p1).bind fun r1 => (if r1 = 0 then some ((-1), f, z) else (hgQ f a 2 0).bind fun q3 => q3.bind fun a4 => (hlQ f a4 p1).bind fun q5 => (hii f q5 0).bind fun x6 => (if x6 = 0 then some ((-1), f, z) else q5.bind fun a8 => (hob f a8 0).bind fun u9 => (hgI f a8 0 1).bind fun x10 => (hput f a8 0 1 (.int (x10 + 1))).bind fun f11 => (hgI f11 a8 0 1).bind fun x12 => some (x12, f11, z)))
set_option maxHeartbeats 4000000 in
set_option maxRecDepth 100000 in
theorem kX3_light (l : Launch) (g : hGb) {f : hPl} {z : Nat} {a : Nat} {p1 : Int32} {r : Int32} {f' : hPl} {z' : Nat} (h : fX3_light f z a p1 = some (r, f', z')) : hCt l g yX3_light wsX3_light 1 0 0 [.ref a, .int p1] f z (some (.int r)) f' z' := by
  refine hCt.of (cc := cX3_light) (maxL := 4) (ret := (some .int)) (by decide +kernel) rfl (by exact Nat.le_of_ble_eq_true rfl) ?_
  intro p e s m below meth c C hname hw ls hl
  obtain ⟨hx, hb, hml, hown, hts, hr, hlocks, hk⟩ := id C
  have hl : lv_has ls 4 [(0, .ref a), (1, .int p1)] := hl
  have hown : s.vm.findClass RX3 = some m.cls := hown
  unfold fX3_light at h
  refine lv_iload_n hx hb dX3_light_0 rfl (lv_at hl 1 rfl) ?_
  replace h := hbd h
  obtain ⟨r1, er1, h⟩ := h
  refine hcallS (o := some (.int r1)) hx hb hml hown hts hk [.int p1] [] (kX3_isPlace l g er1) gX3_light_X3_isPlace rfl (n := 1) rfl (by decide +kernel) ⟨Nat.le_of_ble_eq_true rfl, Nat.le_of_ble_eq_true rfl⟩ hw hl.1 rfl (Nat.le_of_ble_eq_true rfl) dX3_light_1 ⟨Nat.le_of_ble_eq_true rfl, Nat.le_of_ble_eq_true rfl⟩ (fun H locs hw => ?_)
  refine W.eq (g2 := F0 m 4 ls [.int r1]) rfl ?_
  refine lv_if_eq (tgt := 41) hx hb dX3_light_4 (by decide) (fun c2 => ?_) (fun c2 => ?_)
  · rw [if_pos c2] at h
    refine lv_iconst (v := (-1)) hx hb dX3_light_41 (by decide) ?_
    cases h
    exact hret_i hx hb hr hlocks hw dX3_light_42
  · rw [if_neg c2] at h
    refine lv_aload_n hx hb dX3_light_7 rfl (lv_at hl 0 rfl) ?_
    replace h := hbd h
    obtain ⟨q3, eq3, h⟩ := h
    refine hr_getQ (C := RX3) (T := TX3) (N := 11) hx hb hts iX3_light_X3 hown hk hw rfl 0 (by decide) (hts (.fieldLink RX3 11 "SetterBench" "places" "[LSetterBench$Thing;") (by decide +kernel)) (fun _ h9 => h9) eq3 dX3_light_8 ?_
    refine lv_iload_n hx hb dX3_light_11 rfl (lv_at hl 1 rfl) ?_
    replace h := hbd h
    obtain ⟨a4, rfl, h⟩ := h
    replace h := hbd h
    obtain ⟨q5, eq5, h⟩ := h
    refine hr_lQ hx hb hk hw eq5 dX3_light_12 ?_
    refine hv_astore_n (q := q5) (lv' := [(3, va_rf q5), (0, .ref a), (1, .int p1)]) hx hb dX3_light_13 rfl hl (by decide) rfl (fun ls hl => ?_)
    refine hv_aload_n hx hb dX3_light_14 rfl (lv_at hl 0 rfl) ?_
    replace h := hbd h
    obtain ⟨x6, ex6, h⟩ := h
    refine hr_instL (q := q5) hx hb hown (hts (.classLink RX3 32 RX0) (by decide +kernel)) hk hw ex6 dX3_light_15 ?_
    refine lv_if_eq (tgt := 41) hx hb dX3_light_18 (by decide) (fun c7 => ?_) (fun c7 => ?_)
    · rw [if_pos c7] at h
      refine lv_iconst (v := (-1)) hx hb dX3_light_41 (by decide) ?_
      cases h
      exact hret_i hx hb hr hlocks hw dX3_light_42
    · rw [if_neg c7] at h
      refine hv_aload_n hx hb dX3_light_21 rfl (lv_at hl 0 rfl) ?_
      replace h := hbd h
      obtain ⟨a8, rfl, h⟩ := h
      replace h := hbd h
      obtain ⟨u9, eu9, h⟩ := h
      refine hr_castL hx hb hown (hts (.classLink RX3 32 RX0) (by decide +kernel)) hk hw eu9 dX3_light_22 ?_
      refine lv_astore_n (lv' := [(2, .ref a8), (3, .ref a8), (0, .ref a), (1, .int p1)]) hx hb dX3_light_25 rfl hl (by decide) rfl (fun ls hl => ?_)
      refine lv_aload_n hx hb dX3_light_26 rfl (lv_at hl 0 rfl) ?_
      refine lv_dup hx hb dX3_light_27 rfl ?_
      replace h := hbd h
      obtain ⟨x10, ex10, h⟩ := h
      refine hr_getI (C := RX0) (T := TX0) (N := 2) hx hb hts iX3_light_X0 hown hk hw rfl 1 (by decide) (hts (.fieldLink RX3 74 "SetterBench$Lamp" "timesLit" "I") (by decide +kernel)) (fun _ h9 => h9) ex10 dX3_light_28 ?_
      refine lv_iconst (v := 1) hx hb dX3_light_31 (by decide) ?_
      refine lv_iadd hx hb dX3_light_32 ?_
      replace h := hbd h
      obtain ⟨f11, ef11, h⟩ := h
      refine hr_put (C := RX0) (T := TX0) (N := 2) (ty := .int) hx hb hts iX3_light_X0 tyX0 tyX0_ok nmX0 hown hk hw rfl 1 (by decide) (hts (.fieldLink RX3 74 "SetterBench$Lamp" "timesLit" "I") (by decide +kernel)) (fun _ h9 => h9) rfl (by decide +kernel) rfl rfl ef11 dX3_light_33 (fun H locs hw => ?_)
      refine lv_aload_n hx hb dX3_light_36 rfl (lv_at hl 0 rfl) ?_
      replace h := hbd h
      obtain ⟨x12, ex12, h⟩ := h
      refine hr_getI (C := RX0) (T := TX0) (N := 2) hx hb hts iX3_light_X0 hown hk hw rfl 1 (by decide) (hts (.fieldLink RX3 74 "SetterBench$Lamp" "timesLit" "I") (by decide +kernel)) (fun _ h9 => h9) ex12 dX3_light_37 ?_
      cases h
      exact hret_i hx hb hr hlocks hw dX3_light_40
theorem iX3_trayOn_X3 : ∀ w ∈ wsX30, w ∈ wsX3_trayOn := by decide +kernel
def fX3_trayOn (f : hPl) (a : Nat) (p1 : Int32) : Option (Option Nat) := (fX3_isPlace f  p1).bind fun r1 => (if r1 = 0 then some none else (hgQ f a 2 0).bind fun q3 => q3.bind fun a4 => (hlQ f a4 p1).bind fun q5 => (fX3_asTray f  q5).bind fun r6 => some r6)
set_option maxHeartbeats 4000000 in
set_option maxRecDepth 100000 in
theorem kX3_trayOn (l : Launch) (g : hGb) {f : hPl} {z : Nat} {a : Nat} {p1 : Int32} {r : Option Nat} (h : fX3_trayOn f a p1 = some r) : hCt l g yX3_trayOn wsX3_trayOn 1 0 0 [.ref a, .int p1] f z (some (va_rf r)) f z := by
  refine hCt.of (cc := cX3_trayOn) (maxL := 2) (ret := (some (.object "SetterBench$Tray"))) (by decide +kernel) rfl (by exact Nat.le_of_ble_eq_true rfl) ?_
  intro p e s m below meth c C hname hw ls hl
  obtain ⟨hx, hb, hml, hown, hts, hr, hlocks, hk⟩ := id C
  have hl : lv_has ls 2 [(0, .ref a), (1, .int p1)] := hl
  have hown : s.vm.findClass RX3 = some m.cls := hown
  unfold fX3_trayOn at h
  refine lv_iload_n hx hb dX3_trayOn_0 rfl (lv_at hl 1 rfl) ?_
  replace h := hbd h
  obtain ⟨r1, er1, h⟩ := h
  refine hcallS (o := some (.int r1)) hx hb hml hown hts hk [.int p1] [] (kX3_isPlace l g er1) gX3_trayOn_X3_isPlace rfl (n := 1) rfl (by decide +kernel) ⟨Nat.le_of_ble_eq_true rfl, Nat.le_of_ble_eq_true rfl⟩ hw hl.1 rfl (Nat.le_of_ble_eq_true rfl) dX3_trayOn_1 ⟨Nat.le_of_ble_eq_true rfl, Nat.le_of_ble_eq_true rfl⟩ (fun H locs hw => ?_)
  refine W.eq (g2 := F0 m 4 ls [.int r1]) rfl ?_
  refine lv_if_eq (tgt := 19) hx hb dX3_trayOn_4 (by decide) (fun c2 => ?_) (fun c2 => ?_)
  · rw [if_pos c2] at h
    refine lv_null hx hb dX3_trayOn_19 ?_
    cases h
    exact hret_a hx hb hr hlocks hw dX3_trayOn_20
  · rw [if_neg c2] at h
    refine lv_aload_n hx hb dX3_trayOn_7 rfl (lv_at hl 0 rfl) ?_
    replace h := hbd h
    obtain ⟨q3, eq3, h⟩ := h
    refine hr_getQ (C := RX3) (T := TX3) (N := 11) hx hb hts iX3_trayOn_X3 hown hk hw rfl 0 (by decide) (hts (.fieldLink RX3 11 "SetterBench" "places" "[LSetterBench$Thing;") (by decide +kernel)) (fun _ h9 => h9) eq3 dX3_trayOn_8 ?_
    refine lv_iload_n hx hb dX3_trayOn_11 rfl (lv_at hl 1 rfl) ?_
    replace h := hbd h
    obtain ⟨a4, rfl, h⟩ := h
    replace h := hbd h
    obtain ⟨q5, eq5, h⟩ := h
    refine hr_lQ hx hb hk hw eq5 dX3_trayOn_12 ?_
    replace h := hbd h
    obtain ⟨r6, er6, h⟩ := h
    refine hcallS (o := some (va_rf r6)) hx hb hml hown hts hk [va_rf q5] [] (kX3_asTray l g er6) gX3_trayOn_X3_asTray rfl (n := 1) rfl (by decide +kernel) ⟨Nat.le_of_ble_eq_true rfl, Nat.le_of_ble_eq_true rfl⟩ hw hl.1 rfl (Nat.le_of_ble_eq_true rfl) dX3_trayOn_13 ⟨Nat.le_of_ble_eq_true rfl, Nat.le_of_ble_eq_true rfl⟩ (fun H locs hw => ?_)
    refine W.eq (g2 := F0 m 16 ls [va_rf r6]) rfl ?_
    refine lv_goto (tgt := 20) hx hb dX3_trayOn_16 (by decide) ?_
    cases h
    exact hret_a hx hb hr hlocks hw dX3_trayOn_20
def fX3_member (f : hPl) (a : Nat) (p1 : Int32) (p2 : Int32) : Option Int64 := (hob f a 2).bind fun u1 => (fX3_trayOn f a p1).bind fun r2 => (if r2 = none then some (-1 : Int64) else r2.bind fun a4 => (hob f a4 1).bind fun u5 => (fX2_read f a4 p2).bind fun r6 => some r6)
set_option maxHeartbeats 4000000 in
set_option maxRecDepth 100000 in
theorem kX3_member (l : Launch) (g : hGb) {f : hPl} {z : Nat} {a : Nat} {p1 : Int32} {p2 : Int32} {r : Int64} (h : fX3_member f a p1 p2 = some r) : hCt l g yX3_member wsX3_member 2 0 0 [.ref a, .int p1, .int p2] f z (some (.long r)) f z := by
  refine hCt.of (cc := cX3_member) (maxL := 4) (ret := (some .long)) (by decide +kernel) rfl (by exact Nat.le_of_ble_eq_true rfl) ?_
  intro p e s m below meth c C hname hw ls hl
  obtain ⟨hx, hb, hml, hown, hts, hr, hlocks, hk⟩ := id C
  have hl : lv_has ls 4 [(0, .ref a), (1, .int p1), (2, .int p2)] := hl
  have hown : s.vm.findClass RX3 = some m.cls := hown
  unfold fX3_member at h
  refine lv_aload_n hx hb dX3_member_0 rfl (lv_at hl 0 rfl) ?_
  refine lv_iload_n hx hb dX3_member_1 rfl (lv_at hl 1 rfl) ?_
  replace h := hbd h
  obtain ⟨u1, eu1, h⟩ := h
  replace h := hbd h
  obtain ⟨r2, er2, h⟩ := h
  refine hcallV (o := some (va_rf r2)) hx hb hml hown hts hk [.int p1] [] (kX3_trayOn l g er2) gX3_member_X3_trayOn rfl (n := 1) rfl (by decide +kernel) ⟨Nat.le_of_ble_eq_true rfl, Nat.le_of_ble_eq_true rfl⟩ (ci := 2) rfl eu1 hw hl.1 rfl (Nat.le_of_ble_eq_true rfl) dX3_member_2 ⟨Nat.le_of_ble_eq_true rfl, Nat.le_of_ble_eq_true rfl⟩ (fun H locs hw => ?_)
  refine W.eq (g2 := F0 m 5 ls [va_rf r2]) rfl ?_
  refine hv_astore_n (q := r2) (lv' := [(3, va_rf r2), (0, .ref a), (1, .int p1), (2, .int p2)]) hx hb dX3_member_5 rfl hl (by decide) rfl (fun ls hl => ?_)
  refine hv_aload_n hx hb dX3_member_6 rfl (lv_at hl 0 rfl) ?_
  refine hv_ifnonnull (q := r2) (tgt := 16) hx hb dX3_member_7 (by decide) (fun c3 => ?_) (fun c3 => ?_)
  · rw [if_neg c3] at h
    refine hv_aload_n hx hb dX3_member_16 rfl (lv_at hl 0 rfl) ?_
    refine lv_iload_n hx hb dX3_member_17 rfl (lv_at hl 3 rfl) ?_
    replace h := hbd h
    obtain ⟨a4, rfl, h⟩ := h
    replace h := hbd h
    obtain ⟨u5, eu5, h⟩ := h
    replace h := hbd h
    obtain ⟨r6, er6, h⟩ := h
    refine hcallV (o := some (.long r6)) hx hb hml hown hts hk [.int p2] [] (kX2_read l g er6) gX3_member_X2_read rfl (n := 1) rfl (by decide +kernel) ⟨Nat.le_of_ble_eq_true rfl, Nat.le_of_ble_eq_true rfl⟩ (ci := 1) rfl eu5 hw hl.1 rfl (Nat.le_of_ble_eq_true rfl) dX3_member_18 ⟨Nat.le_of_ble_eq_true rfl, Nat.le_of_ble_eq_true rfl⟩ (fun H locs hw => ?_)
    refine W.eq (g2 := F0 m 21 ls [.long r6]) rfl ?_
    cases h
    exact hret_l hx hb hr hlocks hw dX3_member_21
  · rw [if_pos c3] at h
    refine lv_ldc2 (v := (-1)) hx hb hown (hts (.constantLong RX3 81 (-1)) (by decide +kernel)) dX3_member_10 ?_
    refine lv_goto (tgt := 21) hx hb dX3_member_13 (by decide) ?_
    cases h
    exact hret_l hx hb hr hlocks hw dX3_member_21
def fX3_sizeOf (f : hPl) (p1 : Option Nat) : Option Int32 := (fX3_asTray f  p1).bind fun r1 => (if r1 = none then some 0 else r1.bind fun a3 => (hob f a3 1).bind fun u4 => (fX2_size f a3 ).bind fun r5 => some r5)
set_option maxHeartbeats 4000000 in
set_option maxRecDepth 100000 in
theorem kX3_sizeOf (l : Launch) (g : hGb) {f : hPl} {z : Nat} {p1 : Option Nat} {r : Int32} (h : fX3_sizeOf f p1 = some r) : hCt l g yX3_sizeOf wsX3_sizeOf 1 0 0 [va_rf p1] f z (some (.int r)) f z := by
  refine hCt.of (cc := cX3_sizeOf) (maxL := 2) (ret := (some .int)) (by decide +kernel) rfl (by cases p1 <;> exact Nat.le_of_ble_eq_true rfl) ?_
  intro p e s m below meth c C hname hw ls hl
  obtain ⟨hx, hb, hml, hown, hts, hr, hlocks, hk⟩ := id C
  have hl : lv_has ls 2 [(0, va_rf p1)] := by cases p1 <;> exact hl
  have hown : s.vm.findClass RX3 = some m.cls := hown
  unfold fX3_sizeOf at h
  refine hv_aload_n hx hb dX3_sizeOf_0 rfl (lv_at hl 0 rfl) ?_
  replace h := hbd h
  obtain ⟨r1, er1, h⟩ := h
  refine hcallS (o := some (va_rf r1)) hx hb hml hown hts hk [va_rf p1] [] (kX3_asTray l g er1) gX3_sizeOf_X3_asTray rfl (n := 1) rfl (by decide +kernel) ⟨Nat.le_of_ble_eq_true rfl, Nat.le_of_ble_eq_true rfl⟩ hw hl.1 rfl (Nat.le_of_ble_eq_true rfl) dX3_sizeOf_1 ⟨Nat.le_of_ble_eq_true rfl, Nat.le_of_ble_eq_true rfl⟩ (fun H locs hw => ?_)
  refine W.eq (g2 := F0 m 4 ls [va_rf r1]) rfl ?_
  refine hv_astore_n (q := r1) (lv' := [(1, va_rf r1), (0, va_rf p1)]) hx hb dX3_sizeOf_4 rfl hl (by decide) (by cases p1 <;> rfl) (fun ls hl => ?_)
  refine hv_aload_n hx hb dX3_sizeOf_5 rfl (lv_at hl 0 rfl) ?_
  refine hv_ifnonnull (q := r1) (tgt := 13) hx hb dX3_sizeOf_6 (by decide) (fun c2 => ?_) (fun c2 => ?_)
  · rw [if_neg c2] at h
    refine hv_aload_n hx hb dX3_sizeOf_13 rfl (lv_at hl 0 rfl) ?_
    replace h := hbd h
    obtain ⟨a3, rfl, h⟩ := h
    replace h := hbd h
    obtain ⟨u4, eu4, h⟩ := h
    replace h := hbd h
    obtain ⟨r5, er5, h⟩ := h
    refine hcallV (o := some (.int r5)) hx hb hml hown hts hk [] [] (kX2_size l g er5) gX3_sizeOf_X2_size rfl (n := 0) rfl (by decide +kernel) ⟨Nat.le_of_ble_eq_true rfl, Nat.le_of_ble_eq_true rfl⟩ (ci := 1) rfl eu4 hw hl.1 rfl (Nat.le_of_ble_eq_true rfl) dX3_sizeOf_14 ⟨Nat.le_of_ble_eq_true rfl, Nat.le_of_ble_eq_true rfl⟩ (fun H locs hw => ?_)
    refine W.eq (g2 := F0 m 17 ls [.int r5]) rfl ?_
    cases h
    exact hret_i hx hb hr hlocks hw dX3_sizeOf_17
  · rw [if_pos c2] at h
    refine lv_iconst (v := 0) hx hb dX3_sizeOf_9 (by decide) ?_
    refine lv_goto (tgt := 17) hx hb dX3_sizeOf_10 (by decide) ?_
    cases h
    exact hret_i hx hb hr hlocks hw dX3_sizeOf_17
theorem iX3_leastPlaceOf_X3 : ∀ w ∈ wsX30, w ∈ wsX3_leastPlaceOf := by decide +kernel
def fX3_leastPlaceOf_j2s (rec : hPl → Nat → Option Nat → Int32 → Option Int32) (f : hPl) (a : Nat) (v1 : Option Nat) (v2 : Int32) : Option Int32 := (if 8 ≤ v2 then some (-1) else (hgQ f a 2 0).bind fun q2 => q2.bind fun a3 => (hlQ f a3 v2).bind fun q4 => (if q4 = v1 then some v2 else rec f a v1 (v2 + 1)))
set_option maxHeartbeats 4000000 in
set_option maxRecDepth 100000 in
theorem kX3_leastPlaceOf_j2s {g : hGb} {p : Program} {l : Launch} {e : Env} {s : State} {m : MethodId} {args : Array Value} {below : List Frame} {meth : Method} {c : Code} {A : Nat → Prop} (C : hX g p s m args meth c RX3 cX3_leastPlaceOf 3 wsX3_leastPlaceOf (some .int)) {f : hPl} {z : Nat} {r : Int32} (rec : hPl → Nat → Option Nat → Int32 → Option Int32) (hrec : ∀ (a : Nat) (v1 : Option Nat) (v2 : Int32), rec f a v1 v2 = some r → ∀ (H : Heap) (locs : List Loc) (ls : Array Slot), hW g A s f z H locs → lv_has ls 3 [(0, .ref a), (1, va_rf v1), (2, .int v2)] → W p l e (hRm 0 0 0) s m args below meth c H locs 0 0 (hZ g A below args s 0 0 (some (.int r)) f z) (F0 m 2 ls []))  : ∀ (a : Nat) (v1 : Option Nat) (v2 : Int32), fX3_leastPlaceOf_j2s rec f a v1 v2 = some r → ∀ (H : Heap) (locs : List Loc) (ls : Array Slot), hW g A s f z H locs → lv_has ls 3 [(0, .ref a), (1, va_rf v1), (2, .int v2)] → W p l e (hRm 0 0 0) s m args below meth c H locs 0 0 (hZ g A below args s 0 0 (some (.int r)) f z) (F0 m 2 ls []) := by
  obtain ⟨hx, hb, hml, hown, hts, hr, hlocks, hk⟩ := id C
  intro a v1 v2 h H locs ls hw hl
  unfold fX3_leastPlaceOf_j2s at h
  refine lv_iload_n hx hb dX3_leastPlaceOf_2 rfl (lv_at hl 2 rfl) ?_
  refine lv_bipush (v := 8) hx hb dX3_leastPlaceOf_3 (by decide) ?_
  refine lv_icmp_ge (tgt := 26) hx hb dX3_leastPlaceOf_5 (by decide) (fun c1 => ?_) (fun c1 => ?_)
  · rw [if_pos c1] at h
    refine lv_iconst (v := (-1)) hx hb dX3_leastPlaceOf_26 (by decide) ?_
    cases h
    exact hret_i hx hb hr hlocks hw dX3_leastPlaceOf_27
  · rw [if_neg c1] at h
    refine lv_aload_n hx hb dX3_leastPlaceOf_8 rfl (lv_at hl 0 rfl) ?_
    replace h := hbd h
    obtain ⟨q2, eq2, h⟩ := h
    refine hr_getQ (C := RX3) (T := TX3) (N := 11) hx hb hts iX3_leastPlaceOf_X3 hown hk hw rfl 0 (by decide) (hts (.fieldLink RX3 11 "SetterBench" "places" "[LSetterBench$Thing;") (by decide +kernel)) (fun _ h9 => h9) eq2 dX3_leastPlaceOf_9 ?_
    refine lv_iload_n hx hb dX3_leastPlaceOf_12 rfl (lv_at hl 2 rfl) ?_
    replace h := hbd h
    obtain ⟨a3, rfl, h⟩ := h
    replace h := hbd h
    obtain ⟨q4, eq4, h⟩ := h
    refine hr_lQ hx hb hk hw eq4 dX3_leastPlaceOf_13 ?_
    refine hv_aload_n hx hb dX3_leastPlaceOf_14 rfl (lv_at hl 1 rfl) ?_
    refine lv_acmp_ne (rx := q4) (ry := v1) (tgt := 20) hx hb dX3_leastPlaceOf_15 (by decide) (fun c5 => ?_) (fun c5 => ?_)
    · rw [if_neg c5] at h
      refine lv_iinc (v := (v2 + 1)) (lv' := [(2, .int (v2 + 1)), (0, .ref a), (1, va_rf v1)]) hx hb dX3_leastPlaceOf_20 hl (k := 2) rfl rfl (by decide) (by cases v1 <;> rfl) (fun ls hl => ?_)
      refine lv_goto (tgt := 2) hx hb dX3_leastPlaceOf_23 (by decide) ?_
      exact hrec _ _ _ h _ _ _ hw (lv_sub hl [1, 2, 0] rfl)
    · rw [if_pos c5] at h
      refine lv_iload_n hx hb dX3_leastPlaceOf_18 rfl (lv_at hl 2 rfl) ?_
      cases h
      exact hret_i hx hb hr hlocks hw dX3_leastPlaceOf_19
def fX3_leastPlaceOf_j2 (n : Nat) : hPl → Nat → Option Nat → Int32 → Option Int32 := match n with
  | 0 => fun _ _ _ _ => none
  | n + 1 => fX3_leastPlaceOf_j2s (fX3_leastPlaceOf_j2 n)
theorem kX3_leastPlaceOf_j2 {g : hGb} {p : Program} {l : Launch} {e : Env} {s : State} {m : MethodId} {args : Array Value} {below : List Frame} {meth : Method} {c : Code} {A : Nat → Prop} (C : hX g p s m args meth c RX3 cX3_leastPlaceOf 3 wsX3_leastPlaceOf (some .int)) {f : hPl} {z : Nat} {r : Int32} (n : Nat) : ∀ (a : Nat) (v1 : Option Nat) (v2 : Int32), fX3_leastPlaceOf_j2 n f a v1 v2 = some r → ∀ (H : Heap) (locs : List Loc) (ls : Array Slot), hW g A s f z H locs → lv_has ls 3 [(0, .ref a), (1, va_rf v1), (2, .int v2)] → W p l e (hRm 0 0 0) s m args below meth c H locs 0 0 (hZ g A below args s 0 0 (some (.int r)) f z) (F0 m 2 ls []) := by
  induction n with
  | zero =>
    intro a v1 v2 h
    cases h
  | succ n ih => exact kX3_leastPlaceOf_j2s C (fX3_leastPlaceOf_j2 n) ih
def fX3_leastPlaceOf (f : hPl) (a : Nat) (p1 : Option Nat) : Option Int32 := fX3_leastPlaceOf_j2 64 f a p1 0
set_option maxHeartbeats 4000000 in
set_option maxRecDepth 100000 in
theorem kX3_leastPlaceOf (l : Launch) (g : hGb) {f : hPl} {z : Nat} {a : Nat} {p1 : Option Nat} {r : Int32} (h : fX3_leastPlaceOf f a p1 = some r) : hCt l g yX3_leastPlaceOf wsX3_leastPlaceOf 0 0 0 [.ref a, va_rf p1] f z (some (.int r)) f z := by
  refine hCt.of (cc := cX3_leastPlaceOf) (maxL := 3) (ret := (some .int)) (by decide +kernel) rfl (by cases p1 <;> exact Nat.le_of_ble_eq_true rfl) ?_
  intro p e s m below meth c C hname hw ls hl
  obtain ⟨hx, hb, hml, hown, hts, hr, hlocks, hk⟩ := id C
  have hl : lv_has ls 3 [(0, .ref a), (1, va_rf p1)] := by cases p1 <;> exact hl
  have hown : s.vm.findClass RX3 = some m.cls := hown
  unfold fX3_leastPlaceOf at h
  refine lv_iconst (v := 0) hx hb dX3_leastPlaceOf_0 (by decide) ?_
  refine lv_istore_n (lv' := [(2, .int 0), (0, .ref a), (1, va_rf p1)]) hx hb dX3_leastPlaceOf_1 rfl hl (by decide) (by cases p1 <;> rfl) (fun ls hl => ?_)
  exact kX3_leastPlaceOf_j2 C 64 _ _ _ h _ _ _ hw (lv_sub hl [1, 2, 0] rfl)
theorem iX3_thing_X3 : ∀ w ∈ wsX30, w ∈ wsX3_thing := by decide +kernel
theorem iX3_thing_X0 : ∀ w ∈ wsX00, w ∈ wsX3_thing := by decide +kernel
theorem iX3_thing_X2 : ∀ w ∈ wsX20, w ∈ wsX3_thing := by decide +kernel
def fX3_thing (f : hPl) (a : Nat) (p1 : Int32) (p2 : Int32) : Option Int32 := (fX3_isPlace f  p1).bind fun r1 => (if r1 = 0 then some (-1) else (hgQ f a 2 0).bind fun q3 => q3.bind fun a4 => (hlQ f a4 p1).bind fun q5 => (if p2.toInt < 0 ∨ 2 < p2.toInt then some (-1) else if p2 = 0 then (if q5 = none then some 0 else q5.bind fun a9 => (hgT f a9).bind fun x10 => some x10) else if p2 = 1 then (fX3_sizeOf f  q5).bind fun r12 => some r12 else if p2 = 2 then (if q5 = none then some p1 else (hob f a 2).bind fun u15 => (fX3_leastPlaceOf f a q5).bind fun r16 => some r16) else none))
set_option maxHeartbeats 4000000 in
set_option maxRecDepth 100000 in
theorem kX3_thing (l : Launch) (g : hGb) {f : hPl} {z : Nat} {a : Nat} {p1 : Int32} {p2 : Int32} {r : Int32} (h : fX3_thing f a p1 p2 = some r) : hCt l g yX3_thing wsX3_thing 2 0 0 [.ref a, .int p1, .int p2] f z (some (.int r)) f z := by
  refine hCt.of (cc := cX3_thing) (maxL := 4) (ret := (some .int)) (by decide +kernel) rfl (by exact Nat.le_of_ble_eq_true rfl) ?_
  intro p e s m below meth c C hname hw ls hl
  obtain ⟨hx, hb, hml, hown, hts, hr, hlocks, hk⟩ := id C
  have hl : lv_has ls 4 [(0, .ref a), (1, .int p1), (2, .int p2)] := hl
  have hown : s.vm.findClass RX3 = some m.cls := hown
  unfold fX3_thing at h
  refine lv_iload_n hx hb dX3_thing_0 rfl (lv_at hl 1 rfl) ?_
  replace h := hbd h
  obtain ⟨r1, er1, h⟩ := h
  refine hcallS (o := some (.int r1)) hx hb hml hown hts hk [.int p1] [] (kX3_isPlace l g er1) gX3_thing_X3_isPlace rfl (n := 1) rfl (by decide +kernel) ⟨Nat.le_of_ble_eq_true rfl, Nat.le_of_ble_eq_true rfl⟩ hw hl.1 rfl (Nat.le_of_ble_eq_true rfl) dX3_thing_1 ⟨Nat.le_of_ble_eq_true rfl, Nat.le_of_ble_eq_true rfl⟩ (fun H locs hw => ?_)
  refine W.eq (g2 := F0 m 4 ls [.int r1]) rfl ?_
  refine lv_if_ne (tgt := 9) hx hb dX3_thing_4 (by decide) (fun c2 => ?_) (fun c2 => ?_)
  · rw [if_neg c2] at h
    refine lv_aload_n hx hb dX3_thing_9 rfl (lv_at hl 0 rfl) ?_
    replace h := hbd h
    obtain ⟨q3, eq3, h⟩ := h
    refine hr_getQ (C := RX3) (T := TX3) (N := 11) hx hb hts iX3_thing_X3 hown hk hw rfl 0 (by decide) (hts (.fieldLink RX3 11 "SetterBench" "places" "[LSetterBench$Thing;") (by decide +kernel)) (fun _ h9 => h9) eq3 dX3_thing_10 ?_
    refine lv_iload_n hx hb dX3_thing_13 rfl (lv_at hl 1 rfl) ?_
    replace h := hbd h
    obtain ⟨a4, rfl, h⟩ := h
    replace h := hbd h
    obtain ⟨q5, eq5, h⟩ := h
    refine hr_lQ hx hb hk hw eq5 dX3_thing_14 ?_
    refine hv_astore_n (q := q5) (lv' := [(3, va_rf q5), (0, .ref a), (1, .int p1), (2, .int p2)]) hx hb dX3_thing_15 rfl hl (by decide) rfl (fun ls hl => ?_)
    refine lv_iload_n hx hb dX3_thing_16 rfl (lv_at hl 3 rfl) ?_
    by_cases c6 : p2.toInt < 0 ∨ 2 < p2.toInt
    · rw [if_pos c6] at h
      refine lv_tableOut (tgt := 76) hx hb dX3_thing_17 c6 (by decide) ?_
      refine lv_iconst (v := (-1)) hx hb dX3_thing_76 (by decide) ?_
      cases h
      exact hret_i hx hb hr hlocks hw dX3_thing_77
    rw [if_neg c6] at h
    by_cases c7 : p2 = 0
    · rw [if_pos c7] at h
      refine hv_arm (off := 27) (tgt := 44) hx hb c7 dX3_thing_17 (by decide) (by decide) (by decide) (by decide) ?_
      refine hv_aload_n hx hb dX3_thing_44 rfl (lv_at hl 0 rfl) ?_
      refine hv_ifnonnull (q := q5) (tgt := 52) hx hb dX3_thing_45 (by decide) (fun c8 => ?_) (fun c8 => ?_)
      · rw [if_neg c8] at h
        refine hv_aload_n hx hb dX3_thing_52 rfl (lv_at hl 0 rfl) ?_
        replace h := hbd h
        obtain ⟨a9, rfl, h⟩ := h
        replace h := hbd h
        obtain ⟨x10, ex10, h⟩ := h
        refine hr_getT hx hb hts iX3_thing_X0 iX3_thing_X2 hown hk hw (hts (.fieldLink RX3 86 "SetterBench$Thing" "sort" "I") (by decide +kernel)) ex10 dX3_thing_53 ?_
        cases h
        exact hret_i hx hb hr hlocks hw dX3_thing_56
      · rw [if_pos c8] at h
        refine lv_iconst (v := 0) hx hb dX3_thing_48 (by decide) ?_
        refine lv_goto (tgt := 56) hx hb dX3_thing_49 (by decide) ?_
        cases h
        exact hret_i hx hb hr hlocks hw dX3_thing_56
    rw [if_neg c7] at h
    by_cases c11 : p2 = 1
    · rw [if_pos c11] at h
      refine hv_arm (off := 40) (tgt := 57) hx hb c11 dX3_thing_17 (by decide) (by decide) (by decide) (by decide) ?_
      refine hv_aload_n hx hb dX3_thing_57 rfl (lv_at hl 0 rfl) ?_
      replace h := hbd h
      obtain ⟨r12, er12, h⟩ := h
      refine hcallS (o := some (.int r12)) hx hb hml hown hts hk [va_rf q5] [] (kX3_sizeOf l g er12) gX3_thing_X3_sizeOf rfl (n := 1) rfl (by decide +kernel) ⟨Nat.le_of_ble_eq_true rfl, Nat.le_of_ble_eq_true rfl⟩ hw hl.1 rfl (Nat.le_of_ble_eq_true rfl) dX3_thing_58 ⟨Nat.le_of_ble_eq_true rfl, Nat.le_of_ble_eq_true rfl⟩ (fun H locs hw => ?_)
      refine W.eq (g2 := F0 m 61 ls [.int r12]) rfl ?_
      cases h
      exact hret_i hx hb hr hlocks hw dX3_thing_61
    rw [if_neg c11] at h
    by_cases c13 : p2 = 2
    · rw [if_pos c13] at h
      refine hv_arm (off := 45) (tgt := 62) hx hb c13 dX3_thing_17 (by decide) (by decide) (by decide) (by decide) ?_
      refine hv_aload_n hx hb dX3_thing_62 rfl (lv_at hl 0 rfl) ?_
      refine hv_ifnonnull (q := q5) (tgt := 70) hx hb dX3_thing_63 (by decide) (fun c14 => ?_) (fun c14 => ?_)
      · rw [if_neg c14] at h
        refine lv_aload_n hx hb dX3_thing_70 rfl (lv_at hl 1 rfl) ?_
        refine hv_aload_n hx hb dX3_thing_71 rfl (lv_at hl 0 rfl) ?_
        replace h := hbd h
        obtain ⟨u15, eu15, h⟩ := h
        replace h := hbd h
        obtain ⟨r16, er16, h⟩ := h
        refine hcallV (o := some (.int r16)) hx hb hml hown hts hk [va_rf q5] [] (kX3_leastPlaceOf l g er16) gX3_thing_X3_leastPlaceOf rfl (n := 1) rfl (by decide +kernel) ⟨Nat.le_of_ble_eq_true rfl, Nat.le_of_ble_eq_true rfl⟩ (ci := 2) rfl eu15 hw hl.1 rfl (Nat.le_of_ble_eq_true rfl) dX3_thing_72 ⟨Nat.le_of_ble_eq_true rfl, Nat.le_of_ble_eq_true rfl⟩ (fun H locs hw => ?_)
        refine W.eq (g2 := F0 m 75 ls [.int r16]) rfl ?_
        cases h
        exact hret_i hx hb hr hlocks hw dX3_thing_75
      · rw [if_pos c14] at h
        refine lv_iload_n hx hb dX3_thing_66 rfl (lv_at hl 2 rfl) ?_
        refine lv_goto (tgt := 75) hx hb dX3_thing_67 (by decide) ?_
        cases h
        exact hret_i hx hb hr hlocks hw dX3_thing_75
    rw [if_neg c13] at h
    cases h
  · rw [if_pos c2] at h
    refine lv_iconst (v := (-1)) hx hb dX3_thing_7 (by decide) ?_
    cases h
    exact hret_i hx hb hr hlocks hw dX3_thing_8
def fX3_worthOfStone (f : hPl) (p1 : Int32) : Option Int32 := (if p1.toInt < 1 ∨ 4 < p1.toInt then some 0 else if p1 = 1 then some 1 else if p1 = 2 then some 4 else if p1 = 3 then some 20 else if p1 = 4 then some 15 else none)
set_option maxHeartbeats 4000000 in
set_option maxRecDepth 100000 in
theorem kX3_worthOfStone (l : Launch) (g : hGb) {f : hPl} {z : Nat} {p1 : Int32} {r : Int32} (h : fX3_worthOfStone f p1 = some r) : hCt l g yX3_worthOfStone wsX3_worthOfStone 0 0 0 [.int p1] f z (some (.int r)) f z := by
  refine hCt.of (cc := cX3_worthOfStone) (maxL := 1) (ret := (some .int)) (by decide +kernel) rfl (by exact Nat.le_of_ble_eq_true rfl) ?_
  intro p e s m below meth c C hname hw ls hl
  obtain ⟨hx, hb, hml, hown, hts, hr, hlocks, hk⟩ := id C
  have hl : lv_has ls 1 [(0, .int p1)] := hl
  have hown : s.vm.findClass RX3 = some m.cls := hown
  unfold fX3_worthOfStone at h
  refine lv_iload_n hx hb dX3_worthOfStone_0 rfl (lv_at hl 0 rfl) ?_
  by_cases c1 : p1.toInt < 1 ∨ 4 < p1.toInt
  · rw [if_pos c1] at h
    refine lv_tableOut (tgt := 42) hx hb dX3_worthOfStone_1 c1 (by decide) ?_
    refine lv_iconst (v := 0) hx hb dX3_worthOfStone_42 (by decide) ?_
    cases h
    exact hret_i hx hb hr hlocks hw dX3_worthOfStone_43
  rw [if_neg c1] at h
  by_cases c2 : p1 = 1
  · rw [if_pos c2] at h
    refine hv_arm (off := 31) (tgt := 32) hx hb c2 dX3_worthOfStone_1 (by decide) (by decide) (by decide) (by decide) ?_
    refine lv_iconst (v := 1) hx hb dX3_worthOfStone_32 (by decide) ?_
    cases h
    exact hret_i hx hb hr hlocks hw dX3_worthOfStone_33
  rw [if_neg c2] at h
  by_cases c3 : p1 = 2
  · rw [if_pos c3] at h
    refine hv_arm (off := 33) (tgt := 34) hx hb c3 dX3_worthOfStone_1 (by decide) (by decide) (by decide) (by decide) ?_
    refine lv_iconst (v := 4) hx hb dX3_worthOfStone_34 (by decide) ?_
    cases h
    exact hret_i hx hb hr hlocks hw dX3_worthOfStone_35
  rw [if_neg c3] at h
  by_cases c4 : p1 = 3
  · rw [if_pos c4] at h
    refine hv_arm (off := 35) (tgt := 36) hx hb c4 dX3_worthOfStone_1 (by decide) (by decide) (by decide) (by decide) ?_
    refine lv_bipush (v := 20) hx hb dX3_worthOfStone_36 (by decide) ?_
    cases h
    exact hret_i hx hb hr hlocks hw dX3_worthOfStone_38
  rw [if_neg c4] at h
  by_cases c5 : p1 = 4
  · rw [if_pos c5] at h
    refine hv_arm (off := 38) (tgt := 39) hx hb c5 dX3_worthOfStone_1 (by decide) (by decide) (by decide) (by decide) ?_
    refine lv_bipush (v := 15) hx hb dX3_worthOfStone_39 (by decide) ?_
    cases h
    exact hret_i hx hb hr hlocks hw dX3_worthOfStone_41
  rw [if_neg c5] at h
  cases h
def fX3_worth_j27s (rec : hPl → Option Nat → Int32 → Int32 → Int32 → Option Int32) (f : hPl) (v2 : Option Nat) (v3 : Int32) (v4 : Int32) (v5 : Int32) : Option Int32 := v2.bind fun a8 => (hob f a8 1).bind fun u9 => (fX2_size f a8 ).bind fun r10 => (if r10 ≤ v5 then some v3 else (hob f a8 1).bind fun u12 => (fX2_stoneSortAt f a8 v5).bind fun r13 => (fX3_worthOfStone f  r13).bind fun r14 => (if r13 = v4 then (fX3_isRound f  r13).bind fun r16 => (if r16 = 0 then rec f (some a8) (v3 + r14) r13 (v5 + 1) else rec f (some a8) ((v3 + r14) + 5) r13 (v5 + 1)) else rec f (some a8) (v3 + r14) r13 (v5 + 1)))
set_option maxHeartbeats 4000000 in
set_option maxRecDepth 100000 in
theorem kX3_worth_j27s {g : hGb} {p : Program} {l : Launch} {e : Env} {s : State} {m : MethodId} {args : Array Value} {below : List Frame} {meth : Method} {c : Code} {A : Nat → Prop} (C : hX g p s m args meth c RX3 cX3_worth 7 wsX3_worth (some .int)) {f : hPl} {z : Nat} {r : Int32} (rec : hPl → Option Nat → Int32 → Int32 → Int32 → Option Int32) (hrec : ∀ (v2 : Option Nat) (v3 : Int32) (v4 : Int32) (v5 : Int32), rec f v2 v3 v4 v5 = some r → ∀ (H : Heap) (locs : List Loc) (ls : Array Slot), hW g A s f z H locs → lv_has ls 7 [(2, va_rf v2), (3, .int v3), (4, .int v4), (5, .int v5)] → W p l e (hRm 2 0 0) s m args below meth c H locs 0 0 (hZ g A below args s 0 0 (some (.int r)) f z) (F0 m 27 ls []))  : ∀ (v2 : Option Nat) (v3 : Int32) (v4 : Int32) (v5 : Int32), fX3_worth_j27s rec f v2 v3 v4 v5 = some r → ∀ (H : Heap) (locs : List Loc) (ls : Array Slot), hW g A s f z H locs → lv_has ls 7 [(2, va_rf v2), (3, .int v3), (4, .int v4), (5, .int v5)] → W p l e (hRm 2 0 0) s m args below meth c H locs 0 0 (hZ g A below args s 0 0 (some (.int r)) f z) (F0 m 27 ls []) := by
  obtain ⟨hx, hb, hml, hown, hts, hr, hlocks, hk⟩ := id C
  intro v2 v3 v4 v5 h H locs ls hw hl
  unfold fX3_worth_j27s at h
  refine lv_iload hx hb dX3_worth_27 (lv_at hl 3 rfl) ?_
  refine hv_aload_n hx hb dX3_worth_29 rfl (lv_at hl 0 rfl) ?_
  replace h := hbd h
  obtain ⟨a8, rfl, h⟩ := h
  replace h := hbd h
  obtain ⟨u9, eu9, h⟩ := h
  replace h := hbd h
  obtain ⟨r10, er10, h⟩ := h
  refine hcallV (o := some (.int r10)) hx hb hml hown hts hk [] [.int v5] (kX2_size l g er10) gX3_worth_X2_size rfl (n := 0) rfl (by decide +kernel) ⟨Nat.le_of_ble_eq_true rfl, Nat.le_of_ble_eq_true rfl⟩ (ci := 1) rfl eu9 hw hl.1 rfl (Nat.le_of_ble_eq_true rfl) dX3_worth_30 ⟨Nat.le_of_ble_eq_true rfl, Nat.le_of_ble_eq_true rfl⟩ (fun H locs hw => ?_)
  refine W.eq (g2 := F0 m 33 ls [.int r10, .int v5]) rfl ?_
  refine lv_icmp_ge (tgt := 80) hx hb dX3_worth_33 (by decide) (fun c11 => ?_) (fun c11 => ?_)
  · rw [if_pos c11] at h
    refine lv_iload_n hx hb dX3_worth_80 rfl (lv_at hl 1 rfl) ?_
    cases h
    exact hret_i hx hb hr hlocks hw dX3_worth_81
  · rw [if_neg c11] at h
    refine lv_aload_n hx hb dX3_worth_36 rfl (lv_at hl 0 rfl) ?_
    refine lv_iload hx hb dX3_worth_37 (lv_at hl 3 rfl) ?_
    replace h := hbd h
    obtain ⟨u12, eu12, h⟩ := h
    replace h := hbd h
    obtain ⟨r13, er13, h⟩ := h
    refine hcallV (o := some (.int r13)) hx hb hml hown hts hk [.int v5] [] (kX2_stoneSortAt l g er13) gX3_worth_X2_stoneSortAt rfl (n := 1) rfl (by decide +kernel) ⟨Nat.le_of_ble_eq_true rfl, Nat.le_of_ble_eq_true rfl⟩ (ci := 1) rfl eu12 hw hl.1 rfl (Nat.le_of_ble_eq_true rfl) dX3_worth_39 ⟨Nat.le_of_ble_eq_true rfl, Nat.le_of_ble_eq_true rfl⟩ (fun H locs hw => ?_)
    refine W.eq (g2 := F0 m 42 ls [.int r13]) rfl ?_
    refine lv_istore (lv' := [(6, .int r13), (2, .ref a8), (3, .int v3), (4, .int v4), (5, .int v5)]) hx hb dX3_worth_42 hl (by decide) rfl (fun ls hl => ?_)
    refine lv_iload_n hx hb dX3_worth_44 rfl (lv_at hl 2 rfl) ?_
    refine lv_iload hx hb dX3_worth_45 (lv_at hl 0 rfl) ?_
    replace h := hbd h
    obtain ⟨r14, er14, h⟩ := h
    refine hcallS (o := some (.int r14)) hx hb hml hown hts hk [.int r13] [.int v3] (kX3_worthOfStone l g er14) gX3_worth_X3_worthOfStone rfl (n := 1) rfl (by decide +kernel) ⟨Nat.le_of_ble_eq_true rfl, Nat.le_of_ble_eq_true rfl⟩ hw hl.1 rfl (Nat.le_of_ble_eq_true rfl) dX3_worth_47 ⟨Nat.le_of_ble_eq_true rfl, Nat.le_of_ble_eq_true rfl⟩ (fun H locs hw => ?_)
    refine W.eq (g2 := F0 m 50 ls [.int r14, .int v3]) rfl ?_
    refine lv_iadd hx hb dX3_worth_50 ?_
    refine lv_istore_n (lv' := [(3, .int (v3 + r14)), (6, .int r13), (2, .ref a8), (4, .int v4), (5, .int v5)]) hx hb dX3_worth_51 rfl hl (by decide) rfl (fun ls hl => ?_)
    refine lv_iload hx hb dX3_worth_52 (lv_at hl 1 rfl) ?_
    refine lv_iload hx hb dX3_worth_54 (lv_at hl 3 rfl) ?_
    refine lv_icmp_ne (tgt := 70) hx hb dX3_worth_56 (by decide) (fun c15 => ?_) (fun c15 => ?_)
    · rw [if_neg c15] at h
      refine lv_iload hx hb dX3_worth_70 (lv_at hl 1 rfl) ?_
      refine lv_istore (lv' := [(4, .int r13), (3, .int (v3 + r14)), (6, .int r13), (2, .ref a8), (5, .int v5)]) hx hb dX3_worth_72 hl (by decide) rfl (fun ls hl => ?_)
      refine lv_iinc (v := (v5 + 1)) (lv' := [(5, .int (v5 + 1)), (4, .int r13), (3, .int (v3 + r14)), (6, .int r13), (2, .ref a8)]) hx hb dX3_worth_74 hl (k := 4) rfl rfl (by decide) rfl (fun ls hl => ?_)
      refine lv_goto (tgt := 27) hx hb dX3_worth_77 (by decide) ?_
      exact hrec _ _ _ _ h _ _ _ hw (lv_sub hl [4, 2, 1, 0] rfl)
    · rw [if_pos c15] at h
      refine lv_iload hx hb dX3_worth_59 (lv_at hl 1 rfl) ?_
      replace h := hbd h
      obtain ⟨r16, er16, h⟩ := h
      refine hcallS (o := some (.int r16)) hx hb hml hown hts hk [.int r13] [] (kX3_isRound l g er16) gX3_worth_X3_isRound rfl (n := 1) rfl (by decide +kernel) ⟨Nat.le_of_ble_eq_true rfl, Nat.le_of_ble_eq_true rfl⟩ hw hl.1 rfl (Nat.le_of_ble_eq_true rfl) dX3_worth_61 ⟨Nat.le_of_ble_eq_true rfl, Nat.le_of_ble_eq_true rfl⟩ (fun H locs hw => ?_)
      refine W.eq (g2 := F0 m 64 ls [.int r16]) rfl ?_
      refine lv_if_eq (tgt := 70) hx hb dX3_worth_64 (by decide) (fun c17 => ?_) (fun c17 => ?_)
      · rw [if_pos c17] at h
        refine lv_iload hx hb dX3_worth_70 (lv_at hl 1 rfl) ?_
        refine lv_istore (lv' := [(4, .int r13), (3, .int (v3 + r14)), (6, .int r13), (2, .ref a8), (5, .int v5)]) hx hb dX3_worth_72 hl (by decide) rfl (fun ls hl => ?_)
        refine lv_iinc (v := (v5 + 1)) (lv' := [(5, .int (v5 + 1)), (4, .int r13), (3, .int (v3 + r14)), (6, .int r13), (2, .ref a8)]) hx hb dX3_worth_74 hl (k := 4) rfl rfl (by decide) rfl (fun ls hl => ?_)
        refine lv_goto (tgt := 27) hx hb dX3_worth_77 (by decide) ?_
        exact hrec _ _ _ _ h _ _ _ hw (lv_sub hl [4, 2, 1, 0] rfl)
      · rw [if_neg c17] at h
        refine lv_iinc (v := ((v3 + r14) + 5)) (lv' := [(3, .int ((v3 + r14) + 5)), (6, .int r13), (2, .ref a8), (4, .int v4), (5, .int v5)]) hx hb dX3_worth_67 hl (k := 0) rfl rfl (by decide) rfl (fun ls hl => ?_)
        refine lv_iload hx hb dX3_worth_70 (lv_at hl 1 rfl) ?_
        refine lv_istore (lv' := [(4, .int r13), (3, .int ((v3 + r14) + 5)), (6, .int r13), (2, .ref a8), (5, .int v5)]) hx hb dX3_worth_72 hl (by decide) rfl (fun ls hl => ?_)
        refine lv_iinc (v := (v5 + 1)) (lv' := [(5, .int (v5 + 1)), (4, .int r13), (3, .int ((v3 + r14) + 5)), (6, .int r13), (2, .ref a8)]) hx hb dX3_worth_74 hl (k := 4) rfl rfl (by decide) rfl (fun ls hl => ?_)
        refine lv_goto (tgt := 27) hx hb dX3_worth_77 (by decide) ?_
        exact hrec _ _ _ _ h _ _ _ hw (lv_sub hl [4, 2, 1, 0] rfl)
def fX3_worth_j27 (n : Nat) : hPl → Option Nat → Int32 → Int32 → Int32 → Option Int32 := match n with
  | 0 => fun _ _ _ _ _ => none
  | n + 1 => fX3_worth_j27s (fX3_worth_j27 n)
theorem kX3_worth_j27 {g : hGb} {p : Program} {l : Launch} {e : Env} {s : State} {m : MethodId} {args : Array Value} {below : List Frame} {meth : Method} {c : Code} {A : Nat → Prop} (C : hX g p s m args meth c RX3 cX3_worth 7 wsX3_worth (some .int)) {f : hPl} {z : Nat} {r : Int32} (n : Nat) : ∀ (v2 : Option Nat) (v3 : Int32) (v4 : Int32) (v5 : Int32), fX3_worth_j27 n f v2 v3 v4 v5 = some r → ∀ (H : Heap) (locs : List Loc) (ls : Array Slot), hW g A s f z H locs → lv_has ls 7 [(2, va_rf v2), (3, .int v3), (4, .int v4), (5, .int v5)] → W p l e (hRm 2 0 0) s m args below meth c H locs 0 0 (hZ g A below args s 0 0 (some (.int r)) f z) (F0 m 27 ls []) := by
  induction n with
  | zero =>
    intro v2 v3 v4 v5 h
    cases h
  | succ n ih => exact kX3_worth_j27s C (fX3_worth_j27 n) ih
def fX3_worth (f : hPl) (a : Nat) (p1 : Int32) : Option Int32 := (hob f a 2).bind fun u1 => (fX3_trayOn f a p1).bind fun r2 => (if r2 = none then some (-1) else r2.bind fun a4 => (hob f a4 1).bind fun u5 => (fX2_isOfStones f a4 ).bind fun r6 => (if r6 = 0 then some (-1) else fX3_worth_j27 64 f (some a4) 0 0 0))
set_option maxHeartbeats 4000000 in
set_option maxRecDepth 100000 in
theorem kX3_worth (l : Launch) (g : hGb) {f : hPl} {z : Nat} {a : Nat} {p1 : Int32} {r : Int32} (h : fX3_worth f a p1 = some r) : hCt l g yX3_worth wsX3_worth 2 0 0 [.ref a, .int p1] f z (some (.int r)) f z := by
  refine hCt.of (cc := cX3_worth) (maxL := 7) (ret := (some .int)) (by decide +kernel) rfl (by exact Nat.le_of_ble_eq_true rfl) ?_
  intro p e s m below meth c C hname hw ls hl
  obtain ⟨hx, hb, hml, hown, hts, hr, hlocks, hk⟩ := id C
  have hl : lv_has ls 7 [(0, .ref a), (1, .int p1)] := hl
  have hown : s.vm.findClass RX3 = some m.cls := hown
  unfold fX3_worth at h
  refine lv_aload_n hx hb dX3_worth_0 rfl (lv_at hl 0 rfl) ?_
  refine lv_iload_n hx hb dX3_worth_1 rfl (lv_at hl 1 rfl) ?_
  replace h := hbd h
  obtain ⟨u1, eu1, h⟩ := h
  replace h := hbd h
  obtain ⟨r2, er2, h⟩ := h
  refine hcallV (o := some (va_rf r2)) hx hb hml hown hts hk [.int p1] [] (kX3_trayOn l g er2) gX3_worth_X3_trayOn rfl (n := 1) rfl (by decide +kernel) ⟨Nat.le_of_ble_eq_true rfl, Nat.le_of_ble_eq_true rfl⟩ (ci := 2) rfl eu1 hw hl.1 rfl (Nat.le_of_ble_eq_true rfl) dX3_worth_2 ⟨Nat.le_of_ble_eq_true rfl, Nat.le_of_ble_eq_true rfl⟩ (fun H locs hw => ?_)
  refine W.eq (g2 := F0 m 5 ls [va_rf r2]) rfl ?_
  refine hv_astore_n (q := r2) (lv' := [(2, va_rf r2), (0, .ref a), (1, .int p1)]) hx hb dX3_worth_5 rfl hl (by decide) rfl (fun ls hl => ?_)
  refine hv_aload_n hx hb dX3_worth_6 rfl (lv_at hl 0 rfl) ?_
  refine hv_ifnull (q := r2) (tgt := 17) hx hb dX3_worth_7 (by decide) (fun c3 => ?_) (fun c3 => ?_)
  · rw [if_pos c3] at h
    refine lv_iconst (v := (-1)) hx hb dX3_worth_17 (by decide) ?_
    cases h
    exact hret_i hx hb hr hlocks hw dX3_worth_18
  · rw [if_neg c3] at h
    refine hv_aload_n hx hb dX3_worth_10 rfl (lv_at hl 0 rfl) ?_
    replace h := hbd h
    obtain ⟨a4, rfl, h⟩ := h
    replace h := hbd h
    obtain ⟨u5, eu5, h⟩ := h
    replace h := hbd h
    obtain ⟨r6, er6, h⟩ := h
    refine hcallV (o := some (.int r6)) hx hb hml hown hts hk [] [] (kX2_isOfStones l g er6) gX3_worth_X2_isOfStones rfl (n := 0) rfl (by decide +kernel) ⟨Nat.le_of_ble_eq_true rfl, Nat.le_of_ble_eq_true rfl⟩ (ci := 1) rfl eu5 hw hl.1 rfl (Nat.le_of_ble_eq_true rfl) dX3_worth_11 ⟨Nat.le_of_ble_eq_true rfl, Nat.le_of_ble_eq_true rfl⟩ (fun H locs hw => ?_)
    refine W.eq (g2 := F0 m 14 ls [.int r6]) rfl ?_
    refine lv_if_ne (tgt := 19) hx hb dX3_worth_14 (by decide) (fun c7 => ?_) (fun c7 => ?_)
    · rw [if_neg c7] at h
      refine lv_iconst (v := 0) hx hb dX3_worth_19 (by decide) ?_
      refine lv_istore_n (lv' := [(3, .int 0), (2, .ref a4), (0, .ref a), (1, .int p1)]) hx hb dX3_worth_20 rfl hl (by decide) rfl (fun ls hl => ?_)
      refine lv_iconst (v := 0) hx hb dX3_worth_21 (by decide) ?_
      refine lv_istore (lv' := [(4, .int 0), (3, .int 0), (2, .ref a4), (0, .ref a), (1, .int p1)]) hx hb dX3_worth_22 hl (by decide) rfl (fun ls hl => ?_)
      refine lv_iconst (v := 0) hx hb dX3_worth_24 (by decide) ?_
      refine lv_istore (lv' := [(5, .int 0), (4, .int 0), (3, .int 0), (2, .ref a4), (0, .ref a), (1, .int p1)]) hx hb dX3_worth_25 hl (by decide) rfl (fun ls hl => ?_)
      exact kX3_worth_j27 C 64 _ _ _ _ h _ _ _ hw (lv_sub hl [3, 2, 1, 0] rfl)
    · rw [if_pos c7] at h
      refine lv_iconst (v := (-1)) hx hb dX3_worth_17 (by decide) ?_
      cases h
      exact hret_i hx hb hr hlocks hw dX3_worth_18
def fX3_mirror_j60s (rec : hPl → Option Nat → Option Nat → Int32 → Int32 → Option Int32) (f : hPl) (v3 : Option Nat) (v4 : Option Nat) (v5 : Int32) (v6 : Int32) : Option Int32 := (if v5 ≤ v6 then some 1 else v3.bind fun a21 => (hob f a21 1).bind fun u22 => (fX2_stoneSortAt f a21 v6).bind fun r23 => v4.bind fun a24 => (hob f a24 1).bind fun u25 => (fX2_stoneSortAt f a24 ((v5 - 1) - v6)).bind fun r26 => (if r23 = r26 then rec f (some a21) (some a24) v5 (v6 + 1) else some 0))
set_option maxHeartbeats 4000000 in
set_option maxRecDepth 100000 in
theorem kX3_mirror_j60s {g : hGb} {p : Program} {l : Launch} {e : Env} {s : State} {m : MethodId} {args : Array Value} {below : List Frame} {meth : Method} {c : Code} {A : Nat → Prop} (C : hX g p s m args meth c RX3 cX3_mirror 7 wsX3_mirror (some .boolean)) {f : hPl} {z : Nat} {r : Int32} (rec : hPl → Option Nat → Option Nat → Int32 → Int32 → Option Int32) (hrec : ∀ (v3 : Option Nat) (v4 : Option Nat) (v5 : Int32) (v6 : Int32), rec f v3 v4 v5 v6 = some r → ∀ (H : Heap) (locs : List Loc) (ls : Array Slot), hW g A s f z H locs → lv_has ls 7 [(3, va_rf v3), (4, va_rf v4), (5, .int v5), (6, .int v6)] → W p l e (hRm 2 0 0) s m args below meth c H locs 0 0 (hZ g A below args s 0 0 (some (.int r)) f z) (F0 m 60 ls []))  : ∀ (v3 : Option Nat) (v4 : Option Nat) (v5 : Int32) (v6 : Int32), fX3_mirror_j60s rec f v3 v4 v5 v6 = some r → ∀ (H : Heap) (locs : List Loc) (ls : Array Slot), hW g A s f z H locs → lv_has ls 7 [(3, va_rf v3), (4, va_rf v4), (5, .int v5), (6, .int v6)] → W p l e (hRm 2 0 0) s m args below meth c H locs 0 0 (hZ g A below args s 0 0 (some (.int r)) f z) (F0 m 60 ls []) := by
  obtain ⟨hx, hb, hml, hown, hts, hr, hlocks, hk⟩ := id C
  intro v3 v4 v5 v6 h H locs ls hw hl
  unfold fX3_mirror_j60s at h
  refine lv_iload hx hb dX3_mirror_60 (lv_at hl 3 rfl) ?_
  refine lv_iload hx hb dX3_mirror_62 (lv_at hl 2 rfl) ?_
  refine lv_icmp_ge (tgt := 96) hx hb dX3_mirror_64 (by decide) (fun c20 => ?_) (fun c20 => ?_)
  · rw [if_pos c20] at h
    refine lv_iconst (v := 1) hx hb dX3_mirror_96 (by decide) ?_
    cases h
    exact hret_z hx hb hr hlocks hw (Or.inr rfl) dX3_mirror_97
  · rw [if_neg c20] at h
    refine hv_aload_n hx hb dX3_mirror_67 rfl (lv_at hl 0 rfl) ?_
    refine lv_iload hx hb dX3_mirror_68 (lv_at hl 3 rfl) ?_
    replace h := hbd h
    obtain ⟨a21, rfl, h⟩ := h
    replace h := hbd h
    obtain ⟨u22, eu22, h⟩ := h
    replace h := hbd h
    obtain ⟨r23, er23, h⟩ := h
    refine hcallV (o := some (.int r23)) hx hb hml hown hts hk [.int v6] [] (kX2_stoneSortAt l g er23) gX3_mirror_X2_stoneSortAt rfl (n := 1) rfl (by decide +kernel) ⟨Nat.le_of_ble_eq_true rfl, Nat.le_of_ble_eq_true rfl⟩ (ci := 1) rfl eu22 hw hl.1 rfl (Nat.le_of_ble_eq_true rfl) dX3_mirror_70 ⟨Nat.le_of_ble_eq_true rfl, Nat.le_of_ble_eq_true rfl⟩ (fun H locs hw => ?_)
    refine W.eq (g2 := F0 m 73 ls [.int r23]) rfl ?_
    refine hv_aload hx hb dX3_mirror_73 (lv_at hl 1 rfl) ?_
    refine lv_iload hx hb dX3_mirror_75 (lv_at hl 2 rfl) ?_
    refine lv_iconst (v := 1) hx hb dX3_mirror_77 (by decide) ?_
    refine lv_isub hx hb dX3_mirror_78 ?_
    refine lv_iload hx hb dX3_mirror_79 (lv_at hl 3 rfl) ?_
    refine lv_isub hx hb dX3_mirror_81 ?_
    replace h := hbd h
    obtain ⟨a24, rfl, h⟩ := h
    replace h := hbd h
    obtain ⟨u25, eu25, h⟩ := h
    replace h := hbd h
    obtain ⟨r26, er26, h⟩ := h
    refine hcallV (o := some (.int r26)) hx hb hml hown hts hk [.int ((v5 - 1) - v6)] [.int r23] (kX2_stoneSortAt l g er26) gX3_mirror_X2_stoneSortAt rfl (n := 1) rfl (by decide +kernel) ⟨Nat.le_of_ble_eq_true rfl, Nat.le_of_ble_eq_true rfl⟩ (ci := 1) rfl eu25 hw hl.1 rfl (Nat.le_of_ble_eq_true rfl) dX3_mirror_82 ⟨Nat.le_of_ble_eq_true rfl, Nat.le_of_ble_eq_true rfl⟩ (fun H locs hw => ?_)
    refine W.eq (g2 := F0 m 85 ls [.int r26, .int r23]) rfl ?_
    refine lv_icmp_eq (tgt := 90) hx hb dX3_mirror_85 (by decide) (fun c27 => ?_) (fun c27 => ?_)
    · rw [if_pos c27] at h
      refine lv_iinc (v := (v6 + 1)) (lv' := [(6, .int (v6 + 1)), (3, .ref a21), (4, .ref a24), (5, .int v5)]) hx hb dX3_mirror_90 hl (k := 3) rfl rfl (by decide) rfl (fun ls hl => ?_)
      refine lv_goto (tgt := 60) hx hb dX3_mirror_93 (by decide) ?_
      exact hrec _ _ _ _ h _ _ _ hw (lv_sub hl [1, 2, 3, 0] rfl)
    · rw [if_neg c27] at h
      refine lv_iconst (v := 0) hx hb dX3_mirror_88 (by decide) ?_
      cases h
      exact hret_z hx hb hr hlocks hw (Or.inl rfl) dX3_mirror_89
def fX3_mirror_j60 (n : Nat) : hPl → Option Nat → Option Nat → Int32 → Int32 → Option Int32 := match n with
  | 0 => fun _ _ _ _ _ => none
  | n + 1 => fX3_mirror_j60s (fX3_mirror_j60 n)
theorem kX3_mirror_j60 {g : hGb} {p : Program} {l : Launch} {e : Env} {s : State} {m : MethodId} {args : Array Value} {below : List Frame} {meth : Method} {c : Code} {A : Nat → Prop} (C : hX g p s m args meth c RX3 cX3_mirror 7 wsX3_mirror (some .boolean)) {f : hPl} {z : Nat} {r : Int32} (n : Nat) : ∀ (v3 : Option Nat) (v4 : Option Nat) (v5 : Int32) (v6 : Int32), fX3_mirror_j60 n f v3 v4 v5 v6 = some r → ∀ (H : Heap) (locs : List Loc) (ls : Array Slot), hW g A s f z H locs → lv_has ls 7 [(3, va_rf v3), (4, va_rf v4), (5, .int v5), (6, .int v6)] → W p l e (hRm 2 0 0) s m args below meth c H locs 0 0 (hZ g A below args s 0 0 (some (.int r)) f z) (F0 m 60 ls []) := by
  induction n with
  | zero =>
    intro v3 v4 v5 v6 h
    cases h
  | succ n ih => exact kX3_mirror_j60s C (fX3_mirror_j60 n) ih
def fX3_mirror (f : hPl) (a : Nat) (p1 : Int32) (p2 : Int32) : Option Int32 := (hob f a 2).bind fun u1 => (fX3_trayOn f a p1).bind fun r2 => (hob f a 2).bind fun u3 => (fX3_trayOn f a p2).bind fun r4 => (if r2 = none then some 0 else (if r4 = none then some 0 else r2.bind fun a7 => (hob f a7 1).bind fun u8 => (fX2_isOfStones f a7 ).bind fun r9 => (if r9 = 0 then some 0 else r4.bind fun a11 => (hob f a11 1).bind fun u12 => (fX2_isOfStones f a11 ).bind fun r13 => (if r13 = 0 then some 0 else (hob f a7 1).bind fun u15 => (fX2_size f a7 ).bind fun r16 => (hob f a11 1).bind fun u17 => (fX2_size f a11 ).bind fun r18 => (if r18 = r16 then fX3_mirror_j60 64 f (some a7) (some a11) r16 0 else some 0)))))
set_option maxHeartbeats 4000000 in
set_option maxRecDepth 100000 in
theorem kX3_mirror (l : Launch) (g : hGb) {f : hPl} {z : Nat} {a : Nat} {p1 : Int32} {p2 : Int32} {r : Int32} (h : fX3_mirror f a p1 p2 = some r) : hCt l g yX3_mirror wsX3_mirror 2 0 0 [.ref a, .int p1, .int p2] f z (some (.int r)) f z := by
  refine hCt.of (cc := cX3_mirror) (maxL := 7) (ret := (some .boolean)) (by decide +kernel) rfl (by exact Nat.le_of_ble_eq_true rfl) ?_
  intro p e s m below meth c C hname hw ls hl
  obtain ⟨hx, hb, hml, hown, hts, hr, hlocks, hk⟩ := id C
  have hl : lv_has ls 7 [(0, .ref a), (1, .int p1), (2, .int p2)] := hl
  have hown : s.vm.findClass RX3 = some m.cls := hown
  unfold fX3_mirror at h
  refine lv_aload_n hx hb dX3_mirror_0 rfl (lv_at hl 0 rfl) ?_
  refine lv_iload_n hx hb dX3_mirror_1 rfl (lv_at hl 1 rfl) ?_
  replace h := hbd h
  obtain ⟨u1, eu1, h⟩ := h
  replace h := hbd h
  obtain ⟨r2, er2, h⟩ := h
  refine hcallV (o := some (va_rf r2)) hx hb hml hown hts hk [.int p1] [] (kX3_trayOn l g er2) gX3_mirror_X3_trayOn rfl (n := 1) rfl (by decide +kernel) ⟨Nat.le_of_ble_eq_true rfl, Nat.le_of_ble_eq_true rfl⟩ (ci := 2) rfl eu1 hw hl.1 rfl (Nat.le_of_ble_eq_true rfl) dX3_mirror_2 ⟨Nat.le_of_ble_eq_true rfl, Nat.le_of_ble_eq_true rfl⟩ (fun H locs hw => ?_)
  refine W.eq (g2 := F0 m 5 ls [va_rf r2]) rfl ?_
  refine hv_astore_n (q := r2) (lv' := [(3, va_rf r2), (0, .ref a), (1, .int p1), (2, .int p2)]) hx hb dX3_mirror_5 rfl hl (by decide) rfl (fun ls hl => ?_)
  refine lv_aload_n hx hb dX3_mirror_6 rfl (lv_at hl 1 rfl) ?_
  refine lv_iload_n hx hb dX3_mirror_7 rfl (lv_at hl 3 rfl) ?_
  replace h := hbd h
  obtain ⟨u3, eu3, h⟩ := h
  replace h := hbd h
  obtain ⟨r4, er4, h⟩ := h
  refine hcallV (o := some (va_rf r4)) hx hb hml hown hts hk [.int p2] [] (kX3_trayOn l g er4) gX3_mirror_X3_trayOn rfl (n := 1) rfl (by decide +kernel) ⟨Nat.le_of_ble_eq_true rfl, Nat.le_of_ble_eq_true rfl⟩ (ci := 2) rfl eu3 hw hl.1 rfl (Nat.le_of_ble_eq_true rfl) dX3_mirror_8 ⟨Nat.le_of_ble_eq_true rfl, Nat.le_of_ble_eq_true rfl⟩ (fun H locs hw => ?_)
  refine W.eq (g2 := F0 m 11 ls [va_rf r4]) rfl ?_
  refine hv_astore (q := r4) (lv' := [(4, va_rf r4), (3, va_rf r2), (0, .ref a), (1, .int p1), (2, .int p2)]) hx hb dX3_mirror_11 hl (by decide) (by cases r2 <;> rfl) (fun ls hl => ?_)
  refine hv_aload_n hx hb dX3_mirror_13 rfl (lv_at hl 1 rfl) ?_
  refine hv_ifnull (q := r2) (tgt := 37) hx hb dX3_mirror_14 (by decide) (fun c5 => ?_) (fun c5 => ?_)
  · rw [if_pos c5] at h
    refine lv_iconst (v := 0) hx hb dX3_mirror_37 (by decide) ?_
    cases h
    exact hret_z hx hb hr hlocks hw (Or.inl rfl) dX3_mirror_38
  · rw [if_neg c5] at h
    refine hv_aload hx hb dX3_mirror_17 (lv_at hl 0 rfl) ?_
    refine hv_ifnull (q := r4) (tgt := 37) hx hb dX3_mirror_19 (by decide) (fun c6 => ?_) (fun c6 => ?_)
    · rw [if_pos c6] at h
      refine lv_iconst (v := 0) hx hb dX3_mirror_37 (by decide) ?_
      cases h
      exact hret_z hx hb hr hlocks hw (Or.inl rfl) dX3_mirror_38
    · rw [if_neg c6] at h
      refine hv_aload_n hx hb dX3_mirror_22 rfl (lv_at hl 1 rfl) ?_
      replace h := hbd h
      obtain ⟨a7, rfl, h⟩ := h
      replace h := hbd h
      obtain ⟨u8, eu8, h⟩ := h
      replace h := hbd h
      obtain ⟨r9, er9, h⟩ := h
      refine hcallV (o := some (.int r9)) hx hb hml hown hts hk [] [] (kX2_isOfStones l g er9) gX3_mirror_X2_isOfStones rfl (n := 0) rfl (by decide +kernel) ⟨Nat.le_of_ble_eq_true rfl, Nat.le_of_ble_eq_true rfl⟩ (ci := 1) rfl eu8 hw hl.1 rfl (Nat.le_of_ble_eq_true rfl) dX3_mirror_23 ⟨Nat.le_of_ble_eq_true rfl, Nat.le_of_ble_eq_true rfl⟩ (fun H locs hw => ?_)
      refine W.eq (g2 := F0 m 26 ls [.int r9]) rfl ?_
      refine lv_if_eq (tgt := 37) hx hb dX3_mirror_26 (by decide) (fun c10 => ?_) (fun c10 => ?_)
      · rw [if_pos c10] at h
        refine lv_iconst (v := 0) hx hb dX3_mirror_37 (by decide) ?_
        cases h
        exact hret_z hx hb hr hlocks hw (Or.inl rfl) dX3_mirror_38
      · rw [if_neg c10] at h
        refine hv_aload hx hb dX3_mirror_29 (lv_at hl 0 rfl) ?_
        replace h := hbd h
        obtain ⟨a11, rfl, h⟩ := h
        replace h := hbd h
        obtain ⟨u12, eu12, h⟩ := h
        replace h := hbd h
        obtain ⟨r13, er13, h⟩ := h
        refine hcallV (o := some (.int r13)) hx hb hml hown hts hk [] [] (kX2_isOfStones l g er13) gX3_mirror_X2_isOfStones rfl (n := 0) rfl (by decide +kernel) ⟨Nat.le_of_ble_eq_true rfl, Nat.le_of_ble_eq_true rfl⟩ (ci := 1) rfl eu12 hw hl.1 rfl (Nat.le_of_ble_eq_true rfl) dX3_mirror_31 ⟨Nat.le_of_ble_eq_true rfl, Nat.le_of_ble_eq_true rfl⟩ (fun H locs hw => ?_)
        refine W.eq (g2 := F0 m 34 ls [.int r13]) rfl ?_
        refine lv_if_ne (tgt := 39) hx hb dX3_mirror_34 (by decide) (fun c14 => ?_) (fun c14 => ?_)
        · rw [if_neg c14] at h
          refine lv_aload_n hx hb dX3_mirror_39 rfl (lv_at hl 1 rfl) ?_
          replace h := hbd h
          obtain ⟨u15, eu15, h⟩ := h
          replace h := hbd h
          obtain ⟨r16, er16, h⟩ := h
          refine hcallV (o := some (.int r16)) hx hb hml hown hts hk [] [] (kX2_size l g er16) gX3_mirror_X2_size rfl (n := 0) rfl (by decide +kernel) ⟨Nat.le_of_ble_eq_true rfl, Nat.le_of_ble_eq_true rfl⟩ (ci := 1) rfl eu15 hw hl.1 rfl (Nat.le_of_ble_eq_true rfl) dX3_mirror_40 ⟨Nat.le_of_ble_eq_true rfl, Nat.le_of_ble_eq_true rfl⟩ (fun H locs hw => ?_)
          refine W.eq (g2 := F0 m 43 ls [.int r16]) rfl ?_
          refine lv_istore (lv' := [(5, .int r16), (4, .ref a11), (3, .ref a7), (0, .ref a), (1, .int p1), (2, .int p2)]) hx hb dX3_mirror_43 hl (by decide) rfl (fun ls hl => ?_)
          refine lv_aload hx hb dX3_mirror_45 (lv_at hl 1 rfl) ?_
          replace h := hbd h
          obtain ⟨u17, eu17, h⟩ := h
          replace h := hbd h
          obtain ⟨r18, er18, h⟩ := h
          refine hcallV (o := some (.int r18)) hx hb hml hown hts hk [] [] (kX2_size l g er18) gX3_mirror_X2_size rfl (n := 0) rfl (by decide +kernel) ⟨Nat.le_of_ble_eq_true rfl, Nat.le_of_ble_eq_true rfl⟩ (ci := 1) rfl eu17 hw hl.1 rfl (Nat.le_of_ble_eq_true rfl) dX3_mirror_47 ⟨Nat.le_of_ble_eq_true rfl, Nat.le_of_ble_eq_true rfl⟩ (fun H locs hw => ?_)
          refine W.eq (g2 := F0 m 50 ls [.int r18]) rfl ?_
          refine lv_iload hx hb dX3_mirror_50 (lv_at hl 0 rfl) ?_
          refine lv_icmp_eq (tgt := 57) hx hb dX3_mirror_52 (by decide) (fun c19 => ?_) (fun c19 => ?_)
          · rw [if_pos c19] at h
            refine lv_iconst (v := 0) hx hb dX3_mirror_57 (by decide) ?_
            refine lv_istore (lv' := [(6, .int 0), (5, .int r16), (4, .ref a11), (3, .ref a7), (0, .ref a), (1, .int p1), (2, .int p2)]) hx hb dX3_mirror_58 hl (by decide) rfl (fun ls hl => ?_)
            exact kX3_mirror_j60 C 64 _ _ _ _ h _ _ _ hw (lv_sub hl [3, 2, 1, 0] rfl)
          · rw [if_neg c19] at h
            refine lv_iconst (v := 0) hx hb dX3_mirror_55 (by decide) ?_
            cases h
            exact hret_z hx hb hr hlocks hw (Or.inl rfl) dX3_mirror_56
        · rw [if_pos c14] at h
          refine lv_iconst (v := 0) hx hb dX3_mirror_37 (by decide) ?_
          cases h
          exact hret_z hx hb hr hlocks hw (Or.inl rfl) dX3_mirror_38
theorem iX3_count_X3 : ∀ w ∈ wsX30, w ∈ wsX3_count := by decide +kernel
def fX3_count (f : hPl) (a : Nat) (p1 : Int32) : Option Int32 := (if p1.toInt < 0 ∨ 6 < p1.toInt then some (-1) else if p1 = 0 then (hgI f a 2 4).bind fun x3 => some x3 else if p1 = 1 then (hgI f a 2 5).bind fun x5 => some x5 else if p1 = 2 then (hgI f a 2 6).bind fun x7 => some x7 else if p1 = 3 then (hgI f a 2 7).bind fun x9 => some x9 else if p1 = 4 then (hgI f a 2 8).bind fun x11 => some x11 else if p1 = 5 then (hgI f a 2 9).bind fun x13 => some x13 else if p1 = 6 then (hgI f a 2 10).bind fun x15 => some x15 else none)
set_option maxHeartbeats 4000000 in
set_option maxRecDepth 100000 in
theorem kX3_count (l : Launch) (g : hGb) {f : hPl} {z : Nat} {a : Nat} {p1 : Int32} {r : Int32} (h : fX3_count f a p1 = some r) : hCt l g yX3_count wsX3_count 0 0 0 [.ref a, .int p1] f z (some (.int r)) f z := by
  refine hCt.of (cc := cX3_count) (maxL := 2) (ret := (some .int)) (by decide +kernel) rfl (by exact Nat.le_of_ble_eq_true rfl) ?_
  intro p e s m below meth c C hname hw ls hl
  obtain ⟨hx, hb, hml, hown, hts, hr, hlocks, hk⟩ := id C
  have hl : lv_has ls 2 [(0, .ref a), (1, .int p1)] := hl
  have hown : s.vm.findClass RX3 = some m.cls := hown
  unfold fX3_count at h
  refine lv_iload_n hx hb dX3_count_0 rfl (lv_at hl 1 rfl) ?_
  by_cases c1 : p1.toInt < 0 ∨ 6 < p1.toInt
  · rw [if_pos c1] at h
    refine lv_tableOut (tgt := 79) hx hb dX3_count_1 c1 (by decide) ?_
    refine lv_iconst (v := (-1)) hx hb dX3_count_79 (by decide) ?_
    cases h
    exact hret_i hx hb hr hlocks hw dX3_count_80
  rw [if_neg c1] at h
  by_cases c2 : p1 = 0
  · rw [if_pos c2] at h
    refine hv_arm (off := 43) (tgt := 44) hx hb c2 dX3_count_1 (by decide) (by decide) (by decide) (by decide) ?_
    refine lv_aload_n hx hb dX3_count_44 rfl (lv_at hl 0 rfl) ?_
    replace h := hbd h
    obtain ⟨x3, ex3, h⟩ := h
    refine hr_getI (C := RX3) (T := TX3) (N := 11) hx hb hts iX3_count_X3 hown hk hw rfl 4 (by decide) (hts (.fieldLink RX3 104 "SetterBench" "stonesMade" "I") (by decide +kernel)) (fun _ h9 => h9) ex3 dX3_count_45 ?_
    cases h
    exact hret_i hx hb hr hlocks hw dX3_count_48
  rw [if_neg c2] at h
  by_cases c4 : p1 = 1
  · rw [if_pos c4] at h
    refine hv_arm (off := 48) (tgt := 49) hx hb c4 dX3_count_1 (by decide) (by decide) (by decide) (by decide) ?_
    refine lv_aload_n hx hb dX3_count_49 rfl (lv_at hl 0 rfl) ?_
    replace h := hbd h
    obtain ⟨x5, ex5, h⟩ := h
    refine hr_getI (C := RX3) (T := TX3) (N := 11) hx hb hts iX3_count_X3 hown hk hw rfl 5 (by decide) (hts (.fieldLink RX3 107 "SetterBench" "doneSweeps" "I") (by decide +kernel)) (fun _ h9 => h9) ex5 dX3_count_50 ?_
    cases h
    exact hret_i hx hb hr hlocks hw dX3_count_53
  rw [if_neg c4] at h
  by_cases c6 : p1 = 2
  · rw [if_pos c6] at h
    refine hv_arm (off := 53) (tgt := 54) hx hb c6 dX3_count_1 (by decide) (by decide) (by decide) (by decide) ?_
    refine lv_aload_n hx hb dX3_count_54 rfl (lv_at hl 0 rfl) ?_
    replace h := hbd h
    obtain ⟨x7, ex7, h⟩ := h
    refine hr_getI (C := RX3) (T := TX3) (N := 11) hx hb hts iX3_count_X3 hown hk hw rfl 6 (by decide) (hts (.fieldLink RX3 110 "SetterBench" "emptySweeps" "I") (by decide +kernel)) (fun _ h9 => h9) ex7 dX3_count_55 ?_
    cases h
    exact hret_i hx hb hr hlocks hw dX3_count_58
  rw [if_neg c6] at h
  by_cases c8 : p1 = 3
  · rw [if_pos c8] at h
    refine hv_arm (off := 58) (tgt := 59) hx hb c8 dX3_count_1 (by decide) (by decide) (by decide) (by decide) ?_
    refine lv_aload_n hx hb dX3_count_59 rfl (lv_at hl 0 rfl) ?_
    replace h := hbd h
    obtain ⟨x9, ex9, h⟩ := h
    refine hr_getI (C := RX3) (T := TX3) (N := 11) hx hb hts iX3_count_X3 hown hk hw rfl 7 (by decide) (hts (.fieldLink RX3 113 "SetterBench" "unlikeSweeps" "I") (by decide +kernel)) (fun _ h9 => h9) ex9 dX3_count_60 ?_
    cases h
    exact hret_i hx hb hr hlocks hw dX3_count_63
  rw [if_neg c8] at h
  by_cases c10 : p1 = 4
  · rw [if_pos c10] at h
    refine hv_arm (off := 63) (tgt := 64) hx hb c10 dX3_count_1 (by decide) (by decide) (by decide) (by decide) ?_
    refine lv_aload_n hx hb dX3_count_64 rfl (lv_at hl 0 rfl) ?_
    replace h := hbd h
    obtain ⟨x11, ex11, h⟩ := h
    refine hr_getI (C := RX3) (T := TX3) (N := 11) hx hb hts iX3_count_X3 hown hk hw rfl 8 (by decide) (hts (.fieldLink RX3 116 "SetterBench" "beyondSweeps" "I") (by decide +kernel)) (fun _ h9 => h9) ex11 dX3_count_65 ?_
    cases h
    exact hret_i hx hb hr hlocks hw dX3_count_68
  rw [if_neg c10] at h
  by_cases c12 : p1 = 5
  · rw [if_pos c12] at h
    refine hv_arm (off := 68) (tgt := 69) hx hb c12 dX3_count_1 (by decide) (by decide) (by decide) (by decide) ?_
    refine lv_aload_n hx hb dX3_count_69 rfl (lv_at hl 0 rfl) ?_
    replace h := hbd h
    obtain ⟨x13, ex13, h⟩ := h
    refine hr_getI (C := RX3) (T := TX3) (N := 11) hx hb hts iX3_count_X3 hown hk hw rfl 9 (by decide) (hts (.fieldLink RX3 119 "SetterBench" "stoppedSweeps" "I") (by decide +kernel)) (fun _ h9 => h9) ex13 dX3_count_70 ?_
    cases h
    exact hret_i hx hb hr hlocks hw dX3_count_73
  rw [if_neg c12] at h
  by_cases c14 : p1 = 6
  · rw [if_pos c14] at h
    refine hv_arm (off := 73) (tgt := 74) hx hb c14 dX3_count_1 (by decide) (by decide) (by decide) (by decide) ?_
    refine lv_aload_n hx hb dX3_count_74 rfl (lv_at hl 0 rfl) ?_
    replace h := hbd h
    obtain ⟨x15, ex15, h⟩ := h
    refine hr_getI (C := RX3) (T := TX3) (N := 11) hx hb hts iX3_count_X3 hown hk hw rfl 10 (by decide) (hts (.fieldLink RX3 122 "SetterBench" "carriedMembers" "I") (by decide +kernel)) (fun _ h9 => h9) ex15 dX3_count_75 ?_
    cases h
    exact hret_i hx hb hr hlocks hw dX3_count_78
  rw [if_neg c14] at h
  cases h
