theorem iX4_init_X4 : ∀ w ∈ wsX40, w ∈ wsX4_init := by decide +kernel
def fX4_init (f : hPl) (z : Nat) (a : Nat) : Option (Unit × hPl × Nat) := (if ¬ (8 : Int32) < 0 ∧ (8 : Int32).toNatClampNeg ≤ 8 then some () else none).bind fun _ => (some (hup f z (aI (8 : Int32).toNatClampNeg (fun _ => 0)))).bind fun f2 => (hsI f2 z 0 (-1)).bind fun f3 => (hsI f3 z 1 (-1)).bind fun f4 => (hsI f4 z 2 (-1)).bind fun f5 => (hsI f5 z 3 (-1)).bind fun f6 => (hsI f6 z 4 (-1)).bind fun f7 => (hsI f7 z 5 (-1)).bind fun f8 => (hsI f8 z 6 (-1)).bind fun f9 => (hsI f9 z 7 (-1)).bind fun f10 => (hput f10 a 3 0 (.ref z)).bind fun f11 => (if ¬ (10 : Int32) < 0 ∧ (10 : Int32).toNatClampNeg ≤ 10 then some () else none).bind fun _ => (some (hup f11 (z + 1) (aI (10 : Int32).toNatClampNeg (fun _ => 0)))).bind fun f13 => (hput f13 a 3 1 (.ref (z + 1))).bind fun f14 => (if ¬ (10 : Int32) < 0 ∧ (10 : Int32).toNatClampNeg ≤ 10 then some () else none).bind fun _ => (some (hup f14 ((z + 1) + 1) (aI (10 : Int32).toNatClampNeg (fun _ => 0)))).bind fun f16 => (hput f16 a 3 2 (.ref ((z + 1) + 1))).bind fun f17 => (if ¬ (10 : Int32) < 0 ∧ (10 : Int32).toNatClampNeg ≤ 10 then some () else none).bind fun _ => (some (hup f17 (((z + 1) + 1) + 1) (aI (10 : Int32).toNatClampNeg (fun _ => 0)))).bind fun f19 => (hput f19 a 3 3 (.ref (((z + 1) + 1) + 1))).bind fun f20 => (if ¬ (400 : Int32) < 0 ∧ (400 : Int32).toNatClampNeg ≤ 400 then some () else none).bind fun _ => (some (hup f20 ((((z + 1) + 1) + 1) + 1) (aJ (400 : Int32).toNatClampNeg (fun _ => 0)))).bind fun f22 => (hput f22 a 3 4 (.ref ((((z + 1) + 1) + 1) + 1))).bind fun f23 => (if ¬ (40 : Int32) < 0 ∧ (40 : Int32).toNatClampNeg ≤ 40 then some () else none).bind fun _ => (some (hup f23 (((((z + 1) + 1) + 1) + 1) + 1) (aJ (40 : Int32).toNatClampNeg (fun _ => 0)))).bind fun f25 => (hput f25 a 3 5 (.ref (((((z + 1) + 1) + 1) + 1) + 1))).bind fun f26 => (if ¬ (40 : Int32) < 0 ∧ (40 : Int32).toNatClampNeg ≤ 40 then some () else none).bind fun _ => (some (hup f26 ((((((z + 1) + 1) + 1) + 1) + 1) + 1) (aJ (40 : Int32).toNatClampNeg (fun _ => 0)))).bind fun f28 => (hput f28 a 3 6 (.ref ((((((z + 1) + 1) + 1) + 1) + 1) + 1))).bind fun f29 => (hput f29 a 3 7 (.int (-1))).bind fun f30 => (if ¬ (7 : Int32) < 0 ∧ (7 : Int32).toNatClampNeg ≤ 7 then some () else none).bind fun _ => (some (hup f30 (((((((z + 1) + 1) + 1) + 1) + 1) + 1) + 1) (aI (7 : Int32).toNatClampNeg (fun _ => 0)))).bind fun f32 => (hput f32 a 3 8 (.ref (((((((z + 1) + 1) + 1) + 1) + 1) + 1) + 1))).bind fun f33 => some ((), f33, ((((((((z + 1) + 1) + 1) + 1) + 1) + 1) + 1) + 1))
set_option maxHeartbeats 4000000 in
set_option maxRecDepth 100000 in
theorem kX4_init (l : Launch) (g : hGb) {f : hPl} {z : Nat} {a : Nat} {r : Unit} {f' : hPl} {z' : Nat} (h : fX4_init f z a = some (r, f', z')) : hCt l g yX4_init wsX4_init 1 8 525 [.ref a] f z none f' z' := by
  refine hCt.of (cc := cX4_init) (maxL := 1) (ret := none) (by decide +kernel) rfl (by exact Nat.le_of_ble_eq_true rfl) ?_
  intro p e s m below meth c C hname hw ls hl
  obtain ⟨hx, hb, hml, hown, hts, hr, hlocks, hk⟩ := id C
  have hl : lv_has ls 1 [(0, .ref a)] := hl
  have hown : s.vm.findClass RX4 = some m.cls := hown
  unfold fX4_init at h
  refine lv_aload_n hx hb dX4_init_0 rfl (lv_at hl 0 rfl) ?_
  refine W.objInit hx hb hown (hts (.methodLink RX4 1 objectInit) (by decide +kernel)) (hts (.instanceMethod objectInit) (by decide +kernel)) (hts (.code objectInit ⟨#[0xb1]⟩ 1 none) (by decide +kernel)) rfl (hl.1.trans hml.symm) rfl dX4_init_1 (Nat.le_of_ble_eq_true rfl) (Nat.le_of_ble_eq_true rfl) ?_
  refine lv_aload_n hx hb dX4_init_4 rfl (lv_at hl 0 rfl) ?_
  refine lv_bipush (v := 8) hx hb dX4_init_5 (by decide) ?_
  replace h := hbd h
  obtain ⟨_, c1, h⟩ := h
  have c1 := (hif c1).1
  replace h := hbd h
  obtain ⟨f2, ef2, h⟩ := h
  have ef2 := Option.some.inj ef2
  refine hr_newI (n := (8 : Int32)) (M := 8) hx hb hk (hts (.arrayClass .int) (by decide +kernel)) hw c1 (by decide) (Nat.le_of_ble_eq_true rfl) (Nat.le_of_ble_eq_true rfl) dX4_init_7 (fun H hw => ?_)
  rw [ef2] at hw
  refine lv_dup hx hb dX4_init_9 rfl ?_
  refine lv_iconst (v := 0) hx hb dX4_init_10 (by decide) ?_
  refine lv_iconst (v := (-1)) hx hb dX4_init_11 (by decide) ?_
  replace h := hbd h
  obtain ⟨f3, ef3, h⟩ := h
  refine hr_sI hx hb hk hw ef3 dX4_init_12 (fun H locs hw => ?_)
  refine lv_dup hx hb dX4_init_13 rfl ?_
  refine lv_iconst (v := 1) hx hb dX4_init_14 (by decide) ?_
  refine lv_iconst (v := (-1)) hx hb dX4_init_15 (by decide) ?_
  replace h := hbd h
  obtain ⟨f4, ef4, h⟩ := h
  refine hr_sI hx hb hk hw ef4 dX4_init_16 (fun H locs hw => ?_)
  refine lv_dup hx hb dX4_init_17 rfl ?_
  refine lv_iconst (v := 2) hx hb dX4_init_18 (by decide) ?_
  refine lv_iconst (v := (-1)) hx hb dX4_init_19 (by decide) ?_
  replace h := hbd h
  obtain ⟨f5, ef5, h⟩ := h
  refine hr_sI hx hb hk hw ef5 dX4_init_20 (fun H locs hw => ?_)
  refine lv_dup hx hb dX4_init_21 rfl ?_
  refine lv_iconst (v := 3) hx hb dX4_init_22 (by decide) ?_
  refine lv_iconst (v := (-1)) hx hb dX4_init_23 (by decide) ?_
  replace h := hbd h
  obtain ⟨f6, ef6, h⟩ := h
  refine hr_sI hx hb hk hw ef6 dX4_init_24 (fun H locs hw => ?_)
  refine lv_dup hx hb dX4_init_25 rfl ?_
  refine lv_iconst (v := 4) hx hb dX4_init_26 (by decide) ?_
  refine lv_iconst (v := (-1)) hx hb dX4_init_27 (by decide) ?_
  replace h := hbd h
  obtain ⟨f7, ef7, h⟩ := h
  refine hr_sI hx hb hk hw ef7 dX4_init_28 (fun H locs hw => ?_)
  refine lv_dup hx hb dX4_init_29 rfl ?_
  refine lv_iconst (v := 5) hx hb dX4_init_30 (by decide) ?_
  refine lv_iconst (v := (-1)) hx hb dX4_init_31 (by decide) ?_
  replace h := hbd h
  obtain ⟨f8, ef8, h⟩ := h
  refine hr_sI hx hb hk hw ef8 dX4_init_32 (fun H locs hw => ?_)
  refine lv_dup hx hb dX4_init_33 rfl ?_
  refine lv_bipush (v := 6) hx hb dX4_init_34 (by decide) ?_
  refine lv_iconst (v := (-1)) hx hb dX4_init_36 (by decide) ?_
  replace h := hbd h
  obtain ⟨f9, ef9, h⟩ := h
  refine hr_sI hx hb hk hw ef9 dX4_init_37 (fun H locs hw => ?_)
  refine lv_dup hx hb dX4_init_38 rfl ?_
  refine lv_bipush (v := 7) hx hb dX4_init_39 (by decide) ?_
  refine lv_iconst (v := (-1)) hx hb dX4_init_41 (by decide) ?_
  replace h := hbd h
  obtain ⟨f10, ef10, h⟩ := h
  refine hr_sI hx hb hk hw ef10 dX4_init_42 (fun H locs hw => ?_)
  replace h := hbd h
  obtain ⟨f11, ef11, h⟩ := h
  refine hr_putF (C := RX4) (T := TX4) (N := 9) (ty := .array .int) hx hb hts iX4_init_X4 tyX4 tyX4_ok nmX4 hown hk hw rfl 0 (by decide) (hts (.fieldLink RX4 9 "SetterBenchModel" "lies" "[I") (by decide +kernel)) (fun _ h9 => h9) rfl hname rfl (by decide +kernel) rfl rfl ef11 dX4_init_43 (fun H locs hw => ?_)
  refine lv_aload_n hx hb dX4_init_46 rfl (lv_at hl 0 rfl) ?_
  refine lv_bipush (v := 10) hx hb dX4_init_47 (by decide) ?_
  replace h := hbd h
  obtain ⟨_, c12, h⟩ := h
  have c12 := (hif c12).1
  replace h := hbd h
  obtain ⟨f13, ef13, h⟩ := h
  have ef13 := Option.some.inj ef13
  refine hr_newI (n := (10 : Int32)) (M := 10) hx hb hk (hts (.arrayClass .int) (by decide +kernel)) hw c12 (by decide) (Nat.le_of_ble_eq_true rfl) (Nat.le_of_ble_eq_true rfl) dX4_init_49 (fun H hw => ?_)
  rw [ef13] at hw
  replace h := hbd h
  obtain ⟨f14, ef14, h⟩ := h
  refine hr_putF (C := RX4) (T := TX4) (N := 9) (ty := .array .int) hx hb hts iX4_init_X4 tyX4 tyX4_ok nmX4 hown hk hw rfl 1 (by decide) (hts (.fieldLink RX4 13 "SetterBenchModel" "sort" "[I") (by decide +kernel)) (fun _ h9 => h9) rfl hname rfl (by decide +kernel) rfl rfl ef14 dX4_init_51 (fun H locs hw => ?_)
  refine lv_aload_n hx hb dX4_init_54 rfl (lv_at hl 0 rfl) ?_
  refine lv_bipush (v := 10) hx hb dX4_init_55 (by decide) ?_
  replace h := hbd h
  obtain ⟨_, c15, h⟩ := h
  have c15 := (hif c15).1
  replace h := hbd h
  obtain ⟨f16, ef16, h⟩ := h
  have ef16 := Option.some.inj ef16
  refine hr_newI (n := (10 : Int32)) (M := 10) hx hb hk (hts (.arrayClass .int) (by decide +kernel)) hw c15 (by decide) (Nat.le_of_ble_eq_true rfl) (Nat.le_of_ble_eq_true rfl) dX4_init_57 (fun H hw => ?_)
  rw [ef16] at hw
  replace h := hbd h
  obtain ⟨f17, ef17, h⟩ := h
  refine hr_putF (C := RX4) (T := TX4) (N := 9) (ty := .array .int) hx hb hts iX4_init_X4 tyX4 tyX4_ok nmX4 hown hk hw rfl 2 (by decide) (hts (.fieldLink RX4 16 "SetterBenchModel" "many" "[I") (by decide +kernel)) (fun _ h9 => h9) rfl hname rfl (by decide +kernel) rfl rfl ef17 dX4_init_59 (fun H locs hw => ?_)
  refine lv_aload_n hx hb dX4_init_62 rfl (lv_at hl 0 rfl) ?_
  refine lv_bipush (v := 10) hx hb dX4_init_63 (by decide) ?_
  replace h := hbd h
  obtain ⟨_, c18, h⟩ := h
  have c18 := (hif c18).1
  replace h := hbd h
  obtain ⟨f19, ef19, h⟩ := h
  have ef19 := Option.some.inj ef19
  refine hr_newI (n := (10 : Int32)) (M := 10) hx hb hk (hts (.arrayClass .int) (by decide +kernel)) hw c18 (by decide) (Nat.le_of_ble_eq_true rfl) (Nat.le_of_ble_eq_true rfl) dX4_init_65 (fun H hw => ?_)
  rw [ef19] at hw
  replace h := hbd h
  obtain ⟨f20, ef20, h⟩ := h
  refine hr_putF (C := RX4) (T := TX4) (N := 9) (ty := .array .int) hx hb hts iX4_init_X4 tyX4 tyX4_ok nmX4 hown hk hw rfl 3 (by decide) (hts (.fieldLink RX4 19 "SetterBenchModel" "lit" "[I") (by decide +kernel)) (fun _ h9 => h9) rfl hname rfl (by decide +kernel) rfl rfl ef20 dX4_init_67 (fun H locs hw => ?_)
  refine lv_aload_n hx hb dX4_init_70 rfl (lv_at hl 0 rfl) ?_
  refine lv_sipush (v := 400) hx hb dX4_init_71 (by decide) ?_
  replace h := hbd h
  obtain ⟨_, c21, h⟩ := h
  have c21 := (hif c21).1
  replace h := hbd h
  obtain ⟨f22, ef22, h⟩ := h
  have ef22 := Option.some.inj ef22
  refine hr_newJ (n := (400 : Int32)) (M := 400) hx hb hk (hts (.arrayClass .long) (by decide +kernel)) hw c21 (by decide) (Nat.le_of_ble_eq_true rfl) (Nat.le_of_ble_eq_true rfl) dX4_init_74 (fun H hw => ?_)
  rw [ef22] at hw
  replace h := hbd h
  obtain ⟨f23, ef23, h⟩ := h
  refine hr_putF (C := RX4) (T := TX4) (N := 9) (ty := .array .long) hx hb hts iX4_init_X4 tyX4 tyX4_ok nmX4 hown hk hw rfl 4 (by decide) (hts (.fieldLink RX4 22 "SetterBenchModel" "members" "[J") (by decide +kernel)) (fun _ h9 => h9) rfl hname rfl (by decide +kernel) rfl rfl ef23 dX4_init_76 (fun H locs hw => ?_)
  refine lv_aload_n hx hb dX4_init_79 rfl (lv_at hl 0 rfl) ?_
  refine lv_bipush (v := 40) hx hb dX4_init_80 (by decide) ?_
  replace h := hbd h
  obtain ⟨_, c24, h⟩ := h
  have c24 := (hif c24).1
  replace h := hbd h
  obtain ⟨f25, ef25, h⟩ := h
  have ef25 := Option.some.inj ef25
  refine hr_newJ (n := (40 : Int32)) (M := 40) hx hb hk (hts (.arrayClass .long) (by decide +kernel)) hw c24 (by decide) (Nat.le_of_ble_eq_true rfl) (Nat.le_of_ble_eq_true rfl) dX4_init_82 (fun H hw => ?_)
  rw [ef25] at hw
  replace h := hbd h
  obtain ⟨f26, ef26, h⟩ := h
  refine hr_putF (C := RX4) (T := TX4) (N := 9) (ty := .array .long) hx hb hts iX4_init_X4 tyX4 tyX4_ok nmX4 hown hk hw rfl 5 (by decide) (hts (.fieldLink RX4 26 "SetterBenchModel" "carried" "[J") (by decide +kernel)) (fun _ h9 => h9) rfl hname rfl (by decide +kernel) rfl rfl ef26 dX4_init_84 (fun H locs hw => ?_)
  refine lv_aload_n hx hb dX4_init_87 rfl (lv_at hl 0 rfl) ?_
  refine lv_bipush (v := 40) hx hb dX4_init_88 (by decide) ?_
  replace h := hbd h
  obtain ⟨_, c27, h⟩ := h
  have c27 := (hif c27).1
  replace h := hbd h
  obtain ⟨f28, ef28, h⟩ := h
  have ef28 := Option.some.inj ef28
  refine hr_newJ (n := (40 : Int32)) (M := 40) hx hb hk (hts (.arrayClass .long) (by decide +kernel)) hw c27 (by decide) (Nat.le_of_ble_eq_true rfl) (Nat.le_of_ble_eq_true rfl) dX4_init_90 (fun H hw => ?_)
  rw [ef28] at hw
  replace h := hbd h
  obtain ⟨f29, ef29, h⟩ := h
  refine hr_putF (C := RX4) (T := TX4) (N := 9) (ty := .array .long) hx hb hts iX4_init_X4 tyX4 tyX4_ok nmX4 hown hk hw rfl 6 (by decide) (hts (.fieldLink RX4 29 "SetterBenchModel" "kept" "[J") (by decide +kernel)) (fun _ h9 => h9) rfl hname rfl (by decide +kernel) rfl rfl ef29 dX4_init_92 (fun H locs hw => ?_)
  refine lv_aload_n hx hb dX4_init_95 rfl (lv_at hl 0 rfl) ?_
  refine lv_iconst (v := (-1)) hx hb dX4_init_96 (by decide) ?_
  replace h := hbd h
  obtain ⟨f30, ef30, h⟩ := h
  refine hr_put (C := RX4) (T := TX4) (N := 9) (ty := .int) hx hb hts iX4_init_X4 tyX4 tyX4_ok nmX4 hown hk hw rfl 7 (by decide) (hts (.fieldLink RX4 32 "SetterBenchModel" "keeper" "I") (by decide +kernel)) (fun _ h9 => h9) rfl (by decide +kernel) rfl rfl ef30 dX4_init_97 (fun H locs hw => ?_)
  refine lv_aload_n hx hb dX4_init_100 rfl (lv_at hl 0 rfl) ?_
  refine lv_bipush (v := 7) hx hb dX4_init_101 (by decide) ?_
  replace h := hbd h
  obtain ⟨_, c31, h⟩ := h
  have c31 := (hif c31).1
  replace h := hbd h
  obtain ⟨f32, ef32, h⟩ := h
  have ef32 := Option.some.inj ef32
  refine hr_newI (n := (7 : Int32)) (M := 7) hx hb hk (hts (.arrayClass .int) (by decide +kernel)) hw c31 (by decide) (Nat.le_of_ble_eq_true rfl) (Nat.le_of_ble_eq_true rfl) dX4_init_103 (fun H hw => ?_)
  rw [ef32] at hw
  replace h := hbd h
  obtain ⟨f33, ef33, h⟩ := h
  refine hr_putF (C := RX4) (T := TX4) (N := 9) (ty := .array .int) hx hb hts iX4_init_X4 tyX4 tyX4_ok nmX4 hown hk hw rfl 8 (by decide) (hts (.fieldLink RX4 36 "SetterBenchModel" "counts" "[I") (by decide +kernel)) (fun _ h9 => h9) rfl hname rfl (by decide +kernel) rfl rfl ef33 dX4_init_105 (fun H locs hw => ?_)
  cases h
  exact hret_v hx hb hr hlocks hw dX4_init_108
def fX4_isPlace (f : hPl) (p1 : Int32) : Option Int32 := (if p1 < 0 then some 0 else (if 8 ≤ p1 then some 0 else some 1))
set_option maxHeartbeats 4000000 in
set_option maxRecDepth 100000 in
theorem kX4_isPlace (l : Launch) (g : hGb) {f : hPl} {z : Nat} {p1 : Int32} {r : Int32} (h : fX4_isPlace f p1 = some r) : hCt l g yX4_isPlace wsX4_isPlace 0 0 0 [.int p1] f z (some (.int r)) f z := by
  refine hCt.of (cc := cX4_isPlace) (maxL := 1) (ret := (some .boolean)) (by decide +kernel) rfl (by exact Nat.le_of_ble_eq_true rfl) ?_
  intro p e s m below meth c C hname hw ls hl
  obtain ⟨hx, hb, hml, hown, hts, hr, hlocks, hk⟩ := id C
  have hl : lv_has ls 1 [(0, .int p1)] := hl
  have hown : s.vm.findClass RX4 = some m.cls := hown
  unfold fX4_isPlace at h
  refine lv_iload_n hx hb dX4_isPlace_0 rfl (lv_at hl 0 rfl) ?_
  refine lv_if_lt (tgt := 14) hx hb dX4_isPlace_1 (by decide) (fun c1 => ?_) (fun c1 => ?_)
  · rw [if_pos c1] at h
    refine lv_iconst (v := 0) hx hb dX4_isPlace_14 (by decide) ?_
    cases h
    exact hret_z hx hb hr hlocks hw (Or.inl rfl) dX4_isPlace_15
  · rw [if_neg c1] at h
    refine lv_iload_n hx hb dX4_isPlace_4 rfl (lv_at hl 0 rfl) ?_
    refine lv_bipush (v := 8) hx hb dX4_isPlace_5 (by decide) ?_
    refine lv_icmp_ge (tgt := 14) hx hb dX4_isPlace_7 (by decide) (fun c2 => ?_) (fun c2 => ?_)
    · rw [if_pos c2] at h
      refine lv_iconst (v := 0) hx hb dX4_isPlace_14 (by decide) ?_
      cases h
      exact hret_z hx hb hr hlocks hw (Or.inl rfl) dX4_isPlace_15
    · rw [if_neg c2] at h
      refine lv_iconst (v := 1) hx hb dX4_isPlace_10 (by decide) ?_
      refine lv_goto (tgt := 15) hx hb dX4_isPlace_11 (by decide) ?_
      cases h
      exact hret_z hx hb hr hlocks hw (Or.inr rfl) dX4_isPlace_15
def fX4_isTray (f : hPl) (p1 : Int32) : Option Int32 := (if p1 < 2 then some 0 else (if 10 < p1 then some 0 else some 1))
set_option maxHeartbeats 4000000 in
set_option maxRecDepth 100000 in
theorem kX4_isTray (l : Launch) (g : hGb) {f : hPl} {z : Nat} {p1 : Int32} {r : Int32} (h : fX4_isTray f p1 = some r) : hCt l g yX4_isTray wsX4_isTray 0 0 0 [.int p1] f z (some (.int r)) f z := by
  refine hCt.of (cc := cX4_isTray) (maxL := 1) (ret := (some .boolean)) (by decide +kernel) rfl (by exact Nat.le_of_ble_eq_true rfl) ?_
  intro p e s m below meth c C hname hw ls hl
  obtain ⟨hx, hb, hml, hown, hts, hr, hlocks, hk⟩ := id C
  have hl : lv_has ls 1 [(0, .int p1)] := hl
  have hown : s.vm.findClass RX4 = some m.cls := hown
  unfold fX4_isTray at h
  refine lv_iload_n hx hb dX4_isTray_0 rfl (lv_at hl 0 rfl) ?_
  refine lv_iconst (v := 2) hx hb dX4_isTray_1 (by decide) ?_
  refine lv_icmp_lt (tgt := 15) hx hb dX4_isTray_2 (by decide) (fun c1 => ?_) (fun c1 => ?_)
  · rw [if_pos c1] at h
    refine lv_iconst (v := 0) hx hb dX4_isTray_15 (by decide) ?_
    cases h
    exact hret_z hx hb hr hlocks hw (Or.inl rfl) dX4_isTray_16
  · rw [if_neg c1] at h
    refine lv_iload_n hx hb dX4_isTray_5 rfl (lv_at hl 0 rfl) ?_
    refine lv_bipush (v := 10) hx hb dX4_isTray_6 (by decide) ?_
    refine lv_icmp_gt (tgt := 15) hx hb dX4_isTray_8 (by decide) (fun c2 => ?_) (fun c2 => ?_)
    · rw [if_pos c2] at h
      refine lv_iconst (v := 0) hx hb dX4_isTray_15 (by decide) ?_
      cases h
      exact hret_z hx hb hr hlocks hw (Or.inl rfl) dX4_isTray_16
    · rw [if_neg c2] at h
      refine lv_iconst (v := 1) hx hb dX4_isTray_11 (by decide) ?_
      refine lv_goto (tgt := 16) hx hb dX4_isTray_12 (by decide) ?_
      cases h
      exact hret_z hx hb hr hlocks hw (Or.inr rfl) dX4_isTray_16
def fX4_isOfNumbers (f : hPl) (p1 : Int32) : Option Int32 := (if p1 < 2 then some 0 else (if 5 < p1 then some 0 else some 1))
set_option maxHeartbeats 4000000 in
set_option maxRecDepth 100000 in
theorem kX4_isOfNumbers (l : Launch) (g : hGb) {f : hPl} {z : Nat} {p1 : Int32} {r : Int32} (h : fX4_isOfNumbers f p1 = some r) : hCt l g yX4_isOfNumbers wsX4_isOfNumbers 0 0 0 [.int p1] f z (some (.int r)) f z := by
  refine hCt.of (cc := cX4_isOfNumbers) (maxL := 1) (ret := (some .boolean)) (by decide +kernel) rfl (by exact Nat.le_of_ble_eq_true rfl) ?_
  intro p e s m below meth c C hname hw ls hl
  obtain ⟨hx, hb, hml, hown, hts, hr, hlocks, hk⟩ := id C
  have hl : lv_has ls 1 [(0, .int p1)] := hl
  have hown : s.vm.findClass RX4 = some m.cls := hown
  unfold fX4_isOfNumbers at h
  refine lv_iload_n hx hb dX4_isOfNumbers_0 rfl (lv_at hl 0 rfl) ?_
  refine lv_iconst (v := 2) hx hb dX4_isOfNumbers_1 (by decide) ?_
  refine lv_icmp_lt (tgt := 14) hx hb dX4_isOfNumbers_2 (by decide) (fun c1 => ?_) (fun c1 => ?_)
  · rw [if_pos c1] at h
    refine lv_iconst (v := 0) hx hb dX4_isOfNumbers_14 (by decide) ?_
    cases h
    exact hret_z hx hb hr hlocks hw (Or.inl rfl) dX4_isOfNumbers_15
  · rw [if_neg c1] at h
    refine lv_iload_n hx hb dX4_isOfNumbers_5 rfl (lv_at hl 0 rfl) ?_
    refine lv_iconst (v := 5) hx hb dX4_isOfNumbers_6 (by decide) ?_
    refine lv_icmp_gt (tgt := 14) hx hb dX4_isOfNumbers_7 (by decide) (fun c2 => ?_) (fun c2 => ?_)
    · rw [if_pos c2] at h
      refine lv_iconst (v := 0) hx hb dX4_isOfNumbers_14 (by decide) ?_
      cases h
      exact hret_z hx hb hr hlocks hw (Or.inl rfl) dX4_isOfNumbers_15
    · rw [if_neg c2] at h
      refine lv_iconst (v := 1) hx hb dX4_isOfNumbers_10 (by decide) ?_
      refine lv_goto (tgt := 15) hx hb dX4_isOfNumbers_11 (by decide) ?_
      cases h
      exact hret_z hx hb hr hlocks hw (Or.inr rfl) dX4_isOfNumbers_15
def fX4_isOfStones (f : hPl) (p1 : Int32) : Option Int32 := (if p1 < 6 then some 0 else (if 10 < p1 then some 0 else some 1))
set_option maxHeartbeats 4000000 in
set_option maxRecDepth 100000 in
theorem kX4_isOfStones (l : Launch) (g : hGb) {f : hPl} {z : Nat} {p1 : Int32} {r : Int32} (h : fX4_isOfStones f p1 = some r) : hCt l g yX4_isOfStones wsX4_isOfStones 0 0 0 [.int p1] f z (some (.int r)) f z := by
  refine hCt.of (cc := cX4_isOfStones) (maxL := 1) (ret := (some .boolean)) (by decide +kernel) rfl (by exact Nat.le_of_ble_eq_true rfl) ?_
  intro p e s m below meth c C hname hw ls hl
  obtain ⟨hx, hb, hml, hown, hts, hr, hlocks, hk⟩ := id C
  have hl : lv_has ls 1 [(0, .int p1)] := hl
  have hown : s.vm.findClass RX4 = some m.cls := hown
  unfold fX4_isOfStones at h
  refine lv_iload_n hx hb dX4_isOfStones_0 rfl (lv_at hl 0 rfl) ?_
  refine lv_bipush (v := 6) hx hb dX4_isOfStones_1 (by decide) ?_
  refine lv_icmp_lt (tgt := 16) hx hb dX4_isOfStones_3 (by decide) (fun c1 => ?_) (fun c1 => ?_)
  · rw [if_pos c1] at h
    refine lv_iconst (v := 0) hx hb dX4_isOfStones_16 (by decide) ?_
    cases h
    exact hret_z hx hb hr hlocks hw (Or.inl rfl) dX4_isOfStones_17
  · rw [if_neg c1] at h
    refine lv_iload_n hx hb dX4_isOfStones_6 rfl (lv_at hl 0 rfl) ?_
    refine lv_bipush (v := 10) hx hb dX4_isOfStones_7 (by decide) ?_
    refine lv_icmp_gt (tgt := 16) hx hb dX4_isOfStones_9 (by decide) (fun c2 => ?_) (fun c2 => ?_)
    · rw [if_pos c2] at h
      refine lv_iconst (v := 0) hx hb dX4_isOfStones_16 (by decide) ?_
      cases h
      exact hret_z hx hb hr hlocks hw (Or.inl rfl) dX4_isOfStones_17
    · rw [if_neg c2] at h
      refine lv_iconst (v := 1) hx hb dX4_isOfStones_12 (by decide) ?_
      refine lv_goto (tgt := 17) hx hb dX4_isOfStones_13 (by decide) ?_
      cases h
      exact hret_z hx hb hr hlocks hw (Or.inr rfl) dX4_isOfStones_17
theorem iX4_sortOn_X4 : ∀ w ∈ wsX40, w ∈ wsX4_sortOn := by decide +kernel
def fX4_sortOn (f : hPl) (a : Nat) (p1 : Int32) : Option Int32 := (hgQ f a 3 0).bind fun q1 => q1.bind fun a2 => (hlI f a2 p1).bind fun x3 => (if x3 = (-1) then some 0 else (hgQ f a 3 1).bind fun q5 => (hgQ f a 3 0).bind fun q6 => q6.bind fun a7 => (hlI f a7 p1).bind fun x8 => q5.bind fun a9 => (hlI f a9 x8).bind fun x10 => some x10)
set_option maxHeartbeats 4000000 in
set_option maxRecDepth 100000 in
theorem kX4_sortOn (l : Launch) (g : hGb) {f : hPl} {z : Nat} {a : Nat} {p1 : Int32} {r : Int32} (h : fX4_sortOn f a p1 = some r) : hCt l g yX4_sortOn wsX4_sortOn 0 0 0 [.ref a, .int p1] f z (some (.int r)) f z := by
  refine hCt.of (cc := cX4_sortOn) (maxL := 2) (ret := (some .int)) (by decide +kernel) rfl (by exact Nat.le_of_ble_eq_true rfl) ?_
  intro p e s m below meth c C hname hw ls hl
  obtain ⟨hx, hb, hml, hown, hts, hr, hlocks, hk⟩ := id C
  have hl : lv_has ls 2 [(0, .ref a), (1, .int p1)] := hl
  have hown : s.vm.findClass RX4 = some m.cls := hown
  unfold fX4_sortOn at h
  refine lv_aload_n hx hb dX4_sortOn_0 rfl (lv_at hl 0 rfl) ?_
  replace h := hbd h
  obtain ⟨q1, eq1, h⟩ := h
  refine hr_getQ (C := RX4) (T := TX4) (N := 9) hx hb hts iX4_sortOn_X4 hown hk hw rfl 0 (by decide) (hts (.fieldLink RX4 9 "SetterBenchModel" "lies" "[I") (by decide +kernel)) (fun _ h9 => h9) eq1 dX4_sortOn_1 ?_
  refine lv_iload_n hx hb dX4_sortOn_4 rfl (lv_at hl 1 rfl) ?_
  replace h := hbd h
  obtain ⟨a2, rfl, h⟩ := h
  replace h := hbd h
  obtain ⟨x3, ex3, h⟩ := h
  refine hr_lI hx hb hk hw ex3 dX4_sortOn_5 ?_
  refine lv_iconst (v := (-1)) hx hb dX4_sortOn_6 (by decide) ?_
  refine lv_icmp_ne (tgt := 14) hx hb dX4_sortOn_7 (by decide) (fun c4 => ?_) (fun c4 => ?_)
  · rw [if_neg c4] at h
    refine lv_aload_n hx hb dX4_sortOn_14 rfl (lv_at hl 0 rfl) ?_
    replace h := hbd h
    obtain ⟨q5, eq5, h⟩ := h
    refine hr_getQ (C := RX4) (T := TX4) (N := 9) hx hb hts iX4_sortOn_X4 hown hk hw rfl 1 (by decide) (hts (.fieldLink RX4 13 "SetterBenchModel" "sort" "[I") (by decide +kernel)) (fun _ h9 => h9) eq5 dX4_sortOn_15 ?_
    refine lv_aload_n hx hb dX4_sortOn_18 rfl (lv_at hl 0 rfl) ?_
    replace h := hbd h
    obtain ⟨q6, eq6, h⟩ := h
    refine hr_getQ (C := RX4) (T := TX4) (N := 9) hx hb hts iX4_sortOn_X4 hown hk hw rfl 0 (by decide) (hts (.fieldLink RX4 9 "SetterBenchModel" "lies" "[I") (by decide +kernel)) (fun _ h9 => h9) eq6 dX4_sortOn_19 ?_
    refine lv_iload_n hx hb dX4_sortOn_22 rfl (lv_at hl 1 rfl) ?_
    replace h := hbd h
    obtain ⟨a7, rfl, h⟩ := h
    replace h := hbd h
    obtain ⟨x8, ex8, h⟩ := h
    refine hr_lI hx hb hk hw ex8 dX4_sortOn_23 ?_
    replace h := hbd h
    obtain ⟨a9, rfl, h⟩ := h
    replace h := hbd h
    obtain ⟨x10, ex10, h⟩ := h
    refine hr_lI hx hb hk hw ex10 dX4_sortOn_24 ?_
    cases h
    exact hret_i hx hb hr hlocks hw dX4_sortOn_25
  · rw [if_pos c4] at h
    refine lv_iconst (v := 0) hx hb dX4_sortOn_10 (by decide) ?_
    refine lv_goto (tgt := 25) hx hb dX4_sortOn_11 (by decide) ?_
    cases h
    exact hret_i hx hb hr hlocks hw dX4_sortOn_25
theorem iX4_manyOn_X4 : ∀ w ∈ wsX40, w ∈ wsX4_manyOn := by decide +kernel
def fX4_manyOn (f : hPl) (a : Nat) (p1 : Int32) : Option Int32 := (hgQ f a 3 0).bind fun q1 => q1.bind fun a2 => (hlI f a2 p1).bind fun x3 => (if x3 = (-1) then some 0 else (hgQ f a 3 2).bind fun q5 => (hgQ f a 3 0).bind fun q6 => q6.bind fun a7 => (hlI f a7 p1).bind fun x8 => q5.bind fun a9 => (hlI f a9 x8).bind fun x10 => some x10)
set_option maxHeartbeats 4000000 in
set_option maxRecDepth 100000 in
theorem kX4_manyOn (l : Launch) (g : hGb) {f : hPl} {z : Nat} {a : Nat} {p1 : Int32} {r : Int32} (h : fX4_manyOn f a p1 = some r) : hCt l g yX4_manyOn wsX4_manyOn 0 0 0 [.ref a, .int p1] f z (some (.int r)) f z := by
  refine hCt.of (cc := cX4_manyOn) (maxL := 2) (ret := (some .int)) (by decide +kernel) rfl (by exact Nat.le_of_ble_eq_true rfl) ?_
  intro p e s m below meth c C hname hw ls hl
  obtain ⟨hx, hb, hml, hown, hts, hr, hlocks, hk⟩ := id C
  have hl : lv_has ls 2 [(0, .ref a), (1, .int p1)] := hl
  have hown : s.vm.findClass RX4 = some m.cls := hown
  unfold fX4_manyOn at h
  refine lv_aload_n hx hb dX4_manyOn_0 rfl (lv_at hl 0 rfl) ?_
  replace h := hbd h
  obtain ⟨q1, eq1, h⟩ := h
  refine hr_getQ (C := RX4) (T := TX4) (N := 9) hx hb hts iX4_manyOn_X4 hown hk hw rfl 0 (by decide) (hts (.fieldLink RX4 9 "SetterBenchModel" "lies" "[I") (by decide +kernel)) (fun _ h9 => h9) eq1 dX4_manyOn_1 ?_
  refine lv_iload_n hx hb dX4_manyOn_4 rfl (lv_at hl 1 rfl) ?_
  replace h := hbd h
  obtain ⟨a2, rfl, h⟩ := h
  replace h := hbd h
  obtain ⟨x3, ex3, h⟩ := h
  refine hr_lI hx hb hk hw ex3 dX4_manyOn_5 ?_
  refine lv_iconst (v := (-1)) hx hb dX4_manyOn_6 (by decide) ?_
  refine lv_icmp_ne (tgt := 14) hx hb dX4_manyOn_7 (by decide) (fun c4 => ?_) (fun c4 => ?_)
  · rw [if_neg c4] at h
    refine lv_aload_n hx hb dX4_manyOn_14 rfl (lv_at hl 0 rfl) ?_
    replace h := hbd h
    obtain ⟨q5, eq5, h⟩ := h
    refine hr_getQ (C := RX4) (T := TX4) (N := 9) hx hb hts iX4_manyOn_X4 hown hk hw rfl 2 (by decide) (hts (.fieldLink RX4 16 "SetterBenchModel" "many" "[I") (by decide +kernel)) (fun _ h9 => h9) eq5 dX4_manyOn_15 ?_
    refine lv_aload_n hx hb dX4_manyOn_18 rfl (lv_at hl 0 rfl) ?_
    replace h := hbd h
    obtain ⟨q6, eq6, h⟩ := h
    refine hr_getQ (C := RX4) (T := TX4) (N := 9) hx hb hts iX4_manyOn_X4 hown hk hw rfl 0 (by decide) (hts (.fieldLink RX4 9 "SetterBenchModel" "lies" "[I") (by decide +kernel)) (fun _ h9 => h9) eq6 dX4_manyOn_19 ?_
    refine lv_iload_n hx hb dX4_manyOn_22 rfl (lv_at hl 1 rfl) ?_
    replace h := hbd h
    obtain ⟨a7, rfl, h⟩ := h
    replace h := hbd h
    obtain ⟨x8, ex8, h⟩ := h
    refine hr_lI hx hb hk hw ex8 dX4_manyOn_23 ?_
    replace h := hbd h
    obtain ⟨a9, rfl, h⟩ := h
    replace h := hbd h
    obtain ⟨x10, ex10, h⟩ := h
    refine hr_lI hx hb hk hw ex10 dX4_manyOn_24 ?_
    cases h
    exact hret_i hx hb hr hlocks hw dX4_manyOn_25
  · rw [if_pos c4] at h
    refine lv_iconst (v := 0) hx hb dX4_manyOn_10 (by decide) ?_
    refine lv_goto (tgt := 25) hx hb dX4_manyOn_11 (by decide) ?_
    cases h
    exact hret_i hx hb hr hlocks hw dX4_manyOn_25
theorem iX4_isUsed_X4 : ∀ w ∈ wsX40, w ∈ wsX4_isUsed := by decide +kernel
def fX4_isUsed_j16s (rec : hPl → Nat → Int32 → Int32 → Int32 → Option Int32) (f : hPl) (a : Nat) (v1 : Int32) (v2 : Int32) (v3 : Int32) : Option Int32 := (if 8 ≤ v3 then (if v2 = 0 ∨ v2 = 1 then some v2 else none) else (if v2 = 0 then (hgQ f a 3 0).bind fun q6 => q6.bind fun a7 => (hlI f a7 v3).bind fun x8 => (if x8 = v1 then rec f a v1 1 (v3 + 1) else rec f a v1 0 (v3 + 1)) else rec f a v1 1 (v3 + 1)))
set_option maxHeartbeats 4000000 in
set_option maxRecDepth 100000 in
theorem kX4_isUsed_j16s {g : hGb} {p : Program} {l : Launch} {e : Env} {s : State} {m : MethodId} {args : Array Value} {below : List Frame} {meth : Method} {c : Code} {A : Nat → Prop} (C : hX g p s m args meth c RX4 cX4_isUsed 4 wsX4_isUsed (some .boolean)) {f : hPl} {z : Nat} {r : Int32} (rec : hPl → Nat → Int32 → Int32 → Int32 → Option Int32) (hrec : ∀ (a : Nat) (v1 : Int32) (v2 : Int32) (v3 : Int32), rec f a v1 v2 v3 = some r → ∀ (H : Heap) (locs : List Loc) (ls : Array Slot), hW g A s f z H locs → lv_has ls 4 [(0, .ref a), (1, .int v1), (2, .int v2), (3, .int v3)] → W p l e (hRm 0 0 0) s m args below meth c H locs 0 0 (hZ g A below args s 0 0 (some (.int r)) f z) (F0 m 16 ls []))  : ∀ (a : Nat) (v1 : Int32) (v2 : Int32) (v3 : Int32), fX4_isUsed_j16s rec f a v1 v2 v3 = some r → ∀ (H : Heap) (locs : List Loc) (ls : Array Slot), hW g A s f z H locs → lv_has ls 4 [(0, .ref a), (1, .int v1), (2, .int v2), (3, .int v3)] → W p l e (hRm 0 0 0) s m args below meth c H locs 0 0 (hZ g A below args s 0 0 (some (.int r)) f z) (F0 m 16 ls []) := by
  obtain ⟨hx, hb, hml, hown, hts, hr, hlocks, hk⟩ := id C
  intro a v1 v2 v3 h H locs ls hw hl
  unfold fX4_isUsed_j16s at h
  refine lv_iload_n hx hb dX4_isUsed_16 rfl (lv_at hl 3 rfl) ?_
  refine lv_bipush (v := 8) hx hb dX4_isUsed_17 (by decide) ?_
  refine lv_icmp_ge (tgt := 48) hx hb dX4_isUsed_19 (by decide) (fun c3 => ?_) (fun c3 => ?_)
  · rw [if_pos c3] at h
    refine lv_iload_n hx hb dX4_isUsed_48 rfl (lv_at hl 2 rfl) ?_
    obtain ⟨c4, h⟩ := hif h
    cases h
    exact hret_z hx hb hr hlocks hw c4 dX4_isUsed_49
  · rw [if_neg c3] at h
    refine lv_iload_n hx hb dX4_isUsed_22 rfl (lv_at hl 2 rfl) ?_
    refine lv_if_ne (tgt := 36) hx hb dX4_isUsed_23 (by decide) (fun c5 => ?_) (fun c5 => ?_)
    · rw [if_neg c5] at h
      refine lv_iconst (v := 1) hx hb dX4_isUsed_36 (by decide) ?_
      refine lv_goto (tgt := 41) hx hb dX4_isUsed_37 (by decide) ?_
      refine lv_istore_n (lv' := [(2, .int 1), (0, .ref a), (1, .int v1), (3, .int v3)]) hx hb dX4_isUsed_41 rfl hl (by decide) rfl (fun ls hl => ?_)
      refine lv_iinc (v := (v3 + 1)) (lv' := [(3, .int (v3 + 1)), (2, .int 1), (0, .ref a), (1, .int v1)]) hx hb dX4_isUsed_42 hl (k := 3) rfl rfl (by decide) rfl (fun ls hl => ?_)
      refine lv_goto (tgt := 16) hx hb dX4_isUsed_45 (by decide) ?_
      exact hrec _ _ _ _ h _ _ _ hw (lv_sub hl [2, 3, 1, 0] rfl)
    · rw [if_pos c5] at h
      refine lv_aload_n hx hb dX4_isUsed_26 rfl (lv_at hl 0 rfl) ?_
      replace h := hbd h
      obtain ⟨q6, eq6, h⟩ := h
      refine hr_getQ (C := RX4) (T := TX4) (N := 9) hx hb hts iX4_isUsed_X4 hown hk hw rfl 0 (by decide) (hts (.fieldLink RX4 9 "SetterBenchModel" "lies" "[I") (by decide +kernel)) (fun _ h9 => h9) eq6 dX4_isUsed_27 ?_
      refine lv_iload_n hx hb dX4_isUsed_30 rfl (lv_at hl 3 rfl) ?_
      replace h := hbd h
      obtain ⟨a7, rfl, h⟩ := h
      replace h := hbd h
      obtain ⟨x8, ex8, h⟩ := h
      refine hr_lI hx hb hk hw ex8 dX4_isUsed_31 ?_
      refine lv_iload_n hx hb dX4_isUsed_32 rfl (lv_at hl 1 rfl) ?_
      refine lv_icmp_ne (tgt := 40) hx hb dX4_isUsed_33 (by decide) (fun c9 => ?_) (fun c9 => ?_)
      · rw [if_neg c9] at h
        refine lv_iconst (v := 0) hx hb dX4_isUsed_40 (by decide) ?_
        refine lv_istore_n (lv' := [(2, .int 0), (0, .ref a), (1, .int v1), (3, .int v3)]) hx hb dX4_isUsed_41 rfl hl (by decide) rfl (fun ls hl => ?_)
        refine lv_iinc (v := (v3 + 1)) (lv' := [(3, .int (v3 + 1)), (2, .int 0), (0, .ref a), (1, .int v1)]) hx hb dX4_isUsed_42 hl (k := 3) rfl rfl (by decide) rfl (fun ls hl => ?_)
        refine lv_goto (tgt := 16) hx hb dX4_isUsed_45 (by decide) ?_
        exact hrec _ _ _ _ h _ _ _ hw (lv_sub hl [2, 3, 1, 0] rfl)
      · rw [if_pos c9] at h
        refine lv_iconst (v := 1) hx hb dX4_isUsed_36 (by decide) ?_
        refine lv_goto (tgt := 41) hx hb dX4_isUsed_37 (by decide) ?_
        refine lv_istore_n (lv' := [(2, .int 1), (0, .ref a), (1, .int v1), (3, .int v3)]) hx hb dX4_isUsed_41 rfl hl (by decide) rfl (fun ls hl => ?_)
        refine lv_iinc (v := (v3 + 1)) (lv' := [(3, .int (v3 + 1)), (2, .int 1), (0, .ref a), (1, .int v1)]) hx hb dX4_isUsed_42 hl (k := 3) rfl rfl (by decide) rfl (fun ls hl => ?_)
        refine lv_goto (tgt := 16) hx hb dX4_isUsed_45 (by decide) ?_
        exact hrec _ _ _ _ h _ _ _ hw (lv_sub hl [2, 3, 1, 0] rfl)
def fX4_isUsed_j16 (n : Nat) : hPl → Nat → Int32 → Int32 → Int32 → Option Int32 := match n with
  | 0 => fun _ _ _ _ _ => none
  | n + 1 => fX4_isUsed_j16s (fX4_isUsed_j16 n)
theorem kX4_isUsed_j16 {g : hGb} {p : Program} {l : Launch} {e : Env} {s : State} {m : MethodId} {args : Array Value} {below : List Frame} {meth : Method} {c : Code} {A : Nat → Prop} (C : hX g p s m args meth c RX4 cX4_isUsed 4 wsX4_isUsed (some .boolean)) {f : hPl} {z : Nat} {r : Int32} (n : Nat) : ∀ (a : Nat) (v1 : Int32) (v2 : Int32) (v3 : Int32), fX4_isUsed_j16 n f a v1 v2 v3 = some r → ∀ (H : Heap) (locs : List Loc) (ls : Array Slot), hW g A s f z H locs → lv_has ls 4 [(0, .ref a), (1, .int v1), (2, .int v2), (3, .int v3)] → W p l e (hRm 0 0 0) s m args below meth c H locs 0 0 (hZ g A below args s 0 0 (some (.int r)) f z) (F0 m 16 ls []) := by
  induction n with
  | zero =>
    intro a v1 v2 v3 h
    cases h
  | succ n ih => exact kX4_isUsed_j16s C (fX4_isUsed_j16 n) ih
def fX4_isUsed (f : hPl) (a : Nat) (p1 : Int32) : Option Int32 := (hgI f a 3 7).bind fun x1 => (if p1 = x1 then fX4_isUsed_j16 64 f a p1 1 0 else fX4_isUsed_j16 64 f a p1 0 0)
set_option maxHeartbeats 4000000 in
set_option maxRecDepth 100000 in
theorem kX4_isUsed (l : Launch) (g : hGb) {f : hPl} {z : Nat} {a : Nat} {p1 : Int32} {r : Int32} (h : fX4_isUsed f a p1 = some r) : hCt l g yX4_isUsed wsX4_isUsed 0 0 0 [.ref a, .int p1] f z (some (.int r)) f z := by
  refine hCt.of (cc := cX4_isUsed) (maxL := 4) (ret := (some .boolean)) (by decide +kernel) rfl (by exact Nat.le_of_ble_eq_true rfl) ?_
  intro p e s m below meth c C hname hw ls hl
  obtain ⟨hx, hb, hml, hown, hts, hr, hlocks, hk⟩ := id C
  have hl : lv_has ls 4 [(0, .ref a), (1, .int p1)] := hl
  have hown : s.vm.findClass RX4 = some m.cls := hown
  unfold fX4_isUsed at h
  refine lv_iload_n hx hb dX4_isUsed_0 rfl (lv_at hl 1 rfl) ?_
  refine lv_aload_n hx hb dX4_isUsed_1 rfl (lv_at hl 0 rfl) ?_
  replace h := hbd h
  obtain ⟨x1, ex1, h⟩ := h
  refine hr_getI (C := RX4) (T := TX4) (N := 9) hx hb hts iX4_isUsed_X4 hown hk hw rfl 7 (by decide) (hts (.fieldLink RX4 32 "SetterBenchModel" "keeper" "I") (by decide +kernel)) (fun _ h9 => h9) ex1 dX4_isUsed_2 ?_
  refine lv_icmp_ne (tgt := 12) hx hb dX4_isUsed_5 (by decide) (fun c2 => ?_) (fun c2 => ?_)
  · rw [if_neg c2] at h
    refine lv_iconst (v := 0) hx hb dX4_isUsed_12 (by decide) ?_
    refine lv_istore_n (lv' := [(2, .int 0), (0, .ref a), (1, .int p1)]) hx hb dX4_isUsed_13 rfl hl (by decide) rfl (fun ls hl => ?_)
    refine lv_iconst (v := 0) hx hb dX4_isUsed_14 (by decide) ?_
    refine lv_istore_n (lv' := [(3, .int 0), (2, .int 0), (0, .ref a), (1, .int p1)]) hx hb dX4_isUsed_15 rfl hl (by decide) rfl (fun ls hl => ?_)
    exact kX4_isUsed_j16 C 64 _ _ _ _ h _ _ _ hw (lv_sub hl [2, 3, 1, 0] rfl)
  · rw [if_pos c2] at h
    refine lv_iconst (v := 1) hx hb dX4_isUsed_8 (by decide) ?_
    refine lv_goto (tgt := 13) hx hb dX4_isUsed_9 (by decide) ?_
    refine lv_istore_n (lv' := [(2, .int 1), (0, .ref a), (1, .int p1)]) hx hb dX4_isUsed_13 rfl hl (by decide) rfl (fun ls hl => ?_)
    refine lv_iconst (v := 0) hx hb dX4_isUsed_14 (by decide) ?_
    refine lv_istore_n (lv' := [(3, .int 0), (2, .int 1), (0, .ref a), (1, .int p1)]) hx hb dX4_isUsed_15 rfl hl (by decide) rfl (fun ls hl => ?_)
    exact kX4_isUsed_j16 C 64 _ _ _ _ h _ _ _ hw (lv_sub hl [2, 3, 1, 0] rfl)
theorem iX4_lay_X4 : ∀ w ∈ wsX40, w ∈ wsX4_lay := by decide +kernel
def fX4_lay_j112s (rec : hPl → Nat → Nat → Int32 → Int32 → Int32 → Option (Int32 × hPl × Nat)) (f : hPl) (z : Nat) (a : Nat) (v1 : Int32) (v4 : Int32) (v5 : Int32) : Option (Int32 × hPl × Nat) := (if 40 ≤ v5 then (hgQ f a 3 0).bind fun q24 => q24.bind fun a25 => (hsI f a25 v1 v4).bind fun f26 => some (1, f26, z) else (hgQ f a 3 4).bind fun q27 => q27.bind fun a28 => (hsJ f a28 ((40 * v4) + v5) (0 : Int64)).bind fun f29 => rec f29 z a v1 v4 (v5 + 1))
set_option maxHeartbeats 4000000 in
set_option maxRecDepth 100000 in
theorem kX4_lay_j112s {g : hGb} {p : Program} {l : Launch} {e : Env} {s : State} {m : MethodId} {args : Array Value} {below : List Frame} {meth : Method} {c : Code} {A : Nat → Prop} (C : hX g p s m args meth c RX4 cX4_lay 6 wsX4_lay (some .boolean)) {r : Int32} {f' : hPl} {z' : Nat} (rec : hPl → Nat → Nat → Int32 → Int32 → Int32 → Option (Int32 × hPl × Nat)) (hrec : ∀ (f : hPl) (z : Nat) (a : Nat) (v1 : Int32) (v4 : Int32) (v5 : Int32), rec f z a v1 v4 v5 = some (r, f', z') → ∀ (H : Heap) (locs : List Loc) (ls : Array Slot), hW g A s f z H locs → lv_has ls 6 [(0, .ref a), (1, .int v1), (4, .int v4), (5, .int v5)] → W p l e (hRm 1 0 0) s m args below meth c H locs 0 0 (hZ g A below args s 0 0 (some (.int r)) f' z') (F0 m 112 ls []))  : ∀ (f : hPl) (z : Nat) (a : Nat) (v1 : Int32) (v4 : Int32) (v5 : Int32), fX4_lay_j112s rec f z a v1 v4 v5 = some (r, f', z') → ∀ (H : Heap) (locs : List Loc) (ls : Array Slot), hW g A s f z H locs → lv_has ls 6 [(0, .ref a), (1, .int v1), (4, .int v4), (5, .int v5)] → W p l e (hRm 1 0 0) s m args below meth c H locs 0 0 (hZ g A below args s 0 0 (some (.int r)) f' z') (F0 m 112 ls []) := by
  obtain ⟨hx, hb, hml, hown, hts, hr, hlocks, hk⟩ := id C
  intro f z a v1 v4 v5 h H locs ls hw hl
  unfold fX4_lay_j112s at h
  refine lv_iload hx hb dX4_lay_112 (lv_at hl 3 rfl) ?_
  refine lv_bipush (v := 40) hx hb dX4_lay_114 (by decide) ?_
  refine lv_icmp_ge (tgt := 139) hx hb dX4_lay_116 (by decide) (fun c23 => ?_) (fun c23 => ?_)
  · rw [if_pos c23] at h
    refine lv_aload_n hx hb dX4_lay_139 rfl (lv_at hl 0 rfl) ?_
    replace h := hbd h
    obtain ⟨q24, eq24, h⟩ := h
    refine hr_getQ (C := RX4) (T := TX4) (N := 9) hx hb hts iX4_lay_X4 hown hk hw rfl 0 (by decide) (hts (.fieldLink RX4 9 "SetterBenchModel" "lies" "[I") (by decide +kernel)) (fun _ h9 => h9) eq24 dX4_lay_140 ?_
    refine lv_iload_n hx hb dX4_lay_143 rfl (lv_at hl 1 rfl) ?_
    refine lv_iload hx hb dX4_lay_144 (lv_at hl 2 rfl) ?_
    replace h := hbd h
    obtain ⟨a25, rfl, h⟩ := h
    replace h := hbd h
    obtain ⟨f26, ef26, h⟩ := h
    refine hr_sI hx hb hk hw ef26 dX4_lay_146 (fun H locs hw => ?_)
    refine lv_iconst (v := 1) hx hb dX4_lay_147 (by decide) ?_
    cases h
    exact hret_z hx hb hr hlocks hw (Or.inr rfl) dX4_lay_148
  · rw [if_neg c23] at h
    refine lv_aload_n hx hb dX4_lay_119 rfl (lv_at hl 0 rfl) ?_
    replace h := hbd h
    obtain ⟨q27, eq27, h⟩ := h
    refine hr_getQ (C := RX4) (T := TX4) (N := 9) hx hb hts iX4_lay_X4 hown hk hw rfl 4 (by decide) (hts (.fieldLink RX4 22 "SetterBenchModel" "members" "[J") (by decide +kernel)) (fun _ h9 => h9) eq27 dX4_lay_120 ?_
    refine lv_bipush (v := 40) hx hb dX4_lay_123 (by decide) ?_
    refine lv_iload hx hb dX4_lay_125 (lv_at hl 2 rfl) ?_
    refine lv_imul hx hb dX4_lay_127 ?_
    refine lv_iload hx hb dX4_lay_128 (lv_at hl 3 rfl) ?_
    refine lv_iadd hx hb dX4_lay_130 ?_
    refine lv_lconst (v := 0) hx hb dX4_lay_131 (by decide) ?_
    replace h := hbd h
    obtain ⟨a28, rfl, h⟩ := h
    replace h := hbd h
    obtain ⟨f29, ef29, h⟩ := h
    refine hr_sJ hx hb hk hw ef29 dX4_lay_132 (fun H locs hw => ?_)
    refine lv_iinc (v := (v5 + 1)) (lv' := [(5, .int (v5 + 1)), (0, .ref a), (1, .int v1), (4, .int v4)]) hx hb dX4_lay_133 hl (k := 3) rfl rfl (by decide) rfl (fun ls hl => ?_)
    refine lv_goto (tgt := 112) hx hb dX4_lay_136 (by decide) ?_
    exact hrec _ _ _ _ _ _ h _ _ _ hw (lv_sub hl [1, 2, 3, 0] rfl)
def fX4_lay_j112 (n : Nat) : hPl → Nat → Nat → Int32 → Int32 → Int32 → Option (Int32 × hPl × Nat) := match n with
  | 0 => fun _ _ _ _ _ _ => none
  | n + 1 => fX4_lay_j112s (fX4_lay_j112 n)
theorem kX4_lay_j112 {g : hGb} {p : Program} {l : Launch} {e : Env} {s : State} {m : MethodId} {args : Array Value} {below : List Frame} {meth : Method} {c : Code} {A : Nat → Prop} (C : hX g p s m args meth c RX4 cX4_lay 6 wsX4_lay (some .boolean)) {r : Int32} {f' : hPl} {z' : Nat} (n : Nat) : ∀ (f : hPl) (z : Nat) (a : Nat) (v1 : Int32) (v4 : Int32) (v5 : Int32), fX4_lay_j112 n f z a v1 v4 v5 = some (r, f', z') → ∀ (H : Heap) (locs : List Loc) (ls : Array Slot), hW g A s f z H locs → lv_has ls 6 [(0, .ref a), (1, .int v1), (4, .int v4), (5, .int v5)] → W p l e (hRm 1 0 0) s m args below meth c H locs 0 0 (hZ g A below args s 0 0 (some (.int r)) f' z') (F0 m 112 ls []) := by
  induction n with
  | zero =>
    intro f z a v1 v4 v5 h
    cases h
  | succ n ih => exact kX4_lay_j112s C (fX4_lay_j112 n) ih
def fX4_lay_j100 (f : hPl) (z : Nat) (a : Nat) (v1 : Int32) (v4 : Int32) (s0 : Int32) (s1 : Int32) (s2 : Option Nat) : Option (Int32 × hPl × Nat) := s2.bind fun a18 => (hsI f a18 s1 s0).bind fun f19 => (hgQ f19 a 3 3).bind fun q20 => q20.bind fun a21 => (hsI f19 a21 v4 0).bind fun f22 => fX4_lay_j112 64 f22 z a v1 v4 0
set_option maxHeartbeats 4000000 in
set_option maxRecDepth 100000 in
theorem kX4_lay_j100 {g : hGb} {p : Program} {l : Launch} {e : Env} {s : State} {m : MethodId} {args : Array Value} {below : List Frame} {meth : Method} {c : Code} {A : Nat → Prop} (C : hX g p s m args meth c RX4 cX4_lay 6 wsX4_lay (some .boolean)) {r : Int32} {f' : hPl} {z' : Nat}  : ∀ (f : hPl) (z : Nat) (a : Nat) (v1 : Int32) (v4 : Int32) (s0 : Int32) (s1 : Int32) (s2 : Option Nat), fX4_lay_j100 f z a v1 v4 s0 s1 s2 = some (r, f', z') → ∀ (H : Heap) (locs : List Loc) (ls : Array Slot), hW g A s f z H locs → lv_has ls 6 [(0, .ref a), (1, .int v1), (4, .int v4)] → W p l e (hRm 1 0 0) s m args below meth c H locs 0 0 (hZ g A below args s 0 0 (some (.int r)) f' z') (F0 m 100 ls [.int s0, .int s1, va_rf s2]) := by
  obtain ⟨hx, hb, hml, hown, hts, hr, hlocks, hk⟩ := id C
  intro f z a v1 v4 s0 s1 s2 h H locs ls hw hl
  unfold fX4_lay_j100 at h
  replace h := hbd h
  obtain ⟨a18, rfl, h⟩ := h
  replace h := hbd h
  obtain ⟨f19, ef19, h⟩ := h
  refine hr_sI hx hb hk hw ef19 dX4_lay_100 (fun H locs hw => ?_)
  refine lv_aload_n hx hb dX4_lay_101 rfl (lv_at hl 0 rfl) ?_
  replace h := hbd h
  obtain ⟨q20, eq20, h⟩ := h
  refine hr_getQ (C := RX4) (T := TX4) (N := 9) hx hb hts iX4_lay_X4 hown hk hw rfl 3 (by decide) (hts (.fieldLink RX4 19 "SetterBenchModel" "lit" "[I") (by decide +kernel)) (fun _ h9 => h9) eq20 dX4_lay_102 ?_
  refine lv_iload hx hb dX4_lay_105 (lv_at hl 2 rfl) ?_
  refine lv_iconst (v := 0) hx hb dX4_lay_107 (by decide) ?_
  replace h := hbd h
  obtain ⟨a21, rfl, h⟩ := h
  replace h := hbd h
  obtain ⟨f22, ef22, h⟩ := h
  refine hr_sI hx hb hk hw ef22 dX4_lay_108 (fun H locs hw => ?_)
  refine lv_iconst (v := 0) hx hb dX4_lay_109 (by decide) ?_
  refine lv_istore (lv' := [(5, .int 0), (0, .ref a), (1, .int v1), (4, .int v4)]) hx hb dX4_lay_110 hl (by decide) rfl (fun ls hl => ?_)
  exact kX4_lay_j112 C 64 _ _ _ _ _ _ h _ _ _ hw (lv_sub hl [1, 2, 3, 0] rfl)
def fX4_lay_j74 (f : hPl) (z : Nat) (a : Nat) (v1 : Int32) (v2 : Int32) (v3 : Int32) (v4 : Int32) : Option (Int32 × hPl × Nat) := (hgQ f a 3 1).bind fun q12 => q12.bind fun a13 => (hsI f a13 v4 v2).bind fun f14 => (hgQ f14 a 3 2).bind fun q15 => (fX4_isTray f14  v2).bind fun r16 => (if r16 = 0 then fX4_lay_j100 f14 z a v1 v4 0 v4 q15 else fX4_lay_j100 f14 z a v1 v4 v3 v4 q15)
set_option maxHeartbeats 4000000 in
set_option maxRecDepth 100000 in
theorem kX4_lay_j74 {g : hGb} {p : Program} {l : Launch} {e : Env} {s : State} {m : MethodId} {args : Array Value} {below : List Frame} {meth : Method} {c : Code} {A : Nat → Prop} (C : hX g p s m args meth c RX4 cX4_lay 6 wsX4_lay (some .boolean)) {r : Int32} {f' : hPl} {z' : Nat}  : ∀ (f : hPl) (z : Nat) (a : Nat) (v1 : Int32) (v2 : Int32) (v3 : Int32) (v4 : Int32), fX4_lay_j74 f z a v1 v2 v3 v4 = some (r, f', z') → ∀ (H : Heap) (locs : List Loc) (ls : Array Slot), hW g A s f z H locs → lv_has ls 6 [(0, .ref a), (1, .int v1), (2, .int v2), (3, .int v3), (4, .int v4)] → W p l e (hRm 1 0 0) s m args below meth c H locs 0 0 (hZ g A below args s 0 0 (some (.int r)) f' z') (F0 m 74 ls []) := by
  obtain ⟨hx, hb, hml, hown, hts, hr, hlocks, hk⟩ := id C
  intro f z a v1 v2 v3 v4 h H locs ls hw hl
  unfold fX4_lay_j74 at h
  refine lv_aload_n hx hb dX4_lay_74 rfl (lv_at hl 0 rfl) ?_
  replace h := hbd h
  obtain ⟨q12, eq12, h⟩ := h
  refine hr_getQ (C := RX4) (T := TX4) (N := 9) hx hb hts iX4_lay_X4 hown hk hw rfl 1 (by decide) (hts (.fieldLink RX4 13 "SetterBenchModel" "sort" "[I") (by decide +kernel)) (fun _ h9 => h9) eq12 dX4_lay_75 ?_
  refine lv_iload hx hb dX4_lay_78 (lv_at hl 4 rfl) ?_
  refine lv_iload_n hx hb dX4_lay_80 rfl (lv_at hl 2 rfl) ?_
  replace h := hbd h
  obtain ⟨a13, rfl, h⟩ := h
  replace h := hbd h
  obtain ⟨f14, ef14, h⟩ := h
  refine hr_sI hx hb hk hw ef14 dX4_lay_81 (fun H locs hw => ?_)
  refine lv_aload_n hx hb dX4_lay_82 rfl (lv_at hl 0 rfl) ?_
  replace h := hbd h
  obtain ⟨q15, eq15, h⟩ := h
  refine hr_getQ (C := RX4) (T := TX4) (N := 9) hx hb hts iX4_lay_X4 hown hk hw rfl 2 (by decide) (hts (.fieldLink RX4 16 "SetterBenchModel" "many" "[I") (by decide +kernel)) (fun _ h9 => h9) eq15 dX4_lay_83 ?_
  refine lv_iload hx hb dX4_lay_86 (lv_at hl 4 rfl) ?_
  refine lv_iload_n hx hb dX4_lay_88 rfl (lv_at hl 2 rfl) ?_
  replace h := hbd h
  obtain ⟨r16, er16, h⟩ := h
  refine hcallS (o := some (.int r16)) hx hb hml hown hts hk [.int v2] [.int v4, va_rf q15] (kX4_isTray l g er16) gX4_lay_X4_isTray rfl (n := 1) rfl (by decide +kernel) ⟨Nat.le_of_ble_eq_true rfl, Nat.le_of_ble_eq_true rfl⟩ hw hl.1 rfl (by cases q15 <;> exact Nat.le_of_ble_eq_true rfl) dX4_lay_89 ⟨Nat.le_of_ble_eq_true rfl, Nat.le_of_ble_eq_true rfl⟩ (fun H locs hw => ?_)
  refine W.eq (g2 := F0 m 92 ls [.int r16, .int v4, va_rf q15]) rfl ?_
  refine lv_if_eq (tgt := 99) hx hb dX4_lay_92 (by decide) (fun c17 => ?_) (fun c17 => ?_)
  · rw [if_pos c17] at h
    refine lv_iconst (v := 0) hx hb dX4_lay_99 (by decide) ?_
    exact kX4_lay_j100 C _ _ _ _ _ _ _ _ h _ _ _ hw (lv_sub hl [0, 1, 4] rfl)
  · rw [if_neg c17] at h
    refine lv_iload_n hx hb dX4_lay_95 rfl (lv_at hl 3 rfl) ?_
    refine lv_goto (tgt := 100) hx hb dX4_lay_96 (by decide) ?_
    exact kX4_lay_j100 C _ _ _ _ _ _ _ _ h _ _ _ hw (lv_sub hl [0, 1, 4] rfl)
def fX4_lay_j52s (rec : hPl → Nat → Nat → Int32 → Int32 → Int32 → Int32 → Option (Int32 × hPl × Nat)) (f : hPl) (z : Nat) (a : Nat) (v1 : Int32) (v2 : Int32) (v3 : Int32) (v4 : Int32) : Option (Int32 × hPl × Nat) := (if 9 ≤ v4 then fX4_lay_j74 f z a v1 v2 v3 v4 else (hob f a 3).bind fun u30 => (fX4_isUsed f a v4).bind fun r31 => (if r31 = 0 then fX4_lay_j74 f z a v1 v2 v3 v4 else rec f z a v1 v2 v3 (v4 + 1)))
set_option maxHeartbeats 4000000 in
set_option maxRecDepth 100000 in
theorem kX4_lay_j52s {g : hGb} {p : Program} {l : Launch} {e : Env} {s : State} {m : MethodId} {args : Array Value} {below : List Frame} {meth : Method} {c : Code} {A : Nat → Prop} (C : hX g p s m args meth c RX4 cX4_lay 6 wsX4_lay (some .boolean)) {r : Int32} {f' : hPl} {z' : Nat} (rec : hPl → Nat → Nat → Int32 → Int32 → Int32 → Int32 → Option (Int32 × hPl × Nat)) (hrec : ∀ (f : hPl) (z : Nat) (a : Nat) (v1 : Int32) (v2 : Int32) (v3 : Int32) (v4 : Int32), rec f z a v1 v2 v3 v4 = some (r, f', z') → ∀ (H : Heap) (locs : List Loc) (ls : Array Slot), hW g A s f z H locs → lv_has ls 6 [(0, .ref a), (1, .int v1), (2, .int v2), (3, .int v3), (4, .int v4)] → W p l e (hRm 1 0 0) s m args below meth c H locs 0 0 (hZ g A below args s 0 0 (some (.int r)) f' z') (F0 m 52 ls []))  : ∀ (f : hPl) (z : Nat) (a : Nat) (v1 : Int32) (v2 : Int32) (v3 : Int32) (v4 : Int32), fX4_lay_j52s rec f z a v1 v2 v3 v4 = some (r, f', z') → ∀ (H : Heap) (locs : List Loc) (ls : Array Slot), hW g A s f z H locs → lv_has ls 6 [(0, .ref a), (1, .int v1), (2, .int v2), (3, .int v3), (4, .int v4)] → W p l e (hRm 1 0 0) s m args below meth c H locs 0 0 (hZ g A below args s 0 0 (some (.int r)) f' z') (F0 m 52 ls []) := by
  obtain ⟨hx, hb, hml, hown, hts, hr, hlocks, hk⟩ := id C
  intro f z a v1 v2 v3 v4 h H locs ls hw hl
  unfold fX4_lay_j52s at h
  refine lv_iload hx hb dX4_lay_52 (lv_at hl 4 rfl) ?_
  refine lv_bipush (v := 9) hx hb dX4_lay_54 (by decide) ?_
  refine lv_icmp_ge (tgt := 74) hx hb dX4_lay_56 (by decide) (fun c11 => ?_) (fun c11 => ?_)
  · rw [if_pos c11] at h
    exact kX4_lay_j74 C _ _ _ _ _ _ _ h _ _ _ hw (lv_sub hl [0, 1, 2, 3, 4] rfl)
  · rw [if_neg c11] at h
    refine lv_aload_n hx hb dX4_lay_59 rfl (lv_at hl 0 rfl) ?_
    refine lv_iload hx hb dX4_lay_60 (lv_at hl 4 rfl) ?_
    replace h := hbd h
    obtain ⟨u30, eu30, h⟩ := h
    replace h := hbd h
    obtain ⟨r31, er31, h⟩ := h
    refine hcallV (o := some (.int r31)) hx hb hml hown hts hk [.int v4] [] (kX4_isUsed l g er31) gX4_lay_X4_isUsed rfl (n := 1) rfl (by decide +kernel) ⟨Nat.le_of_ble_eq_true rfl, Nat.le_of_ble_eq_true rfl⟩ (ci := 3) rfl eu30 hw hl.1 rfl (Nat.le_of_ble_eq_true rfl) dX4_lay_62 ⟨Nat.le_of_ble_eq_true rfl, Nat.le_of_ble_eq_true rfl⟩ (fun H locs hw => ?_)
    refine W.eq (g2 := F0 m 65 ls [.int r31]) rfl ?_
    refine lv_if_eq (tgt := 74) hx hb dX4_lay_65 (by decide) (fun c32 => ?_) (fun c32 => ?_)
    · rw [if_pos c32] at h
      exact kX4_lay_j74 C _ _ _ _ _ _ _ h _ _ _ hw (lv_sub hl [0, 1, 2, 3, 4] rfl)
    · rw [if_neg c32] at h
      refine lv_iinc (v := (v4 + 1)) (lv' := [(4, .int (v4 + 1)), (0, .ref a), (1, .int v1), (2, .int v2), (3, .int v3)]) hx hb dX4_lay_68 hl (k := 4) rfl rfl (by decide) rfl (fun ls hl => ?_)
      refine lv_goto (tgt := 52) hx hb dX4_lay_71 (by decide) ?_
      exact hrec _ _ _ _ _ _ _ h _ _ _ hw (lv_sub hl [1, 2, 3, 4, 0] rfl)
def fX4_lay_j52 (n : Nat) : hPl → Nat → Nat → Int32 → Int32 → Int32 → Int32 → Option (Int32 × hPl × Nat) := match n with
  | 0 => fun _ _ _ _ _ _ _ => none
  | n + 1 => fX4_lay_j52s (fX4_lay_j52 n)
theorem kX4_lay_j52 {g : hGb} {p : Program} {l : Launch} {e : Env} {s : State} {m : MethodId} {args : Array Value} {below : List Frame} {meth : Method} {c : Code} {A : Nat → Prop} (C : hX g p s m args meth c RX4 cX4_lay 6 wsX4_lay (some .boolean)) {r : Int32} {f' : hPl} {z' : Nat} (n : Nat) : ∀ (f : hPl) (z : Nat) (a : Nat) (v1 : Int32) (v2 : Int32) (v3 : Int32) (v4 : Int32), fX4_lay_j52 n f z a v1 v2 v3 v4 = some (r, f', z') → ∀ (H : Heap) (locs : List Loc) (ls : Array Slot), hW g A s f z H locs → lv_has ls 6 [(0, .ref a), (1, .int v1), (2, .int v2), (3, .int v3), (4, .int v4)] → W p l e (hRm 1 0 0) s m args below meth c H locs 0 0 (hZ g A below args s 0 0 (some (.int r)) f' z') (F0 m 52 ls []) := by
  induction n with
  | zero =>
    intro f z a v1 v2 v3 v4 h
    cases h
  | succ n ih => exact kX4_lay_j52s C (fX4_lay_j52 n) ih
def fX4_lay_j36 (f : hPl) (z : Nat) (a : Nat) (v1 : Int32) (v2 : Int32) (v3 : Int32) : Option (Int32 × hPl × Nat) := (hgQ f a 3 0).bind fun q7 => q7.bind fun a8 => (hsI f a8 v1 (-1)).bind fun f9 => (if v2 = 0 then some (1, f9, z) else fX4_lay_j52 64 f9 z a v1 v2 v3 0)
set_option maxHeartbeats 4000000 in
set_option maxRecDepth 100000 in
theorem kX4_lay_j36 {g : hGb} {p : Program} {l : Launch} {e : Env} {s : State} {m : MethodId} {args : Array Value} {below : List Frame} {meth : Method} {c : Code} {A : Nat → Prop} (C : hX g p s m args meth c RX4 cX4_lay 6 wsX4_lay (some .boolean)) {r : Int32} {f' : hPl} {z' : Nat}  : ∀ (f : hPl) (z : Nat) (a : Nat) (v1 : Int32) (v2 : Int32) (v3 : Int32), fX4_lay_j36 f z a v1 v2 v3 = some (r, f', z') → ∀ (H : Heap) (locs : List Loc) (ls : Array Slot), hW g A s f z H locs → lv_has ls 6 [(0, .ref a), (1, .int v1), (2, .int v2), (3, .int v3)] → W p l e (hRm 1 0 0) s m args below meth c H locs 0 0 (hZ g A below args s 0 0 (some (.int r)) f' z') (F0 m 36 ls []) := by
  obtain ⟨hx, hb, hml, hown, hts, hr, hlocks, hk⟩ := id C
  intro f z a v1 v2 v3 h H locs ls hw hl
  unfold fX4_lay_j36 at h
  refine lv_aload_n hx hb dX4_lay_36 rfl (lv_at hl 0 rfl) ?_
  replace h := hbd h
  obtain ⟨q7, eq7, h⟩ := h
  refine hr_getQ (C := RX4) (T := TX4) (N := 9) hx hb hts iX4_lay_X4 hown hk hw rfl 0 (by decide) (hts (.fieldLink RX4 9 "SetterBenchModel" "lies" "[I") (by decide +kernel)) (fun _ h9 => h9) eq7 dX4_lay_37 ?_
  refine lv_iload_n hx hb dX4_lay_40 rfl (lv_at hl 1 rfl) ?_
  refine lv_iconst (v := (-1)) hx hb dX4_lay_41 (by decide) ?_
  replace h := hbd h
  obtain ⟨a8, rfl, h⟩ := h
  replace h := hbd h
  obtain ⟨f9, ef9, h⟩ := h
  refine hr_sI hx hb hk hw ef9 dX4_lay_42 (fun H locs hw => ?_)
  refine lv_iload_n hx hb dX4_lay_43 rfl (lv_at hl 2 rfl) ?_
  refine lv_if_ne (tgt := 49) hx hb dX4_lay_44 (by decide) (fun c10 => ?_) (fun c10 => ?_)
  · rw [if_neg c10] at h
    refine lv_iconst (v := 0) hx hb dX4_lay_49 (by decide) ?_
    refine lv_istore (lv' := [(4, .int 0), (0, .ref a), (1, .int v1), (2, .int v2), (3, .int v3)]) hx hb dX4_lay_50 hl (by decide) rfl (fun ls hl => ?_)
    exact kX4_lay_j52 C 64 _ _ _ _ _ _ _ h _ _ _ hw (lv_sub hl [1, 2, 3, 4, 0] rfl)
  · rw [if_pos c10] at h
    refine lv_iconst (v := 1) hx hb dX4_lay_47 (by decide) ?_
    cases h
    exact hret_z hx hb hr hlocks hw (Or.inr rfl) dX4_lay_48
def fX4_lay (f : hPl) (z : Nat) (a : Nat) (p1 : Int32) (p2 : Int32) (p3 : Int32) : Option (Int32 × hPl × Nat) := (fX4_isPlace f  p1).bind fun r1 => (if r1 = 0 then some (0, f, z) else (if p2 < 0 then some (0, f, z) else (if 10 < p2 then some (0, f, z) else (fX4_isTray f  p2).bind fun r5 => (if r5 = 0 then fX4_lay_j36 f z a p1 p2 p3 else (if p3 < 0 then some (0, f, z) else (if p3 ≤ 40 then fX4_lay_j36 f z a p1 p2 p3 else some (0, f, z)))))))
set_option maxHeartbeats 4000000 in
set_option maxRecDepth 100000 in
theorem kX4_lay (l : Launch) (g : hGb) {f : hPl} {z : Nat} {a : Nat} {p1 : Int32} {p2 : Int32} {p3 : Int32} {r : Int32} {f' : hPl} {z' : Nat} (h : fX4_lay f z a p1 p2 p3 = some (r, f', z')) : hCt l g yX4_lay wsX4_lay 1 0 0 [.ref a, .int p1, .int p2, .int p3] f z (some (.int r)) f' z' := by
  refine hCt.of (cc := cX4_lay) (maxL := 6) (ret := (some .boolean)) (by decide +kernel) rfl (by exact Nat.le_of_ble_eq_true rfl) ?_
  intro p e s m below meth c C hname hw ls hl
  obtain ⟨hx, hb, hml, hown, hts, hr, hlocks, hk⟩ := id C
  have hl : lv_has ls 6 [(0, .ref a), (1, .int p1), (2, .int p2), (3, .int p3)] := hl
  have hown : s.vm.findClass RX4 = some m.cls := hown
  unfold fX4_lay at h
  refine lv_iload_n hx hb dX4_lay_0 rfl (lv_at hl 1 rfl) ?_
  replace h := hbd h
  obtain ⟨r1, er1, h⟩ := h
  refine hcallS (o := some (.int r1)) hx hb hml hown hts hk [.int p1] [] (kX4_isPlace l g er1) gX4_lay_X4_isPlace rfl (n := 1) rfl (by decide +kernel) ⟨Nat.le_of_ble_eq_true rfl, Nat.le_of_ble_eq_true rfl⟩ hw hl.1 rfl (Nat.le_of_ble_eq_true rfl) dX4_lay_1 ⟨Nat.le_of_ble_eq_true rfl, Nat.le_of_ble_eq_true rfl⟩ (fun H locs hw => ?_)
  refine W.eq (g2 := F0 m 4 ls [.int r1]) rfl ?_
  refine lv_if_eq (tgt := 34) hx hb dX4_lay_4 (by decide) (fun c2 => ?_) (fun c2 => ?_)
  · rw [if_pos c2] at h
    refine lv_iconst (v := 0) hx hb dX4_lay_34 (by decide) ?_
    cases h
    exact hret_z hx hb hr hlocks hw (Or.inl rfl) dX4_lay_35
  · rw [if_neg c2] at h
    refine lv_iload_n hx hb dX4_lay_7 rfl (lv_at hl 2 rfl) ?_
    refine lv_if_lt (tgt := 34) hx hb dX4_lay_8 (by decide) (fun c3 => ?_) (fun c3 => ?_)
    · rw [if_pos c3] at h
      refine lv_iconst (v := 0) hx hb dX4_lay_34 (by decide) ?_
      cases h
      exact hret_z hx hb hr hlocks hw (Or.inl rfl) dX4_lay_35
    · rw [if_neg c3] at h
      refine lv_iload_n hx hb dX4_lay_11 rfl (lv_at hl 2 rfl) ?_
      refine lv_bipush (v := 10) hx hb dX4_lay_12 (by decide) ?_
      refine lv_icmp_gt (tgt := 34) hx hb dX4_lay_14 (by decide) (fun c4 => ?_) (fun c4 => ?_)
      · rw [if_pos c4] at h
        refine lv_iconst (v := 0) hx hb dX4_lay_34 (by decide) ?_
        cases h
        exact hret_z hx hb hr hlocks hw (Or.inl rfl) dX4_lay_35
      · rw [if_neg c4] at h
        refine lv_iload_n hx hb dX4_lay_17 rfl (lv_at hl 2 rfl) ?_
        replace h := hbd h
        obtain ⟨r5, er5, h⟩ := h
        refine hcallS (o := some (.int r5)) hx hb hml hown hts hk [.int p2] [] (kX4_isTray l g er5) gX4_lay_X4_isTray rfl (n := 1) rfl (by decide +kernel) ⟨Nat.le_of_ble_eq_true rfl, Nat.le_of_ble_eq_true rfl⟩ hw hl.1 rfl (Nat.le_of_ble_eq_true rfl) dX4_lay_18 ⟨Nat.le_of_ble_eq_true rfl, Nat.le_of_ble_eq_true rfl⟩ (fun H locs hw => ?_)
        refine W.eq (g2 := F0 m 21 ls [.int r5]) rfl ?_
        refine lv_if_eq (tgt := 36) hx hb dX4_lay_21 (by decide) (fun c6 => ?_) (fun c6 => ?_)
        · rw [if_pos c6] at h
          exact kX4_lay_j36 C _ _ _ _ _ _ h _ _ _ hw (lv_sub hl [0, 1, 2, 3] rfl)
        · rw [if_neg c6] at h
          refine lv_iload_n hx hb dX4_lay_24 rfl (lv_at hl 3 rfl) ?_
          refine lv_if_lt (tgt := 34) hx hb dX4_lay_25 (by decide) (fun c33 => ?_) (fun c33 => ?_)
          · rw [if_pos c33] at h
            refine lv_iconst (v := 0) hx hb dX4_lay_34 (by decide) ?_
            cases h
            exact hret_z hx hb hr hlocks hw (Or.inl rfl) dX4_lay_35
          · rw [if_neg c33] at h
            refine lv_iload_n hx hb dX4_lay_28 rfl (lv_at hl 3 rfl) ?_
            refine lv_bipush (v := 40) hx hb dX4_lay_29 (by decide) ?_
            refine lv_icmp_le (tgt := 36) hx hb dX4_lay_31 (by decide) (fun c34 => ?_) (fun c34 => ?_)
            · rw [if_pos c34] at h
              exact kX4_lay_j36 C _ _ _ _ _ _ h _ _ _ hw (lv_sub hl [0, 1, 2, 3] rfl)
            · rw [if_neg c34] at h
              refine lv_iconst (v := 0) hx hb dX4_lay_34 (by decide) ?_
              cases h
              exact hret_z hx hb hr hlocks hw (Or.inl rfl) dX4_lay_35
theorem iX4_share_X4 : ∀ w ∈ wsX40, w ∈ wsX4_share := by decide +kernel
def fX4_share (f : hPl) (z : Nat) (a : Nat) (p1 : Int32) (p2 : Int32) : Option (Int32 × hPl × Nat) := (fX4_isPlace f  p1).bind fun r1 => (if r1 = 0 then some (0, f, z) else (fX4_isPlace f  p2).bind fun r3 => (if r3 = 0 then some (0, f, z) else (hgQ f a 3 0).bind fun q5 => (hgQ f a 3 0).bind fun q6 => q6.bind fun a7 => (hlI f a7 p1).bind fun x8 => q5.bind fun a9 => (hsI f a9 p2 x8).bind fun f10 => some (1, f10, z)))
set_option maxHeartbeats 4000000 in
set_option maxRecDepth 100000 in
theorem kX4_share (l : Launch) (g : hGb) {f : hPl} {z : Nat} {a : Nat} {p1 : Int32} {p2 : Int32} {r : Int32} {f' : hPl} {z' : Nat} (h : fX4_share f z a p1 p2 = some (r, f', z')) : hCt l g yX4_share wsX4_share 1 0 0 [.ref a, .int p1, .int p2] f z (some (.int r)) f' z' := by
  refine hCt.of (cc := cX4_share) (maxL := 3) (ret := (some .boolean)) (by decide +kernel) rfl (by exact Nat.le_of_ble_eq_true rfl) ?_
  intro p e s m below meth c C hname hw ls hl
  obtain ⟨hx, hb, hml, hown, hts, hr, hlocks, hk⟩ := id C
  have hl : lv_has ls 3 [(0, .ref a), (1, .int p1), (2, .int p2)] := hl
  have hown : s.vm.findClass RX4 = some m.cls := hown
  unfold fX4_share at h
  refine lv_iload_n hx hb dX4_share_0 rfl (lv_at hl 1 rfl) ?_
  replace h := hbd h
  obtain ⟨r1, er1, h⟩ := h
  refine hcallS (o := some (.int r1)) hx hb hml hown hts hk [.int p1] [] (kX4_isPlace l g er1) gX4_share_X4_isPlace rfl (n := 1) rfl (by decide +kernel) ⟨Nat.le_of_ble_eq_true rfl, Nat.le_of_ble_eq_true rfl⟩ hw hl.1 rfl (Nat.le_of_ble_eq_true rfl) dX4_share_1 ⟨Nat.le_of_ble_eq_true rfl, Nat.le_of_ble_eq_true rfl⟩ (fun H locs hw => ?_)
  refine W.eq (g2 := F0 m 4 ls [.int r1]) rfl ?_
  refine lv_if_eq (tgt := 14) hx hb dX4_share_4 (by decide) (fun c2 => ?_) (fun c2 => ?_)
  · rw [if_pos c2] at h
    refine lv_iconst (v := 0) hx hb dX4_share_14 (by decide) ?_
    cases h
    exact hret_z hx hb hr hlocks hw (Or.inl rfl) dX4_share_15
  · rw [if_neg c2] at h
    refine lv_iload_n hx hb dX4_share_7 rfl (lv_at hl 2 rfl) ?_
    replace h := hbd h
    obtain ⟨r3, er3, h⟩ := h
    refine hcallS (o := some (.int r3)) hx hb hml hown hts hk [.int p2] [] (kX4_isPlace l g er3) gX4_share_X4_isPlace rfl (n := 1) rfl (by decide +kernel) ⟨Nat.le_of_ble_eq_true rfl, Nat.le_of_ble_eq_true rfl⟩ hw hl.1 rfl (Nat.le_of_ble_eq_true rfl) dX4_share_8 ⟨Nat.le_of_ble_eq_true rfl, Nat.le_of_ble_eq_true rfl⟩ (fun H locs hw => ?_)
    refine W.eq (g2 := F0 m 11 ls [.int r3]) rfl ?_
    refine lv_if_ne (tgt := 16) hx hb dX4_share_11 (by decide) (fun c4 => ?_) (fun c4 => ?_)
    · rw [if_neg c4] at h
      refine lv_aload_n hx hb dX4_share_16 rfl (lv_at hl 0 rfl) ?_
      replace h := hbd h
      obtain ⟨q5, eq5, h⟩ := h
      refine hr_getQ (C := RX4) (T := TX4) (N := 9) hx hb hts iX4_share_X4 hown hk hw rfl 0 (by decide) (hts (.fieldLink RX4 9 "SetterBenchModel" "lies" "[I") (by decide +kernel)) (fun _ h9 => h9) eq5 dX4_share_17 ?_
      refine lv_iload_n hx hb dX4_share_20 rfl (lv_at hl 2 rfl) ?_
      refine lv_aload_n hx hb dX4_share_21 rfl (lv_at hl 0 rfl) ?_
      replace h := hbd h
      obtain ⟨q6, eq6, h⟩ := h
      refine hr_getQ (C := RX4) (T := TX4) (N := 9) hx hb hts iX4_share_X4 hown hk hw rfl 0 (by decide) (hts (.fieldLink RX4 9 "SetterBenchModel" "lies" "[I") (by decide +kernel)) (fun _ h9 => h9) eq6 dX4_share_22 ?_
      refine lv_iload_n hx hb dX4_share_25 rfl (lv_at hl 1 rfl) ?_
      replace h := hbd h
      obtain ⟨a7, rfl, h⟩ := h
      replace h := hbd h
      obtain ⟨x8, ex8, h⟩ := h
      refine hr_lI hx hb hk hw ex8 dX4_share_26 ?_
      replace h := hbd h
      obtain ⟨a9, rfl, h⟩ := h
      replace h := hbd h
      obtain ⟨f10, ef10, h⟩ := h
      refine hr_sI hx hb hk hw ef10 dX4_share_27 (fun H locs hw => ?_)
      refine lv_iconst (v := 1) hx hb dX4_share_28 (by decide) ?_
      cases h
      exact hret_z hx hb hr hlocks hw (Or.inr rfl) dX4_share_29
    · rw [if_pos c4] at h
      refine lv_iconst (v := 0) hx hb dX4_share_14 (by decide) ?_
      cases h
      exact hret_z hx hb hr hlocks hw (Or.inl rfl) dX4_share_15
theorem iX4_set_X4 : ∀ w ∈ wsX40, w ∈ wsX4_set := by decide +kernel
def fX4_set_j102 (f : hPl) (z : Nat) (a : Nat) (v1 : Int32) (v2 : Int32) (v5 : Int64) : Option (Int32 × hPl × Nat) := (hgQ f a 3 4).bind fun q18 => (hgQ f a 3 0).bind fun q19 => q19.bind fun a20 => (hlI f a20 v1).bind fun x21 => q18.bind fun a22 => (hsJ f a22 ((40 * x21) + v2) v5).bind fun f23 => some (0, f23, z)
set_option maxHeartbeats 4000000 in
set_option maxRecDepth 100000 in
theorem kX4_set_j102 {g : hGb} {p : Program} {l : Launch} {e : Env} {s : State} {m : MethodId} {args : Array Value} {below : List Frame} {meth : Method} {c : Code} {A : Nat → Prop} (C : hX g p s m args meth c RX4 cX4_set 7 wsX4_set (some .int)) {r : Int32} {f' : hPl} {z' : Nat}  : ∀ (f : hPl) (z : Nat) (a : Nat) (v1 : Int32) (v2 : Int32) (v5 : Int64), fX4_set_j102 f z a v1 v2 v5 = some (r, f', z') → ∀ (H : Heap) (locs : List Loc) (ls : Array Slot), hW g A s f z H locs → lv_has ls 7 [(0, .ref a), (1, .int v1), (2, .int v2), (5, .long v5)] → W p l e (hRm 1 0 0) s m args below meth c H locs 0 0 (hZ g A below args s 0 0 (some (.int r)) f' z') (F0 m 102 ls []) := by
  obtain ⟨hx, hb, hml, hown, hts, hr, hlocks, hk⟩ := id C
  intro f z a v1 v2 v5 h H locs ls hw hl
  unfold fX4_set_j102 at h
  refine lv_aload_n hx hb dX4_set_102 rfl (lv_at hl 0 rfl) ?_
  replace h := hbd h
  obtain ⟨q18, eq18, h⟩ := h
  refine hr_getQ (C := RX4) (T := TX4) (N := 9) hx hb hts iX4_set_X4 hown hk hw rfl 4 (by decide) (hts (.fieldLink RX4 22 "SetterBenchModel" "members" "[J") (by decide +kernel)) (fun _ h9 => h9) eq18 dX4_set_103 ?_
  refine lv_bipush (v := 40) hx hb dX4_set_106 (by decide) ?_
  refine lv_aload_n hx hb dX4_set_108 rfl (lv_at hl 0 rfl) ?_
  replace h := hbd h
  obtain ⟨q19, eq19, h⟩ := h
  refine hr_getQ (C := RX4) (T := TX4) (N := 9) hx hb hts iX4_set_X4 hown hk hw rfl 0 (by decide) (hts (.fieldLink RX4 9 "SetterBenchModel" "lies" "[I") (by decide +kernel)) (fun _ h9 => h9) eq19 dX4_set_109 ?_
  refine lv_iload_n hx hb dX4_set_112 rfl (lv_at hl 1 rfl) ?_
  replace h := hbd h
  obtain ⟨a20, rfl, h⟩ := h
  replace h := hbd h
  obtain ⟨x21, ex21, h⟩ := h
  refine hr_lI hx hb hk hw ex21 dX4_set_113 ?_
  refine lv_imul hx hb dX4_set_114 ?_
  refine lv_iload_n hx hb dX4_set_115 rfl (lv_at hl 2 rfl) ?_
  refine lv_iadd hx hb dX4_set_116 ?_
  refine lv_lload hx hb dX4_set_117 (lv_at hl 3 rfl) ?_
  replace h := hbd h
  obtain ⟨a22, rfl, h⟩ := h
  replace h := hbd h
  obtain ⟨f23, ef23, h⟩ := h
  refine hr_sJ hx hb hk hw ef23 dX4_set_119 (fun H locs hw => ?_)
  refine lv_iconst (v := 0) hx hb dX4_set_120 (by decide) ?_
  cases h
  exact hret_i hx hb hr hlocks hw dX4_set_121
def fX4_set_j90 (f : hPl) (z : Nat) (a : Nat) (v1 : Int32) (v2 : Int32) (v3 : Int32) (v4 : Int32) (v5 : Int64) : Option (Int32 × hPl × Nat) := (if v4 = 5 then fX4_set_j102 f z a v1 v2 ((v3 &&& 1).toInt64) else fX4_set_j102 f z a v1 v2 v5)
set_option maxHeartbeats 4000000 in
set_option maxRecDepth 100000 in
theorem kX4_set_j90 {g : hGb} {p : Program} {l : Launch} {e : Env} {s : State} {m : MethodId} {args : Array Value} {below : List Frame} {meth : Method} {c : Code} {A : Nat → Prop} (C : hX g p s m args meth c RX4 cX4_set 7 wsX4_set (some .int)) {r : Int32} {f' : hPl} {z' : Nat}  : ∀ (f : hPl) (z : Nat) (a : Nat) (v1 : Int32) (v2 : Int32) (v3 : Int32) (v4 : Int32) (v5 : Int64), fX4_set_j90 f z a v1 v2 v3 v4 v5 = some (r, f', z') → ∀ (H : Heap) (locs : List Loc) (ls : Array Slot), hW g A s f z H locs → lv_has ls 7 [(0, .ref a), (1, .int v1), (2, .int v2), (3, .int v3), (4, .int v4), (5, .long v5)] → W p l e (hRm 1 0 0) s m args below meth c H locs 0 0 (hZ g A below args s 0 0 (some (.int r)) f' z') (F0 m 90 ls []) := by
  obtain ⟨hx, hb, hml, hown, hts, hr, hlocks, hk⟩ := id C
  intro f z a v1 v2 v3 v4 v5 h H locs ls hw hl
  unfold fX4_set_j90 at h
  refine lv_iload hx hb dX4_set_90 (lv_at hl 4 rfl) ?_
  refine lv_iconst (v := 5) hx hb dX4_set_92 (by decide) ?_
  refine lv_icmp_ne (tgt := 102) hx hb dX4_set_93 (by decide) (fun c17 => ?_) (fun c17 => ?_)
  · rw [if_neg c17] at h
    exact kX4_set_j102 C _ _ _ _ _ _ h _ _ _ hw (lv_sub hl [0, 1, 2, 5] rfl)
  · rw [if_pos c17] at h
    refine lv_iload_n hx hb dX4_set_96 rfl (lv_at hl 3 rfl) ?_
    refine lv_iconst (v := 1) hx hb dX4_set_97 (by decide) ?_
    refine lv_iand hx hb dX4_set_98 ?_
    refine lv_i2l hx hb dX4_set_99 rfl ?_
    refine lv_lstore (lv' := [(5, .long ((v3 &&& 1).toInt64)), (0, .ref a), (1, .int v1), (2, .int v2), (3, .int v3), (4, .int v4)]) hx hb dX4_set_100 hl (by decide) rfl (fun ls hl => ?_)
    exact kX4_set_j102 C _ _ _ _ _ _ h _ _ _ hw (lv_sub hl [1, 2, 3, 0] rfl)
def fX4_set_j71 (f : hPl) (z : Nat) (a : Nat) (v1 : Int32) (v2 : Int32) (v3 : Int32) (v4 : Int32) (v5 : Int64) : Option (Int32 × hPl × Nat) := (if v4 = 4 then fX4_set_j90 f z a v1 v2 v3 v4 (((v3 &&& 127) - (v3 &&& 128)).toInt64) else fX4_set_j90 f z a v1 v2 v3 v4 v5)
set_option maxHeartbeats 4000000 in
set_option maxRecDepth 100000 in
theorem kX4_set_j71 {g : hGb} {p : Program} {l : Launch} {e : Env} {s : State} {m : MethodId} {args : Array Value} {below : List Frame} {meth : Method} {c : Code} {A : Nat → Prop} (C : hX g p s m args meth c RX4 cX4_set 7 wsX4_set (some .int)) {r : Int32} {f' : hPl} {z' : Nat}  : ∀ (f : hPl) (z : Nat) (a : Nat) (v1 : Int32) (v2 : Int32) (v3 : Int32) (v4 : Int32) (v5 : Int64), fX4_set_j71 f z a v1 v2 v3 v4 v5 = some (r, f', z') → ∀ (H : Heap) (locs : List Loc) (ls : Array Slot), hW g A s f z H locs → lv_has ls 7 [(0, .ref a), (1, .int v1), (2, .int v2), (3, .int v3), (4, .int v4), (5, .long v5)] → W p l e (hRm 1 0 0) s m args below meth c H locs 0 0 (hZ g A below args s 0 0 (some (.int r)) f' z') (F0 m 71 ls []) := by
  obtain ⟨hx, hb, hml, hown, hts, hr, hlocks, hk⟩ := id C
  intro f z a v1 v2 v3 v4 v5 h H locs ls hw hl
  unfold fX4_set_j71 at h
  refine lv_iload hx hb dX4_set_71 (lv_at hl 4 rfl) ?_
  refine lv_iconst (v := 4) hx hb dX4_set_73 (by decide) ?_
  refine lv_icmp_ne (tgt := 90) hx hb dX4_set_74 (by decide) (fun c16 => ?_) (fun c16 => ?_)
  · rw [if_neg c16] at h
    exact kX4_set_j90 C _ _ _ _ _ _ _ _ h _ _ _ hw (lv_sub hl [0, 1, 2, 3, 4, 5] rfl)
  · rw [if_pos c16] at h
    refine lv_iload_n hx hb dX4_set_77 rfl (lv_at hl 3 rfl) ?_
    refine lv_bipush (v := 127) hx hb dX4_set_78 (by decide) ?_
    refine lv_iand hx hb dX4_set_80 ?_
    refine lv_iload_n hx hb dX4_set_81 rfl (lv_at hl 3 rfl) ?_
    refine lv_sipush (v := 128) hx hb dX4_set_82 (by decide) ?_
    refine lv_iand hx hb dX4_set_85 ?_
    refine lv_isub hx hb dX4_set_86 ?_
    refine lv_i2l hx hb dX4_set_87 rfl ?_
    refine lv_lstore (lv' := [(5, .long (((v3 &&& 127) - (v3 &&& 128)).toInt64)), (0, .ref a), (1, .int v1), (2, .int v2), (3, .int v3), (4, .int v4)]) hx hb dX4_set_88 hl (by decide) rfl (fun ls hl => ?_)
    exact kX4_set_j90 C _ _ _ _ _ _ _ _ h _ _ _ hw (lv_sub hl [1, 2, 3, 4, 5, 0] rfl)
def fX4_set (f : hPl) (z : Nat) (a : Nat) (p1 : Int32) (p2 : Int32) (p3 : Int32) : Option (Int32 × hPl × Nat) := (fX4_isPlace f  p1).bind fun r1 => (if r1 = 0 then some ((-1), f, z) else (hgQ f a 3 0).bind fun q3 => q3.bind fun a4 => (hlI f a4 p1).bind fun x5 => (if x5 = (-1) then some (1, f, z) else (hob f a 3).bind fun u7 => (fX4_sortOn f a p1).bind fun r8 => (fX4_isOfNumbers f  r8).bind fun r9 => (if r9 = 0 then some (2, f, z) else (if p2 < 0 then some (3, f, z) else (hob f a 3).bind fun u12 => (fX4_manyOn f a p1).bind fun r13 => (if p2 < r13 then (if r8 = 3 then fX4_set_j71 f z a p1 p2 p3 r8 ((p3.toInt64) * (1000003 : Int64)) else fX4_set_j71 f z a p1 p2 p3 r8 (p3.toInt64)) else some (3, f, z))))))
set_option maxHeartbeats 4000000 in
set_option maxRecDepth 100000 in
theorem kX4_set (l : Launch) (g : hGb) {f : hPl} {z : Nat} {a : Nat} {p1 : Int32} {p2 : Int32} {p3 : Int32} {r : Int32} {f' : hPl} {z' : Nat} (h : fX4_set f z a p1 p2 p3 = some (r, f', z')) : hCt l g yX4_set wsX4_set 1 0 0 [.ref a, .int p1, .int p2, .int p3] f z (some (.int r)) f' z' := by
  refine hCt.of (cc := cX4_set) (maxL := 7) (ret := (some .int)) (by decide +kernel) rfl (by exact Nat.le_of_ble_eq_true rfl) ?_
  intro p e s m below meth c C hname hw ls hl
  obtain ⟨hx, hb, hml, hown, hts, hr, hlocks, hk⟩ := id C
  have hl : lv_has ls 7 [(0, .ref a), (1, .int p1), (2, .int p2), (3, .int p3)] := hl
  have hown : s.vm.findClass RX4 = some m.cls := hown
  unfold fX4_set at h
  refine lv_iload_n hx hb dX4_set_0 rfl (lv_at hl 1 rfl) ?_
  replace h := hbd h
  obtain ⟨r1, er1, h⟩ := h
  refine hcallS (o := some (.int r1)) hx hb hml hown hts hk [.int p1] [] (kX4_isPlace l g er1) gX4_set_X4_isPlace rfl (n := 1) rfl (by decide +kernel) ⟨Nat.le_of_ble_eq_true rfl, Nat.le_of_ble_eq_true rfl⟩ hw hl.1 rfl (Nat.le_of_ble_eq_true rfl) dX4_set_1 ⟨Nat.le_of_ble_eq_true rfl, Nat.le_of_ble_eq_true rfl⟩ (fun H locs hw => ?_)
  refine W.eq (g2 := F0 m 4 ls [.int r1]) rfl ?_
  refine lv_if_ne (tgt := 9) hx hb dX4_set_4 (by decide) (fun c2 => ?_) (fun c2 => ?_)
  · rw [if_neg c2] at h
    refine lv_aload_n hx hb dX4_set_9 rfl (lv_at hl 0 rfl) ?_
    replace h := hbd h
    obtain ⟨q3, eq3, h⟩ := h
    refine hr_getQ (C := RX4) (T := TX4) (N := 9) hx hb hts iX4_set_X4 hown hk hw rfl 0 (by decide) (hts (.fieldLink RX4 9 "SetterBenchModel" "lies" "[I") (by decide +kernel)) (fun _ h9 => h9) eq3 dX4_set_10 ?_
    refine lv_iload_n hx hb dX4_set_13 rfl (lv_at hl 1 rfl) ?_
    replace h := hbd h
    obtain ⟨a4, rfl, h⟩ := h
    replace h := hbd h
    obtain ⟨x5, ex5, h⟩ := h
    refine hr_lI hx hb hk hw ex5 dX4_set_14 ?_
    refine lv_iconst (v := (-1)) hx hb dX4_set_15 (by decide) ?_
    refine lv_icmp_ne (tgt := 21) hx hb dX4_set_16 (by decide) (fun c6 => ?_) (fun c6 => ?_)
    · rw [if_neg c6] at h
      refine lv_aload_n hx hb dX4_set_21 rfl (lv_at hl 0 rfl) ?_
      refine lv_iload_n hx hb dX4_set_22 rfl (lv_at hl 1 rfl) ?_
      replace h := hbd h
      obtain ⟨u7, eu7, h⟩ := h
      replace h := hbd h
      obtain ⟨r8, er8, h⟩ := h
      refine hcallV (o := some (.int r8)) hx hb hml hown hts hk [.int p1] [] (kX4_sortOn l g er8) gX4_set_X4_sortOn rfl (n := 1) rfl (by decide +kernel) ⟨Nat.le_of_ble_eq_true rfl, Nat.le_of_ble_eq_true rfl⟩ (ci := 3) rfl eu7 hw hl.1 rfl (Nat.le_of_ble_eq_true rfl) dX4_set_23 ⟨Nat.le_of_ble_eq_true rfl, Nat.le_of_ble_eq_true rfl⟩ (fun H locs hw => ?_)
      refine W.eq (g2 := F0 m 26 ls [.int r8]) rfl ?_
      refine lv_istore (lv' := [(4, .int r8), (0, .ref a), (1, .int p1), (2, .int p2), (3, .int p3)]) hx hb dX4_set_26 hl (by decide) rfl (fun ls hl => ?_)
      refine lv_iload hx hb dX4_set_28 (lv_at hl 0 rfl) ?_
      replace h := hbd h
      obtain ⟨r9, er9, h⟩ := h
      refine hcallS (o := some (.int r9)) hx hb hml hown hts hk [.int r8] [] (kX4_isOfNumbers l g er9) gX4_set_X4_isOfNumbers rfl (n := 1) rfl (by decide +kernel) ⟨Nat.le_of_ble_eq_true rfl, Nat.le_of_ble_eq_true rfl⟩ hw hl.1 rfl (Nat.le_of_ble_eq_true rfl) dX4_set_30 ⟨Nat.le_of_ble_eq_true rfl, Nat.le_of_ble_eq_true rfl⟩ (fun H locs hw => ?_)
      refine W.eq (g2 := F0 m 33 ls [.int r9]) rfl ?_
      refine lv_if_ne (tgt := 38) hx hb dX4_set_33 (by decide) (fun c10 => ?_) (fun c10 => ?_)
      · rw [if_neg c10] at h
        refine lv_iload_n hx hb dX4_set_38 rfl (lv_at hl 3 rfl) ?_
        refine lv_if_lt (tgt := 51) hx hb dX4_set_39 (by decide) (fun c11 => ?_) (fun c11 => ?_)
        · rw [if_pos c11] at h
          refine lv_iconst (v := 3) hx hb dX4_set_51 (by decide) ?_
          cases h
          exact hret_i hx hb hr hlocks hw dX4_set_52
        · rw [if_neg c11] at h
          refine lv_iload_n hx hb dX4_set_42 rfl (lv_at hl 3 rfl) ?_
          refine lv_aload_n hx hb dX4_set_43 rfl (lv_at hl 1 rfl) ?_
          refine lv_iload_n hx hb dX4_set_44 rfl (lv_at hl 2 rfl) ?_
          replace h := hbd h
          obtain ⟨u12, eu12, h⟩ := h
          replace h := hbd h
          obtain ⟨r13, er13, h⟩ := h
          refine hcallV (o := some (.int r13)) hx hb hml hown hts hk [.int p1] [.int p2] (kX4_manyOn l g er13) gX4_set_X4_manyOn rfl (n := 1) rfl (by decide +kernel) ⟨Nat.le_of_ble_eq_true rfl, Nat.le_of_ble_eq_true rfl⟩ (ci := 3) rfl eu12 hw hl.1 rfl (Nat.le_of_ble_eq_true rfl) dX4_set_45 ⟨Nat.le_of_ble_eq_true rfl, Nat.le_of_ble_eq_true rfl⟩ (fun H locs hw => ?_)
          refine W.eq (g2 := F0 m 48 ls [.int r13, .int p2]) rfl ?_
          refine lv_icmp_lt (tgt := 53) hx hb dX4_set_48 (by decide) (fun c14 => ?_) (fun c14 => ?_)
          · rw [if_pos c14] at h
            refine lv_iload_n hx hb dX4_set_53 rfl (lv_at hl 4 rfl) ?_
            refine lv_i2l hx hb dX4_set_54 rfl ?_
            refine lv_lstore (lv' := [(5, .long (p3.toInt64)), (4, .int r8), (0, .ref a), (1, .int p1), (2, .int p2), (3, .int p3)]) hx hb dX4_set_55 hl (by decide) rfl (fun ls hl => ?_)
            refine lv_iload hx hb dX4_set_57 (lv_at hl 1 rfl) ?_
            refine lv_iconst (v := 3) hx hb dX4_set_59 (by decide) ?_
            refine lv_icmp_ne (tgt := 71) hx hb dX4_set_60 (by decide) (fun c15 => ?_) (fun c15 => ?_)
            · rw [if_neg c15] at h
              exact kX4_set_j71 C _ _ _ _ _ _ _ _ h _ _ _ hw (lv_sub hl [2, 3, 4, 5, 1, 0] rfl)
            · rw [if_pos c15] at h
              refine lv_iload_n hx hb dX4_set_63 rfl (lv_at hl 5 rfl) ?_
              refine lv_i2l hx hb dX4_set_64 rfl ?_
              refine lv_ldc2 (v := (1000003)) hx hb hown (hts (.constantLong RX4 59 (1000003)) (by decide +kernel)) dX4_set_65 ?_
              refine lv_lmul hx hb dX4_set_68 ?_
              refine lv_lstore (lv' := [(5, .long ((p3.toInt64) * (1000003 : Int64))), (4, .int r8), (0, .ref a), (1, .int p1), (2, .int p2), (3, .int p3)]) hx hb dX4_set_69 hl (by decide) rfl (fun ls hl => ?_)
              exact kX4_set_j71 C _ _ _ _ _ _ _ _ h _ _ _ hw (lv_sub hl [2, 3, 4, 5, 1, 0] rfl)
          · rw [if_neg c14] at h
            refine lv_iconst (v := 3) hx hb dX4_set_51 (by decide) ?_
            cases h
            exact hret_i hx hb hr hlocks hw dX4_set_52
      · rw [if_pos c10] at h
        refine lv_iconst (v := 2) hx hb dX4_set_36 (by decide) ?_
        cases h
        exact hret_i hx hb hr hlocks hw dX4_set_37
    · rw [if_pos c6] at h
      refine lv_iconst (v := 1) hx hb dX4_set_19 (by decide) ?_
      cases h
      exact hret_i hx hb hr hlocks hw dX4_set_20
  · rw [if_pos c2] at h
    refine lv_iconst (v := (-1)) hx hb dX4_set_7 (by decide) ?_
    cases h
    exact hret_i hx hb hr hlocks hw dX4_set_8
def fX4_takes (f : hPl) (p1 : Int32) (p2 : Int64) : Option Int32 := (if ((p2 - p2 / (10 : Int64) * (10 : Int64)).toInt32) = 0 then some 1 else (if p1 = 6 then some 1 else (if p1 = 7 then (if ((p2 - p2 / (10 : Int64) * (10 : Int64)).toInt32) = 2 then some 1 else (if ((p2 - p2 / (10 : Int64) * (10 : Int64)).toInt32) = 3 then some 1 else some 0)) else (if p1 = 8 then (if ((p2 - p2 / (10 : Int64) * (10 : Int64)).toInt32) = 3 then some 1 else some 0) else (if p1 = 9 then (if ((p2 - p2 / (10 : Int64) * (10 : Int64)).toInt32) = 4 then some 1 else some 0) else (if ((p2 - p2 / (10 : Int64) * (10 : Int64)).toInt32) = 3 then some 1 else (if ((p2 - p2 / (10 : Int64) * (10 : Int64)).toInt32) = 4 then some 1 else some 0)))))))
set_option maxHeartbeats 4000000 in
set_option maxRecDepth 100000 in
theorem kX4_takes (l : Launch) (g : hGb) {f : hPl} {z : Nat} {p1 : Int32} {p2 : Int64} {r : Int32} (h : fX4_takes f p1 p2 = some r) : hCt l g yX4_takes wsX4_takes 0 0 0 [.int p1, .long p2] f z (some (.int r)) f z := by
  refine hCt.of (cc := cX4_takes) (maxL := 4) (ret := (some .boolean)) (by decide +kernel) rfl (by exact Nat.le_of_ble_eq_true rfl) ?_
  intro p e s m below meth c C hname hw ls hl
  obtain ⟨hx, hb, hml, hown, hts, hr, hlocks, hk⟩ := id C
  have hl : lv_has ls 4 [(0, .int p1), (1, .long p2)] := hl
  have hown : s.vm.findClass RX4 = some m.cls := hown
  unfold fX4_takes at h
  refine lv_lload_n hx hb dX4_takes_0 rfl (lv_at hl 1 rfl) ?_
  refine lv_ldc2 (v := (10)) hx hb hown (hts (.constantLong RX4 61 (10)) (by decide +kernel)) dX4_takes_1 ?_
  refine lv_lrem hx hb dX4_takes_4 (by decide) ?_
  refine lv_l2i hx hb dX4_takes_5 rfl ?_
  refine lv_istore_n (lv' := [(3, .int ((p2 - p2 / (10 : Int64) * (10 : Int64)).toInt32)), (0, .int p1), (1, .long p2)]) hx hb dX4_takes_6 rfl hl (by decide) rfl (fun ls hl => ?_)
  refine lv_iload_n hx hb dX4_takes_7 rfl (lv_at hl 0 rfl) ?_
  refine lv_if_eq (tgt := 17) hx hb dX4_takes_8 (by decide) (fun c1 => ?_) (fun c1 => ?_)
  · rw [if_pos c1] at h
    refine lv_iconst (v := 1) hx hb dX4_takes_17 (by decide) ?_
    cases h
    exact hret_z hx hb hr hlocks hw (Or.inr rfl) dX4_takes_18
  · rw [if_neg c1] at h
    refine lv_iload_n hx hb dX4_takes_11 rfl (lv_at hl 1 rfl) ?_
    refine lv_bipush (v := 6) hx hb dX4_takes_12 (by decide) ?_
    refine lv_icmp_ne (tgt := 19) hx hb dX4_takes_14 (by decide) (fun c2 => ?_) (fun c2 => ?_)
    · rw [if_neg c2] at h
      refine lv_iload_n hx hb dX4_takes_19 rfl (lv_at hl 1 rfl) ?_
      refine lv_bipush (v := 7) hx hb dX4_takes_20 (by decide) ?_
      refine lv_icmp_ne (tgt := 41) hx hb dX4_takes_22 (by decide) (fun c3 => ?_) (fun c3 => ?_)
      · rw [if_neg c3] at h
        refine lv_iload_n hx hb dX4_takes_41 rfl (lv_at hl 1 rfl) ?_
        refine lv_bipush (v := 8) hx hb dX4_takes_42 (by decide) ?_
        refine lv_icmp_ne (tgt := 58) hx hb dX4_takes_44 (by decide) (fun c4 => ?_) (fun c4 => ?_)
        · rw [if_neg c4] at h
          refine lv_iload_n hx hb dX4_takes_58 rfl (lv_at hl 1 rfl) ?_
          refine lv_bipush (v := 9) hx hb dX4_takes_59 (by decide) ?_
          refine lv_icmp_ne (tgt := 75) hx hb dX4_takes_61 (by decide) (fun c5 => ?_) (fun c5 => ?_)
          · rw [if_neg c5] at h
            refine lv_iload_n hx hb dX4_takes_75 rfl (lv_at hl 0 rfl) ?_
            refine lv_iconst (v := 3) hx hb dX4_takes_76 (by decide) ?_
            refine lv_icmp_eq (tgt := 85) hx hb dX4_takes_77 (by decide) (fun c6 => ?_) (fun c6 => ?_)
            · rw [if_pos c6] at h
              refine lv_iconst (v := 1) hx hb dX4_takes_85 (by decide) ?_
              refine lv_goto (tgt := 90) hx hb dX4_takes_86 (by decide) ?_
              cases h
              exact hret_z hx hb hr hlocks hw (Or.inr rfl) dX4_takes_90
            · rw [if_neg c6] at h
              refine lv_iload_n hx hb dX4_takes_80 rfl (lv_at hl 0 rfl) ?_
              refine lv_iconst (v := 4) hx hb dX4_takes_81 (by decide) ?_
              refine lv_icmp_ne (tgt := 89) hx hb dX4_takes_82 (by decide) (fun c7 => ?_) (fun c7 => ?_)
              · rw [if_neg c7] at h
                refine lv_iconst (v := 0) hx hb dX4_takes_89 (by decide) ?_
                cases h
                exact hret_z hx hb hr hlocks hw (Or.inl rfl) dX4_takes_90
              · rw [if_pos c7] at h
                refine lv_iconst (v := 1) hx hb dX4_takes_85 (by decide) ?_
                refine lv_goto (tgt := 90) hx hb dX4_takes_86 (by decide) ?_
                cases h
                exact hret_z hx hb hr hlocks hw (Or.inr rfl) dX4_takes_90
          · rw [if_pos c5] at h
            refine lv_iload_n hx hb dX4_takes_64 rfl (lv_at hl 0 rfl) ?_
            refine lv_iconst (v := 4) hx hb dX4_takes_65 (by decide) ?_
            refine lv_icmp_ne (tgt := 73) hx hb dX4_takes_66 (by decide) (fun c8 => ?_) (fun c8 => ?_)
            · rw [if_neg c8] at h
              refine lv_iconst (v := 0) hx hb dX4_takes_73 (by decide) ?_
              cases h
              exact hret_z hx hb hr hlocks hw (Or.inl rfl) dX4_takes_74
            · rw [if_pos c8] at h
              refine lv_iconst (v := 1) hx hb dX4_takes_69 (by decide) ?_
              refine lv_goto (tgt := 74) hx hb dX4_takes_70 (by decide) ?_
              cases h
              exact hret_z hx hb hr hlocks hw (Or.inr rfl) dX4_takes_74
        · rw [if_pos c4] at h
          refine lv_iload_n hx hb dX4_takes_47 rfl (lv_at hl 0 rfl) ?_
          refine lv_iconst (v := 3) hx hb dX4_takes_48 (by decide) ?_
          refine lv_icmp_ne (tgt := 56) hx hb dX4_takes_49 (by decide) (fun c9 => ?_) (fun c9 => ?_)
          · rw [if_neg c9] at h
            refine lv_iconst (v := 0) hx hb dX4_takes_56 (by decide) ?_
            cases h
            exact hret_z hx hb hr hlocks hw (Or.inl rfl) dX4_takes_57
          · rw [if_pos c9] at h
            refine lv_iconst (v := 1) hx hb dX4_takes_52 (by decide) ?_
            refine lv_goto (tgt := 57) hx hb dX4_takes_53 (by decide) ?_
            cases h
            exact hret_z hx hb hr hlocks hw (Or.inr rfl) dX4_takes_57
      · rw [if_pos c3] at h
        refine lv_iload_n hx hb dX4_takes_25 rfl (lv_at hl 0 rfl) ?_
        refine lv_iconst (v := 2) hx hb dX4_takes_26 (by decide) ?_
        refine lv_icmp_eq (tgt := 35) hx hb dX4_takes_27 (by decide) (fun c10 => ?_) (fun c10 => ?_)
        · rw [if_pos c10] at h
          refine lv_iconst (v := 1) hx hb dX4_takes_35 (by decide) ?_
          refine lv_goto (tgt := 40) hx hb dX4_takes_36 (by decide) ?_
          cases h
          exact hret_z hx hb hr hlocks hw (Or.inr rfl) dX4_takes_40
        · rw [if_neg c10] at h
          refine lv_iload_n hx hb dX4_takes_30 rfl (lv_at hl 0 rfl) ?_
          refine lv_iconst (v := 3) hx hb dX4_takes_31 (by decide) ?_
          refine lv_icmp_ne (tgt := 39) hx hb dX4_takes_32 (by decide) (fun c11 => ?_) (fun c11 => ?_)
          · rw [if_neg c11] at h
            refine lv_iconst (v := 0) hx hb dX4_takes_39 (by decide) ?_
            cases h
            exact hret_z hx hb hr hlocks hw (Or.inl rfl) dX4_takes_40
          · rw [if_pos c11] at h
            refine lv_iconst (v := 1) hx hb dX4_takes_35 (by decide) ?_
            refine lv_goto (tgt := 40) hx hb dX4_takes_36 (by decide) ?_
            cases h
            exact hret_z hx hb hr hlocks hw (Or.inr rfl) dX4_takes_40
    · rw [if_pos c2] at h
      refine lv_iconst (v := 1) hx hb dX4_takes_17 (by decide) ?_
      cases h
      exact hret_z hx hb hr hlocks hw (Or.inr rfl) dX4_takes_18
def fX4_refusal_j127 (f : hPl) (s0 : Int32) : Option Int32 := (if s0 = 0 then some 0 else some 3)
set_option maxHeartbeats 4000000 in
set_option maxRecDepth 100000 in
theorem kX4_refusal_j127 {g : hGb} {p : Program} {l : Launch} {e : Env} {s : State} {m : MethodId} {args : Array Value} {below : List Frame} {meth : Method} {c : Code} {A : Nat → Prop} (C : hX g p s m args meth c RX4 cX4_refusal 9 wsX4_refusal (some .int)) {f : hPl} {z : Nat} {r : Int32}  : ∀ (s0 : Int32), fX4_refusal_j127 f s0 = some r → ∀ (H : Heap) (locs : List Loc) (ls : Array Slot), hW g A s f z H locs → lv_has ls 9 [] → W p l e (hRm 1 0 0) s m args below meth c H locs 0 0 (hZ g A below args s 0 0 (some (.int r)) f z) (F0 m 127 ls [.int s0]) := by
  obtain ⟨hx, hb, hml, hown, hts, hr, hlocks, hk⟩ := id C
  intro s0 h H locs ls hw hl
  unfold fX4_refusal_j127 at h
  refine lv_istore (lv' := [(8, .int s0)]) hx hb dX4_refusal_127 hl (by decide) rfl (fun ls hl => ?_)
  refine lv_iload hx hb dX4_refusal_129 (lv_at hl 0 rfl) ?_
  refine lv_if_eq (tgt := 138) hx hb dX4_refusal_131 (by decide) (fun c10 => ?_) (fun c10 => ?_)
  · rw [if_pos c10] at h
    refine lv_iconst (v := 0) hx hb dX4_refusal_138 (by decide) ?_
    cases h
    exact hret_i hx hb hr hlocks hw dX4_refusal_139
  · rw [if_neg c10] at h
    refine lv_iconst (v := 3) hx hb dX4_refusal_134 (by decide) ?_
    refine lv_goto (tgt := 139) hx hb dX4_refusal_135 (by decide) ?_
    cases h
    exact hret_i hx hb hr hlocks hw dX4_refusal_139
def fX4_refusal_j98 (f : hPl) (v4 : Int32) (v5 : Int32) (v6 : Int32) (s0 : Int32) : Option Int32 := (if s0 = 0 then (if v4 < v6 then fX4_refusal_j127 f 1 else (if v5 ≤ (v4 - v6) then fX4_refusal_j127 f 0 else fX4_refusal_j127 f 1)) else fX4_refusal_j127 f 1)
set_option maxHeartbeats 4000000 in
set_option maxRecDepth 100000 in
theorem kX4_refusal_j98 {g : hGb} {p : Program} {l : Launch} {e : Env} {s : State} {m : MethodId} {args : Array Value} {below : List Frame} {meth : Method} {c : Code} {A : Nat → Prop} (C : hX g p s m args meth c RX4 cX4_refusal 9 wsX4_refusal (some .int)) {f : hPl} {z : Nat} {r : Int32}  : ∀ (v4 : Int32) (v5 : Int32) (v6 : Int32) (s0 : Int32), fX4_refusal_j98 f v4 v5 v6 s0 = some r → ∀ (H : Heap) (locs : List Loc) (ls : Array Slot), hW g A s f z H locs → lv_has ls 9 [(4, .int v4), (5, .int v5), (6, .int v6)] → W p l e (hRm 1 0 0) s m args below meth c H locs 0 0 (hZ g A below args s 0 0 (some (.int r)) f z) (F0 m 98 ls [.int s0]) := by
  obtain ⟨hx, hb, hml, hown, hts, hr, hlocks, hk⟩ := id C
  intro v4 v5 v6 s0 h H locs ls hw hl
  unfold fX4_refusal_j98 at h
  refine lv_istore (lv' := [(8, .int s0), (4, .int v4), (5, .int v5), (6, .int v6)]) hx hb dX4_refusal_98 hl (by decide) rfl (fun ls hl => ?_)
  refine lv_iload hx hb dX4_refusal_100 (lv_at hl 0 rfl) ?_
  refine lv_if_ne (tgt := 122) hx hb dX4_refusal_102 (by decide) (fun c9 => ?_) (fun c9 => ?_)
  · rw [if_neg c9] at h
    refine lv_iconst (v := 1) hx hb dX4_refusal_122 (by decide) ?_
    refine lv_goto (tgt := 127) hx hb dX4_refusal_123 (by decide) ?_
    exact kX4_refusal_j127 C _ h _ _ _ hw (lv_sub hl [] rfl)
  · rw [if_pos c9] at h
    refine lv_iload hx hb dX4_refusal_105 (lv_at hl 3 rfl) ?_
    refine lv_iload hx hb dX4_refusal_107 (lv_at hl 1 rfl) ?_
    refine lv_icmp_gt (tgt := 122) hx hb dX4_refusal_109 (by decide) (fun c11 => ?_) (fun c11 => ?_)
    · rw [if_pos c11] at h
      refine lv_iconst (v := 1) hx hb dX4_refusal_122 (by decide) ?_
      refine lv_goto (tgt := 127) hx hb dX4_refusal_123 (by decide) ?_
      exact kX4_refusal_j127 C _ h _ _ _ hw (lv_sub hl [] rfl)
    · rw [if_neg c11] at h
      refine lv_iload hx hb dX4_refusal_112 (lv_at hl 2 rfl) ?_
      refine lv_iload hx hb dX4_refusal_114 (lv_at hl 1 rfl) ?_
      refine lv_iload hx hb dX4_refusal_116 (lv_at hl 3 rfl) ?_
      refine lv_isub hx hb dX4_refusal_118 ?_
      refine lv_icmp_le (tgt := 126) hx hb dX4_refusal_119 (by decide) (fun c12 => ?_) (fun c12 => ?_)
      · rw [if_pos c12] at h
        refine lv_iconst (v := 0) hx hb dX4_refusal_126 (by decide) ?_
        exact kX4_refusal_j127 C _ h _ _ _ hw (lv_sub hl [] rfl)
      · rw [if_neg c12] at h
        refine lv_iconst (v := 1) hx hb dX4_refusal_122 (by decide) ?_
        refine lv_goto (tgt := 127) hx hb dX4_refusal_123 (by decide) ?_
        exact kX4_refusal_j127 C _ h _ _ _ hw (lv_sub hl [] rfl)
def fX4_refusal_j72 (f : hPl) (v1 : Int32) (v2 : Int32) (v4 : Int32) (v5 : Int32) (v6 : Int32) (s0 : Int32) : Option Int32 := (if s0 = 0 then (if v1 < v6 then fX4_refusal_j98 f v4 v5 v6 1 else (if v2 ≤ (v1 - v6) then fX4_refusal_j98 f v4 v5 v6 0 else fX4_refusal_j98 f v4 v5 v6 1)) else fX4_refusal_j98 f v4 v5 v6 1)
set_option maxHeartbeats 4000000 in
set_option maxRecDepth 100000 in
theorem kX4_refusal_j72 {g : hGb} {p : Program} {l : Launch} {e : Env} {s : State} {m : MethodId} {args : Array Value} {below : List Frame} {meth : Method} {c : Code} {A : Nat → Prop} (C : hX g p s m args meth c RX4 cX4_refusal 9 wsX4_refusal (some .int)) {f : hPl} {z : Nat} {r : Int32}  : ∀ (v1 : Int32) (v2 : Int32) (v4 : Int32) (v5 : Int32) (v6 : Int32) (s0 : Int32), fX4_refusal_j72 f v1 v2 v4 v5 v6 s0 = some r → ∀ (H : Heap) (locs : List Loc) (ls : Array Slot), hW g A s f z H locs → lv_has ls 9 [(1, .int v1), (2, .int v2), (4, .int v4), (5, .int v5), (6, .int v6)] → W p l e (hRm 1 0 0) s m args below meth c H locs 0 0 (hZ g A below args s 0 0 (some (.int r)) f z) (F0 m 72 ls [.int s0]) := by
  obtain ⟨hx, hb, hml, hown, hts, hr, hlocks, hk⟩ := id C
  intro v1 v2 v4 v5 v6 s0 h H locs ls hw hl
  unfold fX4_refusal_j72 at h
  refine lv_istore (lv' := [(8, .int s0), (1, .int v1), (2, .int v2), (4, .int v4), (5, .int v5), (6, .int v6)]) hx hb dX4_refusal_72 hl (by decide) rfl (fun ls hl => ?_)
  refine lv_iload hx hb dX4_refusal_74 (lv_at hl 0 rfl) ?_
  refine lv_if_ne (tgt := 93) hx hb dX4_refusal_76 (by decide) (fun c8 => ?_) (fun c8 => ?_)
  · rw [if_neg c8] at h
    refine lv_iconst (v := 1) hx hb dX4_refusal_93 (by decide) ?_
    refine lv_goto (tgt := 98) hx hb dX4_refusal_94 (by decide) ?_
    exact kX4_refusal_j98 C _ _ _ _ h _ _ _ hw (lv_sub hl [3, 4, 5] rfl)
  · rw [if_pos c8] at h
    refine lv_iload hx hb dX4_refusal_79 (lv_at hl 5 rfl) ?_
    refine lv_iload_n hx hb dX4_refusal_81 rfl (lv_at hl 1 rfl) ?_
    refine lv_icmp_gt (tgt := 93) hx hb dX4_refusal_82 (by decide) (fun c13 => ?_) (fun c13 => ?_)
    · rw [if_pos c13] at h
      refine lv_iconst (v := 1) hx hb dX4_refusal_93 (by decide) ?_
      refine lv_goto (tgt := 98) hx hb dX4_refusal_94 (by decide) ?_
      exact kX4_refusal_j98 C _ _ _ _ h _ _ _ hw (lv_sub hl [3, 4, 5] rfl)
    · rw [if_neg c13] at h
      refine lv_iload_n hx hb dX4_refusal_85 rfl (lv_at hl 2 rfl) ?_
      refine lv_iload_n hx hb dX4_refusal_86 rfl (lv_at hl 1 rfl) ?_
      refine lv_iload hx hb dX4_refusal_87 (lv_at hl 5 rfl) ?_
      refine lv_isub hx hb dX4_refusal_89 ?_
      refine lv_icmp_le (tgt := 97) hx hb dX4_refusal_90 (by decide) (fun c14 => ?_) (fun c14 => ?_)
      · rw [if_pos c14] at h
        refine lv_iconst (v := 0) hx hb dX4_refusal_97 (by decide) ?_
        exact kX4_refusal_j98 C _ _ _ _ h _ _ _ hw (lv_sub hl [3, 4, 5] rfl)
      · rw [if_neg c14] at h
        refine lv_iconst (v := 1) hx hb dX4_refusal_93 (by decide) ?_
        refine lv_goto (tgt := 98) hx hb dX4_refusal_94 (by decide) ?_
        exact kX4_refusal_j98 C _ _ _ _ h _ _ _ hw (lv_sub hl [3, 4, 5] rfl)
def fX4_refusal_j34 (f : hPl) (v0 : Int32) (v1 : Int32) (v2 : Int32) (v3 : Int32) (v4 : Int32) (v5 : Int32) (v6 : Int32) (s0 : Int32) : Option Int32 := (if v0 = 1 then some 2 else (if v3 = 1 then some 2 else (if s0 = 0 then some 2 else (if v2 < 0 then fX4_refusal_j72 f v1 v2 v4 v5 v6 1 else (if v5 < 0 then fX4_refusal_j72 f v1 v2 v4 v5 v6 1 else (if 0 ≤ v6 then fX4_refusal_j72 f v1 v2 v4 v5 v6 0 else fX4_refusal_j72 f v1 v2 v4 v5 v6 1))))))
set_option maxHeartbeats 4000000 in
set_option maxRecDepth 100000 in
theorem kX4_refusal_j34 {g : hGb} {p : Program} {l : Launch} {e : Env} {s : State} {m : MethodId} {args : Array Value} {below : List Frame} {meth : Method} {c : Code} {A : Nat → Prop} (C : hX g p s m args meth c RX4 cX4_refusal 9 wsX4_refusal (some .int)) {f : hPl} {z : Nat} {r : Int32}  : ∀ (v0 : Int32) (v1 : Int32) (v2 : Int32) (v3 : Int32) (v4 : Int32) (v5 : Int32) (v6 : Int32) (s0 : Int32), fX4_refusal_j34 f v0 v1 v2 v3 v4 v5 v6 s0 = some r → ∀ (H : Heap) (locs : List Loc) (ls : Array Slot), hW g A s f z H locs → lv_has ls 9 [(0, .int v0), (1, .int v1), (2, .int v2), (3, .int v3), (4, .int v4), (5, .int v5), (6, .int v6)] → W p l e (hRm 1 0 0) s m args below meth c H locs 0 0 (hZ g A below args s 0 0 (some (.int r)) f z) (F0 m 34 ls [.int s0]) := by
  obtain ⟨hx, hb, hml, hown, hts, hr, hlocks, hk⟩ := id C
  intro v0 v1 v2 v3 v4 v5 v6 s0 h H locs ls hw hl
  unfold fX4_refusal_j34 at h
  refine lv_istore (lv' := [(7, .int s0), (0, .int v0), (1, .int v1), (2, .int v2), (3, .int v3), (4, .int v4), (5, .int v5), (6, .int v6)]) hx hb dX4_refusal_34 hl (by decide) rfl (fun ls hl => ?_)
  refine lv_iload_n hx hb dX4_refusal_36 rfl (lv_at hl 1 rfl) ?_
  refine lv_iconst (v := 1) hx hb dX4_refusal_37 (by decide) ?_
  refine lv_icmp_eq (tgt := 51) hx hb dX4_refusal_38 (by decide) (fun c4 => ?_) (fun c4 => ?_)
  · rw [if_pos c4] at h
    refine lv_iconst (v := 2) hx hb dX4_refusal_51 (by decide) ?_
    cases h
    exact hret_i hx hb hr hlocks hw dX4_refusal_52
  · rw [if_neg c4] at h
    refine lv_iload_n hx hb dX4_refusal_41 rfl (lv_at hl 4 rfl) ?_
    refine lv_iconst (v := 1) hx hb dX4_refusal_42 (by decide) ?_
    refine lv_icmp_eq (tgt := 51) hx hb dX4_refusal_43 (by decide) (fun c5 => ?_) (fun c5 => ?_)
    · rw [if_pos c5] at h
      refine lv_iconst (v := 2) hx hb dX4_refusal_51 (by decide) ?_
      cases h
      exact hret_i hx hb hr hlocks hw dX4_refusal_52
    · rw [if_neg c5] at h
      refine lv_iload hx hb dX4_refusal_46 (lv_at hl 0 rfl) ?_
      refine lv_if_ne (tgt := 53) hx hb dX4_refusal_48 (by decide) (fun c6 => ?_) (fun c6 => ?_)
      · rw [if_neg c6] at h
        refine lv_iload_n hx hb dX4_refusal_53 rfl (lv_at hl 3 rfl) ?_
        refine lv_if_lt (tgt := 67) hx hb dX4_refusal_54 (by decide) (fun c7 => ?_) (fun c7 => ?_)
        · rw [if_pos c7] at h
          refine lv_iconst (v := 1) hx hb dX4_refusal_67 (by decide) ?_
          refine lv_goto (tgt := 72) hx hb dX4_refusal_68 (by decide) ?_
          exact kX4_refusal_j72 C _ _ _ _ _ _ h _ _ _ hw (lv_sub hl [2, 3, 5, 6, 7] rfl)
        · rw [if_neg c7] at h
          refine lv_iload hx hb dX4_refusal_57 (lv_at hl 6 rfl) ?_
          refine lv_if_lt (tgt := 67) hx hb dX4_refusal_59 (by decide) (fun c15 => ?_) (fun c15 => ?_)
          · rw [if_pos c15] at h
            refine lv_iconst (v := 1) hx hb dX4_refusal_67 (by decide) ?_
            refine lv_goto (tgt := 72) hx hb dX4_refusal_68 (by decide) ?_
            exact kX4_refusal_j72 C _ _ _ _ _ _ h _ _ _ hw (lv_sub hl [2, 3, 5, 6, 7] rfl)
          · rw [if_neg c15] at h
            refine lv_iload hx hb dX4_refusal_62 (lv_at hl 7 rfl) ?_
            refine lv_if_ge (tgt := 71) hx hb dX4_refusal_64 (by decide) (fun c16 => ?_) (fun c16 => ?_)
            · rw [if_pos c16] at h
              refine lv_iconst (v := 0) hx hb dX4_refusal_71 (by decide) ?_
              exact kX4_refusal_j72 C _ _ _ _ _ _ h _ _ _ hw (lv_sub hl [2, 3, 5, 6, 7] rfl)
            · rw [if_neg c16] at h
              refine lv_iconst (v := 1) hx hb dX4_refusal_67 (by decide) ?_
              refine lv_goto (tgt := 72) hx hb dX4_refusal_68 (by decide) ?_
              exact kX4_refusal_j72 C _ _ _ _ _ _ h _ _ _ hw (lv_sub hl [2, 3, 5, 6, 7] rfl)
      · rw [if_pos c6] at h
        refine lv_iconst (v := 2) hx hb dX4_refusal_51 (by decide) ?_
        cases h
        exact hret_i hx hb hr hlocks hw dX4_refusal_52
def fX4_refusal (f : hPl) (p1 : Int32) (p2 : Int32) (p3 : Int32) (p4 : Int32) (p5 : Int32) (p6 : Int32) (p7 : Int32) : Option Int32 := (if p1 = 0 then some 1 else (if p4 = 0 then some 1 else (if p1 = p4 then fX4_refusal_j34 f p1 p2 p3 p4 p5 p6 p7 1 else (fX4_isOfStones f  p1).bind fun r17 => (if r17 = 0 then fX4_refusal_j34 f p1 p2 p3 p4 p5 p6 p7 0 else (fX4_isOfStones f  p4).bind fun r19 => (if r19 = 0 then fX4_refusal_j34 f p1 p2 p3 p4 p5 p6 p7 0 else fX4_refusal_j34 f p1 p2 p3 p4 p5 p6 p7 1)))))
set_option maxHeartbeats 4000000 in
set_option maxRecDepth 100000 in
theorem kX4_refusal (l : Launch) (g : hGb) {f : hPl} {z : Nat} {p1 : Int32} {p2 : Int32} {p3 : Int32} {p4 : Int32} {p5 : Int32} {p6 : Int32} {p7 : Int32} {r : Int32} (h : fX4_refusal f p1 p2 p3 p4 p5 p6 p7 = some r) : hCt l g yX4_refusal wsX4_refusal 1 0 0 [.int p1, .int p2, .int p3, .int p4, .int p5, .int p6, .int p7] f z (some (.int r)) f z := by
  refine hCt.of (cc := cX4_refusal) (maxL := 9) (ret := (some .int)) (by decide +kernel) rfl (by exact Nat.le_of_ble_eq_true rfl) ?_
  intro p e s m below meth c C hname hw ls hl
  obtain ⟨hx, hb, hml, hown, hts, hr, hlocks, hk⟩ := id C
  have hl : lv_has ls 9 [(0, .int p1), (1, .int p2), (2, .int p3), (3, .int p4), (4, .int p5), (5, .int p6), (6, .int p7)] := hl
  have hown : s.vm.findClass RX4 = some m.cls := hown
  unfold fX4_refusal at h
  refine lv_iload_n hx hb dX4_refusal_0 rfl (lv_at hl 0 rfl) ?_
  refine lv_if_eq (tgt := 8) hx hb dX4_refusal_1 (by decide) (fun c1 => ?_) (fun c1 => ?_)
  · rw [if_pos c1] at h
    refine lv_iconst (v := 1) hx hb dX4_refusal_8 (by decide) ?_
    cases h
    exact hret_i hx hb hr hlocks hw dX4_refusal_9
  · rw [if_neg c1] at h
    refine lv_iload_n hx hb dX4_refusal_4 rfl (lv_at hl 3 rfl) ?_
    refine lv_if_ne (tgt := 10) hx hb dX4_refusal_5 (by decide) (fun c2 => ?_) (fun c2 => ?_)
    · rw [if_neg c2] at h
      refine lv_iload_n hx hb dX4_refusal_10 rfl (lv_at hl 0 rfl) ?_
      refine lv_iload_n hx hb dX4_refusal_11 rfl (lv_at hl 3 rfl) ?_
      refine lv_icmp_eq (tgt := 29) hx hb dX4_refusal_12 (by decide) (fun c3 => ?_) (fun c3 => ?_)
      · rw [if_pos c3] at h
        refine lv_iconst (v := 1) hx hb dX4_refusal_29 (by decide) ?_
        refine lv_goto (tgt := 34) hx hb dX4_refusal_30 (by decide) ?_
        exact kX4_refusal_j34 C _ _ _ _ _ _ _ _ h _ _ _ hw (lv_sub hl [0, 1, 2, 3, 4, 5, 6] rfl)
      · rw [if_neg c3] at h
        refine lv_iload_n hx hb dX4_refusal_15 rfl (lv_at hl 0 rfl) ?_
        replace h := hbd h
        obtain ⟨r17, er17, h⟩ := h
        refine hcallS (o := some (.int r17)) hx hb hml hown hts hk [.int p1] [] (kX4_isOfStones l g er17) gX4_refusal_X4_isOfStones rfl (n := 1) rfl (by decide +kernel) ⟨Nat.le_of_ble_eq_true rfl, Nat.le_of_ble_eq_true rfl⟩ hw hl.1 rfl (Nat.le_of_ble_eq_true rfl) dX4_refusal_16 ⟨Nat.le_of_ble_eq_true rfl, Nat.le_of_ble_eq_true rfl⟩ (fun H locs hw => ?_)
        refine W.eq (g2 := F0 m 19 ls [.int r17]) rfl ?_
        refine lv_if_eq (tgt := 33) hx hb dX4_refusal_19 (by decide) (fun c18 => ?_) (fun c18 => ?_)
        · rw [if_pos c18] at h
          refine lv_iconst (v := 0) hx hb dX4_refusal_33 (by decide) ?_
          exact kX4_refusal_j34 C _ _ _ _ _ _ _ _ h _ _ _ hw (lv_sub hl [0, 1, 2, 3, 4, 5, 6] rfl)
        · rw [if_neg c18] at h
          refine lv_iload_n hx hb dX4_refusal_22 rfl (lv_at hl 3 rfl) ?_
          replace h := hbd h
          obtain ⟨r19, er19, h⟩ := h
          refine hcallS (o := some (.int r19)) hx hb hml hown hts hk [.int p4] [] (kX4_isOfStones l g er19) gX4_refusal_X4_isOfStones rfl (n := 1) rfl (by decide +kernel) ⟨Nat.le_of_ble_eq_true rfl, Nat.le_of_ble_eq_true rfl⟩ hw hl.1 rfl (Nat.le_of_ble_eq_true rfl) dX4_refusal_23 ⟨Nat.le_of_ble_eq_true rfl, Nat.le_of_ble_eq_true rfl⟩ (fun H locs hw => ?_)
          refine W.eq (g2 := F0 m 26 ls [.int r19]) rfl ?_
          refine lv_if_eq (tgt := 33) hx hb dX4_refusal_26 (by decide) (fun c20 => ?_) (fun c20 => ?_)
          · rw [if_pos c20] at h
            refine lv_iconst (v := 0) hx hb dX4_refusal_33 (by decide) ?_
            exact kX4_refusal_j34 C _ _ _ _ _ _ _ _ h _ _ _ hw (lv_sub hl [0, 1, 2, 3, 4, 5, 6] rfl)
          · rw [if_neg c20] at h
            refine lv_iconst (v := 1) hx hb dX4_refusal_29 (by decide) ?_
            refine lv_goto (tgt := 34) hx hb dX4_refusal_30 (by decide) ?_
            exact kX4_refusal_j34 C _ _ _ _ _ _ _ _ h _ _ _ hw (lv_sub hl [0, 1, 2, 3, 4, 5, 6] rfl)
    · rw [if_pos c2] at h
      refine lv_iconst (v := 1) hx hb dX4_refusal_8 (by decide) ?_
      cases h
      exact hret_i hx hb hr hlocks hw dX4_refusal_9
theorem iX4_carry_X4 : ∀ w ∈ wsX40, w ∈ wsX4_carry := by decide +kernel
def fX4_carry_j68 (rec : hPl → Nat → Nat → Int32 → Int32 → Int32 → Int32 → Option (Int32 × hPl × Nat)) (f : hPl) (z : Nat) (a : Nat) (v3 : Int32) (v4 : Int32) (v5 : Int32) (v6 : Int32) : Option (Int32 × hPl × Nat) := (hgQ f a 3 4).bind fun q13 => (hgQ f a 3 5).bind fun q14 => q14.bind fun a15 => (hlJ f a15 v6).bind fun x16 => q13.bind fun a17 => (hsJ f a17 (v5 + v6) x16).bind fun f18 => (hgQ f18 a 3 8).bind fun q19 => q19.bind fun a20 => (hlI f18 a20 6).bind fun x21 => (hsI f18 a20 6 (x21 + 1)).bind fun f22 => rec f22 z a v3 v4 v5 (v6 + 1)
set_option maxHeartbeats 4000000 in
set_option maxRecDepth 100000 in
theorem kX4_carry_j68 {g : hGb} {p : Program} {l : Launch} {e : Env} {s : State} {m : MethodId} {args : Array Value} {below : List Frame} {meth : Method} {c : Code} {A : Nat → Prop} (C : hX g p s m args meth c RX4 cX4_carry 7 wsX4_carry (some .int)) {r : Int32} {f' : hPl} {z' : Nat} (rec : hPl → Nat → Nat → Int32 → Int32 → Int32 → Int32 → Option (Int32 × hPl × Nat)) (hrec : ∀ (f : hPl) (z : Nat) (a : Nat) (v3 : Int32) (v4 : Int32) (v5 : Int32) (v6 : Int32), rec f z a v3 v4 v5 v6 = some (r, f', z') → ∀ (H : Heap) (locs : List Loc) (ls : Array Slot), hW g A s f z H locs → lv_has ls 7 [(0, .ref a), (3, .int v3), (4, .int v4), (5, .int v5), (6, .int v6)] → W p l e (hRm 1 0 0) s m args below meth c H locs 0 0 (hZ g A below args s 0 0 (some (.int r)) f' z') (F0 m 23 ls []))  : ∀ (f : hPl) (z : Nat) (a : Nat) (v3 : Int32) (v4 : Int32) (v5 : Int32) (v6 : Int32), fX4_carry_j68 rec f z a v3 v4 v5 v6 = some (r, f', z') → ∀ (H : Heap) (locs : List Loc) (ls : Array Slot), hW g A s f z H locs → lv_has ls 7 [(0, .ref a), (3, .int v3), (4, .int v4), (5, .int v5), (6, .int v6)] → W p l e (hRm 1 0 0) s m args below meth c H locs 0 0 (hZ g A below args s 0 0 (some (.int r)) f' z') (F0 m 68 ls []) := by
  obtain ⟨hx, hb, hml, hown, hts, hr, hlocks, hk⟩ := id C
  intro f z a v3 v4 v5 v6 h H locs ls hw hl
  unfold fX4_carry_j68 at h
  refine lv_aload_n hx hb dX4_carry_68 rfl (lv_at hl 0 rfl) ?_
  replace h := hbd h
  obtain ⟨q13, eq13, h⟩ := h
  refine hr_getQ (C := RX4) (T := TX4) (N := 9) hx hb hts iX4_carry_X4 hown hk hw rfl 4 (by decide) (hts (.fieldLink RX4 22 "SetterBenchModel" "members" "[J") (by decide +kernel)) (fun _ h9 => h9) eq13 dX4_carry_69 ?_
  refine lv_iload hx hb dX4_carry_72 (lv_at hl 3 rfl) ?_
  refine lv_iload hx hb dX4_carry_74 (lv_at hl 4 rfl) ?_
  refine lv_iadd hx hb dX4_carry_76 ?_
  refine lv_aload_n hx hb dX4_carry_77 rfl (lv_at hl 0 rfl) ?_
  replace h := hbd h
  obtain ⟨q14, eq14, h⟩ := h
  refine hr_getQ (C := RX4) (T := TX4) (N := 9) hx hb hts iX4_carry_X4 hown hk hw rfl 5 (by decide) (hts (.fieldLink RX4 26 "SetterBenchModel" "carried" "[J") (by decide +kernel)) (fun _ h9 => h9) eq14 dX4_carry_78 ?_
  refine lv_iload hx hb dX4_carry_81 (lv_at hl 4 rfl) ?_
  replace h := hbd h
  obtain ⟨a15, rfl, h⟩ := h
  replace h := hbd h
  obtain ⟨x16, ex16, h⟩ := h
  refine hr_lJ hx hb hk hw ex16 dX4_carry_83 ?_
  replace h := hbd h
  obtain ⟨a17, rfl, h⟩ := h
  replace h := hbd h
  obtain ⟨f18, ef18, h⟩ := h
  refine hr_sJ hx hb hk hw ef18 dX4_carry_84 (fun H locs hw => ?_)
  refine lv_aload_n hx hb dX4_carry_85 rfl (lv_at hl 0 rfl) ?_
  replace h := hbd h
  obtain ⟨q19, eq19, h⟩ := h
  refine hr_getQ (C := RX4) (T := TX4) (N := 9) hx hb hts iX4_carry_X4 hown hk hw rfl 8 (by decide) (hts (.fieldLink RX4 36 "SetterBenchModel" "counts" "[I") (by decide +kernel)) (fun _ h9 => h9) eq19 dX4_carry_86 ?_
  refine lv_bipush (v := 6) hx hb dX4_carry_89 (by decide) ?_
  refine lv_dup2_11 hx hb dX4_carry_91 rfl (by cases q19 <;> rfl) ?_
  replace h := hbd h
  obtain ⟨a20, rfl, h⟩ := h
  replace h := hbd h
  obtain ⟨x21, ex21, h⟩ := h
  refine hr_lI hx hb hk hw ex21 dX4_carry_92 ?_
  refine lv_iconst (v := 1) hx hb dX4_carry_93 (by decide) ?_
  refine lv_iadd hx hb dX4_carry_94 ?_
  replace h := hbd h
  obtain ⟨f22, ef22, h⟩ := h
  refine hr_sI hx hb hk hw ef22 dX4_carry_95 (fun H locs hw => ?_)
  refine lv_iinc (v := (v6 + 1)) (lv' := [(6, .int (v6 + 1)), (0, .ref a), (3, .int v3), (4, .int v4), (5, .int v5)]) hx hb dX4_carry_96 hl (k := 4) rfl rfl (by decide) rfl (fun ls hl => ?_)
  refine lv_goto (tgt := 23) hx hb dX4_carry_99 (by decide) ?_
  exact hrec _ _ _ _ _ _ _ h _ _ _ hw (lv_sub hl [1, 2, 3, 4, 0] rfl)
def fX4_carry_j23s (rec : hPl → Nat → Nat → Int32 → Int32 → Int32 → Int32 → Option (Int32 × hPl × Nat)) (f : hPl) (z : Nat) (a : Nat) (v3 : Int32) (v4 : Int32) (v5 : Int32) (v6 : Int32) : Option (Int32 × hPl × Nat) := (if v3 ≤ v6 then (hgQ f a 3 8).bind fun q7 => q7.bind fun a8 => (hlI f a8 1).bind fun x9 => (hsI f a8 1 (x9 + 1)).bind fun f10 => some (0, f10, z) else (fX4_isOfStones f  v4).bind fun r11 => (if r11 = 0 then fX4_carry_j68 rec f z a v3 v4 v5 v6 else (hgQ f a 3 5).bind fun q23 => q23.bind fun a24 => (hlJ f a24 v6).bind fun x25 => (fX4_takes f  v4 x25).bind fun r26 => (if r26 = 0 then (hgQ f a 3 8).bind fun q28 => q28.bind fun a29 => (hlI f a29 5).bind fun x30 => (hsI f a29 5 (x30 + 1)).bind fun f31 => some ((10 + v6), f31, z) else fX4_carry_j68 rec f z a v3 v4 v5 v6)))
set_option maxHeartbeats 4000000 in
set_option maxRecDepth 100000 in
theorem kX4_carry_j23s {g : hGb} {p : Program} {l : Launch} {e : Env} {s : State} {m : MethodId} {args : Array Value} {below : List Frame} {meth : Method} {c : Code} {A : Nat → Prop} (C : hX g p s m args meth c RX4 cX4_carry 7 wsX4_carry (some .int)) {r : Int32} {f' : hPl} {z' : Nat} (rec : hPl → Nat → Nat → Int32 → Int32 → Int32 → Int32 → Option (Int32 × hPl × Nat)) (hrec : ∀ (f : hPl) (z : Nat) (a : Nat) (v3 : Int32) (v4 : Int32) (v5 : Int32) (v6 : Int32), rec f z a v3 v4 v5 v6 = some (r, f', z') → ∀ (H : Heap) (locs : List Loc) (ls : Array Slot), hW g A s f z H locs → lv_has ls 7 [(0, .ref a), (3, .int v3), (4, .int v4), (5, .int v5), (6, .int v6)] → W p l e (hRm 1 0 0) s m args below meth c H locs 0 0 (hZ g A below args s 0 0 (some (.int r)) f' z') (F0 m 23 ls []))  : ∀ (f : hPl) (z : Nat) (a : Nat) (v3 : Int32) (v4 : Int32) (v5 : Int32) (v6 : Int32), fX4_carry_j23s rec f z a v3 v4 v5 v6 = some (r, f', z') → ∀ (H : Heap) (locs : List Loc) (ls : Array Slot), hW g A s f z H locs → lv_has ls 7 [(0, .ref a), (3, .int v3), (4, .int v4), (5, .int v5), (6, .int v6)] → W p l e (hRm 1 0 0) s m args below meth c H locs 0 0 (hZ g A below args s 0 0 (some (.int r)) f' z') (F0 m 23 ls []) := by
  obtain ⟨hx, hb, hml, hown, hts, hr, hlocks, hk⟩ := id C
  intro f z a v3 v4 v5 v6 h H locs ls hw hl
  unfold fX4_carry_j23s at h
  refine lv_iload hx hb dX4_carry_23 (lv_at hl 4 rfl) ?_
  refine lv_iload_n hx hb dX4_carry_25 rfl (lv_at hl 1 rfl) ?_
  refine lv_icmp_ge (tgt := 102) hx hb dX4_carry_26 (by decide) (fun c6 => ?_) (fun c6 => ?_)
  · rw [if_pos c6] at h
    refine lv_aload_n hx hb dX4_carry_102 rfl (lv_at hl 0 rfl) ?_
    replace h := hbd h
    obtain ⟨q7, eq7, h⟩ := h
    refine hr_getQ (C := RX4) (T := TX4) (N := 9) hx hb hts iX4_carry_X4 hown hk hw rfl 8 (by decide) (hts (.fieldLink RX4 36 "SetterBenchModel" "counts" "[I") (by decide +kernel)) (fun _ h9 => h9) eq7 dX4_carry_103 ?_
    refine lv_iconst (v := 1) hx hb dX4_carry_106 (by decide) ?_
    refine lv_dup2_11 hx hb dX4_carry_107 rfl (by cases q7 <;> rfl) ?_
    replace h := hbd h
    obtain ⟨a8, rfl, h⟩ := h
    replace h := hbd h
    obtain ⟨x9, ex9, h⟩ := h
    refine hr_lI hx hb hk hw ex9 dX4_carry_108 ?_
    refine lv_iconst (v := 1) hx hb dX4_carry_109 (by decide) ?_
    refine lv_iadd hx hb dX4_carry_110 ?_
    replace h := hbd h
    obtain ⟨f10, ef10, h⟩ := h
    refine hr_sI hx hb hk hw ef10 dX4_carry_111 (fun H locs hw => ?_)
    refine lv_iconst (v := 0) hx hb dX4_carry_112 (by decide) ?_
    cases h
    exact hret_i hx hb hr hlocks hw dX4_carry_113
  · rw [if_neg c6] at h
    refine lv_iload hx hb dX4_carry_29 (lv_at hl 2 rfl) ?_
    replace h := hbd h
    obtain ⟨r11, er11, h⟩ := h
    refine hcallS (o := some (.int r11)) hx hb hml hown hts hk [.int v4] [] (kX4_isOfStones l g er11) gX4_carry_X4_isOfStones rfl (n := 1) rfl (by decide +kernel) ⟨Nat.le_of_ble_eq_true rfl, Nat.le_of_ble_eq_true rfl⟩ hw hl.1 rfl (Nat.le_of_ble_eq_true rfl) dX4_carry_31 ⟨Nat.le_of_ble_eq_true rfl, Nat.le_of_ble_eq_true rfl⟩ (fun H locs hw => ?_)
    refine W.eq (g2 := F0 m 34 ls [.int r11]) rfl ?_
    refine lv_if_eq (tgt := 68) hx hb dX4_carry_34 (by decide) (fun c12 => ?_) (fun c12 => ?_)
    · rw [if_pos c12] at h
      exact kX4_carry_j68 C rec hrec _ _ _ _ _ _ _ h _ _ _ hw (lv_sub hl [0, 1, 2, 3, 4] rfl)
    · rw [if_neg c12] at h
      refine lv_iload hx hb dX4_carry_37 (lv_at hl 2 rfl) ?_
      refine lv_aload_n hx hb dX4_carry_39 rfl (lv_at hl 0 rfl) ?_
      replace h := hbd h
      obtain ⟨q23, eq23, h⟩ := h
      refine hr_getQ (C := RX4) (T := TX4) (N := 9) hx hb hts iX4_carry_X4 hown hk hw rfl 5 (by decide) (hts (.fieldLink RX4 26 "SetterBenchModel" "carried" "[J") (by decide +kernel)) (fun _ h9 => h9) eq23 dX4_carry_40 ?_
      refine lv_iload hx hb dX4_carry_43 (lv_at hl 4 rfl) ?_
      replace h := hbd h
      obtain ⟨a24, rfl, h⟩ := h
      replace h := hbd h
      obtain ⟨x25, ex25, h⟩ := h
      refine hr_lJ hx hb hk hw ex25 dX4_carry_45 ?_
      replace h := hbd h
      obtain ⟨r26, er26, h⟩ := h
      refine hcallS (o := some (.int r26)) hx hb hml hown hts hk [.int v4, .long x25] [] (kX4_takes l g er26) gX4_carry_X4_takes rfl (n := 2) rfl (by decide +kernel) ⟨Nat.le_of_ble_eq_true rfl, Nat.le_of_ble_eq_true rfl⟩ hw hl.1 rfl (Nat.le_of_ble_eq_true rfl) dX4_carry_46 ⟨Nat.le_of_ble_eq_true rfl, Nat.le_of_ble_eq_true rfl⟩ (fun H locs hw => ?_)
      refine W.eq (g2 := F0 m 49 ls [.int r26]) rfl ?_
      refine lv_if_ne (tgt := 68) hx hb dX4_carry_49 (by decide) (fun c27 => ?_) (fun c27 => ?_)
      · rw [if_neg c27] at h
        exact kX4_carry_j68 C rec hrec _ _ _ _ _ _ _ h _ _ _ hw (lv_sub hl [0, 1, 2, 3, 4] rfl)
      · rw [if_pos c27] at h
        refine lv_aload_n hx hb dX4_carry_52 rfl (lv_at hl 0 rfl) ?_
        replace h := hbd h
        obtain ⟨q28, eq28, h⟩ := h
        refine hr_getQ (C := RX4) (T := TX4) (N := 9) hx hb hts iX4_carry_X4 hown hk hw rfl 8 (by decide) (hts (.fieldLink RX4 36 "SetterBenchModel" "counts" "[I") (by decide +kernel)) (fun _ h9 => h9) eq28 dX4_carry_53 ?_
        refine lv_iconst (v := 5) hx hb dX4_carry_56 (by decide) ?_
        refine lv_dup2_11 hx hb dX4_carry_57 rfl (by cases q28 <;> rfl) ?_
        replace h := hbd h
        obtain ⟨a29, rfl, h⟩ := h
        replace h := hbd h
        obtain ⟨x30, ex30, h⟩ := h
        refine hr_lI hx hb hk hw ex30 dX4_carry_58 ?_
        refine lv_iconst (v := 1) hx hb dX4_carry_59 (by decide) ?_
        refine lv_iadd hx hb dX4_carry_60 ?_
        replace h := hbd h
        obtain ⟨f31, ef31, h⟩ := h
        refine hr_sI hx hb hk hw ef31 dX4_carry_61 (fun H locs hw => ?_)
        refine lv_bipush (v := 10) hx hb dX4_carry_62 (by decide) ?_
        refine lv_iload hx hb dX4_carry_64 (lv_at hl 4 rfl) ?_
        refine lv_iadd hx hb dX4_carry_66 ?_
        cases h
        exact hret_i hx hb hr hlocks hw dX4_carry_67
def fX4_carry_j23 (n : Nat) : hPl → Nat → Nat → Int32 → Int32 → Int32 → Int32 → Option (Int32 × hPl × Nat) := match n with
  | 0 => fun _ _ _ _ _ _ _ => none
  | n + 1 => fX4_carry_j23s (fX4_carry_j23 n)
theorem kX4_carry_j23 {g : hGb} {p : Program} {l : Launch} {e : Env} {s : State} {m : MethodId} {args : Array Value} {below : List Frame} {meth : Method} {c : Code} {A : Nat → Prop} (C : hX g p s m args meth c RX4 cX4_carry 7 wsX4_carry (some .int)) {r : Int32} {f' : hPl} {z' : Nat} (n : Nat) : ∀ (f : hPl) (z : Nat) (a : Nat) (v3 : Int32) (v4 : Int32) (v5 : Int32) (v6 : Int32), fX4_carry_j23 n f z a v3 v4 v5 v6 = some (r, f', z') → ∀ (H : Heap) (locs : List Loc) (ls : Array Slot), hW g A s f z H locs → lv_has ls 7 [(0, .ref a), (3, .int v3), (4, .int v4), (5, .int v5), (6, .int v6)] → W p l e (hRm 1 0 0) s m args below meth c H locs 0 0 (hZ g A below args s 0 0 (some (.int r)) f' z') (F0 m 23 ls []) := by
  induction n with
  | zero =>
    intro f z a v3 v4 v5 v6 h
    cases h
  | succ n ih => exact kX4_carry_j23s C (fX4_carry_j23 n) ih
def fX4_carry (f : hPl) (z : Nat) (a : Nat) (p1 : Int32) (p2 : Int32) (p3 : Int32) : Option (Int32 × hPl × Nat) := (hob f a 3).bind fun u1 => (fX4_sortOn f a p1).bind fun r2 => (hgQ f a 3 0).bind fun q3 => q3.bind fun a4 => (hlI f a4 p1).bind fun x5 => fX4_carry_j23 64 f z a p3 r2 ((40 * x5) + p2) 0
set_option maxHeartbeats 4000000 in
set_option maxRecDepth 100000 in
theorem kX4_carry (l : Launch) (g : hGb) {f : hPl} {z : Nat} {a : Nat} {p1 : Int32} {p2 : Int32} {p3 : Int32} {r : Int32} {f' : hPl} {z' : Nat} (h : fX4_carry f z a p1 p2 p3 = some (r, f', z')) : hCt l g yX4_carry wsX4_carry 1 0 0 [.ref a, .int p1, .int p2, .int p3] f z (some (.int r)) f' z' := by
  refine hCt.of (cc := cX4_carry) (maxL := 7) (ret := (some .int)) (by decide +kernel) rfl (by exact Nat.le_of_ble_eq_true rfl) ?_
  intro p e s m below meth c C hname hw ls hl
  obtain ⟨hx, hb, hml, hown, hts, hr, hlocks, hk⟩ := id C
  have hl : lv_has ls 7 [(0, .ref a), (1, .int p1), (2, .int p2), (3, .int p3)] := hl
  have hown : s.vm.findClass RX4 = some m.cls := hown
  unfold fX4_carry at h
  refine lv_aload_n hx hb dX4_carry_0 rfl (lv_at hl 0 rfl) ?_
  refine lv_iload_n hx hb dX4_carry_1 rfl (lv_at hl 1 rfl) ?_
  replace h := hbd h
  obtain ⟨u1, eu1, h⟩ := h
  replace h := hbd h
  obtain ⟨r2, er2, h⟩ := h
  refine hcallV (o := some (.int r2)) hx hb hml hown hts hk [.int p1] [] (kX4_sortOn l g er2) gX4_carry_X4_sortOn rfl (n := 1) rfl (by decide +kernel) ⟨Nat.le_of_ble_eq_true rfl, Nat.le_of_ble_eq_true rfl⟩ (ci := 3) rfl eu1 hw hl.1 rfl (Nat.le_of_ble_eq_true rfl) dX4_carry_2 ⟨Nat.le_of_ble_eq_true rfl, Nat.le_of_ble_eq_true rfl⟩ (fun H locs hw => ?_)
  refine W.eq (g2 := F0 m 5 ls [.int r2]) rfl ?_
  refine lv_istore (lv' := [(4, .int r2), (0, .ref a), (1, .int p1), (2, .int p2), (3, .int p3)]) hx hb dX4_carry_5 hl (by decide) rfl (fun ls hl => ?_)
  refine lv_bipush (v := 40) hx hb dX4_carry_7 (by decide) ?_
  refine lv_aload_n hx hb dX4_carry_9 rfl (lv_at hl 1 rfl) ?_
  replace h := hbd h
  obtain ⟨q3, eq3, h⟩ := h
  refine hr_getQ (C := RX4) (T := TX4) (N := 9) hx hb hts iX4_carry_X4 hown hk hw rfl 0 (by decide) (hts (.fieldLink RX4 9 "SetterBenchModel" "lies" "[I") (by decide +kernel)) (fun _ h9 => h9) eq3 dX4_carry_10 ?_
  refine lv_iload_n hx hb dX4_carry_13 rfl (lv_at hl 2 rfl) ?_
  replace h := hbd h
  obtain ⟨a4, rfl, h⟩ := h
  replace h := hbd h
  obtain ⟨x5, ex5, h⟩ := h
  refine hr_lI hx hb hk hw ex5 dX4_carry_14 ?_
  refine lv_imul hx hb dX4_carry_15 ?_
  refine lv_iload_n hx hb dX4_carry_16 rfl (lv_at hl 3 rfl) ?_
  refine lv_iadd hx hb dX4_carry_17 ?_
  refine lv_istore (lv' := [(5, .int ((40 * x5) + p2)), (4, .int r2), (0, .ref a), (1, .int p1), (2, .int p2), (3, .int p3)]) hx hb dX4_carry_18 hl (by decide) rfl (fun ls hl => ?_)
  refine lv_iconst (v := 0) hx hb dX4_carry_20 (by decide) ?_
  refine lv_istore (lv' := [(6, .int 0), (5, .int ((40 * x5) + p2)), (4, .int r2), (0, .ref a), (1, .int p1), (2, .int p2), (3, .int p3)]) hx hb dX4_carry_21 hl (by decide) rfl (fun ls hl => ?_)
  exact kX4_carry_j23 C 64 _ _ _ _ _ _ _ h _ _ _ hw (lv_sub hl [3, 6, 2, 1, 0] rfl)
theorem iX4_put_X4 : ∀ w ∈ wsX40, w ∈ wsX4_put := by decide +kernel
def fX4_put_j51 (f : hPl) (z : Nat) (a : Nat) (v1 : Int32) (v2 : Int32) (v4 : Int64) : Option (Int32 × hPl × Nat) := (hob f a 3).bind fun u6 => (fX4_sortOn f a v1).bind fun r7 => (hob f a 3).bind fun u8 => (fX4_manyOn f a v1).bind fun r9 => (fX4_refusal f  6 1 0 r7 r9 v2 1).bind fun r10 => (if r10 ≤ 0 then (hgQ f a 3 5).bind fun q12 => q12.bind fun a13 => (hsJ f a13 0 v4).bind fun f14 => (hob f14 a 3).bind fun u15 => (fX4_carry f14 z a v1 v2 1).bind fun r16t => some (r16t.1, r16t.2.1, r16t.2.2) else (hgQ f a 3 8).bind fun q19 => q19.bind fun a20 => (hlI f a20 (1 + r10)).bind fun x21 => (hsI f a20 (1 + r10) (x21 + 1)).bind fun f22 => some (r10, f22, z))
set_option maxHeartbeats 4000000 in
set_option maxRecDepth 100000 in
theorem kX4_put_j51 {g : hGb} {p : Program} {l : Launch} {e : Env} {s : State} {m : MethodId} {args : Array Value} {below : List Frame} {meth : Method} {c : Code} {A : Nat → Prop} (C : hX g p s m args meth c RX4 cX4_put 7 wsX4_put (some .int)) {r : Int32} {f' : hPl} {z' : Nat}  : ∀ (f : hPl) (z : Nat) (a : Nat) (v1 : Int32) (v2 : Int32) (v4 : Int64), fX4_put_j51 f z a v1 v2 v4 = some (r, f', z') → ∀ (H : Heap) (locs : List Loc) (ls : Array Slot), hW g A s f z H locs → lv_has ls 7 [(0, .ref a), (1, .int v1), (2, .int v2), (4, .long v4)] → W p l e (hRm 2 0 0) s m args below meth c H locs 0 0 (hZ g A below args s 0 0 (some (.int r)) f' z') (F0 m 51 ls []) := by
  obtain ⟨hx, hb, hml, hown, hts, hr, hlocks, hk⟩ := id C
  intro f z a v1 v2 v4 h H locs ls hw hl
  unfold fX4_put_j51 at h
  refine lv_bipush (v := 6) hx hb dX4_put_51 (by decide) ?_
  refine lv_iconst (v := 1) hx hb dX4_put_53 (by decide) ?_
  refine lv_iconst (v := 0) hx hb dX4_put_54 (by decide) ?_
  refine lv_aload_n hx hb dX4_put_55 rfl (lv_at hl 0 rfl) ?_
  refine lv_iload_n hx hb dX4_put_56 rfl (lv_at hl 1 rfl) ?_
  replace h := hbd h
  obtain ⟨u6, eu6, h⟩ := h
  replace h := hbd h
  obtain ⟨r7, er7, h⟩ := h
  refine hcallV (o := some (.int r7)) hx hb hml hown hts hk [.int v1] [.int 0, .int 1, .int 6] (kX4_sortOn l g er7) gX4_put_X4_sortOn rfl (n := 1) rfl (by decide +kernel) ⟨Nat.le_of_ble_eq_true rfl, Nat.le_of_ble_eq_true rfl⟩ (ci := 3) rfl eu6 hw hl.1 rfl (Nat.le_of_ble_eq_true rfl) dX4_put_57 ⟨Nat.le_of_ble_eq_true rfl, Nat.le_of_ble_eq_true rfl⟩ (fun H locs hw => ?_)
  refine W.eq (g2 := F0 m 60 ls [.int r7, .int 0, .int 1, .int 6]) rfl ?_
  refine lv_aload_n hx hb dX4_put_60 rfl (lv_at hl 0 rfl) ?_
  refine lv_iload_n hx hb dX4_put_61 rfl (lv_at hl 1 rfl) ?_
  replace h := hbd h
  obtain ⟨u8, eu8, h⟩ := h
  replace h := hbd h
  obtain ⟨r9, er9, h⟩ := h
  refine hcallV (o := some (.int r9)) hx hb hml hown hts hk [.int v1] [.int r7, .int 0, .int 1, .int 6] (kX4_manyOn l g er9) gX4_put_X4_manyOn rfl (n := 1) rfl (by decide +kernel) ⟨Nat.le_of_ble_eq_true rfl, Nat.le_of_ble_eq_true rfl⟩ (ci := 3) rfl eu8 hw hl.1 rfl (Nat.le_of_ble_eq_true rfl) dX4_put_62 ⟨Nat.le_of_ble_eq_true rfl, Nat.le_of_ble_eq_true rfl⟩ (fun H locs hw => ?_)
  refine W.eq (g2 := F0 m 65 ls [.int r9, .int r7, .int 0, .int 1, .int 6]) rfl ?_
  refine lv_iload_n hx hb dX4_put_65 rfl (lv_at hl 2 rfl) ?_
  refine lv_iconst (v := 1) hx hb dX4_put_66 (by decide) ?_
  replace h := hbd h
  obtain ⟨r10, er10, h⟩ := h
  refine hcallS (o := some (.int r10)) hx hb hml hown hts hk [.int 6, .int 1, .int 0, .int r7, .int r9, .int v2, .int 1] [] (kX4_refusal l g er10) gX4_put_X4_refusal rfl (n := 7) rfl (by decide +kernel) ⟨Nat.le_of_ble_eq_true rfl, Nat.le_of_ble_eq_true rfl⟩ hw hl.1 rfl (Nat.le_of_ble_eq_true rfl) dX4_put_67 ⟨Nat.le_of_ble_eq_true rfl, Nat.le_of_ble_eq_true rfl⟩ (fun H locs hw => ?_)
  refine W.eq (g2 := F0 m 70 ls [.int r10]) rfl ?_
  refine lv_istore (lv' := [(6, .int r10), (0, .ref a), (1, .int v1), (2, .int v2), (4, .long v4)]) hx hb dX4_put_70 hl (by decide) rfl (fun ls hl => ?_)
  refine lv_iload hx hb dX4_put_72 (lv_at hl 0 rfl) ?_
  refine lv_if_le (tgt := 93) hx hb dX4_put_74 (by decide) (fun c11 => ?_) (fun c11 => ?_)
  · rw [if_pos c11] at h
    refine lv_aload_n hx hb dX4_put_93 rfl (lv_at hl 1 rfl) ?_
    replace h := hbd h
    obtain ⟨q12, eq12, h⟩ := h
    refine hr_getQ (C := RX4) (T := TX4) (N := 9) hx hb hts iX4_put_X4 hown hk hw rfl 5 (by decide) (hts (.fieldLink RX4 26 "SetterBenchModel" "carried" "[J") (by decide +kernel)) (fun _ h9 => h9) eq12 dX4_put_94 ?_
    refine lv_iconst (v := 0) hx hb dX4_put_97 (by decide) ?_
    refine lv_lload hx hb dX4_put_98 (lv_at hl 4 rfl) ?_
    replace h := hbd h
    obtain ⟨a13, rfl, h⟩ := h
    replace h := hbd h
    obtain ⟨f14, ef14, h⟩ := h
    refine hr_sJ hx hb hk hw ef14 dX4_put_100 (fun H locs hw => ?_)
    refine lv_aload_n hx hb dX4_put_101 rfl (lv_at hl 1 rfl) ?_
    refine lv_iload_n hx hb dX4_put_102 rfl (lv_at hl 2 rfl) ?_
    refine lv_iload_n hx hb dX4_put_103 rfl (lv_at hl 3 rfl) ?_
    refine lv_iconst (v := 1) hx hb dX4_put_104 (by decide) ?_
    replace h := hbd h
    obtain ⟨u15, eu15, h⟩ := h
    replace h := hbd h
    obtain ⟨⟨r16, f17, z18⟩, er16, h⟩ := h
    dsimp only at h
    refine hcallV (o := some (.int r16)) hx hb hml hown hts hk [.int v1, .int v2, .int 1] [] (kX4_carry l g er16) gX4_put_X4_carry rfl (n := 3) rfl (by decide +kernel) ⟨Nat.le_of_ble_eq_true rfl, Nat.le_of_ble_eq_true rfl⟩ (ci := 3) rfl eu15 hw hl.1 rfl (Nat.le_of_ble_eq_true rfl) dX4_put_105 ⟨Nat.le_of_ble_eq_true rfl, Nat.le_of_ble_eq_true rfl⟩ (fun H locs hw => ?_)
    refine W.eq (g2 := F0 m 108 ls [.int r16]) rfl ?_
    cases h
    exact hret_i hx hb hr hlocks hw dX4_put_108
  · rw [if_neg c11] at h
    refine lv_aload_n hx hb dX4_put_77 rfl (lv_at hl 1 rfl) ?_
    replace h := hbd h
    obtain ⟨q19, eq19, h⟩ := h
    refine hr_getQ (C := RX4) (T := TX4) (N := 9) hx hb hts iX4_put_X4 hown hk hw rfl 8 (by decide) (hts (.fieldLink RX4 36 "SetterBenchModel" "counts" "[I") (by decide +kernel)) (fun _ h9 => h9) eq19 dX4_put_78 ?_
    refine lv_iconst (v := 1) hx hb dX4_put_81 (by decide) ?_
    refine lv_iload hx hb dX4_put_82 (lv_at hl 0 rfl) ?_
    refine lv_iadd hx hb dX4_put_84 ?_
    refine lv_dup2_11 hx hb dX4_put_85 rfl (by cases q19 <;> rfl) ?_
    replace h := hbd h
    obtain ⟨a20, rfl, h⟩ := h
    replace h := hbd h
    obtain ⟨x21, ex21, h⟩ := h
    refine hr_lI hx hb hk hw ex21 dX4_put_86 ?_
    refine lv_iconst (v := 1) hx hb dX4_put_87 (by decide) ?_
    refine lv_iadd hx hb dX4_put_88 ?_
    replace h := hbd h
    obtain ⟨f22, ef22, h⟩ := h
    refine hr_sI hx hb hk hw ef22 dX4_put_89 (fun H locs hw => ?_)
    refine lv_iload hx hb dX4_put_90 (lv_at hl 0 rfl) ?_
    cases h
    exact hret_i hx hb hr hlocks hw dX4_put_92
def fX4_put (f : hPl) (z : Nat) (a : Nat) (p1 : Int32) (p2 : Int32) (p3 : Int32) : Option (Int32 × hPl × Nat) := (fX4_isPlace f  p1).bind fun r1 => (if r1 = 0 then some ((-1), f, z) else (if p3 < 0 then some ((-1), f, z) else (if p3 ≤ 4 then (if p3 ≤ 0 then fX4_put_j51 f z a p1 p2 (0 : Int64) else (hgQ f a 3 8).bind fun q23 => q23.bind fun a24 => (hlI f a24 0).bind fun x25 => (hsI f a24 0 (x25 + 1)).bind fun f26 => (hgQ f26 a 3 8).bind fun q27 => q27.bind fun a28 => (hlI f26 a28 0).bind fun x29 => fX4_put_j51 f26 z a p1 p2 (((10 : Int64) * (x29.toInt64)) + (p3.toInt64))) else some ((-1), f, z))))
set_option maxHeartbeats 4000000 in
set_option maxRecDepth 100000 in
theorem kX4_put (l : Launch) (g : hGb) {f : hPl} {z : Nat} {a : Nat} {p1 : Int32} {p2 : Int32} {p3 : Int32} {r : Int32} {f' : hPl} {z' : Nat} (h : fX4_put f z a p1 p2 p3 = some (r, f', z')) : hCt l g yX4_put wsX4_put 2 0 0 [.ref a, .int p1, .int p2, .int p3] f z (some (.int r)) f' z' := by
  refine hCt.of (cc := cX4_put) (maxL := 7) (ret := (some .int)) (by decide +kernel) rfl (by exact Nat.le_of_ble_eq_true rfl) ?_
  intro p e s m below meth c C hname hw ls hl
  obtain ⟨hx, hb, hml, hown, hts, hr, hlocks, hk⟩ := id C
  have hl : lv_has ls 7 [(0, .ref a), (1, .int p1), (2, .int p2), (3, .int p3)] := hl
  have hown : s.vm.findClass RX4 = some m.cls := hown
  unfold fX4_put at h
  refine lv_iload_n hx hb dX4_put_0 rfl (lv_at hl 1 rfl) ?_
  replace h := hbd h
  obtain ⟨r1, er1, h⟩ := h
  refine hcallS (o := some (.int r1)) hx hb hml hown hts hk [.int p1] [] (kX4_isPlace l g er1) gX4_put_X4_isPlace rfl (n := 1) rfl (by decide +kernel) ⟨Nat.le_of_ble_eq_true rfl, Nat.le_of_ble_eq_true rfl⟩ hw hl.1 rfl (Nat.le_of_ble_eq_true rfl) dX4_put_1 ⟨Nat.le_of_ble_eq_true rfl, Nat.le_of_ble_eq_true rfl⟩ (fun H locs hw => ?_)
  refine W.eq (g2 := F0 m 4 ls [.int r1]) rfl ?_
  refine lv_if_eq (tgt := 16) hx hb dX4_put_4 (by decide) (fun c2 => ?_) (fun c2 => ?_)
  · rw [if_pos c2] at h
    refine lv_iconst (v := (-1)) hx hb dX4_put_16 (by decide) ?_
    cases h
    exact hret_i hx hb hr hlocks hw dX4_put_17
  · rw [if_neg c2] at h
    refine lv_iload_n hx hb dX4_put_7 rfl (lv_at hl 3 rfl) ?_
    refine lv_if_lt (tgt := 16) hx hb dX4_put_8 (by decide) (fun c3 => ?_) (fun c3 => ?_)
    · rw [if_pos c3] at h
      refine lv_iconst (v := (-1)) hx hb dX4_put_16 (by decide) ?_
      cases h
      exact hret_i hx hb hr hlocks hw dX4_put_17
    · rw [if_neg c3] at h
      refine lv_iload_n hx hb dX4_put_11 rfl (lv_at hl 3 rfl) ?_
      refine lv_iconst (v := 4) hx hb dX4_put_12 (by decide) ?_
      refine lv_icmp_le (tgt := 18) hx hb dX4_put_13 (by decide) (fun c4 => ?_) (fun c4 => ?_)
      · rw [if_pos c4] at h
        refine lv_lconst (v := 0) hx hb dX4_put_18 (by decide) ?_
        refine lv_lstore (lv' := [(4, .long (0 : Int64)), (0, .ref a), (1, .int p1), (2, .int p2), (3, .int p3)]) hx hb dX4_put_19 hl (by decide) rfl (fun ls hl => ?_)
        refine lv_iload_n hx hb dX4_put_21 rfl (lv_at hl 4 rfl) ?_
        refine lv_if_le (tgt := 51) hx hb dX4_put_22 (by decide) (fun c5 => ?_) (fun c5 => ?_)
        · rw [if_pos c5] at h
          exact kX4_put_j51 C _ _ _ _ _ _ h _ _ _ hw (lv_sub hl [1, 2, 3, 0] rfl)
        · rw [if_neg c5] at h
          refine lv_aload_n hx hb dX4_put_25 rfl (lv_at hl 1 rfl) ?_
          replace h := hbd h
          obtain ⟨q23, eq23, h⟩ := h
          refine hr_getQ (C := RX4) (T := TX4) (N := 9) hx hb hts iX4_put_X4 hown hk hw rfl 8 (by decide) (hts (.fieldLink RX4 36 "SetterBenchModel" "counts" "[I") (by decide +kernel)) (fun _ h9 => h9) eq23 dX4_put_26 ?_
          refine lv_iconst (v := 0) hx hb dX4_put_29 (by decide) ?_
          refine lv_dup2_11 hx hb dX4_put_30 rfl (by cases q23 <;> rfl) ?_
          replace h := hbd h
          obtain ⟨a24, rfl, h⟩ := h
          replace h := hbd h
          obtain ⟨x25, ex25, h⟩ := h
          refine hr_lI hx hb hk hw ex25 dX4_put_31 ?_
          refine lv_iconst (v := 1) hx hb dX4_put_32 (by decide) ?_
          refine lv_iadd hx hb dX4_put_33 ?_
          replace h := hbd h
          obtain ⟨f26, ef26, h⟩ := h
          refine hr_sI hx hb hk hw ef26 dX4_put_34 (fun H locs hw => ?_)
          refine lv_ldc2 (v := (10)) hx hb hown (hts (.constantLong RX4 61 (10)) (by decide +kernel)) dX4_put_35 ?_
          refine lv_aload_n hx hb dX4_put_38 rfl (lv_at hl 1 rfl) ?_
          replace h := hbd h
          obtain ⟨q27, eq27, h⟩ := h
          refine hr_getQ (C := RX4) (T := TX4) (N := 9) hx hb hts iX4_put_X4 hown hk hw rfl 8 (by decide) (hts (.fieldLink RX4 36 "SetterBenchModel" "counts" "[I") (by decide +kernel)) (fun _ h9 => h9) eq27 dX4_put_39 ?_
          refine lv_iconst (v := 0) hx hb dX4_put_42 (by decide) ?_
          replace h := hbd h
          obtain ⟨a28, rfl, h⟩ := h
          replace h := hbd h
          obtain ⟨x29, ex29, h⟩ := h
          refine hr_lI hx hb hk hw ex29 dX4_put_43 ?_
          refine lv_i2l hx hb dX4_put_44 rfl ?_
          refine lv_lmul hx hb dX4_put_45 ?_
          refine lv_iload_n hx hb dX4_put_46 rfl (lv_at hl 4 rfl) ?_
          refine lv_i2l hx hb dX4_put_47 rfl ?_
          refine lv_ladd hx hb dX4_put_48 ?_
          refine lv_lstore (lv' := [(4, .long (((10 : Int64) * (x29.toInt64)) + (p3.toInt64))), (0, .ref a), (1, .int p1), (2, .int p2), (3, .int p3)]) hx hb dX4_put_49 hl (by decide) rfl (fun ls hl => ?_)
          exact kX4_put_j51 C _ _ _ _ _ _ h _ _ _ hw (lv_sub hl [1, 2, 3, 0] rfl)
      · rw [if_neg c4] at h
        refine lv_iconst (v := (-1)) hx hb dX4_put_16 (by decide) ?_
        cases h
        exact hret_i hx hb hr hlocks hw dX4_put_17
theorem iX4_sweep_X4 : ∀ w ∈ wsX40, w ∈ wsX4_sweep := by decide +kernel
def fX4_sweep_j122s (rec : hPl → Nat → Nat → Int32 → Int32 → Int32 → Int32 → Option (Int32 × hPl × Nat)) (f : hPl) (z : Nat) (a : Nat) (v3 : Int32) (v4 : Int32) (v5 : Int32) (v7 : Int32) : Option (Int32 × hPl × Nat) := (hgQ f a 3 2).bind fun q20 => (hgI f a 3 7).bind fun x21 => q20.bind fun a22 => (hlI f a22 x21).bind fun x23 => (if x23 ≤ v7 then (hob f a 3).bind fun u25 => (fX4_carry f z a v3 v4 v5).bind fun r26t => some (r26t.1, r26t.2.1, r26t.2.2) else (hgQ f a 3 6).bind fun q29 => (hgQ f a 3 4).bind fun q30 => (hgI f a 3 7).bind fun x31 => q30.bind fun a32 => (hlJ f a32 ((40 * x31) + v7)).bind fun x33 => q29.bind fun a34 => (hsJ f a34 v7 x33).bind fun f35 => rec f35 z a v3 v4 v5 (v7 + 1))
set_option maxHeartbeats 4000000 in
set_option maxRecDepth 100000 in
theorem kX4_sweep_j122s {g : hGb} {p : Program} {l : Launch} {e : Env} {s : State} {m : MethodId} {args : Array Value} {below : List Frame} {meth : Method} {c : Code} {A : Nat → Prop} (C : hX g p s m args meth c RX4 cX4_sweep 8 wsX4_sweep (some .int)) {r : Int32} {f' : hPl} {z' : Nat} (rec : hPl → Nat → Nat → Int32 → Int32 → Int32 → Int32 → Option (Int32 × hPl × Nat)) (hrec : ∀ (f : hPl) (z : Nat) (a : Nat) (v3 : Int32) (v4 : Int32) (v5 : Int32) (v7 : Int32), rec f z a v3 v4 v5 v7 = some (r, f', z') → ∀ (H : Heap) (locs : List Loc) (ls : Array Slot), hW g A s f z H locs → lv_has ls 8 [(0, .ref a), (3, .int v3), (4, .int v4), (5, .int v5), (7, .int v7)] → W p l e (hRm 2 0 0) s m args below meth c H locs 0 0 (hZ g A below args s 0 0 (some (.int r)) f' z') (F0 m 122 ls []))  : ∀ (f : hPl) (z : Nat) (a : Nat) (v3 : Int32) (v4 : Int32) (v5 : Int32) (v7 : Int32), fX4_sweep_j122s rec f z a v3 v4 v5 v7 = some (r, f', z') → ∀ (H : Heap) (locs : List Loc) (ls : Array Slot), hW g A s f z H locs → lv_has ls 8 [(0, .ref a), (3, .int v3), (4, .int v4), (5, .int v5), (7, .int v7)] → W p l e (hRm 2 0 0) s m args below meth c H locs 0 0 (hZ g A below args s 0 0 (some (.int r)) f' z') (F0 m 122 ls []) := by
  obtain ⟨hx, hb, hml, hown, hts, hr, hlocks, hk⟩ := id C
  intro f z a v3 v4 v5 v7 h H locs ls hw hl
  unfold fX4_sweep_j122s at h
  refine lv_iload hx hb dX4_sweep_122 (lv_at hl 4 rfl) ?_
  refine lv_aload_n hx hb dX4_sweep_124 rfl (lv_at hl 0 rfl) ?_
  replace h := hbd h
  obtain ⟨q20, eq20, h⟩ := h
  refine hr_getQ (C := RX4) (T := TX4) (N := 9) hx hb hts iX4_sweep_X4 hown hk hw rfl 2 (by decide) (hts (.fieldLink RX4 16 "SetterBenchModel" "many" "[I") (by decide +kernel)) (fun _ h9 => h9) eq20 dX4_sweep_125 ?_
  refine lv_aload_n hx hb dX4_sweep_128 rfl (lv_at hl 0 rfl) ?_
  replace h := hbd h
  obtain ⟨x21, ex21, h⟩ := h
  refine hr_getI (C := RX4) (T := TX4) (N := 9) hx hb hts iX4_sweep_X4 hown hk hw rfl 7 (by decide) (hts (.fieldLink RX4 32 "SetterBenchModel" "keeper" "I") (by decide +kernel)) (fun _ h9 => h9) ex21 dX4_sweep_129 ?_
  replace h := hbd h
  obtain ⟨a22, rfl, h⟩ := h
  replace h := hbd h
  obtain ⟨x23, ex23, h⟩ := h
  refine hr_lI hx hb hk hw ex23 dX4_sweep_132 ?_
  refine lv_icmp_ge (tgt := 164) hx hb dX4_sweep_133 (by decide) (fun c24 => ?_) (fun c24 => ?_)
  · rw [if_pos c24] at h
    refine lv_aload_n hx hb dX4_sweep_164 rfl (lv_at hl 0 rfl) ?_
    refine lv_iload_n hx hb dX4_sweep_165 rfl (lv_at hl 1 rfl) ?_
    refine lv_iload hx hb dX4_sweep_166 (lv_at hl 2 rfl) ?_
    refine lv_iload hx hb dX4_sweep_168 (lv_at hl 3 rfl) ?_
    replace h := hbd h
    obtain ⟨u25, eu25, h⟩ := h
    replace h := hbd h
    obtain ⟨⟨r26, f27, z28⟩, er26, h⟩ := h
    dsimp only at h
    refine hcallV (o := some (.int r26)) hx hb hml hown hts hk [.int v3, .int v4, .int v5] [] (kX4_carry l g er26) gX4_sweep_X4_carry rfl (n := 3) rfl (by decide +kernel) ⟨Nat.le_of_ble_eq_true rfl, Nat.le_of_ble_eq_true rfl⟩ (ci := 3) rfl eu25 hw hl.1 rfl (Nat.le_of_ble_eq_true rfl) dX4_sweep_170 ⟨Nat.le_of_ble_eq_true rfl, Nat.le_of_ble_eq_true rfl⟩ (fun H locs hw => ?_)
    refine W.eq (g2 := F0 m 173 ls [.int r26]) rfl ?_
    cases h
    exact hret_i hx hb hr hlocks hw dX4_sweep_173
  · rw [if_neg c24] at h
    refine lv_aload_n hx hb dX4_sweep_136 rfl (lv_at hl 0 rfl) ?_
    replace h := hbd h
    obtain ⟨q29, eq29, h⟩ := h
    refine hr_getQ (C := RX4) (T := TX4) (N := 9) hx hb hts iX4_sweep_X4 hown hk hw rfl 6 (by decide) (hts (.fieldLink RX4 29 "SetterBenchModel" "kept" "[J") (by decide +kernel)) (fun _ h9 => h9) eq29 dX4_sweep_137 ?_
    refine lv_iload hx hb dX4_sweep_140 (lv_at hl 4 rfl) ?_
    refine lv_aload_n hx hb dX4_sweep_142 rfl (lv_at hl 0 rfl) ?_
    replace h := hbd h
    obtain ⟨q30, eq30, h⟩ := h
    refine hr_getQ (C := RX4) (T := TX4) (N := 9) hx hb hts iX4_sweep_X4 hown hk hw rfl 4 (by decide) (hts (.fieldLink RX4 22 "SetterBenchModel" "members" "[J") (by decide +kernel)) (fun _ h9 => h9) eq30 dX4_sweep_143 ?_
    refine lv_bipush (v := 40) hx hb dX4_sweep_146 (by decide) ?_
    refine lv_aload_n hx hb dX4_sweep_148 rfl (lv_at hl 0 rfl) ?_
    replace h := hbd h
    obtain ⟨x31, ex31, h⟩ := h
    refine hr_getI (C := RX4) (T := TX4) (N := 9) hx hb hts iX4_sweep_X4 hown hk hw rfl 7 (by decide) (hts (.fieldLink RX4 32 "SetterBenchModel" "keeper" "I") (by decide +kernel)) (fun _ h9 => h9) ex31 dX4_sweep_149 ?_
    refine lv_imul hx hb dX4_sweep_152 ?_
    refine lv_iload hx hb dX4_sweep_153 (lv_at hl 4 rfl) ?_
    refine lv_iadd hx hb dX4_sweep_155 ?_
    replace h := hbd h
    obtain ⟨a32, rfl, h⟩ := h
    replace h := hbd h
    obtain ⟨x33, ex33, h⟩ := h
    refine hr_lJ hx hb hk hw ex33 dX4_sweep_156 ?_
    replace h := hbd h
    obtain ⟨a34, rfl, h⟩ := h
    replace h := hbd h
    obtain ⟨f35, ef35, h⟩ := h
    refine hr_sJ hx hb hk hw ef35 dX4_sweep_157 (fun H locs hw => ?_)
    refine lv_iinc (v := (v7 + 1)) (lv' := [(7, .int (v7 + 1)), (0, .ref a), (3, .int v3), (4, .int v4), (5, .int v5)]) hx hb dX4_sweep_158 hl (k := 4) rfl rfl (by decide) rfl (fun ls hl => ?_)
    refine lv_goto (tgt := 122) hx hb dX4_sweep_161 (by decide) ?_
    exact hrec _ _ _ _ _ _ _ h _ _ _ hw (lv_sub hl [1, 2, 3, 4, 0] rfl)
def fX4_sweep_j122 (n : Nat) : hPl → Nat → Nat → Int32 → Int32 → Int32 → Int32 → Option (Int32 × hPl × Nat) := match n with
  | 0 => fun _ _ _ _ _ _ _ => none
  | n + 1 => fX4_sweep_j122s (fX4_sweep_j122 n)
theorem kX4_sweep_j122 {g : hGb} {p : Program} {l : Launch} {e : Env} {s : State} {m : MethodId} {args : Array Value} {below : List Frame} {meth : Method} {c : Code} {A : Nat → Prop} (C : hX g p s m args meth c RX4 cX4_sweep 8 wsX4_sweep (some .int)) {r : Int32} {f' : hPl} {z' : Nat} (n : Nat) : ∀ (f : hPl) (z : Nat) (a : Nat) (v3 : Int32) (v4 : Int32) (v5 : Int32) (v7 : Int32), fX4_sweep_j122 n f z a v3 v4 v5 v7 = some (r, f', z') → ∀ (H : Heap) (locs : List Loc) (ls : Array Slot), hW g A s f z H locs → lv_has ls 8 [(0, .ref a), (3, .int v3), (4, .int v4), (5, .int v5), (7, .int v7)] → W p l e (hRm 2 0 0) s m args below meth c H locs 0 0 (hZ g A below args s 0 0 (some (.int r)) f' z') (F0 m 122 ls []) := by
  induction n with
  | zero =>
    intro f z a v3 v4 v5 v7 h
    cases h
  | succ n ih => exact kX4_sweep_j122s C (fX4_sweep_j122 n) ih
def fX4_sweep_j70s (rec : hPl → Nat → Nat → Int32 → Int32 → Int32 → Int32 → Int32 → Int32 → Option (Int32 × hPl × Nat)) (f : hPl) (z : Nat) (a : Nat) (v1 : Int32) (v2 : Int32) (v3 : Int32) (v4 : Int32) (v5 : Int32) (v7 : Int32) : Option (Int32 × hPl × Nat) := (if v5 ≤ v7 then (hgQ f a 3 0).bind fun q16 => q16.bind fun a17 => (hlI f a17 v3).bind fun x18 => (hput f a 3 7 (.int x18)).bind fun f19 => fX4_sweep_j122 64 f19 z a v3 v4 v5 0 else (hgQ f a 3 5).bind fun q36 => (hgQ f a 3 4).bind fun q37 => (hgQ f a 3 0).bind fun q38 => q38.bind fun a39 => (hlI f a39 v1).bind fun x40 => q37.bind fun a41 => (hlJ f a41 (((40 * x40) + v2) + v7)).bind fun x42 => q36.bind fun a43 => (hsJ f a43 v7 x42).bind fun f44 => rec f44 z a v1 v2 v3 v4 v5 (v7 + 1))
set_option maxHeartbeats 4000000 in
set_option maxRecDepth 100000 in
theorem kX4_sweep_j70s {g : hGb} {p : Program} {l : Launch} {e : Env} {s : State} {m : MethodId} {args : Array Value} {below : List Frame} {meth : Method} {c : Code} {A : Nat → Prop} (C : hX g p s m args meth c RX4 cX4_sweep 8 wsX4_sweep (some .int)) {r : Int32} {f' : hPl} {z' : Nat} (rec : hPl → Nat → Nat → Int32 → Int32 → Int32 → Int32 → Int32 → Int32 → Option (Int32 × hPl × Nat)) (hrec : ∀ (f : hPl) (z : Nat) (a : Nat) (v1 : Int32) (v2 : Int32) (v3 : Int32) (v4 : Int32) (v5 : Int32) (v7 : Int32), rec f z a v1 v2 v3 v4 v5 v7 = some (r, f', z') → ∀ (H : Heap) (locs : List Loc) (ls : Array Slot), hW g A s f z H locs → lv_has ls 8 [(0, .ref a), (1, .int v1), (2, .int v2), (3, .int v3), (4, .int v4), (5, .int v5), (7, .int v7)] → W p l e (hRm 2 0 0) s m args below meth c H locs 0 0 (hZ g A below args s 0 0 (some (.int r)) f' z') (F0 m 70 ls []))  : ∀ (f : hPl) (z : Nat) (a : Nat) (v1 : Int32) (v2 : Int32) (v3 : Int32) (v4 : Int32) (v5 : Int32) (v7 : Int32), fX4_sweep_j70s rec f z a v1 v2 v3 v4 v5 v7 = some (r, f', z') → ∀ (H : Heap) (locs : List Loc) (ls : Array Slot), hW g A s f z H locs → lv_has ls 8 [(0, .ref a), (1, .int v1), (2, .int v2), (3, .int v3), (4, .int v4), (5, .int v5), (7, .int v7)] → W p l e (hRm 2 0 0) s m args below meth c H locs 0 0 (hZ g A below args s 0 0 (some (.int r)) f' z') (F0 m 70 ls []) := by
  obtain ⟨hx, hb, hml, hown, hts, hr, hlocks, hk⟩ := id C
  intro f z a v1 v2 v3 v4 v5 v7 h H locs ls hw hl
  unfold fX4_sweep_j70s at h
  refine lv_iload hx hb dX4_sweep_70 (lv_at hl 6 rfl) ?_
  refine lv_iload hx hb dX4_sweep_72 (lv_at hl 5 rfl) ?_
  refine lv_icmp_ge (tgt := 109) hx hb dX4_sweep_74 (by decide) (fun c15 => ?_) (fun c15 => ?_)
  · rw [if_pos c15] at h
    refine lv_aload_n hx hb dX4_sweep_109 rfl (lv_at hl 0 rfl) ?_
    refine lv_aload_n hx hb dX4_sweep_110 rfl (lv_at hl 0 rfl) ?_
    replace h := hbd h
    obtain ⟨q16, eq16, h⟩ := h
    refine hr_getQ (C := RX4) (T := TX4) (N := 9) hx hb hts iX4_sweep_X4 hown hk hw rfl 0 (by decide) (hts (.fieldLink RX4 9 "SetterBenchModel" "lies" "[I") (by decide +kernel)) (fun _ h9 => h9) eq16 dX4_sweep_111 ?_
    refine lv_iload_n hx hb dX4_sweep_114 rfl (lv_at hl 3 rfl) ?_
    replace h := hbd h
    obtain ⟨a17, rfl, h⟩ := h
    replace h := hbd h
    obtain ⟨x18, ex18, h⟩ := h
    refine hr_lI hx hb hk hw ex18 dX4_sweep_115 ?_
    replace h := hbd h
    obtain ⟨f19, ef19, h⟩ := h
    refine hr_put (C := RX4) (T := TX4) (N := 9) (ty := .int) hx hb hts iX4_sweep_X4 tyX4 tyX4_ok nmX4 hown hk hw rfl 7 (by decide) (hts (.fieldLink RX4 32 "SetterBenchModel" "keeper" "I") (by decide +kernel)) (fun _ h9 => h9) rfl (by decide +kernel) rfl rfl ef19 dX4_sweep_116 (fun H locs hw => ?_)
    refine lv_iconst (v := 0) hx hb dX4_sweep_119 (by decide) ?_
    refine lv_istore (lv' := [(7, .int 0), (0, .ref a), (1, .int v1), (2, .int v2), (3, .int v3), (4, .int v4), (5, .int v5)]) hx hb dX4_sweep_120 hl (by decide) rfl (fun ls hl => ?_)
    exact kX4_sweep_j122 C 64 _ _ _ _ _ _ _ h _ _ _ hw (lv_sub hl [1, 4, 5, 6, 0] rfl)
  · rw [if_neg c15] at h
    refine lv_aload_n hx hb dX4_sweep_77 rfl (lv_at hl 0 rfl) ?_
    replace h := hbd h
    obtain ⟨q36, eq36, h⟩ := h
    refine hr_getQ (C := RX4) (T := TX4) (N := 9) hx hb hts iX4_sweep_X4 hown hk hw rfl 5 (by decide) (hts (.fieldLink RX4 26 "SetterBenchModel" "carried" "[J") (by decide +kernel)) (fun _ h9 => h9) eq36 dX4_sweep_78 ?_
    refine lv_iload hx hb dX4_sweep_81 (lv_at hl 6 rfl) ?_
    refine lv_aload_n hx hb dX4_sweep_83 rfl (lv_at hl 0 rfl) ?_
    replace h := hbd h
    obtain ⟨q37, eq37, h⟩ := h
    refine hr_getQ (C := RX4) (T := TX4) (N := 9) hx hb hts iX4_sweep_X4 hown hk hw rfl 4 (by decide) (hts (.fieldLink RX4 22 "SetterBenchModel" "members" "[J") (by decide +kernel)) (fun _ h9 => h9) eq37 dX4_sweep_84 ?_
    refine lv_bipush (v := 40) hx hb dX4_sweep_87 (by decide) ?_
    refine lv_aload_n hx hb dX4_sweep_89 rfl (lv_at hl 0 rfl) ?_
    replace h := hbd h
    obtain ⟨q38, eq38, h⟩ := h
    refine hr_getQ (C := RX4) (T := TX4) (N := 9) hx hb hts iX4_sweep_X4 hown hk hw rfl 0 (by decide) (hts (.fieldLink RX4 9 "SetterBenchModel" "lies" "[I") (by decide +kernel)) (fun _ h9 => h9) eq38 dX4_sweep_90 ?_
    refine lv_iload_n hx hb dX4_sweep_93 rfl (lv_at hl 1 rfl) ?_
    replace h := hbd h
    obtain ⟨a39, rfl, h⟩ := h
    replace h := hbd h
    obtain ⟨x40, ex40, h⟩ := h
    refine hr_lI hx hb hk hw ex40 dX4_sweep_94 ?_
    refine lv_imul hx hb dX4_sweep_95 ?_
    refine lv_iload_n hx hb dX4_sweep_96 rfl (lv_at hl 2 rfl) ?_
    refine lv_iadd hx hb dX4_sweep_97 ?_
    refine lv_iload hx hb dX4_sweep_98 (lv_at hl 6 rfl) ?_
    refine lv_iadd hx hb dX4_sweep_100 ?_
    replace h := hbd h
    obtain ⟨a41, rfl, h⟩ := h
    replace h := hbd h
    obtain ⟨x42, ex42, h⟩ := h
    refine hr_lJ hx hb hk hw ex42 dX4_sweep_101 ?_
    replace h := hbd h
    obtain ⟨a43, rfl, h⟩ := h
    replace h := hbd h
    obtain ⟨f44, ef44, h⟩ := h
    refine hr_sJ hx hb hk hw ef44 dX4_sweep_102 (fun H locs hw => ?_)
    refine lv_iinc (v := (v7 + 1)) (lv' := [(7, .int (v7 + 1)), (0, .ref a), (1, .int v1), (2, .int v2), (3, .int v3), (4, .int v4), (5, .int v5)]) hx hb dX4_sweep_103 hl (k := 6) rfl rfl (by decide) rfl (fun ls hl => ?_)
    refine lv_goto (tgt := 70) hx hb dX4_sweep_106 (by decide) ?_
    exact hrec _ _ _ _ _ _ _ _ _ h _ _ _ hw (lv_sub hl [1, 2, 3, 4, 5, 6, 0] rfl)
def fX4_sweep_j70 (n : Nat) : hPl → Nat → Nat → Int32 → Int32 → Int32 → Int32 → Int32 → Int32 → Option (Int32 × hPl × Nat) := match n with
  | 0 => fun _ _ _ _ _ _ _ _ _ => none
  | n + 1 => fX4_sweep_j70s (fX4_sweep_j70 n)
theorem kX4_sweep_j70 {g : hGb} {p : Program} {l : Launch} {e : Env} {s : State} {m : MethodId} {args : Array Value} {below : List Frame} {meth : Method} {c : Code} {A : Nat → Prop} (C : hX g p s m args meth c RX4 cX4_sweep 8 wsX4_sweep (some .int)) {r : Int32} {f' : hPl} {z' : Nat} (n : Nat) : ∀ (f : hPl) (z : Nat) (a : Nat) (v1 : Int32) (v2 : Int32) (v3 : Int32) (v4 : Int32) (v5 : Int32) (v7 : Int32), fX4_sweep_j70 n f z a v1 v2 v3 v4 v5 v7 = some (r, f', z') → ∀ (H : Heap) (locs : List Loc) (ls : Array Slot), hW g A s f z H locs → lv_has ls 8 [(0, .ref a), (1, .int v1), (2, .int v2), (3, .int v3), (4, .int v4), (5, .int v5), (7, .int v7)] → W p l e (hRm 2 0 0) s m args below meth c H locs 0 0 (hZ g A below args s 0 0 (some (.int r)) f' z') (F0 m 70 ls []) := by
  induction n with
  | zero =>
    intro f z a v1 v2 v3 v4 v5 v7 h
    cases h
  | succ n ih => exact kX4_sweep_j70s C (fX4_sweep_j70 n) ih
def fX4_sweep (f : hPl) (z : Nat) (a : Nat) (p1 : Int32) (p2 : Int32) (p3 : Int32) (p4 : Int32) (p5 : Int32) : Option (Int32 × hPl × Nat) := (fX4_isPlace f  p1).bind fun r1 => (if r1 = 0 then some ((-1), f, z) else (fX4_isPlace f  p3).bind fun r3 => (if r3 = 0 then some ((-1), f, z) else (hob f a 3).bind fun u5 => (fX4_sortOn f a p1).bind fun r6 => (hob f a 3).bind fun u7 => (fX4_manyOn f a p1).bind fun r8 => (hob f a 3).bind fun u9 => (fX4_sortOn f a p3).bind fun r10 => (hob f a 3).bind fun u11 => (fX4_manyOn f a p3).bind fun r12 => (fX4_refusal f  r6 r8 p2 r10 r12 p4 p5).bind fun r13 => (if r13 ≤ 0 then fX4_sweep_j70 64 f z a p1 p2 p3 p4 p5 0 else (hgQ f a 3 8).bind fun q45 => q45.bind fun a46 => (hlI f a46 (1 + r13)).bind fun x47 => (hsI f a46 (1 + r13) (x47 + 1)).bind fun f48 => some (r13, f48, z))))
set_option maxHeartbeats 4000000 in
set_option maxRecDepth 100000 in
theorem kX4_sweep (l : Launch) (g : hGb) {f : hPl} {z : Nat} {a : Nat} {p1 : Int32} {p2 : Int32} {p3 : Int32} {p4 : Int32} {p5 : Int32} {r : Int32} {f' : hPl} {z' : Nat} (h : fX4_sweep f z a p1 p2 p3 p4 p5 = some (r, f', z')) : hCt l g yX4_sweep wsX4_sweep 2 0 0 [.ref a, .int p1, .int p2, .int p3, .int p4, .int p5] f z (some (.int r)) f' z' := by
  refine hCt.of (cc := cX4_sweep) (maxL := 8) (ret := (some .int)) (by decide +kernel) rfl (by exact Nat.le_of_ble_eq_true rfl) ?_
  intro p e s m below meth c C hname hw ls hl
  obtain ⟨hx, hb, hml, hown, hts, hr, hlocks, hk⟩ := id C
  have hl : lv_has ls 8 [(0, .ref a), (1, .int p1), (2, .int p2), (3, .int p3), (4, .int p4), (5, .int p5)] := hl
  have hown : s.vm.findClass RX4 = some m.cls := hown
  unfold fX4_sweep at h
  refine lv_iload_n hx hb dX4_sweep_0 rfl (lv_at hl 1 rfl) ?_
  replace h := hbd h
  obtain ⟨r1, er1, h⟩ := h
  refine hcallS (o := some (.int r1)) hx hb hml hown hts hk [.int p1] [] (kX4_isPlace l g er1) gX4_sweep_X4_isPlace rfl (n := 1) rfl (by decide +kernel) ⟨Nat.le_of_ble_eq_true rfl, Nat.le_of_ble_eq_true rfl⟩ hw hl.1 rfl (Nat.le_of_ble_eq_true rfl) dX4_sweep_1 ⟨Nat.le_of_ble_eq_true rfl, Nat.le_of_ble_eq_true rfl⟩ (fun H locs hw => ?_)
  refine W.eq (g2 := F0 m 4 ls [.int r1]) rfl ?_
  refine lv_if_eq (tgt := 14) hx hb dX4_sweep_4 (by decide) (fun c2 => ?_) (fun c2 => ?_)
  · rw [if_pos c2] at h
    refine lv_iconst (v := (-1)) hx hb dX4_sweep_14 (by decide) ?_
    cases h
    exact hret_i hx hb hr hlocks hw dX4_sweep_15
  · rw [if_neg c2] at h
    refine lv_iload_n hx hb dX4_sweep_7 rfl (lv_at hl 3 rfl) ?_
    replace h := hbd h
    obtain ⟨r3, er3, h⟩ := h
    refine hcallS (o := some (.int r3)) hx hb hml hown hts hk [.int p3] [] (kX4_isPlace l g er3) gX4_sweep_X4_isPlace rfl (n := 1) rfl (by decide +kernel) ⟨Nat.le_of_ble_eq_true rfl, Nat.le_of_ble_eq_true rfl⟩ hw hl.1 rfl (Nat.le_of_ble_eq_true rfl) dX4_sweep_8 ⟨Nat.le_of_ble_eq_true rfl, Nat.le_of_ble_eq_true rfl⟩ (fun H locs hw => ?_)
    refine W.eq (g2 := F0 m 11 ls [.int r3]) rfl ?_
    refine lv_if_ne (tgt := 16) hx hb dX4_sweep_11 (by decide) (fun c4 => ?_) (fun c4 => ?_)
    · rw [if_neg c4] at h
      refine lv_aload_n hx hb dX4_sweep_16 rfl (lv_at hl 0 rfl) ?_
      refine lv_iload_n hx hb dX4_sweep_17 rfl (lv_at hl 1 rfl) ?_
      replace h := hbd h
      obtain ⟨u5, eu5, h⟩ := h
      replace h := hbd h
      obtain ⟨r6, er6, h⟩ := h
      refine hcallV (o := some (.int r6)) hx hb hml hown hts hk [.int p1] [] (kX4_sortOn l g er6) gX4_sweep_X4_sortOn rfl (n := 1) rfl (by decide +kernel) ⟨Nat.le_of_ble_eq_true rfl, Nat.le_of_ble_eq_true rfl⟩ (ci := 3) rfl eu5 hw hl.1 rfl (Nat.le_of_ble_eq_true rfl) dX4_sweep_18 ⟨Nat.le_of_ble_eq_true rfl, Nat.le_of_ble_eq_true rfl⟩ (fun H locs hw => ?_)
      refine W.eq (g2 := F0 m 21 ls [.int r6]) rfl ?_
      refine lv_aload_n hx hb dX4_sweep_21 rfl (lv_at hl 0 rfl) ?_
      refine lv_iload_n hx hb dX4_sweep_22 rfl (lv_at hl 1 rfl) ?_
      replace h := hbd h
      obtain ⟨u7, eu7, h⟩ := h
      replace h := hbd h
      obtain ⟨r8, er8, h⟩ := h
      refine hcallV (o := some (.int r8)) hx hb hml hown hts hk [.int p1] [.int r6] (kX4_manyOn l g er8) gX4_sweep_X4_manyOn rfl (n := 1) rfl (by decide +kernel) ⟨Nat.le_of_ble_eq_true rfl, Nat.le_of_ble_eq_true rfl⟩ (ci := 3) rfl eu7 hw hl.1 rfl (Nat.le_of_ble_eq_true rfl) dX4_sweep_23 ⟨Nat.le_of_ble_eq_true rfl, Nat.le_of_ble_eq_true rfl⟩ (fun H locs hw => ?_)
      refine W.eq (g2 := F0 m 26 ls [.int r8, .int r6]) rfl ?_
      refine lv_iload_n hx hb dX4_sweep_26 rfl (lv_at hl 2 rfl) ?_
      refine lv_aload_n hx hb dX4_sweep_27 rfl (lv_at hl 0 rfl) ?_
      refine lv_iload_n hx hb dX4_sweep_28 rfl (lv_at hl 3 rfl) ?_
      replace h := hbd h
      obtain ⟨u9, eu9, h⟩ := h
      replace h := hbd h
      obtain ⟨r10, er10, h⟩ := h
      refine hcallV (o := some (.int r10)) hx hb hml hown hts hk [.int p3] [.int p2, .int r8, .int r6] (kX4_sortOn l g er10) gX4_sweep_X4_sortOn rfl (n := 1) rfl (by decide +kernel) ⟨Nat.le_of_ble_eq_true rfl, Nat.le_of_ble_eq_true rfl⟩ (ci := 3) rfl eu9 hw hl.1 rfl (Nat.le_of_ble_eq_true rfl) dX4_sweep_29 ⟨Nat.le_of_ble_eq_true rfl, Nat.le_of_ble_eq_true rfl⟩ (fun H locs hw => ?_)
      refine W.eq (g2 := F0 m 32 ls [.int r10, .int p2, .int r8, .int r6]) rfl ?_
      refine lv_aload_n hx hb dX4_sweep_32 rfl (lv_at hl 0 rfl) ?_
      refine lv_iload_n hx hb dX4_sweep_33 rfl (lv_at hl 3 rfl) ?_
      replace h := hbd h
      obtain ⟨u11, eu11, h⟩ := h
      replace h := hbd h
      obtain ⟨r12, er12, h⟩ := h
      refine hcallV (o := some (.int r12)) hx hb hml hown hts hk [.int p3] [.int r10, .int p2, .int r8, .int r6] (kX4_manyOn l g er12) gX4_sweep_X4_manyOn rfl (n := 1) rfl (by decide +kernel) ⟨Nat.le_of_ble_eq_true rfl, Nat.le_of_ble_eq_true rfl⟩ (ci := 3) rfl eu11 hw hl.1 rfl (Nat.le_of_ble_eq_true rfl) dX4_sweep_34 ⟨Nat.le_of_ble_eq_true rfl, Nat.le_of_ble_eq_true rfl⟩ (fun H locs hw => ?_)
      refine W.eq (g2 := F0 m 37 ls [.int r12, .int r10, .int p2, .int r8, .int r6]) rfl ?_
      refine lv_iload hx hb dX4_sweep_37 (lv_at hl 4 rfl) ?_
      refine lv_iload hx hb dX4_sweep_39 (lv_at hl 5 rfl) ?_
      replace h := hbd h
      obtain ⟨r13, er13, h⟩ := h
      refine hcallS (o := some (.int r13)) hx hb hml hown hts hk [.int r6, .int r8, .int p2, .int r10, .int r12, .int p4, .int p5] [] (kX4_refusal l g er13) gX4_sweep_X4_refusal rfl (n := 7) rfl (by decide +kernel) ⟨Nat.le_of_ble_eq_true rfl, Nat.le_of_ble_eq_true rfl⟩ hw hl.1 rfl (Nat.le_of_ble_eq_true rfl) dX4_sweep_41 ⟨Nat.le_of_ble_eq_true rfl, Nat.le_of_ble_eq_true rfl⟩ (fun H locs hw => ?_)
      refine W.eq (g2 := F0 m 44 ls [.int r13]) rfl ?_
      refine lv_istore (lv' := [(6, .int r13), (0, .ref a), (1, .int p1), (2, .int p2), (3, .int p3), (4, .int p4), (5, .int p5)]) hx hb dX4_sweep_44 hl (by decide) rfl (fun ls hl => ?_)
      refine lv_iload hx hb dX4_sweep_46 (lv_at hl 0 rfl) ?_
      refine lv_if_le (tgt := 67) hx hb dX4_sweep_48 (by decide) (fun c14 => ?_) (fun c14 => ?_)
      · rw [if_pos c14] at h
        refine lv_iconst (v := 0) hx hb dX4_sweep_67 (by decide) ?_
        refine lv_istore (lv' := [(7, .int 0), (6, .int r13), (0, .ref a), (1, .int p1), (2, .int p2), (3, .int p3), (4, .int p4), (5, .int p5)]) hx hb dX4_sweep_68 hl (by decide) rfl (fun ls hl => ?_)
        exact kX4_sweep_j70 C 64 _ _ _ _ _ _ _ _ _ h _ _ _ hw (lv_sub hl [2, 3, 4, 5, 6, 7, 0] rfl)
      · rw [if_neg c14] at h
        refine lv_aload_n hx hb dX4_sweep_51 rfl (lv_at hl 1 rfl) ?_
        replace h := hbd h
        obtain ⟨q45, eq45, h⟩ := h
        refine hr_getQ (C := RX4) (T := TX4) (N := 9) hx hb hts iX4_sweep_X4 hown hk hw rfl 8 (by decide) (hts (.fieldLink RX4 36 "SetterBenchModel" "counts" "[I") (by decide +kernel)) (fun _ h9 => h9) eq45 dX4_sweep_52 ?_
        refine lv_iconst (v := 1) hx hb dX4_sweep_55 (by decide) ?_
        refine lv_iload hx hb dX4_sweep_56 (lv_at hl 0 rfl) ?_
        refine lv_iadd hx hb dX4_sweep_58 ?_
        refine lv_dup2_11 hx hb dX4_sweep_59 rfl (by cases q45 <;> rfl) ?_
        replace h := hbd h
        obtain ⟨a46, rfl, h⟩ := h
        replace h := hbd h
        obtain ⟨x47, ex47, h⟩ := h
        refine hr_lI hx hb hk hw ex47 dX4_sweep_60 ?_
        refine lv_iconst (v := 1) hx hb dX4_sweep_61 (by decide) ?_
        refine lv_iadd hx hb dX4_sweep_62 ?_
        replace h := hbd h
        obtain ⟨f48, ef48, h⟩ := h
        refine hr_sI hx hb hk hw ef48 dX4_sweep_63 (fun H locs hw => ?_)
        refine lv_iload hx hb dX4_sweep_64 (lv_at hl 0 rfl) ?_
        cases h
        exact hret_i hx hb hr hlocks hw dX4_sweep_66
    · rw [if_pos c4] at h
      refine lv_iconst (v := (-1)) hx hb dX4_sweep_14 (by decide) ?_
      cases h
      exact hret_i hx hb hr hlocks hw dX4_sweep_15
theorem iX4_back_X4 : ∀ w ∈ wsX40, w ∈ wsX4_back := by decide +kernel
def fX4_back_j22s (rec : hPl → Nat → Nat → Int32 → Int32 → Option (Int32 × hPl × Nat)) (f : hPl) (z : Nat) (a : Nat) (v1 : Int32) (v2 : Int32) : Option (Int32 × hPl × Nat) := (if v1 ≤ v2 then (hput f a 3 7 (.int (-1))).bind fun f8 => some (v1, f8, z) else (hgQ f a 3 4).bind fun q9 => (hgI f a 3 7).bind fun x10 => (hgQ f a 3 6).bind fun q11 => q11.bind fun a12 => (hlJ f a12 v2).bind fun x13 => q9.bind fun a14 => (hsJ f a14 ((40 * x10) + v2) x13).bind fun f15 => rec f15 z a v1 (v2 + 1))
set_option maxHeartbeats 4000000 in
set_option maxRecDepth 100000 in
theorem kX4_back_j22s {g : hGb} {p : Program} {l : Launch} {e : Env} {s : State} {m : MethodId} {args : Array Value} {below : List Frame} {meth : Method} {c : Code} {A : Nat → Prop} (C : hX g p s m args meth c RX4 cX4_back 3 wsX4_back (some .int)) {r : Int32} {f' : hPl} {z' : Nat} (rec : hPl → Nat → Nat → Int32 → Int32 → Option (Int32 × hPl × Nat)) (hrec : ∀ (f : hPl) (z : Nat) (a : Nat) (v1 : Int32) (v2 : Int32), rec f z a v1 v2 = some (r, f', z') → ∀ (H : Heap) (locs : List Loc) (ls : Array Slot), hW g A s f z H locs → lv_has ls 3 [(0, .ref a), (1, .int v1), (2, .int v2)] → W p l e (hRm 0 0 0) s m args below meth c H locs 0 0 (hZ g A below args s 0 0 (some (.int r)) f' z') (F0 m 22 ls []))  : ∀ (f : hPl) (z : Nat) (a : Nat) (v1 : Int32) (v2 : Int32), fX4_back_j22s rec f z a v1 v2 = some (r, f', z') → ∀ (H : Heap) (locs : List Loc) (ls : Array Slot), hW g A s f z H locs → lv_has ls 3 [(0, .ref a), (1, .int v1), (2, .int v2)] → W p l e (hRm 0 0 0) s m args below meth c H locs 0 0 (hZ g A below args s 0 0 (some (.int r)) f' z') (F0 m 22 ls []) := by
  obtain ⟨hx, hb, hml, hown, hts, hr, hlocks, hk⟩ := id C
  intro f z a v1 v2 h H locs ls hw hl
  unfold fX4_back_j22s at h
  refine lv_iload_n hx hb dX4_back_22 rfl (lv_at hl 2 rfl) ?_
  refine lv_iload_n hx hb dX4_back_23 rfl (lv_at hl 1 rfl) ?_
  refine lv_icmp_ge (tgt := 53) hx hb dX4_back_24 (by decide) (fun c7 => ?_) (fun c7 => ?_)
  · rw [if_pos c7] at h
    refine lv_aload_n hx hb dX4_back_53 rfl (lv_at hl 0 rfl) ?_
    refine lv_iconst (v := (-1)) hx hb dX4_back_54 (by decide) ?_
    replace h := hbd h
    obtain ⟨f8, ef8, h⟩ := h
    refine hr_put (C := RX4) (T := TX4) (N := 9) (ty := .int) hx hb hts iX4_back_X4 tyX4 tyX4_ok nmX4 hown hk hw rfl 7 (by decide) (hts (.fieldLink RX4 32 "SetterBenchModel" "keeper" "I") (by decide +kernel)) (fun _ h9 => h9) rfl (by decide +kernel) rfl rfl ef8 dX4_back_55 (fun H locs hw => ?_)
    refine lv_iload_n hx hb dX4_back_58 rfl (lv_at hl 1 rfl) ?_
    cases h
    exact hret_i hx hb hr hlocks hw dX4_back_59
  · rw [if_neg c7] at h
    refine lv_aload_n hx hb dX4_back_27 rfl (lv_at hl 0 rfl) ?_
    replace h := hbd h
    obtain ⟨q9, eq9, h⟩ := h
    refine hr_getQ (C := RX4) (T := TX4) (N := 9) hx hb hts iX4_back_X4 hown hk hw rfl 4 (by decide) (hts (.fieldLink RX4 22 "SetterBenchModel" "members" "[J") (by decide +kernel)) (fun _ h9 => h9) eq9 dX4_back_28 ?_
    refine lv_bipush (v := 40) hx hb dX4_back_31 (by decide) ?_
    refine lv_aload_n hx hb dX4_back_33 rfl (lv_at hl 0 rfl) ?_
    replace h := hbd h
    obtain ⟨x10, ex10, h⟩ := h
    refine hr_getI (C := RX4) (T := TX4) (N := 9) hx hb hts iX4_back_X4 hown hk hw rfl 7 (by decide) (hts (.fieldLink RX4 32 "SetterBenchModel" "keeper" "I") (by decide +kernel)) (fun _ h9 => h9) ex10 dX4_back_34 ?_
    refine lv_imul hx hb dX4_back_37 ?_
    refine lv_iload_n hx hb dX4_back_38 rfl (lv_at hl 2 rfl) ?_
    refine lv_iadd hx hb dX4_back_39 ?_
    refine lv_aload_n hx hb dX4_back_40 rfl (lv_at hl 0 rfl) ?_
    replace h := hbd h
    obtain ⟨q11, eq11, h⟩ := h
    refine hr_getQ (C := RX4) (T := TX4) (N := 9) hx hb hts iX4_back_X4 hown hk hw rfl 6 (by decide) (hts (.fieldLink RX4 29 "SetterBenchModel" "kept" "[J") (by decide +kernel)) (fun _ h9 => h9) eq11 dX4_back_41 ?_
    refine lv_iload_n hx hb dX4_back_44 rfl (lv_at hl 2 rfl) ?_
    replace h := hbd h
    obtain ⟨a12, rfl, h⟩ := h
    replace h := hbd h
    obtain ⟨x13, ex13, h⟩ := h
    refine hr_lJ hx hb hk hw ex13 dX4_back_45 ?_
    replace h := hbd h
    obtain ⟨a14, rfl, h⟩ := h
    replace h := hbd h
    obtain ⟨f15, ef15, h⟩ := h
    refine hr_sJ hx hb hk hw ef15 dX4_back_46 (fun H locs hw => ?_)
    refine lv_iinc (v := (v2 + 1)) (lv' := [(2, .int (v2 + 1)), (0, .ref a), (1, .int v1)]) hx hb dX4_back_47 hl (k := 2) rfl rfl (by decide) rfl (fun ls hl => ?_)
    refine lv_goto (tgt := 22) hx hb dX4_back_50 (by decide) ?_
    exact hrec _ _ _ _ _ h _ _ _ hw (lv_sub hl [1, 2, 0] rfl)
def fX4_back_j22 (n : Nat) : hPl → Nat → Nat → Int32 → Int32 → Option (Int32 × hPl × Nat) := match n with
  | 0 => fun _ _ _ _ _ => none
  | n + 1 => fX4_back_j22s (fX4_back_j22 n)
theorem kX4_back_j22 {g : hGb} {p : Program} {l : Launch} {e : Env} {s : State} {m : MethodId} {args : Array Value} {below : List Frame} {meth : Method} {c : Code} {A : Nat → Prop} (C : hX g p s m args meth c RX4 cX4_back 3 wsX4_back (some .int)) {r : Int32} {f' : hPl} {z' : Nat} (n : Nat) : ∀ (f : hPl) (z : Nat) (a : Nat) (v1 : Int32) (v2 : Int32), fX4_back_j22 n f z a v1 v2 = some (r, f', z') → ∀ (H : Heap) (locs : List Loc) (ls : Array Slot), hW g A s f z H locs → lv_has ls 3 [(0, .ref a), (1, .int v1), (2, .int v2)] → W p l e (hRm 0 0 0) s m args below meth c H locs 0 0 (hZ g A below args s 0 0 (some (.int r)) f' z') (F0 m 22 ls []) := by
  induction n with
  | zero =>
    intro f z a v1 v2 h
    cases h
  | succ n ih => exact kX4_back_j22s C (fX4_back_j22 n) ih
def fX4_back (f : hPl) (z : Nat) (a : Nat) : Option (Int32 × hPl × Nat) := (hgI f a 3 7).bind fun x1 => (if x1 = (-1) then some ((-1), f, z) else (hgQ f a 3 2).bind fun q3 => (hgI f a 3 7).bind fun x4 => q3.bind fun a5 => (hlI f a5 x4).bind fun x6 => fX4_back_j22 64 f z a x6 0)
set_option maxHeartbeats 4000000 in
set_option maxRecDepth 100000 in
theorem kX4_back (l : Launch) (g : hGb) {f : hPl} {z : Nat} {a : Nat} {r : Int32} {f' : hPl} {z' : Nat} (h : fX4_back f z a = some (r, f', z')) : hCt l g yX4_back wsX4_back 0 0 0 [.ref a] f z (some (.int r)) f' z' := by
  refine hCt.of (cc := cX4_back) (maxL := 3) (ret := (some .int)) (by decide +kernel) rfl (by exact Nat.le_of_ble_eq_true rfl) ?_
  intro p e s m below meth c C hname hw ls hl
  obtain ⟨hx, hb, hml, hown, hts, hr, hlocks, hk⟩ := id C
  have hl : lv_has ls 3 [(0, .ref a)] := hl
  have hown : s.vm.findClass RX4 = some m.cls := hown
  unfold fX4_back at h
  refine lv_aload_n hx hb dX4_back_0 rfl (lv_at hl 0 rfl) ?_
  replace h := hbd h
  obtain ⟨x1, ex1, h⟩ := h
  refine hr_getI (C := RX4) (T := TX4) (N := 9) hx hb hts iX4_back_X4 hown hk hw rfl 7 (by decide) (hts (.fieldLink RX4 32 "SetterBenchModel" "keeper" "I") (by decide +kernel)) (fun _ h9 => h9) ex1 dX4_back_1 ?_
  refine lv_iconst (v := (-1)) hx hb dX4_back_4 (by decide) ?_
  refine lv_icmp_ne (tgt := 10) hx hb dX4_back_5 (by decide) (fun c2 => ?_) (fun c2 => ?_)
  · rw [if_neg c2] at h
    refine lv_aload_n hx hb dX4_back_10 rfl (lv_at hl 0 rfl) ?_
    replace h := hbd h
    obtain ⟨q3, eq3, h⟩ := h
    refine hr_getQ (C := RX4) (T := TX4) (N := 9) hx hb hts iX4_back_X4 hown hk hw rfl 2 (by decide) (hts (.fieldLink RX4 16 "SetterBenchModel" "many" "[I") (by decide +kernel)) (fun _ h9 => h9) eq3 dX4_back_11 ?_
    refine lv_aload_n hx hb dX4_back_14 rfl (lv_at hl 0 rfl) ?_
    replace h := hbd h
    obtain ⟨x4, ex4, h⟩ := h
    refine hr_getI (C := RX4) (T := TX4) (N := 9) hx hb hts iX4_back_X4 hown hk hw rfl 7 (by decide) (hts (.fieldLink RX4 32 "SetterBenchModel" "keeper" "I") (by decide +kernel)) (fun _ h9 => h9) ex4 dX4_back_15 ?_
    replace h := hbd h
    obtain ⟨a5, rfl, h⟩ := h
    replace h := hbd h
    obtain ⟨x6, ex6, h⟩ := h
    refine hr_lI hx hb hk hw ex6 dX4_back_18 ?_
    refine lv_istore_n (lv' := [(1, .int x6), (0, .ref a)]) hx hb dX4_back_19 rfl hl (by decide) rfl (fun ls hl => ?_)
    refine lv_iconst (v := 0) hx hb dX4_back_20 (by decide) ?_
    refine lv_istore_n (lv' := [(2, .int 0), (1, .int x6), (0, .ref a)]) hx hb dX4_back_21 rfl hl (by decide) rfl (fun ls hl => ?_)
    exact kX4_back_j22 C 64 _ _ _ _ _ h _ _ _ hw (lv_sub hl [2, 1, 0] rfl)
  · rw [if_pos c2] at h
    refine lv_iconst (v := (-1)) hx hb dX4_back_8 (by decide) ?_
    cases h
    exact hret_i hx hb hr hlocks hw dX4_back_9
theorem iX4_light_X4 : ∀ w ∈ wsX40, w ∈ wsX4_light := by decide +kernel
def fX4_light (f : hPl) (z : Nat) (a : Nat) (p1 : Int32) : Option (Int32 × hPl × Nat) := (fX4_isPlace f  p1).bind fun r1 => (if r1 = 0 then some ((-1), f, z) else (hob f a 3).bind fun u3 => (fX4_sortOn f a p1).bind fun r4 => (if r4 = 1 then (hgQ f a 3 3).bind fun q6 => (hgQ f a 3 0).bind fun q7 => q7.bind fun a8 => (hlI f a8 p1).bind fun x9 => q6.bind fun a10 => (hlI f a10 x9).bind fun x11 => (hsI f a10 x9 (x11 + 1)).bind fun f12 => (hgQ f12 a 3 3).bind fun q13 => (hgQ f12 a 3 0).bind fun q14 => q14.bind fun a15 => (hlI f12 a15 p1).bind fun x16 => q13.bind fun a17 => (hlI f12 a17 x16).bind fun x18 => some (x18, f12, z) else some ((-1), f, z)))
set_option maxHeartbeats 4000000 in
set_option maxRecDepth 100000 in
theorem kX4_light (l : Launch) (g : hGb) {f : hPl} {z : Nat} {a : Nat} {p1 : Int32} {r : Int32} {f' : hPl} {z' : Nat} (h : fX4_light f z a p1 = some (r, f', z')) : hCt l g yX4_light wsX4_light 1 0 0 [.ref a, .int p1] f z (some (.int r)) f' z' := by
  refine hCt.of (cc := cX4_light) (maxL := 2) (ret := (some .int)) (by decide +kernel) rfl (by exact Nat.le_of_ble_eq_true rfl) ?_
  intro p e s m below meth c C hname hw ls hl
  obtain ⟨hx, hb, hml, hown, hts, hr, hlocks, hk⟩ := id C
  have hl : lv_has ls 2 [(0, .ref a), (1, .int p1)] := hl
  have hown : s.vm.findClass RX4 = some m.cls := hown
  unfold fX4_light at h
  refine lv_iload_n hx hb dX4_light_0 rfl (lv_at hl 1 rfl) ?_
  replace h := hbd h
  obtain ⟨r1, er1, h⟩ := h
  refine hcallS (o := some (.int r1)) hx hb hml hown hts hk [.int p1] [] (kX4_isPlace l g er1) gX4_light_X4_isPlace rfl (n := 1) rfl (by decide +kernel) ⟨Nat.le_of_ble_eq_true rfl, Nat.le_of_ble_eq_true rfl⟩ hw hl.1 rfl (Nat.le_of_ble_eq_true rfl) dX4_light_1 ⟨Nat.le_of_ble_eq_true rfl, Nat.le_of_ble_eq_true rfl⟩ (fun H locs hw => ?_)
  refine W.eq (g2 := F0 m 4 ls [.int r1]) rfl ?_
  refine lv_if_eq (tgt := 16) hx hb dX4_light_4 (by decide) (fun c2 => ?_) (fun c2 => ?_)
  · rw [if_pos c2] at h
    refine lv_iconst (v := (-1)) hx hb dX4_light_16 (by decide) ?_
    cases h
    exact hret_i hx hb hr hlocks hw dX4_light_17
  · rw [if_neg c2] at h
    refine lv_aload_n hx hb dX4_light_7 rfl (lv_at hl 0 rfl) ?_
    refine lv_iload_n hx hb dX4_light_8 rfl (lv_at hl 1 rfl) ?_
    replace h := hbd h
    obtain ⟨u3, eu3, h⟩ := h
    replace h := hbd h
    obtain ⟨r4, er4, h⟩ := h
    refine hcallV (o := some (.int r4)) hx hb hml hown hts hk [.int p1] [] (kX4_sortOn l g er4) gX4_light_X4_sortOn rfl (n := 1) rfl (by decide +kernel) ⟨Nat.le_of_ble_eq_true rfl, Nat.le_of_ble_eq_true rfl⟩ (ci := 3) rfl eu3 hw hl.1 rfl (Nat.le_of_ble_eq_true rfl) dX4_light_9 ⟨Nat.le_of_ble_eq_true rfl, Nat.le_of_ble_eq_true rfl⟩ (fun H locs hw => ?_)
    refine W.eq (g2 := F0 m 12 ls [.int r4]) rfl ?_
    refine lv_iconst (v := 1) hx hb dX4_light_12 (by decide) ?_
    refine lv_icmp_eq (tgt := 18) hx hb dX4_light_13 (by decide) (fun c5 => ?_) (fun c5 => ?_)
    · rw [if_pos c5] at h
      refine lv_aload_n hx hb dX4_light_18 rfl (lv_at hl 0 rfl) ?_
      replace h := hbd h
      obtain ⟨q6, eq6, h⟩ := h
      refine hr_getQ (C := RX4) (T := TX4) (N := 9) hx hb hts iX4_light_X4 hown hk hw rfl 3 (by decide) (hts (.fieldLink RX4 19 "SetterBenchModel" "lit" "[I") (by decide +kernel)) (fun _ h9 => h9) eq6 dX4_light_19 ?_
      refine lv_aload_n hx hb dX4_light_22 rfl (lv_at hl 0 rfl) ?_
      replace h := hbd h
      obtain ⟨q7, eq7, h⟩ := h
      refine hr_getQ (C := RX4) (T := TX4) (N := 9) hx hb hts iX4_light_X4 hown hk hw rfl 0 (by decide) (hts (.fieldLink RX4 9 "SetterBenchModel" "lies" "[I") (by decide +kernel)) (fun _ h9 => h9) eq7 dX4_light_23 ?_
      refine lv_iload_n hx hb dX4_light_26 rfl (lv_at hl 1 rfl) ?_
      replace h := hbd h
      obtain ⟨a8, rfl, h⟩ := h
      replace h := hbd h
      obtain ⟨x9, ex9, h⟩ := h
      refine hr_lI hx hb hk hw ex9 dX4_light_27 ?_
      refine lv_dup2_11 hx hb dX4_light_28 rfl (by cases q6 <;> rfl) ?_
      replace h := hbd h
      obtain ⟨a10, rfl, h⟩ := h
      replace h := hbd h
      obtain ⟨x11, ex11, h⟩ := h
      refine hr_lI hx hb hk hw ex11 dX4_light_29 ?_
      refine lv_iconst (v := 1) hx hb dX4_light_30 (by decide) ?_
      refine lv_iadd hx hb dX4_light_31 ?_
      replace h := hbd h
      obtain ⟨f12, ef12, h⟩ := h
      refine hr_sI hx hb hk hw ef12 dX4_light_32 (fun H locs hw => ?_)
      refine lv_aload_n hx hb dX4_light_33 rfl (lv_at hl 0 rfl) ?_
      replace h := hbd h
      obtain ⟨q13, eq13, h⟩ := h
      refine hr_getQ (C := RX4) (T := TX4) (N := 9) hx hb hts iX4_light_X4 hown hk hw rfl 3 (by decide) (hts (.fieldLink RX4 19 "SetterBenchModel" "lit" "[I") (by decide +kernel)) (fun _ h9 => h9) eq13 dX4_light_34 ?_
      refine lv_aload_n hx hb dX4_light_37 rfl (lv_at hl 0 rfl) ?_
      replace h := hbd h
      obtain ⟨q14, eq14, h⟩ := h
      refine hr_getQ (C := RX4) (T := TX4) (N := 9) hx hb hts iX4_light_X4 hown hk hw rfl 0 (by decide) (hts (.fieldLink RX4 9 "SetterBenchModel" "lies" "[I") (by decide +kernel)) (fun _ h9 => h9) eq14 dX4_light_38 ?_
      refine lv_iload_n hx hb dX4_light_41 rfl (lv_at hl 1 rfl) ?_
      replace h := hbd h
      obtain ⟨a15, rfl, h⟩ := h
      replace h := hbd h
      obtain ⟨x16, ex16, h⟩ := h
      refine hr_lI hx hb hk hw ex16 dX4_light_42 ?_
      replace h := hbd h
      obtain ⟨a17, rfl, h⟩ := h
      replace h := hbd h
      obtain ⟨x18, ex18, h⟩ := h
      refine hr_lI hx hb hk hw ex18 dX4_light_43 ?_
      cases h
      exact hret_i hx hb hr hlocks hw dX4_light_44
    · rw [if_neg c5] at h
      refine lv_iconst (v := (-1)) hx hb dX4_light_16 (by decide) ?_
      cases h
      exact hret_i hx hb hr hlocks hw dX4_light_17
theorem iX4_member_X4 : ∀ w ∈ wsX40, w ∈ wsX4_member := by decide +kernel
def fX4_member (f : hPl) (a : Nat) (p1 : Int32) (p2 : Int32) : Option Int64 := (fX4_isPlace f  p1).bind fun r1 => (if r1 = 0 then some (-1 : Int64) else (if p2 < 0 then some (-1 : Int64) else (hob f a 3).bind fun u4 => (fX4_manyOn f a p1).bind fun r5 => (if p2 < r5 then (hgQ f a 3 4).bind fun q7 => (hgQ f a 3 0).bind fun q8 => q8.bind fun a9 => (hlI f a9 p1).bind fun x10 => q7.bind fun a11 => (hlJ f a11 ((40 * x10) + p2)).bind fun x12 => some x12 else some (-1 : Int64))))
set_option maxHeartbeats 4000000 in
set_option maxRecDepth 100000 in
theorem kX4_member (l : Launch) (g : hGb) {f : hPl} {z : Nat} {a : Nat} {p1 : Int32} {p2 : Int32} {r : Int64} (h : fX4_member f a p1 p2 = some r) : hCt l g yX4_member wsX4_member 1 0 0 [.ref a, .int p1, .int p2] f z (some (.long r)) f z := by
  refine hCt.of (cc := cX4_member) (maxL := 3) (ret := (some .long)) (by decide +kernel) rfl (by exact Nat.le_of_ble_eq_true rfl) ?_
  intro p e s m below meth c C hname hw ls hl
  obtain ⟨hx, hb, hml, hown, hts, hr, hlocks, hk⟩ := id C
  have hl : lv_has ls 3 [(0, .ref a), (1, .int p1), (2, .int p2)] := hl
  have hown : s.vm.findClass RX4 = some m.cls := hown
  unfold fX4_member at h
  refine lv_iload_n hx hb dX4_member_0 rfl (lv_at hl 1 rfl) ?_
  replace h := hbd h
  obtain ⟨r1, er1, h⟩ := h
  refine hcallS (o := some (.int r1)) hx hb hml hown hts hk [.int p1] [] (kX4_isPlace l g er1) gX4_member_X4_isPlace rfl (n := 1) rfl (by decide +kernel) ⟨Nat.le_of_ble_eq_true rfl, Nat.le_of_ble_eq_true rfl⟩ hw hl.1 rfl (Nat.le_of_ble_eq_true rfl) dX4_member_1 ⟨Nat.le_of_ble_eq_true rfl, Nat.le_of_ble_eq_true rfl⟩ (fun H locs hw => ?_)
  refine W.eq (g2 := F0 m 4 ls [.int r1]) rfl ?_
  refine lv_if_eq (tgt := 20) hx hb dX4_member_4 (by decide) (fun c2 => ?_) (fun c2 => ?_)
  · rw [if_pos c2] at h
    refine lv_ldc2 (v := (-1)) hx hb hown (hts (.constantLong RX4 78 (-1)) (by decide +kernel)) dX4_member_20 ?_
    cases h
    exact hret_l hx hb hr hlocks hw dX4_member_23
  · rw [if_neg c2] at h
    refine lv_iload_n hx hb dX4_member_7 rfl (lv_at hl 2 rfl) ?_
    refine lv_if_lt (tgt := 20) hx hb dX4_member_8 (by decide) (fun c3 => ?_) (fun c3 => ?_)
    · rw [if_pos c3] at h
      refine lv_ldc2 (v := (-1)) hx hb hown (hts (.constantLong RX4 78 (-1)) (by decide +kernel)) dX4_member_20 ?_
      cases h
      exact hret_l hx hb hr hlocks hw dX4_member_23
    · rw [if_neg c3] at h
      refine lv_iload_n hx hb dX4_member_11 rfl (lv_at hl 2 rfl) ?_
      refine lv_aload_n hx hb dX4_member_12 rfl (lv_at hl 0 rfl) ?_
      refine lv_iload_n hx hb dX4_member_13 rfl (lv_at hl 1 rfl) ?_
      replace h := hbd h
      obtain ⟨u4, eu4, h⟩ := h
      replace h := hbd h
      obtain ⟨r5, er5, h⟩ := h
      refine hcallV (o := some (.int r5)) hx hb hml hown hts hk [.int p1] [.int p2] (kX4_manyOn l g er5) gX4_member_X4_manyOn rfl (n := 1) rfl (by decide +kernel) ⟨Nat.le_of_ble_eq_true rfl, Nat.le_of_ble_eq_true rfl⟩ (ci := 3) rfl eu4 hw hl.1 rfl (Nat.le_of_ble_eq_true rfl) dX4_member_14 ⟨Nat.le_of_ble_eq_true rfl, Nat.le_of_ble_eq_true rfl⟩ (fun H locs hw => ?_)
      refine W.eq (g2 := F0 m 17 ls [.int r5, .int p2]) rfl ?_
      refine lv_icmp_lt (tgt := 24) hx hb dX4_member_17 (by decide) (fun c6 => ?_) (fun c6 => ?_)
      · rw [if_pos c6] at h
        refine lv_aload_n hx hb dX4_member_24 rfl (lv_at hl 0 rfl) ?_
        replace h := hbd h
        obtain ⟨q7, eq7, h⟩ := h
        refine hr_getQ (C := RX4) (T := TX4) (N := 9) hx hb hts iX4_member_X4 hown hk hw rfl 4 (by decide) (hts (.fieldLink RX4 22 "SetterBenchModel" "members" "[J") (by decide +kernel)) (fun _ h9 => h9) eq7 dX4_member_25 ?_
        refine lv_bipush (v := 40) hx hb dX4_member_28 (by decide) ?_
        refine lv_aload_n hx hb dX4_member_30 rfl (lv_at hl 0 rfl) ?_
        replace h := hbd h
        obtain ⟨q8, eq8, h⟩ := h
        refine hr_getQ (C := RX4) (T := TX4) (N := 9) hx hb hts iX4_member_X4 hown hk hw rfl 0 (by decide) (hts (.fieldLink RX4 9 "SetterBenchModel" "lies" "[I") (by decide +kernel)) (fun _ h9 => h9) eq8 dX4_member_31 ?_
        refine lv_iload_n hx hb dX4_member_34 rfl (lv_at hl 1 rfl) ?_
        replace h := hbd h
        obtain ⟨a9, rfl, h⟩ := h
        replace h := hbd h
        obtain ⟨x10, ex10, h⟩ := h
        refine hr_lI hx hb hk hw ex10 dX4_member_35 ?_
        refine lv_imul hx hb dX4_member_36 ?_
        refine lv_iload_n hx hb dX4_member_37 rfl (lv_at hl 2 rfl) ?_
        refine lv_iadd hx hb dX4_member_38 ?_
        replace h := hbd h
        obtain ⟨a11, rfl, h⟩ := h
        replace h := hbd h
        obtain ⟨x12, ex12, h⟩ := h
        refine hr_lJ hx hb hk hw ex12 dX4_member_39 ?_
        cases h
        exact hret_l hx hb hr hlocks hw dX4_member_40
      · rw [if_neg c6] at h
        refine lv_ldc2 (v := (-1)) hx hb hown (hts (.constantLong RX4 78 (-1)) (by decide +kernel)) dX4_member_20 ?_
        cases h
        exact hret_l hx hb hr hlocks hw dX4_member_23
theorem iX4_thing_X4 : ∀ w ∈ wsX40, w ∈ wsX4_thing := by decide +kernel
def fX4_thing_j53s (rec : hPl → Nat → Int32 → Int32 → Option Int32) (f : hPl) (a : Nat) (v1 : Int32) (v3 : Int32) : Option Int32 := (if v1 ≤ v3 then some v3 else (hgQ f a 3 0).bind fun q12 => q12.bind fun a13 => (hlI f a13 v3).bind fun x14 => (hgQ f a 3 0).bind fun q15 => q15.bind fun a16 => (hlI f a16 v1).bind fun x17 => (if x14 = x17 then some v3 else rec f a v1 (v3 + 1)))
set_option maxHeartbeats 4000000 in
set_option maxRecDepth 100000 in
theorem kX4_thing_j53s {g : hGb} {p : Program} {l : Launch} {e : Env} {s : State} {m : MethodId} {args : Array Value} {below : List Frame} {meth : Method} {c : Code} {A : Nat → Prop} (C : hX g p s m args meth c RX4 cX4_thing 4 wsX4_thing (some .int)) {f : hPl} {z : Nat} {r : Int32} (rec : hPl → Nat → Int32 → Int32 → Option Int32) (hrec : ∀ (a : Nat) (v1 : Int32) (v3 : Int32), rec f a v1 v3 = some r → ∀ (H : Heap) (locs : List Loc) (ls : Array Slot), hW g A s f z H locs → lv_has ls 4 [(0, .ref a), (1, .int v1), (3, .int v3)] → W p l e (hRm 1 0 0) s m args below meth c H locs 0 0 (hZ g A below args s 0 0 (some (.int r)) f z) (F0 m 53 ls []))  : ∀ (a : Nat) (v1 : Int32) (v3 : Int32), fX4_thing_j53s rec f a v1 v3 = some r → ∀ (H : Heap) (locs : List Loc) (ls : Array Slot), hW g A s f z H locs → lv_has ls 4 [(0, .ref a), (1, .int v1), (3, .int v3)] → W p l e (hRm 1 0 0) s m args below meth c H locs 0 0 (hZ g A below args s 0 0 (some (.int r)) f z) (F0 m 53 ls []) := by
  obtain ⟨hx, hb, hml, hown, hts, hr, hlocks, hk⟩ := id C
  intro a v1 v3 h H locs ls hw hl
  unfold fX4_thing_j53s at h
  refine lv_iload_n hx hb dX4_thing_53 rfl (lv_at hl 2 rfl) ?_
  refine lv_iload_n hx hb dX4_thing_54 rfl (lv_at hl 1 rfl) ?_
  refine lv_icmp_ge (tgt := 79) hx hb dX4_thing_55 (by decide) (fun c11 => ?_) (fun c11 => ?_)
  · rw [if_pos c11] at h
    refine lv_iload_n hx hb dX4_thing_79 rfl (lv_at hl 2 rfl) ?_
    cases h
    exact hret_i hx hb hr hlocks hw dX4_thing_80
  · rw [if_neg c11] at h
    refine lv_aload_n hx hb dX4_thing_58 rfl (lv_at hl 0 rfl) ?_
    replace h := hbd h
    obtain ⟨q12, eq12, h⟩ := h
    refine hr_getQ (C := RX4) (T := TX4) (N := 9) hx hb hts iX4_thing_X4 hown hk hw rfl 0 (by decide) (hts (.fieldLink RX4 9 "SetterBenchModel" "lies" "[I") (by decide +kernel)) (fun _ h9 => h9) eq12 dX4_thing_59 ?_
    refine lv_iload_n hx hb dX4_thing_62 rfl (lv_at hl 2 rfl) ?_
    replace h := hbd h
    obtain ⟨a13, rfl, h⟩ := h
    replace h := hbd h
    obtain ⟨x14, ex14, h⟩ := h
    refine hr_lI hx hb hk hw ex14 dX4_thing_63 ?_
    refine lv_aload_n hx hb dX4_thing_64 rfl (lv_at hl 0 rfl) ?_
    replace h := hbd h
    obtain ⟨q15, eq15, h⟩ := h
    refine hr_getQ (C := RX4) (T := TX4) (N := 9) hx hb hts iX4_thing_X4 hown hk hw rfl 0 (by decide) (hts (.fieldLink RX4 9 "SetterBenchModel" "lies" "[I") (by decide +kernel)) (fun _ h9 => h9) eq15 dX4_thing_65 ?_
    refine lv_iload_n hx hb dX4_thing_68 rfl (lv_at hl 1 rfl) ?_
    replace h := hbd h
    obtain ⟨a16, rfl, h⟩ := h
    replace h := hbd h
    obtain ⟨x17, ex17, h⟩ := h
    refine hr_lI hx hb hk hw ex17 dX4_thing_69 ?_
    refine lv_icmp_eq (tgt := 79) hx hb dX4_thing_70 (by decide) (fun c18 => ?_) (fun c18 => ?_)
    · rw [if_pos c18] at h
      refine lv_iload_n hx hb dX4_thing_79 rfl (lv_at hl 2 rfl) ?_
      cases h
      exact hret_i hx hb hr hlocks hw dX4_thing_80
    · rw [if_neg c18] at h
      refine lv_iinc (v := (v3 + 1)) (lv' := [(3, .int (v3 + 1)), (0, .ref a), (1, .int v1)]) hx hb dX4_thing_73 hl (k := 2) rfl rfl (by decide) rfl (fun ls hl => ?_)
      refine lv_goto (tgt := 53) hx hb dX4_thing_76 (by decide) ?_
      exact hrec _ _ _ h _ _ _ hw (lv_sub hl [1, 2, 0] rfl)
def fX4_thing_j53 (n : Nat) : hPl → Nat → Int32 → Int32 → Option Int32 := match n with
  | 0 => fun _ _ _ _ => none
  | n + 1 => fX4_thing_j53s (fX4_thing_j53 n)
theorem kX4_thing_j53 {g : hGb} {p : Program} {l : Launch} {e : Env} {s : State} {m : MethodId} {args : Array Value} {below : List Frame} {meth : Method} {c : Code} {A : Nat → Prop} (C : hX g p s m args meth c RX4 cX4_thing 4 wsX4_thing (some .int)) {f : hPl} {z : Nat} {r : Int32} (n : Nat) : ∀ (a : Nat) (v1 : Int32) (v3 : Int32), fX4_thing_j53 n f a v1 v3 = some r → ∀ (H : Heap) (locs : List Loc) (ls : Array Slot), hW g A s f z H locs → lv_has ls 4 [(0, .ref a), (1, .int v1), (3, .int v3)] → W p l e (hRm 1 0 0) s m args below meth c H locs 0 0 (hZ g A below args s 0 0 (some (.int r)) f z) (F0 m 53 ls []) := by
  induction n with
  | zero =>
    intro a v1 v3 h
    cases h
  | succ n ih => exact kX4_thing_j53s C (fX4_thing_j53 n) ih
def fX4_thing (f : hPl) (a : Nat) (p1 : Int32) (p2 : Int32) : Option Int32 := (fX4_isPlace f  p1).bind fun r1 => (if r1 = 0 then some (-1) else (if p2 < 0 then some (-1) else (if p2 ≤ 2 then (if p2 = 0 then (hob f a 3).bind fun u21 => (fX4_sortOn f a p1).bind fun r22 => some r22 else (if p2 = 1 then (hob f a 3).bind fun u19 => (fX4_manyOn f a p1).bind fun r20 => some r20 else (hgQ f a 3 0).bind fun q7 => q7.bind fun a8 => (hlI f a8 p1).bind fun x9 => (if x9 = (-1) then some p1 else fX4_thing_j53 64 f a p1 0))) else some (-1))))
set_option maxHeartbeats 4000000 in
set_option maxRecDepth 100000 in
theorem kX4_thing (l : Launch) (g : hGb) {f : hPl} {z : Nat} {a : Nat} {p1 : Int32} {p2 : Int32} {r : Int32} (h : fX4_thing f a p1 p2 = some r) : hCt l g yX4_thing wsX4_thing 1 0 0 [.ref a, .int p1, .int p2] f z (some (.int r)) f z := by
  refine hCt.of (cc := cX4_thing) (maxL := 4) (ret := (some .int)) (by decide +kernel) rfl (by exact Nat.le_of_ble_eq_true rfl) ?_
  intro p e s m below meth c C hname hw ls hl
  obtain ⟨hx, hb, hml, hown, hts, hr, hlocks, hk⟩ := id C
  have hl : lv_has ls 4 [(0, .ref a), (1, .int p1), (2, .int p2)] := hl
  have hown : s.vm.findClass RX4 = some m.cls := hown
  unfold fX4_thing at h
  refine lv_iload_n hx hb dX4_thing_0 rfl (lv_at hl 1 rfl) ?_
  replace h := hbd h
  obtain ⟨r1, er1, h⟩ := h
  refine hcallS (o := some (.int r1)) hx hb hml hown hts hk [.int p1] [] (kX4_isPlace l g er1) gX4_thing_X4_isPlace rfl (n := 1) rfl (by decide +kernel) ⟨Nat.le_of_ble_eq_true rfl, Nat.le_of_ble_eq_true rfl⟩ hw hl.1 rfl (Nat.le_of_ble_eq_true rfl) dX4_thing_1 ⟨Nat.le_of_ble_eq_true rfl, Nat.le_of_ble_eq_true rfl⟩ (fun H locs hw => ?_)
  refine W.eq (g2 := F0 m 4 ls [.int r1]) rfl ?_
  refine lv_if_eq (tgt := 16) hx hb dX4_thing_4 (by decide) (fun c2 => ?_) (fun c2 => ?_)
  · rw [if_pos c2] at h
    refine lv_iconst (v := (-1)) hx hb dX4_thing_16 (by decide) ?_
    cases h
    exact hret_i hx hb hr hlocks hw dX4_thing_17
  · rw [if_neg c2] at h
    refine lv_iload_n hx hb dX4_thing_7 rfl (lv_at hl 2 rfl) ?_
    refine lv_if_lt (tgt := 16) hx hb dX4_thing_8 (by decide) (fun c3 => ?_) (fun c3 => ?_)
    · rw [if_pos c3] at h
      refine lv_iconst (v := (-1)) hx hb dX4_thing_16 (by decide) ?_
      cases h
      exact hret_i hx hb hr hlocks hw dX4_thing_17
    · rw [if_neg c3] at h
      refine lv_iload_n hx hb dX4_thing_11 rfl (lv_at hl 2 rfl) ?_
      refine lv_iconst (v := 2) hx hb dX4_thing_12 (by decide) ?_
      refine lv_icmp_le (tgt := 18) hx hb dX4_thing_13 (by decide) (fun c4 => ?_) (fun c4 => ?_)
      · rw [if_pos c4] at h
        refine lv_iload_n hx hb dX4_thing_18 rfl (lv_at hl 2 rfl) ?_
        refine lv_if_ne (tgt := 28) hx hb dX4_thing_19 (by decide) (fun c5 => ?_) (fun c5 => ?_)
        · rw [if_neg c5] at h
          refine lv_iload_n hx hb dX4_thing_28 rfl (lv_at hl 2 rfl) ?_
          refine lv_iconst (v := 1) hx hb dX4_thing_29 (by decide) ?_
          refine lv_icmp_ne (tgt := 39) hx hb dX4_thing_30 (by decide) (fun c6 => ?_) (fun c6 => ?_)
          · rw [if_neg c6] at h
            refine lv_aload_n hx hb dX4_thing_39 rfl (lv_at hl 0 rfl) ?_
            replace h := hbd h
            obtain ⟨q7, eq7, h⟩ := h
            refine hr_getQ (C := RX4) (T := TX4) (N := 9) hx hb hts iX4_thing_X4 hown hk hw rfl 0 (by decide) (hts (.fieldLink RX4 9 "SetterBenchModel" "lies" "[I") (by decide +kernel)) (fun _ h9 => h9) eq7 dX4_thing_40 ?_
            refine lv_iload_n hx hb dX4_thing_43 rfl (lv_at hl 1 rfl) ?_
            replace h := hbd h
            obtain ⟨a8, rfl, h⟩ := h
            replace h := hbd h
            obtain ⟨x9, ex9, h⟩ := h
            refine hr_lI hx hb hk hw ex9 dX4_thing_44 ?_
            refine lv_iconst (v := (-1)) hx hb dX4_thing_45 (by decide) ?_
            refine lv_icmp_ne (tgt := 51) hx hb dX4_thing_46 (by decide) (fun c10 => ?_) (fun c10 => ?_)
            · rw [if_neg c10] at h
              refine lv_iconst (v := 0) hx hb dX4_thing_51 (by decide) ?_
              refine lv_istore_n (lv' := [(3, .int 0), (0, .ref a), (1, .int p1), (2, .int p2)]) hx hb dX4_thing_52 rfl hl (by decide) rfl (fun ls hl => ?_)
              exact kX4_thing_j53 C 64 _ _ _ h _ _ _ hw (lv_sub hl [1, 2, 0] rfl)
            · rw [if_pos c10] at h
              refine lv_iload_n hx hb dX4_thing_49 rfl (lv_at hl 1 rfl) ?_
              cases h
              exact hret_i hx hb hr hlocks hw dX4_thing_50
          · rw [if_pos c6] at h
            refine lv_aload_n hx hb dX4_thing_33 rfl (lv_at hl 0 rfl) ?_
            refine lv_iload_n hx hb dX4_thing_34 rfl (lv_at hl 1 rfl) ?_
            replace h := hbd h
            obtain ⟨u19, eu19, h⟩ := h
            replace h := hbd h
            obtain ⟨r20, er20, h⟩ := h
            refine hcallV (o := some (.int r20)) hx hb hml hown hts hk [.int p1] [] (kX4_manyOn l g er20) gX4_thing_X4_manyOn rfl (n := 1) rfl (by decide +kernel) ⟨Nat.le_of_ble_eq_true rfl, Nat.le_of_ble_eq_true rfl⟩ (ci := 3) rfl eu19 hw hl.1 rfl (Nat.le_of_ble_eq_true rfl) dX4_thing_35 ⟨Nat.le_of_ble_eq_true rfl, Nat.le_of_ble_eq_true rfl⟩ (fun H locs hw => ?_)
            refine W.eq (g2 := F0 m 38 ls [.int r20]) rfl ?_
            cases h
            exact hret_i hx hb hr hlocks hw dX4_thing_38
        · rw [if_pos c5] at h
          refine lv_aload_n hx hb dX4_thing_22 rfl (lv_at hl 0 rfl) ?_
          refine lv_iload_n hx hb dX4_thing_23 rfl (lv_at hl 1 rfl) ?_
          replace h := hbd h
          obtain ⟨u21, eu21, h⟩ := h
          replace h := hbd h
          obtain ⟨r22, er22, h⟩ := h
          refine hcallV (o := some (.int r22)) hx hb hml hown hts hk [.int p1] [] (kX4_sortOn l g er22) gX4_thing_X4_sortOn rfl (n := 1) rfl (by decide +kernel) ⟨Nat.le_of_ble_eq_true rfl, Nat.le_of_ble_eq_true rfl⟩ (ci := 3) rfl eu21 hw hl.1 rfl (Nat.le_of_ble_eq_true rfl) dX4_thing_24 ⟨Nat.le_of_ble_eq_true rfl, Nat.le_of_ble_eq_true rfl⟩ (fun H locs hw => ?_)
          refine W.eq (g2 := F0 m 27 ls [.int r22]) rfl ?_
          cases h
          exact hret_i hx hb hr hlocks hw dX4_thing_27
      · rw [if_neg c4] at h
        refine lv_iconst (v := (-1)) hx hb dX4_thing_16 (by decide) ?_
        cases h
        exact hret_i hx hb hr hlocks hw dX4_thing_17
theorem iX4_kindAt_X4 : ∀ w ∈ wsX40, w ∈ wsX4_kindAt := by decide +kernel
def fX4_kindAt (f : hPl) (a : Nat) (p1 : Int32) (p2 : Int32) : Option Int32 := (hgQ f a 3 4).bind fun q1 => (hgQ f a 3 0).bind fun q2 => q2.bind fun a3 => (hlI f a3 p1).bind fun x4 => q1.bind fun a5 => (hlJ f a5 ((40 * x4) + p2)).bind fun x6 => some ((x6 - x6 / (10 : Int64) * (10 : Int64)).toInt32)
set_option maxHeartbeats 4000000 in
set_option maxRecDepth 100000 in
theorem kX4_kindAt (l : Launch) (g : hGb) {f : hPl} {z : Nat} {a : Nat} {p1 : Int32} {p2 : Int32} {r : Int32} (h : fX4_kindAt f a p1 p2 = some r) : hCt l g yX4_kindAt wsX4_kindAt 0 0 0 [.ref a, .int p1, .int p2] f z (some (.int r)) f z := by
  refine hCt.of (cc := cX4_kindAt) (maxL := 3) (ret := (some .int)) (by decide +kernel) rfl (by exact Nat.le_of_ble_eq_true rfl) ?_
  intro p e s m below meth c C hname hw ls hl
  obtain ⟨hx, hb, hml, hown, hts, hr, hlocks, hk⟩ := id C
  have hl : lv_has ls 3 [(0, .ref a), (1, .int p1), (2, .int p2)] := hl
  have hown : s.vm.findClass RX4 = some m.cls := hown
  unfold fX4_kindAt at h
  refine lv_aload_n hx hb dX4_kindAt_0 rfl (lv_at hl 0 rfl) ?_
  replace h := hbd h
  obtain ⟨q1, eq1, h⟩ := h
  refine hr_getQ (C := RX4) (T := TX4) (N := 9) hx hb hts iX4_kindAt_X4 hown hk hw rfl 4 (by decide) (hts (.fieldLink RX4 22 "SetterBenchModel" "members" "[J") (by decide +kernel)) (fun _ h9 => h9) eq1 dX4_kindAt_1 ?_
  refine lv_bipush (v := 40) hx hb dX4_kindAt_4 (by decide) ?_
  refine lv_aload_n hx hb dX4_kindAt_6 rfl (lv_at hl 0 rfl) ?_
  replace h := hbd h
  obtain ⟨q2, eq2, h⟩ := h
  refine hr_getQ (C := RX4) (T := TX4) (N := 9) hx hb hts iX4_kindAt_X4 hown hk hw rfl 0 (by decide) (hts (.fieldLink RX4 9 "SetterBenchModel" "lies" "[I") (by decide +kernel)) (fun _ h9 => h9) eq2 dX4_kindAt_7 ?_
  refine lv_iload_n hx hb dX4_kindAt_10 rfl (lv_at hl 1 rfl) ?_
  replace h := hbd h
  obtain ⟨a3, rfl, h⟩ := h
  replace h := hbd h
  obtain ⟨x4, ex4, h⟩ := h
  refine hr_lI hx hb hk hw ex4 dX4_kindAt_11 ?_
  refine lv_imul hx hb dX4_kindAt_12 ?_
  refine lv_iload_n hx hb dX4_kindAt_13 rfl (lv_at hl 2 rfl) ?_
  refine lv_iadd hx hb dX4_kindAt_14 ?_
  replace h := hbd h
  obtain ⟨a5, rfl, h⟩ := h
  replace h := hbd h
  obtain ⟨x6, ex6, h⟩ := h
  refine hr_lJ hx hb hk hw ex6 dX4_kindAt_15 ?_
  refine lv_ldc2 (v := (10)) hx hb hown (hts (.constantLong RX4 61 (10)) (by decide +kernel)) dX4_kindAt_16 ?_
  refine lv_lrem hx hb dX4_kindAt_19 (by decide) ?_
  refine lv_l2i hx hb dX4_kindAt_20 rfl ?_
  cases h
  exact hret_i hx hb hr hlocks hw dX4_kindAt_21
def fX4_worth_j77 (rec : hPl → Nat → Int32 → Int32 → Int32 → Option Int32) (f : hPl) (a : Nat) (v1 : Int32) (v2 : Int32) (v3 : Int32) (v4 : Int32) : Option Int32 := (if v3 ≤ 0 then rec f a v1 v2 (v3 + 1) else (if v4 < 3 then rec f a v1 v2 (v3 + 1) else (hob f a 3).bind fun u18 => (fX4_kindAt f a v1 (v3 - 1)).bind fun r19 => (if r19 = v4 then rec f a v1 (v2 + 5) (v3 + 1) else rec f a v1 v2 (v3 + 1))))
set_option maxHeartbeats 4000000 in
set_option maxRecDepth 100000 in
theorem kX4_worth_j77 {g : hGb} {p : Program} {l : Launch} {e : Env} {s : State} {m : MethodId} {args : Array Value} {below : List Frame} {meth : Method} {c : Code} {A : Nat → Prop} (C : hX g p s m args meth c RX4 cX4_worth 5 wsX4_worth (some .int)) {f : hPl} {z : Nat} {r : Int32} (rec : hPl → Nat → Int32 → Int32 → Int32 → Option Int32) (hrec : ∀ (a : Nat) (v1 : Int32) (v2 : Int32) (v3 : Int32), rec f a v1 v2 v3 = some r → ∀ (H : Heap) (locs : List Loc) (ls : Array Slot), hW g A s f z H locs → lv_has ls 5 [(0, .ref a), (1, .int v1), (2, .int v2), (3, .int v3)] → W p l e (hRm 1 0 0) s m args below meth c H locs 0 0 (hZ g A below args s 0 0 (some (.int r)) f z) (F0 m 24 ls []))  : ∀ (a : Nat) (v1 : Int32) (v2 : Int32) (v3 : Int32) (v4 : Int32), fX4_worth_j77 rec f a v1 v2 v3 v4 = some r → ∀ (H : Heap) (locs : List Loc) (ls : Array Slot), hW g A s f z H locs → lv_has ls 5 [(0, .ref a), (1, .int v1), (2, .int v2), (3, .int v3), (4, .int v4)] → W p l e (hRm 1 0 0) s m args below meth c H locs 0 0 (hZ g A below args s 0 0 (some (.int r)) f z) (F0 m 77 ls []) := by
  obtain ⟨hx, hb, hml, hown, hts, hr, hlocks, hk⟩ := id C
  intro a v1 v2 v3 v4 h H locs ls hw hl
  unfold fX4_worth_j77 at h
  refine lv_iload_n hx hb dX4_worth_77 rfl (lv_at hl 3 rfl) ?_
  refine lv_if_le (tgt := 103) hx hb dX4_worth_78 (by decide) (fun c16 => ?_) (fun c16 => ?_)
  · rw [if_pos c16] at h
    refine lv_iinc (v := (v3 + 1)) (lv' := [(3, .int (v3 + 1)), (0, .ref a), (1, .int v1), (2, .int v2), (4, .int v4)]) hx hb dX4_worth_103 hl (k := 3) rfl rfl (by decide) rfl (fun ls hl => ?_)
    refine lv_goto (tgt := 24) hx hb dX4_worth_106 (by decide) ?_
    exact hrec _ _ _ _ h _ _ _ hw (lv_sub hl [1, 2, 3, 0] rfl)
  · rw [if_neg c16] at h
    refine lv_iload hx hb dX4_worth_81 (lv_at hl 4 rfl) ?_
    refine lv_iconst (v := 3) hx hb dX4_worth_83 (by decide) ?_
    refine lv_icmp_lt (tgt := 103) hx hb dX4_worth_84 (by decide) (fun c17 => ?_) (fun c17 => ?_)
    · rw [if_pos c17] at h
      refine lv_iinc (v := (v3 + 1)) (lv' := [(3, .int (v3 + 1)), (0, .ref a), (1, .int v1), (2, .int v2), (4, .int v4)]) hx hb dX4_worth_103 hl (k := 3) rfl rfl (by decide) rfl (fun ls hl => ?_)
      refine lv_goto (tgt := 24) hx hb dX4_worth_106 (by decide) ?_
      exact hrec _ _ _ _ h _ _ _ hw (lv_sub hl [1, 2, 3, 0] rfl)
    · rw [if_neg c17] at h
      refine lv_aload_n hx hb dX4_worth_87 rfl (lv_at hl 0 rfl) ?_
      refine lv_iload_n hx hb dX4_worth_88 rfl (lv_at hl 1 rfl) ?_
      refine lv_iload_n hx hb dX4_worth_89 rfl (lv_at hl 3 rfl) ?_
      refine lv_iconst (v := 1) hx hb dX4_worth_90 (by decide) ?_
      refine lv_isub hx hb dX4_worth_91 ?_
      replace h := hbd h
      obtain ⟨u18, eu18, h⟩ := h
      replace h := hbd h
      obtain ⟨r19, er19, h⟩ := h
      refine hcallV (o := some (.int r19)) hx hb hml hown hts hk [.int v1, .int (v3 - 1)] [] (kX4_kindAt l g er19) gX4_worth_X4_kindAt rfl (n := 2) rfl (by decide +kernel) ⟨Nat.le_of_ble_eq_true rfl, Nat.le_of_ble_eq_true rfl⟩ (ci := 3) rfl eu18 hw hl.1 rfl (Nat.le_of_ble_eq_true rfl) dX4_worth_92 ⟨Nat.le_of_ble_eq_true rfl, Nat.le_of_ble_eq_true rfl⟩ (fun H locs hw => ?_)
      refine W.eq (g2 := F0 m 95 ls [.int r19]) rfl ?_
      refine lv_iload hx hb dX4_worth_95 (lv_at hl 4 rfl) ?_
      refine lv_icmp_ne (tgt := 103) hx hb dX4_worth_97 (by decide) (fun c20 => ?_) (fun c20 => ?_)
      · rw [if_neg c20] at h
        refine lv_iinc (v := (v3 + 1)) (lv' := [(3, .int (v3 + 1)), (0, .ref a), (1, .int v1), (2, .int v2), (4, .int v4)]) hx hb dX4_worth_103 hl (k := 3) rfl rfl (by decide) rfl (fun ls hl => ?_)
        refine lv_goto (tgt := 24) hx hb dX4_worth_106 (by decide) ?_
        exact hrec _ _ _ _ h _ _ _ hw (lv_sub hl [1, 2, 3, 0] rfl)
      · rw [if_pos c20] at h
        refine lv_iinc (v := (v2 + 5)) (lv' := [(2, .int (v2 + 5)), (0, .ref a), (1, .int v1), (3, .int v3), (4, .int v4)]) hx hb dX4_worth_100 hl (k := 2) rfl rfl (by decide) rfl (fun ls hl => ?_)
        refine lv_iinc (v := (v3 + 1)) (lv' := [(3, .int (v3 + 1)), (2, .int (v2 + 5)), (0, .ref a), (1, .int v1), (4, .int v4)]) hx hb dX4_worth_103 hl (k := 3) rfl rfl (by decide) rfl (fun ls hl => ?_)
        refine lv_goto (tgt := 24) hx hb dX4_worth_106 (by decide) ?_
        exact hrec _ _ _ _ h _ _ _ hw (lv_sub hl [2, 3, 1, 0] rfl)
def fX4_worth_j59 (rec : hPl → Nat → Int32 → Int32 → Int32 → Option Int32) (f : hPl) (a : Nat) (v1 : Int32) (v2 : Int32) (v3 : Int32) (v4 : Int32) : Option Int32 := (if v4 = 3 then (if v4 = 4 then fX4_worth_j77 rec f a v1 ((v2 + 20) + 15) v3 v4 else fX4_worth_j77 rec f a v1 (v2 + 20) v3 v4) else (if v4 = 4 then fX4_worth_j77 rec f a v1 (v2 + 15) v3 v4 else fX4_worth_j77 rec f a v1 v2 v3 v4))
set_option maxHeartbeats 4000000 in
set_option maxRecDepth 100000 in
theorem kX4_worth_j59 {g : hGb} {p : Program} {l : Launch} {e : Env} {s : State} {m : MethodId} {args : Array Value} {below : List Frame} {meth : Method} {c : Code} {A : Nat → Prop} (C : hX g p s m args meth c RX4 cX4_worth 5 wsX4_worth (some .int)) {f : hPl} {z : Nat} {r : Int32} (rec : hPl → Nat → Int32 → Int32 → Int32 → Option Int32) (hrec : ∀ (a : Nat) (v1 : Int32) (v2 : Int32) (v3 : Int32), rec f a v1 v2 v3 = some r → ∀ (H : Heap) (locs : List Loc) (ls : Array Slot), hW g A s f z H locs → lv_has ls 5 [(0, .ref a), (1, .int v1), (2, .int v2), (3, .int v3)] → W p l e (hRm 1 0 0) s m args below meth c H locs 0 0 (hZ g A below args s 0 0 (some (.int r)) f z) (F0 m 24 ls []))  : ∀ (a : Nat) (v1 : Int32) (v2 : Int32) (v3 : Int32) (v4 : Int32), fX4_worth_j59 rec f a v1 v2 v3 v4 = some r → ∀ (H : Heap) (locs : List Loc) (ls : Array Slot), hW g A s f z H locs → lv_has ls 5 [(0, .ref a), (1, .int v1), (2, .int v2), (3, .int v3), (4, .int v4)] → W p l e (hRm 1 0 0) s m args below meth c H locs 0 0 (hZ g A below args s 0 0 (some (.int r)) f z) (F0 m 59 ls []) := by
  obtain ⟨hx, hb, hml, hown, hts, hr, hlocks, hk⟩ := id C
  intro a v1 v2 v3 v4 h H locs ls hw hl
  unfold fX4_worth_j59 at h
  refine lv_iload hx hb dX4_worth_59 (lv_at hl 4 rfl) ?_
  refine lv_iconst (v := 3) hx hb dX4_worth_61 (by decide) ?_
  refine lv_icmp_ne (tgt := 68) hx hb dX4_worth_62 (by decide) (fun c14 => ?_) (fun c14 => ?_)
  · rw [if_neg c14] at h
    refine lv_iload hx hb dX4_worth_68 (lv_at hl 4 rfl) ?_
    refine lv_iconst (v := 4) hx hb dX4_worth_70 (by decide) ?_
    refine lv_icmp_ne (tgt := 77) hx hb dX4_worth_71 (by decide) (fun c15 => ?_) (fun c15 => ?_)
    · rw [if_neg c15] at h
      exact kX4_worth_j77 C rec hrec _ _ _ _ _ h _ _ _ hw (lv_sub hl [0, 1, 2, 3, 4] rfl)
    · rw [if_pos c15] at h
      refine lv_iinc (v := (v2 + 15)) (lv' := [(2, .int (v2 + 15)), (0, .ref a), (1, .int v1), (3, .int v3), (4, .int v4)]) hx hb dX4_worth_74 hl (k := 2) rfl rfl (by decide) rfl (fun ls hl => ?_)
      exact kX4_worth_j77 C rec hrec _ _ _ _ _ h _ _ _ hw (lv_sub hl [1, 2, 0, 3, 4] rfl)
  · rw [if_pos c14] at h
    refine lv_iinc (v := (v2 + 20)) (lv' := [(2, .int (v2 + 20)), (0, .ref a), (1, .int v1), (3, .int v3), (4, .int v4)]) hx hb dX4_worth_65 hl (k := 2) rfl rfl (by decide) rfl (fun ls hl => ?_)
    refine lv_iload hx hb dX4_worth_68 (lv_at hl 4 rfl) ?_
    refine lv_iconst (v := 4) hx hb dX4_worth_70 (by decide) ?_
    refine lv_icmp_ne (tgt := 77) hx hb dX4_worth_71 (by decide) (fun c21 => ?_) (fun c21 => ?_)
    · rw [if_neg c21] at h
      exact kX4_worth_j77 C rec hrec _ _ _ _ _ h _ _ _ hw (lv_sub hl [1, 2, 0, 3, 4] rfl)
    · rw [if_pos c21] at h
      refine lv_iinc (v := ((v2 + 20) + 15)) (lv' := [(2, .int ((v2 + 20) + 15)), (0, .ref a), (1, .int v1), (3, .int v3), (4, .int v4)]) hx hb dX4_worth_74 hl (k := 0) rfl rfl (by decide) rfl (fun ls hl => ?_)
      exact kX4_worth_j77 C rec hrec _ _ _ _ _ h _ _ _ hw (lv_sub hl [1, 2, 0, 3, 4] rfl)
def fX4_worth_j24s (rec : hPl → Nat → Int32 → Int32 → Int32 → Option Int32) (f : hPl) (a : Nat) (v1 : Int32) (v2 : Int32) (v3 : Int32) : Option Int32 := (hob f a 3).bind fun u7 => (fX4_manyOn f a v1).bind fun r8 => (if r8 ≤ v3 then some v2 else (hob f a 3).bind fun u10 => (fX4_kindAt f a v1 v3).bind fun r11 => (if r11 = 1 then (if r11 = 2 then fX4_worth_j59 rec f a v1 ((v2 + 1) + 4) v3 r11 else fX4_worth_j59 rec f a v1 (v2 + 1) v3 r11) else (if r11 = 2 then fX4_worth_j59 rec f a v1 (v2 + 4) v3 r11 else fX4_worth_j59 rec f a v1 v2 v3 r11)))
set_option maxHeartbeats 4000000 in
set_option maxRecDepth 100000 in
theorem kX4_worth_j24s {g : hGb} {p : Program} {l : Launch} {e : Env} {s : State} {m : MethodId} {args : Array Value} {below : List Frame} {meth : Method} {c : Code} {A : Nat → Prop} (C : hX g p s m args meth c RX4 cX4_worth 5 wsX4_worth (some .int)) {f : hPl} {z : Nat} {r : Int32} (rec : hPl → Nat → Int32 → Int32 → Int32 → Option Int32) (hrec : ∀ (a : Nat) (v1 : Int32) (v2 : Int32) (v3 : Int32), rec f a v1 v2 v3 = some r → ∀ (H : Heap) (locs : List Loc) (ls : Array Slot), hW g A s f z H locs → lv_has ls 5 [(0, .ref a), (1, .int v1), (2, .int v2), (3, .int v3)] → W p l e (hRm 1 0 0) s m args below meth c H locs 0 0 (hZ g A below args s 0 0 (some (.int r)) f z) (F0 m 24 ls []))  : ∀ (a : Nat) (v1 : Int32) (v2 : Int32) (v3 : Int32), fX4_worth_j24s rec f a v1 v2 v3 = some r → ∀ (H : Heap) (locs : List Loc) (ls : Array Slot), hW g A s f z H locs → lv_has ls 5 [(0, .ref a), (1, .int v1), (2, .int v2), (3, .int v3)] → W p l e (hRm 1 0 0) s m args below meth c H locs 0 0 (hZ g A below args s 0 0 (some (.int r)) f z) (F0 m 24 ls []) := by
  obtain ⟨hx, hb, hml, hown, hts, hr, hlocks, hk⟩ := id C
  intro a v1 v2 v3 h H locs ls hw hl
  unfold fX4_worth_j24s at h
  refine lv_iload_n hx hb dX4_worth_24 rfl (lv_at hl 3 rfl) ?_
  refine lv_aload_n hx hb dX4_worth_25 rfl (lv_at hl 0 rfl) ?_
  refine lv_iload_n hx hb dX4_worth_26 rfl (lv_at hl 1 rfl) ?_
  replace h := hbd h
  obtain ⟨u7, eu7, h⟩ := h
  replace h := hbd h
  obtain ⟨r8, er8, h⟩ := h
  refine hcallV (o := some (.int r8)) hx hb hml hown hts hk [.int v1] [.int v3] (kX4_manyOn l g er8) gX4_worth_X4_manyOn rfl (n := 1) rfl (by decide +kernel) ⟨Nat.le_of_ble_eq_true rfl, Nat.le_of_ble_eq_true rfl⟩ (ci := 3) rfl eu7 hw hl.1 rfl (Nat.le_of_ble_eq_true rfl) dX4_worth_27 ⟨Nat.le_of_ble_eq_true rfl, Nat.le_of_ble_eq_true rfl⟩ (fun H locs hw => ?_)
  refine W.eq (g2 := F0 m 30 ls [.int r8, .int v3]) rfl ?_
  refine lv_icmp_ge (tgt := 109) hx hb dX4_worth_30 (by decide) (fun c9 => ?_) (fun c9 => ?_)
  · rw [if_pos c9] at h
    refine lv_iload_n hx hb dX4_worth_109 rfl (lv_at hl 2 rfl) ?_
    cases h
    exact hret_i hx hb hr hlocks hw dX4_worth_110
  · rw [if_neg c9] at h
    refine lv_aload_n hx hb dX4_worth_33 rfl (lv_at hl 0 rfl) ?_
    refine lv_iload_n hx hb dX4_worth_34 rfl (lv_at hl 1 rfl) ?_
    refine lv_iload_n hx hb dX4_worth_35 rfl (lv_at hl 3 rfl) ?_
    replace h := hbd h
    obtain ⟨u10, eu10, h⟩ := h
    replace h := hbd h
    obtain ⟨r11, er11, h⟩ := h
    refine hcallV (o := some (.int r11)) hx hb hml hown hts hk [.int v1, .int v3] [] (kX4_kindAt l g er11) gX4_worth_X4_kindAt rfl (n := 2) rfl (by decide +kernel) ⟨Nat.le_of_ble_eq_true rfl, Nat.le_of_ble_eq_true rfl⟩ (ci := 3) rfl eu10 hw hl.1 rfl (Nat.le_of_ble_eq_true rfl) dX4_worth_36 ⟨Nat.le_of_ble_eq_true rfl, Nat.le_of_ble_eq_true rfl⟩ (fun H locs hw => ?_)
    refine W.eq (g2 := F0 m 39 ls [.int r11]) rfl ?_
    refine lv_istore (lv' := [(4, .int r11), (0, .ref a), (1, .int v1), (2, .int v2), (3, .int v3)]) hx hb dX4_worth_39 hl (by decide) rfl (fun ls hl => ?_)
    refine lv_iload hx hb dX4_worth_41 (lv_at hl 0 rfl) ?_
    refine lv_iconst (v := 1) hx hb dX4_worth_43 (by decide) ?_
    refine lv_icmp_ne (tgt := 50) hx hb dX4_worth_44 (by decide) (fun c12 => ?_) (fun c12 => ?_)
    · rw [if_neg c12] at h
      refine lv_iload hx hb dX4_worth_50 (lv_at hl 0 rfl) ?_
      refine lv_iconst (v := 2) hx hb dX4_worth_52 (by decide) ?_
      refine lv_icmp_ne (tgt := 59) hx hb dX4_worth_53 (by decide) (fun c13 => ?_) (fun c13 => ?_)
      · rw [if_neg c13] at h
        exact kX4_worth_j59 C rec hrec _ _ _ _ _ h _ _ _ hw (lv_sub hl [1, 2, 3, 4, 0] rfl)
      · rw [if_pos c13] at h
        refine lv_iinc (v := (v2 + 4)) (lv' := [(2, .int (v2 + 4)), (4, .int r11), (0, .ref a), (1, .int v1), (3, .int v3)]) hx hb dX4_worth_56 hl (k := 3) rfl rfl (by decide) rfl (fun ls hl => ?_)
        exact kX4_worth_j59 C rec hrec _ _ _ _ _ h _ _ _ hw (lv_sub hl [2, 3, 0, 4, 1] rfl)
    · rw [if_pos c12] at h
      refine lv_iinc (v := (v2 + 1)) (lv' := [(2, .int (v2 + 1)), (4, .int r11), (0, .ref a), (1, .int v1), (3, .int v3)]) hx hb dX4_worth_47 hl (k := 3) rfl rfl (by decide) rfl (fun ls hl => ?_)
      refine lv_iload hx hb dX4_worth_50 (lv_at hl 1 rfl) ?_
      refine lv_iconst (v := 2) hx hb dX4_worth_52 (by decide) ?_
      refine lv_icmp_ne (tgt := 59) hx hb dX4_worth_53 (by decide) (fun c22 => ?_) (fun c22 => ?_)
      · rw [if_neg c22] at h
        exact kX4_worth_j59 C rec hrec _ _ _ _ _ h _ _ _ hw (lv_sub hl [2, 3, 0, 4, 1] rfl)
      · rw [if_pos c22] at h
        refine lv_iinc (v := ((v2 + 1) + 4)) (lv' := [(2, .int ((v2 + 1) + 4)), (4, .int r11), (0, .ref a), (1, .int v1), (3, .int v3)]) hx hb dX4_worth_56 hl (k := 0) rfl rfl (by decide) rfl (fun ls hl => ?_)
        exact kX4_worth_j59 C rec hrec _ _ _ _ _ h _ _ _ hw (lv_sub hl [2, 3, 0, 4, 1] rfl)
def fX4_worth_j24 (n : Nat) : hPl → Nat → Int32 → Int32 → Int32 → Option Int32 := match n with
  | 0 => fun _ _ _ _ _ => none
  | n + 1 => fX4_worth_j24s (fX4_worth_j24 n)
theorem kX4_worth_j24 {g : hGb} {p : Program} {l : Launch} {e : Env} {s : State} {m : MethodId} {args : Array Value} {below : List Frame} {meth : Method} {c : Code} {A : Nat → Prop} (C : hX g p s m args meth c RX4 cX4_worth 5 wsX4_worth (some .int)) {f : hPl} {z : Nat} {r : Int32} (n : Nat) : ∀ (a : Nat) (v1 : Int32) (v2 : Int32) (v3 : Int32), fX4_worth_j24 n f a v1 v2 v3 = some r → ∀ (H : Heap) (locs : List Loc) (ls : Array Slot), hW g A s f z H locs → lv_has ls 5 [(0, .ref a), (1, .int v1), (2, .int v2), (3, .int v3)] → W p l e (hRm 1 0 0) s m args below meth c H locs 0 0 (hZ g A below args s 0 0 (some (.int r)) f z) (F0 m 24 ls []) := by
  induction n with
  | zero =>
    intro a v1 v2 v3 h
    cases h
  | succ n ih => exact kX4_worth_j24s C (fX4_worth_j24 n) ih
def fX4_worth (f : hPl) (a : Nat) (p1 : Int32) : Option Int32 := (fX4_isPlace f  p1).bind fun r1 => (if r1 = 0 then some (-1) else (hob f a 3).bind fun u3 => (fX4_sortOn f a p1).bind fun r4 => (fX4_isOfStones f  r4).bind fun r5 => (if r5 = 0 then some (-1) else fX4_worth_j24 64 f a p1 0 0))
set_option maxHeartbeats 4000000 in
set_option maxRecDepth 100000 in
theorem kX4_worth (l : Launch) (g : hGb) {f : hPl} {z : Nat} {a : Nat} {p1 : Int32} {r : Int32} (h : fX4_worth f a p1 = some r) : hCt l g yX4_worth wsX4_worth 1 0 0 [.ref a, .int p1] f z (some (.int r)) f z := by
  refine hCt.of (cc := cX4_worth) (maxL := 5) (ret := (some .int)) (by decide +kernel) rfl (by exact Nat.le_of_ble_eq_true rfl) ?_
  intro p e s m below meth c C hname hw ls hl
  obtain ⟨hx, hb, hml, hown, hts, hr, hlocks, hk⟩ := id C
  have hl : lv_has ls 5 [(0, .ref a), (1, .int p1)] := hl
  have hown : s.vm.findClass RX4 = some m.cls := hown
  unfold fX4_worth at h
  refine lv_iload_n hx hb dX4_worth_0 rfl (lv_at hl 1 rfl) ?_
  replace h := hbd h
  obtain ⟨r1, er1, h⟩ := h
  refine hcallS (o := some (.int r1)) hx hb hml hown hts hk [.int p1] [] (kX4_isPlace l g er1) gX4_worth_X4_isPlace rfl (n := 1) rfl (by decide +kernel) ⟨Nat.le_of_ble_eq_true rfl, Nat.le_of_ble_eq_true rfl⟩ hw hl.1 rfl (Nat.le_of_ble_eq_true rfl) dX4_worth_1 ⟨Nat.le_of_ble_eq_true rfl, Nat.le_of_ble_eq_true rfl⟩ (fun H locs hw => ?_)
  refine W.eq (g2 := F0 m 4 ls [.int r1]) rfl ?_
  refine lv_if_eq (tgt := 18) hx hb dX4_worth_4 (by decide) (fun c2 => ?_) (fun c2 => ?_)
  · rw [if_pos c2] at h
    refine lv_iconst (v := (-1)) hx hb dX4_worth_18 (by decide) ?_
    cases h
    exact hret_i hx hb hr hlocks hw dX4_worth_19
  · rw [if_neg c2] at h
    refine lv_aload_n hx hb dX4_worth_7 rfl (lv_at hl 0 rfl) ?_
    refine lv_iload_n hx hb dX4_worth_8 rfl (lv_at hl 1 rfl) ?_
    replace h := hbd h
    obtain ⟨u3, eu3, h⟩ := h
    replace h := hbd h
    obtain ⟨r4, er4, h⟩ := h
    refine hcallV (o := some (.int r4)) hx hb hml hown hts hk [.int p1] [] (kX4_sortOn l g er4) gX4_worth_X4_sortOn rfl (n := 1) rfl (by decide +kernel) ⟨Nat.le_of_ble_eq_true rfl, Nat.le_of_ble_eq_true rfl⟩ (ci := 3) rfl eu3 hw hl.1 rfl (Nat.le_of_ble_eq_true rfl) dX4_worth_9 ⟨Nat.le_of_ble_eq_true rfl, Nat.le_of_ble_eq_true rfl⟩ (fun H locs hw => ?_)
    refine W.eq (g2 := F0 m 12 ls [.int r4]) rfl ?_
    replace h := hbd h
    obtain ⟨r5, er5, h⟩ := h
    refine hcallS (o := some (.int r5)) hx hb hml hown hts hk [.int r4] [] (kX4_isOfStones l g er5) gX4_worth_X4_isOfStones rfl (n := 1) rfl (by decide +kernel) ⟨Nat.le_of_ble_eq_true rfl, Nat.le_of_ble_eq_true rfl⟩ hw hl.1 rfl (Nat.le_of_ble_eq_true rfl) dX4_worth_12 ⟨Nat.le_of_ble_eq_true rfl, Nat.le_of_ble_eq_true rfl⟩ (fun H locs hw => ?_)
    refine W.eq (g2 := F0 m 15 ls [.int r5]) rfl ?_
    refine lv_if_ne (tgt := 20) hx hb dX4_worth_15 (by decide) (fun c6 => ?_) (fun c6 => ?_)
    · rw [if_neg c6] at h
      refine lv_iconst (v := 0) hx hb dX4_worth_20 (by decide) ?_
      refine lv_istore_n (lv' := [(2, .int 0), (0, .ref a), (1, .int p1)]) hx hb dX4_worth_21 rfl hl (by decide) rfl (fun ls hl => ?_)
      refine lv_iconst (v := 0) hx hb dX4_worth_22 (by decide) ?_
      refine lv_istore_n (lv' := [(3, .int 0), (2, .int 0), (0, .ref a), (1, .int p1)]) hx hb dX4_worth_23 rfl hl (by decide) rfl (fun ls hl => ?_)
      exact kX4_worth_j24 C 64 _ _ _ _ h _ _ _ hw (lv_sub hl [2, 3, 1, 0] rfl)
    · rw [if_pos c6] at h
      refine lv_iconst (v := (-1)) hx hb dX4_worth_18 (by decide) ?_
      cases h
      exact hret_i hx hb hr hlocks hw dX4_worth_19
def fX4_mirror_j61s (rec : hPl → Nat → Int32 → Int32 → Int32 → Int32 → Int32 → Option Int32) (f : hPl) (a : Nat) (v1 : Int32) (v2 : Int32) (v3 : Int32) (v4 : Int32) (v5 : Int32) : Option Int32 := (if v3 ≤ v5 then (if v4 = 0 ∨ v4 = 1 then some v4 else none) else (if v4 = 0 then rec f a v1 v2 v3 0 (v5 + 1) else (hob f a 3).bind fun u21 => (fX4_kindAt f a v1 v5).bind fun r22 => (hob f a 3).bind fun u23 => (fX4_kindAt f a v2 ((v3 - 1) - v5)).bind fun r24 => (if r22 = r24 then rec f a v1 v2 v3 1 (v5 + 1) else rec f a v1 v2 v3 0 (v5 + 1))))
set_option maxHeartbeats 4000000 in
set_option maxRecDepth 100000 in
theorem kX4_mirror_j61s {g : hGb} {p : Program} {l : Launch} {e : Env} {s : State} {m : MethodId} {args : Array Value} {below : List Frame} {meth : Method} {c : Code} {A : Nat → Prop} (C : hX g p s m args meth c RX4 cX4_mirror 6 wsX4_mirror (some .boolean)) {f : hPl} {z : Nat} {r : Int32} (rec : hPl → Nat → Int32 → Int32 → Int32 → Int32 → Int32 → Option Int32) (hrec : ∀ (a : Nat) (v1 : Int32) (v2 : Int32) (v3 : Int32) (v4 : Int32) (v5 : Int32), rec f a v1 v2 v3 v4 v5 = some r → ∀ (H : Heap) (locs : List Loc) (ls : Array Slot), hW g A s f z H locs → lv_has ls 6 [(0, .ref a), (1, .int v1), (2, .int v2), (3, .int v3), (4, .int v4), (5, .int v5)] → W p l e (hRm 1 0 0) s m args below meth c H locs 0 0 (hZ g A below args s 0 0 (some (.int r)) f z) (F0 m 61 ls []))  : ∀ (a : Nat) (v1 : Int32) (v2 : Int32) (v3 : Int32) (v4 : Int32) (v5 : Int32), fX4_mirror_j61s rec f a v1 v2 v3 v4 v5 = some r → ∀ (H : Heap) (locs : List Loc) (ls : Array Slot), hW g A s f z H locs → lv_has ls 6 [(0, .ref a), (1, .int v1), (2, .int v2), (3, .int v3), (4, .int v4), (5, .int v5)] → W p l e (hRm 1 0 0) s m args below meth c H locs 0 0 (hZ g A below args s 0 0 (some (.int r)) f z) (F0 m 61 ls []) := by
  obtain ⟨hx, hb, hml, hown, hts, hr, hlocks, hk⟩ := id C
  intro a v1 v2 v3 v4 v5 h H locs ls hw hl
  unfold fX4_mirror_j61s at h
  refine lv_iload hx hb dX4_mirror_61 (lv_at hl 5 rfl) ?_
  refine lv_iload_n hx hb dX4_mirror_63 rfl (lv_at hl 3 rfl) ?_
  refine lv_icmp_ge (tgt := 106) hx hb dX4_mirror_64 (by decide) (fun c18 => ?_) (fun c18 => ?_)
  · rw [if_pos c18] at h
    refine lv_iload hx hb dX4_mirror_106 (lv_at hl 4 rfl) ?_
    obtain ⟨c19, h⟩ := hif h
    cases h
    exact hret_z hx hb hr hlocks hw c19 dX4_mirror_108
  · rw [if_neg c18] at h
    refine lv_iload hx hb dX4_mirror_67 (lv_at hl 4 rfl) ?_
    refine lv_if_eq (tgt := 97) hx hb dX4_mirror_69 (by decide) (fun c20 => ?_) (fun c20 => ?_)
    · rw [if_pos c20] at h
      refine lv_iconst (v := 0) hx hb dX4_mirror_97 (by decide) ?_
      refine lv_istore (lv' := [(4, .int 0), (0, .ref a), (1, .int v1), (2, .int v2), (3, .int v3), (5, .int v5)]) hx hb dX4_mirror_98 hl (by decide) rfl (fun ls hl => ?_)
      refine lv_iinc (v := (v5 + 1)) (lv' := [(5, .int (v5 + 1)), (4, .int 0), (0, .ref a), (1, .int v1), (2, .int v2), (3, .int v3)]) hx hb dX4_mirror_100 hl (k := 5) rfl rfl (by decide) rfl (fun ls hl => ?_)
      refine lv_goto (tgt := 61) hx hb dX4_mirror_103 (by decide) ?_
      exact hrec _ _ _ _ _ _ h _ _ _ hw (lv_sub hl [2, 3, 4, 5, 1, 0] rfl)
    · rw [if_neg c20] at h
      refine lv_aload_n hx hb dX4_mirror_72 rfl (lv_at hl 0 rfl) ?_
      refine lv_iload_n hx hb dX4_mirror_73 rfl (lv_at hl 1 rfl) ?_
      refine lv_iload hx hb dX4_mirror_74 (lv_at hl 5 rfl) ?_
      replace h := hbd h
      obtain ⟨u21, eu21, h⟩ := h
      replace h := hbd h
      obtain ⟨r22, er22, h⟩ := h
      refine hcallV (o := some (.int r22)) hx hb hml hown hts hk [.int v1, .int v5] [] (kX4_kindAt l g er22) gX4_mirror_X4_kindAt rfl (n := 2) rfl (by decide +kernel) ⟨Nat.le_of_ble_eq_true rfl, Nat.le_of_ble_eq_true rfl⟩ (ci := 3) rfl eu21 hw hl.1 rfl (Nat.le_of_ble_eq_true rfl) dX4_mirror_76 ⟨Nat.le_of_ble_eq_true rfl, Nat.le_of_ble_eq_true rfl⟩ (fun H locs hw => ?_)
      refine W.eq (g2 := F0 m 79 ls [.int r22]) rfl ?_
      refine lv_aload_n hx hb dX4_mirror_79 rfl (lv_at hl 0 rfl) ?_
      refine lv_iload_n hx hb dX4_mirror_80 rfl (lv_at hl 2 rfl) ?_
      refine lv_iload_n hx hb dX4_mirror_81 rfl (lv_at hl 3 rfl) ?_
      refine lv_iconst (v := 1) hx hb dX4_mirror_82 (by decide) ?_
      refine lv_isub hx hb dX4_mirror_83 ?_
      refine lv_iload hx hb dX4_mirror_84 (lv_at hl 5 rfl) ?_
      refine lv_isub hx hb dX4_mirror_86 ?_
      replace h := hbd h
      obtain ⟨u23, eu23, h⟩ := h
      replace h := hbd h
      obtain ⟨r24, er24, h⟩ := h
      refine hcallV (o := some (.int r24)) hx hb hml hown hts hk [.int v2, .int ((v3 - 1) - v5)] [.int r22] (kX4_kindAt l g er24) gX4_mirror_X4_kindAt rfl (n := 2) rfl (by decide +kernel) ⟨Nat.le_of_ble_eq_true rfl, Nat.le_of_ble_eq_true rfl⟩ (ci := 3) rfl eu23 hw hl.1 rfl (Nat.le_of_ble_eq_true rfl) dX4_mirror_87 ⟨Nat.le_of_ble_eq_true rfl, Nat.le_of_ble_eq_true rfl⟩ (fun H locs hw => ?_)
      refine W.eq (g2 := F0 m 90 ls [.int r24, .int r22]) rfl ?_
      refine lv_icmp_ne (tgt := 97) hx hb dX4_mirror_90 (by decide) (fun c25 => ?_) (fun c25 => ?_)
      · rw [if_neg c25] at h
        refine lv_iconst (v := 0) hx hb dX4_mirror_97 (by decide) ?_
        refine lv_istore (lv' := [(4, .int 0), (0, .ref a), (1, .int v1), (2, .int v2), (3, .int v3), (5, .int v5)]) hx hb dX4_mirror_98 hl (by decide) rfl (fun ls hl => ?_)
        refine lv_iinc (v := (v5 + 1)) (lv' := [(5, .int (v5 + 1)), (4, .int 0), (0, .ref a), (1, .int v1), (2, .int v2), (3, .int v3)]) hx hb dX4_mirror_100 hl (k := 5) rfl rfl (by decide) rfl (fun ls hl => ?_)
        refine lv_goto (tgt := 61) hx hb dX4_mirror_103 (by decide) ?_
        exact hrec _ _ _ _ _ _ h _ _ _ hw (lv_sub hl [2, 3, 4, 5, 1, 0] rfl)
      · rw [if_pos c25] at h
        refine lv_iconst (v := 1) hx hb dX4_mirror_93 (by decide) ?_
        refine lv_goto (tgt := 98) hx hb dX4_mirror_94 (by decide) ?_
        refine lv_istore (lv' := [(4, .int 1), (0, .ref a), (1, .int v1), (2, .int v2), (3, .int v3), (5, .int v5)]) hx hb dX4_mirror_98 hl (by decide) rfl (fun ls hl => ?_)
        refine lv_iinc (v := (v5 + 1)) (lv' := [(5, .int (v5 + 1)), (4, .int 1), (0, .ref a), (1, .int v1), (2, .int v2), (3, .int v3)]) hx hb dX4_mirror_100 hl (k := 5) rfl rfl (by decide) rfl (fun ls hl => ?_)
        refine lv_goto (tgt := 61) hx hb dX4_mirror_103 (by decide) ?_
        exact hrec _ _ _ _ _ _ h _ _ _ hw (lv_sub hl [2, 3, 4, 5, 1, 0] rfl)
def fX4_mirror_j61 (n : Nat) : hPl → Nat → Int32 → Int32 → Int32 → Int32 → Int32 → Option Int32 := match n with
  | 0 => fun _ _ _ _ _ _ _ => none
  | n + 1 => fX4_mirror_j61s (fX4_mirror_j61 n)
theorem kX4_mirror_j61 {g : hGb} {p : Program} {l : Launch} {e : Env} {s : State} {m : MethodId} {args : Array Value} {below : List Frame} {meth : Method} {c : Code} {A : Nat → Prop} (C : hX g p s m args meth c RX4 cX4_mirror 6 wsX4_mirror (some .boolean)) {f : hPl} {z : Nat} {r : Int32} (n : Nat) : ∀ (a : Nat) (v1 : Int32) (v2 : Int32) (v3 : Int32) (v4 : Int32) (v5 : Int32), fX4_mirror_j61 n f a v1 v2 v3 v4 v5 = some r → ∀ (H : Heap) (locs : List Loc) (ls : Array Slot), hW g A s f z H locs → lv_has ls 6 [(0, .ref a), (1, .int v1), (2, .int v2), (3, .int v3), (4, .int v4), (5, .int v5)] → W p l e (hRm 1 0 0) s m args below meth c H locs 0 0 (hZ g A below args s 0 0 (some (.int r)) f z) (F0 m 61 ls []) := by
  induction n with
  | zero =>
    intro a v1 v2 v3 v4 v5 h
    cases h
  | succ n ih => exact kX4_mirror_j61s C (fX4_mirror_j61 n) ih
def fX4_mirror (f : hPl) (a : Nat) (p1 : Int32) (p2 : Int32) : Option Int32 := (fX4_isPlace f  p1).bind fun r1 => (if r1 = 0 then some 0 else (fX4_isPlace f  p2).bind fun r3 => (if r3 = 0 then some 0 else (hob f a 3).bind fun u5 => (fX4_sortOn f a p1).bind fun r6 => (fX4_isOfStones f  r6).bind fun r7 => (if r7 = 0 then some 0 else (hob f a 3).bind fun u9 => (fX4_sortOn f a p2).bind fun r10 => (fX4_isOfStones f  r10).bind fun r11 => (if r11 = 0 then some 0 else (hob f a 3).bind fun u13 => (fX4_manyOn f a p1).bind fun r14 => (hob f a 3).bind fun u15 => (fX4_manyOn f a p2).bind fun r16 => (if r14 = r16 then fX4_mirror_j61 64 f a p1 p2 r14 1 0 else some 0)))))
set_option maxHeartbeats 4000000 in
set_option maxRecDepth 100000 in
theorem kX4_mirror (l : Launch) (g : hGb) {f : hPl} {z : Nat} {a : Nat} {p1 : Int32} {p2 : Int32} {r : Int32} (h : fX4_mirror f a p1 p2 = some r) : hCt l g yX4_mirror wsX4_mirror 1 0 0 [.ref a, .int p1, .int p2] f z (some (.int r)) f z := by
  refine hCt.of (cc := cX4_mirror) (maxL := 6) (ret := (some .boolean)) (by decide +kernel) rfl (by exact Nat.le_of_ble_eq_true rfl) ?_
  intro p e s m below meth c C hname hw ls hl
  obtain ⟨hx, hb, hml, hown, hts, hr, hlocks, hk⟩ := id C
  have hl : lv_has ls 6 [(0, .ref a), (1, .int p1), (2, .int p2)] := hl
  have hown : s.vm.findClass RX4 = some m.cls := hown
  unfold fX4_mirror at h
  refine lv_iload_n hx hb dX4_mirror_0 rfl (lv_at hl 1 rfl) ?_
  replace h := hbd h
  obtain ⟨r1, er1, h⟩ := h
  refine hcallS (o := some (.int r1)) hx hb hml hown hts hk [.int p1] [] (kX4_isPlace l g er1) gX4_mirror_X4_isPlace rfl (n := 1) rfl (by decide +kernel) ⟨Nat.le_of_ble_eq_true rfl, Nat.le_of_ble_eq_true rfl⟩ hw hl.1 rfl (Nat.le_of_ble_eq_true rfl) dX4_mirror_1 ⟨Nat.le_of_ble_eq_true rfl, Nat.le_of_ble_eq_true rfl⟩ (fun H locs hw => ?_)
  refine W.eq (g2 := F0 m 4 ls [.int r1]) rfl ?_
  refine lv_if_eq (tgt := 36) hx hb dX4_mirror_4 (by decide) (fun c2 => ?_) (fun c2 => ?_)
  · rw [if_pos c2] at h
    refine lv_iconst (v := 0) hx hb dX4_mirror_36 (by decide) ?_
    cases h
    exact hret_z hx hb hr hlocks hw (Or.inl rfl) dX4_mirror_37
  · rw [if_neg c2] at h
    refine lv_iload_n hx hb dX4_mirror_7 rfl (lv_at hl 2 rfl) ?_
    replace h := hbd h
    obtain ⟨r3, er3, h⟩ := h
    refine hcallS (o := some (.int r3)) hx hb hml hown hts hk [.int p2] [] (kX4_isPlace l g er3) gX4_mirror_X4_isPlace rfl (n := 1) rfl (by decide +kernel) ⟨Nat.le_of_ble_eq_true rfl, Nat.le_of_ble_eq_true rfl⟩ hw hl.1 rfl (Nat.le_of_ble_eq_true rfl) dX4_mirror_8 ⟨Nat.le_of_ble_eq_true rfl, Nat.le_of_ble_eq_true rfl⟩ (fun H locs hw => ?_)
    refine W.eq (g2 := F0 m 11 ls [.int r3]) rfl ?_
    refine lv_if_eq (tgt := 36) hx hb dX4_mirror_11 (by decide) (fun c4 => ?_) (fun c4 => ?_)
    · rw [if_pos c4] at h
      refine lv_iconst (v := 0) hx hb dX4_mirror_36 (by decide) ?_
      cases h
      exact hret_z hx hb hr hlocks hw (Or.inl rfl) dX4_mirror_37
    · rw [if_neg c4] at h
      refine lv_aload_n hx hb dX4_mirror_14 rfl (lv_at hl 0 rfl) ?_
      refine lv_iload_n hx hb dX4_mirror_15 rfl (lv_at hl 1 rfl) ?_
      replace h := hbd h
      obtain ⟨u5, eu5, h⟩ := h
      replace h := hbd h
      obtain ⟨r6, er6, h⟩ := h
      refine hcallV (o := some (.int r6)) hx hb hml hown hts hk [.int p1] [] (kX4_sortOn l g er6) gX4_mirror_X4_sortOn rfl (n := 1) rfl (by decide +kernel) ⟨Nat.le_of_ble_eq_true rfl, Nat.le_of_ble_eq_true rfl⟩ (ci := 3) rfl eu5 hw hl.1 rfl (Nat.le_of_ble_eq_true rfl) dX4_mirror_16 ⟨Nat.le_of_ble_eq_true rfl, Nat.le_of_ble_eq_true rfl⟩ (fun H locs hw => ?_)
      refine W.eq (g2 := F0 m 19 ls [.int r6]) rfl ?_
      replace h := hbd h
      obtain ⟨r7, er7, h⟩ := h
      refine hcallS (o := some (.int r7)) hx hb hml hown hts hk [.int r6] [] (kX4_isOfStones l g er7) gX4_mirror_X4_isOfStones rfl (n := 1) rfl (by decide +kernel) ⟨Nat.le_of_ble_eq_true rfl, Nat.le_of_ble_eq_true rfl⟩ hw hl.1 rfl (Nat.le_of_ble_eq_true rfl) dX4_mirror_19 ⟨Nat.le_of_ble_eq_true rfl, Nat.le_of_ble_eq_true rfl⟩ (fun H locs hw => ?_)
      refine W.eq (g2 := F0 m 22 ls [.int r7]) rfl ?_
      refine lv_if_eq (tgt := 36) hx hb dX4_mirror_22 (by decide) (fun c8 => ?_) (fun c8 => ?_)
      · rw [if_pos c8] at h
        refine lv_iconst (v := 0) hx hb dX4_mirror_36 (by decide) ?_
        cases h
        exact hret_z hx hb hr hlocks hw (Or.inl rfl) dX4_mirror_37
      · rw [if_neg c8] at h
        refine lv_aload_n hx hb dX4_mirror_25 rfl (lv_at hl 0 rfl) ?_
        refine lv_iload_n hx hb dX4_mirror_26 rfl (lv_at hl 2 rfl) ?_
        replace h := hbd h
        obtain ⟨u9, eu9, h⟩ := h
        replace h := hbd h
        obtain ⟨r10, er10, h⟩ := h
        refine hcallV (o := some (.int r10)) hx hb hml hown hts hk [.int p2] [] (kX4_sortOn l g er10) gX4_mirror_X4_sortOn rfl (n := 1) rfl (by decide +kernel) ⟨Nat.le_of_ble_eq_true rfl, Nat.le_of_ble_eq_true rfl⟩ (ci := 3) rfl eu9 hw hl.1 rfl (Nat.le_of_ble_eq_true rfl) dX4_mirror_27 ⟨Nat.le_of_ble_eq_true rfl, Nat.le_of_ble_eq_true rfl⟩ (fun H locs hw => ?_)
        refine W.eq (g2 := F0 m 30 ls [.int r10]) rfl ?_
        replace h := hbd h
        obtain ⟨r11, er11, h⟩ := h
        refine hcallS (o := some (.int r11)) hx hb hml hown hts hk [.int r10] [] (kX4_isOfStones l g er11) gX4_mirror_X4_isOfStones rfl (n := 1) rfl (by decide +kernel) ⟨Nat.le_of_ble_eq_true rfl, Nat.le_of_ble_eq_true rfl⟩ hw hl.1 rfl (Nat.le_of_ble_eq_true rfl) dX4_mirror_30 ⟨Nat.le_of_ble_eq_true rfl, Nat.le_of_ble_eq_true rfl⟩ (fun H locs hw => ?_)
        refine W.eq (g2 := F0 m 33 ls [.int r11]) rfl ?_
        refine lv_if_ne (tgt := 38) hx hb dX4_mirror_33 (by decide) (fun c12 => ?_) (fun c12 => ?_)
        · rw [if_neg c12] at h
          refine lv_aload_n hx hb dX4_mirror_38 rfl (lv_at hl 0 rfl) ?_
          refine lv_iload_n hx hb dX4_mirror_39 rfl (lv_at hl 1 rfl) ?_
          replace h := hbd h
          obtain ⟨u13, eu13, h⟩ := h
          replace h := hbd h
          obtain ⟨r14, er14, h⟩ := h
          refine hcallV (o := some (.int r14)) hx hb hml hown hts hk [.int p1] [] (kX4_manyOn l g er14) gX4_mirror_X4_manyOn rfl (n := 1) rfl (by decide +kernel) ⟨Nat.le_of_ble_eq_true rfl, Nat.le_of_ble_eq_true rfl⟩ (ci := 3) rfl eu13 hw hl.1 rfl (Nat.le_of_ble_eq_true rfl) dX4_mirror_40 ⟨Nat.le_of_ble_eq_true rfl, Nat.le_of_ble_eq_true rfl⟩ (fun H locs hw => ?_)
          refine W.eq (g2 := F0 m 43 ls [.int r14]) rfl ?_
          refine lv_istore_n (lv' := [(3, .int r14), (0, .ref a), (1, .int p1), (2, .int p2)]) hx hb dX4_mirror_43 rfl hl (by decide) rfl (fun ls hl => ?_)
          refine lv_iload_n hx hb dX4_mirror_44 rfl (lv_at hl 0 rfl) ?_
          refine lv_aload_n hx hb dX4_mirror_45 rfl (lv_at hl 1 rfl) ?_
          refine lv_iload_n hx hb dX4_mirror_46 rfl (lv_at hl 3 rfl) ?_
          replace h := hbd h
          obtain ⟨u15, eu15, h⟩ := h
          replace h := hbd h
          obtain ⟨r16, er16, h⟩ := h
          refine hcallV (o := some (.int r16)) hx hb hml hown hts hk [.int p2] [.int r14] (kX4_manyOn l g er16) gX4_mirror_X4_manyOn rfl (n := 1) rfl (by decide +kernel) ⟨Nat.le_of_ble_eq_true rfl, Nat.le_of_ble_eq_true rfl⟩ (ci := 3) rfl eu15 hw hl.1 rfl (Nat.le_of_ble_eq_true rfl) dX4_mirror_47 ⟨Nat.le_of_ble_eq_true rfl, Nat.le_of_ble_eq_true rfl⟩ (fun H locs hw => ?_)
          refine W.eq (g2 := F0 m 50 ls [.int r16, .int r14]) rfl ?_
          refine lv_icmp_eq (tgt := 55) hx hb dX4_mirror_50 (by decide) (fun c17 => ?_) (fun c17 => ?_)
          · rw [if_pos c17] at h
            refine lv_iconst (v := 1) hx hb dX4_mirror_55 (by decide) ?_
            refine lv_istore (lv' := [(4, .int 1), (3, .int r14), (0, .ref a), (1, .int p1), (2, .int p2)]) hx hb dX4_mirror_56 hl (by decide) rfl (fun ls hl => ?_)
            refine lv_iconst (v := 0) hx hb dX4_mirror_58 (by decide) ?_
            refine lv_istore (lv' := [(5, .int 0), (4, .int 1), (3, .int r14), (0, .ref a), (1, .int p1), (2, .int p2)]) hx hb dX4_mirror_59 hl (by decide) rfl (fun ls hl => ?_)
            exact kX4_mirror_j61 C 64 _ _ _ _ _ _ h _ _ _ hw (lv_sub hl [3, 4, 5, 2, 1, 0] rfl)
          · rw [if_neg c17] at h
            refine lv_iconst (v := 0) hx hb dX4_mirror_53 (by decide) ?_
            cases h
            exact hret_z hx hb hr hlocks hw (Or.inl rfl) dX4_mirror_54
        · rw [if_pos c12] at h
          refine lv_iconst (v := 0) hx hb dX4_mirror_36 (by decide) ?_
          cases h
          exact hret_z hx hb hr hlocks hw (Or.inl rfl) dX4_mirror_37
theorem iX4_count_X4 : ∀ w ∈ wsX40, w ∈ wsX4_count := by decide +kernel
def fX4_count (f : hPl) (a : Nat) (p1 : Int32) : Option Int32 := (if p1 < 0 then some (-1) else (if p1 ≤ 6 then (hgQ f a 3 8).bind fun q3 => q3.bind fun a4 => (hlI f a4 p1).bind fun x5 => some x5 else some (-1)))
set_option maxHeartbeats 4000000 in
set_option maxRecDepth 100000 in
theorem kX4_count (l : Launch) (g : hGb) {f : hPl} {z : Nat} {a : Nat} {p1 : Int32} {r : Int32} (h : fX4_count f a p1 = some r) : hCt l g yX4_count wsX4_count 0 0 0 [.ref a, .int p1] f z (some (.int r)) f z := by
  refine hCt.of (cc := cX4_count) (maxL := 2) (ret := (some .int)) (by decide +kernel) rfl (by exact Nat.le_of_ble_eq_true rfl) ?_
  intro p e s m below meth c C hname hw ls hl
  obtain ⟨hx, hb, hml, hown, hts, hr, hlocks, hk⟩ := id C
  have hl : lv_has ls 2 [(0, .ref a), (1, .int p1)] := hl
  have hown : s.vm.findClass RX4 = some m.cls := hown
  unfold fX4_count at h
  refine lv_iload_n hx hb dX4_count_0 rfl (lv_at hl 1 rfl) ?_
  refine lv_if_lt (tgt := 10) hx hb dX4_count_1 (by decide) (fun c1 => ?_) (fun c1 => ?_)
  · rw [if_pos c1] at h
    refine lv_iconst (v := (-1)) hx hb dX4_count_10 (by decide) ?_
    refine lv_goto (tgt := 20) hx hb dX4_count_11 (by decide) ?_
    cases h
    exact hret_i hx hb hr hlocks hw dX4_count_20
  · rw [if_neg c1] at h
    refine lv_iload_n hx hb dX4_count_4 rfl (lv_at hl 1 rfl) ?_
    refine lv_bipush (v := 6) hx hb dX4_count_5 (by decide) ?_
    refine lv_icmp_le (tgt := 14) hx hb dX4_count_7 (by decide) (fun c2 => ?_) (fun c2 => ?_)
    · rw [if_pos c2] at h
      refine lv_aload_n hx hb dX4_count_14 rfl (lv_at hl 0 rfl) ?_
      replace h := hbd h
      obtain ⟨q3, eq3, h⟩ := h
      refine hr_getQ (C := RX4) (T := TX4) (N := 9) hx hb hts iX4_count_X4 hown hk hw rfl 8 (by decide) (hts (.fieldLink RX4 36 "SetterBenchModel" "counts" "[I") (by decide +kernel)) (fun _ h9 => h9) eq3 dX4_count_15 ?_
      refine lv_iload_n hx hb dX4_count_18 rfl (lv_at hl 1 rfl) ?_
      replace h := hbd h
      obtain ⟨a4, rfl, h⟩ := h
      replace h := hbd h
      obtain ⟨x5, ex5, h⟩ := h
      refine hr_lI hx hb hk hw ex5 dX4_count_19 ?_
      cases h
      exact hret_i hx hb hr hlocks hw dX4_count_20
    · rw [if_neg c2] at h
      refine lv_iconst (v := (-1)) hx hb dX4_count_10 (by decide) ?_
      refine lv_goto (tgt := 20) hx hb dX4_count_11 (by decide) ?_
      cases h
      exact hret_i hx hb hr hlocks hw dX4_count_20
