theorem iX1_init_X0 : ∀ w ∈ wsX00, w ∈ wsX1_init := by decide +kernel
theorem iX1_init_X2 : ∀ w ∈ wsX20, w ∈ wsX1_init := by decide +kernel
def fX1_init (f : hPl) (z : Nat) (a : Nat) (p1 : Int32) : Option (Unit × hPl × Nat) := (hputT f a p1).bind fun f1 => some ((), f1, z)
set_option maxHeartbeats 4000000 in
set_option maxRecDepth 100000 in
theorem kX1_init (l : Launch) (g : hGb) {f : hPl} {z : Nat} {a : Nat} {p1 : Int32} {r : Unit} {f' : hPl} {z' : Nat} (h : fX1_init f z a p1 = some (r, f', z')) : hCt l g yX1_init wsX1_init 1 0 0 [.ref a, .int p1] f z none f' z' := by
  refine hCt.of (cc := cX1_init) (maxL := 2) (ret := none) (by decide +kernel) rfl (by exact Nat.le_of_ble_eq_true rfl) ?_
  intro p e s m below meth c C hname hw ls hl
  obtain ⟨hx, hb, hml, hown, hts, hr, hlocks, hk⟩ := id C
  have hl : lv_has ls 2 [(0, .ref a), (1, .int p1)] := hl
  have hown : s.vm.findClass RX1 = some m.cls := hown
  unfold fX1_init at h
  refine lv_aload_n hx hb dX1_init_0 rfl (lv_at hl 0 rfl) ?_
  refine W.objInit hx hb hown (hts (.methodLink RX1 1 objectInit) (by decide +kernel)) (hts (.instanceMethod objectInit) (by decide +kernel)) (hts (.code objectInit ⟨#[0xb1]⟩ 1 none) (by decide +kernel)) rfl (hl.1.trans hml.symm) rfl dX1_init_1 (Nat.le_of_ble_eq_true rfl) (Nat.le_of_ble_eq_true rfl) ?_
  refine lv_aload_n hx hb dX1_init_4 rfl (lv_at hl 0 rfl) ?_
  refine lv_iload_n hx hb dX1_init_5 rfl (lv_at hl 1 rfl) ?_
  replace h := hbd h
  obtain ⟨f1, ef1, h⟩ := h
  refine hr_putT hx hb hts iX1_init_X0 iX1_init_X2 hown hk hw hname (hts (.fieldLink RX1 7 "SetterBench$Thing" "sort" "I") (by decide +kernel)) ef1 dX1_init_6 (fun H locs hw => ?_)
  cases h
  exact hret_v hx hb hr hlocks hw dX1_init_9
def fX0_init (f : hPl) (z : Nat) (a : Nat) : Option (Unit × hPl × Nat) := (fX1_init f z a 1).bind fun r1t => some ((), r1t.2.1, r1t.2.2)
set_option maxHeartbeats 4000000 in
set_option maxRecDepth 100000 in
theorem kX0_init (l : Launch) (g : hGb) {f : hPl} {z : Nat} {a : Nat} {r : Unit} {f' : hPl} {z' : Nat} (h : fX0_init f z a = some (r, f', z')) : hCt l g yX0_init wsX0_init 2 0 0 [.ref a] f z none f' z' := by
  refine hCt.of (cc := cX0_init) (maxL := 1) (ret := none) (by decide +kernel) rfl (by exact Nat.le_of_ble_eq_true rfl) ?_
  intro p e s m below meth c C hname hw ls hl
  obtain ⟨hx, hb, hml, hown, hts, hr, hlocks, hk⟩ := id C
  have hl : lv_has ls 1 [(0, .ref a)] := hl
  have hown : s.vm.findClass RX0 = some m.cls := hown
  unfold fX0_init at h
  refine lv_aload_n hx hb dX0_init_0 rfl (lv_at hl 0 rfl) ?_
  refine lv_iconst (v := 1) hx hb dX0_init_1 (by decide) ?_
  replace h := hbd h
  obtain ⟨⟨r1, f2, z3⟩, er1, h⟩ := h
  dsimp only at h
  refine hcallI (o := none) hx hb hml hown hts hk [.int 1] [] (kX1_init l g er1) gX0_init_X1_init rfl (hts (.initialized RX1) (by decide +kernel)) (hts (.methodLink RX0 3 yX1_init) (by decide +kernel)) (hts (.instanceMethod yX1_init) (by decide +kernel)) (n := 1) rfl (by decide +kernel) rfl ⟨Nat.le_of_ble_eq_true rfl, Nat.le_of_ble_eq_true rfl⟩ hw hl.1 rfl (Nat.le_of_ble_eq_true rfl) dX0_init_2 ⟨Nat.le_of_ble_eq_true rfl, Nat.le_of_ble_eq_true rfl⟩ (fun H locs hw => ?_)
  refine W.eq (g2 := F0 m 5 ls []) rfl ?_
  cases h
  exact hret_v hx hb hr hlocks hw dX0_init_5
theorem iX2_init_X2 : ∀ w ∈ wsX20, w ∈ wsX2_init := by decide +kernel
def fX2_init (f : hPl) (z : Nat) (a : Nat) (p1 : Int32) (p2 : Int32) : Option (Unit × hPl × Nat) := (fX1_init f z a p1).bind fun r1t => (if ¬ p2 < 0 ∧ p2.toNatClampNeg ≤ 40 then some () else none).bind fun _ => (some (hup r1t.2.1 r1t.2.2 (aJ p2.toNatClampNeg (fun _ => 0)))).bind fun f5 => (hput f5 a 1 1 (.ref r1t.2.2)).bind fun f6 => some ((), f6, (r1t.2.2 + 1))
set_option maxHeartbeats 4000000 in
set_option maxRecDepth 100000 in
theorem kX2_init (l : Launch) (g : hGb) {f : hPl} {z : Nat} {a : Nat} {p1 : Int32} {p2 : Int32} {r : Unit} {f' : hPl} {z' : Nat} (h : fX2_init f z a p1 p2 = some (r, f', z')) : hCt l g yX2_init wsX2_init 2 1 40 [.ref a, .int p1, .int p2] f z none f' z' := by
  refine hCt.of (cc := cX2_init) (maxL := 3) (ret := none) (by decide +kernel) rfl (by exact Nat.le_of_ble_eq_true rfl) ?_
  intro p e s m below meth c C hname hw ls hl
  obtain ⟨hx, hb, hml, hown, hts, hr, hlocks, hk⟩ := id C
  have hl : lv_has ls 3 [(0, .ref a), (1, .int p1), (2, .int p2)] := hl
  have hown : s.vm.findClass RX2 = some m.cls := hown
  unfold fX2_init at h
  refine lv_aload_n hx hb dX2_init_0 rfl (lv_at hl 0 rfl) ?_
  refine lv_iload_n hx hb dX2_init_1 rfl (lv_at hl 1 rfl) ?_
  replace h := hbd h
  obtain ⟨⟨r1, f2, z3⟩, er1, h⟩ := h
  dsimp only at h
  refine hcallI (o := none) hx hb hml hown hts hk [.int p1] [] (kX1_init l g er1) gX2_init_X1_init rfl (hts (.initialized RX1) (by decide +kernel)) (hts (.methodLink RX2 3 yX1_init) (by decide +kernel)) (hts (.instanceMethod yX1_init) (by decide +kernel)) (n := 1) rfl (by decide +kernel) rfl ⟨Nat.le_of_ble_eq_true rfl, Nat.le_of_ble_eq_true rfl⟩ hw hl.1 rfl (Nat.le_of_ble_eq_true rfl) dX2_init_2 ⟨Nat.le_of_ble_eq_true rfl, Nat.le_of_ble_eq_true rfl⟩ (fun H locs hw => ?_)
  refine W.eq (g2 := F0 m 5 ls []) rfl ?_
  refine lv_aload_n hx hb dX2_init_5 rfl (lv_at hl 0 rfl) ?_
  refine lv_iload_n hx hb dX2_init_6 rfl (lv_at hl 2 rfl) ?_
  replace h := hbd h
  obtain ⟨_, c4, h⟩ := h
  have c4 := (hif c4).1
  replace h := hbd h
  obtain ⟨f5, ef5, h⟩ := h
  have ef5 := Option.some.inj ef5
  refine hr_newJ (n := p2) (M := 40) hx hb hk (hts (.arrayClass .long) (by decide +kernel)) hw c4 (by decide) (Nat.le_of_ble_eq_true rfl) (Nat.le_of_ble_eq_true rfl) dX2_init_7 (fun H hw => ?_)
  rw [ef5] at hw
  replace h := hbd h
  obtain ⟨f6, ef6, h⟩ := h
  refine hr_putF (C := RX2) (T := TX2) (N := 2) (ty := .array .long) hx hb hts iX2_init_X2 tyX2 tyX2_ok nmX2 hown hk hw rfl 1 (by decide) (hts (.fieldLink RX2 9 "SetterBench$Tray" "cells" "[J") (by decide +kernel)) (fun _ h9 => h9) rfl hname rfl (by decide +kernel) rfl rfl ef6 dX2_init_9 (fun H locs hw => ?_)
  cases h
  exact hret_v hx hb hr hlocks hw dX2_init_12
theorem iX2_size_X2 : ∀ w ∈ wsX20, w ∈ wsX2_size := by decide +kernel
def fX2_size (f : hPl) (a : Nat) : Option Int32 := (hgQ f a 1 1).bind fun q1 => q1.bind fun a2 => (hln f a2).bind fun x3 => some x3
set_option maxHeartbeats 4000000 in
set_option maxRecDepth 100000 in
theorem kX2_size (l : Launch) (g : hGb) {f : hPl} {z : Nat} {a : Nat} {r : Int32} (h : fX2_size f a = some r) : hCt l g yX2_size wsX2_size 0 0 0 [.ref a] f z (some (.int r)) f z := by
  refine hCt.of (cc := cX2_size) (maxL := 1) (ret := (some .int)) (by decide +kernel) rfl (by exact Nat.le_of_ble_eq_true rfl) ?_
  intro p e s m below meth c C hname hw ls hl
  obtain ⟨hx, hb, hml, hown, hts, hr, hlocks, hk⟩ := id C
  have hl : lv_has ls 1 [(0, .ref a)] := hl
  have hown : s.vm.findClass RX2 = some m.cls := hown
  unfold fX2_size at h
  refine lv_aload_n hx hb dX2_size_0 rfl (lv_at hl 0 rfl) ?_
  replace h := hbd h
  obtain ⟨q1, eq1, h⟩ := h
  refine hr_getQ (C := RX2) (T := TX2) (N := 2) hx hb hts iX2_size_X2 hown hk hw rfl 1 (by decide) (hts (.fieldLink RX2 9 "SetterBench$Tray" "cells" "[J") (by decide +kernel)) (fun _ h9 => h9) eq1 dX2_size_1 ?_
  replace h := hbd h
  obtain ⟨a2, rfl, h⟩ := h
  replace h := hbd h
  obtain ⟨x3, ex3, h⟩ := h
  refine hr_len hx hb hk hw ex3 dX2_size_4 ?_
  cases h
  exact hret_i hx hb hr hlocks hw dX2_size_5
theorem iX2_isOfStones_X2 : ∀ w ∈ wsX20, w ∈ wsX2_isOfStones := by decide +kernel
def fX2_isOfStones (f : hPl) (a : Nat) : Option Int32 := (hgI f a 1 0).bind fun x1 => (if x1 < 6 then some 0 else some 1)
set_option maxHeartbeats 4000000 in
set_option maxRecDepth 100000 in
theorem kX2_isOfStones (l : Launch) (g : hGb) {f : hPl} {z : Nat} {a : Nat} {r : Int32} (h : fX2_isOfStones f a = some r) : hCt l g yX2_isOfStones wsX2_isOfStones 0 0 0 [.ref a] f z (some (.int r)) f z := by
  refine hCt.of (cc := cX2_isOfStones) (maxL := 1) (ret := (some .boolean)) (by decide +kernel) rfl (by exact Nat.le_of_ble_eq_true rfl) ?_
  intro p e s m below meth c C hname hw ls hl
  obtain ⟨hx, hb, hml, hown, hts, hr, hlocks, hk⟩ := id C
  have hl : lv_has ls 1 [(0, .ref a)] := hl
  have hown : s.vm.findClass RX2 = some m.cls := hown
  unfold fX2_isOfStones at h
  refine lv_aload_n hx hb dX2_isOfStones_0 rfl (lv_at hl 0 rfl) ?_
  replace h := hbd h
  obtain ⟨x1, ex1, h⟩ := h
  refine hr_getI (C := RX2) (T := TX2) (N := 2) hx hb hts iX2_isOfStones_X2 hown hk hw rfl 0 (by decide) (hts (.fieldLink RX2 15 "SetterBench$Tray" "sort" "I") (by decide +kernel)) (u_same (hts (.sameField "SetterBench$Tray" "SetterBench$Thing" "sort" "I") (by decide +kernel))) ex1 dX2_isOfStones_1 ?_
  refine lv_bipush (v := 6) hx hb dX2_isOfStones_4 (by decide) ?_
  refine lv_icmp_lt (tgt := 13) hx hb dX2_isOfStones_6 (by decide) (fun c2 => ?_) (fun c2 => ?_)
  · rw [if_pos c2] at h
    refine lv_iconst (v := 0) hx hb dX2_isOfStones_13 (by decide) ?_
    cases h
    exact hret_z hx hb hr hlocks hw (Or.inl rfl) dX2_isOfStones_14
  · rw [if_neg c2] at h
    refine lv_iconst (v := 1) hx hb dX2_isOfStones_9 (by decide) ?_
    refine lv_goto (tgt := 14) hx hb dX2_isOfStones_10 (by decide) ?_
    cases h
    exact hret_z hx hb hr hlocks hw (Or.inr rfl) dX2_isOfStones_14
theorem iX2_isLike_X2 : ∀ w ∈ wsX20, w ∈ wsX2_isLike := by decide +kernel
def fX2_isLike (f : hPl) (a : Nat) (p1 : Option Nat) : Option Int32 := (hgI f a 1 0).bind fun x1 => p1.bind fun a2 => (hgI f a2 1 0).bind fun x3 => (if x1 = x3 then some 1 else (hob f a 1).bind fun u5 => (fX2_isOfStones f a ).bind fun r6 => (if r6 = 0 then some 0 else (hob f a2 1).bind fun u8 => (fX2_isOfStones f a2 ).bind fun r9 => (if r9 = 0 then some 0 else some 1)))
set_option maxHeartbeats 4000000 in
set_option maxRecDepth 100000 in
theorem kX2_isLike (l : Launch) (g : hGb) {f : hPl} {z : Nat} {a : Nat} {p1 : Option Nat} {r : Int32} (h : fX2_isLike f a p1 = some r) : hCt l g yX2_isLike wsX2_isLike 1 0 0 [.ref a, va_rf p1] f z (some (.int r)) f z := by
  refine hCt.of (cc := cX2_isLike) (maxL := 2) (ret := (some .boolean)) (by decide +kernel) rfl (by cases p1 <;> exact Nat.le_of_ble_eq_true rfl) ?_
  intro p e s m below meth c C hname hw ls hl
  obtain ⟨hx, hb, hml, hown, hts, hr, hlocks, hk⟩ := id C
  have hl : lv_has ls 2 [(0, .ref a), (1, va_rf p1)] := by cases p1 <;> exact hl
  have hown : s.vm.findClass RX2 = some m.cls := hown
  unfold fX2_isLike at h
  refine lv_aload_n hx hb dX2_isLike_0 rfl (lv_at hl 0 rfl) ?_
  replace h := hbd h
  obtain ⟨x1, ex1, h⟩ := h
  refine hr_getI (C := RX2) (T := TX2) (N := 2) hx hb hts iX2_isLike_X2 hown hk hw rfl 0 (by decide) (hts (.fieldLink RX2 15 "SetterBench$Tray" "sort" "I") (by decide +kernel)) (u_same (hts (.sameField "SetterBench$Tray" "SetterBench$Thing" "sort" "I") (by decide +kernel))) ex1 dX2_isLike_1 ?_
  refine hv_aload_n hx hb dX2_isLike_4 rfl (lv_at hl 1 rfl) ?_
  replace h := hbd h
  obtain ⟨a2, rfl, h⟩ := h
  replace h := hbd h
  obtain ⟨x3, ex3, h⟩ := h
  refine hr_getI (C := RX2) (T := TX2) (N := 2) hx hb hts iX2_isLike_X2 hown hk hw rfl 0 (by decide) (hts (.fieldLink RX2 15 "SetterBench$Tray" "sort" "I") (by decide +kernel)) (u_same (hts (.sameField "SetterBench$Tray" "SetterBench$Thing" "sort" "I") (by decide +kernel))) ex3 dX2_isLike_5 ?_
  refine lv_icmp_eq (tgt := 25) hx hb dX2_isLike_8 (by decide) (fun c4 => ?_) (fun c4 => ?_)
  · rw [if_pos c4] at h
    refine lv_iconst (v := 1) hx hb dX2_isLike_25 (by decide) ?_
    refine lv_goto (tgt := 30) hx hb dX2_isLike_26 (by decide) ?_
    cases h
    exact hret_z hx hb hr hlocks hw (Or.inr rfl) dX2_isLike_30
  · rw [if_neg c4] at h
    refine lv_aload_n hx hb dX2_isLike_11 rfl (lv_at hl 0 rfl) ?_
    replace h := hbd h
    obtain ⟨u5, eu5, h⟩ := h
    replace h := hbd h
    obtain ⟨r6, er6, h⟩ := h
    refine hcallV (o := some (.int r6)) hx hb hml hown hts hk [] [] (kX2_isOfStones l g er6) gX2_isLike_X2_isOfStones rfl (n := 0) rfl (by decide +kernel) ⟨Nat.le_of_ble_eq_true rfl, Nat.le_of_ble_eq_true rfl⟩ (ci := 1) rfl eu5 hw hl.1 rfl (Nat.le_of_ble_eq_true rfl) dX2_isLike_12 ⟨Nat.le_of_ble_eq_true rfl, Nat.le_of_ble_eq_true rfl⟩ (fun H locs hw => ?_)
    refine W.eq (g2 := F0 m 15 ls [.int r6]) rfl ?_
    refine lv_if_eq (tgt := 29) hx hb dX2_isLike_15 (by decide) (fun c7 => ?_) (fun c7 => ?_)
    · rw [if_pos c7] at h
      refine lv_iconst (v := 0) hx hb dX2_isLike_29 (by decide) ?_
      cases h
      exact hret_z hx hb hr hlocks hw (Or.inl rfl) dX2_isLike_30
    · rw [if_neg c7] at h
      refine lv_aload_n hx hb dX2_isLike_18 rfl (lv_at hl 1 rfl) ?_
      replace h := hbd h
      obtain ⟨u8, eu8, h⟩ := h
      replace h := hbd h
      obtain ⟨r9, er9, h⟩ := h
      refine hcallV (o := some (.int r9)) hx hb hml hown hts hk [] [] (kX2_isOfStones l g er9) gX2_isLike_X2_isOfStones rfl (n := 0) rfl (by decide +kernel) ⟨Nat.le_of_ble_eq_true rfl, Nat.le_of_ble_eq_true rfl⟩ (ci := 1) rfl eu8 hw hl.1 rfl (Nat.le_of_ble_eq_true rfl) dX2_isLike_19 ⟨Nat.le_of_ble_eq_true rfl, Nat.le_of_ble_eq_true rfl⟩ (fun H locs hw => ?_)
      refine W.eq (g2 := F0 m 22 ls [.int r9]) rfl ?_
      refine lv_if_eq (tgt := 29) hx hb dX2_isLike_22 (by decide) (fun c10 => ?_) (fun c10 => ?_)
      · rw [if_pos c10] at h
        refine lv_iconst (v := 0) hx hb dX2_isLike_29 (by decide) ?_
        cases h
        exact hret_z hx hb hr hlocks hw (Or.inl rfl) dX2_isLike_30
      · rw [if_neg c10] at h
        refine lv_iconst (v := 1) hx hb dX2_isLike_25 (by decide) ?_
        refine lv_goto (tgt := 30) hx hb dX2_isLike_26 (by decide) ?_
        cases h
        exact hret_z hx hb hr hlocks hw (Or.inr rfl) dX2_isLike_30
theorem iX2_hasRun_X2 : ∀ w ∈ wsX20, w ∈ wsX2_hasRun := by decide +kernel
def fX2_hasRun (f : hPl) (a : Nat) (p1 : Int32) (p2 : Int32) : Option Int32 := (if p1 < 0 then some 0 else (if p2 < 0 then some 0 else (hgQ f a 1 1).bind fun q3 => q3.bind fun a4 => (hln f a4).bind fun x5 => (if 0 < (lg_cmp ((p1.toInt64) + (p2.toInt64)) (x5.toInt64)) then some 0 else some 1)))
set_option maxHeartbeats 4000000 in
set_option maxRecDepth 100000 in
theorem kX2_hasRun (l : Launch) (g : hGb) {f : hPl} {z : Nat} {a : Nat} {p1 : Int32} {p2 : Int32} {r : Int32} (h : fX2_hasRun f a p1 p2 = some r) : hCt l g yX2_hasRun wsX2_hasRun 0 0 0 [.ref a, .int p1, .int p2] f z (some (.int r)) f z := by
  refine hCt.of (cc := cX2_hasRun) (maxL := 3) (ret := (some .boolean)) (by decide +kernel) rfl (by exact Nat.le_of_ble_eq_true rfl) ?_
  intro p e s m below meth c C hname hw ls hl
  obtain ⟨hx, hb, hml, hown, hts, hr, hlocks, hk⟩ := id C
  have hl : lv_has ls 3 [(0, .ref a), (1, .int p1), (2, .int p2)] := hl
  have hown : s.vm.findClass RX2 = some m.cls := hown
  unfold fX2_hasRun at h
  refine lv_iload_n hx hb dX2_hasRun_0 rfl (lv_at hl 1 rfl) ?_
  refine lv_if_lt (tgt := 27) hx hb dX2_hasRun_1 (by decide) (fun c1 => ?_) (fun c1 => ?_)
  · rw [if_pos c1] at h
    refine lv_iconst (v := 0) hx hb dX2_hasRun_27 (by decide) ?_
    cases h
    exact hret_z hx hb hr hlocks hw (Or.inl rfl) dX2_hasRun_28
  · rw [if_neg c1] at h
    refine lv_iload_n hx hb dX2_hasRun_4 rfl (lv_at hl 2 rfl) ?_
    refine lv_if_lt (tgt := 27) hx hb dX2_hasRun_5 (by decide) (fun c2 => ?_) (fun c2 => ?_)
    · rw [if_pos c2] at h
      refine lv_iconst (v := 0) hx hb dX2_hasRun_27 (by decide) ?_
      cases h
      exact hret_z hx hb hr hlocks hw (Or.inl rfl) dX2_hasRun_28
    · rw [if_neg c2] at h
      refine lv_iload_n hx hb dX2_hasRun_8 rfl (lv_at hl 1 rfl) ?_
      refine lv_i2l hx hb dX2_hasRun_9 rfl ?_
      refine lv_iload_n hx hb dX2_hasRun_10 rfl (lv_at hl 2 rfl) ?_
      refine lv_i2l hx hb dX2_hasRun_11 rfl ?_
      refine lv_ladd hx hb dX2_hasRun_12 ?_
      refine lv_aload_n hx hb dX2_hasRun_13 rfl (lv_at hl 0 rfl) ?_
      replace h := hbd h
      obtain ⟨q3, eq3, h⟩ := h
      refine hr_getQ (C := RX2) (T := TX2) (N := 2) hx hb hts iX2_hasRun_X2 hown hk hw rfl 1 (by decide) (hts (.fieldLink RX2 9 "SetterBench$Tray" "cells" "[J") (by decide +kernel)) (fun _ h9 => h9) eq3 dX2_hasRun_14 ?_
      replace h := hbd h
      obtain ⟨a4, rfl, h⟩ := h
      replace h := hbd h
      obtain ⟨x5, ex5, h⟩ := h
      refine hr_len hx hb hk hw ex5 dX2_hasRun_17 ?_
      refine lv_i2l hx hb dX2_hasRun_18 rfl ?_
      refine W.lcmp hx hb dX2_hasRun_19 ?_
      refine lv_if_gt (tgt := 27) hx hb dX2_hasRun_20 (by decide) (fun c6 => ?_) (fun c6 => ?_)
      · rw [if_pos c6] at h
        refine lv_iconst (v := 0) hx hb dX2_hasRun_27 (by decide) ?_
        cases h
        exact hret_z hx hb hr hlocks hw (Or.inl rfl) dX2_hasRun_28
      · rw [if_neg c6] at h
        refine lv_iconst (v := 1) hx hb dX2_hasRun_23 (by decide) ?_
        refine lv_goto (tgt := 28) hx hb dX2_hasRun_24 (by decide) ?_
        cases h
        exact hret_z hx hb hr hlocks hw (Or.inr rfl) dX2_hasRun_28
theorem iX2_read_X2 : ∀ w ∈ wsX20, w ∈ wsX2_read := by decide +kernel
def fX2_read (f : hPl) (a : Nat) (p1 : Int32) : Option Int64 := (hob f a 1).bind fun u1 => (fX2_hasRun f a p1 1).bind fun r2 => (if r2 = 0 then some (-1 : Int64) else (hgQ f a 1 1).bind fun q4 => q4.bind fun a5 => (hlJ f a5 p1).bind fun x6 => some x6)
set_option maxHeartbeats 4000000 in
set_option maxRecDepth 100000 in
theorem kX2_read (l : Launch) (g : hGb) {f : hPl} {z : Nat} {a : Nat} {p1 : Int32} {r : Int64} (h : fX2_read f a p1 = some r) : hCt l g yX2_read wsX2_read 1 0 0 [.ref a, .int p1] f z (some (.long r)) f z := by
  refine hCt.of (cc := cX2_read) (maxL := 2) (ret := (some .long)) (by decide +kernel) rfl (by exact Nat.le_of_ble_eq_true rfl) ?_
  intro p e s m below meth c C hname hw ls hl
  obtain ⟨hx, hb, hml, hown, hts, hr, hlocks, hk⟩ := id C
  have hl : lv_has ls 2 [(0, .ref a), (1, .int p1)] := hl
  have hown : s.vm.findClass RX2 = some m.cls := hown
  unfold fX2_read at h
  refine lv_aload_n hx hb dX2_read_0 rfl (lv_at hl 0 rfl) ?_
  refine lv_iload_n hx hb dX2_read_1 rfl (lv_at hl 1 rfl) ?_
  refine lv_iconst (v := 1) hx hb dX2_read_2 (by decide) ?_
  replace h := hbd h
  obtain ⟨u1, eu1, h⟩ := h
  replace h := hbd h
  obtain ⟨r2, er2, h⟩ := h
  refine hcallV (o := some (.int r2)) hx hb hml hown hts hk [.int p1, .int 1] [] (kX2_hasRun l g er2) gX2_read_X2_hasRun rfl (n := 2) rfl (by decide +kernel) ⟨Nat.le_of_ble_eq_true rfl, Nat.le_of_ble_eq_true rfl⟩ (ci := 1) rfl eu1 hw hl.1 rfl (Nat.le_of_ble_eq_true rfl) dX2_read_3 ⟨Nat.le_of_ble_eq_true rfl, Nat.le_of_ble_eq_true rfl⟩ (fun H locs hw => ?_)
  refine W.eq (g2 := F0 m 6 ls [.int r2]) rfl ?_
  refine lv_if_eq (tgt := 18) hx hb dX2_read_6 (by decide) (fun c3 => ?_) (fun c3 => ?_)
  · rw [if_pos c3] at h
    refine lv_ldc2 (v := (-1)) hx hb hown (hts (.constantLong RX2 27 (-1)) (by decide +kernel)) dX2_read_18 ?_
    cases h
    exact hret_l hx hb hr hlocks hw dX2_read_21
  · rw [if_neg c3] at h
    refine lv_aload_n hx hb dX2_read_9 rfl (lv_at hl 0 rfl) ?_
    replace h := hbd h
    obtain ⟨q4, eq4, h⟩ := h
    refine hr_getQ (C := RX2) (T := TX2) (N := 2) hx hb hts iX2_read_X2 hown hk hw rfl 1 (by decide) (hts (.fieldLink RX2 9 "SetterBench$Tray" "cells" "[J") (by decide +kernel)) (fun _ h9 => h9) eq4 dX2_read_10 ?_
    refine lv_iload_n hx hb dX2_read_13 rfl (lv_at hl 1 rfl) ?_
    replace h := hbd h
    obtain ⟨a5, rfl, h⟩ := h
    replace h := hbd h
    obtain ⟨x6, ex6, h⟩ := h
    refine hr_lJ hx hb hk hw ex6 dX2_read_14 ?_
    refine lv_goto (tgt := 21) hx hb dX2_read_15 (by decide) ?_
    cases h
    exact hret_l hx hb hr hlocks hw dX2_read_21
theorem iX2_write_X2 : ∀ w ∈ wsX20, w ∈ wsX2_write := by decide +kernel
def fX2_write (f : hPl) (z : Nat) (a : Nat) (p1 : Int32) (p2 : Int64) : Option (Int32 × hPl × Nat) := (hob f a 1).bind fun u1 => (fX2_hasRun f a p1 1).bind fun r2 => (if r2 = 0 then some (0, f, z) else (hgQ f a 1 1).bind fun q4 => q4.bind fun a5 => (hsJ f a5 p1 p2).bind fun f6 => some (1, f6, z))
set_option maxHeartbeats 4000000 in
set_option maxRecDepth 100000 in
theorem kX2_write (l : Launch) (g : hGb) {f : hPl} {z : Nat} {a : Nat} {p1 : Int32} {p2 : Int64} {r : Int32} {f' : hPl} {z' : Nat} (h : fX2_write f z a p1 p2 = some (r, f', z')) : hCt l g yX2_write wsX2_write 1 0 0 [.ref a, .int p1, .long p2] f z (some (.int r)) f' z' := by
  refine hCt.of (cc := cX2_write) (maxL := 4) (ret := (some .boolean)) (by decide +kernel) rfl (by exact Nat.le_of_ble_eq_true rfl) ?_
  intro p e s m below meth c C hname hw ls hl
  obtain ⟨hx, hb, hml, hown, hts, hr, hlocks, hk⟩ := id C
  have hl : lv_has ls 4 [(0, .ref a), (1, .int p1), (2, .long p2)] := hl
  have hown : s.vm.findClass RX2 = some m.cls := hown
  unfold fX2_write at h
  refine lv_aload_n hx hb dX2_write_0 rfl (lv_at hl 0 rfl) ?_
  refine lv_iload_n hx hb dX2_write_1 rfl (lv_at hl 1 rfl) ?_
  refine lv_iconst (v := 1) hx hb dX2_write_2 (by decide) ?_
  replace h := hbd h
  obtain ⟨u1, eu1, h⟩ := h
  replace h := hbd h
  obtain ⟨r2, er2, h⟩ := h
  refine hcallV (o := some (.int r2)) hx hb hml hown hts hk [.int p1, .int 1] [] (kX2_hasRun l g er2) gX2_write_X2_hasRun rfl (n := 2) rfl (by decide +kernel) ⟨Nat.le_of_ble_eq_true rfl, Nat.le_of_ble_eq_true rfl⟩ (ci := 1) rfl eu1 hw hl.1 rfl (Nat.le_of_ble_eq_true rfl) dX2_write_3 ⟨Nat.le_of_ble_eq_true rfl, Nat.le_of_ble_eq_true rfl⟩ (fun H locs hw => ?_)
  refine W.eq (g2 := F0 m 6 ls [.int r2]) rfl ?_
  refine lv_if_ne (tgt := 11) hx hb dX2_write_6 (by decide) (fun c3 => ?_) (fun c3 => ?_)
  · rw [if_neg c3] at h
    refine lv_aload_n hx hb dX2_write_11 rfl (lv_at hl 0 rfl) ?_
    replace h := hbd h
    obtain ⟨q4, eq4, h⟩ := h
    refine hr_getQ (C := RX2) (T := TX2) (N := 2) hx hb hts iX2_write_X2 hown hk hw rfl 1 (by decide) (hts (.fieldLink RX2 9 "SetterBench$Tray" "cells" "[J") (by decide +kernel)) (fun _ h9 => h9) eq4 dX2_write_12 ?_
    refine lv_iload_n hx hb dX2_write_15 rfl (lv_at hl 1 rfl) ?_
    refine lv_lload_n hx hb dX2_write_16 rfl (lv_at hl 2 rfl) ?_
    replace h := hbd h
    obtain ⟨a5, rfl, h⟩ := h
    replace h := hbd h
    obtain ⟨f6, ef6, h⟩ := h
    refine hr_sJ hx hb hk hw ef6 dX2_write_17 (fun H locs hw => ?_)
    refine lv_iconst (v := 1) hx hb dX2_write_18 (by decide) ?_
    cases h
    exact hret_z hx hb hr hlocks hw (Or.inr rfl) dX2_write_19
  · rw [if_pos c3] at h
    refine lv_iconst (v := 0) hx hb dX2_write_9 (by decide) ?_
    cases h
    exact hret_z hx hb hr hlocks hw (Or.inl rfl) dX2_write_10
theorem iX2_stoneSortAt_X2 : ∀ w ∈ wsX20, w ∈ wsX2_stoneSortAt := by decide +kernel
def fX2_stoneSortAt (f : hPl) (a : Nat) (p1 : Int32) : Option Int32 := (hob f a 1).bind fun u1 => (fX2_hasRun f a p1 1).bind fun r2 => (if r2 = 0 then some 0 else (hgQ f a 1 1).bind fun q4 => q4.bind fun a5 => (hlJ f a5 p1).bind fun x6 => some ((x6 - x6 / (10 : Int64) * (10 : Int64)).toInt32))
set_option maxHeartbeats 4000000 in
set_option maxRecDepth 100000 in
theorem kX2_stoneSortAt (l : Launch) (g : hGb) {f : hPl} {z : Nat} {a : Nat} {p1 : Int32} {r : Int32} (h : fX2_stoneSortAt f a p1 = some r) : hCt l g yX2_stoneSortAt wsX2_stoneSortAt 1 0 0 [.ref a, .int p1] f z (some (.int r)) f z := by
  refine hCt.of (cc := cX2_stoneSortAt) (maxL := 2) (ret := (some .int)) (by decide +kernel) rfl (by exact Nat.le_of_ble_eq_true rfl) ?_
  intro p e s m below meth c C hname hw ls hl
  obtain ⟨hx, hb, hml, hown, hts, hr, hlocks, hk⟩ := id C
  have hl : lv_has ls 2 [(0, .ref a), (1, .int p1)] := hl
  have hown : s.vm.findClass RX2 = some m.cls := hown
  unfold fX2_stoneSortAt at h
  refine lv_aload_n hx hb dX2_stoneSortAt_0 rfl (lv_at hl 0 rfl) ?_
  refine lv_iload_n hx hb dX2_stoneSortAt_1 rfl (lv_at hl 1 rfl) ?_
  refine lv_iconst (v := 1) hx hb dX2_stoneSortAt_2 (by decide) ?_
  replace h := hbd h
  obtain ⟨u1, eu1, h⟩ := h
  replace h := hbd h
  obtain ⟨r2, er2, h⟩ := h
  refine hcallV (o := some (.int r2)) hx hb hml hown hts hk [.int p1, .int 1] [] (kX2_hasRun l g er2) gX2_stoneSortAt_X2_hasRun rfl (n := 2) rfl (by decide +kernel) ⟨Nat.le_of_ble_eq_true rfl, Nat.le_of_ble_eq_true rfl⟩ (ci := 1) rfl eu1 hw hl.1 rfl (Nat.le_of_ble_eq_true rfl) dX2_stoneSortAt_3 ⟨Nat.le_of_ble_eq_true rfl, Nat.le_of_ble_eq_true rfl⟩ (fun H locs hw => ?_)
  refine W.eq (g2 := F0 m 6 ls [.int r2]) rfl ?_
  refine lv_if_eq (tgt := 23) hx hb dX2_stoneSortAt_6 (by decide) (fun c3 => ?_) (fun c3 => ?_)
  · rw [if_pos c3] at h
    refine lv_iconst (v := 0) hx hb dX2_stoneSortAt_23 (by decide) ?_
    cases h
    exact hret_i hx hb hr hlocks hw dX2_stoneSortAt_24
  · rw [if_neg c3] at h
    refine lv_aload_n hx hb dX2_stoneSortAt_9 rfl (lv_at hl 0 rfl) ?_
    replace h := hbd h
    obtain ⟨q4, eq4, h⟩ := h
    refine hr_getQ (C := RX2) (T := TX2) (N := 2) hx hb hts iX2_stoneSortAt_X2 hown hk hw rfl 1 (by decide) (hts (.fieldLink RX2 9 "SetterBench$Tray" "cells" "[J") (by decide +kernel)) (fun _ h9 => h9) eq4 dX2_stoneSortAt_10 ?_
    refine lv_iload_n hx hb dX2_stoneSortAt_13 rfl (lv_at hl 1 rfl) ?_
    replace h := hbd h
    obtain ⟨a5, rfl, h⟩ := h
    replace h := hbd h
    obtain ⟨x6, ex6, h⟩ := h
    refine hr_lJ hx hb hk hw ex6 dX2_stoneSortAt_14 ?_
    refine lv_ldc2 (v := (10)) hx hb hown (hts (.constantLong RX2 29 (10)) (by decide +kernel)) dX2_stoneSortAt_15 ?_
    refine lv_lrem hx hb dX2_stoneSortAt_18 (by decide) ?_
    refine lv_l2i hx hb dX2_stoneSortAt_19 rfl ?_
    refine lv_goto (tgt := 24) hx hb dX2_stoneSortAt_20 (by decide) ?_
    cases h
    exact hret_i hx hb hr hlocks hw dX2_stoneSortAt_24
def fX3_isRound (f : hPl) (p1 : Int32) : Option Int32 := (if p1 = 3 then some 1 else (if p1 = 4 then some 1 else some 0))
set_option maxHeartbeats 4000000 in
set_option maxRecDepth 100000 in
theorem kX3_isRound (l : Launch) (g : hGb) {f : hPl} {z : Nat} {p1 : Int32} {r : Int32} (h : fX3_isRound f p1 = some r) : hCt l g yX3_isRound wsX3_isRound 0 0 0 [.int p1] f z (some (.int r)) f z := by
  refine hCt.of (cc := cX3_isRound) (maxL := 1) (ret := (some .boolean)) (by decide +kernel) rfl (by exact Nat.le_of_ble_eq_true rfl) ?_
  intro p e s m below meth c C hname hw ls hl
  obtain ⟨hx, hb, hml, hown, hts, hr, hlocks, hk⟩ := id C
  have hl : lv_has ls 1 [(0, .int p1)] := hl
  have hown : s.vm.findClass RX3 = some m.cls := hown
  unfold fX3_isRound at h
  refine lv_iload_n hx hb dX3_isRound_0 rfl (lv_at hl 0 rfl) ?_
  refine lv_iconst (v := 3) hx hb dX3_isRound_1 (by decide) ?_
  refine lv_icmp_eq (tgt := 10) hx hb dX3_isRound_2 (by decide) (fun c1 => ?_) (fun c1 => ?_)
  · rw [if_pos c1] at h
    refine lv_iconst (v := 1) hx hb dX3_isRound_10 (by decide) ?_
    refine lv_goto (tgt := 15) hx hb dX3_isRound_11 (by decide) ?_
    cases h
    exact hret_z hx hb hr hlocks hw (Or.inr rfl) dX3_isRound_15
  · rw [if_neg c1] at h
    refine lv_iload_n hx hb dX3_isRound_5 rfl (lv_at hl 0 rfl) ?_
    refine lv_iconst (v := 4) hx hb dX3_isRound_6 (by decide) ?_
    refine lv_icmp_ne (tgt := 14) hx hb dX3_isRound_7 (by decide) (fun c2 => ?_) (fun c2 => ?_)
    · rw [if_neg c2] at h
      refine lv_iconst (v := 0) hx hb dX3_isRound_14 (by decide) ?_
      cases h
      exact hret_z hx hb hr hlocks hw (Or.inl rfl) dX3_isRound_15
    · rw [if_pos c2] at h
      refine lv_iconst (v := 1) hx hb dX3_isRound_10 (by decide) ?_
      refine lv_goto (tgt := 15) hx hb dX3_isRound_11 (by decide) ?_
      cases h
      exact hret_z hx hb hr hlocks hw (Or.inr rfl) dX3_isRound_15
theorem iX2_takesStone_X2 : ∀ w ∈ wsX20, w ∈ wsX2_takesStone := by decide +kernel
def fX2_takesStone (f : hPl) (a : Nat) (p1 : Int32) : Option Int32 := (if p1 = 0 then some 1 else (hgI f a 1 0).bind fun x2 => (if x2.toInt < 7 ∨ 10 < x2.toInt then some 1 else if x2 = 7 then (if p1 = 2 then some 1 else (if p1 = 3 then some 1 else some 0)) else if x2 = 8 then (if p1 = 3 then some 1 else some 0) else if x2 = 9 then (if p1 = 4 then some 1 else some 0) else if x2 = 10 then (fX3_isRound f  p1).bind fun r12 => (if r12 = 0 ∨ r12 = 1 then some r12 else none) else none))
set_option maxHeartbeats 4000000 in
set_option maxRecDepth 100000 in
theorem kX2_takesStone (l : Launch) (g : hGb) {f : hPl} {z : Nat} {a : Nat} {p1 : Int32} {r : Int32} (h : fX2_takesStone f a p1 = some r) : hCt l g yX2_takesStone wsX2_takesStone 1 0 0 [.ref a, .int p1] f z (some (.int r)) f z := by
  refine hCt.of (cc := cX2_takesStone) (maxL := 2) (ret := (some .boolean)) (by decide +kernel) rfl (by exact Nat.le_of_ble_eq_true rfl) ?_
  intro p e s m below meth c C hname hw ls hl
  obtain ⟨hx, hb, hml, hown, hts, hr, hlocks, hk⟩ := id C
  have hl : lv_has ls 2 [(0, .ref a), (1, .int p1)] := hl
  have hown : s.vm.findClass RX2 = some m.cls := hown
  unfold fX2_takesStone at h
  refine lv_iload_n hx hb dX2_takesStone_0 rfl (lv_at hl 1 rfl) ?_
  refine lv_if_ne (tgt := 6) hx hb dX2_takesStone_1 (by decide) (fun c1 => ?_) (fun c1 => ?_)
  · rw [if_neg c1] at h
    refine lv_aload_n hx hb dX2_takesStone_6 rfl (lv_at hl 0 rfl) ?_
    replace h := hbd h
    obtain ⟨x2, ex2, h⟩ := h
    refine hr_getI (C := RX2) (T := TX2) (N := 2) hx hb hts iX2_takesStone_X2 hown hk hw rfl 0 (by decide) (hts (.fieldLink RX2 15 "SetterBench$Tray" "sort" "I") (by decide +kernel)) (u_same (hts (.sameField "SetterBench$Tray" "SetterBench$Thing" "sort" "I") (by decide +kernel))) ex2 dX2_takesStone_7 ?_
    by_cases c3 : x2.toInt < 7 ∨ 10 < x2.toInt
    · rw [if_pos c3] at h
      refine lv_tableOut (tgt := 83) hx hb dX2_takesStone_10 c3 (by decide) ?_
      refine lv_iconst (v := 1) hx hb dX2_takesStone_83 (by decide) ?_
      cases h
      exact hret_z hx hb hr hlocks hw (Or.inr rfl) dX2_takesStone_84
    rw [if_neg c3] at h
    by_cases c4 : x2 = 7
    · rw [if_pos c4] at h
      refine hv_arm (off := 30) (tgt := 40) hx hb c4 dX2_takesStone_10 (by decide) (by decide) (by decide) (by decide) ?_
      refine lv_iload_n hx hb dX2_takesStone_40 rfl (lv_at hl 1 rfl) ?_
      refine lv_iconst (v := 2) hx hb dX2_takesStone_41 (by decide) ?_
      refine lv_icmp_eq (tgt := 50) hx hb dX2_takesStone_42 (by decide) (fun c5 => ?_) (fun c5 => ?_)
      · rw [if_pos c5] at h
        refine lv_iconst (v := 1) hx hb dX2_takesStone_50 (by decide) ?_
        refine lv_goto (tgt := 55) hx hb dX2_takesStone_51 (by decide) ?_
        cases h
        exact hret_z hx hb hr hlocks hw (Or.inr rfl) dX2_takesStone_55
      · rw [if_neg c5] at h
        refine lv_iload_n hx hb dX2_takesStone_45 rfl (lv_at hl 1 rfl) ?_
        refine lv_iconst (v := 3) hx hb dX2_takesStone_46 (by decide) ?_
        refine lv_icmp_ne (tgt := 54) hx hb dX2_takesStone_47 (by decide) (fun c6 => ?_) (fun c6 => ?_)
        · rw [if_neg c6] at h
          refine lv_iconst (v := 0) hx hb dX2_takesStone_54 (by decide) ?_
          cases h
          exact hret_z hx hb hr hlocks hw (Or.inl rfl) dX2_takesStone_55
        · rw [if_pos c6] at h
          refine lv_iconst (v := 1) hx hb dX2_takesStone_50 (by decide) ?_
          refine lv_goto (tgt := 55) hx hb dX2_takesStone_51 (by decide) ?_
          cases h
          exact hret_z hx hb hr hlocks hw (Or.inr rfl) dX2_takesStone_55
    rw [if_neg c4] at h
    by_cases c7 : x2 = 8
    · rw [if_pos c7] at h
      refine hv_arm (off := 46) (tgt := 56) hx hb c7 dX2_takesStone_10 (by decide) (by decide) (by decide) (by decide) ?_
      refine lv_iload_n hx hb dX2_takesStone_56 rfl (lv_at hl 1 rfl) ?_
      refine lv_iconst (v := 3) hx hb dX2_takesStone_57 (by decide) ?_
      refine lv_icmp_ne (tgt := 65) hx hb dX2_takesStone_58 (by decide) (fun c8 => ?_) (fun c8 => ?_)
      · rw [if_neg c8] at h
        refine lv_iconst (v := 0) hx hb dX2_takesStone_65 (by decide) ?_
        cases h
        exact hret_z hx hb hr hlocks hw (Or.inl rfl) dX2_takesStone_66
      · rw [if_pos c8] at h
        refine lv_iconst (v := 1) hx hb dX2_takesStone_61 (by decide) ?_
        refine lv_goto (tgt := 66) hx hb dX2_takesStone_62 (by decide) ?_
        cases h
        exact hret_z hx hb hr hlocks hw (Or.inr rfl) dX2_takesStone_66
    rw [if_neg c7] at h
    by_cases c9 : x2 = 9
    · rw [if_pos c9] at h
      refine hv_arm (off := 57) (tgt := 67) hx hb c9 dX2_takesStone_10 (by decide) (by decide) (by decide) (by decide) ?_
      refine lv_iload_n hx hb dX2_takesStone_67 rfl (lv_at hl 1 rfl) ?_
      refine lv_iconst (v := 4) hx hb dX2_takesStone_68 (by decide) ?_
      refine lv_icmp_ne (tgt := 76) hx hb dX2_takesStone_69 (by decide) (fun c10 => ?_) (fun c10 => ?_)
      · rw [if_neg c10] at h
        refine lv_iconst (v := 0) hx hb dX2_takesStone_76 (by decide) ?_
        cases h
        exact hret_z hx hb hr hlocks hw (Or.inl rfl) dX2_takesStone_77
      · rw [if_pos c10] at h
        refine lv_iconst (v := 1) hx hb dX2_takesStone_72 (by decide) ?_
        refine lv_goto (tgt := 77) hx hb dX2_takesStone_73 (by decide) ?_
        cases h
        exact hret_z hx hb hr hlocks hw (Or.inr rfl) dX2_takesStone_77
    rw [if_neg c9] at h
    by_cases c11 : x2 = 10
    · rw [if_pos c11] at h
      refine hv_arm (off := 68) (tgt := 78) hx hb c11 dX2_takesStone_10 (by decide) (by decide) (by decide) (by decide) ?_
      refine lv_iload_n hx hb dX2_takesStone_78 rfl (lv_at hl 1 rfl) ?_
      replace h := hbd h
      obtain ⟨r12, er12, h⟩ := h
      refine hcallSN (o := some (.int r12)) hx hb hml hown hts hk [.int p1] [] (kX3_isRound l g er12) gX2_takesStone_X3_isRound_n39 rfl hk.2.1 (hts (.initialized RX3) (by decide +kernel)) (hts (.static yX3_isRound) (by decide +kernel)) (n := 1) rfl (by decide +kernel) ⟨Nat.le_of_ble_eq_true rfl, Nat.le_of_ble_eq_true rfl⟩ hw hl.1 rfl (Nat.le_of_ble_eq_true rfl) dX2_takesStone_79 ⟨Nat.le_of_ble_eq_true rfl, Nat.le_of_ble_eq_true rfl⟩ (fun H locs hw => ?_)
      refine W.eq (g2 := F0 m 82 ls [.int r12]) rfl ?_
      obtain ⟨c13, h⟩ := hif h
      cases h
      exact hret_z hx hb hr hlocks hw c13 dX2_takesStone_82
    rw [if_neg c11] at h
    cases h
  · rw [if_pos c1] at h
    refine lv_iconst (v := 1) hx hb dX2_takesStone_4 (by decide) ?_
    cases h
    exact hret_z hx hb hr hlocks hw (Or.inr rfl) dX2_takesStone_5
def fX2_howManyTaken_j12s (rec : hPl → Nat → Option Nat → Int32 → Int32 → Int32 → Option Int32) (f : hPl) (a : Nat) (v1 : Option Nat) (v2 : Int32) (v3 : Int32) (v4 : Int32) : Option Int32 := (if v3 ≤ v4 then some v3 else v1.bind fun a5 => (hob f a5 1).bind fun u6 => (fX2_stoneSortAt f a5 (v2 + v4)).bind fun r7 => (hob f a 1).bind fun u8 => (fX2_takesStone f a r7).bind fun r9 => (if r9 = 0 then some v4 else rec f a (some a5) v2 v3 (v4 + 1)))
set_option maxHeartbeats 4000000 in
set_option maxRecDepth 100000 in
theorem kX2_howManyTaken_j12s {g : hGb} {p : Program} {l : Launch} {e : Env} {s : State} {m : MethodId} {args : Array Value} {below : List Frame} {meth : Method} {c : Code} {A : Nat → Prop} (C : hX g p s m args meth c RX2 cX2_howManyTaken 5 wsX2_howManyTaken (some .int)) {f : hPl} {z : Nat} {r : Int32} (rec : hPl → Nat → Option Nat → Int32 → Int32 → Int32 → Option Int32) (hrec : ∀ (a : Nat) (v1 : Option Nat) (v2 : Int32) (v3 : Int32) (v4 : Int32), rec f a v1 v2 v3 v4 = some r → ∀ (H : Heap) (locs : List Loc) (ls : Array Slot), hW g A s f z H locs → lv_has ls 5 [(0, .ref a), (1, va_rf v1), (2, .int v2), (3, .int v3), (4, .int v4)] → W p l e (hRm 2 0 0) s m args below meth c H locs 0 0 (hZ g A below args s 0 0 (some (.int r)) f z) (F0 m 12 ls []))  : ∀ (a : Nat) (v1 : Option Nat) (v2 : Int32) (v3 : Int32) (v4 : Int32), fX2_howManyTaken_j12s rec f a v1 v2 v3 v4 = some r → ∀ (H : Heap) (locs : List Loc) (ls : Array Slot), hW g A s f z H locs → lv_has ls 5 [(0, .ref a), (1, va_rf v1), (2, .int v2), (3, .int v3), (4, .int v4)] → W p l e (hRm 2 0 0) s m args below meth c H locs 0 0 (hZ g A below args s 0 0 (some (.int r)) f z) (F0 m 12 ls []) := by
  obtain ⟨hx, hb, hml, hown, hts, hr, hlocks, hk⟩ := id C
  intro a v1 v2 v3 v4 h H locs ls hw hl
  unfold fX2_howManyTaken_j12s at h
  refine lv_iload hx hb dX2_howManyTaken_12 (lv_at hl 4 rfl) ?_
  refine lv_iload_n hx hb dX2_howManyTaken_14 rfl (lv_at hl 3 rfl) ?_
  refine lv_icmp_ge (tgt := 42) hx hb dX2_howManyTaken_15 (by decide) (fun c4 => ?_) (fun c4 => ?_)
  · rw [if_pos c4] at h
    refine lv_iload_n hx hb dX2_howManyTaken_42 rfl (lv_at hl 3 rfl) ?_
    cases h
    exact hret_i hx hb hr hlocks hw dX2_howManyTaken_43
  · rw [if_neg c4] at h
    refine lv_aload_n hx hb dX2_howManyTaken_18 rfl (lv_at hl 0 rfl) ?_
    refine hv_aload_n hx hb dX2_howManyTaken_19 rfl (lv_at hl 1 rfl) ?_
    refine lv_iload_n hx hb dX2_howManyTaken_20 rfl (lv_at hl 2 rfl) ?_
    refine lv_iload hx hb dX2_howManyTaken_21 (lv_at hl 4 rfl) ?_
    refine lv_iadd hx hb dX2_howManyTaken_23 ?_
    replace h := hbd h
    obtain ⟨a5, rfl, h⟩ := h
    replace h := hbd h
    obtain ⟨u6, eu6, h⟩ := h
    replace h := hbd h
    obtain ⟨r7, er7, h⟩ := h
    refine hcallV (o := some (.int r7)) hx hb hml hown hts hk [.int (v2 + v4)] [.ref a] (kX2_stoneSortAt l g er7) gX2_howManyTaken_X2_stoneSortAt rfl (n := 1) rfl (by decide +kernel) ⟨Nat.le_of_ble_eq_true rfl, Nat.le_of_ble_eq_true rfl⟩ (ci := 1) rfl eu6 hw hl.1 rfl (Nat.le_of_ble_eq_true rfl) dX2_howManyTaken_24 ⟨Nat.le_of_ble_eq_true rfl, Nat.le_of_ble_eq_true rfl⟩ (fun H locs hw => ?_)
    refine W.eq (g2 := F0 m 27 ls [.int r7, .ref a]) rfl ?_
    replace h := hbd h
    obtain ⟨u8, eu8, h⟩ := h
    replace h := hbd h
    obtain ⟨r9, er9, h⟩ := h
    refine hcallV (o := some (.int r9)) hx hb hml hown hts hk [.int r7] [] (kX2_takesStone l g er9) gX2_howManyTaken_X2_takesStone rfl (n := 1) rfl (by decide +kernel) ⟨Nat.le_of_ble_eq_true rfl, Nat.le_of_ble_eq_true rfl⟩ (ci := 1) rfl eu8 hw hl.1 rfl (Nat.le_of_ble_eq_true rfl) dX2_howManyTaken_27 ⟨Nat.le_of_ble_eq_true rfl, Nat.le_of_ble_eq_true rfl⟩ (fun H locs hw => ?_)
    refine W.eq (g2 := F0 m 30 ls [.int r9]) rfl ?_
    refine lv_if_ne (tgt := 36) hx hb dX2_howManyTaken_30 (by decide) (fun c10 => ?_) (fun c10 => ?_)
    · rw [if_neg c10] at h
      refine lv_iinc (v := (v4 + 1)) (lv' := [(4, .int (v4 + 1)), (0, .ref a), (1, .ref a5), (2, .int v2), (3, .int v3)]) hx hb dX2_howManyTaken_36 hl (k := 4) rfl rfl (by decide) rfl (fun ls hl => ?_)
      refine lv_goto (tgt := 12) hx hb dX2_howManyTaken_39 (by decide) ?_
      exact hrec _ _ _ _ _ h _ _ _ hw (lv_sub hl [1, 2, 3, 4, 0] rfl)
    · rw [if_pos c10] at h
      refine lv_iload hx hb dX2_howManyTaken_33 (lv_at hl 4 rfl) ?_
      cases h
      exact hret_i hx hb hr hlocks hw dX2_howManyTaken_35
def fX2_howManyTaken_j12 (n : Nat) : hPl → Nat → Option Nat → Int32 → Int32 → Int32 → Option Int32 := match n with
  | 0 => fun _ _ _ _ _ _ => none
  | n + 1 => fX2_howManyTaken_j12s (fX2_howManyTaken_j12 n)
theorem kX2_howManyTaken_j12 {g : hGb} {p : Program} {l : Launch} {e : Env} {s : State} {m : MethodId} {args : Array Value} {below : List Frame} {meth : Method} {c : Code} {A : Nat → Prop} (C : hX g p s m args meth c RX2 cX2_howManyTaken 5 wsX2_howManyTaken (some .int)) {f : hPl} {z : Nat} {r : Int32} (n : Nat) : ∀ (a : Nat) (v1 : Option Nat) (v2 : Int32) (v3 : Int32) (v4 : Int32), fX2_howManyTaken_j12 n f a v1 v2 v3 v4 = some r → ∀ (H : Heap) (locs : List Loc) (ls : Array Slot), hW g A s f z H locs → lv_has ls 5 [(0, .ref a), (1, va_rf v1), (2, .int v2), (3, .int v3), (4, .int v4)] → W p l e (hRm 2 0 0) s m args below meth c H locs 0 0 (hZ g A below args s 0 0 (some (.int r)) f z) (F0 m 12 ls []) := by
  induction n with
  | zero =>
    intro a v1 v2 v3 v4 h
    cases h
  | succ n ih => exact kX2_howManyTaken_j12s C (fX2_howManyTaken_j12 n) ih
def fX2_howManyTaken (f : hPl) (a : Nat) (p1 : Option Nat) (p2 : Int32) (p3 : Int32) : Option Int32 := (hob f a 1).bind fun u1 => (fX2_isOfStones f a ).bind fun r2 => (if r2 = 0 then some p3 else fX2_howManyTaken_j12 64 f a p1 p2 p3 0)
set_option maxHeartbeats 4000000 in
set_option maxRecDepth 100000 in
theorem kX2_howManyTaken (l : Launch) (g : hGb) {f : hPl} {z : Nat} {a : Nat} {p1 : Option Nat} {p2 : Int32} {p3 : Int32} {r : Int32} (h : fX2_howManyTaken f a p1 p2 p3 = some r) : hCt l g yX2_howManyTaken wsX2_howManyTaken 2 0 0 [.ref a, va_rf p1, .int p2, .int p3] f z (some (.int r)) f z := by
  refine hCt.of (cc := cX2_howManyTaken) (maxL := 5) (ret := (some .int)) (by decide +kernel) rfl (by cases p1 <;> exact Nat.le_of_ble_eq_true rfl) ?_
  intro p e s m below meth c C hname hw ls hl
  obtain ⟨hx, hb, hml, hown, hts, hr, hlocks, hk⟩ := id C
  have hl : lv_has ls 5 [(0, .ref a), (1, va_rf p1), (2, .int p2), (3, .int p3)] := by cases p1 <;> exact hl
  have hown : s.vm.findClass RX2 = some m.cls := hown
  unfold fX2_howManyTaken at h
  refine lv_aload_n hx hb dX2_howManyTaken_0 rfl (lv_at hl 0 rfl) ?_
  replace h := hbd h
  obtain ⟨u1, eu1, h⟩ := h
  replace h := hbd h
  obtain ⟨r2, er2, h⟩ := h
  refine hcallV (o := some (.int r2)) hx hb hml hown hts hk [] [] (kX2_isOfStones l g er2) gX2_howManyTaken_X2_isOfStones rfl (n := 0) rfl (by decide +kernel) ⟨Nat.le_of_ble_eq_true rfl, Nat.le_of_ble_eq_true rfl⟩ (ci := 1) rfl eu1 hw hl.1 rfl (Nat.le_of_ble_eq_true rfl) dX2_howManyTaken_1 ⟨Nat.le_of_ble_eq_true rfl, Nat.le_of_ble_eq_true rfl⟩ (fun H locs hw => ?_)
  refine W.eq (g2 := F0 m 4 ls [.int r2]) rfl ?_
  refine lv_if_ne (tgt := 9) hx hb dX2_howManyTaken_4 (by decide) (fun c3 => ?_) (fun c3 => ?_)
  · rw [if_neg c3] at h
    refine lv_iconst (v := 0) hx hb dX2_howManyTaken_9 (by decide) ?_
    refine lv_istore (lv' := [(4, .int 0), (0, .ref a), (1, va_rf p1), (2, .int p2), (3, .int p3)]) hx hb dX2_howManyTaken_10 hl (by decide) rfl (fun ls hl => ?_)
    exact kX2_howManyTaken_j12 C 64 _ _ _ _ _ h _ _ _ hw (lv_sub hl [1, 2, 3, 4, 0] rfl)
  · rw [if_pos c3] at h
    refine lv_iload_n hx hb dX2_howManyTaken_7 rfl (lv_at hl 3 rfl) ?_
    cases h
    exact hret_i hx hb hr hlocks hw dX2_howManyTaken_8
theorem iX2_copyRun_X2 : ∀ w ∈ wsX20, w ∈ wsX2_copyRun := by decide +kernel
def fX2_copyRun (f : hPl) (z : Nat) (a : Nat) (p1 : Option Nat) (p2 : Int32) (p3 : Int32) (p4 : Int32) : Option (Unit × hPl × Nat) := p1.bind fun a1 => (hob f a1 1).bind fun u2 => (fX2_hasRun f a1 p2 p4).bind fun r3 => (if r3 = 0 then some ((), f, z) else (hob f a 1).bind fun u5 => (fX2_hasRun f a p3 p4).bind fun r6 => (if r6 = 0 then some ((), f, z) else (hgQ f a1 1 1).bind fun q8 => (hgQ f a 1 1).bind fun q9 => q8.bind fun a10 => q9.bind fun a11 => (hcp f a10 p2 a11 p3 p4).bind fun f12 => some ((), f12, z)))
set_option maxHeartbeats 4000000 in
set_option maxRecDepth 100000 in
theorem kX2_copyRun (l : Launch) (g : hGb) {f : hPl} {z : Nat} {a : Nat} {p1 : Option Nat} {p2 : Int32} {p3 : Int32} {p4 : Int32} {r : Unit} {f' : hPl} {z' : Nat} (h : fX2_copyRun f z a p1 p2 p3 p4 = some (r, f', z')) : hCt l g yX2_copyRun wsX2_copyRun 1 0 0 [.ref a, va_rf p1, .int p2, .int p3, .int p4] f z none f' z' := by
  refine hCt.of (cc := cX2_copyRun) (maxL := 5) (ret := none) (by decide +kernel) rfl (by cases p1 <;> exact Nat.le_of_ble_eq_true rfl) ?_
  intro p e s m below meth c C hname hw ls hl
  obtain ⟨hx, hb, hml, hown, hts, hr, hlocks, hk⟩ := id C
  have hl : lv_has ls 5 [(0, .ref a), (1, va_rf p1), (2, .int p2), (3, .int p3), (4, .int p4)] := by cases p1 <;> exact hl
  have hown : s.vm.findClass RX2 = some m.cls := hown
  unfold fX2_copyRun at h
  refine hv_aload_n hx hb dX2_copyRun_0 rfl (lv_at hl 1 rfl) ?_
  refine lv_iload_n hx hb dX2_copyRun_1 rfl (lv_at hl 2 rfl) ?_
  refine lv_iload hx hb dX2_copyRun_2 (lv_at hl 4 rfl) ?_
  replace h := hbd h
  obtain ⟨a1, rfl, h⟩ := h
  replace h := hbd h
  obtain ⟨u2, eu2, h⟩ := h
  replace h := hbd h
  obtain ⟨r3, er3, h⟩ := h
  refine hcallV (o := some (.int r3)) hx hb hml hown hts hk [.int p2, .int p4] [] (kX2_hasRun l g er3) gX2_copyRun_X2_hasRun rfl (n := 2) rfl (by decide +kernel) ⟨Nat.le_of_ble_eq_true rfl, Nat.le_of_ble_eq_true rfl⟩ (ci := 1) rfl eu2 hw hl.1 rfl (Nat.le_of_ble_eq_true rfl) dX2_copyRun_4 ⟨Nat.le_of_ble_eq_true rfl, Nat.le_of_ble_eq_true rfl⟩ (fun H locs hw => ?_)
  refine W.eq (g2 := F0 m 7 ls [.int r3]) rfl ?_
  refine lv_if_eq (tgt := 35) hx hb dX2_copyRun_7 (by decide) (fun c4 => ?_) (fun c4 => ?_)
  · rw [if_pos c4] at h
    cases h
    exact hret_v hx hb hr hlocks hw dX2_copyRun_35
  · rw [if_neg c4] at h
    refine lv_aload_n hx hb dX2_copyRun_10 rfl (lv_at hl 0 rfl) ?_
    refine lv_iload_n hx hb dX2_copyRun_11 rfl (lv_at hl 3 rfl) ?_
    refine lv_iload hx hb dX2_copyRun_12 (lv_at hl 4 rfl) ?_
    replace h := hbd h
    obtain ⟨u5, eu5, h⟩ := h
    replace h := hbd h
    obtain ⟨r6, er6, h⟩ := h
    refine hcallV (o := some (.int r6)) hx hb hml hown hts hk [.int p3, .int p4] [] (kX2_hasRun l g er6) gX2_copyRun_X2_hasRun rfl (n := 2) rfl (by decide +kernel) ⟨Nat.le_of_ble_eq_true rfl, Nat.le_of_ble_eq_true rfl⟩ (ci := 1) rfl eu5 hw hl.1 rfl (Nat.le_of_ble_eq_true rfl) dX2_copyRun_14 ⟨Nat.le_of_ble_eq_true rfl, Nat.le_of_ble_eq_true rfl⟩ (fun H locs hw => ?_)
    refine W.eq (g2 := F0 m 17 ls [.int r6]) rfl ?_
    refine lv_if_eq (tgt := 35) hx hb dX2_copyRun_17 (by decide) (fun c7 => ?_) (fun c7 => ?_)
    · rw [if_pos c7] at h
      cases h
      exact hret_v hx hb hr hlocks hw dX2_copyRun_35
    · rw [if_neg c7] at h
      refine lv_aload_n hx hb dX2_copyRun_20 rfl (lv_at hl 1 rfl) ?_
      replace h := hbd h
      obtain ⟨q8, eq8, h⟩ := h
      refine hr_getQ (C := RX2) (T := TX2) (N := 2) hx hb hts iX2_copyRun_X2 hown hk hw rfl 1 (by decide) (hts (.fieldLink RX2 9 "SetterBench$Tray" "cells" "[J") (by decide +kernel)) (fun _ h9 => h9) eq8 dX2_copyRun_21 ?_
      refine lv_iload_n hx hb dX2_copyRun_24 rfl (lv_at hl 2 rfl) ?_
      refine lv_aload_n hx hb dX2_copyRun_25 rfl (lv_at hl 0 rfl) ?_
      replace h := hbd h
      obtain ⟨q9, eq9, h⟩ := h
      refine hr_getQ (C := RX2) (T := TX2) (N := 2) hx hb hts iX2_copyRun_X2 hown hk hw rfl 1 (by decide) (hts (.fieldLink RX2 9 "SetterBench$Tray" "cells" "[J") (by decide +kernel)) (fun _ h9 => h9) eq9 dX2_copyRun_26 ?_
      refine lv_iload_n hx hb dX2_copyRun_29 rfl (lv_at hl 3 rfl) ?_
      refine lv_iload hx hb dX2_copyRun_30 (lv_at hl 4 rfl) ?_
      replace h := hbd h
      obtain ⟨a10, rfl, h⟩ := h
      replace h := hbd h
      obtain ⟨a11, rfl, h⟩ := h
      replace h := hbd h
      obtain ⟨f12, ef12, h⟩ := h
      refine hr_cp hx hb (hml.trans hl.1.symm) hown (hts (.methodLink RX2 42 arraycopyName) (by decide +kernel)) (hts (.native arraycopyName) (by decide +kernel)) (hts (.static arraycopyName) (by decide +kernel)) (hts (.initialized "java/lang/System") (by decide +kernel)) hk hw ef12 (Nat.le_of_ble_eq_true rfl) (Nat.le_of_ble_eq_true rfl) dX2_copyRun_32 (fun H locs hw => ?_)
      cases h
      exact hret_v hx hb hr hlocks hw dX2_copyRun_35
theorem iX2_copyTo_X2 : ∀ w ∈ wsX20, w ∈ wsX2_copyTo := by decide +kernel
def fX2_copyTo (f : hPl) (z : Nat) (a : Nat) (p1 : Option Nat) : Option (Unit × hPl × Nat) := (hgQ f a 1 1).bind fun q1 => q1.bind fun a2 => (hln f a2).bind fun x3 => p1.bind fun a4 => (hln f a4).bind fun x5 => (if x5 < x3 then some ((), f, z) else (hgQ f a 1 1).bind fun q7 => (hgQ f a 1 1).bind fun q8 => q8.bind fun a9 => (hln f a9).bind fun x10 => q7.bind fun a11 => (hcp f a11 0 a4 0 x10).bind fun f12 => some ((), f12, z))
set_option maxHeartbeats 4000000 in
set_option maxRecDepth 100000 in
theorem kX2_copyTo (l : Launch) (g : hGb) {f : hPl} {z : Nat} {a : Nat} {p1 : Option Nat} {r : Unit} {f' : hPl} {z' : Nat} (h : fX2_copyTo f z a p1 = some (r, f', z')) : hCt l g yX2_copyTo wsX2_copyTo 1 0 0 [.ref a, va_rf p1] f z none f' z' := by
  refine hCt.of (cc := cX2_copyTo) (maxL := 2) (ret := none) (by decide +kernel) rfl (by cases p1 <;> exact Nat.le_of_ble_eq_true rfl) ?_
  intro p e s m below meth c C hname hw ls hl
  obtain ⟨hx, hb, hml, hown, hts, hr, hlocks, hk⟩ := id C
  have hl : lv_has ls 2 [(0, .ref a), (1, va_rf p1)] := by cases p1 <;> exact hl
  have hown : s.vm.findClass RX2 = some m.cls := hown
  unfold fX2_copyTo at h
  refine lv_aload_n hx hb dX2_copyTo_0 rfl (lv_at hl 0 rfl) ?_
  replace h := hbd h
  obtain ⟨q1, eq1, h⟩ := h
  refine hr_getQ (C := RX2) (T := TX2) (N := 2) hx hb hts iX2_copyTo_X2 hown hk hw rfl 1 (by decide) (hts (.fieldLink RX2 9 "SetterBench$Tray" "cells" "[J") (by decide +kernel)) (fun _ h9 => h9) eq1 dX2_copyTo_1 ?_
  replace h := hbd h
  obtain ⟨a2, rfl, h⟩ := h
  replace h := hbd h
  obtain ⟨x3, ex3, h⟩ := h
  refine hr_len hx hb hk hw ex3 dX2_copyTo_4 ?_
  refine hv_aload_n hx hb dX2_copyTo_5 rfl (lv_at hl 1 rfl) ?_
  replace h := hbd h
  obtain ⟨a4, rfl, h⟩ := h
  replace h := hbd h
  obtain ⟨x5, ex5, h⟩ := h
  refine hr_len hx hb hk hw ex5 dX2_copyTo_6 ?_
  refine lv_icmp_gt (tgt := 25) hx hb dX2_copyTo_7 (by decide) (fun c6 => ?_) (fun c6 => ?_)
  · rw [if_pos c6] at h
    cases h
    exact hret_v hx hb hr hlocks hw dX2_copyTo_25
  · rw [if_neg c6] at h
    refine lv_aload_n hx hb dX2_copyTo_10 rfl (lv_at hl 0 rfl) ?_
    replace h := hbd h
    obtain ⟨q7, eq7, h⟩ := h
    refine hr_getQ (C := RX2) (T := TX2) (N := 2) hx hb hts iX2_copyTo_X2 hown hk hw rfl 1 (by decide) (hts (.fieldLink RX2 9 "SetterBench$Tray" "cells" "[J") (by decide +kernel)) (fun _ h9 => h9) eq7 dX2_copyTo_11 ?_
    refine lv_iconst (v := 0) hx hb dX2_copyTo_14 (by decide) ?_
    refine lv_aload_n hx hb dX2_copyTo_15 rfl (lv_at hl 1 rfl) ?_
    refine lv_iconst (v := 0) hx hb dX2_copyTo_16 (by decide) ?_
    refine lv_aload_n hx hb dX2_copyTo_17 rfl (lv_at hl 0 rfl) ?_
    replace h := hbd h
    obtain ⟨q8, eq8, h⟩ := h
    refine hr_getQ (C := RX2) (T := TX2) (N := 2) hx hb hts iX2_copyTo_X2 hown hk hw rfl 1 (by decide) (hts (.fieldLink RX2 9 "SetterBench$Tray" "cells" "[J") (by decide +kernel)) (fun _ h9 => h9) eq8 dX2_copyTo_18 ?_
    replace h := hbd h
    obtain ⟨a9, rfl, h⟩ := h
    replace h := hbd h
    obtain ⟨x10, ex10, h⟩ := h
    refine hr_len hx hb hk hw ex10 dX2_copyTo_21 ?_
    replace h := hbd h
    obtain ⟨a11, rfl, h⟩ := h
    replace h := hbd h
    obtain ⟨f12, ef12, h⟩ := h
    refine hr_cp hx hb (hml.trans hl.1.symm) hown (hts (.methodLink RX2 42 arraycopyName) (by decide +kernel)) (hts (.native arraycopyName) (by decide +kernel)) (hts (.static arraycopyName) (by decide +kernel)) (hts (.initialized "java/lang/System") (by decide +kernel)) hk hw ef12 (Nat.le_of_ble_eq_true rfl) (Nat.le_of_ble_eq_true rfl) dX2_copyTo_22 (fun H locs hw => ?_)
    cases h
    exact hret_v hx hb hr hlocks hw dX2_copyTo_25
theorem iX2_copyFrom_X2 : ∀ w ∈ wsX20, w ∈ wsX2_copyFrom := by decide +kernel
def fX2_copyFrom (f : hPl) (z : Nat) (a : Nat) (p1 : Option Nat) : Option (Unit × hPl × Nat) := (hgQ f a 1 1).bind fun q1 => q1.bind fun a2 => (hln f a2).bind fun x3 => p1.bind fun a4 => (hln f a4).bind fun x5 => (if x5 < x3 then some ((), f, z) else (hgQ f a 1 1).bind fun q7 => (hgQ f a 1 1).bind fun q8 => q8.bind fun a9 => (hln f a9).bind fun x10 => q7.bind fun a11 => (hcp f a4 0 a11 0 x10).bind fun f12 => some ((), f12, z))
set_option maxHeartbeats 4000000 in
set_option maxRecDepth 100000 in
theorem kX2_copyFrom (l : Launch) (g : hGb) {f : hPl} {z : Nat} {a : Nat} {p1 : Option Nat} {r : Unit} {f' : hPl} {z' : Nat} (h : fX2_copyFrom f z a p1 = some (r, f', z')) : hCt l g yX2_copyFrom wsX2_copyFrom 1 0 0 [.ref a, va_rf p1] f z none f' z' := by
  refine hCt.of (cc := cX2_copyFrom) (maxL := 2) (ret := none) (by decide +kernel) rfl (by cases p1 <;> exact Nat.le_of_ble_eq_true rfl) ?_
  intro p e s m below meth c C hname hw ls hl
  obtain ⟨hx, hb, hml, hown, hts, hr, hlocks, hk⟩ := id C
  have hl : lv_has ls 2 [(0, .ref a), (1, va_rf p1)] := by cases p1 <;> exact hl
  have hown : s.vm.findClass RX2 = some m.cls := hown
  unfold fX2_copyFrom at h
  refine lv_aload_n hx hb dX2_copyFrom_0 rfl (lv_at hl 0 rfl) ?_
  replace h := hbd h
  obtain ⟨q1, eq1, h⟩ := h
  refine hr_getQ (C := RX2) (T := TX2) (N := 2) hx hb hts iX2_copyFrom_X2 hown hk hw rfl 1 (by decide) (hts (.fieldLink RX2 9 "SetterBench$Tray" "cells" "[J") (by decide +kernel)) (fun _ h9 => h9) eq1 dX2_copyFrom_1 ?_
  replace h := hbd h
  obtain ⟨a2, rfl, h⟩ := h
  replace h := hbd h
  obtain ⟨x3, ex3, h⟩ := h
  refine hr_len hx hb hk hw ex3 dX2_copyFrom_4 ?_
  refine hv_aload_n hx hb dX2_copyFrom_5 rfl (lv_at hl 1 rfl) ?_
  replace h := hbd h
  obtain ⟨a4, rfl, h⟩ := h
  replace h := hbd h
  obtain ⟨x5, ex5, h⟩ := h
  refine hr_len hx hb hk hw ex5 dX2_copyFrom_6 ?_
  refine lv_icmp_gt (tgt := 25) hx hb dX2_copyFrom_7 (by decide) (fun c6 => ?_) (fun c6 => ?_)
  · rw [if_pos c6] at h
    cases h
    exact hret_v hx hb hr hlocks hw dX2_copyFrom_25
  · rw [if_neg c6] at h
    refine lv_aload_n hx hb dX2_copyFrom_10 rfl (lv_at hl 1 rfl) ?_
    refine lv_iconst (v := 0) hx hb dX2_copyFrom_11 (by decide) ?_
    refine lv_aload_n hx hb dX2_copyFrom_12 rfl (lv_at hl 0 rfl) ?_
    replace h := hbd h
    obtain ⟨q7, eq7, h⟩ := h
    refine hr_getQ (C := RX2) (T := TX2) (N := 2) hx hb hts iX2_copyFrom_X2 hown hk hw rfl 1 (by decide) (hts (.fieldLink RX2 9 "SetterBench$Tray" "cells" "[J") (by decide +kernel)) (fun _ h9 => h9) eq7 dX2_copyFrom_13 ?_
    refine lv_iconst (v := 0) hx hb dX2_copyFrom_16 (by decide) ?_
    refine lv_aload_n hx hb dX2_copyFrom_17 rfl (lv_at hl 0 rfl) ?_
    replace h := hbd h
    obtain ⟨q8, eq8, h⟩ := h
    refine hr_getQ (C := RX2) (T := TX2) (N := 2) hx hb hts iX2_copyFrom_X2 hown hk hw rfl 1 (by decide) (hts (.fieldLink RX2 9 "SetterBench$Tray" "cells" "[J") (by decide +kernel)) (fun _ h9 => h9) eq8 dX2_copyFrom_18 ?_
    replace h := hbd h
    obtain ⟨a9, rfl, h⟩ := h
    replace h := hbd h
    obtain ⟨x10, ex10, h⟩ := h
    refine hr_len hx hb hk hw ex10 dX2_copyFrom_21 ?_
    replace h := hbd h
    obtain ⟨a11, rfl, h⟩ := h
    replace h := hbd h
    obtain ⟨f12, ef12, h⟩ := h
    refine hr_cp hx hb (hml.trans hl.1.symm) hown (hts (.methodLink RX2 42 arraycopyName) (by decide +kernel)) (hts (.native arraycopyName) (by decide +kernel)) (hts (.static arraycopyName) (by decide +kernel)) (hts (.initialized "java/lang/System") (by decide +kernel)) hk hw ef12 (Nat.le_of_ble_eq_true rfl) (Nat.le_of_ble_eq_true rfl) dX2_copyFrom_22 (fun H locs hw => ?_)
    cases h
    exact hret_v hx hb hr hlocks hw dX2_copyFrom_25
