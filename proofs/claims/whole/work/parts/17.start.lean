set_option maxRecDepth 100000 in
theorem hWord (w : Cond) (h : w ∈ [Cond.castable RX0 RX0, .castable RX2 RX2, .castable RX0 RX1, .castable RX2 RX1, .methodLinkNest RX2 39 yX3_isRound RX3, .arrayOver (.object RX1), .arrayClass .int, .arrayClass .long, .instantiable RX0 2, .instantiable RX2 2, .instantiable RX3 11, .instantiable RX4 9]) : w ∈ lw_tbl := by
  revert w
  decide +kernel
set_option maxRecDepth 100000 in
set_option maxHeartbeats 4000000 in
/-- what the tables say, at the law's entry -/
theorem hK_start {p : Program} {s : State} {m : MethodId} {meth : Method} {c : Code} {b L : Nat} {xs : Nat → Int32} (C0 : lw_At p s m meth c b L xs) : ∃ g : hGb, hK g s := by
  obtain ⟨hx, hb, hr, hml, hown, hts, hX, hbl, hlocks, hgv⟩ := C0
  obtain ⟨c0, iS0, hKn0⟩ := u_known (C := RX0) (T := TX0) (N := 2) (n := 2) hts inX0 (hts _ (hWord (.instantiable RX0 2) (by simp)))
  obtain ⟨c1, iS1, hKn1⟩ := u_known (C := RX2) (T := TX2) (N := 2) (n := 2) hts inX2 (hts _ (hWord (.instantiable RX2 2) (by simp)))
  obtain ⟨c2, iS2, hKn2⟩ := u_known (C := RX3) (T := TX3) (N := 11) (n := 11) hts inX3 (hts _ (hWord (.instantiable RX3 11) (by simp)))
  obtain ⟨c3, iS3, hKn3⟩ := u_known (C := RX4) (T := TX4) (N := 9) (n := 9) hts inX4 (hts _ (hWord (.instantiable RX4 9) (by simp)))
  obtain ⟨cI, kI, cpI, fI, gI, hI⟩ := Cond.arrayClass_spec (hts _ (hWord (.arrayClass .int) (by simp)))
  obtain ⟨cJ, kJ, cpJ, fJ, gJ, hJ⟩ := Cond.arrayClass_spec (hts _ (hWord (.arrayClass .long) (by simp)))
  have hAO := hts _ (hWord (.arrayOver (.object RX1)) (by simp))
  obtain ⟨cpQ, cQ, kQ, f1, f2, f3, f4, f5⟩ := Cond.arrayOver_spec hAO
  refine ⟨(fun k => match k with | 0 => c0 | 1 => c1 | 2 => c2 | _ => c3, fun k => match k with | 0 => iS0 | 1 => iS1 | 2 => iS2 | _ => iS3, cI, cJ, cQ), ⟨?_, ?_⟩, va_Nw.of rfl (hts _ (hWord (.methodLinkNest RX2 39 yX3_isRound RX3) (by simp))), va_Nw.of rfl (hts _ (hWord (.castable RX0 RX0) (by simp))), va_Nw.of rfl (hts _ (hWord (.castable RX2 RX2) (by simp))), va_Nw.of rfl (hts _ (hWord (.castable RX0 RX1) (by simp))), va_Nw.of rfl (hts _ (hWord (.castable RX2 RX1) (by simp))), va_Nc.of (flat_of_before _ hgv _ (by decide +kernel)), va_Nc.of (flat_of_before _ hgv _ (by decide +kernel)), va_AO.of hAO⟩
  · intro k q hq
    match k, hq with
    | 0, hq => cases hq; exact hKn0
    | 1, hq => cases hq; exact hKn1
    | 2, hq => cases hq; exact hKn2
    | 3, hq => cases hq; exact hKn3
    | k + 4, hq => simp [vwCl] at hq
  · intro k q hq
    match k, hq with
    | 0, hq => cases hq; exact ⟨fun n z => ⟨fun k h => (by cases h), kI, gI, cpI, hI⟩, fI⟩
    | 1, hq => cases hq; exact ⟨fun n z => ⟨fun k h => (by cases h), kJ, gJ, cpJ, hJ⟩, fJ⟩
    | 2, hq => cases hq; exact ⟨fun n z => ⟨fun k h => (by cases h), kQ, f3, cpQ, f4⟩, kQ, cpQ, f3, f4, f1, f5⟩
    | k + 3, hq => simp [hty] at hq
theorem iL_law_X3 : ∀ w ∈ wsX30, w ∈ wsL_law := inlX3
theorem iL_law_X4 : ∀ w ∈ wsX40, w ∈ wsL_law := inlX4
set_option maxRecDepth 100000 in
set_option maxHeartbeats 4000000 in
theorem whole_of {I : hInv} (HA : hAll I) {p : Program} {e : Env} {s : State} {m : MethodId} {below : List Frame} {meth : Method} {c : Code} (l : Launch) {b L : Nat} {xs : Nat → Int32} (hL : L ≤ 3072) (C0 : lw_At p s m meth c b L xs) : W p l e room_1 s m #[Value.ref b] below meth c s.heap [] 0 0 (lw_Z below #[Value.ref b] s) (entryFrame m ([Value.ref b] : List Value).toArray 4) := by
  obtain ⟨g, hk⟩ := hK_start C0
  obtain ⟨hx, hb, hr, hml, hown, hts, hX, hbl, hlocks, hgv⟩ := id C0
  have hts := fun w h => hts w (wsL_law_in w h)
  have hown : s.vm.findClass RL = some m.cls := hown
  have hl := lv_entry ([.ref b]) (n := 4) (Nat.le_of_ble_eq_true rfl)
  rw [lg_entry_eq]
  generalize (lg_sl ([.ref b]) ++ List.replicate (4 - (lg_sl ([.ref b])).length) Slot.unset).toArray = ls at hl ⊢
  have hl : lv_has ls 4 [(0, .ref b)] := hl
  obtain ⟨z, hz⟩ : ∃ z, s.heap.size = z := ⟨_, rfl⟩
  have hw : hW g (fun q : Nat => s.heap.size ≤ q) s hN z s.heap [] := ⟨hz, fun a e h => (by cases h), va_S.rf, fun q h => h⟩
  obtain ⟨fx1, z1, ex, hm⟩ := HA.1 z
  obtain ⟨fm1, y1, em, hI⟩ := hm z1
  refine hr_new (C := RX3) (T := TX3) (N := 11) (ci := 2) (fs := hB0) hx hb hts iL_law_X3 tyX3 tyX3_ok hown (hts (.classLink RL 7 RX3) (by decide +kernel)) (hts (.instantiable RX3 11) (by decide +kernel)) (hts (.initialized RX3) (by decide +kernel)) hk hw rfl (fun j hj => by rcases (show j = 0 ∨ j = 1 ∨ j = 2 ∨ j = 3 ∨ j = 4 ∨ j = 5 ∨ j = 6 ∨ j = 7 ∨ j = 8 ∨ j = 9 ∨ j = 10 by omega) with rfl | rfl | rfl | rfl | rfl | rfl | rfl | rfl | rfl | rfl | rfl <;> rfl) (Nat.le_of_ble_eq_true rfl) (Nat.le_of_ble_eq_true rfl) dL_law_0 (fun H hw => ?_)
  refine lv_dup hx hb dL_law_3 rfl ?_
  refine hcallI (o := none) hx hb hml hown hts hk [] [.ref z] (kX3_init l g ex) gL_law_X3_init rfl (hts (.initialized RX3) (by decide +kernel)) (hts (.methodLink RL 9 yX3_init) (by decide +kernel)) (hts (.instanceMethod yX3_init) (by decide +kernel)) (n := 0) rfl (by decide +kernel) rfl ⟨Nat.le_of_ble_eq_true rfl, Nat.le_of_ble_eq_true rfl⟩ hw hl.1 rfl (Nat.le_of_ble_eq_true rfl) dL_law_4 ⟨Nat.le_of_ble_eq_true rfl, Nat.le_of_ble_eq_true rfl⟩ (fun H locs hw => ?_)
  refine W.eq (g2 := F0 m 7 ls [.ref z]) rfl ?_
  refine lv_astore_n (lv' := [(1, .ref z), (0, .ref b)]) hx hb dL_law_7 rfl hl (by decide) rfl (fun ls hl => ?_)
  refine hr_new (C := RX4) (T := TX4) (N := 9) (ci := 3) (fs := hM0) hx hb hts iL_law_X4 tyX4 tyX4_ok hown (hts (.classLink RL 10 RX4) (by decide +kernel)) (hts (.instantiable RX4 9) (by decide +kernel)) (hts (.initialized RX4) (by decide +kernel)) hk hw rfl (fun j hj => by rcases (show j = 0 ∨ j = 1 ∨ j = 2 ∨ j = 3 ∨ j = 4 ∨ j = 5 ∨ j = 6 ∨ j = 7 ∨ j = 8 by omega) with rfl | rfl | rfl | rfl | rfl | rfl | rfl | rfl | rfl <;> rfl) (Nat.le_of_ble_eq_true rfl) (Nat.le_of_ble_eq_true rfl) dL_law_8 (fun H hw3 => ?_)
  have hnz : ∀ a e, fx1 a = some e → a ≠ z1 := fun a e h => Nat.ne_of_lt (hw.lt h)
  have hwx : hW g (fun q : Nat => s.heap.size ≤ q) s fx1 (z1 + 1) H locs := hw3.part (fun a e h => by rw [hup_n (hnz a e h)]; exact h)
  have hwm : hW g (fun q : Nat => s.heap.size ≤ q) s (hup hN z1 (oC 3 hM0)) (z1 + 1) H locs := hw3.part (fun a e h => by
    by_cases ha : a = z1
    · subst ha; rw [hup_s] at h ⊢; exact h
    · rw [hup_n ha] at h; cases h)
  refine lv_dup hx hb dL_law_11 rfl ?_
  refine hcallI2 (o := none) hx hb hml hown hts hk [] [.ref z1] (kX4_init l g em) gL_law_X4_init rfl (hts (.initialized RX4) (by decide +kernel)) (hts (.methodLink RL 12 yX4_init) (by decide +kernel)) (hts (.instanceMethod yX4_init) (by decide +kernel)) (n := 0) rfl (by decide +kernel) rfl ⟨Nat.le_of_ble_eq_true rfl, Nat.le_of_ble_eq_true rfl⟩ hwm hwx (fun a ha => by
    by_cases hz1 : a = z1
    · cases hf : fx1 a with
      | none => rfl
      | some e => exact absurd hz1 (hnz a e hf)
    · exact absurd (hup_n hz1) ha) hl.1 rfl (Nat.le_of_ble_eq_true rfl) dL_law_12 ⟨Nat.le_of_ble_eq_true rfl, Nat.le_of_ble_eq_true rfl⟩ (fun H locs hwm hwx hdis => ?_)
  refine W.eq (g2 := F0 m 15 ls [.ref z1]) rfl ?_
  refine lv_astore_n (lv' := [(2, .ref z1), (1, .ref z), (0, .ref b)]) hx hb dL_law_15 rfl hl (by decide) rfl (fun ls hl => ?_)
  refine lv_iconst (v := 0) hx hb dL_law_16 (by decide) ?_
  refine lv_istore_n (lv' := [(3, .int 0), (2, .ref z1), (1, .ref z), (0, .ref b)]) hx hb dL_law_17 rfl hl (by decide) rfl (fun ls hl => ?_)
  refine W.widen (k := 100 + 2 * 0) (n := 1000 + 42 * 0) (Nat.le_of_ble_eq_true rfl) (Nat.le_of_ble_eq_true rfl) ?_
  exact law_loop hL C0 hk HA (L + 1) 0 0 (by omega) (by omega) nI_0.symm z fx1 z1 fm1 _ H locs hwx hwm (fun a ha => Classical.byContradiction fun h9 => ha (hdis a h9)) hI ls (lv_sub hl [3, 2, 1, 0] rfl)
