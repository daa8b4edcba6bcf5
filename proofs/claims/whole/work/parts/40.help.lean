def F_L_feed (σ : St) (x1 : Int32) (x2 : Int32) (x3 : Int32) (x4 : Int32) (x5 : Int32) : Option (St × Int32) := (F_X6_feed σ x1 x2 x3 x4 x5).bind (fun y4 => if y4.2.1 = 0 then gd (ib 0 (ln (26))) (nm (sJ y4.1 (26) (Int32.toNatClampNeg 0) (Int32.toInt64 y4.2.2)) (fun w6 => some (w6, 0))) else if y4.2.1 = 2 then some (y4.1, 1) else none)
set_option maxHeartbeats 4000000 in
set_option maxRecDepth 100000 in
theorem m_L_feed (l : Launch) (hst : l.stackTraces = false) (G : va_G) (g : Nat → ClassId) (ad : Nat → Nat) (n a0 aM : Nat) (σ : St) (x1 : Int32) (x2 : Int32) (x3 : Int32) (x4 : Int32) (x5 : Int32) (x : St × Int32) (hF : F_L_feed σ x1 x2 x3 x4 x5 = some x) : vx_Met l yL_feed zs_L_feed ({ frames := 7, cells := 1, slots := 6, locals := 107 } : Room) (va_Pc [.ref (ad (0)), .int x1, .int x2, .int x3, .int x4, .int x5, .ref (ad (26))] (wP G g ad n a0 aM σ)) (qI G g ad n a0 x) (xN a0) 1 6 (fun q : Nat => a0 ≤ q) := by
  refine vx_ofWH (cc := cL_feed) (maxL := 8) (ret := (some .int)) (by decide) rfl ?_
  intro p e s m args below meth c s₁ B hml hv
  obtain ⟨rfl, hP, hD, hK⟩ := hv
  have hx := B.exec
  have hb := B.bytes
  have hr := B.returns
  have htA : ∀ w ∈ AL, w.before _ s = true := fun w h9 => atoms_spec (ws := zs_L_feed) B.pre w (List.mem_cons_of_mem _ h9)
  have hown : s.vm.findClass RL = some m.cls := findClass_of_methodNamed B.named
  have hlocks := B.notSynchronized
  have hW : Wd G g ad n a0 s.heap σ s.heap [] := ⟨hP, hD, va_S.rf⟩
  clear hP hD
  have htab := vx_table (x := yL_feed) B (atoms_spec (ws := zs_L_feed) B.pre _ List.mem_cons_self)
  have hl := lv_entry ([.ref (ad (0)), .int x1, .int x2, .int x3, .int x4, .int x5, .ref (ad (26))]) (n := 8) (Nat.le_of_ble_eq_true rfl)
  rw [lg_entry_eq]
  generalize (lg_sl ([.ref (ad (0)), .int x1, .int x2, .int x3, .int x4, .int x5, .ref (ad (26))]) ++ List.replicate (8 - (lg_sl ([.ref (ad (0)), .int x1, .int x2, .int x3, .int x4, .int x5, .ref (ad (26))])).length) Slot.unset).toArray = ls at hl ⊢
  have hl : lv_has ls 8 [(0, .ref (ad (0))), (1, .int x1), (2, .int x2), (3, .int x3), (4, .int x4), (5, .int x5), (6, .ref (ad (26)))] := hl
  unfold F_L_feed at hF
  refine lv_aload hx hb dL_feed_0 (lv_at hl 6 rfl) ?_
  refine lv_iconst (v := 0) hx hb dL_feed_2 (by decide) ?_
  refine lv_aload_n hx hb dL_feed_3 rfl (lv_at hl 0 rfl) ?_
  refine lv_iload_n hx hb dL_feed_4 rfl (lv_at hl 1 rfl) ?_
  refine lv_iload_n hx hb dL_feed_5 rfl (lv_at hl 2 rfl) ?_
  refine lv_iload_n hx hb dL_feed_6 rfl (lv_at hl 3 rfl) ?_
  refine lv_iload hx hb dL_feed_7 (lv_at hl 4 rfl) ?_
  refine lv_iload hx hb dL_feed_9 (lv_at hl 5 rfl) ?_
  obtain ⟨y4, hy4, hF⟩ := bd_some hF
  refine rx_bi (vx_runV (As := [.int x1, .int x2, .int x3, .int x4, .int x5]) (rest := [.int 0, .ref (ad (26))]) ⟨hx, hb, hml, hown, htA⟩ (m_X6_feed l hst G g ad n a0 aM σ x1 x2 x3 x4 x5 y4 hy4) (cwV 5 htA (gV aw_591 aw_592 aw_593 aw_52 gz_X6_feed) rfl rfl rfl (by decide +kernel) ⟨Nat.le_of_ble_eq_true rfl, Nat.le_of_ble_eq_true rfl⟩) (r_preV hK hW 0 (tp_lt (by decide)) (cE_k (rfl : kd 0 = 1)) rfl [.int x1, .int x2, .int x3, .int x4, .int x5]) rfl rfl hl.1 rfl (lv_room (Nat.le_of_ble_eq_true rfl)) dL_feed_11 ⟨Nat.le_of_ble_eq_true rfl, Nat.le_of_ble_eq_true rfl⟩) hW (fun E ce q9 H locs hE hW hcell hv9 hcl => ?_) (fun H locs h0y4 hW => ?_)
  · replace hF := (if_neg (fun h9 => exN_pos E (hE.trans h9))).symm.trans hF
    by_cases hk0 : y4.2.1 = 2
    · replace hF := (if_pos hk0).symm.trans hF
      have hEe := exN_2 (hE.trans hk0)
      subst hEe
      refine ct_1 (name := eIS) hown ⟨0, 16, 19, 15⟩ _ htab (by decide) (by decide) (htA _ aw_586) (cst_use (w := .castable eIS eIS) (by decide +kernel) (hK.2.2.2.2.2.2.2.1 _ (by decide +kernel))) hcell hv9 hcl ?_
      refine lv_astore (lv' := [(7, .ref q9), (0, .ref (ad (0))), (1, .int x1), (2, .int x2), (3, .int x3), (4, .int x4), (5, .int x5), (6, .ref (ad (26)))]) hx hb dL_feed_19 hl (by decide) rfl (fun ls hl => ?_)
      refine lv_iconst (v := 1) hx hb dL_feed_21 (by decide) ?_
      exact rh_iret hx hb hr hlocks hW hF dL_feed_22 (Nat.le_of_ble_eq_true rfl) (Nat.le_of_ble_eq_true rfl)
    · replace hF := (if_neg hk0).symm.trans hF
      exact absurd hF (fun h9 => nomatch h9)
  · replace hF := (if_pos h0y4).symm.trans hF
    refine lv_i2l (v := (Int32.toInt64 y4.2.2)) hx hb dL_feed_14 rfl ?_
    obtain ⟨hg5, hF⟩ := gd_some hF
    refine r_last hx hb hK hW (26) (tp_lt (by decide)) (rfl : kd 26 = 7) hg5 dL_feed_15 (fun H locs hW => ?_)
    obtain ⟨w6, ew6, hF⟩ := nm_some hF
    rw [← ew6] at hW
    refine lv_goto (tgt := 23) hx hb dL_feed_16 (by decide) ?_
    refine lv_iconst (v := 0) hx hb dL_feed_23 (by decide) ?_
    exact rh_iret hx hb hr hlocks hW hF dL_feed_24 (Nat.le_of_ble_eq_true rfl) (Nat.le_of_ble_eq_true rfl)
def F_L_end (σ : St) (x1 : Int32) : Option (St × Int32) := (F_X6_end σ x1).bind (fun y2 => if y2.2.1 = 0 then some (y2.1, 0) else if y2.2.1 = 1 then some (y2.1, 1) else none)
set_option maxHeartbeats 4000000 in
set_option maxRecDepth 100000 in
theorem m_L_end (l : Launch) (hst : l.stackTraces = false) (G : va_G) (g : Nat → ClassId) (ad : Nat → Nat) (n a0 aM : Nat) (σ : St) (x1 : Int32) (x : St × Int32) (hF : F_L_end σ x1 = some x) : vx_Met l yL_end zs_L_end ({ frames := 7, cells := 1, slots := 6, locals := 103 } : Room) (va_Pc [.ref (ad (0)), .int x1] (wP G g ad n a0 aM σ)) (qI G g ad n a0 x) (xN a0) 1 6 (fun q : Nat => a0 ≤ q) := by
  refine vx_ofWH (cc := cL_end) (maxL := 3) (ret := (some .int)) (by decide) rfl ?_
  intro p e s m args below meth c s₁ B hml hv
  obtain ⟨rfl, hP, hD, hK⟩ := hv
  have hx := B.exec
  have hb := B.bytes
  have hr := B.returns
  have htA : ∀ w ∈ AL, w.before _ s = true := fun w h9 => atoms_spec (ws := zs_L_end) B.pre w (List.mem_cons_of_mem _ h9)
  have hown : s.vm.findClass RL = some m.cls := findClass_of_methodNamed B.named
  have hlocks := B.notSynchronized
  have hW : Wd G g ad n a0 s.heap σ s.heap [] := ⟨hP, hD, va_S.rf⟩
  clear hP hD
  have htab := vx_table (x := yL_end) B (atoms_spec (ws := zs_L_end) B.pre _ List.mem_cons_self)
  have hl := lv_entry ([.ref (ad (0)), .int x1]) (n := 3) (Nat.le_of_ble_eq_true rfl)
  rw [lg_entry_eq]
  generalize (lg_sl ([.ref (ad (0)), .int x1]) ++ List.replicate (3 - (lg_sl ([.ref (ad (0)), .int x1])).length) Slot.unset).toArray = ls at hl ⊢
  have hl : lv_has ls 3 [(0, .ref (ad (0))), (1, .int x1)] := hl
  unfold F_L_end at hF
  refine lv_aload_n hx hb dL_end_0 rfl (lv_at hl 0 rfl) ?_
  refine lv_iload_n hx hb dL_end_1 rfl (lv_at hl 1 rfl) ?_
  obtain ⟨y2, hy2, hF⟩ := bd_some hF
  refine rx_bv (vx_runV (As := [.int x1]) (rest := []) ⟨hx, hb, hml, hown, htA⟩ (m_X6_end l hst G g ad n a0 aM σ x1 y2 hy2) (cwV 1 htA (gV aw_595 aw_596 aw_597 aw_52 gz_X6_end) rfl rfl rfl (by decide +kernel) ⟨Nat.le_of_ble_eq_true rfl, Nat.le_of_ble_eq_true rfl⟩) (r_preV hK hW 0 (tp_lt (by decide)) (cE_k (rfl : kd 0 = 1)) rfl [.int x1]) rfl rfl hl.1 rfl (lv_room (Nat.le_of_ble_eq_true rfl)) dL_end_2 ⟨Nat.le_of_ble_eq_true rfl, Nat.le_of_ble_eq_true rfl⟩) hW (fun E ce q9 H locs hE hW hcell hv9 hcl => ?_) (fun H locs h0y2 hW => ?_)
  · replace hF := (if_neg (fun h9 => exN_pos E (hE.trans h9))).symm.trans hF
    by_cases hk0 : y2.2.1 = 1
    · replace hF := (if_pos hk0).symm.trans hF
      have hEe := exN_1 (hE.trans hk0)
      subst hEe
      refine ct_1 (name := eIA) hown ⟨0, 5, 8, 13⟩ _ htab (by decide) (by decide) (htA _ aw_585) (cst_use (w := .castable eIA eIA) (by decide +kernel) (hK.2.2.2.2.2.2.2.1 _ (by decide +kernel))) hcell hv9 hcl ?_
      refine lv_astore_n (lv' := [(2, .ref q9), (0, .ref (ad (0))), (1, .int x1)]) hx hb dL_end_8 rfl hl (by decide) rfl (fun ls hl => ?_)
      refine lv_iconst (v := 1) hx hb dL_end_9 (by decide) ?_
      exact rh_iret hx hb hr hlocks hW hF dL_end_10 (Nat.le_of_ble_eq_true rfl) (Nat.le_of_ble_eq_true rfl)
    · replace hF := (if_neg hk0).symm.trans hF
      exact absurd hF (fun h9 => nomatch h9)
  · replace hF := (if_pos h0y2).symm.trans hF
    refine lv_goto (tgt := 11) hx hb dL_end_5 (by decide) ?_
    refine lv_iconst (v := 0) hx hb dL_end_11 (by decide) ?_
    exact rh_iret hx hb hr hlocks hW hF dL_end_12 (Nat.le_of_ble_eq_true rfl) (Nat.le_of_ble_eq_true rfl)
def F_L_answer (σ : St) (x1 : Int32) : Option (St × Int32) := (F_X6_answer σ x1).bind (fun y4 => if y4.2.1 = 0 then gd (ib 0 (ln (26))) (nm (sJ y4.1 (26) (Int32.toNatClampNeg 0) (Int32.toInt64 y4.2.2)) (fun w6 => some (w6, 0))) else if y4.2.1 = 3 then some (y4.1, 1) else none)
set_option maxHeartbeats 4000000 in
set_option maxRecDepth 100000 in
theorem m_L_answer (l : Launch) (hst : l.stackTraces = false) (G : va_G) (g : Nat → ClassId) (ad : Nat → Nat) (n a0 aM : Nat) (σ : St) (x1 : Int32) (x : St × Int32) (hF : F_L_answer σ x1 = some x) : vx_Met l yL_answer zs_L_answer ({ frames := 7, cells := 1, slots := 6, locals := 103 } : Room) (va_Pc [.ref (ad (0)), .int x1, .ref (ad (26))] (wP G g ad n a0 aM σ)) (qI G g ad n a0 x) (xN a0) 1 6 (fun q : Nat => a0 ≤ q) := by
  refine vx_ofWH (cc := cL_answer) (maxL := 4) (ret := (some .int)) (by decide) rfl ?_
  intro p e s m args below meth c s₁ B hml hv
  obtain ⟨rfl, hP, hD, hK⟩ := hv
  have hx := B.exec
  have hb := B.bytes
  have hr := B.returns
  have htA : ∀ w ∈ AL, w.before _ s = true := fun w h9 => atoms_spec (ws := zs_L_answer) B.pre w (List.mem_cons_of_mem _ h9)
  have hown : s.vm.findClass RL = some m.cls := findClass_of_methodNamed B.named
  have hlocks := B.notSynchronized
  have hW : Wd G g ad n a0 s.heap σ s.heap [] := ⟨hP, hD, va_S.rf⟩
  clear hP hD
  have htab := vx_table (x := yL_answer) B (atoms_spec (ws := zs_L_answer) B.pre _ List.mem_cons_self)
  have hl := lv_entry ([.ref (ad (0)), .int x1, .ref (ad (26))]) (n := 4) (Nat.le_of_ble_eq_true rfl)
  rw [lg_entry_eq]
  generalize (lg_sl ([.ref (ad (0)), .int x1, .ref (ad (26))]) ++ List.replicate (4 - (lg_sl ([.ref (ad (0)), .int x1, .ref (ad (26))])).length) Slot.unset).toArray = ls at hl ⊢
  have hl : lv_has ls 4 [(0, .ref (ad (0))), (1, .int x1), (2, .ref (ad (26)))] := hl
  unfold F_L_answer at hF
  refine lv_aload_n hx hb dL_answer_0 rfl (lv_at hl 2 rfl) ?_
  refine lv_iconst (v := 0) hx hb dL_answer_1 (by decide) ?_
  refine lv_aload_n hx hb dL_answer_2 rfl (lv_at hl 0 rfl) ?_
  refine lv_iload_n hx hb dL_answer_3 rfl (lv_at hl 1 rfl) ?_
  obtain ⟨y4, hy4, hF⟩ := bd_some hF
  refine rx_bi (vx_runV (As := [.int x1]) (rest := [.int 0, .ref (ad (26))]) ⟨hx, hb, hml, hown, htA⟩ (m_X6_answer l hst G g ad n a0 aM σ x1 y4 hy4) (cwV 1 htA (gV aw_600 aw_601 aw_602 aw_52 gz_X6_answer) rfl rfl rfl (by decide +kernel) ⟨Nat.le_of_ble_eq_true rfl, Nat.le_of_ble_eq_true rfl⟩) (r_preV hK hW 0 (tp_lt (by decide)) (cE_k (rfl : kd 0 = 1)) rfl [.int x1]) rfl rfl hl.1 rfl (lv_room (Nat.le_of_ble_eq_true rfl)) dL_answer_4 ⟨Nat.le_of_ble_eq_true rfl, Nat.le_of_ble_eq_true rfl⟩) hW (fun E ce q9 H locs hE hW hcell hv9 hcl => ?_) (fun H locs h0y4 hW => ?_)
  · replace hF := (if_neg (fun h9 => exN_pos E (hE.trans h9))).symm.trans hF
    by_cases hk0 : y4.2.1 = 3
    · replace hF := (if_pos hk0).symm.trans hF
      have hEe := exN_3 (hE.trans hk0)
      subst hEe
      refine ct_1 (name := eIO) hown ⟨0, 9, 12, 29⟩ _ htab (by decide) (by decide) (htA _ aw_599) (cst_use (w := .castable eIO eIO) (by decide +kernel) (hK.2.2.2.2.2.2.2.1 _ (by decide +kernel))) hcell hv9 hcl ?_
      refine lv_astore_n (lv' := [(3, .ref q9), (0, .ref (ad (0))), (1, .int x1), (2, .ref (ad (26)))]) hx hb dL_answer_12 rfl hl (by decide) rfl (fun ls hl => ?_)
      refine lv_iconst (v := 1) hx hb dL_answer_13 (by decide) ?_
      exact rh_iret hx hb hr hlocks hW hF dL_answer_14 (Nat.le_of_ble_eq_true rfl) (Nat.le_of_ble_eq_true rfl)
    · replace hF := (if_neg hk0).symm.trans hF
      exact absurd hF (fun h9 => nomatch h9)
  · replace hF := (if_pos h0y4).symm.trans hF
    refine lv_i2l (v := (Int32.toInt64 y4.2.2)) hx hb dL_answer_7 rfl ?_
    obtain ⟨hg5, hF⟩ := gd_some hF
    refine r_last hx hb hK hW (26) (tp_lt (by decide)) (rfl : kd 26 = 7) hg5 dL_answer_8 (fun H locs hW => ?_)
    obtain ⟨w6, ew6, hF⟩ := nm_some hF
    rw [← ew6] at hW
    refine lv_goto (tgt := 15) hx hb dL_answer_9 (by decide) ?_
    refine lv_iconst (v := 0) hx hb dL_answer_15 (by decide) ?_
    exact rh_iret hx hb hr hlocks hW hF dL_answer_16 (Nat.le_of_ble_eq_true rfl) (Nat.le_of_ble_eq_true rfl)
def F_L_ask (n : Nat) (σ : St) (x1 : Int32) (x2 : Int64) (x4 : Int32) (x5 : Int32) (x6 : Int32) : Option (St × Int32) := (F_X6_ask n σ x1 x2 x4 x5 x6).bind (fun y4 => if y4.2.1 = 0 then gd (ib 0 (ln (26))) (nm (sJ y4.1 (26) (Int32.toNatClampNeg 0) (Int32.toInt64 y4.2.2)) (fun w6 => some (w6, 0))) else if y4.2.1 = 1 then some (y4.1, 1) else none)
set_option maxHeartbeats 4000000 in
set_option maxRecDepth 100000 in
theorem m_L_ask (l : Launch) (hst : l.stackTraces = false) (G : va_G) (g : Nat → ClassId) (ad : Nat → Nat) (n a0 aM : Nat) (σ : St) (x1 : Int32) (x2 : Int64) (x4 : Int32) (x5 : Int32) (x6 : Int32) (x : St × Int32) (hF : F_L_ask n σ x1 x2 x4 x5 x6 = some x) : vx_Met l yL_ask zs_L_ask ({ frames := 7, cells := 1, slots := 6, locals := 153 } : Room) (va_Pc [.ref (ad (0)), .int x1, .long x2, .int x4, .int x5, .int x6, .ref (ad (26))] (wP G g ad n a0 aM σ)) (qI G g ad n a0 x) (xN a0) 1 6 (fun q : Nat => a0 ≤ q) := by
  refine vx_ofWH (cc := cL_ask) (maxL := 9) (ret := (some .int)) (by decide) rfl ?_
  intro p e s m args below meth c s₁ B hml hv
  obtain ⟨rfl, hP, hD, hK⟩ := hv
  have hx := B.exec
  have hb := B.bytes
  have hr := B.returns
  have htA : ∀ w ∈ AL, w.before _ s = true := fun w h9 => atoms_spec (ws := zs_L_ask) B.pre w (List.mem_cons_of_mem _ h9)
  have hown : s.vm.findClass RL = some m.cls := findClass_of_methodNamed B.named
  have hlocks := B.notSynchronized
  have hW : Wd G g ad n a0 s.heap σ s.heap [] := ⟨hP, hD, va_S.rf⟩
  clear hP hD
  have htab := vx_table (x := yL_ask) B (atoms_spec (ws := zs_L_ask) B.pre _ List.mem_cons_self)
  have hl := lv_entry ([.ref (ad (0)), .int x1, .long x2, .int x4, .int x5, .int x6, .ref (ad (26))]) (n := 9) (Nat.le_of_ble_eq_true rfl)
  rw [lg_entry_eq]
  generalize (lg_sl ([.ref (ad (0)), .int x1, .long x2, .int x4, .int x5, .int x6, .ref (ad (26))]) ++ List.replicate (9 - (lg_sl ([.ref (ad (0)), .int x1, .long x2, .int x4, .int x5, .int x6, .ref (ad (26))])).length) Slot.unset).toArray = ls at hl ⊢
  have hl : lv_has ls 9 [(0, .ref (ad (0))), (1, .int x1), (2, .long x2), (4, .int x4), (5, .int x5), (6, .int x6), (7, .ref (ad (26)))] := hl
  unfold F_L_ask at hF
  refine lv_aload hx hb dL_ask_0 (lv_at hl 6 rfl) ?_
  refine lv_iconst (v := 0) hx hb dL_ask_2 (by decide) ?_
  refine lv_aload_n hx hb dL_ask_3 rfl (lv_at hl 0 rfl) ?_
  refine lv_iload_n hx hb dL_ask_4 rfl (lv_at hl 1 rfl) ?_
  refine lv_lload_n hx hb dL_ask_5 rfl (lv_at hl 2 rfl) ?_
  refine lv_iload hx hb dL_ask_6 (lv_at hl 3 rfl) ?_
  refine lv_iload hx hb dL_ask_8 (lv_at hl 4 rfl) ?_
  refine lv_iload hx hb dL_ask_10 (lv_at hl 5 rfl) ?_
  obtain ⟨y4, hy4, hF⟩ := bd_some hF
  refine rx_bi (vx_runV (As := [.int x1, .long x2, .int x4, .int x5, .int x6]) (rest := [.int 0, .ref (ad (26))]) ⟨hx, hb, hml, hown, htA⟩ (m_X6_ask l hst G g ad n a0 aM σ x1 x2 x4 x5 x6 y4 hy4) (cwV 5 htA (gV aw_604 aw_605 aw_606 aw_52 gz_X6_ask) rfl rfl rfl (by decide +kernel) ⟨Nat.le_of_ble_eq_true rfl, Nat.le_of_ble_eq_true rfl⟩) (r_preV hK hW 0 (tp_lt (by decide)) (cE_k (rfl : kd 0 = 1)) rfl [.int x1, .long x2, .int x4, .int x5, .int x6]) rfl rfl hl.1 rfl (lv_room (Nat.le_of_ble_eq_true rfl)) dL_ask_12 ⟨Nat.le_of_ble_eq_true rfl, Nat.le_of_ble_eq_true rfl⟩) hW (fun E ce q9 H locs hE hW hcell hv9 hcl => ?_) (fun H locs h0y4 hW => ?_)
  · replace hF := (if_neg (fun h9 => exN_pos E (hE.trans h9))).symm.trans hF
    by_cases hk0 : y4.2.1 = 1
    · replace hF := (if_pos hk0).symm.trans hF
      have hEe := exN_1 (hE.trans hk0)
      subst hEe
      refine ct_1 (name := eIA) hown ⟨0, 17, 20, 13⟩ _ htab (by decide) (by decide) (htA _ aw_585) (cst_use (w := .castable eIA eIA) (by decide +kernel) (hK.2.2.2.2.2.2.2.1 _ (by decide +kernel))) hcell hv9 hcl ?_
      refine lv_astore (lv' := [(8, .ref q9), (0, .ref (ad (0))), (1, .int x1), (2, .long x2), (4, .int x4), (5, .int x5), (6, .int x6), (7, .ref (ad (26)))]) hx hb dL_ask_20 hl (by decide) rfl (fun ls hl => ?_)
      refine lv_iconst (v := 1) hx hb dL_ask_22 (by decide) ?_
      exact rh_iret hx hb hr hlocks hW hF dL_ask_23 (Nat.le_of_ble_eq_true rfl) (Nat.le_of_ble_eq_true rfl)
    · replace hF := (if_neg hk0).symm.trans hF
      exact absurd hF (fun h9 => nomatch h9)
  · replace hF := (if_pos h0y4).symm.trans hF
    refine lv_i2l (v := (Int32.toInt64 y4.2.2)) hx hb dL_ask_15 rfl ?_
    obtain ⟨hg5, hF⟩ := gd_some hF
    refine r_last hx hb hK hW (26) (tp_lt (by decide)) (rfl : kd 26 = 7) hg5 dL_ask_16 (fun H locs hW => ?_)
    obtain ⟨w6, ew6, hF⟩ := nm_some hF
    rw [← ew6] at hW
    refine lv_goto (tgt := 24) hx hb dL_ask_17 (by decide) ?_
    refine lv_iconst (v := 0) hx hb dL_ask_24 (by decide) ?_
    exact rh_iret hx hb hr hlocks hW hF dL_ask_25 (Nat.le_of_ble_eq_true rfl) (Nat.le_of_ble_eq_true rfl)
def F_L_spoil (σ : St) (x1 : Int32) (x2 : Int32) : Option (St × Int32) := (F_X6_spoil σ x1 x2).bind (fun y2 => if y2.2.1 = 0 then some (y2.1, 0) else if y2.2.1 = 1 then some (y2.1, 1) else none)
set_option maxHeartbeats 4000000 in
set_option maxRecDepth 100000 in
theorem m_L_spoil (l : Launch) (hst : l.stackTraces = false) (G : va_G) (g : Nat → ClassId) (ad : Nat → Nat) (n a0 aM : Nat) (σ : St) (x1 : Int32) (x2 : Int32) (x : St × Int32) (hF : F_L_spoil σ x1 x2 = some x) : vx_Met l yL_spoil zs_L_spoil ({ frames := 7, cells := 1, slots := 6, locals := 104 } : Room) (va_Pc [.ref (ad (0)), .int x1, .int x2] (wP G g ad n a0 aM σ)) (qI G g ad n a0 x) (xN a0) 1 6 (fun q : Nat => a0 ≤ q) := by
  refine vx_ofWH (cc := cL_spoil) (maxL := 4) (ret := (some .int)) (by decide) rfl ?_
  intro p e s m args below meth c s₁ B hml hv
  obtain ⟨rfl, hP, hD, hK⟩ := hv
  have hx := B.exec
  have hb := B.bytes
  have hr := B.returns
  have htA : ∀ w ∈ AL, w.before _ s = true := fun w h9 => atoms_spec (ws := zs_L_spoil) B.pre w (List.mem_cons_of_mem _ h9)
  have hown : s.vm.findClass RL = some m.cls := findClass_of_methodNamed B.named
  have hlocks := B.notSynchronized
  have hW : Wd G g ad n a0 s.heap σ s.heap [] := ⟨hP, hD, va_S.rf⟩
  clear hP hD
  have htab := vx_table (x := yL_spoil) B (atoms_spec (ws := zs_L_spoil) B.pre _ List.mem_cons_self)
  have hl := lv_entry ([.ref (ad (0)), .int x1, .int x2]) (n := 4) (Nat.le_of_ble_eq_true rfl)
  rw [lg_entry_eq]
  generalize (lg_sl ([.ref (ad (0)), .int x1, .int x2]) ++ List.replicate (4 - (lg_sl ([.ref (ad (0)), .int x1, .int x2])).length) Slot.unset).toArray = ls at hl ⊢
  have hl : lv_has ls 4 [(0, .ref (ad (0))), (1, .int x1), (2, .int x2)] := hl
  unfold F_L_spoil at hF
  refine lv_aload_n hx hb dL_spoil_0 rfl (lv_at hl 0 rfl) ?_
  refine lv_iload_n hx hb dL_spoil_1 rfl (lv_at hl 1 rfl) ?_
  refine lv_iload_n hx hb dL_spoil_2 rfl (lv_at hl 2 rfl) ?_
  obtain ⟨y2, hy2, hF⟩ := bd_some hF
  refine rx_bv (vx_runV (As := [.int x1, .int x2]) (rest := []) ⟨hx, hb, hml, hown, htA⟩ (m_X6_spoil l hst G g ad n a0 aM σ x1 x2 y2 hy2) (cwV 2 htA (gV aw_608 aw_609 aw_610 aw_52 gz_X6_spoil) rfl rfl rfl (by decide +kernel) ⟨Nat.le_of_ble_eq_true rfl, Nat.le_of_ble_eq_true rfl⟩) (r_preV hK hW 0 (tp_lt (by decide)) (cE_k (rfl : kd 0 = 1)) rfl [.int x1, .int x2]) rfl rfl hl.1 rfl (lv_room (Nat.le_of_ble_eq_true rfl)) dL_spoil_3 ⟨Nat.le_of_ble_eq_true rfl, Nat.le_of_ble_eq_true rfl⟩) hW (fun E ce q9 H locs hE hW hcell hv9 hcl => ?_) (fun H locs h0y2 hW => ?_)
  · replace hF := (if_neg (fun h9 => exN_pos E (hE.trans h9))).symm.trans hF
    by_cases hk0 : y2.2.1 = 1
    · replace hF := (if_pos hk0).symm.trans hF
      have hEe := exN_1 (hE.trans hk0)
      subst hEe
      refine ct_1 (name := eIA) hown ⟨0, 6, 9, 13⟩ _ htab (by decide) (by decide) (htA _ aw_585) (cst_use (w := .castable eIA eIA) (by decide +kernel) (hK.2.2.2.2.2.2.2.1 _ (by decide +kernel))) hcell hv9 hcl ?_
      refine lv_astore_n (lv' := [(3, .ref q9), (0, .ref (ad (0))), (1, .int x1), (2, .int x2)]) hx hb dL_spoil_9 rfl hl (by decide) rfl (fun ls hl => ?_)
      refine lv_iconst (v := 1) hx hb dL_spoil_10 (by decide) ?_
      exact rh_iret hx hb hr hlocks hW hF dL_spoil_11 (Nat.le_of_ble_eq_true rfl) (Nat.le_of_ble_eq_true rfl)
    · replace hF := (if_neg hk0).symm.trans hF
      exact absurd hF (fun h9 => nomatch h9)
  · replace hF := (if_pos h0y2).symm.trans hF
    refine lv_goto (tgt := 12) hx hb dL_spoil_6 (by decide) ?_
    refine lv_iconst (v := 0) hx hb dL_spoil_12 (by decide) ?_
    exact rh_iret hx hb hr hlocks hW hF dL_spoil_13 (Nat.le_of_ble_eq_true rfl) (Nat.le_of_ble_eq_true rfl)
def F_L_about (n : Nat) (σ : St) (x1 : Int32) (x2 : Int32) : Option (St × Int32) := (F_X6_about n σ x1 x2).bind (fun y4 => if y4.2.1 = 0 then gd (ib 0 (ln (26))) (nm (sJ y4.1 (26) (Int32.toNatClampNeg 0) (Int32.toInt64 y4.2.2)) (fun w6 => some (w6, 0))) else if y4.2.1 = 3 then some (y4.1, 1) else none)
set_option maxHeartbeats 4000000 in
set_option maxRecDepth 100000 in
theorem m_L_about (l : Launch) (hst : l.stackTraces = false) (G : va_G) (g : Nat → ClassId) (ad : Nat → Nat) (n a0 aM : Nat) (σ : St) (x1 : Int32) (x2 : Int32) (x : St × Int32) (hF : F_L_about n σ x1 x2 = some x) : vx_Met l yL_about zs_L_about ({ frames := 8, cells := 2, slots := 12, locals := 126 } : Room) (va_Pc [.ref (ad (0)), .int x1, .int x2, .ref (ad (26))] (wP G g ad n a0 aM σ)) (qI G g ad n a0 x) (xN a0) 2 12 (fun q : Nat => a0 ≤ q) := by
  refine vx_ofWH (cc := cL_about) (maxL := 5) (ret := (some .int)) (by decide) rfl ?_
  intro p e s m args below meth c s₁ B hml hv
  obtain ⟨rfl, hP, hD, hK⟩ := hv
  have hx := B.exec
  have hb := B.bytes
  have hr := B.returns
  have htA : ∀ w ∈ AL, w.before _ s = true := fun w h9 => atoms_spec (ws := zs_L_about) B.pre w (List.mem_cons_of_mem _ h9)
  have hown : s.vm.findClass RL = some m.cls := findClass_of_methodNamed B.named
  have hlocks := B.notSynchronized
  have hW : Wd G g ad n a0 s.heap σ s.heap [] := ⟨hP, hD, va_S.rf⟩
  clear hP hD
  have htab := vx_table (x := yL_about) B (atoms_spec (ws := zs_L_about) B.pre _ List.mem_cons_self)
  have hl := lv_entry ([.ref (ad (0)), .int x1, .int x2, .ref (ad (26))]) (n := 5) (Nat.le_of_ble_eq_true rfl)
  rw [lg_entry_eq]
  generalize (lg_sl ([.ref (ad (0)), .int x1, .int x2, .ref (ad (26))]) ++ List.replicate (5 - (lg_sl ([.ref (ad (0)), .int x1, .int x2, .ref (ad (26))])).length) Slot.unset).toArray = ls at hl ⊢
  have hl : lv_has ls 5 [(0, .ref (ad (0))), (1, .int x1), (2, .int x2), (3, .ref (ad (26)))] := hl
  unfold F_L_about at hF
  refine lv_aload_n hx hb dL_about_0 rfl (lv_at hl 3 rfl) ?_
  refine lv_iconst (v := 0) hx hb dL_about_1 (by decide) ?_
  refine lv_aload_n hx hb dL_about_2 rfl (lv_at hl 0 rfl) ?_
  refine lv_iload_n hx hb dL_about_3 rfl (lv_at hl 1 rfl) ?_
  refine lv_iload_n hx hb dL_about_4 rfl (lv_at hl 2 rfl) ?_
  obtain ⟨y4, hy4, hF⟩ := bd_some hF
  refine rx_bi (vx_runV (As := [.int x1, .int x2]) (rest := [.int 0, .ref (ad (26))]) ⟨hx, hb, hml, hown, htA⟩ (m_X6_about l hst G g ad n a0 aM σ x1 x2 y4 hy4) (cwV 2 htA (gV aw_612 aw_613 aw_614 aw_52 gz_X6_about) rfl rfl rfl (by decide +kernel) ⟨Nat.le_of_ble_eq_true rfl, Nat.le_of_ble_eq_true rfl⟩) (r_preV hK hW 0 (tp_lt (by decide)) (cE_k (rfl : kd 0 = 1)) rfl [.int x1, .int x2]) rfl rfl hl.1 rfl (lv_room (Nat.le_of_ble_eq_true rfl)) dL_about_5 ⟨Nat.le_of_ble_eq_true rfl, Nat.le_of_ble_eq_true rfl⟩) hW (fun E ce q9 H locs hE hW hcell hv9 hcl => ?_) (fun H locs h0y4 hW => ?_)
  · replace hF := (if_neg (fun h9 => exN_pos E (hE.trans h9))).symm.trans hF
    by_cases hk0 : y4.2.1 = 3
    · replace hF := (if_pos hk0).symm.trans hF
      have hEe := exN_3 (hE.trans hk0)
      subst hEe
      refine ct_1 (name := eIO) hown ⟨0, 10, 13, 29⟩ _ htab (by decide) (by decide) (htA _ aw_599) (cst_use (w := .castable eIO eIO) (by decide +kernel) (hK.2.2.2.2.2.2.2.1 _ (by decide +kernel))) hcell hv9 hcl ?_
      refine lv_astore (lv' := [(4, .ref q9), (0, .ref (ad (0))), (1, .int x1), (2, .int x2), (3, .ref (ad (26)))]) hx hb dL_about_13 hl (by decide) rfl (fun ls hl => ?_)
      refine lv_iconst (v := 1) hx hb dL_about_15 (by decide) ?_
      exact rh_iret hx hb hr hlocks hW hF dL_about_16 (Nat.le_of_ble_eq_true rfl) (Nat.le_of_ble_eq_true rfl)
    · replace hF := (if_neg hk0).symm.trans hF
      exact absurd hF (fun h9 => nomatch h9)
  · replace hF := (if_pos h0y4).symm.trans hF
    refine lv_i2l (v := (Int32.toInt64 y4.2.2)) hx hb dL_about_8 rfl ?_
    obtain ⟨hg5, hF⟩ := gd_some hF
    refine r_last hx hb hK hW (26) (tp_lt (by decide)) (rfl : kd 26 = 7) hg5 dL_about_9 (fun H locs hW => ?_)
    obtain ⟨w6, ew6, hF⟩ := nm_some hF
    rw [← ew6] at hW
    refine lv_goto (tgt := 17) hx hb dL_about_10 (by decide) ?_
    refine lv_iconst (v := 0) hx hb dL_about_17 (by decide) ?_
    exact rh_iret hx hb hr hlocks hW hF dL_about_18 (Nat.le_of_ble_eq_true rfl) (Nat.le_of_ble_eq_true rfl)
def F_L_rest (n : Nat) (σ : St) (x1 : Int32) : Option (St × Int32) := (F_X6_rest n σ x1).bind (fun y4 => if y4.2.1 = 0 then gd (ib 0 (ln (26))) (nm (sJ y4.1 (26) (Int32.toNatClampNeg 0) y4.2.2) (fun w6 => some (w6, 0))) else if y4.2.1 = 3 then some (y4.1, 1) else none)
set_option maxHeartbeats 4000000 in
set_option maxRecDepth 100000 in
theorem m_L_rest (l : Launch) (hst : l.stackTraces = false) (G : va_G) (g : Nat → ClassId) (ad : Nat → Nat) (n a0 aM : Nat) (σ : St) (x1 : Int32) (x : St × Int32) (hF : F_L_rest n σ x1 = some x) : vx_Met l yL_rest zs_L_rest ({ frames := 8, cells := 2, slots := 12, locals := 124 } : Room) (va_Pc [.ref (ad (0)), .int x1, .ref (ad (26))] (wP G g ad n a0 aM σ)) (qI G g ad n a0 x) (xN a0) 2 12 (fun q : Nat => a0 ≤ q) := by
  refine vx_ofWH (cc := cL_rest) (maxL := 4) (ret := (some .int)) (by decide) rfl ?_
  intro p e s m args below meth c s₁ B hml hv
  obtain ⟨rfl, hP, hD, hK⟩ := hv
  have hx := B.exec
  have hb := B.bytes
  have hr := B.returns
  have htA : ∀ w ∈ AL, w.before _ s = true := fun w h9 => atoms_spec (ws := zs_L_rest) B.pre w (List.mem_cons_of_mem _ h9)
  have hown : s.vm.findClass RL = some m.cls := findClass_of_methodNamed B.named
  have hlocks := B.notSynchronized
  have hW : Wd G g ad n a0 s.heap σ s.heap [] := ⟨hP, hD, va_S.rf⟩
  clear hP hD
  have htab := vx_table (x := yL_rest) B (atoms_spec (ws := zs_L_rest) B.pre _ List.mem_cons_self)
  have hl := lv_entry ([.ref (ad (0)), .int x1, .ref (ad (26))]) (n := 4) (Nat.le_of_ble_eq_true rfl)
  rw [lg_entry_eq]
  generalize (lg_sl ([.ref (ad (0)), .int x1, .ref (ad (26))]) ++ List.replicate (4 - (lg_sl ([.ref (ad (0)), .int x1, .ref (ad (26))])).length) Slot.unset).toArray = ls at hl ⊢
  have hl : lv_has ls 4 [(0, .ref (ad (0))), (1, .int x1), (2, .ref (ad (26)))] := hl
  unfold F_L_rest at hF
  refine lv_aload_n hx hb dL_rest_0 rfl (lv_at hl 2 rfl) ?_
  refine lv_iconst (v := 0) hx hb dL_rest_1 (by decide) ?_
  refine lv_aload_n hx hb dL_rest_2 rfl (lv_at hl 0 rfl) ?_
  refine lv_iload_n hx hb dL_rest_3 rfl (lv_at hl 1 rfl) ?_
  obtain ⟨y4, hy4, hF⟩ := bd_some hF
  refine rx_bl (vx_runV (As := [.int x1]) (rest := [.int 0, .ref (ad (26))]) ⟨hx, hb, hml, hown, htA⟩ (m_X6_rest l hst G g ad n a0 aM σ x1 y4 hy4) (cwV 1 htA (gV aw_616 aw_617 aw_618 aw_52 gz_X6_rest) rfl rfl rfl (by decide +kernel) ⟨Nat.le_of_ble_eq_true rfl, Nat.le_of_ble_eq_true rfl⟩) (r_preV hK hW 0 (tp_lt (by decide)) (cE_k (rfl : kd 0 = 1)) rfl [.int x1]) rfl rfl hl.1 rfl (lv_room (Nat.le_of_ble_eq_true rfl)) dL_rest_4 ⟨Nat.le_of_ble_eq_true rfl, Nat.le_of_ble_eq_true rfl⟩) hW (fun E ce q9 H locs hE hW hcell hv9 hcl => ?_) (fun H locs h0y4 hW => ?_)
  · replace hF := (if_neg (fun h9 => exN_pos E (hE.trans h9))).symm.trans hF
    by_cases hk0 : y4.2.1 = 3
    · replace hF := (if_pos hk0).symm.trans hF
      have hEe := exN_3 (hE.trans hk0)
      subst hEe
      refine ct_1 (name := eIO) hown ⟨0, 8, 11, 29⟩ _ htab (by decide) (by decide) (htA _ aw_599) (cst_use (w := .castable eIO eIO) (by decide +kernel) (hK.2.2.2.2.2.2.2.1 _ (by decide +kernel))) hcell hv9 hcl ?_
      refine lv_astore_n (lv' := [(3, .ref q9), (0, .ref (ad (0))), (1, .int x1), (2, .ref (ad (26)))]) hx hb dL_rest_11 rfl hl (by decide) rfl (fun ls hl => ?_)
      refine lv_iconst (v := 1) hx hb dL_rest_12 (by decide) ?_
      exact rh_iret hx hb hr hlocks hW hF dL_rest_13 (Nat.le_of_ble_eq_true rfl) (Nat.le_of_ble_eq_true rfl)
    · replace hF := (if_neg hk0).symm.trans hF
      exact absurd hF (fun h9 => nomatch h9)
  · replace hF := (if_pos h0y4).symm.trans hF
    obtain ⟨hg5, hF⟩ := gd_some hF
    refine r_last hx hb hK hW (26) (tp_lt (by decide)) (rfl : kd 26 = 7) hg5 dL_rest_7 (fun H locs hW => ?_)
    obtain ⟨w6, ew6, hF⟩ := nm_some hF
    rw [← ew6] at hW
    refine lv_goto (tgt := 14) hx hb dL_rest_8 (by decide) ?_
    refine lv_iconst (v := 0) hx hb dL_rest_14 (by decide) ?_
    exact rh_iret hx hb hr hlocks hW hF dL_rest_15 (Nat.le_of_ble_eq_true rfl) (Nat.le_of_ble_eq_true rfl)
def F_L_level (n : Nat) (σ : St) (x1 : Int32) (x2 : Int32) : Option (St × Int32) := (F_X6_level n σ x1 x2).bind (fun y4 => if y4.2.1 = 0 then gd (ib 0 (ln (26))) (nm (sJ y4.1 (26) (Int32.toNatClampNeg 0) (Int32.toInt64 y4.2.2)) (fun w6 => some (w6, 0))) else if y4.2.1 = 3 then some (y4.1, 1) else none)
set_option maxHeartbeats 4000000 in
set_option maxRecDepth 100000 in
theorem m_L_level (l : Launch) (hst : l.stackTraces = false) (G : va_G) (g : Nat → ClassId) (ad : Nat → Nat) (n a0 aM : Nat) (σ : St) (x1 : Int32) (x2 : Int32) (x : St × Int32) (hF : F_L_level n σ x1 x2 = some x) : vx_Met l yL_level zs_L_level ({ frames := 8, cells := 2, slots := 12, locals := 126 } : Room) (va_Pc [.ref (ad (0)), .int x1, .int x2, .ref (ad (26))] (wP G g ad n a0 aM σ)) (qI G g ad n a0 x) (xN a0) 2 12 (fun q : Nat => a0 ≤ q) := by
  refine vx_ofWH (cc := cL_level) (maxL := 5) (ret := (some .int)) (by decide) rfl ?_
  intro p e s m args below meth c s₁ B hml hv
  obtain ⟨rfl, hP, hD, hK⟩ := hv
  have hx := B.exec
  have hb := B.bytes
  have hr := B.returns
  have htA : ∀ w ∈ AL, w.before _ s = true := fun w h9 => atoms_spec (ws := zs_L_level) B.pre w (List.mem_cons_of_mem _ h9)
  have hown : s.vm.findClass RL = some m.cls := findClass_of_methodNamed B.named
  have hlocks := B.notSynchronized
  have hW : Wd G g ad n a0 s.heap σ s.heap [] := ⟨hP, hD, va_S.rf⟩
  clear hP hD
  have htab := vx_table (x := yL_level) B (atoms_spec (ws := zs_L_level) B.pre _ List.mem_cons_self)
  have hl := lv_entry ([.ref (ad (0)), .int x1, .int x2, .ref (ad (26))]) (n := 5) (Nat.le_of_ble_eq_true rfl)
  rw [lg_entry_eq]
  generalize (lg_sl ([.ref (ad (0)), .int x1, .int x2, .ref (ad (26))]) ++ List.replicate (5 - (lg_sl ([.ref (ad (0)), .int x1, .int x2, .ref (ad (26))])).length) Slot.unset).toArray = ls at hl ⊢
  have hl : lv_has ls 5 [(0, .ref (ad (0))), (1, .int x1), (2, .int x2), (3, .ref (ad (26)))] := hl
  unfold F_L_level at hF
  refine lv_aload_n hx hb dL_level_0 rfl (lv_at hl 3 rfl) ?_
  refine lv_iconst (v := 0) hx hb dL_level_1 (by decide) ?_
  refine lv_aload_n hx hb dL_level_2 rfl (lv_at hl 0 rfl) ?_
  refine lv_iload_n hx hb dL_level_3 rfl (lv_at hl 1 rfl) ?_
  refine lv_iload_n hx hb dL_level_4 rfl (lv_at hl 2 rfl) ?_
  obtain ⟨y4, hy4, hF⟩ := bd_some hF
  refine rx_bi (vx_runV (As := [.int x1, .int x2]) (rest := [.int 0, .ref (ad (26))]) ⟨hx, hb, hml, hown, htA⟩ (m_X6_level l hst G g ad n a0 aM σ x1 x2 y4 hy4) (cwV 2 htA (gV aw_620 aw_621 aw_622 aw_52 gz_X6_level) rfl rfl rfl (by decide +kernel) ⟨Nat.le_of_ble_eq_true rfl, Nat.le_of_ble_eq_true rfl⟩) (r_preV hK hW 0 (tp_lt (by decide)) (cE_k (rfl : kd 0 = 1)) rfl [.int x1, .int x2]) rfl rfl hl.1 rfl (lv_room (Nat.le_of_ble_eq_true rfl)) dL_level_5 ⟨Nat.le_of_ble_eq_true rfl, Nat.le_of_ble_eq_true rfl⟩) hW (fun E ce q9 H locs hE hW hcell hv9 hcl => ?_) (fun H locs h0y4 hW => ?_)
  · replace hF := (if_neg (fun h9 => exN_pos E (hE.trans h9))).symm.trans hF
    by_cases hk0 : y4.2.1 = 3
    · replace hF := (if_pos hk0).symm.trans hF
      have hEe := exN_3 (hE.trans hk0)
      subst hEe
      refine ct_1 (name := eIO) hown ⟨0, 10, 13, 29⟩ _ htab (by decide) (by decide) (htA _ aw_599) (cst_use (w := .castable eIO eIO) (by decide +kernel) (hK.2.2.2.2.2.2.2.1 _ (by decide +kernel))) hcell hv9 hcl ?_
      refine lv_astore (lv' := [(4, .ref q9), (0, .ref (ad (0))), (1, .int x1), (2, .int x2), (3, .ref (ad (26)))]) hx hb dL_level_13 hl (by decide) rfl (fun ls hl => ?_)
      refine lv_iconst (v := 1) hx hb dL_level_15 (by decide) ?_
      exact rh_iret hx hb hr hlocks hW hF dL_level_16 (Nat.le_of_ble_eq_true rfl) (Nat.le_of_ble_eq_true rfl)
    · replace hF := (if_neg hk0).symm.trans hF
      exact absurd hF (fun h9 => nomatch h9)
  · replace hF := (if_pos h0y4).symm.trans hF
    refine lv_i2l (v := (Int32.toInt64 y4.2.2)) hx hb dL_level_8 rfl ?_
    obtain ⟨hg5, hF⟩ := gd_some hF
    refine r_last hx hb hK hW (26) (tp_lt (by decide)) (rfl : kd 26 = 7) hg5 dL_level_9 (fun H locs hW => ?_)
    obtain ⟨w6, ew6, hF⟩ := nm_some hF
    rw [← ew6] at hW
    refine lv_goto (tgt := 17) hx hb dL_level_10 (by decide) ?_
    refine lv_iconst (v := 0) hx hb dL_level_17 (by decide) ?_
    exact rh_iret hx hb hr hlocks hW hF dL_level_18 (Nat.le_of_ble_eq_true rfl) (Nat.le_of_ble_eq_true rfl)
def F_L_label (n : Nat) (σ : St) (x1 : Int32) (x2 : Int32) : Option (St × Int32) := (F_X6_label n σ x1 x2).bind (fun y4 => if y4.2.1 = 0 then gd (ib 0 (ln (26))) (nm (sJ y4.1 (26) (Int32.toNatClampNeg 0) (Int32.toInt64 y4.2.2)) (fun w6 => some (w6, 0))) else if y4.2.1 = 3 then some (y4.1, 1) else none)
set_option maxHeartbeats 4000000 in
set_option maxRecDepth 100000 in
theorem m_L_label (l : Launch) (hst : l.stackTraces = false) (G : va_G) (g : Nat → ClassId) (ad : Nat → Nat) (n a0 aM : Nat) (σ : St) (x1 : Int32) (x2 : Int32) (x : St × Int32) (hF : F_L_label n σ x1 x2 = some x) : vx_Met l yL_label zs_L_label ({ frames := 8, cells := 2, slots := 12, locals := 126 } : Room) (va_Pc [.ref (ad (0)), .int x1, .int x2, .ref (ad (26))] (wP G g ad n a0 aM σ)) (qI G g ad n a0 x) (xN a0) 2 12 (fun q : Nat => a0 ≤ q) := by
  refine vx_ofWH (cc := cL_label) (maxL := 5) (ret := (some .int)) (by decide) rfl ?_
  intro p e s m args below meth c s₁ B hml hv
  obtain ⟨rfl, hP, hD, hK⟩ := hv
  have hx := B.exec
  have hb := B.bytes
  have hr := B.returns
  have htA : ∀ w ∈ AL, w.before _ s = true := fun w h9 => atoms_spec (ws := zs_L_label) B.pre w (List.mem_cons_of_mem _ h9)
  have hown : s.vm.findClass RL = some m.cls := findClass_of_methodNamed B.named
  have hlocks := B.notSynchronized
  have hW : Wd G g ad n a0 s.heap σ s.heap [] := ⟨hP, hD, va_S.rf⟩
  clear hP hD
  have htab := vx_table (x := yL_label) B (atoms_spec (ws := zs_L_label) B.pre _ List.mem_cons_self)
  have hl := lv_entry ([.ref (ad (0)), .int x1, .int x2, .ref (ad (26))]) (n := 5) (Nat.le_of_ble_eq_true rfl)
  rw [lg_entry_eq]
  generalize (lg_sl ([.ref (ad (0)), .int x1, .int x2, .ref (ad (26))]) ++ List.replicate (5 - (lg_sl ([.ref (ad (0)), .int x1, .int x2, .ref (ad (26))])).length) Slot.unset).toArray = ls at hl ⊢
  have hl : lv_has ls 5 [(0, .ref (ad (0))), (1, .int x1), (2, .int x2), (3, .ref (ad (26)))] := hl
  unfold F_L_label at hF
  refine lv_aload_n hx hb dL_label_0 rfl (lv_at hl 3 rfl) ?_
  refine lv_iconst (v := 0) hx hb dL_label_1 (by decide) ?_
  refine lv_aload_n hx hb dL_label_2 rfl (lv_at hl 0 rfl) ?_
  refine lv_iload_n hx hb dL_label_3 rfl (lv_at hl 1 rfl) ?_
  refine lv_iload_n hx hb dL_label_4 rfl (lv_at hl 2 rfl) ?_
  obtain ⟨y4, hy4, hF⟩ := bd_some hF
  refine rx_bi (vx_runV (As := [.int x1, .int x2]) (rest := [.int 0, .ref (ad (26))]) ⟨hx, hb, hml, hown, htA⟩ (m_X6_label l hst G g ad n a0 aM σ x1 x2 y4 hy4) (cwV 2 htA (gV aw_624 aw_625 aw_626 aw_52 gz_X6_label) rfl rfl rfl (by decide +kernel) ⟨Nat.le_of_ble_eq_true rfl, Nat.le_of_ble_eq_true rfl⟩) (r_preV hK hW 0 (tp_lt (by decide)) (cE_k (rfl : kd 0 = 1)) rfl [.int x1, .int x2]) rfl rfl hl.1 rfl (lv_room (Nat.le_of_ble_eq_true rfl)) dL_label_5 ⟨Nat.le_of_ble_eq_true rfl, Nat.le_of_ble_eq_true rfl⟩) hW (fun E ce q9 H locs hE hW hcell hv9 hcl => ?_) (fun H locs h0y4 hW => ?_)
  · replace hF := (if_neg (fun h9 => exN_pos E (hE.trans h9))).symm.trans hF
    by_cases hk0 : y4.2.1 = 3
    · replace hF := (if_pos hk0).symm.trans hF
      have hEe := exN_3 (hE.trans hk0)
      subst hEe
      refine ct_1 (name := eIO) hown ⟨0, 10, 13, 29⟩ _ htab (by decide) (by decide) (htA _ aw_599) (cst_use (w := .castable eIO eIO) (by decide +kernel) (hK.2.2.2.2.2.2.2.1 _ (by decide +kernel))) hcell hv9 hcl ?_
      refine lv_astore (lv' := [(4, .ref q9), (0, .ref (ad (0))), (1, .int x1), (2, .int x2), (3, .ref (ad (26)))]) hx hb dL_label_13 hl (by decide) rfl (fun ls hl => ?_)
      refine lv_iconst (v := 1) hx hb dL_label_15 (by decide) ?_
      exact rh_iret hx hb hr hlocks hW hF dL_label_16 (Nat.le_of_ble_eq_true rfl) (Nat.le_of_ble_eq_true rfl)
    · replace hF := (if_neg hk0).symm.trans hF
      exact absurd hF (fun h9 => nomatch h9)
  · replace hF := (if_pos h0y4).symm.trans hF
    refine lv_i2l (v := (Int32.toInt64 y4.2.2)) hx hb dL_label_8 rfl ?_
    obtain ⟨hg5, hF⟩ := gd_some hF
    refine r_last hx hb hK hW (26) (tp_lt (by decide)) (rfl : kd 26 = 7) hg5 dL_label_9 (fun H locs hW => ?_)
    obtain ⟨w6, ew6, hF⟩ := nm_some hF
    rw [← ew6] at hW
    refine lv_goto (tgt := 17) hx hb dL_label_10 (by decide) ?_
    refine lv_iconst (v := 0) hx hb dL_label_17 (by decide) ?_
    exact rh_iret hx hb hr hlocks hW hF dL_label_18 (Nat.le_of_ble_eq_true rfl) (Nat.le_of_ble_eq_true rfl)
def F_L_silence (n : Nat) (σ : St) (x1 : Int32) (x2 : Int32) : Option (St × Int32) := (F_X6_silence n σ x1 x2).bind (fun y4 => if y4.2.1 = 0 then gd (ib 0 (ln (26))) (nm (sJ y4.1 (26) (Int32.toNatClampNeg 0) (Int32.toInt64 y4.2.2)) (fun w6 => some (w6, 0))) else if y4.2.1 = 3 then some (y4.1, 1) else none)
set_option maxHeartbeats 4000000 in
set_option maxRecDepth 100000 in
theorem m_L_silence (l : Launch) (hst : l.stackTraces = false) (G : va_G) (g : Nat → ClassId) (ad : Nat → Nat) (n a0 aM : Nat) (σ : St) (x1 : Int32) (x2 : Int32) (x : St × Int32) (hF : F_L_silence n σ x1 x2 = some x) : vx_Met l yL_silence zs_L_silence ({ frames := 8, cells := 2, slots := 12, locals := 127 } : Room) (va_Pc [.ref (ad (0)), .int x1, .int x2, .ref (ad (26))] (wP G g ad n a0 aM σ)) (qI G g ad n a0 x) (xN a0) 2 12 (fun q : Nat => a0 ≤ q) := by
  refine vx_ofWH (cc := cL_silence) (maxL := 5) (ret := (some .int)) (by decide) rfl ?_
  intro p e s m args below meth c s₁ B hml hv
  obtain ⟨rfl, hP, hD, hK⟩ := hv
  have hx := B.exec
  have hb := B.bytes
  have hr := B.returns
  have htA : ∀ w ∈ AL, w.before _ s = true := fun w h9 => atoms_spec (ws := zs_L_silence) B.pre w (List.mem_cons_of_mem _ h9)
  have hown : s.vm.findClass RL = some m.cls := findClass_of_methodNamed B.named
  have hlocks := B.notSynchronized
  have hW : Wd G g ad n a0 s.heap σ s.heap [] := ⟨hP, hD, va_S.rf⟩
  clear hP hD
  have htab := vx_table (x := yL_silence) B (atoms_spec (ws := zs_L_silence) B.pre _ List.mem_cons_self)
  have hl := lv_entry ([.ref (ad (0)), .int x1, .int x2, .ref (ad (26))]) (n := 5) (Nat.le_of_ble_eq_true rfl)
  rw [lg_entry_eq]
  generalize (lg_sl ([.ref (ad (0)), .int x1, .int x2, .ref (ad (26))]) ++ List.replicate (5 - (lg_sl ([.ref (ad (0)), .int x1, .int x2, .ref (ad (26))])).length) Slot.unset).toArray = ls at hl ⊢
  have hl : lv_has ls 5 [(0, .ref (ad (0))), (1, .int x1), (2, .int x2), (3, .ref (ad (26)))] := hl
  unfold F_L_silence at hF
  refine lv_aload_n hx hb dL_silence_0 rfl (lv_at hl 3 rfl) ?_
  refine lv_iconst (v := 0) hx hb dL_silence_1 (by decide) ?_
  refine lv_aload_n hx hb dL_silence_2 rfl (lv_at hl 0 rfl) ?_
  refine lv_iload_n hx hb dL_silence_3 rfl (lv_at hl 1 rfl) ?_
  refine lv_iload_n hx hb dL_silence_4 rfl (lv_at hl 2 rfl) ?_
  obtain ⟨y4, hy4, hF⟩ := bd_some hF
  refine rx_bi (vx_runV (As := [.int x1, .int x2]) (rest := [.int 0, .ref (ad (26))]) ⟨hx, hb, hml, hown, htA⟩ (m_X6_silence l hst G g ad n a0 aM σ x1 x2 y4 hy4) (cwV 2 htA (gV aw_628 aw_629 aw_630 aw_52 gz_X6_silence) rfl rfl rfl (by decide +kernel) ⟨Nat.le_of_ble_eq_true rfl, Nat.le_of_ble_eq_true rfl⟩) (r_preV hK hW 0 (tp_lt (by decide)) (cE_k (rfl : kd 0 = 1)) rfl [.int x1, .int x2]) rfl rfl hl.1 rfl (lv_room (Nat.le_of_ble_eq_true rfl)) dL_silence_5 ⟨Nat.le_of_ble_eq_true rfl, Nat.le_of_ble_eq_true rfl⟩) hW (fun E ce q9 H locs hE hW hcell hv9 hcl => ?_) (fun H locs h0y4 hW => ?_)
  · replace hF := (if_neg (fun h9 => exN_pos E (hE.trans h9))).symm.trans hF
    by_cases hk0 : y4.2.1 = 3
    · replace hF := (if_pos hk0).symm.trans hF
      have hEe := exN_3 (hE.trans hk0)
      subst hEe
      refine ct_1 (name := eIO) hown ⟨0, 10, 13, 29⟩ _ htab (by decide) (by decide) (htA _ aw_599) (cst_use (w := .castable eIO eIO) (by decide +kernel) (hK.2.2.2.2.2.2.2.1 _ (by decide +kernel))) hcell hv9 hcl ?_
      refine lv_astore (lv' := [(4, .ref q9), (0, .ref (ad (0))), (1, .int x1), (2, .int x2), (3, .ref (ad (26)))]) hx hb dL_silence_13 hl (by decide) rfl (fun ls hl => ?_)
      refine lv_iconst (v := 1) hx hb dL_silence_15 (by decide) ?_
      exact rh_iret hx hb hr hlocks hW hF dL_silence_16 (Nat.le_of_ble_eq_true rfl) (Nat.le_of_ble_eq_true rfl)
    · replace hF := (if_neg hk0).symm.trans hF
      exact absurd hF (fun h9 => nomatch h9)
  · replace hF := (if_pos h0y4).symm.trans hF
    refine lv_i2l (v := (Int32.toInt64 y4.2.2)) hx hb dL_silence_8 rfl ?_
    obtain ⟨hg5, hF⟩ := gd_some hF
    refine r_last hx hb hK hW (26) (tp_lt (by decide)) (rfl : kd 26 = 7) hg5 dL_silence_9 (fun H locs hW => ?_)
    obtain ⟨w6, ew6, hF⟩ := nm_some hF
    rw [← ew6] at hW
    refine lv_goto (tgt := 17) hx hb dL_silence_10 (by decide) ?_
    refine lv_iconst (v := 0) hx hb dL_silence_17 (by decide) ?_
    exact rh_iret hx hb hr hlocks hW hF dL_silence_18 (Nat.le_of_ble_eq_true rfl) (Nat.le_of_ble_eq_true rfl)
def F_L_step (n : Nat) (σ : St) (x1 : Int32) : Option (St × Int32) := (F_X6_step n σ x1).bind (fun y4 => if y4.2.1 = 0 then gd (ib 0 (ln (26))) (nm (sJ y4.1 (26) (Int32.toNatClampNeg 0) (Int32.toInt64 y4.2.2)) (fun w6 => some (w6, 0))) else if y4.2.1 = 2 then some (y4.1, 1) else if y4.2.1 = 1 then some (y4.1, 2) else none)
set_option maxHeartbeats 4000000 in
set_option maxRecDepth 100000 in
theorem m_L_step (l : Launch) (hst : l.stackTraces = false) (G : va_G) (g : Nat → ClassId) (ad : Nat → Nat) (n a0 aM : Nat) (σ : St) (x1 : Int32) (x : St × Int32) (hF : F_L_step n σ x1 = some x) : vx_Met l yL_step zs_L_step ({ frames := 8, cells := 1, slots := 6, locals := 198 } : Room) (va_Pc [.ref (ad (0)), .int x1, .ref (ad (26))] (wP G g ad n a0 aM σ)) (qI G g ad n a0 x) (xN a0) 1 6 (fun q : Nat => a0 ≤ q) := by
  refine vx_ofWH (cc := cL_step) (maxL := 4) (ret := (some .int)) (by decide) rfl ?_
  intro p e s m args below meth c s₁ B hml hv
  obtain ⟨rfl, hP, hD, hK⟩ := hv
  have hx := B.exec
  have hb := B.bytes
  have hr := B.returns
  have htA : ∀ w ∈ AL, w.before _ s = true := fun w h9 => atoms_spec (ws := zs_L_step) B.pre w (List.mem_cons_of_mem _ h9)
  have hown : s.vm.findClass RL = some m.cls := findClass_of_methodNamed B.named
  have hlocks := B.notSynchronized
  have hW : Wd G g ad n a0 s.heap σ s.heap [] := ⟨hP, hD, va_S.rf⟩
  clear hP hD
  have htab := vx_table (x := yL_step) B (atoms_spec (ws := zs_L_step) B.pre _ List.mem_cons_self)
  have hl := lv_entry ([.ref (ad (0)), .int x1, .ref (ad (26))]) (n := 4) (Nat.le_of_ble_eq_true rfl)
  rw [lg_entry_eq]
  generalize (lg_sl ([.ref (ad (0)), .int x1, .ref (ad (26))]) ++ List.replicate (4 - (lg_sl ([.ref (ad (0)), .int x1, .ref (ad (26))])).length) Slot.unset).toArray = ls at hl ⊢
  have hl : lv_has ls 4 [(0, .ref (ad (0))), (1, .int x1), (2, .ref (ad (26)))] := hl
  unfold F_L_step at hF
  refine lv_aload_n hx hb dL_step_0 rfl (lv_at hl 2 rfl) ?_
  refine lv_iconst (v := 0) hx hb dL_step_1 (by decide) ?_
  refine lv_aload_n hx hb dL_step_2 rfl (lv_at hl 0 rfl) ?_
  refine lv_iload_n hx hb dL_step_3 rfl (lv_at hl 1 rfl) ?_
  obtain ⟨y4, hy4, hF⟩ := bd_some hF
  refine rx_bi (vx_runV (As := [.int x1]) (rest := [.int 0, .ref (ad (26))]) ⟨hx, hb, hml, hown, htA⟩ (m_X6_step l hst G g ad n a0 aM σ x1 y4 hy4) (cwV 1 htA (gV aw_632 aw_633 aw_634 aw_52 gz_X6_step) rfl rfl rfl (by decide +kernel) ⟨Nat.le_of_ble_eq_true rfl, Nat.le_of_ble_eq_true rfl⟩) (r_preV hK hW 0 (tp_lt (by decide)) (cE_k (rfl : kd 0 = 1)) rfl [.int x1]) rfl rfl hl.1 rfl (lv_room (Nat.le_of_ble_eq_true rfl)) dL_step_4 ⟨Nat.le_of_ble_eq_true rfl, Nat.le_of_ble_eq_true rfl⟩) hW (fun E ce q9 H locs hE hW hcell hv9 hcl => ?_) (fun H locs h0y4 hW => ?_)
  · replace hF := (if_neg (fun h9 => exN_pos E (hE.trans h9))).symm.trans hF
    by_cases hk0 : y4.2.1 = 2
    · replace hF := (if_pos hk0).symm.trans hF
      have hEe := exN_2 (hE.trans hk0)
      subst hEe
      refine ct_1 (name := eIS) hown ⟨0, 9, 12, 15⟩ _ htab (by decide) (by decide) (htA _ aw_586) (cst_use (w := .castable eIS eIS) (by decide +kernel) (hK.2.2.2.2.2.2.2.1 _ (by decide +kernel))) hcell hv9 hcl ?_
      refine lv_astore_n (lv' := [(3, .ref q9), (0, .ref (ad (0))), (1, .int x1), (2, .ref (ad (26)))]) hx hb dL_step_12 rfl hl (by decide) rfl (fun ls hl => ?_)
      refine lv_iconst (v := 1) hx hb dL_step_13 (by decide) ?_
      exact rh_iret hx hb hr hlocks hW hF dL_step_14 (Nat.le_of_ble_eq_true rfl) (Nat.le_of_ble_eq_true rfl)
    · replace hF := (if_neg hk0).symm.trans hF
      by_cases hk1 : y4.2.1 = 1
      · replace hF := (if_pos hk1).symm.trans hF
        have hEe := exN_1 (hE.trans hk1)
        subst hEe
        refine ct_2 (name := eIA) (nam2 := eIS) hown ⟨0, 9, 12, 15⟩ ⟨0, 9, 15, 13⟩ _ htab (by decide) (by decide) (htA _ aw_586) (hK.2.2.2.2.2.2.2.2.1 (eIA, eIS) (by decide +kernel)) (by decide) (by decide) (htA _ aw_585) (cst_use (w := .castable eIA eIA) (by decide +kernel) (hK.2.2.2.2.2.2.2.1 _ (by decide +kernel))) hcell hv9 hcl ?_
        refine lv_astore_n (lv' := [(3, .ref q9), (0, .ref (ad (0))), (1, .int x1), (2, .ref (ad (26)))]) hx hb dL_step_15 rfl hl (by decide) rfl (fun ls hl => ?_)
        refine lv_iconst (v := 2) hx hb dL_step_16 (by decide) ?_
        exact rh_iret hx hb hr hlocks hW hF dL_step_17 (Nat.le_of_ble_eq_true rfl) (Nat.le_of_ble_eq_true rfl)
      · replace hF := (if_neg hk1).symm.trans hF
        exact absurd hF (fun h9 => nomatch h9)
  · replace hF := (if_pos h0y4).symm.trans hF
    refine lv_i2l (v := (Int32.toInt64 y4.2.2)) hx hb dL_step_7 rfl ?_
    obtain ⟨hg5, hF⟩ := gd_some hF
    refine r_last hx hb hK hW (26) (tp_lt (by decide)) (rfl : kd 26 = 7) hg5 dL_step_8 (fun H locs hW => ?_)
    obtain ⟨w6, ew6, hF⟩ := nm_some hF
    rw [← ew6] at hW
    refine lv_goto (tgt := 18) hx hb dL_step_9 (by decide) ?_
    refine lv_iconst (v := 0) hx hb dL_step_18 (by decide) ?_
    exact rh_iret hx hb hr hlocks hW hF dL_step_19 (Nat.le_of_ble_eq_true rfl) (Nat.le_of_ble_eq_true rfl)
def F_L_id (σ : St) (x1 : Int32) : Option (St × Int32) := (F_X6_id σ x1).bind (fun y4 => if y4.2.1 = 0 then gd (ib 0 (ln (26))) (nm (sJ y4.1 (26) (Int32.toNatClampNeg 0) y4.2.2) (fun w6 => some (w6, 0))) else if y4.2.1 = 3 then some (y4.1, 1) else none)
set_option maxHeartbeats 4000000 in
set_option maxRecDepth 100000 in
theorem m_L_id (l : Launch) (hst : l.stackTraces = false) (G : va_G) (g : Nat → ClassId) (ad : Nat → Nat) (n a0 aM : Nat) (σ : St) (x1 : Int32) (x : St × Int32) (hF : F_L_id σ x1 = some x) : vx_Met l yL_id zs_L_id ({ frames := 7, cells := 1, slots := 6, locals := 103 } : Room) (va_Pc [.ref (ad (0)), .int x1, .ref (ad (26))] (wP G g ad n a0 aM σ)) (qI G g ad n a0 x) (xN a0) 1 6 (fun q : Nat => a0 ≤ q) := by
  refine vx_ofWH (cc := cL_id) (maxL := 4) (ret := (some .int)) (by decide) rfl ?_
  intro p e s m args below meth c s₁ B hml hv
  obtain ⟨rfl, hP, hD, hK⟩ := hv
  have hx := B.exec
  have hb := B.bytes
  have hr := B.returns
  have htA : ∀ w ∈ AL, w.before _ s = true := fun w h9 => atoms_spec (ws := zs_L_id) B.pre w (List.mem_cons_of_mem _ h9)
  have hown : s.vm.findClass RL = some m.cls := findClass_of_methodNamed B.named
  have hlocks := B.notSynchronized
  have hW : Wd G g ad n a0 s.heap σ s.heap [] := ⟨hP, hD, va_S.rf⟩
  clear hP hD
  have htab := vx_table (x := yL_id) B (atoms_spec (ws := zs_L_id) B.pre _ List.mem_cons_self)
  have hl := lv_entry ([.ref (ad (0)), .int x1, .ref (ad (26))]) (n := 4) (Nat.le_of_ble_eq_true rfl)
  rw [lg_entry_eq]
  generalize (lg_sl ([.ref (ad (0)), .int x1, .ref (ad (26))]) ++ List.replicate (4 - (lg_sl ([.ref (ad (0)), .int x1, .ref (ad (26))])).length) Slot.unset).toArray = ls at hl ⊢
  have hl : lv_has ls 4 [(0, .ref (ad (0))), (1, .int x1), (2, .ref (ad (26)))] := hl
  unfold F_L_id at hF
  refine lv_aload_n hx hb dL_id_0 rfl (lv_at hl 2 rfl) ?_
  refine lv_iconst (v := 0) hx hb dL_id_1 (by decide) ?_
  refine lv_aload_n hx hb dL_id_2 rfl (lv_at hl 0 rfl) ?_
  refine lv_iload_n hx hb dL_id_3 rfl (lv_at hl 1 rfl) ?_
  obtain ⟨y4, hy4, hF⟩ := bd_some hF
  refine rx_bl (vx_runV (As := [.int x1]) (rest := [.int 0, .ref (ad (26))]) ⟨hx, hb, hml, hown, htA⟩ (m_X6_id l hst G g ad n a0 aM σ x1 y4 hy4) (cwV 1 htA (gV aw_636 aw_637 aw_638 aw_52 gz_X6_id) rfl rfl rfl (by decide +kernel) ⟨Nat.le_of_ble_eq_true rfl, Nat.le_of_ble_eq_true rfl⟩) (r_preV hK hW 0 (tp_lt (by decide)) (cE_k (rfl : kd 0 = 1)) rfl [.int x1]) rfl rfl hl.1 rfl (lv_room (Nat.le_of_ble_eq_true rfl)) dL_id_4 ⟨Nat.le_of_ble_eq_true rfl, Nat.le_of_ble_eq_true rfl⟩) hW (fun E ce q9 H locs hE hW hcell hv9 hcl => ?_) (fun H locs h0y4 hW => ?_)
  · replace hF := (if_neg (fun h9 => exN_pos E (hE.trans h9))).symm.trans hF
    by_cases hk0 : y4.2.1 = 3
    · replace hF := (if_pos hk0).symm.trans hF
      have hEe := exN_3 (hE.trans hk0)
      subst hEe
      refine ct_1 (name := eIO) hown ⟨0, 8, 11, 29⟩ _ htab (by decide) (by decide) (htA _ aw_599) (cst_use (w := .castable eIO eIO) (by decide +kernel) (hK.2.2.2.2.2.2.2.1 _ (by decide +kernel))) hcell hv9 hcl ?_
      refine lv_astore_n (lv' := [(3, .ref q9), (0, .ref (ad (0))), (1, .int x1), (2, .ref (ad (26)))]) hx hb dL_id_11 rfl hl (by decide) rfl (fun ls hl => ?_)
      refine lv_iconst (v := 1) hx hb dL_id_12 (by decide) ?_
      exact rh_iret hx hb hr hlocks hW hF dL_id_13 (Nat.le_of_ble_eq_true rfl) (Nat.le_of_ble_eq_true rfl)
    · replace hF := (if_neg hk0).symm.trans hF
      exact absurd hF (fun h9 => nomatch h9)
  · replace hF := (if_pos h0y4).symm.trans hF
    obtain ⟨hg5, hF⟩ := gd_some hF
    refine r_last hx hb hK hW (26) (tp_lt (by decide)) (rfl : kd 26 = 7) hg5 dL_id_7 (fun H locs hW => ?_)
    obtain ⟨w6, ew6, hF⟩ := nm_some hF
    rw [← ew6] at hW
    refine lv_goto (tgt := 14) hx hb dL_id_8 (by decide) ?_
    refine lv_iconst (v := 0) hx hb dL_id_14 (by decide) ?_
    exact rh_iret hx hb hr hlocks hW hF dL_id_15 (Nat.le_of_ble_eq_true rfl) (Nat.le_of_ble_eq_true rfl)
def F_L_branch (σ : St) (x1 : Int32) : Option (St × Int32) := (F_X6_branch σ x1).bind (fun y4 => if y4.2.1 = 0 then gd (ib 0 (ln (26))) (nm (sJ y4.1 (26) (Int32.toNatClampNeg 0) y4.2.2) (fun w6 => some (w6, 0))) else if y4.2.1 = 3 then some (y4.1, 1) else none)
set_option maxHeartbeats 4000000 in
set_option maxRecDepth 100000 in
theorem m_L_branch (l : Launch) (hst : l.stackTraces = false) (G : va_G) (g : Nat → ClassId) (ad : Nat → Nat) (n a0 aM : Nat) (σ : St) (x1 : Int32) (x : St × Int32) (hF : F_L_branch σ x1 = some x) : vx_Met l yL_branch zs_L_branch ({ frames := 7, cells := 1, slots := 6, locals := 103 } : Room) (va_Pc [.ref (ad (0)), .int x1, .ref (ad (26))] (wP G g ad n a0 aM σ)) (qI G g ad n a0 x) (xN a0) 1 6 (fun q : Nat => a0 ≤ q) := by
  refine vx_ofWH (cc := cL_branch) (maxL := 4) (ret := (some .int)) (by decide) rfl ?_
  intro p e s m args below meth c s₁ B hml hv
  obtain ⟨rfl, hP, hD, hK⟩ := hv
  have hx := B.exec
  have hb := B.bytes
  have hr := B.returns
  have htA : ∀ w ∈ AL, w.before _ s = true := fun w h9 => atoms_spec (ws := zs_L_branch) B.pre w (List.mem_cons_of_mem _ h9)
  have hown : s.vm.findClass RL = some m.cls := findClass_of_methodNamed B.named
  have hlocks := B.notSynchronized
  have hW : Wd G g ad n a0 s.heap σ s.heap [] := ⟨hP, hD, va_S.rf⟩
  clear hP hD
  have htab := vx_table (x := yL_branch) B (atoms_spec (ws := zs_L_branch) B.pre _ List.mem_cons_self)
  have hl := lv_entry ([.ref (ad (0)), .int x1, .ref (ad (26))]) (n := 4) (Nat.le_of_ble_eq_true rfl)
  rw [lg_entry_eq]
  generalize (lg_sl ([.ref (ad (0)), .int x1, .ref (ad (26))]) ++ List.replicate (4 - (lg_sl ([.ref (ad (0)), .int x1, .ref (ad (26))])).length) Slot.unset).toArray = ls at hl ⊢
  have hl : lv_has ls 4 [(0, .ref (ad (0))), (1, .int x1), (2, .ref (ad (26)))] := hl
  unfold F_L_branch at hF
  refine lv_aload_n hx hb dL_branch_0 rfl (lv_at hl 2 rfl) ?_
  refine lv_iconst (v := 0) hx hb dL_branch_1 (by decide) ?_
  refine lv_aload_n hx hb dL_branch_2 rfl (lv_at hl 0 rfl) ?_
  refine lv_iload_n hx hb dL_branch_3 rfl (lv_at hl 1 rfl) ?_
  obtain ⟨y4, hy4, hF⟩ := bd_some hF
  refine rx_bl (vx_runV (As := [.int x1]) (rest := [.int 0, .ref (ad (26))]) ⟨hx, hb, hml, hown, htA⟩ (m_X6_branch l hst G g ad n a0 aM σ x1 y4 hy4) (cwV 1 htA (gV aw_640 aw_641 aw_642 aw_52 gz_X6_branch) rfl rfl rfl (by decide +kernel) ⟨Nat.le_of_ble_eq_true rfl, Nat.le_of_ble_eq_true rfl⟩) (r_preV hK hW 0 (tp_lt (by decide)) (cE_k (rfl : kd 0 = 1)) rfl [.int x1]) rfl rfl hl.1 rfl (lv_room (Nat.le_of_ble_eq_true rfl)) dL_branch_4 ⟨Nat.le_of_ble_eq_true rfl, Nat.le_of_ble_eq_true rfl⟩) hW (fun E ce q9 H locs hE hW hcell hv9 hcl => ?_) (fun H locs h0y4 hW => ?_)
  · replace hF := (if_neg (fun h9 => exN_pos E (hE.trans h9))).symm.trans hF
    by_cases hk0 : y4.2.1 = 3
    · replace hF := (if_pos hk0).symm.trans hF
      have hEe := exN_3 (hE.trans hk0)
      subst hEe
      refine ct_1 (name := eIO) hown ⟨0, 8, 11, 29⟩ _ htab (by decide) (by decide) (htA _ aw_599) (cst_use (w := .castable eIO eIO) (by decide +kernel) (hK.2.2.2.2.2.2.2.1 _ (by decide +kernel))) hcell hv9 hcl ?_
      refine lv_astore_n (lv' := [(3, .ref q9), (0, .ref (ad (0))), (1, .int x1), (2, .ref (ad (26)))]) hx hb dL_branch_11 rfl hl (by decide) rfl (fun ls hl => ?_)
      refine lv_iconst (v := 1) hx hb dL_branch_12 (by decide) ?_
      exact rh_iret hx hb hr hlocks hW hF dL_branch_13 (Nat.le_of_ble_eq_true rfl) (Nat.le_of_ble_eq_true rfl)
    · replace hF := (if_neg hk0).symm.trans hF
      exact absurd hF (fun h9 => nomatch h9)
  · replace hF := (if_pos h0y4).symm.trans hF
    obtain ⟨hg5, hF⟩ := gd_some hF
    refine r_last hx hb hK hW (26) (tp_lt (by decide)) (rfl : kd 26 = 7) hg5 dL_branch_7 (fun H locs hW => ?_)
    obtain ⟨w6, ew6, hF⟩ := nm_some hF
    rw [← ew6] at hW
    refine lv_goto (tgt := 14) hx hb dL_branch_8 (by decide) ?_
    refine lv_iconst (v := 0) hx hb dL_branch_14 (by decide) ?_
    exact rh_iret hx hb hr hlocks hW hF dL_branch_15 (Nat.le_of_ble_eq_true rfl) (Nat.le_of_ble_eq_true rfl)
