def F_X6_restOf (σ : St) (x0 : Int64) : Option (St × Int64) := some (σ, (x0 &&& 4294967295))
set_option maxHeartbeats 4000000 in
set_option maxRecDepth 100000 in
theorem m_X6_restOf (l : Launch) (G : va_G) (g : Nat → ClassId) (ad : Nat → Nat) (n a0 aM : Nat) (σ : St) (x0 : Int64) (x : St × Int64) (hF : F_X6_restOf σ x0 = some x) : Met l yX6_restOf zs_X6_restOf ({ frames := 0, cells := 0, slots := 0, locals := 0 } : Room) (va_Pc [.long x0] (wP G g ad n a0 aM σ)) (qJ G g ad n a0 x) 0 0 (fun q : Nat => a0 ≤ q) := by
  refine Met.ofW (cc := cX6_restOf) (maxL := 2) (ret := (some .long)) (by decide) rfl ?_
  intro p e s m args below meth c s₁ B hml hv
  obtain ⟨rfl, hP, hD, hK⟩ := hv
  have hx := B.exec
  have hb := B.bytes
  have hr := B.returns
  have htA : ∀ w ∈ AL, w.before _ s = true := fun w h9 => atoms_spec (ws := zs_X6_restOf) B.pre w (List.mem_cons_of_mem _ h9)
  have hown : s.vm.findClass RX6 = some m.cls := findClass_of_methodNamed B.named
  have hlocks := B.notSynchronized
  have hW : Wd G g ad n a0 s.heap σ s.heap [] := ⟨hP, hD, va_S.rf⟩
  clear hP hD
  have hl := lv_entry ([.long x0]) (n := 2) (Nat.le_of_ble_eq_true rfl)
  rw [lg_entry_eq]
  generalize (lg_sl ([.long x0]) ++ List.replicate (2 - (lg_sl ([.long x0])).length) Slot.unset).toArray = ls at hl ⊢
  have hl : lv_has ls 2 [(0, .long x0)] := hl
  unfold F_X6_restOf at hF
  refine lv_lload_n hx hb dX6_restOf_0 rfl (lv_at hl 0 rfl) ?_
  refine lv_ldc2 (v := 4294967295) hx hb hown (htA _ aw_76) dX6_restOf_1 ?_
  refine lv_land hx hb dX6_restOf_4 ?_
  exact r_lret hx hb hr hlocks hW hF dX6_restOf_5
def F_X6_makerOf (σ : St) (x0 : Int64) : Option (St × Int32) := some (σ, (Int64.toInt32 ((Int64.toUInt64 x0) >>> ((Int64.toUInt64 (Int32.toInt64 32)) &&& Int64.toUInt64 63)).toInt64))
set_option maxHeartbeats 4000000 in
set_option maxRecDepth 100000 in
theorem m_X6_makerOf (l : Launch) (G : va_G) (g : Nat → ClassId) (ad : Nat → Nat) (n a0 aM : Nat) (σ : St) (x0 : Int64) (x : St × Int32) (hF : F_X6_makerOf σ x0 = some x) : Met l yX6_makerOf zs_X6_makerOf ({ frames := 0, cells := 0, slots := 0, locals := 0 } : Room) (va_Pc [.long x0] (wP G g ad n a0 aM σ)) (qI G g ad n a0 x) 0 0 (fun q : Nat => a0 ≤ q) := by
  refine Met.ofW (cc := cX6_makerOf) (maxL := 2) (ret := (some .int)) (by decide) rfl ?_
  intro p e s m args below meth c s₁ B hml hv
  obtain ⟨rfl, hP, hD, hK⟩ := hv
  have hx := B.exec
  have hb := B.bytes
  have hr := B.returns
  have htA : ∀ w ∈ AL, w.before _ s = true := fun w h9 => atoms_spec (ws := zs_X6_makerOf) B.pre w (List.mem_cons_of_mem _ h9)
  have hown : s.vm.findClass RX6 = some m.cls := findClass_of_methodNamed B.named
  have hlocks := B.notSynchronized
  have hW : Wd G g ad n a0 s.heap σ s.heap [] := ⟨hP, hD, va_S.rf⟩
  clear hP hD
  have hl := lv_entry ([.long x0]) (n := 2) (Nat.le_of_ble_eq_true rfl)
  rw [lg_entry_eq]
  generalize (lg_sl ([.long x0]) ++ List.replicate (2 - (lg_sl ([.long x0])).length) Slot.unset).toArray = ls at hl ⊢
  have hl : lv_has ls 2 [(0, .long x0)] := hl
  unfold F_X6_makerOf at hF
  refine lv_lload_n hx hb dX6_makerOf_0 rfl (lv_at hl 0 rfl) ?_
  refine lv_bipush (v := 32) hx hb dX6_makerOf_1 (by decide) ?_
  refine lv_lushr (v := ((Int64.toUInt64 x0) >>> ((Int64.toUInt64 (Int32.toInt64 32)) &&& Int64.toUInt64 63)).toInt64) hx hb dX6_makerOf_3 rfl ?_
  refine lv_l2i (v := (Int64.toInt32 ((Int64.toUInt64 x0) >>> ((Int64.toUInt64 (Int32.toInt64 32)) &&& Int64.toUInt64 63)).toInt64)) hx hb dX6_makerOf_4 rfl ?_
  exact r_iret hx hb hr hlocks hW hF dX6_makerOf_5
def F_X6_flag (σ : St) (x0 : Int32) : Option (St × Int32) := if x0 = 0 then some (σ, 0) else some (σ, 1)
set_option maxHeartbeats 4000000 in
set_option maxRecDepth 100000 in
theorem m_X6_flag (l : Launch) (G : va_G) (g : Nat → ClassId) (ad : Nat → Nat) (n a0 aM : Nat) (σ : St) (x0 : Int32) (x : St × Int32) (hF : F_X6_flag σ x0 = some x) : Met l yX6_flag zs_X6_flag ({ frames := 0, cells := 0, slots := 0, locals := 0 } : Room) (va_Pc [.int x0] (wP G g ad n a0 aM σ)) (qI G g ad n a0 x) 0 0 (fun q : Nat => a0 ≤ q) := by
  refine Met.ofW (cc := cX6_flag) (maxL := 1) (ret := (some .int)) (by decide) rfl ?_
  intro p e s m args below meth c s₁ B hml hv
  obtain ⟨rfl, hP, hD, hK⟩ := hv
  have hx := B.exec
  have hb := B.bytes
  have hr := B.returns
  have htA : ∀ w ∈ AL, w.before _ s = true := fun w h9 => atoms_spec (ws := zs_X6_flag) B.pre w (List.mem_cons_of_mem _ h9)
  have hown : s.vm.findClass RX6 = some m.cls := findClass_of_methodNamed B.named
  have hlocks := B.notSynchronized
  have hW : Wd G g ad n a0 s.heap σ s.heap [] := ⟨hP, hD, va_S.rf⟩
  clear hP hD
  have hl := lv_entry ([.int x0]) (n := 1) (Nat.le_of_ble_eq_true rfl)
  rw [lg_entry_eq]
  generalize (lg_sl ([.int x0]) ++ List.replicate (1 - (lg_sl ([.int x0])).length) Slot.unset).toArray = ls at hl ⊢
  have hl : lv_has ls 1 [(0, .int x0)] := hl
  unfold F_X6_flag at hF
  refine lv_iload_n hx hb dX6_flag_0 rfl (lv_at hl 0 rfl) ?_
  refine lv_if_eq (tgt := 8) hx hb dX6_flag_1 (by decide) (fun hc1 => ?_) (fun hc1 => ?_)
  · replace hF := (if_pos hc1).symm.trans hF
    refine lv_iconst (v := 0) hx hb dX6_flag_8 (by decide) ?_
    exact r_iret hx hb hr hlocks hW hF dX6_flag_9
  · replace hF := (if_neg hc1).symm.trans hF
    refine lv_iconst (v := 1) hx hb dX6_flag_4 (by decide) ?_
    refine lv_goto (tgt := 9) hx hb dX6_flag_5 (by decide) ?_
    exact r_iret hx hb hr hlocks hW hF dX6_flag_9
def F_X6_fits (σ : St) (x0 : Int32) (x1 : Int32) : Option (St × Int32) := if x0 < 1 then some (σ, 0) else if 512 < x0 then some (σ, 0) else if 512 < ((x0 + x1) - 1) then some (σ, 0) else some (σ, 1)
set_option maxHeartbeats 4000000 in
set_option maxRecDepth 100000 in
theorem m_X6_fits (l : Launch) (G : va_G) (g : Nat → ClassId) (ad : Nat → Nat) (n a0 aM : Nat) (σ : St) (x0 : Int32) (x1 : Int32) (x : St × Int32) (hF : F_X6_fits σ x0 x1 = some x) : Met l yX6_fits zs_X6_fits ({ frames := 0, cells := 0, slots := 0, locals := 0 } : Room) (va_Pc [.int x0, .int x1] (wP G g ad n a0 aM σ)) (qI G g ad n a0 x) 0 0 (fun q : Nat => a0 ≤ q) := by
  refine Met.ofW (cc := cX6_fits) (maxL := 2) (ret := (some .boolean)) (by decide) rfl ?_
  intro p e s m args below meth c s₁ B hml hv
  obtain ⟨rfl, hP, hD, hK⟩ := hv
  have hx := B.exec
  have hb := B.bytes
  have hr := B.returns
  have htA : ∀ w ∈ AL, w.before _ s = true := fun w h9 => atoms_spec (ws := zs_X6_fits) B.pre w (List.mem_cons_of_mem _ h9)
  have hown : s.vm.findClass RX6 = some m.cls := findClass_of_methodNamed B.named
  have hlocks := B.notSynchronized
  have hW : Wd G g ad n a0 s.heap σ s.heap [] := ⟨hP, hD, va_S.rf⟩
  clear hP hD
  have hl := lv_entry ([.int x0, .int x1]) (n := 2) (Nat.le_of_ble_eq_true rfl)
  rw [lg_entry_eq]
  generalize (lg_sl ([.int x0, .int x1]) ++ List.replicate (2 - (lg_sl ([.int x0, .int x1])).length) Slot.unset).toArray = ls at hl ⊢
  have hl : lv_has ls 2 [(0, .int x0), (1, .int x1)] := hl
  unfold F_X6_fits at hF
  refine lv_iload_n hx hb dX6_fits_0 rfl (lv_at hl 0 rfl) ?_
  refine lv_iconst (v := 1) hx hb dX6_fits_1 (by decide) ?_
  refine lv_icmp_lt (tgt := 27) hx hb dX6_fits_2 (by decide) (fun hc1 => ?_) (fun hc1 => ?_)
  · replace hF := (if_pos hc1).symm.trans hF
    refine lv_iconst (v := 0) hx hb dX6_fits_27 (by decide) ?_
    exact r_zret hx hb hr hlocks hW rfl hF dX6_fits_28
  · replace hF := (if_neg hc1).symm.trans hF
    refine lv_iload_n hx hb dX6_fits_5 rfl (lv_at hl 0 rfl) ?_
    refine lv_sipush (v := 512) hx hb dX6_fits_6 (by decide) ?_
    refine lv_icmp_gt (tgt := 27) hx hb dX6_fits_9 (by decide) (fun hc2 => ?_) (fun hc2 => ?_)
    · replace hF := (if_pos hc2).symm.trans hF
      refine lv_iconst (v := 0) hx hb dX6_fits_27 (by decide) ?_
      exact r_zret hx hb hr hlocks hW rfl hF dX6_fits_28
    · replace hF := (if_neg hc2).symm.trans hF
      refine lv_iload_n hx hb dX6_fits_12 rfl (lv_at hl 0 rfl) ?_
      refine lv_iload_n hx hb dX6_fits_13 rfl (lv_at hl 1 rfl) ?_
      refine lv_iadd hx hb dX6_fits_14 ?_
      refine lv_iconst (v := 1) hx hb dX6_fits_15 (by decide) ?_
      refine lv_isub hx hb dX6_fits_16 ?_
      refine lv_sipush (v := 512) hx hb dX6_fits_17 (by decide) ?_
      refine lv_icmp_gt (tgt := 27) hx hb dX6_fits_20 (by decide) (fun hc3 => ?_) (fun hc3 => ?_)
      · replace hF := (if_pos hc3).symm.trans hF
        refine lv_iconst (v := 0) hx hb dX6_fits_27 (by decide) ?_
        exact r_zret hx hb hr hlocks hW rfl hF dX6_fits_28
      · replace hF := (if_neg hc3).symm.trans hF
        refine lv_iconst (v := 1) hx hb dX6_fits_23 (by decide) ?_
        refine lv_goto (tgt := 28) hx hb dX6_fits_24 (by decide) ?_
        exact r_zret hx hb hr hlocks hW rfl hF dX6_fits_28
def F_X6_joinedId (σ : St) (x0 : Int32) (x1 : Int64) : Option (St × Int64) := some (σ, (((Int32.toInt64 x0) <<< ((Int32.toInt64 32) &&& 63)) ||| x1))
set_option maxHeartbeats 4000000 in
set_option maxRecDepth 100000 in
theorem m_X6_joinedId (l : Launch) (G : va_G) (g : Nat → ClassId) (ad : Nat → Nat) (n a0 aM : Nat) (σ : St) (x0 : Int32) (x1 : Int64) (x : St × Int64) (hF : F_X6_joinedId σ x0 x1 = some x) : Met l yX6_joinedId zs_X6_joinedId ({ frames := 0, cells := 0, slots := 0, locals := 0 } : Room) (va_Pc [.int x0, .long x1] (wP G g ad n a0 aM σ)) (qJ G g ad n a0 x) 0 0 (fun q : Nat => a0 ≤ q) := by
  refine Met.ofW (cc := cX6_joinedId) (maxL := 3) (ret := (some .long)) (by decide) rfl ?_
  intro p e s m args below meth c s₁ B hml hv
  obtain ⟨rfl, hP, hD, hK⟩ := hv
  have hx := B.exec
  have hb := B.bytes
  have hr := B.returns
  have htA : ∀ w ∈ AL, w.before _ s = true := fun w h9 => atoms_spec (ws := zs_X6_joinedId) B.pre w (List.mem_cons_of_mem _ h9)
  have hown : s.vm.findClass RX6 = some m.cls := findClass_of_methodNamed B.named
  have hlocks := B.notSynchronized
  have hW : Wd G g ad n a0 s.heap σ s.heap [] := ⟨hP, hD, va_S.rf⟩
  clear hP hD
  have hl := lv_entry ([.int x0, .long x1]) (n := 3) (Nat.le_of_ble_eq_true rfl)
  rw [lg_entry_eq]
  generalize (lg_sl ([.int x0, .long x1]) ++ List.replicate (3 - (lg_sl ([.int x0, .long x1])).length) Slot.unset).toArray = ls at hl ⊢
  have hl : lv_has ls 3 [(0, .int x0), (1, .long x1)] := hl
  unfold F_X6_joinedId at hF
  refine lv_iload_n hx hb dX6_joinedId_0 rfl (lv_at hl 0 rfl) ?_
  refine lv_i2l (v := (Int32.toInt64 x0)) hx hb dX6_joinedId_1 rfl ?_
  refine lv_bipush (v := 32) hx hb dX6_joinedId_2 (by decide) ?_
  refine lv_lshl (v := ((Int32.toInt64 x0) <<< ((Int32.toInt64 32) &&& 63))) hx hb dX6_joinedId_4 rfl ?_
  refine lv_lload_n hx hb dX6_joinedId_5 rfl (lv_at hl 1 rfl) ?_
  refine lv_lor hx hb dX6_joinedId_6 ?_
  exact r_lret hx hb hr hlocks hW hF dX6_joinedId_7
def F_X4_latestLow (σ : St) : Option (St × Int64) := if (σ.1 (21) 4) ≤ 0 then some (σ, (-1)) else gd (ib ((σ.1 (21) 4) - 1) (ln (22))) (some (σ, (σ.2 (22) (Int32.toNatClampNeg ((σ.1 (21) 4) - 1)))))
set_option maxHeartbeats 4000000 in
set_option maxRecDepth 100000 in
theorem m_X4_latestLow (l : Launch) (G : va_G) (g : Nat → ClassId) (ad : Nat → Nat) (n a0 aM : Nat) (σ : St) (x : St × Int64) (hF : F_X4_latestLow σ = some x) : Met l yX4_latestLow zs_X4_latestLow ({ frames := 0, cells := 0, slots := 0, locals := 0 } : Room) (va_Pc [.ref (ad (21))] (wP G g ad n a0 aM σ)) (qJ G g ad n a0 x) 0 0 (fun q : Nat => a0 ≤ q) := by
  refine Met.ofW (cc := cX4_latestLow) (maxL := 1) (ret := (some .long)) (by decide) rfl ?_
  intro p e s m args below meth c s₁ B hml hv
  obtain ⟨rfl, hP, hD, hK⟩ := hv
  have hx := B.exec
  have hb := B.bytes
  have hr := B.returns
  have htA : ∀ w ∈ AL, w.before _ s = true := fun w h9 => atoms_spec (ws := zs_X4_latestLow) B.pre w (List.mem_cons_of_mem _ h9)
  have hown : s.vm.findClass RX4 = some m.cls := findClass_of_methodNamed B.named
  have hlocks := B.notSynchronized
  have hW : Wd G g ad n a0 s.heap σ s.heap [] := ⟨hP, hD, va_S.rf⟩
  clear hP hD
  have hl := lv_entry ([.ref (ad (21))]) (n := 1) (Nat.le_of_ble_eq_true rfl)
  rw [lg_entry_eq]
  generalize (lg_sl ([.ref (ad (21))]) ++ List.replicate (1 - (lg_sl ([.ref (ad (21))])).length) Slot.unset).toArray = ls at hl ⊢
  have hl : lv_has ls 1 [(0, .ref (ad (21)))] := hl
  unfold F_X4_latestLow at hF
  refine lv_aload_n hx hb dX4_latestLow_0 rfl (lv_at hl 0 rfl) ?_
  refine r_get (C := RX4) (T := TX4) (N := 7) hx hb htA ia_X4 hown hK hW (21) (tp_lt (by decide)) (cE_k (rfl : kd 21 = 6)) rfl 4 (by decide) (htA _ aw_167) rfl dX4_latestLow_1 ?_
  refine lv_if_le (tgt := 21) hx hb dX4_latestLow_4 (by decide) (fun hc2 => ?_) (fun hc2 => ?_)
  · replace hF := (if_pos hc2).symm.trans hF
    refine lv_ldc2 (v := (-1)) hx hb hown (htA _ aw_177) dX4_latestLow_21 ?_
    exact r_lret hx hb hr hlocks hW hF dX4_latestLow_24
  · replace hF := (if_neg hc2).symm.trans hF
    refine lv_aload_n hx hb dX4_latestLow_7 rfl (lv_at hl 0 rfl) ?_
    refine r_get (C := RX4) (T := TX4) (N := 7) hx hb htA ia_X4 hown hK hW (21) (tp_lt (by decide)) (cE_k (rfl : kd 21 = 6)) rfl 0 (by decide) (htA _ aw_164) rfl dX4_latestLow_8 ?_
    refine lv_aload_n hx hb dX4_latestLow_11 rfl (lv_at hl 0 rfl) ?_
    refine r_get (C := RX4) (T := TX4) (N := 7) hx hb htA ia_X4 hown hK hW (21) (tp_lt (by decide)) (cE_k (rfl : kd 21 = 6)) rfl 4 (by decide) (htA _ aw_167) rfl dX4_latestLow_12 ?_
    refine lv_iconst (v := 1) hx hb dX4_latestLow_15 (by decide) ?_
    refine lv_isub hx hb dX4_latestLow_16 ?_
    obtain ⟨hg3, hF⟩ := gd_some hF
    refine r_lald hx hb hK hW (22) (tp_lt (by decide)) (rfl : kd 22 = 7) hg3 dX4_latestLow_17 ?_
    refine lv_goto (tgt := 24) hx hb dX4_latestLow_18 (by decide) ?_
    exact r_lret hx hb hr hlocks hW hF dX4_latestLow_24
def F_X4_latestHigh (σ : St) : Option (St × Int64) := if (σ.1 (21) 4) ≤ 0 then some (σ, (-1)) else gd (ib ((σ.1 (21) 4) - 1) (ln (23))) (some (σ, (σ.2 (23) (Int32.toNatClampNeg ((σ.1 (21) 4) - 1)))))
set_option maxHeartbeats 4000000 in
set_option maxRecDepth 100000 in
theorem m_X4_latestHigh (l : Launch) (G : va_G) (g : Nat → ClassId) (ad : Nat → Nat) (n a0 aM : Nat) (σ : St) (x : St × Int64) (hF : F_X4_latestHigh σ = some x) : Met l yX4_latestHigh zs_X4_latestHigh ({ frames := 0, cells := 0, slots := 0, locals := 0 } : Room) (va_Pc [.ref (ad (21))] (wP G g ad n a0 aM σ)) (qJ G g ad n a0 x) 0 0 (fun q : Nat => a0 ≤ q) := by
  refine Met.ofW (cc := cX4_latestHigh) (maxL := 1) (ret := (some .long)) (by decide) rfl ?_
  intro p e s m args below meth c s₁ B hml hv
  obtain ⟨rfl, hP, hD, hK⟩ := hv
  have hx := B.exec
  have hb := B.bytes
  have hr := B.returns
  have htA : ∀ w ∈ AL, w.before _ s = true := fun w h9 => atoms_spec (ws := zs_X4_latestHigh) B.pre w (List.mem_cons_of_mem _ h9)
  have hown : s.vm.findClass RX4 = some m.cls := findClass_of_methodNamed B.named
  have hlocks := B.notSynchronized
  have hW : Wd G g ad n a0 s.heap σ s.heap [] := ⟨hP, hD, va_S.rf⟩
  clear hP hD
  have hl := lv_entry ([.ref (ad (21))]) (n := 1) (Nat.le_of_ble_eq_true rfl)
  rw [lg_entry_eq]
  generalize (lg_sl ([.ref (ad (21))]) ++ List.replicate (1 - (lg_sl ([.ref (ad (21))])).length) Slot.unset).toArray = ls at hl ⊢
  have hl : lv_has ls 1 [(0, .ref (ad (21)))] := hl
  unfold F_X4_latestHigh at hF
  refine lv_aload_n hx hb dX4_latestHigh_0 rfl (lv_at hl 0 rfl) ?_
  refine r_get (C := RX4) (T := TX4) (N := 7) hx hb htA ia_X4 hown hK hW (21) (tp_lt (by decide)) (cE_k (rfl : kd 21 = 6)) rfl 4 (by decide) (htA _ aw_167) rfl dX4_latestHigh_1 ?_
  refine lv_if_le (tgt := 21) hx hb dX4_latestHigh_4 (by decide) (fun hc2 => ?_) (fun hc2 => ?_)
  · replace hF := (if_pos hc2).symm.trans hF
    refine lv_ldc2 (v := (-1)) hx hb hown (htA _ aw_177) dX4_latestHigh_21 ?_
    exact r_lret hx hb hr hlocks hW hF dX4_latestHigh_24
  · replace hF := (if_neg hc2).symm.trans hF
    refine lv_aload_n hx hb dX4_latestHigh_7 rfl (lv_at hl 0 rfl) ?_
    refine r_get (C := RX4) (T := TX4) (N := 7) hx hb htA ia_X4 hown hK hW (21) (tp_lt (by decide)) (cE_k (rfl : kd 21 = 6)) rfl 1 (by decide) (htA _ aw_165) rfl dX4_latestHigh_8 ?_
    refine lv_aload_n hx hb dX4_latestHigh_11 rfl (lv_at hl 0 rfl) ?_
    refine r_get (C := RX4) (T := TX4) (N := 7) hx hb htA ia_X4 hown hK hW (21) (tp_lt (by decide)) (cE_k (rfl : kd 21 = 6)) rfl 4 (by decide) (htA _ aw_167) rfl dX4_latestHigh_12 ?_
    refine lv_iconst (v := 1) hx hb dX4_latestHigh_15 (by decide) ?_
    refine lv_isub hx hb dX4_latestHigh_16 ?_
    obtain ⟨hg3, hF⟩ := gd_some hF
    refine r_lald hx hb hK hW (23) (tp_lt (by decide)) (rfl : kd 23 = 7) hg3 dX4_latestHigh_17 ?_
    refine lv_goto (tgt := 24) hx hb dX4_latestHigh_18 (by decide) ?_
    exact r_lret hx hb hr hlocks hW hF dX4_latestHigh_24
def F_X4_takeLatest (σ : St) : Option (St) := if (σ.1 (21) 4) ≤ 0 then some σ else nm (sI σ (21) 4 ((σ.1 (21) 4) - 1)) (fun w4 => nm (sI w4 (21) 6 ((w4.1 (21) 6) + 1)) (fun w5 => some w5))
set_option maxHeartbeats 4000000 in
set_option maxRecDepth 100000 in
theorem m_X4_takeLatest (l : Launch) (G : va_G) (g : Nat → ClassId) (ad : Nat → Nat) (n a0 aM : Nat) (σ : St) (x : St) (hF : F_X4_takeLatest σ = some x) : Met l yX4_takeLatest zs_X4_takeLatest ({ frames := 0, cells := 0, slots := 0, locals := 0 } : Room) (va_Pc [.ref (ad (21))] (wP G g ad n a0 aM σ)) (qV G g ad n a0 x) 0 0 (fun q : Nat => a0 ≤ q) := by
  refine Met.ofW (cc := cX4_takeLatest) (maxL := 1) (ret := none) (by decide) rfl ?_
  intro p e s m args below meth c s₁ B hml hv
  obtain ⟨rfl, hP, hD, hK⟩ := hv
  have hx := B.exec
  have hb := B.bytes
  have hr := B.returns
  have htA : ∀ w ∈ AL, w.before _ s = true := fun w h9 => atoms_spec (ws := zs_X4_takeLatest) B.pre w (List.mem_cons_of_mem _ h9)
  have hown : s.vm.findClass RX4 = some m.cls := findClass_of_methodNamed B.named
  have hlocks := B.notSynchronized
  have hW : Wd G g ad n a0 s.heap σ s.heap [] := ⟨hP, hD, va_S.rf⟩
  clear hP hD
  have hl := lv_entry ([.ref (ad (21))]) (n := 1) (Nat.le_of_ble_eq_true rfl)
  rw [lg_entry_eq]
  generalize (lg_sl ([.ref (ad (21))]) ++ List.replicate (1 - (lg_sl ([.ref (ad (21))])).length) Slot.unset).toArray = ls at hl ⊢
  have hl : lv_has ls 1 [(0, .ref (ad (21)))] := hl
  unfold F_X4_takeLatest at hF
  refine lv_aload_n hx hb dX4_takeLatest_0 rfl (lv_at hl 0 rfl) ?_
  refine r_get (C := RX4) (T := TX4) (N := 7) hx hb htA ia_X4 hown hK hW (21) (tp_lt (by decide)) (cE_k (rfl : kd 21 = 6)) rfl 4 (by decide) (htA _ aw_167) rfl dX4_takeLatest_1 ?_
  refine lv_if_le (tgt := 27) hx hb dX4_takeLatest_4 (by decide) (fun hc3 => ?_) (fun hc3 => ?_)
  · replace hF := (if_pos hc3).symm.trans hF
    exact r_vret hx hb hr hlocks hW hF dX4_takeLatest_27
  · replace hF := (if_neg hc3).symm.trans hF
    refine lv_aload_n hx hb dX4_takeLatest_7 rfl (lv_at hl 0 rfl) ?_
    refine lv_dup hx hb dX4_takeLatest_8 rfl ?_
    refine r_get (C := RX4) (T := TX4) (N := 7) hx hb htA ia_X4 hown hK hW (21) (tp_lt (by decide)) (cE_k (rfl : kd 21 = 6)) rfl 4 (by decide) (htA _ aw_167) rfl dX4_takeLatest_9 ?_
    refine lv_iconst (v := 1) hx hb dX4_takeLatest_12 (by decide) ?_
    refine lv_isub hx hb dX4_takeLatest_13 ?_
    refine r_putI (C := RX4) (T := TX4) (N := 7) (ty := .int) hx hb htA ia_X4 tyX4 tyX4_ok nmX4 hown hK hW (21) (tp_lt (by decide)) (cE_k (rfl : kd 21 = 6)) rfl 4 (by decide) (cE_k (rfl : kd 21 = 6)) (htA _ aw_167) rfl (by decide +kernel) rfl rfl (Nat.le_of_ble_eq_true rfl) dX4_takeLatest_14 (fun H locs hW => ?_)
    obtain ⟨w4, ew4, hF⟩ := nm_some hF
    rw [← ew4] at hW
    refine lv_aload_n hx hb dX4_takeLatest_17 rfl (lv_at hl 0 rfl) ?_
    refine lv_dup hx hb dX4_takeLatest_18 rfl ?_
    refine r_get (C := RX4) (T := TX4) (N := 7) hx hb htA ia_X4 hown hK hW (21) (tp_lt (by decide)) (cE_k (rfl : kd 21 = 6)) rfl 6 (by decide) (htA _ aw_170) rfl dX4_takeLatest_19 ?_
    refine lv_iconst (v := 1) hx hb dX4_takeLatest_22 (by decide) ?_
    refine lv_iadd hx hb dX4_takeLatest_23 ?_
    refine r_putI (C := RX4) (T := TX4) (N := 7) (ty := .int) hx hb htA ia_X4 tyX4 tyX4_ok nmX4 hown hK hW (21) (tp_lt (by decide)) (cE_k (rfl : kd 21 = 6)) rfl 6 (by decide) (cE_k (rfl : kd 21 = 6)) (htA _ aw_170) rfl (by decide +kernel) rfl rfl (Nat.le_of_ble_eq_true rfl) dX4_takeLatest_24 (fun H locs hW => ?_)
    obtain ⟨w5, ew5, hF⟩ := nm_some hF
    rw [← ew5] at hW
    exact r_vret hx hb hr hlocks hW hF dX4_takeLatest_27
def F_X4_pile (σ : St) (x1 : Int64) (x3 : Int64) : Option (St) := if 64 ≤ (σ.1 (21) 4) then some σ else gd (ib (σ.1 (21) 4) (ln (22))) (nm (sJ σ (22) (Int32.toNatClampNeg (σ.1 (21) 4)) x1) (fun w8 => gd (ib (w8.1 (21) 4) (ln (23))) (nm (sJ w8 (23) (Int32.toNatClampNeg (w8.1 (21) 4)) x3) (fun w10 => nm (sI w10 (21) 4 ((w10.1 (21) 4) + 1)) (fun w11 => some w11)))))
set_option maxHeartbeats 4000000 in
set_option maxRecDepth 100000 in
theorem m_X4_pile (l : Launch) (G : va_G) (g : Nat → ClassId) (ad : Nat → Nat) (n a0 aM : Nat) (σ : St) (x1 : Int64) (x3 : Int64) (x : St) (hF : F_X4_pile σ x1 x3 = some x) : Met l yX4_pile zs_X4_pile ({ frames := 0, cells := 0, slots := 0, locals := 0 } : Room) (va_Pc [.ref (ad (21)), .long x1, .long x3] (wP G g ad n a0 aM σ)) (qV G g ad n a0 x) 0 0 (fun q : Nat => a0 ≤ q) := by
  refine Met.ofW (cc := cX4_pile) (maxL := 5) (ret := none) (by decide) rfl ?_
  intro p e s m args below meth c s₁ B hml hv
  obtain ⟨rfl, hP, hD, hK⟩ := hv
  have hx := B.exec
  have hb := B.bytes
  have hr := B.returns
  have htA : ∀ w ∈ AL, w.before _ s = true := fun w h9 => atoms_spec (ws := zs_X4_pile) B.pre w (List.mem_cons_of_mem _ h9)
  have hown : s.vm.findClass RX4 = some m.cls := findClass_of_methodNamed B.named
  have hlocks := B.notSynchronized
  have hW : Wd G g ad n a0 s.heap σ s.heap [] := ⟨hP, hD, va_S.rf⟩
  clear hP hD
  have hl := lv_entry ([.ref (ad (21)), .long x1, .long x3]) (n := 5) (Nat.le_of_ble_eq_true rfl)
  rw [lg_entry_eq]
  generalize (lg_sl ([.ref (ad (21)), .long x1, .long x3]) ++ List.replicate (5 - (lg_sl ([.ref (ad (21)), .long x1, .long x3])).length) Slot.unset).toArray = ls at hl ⊢
  have hl : lv_has ls 5 [(0, .ref (ad (21))), (1, .long x1), (3, .long x3)] := hl
  unfold F_X4_pile at hF
  refine lv_aload_n hx hb dX4_pile_0 rfl (lv_at hl 0 rfl) ?_
  refine r_get (C := RX4) (T := TX4) (N := 7) hx hb htA ia_X4 hown hK hW (21) (tp_lt (by decide)) (cE_k (rfl : kd 21 = 6)) rfl 4 (by decide) (htA _ aw_167) rfl dX4_pile_1 ?_
  refine lv_bipush (v := 64) hx hb dX4_pile_4 (by decide) ?_
  refine lv_icmp_ge (tgt := 39) hx hb dX4_pile_6 (by decide) (fun hc6 => ?_) (fun hc6 => ?_)
  · replace hF := (if_pos hc6).symm.trans hF
    exact r_vret hx hb hr hlocks hW hF dX4_pile_39
  · replace hF := (if_neg hc6).symm.trans hF
    refine lv_aload_n hx hb dX4_pile_9 rfl (lv_at hl 0 rfl) ?_
    refine r_get (C := RX4) (T := TX4) (N := 7) hx hb htA ia_X4 hown hK hW (21) (tp_lt (by decide)) (cE_k (rfl : kd 21 = 6)) rfl 0 (by decide) (htA _ aw_164) rfl dX4_pile_10 ?_
    refine lv_aload_n hx hb dX4_pile_13 rfl (lv_at hl 0 rfl) ?_
    refine r_get (C := RX4) (T := TX4) (N := 7) hx hb htA ia_X4 hown hK hW (21) (tp_lt (by decide)) (cE_k (rfl : kd 21 = 6)) rfl 4 (by decide) (htA _ aw_167) rfl dX4_pile_14 ?_
    refine lv_lload_n hx hb dX4_pile_17 rfl (lv_at hl 1 rfl) ?_
    obtain ⟨hg7, hF⟩ := gd_some hF
    refine r_last hx hb hK hW (22) (tp_lt (by decide)) (rfl : kd 22 = 7) hg7 dX4_pile_18 (fun H locs hW => ?_)
    obtain ⟨w8, ew8, hF⟩ := nm_some hF
    rw [← ew8] at hW
    refine lv_aload_n hx hb dX4_pile_19 rfl (lv_at hl 0 rfl) ?_
    refine r_get (C := RX4) (T := TX4) (N := 7) hx hb htA ia_X4 hown hK hW (21) (tp_lt (by decide)) (cE_k (rfl : kd 21 = 6)) rfl 1 (by decide) (htA _ aw_165) rfl dX4_pile_20 ?_
    refine lv_aload_n hx hb dX4_pile_23 rfl (lv_at hl 0 rfl) ?_
    refine r_get (C := RX4) (T := TX4) (N := 7) hx hb htA ia_X4 hown hK hW (21) (tp_lt (by decide)) (cE_k (rfl : kd 21 = 6)) rfl 4 (by decide) (htA _ aw_167) rfl dX4_pile_24 ?_
    refine lv_lload_n hx hb dX4_pile_27 rfl (lv_at hl 2 rfl) ?_
    obtain ⟨hg9, hF⟩ := gd_some hF
    refine r_last hx hb hK hW (23) (tp_lt (by decide)) (rfl : kd 23 = 7) hg9 dX4_pile_28 (fun H locs hW => ?_)
    obtain ⟨w10, ew10, hF⟩ := nm_some hF
    rw [← ew10] at hW
    refine lv_aload_n hx hb dX4_pile_29 rfl (lv_at hl 0 rfl) ?_
    refine lv_dup hx hb dX4_pile_30 rfl ?_
    refine r_get (C := RX4) (T := TX4) (N := 7) hx hb htA ia_X4 hown hK hW (21) (tp_lt (by decide)) (cE_k (rfl : kd 21 = 6)) rfl 4 (by decide) (htA _ aw_167) rfl dX4_pile_31 ?_
    refine lv_iconst (v := 1) hx hb dX4_pile_34 (by decide) ?_
    refine lv_iadd hx hb dX4_pile_35 ?_
    refine r_putI (C := RX4) (T := TX4) (N := 7) (ty := .int) hx hb htA ia_X4 tyX4 tyX4_ok nmX4 hown hK hW (21) (tp_lt (by decide)) (cE_k (rfl : kd 21 = 6)) rfl 4 (by decide) (cE_k (rfl : kd 21 = 6)) (htA _ aw_167) rfl (by decide +kernel) rfl rfl (Nat.le_of_ble_eq_true rfl) dX4_pile_36 (fun H locs hW => ?_)
    obtain ⟨w11, ew11, hF⟩ := nm_some hF
    rw [← ew11] at hW
    exact r_vret hx hb hr hlocks hW hF dX4_pile_39
def F_X4_hasFound_L29 (σ : St) : Option (St × Int32) := some (σ, 0)
def F_X4_hasFound_L21 (σ : St) : Option (St × Int32) := some (σ, 1)
def F_X4_hasFound_L2 (K21 : St → Option (St × Int32)) (K29 : St → Option (St × Int32)) : Nat → St → Int64 → Int32 → Option (St × Int32)
  | 0, _, _, _ => none
  | fz + 1, σ, u1, u3 => if (σ.1 (21) 5) ≤ u3 then K29 σ else gd (ib u3 (ln (24))) (if (lg_cmp (σ.2 (24) (Int32.toNatClampNeg u3)) u1) = 0 then K21 σ else (F_X4_hasFound_L2 K21 K29 fz) σ u1 (u3 + 1))
def F_X4_hasFound (σ : St) (x1 : Int64) : Option (St × Int32) := F_X4_hasFound_L2 F_X4_hasFound_L21 F_X4_hasFound_L29 fu σ x1 0
set_option maxHeartbeats 4000000 in
set_option maxRecDepth 100000 in
theorem m_X4_hasFound (l : Launch) (G : va_G) (g : Nat → ClassId) (ad : Nat → Nat) (n a0 aM : Nat) (σ : St) (x1 : Int64) (x : St × Int32) (hF : F_X4_hasFound σ x1 = some x) : Met l yX4_hasFound zs_X4_hasFound ({ frames := 0, cells := 0, slots := 0, locals := 0 } : Room) (va_Pc [.ref (ad (21)), .long x1] (wP G g ad n a0 aM σ)) (qI G g ad n a0 x) 0 0 (fun q : Nat => a0 ≤ q) := by
  refine Met.ofW (cc := cX4_hasFound) (maxL := 4) (ret := (some .boolean)) (by decide) rfl ?_
  intro p e s m args below meth c s₁ B hml hv
  obtain ⟨rfl, hP, hD, hK⟩ := hv
  have hx := B.exec
  have hb := B.bytes
  have hr := B.returns
  have htA : ∀ w ∈ AL, w.before _ s = true := fun w h9 => atoms_spec (ws := zs_X4_hasFound) B.pre w (List.mem_cons_of_mem _ h9)
  have hown : s.vm.findClass RX4 = some m.cls := findClass_of_methodNamed B.named
  have hlocks := B.notSynchronized
  have hW : Wd G g ad n a0 s.heap σ s.heap [] := ⟨hP, hD, va_S.rf⟩
  clear hP hD
  have hL29 : ∀ (σ : St) (H : Heap) (locs : List Loc) (ls : Array Slot), Wd G g ad n a0 s.heap σ H locs → lv_has ls 4 [] → F_X4_hasFound_L29  σ = some x → W p l e (headSpec zs_X4_hasFound ({ frames := 0, cells := 0, slots := 0, locals := 0 } : Room)).room s m ([.ref (ad (21)), .long x1] : List Value).toArray below meth c H locs 0 0 (MQ below (qI G g ad n a0 x) ([.ref (ad (21)), .long x1] : List Value).toArray s 0 0 (fun q : Nat => a0 ≤ q)) (F0 m 29 ls []) := by
    intro σ H locs ls hW hl hF
    unfold F_X4_hasFound_L29 at hF
    refine lv_iconst (v := 0) hx hb dX4_hasFound_29 (by decide) ?_
    exact r_zret hx hb hr hlocks hW rfl hF dX4_hasFound_30
  have hL21 : ∀ (σ : St) (H : Heap) (locs : List Loc) (ls : Array Slot), Wd G g ad n a0 s.heap σ H locs → lv_has ls 4 [] → F_X4_hasFound_L21  σ = some x → W p l e (headSpec zs_X4_hasFound ({ frames := 0, cells := 0, slots := 0, locals := 0 } : Room)).room s m ([.ref (ad (21)), .long x1] : List Value).toArray below meth c H locs 0 0 (MQ below (qI G g ad n a0 x) ([.ref (ad (21)), .long x1] : List Value).toArray s 0 0 (fun q : Nat => a0 ≤ q)) (F0 m 21 ls []) := by
    intro σ H locs ls hW hl hF
    unfold F_X4_hasFound_L21 at hF
    refine lv_iconst (v := 1) hx hb dX4_hasFound_21 (by decide) ?_
    exact r_zret hx hb hr hlocks hW rfl hF dX4_hasFound_22
  have hL2 : ∀ (fz2 : Nat) (σ : St) (u1 : Int64) (u3 : Int32) (H : Heap) (locs : List Loc) (ls : Array Slot), Wd G g ad n a0 s.heap σ H locs → lv_has ls 4 [(0, .ref (ad (21))), (1, .long u1), (3, .int u3)] → F_X4_hasFound_L2 (F_X4_hasFound_L21) (F_X4_hasFound_L29) fz2 σ u1 u3 = some x → W p l e (headSpec zs_X4_hasFound ({ frames := 0, cells := 0, slots := 0, locals := 0 } : Room)).room s m ([.ref (ad (21)), .long x1] : List Value).toArray below meth c H locs 0 0 (MQ below (qI G g ad n a0 x) ([.ref (ad (21)), .long x1] : List Value).toArray s 0 0 (fun q : Nat => a0 ≤ q)) (F0 m 2 ls []) := by
    intro fz2
    induction fz2 with
    | zero =>
      intro σ u1 u3 H locs ls hW hl hF
      exact absurd hF (by simp [F_X4_hasFound_L2])
    | succ fz2 ih =>
      have hB2 := ih
      intro σ u1 u3 H locs ls hW hl hF
      unfold F_X4_hasFound_L2 at hF
      refine lv_iload_n hx hb dX4_hasFound_2 rfl (lv_at hl 2 rfl) ?_
      refine lv_aload_n hx hb dX4_hasFound_3 rfl (lv_at hl 0 rfl) ?_
      refine r_get (C := RX4) (T := TX4) (N := 7) hx hb htA ia_X4 hown hK hW (21) (tp_lt (by decide)) (cE_k (rfl : kd 21 = 6)) rfl 5 (by decide) (htA _ aw_169) rfl dX4_hasFound_4 ?_
      refine lv_icmp_ge (tgt := 29) hx hb dX4_hasFound_7 (by decide) (fun hc2 => ?_) (fun hc2 => ?_)
      · replace hF := (if_pos hc2).symm.trans hF
        exact hL29 σ _ _ _  hW (lv_sub hl [] rfl) hF
      · replace hF := (if_neg hc2).symm.trans hF
        refine lv_aload_n hx hb dX4_hasFound_10 rfl (lv_at hl 0 rfl) ?_
        refine r_get (C := RX4) (T := TX4) (N := 7) hx hb htA ia_X4 hown hK hW (21) (tp_lt (by decide)) (cE_k (rfl : kd 21 = 6)) rfl 2 (by decide) (htA _ aw_166) rfl dX4_hasFound_11 ?_
        refine lv_iload_n hx hb dX4_hasFound_14 rfl (lv_at hl 2 rfl) ?_
        obtain ⟨hg3, hF⟩ := gd_some hF
        refine r_lald hx hb hK hW (24) (tp_lt (by decide)) (rfl : kd 24 = 7) hg3 dX4_hasFound_15 ?_
        refine lv_lload_n hx hb dX4_hasFound_16 rfl (lv_at hl 1 rfl) ?_
        refine W.lcmp hx hb dX4_hasFound_17 ?_
        refine lv_if_ne (tgt := 23) hx hb dX4_hasFound_18 (by decide) (fun hc4 => ?_) (fun hc4 => ?_)
        · replace hF := (if_neg hc4).symm.trans hF
          refine lv_iinc (v := (u3 + 1)) (lv' := [(3, .int (u3 + 1)), (0, .ref (ad (21))), (1, .long u1)]) hx hb dX4_hasFound_23 hl (k := 2) rfl rfl (by decide) rfl (fun ls hl => ?_)
          refine lv_goto (tgt := 2) hx hb dX4_hasFound_26 (by decide) ?_
          exact hB2 σ u1 (u3 + 1) _ _ _  hW (lv_sub hl [1, 2, 0] rfl) hF
        · replace hF := (if_pos hc4).symm.trans hF
          exact hL21 σ _ _ _  hW (lv_sub hl [] rfl) hF
  have hL2 := hL2 fu
  have hl := lv_entry ([.ref (ad (21)), .long x1]) (n := 4) (Nat.le_of_ble_eq_true rfl)
  rw [lg_entry_eq]
  generalize (lg_sl ([.ref (ad (21)), .long x1]) ++ List.replicate (4 - (lg_sl ([.ref (ad (21)), .long x1])).length) Slot.unset).toArray = ls at hl ⊢
  have hl : lv_has ls 4 [(0, .ref (ad (21))), (1, .long x1)] := hl
  unfold F_X4_hasFound at hF
  refine lv_iconst (v := 0) hx hb dX4_hasFound_0 (by decide) ?_
  refine lv_istore_n (lv' := [(3, .int 0), (0, .ref (ad (21))), (1, .long x1)]) hx hb dX4_hasFound_1 rfl hl (by decide) rfl (fun ls hl => ?_)
  exact hL2 σ x1 0 _ _ _  hW (lv_sub hl [1, 2, 0] rfl) hF
def F_X4_keepFound (σ : St) (x1 : Int64) : Option (St) := (F_X4_hasFound σ x1).bind (fun y5 => if y5.2 = 0 then if 24 ≤ (y5.1.1 (21) 5) then some y5.1 else gd (ib (y5.1.1 (21) 5) (ln (24))) (nm (sJ y5.1 (24) (Int32.toNatClampNeg (y5.1.1 (21) 5)) x1) (fun w9 => nm (sI w9 (21) 5 ((w9.1 (21) 5) + 1)) (fun w10 => some w10))) else some y5.1)
set_option maxHeartbeats 4000000 in
set_option maxRecDepth 100000 in
theorem m_X4_keepFound (l : Launch) (G : va_G) (g : Nat → ClassId) (ad : Nat → Nat) (n a0 aM : Nat) (σ : St) (x1 : Int64) (x : St) (hF : F_X4_keepFound σ x1 = some x) : Met l yX4_keepFound zs_X4_keepFound ({ frames := 1, cells := 0, slots := 0, locals := 23 } : Room) (va_Pc [.ref (ad (21)), .long x1] (wP G g ad n a0 aM σ)) (qV G g ad n a0 x) 0 0 (fun q : Nat => a0 ≤ q) := by
  refine Met.ofW (cc := cX4_keepFound) (maxL := 3) (ret := none) (by decide) rfl ?_
  intro p e s m args below meth c s₁ B hml hv
  obtain ⟨rfl, hP, hD, hK⟩ := hv
  have hx := B.exec
  have hb := B.bytes
  have hr := B.returns
  have htA : ∀ w ∈ AL, w.before _ s = true := fun w h9 => atoms_spec (ws := zs_X4_keepFound) B.pre w (List.mem_cons_of_mem _ h9)
  have hown : s.vm.findClass RX4 = some m.cls := findClass_of_methodNamed B.named
  have hlocks := B.notSynchronized
  have hW : Wd G g ad n a0 s.heap σ s.heap [] := ⟨hP, hD, va_S.rf⟩
  clear hP hD
  have hl := lv_entry ([.ref (ad (21)), .long x1]) (n := 3) (Nat.le_of_ble_eq_true rfl)
  rw [lg_entry_eq]
  generalize (lg_sl ([.ref (ad (21)), .long x1]) ++ List.replicate (3 - (lg_sl ([.ref (ad (21)), .long x1])).length) Slot.unset).toArray = ls at hl ⊢
  have hl : lv_has ls 3 [(0, .ref (ad (21))), (1, .long x1)] := hl
  unfold F_X4_keepFound at hF
  refine lv_aload_n hx hb dX4_keepFound_0 rfl (lv_at hl 0 rfl) ?_
  refine lv_lload_n hx hb dX4_keepFound_1 rfl (lv_at hl 1 rfl) ?_
  obtain ⟨y5, hy5, hF⟩ := bd_some hF
  refine r_bi (va_runV (As := [.long x1]) (rest := []) ⟨hx, hb, hml, hown, htA⟩ (m_X4_hasFound l G g ad n a0 aM σ x1 y5  hy5) (cwV 1 htA (gV aw_178 aw_179 aw_180 aw_175 gz_X4_hasFound) rfl rfl rfl (by decide +kernel) ⟨Nat.le_of_ble_eq_true rfl, Nat.le_of_ble_eq_true rfl⟩) (r_preV hK hW (21) (tp_lt (by decide)) (cE_k (rfl : kd 21 = 6)) rfl [.long x1]) rfl rfl hl.1 rfl (lv_room (Nat.le_of_ble_eq_true rfl)) dX4_keepFound_2 ⟨Nat.zero_le _, Nat.zero_le _⟩) hW (fun H locs hW => ?_)
  refine lv_if_ne (tgt := 37) hx hb dX4_keepFound_5 (by decide) (fun hc6 => ?_) (fun hc6 => ?_)
  · replace hF := (if_neg hc6).symm.trans hF
    exact r_vret hx hb hr hlocks hW hF dX4_keepFound_37
  · replace hF := (if_pos hc6).symm.trans hF
    refine lv_aload_n hx hb dX4_keepFound_8 rfl (lv_at hl 0 rfl) ?_
    refine r_get (C := RX4) (T := TX4) (N := 7) hx hb htA ia_X4 hown hK hW (21) (tp_lt (by decide)) (cE_k (rfl : kd 21 = 6)) rfl 5 (by decide) (htA _ aw_169) rfl dX4_keepFound_9 ?_
    refine lv_bipush (v := 24) hx hb dX4_keepFound_12 (by decide) ?_
    refine lv_icmp_ge (tgt := 37) hx hb dX4_keepFound_14 (by decide) (fun hc7 => ?_) (fun hc7 => ?_)
    · replace hF := (if_pos hc7).symm.trans hF
      exact r_vret hx hb hr hlocks hW hF dX4_keepFound_37
    · replace hF := (if_neg hc7).symm.trans hF
      refine lv_aload_n hx hb dX4_keepFound_17 rfl (lv_at hl 0 rfl) ?_
      refine r_get (C := RX4) (T := TX4) (N := 7) hx hb htA ia_X4 hown hK hW (21) (tp_lt (by decide)) (cE_k (rfl : kd 21 = 6)) rfl 2 (by decide) (htA _ aw_166) rfl dX4_keepFound_18 ?_
      refine lv_aload_n hx hb dX4_keepFound_21 rfl (lv_at hl 0 rfl) ?_
      refine r_get (C := RX4) (T := TX4) (N := 7) hx hb htA ia_X4 hown hK hW (21) (tp_lt (by decide)) (cE_k (rfl : kd 21 = 6)) rfl 5 (by decide) (htA _ aw_169) rfl dX4_keepFound_22 ?_
      refine lv_lload_n hx hb dX4_keepFound_25 rfl (lv_at hl 1 rfl) ?_
      obtain ⟨hg8, hF⟩ := gd_some hF
      refine r_last hx hb hK hW (24) (tp_lt (by decide)) (rfl : kd 24 = 7) hg8 dX4_keepFound_26 (fun H locs hW => ?_)
      obtain ⟨w9, ew9, hF⟩ := nm_some hF
      rw [← ew9] at hW
      refine lv_aload_n hx hb dX4_keepFound_27 rfl (lv_at hl 0 rfl) ?_
      refine lv_dup hx hb dX4_keepFound_28 rfl ?_
      refine r_get (C := RX4) (T := TX4) (N := 7) hx hb htA ia_X4 hown hK hW (21) (tp_lt (by decide)) (cE_k (rfl : kd 21 = 6)) rfl 5 (by decide) (htA _ aw_169) rfl dX4_keepFound_29 ?_
      refine lv_iconst (v := 1) hx hb dX4_keepFound_32 (by decide) ?_
      refine lv_iadd hx hb dX4_keepFound_33 ?_
      refine r_putI (C := RX4) (T := TX4) (N := 7) (ty := .int) hx hb htA ia_X4 tyX4 tyX4_ok nmX4 hown hK hW (21) (tp_lt (by decide)) (cE_k (rfl : kd 21 = 6)) rfl 5 (by decide) (cE_k (rfl : kd 21 = 6)) (htA _ aw_169) rfl (by decide +kernel) rfl rfl (Nat.le_of_ble_eq_true rfl) dX4_keepFound_34 (fun H locs hW => ?_)
      obtain ⟨w10, ew10, hF⟩ := nm_some hF
      rw [← ew10] at hW
      exact r_vret hx hb hr hlocks hW hF dX4_keepFound_37
def F_X4_begin (σ : St) : Option (St) := nm (sI σ (21) 3 1) (fun w6 => nm (sI w6 (21) 4 0) (fun w7 => nm (sI w7 (21) 5 0) (fun w8 => nm (sI w8 (21) 6 0) (fun w9 => (F_X4_pile w9 0 281474976710654).bind (fun y10 => some y10)))))
set_option maxHeartbeats 4000000 in
set_option maxRecDepth 100000 in
theorem m_X4_begin (l : Launch) (G : va_G) (g : Nat → ClassId) (ad : Nat → Nat) (n a0 aM : Nat) (σ : St) (x : St) (hF : F_X4_begin σ = some x) : Met l yX4_begin zs_X4_begin ({ frames := 1, cells := 0, slots := 0, locals := 24 } : Room) (va_Pc [.ref (ad (21))] (wP G g ad n a0 aM σ)) (qV G g ad n a0 x) 0 0 (fun q : Nat => a0 ≤ q) := by
  refine Met.ofW (cc := cX4_begin) (maxL := 1) (ret := none) (by decide) rfl ?_
  intro p e s m args below meth c s₁ B hml hv
  obtain ⟨rfl, hP, hD, hK⟩ := hv
  have hx := B.exec
  have hb := B.bytes
  have hr := B.returns
  have htA : ∀ w ∈ AL, w.before _ s = true := fun w h9 => atoms_spec (ws := zs_X4_begin) B.pre w (List.mem_cons_of_mem _ h9)
  have hown : s.vm.findClass RX4 = some m.cls := findClass_of_methodNamed B.named
  have hlocks := B.notSynchronized
  have hW : Wd G g ad n a0 s.heap σ s.heap [] := ⟨hP, hD, va_S.rf⟩
  clear hP hD
  have hl := lv_entry ([.ref (ad (21))]) (n := 1) (Nat.le_of_ble_eq_true rfl)
  rw [lg_entry_eq]
  generalize (lg_sl ([.ref (ad (21))]) ++ List.replicate (1 - (lg_sl ([.ref (ad (21))])).length) Slot.unset).toArray = ls at hl ⊢
  have hl : lv_has ls 1 [(0, .ref (ad (21)))] := hl
  unfold F_X4_begin at hF
  refine lv_aload_n hx hb dX4_begin_0 rfl (lv_at hl 0 rfl) ?_
  refine lv_iconst (v := 1) hx hb dX4_begin_1 (by decide) ?_
  refine r_putI (C := RX4) (T := TX4) (N := 7) (ty := .boolean) hx hb htA ia_X4 tyX4 tyX4_ok nmX4 hown hK hW (21) (tp_lt (by decide)) (cE_k (rfl : kd 21 = 6)) rfl 3 (by decide) (cE_k (rfl : kd 21 = 6)) (htA _ aw_168) rfl (by decide +kernel) rfl rfl (Nat.le_of_ble_eq_true rfl) dX4_begin_2 (fun H locs hW => ?_)
  obtain ⟨w6, ew6, hF⟩ := nm_some hF
  rw [← ew6] at hW
  refine lv_aload_n hx hb dX4_begin_5 rfl (lv_at hl 0 rfl) ?_
  refine lv_iconst (v := 0) hx hb dX4_begin_6 (by decide) ?_
  refine r_putI (C := RX4) (T := TX4) (N := 7) (ty := .int) hx hb htA ia_X4 tyX4 tyX4_ok nmX4 hown hK hW (21) (tp_lt (by decide)) (cE_k (rfl : kd 21 = 6)) rfl 4 (by decide) (cE_k (rfl : kd 21 = 6)) (htA _ aw_167) rfl (by decide +kernel) rfl rfl (Nat.le_of_ble_eq_true rfl) dX4_begin_7 (fun H locs hW => ?_)
  obtain ⟨w7, ew7, hF⟩ := nm_some hF
  rw [← ew7] at hW
  refine lv_aload_n hx hb dX4_begin_10 rfl (lv_at hl 0 rfl) ?_
  refine lv_iconst (v := 0) hx hb dX4_begin_11 (by decide) ?_
  refine r_putI (C := RX4) (T := TX4) (N := 7) (ty := .int) hx hb htA ia_X4 tyX4 tyX4_ok nmX4 hown hK hW (21) (tp_lt (by decide)) (cE_k (rfl : kd 21 = 6)) rfl 5 (by decide) (cE_k (rfl : kd 21 = 6)) (htA _ aw_169) rfl (by decide +kernel) rfl rfl (Nat.le_of_ble_eq_true rfl) dX4_begin_12 (fun H locs hW => ?_)
  obtain ⟨w8, ew8, hF⟩ := nm_some hF
  rw [← ew8] at hW
  refine lv_aload_n hx hb dX4_begin_15 rfl (lv_at hl 0 rfl) ?_
  refine lv_iconst (v := 0) hx hb dX4_begin_16 (by decide) ?_
  refine r_putI (C := RX4) (T := TX4) (N := 7) (ty := .int) hx hb htA ia_X4 tyX4 tyX4_ok nmX4 hown hK hW (21) (tp_lt (by decide)) (cE_k (rfl : kd 21 = 6)) rfl 6 (by decide) (cE_k (rfl : kd 21 = 6)) (htA _ aw_170) rfl (by decide +kernel) rfl rfl (Nat.le_of_ble_eq_true rfl) dX4_begin_17 (fun H locs hW => ?_)
  obtain ⟨w9, ew9, hF⟩ := nm_some hF
  rw [← ew9] at hW
  refine lv_aload_n hx hb dX4_begin_20 rfl (lv_at hl 0 rfl) ?_
  refine lv_lconst (v := 0) hx hb dX4_begin_21 (by decide) ?_
  refine lv_ldc2 (v := 281474976710654) hx hb hown (htA _ aw_171) dX4_begin_22 ?_
  obtain ⟨y10, hy10, hF⟩ := bd_some hF
  refine r_bv (va_runV (As := [.long 0, .long 281474976710654]) (rest := []) ⟨hx, hb, hml, hown, htA⟩ (m_X4_pile l G g ad n a0 aM w9 0 281474976710654 y10  hy10) (cwV 2 htA (gV aw_172 aw_173 aw_174 aw_175 gz_X4_pile) rfl rfl rfl (by decide +kernel) ⟨Nat.le_of_ble_eq_true rfl, Nat.le_of_ble_eq_true rfl⟩) (r_preV hK hW (21) (tp_lt (by decide)) (cE_k (rfl : kd 21 = 6)) rfl [.long 0, .long 281474976710654]) rfl rfl hl.1 rfl (lv_room (Nat.le_of_ble_eq_true rfl)) dX4_begin_25 ⟨Nat.zero_le _, Nat.zero_le _⟩) hW (fun H locs hW => ?_)
  exact r_vret hx hb hr hlocks hW hF dX4_begin_28
def F_X5_dropFirst_L42 (σ : St) : Option (St) := nm (sI σ (18) 2 15) (fun w8 => some w8)
def F_X5_dropFirst_L2 (K42 : St → Option (St)) : Nat → St → Int32 → Option (St)
  | 0, _, _ => none
  | fz + 1, σ, u1 => if 16 ≤ u1 then K42 σ else gd (ib u1 (ln (19))) (gd (ib (u1 - 1) (ln (19))) (nm (sI σ (19) (Int32.toNatClampNeg (u1 - 1)) (σ.1 (19) (Int32.toNatClampNeg u1))) (fun w12 => gd (ib u1 (ln (20))) (gd (ib (u1 - 1) (ln (20))) (nm (sI w12 (20) (Int32.toNatClampNeg (u1 - 1)) (w12.1 (20) (Int32.toNatClampNeg u1))) (fun w15 => (F_X5_dropFirst_L2 K42 fz) w15 (u1 + 1)))))))
def F_X5_dropFirst (σ : St) : Option (St) := F_X5_dropFirst_L2 F_X5_dropFirst_L42 fu σ 1
set_option maxHeartbeats 4000000 in
set_option maxRecDepth 100000 in
theorem m_X5_dropFirst (l : Launch) (G : va_G) (g : Nat → ClassId) (ad : Nat → Nat) (n a0 aM : Nat) (σ : St) (x : St) (hF : F_X5_dropFirst σ = some x) : Met l yX5_dropFirst zs_X5_dropFirst ({ frames := 0, cells := 0, slots := 0, locals := 0 } : Room) (va_Pc [.ref (ad (18))] (wP G g ad n a0 aM σ)) (qV G g ad n a0 x) 0 0 (fun q : Nat => a0 ≤ q) := by
  refine Met.ofW (cc := cX5_dropFirst) (maxL := 2) (ret := none) (by decide) rfl ?_
  intro p e s m args below meth c s₁ B hml hv
  obtain ⟨rfl, hP, hD, hK⟩ := hv
  have hx := B.exec
  have hb := B.bytes
  have hr := B.returns
  have htA : ∀ w ∈ AL, w.before _ s = true := fun w h9 => atoms_spec (ws := zs_X5_dropFirst) B.pre w (List.mem_cons_of_mem _ h9)
  have hown : s.vm.findClass RX5 = some m.cls := findClass_of_methodNamed B.named
  have hlocks := B.notSynchronized
  have hW : Wd G g ad n a0 s.heap σ s.heap [] := ⟨hP, hD, va_S.rf⟩
  clear hP hD
  have hL42 : ∀ (σ : St) (H : Heap) (locs : List Loc) (ls : Array Slot), Wd G g ad n a0 s.heap σ H locs → lv_has ls 2 [(0, .ref (ad (18)))] → F_X5_dropFirst_L42  σ = some x → W p l e (headSpec zs_X5_dropFirst ({ frames := 0, cells := 0, slots := 0, locals := 0 } : Room)).room s m ([.ref (ad (18))] : List Value).toArray below meth c H locs 0 0 (MQ below (qV G g ad n a0 x) ([.ref (ad (18))] : List Value).toArray s 0 0 (fun q : Nat => a0 ≤ q)) (F0 m 42 ls []) := by
    intro σ H locs ls hW hl hF
    unfold F_X5_dropFirst_L42 at hF
    refine lv_aload_n hx hb dX5_dropFirst_42 rfl (lv_at hl 0 rfl) ?_
    refine lv_bipush (v := 15) hx hb dX5_dropFirst_43 (by decide) ?_
    refine r_putI (C := RX5) (T := TX5) (N := 3) (ty := .int) hx hb htA ia_X5 tyX5 tyX5_ok nmX5 hown hK hW (18) (tp_lt (by decide)) (cE_k (rfl : kd 18 = 5)) rfl 2 (by decide) (cE_k (rfl : kd 18 = 5)) (htA _ aw_185) rfl (by decide +kernel) rfl rfl (Nat.le_of_ble_eq_true rfl) dX5_dropFirst_45 (fun H locs hW => ?_)
    obtain ⟨w8, ew8, hF⟩ := nm_some hF
    rw [← ew8] at hW
    exact r_vret hx hb hr hlocks hW hF dX5_dropFirst_48
  have hL2 : ∀ (fz2 : Nat) (σ : St) (u1 : Int32) (H : Heap) (locs : List Loc) (ls : Array Slot), Wd G g ad n a0 s.heap σ H locs → lv_has ls 2 [(0, .ref (ad (18))), (1, .int u1)] → F_X5_dropFirst_L2 (F_X5_dropFirst_L42) fz2 σ u1 = some x → W p l e (headSpec zs_X5_dropFirst ({ frames := 0, cells := 0, slots := 0, locals := 0 } : Room)).room s m ([.ref (ad (18))] : List Value).toArray below meth c H locs 0 0 (MQ below (qV G g ad n a0 x) ([.ref (ad (18))] : List Value).toArray s 0 0 (fun q : Nat => a0 ≤ q)) (F0 m 2 ls []) := by
    intro fz2
    induction fz2 with
    | zero =>
      intro σ u1 H locs ls hW hl hF
      exact absurd hF (by simp [F_X5_dropFirst_L2])
    | succ fz2 ih =>
      have hB2 := ih
      intro σ u1 H locs ls hW hl hF
      unfold F_X5_dropFirst_L2 at hF
      refine lv_iload_n hx hb dX5_dropFirst_2 rfl (lv_at hl 1 rfl) ?_
      refine lv_bipush (v := 16) hx hb dX5_dropFirst_3 (by decide) ?_
      refine lv_icmp_ge (tgt := 42) hx hb dX5_dropFirst_5 (by decide) (fun hc9 => ?_) (fun hc9 => ?_)
      · replace hF := (if_pos hc9).symm.trans hF
        exact hL42 σ _ _ _  hW (lv_sub hl [0] rfl) hF
      · replace hF := (if_neg hc9).symm.trans hF
        refine lv_aload_n hx hb dX5_dropFirst_8 rfl (lv_at hl 0 rfl) ?_
        refine r_get (C := RX5) (T := TX5) (N := 3) hx hb htA ia_X5 hown hK hW (18) (tp_lt (by decide)) (cE_k (rfl : kd 18 = 5)) rfl 0 (by decide) (htA _ aw_183) rfl dX5_dropFirst_9 ?_
        refine lv_iload_n hx hb dX5_dropFirst_12 rfl (lv_at hl 1 rfl) ?_
        refine lv_iconst (v := 1) hx hb dX5_dropFirst_13 (by decide) ?_
        refine lv_isub hx hb dX5_dropFirst_14 ?_
        refine lv_aload_n hx hb dX5_dropFirst_15 rfl (lv_at hl 0 rfl) ?_
        refine r_get (C := RX5) (T := TX5) (N := 3) hx hb htA ia_X5 hown hK hW (18) (tp_lt (by decide)) (cE_k (rfl : kd 18 = 5)) rfl 0 (by decide) (htA _ aw_183) rfl dX5_dropFirst_16 ?_
        refine lv_iload_n hx hb dX5_dropFirst_19 rfl (lv_at hl 1 rfl) ?_
        obtain ⟨hg10, hF⟩ := gd_some hF
        refine r_iald hx hb hK hW (19) (tp_lt (by decide)) (rfl : kd 19 = 3) hg10 dX5_dropFirst_20 ?_
        obtain ⟨hg11, hF⟩ := gd_some hF
        refine r_iast hx hb hK hW (19) (tp_lt (by decide)) (rfl : kd 19 = 3) hg11 dX5_dropFirst_21 (fun H locs hW => ?_)
        obtain ⟨w12, ew12, hF⟩ := nm_some hF
        rw [← ew12] at hW
        refine lv_aload_n hx hb dX5_dropFirst_22 rfl (lv_at hl 0 rfl) ?_
        refine r_get (C := RX5) (T := TX5) (N := 3) hx hb htA ia_X5 hown hK hW (18) (tp_lt (by decide)) (cE_k (rfl : kd 18 = 5)) rfl 1 (by decide) (htA _ aw_184) rfl dX5_dropFirst_23 ?_
        refine lv_iload_n hx hb dX5_dropFirst_26 rfl (lv_at hl 1 rfl) ?_
        refine lv_iconst (v := 1) hx hb dX5_dropFirst_27 (by decide) ?_
        refine lv_isub hx hb dX5_dropFirst_28 ?_
        refine lv_aload_n hx hb dX5_dropFirst_29 rfl (lv_at hl 0 rfl) ?_
        refine r_get (C := RX5) (T := TX5) (N := 3) hx hb htA ia_X5 hown hK hW (18) (tp_lt (by decide)) (cE_k (rfl : kd 18 = 5)) rfl 1 (by decide) (htA _ aw_184) rfl dX5_dropFirst_30 ?_
        refine lv_iload_n hx hb dX5_dropFirst_33 rfl (lv_at hl 1 rfl) ?_
        obtain ⟨hg13, hF⟩ := gd_some hF
        refine r_iald hx hb hK hW (20) (tp_lt (by decide)) (rfl : kd 20 = 3) hg13 dX5_dropFirst_34 ?_
        obtain ⟨hg14, hF⟩ := gd_some hF
        refine r_iast hx hb hK hW (20) (tp_lt (by decide)) (rfl : kd 20 = 3) hg14 dX5_dropFirst_35 (fun H locs hW => ?_)
        obtain ⟨w15, ew15, hF⟩ := nm_some hF
        rw [← ew15] at hW
        refine lv_iinc (v := (u1 + 1)) (lv' := [(1, .int (u1 + 1)), (0, .ref (ad (18)))]) hx hb dX5_dropFirst_36 hl (k := 1) rfl rfl (by decide) rfl (fun ls hl => ?_)
        refine lv_goto (tgt := 2) hx hb dX5_dropFirst_39 (by decide) ?_
        exact hB2 w15 (u1 + 1) _ _ _  hW (lv_sub hl [1, 0] rfl) hF
  have hL2 := hL2 fu
  have hl := lv_entry ([.ref (ad (18))]) (n := 2) (Nat.le_of_ble_eq_true rfl)
  rw [lg_entry_eq]
  generalize (lg_sl ([.ref (ad (18))]) ++ List.replicate (2 - (lg_sl ([.ref (ad (18))])).length) Slot.unset).toArray = ls at hl ⊢
  have hl : lv_has ls 2 [(0, .ref (ad (18)))] := hl
  unfold F_X5_dropFirst at hF
  refine lv_iconst (v := 1) hx hb dX5_dropFirst_0 (by decide) ?_
  refine lv_istore_n (lv' := [(1, .int 1), (0, .ref (ad (18)))]) hx hb dX5_dropFirst_1 rfl hl (by decide) rfl (fun ls hl => ?_)
  exact hL2 σ 1 _ _ _  hW (lv_sub hl [1, 0] rfl) hF
def F_X5_add_L13 (σ : St) (u1 : Int32) (u2 : Int32) : Option (St) := gd (ib (σ.1 (18) 2) (ln (19))) (nm (sI σ (19) (Int32.toNatClampNeg (σ.1 (18) 2)) u1) (fun w8 => gd (ib (w8.1 (18) 2) (ln (20))) (nm (sI w8 (20) (Int32.toNatClampNeg (w8.1 (18) 2)) u2) (fun w10 => nm (sI w10 (18) 2 ((w10.1 (18) 2) + 1)) (fun w11 => some w11)))))
def F_X5_add (σ : St) (x1 : Int32) (x2 : Int32) : Option (St) := if (σ.1 (18) 2) < 16 then F_X5_add_L13 σ x1 x2 else (F_X5_dropFirst σ).bind (fun y13 => F_X5_add_L13 y13 x1 x2)
set_option maxHeartbeats 4000000 in
set_option maxRecDepth 100000 in
theorem m_X5_add (l : Launch) (G : va_G) (g : Nat → ClassId) (ad : Nat → Nat) (n a0 aM : Nat) (σ : St) (x1 : Int32) (x2 : Int32) (x : St) (hF : F_X5_add σ x1 x2 = some x) : Met l yX5_add zs_X5_add ({ frames := 1, cells := 0, slots := 0, locals := 21 } : Room) (va_Pc [.ref (ad (18)), .int x1, .int x2] (wP G g ad n a0 aM σ)) (qV G g ad n a0 x) 0 0 (fun q : Nat => a0 ≤ q) := by
  refine Met.ofW (cc := cX5_add) (maxL := 3) (ret := none) (by decide) rfl ?_
  intro p e s m args below meth c s₁ B hml hv
  obtain ⟨rfl, hP, hD, hK⟩ := hv
  have hx := B.exec
  have hb := B.bytes
  have hr := B.returns
  have htA : ∀ w ∈ AL, w.before _ s = true := fun w h9 => atoms_spec (ws := zs_X5_add) B.pre w (List.mem_cons_of_mem _ h9)
  have hown : s.vm.findClass RX5 = some m.cls := findClass_of_methodNamed B.named
  have hlocks := B.notSynchronized
  have hW : Wd G g ad n a0 s.heap σ s.heap [] := ⟨hP, hD, va_S.rf⟩
  clear hP hD
  have hL13 : ∀ (σ : St) (u1 : Int32) (u2 : Int32) (H : Heap) (locs : List Loc) (ls : Array Slot), Wd G g ad n a0 s.heap σ H locs → lv_has ls 3 [(0, .ref (ad (18))), (1, .int u1), (2, .int u2)] → F_X5_add_L13  σ u1 u2 = some x → W p l e (headSpec zs_X5_add ({ frames := 1, cells := 0, slots := 0, locals := 21 } : Room)).room s m ([.ref (ad (18)), .int x1, .int x2] : List Value).toArray below meth c H locs 0 0 (MQ below (qV G g ad n a0 x) ([.ref (ad (18)), .int x1, .int x2] : List Value).toArray s 0 0 (fun q : Nat => a0 ≤ q)) (F0 m 13 ls []) := by
    intro σ u1 u2 H locs ls hW hl hF
    unfold F_X5_add_L13 at hF
    refine lv_aload_n hx hb dX5_add_13 rfl (lv_at hl 0 rfl) ?_
    refine r_get (C := RX5) (T := TX5) (N := 3) hx hb htA ia_X5 hown hK hW (18) (tp_lt (by decide)) (cE_k (rfl : kd 18 = 5)) rfl 0 (by decide) (htA _ aw_183) rfl dX5_add_14 ?_
    refine lv_aload_n hx hb dX5_add_17 rfl (lv_at hl 0 rfl) ?_
    refine r_get (C := RX5) (T := TX5) (N := 3) hx hb htA ia_X5 hown hK hW (18) (tp_lt (by decide)) (cE_k (rfl : kd 18 = 5)) rfl 2 (by decide) (htA _ aw_185) rfl dX5_add_18 ?_
    refine lv_iload_n hx hb dX5_add_21 rfl (lv_at hl 1 rfl) ?_
    obtain ⟨hg7, hF⟩ := gd_some hF
    refine r_iast hx hb hK hW (19) (tp_lt (by decide)) (rfl : kd 19 = 3) hg7 dX5_add_22 (fun H locs hW => ?_)
    obtain ⟨w8, ew8, hF⟩ := nm_some hF
    rw [← ew8] at hW
    refine lv_aload_n hx hb dX5_add_23 rfl (lv_at hl 0 rfl) ?_
    refine r_get (C := RX5) (T := TX5) (N := 3) hx hb htA ia_X5 hown hK hW (18) (tp_lt (by decide)) (cE_k (rfl : kd 18 = 5)) rfl 1 (by decide) (htA _ aw_184) rfl dX5_add_24 ?_
    refine lv_aload_n hx hb dX5_add_27 rfl (lv_at hl 0 rfl) ?_
    refine r_get (C := RX5) (T := TX5) (N := 3) hx hb htA ia_X5 hown hK hW (18) (tp_lt (by decide)) (cE_k (rfl : kd 18 = 5)) rfl 2 (by decide) (htA _ aw_185) rfl dX5_add_28 ?_
    refine lv_iload_n hx hb dX5_add_31 rfl (lv_at hl 2 rfl) ?_
    obtain ⟨hg9, hF⟩ := gd_some hF
    refine r_iast hx hb hK hW (20) (tp_lt (by decide)) (rfl : kd 20 = 3) hg9 dX5_add_32 (fun H locs hW => ?_)
    obtain ⟨w10, ew10, hF⟩ := nm_some hF
    rw [← ew10] at hW
    refine lv_aload_n hx hb dX5_add_33 rfl (lv_at hl 0 rfl) ?_
    refine lv_dup hx hb dX5_add_34 rfl ?_
    refine r_get (C := RX5) (T := TX5) (N := 3) hx hb htA ia_X5 hown hK hW (18) (tp_lt (by decide)) (cE_k (rfl : kd 18 = 5)) rfl 2 (by decide) (htA _ aw_185) rfl dX5_add_35 ?_
    refine lv_iconst (v := 1) hx hb dX5_add_38 (by decide) ?_
    refine lv_iadd hx hb dX5_add_39 ?_
    refine r_putI (C := RX5) (T := TX5) (N := 3) (ty := .int) hx hb htA ia_X5 tyX5 tyX5_ok nmX5 hown hK hW (18) (tp_lt (by decide)) (cE_k (rfl : kd 18 = 5)) rfl 2 (by decide) (cE_k (rfl : kd 18 = 5)) (htA _ aw_185) rfl (by decide +kernel) rfl rfl (Nat.le_of_ble_eq_true rfl) dX5_add_40 (fun H locs hW => ?_)
    obtain ⟨w11, ew11, hF⟩ := nm_some hF
    rw [← ew11] at hW
    exact r_vret hx hb hr hlocks hW hF dX5_add_43
  have hl := lv_entry ([.ref (ad (18)), .int x1, .int x2]) (n := 3) (Nat.le_of_ble_eq_true rfl)
  rw [lg_entry_eq]
  generalize (lg_sl ([.ref (ad (18)), .int x1, .int x2]) ++ List.replicate (3 - (lg_sl ([.ref (ad (18)), .int x1, .int x2])).length) Slot.unset).toArray = ls at hl ⊢
  have hl : lv_has ls 3 [(0, .ref (ad (18))), (1, .int x1), (2, .int x2)] := hl
  unfold F_X5_add at hF
  refine lv_aload_n hx hb dX5_add_0 rfl (lv_at hl 0 rfl) ?_
  refine r_get (C := RX5) (T := TX5) (N := 3) hx hb htA ia_X5 hown hK hW (18) (tp_lt (by decide)) (cE_k (rfl : kd 18 = 5)) rfl 2 (by decide) (htA _ aw_185) rfl dX5_add_1 ?_
  refine lv_bipush (v := 16) hx hb dX5_add_4 (by decide) ?_
  refine lv_icmp_lt (tgt := 13) hx hb dX5_add_6 (by decide) (fun hc12 => ?_) (fun hc12 => ?_)
  · replace hF := (if_pos hc12).symm.trans hF
    exact hL13 σ x1 x2 _ _ _  hW (lv_sub hl [0, 1, 2] rfl) hF
  · replace hF := (if_neg hc12).symm.trans hF
    refine lv_aload_n hx hb dX5_add_9 rfl (lv_at hl 0 rfl) ?_
    obtain ⟨y13, hy13, hF⟩ := bd_some hF
    refine r_bv (va_runV (As := []) (rest := []) ⟨hx, hb, hml, hown, htA⟩ (m_X5_dropFirst l G g ad n a0 aM σ y13  hy13) (cwV 0 htA (gV aw_186 aw_187 aw_188 aw_189 gz_X5_dropFirst) rfl rfl rfl (by decide +kernel) ⟨Nat.le_of_ble_eq_true rfl, Nat.le_of_ble_eq_true rfl⟩) (r_preV hK hW (18) (tp_lt (by decide)) (cE_k (rfl : kd 18 = 5)) rfl []) rfl rfl hl.1 rfl (lv_room (Nat.le_of_ble_eq_true rfl)) dX5_add_10 ⟨Nat.zero_le _, Nat.zero_le _⟩) hW (fun H locs hW => ?_)
    exact hL13 y13 x1 x2 _ _ _  hW (lv_sub hl [0, 1, 2] rfl) hF
def F_X5_applyTo_L32 (r1 : Nat) (σ : St) : Option (St) := nm (sI σ (18) 2 0) (fun w5 => some w5)
def F_X5_applyTo_L2 (r1 : Nat) (K32 : St → Option (St)) : Nat → St → Int32 → Option (St)
  | 0, _, _ => none
  | fz + 1, σ, u2 => if (σ.1 (18) 2) ≤ u2 then K32 σ else gd (ib u2 (ln (19))) (gd (ib u2 (ln (20))) ((F_X3_flip (r1) σ (σ.1 (19) (Int32.toNatClampNeg u2)) (σ.1 (20) (Int32.toNatClampNeg u2))).bind (fun y9 => (F_X5_applyTo_L2 r1 K32 fz) y9 (u2 + 1))))
def F_X5_applyTo (r1 : Nat) (σ : St) : Option (St) := F_X5_applyTo_L2 r1 (F_X5_applyTo_L32 r1) fu σ 0
set_option maxHeartbeats 4000000 in
set_option maxRecDepth 100000 in
theorem m_X5_applyTo (l : Launch) (G : va_G) (g : Nat → ClassId) (ad : Nat → Nat) (n a0 aM : Nat) (r1 : Nat) (σ : St) (x : St) (hr1 : isRow r1) (tr1 : r1 + 1 < tp n) (hF : F_X5_applyTo r1 σ = some x) : Met l yX5_applyTo zs_X5_applyTo ({ frames := 1, cells := 0, slots := 0, locals := 22 } : Room) (va_Pc [.ref (ad (18)), .ref (ad (r1))] (wP G g ad n a0 aM σ)) (qV G g ad n a0 x) 0 0 (fun q : Nat => a0 ≤ q) := by
  refine Met.ofW (cc := cX5_applyTo) (maxL := 3) (ret := none) (by decide) rfl ?_
  intro p e s m args below meth c s₁ B hml hv
  obtain ⟨rfl, hP, hD, hK⟩ := hv
  have hx := B.exec
  have hb := B.bytes
  have hr := B.returns
  have htA : ∀ w ∈ AL, w.before _ s = true := fun w h9 => atoms_spec (ws := zs_X5_applyTo) B.pre w (List.mem_cons_of_mem _ h9)
  have hown : s.vm.findClass RX5 = some m.cls := findClass_of_methodNamed B.named
  have hlocks := B.notSynchronized
  have hW : Wd G g ad n a0 s.heap σ s.heap [] := ⟨hP, hD, va_S.rf⟩
  clear hP hD
  have hL32 : ∀ (σ : St) (H : Heap) (locs : List Loc) (ls : Array Slot), Wd G g ad n a0 s.heap σ H locs → lv_has ls 3 [(0, .ref (ad (18)))] → F_X5_applyTo_L32 r1  σ = some x → W p l e (headSpec zs_X5_applyTo ({ frames := 1, cells := 0, slots := 0, locals := 22 } : Room)).room s m ([.ref (ad (18)), .ref (ad (r1))] : List Value).toArray below meth c H locs 0 0 (MQ below (qV G g ad n a0 x) ([.ref (ad (18)), .ref (ad (r1))] : List Value).toArray s 0 0 (fun q : Nat => a0 ≤ q)) (F0 m 32 ls []) := by
    intro σ H locs ls hW hl hF
    unfold F_X5_applyTo_L32 at hF
    refine lv_aload_n hx hb dX5_applyTo_32 rfl (lv_at hl 0 rfl) ?_
    refine lv_iconst (v := 0) hx hb dX5_applyTo_33 (by decide) ?_
    refine r_putI (C := RX5) (T := TX5) (N := 3) (ty := .int) hx hb htA ia_X5 tyX5 tyX5_ok nmX5 hown hK hW (18) (tp_lt (by decide)) (cE_k (rfl : kd 18 = 5)) rfl 2 (by decide) (cE_k (rfl : kd 18 = 5)) (htA _ aw_185) rfl (by decide +kernel) rfl rfl (Nat.le_of_ble_eq_true rfl) dX5_applyTo_34 (fun H locs hW => ?_)
    obtain ⟨w5, ew5, hF⟩ := nm_some hF
    rw [← ew5] at hW
    exact r_vret hx hb hr hlocks hW hF dX5_applyTo_37
  have hL2 : ∀ (fz2 : Nat) (σ : St) (u2 : Int32) (H : Heap) (locs : List Loc) (ls : Array Slot), Wd G g ad n a0 s.heap σ H locs → lv_has ls 3 [(0, .ref (ad (18))), (1, .ref (ad (r1))), (2, .int u2)] → F_X5_applyTo_L2 r1 (F_X5_applyTo_L32 r1) fz2 σ u2 = some x → W p l e (headSpec zs_X5_applyTo ({ frames := 1, cells := 0, slots := 0, locals := 22 } : Room)).room s m ([.ref (ad (18)), .ref (ad (r1))] : List Value).toArray below meth c H locs 0 0 (MQ below (qV G g ad n a0 x) ([.ref (ad (18)), .ref (ad (r1))] : List Value).toArray s 0 0 (fun q : Nat => a0 ≤ q)) (F0 m 2 ls []) := by
    intro fz2
    induction fz2 with
    | zero =>
      intro σ u2 H locs ls hW hl hF
      exact absurd hF (by simp [F_X5_applyTo_L2])
    | succ fz2 ih =>
      have hB2 := ih
      intro σ u2 H locs ls hW hl hF
      unfold F_X5_applyTo_L2 at hF
      refine lv_iload_n hx hb dX5_applyTo_2 rfl (lv_at hl 2 rfl) ?_
      refine lv_aload_n hx hb dX5_applyTo_3 rfl (lv_at hl 0 rfl) ?_
      refine r_get (C := RX5) (T := TX5) (N := 3) hx hb htA ia_X5 hown hK hW (18) (tp_lt (by decide)) (cE_k (rfl : kd 18 = 5)) rfl 2 (by decide) (htA _ aw_185) rfl dX5_applyTo_4 ?_
      refine lv_icmp_ge (tgt := 32) hx hb dX5_applyTo_7 (by decide) (fun hc6 => ?_) (fun hc6 => ?_)
      · replace hF := (if_pos hc6).symm.trans hF
        exact hL32 σ _ _ _  hW (lv_sub hl [0] rfl) hF
      · replace hF := (if_neg hc6).symm.trans hF
        refine lv_aload_n hx hb dX5_applyTo_10 rfl (lv_at hl 1 rfl) ?_
        refine lv_aload_n hx hb dX5_applyTo_11 rfl (lv_at hl 0 rfl) ?_
        refine r_get (C := RX5) (T := TX5) (N := 3) hx hb htA ia_X5 hown hK hW (18) (tp_lt (by decide)) (cE_k (rfl : kd 18 = 5)) rfl 0 (by decide) (htA _ aw_183) rfl dX5_applyTo_12 ?_
        refine lv_iload_n hx hb dX5_applyTo_15 rfl (lv_at hl 2 rfl) ?_
        obtain ⟨hg7, hF⟩ := gd_some hF
        refine r_iald hx hb hK hW (19) (tp_lt (by decide)) (rfl : kd 19 = 3) hg7 dX5_applyTo_16 ?_
        refine lv_aload_n hx hb dX5_applyTo_17 rfl (lv_at hl 0 rfl) ?_
        refine r_get (C := RX5) (T := TX5) (N := 3) hx hb htA ia_X5 hown hK hW (18) (tp_lt (by decide)) (cE_k (rfl : kd 18 = 5)) rfl 1 (by decide) (htA _ aw_184) rfl dX5_applyTo_18 ?_
        refine lv_iload_n hx hb dX5_applyTo_21 rfl (lv_at hl 2 rfl) ?_
        obtain ⟨hg8, hF⟩ := gd_some hF
        refine r_iald hx hb hK hW (20) (tp_lt (by decide)) (rfl : kd 20 = 3) hg8 dX5_applyTo_22 ?_
        obtain ⟨y9, hy9, hF⟩ := bd_some hF
        refine r_bv (va_runV (As := [.int (σ.1 (19) (Int32.toNatClampNeg u2)), .int (σ.1 (20) (Int32.toNatClampNeg u2))]) (rest := []) ⟨hx, hb, hml, hown, htA⟩ (m_X3_flip l G g ad n a0 aM (r1) σ (σ.1 (19) (Int32.toNatClampNeg u2)) (σ.1 (20) (Int32.toNatClampNeg u2)) y9 hr1 (by omega) hy9) (cwV 2 htA (gV aw_191 aw_192 aw_193 aw_6 gz_X3_flip) rfl rfl rfl (by decide +kernel) ⟨Nat.le_of_ble_eq_true rfl, Nat.le_of_ble_eq_true rfl⟩) (r_preV hK hW (r1) (by omega) (cE_k hr1.1) rfl [.int (σ.1 (19) (Int32.toNatClampNeg u2)), .int (σ.1 (20) (Int32.toNatClampNeg u2))]) rfl rfl hl.1 rfl (lv_room (Nat.le_of_ble_eq_true rfl)) dX5_applyTo_23 ⟨Nat.zero_le _, Nat.zero_le _⟩) hW (fun H locs hW => ?_)
        refine lv_iinc (v := (u2 + 1)) (lv' := [(2, .int (u2 + 1)), (0, .ref (ad (18))), (1, .ref (ad (r1)))]) hx hb dX5_applyTo_26 hl (k := 2) rfl rfl (by decide) rfl (fun ls hl => ?_)
        refine lv_goto (tgt := 2) hx hb dX5_applyTo_29 (by decide) ?_
        exact hB2 y9 (u2 + 1) _ _ _  hW (lv_sub hl [1, 2, 0] rfl) hF
  have hL2 := hL2 fu
  have hl := lv_entry ([.ref (ad (18)), .ref (ad (r1))]) (n := 3) (Nat.le_of_ble_eq_true rfl)
  rw [lg_entry_eq]
  generalize (lg_sl ([.ref (ad (18)), .ref (ad (r1))]) ++ List.replicate (3 - (lg_sl ([.ref (ad (18)), .ref (ad (r1))])).length) Slot.unset).toArray = ls at hl ⊢
  have hl : lv_has ls 3 [(0, .ref (ad (18))), (1, .ref (ad (r1)))] := hl
  unfold F_X5_applyTo at hF
  refine lv_iconst (v := 0) hx hb dX5_applyTo_0 (by decide) ?_
  refine lv_istore_n (lv' := [(2, .int 0), (0, .ref (ad (18))), (1, .ref (ad (r1)))]) hx hb dX5_applyTo_1 rfl hl (by decide) rfl (fun ls hl => ?_)
  exact hL2 σ 0 _ _ _  hW (lv_sub hl [1, 2, 0] rfl) hF
def F_X0_write_L75 (r2 : Nat) (σ : St) : Option (St) := (F_X3_sum (r2) σ 8 20).bind (fun y11 => (F_X3_put (r2) y11.1 (((Int32.toUInt32 y11.2) >>> ((Int32.toUInt32 8) &&& Int32.toUInt32 31)).toInt32 ||| 170)).bind (fun y12 => (F_X3_put (r2) y12 (((Int32.toUInt32 y11.2) >>> ((Int32.toUInt32 8) &&& Int32.toUInt32 31)).toInt32 ||| 85)).bind (fun y13 => (F_X3_put (r2) y13 (y11.2 ||| 170)).bind (fun y14 => (F_X3_put (r2) y14 (y11.2 ||| 85)).bind (fun y15 => some y15)))))
def F_X0_write_L36 (r2 : Nat) (K75 : St → Option (St)) : Nat → St → Int64 → Int32 → Option (St)
  | 0, _, _, _ => none
  | fz + 1, σ, u0, u3 => if u3 < 0 then K75 σ else (F_X3_put (r2) σ (((Int64.toInt32 ((Int64.toUInt64 u0) >>> ((Int64.toUInt64 (Int32.toInt64 u3)) &&& Int64.toUInt64 63)).toInt64) &&& 255) ||| 170)).bind (fun y17 => (F_X3_put (r2) y17 (((Int64.toInt32 ((Int64.toUInt64 u0) >>> ((Int64.toUInt64 (Int32.toInt64 u3)) &&& Int64.toUInt64 63)).toInt64) &&& 255) ||| 85)).bind (fun y18 => (F_X0_write_L36 r2 K75 fz) y18 u0 (u3 + (-8))))
def F_X0_write_L26 (r2 : Nat) (σ : St) (u0 : Int64) : Option (St) := (F_X3_put (r2) σ 170).bind (fun y19 => F_X0_write_L36 r2 (F_X0_write_L75 r2) fu y19 u0 40)
def F_X0_write_L7 (r2 : Nat) (K26 : St → Int64 → Option (St)) : Nat → St → Int64 → Int32 → Option (St)
  | 0, _, _, _ => none
  | fz + 1, σ, u0, u3 => if 7 ≤ u3 then K26 σ u0 else (F_X3_put (r2) σ 254).bind (fun y21 => (F_X0_write_L7 r2 K26 fz) y21 u0 (u3 + 1))
def F_X0_write (r2 : Nat) (σ : St) (x0 : Int64) : Option (St) := (F_X3_cut (r2) σ 0).bind (fun y22 => F_X0_write_L7 r2 (F_X0_write_L26 r2) fu y22 x0 0)
set_option maxHeartbeats 4000000 in
set_option maxRecDepth 100000 in
theorem m_X0_write (l : Launch) (G : va_G) (g : Nat → ClassId) (ad : Nat → Nat) (n a0 aM : Nat) (r2 : Nat) (σ : St) (x0 : Int64) (x : St) (hr2 : isRow r2) (tr2 : r2 + 1 < tp n) (hF : F_X0_write r2 σ x0 = some x) : Met l yX0_write zs_X0_write ({ frames := 1, cells := 0, slots := 0, locals := 24 } : Room) (va_Pc [.long x0, .ref (ad (r2))] (wP G g ad n a0 aM σ)) (qV G g ad n a0 x) 0 0 (fun q : Nat => a0 ≤ q) := by
  refine Met.ofW (cc := cX0_write) (maxL := 5) (ret := none) (by decide) rfl ?_
  intro p e s m args below meth c s₁ B hml hv
  obtain ⟨rfl, hP, hD, hK⟩ := hv
  have hx := B.exec
  have hb := B.bytes
  have hr := B.returns
  have htA : ∀ w ∈ AL, w.before _ s = true := fun w h9 => atoms_spec (ws := zs_X0_write) B.pre w (List.mem_cons_of_mem _ h9)
  have hown : s.vm.findClass RX0 = some m.cls := findClass_of_methodNamed B.named
  have hlocks := B.notSynchronized
  have hW : Wd G g ad n a0 s.heap σ s.heap [] := ⟨hP, hD, va_S.rf⟩
  clear hP hD
  have hL75 : ∀ (σ : St) (H : Heap) (locs : List Loc) (ls : Array Slot), Wd G g ad n a0 s.heap σ H locs → lv_has ls 5 [(2, .ref (ad (r2)))] → F_X0_write_L75 r2  σ = some x → W p l e (headSpec zs_X0_write ({ frames := 1, cells := 0, slots := 0, locals := 24 } : Room)).room s m ([.long x0, .ref (ad (r2))] : List Value).toArray below meth c H locs 0 0 (MQ below (qV G g ad n a0 x) ([.long x0, .ref (ad (r2))] : List Value).toArray s 0 0 (fun q : Nat => a0 ≤ q)) (F0 m 75 ls []) := by
    intro σ H locs ls hW hl hF
    unfold F_X0_write_L75 at hF
    refine lv_aload_n hx hb dX0_write_75 rfl (lv_at hl 0 rfl) ?_
    refine lv_bipush (v := 8) hx hb dX0_write_76 (by decide) ?_
    refine lv_bipush (v := 20) hx hb dX0_write_78 (by decide) ?_
    obtain ⟨y11, hy11, hF⟩ := bd_some hF
    refine r_bi (va_runV (As := [.int 8, .int 20]) (rest := []) ⟨hx, hb, hml, hown, htA⟩ (m_X3_sum l G g ad n a0 aM (r2) σ 8 20 y11 hr2 (by omega) hy11) (cwV 2 htA (gV aw_12 aw_13 aw_14 aw_6 gz_X3_sum) rfl rfl rfl (by decide +kernel) ⟨Nat.le_of_ble_eq_true rfl, Nat.le_of_ble_eq_true rfl⟩) (r_preV hK hW (r2) (by omega) (cE_k hr2.1) rfl [.int 8, .int 20]) rfl rfl hl.1 rfl (lv_room (Nat.le_of_ble_eq_true rfl)) dX0_write_80 ⟨Nat.zero_le _, Nat.zero_le _⟩) hW (fun H locs hW => ?_)
    refine lv_istore_n (lv' := [(3, .int y11.2), (2, .ref (ad (r2)))]) hx hb dX0_write_83 rfl hl (by decide) rfl (fun ls hl => ?_)
    refine lv_aload_n hx hb dX0_write_84 rfl (lv_at hl 1 rfl) ?_
    refine lv_iload_n hx hb dX0_write_85 rfl (lv_at hl 0 rfl) ?_
    refine lv_bipush (v := 8) hx hb dX0_write_86 (by decide) ?_
    refine lv_iushr (v := ((Int32.toUInt32 y11.2) >>> ((Int32.toUInt32 8) &&& Int32.toUInt32 31)).toInt32) hx hb dX0_write_88 rfl ?_
    refine lv_sipush (v := 170) hx hb dX0_write_89 (by decide) ?_
    refine lv_ior hx hb dX0_write_92 ?_
    obtain ⟨y12, hy12, hF⟩ := bd_some hF
    refine r_bv (va_runV (As := [.int (((Int32.toUInt32 y11.2) >>> ((Int32.toUInt32 8) &&& Int32.toUInt32 31)).toInt32 ||| 170)]) (rest := []) ⟨hx, hb, hml, hown, htA⟩ (m_X3_put l G g ad n a0 aM (r2) y11.1 (((Int32.toUInt32 y11.2) >>> ((Int32.toUInt32 8) &&& Int32.toUInt32 31)).toInt32 ||| 170) y12 hr2 (by omega) hy12) (cwV 1 htA (gV aw_8 aw_9 aw_10 aw_6 gz_X3_put) rfl rfl rfl (by decide +kernel) ⟨Nat.le_of_ble_eq_true rfl, Nat.le_of_ble_eq_true rfl⟩) (r_preV hK hW (r2) (by omega) (cE_k hr2.1) rfl [.int (((Int32.toUInt32 y11.2) >>> ((Int32.toUInt32 8) &&& Int32.toUInt32 31)).toInt32 ||| 170)]) rfl rfl hl.1 rfl (lv_room (Nat.le_of_ble_eq_true rfl)) dX0_write_93 ⟨Nat.zero_le _, Nat.zero_le _⟩) hW (fun H locs hW => ?_)
    refine lv_aload_n hx hb dX0_write_96 rfl (lv_at hl 1 rfl) ?_
    refine lv_iload_n hx hb dX0_write_97 rfl (lv_at hl 0 rfl) ?_
    refine lv_bipush (v := 8) hx hb dX0_write_98 (by decide) ?_
    refine lv_iushr (v := ((Int32.toUInt32 y11.2) >>> ((Int32.toUInt32 8) &&& Int32.toUInt32 31)).toInt32) hx hb dX0_write_100 rfl ?_
    refine lv_bipush (v := 85) hx hb dX0_write_101 (by decide) ?_
    refine lv_ior hx hb dX0_write_103 ?_
    obtain ⟨y13, hy13, hF⟩ := bd_some hF
    refine r_bv (va_runV (As := [.int (((Int32.toUInt32 y11.2) >>> ((Int32.toUInt32 8) &&& Int32.toUInt32 31)).toInt32 ||| 85)]) (rest := []) ⟨hx, hb, hml, hown, htA⟩ (m_X3_put l G g ad n a0 aM (r2) y12 (((Int32.toUInt32 y11.2) >>> ((Int32.toUInt32 8) &&& Int32.toUInt32 31)).toInt32 ||| 85) y13 hr2 (by omega) hy13) (cwV 1 htA (gV aw_8 aw_9 aw_10 aw_6 gz_X3_put) rfl rfl rfl (by decide +kernel) ⟨Nat.le_of_ble_eq_true rfl, Nat.le_of_ble_eq_true rfl⟩) (r_preV hK hW (r2) (by omega) (cE_k hr2.1) rfl [.int (((Int32.toUInt32 y11.2) >>> ((Int32.toUInt32 8) &&& Int32.toUInt32 31)).toInt32 ||| 85)]) rfl rfl hl.1 rfl (lv_room (Nat.le_of_ble_eq_true rfl)) dX0_write_104 ⟨Nat.zero_le _, Nat.zero_le _⟩) hW (fun H locs hW => ?_)
    refine lv_aload_n hx hb dX0_write_107 rfl (lv_at hl 1 rfl) ?_
    refine lv_iload_n hx hb dX0_write_108 rfl (lv_at hl 0 rfl) ?_
    refine lv_sipush (v := 170) hx hb dX0_write_109 (by decide) ?_
    refine lv_ior hx hb dX0_write_112 ?_
    obtain ⟨y14, hy14, hF⟩ := bd_some hF
    refine r_bv (va_runV (As := [.int (y11.2 ||| 170)]) (rest := []) ⟨hx, hb, hml, hown, htA⟩ (m_X3_put l G g ad n a0 aM (r2) y13 (y11.2 ||| 170) y14 hr2 (by omega) hy14) (cwV 1 htA (gV aw_8 aw_9 aw_10 aw_6 gz_X3_put) rfl rfl rfl (by decide +kernel) ⟨Nat.le_of_ble_eq_true rfl, Nat.le_of_ble_eq_true rfl⟩) (r_preV hK hW (r2) (by omega) (cE_k hr2.1) rfl [.int (y11.2 ||| 170)]) rfl rfl hl.1 rfl (lv_room (Nat.le_of_ble_eq_true rfl)) dX0_write_113 ⟨Nat.zero_le _, Nat.zero_le _⟩) hW (fun H locs hW => ?_)
    refine lv_aload_n hx hb dX0_write_116 rfl (lv_at hl 1 rfl) ?_
    refine lv_iload_n hx hb dX0_write_117 rfl (lv_at hl 0 rfl) ?_
    refine lv_bipush (v := 85) hx hb dX0_write_118 (by decide) ?_
    refine lv_ior hx hb dX0_write_120 ?_
    obtain ⟨y15, hy15, hF⟩ := bd_some hF
    refine r_bv (va_runV (As := [.int (y11.2 ||| 85)]) (rest := []) ⟨hx, hb, hml, hown, htA⟩ (m_X3_put l G g ad n a0 aM (r2) y14 (y11.2 ||| 85) y15 hr2 (by omega) hy15) (cwV 1 htA (gV aw_8 aw_9 aw_10 aw_6 gz_X3_put) rfl rfl rfl (by decide +kernel) ⟨Nat.le_of_ble_eq_true rfl, Nat.le_of_ble_eq_true rfl⟩) (r_preV hK hW (r2) (by omega) (cE_k hr2.1) rfl [.int (y11.2 ||| 85)]) rfl rfl hl.1 rfl (lv_room (Nat.le_of_ble_eq_true rfl)) dX0_write_121 ⟨Nat.zero_le _, Nat.zero_le _⟩) hW (fun H locs hW => ?_)
    exact r_vret hx hb hr hlocks hW hF dX0_write_124
  have hL36 : ∀ (fz36 : Nat) (σ : St) (u0 : Int64) (u3 : Int32) (H : Heap) (locs : List Loc) (ls : Array Slot), Wd G g ad n a0 s.heap σ H locs → lv_has ls 5 [(0, .long u0), (2, .ref (ad (r2))), (3, .int u3)] → F_X0_write_L36 r2 (F_X0_write_L75 r2) fz36 σ u0 u3 = some x → W p l e (headSpec zs_X0_write ({ frames := 1, cells := 0, slots := 0, locals := 24 } : Room)).room s m ([.long x0, .ref (ad (r2))] : List Value).toArray below meth c H locs 0 0 (MQ below (qV G g ad n a0 x) ([.long x0, .ref (ad (r2))] : List Value).toArray s 0 0 (fun q : Nat => a0 ≤ q)) (F0 m 36 ls []) := by
    intro fz36
    induction fz36 with
    | zero =>
      intro σ u0 u3 H locs ls hW hl hF
      exact absurd hF (by simp [F_X0_write_L36])
    | succ fz36 ih =>
      have hB36 := ih
      intro σ u0 u3 H locs ls hW hl hF
      unfold F_X0_write_L36 at hF
      refine lv_iload_n hx hb dX0_write_36 rfl (lv_at hl 2 rfl) ?_
      refine lv_if_lt (tgt := 75) hx hb dX0_write_37 (by decide) (fun hc16 => ?_) (fun hc16 => ?_)
      · replace hF := (if_pos hc16).symm.trans hF
        exact hL75 σ _ _ _  hW (lv_sub hl [1] rfl) hF
      · replace hF := (if_neg hc16).symm.trans hF
        refine lv_lload_n hx hb dX0_write_40 rfl (lv_at hl 0 rfl) ?_
        refine lv_iload_n hx hb dX0_write_41 rfl (lv_at hl 2 rfl) ?_
        refine lv_lushr (v := ((Int64.toUInt64 u0) >>> ((Int64.toUInt64 (Int32.toInt64 u3)) &&& Int64.toUInt64 63)).toInt64) hx hb dX0_write_42 rfl ?_
        refine lv_l2i (v := (Int64.toInt32 ((Int64.toUInt64 u0) >>> ((Int64.toUInt64 (Int32.toInt64 u3)) &&& Int64.toUInt64 63)).toInt64)) hx hb dX0_write_43 rfl ?_
        refine lv_sipush (v := 255) hx hb dX0_write_44 (by decide) ?_
        refine lv_iand hx hb dX0_write_47 ?_
        refine lv_istore (lv' := [(4, .int ((Int64.toInt32 ((Int64.toUInt64 u0) >>> ((Int64.toUInt64 (Int32.toInt64 u3)) &&& Int64.toUInt64 63)).toInt64) &&& 255)), (0, .long u0), (2, .ref (ad (r2))), (3, .int u3)]) hx hb dX0_write_48 hl (by decide) rfl (fun ls hl => ?_)
        refine lv_aload_n hx hb dX0_write_50 rfl (lv_at hl 2 rfl) ?_
        refine lv_iload hx hb dX0_write_51 (lv_at hl 0 rfl) ?_
        refine lv_sipush (v := 170) hx hb dX0_write_53 (by decide) ?_
        refine lv_ior hx hb dX0_write_56 ?_
        obtain ⟨y17, hy17, hF⟩ := bd_some hF
        refine r_bv (va_runV (As := [.int (((Int64.toInt32 ((Int64.toUInt64 u0) >>> ((Int64.toUInt64 (Int32.toInt64 u3)) &&& Int64.toUInt64 63)).toInt64) &&& 255) ||| 170)]) (rest := []) ⟨hx, hb, hml, hown, htA⟩ (m_X3_put l G g ad n a0 aM (r2) σ (((Int64.toInt32 ((Int64.toUInt64 u0) >>> ((Int64.toUInt64 (Int32.toInt64 u3)) &&& Int64.toUInt64 63)).toInt64) &&& 255) ||| 170) y17 hr2 (by omega) hy17) (cwV 1 htA (gV aw_8 aw_9 aw_10 aw_6 gz_X3_put) rfl rfl rfl (by decide +kernel) ⟨Nat.le_of_ble_eq_true rfl, Nat.le_of_ble_eq_true rfl⟩) (r_preV hK hW (r2) (by omega) (cE_k hr2.1) rfl [.int (((Int64.toInt32 ((Int64.toUInt64 u0) >>> ((Int64.toUInt64 (Int32.toInt64 u3)) &&& Int64.toUInt64 63)).toInt64) &&& 255) ||| 170)]) rfl rfl hl.1 rfl (lv_room (Nat.le_of_ble_eq_true rfl)) dX0_write_57 ⟨Nat.zero_le _, Nat.zero_le _⟩) hW (fun H locs hW => ?_)
        refine lv_aload_n hx hb dX0_write_60 rfl (lv_at hl 2 rfl) ?_
        refine lv_iload hx hb dX0_write_61 (lv_at hl 0 rfl) ?_
        refine lv_bipush (v := 85) hx hb dX0_write_63 (by decide) ?_
        refine lv_ior hx hb dX0_write_65 ?_
        obtain ⟨y18, hy18, hF⟩ := bd_some hF
        refine r_bv (va_runV (As := [.int (((Int64.toInt32 ((Int64.toUInt64 u0) >>> ((Int64.toUInt64 (Int32.toInt64 u3)) &&& Int64.toUInt64 63)).toInt64) &&& 255) ||| 85)]) (rest := []) ⟨hx, hb, hml, hown, htA⟩ (m_X3_put l G g ad n a0 aM (r2) y17 (((Int64.toInt32 ((Int64.toUInt64 u0) >>> ((Int64.toUInt64 (Int32.toInt64 u3)) &&& Int64.toUInt64 63)).toInt64) &&& 255) ||| 85) y18 hr2 (by omega) hy18) (cwV 1 htA (gV aw_8 aw_9 aw_10 aw_6 gz_X3_put) rfl rfl rfl (by decide +kernel) ⟨Nat.le_of_ble_eq_true rfl, Nat.le_of_ble_eq_true rfl⟩) (r_preV hK hW (r2) (by omega) (cE_k hr2.1) rfl [.int (((Int64.toInt32 ((Int64.toUInt64 u0) >>> ((Int64.toUInt64 (Int32.toInt64 u3)) &&& Int64.toUInt64 63)).toInt64) &&& 255) ||| 85)]) rfl rfl hl.1 rfl (lv_room (Nat.le_of_ble_eq_true rfl)) dX0_write_66 ⟨Nat.zero_le _, Nat.zero_le _⟩) hW (fun H locs hW => ?_)
        refine lv_iinc (v := (u3 + (-8))) (lv' := [(3, .int (u3 + (-8))), (4, .int ((Int64.toInt32 ((Int64.toUInt64 u0) >>> ((Int64.toUInt64 (Int32.toInt64 u3)) &&& Int64.toUInt64 63)).toInt64) &&& 255)), (0, .long u0), (2, .ref (ad (r2)))]) hx hb dX0_write_69 hl (k := 3) rfl rfl (by decide) rfl (fun ls hl => ?_)
        refine lv_goto (tgt := 36) hx hb dX0_write_72 (by decide) ?_
        exact hB36 y18 u0 (u3 + (-8)) _ _ _  hW (lv_sub hl [2, 3, 0] rfl) hF
  have hL36 := hL36 fu
  have hL26 : ∀ (σ : St) (u0 : Int64) (H : Heap) (locs : List Loc) (ls : Array Slot), Wd G g ad n a0 s.heap σ H locs → lv_has ls 5 [(0, .long u0), (2, .ref (ad (r2)))] → F_X0_write_L26 r2  σ u0 = some x → W p l e (headSpec zs_X0_write ({ frames := 1, cells := 0, slots := 0, locals := 24 } : Room)).room s m ([.long x0, .ref (ad (r2))] : List Value).toArray below meth c H locs 0 0 (MQ below (qV G g ad n a0 x) ([.long x0, .ref (ad (r2))] : List Value).toArray s 0 0 (fun q : Nat => a0 ≤ q)) (F0 m 26 ls []) := by
    intro σ u0 H locs ls hW hl hF
    unfold F_X0_write_L26 at hF
    refine lv_aload_n hx hb dX0_write_26 rfl (lv_at hl 1 rfl) ?_
    refine lv_sipush (v := 170) hx hb dX0_write_27 (by decide) ?_
    obtain ⟨y19, hy19, hF⟩ := bd_some hF
    refine r_bv (va_runV (As := [.int 170]) (rest := []) ⟨hx, hb, hml, hown, htA⟩ (m_X3_put l G g ad n a0 aM (r2) σ 170 y19 hr2 (by omega) hy19) (cwV 1 htA (gV aw_8 aw_9 aw_10 aw_6 gz_X3_put) rfl rfl rfl (by decide +kernel) ⟨Nat.le_of_ble_eq_true rfl, Nat.le_of_ble_eq_true rfl⟩) (r_preV hK hW (r2) (by omega) (cE_k hr2.1) rfl [.int 170]) rfl rfl hl.1 rfl (lv_room (Nat.le_of_ble_eq_true rfl)) dX0_write_30 ⟨Nat.zero_le _, Nat.zero_le _⟩) hW (fun H locs hW => ?_)
    refine lv_bipush (v := 40) hx hb dX0_write_33 (by decide) ?_
    refine lv_istore_n (lv' := [(3, .int 40), (0, .long u0), (2, .ref (ad (r2)))]) hx hb dX0_write_35 rfl hl (by decide) rfl (fun ls hl => ?_)
    exact hL36 y19 u0 40 _ _ _  hW (lv_sub hl [1, 2, 0] rfl) hF
  have hL7 : ∀ (fz7 : Nat) (σ : St) (u0 : Int64) (u3 : Int32) (H : Heap) (locs : List Loc) (ls : Array Slot), Wd G g ad n a0 s.heap σ H locs → lv_has ls 5 [(0, .long u0), (2, .ref (ad (r2))), (3, .int u3)] → F_X0_write_L7 r2 (F_X0_write_L26 r2) fz7 σ u0 u3 = some x → W p l e (headSpec zs_X0_write ({ frames := 1, cells := 0, slots := 0, locals := 24 } : Room)).room s m ([.long x0, .ref (ad (r2))] : List Value).toArray below meth c H locs 0 0 (MQ below (qV G g ad n a0 x) ([.long x0, .ref (ad (r2))] : List Value).toArray s 0 0 (fun q : Nat => a0 ≤ q)) (F0 m 7 ls []) := by
    intro fz7
    induction fz7 with
    | zero =>
      intro σ u0 u3 H locs ls hW hl hF
      exact absurd hF (by simp [F_X0_write_L7])
    | succ fz7 ih =>
      have hB7 := ih
      intro σ u0 u3 H locs ls hW hl hF
      unfold F_X0_write_L7 at hF
      refine lv_iload_n hx hb dX0_write_7 rfl (lv_at hl 2 rfl) ?_
      refine lv_bipush (v := 7) hx hb dX0_write_8 (by decide) ?_
      refine lv_icmp_ge (tgt := 26) hx hb dX0_write_10 (by decide) (fun hc20 => ?_) (fun hc20 => ?_)
      · replace hF := (if_pos hc20).symm.trans hF
        exact hL26 σ u0 _ _ _  hW (lv_sub hl [0, 1] rfl) hF
      · replace hF := (if_neg hc20).symm.trans hF
        refine lv_aload_n hx hb dX0_write_13 rfl (lv_at hl 1 rfl) ?_
        refine lv_sipush (v := 254) hx hb dX0_write_14 (by decide) ?_
        obtain ⟨y21, hy21, hF⟩ := bd_some hF
        refine r_bv (va_runV (As := [.int 254]) (rest := []) ⟨hx, hb, hml, hown, htA⟩ (m_X3_put l G g ad n a0 aM (r2) σ 254 y21 hr2 (by omega) hy21) (cwV 1 htA (gV aw_8 aw_9 aw_10 aw_6 gz_X3_put) rfl rfl rfl (by decide +kernel) ⟨Nat.le_of_ble_eq_true rfl, Nat.le_of_ble_eq_true rfl⟩) (r_preV hK hW (r2) (by omega) (cE_k hr2.1) rfl [.int 254]) rfl rfl hl.1 rfl (lv_room (Nat.le_of_ble_eq_true rfl)) dX0_write_17 ⟨Nat.zero_le _, Nat.zero_le _⟩) hW (fun H locs hW => ?_)
        refine lv_iinc (v := (u3 + 1)) (lv' := [(3, .int (u3 + 1)), (0, .long u0), (2, .ref (ad (r2)))]) hx hb dX0_write_20 hl (k := 2) rfl rfl (by decide) rfl (fun ls hl => ?_)
        refine lv_goto (tgt := 7) hx hb dX0_write_23 (by decide) ?_
        exact hB7 y21 u0 (u3 + 1) _ _ _  hW (lv_sub hl [1, 2, 0] rfl) hF
  have hL7 := hL7 fu
  have hl := lv_entry ([.long x0, .ref (ad (r2))]) (n := 5) (Nat.le_of_ble_eq_true rfl)
  rw [lg_entry_eq]
  generalize (lg_sl ([.long x0, .ref (ad (r2))]) ++ List.replicate (5 - (lg_sl ([.long x0, .ref (ad (r2))])).length) Slot.unset).toArray = ls at hl ⊢
  have hl : lv_has ls 5 [(0, .long x0), (2, .ref (ad (r2)))] := hl
  unfold F_X0_write at hF
  refine lv_aload_n hx hb dX0_write_0 rfl (lv_at hl 1 rfl) ?_
  refine lv_iconst (v := 0) hx hb dX0_write_1 (by decide) ?_
  obtain ⟨y22, hy22, hF⟩ := bd_some hF
  refine r_bv (va_runV (As := [.int 0]) (rest := []) ⟨hx, hb, hml, hown, htA⟩ (m_X3_cut l G g ad n a0 aM (r2) σ 0 y22 hr2 (by omega) hy22) (cwV 1 htA (gV aw_3 aw_4 aw_5 aw_6 gz_X3_cut) rfl rfl rfl (by decide +kernel) ⟨Nat.le_of_ble_eq_true rfl, Nat.le_of_ble_eq_true rfl⟩) (r_preV hK hW (r2) (by omega) (cE_k hr2.1) rfl [.int 0]) rfl rfl hl.1 rfl (lv_room (Nat.le_of_ble_eq_true rfl)) dX0_write_2 ⟨Nat.zero_le _, Nat.zero_le _⟩) hW (fun H locs hW => ?_)
  refine lv_iconst (v := 0) hx hb dX0_write_5 (by decide) ?_
  refine lv_istore_n (lv' := [(3, .int 0), (0, .long x0), (2, .ref (ad (r2)))]) hx hb dX0_write_6 rfl hl (by decide) rfl (fun ls hl => ?_)
  exact hL7 y22 x0 0 _ _ _  hW (lv_sub hl [1, 2, 0] rfl) hF
def F_X0_read_L125 (r0 : Nat) (σ : St) (u1 : Int64) : Option (St × Int64) := (F_X3_sum (r0) σ 8 20).bind (fun y6 => if (lg_cmp (u1 &&& 65535) (Int32.toInt64 y6.2)) = 0 then some (y6.1, ((Int64.toUInt64 u1) >>> ((Int64.toUInt64 (Int32.toInt64 16)) &&& Int64.toUInt64 63)).toInt64) else some (y6.1, (-1)))
def F_X0_read_L103 (r0 : Nat) (σ : St) : Option (St × Int64) := some (σ, (-1))
def F_X0_read_L59 (r0 : Nat) (K103 : St → Option (St × Int64)) (K125 : St → Int64 → Option (St × Int64)) : Nat → St → Int64 → Int32 → Option (St × Int64)
  | 0, _, _, _ => none
  | fz + 1, σ, u1, u3 => if 24 ≤ u3 then K125 σ u1 else (F_X3_at (r0) σ u3).bind (fun y9 => (F_X3_at (r0) y9.1 (u3 + 1)).bind (fun y10 => if (y9.2 &&& 170) = 170 then if (y10.2 &&& 85) = 85 then (F_X0_read_L59 r0 K103 K125 fz) y10.1 ((u1 <<< ((Int32.toInt64 8) &&& 63)) ||| (Int32.toInt64 (y9.2 &&& y10.2))) (u3 + 2) else K103 y10.1 else K103 y10.1))
def F_X0_read_L54 (r0 : Nat) (σ : St) : Option (St × Int64) := F_X0_read_L59 r0 (F_X0_read_L103 r0) (F_X0_read_L125 r0) fu σ 0 8
def F_X0_read_L44 (r0 : Nat) (σ : St) : Option (St × Int64) := some (σ, (-1))
def F_X0_read_L41 (r0 : Nat) (B15 : St → Int32 → Option (St × Int64)) (K44 : St → Option (St × Int64)) (K54 : St → Option (St × Int64)) (σ : St) (u1 : Int32) (z0 : Int32) (z1 : Int32) : Option (St × Int64) := if z1 = z0 then B15 σ (u1 + 1) else K44 σ
def F_X0_read_L15 (r0 : Nat) (K44 : St → Option (St × Int64)) (K54 : St → Option (St × Int64)) : Nat → St → Int32 → Option (St × Int64)
  | 0, _, _ => none
  | fz + 1, σ, u1 => if 8 ≤ u1 then K54 σ else (F_X3_at (r0) σ u1).bind (fun y15 => if 7 ≤ u1 then F_X0_read_L41 r0 (F_X0_read_L15 r0 K44 K54 fz) K44 K54 y15.1 u1 170 y15.2 else F_X0_read_L41 r0 (F_X0_read_L15 r0 K44 K54 fz) K44 K54 y15.1 u1 254 y15.2)
def F_X0_read (r0 : Nat) (σ : St) : Option (St × Int64) := (F_X3_size (r0) σ).bind (fun y17 => if y17.2 = 24 then F_X0_read_L15 r0 (F_X0_read_L44 r0) (F_X0_read_L54 r0) fu y17.1 0 else some (y17.1, (-1)))
set_option maxHeartbeats 4000000 in
set_option maxRecDepth 100000 in
theorem m_X0_read (l : Launch) (G : va_G) (g : Nat → ClassId) (ad : Nat → Nat) (n a0 aM : Nat) (r0 : Nat) (σ : St) (x : St × Int64) (hr0 : isRow r0) (tr0 : r0 + 1 < tp n) (hF : F_X0_read r0 σ = some x) : Met l yX0_read zs_X0_read ({ frames := 1, cells := 0, slots := 0, locals := 24 } : Room) (va_Pc [.ref (ad (r0))] (wP G g ad n a0 aM σ)) (qJ G g ad n a0 x) 0 0 (fun q : Nat => a0 ≤ q) := by
  refine Met.ofW (cc := cX0_read) (maxL := 6) (ret := (some .long)) (by decide) rfl ?_
  intro p e s m args below meth c s₁ B hml hv
  obtain ⟨rfl, hP, hD, hK⟩ := hv
  have hx := B.exec
  have hb := B.bytes
  have hr := B.returns
  have htA : ∀ w ∈ AL, w.before _ s = true := fun w h9 => atoms_spec (ws := zs_X0_read) B.pre w (List.mem_cons_of_mem _ h9)
  have hown : s.vm.findClass RX0 = some m.cls := findClass_of_methodNamed B.named
  have hlocks := B.notSynchronized
  have hW : Wd G g ad n a0 s.heap σ s.heap [] := ⟨hP, hD, va_S.rf⟩
  clear hP hD
  have hL125 : ∀ (σ : St) (u1 : Int64) (H : Heap) (locs : List Loc) (ls : Array Slot), Wd G g ad n a0 s.heap σ H locs → lv_has ls 6 [(0, .ref (ad (r0))), (1, .long u1)] → F_X0_read_L125 r0  σ u1 = some x → W p l e (headSpec zs_X0_read ({ frames := 1, cells := 0, slots := 0, locals := 24 } : Room)).room s m ([.ref (ad (r0))] : List Value).toArray below meth c H locs 0 0 (MQ below (qJ G g ad n a0 x) ([.ref (ad (r0))] : List Value).toArray s 0 0 (fun q : Nat => a0 ≤ q)) (F0 m 125 ls []) := by
    intro σ u1 H locs ls hW hl hF
    unfold F_X0_read_L125 at hF
    refine lv_lload_n hx hb dX0_read_125 rfl (lv_at hl 1 rfl) ?_
    refine lv_ldc2 (v := 65535) hx hb hown (htA _ aw_17) dX0_read_126 ?_
    refine lv_land hx hb dX0_read_129 ?_
    refine lv_aload_n hx hb dX0_read_130 rfl (lv_at hl 0 rfl) ?_
    refine lv_bipush (v := 8) hx hb dX0_read_131 (by decide) ?_
    refine lv_bipush (v := 20) hx hb dX0_read_133 (by decide) ?_
    obtain ⟨y6, hy6, hF⟩ := bd_some hF
    refine r_bi (va_runV (As := [.int 8, .int 20]) (rest := [.long (u1 &&& 65535)]) ⟨hx, hb, hml, hown, htA⟩ (m_X3_sum l G g ad n a0 aM (r0) σ 8 20 y6 hr0 (by omega) hy6) (cwV 2 htA (gV aw_12 aw_13 aw_14 aw_6 gz_X3_sum) rfl rfl rfl (by decide +kernel) ⟨Nat.le_of_ble_eq_true rfl, Nat.le_of_ble_eq_true rfl⟩) (r_preV hK hW (r0) (by omega) (cE_k hr0.1) rfl [.int 8, .int 20]) rfl rfl hl.1 rfl (lv_room (Nat.le_of_ble_eq_true rfl)) dX0_read_135 ⟨Nat.zero_le _, Nat.zero_le _⟩) hW (fun H locs hW => ?_)
    refine lv_i2l (v := (Int32.toInt64 y6.2)) hx hb dX0_read_138 rfl ?_
    refine W.lcmp hx hb dX0_read_139 ?_
    refine lv_if_ne (tgt := 150) hx hb dX0_read_140 (by decide) (fun hc7 => ?_) (fun hc7 => ?_)
    · replace hF := (if_neg hc7).symm.trans hF
      refine lv_ldc2 (v := (-1)) hx hb hown (htA _ aw_16) dX0_read_150 ?_
      exact r_lret hx hb hr hlocks hW hF dX0_read_153
    · replace hF := (if_pos hc7).symm.trans hF
      refine lv_lload_n hx hb dX0_read_143 rfl (lv_at hl 1 rfl) ?_
      refine lv_bipush (v := 16) hx hb dX0_read_144 (by decide) ?_
      refine lv_lushr (v := ((Int64.toUInt64 u1) >>> ((Int64.toUInt64 (Int32.toInt64 16)) &&& Int64.toUInt64 63)).toInt64) hx hb dX0_read_146 rfl ?_
      refine lv_goto (tgt := 153) hx hb dX0_read_147 (by decide) ?_
      exact r_lret hx hb hr hlocks hW hF dX0_read_153
  have hL103 : ∀ (σ : St) (H : Heap) (locs : List Loc) (ls : Array Slot), Wd G g ad n a0 s.heap σ H locs → lv_has ls 6 [] → F_X0_read_L103 r0  σ = some x → W p l e (headSpec zs_X0_read ({ frames := 1, cells := 0, slots := 0, locals := 24 } : Room)).room s m ([.ref (ad (r0))] : List Value).toArray below meth c H locs 0 0 (MQ below (qJ G g ad n a0 x) ([.ref (ad (r0))] : List Value).toArray s 0 0 (fun q : Nat => a0 ≤ q)) (F0 m 103 ls []) := by
    intro σ H locs ls hW hl hF
    unfold F_X0_read_L103 at hF
    refine lv_ldc2 (v := (-1)) hx hb hown (htA _ aw_16) dX0_read_103 ?_
    exact r_lret hx hb hr hlocks hW hF dX0_read_106
  have hL59 : ∀ (fz59 : Nat) (σ : St) (u1 : Int64) (u3 : Int32) (H : Heap) (locs : List Loc) (ls : Array Slot), Wd G g ad n a0 s.heap σ H locs → lv_has ls 6 [(0, .ref (ad (r0))), (1, .long u1), (3, .int u3)] → F_X0_read_L59 r0 (F_X0_read_L103 r0) (F_X0_read_L125 r0) fz59 σ u1 u3 = some x → W p l e (headSpec zs_X0_read ({ frames := 1, cells := 0, slots := 0, locals := 24 } : Room)).room s m ([.ref (ad (r0))] : List Value).toArray below meth c H locs 0 0 (MQ below (qJ G g ad n a0 x) ([.ref (ad (r0))] : List Value).toArray s 0 0 (fun q : Nat => a0 ≤ q)) (F0 m 59 ls []) := by
    intro fz59
    induction fz59 with
    | zero =>
      intro σ u1 u3 H locs ls hW hl hF
      exact absurd hF (by simp [F_X0_read_L59])
    | succ fz59 ih =>
      have hB59 := ih
      intro σ u1 u3 H locs ls hW hl hF
      unfold F_X0_read_L59 at hF
      refine lv_iload_n hx hb dX0_read_59 rfl (lv_at hl 2 rfl) ?_
      refine lv_bipush (v := 24) hx hb dX0_read_60 (by decide) ?_
      refine lv_icmp_ge (tgt := 125) hx hb dX0_read_62 (by decide) (fun hc8 => ?_) (fun hc8 => ?_)
      · replace hF := (if_pos hc8).symm.trans hF
        exact hL125 σ u1 _ _ _  hW (lv_sub hl [0, 1] rfl) hF
      · replace hF := (if_neg hc8).symm.trans hF
        refine lv_aload_n hx hb dX0_read_65 rfl (lv_at hl 0 rfl) ?_
        refine lv_iload_n hx hb dX0_read_66 rfl (lv_at hl 2 rfl) ?_
        obtain ⟨y9, hy9, hF⟩ := bd_some hF
        refine r_bi (va_runV (As := [.int u3]) (rest := []) ⟨hx, hb, hml, hown, htA⟩ (m_X3_at l G g ad n a0 aM (r0) σ u3 y9 hr0 (by omega) hy9) (cwV 1 htA (gV aw_22 aw_23 aw_24 aw_6 gz_X3_at) rfl rfl rfl (by decide +kernel) ⟨Nat.le_of_ble_eq_true rfl, Nat.le_of_ble_eq_true rfl⟩) (r_preV hK hW (r0) (by omega) (cE_k hr0.1) rfl [.int u3]) rfl rfl hl.1 rfl (lv_room (Nat.le_of_ble_eq_true rfl)) dX0_read_67 ⟨Nat.zero_le _, Nat.zero_le _⟩) hW (fun H locs hW => ?_)
        refine lv_istore (lv' := [(4, .int y9.2), (0, .ref (ad (r0))), (1, .long u1), (3, .int u3)]) hx hb dX0_read_70 hl (by decide) rfl (fun ls hl => ?_)
        refine lv_aload_n hx hb dX0_read_72 rfl (lv_at hl 1 rfl) ?_
        refine lv_iload_n hx hb dX0_read_73 rfl (lv_at hl 3 rfl) ?_
        refine lv_iconst (v := 1) hx hb dX0_read_74 (by decide) ?_
        refine lv_iadd hx hb dX0_read_75 ?_
        obtain ⟨y10, hy10, hF⟩ := bd_some hF
        refine r_bi (va_runV (As := [.int (u3 + 1)]) (rest := []) ⟨hx, hb, hml, hown, htA⟩ (m_X3_at l G g ad n a0 aM (r0) y9.1 (u3 + 1) y10 hr0 (by omega) hy10) (cwV 1 htA (gV aw_22 aw_23 aw_24 aw_6 gz_X3_at) rfl rfl rfl (by decide +kernel) ⟨Nat.le_of_ble_eq_true rfl, Nat.le_of_ble_eq_true rfl⟩) (r_preV hK hW (r0) (by omega) (cE_k hr0.1) rfl [.int (u3 + 1)]) rfl rfl hl.1 rfl (lv_room (Nat.le_of_ble_eq_true rfl)) dX0_read_76 ⟨Nat.zero_le _, Nat.zero_le _⟩) hW (fun H locs hW => ?_)
        refine lv_istore (lv' := [(5, .int y10.2), (4, .int y9.2), (0, .ref (ad (r0))), (1, .long u1), (3, .int u3)]) hx hb dX0_read_79 hl (by decide) rfl (fun ls hl => ?_)
        refine lv_iload hx hb dX0_read_81 (lv_at hl 1 rfl) ?_
        refine lv_sipush (v := 170) hx hb dX0_read_83 (by decide) ?_
        refine lv_iand hx hb dX0_read_86 ?_
        refine lv_sipush (v := 170) hx hb dX0_read_87 (by decide) ?_
        refine lv_icmp_ne (tgt := 103) hx hb dX0_read_90 (by decide) (fun hc11 => ?_) (fun hc11 => ?_)
        · replace hF := (if_neg hc11).symm.trans hF
          exact hL103 y10.1 _ _ _  hW (lv_sub hl [] rfl) hF
        · replace hF := (if_pos hc11).symm.trans hF
          refine lv_iload hx hb dX0_read_93 (lv_at hl 0 rfl) ?_
          refine lv_bipush (v := 85) hx hb dX0_read_95 (by decide) ?_
          refine lv_iand hx hb dX0_read_97 ?_
          refine lv_bipush (v := 85) hx hb dX0_read_98 (by decide) ?_
          refine lv_icmp_eq (tgt := 107) hx hb dX0_read_100 (by decide) (fun hc12 => ?_) (fun hc12 => ?_)
          · replace hF := (if_pos hc12).symm.trans hF
            refine lv_lload_n hx hb dX0_read_107 rfl (lv_at hl 3 rfl) ?_
            refine lv_bipush (v := 8) hx hb dX0_read_108 (by decide) ?_
            refine lv_lshl (v := (u1 <<< ((Int32.toInt64 8) &&& 63))) hx hb dX0_read_110 rfl ?_
            refine lv_iload hx hb dX0_read_111 (lv_at hl 1 rfl) ?_
            refine lv_iload hx hb dX0_read_113 (lv_at hl 0 rfl) ?_
            refine lv_iand hx hb dX0_read_115 ?_
            refine lv_i2l (v := (Int32.toInt64 (y9.2 &&& y10.2))) hx hb dX0_read_116 rfl ?_
            refine lv_lor hx hb dX0_read_117 ?_
            refine lv_lstore_n (lv' := [(1, .long ((u1 <<< ((Int32.toInt64 8) &&& 63)) ||| (Int32.toInt64 (y9.2 &&& y10.2)))), (5, .int y10.2), (4, .int y9.2), (0, .ref (ad (r0))), (3, .int u3)]) hx hb dX0_read_118 rfl hl (by decide) rfl (fun ls hl => ?_)
            refine lv_iinc (v := (u3 + 2)) (lv' := [(3, .int (u3 + 2)), (1, .long ((u1 <<< ((Int32.toInt64 8) &&& 63)) ||| (Int32.toInt64 (y9.2 &&& y10.2)))), (5, .int y10.2), (4, .int y9.2), (0, .ref (ad (r0)))]) hx hb dX0_read_119 hl (k := 4) rfl rfl (by decide) rfl (fun ls hl => ?_)
            refine lv_goto (tgt := 59) hx hb dX0_read_122 (by decide) ?_
            exact hB59 y10.1 ((u1 <<< ((Int32.toInt64 8) &&& 63)) ||| (Int32.toInt64 (y9.2 &&& y10.2))) (u3 + 2) _ _ _  hW (lv_sub hl [4, 1, 0] rfl) hF
          · replace hF := (if_neg hc12).symm.trans hF
            exact hL103 y10.1 _ _ _  hW (lv_sub hl [] rfl) hF
  have hL59 := hL59 fu
  have hL54 : ∀ (σ : St) (H : Heap) (locs : List Loc) (ls : Array Slot), Wd G g ad n a0 s.heap σ H locs → lv_has ls 6 [(0, .ref (ad (r0)))] → F_X0_read_L54 r0  σ = some x → W p l e (headSpec zs_X0_read ({ frames := 1, cells := 0, slots := 0, locals := 24 } : Room)).room s m ([.ref (ad (r0))] : List Value).toArray below meth c H locs 0 0 (MQ below (qJ G g ad n a0 x) ([.ref (ad (r0))] : List Value).toArray s 0 0 (fun q : Nat => a0 ≤ q)) (F0 m 54 ls []) := by
    intro σ H locs ls hW hl hF
    unfold F_X0_read_L54 at hF
    refine lv_lconst (v := 0) hx hb dX0_read_54 (by decide) ?_
    refine lv_lstore_n (lv' := [(1, .long 0), (0, .ref (ad (r0)))]) hx hb dX0_read_55 rfl hl (by decide) rfl (fun ls hl => ?_)
    refine lv_bipush (v := 8) hx hb dX0_read_56 (by decide) ?_
    refine lv_istore_n (lv' := [(3, .int 8), (1, .long 0), (0, .ref (ad (r0)))]) hx hb dX0_read_58 rfl hl (by decide) rfl (fun ls hl => ?_)
    exact hL59 σ 0 8 _ _ _  hW (lv_sub hl [2, 1, 0] rfl) hF
  have hL44 : ∀ (σ : St) (H : Heap) (locs : List Loc) (ls : Array Slot), Wd G g ad n a0 s.heap σ H locs → lv_has ls 6 [] → F_X0_read_L44 r0  σ = some x → W p l e (headSpec zs_X0_read ({ frames := 1, cells := 0, slots := 0, locals := 24 } : Room)).room s m ([.ref (ad (r0))] : List Value).toArray below meth c H locs 0 0 (MQ below (qJ G g ad n a0 x) ([.ref (ad (r0))] : List Value).toArray s 0 0 (fun q : Nat => a0 ≤ q)) (F0 m 44 ls []) := by
    intro σ H locs ls hW hl hF
    unfold F_X0_read_L44 at hF
    refine lv_ldc2 (v := (-1)) hx hb hown (htA _ aw_16) dX0_read_44 ?_
    exact r_lret hx hb hr hlocks hW hF dX0_read_47
  have hL15 : ∀ (fz15 : Nat) (σ : St) (u1 : Int32) (H : Heap) (locs : List Loc) (ls : Array Slot), Wd G g ad n a0 s.heap σ H locs → lv_has ls 6 [(0, .ref (ad (r0))), (1, .int u1)] → F_X0_read_L15 r0 (F_X0_read_L44 r0) (F_X0_read_L54 r0) fz15 σ u1 = some x → W p l e (headSpec zs_X0_read ({ frames := 1, cells := 0, slots := 0, locals := 24 } : Room)).room s m ([.ref (ad (r0))] : List Value).toArray below meth c H locs 0 0 (MQ below (qJ G g ad n a0 x) ([.ref (ad (r0))] : List Value).toArray s 0 0 (fun q : Nat => a0 ≤ q)) (F0 m 15 ls []) := by
    intro fz15
    induction fz15 with
    | zero =>
      intro σ u1 H locs ls hW hl hF
      exact absurd hF (by simp [F_X0_read_L15])
    | succ fz15 ih =>
      have hB15 := ih
      have hL41 : ∀ (σ : St) (u1 : Int32) (z0 : Int32) (z1 : Int32) (H : Heap) (locs : List Loc) (ls : Array Slot), Wd G g ad n a0 s.heap σ H locs → lv_has ls 6 [(0, .ref (ad (r0))), (1, .int u1)] → F_X0_read_L41 r0 (F_X0_read_L15 r0 (F_X0_read_L44 r0) (F_X0_read_L54 r0) fz15) (F_X0_read_L44 r0) (F_X0_read_L54 r0) σ u1 z0 z1 = some x → W p l e (headSpec zs_X0_read ({ frames := 1, cells := 0, slots := 0, locals := 24 } : Room)).room s m ([.ref (ad (r0))] : List Value).toArray below meth c H locs 0 0 (MQ below (qJ G g ad n a0 x) ([.ref (ad (r0))] : List Value).toArray s 0 0 (fun q : Nat => a0 ≤ q)) (F0 m 41 ls [.int z0, .int z1]) := by
        intro σ u1 z0 z1 H locs ls hW hl hF
        unfold F_X0_read_L41 at hF
        refine lv_icmp_eq (tgt := 48) hx hb dX0_read_41 (by decide) (fun hc13 => ?_) (fun hc13 => ?_)
        · replace hF := (if_pos hc13).symm.trans hF
          refine lv_iinc (v := (u1 + 1)) (lv' := [(1, .int (u1 + 1)), (0, .ref (ad (r0)))]) hx hb dX0_read_48 hl (k := 1) rfl rfl (by decide) rfl (fun ls hl => ?_)
          refine lv_goto (tgt := 15) hx hb dX0_read_51 (by decide) ?_
          exact hB15 σ (u1 + 1) _ _ _  hW (lv_sub hl [1, 0] rfl) hF
        · replace hF := (if_neg hc13).symm.trans hF
          exact hL44 σ _ _ _  hW (lv_sub hl [] rfl) hF
      intro σ u1 H locs ls hW hl hF
      unfold F_X0_read_L15 at hF
      refine lv_iload_n hx hb dX0_read_15 rfl (lv_at hl 1 rfl) ?_
      refine lv_bipush (v := 8) hx hb dX0_read_16 (by decide) ?_
      refine lv_icmp_ge (tgt := 54) hx hb dX0_read_18 (by decide) (fun hc14 => ?_) (fun hc14 => ?_)
      · replace hF := (if_pos hc14).symm.trans hF
        exact hL54 σ _ _ _  hW (lv_sub hl [0] rfl) hF
      · replace hF := (if_neg hc14).symm.trans hF
        refine lv_aload_n hx hb dX0_read_21 rfl (lv_at hl 0 rfl) ?_
        refine lv_iload_n hx hb dX0_read_22 rfl (lv_at hl 1 rfl) ?_
        obtain ⟨y15, hy15, hF⟩ := bd_some hF
        refine r_bi (va_runV (As := [.int u1]) (rest := []) ⟨hx, hb, hml, hown, htA⟩ (m_X3_at l G g ad n a0 aM (r0) σ u1 y15 hr0 (by omega) hy15) (cwV 1 htA (gV aw_22 aw_23 aw_24 aw_6 gz_X3_at) rfl rfl rfl (by decide +kernel) ⟨Nat.le_of_ble_eq_true rfl, Nat.le_of_ble_eq_true rfl⟩) (r_preV hK hW (r0) (by omega) (cE_k hr0.1) rfl [.int u1]) rfl rfl hl.1 rfl (lv_room (Nat.le_of_ble_eq_true rfl)) dX0_read_23 ⟨Nat.zero_le _, Nat.zero_le _⟩) hW (fun H locs hW => ?_)
        refine lv_iload_n hx hb dX0_read_26 rfl (lv_at hl 1 rfl) ?_
        refine lv_bipush (v := 7) hx hb dX0_read_27 (by decide) ?_
        refine lv_icmp_ge (tgt := 38) hx hb dX0_read_29 (by decide) (fun hc16 => ?_) (fun hc16 => ?_)
        · replace hF := (if_pos hc16).symm.trans hF
          refine lv_sipush (v := 170) hx hb dX0_read_38 (by decide) ?_
          exact hL41 y15.1 u1 170 y15.2 _ _ _  hW (lv_sub hl [0, 1] rfl) hF
        · replace hF := (if_neg hc16).symm.trans hF
          refine lv_sipush (v := 254) hx hb dX0_read_32 (by decide) ?_
          refine lv_goto (tgt := 41) hx hb dX0_read_35 (by decide) ?_
          exact hL41 y15.1 u1 254 y15.2 _ _ _  hW (lv_sub hl [0, 1] rfl) hF
  have hL15 := hL15 fu
  have hl := lv_entry ([.ref (ad (r0))]) (n := 6) (Nat.le_of_ble_eq_true rfl)
  rw [lg_entry_eq]
  generalize (lg_sl ([.ref (ad (r0))]) ++ List.replicate (6 - (lg_sl ([.ref (ad (r0))])).length) Slot.unset).toArray = ls at hl ⊢
  have hl : lv_has ls 6 [(0, .ref (ad (r0)))] := hl
  unfold F_X0_read at hF
  refine lv_aload_n hx hb dX0_read_0 rfl (lv_at hl 0 rfl) ?_
  obtain ⟨y17, hy17, hF⟩ := bd_some hF
  refine r_bi (va_runV (As := []) (rest := []) ⟨hx, hb, hml, hown, htA⟩ (m_X3_size l G g ad n a0 aM (r0) σ y17 hr0 (by omega) hy17) (cwV 0 htA (gV aw_18 aw_19 aw_20 aw_6 gz_X3_size) rfl rfl rfl (by decide +kernel) ⟨Nat.le_of_ble_eq_true rfl, Nat.le_of_ble_eq_true rfl⟩) (r_preV hK hW (r0) (by omega) (cE_k hr0.1) rfl []) rfl rfl hl.1 rfl (lv_room (Nat.le_of_ble_eq_true rfl)) dX0_read_1 ⟨Nat.zero_le _, Nat.zero_le _⟩) hW (fun H locs hW => ?_)
  refine lv_bipush (v := 24) hx hb dX0_read_4 (by decide) ?_
  refine lv_icmp_eq (tgt := 13) hx hb dX0_read_6 (by decide) (fun hc18 => ?_) (fun hc18 => ?_)
  · replace hF := (if_pos hc18).symm.trans hF
    refine lv_iconst (v := 0) hx hb dX0_read_13 (by decide) ?_
    refine lv_istore_n (lv' := [(1, .int 0), (0, .ref (ad (r0)))]) hx hb dX0_read_14 rfl hl (by decide) rfl (fun ls hl => ?_)
    exact hL15 y17.1 0 _ _ _  hW (lv_sub hl [1, 0] rfl) hF
  · replace hF := (if_neg hc18).symm.trans hF
    refine lv_ldc2 (v := (-1)) hx hb hown (htA _ aw_16) dX0_read_9 ?_
    exact r_lret hx hb hr hlocks hW hF dX0_read_12
