def F_X7_thrown (σ : St) : Option (St × Int32) := some (σ, (σ.1 (27) 0))
set_option maxHeartbeats 4000000 in
set_option maxRecDepth 100000 in
theorem m_X7_thrown (l : Launch) (G : va_G) (g : Nat → ClassId) (ad : Nat → Nat) (n a0 aM : Nat) (σ : St) (x : St × Int32) (hF : F_X7_thrown σ = some x) : Met l yX7_thrown zs_X7_thrown ({ frames := 0, cells := 0, slots := 0, locals := 0 } : Room) (va_Pc [.ref (ad (27))] (wP G g ad n a0 aM σ)) (qI G g ad n a0 x) 0 0 (fun q : Nat => a0 ≤ q) := by
  refine Met.ofW (cc := cX7_thrown) (maxL := 1) (ret := (some .int)) (by decide) rfl ?_
  intro p e s m args below meth c s₁ B hml hv
  obtain ⟨rfl, hP, hD, hK⟩ := hv
  have hx := B.exec
  have hb := B.bytes
  have hr := B.returns
  have htA : ∀ w ∈ AL, w.before _ s = true := fun w h9 => atoms_spec (ws := zs_X7_thrown) B.pre w (List.mem_cons_of_mem _ h9)
  have hown : s.vm.findClass RX7 = some m.cls := findClass_of_methodNamed B.named
  have hlocks := B.notSynchronized
  have hW : Wd G g ad n a0 s.heap σ s.heap [] := ⟨hP, hD, va_S.rf⟩
  clear hP hD
  have hl := lv_entry ([.ref (ad (27))]) (n := 1) (Nat.le_of_ble_eq_true rfl)
  rw [lg_entry_eq]
  generalize (lg_sl ([.ref (ad (27))]) ++ List.replicate (1 - (lg_sl ([.ref (ad (27))])).length) Slot.unset).toArray = ls at hl ⊢
  have hl : lv_has ls 1 [(0, .ref (ad (27)))] := hl
  unfold F_X7_thrown at hF
  refine lv_aload_n hx hb dX7_thrown_0 rfl (lv_at hl 0 rfl) ?_
  refine r_get (C := RX7) (T := TX7) (N := 39) hx hb htA ia_X7 hown hK hW (27) (tp_lt (by decide)) (cE_k (rfl : kd 27 = 9)) rfl 0 (by decide) (htA _ aw_379) rfl dX7_thrown_1 ?_
  exact r_iret hx hb hr hlocks hW hF dX7_thrown_4
def F_X7_in (σ : St) (x0 : Int64) (x2 : Int64) (x4 : Int64) : Option (St × Int32) := if (lg_cmp x0 x2) < 0 then some (σ, 0) else if 0 < (lg_cmp x0 x4) then some (σ, 0) else some (σ, 1)
set_option maxHeartbeats 4000000 in
set_option maxRecDepth 100000 in
theorem m_X7_in (l : Launch) (G : va_G) (g : Nat → ClassId) (ad : Nat → Nat) (n a0 aM : Nat) (σ : St) (x0 : Int64) (x2 : Int64) (x4 : Int64) (x : St × Int32) (hF : F_X7_in σ x0 x2 x4 = some x) : Met l yX7_in zs_X7_in ({ frames := 0, cells := 0, slots := 0, locals := 0 } : Room) (va_Pc [.long x0, .long x2, .long x4] (wP G g ad n a0 aM σ)) (qI G g ad n a0 x) 0 0 (fun q : Nat => a0 ≤ q) := by
  refine Met.ofW (cc := cX7_in) (maxL := 6) (ret := (some .boolean)) (by decide) rfl ?_
  intro p e s m args below meth c s₁ B hml hv
  obtain ⟨rfl, hP, hD, hK⟩ := hv
  have hx := B.exec
  have hb := B.bytes
  have hr := B.returns
  have htA : ∀ w ∈ AL, w.before _ s = true := fun w h9 => atoms_spec (ws := zs_X7_in) B.pre w (List.mem_cons_of_mem _ h9)
  have hown : s.vm.findClass RX7 = some m.cls := findClass_of_methodNamed B.named
  have hlocks := B.notSynchronized
  have hW : Wd G g ad n a0 s.heap σ s.heap [] := ⟨hP, hD, va_S.rf⟩
  clear hP hD
  have hl := lv_entry ([.long x0, .long x2, .long x4]) (n := 6) (Nat.le_of_ble_eq_true rfl)
  rw [lg_entry_eq]
  generalize (lg_sl ([.long x0, .long x2, .long x4]) ++ List.replicate (6 - (lg_sl ([.long x0, .long x2, .long x4])).length) Slot.unset).toArray = ls at hl ⊢
  have hl : lv_has ls 6 [(0, .long x0), (2, .long x2), (4, .long x4)] := hl
  unfold F_X7_in at hF
  refine lv_lload_n hx hb dX7_in_0 rfl (lv_at hl 0 rfl) ?_
  refine lv_lload_n hx hb dX7_in_1 rfl (lv_at hl 1 rfl) ?_
  refine W.lcmp hx hb dX7_in_2 ?_
  refine lv_if_lt (tgt := 17) hx hb dX7_in_3 (by decide) (fun hc1 => ?_) (fun hc1 => ?_)
  · replace hF := (if_pos hc1).symm.trans hF
    refine lv_iconst (v := 0) hx hb dX7_in_17 (by decide) ?_
    exact r_zret hx hb hr hlocks hW rfl hF dX7_in_18
  · replace hF := (if_neg hc1).symm.trans hF
    refine lv_lload_n hx hb dX7_in_6 rfl (lv_at hl 0 rfl) ?_
    refine lv_lload hx hb dX7_in_7 (lv_at hl 2 rfl) ?_
    refine W.lcmp hx hb dX7_in_9 ?_
    refine lv_if_gt (tgt := 17) hx hb dX7_in_10 (by decide) (fun hc2 => ?_) (fun hc2 => ?_)
    · replace hF := (if_pos hc2).symm.trans hF
      refine lv_iconst (v := 0) hx hb dX7_in_17 (by decide) ?_
      exact r_zret hx hb hr hlocks hW rfl hF dX7_in_18
    · replace hF := (if_neg hc2).symm.trans hF
      refine lv_iconst (v := 1) hx hb dX7_in_13 (by decide) ?_
      refine lv_goto (tgt := 18) hx hb dX7_in_14 (by decide) ?_
      exact r_zret hx hb hr hlocks hW rfl hF dX7_in_18
def F_X7_goes_L10 (σ : St) (u1 : Int32) (z0 : Int32) : Option (St × Int32) := nm (sI σ (27) 0 z0) (fun w2 => gd (zb u1) (some (w2, u1)))
def F_X7_goes (σ : St) (x1 : Int32) : Option (St × Int32) := if x1 = 0 then F_X7_goes_L10 σ x1 1 else F_X7_goes_L10 σ x1 0
set_option maxHeartbeats 4000000 in
set_option maxRecDepth 100000 in
theorem m_X7_goes (l : Launch) (G : va_G) (g : Nat → ClassId) (ad : Nat → Nat) (n a0 aM : Nat) (σ : St) (x1 : Int32) (x : St × Int32) (hF : F_X7_goes σ x1 = some x) : Met l yX7_goes zs_X7_goes ({ frames := 0, cells := 0, slots := 0, locals := 0 } : Room) (va_Pc [.ref (ad (27)), .int x1] (wP G g ad n a0 aM σ)) (qI G g ad n a0 x) 0 0 (fun q : Nat => a0 ≤ q) := by
  refine Met.ofW (cc := cX7_goes) (maxL := 2) (ret := (some .boolean)) (by decide) rfl ?_
  intro p e s m args below meth c s₁ B hml hv
  obtain ⟨rfl, hP, hD, hK⟩ := hv
  have hx := B.exec
  have hb := B.bytes
  have hr := B.returns
  have htA : ∀ w ∈ AL, w.before _ s = true := fun w h9 => atoms_spec (ws := zs_X7_goes) B.pre w (List.mem_cons_of_mem _ h9)
  have hown : s.vm.findClass RX7 = some m.cls := findClass_of_methodNamed B.named
  have hlocks := B.notSynchronized
  have hW : Wd G g ad n a0 s.heap σ s.heap [] := ⟨hP, hD, va_S.rf⟩
  clear hP hD
  have hL10 : ∀ (σ : St) (u1 : Int32) (z0 : Int32) (H : Heap) (locs : List Loc) (ls : Array Slot), Wd G g ad n a0 s.heap σ H locs → lv_has ls 2 [(1, .int u1)] → F_X7_goes_L10  σ u1 z0 = some x → W p l e (headSpec zs_X7_goes ({ frames := 0, cells := 0, slots := 0, locals := 0 } : Room)).room s m ([.ref (ad (27)), .int x1] : List Value).toArray below meth c H locs 0 0 (MQ below (qI G g ad n a0 x) ([.ref (ad (27)), .int x1] : List Value).toArray s 0 0 (fun q : Nat => a0 ≤ q)) (F0 m 10 ls [.int z0, .ref (ad (27))]) := by
    intro σ u1 z0 H locs ls hW hl hF
    unfold F_X7_goes_L10 at hF
    refine r_putI (C := RX7) (T := TX7) (N := 39) (ty := .int) hx hb htA ia_X7 tyX7 tyX7_ok nmX7 hown hK hW (27) (tp_lt (by decide)) (cE_k (rfl : kd 27 = 9)) rfl 0 (by decide) (cE_k (rfl : kd 27 = 9)) (htA _ aw_379) rfl (by decide +kernel) rfl rfl (Nat.le_of_ble_eq_true rfl) dX7_goes_10 (fun H locs hW => ?_)
    obtain ⟨w2, ew2, hF⟩ := nm_some hF
    rw [← ew2] at hW
    refine lv_iload_n hx hb dX7_goes_13 rfl (lv_at hl 0 rfl) ?_
    obtain ⟨hg3, hF⟩ := gd_some hF
    exact r_zret hx hb hr hlocks hW hg3 hF dX7_goes_14
  have hl := lv_entry ([.ref (ad (27)), .int x1]) (n := 2) (Nat.le_of_ble_eq_true rfl)
  rw [lg_entry_eq]
  generalize (lg_sl ([.ref (ad (27)), .int x1]) ++ List.replicate (2 - (lg_sl ([.ref (ad (27)), .int x1])).length) Slot.unset).toArray = ls at hl ⊢
  have hl : lv_has ls 2 [(0, .ref (ad (27))), (1, .int x1)] := hl
  unfold F_X7_goes at hF
  refine lv_aload_n hx hb dX7_goes_0 rfl (lv_at hl 0 rfl) ?_
  refine lv_iload_n hx hb dX7_goes_1 rfl (lv_at hl 1 rfl) ?_
  refine lv_if_eq (tgt := 9) hx hb dX7_goes_2 (by decide) (fun hc4 => ?_) (fun hc4 => ?_)
  · replace hF := (if_pos hc4).symm.trans hF
    refine lv_iconst (v := 1) hx hb dX7_goes_9 (by decide) ?_
    exact hL10 σ x1 1 _ _ _  hW (lv_sub hl [1] rfl) hF
  · replace hF := (if_neg hc4).symm.trans hF
    refine lv_iconst (v := 0) hx hb dX7_goes_5 (by decide) ?_
    refine lv_goto (tgt := 10) hx hb dX7_goes_6 (by decide) ?_
    exact hL10 σ x1 0 _ _ _  hW (lv_sub hl [1] rfl) hF
def F_X7_idOf (σ : St) (x0 : Int32) (x1 : Int64) : Option (St × Int64) := some (σ, (((Int32.toInt64 x0) <<< ((Int32.toInt64 32) &&& 63)) ||| x1))
set_option maxHeartbeats 4000000 in
set_option maxRecDepth 100000 in
theorem m_X7_idOf (l : Launch) (G : va_G) (g : Nat → ClassId) (ad : Nat → Nat) (n a0 aM : Nat) (σ : St) (x0 : Int32) (x1 : Int64) (x : St × Int64) (hF : F_X7_idOf σ x0 x1 = some x) : Met l yX7_idOf zs_X7_idOf ({ frames := 0, cells := 0, slots := 0, locals := 0 } : Room) (va_Pc [.int x0, .long x1] (wP G g ad n a0 aM σ)) (qJ G g ad n a0 x) 0 0 (fun q : Nat => a0 ≤ q) := by
  refine Met.ofW (cc := cX7_idOf) (maxL := 3) (ret := (some .long)) (by decide) rfl ?_
  intro p e s m args below meth c s₁ B hml hv
  obtain ⟨rfl, hP, hD, hK⟩ := hv
  have hx := B.exec
  have hb := B.bytes
  have hr := B.returns
  have htA : ∀ w ∈ AL, w.before _ s = true := fun w h9 => atoms_spec (ws := zs_X7_idOf) B.pre w (List.mem_cons_of_mem _ h9)
  have hown : s.vm.findClass RX7 = some m.cls := findClass_of_methodNamed B.named
  have hlocks := B.notSynchronized
  have hW : Wd G g ad n a0 s.heap σ s.heap [] := ⟨hP, hD, va_S.rf⟩
  clear hP hD
  have hl := lv_entry ([.int x0, .long x1]) (n := 3) (Nat.le_of_ble_eq_true rfl)
  rw [lg_entry_eq]
  generalize (lg_sl ([.int x0, .long x1]) ++ List.replicate (3 - (lg_sl ([.int x0, .long x1])).length) Slot.unset).toArray = ls at hl ⊢
  have hl : lv_has ls 3 [(0, .int x0), (1, .long x1)] := hl
  unfold F_X7_idOf at hF
  refine lv_iload_n hx hb dX7_idOf_0 rfl (lv_at hl 0 rfl) ?_
  refine lv_i2l (v := (Int32.toInt64 x0)) hx hb dX7_idOf_1 rfl ?_
  refine lv_bipush (v := 32) hx hb dX7_idOf_2 (by decide) ?_
  refine lv_lshl (v := ((Int32.toInt64 x0) <<< ((Int32.toInt64 32) &&& 63))) hx hb dX7_idOf_4 rfl ?_
  refine lv_lload_n hx hb dX7_idOf_5 rfl (lv_at hl 1 rfl) ?_
  refine lv_lor hx hb dX7_idOf_6 ?_
  exact r_lret hx hb hr hlocks hW hF dX7_idOf_7
def F_X7_ownId (σ : St) (x1 : Int32) : Option (St × Int64) := gd (ib x1 (ln (28))) (gd (ib x1 (ln (29))) ((F_X7_idOf σ (σ.1 (28) (Int32.toNatClampNeg x1)) (σ.2 (29) (Int32.toNatClampNeg x1))).bind (fun y6 => some (y6.1, y6.2))))
set_option maxHeartbeats 4000000 in
set_option maxRecDepth 100000 in
theorem m_X7_ownId (l : Launch) (G : va_G) (g : Nat → ClassId) (ad : Nat → Nat) (n a0 aM : Nat) (σ : St) (x1 : Int32) (x : St × Int64) (hF : F_X7_ownId σ x1 = some x) : Met l yX7_ownId zs_X7_ownId ({ frames := 1, cells := 0, slots := 0, locals := 22 } : Room) (va_Pc [.ref (ad (27)), .int x1] (wP G g ad n a0 aM σ)) (qJ G g ad n a0 x) 0 0 (fun q : Nat => a0 ≤ q) := by
  refine Met.ofW (cc := cX7_ownId) (maxL := 2) (ret := (some .long)) (by decide) rfl ?_
  intro p e s m args below meth c s₁ B hml hv
  obtain ⟨rfl, hP, hD, hK⟩ := hv
  have hx := B.exec
  have hb := B.bytes
  have hr := B.returns
  have htA : ∀ w ∈ AL, w.before _ s = true := fun w h9 => atoms_spec (ws := zs_X7_ownId) B.pre w (List.mem_cons_of_mem _ h9)
  have hown : s.vm.findClass RX7 = some m.cls := findClass_of_methodNamed B.named
  have hlocks := B.notSynchronized
  have hW : Wd G g ad n a0 s.heap σ s.heap [] := ⟨hP, hD, va_S.rf⟩
  clear hP hD
  have hl := lv_entry ([.ref (ad (27)), .int x1]) (n := 2) (Nat.le_of_ble_eq_true rfl)
  rw [lg_entry_eq]
  generalize (lg_sl ([.ref (ad (27)), .int x1]) ++ List.replicate (2 - (lg_sl ([.ref (ad (27)), .int x1])).length) Slot.unset).toArray = ls at hl ⊢
  have hl : lv_has ls 2 [(0, .ref (ad (27))), (1, .int x1)] := hl
  unfold F_X7_ownId at hF
  refine lv_aload_n hx hb dX7_ownId_0 rfl (lv_at hl 0 rfl) ?_
  refine r_get (C := RX7) (T := TX7) (N := 39) hx hb htA ia_X7 hown hK hW (27) (tp_lt (by decide)) (cE_k (rfl : kd 27 = 9)) rfl 2 (by decide) (htA _ aw_352) rfl dX7_ownId_1 ?_
  refine lv_iload_n hx hb dX7_ownId_4 rfl (lv_at hl 1 rfl) ?_
  obtain ⟨hg4, hF⟩ := gd_some hF
  refine r_iald hx hb hK hW (28) (tp_lt (by decide)) (rfl : kd 28 = 3) hg4 dX7_ownId_5 ?_
  refine lv_aload_n hx hb dX7_ownId_6 rfl (lv_at hl 0 rfl) ?_
  refine r_get (C := RX7) (T := TX7) (N := 39) hx hb htA ia_X7 hown hK hW (27) (tp_lt (by decide)) (cE_k (rfl : kd 27 = 9)) rfl 3 (by decide) (htA _ aw_353) rfl dX7_ownId_7 ?_
  refine lv_iload_n hx hb dX7_ownId_10 rfl (lv_at hl 1 rfl) ?_
  obtain ⟨hg5, hF⟩ := gd_some hF
  refine r_lald hx hb hK hW (29) (tp_lt (by decide)) (rfl : kd 29 = 7) hg5 dX7_ownId_11 ?_
  obtain ⟨y6, hy6, hF⟩ := bd_some hF
  refine r_bl (va_runS (As := [.int (σ.1 (28) (Int32.toNatClampNeg x1)), .long (σ.2 (29) (Int32.toNatClampNeg x1))]) (rest := []) ⟨hx, hb, hml, hown, htA⟩ (m_X7_idOf l G g ad n a0 aM σ (σ.1 (28) (Int32.toNatClampNeg x1)) (σ.2 (29) (Int32.toNatClampNeg x1)) y6  hy6) (va_cwS 2 htA (gS aw_380 aw_381 aw_382 gz_X7_idOf) rfl rfl rfl (by decide +kernel) ⟨Nat.le_of_ble_eq_true rfl, Nat.le_of_ble_eq_true rfl⟩) (r_pre hK hW [.int (σ.1 (28) (Int32.toNatClampNeg x1)), .long (σ.2 (29) (Int32.toNatClampNeg x1))]) rfl rfl hl.1 rfl (lv_room (Nat.le_of_ble_eq_true rfl)) dX7_ownId_12 ⟨Nat.zero_le _, Nat.zero_le _⟩) hW (fun H locs hW => ?_)
  exact r_lret hx hb hr hlocks hW hF dX7_ownId_15
def F_X7_lamp_L157 (σ : St) (u1 : Int32) (u2 : Int64) (u4 : Int32) (u5 : Int32) (u6 : Int32) (z0 : Int32) : Option (St × Int32) := nm (sI σ (27) 0 z0) (fun w22 => if (w22.1 (27) 0) ≤ 0 then gd (ib (w22.1 (27) 1) (ln (28))) (nm (sI w22 (28) (Int32.toNatClampNeg (w22.1 (27) 1)) u1) (fun w25 => gd (ib (w25.1 (27) 1) (ln (29))) (nm (sJ w25 (29) (Int32.toNatClampNeg (w25.1 (27) 1)) u2) (fun w27 => gd (ib (w27.1 (27) 1) (ln (30))) (nm (sI w27 (30) (Int32.toNatClampNeg (w27.1 (27) 1)) u4) (fun w29 => gd (ib (w29.1 (27) 1) (ln (31))) (nm (sI w29 (31) (Int32.toNatClampNeg (w29.1 (27) 1)) u5) (fun w31 => gd (ib (w31.1 (27) 1) (ln (32))) (nm (sI w31 (32) (Int32.toNatClampNeg (w31.1 (27) 1)) 1) (fun w33 => gd (ib (w33.1 (27) 1) (ln (33))) (nm (sI w33 (33) (Int32.toNatClampNeg (w33.1 (27) 1)) u6) (fun w35 => nm (sI w35 (27) 1 ((w35.1 (27) 1) + 1)) (fun w36 => some (w36, ((w36.1 (27) 1) - 1))))))))))))))) else some (w22, 0))
def F_X7_lamp_L133 (σ : St) (u1 : Int32) (u2 : Int64) (u4 : Int32) (u5 : Int32) (u6 : Int32) (u7 : Int32) : Option (St × Int32) := if u7 = 0 then F_X7_lamp_L157 σ u1 u2 u4 u5 u6 1 else if (σ.1 (27) 1) = 24 then F_X7_lamp_L157 σ u1 u2 u4 u5 u6 2 else F_X7_lamp_L157 σ u1 u2 u4 u5 u6 0
def F_X7_lamp_L83 (K133 : St → Int32 → Int64 → Int32 → Int32 → Int32 → Int32 → Option (St × Int32)) : Nat → St → Int32 → Int64 → Int32 → Int32 → Int32 → Int32 → Int32 → Option (St × Int32)
  | 0, _, _, _, _, _, _, _, _ => none
  | fz + 1, σ, u1, u2, u4, u5, u6, u7, u8 => if (σ.1 (27) 1) ≤ u8 then K133 σ u1 u2 u4 u5 u6 u7 else if u7 = 0 then K133 σ u1 u2 u4 u5 u6 u7 else gd (ib u8 (ln (28))) (if (σ.1 (28) (Int32.toNatClampNeg u8)) = u1 then gd (ib u8 (ln (29))) (if (lg_cmp (σ.2 (29) (Int32.toNatClampNeg u8)) u2) = 0 then (F_X7_lamp_L83 K133 fz) σ u1 u2 u4 u5 u6 0 (u8 + 1) else (F_X7_lamp_L83 K133 fz) σ u1 u2 u4 u5 u6 1 (u8 + 1)) else (F_X7_lamp_L83 K133 fz) σ u1 u2 u4 u5 u6 1 (u8 + 1))
def F_X7_lamp (σ : St) (x1 : Int32) (x2 : Int64) (x4 : Int32) (x5 : Int32) (x6 : Int32) : Option (St × Int32) := (F_X7_in σ (Int32.toInt64 x1) 1 32767).bind (fun y45 => if y45.2 = 0 then F_X7_lamp_L83 F_X7_lamp_L133 fu y45.1 x1 x2 x4 x5 x6 0 0 else (F_X7_in y45.1 x2 0 4294967294).bind (fun y47 => if y47.2 = 0 then F_X7_lamp_L83 F_X7_lamp_L133 fu y47.1 x1 x2 x4 x5 x6 0 0 else (F_X7_in y47.1 (Int32.toInt64 x4) 1 64).bind (fun y49 => if y49.2 = 0 then F_X7_lamp_L83 F_X7_lamp_L133 fu y49.1 x1 x2 x4 x5 x6 0 0 else (F_X7_in y49.1 (Int32.toInt64 x5) 1 8).bind (fun y51 => if y51.2 = 0 then F_X7_lamp_L83 F_X7_lamp_L133 fu y51.1 x1 x2 x4 x5 x6 0 0 else (F_X7_in y51.1 (Int32.toInt64 x6) 1 512).bind (fun y53 => if y53.2 = 0 then F_X7_lamp_L83 F_X7_lamp_L133 fu y53.1 x1 x2 x4 x5 x6 0 0 else if 513 < (x6 + x4) then F_X7_lamp_L83 F_X7_lamp_L133 fu y53.1 x1 x2 x4 x5 x6 0 0 else F_X7_lamp_L83 F_X7_lamp_L133 fu y53.1 x1 x2 x4 x5 x6 1 0)))))
set_option maxHeartbeats 4000000 in
set_option maxRecDepth 100000 in
theorem m_X7_lamp (l : Launch) (G : va_G) (g : Nat → ClassId) (ad : Nat → Nat) (n a0 aM : Nat) (σ : St) (x1 : Int32) (x2 : Int64) (x4 : Int32) (x5 : Int32) (x6 : Int32) (x : St × Int32) (hF : F_X7_lamp σ x1 x2 x4 x5 x6 = some x) : Met l yX7_lamp zs_X7_lamp ({ frames := 1, cells := 0, slots := 0, locals := 25 } : Room) (va_Pc [.ref (ad (27)), .int x1, .long x2, .int x4, .int x5, .int x6] (wP G g ad n a0 aM σ)) (qI G g ad n a0 x) 0 0 (fun q : Nat => a0 ≤ q) := by
  refine Met.ofW (cc := cX7_lamp) (maxL := 9) (ret := (some .int)) (by decide) rfl ?_
  intro p e s m args below meth c s₁ B hml hv
  obtain ⟨rfl, hP, hD, hK⟩ := hv
  have hx := B.exec
  have hb := B.bytes
  have hr := B.returns
  have htA : ∀ w ∈ AL, w.before _ s = true := fun w h9 => atoms_spec (ws := zs_X7_lamp) B.pre w (List.mem_cons_of_mem _ h9)
  have hown : s.vm.findClass RX7 = some m.cls := findClass_of_methodNamed B.named
  have hlocks := B.notSynchronized
  have hW : Wd G g ad n a0 s.heap σ s.heap [] := ⟨hP, hD, va_S.rf⟩
  clear hP hD
  have hL157 : ∀ (σ : St) (u1 : Int32) (u2 : Int64) (u4 : Int32) (u5 : Int32) (u6 : Int32) (z0 : Int32) (H : Heap) (locs : List Loc) (ls : Array Slot), Wd G g ad n a0 s.heap σ H locs → lv_has ls 9 [(0, .ref (ad (27))), (1, .int u1), (2, .long u2), (4, .int u4), (5, .int u5), (6, .int u6)] → F_X7_lamp_L157  σ u1 u2 u4 u5 u6 z0 = some x → W p l e (headSpec zs_X7_lamp ({ frames := 1, cells := 0, slots := 0, locals := 25 } : Room)).room s m ([.ref (ad (27)), .int x1, .long x2, .int x4, .int x5, .int x6] : List Value).toArray below meth c H locs 0 0 (MQ below (qI G g ad n a0 x) ([.ref (ad (27)), .int x1, .long x2, .int x4, .int x5, .int x6] : List Value).toArray s 0 0 (fun q : Nat => a0 ≤ q)) (F0 m 157 ls [.int z0, .ref (ad (27))]) := by
    intro σ u1 u2 u4 u5 u6 z0 H locs ls hW hl hF
    unfold F_X7_lamp_L157 at hF
    refine r_putI (C := RX7) (T := TX7) (N := 39) (ty := .int) hx hb htA ia_X7 tyX7 tyX7_ok nmX7 hown hK hW (27) (tp_lt (by decide)) (cE_k (rfl : kd 27 = 9)) rfl 0 (by decide) (cE_k (rfl : kd 27 = 9)) (htA _ aw_379) rfl (by decide +kernel) rfl rfl (Nat.le_of_ble_eq_true rfl) dX7_lamp_157 (fun H locs hW => ?_)
    obtain ⟨w22, ew22, hF⟩ := nm_some hF
    rw [← ew22] at hW
    refine lv_aload_n hx hb dX7_lamp_160 rfl (lv_at hl 0 rfl) ?_
    refine r_get (C := RX7) (T := TX7) (N := 39) hx hb htA ia_X7 hown hK hW (27) (tp_lt (by decide)) (cE_k (rfl : kd 27 = 9)) rfl 0 (by decide) (htA _ aw_379) rfl dX7_lamp_161 ?_
    refine lv_if_le (tgt := 169) hx hb dX7_lamp_164 (by decide) (fun hc23 => ?_) (fun hc23 => ?_)
    · replace hF := (if_pos hc23).symm.trans hF
      refine lv_aload_n hx hb dX7_lamp_169 rfl (lv_at hl 0 rfl) ?_
      refine r_get (C := RX7) (T := TX7) (N := 39) hx hb htA ia_X7 hown hK hW (27) (tp_lt (by decide)) (cE_k (rfl : kd 27 = 9)) rfl 2 (by decide) (htA _ aw_352) rfl dX7_lamp_170 ?_
      refine lv_aload_n hx hb dX7_lamp_173 rfl (lv_at hl 0 rfl) ?_
      refine r_get (C := RX7) (T := TX7) (N := 39) hx hb htA ia_X7 hown hK hW (27) (tp_lt (by decide)) (cE_k (rfl : kd 27 = 9)) rfl 1 (by decide) (htA _ aw_389) rfl dX7_lamp_174 ?_
      refine lv_iload_n hx hb dX7_lamp_177 rfl (lv_at hl 1 rfl) ?_
      obtain ⟨hg24, hF⟩ := gd_some hF
      refine r_iast hx hb hK hW (28) (tp_lt (by decide)) (rfl : kd 28 = 3) hg24 dX7_lamp_178 (fun H locs hW => ?_)
      obtain ⟨w25, ew25, hF⟩ := nm_some hF
      rw [← ew25] at hW
      refine lv_aload_n hx hb dX7_lamp_179 rfl (lv_at hl 0 rfl) ?_
      refine r_get (C := RX7) (T := TX7) (N := 39) hx hb htA ia_X7 hown hK hW (27) (tp_lt (by decide)) (cE_k (rfl : kd 27 = 9)) rfl 3 (by decide) (htA _ aw_353) rfl dX7_lamp_180 ?_
      refine lv_aload_n hx hb dX7_lamp_183 rfl (lv_at hl 0 rfl) ?_
      refine r_get (C := RX7) (T := TX7) (N := 39) hx hb htA ia_X7 hown hK hW (27) (tp_lt (by decide)) (cE_k (rfl : kd 27 = 9)) rfl 1 (by decide) (htA _ aw_389) rfl dX7_lamp_184 ?_
      refine lv_lload_n hx hb dX7_lamp_187 rfl (lv_at hl 2 rfl) ?_
      obtain ⟨hg26, hF⟩ := gd_some hF
      refine r_last hx hb hK hW (29) (tp_lt (by decide)) (rfl : kd 29 = 7) hg26 dX7_lamp_188 (fun H locs hW => ?_)
      obtain ⟨w27, ew27, hF⟩ := nm_some hF
      rw [← ew27] at hW
      refine lv_aload_n hx hb dX7_lamp_189 rfl (lv_at hl 0 rfl) ?_
      refine r_get (C := RX7) (T := TX7) (N := 39) hx hb htA ia_X7 hown hK hW (27) (tp_lt (by decide)) (cE_k (rfl : kd 27 = 9)) rfl 4 (by decide) (htA _ aw_354) rfl dX7_lamp_190 ?_
      refine lv_aload_n hx hb dX7_lamp_193 rfl (lv_at hl 0 rfl) ?_
      refine r_get (C := RX7) (T := TX7) (N := 39) hx hb htA ia_X7 hown hK hW (27) (tp_lt (by decide)) (cE_k (rfl : kd 27 = 9)) rfl 1 (by decide) (htA _ aw_389) rfl dX7_lamp_194 ?_
      refine lv_iload hx hb dX7_lamp_197 (lv_at hl 3 rfl) ?_
      obtain ⟨hg28, hF⟩ := gd_some hF
      refine r_iast hx hb hK hW (30) (tp_lt (by decide)) (rfl : kd 30 = 3) hg28 dX7_lamp_199 (fun H locs hW => ?_)
      obtain ⟨w29, ew29, hF⟩ := nm_some hF
      rw [← ew29] at hW
      refine lv_aload_n hx hb dX7_lamp_200 rfl (lv_at hl 0 rfl) ?_
      refine r_get (C := RX7) (T := TX7) (N := 39) hx hb htA ia_X7 hown hK hW (27) (tp_lt (by decide)) (cE_k (rfl : kd 27 = 9)) rfl 5 (by decide) (htA _ aw_355) rfl dX7_lamp_201 ?_
      refine lv_aload_n hx hb dX7_lamp_204 rfl (lv_at hl 0 rfl) ?_
      refine r_get (C := RX7) (T := TX7) (N := 39) hx hb htA ia_X7 hown hK hW (27) (tp_lt (by decide)) (cE_k (rfl : kd 27 = 9)) rfl 1 (by decide) (htA _ aw_389) rfl dX7_lamp_205 ?_
      refine lv_iload hx hb dX7_lamp_208 (lv_at hl 4 rfl) ?_
      obtain ⟨hg30, hF⟩ := gd_some hF
      refine r_iast hx hb hK hW (31) (tp_lt (by decide)) (rfl : kd 31 = 3) hg30 dX7_lamp_210 (fun H locs hW => ?_)
      obtain ⟨w31, ew31, hF⟩ := nm_some hF
      rw [← ew31] at hW
      refine lv_aload_n hx hb dX7_lamp_211 rfl (lv_at hl 0 rfl) ?_
      refine r_get (C := RX7) (T := TX7) (N := 39) hx hb htA ia_X7 hown hK hW (27) (tp_lt (by decide)) (cE_k (rfl : kd 27 = 9)) rfl 6 (by decide) (htA _ aw_356) rfl dX7_lamp_212 ?_
      refine lv_aload_n hx hb dX7_lamp_215 rfl (lv_at hl 0 rfl) ?_
      refine r_get (C := RX7) (T := TX7) (N := 39) hx hb htA ia_X7 hown hK hW (27) (tp_lt (by decide)) (cE_k (rfl : kd 27 = 9)) rfl 1 (by decide) (htA _ aw_389) rfl dX7_lamp_216 ?_
      refine lv_iconst (v := 1) hx hb dX7_lamp_219 (by decide) ?_
      obtain ⟨hg32, hF⟩ := gd_some hF
      refine r_iast hx hb hK hW (32) (tp_lt (by decide)) (rfl : kd 32 = 3) hg32 dX7_lamp_220 (fun H locs hW => ?_)
      obtain ⟨w33, ew33, hF⟩ := nm_some hF
      rw [← ew33] at hW
      refine lv_aload_n hx hb dX7_lamp_221 rfl (lv_at hl 0 rfl) ?_
      refine r_get (C := RX7) (T := TX7) (N := 39) hx hb htA ia_X7 hown hK hW (27) (tp_lt (by decide)) (cE_k (rfl : kd 27 = 9)) rfl 7 (by decide) (htA _ aw_357) rfl dX7_lamp_222 ?_
      refine lv_aload_n hx hb dX7_lamp_225 rfl (lv_at hl 0 rfl) ?_
      refine r_get (C := RX7) (T := TX7) (N := 39) hx hb htA ia_X7 hown hK hW (27) (tp_lt (by decide)) (cE_k (rfl : kd 27 = 9)) rfl 1 (by decide) (htA _ aw_389) rfl dX7_lamp_226 ?_
      refine lv_iload hx hb dX7_lamp_229 (lv_at hl 5 rfl) ?_
      obtain ⟨hg34, hF⟩ := gd_some hF
      refine r_iast hx hb hK hW (33) (tp_lt (by decide)) (rfl : kd 33 = 3) hg34 dX7_lamp_231 (fun H locs hW => ?_)
      obtain ⟨w35, ew35, hF⟩ := nm_some hF
      rw [← ew35] at hW
      refine lv_aload_n hx hb dX7_lamp_232 rfl (lv_at hl 0 rfl) ?_
      refine lv_dup hx hb dX7_lamp_233 rfl ?_
      refine r_get (C := RX7) (T := TX7) (N := 39) hx hb htA ia_X7 hown hK hW (27) (tp_lt (by decide)) (cE_k (rfl : kd 27 = 9)) rfl 1 (by decide) (htA _ aw_389) rfl dX7_lamp_234 ?_
      refine lv_iconst (v := 1) hx hb dX7_lamp_237 (by decide) ?_
      refine lv_iadd hx hb dX7_lamp_238 ?_
      refine r_putI (C := RX7) (T := TX7) (N := 39) (ty := .int) hx hb htA ia_X7 tyX7 tyX7_ok nmX7 hown hK hW (27) (tp_lt (by decide)) (cE_k (rfl : kd 27 = 9)) rfl 1 (by decide) (cE_k (rfl : kd 27 = 9)) (htA _ aw_389) rfl (by decide +kernel) rfl rfl (Nat.le_of_ble_eq_true rfl) dX7_lamp_239 (fun H locs hW => ?_)
      obtain ⟨w36, ew36, hF⟩ := nm_some hF
      rw [← ew36] at hW
      refine lv_aload_n hx hb dX7_lamp_242 rfl (lv_at hl 0 rfl) ?_
      refine r_get (C := RX7) (T := TX7) (N := 39) hx hb htA ia_X7 hown hK hW (27) (tp_lt (by decide)) (cE_k (rfl : kd 27 = 9)) rfl 1 (by decide) (htA _ aw_389) rfl dX7_lamp_243 ?_
      refine lv_iconst (v := 1) hx hb dX7_lamp_246 (by decide) ?_
      refine lv_isub hx hb dX7_lamp_247 ?_
      exact r_iret hx hb hr hlocks hW hF dX7_lamp_248
    · replace hF := (if_neg hc23).symm.trans hF
      refine lv_iconst (v := 0) hx hb dX7_lamp_167 (by decide) ?_
      exact r_iret hx hb hr hlocks hW hF dX7_lamp_168
  have hL133 : ∀ (σ : St) (u1 : Int32) (u2 : Int64) (u4 : Int32) (u5 : Int32) (u6 : Int32) (u7 : Int32) (H : Heap) (locs : List Loc) (ls : Array Slot), Wd G g ad n a0 s.heap σ H locs → lv_has ls 9 [(0, .ref (ad (27))), (1, .int u1), (2, .long u2), (4, .int u4), (5, .int u5), (6, .int u6), (7, .int u7)] → F_X7_lamp_L133  σ u1 u2 u4 u5 u6 u7 = some x → W p l e (headSpec zs_X7_lamp ({ frames := 1, cells := 0, slots := 0, locals := 25 } : Room)).room s m ([.ref (ad (27)), .int x1, .long x2, .int x4, .int x5, .int x6] : List Value).toArray below meth c H locs 0 0 (MQ below (qI G g ad n a0 x) ([.ref (ad (27)), .int x1, .long x2, .int x4, .int x5, .int x6] : List Value).toArray s 0 0 (fun q : Nat => a0 ≤ q)) (F0 m 133 ls []) := by
    intro σ u1 u2 u4 u5 u6 u7 H locs ls hW hl hF
    unfold F_X7_lamp_L133 at hF
    refine lv_aload_n hx hb dX7_lamp_133 rfl (lv_at hl 0 rfl) ?_
    refine lv_iload hx hb dX7_lamp_134 (lv_at hl 6 rfl) ?_
    refine lv_if_ne (tgt := 143) hx hb dX7_lamp_136 (by decide) (fun hc37 => ?_) (fun hc37 => ?_)
    · replace hF := (if_neg hc37).symm.trans hF
      refine lv_aload_n hx hb dX7_lamp_143 rfl (lv_at hl 0 rfl) ?_
      refine r_get (C := RX7) (T := TX7) (N := 39) hx hb htA ia_X7 hown hK hW (27) (tp_lt (by decide)) (cE_k (rfl : kd 27 = 9)) rfl 1 (by decide) (htA _ aw_389) rfl dX7_lamp_144 ?_
      refine lv_bipush (v := 24) hx hb dX7_lamp_147 (by decide) ?_
      refine lv_icmp_ne (tgt := 156) hx hb dX7_lamp_149 (by decide) (fun hc38 => ?_) (fun hc38 => ?_)
      · replace hF := (if_neg hc38).symm.trans hF
        refine lv_iconst (v := 0) hx hb dX7_lamp_156 (by decide) ?_
        exact hL157 σ u1 u2 u4 u5 u6 0 _ _ _  hW (lv_sub hl [0, 1, 2, 3, 4, 5] rfl) hF
      · replace hF := (if_pos hc38).symm.trans hF
        refine lv_iconst (v := 2) hx hb dX7_lamp_152 (by decide) ?_
        refine lv_goto (tgt := 157) hx hb dX7_lamp_153 (by decide) ?_
        exact hL157 σ u1 u2 u4 u5 u6 2 _ _ _  hW (lv_sub hl [0, 1, 2, 3, 4, 5] rfl) hF
    · replace hF := (if_pos hc37).symm.trans hF
      refine lv_iconst (v := 1) hx hb dX7_lamp_139 (by decide) ?_
      refine lv_goto (tgt := 157) hx hb dX7_lamp_140 (by decide) ?_
      exact hL157 σ u1 u2 u4 u5 u6 1 _ _ _  hW (lv_sub hl [0, 1, 2, 3, 4, 5] rfl) hF
  have hL83 : ∀ (fz83 : Nat) (σ : St) (u1 : Int32) (u2 : Int64) (u4 : Int32) (u5 : Int32) (u6 : Int32) (u7 : Int32) (u8 : Int32) (H : Heap) (locs : List Loc) (ls : Array Slot), Wd G g ad n a0 s.heap σ H locs → lv_has ls 9 [(0, .ref (ad (27))), (1, .int u1), (2, .long u2), (4, .int u4), (5, .int u5), (6, .int u6), (7, .int u7), (8, .int u8)] → F_X7_lamp_L83 (F_X7_lamp_L133) fz83 σ u1 u2 u4 u5 u6 u7 u8 = some x → W p l e (headSpec zs_X7_lamp ({ frames := 1, cells := 0, slots := 0, locals := 25 } : Room)).room s m ([.ref (ad (27)), .int x1, .long x2, .int x4, .int x5, .int x6] : List Value).toArray below meth c H locs 0 0 (MQ below (qI G g ad n a0 x) ([.ref (ad (27)), .int x1, .long x2, .int x4, .int x5, .int x6] : List Value).toArray s 0 0 (fun q : Nat => a0 ≤ q)) (F0 m 83 ls []) := by
    intro fz83
    induction fz83 with
    | zero =>
      intro σ u1 u2 u4 u5 u6 u7 u8 H locs ls hW hl hF
      exact absurd hF (by simp [F_X7_lamp_L83])
    | succ fz83 ih =>
      have hB83 := ih
      intro σ u1 u2 u4 u5 u6 u7 u8 H locs ls hW hl hF
      unfold F_X7_lamp_L83 at hF
      refine lv_iload hx hb dX7_lamp_83 (lv_at hl 7 rfl) ?_
      refine lv_aload_n hx hb dX7_lamp_85 rfl (lv_at hl 0 rfl) ?_
      refine r_get (C := RX7) (T := TX7) (N := 39) hx hb htA ia_X7 hown hK hW (27) (tp_lt (by decide)) (cE_k (rfl : kd 27 = 9)) rfl 1 (by decide) (htA _ aw_389) rfl dX7_lamp_86 ?_
      refine lv_icmp_ge (tgt := 133) hx hb dX7_lamp_89 (by decide) (fun hc39 => ?_) (fun hc39 => ?_)
      · replace hF := (if_pos hc39).symm.trans hF
        exact hL133 σ u1 u2 u4 u5 u6 u7 _ _ _  hW (lv_sub hl [0, 1, 2, 3, 4, 5, 6] rfl) hF
      · replace hF := (if_neg hc39).symm.trans hF
        refine lv_iload hx hb dX7_lamp_92 (lv_at hl 6 rfl) ?_
        refine lv_if_eq (tgt := 133) hx hb dX7_lamp_94 (by decide) (fun hc40 => ?_) (fun hc40 => ?_)
        · replace hF := (if_pos hc40).symm.trans hF
          exact hL133 σ u1 u2 u4 u5 u6 u7 _ _ _  hW (lv_sub hl [0, 1, 2, 3, 4, 5, 6] rfl) hF
        · replace hF := (if_neg hc40).symm.trans hF
          refine lv_aload_n hx hb dX7_lamp_97 rfl (lv_at hl 0 rfl) ?_
          refine r_get (C := RX7) (T := TX7) (N := 39) hx hb htA ia_X7 hown hK hW (27) (tp_lt (by decide)) (cE_k (rfl : kd 27 = 9)) rfl 2 (by decide) (htA _ aw_352) rfl dX7_lamp_98 ?_
          refine lv_iload hx hb dX7_lamp_101 (lv_at hl 7 rfl) ?_
          obtain ⟨hg41, hF⟩ := gd_some hF
          refine r_iald hx hb hK hW (28) (tp_lt (by decide)) (rfl : kd 28 = 3) hg41 dX7_lamp_103 ?_
          refine lv_iload_n hx hb dX7_lamp_104 rfl (lv_at hl 1 rfl) ?_
          refine lv_icmp_ne (tgt := 120) hx hb dX7_lamp_105 (by decide) (fun hc42 => ?_) (fun hc42 => ?_)
          · replace hF := (if_neg hc42).symm.trans hF
            refine lv_iconst (v := 1) hx hb dX7_lamp_120 (by decide) ?_
            refine lv_goto (tgt := 125) hx hb dX7_lamp_121 (by decide) ?_
            refine lv_istore (lv' := [(7, .int 1), (0, .ref (ad (27))), (1, .int u1), (2, .long u2), (4, .int u4), (5, .int u5), (6, .int u6), (8, .int u8)]) hx hb dX7_lamp_125 hl (by decide) rfl (fun ls hl => ?_)
            refine lv_iinc (v := (u8 + 1)) (lv' := [(8, .int (u8 + 1)), (7, .int 1), (0, .ref (ad (27))), (1, .int u1), (2, .long u2), (4, .int u4), (5, .int u5), (6, .int u6)]) hx hb dX7_lamp_127 hl (k := 7) rfl rfl (by decide) rfl (fun ls hl => ?_)
            refine lv_goto (tgt := 83) hx hb dX7_lamp_130 (by decide) ?_
            exact hB83 σ u1 u2 u4 u5 u6 1 (u8 + 1) _ _ _  hW (lv_sub hl [2, 3, 4, 5, 6, 7, 1, 0] rfl) hF
          · replace hF := (if_pos hc42).symm.trans hF
            refine lv_aload_n hx hb dX7_lamp_108 rfl (lv_at hl 0 rfl) ?_
            refine r_get (C := RX7) (T := TX7) (N := 39) hx hb htA ia_X7 hown hK hW (27) (tp_lt (by decide)) (cE_k (rfl : kd 27 = 9)) rfl 3 (by decide) (htA _ aw_353) rfl dX7_lamp_109 ?_
            refine lv_iload hx hb dX7_lamp_112 (lv_at hl 7 rfl) ?_
            obtain ⟨hg43, hF⟩ := gd_some hF
            refine r_lald hx hb hK hW (29) (tp_lt (by decide)) (rfl : kd 29 = 7) hg43 dX7_lamp_114 ?_
            refine lv_lload_n hx hb dX7_lamp_115 rfl (lv_at hl 2 rfl) ?_
            refine W.lcmp hx hb dX7_lamp_116 ?_
            refine lv_if_eq (tgt := 124) hx hb dX7_lamp_117 (by decide) (fun hc44 => ?_) (fun hc44 => ?_)
            · replace hF := (if_pos hc44).symm.trans hF
              refine lv_iconst (v := 0) hx hb dX7_lamp_124 (by decide) ?_
              refine lv_istore (lv' := [(7, .int 0), (0, .ref (ad (27))), (1, .int u1), (2, .long u2), (4, .int u4), (5, .int u5), (6, .int u6), (8, .int u8)]) hx hb dX7_lamp_125 hl (by decide) rfl (fun ls hl => ?_)
              refine lv_iinc (v := (u8 + 1)) (lv' := [(8, .int (u8 + 1)), (7, .int 0), (0, .ref (ad (27))), (1, .int u1), (2, .long u2), (4, .int u4), (5, .int u5), (6, .int u6)]) hx hb dX7_lamp_127 hl (k := 7) rfl rfl (by decide) rfl (fun ls hl => ?_)
              refine lv_goto (tgt := 83) hx hb dX7_lamp_130 (by decide) ?_
              exact hB83 σ u1 u2 u4 u5 u6 0 (u8 + 1) _ _ _  hW (lv_sub hl [2, 3, 4, 5, 6, 7, 1, 0] rfl) hF
            · replace hF := (if_neg hc44).symm.trans hF
              refine lv_iconst (v := 1) hx hb dX7_lamp_120 (by decide) ?_
              refine lv_goto (tgt := 125) hx hb dX7_lamp_121 (by decide) ?_
              refine lv_istore (lv' := [(7, .int 1), (0, .ref (ad (27))), (1, .int u1), (2, .long u2), (4, .int u4), (5, .int u5), (6, .int u6), (8, .int u8)]) hx hb dX7_lamp_125 hl (by decide) rfl (fun ls hl => ?_)
              refine lv_iinc (v := (u8 + 1)) (lv' := [(8, .int (u8 + 1)), (7, .int 1), (0, .ref (ad (27))), (1, .int u1), (2, .long u2), (4, .int u4), (5, .int u5), (6, .int u6)]) hx hb dX7_lamp_127 hl (k := 7) rfl rfl (by decide) rfl (fun ls hl => ?_)
              refine lv_goto (tgt := 83) hx hb dX7_lamp_130 (by decide) ?_
              exact hB83 σ u1 u2 u4 u5 u6 1 (u8 + 1) _ _ _  hW (lv_sub hl [2, 3, 4, 5, 6, 7, 1, 0] rfl) hF
  have hL83 := hL83 fu
  have hl := lv_entry ([.ref (ad (27)), .int x1, .long x2, .int x4, .int x5, .int x6]) (n := 9) (Nat.le_of_ble_eq_true rfl)
  rw [lg_entry_eq]
  generalize (lg_sl ([.ref (ad (27)), .int x1, .long x2, .int x4, .int x5, .int x6]) ++ List.replicate (9 - (lg_sl ([.ref (ad (27)), .int x1, .long x2, .int x4, .int x5, .int x6])).length) Slot.unset).toArray = ls at hl ⊢
  have hl : lv_has ls 9 [(0, .ref (ad (27))), (1, .int x1), (2, .long x2), (4, .int x4), (5, .int x5), (6, .int x6)] := hl
  unfold F_X7_lamp at hF
  refine lv_iload_n hx hb dX7_lamp_0 rfl (lv_at hl 1 rfl) ?_
  refine lv_i2l (v := (Int32.toInt64 x1)) hx hb dX7_lamp_1 rfl ?_
  refine lv_lconst (v := 1) hx hb dX7_lamp_2 (by decide) ?_
  refine lv_ldc2 (v := 32767) hx hb hown (htA _ aw_384) dX7_lamp_3 ?_
  obtain ⟨y45, hy45, hF⟩ := bd_some hF
  refine r_bi (va_runS (As := [.long (Int32.toInt64 x1), .long 1, .long 32767]) (rest := []) ⟨hx, hb, hml, hown, htA⟩ (m_X7_in l G g ad n a0 aM σ (Int32.toInt64 x1) 1 32767 y45  hy45) (va_cwS 3 htA (gS aw_390 aw_391 aw_382 gz_X7_in) rfl rfl rfl (by decide +kernel) ⟨Nat.le_of_ble_eq_true rfl, Nat.le_of_ble_eq_true rfl⟩) (r_pre hK hW [.long (Int32.toInt64 x1), .long 1, .long 32767]) rfl rfl hl.1 rfl (lv_room (Nat.le_of_ble_eq_true rfl)) dX7_lamp_6 ⟨Nat.zero_le _, Nat.zero_le _⟩) hW (fun H locs hW => ?_)
  refine lv_if_eq (tgt := 77) hx hb dX7_lamp_9 (by decide) (fun hc46 => ?_) (fun hc46 => ?_)
  · replace hF := (if_pos hc46).symm.trans hF
    refine lv_iconst (v := 0) hx hb dX7_lamp_77 (by decide) ?_
    refine lv_istore (lv' := [(7, .int 0), (0, .ref (ad (27))), (1, .int x1), (2, .long x2), (4, .int x4), (5, .int x5), (6, .int x6)]) hx hb dX7_lamp_78 hl (by decide) rfl (fun ls hl => ?_)
    refine lv_iconst (v := 0) hx hb dX7_lamp_80 (by decide) ?_
    refine lv_istore (lv' := [(8, .int 0), (7, .int 0), (0, .ref (ad (27))), (1, .int x1), (2, .long x2), (4, .int x4), (5, .int x5), (6, .int x6)]) hx hb dX7_lamp_81 hl (by decide) rfl (fun ls hl => ?_)
    exact hL83 y45.1 x1 x2 x4 x5 x6 0 0 _ _ _  hW (lv_sub hl [2, 3, 4, 5, 6, 7, 1, 0] rfl) hF
  · replace hF := (if_neg hc46).symm.trans hF
    refine lv_lload_n hx hb dX7_lamp_12 rfl (lv_at hl 2 rfl) ?_
    refine lv_lconst (v := 0) hx hb dX7_lamp_13 (by decide) ?_
    refine lv_ldc2 (v := 4294967294) hx hb hown (htA _ aw_385) dX7_lamp_14 ?_
    obtain ⟨y47, hy47, hF⟩ := bd_some hF
    refine r_bi (va_runS (As := [.long x2, .long 0, .long 4294967294]) (rest := []) ⟨hx, hb, hml, hown, htA⟩ (m_X7_in l G g ad n a0 aM y45.1 x2 0 4294967294 y47  hy47) (va_cwS 3 htA (gS aw_390 aw_391 aw_382 gz_X7_in) rfl rfl rfl (by decide +kernel) ⟨Nat.le_of_ble_eq_true rfl, Nat.le_of_ble_eq_true rfl⟩) (r_pre hK hW [.long x2, .long 0, .long 4294967294]) rfl rfl hl.1 rfl (lv_room (Nat.le_of_ble_eq_true rfl)) dX7_lamp_17 ⟨Nat.zero_le _, Nat.zero_le _⟩) hW (fun H locs hW => ?_)
    refine lv_if_eq (tgt := 77) hx hb dX7_lamp_20 (by decide) (fun hc48 => ?_) (fun hc48 => ?_)
    · replace hF := (if_pos hc48).symm.trans hF
      refine lv_iconst (v := 0) hx hb dX7_lamp_77 (by decide) ?_
      refine lv_istore (lv' := [(7, .int 0), (0, .ref (ad (27))), (1, .int x1), (2, .long x2), (4, .int x4), (5, .int x5), (6, .int x6)]) hx hb dX7_lamp_78 hl (by decide) rfl (fun ls hl => ?_)
      refine lv_iconst (v := 0) hx hb dX7_lamp_80 (by decide) ?_
      refine lv_istore (lv' := [(8, .int 0), (7, .int 0), (0, .ref (ad (27))), (1, .int x1), (2, .long x2), (4, .int x4), (5, .int x5), (6, .int x6)]) hx hb dX7_lamp_81 hl (by decide) rfl (fun ls hl => ?_)
      exact hL83 y47.1 x1 x2 x4 x5 x6 0 0 _ _ _  hW (lv_sub hl [2, 3, 4, 5, 6, 7, 1, 0] rfl) hF
    · replace hF := (if_neg hc48).symm.trans hF
      refine lv_iload hx hb dX7_lamp_23 (lv_at hl 3 rfl) ?_
      refine lv_i2l (v := (Int32.toInt64 x4)) hx hb dX7_lamp_25 rfl ?_
      refine lv_lconst (v := 1) hx hb dX7_lamp_26 (by decide) ?_
      refine lv_ldc2 (v := 64) hx hb hown (htA _ aw_386) dX7_lamp_27 ?_
      obtain ⟨y49, hy49, hF⟩ := bd_some hF
      refine r_bi (va_runS (As := [.long (Int32.toInt64 x4), .long 1, .long 64]) (rest := []) ⟨hx, hb, hml, hown, htA⟩ (m_X7_in l G g ad n a0 aM y47.1 (Int32.toInt64 x4) 1 64 y49  hy49) (va_cwS 3 htA (gS aw_390 aw_391 aw_382 gz_X7_in) rfl rfl rfl (by decide +kernel) ⟨Nat.le_of_ble_eq_true rfl, Nat.le_of_ble_eq_true rfl⟩) (r_pre hK hW [.long (Int32.toInt64 x4), .long 1, .long 64]) rfl rfl hl.1 rfl (lv_room (Nat.le_of_ble_eq_true rfl)) dX7_lamp_30 ⟨Nat.zero_le _, Nat.zero_le _⟩) hW (fun H locs hW => ?_)
      refine lv_if_eq (tgt := 77) hx hb dX7_lamp_33 (by decide) (fun hc50 => ?_) (fun hc50 => ?_)
      · replace hF := (if_pos hc50).symm.trans hF
        refine lv_iconst (v := 0) hx hb dX7_lamp_77 (by decide) ?_
        refine lv_istore (lv' := [(7, .int 0), (0, .ref (ad (27))), (1, .int x1), (2, .long x2), (4, .int x4), (5, .int x5), (6, .int x6)]) hx hb dX7_lamp_78 hl (by decide) rfl (fun ls hl => ?_)
        refine lv_iconst (v := 0) hx hb dX7_lamp_80 (by decide) ?_
        refine lv_istore (lv' := [(8, .int 0), (7, .int 0), (0, .ref (ad (27))), (1, .int x1), (2, .long x2), (4, .int x4), (5, .int x5), (6, .int x6)]) hx hb dX7_lamp_81 hl (by decide) rfl (fun ls hl => ?_)
        exact hL83 y49.1 x1 x2 x4 x5 x6 0 0 _ _ _  hW (lv_sub hl [2, 3, 4, 5, 6, 7, 1, 0] rfl) hF
      · replace hF := (if_neg hc50).symm.trans hF
        refine lv_iload hx hb dX7_lamp_36 (lv_at hl 4 rfl) ?_
        refine lv_i2l (v := (Int32.toInt64 x5)) hx hb dX7_lamp_38 rfl ?_
        refine lv_lconst (v := 1) hx hb dX7_lamp_39 (by decide) ?_
        refine lv_ldc2 (v := 8) hx hb hown (htA _ aw_387) dX7_lamp_40 ?_
        obtain ⟨y51, hy51, hF⟩ := bd_some hF
        refine r_bi (va_runS (As := [.long (Int32.toInt64 x5), .long 1, .long 8]) (rest := []) ⟨hx, hb, hml, hown, htA⟩ (m_X7_in l G g ad n a0 aM y49.1 (Int32.toInt64 x5) 1 8 y51  hy51) (va_cwS 3 htA (gS aw_390 aw_391 aw_382 gz_X7_in) rfl rfl rfl (by decide +kernel) ⟨Nat.le_of_ble_eq_true rfl, Nat.le_of_ble_eq_true rfl⟩) (r_pre hK hW [.long (Int32.toInt64 x5), .long 1, .long 8]) rfl rfl hl.1 rfl (lv_room (Nat.le_of_ble_eq_true rfl)) dX7_lamp_43 ⟨Nat.zero_le _, Nat.zero_le _⟩) hW (fun H locs hW => ?_)
        refine lv_if_eq (tgt := 77) hx hb dX7_lamp_46 (by decide) (fun hc52 => ?_) (fun hc52 => ?_)
        · replace hF := (if_pos hc52).symm.trans hF
          refine lv_iconst (v := 0) hx hb dX7_lamp_77 (by decide) ?_
          refine lv_istore (lv' := [(7, .int 0), (0, .ref (ad (27))), (1, .int x1), (2, .long x2), (4, .int x4), (5, .int x5), (6, .int x6)]) hx hb dX7_lamp_78 hl (by decide) rfl (fun ls hl => ?_)
          refine lv_iconst (v := 0) hx hb dX7_lamp_80 (by decide) ?_
          refine lv_istore (lv' := [(8, .int 0), (7, .int 0), (0, .ref (ad (27))), (1, .int x1), (2, .long x2), (4, .int x4), (5, .int x5), (6, .int x6)]) hx hb dX7_lamp_81 hl (by decide) rfl (fun ls hl => ?_)
          exact hL83 y51.1 x1 x2 x4 x5 x6 0 0 _ _ _  hW (lv_sub hl [2, 3, 4, 5, 6, 7, 1, 0] rfl) hF
        · replace hF := (if_neg hc52).symm.trans hF
          refine lv_iload hx hb dX7_lamp_49 (lv_at hl 5 rfl) ?_
          refine lv_i2l (v := (Int32.toInt64 x6)) hx hb dX7_lamp_51 rfl ?_
          refine lv_lconst (v := 1) hx hb dX7_lamp_52 (by decide) ?_
          refine lv_ldc2 (v := 512) hx hb hown (htA _ aw_388) dX7_lamp_53 ?_
          obtain ⟨y53, hy53, hF⟩ := bd_some hF
          refine r_bi (va_runS (As := [.long (Int32.toInt64 x6), .long 1, .long 512]) (rest := []) ⟨hx, hb, hml, hown, htA⟩ (m_X7_in l G g ad n a0 aM y51.1 (Int32.toInt64 x6) 1 512 y53  hy53) (va_cwS 3 htA (gS aw_390 aw_391 aw_382 gz_X7_in) rfl rfl rfl (by decide +kernel) ⟨Nat.le_of_ble_eq_true rfl, Nat.le_of_ble_eq_true rfl⟩) (r_pre hK hW [.long (Int32.toInt64 x6), .long 1, .long 512]) rfl rfl hl.1 rfl (lv_room (Nat.le_of_ble_eq_true rfl)) dX7_lamp_56 ⟨Nat.zero_le _, Nat.zero_le _⟩) hW (fun H locs hW => ?_)
          refine lv_if_eq (tgt := 77) hx hb dX7_lamp_59 (by decide) (fun hc54 => ?_) (fun hc54 => ?_)
          · replace hF := (if_pos hc54).symm.trans hF
            refine lv_iconst (v := 0) hx hb dX7_lamp_77 (by decide) ?_
            refine lv_istore (lv' := [(7, .int 0), (0, .ref (ad (27))), (1, .int x1), (2, .long x2), (4, .int x4), (5, .int x5), (6, .int x6)]) hx hb dX7_lamp_78 hl (by decide) rfl (fun ls hl => ?_)
            refine lv_iconst (v := 0) hx hb dX7_lamp_80 (by decide) ?_
            refine lv_istore (lv' := [(8, .int 0), (7, .int 0), (0, .ref (ad (27))), (1, .int x1), (2, .long x2), (4, .int x4), (5, .int x5), (6, .int x6)]) hx hb dX7_lamp_81 hl (by decide) rfl (fun ls hl => ?_)
            exact hL83 y53.1 x1 x2 x4 x5 x6 0 0 _ _ _  hW (lv_sub hl [2, 3, 4, 5, 6, 7, 1, 0] rfl) hF
          · replace hF := (if_neg hc54).symm.trans hF
            refine lv_iload hx hb dX7_lamp_62 (lv_at hl 5 rfl) ?_
            refine lv_iload hx hb dX7_lamp_64 (lv_at hl 3 rfl) ?_
            refine lv_iadd hx hb dX7_lamp_66 ?_
            refine lv_sipush (v := 513) hx hb dX7_lamp_67 (by decide) ?_
            refine lv_icmp_gt (tgt := 77) hx hb dX7_lamp_70 (by decide) (fun hc55 => ?_) (fun hc55 => ?_)
            · replace hF := (if_pos hc55).symm.trans hF
              refine lv_iconst (v := 0) hx hb dX7_lamp_77 (by decide) ?_
              refine lv_istore (lv' := [(7, .int 0), (0, .ref (ad (27))), (1, .int x1), (2, .long x2), (4, .int x4), (5, .int x5), (6, .int x6)]) hx hb dX7_lamp_78 hl (by decide) rfl (fun ls hl => ?_)
              refine lv_iconst (v := 0) hx hb dX7_lamp_80 (by decide) ?_
              refine lv_istore (lv' := [(8, .int 0), (7, .int 0), (0, .ref (ad (27))), (1, .int x1), (2, .long x2), (4, .int x4), (5, .int x5), (6, .int x6)]) hx hb dX7_lamp_81 hl (by decide) rfl (fun ls hl => ?_)
              exact hL83 y53.1 x1 x2 x4 x5 x6 0 0 _ _ _  hW (lv_sub hl [2, 3, 4, 5, 6, 7, 1, 0] rfl) hF
            · replace hF := (if_neg hc55).symm.trans hF
              refine lv_iconst (v := 1) hx hb dX7_lamp_73 (by decide) ?_
              refine lv_goto (tgt := 78) hx hb dX7_lamp_74 (by decide) ?_
              refine lv_istore (lv' := [(7, .int 1), (0, .ref (ad (27))), (1, .int x1), (2, .long x2), (4, .int x4), (5, .int x5), (6, .int x6)]) hx hb dX7_lamp_78 hl (by decide) rfl (fun ls hl => ?_)
              refine lv_iconst (v := 0) hx hb dX7_lamp_80 (by decide) ?_
              refine lv_istore (lv' := [(8, .int 0), (7, .int 1), (0, .ref (ad (27))), (1, .int x1), (2, .long x2), (4, .int x4), (5, .int x5), (6, .int x6)]) hx hb dX7_lamp_81 hl (by decide) rfl (fun ls hl => ?_)
              exact hL83 y53.1 x1 x2 x4 x5 x6 1 0 _ _ _  hW (lv_sub hl [2, 3, 4, 5, 6, 7, 1, 0] rfl) hF
def F_X7_feed_L124 (σ : St) : Option (St × Int32) := some (σ, (σ.1 (27) 20))
def F_X7_feed_L83 (B30 : St → Int32 → Int32 → Int32 → Int32 → Int32 → Int32 → Option (St × Int32)) (K124 : St → Option (St × Int32)) (σ : St) (u1 : Int32) (u2 : Int32) (u3 : Int32) (u4 : Int32) (u5 : Int32) (u6 : Int32) (z0 : Int32) : Option (St × Int32) := gd (ib (σ.1 (27) 20) (ln (45))) (nm (sI σ (45) (Int32.toNatClampNeg (σ.1 (27) 20)) (vp_nar .byte (Int8.toInt32 (Int32.toInt8 (z0 >>> ((24 - (8 * (u6 - u6 / 4 * 4))) &&& 31)))))) (fun w6 => nm (sI w6 (27) 20 ((w6.1 (27) 20) + 1)) (fun w7 => B30 w7 u1 u2 u3 u4 u5 (u6 + 1))))
def F_X7_feed_L30 (K124 : St → Option (St × Int32)) : Nat → St → Int32 → Int32 → Int32 → Int32 → Int32 → Int32 → Option (St × Int32)
  | 0, _, _, _, _, _, _, _ => none
  | fz + 1, σ, u1, u2, u3, u4, u5, u6 => if 20 ≤ u6 then K124 σ else if 4 ≤ u6 then if 8 ≤ u6 then if 12 ≤ u6 then if 16 ≤ u6 then F_X7_feed_L83 (F_X7_feed_L30 K124 fz) K124 σ u1 u2 u3 u4 u5 u6 u5 else F_X7_feed_L83 (F_X7_feed_L30 K124 fz) K124 σ u1 u2 u3 u4 u5 u6 u4 else F_X7_feed_L83 (F_X7_feed_L30 K124 fz) K124 σ u1 u2 u3 u4 u5 u6 u3 else F_X7_feed_L83 (F_X7_feed_L30 K124 fz) K124 σ u1 u2 u3 u4 u5 u6 u2 else F_X7_feed_L83 (F_X7_feed_L30 K124 fz) K124 σ u1 u2 u3 u4 u5 u6 u1
def F_X7_feed_L19 (σ : St) (u1 : Int32) (u2 : Int32) (u3 : Int32) (u4 : Int32) (u5 : Int32) (z0 : Int32) : Option (St × Int32) := (F_X7_goes σ z0).bind (fun y13 => if y13.2 = 0 then some (y13.1, 0) else F_X7_feed_L30 F_X7_feed_L124 fu y13.1 u1 u2 u3 u4 u5 0)
def F_X7_feed (σ : St) (x1 : Int32) (x2 : Int32) (x3 : Int32) (x4 : Int32) (x5 : Int32) : Option (St × Int32) := if 520 < ((σ.1 (27) 20) + 20) then F_X7_feed_L19 σ x1 x2 x3 x4 x5 0 else F_X7_feed_L19 σ x1 x2 x3 x4 x5 1
set_option maxHeartbeats 4000000 in
set_option maxRecDepth 100000 in
theorem m_X7_feed (l : Launch) (G : va_G) (g : Nat → ClassId) (ad : Nat → Nat) (n a0 aM : Nat) (σ : St) (x1 : Int32) (x2 : Int32) (x3 : Int32) (x4 : Int32) (x5 : Int32) (x : St × Int32) (hF : F_X7_feed σ x1 x2 x3 x4 x5 = some x) : Met l yX7_feed zs_X7_feed ({ frames := 1, cells := 0, slots := 0, locals := 21 } : Room) (va_Pc [.ref (ad (27)), .int x1, .int x2, .int x3, .int x4, .int x5] (wP G g ad n a0 aM σ)) (qI G g ad n a0 x) 0 0 (fun q : Nat => a0 ≤ q) := by
  refine Met.ofW (cc := cX7_feed) (maxL := 8) (ret := (some .int)) (by decide) rfl ?_
  intro p e s m args below meth c s₁ B hml hv
  obtain ⟨rfl, hP, hD, hK⟩ := hv
  have hx := B.exec
  have hb := B.bytes
  have hr := B.returns
  have htA : ∀ w ∈ AL, w.before _ s = true := fun w h9 => atoms_spec (ws := zs_X7_feed) B.pre w (List.mem_cons_of_mem _ h9)
  have hown : s.vm.findClass RX7 = some m.cls := findClass_of_methodNamed B.named
  have hlocks := B.notSynchronized
  have hW : Wd G g ad n a0 s.heap σ s.heap [] := ⟨hP, hD, va_S.rf⟩
  clear hP hD
  have hL124 : ∀ (σ : St) (H : Heap) (locs : List Loc) (ls : Array Slot), Wd G g ad n a0 s.heap σ H locs → lv_has ls 8 [(0, .ref (ad (27)))] → F_X7_feed_L124  σ = some x → W p l e (headSpec zs_X7_feed ({ frames := 1, cells := 0, slots := 0, locals := 21 } : Room)).room s m ([.ref (ad (27)), .int x1, .int x2, .int x3, .int x4, .int x5] : List Value).toArray below meth c H locs 0 0 (MQ below (qI G g ad n a0 x) ([.ref (ad (27)), .int x1, .int x2, .int x3, .int x4, .int x5] : List Value).toArray s 0 0 (fun q : Nat => a0 ≤ q)) (F0 m 124 ls []) := by
    intro σ H locs ls hW hl hF
    unfold F_X7_feed_L124 at hF
    refine lv_aload_n hx hb dX7_feed_124 rfl (lv_at hl 0 rfl) ?_
    refine r_get (C := RX7) (T := TX7) (N := 39) hx hb htA ia_X7 hown hK hW (27) (tp_lt (by decide)) (cE_k (rfl : kd 27 = 9)) rfl 20 (by decide) (htA _ aw_393) rfl dX7_feed_125 ?_
    exact r_iret hx hb hr hlocks hW hF dX7_feed_128
  have hL30 : ∀ (fz30 : Nat) (σ : St) (u1 : Int32) (u2 : Int32) (u3 : Int32) (u4 : Int32) (u5 : Int32) (u6 : Int32) (H : Heap) (locs : List Loc) (ls : Array Slot), Wd G g ad n a0 s.heap σ H locs → lv_has ls 8 [(0, .ref (ad (27))), (1, .int u1), (2, .int u2), (3, .int u3), (4, .int u4), (5, .int u5), (6, .int u6)] → F_X7_feed_L30 (F_X7_feed_L124) fz30 σ u1 u2 u3 u4 u5 u6 = some x → W p l e (headSpec zs_X7_feed ({ frames := 1, cells := 0, slots := 0, locals := 21 } : Room)).room s m ([.ref (ad (27)), .int x1, .int x2, .int x3, .int x4, .int x5] : List Value).toArray below meth c H locs 0 0 (MQ below (qI G g ad n a0 x) ([.ref (ad (27)), .int x1, .int x2, .int x3, .int x4, .int x5] : List Value).toArray s 0 0 (fun q : Nat => a0 ≤ q)) (F0 m 30 ls []) := by
    intro fz30
    induction fz30 with
    | zero =>
      intro σ u1 u2 u3 u4 u5 u6 H locs ls hW hl hF
      exact absurd hF (by simp [F_X7_feed_L30])
    | succ fz30 ih =>
      have hB30 := ih
      have hL83 : ∀ (σ : St) (u1 : Int32) (u2 : Int32) (u3 : Int32) (u4 : Int32) (u5 : Int32) (u6 : Int32) (z0 : Int32) (H : Heap) (locs : List Loc) (ls : Array Slot), Wd G g ad n a0 s.heap σ H locs → lv_has ls 8 [(0, .ref (ad (27))), (1, .int u1), (2, .int u2), (3, .int u3), (4, .int u4), (5, .int u5), (6, .int u6)] → F_X7_feed_L83 (F_X7_feed_L30 (F_X7_feed_L124) fz30) (F_X7_feed_L124) σ u1 u2 u3 u4 u5 u6 z0 = some x → W p l e (headSpec zs_X7_feed ({ frames := 1, cells := 0, slots := 0, locals := 21 } : Room)).room s m ([.ref (ad (27)), .int x1, .int x2, .int x3, .int x4, .int x5] : List Value).toArray below meth c H locs 0 0 (MQ below (qI G g ad n a0 x) ([.ref (ad (27)), .int x1, .int x2, .int x3, .int x4, .int x5] : List Value).toArray s 0 0 (fun q : Nat => a0 ≤ q)) (F0 m 83 ls [.int z0]) := by
        intro σ u1 u2 u3 u4 u5 u6 z0 H locs ls hW hl hF
        unfold F_X7_feed_L83 at hF
        refine lv_istore (lv' := [(7, .int z0), (0, .ref (ad (27))), (1, .int u1), (2, .int u2), (3, .int u3), (4, .int u4), (5, .int u5), (6, .int u6)]) hx hb dX7_feed_83 hl (by decide) rfl (fun ls hl => ?_)
        refine lv_aload_n hx hb dX7_feed_85 rfl (lv_at hl 1 rfl) ?_
        refine r_get (C := RX7) (T := TX7) (N := 39) hx hb htA ia_X7 hown hK hW (27) (tp_lt (by decide)) (cE_k (rfl : kd 27 = 9)) rfl 19 (by decide) (htA _ aw_370) rfl dX7_feed_86 ?_
        refine lv_aload_n hx hb dX7_feed_89 rfl (lv_at hl 1 rfl) ?_
        refine r_get (C := RX7) (T := TX7) (N := 39) hx hb htA ia_X7 hown hK hW (27) (tp_lt (by decide)) (cE_k (rfl : kd 27 = 9)) rfl 20 (by decide) (htA _ aw_393) rfl dX7_feed_90 ?_
        refine lv_iload hx hb dX7_feed_93 (lv_at hl 0 rfl) ?_
        refine lv_bipush (v := 24) hx hb dX7_feed_95 (by decide) ?_
        refine lv_bipush (v := 8) hx hb dX7_feed_97 (by decide) ?_
        refine lv_iload hx hb dX7_feed_99 (lv_at hl 7 rfl) ?_
        refine lv_iconst (v := 4) hx hb dX7_feed_101 (by decide) ?_
        refine lv_irem hx hb dX7_feed_102 (by decide) ?_
        refine lv_imul hx hb dX7_feed_103 ?_
        refine lv_isub hx hb dX7_feed_104 ?_
        refine lv_ishr hx hb dX7_feed_105 ?_
        refine lv_i2b (v := (Int8.toInt32 (Int32.toInt8 (z0 >>> ((24 - (8 * (u6 - u6 / 4 * 4))) &&& 31))))) hx hb dX7_feed_106 rfl ?_
        obtain ⟨hg5, hF⟩ := gd_some hF
        refine r_bast hx hb hK hW (45) (tp_lt (by decide)) (rfl : kd 45 = 10) hg5 dX7_feed_107 (fun H locs hW => ?_)
        obtain ⟨w6, ew6, hF⟩ := nm_some hF
        rw [← ew6] at hW
        refine lv_aload_n hx hb dX7_feed_108 rfl (lv_at hl 1 rfl) ?_
        refine lv_dup hx hb dX7_feed_109 rfl ?_
        refine r_get (C := RX7) (T := TX7) (N := 39) hx hb htA ia_X7 hown hK hW (27) (tp_lt (by decide)) (cE_k (rfl : kd 27 = 9)) rfl 20 (by decide) (htA _ aw_393) rfl dX7_feed_110 ?_
        refine lv_iconst (v := 1) hx hb dX7_feed_113 (by decide) ?_
        refine lv_iadd hx hb dX7_feed_114 ?_
        refine r_putI (C := RX7) (T := TX7) (N := 39) (ty := .int) hx hb htA ia_X7 tyX7 tyX7_ok nmX7 hown hK hW (27) (tp_lt (by decide)) (cE_k (rfl : kd 27 = 9)) rfl 20 (by decide) (cE_k (rfl : kd 27 = 9)) (htA _ aw_393) rfl (by decide +kernel) rfl rfl (Nat.le_of_ble_eq_true rfl) dX7_feed_115 (fun H locs hW => ?_)
        obtain ⟨w7, ew7, hF⟩ := nm_some hF
        rw [← ew7] at hW
        refine lv_iinc (v := (u6 + 1)) (lv' := [(6, .int (u6 + 1)), (7, .int z0), (0, .ref (ad (27))), (1, .int u1), (2, .int u2), (3, .int u3), (4, .int u4), (5, .int u5)]) hx hb dX7_feed_118 hl (k := 7) rfl rfl (by decide) rfl (fun ls hl => ?_)
        refine lv_goto (tgt := 30) hx hb dX7_feed_121 (by decide) ?_
        exact hB30 w7 u1 u2 u3 u4 u5 (u6 + 1) _ _ _  hW (lv_sub hl [2, 3, 4, 5, 6, 7, 0] rfl) hF
      intro σ u1 u2 u3 u4 u5 u6 H locs ls hW hl hF
      unfold F_X7_feed_L30 at hF
      refine lv_iload hx hb dX7_feed_30 (lv_at hl 6 rfl) ?_
      refine lv_bipush (v := 20) hx hb dX7_feed_32 (by decide) ?_
      refine lv_icmp_ge (tgt := 124) hx hb dX7_feed_34 (by decide) (fun hc8 => ?_) (fun hc8 => ?_)
      · replace hF := (if_pos hc8).symm.trans hF
        exact hL124 σ _ _ _  hW (lv_sub hl [0] rfl) hF
      · replace hF := (if_neg hc8).symm.trans hF
        refine lv_iload hx hb dX7_feed_37 (lv_at hl 6 rfl) ?_
        refine lv_iconst (v := 4) hx hb dX7_feed_39 (by decide) ?_
        refine lv_icmp_ge (tgt := 47) hx hb dX7_feed_40 (by decide) (fun hc9 => ?_) (fun hc9 => ?_)
        · replace hF := (if_pos hc9).symm.trans hF
          refine lv_iload hx hb dX7_feed_47 (lv_at hl 6 rfl) ?_
          refine lv_bipush (v := 8) hx hb dX7_feed_49 (by decide) ?_
          refine lv_icmp_ge (tgt := 58) hx hb dX7_feed_51 (by decide) (fun hc10 => ?_) (fun hc10 => ?_)
          · replace hF := (if_pos hc10).symm.trans hF
            refine lv_iload hx hb dX7_feed_58 (lv_at hl 6 rfl) ?_
            refine lv_bipush (v := 12) hx hb dX7_feed_60 (by decide) ?_
            refine lv_icmp_ge (tgt := 69) hx hb dX7_feed_62 (by decide) (fun hc11 => ?_) (fun hc11 => ?_)
            · replace hF := (if_pos hc11).symm.trans hF
              refine lv_iload hx hb dX7_feed_69 (lv_at hl 6 rfl) ?_
              refine lv_bipush (v := 16) hx hb dX7_feed_71 (by decide) ?_
              refine lv_icmp_ge (tgt := 81) hx hb dX7_feed_73 (by decide) (fun hc12 => ?_) (fun hc12 => ?_)
              · replace hF := (if_pos hc12).symm.trans hF
                refine lv_iload hx hb dX7_feed_81 (lv_at hl 5 rfl) ?_
                exact hL83 σ u1 u2 u3 u4 u5 u6 u5 _ _ _  hW (lv_sub hl [0, 1, 2, 3, 4, 5, 6] rfl) hF
              · replace hF := (if_neg hc12).symm.trans hF
                refine lv_iload hx hb dX7_feed_76 (lv_at hl 4 rfl) ?_
                refine lv_goto (tgt := 83) hx hb dX7_feed_78 (by decide) ?_
                exact hL83 σ u1 u2 u3 u4 u5 u6 u4 _ _ _  hW (lv_sub hl [0, 1, 2, 3, 4, 5, 6] rfl) hF
            · replace hF := (if_neg hc11).symm.trans hF
              refine lv_iload_n hx hb dX7_feed_65 rfl (lv_at hl 3 rfl) ?_
              refine lv_goto (tgt := 83) hx hb dX7_feed_66 (by decide) ?_
              exact hL83 σ u1 u2 u3 u4 u5 u6 u3 _ _ _  hW (lv_sub hl [0, 1, 2, 3, 4, 5, 6] rfl) hF
          · replace hF := (if_neg hc10).symm.trans hF
            refine lv_iload_n hx hb dX7_feed_54 rfl (lv_at hl 2 rfl) ?_
            refine lv_goto (tgt := 83) hx hb dX7_feed_55 (by decide) ?_
            exact hL83 σ u1 u2 u3 u4 u5 u6 u2 _ _ _  hW (lv_sub hl [0, 1, 2, 3, 4, 5, 6] rfl) hF
        · replace hF := (if_neg hc9).symm.trans hF
          refine lv_iload_n hx hb dX7_feed_43 rfl (lv_at hl 1 rfl) ?_
          refine lv_goto (tgt := 83) hx hb dX7_feed_44 (by decide) ?_
          exact hL83 σ u1 u2 u3 u4 u5 u6 u1 _ _ _  hW (lv_sub hl [0, 1, 2, 3, 4, 5, 6] rfl) hF
  have hL30 := hL30 fu
  have hL19 : ∀ (σ : St) (u1 : Int32) (u2 : Int32) (u3 : Int32) (u4 : Int32) (u5 : Int32) (z0 : Int32) (H : Heap) (locs : List Loc) (ls : Array Slot), Wd G g ad n a0 s.heap σ H locs → lv_has ls 8 [(0, .ref (ad (27))), (1, .int u1), (2, .int u2), (3, .int u3), (4, .int u4), (5, .int u5)] → F_X7_feed_L19  σ u1 u2 u3 u4 u5 z0 = some x → W p l e (headSpec zs_X7_feed ({ frames := 1, cells := 0, slots := 0, locals := 21 } : Room)).room s m ([.ref (ad (27)), .int x1, .int x2, .int x3, .int x4, .int x5] : List Value).toArray below meth c H locs 0 0 (MQ below (qI G g ad n a0 x) ([.ref (ad (27)), .int x1, .int x2, .int x3, .int x4, .int x5] : List Value).toArray s 0 0 (fun q : Nat => a0 ≤ q)) (F0 m 19 ls [.int z0, .ref (ad (27))]) := by
    intro σ u1 u2 u3 u4 u5 z0 H locs ls hW hl hF
    unfold F_X7_feed_L19 at hF
    obtain ⟨y13, hy13, hF⟩ := bd_some hF
    refine r_bi (va_runV (As := [.int z0]) (rest := []) ⟨hx, hb, hml, hown, htA⟩ (m_X7_goes l G g ad n a0 aM σ z0 y13  hy13) (cwV 1 htA (gV aw_394 aw_395 aw_396 aw_382 gz_X7_goes) rfl rfl rfl (by decide +kernel) ⟨Nat.le_of_ble_eq_true rfl, Nat.le_of_ble_eq_true rfl⟩) (r_preV hK hW (27) (tp_lt (by decide)) (cE_k (rfl : kd 27 = 9)) rfl [.int z0]) rfl rfl hl.1 rfl (lv_room (Nat.le_of_ble_eq_true rfl)) dX7_feed_19 ⟨Nat.zero_le _, Nat.zero_le _⟩) hW (fun H locs hW => ?_)
    refine lv_if_ne (tgt := 27) hx hb dX7_feed_22 (by decide) (fun hc14 => ?_) (fun hc14 => ?_)
    · replace hF := (if_neg hc14).symm.trans hF
      refine lv_iconst (v := 0) hx hb dX7_feed_27 (by decide) ?_
      refine lv_istore (lv' := [(6, .int 0), (0, .ref (ad (27))), (1, .int u1), (2, .int u2), (3, .int u3), (4, .int u4), (5, .int u5)]) hx hb dX7_feed_28 hl (by decide) rfl (fun ls hl => ?_)
      exact hL30 y13.1 u1 u2 u3 u4 u5 0 _ _ _  hW (lv_sub hl [1, 2, 3, 4, 5, 6, 0] rfl) hF
    · replace hF := (if_pos hc14).symm.trans hF
      refine lv_iconst (v := 0) hx hb dX7_feed_25 (by decide) ?_
      exact r_iret hx hb hr hlocks hW hF dX7_feed_26
  have hl := lv_entry ([.ref (ad (27)), .int x1, .int x2, .int x3, .int x4, .int x5]) (n := 8) (Nat.le_of_ble_eq_true rfl)
  rw [lg_entry_eq]
  generalize (lg_sl ([.ref (ad (27)), .int x1, .int x2, .int x3, .int x4, .int x5]) ++ List.replicate (8 - (lg_sl ([.ref (ad (27)), .int x1, .int x2, .int x3, .int x4, .int x5])).length) Slot.unset).toArray = ls at hl ⊢
  have hl : lv_has ls 8 [(0, .ref (ad (27))), (1, .int x1), (2, .int x2), (3, .int x3), (4, .int x4), (5, .int x5)] := hl
  unfold F_X7_feed at hF
  refine lv_aload_n hx hb dX7_feed_0 rfl (lv_at hl 0 rfl) ?_
  refine lv_aload_n hx hb dX7_feed_1 rfl (lv_at hl 0 rfl) ?_
  refine r_get (C := RX7) (T := TX7) (N := 39) hx hb htA ia_X7 hown hK hW (27) (tp_lt (by decide)) (cE_k (rfl : kd 27 = 9)) rfl 20 (by decide) (htA _ aw_393) rfl dX7_feed_2 ?_
  refine lv_bipush (v := 20) hx hb dX7_feed_5 (by decide) ?_
  refine lv_iadd hx hb dX7_feed_7 ?_
  refine lv_sipush (v := 520) hx hb dX7_feed_8 (by decide) ?_
  refine lv_icmp_gt (tgt := 18) hx hb dX7_feed_11 (by decide) (fun hc15 => ?_) (fun hc15 => ?_)
  · replace hF := (if_pos hc15).symm.trans hF
    refine lv_iconst (v := 0) hx hb dX7_feed_18 (by decide) ?_
    exact hL19 σ x1 x2 x3 x4 x5 0 _ _ _  hW (lv_sub hl [0, 1, 2, 3, 4, 5] rfl) hF
  · replace hF := (if_neg hc15).symm.trans hF
    refine lv_iconst (v := 1) hx hb dX7_feed_14 (by decide) ?_
    refine lv_goto (tgt := 19) hx hb dX7_feed_15 (by decide) ?_
    exact hL19 σ x1 x2 x3 x4 x5 1 _ _ _  hW (lv_sub hl [0, 1, 2, 3, 4, 5] rfl) hF
def F_X7_end_L27 (σ : St) (z0 : Int32) : Option (St) := nm (sI σ (27) 20 z0) (fun w4 => some w4)
def F_X7_end (σ : St) (x1 : Int32) : Option (St) := (F_X7_in σ (Int32.toInt64 x1) 0 (Int32.toInt64 (σ.1 (27) 20))).bind (fun y5 => (F_X7_goes y5.1 y5.2).bind (fun y6 => if y6.2 = 0 then F_X7_end_L27 y6.1 (y6.1.1 (27) 20) else F_X7_end_L27 y6.1 x1))
set_option maxHeartbeats 4000000 in
set_option maxRecDepth 100000 in
theorem m_X7_end (l : Launch) (G : va_G) (g : Nat → ClassId) (ad : Nat → Nat) (n a0 aM : Nat) (σ : St) (x1 : Int32) (x : St) (hF : F_X7_end σ x1 = some x) : Met l yX7_end zs_X7_end ({ frames := 1, cells := 0, slots := 0, locals := 25 } : Room) (va_Pc [.ref (ad (27)), .int x1] (wP G g ad n a0 aM σ)) (qV G g ad n a0 x) 0 0 (fun q : Nat => a0 ≤ q) := by
  refine Met.ofW (cc := cX7_end) (maxL := 2) (ret := none) (by decide) rfl ?_
  intro p e s m args below meth c s₁ B hml hv
  obtain ⟨rfl, hP, hD, hK⟩ := hv
  have hx := B.exec
  have hb := B.bytes
  have hr := B.returns
  have htA : ∀ w ∈ AL, w.before _ s = true := fun w h9 => atoms_spec (ws := zs_X7_end) B.pre w (List.mem_cons_of_mem _ h9)
  have hown : s.vm.findClass RX7 = some m.cls := findClass_of_methodNamed B.named
  have hlocks := B.notSynchronized
  have hW : Wd G g ad n a0 s.heap σ s.heap [] := ⟨hP, hD, va_S.rf⟩
  clear hP hD
  have hL27 : ∀ (σ : St) (z0 : Int32) (H : Heap) (locs : List Loc) (ls : Array Slot), Wd G g ad n a0 s.heap σ H locs → lv_has ls 2 [] → F_X7_end_L27  σ z0 = some x → W p l e (headSpec zs_X7_end ({ frames := 1, cells := 0, slots := 0, locals := 25 } : Room)).room s m ([.ref (ad (27)), .int x1] : List Value).toArray below meth c H locs 0 0 (MQ below (qV G g ad n a0 x) ([.ref (ad (27)), .int x1] : List Value).toArray s 0 0 (fun q : Nat => a0 ≤ q)) (F0 m 27 ls [.int z0, .ref (ad (27))]) := by
    intro σ z0 H locs ls hW hl hF
    unfold F_X7_end_L27 at hF
    refine r_putI (C := RX7) (T := TX7) (N := 39) (ty := .int) hx hb htA ia_X7 tyX7 tyX7_ok nmX7 hown hK hW (27) (tp_lt (by decide)) (cE_k (rfl : kd 27 = 9)) rfl 20 (by decide) (cE_k (rfl : kd 27 = 9)) (htA _ aw_393) rfl (by decide +kernel) rfl rfl (Nat.le_of_ble_eq_true rfl) dX7_end_27 (fun H locs hW => ?_)
    obtain ⟨w4, ew4, hF⟩ := nm_some hF
    rw [← ew4] at hW
    exact r_vret hx hb hr hlocks hW hF dX7_end_30
  have hl := lv_entry ([.ref (ad (27)), .int x1]) (n := 2) (Nat.le_of_ble_eq_true rfl)
  rw [lg_entry_eq]
  generalize (lg_sl ([.ref (ad (27)), .int x1]) ++ List.replicate (2 - (lg_sl ([.ref (ad (27)), .int x1])).length) Slot.unset).toArray = ls at hl ⊢
  have hl : lv_has ls 2 [(0, .ref (ad (27))), (1, .int x1)] := hl
  unfold F_X7_end at hF
  refine lv_aload_n hx hb dX7_end_0 rfl (lv_at hl 0 rfl) ?_
  refine lv_aload_n hx hb dX7_end_1 rfl (lv_at hl 0 rfl) ?_
  refine lv_iload_n hx hb dX7_end_2 rfl (lv_at hl 1 rfl) ?_
  refine lv_i2l (v := (Int32.toInt64 x1)) hx hb dX7_end_3 rfl ?_
  refine lv_lconst (v := 0) hx hb dX7_end_4 (by decide) ?_
  refine lv_aload_n hx hb dX7_end_5 rfl (lv_at hl 0 rfl) ?_
  refine r_get (C := RX7) (T := TX7) (N := 39) hx hb htA ia_X7 hown hK hW (27) (tp_lt (by decide)) (cE_k (rfl : kd 27 = 9)) rfl 20 (by decide) (htA _ aw_393) rfl dX7_end_6 ?_
  refine lv_i2l (v := (Int32.toInt64 (σ.1 (27) 20))) hx hb dX7_end_9 rfl ?_
  obtain ⟨y5, hy5, hF⟩ := bd_some hF
  refine r_bi (va_runS (As := [.long (Int32.toInt64 x1), .long 0, .long (Int32.toInt64 (σ.1 (27) 20))]) (rest := [.ref (ad (27)), .ref (ad (27))]) ⟨hx, hb, hml, hown, htA⟩ (m_X7_in l G g ad n a0 aM σ (Int32.toInt64 x1) 0 (Int32.toInt64 (σ.1 (27) 20)) y5  hy5) (va_cwS 3 htA (gS aw_390 aw_391 aw_382 gz_X7_in) rfl rfl rfl (by decide +kernel) ⟨Nat.le_of_ble_eq_true rfl, Nat.le_of_ble_eq_true rfl⟩) (r_pre hK hW [.long (Int32.toInt64 x1), .long 0, .long (Int32.toInt64 (σ.1 (27) 20))]) rfl rfl hl.1 rfl (lv_room (Nat.le_of_ble_eq_true rfl)) dX7_end_10 ⟨Nat.zero_le _, Nat.zero_le _⟩) hW (fun H locs hW => ?_)
  obtain ⟨y6, hy6, hF⟩ := bd_some hF
  refine r_bi (va_runV (As := [.int y5.2]) (rest := [.ref (ad (27))]) ⟨hx, hb, hml, hown, htA⟩ (m_X7_goes l G g ad n a0 aM y5.1 y5.2 y6  hy6) (cwV 1 htA (gV aw_394 aw_395 aw_396 aw_382 gz_X7_goes) rfl rfl rfl (by decide +kernel) ⟨Nat.le_of_ble_eq_true rfl, Nat.le_of_ble_eq_true rfl⟩) (r_preV hK hW (27) (tp_lt (by decide)) (cE_k (rfl : kd 27 = 9)) rfl [.int y5.2]) rfl rfl hl.1 rfl (lv_room (Nat.le_of_ble_eq_true rfl)) dX7_end_13 ⟨Nat.zero_le _, Nat.zero_le _⟩) hW (fun H locs hW => ?_)
  refine lv_if_eq (tgt := 23) hx hb dX7_end_16 (by decide) (fun hc7 => ?_) (fun hc7 => ?_)
  · replace hF := (if_pos hc7).symm.trans hF
    refine lv_aload_n hx hb dX7_end_23 rfl (lv_at hl 0 rfl) ?_
    refine r_get (C := RX7) (T := TX7) (N := 39) hx hb htA ia_X7 hown hK hW (27) (tp_lt (by decide)) (cE_k (rfl : kd 27 = 9)) rfl 20 (by decide) (htA _ aw_393) rfl dX7_end_24 ?_
    exact hL27 y6.1 (y6.1.1 (27) 20) _ _ _  hW (lv_sub hl [] rfl) hF
  · replace hF := (if_neg hc7).symm.trans hF
    refine lv_iload_n hx hb dX7_end_19 rfl (lv_at hl 1 rfl) ?_
    refine lv_goto (tgt := 27) hx hb dX7_end_20 (by decide) ?_
    exact hL27 y6.1 x1 _ _ _  hW (lv_sub hl [] rfl) hF
def F_X7_at (σ : St) (x1 : Int32) : Option (St × Int32) := gd (ib x1 (ln (46))) (some (σ, ((σ.1 (46) (Int32.toNatClampNeg x1)) &&& 255)))
set_option maxHeartbeats 4000000 in
set_option maxRecDepth 100000 in
theorem m_X7_at (l : Launch) (G : va_G) (g : Nat → ClassId) (ad : Nat → Nat) (n a0 aM : Nat) (σ : St) (x1 : Int32) (x : St × Int32) (hF : F_X7_at σ x1 = some x) : Met l yX7_at zs_X7_at ({ frames := 0, cells := 0, slots := 0, locals := 0 } : Room) (va_Pc [.ref (ad (27)), .int x1] (wP G g ad n a0 aM σ)) (qI G g ad n a0 x) 0 0 (fun q : Nat => a0 ≤ q) := by
  refine Met.ofW (cc := cX7_at) (maxL := 2) (ret := (some .int)) (by decide) rfl ?_
  intro p e s m args below meth c s₁ B hml hv
  obtain ⟨rfl, hP, hD, hK⟩ := hv
  have hx := B.exec
  have hb := B.bytes
  have hr := B.returns
  have htA : ∀ w ∈ AL, w.before _ s = true := fun w h9 => atoms_spec (ws := zs_X7_at) B.pre w (List.mem_cons_of_mem _ h9)
  have hown : s.vm.findClass RX7 = some m.cls := findClass_of_methodNamed B.named
  have hlocks := B.notSynchronized
  have hW : Wd G g ad n a0 s.heap σ s.heap [] := ⟨hP, hD, va_S.rf⟩
  clear hP hD
  have hl := lv_entry ([.ref (ad (27)), .int x1]) (n := 2) (Nat.le_of_ble_eq_true rfl)
  rw [lg_entry_eq]
  generalize (lg_sl ([.ref (ad (27)), .int x1]) ++ List.replicate (2 - (lg_sl ([.ref (ad (27)), .int x1])).length) Slot.unset).toArray = ls at hl ⊢
  have hl : lv_has ls 2 [(0, .ref (ad (27))), (1, .int x1)] := hl
  unfold F_X7_at at hF
  refine lv_aload_n hx hb dX7_at_0 rfl (lv_at hl 0 rfl) ?_
  refine r_get (C := RX7) (T := TX7) (N := 39) hx hb htA ia_X7 hown hK hW (27) (tp_lt (by decide)) (cE_k (rfl : kd 27 = 9)) rfl 22 (by decide) (htA _ aw_371) rfl dX7_at_1 ?_
  refine lv_iload_n hx hb dX7_at_4 rfl (lv_at hl 1 rfl) ?_
  obtain ⟨hg2, hF⟩ := gd_some hF
  refine r_bald hx hb hK hW (46) (tp_lt (by decide)) (rfl : kd 46 = 10) hg2 dX7_at_5 ?_
  refine lv_sipush (v := 255) hx hb dX7_at_6 (by decide) ?_
  refine lv_iand hx hb dX7_at_9 ?_
  exact r_iret hx hb hr hlocks hW hF dX7_at_10
def F_X7_two (σ : St) (x1 : Int32) : Option (St × Int32) := (F_X7_at σ x1).bind (fun y3 => (F_X7_at y3.1 (x1 + 1)).bind (fun y4 => some (y4.1, ((y3.2 * 256) + y4.2))))
set_option maxHeartbeats 4000000 in
set_option maxRecDepth 100000 in
theorem m_X7_two (l : Launch) (G : va_G) (g : Nat → ClassId) (ad : Nat → Nat) (n a0 aM : Nat) (σ : St) (x1 : Int32) (x : St × Int32) (hF : F_X7_two σ x1 = some x) : Met l yX7_two zs_X7_two ({ frames := 1, cells := 0, slots := 0, locals := 21 } : Room) (va_Pc [.ref (ad (27)), .int x1] (wP G g ad n a0 aM σ)) (qI G g ad n a0 x) 0 0 (fun q : Nat => a0 ≤ q) := by
  refine Met.ofW (cc := cX7_two) (maxL := 2) (ret := (some .int)) (by decide) rfl ?_
  intro p e s m args below meth c s₁ B hml hv
  obtain ⟨rfl, hP, hD, hK⟩ := hv
  have hx := B.exec
  have hb := B.bytes
  have hr := B.returns
  have htA : ∀ w ∈ AL, w.before _ s = true := fun w h9 => atoms_spec (ws := zs_X7_two) B.pre w (List.mem_cons_of_mem _ h9)
  have hown : s.vm.findClass RX7 = some m.cls := findClass_of_methodNamed B.named
  have hlocks := B.notSynchronized
  have hW : Wd G g ad n a0 s.heap σ s.heap [] := ⟨hP, hD, va_S.rf⟩
  clear hP hD
  have hl := lv_entry ([.ref (ad (27)), .int x1]) (n := 2) (Nat.le_of_ble_eq_true rfl)
  rw [lg_entry_eq]
  generalize (lg_sl ([.ref (ad (27)), .int x1]) ++ List.replicate (2 - (lg_sl ([.ref (ad (27)), .int x1])).length) Slot.unset).toArray = ls at hl ⊢
  have hl : lv_has ls 2 [(0, .ref (ad (27))), (1, .int x1)] := hl
  unfold F_X7_two at hF
  refine lv_aload_n hx hb dX7_two_0 rfl (lv_at hl 0 rfl) ?_
  refine lv_iload_n hx hb dX7_two_1 rfl (lv_at hl 1 rfl) ?_
  obtain ⟨y3, hy3, hF⟩ := bd_some hF
  refine r_bi (va_runV (As := [.int x1]) (rest := []) ⟨hx, hb, hml, hown, htA⟩ (m_X7_at l G g ad n a0 aM σ x1 y3  hy3) (cwV 1 htA (gV aw_398 aw_399 aw_400 aw_382 gz_X7_at) rfl rfl rfl (by decide +kernel) ⟨Nat.le_of_ble_eq_true rfl, Nat.le_of_ble_eq_true rfl⟩) (r_preV hK hW (27) (tp_lt (by decide)) (cE_k (rfl : kd 27 = 9)) rfl [.int x1]) rfl rfl hl.1 rfl (lv_room (Nat.le_of_ble_eq_true rfl)) dX7_two_2 ⟨Nat.zero_le _, Nat.zero_le _⟩) hW (fun H locs hW => ?_)
  refine lv_sipush (v := 256) hx hb dX7_two_5 (by decide) ?_
  refine lv_imul hx hb dX7_two_8 ?_
  refine lv_aload_n hx hb dX7_two_9 rfl (lv_at hl 0 rfl) ?_
  refine lv_iload_n hx hb dX7_two_10 rfl (lv_at hl 1 rfl) ?_
  refine lv_iconst (v := 1) hx hb dX7_two_11 (by decide) ?_
  refine lv_iadd hx hb dX7_two_12 ?_
  obtain ⟨y4, hy4, hF⟩ := bd_some hF
  refine r_bi (va_runV (As := [.int (x1 + 1)]) (rest := [.int (y3.2 * 256)]) ⟨hx, hb, hml, hown, htA⟩ (m_X7_at l G g ad n a0 aM y3.1 (x1 + 1) y4  hy4) (cwV 1 htA (gV aw_398 aw_399 aw_400 aw_382 gz_X7_at) rfl rfl rfl (by decide +kernel) ⟨Nat.le_of_ble_eq_true rfl, Nat.le_of_ble_eq_true rfl⟩) (r_preV hK hW (27) (tp_lt (by decide)) (cE_k (rfl : kd 27 = 9)) rfl [.int (x1 + 1)]) rfl rfl hl.1 rfl (lv_room (Nat.le_of_ble_eq_true rfl)) dX7_two_13 ⟨Nat.zero_le _, Nat.zero_le _⟩) hW (fun H locs hW => ?_)
  refine lv_iadd hx hb dX7_two_16 ?_
  exact r_iret hx hb hr hlocks hW hF dX7_two_17
def F_X7_six_L34 (σ : St) (u2 : Int64) : Option (St × Int64) := some (σ, u2)
def F_X7_six_L5 (K34 : St → Int64 → Option (St × Int64)) : Nat → St → Int32 → Int64 → Int32 → Option (St × Int64)
  | 0, _, _, _, _ => none
  | fz + 1, σ, u1, u2, u4 => if 6 ≤ u4 then K34 σ u2 else (F_X7_at σ (u1 + u4)).bind (fun y3 => (F_X7_six_L5 K34 fz) y3.1 u1 ((u2 * 256) + (Int32.toInt64 y3.2)) (u4 + 1))
def F_X7_six (σ : St) (x1 : Int32) : Option (St × Int64) := F_X7_six_L5 F_X7_six_L34 fu σ x1 0 0
set_option maxHeartbeats 4000000 in
set_option maxRecDepth 100000 in
theorem m_X7_six (l : Launch) (G : va_G) (g : Nat → ClassId) (ad : Nat → Nat) (n a0 aM : Nat) (σ : St) (x1 : Int32) (x : St × Int64) (hF : F_X7_six σ x1 = some x) : Met l yX7_six zs_X7_six ({ frames := 1, cells := 0, slots := 0, locals := 21 } : Room) (va_Pc [.ref (ad (27)), .int x1] (wP G g ad n a0 aM σ)) (qJ G g ad n a0 x) 0 0 (fun q : Nat => a0 ≤ q) := by
  refine Met.ofW (cc := cX7_six) (maxL := 5) (ret := (some .long)) (by decide) rfl ?_
  intro p e s m args below meth c s₁ B hml hv
  obtain ⟨rfl, hP, hD, hK⟩ := hv
  have hx := B.exec
  have hb := B.bytes
  have hr := B.returns
  have htA : ∀ w ∈ AL, w.before _ s = true := fun w h9 => atoms_spec (ws := zs_X7_six) B.pre w (List.mem_cons_of_mem _ h9)
  have hown : s.vm.findClass RX7 = some m.cls := findClass_of_methodNamed B.named
  have hlocks := B.notSynchronized
  have hW : Wd G g ad n a0 s.heap σ s.heap [] := ⟨hP, hD, va_S.rf⟩
  clear hP hD
  have hL34 : ∀ (σ : St) (u2 : Int64) (H : Heap) (locs : List Loc) (ls : Array Slot), Wd G g ad n a0 s.heap σ H locs → lv_has ls 5 [(2, .long u2)] → F_X7_six_L34  σ u2 = some x → W p l e (headSpec zs_X7_six ({ frames := 1, cells := 0, slots := 0, locals := 21 } : Room)).room s m ([.ref (ad (27)), .int x1] : List Value).toArray below meth c H locs 0 0 (MQ below (qJ G g ad n a0 x) ([.ref (ad (27)), .int x1] : List Value).toArray s 0 0 (fun q : Nat => a0 ≤ q)) (F0 m 34 ls []) := by
    intro σ u2 H locs ls hW hl hF
    unfold F_X7_six_L34 at hF
    refine lv_lload_n hx hb dX7_six_34 rfl (lv_at hl 0 rfl) ?_
    exact r_lret hx hb hr hlocks hW hF dX7_six_35
  have hL5 : ∀ (fz5 : Nat) (σ : St) (u1 : Int32) (u2 : Int64) (u4 : Int32) (H : Heap) (locs : List Loc) (ls : Array Slot), Wd G g ad n a0 s.heap σ H locs → lv_has ls 5 [(0, .ref (ad (27))), (1, .int u1), (2, .long u2), (4, .int u4)] → F_X7_six_L5 (F_X7_six_L34) fz5 σ u1 u2 u4 = some x → W p l e (headSpec zs_X7_six ({ frames := 1, cells := 0, slots := 0, locals := 21 } : Room)).room s m ([.ref (ad (27)), .int x1] : List Value).toArray below meth c H locs 0 0 (MQ below (qJ G g ad n a0 x) ([.ref (ad (27)), .int x1] : List Value).toArray s 0 0 (fun q : Nat => a0 ≤ q)) (F0 m 5 ls []) := by
    intro fz5
    induction fz5 with
    | zero =>
      intro σ u1 u2 u4 H locs ls hW hl hF
      exact absurd hF (by simp [F_X7_six_L5])
    | succ fz5 ih =>
      have hB5 := ih
      intro σ u1 u2 u4 H locs ls hW hl hF
      unfold F_X7_six_L5 at hF
      refine lv_iload hx hb dX7_six_5 (lv_at hl 3 rfl) ?_
      refine lv_bipush (v := 6) hx hb dX7_six_7 (by decide) ?_
      refine lv_icmp_ge (tgt := 34) hx hb dX7_six_9 (by decide) (fun hc2 => ?_) (fun hc2 => ?_)
      · replace hF := (if_pos hc2).symm.trans hF
        exact hL34 σ u2 _ _ _  hW (lv_sub hl [2] rfl) hF
      · replace hF := (if_neg hc2).symm.trans hF
        refine lv_lload_n hx hb dX7_six_12 rfl (lv_at hl 2 rfl) ?_
        refine lv_ldc2 (v := 256) hx hb hown (htA _ aw_402) dX7_six_13 ?_
        refine lv_lmul hx hb dX7_six_16 ?_
        refine lv_aload_n hx hb dX7_six_17 rfl (lv_at hl 0 rfl) ?_
        refine lv_iload_n hx hb dX7_six_18 rfl (lv_at hl 1 rfl) ?_
        refine lv_iload hx hb dX7_six_19 (lv_at hl 3 rfl) ?_
        refine lv_iadd hx hb dX7_six_21 ?_
        obtain ⟨y3, hy3, hF⟩ := bd_some hF
        refine r_bi (va_runV (As := [.int (u1 + u4)]) (rest := [.long (u2 * 256)]) ⟨hx, hb, hml, hown, htA⟩ (m_X7_at l G g ad n a0 aM σ (u1 + u4) y3  hy3) (cwV 1 htA (gV aw_398 aw_399 aw_400 aw_382 gz_X7_at) rfl rfl rfl (by decide +kernel) ⟨Nat.le_of_ble_eq_true rfl, Nat.le_of_ble_eq_true rfl⟩) (r_preV hK hW (27) (tp_lt (by decide)) (cE_k (rfl : kd 27 = 9)) rfl [.int (u1 + u4)]) rfl rfl hl.1 rfl (lv_room (Nat.le_of_ble_eq_true rfl)) dX7_six_22 ⟨Nat.zero_le _, Nat.zero_le _⟩) hW (fun H locs hW => ?_)
        refine lv_i2l (v := (Int32.toInt64 y3.2)) hx hb dX7_six_25 rfl ?_
        refine lv_ladd hx hb dX7_six_26 ?_
        refine lv_lstore_n (lv' := [(2, .long ((u2 * 256) + (Int32.toInt64 y3.2))), (0, .ref (ad (27))), (1, .int u1), (4, .int u4)]) hx hb dX7_six_27 rfl hl (by decide) rfl (fun ls hl => ?_)
        refine lv_iinc (v := (u4 + 1)) (lv' := [(4, .int (u4 + 1)), (2, .long ((u2 * 256) + (Int32.toInt64 y3.2))), (0, .ref (ad (27))), (1, .int u1)]) hx hb dX7_six_28 hl (k := 3) rfl rfl (by decide) rfl (fun ls hl => ?_)
        refine lv_goto (tgt := 5) hx hb dX7_six_31 (by decide) ?_
        exact hB5 y3.1 u1 ((u2 * 256) + (Int32.toInt64 y3.2)) (u4 + 1) _ _ _  hW (lv_sub hl [2, 3, 1, 0] rfl) hF
  have hL5 := hL5 fu
  have hl := lv_entry ([.ref (ad (27)), .int x1]) (n := 5) (Nat.le_of_ble_eq_true rfl)
  rw [lg_entry_eq]
  generalize (lg_sl ([.ref (ad (27)), .int x1]) ++ List.replicate (5 - (lg_sl ([.ref (ad (27)), .int x1])).length) Slot.unset).toArray = ls at hl ⊢
  have hl : lv_has ls 5 [(0, .ref (ad (27))), (1, .int x1)] := hl
  unfold F_X7_six at hF
  refine lv_lconst (v := 0) hx hb dX7_six_0 (by decide) ?_
  refine lv_lstore_n (lv' := [(2, .long 0), (0, .ref (ad (27))), (1, .int x1)]) hx hb dX7_six_1 rfl hl (by decide) rfl (fun ls hl => ?_)
  refine lv_iconst (v := 0) hx hb dX7_six_2 (by decide) ?_
  refine lv_istore (lv' := [(4, .int 0), (2, .long 0), (0, .ref (ad (27))), (1, .int x1)]) hx hb dX7_six_3 hl (by decide) rfl (fun ls hl => ?_)
  exact hL5 σ x1 0 0 _ _ _  hW (lv_sub hl [2, 3, 1, 0] rfl) hF
def F_X7_footprint (σ : St) (x1 : Int32) : Option (St × Int32) := gd (ib x1 (ln (30))) (gd (ib x1 (ln (32))) (some (σ, ((σ.1 (30) (Int32.toNatClampNeg x1)) * (σ.1 (32) (Int32.toNatClampNeg x1))))))
set_option maxHeartbeats 4000000 in
set_option maxRecDepth 100000 in
theorem m_X7_footprint (l : Launch) (G : va_G) (g : Nat → ClassId) (ad : Nat → Nat) (n a0 aM : Nat) (σ : St) (x1 : Int32) (x : St × Int32) (hF : F_X7_footprint σ x1 = some x) : Met l yX7_footprint zs_X7_footprint ({ frames := 0, cells := 0, slots := 0, locals := 0 } : Room) (va_Pc [.ref (ad (27)), .int x1] (wP G g ad n a0 aM σ)) (qI G g ad n a0 x) 0 0 (fun q : Nat => a0 ≤ q) := by
  refine Met.ofW (cc := cX7_footprint) (maxL := 2) (ret := (some .int)) (by decide) rfl ?_
  intro p e s m args below meth c s₁ B hml hv
  obtain ⟨rfl, hP, hD, hK⟩ := hv
  have hx := B.exec
  have hb := B.bytes
  have hr := B.returns
  have htA : ∀ w ∈ AL, w.before _ s = true := fun w h9 => atoms_spec (ws := zs_X7_footprint) B.pre w (List.mem_cons_of_mem _ h9)
  have hown : s.vm.findClass RX7 = some m.cls := findClass_of_methodNamed B.named
  have hlocks := B.notSynchronized
  have hW : Wd G g ad n a0 s.heap σ s.heap [] := ⟨hP, hD, va_S.rf⟩
  clear hP hD
  have hl := lv_entry ([.ref (ad (27)), .int x1]) (n := 2) (Nat.le_of_ble_eq_true rfl)
  rw [lg_entry_eq]
  generalize (lg_sl ([.ref (ad (27)), .int x1]) ++ List.replicate (2 - (lg_sl ([.ref (ad (27)), .int x1])).length) Slot.unset).toArray = ls at hl ⊢
  have hl : lv_has ls 2 [(0, .ref (ad (27))), (1, .int x1)] := hl
  unfold F_X7_footprint at hF
  refine lv_aload_n hx hb dX7_footprint_0 rfl (lv_at hl 0 rfl) ?_
  refine r_get (C := RX7) (T := TX7) (N := 39) hx hb htA ia_X7 hown hK hW (27) (tp_lt (by decide)) (cE_k (rfl : kd 27 = 9)) rfl 4 (by decide) (htA _ aw_354) rfl dX7_footprint_1 ?_
  refine lv_iload_n hx hb dX7_footprint_4 rfl (lv_at hl 1 rfl) ?_
  obtain ⟨hg3, hF⟩ := gd_some hF
  refine r_iald hx hb hK hW (30) (tp_lt (by decide)) (rfl : kd 30 = 3) hg3 dX7_footprint_5 ?_
  refine lv_aload_n hx hb dX7_footprint_6 rfl (lv_at hl 0 rfl) ?_
  refine r_get (C := RX7) (T := TX7) (N := 39) hx hb htA ia_X7 hown hK hW (27) (tp_lt (by decide)) (cE_k (rfl : kd 27 = 9)) rfl 6 (by decide) (htA _ aw_356) rfl dX7_footprint_7 ?_
  refine lv_iload_n hx hb dX7_footprint_10 rfl (lv_at hl 1 rfl) ?_
  obtain ⟨hg4, hF⟩ := gd_some hF
  refine r_iald hx hb hK hW (32) (tp_lt (by decide)) (rfl : kd 32 = 3) hg4 dX7_footprint_11 ?_
  refine lv_imul hx hb dX7_footprint_12 ?_
  exact r_iret hx hb hr hlocks hW hF dX7_footprint_13
def F_X7_doDue_L116 (σ : St) : Option (St) := some σ
def F_X7_doDue_L110 (B2 : St → Int32 → Option (St)) (K116 : St → Option (St)) (σ : St) (u1 : Int32) : Option (St) := B2 σ (u1 + 1)
def F_X7_doDue_L104 (B2 : St → Int32 → Option (St)) (K116 : St → Option (St)) (B12 : St → Int32 → Int32 → Option (St)) (K110 : St → Int32 → Option (St)) (σ : St) (u1 : Int32) (u2 : Int32) : Option (St) := B12 σ u1 (u2 + 1)
def F_X7_doDue_L63 (B2 : St → Int32 → Option (St)) (K116 : St → Option (St)) (B12 : St → Int32 → Int32 → Option (St)) (K110 : St → Int32 → Option (St)) (K104 : St → Int32 → Int32 → Option (St)) : Nat → St → Int32 → Int32 → Int32 → Int32 → Option (St)
  | 0, _, _, _, _, _ => none
  | fz + 1, σ, u1, u2, u3, u4 => gd (ib u3 (ln (43))) (if (σ.1 (43) (Int32.toNatClampNeg u3)) ≤ u4 then K104 σ u1 u2 else gd (ib ((32 * u3) + u4) (ln (44))) (gd (ib ((32 * u1) + u4) (ln (37))) (nm (sI σ (37) (Int32.toNatClampNeg ((32 * u1) + u4)) (vp_nar .byte (σ.1 (44) (Int32.toNatClampNeg ((32 * u3) + u4))))) (fun w16 => (F_X7_doDue_L63 B2 K116 B12 K110 K104 fz) w16 u1 u2 u3 (u4 + 1)))))
def F_X7_doDue_L12 (B2 : St → Int32 → Option (St)) (K116 : St → Option (St)) (K110 : St → Int32 → Option (St)) : Nat → St → Int32 → Int32 → Option (St)
  | 0, _, _, _ => none
  | fz + 1, σ, u1, u2 => gd (ib u1 (ln (41))) (if (σ.1 (41) (Int32.toNatClampNeg u1)) ≤ u2 then K110 σ u1 else gd (ib ((4 * u1) + u2) (ln (42))) (if (σ.1 (42) (Int32.toNatClampNeg ((4 * u1) + u2))) = (σ.1 (27) 21) then gd (ib ((4 * u1) + u2) (ln (42))) (nm (sI σ (42) (Int32.toNatClampNeg ((4 * u1) + u2)) 0) (fun w22 => gd (ib ((4 * u1) + u2) (ln (43))) (gd (ib u1 (ln (36))) (nm (sI w22 (36) (Int32.toNatClampNeg u1) (w22.1 (43) (Int32.toNatClampNeg ((4 * u1) + u2)))) (fun w25 => F_X7_doDue_L63 B2 K116 (F_X7_doDue_L12 B2 K116 K110 fz) K110 (F_X7_doDue_L104 B2 K116 (F_X7_doDue_L12 B2 K116 K110 fz) K110) fu w25 u1 u2 ((4 * u1) + u2) 0))))) else F_X7_doDue_L104 B2 K116 (F_X7_doDue_L12 B2 K116 K110 fz) K110 σ u1 u2))
def F_X7_doDue_L2 (K116 : St → Option (St)) : Nat → St → Int32 → Option (St)
  | 0, _, _ => none
  | fz + 1, σ, u1 => if (σ.1 (27) 1) ≤ u1 then K116 σ else F_X7_doDue_L12 (F_X7_doDue_L2 K116 fz) K116 (F_X7_doDue_L110 (F_X7_doDue_L2 K116 fz) K116) fu σ u1 0
def F_X7_doDue (σ : St) : Option (St) := F_X7_doDue_L2 F_X7_doDue_L116 fu σ 0
set_option maxHeartbeats 4000000 in
set_option maxRecDepth 100000 in
theorem m_X7_doDue (l : Launch) (G : va_G) (g : Nat → ClassId) (ad : Nat → Nat) (n a0 aM : Nat) (σ : St) (x : St) (hF : F_X7_doDue σ = some x) : Met l yX7_doDue zs_X7_doDue ({ frames := 0, cells := 0, slots := 0, locals := 0 } : Room) (va_Pc [.ref (ad (27))] (wP G g ad n a0 aM σ)) (qV G g ad n a0 x) 0 0 (fun q : Nat => a0 ≤ q) := by
  refine Met.ofW (cc := cX7_doDue) (maxL := 5) (ret := none) (by decide) rfl ?_
  intro p e s m args below meth c s₁ B hml hv
  obtain ⟨rfl, hP, hD, hK⟩ := hv
  have hx := B.exec
  have hb := B.bytes
  have hr := B.returns
  have htA : ∀ w ∈ AL, w.before _ s = true := fun w h9 => atoms_spec (ws := zs_X7_doDue) B.pre w (List.mem_cons_of_mem _ h9)
  have hown : s.vm.findClass RX7 = some m.cls := findClass_of_methodNamed B.named
  have hlocks := B.notSynchronized
  have hW : Wd G g ad n a0 s.heap σ s.heap [] := ⟨hP, hD, va_S.rf⟩
  clear hP hD
  have hL116 : ∀ (σ : St) (H : Heap) (locs : List Loc) (ls : Array Slot), Wd G g ad n a0 s.heap σ H locs → lv_has ls 5 [] → F_X7_doDue_L116  σ = some x → W p l e (headSpec zs_X7_doDue ({ frames := 0, cells := 0, slots := 0, locals := 0 } : Room)).room s m ([.ref (ad (27))] : List Value).toArray below meth c H locs 0 0 (MQ below (qV G g ad n a0 x) ([.ref (ad (27))] : List Value).toArray s 0 0 (fun q : Nat => a0 ≤ q)) (F0 m 116 ls []) := by
    intro σ H locs ls hW hl hF
    unfold F_X7_doDue_L116 at hF
    exact r_vret hx hb hr hlocks hW hF dX7_doDue_116
  have hL2 : ∀ (fz2 : Nat) (σ : St) (u1 : Int32) (H : Heap) (locs : List Loc) (ls : Array Slot), Wd G g ad n a0 s.heap σ H locs → lv_has ls 5 [(0, .ref (ad (27))), (1, .int u1)] → F_X7_doDue_L2 (F_X7_doDue_L116) fz2 σ u1 = some x → W p l e (headSpec zs_X7_doDue ({ frames := 0, cells := 0, slots := 0, locals := 0 } : Room)).room s m ([.ref (ad (27))] : List Value).toArray below meth c H locs 0 0 (MQ below (qV G g ad n a0 x) ([.ref (ad (27))] : List Value).toArray s 0 0 (fun q : Nat => a0 ≤ q)) (F0 m 2 ls []) := by
    intro fz2
    induction fz2 with
    | zero =>
      intro σ u1 H locs ls hW hl hF
      exact absurd hF (by simp [F_X7_doDue_L2])
    | succ fz2 ih =>
      have hB2 := ih
      have hL110 : ∀ (σ : St) (u1 : Int32) (H : Heap) (locs : List Loc) (ls : Array Slot), Wd G g ad n a0 s.heap σ H locs → lv_has ls 5 [(0, .ref (ad (27))), (1, .int u1)] → F_X7_doDue_L110 (F_X7_doDue_L2 (F_X7_doDue_L116) fz2) (F_X7_doDue_L116) σ u1 = some x → W p l e (headSpec zs_X7_doDue ({ frames := 0, cells := 0, slots := 0, locals := 0 } : Room)).room s m ([.ref (ad (27))] : List Value).toArray below meth c H locs 0 0 (MQ below (qV G g ad n a0 x) ([.ref (ad (27))] : List Value).toArray s 0 0 (fun q : Nat => a0 ≤ q)) (F0 m 110 ls []) := by
        intro σ u1 H locs ls hW hl hF
        unfold F_X7_doDue_L110 at hF
        refine lv_iinc (v := (u1 + 1)) (lv' := [(1, .int (u1 + 1)), (0, .ref (ad (27)))]) hx hb dX7_doDue_110 hl (k := 1) rfl rfl (by decide) rfl (fun ls hl => ?_)
        refine lv_goto (tgt := 2) hx hb dX7_doDue_113 (by decide) ?_
        exact hB2 σ (u1 + 1) _ _ _  hW (lv_sub hl [1, 0] rfl) hF
      have hL12 : ∀ (fz12 : Nat) (σ : St) (u1 : Int32) (u2 : Int32) (H : Heap) (locs : List Loc) (ls : Array Slot), Wd G g ad n a0 s.heap σ H locs → lv_has ls 5 [(0, .ref (ad (27))), (1, .int u1), (2, .int u2)] → F_X7_doDue_L12 (F_X7_doDue_L2 (F_X7_doDue_L116) fz2) (F_X7_doDue_L116) (F_X7_doDue_L110 (F_X7_doDue_L2 (F_X7_doDue_L116) fz2) (F_X7_doDue_L116)) fz12 σ u1 u2 = some x → W p l e (headSpec zs_X7_doDue ({ frames := 0, cells := 0, slots := 0, locals := 0 } : Room)).room s m ([.ref (ad (27))] : List Value).toArray below meth c H locs 0 0 (MQ below (qV G g ad n a0 x) ([.ref (ad (27))] : List Value).toArray s 0 0 (fun q : Nat => a0 ≤ q)) (F0 m 12 ls []) := by
        intro fz12
        induction fz12 with
        | zero =>
          intro σ u1 u2 H locs ls hW hl hF
          exact absurd hF (by simp [F_X7_doDue_L12])
        | succ fz12 ih =>
          have hB12 := ih
          have hL104 : ∀ (σ : St) (u1 : Int32) (u2 : Int32) (H : Heap) (locs : List Loc) (ls : Array Slot), Wd G g ad n a0 s.heap σ H locs → lv_has ls 5 [(0, .ref (ad (27))), (1, .int u1), (2, .int u2)] → F_X7_doDue_L104 (F_X7_doDue_L2 (F_X7_doDue_L116) fz2) (F_X7_doDue_L116) (F_X7_doDue_L12 (F_X7_doDue_L2 (F_X7_doDue_L116) fz2) (F_X7_doDue_L116) (F_X7_doDue_L110 (F_X7_doDue_L2 (F_X7_doDue_L116) fz2) (F_X7_doDue_L116)) fz12) (F_X7_doDue_L110 (F_X7_doDue_L2 (F_X7_doDue_L116) fz2) (F_X7_doDue_L116)) σ u1 u2 = some x → W p l e (headSpec zs_X7_doDue ({ frames := 0, cells := 0, slots := 0, locals := 0 } : Room)).room s m ([.ref (ad (27))] : List Value).toArray below meth c H locs 0 0 (MQ below (qV G g ad n a0 x) ([.ref (ad (27))] : List Value).toArray s 0 0 (fun q : Nat => a0 ≤ q)) (F0 m 104 ls []) := by
            intro σ u1 u2 H locs ls hW hl hF
            unfold F_X7_doDue_L104 at hF
            refine lv_iinc (v := (u2 + 1)) (lv' := [(2, .int (u2 + 1)), (0, .ref (ad (27))), (1, .int u1)]) hx hb dX7_doDue_104 hl (k := 2) rfl rfl (by decide) rfl (fun ls hl => ?_)
            refine lv_goto (tgt := 12) hx hb dX7_doDue_107 (by decide) ?_
            exact hB12 σ u1 (u2 + 1) _ _ _  hW (lv_sub hl [1, 2, 0] rfl) hF
          have hL63 : ∀ (fz63 : Nat) (σ : St) (u1 : Int32) (u2 : Int32) (u3 : Int32) (u4 : Int32) (H : Heap) (locs : List Loc) (ls : Array Slot), Wd G g ad n a0 s.heap σ H locs → lv_has ls 5 [(0, .ref (ad (27))), (1, .int u1), (2, .int u2), (3, .int u3), (4, .int u4)] → F_X7_doDue_L63 (F_X7_doDue_L2 (F_X7_doDue_L116) fz2) (F_X7_doDue_L116) (F_X7_doDue_L12 (F_X7_doDue_L2 (F_X7_doDue_L116) fz2) (F_X7_doDue_L116) (F_X7_doDue_L110 (F_X7_doDue_L2 (F_X7_doDue_L116) fz2) (F_X7_doDue_L116)) fz12) (F_X7_doDue_L110 (F_X7_doDue_L2 (F_X7_doDue_L116) fz2) (F_X7_doDue_L116)) (F_X7_doDue_L104 (F_X7_doDue_L2 (F_X7_doDue_L116) fz2) (F_X7_doDue_L116) (F_X7_doDue_L12 (F_X7_doDue_L2 (F_X7_doDue_L116) fz2) (F_X7_doDue_L116) (F_X7_doDue_L110 (F_X7_doDue_L2 (F_X7_doDue_L116) fz2) (F_X7_doDue_L116)) fz12) (F_X7_doDue_L110 (F_X7_doDue_L2 (F_X7_doDue_L116) fz2) (F_X7_doDue_L116))) fz63 σ u1 u2 u3 u4 = some x → W p l e (headSpec zs_X7_doDue ({ frames := 0, cells := 0, slots := 0, locals := 0 } : Room)).room s m ([.ref (ad (27))] : List Value).toArray below meth c H locs 0 0 (MQ below (qV G g ad n a0 x) ([.ref (ad (27))] : List Value).toArray s 0 0 (fun q : Nat => a0 ≤ q)) (F0 m 63 ls []) := by
            intro fz63
            induction fz63 with
            | zero =>
              intro σ u1 u2 u3 u4 H locs ls hW hl hF
              exact absurd hF (by simp [F_X7_doDue_L63])
            | succ fz63 ih =>
              have hB63 := ih
              intro σ u1 u2 u3 u4 H locs ls hW hl hF
              unfold F_X7_doDue_L63 at hF
              refine lv_iload hx hb dX7_doDue_63 (lv_at hl 4 rfl) ?_
              refine lv_aload_n hx hb dX7_doDue_65 rfl (lv_at hl 0 rfl) ?_
              refine r_get (C := RX7) (T := TX7) (N := 39) hx hb htA ia_X7 hown hK hW (27) (tp_lt (by decide)) (cE_k (rfl : kd 27 = 9)) rfl 17 (by decide) (htA _ aw_368) rfl dX7_doDue_66 ?_
              refine lv_iload_n hx hb dX7_doDue_69 rfl (lv_at hl 3 rfl) ?_
              obtain ⟨hg12, hF⟩ := gd_some hF
              refine r_iald hx hb hK hW (43) (tp_lt (by decide)) (rfl : kd 43 = 3) hg12 dX7_doDue_70 ?_
              refine lv_icmp_ge (tgt := 104) hx hb dX7_doDue_71 (by decide) (fun hc13 => ?_) (fun hc13 => ?_)
              · replace hF := (if_pos hc13).symm.trans hF
                exact hL104 σ u1 u2 _ _ _  hW (lv_sub hl [0, 1, 2] rfl) hF
              · replace hF := (if_neg hc13).symm.trans hF
                refine lv_aload_n hx hb dX7_doDue_74 rfl (lv_at hl 0 rfl) ?_
                refine r_get (C := RX7) (T := TX7) (N := 39) hx hb htA ia_X7 hown hK hW (27) (tp_lt (by decide)) (cE_k (rfl : kd 27 = 9)) rfl 11 (by decide) (htA _ aw_362) rfl dX7_doDue_75 ?_
                refine lv_bipush (v := 32) hx hb dX7_doDue_78 (by decide) ?_
                refine lv_iload_n hx hb dX7_doDue_80 rfl (lv_at hl 1 rfl) ?_
                refine lv_imul hx hb dX7_doDue_81 ?_
                refine lv_iload hx hb dX7_doDue_82 (lv_at hl 4 rfl) ?_
                refine lv_iadd hx hb dX7_doDue_84 ?_
                refine lv_aload_n hx hb dX7_doDue_85 rfl (lv_at hl 0 rfl) ?_
                refine r_get (C := RX7) (T := TX7) (N := 39) hx hb htA ia_X7 hown hK hW (27) (tp_lt (by decide)) (cE_k (rfl : kd 27 = 9)) rfl 18 (by decide) (htA _ aw_369) rfl dX7_doDue_86 ?_
                refine lv_bipush (v := 32) hx hb dX7_doDue_89 (by decide) ?_
                refine lv_iload_n hx hb dX7_doDue_91 rfl (lv_at hl 3 rfl) ?_
                refine lv_imul hx hb dX7_doDue_92 ?_
                refine lv_iload hx hb dX7_doDue_93 (lv_at hl 4 rfl) ?_
                refine lv_iadd hx hb dX7_doDue_95 ?_
                obtain ⟨hg14, hF⟩ := gd_some hF
                refine r_bald hx hb hK hW (44) (tp_lt (by decide)) (rfl : kd 44 = 10) hg14 dX7_doDue_96 ?_
                obtain ⟨hg15, hF⟩ := gd_some hF
                refine r_bast hx hb hK hW (37) (tp_lt (by decide)) (rfl : kd 37 = 10) hg15 dX7_doDue_97 (fun H locs hW => ?_)
                obtain ⟨w16, ew16, hF⟩ := nm_some hF
                rw [← ew16] at hW
                refine lv_iinc (v := (u4 + 1)) (lv' := [(4, .int (u4 + 1)), (0, .ref (ad (27))), (1, .int u1), (2, .int u2), (3, .int u3)]) hx hb dX7_doDue_98 hl (k := 4) rfl rfl (by decide) rfl (fun ls hl => ?_)
                refine lv_goto (tgt := 63) hx hb dX7_doDue_101 (by decide) ?_
                exact hB63 w16 u1 u2 u3 (u4 + 1) _ _ _  hW (lv_sub hl [1, 2, 3, 4, 0] rfl) hF
          have hL63 := hL63 fu
          intro σ u1 u2 H locs ls hW hl hF
          unfold F_X7_doDue_L12 at hF
          refine lv_iload_n hx hb dX7_doDue_12 rfl (lv_at hl 2 rfl) ?_
          refine lv_aload_n hx hb dX7_doDue_13 rfl (lv_at hl 0 rfl) ?_
          refine r_get (C := RX7) (T := TX7) (N := 39) hx hb htA ia_X7 hown hK hW (27) (tp_lt (by decide)) (cE_k (rfl : kd 27 = 9)) rfl 15 (by decide) (htA _ aw_366) rfl dX7_doDue_14 ?_
          refine lv_iload_n hx hb dX7_doDue_17 rfl (lv_at hl 1 rfl) ?_
          obtain ⟨hg17, hF⟩ := gd_some hF
          refine r_iald hx hb hK hW (41) (tp_lt (by decide)) (rfl : kd 41 = 3) hg17 dX7_doDue_18 ?_
          refine lv_icmp_ge (tgt := 110) hx hb dX7_doDue_19 (by decide) (fun hc18 => ?_) (fun hc18 => ?_)
          · replace hF := (if_pos hc18).symm.trans hF
            exact hL110 σ u1 _ _ _  hW (lv_sub hl [0, 1] rfl) hF
          · replace hF := (if_neg hc18).symm.trans hF
            refine lv_iconst (v := 4) hx hb dX7_doDue_22 (by decide) ?_
            refine lv_iload_n hx hb dX7_doDue_23 rfl (lv_at hl 1 rfl) ?_
            refine lv_imul hx hb dX7_doDue_24 ?_
            refine lv_iload_n hx hb dX7_doDue_25 rfl (lv_at hl 2 rfl) ?_
            refine lv_iadd hx hb dX7_doDue_26 ?_
            refine lv_istore_n (lv' := [(3, .int ((4 * u1) + u2)), (0, .ref (ad (27))), (1, .int u1), (2, .int u2)]) hx hb dX7_doDue_27 rfl hl (by decide) rfl (fun ls hl => ?_)
            refine lv_aload_n hx hb dX7_doDue_28 rfl (lv_at hl 1 rfl) ?_
            refine r_get (C := RX7) (T := TX7) (N := 39) hx hb htA ia_X7 hown hK hW (27) (tp_lt (by decide)) (cE_k (rfl : kd 27 = 9)) rfl 16 (by decide) (htA _ aw_367) rfl dX7_doDue_29 ?_
            refine lv_iload_n hx hb dX7_doDue_32 rfl (lv_at hl 0 rfl) ?_
            obtain ⟨hg19, hF⟩ := gd_some hF
            refine r_iald hx hb hK hW (42) (tp_lt (by decide)) (rfl : kd 42 = 3) hg19 dX7_doDue_33 ?_
            refine lv_aload_n hx hb dX7_doDue_34 rfl (lv_at hl 1 rfl) ?_
            refine r_get (C := RX7) (T := TX7) (N := 39) hx hb htA ia_X7 hown hK hW (27) (tp_lt (by decide)) (cE_k (rfl : kd 27 = 9)) rfl 21 (by decide) (htA _ aw_403) rfl dX7_doDue_35 ?_
            refine lv_icmp_ne (tgt := 104) hx hb dX7_doDue_38 (by decide) (fun hc20 => ?_) (fun hc20 => ?_)
            · replace hF := (if_neg hc20).symm.trans hF
              exact hL104 σ u1 u2 _ _ _  hW (lv_sub hl [1, 2, 3] rfl) hF
            · replace hF := (if_pos hc20).symm.trans hF
              refine lv_aload_n hx hb dX7_doDue_41 rfl (lv_at hl 1 rfl) ?_
              refine r_get (C := RX7) (T := TX7) (N := 39) hx hb htA ia_X7 hown hK hW (27) (tp_lt (by decide)) (cE_k (rfl : kd 27 = 9)) rfl 16 (by decide) (htA _ aw_367) rfl dX7_doDue_42 ?_
              refine lv_iload_n hx hb dX7_doDue_45 rfl (lv_at hl 0 rfl) ?_
              refine lv_iconst (v := 0) hx hb dX7_doDue_46 (by decide) ?_
              obtain ⟨hg21, hF⟩ := gd_some hF
              refine r_iast hx hb hK hW (42) (tp_lt (by decide)) (rfl : kd 42 = 3) hg21 dX7_doDue_47 (fun H locs hW => ?_)
              obtain ⟨w22, ew22, hF⟩ := nm_some hF
              rw [← ew22] at hW
              refine lv_aload_n hx hb dX7_doDue_48 rfl (lv_at hl 1 rfl) ?_
              refine r_get (C := RX7) (T := TX7) (N := 39) hx hb htA ia_X7 hown hK hW (27) (tp_lt (by decide)) (cE_k (rfl : kd 27 = 9)) rfl 10 (by decide) (htA _ aw_360) rfl dX7_doDue_49 ?_
              refine lv_iload_n hx hb dX7_doDue_52 rfl (lv_at hl 2 rfl) ?_
              refine lv_aload_n hx hb dX7_doDue_53 rfl (lv_at hl 1 rfl) ?_
              refine r_get (C := RX7) (T := TX7) (N := 39) hx hb htA ia_X7 hown hK hW (27) (tp_lt (by decide)) (cE_k (rfl : kd 27 = 9)) rfl 17 (by decide) (htA _ aw_368) rfl dX7_doDue_54 ?_
              refine lv_iload_n hx hb dX7_doDue_57 rfl (lv_at hl 0 rfl) ?_
              obtain ⟨hg23, hF⟩ := gd_some hF
              refine r_iald hx hb hK hW (43) (tp_lt (by decide)) (rfl : kd 43 = 3) hg23 dX7_doDue_58 ?_
              obtain ⟨hg24, hF⟩ := gd_some hF
              refine r_iast hx hb hK hW (36) (tp_lt (by decide)) (rfl : kd 36 = 3) hg24 dX7_doDue_59 (fun H locs hW => ?_)
              obtain ⟨w25, ew25, hF⟩ := nm_some hF
              rw [← ew25] at hW
              refine lv_iconst (v := 0) hx hb dX7_doDue_60 (by decide) ?_
              refine lv_istore (lv' := [(4, .int 0), (3, .int ((4 * u1) + u2)), (0, .ref (ad (27))), (1, .int u1), (2, .int u2)]) hx hb dX7_doDue_61 hl (by decide) rfl (fun ls hl => ?_)
              exact hL63 w25 u1 u2 ((4 * u1) + u2) 0 _ _ _  hW (lv_sub hl [2, 3, 4, 1, 0] rfl) hF
      have hL12 := hL12 fu
      intro σ u1 H locs ls hW hl hF
      unfold F_X7_doDue_L2 at hF
      refine lv_iload_n hx hb dX7_doDue_2 rfl (lv_at hl 1 rfl) ?_
      refine lv_aload_n hx hb dX7_doDue_3 rfl (lv_at hl 0 rfl) ?_
      refine r_get (C := RX7) (T := TX7) (N := 39) hx hb htA ia_X7 hown hK hW (27) (tp_lt (by decide)) (cE_k (rfl : kd 27 = 9)) rfl 1 (by decide) (htA _ aw_389) rfl dX7_doDue_4 ?_
      refine lv_icmp_ge (tgt := 116) hx hb dX7_doDue_7 (by decide) (fun hc26 => ?_) (fun hc26 => ?_)
      · replace hF := (if_pos hc26).symm.trans hF
        exact hL116 σ _ _ _  hW (lv_sub hl [] rfl) hF
      · replace hF := (if_neg hc26).symm.trans hF
        refine lv_iconst (v := 0) hx hb dX7_doDue_10 (by decide) ?_
        refine lv_istore_n (lv' := [(2, .int 0), (0, .ref (ad (27))), (1, .int u1)]) hx hb dX7_doDue_11 rfl hl (by decide) rfl (fun ls hl => ?_)
        exact hL12 σ u1 0 _ _ _  hW (lv_sub hl [1, 2, 0] rfl) hF
  have hL2 := hL2 fu
  have hl := lv_entry ([.ref (ad (27))]) (n := 5) (Nat.le_of_ble_eq_true rfl)
  rw [lg_entry_eq]
  generalize (lg_sl ([.ref (ad (27))]) ++ List.replicate (5 - (lg_sl ([.ref (ad (27))])).length) Slot.unset).toArray = ls at hl ⊢
  have hl : lv_has ls 5 [(0, .ref (ad (27)))] := hl
  unfold F_X7_doDue at hF
  refine lv_iconst (v := 0) hx hb dX7_doDue_0 (by decide) ?_
  refine lv_istore_n (lv' := [(1, .int 0), (0, .ref (ad (27)))]) hx hb dX7_doDue_1 rfl hl (by decide) rfl (fun ls hl => ?_)
  exact hL2 σ 0 _ _ _  hW (lv_sub hl [1, 0] rfl) hF
def F_X7_waiting_L41 (σ : St) (u2 : Int32) : Option (St × Int32) := some (σ, u2)
def F_X7_waiting_L4 (K41 : St → Int32 → Option (St × Int32)) : Nat → St → Int32 → Int32 → Int32 → Option (St × Int32)
  | 0, _, _, _, _ => none
  | fz + 1, σ, u1, u2, u3 => gd (ib u1 (ln (41))) (if (σ.1 (41) (Int32.toNatClampNeg u1)) ≤ u3 then K41 σ u2 else gd (ib ((4 * u1) + u3) (ln (42))) (if (σ.1 (42) (Int32.toNatClampNeg ((4 * u1) + u3))) = 0 then (F_X7_waiting_L4 K41 fz) σ u1 (u2 + 1) (u3 + 1) else (F_X7_waiting_L4 K41 fz) σ u1 u2 (u3 + 1)))
def F_X7_waiting (σ : St) (x1 : Int32) : Option (St × Int32) := F_X7_waiting_L4 F_X7_waiting_L41 fu σ x1 0 0
set_option maxHeartbeats 4000000 in
set_option maxRecDepth 100000 in
theorem m_X7_waiting (l : Launch) (G : va_G) (g : Nat → ClassId) (ad : Nat → Nat) (n a0 aM : Nat) (σ : St) (x1 : Int32) (x : St × Int32) (hF : F_X7_waiting σ x1 = some x) : Met l yX7_waiting zs_X7_waiting ({ frames := 0, cells := 0, slots := 0, locals := 0 } : Room) (va_Pc [.ref (ad (27)), .int x1] (wP G g ad n a0 aM σ)) (qI G g ad n a0 x) 0 0 (fun q : Nat => a0 ≤ q) := by
  refine Met.ofW (cc := cX7_waiting) (maxL := 4) (ret := (some .int)) (by decide) rfl ?_
  intro p e s m args below meth c s₁ B hml hv
  obtain ⟨rfl, hP, hD, hK⟩ := hv
  have hx := B.exec
  have hb := B.bytes
  have hr := B.returns
  have htA : ∀ w ∈ AL, w.before _ s = true := fun w h9 => atoms_spec (ws := zs_X7_waiting) B.pre w (List.mem_cons_of_mem _ h9)
  have hown : s.vm.findClass RX7 = some m.cls := findClass_of_methodNamed B.named
  have hlocks := B.notSynchronized
  have hW : Wd G g ad n a0 s.heap σ s.heap [] := ⟨hP, hD, va_S.rf⟩
  clear hP hD
  have hL41 : ∀ (σ : St) (u2 : Int32) (H : Heap) (locs : List Loc) (ls : Array Slot), Wd G g ad n a0 s.heap σ H locs → lv_has ls 4 [(2, .int u2)] → F_X7_waiting_L41  σ u2 = some x → W p l e (headSpec zs_X7_waiting ({ frames := 0, cells := 0, slots := 0, locals := 0 } : Room)).room s m ([.ref (ad (27)), .int x1] : List Value).toArray below meth c H locs 0 0 (MQ below (qI G g ad n a0 x) ([.ref (ad (27)), .int x1] : List Value).toArray s 0 0 (fun q : Nat => a0 ≤ q)) (F0 m 41 ls []) := by
    intro σ u2 H locs ls hW hl hF
    unfold F_X7_waiting_L41 at hF
    refine lv_iload_n hx hb dX7_waiting_41 rfl (lv_at hl 0 rfl) ?_
    exact r_iret hx hb hr hlocks hW hF dX7_waiting_42
  have hL4 : ∀ (fz4 : Nat) (σ : St) (u1 : Int32) (u2 : Int32) (u3 : Int32) (H : Heap) (locs : List Loc) (ls : Array Slot), Wd G g ad n a0 s.heap σ H locs → lv_has ls 4 [(0, .ref (ad (27))), (1, .int u1), (2, .int u2), (3, .int u3)] → F_X7_waiting_L4 (F_X7_waiting_L41) fz4 σ u1 u2 u3 = some x → W p l e (headSpec zs_X7_waiting ({ frames := 0, cells := 0, slots := 0, locals := 0 } : Room)).room s m ([.ref (ad (27)), .int x1] : List Value).toArray below meth c H locs 0 0 (MQ below (qI G g ad n a0 x) ([.ref (ad (27)), .int x1] : List Value).toArray s 0 0 (fun q : Nat => a0 ≤ q)) (F0 m 4 ls []) := by
    intro fz4
    induction fz4 with
    | zero =>
      intro σ u1 u2 u3 H locs ls hW hl hF
      exact absurd hF (by simp [F_X7_waiting_L4])
    | succ fz4 ih =>
      have hB4 := ih
      intro σ u1 u2 u3 H locs ls hW hl hF
      unfold F_X7_waiting_L4 at hF
      refine lv_iload_n hx hb dX7_waiting_4 rfl (lv_at hl 3 rfl) ?_
      refine lv_aload_n hx hb dX7_waiting_5 rfl (lv_at hl 0 rfl) ?_
      refine r_get (C := RX7) (T := TX7) (N := 39) hx hb htA ia_X7 hown hK hW (27) (tp_lt (by decide)) (cE_k (rfl : kd 27 = 9)) rfl 15 (by decide) (htA _ aw_366) rfl dX7_waiting_6 ?_
      refine lv_iload_n hx hb dX7_waiting_9 rfl (lv_at hl 1 rfl) ?_
      obtain ⟨hg3, hF⟩ := gd_some hF
      refine r_iald hx hb hK hW (41) (tp_lt (by decide)) (rfl : kd 41 = 3) hg3 dX7_waiting_10 ?_
      refine lv_icmp_ge (tgt := 41) hx hb dX7_waiting_11 (by decide) (fun hc4 => ?_) (fun hc4 => ?_)
      · replace hF := (if_pos hc4).symm.trans hF
        exact hL41 σ u2 _ _ _  hW (lv_sub hl [2] rfl) hF
      · replace hF := (if_neg hc4).symm.trans hF
        refine lv_aload_n hx hb dX7_waiting_14 rfl (lv_at hl 0 rfl) ?_
        refine r_get (C := RX7) (T := TX7) (N := 39) hx hb htA ia_X7 hown hK hW (27) (tp_lt (by decide)) (cE_k (rfl : kd 27 = 9)) rfl 16 (by decide) (htA _ aw_367) rfl dX7_waiting_15 ?_
        refine lv_iconst (v := 4) hx hb dX7_waiting_18 (by decide) ?_
        refine lv_iload_n hx hb dX7_waiting_19 rfl (lv_at hl 1 rfl) ?_
        refine lv_imul hx hb dX7_waiting_20 ?_
        refine lv_iload_n hx hb dX7_waiting_21 rfl (lv_at hl 3 rfl) ?_
        refine lv_iadd hx hb dX7_waiting_22 ?_
        obtain ⟨hg5, hF⟩ := gd_some hF
        refine r_iald hx hb hK hW (42) (tp_lt (by decide)) (rfl : kd 42 = 3) hg5 dX7_waiting_23 ?_
        refine lv_if_ne (tgt := 33) hx hb dX7_waiting_24 (by decide) (fun hc6 => ?_) (fun hc6 => ?_)
        · replace hF := (if_neg hc6).symm.trans hF
          refine lv_iload_n hx hb dX7_waiting_33 rfl (lv_at hl 2 rfl) ?_
          refine lv_istore_n (lv' := [(2, .int u2), (0, .ref (ad (27))), (1, .int u1), (3, .int u3)]) hx hb dX7_waiting_34 rfl hl (by decide) rfl (fun ls hl => ?_)
          refine lv_iinc (v := (u3 + 1)) (lv' := [(3, .int (u3 + 1)), (2, .int u2), (0, .ref (ad (27))), (1, .int u1)]) hx hb dX7_waiting_35 hl (k := 3) rfl rfl (by decide) rfl (fun ls hl => ?_)
          refine lv_goto (tgt := 4) hx hb dX7_waiting_38 (by decide) ?_
          exact hB4 σ u1 u2 (u3 + 1) _ _ _  hW (lv_sub hl [2, 3, 1, 0] rfl) hF
        · replace hF := (if_pos hc6).symm.trans hF
          refine lv_iload_n hx hb dX7_waiting_27 rfl (lv_at hl 2 rfl) ?_
          refine lv_iconst (v := 1) hx hb dX7_waiting_28 (by decide) ?_
          refine lv_iadd hx hb dX7_waiting_29 ?_
          refine lv_goto (tgt := 34) hx hb dX7_waiting_30 (by decide) ?_
          refine lv_istore_n (lv' := [(2, .int (u2 + 1)), (0, .ref (ad (27))), (1, .int u1), (3, .int u3)]) hx hb dX7_waiting_34 rfl hl (by decide) rfl (fun ls hl => ?_)
          refine lv_iinc (v := (u3 + 1)) (lv' := [(3, .int (u3 + 1)), (2, .int (u2 + 1)), (0, .ref (ad (27))), (1, .int u1)]) hx hb dX7_waiting_35 hl (k := 3) rfl rfl (by decide) rfl (fun ls hl => ?_)
          refine lv_goto (tgt := 4) hx hb dX7_waiting_38 (by decide) ?_
          exact hB4 σ u1 (u2 + 1) (u3 + 1) _ _ _  hW (lv_sub hl [2, 3, 1, 0] rfl) hF
  have hL4 := hL4 fu
  have hl := lv_entry ([.ref (ad (27)), .int x1]) (n := 4) (Nat.le_of_ble_eq_true rfl)
  rw [lg_entry_eq]
  generalize (lg_sl ([.ref (ad (27)), .int x1]) ++ List.replicate (4 - (lg_sl ([.ref (ad (27)), .int x1])).length) Slot.unset).toArray = ls at hl ⊢
  have hl : lv_has ls 4 [(0, .ref (ad (27))), (1, .int x1)] := hl
  unfold F_X7_waiting at hF
  refine lv_iconst (v := 0) hx hb dX7_waiting_0 (by decide) ?_
  refine lv_istore_n (lv' := [(2, .int 0), (0, .ref (ad (27))), (1, .int x1)]) hx hb dX7_waiting_1 rfl hl (by decide) rfl (fun ls hl => ?_)
  refine lv_iconst (v := 0) hx hb dX7_waiting_2 (by decide) ?_
  refine lv_istore_n (lv' := [(3, .int 0), (2, .int 0), (0, .ref (ad (27))), (1, .int x1)]) hx hb dX7_waiting_3 rfl hl (by decide) rfl (fun ls hl => ?_)
  exact hL4 σ x1 0 0 _ _ _  hW (lv_sub hl [2, 3, 1, 0] rfl) hF
def F_X7_takeLevels_L56 (σ : St) (u1 : Int32) : Option (St) := gd (ib u1 (ln (33))) (if (σ.1 (27) 23) ≤ (σ.1 (33) (Int32.toNatClampNeg u1)) then some σ else gd (ib u1 (ln (40))) (nm (sI σ (40) (Int32.toNatClampNeg u1) (σ.1 (27) 21)) (fun w13 => some w13)))
def F_X7_takeLevels_L2 (K56 : St → Int32 → Option (St)) : Nat → St → Int32 → Int32 → Option (St)
  | 0, _, _, _ => none
  | fz + 1, σ, u1, u2 => (F_X7_footprint σ u1).bind (fun y14 => if y14.2 ≤ u2 then K56 y14.1 u1 else gd (ib u1 (ln (33))) (if (y14.1.1 (27) 23) ≤ ((y14.1.1 (33) (Int32.toNatClampNeg u1)) + u2) then (F_X7_takeLevels_L2 K56 fz) y14.1 u1 (u2 + 1) else gd (ib u1 (ln (33))) ((F_X7_at y14.1 ((y14.1.1 (33) (Int32.toNatClampNeg u1)) + u2)).bind (fun y19 => gd (ib ((512 * u1) + u2) (ln (39))) (nm (sI y19.1 (39) (Int32.toNatClampNeg ((512 * u1) + u2)) y19.2) (fun w21 => (F_X7_takeLevels_L2 K56 fz) w21 u1 (u2 + 1)))))))
def F_X7_takeLevels (σ : St) (x1 : Int32) : Option (St) := F_X7_takeLevels_L2 F_X7_takeLevels_L56 fu σ x1 0
set_option maxHeartbeats 4000000 in
set_option maxRecDepth 100000 in
theorem m_X7_takeLevels (l : Launch) (G : va_G) (g : Nat → ClassId) (ad : Nat → Nat) (n a0 aM : Nat) (σ : St) (x1 : Int32) (x : St) (hF : F_X7_takeLevels σ x1 = some x) : Met l yX7_takeLevels zs_X7_takeLevels ({ frames := 1, cells := 0, slots := 0, locals := 21 } : Room) (va_Pc [.ref (ad (27)), .int x1] (wP G g ad n a0 aM σ)) (qV G g ad n a0 x) 0 0 (fun q : Nat => a0 ≤ q) := by
  refine Met.ofW (cc := cX7_takeLevels) (maxL := 3) (ret := none) (by decide) rfl ?_
  intro p e s m args below meth c s₁ B hml hv
  obtain ⟨rfl, hP, hD, hK⟩ := hv
  have hx := B.exec
  have hb := B.bytes
  have hr := B.returns
  have htA : ∀ w ∈ AL, w.before _ s = true := fun w h9 => atoms_spec (ws := zs_X7_takeLevels) B.pre w (List.mem_cons_of_mem _ h9)
  have hown : s.vm.findClass RX7 = some m.cls := findClass_of_methodNamed B.named
  have hlocks := B.notSynchronized
  have hW : Wd G g ad n a0 s.heap σ s.heap [] := ⟨hP, hD, va_S.rf⟩
  clear hP hD
  have hL56 : ∀ (σ : St) (u1 : Int32) (H : Heap) (locs : List Loc) (ls : Array Slot), Wd G g ad n a0 s.heap σ H locs → lv_has ls 3 [(0, .ref (ad (27))), (1, .int u1)] → F_X7_takeLevels_L56  σ u1 = some x → W p l e (headSpec zs_X7_takeLevels ({ frames := 1, cells := 0, slots := 0, locals := 21 } : Room)).room s m ([.ref (ad (27)), .int x1] : List Value).toArray below meth c H locs 0 0 (MQ below (qV G g ad n a0 x) ([.ref (ad (27)), .int x1] : List Value).toArray s 0 0 (fun q : Nat => a0 ≤ q)) (F0 m 56 ls []) := by
    intro σ u1 H locs ls hW hl hF
    unfold F_X7_takeLevels_L56 at hF
    refine lv_aload_n hx hb dX7_takeLevels_56 rfl (lv_at hl 0 rfl) ?_
    refine r_get (C := RX7) (T := TX7) (N := 39) hx hb htA ia_X7 hown hK hW (27) (tp_lt (by decide)) (cE_k (rfl : kd 27 = 9)) rfl 7 (by decide) (htA _ aw_357) rfl dX7_takeLevels_57 ?_
    refine lv_iload_n hx hb dX7_takeLevels_60 rfl (lv_at hl 1 rfl) ?_
    obtain ⟨hg10, hF⟩ := gd_some hF
    refine r_iald hx hb hK hW (33) (tp_lt (by decide)) (rfl : kd 33 = 3) hg10 dX7_takeLevels_61 ?_
    refine lv_aload_n hx hb dX7_takeLevels_62 rfl (lv_at hl 0 rfl) ?_
    refine r_get (C := RX7) (T := TX7) (N := 39) hx hb htA ia_X7 hown hK hW (27) (tp_lt (by decide)) (cE_k (rfl : kd 27 = 9)) rfl 23 (by decide) (htA _ aw_404) rfl dX7_takeLevels_63 ?_
    refine lv_icmp_ge (tgt := 79) hx hb dX7_takeLevels_66 (by decide) (fun hc11 => ?_) (fun hc11 => ?_)
    · replace hF := (if_pos hc11).symm.trans hF
      exact r_vret hx hb hr hlocks hW hF dX7_takeLevels_79
    · replace hF := (if_neg hc11).symm.trans hF
      refine lv_aload_n hx hb dX7_takeLevels_69 rfl (lv_at hl 0 rfl) ?_
      refine r_get (C := RX7) (T := TX7) (N := 39) hx hb htA ia_X7 hown hK hW (27) (tp_lt (by decide)) (cE_k (rfl : kd 27 = 9)) rfl 14 (by decide) (htA _ aw_365) rfl dX7_takeLevels_70 ?_
      refine lv_iload_n hx hb dX7_takeLevels_73 rfl (lv_at hl 1 rfl) ?_
      refine lv_aload_n hx hb dX7_takeLevels_74 rfl (lv_at hl 0 rfl) ?_
      refine r_get (C := RX7) (T := TX7) (N := 39) hx hb htA ia_X7 hown hK hW (27) (tp_lt (by decide)) (cE_k (rfl : kd 27 = 9)) rfl 21 (by decide) (htA _ aw_403) rfl dX7_takeLevels_75 ?_
      obtain ⟨hg12, hF⟩ := gd_some hF
      refine r_iast hx hb hK hW (40) (tp_lt (by decide)) (rfl : kd 40 = 3) hg12 dX7_takeLevels_78 (fun H locs hW => ?_)
      obtain ⟨w13, ew13, hF⟩ := nm_some hF
      rw [← ew13] at hW
      exact r_vret hx hb hr hlocks hW hF dX7_takeLevels_79
  have hL2 : ∀ (fz2 : Nat) (σ : St) (u1 : Int32) (u2 : Int32) (H : Heap) (locs : List Loc) (ls : Array Slot), Wd G g ad n a0 s.heap σ H locs → lv_has ls 3 [(0, .ref (ad (27))), (1, .int u1), (2, .int u2)] → F_X7_takeLevels_L2 (F_X7_takeLevels_L56) fz2 σ u1 u2 = some x → W p l e (headSpec zs_X7_takeLevels ({ frames := 1, cells := 0, slots := 0, locals := 21 } : Room)).room s m ([.ref (ad (27)), .int x1] : List Value).toArray below meth c H locs 0 0 (MQ below (qV G g ad n a0 x) ([.ref (ad (27)), .int x1] : List Value).toArray s 0 0 (fun q : Nat => a0 ≤ q)) (F0 m 2 ls []) := by
    intro fz2
    induction fz2 with
    | zero =>
      intro σ u1 u2 H locs ls hW hl hF
      exact absurd hF (by simp [F_X7_takeLevels_L2])
    | succ fz2 ih =>
      have hB2 := ih
      intro σ u1 u2 H locs ls hW hl hF
      unfold F_X7_takeLevels_L2 at hF
      refine lv_iload_n hx hb dX7_takeLevels_2 rfl (lv_at hl 2 rfl) ?_
      refine lv_aload_n hx hb dX7_takeLevels_3 rfl (lv_at hl 0 rfl) ?_
      refine lv_iload_n hx hb dX7_takeLevels_4 rfl (lv_at hl 1 rfl) ?_
      obtain ⟨y14, hy14, hF⟩ := bd_some hF
      refine r_bi (va_runV (As := [.int u1]) (rest := [.int u2]) ⟨hx, hb, hml, hown, htA⟩ (m_X7_footprint l G g ad n a0 aM σ u1 y14  hy14) (cwV 1 htA (gV aw_405 aw_406 aw_407 aw_382 gz_X7_footprint) rfl rfl rfl (by decide +kernel) ⟨Nat.le_of_ble_eq_true rfl, Nat.le_of_ble_eq_true rfl⟩) (r_preV hK hW (27) (tp_lt (by decide)) (cE_k (rfl : kd 27 = 9)) rfl [.int u1]) rfl rfl hl.1 rfl (lv_room (Nat.le_of_ble_eq_true rfl)) dX7_takeLevels_5 ⟨Nat.zero_le _, Nat.zero_le _⟩) hW (fun H locs hW => ?_)
      refine lv_icmp_ge (tgt := 56) hx hb dX7_takeLevels_8 (by decide) (fun hc15 => ?_) (fun hc15 => ?_)
      · replace hF := (if_pos hc15).symm.trans hF
        exact hL56 y14.1 u1 _ _ _  hW (lv_sub hl [0, 1] rfl) hF
      · replace hF := (if_neg hc15).symm.trans hF
        refine lv_aload_n hx hb dX7_takeLevels_11 rfl (lv_at hl 0 rfl) ?_
        refine r_get (C := RX7) (T := TX7) (N := 39) hx hb htA ia_X7 hown hK hW (27) (tp_lt (by decide)) (cE_k (rfl : kd 27 = 9)) rfl 7 (by decide) (htA _ aw_357) rfl dX7_takeLevels_12 ?_
        refine lv_iload_n hx hb dX7_takeLevels_15 rfl (lv_at hl 1 rfl) ?_
        obtain ⟨hg16, hF⟩ := gd_some hF
        refine r_iald hx hb hK hW (33) (tp_lt (by decide)) (rfl : kd 33 = 3) hg16 dX7_takeLevels_16 ?_
        refine lv_iload_n hx hb dX7_takeLevels_17 rfl (lv_at hl 2 rfl) ?_
        refine lv_iadd hx hb dX7_takeLevels_18 ?_
        refine lv_aload_n hx hb dX7_takeLevels_19 rfl (lv_at hl 0 rfl) ?_
        refine r_get (C := RX7) (T := TX7) (N := 39) hx hb htA ia_X7 hown hK hW (27) (tp_lt (by decide)) (cE_k (rfl : kd 27 = 9)) rfl 23 (by decide) (htA _ aw_404) rfl dX7_takeLevels_20 ?_
        refine lv_icmp_ge (tgt := 50) hx hb dX7_takeLevels_23 (by decide) (fun hc17 => ?_) (fun hc17 => ?_)
        · replace hF := (if_pos hc17).symm.trans hF
          refine lv_iinc (v := (u2 + 1)) (lv' := [(2, .int (u2 + 1)), (0, .ref (ad (27))), (1, .int u1)]) hx hb dX7_takeLevels_50 hl (k := 2) rfl rfl (by decide) rfl (fun ls hl => ?_)
          refine lv_goto (tgt := 2) hx hb dX7_takeLevels_53 (by decide) ?_
          exact hB2 y14.1 u1 (u2 + 1) _ _ _  hW (lv_sub hl [1, 2, 0] rfl) hF
        · replace hF := (if_neg hc17).symm.trans hF
          refine lv_aload_n hx hb dX7_takeLevels_26 rfl (lv_at hl 0 rfl) ?_
          refine r_get (C := RX7) (T := TX7) (N := 39) hx hb htA ia_X7 hown hK hW (27) (tp_lt (by decide)) (cE_k (rfl : kd 27 = 9)) rfl 13 (by decide) (htA _ aw_364) rfl dX7_takeLevels_27 ?_
          refine lv_sipush (v := 512) hx hb dX7_takeLevels_30 (by decide) ?_
          refine lv_iload_n hx hb dX7_takeLevels_33 rfl (lv_at hl 1 rfl) ?_
          refine lv_imul hx hb dX7_takeLevels_34 ?_
          refine lv_iload_n hx hb dX7_takeLevels_35 rfl (lv_at hl 2 rfl) ?_
          refine lv_iadd hx hb dX7_takeLevels_36 ?_
          refine lv_aload_n hx hb dX7_takeLevels_37 rfl (lv_at hl 0 rfl) ?_
          refine lv_aload_n hx hb dX7_takeLevels_38 rfl (lv_at hl 0 rfl) ?_
          refine r_get (C := RX7) (T := TX7) (N := 39) hx hb htA ia_X7 hown hK hW (27) (tp_lt (by decide)) (cE_k (rfl : kd 27 = 9)) rfl 7 (by decide) (htA _ aw_357) rfl dX7_takeLevels_39 ?_
          refine lv_iload_n hx hb dX7_takeLevels_42 rfl (lv_at hl 1 rfl) ?_
          obtain ⟨hg18, hF⟩ := gd_some hF
          refine r_iald hx hb hK hW (33) (tp_lt (by decide)) (rfl : kd 33 = 3) hg18 dX7_takeLevels_43 ?_
          refine lv_iload_n hx hb dX7_takeLevels_44 rfl (lv_at hl 2 rfl) ?_
          refine lv_iadd hx hb dX7_takeLevels_45 ?_
          obtain ⟨y19, hy19, hF⟩ := bd_some hF
          refine r_bi (va_runV (As := [.int ((y14.1.1 (33) (Int32.toNatClampNeg u1)) + u2)]) (rest := [.int ((512 * u1) + u2), .ref (ad (39))]) ⟨hx, hb, hml, hown, htA⟩ (m_X7_at l G g ad n a0 aM y14.1 ((y14.1.1 (33) (Int32.toNatClampNeg u1)) + u2) y19  hy19) (cwV 1 htA (gV aw_398 aw_399 aw_400 aw_382 gz_X7_at) rfl rfl rfl (by decide +kernel) ⟨Nat.le_of_ble_eq_true rfl, Nat.le_of_ble_eq_true rfl⟩) (r_preV hK hW (27) (tp_lt (by decide)) (cE_k (rfl : kd 27 = 9)) rfl [.int ((y14.1.1 (33) (Int32.toNatClampNeg u1)) + u2)]) rfl rfl hl.1 rfl (lv_room (Nat.le_of_ble_eq_true rfl)) dX7_takeLevels_46 ⟨Nat.zero_le _, Nat.zero_le _⟩) hW (fun H locs hW => ?_)
          obtain ⟨hg20, hF⟩ := gd_some hF
          refine r_iast hx hb hK hW (39) (tp_lt (by decide)) (rfl : kd 39 = 3) hg20 dX7_takeLevels_49 (fun H locs hW => ?_)
          obtain ⟨w21, ew21, hF⟩ := nm_some hF
          rw [← ew21] at hW
          refine lv_iinc (v := (u2 + 1)) (lv' := [(2, .int (u2 + 1)), (0, .ref (ad (27))), (1, .int u1)]) hx hb dX7_takeLevels_50 hl (k := 2) rfl rfl (by decide) rfl (fun ls hl => ?_)
          refine lv_goto (tgt := 2) hx hb dX7_takeLevels_53 (by decide) ?_
          exact hB2 w21 u1 (u2 + 1) _ _ _  hW (lv_sub hl [1, 2, 0] rfl) hF
  have hL2 := hL2 fu
  have hl := lv_entry ([.ref (ad (27)), .int x1]) (n := 3) (Nat.le_of_ble_eq_true rfl)
  rw [lg_entry_eq]
  generalize (lg_sl ([.ref (ad (27)), .int x1]) ++ List.replicate (3 - (lg_sl ([.ref (ad (27)), .int x1])).length) Slot.unset).toArray = ls at hl ⊢
  have hl : lv_has ls 3 [(0, .ref (ad (27))), (1, .int x1)] := hl
  unfold F_X7_takeLevels at hF
  refine lv_iconst (v := 0) hx hb dX7_takeLevels_0 (by decide) ?_
  refine lv_istore_n (lv' := [(2, .int 0), (0, .ref (ad (27))), (1, .int x1)]) hx hb dX7_takeLevels_1 rfl hl (by decide) rfl (fun ls hl => ?_)
  exact hL2 σ x1 0 _ _ _  hW (lv_sub hl [1, 2, 0] rfl) hF
def F_X7_isPacket_L99 (σ : St) (u1 : Int32) : Option (St × Int32) := (F_X7_at σ 2).bind (fun y11 => (F_X7_two y11.1 y11.2).bind (fun y12 => if (u1 - u1 / 65536 * 65536) = y12.2 then some (y12.1, 1) else some (y12.1, 0)))
def F_X7_isPacket_L76 (K99 : St → Int32 → Option (St × Int32)) : Nat → St → Int32 → Int32 → Option (St × Int32)
  | 0, _, _, _ => none
  | fz + 1, σ, u1, u2 => (F_X7_at σ 2).bind (fun y14 => if y14.2 ≤ u2 then K99 y14.1 u1 else (F_X7_at y14.1 u2).bind (fun y16 => (F_X7_isPacket_L76 K99 fz) y16.1 (u1 + y16.2) (u2 + 1)))
def F_X7_isPacket (σ : St) : Option (St × Int32) := if (σ.1 (27) 23) < 26 then some (σ, 0) else (F_X7_at σ 0).bind (fun y18 => if y18.2 = 204 then (F_X7_at y18.1 1).bind (fun y20 => if y20.2 = 1 then (F_X7_at y20.1 2).bind (fun y22 => if y22.2 < 24 then some (y22.1, 0) else (F_X7_at y22.1 2).bind (fun y24 => if (y22.1.1 (27) 23) = (y24.2 + 2) then (F_X7_at y24.1 23).bind (fun y26 => (F_X7_at y26.1 2).bind (fun y27 => if y26.2 = (y27.2 - 24) then F_X7_isPacket_L76 F_X7_isPacket_L99 fu y27.1 0 0 else some (y27.1, 0))) else some (y24.1, 0))) else some (y20.1, 0)) else some (y18.1, 0))
set_option maxHeartbeats 4000000 in
set_option maxRecDepth 100000 in
theorem m_X7_isPacket (l : Launch) (G : va_G) (g : Nat → ClassId) (ad : Nat → Nat) (n a0 aM : Nat) (σ : St) (x : St × Int32) (hF : F_X7_isPacket σ = some x) : Met l yX7_isPacket zs_X7_isPacket ({ frames := 2, cells := 0, slots := 0, locals := 42 } : Room) (va_Pc [.ref (ad (27))] (wP G g ad n a0 aM σ)) (qI G g ad n a0 x) 0 0 (fun q : Nat => a0 ≤ q) := by
  refine Met.ofW (cc := cX7_isPacket) (maxL := 3) (ret := (some .boolean)) (by decide) rfl ?_
  intro p e s m args below meth c s₁ B hml hv
  obtain ⟨rfl, hP, hD, hK⟩ := hv
  have hx := B.exec
  have hb := B.bytes
  have hr := B.returns
  have htA : ∀ w ∈ AL, w.before _ s = true := fun w h9 => atoms_spec (ws := zs_X7_isPacket) B.pre w (List.mem_cons_of_mem _ h9)
  have hown : s.vm.findClass RX7 = some m.cls := findClass_of_methodNamed B.named
  have hlocks := B.notSynchronized
  have hW : Wd G g ad n a0 s.heap σ s.heap [] := ⟨hP, hD, va_S.rf⟩
  clear hP hD
  have hL99 : ∀ (σ : St) (u1 : Int32) (H : Heap) (locs : List Loc) (ls : Array Slot), Wd G g ad n a0 s.heap σ H locs → lv_has ls 3 [(0, .ref (ad (27))), (1, .int u1)] → F_X7_isPacket_L99  σ u1 = some x → W p l e (headSpec zs_X7_isPacket ({ frames := 2, cells := 0, slots := 0, locals := 42 } : Room)).room s m ([.ref (ad (27))] : List Value).toArray below meth c H locs 0 0 (MQ below (qI G g ad n a0 x) ([.ref (ad (27))] : List Value).toArray s 0 0 (fun q : Nat => a0 ≤ q)) (F0 m 99 ls []) := by
    intro σ u1 H locs ls hW hl hF
    unfold F_X7_isPacket_L99 at hF
    refine lv_iload_n hx hb dX7_isPacket_99 rfl (lv_at hl 1 rfl) ?_
    refine lv_ldc (v := 65536) hx hb hown (htA _ aw_409) dX7_isPacket_100 ?_
    refine lv_irem hx hb dX7_isPacket_102 (by decide) ?_
    refine lv_aload_n hx hb dX7_isPacket_103 rfl (lv_at hl 0 rfl) ?_
    refine lv_aload_n hx hb dX7_isPacket_104 rfl (lv_at hl 0 rfl) ?_
    refine lv_iconst (v := 2) hx hb dX7_isPacket_105 (by decide) ?_
    obtain ⟨y11, hy11, hF⟩ := bd_some hF
    refine r_bi (va_runV (As := [.int 2]) (rest := [.ref (ad (27)), .int (u1 - u1 / 65536 * 65536)]) ⟨hx, hb, hml, hown, htA⟩ (m_X7_at l G g ad n a0 aM σ 2 y11  hy11) (cwV 1 htA (gV aw_398 aw_399 aw_400 aw_382 gz_X7_at) rfl rfl rfl (by decide +kernel) ⟨Nat.le_of_ble_eq_true rfl, Nat.le_of_ble_eq_true rfl⟩) (r_preV hK hW (27) (tp_lt (by decide)) (cE_k (rfl : kd 27 = 9)) rfl [.int 2]) rfl rfl hl.1 rfl (lv_room (Nat.le_of_ble_eq_true rfl)) dX7_isPacket_106 ⟨Nat.zero_le _, Nat.zero_le _⟩) hW (fun H locs hW => ?_)
    obtain ⟨y12, hy12, hF⟩ := bd_some hF
    refine r_bi (va_runV (As := [.int y11.2]) (rest := [.int (u1 - u1 / 65536 * 65536)]) ⟨hx, hb, hml, hown, htA⟩ (m_X7_two l G g ad n a0 aM y11.1 y11.2 y12  hy12) (cwV 1 htA (gV aw_410 aw_411 aw_412 aw_382 gz_X7_two) rfl rfl rfl (by decide +kernel) ⟨Nat.le_of_ble_eq_true rfl, Nat.le_of_ble_eq_true rfl⟩) (r_preV hK hW (27) (tp_lt (by decide)) (cE_k (rfl : kd 27 = 9)) rfl [.int y11.2]) rfl rfl hl.1 rfl (lv_room (Nat.le_of_ble_eq_true rfl)) dX7_isPacket_109 ⟨Nat.zero_le _, Nat.zero_le _⟩) hW (fun H locs hW => ?_)
    refine lv_icmp_ne (tgt := 119) hx hb dX7_isPacket_112 (by decide) (fun hc13 => ?_) (fun hc13 => ?_)
    · replace hF := (if_neg hc13).symm.trans hF
      refine lv_iconst (v := 0) hx hb dX7_isPacket_119 (by decide) ?_
      exact r_zret hx hb hr hlocks hW rfl hF dX7_isPacket_120
    · replace hF := (if_pos hc13).symm.trans hF
      refine lv_iconst (v := 1) hx hb dX7_isPacket_115 (by decide) ?_
      refine lv_goto (tgt := 120) hx hb dX7_isPacket_116 (by decide) ?_
      exact r_zret hx hb hr hlocks hW rfl hF dX7_isPacket_120
  have hL76 : ∀ (fz76 : Nat) (σ : St) (u1 : Int32) (u2 : Int32) (H : Heap) (locs : List Loc) (ls : Array Slot), Wd G g ad n a0 s.heap σ H locs → lv_has ls 3 [(0, .ref (ad (27))), (1, .int u1), (2, .int u2)] → F_X7_isPacket_L76 (F_X7_isPacket_L99) fz76 σ u1 u2 = some x → W p l e (headSpec zs_X7_isPacket ({ frames := 2, cells := 0, slots := 0, locals := 42 } : Room)).room s m ([.ref (ad (27))] : List Value).toArray below meth c H locs 0 0 (MQ below (qI G g ad n a0 x) ([.ref (ad (27))] : List Value).toArray s 0 0 (fun q : Nat => a0 ≤ q)) (F0 m 76 ls []) := by
    intro fz76
    induction fz76 with
    | zero =>
      intro σ u1 u2 H locs ls hW hl hF
      exact absurd hF (by simp [F_X7_isPacket_L76])
    | succ fz76 ih =>
      have hB76 := ih
      intro σ u1 u2 H locs ls hW hl hF
      unfold F_X7_isPacket_L76 at hF
      refine lv_iload_n hx hb dX7_isPacket_76 rfl (lv_at hl 2 rfl) ?_
      refine lv_aload_n hx hb dX7_isPacket_77 rfl (lv_at hl 0 rfl) ?_
      refine lv_iconst (v := 2) hx hb dX7_isPacket_78 (by decide) ?_
      obtain ⟨y14, hy14, hF⟩ := bd_some hF
      refine r_bi (va_runV (As := [.int 2]) (rest := [.int u2]) ⟨hx, hb, hml, hown, htA⟩ (m_X7_at l G g ad n a0 aM σ 2 y14  hy14) (cwV 1 htA (gV aw_398 aw_399 aw_400 aw_382 gz_X7_at) rfl rfl rfl (by decide +kernel) ⟨Nat.le_of_ble_eq_true rfl, Nat.le_of_ble_eq_true rfl⟩) (r_preV hK hW (27) (tp_lt (by decide)) (cE_k (rfl : kd 27 = 9)) rfl [.int 2]) rfl rfl hl.1 rfl (lv_room (Nat.le_of_ble_eq_true rfl)) dX7_isPacket_79 ⟨Nat.zero_le _, Nat.zero_le _⟩) hW (fun H locs hW => ?_)
      refine lv_icmp_ge (tgt := 99) hx hb dX7_isPacket_82 (by decide) (fun hc15 => ?_) (fun hc15 => ?_)
      · replace hF := (if_pos hc15).symm.trans hF
        exact hL99 y14.1 u1 _ _ _  hW (lv_sub hl [0, 1] rfl) hF
      · replace hF := (if_neg hc15).symm.trans hF
        refine lv_iload_n hx hb dX7_isPacket_85 rfl (lv_at hl 1 rfl) ?_
        refine lv_aload_n hx hb dX7_isPacket_86 rfl (lv_at hl 0 rfl) ?_
        refine lv_iload_n hx hb dX7_isPacket_87 rfl (lv_at hl 2 rfl) ?_
        obtain ⟨y16, hy16, hF⟩ := bd_some hF
        refine r_bi (va_runV (As := [.int u2]) (rest := [.int u1]) ⟨hx, hb, hml, hown, htA⟩ (m_X7_at l G g ad n a0 aM y14.1 u2 y16  hy16) (cwV 1 htA (gV aw_398 aw_399 aw_400 aw_382 gz_X7_at) rfl rfl rfl (by decide +kernel) ⟨Nat.le_of_ble_eq_true rfl, Nat.le_of_ble_eq_true rfl⟩) (r_preV hK hW (27) (tp_lt (by decide)) (cE_k (rfl : kd 27 = 9)) rfl [.int u2]) rfl rfl hl.1 rfl (lv_room (Nat.le_of_ble_eq_true rfl)) dX7_isPacket_88 ⟨Nat.zero_le _, Nat.zero_le _⟩) hW (fun H locs hW => ?_)
        refine lv_iadd hx hb dX7_isPacket_91 ?_
        refine lv_istore_n (lv' := [(1, .int (u1 + y16.2)), (0, .ref (ad (27))), (2, .int u2)]) hx hb dX7_isPacket_92 rfl hl (by decide) rfl (fun ls hl => ?_)
        refine lv_iinc (v := (u2 + 1)) (lv' := [(2, .int (u2 + 1)), (1, .int (u1 + y16.2)), (0, .ref (ad (27)))]) hx hb dX7_isPacket_93 hl (k := 2) rfl rfl (by decide) rfl (fun ls hl => ?_)
        refine lv_goto (tgt := 76) hx hb dX7_isPacket_96 (by decide) ?_
        exact hB76 y16.1 (u1 + y16.2) (u2 + 1) _ _ _  hW (lv_sub hl [2, 1, 0] rfl) hF
  have hL76 := hL76 fu
  have hl := lv_entry ([.ref (ad (27))]) (n := 3) (Nat.le_of_ble_eq_true rfl)
  rw [lg_entry_eq]
  generalize (lg_sl ([.ref (ad (27))]) ++ List.replicate (3 - (lg_sl ([.ref (ad (27))])).length) Slot.unset).toArray = ls at hl ⊢
  have hl : lv_has ls 3 [(0, .ref (ad (27)))] := hl
  unfold F_X7_isPacket at hF
  refine lv_aload_n hx hb dX7_isPacket_0 rfl (lv_at hl 0 rfl) ?_
  refine r_get (C := RX7) (T := TX7) (N := 39) hx hb htA ia_X7 hown hK hW (27) (tp_lt (by decide)) (cE_k (rfl : kd 27 = 9)) rfl 23 (by decide) (htA _ aw_404) rfl dX7_isPacket_1 ?_
  refine lv_bipush (v := 26) hx hb dX7_isPacket_4 (by decide) ?_
  refine lv_icmp_lt (tgt := 70) hx hb dX7_isPacket_6 (by decide) (fun hc17 => ?_) (fun hc17 => ?_)
  · replace hF := (if_pos hc17).symm.trans hF
    refine lv_iconst (v := 0) hx hb dX7_isPacket_70 (by decide) ?_
    exact r_zret hx hb hr hlocks hW rfl hF dX7_isPacket_71
  · replace hF := (if_neg hc17).symm.trans hF
    refine lv_aload_n hx hb dX7_isPacket_9 rfl (lv_at hl 0 rfl) ?_
    refine lv_iconst (v := 0) hx hb dX7_isPacket_10 (by decide) ?_
    obtain ⟨y18, hy18, hF⟩ := bd_some hF
    refine r_bi (va_runV (As := [.int 0]) (rest := []) ⟨hx, hb, hml, hown, htA⟩ (m_X7_at l G g ad n a0 aM σ 0 y18  hy18) (cwV 1 htA (gV aw_398 aw_399 aw_400 aw_382 gz_X7_at) rfl rfl rfl (by decide +kernel) ⟨Nat.le_of_ble_eq_true rfl, Nat.le_of_ble_eq_true rfl⟩) (r_preV hK hW (27) (tp_lt (by decide)) (cE_k (rfl : kd 27 = 9)) rfl [.int 0]) rfl rfl hl.1 rfl (lv_room (Nat.le_of_ble_eq_true rfl)) dX7_isPacket_11 ⟨Nat.zero_le _, Nat.zero_le _⟩) hW (fun H locs hW => ?_)
    refine lv_sipush (v := 204) hx hb dX7_isPacket_14 (by decide) ?_
    refine lv_icmp_ne (tgt := 70) hx hb dX7_isPacket_17 (by decide) (fun hc19 => ?_) (fun hc19 => ?_)
    · replace hF := (if_neg hc19).symm.trans hF
      refine lv_iconst (v := 0) hx hb dX7_isPacket_70 (by decide) ?_
      exact r_zret hx hb hr hlocks hW rfl hF dX7_isPacket_71
    · replace hF := (if_pos hc19).symm.trans hF
      refine lv_aload_n hx hb dX7_isPacket_20 rfl (lv_at hl 0 rfl) ?_
      refine lv_iconst (v := 1) hx hb dX7_isPacket_21 (by decide) ?_
      obtain ⟨y20, hy20, hF⟩ := bd_some hF
      refine r_bi (va_runV (As := [.int 1]) (rest := []) ⟨hx, hb, hml, hown, htA⟩ (m_X7_at l G g ad n a0 aM y18.1 1 y20  hy20) (cwV 1 htA (gV aw_398 aw_399 aw_400 aw_382 gz_X7_at) rfl rfl rfl (by decide +kernel) ⟨Nat.le_of_ble_eq_true rfl, Nat.le_of_ble_eq_true rfl⟩) (r_preV hK hW (27) (tp_lt (by decide)) (cE_k (rfl : kd 27 = 9)) rfl [.int 1]) rfl rfl hl.1 rfl (lv_room (Nat.le_of_ble_eq_true rfl)) dX7_isPacket_22 ⟨Nat.zero_le _, Nat.zero_le _⟩) hW (fun H locs hW => ?_)
      refine lv_iconst (v := 1) hx hb dX7_isPacket_25 (by decide) ?_
      refine lv_icmp_ne (tgt := 70) hx hb dX7_isPacket_26 (by decide) (fun hc21 => ?_) (fun hc21 => ?_)
      · replace hF := (if_neg hc21).symm.trans hF
        refine lv_iconst (v := 0) hx hb dX7_isPacket_70 (by decide) ?_
        exact r_zret hx hb hr hlocks hW rfl hF dX7_isPacket_71
      · replace hF := (if_pos hc21).symm.trans hF
        refine lv_aload_n hx hb dX7_isPacket_29 rfl (lv_at hl 0 rfl) ?_
        refine lv_iconst (v := 2) hx hb dX7_isPacket_30 (by decide) ?_
        obtain ⟨y22, hy22, hF⟩ := bd_some hF
        refine r_bi (va_runV (As := [.int 2]) (rest := []) ⟨hx, hb, hml, hown, htA⟩ (m_X7_at l G g ad n a0 aM y20.1 2 y22  hy22) (cwV 1 htA (gV aw_398 aw_399 aw_400 aw_382 gz_X7_at) rfl rfl rfl (by decide +kernel) ⟨Nat.le_of_ble_eq_true rfl, Nat.le_of_ble_eq_true rfl⟩) (r_preV hK hW (27) (tp_lt (by decide)) (cE_k (rfl : kd 27 = 9)) rfl [.int 2]) rfl rfl hl.1 rfl (lv_room (Nat.le_of_ble_eq_true rfl)) dX7_isPacket_31 ⟨Nat.zero_le _, Nat.zero_le _⟩) hW (fun H locs hW => ?_)
        refine lv_bipush (v := 24) hx hb dX7_isPacket_34 (by decide) ?_
        refine lv_icmp_lt (tgt := 70) hx hb dX7_isPacket_36 (by decide) (fun hc23 => ?_) (fun hc23 => ?_)
        · replace hF := (if_pos hc23).symm.trans hF
          refine lv_iconst (v := 0) hx hb dX7_isPacket_70 (by decide) ?_
          exact r_zret hx hb hr hlocks hW rfl hF dX7_isPacket_71
        · replace hF := (if_neg hc23).symm.trans hF
          refine lv_aload_n hx hb dX7_isPacket_39 rfl (lv_at hl 0 rfl) ?_
          refine r_get (C := RX7) (T := TX7) (N := 39) hx hb htA ia_X7 hown hK hW (27) (tp_lt (by decide)) (cE_k (rfl : kd 27 = 9)) rfl 23 (by decide) (htA _ aw_404) rfl dX7_isPacket_40 ?_
          refine lv_aload_n hx hb dX7_isPacket_43 rfl (lv_at hl 0 rfl) ?_
          refine lv_iconst (v := 2) hx hb dX7_isPacket_44 (by decide) ?_
          obtain ⟨y24, hy24, hF⟩ := bd_some hF
          refine r_bi (va_runV (As := [.int 2]) (rest := [.int (y22.1.1 (27) 23)]) ⟨hx, hb, hml, hown, htA⟩ (m_X7_at l G g ad n a0 aM y22.1 2 y24  hy24) (cwV 1 htA (gV aw_398 aw_399 aw_400 aw_382 gz_X7_at) rfl rfl rfl (by decide +kernel) ⟨Nat.le_of_ble_eq_true rfl, Nat.le_of_ble_eq_true rfl⟩) (r_preV hK hW (27) (tp_lt (by decide)) (cE_k (rfl : kd 27 = 9)) rfl [.int 2]) rfl rfl hl.1 rfl (lv_room (Nat.le_of_ble_eq_true rfl)) dX7_isPacket_45 ⟨Nat.zero_le _, Nat.zero_le _⟩) hW (fun H locs hW => ?_)
          refine lv_iconst (v := 2) hx hb dX7_isPacket_48 (by decide) ?_
          refine lv_iadd hx hb dX7_isPacket_49 ?_
          refine lv_icmp_ne (tgt := 70) hx hb dX7_isPacket_50 (by decide) (fun hc25 => ?_) (fun hc25 => ?_)
          · replace hF := (if_neg hc25).symm.trans hF
            refine lv_iconst (v := 0) hx hb dX7_isPacket_70 (by decide) ?_
            exact r_zret hx hb hr hlocks hW rfl hF dX7_isPacket_71
          · replace hF := (if_pos hc25).symm.trans hF
            refine lv_aload_n hx hb dX7_isPacket_53 rfl (lv_at hl 0 rfl) ?_
            refine lv_bipush (v := 23) hx hb dX7_isPacket_54 (by decide) ?_
            obtain ⟨y26, hy26, hF⟩ := bd_some hF
            refine r_bi (va_runV (As := [.int 23]) (rest := []) ⟨hx, hb, hml, hown, htA⟩ (m_X7_at l G g ad n a0 aM y24.1 23 y26  hy26) (cwV 1 htA (gV aw_398 aw_399 aw_400 aw_382 gz_X7_at) rfl rfl rfl (by decide +kernel) ⟨Nat.le_of_ble_eq_true rfl, Nat.le_of_ble_eq_true rfl⟩) (r_preV hK hW (27) (tp_lt (by decide)) (cE_k (rfl : kd 27 = 9)) rfl [.int 23]) rfl rfl hl.1 rfl (lv_room (Nat.le_of_ble_eq_true rfl)) dX7_isPacket_56 ⟨Nat.zero_le _, Nat.zero_le _⟩) hW (fun H locs hW => ?_)
            refine lv_aload_n hx hb dX7_isPacket_59 rfl (lv_at hl 0 rfl) ?_
            refine lv_iconst (v := 2) hx hb dX7_isPacket_60 (by decide) ?_
            obtain ⟨y27, hy27, hF⟩ := bd_some hF
            refine r_bi (va_runV (As := [.int 2]) (rest := [.int y26.2]) ⟨hx, hb, hml, hown, htA⟩ (m_X7_at l G g ad n a0 aM y26.1 2 y27  hy27) (cwV 1 htA (gV aw_398 aw_399 aw_400 aw_382 gz_X7_at) rfl rfl rfl (by decide +kernel) ⟨Nat.le_of_ble_eq_true rfl, Nat.le_of_ble_eq_true rfl⟩) (r_preV hK hW (27) (tp_lt (by decide)) (cE_k (rfl : kd 27 = 9)) rfl [.int 2]) rfl rfl hl.1 rfl (lv_room (Nat.le_of_ble_eq_true rfl)) dX7_isPacket_61 ⟨Nat.zero_le _, Nat.zero_le _⟩) hW (fun H locs hW => ?_)
            refine lv_bipush (v := 24) hx hb dX7_isPacket_64 (by decide) ?_
            refine lv_isub hx hb dX7_isPacket_66 ?_
            refine lv_icmp_eq (tgt := 72) hx hb dX7_isPacket_67 (by decide) (fun hc28 => ?_) (fun hc28 => ?_)
            · replace hF := (if_pos hc28).symm.trans hF
              refine lv_iconst (v := 0) hx hb dX7_isPacket_72 (by decide) ?_
              refine lv_istore_n (lv' := [(1, .int 0), (0, .ref (ad (27)))]) hx hb dX7_isPacket_73 rfl hl (by decide) rfl (fun ls hl => ?_)
              refine lv_iconst (v := 0) hx hb dX7_isPacket_74 (by decide) ?_
              refine lv_istore_n (lv' := [(2, .int 0), (1, .int 0), (0, .ref (ad (27)))]) hx hb dX7_isPacket_75 rfl hl (by decide) rfl (fun ls hl => ?_)
              exact hL76 y27.1 0 0 _ _ _  hW (lv_sub hl [2, 1, 0] rfl) hF
            · replace hF := (if_neg hc28).symm.trans hF
              refine lv_iconst (v := 0) hx hb dX7_isPacket_70 (by decide) ?_
              exact r_zret hx hb hr hlocks hW rfl hF dX7_isPacket_71
def F_X7_fall_L74 (σ : St) (z0 : Int32) : Option (St) := nm (sI σ (27) 25 z0) (fun w8 => some w8)
def F_X7_fall_L51 (σ : St) : Option (St) := if (σ.1 (27) 27) ≤ (σ.1 (27) 25) then F_X7_fall_L74 σ (σ.1 (27) 25) else F_X7_fall_L74 σ (σ.1 (27) 27)
def F_X7_fall_L25 (B2 : St → Int32 → Option (St)) (K51 : St → Option (St)) (σ : St) (u1 : Int32) : Option (St) := gd (ib u1 (ln (47))) (gd (ib u1 (ln (48))) (gd (ib u1 (ln (47))) (nm (sI σ (47) (Int32.toNatClampNeg u1) (vp_nar .byte (Int8.toInt32 (Int32.toInt8 ((σ.1 (47) (Int32.toNatClampNeg u1)) ||| (σ.1 (48) (Int32.toNatClampNeg u1))))))) (fun w13 => B2 w13 (u1 + 1)))))
def F_X7_fall_L2 (K51 : St → Option (St)) : Nat → St → Int32 → Option (St)
  | 0, _, _ => none
  | fz + 1, σ, u1 => if (σ.1 (27) 27) ≤ u1 then K51 σ else if u1 < (σ.1 (27) 25) then F_X7_fall_L25 (F_X7_fall_L2 K51 fz) K51 σ u1 else gd (ib u1 (ln (47))) (nm (sI σ (47) (Int32.toNatClampNeg u1) (vp_nar .byte 0)) (fun w17 => F_X7_fall_L25 (F_X7_fall_L2 K51 fz) K51 w17 u1))
def F_X7_fall (σ : St) : Option (St) := F_X7_fall_L2 F_X7_fall_L51 fu σ 0
set_option maxHeartbeats 4000000 in
set_option maxRecDepth 100000 in
theorem m_X7_fall (l : Launch) (G : va_G) (g : Nat → ClassId) (ad : Nat → Nat) (n a0 aM : Nat) (σ : St) (x : St) (hF : F_X7_fall σ = some x) : Met l yX7_fall zs_X7_fall ({ frames := 0, cells := 0, slots := 0, locals := 0 } : Room) (va_Pc [.ref (ad (27))] (wP G g ad n a0 aM σ)) (qV G g ad n a0 x) 0 0 (fun q : Nat => a0 ≤ q) := by
  refine Met.ofW (cc := cX7_fall) (maxL := 2) (ret := none) (by decide) rfl ?_
  intro p e s m args below meth c s₁ B hml hv
  obtain ⟨rfl, hP, hD, hK⟩ := hv
  have hx := B.exec
  have hb := B.bytes
  have hr := B.returns
  have htA : ∀ w ∈ AL, w.before _ s = true := fun w h9 => atoms_spec (ws := zs_X7_fall) B.pre w (List.mem_cons_of_mem _ h9)
  have hown : s.vm.findClass RX7 = some m.cls := findClass_of_methodNamed B.named
  have hlocks := B.notSynchronized
  have hW : Wd G g ad n a0 s.heap σ s.heap [] := ⟨hP, hD, va_S.rf⟩
  clear hP hD
  have hL74 : ∀ (σ : St) (z0 : Int32) (H : Heap) (locs : List Loc) (ls : Array Slot), Wd G g ad n a0 s.heap σ H locs → lv_has ls 2 [] → F_X7_fall_L74  σ z0 = some x → W p l e (headSpec zs_X7_fall ({ frames := 0, cells := 0, slots := 0, locals := 0 } : Room)).room s m ([.ref (ad (27))] : List Value).toArray below meth c H locs 0 0 (MQ below (qV G g ad n a0 x) ([.ref (ad (27))] : List Value).toArray s 0 0 (fun q : Nat => a0 ≤ q)) (F0 m 74 ls [.int z0, .ref (ad (27))]) := by
    intro σ z0 H locs ls hW hl hF
    unfold F_X7_fall_L74 at hF
    refine r_putI (C := RX7) (T := TX7) (N := 39) (ty := .int) hx hb htA ia_X7 tyX7 tyX7_ok nmX7 hown hK hW (27) (tp_lt (by decide)) (cE_k (rfl : kd 27 = 9)) rfl 25 (by decide) (cE_k (rfl : kd 27 = 9)) (htA _ aw_489) rfl (by decide +kernel) rfl rfl (Nat.le_of_ble_eq_true rfl) dX7_fall_74 (fun H locs hW => ?_)
    obtain ⟨w8, ew8, hF⟩ := nm_some hF
    rw [← ew8] at hW
    exact r_vret hx hb hr hlocks hW hF dX7_fall_77
  have hL51 : ∀ (σ : St) (H : Heap) (locs : List Loc) (ls : Array Slot), Wd G g ad n a0 s.heap σ H locs → lv_has ls 2 [(0, .ref (ad (27)))] → F_X7_fall_L51  σ = some x → W p l e (headSpec zs_X7_fall ({ frames := 0, cells := 0, slots := 0, locals := 0 } : Room)).room s m ([.ref (ad (27))] : List Value).toArray below meth c H locs 0 0 (MQ below (qV G g ad n a0 x) ([.ref (ad (27))] : List Value).toArray s 0 0 (fun q : Nat => a0 ≤ q)) (F0 m 51 ls []) := by
    intro σ H locs ls hW hl hF
    unfold F_X7_fall_L51 at hF
    refine lv_aload_n hx hb dX7_fall_51 rfl (lv_at hl 0 rfl) ?_
    refine lv_aload_n hx hb dX7_fall_52 rfl (lv_at hl 0 rfl) ?_
    refine r_get (C := RX7) (T := TX7) (N := 39) hx hb htA ia_X7 hown hK hW (27) (tp_lt (by decide)) (cE_k (rfl : kd 27 = 9)) rfl 27 (by decide) (htA _ aw_414) rfl dX7_fall_53 ?_
    refine lv_aload_n hx hb dX7_fall_56 rfl (lv_at hl 0 rfl) ?_
    refine r_get (C := RX7) (T := TX7) (N := 39) hx hb htA ia_X7 hown hK hW (27) (tp_lt (by decide)) (cE_k (rfl : kd 27 = 9)) rfl 25 (by decide) (htA _ aw_489) rfl dX7_fall_57 ?_
    refine lv_icmp_le (tgt := 70) hx hb dX7_fall_60 (by decide) (fun hc9 => ?_) (fun hc9 => ?_)
    · replace hF := (if_pos hc9).symm.trans hF
      refine lv_aload_n hx hb dX7_fall_70 rfl (lv_at hl 0 rfl) ?_
      refine r_get (C := RX7) (T := TX7) (N := 39) hx hb htA ia_X7 hown hK hW (27) (tp_lt (by decide)) (cE_k (rfl : kd 27 = 9)) rfl 25 (by decide) (htA _ aw_489) rfl dX7_fall_71 ?_
      exact hL74 σ (σ.1 (27) 25) _ _ _  hW (lv_sub hl [] rfl) hF
    · replace hF := (if_neg hc9).symm.trans hF
      refine lv_aload_n hx hb dX7_fall_63 rfl (lv_at hl 0 rfl) ?_
      refine r_get (C := RX7) (T := TX7) (N := 39) hx hb htA ia_X7 hown hK hW (27) (tp_lt (by decide)) (cE_k (rfl : kd 27 = 9)) rfl 27 (by decide) (htA _ aw_414) rfl dX7_fall_64 ?_
      refine lv_goto (tgt := 74) hx hb dX7_fall_67 (by decide) ?_
      exact hL74 σ (σ.1 (27) 27) _ _ _  hW (lv_sub hl [] rfl) hF
  have hL2 : ∀ (fz2 : Nat) (σ : St) (u1 : Int32) (H : Heap) (locs : List Loc) (ls : Array Slot), Wd G g ad n a0 s.heap σ H locs → lv_has ls 2 [(0, .ref (ad (27))), (1, .int u1)] → F_X7_fall_L2 (F_X7_fall_L51) fz2 σ u1 = some x → W p l e (headSpec zs_X7_fall ({ frames := 0, cells := 0, slots := 0, locals := 0 } : Room)).room s m ([.ref (ad (27))] : List Value).toArray below meth c H locs 0 0 (MQ below (qV G g ad n a0 x) ([.ref (ad (27))] : List Value).toArray s 0 0 (fun q : Nat => a0 ≤ q)) (F0 m 2 ls []) := by
    intro fz2
    induction fz2 with
    | zero =>
      intro σ u1 H locs ls hW hl hF
      exact absurd hF (by simp [F_X7_fall_L2])
    | succ fz2 ih =>
      have hB2 := ih
      have hL25 : ∀ (σ : St) (u1 : Int32) (H : Heap) (locs : List Loc) (ls : Array Slot), Wd G g ad n a0 s.heap σ H locs → lv_has ls 2 [(0, .ref (ad (27))), (1, .int u1)] → F_X7_fall_L25 (F_X7_fall_L2 (F_X7_fall_L51) fz2) (F_X7_fall_L51) σ u1 = some x → W p l e (headSpec zs_X7_fall ({ frames := 0, cells := 0, slots := 0, locals := 0 } : Room)).room s m ([.ref (ad (27))] : List Value).toArray below meth c H locs 0 0 (MQ below (qV G g ad n a0 x) ([.ref (ad (27))] : List Value).toArray s 0 0 (fun q : Nat => a0 ≤ q)) (F0 m 25 ls []) := by
        intro σ u1 H locs ls hW hl hF
        unfold F_X7_fall_L25 at hF
        refine lv_aload_n hx hb dX7_fall_25 rfl (lv_at hl 0 rfl) ?_
        refine r_get (C := RX7) (T := TX7) (N := 39) hx hb htA ia_X7 hown hK hW (27) (tp_lt (by decide)) (cE_k (rfl : kd 27 = 9)) rfl 24 (by decide) (htA _ aw_372) rfl dX7_fall_26 ?_
        refine lv_iload_n hx hb dX7_fall_29 rfl (lv_at hl 1 rfl) ?_
        refine lv_aload_n hx hb dX7_fall_30 rfl (lv_at hl 0 rfl) ?_
        refine r_get (C := RX7) (T := TX7) (N := 39) hx hb htA ia_X7 hown hK hW (27) (tp_lt (by decide)) (cE_k (rfl : kd 27 = 9)) rfl 24 (by decide) (htA _ aw_372) rfl dX7_fall_31 ?_
        refine lv_iload_n hx hb dX7_fall_34 rfl (lv_at hl 1 rfl) ?_
        obtain ⟨hg10, hF⟩ := gd_some hF
        refine r_bald hx hb hK hW (47) (tp_lt (by decide)) (rfl : kd 47 = 10) hg10 dX7_fall_35 ?_
        refine lv_aload_n hx hb dX7_fall_36 rfl (lv_at hl 0 rfl) ?_
        refine r_get (C := RX7) (T := TX7) (N := 39) hx hb htA ia_X7 hown hK hW (27) (tp_lt (by decide)) (cE_k (rfl : kd 27 = 9)) rfl 26 (by decide) (htA _ aw_373) rfl dX7_fall_37 ?_
        refine lv_iload_n hx hb dX7_fall_40 rfl (lv_at hl 1 rfl) ?_
        obtain ⟨hg11, hF⟩ := gd_some hF
        refine r_bald hx hb hK hW (48) (tp_lt (by decide)) (rfl : kd 48 = 10) hg11 dX7_fall_41 ?_
        refine lv_ior hx hb dX7_fall_42 ?_
        refine lv_i2b (v := (Int8.toInt32 (Int32.toInt8 ((σ.1 (47) (Int32.toNatClampNeg u1)) ||| (σ.1 (48) (Int32.toNatClampNeg u1)))))) hx hb dX7_fall_43 rfl ?_
        obtain ⟨hg12, hF⟩ := gd_some hF
        refine r_bast hx hb hK hW (47) (tp_lt (by decide)) (rfl : kd 47 = 10) hg12 dX7_fall_44 (fun H locs hW => ?_)
        obtain ⟨w13, ew13, hF⟩ := nm_some hF
        rw [← ew13] at hW
        refine lv_iinc (v := (u1 + 1)) (lv' := [(1, .int (u1 + 1)), (0, .ref (ad (27)))]) hx hb dX7_fall_45 hl (k := 1) rfl rfl (by decide) rfl (fun ls hl => ?_)
        refine lv_goto (tgt := 2) hx hb dX7_fall_48 (by decide) ?_
        exact hB2 w13 (u1 + 1) _ _ _  hW (lv_sub hl [1, 0] rfl) hF
      intro σ u1 H locs ls hW hl hF
      unfold F_X7_fall_L2 at hF
      refine lv_iload_n hx hb dX7_fall_2 rfl (lv_at hl 1 rfl) ?_
      refine lv_aload_n hx hb dX7_fall_3 rfl (lv_at hl 0 rfl) ?_
      refine r_get (C := RX7) (T := TX7) (N := 39) hx hb htA ia_X7 hown hK hW (27) (tp_lt (by decide)) (cE_k (rfl : kd 27 = 9)) rfl 27 (by decide) (htA _ aw_414) rfl dX7_fall_4 ?_
      refine lv_icmp_ge (tgt := 51) hx hb dX7_fall_7 (by decide) (fun hc14 => ?_) (fun hc14 => ?_)
      · replace hF := (if_pos hc14).symm.trans hF
        exact hL51 σ _ _ _  hW (lv_sub hl [0] rfl) hF
      · replace hF := (if_neg hc14).symm.trans hF
        refine lv_iload_n hx hb dX7_fall_10 rfl (lv_at hl 1 rfl) ?_
        refine lv_aload_n hx hb dX7_fall_11 rfl (lv_at hl 0 rfl) ?_
        refine r_get (C := RX7) (T := TX7) (N := 39) hx hb htA ia_X7 hown hK hW (27) (tp_lt (by decide)) (cE_k (rfl : kd 27 = 9)) rfl 25 (by decide) (htA _ aw_489) rfl dX7_fall_12 ?_
        refine lv_icmp_lt (tgt := 25) hx hb dX7_fall_15 (by decide) (fun hc15 => ?_) (fun hc15 => ?_)
        · replace hF := (if_pos hc15).symm.trans hF
          exact hL25 σ u1 _ _ _  hW (lv_sub hl [0, 1] rfl) hF
        · replace hF := (if_neg hc15).symm.trans hF
          refine lv_aload_n hx hb dX7_fall_18 rfl (lv_at hl 0 rfl) ?_
          refine r_get (C := RX7) (T := TX7) (N := 39) hx hb htA ia_X7 hown hK hW (27) (tp_lt (by decide)) (cE_k (rfl : kd 27 = 9)) rfl 24 (by decide) (htA _ aw_372) rfl dX7_fall_19 ?_
          refine lv_iload_n hx hb dX7_fall_22 rfl (lv_at hl 1 rfl) ?_
          refine lv_iconst (v := 0) hx hb dX7_fall_23 (by decide) ?_
          obtain ⟨hg16, hF⟩ := gd_some hF
          refine r_bast hx hb hK hW (47) (tp_lt (by decide)) (rfl : kd 47 = 10) hg16 dX7_fall_24 (fun H locs hW => ?_)
          obtain ⟨w17, ew17, hF⟩ := nm_some hF
          rw [← ew17] at hW
          exact hL25 w17 u1 _ _ _  hW (lv_sub hl [0, 1] rfl) hF
  have hL2 := hL2 fu
  have hl := lv_entry ([.ref (ad (27))]) (n := 2) (Nat.le_of_ble_eq_true rfl)
  rw [lg_entry_eq]
  generalize (lg_sl ([.ref (ad (27))]) ++ List.replicate (2 - (lg_sl ([.ref (ad (27))])).length) Slot.unset).toArray = ls at hl ⊢
  have hl : lv_has ls 2 [(0, .ref (ad (27)))] := hl
  unfold F_X7_fall at hF
  refine lv_iconst (v := 0) hx hb dX7_fall_0 (by decide) ?_
  refine lv_istore_n (lv' := [(1, .int 0), (0, .ref (ad (27)))]) hx hb dX7_fall_1 rfl hl (by decide) rfl (fun ls hl => ?_)
  exact hL2 σ 0 _ _ _  hW (lv_sub hl [1, 0] rfl) hF
def F_X7_put (σ : St) (x1 : Int32) : Option (St) := gd (ib (σ.1 (27) 27) (ln (48))) (nm (sI σ (48) (Int32.toNatClampNeg (σ.1 (27) 27)) (vp_nar .byte (Int8.toInt32 (Int32.toInt8 x1)))) (fun w5 => nm (sI w5 (27) 27 ((w5.1 (27) 27) + 1)) (fun w6 => some w6)))
set_option maxHeartbeats 4000000 in
set_option maxRecDepth 100000 in
theorem m_X7_put (l : Launch) (G : va_G) (g : Nat → ClassId) (ad : Nat → Nat) (n a0 aM : Nat) (σ : St) (x1 : Int32) (x : St) (hF : F_X7_put σ x1 = some x) : Met l yX7_put zs_X7_put ({ frames := 0, cells := 0, slots := 0, locals := 0 } : Room) (va_Pc [.ref (ad (27)), .int x1] (wP G g ad n a0 aM σ)) (qV G g ad n a0 x) 0 0 (fun q : Nat => a0 ≤ q) := by
  refine Met.ofW (cc := cX7_put) (maxL := 2) (ret := none) (by decide) rfl ?_
  intro p e s m args below meth c s₁ B hml hv
  obtain ⟨rfl, hP, hD, hK⟩ := hv
  have hx := B.exec
  have hb := B.bytes
  have hr := B.returns
  have htA : ∀ w ∈ AL, w.before _ s = true := fun w h9 => atoms_spec (ws := zs_X7_put) B.pre w (List.mem_cons_of_mem _ h9)
  have hown : s.vm.findClass RX7 = some m.cls := findClass_of_methodNamed B.named
  have hlocks := B.notSynchronized
  have hW : Wd G g ad n a0 s.heap σ s.heap [] := ⟨hP, hD, va_S.rf⟩
  clear hP hD
  have hl := lv_entry ([.ref (ad (27)), .int x1]) (n := 2) (Nat.le_of_ble_eq_true rfl)
  rw [lg_entry_eq]
  generalize (lg_sl ([.ref (ad (27)), .int x1]) ++ List.replicate (2 - (lg_sl ([.ref (ad (27)), .int x1])).length) Slot.unset).toArray = ls at hl ⊢
  have hl : lv_has ls 2 [(0, .ref (ad (27))), (1, .int x1)] := hl
  unfold F_X7_put at hF
  refine lv_aload_n hx hb dX7_put_0 rfl (lv_at hl 0 rfl) ?_
  refine r_get (C := RX7) (T := TX7) (N := 39) hx hb htA ia_X7 hown hK hW (27) (tp_lt (by decide)) (cE_k (rfl : kd 27 = 9)) rfl 26 (by decide) (htA _ aw_373) rfl dX7_put_1 ?_
  refine lv_aload_n hx hb dX7_put_4 rfl (lv_at hl 0 rfl) ?_
  refine r_get (C := RX7) (T := TX7) (N := 39) hx hb htA ia_X7 hown hK hW (27) (tp_lt (by decide)) (cE_k (rfl : kd 27 = 9)) rfl 27 (by decide) (htA _ aw_414) rfl dX7_put_5 ?_
  refine lv_iload_n hx hb dX7_put_8 rfl (lv_at hl 1 rfl) ?_
  refine lv_i2b (v := (Int8.toInt32 (Int32.toInt8 x1))) hx hb dX7_put_9 rfl ?_
  obtain ⟨hg4, hF⟩ := gd_some hF
  refine r_bast hx hb hK hW (48) (tp_lt (by decide)) (rfl : kd 48 = 10) hg4 dX7_put_10 (fun H locs hW => ?_)
  obtain ⟨w5, ew5, hF⟩ := nm_some hF
  rw [← ew5] at hW
  refine lv_aload_n hx hb dX7_put_11 rfl (lv_at hl 0 rfl) ?_
  refine lv_dup hx hb dX7_put_12 rfl ?_
  refine r_get (C := RX7) (T := TX7) (N := 39) hx hb htA ia_X7 hown hK hW (27) (tp_lt (by decide)) (cE_k (rfl : kd 27 = 9)) rfl 27 (by decide) (htA _ aw_414) rfl dX7_put_13 ?_
  refine lv_iconst (v := 1) hx hb dX7_put_16 (by decide) ?_
  refine lv_iadd hx hb dX7_put_17 ?_
  refine r_putI (C := RX7) (T := TX7) (N := 39) (ty := .int) hx hb htA ia_X7 tyX7 tyX7_ok nmX7 hown hK hW (27) (tp_lt (by decide)) (cE_k (rfl : kd 27 = 9)) rfl 27 (by decide) (cE_k (rfl : kd 27 = 9)) (htA _ aw_414) rfl (by decide +kernel) rfl rfl (Nat.le_of_ble_eq_true rfl) dX7_put_18 (fun H locs hW => ?_)
  obtain ⟨w6, ew6, hF⟩ := nm_some hF
  rw [← ew6] at hW
  exact r_vret hx hb hr hlocks hW hF dX7_put_21
def F_X7_putTwo (σ : St) (x1 : Int32) : Option (St) := (F_X7_put σ (x1 >>> (8 &&& 31))).bind (fun y3 => (F_X7_put y3 x1).bind (fun y4 => some y4))
set_option maxHeartbeats 4000000 in
set_option maxRecDepth 100000 in
theorem m_X7_putTwo (l : Launch) (G : va_G) (g : Nat → ClassId) (ad : Nat → Nat) (n a0 aM : Nat) (σ : St) (x1 : Int32) (x : St) (hF : F_X7_putTwo σ x1 = some x) : Met l yX7_putTwo zs_X7_putTwo ({ frames := 1, cells := 0, slots := 0, locals := 21 } : Room) (va_Pc [.ref (ad (27)), .int x1] (wP G g ad n a0 aM σ)) (qV G g ad n a0 x) 0 0 (fun q : Nat => a0 ≤ q) := by
  refine Met.ofW (cc := cX7_putTwo) (maxL := 2) (ret := none) (by decide) rfl ?_
  intro p e s m args below meth c s₁ B hml hv
  obtain ⟨rfl, hP, hD, hK⟩ := hv
  have hx := B.exec
  have hb := B.bytes
  have hr := B.returns
  have htA : ∀ w ∈ AL, w.before _ s = true := fun w h9 => atoms_spec (ws := zs_X7_putTwo) B.pre w (List.mem_cons_of_mem _ h9)
  have hown : s.vm.findClass RX7 = some m.cls := findClass_of_methodNamed B.named
  have hlocks := B.notSynchronized
  have hW : Wd G g ad n a0 s.heap σ s.heap [] := ⟨hP, hD, va_S.rf⟩
  clear hP hD
  have hl := lv_entry ([.ref (ad (27)), .int x1]) (n := 2) (Nat.le_of_ble_eq_true rfl)
  rw [lg_entry_eq]
  generalize (lg_sl ([.ref (ad (27)), .int x1]) ++ List.replicate (2 - (lg_sl ([.ref (ad (27)), .int x1])).length) Slot.unset).toArray = ls at hl ⊢
  have hl : lv_has ls 2 [(0, .ref (ad (27))), (1, .int x1)] := hl
  unfold F_X7_putTwo at hF
  refine lv_aload_n hx hb dX7_putTwo_0 rfl (lv_at hl 0 rfl) ?_
  refine lv_iload_n hx hb dX7_putTwo_1 rfl (lv_at hl 1 rfl) ?_
  refine lv_bipush (v := 8) hx hb dX7_putTwo_2 (by decide) ?_
  refine lv_ishr hx hb dX7_putTwo_4 ?_
  obtain ⟨y3, hy3, hF⟩ := bd_some hF
  refine r_bv (va_runV (As := [.int (x1 >>> (8 &&& 31))]) (rest := []) ⟨hx, hb, hml, hown, htA⟩ (m_X7_put l G g ad n a0 aM σ (x1 >>> (8 &&& 31)) y3  hy3) (cwV 1 htA (gV aw_415 aw_416 aw_417 aw_382 gz_X7_put) rfl rfl rfl (by decide +kernel) ⟨Nat.le_of_ble_eq_true rfl, Nat.le_of_ble_eq_true rfl⟩) (r_preV hK hW (27) (tp_lt (by decide)) (cE_k (rfl : kd 27 = 9)) rfl [.int (x1 >>> (8 &&& 31))]) rfl rfl hl.1 rfl (lv_room (Nat.le_of_ble_eq_true rfl)) dX7_putTwo_5 ⟨Nat.zero_le _, Nat.zero_le _⟩) hW (fun H locs hW => ?_)
  refine lv_aload_n hx hb dX7_putTwo_8 rfl (lv_at hl 0 rfl) ?_
  refine lv_iload_n hx hb dX7_putTwo_9 rfl (lv_at hl 1 rfl) ?_
  obtain ⟨y4, hy4, hF⟩ := bd_some hF
  refine r_bv (va_runV (As := [.int x1]) (rest := []) ⟨hx, hb, hml, hown, htA⟩ (m_X7_put l G g ad n a0 aM y3 x1 y4  hy4) (cwV 1 htA (gV aw_415 aw_416 aw_417 aw_382 gz_X7_put) rfl rfl rfl (by decide +kernel) ⟨Nat.le_of_ble_eq_true rfl, Nat.le_of_ble_eq_true rfl⟩) (r_preV hK hW (27) (tp_lt (by decide)) (cE_k (rfl : kd 27 = 9)) rfl [.int x1]) rfl rfl hl.1 rfl (lv_room (Nat.le_of_ble_eq_true rfl)) dX7_putTwo_10 ⟨Nat.zero_le _, Nat.zero_le _⟩) hW (fun H locs hW => ?_)
  exact r_vret hx hb hr hlocks hW hF dX7_putTwo_13
def F_X7_putId_L21 (σ : St) : Option (St) := some σ
def F_X7_putId_L3 (K21 : St → Option (St)) : Nat → St → Int64 → Int32 → Option (St)
  | 0, _, _, _ => none
  | fz + 1, σ, u1, u3 => if u3 < 0 then K21 σ else (F_X7_put σ (Int64.toInt32 (u1 >>> ((Int32.toInt64 u3) &&& 63)))).bind (fun y3 => (F_X7_putId_L3 K21 fz) y3 u1 (u3 + (-8)))
def F_X7_putId (σ : St) (x1 : Int64) : Option (St) := F_X7_putId_L3 F_X7_putId_L21 fu σ x1 40
set_option maxHeartbeats 4000000 in
set_option maxRecDepth 100000 in
theorem m_X7_putId (l : Launch) (G : va_G) (g : Nat → ClassId) (ad : Nat → Nat) (n a0 aM : Nat) (σ : St) (x1 : Int64) (x : St) (hF : F_X7_putId σ x1 = some x) : Met l yX7_putId zs_X7_putId ({ frames := 1, cells := 0, slots := 0, locals := 21 } : Room) (va_Pc [.ref (ad (27)), .long x1] (wP G g ad n a0 aM σ)) (qV G g ad n a0 x) 0 0 (fun q : Nat => a0 ≤ q) := by
  refine Met.ofW (cc := cX7_putId) (maxL := 4) (ret := none) (by decide) rfl ?_
  intro p e s m args below meth c s₁ B hml hv
  obtain ⟨rfl, hP, hD, hK⟩ := hv
  have hx := B.exec
  have hb := B.bytes
  have hr := B.returns
  have htA : ∀ w ∈ AL, w.before _ s = true := fun w h9 => atoms_spec (ws := zs_X7_putId) B.pre w (List.mem_cons_of_mem _ h9)
  have hown : s.vm.findClass RX7 = some m.cls := findClass_of_methodNamed B.named
  have hlocks := B.notSynchronized
  have hW : Wd G g ad n a0 s.heap σ s.heap [] := ⟨hP, hD, va_S.rf⟩
  clear hP hD
  have hL21 : ∀ (σ : St) (H : Heap) (locs : List Loc) (ls : Array Slot), Wd G g ad n a0 s.heap σ H locs → lv_has ls 4 [] → F_X7_putId_L21  σ = some x → W p l e (headSpec zs_X7_putId ({ frames := 1, cells := 0, slots := 0, locals := 21 } : Room)).room s m ([.ref (ad (27)), .long x1] : List Value).toArray below meth c H locs 0 0 (MQ below (qV G g ad n a0 x) ([.ref (ad (27)), .long x1] : List Value).toArray s 0 0 (fun q : Nat => a0 ≤ q)) (F0 m 21 ls []) := by
    intro σ H locs ls hW hl hF
    unfold F_X7_putId_L21 at hF
    exact r_vret hx hb hr hlocks hW hF dX7_putId_21
  have hL3 : ∀ (fz3 : Nat) (σ : St) (u1 : Int64) (u3 : Int32) (H : Heap) (locs : List Loc) (ls : Array Slot), Wd G g ad n a0 s.heap σ H locs → lv_has ls 4 [(0, .ref (ad (27))), (1, .long u1), (3, .int u3)] → F_X7_putId_L3 (F_X7_putId_L21) fz3 σ u1 u3 = some x → W p l e (headSpec zs_X7_putId ({ frames := 1, cells := 0, slots := 0, locals := 21 } : Room)).room s m ([.ref (ad (27)), .long x1] : List Value).toArray below meth c H locs 0 0 (MQ below (qV G g ad n a0 x) ([.ref (ad (27)), .long x1] : List Value).toArray s 0 0 (fun q : Nat => a0 ≤ q)) (F0 m 3 ls []) := by
    intro fz3
    induction fz3 with
    | zero =>
      intro σ u1 u3 H locs ls hW hl hF
      exact absurd hF (by simp [F_X7_putId_L3])
    | succ fz3 ih =>
      have hB3 := ih
      intro σ u1 u3 H locs ls hW hl hF
      unfold F_X7_putId_L3 at hF
      refine lv_iload_n hx hb dX7_putId_3 rfl (lv_at hl 2 rfl) ?_
      refine lv_if_lt (tgt := 21) hx hb dX7_putId_4 (by decide) (fun hc2 => ?_) (fun hc2 => ?_)
      · replace hF := (if_pos hc2).symm.trans hF
        exact hL21 σ _ _ _  hW (lv_sub hl [] rfl) hF
      · replace hF := (if_neg hc2).symm.trans hF
        refine lv_aload_n hx hb dX7_putId_7 rfl (lv_at hl 0 rfl) ?_
        refine lv_lload_n hx hb dX7_putId_8 rfl (lv_at hl 1 rfl) ?_
        refine lv_iload_n hx hb dX7_putId_9 rfl (lv_at hl 2 rfl) ?_
        refine lv_lshr (v := (u1 >>> ((Int32.toInt64 u3) &&& 63))) hx hb dX7_putId_10 rfl ?_
        refine lv_l2i (v := (Int64.toInt32 (u1 >>> ((Int32.toInt64 u3) &&& 63)))) hx hb dX7_putId_11 rfl ?_
        obtain ⟨y3, hy3, hF⟩ := bd_some hF
        refine r_bv (va_runV (As := [.int (Int64.toInt32 (u1 >>> ((Int32.toInt64 u3) &&& 63)))]) (rest := []) ⟨hx, hb, hml, hown, htA⟩ (m_X7_put l G g ad n a0 aM σ (Int64.toInt32 (u1 >>> ((Int32.toInt64 u3) &&& 63))) y3  hy3) (cwV 1 htA (gV aw_415 aw_416 aw_417 aw_382 gz_X7_put) rfl rfl rfl (by decide +kernel) ⟨Nat.le_of_ble_eq_true rfl, Nat.le_of_ble_eq_true rfl⟩) (r_preV hK hW (27) (tp_lt (by decide)) (cE_k (rfl : kd 27 = 9)) rfl [.int (Int64.toInt32 (u1 >>> ((Int32.toInt64 u3) &&& 63)))]) rfl rfl hl.1 rfl (lv_room (Nat.le_of_ble_eq_true rfl)) dX7_putId_12 ⟨Nat.zero_le _, Nat.zero_le _⟩) hW (fun H locs hW => ?_)
        refine lv_iinc (v := (u3 + (-8))) (lv' := [(3, .int (u3 + (-8))), (0, .ref (ad (27))), (1, .long u1)]) hx hb dX7_putId_15 hl (k := 2) rfl rfl (by decide) rfl (fun ls hl => ?_)
        refine lv_goto (tgt := 3) hx hb dX7_putId_18 (by decide) ?_
        exact hB3 y3 u1 (u3 + (-8)) _ _ _  hW (lv_sub hl [1, 2, 0] rfl) hF
  have hL3 := hL3 fu
  have hl := lv_entry ([.ref (ad (27)), .long x1]) (n := 4) (Nat.le_of_ble_eq_true rfl)
  rw [lg_entry_eq]
  generalize (lg_sl ([.ref (ad (27)), .long x1]) ++ List.replicate (4 - (lg_sl ([.ref (ad (27)), .long x1])).length) Slot.unset).toArray = ls at hl ⊢
  have hl : lv_has ls 4 [(0, .ref (ad (27))), (1, .long x1)] := hl
  unfold F_X7_putId at hF
  refine lv_bipush (v := 40) hx hb dX7_putId_0 (by decide) ?_
  refine lv_istore_n (lv' := [(3, .int 40), (0, .ref (ad (27))), (1, .long x1)]) hx hb dX7_putId_2 rfl hl (by decide) rfl (fun ls hl => ?_)
  exact hL3 σ x1 40 _ _ _  hW (lv_sub hl [1, 2, 0] rfl) hF
