def F_X6_lampAt_L12 (n : Nat) (σ : St) : Option (St × Nat × Nat) := some (σ, 3, 0)
def F_X6_lampAt (n : Nat) (σ : St) (x1 : Int32) : Option (St × Nat × Nat) := if x1 < 0 then F_X6_lampAt_L12 n σ else if x1 < (σ.1 (0) 10) then gd (ib x1 24) (gd (decide (Int32.toNatClampNeg x1 < n)) (some (σ, 0, 54 + 12 * (Int32.toNatClampNeg x1)))) else F_X6_lampAt_L12 n σ
set_option maxHeartbeats 4000000 in
set_option maxRecDepth 100000 in
theorem m_X6_lampAt (l : Launch) (hst : l.stackTraces = false) (G : va_G) (g : Nat → ClassId) (ad : Nat → Nat) (n a0 aM : Nat) (σ : St) (x1 : Int32) (x : St × Nat × Nat) (hF : F_X6_lampAt n σ x1 = some x) : vx_Met l yX6_lampAt zs_X6_lampAt ({ frames := 6, cells := 1, slots := 6, locals := 82 } : Room) (va_Pc [.ref (ad (0)), .int x1] (wP G g ad n a0 aM σ)) (xQR G g ad n a0 x) (xX G g ad n a0 x.1 x.2.1) 1 6 (fun q : Nat => a0 ≤ q) := by
  refine vx_ofW (cc := cX6_lampAt) (maxL := 2) (ret := (some (.object "LampLine$Lamp"))) (by decide) rfl ?_
  intro p e s m args below meth c s₁ B hml hno hv
  obtain ⟨rfl, hP, hD, hK⟩ := hv
  have hx := B.exec
  have hb := B.bytes
  have hr := B.returns
  have htA : ∀ w ∈ AL, w.before _ s = true := fun w h9 => atoms_spec (ws := zs_X6_lampAt) B.pre w (List.mem_cons_of_mem _ h9)
  have hown : s.vm.findClass RX6 = some m.cls := findClass_of_methodNamed B.named
  have hlocks := B.notSynchronized
  have hW : Wd G g ad n a0 s.heap σ s.heap [] := ⟨hP, hD, va_S.rf⟩
  clear hP hD
  have hL12 : ∀ (σ : St) (H : Heap) (locs : List Loc) (ls : Array Slot), Wd G g ad n a0 s.heap σ H locs → lv_has ls 2 [] → F_X6_lampAt_L12 n  σ = some x → W p l e (headSpec zs_X6_lampAt ({ frames := 6, cells := 1, slots := 6, locals := 82 } : Room)).room s m ([.ref (ad (0)), .int x1] : List Value).toArray below meth c H locs 0 0 (vx_MQ below (xQR G g ad n a0 x) (xX G g ad n a0 x.1 x.2.1) ([.ref (ad (0)), .int x1] : List Value).toArray s 1 6 (fun q : Nat => a0 ≤ q)) (F0 m 12 ls []) := by
    intro σ H locs ls hW hl hF
    unfold F_X6_lampAt_L12 at hF
    exact rx_throw (text := "no such lamp") hx hb hst hown (by decide +kernel) (htA _ aw_276) (htA _ aw_277) hK (by decide +kernel) (hatO htA hK) hgdO hW hml hl.1 dX6_lampAt_12 dX6_lampAt_15 dX6_lampAt_16 dX6_lampAt_18 dX6_lampAt_21 hno (Nat.le_of_ble_eq_true rfl) (Nat.le_of_ble_eq_true rfl) (Nat.le_of_ble_eq_true rfl) (Nat.le_of_ble_eq_true rfl) (Nat.le_of_ble_eq_true rfl) (Nat.le_of_ble_eq_true rfl) hlocks (rx_kF ex_O hF)
  have hl := lv_entry ([.ref (ad (0)), .int x1]) (n := 2) (Nat.le_of_ble_eq_true rfl)
  rw [lg_entry_eq]
  generalize (lg_sl ([.ref (ad (0)), .int x1]) ++ List.replicate (2 - (lg_sl ([.ref (ad (0)), .int x1])).length) Slot.unset).toArray = ls at hl ⊢
  have hl : lv_has ls 2 [(0, .ref (ad (0))), (1, .int x1)] := hl
  unfold F_X6_lampAt at hF
  refine lv_iload_n hx hb dX6_lampAt_0 rfl (lv_at hl 1 rfl) ?_
  refine lv_if_lt (tgt := 12) hx hb dX6_lampAt_1 (by decide) (fun hc4 => ?_) (fun hc4 => ?_)
  · replace hF := (if_pos hc4).symm.trans hF
    exact hL12 σ _ _ _  hW (lv_sub hl [] rfl) hF
  · replace hF := (if_neg hc4).symm.trans hF
    refine lv_iload_n hx hb dX6_lampAt_4 rfl (lv_at hl 1 rfl) ?_
    refine lv_aload_n hx hb dX6_lampAt_5 rfl (lv_at hl 0 rfl) ?_
    refine r_get (C := RX6) (T := TX6) (N := 13) hx hb htA ia_X6 hown hK hW (0) (tp_lt (by decide)) (cE_k (rfl : kd 0 = 1)) rfl 10 (by decide) (htA _ aw_221) rfl dX6_lampAt_6 ?_
    refine lv_icmp_lt (tgt := 22) hx hb dX6_lampAt_9 (by decide) (fun hc5 => ?_) (fun hc5 => ?_)
    · replace hF := (if_pos hc5).symm.trans hF
      refine lv_aload_n hx hb dX6_lampAt_22 rfl (lv_at hl 0 rfl) ?_
      refine r_get (C := RX6) (T := TX6) (N := 13) hx hb htA ia_X6 hown hK hW (0) (tp_lt (by decide)) (cE_k (rfl : kd 0 = 1)) rfl 9 (by decide) (htA _ aw_213) rfl dX6_lampAt_23 ?_
      refine lv_iload_n hx hb dX6_lampAt_26 rfl (lv_at hl 1 rfl) ?_
      obtain ⟨hg6, hF⟩ := gd_some hF
      obtain ⟨hg7, hF⟩ := gd_some hF
      refine r_lamp hx hb hK hW hg6 (of_decide_eq_true hg7) dX6_lampAt_27 ?_
      have hq8 : isLp (54 + 12 * (Int32.toNatClampNeg x1)) := isLp_at _
      have thq8 : 54 + 12 * (Int32.toNatClampNeg x1) + 11 < tp n := by have h9 := of_decide_eq_true hg7; unfold tp; omega
      exact rx_aret hx hb hr hlocks hW hF dX6_lampAt_28 (Nat.le_of_ble_eq_true rfl) (Nat.le_of_ble_eq_true rfl)
    · replace hF := (if_neg hc5).symm.trans hF
      exact hL12 σ _ _ _  hW (lv_sub hl [] rfl) hF
theorem lampAt_ok {n : Nat} {σ : St} {i : Int32} {y : St × Nat × Nat} (h : F_X6_lampAt n σ i = some y) (h0 : y.2.1 = 0) : isLp y.2.2 ∧ y.2.2 + 11 < tp n := by
  unfold F_X6_lampAt at h
  by_cases h1 : i < 0
  · rw [if_pos h1] at h; cases h; exact absurd h0 (show ¬ (3 : Nat) = 0 by decide)
  · rw [if_neg h1] at h
    by_cases h2 : i < σ.1 0 10
    · rw [if_pos h2] at h
      obtain ⟨-, h⟩ := gd_some h
      obtain ⟨h3, h⟩ := gd_some h
      have h3 := of_decide_eq_true h3
      cases h
      exact ⟨isLp_at _, by unfold tp; show 54 + 12 * i.toNatClampNeg + 11 < 54 + 12 * n; omega⟩
    · rw [if_neg h2] at h; cases h; exact absurd h0 (show ¬ (3 : Nat) = 0 by decide)
def F_X6_end_L15 (σ : St) : Option (St × Nat × Int32) := some (σ, 1, 0)
def F_X6_end (σ : St) (x1 : Int32) : Option (St × Nat × Int32) := if x1 < 0 then F_X6_end_L15 σ else (F_X3_size (1) σ).bind (fun y4 => if x1 ≤ y4.2 then (F_X3_cut (1) y4.1 x1).bind (fun y6 => some (y6, 0, 0)) else F_X6_end_L15 y4.1)
set_option maxHeartbeats 4000000 in
set_option maxRecDepth 100000 in
theorem m_X6_end (l : Launch) (hst : l.stackTraces = false) (G : va_G) (g : Nat → ClassId) (ad : Nat → Nat) (n a0 aM : Nat) (σ : St) (x1 : Int32) (x : St × Nat × Int32) (hF : F_X6_end σ x1 = some x) : vx_Met l yX6_end zs_X6_end ({ frames := 6, cells := 1, slots := 6, locals := 82 } : Room) (va_Pc [.ref (ad (0)), .int x1] (wP G g ad n a0 aM σ)) (xQV G g ad n a0 x) (xX G g ad n a0 x.1 x.2.1) 1 6 (fun q : Nat => a0 ≤ q) := by
  refine vx_ofW (cc := cX6_end) (maxL := 2) (ret := none) (by decide) rfl ?_
  intro p e s m args below meth c s₁ B hml hno hv
  obtain ⟨rfl, hP, hD, hK⟩ := hv
  have hx := B.exec
  have hb := B.bytes
  have hr := B.returns
  have htA : ∀ w ∈ AL, w.before _ s = true := fun w h9 => atoms_spec (ws := zs_X6_end) B.pre w (List.mem_cons_of_mem _ h9)
  have hown : s.vm.findClass RX6 = some m.cls := findClass_of_methodNamed B.named
  have hlocks := B.notSynchronized
  have hW : Wd G g ad n a0 s.heap σ s.heap [] := ⟨hP, hD, va_S.rf⟩
  clear hP hD
  have hL15 : ∀ (σ : St) (H : Heap) (locs : List Loc) (ls : Array Slot), Wd G g ad n a0 s.heap σ H locs → lv_has ls 2 [] → F_X6_end_L15  σ = some x → W p l e (headSpec zs_X6_end ({ frames := 6, cells := 1, slots := 6, locals := 82 } : Room)).room s m ([.ref (ad (0)), .int x1] : List Value).toArray below meth c H locs 0 0 (vx_MQ below (xQV G g ad n a0 x) (xX G g ad n a0 x.1 x.2.1) ([.ref (ad (0)), .int x1] : List Value).toArray s 1 6 (fun q : Nat => a0 ≤ q)) (F0 m 15 ls []) := by
    intro σ H locs ls hW hl hF
    unfold F_X6_end_L15 at hF
    exact rx_throw (text := "the tape has not so many bytes") hx hb hst hown (by decide +kernel) (htA _ aw_222) (htA _ aw_223) hK (by decide +kernel) (hatA htA hK) hgdA hW hml hl.1 dX6_end_15 dX6_end_18 dX6_end_19 dX6_end_21 dX6_end_24 hno (Nat.le_of_ble_eq_true rfl) (Nat.le_of_ble_eq_true rfl) (Nat.le_of_ble_eq_true rfl) (Nat.le_of_ble_eq_true rfl) (Nat.le_of_ble_eq_true rfl) (Nat.le_of_ble_eq_true rfl) hlocks (rx_kF ex_A hF)
  have hl := lv_entry ([.ref (ad (0)), .int x1]) (n := 2) (Nat.le_of_ble_eq_true rfl)
  rw [lg_entry_eq]
  generalize (lg_sl ([.ref (ad (0)), .int x1]) ++ List.replicate (2 - (lg_sl ([.ref (ad (0)), .int x1])).length) Slot.unset).toArray = ls at hl ⊢
  have hl : lv_has ls 2 [(0, .ref (ad (0))), (1, .int x1)] := hl
  unfold F_X6_end at hF
  refine lv_iload_n hx hb dX6_end_0 rfl (lv_at hl 1 rfl) ?_
  refine lv_if_lt (tgt := 15) hx hb dX6_end_1 (by decide) (fun hc3 => ?_) (fun hc3 => ?_)
  · replace hF := (if_pos hc3).symm.trans hF
    exact hL15 σ _ _ _  hW (lv_sub hl [] rfl) hF
  · replace hF := (if_neg hc3).symm.trans hF
    refine lv_iload_n hx hb dX6_end_4 rfl (lv_at hl 1 rfl) ?_
    refine lv_aload_n hx hb dX6_end_5 rfl (lv_at hl 0 rfl) ?_
    refine r_get (C := RX6) (T := TX6) (N := 13) hx hb htA ia_X6 hown hK hW (0) (tp_lt (by decide)) (cE_k (rfl : kd 0 = 1)) rfl 0 (by decide) (htA _ aw_197) rfl dX6_end_6 ?_
    obtain ⟨y4, hy4, hF⟩ := bd_some hF
    refine r_bi (va_runV (As := []) (rest := [.int x1]) ⟨hx, hb, hml, hown, htA⟩ (m_X3_size l G g ad n a0 aM (1) σ y4 ⟨rfl, rfl⟩ (tp_lt (by decide)) hy4) (cwV 0 htA (gV aw_238 aw_19 aw_20 aw_6 gz_X3_size) rfl rfl rfl (by decide +kernel) ⟨Nat.le_of_ble_eq_true rfl, Nat.le_of_ble_eq_true rfl⟩) (r_preV hK hW (1) (tp_lt (by decide)) (cE_k (rfl : kd 1 = 2)) rfl []) rfl rfl hl.1 rfl (lv_room (Nat.le_of_ble_eq_true rfl)) dX6_end_9 ⟨Nat.le_of_ble_eq_true rfl, Nat.le_of_ble_eq_true rfl⟩) hW (fun H locs hW => ?_)
    refine lv_icmp_le (tgt := 25) hx hb dX6_end_12 (by decide) (fun hc5 => ?_) (fun hc5 => ?_)
    · replace hF := (if_pos hc5).symm.trans hF
      refine lv_aload_n hx hb dX6_end_25 rfl (lv_at hl 0 rfl) ?_
      refine r_get (C := RX6) (T := TX6) (N := 13) hx hb htA ia_X6 hown hK hW (0) (tp_lt (by decide)) (cE_k (rfl : kd 0 = 1)) rfl 0 (by decide) (htA _ aw_197) rfl dX6_end_26 ?_
      refine lv_iload_n hx hb dX6_end_29 rfl (lv_at hl 1 rfl) ?_
      obtain ⟨y6, hy6, hF⟩ := bd_some hF
      refine r_bv (va_runV (As := [.int x1]) (rest := []) ⟨hx, hb, hml, hown, htA⟩ (m_X3_cut l G g ad n a0 aM (1) y4.1 x1 y6 ⟨rfl, rfl⟩ (tp_lt (by decide)) hy6) (cwV 1 htA (gV aw_240 aw_4 aw_5 aw_6 gz_X3_cut) rfl rfl rfl (by decide +kernel) ⟨Nat.le_of_ble_eq_true rfl, Nat.le_of_ble_eq_true rfl⟩) (r_preV hK hW (1) (tp_lt (by decide)) (cE_k (rfl : kd 1 = 2)) rfl [.int x1]) rfl rfl hl.1 rfl (lv_room (Nat.le_of_ble_eq_true rfl)) dX6_end_30 ⟨Nat.le_of_ble_eq_true rfl, Nat.le_of_ble_eq_true rfl⟩) hW (fun H locs hW => ?_)
      exact rx_vret hx hb hr hlocks hW hF dX6_end_33 (Nat.le_of_ble_eq_true rfl) (Nat.le_of_ble_eq_true rfl)
    · replace hF := (if_neg hc5).symm.trans hF
      exact hL15 y4.1 _ _ _  hW (lv_sub hl [] rfl) hF
def F_X6_feed (σ : St) (x1 : Int32) (x2 : Int32) (x3 : Int32) (x4 : Int32) (x5 : Int32) : Option (St × Nat × Int32) := (F_X3_size (1) σ).bind (fun y8 => if (y8.2 + 20) ≤ 520 then (F_X3_putNumber (1) y8.1 (Int32.toInt64 x1) 4).bind (fun y10 => (F_X3_putNumber (1) y10 (Int32.toInt64 x2) 4).bind (fun y11 => (F_X3_putNumber (1) y11 (Int32.toInt64 x3) 4).bind (fun y12 => (F_X3_putNumber (1) y12 (Int32.toInt64 x4) 4).bind (fun y13 => (F_X3_putNumber (1) y13 (Int32.toInt64 x5) 4).bind (fun y14 => (F_X3_size (1) y14).bind (fun y15 => some (y15.1, 0, y15.2))))))) else some (y8.1, 2, 0))
set_option maxHeartbeats 4000000 in
set_option maxRecDepth 100000 in
theorem m_X6_feed (l : Launch) (hst : l.stackTraces = false) (G : va_G) (g : Nat → ClassId) (ad : Nat → Nat) (n a0 aM : Nat) (σ : St) (x1 : Int32) (x2 : Int32) (x3 : Int32) (x4 : Int32) (x5 : Int32) (x : St × Nat × Int32) (hF : F_X6_feed σ x1 x2 x3 x4 x5 = some x) : vx_Met l yX6_feed zs_X6_feed ({ frames := 6, cells := 1, slots := 6, locals := 82 } : Room) (va_Pc [.ref (ad (0)), .int x1, .int x2, .int x3, .int x4, .int x5] (wP G g ad n a0 aM σ)) (xQI G g ad n a0 x) (xX G g ad n a0 x.1 x.2.1) 1 6 (fun q : Nat => a0 ≤ q) := by
  refine vx_ofW (cc := cX6_feed) (maxL := 6) (ret := (some .int)) (by decide) rfl ?_
  intro p e s m args below meth c s₁ B hml hno hv
  obtain ⟨rfl, hP, hD, hK⟩ := hv
  have hx := B.exec
  have hb := B.bytes
  have hr := B.returns
  have htA : ∀ w ∈ AL, w.before _ s = true := fun w h9 => atoms_spec (ws := zs_X6_feed) B.pre w (List.mem_cons_of_mem _ h9)
  have hown : s.vm.findClass RX6 = some m.cls := findClass_of_methodNamed B.named
  have hlocks := B.notSynchronized
  have hW : Wd G g ad n a0 s.heap σ s.heap [] := ⟨hP, hD, va_S.rf⟩
  clear hP hD
  have hl := lv_entry ([.ref (ad (0)), .int x1, .int x2, .int x3, .int x4, .int x5]) (n := 6) (Nat.le_of_ble_eq_true rfl)
  rw [lg_entry_eq]
  generalize (lg_sl ([.ref (ad (0)), .int x1, .int x2, .int x3, .int x4, .int x5]) ++ List.replicate (6 - (lg_sl ([.ref (ad (0)), .int x1, .int x2, .int x3, .int x4, .int x5])).length) Slot.unset).toArray = ls at hl ⊢
  have hl : lv_has ls 6 [(0, .ref (ad (0))), (1, .int x1), (2, .int x2), (3, .int x3), (4, .int x4), (5, .int x5)] := hl
  unfold F_X6_feed at hF
  refine lv_aload_n hx hb dX6_feed_0 rfl (lv_at hl 0 rfl) ?_
  refine r_get (C := RX6) (T := TX6) (N := 13) hx hb htA ia_X6 hown hK hW (0) (tp_lt (by decide)) (cE_k (rfl : kd 0 = 1)) rfl 0 (by decide) (htA _ aw_197) rfl dX6_feed_1 ?_
  obtain ⟨y8, hy8, hF⟩ := bd_some hF
  refine r_bi (va_runV (As := []) (rest := []) ⟨hx, hb, hml, hown, htA⟩ (m_X3_size l G g ad n a0 aM (1) σ y8 ⟨rfl, rfl⟩ (tp_lt (by decide)) hy8) (cwV 0 htA (gV aw_238 aw_19 aw_20 aw_6 gz_X3_size) rfl rfl rfl (by decide +kernel) ⟨Nat.le_of_ble_eq_true rfl, Nat.le_of_ble_eq_true rfl⟩) (r_preV hK hW (1) (tp_lt (by decide)) (cE_k (rfl : kd 1 = 2)) rfl []) rfl rfl hl.1 rfl (lv_room (Nat.le_of_ble_eq_true rfl)) dX6_feed_4 ⟨Nat.le_of_ble_eq_true rfl, Nat.le_of_ble_eq_true rfl⟩) hW (fun H locs hW => ?_)
  refine lv_bipush (v := 20) hx hb dX6_feed_7 (by decide) ?_
  refine lv_iadd hx hb dX6_feed_9 ?_
  refine lv_sipush (v := 520) hx hb dX6_feed_10 (by decide) ?_
  refine lv_icmp_le (tgt := 26) hx hb dX6_feed_13 (by decide) (fun hc9 => ?_) (fun hc9 => ?_)
  · replace hF := (if_pos hc9).symm.trans hF
    refine lv_aload_n hx hb dX6_feed_26 rfl (lv_at hl 0 rfl) ?_
    refine r_get (C := RX6) (T := TX6) (N := 13) hx hb htA ia_X6 hown hK hW (0) (tp_lt (by decide)) (cE_k (rfl : kd 0 = 1)) rfl 0 (by decide) (htA _ aw_197) rfl dX6_feed_27 ?_
    refine lv_iload_n hx hb dX6_feed_30 rfl (lv_at hl 1 rfl) ?_
    refine lv_i2l (v := (Int32.toInt64 x1)) hx hb dX6_feed_31 rfl ?_
    refine lv_iconst (v := 4) hx hb dX6_feed_32 (by decide) ?_
    obtain ⟨y10, hy10, hF⟩ := bd_some hF
    refine r_bv (va_runV (As := [.long (Int32.toInt64 x1), .int 4]) (rest := []) ⟨hx, hb, hml, hown, htA⟩ (m_X3_putNumber l G g ad n a0 aM (1) y8.1 (Int32.toInt64 x1) 4 y10 ⟨rfl, rfl⟩ (tp_lt (by decide)) hy10) (cwV 2 htA (gV aw_239 aw_96 aw_97 aw_6 gz_X3_putNumber) rfl rfl rfl (by decide +kernel) ⟨Nat.le_of_ble_eq_true rfl, Nat.le_of_ble_eq_true rfl⟩) (r_preV hK hW (1) (tp_lt (by decide)) (cE_k (rfl : kd 1 = 2)) rfl [.long (Int32.toInt64 x1), .int 4]) rfl rfl hl.1 rfl (lv_room (Nat.le_of_ble_eq_true rfl)) dX6_feed_33 ⟨Nat.le_of_ble_eq_true rfl, Nat.le_of_ble_eq_true rfl⟩) hW (fun H locs hW => ?_)
    refine lv_aload_n hx hb dX6_feed_36 rfl (lv_at hl 0 rfl) ?_
    refine r_get (C := RX6) (T := TX6) (N := 13) hx hb htA ia_X6 hown hK hW (0) (tp_lt (by decide)) (cE_k (rfl : kd 0 = 1)) rfl 0 (by decide) (htA _ aw_197) rfl dX6_feed_37 ?_
    refine lv_iload_n hx hb dX6_feed_40 rfl (lv_at hl 2 rfl) ?_
    refine lv_i2l (v := (Int32.toInt64 x2)) hx hb dX6_feed_41 rfl ?_
    refine lv_iconst (v := 4) hx hb dX6_feed_42 (by decide) ?_
    obtain ⟨y11, hy11, hF⟩ := bd_some hF
    refine r_bv (va_runV (As := [.long (Int32.toInt64 x2), .int 4]) (rest := []) ⟨hx, hb, hml, hown, htA⟩ (m_X3_putNumber l G g ad n a0 aM (1) y10 (Int32.toInt64 x2) 4 y11 ⟨rfl, rfl⟩ (tp_lt (by decide)) hy11) (cwV 2 htA (gV aw_239 aw_96 aw_97 aw_6 gz_X3_putNumber) rfl rfl rfl (by decide +kernel) ⟨Nat.le_of_ble_eq_true rfl, Nat.le_of_ble_eq_true rfl⟩) (r_preV hK hW (1) (tp_lt (by decide)) (cE_k (rfl : kd 1 = 2)) rfl [.long (Int32.toInt64 x2), .int 4]) rfl rfl hl.1 rfl (lv_room (Nat.le_of_ble_eq_true rfl)) dX6_feed_43 ⟨Nat.le_of_ble_eq_true rfl, Nat.le_of_ble_eq_true rfl⟩) hW (fun H locs hW => ?_)
    refine lv_aload_n hx hb dX6_feed_46 rfl (lv_at hl 0 rfl) ?_
    refine r_get (C := RX6) (T := TX6) (N := 13) hx hb htA ia_X6 hown hK hW (0) (tp_lt (by decide)) (cE_k (rfl : kd 0 = 1)) rfl 0 (by decide) (htA _ aw_197) rfl dX6_feed_47 ?_
    refine lv_iload_n hx hb dX6_feed_50 rfl (lv_at hl 3 rfl) ?_
    refine lv_i2l (v := (Int32.toInt64 x3)) hx hb dX6_feed_51 rfl ?_
    refine lv_iconst (v := 4) hx hb dX6_feed_52 (by decide) ?_
    obtain ⟨y12, hy12, hF⟩ := bd_some hF
    refine r_bv (va_runV (As := [.long (Int32.toInt64 x3), .int 4]) (rest := []) ⟨hx, hb, hml, hown, htA⟩ (m_X3_putNumber l G g ad n a0 aM (1) y11 (Int32.toInt64 x3) 4 y12 ⟨rfl, rfl⟩ (tp_lt (by decide)) hy12) (cwV 2 htA (gV aw_239 aw_96 aw_97 aw_6 gz_X3_putNumber) rfl rfl rfl (by decide +kernel) ⟨Nat.le_of_ble_eq_true rfl, Nat.le_of_ble_eq_true rfl⟩) (r_preV hK hW (1) (tp_lt (by decide)) (cE_k (rfl : kd 1 = 2)) rfl [.long (Int32.toInt64 x3), .int 4]) rfl rfl hl.1 rfl (lv_room (Nat.le_of_ble_eq_true rfl)) dX6_feed_53 ⟨Nat.le_of_ble_eq_true rfl, Nat.le_of_ble_eq_true rfl⟩) hW (fun H locs hW => ?_)
    refine lv_aload_n hx hb dX6_feed_56 rfl (lv_at hl 0 rfl) ?_
    refine r_get (C := RX6) (T := TX6) (N := 13) hx hb htA ia_X6 hown hK hW (0) (tp_lt (by decide)) (cE_k (rfl : kd 0 = 1)) rfl 0 (by decide) (htA _ aw_197) rfl dX6_feed_57 ?_
    refine lv_iload hx hb dX6_feed_60 (lv_at hl 4 rfl) ?_
    refine lv_i2l (v := (Int32.toInt64 x4)) hx hb dX6_feed_62 rfl ?_
    refine lv_iconst (v := 4) hx hb dX6_feed_63 (by decide) ?_
    obtain ⟨y13, hy13, hF⟩ := bd_some hF
    refine r_bv (va_runV (As := [.long (Int32.toInt64 x4), .int 4]) (rest := []) ⟨hx, hb, hml, hown, htA⟩ (m_X3_putNumber l G g ad n a0 aM (1) y12 (Int32.toInt64 x4) 4 y13 ⟨rfl, rfl⟩ (tp_lt (by decide)) hy13) (cwV 2 htA (gV aw_239 aw_96 aw_97 aw_6 gz_X3_putNumber) rfl rfl rfl (by decide +kernel) ⟨Nat.le_of_ble_eq_true rfl, Nat.le_of_ble_eq_true rfl⟩) (r_preV hK hW (1) (tp_lt (by decide)) (cE_k (rfl : kd 1 = 2)) rfl [.long (Int32.toInt64 x4), .int 4]) rfl rfl hl.1 rfl (lv_room (Nat.le_of_ble_eq_true rfl)) dX6_feed_64 ⟨Nat.le_of_ble_eq_true rfl, Nat.le_of_ble_eq_true rfl⟩) hW (fun H locs hW => ?_)
    refine lv_aload_n hx hb dX6_feed_67 rfl (lv_at hl 0 rfl) ?_
    refine r_get (C := RX6) (T := TX6) (N := 13) hx hb htA ia_X6 hown hK hW (0) (tp_lt (by decide)) (cE_k (rfl : kd 0 = 1)) rfl 0 (by decide) (htA _ aw_197) rfl dX6_feed_68 ?_
    refine lv_iload hx hb dX6_feed_71 (lv_at hl 5 rfl) ?_
    refine lv_i2l (v := (Int32.toInt64 x5)) hx hb dX6_feed_73 rfl ?_
    refine lv_iconst (v := 4) hx hb dX6_feed_74 (by decide) ?_
    obtain ⟨y14, hy14, hF⟩ := bd_some hF
    refine r_bv (va_runV (As := [.long (Int32.toInt64 x5), .int 4]) (rest := []) ⟨hx, hb, hml, hown, htA⟩ (m_X3_putNumber l G g ad n a0 aM (1) y13 (Int32.toInt64 x5) 4 y14 ⟨rfl, rfl⟩ (tp_lt (by decide)) hy14) (cwV 2 htA (gV aw_239 aw_96 aw_97 aw_6 gz_X3_putNumber) rfl rfl rfl (by decide +kernel) ⟨Nat.le_of_ble_eq_true rfl, Nat.le_of_ble_eq_true rfl⟩) (r_preV hK hW (1) (tp_lt (by decide)) (cE_k (rfl : kd 1 = 2)) rfl [.long (Int32.toInt64 x5), .int 4]) rfl rfl hl.1 rfl (lv_room (Nat.le_of_ble_eq_true rfl)) dX6_feed_75 ⟨Nat.le_of_ble_eq_true rfl, Nat.le_of_ble_eq_true rfl⟩) hW (fun H locs hW => ?_)
    refine lv_aload_n hx hb dX6_feed_78 rfl (lv_at hl 0 rfl) ?_
    refine r_get (C := RX6) (T := TX6) (N := 13) hx hb htA ia_X6 hown hK hW (0) (tp_lt (by decide)) (cE_k (rfl : kd 0 = 1)) rfl 0 (by decide) (htA _ aw_197) rfl dX6_feed_79 ?_
    obtain ⟨y15, hy15, hF⟩ := bd_some hF
    refine r_bi (va_runV (As := []) (rest := []) ⟨hx, hb, hml, hown, htA⟩ (m_X3_size l G g ad n a0 aM (1) y14 y15 ⟨rfl, rfl⟩ (tp_lt (by decide)) hy15) (cwV 0 htA (gV aw_238 aw_19 aw_20 aw_6 gz_X3_size) rfl rfl rfl (by decide +kernel) ⟨Nat.le_of_ble_eq_true rfl, Nat.le_of_ble_eq_true rfl⟩) (r_preV hK hW (1) (tp_lt (by decide)) (cE_k (rfl : kd 1 = 2)) rfl []) rfl rfl hl.1 rfl (lv_room (Nat.le_of_ble_eq_true rfl)) dX6_feed_82 ⟨Nat.le_of_ble_eq_true rfl, Nat.le_of_ble_eq_true rfl⟩) hW (fun H locs hW => ?_)
    exact rx_iret hx hb hr hlocks hW hF dX6_feed_85 (Nat.le_of_ble_eq_true rfl) (Nat.le_of_ble_eq_true rfl)
  · replace hF := (if_neg hc9).symm.trans hF
    exact rx_throw (text := "the tape is full") hx hb hst hown (by decide +kernel) (htA _ aw_224) (htA _ aw_225) hK (by decide +kernel) (hatS htA hK) hgdS hW hml hl.1 dX6_feed_16 dX6_feed_19 dX6_feed_20 dX6_feed_22 dX6_feed_25 hno (Nat.le_of_ble_eq_true rfl) (Nat.le_of_ble_eq_true rfl) (Nat.le_of_ble_eq_true rfl) (Nat.le_of_ble_eq_true rfl) (Nat.le_of_ble_eq_true rfl) (Nat.le_of_ble_eq_true rfl) hlocks (rx_kF ex_S hF)
def F_X6_answer_L15 (σ : St) : Option (St × Nat × Int32) := some (σ, 3, 0)
def F_X6_answer (σ : St) (x1 : Int32) : Option (St × Nat × Int32) := if x1 < 0 then F_X6_answer_L15 σ else (F_X3_size (7) σ).bind (fun y4 => if x1 < y4.2 then (F_X3_at (7) y4.1 x1).bind (fun y6 => some (y6.1, 0, y6.2)) else F_X6_answer_L15 y4.1)
set_option maxHeartbeats 4000000 in
set_option maxRecDepth 100000 in
theorem m_X6_answer (l : Launch) (hst : l.stackTraces = false) (G : va_G) (g : Nat → ClassId) (ad : Nat → Nat) (n a0 aM : Nat) (σ : St) (x1 : Int32) (x : St × Nat × Int32) (hF : F_X6_answer σ x1 = some x) : vx_Met l yX6_answer zs_X6_answer ({ frames := 6, cells := 1, slots := 6, locals := 82 } : Room) (va_Pc [.ref (ad (0)), .int x1] (wP G g ad n a0 aM σ)) (xQI G g ad n a0 x) (xX G g ad n a0 x.1 x.2.1) 1 6 (fun q : Nat => a0 ≤ q) := by
  refine vx_ofW (cc := cX6_answer) (maxL := 2) (ret := (some .int)) (by decide) rfl ?_
  intro p e s m args below meth c s₁ B hml hno hv
  obtain ⟨rfl, hP, hD, hK⟩ := hv
  have hx := B.exec
  have hb := B.bytes
  have hr := B.returns
  have htA : ∀ w ∈ AL, w.before _ s = true := fun w h9 => atoms_spec (ws := zs_X6_answer) B.pre w (List.mem_cons_of_mem _ h9)
  have hown : s.vm.findClass RX6 = some m.cls := findClass_of_methodNamed B.named
  have hlocks := B.notSynchronized
  have hW : Wd G g ad n a0 s.heap σ s.heap [] := ⟨hP, hD, va_S.rf⟩
  clear hP hD
  have hL15 : ∀ (σ : St) (H : Heap) (locs : List Loc) (ls : Array Slot), Wd G g ad n a0 s.heap σ H locs → lv_has ls 2 [] → F_X6_answer_L15  σ = some x → W p l e (headSpec zs_X6_answer ({ frames := 6, cells := 1, slots := 6, locals := 82 } : Room)).room s m ([.ref (ad (0)), .int x1] : List Value).toArray below meth c H locs 0 0 (vx_MQ below (xQI G g ad n a0 x) (xX G g ad n a0 x.1 x.2.1) ([.ref (ad (0)), .int x1] : List Value).toArray s 1 6 (fun q : Nat => a0 ≤ q)) (F0 m 15 ls []) := by
    intro σ H locs ls hW hl hF
    unfold F_X6_answer_L15 at hF
    exact rx_throw (text := "the answer has no such byte") hx hb hst hown (by decide +kernel) (htA _ aw_276) (htA _ aw_277) hK (by decide +kernel) (hatO htA hK) hgdO hW hml hl.1 dX6_answer_15 dX6_answer_18 dX6_answer_19 dX6_answer_21 dX6_answer_24 hno (Nat.le_of_ble_eq_true rfl) (Nat.le_of_ble_eq_true rfl) (Nat.le_of_ble_eq_true rfl) (Nat.le_of_ble_eq_true rfl) (Nat.le_of_ble_eq_true rfl) (Nat.le_of_ble_eq_true rfl) hlocks (rx_kF ex_O hF)
  have hl := lv_entry ([.ref (ad (0)), .int x1]) (n := 2) (Nat.le_of_ble_eq_true rfl)
  rw [lg_entry_eq]
  generalize (lg_sl ([.ref (ad (0)), .int x1]) ++ List.replicate (2 - (lg_sl ([.ref (ad (0)), .int x1])).length) Slot.unset).toArray = ls at hl ⊢
  have hl : lv_has ls 2 [(0, .ref (ad (0))), (1, .int x1)] := hl
  unfold F_X6_answer at hF
  refine lv_iload_n hx hb dX6_answer_0 rfl (lv_at hl 1 rfl) ?_
  refine lv_if_lt (tgt := 15) hx hb dX6_answer_1 (by decide) (fun hc3 => ?_) (fun hc3 => ?_)
  · replace hF := (if_pos hc3).symm.trans hF
    exact hL15 σ _ _ _  hW (lv_sub hl [] rfl) hF
  · replace hF := (if_neg hc3).symm.trans hF
    refine lv_iload_n hx hb dX6_answer_4 rfl (lv_at hl 1 rfl) ?_
    refine lv_aload_n hx hb dX6_answer_5 rfl (lv_at hl 0 rfl) ?_
    refine r_get (C := RX6) (T := TX6) (N := 13) hx hb htA ia_X6 hown hK hW (0) (tp_lt (by decide)) (cE_k (rfl : kd 0 = 1)) rfl 3 (by decide) (htA _ aw_200) rfl dX6_answer_6 ?_
    obtain ⟨y4, hy4, hF⟩ := bd_some hF
    refine r_bi (va_runV (As := []) (rest := [.int x1]) ⟨hx, hb, hml, hown, htA⟩ (m_X3_size l G g ad n a0 aM (7) σ y4 ⟨rfl, rfl⟩ (tp_lt (by decide)) hy4) (cwV 0 htA (gV aw_238 aw_19 aw_20 aw_6 gz_X3_size) rfl rfl rfl (by decide +kernel) ⟨Nat.le_of_ble_eq_true rfl, Nat.le_of_ble_eq_true rfl⟩) (r_preV hK hW (7) (tp_lt (by decide)) (cE_k (rfl : kd 7 = 2)) rfl []) rfl rfl hl.1 rfl (lv_room (Nat.le_of_ble_eq_true rfl)) dX6_answer_9 ⟨Nat.le_of_ble_eq_true rfl, Nat.le_of_ble_eq_true rfl⟩) hW (fun H locs hW => ?_)
    refine lv_icmp_lt (tgt := 25) hx hb dX6_answer_12 (by decide) (fun hc5 => ?_) (fun hc5 => ?_)
    · replace hF := (if_pos hc5).symm.trans hF
      refine lv_aload_n hx hb dX6_answer_25 rfl (lv_at hl 0 rfl) ?_
      refine r_get (C := RX6) (T := TX6) (N := 13) hx hb htA ia_X6 hown hK hW (0) (tp_lt (by decide)) (cE_k (rfl : kd 0 = 1)) rfl 3 (by decide) (htA _ aw_200) rfl dX6_answer_26 ?_
      refine lv_iload_n hx hb dX6_answer_29 rfl (lv_at hl 1 rfl) ?_
      obtain ⟨y6, hy6, hF⟩ := bd_some hF
      refine r_bi (va_runV (As := [.int x1]) (rest := []) ⟨hx, hb, hml, hown, htA⟩ (m_X3_at l G g ad n a0 aM (7) y4.1 x1 y6 ⟨rfl, rfl⟩ (tp_lt (by decide)) hy6) (cwV 1 htA (gV aw_242 aw_23 aw_24 aw_6 gz_X3_at) rfl rfl rfl (by decide +kernel) ⟨Nat.le_of_ble_eq_true rfl, Nat.le_of_ble_eq_true rfl⟩) (r_preV hK hW (7) (tp_lt (by decide)) (cE_k (rfl : kd 7 = 2)) rfl [.int x1]) rfl rfl hl.1 rfl (lv_room (Nat.le_of_ble_eq_true rfl)) dX6_answer_30 ⟨Nat.le_of_ble_eq_true rfl, Nat.le_of_ble_eq_true rfl⟩) hW (fun H locs hW => ?_)
      exact rx_iret hx hb hr hlocks hW hF dX6_answer_33 (Nat.le_of_ble_eq_true rfl) (Nat.le_of_ble_eq_true rfl)
    · replace hF := (if_neg hc5).symm.trans hF
      exact hL15 y4.1 _ _ _  hW (lv_sub hl [] rfl) hF
def F_X6_spoil_L11 (σ : St) : Option (St × Nat × Int32) := some (σ, 1, 0)
def F_X6_spoil (σ : St) (x1 : Int32) (x2 : Int32) : Option (St × Nat × Int32) := if x1 < 0 then F_X6_spoil_L11 σ else if x1 ≤ 300 then (F_X5_add σ x1 x2).bind (fun y4 => some (y4, 0, 0)) else F_X6_spoil_L11 σ
set_option maxHeartbeats 4000000 in
set_option maxRecDepth 100000 in
theorem m_X6_spoil (l : Launch) (hst : l.stackTraces = false) (G : va_G) (g : Nat → ClassId) (ad : Nat → Nat) (n a0 aM : Nat) (σ : St) (x1 : Int32) (x2 : Int32) (x : St × Nat × Int32) (hF : F_X6_spoil σ x1 x2 = some x) : vx_Met l yX6_spoil zs_X6_spoil ({ frames := 6, cells := 1, slots := 6, locals := 82 } : Room) (va_Pc [.ref (ad (0)), .int x1, .int x2] (wP G g ad n a0 aM σ)) (xQV G g ad n a0 x) (xX G g ad n a0 x.1 x.2.1) 1 6 (fun q : Nat => a0 ≤ q) := by
  refine vx_ofW (cc := cX6_spoil) (maxL := 3) (ret := none) (by decide) rfl ?_
  intro p e s m args below meth c s₁ B hml hno hv
  obtain ⟨rfl, hP, hD, hK⟩ := hv
  have hx := B.exec
  have hb := B.bytes
  have hr := B.returns
  have htA : ∀ w ∈ AL, w.before _ s = true := fun w h9 => atoms_spec (ws := zs_X6_spoil) B.pre w (List.mem_cons_of_mem _ h9)
  have hown : s.vm.findClass RX6 = some m.cls := findClass_of_methodNamed B.named
  have hlocks := B.notSynchronized
  have hW : Wd G g ad n a0 s.heap σ s.heap [] := ⟨hP, hD, va_S.rf⟩
  clear hP hD
  have hL11 : ∀ (σ : St) (H : Heap) (locs : List Loc) (ls : Array Slot), Wd G g ad n a0 s.heap σ H locs → lv_has ls 3 [] → F_X6_spoil_L11  σ = some x → W p l e (headSpec zs_X6_spoil ({ frames := 6, cells := 1, slots := 6, locals := 82 } : Room)).room s m ([.ref (ad (0)), .int x1, .int x2] : List Value).toArray below meth c H locs 0 0 (vx_MQ below (xQV G g ad n a0 x) (xX G g ad n a0 x.1 x.2.1) ([.ref (ad (0)), .int x1, .int x2] : List Value).toArray s 1 6 (fun q : Nat => a0 ≤ q)) (F0 m 11 ls []) := by
    intro σ H locs ls hW hl hF
    unfold F_X6_spoil_L11 at hF
    exact rx_throw (text := "no byte of an answer") hx hb hst hown (by decide +kernel) (htA _ aw_222) (htA _ aw_223) hK (by decide +kernel) (hatA htA hK) hgdA hW hml hl.1 dX6_spoil_11 dX6_spoil_14 dX6_spoil_15 dX6_spoil_17 dX6_spoil_20 hno (Nat.le_of_ble_eq_true rfl) (Nat.le_of_ble_eq_true rfl) (Nat.le_of_ble_eq_true rfl) (Nat.le_of_ble_eq_true rfl) (Nat.le_of_ble_eq_true rfl) (Nat.le_of_ble_eq_true rfl) hlocks (rx_kF ex_A hF)
  have hl := lv_entry ([.ref (ad (0)), .int x1, .int x2]) (n := 3) (Nat.le_of_ble_eq_true rfl)
  rw [lg_entry_eq]
  generalize (lg_sl ([.ref (ad (0)), .int x1, .int x2]) ++ List.replicate (3 - (lg_sl ([.ref (ad (0)), .int x1, .int x2])).length) Slot.unset).toArray = ls at hl ⊢
  have hl : lv_has ls 3 [(0, .ref (ad (0))), (1, .int x1), (2, .int x2)] := hl
  unfold F_X6_spoil at hF
  refine lv_iload_n hx hb dX6_spoil_0 rfl (lv_at hl 1 rfl) ?_
  refine lv_if_lt (tgt := 11) hx hb dX6_spoil_1 (by decide) (fun hc2 => ?_) (fun hc2 => ?_)
  · replace hF := (if_pos hc2).symm.trans hF
    exact hL11 σ _ _ _  hW (lv_sub hl [] rfl) hF
  · replace hF := (if_neg hc2).symm.trans hF
    refine lv_iload_n hx hb dX6_spoil_4 rfl (lv_at hl 1 rfl) ?_
    refine lv_sipush (v := 300) hx hb dX6_spoil_5 (by decide) ?_
    refine lv_icmp_le (tgt := 21) hx hb dX6_spoil_8 (by decide) (fun hc3 => ?_) (fun hc3 => ?_)
    · replace hF := (if_pos hc3).symm.trans hF
      refine lv_aload_n hx hb dX6_spoil_21 rfl (lv_at hl 0 rfl) ?_
      refine r_get (C := RX6) (T := TX6) (N := 13) hx hb htA ia_X6 hown hK hW (0) (tp_lt (by decide)) (cE_k (rfl : kd 0 = 1)) rfl 7 (by decide) (htA _ aw_208) rfl dX6_spoil_22 ?_
      refine lv_iload_n hx hb dX6_spoil_25 rfl (lv_at hl 1 rfl) ?_
      refine lv_iload_n hx hb dX6_spoil_26 rfl (lv_at hl 2 rfl) ?_
      obtain ⟨y4, hy4, hF⟩ := bd_some hF
      refine r_bv (va_runV (As := [.int x1, .int x2]) (rest := []) ⟨hx, hb, hml, hown, htA⟩ (m_X5_add l G g ad n a0 aM σ x1 x2 y4  hy4) (cwV 2 htA (gV aw_290 aw_291 aw_292 aw_189 gz_X5_add) rfl rfl rfl (by decide +kernel) ⟨Nat.le_of_ble_eq_true rfl, Nat.le_of_ble_eq_true rfl⟩) (r_preV hK hW (18) (tp_lt (by decide)) (cE_k (rfl : kd 18 = 5)) rfl [.int x1, .int x2]) rfl rfl hl.1 rfl (lv_room (Nat.le_of_ble_eq_true rfl)) dX6_spoil_27 ⟨Nat.le_of_ble_eq_true rfl, Nat.le_of_ble_eq_true rfl⟩) hW (fun H locs hW => ?_)
      exact rx_vret hx hb hr hlocks hW hF dX6_spoil_30 (Nat.le_of_ble_eq_true rfl) (Nat.le_of_ble_eq_true rfl)
    · replace hF := (if_neg hc3).symm.trans hF
      exact hL11 σ _ _ _  hW (lv_sub hl [] rfl) hF
def F_X6_rest (n : Nat) (σ : St) (x1 : Int32) : Option (St × Nat × Int64) := (F_X6_lampAt n σ x1).bind (fun y3 => if y3.2.1 = 0 then (F_X6_restOf y3.1 (y3.1.2 (y3.2.2) 0)).bind (fun y4 => some (y4.1, 0, y4.2)) else some (y3.1, y3.2.1, 0))
set_option maxHeartbeats 4000000 in
set_option maxRecDepth 100000 in
theorem m_X6_rest (l : Launch) (hst : l.stackTraces = false) (G : va_G) (g : Nat → ClassId) (ad : Nat → Nat) (n a0 aM : Nat) (σ : St) (x1 : Int32) (x : St × Nat × Int64) (hF : F_X6_rest n σ x1 = some x) : vx_Met l yX6_rest zs_X6_rest ({ frames := 7, cells := 2, slots := 12, locals := 103 } : Room) (va_Pc [.ref (ad (0)), .int x1] (wP G g ad n a0 aM σ)) (xQJ G g ad n a0 x) (xX G g ad n a0 x.1 x.2.1) 2 12 (fun q : Nat => a0 ≤ q) := by
  refine vx_ofW (cc := cX6_rest) (maxL := 2) (ret := (some .long)) (by decide) rfl ?_
  intro p e s m args below meth c s₁ B hml hno hv
  obtain ⟨rfl, hP, hD, hK⟩ := hv
  have hx := B.exec
  have hb := B.bytes
  have hr := B.returns
  have htA : ∀ w ∈ AL, w.before _ s = true := fun w h9 => atoms_spec (ws := zs_X6_rest) B.pre w (List.mem_cons_of_mem _ h9)
  have hown : s.vm.findClass RX6 = some m.cls := findClass_of_methodNamed B.named
  have hlocks := B.notSynchronized
  have hW : Wd G g ad n a0 s.heap σ s.heap [] := ⟨hP, hD, va_S.rf⟩
  clear hP hD
  have hl := lv_entry ([.ref (ad (0)), .int x1]) (n := 2) (Nat.le_of_ble_eq_true rfl)
  rw [lg_entry_eq]
  generalize (lg_sl ([.ref (ad (0)), .int x1]) ++ List.replicate (2 - (lg_sl ([.ref (ad (0)), .int x1])).length) Slot.unset).toArray = ls at hl ⊢
  have hl : lv_has ls 2 [(0, .ref (ad (0))), (1, .int x1)] := hl
  unfold F_X6_rest at hF
  refine lv_aload_n hx hb dX6_rest_0 rfl (lv_at hl 0 rfl) ?_
  refine lv_iload_n hx hb dX6_rest_1 rfl (lv_at hl 1 rfl) ?_
  obtain ⟨y3, hy3, hF⟩ := bd_some hF
  refine rx_br (vx_runV (As := [.int x1]) (rest := []) ⟨hx, hb, hml, hown, htA⟩ (m_X6_lampAt l hst G g ad n a0 aM σ x1 y3 hy3) (cwV 1 htA (gV aw_294 aw_295 aw_296 aw_52 gz_X6_lampAt) rfl rfl rfl (by decide +kernel) ⟨Nat.le_of_ble_eq_true rfl, Nat.le_of_ble_eq_true rfl⟩) (r_preV hK hW 0 (tp_lt (by decide)) (cE_k (rfl : kd 0 = 1)) rfl [.int x1]) rfl rfl hl.1 rfl (lv_room (Nat.le_of_ble_eq_true rfl)) dX6_rest_2 ⟨Nat.le_of_ble_eq_true rfl, Nat.le_of_ble_eq_true rfl⟩) hW (fun E ce q9 H locs hE hW hcell hv9 hcl => ?_) (fun H locs h0y3 hW => ?_)
  · replace hF := (if_neg (fun h9 => exN_pos E (hE.trans h9))).symm.trans hF
    obtain ⟨e1, e2⟩ := rx_xF hF
    rw [e1] at hW
    rw [e2] at hE
    exact rx_out hno hlocks hE hW hcell hv9 hcl (Nat.le_of_ble_eq_true rfl) (Nat.le_of_ble_eq_true rfl)
  replace hF := (if_pos h0y3).symm.trans hF
  obtain ⟨hqy3, thqy3⟩ := lampAt_ok hy3 h0y3
  refine r_getN (C := RX1) (T := TX1) (N := 15) hx hb htA ia_X1 hown hK hW (y3.2.2) (by omega) (cE_k hqy3.1) rfl 0 (by decide) (hK.nest (w := .fieldLinkNest RX6 173 "LampLine$Lamp" "id" "J" "LampLine") (by decide +kernel)) rfl dX6_rest_5 ?_
  obtain ⟨y4, hy4, hF⟩ := bd_some hF
  refine r_bl (va_runS (As := [.long (y3.1.2 (y3.2.2) 0)]) (rest := []) ⟨hx, hb, hml, hown, htA⟩ (m_X6_restOf l G g ad n a0 aM y3.1 (y3.1.2 (y3.2.2) 0) y4  hy4) (va_cwS 1 htA (gS aw_302 aw_79 aw_52 gz_X6_restOf) rfl rfl rfl (by decide +kernel) ⟨Nat.le_of_ble_eq_true rfl, Nat.le_of_ble_eq_true rfl⟩) (r_pre hK hW [.long (y3.1.2 (y3.2.2) 0)]) rfl rfl hl.1 rfl (lv_room (Nat.le_of_ble_eq_true rfl)) dX6_rest_8 ⟨Nat.le_of_ble_eq_true rfl, Nat.le_of_ble_eq_true rfl⟩) hW (fun H locs hW => ?_)
  exact rx_lret hx hb hr hlocks hW hF dX6_rest_11 (Nat.le_of_ble_eq_true rfl) (Nat.le_of_ble_eq_true rfl)
def F_X6_about_L16 (n : Nat) (σ : St) : Option (St × Nat × Int32) := some (σ, 3, 0)
def F_X6_about (n : Nat) (σ : St) (x1 : Int32) (x2 : Int32) : Option (St × Nat × Int32) := (F_X6_lampAt n σ x1).bind (fun y3 => if y3.2.1 = 0 then if x2 < 0 then F_X6_about_L16 n y3.1 else if x2 ≤ 10 then (F_X1_fact (y3.2.2) y3.1 x2 (y3.1.1 (0) 11)).bind (fun y6 => some (y6.1, 0, y6.2)) else F_X6_about_L16 n y3.1 else some (y3.1, y3.2.1, 0))
set_option maxHeartbeats 4000000 in
set_option maxRecDepth 100000 in
theorem m_X6_about (l : Launch) (hst : l.stackTraces = false) (G : va_G) (g : Nat → ClassId) (ad : Nat → Nat) (n a0 aM : Nat) (σ : St) (x1 : Int32) (x2 : Int32) (x : St × Nat × Int32) (hF : F_X6_about n σ x1 x2 = some x) : vx_Met l yX6_about zs_X6_about ({ frames := 7, cells := 2, slots := 12, locals := 103 } : Room) (va_Pc [.ref (ad (0)), .int x1, .int x2] (wP G g ad n a0 aM σ)) (xQI G g ad n a0 x) (xX G g ad n a0 x.1 x.2.1) 2 12 (fun q : Nat => a0 ≤ q) := by
  refine vx_ofW (cc := cX6_about) (maxL := 4) (ret := (some .int)) (by decide) rfl ?_
  intro p e s m args below meth c s₁ B hml hno hv
  obtain ⟨rfl, hP, hD, hK⟩ := hv
  have hx := B.exec
  have hb := B.bytes
  have hr := B.returns
  have htA : ∀ w ∈ AL, w.before _ s = true := fun w h9 => atoms_spec (ws := zs_X6_about) B.pre w (List.mem_cons_of_mem _ h9)
  have hown : s.vm.findClass RX6 = some m.cls := findClass_of_methodNamed B.named
  have hlocks := B.notSynchronized
  have hW : Wd G g ad n a0 s.heap σ s.heap [] := ⟨hP, hD, va_S.rf⟩
  clear hP hD
  have hL16 : ∀ (σ : St) (H : Heap) (locs : List Loc) (ls : Array Slot), Wd G g ad n a0 s.heap σ H locs → lv_has ls 4 [] → F_X6_about_L16 n  σ = some x → W p l e (headSpec zs_X6_about ({ frames := 7, cells := 2, slots := 12, locals := 103 } : Room)).room s m ([.ref (ad (0)), .int x1, .int x2] : List Value).toArray below meth c H locs (0 + 1) (0 + 6) (vx_MQ below (xQI G g ad n a0 x) (xX G g ad n a0 x.1 x.2.1) ([.ref (ad (0)), .int x1, .int x2] : List Value).toArray s 2 12 (fun q : Nat => a0 ≤ q)) (F0 m 16 ls []) := by
    intro σ H locs ls hW hl hF
    unfold F_X6_about_L16 at hF
    exact rx_throw (text := "nothing of that kind is told") hx hb hst hown (by decide +kernel) (htA _ aw_276) (htA _ aw_277) hK (by decide +kernel) (hatO htA hK) hgdO hW hml hl.1 dX6_about_16 dX6_about_19 dX6_about_20 dX6_about_22 dX6_about_25 hno (Nat.le_of_ble_eq_true rfl) (Nat.le_of_ble_eq_true rfl) (Nat.le_of_ble_eq_true rfl) (Nat.le_of_ble_eq_true rfl) (Nat.le_of_ble_eq_true rfl) (Nat.le_of_ble_eq_true rfl) hlocks (rx_kF ex_O hF)
  have hl := lv_entry ([.ref (ad (0)), .int x1, .int x2]) (n := 4) (Nat.le_of_ble_eq_true rfl)
  rw [lg_entry_eq]
  generalize (lg_sl ([.ref (ad (0)), .int x1, .int x2]) ++ List.replicate (4 - (lg_sl ([.ref (ad (0)), .int x1, .int x2])).length) Slot.unset).toArray = ls at hl ⊢
  have hl : lv_has ls 4 [(0, .ref (ad (0))), (1, .int x1), (2, .int x2)] := hl
  unfold F_X6_about at hF
  refine lv_aload_n hx hb dX6_about_0 rfl (lv_at hl 0 rfl) ?_
  refine lv_iload_n hx hb dX6_about_1 rfl (lv_at hl 1 rfl) ?_
  obtain ⟨y3, hy3, hF⟩ := bd_some hF
  refine rx_br (vx_runV (As := [.int x1]) (rest := []) ⟨hx, hb, hml, hown, htA⟩ (m_X6_lampAt l hst G g ad n a0 aM σ x1 y3 hy3) (cwV 1 htA (gV aw_294 aw_295 aw_296 aw_52 gz_X6_lampAt) rfl rfl rfl (by decide +kernel) ⟨Nat.le_of_ble_eq_true rfl, Nat.le_of_ble_eq_true rfl⟩) (r_preV hK hW 0 (tp_lt (by decide)) (cE_k (rfl : kd 0 = 1)) rfl [.int x1]) rfl rfl hl.1 rfl (lv_room (Nat.le_of_ble_eq_true rfl)) dX6_about_2 ⟨Nat.le_of_ble_eq_true rfl, Nat.le_of_ble_eq_true rfl⟩) hW (fun E ce q9 H locs hE hW hcell hv9 hcl => ?_) (fun H locs h0y3 hW => ?_)
  · replace hF := (if_neg (fun h9 => exN_pos E (hE.trans h9))).symm.trans hF
    obtain ⟨e1, e2⟩ := rx_xF hF
    rw [e1] at hW
    rw [e2] at hE
    exact rx_out hno hlocks hE hW hcell hv9 hcl (Nat.le_of_ble_eq_true rfl) (Nat.le_of_ble_eq_true rfl)
  replace hF := (if_pos h0y3).symm.trans hF
  obtain ⟨hqy3, thqy3⟩ := lampAt_ok hy3 h0y3
  refine lv_astore_n (lv' := [(3, .ref (ad (y3.2.2))), (0, .ref (ad (0))), (1, .int x1), (2, .int x2)]) hx hb dX6_about_5 rfl hl (by decide) rfl (fun ls hl => ?_)
  refine lv_iload_n hx hb dX6_about_6 rfl (lv_at hl 3 rfl) ?_
  refine lv_if_lt (tgt := 16) hx hb dX6_about_7 (by decide) (fun hc4 => ?_) (fun hc4 => ?_)
  · replace hF := (if_pos hc4).symm.trans hF
    exact hL16 y3.1 _ _ _  hW (lv_sub hl [] rfl) hF
  · replace hF := (if_neg hc4).symm.trans hF
    refine lv_iload_n hx hb dX6_about_10 rfl (lv_at hl 3 rfl) ?_
    refine lv_bipush (v := 10) hx hb dX6_about_11 (by decide) ?_
    refine lv_icmp_le (tgt := 26) hx hb dX6_about_13 (by decide) (fun hc5 => ?_) (fun hc5 => ?_)
    · replace hF := (if_pos hc5).symm.trans hF
      refine lv_aload_n hx hb dX6_about_26 rfl (lv_at hl 0 rfl) ?_
      refine lv_iload_n hx hb dX6_about_27 rfl (lv_at hl 3 rfl) ?_
      refine lv_aload_n hx hb dX6_about_28 rfl (lv_at hl 1 rfl) ?_
      refine r_get (C := RX6) (T := TX6) (N := 13) hx hb htA ia_X6 hown hK hW (0) (tp_lt (by decide)) (cE_k (rfl : kd 0 = 1)) rfl 11 (by decide) (htA _ aw_241) rfl dX6_about_29 ?_
      obtain ⟨y6, hy6, hF⟩ := bd_some hF
      refine r_bi (va_runV (As := [.int x2, .int (y3.1.1 (0) 11)]) (rest := []) ⟨hx, hb, hml, hown, htA⟩ (m_X1_fact l G g ad n a0 aM (y3.2.2) y3.1 x2 (y3.1.1 (0) 11) y6 hqy3 (by omega) hy6) (cwV 2 htA (gV aw_298 aw_299 aw_300 aw_57 gz_X1_fact) rfl rfl rfl (by decide +kernel) ⟨Nat.le_of_ble_eq_true rfl, Nat.le_of_ble_eq_true rfl⟩) (r_preV hK hW (y3.2.2) (by omega) (cE_k hqy3.1) rfl [.int x2, .int (y3.1.1 (0) 11)]) rfl rfl hl.1 rfl (lv_room (Nat.le_of_ble_eq_true rfl)) dX6_about_32 ⟨Nat.le_of_ble_eq_true rfl, Nat.le_of_ble_eq_true rfl⟩) hW (fun H locs hW => ?_)
      exact rx_iret hx hb hr hlocks hW hF dX6_about_35 (Nat.le_of_ble_eq_true rfl) (Nat.le_of_ble_eq_true rfl)
    · replace hF := (if_neg hc5).symm.trans hF
      exact hL16 y3.1 _ _ _  hW (lv_sub hl [] rfl) hF
def F_X6_level_L18 (n : Nat) (σ : St) : Option (St × Nat × Int32) := some (σ, 3, 0)
def F_X6_level (n : Nat) (σ : St) (x1 : Int32) (x2 : Int32) : Option (St × Nat × Int32) := (F_X6_lampAt n σ x1).bind (fun y4 => if y4.2.1 = 0 then if x2 < 0 then F_X6_level_L18 n y4.1 else (F_X1_footprint (y4.2.2) y4.1).bind (fun y6 => if x2 < y6.2 then (F_X1_levelAt (y4.2.2) y6.1 x2).bind (fun y8 => some (y8.1, 0, y8.2)) else F_X6_level_L18 n y6.1) else some (y4.1, y4.2.1, 0))
set_option maxHeartbeats 4000000 in
set_option maxRecDepth 100000 in
theorem m_X6_level (l : Launch) (hst : l.stackTraces = false) (G : va_G) (g : Nat → ClassId) (ad : Nat → Nat) (n a0 aM : Nat) (σ : St) (x1 : Int32) (x2 : Int32) (x : St × Nat × Int32) (hF : F_X6_level n σ x1 x2 = some x) : vx_Met l yX6_level zs_X6_level ({ frames := 7, cells := 2, slots := 12, locals := 103 } : Room) (va_Pc [.ref (ad (0)), .int x1, .int x2] (wP G g ad n a0 aM σ)) (xQI G g ad n a0 x) (xX G g ad n a0 x.1 x.2.1) 2 12 (fun q : Nat => a0 ≤ q) := by
  refine vx_ofW (cc := cX6_level) (maxL := 4) (ret := (some .int)) (by decide) rfl ?_
  intro p e s m args below meth c s₁ B hml hno hv
  obtain ⟨rfl, hP, hD, hK⟩ := hv
  have hx := B.exec
  have hb := B.bytes
  have hr := B.returns
  have htA : ∀ w ∈ AL, w.before _ s = true := fun w h9 => atoms_spec (ws := zs_X6_level) B.pre w (List.mem_cons_of_mem _ h9)
  have hown : s.vm.findClass RX6 = some m.cls := findClass_of_methodNamed B.named
  have hlocks := B.notSynchronized
  have hW : Wd G g ad n a0 s.heap σ s.heap [] := ⟨hP, hD, va_S.rf⟩
  clear hP hD
  have hL18 : ∀ (σ : St) (H : Heap) (locs : List Loc) (ls : Array Slot), Wd G g ad n a0 s.heap σ H locs → lv_has ls 4 [] → F_X6_level_L18 n  σ = some x → W p l e (headSpec zs_X6_level ({ frames := 7, cells := 2, slots := 12, locals := 103 } : Room)).room s m ([.ref (ad (0)), .int x1, .int x2] : List Value).toArray below meth c H locs (0 + 1) (0 + 6) (vx_MQ below (xQI G g ad n a0 x) (xX G g ad n a0 x.1 x.2.1) ([.ref (ad (0)), .int x1, .int x2] : List Value).toArray s 2 12 (fun q : Nat => a0 ≤ q)) (F0 m 18 ls []) := by
    intro σ H locs ls hW hl hF
    unfold F_X6_level_L18 at hF
    exact rx_throw (text := "the lamp has no such slot") hx hb hst hown (by decide +kernel) (htA _ aw_276) (htA _ aw_277) hK (by decide +kernel) (hatO htA hK) hgdO hW hml hl.1 dX6_level_18 dX6_level_21 dX6_level_22 dX6_level_24 dX6_level_27 hno (Nat.le_of_ble_eq_true rfl) (Nat.le_of_ble_eq_true rfl) (Nat.le_of_ble_eq_true rfl) (Nat.le_of_ble_eq_true rfl) (Nat.le_of_ble_eq_true rfl) (Nat.le_of_ble_eq_true rfl) hlocks (rx_kF ex_O hF)
  have hl := lv_entry ([.ref (ad (0)), .int x1, .int x2]) (n := 4) (Nat.le_of_ble_eq_true rfl)
  rw [lg_entry_eq]
  generalize (lg_sl ([.ref (ad (0)), .int x1, .int x2]) ++ List.replicate (4 - (lg_sl ([.ref (ad (0)), .int x1, .int x2])).length) Slot.unset).toArray = ls at hl ⊢
  have hl : lv_has ls 4 [(0, .ref (ad (0))), (1, .int x1), (2, .int x2)] := hl
  unfold F_X6_level at hF
  refine lv_aload_n hx hb dX6_level_0 rfl (lv_at hl 0 rfl) ?_
  refine lv_iload_n hx hb dX6_level_1 rfl (lv_at hl 1 rfl) ?_
  obtain ⟨y4, hy4, hF⟩ := bd_some hF
  refine rx_br (vx_runV (As := [.int x1]) (rest := []) ⟨hx, hb, hml, hown, htA⟩ (m_X6_lampAt l hst G g ad n a0 aM σ x1 y4 hy4) (cwV 1 htA (gV aw_294 aw_295 aw_296 aw_52 gz_X6_lampAt) rfl rfl rfl (by decide +kernel) ⟨Nat.le_of_ble_eq_true rfl, Nat.le_of_ble_eq_true rfl⟩) (r_preV hK hW 0 (tp_lt (by decide)) (cE_k (rfl : kd 0 = 1)) rfl [.int x1]) rfl rfl hl.1 rfl (lv_room (Nat.le_of_ble_eq_true rfl)) dX6_level_2 ⟨Nat.le_of_ble_eq_true rfl, Nat.le_of_ble_eq_true rfl⟩) hW (fun E ce q9 H locs hE hW hcell hv9 hcl => ?_) (fun H locs h0y4 hW => ?_)
  · replace hF := (if_neg (fun h9 => exN_pos E (hE.trans h9))).symm.trans hF
    obtain ⟨e1, e2⟩ := rx_xF hF
    rw [e1] at hW
    rw [e2] at hE
    exact rx_out hno hlocks hE hW hcell hv9 hcl (Nat.le_of_ble_eq_true rfl) (Nat.le_of_ble_eq_true rfl)
  replace hF := (if_pos h0y4).symm.trans hF
  obtain ⟨hqy4, thqy4⟩ := lampAt_ok hy4 h0y4
  refine lv_astore_n (lv' := [(3, .ref (ad (y4.2.2))), (0, .ref (ad (0))), (1, .int x1), (2, .int x2)]) hx hb dX6_level_5 rfl hl (by decide) rfl (fun ls hl => ?_)
  refine lv_iload_n hx hb dX6_level_6 rfl (lv_at hl 3 rfl) ?_
  refine lv_if_lt (tgt := 18) hx hb dX6_level_7 (by decide) (fun hc5 => ?_) (fun hc5 => ?_)
  · replace hF := (if_pos hc5).symm.trans hF
    exact hL18 y4.1 _ _ _  hW (lv_sub hl [] rfl) hF
  · replace hF := (if_neg hc5).symm.trans hF
    refine lv_iload_n hx hb dX6_level_10 rfl (lv_at hl 3 rfl) ?_
    refine lv_aload_n hx hb dX6_level_11 rfl (lv_at hl 0 rfl) ?_
    obtain ⟨y6, hy6, hF⟩ := bd_some hF
    refine r_bi (va_runV (As := []) (rest := [.int x2]) ⟨hx, hb, hml, hown, htA⟩ (m_X1_footprint l G g ad n a0 aM (y4.2.2) y4.1 y6 hqy4 (by omega) hy6) (cwV 0 htA (gV aw_303 aw_55 aw_56 aw_57 gz_X1_footprint) rfl rfl rfl (by decide +kernel) ⟨Nat.le_of_ble_eq_true rfl, Nat.le_of_ble_eq_true rfl⟩) (r_preV hK hW (y4.2.2) (by omega) (cE_k hqy4.1) rfl []) rfl rfl hl.1 rfl (lv_room (Nat.le_of_ble_eq_true rfl)) dX6_level_12 ⟨Nat.le_of_ble_eq_true rfl, Nat.le_of_ble_eq_true rfl⟩) hW (fun H locs hW => ?_)
    refine lv_icmp_lt (tgt := 28) hx hb dX6_level_15 (by decide) (fun hc7 => ?_) (fun hc7 => ?_)
    · replace hF := (if_pos hc7).symm.trans hF
      refine lv_aload_n hx hb dX6_level_28 rfl (lv_at hl 0 rfl) ?_
      refine lv_iload_n hx hb dX6_level_29 rfl (lv_at hl 3 rfl) ?_
      obtain ⟨y8, hy8, hF⟩ := bd_some hF
      refine r_bi (va_runV (As := [.int x2]) (rest := []) ⟨hx, hb, hml, hown, htA⟩ (m_X1_levelAt l G g ad n a0 aM (y4.2.2) y6.1 x2 y8 hqy4 (by omega) hy8) (cwV 1 htA (gV aw_304 aw_305 aw_306 aw_57 gz_X1_levelAt) rfl rfl rfl (by decide +kernel) ⟨Nat.le_of_ble_eq_true rfl, Nat.le_of_ble_eq_true rfl⟩) (r_preV hK hW (y4.2.2) (by omega) (cE_k hqy4.1) rfl [.int x2]) rfl rfl hl.1 rfl (lv_room (Nat.le_of_ble_eq_true rfl)) dX6_level_30 ⟨Nat.le_of_ble_eq_true rfl, Nat.le_of_ble_eq_true rfl⟩) hW (fun H locs hW => ?_)
      exact rx_iret hx hb hr hlocks hW hF dX6_level_33 (Nat.le_of_ble_eq_true rfl) (Nat.le_of_ble_eq_true rfl)
    · replace hF := (if_neg hc7).symm.trans hF
      exact hL18 y6.1 _ _ _  hW (lv_sub hl [] rfl) hF
def F_X6_label_L21 (n : Nat) (σ : St) : Option (St × Nat × Int32) := some (σ, 3, 0)
def F_X6_label (n : Nat) (σ : St) (x1 : Int32) (x2 : Int32) : Option (St × Nat × Int32) := (F_X6_lampAt n σ x1).bind (fun y4 => if y4.2.1 = 0 then if x2 < 0 then F_X6_label_L21 n y4.1 else (F_X3_size (y4.2.2 + 2) y4.1).bind (fun y6 => if x2 < y6.2 then (F_X3_at (y4.2.2 + 2) y6.1 x2).bind (fun y8 => some (y8.1, 0, y8.2)) else F_X6_label_L21 n y6.1) else some (y4.1, y4.2.1, 0))
set_option maxHeartbeats 4000000 in
set_option maxRecDepth 100000 in
theorem m_X6_label (l : Launch) (hst : l.stackTraces = false) (G : va_G) (g : Nat → ClassId) (ad : Nat → Nat) (n a0 aM : Nat) (σ : St) (x1 : Int32) (x2 : Int32) (x : St × Nat × Int32) (hF : F_X6_label n σ x1 x2 = some x) : vx_Met l yX6_label zs_X6_label ({ frames := 7, cells := 2, slots := 12, locals := 103 } : Room) (va_Pc [.ref (ad (0)), .int x1, .int x2] (wP G g ad n a0 aM σ)) (xQI G g ad n a0 x) (xX G g ad n a0 x.1 x.2.1) 2 12 (fun q : Nat => a0 ≤ q) := by
  refine vx_ofW (cc := cX6_label) (maxL := 4) (ret := (some .int)) (by decide) rfl ?_
  intro p e s m args below meth c s₁ B hml hno hv
  obtain ⟨rfl, hP, hD, hK⟩ := hv
  have hx := B.exec
  have hb := B.bytes
  have hr := B.returns
  have htA : ∀ w ∈ AL, w.before _ s = true := fun w h9 => atoms_spec (ws := zs_X6_label) B.pre w (List.mem_cons_of_mem _ h9)
  have hown : s.vm.findClass RX6 = some m.cls := findClass_of_methodNamed B.named
  have hlocks := B.notSynchronized
  have hW : Wd G g ad n a0 s.heap σ s.heap [] := ⟨hP, hD, va_S.rf⟩
  clear hP hD
  have hL21 : ∀ (σ : St) (H : Heap) (locs : List Loc) (ls : Array Slot), Wd G g ad n a0 s.heap σ H locs → lv_has ls 4 [] → F_X6_label_L21 n  σ = some x → W p l e (headSpec zs_X6_label ({ frames := 7, cells := 2, slots := 12, locals := 103 } : Room)).room s m ([.ref (ad (0)), .int x1, .int x2] : List Value).toArray below meth c H locs (0 + 1) (0 + 6) (vx_MQ below (xQI G g ad n a0 x) (xX G g ad n a0 x.1 x.2.1) ([.ref (ad (0)), .int x1, .int x2] : List Value).toArray s 2 12 (fun q : Nat => a0 ≤ q)) (F0 m 21 ls []) := by
    intro σ H locs ls hW hl hF
    unfold F_X6_label_L21 at hF
    exact rx_throw (text := "the label has no such byte") hx hb hst hown (by decide +kernel) (htA _ aw_276) (htA _ aw_277) hK (by decide +kernel) (hatO htA hK) hgdO hW hml hl.1 dX6_label_21 dX6_label_24 dX6_label_25 dX6_label_27 dX6_label_30 hno (Nat.le_of_ble_eq_true rfl) (Nat.le_of_ble_eq_true rfl) (Nat.le_of_ble_eq_true rfl) (Nat.le_of_ble_eq_true rfl) (Nat.le_of_ble_eq_true rfl) (Nat.le_of_ble_eq_true rfl) hlocks (rx_kF ex_O hF)
  have hl := lv_entry ([.ref (ad (0)), .int x1, .int x2]) (n := 4) (Nat.le_of_ble_eq_true rfl)
  rw [lg_entry_eq]
  generalize (lg_sl ([.ref (ad (0)), .int x1, .int x2]) ++ List.replicate (4 - (lg_sl ([.ref (ad (0)), .int x1, .int x2])).length) Slot.unset).toArray = ls at hl ⊢
  have hl : lv_has ls 4 [(0, .ref (ad (0))), (1, .int x1), (2, .int x2)] := hl
  unfold F_X6_label at hF
  refine lv_aload_n hx hb dX6_label_0 rfl (lv_at hl 0 rfl) ?_
  refine lv_iload_n hx hb dX6_label_1 rfl (lv_at hl 1 rfl) ?_
  obtain ⟨y4, hy4, hF⟩ := bd_some hF
  refine rx_br (vx_runV (As := [.int x1]) (rest := []) ⟨hx, hb, hml, hown, htA⟩ (m_X6_lampAt l hst G g ad n a0 aM σ x1 y4 hy4) (cwV 1 htA (gV aw_294 aw_295 aw_296 aw_52 gz_X6_lampAt) rfl rfl rfl (by decide +kernel) ⟨Nat.le_of_ble_eq_true rfl, Nat.le_of_ble_eq_true rfl⟩) (r_preV hK hW 0 (tp_lt (by decide)) (cE_k (rfl : kd 0 = 1)) rfl [.int x1]) rfl rfl hl.1 rfl (lv_room (Nat.le_of_ble_eq_true rfl)) dX6_label_2 ⟨Nat.le_of_ble_eq_true rfl, Nat.le_of_ble_eq_true rfl⟩) hW (fun E ce q9 H locs hE hW hcell hv9 hcl => ?_) (fun H locs h0y4 hW => ?_)
  · replace hF := (if_neg (fun h9 => exN_pos E (hE.trans h9))).symm.trans hF
    obtain ⟨e1, e2⟩ := rx_xF hF
    rw [e1] at hW
    rw [e2] at hE
    exact rx_out hno hlocks hE hW hcell hv9 hcl (Nat.le_of_ble_eq_true rfl) (Nat.le_of_ble_eq_true rfl)
  replace hF := (if_pos h0y4).symm.trans hF
  obtain ⟨hqy4, thqy4⟩ := lampAt_ok hy4 h0y4
  refine lv_astore_n (lv' := [(3, .ref (ad (y4.2.2))), (0, .ref (ad (0))), (1, .int x1), (2, .int x2)]) hx hb dX6_label_5 rfl hl (by decide) rfl (fun ls hl => ?_)
  refine lv_iload_n hx hb dX6_label_6 rfl (lv_at hl 3 rfl) ?_
  refine lv_if_lt (tgt := 21) hx hb dX6_label_7 (by decide) (fun hc5 => ?_) (fun hc5 => ?_)
  · replace hF := (if_pos hc5).symm.trans hF
    exact hL21 y4.1 _ _ _  hW (lv_sub hl [] rfl) hF
  · replace hF := (if_neg hc5).symm.trans hF
    refine lv_iload_n hx hb dX6_label_10 rfl (lv_at hl 3 rfl) ?_
    refine lv_aload_n hx hb dX6_label_11 rfl (lv_at hl 0 rfl) ?_
    refine r_getN (C := RX1) (T := TX1) (N := 15) hx hb htA ia_X1 hown hK hW (y4.2.2) (by omega) (cE_k hqy4.1) rfl 4 (by decide) (hK.nest (w := .fieldLinkNest RX6 189 "LampLine$Lamp" "text" "LLampLine$Row;" "LampLine") (by decide +kernel)) rfl dX6_label_12 ?_
    obtain ⟨y6, hy6, hF⟩ := bd_some hF
    refine r_bi (va_runV (As := []) (rest := [.int x2]) ⟨hx, hb, hml, hown, htA⟩ (m_X3_size l G g ad n a0 aM (y4.2.2 + 2) y4.1 y6 hqy4.2.2.1 (by omega) hy6) (cwV 0 htA (gV aw_238 aw_19 aw_20 aw_6 gz_X3_size) rfl rfl rfl (by decide +kernel) ⟨Nat.le_of_ble_eq_true rfl, Nat.le_of_ble_eq_true rfl⟩) (r_preV hK hW (y4.2.2 + 2) (by omega) (cE_k hqy4.2.2.1.1) rfl []) rfl rfl hl.1 rfl (lv_room (Nat.le_of_ble_eq_true rfl)) dX6_label_15 ⟨Nat.le_of_ble_eq_true rfl, Nat.le_of_ble_eq_true rfl⟩) hW (fun H locs hW => ?_)
    refine lv_icmp_lt (tgt := 31) hx hb dX6_label_18 (by decide) (fun hc7 => ?_) (fun hc7 => ?_)
    · replace hF := (if_pos hc7).symm.trans hF
      refine lv_aload_n hx hb dX6_label_31 rfl (lv_at hl 0 rfl) ?_
      refine r_getN (C := RX1) (T := TX1) (N := 15) hx hb htA ia_X1 hown hK hW (y4.2.2) (by omega) (cE_k hqy4.1) rfl 4 (by decide) (hK.nest (w := .fieldLinkNest RX6 189 "LampLine$Lamp" "text" "LLampLine$Row;" "LampLine") (by decide +kernel)) rfl dX6_label_32 ?_
      refine lv_iload_n hx hb dX6_label_35 rfl (lv_at hl 3 rfl) ?_
      obtain ⟨y8, hy8, hF⟩ := bd_some hF
      refine r_bi (va_runV (As := [.int x2]) (rest := []) ⟨hx, hb, hml, hown, htA⟩ (m_X3_at l G g ad n a0 aM (y4.2.2 + 2) y6.1 x2 y8 hqy4.2.2.1 (by omega) hy8) (cwV 1 htA (gV aw_242 aw_23 aw_24 aw_6 gz_X3_at) rfl rfl rfl (by decide +kernel) ⟨Nat.le_of_ble_eq_true rfl, Nat.le_of_ble_eq_true rfl⟩) (r_preV hK hW (y4.2.2 + 2) (by omega) (cE_k hqy4.2.2.1.1) rfl [.int x2]) rfl rfl hl.1 rfl (lv_room (Nat.le_of_ble_eq_true rfl)) dX6_label_36 ⟨Nat.le_of_ble_eq_true rfl, Nat.le_of_ble_eq_true rfl⟩) hW (fun H locs hW => ?_)
      exact rx_iret hx hb hr hlocks hW hF dX6_label_39 (Nat.le_of_ble_eq_true rfl) (Nat.le_of_ble_eq_true rfl)
    · replace hF := (if_neg hc7).symm.trans hF
      exact hL21 y6.1 _ _ _  hW (lv_sub hl [] rfl) hF
def F_X6_silence (n : Nat) (σ : St) (x1 : Int32) (x2 : Int32) : Option (St × Nat × Int32) := (F_X6_lampAt n σ x1).bind (fun y5 => if y5.2.1 = 0 then (F_X6_flag y5.1 (y5.1.1 (y5.2.2) 11)).bind (fun y6 => gd (zb x2) (nm (sI y6.1 (y5.2.2) 11 x2) (fun w8 => some (w8, 0, y6.2)))) else some (y5.1, y5.2.1, 0))
set_option maxHeartbeats 4000000 in
set_option maxRecDepth 100000 in
theorem m_X6_silence (l : Launch) (hst : l.stackTraces = false) (G : va_G) (g : Nat → ClassId) (ad : Nat → Nat) (n a0 aM : Nat) (σ : St) (x1 : Int32) (x2 : Int32) (x : St × Nat × Int32) (hF : F_X6_silence n σ x1 x2 = some x) : vx_Met l yX6_silence zs_X6_silence ({ frames := 7, cells := 2, slots := 12, locals := 103 } : Room) (va_Pc [.ref (ad (0)), .int x1, .int x2] (wP G g ad n a0 aM σ)) (xQI G g ad n a0 x) (xX G g ad n a0 x.1 x.2.1) 2 12 (fun q : Nat => a0 ≤ q) := by
  refine vx_ofW (cc := cX6_silence) (maxL := 5) (ret := (some .int)) (by decide) rfl ?_
  intro p e s m args below meth c s₁ B hml hno hv
  obtain ⟨rfl, hP, hD, hK⟩ := hv
  have hx := B.exec
  have hb := B.bytes
  have hr := B.returns
  have htA : ∀ w ∈ AL, w.before _ s = true := fun w h9 => atoms_spec (ws := zs_X6_silence) B.pre w (List.mem_cons_of_mem _ h9)
  have hown : s.vm.findClass RX6 = some m.cls := findClass_of_methodNamed B.named
  have hlocks := B.notSynchronized
  have hW : Wd G g ad n a0 s.heap σ s.heap [] := ⟨hP, hD, va_S.rf⟩
  clear hP hD
  have hl := lv_entry ([.ref (ad (0)), .int x1, .int x2]) (n := 5) (Nat.le_of_ble_eq_true rfl)
  rw [lg_entry_eq]
  generalize (lg_sl ([.ref (ad (0)), .int x1, .int x2]) ++ List.replicate (5 - (lg_sl ([.ref (ad (0)), .int x1, .int x2])).length) Slot.unset).toArray = ls at hl ⊢
  have hl : lv_has ls 5 [(0, .ref (ad (0))), (1, .int x1), (2, .int x2)] := hl
  unfold F_X6_silence at hF
  refine lv_aload_n hx hb dX6_silence_0 rfl (lv_at hl 0 rfl) ?_
  refine lv_iload_n hx hb dX6_silence_1 rfl (lv_at hl 1 rfl) ?_
  obtain ⟨y5, hy5, hF⟩ := bd_some hF
  refine rx_br (vx_runV (As := [.int x1]) (rest := []) ⟨hx, hb, hml, hown, htA⟩ (m_X6_lampAt l hst G g ad n a0 aM σ x1 y5 hy5) (cwV 1 htA (gV aw_294 aw_295 aw_296 aw_52 gz_X6_lampAt) rfl rfl rfl (by decide +kernel) ⟨Nat.le_of_ble_eq_true rfl, Nat.le_of_ble_eq_true rfl⟩) (r_preV hK hW 0 (tp_lt (by decide)) (cE_k (rfl : kd 0 = 1)) rfl [.int x1]) rfl rfl hl.1 rfl (lv_room (Nat.le_of_ble_eq_true rfl)) dX6_silence_2 ⟨Nat.le_of_ble_eq_true rfl, Nat.le_of_ble_eq_true rfl⟩) hW (fun E ce q9 H locs hE hW hcell hv9 hcl => ?_) (fun H locs h0y5 hW => ?_)
  · replace hF := (if_neg (fun h9 => exN_pos E (hE.trans h9))).symm.trans hF
    obtain ⟨e1, e2⟩ := rx_xF hF
    rw [e1] at hW
    rw [e2] at hE
    exact rx_out hno hlocks hE hW hcell hv9 hcl (Nat.le_of_ble_eq_true rfl) (Nat.le_of_ble_eq_true rfl)
  replace hF := (if_pos h0y5).symm.trans hF
  obtain ⟨hqy5, thqy5⟩ := lampAt_ok hy5 h0y5
  refine lv_astore_n (lv' := [(3, .ref (ad (y5.2.2))), (0, .ref (ad (0))), (1, .int x1), (2, .int x2)]) hx hb dX6_silence_5 rfl hl (by decide) rfl (fun ls hl => ?_)
  refine lv_aload_n hx hb dX6_silence_6 rfl (lv_at hl 0 rfl) ?_
  refine r_getN (C := RX1) (T := TX1) (N := 15) hx hb htA ia_X1 hown hK hW (y5.2.2) (by omega) (cE_k hqy5.1) rfl 11 (by decide) (hK.nest (w := .fieldLinkNest RX6 194 "LampLine$Lamp" "silent" "Z" "LampLine") (by decide +kernel)) rfl dX6_silence_7 ?_
  obtain ⟨y6, hy6, hF⟩ := bd_some hF
  refine r_bi (va_runS (As := [.int (y5.1.1 (y5.2.2) 11)]) (rest := []) ⟨hx, hb, hml, hown, htA⟩ (m_X6_flag l G g ad n a0 aM y5.1 (y5.1.1 (y5.2.2) 11) y6  hy6) (va_cwS 1 htA (gS aw_308 aw_59 aw_52 gz_X6_flag) rfl rfl rfl (by decide +kernel) ⟨Nat.le_of_ble_eq_true rfl, Nat.le_of_ble_eq_true rfl⟩) (r_pre hK hW [.int (y5.1.1 (y5.2.2) 11)]) rfl rfl hl.1 rfl (lv_room (Nat.le_of_ble_eq_true rfl)) dX6_silence_10 ⟨Nat.le_of_ble_eq_true rfl, Nat.le_of_ble_eq_true rfl⟩) hW (fun H locs hW => ?_)
  refine lv_istore (lv' := [(4, .int y6.2), (3, .ref (ad (y5.2.2))), (0, .ref (ad (0))), (1, .int x1), (2, .int x2)]) hx hb dX6_silence_13 hl (by decide) rfl (fun ls hl => ?_)
  refine lv_aload_n hx hb dX6_silence_15 rfl (lv_at hl 1 rfl) ?_
  refine lv_iload_n hx hb dX6_silence_16 rfl (lv_at hl 4 rfl) ?_
  obtain ⟨hg7, hF⟩ := gd_some hF
  refine r_putIN (C := RX1) (T := TX1) (N := 15) (ty := .boolean) hx hb htA ia_X1 tyX1 tyX1_ok nmX1 hown hK hW (y5.2.2) (by omega) (cE_k hqy5.1) rfl 11 (by decide) (cE_k hqy5.1) (hK.nest (w := .fieldLinkNest RX6 194 "LampLine$Lamp" "silent" "Z" "LampLine") (by decide +kernel)) rfl (by decide +kernel) (zb_nar hg7) (zb_fit hg7) (Nat.le_of_ble_eq_true rfl) dX6_silence_17 (fun H locs hW => ?_)
  obtain ⟨w8, ew8, hF⟩ := nm_some hF
  rw [← ew8] at hW
  refine lv_iload hx hb dX6_silence_20 (lv_at hl 0 rfl) ?_
  exact rx_iret hx hb hr hlocks hW hF dX6_silence_22 (Nat.le_of_ble_eq_true rfl) (Nat.le_of_ble_eq_true rfl)
def F_X6_id_L15 (σ : St) : Option (St × Nat × Int64) := some (σ, 3, 0)
def F_X6_id (σ : St) (x1 : Int32) : Option (St × Nat × Int64) := if x1 < 0 then F_X6_id_L15 σ else if x1 < (σ.1 (21) 5) then gd (ib x1 (ln (24))) (some (σ, 0, (σ.2 (24) (Int32.toNatClampNeg x1)))) else F_X6_id_L15 σ
set_option maxHeartbeats 4000000 in
set_option maxRecDepth 100000 in
theorem m_X6_id (l : Launch) (hst : l.stackTraces = false) (G : va_G) (g : Nat → ClassId) (ad : Nat → Nat) (n a0 aM : Nat) (σ : St) (x1 : Int32) (x : St × Nat × Int64) (hF : F_X6_id σ x1 = some x) : vx_Met l yX6_id zs_X6_id ({ frames := 6, cells := 1, slots := 6, locals := 82 } : Room) (va_Pc [.ref (ad (0)), .int x1] (wP G g ad n a0 aM σ)) (xQJ G g ad n a0 x) (xX G g ad n a0 x.1 x.2.1) 1 6 (fun q : Nat => a0 ≤ q) := by
  refine vx_ofW (cc := cX6_id) (maxL := 2) (ret := (some .long)) (by decide) rfl ?_
  intro p e s m args below meth c s₁ B hml hno hv
  obtain ⟨rfl, hP, hD, hK⟩ := hv
  have hx := B.exec
  have hb := B.bytes
  have hr := B.returns
  have htA : ∀ w ∈ AL, w.before _ s = true := fun w h9 => atoms_spec (ws := zs_X6_id) B.pre w (List.mem_cons_of_mem _ h9)
  have hown : s.vm.findClass RX6 = some m.cls := findClass_of_methodNamed B.named
  have hlocks := B.notSynchronized
  have hW : Wd G g ad n a0 s.heap σ s.heap [] := ⟨hP, hD, va_S.rf⟩
  clear hP hD
  have hL15 : ∀ (σ : St) (H : Heap) (locs : List Loc) (ls : Array Slot), Wd G g ad n a0 s.heap σ H locs → lv_has ls 2 [] → F_X6_id_L15  σ = some x → W p l e (headSpec zs_X6_id ({ frames := 6, cells := 1, slots := 6, locals := 82 } : Room)).room s m ([.ref (ad (0)), .int x1] : List Value).toArray below meth c H locs 0 0 (vx_MQ below (xQJ G g ad n a0 x) (xX G g ad n a0 x.1 x.2.1) ([.ref (ad (0)), .int x1] : List Value).toArray s 1 6 (fun q : Nat => a0 ≤ q)) (F0 m 15 ls []) := by
    intro σ H locs ls hW hl hF
    unfold F_X6_id_L15 at hF
    exact rx_throw (text := "not so many are found") hx hb hst hown (by decide +kernel) (htA _ aw_276) (htA _ aw_277) hK (by decide +kernel) (hatO htA hK) hgdO hW hml hl.1 dX6_id_15 dX6_id_18 dX6_id_19 dX6_id_21 dX6_id_24 hno (Nat.le_of_ble_eq_true rfl) (Nat.le_of_ble_eq_true rfl) (Nat.le_of_ble_eq_true rfl) (Nat.le_of_ble_eq_true rfl) (Nat.le_of_ble_eq_true rfl) (Nat.le_of_ble_eq_true rfl) hlocks (rx_kF ex_O hF)
  have hl := lv_entry ([.ref (ad (0)), .int x1]) (n := 2) (Nat.le_of_ble_eq_true rfl)
  rw [lg_entry_eq]
  generalize (lg_sl ([.ref (ad (0)), .int x1]) ++ List.replicate (2 - (lg_sl ([.ref (ad (0)), .int x1])).length) Slot.unset).toArray = ls at hl ⊢
  have hl : lv_has ls 2 [(0, .ref (ad (0))), (1, .int x1)] := hl
  unfold F_X6_id at hF
  refine lv_iload_n hx hb dX6_id_0 rfl (lv_at hl 1 rfl) ?_
  refine lv_if_lt (tgt := 15) hx hb dX6_id_1 (by decide) (fun hc2 => ?_) (fun hc2 => ?_)
  · replace hF := (if_pos hc2).symm.trans hF
    exact hL15 σ _ _ _  hW (lv_sub hl [] rfl) hF
  · replace hF := (if_neg hc2).symm.trans hF
    refine lv_iload_n hx hb dX6_id_4 rfl (lv_at hl 1 rfl) ?_
    refine lv_aload_n hx hb dX6_id_5 rfl (lv_at hl 0 rfl) ?_
    refine r_get (C := RX6) (T := TX6) (N := 13) hx hb htA ia_X6 hown hK hW (0) (tp_lt (by decide)) (cE_k (rfl : kd 0 = 1)) rfl 8 (by decide) (htA _ aw_211) rfl dX6_id_6 ?_
    refine r_getN (C := RX4) (T := TX4) (N := 7) hx hb htA ia_X4 hown hK hW (21) (tp_lt (by decide)) (cE_k (rfl : kd 21 = 6)) rfl 5 (by decide) (hK.nest (w := .fieldLinkNest RX6 223 "LampLine$Search" "foundCount" "I" "LampLine") (by decide +kernel)) rfl dX6_id_9 ?_
    refine lv_icmp_lt (tgt := 25) hx hb dX6_id_12 (by decide) (fun hc3 => ?_) (fun hc3 => ?_)
    · replace hF := (if_pos hc3).symm.trans hF
      refine lv_aload_n hx hb dX6_id_25 rfl (lv_at hl 0 rfl) ?_
      refine r_get (C := RX6) (T := TX6) (N := 13) hx hb htA ia_X6 hown hK hW (0) (tp_lt (by decide)) (cE_k (rfl : kd 0 = 1)) rfl 8 (by decide) (htA _ aw_211) rfl dX6_id_26 ?_
      refine r_getN (C := RX4) (T := TX4) (N := 7) hx hb htA ia_X4 hown hK hW (21) (tp_lt (by decide)) (cE_k (rfl : kd 21 = 6)) rfl 2 (by decide) (hK.nest (w := .fieldLinkNest RX6 228 "LampLine$Search" "foundIds" "[J" "LampLine") (by decide +kernel)) rfl dX6_id_29 ?_
      refine lv_iload_n hx hb dX6_id_32 rfl (lv_at hl 1 rfl) ?_
      obtain ⟨hg4, hF⟩ := gd_some hF
      refine r_lald hx hb hK hW (24) (tp_lt (by decide)) (rfl : kd 24 = 7) hg4 dX6_id_33 ?_
      exact rx_lret hx hb hr hlocks hW hF dX6_id_34 (Nat.le_of_ble_eq_true rfl) (Nat.le_of_ble_eq_true rfl)
    · replace hF := (if_neg hc3).symm.trans hF
      exact hL15 σ _ _ _  hW (lv_sub hl [] rfl) hF
def F_X6_branch_L9 (σ : St) : Option (St × Nat × Int64) := some (σ, 3, 0)
def F_X6_branch (σ : St) (x1 : Int32) : Option (St × Nat × Int64) := if x1 < 0 then F_X6_branch_L9 σ else if x1 ≤ 2 then if x1 = 2 then some (σ, 0, (Int32.toInt64 (σ.1 (21) 6))) else if (σ.1 (21) 4) = 0 then some (σ, 3, 0) else if x1 = 0 then (F_X4_latestLow σ).bind (fun y9 => some (y9.1, 0, y9.2)) else (F_X4_latestHigh σ).bind (fun y8 => some (y8.1, 0, y8.2)) else F_X6_branch_L9 σ
set_option maxHeartbeats 4000000 in
set_option maxRecDepth 100000 in
theorem m_X6_branch (l : Launch) (hst : l.stackTraces = false) (G : va_G) (g : Nat → ClassId) (ad : Nat → Nat) (n a0 aM : Nat) (σ : St) (x1 : Int32) (x : St × Nat × Int64) (hF : F_X6_branch σ x1 = some x) : vx_Met l yX6_branch zs_X6_branch ({ frames := 6, cells := 1, slots := 6, locals := 82 } : Room) (va_Pc [.ref (ad (0)), .int x1] (wP G g ad n a0 aM σ)) (xQJ G g ad n a0 x) (xX G g ad n a0 x.1 x.2.1) 1 6 (fun q : Nat => a0 ≤ q) := by
  refine vx_ofW (cc := cX6_branch) (maxL := 2) (ret := (some .long)) (by decide) rfl ?_
  intro p e s m args below meth c s₁ B hml hno hv
  obtain ⟨rfl, hP, hD, hK⟩ := hv
  have hx := B.exec
  have hb := B.bytes
  have hr := B.returns
  have htA : ∀ w ∈ AL, w.before _ s = true := fun w h9 => atoms_spec (ws := zs_X6_branch) B.pre w (List.mem_cons_of_mem _ h9)
  have hown : s.vm.findClass RX6 = some m.cls := findClass_of_methodNamed B.named
  have hlocks := B.notSynchronized
  have hW : Wd G g ad n a0 s.heap σ s.heap [] := ⟨hP, hD, va_S.rf⟩
  clear hP hD
  have hL9 : ∀ (σ : St) (H : Heap) (locs : List Loc) (ls : Array Slot), Wd G g ad n a0 s.heap σ H locs → lv_has ls 2 [] → F_X6_branch_L9  σ = some x → W p l e (headSpec zs_X6_branch ({ frames := 6, cells := 1, slots := 6, locals := 82 } : Room)).room s m ([.ref (ad (0)), .int x1] : List Value).toArray below meth c H locs 0 0 (vx_MQ below (xQJ G g ad n a0 x) (xX G g ad n a0 x.1 x.2.1) ([.ref (ad (0)), .int x1] : List Value).toArray s 1 6 (fun q : Nat => a0 ≤ q)) (F0 m 9 ls []) := by
    intro σ H locs ls hW hl hF
    unfold F_X6_branch_L9 at hF
    exact rx_throw (text := "nothing of that kind is told") hx hb hst hown (by decide +kernel) (htA _ aw_276) (htA _ aw_277) hK (by decide +kernel) (hatO htA hK) hgdO hW hml hl.1 dX6_branch_9 dX6_branch_12 dX6_branch_13 dX6_branch_15 dX6_branch_18 hno (Nat.le_of_ble_eq_true rfl) (Nat.le_of_ble_eq_true rfl) (Nat.le_of_ble_eq_true rfl) (Nat.le_of_ble_eq_true rfl) (Nat.le_of_ble_eq_true rfl) (Nat.le_of_ble_eq_true rfl) hlocks (rx_kF ex_O hF)
  have hl := lv_entry ([.ref (ad (0)), .int x1]) (n := 2) (Nat.le_of_ble_eq_true rfl)
  rw [lg_entry_eq]
  generalize (lg_sl ([.ref (ad (0)), .int x1]) ++ List.replicate (2 - (lg_sl ([.ref (ad (0)), .int x1])).length) Slot.unset).toArray = ls at hl ⊢
  have hl : lv_has ls 2 [(0, .ref (ad (0))), (1, .int x1)] := hl
  unfold F_X6_branch at hF
  refine lv_iload_n hx hb dX6_branch_0 rfl (lv_at hl 1 rfl) ?_
  refine lv_if_lt (tgt := 9) hx hb dX6_branch_1 (by decide) (fun hc3 => ?_) (fun hc3 => ?_)
  · replace hF := (if_pos hc3).symm.trans hF
    exact hL9 σ _ _ _  hW (lv_sub hl [] rfl) hF
  · replace hF := (if_neg hc3).symm.trans hF
    refine lv_iload_n hx hb dX6_branch_4 rfl (lv_at hl 1 rfl) ?_
    refine lv_iconst (v := 2) hx hb dX6_branch_5 (by decide) ?_
    refine lv_icmp_le (tgt := 19) hx hb dX6_branch_6 (by decide) (fun hc4 => ?_) (fun hc4 => ?_)
    · replace hF := (if_pos hc4).symm.trans hF
      refine lv_iload_n hx hb dX6_branch_19 rfl (lv_at hl 1 rfl) ?_
      refine lv_iconst (v := 2) hx hb dX6_branch_20 (by decide) ?_
      refine lv_icmp_ne (tgt := 33) hx hb dX6_branch_21 (by decide) (fun hc5 => ?_) (fun hc5 => ?_)
      · replace hF := (if_neg hc5).symm.trans hF
        refine lv_aload_n hx hb dX6_branch_33 rfl (lv_at hl 0 rfl) ?_
        refine r_get (C := RX6) (T := TX6) (N := 13) hx hb htA ia_X6 hown hK hW (0) (tp_lt (by decide)) (cE_k (rfl : kd 0 = 1)) rfl 8 (by decide) (htA _ aw_211) rfl dX6_branch_34 ?_
        refine r_getN (C := RX4) (T := TX4) (N := 7) hx hb htA ia_X4 hown hK hW (21) (tp_lt (by decide)) (cE_k (rfl : kd 21 = 6)) rfl 4 (by decide) (hK.nest (w := .fieldLinkNest RX6 210 "LampLine$Search" "depth" "I" "LampLine") (by decide +kernel)) rfl dX6_branch_37 ?_
        refine lv_if_ne (tgt := 53) hx hb dX6_branch_40 (by decide) (fun hc6 => ?_) (fun hc6 => ?_)
        · replace hF := (if_neg hc6).symm.trans hF
          refine lv_iload_n hx hb dX6_branch_53 rfl (lv_at hl 1 rfl) ?_
          refine lv_if_ne (tgt := 67) hx hb dX6_branch_54 (by decide) (fun hc7 => ?_) (fun hc7 => ?_)
          · replace hF := (if_neg hc7).symm.trans hF
            refine lv_aload_n hx hb dX6_branch_67 rfl (lv_at hl 0 rfl) ?_
            refine r_get (C := RX6) (T := TX6) (N := 13) hx hb htA ia_X6 hown hK hW (0) (tp_lt (by decide)) (cE_k (rfl : kd 0 = 1)) rfl 8 (by decide) (htA _ aw_211) rfl dX6_branch_68 ?_
            obtain ⟨y8, hy8, hF⟩ := bd_some hF
            refine r_bl (va_runV (As := []) (rest := []) ⟨hx, hb, hml, hown, htA⟩ (m_X4_latestHigh l G g ad n a0 aM σ y8  hy8) (cwV 0 htA (gV aw_326 aw_327 aw_328 aw_175 gz_X4_latestHigh) rfl rfl rfl (by decide +kernel) ⟨Nat.le_of_ble_eq_true rfl, Nat.le_of_ble_eq_true rfl⟩) (r_preV hK hW (21) (tp_lt (by decide)) (cE_k (rfl : kd 21 = 6)) rfl []) rfl rfl hl.1 rfl (lv_room (Nat.le_of_ble_eq_true rfl)) dX6_branch_71 ⟨Nat.le_of_ble_eq_true rfl, Nat.le_of_ble_eq_true rfl⟩) hW (fun H locs hW => ?_)
            exact rx_lret hx hb hr hlocks hW hF dX6_branch_74 (Nat.le_of_ble_eq_true rfl) (Nat.le_of_ble_eq_true rfl)
          · replace hF := (if_pos hc7).symm.trans hF
            refine lv_aload_n hx hb dX6_branch_57 rfl (lv_at hl 0 rfl) ?_
            refine r_get (C := RX6) (T := TX6) (N := 13) hx hb htA ia_X6 hown hK hW (0) (tp_lt (by decide)) (cE_k (rfl : kd 0 = 1)) rfl 8 (by decide) (htA _ aw_211) rfl dX6_branch_58 ?_
            obtain ⟨y9, hy9, hF⟩ := bd_some hF
            refine r_bl (va_runV (As := []) (rest := []) ⟨hx, hb, hml, hown, htA⟩ (m_X4_latestLow l G g ad n a0 aM σ y9  hy9) (cwV 0 htA (gV aw_322 aw_323 aw_324 aw_175 gz_X4_latestLow) rfl rfl rfl (by decide +kernel) ⟨Nat.le_of_ble_eq_true rfl, Nat.le_of_ble_eq_true rfl⟩) (r_preV hK hW (21) (tp_lt (by decide)) (cE_k (rfl : kd 21 = 6)) rfl []) rfl rfl hl.1 rfl (lv_room (Nat.le_of_ble_eq_true rfl)) dX6_branch_61 ⟨Nat.le_of_ble_eq_true rfl, Nat.le_of_ble_eq_true rfl⟩) hW (fun H locs hW => ?_)
            refine lv_goto (tgt := 74) hx hb dX6_branch_64 (by decide) ?_
            exact rx_lret hx hb hr hlocks hW hF dX6_branch_74 (Nat.le_of_ble_eq_true rfl) (Nat.le_of_ble_eq_true rfl)
        · replace hF := (if_pos hc6).symm.trans hF
          exact rx_throw (text := "no branch") hx hb hst hown (by decide +kernel) (htA _ aw_276) (htA _ aw_277) hK (by decide +kernel) (hatO htA hK) hgdO hW hml hl.1 dX6_branch_43 dX6_branch_46 dX6_branch_47 dX6_branch_49 dX6_branch_52 hno (Nat.le_of_ble_eq_true rfl) (Nat.le_of_ble_eq_true rfl) (Nat.le_of_ble_eq_true rfl) (Nat.le_of_ble_eq_true rfl) (Nat.le_of_ble_eq_true rfl) (Nat.le_of_ble_eq_true rfl) hlocks (rx_kF ex_O hF)
      · replace hF := (if_pos hc5).symm.trans hF
        refine lv_aload_n hx hb dX6_branch_24 rfl (lv_at hl 0 rfl) ?_
        refine r_get (C := RX6) (T := TX6) (N := 13) hx hb htA ia_X6 hown hK hW (0) (tp_lt (by decide)) (cE_k (rfl : kd 0 = 1)) rfl 8 (by decide) (htA _ aw_211) rfl dX6_branch_25 ?_
        refine r_getN (C := RX4) (T := TX4) (N := 7) hx hb htA ia_X4 hown hK hW (21) (tp_lt (by decide)) (cE_k (rfl : kd 21 = 6)) rfl 6 (by decide) (hK.nest (w := .fieldLinkNest RX6 232 "LampLine$Search" "steps" "I" "LampLine") (by decide +kernel)) rfl dX6_branch_28 ?_
        refine lv_i2l (v := (Int32.toInt64 (σ.1 (21) 6))) hx hb dX6_branch_31 rfl ?_
        exact rx_lret hx hb hr hlocks hW hF dX6_branch_32 (Nat.le_of_ble_eq_true rfl) (Nat.le_of_ble_eq_true rfl)
    · replace hF := (if_neg hc4).symm.trans hF
      exact hL9 σ _ _ _  hW (lv_sub hl [] rfl) hF
def F_X6_step_L69 (n : Nat) (σ : St) : Option (St × Nat × Int32) := some (σ, 0, (σ.1 (21) 4))
def F_X6_step_L44 (n : Nat) (K69 : St → Option (St × Nat × Int32)) : Nat → St → Int32 → Int32 → Option (St × Nat × Int32)
  | 0, _, _, _ => none
  | fz + 1, σ, u1, u2 => if u1 ≤ u2 then K69 σ else if (σ.1 (21) 4) ≤ 0 then K69 σ else (F_X6_takeStep n σ).bind (fun y4 => (F_X6_step_L44 n K69 fz) y4 u1 (u2 + 1))
def F_X6_step_L32 (n : Nat) (σ : St) : Option (St × Nat × Int32) := some (σ, 1, 0)
def F_X6_step (n : Nat) (σ : St) (x1 : Int32) : Option (St × Nat × Int32) := if (σ.1 (21) 3) = 0 then some (σ, 2, 0) else if x1 < 1 then F_X6_step_L32 n σ else if x1 ≤ 1000 then F_X6_step_L44 n (F_X6_step_L69 n) fu σ x1 0 else F_X6_step_L32 n σ
set_option maxHeartbeats 4000000 in
set_option maxRecDepth 100000 in
theorem m_X6_step (l : Launch) (hst : l.stackTraces = false) (G : va_G) (g : Nat → ClassId) (ad : Nat → Nat) (n a0 aM : Nat) (σ : St) (x1 : Int32) (x : St × Nat × Int32) (hF : F_X6_step n σ x1 = some x) : vx_Met l yX6_step zs_X6_step ({ frames := 7, cells := 1, slots := 6, locals := 176 } : Room) (va_Pc [.ref (ad (0)), .int x1] (wP G g ad n a0 aM σ)) (xQI G g ad n a0 x) (xX G g ad n a0 x.1 x.2.1) 1 6 (fun q : Nat => a0 ≤ q) := by
  refine vx_ofW (cc := cX6_step) (maxL := 3) (ret := (some .int)) (by decide) rfl ?_
  intro p e s m args below meth c s₁ B hml hno hv
  obtain ⟨rfl, hP, hD, hK⟩ := hv
  have hx := B.exec
  have hb := B.bytes
  have hr := B.returns
  have htA : ∀ w ∈ AL, w.before _ s = true := fun w h9 => atoms_spec (ws := zs_X6_step) B.pre w (List.mem_cons_of_mem _ h9)
  have hown : s.vm.findClass RX6 = some m.cls := findClass_of_methodNamed B.named
  have hlocks := B.notSynchronized
  have hW : Wd G g ad n a0 s.heap σ s.heap [] := ⟨hP, hD, va_S.rf⟩
  clear hP hD
  have hL69 : ∀ (σ : St) (H : Heap) (locs : List Loc) (ls : Array Slot), Wd G g ad n a0 s.heap σ H locs → lv_has ls 3 [(0, .ref (ad (0)))] → F_X6_step_L69 n  σ = some x → W p l e (headSpec zs_X6_step ({ frames := 7, cells := 1, slots := 6, locals := 176 } : Room)).room s m ([.ref (ad (0)), .int x1] : List Value).toArray below meth c H locs 0 0 (vx_MQ below (xQI G g ad n a0 x) (xX G g ad n a0 x.1 x.2.1) ([.ref (ad (0)), .int x1] : List Value).toArray s 1 6 (fun q : Nat => a0 ≤ q)) (F0 m 69 ls []) := by
    intro σ H locs ls hW hl hF
    unfold F_X6_step_L69 at hF
    refine lv_aload_n hx hb dX6_step_69 rfl (lv_at hl 0 rfl) ?_
    refine r_get (C := RX6) (T := TX6) (N := 13) hx hb htA ia_X6 hown hK hW (0) (tp_lt (by decide)) (cE_k (rfl : kd 0 = 1)) rfl 8 (by decide) (htA _ aw_211) rfl dX6_step_70 ?_
    refine r_getN (C := RX4) (T := TX4) (N := 7) hx hb htA ia_X4 hown hK hW (21) (tp_lt (by decide)) (cE_k (rfl : kd 21 = 6)) rfl 4 (by decide) (hK.nest (w := .fieldLinkNest RX6 210 "LampLine$Search" "depth" "I" "LampLine") (by decide +kernel)) rfl dX6_step_73 ?_
    exact rx_iret hx hb hr hlocks hW hF dX6_step_76 (Nat.le_of_ble_eq_true rfl) (Nat.le_of_ble_eq_true rfl)
  have hL44 : ∀ (fz44 : Nat) (σ : St) (u1 : Int32) (u2 : Int32) (H : Heap) (locs : List Loc) (ls : Array Slot), Wd G g ad n a0 s.heap σ H locs → lv_has ls 3 [(0, .ref (ad (0))), (1, .int u1), (2, .int u2)] → F_X6_step_L44 n (F_X6_step_L69 n) fz44 σ u1 u2 = some x → W p l e (headSpec zs_X6_step ({ frames := 7, cells := 1, slots := 6, locals := 176 } : Room)).room s m ([.ref (ad (0)), .int x1] : List Value).toArray below meth c H locs 0 0 (vx_MQ below (xQI G g ad n a0 x) (xX G g ad n a0 x.1 x.2.1) ([.ref (ad (0)), .int x1] : List Value).toArray s 1 6 (fun q : Nat => a0 ≤ q)) (F0 m 44 ls []) := by
    intro fz44
    induction fz44 with
    | zero =>
      intro σ u1 u2 H locs ls hW hl hF
      exact absurd hF (by simp [F_X6_step_L44])
    | succ fz44 ih =>
      have hB44 := ih
      intro σ u1 u2 H locs ls hW hl hF
      unfold F_X6_step_L44 at hF
      refine lv_iload_n hx hb dX6_step_44 rfl (lv_at hl 2 rfl) ?_
      refine lv_iload_n hx hb dX6_step_45 rfl (lv_at hl 1 rfl) ?_
      refine lv_icmp_ge (tgt := 69) hx hb dX6_step_46 (by decide) (fun hc2 => ?_) (fun hc2 => ?_)
      · replace hF := (if_pos hc2).symm.trans hF
        exact hL69 σ _ _ _  hW (lv_sub hl [0] rfl) hF
      · replace hF := (if_neg hc2).symm.trans hF
        refine lv_aload_n hx hb dX6_step_49 rfl (lv_at hl 0 rfl) ?_
        refine r_get (C := RX6) (T := TX6) (N := 13) hx hb htA ia_X6 hown hK hW (0) (tp_lt (by decide)) (cE_k (rfl : kd 0 = 1)) rfl 8 (by decide) (htA _ aw_211) rfl dX6_step_50 ?_
        refine r_getN (C := RX4) (T := TX4) (N := 7) hx hb htA ia_X4 hown hK hW (21) (tp_lt (by decide)) (cE_k (rfl : kd 21 = 6)) rfl 4 (by decide) (hK.nest (w := .fieldLinkNest RX6 210 "LampLine$Search" "depth" "I" "LampLine") (by decide +kernel)) rfl dX6_step_53 ?_
        refine lv_if_le (tgt := 69) hx hb dX6_step_56 (by decide) (fun hc3 => ?_) (fun hc3 => ?_)
        · replace hF := (if_pos hc3).symm.trans hF
          exact hL69 σ _ _ _  hW (lv_sub hl [0] rfl) hF
        · replace hF := (if_neg hc3).symm.trans hF
          refine lv_aload_n hx hb dX6_step_59 rfl (lv_at hl 0 rfl) ?_
          obtain ⟨y4, hy4, hF⟩ := bd_some hF
          refine r_bv (va_runV (As := []) (rest := []) ⟨hx, hb, hml, hown, htA⟩ (m_X6_takeStep l G g ad n a0 aM σ y4  hy4) (cwV 0 htA (gV aw_347 aw_348 aw_349 aw_52 gz_X6_takeStep) rfl rfl rfl (by decide +kernel) ⟨Nat.le_of_ble_eq_true rfl, Nat.le_of_ble_eq_true rfl⟩) (r_preV hK hW (0) (tp_lt (by decide)) (cE_k (rfl : kd 0 = 1)) rfl []) rfl rfl hl.1 rfl (lv_room (Nat.le_of_ble_eq_true rfl)) dX6_step_60 ⟨Nat.le_of_ble_eq_true rfl, Nat.le_of_ble_eq_true rfl⟩) hW (fun H locs hW => ?_)
          refine lv_iinc (v := (u2 + 1)) (lv' := [(2, .int (u2 + 1)), (0, .ref (ad (0))), (1, .int u1)]) hx hb dX6_step_63 hl (k := 2) rfl rfl (by decide) rfl (fun ls hl => ?_)
          refine lv_goto (tgt := 44) hx hb dX6_step_66 (by decide) ?_
          exact hB44 y4 u1 (u2 + 1) _ _ _  hW (lv_sub hl [1, 2, 0] rfl) hF
  have hL44 := hL44 fu
  have hL32 : ∀ (σ : St) (H : Heap) (locs : List Loc) (ls : Array Slot), Wd G g ad n a0 s.heap σ H locs → lv_has ls 3 [] → F_X6_step_L32 n  σ = some x → W p l e (headSpec zs_X6_step ({ frames := 7, cells := 1, slots := 6, locals := 176 } : Room)).room s m ([.ref (ad (0)), .int x1] : List Value).toArray below meth c H locs 0 0 (vx_MQ below (xQI G g ad n a0 x) (xX G g ad n a0 x.1 x.2.1) ([.ref (ad (0)), .int x1] : List Value).toArray s 1 6 (fun q : Nat => a0 ≤ q)) (F0 m 32 ls []) := by
    intro σ H locs ls hW hl hF
    unfold F_X6_step_L32 at hF
    exact rx_throw (text := "not so many steps at once") hx hb hst hown (by decide +kernel) (htA _ aw_222) (htA _ aw_223) hK (by decide +kernel) (hatA htA hK) hgdA hW hml hl.1 dX6_step_32 dX6_step_35 dX6_step_36 dX6_step_38 dX6_step_41 hno (Nat.le_of_ble_eq_true rfl) (Nat.le_of_ble_eq_true rfl) (Nat.le_of_ble_eq_true rfl) (Nat.le_of_ble_eq_true rfl) (Nat.le_of_ble_eq_true rfl) (Nat.le_of_ble_eq_true rfl) hlocks (rx_kF ex_A hF)
  have hl := lv_entry ([.ref (ad (0)), .int x1]) (n := 3) (Nat.le_of_ble_eq_true rfl)
  rw [lg_entry_eq]
  generalize (lg_sl ([.ref (ad (0)), .int x1]) ++ List.replicate (3 - (lg_sl ([.ref (ad (0)), .int x1])).length) Slot.unset).toArray = ls at hl ⊢
  have hl : lv_has ls 3 [(0, .ref (ad (0))), (1, .int x1)] := hl
  unfold F_X6_step at hF
  refine lv_aload_n hx hb dX6_step_0 rfl (lv_at hl 0 rfl) ?_
  refine r_get (C := RX6) (T := TX6) (N := 13) hx hb htA ia_X6 hown hK hW (0) (tp_lt (by decide)) (cE_k (rfl : kd 0 = 1)) rfl 8 (by decide) (htA _ aw_211) rfl dX6_step_1 ?_
  refine r_getN (C := RX4) (T := TX4) (N := 7) hx hb htA ia_X4 hown hK hW (21) (tp_lt (by decide)) (cE_k (rfl : kd 21 = 6)) rfl 3 (by decide) (hK.nest (w := .fieldLinkNest RX6 213 "LampLine$Search" "begun" "Z" "LampLine") (by decide +kernel)) rfl dX6_step_4 ?_
  refine lv_if_ne (tgt := 20) hx hb dX6_step_7 (by decide) (fun hc5 => ?_) (fun hc5 => ?_)
  · replace hF := (if_neg hc5).symm.trans hF
    refine lv_iload_n hx hb dX6_step_20 rfl (lv_at hl 1 rfl) ?_
    refine lv_iconst (v := 1) hx hb dX6_step_21 (by decide) ?_
    refine lv_icmp_lt (tgt := 32) hx hb dX6_step_22 (by decide) (fun hc6 => ?_) (fun hc6 => ?_)
    · replace hF := (if_pos hc6).symm.trans hF
      exact hL32 σ _ _ _  hW (lv_sub hl [] rfl) hF
    · replace hF := (if_neg hc6).symm.trans hF
      refine lv_iload_n hx hb dX6_step_25 rfl (lv_at hl 1 rfl) ?_
      refine lv_sipush (v := 1000) hx hb dX6_step_26 (by decide) ?_
      refine lv_icmp_le (tgt := 42) hx hb dX6_step_29 (by decide) (fun hc7 => ?_) (fun hc7 => ?_)
      · replace hF := (if_pos hc7).symm.trans hF
        refine lv_iconst (v := 0) hx hb dX6_step_42 (by decide) ?_
        refine lv_istore_n (lv' := [(2, .int 0), (0, .ref (ad (0))), (1, .int x1)]) hx hb dX6_step_43 rfl hl (by decide) rfl (fun ls hl => ?_)
        exact hL44 σ x1 0 _ _ _  hW (lv_sub hl [1, 2, 0] rfl) hF
      · replace hF := (if_neg hc7).symm.trans hF
        exact hL32 σ _ _ _  hW (lv_sub hl [] rfl) hF
  · replace hF := (if_pos hc5).symm.trans hF
    exact rx_throw (text := "no search") hx hb hst hown (by decide +kernel) (htA _ aw_224) (htA _ aw_225) hK (by decide +kernel) (hatS htA hK) hgdS hW hml hl.1 dX6_step_10 dX6_step_13 dX6_step_14 dX6_step_16 dX6_step_19 hno (Nat.le_of_ble_eq_true rfl) (Nat.le_of_ble_eq_true rfl) (Nat.le_of_ble_eq_true rfl) (Nat.le_of_ble_eq_true rfl) (Nat.le_of_ble_eq_true rfl) (Nat.le_of_ble_eq_true rfl) hlocks (rx_kF ex_S hF)
def F_X6_ask_L71 (n : Nat) (σ : St) : Option (St × Nat × Int32) := some (σ, 1, 0)
def F_X6_ask_L24 (n : Nat) (σ : St) : Option (St × Nat × Int32) := some (σ, 1, 0)
def F_X6_ask (n : Nat) (σ : St) (x1 : Int32) (x2 : Int64) (x4 : Int32) (x5 : Int32) (x6 : Int32) : Option (St × Nat × Int32) := if x1 < 0 then F_X6_ask_L24 n σ else if 65535 < x1 then F_X6_ask_L24 n σ else if (lg_cmp x2 0) < 0 then F_X6_ask_L24 n σ else if (lg_cmp x2 4294967295) ≤ 0 then if x4 < 0 then F_X6_ask_L71 n σ else if 65535 < x4 then F_X6_ask_L71 n σ else if x5 < 0 then F_X6_ask_L71 n σ else if 255 < x5 then F_X6_ask_L71 n σ else if x6 < 0 then F_X6_ask_L71 n σ else if x6 ≤ 65535 then (F_X6_joinedId σ x1 x2).bind (fun y20 => (F_X6_beginQuestion y20.1 y20.2 x5 x6).bind (fun y21 => nm (sI y21 (9) 5 x4) (fun w22 => (F_X3_copyFrom (10) (1) w22).bind (fun y23 => (F_X3_cut (1) y23 0).bind (fun y24 => (F_X2_writeTo (9) (3) y24).bind (fun y25 => (F_X6_runFrame n y25).bind (fun y26 => (F_X3_size (7) y26).bind (fun y27 => if y27.2 = 0 then some (y27.1, 0, (-1)) else (F_X6_isReplyFrom y27.1 y20.2).bind (fun y29 => if y29.2 = 0 then some (y29.1, 0, (-2)) else some (y29.1, 0, (y29.1.1 (12) 3))))))))))) else F_X6_ask_L71 n σ else F_X6_ask_L24 n σ
set_option maxHeartbeats 4000000 in
set_option maxRecDepth 100000 in
theorem m_X6_ask (l : Launch) (hst : l.stackTraces = false) (G : va_G) (g : Nat → ClassId) (ad : Nat → Nat) (n a0 aM : Nat) (σ : St) (x1 : Int32) (x2 : Int64) (x4 : Int32) (x5 : Int32) (x6 : Int32) (x : St × Nat × Int32) (hF : F_X6_ask n σ x1 x2 x4 x5 x6 = some x) : vx_Met l yX6_ask zs_X6_ask ({ frames := 6, cells := 1, slots := 6, locals := 125 } : Room) (va_Pc [.ref (ad (0)), .int x1, .long x2, .int x4, .int x5, .int x6] (wP G g ad n a0 aM σ)) (xQI G g ad n a0 x) (xX G g ad n a0 x.1 x.2.1) 1 6 (fun q : Nat => a0 ≤ q) := by
  refine vx_ofW (cc := cX6_ask) (maxL := 9) (ret := (some .int)) (by decide) rfl ?_
  intro p e s m args below meth c s₁ B hml hno hv
  obtain ⟨rfl, hP, hD, hK⟩ := hv
  have hx := B.exec
  have hb := B.bytes
  have hr := B.returns
  have htA : ∀ w ∈ AL, w.before _ s = true := fun w h9 => atoms_spec (ws := zs_X6_ask) B.pre w (List.mem_cons_of_mem _ h9)
  have hown : s.vm.findClass RX6 = some m.cls := findClass_of_methodNamed B.named
  have hlocks := B.notSynchronized
  have hW : Wd G g ad n a0 s.heap σ s.heap [] := ⟨hP, hD, va_S.rf⟩
  clear hP hD
  have hL71 : ∀ (σ : St) (H : Heap) (locs : List Loc) (ls : Array Slot), Wd G g ad n a0 s.heap σ H locs → lv_has ls 9 [] → F_X6_ask_L71 n  σ = some x → W p l e (headSpec zs_X6_ask ({ frames := 6, cells := 1, slots := 6, locals := 125 } : Room)).room s m ([.ref (ad (0)), .int x1, .long x2, .int x4, .int x5, .int x6] : List Value).toArray below meth c H locs 0 0 (vx_MQ below (xQI G g ad n a0 x) (xX G g ad n a0 x.1 x.2.1) ([.ref (ad (0)), .int x1, .long x2, .int x4, .int x5, .int x6] : List Value).toArray s 1 6 (fun q : Nat => a0 ≤ q)) (F0 m 71 ls []) := by
    intro σ H locs ls hW hl hF
    unfold F_X6_ask_L71 at hF
    exact rx_throw (text := "part, kind or matter") hx hb hst hown (by decide +kernel) (htA _ aw_222) (htA _ aw_223) hK (by decide +kernel) (hatA htA hK) hgdA hW hml hl.1 dX6_ask_71 dX6_ask_74 dX6_ask_75 dX6_ask_77 dX6_ask_80 hno (Nat.le_of_ble_eq_true rfl) (Nat.le_of_ble_eq_true rfl) (Nat.le_of_ble_eq_true rfl) (Nat.le_of_ble_eq_true rfl) (Nat.le_of_ble_eq_true rfl) (Nat.le_of_ble_eq_true rfl) hlocks (rx_kF ex_A hF)
  have hL24 : ∀ (σ : St) (H : Heap) (locs : List Loc) (ls : Array Slot), Wd G g ad n a0 s.heap σ H locs → lv_has ls 9 [] → F_X6_ask_L24 n  σ = some x → W p l e (headSpec zs_X6_ask ({ frames := 6, cells := 1, slots := 6, locals := 125 } : Room)).room s m ([.ref (ad (0)), .int x1, .long x2, .int x4, .int x5, .int x6] : List Value).toArray below meth c H locs 0 0 (vx_MQ below (xQI G g ad n a0 x) (xX G g ad n a0 x.1 x.2.1) ([.ref (ad (0)), .int x1, .long x2, .int x4, .int x5, .int x6] : List Value).toArray s 1 6 (fun q : Nat => a0 ≤ q)) (F0 m 24 ls []) := by
    intro σ H locs ls hW hl hF
    unfold F_X6_ask_L24 at hF
    exact rx_throw (text := "no ID") hx hb hst hown (by decide +kernel) (htA _ aw_222) (htA _ aw_223) hK (by decide +kernel) (hatA htA hK) hgdA hW hml hl.1 dX6_ask_24 dX6_ask_27 dX6_ask_28 dX6_ask_30 dX6_ask_33 hno (Nat.le_of_ble_eq_true rfl) (Nat.le_of_ble_eq_true rfl) (Nat.le_of_ble_eq_true rfl) (Nat.le_of_ble_eq_true rfl) (Nat.le_of_ble_eq_true rfl) (Nat.le_of_ble_eq_true rfl) hlocks (rx_kF ex_A hF)
  have hl := lv_entry ([.ref (ad (0)), .int x1, .long x2, .int x4, .int x5, .int x6]) (n := 9) (Nat.le_of_ble_eq_true rfl)
  rw [lg_entry_eq]
  generalize (lg_sl ([.ref (ad (0)), .int x1, .long x2, .int x4, .int x5, .int x6]) ++ List.replicate (9 - (lg_sl ([.ref (ad (0)), .int x1, .long x2, .int x4, .int x5, .int x6])).length) Slot.unset).toArray = ls at hl ⊢
  have hl : lv_has ls 9 [(0, .ref (ad (0))), (1, .int x1), (2, .long x2), (4, .int x4), (5, .int x5), (6, .int x6)] := hl
  unfold F_X6_ask at hF
  refine lv_iload_n hx hb dX6_ask_0 rfl (lv_at hl 1 rfl) ?_
  refine lv_if_lt (tgt := 24) hx hb dX6_ask_1 (by decide) (fun hc10 => ?_) (fun hc10 => ?_)
  · replace hF := (if_pos hc10).symm.trans hF
    exact hL24 σ _ _ _  hW (lv_sub hl [] rfl) hF
  · replace hF := (if_neg hc10).symm.trans hF
    refine lv_iload_n hx hb dX6_ask_4 rfl (lv_at hl 1 rfl) ?_
    refine lv_ldc (v := 65535) hx hb hown (htA _ aw_280) dX6_ask_5 ?_
    refine lv_icmp_gt (tgt := 24) hx hb dX6_ask_7 (by decide) (fun hc11 => ?_) (fun hc11 => ?_)
    · replace hF := (if_pos hc11).symm.trans hF
      exact hL24 σ _ _ _  hW (lv_sub hl [] rfl) hF
    · replace hF := (if_neg hc11).symm.trans hF
      refine lv_lload_n hx hb dX6_ask_10 rfl (lv_at hl 2 rfl) ?_
      refine lv_lconst (v := 0) hx hb dX6_ask_11 (by decide) ?_
      refine W.lcmp hx hb dX6_ask_12 ?_
      refine lv_if_lt (tgt := 24) hx hb dX6_ask_13 (by decide) (fun hc12 => ?_) (fun hc12 => ?_)
      · replace hF := (if_pos hc12).symm.trans hF
        exact hL24 σ _ _ _  hW (lv_sub hl [] rfl) hF
      · replace hF := (if_neg hc12).symm.trans hF
        refine lv_lload_n hx hb dX6_ask_16 rfl (lv_at hl 2 rfl) ?_
        refine lv_ldc2 (v := 4294967295) hx hb hown (htA _ aw_76) dX6_ask_17 ?_
        refine W.lcmp hx hb dX6_ask_20 ?_
        refine lv_if_le (tgt := 34) hx hb dX6_ask_21 (by decide) (fun hc13 => ?_) (fun hc13 => ?_)
        · replace hF := (if_pos hc13).symm.trans hF
          refine lv_iload hx hb dX6_ask_34 (lv_at hl 3 rfl) ?_
          refine lv_if_lt (tgt := 71) hx hb dX6_ask_36 (by decide) (fun hc14 => ?_) (fun hc14 => ?_)
          · replace hF := (if_pos hc14).symm.trans hF
            exact hL71 σ _ _ _  hW (lv_sub hl [] rfl) hF
          · replace hF := (if_neg hc14).symm.trans hF
            refine lv_iload hx hb dX6_ask_39 (lv_at hl 3 rfl) ?_
            refine lv_ldc (v := 65535) hx hb hown (htA _ aw_280) dX6_ask_41 ?_
            refine lv_icmp_gt (tgt := 71) hx hb dX6_ask_43 (by decide) (fun hc15 => ?_) (fun hc15 => ?_)
            · replace hF := (if_pos hc15).symm.trans hF
              exact hL71 σ _ _ _  hW (lv_sub hl [] rfl) hF
            · replace hF := (if_neg hc15).symm.trans hF
              refine lv_iload hx hb dX6_ask_46 (lv_at hl 4 rfl) ?_
              refine lv_if_lt (tgt := 71) hx hb dX6_ask_48 (by decide) (fun hc16 => ?_) (fun hc16 => ?_)
              · replace hF := (if_pos hc16).symm.trans hF
                exact hL71 σ _ _ _  hW (lv_sub hl [] rfl) hF
              · replace hF := (if_neg hc16).symm.trans hF
                refine lv_iload hx hb dX6_ask_51 (lv_at hl 4 rfl) ?_
                refine lv_sipush (v := 255) hx hb dX6_ask_53 (by decide) ?_
                refine lv_icmp_gt (tgt := 71) hx hb dX6_ask_56 (by decide) (fun hc17 => ?_) (fun hc17 => ?_)
                · replace hF := (if_pos hc17).symm.trans hF
                  exact hL71 σ _ _ _  hW (lv_sub hl [] rfl) hF
                · replace hF := (if_neg hc17).symm.trans hF
                  refine lv_iload hx hb dX6_ask_59 (lv_at hl 5 rfl) ?_
                  refine lv_if_lt (tgt := 71) hx hb dX6_ask_61 (by decide) (fun hc18 => ?_) (fun hc18 => ?_)
                  · replace hF := (if_pos hc18).symm.trans hF
                    exact hL71 σ _ _ _  hW (lv_sub hl [] rfl) hF
                  · replace hF := (if_neg hc18).symm.trans hF
                    refine lv_iload hx hb dX6_ask_64 (lv_at hl 5 rfl) ?_
                    refine lv_ldc (v := 65535) hx hb hown (htA _ aw_280) dX6_ask_66 ?_
                    refine lv_icmp_le (tgt := 81) hx hb dX6_ask_68 (by decide) (fun hc19 => ?_) (fun hc19 => ?_)
                    · replace hF := (if_pos hc19).symm.trans hF
                      refine lv_iload_n hx hb dX6_ask_81 rfl (lv_at hl 1 rfl) ?_
                      refine lv_lload_n hx hb dX6_ask_82 rfl (lv_at hl 2 rfl) ?_
                      obtain ⟨y20, hy20, hF⟩ := bd_some hF
                      refine r_bl (va_runS (As := [.int x1, .long x2]) (rest := []) ⟨hx, hb, hml, hown, htA⟩ (m_X6_joinedId l G g ad n a0 aM σ x1 x2 y20  hy20) (va_cwS 2 htA (gS aw_228 aw_229 aw_52 gz_X6_joinedId) rfl rfl rfl (by decide +kernel) ⟨Nat.le_of_ble_eq_true rfl, Nat.le_of_ble_eq_true rfl⟩) (r_pre hK hW [.int x1, .long x2]) rfl rfl hl.1 rfl (lv_room (Nat.le_of_ble_eq_true rfl)) dX6_ask_83 ⟨Nat.le_of_ble_eq_true rfl, Nat.le_of_ble_eq_true rfl⟩) hW (fun H locs hW => ?_)
                      refine lv_lstore (lv' := [(7, .long y20.2), (0, .ref (ad (0))), (1, .int x1), (2, .long x2), (4, .int x4), (5, .int x5), (6, .int x6)]) hx hb dX6_ask_86 hl (by decide) rfl (fun ls hl => ?_)
                      refine lv_aload_n hx hb dX6_ask_88 rfl (lv_at hl 1 rfl) ?_
                      refine lv_lload hx hb dX6_ask_89 (lv_at hl 0 rfl) ?_
                      refine lv_iload hx hb dX6_ask_91 (lv_at hl 5 rfl) ?_
                      refine lv_iload hx hb dX6_ask_93 (lv_at hl 6 rfl) ?_
                      obtain ⟨y21, hy21, hF⟩ := bd_some hF
                      refine r_bv (va_runV (As := [.long y20.2, .int x5, .int x6]) (rest := []) ⟨hx, hb, hml, hown, htA⟩ (m_X6_beginQuestion l G g ad n a0 aM y20.1 y20.2 x5 x6 y21  hy21) (cwV 3 htA (gV aw_281 aw_282 aw_283 aw_52 gz_X6_beginQuestion) rfl rfl rfl (by decide +kernel) ⟨Nat.le_of_ble_eq_true rfl, Nat.le_of_ble_eq_true rfl⟩) (r_preV hK hW (0) (tp_lt (by decide)) (cE_k (rfl : kd 0 = 1)) rfl [.long y20.2, .int x5, .int x6]) rfl rfl hl.1 rfl (lv_room (Nat.le_of_ble_eq_true rfl)) dX6_ask_95 ⟨Nat.le_of_ble_eq_true rfl, Nat.le_of_ble_eq_true rfl⟩) hW (fun H locs hW => ?_)
                      refine lv_aload_n hx hb dX6_ask_98 rfl (lv_at hl 1 rfl) ?_
                      refine r_get (C := RX6) (T := TX6) (N := 13) hx hb htA ia_X6 hown hK hW (0) (tp_lt (by decide)) (cE_k (rfl : kd 0 = 1)) rfl 4 (by decide) (htA _ aw_203) rfl dX6_ask_99 ?_
                      refine lv_iload hx hb dX6_ask_102 (lv_at hl 4 rfl) ?_
                      refine r_putIN (C := RX2) (T := TX2) (N := 9) (ty := .int) hx hb htA ia_X2 tyX2 tyX2_ok nmX2 hown hK hW (9) (tp_lt (by decide)) (cE_k (rfl : kd 9 = 4)) rfl 5 (by decide) (cE_k (rfl : kd 9 = 4)) (hK.nest (w := .fieldLinkNest RX6 139 "LampLine$Packet" "part" "I" "LampLine") (by decide +kernel)) rfl (by decide +kernel) rfl rfl (Nat.le_of_ble_eq_true rfl) dX6_ask_104 (fun H locs hW => ?_)
                      obtain ⟨w22, ew22, hF⟩ := nm_some hF
                      rw [← ew22] at hW
                      refine lv_aload_n hx hb dX6_ask_107 rfl (lv_at hl 1 rfl) ?_
                      refine r_get (C := RX6) (T := TX6) (N := 13) hx hb htA ia_X6 hown hK hW (0) (tp_lt (by decide)) (cE_k (rfl : kd 0 = 1)) rfl 4 (by decide) (htA _ aw_203) rfl dX6_ask_108 ?_
                      refine r_getN (C := RX2) (T := TX2) (N := 9) hx hb htA ia_X2 hown hK hW (9) (tp_lt (by decide)) (cE_k (rfl : kd 9 = 4)) rfl 8 (by decide) (hK.nest (w := .fieldLinkNest RX6 142 "LampLine$Packet" "data" "LLampLine$Row;" "LampLine") (by decide +kernel)) rfl dX6_ask_111 ?_
                      refine lv_aload_n hx hb dX6_ask_114 rfl (lv_at hl 1 rfl) ?_
                      refine r_get (C := RX6) (T := TX6) (N := 13) hx hb htA ia_X6 hown hK hW (0) (tp_lt (by decide)) (cE_k (rfl : kd 0 = 1)) rfl 0 (by decide) (htA _ aw_197) rfl dX6_ask_115 ?_
                      obtain ⟨y23, hy23, hF⟩ := bd_some hF
                      refine r_bv (va_runV (As := [.ref (ad (1))]) (rest := []) ⟨hx, hb, hml, hown, htA⟩ (m_X3_copyFrom l G g ad n a0 aM (10) (1) w22 y23 ⟨rfl, rfl⟩ (tp_lt (by decide)) ⟨rfl, rfl⟩ (tp_lt (by decide)) hy23) (cwV 1 htA (gV aw_271 aw_68 aw_69 aw_6 gz_X3_copyFrom) rfl rfl rfl (by decide +kernel) ⟨Nat.le_of_ble_eq_true rfl, Nat.le_of_ble_eq_true rfl⟩) (r_preV hK hW (10) (tp_lt (by decide)) (cE_k (rfl : kd 10 = 2)) rfl [.ref (ad (1))]) rfl rfl hl.1 rfl (lv_room (Nat.le_of_ble_eq_true rfl)) dX6_ask_118 ⟨Nat.le_of_ble_eq_true rfl, Nat.le_of_ble_eq_true rfl⟩) hW (fun H locs hW => ?_)
                      refine lv_aload_n hx hb dX6_ask_121 rfl (lv_at hl 1 rfl) ?_
                      refine r_get (C := RX6) (T := TX6) (N := 13) hx hb htA ia_X6 hown hK hW (0) (tp_lt (by decide)) (cE_k (rfl : kd 0 = 1)) rfl 0 (by decide) (htA _ aw_197) rfl dX6_ask_122 ?_
                      refine lv_iconst (v := 0) hx hb dX6_ask_125 (by decide) ?_
                      obtain ⟨y24, hy24, hF⟩ := bd_some hF
                      refine r_bv (va_runV (As := [.int 0]) (rest := []) ⟨hx, hb, hml, hown, htA⟩ (m_X3_cut l G g ad n a0 aM (1) y23 0 y24 ⟨rfl, rfl⟩ (tp_lt (by decide)) hy24) (cwV 1 htA (gV aw_240 aw_4 aw_5 aw_6 gz_X3_cut) rfl rfl rfl (by decide +kernel) ⟨Nat.le_of_ble_eq_true rfl, Nat.le_of_ble_eq_true rfl⟩) (r_preV hK hW (1) (tp_lt (by decide)) (cE_k (rfl : kd 1 = 2)) rfl [.int 0]) rfl rfl hl.1 rfl (lv_room (Nat.le_of_ble_eq_true rfl)) dX6_ask_126 ⟨Nat.le_of_ble_eq_true rfl, Nat.le_of_ble_eq_true rfl⟩) hW (fun H locs hW => ?_)
                      refine lv_aload_n hx hb dX6_ask_129 rfl (lv_at hl 1 rfl) ?_
                      refine r_get (C := RX6) (T := TX6) (N := 13) hx hb htA ia_X6 hown hK hW (0) (tp_lt (by decide)) (cE_k (rfl : kd 0 = 1)) rfl 4 (by decide) (htA _ aw_203) rfl dX6_ask_130 ?_
                      refine lv_aload_n hx hb dX6_ask_133 rfl (lv_at hl 1 rfl) ?_
                      refine r_get (C := RX6) (T := TX6) (N := 13) hx hb htA ia_X6 hown hK hW (0) (tp_lt (by decide)) (cE_k (rfl : kd 0 = 1)) rfl 1 (by decide) (htA _ aw_198) rfl dX6_ask_134 ?_
                      obtain ⟨y25, hy25, hF⟩ := bd_some hF
                      refine r_bv (va_runV (As := [.ref (ad (3))]) (rest := []) ⟨hx, hb, hml, hown, htA⟩ (m_X2_writeTo l G g ad n a0 aM (9) (3) y24 y25 ⟨rfl, rfl, rfl⟩ (tp_lt (by decide)) ⟨rfl, rfl⟩ (tp_lt (by decide)) hy25) (cwV 1 htA (gV aw_285 aw_120 aw_121 aw_112 gz_X2_writeTo) rfl rfl rfl (by decide +kernel) ⟨Nat.le_of_ble_eq_true rfl, Nat.le_of_ble_eq_true rfl⟩) (r_preV hK hW (9) (tp_lt (by decide)) (cE_k (rfl : kd 9 = 4)) rfl [.ref (ad (3))]) rfl rfl hl.1 rfl (lv_room (Nat.le_of_ble_eq_true rfl)) dX6_ask_137 ⟨Nat.le_of_ble_eq_true rfl, Nat.le_of_ble_eq_true rfl⟩) hW (fun H locs hW => ?_)
                      refine lv_aload_n hx hb dX6_ask_140 rfl (lv_at hl 1 rfl) ?_
                      obtain ⟨y26, hy26, hF⟩ := bd_some hF
                      refine r_bv (va_runV (As := []) (rest := []) ⟨hx, hb, hml, hown, htA⟩ (m_X6_runFrame l G g ad n a0 aM y25 y26  hy26) (cwV 0 htA (gV aw_272 aw_273 aw_274 aw_52 gz_X6_runFrame) rfl rfl rfl (by decide +kernel) ⟨Nat.le_of_ble_eq_true rfl, Nat.le_of_ble_eq_true rfl⟩) (r_preV hK hW (0) (tp_lt (by decide)) (cE_k (rfl : kd 0 = 1)) rfl []) rfl rfl hl.1 rfl (lv_room (Nat.le_of_ble_eq_true rfl)) dX6_ask_141 ⟨Nat.le_of_ble_eq_true rfl, Nat.le_of_ble_eq_true rfl⟩) hW (fun H locs hW => ?_)
                      refine lv_aload_n hx hb dX6_ask_144 rfl (lv_at hl 1 rfl) ?_
                      refine r_get (C := RX6) (T := TX6) (N := 13) hx hb htA ia_X6 hown hK hW (0) (tp_lt (by decide)) (cE_k (rfl : kd 0 = 1)) rfl 3 (by decide) (htA _ aw_200) rfl dX6_ask_145 ?_
                      obtain ⟨y27, hy27, hF⟩ := bd_some hF
                      refine r_bi (va_runV (As := []) (rest := []) ⟨hx, hb, hml, hown, htA⟩ (m_X3_size l G g ad n a0 aM (7) y26 y27 ⟨rfl, rfl⟩ (tp_lt (by decide)) hy27) (cwV 0 htA (gV aw_238 aw_19 aw_20 aw_6 gz_X3_size) rfl rfl rfl (by decide +kernel) ⟨Nat.le_of_ble_eq_true rfl, Nat.le_of_ble_eq_true rfl⟩) (r_preV hK hW (7) (tp_lt (by decide)) (cE_k (rfl : kd 7 = 2)) rfl []) rfl rfl hl.1 rfl (lv_room (Nat.le_of_ble_eq_true rfl)) dX6_ask_148 ⟨Nat.le_of_ble_eq_true rfl, Nat.le_of_ble_eq_true rfl⟩) hW (fun H locs hW => ?_)
                      refine lv_if_ne (tgt := 156) hx hb dX6_ask_151 (by decide) (fun hc28 => ?_) (fun hc28 => ?_)
                      · replace hF := (if_neg hc28).symm.trans hF
                        refine lv_aload_n hx hb dX6_ask_156 rfl (lv_at hl 1 rfl) ?_
                        refine lv_lload hx hb dX6_ask_157 (lv_at hl 0 rfl) ?_
                        obtain ⟨y29, hy29, hF⟩ := bd_some hF
                        refine r_bi (va_runV (As := [.long y20.2]) (rest := []) ⟨hx, hb, hml, hown, htA⟩ (m_X6_isReplyFrom l G g ad n a0 aM y27.1 y20.2 y29  hy29) (cwV 1 htA (gV aw_286 aw_287 aw_288 aw_52 gz_X6_isReplyFrom) rfl rfl rfl (by decide +kernel) ⟨Nat.le_of_ble_eq_true rfl, Nat.le_of_ble_eq_true rfl⟩) (r_preV hK hW (0) (tp_lt (by decide)) (cE_k (rfl : kd 0 = 1)) rfl [.long y20.2]) rfl rfl hl.1 rfl (lv_room (Nat.le_of_ble_eq_true rfl)) dX6_ask_159 ⟨Nat.le_of_ble_eq_true rfl, Nat.le_of_ble_eq_true rfl⟩) hW (fun H locs hW => ?_)
                        refine lv_if_eq (tgt := 175) hx hb dX6_ask_162 (by decide) (fun hc30 => ?_) (fun hc30 => ?_)
                        · replace hF := (if_pos hc30).symm.trans hF
                          refine lv_bipush (v := (-2)) hx hb dX6_ask_175 (by decide) ?_
                          exact rx_iret hx hb hr hlocks hW hF dX6_ask_177 (Nat.le_of_ble_eq_true rfl) (Nat.le_of_ble_eq_true rfl)
                        · replace hF := (if_neg hc30).symm.trans hF
                          refine lv_aload_n hx hb dX6_ask_165 rfl (lv_at hl 1 rfl) ?_
                          refine r_get (C := RX6) (T := TX6) (N := 13) hx hb htA ia_X6 hown hK hW (0) (tp_lt (by decide)) (cE_k (rfl : kd 0 = 1)) rfl 5 (by decide) (htA _ aw_204) rfl dX6_ask_166 ?_
                          refine r_getN (C := RX2) (T := TX2) (N := 9) hx hb htA ia_X2 hown hK hW (12) (tp_lt (by decide)) (cE_k (rfl : kd 12 = 4)) rfl 3 (by decide) (hK.nest (w := .fieldLinkNest RX6 151 "LampLine$Packet" "kind" "I" "LampLine") (by decide +kernel)) rfl dX6_ask_169 ?_
                          refine lv_goto (tgt := 177) hx hb dX6_ask_172 (by decide) ?_
                          exact rx_iret hx hb hr hlocks hW hF dX6_ask_177 (Nat.le_of_ble_eq_true rfl) (Nat.le_of_ble_eq_true rfl)
                      · replace hF := (if_pos hc28).symm.trans hF
                        refine lv_iconst (v := (-1)) hx hb dX6_ask_154 (by decide) ?_
                        exact rx_iret hx hb hr hlocks hW hF dX6_ask_155 (Nat.le_of_ble_eq_true rfl) (Nat.le_of_ble_eq_true rfl)
                    · replace hF := (if_neg hc19).symm.trans hF
                      exact hL71 σ _ _ _  hW (lv_sub hl [] rfl) hF
        · replace hF := (if_neg hc13).symm.trans hF
          exact hL24 σ _ _ _  hW (lv_sub hl [] rfl) hF
