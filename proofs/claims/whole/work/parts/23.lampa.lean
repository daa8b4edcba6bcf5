def F_X1_footprint (r0 : Nat) (σ : St) : Option (St × Int32) := some (σ, ((σ.1 (r0) 1) * (σ.1 (r0) 9)))
set_option maxHeartbeats 4000000 in
set_option maxRecDepth 100000 in
theorem m_X1_footprint (l : Launch) (G : va_G) (g : Nat → ClassId) (ad : Nat → Nat) (n a0 aM : Nat) (r0 : Nat) (σ : St) (x : St × Int32) (hr0 : isLp r0) (tr0 : r0 + 11 < tp n) (hF : F_X1_footprint r0 σ = some x) : Met l yX1_footprint zs_X1_footprint ({ frames := 0, cells := 0, slots := 0, locals := 0 } : Room) (va_Pc [.ref (ad (r0))] (wP G g ad n a0 aM σ)) (qI G g ad n a0 x) 0 0 (fun q : Nat => a0 ≤ q) := by
  refine Met.ofW (cc := cX1_footprint) (maxL := 1) (ret := (some .int)) (by decide) rfl ?_
  intro p e s m args below meth c s₁ B hml hv
  obtain ⟨rfl, hP, hD, hK⟩ := hv
  have hx := B.exec
  have hb := B.bytes
  have hr := B.returns
  have htA : ∀ w ∈ AL, w.before _ s = true := fun w h9 => atoms_spec (ws := zs_X1_footprint) B.pre w (List.mem_cons_of_mem _ h9)
  have hown : s.vm.findClass RX1 = some m.cls := findClass_of_methodNamed B.named
  have hlocks := B.notSynchronized
  have hW : Wd G g ad n a0 s.heap σ s.heap [] := ⟨hP, hD, va_S.rf⟩
  clear hP hD
  have hl := lv_entry ([.ref (ad (r0))]) (n := 1) (Nat.le_of_ble_eq_true rfl)
  rw [lg_entry_eq]
  generalize (lg_sl ([.ref (ad (r0))]) ++ List.replicate (1 - (lg_sl ([.ref (ad (r0))])).length) Slot.unset).toArray = ls at hl ⊢
  have hl : lv_has ls 1 [(0, .ref (ad (r0)))] := hl
  unfold F_X1_footprint at hF
  refine lv_aload_n hx hb dX1_footprint_0 rfl (lv_at hl 0 rfl) ?_
  refine r_get (C := RX1) (T := TX1) (N := 15) hx hb htA ia_X1 hown hK hW (r0) (by omega) (cE_k hr0.1) rfl 1 (by decide) (htA _ aw_40) rfl dX1_footprint_1 ?_
  refine lv_aload_n hx hb dX1_footprint_4 rfl (lv_at hl 0 rfl) ?_
  refine r_get (C := RX1) (T := TX1) (N := 15) hx hb htA ia_X1 hown hK hW (r0) (by omega) (cE_k hr0.1) rfl 9 (by decide) (htA _ aw_38) rfl dX1_footprint_5 ?_
  refine lv_imul hx hb dX1_footprint_8 ?_
  exact r_iret hx hb hr hlocks hW hF dX1_footprint_9
def F_X1_levelAt (r0 : Nat) (σ : St) (x1 : Int32) : Option (St × Int32) := if x1 < 0 then some (σ, 0) else if 512 ≤ x1 then some (σ, 0) else gd (ib x1 (ln (r0 + 1))) (some (σ, (σ.1 (r0 + 1) (Int32.toNatClampNeg x1))))
set_option maxHeartbeats 4000000 in
set_option maxRecDepth 100000 in
theorem m_X1_levelAt (l : Launch) (G : va_G) (g : Nat → ClassId) (ad : Nat → Nat) (n a0 aM : Nat) (r0 : Nat) (σ : St) (x1 : Int32) (x : St × Int32) (hr0 : isLp r0) (tr0 : r0 + 11 < tp n) (hF : F_X1_levelAt r0 σ x1 = some x) : Met l yX1_levelAt zs_X1_levelAt ({ frames := 0, cells := 0, slots := 0, locals := 0 } : Room) (va_Pc [.ref (ad (r0)), .int x1] (wP G g ad n a0 aM σ)) (qI G g ad n a0 x) 0 0 (fun q : Nat => a0 ≤ q) := by
  refine Met.ofW (cc := cX1_levelAt) (maxL := 2) (ret := (some .int)) (by decide) rfl ?_
  intro p e s m args below meth c s₁ B hml hv
  obtain ⟨rfl, hP, hD, hK⟩ := hv
  have hx := B.exec
  have hb := B.bytes
  have hr := B.returns
  have htA : ∀ w ∈ AL, w.before _ s = true := fun w h9 => atoms_spec (ws := zs_X1_levelAt) B.pre w (List.mem_cons_of_mem _ h9)
  have hown : s.vm.findClass RX1 = some m.cls := findClass_of_methodNamed B.named
  have hlocks := B.notSynchronized
  have hW : Wd G g ad n a0 s.heap σ s.heap [] := ⟨hP, hD, va_S.rf⟩
  clear hP hD
  have hl := lv_entry ([.ref (ad (r0)), .int x1]) (n := 2) (Nat.le_of_ble_eq_true rfl)
  rw [lg_entry_eq]
  generalize (lg_sl ([.ref (ad (r0)), .int x1]) ++ List.replicate (2 - (lg_sl ([.ref (ad (r0)), .int x1])).length) Slot.unset).toArray = ls at hl ⊢
  have hl : lv_has ls 2 [(0, .ref (ad (r0))), (1, .int x1)] := hl
  unfold F_X1_levelAt at hF
  refine lv_iload_n hx hb dX1_levelAt_0 rfl (lv_at hl 1 rfl) ?_
  refine lv_if_lt (tgt := 20) hx hb dX1_levelAt_1 (by decide) (fun hc2 => ?_) (fun hc2 => ?_)
  · replace hF := (if_pos hc2).symm.trans hF
    refine lv_iconst (v := 0) hx hb dX1_levelAt_20 (by decide) ?_
    exact r_iret hx hb hr hlocks hW hF dX1_levelAt_21
  · replace hF := (if_neg hc2).symm.trans hF
    refine lv_iload_n hx hb dX1_levelAt_4 rfl (lv_at hl 1 rfl) ?_
    refine lv_sipush (v := 512) hx hb dX1_levelAt_5 (by decide) ?_
    refine lv_icmp_ge (tgt := 20) hx hb dX1_levelAt_8 (by decide) (fun hc3 => ?_) (fun hc3 => ?_)
    · replace hF := (if_pos hc3).symm.trans hF
      refine lv_iconst (v := 0) hx hb dX1_levelAt_20 (by decide) ?_
      exact r_iret hx hb hr hlocks hW hF dX1_levelAt_21
    · replace hF := (if_neg hc3).symm.trans hF
      refine lv_aload_n hx hb dX1_levelAt_11 rfl (lv_at hl 0 rfl) ?_
      refine r_get (C := RX1) (T := TX1) (N := 15) hx hb htA ia_X1 hown hK hW (r0) (by omega) (cE_k hr0.1) rfl 3 (by decide) (htA _ aw_31) rfl dX1_levelAt_12 ?_
      refine lv_iload_n hx hb dX1_levelAt_15 rfl (lv_at hl 1 rfl) ?_
      obtain ⟨hg4, hF⟩ := gd_some hF
      refine r_iald hx hb hK hW (r0 + 1) (by omega) hr0.2.1 hg4 dX1_levelAt_16 ?_
      refine lv_goto (tgt := 21) hx hb dX1_levelAt_17 (by decide) ?_
      exact r_iret hx hb hr hlocks hW hF dX1_levelAt_21
def F_X1_isDark (r0 : Nat) (σ : St) (x1 : Int32) : Option (St × Int32) := if (σ.1 (r0) 14) = 0 then some (σ, 1) else if (x1 - (σ.1 (r0) 14)) < 20 then some (σ, 0) else some (σ, 1)
set_option maxHeartbeats 4000000 in
set_option maxRecDepth 100000 in
theorem m_X1_isDark (l : Launch) (G : va_G) (g : Nat → ClassId) (ad : Nat → Nat) (n a0 aM : Nat) (r0 : Nat) (σ : St) (x1 : Int32) (x : St × Int32) (hr0 : isLp r0) (tr0 : r0 + 11 < tp n) (hF : F_X1_isDark r0 σ x1 = some x) : Met l yX1_isDark zs_X1_isDark ({ frames := 0, cells := 0, slots := 0, locals := 0 } : Room) (va_Pc [.ref (ad (r0)), .int x1] (wP G g ad n a0 aM σ)) (qI G g ad n a0 x) 0 0 (fun q : Nat => a0 ≤ q) := by
  refine Met.ofW (cc := cX1_isDark) (maxL := 2) (ret := (some .boolean)) (by decide) rfl ?_
  intro p e s m args below meth c s₁ B hml hv
  obtain ⟨rfl, hP, hD, hK⟩ := hv
  have hx := B.exec
  have hb := B.bytes
  have hr := B.returns
  have htA : ∀ w ∈ AL, w.before _ s = true := fun w h9 => atoms_spec (ws := zs_X1_isDark) B.pre w (List.mem_cons_of_mem _ h9)
  have hown : s.vm.findClass RX1 = some m.cls := findClass_of_methodNamed B.named
  have hlocks := B.notSynchronized
  have hW : Wd G g ad n a0 s.heap σ s.heap [] := ⟨hP, hD, va_S.rf⟩
  clear hP hD
  have hl := lv_entry ([.ref (ad (r0)), .int x1]) (n := 2) (Nat.le_of_ble_eq_true rfl)
  rw [lg_entry_eq]
  generalize (lg_sl ([.ref (ad (r0)), .int x1]) ++ List.replicate (2 - (lg_sl ([.ref (ad (r0)), .int x1])).length) Slot.unset).toArray = ls at hl ⊢
  have hl : lv_has ls 2 [(0, .ref (ad (r0))), (1, .int x1)] := hl
  unfold F_X1_isDark at hF
  refine lv_aload_n hx hb dX1_isDark_0 rfl (lv_at hl 0 rfl) ?_
  refine r_get (C := RX1) (T := TX1) (N := 15) hx hb htA ia_X1 hown hK hW (r0) (by omega) (cE_k hr0.1) rfl 14 (by decide) (htA _ aw_46) rfl dX1_isDark_1 ?_
  refine lv_if_eq (tgt := 18) hx hb dX1_isDark_4 (by decide) (fun hc1 => ?_) (fun hc1 => ?_)
  · replace hF := (if_pos hc1).symm.trans hF
    refine lv_iconst (v := 1) hx hb dX1_isDark_18 (by decide) ?_
    refine lv_goto (tgt := 23) hx hb dX1_isDark_19 (by decide) ?_
    exact r_zret hx hb hr hlocks hW rfl hF dX1_isDark_23
  · replace hF := (if_neg hc1).symm.trans hF
    refine lv_iload_n hx hb dX1_isDark_7 rfl (lv_at hl 1 rfl) ?_
    refine lv_aload_n hx hb dX1_isDark_8 rfl (lv_at hl 0 rfl) ?_
    refine r_get (C := RX1) (T := TX1) (N := 15) hx hb htA ia_X1 hown hK hW (r0) (by omega) (cE_k hr0.1) rfl 14 (by decide) (htA _ aw_46) rfl dX1_isDark_9 ?_
    refine lv_isub hx hb dX1_isDark_12 ?_
    refine lv_bipush (v := 20) hx hb dX1_isDark_13 (by decide) ?_
    refine lv_icmp_lt (tgt := 22) hx hb dX1_isDark_15 (by decide) (fun hc2 => ?_) (fun hc2 => ?_)
    · replace hF := (if_pos hc2).symm.trans hF
      refine lv_iconst (v := 0) hx hb dX1_isDark_22 (by decide) ?_
      exact r_zret hx hb hr hlocks hW rfl hF dX1_isDark_23
    · replace hF := (if_neg hc2).symm.trans hF
      refine lv_iconst (v := 1) hx hb dX1_isDark_18 (by decide) ?_
      refine lv_goto (tgt := 23) hx hb dX1_isDark_19 (by decide) ?_
      exact r_zret hx hb hr hlocks hW rfl hF dX1_isDark_23
def F_X1_fact (r0 : Nat) (σ : St) (x1 : Int32) (x2 : Int32) : Option (St × Int32) := if x1 = 0 then (F_X6_makerOf σ (σ.2 (r0) 0)).bind (fun y8 => some (y8.1, y8.2)) else if x1 = 1 then (F_X1_footprint (r0) σ).bind (fun y9 => some (y9.1, y9.2)) else if x1 = 2 then some (σ, (σ.1 (r0) 9)) else if x1 = 3 then some (σ, (σ.1 (r0) 2)) else if x1 = 4 then some (σ, (σ.1 (r0) 10)) else if x1 = 5 then (F_X6_flag σ (σ.1 (r0) 11)).bind (fun y10 => some (y10.1, y10.2)) else if x1 = 6 then (F_X6_flag σ (σ.1 (r0) 12)).bind (fun y11 => some (y11.1, y11.2)) else if x1 = 7 then (F_X1_isDark (r0) σ x2).bind (fun y12 => (F_X6_flag y12.1 y12.2).bind (fun y13 => some (y13.1, y13.2))) else if x1 = 8 then some (σ, (σ.1 (r0) 8)) else if x1 = 9 then (F_X3_size (r0 + 2) σ).bind (fun y14 => some (y14.1, y14.2)) else if x1 = 10 then some (σ, (σ.1 (r0) 13)) else some (σ, (-1))
set_option maxHeartbeats 4000000 in
set_option maxRecDepth 100000 in
theorem m_X1_fact (l : Launch) (G : va_G) (g : Nat → ClassId) (ad : Nat → Nat) (n a0 aM : Nat) (r0 : Nat) (σ : St) (x1 : Int32) (x2 : Int32) (x : St × Int32) (hr0 : isLp r0) (tr0 : r0 + 11 < tp n) (hF : F_X1_fact r0 σ x1 x2 = some x) : Met l yX1_fact zs_X1_fact ({ frames := 1, cells := 0, slots := 0, locals := 21 } : Room) (va_Pc [.ref (ad (r0)), .int x1, .int x2] (wP G g ad n a0 aM σ)) (qI G g ad n a0 x) 0 0 (fun q : Nat => a0 ≤ q) := by
  refine Met.ofW (cc := cX1_fact) (maxL := 3) (ret := (some .int)) (by decide) rfl ?_
  intro p e s m args below meth c s₁ B hml hv
  obtain ⟨rfl, hP, hD, hK⟩ := hv
  have hx := B.exec
  have hb := B.bytes
  have hr := B.returns
  have htA : ∀ w ∈ AL, w.before _ s = true := fun w h9 => atoms_spec (ws := zs_X1_fact) B.pre w (List.mem_cons_of_mem _ h9)
  have hown : s.vm.findClass RX1 = some m.cls := findClass_of_methodNamed B.named
  have hlocks := B.notSynchronized
  have hW : Wd G g ad n a0 s.heap σ s.heap [] := ⟨hP, hD, va_S.rf⟩
  clear hP hD
  have hl := lv_entry ([.ref (ad (r0)), .int x1, .int x2]) (n := 3) (Nat.le_of_ble_eq_true rfl)
  rw [lg_entry_eq]
  generalize (lg_sl ([.ref (ad (r0)), .int x1, .int x2]) ++ List.replicate (3 - (lg_sl ([.ref (ad (r0)), .int x1, .int x2])).length) Slot.unset).toArray = ls at hl ⊢
  have hl : lv_has ls 3 [(0, .ref (ad (r0))), (1, .int x1), (2, .int x2)] := hl
  unfold F_X1_fact at hF
  refine lv_iload_n hx hb dX1_fact_0 rfl (lv_at hl 1 rfl) ?_
  by_cases hs1_0 : x1 = 0
  · replace hF := (if_pos hs1_0).symm.trans hF
    refine lv_tableIn (off := 59) (tgt := 60) hx hb dX1_fact_1 (by rw [hs1_0]; decide) (by rw [hs1_0]; decide) (by rw [hs1_0]; rfl) (by decide) ?_
    refine lv_aload_n hx hb dX1_fact_60 rfl (lv_at hl 0 rfl) ?_
    refine r_get (C := RX1) (T := TX1) (N := 15) hx hb htA ia_X1 hown hK hW (r0) (by omega) (cE_k hr0.1) rfl 0 (by decide) (htA _ aw_39) rfl dX1_fact_61 ?_
    obtain ⟨y8, hy8, hF⟩ := bd_some hF
    refine r_bi (va_runSN (As := [.long (σ.2 (r0) 0)]) (rest := []) ⟨hx, hb, hml, hown, htA⟩ (m_X6_makerOf l G g ad n a0 aM σ (σ.2 (r0) 0) y8  hy8) ⟨va_cnB (host := "LampLine") 1 htA gz_X6_makerOf rfl rfl rfl (hK.2.2.2.1 _ (by decide +kernel)) (htA _ aw_52) (by decide +kernel) ⟨Nat.le_of_ble_eq_true rfl, Nat.le_of_ble_eq_true rfl⟩, htA _ aw_51, trivial⟩ (r_pre hK hW [.long (σ.2 (r0) 0)]) rfl rfl hl.1 rfl (lv_room (Nat.le_of_ble_eq_true rfl)) dX1_fact_64 ⟨Nat.zero_le _, Nat.zero_le _⟩) hW (fun H locs hW => ?_)
    exact r_iret hx hb hr hlocks hW hF dX1_fact_67
  · replace hF := (if_neg hs1_0).symm.trans hF
    by_cases hs1_1 : x1 = 1
    · replace hF := (if_pos hs1_1).symm.trans hF
      refine lv_tableIn (off := 67) (tgt := 68) hx hb dX1_fact_1 (by rw [hs1_1]; decide) (by rw [hs1_1]; decide) (by rw [hs1_1]; rfl) (by decide) ?_
      refine lv_aload_n hx hb dX1_fact_68 rfl (lv_at hl 0 rfl) ?_
      obtain ⟨y9, hy9, hF⟩ := bd_some hF
      refine r_bi (va_runV (As := []) (rest := []) ⟨hx, hb, hml, hown, htA⟩ (m_X1_footprint l G g ad n a0 aM (r0) σ y9 hr0 (by omega) hy9) (cwV 0 htA (gV aw_54 aw_55 aw_56 aw_57 gz_X1_footprint) rfl rfl rfl (by decide +kernel) ⟨Nat.le_of_ble_eq_true rfl, Nat.le_of_ble_eq_true rfl⟩) (r_preV hK hW (r0) (by omega) (cE_k hr0.1) rfl []) rfl rfl hl.1 rfl (lv_room (Nat.le_of_ble_eq_true rfl)) dX1_fact_69 ⟨Nat.zero_le _, Nat.zero_le _⟩) hW (fun H locs hW => ?_)
      exact r_iret hx hb hr hlocks hW hF dX1_fact_72
    · replace hF := (if_neg hs1_1).symm.trans hF
      by_cases hs1_2 : x1 = 2
      · replace hF := (if_pos hs1_2).symm.trans hF
        refine lv_tableIn (off := 72) (tgt := 73) hx hb dX1_fact_1 (by rw [hs1_2]; decide) (by rw [hs1_2]; decide) (by rw [hs1_2]; rfl) (by decide) ?_
        refine lv_aload_n hx hb dX1_fact_73 rfl (lv_at hl 0 rfl) ?_
        refine r_get (C := RX1) (T := TX1) (N := 15) hx hb htA ia_X1 hown hK hW (r0) (by omega) (cE_k hr0.1) rfl 9 (by decide) (htA _ aw_38) rfl dX1_fact_74 ?_
        exact r_iret hx hb hr hlocks hW hF dX1_fact_77
      · replace hF := (if_neg hs1_2).symm.trans hF
        by_cases hs1_3 : x1 = 3
        · replace hF := (if_pos hs1_3).symm.trans hF
          refine lv_tableIn (off := 77) (tgt := 78) hx hb dX1_fact_1 (by rw [hs1_3]; decide) (by rw [hs1_3]; decide) (by rw [hs1_3]; rfl) (by decide) ?_
          refine lv_aload_n hx hb dX1_fact_78 rfl (lv_at hl 0 rfl) ?_
          refine r_get (C := RX1) (T := TX1) (N := 15) hx hb htA ia_X1 hown hK hW (r0) (by omega) (cE_k hr0.1) rfl 2 (by decide) (htA _ aw_41) rfl dX1_fact_79 ?_
          exact r_iret hx hb hr hlocks hW hF dX1_fact_82
        · replace hF := (if_neg hs1_3).symm.trans hF
          by_cases hs1_4 : x1 = 4
          · replace hF := (if_pos hs1_4).symm.trans hF
            refine lv_tableIn (off := 82) (tgt := 83) hx hb dX1_fact_1 (by rw [hs1_4]; decide) (by rw [hs1_4]; decide) (by rw [hs1_4]; rfl) (by decide) ?_
            refine lv_aload_n hx hb dX1_fact_83 rfl (lv_at hl 0 rfl) ?_
            refine r_get (C := RX1) (T := TX1) (N := 15) hx hb htA ia_X1 hown hK hW (r0) (by omega) (cE_k hr0.1) rfl 10 (by decide) (htA _ aw_42) rfl dX1_fact_84 ?_
            exact r_iret hx hb hr hlocks hW hF dX1_fact_87
          · replace hF := (if_neg hs1_4).symm.trans hF
            by_cases hs1_5 : x1 = 5
            · replace hF := (if_pos hs1_5).symm.trans hF
              refine lv_tableIn (off := 87) (tgt := 88) hx hb dX1_fact_1 (by rw [hs1_5]; decide) (by rw [hs1_5]; decide) (by rw [hs1_5]; rfl) (by decide) ?_
              refine lv_aload_n hx hb dX1_fact_88 rfl (lv_at hl 0 rfl) ?_
              refine r_get (C := RX1) (T := TX1) (N := 15) hx hb htA ia_X1 hown hK hW (r0) (by omega) (cE_k hr0.1) rfl 11 (by decide) (htA _ aw_47) rfl dX1_fact_89 ?_
              obtain ⟨y10, hy10, hF⟩ := bd_some hF
              refine r_bi (va_runSN (As := [.int (σ.1 (r0) 11)]) (rest := []) ⟨hx, hb, hml, hown, htA⟩ (m_X6_flag l G g ad n a0 aM σ (σ.1 (r0) 11) y10  hy10) ⟨va_cnB (host := "LampLine") 1 htA gz_X6_flag rfl rfl rfl (hK.2.2.2.1 _ (by decide +kernel)) (htA _ aw_52) (by decide +kernel) ⟨Nat.le_of_ble_eq_true rfl, Nat.le_of_ble_eq_true rfl⟩, htA _ aw_59, trivial⟩ (r_pre hK hW [.int (σ.1 (r0) 11)]) rfl rfl hl.1 rfl (lv_room (Nat.le_of_ble_eq_true rfl)) dX1_fact_92 ⟨Nat.zero_le _, Nat.zero_le _⟩) hW (fun H locs hW => ?_)
              exact r_iret hx hb hr hlocks hW hF dX1_fact_95
            · replace hF := (if_neg hs1_5).symm.trans hF
              by_cases hs1_6 : x1 = 6
              · replace hF := (if_pos hs1_6).symm.trans hF
                refine lv_tableIn (off := 95) (tgt := 96) hx hb dX1_fact_1 (by rw [hs1_6]; decide) (by rw [hs1_6]; decide) (by rw [hs1_6]; rfl) (by decide) ?_
                refine lv_aload_n hx hb dX1_fact_96 rfl (lv_at hl 0 rfl) ?_
                refine r_get (C := RX1) (T := TX1) (N := 15) hx hb htA ia_X1 hown hK hW (r0) (by omega) (cE_k hr0.1) rfl 12 (by decide) (htA _ aw_48) rfl dX1_fact_97 ?_
                obtain ⟨y11, hy11, hF⟩ := bd_some hF
                refine r_bi (va_runSN (As := [.int (σ.1 (r0) 12)]) (rest := []) ⟨hx, hb, hml, hown, htA⟩ (m_X6_flag l G g ad n a0 aM σ (σ.1 (r0) 12) y11  hy11) ⟨va_cnB (host := "LampLine") 1 htA gz_X6_flag rfl rfl rfl (hK.2.2.2.1 _ (by decide +kernel)) (htA _ aw_52) (by decide +kernel) ⟨Nat.le_of_ble_eq_true rfl, Nat.le_of_ble_eq_true rfl⟩, htA _ aw_59, trivial⟩ (r_pre hK hW [.int (σ.1 (r0) 12)]) rfl rfl hl.1 rfl (lv_room (Nat.le_of_ble_eq_true rfl)) dX1_fact_100 ⟨Nat.zero_le _, Nat.zero_le _⟩) hW (fun H locs hW => ?_)
                exact r_iret hx hb hr hlocks hW hF dX1_fact_103
              · replace hF := (if_neg hs1_6).symm.trans hF
                by_cases hs1_7 : x1 = 7
                · replace hF := (if_pos hs1_7).symm.trans hF
                  refine lv_tableIn (off := 103) (tgt := 104) hx hb dX1_fact_1 (by rw [hs1_7]; decide) (by rw [hs1_7]; decide) (by rw [hs1_7]; rfl) (by decide) ?_
                  refine lv_aload_n hx hb dX1_fact_104 rfl (lv_at hl 0 rfl) ?_
                  refine lv_iload_n hx hb dX1_fact_105 rfl (lv_at hl 2 rfl) ?_
                  obtain ⟨y12, hy12, hF⟩ := bd_some hF
                  refine r_bi (va_runV (As := [.int x2]) (rest := []) ⟨hx, hb, hml, hown, htA⟩ (m_X1_isDark l G g ad n a0 aM (r0) σ x2 y12 hr0 (by omega) hy12) (cwV 1 htA (gV aw_61 aw_62 aw_63 aw_57 gz_X1_isDark) rfl rfl rfl (by decide +kernel) ⟨Nat.le_of_ble_eq_true rfl, Nat.le_of_ble_eq_true rfl⟩) (r_preV hK hW (r0) (by omega) (cE_k hr0.1) rfl [.int x2]) rfl rfl hl.1 rfl (lv_room (Nat.le_of_ble_eq_true rfl)) dX1_fact_106 ⟨Nat.zero_le _, Nat.zero_le _⟩) hW (fun H locs hW => ?_)
                  obtain ⟨y13, hy13, hF⟩ := bd_some hF
                  refine r_bi (va_runSN (As := [.int y12.2]) (rest := []) ⟨hx, hb, hml, hown, htA⟩ (m_X6_flag l G g ad n a0 aM y12.1 y12.2 y13  hy13) ⟨va_cnB (host := "LampLine") 1 htA gz_X6_flag rfl rfl rfl (hK.2.2.2.1 _ (by decide +kernel)) (htA _ aw_52) (by decide +kernel) ⟨Nat.le_of_ble_eq_true rfl, Nat.le_of_ble_eq_true rfl⟩, htA _ aw_59, trivial⟩ (r_pre hK hW [.int y12.2]) rfl rfl hl.1 rfl (lv_room (Nat.le_of_ble_eq_true rfl)) dX1_fact_109 ⟨Nat.zero_le _, Nat.zero_le _⟩) hW (fun H locs hW => ?_)
                  exact r_iret hx hb hr hlocks hW hF dX1_fact_112
                · replace hF := (if_neg hs1_7).symm.trans hF
                  by_cases hs1_8 : x1 = 8
                  · replace hF := (if_pos hs1_8).symm.trans hF
                    refine lv_tableIn (off := 112) (tgt := 113) hx hb dX1_fact_1 (by rw [hs1_8]; decide) (by rw [hs1_8]; decide) (by rw [hs1_8]; rfl) (by decide) ?_
                    refine lv_aload_n hx hb dX1_fact_113 rfl (lv_at hl 0 rfl) ?_
                    refine r_get (C := RX1) (T := TX1) (N := 15) hx hb htA ia_X1 hown hK hW (r0) (by omega) (cE_k hr0.1) rfl 8 (by decide) (htA _ aw_49) rfl dX1_fact_114 ?_
                    exact r_iret hx hb hr hlocks hW hF dX1_fact_117
                  · replace hF := (if_neg hs1_8).symm.trans hF
                    by_cases hs1_9 : x1 = 9
                    · replace hF := (if_pos hs1_9).symm.trans hF
                      refine lv_tableIn (off := 117) (tgt := 118) hx hb dX1_fact_1 (by rw [hs1_9]; decide) (by rw [hs1_9]; decide) (by rw [hs1_9]; rfl) (by decide) ?_
                      refine lv_aload_n hx hb dX1_fact_118 rfl (lv_at hl 0 rfl) ?_
                      refine r_get (C := RX1) (T := TX1) (N := 15) hx hb htA ia_X1 hown hK hW (r0) (by omega) (cE_k hr0.1) rfl 4 (by decide) (htA _ aw_34) rfl dX1_fact_119 ?_
                      obtain ⟨y14, hy14, hF⟩ := bd_some hF
                      refine r_bi (va_runV (As := []) (rest := []) ⟨hx, hb, hml, hown, htA⟩ (m_X3_size l G g ad n a0 aM (r0 + 2) σ y14 hr0.2.2.1 (by omega) hy14) (cwV 0 htA (gV aw_65 aw_19 aw_20 aw_6 gz_X3_size) rfl rfl rfl (by decide +kernel) ⟨Nat.le_of_ble_eq_true rfl, Nat.le_of_ble_eq_true rfl⟩) (r_preV hK hW (r0 + 2) (by omega) (cE_k hr0.2.2.1.1) rfl []) rfl rfl hl.1 rfl (lv_room (Nat.le_of_ble_eq_true rfl)) dX1_fact_122 ⟨Nat.zero_le _, Nat.zero_le _⟩) hW (fun H locs hW => ?_)
                      exact r_iret hx hb hr hlocks hW hF dX1_fact_125
                    · replace hF := (if_neg hs1_9).symm.trans hF
                      by_cases hs1_10 : x1 = 10
                      · replace hF := (if_pos hs1_10).symm.trans hF
                        refine lv_tableIn (off := 125) (tgt := 126) hx hb dX1_fact_1 (by rw [hs1_10]; decide) (by rw [hs1_10]; decide) (by rw [hs1_10]; rfl) (by decide) ?_
                        refine lv_aload_n hx hb dX1_fact_126 rfl (lv_at hl 0 rfl) ?_
                        refine r_get (C := RX1) (T := TX1) (N := 15) hx hb htA ia_X1 hown hK hW (r0) (by omega) (cE_k hr0.1) rfl 13 (by decide) (htA _ aw_50) rfl dX1_fact_127 ?_
                        exact r_iret hx hb hr hlocks hW hF dX1_fact_130
                      · replace hF := (if_neg hs1_10).symm.trans hF
                        have ehs1_0 : (x1).toInt ≠ 0 := fun e9 => hs1_0 (Int32.toInt_inj.mp (e9.trans (by decide)))
                        have ehs1_1 : (x1).toInt ≠ 1 := fun e9 => hs1_1 (Int32.toInt_inj.mp (e9.trans (by decide)))
                        have ehs1_2 : (x1).toInt ≠ 2 := fun e9 => hs1_2 (Int32.toInt_inj.mp (e9.trans (by decide)))
                        have ehs1_3 : (x1).toInt ≠ 3 := fun e9 => hs1_3 (Int32.toInt_inj.mp (e9.trans (by decide)))
                        have ehs1_4 : (x1).toInt ≠ 4 := fun e9 => hs1_4 (Int32.toInt_inj.mp (e9.trans (by decide)))
                        have ehs1_5 : (x1).toInt ≠ 5 := fun e9 => hs1_5 (Int32.toInt_inj.mp (e9.trans (by decide)))
                        have ehs1_6 : (x1).toInt ≠ 6 := fun e9 => hs1_6 (Int32.toInt_inj.mp (e9.trans (by decide)))
                        have ehs1_7 : (x1).toInt ≠ 7 := fun e9 => hs1_7 (Int32.toInt_inj.mp (e9.trans (by decide)))
                        have ehs1_8 : (x1).toInt ≠ 8 := fun e9 => hs1_8 (Int32.toInt_inj.mp (e9.trans (by decide)))
                        have ehs1_9 : (x1).toInt ≠ 9 := fun e9 => hs1_9 (Int32.toInt_inj.mp (e9.trans (by decide)))
                        have ehs1_10 : (x1).toInt ≠ 10 := fun e9 => hs1_10 (Int32.toInt_inj.mp (e9.trans (by decide)))
                        refine lv_tableOut (tgt := 131) hx hb dX1_fact_1 (by omega) (by decide) ?_
                        refine lv_iconst (v := (-1)) hx hb dX1_fact_131 (by decide) ?_
                        exact r_iret hx hb hr hlocks hW hF dX1_fact_132
def F_X1_ripen (r0 : Nat) (σ : St) (x1 : Int32) : Option (St) := if (x1 - x1 / 3 * 3) < 0 then some σ else gd (ib (x1 - x1 / 3 * 3) (ln (r0 + 5))) (if (σ.1 (r0 + 5) (Int32.toNatClampNeg (x1 - x1 / 3 * 3))) = 0 then some σ else gd (ib (x1 - x1 / 3 * 3) (ln (r0 + 5))) (nm (sI σ (r0 + 5) (Int32.toNatClampNeg (x1 - x1 / 3 * 3)) (vp_nar .boolean 0)) (fun w13 => gd (ib (x1 - x1 / 3 * 3) (ln (r0 + 4))) ((F_X3_copyFrom (r0 + 2) (r0 + 4 + 2 + 2 * (Int32.toNatClampNeg (x1 - x1 / 3 * 3))) w13).bind (fun y16 => nm (sI y16 (r0) 7 ((y16.1 (r0) 7) - 1)) (fun w17 => nm (sI w17 (r0) 8 ((w17.1 (r0) 8) + 1)) (fun w18 => some w18)))))))
set_option maxHeartbeats 4000000 in
set_option maxRecDepth 100000 in
theorem m_X1_ripen (l : Launch) (G : va_G) (g : Nat → ClassId) (ad : Nat → Nat) (n a0 aM : Nat) (r0 : Nat) (σ : St) (x1 : Int32) (x : St) (hr0 : isLp r0) (tr0 : r0 + 11 < tp n) (hF : F_X1_ripen r0 σ x1 = some x) : Met l yX1_ripen zs_X1_ripen ({ frames := 1, cells := 0, slots := 0, locals := 22 } : Room) (va_Pc [.ref (ad (r0)), .int x1] (wP G g ad n a0 aM σ)) (qV G g ad n a0 x) 0 0 (fun q : Nat => a0 ≤ q) := by
  refine Met.ofW (cc := cX1_ripen) (maxL := 3) (ret := none) (by decide) rfl ?_
  intro p e s m args below meth c s₁ B hml hv
  obtain ⟨rfl, hP, hD, hK⟩ := hv
  have hx := B.exec
  have hb := B.bytes
  have hr := B.returns
  have htA : ∀ w ∈ AL, w.before _ s = true := fun w h9 => atoms_spec (ws := zs_X1_ripen) B.pre w (List.mem_cons_of_mem _ h9)
  have hown : s.vm.findClass RX1 = some m.cls := findClass_of_methodNamed B.named
  have hlocks := B.notSynchronized
  have hW : Wd G g ad n a0 s.heap σ s.heap [] := ⟨hP, hD, va_S.rf⟩
  clear hP hD
  have hl := lv_entry ([.ref (ad (r0)), .int x1]) (n := 3) (Nat.le_of_ble_eq_true rfl)
  rw [lg_entry_eq]
  generalize (lg_sl ([.ref (ad (r0)), .int x1]) ++ List.replicate (3 - (lg_sl ([.ref (ad (r0)), .int x1])).length) Slot.unset).toArray = ls at hl ⊢
  have hl : lv_has ls 3 [(0, .ref (ad (r0))), (1, .int x1)] := hl
  unfold F_X1_ripen at hF
  refine lv_iload_n hx hb dX1_ripen_0 rfl (lv_at hl 1 rfl) ?_
  refine lv_iconst (v := 3) hx hb dX1_ripen_1 (by decide) ?_
  refine lv_irem hx hb dX1_ripen_2 (by decide) ?_
  refine lv_istore_n (lv' := [(2, .int (x1 - x1 / 3 * 3)), (0, .ref (ad (r0))), (1, .int x1)]) hx hb dX1_ripen_3 rfl hl (by decide) rfl (fun ls hl => ?_)
  refine lv_iload_n hx hb dX1_ripen_4 rfl (lv_at hl 0 rfl) ?_
  refine lv_if_lt (tgt := 57) hx hb dX1_ripen_5 (by decide) (fun hc9 => ?_) (fun hc9 => ?_)
  · replace hF := (if_pos hc9).symm.trans hF
    exact r_vret hx hb hr hlocks hW hF dX1_ripen_57
  · replace hF := (if_neg hc9).symm.trans hF
    refine lv_aload_n hx hb dX1_ripen_8 rfl (lv_at hl 1 rfl) ?_
    refine r_get (C := RX1) (T := TX1) (N := 15) hx hb htA ia_X1 hown hK hW (r0) (by omega) (cE_k hr0.1) rfl 6 (by decide) (htA _ aw_37) rfl dX1_ripen_9 ?_
    refine lv_iload_n hx hb dX1_ripen_12 rfl (lv_at hl 0 rfl) ?_
    obtain ⟨hg10, hF⟩ := gd_some hF
    refine r_zald hx hb hK hW (r0 + 5) (by omega) hr0.2.2.2.2.1 hg10 dX1_ripen_13 ?_
    refine lv_if_eq (tgt := 57) hx hb dX1_ripen_14 (by decide) (fun hc11 => ?_) (fun hc11 => ?_)
    · replace hF := (if_pos hc11).symm.trans hF
      exact r_vret hx hb hr hlocks hW hF dX1_ripen_57
    · replace hF := (if_neg hc11).symm.trans hF
      refine lv_aload_n hx hb dX1_ripen_17 rfl (lv_at hl 1 rfl) ?_
      refine r_get (C := RX1) (T := TX1) (N := 15) hx hb htA ia_X1 hown hK hW (r0) (by omega) (cE_k hr0.1) rfl 6 (by decide) (htA _ aw_37) rfl dX1_ripen_18 ?_
      refine lv_iload_n hx hb dX1_ripen_21 rfl (lv_at hl 0 rfl) ?_
      refine lv_iconst (v := 0) hx hb dX1_ripen_22 (by decide) ?_
      obtain ⟨hg12, hF⟩ := gd_some hF
      refine r_zast hx hb hK hW (r0 + 5) (by omega) hr0.2.2.2.2.1 hg12 dX1_ripen_23 (fun H locs hW => ?_)
      obtain ⟨w13, ew13, hF⟩ := nm_some hF
      rw [← ew13] at hW
      refine lv_aload_n hx hb dX1_ripen_24 rfl (lv_at hl 1 rfl) ?_
      refine r_get (C := RX1) (T := TX1) (N := 15) hx hb htA ia_X1 hown hK hW (r0) (by omega) (cE_k hr0.1) rfl 4 (by decide) (htA _ aw_34) rfl dX1_ripen_25 ?_
      refine lv_aload_n hx hb dX1_ripen_28 rfl (lv_at hl 1 rfl) ?_
      refine r_get (C := RX1) (T := TX1) (N := 15) hx hb htA ia_X1 hown hK hW (r0) (by omega) (cE_k hr0.1) rfl 5 (by decide) (htA _ aw_35) rfl dX1_ripen_29 ?_
      refine lv_iload_n hx hb dX1_ripen_32 rfl (lv_at hl 0 rfl) ?_
      obtain ⟨hg14, hF⟩ := gd_some hF
      refine r_later hx hb hK hW (r0 + 4) (by omega) hr0.2.2.2.1 hg14 (isLp_lt hr0 hg14) dX1_ripen_33 ?_
      have hq15 : isRow (r0 + 4 + 2 + 2 * (Int32.toNatClampNeg (x1 - x1 / 3 * 3))) := isLp_row hr0 hg14
      have thq15 : r0 + 4 + 2 + 2 * (Int32.toNatClampNeg (x1 - x1 / 3 * 3)) + 1 < tp n := by have h9 := isLp_lt hr0 hg14; omega
      obtain ⟨y16, hy16, hF⟩ := bd_some hF
      refine r_bv (va_runV (As := [.ref (ad (r0 + 4 + 2 + 2 * (Int32.toNatClampNeg (x1 - x1 / 3 * 3))))]) (rest := []) ⟨hx, hb, hml, hown, htA⟩ (m_X3_copyFrom l G g ad n a0 aM (r0 + 2) (r0 + 4 + 2 + 2 * (Int32.toNatClampNeg (x1 - x1 / 3 * 3))) w13 y16 hr0.2.2.1 (by omega) hq15 (by omega) hy16) (cwV 1 htA (gV aw_67 aw_68 aw_69 aw_6 gz_X3_copyFrom) rfl rfl rfl (by decide +kernel) ⟨Nat.le_of_ble_eq_true rfl, Nat.le_of_ble_eq_true rfl⟩) (r_preV hK hW (r0 + 2) (by omega) (cE_k hr0.2.2.1.1) rfl [.ref (ad (r0 + 4 + 2 + 2 * (Int32.toNatClampNeg (x1 - x1 / 3 * 3))))]) rfl rfl hl.1 rfl (lv_room (Nat.le_of_ble_eq_true rfl)) dX1_ripen_34 ⟨Nat.zero_le _, Nat.zero_le _⟩) hW (fun H locs hW => ?_)
      refine lv_aload_n hx hb dX1_ripen_37 rfl (lv_at hl 1 rfl) ?_
      refine lv_dup hx hb dX1_ripen_38 rfl ?_
      refine r_get (C := RX1) (T := TX1) (N := 15) hx hb htA ia_X1 hown hK hW (r0) (by omega) (cE_k hr0.1) rfl 7 (by decide) (htA _ aw_66) rfl dX1_ripen_39 ?_
      refine lv_iconst (v := 1) hx hb dX1_ripen_42 (by decide) ?_
      refine lv_isub hx hb dX1_ripen_43 ?_
      refine r_putI (C := RX1) (T := TX1) (N := 15) (ty := .int) hx hb htA ia_X1 tyX1 tyX1_ok nmX1 hown hK hW (r0) (by omega) (cE_k hr0.1) rfl 7 (by decide) (cE_k hr0.1) (htA _ aw_66) rfl (by decide +kernel) rfl rfl (Nat.le_of_ble_eq_true rfl) dX1_ripen_44 (fun H locs hW => ?_)
      obtain ⟨w17, ew17, hF⟩ := nm_some hF
      rw [← ew17] at hW
      refine lv_aload_n hx hb dX1_ripen_47 rfl (lv_at hl 1 rfl) ?_
      refine lv_dup hx hb dX1_ripen_48 rfl ?_
      refine r_get (C := RX1) (T := TX1) (N := 15) hx hb htA ia_X1 hown hK hW (r0) (by omega) (cE_k hr0.1) rfl 8 (by decide) (htA _ aw_49) rfl dX1_ripen_49 ?_
      refine lv_iconst (v := 1) hx hb dX1_ripen_52 (by decide) ?_
      refine lv_iadd hx hb dX1_ripen_53 ?_
      refine r_putI (C := RX1) (T := TX1) (N := 15) (ty := .int) hx hb htA ia_X1 tyX1 tyX1_ok nmX1 hown hK hW (r0) (by omega) (cE_k hr0.1) rfl 8 (by decide) (cE_k hr0.1) (htA _ aw_49) rfl (by decide +kernel) rfl rfl (Nat.le_of_ble_eq_true rfl) dX1_ripen_54 (fun H locs hW => ?_)
      obtain ⟨w18, ew18, hF⟩ := nm_some hF
      rw [← ew18] at hW
      exact r_vret hx hb hr hlocks hW hF dX1_ripen_57
def F_X1_shine_L74 (r0 : Nat) (r1 : Nat) (σ : St) : Option (St) := some σ
def F_X1_shine_L36 (r0 : Nat) (r1 : Nat) (K74 : St → Option (St)) : Nat → St → Int32 → Int32 → Option (St)
  | 0, _, _, _ => none
  | fz + 1, σ, u3, u4 => if u3 ≤ u4 then K74 σ else if 512 ≤ u4 then K74 σ else (F_X3_at (r1) σ ((σ.1 (r0) 10) + u4)).bind (fun y10 => gd (ib u4 (ln (r0 + 1))) (nm (sI y10.1 (r0 + 1) (Int32.toNatClampNeg u4) y10.2) (fun w12 => (F_X1_shine_L36 r0 r1 K74 fz) w12 u3 (u4 + 1))))
def F_X1_shine_L16 (r0 : Nat) (r1 : Nat) (σ : St) : Option (St) := (F_X1_footprint (r0) σ).bind (fun y13 => (F_X3_size (r1) y13.1).bind (fun y14 => F_X1_shine_L36 r0 r1 (F_X1_shine_L74 r0 r1) fu y14.1 (if (y14.2 - (y14.1.1 (r0) 10)) < y13.2 then (y14.2 - (y14.1.1 (r0) 10)) else y13.2) 0))
def F_X1_shine (r0 : Nat) (r1 : Nat) (σ : St) (x2 : Int32) : Option (St) := (F_X3_size (r1) σ).bind (fun y15 => if y15.2 ≤ (σ.1 (r0) 10) then F_X1_shine_L16 r0 r1 y15.1 else nm (sI y15.1 (r0) 14 x2) (fun w17 => F_X1_shine_L16 r0 r1 w17))
set_option maxHeartbeats 4000000 in
set_option maxRecDepth 100000 in
theorem m_X1_shine (l : Launch) (G : va_G) (g : Nat → ClassId) (ad : Nat → Nat) (n a0 aM : Nat) (r0 : Nat) (r1 : Nat) (σ : St) (x2 : Int32) (x : St) (hr0 : isLp r0) (tr0 : r0 + 11 < tp n) (hr1 : isRow r1) (tr1 : r1 + 1 < tp n) (hF : F_X1_shine r0 r1 σ x2 = some x) : Met l yX1_shine zs_X1_shine ({ frames := 1, cells := 0, slots := 0, locals := 21 } : Room) (va_Pc [.ref (ad (r0)), .ref (ad (r1)), .int x2] (wP G g ad n a0 aM σ)) (qV G g ad n a0 x) 0 0 (fun q : Nat => a0 ≤ q) := by
  refine Met.ofW (cc := cX1_shine) (maxL := 5) (ret := none) (by decide) rfl ?_
  intro p e s m args below meth c s₁ B hml hv
  obtain ⟨rfl, hP, hD, hK⟩ := hv
  have hx := B.exec
  have hb := B.bytes
  have hr := B.returns
  have htA : ∀ w ∈ AL, w.before _ s = true := fun w h9 => atoms_spec (ws := zs_X1_shine) B.pre w (List.mem_cons_of_mem _ h9)
  have hown : s.vm.findClass RX1 = some m.cls := findClass_of_methodNamed B.named
  have hlocks := B.notSynchronized
  have hW : Wd G g ad n a0 s.heap σ s.heap [] := ⟨hP, hD, va_S.rf⟩
  clear hP hD
  have hL74 : ∀ (σ : St) (H : Heap) (locs : List Loc) (ls : Array Slot), Wd G g ad n a0 s.heap σ H locs → lv_has ls 5 [] → F_X1_shine_L74 r0 r1  σ = some x → W p l e (headSpec zs_X1_shine ({ frames := 1, cells := 0, slots := 0, locals := 21 } : Room)).room s m ([.ref (ad (r0)), .ref (ad (r1)), .int x2] : List Value).toArray below meth c H locs 0 0 (MQ below (qV G g ad n a0 x) ([.ref (ad (r0)), .ref (ad (r1)), .int x2] : List Value).toArray s 0 0 (fun q : Nat => a0 ≤ q)) (F0 m 74 ls []) := by
    intro σ H locs ls hW hl hF
    unfold F_X1_shine_L74 at hF
    exact r_vret hx hb hr hlocks hW hF dX1_shine_74
  have hL36 : ∀ (fz36 : Nat) (σ : St) (u3 : Int32) (u4 : Int32) (H : Heap) (locs : List Loc) (ls : Array Slot), Wd G g ad n a0 s.heap σ H locs → lv_has ls 5 [(0, .ref (ad (r0))), (1, .ref (ad (r1))), (3, .int u3), (4, .int u4)] → F_X1_shine_L36 r0 r1 (F_X1_shine_L74 r0 r1) fz36 σ u3 u4 = some x → W p l e (headSpec zs_X1_shine ({ frames := 1, cells := 0, slots := 0, locals := 21 } : Room)).room s m ([.ref (ad (r0)), .ref (ad (r1)), .int x2] : List Value).toArray below meth c H locs 0 0 (MQ below (qV G g ad n a0 x) ([.ref (ad (r0)), .ref (ad (r1)), .int x2] : List Value).toArray s 0 0 (fun q : Nat => a0 ≤ q)) (F0 m 36 ls []) := by
    intro fz36
    induction fz36 with
    | zero =>
      intro σ u3 u4 H locs ls hW hl hF
      exact absurd hF (by simp [F_X1_shine_L36])
    | succ fz36 ih =>
      have hB36 := ih
      intro σ u3 u4 H locs ls hW hl hF
      unfold F_X1_shine_L36 at hF
      refine lv_iload hx hb dX1_shine_36 (lv_at hl 3 rfl) ?_
      refine lv_iload_n hx hb dX1_shine_38 rfl (lv_at hl 2 rfl) ?_
      refine lv_icmp_ge (tgt := 74) hx hb dX1_shine_39 (by decide) (fun hc8 => ?_) (fun hc8 => ?_)
      · replace hF := (if_pos hc8).symm.trans hF
        exact hL74 σ _ _ _  hW (lv_sub hl [] rfl) hF
      · replace hF := (if_neg hc8).symm.trans hF
        refine lv_iload hx hb dX1_shine_42 (lv_at hl 3 rfl) ?_
        refine lv_sipush (v := 512) hx hb dX1_shine_44 (by decide) ?_
        refine lv_icmp_ge (tgt := 74) hx hb dX1_shine_47 (by decide) (fun hc9 => ?_) (fun hc9 => ?_)
        · replace hF := (if_pos hc9).symm.trans hF
          exact hL74 σ _ _ _  hW (lv_sub hl [] rfl) hF
        · replace hF := (if_neg hc9).symm.trans hF
          refine lv_aload_n hx hb dX1_shine_50 rfl (lv_at hl 0 rfl) ?_
          refine r_get (C := RX1) (T := TX1) (N := 15) hx hb htA ia_X1 hown hK hW (r0) (by omega) (cE_k hr0.1) rfl 3 (by decide) (htA _ aw_31) rfl dX1_shine_51 ?_
          refine lv_iload hx hb dX1_shine_54 (lv_at hl 3 rfl) ?_
          refine lv_aload_n hx hb dX1_shine_56 rfl (lv_at hl 1 rfl) ?_
          refine lv_aload_n hx hb dX1_shine_57 rfl (lv_at hl 0 rfl) ?_
          refine r_get (C := RX1) (T := TX1) (N := 15) hx hb htA ia_X1 hown hK hW (r0) (by omega) (cE_k hr0.1) rfl 10 (by decide) (htA _ aw_42) rfl dX1_shine_58 ?_
          refine lv_iload hx hb dX1_shine_61 (lv_at hl 3 rfl) ?_
          refine lv_iadd hx hb dX1_shine_63 ?_
          obtain ⟨y10, hy10, hF⟩ := bd_some hF
          refine r_bi (va_runV (As := [.int ((σ.1 (r0) 10) + u4)]) (rest := [.int u4, .ref (ad (r0 + 1))]) ⟨hx, hb, hml, hown, htA⟩ (m_X3_at l G g ad n a0 aM (r1) σ ((σ.1 (r0) 10) + u4) y10 hr1 (by omega) hy10) (cwV 1 htA (gV aw_75 aw_23 aw_24 aw_6 gz_X3_at) rfl rfl rfl (by decide +kernel) ⟨Nat.le_of_ble_eq_true rfl, Nat.le_of_ble_eq_true rfl⟩) (r_preV hK hW (r1) (by omega) (cE_k hr1.1) rfl [.int ((σ.1 (r0) 10) + u4)]) rfl rfl hl.1 rfl (lv_room (Nat.le_of_ble_eq_true rfl)) dX1_shine_64 ⟨Nat.zero_le _, Nat.zero_le _⟩) hW (fun H locs hW => ?_)
          obtain ⟨hg11, hF⟩ := gd_some hF
          refine r_iast hx hb hK hW (r0 + 1) (by omega) hr0.2.1 hg11 dX1_shine_67 (fun H locs hW => ?_)
          obtain ⟨w12, ew12, hF⟩ := nm_some hF
          rw [← ew12] at hW
          refine lv_iinc (v := (u4 + 1)) (lv' := [(4, .int (u4 + 1)), (0, .ref (ad (r0))), (1, .ref (ad (r1))), (3, .int u3)]) hx hb dX1_shine_68 hl (k := 3) rfl rfl (by decide) rfl (fun ls hl => ?_)
          refine lv_goto (tgt := 36) hx hb dX1_shine_71 (by decide) ?_
          exact hB36 w12 u3 (u4 + 1) _ _ _  hW (lv_sub hl [1, 2, 3, 0] rfl) hF
  have hL36 := hL36 fu
  have hL16 : ∀ (σ : St) (H : Heap) (locs : List Loc) (ls : Array Slot), Wd G g ad n a0 s.heap σ H locs → lv_has ls 5 [(0, .ref (ad (r0))), (1, .ref (ad (r1)))] → F_X1_shine_L16 r0 r1  σ = some x → W p l e (headSpec zs_X1_shine ({ frames := 1, cells := 0, slots := 0, locals := 21 } : Room)).room s m ([.ref (ad (r0)), .ref (ad (r1)), .int x2] : List Value).toArray below meth c H locs 0 0 (MQ below (qV G g ad n a0 x) ([.ref (ad (r0)), .ref (ad (r1)), .int x2] : List Value).toArray s 0 0 (fun q : Nat => a0 ≤ q)) (F0 m 16 ls []) := by
    intro σ H locs ls hW hl hF
    unfold F_X1_shine_L16 at hF
    refine lv_aload_n hx hb dX1_shine_16 rfl (lv_at hl 0 rfl) ?_
    obtain ⟨y13, hy13, hF⟩ := bd_some hF
    refine r_bi (va_runV (As := []) (rest := []) ⟨hx, hb, hml, hown, htA⟩ (m_X1_footprint l G g ad n a0 aM (r0) σ y13 hr0 (by omega) hy13) (cwV 0 htA (gV aw_54 aw_55 aw_56 aw_57 gz_X1_footprint) rfl rfl rfl (by decide +kernel) ⟨Nat.le_of_ble_eq_true rfl, Nat.le_of_ble_eq_true rfl⟩) (r_preV hK hW (r0) (by omega) (cE_k hr0.1) rfl []) rfl rfl hl.1 rfl (lv_room (Nat.le_of_ble_eq_true rfl)) dX1_shine_17 ⟨Nat.zero_le _, Nat.zero_le _⟩) hW (fun H locs hW => ?_)
    refine lv_aload_n hx hb dX1_shine_20 rfl (lv_at hl 1 rfl) ?_
    obtain ⟨y14, hy14, hF⟩ := bd_some hF
    refine r_bi (va_runV (As := []) (rest := [.int y13.2]) ⟨hx, hb, hml, hown, htA⟩ (m_X3_size l G g ad n a0 aM (r1) y13.1 y14 hr1 (by omega) hy14) (cwV 0 htA (gV aw_65 aw_19 aw_20 aw_6 gz_X3_size) rfl rfl rfl (by decide +kernel) ⟨Nat.le_of_ble_eq_true rfl, Nat.le_of_ble_eq_true rfl⟩) (r_preV hK hW (r1) (by omega) (cE_k hr1.1) rfl []) rfl rfl hl.1 rfl (lv_room (Nat.le_of_ble_eq_true rfl)) dX1_shine_21 ⟨Nat.zero_le _, Nat.zero_le _⟩) hW (fun H locs hW => ?_)
    refine lv_aload_n hx hb dX1_shine_24 rfl (lv_at hl 0 rfl) ?_
    refine r_get (C := RX1) (T := TX1) (N := 15) hx hb htA ia_X1 hown hK hW (r0) (by omega) (cE_k hr0.1) rfl 10 (by decide) (htA _ aw_42) rfl dX1_shine_25 ?_
    refine lv_isub hx hb dX1_shine_28 ?_
    refine va_mmin hx hb (hml.trans hl.1.symm) hown (htA _ aw_71) (htA _ aw_72) (htA _ aw_73) (htA _ aw_74) (Nat.le_of_ble_eq_true rfl) (Nat.le_of_ble_eq_true rfl) (Nat.zero_le _) (Nat.zero_le _) dX1_shine_29 ?_
    refine lv_istore_n (lv' := [(3, .int (if (y14.2 - (y14.1.1 (r0) 10)) < y13.2 then (y14.2 - (y14.1.1 (r0) 10)) else y13.2)), (0, .ref (ad (r0))), (1, .ref (ad (r1)))]) hx hb dX1_shine_32 rfl hl (by decide) rfl (fun ls hl => ?_)
    refine lv_iconst (v := 0) hx hb dX1_shine_33 (by decide) ?_
    refine lv_istore (lv' := [(4, .int 0), (3, .int (if (y14.2 - (y14.1.1 (r0) 10)) < y13.2 then (y14.2 - (y14.1.1 (r0) 10)) else y13.2)), (0, .ref (ad (r0))), (1, .ref (ad (r1)))]) hx hb dX1_shine_34 hl (by decide) rfl (fun ls hl => ?_)
    exact hL36 y14.1 (if (y14.2 - (y14.1.1 (r0) 10)) < y13.2 then (y14.2 - (y14.1.1 (r0) 10)) else y13.2) 0 _ _ _  hW (lv_sub hl [2, 3, 1, 0] rfl) hF
  have hl := lv_entry ([.ref (ad (r0)), .ref (ad (r1)), .int x2]) (n := 5) (Nat.le_of_ble_eq_true rfl)
  rw [lg_entry_eq]
  generalize (lg_sl ([.ref (ad (r0)), .ref (ad (r1)), .int x2]) ++ List.replicate (5 - (lg_sl ([.ref (ad (r0)), .ref (ad (r1)), .int x2])).length) Slot.unset).toArray = ls at hl ⊢
  have hl : lv_has ls 5 [(0, .ref (ad (r0))), (1, .ref (ad (r1))), (2, .int x2)] := hl
  unfold F_X1_shine at hF
  refine lv_aload_n hx hb dX1_shine_0 rfl (lv_at hl 0 rfl) ?_
  refine r_get (C := RX1) (T := TX1) (N := 15) hx hb htA ia_X1 hown hK hW (r0) (by omega) (cE_k hr0.1) rfl 10 (by decide) (htA _ aw_42) rfl dX1_shine_1 ?_
  refine lv_aload_n hx hb dX1_shine_4 rfl (lv_at hl 1 rfl) ?_
  obtain ⟨y15, hy15, hF⟩ := bd_some hF
  refine r_bi (va_runV (As := []) (rest := [.int (σ.1 (r0) 10)]) ⟨hx, hb, hml, hown, htA⟩ (m_X3_size l G g ad n a0 aM (r1) σ y15 hr1 (by omega) hy15) (cwV 0 htA (gV aw_65 aw_19 aw_20 aw_6 gz_X3_size) rfl rfl rfl (by decide +kernel) ⟨Nat.le_of_ble_eq_true rfl, Nat.le_of_ble_eq_true rfl⟩) (r_preV hK hW (r1) (by omega) (cE_k hr1.1) rfl []) rfl rfl hl.1 rfl (lv_room (Nat.le_of_ble_eq_true rfl)) dX1_shine_5 ⟨Nat.zero_le _, Nat.zero_le _⟩) hW (fun H locs hW => ?_)
  refine lv_icmp_ge (tgt := 16) hx hb dX1_shine_8 (by decide) (fun hc16 => ?_) (fun hc16 => ?_)
  · replace hF := (if_pos hc16).symm.trans hF
    exact hL16 y15.1 _ _ _  hW (lv_sub hl [0, 1] rfl) hF
  · replace hF := (if_neg hc16).symm.trans hF
    refine lv_aload_n hx hb dX1_shine_11 rfl (lv_at hl 0 rfl) ?_
    refine lv_iload_n hx hb dX1_shine_12 rfl (lv_at hl 2 rfl) ?_
    refine r_putI (C := RX1) (T := TX1) (N := 15) (ty := .int) hx hb htA ia_X1 tyX1 tyX1_ok nmX1 hown hK hW (r0) (by omega) (cE_k hr0.1) rfl 14 (by decide) (cE_k hr0.1) (htA _ aw_46) rfl (by decide +kernel) rfl rfl (Nat.le_of_ble_eq_true rfl) dX1_shine_13 (fun H locs hW => ?_)
    obtain ⟨w17, ew17, hF⟩ := nm_some hF
    rw [← ew17] at hW
    exact hL16 w17 _ _ _  hW (lv_sub hl [0, 1] rfl) hF
def F_X1_isMeantBy (r0 : Nat) (σ : St) (x1 : Int64) : Option (St × Int32) := (F_X6_restOf σ x1).bind (fun y5 => if (lg_cmp y5.2 4294967295) = 0 then (F_X6_makerOf y5.1 x1).bind (fun y7 => if y7.2 = 65535 then some (y7.1, 1) else (F_X6_makerOf y7.1 x1).bind (fun y9 => (F_X6_makerOf y9.1 (y9.1.2 (r0) 0)).bind (fun y10 => if y9.2 = y10.2 then some (y10.1, 1) else some (y10.1, 0)))) else if (lg_cmp x1 (y5.1.2 (r0) 0)) = 0 then some (y5.1, 1) else some (y5.1, 0))
set_option maxHeartbeats 4000000 in
set_option maxRecDepth 100000 in
theorem m_X1_isMeantBy (l : Launch) (G : va_G) (g : Nat → ClassId) (ad : Nat → Nat) (n a0 aM : Nat) (r0 : Nat) (σ : St) (x1 : Int64) (x : St × Int32) (hr0 : isLp r0) (tr0 : r0 + 11 < tp n) (hF : F_X1_isMeantBy r0 σ x1 = some x) : Met l yX1_isMeantBy zs_X1_isMeantBy ({ frames := 1, cells := 0, slots := 0, locals := 21 } : Room) (va_Pc [.ref (ad (r0)), .long x1] (wP G g ad n a0 aM σ)) (qI G g ad n a0 x) 0 0 (fun q : Nat => a0 ≤ q) := by
  refine Met.ofW (cc := cX1_isMeantBy) (maxL := 3) (ret := (some .boolean)) (by decide) rfl ?_
  intro p e s m args below meth c s₁ B hml hv
  obtain ⟨rfl, hP, hD, hK⟩ := hv
  have hx := B.exec
  have hb := B.bytes
  have hr := B.returns
  have htA : ∀ w ∈ AL, w.before _ s = true := fun w h9 => atoms_spec (ws := zs_X1_isMeantBy) B.pre w (List.mem_cons_of_mem _ h9)
  have hown : s.vm.findClass RX1 = some m.cls := findClass_of_methodNamed B.named
  have hlocks := B.notSynchronized
  have hW : Wd G g ad n a0 s.heap σ s.heap [] := ⟨hP, hD, va_S.rf⟩
  clear hP hD
  have hl := lv_entry ([.ref (ad (r0)), .long x1]) (n := 3) (Nat.le_of_ble_eq_true rfl)
  rw [lg_entry_eq]
  generalize (lg_sl ([.ref (ad (r0)), .long x1]) ++ List.replicate (3 - (lg_sl ([.ref (ad (r0)), .long x1])).length) Slot.unset).toArray = ls at hl ⊢
  have hl : lv_has ls 3 [(0, .ref (ad (r0))), (1, .long x1)] := hl
  unfold F_X1_isMeantBy at hF
  refine lv_lload_n hx hb dX1_isMeantBy_0 rfl (lv_at hl 1 rfl) ?_
  obtain ⟨y5, hy5, hF⟩ := bd_some hF
  refine r_bl (va_runSN (As := [.long x1]) (rest := []) ⟨hx, hb, hml, hown, htA⟩ (m_X6_restOf l G g ad n a0 aM σ x1 y5  hy5) ⟨va_cnB (host := "LampLine") 1 htA gz_X6_restOf rfl rfl rfl (hK.2.2.2.1 _ (by decide +kernel)) (htA _ aw_52) (by decide +kernel) ⟨Nat.le_of_ble_eq_true rfl, Nat.le_of_ble_eq_true rfl⟩, htA _ aw_79, trivial⟩ (r_pre hK hW [.long x1]) rfl rfl hl.1 rfl (lv_room (Nat.le_of_ble_eq_true rfl)) dX1_isMeantBy_1 ⟨Nat.zero_le _, Nat.zero_le _⟩) hW (fun H locs hW => ?_)
  refine lv_ldc2 (v := 4294967295) hx hb hown (htA _ aw_77) dX1_isMeantBy_4 ?_
  refine W.lcmp hx hb dX1_isMeantBy_7 ?_
  refine lv_if_eq (tgt := 26) hx hb dX1_isMeantBy_8 (by decide) (fun hc6 => ?_) (fun hc6 => ?_)
  · replace hF := (if_pos hc6).symm.trans hF
    refine lv_lload_n hx hb dX1_isMeantBy_26 rfl (lv_at hl 1 rfl) ?_
    obtain ⟨y7, hy7, hF⟩ := bd_some hF
    refine r_bi (va_runSN (As := [.long x1]) (rest := []) ⟨hx, hb, hml, hown, htA⟩ (m_X6_makerOf l G g ad n a0 aM y5.1 x1 y7  hy7) ⟨va_cnB (host := "LampLine") 1 htA gz_X6_makerOf rfl rfl rfl (hK.2.2.2.1 _ (by decide +kernel)) (htA _ aw_52) (by decide +kernel) ⟨Nat.le_of_ble_eq_true rfl, Nat.le_of_ble_eq_true rfl⟩, htA _ aw_51, trivial⟩ (r_pre hK hW [.long x1]) rfl rfl hl.1 rfl (lv_room (Nat.le_of_ble_eq_true rfl)) dX1_isMeantBy_27 ⟨Nat.zero_le _, Nat.zero_le _⟩) hW (fun H locs hW => ?_)
    refine lv_ldc (v := 65535) hx hb hown (htA _ aw_78) dX1_isMeantBy_30 ?_
    refine lv_icmp_eq (tgt := 49) hx hb dX1_isMeantBy_32 (by decide) (fun hc8 => ?_) (fun hc8 => ?_)
    · replace hF := (if_pos hc8).symm.trans hF
      refine lv_iconst (v := 1) hx hb dX1_isMeantBy_49 (by decide) ?_
      refine lv_goto (tgt := 54) hx hb dX1_isMeantBy_50 (by decide) ?_
      exact r_zret hx hb hr hlocks hW rfl hF dX1_isMeantBy_54
    · replace hF := (if_neg hc8).symm.trans hF
      refine lv_lload_n hx hb dX1_isMeantBy_35 rfl (lv_at hl 1 rfl) ?_
      obtain ⟨y9, hy9, hF⟩ := bd_some hF
      refine r_bi (va_runSN (As := [.long x1]) (rest := []) ⟨hx, hb, hml, hown, htA⟩ (m_X6_makerOf l G g ad n a0 aM y7.1 x1 y9  hy9) ⟨va_cnB (host := "LampLine") 1 htA gz_X6_makerOf rfl rfl rfl (hK.2.2.2.1 _ (by decide +kernel)) (htA _ aw_52) (by decide +kernel) ⟨Nat.le_of_ble_eq_true rfl, Nat.le_of_ble_eq_true rfl⟩, htA _ aw_51, trivial⟩ (r_pre hK hW [.long x1]) rfl rfl hl.1 rfl (lv_room (Nat.le_of_ble_eq_true rfl)) dX1_isMeantBy_36 ⟨Nat.zero_le _, Nat.zero_le _⟩) hW (fun H locs hW => ?_)
      refine lv_aload_n hx hb dX1_isMeantBy_39 rfl (lv_at hl 0 rfl) ?_
      refine r_get (C := RX1) (T := TX1) (N := 15) hx hb htA ia_X1 hown hK hW (r0) (by omega) (cE_k hr0.1) rfl 0 (by decide) (htA _ aw_39) rfl dX1_isMeantBy_40 ?_
      obtain ⟨y10, hy10, hF⟩ := bd_some hF
      refine r_bi (va_runSN (As := [.long (y9.1.2 (r0) 0)]) (rest := [.int y9.2]) ⟨hx, hb, hml, hown, htA⟩ (m_X6_makerOf l G g ad n a0 aM y9.1 (y9.1.2 (r0) 0) y10  hy10) ⟨va_cnB (host := "LampLine") 1 htA gz_X6_makerOf rfl rfl rfl (hK.2.2.2.1 _ (by decide +kernel)) (htA _ aw_52) (by decide +kernel) ⟨Nat.le_of_ble_eq_true rfl, Nat.le_of_ble_eq_true rfl⟩, htA _ aw_51, trivial⟩ (r_pre hK hW [.long (y9.1.2 (r0) 0)]) rfl rfl hl.1 rfl (lv_room (Nat.le_of_ble_eq_true rfl)) dX1_isMeantBy_43 ⟨Nat.zero_le _, Nat.zero_le _⟩) hW (fun H locs hW => ?_)
      refine lv_icmp_ne (tgt := 53) hx hb dX1_isMeantBy_46 (by decide) (fun hc11 => ?_) (fun hc11 => ?_)
      · replace hF := (if_neg hc11).symm.trans hF
        refine lv_iconst (v := 0) hx hb dX1_isMeantBy_53 (by decide) ?_
        exact r_zret hx hb hr hlocks hW rfl hF dX1_isMeantBy_54
      · replace hF := (if_pos hc11).symm.trans hF
        refine lv_iconst (v := 1) hx hb dX1_isMeantBy_49 (by decide) ?_
        refine lv_goto (tgt := 54) hx hb dX1_isMeantBy_50 (by decide) ?_
        exact r_zret hx hb hr hlocks hW rfl hF dX1_isMeantBy_54
  · replace hF := (if_neg hc6).symm.trans hF
    refine lv_lload_n hx hb dX1_isMeantBy_11 rfl (lv_at hl 1 rfl) ?_
    refine lv_aload_n hx hb dX1_isMeantBy_12 rfl (lv_at hl 0 rfl) ?_
    refine r_get (C := RX1) (T := TX1) (N := 15) hx hb htA ia_X1 hown hK hW (r0) (by omega) (cE_k hr0.1) rfl 0 (by decide) (htA _ aw_39) rfl dX1_isMeantBy_13 ?_
    refine W.lcmp hx hb dX1_isMeantBy_16 ?_
    refine lv_if_ne (tgt := 24) hx hb dX1_isMeantBy_17 (by decide) (fun hc12 => ?_) (fun hc12 => ?_)
    · replace hF := (if_neg hc12).symm.trans hF
      refine lv_iconst (v := 0) hx hb dX1_isMeantBy_24 (by decide) ?_
      exact r_zret hx hb hr hlocks hW rfl hF dX1_isMeantBy_25
    · replace hF := (if_pos hc12).symm.trans hF
      refine lv_iconst (v := 1) hx hb dX1_isMeantBy_20 (by decide) ?_
      refine lv_goto (tgt := 25) hx hb dX1_isMeantBy_21 (by decide) ?_
      exact r_zret hx hb hr hlocks hW rfl hF dX1_isMeantBy_25
def F_X1_isKnown_L27 (σ : St) : Option (St × Int32) := some (σ, 0)
def F_X1_isKnown_L19 (σ : St) : Option (St × Int32) := some (σ, 1)
def F_X1_isKnown_L2 (K19 : St → Option (St × Int32)) (K27 : St → Option (St × Int32)) : Nat → St → Int32 → Int32 → Option (St × Int32)
  | 0, _, _, _ => none
  | fz + 1, σ, u0, u1 => if (Int32.ofNat 8) ≤ u1 then K27 σ else gd (ib u1 8) (if (mtT.getD (Int32.toNatClampNeg u1) 0) = u0 then K19 σ else (F_X1_isKnown_L2 K19 K27 fz) σ u0 (u1 + 1))
def F_X1_isKnown (σ : St) (x0 : Int32) : Option (St × Int32) := F_X1_isKnown_L2 F_X1_isKnown_L19 F_X1_isKnown_L27 fu σ x0 0
set_option maxHeartbeats 4000000 in
set_option maxRecDepth 100000 in
theorem m_X1_isKnown (l : Launch) (G : va_G) (g : Nat → ClassId) (ad : Nat → Nat) (n a0 aM : Nat) (σ : St) (x0 : Int32) (x : St × Int32) (hF : F_X1_isKnown σ x0 = some x) : Met l yX1_isKnown zs_X1_isKnown ({ frames := 0, cells := 0, slots := 0, locals := 0 } : Room) (va_Pc [.int x0] (wP G g ad n a0 aM σ)) (qI G g ad n a0 x) 0 0 (fun q : Nat => a0 ≤ q) := by
  refine Met.ofW (cc := cX1_isKnown) (maxL := 2) (ret := (some .boolean)) (by decide) rfl ?_
  intro p e s m args below meth c s₁ B hml hv
  obtain ⟨rfl, hP, hD, hK⟩ := hv
  have hx := B.exec
  have hb := B.bytes
  have hr := B.returns
  have htA : ∀ w ∈ AL, w.before _ s = true := fun w h9 => atoms_spec (ws := zs_X1_isKnown) B.pre w (List.mem_cons_of_mem _ h9)
  have hown : s.vm.findClass RX1 = some m.cls := findClass_of_methodNamed B.named
  have hlocks := B.notSynchronized
  have hW : Wd G g ad n a0 s.heap σ s.heap [] := ⟨hP, hD, va_S.rf⟩
  clear hP hD
  have hL27 : ∀ (σ : St) (H : Heap) (locs : List Loc) (ls : Array Slot), Wd G g ad n a0 s.heap σ H locs → lv_has ls 2 [] → F_X1_isKnown_L27  σ = some x → W p l e (headSpec zs_X1_isKnown ({ frames := 0, cells := 0, slots := 0, locals := 0 } : Room)).room s m ([.int x0] : List Value).toArray below meth c H locs 0 0 (MQ below (qI G g ad n a0 x) ([.int x0] : List Value).toArray s 0 0 (fun q : Nat => a0 ≤ q)) (F0 m 27 ls []) := by
    intro σ H locs ls hW hl hF
    unfold F_X1_isKnown_L27 at hF
    refine lv_iconst (v := 0) hx hb dX1_isKnown_27 (by decide) ?_
    exact r_zret hx hb hr hlocks hW rfl hF dX1_isKnown_28
  have hL19 : ∀ (σ : St) (H : Heap) (locs : List Loc) (ls : Array Slot), Wd G g ad n a0 s.heap σ H locs → lv_has ls 2 [] → F_X1_isKnown_L19  σ = some x → W p l e (headSpec zs_X1_isKnown ({ frames := 0, cells := 0, slots := 0, locals := 0 } : Room)).room s m ([.int x0] : List Value).toArray below meth c H locs 0 0 (MQ below (qI G g ad n a0 x) ([.int x0] : List Value).toArray s 0 0 (fun q : Nat => a0 ≤ q)) (F0 m 19 ls []) := by
    intro σ H locs ls hW hl hF
    unfold F_X1_isKnown_L19 at hF
    refine lv_iconst (v := 1) hx hb dX1_isKnown_19 (by decide) ?_
    exact r_zret hx hb hr hlocks hW rfl hF dX1_isKnown_20
  have hL2 : ∀ (fz2 : Nat) (σ : St) (u0 : Int32) (u1 : Int32) (H : Heap) (locs : List Loc) (ls : Array Slot), Wd G g ad n a0 s.heap σ H locs → lv_has ls 2 [(0, .int u0), (1, .int u1)] → F_X1_isKnown_L2 (F_X1_isKnown_L19) (F_X1_isKnown_L27) fz2 σ u0 u1 = some x → W p l e (headSpec zs_X1_isKnown ({ frames := 0, cells := 0, slots := 0, locals := 0 } : Room)).room s m ([.int x0] : List Value).toArray below meth c H locs 0 0 (MQ below (qI G g ad n a0 x) ([.int x0] : List Value).toArray s 0 0 (fun q : Nat => a0 ≤ q)) (F0 m 2 ls []) := by
    intro fz2
    induction fz2 with
    | zero =>
      intro σ u0 u1 H locs ls hW hl hF
      exact absurd hF (by simp [F_X1_isKnown_L2])
    | succ fz2 ih =>
      have hB2 := ih
      intro σ u0 u1 H locs ls hW hl hF
      unfold F_X1_isKnown_L2 at hF
      refine lv_iload_n hx hb dX1_isKnown_2 rfl (lv_at hl 1 rfl) ?_
      refine va_gets hx hb hK.2.1 hW.2.2 hown (htA _ aw_123) (fun _ h => h) dX1_isKnown_3 ?_
      refine va_tlen hx hb hK.2.2.1 hW.2.2 rfl dX1_isKnown_6 ?_
      refine lv_icmp_ge (tgt := 27) hx hb dX1_isKnown_7 (by decide) (fun hc2 => ?_) (fun hc2 => ?_)
      · replace hF := (if_pos hc2).symm.trans hF
        exact hL27 σ _ _ _  hW (lv_sub hl [] rfl) hF
      · replace hF := (if_neg hc2).symm.trans hF
        refine va_gets hx hb hK.2.1 hW.2.2 hown (htA _ aw_123) (fun _ h => h) dX1_isKnown_10 ?_
        refine lv_iload_n hx hb dX1_isKnown_13 rfl (lv_at hl 1 rfl) ?_
        obtain ⟨hg3, hF⟩ := gd_some hF
        refine va_ti hx hb hK.2.2.1 hW.2.2 (ib_in hg3) rfl dX1_isKnown_14 ?_
        refine lv_iload_n hx hb dX1_isKnown_15 rfl (lv_at hl 0 rfl) ?_
        refine lv_icmp_ne (tgt := 21) hx hb dX1_isKnown_16 (by decide) (fun hc4 => ?_) (fun hc4 => ?_)
        · replace hF := (if_neg hc4).symm.trans hF
          refine lv_iinc (v := (u1 + 1)) (lv' := [(1, .int (u1 + 1)), (0, .int u0)]) hx hb dX1_isKnown_21 hl (k := 1) rfl rfl (by decide) rfl (fun ls hl => ?_)
          refine lv_goto (tgt := 2) hx hb dX1_isKnown_24 (by decide) ?_
          exact hB2 σ u0 (u1 + 1) _ _ _  hW (lv_sub hl [1, 0] rfl) hF
        · replace hF := (if_pos hc4).symm.trans hF
          exact hL19 σ _ _ _  hW (lv_sub hl [] rfl) hF
  have hL2 := hL2 fu
  have hl := lv_entry ([.int x0]) (n := 2) (Nat.le_of_ble_eq_true rfl)
  rw [lg_entry_eq]
  generalize (lg_sl ([.int x0]) ++ List.replicate (2 - (lg_sl ([.int x0])).length) Slot.unset).toArray = ls at hl ⊢
  have hl : lv_has ls 2 [(0, .int x0)] := hl
  unfold F_X1_isKnown at hF
  refine lv_iconst (v := 0) hx hb dX1_isKnown_0 (by decide) ?_
  refine lv_istore_n (lv' := [(1, .int 0), (0, .int x0)]) hx hb dX1_isKnown_1 rfl hl (by decide) rfl (fun ls hl => ?_)
  exact hL2 σ x0 0 _ _ _  hW (lv_sub hl [1, 0] rfl) hF
def F_X1_formRefusal_L42 (σ : St) (z0 : Int32) (z1 : Int32) : Option (St × Int32) := if z1 = z0 then some (σ, (-1)) else some (σ, 1)
def F_X1_formRefusal_L17 (σ : St) (u1 : Int32) (u2 : Int32) (u3 : Int32) : Option (St × Int32) := (F_X1_isKnown σ u1).bind (fun y3 => if y3.2 = 0 then some (y3.1, 0) else if u2 = 0 then if u1 = 32 then F_X1_formRefusal_L42 y3.1 1 u3 else F_X1_formRefusal_L42 y3.1 0 u3 else if u1 = 130 then if 32 < u3 then some (y3.1, 1) else some (y3.1, (-1)) else if u1 = 224 then if u3 = 1 then some (y3.1, (-1)) else some (y3.1, 1) else if u1 = 240 then if u3 = 2 then some (y3.1, (-1)) else some (y3.1, 1) else if u1 = 4096 then if u3 = 1 then some (y3.1, (-1)) else some (y3.1, 1) else some (y3.1, 5))
def F_X1_formRefusal (σ : St) (x0 : Int32) (x1 : Int32) (x2 : Int32) (x3 : Int32) : Option (St × Int32) := if x0 = 0 then F_X1_formRefusal_L17 σ x1 x2 x3 else if x2 = 0 then some (σ, 9) else if x0 = 65535 then F_X1_formRefusal_L17 σ x1 x2 x3 else some (σ, 9)
set_option maxHeartbeats 4000000 in
set_option maxRecDepth 100000 in
theorem m_X1_formRefusal (l : Launch) (G : va_G) (g : Nat → ClassId) (ad : Nat → Nat) (n a0 aM : Nat) (σ : St) (x0 : Int32) (x1 : Int32) (x2 : Int32) (x3 : Int32) (x : St × Int32) (hF : F_X1_formRefusal σ x0 x1 x2 x3 = some x) : Met l yX1_formRefusal zs_X1_formRefusal ({ frames := 1, cells := 0, slots := 0, locals := 21 } : Room) (va_Pc [.int x0, .int x1, .int x2, .int x3] (wP G g ad n a0 aM σ)) (qI G g ad n a0 x) 0 0 (fun q : Nat => a0 ≤ q) := by
  refine Met.ofW (cc := cX1_formRefusal) (maxL := 4) (ret := (some .int)) (by decide) rfl ?_
  intro p e s m args below meth c s₁ B hml hv
  obtain ⟨rfl, hP, hD, hK⟩ := hv
  have hx := B.exec
  have hb := B.bytes
  have hr := B.returns
  have htA : ∀ w ∈ AL, w.before _ s = true := fun w h9 => atoms_spec (ws := zs_X1_formRefusal) B.pre w (List.mem_cons_of_mem _ h9)
  have hown : s.vm.findClass RX1 = some m.cls := findClass_of_methodNamed B.named
  have hlocks := B.notSynchronized
  have hW : Wd G g ad n a0 s.heap σ s.heap [] := ⟨hP, hD, va_S.rf⟩
  clear hP hD
  have hL42 : ∀ (σ : St) (z0 : Int32) (z1 : Int32) (H : Heap) (locs : List Loc) (ls : Array Slot), Wd G g ad n a0 s.heap σ H locs → lv_has ls 4 [] → F_X1_formRefusal_L42  σ z0 z1 = some x → W p l e (headSpec zs_X1_formRefusal ({ frames := 1, cells := 0, slots := 0, locals := 21 } : Room)).room s m ([.int x0, .int x1, .int x2, .int x3] : List Value).toArray below meth c H locs 0 0 (MQ below (qI G g ad n a0 x) ([.int x0, .int x1, .int x2, .int x3] : List Value).toArray s 0 0 (fun q : Nat => a0 ≤ q)) (F0 m 42 ls [.int z0, .int z1]) := by
    intro σ z0 z1 H locs ls hW hl hF
    unfold F_X1_formRefusal_L42 at hF
    refine lv_icmp_ne (tgt := 49) hx hb dX1_formRefusal_42 (by decide) (fun hc2 => ?_) (fun hc2 => ?_)
    · replace hF := (if_neg hc2).symm.trans hF
      refine lv_iconst (v := 1) hx hb dX1_formRefusal_49 (by decide) ?_
      exact r_iret hx hb hr hlocks hW hF dX1_formRefusal_50
    · replace hF := (if_pos hc2).symm.trans hF
      refine lv_iconst (v := (-1)) hx hb dX1_formRefusal_45 (by decide) ?_
      refine lv_goto (tgt := 50) hx hb dX1_formRefusal_46 (by decide) ?_
      exact r_iret hx hb hr hlocks hW hF dX1_formRefusal_50
  have hL17 : ∀ (σ : St) (u1 : Int32) (u2 : Int32) (u3 : Int32) (H : Heap) (locs : List Loc) (ls : Array Slot), Wd G g ad n a0 s.heap σ H locs → lv_has ls 4 [(1, .int u1), (2, .int u2), (3, .int u3)] → F_X1_formRefusal_L17  σ u1 u2 u3 = some x → W p l e (headSpec zs_X1_formRefusal ({ frames := 1, cells := 0, slots := 0, locals := 21 } : Room)).room s m ([.int x0, .int x1, .int x2, .int x3] : List Value).toArray below meth c H locs 0 0 (MQ below (qI G g ad n a0 x) ([.int x0, .int x1, .int x2, .int x3] : List Value).toArray s 0 0 (fun q : Nat => a0 ≤ q)) (F0 m 17 ls []) := by
    intro σ u1 u2 u3 H locs ls hW hl hF
    unfold F_X1_formRefusal_L17 at hF
    refine lv_iload_n hx hb dX1_formRefusal_17 rfl (lv_at hl 0 rfl) ?_
    obtain ⟨y3, hy3, hF⟩ := bd_some hF
    refine r_bi (va_runS (As := [.int u1]) (rest := []) ⟨hx, hb, hml, hown, htA⟩ (m_X1_isKnown l G g ad n a0 aM σ u1 y3  hy3) (va_cwS 1 htA (gS aw_124 aw_125 aw_57 gz_X1_isKnown) rfl rfl rfl (by decide +kernel) ⟨Nat.le_of_ble_eq_true rfl, Nat.le_of_ble_eq_true rfl⟩) (r_pre hK hW [.int u1]) rfl rfl hl.1 rfl (lv_room (Nat.le_of_ble_eq_true rfl)) dX1_formRefusal_18 ⟨Nat.zero_le _, Nat.zero_le _⟩) hW (fun H locs hW => ?_)
    refine lv_if_ne (tgt := 26) hx hb dX1_formRefusal_21 (by decide) (fun hc4 => ?_) (fun hc4 => ?_)
    · replace hF := (if_neg hc4).symm.trans hF
      refine lv_iload_n hx hb dX1_formRefusal_26 rfl (lv_at hl 1 rfl) ?_
      refine lv_if_ne (tgt := 51) hx hb dX1_formRefusal_27 (by decide) (fun hc5 => ?_) (fun hc5 => ?_)
      · replace hF := (if_neg hc5).symm.trans hF
        refine lv_iload_n hx hb dX1_formRefusal_51 rfl (lv_at hl 0 rfl) ?_
        by_cases hs52_0 : u1 = 130
        · replace hF := (if_pos hs52_0).symm.trans hF
          refine lv_lookup (off := 44) (tgt := 96) hx hb dX1_formRefusal_52 (by decide) (by rw [hs52_0]; decide) (by decide) ?_
          refine lv_iload_n hx hb dX1_formRefusal_96 rfl (lv_at hl 2 rfl) ?_
          refine lv_bipush (v := 32) hx hb dX1_formRefusal_97 (by decide) ?_
          refine lv_icmp_gt (tgt := 106) hx hb dX1_formRefusal_99 (by decide) (fun hc6 => ?_) (fun hc6 => ?_)
          · replace hF := (if_pos hc6).symm.trans hF
            refine lv_iconst (v := 1) hx hb dX1_formRefusal_106 (by decide) ?_
            exact r_iret hx hb hr hlocks hW hF dX1_formRefusal_107
          · replace hF := (if_neg hc6).symm.trans hF
            refine lv_iconst (v := (-1)) hx hb dX1_formRefusal_102 (by decide) ?_
            refine lv_goto (tgt := 107) hx hb dX1_formRefusal_103 (by decide) ?_
            exact r_iret hx hb hr hlocks hW hF dX1_formRefusal_107
        · replace hF := (if_neg hs52_0).symm.trans hF
          by_cases hs52_1 : u1 = 224
          · replace hF := (if_pos hs52_1).symm.trans hF
            refine lv_lookup (off := 56) (tgt := 108) hx hb dX1_formRefusal_52 (by decide) (by rw [hs52_1]; decide) (by decide) ?_
            refine lv_iload_n hx hb dX1_formRefusal_108 rfl (lv_at hl 2 rfl) ?_
            refine lv_iconst (v := 1) hx hb dX1_formRefusal_109 (by decide) ?_
            refine lv_icmp_ne (tgt := 117) hx hb dX1_formRefusal_110 (by decide) (fun hc7 => ?_) (fun hc7 => ?_)
            · replace hF := (if_neg hc7).symm.trans hF
              refine lv_iconst (v := 1) hx hb dX1_formRefusal_117 (by decide) ?_
              exact r_iret hx hb hr hlocks hW hF dX1_formRefusal_118
            · replace hF := (if_pos hc7).symm.trans hF
              refine lv_iconst (v := (-1)) hx hb dX1_formRefusal_113 (by decide) ?_
              refine lv_goto (tgt := 118) hx hb dX1_formRefusal_114 (by decide) ?_
              exact r_iret hx hb hr hlocks hW hF dX1_formRefusal_118
          · replace hF := (if_neg hs52_1).symm.trans hF
            by_cases hs52_2 : u1 = 240
            · replace hF := (if_pos hs52_2).symm.trans hF
              refine lv_lookup (off := 67) (tgt := 119) hx hb dX1_formRefusal_52 (by decide) (by rw [hs52_2]; decide) (by decide) ?_
              refine lv_iload_n hx hb dX1_formRefusal_119 rfl (lv_at hl 2 rfl) ?_
              refine lv_iconst (v := 2) hx hb dX1_formRefusal_120 (by decide) ?_
              refine lv_icmp_ne (tgt := 128) hx hb dX1_formRefusal_121 (by decide) (fun hc8 => ?_) (fun hc8 => ?_)
              · replace hF := (if_neg hc8).symm.trans hF
                refine lv_iconst (v := 1) hx hb dX1_formRefusal_128 (by decide) ?_
                exact r_iret hx hb hr hlocks hW hF dX1_formRefusal_129
              · replace hF := (if_pos hc8).symm.trans hF
                refine lv_iconst (v := (-1)) hx hb dX1_formRefusal_124 (by decide) ?_
                refine lv_goto (tgt := 129) hx hb dX1_formRefusal_125 (by decide) ?_
                exact r_iret hx hb hr hlocks hW hF dX1_formRefusal_129
            · replace hF := (if_neg hs52_2).symm.trans hF
              by_cases hs52_3 : u1 = 4096
              · replace hF := (if_pos hs52_3).symm.trans hF
                refine lv_lookup (off := 78) (tgt := 130) hx hb dX1_formRefusal_52 (by decide) (by rw [hs52_3]; decide) (by decide) ?_
                refine lv_iload_n hx hb dX1_formRefusal_130 rfl (lv_at hl 2 rfl) ?_
                refine lv_iconst (v := 1) hx hb dX1_formRefusal_131 (by decide) ?_
                refine lv_icmp_ne (tgt := 139) hx hb dX1_formRefusal_132 (by decide) (fun hc9 => ?_) (fun hc9 => ?_)
                · replace hF := (if_neg hc9).symm.trans hF
                  refine lv_iconst (v := 1) hx hb dX1_formRefusal_139 (by decide) ?_
                  exact r_iret hx hb hr hlocks hW hF dX1_formRefusal_140
                · replace hF := (if_pos hc9).symm.trans hF
                  refine lv_iconst (v := (-1)) hx hb dX1_formRefusal_135 (by decide) ?_
                  refine lv_goto (tgt := 140) hx hb dX1_formRefusal_136 (by decide) ?_
                  exact r_iret hx hb hr hlocks hW hF dX1_formRefusal_140
              · replace hF := (if_neg hs52_3).symm.trans hF
                have ehs52_0 : (u1).toInt ≠ 130 := fun e9 => hs52_0 (Int32.toInt_inj.mp (e9.trans (by decide)))
                have ehs52_1 : (u1).toInt ≠ 224 := fun e9 => hs52_1 (Int32.toInt_inj.mp (e9.trans (by decide)))
                have ehs52_2 : (u1).toInt ≠ 240 := fun e9 => hs52_2 (Int32.toInt_inj.mp (e9.trans (by decide)))
                have ehs52_3 : (u1).toInt ≠ 4096 := fun e9 => hs52_3 (Int32.toInt_inj.mp (e9.trans (by decide)))
                refine lv_lookup (off := 89) (tgt := 141) hx hb dX1_formRefusal_52 (by decide) (by simp [Op.lookupswitch.offset, ehs52_0, ehs52_0.symm, ehs52_1, ehs52_1.symm, ehs52_2, ehs52_2.symm, ehs52_3, ehs52_3.symm]) (by decide) ?_
                refine lv_iconst (v := 5) hx hb dX1_formRefusal_141 (by decide) ?_
                exact r_iret hx hb hr hlocks hW hF dX1_formRefusal_142
      · replace hF := (if_pos hc5).symm.trans hF
        refine lv_iload_n hx hb dX1_formRefusal_30 rfl (lv_at hl 2 rfl) ?_
        refine lv_iload_n hx hb dX1_formRefusal_31 rfl (lv_at hl 0 rfl) ?_
        refine lv_bipush (v := 32) hx hb dX1_formRefusal_32 (by decide) ?_
        refine lv_icmp_ne (tgt := 41) hx hb dX1_formRefusal_34 (by decide) (fun hc10 => ?_) (fun hc10 => ?_)
        · replace hF := (if_neg hc10).symm.trans hF
          refine lv_iconst (v := 0) hx hb dX1_formRefusal_41 (by decide) ?_
          exact hL42 y3.1 0 u3 _ _ _  hW (lv_sub hl [] rfl) hF
        · replace hF := (if_pos hc10).symm.trans hF
          refine lv_iconst (v := 1) hx hb dX1_formRefusal_37 (by decide) ?_
          refine lv_goto (tgt := 42) hx hb dX1_formRefusal_38 (by decide) ?_
          exact hL42 y3.1 1 u3 _ _ _  hW (lv_sub hl [] rfl) hF
    · replace hF := (if_pos hc4).symm.trans hF
      refine lv_iconst (v := 0) hx hb dX1_formRefusal_24 (by decide) ?_
      exact r_iret hx hb hr hlocks hW hF dX1_formRefusal_25
  have hl := lv_entry ([.int x0, .int x1, .int x2, .int x3]) (n := 4) (Nat.le_of_ble_eq_true rfl)
  rw [lg_entry_eq]
  generalize (lg_sl ([.int x0, .int x1, .int x2, .int x3]) ++ List.replicate (4 - (lg_sl ([.int x0, .int x1, .int x2, .int x3])).length) Slot.unset).toArray = ls at hl ⊢
  have hl : lv_has ls 4 [(0, .int x0), (1, .int x1), (2, .int x2), (3, .int x3)] := hl
  unfold F_X1_formRefusal at hF
  refine lv_iload_n hx hb dX1_formRefusal_0 rfl (lv_at hl 0 rfl) ?_
  refine lv_if_eq (tgt := 17) hx hb dX1_formRefusal_1 (by decide) (fun hc11 => ?_) (fun hc11 => ?_)
  · replace hF := (if_pos hc11).symm.trans hF
    exact hL17 σ x1 x2 x3 _ _ _  hW (lv_sub hl [1, 2, 3] rfl) hF
  · replace hF := (if_neg hc11).symm.trans hF
    refine lv_iload_n hx hb dX1_formRefusal_4 rfl (lv_at hl 2 rfl) ?_
    refine lv_if_eq (tgt := 14) hx hb dX1_formRefusal_5 (by decide) (fun hc12 => ?_) (fun hc12 => ?_)
    · replace hF := (if_pos hc12).symm.trans hF
      refine lv_bipush (v := 9) hx hb dX1_formRefusal_14 (by decide) ?_
      exact r_iret hx hb hr hlocks hW hF dX1_formRefusal_16
    · replace hF := (if_neg hc12).symm.trans hF
      refine lv_iload_n hx hb dX1_formRefusal_8 rfl (lv_at hl 0 rfl) ?_
      refine lv_ldc (v := 65535) hx hb hown (htA _ aw_78) dX1_formRefusal_9 ?_
      refine lv_icmp_eq (tgt := 17) hx hb dX1_formRefusal_11 (by decide) (fun hc13 => ?_) (fun hc13 => ?_)
      · replace hF := (if_pos hc13).symm.trans hF
        exact hL17 σ x1 x2 x3 _ _ _  hW (lv_sub hl [1, 2, 3] rfl) hF
      · replace hF := (if_neg hc13).symm.trans hF
        refine lv_bipush (v := 9) hx hb dX1_formRefusal_14 (by decide) ?_
        exact r_iret hx hb hr hlocks hW hF dX1_formRefusal_16
