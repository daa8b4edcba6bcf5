def F_X6_lamp_L62 (n : Nat) (σ : St) : Option (St × Nat × Int32) := some (σ, 1, 0)
def F_X6_lamp_L26 (n : Nat) (σ : St) : Option (St × Nat × Int32) := some (σ, 1, 0)
def F_X6_lamp (n : Nat) (σ : St) (x1 : Int32) (x2 : Int64) (x4 : Int32) (x5 : Int32) (x6 : Int32) : Option (St × Nat × Int32) := if x1 < 1 then F_X6_lamp_L26 n σ else if 32767 < x1 then F_X6_lamp_L26 n σ else if (lg_cmp x2 0) < 0 then F_X6_lamp_L26 n σ else if (lg_cmp x2 4294967295) < 0 then if x4 < 1 then F_X6_lamp_L62 n σ else if 64 < x4 then F_X6_lamp_L62 n σ else if x5 < 1 then F_X6_lamp_L62 n σ else if x5 ≤ 8 then (F_X6_fits σ x6 x4).bind (fun y12 => if y12.2 = 0 then some (y12.1, 1, 0) else (F_X6_joinedId y12.1 x1 x2).bind (fun y14 => (F_X6_isThere n y14.1 y14.2).bind (fun y15 => if y15.2 = 0 then if (y15.1.1 (0) 10) < 24 then gd (ib (y15.1.1 0 10) 24) (gd (decide ((y15.1.1 0 10).toNatClampNeg = n)) (some (sI (nL y15.1 n y14.2 x4 x5 x6) 0 10 ((nL y15.1 n y14.2 x4 x5 x6).1 0 10 + 1), 0, (sI (nL y15.1 n y14.2 x4 x5 x6) 0 10 ((nL y15.1 n y14.2 x4 x5 x6).1 0 10 + 1)).1 0 10 - 1))) else some (y15.1, 2, 0) else some (y15.1, 1, 0)))) else F_X6_lamp_L62 n σ else F_X6_lamp_L26 n σ
set_option maxHeartbeats 4000000 in
set_option maxRecDepth 100000 in
theorem m_X6_lamp (l : Launch) (hst : l.stackTraces = false) (G : va_G) (g : Nat → ClassId) (ad : Nat → Nat) (n a0 aM : Nat) (σ : St) (x1 : Int32) (x2 : Int64) (x4 : Int32) (x5 : Int32) (x6 : Int32) (x : St × Nat × Int32) (hF : F_X6_lamp n σ x1 x2 x4 x5 x6 = some x) : vx_Met l yX6_lamp zs_X6_lamp ({ frames := 6, cells := 12, slots := 669, locals := 82 } : Room) (va_Pc [.ref (ad (0)), .int x1, .long x2, .int x4, .int x5, .int x6] (wP G g ad n a0 aM σ)) (xQL G g ad n a0 x) (xX G g ad n a0 x.1 x.2.1) 12 669 (fun q : Nat => a0 ≤ q) := by
  refine vx_ofW (cc := cX6_lamp) (maxL := 9) (ret := (some .int)) (by decide) rfl ?_
  intro p e s m args below meth c s₁ B hml hno hv
  obtain ⟨rfl, hP, hD, hK⟩ := hv
  have hx := B.exec
  have hb := B.bytes
  have hr := B.returns
  have htA : ∀ w ∈ AL, w.before _ s = true := fun w h9 => atoms_spec (ws := zs_X6_lamp) B.pre w (List.mem_cons_of_mem _ h9)
  have hown : s.vm.findClass RX6 = some m.cls := findClass_of_methodNamed B.named
  have hlocks := B.notSynchronized
  have hW : Wd G g ad n a0 s.heap σ s.heap [] := ⟨hP, hD, va_S.rf⟩
  clear hP hD
  have hsz := Wd_sz hW
  have hL62 : ∀ (σ : St) (H : Heap) (locs : List Loc) (ls : Array Slot), Wd G g ad n a0 s.heap σ H locs → lv_has ls 9 [] → F_X6_lamp_L62 n  σ = some x → W p l e (headSpec zs_X6_lamp ({ frames := 6, cells := 12, slots := 669, locals := 82 } : Room)).room s m ([.ref (ad (0)), .int x1, .long x2, .int x4, .int x5, .int x6] : List Value).toArray below meth c H locs 0 0 (vx_MQ below (xQL G g ad n a0 x) (xX G g ad n a0 x.1 x.2.1) ([.ref (ad (0)), .int x1, .long x2, .int x4, .int x5, .int x6] : List Value).toArray s 12 669 (fun q : Nat => a0 ≤ q)) (F0 m 62 ls []) := by
    intro σ H locs ls hW hl hF
    unfold F_X6_lamp_L62 at hF
    exact rx_throw (text := "width or modes") hx hb hst hown (by decide +kernel) (htA _ aw_222) (htA _ aw_223) hK (by decide +kernel) (hatA htA hK) hgdA hW hml hl.1 dX6_lamp_62 dX6_lamp_65 dX6_lamp_66 dX6_lamp_68 dX6_lamp_71 hno (Nat.le_of_ble_eq_true rfl) (Nat.le_of_ble_eq_true rfl) (Nat.le_of_ble_eq_true rfl) (Nat.le_of_ble_eq_true rfl) (Nat.le_of_ble_eq_true rfl) (Nat.le_of_ble_eq_true rfl) hlocks (rx_kF ex_A hF)
  have hL26 : ∀ (σ : St) (H : Heap) (locs : List Loc) (ls : Array Slot), Wd G g ad n a0 s.heap σ H locs → lv_has ls 9 [] → F_X6_lamp_L26 n  σ = some x → W p l e (headSpec zs_X6_lamp ({ frames := 6, cells := 12, slots := 669, locals := 82 } : Room)).room s m ([.ref (ad (0)), .int x1, .long x2, .int x4, .int x5, .int x6] : List Value).toArray below meth c H locs 0 0 (vx_MQ below (xQL G g ad n a0 x) (xX G g ad n a0 x.1 x.2.1) ([.ref (ad (0)), .int x1, .long x2, .int x4, .int x5, .int x6] : List Value).toArray s 12 669 (fun q : Nat => a0 ≤ q)) (F0 m 26 ls []) := by
    intro σ H locs ls hW hl hF
    unfold F_X6_lamp_L26 at hF
    exact rx_throw (text := "no ID of a lamp") hx hb hst hown (by decide +kernel) (htA _ aw_222) (htA _ aw_223) hK (by decide +kernel) (hatA htA hK) hgdA hW hml hl.1 dX6_lamp_26 dX6_lamp_29 dX6_lamp_30 dX6_lamp_32 dX6_lamp_35 hno (Nat.le_of_ble_eq_true rfl) (Nat.le_of_ble_eq_true rfl) (Nat.le_of_ble_eq_true rfl) (Nat.le_of_ble_eq_true rfl) (Nat.le_of_ble_eq_true rfl) (Nat.le_of_ble_eq_true rfl) hlocks (rx_kF ex_A hF)
  have hl := lv_entry ([.ref (ad (0)), .int x1, .long x2, .int x4, .int x5, .int x6]) (n := 9) (Nat.le_of_ble_eq_true rfl)
  rw [lg_entry_eq]
  generalize (lg_sl ([.ref (ad (0)), .int x1, .long x2, .int x4, .int x5, .int x6]) ++ List.replicate (9 - (lg_sl ([.ref (ad (0)), .int x1, .long x2, .int x4, .int x5, .int x6])).length) Slot.unset).toArray = ls at hl ⊢
  have hl : lv_has ls 9 [(0, .ref (ad (0))), (1, .int x1), (2, .long x2), (4, .int x4), (5, .int x5), (6, .int x6)] := hl
  unfold F_X6_lamp at hF
  refine lv_iload_n hx hb dX6_lamp_0 rfl (lv_at hl 1 rfl) ?_
  refine lv_iconst (v := 1) hx hb dX6_lamp_1 (by decide) ?_
  refine lv_icmp_lt (tgt := 26) hx hb dX6_lamp_2 (by decide) (fun hc4 => ?_) (fun hc4 => ?_)
  · replace hF := (if_pos hc4).symm.trans hF
    exact hL26 σ _ _ _  hW (lv_sub hl [] rfl) hF
  · replace hF := (if_neg hc4).symm.trans hF
    refine lv_iload_n hx hb dX6_lamp_5 rfl (lv_at hl 1 rfl) ?_
    refine lv_sipush (v := 32767) hx hb dX6_lamp_6 (by decide) ?_
    refine lv_icmp_gt (tgt := 26) hx hb dX6_lamp_9 (by decide) (fun hc5 => ?_) (fun hc5 => ?_)
    · replace hF := (if_pos hc5).symm.trans hF
      exact hL26 σ _ _ _  hW (lv_sub hl [] rfl) hF
    · replace hF := (if_neg hc5).symm.trans hF
      refine lv_lload_n hx hb dX6_lamp_12 rfl (lv_at hl 2 rfl) ?_
      refine lv_lconst (v := 0) hx hb dX6_lamp_13 (by decide) ?_
      refine W.lcmp hx hb dX6_lamp_14 ?_
      refine lv_if_lt (tgt := 26) hx hb dX6_lamp_15 (by decide) (fun hc6 => ?_) (fun hc6 => ?_)
      · replace hF := (if_pos hc6).symm.trans hF
        exact hL26 σ _ _ _  hW (lv_sub hl [] rfl) hF
      · replace hF := (if_neg hc6).symm.trans hF
        refine lv_lload_n hx hb dX6_lamp_18 rfl (lv_at hl 2 rfl) ?_
        refine lv_ldc2 (v := 4294967295) hx hb hown (htA _ aw_76) dX6_lamp_19 ?_
        refine W.lcmp hx hb dX6_lamp_22 ?_
        refine lv_if_lt (tgt := 36) hx hb dX6_lamp_23 (by decide) (fun hc7 => ?_) (fun hc7 => ?_)
        · replace hF := (if_pos hc7).symm.trans hF
          refine lv_iload hx hb dX6_lamp_36 (lv_at hl 3 rfl) ?_
          refine lv_iconst (v := 1) hx hb dX6_lamp_38 (by decide) ?_
          refine lv_icmp_lt (tgt := 62) hx hb dX6_lamp_39 (by decide) (fun hc8 => ?_) (fun hc8 => ?_)
          · replace hF := (if_pos hc8).symm.trans hF
            exact hL62 σ _ _ _  hW (lv_sub hl [] rfl) hF
          · replace hF := (if_neg hc8).symm.trans hF
            refine lv_iload hx hb dX6_lamp_42 (lv_at hl 3 rfl) ?_
            refine lv_bipush (v := 64) hx hb dX6_lamp_44 (by decide) ?_
            refine lv_icmp_gt (tgt := 62) hx hb dX6_lamp_46 (by decide) (fun hc9 => ?_) (fun hc9 => ?_)
            · replace hF := (if_pos hc9).symm.trans hF
              exact hL62 σ _ _ _  hW (lv_sub hl [] rfl) hF
            · replace hF := (if_neg hc9).symm.trans hF
              refine lv_iload hx hb dX6_lamp_49 (lv_at hl 4 rfl) ?_
              refine lv_iconst (v := 1) hx hb dX6_lamp_51 (by decide) ?_
              refine lv_icmp_lt (tgt := 62) hx hb dX6_lamp_52 (by decide) (fun hc10 => ?_) (fun hc10 => ?_)
              · replace hF := (if_pos hc10).symm.trans hF
                exact hL62 σ _ _ _  hW (lv_sub hl [] rfl) hF
              · replace hF := (if_neg hc10).symm.trans hF
                refine lv_iload hx hb dX6_lamp_55 (lv_at hl 4 rfl) ?_
                refine lv_bipush (v := 8) hx hb dX6_lamp_57 (by decide) ?_
                refine lv_icmp_le (tgt := 72) hx hb dX6_lamp_59 (by decide) (fun hc11 => ?_) (fun hc11 => ?_)
                · replace hF := (if_pos hc11).symm.trans hF
                  refine lv_iload hx hb dX6_lamp_72 (lv_at hl 5 rfl) ?_
                  refine lv_iload hx hb dX6_lamp_74 (lv_at hl 3 rfl) ?_
                  obtain ⟨y12, hy12, hF⟩ := bd_some hF
                  refine r_bi (va_runS (As := [.int x6, .int x4]) (rest := []) ⟨hx, hb, hml, hown, htA⟩ (m_X6_fits l G g ad n a0 aM σ x6 x4 y12  hy12) (va_cwS 2 htA (gS aw_227 aw_127 aw_52 gz_X6_fits) rfl rfl rfl (by decide +kernel) ⟨Nat.le_of_ble_eq_true rfl, Nat.le_of_ble_eq_true rfl⟩) (r_pre hK hW [.int x6, .int x4]) rfl rfl hl.1 rfl (lv_room (Nat.le_of_ble_eq_true rfl)) dX6_lamp_76 ⟨Nat.le_of_ble_eq_true rfl, Nat.le_of_ble_eq_true rfl⟩) hW (fun H locs hW => ?_)
                  refine lv_if_ne (tgt := 92) hx hb dX6_lamp_79 (by decide) (fun hc13 => ?_) (fun hc13 => ?_)
                  · replace hF := (if_neg hc13).symm.trans hF
                    refine lv_iload_n hx hb dX6_lamp_92 rfl (lv_at hl 1 rfl) ?_
                    refine lv_lload_n hx hb dX6_lamp_93 rfl (lv_at hl 2 rfl) ?_
                    obtain ⟨y14, hy14, hF⟩ := bd_some hF
                    refine r_bl (va_runS (As := [.int x1, .long x2]) (rest := []) ⟨hx, hb, hml, hown, htA⟩ (m_X6_joinedId l G g ad n a0 aM y12.1 x1 x2 y14  hy14) (va_cwS 2 htA (gS aw_228 aw_229 aw_52 gz_X6_joinedId) rfl rfl rfl (by decide +kernel) ⟨Nat.le_of_ble_eq_true rfl, Nat.le_of_ble_eq_true rfl⟩) (r_pre hK hW [.int x1, .long x2]) rfl rfl hl.1 rfl (lv_room (Nat.le_of_ble_eq_true rfl)) dX6_lamp_94 ⟨Nat.le_of_ble_eq_true rfl, Nat.le_of_ble_eq_true rfl⟩) hW (fun H locs hW => ?_)
                    refine lv_lstore (lv' := [(7, .long y14.2), (0, .ref (ad (0))), (1, .int x1), (2, .long x2), (4, .int x4), (5, .int x5), (6, .int x6)]) hx hb dX6_lamp_97 hl (by decide) rfl (fun ls hl => ?_)
                    refine lv_aload_n hx hb dX6_lamp_99 rfl (lv_at hl 1 rfl) ?_
                    refine lv_lload hx hb dX6_lamp_100 (lv_at hl 0 rfl) ?_
                    obtain ⟨y15, hy15, hF⟩ := bd_some hF
                    refine r_bi (va_runV (As := [.long y14.2]) (rest := []) ⟨hx, hb, hml, hown, htA⟩ (m_X6_isThere l G g ad n a0 aM y14.1 y14.2 y15  hy15) (cwV 1 htA (gV aw_231 aw_232 aw_233 aw_52 gz_X6_isThere) rfl rfl rfl (by decide +kernel) ⟨Nat.le_of_ble_eq_true rfl, Nat.le_of_ble_eq_true rfl⟩) (r_preV hK hW (0) (tp_lt (by decide)) (cE_k (rfl : kd 0 = 1)) rfl [.long y14.2]) rfl rfl hl.1 rfl (lv_room (Nat.le_of_ble_eq_true rfl)) dX6_lamp_102 ⟨Nat.le_of_ble_eq_true rfl, Nat.le_of_ble_eq_true rfl⟩) hW (fun H locs hW => ?_)
                    refine lv_if_eq (tgt := 118) hx hb dX6_lamp_105 (by decide) (fun hc16 => ?_) (fun hc16 => ?_)
                    · replace hF := (if_pos hc16).symm.trans hF
                      refine lv_aload_n hx hb dX6_lamp_118 rfl (lv_at hl 1 rfl) ?_
                      refine r_get (C := RX6) (T := TX6) (N := 13) hx hb htA ia_X6 hown hK hW (0) (tp_lt (by decide)) (cE_k (rfl : kd 0 = 1)) rfl 10 (by decide) (htA _ aw_221) rfl dX6_lamp_119 ?_
                      refine lv_bipush (v := 24) hx hb dX6_lamp_122 (by decide) ?_
                      refine lv_icmp_lt (tgt := 137) hx hb dX6_lamp_124 (by decide) (fun hc17 => ?_) (fun hc17 => ?_)
                      · replace hF := (if_pos hc17).symm.trans hF
                        obtain ⟨hg1, hF⟩ := gd_some hF
                        obtain ⟨hg2, hF⟩ := gd_some hF
                        exact lamp_mk hx hb hr hlocks hml htA hown hK hW hsz (lv_sub hl [1, 4, 5, 6, 0] rfl) hg1 (of_decide_eq_true hg2) (Nat.le_of_ble_eq_true rfl) (Nat.le_of_ble_eq_true rfl) (Nat.le_of_ble_eq_true rfl) (Nat.le_of_ble_eq_true rfl) hF
                      · replace hF := (if_neg hc17).symm.trans hF
                        exact rx_throw (text := "no room for a lamp more") hx hb hst hown (by decide +kernel) (htA _ aw_224) (htA _ aw_225) hK (by decide +kernel) (hatS htA hK) hgdS hW hml hl.1 dX6_lamp_127 dX6_lamp_130 dX6_lamp_131 dX6_lamp_133 dX6_lamp_136 hno (Nat.le_of_ble_eq_true rfl) (Nat.le_of_ble_eq_true rfl) (Nat.le_of_ble_eq_true rfl) (Nat.le_of_ble_eq_true rfl) (Nat.le_of_ble_eq_true rfl) (Nat.le_of_ble_eq_true rfl) hlocks (rx_kF ex_S hF)
                    · replace hF := (if_neg hc16).symm.trans hF
                      exact rx_throw (text := "the ID is there") hx hb hst hown (by decide +kernel) (htA _ aw_222) (htA _ aw_223) hK (by decide +kernel) (hatA htA hK) hgdA hW hml hl.1 dX6_lamp_108 dX6_lamp_111 dX6_lamp_112 dX6_lamp_114 dX6_lamp_117 hno (Nat.le_of_ble_eq_true rfl) (Nat.le_of_ble_eq_true rfl) (Nat.le_of_ble_eq_true rfl) (Nat.le_of_ble_eq_true rfl) (Nat.le_of_ble_eq_true rfl) (Nat.le_of_ble_eq_true rfl) hlocks (rx_kF ex_A hF)
                  · replace hF := (if_pos hc13).symm.trans hF
                    exact rx_throw (text := "address") hx hb hst hown (by decide +kernel) (htA _ aw_222) (htA _ aw_223) hK (by decide +kernel) (hatA htA hK) hgdA hW hml hl.1 dX6_lamp_82 dX6_lamp_85 dX6_lamp_86 dX6_lamp_88 dX6_lamp_91 hno (Nat.le_of_ble_eq_true rfl) (Nat.le_of_ble_eq_true rfl) (Nat.le_of_ble_eq_true rfl) (Nat.le_of_ble_eq_true rfl) (Nat.le_of_ble_eq_true rfl) (Nat.le_of_ble_eq_true rfl) hlocks (rx_kF ex_A hF)
                · replace hF := (if_neg hc11).symm.trans hF
                  exact hL62 σ _ _ _  hW (lv_sub hl [] rfl) hF
        · replace hF := (if_neg hc7).symm.trans hF
          exact hL26 σ _ _ _  hW (lv_sub hl [] rfl) hF
