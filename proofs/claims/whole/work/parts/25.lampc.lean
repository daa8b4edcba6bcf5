def F_X1_speaksToSearch_L117 (r0 : Nat) (r1 : Nat) (r2 : Nat) (r3 : Nat) (σ : St) (z0 : Int32) : Option (St × Int32) := gd (zb z0) (nm (sI σ (r0) 11 z0) (fun w12 => (F_X2_isCall (r1) w12).bind (fun y13 => if y13.2 = 0 then (F_X2_beginReply (r2) (r1) y13.1 (y13.1.2 (r0) 0)).bind (fun y15 => (F_X3_putNumber (r2 + 1) y15 0 2).bind (fun y16 => nm (sI y16 (r2) 4 (y16.1 (r0) 8)) (fun w17 => (F_X2_writeTo (r2) (r3) w17).bind (fun y18 => some (y18, 1))))) else some (y13.1, 0))))
def F_X1_speaksToSearch_L96 (r0 : Nat) (r1 : Nat) (r2 : Nat) (r3 : Nat) (σ : St) (u4 : Int32) : Option (St × Int32) := if u4 = 0 then if (σ.1 (r1) 7) = 2 then F_X1_speaksToSearch_L117 r0 r1 r2 r3 σ 1 else F_X1_speaksToSearch_L117 r0 r1 r2 r3 σ 0 else some (σ, 0)
def F_X1_speaksToSearch_L80 (r0 : Nat) (r1 : Nat) (r2 : Nat) (r3 : Nat) (σ : St) (u4 : Int32) : Option (St × Int32) := if (σ.1 (r1) 7) = 2 then F_X1_speaksToSearch_L96 r0 r1 r2 r3 σ u4 else if (σ.1 (r1) 7) = 3 then F_X1_speaksToSearch_L96 r0 r1 r2 r3 σ u4 else some (σ, 0)
def F_X1_speaksToSearch (r0 : Nat) (r1 : Nat) (r2 : Nat) (r3 : Nat) (σ : St) : Option (St × Int32) := (F_X3_size (r1 + 1) σ).bind (fun y23 => if (y23.1.1 (r1) 7) = 1 then if y23.2 = 12 then if (y23.1.1 (r0) 11) = 0 then (F_X3_number (r1 + 1) y23.1 0 6).bind (fun y27 => if (lg_cmp (y23.1.2 (r0) 0) y27.2) < 0 then some (y27.1, 0) else (F_X3_number (r1 + 1) y27.1 6 6).bind (fun y29 => if (lg_cmp (y27.1.2 (r0) 0) y29.2) ≤ 0 then (F_X0_write (r3) y29.1 (y29.1.2 (r0) 0)).bind (fun y31 => some (y31, 1)) else some (y29.1, 0))) else some (y23.1, 0) else F_X1_speaksToSearch_L80 r0 r1 r2 r3 y23.1 y23.2 else F_X1_speaksToSearch_L80 r0 r1 r2 r3 y23.1 y23.2)
set_option maxHeartbeats 4000000 in
set_option maxRecDepth 100000 in
theorem m_X1_speaksToSearch (l : Launch) (G : va_G) (g : Nat → ClassId) (ad : Nat → Nat) (n a0 aM : Nat) (r0 : Nat) (r1 : Nat) (r2 : Nat) (r3 : Nat) (σ : St) (x : St × Int32) (hr0 : isLp r0) (tr0 : r0 + 11 < tp n) (hr1 : isPk r1) (tr1 : r1 + 2 < tp n) (hr2 : isPk r2) (tr2 : r2 + 2 < tp n) (hr3 : isRow r3) (tr3 : r3 + 1 < tp n) (hF : F_X1_speaksToSearch r0 r1 r2 r3 σ = some x) : Met l yX1_speaksToSearch zs_X1_speaksToSearch ({ frames := 2, cells := 0, slots := 0, locals := 48 } : Room) (va_Pc [.ref (ad (r0)), .ref (ad (r1)), .ref (ad (r2)), .ref (ad (r3))] (wP G g ad n a0 aM σ)) (qI G g ad n a0 x) 0 0 (fun q : Nat => a0 ≤ q) := by
  refine Met.ofW (cc := cX1_speaksToSearch) (maxL := 5) (ret := (some .boolean)) (by decide) rfl ?_
  intro p e s m args below meth c s₁ B hml hv
  obtain ⟨rfl, hP, hD, hK⟩ := hv
  have hx := B.exec
  have hb := B.bytes
  have hr := B.returns
  have htA : ∀ w ∈ AL, w.before _ s = true := fun w h9 => atoms_spec (ws := zs_X1_speaksToSearch) B.pre w (List.mem_cons_of_mem _ h9)
  have hown : s.vm.findClass RX1 = some m.cls := findClass_of_methodNamed B.named
  have hlocks := B.notSynchronized
  have hW : Wd G g ad n a0 s.heap σ s.heap [] := ⟨hP, hD, va_S.rf⟩
  clear hP hD
  have hL117 : ∀ (σ : St) (z0 : Int32) (H : Heap) (locs : List Loc) (ls : Array Slot), Wd G g ad n a0 s.heap σ H locs → lv_has ls 5 [(0, .ref (ad (r0))), (1, .ref (ad (r1))), (2, .ref (ad (r2))), (3, .ref (ad (r3)))] → F_X1_speaksToSearch_L117 r0 r1 r2 r3  σ z0 = some x → W p l e (headSpec zs_X1_speaksToSearch ({ frames := 2, cells := 0, slots := 0, locals := 48 } : Room)).room s m ([.ref (ad (r0)), .ref (ad (r1)), .ref (ad (r2)), .ref (ad (r3))] : List Value).toArray below meth c H locs 0 0 (MQ below (qI G g ad n a0 x) ([.ref (ad (r0)), .ref (ad (r1)), .ref (ad (r2)), .ref (ad (r3))] : List Value).toArray s 0 0 (fun q : Nat => a0 ≤ q)) (F0 m 117 ls [.int z0, .ref (ad (r0))]) := by
    intro σ z0 H locs ls hW hl hF
    unfold F_X1_speaksToSearch_L117 at hF
    obtain ⟨hg11, hF⟩ := gd_some hF
    refine r_putI (C := RX1) (T := TX1) (N := 15) (ty := .boolean) hx hb htA ia_X1 tyX1 tyX1_ok nmX1 hown hK hW (r0) (by omega) (cE_k hr0.1) rfl 11 (by decide) (cE_k hr0.1) (htA _ aw_47) rfl (by decide +kernel) (zb_nar hg11) (zb_fit hg11) (Nat.le_of_ble_eq_true rfl) dX1_speaksToSearch_117 (fun H locs hW => ?_)
    obtain ⟨w12, ew12, hF⟩ := nm_some hF
    rw [← ew12] at hW
    refine lv_aload_n hx hb dX1_speaksToSearch_120 rfl (lv_at hl 1 rfl) ?_
    obtain ⟨y13, hy13, hF⟩ := bd_some hF
    refine r_bi (va_runV (As := []) (rest := []) ⟨hx, hb, hml, hown, htA⟩ (m_X2_isCall l G g ad n a0 aM (r1) w12 y13 hr1 (by omega) hy13) (cwV 0 htA (gV aw_109 aw_110 aw_111 aw_112 gz_X2_isCall) rfl rfl rfl (by decide +kernel) ⟨Nat.le_of_ble_eq_true rfl, Nat.le_of_ble_eq_true rfl⟩) (r_preV hK hW (r1) (by omega) (cE_k hr1.1) rfl []) rfl rfl hl.1 rfl (lv_room (Nat.le_of_ble_eq_true rfl)) dX1_speaksToSearch_121 ⟨Nat.zero_le _, Nat.zero_le _⟩) hW (fun H locs hW => ?_)
    refine lv_if_eq (tgt := 129) hx hb dX1_speaksToSearch_124 (by decide) (fun hc14 => ?_) (fun hc14 => ?_)
    · replace hF := (if_pos hc14).symm.trans hF
      refine lv_aload_n hx hb dX1_speaksToSearch_129 rfl (lv_at hl 2 rfl) ?_
      refine lv_aload_n hx hb dX1_speaksToSearch_130 rfl (lv_at hl 1 rfl) ?_
      refine lv_aload_n hx hb dX1_speaksToSearch_131 rfl (lv_at hl 0 rfl) ?_
      refine r_get (C := RX1) (T := TX1) (N := 15) hx hb htA ia_X1 hown hK hW (r0) (by omega) (cE_k hr0.1) rfl 0 (by decide) (htA _ aw_39) rfl dX1_speaksToSearch_132 ?_
      obtain ⟨y15, hy15, hF⟩ := bd_some hF
      refine r_bv (va_runV (As := [.ref (ad (r1)), .long (y13.1.2 (r0) 0)]) (rest := []) ⟨hx, hb, hml, hown, htA⟩ (m_X2_beginReply l G g ad n a0 aM (r2) (r1) y13.1 (y13.1.2 (r0) 0) y15 hr2 (by omega) hr1 (by omega) hy15) (cwV 2 htA (gV aw_114 aw_115 aw_116 aw_112 gz_X2_beginReply) rfl rfl rfl (by decide +kernel) ⟨Nat.le_of_ble_eq_true rfl, Nat.le_of_ble_eq_true rfl⟩) (r_preV hK hW (r2) (by omega) (cE_k hr2.1) rfl [.ref (ad (r1)), .long (y13.1.2 (r0) 0)]) rfl rfl hl.1 rfl (lv_room (Nat.le_of_ble_eq_true rfl)) dX1_speaksToSearch_135 ⟨Nat.zero_le _, Nat.zero_le _⟩) hW (fun H locs hW => ?_)
      refine lv_aload_n hx hb dX1_speaksToSearch_138 rfl (lv_at hl 2 rfl) ?_
      refine r_getN (C := RX2) (T := TX2) (N := 9) hx hb htA ia_X2 hown hK hW (r2) (by omega) (cE_k hr2.1) rfl 8 (by decide) (hK.nest (w := .fieldLinkNest RX1 125 "LampLine$Packet" "data" "LLampLine$Row;" "LampLine") (by decide +kernel)) rfl dX1_speaksToSearch_139 ?_
      refine lv_lconst (v := 0) hx hb dX1_speaksToSearch_142 (by decide) ?_
      refine lv_iconst (v := 2) hx hb dX1_speaksToSearch_143 (by decide) ?_
      obtain ⟨y16, hy16, hF⟩ := bd_some hF
      refine r_bv (va_runV (As := [.long 0, .int 2]) (rest := []) ⟨hx, hb, hml, hown, htA⟩ (m_X3_putNumber l G g ad n a0 aM (r2 + 1) y15 0 2 y16 hr2.2 (by omega) hy16) (cwV 2 htA (gV aw_118 aw_96 aw_97 aw_6 gz_X3_putNumber) rfl rfl rfl (by decide +kernel) ⟨Nat.le_of_ble_eq_true rfl, Nat.le_of_ble_eq_true rfl⟩) (r_preV hK hW (r2 + 1) (by omega) (cE_k hr2.2.1) rfl [.long 0, .int 2]) rfl rfl hl.1 rfl (lv_room (Nat.le_of_ble_eq_true rfl)) dX1_speaksToSearch_144 ⟨Nat.zero_le _, Nat.zero_le _⟩) hW (fun H locs hW => ?_)
      refine lv_aload_n hx hb dX1_speaksToSearch_147 rfl (lv_at hl 2 rfl) ?_
      refine lv_aload_n hx hb dX1_speaksToSearch_148 rfl (lv_at hl 0 rfl) ?_
      refine r_get (C := RX1) (T := TX1) (N := 15) hx hb htA ia_X1 hown hK hW (r0) (by omega) (cE_k hr0.1) rfl 8 (by decide) (htA _ aw_49) rfl dX1_speaksToSearch_149 ?_
      refine r_putIN (C := RX2) (T := TX2) (N := 9) (ty := .int) hx hb htA ia_X2 tyX2 tyX2_ok nmX2 hown hK hW (r2) (by omega) (cE_k hr2.1) rfl 4 (by decide) (cE_k hr2.1) (hK.nest (w := .fieldLinkNest RX1 149 "LampLine$Packet" "messages" "I" "LampLine") (by decide +kernel)) rfl (by decide +kernel) rfl rfl (Nat.le_of_ble_eq_true rfl) dX1_speaksToSearch_152 (fun H locs hW => ?_)
      obtain ⟨w17, ew17, hF⟩ := nm_some hF
      rw [← ew17] at hW
      refine lv_aload_n hx hb dX1_speaksToSearch_155 rfl (lv_at hl 2 rfl) ?_
      refine lv_aload_n hx hb dX1_speaksToSearch_156 rfl (lv_at hl 3 rfl) ?_
      obtain ⟨y18, hy18, hF⟩ := bd_some hF
      refine r_bv (va_runV (As := [.ref (ad (r3))]) (rest := []) ⟨hx, hb, hml, hown, htA⟩ (m_X2_writeTo l G g ad n a0 aM (r2) (r3) w17 y18 hr2 (by omega) hr3 (by omega) hy18) (cwV 1 htA (gV aw_119 aw_120 aw_121 aw_112 gz_X2_writeTo) rfl rfl rfl (by decide +kernel) ⟨Nat.le_of_ble_eq_true rfl, Nat.le_of_ble_eq_true rfl⟩) (r_preV hK hW (r2) (by omega) (cE_k hr2.1) rfl [.ref (ad (r3))]) rfl rfl hl.1 rfl (lv_room (Nat.le_of_ble_eq_true rfl)) dX1_speaksToSearch_157 ⟨Nat.zero_le _, Nat.zero_le _⟩) hW (fun H locs hW => ?_)
      refine lv_iconst (v := 1) hx hb dX1_speaksToSearch_160 (by decide) ?_
      exact r_zret hx hb hr hlocks hW rfl hF dX1_speaksToSearch_161
    · replace hF := (if_neg hc14).symm.trans hF
      refine lv_iconst (v := 0) hx hb dX1_speaksToSearch_127 (by decide) ?_
      exact r_zret hx hb hr hlocks hW rfl hF dX1_speaksToSearch_128
  have hL96 : ∀ (σ : St) (u4 : Int32) (H : Heap) (locs : List Loc) (ls : Array Slot), Wd G g ad n a0 s.heap σ H locs → lv_has ls 5 [(0, .ref (ad (r0))), (1, .ref (ad (r1))), (2, .ref (ad (r2))), (3, .ref (ad (r3))), (4, .int u4)] → F_X1_speaksToSearch_L96 r0 r1 r2 r3  σ u4 = some x → W p l e (headSpec zs_X1_speaksToSearch ({ frames := 2, cells := 0, slots := 0, locals := 48 } : Room)).room s m ([.ref (ad (r0)), .ref (ad (r1)), .ref (ad (r2)), .ref (ad (r3))] : List Value).toArray below meth c H locs 0 0 (MQ below (qI G g ad n a0 x) ([.ref (ad (r0)), .ref (ad (r1)), .ref (ad (r2)), .ref (ad (r3))] : List Value).toArray s 0 0 (fun q : Nat => a0 ≤ q)) (F0 m 96 ls []) := by
    intro σ u4 H locs ls hW hl hF
    unfold F_X1_speaksToSearch_L96 at hF
    refine lv_iload hx hb dX1_speaksToSearch_96 (lv_at hl 4 rfl) ?_
    refine lv_if_eq (tgt := 103) hx hb dX1_speaksToSearch_98 (by decide) (fun hc19 => ?_) (fun hc19 => ?_)
    · replace hF := (if_pos hc19).symm.trans hF
      refine lv_aload_n hx hb dX1_speaksToSearch_103 rfl (lv_at hl 0 rfl) ?_
      refine lv_aload_n hx hb dX1_speaksToSearch_104 rfl (lv_at hl 1 rfl) ?_
      refine r_getN (C := RX2) (T := TX2) (N := 9) hx hb htA ia_X2 hown hK hW (r1) (by omega) (cE_k hr1.1) rfl 7 (by decide) (hK.nest (w := .fieldLinkNest RX1 128 "LampLine$Packet" "matter" "I" "LampLine") (by decide +kernel)) rfl dX1_speaksToSearch_105 ?_
      refine lv_iconst (v := 2) hx hb dX1_speaksToSearch_108 (by decide) ?_
      refine lv_icmp_ne (tgt := 116) hx hb dX1_speaksToSearch_109 (by decide) (fun hc20 => ?_) (fun hc20 => ?_)
      · replace hF := (if_neg hc20).symm.trans hF
        refine lv_iconst (v := 0) hx hb dX1_speaksToSearch_116 (by decide) ?_
        exact hL117 σ 0 _ _ _  hW (lv_sub hl [0, 1, 2, 3] rfl) hF
      · replace hF := (if_pos hc20).symm.trans hF
        refine lv_iconst (v := 1) hx hb dX1_speaksToSearch_112 (by decide) ?_
        refine lv_goto (tgt := 117) hx hb dX1_speaksToSearch_113 (by decide) ?_
        exact hL117 σ 1 _ _ _  hW (lv_sub hl [0, 1, 2, 3] rfl) hF
    · replace hF := (if_neg hc19).symm.trans hF
      refine lv_iconst (v := 0) hx hb dX1_speaksToSearch_101 (by decide) ?_
      exact r_zret hx hb hr hlocks hW rfl hF dX1_speaksToSearch_102
  have hL80 : ∀ (σ : St) (u4 : Int32) (H : Heap) (locs : List Loc) (ls : Array Slot), Wd G g ad n a0 s.heap σ H locs → lv_has ls 5 [(0, .ref (ad (r0))), (1, .ref (ad (r1))), (2, .ref (ad (r2))), (3, .ref (ad (r3))), (4, .int u4)] → F_X1_speaksToSearch_L80 r0 r1 r2 r3  σ u4 = some x → W p l e (headSpec zs_X1_speaksToSearch ({ frames := 2, cells := 0, slots := 0, locals := 48 } : Room)).room s m ([.ref (ad (r0)), .ref (ad (r1)), .ref (ad (r2)), .ref (ad (r3))] : List Value).toArray below meth c H locs 0 0 (MQ below (qI G g ad n a0 x) ([.ref (ad (r0)), .ref (ad (r1)), .ref (ad (r2)), .ref (ad (r3))] : List Value).toArray s 0 0 (fun q : Nat => a0 ≤ q)) (F0 m 80 ls []) := by
    intro σ u4 H locs ls hW hl hF
    unfold F_X1_speaksToSearch_L80 at hF
    refine lv_aload_n hx hb dX1_speaksToSearch_80 rfl (lv_at hl 1 rfl) ?_
    refine r_getN (C := RX2) (T := TX2) (N := 9) hx hb htA ia_X2 hown hK hW (r1) (by omega) (cE_k hr1.1) rfl 7 (by decide) (hK.nest (w := .fieldLinkNest RX1 128 "LampLine$Packet" "matter" "I" "LampLine") (by decide +kernel)) rfl dX1_speaksToSearch_81 ?_
    refine lv_iconst (v := 2) hx hb dX1_speaksToSearch_84 (by decide) ?_
    refine lv_icmp_eq (tgt := 96) hx hb dX1_speaksToSearch_85 (by decide) (fun hc21 => ?_) (fun hc21 => ?_)
    · replace hF := (if_pos hc21).symm.trans hF
      exact hL96 σ u4 _ _ _  hW (lv_sub hl [0, 1, 2, 3, 4] rfl) hF
    · replace hF := (if_neg hc21).symm.trans hF
      refine lv_aload_n hx hb dX1_speaksToSearch_88 rfl (lv_at hl 1 rfl) ?_
      refine r_getN (C := RX2) (T := TX2) (N := 9) hx hb htA ia_X2 hown hK hW (r1) (by omega) (cE_k hr1.1) rfl 7 (by decide) (hK.nest (w := .fieldLinkNest RX1 128 "LampLine$Packet" "matter" "I" "LampLine") (by decide +kernel)) rfl dX1_speaksToSearch_89 ?_
      refine lv_iconst (v := 3) hx hb dX1_speaksToSearch_92 (by decide) ?_
      refine lv_icmp_ne (tgt := 101) hx hb dX1_speaksToSearch_93 (by decide) (fun hc22 => ?_) (fun hc22 => ?_)
      · replace hF := (if_neg hc22).symm.trans hF
        refine lv_iconst (v := 0) hx hb dX1_speaksToSearch_101 (by decide) ?_
        exact r_zret hx hb hr hlocks hW rfl hF dX1_speaksToSearch_102
      · replace hF := (if_pos hc22).symm.trans hF
        exact hL96 σ u4 _ _ _  hW (lv_sub hl [0, 1, 2, 3, 4] rfl) hF
  have hl := lv_entry ([.ref (ad (r0)), .ref (ad (r1)), .ref (ad (r2)), .ref (ad (r3))]) (n := 5) (Nat.le_of_ble_eq_true rfl)
  rw [lg_entry_eq]
  generalize (lg_sl ([.ref (ad (r0)), .ref (ad (r1)), .ref (ad (r2)), .ref (ad (r3))]) ++ List.replicate (5 - (lg_sl ([.ref (ad (r0)), .ref (ad (r1)), .ref (ad (r2)), .ref (ad (r3))])).length) Slot.unset).toArray = ls at hl ⊢
  have hl : lv_has ls 5 [(0, .ref (ad (r0))), (1, .ref (ad (r1))), (2, .ref (ad (r2))), (3, .ref (ad (r3)))] := hl
  unfold F_X1_speaksToSearch at hF
  refine lv_aload_n hx hb dX1_speaksToSearch_0 rfl (lv_at hl 1 rfl) ?_
  refine r_getN (C := RX2) (T := TX2) (N := 9) hx hb htA ia_X2 hown hK hW (r1) (by omega) (cE_k hr1.1) rfl 8 (by decide) (hK.nest (w := .fieldLinkNest RX1 125 "LampLine$Packet" "data" "LLampLine$Row;" "LampLine") (by decide +kernel)) rfl dX1_speaksToSearch_1 ?_
  obtain ⟨y23, hy23, hF⟩ := bd_some hF
  refine r_bi (va_runV (As := []) (rest := []) ⟨hx, hb, hml, hown, htA⟩ (m_X3_size l G g ad n a0 aM (r1 + 1) σ y23 hr1.2 (by omega) hy23) (cwV 0 htA (gV aw_65 aw_19 aw_20 aw_6 gz_X3_size) rfl rfl rfl (by decide +kernel) ⟨Nat.le_of_ble_eq_true rfl, Nat.le_of_ble_eq_true rfl⟩) (r_preV hK hW (r1 + 1) (by omega) (cE_k hr1.2.1) rfl []) rfl rfl hl.1 rfl (lv_room (Nat.le_of_ble_eq_true rfl)) dX1_speaksToSearch_4 ⟨Nat.zero_le _, Nat.zero_le _⟩) hW (fun H locs hW => ?_)
  refine lv_istore (lv' := [(4, .int y23.2), (0, .ref (ad (r0))), (1, .ref (ad (r1))), (2, .ref (ad (r2))), (3, .ref (ad (r3)))]) hx hb dX1_speaksToSearch_7 hl (by decide) rfl (fun ls hl => ?_)
  refine lv_aload_n hx hb dX1_speaksToSearch_9 rfl (lv_at hl 2 rfl) ?_
  refine r_getN (C := RX2) (T := TX2) (N := 9) hx hb htA ia_X2 hown hK hW (r1) (by omega) (cE_k hr1.1) rfl 7 (by decide) (hK.nest (w := .fieldLinkNest RX1 128 "LampLine$Packet" "matter" "I" "LampLine") (by decide +kernel)) rfl dX1_speaksToSearch_10 ?_
  refine lv_iconst (v := 1) hx hb dX1_speaksToSearch_13 (by decide) ?_
  refine lv_icmp_ne (tgt := 80) hx hb dX1_speaksToSearch_14 (by decide) (fun hc24 => ?_) (fun hc24 => ?_)
  · replace hF := (if_neg hc24).symm.trans hF
    exact hL80 y23.1 y23.2 _ _ _  hW (lv_sub hl [1, 2, 3, 4, 0] rfl) hF
  · replace hF := (if_pos hc24).symm.trans hF
    refine lv_iload hx hb dX1_speaksToSearch_17 (lv_at hl 0 rfl) ?_
    refine lv_bipush (v := 12) hx hb dX1_speaksToSearch_19 (by decide) ?_
    refine lv_icmp_ne (tgt := 80) hx hb dX1_speaksToSearch_21 (by decide) (fun hc25 => ?_) (fun hc25 => ?_)
    · replace hF := (if_neg hc25).symm.trans hF
      exact hL80 y23.1 y23.2 _ _ _  hW (lv_sub hl [1, 2, 3, 4, 0] rfl) hF
    · replace hF := (if_pos hc25).symm.trans hF
      refine lv_aload_n hx hb dX1_speaksToSearch_24 rfl (lv_at hl 1 rfl) ?_
      refine r_get (C := RX1) (T := TX1) (N := 15) hx hb htA ia_X1 hown hK hW (r0) (by omega) (cE_k hr0.1) rfl 11 (by decide) (htA _ aw_47) rfl dX1_speaksToSearch_25 ?_
      refine lv_if_ne (tgt := 68) hx hb dX1_speaksToSearch_28 (by decide) (fun hc26 => ?_) (fun hc26 => ?_)
      · replace hF := (if_neg hc26).symm.trans hF
        refine lv_iconst (v := 0) hx hb dX1_speaksToSearch_68 (by decide) ?_
        exact r_zret hx hb hr hlocks hW rfl hF dX1_speaksToSearch_69
      · replace hF := (if_pos hc26).symm.trans hF
        refine lv_aload_n hx hb dX1_speaksToSearch_31 rfl (lv_at hl 1 rfl) ?_
        refine r_get (C := RX1) (T := TX1) (N := 15) hx hb htA ia_X1 hown hK hW (r0) (by omega) (cE_k hr0.1) rfl 0 (by decide) (htA _ aw_39) rfl dX1_speaksToSearch_32 ?_
        refine lv_aload_n hx hb dX1_speaksToSearch_35 rfl (lv_at hl 2 rfl) ?_
        refine r_getN (C := RX2) (T := TX2) (N := 9) hx hb htA ia_X2 hown hK hW (r1) (by omega) (cE_k hr1.1) rfl 8 (by decide) (hK.nest (w := .fieldLinkNest RX1 125 "LampLine$Packet" "data" "LLampLine$Row;" "LampLine") (by decide +kernel)) rfl dX1_speaksToSearch_36 ?_
        refine lv_iconst (v := 0) hx hb dX1_speaksToSearch_39 (by decide) ?_
        refine lv_bipush (v := 6) hx hb dX1_speaksToSearch_40 (by decide) ?_
        obtain ⟨y27, hy27, hF⟩ := bd_some hF
        refine r_bl (va_runV (As := [.int 0, .int 6]) (rest := [.long (y23.1.2 (r0) 0)]) ⟨hx, hb, hml, hown, htA⟩ (m_X3_number l G g ad n a0 aM (r1 + 1) y23.1 0 6 y27 hr1.2 (by omega) hy27) (cwV 2 htA (gV aw_101 aw_102 aw_103 aw_6 gz_X3_number) rfl rfl rfl (by decide +kernel) ⟨Nat.le_of_ble_eq_true rfl, Nat.le_of_ble_eq_true rfl⟩) (r_preV hK hW (r1 + 1) (by omega) (cE_k hr1.2.1) rfl [.int 0, .int 6]) rfl rfl hl.1 rfl (lv_room (Nat.le_of_ble_eq_true rfl)) dX1_speaksToSearch_42 ⟨Nat.zero_le _, Nat.zero_le _⟩) hW (fun H locs hW => ?_)
        refine W.lcmp hx hb dX1_speaksToSearch_45 ?_
        refine lv_if_lt (tgt := 68) hx hb dX1_speaksToSearch_46 (by decide) (fun hc28 => ?_) (fun hc28 => ?_)
        · replace hF := (if_pos hc28).symm.trans hF
          refine lv_iconst (v := 0) hx hb dX1_speaksToSearch_68 (by decide) ?_
          exact r_zret hx hb hr hlocks hW rfl hF dX1_speaksToSearch_69
        · replace hF := (if_neg hc28).symm.trans hF
          refine lv_aload_n hx hb dX1_speaksToSearch_49 rfl (lv_at hl 1 rfl) ?_
          refine r_get (C := RX1) (T := TX1) (N := 15) hx hb htA ia_X1 hown hK hW (r0) (by omega) (cE_k hr0.1) rfl 0 (by decide) (htA _ aw_39) rfl dX1_speaksToSearch_50 ?_
          refine lv_aload_n hx hb dX1_speaksToSearch_53 rfl (lv_at hl 2 rfl) ?_
          refine r_getN (C := RX2) (T := TX2) (N := 9) hx hb htA ia_X2 hown hK hW (r1) (by omega) (cE_k hr1.1) rfl 8 (by decide) (hK.nest (w := .fieldLinkNest RX1 125 "LampLine$Packet" "data" "LLampLine$Row;" "LampLine") (by decide +kernel)) rfl dX1_speaksToSearch_54 ?_
          refine lv_bipush (v := 6) hx hb dX1_speaksToSearch_57 (by decide) ?_
          refine lv_bipush (v := 6) hx hb dX1_speaksToSearch_59 (by decide) ?_
          obtain ⟨y29, hy29, hF⟩ := bd_some hF
          refine r_bl (va_runV (As := [.int 6, .int 6]) (rest := [.long (y27.1.2 (r0) 0)]) ⟨hx, hb, hml, hown, htA⟩ (m_X3_number l G g ad n a0 aM (r1 + 1) y27.1 6 6 y29 hr1.2 (by omega) hy29) (cwV 2 htA (gV aw_101 aw_102 aw_103 aw_6 gz_X3_number) rfl rfl rfl (by decide +kernel) ⟨Nat.le_of_ble_eq_true rfl, Nat.le_of_ble_eq_true rfl⟩) (r_preV hK hW (r1 + 1) (by omega) (cE_k hr1.2.1) rfl [.int 6, .int 6]) rfl rfl hl.1 rfl (lv_room (Nat.le_of_ble_eq_true rfl)) dX1_speaksToSearch_61 ⟨Nat.zero_le _, Nat.zero_le _⟩) hW (fun H locs hW => ?_)
          refine W.lcmp hx hb dX1_speaksToSearch_64 ?_
          refine lv_if_le (tgt := 70) hx hb dX1_speaksToSearch_65 (by decide) (fun hc30 => ?_) (fun hc30 => ?_)
          · replace hF := (if_pos hc30).symm.trans hF
            refine lv_aload_n hx hb dX1_speaksToSearch_70 rfl (lv_at hl 1 rfl) ?_
            refine r_get (C := RX1) (T := TX1) (N := 15) hx hb htA ia_X1 hown hK hW (r0) (by omega) (cE_k hr0.1) rfl 0 (by decide) (htA _ aw_39) rfl dX1_speaksToSearch_71 ?_
            refine lv_aload_n hx hb dX1_speaksToSearch_74 rfl (lv_at hl 4 rfl) ?_
            obtain ⟨y31, hy31, hF⟩ := bd_some hF
            refine r_bv (va_runS (As := [.long (y29.1.2 (r0) 0), .ref (ad (r3))]) (rest := []) ⟨hx, hb, hml, hown, htA⟩ (m_X0_write l G g ad n a0 aM (r3) y29.1 (y29.1.2 (r0) 0) y31 hr3 (by omega) hy31) (va_cwS 2 htA (gS aw_105 aw_106 aw_107 gz_X0_write) rfl rfl rfl (by decide +kernel) ⟨Nat.le_of_ble_eq_true rfl, Nat.le_of_ble_eq_true rfl⟩) (r_pre hK hW [.long (y29.1.2 (r0) 0), .ref (ad (r3))]) rfl rfl hl.1 rfl (lv_room (Nat.le_of_ble_eq_true rfl)) dX1_speaksToSearch_75 ⟨Nat.zero_le _, Nat.zero_le _⟩) hW (fun H locs hW => ?_)
            refine lv_iconst (v := 1) hx hb dX1_speaksToSearch_78 (by decide) ?_
            exact r_zret hx hb hr hlocks hW rfl hF dX1_speaksToSearch_79
          · replace hF := (if_neg hc30).symm.trans hF
            refine lv_iconst (v := 0) hx hb dX1_speaksToSearch_68 (by decide) ?_
            exact r_zret hx hb hr hlocks hW rfl hF dX1_speaksToSearch_69
def F_X1_speaksToOrder_L133 (r0 : Nat) (r1 : Nat) (r2 : Nat) (r3 : Nat) (σ : St) (u5 : Int32) : Option (St × Int32) := if u5 = 0 then nm (sI σ (r2) 4 (σ.1 (r0) 8)) (fun w13 => (F_X2_writeTo (r2) (r3) w13).bind (fun y14 => some (y14, 1))) else some (σ, 0)
def F_X1_speaksToOrder_L91 (r0 : Nat) (r1 : Nat) (r2 : Nat) (r3 : Nat) (σ : St) (u4 : Int32) (u5 : Int32) (u6 : Int32) (u7 : Int32) : Option (St × Int32) := if u7 = (-1) then if u6 = 0 then (F_X1_tell (r0) (r2) σ (σ.1 (r1) 7)).bind (fun y17 => F_X1_speaksToOrder_L133 r0 r1 r2 r3 y17 u5) else (F_X1_obey (r0) (r1) (r2) σ u5 u4).bind (fun y18 => F_X1_speaksToOrder_L133 r0 r1 r2 r3 y18 u5) else (F_X2_refuse (r2) σ u7).bind (fun y19 => F_X1_speaksToOrder_L133 r0 r1 r2 r3 y19 u5)
def F_X1_speaksToOrder_L40 (r0 : Nat) (r1 : Nat) (r2 : Nat) (r3 : Nat) (σ : St) (u4 : Int32) (u5 : Int32) (u6 : Int32) : Option (St × Int32) := (F_X2_beginReply (r2) (r1) σ (σ.2 (r0) 0)).bind (fun y20 => (F_X3_size (r1 + 1) y20).bind (fun y21 => (F_X1_formRefusal y21.1 (y20.1 (r1) 5) (y20.1 (r1) 7) u6 y21.2).bind (fun y22 => if y22.2 = (-1) then if u6 = 0 then F_X1_speaksToOrder_L91 r0 r1 r2 r3 y22.1 u4 u5 u6 y22.2 else (F_X1_valueRefusal (r0) (r1) y22.1 u5).bind (fun y25 => F_X1_speaksToOrder_L91 r0 r1 r2 r3 y25.1 u4 u5 u6 y25.2) else F_X1_speaksToOrder_L91 r0 r1 r2 r3 y22.1 u4 u5 u6 y22.2)))
def F_X1_speaksToOrder_L20 (r0 : Nat) (r1 : Nat) (r2 : Nat) (r3 : Nat) (σ : St) (u4 : Int32) (u5 : Int32) (z0 : Int32) : Option (St × Int32) := if u5 = 0 then nm (sI σ (r0) 13 (((σ.1 (r0) 13) + 1) &&& 65535)) (fun w27 => F_X1_speaksToOrder_L40 r0 r1 r2 r3 w27 u4 u5 z0) else F_X1_speaksToOrder_L40 r0 r1 r2 r3 σ u4 u5 z0
def F_X1_speaksToOrder (r0 : Nat) (r1 : Nat) (r2 : Nat) (r3 : Nat) (σ : St) (x4 : Int32) : Option (St × Int32) := (F_X2_isCall (r1) σ).bind (fun y28 => if (y28.1.1 (r1) 6) = 48 then F_X1_speaksToOrder_L20 r0 r1 r2 r3 y28.1 x4 y28.2 1 else F_X1_speaksToOrder_L20 r0 r1 r2 r3 y28.1 x4 y28.2 0)
set_option maxHeartbeats 4000000 in
set_option maxRecDepth 100000 in
theorem m_X1_speaksToOrder (l : Launch) (G : va_G) (g : Nat → ClassId) (ad : Nat → Nat) (n a0 aM : Nat) (r0 : Nat) (r1 : Nat) (r2 : Nat) (r3 : Nat) (σ : St) (x4 : Int32) (x : St × Int32) (hr0 : isLp r0) (tr0 : r0 + 11 < tp n) (hr1 : isPk r1) (tr1 : r1 + 2 < tp n) (hr2 : isPk r2) (tr2 : r2 + 2 < tp n) (hr3 : isRow r3) (tr3 : r3 + 1 < tp n) (hF : F_X1_speaksToOrder r0 r1 r2 r3 σ x4 = some x) : Met l yX1_speaksToOrder zs_X1_speaksToOrder ({ frames := 2, cells := 0, slots := 0, locals := 50 } : Room) (va_Pc [.ref (ad (r0)), .ref (ad (r1)), .ref (ad (r2)), .ref (ad (r3)), .int x4] (wP G g ad n a0 aM σ)) (qI G g ad n a0 x) 0 0 (fun q : Nat => a0 ≤ q) := by
  refine Met.ofW (cc := cX1_speaksToOrder) (maxL := 8) (ret := (some .boolean)) (by decide) rfl ?_
  intro p e s m args below meth c s₁ B hml hv
  obtain ⟨rfl, hP, hD, hK⟩ := hv
  have hx := B.exec
  have hb := B.bytes
  have hr := B.returns
  have htA : ∀ w ∈ AL, w.before _ s = true := fun w h9 => atoms_spec (ws := zs_X1_speaksToOrder) B.pre w (List.mem_cons_of_mem _ h9)
  have hown : s.vm.findClass RX1 = some m.cls := findClass_of_methodNamed B.named
  have hlocks := B.notSynchronized
  have hW : Wd G g ad n a0 s.heap σ s.heap [] := ⟨hP, hD, va_S.rf⟩
  clear hP hD
  have hL133 : ∀ (σ : St) (u5 : Int32) (H : Heap) (locs : List Loc) (ls : Array Slot), Wd G g ad n a0 s.heap σ H locs → lv_has ls 8 [(0, .ref (ad (r0))), (2, .ref (ad (r2))), (3, .ref (ad (r3))), (5, .int u5)] → F_X1_speaksToOrder_L133 r0 r1 r2 r3  σ u5 = some x → W p l e (headSpec zs_X1_speaksToOrder ({ frames := 2, cells := 0, slots := 0, locals := 50 } : Room)).room s m ([.ref (ad (r0)), .ref (ad (r1)), .ref (ad (r2)), .ref (ad (r3)), .int x4] : List Value).toArray below meth c H locs 0 0 (MQ below (qI G g ad n a0 x) ([.ref (ad (r0)), .ref (ad (r1)), .ref (ad (r2)), .ref (ad (r3)), .int x4] : List Value).toArray s 0 0 (fun q : Nat => a0 ≤ q)) (F0 m 133 ls []) := by
    intro σ u5 H locs ls hW hl hF
    unfold F_X1_speaksToOrder_L133 at hF
    refine lv_iload hx hb dX1_speaksToOrder_133 (lv_at hl 3 rfl) ?_
    refine lv_if_eq (tgt := 140) hx hb dX1_speaksToOrder_135 (by decide) (fun hc12 => ?_) (fun hc12 => ?_)
    · replace hF := (if_pos hc12).symm.trans hF
      refine lv_aload_n hx hb dX1_speaksToOrder_140 rfl (lv_at hl 1 rfl) ?_
      refine lv_aload_n hx hb dX1_speaksToOrder_141 rfl (lv_at hl 0 rfl) ?_
      refine r_get (C := RX1) (T := TX1) (N := 15) hx hb htA ia_X1 hown hK hW (r0) (by omega) (cE_k hr0.1) rfl 8 (by decide) (htA _ aw_49) rfl dX1_speaksToOrder_142 ?_
      refine r_putIN (C := RX2) (T := TX2) (N := 9) (ty := .int) hx hb htA ia_X2 tyX2 tyX2_ok nmX2 hown hK hW (r2) (by omega) (cE_k hr2.1) rfl 4 (by decide) (cE_k hr2.1) (hK.nest (w := .fieldLinkNest RX1 149 "LampLine$Packet" "messages" "I" "LampLine") (by decide +kernel)) rfl (by decide +kernel) rfl rfl (Nat.le_of_ble_eq_true rfl) dX1_speaksToOrder_145 (fun H locs hW => ?_)
      obtain ⟨w13, ew13, hF⟩ := nm_some hF
      rw [← ew13] at hW
      refine lv_aload_n hx hb dX1_speaksToOrder_148 rfl (lv_at hl 1 rfl) ?_
      refine lv_aload_n hx hb dX1_speaksToOrder_149 rfl (lv_at hl 2 rfl) ?_
      obtain ⟨y14, hy14, hF⟩ := bd_some hF
      refine r_bv (va_runV (As := [.ref (ad (r3))]) (rest := []) ⟨hx, hb, hml, hown, htA⟩ (m_X2_writeTo l G g ad n a0 aM (r2) (r3) w13 y14 hr2 (by omega) hr3 (by omega) hy14) (cwV 1 htA (gV aw_119 aw_120 aw_121 aw_112 gz_X2_writeTo) rfl rfl rfl (by decide +kernel) ⟨Nat.le_of_ble_eq_true rfl, Nat.le_of_ble_eq_true rfl⟩) (r_preV hK hW (r2) (by omega) (cE_k hr2.1) rfl [.ref (ad (r3))]) rfl rfl hl.1 rfl (lv_room (Nat.le_of_ble_eq_true rfl)) dX1_speaksToOrder_150 ⟨Nat.zero_le _, Nat.zero_le _⟩) hW (fun H locs hW => ?_)
      refine lv_iconst (v := 1) hx hb dX1_speaksToOrder_153 (by decide) ?_
      exact r_zret hx hb hr hlocks hW rfl hF dX1_speaksToOrder_154
    · replace hF := (if_neg hc12).symm.trans hF
      refine lv_iconst (v := 0) hx hb dX1_speaksToOrder_138 (by decide) ?_
      exact r_zret hx hb hr hlocks hW rfl hF dX1_speaksToOrder_139
  have hL91 : ∀ (σ : St) (u4 : Int32) (u5 : Int32) (u6 : Int32) (u7 : Int32) (H : Heap) (locs : List Loc) (ls : Array Slot), Wd G g ad n a0 s.heap σ H locs → lv_has ls 8 [(0, .ref (ad (r0))), (1, .ref (ad (r1))), (2, .ref (ad (r2))), (3, .ref (ad (r3))), (4, .int u4), (5, .int u5), (6, .int u6), (7, .int u7)] → F_X1_speaksToOrder_L91 r0 r1 r2 r3  σ u4 u5 u6 u7 = some x → W p l e (headSpec zs_X1_speaksToOrder ({ frames := 2, cells := 0, slots := 0, locals := 50 } : Room)).room s m ([.ref (ad (r0)), .ref (ad (r1)), .ref (ad (r2)), .ref (ad (r3)), .int x4] : List Value).toArray below meth c H locs 0 0 (MQ below (qI G g ad n a0 x) ([.ref (ad (r0)), .ref (ad (r1)), .ref (ad (r2)), .ref (ad (r3)), .int x4] : List Value).toArray s 0 0 (fun q : Nat => a0 ≤ q)) (F0 m 91 ls []) := by
    intro σ u4 u5 u6 u7 H locs ls hW hl hF
    unfold F_X1_speaksToOrder_L91 at hF
    refine lv_iload hx hb dX1_speaksToOrder_91 (lv_at hl 7 rfl) ?_
    refine lv_iconst (v := (-1)) hx hb dX1_speaksToOrder_93 (by decide) ?_
    refine lv_icmp_eq (tgt := 106) hx hb dX1_speaksToOrder_94 (by decide) (fun hc15 => ?_) (fun hc15 => ?_)
    · replace hF := (if_pos hc15).symm.trans hF
      refine lv_iload hx hb dX1_speaksToOrder_106 (lv_at hl 6 rfl) ?_
      refine lv_if_eq (tgt := 124) hx hb dX1_speaksToOrder_108 (by decide) (fun hc16 => ?_) (fun hc16 => ?_)
      · replace hF := (if_pos hc16).symm.trans hF
        refine lv_aload_n hx hb dX1_speaksToOrder_124 rfl (lv_at hl 0 rfl) ?_
        refine lv_aload_n hx hb dX1_speaksToOrder_125 rfl (lv_at hl 1 rfl) ?_
        refine r_getN (C := RX2) (T := TX2) (N := 9) hx hb htA ia_X2 hown hK hW (r1) (by omega) (cE_k hr1.1) rfl 7 (by decide) (hK.nest (w := .fieldLinkNest RX1 128 "LampLine$Packet" "matter" "I" "LampLine") (by decide +kernel)) rfl dX1_speaksToOrder_126 ?_
        refine lv_aload_n hx hb dX1_speaksToOrder_129 rfl (lv_at hl 2 rfl) ?_
        obtain ⟨y17, hy17, hF⟩ := bd_some hF
        refine r_bv (va_runV (As := [.int (σ.1 (r1) 7), .ref (ad (r2))]) (rest := []) ⟨hx, hb, hml, hown, htA⟩ (m_X1_tell l G g ad n a0 aM (r0) (r2) σ (σ.1 (r1) 7) y17 hr0 (by omega) hr2 (by omega) hy17) (cwV 2 htA (gV aw_146 aw_147 aw_148 aw_57 gz_X1_tell) rfl rfl rfl (by decide +kernel) ⟨Nat.le_of_ble_eq_true rfl, Nat.le_of_ble_eq_true rfl⟩) (r_preV hK hW (r0) (by omega) (cE_k hr0.1) rfl [.int (σ.1 (r1) 7), .ref (ad (r2))]) rfl rfl hl.1 rfl (lv_room (Nat.le_of_ble_eq_true rfl)) dX1_speaksToOrder_130 ⟨Nat.zero_le _, Nat.zero_le _⟩) hW (fun H locs hW => ?_)
        exact hL133 y17 u5 _ _ _  hW (lv_sub hl [0, 2, 3, 5] rfl) hF
      · replace hF := (if_neg hc16).symm.trans hF
        refine lv_aload_n hx hb dX1_speaksToOrder_111 rfl (lv_at hl 0 rfl) ?_
        refine lv_aload_n hx hb dX1_speaksToOrder_112 rfl (lv_at hl 1 rfl) ?_
        refine lv_aload_n hx hb dX1_speaksToOrder_113 rfl (lv_at hl 2 rfl) ?_
        refine lv_iload hx hb dX1_speaksToOrder_114 (lv_at hl 5 rfl) ?_
        refine lv_iload hx hb dX1_speaksToOrder_116 (lv_at hl 4 rfl) ?_
        obtain ⟨y18, hy18, hF⟩ := bd_some hF
        refine r_bv (va_runV (As := [.ref (ad (r1)), .ref (ad (r2)), .int u5, .int u4]) (rest := []) ⟨hx, hb, hml, hown, htA⟩ (m_X1_obey l G g ad n a0 aM (r0) (r1) (r2) σ u5 u4 y18 hr0 (by omega) hr1 (by omega) hr2 (by omega) hy18) (cwV 4 htA (gV aw_142 aw_143 aw_144 aw_57 gz_X1_obey) rfl rfl rfl (by decide +kernel) ⟨Nat.le_of_ble_eq_true rfl, Nat.le_of_ble_eq_true rfl⟩) (r_preV hK hW (r0) (by omega) (cE_k hr0.1) rfl [.ref (ad (r1)), .ref (ad (r2)), .int u5, .int u4]) rfl rfl hl.1 rfl (lv_room (Nat.le_of_ble_eq_true rfl)) dX1_speaksToOrder_118 ⟨Nat.zero_le _, Nat.zero_le _⟩) hW (fun H locs hW => ?_)
        refine lv_goto (tgt := 133) hx hb dX1_speaksToOrder_121 (by decide) ?_
        exact hL133 y18 u5 _ _ _  hW (lv_sub hl [0, 2, 3, 5] rfl) hF
    · replace hF := (if_neg hc15).symm.trans hF
      refine lv_aload_n hx hb dX1_speaksToOrder_97 rfl (lv_at hl 2 rfl) ?_
      refine lv_iload hx hb dX1_speaksToOrder_98 (lv_at hl 7 rfl) ?_
      obtain ⟨y19, hy19, hF⟩ := bd_some hF
      refine r_bv (va_runV (As := [.int u7]) (rest := []) ⟨hx, hb, hml, hown, htA⟩ (m_X2_refuse l G g ad n a0 aM (r2) σ u7 y19 hr2 (by omega) hy19) (cwV 1 htA (gV aw_138 aw_139 aw_140 aw_112 gz_X2_refuse) rfl rfl rfl (by decide +kernel) ⟨Nat.le_of_ble_eq_true rfl, Nat.le_of_ble_eq_true rfl⟩) (r_preV hK hW (r2) (by omega) (cE_k hr2.1) rfl [.int u7]) rfl rfl hl.1 rfl (lv_room (Nat.le_of_ble_eq_true rfl)) dX1_speaksToOrder_100 ⟨Nat.zero_le _, Nat.zero_le _⟩) hW (fun H locs hW => ?_)
      refine lv_goto (tgt := 133) hx hb dX1_speaksToOrder_103 (by decide) ?_
      exact hL133 y19 u5 _ _ _  hW (lv_sub hl [0, 2, 3, 5] rfl) hF
  have hL40 : ∀ (σ : St) (u4 : Int32) (u5 : Int32) (u6 : Int32) (H : Heap) (locs : List Loc) (ls : Array Slot), Wd G g ad n a0 s.heap σ H locs → lv_has ls 8 [(0, .ref (ad (r0))), (1, .ref (ad (r1))), (2, .ref (ad (r2))), (3, .ref (ad (r3))), (4, .int u4), (5, .int u5), (6, .int u6)] → F_X1_speaksToOrder_L40 r0 r1 r2 r3  σ u4 u5 u6 = some x → W p l e (headSpec zs_X1_speaksToOrder ({ frames := 2, cells := 0, slots := 0, locals := 50 } : Room)).room s m ([.ref (ad (r0)), .ref (ad (r1)), .ref (ad (r2)), .ref (ad (r3)), .int x4] : List Value).toArray below meth c H locs 0 0 (MQ below (qI G g ad n a0 x) ([.ref (ad (r0)), .ref (ad (r1)), .ref (ad (r2)), .ref (ad (r3)), .int x4] : List Value).toArray s 0 0 (fun q : Nat => a0 ≤ q)) (F0 m 40 ls []) := by
    intro σ u4 u5 u6 H locs ls hW hl hF
    unfold F_X1_speaksToOrder_L40 at hF
    refine lv_aload_n hx hb dX1_speaksToOrder_40 rfl (lv_at hl 2 rfl) ?_
    refine lv_aload_n hx hb dX1_speaksToOrder_41 rfl (lv_at hl 1 rfl) ?_
    refine lv_aload_n hx hb dX1_speaksToOrder_42 rfl (lv_at hl 0 rfl) ?_
    refine r_get (C := RX1) (T := TX1) (N := 15) hx hb htA ia_X1 hown hK hW (r0) (by omega) (cE_k hr0.1) rfl 0 (by decide) (htA _ aw_39) rfl dX1_speaksToOrder_43 ?_
    obtain ⟨y20, hy20, hF⟩ := bd_some hF
    refine r_bv (va_runV (As := [.ref (ad (r1)), .long (σ.2 (r0) 0)]) (rest := []) ⟨hx, hb, hml, hown, htA⟩ (m_X2_beginReply l G g ad n a0 aM (r2) (r1) σ (σ.2 (r0) 0) y20 hr2 (by omega) hr1 (by omega) hy20) (cwV 2 htA (gV aw_114 aw_115 aw_116 aw_112 gz_X2_beginReply) rfl rfl rfl (by decide +kernel) ⟨Nat.le_of_ble_eq_true rfl, Nat.le_of_ble_eq_true rfl⟩) (r_preV hK hW (r2) (by omega) (cE_k hr2.1) rfl [.ref (ad (r1)), .long (σ.2 (r0) 0)]) rfl rfl hl.1 rfl (lv_room (Nat.le_of_ble_eq_true rfl)) dX1_speaksToOrder_46 ⟨Nat.zero_le _, Nat.zero_le _⟩) hW (fun H locs hW => ?_)
    refine lv_aload_n hx hb dX1_speaksToOrder_49 rfl (lv_at hl 1 rfl) ?_
    refine r_getN (C := RX2) (T := TX2) (N := 9) hx hb htA ia_X2 hown hK hW (r1) (by omega) (cE_k hr1.1) rfl 5 (by decide) (hK.nest (w := .fieldLinkNest RX1 155 "LampLine$Packet" "part" "I" "LampLine") (by decide +kernel)) rfl dX1_speaksToOrder_50 ?_
    refine lv_aload_n hx hb dX1_speaksToOrder_53 rfl (lv_at hl 1 rfl) ?_
    refine r_getN (C := RX2) (T := TX2) (N := 9) hx hb htA ia_X2 hown hK hW (r1) (by omega) (cE_k hr1.1) rfl 7 (by decide) (hK.nest (w := .fieldLinkNest RX1 128 "LampLine$Packet" "matter" "I" "LampLine") (by decide +kernel)) rfl dX1_speaksToOrder_54 ?_
    refine lv_iload hx hb dX1_speaksToOrder_57 (lv_at hl 6 rfl) ?_
    refine lv_aload_n hx hb dX1_speaksToOrder_59 rfl (lv_at hl 1 rfl) ?_
    refine r_getN (C := RX2) (T := TX2) (N := 9) hx hb htA ia_X2 hown hK hW (r1) (by omega) (cE_k hr1.1) rfl 8 (by decide) (hK.nest (w := .fieldLinkNest RX1 125 "LampLine$Packet" "data" "LLampLine$Row;" "LampLine") (by decide +kernel)) rfl dX1_speaksToOrder_60 ?_
    obtain ⟨y21, hy21, hF⟩ := bd_some hF
    refine r_bi (va_runV (As := []) (rest := [.int u6, .int (y20.1 (r1) 7), .int (y20.1 (r1) 5)]) ⟨hx, hb, hml, hown, htA⟩ (m_X3_size l G g ad n a0 aM (r1 + 1) y20 y21 hr1.2 (by omega) hy21) (cwV 0 htA (gV aw_65 aw_19 aw_20 aw_6 gz_X3_size) rfl rfl rfl (by decide +kernel) ⟨Nat.le_of_ble_eq_true rfl, Nat.le_of_ble_eq_true rfl⟩) (r_preV hK hW (r1 + 1) (by omega) (cE_k hr1.2.1) rfl []) rfl rfl hl.1 rfl (lv_room (Nat.le_of_ble_eq_true rfl)) dX1_speaksToOrder_63 ⟨Nat.zero_le _, Nat.zero_le _⟩) hW (fun H locs hW => ?_)
    obtain ⟨y22, hy22, hF⟩ := bd_some hF
    refine r_bi (va_runS (As := [.int (y20.1 (r1) 5), .int (y20.1 (r1) 7), .int u6, .int y21.2]) (rest := []) ⟨hx, hb, hml, hown, htA⟩ (m_X1_formRefusal l G g ad n a0 aM y21.1 (y20.1 (r1) 5) (y20.1 (r1) 7) u6 y21.2 y22  hy22) (va_cwS 4 htA (gS aw_131 aw_132 aw_57 gz_X1_formRefusal) rfl rfl rfl (by decide +kernel) ⟨Nat.le_of_ble_eq_true rfl, Nat.le_of_ble_eq_true rfl⟩) (r_pre hK hW [.int (y20.1 (r1) 5), .int (y20.1 (r1) 7), .int u6, .int y21.2]) rfl rfl hl.1 rfl (lv_room (Nat.le_of_ble_eq_true rfl)) dX1_speaksToOrder_66 ⟨Nat.zero_le _, Nat.zero_le _⟩) hW (fun H locs hW => ?_)
    refine lv_istore (lv' := [(7, .int y22.2), (0, .ref (ad (r0))), (1, .ref (ad (r1))), (2, .ref (ad (r2))), (3, .ref (ad (r3))), (4, .int u4), (5, .int u5), (6, .int u6)]) hx hb dX1_speaksToOrder_69 hl (by decide) rfl (fun ls hl => ?_)
    refine lv_iload hx hb dX1_speaksToOrder_71 (lv_at hl 0 rfl) ?_
    refine lv_iconst (v := (-1)) hx hb dX1_speaksToOrder_73 (by decide) ?_
    refine lv_icmp_ne (tgt := 91) hx hb dX1_speaksToOrder_74 (by decide) (fun hc23 => ?_) (fun hc23 => ?_)
    · replace hF := (if_neg hc23).symm.trans hF
      exact hL91 y22.1 u4 u5 u6 y22.2 _ _ _  hW (lv_sub hl [1, 2, 3, 4, 5, 6, 7, 0] rfl) hF
    · replace hF := (if_pos hc23).symm.trans hF
      refine lv_iload hx hb dX1_speaksToOrder_77 (lv_at hl 7 rfl) ?_
      refine lv_if_eq (tgt := 91) hx hb dX1_speaksToOrder_79 (by decide) (fun hc24 => ?_) (fun hc24 => ?_)
      · replace hF := (if_pos hc24).symm.trans hF
        exact hL91 y22.1 u4 u5 u6 y22.2 _ _ _  hW (lv_sub hl [1, 2, 3, 4, 5, 6, 7, 0] rfl) hF
      · replace hF := (if_neg hc24).symm.trans hF
        refine lv_aload_n hx hb dX1_speaksToOrder_82 rfl (lv_at hl 1 rfl) ?_
        refine lv_aload_n hx hb dX1_speaksToOrder_83 rfl (lv_at hl 2 rfl) ?_
        refine lv_iload hx hb dX1_speaksToOrder_84 (lv_at hl 6 rfl) ?_
        obtain ⟨y25, hy25, hF⟩ := bd_some hF
        refine r_bi (va_runV (As := [.ref (ad (r1)), .int u5]) (rest := []) ⟨hx, hb, hml, hown, htA⟩ (m_X1_valueRefusal l G g ad n a0 aM (r0) (r1) y22.1 u5 y25 hr0 (by omega) hr1 (by omega) hy25) (cwV 2 htA (gV aw_134 aw_135 aw_136 aw_57 gz_X1_valueRefusal) rfl rfl rfl (by decide +kernel) ⟨Nat.le_of_ble_eq_true rfl, Nat.le_of_ble_eq_true rfl⟩) (r_preV hK hW (r0) (by omega) (cE_k hr0.1) rfl [.ref (ad (r1)), .int u5]) rfl rfl hl.1 rfl (lv_room (Nat.le_of_ble_eq_true rfl)) dX1_speaksToOrder_86 ⟨Nat.zero_le _, Nat.zero_le _⟩) hW (fun H locs hW => ?_)
        refine lv_istore (lv' := [(7, .int y25.2), (0, .ref (ad (r0))), (1, .ref (ad (r1))), (2, .ref (ad (r2))), (3, .ref (ad (r3))), (4, .int u4), (5, .int u5), (6, .int u6)]) hx hb dX1_speaksToOrder_89 hl (by decide) rfl (fun ls hl => ?_)
        exact hL91 y25.1 u4 u5 u6 y25.2 _ _ _  hW (lv_sub hl [1, 2, 3, 4, 5, 6, 7, 0] rfl) hF
  have hL20 : ∀ (σ : St) (u4 : Int32) (u5 : Int32) (z0 : Int32) (H : Heap) (locs : List Loc) (ls : Array Slot), Wd G g ad n a0 s.heap σ H locs → lv_has ls 8 [(0, .ref (ad (r0))), (1, .ref (ad (r1))), (2, .ref (ad (r2))), (3, .ref (ad (r3))), (4, .int u4), (5, .int u5)] → F_X1_speaksToOrder_L20 r0 r1 r2 r3  σ u4 u5 z0 = some x → W p l e (headSpec zs_X1_speaksToOrder ({ frames := 2, cells := 0, slots := 0, locals := 50 } : Room)).room s m ([.ref (ad (r0)), .ref (ad (r1)), .ref (ad (r2)), .ref (ad (r3)), .int x4] : List Value).toArray below meth c H locs 0 0 (MQ below (qI G g ad n a0 x) ([.ref (ad (r0)), .ref (ad (r1)), .ref (ad (r2)), .ref (ad (r3)), .int x4] : List Value).toArray s 0 0 (fun q : Nat => a0 ≤ q)) (F0 m 20 ls [.int z0]) := by
    intro σ u4 u5 z0 H locs ls hW hl hF
    unfold F_X1_speaksToOrder_L20 at hF
    refine lv_istore (lv' := [(6, .int z0), (0, .ref (ad (r0))), (1, .ref (ad (r1))), (2, .ref (ad (r2))), (3, .ref (ad (r3))), (4, .int u4), (5, .int u5)]) hx hb dX1_speaksToOrder_20 hl (by decide) rfl (fun ls hl => ?_)
    refine lv_iload hx hb dX1_speaksToOrder_22 (lv_at hl 6 rfl) ?_
    refine lv_if_ne (tgt := 40) hx hb dX1_speaksToOrder_24 (by decide) (fun hc26 => ?_) (fun hc26 => ?_)
    · replace hF := (if_neg hc26).symm.trans hF
      exact hL40 σ u4 u5 z0 _ _ _  hW (lv_sub hl [1, 2, 3, 4, 5, 6, 0] rfl) hF
    · replace hF := (if_pos hc26).symm.trans hF
      refine lv_aload_n hx hb dX1_speaksToOrder_27 rfl (lv_at hl 1 rfl) ?_
      refine lv_aload_n hx hb dX1_speaksToOrder_28 rfl (lv_at hl 1 rfl) ?_
      refine r_get (C := RX1) (T := TX1) (N := 15) hx hb htA ia_X1 hown hK hW (r0) (by omega) (cE_k hr0.1) rfl 13 (by decide) (htA _ aw_50) rfl dX1_speaksToOrder_29 ?_
      refine lv_iconst (v := 1) hx hb dX1_speaksToOrder_32 (by decide) ?_
      refine lv_iadd hx hb dX1_speaksToOrder_33 ?_
      refine lv_ldc (v := 65535) hx hb hown (htA _ aw_78) dX1_speaksToOrder_34 ?_
      refine lv_iand hx hb dX1_speaksToOrder_36 ?_
      refine r_putI (C := RX1) (T := TX1) (N := 15) (ty := .int) hx hb htA ia_X1 tyX1 tyX1_ok nmX1 hown hK hW (r0) (by omega) (cE_k hr0.1) rfl 13 (by decide) (cE_k hr0.1) (htA _ aw_50) rfl (by decide +kernel) rfl rfl (Nat.le_of_ble_eq_true rfl) dX1_speaksToOrder_37 (fun H locs hW => ?_)
      obtain ⟨w27, ew27, hF⟩ := nm_some hF
      rw [← ew27] at hW
      exact hL40 w27 u4 u5 z0 _ _ _  hW (lv_sub hl [1, 2, 3, 4, 5, 6, 0] rfl) hF
  have hl := lv_entry ([.ref (ad (r0)), .ref (ad (r1)), .ref (ad (r2)), .ref (ad (r3)), .int x4]) (n := 8) (Nat.le_of_ble_eq_true rfl)
  rw [lg_entry_eq]
  generalize (lg_sl ([.ref (ad (r0)), .ref (ad (r1)), .ref (ad (r2)), .ref (ad (r3)), .int x4]) ++ List.replicate (8 - (lg_sl ([.ref (ad (r0)), .ref (ad (r1)), .ref (ad (r2)), .ref (ad (r3)), .int x4])).length) Slot.unset).toArray = ls at hl ⊢
  have hl : lv_has ls 8 [(0, .ref (ad (r0))), (1, .ref (ad (r1))), (2, .ref (ad (r2))), (3, .ref (ad (r3))), (4, .int x4)] := hl
  unfold F_X1_speaksToOrder at hF
  refine lv_aload_n hx hb dX1_speaksToOrder_0 rfl (lv_at hl 1 rfl) ?_
  obtain ⟨y28, hy28, hF⟩ := bd_some hF
  refine r_bi (va_runV (As := []) (rest := []) ⟨hx, hb, hml, hown, htA⟩ (m_X2_isCall l G g ad n a0 aM (r1) σ y28 hr1 (by omega) hy28) (cwV 0 htA (gV aw_109 aw_110 aw_111 aw_112 gz_X2_isCall) rfl rfl rfl (by decide +kernel) ⟨Nat.le_of_ble_eq_true rfl, Nat.le_of_ble_eq_true rfl⟩) (r_preV hK hW (r1) (by omega) (cE_k hr1.1) rfl []) rfl rfl hl.1 rfl (lv_room (Nat.le_of_ble_eq_true rfl)) dX1_speaksToOrder_1 ⟨Nat.zero_le _, Nat.zero_le _⟩) hW (fun H locs hW => ?_)
  refine lv_istore (lv' := [(5, .int y28.2), (0, .ref (ad (r0))), (1, .ref (ad (r1))), (2, .ref (ad (r2))), (3, .ref (ad (r3))), (4, .int x4)]) hx hb dX1_speaksToOrder_4 hl (by decide) rfl (fun ls hl => ?_)
  refine lv_aload_n hx hb dX1_speaksToOrder_6 rfl (lv_at hl 2 rfl) ?_
  refine r_getN (C := RX2) (T := TX2) (N := 9) hx hb htA ia_X2 hown hK hW (r1) (by omega) (cE_k hr1.1) rfl 6 (by decide) (hK.nest (w := .fieldLinkNest RX1 108 "LampLine$Packet" "group" "I" "LampLine") (by decide +kernel)) rfl dX1_speaksToOrder_7 ?_
  refine lv_bipush (v := 48) hx hb dX1_speaksToOrder_10 (by decide) ?_
  refine lv_icmp_ne (tgt := 19) hx hb dX1_speaksToOrder_12 (by decide) (fun hc29 => ?_) (fun hc29 => ?_)
  · replace hF := (if_neg hc29).symm.trans hF
    refine lv_iconst (v := 0) hx hb dX1_speaksToOrder_19 (by decide) ?_
    exact hL20 y28.1 x4 y28.2 0 _ _ _  hW (lv_sub hl [1, 2, 3, 4, 5, 0] rfl) hF
  · replace hF := (if_pos hc29).symm.trans hF
    refine lv_iconst (v := 1) hx hb dX1_speaksToOrder_15 (by decide) ?_
    refine lv_goto (tgt := 20) hx hb dX1_speaksToOrder_16 (by decide) ?_
    exact hL20 y28.1 x4 y28.2 1 _ _ _  hW (lv_sub hl [1, 2, 3, 4, 5, 0] rfl) hF
def F_X1_speaksTo_L42 (r0 : Nat) (r1 : Nat) (r2 : Nat) (r3 : Nat) (σ : St) (u4 : Int32) : Option (St × Int32) := (F_X1_speaksToOrder (r0) (r1) (r2) (r3) σ u4).bind (fun y4 => gd (zb y4.2) (some (y4.1, y4.2)))
def F_X1_speaksTo (r0 : Nat) (r1 : Nat) (r2 : Nat) (r3 : Nat) (σ : St) (x4 : Int32) : Option (St × Int32) := if (σ.1 (r1) 6) = 16 then (F_X1_speaksToSearch (r0) (r1) (r2) (r3) σ).bind (fun y11 => gd (zb y11.2) (some (y11.1, y11.2))) else if (σ.1 (r1) 6) = 48 then F_X1_speaksTo_L42 r0 r1 r2 r3 σ x4 else if (σ.1 (r1) 6) = 32 then (F_X2_isCall (r1) σ).bind (fun y9 => if y9.2 = 0 then F_X1_speaksTo_L42 r0 r1 r2 r3 y9.1 x4 else some (y9.1, 0)) else some (σ, 0)
set_option maxHeartbeats 4000000 in
set_option maxRecDepth 100000 in
theorem m_X1_speaksTo (l : Launch) (G : va_G) (g : Nat → ClassId) (ad : Nat → Nat) (n a0 aM : Nat) (r0 : Nat) (r1 : Nat) (r2 : Nat) (r3 : Nat) (σ : St) (x4 : Int32) (x : St × Int32) (hr0 : isLp r0) (tr0 : r0 + 11 < tp n) (hr1 : isPk r1) (tr1 : r1 + 2 < tp n) (hr2 : isPk r2) (tr2 : r2 + 2 < tp n) (hr3 : isRow r3) (tr3 : r3 + 1 < tp n) (hF : F_X1_speaksTo r0 r1 r2 r3 σ x4 = some x) : Met l yX1_speaksTo zs_X1_speaksTo ({ frames := 3, cells := 0, slots := 0, locals := 77 } : Room) (va_Pc [.ref (ad (r0)), .ref (ad (r1)), .ref (ad (r2)), .ref (ad (r3)), .int x4] (wP G g ad n a0 aM σ)) (qI G g ad n a0 x) 0 0 (fun q : Nat => a0 ≤ q) := by
  refine Met.ofW (cc := cX1_speaksTo) (maxL := 5) (ret := (some .boolean)) (by decide) rfl ?_
  intro p e s m args below meth c s₁ B hml hv
  obtain ⟨rfl, hP, hD, hK⟩ := hv
  have hx := B.exec
  have hb := B.bytes
  have hr := B.returns
  have htA : ∀ w ∈ AL, w.before _ s = true := fun w h9 => atoms_spec (ws := zs_X1_speaksTo) B.pre w (List.mem_cons_of_mem _ h9)
  have hown : s.vm.findClass RX1 = some m.cls := findClass_of_methodNamed B.named
  have hlocks := B.notSynchronized
  have hW : Wd G g ad n a0 s.heap σ s.heap [] := ⟨hP, hD, va_S.rf⟩
  clear hP hD
  have hL42 : ∀ (σ : St) (u4 : Int32) (H : Heap) (locs : List Loc) (ls : Array Slot), Wd G g ad n a0 s.heap σ H locs → lv_has ls 5 [(0, .ref (ad (r0))), (1, .ref (ad (r1))), (2, .ref (ad (r2))), (3, .ref (ad (r3))), (4, .int u4)] → F_X1_speaksTo_L42 r0 r1 r2 r3  σ u4 = some x → W p l e (headSpec zs_X1_speaksTo ({ frames := 3, cells := 0, slots := 0, locals := 77 } : Room)).room s m ([.ref (ad (r0)), .ref (ad (r1)), .ref (ad (r2)), .ref (ad (r3)), .int x4] : List Value).toArray below meth c H locs 0 0 (MQ below (qI G g ad n a0 x) ([.ref (ad (r0)), .ref (ad (r1)), .ref (ad (r2)), .ref (ad (r3)), .int x4] : List Value).toArray s 0 0 (fun q : Nat => a0 ≤ q)) (F0 m 42 ls []) := by
    intro σ u4 H locs ls hW hl hF
    unfold F_X1_speaksTo_L42 at hF
    refine lv_aload_n hx hb dX1_speaksTo_42 rfl (lv_at hl 0 rfl) ?_
    refine lv_aload_n hx hb dX1_speaksTo_43 rfl (lv_at hl 1 rfl) ?_
    refine lv_aload_n hx hb dX1_speaksTo_44 rfl (lv_at hl 2 rfl) ?_
    refine lv_aload_n hx hb dX1_speaksTo_45 rfl (lv_at hl 3 rfl) ?_
    refine lv_iload hx hb dX1_speaksTo_46 (lv_at hl 4 rfl) ?_
    obtain ⟨y4, hy4, hF⟩ := bd_some hF
    refine r_bi (va_runV (As := [.ref (ad (r1)), .ref (ad (r2)), .ref (ad (r3)), .int u4]) (rest := []) ⟨hx, hb, hml, hown, htA⟩ (m_X1_speaksToOrder l G g ad n a0 aM (r0) (r1) (r2) (r3) σ u4 y4 hr0 (by omega) hr1 (by omega) hr2 (by omega) hr3 (by omega) hy4) (cwV 4 htA (gV aw_154 aw_155 aw_156 aw_57 gz_X1_speaksToOrder) rfl rfl rfl (by decide +kernel) ⟨Nat.le_of_ble_eq_true rfl, Nat.le_of_ble_eq_true rfl⟩) (r_preV hK hW (r0) (by omega) (cE_k hr0.1) rfl [.ref (ad (r1)), .ref (ad (r2)), .ref (ad (r3)), .int u4]) rfl rfl hl.1 rfl (lv_room (Nat.le_of_ble_eq_true rfl)) dX1_speaksTo_48 ⟨Nat.zero_le _, Nat.zero_le _⟩) hW (fun H locs hW => ?_)
    obtain ⟨hg5, hF⟩ := gd_some hF
    exact r_zret hx hb hr hlocks hW hg5 hF dX1_speaksTo_51
  have hl := lv_entry ([.ref (ad (r0)), .ref (ad (r1)), .ref (ad (r2)), .ref (ad (r3)), .int x4]) (n := 5) (Nat.le_of_ble_eq_true rfl)
  rw [lg_entry_eq]
  generalize (lg_sl ([.ref (ad (r0)), .ref (ad (r1)), .ref (ad (r2)), .ref (ad (r3)), .int x4]) ++ List.replicate (5 - (lg_sl ([.ref (ad (r0)), .ref (ad (r1)), .ref (ad (r2)), .ref (ad (r3)), .int x4])).length) Slot.unset).toArray = ls at hl ⊢
  have hl : lv_has ls 5 [(0, .ref (ad (r0))), (1, .ref (ad (r1))), (2, .ref (ad (r2))), (3, .ref (ad (r3))), (4, .int x4)] := hl
  unfold F_X1_speaksTo at hF
  refine lv_aload_n hx hb dX1_speaksTo_0 rfl (lv_at hl 1 rfl) ?_
  refine r_getN (C := RX2) (T := TX2) (N := 9) hx hb htA ia_X2 hown hK hW (r1) (by omega) (cE_k hr1.1) rfl 6 (by decide) (hK.nest (w := .fieldLinkNest RX1 108 "LampLine$Packet" "group" "I" "LampLine") (by decide +kernel)) rfl dX1_speaksTo_1 ?_
  refine lv_bipush (v := 16) hx hb dX1_speaksTo_4 (by decide) ?_
  refine lv_icmp_ne (tgt := 17) hx hb dX1_speaksTo_6 (by decide) (fun hc6 => ?_) (fun hc6 => ?_)
  · replace hF := (if_neg hc6).symm.trans hF
    refine lv_aload_n hx hb dX1_speaksTo_17 rfl (lv_at hl 1 rfl) ?_
    refine r_getN (C := RX2) (T := TX2) (N := 9) hx hb htA ia_X2 hown hK hW (r1) (by omega) (cE_k hr1.1) rfl 6 (by decide) (hK.nest (w := .fieldLinkNest RX1 108 "LampLine$Packet" "group" "I" "LampLine") (by decide +kernel)) rfl dX1_speaksTo_18 ?_
    refine lv_bipush (v := 48) hx hb dX1_speaksTo_21 (by decide) ?_
    refine lv_icmp_eq (tgt := 42) hx hb dX1_speaksTo_23 (by decide) (fun hc7 => ?_) (fun hc7 => ?_)
    · replace hF := (if_pos hc7).symm.trans hF
      exact hL42 σ x4 _ _ _  hW (lv_sub hl [0, 1, 2, 3, 4] rfl) hF
    · replace hF := (if_neg hc7).symm.trans hF
      refine lv_aload_n hx hb dX1_speaksTo_26 rfl (lv_at hl 1 rfl) ?_
      refine r_getN (C := RX2) (T := TX2) (N := 9) hx hb htA ia_X2 hown hK hW (r1) (by omega) (cE_k hr1.1) rfl 6 (by decide) (hK.nest (w := .fieldLinkNest RX1 108 "LampLine$Packet" "group" "I" "LampLine") (by decide +kernel)) rfl dX1_speaksTo_27 ?_
      refine lv_bipush (v := 32) hx hb dX1_speaksTo_30 (by decide) ?_
      refine lv_icmp_ne (tgt := 52) hx hb dX1_speaksTo_32 (by decide) (fun hc8 => ?_) (fun hc8 => ?_)
      · replace hF := (if_neg hc8).symm.trans hF
        refine lv_iconst (v := 0) hx hb dX1_speaksTo_52 (by decide) ?_
        exact r_zret hx hb hr hlocks hW rfl hF dX1_speaksTo_53
      · replace hF := (if_pos hc8).symm.trans hF
        refine lv_aload_n hx hb dX1_speaksTo_35 rfl (lv_at hl 1 rfl) ?_
        obtain ⟨y9, hy9, hF⟩ := bd_some hF
        refine r_bi (va_runV (As := []) (rest := []) ⟨hx, hb, hml, hown, htA⟩ (m_X2_isCall l G g ad n a0 aM (r1) σ y9 hr1 (by omega) hy9) (cwV 0 htA (gV aw_109 aw_110 aw_111 aw_112 gz_X2_isCall) rfl rfl rfl (by decide +kernel) ⟨Nat.le_of_ble_eq_true rfl, Nat.le_of_ble_eq_true rfl⟩) (r_preV hK hW (r1) (by omega) (cE_k hr1.1) rfl []) rfl rfl hl.1 rfl (lv_room (Nat.le_of_ble_eq_true rfl)) dX1_speaksTo_36 ⟨Nat.zero_le _, Nat.zero_le _⟩) hW (fun H locs hW => ?_)
        refine lv_if_ne (tgt := 52) hx hb dX1_speaksTo_39 (by decide) (fun hc10 => ?_) (fun hc10 => ?_)
        · replace hF := (if_neg hc10).symm.trans hF
          refine lv_iconst (v := 0) hx hb dX1_speaksTo_52 (by decide) ?_
          exact r_zret hx hb hr hlocks hW rfl hF dX1_speaksTo_53
        · replace hF := (if_pos hc10).symm.trans hF
          exact hL42 y9.1 x4 _ _ _  hW (lv_sub hl [0, 1, 2, 3, 4] rfl) hF
  · replace hF := (if_pos hc6).symm.trans hF
    refine lv_aload_n hx hb dX1_speaksTo_9 rfl (lv_at hl 0 rfl) ?_
    refine lv_aload_n hx hb dX1_speaksTo_10 rfl (lv_at hl 1 rfl) ?_
    refine lv_aload_n hx hb dX1_speaksTo_11 rfl (lv_at hl 2 rfl) ?_
    refine lv_aload_n hx hb dX1_speaksTo_12 rfl (lv_at hl 3 rfl) ?_
    obtain ⟨y11, hy11, hF⟩ := bd_some hF
    refine r_bi (va_runV (As := [.ref (ad (r1)), .ref (ad (r2)), .ref (ad (r3))]) (rest := []) ⟨hx, hb, hml, hown, htA⟩ (m_X1_speaksToSearch l G g ad n a0 aM (r0) (r1) (r2) (r3) σ y11 hr0 (by omega) hr1 (by omega) hr2 (by omega) hr3 (by omega) hy11) (cwV 3 htA (gV aw_150 aw_151 aw_152 aw_57 gz_X1_speaksToSearch) rfl rfl rfl (by decide +kernel) ⟨Nat.le_of_ble_eq_true rfl, Nat.le_of_ble_eq_true rfl⟩) (r_preV hK hW (r0) (by omega) (cE_k hr0.1) rfl [.ref (ad (r1)), .ref (ad (r2)), .ref (ad (r3))]) rfl rfl hl.1 rfl (lv_room (Nat.le_of_ble_eq_true rfl)) dX1_speaksTo_13 ⟨Nat.zero_le _, Nat.zero_le _⟩) hW (fun H locs hW => ?_)
    obtain ⟨hg12, hF⟩ := gd_some hF
    exact r_zret hx hb hr hlocks hW hg12 hF dX1_speaksTo_16
