def F_X7_heard (σ : St) (x1 : Int32) : Option (St × Int32) := gd (ib x1 (ln (47))) (some (σ, ((σ.1 (47) (Int32.toNatClampNeg x1)) &&& 255)))
set_option maxHeartbeats 4000000 in
set_option maxRecDepth 100000 in
theorem m_X7_heard (l : Launch) (G : va_G) (g : Nat → ClassId) (ad : Nat → Nat) (n a0 aM : Nat) (σ : St) (x1 : Int32) (x : St × Int32) (hF : F_X7_heard σ x1 = some x) : Met l yX7_heard zs_X7_heard ({ frames := 0, cells := 0, slots := 0, locals := 0 } : Room) (va_Pc [.ref (ad (27)), .int x1] (wP G g ad n a0 aM σ)) (qI G g ad n a0 x) 0 0 (fun q : Nat => a0 ≤ q) := by
  refine Met.ofW (cc := cX7_heard) (maxL := 2) (ret := (some .int)) (by decide) rfl ?_
  intro p e s m args below meth c s₁ B hml hv
  obtain ⟨rfl, hP, hD, hK⟩ := hv
  have hx := B.exec
  have hb := B.bytes
  have hr := B.returns
  have htA : ∀ w ∈ AL, w.before _ s = true := fun w h9 => atoms_spec (ws := zs_X7_heard) B.pre w (List.mem_cons_of_mem _ h9)
  have hown : s.vm.findClass RX7 = some m.cls := findClass_of_methodNamed B.named
  have hlocks := B.notSynchronized
  have hW : Wd G g ad n a0 s.heap σ s.heap [] := ⟨hP, hD, va_S.rf⟩
  clear hP hD
  have hl := lv_entry ([.ref (ad (27)), .int x1]) (n := 2) (Nat.le_of_ble_eq_true rfl)
  rw [lg_entry_eq]
  generalize (lg_sl ([.ref (ad (27)), .int x1]) ++ List.replicate (2 - (lg_sl ([.ref (ad (27)), .int x1])).length) Slot.unset).toArray = ls at hl ⊢
  have hl : lv_has ls 2 [(0, .ref (ad (27))), (1, .int x1)] := hl
  unfold F_X7_heard at hF
  refine lv_aload_n hx hb dX7_heard_0 rfl (lv_at hl 0 rfl) ?_
  refine r_get (C := RX7) (T := TX7) (N := 39) hx hb htA ia_X7 hown hK hW (27) (tp_lt (by decide)) (cE_k (rfl : kd 27 = 9)) rfl 24 (by decide) (htA _ aw_372) rfl dX7_heard_1 ?_
  refine lv_iload_n hx hb dX7_heard_4 rfl (lv_at hl 1 rfl) ?_
  obtain ⟨hg2, hF⟩ := gd_some hF
  refine r_bald hx hb hK hW (47) (tp_lt (by decide)) (rfl : kd 47 = 10) hg2 dX7_heard_5 ?_
  refine lv_sipush (v := 255) hx hb dX7_heard_6 (by decide) ?_
  refine lv_iand hx hb dX7_heard_9 ?_
  exact r_iret hx hb hr hlocks hW hF dX7_heard_10
def F_X7_heardSix_L34 (σ : St) (u2 : Int64) : Option (St × Int64) := some (σ, u2)
def F_X7_heardSix_L5 (K34 : St → Int64 → Option (St × Int64)) : Nat → St → Int32 → Int64 → Int32 → Option (St × Int64)
  | 0, _, _, _, _ => none
  | fz + 1, σ, u1, u2, u4 => if 6 ≤ u4 then K34 σ u2 else (F_X7_heard σ (u1 + u4)).bind (fun y3 => (F_X7_heardSix_L5 K34 fz) y3.1 u1 ((u2 * 256) + (Int32.toInt64 y3.2)) (u4 + 1))
def F_X7_heardSix (σ : St) (x1 : Int32) : Option (St × Int64) := F_X7_heardSix_L5 F_X7_heardSix_L34 fu σ x1 0 0
set_option maxHeartbeats 4000000 in
set_option maxRecDepth 100000 in
theorem m_X7_heardSix (l : Launch) (G : va_G) (g : Nat → ClassId) (ad : Nat → Nat) (n a0 aM : Nat) (σ : St) (x1 : Int32) (x : St × Int64) (hF : F_X7_heardSix σ x1 = some x) : Met l yX7_heardSix zs_X7_heardSix ({ frames := 1, cells := 0, slots := 0, locals := 21 } : Room) (va_Pc [.ref (ad (27)), .int x1] (wP G g ad n a0 aM σ)) (qJ G g ad n a0 x) 0 0 (fun q : Nat => a0 ≤ q) := by
  refine Met.ofW (cc := cX7_heardSix) (maxL := 5) (ret := (some .long)) (by decide) rfl ?_
  intro p e s m args below meth c s₁ B hml hv
  obtain ⟨rfl, hP, hD, hK⟩ := hv
  have hx := B.exec
  have hb := B.bytes
  have hr := B.returns
  have htA : ∀ w ∈ AL, w.before _ s = true := fun w h9 => atoms_spec (ws := zs_X7_heardSix) B.pre w (List.mem_cons_of_mem _ h9)
  have hown : s.vm.findClass RX7 = some m.cls := findClass_of_methodNamed B.named
  have hlocks := B.notSynchronized
  have hW : Wd G g ad n a0 s.heap σ s.heap [] := ⟨hP, hD, va_S.rf⟩
  clear hP hD
  have hL34 : ∀ (σ : St) (u2 : Int64) (H : Heap) (locs : List Loc) (ls : Array Slot), Wd G g ad n a0 s.heap σ H locs → lv_has ls 5 [(2, .long u2)] → F_X7_heardSix_L34  σ u2 = some x → W p l e (headSpec zs_X7_heardSix ({ frames := 1, cells := 0, slots := 0, locals := 21 } : Room)).room s m ([.ref (ad (27)), .int x1] : List Value).toArray below meth c H locs 0 0 (MQ below (qJ G g ad n a0 x) ([.ref (ad (27)), .int x1] : List Value).toArray s 0 0 (fun q : Nat => a0 ≤ q)) (F0 m 34 ls []) := by
    intro σ u2 H locs ls hW hl hF
    unfold F_X7_heardSix_L34 at hF
    refine lv_lload_n hx hb dX7_heardSix_34 rfl (lv_at hl 0 rfl) ?_
    exact r_lret hx hb hr hlocks hW hF dX7_heardSix_35
  have hL5 : ∀ (fz5 : Nat) (σ : St) (u1 : Int32) (u2 : Int64) (u4 : Int32) (H : Heap) (locs : List Loc) (ls : Array Slot), Wd G g ad n a0 s.heap σ H locs → lv_has ls 5 [(0, .ref (ad (27))), (1, .int u1), (2, .long u2), (4, .int u4)] → F_X7_heardSix_L5 (F_X7_heardSix_L34) fz5 σ u1 u2 u4 = some x → W p l e (headSpec zs_X7_heardSix ({ frames := 1, cells := 0, slots := 0, locals := 21 } : Room)).room s m ([.ref (ad (27)), .int x1] : List Value).toArray below meth c H locs 0 0 (MQ below (qJ G g ad n a0 x) ([.ref (ad (27)), .int x1] : List Value).toArray s 0 0 (fun q : Nat => a0 ≤ q)) (F0 m 5 ls []) := by
    intro fz5
    induction fz5 with
    | zero =>
      intro σ u1 u2 u4 H locs ls hW hl hF
      exact absurd hF (by simp [F_X7_heardSix_L5])
    | succ fz5 ih =>
      have hB5 := ih
      intro σ u1 u2 u4 H locs ls hW hl hF
      unfold F_X7_heardSix_L5 at hF
      refine lv_iload hx hb dX7_heardSix_5 (lv_at hl 3 rfl) ?_
      refine lv_bipush (v := 6) hx hb dX7_heardSix_7 (by decide) ?_
      refine lv_icmp_ge (tgt := 34) hx hb dX7_heardSix_9 (by decide) (fun hc2 => ?_) (fun hc2 => ?_)
      · replace hF := (if_pos hc2).symm.trans hF
        exact hL34 σ u2 _ _ _  hW (lv_sub hl [2] rfl) hF
      · replace hF := (if_neg hc2).symm.trans hF
        refine lv_lload_n hx hb dX7_heardSix_12 rfl (lv_at hl 2 rfl) ?_
        refine lv_ldc2 (v := 256) hx hb hown (htA _ aw_402) dX7_heardSix_13 ?_
        refine lv_lmul hx hb dX7_heardSix_16 ?_
        refine lv_aload_n hx hb dX7_heardSix_17 rfl (lv_at hl 0 rfl) ?_
        refine lv_iload_n hx hb dX7_heardSix_18 rfl (lv_at hl 1 rfl) ?_
        refine lv_iload hx hb dX7_heardSix_19 (lv_at hl 3 rfl) ?_
        refine lv_iadd hx hb dX7_heardSix_21 ?_
        obtain ⟨y3, hy3, hF⟩ := bd_some hF
        refine r_bi (va_runV (As := [.int (u1 + u4)]) (rest := [.long (u2 * 256)]) ⟨hx, hb, hml, hown, htA⟩ (m_X7_heard l G g ad n a0 aM σ (u1 + u4) y3  hy3) (cwV 1 htA (gV aw_526 aw_527 aw_528 aw_382 gz_X7_heard) rfl rfl rfl (by decide +kernel) ⟨Nat.le_of_ble_eq_true rfl, Nat.le_of_ble_eq_true rfl⟩) (r_preV hK hW (27) (tp_lt (by decide)) (cE_k (rfl : kd 27 = 9)) rfl [.int (u1 + u4)]) rfl rfl hl.1 rfl (lv_room (Nat.le_of_ble_eq_true rfl)) dX7_heardSix_22 ⟨Nat.zero_le _, Nat.zero_le _⟩) hW (fun H locs hW => ?_)
        refine lv_i2l (v := (Int32.toInt64 y3.2)) hx hb dX7_heardSix_25 rfl ?_
        refine lv_ladd hx hb dX7_heardSix_26 ?_
        refine lv_lstore_n (lv' := [(2, .long ((u2 * 256) + (Int32.toInt64 y3.2))), (0, .ref (ad (27))), (1, .int u1), (4, .int u4)]) hx hb dX7_heardSix_27 rfl hl (by decide) rfl (fun ls hl => ?_)
        refine lv_iinc (v := (u4 + 1)) (lv' := [(4, .int (u4 + 1)), (2, .long ((u2 * 256) + (Int32.toInt64 y3.2))), (0, .ref (ad (27))), (1, .int u1)]) hx hb dX7_heardSix_28 hl (k := 3) rfl rfl (by decide) rfl (fun ls hl => ?_)
        refine lv_goto (tgt := 5) hx hb dX7_heardSix_31 (by decide) ?_
        exact hB5 y3.1 u1 ((u2 * 256) + (Int32.toInt64 y3.2)) (u4 + 1) _ _ _  hW (lv_sub hl [2, 3, 1, 0] rfl) hF
  have hL5 := hL5 fu
  have hl := lv_entry ([.ref (ad (27)), .int x1]) (n := 5) (Nat.le_of_ble_eq_true rfl)
  rw [lg_entry_eq]
  generalize (lg_sl ([.ref (ad (27)), .int x1]) ++ List.replicate (5 - (lg_sl ([.ref (ad (27)), .int x1])).length) Slot.unset).toArray = ls at hl ⊢
  have hl : lv_has ls 5 [(0, .ref (ad (27))), (1, .int x1)] := hl
  unfold F_X7_heardSix at hF
  refine lv_lconst (v := 0) hx hb dX7_heardSix_0 (by decide) ?_
  refine lv_lstore_n (lv' := [(2, .long 0), (0, .ref (ad (27))), (1, .int x1)]) hx hb dX7_heardSix_1 rfl hl (by decide) rfl (fun ls hl => ?_)
  refine lv_iconst (v := 0) hx hb dX7_heardSix_2 (by decide) ?_
  refine lv_istore (lv' := [(4, .int 0), (2, .long 0), (0, .ref (ad (27))), (1, .int x1)]) hx hb dX7_heardSix_3 hl (by decide) rfl (fun ls hl => ?_)
  exact hL5 σ x1 0 0 _ _ _  hW (lv_sub hl [2, 3, 1, 0] rfl) hF
def F_X7_isReply_L139 (σ : St) (u1 : Int64) (z0 : Int32) : Option (St × Int32) := if z0 = 0 then some (σ, 0) else (F_X7_heardSix σ 3).bind (fun y18 => (F_X7_idOf y18.1 32766 1).bind (fun y19 => if (lg_cmp y18.2 y19.2) = 0 then (F_X7_heardSix y19.1 9).bind (fun y21 => if (lg_cmp y21.2 u1) = 0 then (F_X7_heard y21.1 15).bind (fun y23 => if y23.2 = (y23.1.1 (27) 31) then some (y23.1, 1) else some (y23.1, 0)) else some (y21.1, 0)) else some (y19.1, 0)))
def F_X7_isReply_L102 (σ : St) (u1 : Int64) (u3 : Int32) : Option (St × Int32) := (F_X7_heard σ 2).bind (fun y25 => (F_X7_heard y25.1 y25.2).bind (fun y26 => (F_X7_heard y26.1 2).bind (fun y27 => (F_X7_heard y27.1 (y27.2 + 1)).bind (fun y28 => if (u3 - u3 / 65536 * 65536) = ((y26.2 * 256) + y28.2) then F_X7_isReply_L139 y28.1 u1 1 else F_X7_isReply_L139 y28.1 u1 0))))
def F_X7_isReply_L77 (K102 : St → Int64 → Int32 → Option (St × Int32)) : Nat → St → Int64 → Int32 → Int32 → Option (St × Int32)
  | 0, _, _, _, _ => none
  | fz + 1, σ, u1, u3, u4 => (F_X7_heard σ 2).bind (fun y30 => if y30.2 ≤ u4 then K102 y30.1 u1 u3 else (F_X7_heard y30.1 u4).bind (fun y32 => (F_X7_isReply_L77 K102 fz) y32.1 u1 (u3 + y32.2) (u4 + 1)))
def F_X7_isReply (σ : St) (x1 : Int64) : Option (St × Int32) := if (σ.1 (27) 25) < 26 then some (σ, 0) else (F_X7_heard σ 0).bind (fun y34 => if y34.2 = 204 then (F_X7_heard y34.1 1).bind (fun y36 => if y36.2 = 1 then (F_X7_heard y36.1 2).bind (fun y38 => if y38.2 < 24 then some (y38.1, 0) else (F_X7_heard y38.1 2).bind (fun y40 => if (y38.1.1 (27) 25) = (y40.2 + 2) then (F_X7_heard y40.1 23).bind (fun y42 => (F_X7_heard y42.1 2).bind (fun y43 => if y42.2 = (y43.2 - 24) then F_X7_isReply_L77 F_X7_isReply_L102 fu y43.1 x1 0 0 else some (y43.1, 0))) else some (y40.1, 0))) else some (y36.1, 0)) else some (y34.1, 0))
set_option maxHeartbeats 4000000 in
set_option maxRecDepth 100000 in
theorem m_X7_isReply (l : Launch) (G : va_G) (g : Nat → ClassId) (ad : Nat → Nat) (n a0 aM : Nat) (σ : St) (x1 : Int64) (x : St × Int32) (hF : F_X7_isReply σ x1 = some x) : Met l yX7_isReply zs_X7_isReply ({ frames := 2, cells := 0, slots := 0, locals := 45 } : Room) (va_Pc [.ref (ad (27)), .long x1] (wP G g ad n a0 aM σ)) (qI G g ad n a0 x) 0 0 (fun q : Nat => a0 ≤ q) := by
  refine Met.ofW (cc := cX7_isReply) (maxL := 5) (ret := (some .boolean)) (by decide) rfl ?_
  intro p e s m args below meth c s₁ B hml hv
  obtain ⟨rfl, hP, hD, hK⟩ := hv
  have hx := B.exec
  have hb := B.bytes
  have hr := B.returns
  have htA : ∀ w ∈ AL, w.before _ s = true := fun w h9 => atoms_spec (ws := zs_X7_isReply) B.pre w (List.mem_cons_of_mem _ h9)
  have hown : s.vm.findClass RX7 = some m.cls := findClass_of_methodNamed B.named
  have hlocks := B.notSynchronized
  have hW : Wd G g ad n a0 s.heap σ s.heap [] := ⟨hP, hD, va_S.rf⟩
  clear hP hD
  have hL139 : ∀ (σ : St) (u1 : Int64) (z0 : Int32) (H : Heap) (locs : List Loc) (ls : Array Slot), Wd G g ad n a0 s.heap σ H locs → lv_has ls 5 [(0, .ref (ad (27))), (1, .long u1)] → F_X7_isReply_L139  σ u1 z0 = some x → W p l e (headSpec zs_X7_isReply ({ frames := 2, cells := 0, slots := 0, locals := 45 } : Room)).room s m ([.ref (ad (27)), .long x1] : List Value).toArray below meth c H locs 0 0 (MQ below (qI G g ad n a0 x) ([.ref (ad (27)), .long x1] : List Value).toArray s 0 0 (fun q : Nat => a0 ≤ q)) (F0 m 139 ls [.int z0]) := by
    intro σ u1 z0 H locs ls hW hl hF
    unfold F_X7_isReply_L139 at hF
    refine lv_istore (lv' := [(4, .int z0), (0, .ref (ad (27))), (1, .long u1)]) hx hb dX7_isReply_139 hl (by decide) rfl (fun ls hl => ?_)
    refine lv_iload hx hb dX7_isReply_141 (lv_at hl 0 rfl) ?_
    refine lv_if_eq (tgt := 190) hx hb dX7_isReply_143 (by decide) (fun hc17 => ?_) (fun hc17 => ?_)
    · replace hF := (if_pos hc17).symm.trans hF
      refine lv_iconst (v := 0) hx hb dX7_isReply_190 (by decide) ?_
      exact r_zret hx hb hr hlocks hW rfl hF dX7_isReply_191
    · replace hF := (if_neg hc17).symm.trans hF
      refine lv_aload_n hx hb dX7_isReply_146 rfl (lv_at hl 1 rfl) ?_
      refine lv_iconst (v := 3) hx hb dX7_isReply_147 (by decide) ?_
      obtain ⟨y18, hy18, hF⟩ := bd_some hF
      refine r_bl (va_runV (As := [.int 3]) (rest := []) ⟨hx, hb, hml, hown, htA⟩ (m_X7_heardSix l G g ad n a0 aM σ 3 y18  hy18) (cwV 1 htA (gV aw_530 aw_531 aw_532 aw_382 gz_X7_heardSix) rfl rfl rfl (by decide +kernel) ⟨Nat.le_of_ble_eq_true rfl, Nat.le_of_ble_eq_true rfl⟩) (r_preV hK hW (27) (tp_lt (by decide)) (cE_k (rfl : kd 27 = 9)) rfl [.int 3]) rfl rfl hl.1 rfl (lv_room (Nat.le_of_ble_eq_true rfl)) dX7_isReply_148 ⟨Nat.zero_le _, Nat.zero_le _⟩) hW (fun H locs hW => ?_)
      refine lv_sipush (v := 32766) hx hb dX7_isReply_151 (by decide) ?_
      refine lv_lconst (v := 1) hx hb dX7_isReply_154 (by decide) ?_
      obtain ⟨y19, hy19, hF⟩ := bd_some hF
      refine r_bl (va_runS (As := [.int 32766, .long 1]) (rest := [.long y18.2]) ⟨hx, hb, hml, hown, htA⟩ (m_X7_idOf l G g ad n a0 aM y18.1 32766 1 y19  hy19) (va_cwS 2 htA (gS aw_380 aw_381 aw_382 gz_X7_idOf) rfl rfl rfl (by decide +kernel) ⟨Nat.le_of_ble_eq_true rfl, Nat.le_of_ble_eq_true rfl⟩) (r_pre hK hW [.int 32766, .long 1]) rfl rfl hl.1 rfl (lv_room (Nat.le_of_ble_eq_true rfl)) dX7_isReply_155 ⟨Nat.zero_le _, Nat.zero_le _⟩) hW (fun H locs hW => ?_)
      refine W.lcmp hx hb dX7_isReply_158 ?_
      refine lv_if_ne (tgt := 190) hx hb dX7_isReply_159 (by decide) (fun hc20 => ?_) (fun hc20 => ?_)
      · replace hF := (if_neg hc20).symm.trans hF
        refine lv_iconst (v := 0) hx hb dX7_isReply_190 (by decide) ?_
        exact r_zret hx hb hr hlocks hW rfl hF dX7_isReply_191
      · replace hF := (if_pos hc20).symm.trans hF
        refine lv_aload_n hx hb dX7_isReply_162 rfl (lv_at hl 1 rfl) ?_
        refine lv_bipush (v := 9) hx hb dX7_isReply_163 (by decide) ?_
        obtain ⟨y21, hy21, hF⟩ := bd_some hF
        refine r_bl (va_runV (As := [.int 9]) (rest := []) ⟨hx, hb, hml, hown, htA⟩ (m_X7_heardSix l G g ad n a0 aM y19.1 9 y21  hy21) (cwV 1 htA (gV aw_530 aw_531 aw_532 aw_382 gz_X7_heardSix) rfl rfl rfl (by decide +kernel) ⟨Nat.le_of_ble_eq_true rfl, Nat.le_of_ble_eq_true rfl⟩) (r_preV hK hW (27) (tp_lt (by decide)) (cE_k (rfl : kd 27 = 9)) rfl [.int 9]) rfl rfl hl.1 rfl (lv_room (Nat.le_of_ble_eq_true rfl)) dX7_isReply_165 ⟨Nat.zero_le _, Nat.zero_le _⟩) hW (fun H locs hW => ?_)
        refine lv_lload_n hx hb dX7_isReply_168 rfl (lv_at hl 2 rfl) ?_
        refine W.lcmp hx hb dX7_isReply_169 ?_
        refine lv_if_ne (tgt := 190) hx hb dX7_isReply_170 (by decide) (fun hc22 => ?_) (fun hc22 => ?_)
        · replace hF := (if_neg hc22).symm.trans hF
          refine lv_iconst (v := 0) hx hb dX7_isReply_190 (by decide) ?_
          exact r_zret hx hb hr hlocks hW rfl hF dX7_isReply_191
        · replace hF := (if_pos hc22).symm.trans hF
          refine lv_aload_n hx hb dX7_isReply_173 rfl (lv_at hl 1 rfl) ?_
          refine lv_bipush (v := 15) hx hb dX7_isReply_174 (by decide) ?_
          obtain ⟨y23, hy23, hF⟩ := bd_some hF
          refine r_bi (va_runV (As := [.int 15]) (rest := []) ⟨hx, hb, hml, hown, htA⟩ (m_X7_heard l G g ad n a0 aM y21.1 15 y23  hy23) (cwV 1 htA (gV aw_526 aw_527 aw_528 aw_382 gz_X7_heard) rfl rfl rfl (by decide +kernel) ⟨Nat.le_of_ble_eq_true rfl, Nat.le_of_ble_eq_true rfl⟩) (r_preV hK hW (27) (tp_lt (by decide)) (cE_k (rfl : kd 27 = 9)) rfl [.int 15]) rfl rfl hl.1 rfl (lv_room (Nat.le_of_ble_eq_true rfl)) dX7_isReply_176 ⟨Nat.zero_le _, Nat.zero_le _⟩) hW (fun H locs hW => ?_)
          refine lv_aload_n hx hb dX7_isReply_179 rfl (lv_at hl 1 rfl) ?_
          refine r_get (C := RX7) (T := TX7) (N := 39) hx hb htA ia_X7 hown hK hW (27) (tp_lt (by decide)) (cE_k (rfl : kd 27 = 9)) rfl 31 (by decide) (htA _ aw_521) rfl dX7_isReply_180 ?_
          refine lv_icmp_ne (tgt := 190) hx hb dX7_isReply_183 (by decide) (fun hc24 => ?_) (fun hc24 => ?_)
          · replace hF := (if_neg hc24).symm.trans hF
            refine lv_iconst (v := 0) hx hb dX7_isReply_190 (by decide) ?_
            exact r_zret hx hb hr hlocks hW rfl hF dX7_isReply_191
          · replace hF := (if_pos hc24).symm.trans hF
            refine lv_iconst (v := 1) hx hb dX7_isReply_186 (by decide) ?_
            refine lv_goto (tgt := 191) hx hb dX7_isReply_187 (by decide) ?_
            exact r_zret hx hb hr hlocks hW rfl hF dX7_isReply_191
  have hL102 : ∀ (σ : St) (u1 : Int64) (u3 : Int32) (H : Heap) (locs : List Loc) (ls : Array Slot), Wd G g ad n a0 s.heap σ H locs → lv_has ls 5 [(0, .ref (ad (27))), (1, .long u1), (3, .int u3)] → F_X7_isReply_L102  σ u1 u3 = some x → W p l e (headSpec zs_X7_isReply ({ frames := 2, cells := 0, slots := 0, locals := 45 } : Room)).room s m ([.ref (ad (27)), .long x1] : List Value).toArray below meth c H locs 0 0 (MQ below (qI G g ad n a0 x) ([.ref (ad (27)), .long x1] : List Value).toArray s 0 0 (fun q : Nat => a0 ≤ q)) (F0 m 102 ls []) := by
    intro σ u1 u3 H locs ls hW hl hF
    unfold F_X7_isReply_L102 at hF
    refine lv_iload_n hx hb dX7_isReply_102 rfl (lv_at hl 2 rfl) ?_
    refine lv_ldc (v := 65536) hx hb hown (htA _ aw_409) dX7_isReply_103 ?_
    refine lv_irem hx hb dX7_isReply_105 (by decide) ?_
    refine lv_aload_n hx hb dX7_isReply_106 rfl (lv_at hl 0 rfl) ?_
    refine lv_aload_n hx hb dX7_isReply_107 rfl (lv_at hl 0 rfl) ?_
    refine lv_iconst (v := 2) hx hb dX7_isReply_108 (by decide) ?_
    obtain ⟨y25, hy25, hF⟩ := bd_some hF
    refine r_bi (va_runV (As := [.int 2]) (rest := [.ref (ad (27)), .int (u3 - u3 / 65536 * 65536)]) ⟨hx, hb, hml, hown, htA⟩ (m_X7_heard l G g ad n a0 aM σ 2 y25  hy25) (cwV 1 htA (gV aw_526 aw_527 aw_528 aw_382 gz_X7_heard) rfl rfl rfl (by decide +kernel) ⟨Nat.le_of_ble_eq_true rfl, Nat.le_of_ble_eq_true rfl⟩) (r_preV hK hW (27) (tp_lt (by decide)) (cE_k (rfl : kd 27 = 9)) rfl [.int 2]) rfl rfl hl.1 rfl (lv_room (Nat.le_of_ble_eq_true rfl)) dX7_isReply_109 ⟨Nat.zero_le _, Nat.zero_le _⟩) hW (fun H locs hW => ?_)
    obtain ⟨y26, hy26, hF⟩ := bd_some hF
    refine r_bi (va_runV (As := [.int y25.2]) (rest := [.int (u3 - u3 / 65536 * 65536)]) ⟨hx, hb, hml, hown, htA⟩ (m_X7_heard l G g ad n a0 aM y25.1 y25.2 y26  hy26) (cwV 1 htA (gV aw_526 aw_527 aw_528 aw_382 gz_X7_heard) rfl rfl rfl (by decide +kernel) ⟨Nat.le_of_ble_eq_true rfl, Nat.le_of_ble_eq_true rfl⟩) (r_preV hK hW (27) (tp_lt (by decide)) (cE_k (rfl : kd 27 = 9)) rfl [.int y25.2]) rfl rfl hl.1 rfl (lv_room (Nat.le_of_ble_eq_true rfl)) dX7_isReply_112 ⟨Nat.zero_le _, Nat.zero_le _⟩) hW (fun H locs hW => ?_)
    refine lv_sipush (v := 256) hx hb dX7_isReply_115 (by decide) ?_
    refine lv_imul hx hb dX7_isReply_118 ?_
    refine lv_aload_n hx hb dX7_isReply_119 rfl (lv_at hl 0 rfl) ?_
    refine lv_aload_n hx hb dX7_isReply_120 rfl (lv_at hl 0 rfl) ?_
    refine lv_iconst (v := 2) hx hb dX7_isReply_121 (by decide) ?_
    obtain ⟨y27, hy27, hF⟩ := bd_some hF
    refine r_bi (va_runV (As := [.int 2]) (rest := [.ref (ad (27)), .int (y26.2 * 256), .int (u3 - u3 / 65536 * 65536)]) ⟨hx, hb, hml, hown, htA⟩ (m_X7_heard l G g ad n a0 aM y26.1 2 y27  hy27) (cwV 1 htA (gV aw_526 aw_527 aw_528 aw_382 gz_X7_heard) rfl rfl rfl (by decide +kernel) ⟨Nat.le_of_ble_eq_true rfl, Nat.le_of_ble_eq_true rfl⟩) (r_preV hK hW (27) (tp_lt (by decide)) (cE_k (rfl : kd 27 = 9)) rfl [.int 2]) rfl rfl hl.1 rfl (lv_room (Nat.le_of_ble_eq_true rfl)) dX7_isReply_122 ⟨Nat.zero_le _, Nat.zero_le _⟩) hW (fun H locs hW => ?_)
    refine lv_iconst (v := 1) hx hb dX7_isReply_125 (by decide) ?_
    refine lv_iadd hx hb dX7_isReply_126 ?_
    obtain ⟨y28, hy28, hF⟩ := bd_some hF
    refine r_bi (va_runV (As := [.int (y27.2 + 1)]) (rest := [.int (y26.2 * 256), .int (u3 - u3 / 65536 * 65536)]) ⟨hx, hb, hml, hown, htA⟩ (m_X7_heard l G g ad n a0 aM y27.1 (y27.2 + 1) y28  hy28) (cwV 1 htA (gV aw_526 aw_527 aw_528 aw_382 gz_X7_heard) rfl rfl rfl (by decide +kernel) ⟨Nat.le_of_ble_eq_true rfl, Nat.le_of_ble_eq_true rfl⟩) (r_preV hK hW (27) (tp_lt (by decide)) (cE_k (rfl : kd 27 = 9)) rfl [.int (y27.2 + 1)]) rfl rfl hl.1 rfl (lv_room (Nat.le_of_ble_eq_true rfl)) dX7_isReply_127 ⟨Nat.zero_le _, Nat.zero_le _⟩) hW (fun H locs hW => ?_)
    refine lv_iadd hx hb dX7_isReply_130 ?_
    refine lv_icmp_ne (tgt := 138) hx hb dX7_isReply_131 (by decide) (fun hc29 => ?_) (fun hc29 => ?_)
    · replace hF := (if_neg hc29).symm.trans hF
      refine lv_iconst (v := 0) hx hb dX7_isReply_138 (by decide) ?_
      exact hL139 y28.1 u1 0 _ _ _  hW (lv_sub hl [0, 1] rfl) hF
    · replace hF := (if_pos hc29).symm.trans hF
      refine lv_iconst (v := 1) hx hb dX7_isReply_134 (by decide) ?_
      refine lv_goto (tgt := 139) hx hb dX7_isReply_135 (by decide) ?_
      exact hL139 y28.1 u1 1 _ _ _  hW (lv_sub hl [0, 1] rfl) hF
  have hL77 : ∀ (fz77 : Nat) (σ : St) (u1 : Int64) (u3 : Int32) (u4 : Int32) (H : Heap) (locs : List Loc) (ls : Array Slot), Wd G g ad n a0 s.heap σ H locs → lv_has ls 5 [(0, .ref (ad (27))), (1, .long u1), (3, .int u3), (4, .int u4)] → F_X7_isReply_L77 (F_X7_isReply_L102) fz77 σ u1 u3 u4 = some x → W p l e (headSpec zs_X7_isReply ({ frames := 2, cells := 0, slots := 0, locals := 45 } : Room)).room s m ([.ref (ad (27)), .long x1] : List Value).toArray below meth c H locs 0 0 (MQ below (qI G g ad n a0 x) ([.ref (ad (27)), .long x1] : List Value).toArray s 0 0 (fun q : Nat => a0 ≤ q)) (F0 m 77 ls []) := by
    intro fz77
    induction fz77 with
    | zero =>
      intro σ u1 u3 u4 H locs ls hW hl hF
      exact absurd hF (by simp [F_X7_isReply_L77])
    | succ fz77 ih =>
      have hB77 := ih
      intro σ u1 u3 u4 H locs ls hW hl hF
      unfold F_X7_isReply_L77 at hF
      refine lv_iload hx hb dX7_isReply_77 (lv_at hl 3 rfl) ?_
      refine lv_aload_n hx hb dX7_isReply_79 rfl (lv_at hl 0 rfl) ?_
      refine lv_iconst (v := 2) hx hb dX7_isReply_80 (by decide) ?_
      obtain ⟨y30, hy30, hF⟩ := bd_some hF
      refine r_bi (va_runV (As := [.int 2]) (rest := [.int u4]) ⟨hx, hb, hml, hown, htA⟩ (m_X7_heard l G g ad n a0 aM σ 2 y30  hy30) (cwV 1 htA (gV aw_526 aw_527 aw_528 aw_382 gz_X7_heard) rfl rfl rfl (by decide +kernel) ⟨Nat.le_of_ble_eq_true rfl, Nat.le_of_ble_eq_true rfl⟩) (r_preV hK hW (27) (tp_lt (by decide)) (cE_k (rfl : kd 27 = 9)) rfl [.int 2]) rfl rfl hl.1 rfl (lv_room (Nat.le_of_ble_eq_true rfl)) dX7_isReply_81 ⟨Nat.zero_le _, Nat.zero_le _⟩) hW (fun H locs hW => ?_)
      refine lv_icmp_ge (tgt := 102) hx hb dX7_isReply_84 (by decide) (fun hc31 => ?_) (fun hc31 => ?_)
      · replace hF := (if_pos hc31).symm.trans hF
        exact hL102 y30.1 u1 u3 _ _ _  hW (lv_sub hl [0, 1, 2] rfl) hF
      · replace hF := (if_neg hc31).symm.trans hF
        refine lv_iload_n hx hb dX7_isReply_87 rfl (lv_at hl 2 rfl) ?_
        refine lv_aload_n hx hb dX7_isReply_88 rfl (lv_at hl 0 rfl) ?_
        refine lv_iload hx hb dX7_isReply_89 (lv_at hl 3 rfl) ?_
        obtain ⟨y32, hy32, hF⟩ := bd_some hF
        refine r_bi (va_runV (As := [.int u4]) (rest := [.int u3]) ⟨hx, hb, hml, hown, htA⟩ (m_X7_heard l G g ad n a0 aM y30.1 u4 y32  hy32) (cwV 1 htA (gV aw_526 aw_527 aw_528 aw_382 gz_X7_heard) rfl rfl rfl (by decide +kernel) ⟨Nat.le_of_ble_eq_true rfl, Nat.le_of_ble_eq_true rfl⟩) (r_preV hK hW (27) (tp_lt (by decide)) (cE_k (rfl : kd 27 = 9)) rfl [.int u4]) rfl rfl hl.1 rfl (lv_room (Nat.le_of_ble_eq_true rfl)) dX7_isReply_91 ⟨Nat.zero_le _, Nat.zero_le _⟩) hW (fun H locs hW => ?_)
        refine lv_iadd hx hb dX7_isReply_94 ?_
        refine lv_istore_n (lv' := [(3, .int (u3 + y32.2)), (0, .ref (ad (27))), (1, .long u1), (4, .int u4)]) hx hb dX7_isReply_95 rfl hl (by decide) rfl (fun ls hl => ?_)
        refine lv_iinc (v := (u4 + 1)) (lv' := [(4, .int (u4 + 1)), (3, .int (u3 + y32.2)), (0, .ref (ad (27))), (1, .long u1)]) hx hb dX7_isReply_96 hl (k := 3) rfl rfl (by decide) rfl (fun ls hl => ?_)
        refine lv_goto (tgt := 77) hx hb dX7_isReply_99 (by decide) ?_
        exact hB77 y32.1 u1 (u3 + y32.2) (u4 + 1) _ _ _  hW (lv_sub hl [2, 3, 1, 0] rfl) hF
  have hL77 := hL77 fu
  have hl := lv_entry ([.ref (ad (27)), .long x1]) (n := 5) (Nat.le_of_ble_eq_true rfl)
  rw [lg_entry_eq]
  generalize (lg_sl ([.ref (ad (27)), .long x1]) ++ List.replicate (5 - (lg_sl ([.ref (ad (27)), .long x1])).length) Slot.unset).toArray = ls at hl ⊢
  have hl : lv_has ls 5 [(0, .ref (ad (27))), (1, .long x1)] := hl
  unfold F_X7_isReply at hF
  refine lv_aload_n hx hb dX7_isReply_0 rfl (lv_at hl 0 rfl) ?_
  refine r_get (C := RX7) (T := TX7) (N := 39) hx hb htA ia_X7 hown hK hW (27) (tp_lt (by decide)) (cE_k (rfl : kd 27 = 9)) rfl 25 (by decide) (htA _ aw_489) rfl dX7_isReply_1 ?_
  refine lv_bipush (v := 26) hx hb dX7_isReply_4 (by decide) ?_
  refine lv_icmp_lt (tgt := 70) hx hb dX7_isReply_6 (by decide) (fun hc33 => ?_) (fun hc33 => ?_)
  · replace hF := (if_pos hc33).symm.trans hF
    refine lv_iconst (v := 0) hx hb dX7_isReply_70 (by decide) ?_
    exact r_zret hx hb hr hlocks hW rfl hF dX7_isReply_71
  · replace hF := (if_neg hc33).symm.trans hF
    refine lv_aload_n hx hb dX7_isReply_9 rfl (lv_at hl 0 rfl) ?_
    refine lv_iconst (v := 0) hx hb dX7_isReply_10 (by decide) ?_
    obtain ⟨y34, hy34, hF⟩ := bd_some hF
    refine r_bi (va_runV (As := [.int 0]) (rest := []) ⟨hx, hb, hml, hown, htA⟩ (m_X7_heard l G g ad n a0 aM σ 0 y34  hy34) (cwV 1 htA (gV aw_526 aw_527 aw_528 aw_382 gz_X7_heard) rfl rfl rfl (by decide +kernel) ⟨Nat.le_of_ble_eq_true rfl, Nat.le_of_ble_eq_true rfl⟩) (r_preV hK hW (27) (tp_lt (by decide)) (cE_k (rfl : kd 27 = 9)) rfl [.int 0]) rfl rfl hl.1 rfl (lv_room (Nat.le_of_ble_eq_true rfl)) dX7_isReply_11 ⟨Nat.zero_le _, Nat.zero_le _⟩) hW (fun H locs hW => ?_)
    refine lv_sipush (v := 204) hx hb dX7_isReply_14 (by decide) ?_
    refine lv_icmp_ne (tgt := 70) hx hb dX7_isReply_17 (by decide) (fun hc35 => ?_) (fun hc35 => ?_)
    · replace hF := (if_neg hc35).symm.trans hF
      refine lv_iconst (v := 0) hx hb dX7_isReply_70 (by decide) ?_
      exact r_zret hx hb hr hlocks hW rfl hF dX7_isReply_71
    · replace hF := (if_pos hc35).symm.trans hF
      refine lv_aload_n hx hb dX7_isReply_20 rfl (lv_at hl 0 rfl) ?_
      refine lv_iconst (v := 1) hx hb dX7_isReply_21 (by decide) ?_
      obtain ⟨y36, hy36, hF⟩ := bd_some hF
      refine r_bi (va_runV (As := [.int 1]) (rest := []) ⟨hx, hb, hml, hown, htA⟩ (m_X7_heard l G g ad n a0 aM y34.1 1 y36  hy36) (cwV 1 htA (gV aw_526 aw_527 aw_528 aw_382 gz_X7_heard) rfl rfl rfl (by decide +kernel) ⟨Nat.le_of_ble_eq_true rfl, Nat.le_of_ble_eq_true rfl⟩) (r_preV hK hW (27) (tp_lt (by decide)) (cE_k (rfl : kd 27 = 9)) rfl [.int 1]) rfl rfl hl.1 rfl (lv_room (Nat.le_of_ble_eq_true rfl)) dX7_isReply_22 ⟨Nat.zero_le _, Nat.zero_le _⟩) hW (fun H locs hW => ?_)
      refine lv_iconst (v := 1) hx hb dX7_isReply_25 (by decide) ?_
      refine lv_icmp_ne (tgt := 70) hx hb dX7_isReply_26 (by decide) (fun hc37 => ?_) (fun hc37 => ?_)
      · replace hF := (if_neg hc37).symm.trans hF
        refine lv_iconst (v := 0) hx hb dX7_isReply_70 (by decide) ?_
        exact r_zret hx hb hr hlocks hW rfl hF dX7_isReply_71
      · replace hF := (if_pos hc37).symm.trans hF
        refine lv_aload_n hx hb dX7_isReply_29 rfl (lv_at hl 0 rfl) ?_
        refine lv_iconst (v := 2) hx hb dX7_isReply_30 (by decide) ?_
        obtain ⟨y38, hy38, hF⟩ := bd_some hF
        refine r_bi (va_runV (As := [.int 2]) (rest := []) ⟨hx, hb, hml, hown, htA⟩ (m_X7_heard l G g ad n a0 aM y36.1 2 y38  hy38) (cwV 1 htA (gV aw_526 aw_527 aw_528 aw_382 gz_X7_heard) rfl rfl rfl (by decide +kernel) ⟨Nat.le_of_ble_eq_true rfl, Nat.le_of_ble_eq_true rfl⟩) (r_preV hK hW (27) (tp_lt (by decide)) (cE_k (rfl : kd 27 = 9)) rfl [.int 2]) rfl rfl hl.1 rfl (lv_room (Nat.le_of_ble_eq_true rfl)) dX7_isReply_31 ⟨Nat.zero_le _, Nat.zero_le _⟩) hW (fun H locs hW => ?_)
        refine lv_bipush (v := 24) hx hb dX7_isReply_34 (by decide) ?_
        refine lv_icmp_lt (tgt := 70) hx hb dX7_isReply_36 (by decide) (fun hc39 => ?_) (fun hc39 => ?_)
        · replace hF := (if_pos hc39).symm.trans hF
          refine lv_iconst (v := 0) hx hb dX7_isReply_70 (by decide) ?_
          exact r_zret hx hb hr hlocks hW rfl hF dX7_isReply_71
        · replace hF := (if_neg hc39).symm.trans hF
          refine lv_aload_n hx hb dX7_isReply_39 rfl (lv_at hl 0 rfl) ?_
          refine r_get (C := RX7) (T := TX7) (N := 39) hx hb htA ia_X7 hown hK hW (27) (tp_lt (by decide)) (cE_k (rfl : kd 27 = 9)) rfl 25 (by decide) (htA _ aw_489) rfl dX7_isReply_40 ?_
          refine lv_aload_n hx hb dX7_isReply_43 rfl (lv_at hl 0 rfl) ?_
          refine lv_iconst (v := 2) hx hb dX7_isReply_44 (by decide) ?_
          obtain ⟨y40, hy40, hF⟩ := bd_some hF
          refine r_bi (va_runV (As := [.int 2]) (rest := [.int (y38.1.1 (27) 25)]) ⟨hx, hb, hml, hown, htA⟩ (m_X7_heard l G g ad n a0 aM y38.1 2 y40  hy40) (cwV 1 htA (gV aw_526 aw_527 aw_528 aw_382 gz_X7_heard) rfl rfl rfl (by decide +kernel) ⟨Nat.le_of_ble_eq_true rfl, Nat.le_of_ble_eq_true rfl⟩) (r_preV hK hW (27) (tp_lt (by decide)) (cE_k (rfl : kd 27 = 9)) rfl [.int 2]) rfl rfl hl.1 rfl (lv_room (Nat.le_of_ble_eq_true rfl)) dX7_isReply_45 ⟨Nat.zero_le _, Nat.zero_le _⟩) hW (fun H locs hW => ?_)
          refine lv_iconst (v := 2) hx hb dX7_isReply_48 (by decide) ?_
          refine lv_iadd hx hb dX7_isReply_49 ?_
          refine lv_icmp_ne (tgt := 70) hx hb dX7_isReply_50 (by decide) (fun hc41 => ?_) (fun hc41 => ?_)
          · replace hF := (if_neg hc41).symm.trans hF
            refine lv_iconst (v := 0) hx hb dX7_isReply_70 (by decide) ?_
            exact r_zret hx hb hr hlocks hW rfl hF dX7_isReply_71
          · replace hF := (if_pos hc41).symm.trans hF
            refine lv_aload_n hx hb dX7_isReply_53 rfl (lv_at hl 0 rfl) ?_
            refine lv_bipush (v := 23) hx hb dX7_isReply_54 (by decide) ?_
            obtain ⟨y42, hy42, hF⟩ := bd_some hF
            refine r_bi (va_runV (As := [.int 23]) (rest := []) ⟨hx, hb, hml, hown, htA⟩ (m_X7_heard l G g ad n a0 aM y40.1 23 y42  hy42) (cwV 1 htA (gV aw_526 aw_527 aw_528 aw_382 gz_X7_heard) rfl rfl rfl (by decide +kernel) ⟨Nat.le_of_ble_eq_true rfl, Nat.le_of_ble_eq_true rfl⟩) (r_preV hK hW (27) (tp_lt (by decide)) (cE_k (rfl : kd 27 = 9)) rfl [.int 23]) rfl rfl hl.1 rfl (lv_room (Nat.le_of_ble_eq_true rfl)) dX7_isReply_56 ⟨Nat.zero_le _, Nat.zero_le _⟩) hW (fun H locs hW => ?_)
            refine lv_aload_n hx hb dX7_isReply_59 rfl (lv_at hl 0 rfl) ?_
            refine lv_iconst (v := 2) hx hb dX7_isReply_60 (by decide) ?_
            obtain ⟨y43, hy43, hF⟩ := bd_some hF
            refine r_bi (va_runV (As := [.int 2]) (rest := [.int y42.2]) ⟨hx, hb, hml, hown, htA⟩ (m_X7_heard l G g ad n a0 aM y42.1 2 y43  hy43) (cwV 1 htA (gV aw_526 aw_527 aw_528 aw_382 gz_X7_heard) rfl rfl rfl (by decide +kernel) ⟨Nat.le_of_ble_eq_true rfl, Nat.le_of_ble_eq_true rfl⟩) (r_preV hK hW (27) (tp_lt (by decide)) (cE_k (rfl : kd 27 = 9)) rfl [.int 2]) rfl rfl hl.1 rfl (lv_room (Nat.le_of_ble_eq_true rfl)) dX7_isReply_61 ⟨Nat.zero_le _, Nat.zero_le _⟩) hW (fun H locs hW => ?_)
            refine lv_bipush (v := 24) hx hb dX7_isReply_64 (by decide) ?_
            refine lv_isub hx hb dX7_isReply_66 ?_
            refine lv_icmp_eq (tgt := 72) hx hb dX7_isReply_67 (by decide) (fun hc44 => ?_) (fun hc44 => ?_)
            · replace hF := (if_pos hc44).symm.trans hF
              refine lv_iconst (v := 0) hx hb dX7_isReply_72 (by decide) ?_
              refine lv_istore_n (lv' := [(3, .int 0), (0, .ref (ad (27))), (1, .long x1)]) hx hb dX7_isReply_73 rfl hl (by decide) rfl (fun ls hl => ?_)
              refine lv_iconst (v := 0) hx hb dX7_isReply_74 (by decide) ?_
              refine lv_istore (lv' := [(4, .int 0), (3, .int 0), (0, .ref (ad (27))), (1, .long x1)]) hx hb dX7_isReply_75 hl (by decide) rfl (fun ls hl => ?_)
              exact hL77 y43.1 x1 0 0 _ _ _  hW (lv_sub hl [2, 3, 1, 0] rfl) hF
            · replace hF := (if_neg hc44).symm.trans hF
              refine lv_iconst (v := 0) hx hb dX7_isReply_70 (by decide) ?_
              exact r_zret hx hb hr hlocks hW rfl hF dX7_isReply_71
def F_X7_ask_L128 (σ : St) (u1 : Int32) (u2 : Int64) : Option (St × Int32) := nm (sI σ (27) 20 0) (fun w16 => (F_X7_sendOff w16).bind (fun y17 => if (y17.1 (27) 25) = 0 then some (y17, (-1)) else (F_X7_idOf y17 u1 u2).bind (fun y19 => (F_X7_isReply y19.1 y19.2).bind (fun y20 => if y20.2 = 0 then some (y20.1, (-2)) else (F_X7_heard y20.1 16).bind (fun y22 => some (y22.1, y22.2))))))
def F_X7_ask_L94 (K128 : St → Int32 → Int64 → Option (St × Int32)) : Nat → St → Int32 → Int64 → Int32 → Option (St × Int32)
  | 0, _, _, _, _ => none
  | fz + 1, σ, u1, u2, u7 => if (σ.1 (27) 20) ≤ u7 then K128 σ u1 u2 else if 231 ≤ u7 then K128 σ u1 u2 else gd (ib u7 (ln (45))) ((F_X7_write σ (σ.1 (45) (Int32.toNatClampNeg u7))).bind (fun y26 => (F_X7_ask_L94 K128 fz) y26 u1 u2 (u7 + 1)))
def F_X7_ask_L68 (σ : St) (u1 : Int32) (u2 : Int64) (u4 : Int32) (u5 : Int32) (u6 : Int32) (z0 : Int32) : Option (St × Int32) := (F_X7_goes σ z0).bind (fun y27 => if y27.2 = 0 then some (y27.1, 0) else (F_X7_idOf y27.1 u1 u2).bind (fun y29 => (F_X7_beginPacket y29.1 y29.2 u4 u5 u6).bind (fun y30 => F_X7_ask_L94 F_X7_ask_L128 fu y30 u1 u2 0)))
def F_X7_ask_L67 (σ : St) (u1 : Int32) (u2 : Int64) (u4 : Int32) (u5 : Int32) (u6 : Int32) : Option (St × Int32) := F_X7_ask_L68 σ u1 u2 u4 u5 u6 0
def F_X7_ask (σ : St) (x1 : Int32) (x2 : Int64) (x4 : Int32) (x5 : Int32) (x6 : Int32) : Option (St × Int32) := (F_X7_in σ (Int32.toInt64 x1) 0 65535).bind (fun y31 => if y31.2 = 0 then F_X7_ask_L67 y31.1 x1 x2 x4 x5 x6 else (F_X7_in y31.1 x2 0 4294967295).bind (fun y33 => if y33.2 = 0 then F_X7_ask_L67 y33.1 x1 x2 x4 x5 x6 else (F_X7_in y33.1 (Int32.toInt64 x4) 0 65535).bind (fun y35 => if y35.2 = 0 then F_X7_ask_L67 y35.1 x1 x2 x4 x5 x6 else (F_X7_in y35.1 (Int32.toInt64 x5) 0 255).bind (fun y37 => if y37.2 = 0 then F_X7_ask_L67 y37.1 x1 x2 x4 x5 x6 else (F_X7_in y37.1 (Int32.toInt64 x6) 0 65535).bind (fun y39 => if y39.2 = 0 then F_X7_ask_L67 y39.1 x1 x2 x4 x5 x6 else F_X7_ask_L68 y39.1 x1 x2 x4 x5 x6 1)))))
set_option maxHeartbeats 4000000 in
set_option maxRecDepth 100000 in
theorem m_X7_ask (l : Launch) (G : va_G) (g : Nat → ClassId) (ad : Nat → Nat) (n a0 aM : Nat) (σ : St) (x1 : Int32) (x2 : Int64) (x4 : Int32) (x5 : Int32) (x6 : Int32) (x : St × Int32) (hF : F_X7_ask σ x1 x2 x4 x5 x6 = some x) : Met l yX7_ask zs_X7_ask ({ frames := 9, cells := 0, slots := 0, locals := 211 } : Room) (va_Pc [.ref (ad (27)), .int x1, .long x2, .int x4, .int x5, .int x6] (wP G g ad n a0 aM σ)) (qI G g ad n a0 x) 0 0 (fun q : Nat => a0 ≤ q) := by
  refine Met.ofW (cc := cX7_ask) (maxL := 8) (ret := (some .int)) (by decide) rfl ?_
  intro p e s m args below meth c s₁ B hml hv
  obtain ⟨rfl, hP, hD, hK⟩ := hv
  have hx := B.exec
  have hb := B.bytes
  have hr := B.returns
  have htA : ∀ w ∈ AL, w.before _ s = true := fun w h9 => atoms_spec (ws := zs_X7_ask) B.pre w (List.mem_cons_of_mem _ h9)
  have hown : s.vm.findClass RX7 = some m.cls := findClass_of_methodNamed B.named
  have hlocks := B.notSynchronized
  have hW : Wd G g ad n a0 s.heap σ s.heap [] := ⟨hP, hD, va_S.rf⟩
  clear hP hD
  have hL128 : ∀ (σ : St) (u1 : Int32) (u2 : Int64) (H : Heap) (locs : List Loc) (ls : Array Slot), Wd G g ad n a0 s.heap σ H locs → lv_has ls 8 [(0, .ref (ad (27))), (1, .int u1), (2, .long u2)] → F_X7_ask_L128  σ u1 u2 = some x → W p l e (headSpec zs_X7_ask ({ frames := 9, cells := 0, slots := 0, locals := 211 } : Room)).room s m ([.ref (ad (27)), .int x1, .long x2, .int x4, .int x5, .int x6] : List Value).toArray below meth c H locs 0 0 (MQ below (qI G g ad n a0 x) ([.ref (ad (27)), .int x1, .long x2, .int x4, .int x5, .int x6] : List Value).toArray s 0 0 (fun q : Nat => a0 ≤ q)) (F0 m 128 ls []) := by
    intro σ u1 u2 H locs ls hW hl hF
    unfold F_X7_ask_L128 at hF
    refine lv_aload_n hx hb dX7_ask_128 rfl (lv_at hl 0 rfl) ?_
    refine lv_iconst (v := 0) hx hb dX7_ask_129 (by decide) ?_
    refine r_putI (C := RX7) (T := TX7) (N := 39) (ty := .int) hx hb htA ia_X7 tyX7 tyX7_ok nmX7 hown hK hW (27) (tp_lt (by decide)) (cE_k (rfl : kd 27 = 9)) rfl 20 (by decide) (cE_k (rfl : kd 27 = 9)) (htA _ aw_393) rfl (by decide +kernel) rfl rfl (Nat.le_of_ble_eq_true rfl) dX7_ask_130 (fun H locs hW => ?_)
    obtain ⟨w16, ew16, hF⟩ := nm_some hF
    rw [← ew16] at hW
    refine lv_aload_n hx hb dX7_ask_133 rfl (lv_at hl 0 rfl) ?_
    obtain ⟨y17, hy17, hF⟩ := bd_some hF
    refine r_bv (va_runV (As := []) (rest := []) ⟨hx, hb, hml, hown, htA⟩ (m_X7_sendOff l G g ad n a0 aM w16 y17  hy17) (cwV 0 htA (gV aw_539 aw_540 aw_541 aw_382 gz_X7_sendOff) rfl rfl rfl (by decide +kernel) ⟨Nat.le_of_ble_eq_true rfl, Nat.le_of_ble_eq_true rfl⟩) (r_preV hK hW (27) (tp_lt (by decide)) (cE_k (rfl : kd 27 = 9)) rfl []) rfl rfl hl.1 rfl (lv_room (Nat.le_of_ble_eq_true rfl)) dX7_ask_134 ⟨Nat.zero_le _, Nat.zero_le _⟩) hW (fun H locs hW => ?_)
    refine lv_aload_n hx hb dX7_ask_137 rfl (lv_at hl 0 rfl) ?_
    refine r_get (C := RX7) (T := TX7) (N := 39) hx hb htA ia_X7 hown hK hW (27) (tp_lt (by decide)) (cE_k (rfl : kd 27 = 9)) rfl 25 (by decide) (htA _ aw_489) rfl dX7_ask_138 ?_
    refine lv_if_ne (tgt := 148) hx hb dX7_ask_141 (by decide) (fun hc18 => ?_) (fun hc18 => ?_)
    · replace hF := (if_neg hc18).symm.trans hF
      refine lv_aload_n hx hb dX7_ask_148 rfl (lv_at hl 0 rfl) ?_
      refine lv_iload_n hx hb dX7_ask_149 rfl (lv_at hl 1 rfl) ?_
      refine lv_lload_n hx hb dX7_ask_150 rfl (lv_at hl 2 rfl) ?_
      obtain ⟨y19, hy19, hF⟩ := bd_some hF
      refine r_bl (va_runS (As := [.int u1, .long u2]) (rest := [.ref (ad (27))]) ⟨hx, hb, hml, hown, htA⟩ (m_X7_idOf l G g ad n a0 aM y17 u1 u2 y19  hy19) (va_cwS 2 htA (gS aw_380 aw_381 aw_382 gz_X7_idOf) rfl rfl rfl (by decide +kernel) ⟨Nat.le_of_ble_eq_true rfl, Nat.le_of_ble_eq_true rfl⟩) (r_pre hK hW [.int u1, .long u2]) rfl rfl hl.1 rfl (lv_room (Nat.le_of_ble_eq_true rfl)) dX7_ask_151 ⟨Nat.zero_le _, Nat.zero_le _⟩) hW (fun H locs hW => ?_)
      obtain ⟨y20, hy20, hF⟩ := bd_some hF
      refine r_bi (va_runV (As := [.long y19.2]) (rest := []) ⟨hx, hb, hml, hown, htA⟩ (m_X7_isReply l G g ad n a0 aM y19.1 y19.2 y20  hy20) (cwV 1 htA (gV aw_543 aw_544 aw_545 aw_382 gz_X7_isReply) rfl rfl rfl (by decide +kernel) ⟨Nat.le_of_ble_eq_true rfl, Nat.le_of_ble_eq_true rfl⟩) (r_preV hK hW (27) (tp_lt (by decide)) (cE_k (rfl : kd 27 = 9)) rfl [.long y19.2]) rfl rfl hl.1 rfl (lv_room (Nat.le_of_ble_eq_true rfl)) dX7_ask_154 ⟨Nat.zero_le _, Nat.zero_le _⟩) hW (fun H locs hW => ?_)
      refine lv_if_eq (tgt := 169) hx hb dX7_ask_157 (by decide) (fun hc21 => ?_) (fun hc21 => ?_)
      · replace hF := (if_pos hc21).symm.trans hF
        refine lv_bipush (v := (-2)) hx hb dX7_ask_169 (by decide) ?_
        exact r_iret hx hb hr hlocks hW hF dX7_ask_171
      · replace hF := (if_neg hc21).symm.trans hF
        refine lv_aload_n hx hb dX7_ask_160 rfl (lv_at hl 0 rfl) ?_
        refine lv_bipush (v := 16) hx hb dX7_ask_161 (by decide) ?_
        obtain ⟨y22, hy22, hF⟩ := bd_some hF
        refine r_bi (va_runV (As := [.int 16]) (rest := []) ⟨hx, hb, hml, hown, htA⟩ (m_X7_heard l G g ad n a0 aM y20.1 16 y22  hy22) (cwV 1 htA (gV aw_526 aw_527 aw_528 aw_382 gz_X7_heard) rfl rfl rfl (by decide +kernel) ⟨Nat.le_of_ble_eq_true rfl, Nat.le_of_ble_eq_true rfl⟩) (r_preV hK hW (27) (tp_lt (by decide)) (cE_k (rfl : kd 27 = 9)) rfl [.int 16]) rfl rfl hl.1 rfl (lv_room (Nat.le_of_ble_eq_true rfl)) dX7_ask_163 ⟨Nat.zero_le _, Nat.zero_le _⟩) hW (fun H locs hW => ?_)
        refine lv_goto (tgt := 171) hx hb dX7_ask_166 (by decide) ?_
        exact r_iret hx hb hr hlocks hW hF dX7_ask_171
    · replace hF := (if_pos hc18).symm.trans hF
      refine lv_iconst (v := (-1)) hx hb dX7_ask_144 (by decide) ?_
      refine lv_goto (tgt := 171) hx hb dX7_ask_145 (by decide) ?_
      exact r_iret hx hb hr hlocks hW hF dX7_ask_171
  have hL94 : ∀ (fz94 : Nat) (σ : St) (u1 : Int32) (u2 : Int64) (u7 : Int32) (H : Heap) (locs : List Loc) (ls : Array Slot), Wd G g ad n a0 s.heap σ H locs → lv_has ls 8 [(0, .ref (ad (27))), (1, .int u1), (2, .long u2), (7, .int u7)] → F_X7_ask_L94 (F_X7_ask_L128) fz94 σ u1 u2 u7 = some x → W p l e (headSpec zs_X7_ask ({ frames := 9, cells := 0, slots := 0, locals := 211 } : Room)).room s m ([.ref (ad (27)), .int x1, .long x2, .int x4, .int x5, .int x6] : List Value).toArray below meth c H locs 0 0 (MQ below (qI G g ad n a0 x) ([.ref (ad (27)), .int x1, .long x2, .int x4, .int x5, .int x6] : List Value).toArray s 0 0 (fun q : Nat => a0 ≤ q)) (F0 m 94 ls []) := by
    intro fz94
    induction fz94 with
    | zero =>
      intro σ u1 u2 u7 H locs ls hW hl hF
      exact absurd hF (by simp [F_X7_ask_L94])
    | succ fz94 ih =>
      have hB94 := ih
      intro σ u1 u2 u7 H locs ls hW hl hF
      unfold F_X7_ask_L94 at hF
      refine lv_iload hx hb dX7_ask_94 (lv_at hl 3 rfl) ?_
      refine lv_aload_n hx hb dX7_ask_96 rfl (lv_at hl 0 rfl) ?_
      refine r_get (C := RX7) (T := TX7) (N := 39) hx hb htA ia_X7 hown hK hW (27) (tp_lt (by decide)) (cE_k (rfl : kd 27 = 9)) rfl 20 (by decide) (htA _ aw_393) rfl dX7_ask_97 ?_
      refine lv_icmp_ge (tgt := 128) hx hb dX7_ask_100 (by decide) (fun hc23 => ?_) (fun hc23 => ?_)
      · replace hF := (if_pos hc23).symm.trans hF
        exact hL128 σ u1 u2 _ _ _  hW (lv_sub hl [0, 1, 2] rfl) hF
      · replace hF := (if_neg hc23).symm.trans hF
        refine lv_iload hx hb dX7_ask_103 (lv_at hl 3 rfl) ?_
        refine lv_sipush (v := 231) hx hb dX7_ask_105 (by decide) ?_
        refine lv_icmp_ge (tgt := 128) hx hb dX7_ask_108 (by decide) (fun hc24 => ?_) (fun hc24 => ?_)
        · replace hF := (if_pos hc24).symm.trans hF
          exact hL128 σ u1 u2 _ _ _  hW (lv_sub hl [0, 1, 2] rfl) hF
        · replace hF := (if_neg hc24).symm.trans hF
          refine lv_aload_n hx hb dX7_ask_111 rfl (lv_at hl 0 rfl) ?_
          refine lv_aload_n hx hb dX7_ask_112 rfl (lv_at hl 0 rfl) ?_
          refine r_get (C := RX7) (T := TX7) (N := 39) hx hb htA ia_X7 hown hK hW (27) (tp_lt (by decide)) (cE_k (rfl : kd 27 = 9)) rfl 19 (by decide) (htA _ aw_370) rfl dX7_ask_113 ?_
          refine lv_iload hx hb dX7_ask_116 (lv_at hl 3 rfl) ?_
          obtain ⟨hg25, hF⟩ := gd_some hF
          refine r_bald hx hb hK hW (45) (tp_lt (by decide)) (rfl : kd 45 = 10) hg25 dX7_ask_118 ?_
          obtain ⟨y26, hy26, hF⟩ := bd_some hF
          refine r_bv (va_runV (As := [.int (σ.1 (45) (Int32.toNatClampNeg u7))]) (rest := []) ⟨hx, hb, hml, hown, htA⟩ (m_X7_write l G g ad n a0 aM σ (σ.1 (45) (Int32.toNatClampNeg u7)) y26  hy26) (cwV 1 htA (gV aw_517 aw_518 aw_519 aw_382 gz_X7_write) rfl rfl rfl (by decide +kernel) ⟨Nat.le_of_ble_eq_true rfl, Nat.le_of_ble_eq_true rfl⟩) (r_preV hK hW (27) (tp_lt (by decide)) (cE_k (rfl : kd 27 = 9)) rfl [.int (σ.1 (45) (Int32.toNatClampNeg u7))]) rfl rfl hl.1 rfl (lv_room (Nat.le_of_ble_eq_true rfl)) dX7_ask_119 ⟨Nat.zero_le _, Nat.zero_le _⟩) hW (fun H locs hW => ?_)
          refine lv_iinc (v := (u7 + 1)) (lv' := [(7, .int (u7 + 1)), (0, .ref (ad (27))), (1, .int u1), (2, .long u2)]) hx hb dX7_ask_122 hl (k := 3) rfl rfl (by decide) rfl (fun ls hl => ?_)
          refine lv_goto (tgt := 94) hx hb dX7_ask_125 (by decide) ?_
          exact hB94 y26 u1 u2 (u7 + 1) _ _ _  hW (lv_sub hl [1, 2, 3, 0] rfl) hF
  have hL94 := hL94 fu
  have hL68 : ∀ (σ : St) (u1 : Int32) (u2 : Int64) (u4 : Int32) (u5 : Int32) (u6 : Int32) (z0 : Int32) (H : Heap) (locs : List Loc) (ls : Array Slot), Wd G g ad n a0 s.heap σ H locs → lv_has ls 8 [(0, .ref (ad (27))), (1, .int u1), (2, .long u2), (4, .int u4), (5, .int u5), (6, .int u6)] → F_X7_ask_L68  σ u1 u2 u4 u5 u6 z0 = some x → W p l e (headSpec zs_X7_ask ({ frames := 9, cells := 0, slots := 0, locals := 211 } : Room)).room s m ([.ref (ad (27)), .int x1, .long x2, .int x4, .int x5, .int x6] : List Value).toArray below meth c H locs 0 0 (MQ below (qI G g ad n a0 x) ([.ref (ad (27)), .int x1, .long x2, .int x4, .int x5, .int x6] : List Value).toArray s 0 0 (fun q : Nat => a0 ≤ q)) (F0 m 68 ls [.int z0, .ref (ad (27))]) := by
    intro σ u1 u2 u4 u5 u6 z0 H locs ls hW hl hF
    unfold F_X7_ask_L68 at hF
    obtain ⟨y27, hy27, hF⟩ := bd_some hF
    refine r_bi (va_runV (As := [.int z0]) (rest := []) ⟨hx, hb, hml, hown, htA⟩ (m_X7_goes l G g ad n a0 aM σ z0 y27  hy27) (cwV 1 htA (gV aw_394 aw_395 aw_396 aw_382 gz_X7_goes) rfl rfl rfl (by decide +kernel) ⟨Nat.le_of_ble_eq_true rfl, Nat.le_of_ble_eq_true rfl⟩) (r_preV hK hW (27) (tp_lt (by decide)) (cE_k (rfl : kd 27 = 9)) rfl [.int z0]) rfl rfl hl.1 rfl (lv_room (Nat.le_of_ble_eq_true rfl)) dX7_ask_68 ⟨Nat.zero_le _, Nat.zero_le _⟩) hW (fun H locs hW => ?_)
    refine lv_if_ne (tgt := 76) hx hb dX7_ask_71 (by decide) (fun hc28 => ?_) (fun hc28 => ?_)
    · replace hF := (if_neg hc28).symm.trans hF
      refine lv_aload_n hx hb dX7_ask_76 rfl (lv_at hl 0 rfl) ?_
      refine lv_iload_n hx hb dX7_ask_77 rfl (lv_at hl 1 rfl) ?_
      refine lv_lload_n hx hb dX7_ask_78 rfl (lv_at hl 2 rfl) ?_
      obtain ⟨y29, hy29, hF⟩ := bd_some hF
      refine r_bl (va_runS (As := [.int u1, .long u2]) (rest := [.ref (ad (27))]) ⟨hx, hb, hml, hown, htA⟩ (m_X7_idOf l G g ad n a0 aM y27.1 u1 u2 y29  hy29) (va_cwS 2 htA (gS aw_380 aw_381 aw_382 gz_X7_idOf) rfl rfl rfl (by decide +kernel) ⟨Nat.le_of_ble_eq_true rfl, Nat.le_of_ble_eq_true rfl⟩) (r_pre hK hW [.int u1, .long u2]) rfl rfl hl.1 rfl (lv_room (Nat.le_of_ble_eq_true rfl)) dX7_ask_79 ⟨Nat.zero_le _, Nat.zero_le _⟩) hW (fun H locs hW => ?_)
      refine lv_iload hx hb dX7_ask_82 (lv_at hl 3 rfl) ?_
      refine lv_iload hx hb dX7_ask_84 (lv_at hl 4 rfl) ?_
      refine lv_iload hx hb dX7_ask_86 (lv_at hl 5 rfl) ?_
      obtain ⟨y30, hy30, hF⟩ := bd_some hF
      refine r_bv (va_runV (As := [.long y29.2, .int u4, .int u5, .int u6]) (rest := []) ⟨hx, hb, hml, hown, htA⟩ (m_X7_beginPacket l G g ad n a0 aM y29.1 y29.2 u4 u5 u6 y30  hy30) (cwV 4 htA (gV aw_535 aw_536 aw_537 aw_382 gz_X7_beginPacket) rfl rfl rfl (by decide +kernel) ⟨Nat.le_of_ble_eq_true rfl, Nat.le_of_ble_eq_true rfl⟩) (r_preV hK hW (27) (tp_lt (by decide)) (cE_k (rfl : kd 27 = 9)) rfl [.long y29.2, .int u4, .int u5, .int u6]) rfl rfl hl.1 rfl (lv_room (Nat.le_of_ble_eq_true rfl)) dX7_ask_88 ⟨Nat.zero_le _, Nat.zero_le _⟩) hW (fun H locs hW => ?_)
      refine lv_iconst (v := 0) hx hb dX7_ask_91 (by decide) ?_
      refine lv_istore (lv' := [(7, .int 0), (0, .ref (ad (27))), (1, .int u1), (2, .long u2), (4, .int u4), (5, .int u5), (6, .int u6)]) hx hb dX7_ask_92 hl (by decide) rfl (fun ls hl => ?_)
      exact hL94 y30 u1 u2 0 _ _ _  hW (lv_sub hl [1, 2, 3, 0] rfl) hF
    · replace hF := (if_pos hc28).symm.trans hF
      refine lv_iconst (v := 0) hx hb dX7_ask_74 (by decide) ?_
      exact r_iret hx hb hr hlocks hW hF dX7_ask_75
  have hL67 : ∀ (σ : St) (u1 : Int32) (u2 : Int64) (u4 : Int32) (u5 : Int32) (u6 : Int32) (H : Heap) (locs : List Loc) (ls : Array Slot), Wd G g ad n a0 s.heap σ H locs → lv_has ls 8 [(0, .ref (ad (27))), (1, .int u1), (2, .long u2), (4, .int u4), (5, .int u5), (6, .int u6)] → F_X7_ask_L67  σ u1 u2 u4 u5 u6 = some x → W p l e (headSpec zs_X7_ask ({ frames := 9, cells := 0, slots := 0, locals := 211 } : Room)).room s m ([.ref (ad (27)), .int x1, .long x2, .int x4, .int x5, .int x6] : List Value).toArray below meth c H locs 0 0 (MQ below (qI G g ad n a0 x) ([.ref (ad (27)), .int x1, .long x2, .int x4, .int x5, .int x6] : List Value).toArray s 0 0 (fun q : Nat => a0 ≤ q)) (F0 m 67 ls [.ref (ad (27))]) := by
    intro σ u1 u2 u4 u5 u6 H locs ls hW hl hF
    unfold F_X7_ask_L67 at hF
    refine lv_iconst (v := 0) hx hb dX7_ask_67 (by decide) ?_
    exact hL68 σ u1 u2 u4 u5 u6 0 _ _ _  hW (lv_sub hl [0, 1, 2, 3, 4, 5] rfl) hF
  have hl := lv_entry ([.ref (ad (27)), .int x1, .long x2, .int x4, .int x5, .int x6]) (n := 8) (Nat.le_of_ble_eq_true rfl)
  rw [lg_entry_eq]
  generalize (lg_sl ([.ref (ad (27)), .int x1, .long x2, .int x4, .int x5, .int x6]) ++ List.replicate (8 - (lg_sl ([.ref (ad (27)), .int x1, .long x2, .int x4, .int x5, .int x6])).length) Slot.unset).toArray = ls at hl ⊢
  have hl : lv_has ls 8 [(0, .ref (ad (27))), (1, .int x1), (2, .long x2), (4, .int x4), (5, .int x5), (6, .int x6)] := hl
  unfold F_X7_ask at hF
  refine lv_aload_n hx hb dX7_ask_0 rfl (lv_at hl 0 rfl) ?_
  refine lv_iload_n hx hb dX7_ask_1 rfl (lv_at hl 1 rfl) ?_
  refine lv_i2l (v := (Int32.toInt64 x1)) hx hb dX7_ask_2 rfl ?_
  refine lv_lconst (v := 0) hx hb dX7_ask_3 (by decide) ?_
  refine lv_ldc2 (v := 65535) hx hb hown (htA _ aw_491) dX7_ask_4 ?_
  obtain ⟨y31, hy31, hF⟩ := bd_some hF
  refine r_bi (va_runS (As := [.long (Int32.toInt64 x1), .long 0, .long 65535]) (rest := [.ref (ad (27))]) ⟨hx, hb, hml, hown, htA⟩ (m_X7_in l G g ad n a0 aM σ (Int32.toInt64 x1) 0 65535 y31  hy31) (va_cwS 3 htA (gS aw_390 aw_391 aw_382 gz_X7_in) rfl rfl rfl (by decide +kernel) ⟨Nat.le_of_ble_eq_true rfl, Nat.le_of_ble_eq_true rfl⟩) (r_pre hK hW [.long (Int32.toInt64 x1), .long 0, .long 65535]) rfl rfl hl.1 rfl (lv_room (Nat.le_of_ble_eq_true rfl)) dX7_ask_7 ⟨Nat.zero_le _, Nat.zero_le _⟩) hW (fun H locs hW => ?_)
  refine lv_if_eq (tgt := 67) hx hb dX7_ask_10 (by decide) (fun hc32 => ?_) (fun hc32 => ?_)
  · replace hF := (if_pos hc32).symm.trans hF
    exact hL67 y31.1 x1 x2 x4 x5 x6 _ _ _  hW (lv_sub hl [0, 1, 2, 3, 4, 5] rfl) hF
  · replace hF := (if_neg hc32).symm.trans hF
    refine lv_lload_n hx hb dX7_ask_13 rfl (lv_at hl 2 rfl) ?_
    refine lv_lconst (v := 0) hx hb dX7_ask_14 (by decide) ?_
    refine lv_ldc2 (v := 4294967295) hx hb hown (htA _ aw_490) dX7_ask_15 ?_
    obtain ⟨y33, hy33, hF⟩ := bd_some hF
    refine r_bi (va_runS (As := [.long x2, .long 0, .long 4294967295]) (rest := [.ref (ad (27))]) ⟨hx, hb, hml, hown, htA⟩ (m_X7_in l G g ad n a0 aM y31.1 x2 0 4294967295 y33  hy33) (va_cwS 3 htA (gS aw_390 aw_391 aw_382 gz_X7_in) rfl rfl rfl (by decide +kernel) ⟨Nat.le_of_ble_eq_true rfl, Nat.le_of_ble_eq_true rfl⟩) (r_pre hK hW [.long x2, .long 0, .long 4294967295]) rfl rfl hl.1 rfl (lv_room (Nat.le_of_ble_eq_true rfl)) dX7_ask_18 ⟨Nat.zero_le _, Nat.zero_le _⟩) hW (fun H locs hW => ?_)
    refine lv_if_eq (tgt := 67) hx hb dX7_ask_21 (by decide) (fun hc34 => ?_) (fun hc34 => ?_)
    · replace hF := (if_pos hc34).symm.trans hF
      exact hL67 y33.1 x1 x2 x4 x5 x6 _ _ _  hW (lv_sub hl [0, 1, 2, 3, 4, 5] rfl) hF
    · replace hF := (if_neg hc34).symm.trans hF
      refine lv_iload hx hb dX7_ask_24 (lv_at hl 3 rfl) ?_
      refine lv_i2l (v := (Int32.toInt64 x4)) hx hb dX7_ask_26 rfl ?_
      refine lv_lconst (v := 0) hx hb dX7_ask_27 (by decide) ?_
      refine lv_ldc2 (v := 65535) hx hb hown (htA _ aw_491) dX7_ask_28 ?_
      obtain ⟨y35, hy35, hF⟩ := bd_some hF
      refine r_bi (va_runS (As := [.long (Int32.toInt64 x4), .long 0, .long 65535]) (rest := [.ref (ad (27))]) ⟨hx, hb, hml, hown, htA⟩ (m_X7_in l G g ad n a0 aM y33.1 (Int32.toInt64 x4) 0 65535 y35  hy35) (va_cwS 3 htA (gS aw_390 aw_391 aw_382 gz_X7_in) rfl rfl rfl (by decide +kernel) ⟨Nat.le_of_ble_eq_true rfl, Nat.le_of_ble_eq_true rfl⟩) (r_pre hK hW [.long (Int32.toInt64 x4), .long 0, .long 65535]) rfl rfl hl.1 rfl (lv_room (Nat.le_of_ble_eq_true rfl)) dX7_ask_31 ⟨Nat.zero_le _, Nat.zero_le _⟩) hW (fun H locs hW => ?_)
      refine lv_if_eq (tgt := 67) hx hb dX7_ask_34 (by decide) (fun hc36 => ?_) (fun hc36 => ?_)
      · replace hF := (if_pos hc36).symm.trans hF
        exact hL67 y35.1 x1 x2 x4 x5 x6 _ _ _  hW (lv_sub hl [0, 1, 2, 3, 4, 5] rfl) hF
      · replace hF := (if_neg hc36).symm.trans hF
        refine lv_iload hx hb dX7_ask_37 (lv_at hl 4 rfl) ?_
        refine lv_i2l (v := (Int32.toInt64 x5)) hx hb dX7_ask_39 rfl ?_
        refine lv_lconst (v := 0) hx hb dX7_ask_40 (by decide) ?_
        refine lv_ldc2 (v := 255) hx hb hown (htA _ aw_534) dX7_ask_41 ?_
        obtain ⟨y37, hy37, hF⟩ := bd_some hF
        refine r_bi (va_runS (As := [.long (Int32.toInt64 x5), .long 0, .long 255]) (rest := [.ref (ad (27))]) ⟨hx, hb, hml, hown, htA⟩ (m_X7_in l G g ad n a0 aM y35.1 (Int32.toInt64 x5) 0 255 y37  hy37) (va_cwS 3 htA (gS aw_390 aw_391 aw_382 gz_X7_in) rfl rfl rfl (by decide +kernel) ⟨Nat.le_of_ble_eq_true rfl, Nat.le_of_ble_eq_true rfl⟩) (r_pre hK hW [.long (Int32.toInt64 x5), .long 0, .long 255]) rfl rfl hl.1 rfl (lv_room (Nat.le_of_ble_eq_true rfl)) dX7_ask_44 ⟨Nat.zero_le _, Nat.zero_le _⟩) hW (fun H locs hW => ?_)
        refine lv_if_eq (tgt := 67) hx hb dX7_ask_47 (by decide) (fun hc38 => ?_) (fun hc38 => ?_)
        · replace hF := (if_pos hc38).symm.trans hF
          exact hL67 y37.1 x1 x2 x4 x5 x6 _ _ _  hW (lv_sub hl [0, 1, 2, 3, 4, 5] rfl) hF
        · replace hF := (if_neg hc38).symm.trans hF
          refine lv_iload hx hb dX7_ask_50 (lv_at hl 5 rfl) ?_
          refine lv_i2l (v := (Int32.toInt64 x6)) hx hb dX7_ask_52 rfl ?_
          refine lv_lconst (v := 0) hx hb dX7_ask_53 (by decide) ?_
          refine lv_ldc2 (v := 65535) hx hb hown (htA _ aw_491) dX7_ask_54 ?_
          obtain ⟨y39, hy39, hF⟩ := bd_some hF
          refine r_bi (va_runS (As := [.long (Int32.toInt64 x6), .long 0, .long 65535]) (rest := [.ref (ad (27))]) ⟨hx, hb, hml, hown, htA⟩ (m_X7_in l G g ad n a0 aM y37.1 (Int32.toInt64 x6) 0 65535 y39  hy39) (va_cwS 3 htA (gS aw_390 aw_391 aw_382 gz_X7_in) rfl rfl rfl (by decide +kernel) ⟨Nat.le_of_ble_eq_true rfl, Nat.le_of_ble_eq_true rfl⟩) (r_pre hK hW [.long (Int32.toInt64 x6), .long 0, .long 65535]) rfl rfl hl.1 rfl (lv_room (Nat.le_of_ble_eq_true rfl)) dX7_ask_57 ⟨Nat.zero_le _, Nat.zero_le _⟩) hW (fun H locs hW => ?_)
          refine lv_if_eq (tgt := 67) hx hb dX7_ask_60 (by decide) (fun hc40 => ?_) (fun hc40 => ?_)
          · replace hF := (if_pos hc40).symm.trans hF
            exact hL67 y39.1 x1 x2 x4 x5 x6 _ _ _  hW (lv_sub hl [0, 1, 2, 3, 4, 5] rfl) hF
          · replace hF := (if_neg hc40).symm.trans hF
            refine lv_iconst (v := 1) hx hb dX7_ask_63 (by decide) ?_
            refine lv_goto (tgt := 68) hx hb dX7_ask_64 (by decide) ?_
            exact hL68 y39.1 x1 x2 x4 x5 x6 1 _ _ _  hW (lv_sub hl [0, 1, 2, 3, 4, 5] rfl) hF
def F_X7_spoil_L80 (σ : St) (u1 : Int32) (u2 : Int32) : Option (St) := gd (ib (σ.1 (27) 28) (ln (49))) (nm (sI σ (49) (Int32.toNatClampNeg (σ.1 (27) 28)) u1) (fun w21 => gd (ib (w21.1 (27) 28) (ln (50))) (nm (sI w21 (50) (Int32.toNatClampNeg (w21.1 (27) 28)) u2) (fun w23 => nm (sI w23 (27) 28 ((w23.1 (27) 28) + 1)) (fun w24 => some w24)))))
def F_X7_spoil_L38 (K80 : St → Int32 → Int32 → Option (St)) : Nat → St → Int32 → Int32 → Int32 → Option (St)
  | 0, _, _, _, _ => none
  | fz + 1, σ, u1, u2, u3 => if (σ.1 (27) 28) ≤ u3 then K80 σ u1 u2 else gd (ib (u3 + 1) (ln (49))) (gd (ib u3 (ln (49))) (nm (sI σ (49) (Int32.toNatClampNeg u3) (σ.1 (49) (Int32.toNatClampNeg (u3 + 1)))) (fun w28 => gd (ib (u3 + 1) (ln (50))) (gd (ib u3 (ln (50))) (nm (sI w28 (50) (Int32.toNatClampNeg u3) (w28.1 (50) (Int32.toNatClampNeg (u3 + 1)))) (fun w31 => (F_X7_spoil_L38 K80 fz) w31 u1 u2 (u3 + 1)))))))
def F_X7_spoil (σ : St) (x1 : Int32) (x2 : Int32) : Option (St) := (F_X7_in σ (Int32.toInt64 x1) 0 300).bind (fun y32 => (F_X7_goes y32.1 y32.2).bind (fun y33 => if y33.2 = 0 then some y33.1 else if (y33.1.1 (27) 28) = 16 then nm (sI y33.1 (27) 28 ((y33.1.1 (27) 28) - 1)) (fun w36 => F_X7_spoil_L38 F_X7_spoil_L80 fu w36 x1 x2 0) else F_X7_spoil_L80 y33.1 x1 x2))
set_option maxHeartbeats 4000000 in
set_option maxRecDepth 100000 in
theorem m_X7_spoil (l : Launch) (G : va_G) (g : Nat → ClassId) (ad : Nat → Nat) (n a0 aM : Nat) (σ : St) (x1 : Int32) (x2 : Int32) (x : St) (hF : F_X7_spoil σ x1 x2 = some x) : Met l yX7_spoil zs_X7_spoil ({ frames := 1, cells := 0, slots := 0, locals := 25 } : Room) (va_Pc [.ref (ad (27)), .int x1, .int x2] (wP G g ad n a0 aM σ)) (qV G g ad n a0 x) 0 0 (fun q : Nat => a0 ≤ q) := by
  refine Met.ofW (cc := cX7_spoil) (maxL := 4) (ret := none) (by decide) rfl ?_
  intro p e s m args below meth c s₁ B hml hv
  obtain ⟨rfl, hP, hD, hK⟩ := hv
  have hx := B.exec
  have hb := B.bytes
  have hr := B.returns
  have htA : ∀ w ∈ AL, w.before _ s = true := fun w h9 => atoms_spec (ws := zs_X7_spoil) B.pre w (List.mem_cons_of_mem _ h9)
  have hown : s.vm.findClass RX7 = some m.cls := findClass_of_methodNamed B.named
  have hlocks := B.notSynchronized
  have hW : Wd G g ad n a0 s.heap σ s.heap [] := ⟨hP, hD, va_S.rf⟩
  clear hP hD
  have hL80 : ∀ (σ : St) (u1 : Int32) (u2 : Int32) (H : Heap) (locs : List Loc) (ls : Array Slot), Wd G g ad n a0 s.heap σ H locs → lv_has ls 4 [(0, .ref (ad (27))), (1, .int u1), (2, .int u2)] → F_X7_spoil_L80  σ u1 u2 = some x → W p l e (headSpec zs_X7_spoil ({ frames := 1, cells := 0, slots := 0, locals := 25 } : Room)).room s m ([.ref (ad (27)), .int x1, .int x2] : List Value).toArray below meth c H locs 0 0 (MQ below (qV G g ad n a0 x) ([.ref (ad (27)), .int x1, .int x2] : List Value).toArray s 0 0 (fun q : Nat => a0 ≤ q)) (F0 m 80 ls []) := by
    intro σ u1 u2 H locs ls hW hl hF
    unfold F_X7_spoil_L80 at hF
    refine lv_aload_n hx hb dX7_spoil_80 rfl (lv_at hl 0 rfl) ?_
    refine r_get (C := RX7) (T := TX7) (N := 39) hx hb htA ia_X7 hown hK hW (27) (tp_lt (by decide)) (cE_k (rfl : kd 27 = 9)) rfl 29 (by decide) (htA _ aw_374) rfl dX7_spoil_81 ?_
    refine lv_aload_n hx hb dX7_spoil_84 rfl (lv_at hl 0 rfl) ?_
    refine r_get (C := RX7) (T := TX7) (N := 39) hx hb htA ia_X7 hown hK hW (27) (tp_lt (by decide)) (cE_k (rfl : kd 27 = 9)) rfl 28 (by decide) (htA _ aw_492) rfl dX7_spoil_85 ?_
    refine lv_iload_n hx hb dX7_spoil_88 rfl (lv_at hl 1 rfl) ?_
    obtain ⟨hg20, hF⟩ := gd_some hF
    refine r_iast hx hb hK hW (49) (tp_lt (by decide)) (rfl : kd 49 = 3) hg20 dX7_spoil_89 (fun H locs hW => ?_)
    obtain ⟨w21, ew21, hF⟩ := nm_some hF
    rw [← ew21] at hW
    refine lv_aload_n hx hb dX7_spoil_90 rfl (lv_at hl 0 rfl) ?_
    refine r_get (C := RX7) (T := TX7) (N := 39) hx hb htA ia_X7 hown hK hW (27) (tp_lt (by decide)) (cE_k (rfl : kd 27 = 9)) rfl 30 (by decide) (htA _ aw_375) rfl dX7_spoil_91 ?_
    refine lv_aload_n hx hb dX7_spoil_94 rfl (lv_at hl 0 rfl) ?_
    refine r_get (C := RX7) (T := TX7) (N := 39) hx hb htA ia_X7 hown hK hW (27) (tp_lt (by decide)) (cE_k (rfl : kd 27 = 9)) rfl 28 (by decide) (htA _ aw_492) rfl dX7_spoil_95 ?_
    refine lv_iload_n hx hb dX7_spoil_98 rfl (lv_at hl 2 rfl) ?_
    obtain ⟨hg22, hF⟩ := gd_some hF
    refine r_iast hx hb hK hW (50) (tp_lt (by decide)) (rfl : kd 50 = 3) hg22 dX7_spoil_99 (fun H locs hW => ?_)
    obtain ⟨w23, ew23, hF⟩ := nm_some hF
    rw [← ew23] at hW
    refine lv_aload_n hx hb dX7_spoil_100 rfl (lv_at hl 0 rfl) ?_
    refine lv_dup hx hb dX7_spoil_101 rfl ?_
    refine r_get (C := RX7) (T := TX7) (N := 39) hx hb htA ia_X7 hown hK hW (27) (tp_lt (by decide)) (cE_k (rfl : kd 27 = 9)) rfl 28 (by decide) (htA _ aw_492) rfl dX7_spoil_102 ?_
    refine lv_iconst (v := 1) hx hb dX7_spoil_105 (by decide) ?_
    refine lv_iadd hx hb dX7_spoil_106 ?_
    refine r_putI (C := RX7) (T := TX7) (N := 39) (ty := .int) hx hb htA ia_X7 tyX7 tyX7_ok nmX7 hown hK hW (27) (tp_lt (by decide)) (cE_k (rfl : kd 27 = 9)) rfl 28 (by decide) (cE_k (rfl : kd 27 = 9)) (htA _ aw_492) rfl (by decide +kernel) rfl rfl (Nat.le_of_ble_eq_true rfl) dX7_spoil_107 (fun H locs hW => ?_)
    obtain ⟨w24, ew24, hF⟩ := nm_some hF
    rw [← ew24] at hW
    exact r_vret hx hb hr hlocks hW hF dX7_spoil_110
  have hL38 : ∀ (fz38 : Nat) (σ : St) (u1 : Int32) (u2 : Int32) (u3 : Int32) (H : Heap) (locs : List Loc) (ls : Array Slot), Wd G g ad n a0 s.heap σ H locs → lv_has ls 4 [(0, .ref (ad (27))), (1, .int u1), (2, .int u2), (3, .int u3)] → F_X7_spoil_L38 (F_X7_spoil_L80) fz38 σ u1 u2 u3 = some x → W p l e (headSpec zs_X7_spoil ({ frames := 1, cells := 0, slots := 0, locals := 25 } : Room)).room s m ([.ref (ad (27)), .int x1, .int x2] : List Value).toArray below meth c H locs 0 0 (MQ below (qV G g ad n a0 x) ([.ref (ad (27)), .int x1, .int x2] : List Value).toArray s 0 0 (fun q : Nat => a0 ≤ q)) (F0 m 38 ls []) := by
    intro fz38
    induction fz38 with
    | zero =>
      intro σ u1 u2 u3 H locs ls hW hl hF
      exact absurd hF (by simp [F_X7_spoil_L38])
    | succ fz38 ih =>
      have hB38 := ih
      intro σ u1 u2 u3 H locs ls hW hl hF
      unfold F_X7_spoil_L38 at hF
      refine lv_iload_n hx hb dX7_spoil_38 rfl (lv_at hl 3 rfl) ?_
      refine lv_aload_n hx hb dX7_spoil_39 rfl (lv_at hl 0 rfl) ?_
      refine r_get (C := RX7) (T := TX7) (N := 39) hx hb htA ia_X7 hown hK hW (27) (tp_lt (by decide)) (cE_k (rfl : kd 27 = 9)) rfl 28 (by decide) (htA _ aw_492) rfl dX7_spoil_40 ?_
      refine lv_icmp_ge (tgt := 80) hx hb dX7_spoil_43 (by decide) (fun hc25 => ?_) (fun hc25 => ?_)
      · replace hF := (if_pos hc25).symm.trans hF
        exact hL80 σ u1 u2 _ _ _  hW (lv_sub hl [0, 1, 2] rfl) hF
      · replace hF := (if_neg hc25).symm.trans hF
        refine lv_aload_n hx hb dX7_spoil_46 rfl (lv_at hl 0 rfl) ?_
        refine r_get (C := RX7) (T := TX7) (N := 39) hx hb htA ia_X7 hown hK hW (27) (tp_lt (by decide)) (cE_k (rfl : kd 27 = 9)) rfl 29 (by decide) (htA _ aw_374) rfl dX7_spoil_47 ?_
        refine lv_iload_n hx hb dX7_spoil_50 rfl (lv_at hl 3 rfl) ?_
        refine lv_aload_n hx hb dX7_spoil_51 rfl (lv_at hl 0 rfl) ?_
        refine r_get (C := RX7) (T := TX7) (N := 39) hx hb htA ia_X7 hown hK hW (27) (tp_lt (by decide)) (cE_k (rfl : kd 27 = 9)) rfl 29 (by decide) (htA _ aw_374) rfl dX7_spoil_52 ?_
        refine lv_iload_n hx hb dX7_spoil_55 rfl (lv_at hl 3 rfl) ?_
        refine lv_iconst (v := 1) hx hb dX7_spoil_56 (by decide) ?_
        refine lv_iadd hx hb dX7_spoil_57 ?_
        obtain ⟨hg26, hF⟩ := gd_some hF
        refine r_iald hx hb hK hW (49) (tp_lt (by decide)) (rfl : kd 49 = 3) hg26 dX7_spoil_58 ?_
        obtain ⟨hg27, hF⟩ := gd_some hF
        refine r_iast hx hb hK hW (49) (tp_lt (by decide)) (rfl : kd 49 = 3) hg27 dX7_spoil_59 (fun H locs hW => ?_)
        obtain ⟨w28, ew28, hF⟩ := nm_some hF
        rw [← ew28] at hW
        refine lv_aload_n hx hb dX7_spoil_60 rfl (lv_at hl 0 rfl) ?_
        refine r_get (C := RX7) (T := TX7) (N := 39) hx hb htA ia_X7 hown hK hW (27) (tp_lt (by decide)) (cE_k (rfl : kd 27 = 9)) rfl 30 (by decide) (htA _ aw_375) rfl dX7_spoil_61 ?_
        refine lv_iload_n hx hb dX7_spoil_64 rfl (lv_at hl 3 rfl) ?_
        refine lv_aload_n hx hb dX7_spoil_65 rfl (lv_at hl 0 rfl) ?_
        refine r_get (C := RX7) (T := TX7) (N := 39) hx hb htA ia_X7 hown hK hW (27) (tp_lt (by decide)) (cE_k (rfl : kd 27 = 9)) rfl 30 (by decide) (htA _ aw_375) rfl dX7_spoil_66 ?_
        refine lv_iload_n hx hb dX7_spoil_69 rfl (lv_at hl 3 rfl) ?_
        refine lv_iconst (v := 1) hx hb dX7_spoil_70 (by decide) ?_
        refine lv_iadd hx hb dX7_spoil_71 ?_
        obtain ⟨hg29, hF⟩ := gd_some hF
        refine r_iald hx hb hK hW (50) (tp_lt (by decide)) (rfl : kd 50 = 3) hg29 dX7_spoil_72 ?_
        obtain ⟨hg30, hF⟩ := gd_some hF
        refine r_iast hx hb hK hW (50) (tp_lt (by decide)) (rfl : kd 50 = 3) hg30 dX7_spoil_73 (fun H locs hW => ?_)
        obtain ⟨w31, ew31, hF⟩ := nm_some hF
        rw [← ew31] at hW
        refine lv_iinc (v := (u3 + 1)) (lv' := [(3, .int (u3 + 1)), (0, .ref (ad (27))), (1, .int u1), (2, .int u2)]) hx hb dX7_spoil_74 hl (k := 3) rfl rfl (by decide) rfl (fun ls hl => ?_)
        refine lv_goto (tgt := 38) hx hb dX7_spoil_77 (by decide) ?_
        exact hB38 w31 u1 u2 (u3 + 1) _ _ _  hW (lv_sub hl [1, 2, 3, 0] rfl) hF
  have hL38 := hL38 fu
  have hl := lv_entry ([.ref (ad (27)), .int x1, .int x2]) (n := 4) (Nat.le_of_ble_eq_true rfl)
  rw [lg_entry_eq]
  generalize (lg_sl ([.ref (ad (27)), .int x1, .int x2]) ++ List.replicate (4 - (lg_sl ([.ref (ad (27)), .int x1, .int x2])).length) Slot.unset).toArray = ls at hl ⊢
  have hl : lv_has ls 4 [(0, .ref (ad (27))), (1, .int x1), (2, .int x2)] := hl
  unfold F_X7_spoil at hF
  refine lv_aload_n hx hb dX7_spoil_0 rfl (lv_at hl 0 rfl) ?_
  refine lv_iload_n hx hb dX7_spoil_1 rfl (lv_at hl 1 rfl) ?_
  refine lv_i2l (v := (Int32.toInt64 x1)) hx hb dX7_spoil_2 rfl ?_
  refine lv_lconst (v := 0) hx hb dX7_spoil_3 (by decide) ?_
  refine lv_ldc2 (v := 300) hx hb hown (htA _ aw_547) dX7_spoil_4 ?_
  obtain ⟨y32, hy32, hF⟩ := bd_some hF
  refine r_bi (va_runS (As := [.long (Int32.toInt64 x1), .long 0, .long 300]) (rest := [.ref (ad (27))]) ⟨hx, hb, hml, hown, htA⟩ (m_X7_in l G g ad n a0 aM σ (Int32.toInt64 x1) 0 300 y32  hy32) (va_cwS 3 htA (gS aw_390 aw_391 aw_382 gz_X7_in) rfl rfl rfl (by decide +kernel) ⟨Nat.le_of_ble_eq_true rfl, Nat.le_of_ble_eq_true rfl⟩) (r_pre hK hW [.long (Int32.toInt64 x1), .long 0, .long 300]) rfl rfl hl.1 rfl (lv_room (Nat.le_of_ble_eq_true rfl)) dX7_spoil_7 ⟨Nat.zero_le _, Nat.zero_le _⟩) hW (fun H locs hW => ?_)
  obtain ⟨y33, hy33, hF⟩ := bd_some hF
  refine r_bi (va_runV (As := [.int y32.2]) (rest := []) ⟨hx, hb, hml, hown, htA⟩ (m_X7_goes l G g ad n a0 aM y32.1 y32.2 y33  hy33) (cwV 1 htA (gV aw_394 aw_395 aw_396 aw_382 gz_X7_goes) rfl rfl rfl (by decide +kernel) ⟨Nat.le_of_ble_eq_true rfl, Nat.le_of_ble_eq_true rfl⟩) (r_preV hK hW (27) (tp_lt (by decide)) (cE_k (rfl : kd 27 = 9)) rfl [.int y32.2]) rfl rfl hl.1 rfl (lv_room (Nat.le_of_ble_eq_true rfl)) dX7_spoil_10 ⟨Nat.zero_le _, Nat.zero_le _⟩) hW (fun H locs hW => ?_)
  refine lv_if_ne (tgt := 17) hx hb dX7_spoil_13 (by decide) (fun hc34 => ?_) (fun hc34 => ?_)
  · replace hF := (if_neg hc34).symm.trans hF
    refine lv_aload_n hx hb dX7_spoil_17 rfl (lv_at hl 0 rfl) ?_
    refine r_get (C := RX7) (T := TX7) (N := 39) hx hb htA ia_X7 hown hK hW (27) (tp_lt (by decide)) (cE_k (rfl : kd 27 = 9)) rfl 28 (by decide) (htA _ aw_492) rfl dX7_spoil_18 ?_
    refine lv_bipush (v := 16) hx hb dX7_spoil_21 (by decide) ?_
    refine lv_icmp_ne (tgt := 80) hx hb dX7_spoil_23 (by decide) (fun hc35 => ?_) (fun hc35 => ?_)
    · replace hF := (if_neg hc35).symm.trans hF
      exact hL80 y33.1 x1 x2 _ _ _  hW (lv_sub hl [0, 1, 2] rfl) hF
    · replace hF := (if_pos hc35).symm.trans hF
      refine lv_aload_n hx hb dX7_spoil_26 rfl (lv_at hl 0 rfl) ?_
      refine lv_dup hx hb dX7_spoil_27 rfl ?_
      refine r_get (C := RX7) (T := TX7) (N := 39) hx hb htA ia_X7 hown hK hW (27) (tp_lt (by decide)) (cE_k (rfl : kd 27 = 9)) rfl 28 (by decide) (htA _ aw_492) rfl dX7_spoil_28 ?_
      refine lv_iconst (v := 1) hx hb dX7_spoil_31 (by decide) ?_
      refine lv_isub hx hb dX7_spoil_32 ?_
      refine r_putI (C := RX7) (T := TX7) (N := 39) (ty := .int) hx hb htA ia_X7 tyX7 tyX7_ok nmX7 hown hK hW (27) (tp_lt (by decide)) (cE_k (rfl : kd 27 = 9)) rfl 28 (by decide) (cE_k (rfl : kd 27 = 9)) (htA _ aw_492) rfl (by decide +kernel) rfl rfl (Nat.le_of_ble_eq_true rfl) dX7_spoil_33 (fun H locs hW => ?_)
      obtain ⟨w36, ew36, hF⟩ := nm_some hF
      rw [← ew36] at hW
      refine lv_iconst (v := 0) hx hb dX7_spoil_36 (by decide) ?_
      refine lv_istore_n (lv' := [(3, .int 0), (0, .ref (ad (27))), (1, .int x1), (2, .int x2)]) hx hb dX7_spoil_37 rfl hl (by decide) rfl (fun ls hl => ?_)
      exact hL38 w36 x1 x2 0 _ _ _  hW (lv_sub hl [1, 2, 3, 0] rfl) hF
  · replace hF := (if_pos hc34).symm.trans hF
    exact r_vret hx hb hr hlocks hW hF dX7_spoil_16
def F_X7_frames (σ : St) : Option (St × Int32) := nm (sI σ (27) 0 0) (fun w2 => some (w2, (w2.1 (27) 21)))
set_option maxHeartbeats 4000000 in
set_option maxRecDepth 100000 in
theorem m_X7_frames (l : Launch) (G : va_G) (g : Nat → ClassId) (ad : Nat → Nat) (n a0 aM : Nat) (σ : St) (x : St × Int32) (hF : F_X7_frames σ = some x) : Met l yX7_frames zs_X7_frames ({ frames := 0, cells := 0, slots := 0, locals := 0 } : Room) (va_Pc [.ref (ad (27))] (wP G g ad n a0 aM σ)) (qI G g ad n a0 x) 0 0 (fun q : Nat => a0 ≤ q) := by
  refine Met.ofW (cc := cX7_frames) (maxL := 1) (ret := (some .int)) (by decide) rfl ?_
  intro p e s m args below meth c s₁ B hml hv
  obtain ⟨rfl, hP, hD, hK⟩ := hv
  have hx := B.exec
  have hb := B.bytes
  have hr := B.returns
  have htA : ∀ w ∈ AL, w.before _ s = true := fun w h9 => atoms_spec (ws := zs_X7_frames) B.pre w (List.mem_cons_of_mem _ h9)
  have hown : s.vm.findClass RX7 = some m.cls := findClass_of_methodNamed B.named
  have hlocks := B.notSynchronized
  have hW : Wd G g ad n a0 s.heap σ s.heap [] := ⟨hP, hD, va_S.rf⟩
  clear hP hD
  have hl := lv_entry ([.ref (ad (27))]) (n := 1) (Nat.le_of_ble_eq_true rfl)
  rw [lg_entry_eq]
  generalize (lg_sl ([.ref (ad (27))]) ++ List.replicate (1 - (lg_sl ([.ref (ad (27))])).length) Slot.unset).toArray = ls at hl ⊢
  have hl : lv_has ls 1 [(0, .ref (ad (27)))] := hl
  unfold F_X7_frames at hF
  refine lv_aload_n hx hb dX7_frames_0 rfl (lv_at hl 0 rfl) ?_
  refine lv_iconst (v := 0) hx hb dX7_frames_1 (by decide) ?_
  refine r_putI (C := RX7) (T := TX7) (N := 39) (ty := .int) hx hb htA ia_X7 tyX7 tyX7_ok nmX7 hown hK hW (27) (tp_lt (by decide)) (cE_k (rfl : kd 27 = 9)) rfl 0 (by decide) (cE_k (rfl : kd 27 = 9)) (htA _ aw_379) rfl (by decide +kernel) rfl rfl (Nat.le_of_ble_eq_true rfl) dX7_frames_2 (fun H locs hW => ?_)
  obtain ⟨w2, ew2, hF⟩ := nm_some hF
  rw [← ew2] at hW
  refine lv_aload_n hx hb dX7_frames_5 rfl (lv_at hl 0 rfl) ?_
  refine r_get (C := RX7) (T := TX7) (N := 39) hx hb htA ia_X7 hown hK hW (27) (tp_lt (by decide)) (cE_k (rfl : kd 27 = 9)) rfl 21 (by decide) (htA _ aw_403) rfl dX7_frames_6 ?_
  exact r_iret hx hb hr hlocks hW hF dX7_frames_9
def F_X7_isLamp (σ : St) (x1 : Int32) : Option (St × Int32) := (F_X7_in σ (Int32.toInt64 x1) 0 (Int32.toInt64 ((σ.1 (27) 1) - 1))).bind (fun y2 => gd (zb y2.2) (some (y2.1, y2.2)))
set_option maxHeartbeats 4000000 in
set_option maxRecDepth 100000 in
theorem m_X7_isLamp (l : Launch) (G : va_G) (g : Nat → ClassId) (ad : Nat → Nat) (n a0 aM : Nat) (σ : St) (x1 : Int32) (x : St × Int32) (hF : F_X7_isLamp σ x1 = some x) : Met l yX7_isLamp zs_X7_isLamp ({ frames := 1, cells := 0, slots := 0, locals := 25 } : Room) (va_Pc [.ref (ad (27)), .int x1] (wP G g ad n a0 aM σ)) (qI G g ad n a0 x) 0 0 (fun q : Nat => a0 ≤ q) := by
  refine Met.ofW (cc := cX7_isLamp) (maxL := 2) (ret := (some .boolean)) (by decide) rfl ?_
  intro p e s m args below meth c s₁ B hml hv
  obtain ⟨rfl, hP, hD, hK⟩ := hv
  have hx := B.exec
  have hb := B.bytes
  have hr := B.returns
  have htA : ∀ w ∈ AL, w.before _ s = true := fun w h9 => atoms_spec (ws := zs_X7_isLamp) B.pre w (List.mem_cons_of_mem _ h9)
  have hown : s.vm.findClass RX7 = some m.cls := findClass_of_methodNamed B.named
  have hlocks := B.notSynchronized
  have hW : Wd G g ad n a0 s.heap σ s.heap [] := ⟨hP, hD, va_S.rf⟩
  clear hP hD
  have hl := lv_entry ([.ref (ad (27)), .int x1]) (n := 2) (Nat.le_of_ble_eq_true rfl)
  rw [lg_entry_eq]
  generalize (lg_sl ([.ref (ad (27)), .int x1]) ++ List.replicate (2 - (lg_sl ([.ref (ad (27)), .int x1])).length) Slot.unset).toArray = ls at hl ⊢
  have hl : lv_has ls 2 [(0, .ref (ad (27))), (1, .int x1)] := hl
  unfold F_X7_isLamp at hF
  refine lv_iload_n hx hb dX7_isLamp_0 rfl (lv_at hl 1 rfl) ?_
  refine lv_i2l (v := (Int32.toInt64 x1)) hx hb dX7_isLamp_1 rfl ?_
  refine lv_lconst (v := 0) hx hb dX7_isLamp_2 (by decide) ?_
  refine lv_aload_n hx hb dX7_isLamp_3 rfl (lv_at hl 0 rfl) ?_
  refine r_get (C := RX7) (T := TX7) (N := 39) hx hb htA ia_X7 hown hK hW (27) (tp_lt (by decide)) (cE_k (rfl : kd 27 = 9)) rfl 1 (by decide) (htA _ aw_389) rfl dX7_isLamp_4 ?_
  refine lv_iconst (v := 1) hx hb dX7_isLamp_7 (by decide) ?_
  refine lv_isub hx hb dX7_isLamp_8 ?_
  refine lv_i2l (v := (Int32.toInt64 ((σ.1 (27) 1) - 1))) hx hb dX7_isLamp_9 rfl ?_
  obtain ⟨y2, hy2, hF⟩ := bd_some hF
  refine r_bi (va_runS (As := [.long (Int32.toInt64 x1), .long 0, .long (Int32.toInt64 ((σ.1 (27) 1) - 1))]) (rest := []) ⟨hx, hb, hml, hown, htA⟩ (m_X7_in l G g ad n a0 aM σ (Int32.toInt64 x1) 0 (Int32.toInt64 ((σ.1 (27) 1) - 1)) y2  hy2) (va_cwS 3 htA (gS aw_390 aw_391 aw_382 gz_X7_in) rfl rfl rfl (by decide +kernel) ⟨Nat.le_of_ble_eq_true rfl, Nat.le_of_ble_eq_true rfl⟩) (r_pre hK hW [.long (Int32.toInt64 x1), .long 0, .long (Int32.toInt64 ((σ.1 (27) 1) - 1))]) rfl rfl hl.1 rfl (lv_room (Nat.le_of_ble_eq_true rfl)) dX7_isLamp_10 ⟨Nat.zero_le _, Nat.zero_le _⟩) hW (fun H locs hW => ?_)
  obtain ⟨hg3, hF⟩ := gd_some hF
  exact r_zret hx hb hr hlocks hW hg3 hF dX7_isLamp_13
def F_X7_about_L26 (σ : St) (u1 : Int32) (u2 : Int32) (z0 : Int32) : Option (St × Int32) := (F_X7_goes σ z0).bind (fun y16 => if y16.2 = 0 then some (y16.1, 0) else if u2 = 0 then gd (ib u1 (ln (28))) (some (y16.1, (y16.1.1 (28) (Int32.toNatClampNeg u1)))) else if u2 = 1 then (F_X7_footprint y16.1 u1).bind (fun y19 => some (y19.1, y19.2)) else if u2 = 2 then gd (ib u1 (ln (32))) (some (y16.1, (y16.1.1 (32) (Int32.toNatClampNeg u1)))) else if u2 = 3 then gd (ib u1 (ln (31))) (some (y16.1, (y16.1.1 (31) (Int32.toNatClampNeg u1)))) else if u2 = 4 then gd (ib u1 (ln (33))) (some (y16.1, (y16.1.1 (33) (Int32.toNatClampNeg u1)))) else if u2 = 5 then gd (ib u1 (ln (34))) (if (y16.1.1 (34) (Int32.toNatClampNeg u1)) = 0 then some (y16.1, 0) else some (y16.1, 1)) else if u2 = 6 then gd (ib u1 (ln (35))) (if (y16.1.1 (35) (Int32.toNatClampNeg u1)) = 0 then some (y16.1, 0) else some (y16.1, 1)) else if u2 = 7 then gd (ib u1 (ln (40))) (if (y16.1.1 (40) (Int32.toNatClampNeg u1)) = 0 then some (y16.1, 1) else gd (ib u1 (ln (40))) (if ((y16.1.1 (27) 21) - (y16.1.1 (40) (Int32.toNatClampNeg u1))) < 20 then some (y16.1, 0) else some (y16.1, 1))) else if u2 = 8 then (F_X7_waiting y16.1 u1).bind (fun y31 => some (y31.1, y31.2)) else if u2 = 9 then gd (ib u1 (ln (36))) (some (y16.1, (y16.1.1 (36) (Int32.toNatClampNeg u1)))) else gd (ib u1 (ln (38))) (some (y16.1, (y16.1.1 (38) (Int32.toNatClampNeg u1)))))
def F_X7_about_L25 (σ : St) (u1 : Int32) (u2 : Int32) : Option (St × Int32) := F_X7_about_L26 σ u1 u2 0
def F_X7_about (σ : St) (x1 : Int32) (x2 : Int32) : Option (St × Int32) := (F_X7_isLamp σ x1).bind (fun y34 => if y34.2 = 0 then F_X7_about_L25 y34.1 x1 x2 else (F_X7_in y34.1 (Int32.toInt64 x2) 0 10).bind (fun y36 => if y36.2 = 0 then F_X7_about_L25 y36.1 x1 x2 else F_X7_about_L26 y36.1 x1 x2 1))
set_option maxHeartbeats 4000000 in
set_option maxRecDepth 100000 in
theorem m_X7_about (l : Launch) (G : va_G) (g : Nat → ClassId) (ad : Nat → Nat) (n a0 aM : Nat) (σ : St) (x1 : Int32) (x2 : Int32) (x : St × Int32) (hF : F_X7_about σ x1 x2 = some x) : Met l yX7_about zs_X7_about ({ frames := 2, cells := 0, slots := 0, locals := 46 } : Room) (va_Pc [.ref (ad (27)), .int x1, .int x2] (wP G g ad n a0 aM σ)) (qI G g ad n a0 x) 0 0 (fun q : Nat => a0 ≤ q) := by
  refine Met.ofW (cc := cX7_about) (maxL := 3) (ret := (some .int)) (by decide) rfl ?_
  intro p e s m args below meth c s₁ B hml hv
  obtain ⟨rfl, hP, hD, hK⟩ := hv
  have hx := B.exec
  have hb := B.bytes
  have hr := B.returns
  have htA : ∀ w ∈ AL, w.before _ s = true := fun w h9 => atoms_spec (ws := zs_X7_about) B.pre w (List.mem_cons_of_mem _ h9)
  have hown : s.vm.findClass RX7 = some m.cls := findClass_of_methodNamed B.named
  have hlocks := B.notSynchronized
  have hW : Wd G g ad n a0 s.heap σ s.heap [] := ⟨hP, hD, va_S.rf⟩
  clear hP hD
  have hL26 : ∀ (σ : St) (u1 : Int32) (u2 : Int32) (z0 : Int32) (H : Heap) (locs : List Loc) (ls : Array Slot), Wd G g ad n a0 s.heap σ H locs → lv_has ls 3 [(0, .ref (ad (27))), (1, .int u1), (2, .int u2)] → F_X7_about_L26  σ u1 u2 z0 = some x → W p l e (headSpec zs_X7_about ({ frames := 2, cells := 0, slots := 0, locals := 46 } : Room)).room s m ([.ref (ad (27)), .int x1, .int x2] : List Value).toArray below meth c H locs 0 0 (MQ below (qI G g ad n a0 x) ([.ref (ad (27)), .int x1, .int x2] : List Value).toArray s 0 0 (fun q : Nat => a0 ≤ q)) (F0 m 26 ls [.int z0, .ref (ad (27))]) := by
    intro σ u1 u2 z0 H locs ls hW hl hF
    unfold F_X7_about_L26 at hF
    obtain ⟨y16, hy16, hF⟩ := bd_some hF
    refine r_bi (va_runV (As := [.int z0]) (rest := []) ⟨hx, hb, hml, hown, htA⟩ (m_X7_goes l G g ad n a0 aM σ z0 y16  hy16) (cwV 1 htA (gV aw_394 aw_395 aw_396 aw_382 gz_X7_goes) rfl rfl rfl (by decide +kernel) ⟨Nat.le_of_ble_eq_true rfl, Nat.le_of_ble_eq_true rfl⟩) (r_preV hK hW (27) (tp_lt (by decide)) (cE_k (rfl : kd 27 = 9)) rfl [.int z0]) rfl rfl hl.1 rfl (lv_room (Nat.le_of_ble_eq_true rfl)) dX7_about_26 ⟨Nat.zero_le _, Nat.zero_le _⟩) hW (fun H locs hW => ?_)
    refine lv_if_ne (tgt := 34) hx hb dX7_about_29 (by decide) (fun hc17 => ?_) (fun hc17 => ?_)
    · replace hF := (if_neg hc17).symm.trans hF
      refine lv_iload_n hx hb dX7_about_34 rfl (lv_at hl 2 rfl) ?_
      by_cases hs35_0 : u2 = 0
      · replace hF := (if_pos hs35_0).symm.trans hF
        refine lv_tableIn (off := 53) (tgt := 88) hx hb dX7_about_35 (by rw [hs35_0]; decide) (by rw [hs35_0]; decide) (by rw [hs35_0]; rfl) (by decide) ?_
        refine lv_aload_n hx hb dX7_about_88 rfl (lv_at hl 0 rfl) ?_
        refine r_get (C := RX7) (T := TX7) (N := 39) hx hb htA ia_X7 hown hK hW (27) (tp_lt (by decide)) (cE_k (rfl : kd 27 = 9)) rfl 2 (by decide) (htA _ aw_352) rfl dX7_about_89 ?_
        refine lv_iload_n hx hb dX7_about_92 rfl (lv_at hl 1 rfl) ?_
        obtain ⟨hg18, hF⟩ := gd_some hF
        refine r_iald hx hb hK hW (28) (tp_lt (by decide)) (rfl : kd 28 = 3) hg18 dX7_about_93 ?_
        exact r_iret hx hb hr hlocks hW hF dX7_about_94
      · replace hF := (if_neg hs35_0).symm.trans hF
        by_cases hs35_1 : u2 = 1
        · replace hF := (if_pos hs35_1).symm.trans hF
          refine lv_tableIn (off := 60) (tgt := 95) hx hb dX7_about_35 (by rw [hs35_1]; decide) (by rw [hs35_1]; decide) (by rw [hs35_1]; rfl) (by decide) ?_
          refine lv_aload_n hx hb dX7_about_95 rfl (lv_at hl 0 rfl) ?_
          refine lv_iload_n hx hb dX7_about_96 rfl (lv_at hl 1 rfl) ?_
          obtain ⟨y19, hy19, hF⟩ := bd_some hF
          refine r_bi (va_runV (As := [.int u1]) (rest := []) ⟨hx, hb, hml, hown, htA⟩ (m_X7_footprint l G g ad n a0 aM y16.1 u1 y19  hy19) (cwV 1 htA (gV aw_405 aw_406 aw_407 aw_382 gz_X7_footprint) rfl rfl rfl (by decide +kernel) ⟨Nat.le_of_ble_eq_true rfl, Nat.le_of_ble_eq_true rfl⟩) (r_preV hK hW (27) (tp_lt (by decide)) (cE_k (rfl : kd 27 = 9)) rfl [.int u1]) rfl rfl hl.1 rfl (lv_room (Nat.le_of_ble_eq_true rfl)) dX7_about_97 ⟨Nat.zero_le _, Nat.zero_le _⟩) hW (fun H locs hW => ?_)
          exact r_iret hx hb hr hlocks hW hF dX7_about_100
        · replace hF := (if_neg hs35_1).symm.trans hF
          by_cases hs35_2 : u2 = 2
          · replace hF := (if_pos hs35_2).symm.trans hF
            refine lv_tableIn (off := 66) (tgt := 101) hx hb dX7_about_35 (by rw [hs35_2]; decide) (by rw [hs35_2]; decide) (by rw [hs35_2]; rfl) (by decide) ?_
            refine lv_aload_n hx hb dX7_about_101 rfl (lv_at hl 0 rfl) ?_
            refine r_get (C := RX7) (T := TX7) (N := 39) hx hb htA ia_X7 hown hK hW (27) (tp_lt (by decide)) (cE_k (rfl : kd 27 = 9)) rfl 6 (by decide) (htA _ aw_356) rfl dX7_about_102 ?_
            refine lv_iload_n hx hb dX7_about_105 rfl (lv_at hl 1 rfl) ?_
            obtain ⟨hg20, hF⟩ := gd_some hF
            refine r_iald hx hb hK hW (32) (tp_lt (by decide)) (rfl : kd 32 = 3) hg20 dX7_about_106 ?_
            exact r_iret hx hb hr hlocks hW hF dX7_about_107
          · replace hF := (if_neg hs35_2).symm.trans hF
            by_cases hs35_3 : u2 = 3
            · replace hF := (if_pos hs35_3).symm.trans hF
              refine lv_tableIn (off := 73) (tgt := 108) hx hb dX7_about_35 (by rw [hs35_3]; decide) (by rw [hs35_3]; decide) (by rw [hs35_3]; rfl) (by decide) ?_
              refine lv_aload_n hx hb dX7_about_108 rfl (lv_at hl 0 rfl) ?_
              refine r_get (C := RX7) (T := TX7) (N := 39) hx hb htA ia_X7 hown hK hW (27) (tp_lt (by decide)) (cE_k (rfl : kd 27 = 9)) rfl 5 (by decide) (htA _ aw_355) rfl dX7_about_109 ?_
              refine lv_iload_n hx hb dX7_about_112 rfl (lv_at hl 1 rfl) ?_
              obtain ⟨hg21, hF⟩ := gd_some hF
              refine r_iald hx hb hK hW (31) (tp_lt (by decide)) (rfl : kd 31 = 3) hg21 dX7_about_113 ?_
              exact r_iret hx hb hr hlocks hW hF dX7_about_114
            · replace hF := (if_neg hs35_3).symm.trans hF
              by_cases hs35_4 : u2 = 4
              · replace hF := (if_pos hs35_4).symm.trans hF
                refine lv_tableIn (off := 80) (tgt := 115) hx hb dX7_about_35 (by rw [hs35_4]; decide) (by rw [hs35_4]; decide) (by rw [hs35_4]; rfl) (by decide) ?_
                refine lv_aload_n hx hb dX7_about_115 rfl (lv_at hl 0 rfl) ?_
                refine r_get (C := RX7) (T := TX7) (N := 39) hx hb htA ia_X7 hown hK hW (27) (tp_lt (by decide)) (cE_k (rfl : kd 27 = 9)) rfl 7 (by decide) (htA _ aw_357) rfl dX7_about_116 ?_
                refine lv_iload_n hx hb dX7_about_119 rfl (lv_at hl 1 rfl) ?_
                obtain ⟨hg22, hF⟩ := gd_some hF
                refine r_iald hx hb hK hW (33) (tp_lt (by decide)) (rfl : kd 33 = 3) hg22 dX7_about_120 ?_
                exact r_iret hx hb hr hlocks hW hF dX7_about_121
              · replace hF := (if_neg hs35_4).symm.trans hF
                by_cases hs35_5 : u2 = 5
                · replace hF := (if_pos hs35_5).symm.trans hF
                  refine lv_tableIn (off := 87) (tgt := 122) hx hb dX7_about_35 (by rw [hs35_5]; decide) (by rw [hs35_5]; decide) (by rw [hs35_5]; rfl) (by decide) ?_
                  refine lv_aload_n hx hb dX7_about_122 rfl (lv_at hl 0 rfl) ?_
                  refine r_get (C := RX7) (T := TX7) (N := 39) hx hb htA ia_X7 hown hK hW (27) (tp_lt (by decide)) (cE_k (rfl : kd 27 = 9)) rfl 8 (by decide) (htA _ aw_358) rfl dX7_about_123 ?_
                  refine lv_iload_n hx hb dX7_about_126 rfl (lv_at hl 1 rfl) ?_
                  obtain ⟨hg23, hF⟩ := gd_some hF
                  refine r_zald hx hb hK hW (34) (tp_lt (by decide)) (rfl : kd 34 = 11) hg23 dX7_about_127 ?_
                  refine lv_if_eq (tgt := 135) hx hb dX7_about_128 (by decide) (fun hc24 => ?_) (fun hc24 => ?_)
                  · replace hF := (if_pos hc24).symm.trans hF
                    refine lv_iconst (v := 0) hx hb dX7_about_135 (by decide) ?_
                    exact r_iret hx hb hr hlocks hW hF dX7_about_136
                  · replace hF := (if_neg hc24).symm.trans hF
                    refine lv_iconst (v := 1) hx hb dX7_about_131 (by decide) ?_
                    refine lv_goto (tgt := 136) hx hb dX7_about_132 (by decide) ?_
                    exact r_iret hx hb hr hlocks hW hF dX7_about_136
                · replace hF := (if_neg hs35_5).symm.trans hF
                  by_cases hs35_6 : u2 = 6
                  · replace hF := (if_pos hs35_6).symm.trans hF
                    refine lv_tableIn (off := 102) (tgt := 137) hx hb dX7_about_35 (by rw [hs35_6]; decide) (by rw [hs35_6]; decide) (by rw [hs35_6]; rfl) (by decide) ?_
                    refine lv_aload_n hx hb dX7_about_137 rfl (lv_at hl 0 rfl) ?_
                    refine r_get (C := RX7) (T := TX7) (N := 39) hx hb htA ia_X7 hown hK hW (27) (tp_lt (by decide)) (cE_k (rfl : kd 27 = 9)) rfl 9 (by decide) (htA _ aw_359) rfl dX7_about_138 ?_
                    refine lv_iload_n hx hb dX7_about_141 rfl (lv_at hl 1 rfl) ?_
                    obtain ⟨hg25, hF⟩ := gd_some hF
                    refine r_zald hx hb hK hW (35) (tp_lt (by decide)) (rfl : kd 35 = 11) hg25 dX7_about_142 ?_
                    refine lv_if_eq (tgt := 150) hx hb dX7_about_143 (by decide) (fun hc26 => ?_) (fun hc26 => ?_)
                    · replace hF := (if_pos hc26).symm.trans hF
                      refine lv_iconst (v := 0) hx hb dX7_about_150 (by decide) ?_
                      exact r_iret hx hb hr hlocks hW hF dX7_about_151
                    · replace hF := (if_neg hc26).symm.trans hF
                      refine lv_iconst (v := 1) hx hb dX7_about_146 (by decide) ?_
                      refine lv_goto (tgt := 151) hx hb dX7_about_147 (by decide) ?_
                      exact r_iret hx hb hr hlocks hW hF dX7_about_151
                  · replace hF := (if_neg hs35_6).symm.trans hF
                    by_cases hs35_7 : u2 = 7
                    · replace hF := (if_pos hs35_7).symm.trans hF
                      refine lv_tableIn (off := 117) (tgt := 152) hx hb dX7_about_35 (by rw [hs35_7]; decide) (by rw [hs35_7]; decide) (by rw [hs35_7]; rfl) (by decide) ?_
                      refine lv_aload_n hx hb dX7_about_152 rfl (lv_at hl 0 rfl) ?_
                      refine r_get (C := RX7) (T := TX7) (N := 39) hx hb htA ia_X7 hown hK hW (27) (tp_lt (by decide)) (cE_k (rfl : kd 27 = 9)) rfl 14 (by decide) (htA _ aw_365) rfl dX7_about_153 ?_
                      refine lv_iload_n hx hb dX7_about_156 rfl (lv_at hl 1 rfl) ?_
                      obtain ⟨hg27, hF⟩ := gd_some hF
                      refine r_iald hx hb hK hW (40) (tp_lt (by decide)) (rfl : kd 40 = 3) hg27 dX7_about_157 ?_
                      refine lv_if_eq (tgt := 177) hx hb dX7_about_158 (by decide) (fun hc28 => ?_) (fun hc28 => ?_)
                      · replace hF := (if_pos hc28).symm.trans hF
                        refine lv_iconst (v := 1) hx hb dX7_about_177 (by decide) ?_
                        refine lv_goto (tgt := 182) hx hb dX7_about_178 (by decide) ?_
                        exact r_iret hx hb hr hlocks hW hF dX7_about_182
                      · replace hF := (if_neg hc28).symm.trans hF
                        refine lv_aload_n hx hb dX7_about_161 rfl (lv_at hl 0 rfl) ?_
                        refine r_get (C := RX7) (T := TX7) (N := 39) hx hb htA ia_X7 hown hK hW (27) (tp_lt (by decide)) (cE_k (rfl : kd 27 = 9)) rfl 21 (by decide) (htA _ aw_403) rfl dX7_about_162 ?_
                        refine lv_aload_n hx hb dX7_about_165 rfl (lv_at hl 0 rfl) ?_
                        refine r_get (C := RX7) (T := TX7) (N := 39) hx hb htA ia_X7 hown hK hW (27) (tp_lt (by decide)) (cE_k (rfl : kd 27 = 9)) rfl 14 (by decide) (htA _ aw_365) rfl dX7_about_166 ?_
                        refine lv_iload_n hx hb dX7_about_169 rfl (lv_at hl 1 rfl) ?_
                        obtain ⟨hg29, hF⟩ := gd_some hF
                        refine r_iald hx hb hK hW (40) (tp_lt (by decide)) (rfl : kd 40 = 3) hg29 dX7_about_170 ?_
                        refine lv_isub hx hb dX7_about_171 ?_
                        refine lv_bipush (v := 20) hx hb dX7_about_172 (by decide) ?_
                        refine lv_icmp_lt (tgt := 181) hx hb dX7_about_174 (by decide) (fun hc30 => ?_) (fun hc30 => ?_)
                        · replace hF := (if_pos hc30).symm.trans hF
                          refine lv_iconst (v := 0) hx hb dX7_about_181 (by decide) ?_
                          exact r_iret hx hb hr hlocks hW hF dX7_about_182
                        · replace hF := (if_neg hc30).symm.trans hF
                          refine lv_iconst (v := 1) hx hb dX7_about_177 (by decide) ?_
                          refine lv_goto (tgt := 182) hx hb dX7_about_178 (by decide) ?_
                          exact r_iret hx hb hr hlocks hW hF dX7_about_182
                    · replace hF := (if_neg hs35_7).symm.trans hF
                      by_cases hs35_8 : u2 = 8
                      · replace hF := (if_pos hs35_8).symm.trans hF
                        refine lv_tableIn (off := 148) (tgt := 183) hx hb dX7_about_35 (by rw [hs35_8]; decide) (by rw [hs35_8]; decide) (by rw [hs35_8]; rfl) (by decide) ?_
                        refine lv_aload_n hx hb dX7_about_183 rfl (lv_at hl 0 rfl) ?_
                        refine lv_iload_n hx hb dX7_about_184 rfl (lv_at hl 1 rfl) ?_
                        obtain ⟨y31, hy31, hF⟩ := bd_some hF
                        refine r_bi (va_runV (As := [.int u1]) (rest := []) ⟨hx, hb, hml, hown, htA⟩ (m_X7_waiting l G g ad n a0 aM y16.1 u1 y31  hy31) (cwV 1 htA (gV aw_431 aw_432 aw_433 aw_382 gz_X7_waiting) rfl rfl rfl (by decide +kernel) ⟨Nat.le_of_ble_eq_true rfl, Nat.le_of_ble_eq_true rfl⟩) (r_preV hK hW (27) (tp_lt (by decide)) (cE_k (rfl : kd 27 = 9)) rfl [.int u1]) rfl rfl hl.1 rfl (lv_room (Nat.le_of_ble_eq_true rfl)) dX7_about_185 ⟨Nat.zero_le _, Nat.zero_le _⟩) hW (fun H locs hW => ?_)
                        exact r_iret hx hb hr hlocks hW hF dX7_about_188
                      · replace hF := (if_neg hs35_8).symm.trans hF
                        by_cases hs35_9 : u2 = 9
                        · replace hF := (if_pos hs35_9).symm.trans hF
                          refine lv_tableIn (off := 154) (tgt := 189) hx hb dX7_about_35 (by rw [hs35_9]; decide) (by rw [hs35_9]; decide) (by rw [hs35_9]; rfl) (by decide) ?_
                          refine lv_aload_n hx hb dX7_about_189 rfl (lv_at hl 0 rfl) ?_
                          refine r_get (C := RX7) (T := TX7) (N := 39) hx hb htA ia_X7 hown hK hW (27) (tp_lt (by decide)) (cE_k (rfl : kd 27 = 9)) rfl 10 (by decide) (htA _ aw_360) rfl dX7_about_190 ?_
                          refine lv_iload_n hx hb dX7_about_193 rfl (lv_at hl 1 rfl) ?_
                          obtain ⟨hg32, hF⟩ := gd_some hF
                          refine r_iald hx hb hK hW (36) (tp_lt (by decide)) (rfl : kd 36 = 3) hg32 dX7_about_194 ?_
                          exact r_iret hx hb hr hlocks hW hF dX7_about_195
                        · replace hF := (if_neg hs35_9).symm.trans hF
                          have ehs35_0 : (u2).toInt ≠ 0 := fun e9 => hs35_0 (Int32.toInt_inj.mp (e9.trans (by decide)))
                          have ehs35_1 : (u2).toInt ≠ 1 := fun e9 => hs35_1 (Int32.toInt_inj.mp (e9.trans (by decide)))
                          have ehs35_2 : (u2).toInt ≠ 2 := fun e9 => hs35_2 (Int32.toInt_inj.mp (e9.trans (by decide)))
                          have ehs35_3 : (u2).toInt ≠ 3 := fun e9 => hs35_3 (Int32.toInt_inj.mp (e9.trans (by decide)))
                          have ehs35_4 : (u2).toInt ≠ 4 := fun e9 => hs35_4 (Int32.toInt_inj.mp (e9.trans (by decide)))
                          have ehs35_5 : (u2).toInt ≠ 5 := fun e9 => hs35_5 (Int32.toInt_inj.mp (e9.trans (by decide)))
                          have ehs35_6 : (u2).toInt ≠ 6 := fun e9 => hs35_6 (Int32.toInt_inj.mp (e9.trans (by decide)))
                          have ehs35_7 : (u2).toInt ≠ 7 := fun e9 => hs35_7 (Int32.toInt_inj.mp (e9.trans (by decide)))
                          have ehs35_8 : (u2).toInt ≠ 8 := fun e9 => hs35_8 (Int32.toInt_inj.mp (e9.trans (by decide)))
                          have ehs35_9 : (u2).toInt ≠ 9 := fun e9 => hs35_9 (Int32.toInt_inj.mp (e9.trans (by decide)))
                          refine lv_tableOut (tgt := 196) hx hb dX7_about_35 (by omega) (by decide) ?_
                          refine lv_aload_n hx hb dX7_about_196 rfl (lv_at hl 0 rfl) ?_
                          refine r_get (C := RX7) (T := TX7) (N := 39) hx hb htA ia_X7 hown hK hW (27) (tp_lt (by decide)) (cE_k (rfl : kd 27 = 9)) rfl 12 (by decide) (htA _ aw_363) rfl dX7_about_197 ?_
                          refine lv_iload_n hx hb dX7_about_200 rfl (lv_at hl 1 rfl) ?_
                          obtain ⟨hg33, hF⟩ := gd_some hF
                          refine r_iald hx hb hK hW (38) (tp_lt (by decide)) (rfl : kd 38 = 3) hg33 dX7_about_201 ?_
                          exact r_iret hx hb hr hlocks hW hF dX7_about_202
    · replace hF := (if_pos hc17).symm.trans hF
      refine lv_iconst (v := 0) hx hb dX7_about_32 (by decide) ?_
      exact r_iret hx hb hr hlocks hW hF dX7_about_33
  have hL25 : ∀ (σ : St) (u1 : Int32) (u2 : Int32) (H : Heap) (locs : List Loc) (ls : Array Slot), Wd G g ad n a0 s.heap σ H locs → lv_has ls 3 [(0, .ref (ad (27))), (1, .int u1), (2, .int u2)] → F_X7_about_L25  σ u1 u2 = some x → W p l e (headSpec zs_X7_about ({ frames := 2, cells := 0, slots := 0, locals := 46 } : Room)).room s m ([.ref (ad (27)), .int x1, .int x2] : List Value).toArray below meth c H locs 0 0 (MQ below (qI G g ad n a0 x) ([.ref (ad (27)), .int x1, .int x2] : List Value).toArray s 0 0 (fun q : Nat => a0 ≤ q)) (F0 m 25 ls [.ref (ad (27))]) := by
    intro σ u1 u2 H locs ls hW hl hF
    unfold F_X7_about_L25 at hF
    refine lv_iconst (v := 0) hx hb dX7_about_25 (by decide) ?_
    exact hL26 σ u1 u2 0 _ _ _  hW (lv_sub hl [0, 1, 2] rfl) hF
  have hl := lv_entry ([.ref (ad (27)), .int x1, .int x2]) (n := 3) (Nat.le_of_ble_eq_true rfl)
  rw [lg_entry_eq]
  generalize (lg_sl ([.ref (ad (27)), .int x1, .int x2]) ++ List.replicate (3 - (lg_sl ([.ref (ad (27)), .int x1, .int x2])).length) Slot.unset).toArray = ls at hl ⊢
  have hl : lv_has ls 3 [(0, .ref (ad (27))), (1, .int x1), (2, .int x2)] := hl
  unfold F_X7_about at hF
  refine lv_aload_n hx hb dX7_about_0 rfl (lv_at hl 0 rfl) ?_
  refine lv_aload_n hx hb dX7_about_1 rfl (lv_at hl 0 rfl) ?_
  refine lv_iload_n hx hb dX7_about_2 rfl (lv_at hl 1 rfl) ?_
  obtain ⟨y34, hy34, hF⟩ := bd_some hF
  refine r_bi (va_runV (As := [.int x1]) (rest := [.ref (ad (27))]) ⟨hx, hb, hml, hown, htA⟩ (m_X7_isLamp l G g ad n a0 aM σ x1 y34  hy34) (cwV 1 htA (gV aw_549 aw_550 aw_551 aw_382 gz_X7_isLamp) rfl rfl rfl (by decide +kernel) ⟨Nat.le_of_ble_eq_true rfl, Nat.le_of_ble_eq_true rfl⟩) (r_preV hK hW (27) (tp_lt (by decide)) (cE_k (rfl : kd 27 = 9)) rfl [.int x1]) rfl rfl hl.1 rfl (lv_room (Nat.le_of_ble_eq_true rfl)) dX7_about_3 ⟨Nat.zero_le _, Nat.zero_le _⟩) hW (fun H locs hW => ?_)
  refine lv_if_eq (tgt := 25) hx hb dX7_about_6 (by decide) (fun hc35 => ?_) (fun hc35 => ?_)
  · replace hF := (if_pos hc35).symm.trans hF
    exact hL25 y34.1 x1 x2 _ _ _  hW (lv_sub hl [0, 1, 2] rfl) hF
  · replace hF := (if_neg hc35).symm.trans hF
    refine lv_iload_n hx hb dX7_about_9 rfl (lv_at hl 2 rfl) ?_
    refine lv_i2l (v := (Int32.toInt64 x2)) hx hb dX7_about_10 rfl ?_
    refine lv_lconst (v := 0) hx hb dX7_about_11 (by decide) ?_
    refine lv_ldc2 (v := 10) hx hb hown (htA _ aw_548) dX7_about_12 ?_
    obtain ⟨y36, hy36, hF⟩ := bd_some hF
    refine r_bi (va_runS (As := [.long (Int32.toInt64 x2), .long 0, .long 10]) (rest := [.ref (ad (27))]) ⟨hx, hb, hml, hown, htA⟩ (m_X7_in l G g ad n a0 aM y34.1 (Int32.toInt64 x2) 0 10 y36  hy36) (va_cwS 3 htA (gS aw_390 aw_391 aw_382 gz_X7_in) rfl rfl rfl (by decide +kernel) ⟨Nat.le_of_ble_eq_true rfl, Nat.le_of_ble_eq_true rfl⟩) (r_pre hK hW [.long (Int32.toInt64 x2), .long 0, .long 10]) rfl rfl hl.1 rfl (lv_room (Nat.le_of_ble_eq_true rfl)) dX7_about_15 ⟨Nat.zero_le _, Nat.zero_le _⟩) hW (fun H locs hW => ?_)
    refine lv_if_eq (tgt := 25) hx hb dX7_about_18 (by decide) (fun hc37 => ?_) (fun hc37 => ?_)
    · replace hF := (if_pos hc37).symm.trans hF
      exact hL25 y36.1 x1 x2 _ _ _  hW (lv_sub hl [0, 1, 2] rfl) hF
    · replace hF := (if_neg hc37).symm.trans hF
      refine lv_iconst (v := 1) hx hb dX7_about_21 (by decide) ?_
      refine lv_goto (tgt := 26) hx hb dX7_about_22 (by decide) ?_
      exact hL26 y36.1 x1 x2 1 _ _ _  hW (lv_sub hl [0, 1, 2] rfl) hF
def F_X7_rest (σ : St) (x1 : Int32) : Option (St × Int64) := (F_X7_isLamp σ x1).bind (fun y4 => (F_X7_goes y4.1 y4.2).bind (fun y5 => if y5.2 = 0 then some (y5.1, 0) else gd (ib x1 (ln (29))) (some (y5.1, (y5.1.2 (29) (Int32.toNatClampNeg x1))))))
set_option maxHeartbeats 4000000 in
set_option maxRecDepth 100000 in
theorem m_X7_rest (l : Launch) (G : va_G) (g : Nat → ClassId) (ad : Nat → Nat) (n a0 aM : Nat) (σ : St) (x1 : Int32) (x : St × Int64) (hF : F_X7_rest σ x1 = some x) : Met l yX7_rest zs_X7_rest ({ frames := 2, cells := 0, slots := 0, locals := 46 } : Room) (va_Pc [.ref (ad (27)), .int x1] (wP G g ad n a0 aM σ)) (qJ G g ad n a0 x) 0 0 (fun q : Nat => a0 ≤ q) := by
  refine Met.ofW (cc := cX7_rest) (maxL := 2) (ret := (some .long)) (by decide) rfl ?_
  intro p e s m args below meth c s₁ B hml hv
  obtain ⟨rfl, hP, hD, hK⟩ := hv
  have hx := B.exec
  have hb := B.bytes
  have hr := B.returns
  have htA : ∀ w ∈ AL, w.before _ s = true := fun w h9 => atoms_spec (ws := zs_X7_rest) B.pre w (List.mem_cons_of_mem _ h9)
  have hown : s.vm.findClass RX7 = some m.cls := findClass_of_methodNamed B.named
  have hlocks := B.notSynchronized
  have hW : Wd G g ad n a0 s.heap σ s.heap [] := ⟨hP, hD, va_S.rf⟩
  clear hP hD
  have hl := lv_entry ([.ref (ad (27)), .int x1]) (n := 2) (Nat.le_of_ble_eq_true rfl)
  rw [lg_entry_eq]
  generalize (lg_sl ([.ref (ad (27)), .int x1]) ++ List.replicate (2 - (lg_sl ([.ref (ad (27)), .int x1])).length) Slot.unset).toArray = ls at hl ⊢
  have hl : lv_has ls 2 [(0, .ref (ad (27))), (1, .int x1)] := hl
  unfold F_X7_rest at hF
  refine lv_aload_n hx hb dX7_rest_0 rfl (lv_at hl 0 rfl) ?_
  refine lv_aload_n hx hb dX7_rest_1 rfl (lv_at hl 0 rfl) ?_
  refine lv_iload_n hx hb dX7_rest_2 rfl (lv_at hl 1 rfl) ?_
  obtain ⟨y4, hy4, hF⟩ := bd_some hF
  refine r_bi (va_runV (As := [.int x1]) (rest := [.ref (ad (27))]) ⟨hx, hb, hml, hown, htA⟩ (m_X7_isLamp l G g ad n a0 aM σ x1 y4  hy4) (cwV 1 htA (gV aw_549 aw_550 aw_551 aw_382 gz_X7_isLamp) rfl rfl rfl (by decide +kernel) ⟨Nat.le_of_ble_eq_true rfl, Nat.le_of_ble_eq_true rfl⟩) (r_preV hK hW (27) (tp_lt (by decide)) (cE_k (rfl : kd 27 = 9)) rfl [.int x1]) rfl rfl hl.1 rfl (lv_room (Nat.le_of_ble_eq_true rfl)) dX7_rest_3 ⟨Nat.zero_le _, Nat.zero_le _⟩) hW (fun H locs hW => ?_)
  obtain ⟨y5, hy5, hF⟩ := bd_some hF
  refine r_bi (va_runV (As := [.int y4.2]) (rest := []) ⟨hx, hb, hml, hown, htA⟩ (m_X7_goes l G g ad n a0 aM y4.1 y4.2 y5  hy5) (cwV 1 htA (gV aw_394 aw_395 aw_396 aw_382 gz_X7_goes) rfl rfl rfl (by decide +kernel) ⟨Nat.le_of_ble_eq_true rfl, Nat.le_of_ble_eq_true rfl⟩) (r_preV hK hW (27) (tp_lt (by decide)) (cE_k (rfl : kd 27 = 9)) rfl [.int y4.2]) rfl rfl hl.1 rfl (lv_room (Nat.le_of_ble_eq_true rfl)) dX7_rest_6 ⟨Nat.zero_le _, Nat.zero_le _⟩) hW (fun H locs hW => ?_)
  refine lv_if_eq (tgt := 21) hx hb dX7_rest_9 (by decide) (fun hc6 => ?_) (fun hc6 => ?_)
  · replace hF := (if_pos hc6).symm.trans hF
    refine lv_lconst (v := 0) hx hb dX7_rest_21 (by decide) ?_
    exact r_lret hx hb hr hlocks hW hF dX7_rest_22
  · replace hF := (if_neg hc6).symm.trans hF
    refine lv_aload_n hx hb dX7_rest_12 rfl (lv_at hl 0 rfl) ?_
    refine r_get (C := RX7) (T := TX7) (N := 39) hx hb htA ia_X7 hown hK hW (27) (tp_lt (by decide)) (cE_k (rfl : kd 27 = 9)) rfl 3 (by decide) (htA _ aw_353) rfl dX7_rest_13 ?_
    refine lv_iload_n hx hb dX7_rest_16 rfl (lv_at hl 1 rfl) ?_
    obtain ⟨hg7, hF⟩ := gd_some hF
    refine r_lald hx hb hK hW (29) (tp_lt (by decide)) (rfl : kd 29 = 7) hg7 dX7_rest_17 ?_
    refine lv_goto (tgt := 22) hx hb dX7_rest_18 (by decide) ?_
    exact r_lret hx hb hr hlocks hW hF dX7_rest_22
def F_X7_level_L31 (σ : St) (u1 : Int32) (u2 : Int32) (z0 : Int32) : Option (St × Int32) := (F_X7_goes σ z0).bind (fun y6 => if y6.2 = 0 then some (y6.1, 0) else gd (ib ((512 * u1) + u2) (ln (39))) (some (y6.1, (y6.1.1 (39) (Int32.toNatClampNeg ((512 * u1) + u2))))))
def F_X7_level_L30 (σ : St) (u1 : Int32) (u2 : Int32) : Option (St × Int32) := F_X7_level_L31 σ u1 u2 0
def F_X7_level (σ : St) (x1 : Int32) (x2 : Int32) : Option (St × Int32) := (F_X7_isLamp σ x1).bind (fun y9 => if y9.2 = 0 then F_X7_level_L30 y9.1 x1 x2 else (F_X7_footprint y9.1 x1).bind (fun y11 => (F_X7_in y11.1 (Int32.toInt64 x2) 0 (Int32.toInt64 (y11.2 - 1))).bind (fun y12 => if y12.2 = 0 then F_X7_level_L30 y12.1 x1 x2 else F_X7_level_L31 y12.1 x1 x2 1)))
set_option maxHeartbeats 4000000 in
set_option maxRecDepth 100000 in
theorem m_X7_level (l : Launch) (G : va_G) (g : Nat → ClassId) (ad : Nat → Nat) (n a0 aM : Nat) (σ : St) (x1 : Int32) (x2 : Int32) (x : St × Int32) (hF : F_X7_level σ x1 x2 = some x) : Met l yX7_level zs_X7_level ({ frames := 2, cells := 0, slots := 0, locals := 46 } : Room) (va_Pc [.ref (ad (27)), .int x1, .int x2] (wP G g ad n a0 aM σ)) (qI G g ad n a0 x) 0 0 (fun q : Nat => a0 ≤ q) := by
  refine Met.ofW (cc := cX7_level) (maxL := 3) (ret := (some .int)) (by decide) rfl ?_
  intro p e s m args below meth c s₁ B hml hv
  obtain ⟨rfl, hP, hD, hK⟩ := hv
  have hx := B.exec
  have hb := B.bytes
  have hr := B.returns
  have htA : ∀ w ∈ AL, w.before _ s = true := fun w h9 => atoms_spec (ws := zs_X7_level) B.pre w (List.mem_cons_of_mem _ h9)
  have hown : s.vm.findClass RX7 = some m.cls := findClass_of_methodNamed B.named
  have hlocks := B.notSynchronized
  have hW : Wd G g ad n a0 s.heap σ s.heap [] := ⟨hP, hD, va_S.rf⟩
  clear hP hD
  have hL31 : ∀ (σ : St) (u1 : Int32) (u2 : Int32) (z0 : Int32) (H : Heap) (locs : List Loc) (ls : Array Slot), Wd G g ad n a0 s.heap σ H locs → lv_has ls 3 [(0, .ref (ad (27))), (1, .int u1), (2, .int u2)] → F_X7_level_L31  σ u1 u2 z0 = some x → W p l e (headSpec zs_X7_level ({ frames := 2, cells := 0, slots := 0, locals := 46 } : Room)).room s m ([.ref (ad (27)), .int x1, .int x2] : List Value).toArray below meth c H locs 0 0 (MQ below (qI G g ad n a0 x) ([.ref (ad (27)), .int x1, .int x2] : List Value).toArray s 0 0 (fun q : Nat => a0 ≤ q)) (F0 m 31 ls [.int z0, .ref (ad (27))]) := by
    intro σ u1 u2 z0 H locs ls hW hl hF
    unfold F_X7_level_L31 at hF
    obtain ⟨y6, hy6, hF⟩ := bd_some hF
    refine r_bi (va_runV (As := [.int z0]) (rest := []) ⟨hx, hb, hml, hown, htA⟩ (m_X7_goes l G g ad n a0 aM σ z0 y6  hy6) (cwV 1 htA (gV aw_394 aw_395 aw_396 aw_382 gz_X7_goes) rfl rfl rfl (by decide +kernel) ⟨Nat.le_of_ble_eq_true rfl, Nat.le_of_ble_eq_true rfl⟩) (r_preV hK hW (27) (tp_lt (by decide)) (cE_k (rfl : kd 27 = 9)) rfl [.int z0]) rfl rfl hl.1 rfl (lv_room (Nat.le_of_ble_eq_true rfl)) dX7_level_31 ⟨Nat.zero_le _, Nat.zero_le _⟩) hW (fun H locs hW => ?_)
    refine lv_if_eq (tgt := 52) hx hb dX7_level_34 (by decide) (fun hc7 => ?_) (fun hc7 => ?_)
    · replace hF := (if_pos hc7).symm.trans hF
      refine lv_iconst (v := 0) hx hb dX7_level_52 (by decide) ?_
      exact r_iret hx hb hr hlocks hW hF dX7_level_53
    · replace hF := (if_neg hc7).symm.trans hF
      refine lv_aload_n hx hb dX7_level_37 rfl (lv_at hl 0 rfl) ?_
      refine r_get (C := RX7) (T := TX7) (N := 39) hx hb htA ia_X7 hown hK hW (27) (tp_lt (by decide)) (cE_k (rfl : kd 27 = 9)) rfl 13 (by decide) (htA _ aw_364) rfl dX7_level_38 ?_
      refine lv_sipush (v := 512) hx hb dX7_level_41 (by decide) ?_
      refine lv_iload_n hx hb dX7_level_44 rfl (lv_at hl 1 rfl) ?_
      refine lv_imul hx hb dX7_level_45 ?_
      refine lv_iload_n hx hb dX7_level_46 rfl (lv_at hl 2 rfl) ?_
      refine lv_iadd hx hb dX7_level_47 ?_
      obtain ⟨hg8, hF⟩ := gd_some hF
      refine r_iald hx hb hK hW (39) (tp_lt (by decide)) (rfl : kd 39 = 3) hg8 dX7_level_48 ?_
      refine lv_goto (tgt := 53) hx hb dX7_level_49 (by decide) ?_
      exact r_iret hx hb hr hlocks hW hF dX7_level_53
  have hL30 : ∀ (σ : St) (u1 : Int32) (u2 : Int32) (H : Heap) (locs : List Loc) (ls : Array Slot), Wd G g ad n a0 s.heap σ H locs → lv_has ls 3 [(0, .ref (ad (27))), (1, .int u1), (2, .int u2)] → F_X7_level_L30  σ u1 u2 = some x → W p l e (headSpec zs_X7_level ({ frames := 2, cells := 0, slots := 0, locals := 46 } : Room)).room s m ([.ref (ad (27)), .int x1, .int x2] : List Value).toArray below meth c H locs 0 0 (MQ below (qI G g ad n a0 x) ([.ref (ad (27)), .int x1, .int x2] : List Value).toArray s 0 0 (fun q : Nat => a0 ≤ q)) (F0 m 30 ls [.ref (ad (27))]) := by
    intro σ u1 u2 H locs ls hW hl hF
    unfold F_X7_level_L30 at hF
    refine lv_iconst (v := 0) hx hb dX7_level_30 (by decide) ?_
    exact hL31 σ u1 u2 0 _ _ _  hW (lv_sub hl [0, 1, 2] rfl) hF
  have hl := lv_entry ([.ref (ad (27)), .int x1, .int x2]) (n := 3) (Nat.le_of_ble_eq_true rfl)
  rw [lg_entry_eq]
  generalize (lg_sl ([.ref (ad (27)), .int x1, .int x2]) ++ List.replicate (3 - (lg_sl ([.ref (ad (27)), .int x1, .int x2])).length) Slot.unset).toArray = ls at hl ⊢
  have hl : lv_has ls 3 [(0, .ref (ad (27))), (1, .int x1), (2, .int x2)] := hl
  unfold F_X7_level at hF
  refine lv_aload_n hx hb dX7_level_0 rfl (lv_at hl 0 rfl) ?_
  refine lv_aload_n hx hb dX7_level_1 rfl (lv_at hl 0 rfl) ?_
  refine lv_iload_n hx hb dX7_level_2 rfl (lv_at hl 1 rfl) ?_
  obtain ⟨y9, hy9, hF⟩ := bd_some hF
  refine r_bi (va_runV (As := [.int x1]) (rest := [.ref (ad (27))]) ⟨hx, hb, hml, hown, htA⟩ (m_X7_isLamp l G g ad n a0 aM σ x1 y9  hy9) (cwV 1 htA (gV aw_549 aw_550 aw_551 aw_382 gz_X7_isLamp) rfl rfl rfl (by decide +kernel) ⟨Nat.le_of_ble_eq_true rfl, Nat.le_of_ble_eq_true rfl⟩) (r_preV hK hW (27) (tp_lt (by decide)) (cE_k (rfl : kd 27 = 9)) rfl [.int x1]) rfl rfl hl.1 rfl (lv_room (Nat.le_of_ble_eq_true rfl)) dX7_level_3 ⟨Nat.zero_le _, Nat.zero_le _⟩) hW (fun H locs hW => ?_)
  refine lv_if_eq (tgt := 30) hx hb dX7_level_6 (by decide) (fun hc10 => ?_) (fun hc10 => ?_)
  · replace hF := (if_pos hc10).symm.trans hF
    exact hL30 y9.1 x1 x2 _ _ _  hW (lv_sub hl [0, 1, 2] rfl) hF
  · replace hF := (if_neg hc10).symm.trans hF
    refine lv_iload_n hx hb dX7_level_9 rfl (lv_at hl 2 rfl) ?_
    refine lv_i2l (v := (Int32.toInt64 x2)) hx hb dX7_level_10 rfl ?_
    refine lv_lconst (v := 0) hx hb dX7_level_11 (by decide) ?_
    refine lv_aload_n hx hb dX7_level_12 rfl (lv_at hl 0 rfl) ?_
    refine lv_iload_n hx hb dX7_level_13 rfl (lv_at hl 1 rfl) ?_
    obtain ⟨y11, hy11, hF⟩ := bd_some hF
    refine r_bi (va_runV (As := [.int x1]) (rest := [.long 0, .long (Int32.toInt64 x2), .ref (ad (27))]) ⟨hx, hb, hml, hown, htA⟩ (m_X7_footprint l G g ad n a0 aM y9.1 x1 y11  hy11) (cwV 1 htA (gV aw_405 aw_406 aw_407 aw_382 gz_X7_footprint) rfl rfl rfl (by decide +kernel) ⟨Nat.le_of_ble_eq_true rfl, Nat.le_of_ble_eq_true rfl⟩) (r_preV hK hW (27) (tp_lt (by decide)) (cE_k (rfl : kd 27 = 9)) rfl [.int x1]) rfl rfl hl.1 rfl (lv_room (Nat.le_of_ble_eq_true rfl)) dX7_level_14 ⟨Nat.zero_le _, Nat.zero_le _⟩) hW (fun H locs hW => ?_)
    refine lv_iconst (v := 1) hx hb dX7_level_17 (by decide) ?_
    refine lv_isub hx hb dX7_level_18 ?_
    refine lv_i2l (v := (Int32.toInt64 (y11.2 - 1))) hx hb dX7_level_19 rfl ?_
    obtain ⟨y12, hy12, hF⟩ := bd_some hF
    refine r_bi (va_runS (As := [.long (Int32.toInt64 x2), .long 0, .long (Int32.toInt64 (y11.2 - 1))]) (rest := [.ref (ad (27))]) ⟨hx, hb, hml, hown, htA⟩ (m_X7_in l G g ad n a0 aM y11.1 (Int32.toInt64 x2) 0 (Int32.toInt64 (y11.2 - 1)) y12  hy12) (va_cwS 3 htA (gS aw_390 aw_391 aw_382 gz_X7_in) rfl rfl rfl (by decide +kernel) ⟨Nat.le_of_ble_eq_true rfl, Nat.le_of_ble_eq_true rfl⟩) (r_pre hK hW [.long (Int32.toInt64 x2), .long 0, .long (Int32.toInt64 (y11.2 - 1))]) rfl rfl hl.1 rfl (lv_room (Nat.le_of_ble_eq_true rfl)) dX7_level_20 ⟨Nat.zero_le _, Nat.zero_le _⟩) hW (fun H locs hW => ?_)
    refine lv_if_eq (tgt := 30) hx hb dX7_level_23 (by decide) (fun hc13 => ?_) (fun hc13 => ?_)
    · replace hF := (if_pos hc13).symm.trans hF
      exact hL30 y12.1 x1 x2 _ _ _  hW (lv_sub hl [0, 1, 2] rfl) hF
    · replace hF := (if_neg hc13).symm.trans hF
      refine lv_iconst (v := 1) hx hb dX7_level_26 (by decide) ?_
      refine lv_goto (tgt := 31) hx hb dX7_level_27 (by decide) ?_
      exact hL31 y12.1 x1 x2 1 _ _ _  hW (lv_sub hl [0, 1, 2] rfl) hF
def F_X7_label_L32 (σ : St) (u1 : Int32) (u2 : Int32) (z0 : Int32) : Option (St × Int32) := (F_X7_goes σ z0).bind (fun y6 => if y6.2 = 0 then some (y6.1, 0) else gd (ib ((32 * u1) + u2) (ln (37))) (some (y6.1, ((y6.1.1 (37) (Int32.toNatClampNeg ((32 * u1) + u2))) &&& 255))))
def F_X7_label_L31 (σ : St) (u1 : Int32) (u2 : Int32) : Option (St × Int32) := F_X7_label_L32 σ u1 u2 0
def F_X7_label (σ : St) (x1 : Int32) (x2 : Int32) : Option (St × Int32) := (F_X7_isLamp σ x1).bind (fun y9 => if y9.2 = 0 then F_X7_label_L31 y9.1 x1 x2 else gd (ib x1 (ln (36))) ((F_X7_in y9.1 (Int32.toInt64 x2) 0 (Int32.toInt64 ((y9.1.1 (36) (Int32.toNatClampNeg x1)) - 1))).bind (fun y12 => if y12.2 = 0 then F_X7_label_L31 y12.1 x1 x2 else F_X7_label_L32 y12.1 x1 x2 1)))
set_option maxHeartbeats 4000000 in
set_option maxRecDepth 100000 in
theorem m_X7_label (l : Launch) (G : va_G) (g : Nat → ClassId) (ad : Nat → Nat) (n a0 aM : Nat) (σ : St) (x1 : Int32) (x2 : Int32) (x : St × Int32) (hF : F_X7_label σ x1 x2 = some x) : Met l yX7_label zs_X7_label ({ frames := 2, cells := 0, slots := 0, locals := 46 } : Room) (va_Pc [.ref (ad (27)), .int x1, .int x2] (wP G g ad n a0 aM σ)) (qI G g ad n a0 x) 0 0 (fun q : Nat => a0 ≤ q) := by
  refine Met.ofW (cc := cX7_label) (maxL := 3) (ret := (some .int)) (by decide) rfl ?_
  intro p e s m args below meth c s₁ B hml hv
  obtain ⟨rfl, hP, hD, hK⟩ := hv
  have hx := B.exec
  have hb := B.bytes
  have hr := B.returns
  have htA : ∀ w ∈ AL, w.before _ s = true := fun w h9 => atoms_spec (ws := zs_X7_label) B.pre w (List.mem_cons_of_mem _ h9)
  have hown : s.vm.findClass RX7 = some m.cls := findClass_of_methodNamed B.named
  have hlocks := B.notSynchronized
  have hW : Wd G g ad n a0 s.heap σ s.heap [] := ⟨hP, hD, va_S.rf⟩
  clear hP hD
  have hL32 : ∀ (σ : St) (u1 : Int32) (u2 : Int32) (z0 : Int32) (H : Heap) (locs : List Loc) (ls : Array Slot), Wd G g ad n a0 s.heap σ H locs → lv_has ls 3 [(0, .ref (ad (27))), (1, .int u1), (2, .int u2)] → F_X7_label_L32  σ u1 u2 z0 = some x → W p l e (headSpec zs_X7_label ({ frames := 2, cells := 0, slots := 0, locals := 46 } : Room)).room s m ([.ref (ad (27)), .int x1, .int x2] : List Value).toArray below meth c H locs 0 0 (MQ below (qI G g ad n a0 x) ([.ref (ad (27)), .int x1, .int x2] : List Value).toArray s 0 0 (fun q : Nat => a0 ≤ q)) (F0 m 32 ls [.int z0, .ref (ad (27))]) := by
    intro σ u1 u2 z0 H locs ls hW hl hF
    unfold F_X7_label_L32 at hF
    obtain ⟨y6, hy6, hF⟩ := bd_some hF
    refine r_bi (va_runV (As := [.int z0]) (rest := []) ⟨hx, hb, hml, hown, htA⟩ (m_X7_goes l G g ad n a0 aM σ z0 y6  hy6) (cwV 1 htA (gV aw_394 aw_395 aw_396 aw_382 gz_X7_goes) rfl rfl rfl (by decide +kernel) ⟨Nat.le_of_ble_eq_true rfl, Nat.le_of_ble_eq_true rfl⟩) (r_preV hK hW (27) (tp_lt (by decide)) (cE_k (rfl : kd 27 = 9)) rfl [.int z0]) rfl rfl hl.1 rfl (lv_room (Nat.le_of_ble_eq_true rfl)) dX7_label_32 ⟨Nat.zero_le _, Nat.zero_le _⟩) hW (fun H locs hW => ?_)
    refine lv_if_eq (tgt := 56) hx hb dX7_label_35 (by decide) (fun hc7 => ?_) (fun hc7 => ?_)
    · replace hF := (if_pos hc7).symm.trans hF
      refine lv_iconst (v := 0) hx hb dX7_label_56 (by decide) ?_
      exact r_iret hx hb hr hlocks hW hF dX7_label_57
    · replace hF := (if_neg hc7).symm.trans hF
      refine lv_aload_n hx hb dX7_label_38 rfl (lv_at hl 0 rfl) ?_
      refine r_get (C := RX7) (T := TX7) (N := 39) hx hb htA ia_X7 hown hK hW (27) (tp_lt (by decide)) (cE_k (rfl : kd 27 = 9)) rfl 11 (by decide) (htA _ aw_362) rfl dX7_label_39 ?_
      refine lv_bipush (v := 32) hx hb dX7_label_42 (by decide) ?_
      refine lv_iload_n hx hb dX7_label_44 rfl (lv_at hl 1 rfl) ?_
      refine lv_imul hx hb dX7_label_45 ?_
      refine lv_iload_n hx hb dX7_label_46 rfl (lv_at hl 2 rfl) ?_
      refine lv_iadd hx hb dX7_label_47 ?_
      obtain ⟨hg8, hF⟩ := gd_some hF
      refine r_bald hx hb hK hW (37) (tp_lt (by decide)) (rfl : kd 37 = 10) hg8 dX7_label_48 ?_
      refine lv_sipush (v := 255) hx hb dX7_label_49 (by decide) ?_
      refine lv_iand hx hb dX7_label_52 ?_
      refine lv_goto (tgt := 57) hx hb dX7_label_53 (by decide) ?_
      exact r_iret hx hb hr hlocks hW hF dX7_label_57
  have hL31 : ∀ (σ : St) (u1 : Int32) (u2 : Int32) (H : Heap) (locs : List Loc) (ls : Array Slot), Wd G g ad n a0 s.heap σ H locs → lv_has ls 3 [(0, .ref (ad (27))), (1, .int u1), (2, .int u2)] → F_X7_label_L31  σ u1 u2 = some x → W p l e (headSpec zs_X7_label ({ frames := 2, cells := 0, slots := 0, locals := 46 } : Room)).room s m ([.ref (ad (27)), .int x1, .int x2] : List Value).toArray below meth c H locs 0 0 (MQ below (qI G g ad n a0 x) ([.ref (ad (27)), .int x1, .int x2] : List Value).toArray s 0 0 (fun q : Nat => a0 ≤ q)) (F0 m 31 ls [.ref (ad (27))]) := by
    intro σ u1 u2 H locs ls hW hl hF
    unfold F_X7_label_L31 at hF
    refine lv_iconst (v := 0) hx hb dX7_label_31 (by decide) ?_
    exact hL32 σ u1 u2 0 _ _ _  hW (lv_sub hl [0, 1, 2] rfl) hF
  have hl := lv_entry ([.ref (ad (27)), .int x1, .int x2]) (n := 3) (Nat.le_of_ble_eq_true rfl)
  rw [lg_entry_eq]
  generalize (lg_sl ([.ref (ad (27)), .int x1, .int x2]) ++ List.replicate (3 - (lg_sl ([.ref (ad (27)), .int x1, .int x2])).length) Slot.unset).toArray = ls at hl ⊢
  have hl : lv_has ls 3 [(0, .ref (ad (27))), (1, .int x1), (2, .int x2)] := hl
  unfold F_X7_label at hF
  refine lv_aload_n hx hb dX7_label_0 rfl (lv_at hl 0 rfl) ?_
  refine lv_aload_n hx hb dX7_label_1 rfl (lv_at hl 0 rfl) ?_
  refine lv_iload_n hx hb dX7_label_2 rfl (lv_at hl 1 rfl) ?_
  obtain ⟨y9, hy9, hF⟩ := bd_some hF
  refine r_bi (va_runV (As := [.int x1]) (rest := [.ref (ad (27))]) ⟨hx, hb, hml, hown, htA⟩ (m_X7_isLamp l G g ad n a0 aM σ x1 y9  hy9) (cwV 1 htA (gV aw_549 aw_550 aw_551 aw_382 gz_X7_isLamp) rfl rfl rfl (by decide +kernel) ⟨Nat.le_of_ble_eq_true rfl, Nat.le_of_ble_eq_true rfl⟩) (r_preV hK hW (27) (tp_lt (by decide)) (cE_k (rfl : kd 27 = 9)) rfl [.int x1]) rfl rfl hl.1 rfl (lv_room (Nat.le_of_ble_eq_true rfl)) dX7_label_3 ⟨Nat.zero_le _, Nat.zero_le _⟩) hW (fun H locs hW => ?_)
  refine lv_if_eq (tgt := 31) hx hb dX7_label_6 (by decide) (fun hc10 => ?_) (fun hc10 => ?_)
  · replace hF := (if_pos hc10).symm.trans hF
    exact hL31 y9.1 x1 x2 _ _ _  hW (lv_sub hl [0, 1, 2] rfl) hF
  · replace hF := (if_neg hc10).symm.trans hF
    refine lv_iload_n hx hb dX7_label_9 rfl (lv_at hl 2 rfl) ?_
    refine lv_i2l (v := (Int32.toInt64 x2)) hx hb dX7_label_10 rfl ?_
    refine lv_lconst (v := 0) hx hb dX7_label_11 (by decide) ?_
    refine lv_aload_n hx hb dX7_label_12 rfl (lv_at hl 0 rfl) ?_
    refine r_get (C := RX7) (T := TX7) (N := 39) hx hb htA ia_X7 hown hK hW (27) (tp_lt (by decide)) (cE_k (rfl : kd 27 = 9)) rfl 10 (by decide) (htA _ aw_360) rfl dX7_label_13 ?_
    refine lv_iload_n hx hb dX7_label_16 rfl (lv_at hl 1 rfl) ?_
    obtain ⟨hg11, hF⟩ := gd_some hF
    refine r_iald hx hb hK hW (36) (tp_lt (by decide)) (rfl : kd 36 = 3) hg11 dX7_label_17 ?_
    refine lv_iconst (v := 1) hx hb dX7_label_18 (by decide) ?_
    refine lv_isub hx hb dX7_label_19 ?_
    refine lv_i2l (v := (Int32.toInt64 ((y9.1.1 (36) (Int32.toNatClampNeg x1)) - 1))) hx hb dX7_label_20 rfl ?_
    obtain ⟨y12, hy12, hF⟩ := bd_some hF
    refine r_bi (va_runS (As := [.long (Int32.toInt64 x2), .long 0, .long (Int32.toInt64 ((y9.1.1 (36) (Int32.toNatClampNeg x1)) - 1))]) (rest := [.ref (ad (27))]) ⟨hx, hb, hml, hown, htA⟩ (m_X7_in l G g ad n a0 aM y9.1 (Int32.toInt64 x2) 0 (Int32.toInt64 ((y9.1.1 (36) (Int32.toNatClampNeg x1)) - 1)) y12  hy12) (va_cwS 3 htA (gS aw_390 aw_391 aw_382 gz_X7_in) rfl rfl rfl (by decide +kernel) ⟨Nat.le_of_ble_eq_true rfl, Nat.le_of_ble_eq_true rfl⟩) (r_pre hK hW [.long (Int32.toInt64 x2), .long 0, .long (Int32.toInt64 ((y9.1.1 (36) (Int32.toNatClampNeg x1)) - 1))]) rfl rfl hl.1 rfl (lv_room (Nat.le_of_ble_eq_true rfl)) dX7_label_21 ⟨Nat.zero_le _, Nat.zero_le _⟩) hW (fun H locs hW => ?_)
    refine lv_if_eq (tgt := 31) hx hb dX7_label_24 (by decide) (fun hc13 => ?_) (fun hc13 => ?_)
    · replace hF := (if_pos hc13).symm.trans hF
      exact hL31 y12.1 x1 x2 _ _ _  hW (lv_sub hl [0, 1, 2] rfl) hF
    · replace hF := (if_neg hc13).symm.trans hF
      refine lv_iconst (v := 1) hx hb dX7_label_27 (by decide) ?_
      refine lv_goto (tgt := 32) hx hb dX7_label_28 (by decide) ?_
      exact hL32 y12.1 x1 x2 1 _ _ _  hW (lv_sub hl [0, 1, 2] rfl) hF
def F_X7_silence_L28 (σ : St) (u1 : Int32) (u2 : Int32) (z0 : Int32) : Option (St × Int32) := gd (ib u1 (ln (34))) (nm (sI σ (34) (Int32.toNatClampNeg u1) (vp_nar .boolean u2)) (fun w7 => some (w7, z0)))
def F_X7_silence (σ : St) (x1 : Int32) (x2 : Int32) : Option (St × Int32) := (F_X7_isLamp σ x1).bind (fun y8 => (F_X7_goes y8.1 y8.2).bind (fun y9 => if y9.2 = 0 then some (y9.1, 0) else gd (ib x1 (ln (34))) (if (y9.1.1 (34) (Int32.toNatClampNeg x1)) = 0 then F_X7_silence_L28 y9.1 x1 x2 0 else F_X7_silence_L28 y9.1 x1 x2 1)))
set_option maxHeartbeats 4000000 in
set_option maxRecDepth 100000 in
theorem m_X7_silence (l : Launch) (G : va_G) (g : Nat → ClassId) (ad : Nat → Nat) (n a0 aM : Nat) (σ : St) (x1 : Int32) (x2 : Int32) (x : St × Int32) (hF : F_X7_silence σ x1 x2 = some x) : Met l yX7_silence zs_X7_silence ({ frames := 2, cells := 0, slots := 0, locals := 46 } : Room) (va_Pc [.ref (ad (27)), .int x1, .int x2] (wP G g ad n a0 aM σ)) (qI G g ad n a0 x) 0 0 (fun q : Nat => a0 ≤ q) := by
  refine Met.ofW (cc := cX7_silence) (maxL := 4) (ret := (some .int)) (by decide) rfl ?_
  intro p e s m args below meth c s₁ B hml hv
  obtain ⟨rfl, hP, hD, hK⟩ := hv
  have hx := B.exec
  have hb := B.bytes
  have hr := B.returns
  have htA : ∀ w ∈ AL, w.before _ s = true := fun w h9 => atoms_spec (ws := zs_X7_silence) B.pre w (List.mem_cons_of_mem _ h9)
  have hown : s.vm.findClass RX7 = some m.cls := findClass_of_methodNamed B.named
  have hlocks := B.notSynchronized
  have hW : Wd G g ad n a0 s.heap σ s.heap [] := ⟨hP, hD, va_S.rf⟩
  clear hP hD
  have hL28 : ∀ (σ : St) (u1 : Int32) (u2 : Int32) (z0 : Int32) (H : Heap) (locs : List Loc) (ls : Array Slot), Wd G g ad n a0 s.heap σ H locs → lv_has ls 4 [(0, .ref (ad (27))), (1, .int u1), (2, .int u2)] → F_X7_silence_L28  σ u1 u2 z0 = some x → W p l e (headSpec zs_X7_silence ({ frames := 2, cells := 0, slots := 0, locals := 46 } : Room)).room s m ([.ref (ad (27)), .int x1, .int x2] : List Value).toArray below meth c H locs 0 0 (MQ below (qI G g ad n a0 x) ([.ref (ad (27)), .int x1, .int x2] : List Value).toArray s 0 0 (fun q : Nat => a0 ≤ q)) (F0 m 28 ls [.int z0]) := by
    intro σ u1 u2 z0 H locs ls hW hl hF
    unfold F_X7_silence_L28 at hF
    refine lv_istore_n (lv' := [(3, .int z0), (0, .ref (ad (27))), (1, .int u1), (2, .int u2)]) hx hb dX7_silence_28 rfl hl (by decide) rfl (fun ls hl => ?_)
    refine lv_aload_n hx hb dX7_silence_29 rfl (lv_at hl 1 rfl) ?_
    refine r_get (C := RX7) (T := TX7) (N := 39) hx hb htA ia_X7 hown hK hW (27) (tp_lt (by decide)) (cE_k (rfl : kd 27 = 9)) rfl 8 (by decide) (htA _ aw_358) rfl dX7_silence_30 ?_
    refine lv_iload_n hx hb dX7_silence_33 rfl (lv_at hl 2 rfl) ?_
    refine lv_iload_n hx hb dX7_silence_34 rfl (lv_at hl 3 rfl) ?_
    obtain ⟨hg6, hF⟩ := gd_some hF
    refine r_zast hx hb hK hW (34) (tp_lt (by decide)) (rfl : kd 34 = 11) hg6 dX7_silence_35 (fun H locs hW => ?_)
    obtain ⟨w7, ew7, hF⟩ := nm_some hF
    rw [← ew7] at hW
    refine lv_iload_n hx hb dX7_silence_36 rfl (lv_at hl 0 rfl) ?_
    exact r_iret hx hb hr hlocks hW hF dX7_silence_37
  have hl := lv_entry ([.ref (ad (27)), .int x1, .int x2]) (n := 4) (Nat.le_of_ble_eq_true rfl)
  rw [lg_entry_eq]
  generalize (lg_sl ([.ref (ad (27)), .int x1, .int x2]) ++ List.replicate (4 - (lg_sl ([.ref (ad (27)), .int x1, .int x2])).length) Slot.unset).toArray = ls at hl ⊢
  have hl : lv_has ls 4 [(0, .ref (ad (27))), (1, .int x1), (2, .int x2)] := hl
  unfold F_X7_silence at hF
  refine lv_aload_n hx hb dX7_silence_0 rfl (lv_at hl 0 rfl) ?_
  refine lv_aload_n hx hb dX7_silence_1 rfl (lv_at hl 0 rfl) ?_
  refine lv_iload_n hx hb dX7_silence_2 rfl (lv_at hl 1 rfl) ?_
  obtain ⟨y8, hy8, hF⟩ := bd_some hF
  refine r_bi (va_runV (As := [.int x1]) (rest := [.ref (ad (27))]) ⟨hx, hb, hml, hown, htA⟩ (m_X7_isLamp l G g ad n a0 aM σ x1 y8  hy8) (cwV 1 htA (gV aw_549 aw_550 aw_551 aw_382 gz_X7_isLamp) rfl rfl rfl (by decide +kernel) ⟨Nat.le_of_ble_eq_true rfl, Nat.le_of_ble_eq_true rfl⟩) (r_preV hK hW (27) (tp_lt (by decide)) (cE_k (rfl : kd 27 = 9)) rfl [.int x1]) rfl rfl hl.1 rfl (lv_room (Nat.le_of_ble_eq_true rfl)) dX7_silence_3 ⟨Nat.zero_le _, Nat.zero_le _⟩) hW (fun H locs hW => ?_)
  obtain ⟨y9, hy9, hF⟩ := bd_some hF
  refine r_bi (va_runV (As := [.int y8.2]) (rest := []) ⟨hx, hb, hml, hown, htA⟩ (m_X7_goes l G g ad n a0 aM y8.1 y8.2 y9  hy9) (cwV 1 htA (gV aw_394 aw_395 aw_396 aw_382 gz_X7_goes) rfl rfl rfl (by decide +kernel) ⟨Nat.le_of_ble_eq_true rfl, Nat.le_of_ble_eq_true rfl⟩) (r_preV hK hW (27) (tp_lt (by decide)) (cE_k (rfl : kd 27 = 9)) rfl [.int y8.2]) rfl rfl hl.1 rfl (lv_room (Nat.le_of_ble_eq_true rfl)) dX7_silence_6 ⟨Nat.zero_le _, Nat.zero_le _⟩) hW (fun H locs hW => ?_)
  refine lv_if_ne (tgt := 14) hx hb dX7_silence_9 (by decide) (fun hc10 => ?_) (fun hc10 => ?_)
  · replace hF := (if_neg hc10).symm.trans hF
    refine lv_aload_n hx hb dX7_silence_14 rfl (lv_at hl 0 rfl) ?_
    refine r_get (C := RX7) (T := TX7) (N := 39) hx hb htA ia_X7 hown hK hW (27) (tp_lt (by decide)) (cE_k (rfl : kd 27 = 9)) rfl 8 (by decide) (htA _ aw_358) rfl dX7_silence_15 ?_
    refine lv_iload_n hx hb dX7_silence_18 rfl (lv_at hl 1 rfl) ?_
    obtain ⟨hg11, hF⟩ := gd_some hF
    refine r_zald hx hb hK hW (34) (tp_lt (by decide)) (rfl : kd 34 = 11) hg11 dX7_silence_19 ?_
    refine lv_if_eq (tgt := 27) hx hb dX7_silence_20 (by decide) (fun hc12 => ?_) (fun hc12 => ?_)
    · replace hF := (if_pos hc12).symm.trans hF
      refine lv_iconst (v := 0) hx hb dX7_silence_27 (by decide) ?_
      exact hL28 y9.1 x1 x2 0 _ _ _  hW (lv_sub hl [0, 1, 2] rfl) hF
    · replace hF := (if_neg hc12).symm.trans hF
      refine lv_iconst (v := 1) hx hb dX7_silence_23 (by decide) ?_
      refine lv_goto (tgt := 28) hx hb dX7_silence_24 (by decide) ?_
      exact hL28 y9.1 x1 x2 1 _ _ _  hW (lv_sub hl [0, 1, 2] rfl) hF
  · replace hF := (if_pos hc10).symm.trans hF
    refine lv_iconst (v := 0) hx hb dX7_silence_12 (by decide) ?_
    exact r_iret hx hb hr hlocks hW hF dX7_silence_13
def F_X7_search (σ : St) : Option (St × Int32) := nm (sI σ (27) 0 0) (fun w12 => nm (sI w12 (27) 32 1) (fun w13 => nm (sI w13 (27) 33 0) (fun w14 => nm (sI w14 (27) 37 0) (fun w15 => nm (sI w15 (27) 34 1) (fun w16 => gd (ib 0 (ln (51))) (nm (sJ w16 (51) (Int32.toNatClampNeg 0) 0) (fun w18 => gd (ib 0 (ln (52))) (nm (sJ w18 (52) (Int32.toNatClampNeg 0) 281474976710654) (fun w20 => (F_X7_beginPacket w20 281474976710655 0 16 3).bind (fun y21 => (F_X7_sendOff y21).bind (fun y22 => some (y22, 1))))))))))))
set_option maxHeartbeats 4000000 in
set_option maxRecDepth 100000 in
theorem m_X7_search (l : Launch) (G : va_G) (g : Nat → ClassId) (ad : Nat → Nat) (n a0 aM : Nat) (σ : St) (x : St × Int32) (hF : F_X7_search σ = some x) : Met l yX7_search zs_X7_search ({ frames := 9, cells := 0, slots := 0, locals := 211 } : Room) (va_Pc [.ref (ad (27))] (wP G g ad n a0 aM σ)) (qI G g ad n a0 x) 0 0 (fun q : Nat => a0 ≤ q) := by
  refine Met.ofW (cc := cX7_search) (maxL := 1) (ret := (some .int)) (by decide) rfl ?_
  intro p e s m args below meth c s₁ B hml hv
  obtain ⟨rfl, hP, hD, hK⟩ := hv
  have hx := B.exec
  have hb := B.bytes
  have hr := B.returns
  have htA : ∀ w ∈ AL, w.before _ s = true := fun w h9 => atoms_spec (ws := zs_X7_search) B.pre w (List.mem_cons_of_mem _ h9)
  have hown : s.vm.findClass RX7 = some m.cls := findClass_of_methodNamed B.named
  have hlocks := B.notSynchronized
  have hW : Wd G g ad n a0 s.heap σ s.heap [] := ⟨hP, hD, va_S.rf⟩
  clear hP hD
  have hl := lv_entry ([.ref (ad (27))]) (n := 1) (Nat.le_of_ble_eq_true rfl)
  rw [lg_entry_eq]
  generalize (lg_sl ([.ref (ad (27))]) ++ List.replicate (1 - (lg_sl ([.ref (ad (27))])).length) Slot.unset).toArray = ls at hl ⊢
  have hl : lv_has ls 1 [(0, .ref (ad (27)))] := hl
  unfold F_X7_search at hF
  refine lv_aload_n hx hb dX7_search_0 rfl (lv_at hl 0 rfl) ?_
  refine lv_iconst (v := 0) hx hb dX7_search_1 (by decide) ?_
  refine r_putI (C := RX7) (T := TX7) (N := 39) (ty := .int) hx hb htA ia_X7 tyX7 tyX7_ok nmX7 hown hK hW (27) (tp_lt (by decide)) (cE_k (rfl : kd 27 = 9)) rfl 0 (by decide) (cE_k (rfl : kd 27 = 9)) (htA _ aw_379) rfl (by decide +kernel) rfl rfl (Nat.le_of_ble_eq_true rfl) dX7_search_2 (fun H locs hW => ?_)
  obtain ⟨w12, ew12, hF⟩ := nm_some hF
  rw [← ew12] at hW
  refine lv_aload_n hx hb dX7_search_5 rfl (lv_at hl 0 rfl) ?_
  refine lv_iconst (v := 1) hx hb dX7_search_6 (by decide) ?_
  refine r_putI (C := RX7) (T := TX7) (N := 39) (ty := .boolean) hx hb htA ia_X7 tyX7 tyX7_ok nmX7 hown hK hW (27) (tp_lt (by decide)) (cE_k (rfl : kd 27 = 9)) rfl 32 (by decide) (cE_k (rfl : kd 27 = 9)) (htA _ aw_553) rfl (by decide +kernel) rfl rfl (Nat.le_of_ble_eq_true rfl) dX7_search_7 (fun H locs hW => ?_)
  obtain ⟨w13, ew13, hF⟩ := nm_some hF
  rw [← ew13] at hW
  refine lv_aload_n hx hb dX7_search_10 rfl (lv_at hl 0 rfl) ?_
  refine lv_iconst (v := 0) hx hb dX7_search_11 (by decide) ?_
  refine r_putI (C := RX7) (T := TX7) (N := 39) (ty := .int) hx hb htA ia_X7 tyX7 tyX7_ok nmX7 hown hK hW (27) (tp_lt (by decide)) (cE_k (rfl : kd 27 = 9)) rfl 33 (by decide) (cE_k (rfl : kd 27 = 9)) (htA _ aw_554) rfl (by decide +kernel) rfl rfl (Nat.le_of_ble_eq_true rfl) dX7_search_12 (fun H locs hW => ?_)
  obtain ⟨w14, ew14, hF⟩ := nm_some hF
  rw [← ew14] at hW
  refine lv_aload_n hx hb dX7_search_15 rfl (lv_at hl 0 rfl) ?_
  refine lv_iconst (v := 0) hx hb dX7_search_16 (by decide) ?_
  refine r_putI (C := RX7) (T := TX7) (N := 39) (ty := .int) hx hb htA ia_X7 tyX7 tyX7_ok nmX7 hown hK hW (27) (tp_lt (by decide)) (cE_k (rfl : kd 27 = 9)) rfl 37 (by decide) (cE_k (rfl : kd 27 = 9)) (htA _ aw_555) rfl (by decide +kernel) rfl rfl (Nat.le_of_ble_eq_true rfl) dX7_search_17 (fun H locs hW => ?_)
  obtain ⟨w15, ew15, hF⟩ := nm_some hF
  rw [← ew15] at hW
  refine lv_aload_n hx hb dX7_search_20 rfl (lv_at hl 0 rfl) ?_
  refine lv_iconst (v := 1) hx hb dX7_search_21 (by decide) ?_
  refine r_putI (C := RX7) (T := TX7) (N := 39) (ty := .int) hx hb htA ia_X7 tyX7 tyX7_ok nmX7 hown hK hW (27) (tp_lt (by decide)) (cE_k (rfl : kd 27 = 9)) rfl 34 (by decide) (cE_k (rfl : kd 27 = 9)) (htA _ aw_556) rfl (by decide +kernel) rfl rfl (Nat.le_of_ble_eq_true rfl) dX7_search_22 (fun H locs hW => ?_)
  obtain ⟨w16, ew16, hF⟩ := nm_some hF
  rw [← ew16] at hW
  refine lv_aload_n hx hb dX7_search_25 rfl (lv_at hl 0 rfl) ?_
  refine r_get (C := RX7) (T := TX7) (N := 39) hx hb htA ia_X7 hown hK hW (27) (tp_lt (by decide)) (cE_k (rfl : kd 27 = 9)) rfl 35 (by decide) (htA _ aw_376) rfl dX7_search_26 ?_
  refine lv_iconst (v := 0) hx hb dX7_search_29 (by decide) ?_
  refine lv_lconst (v := 0) hx hb dX7_search_30 (by decide) ?_
  obtain ⟨hg17, hF⟩ := gd_some hF
  refine r_last hx hb hK hW (51) (tp_lt (by decide)) (rfl : kd 51 = 7) hg17 dX7_search_31 (fun H locs hW => ?_)
  obtain ⟨w18, ew18, hF⟩ := nm_some hF
  rw [← ew18] at hW
  refine lv_aload_n hx hb dX7_search_32 rfl (lv_at hl 0 rfl) ?_
  refine r_get (C := RX7) (T := TX7) (N := 39) hx hb htA ia_X7 hown hK hW (27) (tp_lt (by decide)) (cE_k (rfl : kd 27 = 9)) rfl 36 (by decide) (htA _ aw_377) rfl dX7_search_33 ?_
  refine lv_iconst (v := 0) hx hb dX7_search_36 (by decide) ?_
  refine lv_ldc2 (v := 281474976710654) hx hb hown (htA _ aw_557) dX7_search_37 ?_
  obtain ⟨hg19, hF⟩ := gd_some hF
  refine r_last hx hb hK hW (52) (tp_lt (by decide)) (rfl : kd 52 = 7) hg19 dX7_search_40 (fun H locs hW => ?_)
  obtain ⟨w20, ew20, hF⟩ := nm_some hF
  rw [← ew20] at hW
  refine lv_aload_n hx hb dX7_search_41 rfl (lv_at hl 0 rfl) ?_
  refine lv_ldc2 (v := 281474976710655) hx hb hown (htA _ aw_558) dX7_search_42 ?_
  refine lv_iconst (v := 0) hx hb dX7_search_45 (by decide) ?_
  refine lv_bipush (v := 16) hx hb dX7_search_46 (by decide) ?_
  refine lv_iconst (v := 3) hx hb dX7_search_48 (by decide) ?_
  obtain ⟨y21, hy21, hF⟩ := bd_some hF
  refine r_bv (va_runV (As := [.long 281474976710655, .int 0, .int 16, .int 3]) (rest := []) ⟨hx, hb, hml, hown, htA⟩ (m_X7_beginPacket l G g ad n a0 aM w20 281474976710655 0 16 3 y21  hy21) (cwV 4 htA (gV aw_535 aw_536 aw_537 aw_382 gz_X7_beginPacket) rfl rfl rfl (by decide +kernel) ⟨Nat.le_of_ble_eq_true rfl, Nat.le_of_ble_eq_true rfl⟩) (r_preV hK hW (27) (tp_lt (by decide)) (cE_k (rfl : kd 27 = 9)) rfl [.long 281474976710655, .int 0, .int 16, .int 3]) rfl rfl hl.1 rfl (lv_room (Nat.le_of_ble_eq_true rfl)) dX7_search_49 ⟨Nat.zero_le _, Nat.zero_le _⟩) hW (fun H locs hW => ?_)
  refine lv_aload_n hx hb dX7_search_52 rfl (lv_at hl 0 rfl) ?_
  obtain ⟨y22, hy22, hF⟩ := bd_some hF
  refine r_bv (va_runV (As := []) (rest := []) ⟨hx, hb, hml, hown, htA⟩ (m_X7_sendOff l G g ad n a0 aM y21 y22  hy22) (cwV 0 htA (gV aw_539 aw_540 aw_541 aw_382 gz_X7_sendOff) rfl rfl rfl (by decide +kernel) ⟨Nat.le_of_ble_eq_true rfl, Nat.le_of_ble_eq_true rfl⟩) (r_preV hK hW (27) (tp_lt (by decide)) (cE_k (rfl : kd 27 = 9)) rfl []) rfl rfl hl.1 rfl (lv_room (Nat.le_of_ble_eq_true rfl)) dX7_search_53 ⟨Nat.zero_le _, Nat.zero_le _⟩) hW (fun H locs hW => ?_)
  refine lv_iconst (v := 1) hx hb dX7_search_56 (by decide) ?_
  exact r_iret hx hb hr hlocks hW hF dX7_search_57
def F_X7_push (σ : St) (x1 : Int64) (x3 : Int64) : Option (St) := gd (ib (σ.1 (27) 34) (ln (51))) (nm (sJ σ (51) (Int32.toNatClampNeg (σ.1 (27) 34)) x1) (fun w7 => gd (ib (w7.1 (27) 34) (ln (52))) (nm (sJ w7 (52) (Int32.toNatClampNeg (w7.1 (27) 34)) x3) (fun w9 => nm (sI w9 (27) 34 ((w9.1 (27) 34) + 1)) (fun w10 => some w10)))))
set_option maxHeartbeats 4000000 in
set_option maxRecDepth 100000 in
theorem m_X7_push (l : Launch) (G : va_G) (g : Nat → ClassId) (ad : Nat → Nat) (n a0 aM : Nat) (σ : St) (x1 : Int64) (x3 : Int64) (x : St) (hF : F_X7_push σ x1 x3 = some x) : Met l yX7_push zs_X7_push ({ frames := 0, cells := 0, slots := 0, locals := 0 } : Room) (va_Pc [.ref (ad (27)), .long x1, .long x3] (wP G g ad n a0 aM σ)) (qV G g ad n a0 x) 0 0 (fun q : Nat => a0 ≤ q) := by
  refine Met.ofW (cc := cX7_push) (maxL := 5) (ret := none) (by decide) rfl ?_
  intro p e s m args below meth c s₁ B hml hv
  obtain ⟨rfl, hP, hD, hK⟩ := hv
  have hx := B.exec
  have hb := B.bytes
  have hr := B.returns
  have htA : ∀ w ∈ AL, w.before _ s = true := fun w h9 => atoms_spec (ws := zs_X7_push) B.pre w (List.mem_cons_of_mem _ h9)
  have hown : s.vm.findClass RX7 = some m.cls := findClass_of_methodNamed B.named
  have hlocks := B.notSynchronized
  have hW : Wd G g ad n a0 s.heap σ s.heap [] := ⟨hP, hD, va_S.rf⟩
  clear hP hD
  have hl := lv_entry ([.ref (ad (27)), .long x1, .long x3]) (n := 5) (Nat.le_of_ble_eq_true rfl)
  rw [lg_entry_eq]
  generalize (lg_sl ([.ref (ad (27)), .long x1, .long x3]) ++ List.replicate (5 - (lg_sl ([.ref (ad (27)), .long x1, .long x3])).length) Slot.unset).toArray = ls at hl ⊢
  have hl : lv_has ls 5 [(0, .ref (ad (27))), (1, .long x1), (3, .long x3)] := hl
  unfold F_X7_push at hF
  refine lv_aload_n hx hb dX7_push_0 rfl (lv_at hl 0 rfl) ?_
  refine r_get (C := RX7) (T := TX7) (N := 39) hx hb htA ia_X7 hown hK hW (27) (tp_lt (by decide)) (cE_k (rfl : kd 27 = 9)) rfl 35 (by decide) (htA _ aw_376) rfl dX7_push_1 ?_
  refine lv_aload_n hx hb dX7_push_4 rfl (lv_at hl 0 rfl) ?_
  refine r_get (C := RX7) (T := TX7) (N := 39) hx hb htA ia_X7 hown hK hW (27) (tp_lt (by decide)) (cE_k (rfl : kd 27 = 9)) rfl 34 (by decide) (htA _ aw_556) rfl dX7_push_5 ?_
  refine lv_lload_n hx hb dX7_push_8 rfl (lv_at hl 1 rfl) ?_
  obtain ⟨hg6, hF⟩ := gd_some hF
  refine r_last hx hb hK hW (51) (tp_lt (by decide)) (rfl : kd 51 = 7) hg6 dX7_push_9 (fun H locs hW => ?_)
  obtain ⟨w7, ew7, hF⟩ := nm_some hF
  rw [← ew7] at hW
  refine lv_aload_n hx hb dX7_push_10 rfl (lv_at hl 0 rfl) ?_
  refine r_get (C := RX7) (T := TX7) (N := 39) hx hb htA ia_X7 hown hK hW (27) (tp_lt (by decide)) (cE_k (rfl : kd 27 = 9)) rfl 36 (by decide) (htA _ aw_377) rfl dX7_push_11 ?_
  refine lv_aload_n hx hb dX7_push_14 rfl (lv_at hl 0 rfl) ?_
  refine r_get (C := RX7) (T := TX7) (N := 39) hx hb htA ia_X7 hown hK hW (27) (tp_lt (by decide)) (cE_k (rfl : kd 27 = 9)) rfl 34 (by decide) (htA _ aw_556) rfl dX7_push_15 ?_
  refine lv_lload_n hx hb dX7_push_18 rfl (lv_at hl 2 rfl) ?_
  obtain ⟨hg8, hF⟩ := gd_some hF
  refine r_last hx hb hK hW (52) (tp_lt (by decide)) (rfl : kd 52 = 7) hg8 dX7_push_19 (fun H locs hW => ?_)
  obtain ⟨w9, ew9, hF⟩ := nm_some hF
  rw [← ew9] at hW
  refine lv_aload_n hx hb dX7_push_20 rfl (lv_at hl 0 rfl) ?_
  refine lv_dup hx hb dX7_push_21 rfl ?_
  refine r_get (C := RX7) (T := TX7) (N := 39) hx hb htA ia_X7 hown hK hW (27) (tp_lt (by decide)) (cE_k (rfl : kd 27 = 9)) rfl 34 (by decide) (htA _ aw_556) rfl dX7_push_22 ?_
  refine lv_iconst (v := 1) hx hb dX7_push_25 (by decide) ?_
  refine lv_iadd hx hb dX7_push_26 ?_
  refine r_putI (C := RX7) (T := TX7) (N := 39) (ty := .int) hx hb htA ia_X7 tyX7 tyX7_ok nmX7 hown hK hW (27) (tp_lt (by decide)) (cE_k (rfl : kd 27 = 9)) rfl 34 (by decide) (cE_k (rfl : kd 27 = 9)) (htA _ aw_556) rfl (by decide +kernel) rfl rfl (Nat.le_of_ble_eq_true rfl) dX7_push_27 (fun H locs hW => ?_)
  obtain ⟨w10, ew10, hF⟩ := nm_some hF
  rw [← ew10] at hW
  exact r_vret hx hb hr hlocks hW hF dX7_push_30
def F_X7_isFound_L42 (σ : St) (u3 : Int32) : Option (St × Int32) := gd (zb u3) (some (σ, u3))
def F_X7_isFound_L5 (K42 : St → Int32 → Option (St × Int32)) : Nat → St → Int64 → Int32 → Int32 → Option (St × Int32)
  | 0, _, _, _, _ => none
  | fz + 1, σ, u1, u3, u4 => if (σ.1 (27) 37) ≤ u4 then K42 σ u3 else if u3 = 0 then gd (ib u4 (ln (53))) (if (lg_cmp (σ.2 (53) (Int32.toNatClampNeg u4)) u1) = 0 then (F_X7_isFound_L5 K42 fz) σ u1 1 (u4 + 1) else (F_X7_isFound_L5 K42 fz) σ u1 0 (u4 + 1)) else (F_X7_isFound_L5 K42 fz) σ u1 1 (u4 + 1)
def F_X7_isFound (σ : St) (x1 : Int64) : Option (St × Int32) := F_X7_isFound_L5 F_X7_isFound_L42 fu σ x1 0 0
set_option maxHeartbeats 4000000 in
set_option maxRecDepth 100000 in
theorem m_X7_isFound (l : Launch) (G : va_G) (g : Nat → ClassId) (ad : Nat → Nat) (n a0 aM : Nat) (σ : St) (x1 : Int64) (x : St × Int32) (hF : F_X7_isFound σ x1 = some x) : Met l yX7_isFound zs_X7_isFound ({ frames := 0, cells := 0, slots := 0, locals := 0 } : Room) (va_Pc [.ref (ad (27)), .long x1] (wP G g ad n a0 aM σ)) (qI G g ad n a0 x) 0 0 (fun q : Nat => a0 ≤ q) := by
  refine Met.ofW (cc := cX7_isFound) (maxL := 5) (ret := (some .boolean)) (by decide) rfl ?_
  intro p e s m args below meth c s₁ B hml hv
  obtain ⟨rfl, hP, hD, hK⟩ := hv
  have hx := B.exec
  have hb := B.bytes
  have hr := B.returns
  have htA : ∀ w ∈ AL, w.before _ s = true := fun w h9 => atoms_spec (ws := zs_X7_isFound) B.pre w (List.mem_cons_of_mem _ h9)
  have hown : s.vm.findClass RX7 = some m.cls := findClass_of_methodNamed B.named
  have hlocks := B.notSynchronized
  have hW : Wd G g ad n a0 s.heap σ s.heap [] := ⟨hP, hD, va_S.rf⟩
  clear hP hD
  have hL42 : ∀ (σ : St) (u3 : Int32) (H : Heap) (locs : List Loc) (ls : Array Slot), Wd G g ad n a0 s.heap σ H locs → lv_has ls 5 [(3, .int u3)] → F_X7_isFound_L42  σ u3 = some x → W p l e (headSpec zs_X7_isFound ({ frames := 0, cells := 0, slots := 0, locals := 0 } : Room)).room s m ([.ref (ad (27)), .long x1] : List Value).toArray below meth c H locs 0 0 (MQ below (qI G g ad n a0 x) ([.ref (ad (27)), .long x1] : List Value).toArray s 0 0 (fun q : Nat => a0 ≤ q)) (F0 m 42 ls []) := by
    intro σ u3 H locs ls hW hl hF
    unfold F_X7_isFound_L42 at hF
    refine lv_iload_n hx hb dX7_isFound_42 rfl (lv_at hl 0 rfl) ?_
    obtain ⟨hg2, hF⟩ := gd_some hF
    exact r_zret hx hb hr hlocks hW hg2 hF dX7_isFound_43
  have hL5 : ∀ (fz5 : Nat) (σ : St) (u1 : Int64) (u3 : Int32) (u4 : Int32) (H : Heap) (locs : List Loc) (ls : Array Slot), Wd G g ad n a0 s.heap σ H locs → lv_has ls 5 [(0, .ref (ad (27))), (1, .long u1), (3, .int u3), (4, .int u4)] → F_X7_isFound_L5 (F_X7_isFound_L42) fz5 σ u1 u3 u4 = some x → W p l e (headSpec zs_X7_isFound ({ frames := 0, cells := 0, slots := 0, locals := 0 } : Room)).room s m ([.ref (ad (27)), .long x1] : List Value).toArray below meth c H locs 0 0 (MQ below (qI G g ad n a0 x) ([.ref (ad (27)), .long x1] : List Value).toArray s 0 0 (fun q : Nat => a0 ≤ q)) (F0 m 5 ls []) := by
    intro fz5
    induction fz5 with
    | zero =>
      intro σ u1 u3 u4 H locs ls hW hl hF
      exact absurd hF (by simp [F_X7_isFound_L5])
    | succ fz5 ih =>
      have hB5 := ih
      intro σ u1 u3 u4 H locs ls hW hl hF
      unfold F_X7_isFound_L5 at hF
      refine lv_iload hx hb dX7_isFound_5 (lv_at hl 3 rfl) ?_
      refine lv_aload_n hx hb dX7_isFound_7 rfl (lv_at hl 0 rfl) ?_
      refine r_get (C := RX7) (T := TX7) (N := 39) hx hb htA ia_X7 hown hK hW (27) (tp_lt (by decide)) (cE_k (rfl : kd 27 = 9)) rfl 37 (by decide) (htA _ aw_555) rfl dX7_isFound_8 ?_
      refine lv_icmp_ge (tgt := 42) hx hb dX7_isFound_11 (by decide) (fun hc3 => ?_) (fun hc3 => ?_)
      · replace hF := (if_pos hc3).symm.trans hF
        exact hL42 σ u3 _ _ _  hW (lv_sub hl [2] rfl) hF
      · replace hF := (if_neg hc3).symm.trans hF
        refine lv_iload_n hx hb dX7_isFound_14 rfl (lv_at hl 2 rfl) ?_
        refine lv_if_ne (tgt := 30) hx hb dX7_isFound_15 (by decide) (fun hc4 => ?_) (fun hc4 => ?_)
        · replace hF := (if_neg hc4).symm.trans hF
          refine lv_iconst (v := 1) hx hb dX7_isFound_30 (by decide) ?_
          refine lv_goto (tgt := 35) hx hb dX7_isFound_31 (by decide) ?_
          refine lv_istore_n (lv' := [(3, .int 1), (0, .ref (ad (27))), (1, .long u1), (4, .int u4)]) hx hb dX7_isFound_35 rfl hl (by decide) rfl (fun ls hl => ?_)
          refine lv_iinc (v := (u4 + 1)) (lv' := [(4, .int (u4 + 1)), (3, .int 1), (0, .ref (ad (27))), (1, .long u1)]) hx hb dX7_isFound_36 hl (k := 3) rfl rfl (by decide) rfl (fun ls hl => ?_)
          refine lv_goto (tgt := 5) hx hb dX7_isFound_39 (by decide) ?_
          exact hB5 σ u1 1 (u4 + 1) _ _ _  hW (lv_sub hl [2, 3, 1, 0] rfl) hF
        · replace hF := (if_pos hc4).symm.trans hF
          refine lv_aload_n hx hb dX7_isFound_18 rfl (lv_at hl 0 rfl) ?_
          refine r_get (C := RX7) (T := TX7) (N := 39) hx hb htA ia_X7 hown hK hW (27) (tp_lt (by decide)) (cE_k (rfl : kd 27 = 9)) rfl 38 (by decide) (htA _ aw_378) rfl dX7_isFound_19 ?_
          refine lv_iload hx hb dX7_isFound_22 (lv_at hl 3 rfl) ?_
          obtain ⟨hg5, hF⟩ := gd_some hF
          refine r_lald hx hb hK hW (53) (tp_lt (by decide)) (rfl : kd 53 = 7) hg5 dX7_isFound_24 ?_
          refine lv_lload_n hx hb dX7_isFound_25 rfl (lv_at hl 1 rfl) ?_
          refine W.lcmp hx hb dX7_isFound_26 ?_
          refine lv_if_ne (tgt := 34) hx hb dX7_isFound_27 (by decide) (fun hc6 => ?_) (fun hc6 => ?_)
          · replace hF := (if_neg hc6).symm.trans hF
            refine lv_iconst (v := 0) hx hb dX7_isFound_34 (by decide) ?_
            refine lv_istore_n (lv' := [(3, .int 0), (0, .ref (ad (27))), (1, .long u1), (4, .int u4)]) hx hb dX7_isFound_35 rfl hl (by decide) rfl (fun ls hl => ?_)
            refine lv_iinc (v := (u4 + 1)) (lv' := [(4, .int (u4 + 1)), (3, .int 0), (0, .ref (ad (27))), (1, .long u1)]) hx hb dX7_isFound_36 hl (k := 3) rfl rfl (by decide) rfl (fun ls hl => ?_)
            refine lv_goto (tgt := 5) hx hb dX7_isFound_39 (by decide) ?_
            exact hB5 σ u1 0 (u4 + 1) _ _ _  hW (lv_sub hl [2, 3, 1, 0] rfl) hF
          · replace hF := (if_pos hc6).symm.trans hF
            refine lv_iconst (v := 1) hx hb dX7_isFound_30 (by decide) ?_
            refine lv_goto (tgt := 35) hx hb dX7_isFound_31 (by decide) ?_
            refine lv_istore_n (lv' := [(3, .int 1), (0, .ref (ad (27))), (1, .long u1), (4, .int u4)]) hx hb dX7_isFound_35 rfl hl (by decide) rfl (fun ls hl => ?_)
            refine lv_iinc (v := (u4 + 1)) (lv' := [(4, .int (u4 + 1)), (3, .int 1), (0, .ref (ad (27))), (1, .long u1)]) hx hb dX7_isFound_36 hl (k := 3) rfl rfl (by decide) rfl (fun ls hl => ?_)
            refine lv_goto (tgt := 5) hx hb dX7_isFound_39 (by decide) ?_
            exact hB5 σ u1 1 (u4 + 1) _ _ _  hW (lv_sub hl [2, 3, 1, 0] rfl) hF
  have hL5 := hL5 fu
  have hl := lv_entry ([.ref (ad (27)), .long x1]) (n := 5) (Nat.le_of_ble_eq_true rfl)
  rw [lg_entry_eq]
  generalize (lg_sl ([.ref (ad (27)), .long x1]) ++ List.replicate (5 - (lg_sl ([.ref (ad (27)), .long x1])).length) Slot.unset).toArray = ls at hl ⊢
  have hl : lv_has ls 5 [(0, .ref (ad (27))), (1, .long x1)] := hl
  unfold F_X7_isFound at hF
  refine lv_iconst (v := 0) hx hb dX7_isFound_0 (by decide) ?_
  refine lv_istore_n (lv' := [(3, .int 0), (0, .ref (ad (27))), (1, .long x1)]) hx hb dX7_isFound_1 rfl hl (by decide) rfl (fun ls hl => ?_)
  refine lv_iconst (v := 0) hx hb dX7_isFound_2 (by decide) ?_
  refine lv_istore (lv' := [(4, .int 0), (3, .int 0), (0, .ref (ad (27))), (1, .long x1)]) hx hb dX7_isFound_3 hl (by decide) rfl (fun ls hl => ?_)
  exact hL5 σ x1 0 0 _ _ _  hW (lv_sub hl [2, 3, 1, 0] rfl) hF
def F_X7_tried_L101 (σ : St) (u1 : Int64) : Option (St × Int32) := (F_X7_beginPacket σ u1 0 16 3).bind (fun y14 => (F_X7_sendOff y14).bind (fun y15 => some (y15, 2)))
def F_X7_tried (σ : St) (x1 : Int64) : Option (St × Int32) := (F_X7_beginPacket σ x1 0 16 2).bind (fun y16 => (F_X7_sendOff y16).bind (fun y17 => if (y17.1 (27) 25) = 0 then some (y17, 0) else (F_X7_isReply y17 x1).bind (fun y19 => if y19.2 = 0 then F_X7_tried_L101 y19.1 x1 else (F_X7_heard y19.1 20).bind (fun y21 => if y21.2 = 17 then (F_X7_heard y21.1 21).bind (fun y23 => (F_X7_heard y23.1 22).bind (fun y24 => if ((y23.2 * 256) + y24.2) = 2 then (F_X7_heard y24.1 16).bind (fun y26 => if y26.2 = 0 then (F_X7_isFound y26.1 x1).bind (fun y28 => if y28.2 = 0 then gd (ib (y28.1.1 (27) 37) (ln (53))) (nm (sJ y28.1 (53) (Int32.toNatClampNeg (y28.1.1 (27) 37)) x1) (fun w31 => nm (sI w31 (27) 37 ((w31.1 (27) 37) + 1)) (fun w32 => some (w32, 1)))) else some (y28.1, 1)) else F_X7_tried_L101 y26.1 x1) else F_X7_tried_L101 y24.1 x1)) else F_X7_tried_L101 y21.1 x1))))
set_option maxHeartbeats 4000000 in
set_option maxRecDepth 100000 in
theorem m_X7_tried (l : Launch) (G : va_G) (g : Nat → ClassId) (ad : Nat → Nat) (n a0 aM : Nat) (σ : St) (x1 : Int64) (x : St × Int32) (hF : F_X7_tried σ x1 = some x) : Met l yX7_tried zs_X7_tried ({ frames := 9, cells := 0, slots := 0, locals := 211 } : Room) (va_Pc [.ref (ad (27)), .long x1] (wP G g ad n a0 aM σ)) (qI G g ad n a0 x) 0 0 (fun q : Nat => a0 ≤ q) := by
  refine Met.ofW (cc := cX7_tried) (maxL := 3) (ret := (some .int)) (by decide) rfl ?_
  intro p e s m args below meth c s₁ B hml hv
  obtain ⟨rfl, hP, hD, hK⟩ := hv
  have hx := B.exec
  have hb := B.bytes
  have hr := B.returns
  have htA : ∀ w ∈ AL, w.before _ s = true := fun w h9 => atoms_spec (ws := zs_X7_tried) B.pre w (List.mem_cons_of_mem _ h9)
  have hown : s.vm.findClass RX7 = some m.cls := findClass_of_methodNamed B.named
  have hlocks := B.notSynchronized
  have hW : Wd G g ad n a0 s.heap σ s.heap [] := ⟨hP, hD, va_S.rf⟩
  clear hP hD
  have hL101 : ∀ (σ : St) (u1 : Int64) (H : Heap) (locs : List Loc) (ls : Array Slot), Wd G g ad n a0 s.heap σ H locs → lv_has ls 3 [(0, .ref (ad (27))), (1, .long u1)] → F_X7_tried_L101  σ u1 = some x → W p l e (headSpec zs_X7_tried ({ frames := 9, cells := 0, slots := 0, locals := 211 } : Room)).room s m ([.ref (ad (27)), .long x1] : List Value).toArray below meth c H locs 0 0 (MQ below (qI G g ad n a0 x) ([.ref (ad (27)), .long x1] : List Value).toArray s 0 0 (fun q : Nat => a0 ≤ q)) (F0 m 101 ls []) := by
    intro σ u1 H locs ls hW hl hF
    unfold F_X7_tried_L101 at hF
    refine lv_aload_n hx hb dX7_tried_101 rfl (lv_at hl 0 rfl) ?_
    refine lv_lload_n hx hb dX7_tried_102 rfl (lv_at hl 1 rfl) ?_
    refine lv_iconst (v := 0) hx hb dX7_tried_103 (by decide) ?_
    refine lv_bipush (v := 16) hx hb dX7_tried_104 (by decide) ?_
    refine lv_iconst (v := 3) hx hb dX7_tried_106 (by decide) ?_
    obtain ⟨y14, hy14, hF⟩ := bd_some hF
    refine r_bv (va_runV (As := [.long u1, .int 0, .int 16, .int 3]) (rest := []) ⟨hx, hb, hml, hown, htA⟩ (m_X7_beginPacket l G g ad n a0 aM σ u1 0 16 3 y14  hy14) (cwV 4 htA (gV aw_535 aw_536 aw_537 aw_382 gz_X7_beginPacket) rfl rfl rfl (by decide +kernel) ⟨Nat.le_of_ble_eq_true rfl, Nat.le_of_ble_eq_true rfl⟩) (r_preV hK hW (27) (tp_lt (by decide)) (cE_k (rfl : kd 27 = 9)) rfl [.long u1, .int 0, .int 16, .int 3]) rfl rfl hl.1 rfl (lv_room (Nat.le_of_ble_eq_true rfl)) dX7_tried_107 ⟨Nat.zero_le _, Nat.zero_le _⟩) hW (fun H locs hW => ?_)
    refine lv_aload_n hx hb dX7_tried_110 rfl (lv_at hl 0 rfl) ?_
    obtain ⟨y15, hy15, hF⟩ := bd_some hF
    refine r_bv (va_runV (As := []) (rest := []) ⟨hx, hb, hml, hown, htA⟩ (m_X7_sendOff l G g ad n a0 aM y14 y15  hy15) (cwV 0 htA (gV aw_539 aw_540 aw_541 aw_382 gz_X7_sendOff) rfl rfl rfl (by decide +kernel) ⟨Nat.le_of_ble_eq_true rfl, Nat.le_of_ble_eq_true rfl⟩) (r_preV hK hW (27) (tp_lt (by decide)) (cE_k (rfl : kd 27 = 9)) rfl []) rfl rfl hl.1 rfl (lv_room (Nat.le_of_ble_eq_true rfl)) dX7_tried_111 ⟨Nat.zero_le _, Nat.zero_le _⟩) hW (fun H locs hW => ?_)
    refine lv_iconst (v := 2) hx hb dX7_tried_114 (by decide) ?_
    exact r_iret hx hb hr hlocks hW hF dX7_tried_115
  have hl := lv_entry ([.ref (ad (27)), .long x1]) (n := 3) (Nat.le_of_ble_eq_true rfl)
  rw [lg_entry_eq]
  generalize (lg_sl ([.ref (ad (27)), .long x1]) ++ List.replicate (3 - (lg_sl ([.ref (ad (27)), .long x1])).length) Slot.unset).toArray = ls at hl ⊢
  have hl : lv_has ls 3 [(0, .ref (ad (27))), (1, .long x1)] := hl
  unfold F_X7_tried at hF
  refine lv_aload_n hx hb dX7_tried_0 rfl (lv_at hl 0 rfl) ?_
  refine lv_lload_n hx hb dX7_tried_1 rfl (lv_at hl 1 rfl) ?_
  refine lv_iconst (v := 0) hx hb dX7_tried_2 (by decide) ?_
  refine lv_bipush (v := 16) hx hb dX7_tried_3 (by decide) ?_
  refine lv_iconst (v := 2) hx hb dX7_tried_5 (by decide) ?_
  obtain ⟨y16, hy16, hF⟩ := bd_some hF
  refine r_bv (va_runV (As := [.long x1, .int 0, .int 16, .int 2]) (rest := []) ⟨hx, hb, hml, hown, htA⟩ (m_X7_beginPacket l G g ad n a0 aM σ x1 0 16 2 y16  hy16) (cwV 4 htA (gV aw_535 aw_536 aw_537 aw_382 gz_X7_beginPacket) rfl rfl rfl (by decide +kernel) ⟨Nat.le_of_ble_eq_true rfl, Nat.le_of_ble_eq_true rfl⟩) (r_preV hK hW (27) (tp_lt (by decide)) (cE_k (rfl : kd 27 = 9)) rfl [.long x1, .int 0, .int 16, .int 2]) rfl rfl hl.1 rfl (lv_room (Nat.le_of_ble_eq_true rfl)) dX7_tried_6 ⟨Nat.zero_le _, Nat.zero_le _⟩) hW (fun H locs hW => ?_)
  refine lv_aload_n hx hb dX7_tried_9 rfl (lv_at hl 0 rfl) ?_
  obtain ⟨y17, hy17, hF⟩ := bd_some hF
  refine r_bv (va_runV (As := []) (rest := []) ⟨hx, hb, hml, hown, htA⟩ (m_X7_sendOff l G g ad n a0 aM y16 y17  hy17) (cwV 0 htA (gV aw_539 aw_540 aw_541 aw_382 gz_X7_sendOff) rfl rfl rfl (by decide +kernel) ⟨Nat.le_of_ble_eq_true rfl, Nat.le_of_ble_eq_true rfl⟩) (r_preV hK hW (27) (tp_lt (by decide)) (cE_k (rfl : kd 27 = 9)) rfl []) rfl rfl hl.1 rfl (lv_room (Nat.le_of_ble_eq_true rfl)) dX7_tried_10 ⟨Nat.zero_le _, Nat.zero_le _⟩) hW (fun H locs hW => ?_)
  refine lv_aload_n hx hb dX7_tried_13 rfl (lv_at hl 0 rfl) ?_
  refine r_get (C := RX7) (T := TX7) (N := 39) hx hb htA ia_X7 hown hK hW (27) (tp_lt (by decide)) (cE_k (rfl : kd 27 = 9)) rfl 25 (by decide) (htA _ aw_489) rfl dX7_tried_14 ?_
  refine lv_if_ne (tgt := 22) hx hb dX7_tried_17 (by decide) (fun hc18 => ?_) (fun hc18 => ?_)
  · replace hF := (if_neg hc18).symm.trans hF
    refine lv_aload_n hx hb dX7_tried_22 rfl (lv_at hl 0 rfl) ?_
    refine lv_lload_n hx hb dX7_tried_23 rfl (lv_at hl 1 rfl) ?_
    obtain ⟨y19, hy19, hF⟩ := bd_some hF
    refine r_bi (va_runV (As := [.long x1]) (rest := []) ⟨hx, hb, hml, hown, htA⟩ (m_X7_isReply l G g ad n a0 aM y17 x1 y19  hy19) (cwV 1 htA (gV aw_543 aw_544 aw_545 aw_382 gz_X7_isReply) rfl rfl rfl (by decide +kernel) ⟨Nat.le_of_ble_eq_true rfl, Nat.le_of_ble_eq_true rfl⟩) (r_preV hK hW (27) (tp_lt (by decide)) (cE_k (rfl : kd 27 = 9)) rfl [.long x1]) rfl rfl hl.1 rfl (lv_room (Nat.le_of_ble_eq_true rfl)) dX7_tried_24 ⟨Nat.zero_le _, Nat.zero_le _⟩) hW (fun H locs hW => ?_)
    refine lv_if_eq (tgt := 101) hx hb dX7_tried_27 (by decide) (fun hc20 => ?_) (fun hc20 => ?_)
    · replace hF := (if_pos hc20).symm.trans hF
      exact hL101 y19.1 x1 _ _ _  hW (lv_sub hl [0, 1] rfl) hF
    · replace hF := (if_neg hc20).symm.trans hF
      refine lv_aload_n hx hb dX7_tried_30 rfl (lv_at hl 0 rfl) ?_
      refine lv_bipush (v := 20) hx hb dX7_tried_31 (by decide) ?_
      obtain ⟨y21, hy21, hF⟩ := bd_some hF
      refine r_bi (va_runV (As := [.int 20]) (rest := []) ⟨hx, hb, hml, hown, htA⟩ (m_X7_heard l G g ad n a0 aM y19.1 20 y21  hy21) (cwV 1 htA (gV aw_526 aw_527 aw_528 aw_382 gz_X7_heard) rfl rfl rfl (by decide +kernel) ⟨Nat.le_of_ble_eq_true rfl, Nat.le_of_ble_eq_true rfl⟩) (r_preV hK hW (27) (tp_lt (by decide)) (cE_k (rfl : kd 27 = 9)) rfl [.int 20]) rfl rfl hl.1 rfl (lv_room (Nat.le_of_ble_eq_true rfl)) dX7_tried_33 ⟨Nat.zero_le _, Nat.zero_le _⟩) hW (fun H locs hW => ?_)
      refine lv_bipush (v := 17) hx hb dX7_tried_36 (by decide) ?_
      refine lv_icmp_ne (tgt := 101) hx hb dX7_tried_38 (by decide) (fun hc22 => ?_) (fun hc22 => ?_)
      · replace hF := (if_neg hc22).symm.trans hF
        exact hL101 y21.1 x1 _ _ _  hW (lv_sub hl [0, 1] rfl) hF
      · replace hF := (if_pos hc22).symm.trans hF
        refine lv_aload_n hx hb dX7_tried_41 rfl (lv_at hl 0 rfl) ?_
        refine lv_bipush (v := 21) hx hb dX7_tried_42 (by decide) ?_
        obtain ⟨y23, hy23, hF⟩ := bd_some hF
        refine r_bi (va_runV (As := [.int 21]) (rest := []) ⟨hx, hb, hml, hown, htA⟩ (m_X7_heard l G g ad n a0 aM y21.1 21 y23  hy23) (cwV 1 htA (gV aw_526 aw_527 aw_528 aw_382 gz_X7_heard) rfl rfl rfl (by decide +kernel) ⟨Nat.le_of_ble_eq_true rfl, Nat.le_of_ble_eq_true rfl⟩) (r_preV hK hW (27) (tp_lt (by decide)) (cE_k (rfl : kd 27 = 9)) rfl [.int 21]) rfl rfl hl.1 rfl (lv_room (Nat.le_of_ble_eq_true rfl)) dX7_tried_44 ⟨Nat.zero_le _, Nat.zero_le _⟩) hW (fun H locs hW => ?_)
        refine lv_sipush (v := 256) hx hb dX7_tried_47 (by decide) ?_
        refine lv_imul hx hb dX7_tried_50 ?_
        refine lv_aload_n hx hb dX7_tried_51 rfl (lv_at hl 0 rfl) ?_
        refine lv_bipush (v := 22) hx hb dX7_tried_52 (by decide) ?_
        obtain ⟨y24, hy24, hF⟩ := bd_some hF
        refine r_bi (va_runV (As := [.int 22]) (rest := [.int (y23.2 * 256)]) ⟨hx, hb, hml, hown, htA⟩ (m_X7_heard l G g ad n a0 aM y23.1 22 y24  hy24) (cwV 1 htA (gV aw_526 aw_527 aw_528 aw_382 gz_X7_heard) rfl rfl rfl (by decide +kernel) ⟨Nat.le_of_ble_eq_true rfl, Nat.le_of_ble_eq_true rfl⟩) (r_preV hK hW (27) (tp_lt (by decide)) (cE_k (rfl : kd 27 = 9)) rfl [.int 22]) rfl rfl hl.1 rfl (lv_room (Nat.le_of_ble_eq_true rfl)) dX7_tried_54 ⟨Nat.zero_le _, Nat.zero_le _⟩) hW (fun H locs hW => ?_)
        refine lv_iadd hx hb dX7_tried_57 ?_
        refine lv_iconst (v := 2) hx hb dX7_tried_58 (by decide) ?_
        refine lv_icmp_ne (tgt := 101) hx hb dX7_tried_59 (by decide) (fun hc25 => ?_) (fun hc25 => ?_)
        · replace hF := (if_neg hc25).symm.trans hF
          exact hL101 y24.1 x1 _ _ _  hW (lv_sub hl [0, 1] rfl) hF
        · replace hF := (if_pos hc25).symm.trans hF
          refine lv_aload_n hx hb dX7_tried_62 rfl (lv_at hl 0 rfl) ?_
          refine lv_bipush (v := 16) hx hb dX7_tried_63 (by decide) ?_
          obtain ⟨y26, hy26, hF⟩ := bd_some hF
          refine r_bi (va_runV (As := [.int 16]) (rest := []) ⟨hx, hb, hml, hown, htA⟩ (m_X7_heard l G g ad n a0 aM y24.1 16 y26  hy26) (cwV 1 htA (gV aw_526 aw_527 aw_528 aw_382 gz_X7_heard) rfl rfl rfl (by decide +kernel) ⟨Nat.le_of_ble_eq_true rfl, Nat.le_of_ble_eq_true rfl⟩) (r_preV hK hW (27) (tp_lt (by decide)) (cE_k (rfl : kd 27 = 9)) rfl [.int 16]) rfl rfl hl.1 rfl (lv_room (Nat.le_of_ble_eq_true rfl)) dX7_tried_65 ⟨Nat.zero_le _, Nat.zero_le _⟩) hW (fun H locs hW => ?_)
          refine lv_if_ne (tgt := 101) hx hb dX7_tried_68 (by decide) (fun hc27 => ?_) (fun hc27 => ?_)
          · replace hF := (if_neg hc27).symm.trans hF
            exact hL101 y26.1 x1 _ _ _  hW (lv_sub hl [0, 1] rfl) hF
          · replace hF := (if_pos hc27).symm.trans hF
            refine lv_aload_n hx hb dX7_tried_71 rfl (lv_at hl 0 rfl) ?_
            refine lv_lload_n hx hb dX7_tried_72 rfl (lv_at hl 1 rfl) ?_
            obtain ⟨y28, hy28, hF⟩ := bd_some hF
            refine r_bi (va_runV (As := [.long x1]) (rest := []) ⟨hx, hb, hml, hown, htA⟩ (m_X7_isFound l G g ad n a0 aM y26.1 x1 y28  hy28) (cwV 1 htA (gV aw_559 aw_560 aw_561 aw_382 gz_X7_isFound) rfl rfl rfl (by decide +kernel) ⟨Nat.le_of_ble_eq_true rfl, Nat.le_of_ble_eq_true rfl⟩) (r_preV hK hW (27) (tp_lt (by decide)) (cE_k (rfl : kd 27 = 9)) rfl [.long x1]) rfl rfl hl.1 rfl (lv_room (Nat.le_of_ble_eq_true rfl)) dX7_tried_73 ⟨Nat.zero_le _, Nat.zero_le _⟩) hW (fun H locs hW => ?_)
            refine lv_if_ne (tgt := 99) hx hb dX7_tried_76 (by decide) (fun hc29 => ?_) (fun hc29 => ?_)
            · replace hF := (if_neg hc29).symm.trans hF
              refine lv_iconst (v := 1) hx hb dX7_tried_99 (by decide) ?_
              exact r_iret hx hb hr hlocks hW hF dX7_tried_100
            · replace hF := (if_pos hc29).symm.trans hF
              refine lv_aload_n hx hb dX7_tried_79 rfl (lv_at hl 0 rfl) ?_
              refine r_get (C := RX7) (T := TX7) (N := 39) hx hb htA ia_X7 hown hK hW (27) (tp_lt (by decide)) (cE_k (rfl : kd 27 = 9)) rfl 38 (by decide) (htA _ aw_378) rfl dX7_tried_80 ?_
              refine lv_aload_n hx hb dX7_tried_83 rfl (lv_at hl 0 rfl) ?_
              refine r_get (C := RX7) (T := TX7) (N := 39) hx hb htA ia_X7 hown hK hW (27) (tp_lt (by decide)) (cE_k (rfl : kd 27 = 9)) rfl 37 (by decide) (htA _ aw_555) rfl dX7_tried_84 ?_
              refine lv_lload_n hx hb dX7_tried_87 rfl (lv_at hl 1 rfl) ?_
              obtain ⟨hg30, hF⟩ := gd_some hF
              refine r_last hx hb hK hW (53) (tp_lt (by decide)) (rfl : kd 53 = 7) hg30 dX7_tried_88 (fun H locs hW => ?_)
              obtain ⟨w31, ew31, hF⟩ := nm_some hF
              rw [← ew31] at hW
              refine lv_aload_n hx hb dX7_tried_89 rfl (lv_at hl 0 rfl) ?_
              refine lv_dup hx hb dX7_tried_90 rfl ?_
              refine r_get (C := RX7) (T := TX7) (N := 39) hx hb htA ia_X7 hown hK hW (27) (tp_lt (by decide)) (cE_k (rfl : kd 27 = 9)) rfl 37 (by decide) (htA _ aw_555) rfl dX7_tried_91 ?_
              refine lv_iconst (v := 1) hx hb dX7_tried_94 (by decide) ?_
              refine lv_iadd hx hb dX7_tried_95 ?_
              refine r_putI (C := RX7) (T := TX7) (N := 39) (ty := .int) hx hb htA ia_X7 tyX7 tyX7_ok nmX7 hown hK hW (27) (tp_lt (by decide)) (cE_k (rfl : kd 27 = 9)) rfl 37 (by decide) (cE_k (rfl : kd 27 = 9)) (htA _ aw_555) rfl (by decide +kernel) rfl rfl (Nat.le_of_ble_eq_true rfl) dX7_tried_96 (fun H locs hW => ?_)
              obtain ⟨w32, ew32, hF⟩ := nm_some hF
              rw [← ew32] at hW
              refine lv_iconst (v := 1) hx hb dX7_tried_99 (by decide) ?_
              exact r_iret hx hb hr hlocks hW hF dX7_tried_100
  · replace hF := (if_pos hc18).symm.trans hF
    refine lv_iconst (v := 0) hx hb dX7_tried_20 (by decide) ?_
    exact r_iret hx hb hr hlocks hW hF dX7_tried_21
def F_X7_shown_L167 (σ : St) (u1 : Int64) (u3 : Int32) (u4 : Int32) : Option (St × Int64) := if (u3 - u3 / 65536 * 65536) = u4 then some (σ, u1) else some (σ, (-1))
def F_X7_shown_L112 (σ : St) : Option (St × Int64) := some (σ, (-1))
def F_X7_shown_L65 (K112 : St → Option (St × Int64)) (K167 : St → Int64 → Int32 → Int32 → Option (St × Int64)) : Nat → St → Int64 → Int32 → Int32 → Int32 → Option (St × Int64)
  | 0, _, _, _, _, _ => none
  | fz + 1, σ, u1, u3, u4, u5 => if 24 ≤ u5 then K167 σ u1 u3 u4 else (F_X7_heard σ u5).bind (fun y6 => (F_X7_heard y6.1 (u5 + 1)).bind (fun y7 => if (y6.2 &&& 170) = 170 then if (y7.2 &&& 85) = 85 then if 20 ≤ u5 then (F_X7_shown_L65 K112 K167 fz) y7.1 u1 u3 ((u4 * 256) + (y6.2 &&& y7.2)) (u5 + 2) else (F_X7_shown_L65 K112 K167 fz) y7.1 ((u1 * 256) + (Int32.toInt64 (y6.2 &&& y7.2))) ((u3 + y6.2) + y7.2) u4 (u5 + 2) else K112 y7.1 else K112 y7.1))
def F_X7_shown_L54 (σ : St) : Option (St × Int64) := F_X7_shown_L65 F_X7_shown_L112 F_X7_shown_L167 fu σ 0 0 0 8
def F_X7_shown_L44 (σ : St) : Option (St × Int64) := some (σ, (-1))
def F_X7_shown_L41 (B15 : St → Int32 → Option (St × Int64)) (K44 : St → Option (St × Int64)) (K54 : St → Option (St × Int64)) (σ : St) (u1 : Int32) (z0 : Int32) (z1 : Int32) : Option (St × Int64) := if z1 = z0 then B15 σ (u1 + 1) else K44 σ
def F_X7_shown_L15 (K44 : St → Option (St × Int64)) (K54 : St → Option (St × Int64)) : Nat → St → Int32 → Option (St × Int64)
  | 0, _, _ => none
  | fz + 1, σ, u1 => if 8 ≤ u1 then K54 σ else (F_X7_heard σ u1).bind (fun y13 => if 7 ≤ u1 then F_X7_shown_L41 (F_X7_shown_L15 K44 K54 fz) K44 K54 y13.1 u1 170 y13.2 else F_X7_shown_L41 (F_X7_shown_L15 K44 K54 fz) K44 K54 y13.1 u1 254 y13.2)
def F_X7_shown (σ : St) : Option (St × Int64) := if (σ.1 (27) 25) = 24 then F_X7_shown_L15 F_X7_shown_L44 F_X7_shown_L54 fu σ 0 else some (σ, (-1))
set_option maxHeartbeats 4000000 in
set_option maxRecDepth 100000 in
theorem m_X7_shown (l : Launch) (G : va_G) (g : Nat → ClassId) (ad : Nat → Nat) (n a0 aM : Nat) (σ : St) (x : St × Int64) (hF : F_X7_shown σ = some x) : Met l yX7_shown zs_X7_shown ({ frames := 1, cells := 0, slots := 0, locals := 21 } : Room) (va_Pc [.ref (ad (27))] (wP G g ad n a0 aM σ)) (qJ G g ad n a0 x) 0 0 (fun q : Nat => a0 ≤ q) := by
  refine Met.ofW (cc := cX7_shown) (maxL := 8) (ret := (some .long)) (by decide) rfl ?_
  intro p e s m args below meth c s₁ B hml hv
  obtain ⟨rfl, hP, hD, hK⟩ := hv
  have hx := B.exec
  have hb := B.bytes
  have hr := B.returns
  have htA : ∀ w ∈ AL, w.before _ s = true := fun w h9 => atoms_spec (ws := zs_X7_shown) B.pre w (List.mem_cons_of_mem _ h9)
  have hown : s.vm.findClass RX7 = some m.cls := findClass_of_methodNamed B.named
  have hlocks := B.notSynchronized
  have hW : Wd G g ad n a0 s.heap σ s.heap [] := ⟨hP, hD, va_S.rf⟩
  clear hP hD
  have hL167 : ∀ (σ : St) (u1 : Int64) (u3 : Int32) (u4 : Int32) (H : Heap) (locs : List Loc) (ls : Array Slot), Wd G g ad n a0 s.heap σ H locs → lv_has ls 8 [(1, .long u1), (3, .int u3), (4, .int u4)] → F_X7_shown_L167  σ u1 u3 u4 = some x → W p l e (headSpec zs_X7_shown ({ frames := 1, cells := 0, slots := 0, locals := 21 } : Room)).room s m ([.ref (ad (27))] : List Value).toArray below meth c H locs 0 0 (MQ below (qJ G g ad n a0 x) ([.ref (ad (27))] : List Value).toArray s 0 0 (fun q : Nat => a0 ≤ q)) (F0 m 167 ls []) := by
    intro σ u1 u3 u4 H locs ls hW hl hF
    unfold F_X7_shown_L167 at hF
    refine lv_iload_n hx hb dX7_shown_167 rfl (lv_at hl 1 rfl) ?_
    refine lv_ldc (v := 65536) hx hb hown (htA _ aw_409) dX7_shown_168 ?_
    refine lv_irem hx hb dX7_shown_170 (by decide) ?_
    refine lv_iload hx hb dX7_shown_171 (lv_at hl 2 rfl) ?_
    refine lv_icmp_ne (tgt := 180) hx hb dX7_shown_173 (by decide) (fun hc4 => ?_) (fun hc4 => ?_)
    · replace hF := (if_neg hc4).symm.trans hF
      refine lv_ldc2 (v := (-1)) hx hb hown (htA _ aw_563) dX7_shown_180 ?_
      exact r_lret hx hb hr hlocks hW hF dX7_shown_183
    · replace hF := (if_pos hc4).symm.trans hF
      refine lv_lload_n hx hb dX7_shown_176 rfl (lv_at hl 0 rfl) ?_
      refine lv_goto (tgt := 183) hx hb dX7_shown_177 (by decide) ?_
      exact r_lret hx hb hr hlocks hW hF dX7_shown_183
  have hL112 : ∀ (σ : St) (H : Heap) (locs : List Loc) (ls : Array Slot), Wd G g ad n a0 s.heap σ H locs → lv_has ls 8 [] → F_X7_shown_L112  σ = some x → W p l e (headSpec zs_X7_shown ({ frames := 1, cells := 0, slots := 0, locals := 21 } : Room)).room s m ([.ref (ad (27))] : List Value).toArray below meth c H locs 0 0 (MQ below (qJ G g ad n a0 x) ([.ref (ad (27))] : List Value).toArray s 0 0 (fun q : Nat => a0 ≤ q)) (F0 m 112 ls []) := by
    intro σ H locs ls hW hl hF
    unfold F_X7_shown_L112 at hF
    refine lv_ldc2 (v := (-1)) hx hb hown (htA _ aw_563) dX7_shown_112 ?_
    exact r_lret hx hb hr hlocks hW hF dX7_shown_115
  have hL65 : ∀ (fz65 : Nat) (σ : St) (u1 : Int64) (u3 : Int32) (u4 : Int32) (u5 : Int32) (H : Heap) (locs : List Loc) (ls : Array Slot), Wd G g ad n a0 s.heap σ H locs → lv_has ls 8 [(0, .ref (ad (27))), (1, .long u1), (3, .int u3), (4, .int u4), (5, .int u5)] → F_X7_shown_L65 (F_X7_shown_L112) (F_X7_shown_L167) fz65 σ u1 u3 u4 u5 = some x → W p l e (headSpec zs_X7_shown ({ frames := 1, cells := 0, slots := 0, locals := 21 } : Room)).room s m ([.ref (ad (27))] : List Value).toArray below meth c H locs 0 0 (MQ below (qJ G g ad n a0 x) ([.ref (ad (27))] : List Value).toArray s 0 0 (fun q : Nat => a0 ≤ q)) (F0 m 65 ls []) := by
    intro fz65
    induction fz65 with
    | zero =>
      intro σ u1 u3 u4 u5 H locs ls hW hl hF
      exact absurd hF (by simp [F_X7_shown_L65])
    | succ fz65 ih =>
      have hB65 := ih
      intro σ u1 u3 u4 u5 H locs ls hW hl hF
      unfold F_X7_shown_L65 at hF
      refine lv_iload hx hb dX7_shown_65 (lv_at hl 4 rfl) ?_
      refine lv_bipush (v := 24) hx hb dX7_shown_67 (by decide) ?_
      refine lv_icmp_ge (tgt := 167) hx hb dX7_shown_69 (by decide) (fun hc5 => ?_) (fun hc5 => ?_)
      · replace hF := (if_pos hc5).symm.trans hF
        exact hL167 σ u1 u3 u4 _ _ _  hW (lv_sub hl [1, 2, 3] rfl) hF
      · replace hF := (if_neg hc5).symm.trans hF
        refine lv_aload_n hx hb dX7_shown_72 rfl (lv_at hl 0 rfl) ?_
        refine lv_iload hx hb dX7_shown_73 (lv_at hl 4 rfl) ?_
        obtain ⟨y6, hy6, hF⟩ := bd_some hF
        refine r_bi (va_runV (As := [.int u5]) (rest := []) ⟨hx, hb, hml, hown, htA⟩ (m_X7_heard l G g ad n a0 aM σ u5 y6  hy6) (cwV 1 htA (gV aw_526 aw_527 aw_528 aw_382 gz_X7_heard) rfl rfl rfl (by decide +kernel) ⟨Nat.le_of_ble_eq_true rfl, Nat.le_of_ble_eq_true rfl⟩) (r_preV hK hW (27) (tp_lt (by decide)) (cE_k (rfl : kd 27 = 9)) rfl [.int u5]) rfl rfl hl.1 rfl (lv_room (Nat.le_of_ble_eq_true rfl)) dX7_shown_75 ⟨Nat.zero_le _, Nat.zero_le _⟩) hW (fun H locs hW => ?_)
        refine lv_istore (lv' := [(6, .int y6.2), (0, .ref (ad (27))), (1, .long u1), (3, .int u3), (4, .int u4), (5, .int u5)]) hx hb dX7_shown_78 hl (by decide) rfl (fun ls hl => ?_)
        refine lv_aload_n hx hb dX7_shown_80 rfl (lv_at hl 1 rfl) ?_
        refine lv_iload hx hb dX7_shown_81 (lv_at hl 5 rfl) ?_
        refine lv_iconst (v := 1) hx hb dX7_shown_83 (by decide) ?_
        refine lv_iadd hx hb dX7_shown_84 ?_
        obtain ⟨y7, hy7, hF⟩ := bd_some hF
        refine r_bi (va_runV (As := [.int (u5 + 1)]) (rest := []) ⟨hx, hb, hml, hown, htA⟩ (m_X7_heard l G g ad n a0 aM y6.1 (u5 + 1) y7  hy7) (cwV 1 htA (gV aw_526 aw_527 aw_528 aw_382 gz_X7_heard) rfl rfl rfl (by decide +kernel) ⟨Nat.le_of_ble_eq_true rfl, Nat.le_of_ble_eq_true rfl⟩) (r_preV hK hW (27) (tp_lt (by decide)) (cE_k (rfl : kd 27 = 9)) rfl [.int (u5 + 1)]) rfl rfl hl.1 rfl (lv_room (Nat.le_of_ble_eq_true rfl)) dX7_shown_85 ⟨Nat.zero_le _, Nat.zero_le _⟩) hW (fun H locs hW => ?_)
        refine lv_istore (lv' := [(7, .int y7.2), (6, .int y6.2), (0, .ref (ad (27))), (1, .long u1), (3, .int u3), (4, .int u4), (5, .int u5)]) hx hb dX7_shown_88 hl (by decide) rfl (fun ls hl => ?_)
        refine lv_iload hx hb dX7_shown_90 (lv_at hl 1 rfl) ?_
        refine lv_sipush (v := 170) hx hb dX7_shown_92 (by decide) ?_
        refine lv_iand hx hb dX7_shown_95 ?_
        refine lv_sipush (v := 170) hx hb dX7_shown_96 (by decide) ?_
        refine lv_icmp_ne (tgt := 112) hx hb dX7_shown_99 (by decide) (fun hc8 => ?_) (fun hc8 => ?_)
        · replace hF := (if_neg hc8).symm.trans hF
          exact hL112 y7.1 _ _ _  hW (lv_sub hl [] rfl) hF
        · replace hF := (if_pos hc8).symm.trans hF
          refine lv_iload hx hb dX7_shown_102 (lv_at hl 0 rfl) ?_
          refine lv_bipush (v := 85) hx hb dX7_shown_104 (by decide) ?_
          refine lv_iand hx hb dX7_shown_106 ?_
          refine lv_bipush (v := 85) hx hb dX7_shown_107 (by decide) ?_
          refine lv_icmp_eq (tgt := 116) hx hb dX7_shown_109 (by decide) (fun hc9 => ?_) (fun hc9 => ?_)
          · replace hF := (if_pos hc9).symm.trans hF
            refine lv_iload hx hb dX7_shown_116 (lv_at hl 6 rfl) ?_
            refine lv_bipush (v := 20) hx hb dX7_shown_118 (by decide) ?_
            refine lv_icmp_ge (tgt := 147) hx hb dX7_shown_120 (by decide) (fun hc10 => ?_) (fun hc10 => ?_)
            · replace hF := (if_pos hc10).symm.trans hF
              refine lv_iload hx hb dX7_shown_147 (lv_at hl 5 rfl) ?_
              refine lv_sipush (v := 256) hx hb dX7_shown_149 (by decide) ?_
              refine lv_imul hx hb dX7_shown_152 ?_
              refine lv_iload hx hb dX7_shown_153 (lv_at hl 1 rfl) ?_
              refine lv_iload hx hb dX7_shown_155 (lv_at hl 0 rfl) ?_
              refine lv_iand hx hb dX7_shown_157 ?_
              refine lv_iadd hx hb dX7_shown_158 ?_
              refine lv_istore (lv' := [(4, .int ((u4 * 256) + (y6.2 &&& y7.2))), (7, .int y7.2), (6, .int y6.2), (0, .ref (ad (27))), (1, .long u1), (3, .int u3), (5, .int u5)]) hx hb dX7_shown_159 hl (by decide) rfl (fun ls hl => ?_)
              refine lv_iinc (v := (u5 + 2)) (lv' := [(5, .int (u5 + 2)), (4, .int ((u4 * 256) + (y6.2 &&& y7.2))), (7, .int y7.2), (6, .int y6.2), (0, .ref (ad (27))), (1, .long u1), (3, .int u3)]) hx hb dX7_shown_161 hl (k := 6) rfl rfl (by decide) rfl (fun ls hl => ?_)
              refine lv_goto (tgt := 65) hx hb dX7_shown_164 (by decide) ?_
              exact hB65 y7.1 u1 u3 ((u4 * 256) + (y6.2 &&& y7.2)) (u5 + 2) _ _ _  hW (lv_sub hl [4, 5, 6, 1, 0] rfl) hF
            · replace hF := (if_neg hc10).symm.trans hF
              refine lv_iload_n hx hb dX7_shown_123 rfl (lv_at hl 4 rfl) ?_
              refine lv_iload hx hb dX7_shown_124 (lv_at hl 1 rfl) ?_
              refine lv_iadd hx hb dX7_shown_126 ?_
              refine lv_iload hx hb dX7_shown_127 (lv_at hl 0 rfl) ?_
              refine lv_iadd hx hb dX7_shown_129 ?_
              refine lv_istore_n (lv' := [(3, .int ((u3 + y6.2) + y7.2)), (7, .int y7.2), (6, .int y6.2), (0, .ref (ad (27))), (1, .long u1), (4, .int u4), (5, .int u5)]) hx hb dX7_shown_130 rfl hl (by decide) rfl (fun ls hl => ?_)
              refine lv_lload_n hx hb dX7_shown_131 rfl (lv_at hl 4 rfl) ?_
              refine lv_ldc2 (v := 256) hx hb hown (htA _ aw_402) dX7_shown_132 ?_
              refine lv_lmul hx hb dX7_shown_135 ?_
              refine lv_iload hx hb dX7_shown_136 (lv_at hl 2 rfl) ?_
              refine lv_iload hx hb dX7_shown_138 (lv_at hl 1 rfl) ?_
              refine lv_iand hx hb dX7_shown_140 ?_
              refine lv_i2l (v := (Int32.toInt64 (y6.2 &&& y7.2))) hx hb dX7_shown_141 rfl ?_
              refine lv_ladd hx hb dX7_shown_142 ?_
              refine lv_lstore_n (lv' := [(1, .long ((u1 * 256) + (Int32.toInt64 (y6.2 &&& y7.2)))), (3, .int ((u3 + y6.2) + y7.2)), (7, .int y7.2), (6, .int y6.2), (0, .ref (ad (27))), (4, .int u4), (5, .int u5)]) hx hb dX7_shown_143 rfl hl (by decide) rfl (fun ls hl => ?_)
              refine lv_goto (tgt := 161) hx hb dX7_shown_144 (by decide) ?_
              refine lv_iinc (v := (u5 + 2)) (lv' := [(5, .int (u5 + 2)), (1, .long ((u1 * 256) + (Int32.toInt64 (y6.2 &&& y7.2)))), (3, .int ((u3 + y6.2) + y7.2)), (7, .int y7.2), (6, .int y6.2), (0, .ref (ad (27))), (4, .int u4)]) hx hb dX7_shown_161 hl (k := 6) rfl rfl (by decide) rfl (fun ls hl => ?_)
              refine lv_goto (tgt := 65) hx hb dX7_shown_164 (by decide) ?_
              exact hB65 y7.1 ((u1 * 256) + (Int32.toInt64 (y6.2 &&& y7.2))) ((u3 + y6.2) + y7.2) u4 (u5 + 2) _ _ _  hW (lv_sub hl [5, 1, 2, 6, 0] rfl) hF
          · replace hF := (if_neg hc9).symm.trans hF
            exact hL112 y7.1 _ _ _  hW (lv_sub hl [] rfl) hF
  have hL65 := hL65 fu
  have hL54 : ∀ (σ : St) (H : Heap) (locs : List Loc) (ls : Array Slot), Wd G g ad n a0 s.heap σ H locs → lv_has ls 8 [(0, .ref (ad (27)))] → F_X7_shown_L54  σ = some x → W p l e (headSpec zs_X7_shown ({ frames := 1, cells := 0, slots := 0, locals := 21 } : Room)).room s m ([.ref (ad (27))] : List Value).toArray below meth c H locs 0 0 (MQ below (qJ G g ad n a0 x) ([.ref (ad (27))] : List Value).toArray s 0 0 (fun q : Nat => a0 ≤ q)) (F0 m 54 ls []) := by
    intro σ H locs ls hW hl hF
    unfold F_X7_shown_L54 at hF
    refine lv_lconst (v := 0) hx hb dX7_shown_54 (by decide) ?_
    refine lv_lstore_n (lv' := [(1, .long 0), (0, .ref (ad (27)))]) hx hb dX7_shown_55 rfl hl (by decide) rfl (fun ls hl => ?_)
    refine lv_iconst (v := 0) hx hb dX7_shown_56 (by decide) ?_
    refine lv_istore_n (lv' := [(3, .int 0), (1, .long 0), (0, .ref (ad (27)))]) hx hb dX7_shown_57 rfl hl (by decide) rfl (fun ls hl => ?_)
    refine lv_iconst (v := 0) hx hb dX7_shown_58 (by decide) ?_
    refine lv_istore (lv' := [(4, .int 0), (3, .int 0), (1, .long 0), (0, .ref (ad (27)))]) hx hb dX7_shown_59 hl (by decide) rfl (fun ls hl => ?_)
    refine lv_bipush (v := 8) hx hb dX7_shown_61 (by decide) ?_
    refine lv_istore (lv' := [(5, .int 8), (4, .int 0), (3, .int 0), (1, .long 0), (0, .ref (ad (27)))]) hx hb dX7_shown_63 hl (by decide) rfl (fun ls hl => ?_)
    exact hL65 σ 0 0 0 8 _ _ _  hW (lv_sub hl [4, 3, 2, 1, 0] rfl) hF
  have hL44 : ∀ (σ : St) (H : Heap) (locs : List Loc) (ls : Array Slot), Wd G g ad n a0 s.heap σ H locs → lv_has ls 8 [] → F_X7_shown_L44  σ = some x → W p l e (headSpec zs_X7_shown ({ frames := 1, cells := 0, slots := 0, locals := 21 } : Room)).room s m ([.ref (ad (27))] : List Value).toArray below meth c H locs 0 0 (MQ below (qJ G g ad n a0 x) ([.ref (ad (27))] : List Value).toArray s 0 0 (fun q : Nat => a0 ≤ q)) (F0 m 44 ls []) := by
    intro σ H locs ls hW hl hF
    unfold F_X7_shown_L44 at hF
    refine lv_ldc2 (v := (-1)) hx hb hown (htA _ aw_563) dX7_shown_44 ?_
    exact r_lret hx hb hr hlocks hW hF dX7_shown_47
  have hL15 : ∀ (fz15 : Nat) (σ : St) (u1 : Int32) (H : Heap) (locs : List Loc) (ls : Array Slot), Wd G g ad n a0 s.heap σ H locs → lv_has ls 8 [(0, .ref (ad (27))), (1, .int u1)] → F_X7_shown_L15 (F_X7_shown_L44) (F_X7_shown_L54) fz15 σ u1 = some x → W p l e (headSpec zs_X7_shown ({ frames := 1, cells := 0, slots := 0, locals := 21 } : Room)).room s m ([.ref (ad (27))] : List Value).toArray below meth c H locs 0 0 (MQ below (qJ G g ad n a0 x) ([.ref (ad (27))] : List Value).toArray s 0 0 (fun q : Nat => a0 ≤ q)) (F0 m 15 ls []) := by
    intro fz15
    induction fz15 with
    | zero =>
      intro σ u1 H locs ls hW hl hF
      exact absurd hF (by simp [F_X7_shown_L15])
    | succ fz15 ih =>
      have hB15 := ih
      have hL41 : ∀ (σ : St) (u1 : Int32) (z0 : Int32) (z1 : Int32) (H : Heap) (locs : List Loc) (ls : Array Slot), Wd G g ad n a0 s.heap σ H locs → lv_has ls 8 [(0, .ref (ad (27))), (1, .int u1)] → F_X7_shown_L41 (F_X7_shown_L15 (F_X7_shown_L44) (F_X7_shown_L54) fz15) (F_X7_shown_L44) (F_X7_shown_L54) σ u1 z0 z1 = some x → W p l e (headSpec zs_X7_shown ({ frames := 1, cells := 0, slots := 0, locals := 21 } : Room)).room s m ([.ref (ad (27))] : List Value).toArray below meth c H locs 0 0 (MQ below (qJ G g ad n a0 x) ([.ref (ad (27))] : List Value).toArray s 0 0 (fun q : Nat => a0 ≤ q)) (F0 m 41 ls [.int z0, .int z1]) := by
        intro σ u1 z0 z1 H locs ls hW hl hF
        unfold F_X7_shown_L41 at hF
        refine lv_icmp_eq (tgt := 48) hx hb dX7_shown_41 (by decide) (fun hc11 => ?_) (fun hc11 => ?_)
        · replace hF := (if_pos hc11).symm.trans hF
          refine lv_iinc (v := (u1 + 1)) (lv' := [(1, .int (u1 + 1)), (0, .ref (ad (27)))]) hx hb dX7_shown_48 hl (k := 1) rfl rfl (by decide) rfl (fun ls hl => ?_)
          refine lv_goto (tgt := 15) hx hb dX7_shown_51 (by decide) ?_
          exact hB15 σ (u1 + 1) _ _ _  hW (lv_sub hl [1, 0] rfl) hF
        · replace hF := (if_neg hc11).symm.trans hF
          exact hL44 σ _ _ _  hW (lv_sub hl [] rfl) hF
      intro σ u1 H locs ls hW hl hF
      unfold F_X7_shown_L15 at hF
      refine lv_iload_n hx hb dX7_shown_15 rfl (lv_at hl 1 rfl) ?_
      refine lv_bipush (v := 8) hx hb dX7_shown_16 (by decide) ?_
      refine lv_icmp_ge (tgt := 54) hx hb dX7_shown_18 (by decide) (fun hc12 => ?_) (fun hc12 => ?_)
      · replace hF := (if_pos hc12).symm.trans hF
        exact hL54 σ _ _ _  hW (lv_sub hl [0] rfl) hF
      · replace hF := (if_neg hc12).symm.trans hF
        refine lv_aload_n hx hb dX7_shown_21 rfl (lv_at hl 0 rfl) ?_
        refine lv_iload_n hx hb dX7_shown_22 rfl (lv_at hl 1 rfl) ?_
        obtain ⟨y13, hy13, hF⟩ := bd_some hF
        refine r_bi (va_runV (As := [.int u1]) (rest := []) ⟨hx, hb, hml, hown, htA⟩ (m_X7_heard l G g ad n a0 aM σ u1 y13  hy13) (cwV 1 htA (gV aw_526 aw_527 aw_528 aw_382 gz_X7_heard) rfl rfl rfl (by decide +kernel) ⟨Nat.le_of_ble_eq_true rfl, Nat.le_of_ble_eq_true rfl⟩) (r_preV hK hW (27) (tp_lt (by decide)) (cE_k (rfl : kd 27 = 9)) rfl [.int u1]) rfl rfl hl.1 rfl (lv_room (Nat.le_of_ble_eq_true rfl)) dX7_shown_23 ⟨Nat.zero_le _, Nat.zero_le _⟩) hW (fun H locs hW => ?_)
        refine lv_iload_n hx hb dX7_shown_26 rfl (lv_at hl 1 rfl) ?_
        refine lv_bipush (v := 7) hx hb dX7_shown_27 (by decide) ?_
        refine lv_icmp_ge (tgt := 38) hx hb dX7_shown_29 (by decide) (fun hc14 => ?_) (fun hc14 => ?_)
        · replace hF := (if_pos hc14).symm.trans hF
          refine lv_sipush (v := 170) hx hb dX7_shown_38 (by decide) ?_
          exact hL41 y13.1 u1 170 y13.2 _ _ _  hW (lv_sub hl [0, 1] rfl) hF
        · replace hF := (if_neg hc14).symm.trans hF
          refine lv_sipush (v := 254) hx hb dX7_shown_32 (by decide) ?_
          refine lv_goto (tgt := 41) hx hb dX7_shown_35 (by decide) ?_
          exact hL41 y13.1 u1 254 y13.2 _ _ _  hW (lv_sub hl [0, 1] rfl) hF
  have hL15 := hL15 fu
  have hl := lv_entry ([.ref (ad (27))]) (n := 8) (Nat.le_of_ble_eq_true rfl)
  rw [lg_entry_eq]
  generalize (lg_sl ([.ref (ad (27))]) ++ List.replicate (8 - (lg_sl ([.ref (ad (27))])).length) Slot.unset).toArray = ls at hl ⊢
  have hl : lv_has ls 8 [(0, .ref (ad (27)))] := hl
  unfold F_X7_shown at hF
  refine lv_aload_n hx hb dX7_shown_0 rfl (lv_at hl 0 rfl) ?_
  refine r_get (C := RX7) (T := TX7) (N := 39) hx hb htA ia_X7 hown hK hW (27) (tp_lt (by decide)) (cE_k (rfl : kd 27 = 9)) rfl 25 (by decide) (htA _ aw_489) rfl dX7_shown_1 ?_
  refine lv_bipush (v := 24) hx hb dX7_shown_4 (by decide) ?_
  refine lv_icmp_eq (tgt := 13) hx hb dX7_shown_6 (by decide) (fun hc15 => ?_) (fun hc15 => ?_)
  · replace hF := (if_pos hc15).symm.trans hF
    refine lv_iconst (v := 0) hx hb dX7_shown_13 (by decide) ?_
    refine lv_istore_n (lv' := [(1, .int 0), (0, .ref (ad (27)))]) hx hb dX7_shown_14 rfl hl (by decide) rfl (fun ls hl => ?_)
    exact hL15 σ 0 _ _ _  hW (lv_sub hl [1, 0] rfl) hF
  · replace hF := (if_neg hc15).symm.trans hF
    refine lv_ldc2 (v := (-1)) hx hb hown (htA _ aw_563) dX7_shown_9 ?_
    exact r_lret hx hb hr hlocks hW hF dX7_shown_12
def F_X7_isId (σ : St) (x0 : Int64) : Option (St × Int32) := if (lg_cmp (x0 &&& 4294967295) 4294967295) = 0 then some (σ, 0) else some (σ, 1)
set_option maxHeartbeats 4000000 in
set_option maxRecDepth 100000 in
theorem m_X7_isId (l : Launch) (G : va_G) (g : Nat → ClassId) (ad : Nat → Nat) (n a0 aM : Nat) (σ : St) (x0 : Int64) (x : St × Int32) (hF : F_X7_isId σ x0 = some x) : Met l yX7_isId zs_X7_isId ({ frames := 0, cells := 0, slots := 0, locals := 0 } : Room) (va_Pc [.long x0] (wP G g ad n a0 aM σ)) (qI G g ad n a0 x) 0 0 (fun q : Nat => a0 ≤ q) := by
  refine Met.ofW (cc := cX7_isId) (maxL := 2) (ret := (some .boolean)) (by decide) rfl ?_
  intro p e s m args below meth c s₁ B hml hv
  obtain ⟨rfl, hP, hD, hK⟩ := hv
  have hx := B.exec
  have hb := B.bytes
  have hr := B.returns
  have htA : ∀ w ∈ AL, w.before _ s = true := fun w h9 => atoms_spec (ws := zs_X7_isId) B.pre w (List.mem_cons_of_mem _ h9)
  have hown : s.vm.findClass RX7 = some m.cls := findClass_of_methodNamed B.named
  have hlocks := B.notSynchronized
  have hW : Wd G g ad n a0 s.heap σ s.heap [] := ⟨hP, hD, va_S.rf⟩
  clear hP hD
  have hl := lv_entry ([.long x0]) (n := 2) (Nat.le_of_ble_eq_true rfl)
  rw [lg_entry_eq]
  generalize (lg_sl ([.long x0]) ++ List.replicate (2 - (lg_sl ([.long x0])).length) Slot.unset).toArray = ls at hl ⊢
  have hl : lv_has ls 2 [(0, .long x0)] := hl
  unfold F_X7_isId at hF
  refine lv_lload_n hx hb dX7_isId_0 rfl (lv_at hl 0 rfl) ?_
  refine lv_ldc2 (v := 4294967295) hx hb hown (htA _ aw_490) dX7_isId_1 ?_
  refine lv_land hx hb dX7_isId_4 ?_
  refine lv_ldc2 (v := 4294967295) hx hb hown (htA _ aw_490) dX7_isId_5 ?_
  refine W.lcmp hx hb dX7_isId_8 ?_
  refine lv_if_eq (tgt := 16) hx hb dX7_isId_9 (by decide) (fun hc1 => ?_) (fun hc1 => ?_)
  · replace hF := (if_pos hc1).symm.trans hF
    refine lv_iconst (v := 0) hx hb dX7_isId_16 (by decide) ?_
    exact r_zret hx hb hr hlocks hW rfl hF dX7_isId_17
  · replace hF := (if_neg hc1).symm.trans hF
    refine lv_iconst (v := 1) hx hb dX7_isId_12 (by decide) ?_
    refine lv_goto (tgt := 17) hx hb dX7_isId_13 (by decide) ?_
    exact r_zret hx hb hr hlocks hW rfl hF dX7_isId_17
def F_X7_stepOnce_L155 (σ : St) (u1 : Int64) (u3 : Int64) : Option (St) := (F_X7_push σ (((u1 + u3) / 2) + 1) u3).bind (fun y19 => (F_X7_push y19 u1 ((u1 + u3) / 2)).bind (fun y20 => some y20))
def F_X7_stepOnce (σ : St) : Option (St) := nm (sI σ (27) 34 ((σ.1 (27) 34) - 1)) (fun w21 => gd (ib (w21.1 (27) 34) (ln (51))) (gd (ib (w21.1 (27) 34) (ln (52))) (nm (sI w21 (27) 33 ((w21.1 (27) 33) + 1)) (fun w24 => if (lg_cmp (w21.2 (51) (Int32.toNatClampNeg (w21.1 (27) 34))) (w21.2 (52) (Int32.toNatClampNeg (w21.1 (27) 34)))) = 0 then (F_X7_isId w24 (w21.2 (51) (Int32.toNatClampNeg (w21.1 (27) 34)))).bind (fun y41 => if y41.2 = 0 then some y41.1 else (F_X7_tried y41.1 (w21.2 (51) (Int32.toNatClampNeg (w21.1 (27) 34)))).bind (fun y43 => if y43.2 = 2 then (F_X7_push y43.1 (w21.2 (51) (Int32.toNatClampNeg (w21.1 (27) 34))) (w21.2 (52) (Int32.toNatClampNeg (w21.1 (27) 34)))).bind (fun y45 => some y45) else some y43.1)) else (F_X7_beginPacket w24 281474976710655 0 16 1).bind (fun y26 => (F_X7_writeSix y26 (w21.2 (51) (Int32.toNatClampNeg (w21.1 (27) 34)))).bind (fun y27 => (F_X7_writeSix y27 (w21.2 (52) (Int32.toNatClampNeg (w21.1 (27) 34)))).bind (fun y28 => (F_X7_sendOff y28).bind (fun y29 => if (y29.1 (27) 25) = 0 then some y29 else (F_X7_shown y29).bind (fun y31 => if (lg_cmp y31.2 (w21.2 (51) (Int32.toNatClampNeg (w21.1 (27) 34)))) < 0 then F_X7_stepOnce_L155 y31.1 (w21.2 (51) (Int32.toNatClampNeg (w21.1 (27) 34))) (w21.2 (52) (Int32.toNatClampNeg (w21.1 (27) 34))) else if 0 < (lg_cmp y31.2 (w21.2 (52) (Int32.toNatClampNeg (w21.1 (27) 34)))) then F_X7_stepOnce_L155 y31.1 (w21.2 (51) (Int32.toNatClampNeg (w21.1 (27) 34))) (w21.2 (52) (Int32.toNatClampNeg (w21.1 (27) 34))) else (F_X7_isId y31.1 y31.2).bind (fun y34 => if y34.2 = 0 then F_X7_stepOnce_L155 y34.1 (w21.2 (51) (Int32.toNatClampNeg (w21.1 (27) 34))) (w21.2 (52) (Int32.toNatClampNeg (w21.1 (27) 34))) else (F_X7_isFound y34.1 y31.2).bind (fun y36 => if y36.2 = 0 then (F_X7_tried y36.1 y31.2).bind (fun y38 => if y38.2 = 0 then F_X7_stepOnce_L155 y38.1 (w21.2 (51) (Int32.toNatClampNeg (w21.1 (27) 34))) (w21.2 (52) (Int32.toNatClampNeg (w21.1 (27) 34))) else (F_X7_push y38.1 (w21.2 (51) (Int32.toNatClampNeg (w21.1 (27) 34))) (w21.2 (52) (Int32.toNatClampNeg (w21.1 (27) 34)))).bind (fun y40 => some y40)) else F_X7_stepOnce_L155 y36.1 (w21.2 (51) (Int32.toNatClampNeg (w21.1 (27) 34))) (w21.2 (52) (Int32.toNatClampNeg (w21.1 (27) 34))))))))))))))
set_option maxHeartbeats 4000000 in
set_option maxRecDepth 100000 in
theorem m_X7_stepOnce (l : Launch) (G : va_G) (g : Nat → ClassId) (ad : Nat → Nat) (n a0 aM : Nat) (σ : St) (x : St) (hF : F_X7_stepOnce σ = some x) : Met l yX7_stepOnce zs_X7_stepOnce ({ frames := 10, cells := 0, slots := 0, locals := 233 } : Room) (va_Pc [.ref (ad (27))] (wP G g ad n a0 aM σ)) (qV G g ad n a0 x) 0 0 (fun q : Nat => a0 ≤ q) := by
  refine Met.ofW (cc := cX7_stepOnce) (maxL := 9) (ret := none) (by decide) rfl ?_
  intro p e s m args below meth c s₁ B hml hv
  obtain ⟨rfl, hP, hD, hK⟩ := hv
  have hx := B.exec
  have hb := B.bytes
  have hr := B.returns
  have htA : ∀ w ∈ AL, w.before _ s = true := fun w h9 => atoms_spec (ws := zs_X7_stepOnce) B.pre w (List.mem_cons_of_mem _ h9)
  have hown : s.vm.findClass RX7 = some m.cls := findClass_of_methodNamed B.named
  have hlocks := B.notSynchronized
  have hW : Wd G g ad n a0 s.heap σ s.heap [] := ⟨hP, hD, va_S.rf⟩
  clear hP hD
  have hL155 : ∀ (σ : St) (u1 : Int64) (u3 : Int64) (H : Heap) (locs : List Loc) (ls : Array Slot), Wd G g ad n a0 s.heap σ H locs → lv_has ls 9 [(0, .ref (ad (27))), (1, .long u1), (3, .long u3)] → F_X7_stepOnce_L155  σ u1 u3 = some x → W p l e (headSpec zs_X7_stepOnce ({ frames := 10, cells := 0, slots := 0, locals := 233 } : Room)).room s m ([.ref (ad (27))] : List Value).toArray below meth c H locs 0 0 (MQ below (qV G g ad n a0 x) ([.ref (ad (27))] : List Value).toArray s 0 0 (fun q : Nat => a0 ≤ q)) (F0 m 155 ls []) := by
    intro σ u1 u3 H locs ls hW hl hF
    unfold F_X7_stepOnce_L155 at hF
    refine lv_lload_n hx hb dX7_stepOnce_155 rfl (lv_at hl 1 rfl) ?_
    refine lv_lload_n hx hb dX7_stepOnce_156 rfl (lv_at hl 2 rfl) ?_
    refine lv_ladd hx hb dX7_stepOnce_157 ?_
    refine lv_ldc2 (v := 2) hx hb hown (htA _ aw_564) dX7_stepOnce_158 ?_
    refine lv_ldiv hx hb dX7_stepOnce_161 (by decide) ?_
    refine lv_lstore (lv' := [(7, .long ((u1 + u3) / 2)), (0, .ref (ad (27))), (1, .long u1), (3, .long u3)]) hx hb dX7_stepOnce_162 hl (by decide) rfl (fun ls hl => ?_)
    refine lv_aload_n hx hb dX7_stepOnce_164 rfl (lv_at hl 1 rfl) ?_
    refine lv_lload hx hb dX7_stepOnce_165 (lv_at hl 0 rfl) ?_
    refine lv_lconst (v := 1) hx hb dX7_stepOnce_167 (by decide) ?_
    refine lv_ladd hx hb dX7_stepOnce_168 ?_
    refine lv_lload_n hx hb dX7_stepOnce_169 rfl (lv_at hl 3 rfl) ?_
    obtain ⟨y19, hy19, hF⟩ := bd_some hF
    refine r_bv (va_runV (As := [.long (((u1 + u3) / 2) + 1), .long u3]) (rest := []) ⟨hx, hb, hml, hown, htA⟩ (m_X7_push l G g ad n a0 aM σ (((u1 + u3) / 2) + 1) u3 y19  hy19) (cwV 2 htA (gV aw_572 aw_573 aw_574 aw_382 gz_X7_push) rfl rfl rfl (by decide +kernel) ⟨Nat.le_of_ble_eq_true rfl, Nat.le_of_ble_eq_true rfl⟩) (r_preV hK hW (27) (tp_lt (by decide)) (cE_k (rfl : kd 27 = 9)) rfl [.long (((u1 + u3) / 2) + 1), .long u3]) rfl rfl hl.1 rfl (lv_room (Nat.le_of_ble_eq_true rfl)) dX7_stepOnce_170 ⟨Nat.zero_le _, Nat.zero_le _⟩) hW (fun H locs hW => ?_)
    refine lv_aload_n hx hb dX7_stepOnce_173 rfl (lv_at hl 1 rfl) ?_
    refine lv_lload_n hx hb dX7_stepOnce_174 rfl (lv_at hl 2 rfl) ?_
    refine lv_lload hx hb dX7_stepOnce_175 (lv_at hl 0 rfl) ?_
    obtain ⟨y20, hy20, hF⟩ := bd_some hF
    refine r_bv (va_runV (As := [.long u1, .long ((u1 + u3) / 2)]) (rest := []) ⟨hx, hb, hml, hown, htA⟩ (m_X7_push l G g ad n a0 aM y19 u1 ((u1 + u3) / 2) y20  hy20) (cwV 2 htA (gV aw_572 aw_573 aw_574 aw_382 gz_X7_push) rfl rfl rfl (by decide +kernel) ⟨Nat.le_of_ble_eq_true rfl, Nat.le_of_ble_eq_true rfl⟩) (r_preV hK hW (27) (tp_lt (by decide)) (cE_k (rfl : kd 27 = 9)) rfl [.long u1, .long ((u1 + u3) / 2)]) rfl rfl hl.1 rfl (lv_room (Nat.le_of_ble_eq_true rfl)) dX7_stepOnce_177 ⟨Nat.zero_le _, Nat.zero_le _⟩) hW (fun H locs hW => ?_)
    exact r_vret hx hb hr hlocks hW hF dX7_stepOnce_180
  have hl := lv_entry ([.ref (ad (27))]) (n := 9) (Nat.le_of_ble_eq_true rfl)
  rw [lg_entry_eq]
  generalize (lg_sl ([.ref (ad (27))]) ++ List.replicate (9 - (lg_sl ([.ref (ad (27))])).length) Slot.unset).toArray = ls at hl ⊢
  have hl : lv_has ls 9 [(0, .ref (ad (27)))] := hl
  unfold F_X7_stepOnce at hF
  refine lv_aload_n hx hb dX7_stepOnce_0 rfl (lv_at hl 0 rfl) ?_
  refine lv_dup hx hb dX7_stepOnce_1 rfl ?_
  refine r_get (C := RX7) (T := TX7) (N := 39) hx hb htA ia_X7 hown hK hW (27) (tp_lt (by decide)) (cE_k (rfl : kd 27 = 9)) rfl 34 (by decide) (htA _ aw_556) rfl dX7_stepOnce_2 ?_
  refine lv_iconst (v := 1) hx hb dX7_stepOnce_5 (by decide) ?_
  refine lv_isub hx hb dX7_stepOnce_6 ?_
  refine r_putI (C := RX7) (T := TX7) (N := 39) (ty := .int) hx hb htA ia_X7 tyX7 tyX7_ok nmX7 hown hK hW (27) (tp_lt (by decide)) (cE_k (rfl : kd 27 = 9)) rfl 34 (by decide) (cE_k (rfl : kd 27 = 9)) (htA _ aw_556) rfl (by decide +kernel) rfl rfl (Nat.le_of_ble_eq_true rfl) dX7_stepOnce_7 (fun H locs hW => ?_)
  obtain ⟨w21, ew21, hF⟩ := nm_some hF
  rw [← ew21] at hW
  refine lv_aload_n hx hb dX7_stepOnce_10 rfl (lv_at hl 0 rfl) ?_
  refine r_get (C := RX7) (T := TX7) (N := 39) hx hb htA ia_X7 hown hK hW (27) (tp_lt (by decide)) (cE_k (rfl : kd 27 = 9)) rfl 35 (by decide) (htA _ aw_376) rfl dX7_stepOnce_11 ?_
  refine lv_aload_n hx hb dX7_stepOnce_14 rfl (lv_at hl 0 rfl) ?_
  refine r_get (C := RX7) (T := TX7) (N := 39) hx hb htA ia_X7 hown hK hW (27) (tp_lt (by decide)) (cE_k (rfl : kd 27 = 9)) rfl 34 (by decide) (htA _ aw_556) rfl dX7_stepOnce_15 ?_
  obtain ⟨hg22, hF⟩ := gd_some hF
  refine r_lald hx hb hK hW (51) (tp_lt (by decide)) (rfl : kd 51 = 7) hg22 dX7_stepOnce_18 ?_
  refine lv_lstore_n (lv' := [(1, .long (w21.2 (51) (Int32.toNatClampNeg (w21.1 (27) 34)))), (0, .ref (ad (27)))]) hx hb dX7_stepOnce_19 rfl hl (by decide) rfl (fun ls hl => ?_)
  refine lv_aload_n hx hb dX7_stepOnce_20 rfl (lv_at hl 1 rfl) ?_
  refine r_get (C := RX7) (T := TX7) (N := 39) hx hb htA ia_X7 hown hK hW (27) (tp_lt (by decide)) (cE_k (rfl : kd 27 = 9)) rfl 36 (by decide) (htA _ aw_377) rfl dX7_stepOnce_21 ?_
  refine lv_aload_n hx hb dX7_stepOnce_24 rfl (lv_at hl 1 rfl) ?_
  refine r_get (C := RX7) (T := TX7) (N := 39) hx hb htA ia_X7 hown hK hW (27) (tp_lt (by decide)) (cE_k (rfl : kd 27 = 9)) rfl 34 (by decide) (htA _ aw_556) rfl dX7_stepOnce_25 ?_
  obtain ⟨hg23, hF⟩ := gd_some hF
  refine r_lald hx hb hK hW (52) (tp_lt (by decide)) (rfl : kd 52 = 7) hg23 dX7_stepOnce_28 ?_
  refine lv_lstore_n (lv' := [(3, .long (w21.2 (52) (Int32.toNatClampNeg (w21.1 (27) 34)))), (1, .long (w21.2 (51) (Int32.toNatClampNeg (w21.1 (27) 34)))), (0, .ref (ad (27)))]) hx hb dX7_stepOnce_29 rfl hl (by decide) rfl (fun ls hl => ?_)
  refine lv_aload_n hx hb dX7_stepOnce_30 rfl (lv_at hl 2 rfl) ?_
  refine lv_dup hx hb dX7_stepOnce_31 rfl ?_
  refine r_get (C := RX7) (T := TX7) (N := 39) hx hb htA ia_X7 hown hK hW (27) (tp_lt (by decide)) (cE_k (rfl : kd 27 = 9)) rfl 33 (by decide) (htA _ aw_554) rfl dX7_stepOnce_32 ?_
  refine lv_iconst (v := 1) hx hb dX7_stepOnce_35 (by decide) ?_
  refine lv_iadd hx hb dX7_stepOnce_36 ?_
  refine r_putI (C := RX7) (T := TX7) (N := 39) (ty := .int) hx hb htA ia_X7 tyX7 tyX7_ok nmX7 hown hK hW (27) (tp_lt (by decide)) (cE_k (rfl : kd 27 = 9)) rfl 33 (by decide) (cE_k (rfl : kd 27 = 9)) (htA _ aw_554) rfl (by decide +kernel) rfl rfl (Nat.le_of_ble_eq_true rfl) dX7_stepOnce_37 (fun H locs hW => ?_)
  obtain ⟨w24, ew24, hF⟩ := nm_some hF
  rw [← ew24] at hW
  refine lv_lload_n hx hb dX7_stepOnce_40 rfl (lv_at hl 1 rfl) ?_
  refine lv_lload_n hx hb dX7_stepOnce_41 rfl (lv_at hl 0 rfl) ?_
  refine W.lcmp hx hb dX7_stepOnce_42 ?_
  refine lv_if_ne (tgt := 69) hx hb dX7_stepOnce_43 (by decide) (fun hc25 => ?_) (fun hc25 => ?_)
  · replace hF := (if_neg hc25).symm.trans hF
    refine lv_aload_n hx hb dX7_stepOnce_69 rfl (lv_at hl 2 rfl) ?_
    refine lv_ldc2 (v := 281474976710655) hx hb hown (htA _ aw_558) dX7_stepOnce_70 ?_
    refine lv_iconst (v := 0) hx hb dX7_stepOnce_73 (by decide) ?_
    refine lv_bipush (v := 16) hx hb dX7_stepOnce_74 (by decide) ?_
    refine lv_iconst (v := 1) hx hb dX7_stepOnce_76 (by decide) ?_
    obtain ⟨y26, hy26, hF⟩ := bd_some hF
    refine r_bv (va_runV (As := [.long 281474976710655, .int 0, .int 16, .int 1]) (rest := []) ⟨hx, hb, hml, hown, htA⟩ (m_X7_beginPacket l G g ad n a0 aM w24 281474976710655 0 16 1 y26  hy26) (cwV 4 htA (gV aw_535 aw_536 aw_537 aw_382 gz_X7_beginPacket) rfl rfl rfl (by decide +kernel) ⟨Nat.le_of_ble_eq_true rfl, Nat.le_of_ble_eq_true rfl⟩) (r_preV hK hW (27) (tp_lt (by decide)) (cE_k (rfl : kd 27 = 9)) rfl [.long 281474976710655, .int 0, .int 16, .int 1]) rfl rfl hl.1 rfl (lv_room (Nat.le_of_ble_eq_true rfl)) dX7_stepOnce_77 ⟨Nat.zero_le _, Nat.zero_le _⟩) hW (fun H locs hW => ?_)
    refine lv_aload_n hx hb dX7_stepOnce_80 rfl (lv_at hl 2 rfl) ?_
    refine lv_lload_n hx hb dX7_stepOnce_81 rfl (lv_at hl 1 rfl) ?_
    obtain ⟨y27, hy27, hF⟩ := bd_some hF
    refine r_bv (va_runV (As := [.long (w21.2 (51) (Int32.toNatClampNeg (w21.1 (27) 34)))]) (rest := []) ⟨hx, hb, hml, hown, htA⟩ (m_X7_writeSix l G g ad n a0 aM y26 (w21.2 (51) (Int32.toNatClampNeg (w21.1 (27) 34))) y27  hy27) (cwV 1 htA (gV aw_522 aw_523 aw_524 aw_382 gz_X7_writeSix) rfl rfl rfl (by decide +kernel) ⟨Nat.le_of_ble_eq_true rfl, Nat.le_of_ble_eq_true rfl⟩) (r_preV hK hW (27) (tp_lt (by decide)) (cE_k (rfl : kd 27 = 9)) rfl [.long (w21.2 (51) (Int32.toNatClampNeg (w21.1 (27) 34)))]) rfl rfl hl.1 rfl (lv_room (Nat.le_of_ble_eq_true rfl)) dX7_stepOnce_82 ⟨Nat.zero_le _, Nat.zero_le _⟩) hW (fun H locs hW => ?_)
    refine lv_aload_n hx hb dX7_stepOnce_85 rfl (lv_at hl 2 rfl) ?_
    refine lv_lload_n hx hb dX7_stepOnce_86 rfl (lv_at hl 0 rfl) ?_
    obtain ⟨y28, hy28, hF⟩ := bd_some hF
    refine r_bv (va_runV (As := [.long (w21.2 (52) (Int32.toNatClampNeg (w21.1 (27) 34)))]) (rest := []) ⟨hx, hb, hml, hown, htA⟩ (m_X7_writeSix l G g ad n a0 aM y27 (w21.2 (52) (Int32.toNatClampNeg (w21.1 (27) 34))) y28  hy28) (cwV 1 htA (gV aw_522 aw_523 aw_524 aw_382 gz_X7_writeSix) rfl rfl rfl (by decide +kernel) ⟨Nat.le_of_ble_eq_true rfl, Nat.le_of_ble_eq_true rfl⟩) (r_preV hK hW (27) (tp_lt (by decide)) (cE_k (rfl : kd 27 = 9)) rfl [.long (w21.2 (52) (Int32.toNatClampNeg (w21.1 (27) 34)))]) rfl rfl hl.1 rfl (lv_room (Nat.le_of_ble_eq_true rfl)) dX7_stepOnce_87 ⟨Nat.zero_le _, Nat.zero_le _⟩) hW (fun H locs hW => ?_)
    refine lv_aload_n hx hb dX7_stepOnce_90 rfl (lv_at hl 2 rfl) ?_
    obtain ⟨y29, hy29, hF⟩ := bd_some hF
    refine r_bv (va_runV (As := []) (rest := []) ⟨hx, hb, hml, hown, htA⟩ (m_X7_sendOff l G g ad n a0 aM y28 y29  hy29) (cwV 0 htA (gV aw_539 aw_540 aw_541 aw_382 gz_X7_sendOff) rfl rfl rfl (by decide +kernel) ⟨Nat.le_of_ble_eq_true rfl, Nat.le_of_ble_eq_true rfl⟩) (r_preV hK hW (27) (tp_lt (by decide)) (cE_k (rfl : kd 27 = 9)) rfl []) rfl rfl hl.1 rfl (lv_room (Nat.le_of_ble_eq_true rfl)) dX7_stepOnce_91 ⟨Nat.zero_le _, Nat.zero_le _⟩) hW (fun H locs hW => ?_)
    refine lv_aload_n hx hb dX7_stepOnce_94 rfl (lv_at hl 2 rfl) ?_
    refine r_get (C := RX7) (T := TX7) (N := 39) hx hb htA ia_X7 hown hK hW (27) (tp_lt (by decide)) (cE_k (rfl : kd 27 = 9)) rfl 25 (by decide) (htA _ aw_489) rfl dX7_stepOnce_95 ?_
    refine lv_if_ne (tgt := 102) hx hb dX7_stepOnce_98 (by decide) (fun hc30 => ?_) (fun hc30 => ?_)
    · replace hF := (if_neg hc30).symm.trans hF
      refine lv_aload_n hx hb dX7_stepOnce_102 rfl (lv_at hl 2 rfl) ?_
      obtain ⟨y31, hy31, hF⟩ := bd_some hF
      refine r_bl (va_runV (As := []) (rest := []) ⟨hx, hb, hml, hown, htA⟩ (m_X7_shown l G g ad n a0 aM y29 y31  hy31) (cwV 0 htA (gV aw_576 aw_577 aw_578 aw_382 gz_X7_shown) rfl rfl rfl (by decide +kernel) ⟨Nat.le_of_ble_eq_true rfl, Nat.le_of_ble_eq_true rfl⟩) (r_preV hK hW (27) (tp_lt (by decide)) (cE_k (rfl : kd 27 = 9)) rfl []) rfl rfl hl.1 rfl (lv_room (Nat.le_of_ble_eq_true rfl)) dX7_stepOnce_103 ⟨Nat.zero_le _, Nat.zero_le _⟩) hW (fun H locs hW => ?_)
      refine lv_lstore (lv' := [(5, .long y31.2), (3, .long (w21.2 (52) (Int32.toNatClampNeg (w21.1 (27) 34)))), (1, .long (w21.2 (51) (Int32.toNatClampNeg (w21.1 (27) 34)))), (0, .ref (ad (27)))]) hx hb dX7_stepOnce_106 hl (by decide) rfl (fun ls hl => ?_)
      refine lv_lload hx hb dX7_stepOnce_108 (lv_at hl 0 rfl) ?_
      refine lv_lload_n hx hb dX7_stepOnce_110 rfl (lv_at hl 2 rfl) ?_
      refine W.lcmp hx hb dX7_stepOnce_111 ?_
      refine lv_if_lt (tgt := 155) hx hb dX7_stepOnce_112 (by decide) (fun hc32 => ?_) (fun hc32 => ?_)
      · replace hF := (if_pos hc32).symm.trans hF
        exact hL155 y31.1 (w21.2 (51) (Int32.toNatClampNeg (w21.1 (27) 34))) (w21.2 (52) (Int32.toNatClampNeg (w21.1 (27) 34))) _ _ _  hW (lv_sub hl [3, 2, 1] rfl) hF
      · replace hF := (if_neg hc32).symm.trans hF
        refine lv_lload hx hb dX7_stepOnce_115 (lv_at hl 0 rfl) ?_
        refine lv_lload_n hx hb dX7_stepOnce_117 rfl (lv_at hl 1 rfl) ?_
        refine W.lcmp hx hb dX7_stepOnce_118 ?_
        refine lv_if_gt (tgt := 155) hx hb dX7_stepOnce_119 (by decide) (fun hc33 => ?_) (fun hc33 => ?_)
        · replace hF := (if_pos hc33).symm.trans hF
          exact hL155 y31.1 (w21.2 (51) (Int32.toNatClampNeg (w21.1 (27) 34))) (w21.2 (52) (Int32.toNatClampNeg (w21.1 (27) 34))) _ _ _  hW (lv_sub hl [3, 2, 1] rfl) hF
        · replace hF := (if_neg hc33).symm.trans hF
          refine lv_lload hx hb dX7_stepOnce_122 (lv_at hl 0 rfl) ?_
          obtain ⟨y34, hy34, hF⟩ := bd_some hF
          refine r_bi (va_runS (As := [.long y31.2]) (rest := []) ⟨hx, hb, hml, hown, htA⟩ (m_X7_isId l G g ad n a0 aM y31.1 y31.2 y34  hy34) (va_cwS 1 htA (gS aw_565 aw_566 aw_382 gz_X7_isId) rfl rfl rfl (by decide +kernel) ⟨Nat.le_of_ble_eq_true rfl, Nat.le_of_ble_eq_true rfl⟩) (r_pre hK hW [.long y31.2]) rfl rfl hl.1 rfl (lv_room (Nat.le_of_ble_eq_true rfl)) dX7_stepOnce_124 ⟨Nat.zero_le _, Nat.zero_le _⟩) hW (fun H locs hW => ?_)
          refine lv_if_eq (tgt := 155) hx hb dX7_stepOnce_127 (by decide) (fun hc35 => ?_) (fun hc35 => ?_)
          · replace hF := (if_pos hc35).symm.trans hF
            exact hL155 y34.1 (w21.2 (51) (Int32.toNatClampNeg (w21.1 (27) 34))) (w21.2 (52) (Int32.toNatClampNeg (w21.1 (27) 34))) _ _ _  hW (lv_sub hl [3, 2, 1] rfl) hF
          · replace hF := (if_neg hc35).symm.trans hF
            refine lv_aload_n hx hb dX7_stepOnce_130 rfl (lv_at hl 3 rfl) ?_
            refine lv_lload hx hb dX7_stepOnce_131 (lv_at hl 0 rfl) ?_
            obtain ⟨y36, hy36, hF⟩ := bd_some hF
            refine r_bi (va_runV (As := [.long y31.2]) (rest := []) ⟨hx, hb, hml, hown, htA⟩ (m_X7_isFound l G g ad n a0 aM y34.1 y31.2 y36  hy36) (cwV 1 htA (gV aw_559 aw_560 aw_561 aw_382 gz_X7_isFound) rfl rfl rfl (by decide +kernel) ⟨Nat.le_of_ble_eq_true rfl, Nat.le_of_ble_eq_true rfl⟩) (r_preV hK hW (27) (tp_lt (by decide)) (cE_k (rfl : kd 27 = 9)) rfl [.long y31.2]) rfl rfl hl.1 rfl (lv_room (Nat.le_of_ble_eq_true rfl)) dX7_stepOnce_133 ⟨Nat.zero_le _, Nat.zero_le _⟩) hW (fun H locs hW => ?_)
            refine lv_if_ne (tgt := 155) hx hb dX7_stepOnce_136 (by decide) (fun hc37 => ?_) (fun hc37 => ?_)
            · replace hF := (if_neg hc37).symm.trans hF
              exact hL155 y36.1 (w21.2 (51) (Int32.toNatClampNeg (w21.1 (27) 34))) (w21.2 (52) (Int32.toNatClampNeg (w21.1 (27) 34))) _ _ _  hW (lv_sub hl [3, 2, 1] rfl) hF
            · replace hF := (if_pos hc37).symm.trans hF
              refine lv_aload_n hx hb dX7_stepOnce_139 rfl (lv_at hl 3 rfl) ?_
              refine lv_lload hx hb dX7_stepOnce_140 (lv_at hl 0 rfl) ?_
              obtain ⟨y38, hy38, hF⟩ := bd_some hF
              refine r_bi (va_runV (As := [.long y31.2]) (rest := []) ⟨hx, hb, hml, hown, htA⟩ (m_X7_tried l G g ad n a0 aM y36.1 y31.2 y38  hy38) (cwV 1 htA (gV aw_568 aw_569 aw_570 aw_382 gz_X7_tried) rfl rfl rfl (by decide +kernel) ⟨Nat.le_of_ble_eq_true rfl, Nat.le_of_ble_eq_true rfl⟩) (r_preV hK hW (27) (tp_lt (by decide)) (cE_k (rfl : kd 27 = 9)) rfl [.long y31.2]) rfl rfl hl.1 rfl (lv_room (Nat.le_of_ble_eq_true rfl)) dX7_stepOnce_142 ⟨Nat.zero_le _, Nat.zero_le _⟩) hW (fun H locs hW => ?_)
              refine lv_if_eq (tgt := 155) hx hb dX7_stepOnce_145 (by decide) (fun hc39 => ?_) (fun hc39 => ?_)
              · replace hF := (if_pos hc39).symm.trans hF
                exact hL155 y38.1 (w21.2 (51) (Int32.toNatClampNeg (w21.1 (27) 34))) (w21.2 (52) (Int32.toNatClampNeg (w21.1 (27) 34))) _ _ _  hW (lv_sub hl [3, 2, 1] rfl) hF
              · replace hF := (if_neg hc39).symm.trans hF
                refine lv_aload_n hx hb dX7_stepOnce_148 rfl (lv_at hl 3 rfl) ?_
                refine lv_lload_n hx hb dX7_stepOnce_149 rfl (lv_at hl 2 rfl) ?_
                refine lv_lload_n hx hb dX7_stepOnce_150 rfl (lv_at hl 1 rfl) ?_
                obtain ⟨y40, hy40, hF⟩ := bd_some hF
                refine r_bv (va_runV (As := [.long (w21.2 (51) (Int32.toNatClampNeg (w21.1 (27) 34))), .long (w21.2 (52) (Int32.toNatClampNeg (w21.1 (27) 34)))]) (rest := []) ⟨hx, hb, hml, hown, htA⟩ (m_X7_push l G g ad n a0 aM y38.1 (w21.2 (51) (Int32.toNatClampNeg (w21.1 (27) 34))) (w21.2 (52) (Int32.toNatClampNeg (w21.1 (27) 34))) y40  hy40) (cwV 2 htA (gV aw_572 aw_573 aw_574 aw_382 gz_X7_push) rfl rfl rfl (by decide +kernel) ⟨Nat.le_of_ble_eq_true rfl, Nat.le_of_ble_eq_true rfl⟩) (r_preV hK hW (27) (tp_lt (by decide)) (cE_k (rfl : kd 27 = 9)) rfl [.long (w21.2 (51) (Int32.toNatClampNeg (w21.1 (27) 34))), .long (w21.2 (52) (Int32.toNatClampNeg (w21.1 (27) 34)))]) rfl rfl hl.1 rfl (lv_room (Nat.le_of_ble_eq_true rfl)) dX7_stepOnce_151 ⟨Nat.zero_le _, Nat.zero_le _⟩) hW (fun H locs hW => ?_)
                exact r_vret hx hb hr hlocks hW hF dX7_stepOnce_154
    · replace hF := (if_pos hc30).symm.trans hF
      exact r_vret hx hb hr hlocks hW hF dX7_stepOnce_101
  · replace hF := (if_pos hc25).symm.trans hF
    refine lv_lload_n hx hb dX7_stepOnce_46 rfl (lv_at hl 1 rfl) ?_
    obtain ⟨y41, hy41, hF⟩ := bd_some hF
    refine r_bi (va_runS (As := [.long (w21.2 (51) (Int32.toNatClampNeg (w21.1 (27) 34)))]) (rest := []) ⟨hx, hb, hml, hown, htA⟩ (m_X7_isId l G g ad n a0 aM w24 (w21.2 (51) (Int32.toNatClampNeg (w21.1 (27) 34))) y41  hy41) (va_cwS 1 htA (gS aw_565 aw_566 aw_382 gz_X7_isId) rfl rfl rfl (by decide +kernel) ⟨Nat.le_of_ble_eq_true rfl, Nat.le_of_ble_eq_true rfl⟩) (r_pre hK hW [.long (w21.2 (51) (Int32.toNatClampNeg (w21.1 (27) 34)))]) rfl rfl hl.1 rfl (lv_room (Nat.le_of_ble_eq_true rfl)) dX7_stepOnce_47 ⟨Nat.zero_le _, Nat.zero_le _⟩) hW (fun H locs hW => ?_)
    refine lv_if_eq (tgt := 68) hx hb dX7_stepOnce_50 (by decide) (fun hc42 => ?_) (fun hc42 => ?_)
    · replace hF := (if_pos hc42).symm.trans hF
      exact r_vret hx hb hr hlocks hW hF dX7_stepOnce_68
    · replace hF := (if_neg hc42).symm.trans hF
      refine lv_aload_n hx hb dX7_stepOnce_53 rfl (lv_at hl 2 rfl) ?_
      refine lv_lload_n hx hb dX7_stepOnce_54 rfl (lv_at hl 1 rfl) ?_
      obtain ⟨y43, hy43, hF⟩ := bd_some hF
      refine r_bi (va_runV (As := [.long (w21.2 (51) (Int32.toNatClampNeg (w21.1 (27) 34)))]) (rest := []) ⟨hx, hb, hml, hown, htA⟩ (m_X7_tried l G g ad n a0 aM y41.1 (w21.2 (51) (Int32.toNatClampNeg (w21.1 (27) 34))) y43  hy43) (cwV 1 htA (gV aw_568 aw_569 aw_570 aw_382 gz_X7_tried) rfl rfl rfl (by decide +kernel) ⟨Nat.le_of_ble_eq_true rfl, Nat.le_of_ble_eq_true rfl⟩) (r_preV hK hW (27) (tp_lt (by decide)) (cE_k (rfl : kd 27 = 9)) rfl [.long (w21.2 (51) (Int32.toNatClampNeg (w21.1 (27) 34)))]) rfl rfl hl.1 rfl (lv_room (Nat.le_of_ble_eq_true rfl)) dX7_stepOnce_55 ⟨Nat.zero_le _, Nat.zero_le _⟩) hW (fun H locs hW => ?_)
      refine lv_iconst (v := 2) hx hb dX7_stepOnce_58 (by decide) ?_
      refine lv_icmp_ne (tgt := 68) hx hb dX7_stepOnce_59 (by decide) (fun hc44 => ?_) (fun hc44 => ?_)
      · replace hF := (if_neg hc44).symm.trans hF
        exact r_vret hx hb hr hlocks hW hF dX7_stepOnce_68
      · replace hF := (if_pos hc44).symm.trans hF
        refine lv_aload_n hx hb dX7_stepOnce_62 rfl (lv_at hl 2 rfl) ?_
        refine lv_lload_n hx hb dX7_stepOnce_63 rfl (lv_at hl 1 rfl) ?_
        refine lv_lload_n hx hb dX7_stepOnce_64 rfl (lv_at hl 0 rfl) ?_
        obtain ⟨y45, hy45, hF⟩ := bd_some hF
        refine r_bv (va_runV (As := [.long (w21.2 (51) (Int32.toNatClampNeg (w21.1 (27) 34))), .long (w21.2 (52) (Int32.toNatClampNeg (w21.1 (27) 34)))]) (rest := []) ⟨hx, hb, hml, hown, htA⟩ (m_X7_push l G g ad n a0 aM y43.1 (w21.2 (51) (Int32.toNatClampNeg (w21.1 (27) 34))) (w21.2 (52) (Int32.toNatClampNeg (w21.1 (27) 34))) y45  hy45) (cwV 2 htA (gV aw_572 aw_573 aw_574 aw_382 gz_X7_push) rfl rfl rfl (by decide +kernel) ⟨Nat.le_of_ble_eq_true rfl, Nat.le_of_ble_eq_true rfl⟩) (r_preV hK hW (27) (tp_lt (by decide)) (cE_k (rfl : kd 27 = 9)) rfl [.long (w21.2 (51) (Int32.toNatClampNeg (w21.1 (27) 34))), .long (w21.2 (52) (Int32.toNatClampNeg (w21.1 (27) 34)))]) rfl rfl hl.1 rfl (lv_room (Nat.le_of_ble_eq_true rfl)) dX7_stepOnce_65 ⟨Nat.zero_le _, Nat.zero_le _⟩) hW (fun H locs hW => ?_)
        exact r_vret hx hb hr hlocks hW hF dX7_stepOnce_68
def F_X7_step_L65 (σ : St) : Option (St × Int32) := some (σ, (σ.1 (27) 34))
def F_X7_step_L43 (K65 : St → Option (St × Int32)) : Nat → St → Int32 → Int32 → Option (St × Int32)
  | 0, _, _, _ => none
  | fz + 1, σ, u1, u2 => if u1 ≤ u2 then K65 σ else if (σ.1 (27) 34) ≤ 0 then K65 σ else (F_X7_stepOnce σ).bind (fun y6 => (F_X7_step_L43 K65 fz) y6 u1 (u2 + 1))
def F_X7_step_L29 (σ : St) (u1 : Int32) (z0 : Int32) : Option (St × Int32) := nm (sI σ (27) 0 z0) (fun w7 => if (w7.1 (27) 0) ≤ 0 then F_X7_step_L43 F_X7_step_L65 fu w7 u1 0 else some (w7, 0))
def F_X7_step (σ : St) (x1 : Int32) : Option (St × Int32) := if (σ.1 (27) 32) = 0 then F_X7_step_L29 σ x1 1 else (F_X7_in σ (Int32.toInt64 x1) 1 1000).bind (fun y10 => if y10.2 = 0 then F_X7_step_L29 y10.1 x1 2 else F_X7_step_L29 y10.1 x1 0)
set_option maxHeartbeats 4000000 in
set_option maxRecDepth 100000 in
theorem m_X7_step (l : Launch) (G : va_G) (g : Nat → ClassId) (ad : Nat → Nat) (n a0 aM : Nat) (σ : St) (x1 : Int32) (x : St × Int32) (hF : F_X7_step σ x1 = some x) : Met l yX7_step zs_X7_step ({ frames := 11, cells := 0, slots := 0, locals := 261 } : Room) (va_Pc [.ref (ad (27)), .int x1] (wP G g ad n a0 aM σ)) (qI G g ad n a0 x) 0 0 (fun q : Nat => a0 ≤ q) := by
  refine Met.ofW (cc := cX7_step) (maxL := 3) (ret := (some .int)) (by decide) rfl ?_
  intro p e s m args below meth c s₁ B hml hv
  obtain ⟨rfl, hP, hD, hK⟩ := hv
  have hx := B.exec
  have hb := B.bytes
  have hr := B.returns
  have htA : ∀ w ∈ AL, w.before _ s = true := fun w h9 => atoms_spec (ws := zs_X7_step) B.pre w (List.mem_cons_of_mem _ h9)
  have hown : s.vm.findClass RX7 = some m.cls := findClass_of_methodNamed B.named
  have hlocks := B.notSynchronized
  have hW : Wd G g ad n a0 s.heap σ s.heap [] := ⟨hP, hD, va_S.rf⟩
  clear hP hD
  have hL65 : ∀ (σ : St) (H : Heap) (locs : List Loc) (ls : Array Slot), Wd G g ad n a0 s.heap σ H locs → lv_has ls 3 [(0, .ref (ad (27)))] → F_X7_step_L65  σ = some x → W p l e (headSpec zs_X7_step ({ frames := 11, cells := 0, slots := 0, locals := 261 } : Room)).room s m ([.ref (ad (27)), .int x1] : List Value).toArray below meth c H locs 0 0 (MQ below (qI G g ad n a0 x) ([.ref (ad (27)), .int x1] : List Value).toArray s 0 0 (fun q : Nat => a0 ≤ q)) (F0 m 65 ls []) := by
    intro σ H locs ls hW hl hF
    unfold F_X7_step_L65 at hF
    refine lv_aload_n hx hb dX7_step_65 rfl (lv_at hl 0 rfl) ?_
    refine r_get (C := RX7) (T := TX7) (N := 39) hx hb htA ia_X7 hown hK hW (27) (tp_lt (by decide)) (cE_k (rfl : kd 27 = 9)) rfl 34 (by decide) (htA _ aw_556) rfl dX7_step_66 ?_
    exact r_iret hx hb hr hlocks hW hF dX7_step_69
  have hL43 : ∀ (fz43 : Nat) (σ : St) (u1 : Int32) (u2 : Int32) (H : Heap) (locs : List Loc) (ls : Array Slot), Wd G g ad n a0 s.heap σ H locs → lv_has ls 3 [(0, .ref (ad (27))), (1, .int u1), (2, .int u2)] → F_X7_step_L43 (F_X7_step_L65) fz43 σ u1 u2 = some x → W p l e (headSpec zs_X7_step ({ frames := 11, cells := 0, slots := 0, locals := 261 } : Room)).room s m ([.ref (ad (27)), .int x1] : List Value).toArray below meth c H locs 0 0 (MQ below (qI G g ad n a0 x) ([.ref (ad (27)), .int x1] : List Value).toArray s 0 0 (fun q : Nat => a0 ≤ q)) (F0 m 43 ls []) := by
    intro fz43
    induction fz43 with
    | zero =>
      intro σ u1 u2 H locs ls hW hl hF
      exact absurd hF (by simp [F_X7_step_L43])
    | succ fz43 ih =>
      have hB43 := ih
      intro σ u1 u2 H locs ls hW hl hF
      unfold F_X7_step_L43 at hF
      refine lv_iload_n hx hb dX7_step_43 rfl (lv_at hl 2 rfl) ?_
      refine lv_iload_n hx hb dX7_step_44 rfl (lv_at hl 1 rfl) ?_
      refine lv_icmp_ge (tgt := 65) hx hb dX7_step_45 (by decide) (fun hc4 => ?_) (fun hc4 => ?_)
      · replace hF := (if_pos hc4).symm.trans hF
        exact hL65 σ _ _ _  hW (lv_sub hl [0] rfl) hF
      · replace hF := (if_neg hc4).symm.trans hF
        refine lv_aload_n hx hb dX7_step_48 rfl (lv_at hl 0 rfl) ?_
        refine r_get (C := RX7) (T := TX7) (N := 39) hx hb htA ia_X7 hown hK hW (27) (tp_lt (by decide)) (cE_k (rfl : kd 27 = 9)) rfl 34 (by decide) (htA _ aw_556) rfl dX7_step_49 ?_
        refine lv_if_le (tgt := 65) hx hb dX7_step_52 (by decide) (fun hc5 => ?_) (fun hc5 => ?_)
        · replace hF := (if_pos hc5).symm.trans hF
          exact hL65 σ _ _ _  hW (lv_sub hl [0] rfl) hF
        · replace hF := (if_neg hc5).symm.trans hF
          refine lv_aload_n hx hb dX7_step_55 rfl (lv_at hl 0 rfl) ?_
          obtain ⟨y6, hy6, hF⟩ := bd_some hF
          refine r_bv (va_runV (As := []) (rest := []) ⟨hx, hb, hml, hown, htA⟩ (m_X7_stepOnce l G g ad n a0 aM σ y6  hy6) (cwV 0 htA (gV aw_581 aw_582 aw_583 aw_382 gz_X7_stepOnce) rfl rfl rfl (by decide +kernel) ⟨Nat.le_of_ble_eq_true rfl, Nat.le_of_ble_eq_true rfl⟩) (r_preV hK hW (27) (tp_lt (by decide)) (cE_k (rfl : kd 27 = 9)) rfl []) rfl rfl hl.1 rfl (lv_room (Nat.le_of_ble_eq_true rfl)) dX7_step_56 ⟨Nat.zero_le _, Nat.zero_le _⟩) hW (fun H locs hW => ?_)
          refine lv_iinc (v := (u2 + 1)) (lv' := [(2, .int (u2 + 1)), (0, .ref (ad (27))), (1, .int u1)]) hx hb dX7_step_59 hl (k := 2) rfl rfl (by decide) rfl (fun ls hl => ?_)
          refine lv_goto (tgt := 43) hx hb dX7_step_62 (by decide) ?_
          exact hB43 y6 u1 (u2 + 1) _ _ _  hW (lv_sub hl [1, 2, 0] rfl) hF
  have hL43 := hL43 fu
  have hL29 : ∀ (σ : St) (u1 : Int32) (z0 : Int32) (H : Heap) (locs : List Loc) (ls : Array Slot), Wd G g ad n a0 s.heap σ H locs → lv_has ls 3 [(0, .ref (ad (27))), (1, .int u1)] → F_X7_step_L29  σ u1 z0 = some x → W p l e (headSpec zs_X7_step ({ frames := 11, cells := 0, slots := 0, locals := 261 } : Room)).room s m ([.ref (ad (27)), .int x1] : List Value).toArray below meth c H locs 0 0 (MQ below (qI G g ad n a0 x) ([.ref (ad (27)), .int x1] : List Value).toArray s 0 0 (fun q : Nat => a0 ≤ q)) (F0 m 29 ls [.int z0, .ref (ad (27))]) := by
    intro σ u1 z0 H locs ls hW hl hF
    unfold F_X7_step_L29 at hF
    refine r_putI (C := RX7) (T := TX7) (N := 39) (ty := .int) hx hb htA ia_X7 tyX7 tyX7_ok nmX7 hown hK hW (27) (tp_lt (by decide)) (cE_k (rfl : kd 27 = 9)) rfl 0 (by decide) (cE_k (rfl : kd 27 = 9)) (htA _ aw_379) rfl (by decide +kernel) rfl rfl (Nat.le_of_ble_eq_true rfl) dX7_step_29 (fun H locs hW => ?_)
    obtain ⟨w7, ew7, hF⟩ := nm_some hF
    rw [← ew7] at hW
    refine lv_aload_n hx hb dX7_step_32 rfl (lv_at hl 0 rfl) ?_
    refine r_get (C := RX7) (T := TX7) (N := 39) hx hb htA ia_X7 hown hK hW (27) (tp_lt (by decide)) (cE_k (rfl : kd 27 = 9)) rfl 0 (by decide) (htA _ aw_379) rfl dX7_step_33 ?_
    refine lv_if_le (tgt := 41) hx hb dX7_step_36 (by decide) (fun hc8 => ?_) (fun hc8 => ?_)
    · replace hF := (if_pos hc8).symm.trans hF
      refine lv_iconst (v := 0) hx hb dX7_step_41 (by decide) ?_
      refine lv_istore_n (lv' := [(2, .int 0), (0, .ref (ad (27))), (1, .int u1)]) hx hb dX7_step_42 rfl hl (by decide) rfl (fun ls hl => ?_)
      exact hL43 w7 u1 0 _ _ _  hW (lv_sub hl [1, 2, 0] rfl) hF
    · replace hF := (if_neg hc8).symm.trans hF
      refine lv_iconst (v := 0) hx hb dX7_step_39 (by decide) ?_
      exact r_iret hx hb hr hlocks hW hF dX7_step_40
  have hl := lv_entry ([.ref (ad (27)), .int x1]) (n := 3) (Nat.le_of_ble_eq_true rfl)
  rw [lg_entry_eq]
  generalize (lg_sl ([.ref (ad (27)), .int x1]) ++ List.replicate (3 - (lg_sl ([.ref (ad (27)), .int x1])).length) Slot.unset).toArray = ls at hl ⊢
  have hl : lv_has ls 3 [(0, .ref (ad (27))), (1, .int x1)] := hl
  unfold F_X7_step at hF
  refine lv_aload_n hx hb dX7_step_0 rfl (lv_at hl 0 rfl) ?_
  refine lv_aload_n hx hb dX7_step_1 rfl (lv_at hl 0 rfl) ?_
  refine r_get (C := RX7) (T := TX7) (N := 39) hx hb htA ia_X7 hown hK hW (27) (tp_lt (by decide)) (cE_k (rfl : kd 27 = 9)) rfl 32 (by decide) (htA _ aw_553) rfl dX7_step_2 ?_
  refine lv_if_ne (tgt := 12) hx hb dX7_step_5 (by decide) (fun hc9 => ?_) (fun hc9 => ?_)
  · replace hF := (if_neg hc9).symm.trans hF
    refine lv_iload_n hx hb dX7_step_12 rfl (lv_at hl 1 rfl) ?_
    refine lv_i2l (v := (Int32.toInt64 x1)) hx hb dX7_step_13 rfl ?_
    refine lv_lconst (v := 1) hx hb dX7_step_14 (by decide) ?_
    refine lv_ldc2 (v := 1000) hx hb hown (htA _ aw_580) dX7_step_15 ?_
    obtain ⟨y10, hy10, hF⟩ := bd_some hF
    refine r_bi (va_runS (As := [.long (Int32.toInt64 x1), .long 1, .long 1000]) (rest := [.ref (ad (27))]) ⟨hx, hb, hml, hown, htA⟩ (m_X7_in l G g ad n a0 aM σ (Int32.toInt64 x1) 1 1000 y10  hy10) (va_cwS 3 htA (gS aw_390 aw_391 aw_382 gz_X7_in) rfl rfl rfl (by decide +kernel) ⟨Nat.le_of_ble_eq_true rfl, Nat.le_of_ble_eq_true rfl⟩) (r_pre hK hW [.long (Int32.toInt64 x1), .long 1, .long 1000]) rfl rfl hl.1 rfl (lv_room (Nat.le_of_ble_eq_true rfl)) dX7_step_18 ⟨Nat.zero_le _, Nat.zero_le _⟩) hW (fun H locs hW => ?_)
    refine lv_if_ne (tgt := 28) hx hb dX7_step_21 (by decide) (fun hc11 => ?_) (fun hc11 => ?_)
    · replace hF := (if_neg hc11).symm.trans hF
      refine lv_iconst (v := 0) hx hb dX7_step_28 (by decide) ?_
      exact hL29 y10.1 x1 0 _ _ _  hW (lv_sub hl [0, 1] rfl) hF
    · replace hF := (if_pos hc11).symm.trans hF
      refine lv_iconst (v := 2) hx hb dX7_step_24 (by decide) ?_
      refine lv_goto (tgt := 29) hx hb dX7_step_25 (by decide) ?_
      exact hL29 y10.1 x1 2 _ _ _  hW (lv_sub hl [0, 1] rfl) hF
  · replace hF := (if_pos hc9).symm.trans hF
    refine lv_iconst (v := 1) hx hb dX7_step_8 (by decide) ?_
    refine lv_goto (tgt := 29) hx hb dX7_step_9 (by decide) ?_
    exact hL29 σ x1 1 _ _ _  hW (lv_sub hl [0, 1] rfl) hF
def F_X7_found (σ : St) : Option (St × Int32) := nm (sI σ (27) 0 0) (fun w2 => some (w2, (w2.1 (27) 37)))
set_option maxHeartbeats 4000000 in
set_option maxRecDepth 100000 in
theorem m_X7_found (l : Launch) (G : va_G) (g : Nat → ClassId) (ad : Nat → Nat) (n a0 aM : Nat) (σ : St) (x : St × Int32) (hF : F_X7_found σ = some x) : Met l yX7_found zs_X7_found ({ frames := 0, cells := 0, slots := 0, locals := 0 } : Room) (va_Pc [.ref (ad (27))] (wP G g ad n a0 aM σ)) (qI G g ad n a0 x) 0 0 (fun q : Nat => a0 ≤ q) := by
  refine Met.ofW (cc := cX7_found) (maxL := 1) (ret := (some .int)) (by decide) rfl ?_
  intro p e s m args below meth c s₁ B hml hv
  obtain ⟨rfl, hP, hD, hK⟩ := hv
  have hx := B.exec
  have hb := B.bytes
  have hr := B.returns
  have htA : ∀ w ∈ AL, w.before _ s = true := fun w h9 => atoms_spec (ws := zs_X7_found) B.pre w (List.mem_cons_of_mem _ h9)
  have hown : s.vm.findClass RX7 = some m.cls := findClass_of_methodNamed B.named
  have hlocks := B.notSynchronized
  have hW : Wd G g ad n a0 s.heap σ s.heap [] := ⟨hP, hD, va_S.rf⟩
  clear hP hD
  have hl := lv_entry ([.ref (ad (27))]) (n := 1) (Nat.le_of_ble_eq_true rfl)
  rw [lg_entry_eq]
  generalize (lg_sl ([.ref (ad (27))]) ++ List.replicate (1 - (lg_sl ([.ref (ad (27))])).length) Slot.unset).toArray = ls at hl ⊢
  have hl : lv_has ls 1 [(0, .ref (ad (27)))] := hl
  unfold F_X7_found at hF
  refine lv_aload_n hx hb dX7_found_0 rfl (lv_at hl 0 rfl) ?_
  refine lv_iconst (v := 0) hx hb dX7_found_1 (by decide) ?_
  refine r_putI (C := RX7) (T := TX7) (N := 39) (ty := .int) hx hb htA ia_X7 tyX7 tyX7_ok nmX7 hown hK hW (27) (tp_lt (by decide)) (cE_k (rfl : kd 27 = 9)) rfl 0 (by decide) (cE_k (rfl : kd 27 = 9)) (htA _ aw_379) rfl (by decide +kernel) rfl rfl (Nat.le_of_ble_eq_true rfl) dX7_found_2 (fun H locs hW => ?_)
  obtain ⟨w2, ew2, hF⟩ := nm_some hF
  rw [← ew2] at hW
  refine lv_aload_n hx hb dX7_found_5 rfl (lv_at hl 0 rfl) ?_
  refine r_get (C := RX7) (T := TX7) (N := 39) hx hb htA ia_X7 hown hK hW (27) (tp_lt (by decide)) (cE_k (rfl : kd 27 = 9)) rfl 37 (by decide) (htA _ aw_555) rfl dX7_found_6 ?_
  exact r_iret hx hb hr hlocks hW hF dX7_found_9
def F_X7_id (σ : St) (x1 : Int32) : Option (St × Int64) := (F_X7_in σ (Int32.toInt64 x1) 0 (Int32.toInt64 ((σ.1 (27) 37) - 1))).bind (fun y4 => (F_X7_goes y4.1 y4.2).bind (fun y5 => if y5.2 = 0 then some (y5.1, 0) else gd (ib x1 (ln (53))) (some (y5.1, (y5.1.2 (53) (Int32.toNatClampNeg x1))))))
set_option maxHeartbeats 4000000 in
set_option maxRecDepth 100000 in
theorem m_X7_id (l : Launch) (G : va_G) (g : Nat → ClassId) (ad : Nat → Nat) (n a0 aM : Nat) (σ : St) (x1 : Int32) (x : St × Int64) (hF : F_X7_id σ x1 = some x) : Met l yX7_id zs_X7_id ({ frames := 1, cells := 0, slots := 0, locals := 25 } : Room) (va_Pc [.ref (ad (27)), .int x1] (wP G g ad n a0 aM σ)) (qJ G g ad n a0 x) 0 0 (fun q : Nat => a0 ≤ q) := by
  refine Met.ofW (cc := cX7_id) (maxL := 2) (ret := (some .long)) (by decide) rfl ?_
  intro p e s m args below meth c s₁ B hml hv
  obtain ⟨rfl, hP, hD, hK⟩ := hv
  have hx := B.exec
  have hb := B.bytes
  have hr := B.returns
  have htA : ∀ w ∈ AL, w.before _ s = true := fun w h9 => atoms_spec (ws := zs_X7_id) B.pre w (List.mem_cons_of_mem _ h9)
  have hown : s.vm.findClass RX7 = some m.cls := findClass_of_methodNamed B.named
  have hlocks := B.notSynchronized
  have hW : Wd G g ad n a0 s.heap σ s.heap [] := ⟨hP, hD, va_S.rf⟩
  clear hP hD
  have hl := lv_entry ([.ref (ad (27)), .int x1]) (n := 2) (Nat.le_of_ble_eq_true rfl)
  rw [lg_entry_eq]
  generalize (lg_sl ([.ref (ad (27)), .int x1]) ++ List.replicate (2 - (lg_sl ([.ref (ad (27)), .int x1])).length) Slot.unset).toArray = ls at hl ⊢
  have hl : lv_has ls 2 [(0, .ref (ad (27))), (1, .int x1)] := hl
  unfold F_X7_id at hF
  refine lv_aload_n hx hb dX7_id_0 rfl (lv_at hl 0 rfl) ?_
  refine lv_iload_n hx hb dX7_id_1 rfl (lv_at hl 1 rfl) ?_
  refine lv_i2l (v := (Int32.toInt64 x1)) hx hb dX7_id_2 rfl ?_
  refine lv_lconst (v := 0) hx hb dX7_id_3 (by decide) ?_
  refine lv_aload_n hx hb dX7_id_4 rfl (lv_at hl 0 rfl) ?_
  refine r_get (C := RX7) (T := TX7) (N := 39) hx hb htA ia_X7 hown hK hW (27) (tp_lt (by decide)) (cE_k (rfl : kd 27 = 9)) rfl 37 (by decide) (htA _ aw_555) rfl dX7_id_5 ?_
  refine lv_iconst (v := 1) hx hb dX7_id_8 (by decide) ?_
  refine lv_isub hx hb dX7_id_9 ?_
  refine lv_i2l (v := (Int32.toInt64 ((σ.1 (27) 37) - 1))) hx hb dX7_id_10 rfl ?_
  obtain ⟨y4, hy4, hF⟩ := bd_some hF
  refine r_bi (va_runS (As := [.long (Int32.toInt64 x1), .long 0, .long (Int32.toInt64 ((σ.1 (27) 37) - 1))]) (rest := [.ref (ad (27))]) ⟨hx, hb, hml, hown, htA⟩ (m_X7_in l G g ad n a0 aM σ (Int32.toInt64 x1) 0 (Int32.toInt64 ((σ.1 (27) 37) - 1)) y4  hy4) (va_cwS 3 htA (gS aw_390 aw_391 aw_382 gz_X7_in) rfl rfl rfl (by decide +kernel) ⟨Nat.le_of_ble_eq_true rfl, Nat.le_of_ble_eq_true rfl⟩) (r_pre hK hW [.long (Int32.toInt64 x1), .long 0, .long (Int32.toInt64 ((σ.1 (27) 37) - 1))]) rfl rfl hl.1 rfl (lv_room (Nat.le_of_ble_eq_true rfl)) dX7_id_11 ⟨Nat.zero_le _, Nat.zero_le _⟩) hW (fun H locs hW => ?_)
  obtain ⟨y5, hy5, hF⟩ := bd_some hF
  refine r_bi (va_runV (As := [.int y4.2]) (rest := []) ⟨hx, hb, hml, hown, htA⟩ (m_X7_goes l G g ad n a0 aM y4.1 y4.2 y5  hy5) (cwV 1 htA (gV aw_394 aw_395 aw_396 aw_382 gz_X7_goes) rfl rfl rfl (by decide +kernel) ⟨Nat.le_of_ble_eq_true rfl, Nat.le_of_ble_eq_true rfl⟩) (r_preV hK hW (27) (tp_lt (by decide)) (cE_k (rfl : kd 27 = 9)) rfl [.int y4.2]) rfl rfl hl.1 rfl (lv_room (Nat.le_of_ble_eq_true rfl)) dX7_id_14 ⟨Nat.zero_le _, Nat.zero_le _⟩) hW (fun H locs hW => ?_)
  refine lv_if_eq (tgt := 29) hx hb dX7_id_17 (by decide) (fun hc6 => ?_) (fun hc6 => ?_)
  · replace hF := (if_pos hc6).symm.trans hF
    refine lv_lconst (v := 0) hx hb dX7_id_29 (by decide) ?_
    exact r_lret hx hb hr hlocks hW hF dX7_id_30
  · replace hF := (if_neg hc6).symm.trans hF
    refine lv_aload_n hx hb dX7_id_20 rfl (lv_at hl 0 rfl) ?_
    refine r_get (C := RX7) (T := TX7) (N := 39) hx hb htA ia_X7 hown hK hW (27) (tp_lt (by decide)) (cE_k (rfl : kd 27 = 9)) rfl 38 (by decide) (htA _ aw_378) rfl dX7_id_21 ?_
    refine lv_iload_n hx hb dX7_id_24 rfl (lv_at hl 1 rfl) ?_
    obtain ⟨hg7, hF⟩ := gd_some hF
    refine r_lald hx hb hK hW (53) (tp_lt (by decide)) (rfl : kd 53 = 7) hg7 dX7_id_25 ?_
    refine lv_goto (tgt := 30) hx hb dX7_id_26 (by decide) ?_
    exact r_lret hx hb hr hlocks hW hF dX7_id_30
def F_X7_branch_L28 (σ : St) (u1 : Int32) (z0 : Int32) : Option (St × Int64) := (F_X7_goes σ z0).bind (fun y5 => if y5.2 = 0 then some (y5.1, 0) else if u1 = 2 then some (y5.1, (Int32.toInt64 (y5.1.1 (27) 33))) else if u1 = 0 then gd (ib ((y5.1.1 (27) 34) - 1) (ln (51))) (some (y5.1, (y5.1.2 (51) (Int32.toNatClampNeg ((y5.1.1 (27) 34) - 1))))) else gd (ib ((y5.1.1 (27) 34) - 1) (ln (52))) (some (y5.1, (y5.1.2 (52) (Int32.toNatClampNeg ((y5.1.1 (27) 34) - 1))))))
def F_X7_branch_L27 (σ : St) (u1 : Int32) : Option (St × Int64) := F_X7_branch_L28 σ u1 0
def F_X7_branch_L23 (σ : St) (u1 : Int32) : Option (St × Int64) := F_X7_branch_L28 σ u1 1
def F_X7_branch (σ : St) (x1 : Int32) : Option (St × Int64) := if x1 = 2 then F_X7_branch_L23 σ x1 else (F_X7_in σ (Int32.toInt64 x1) 0 1).bind (fun y12 => if y12.2 = 0 then F_X7_branch_L27 y12.1 x1 else if (y12.1.1 (27) 34) ≤ 0 then F_X7_branch_L27 y12.1 x1 else F_X7_branch_L23 y12.1 x1)
set_option maxHeartbeats 4000000 in
set_option maxRecDepth 100000 in
theorem m_X7_branch (l : Launch) (G : va_G) (g : Nat → ClassId) (ad : Nat → Nat) (n a0 aM : Nat) (σ : St) (x1 : Int32) (x : St × Int64) (hF : F_X7_branch σ x1 = some x) : Met l yX7_branch zs_X7_branch ({ frames := 1, cells := 0, slots := 0, locals := 25 } : Room) (va_Pc [.ref (ad (27)), .int x1] (wP G g ad n a0 aM σ)) (qJ G g ad n a0 x) 0 0 (fun q : Nat => a0 ≤ q) := by
  refine Met.ofW (cc := cX7_branch) (maxL := 2) (ret := (some .long)) (by decide) rfl ?_
  intro p e s m args below meth c s₁ B hml hv
  obtain ⟨rfl, hP, hD, hK⟩ := hv
  have hx := B.exec
  have hb := B.bytes
  have hr := B.returns
  have htA : ∀ w ∈ AL, w.before _ s = true := fun w h9 => atoms_spec (ws := zs_X7_branch) B.pre w (List.mem_cons_of_mem _ h9)
  have hown : s.vm.findClass RX7 = some m.cls := findClass_of_methodNamed B.named
  have hlocks := B.notSynchronized
  have hW : Wd G g ad n a0 s.heap σ s.heap [] := ⟨hP, hD, va_S.rf⟩
  clear hP hD
  have hL28 : ∀ (σ : St) (u1 : Int32) (z0 : Int32) (H : Heap) (locs : List Loc) (ls : Array Slot), Wd G g ad n a0 s.heap σ H locs → lv_has ls 2 [(0, .ref (ad (27))), (1, .int u1)] → F_X7_branch_L28  σ u1 z0 = some x → W p l e (headSpec zs_X7_branch ({ frames := 1, cells := 0, slots := 0, locals := 25 } : Room)).room s m ([.ref (ad (27)), .int x1] : List Value).toArray below meth c H locs 0 0 (MQ below (qJ G g ad n a0 x) ([.ref (ad (27)), .int x1] : List Value).toArray s 0 0 (fun q : Nat => a0 ≤ q)) (F0 m 28 ls [.int z0, .ref (ad (27))]) := by
    intro σ u1 z0 H locs ls hW hl hF
    unfold F_X7_branch_L28 at hF
    obtain ⟨y5, hy5, hF⟩ := bd_some hF
    refine r_bi (va_runV (As := [.int z0]) (rest := []) ⟨hx, hb, hml, hown, htA⟩ (m_X7_goes l G g ad n a0 aM σ z0 y5  hy5) (cwV 1 htA (gV aw_394 aw_395 aw_396 aw_382 gz_X7_goes) rfl rfl rfl (by decide +kernel) ⟨Nat.le_of_ble_eq_true rfl, Nat.le_of_ble_eq_true rfl⟩) (r_preV hK hW (27) (tp_lt (by decide)) (cE_k (rfl : kd 27 = 9)) rfl [.int z0]) rfl rfl hl.1 rfl (lv_room (Nat.le_of_ble_eq_true rfl)) dX7_branch_28 ⟨Nat.zero_le _, Nat.zero_le _⟩) hW (fun H locs hW => ?_)
    refine lv_if_ne (tgt := 36) hx hb dX7_branch_31 (by decide) (fun hc6 => ?_) (fun hc6 => ?_)
    · replace hF := (if_neg hc6).symm.trans hF
      refine lv_iload_n hx hb dX7_branch_36 rfl (lv_at hl 1 rfl) ?_
      refine lv_iconst (v := 2) hx hb dX7_branch_37 (by decide) ?_
      refine lv_icmp_ne (tgt := 49) hx hb dX7_branch_38 (by decide) (fun hc7 => ?_) (fun hc7 => ?_)
      · replace hF := (if_neg hc7).symm.trans hF
        refine lv_iload_n hx hb dX7_branch_49 rfl (lv_at hl 1 rfl) ?_
        refine lv_if_ne (tgt := 67) hx hb dX7_branch_50 (by decide) (fun hc8 => ?_) (fun hc8 => ?_)
        · replace hF := (if_neg hc8).symm.trans hF
          refine lv_aload_n hx hb dX7_branch_67 rfl (lv_at hl 0 rfl) ?_
          refine r_get (C := RX7) (T := TX7) (N := 39) hx hb htA ia_X7 hown hK hW (27) (tp_lt (by decide)) (cE_k (rfl : kd 27 = 9)) rfl 36 (by decide) (htA _ aw_377) rfl dX7_branch_68 ?_
          refine lv_aload_n hx hb dX7_branch_71 rfl (lv_at hl 0 rfl) ?_
          refine r_get (C := RX7) (T := TX7) (N := 39) hx hb htA ia_X7 hown hK hW (27) (tp_lt (by decide)) (cE_k (rfl : kd 27 = 9)) rfl 34 (by decide) (htA _ aw_556) rfl dX7_branch_72 ?_
          refine lv_iconst (v := 1) hx hb dX7_branch_75 (by decide) ?_
          refine lv_isub hx hb dX7_branch_76 ?_
          obtain ⟨hg9, hF⟩ := gd_some hF
          refine r_lald hx hb hK hW (52) (tp_lt (by decide)) (rfl : kd 52 = 7) hg9 dX7_branch_77 ?_
          exact r_lret hx hb hr hlocks hW hF dX7_branch_78
        · replace hF := (if_pos hc8).symm.trans hF
          refine lv_aload_n hx hb dX7_branch_53 rfl (lv_at hl 0 rfl) ?_
          refine r_get (C := RX7) (T := TX7) (N := 39) hx hb htA ia_X7 hown hK hW (27) (tp_lt (by decide)) (cE_k (rfl : kd 27 = 9)) rfl 35 (by decide) (htA _ aw_376) rfl dX7_branch_54 ?_
          refine lv_aload_n hx hb dX7_branch_57 rfl (lv_at hl 0 rfl) ?_
          refine r_get (C := RX7) (T := TX7) (N := 39) hx hb htA ia_X7 hown hK hW (27) (tp_lt (by decide)) (cE_k (rfl : kd 27 = 9)) rfl 34 (by decide) (htA _ aw_556) rfl dX7_branch_58 ?_
          refine lv_iconst (v := 1) hx hb dX7_branch_61 (by decide) ?_
          refine lv_isub hx hb dX7_branch_62 ?_
          obtain ⟨hg10, hF⟩ := gd_some hF
          refine r_lald hx hb hK hW (51) (tp_lt (by decide)) (rfl : kd 51 = 7) hg10 dX7_branch_63 ?_
          refine lv_goto (tgt := 78) hx hb dX7_branch_64 (by decide) ?_
          exact r_lret hx hb hr hlocks hW hF dX7_branch_78
      · replace hF := (if_pos hc7).symm.trans hF
        refine lv_aload_n hx hb dX7_branch_41 rfl (lv_at hl 0 rfl) ?_
        refine r_get (C := RX7) (T := TX7) (N := 39) hx hb htA ia_X7 hown hK hW (27) (tp_lt (by decide)) (cE_k (rfl : kd 27 = 9)) rfl 33 (by decide) (htA _ aw_554) rfl dX7_branch_42 ?_
        refine lv_i2l (v := (Int32.toInt64 (y5.1.1 (27) 33))) hx hb dX7_branch_45 rfl ?_
        refine lv_goto (tgt := 78) hx hb dX7_branch_46 (by decide) ?_
        exact r_lret hx hb hr hlocks hW hF dX7_branch_78
    · replace hF := (if_pos hc6).symm.trans hF
      refine lv_lconst (v := 0) hx hb dX7_branch_34 (by decide) ?_
      exact r_lret hx hb hr hlocks hW hF dX7_branch_35
  have hL27 : ∀ (σ : St) (u1 : Int32) (H : Heap) (locs : List Loc) (ls : Array Slot), Wd G g ad n a0 s.heap σ H locs → lv_has ls 2 [(0, .ref (ad (27))), (1, .int u1)] → F_X7_branch_L27  σ u1 = some x → W p l e (headSpec zs_X7_branch ({ frames := 1, cells := 0, slots := 0, locals := 25 } : Room)).room s m ([.ref (ad (27)), .int x1] : List Value).toArray below meth c H locs 0 0 (MQ below (qJ G g ad n a0 x) ([.ref (ad (27)), .int x1] : List Value).toArray s 0 0 (fun q : Nat => a0 ≤ q)) (F0 m 27 ls [.ref (ad (27))]) := by
    intro σ u1 H locs ls hW hl hF
    unfold F_X7_branch_L27 at hF
    refine lv_iconst (v := 0) hx hb dX7_branch_27 (by decide) ?_
    exact hL28 σ u1 0 _ _ _  hW (lv_sub hl [0, 1] rfl) hF
  have hL23 : ∀ (σ : St) (u1 : Int32) (H : Heap) (locs : List Loc) (ls : Array Slot), Wd G g ad n a0 s.heap σ H locs → lv_has ls 2 [(0, .ref (ad (27))), (1, .int u1)] → F_X7_branch_L23  σ u1 = some x → W p l e (headSpec zs_X7_branch ({ frames := 1, cells := 0, slots := 0, locals := 25 } : Room)).room s m ([.ref (ad (27)), .int x1] : List Value).toArray below meth c H locs 0 0 (MQ below (qJ G g ad n a0 x) ([.ref (ad (27)), .int x1] : List Value).toArray s 0 0 (fun q : Nat => a0 ≤ q)) (F0 m 23 ls [.ref (ad (27))]) := by
    intro σ u1 H locs ls hW hl hF
    unfold F_X7_branch_L23 at hF
    refine lv_iconst (v := 1) hx hb dX7_branch_23 (by decide) ?_
    refine lv_goto (tgt := 28) hx hb dX7_branch_24 (by decide) ?_
    exact hL28 σ u1 1 _ _ _  hW (lv_sub hl [0, 1] rfl) hF
  have hl := lv_entry ([.ref (ad (27)), .int x1]) (n := 2) (Nat.le_of_ble_eq_true rfl)
  rw [lg_entry_eq]
  generalize (lg_sl ([.ref (ad (27)), .int x1]) ++ List.replicate (2 - (lg_sl ([.ref (ad (27)), .int x1])).length) Slot.unset).toArray = ls at hl ⊢
  have hl : lv_has ls 2 [(0, .ref (ad (27))), (1, .int x1)] := hl
  unfold F_X7_branch at hF
  refine lv_aload_n hx hb dX7_branch_0 rfl (lv_at hl 0 rfl) ?_
  refine lv_iload_n hx hb dX7_branch_1 rfl (lv_at hl 1 rfl) ?_
  refine lv_iconst (v := 2) hx hb dX7_branch_2 (by decide) ?_
  refine lv_icmp_eq (tgt := 23) hx hb dX7_branch_3 (by decide) (fun hc11 => ?_) (fun hc11 => ?_)
  · replace hF := (if_pos hc11).symm.trans hF
    exact hL23 σ x1 _ _ _  hW (lv_sub hl [0, 1] rfl) hF
  · replace hF := (if_neg hc11).symm.trans hF
    refine lv_iload_n hx hb dX7_branch_6 rfl (lv_at hl 1 rfl) ?_
    refine lv_i2l (v := (Int32.toInt64 x1)) hx hb dX7_branch_7 rfl ?_
    refine lv_lconst (v := 0) hx hb dX7_branch_8 (by decide) ?_
    refine lv_lconst (v := 1) hx hb dX7_branch_9 (by decide) ?_
    obtain ⟨y12, hy12, hF⟩ := bd_some hF
    refine r_bi (va_runS (As := [.long (Int32.toInt64 x1), .long 0, .long 1]) (rest := [.ref (ad (27))]) ⟨hx, hb, hml, hown, htA⟩ (m_X7_in l G g ad n a0 aM σ (Int32.toInt64 x1) 0 1 y12  hy12) (va_cwS 3 htA (gS aw_390 aw_391 aw_382 gz_X7_in) rfl rfl rfl (by decide +kernel) ⟨Nat.le_of_ble_eq_true rfl, Nat.le_of_ble_eq_true rfl⟩) (r_pre hK hW [.long (Int32.toInt64 x1), .long 0, .long 1]) rfl rfl hl.1 rfl (lv_room (Nat.le_of_ble_eq_true rfl)) dX7_branch_10 ⟨Nat.zero_le _, Nat.zero_le _⟩) hW (fun H locs hW => ?_)
    refine lv_if_eq (tgt := 27) hx hb dX7_branch_13 (by decide) (fun hc13 => ?_) (fun hc13 => ?_)
    · replace hF := (if_pos hc13).symm.trans hF
      exact hL27 y12.1 x1 _ _ _  hW (lv_sub hl [0, 1] rfl) hF
    · replace hF := (if_neg hc13).symm.trans hF
      refine lv_aload_n hx hb dX7_branch_16 rfl (lv_at hl 0 rfl) ?_
      refine r_get (C := RX7) (T := TX7) (N := 39) hx hb htA ia_X7 hown hK hW (27) (tp_lt (by decide)) (cE_k (rfl : kd 27 = 9)) rfl 34 (by decide) (htA _ aw_556) rfl dX7_branch_17 ?_
      refine lv_if_le (tgt := 27) hx hb dX7_branch_20 (by decide) (fun hc14 => ?_) (fun hc14 => ?_)
      · replace hF := (if_pos hc14).symm.trans hF
        exact hL27 y12.1 x1 _ _ _  hW (lv_sub hl [0, 1] rfl) hF
      · replace hF := (if_neg hc14).symm.trans hF
        exact hL23 y12.1 x1 _ _ _  hW (lv_sub hl [0, 1] rfl) hF
