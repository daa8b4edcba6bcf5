def F_X7_mayBe_L59 (σ : St) (u4 : Int32) : Option (St × Int32) := gd (zb u4) (some (σ, u4))
def F_X7_mayBe_L13 (K59 : St → Int32 → Option (St × Int32)) : Nat → St → Int32 → Int32 → Int32 → Option (St × Int32)
  | 0, _, _, _, _ => none
  | fz + 1, σ, u3, u4, u5 => if u3 ≤ u5 then K59 σ u4 else if u4 = 0 then (F_X7_mayBe_L13 K59 fz) σ u3 0 (u5 + 1) else (F_X7_at σ (24 + u5)).bind (fun y17 => (F_X7_in y17.1 (Int32.toInt64 y17.2) 32 126).bind (fun y18 => if y18.2 = 0 then (F_X7_mayBe_L13 K59 fz) y18.1 u3 0 (u5 + 1) else (F_X7_mayBe_L13 K59 fz) y18.1 u3 1 (u5 + 1)))
def F_X7_mayBe (σ : St) (x1 : Int32) (x2 : Int32) (x3 : Int32) : Option (St × Int32) := if x2 = 130 then F_X7_mayBe_L13 F_X7_mayBe_L59 fu σ x3 1 0 else if x2 = 224 then (F_X7_at σ 24).bind (fun y31 => gd (ib x1 (ln (31))) ((F_X7_in y31.1 (Int32.toInt64 y31.2) 1 (Int32.toInt64 (y31.1.1 (31) (Int32.toNatClampNeg x1)))).bind (fun y33 => if y33.2 = 0 then some (y33.1, 0) else gd (ib x1 (ln (33))) (gd (ib x1 (ln (30))) ((F_X7_at y33.1 24).bind (fun y37 => if 513 < ((y33.1.1 (33) (Int32.toNatClampNeg x1)) + ((y33.1.1 (30) (Int32.toNatClampNeg x1)) * y37.2)) then some (y37.1, 0) else some (y37.1, 1))))))) else if x2 = 240 then (F_X7_two σ 24).bind (fun y25 => (F_X7_in y25.1 (Int32.toInt64 y25.2) 1 512).bind (fun y26 => if y26.2 = 0 then some (y26.1, 0) else (F_X7_two y26.1 24).bind (fun y28 => (F_X7_footprint y28.1 x1).bind (fun y29 => if 513 < (y28.2 + y29.2) then some (y29.1, 0) else some (y29.1, 1))))) else (F_X7_at σ 24).bind (fun y23 => if 2 ≤ y23.2 then some (y23.1, 0) else some (y23.1, 1))
set_option maxHeartbeats 4000000 in
set_option maxRecDepth 100000 in
theorem m_X7_mayBe (l : Launch) (G : va_G) (g : Nat → ClassId) (ad : Nat → Nat) (n a0 aM : Nat) (σ : St) (x1 : Int32) (x2 : Int32) (x3 : Int32) (x : St × Int32) (hF : F_X7_mayBe σ x1 x2 x3 = some x) : Met l yX7_mayBe zs_X7_mayBe ({ frames := 2, cells := 0, slots := 0, locals := 42 } : Room) (va_Pc [.ref (ad (27)), .int x1, .int x2, .int x3] (wP G g ad n a0 aM σ)) (qI G g ad n a0 x) 0 0 (fun q : Nat => a0 ≤ q) := by
  refine Met.ofW (cc := cX7_mayBe) (maxL := 6) (ret := (some .boolean)) (by decide) rfl ?_
  intro p e s m args below meth c s₁ B hml hv
  obtain ⟨rfl, hP, hD, hK⟩ := hv
  have hx := B.exec
  have hb := B.bytes
  have hr := B.returns
  have htA : ∀ w ∈ AL, w.before _ s = true := fun w h9 => atoms_spec (ws := zs_X7_mayBe) B.pre w (List.mem_cons_of_mem _ h9)
  have hown : s.vm.findClass RX7 = some m.cls := findClass_of_methodNamed B.named
  have hlocks := B.notSynchronized
  have hW : Wd G g ad n a0 s.heap σ s.heap [] := ⟨hP, hD, va_S.rf⟩
  clear hP hD
  have hL59 : ∀ (σ : St) (u4 : Int32) (H : Heap) (locs : List Loc) (ls : Array Slot), Wd G g ad n a0 s.heap σ H locs → lv_has ls 6 [(4, .int u4)] → F_X7_mayBe_L59  σ u4 = some x → W p l e (headSpec zs_X7_mayBe ({ frames := 2, cells := 0, slots := 0, locals := 42 } : Room)).room s m ([.ref (ad (27)), .int x1, .int x2, .int x3] : List Value).toArray below meth c H locs 0 0 (MQ below (qI G g ad n a0 x) ([.ref (ad (27)), .int x1, .int x2, .int x3] : List Value).toArray s 0 0 (fun q : Nat => a0 ≤ q)) (F0 m 59 ls []) := by
    intro σ u4 H locs ls hW hl hF
    unfold F_X7_mayBe_L59 at hF
    refine lv_iload hx hb dX7_mayBe_59 (lv_at hl 0 rfl) ?_
    obtain ⟨hg14, hF⟩ := gd_some hF
    exact r_zret hx hb hr hlocks hW hg14 hF dX7_mayBe_61
  have hL13 : ∀ (fz13 : Nat) (σ : St) (u3 : Int32) (u4 : Int32) (u5 : Int32) (H : Heap) (locs : List Loc) (ls : Array Slot), Wd G g ad n a0 s.heap σ H locs → lv_has ls 6 [(0, .ref (ad (27))), (3, .int u3), (4, .int u4), (5, .int u5)] → F_X7_mayBe_L13 (F_X7_mayBe_L59) fz13 σ u3 u4 u5 = some x → W p l e (headSpec zs_X7_mayBe ({ frames := 2, cells := 0, slots := 0, locals := 42 } : Room)).room s m ([.ref (ad (27)), .int x1, .int x2, .int x3] : List Value).toArray below meth c H locs 0 0 (MQ below (qI G g ad n a0 x) ([.ref (ad (27)), .int x1, .int x2, .int x3] : List Value).toArray s 0 0 (fun q : Nat => a0 ≤ q)) (F0 m 13 ls []) := by
    intro fz13
    induction fz13 with
    | zero =>
      intro σ u3 u4 u5 H locs ls hW hl hF
      exact absurd hF (by simp [F_X7_mayBe_L13])
    | succ fz13 ih =>
      have hB13 := ih
      intro σ u3 u4 u5 H locs ls hW hl hF
      unfold F_X7_mayBe_L13 at hF
      refine lv_iload hx hb dX7_mayBe_13 (lv_at hl 3 rfl) ?_
      refine lv_iload_n hx hb dX7_mayBe_15 rfl (lv_at hl 1 rfl) ?_
      refine lv_icmp_ge (tgt := 59) hx hb dX7_mayBe_16 (by decide) (fun hc15 => ?_) (fun hc15 => ?_)
      · replace hF := (if_pos hc15).symm.trans hF
        exact hL59 σ u4 _ _ _  hW (lv_sub hl [2] rfl) hF
      · replace hF := (if_neg hc15).symm.trans hF
        refine lv_iload hx hb dX7_mayBe_19 (lv_at hl 2 rfl) ?_
        refine lv_if_eq (tgt := 50) hx hb dX7_mayBe_21 (by decide) (fun hc16 => ?_) (fun hc16 => ?_)
        · replace hF := (if_pos hc16).symm.trans hF
          refine lv_iconst (v := 0) hx hb dX7_mayBe_50 (by decide) ?_
          refine lv_istore (lv' := [(4, .int 0), (0, .ref (ad (27))), (3, .int u3), (5, .int u5)]) hx hb dX7_mayBe_51 hl (by decide) rfl (fun ls hl => ?_)
          refine lv_iinc (v := (u5 + 1)) (lv' := [(5, .int (u5 + 1)), (4, .int 0), (0, .ref (ad (27))), (3, .int u3)]) hx hb dX7_mayBe_53 hl (k := 3) rfl rfl (by decide) rfl (fun ls hl => ?_)
          refine lv_goto (tgt := 13) hx hb dX7_mayBe_56 (by decide) ?_
          exact hB13 σ u3 0 (u5 + 1) _ _ _  hW (lv_sub hl [2, 3, 1, 0] rfl) hF
        · replace hF := (if_neg hc16).symm.trans hF
          refine lv_aload_n hx hb dX7_mayBe_24 rfl (lv_at hl 0 rfl) ?_
          refine lv_bipush (v := 24) hx hb dX7_mayBe_25 (by decide) ?_
          refine lv_iload hx hb dX7_mayBe_27 (lv_at hl 3 rfl) ?_
          refine lv_iadd hx hb dX7_mayBe_29 ?_
          obtain ⟨y17, hy17, hF⟩ := bd_some hF
          refine r_bi (va_runV (As := [.int (24 + u5)]) (rest := []) ⟨hx, hb, hml, hown, htA⟩ (m_X7_at l G g ad n a0 aM σ (24 + u5) y17  hy17) (cwV 1 htA (gV aw_398 aw_399 aw_400 aw_382 gz_X7_at) rfl rfl rfl (by decide +kernel) ⟨Nat.le_of_ble_eq_true rfl, Nat.le_of_ble_eq_true rfl⟩) (r_preV hK hW (27) (tp_lt (by decide)) (cE_k (rfl : kd 27 = 9)) rfl [.int (24 + u5)]) rfl rfl hl.1 rfl (lv_room (Nat.le_of_ble_eq_true rfl)) dX7_mayBe_30 ⟨Nat.zero_le _, Nat.zero_le _⟩) hW (fun H locs hW => ?_)
          refine lv_i2l (v := (Int32.toInt64 y17.2)) hx hb dX7_mayBe_33 rfl ?_
          refine lv_ldc2 (v := 32) hx hb hown (htA _ aw_466) dX7_mayBe_34 ?_
          refine lv_ldc2 (v := 126) hx hb hown (htA _ aw_467) dX7_mayBe_37 ?_
          obtain ⟨y18, hy18, hF⟩ := bd_some hF
          refine r_bi (va_runS (As := [.long (Int32.toInt64 y17.2), .long 32, .long 126]) (rest := []) ⟨hx, hb, hml, hown, htA⟩ (m_X7_in l G g ad n a0 aM y17.1 (Int32.toInt64 y17.2) 32 126 y18  hy18) (va_cwS 3 htA (gS aw_390 aw_391 aw_382 gz_X7_in) rfl rfl rfl (by decide +kernel) ⟨Nat.le_of_ble_eq_true rfl, Nat.le_of_ble_eq_true rfl⟩) (r_pre hK hW [.long (Int32.toInt64 y17.2), .long 32, .long 126]) rfl rfl hl.1 rfl (lv_room (Nat.le_of_ble_eq_true rfl)) dX7_mayBe_40 ⟨Nat.zero_le _, Nat.zero_le _⟩) hW (fun H locs hW => ?_)
          refine lv_if_eq (tgt := 50) hx hb dX7_mayBe_43 (by decide) (fun hc19 => ?_) (fun hc19 => ?_)
          · replace hF := (if_pos hc19).symm.trans hF
            refine lv_iconst (v := 0) hx hb dX7_mayBe_50 (by decide) ?_
            refine lv_istore (lv' := [(4, .int 0), (0, .ref (ad (27))), (3, .int u3), (5, .int u5)]) hx hb dX7_mayBe_51 hl (by decide) rfl (fun ls hl => ?_)
            refine lv_iinc (v := (u5 + 1)) (lv' := [(5, .int (u5 + 1)), (4, .int 0), (0, .ref (ad (27))), (3, .int u3)]) hx hb dX7_mayBe_53 hl (k := 3) rfl rfl (by decide) rfl (fun ls hl => ?_)
            refine lv_goto (tgt := 13) hx hb dX7_mayBe_56 (by decide) ?_
            exact hB13 y18.1 u3 0 (u5 + 1) _ _ _  hW (lv_sub hl [2, 3, 1, 0] rfl) hF
          · replace hF := (if_neg hc19).symm.trans hF
            refine lv_iconst (v := 1) hx hb dX7_mayBe_46 (by decide) ?_
            refine lv_goto (tgt := 51) hx hb dX7_mayBe_47 (by decide) ?_
            refine lv_istore (lv' := [(4, .int 1), (0, .ref (ad (27))), (3, .int u3), (5, .int u5)]) hx hb dX7_mayBe_51 hl (by decide) rfl (fun ls hl => ?_)
            refine lv_iinc (v := (u5 + 1)) (lv' := [(5, .int (u5 + 1)), (4, .int 1), (0, .ref (ad (27))), (3, .int u3)]) hx hb dX7_mayBe_53 hl (k := 3) rfl rfl (by decide) rfl (fun ls hl => ?_)
            refine lv_goto (tgt := 13) hx hb dX7_mayBe_56 (by decide) ?_
            exact hB13 y18.1 u3 1 (u5 + 1) _ _ _  hW (lv_sub hl [2, 3, 1, 0] rfl) hF
  have hL13 := hL13 fu
  have hl := lv_entry ([.ref (ad (27)), .int x1, .int x2, .int x3]) (n := 6) (Nat.le_of_ble_eq_true rfl)
  rw [lg_entry_eq]
  generalize (lg_sl ([.ref (ad (27)), .int x1, .int x2, .int x3]) ++ List.replicate (6 - (lg_sl ([.ref (ad (27)), .int x1, .int x2, .int x3])).length) Slot.unset).toArray = ls at hl ⊢
  have hl : lv_has ls 6 [(0, .ref (ad (27))), (1, .int x1), (2, .int x2), (3, .int x3)] := hl
  unfold F_X7_mayBe at hF
  refine lv_iload_n hx hb dX7_mayBe_0 rfl (lv_at hl 2 rfl) ?_
  refine lv_sipush (v := 130) hx hb dX7_mayBe_1 (by decide) ?_
  refine lv_icmp_ne (tgt := 62) hx hb dX7_mayBe_4 (by decide) (fun hc20 => ?_) (fun hc20 => ?_)
  · replace hF := (if_neg hc20).symm.trans hF
    refine lv_iload_n hx hb dX7_mayBe_62 rfl (lv_at hl 2 rfl) ?_
    refine lv_sipush (v := 224) hx hb dX7_mayBe_63 (by decide) ?_
    refine lv_icmp_ne (tgt := 122) hx hb dX7_mayBe_66 (by decide) (fun hc21 => ?_) (fun hc21 => ?_)
    · replace hF := (if_neg hc21).symm.trans hF
      refine lv_iload_n hx hb dX7_mayBe_122 rfl (lv_at hl 2 rfl) ?_
      refine lv_sipush (v := 240) hx hb dX7_mayBe_123 (by decide) ?_
      refine lv_icmp_ne (tgt := 172) hx hb dX7_mayBe_126 (by decide) (fun hc22 => ?_) (fun hc22 => ?_)
      · replace hF := (if_neg hc22).symm.trans hF
        refine lv_aload_n hx hb dX7_mayBe_172 rfl (lv_at hl 0 rfl) ?_
        refine lv_bipush (v := 24) hx hb dX7_mayBe_173 (by decide) ?_
        obtain ⟨y23, hy23, hF⟩ := bd_some hF
        refine r_bi (va_runV (As := [.int 24]) (rest := []) ⟨hx, hb, hml, hown, htA⟩ (m_X7_at l G g ad n a0 aM σ 24 y23  hy23) (cwV 1 htA (gV aw_398 aw_399 aw_400 aw_382 gz_X7_at) rfl rfl rfl (by decide +kernel) ⟨Nat.le_of_ble_eq_true rfl, Nat.le_of_ble_eq_true rfl⟩) (r_preV hK hW (27) (tp_lt (by decide)) (cE_k (rfl : kd 27 = 9)) rfl [.int 24]) rfl rfl hl.1 rfl (lv_room (Nat.le_of_ble_eq_true rfl)) dX7_mayBe_175 ⟨Nat.zero_le _, Nat.zero_le _⟩) hW (fun H locs hW => ?_)
        refine lv_iconst (v := 2) hx hb dX7_mayBe_178 (by decide) ?_
        refine lv_icmp_ge (tgt := 186) hx hb dX7_mayBe_179 (by decide) (fun hc24 => ?_) (fun hc24 => ?_)
        · replace hF := (if_pos hc24).symm.trans hF
          refine lv_iconst (v := 0) hx hb dX7_mayBe_186 (by decide) ?_
          exact r_zret hx hb hr hlocks hW rfl hF dX7_mayBe_187
        · replace hF := (if_neg hc24).symm.trans hF
          refine lv_iconst (v := 1) hx hb dX7_mayBe_182 (by decide) ?_
          refine lv_goto (tgt := 187) hx hb dX7_mayBe_183 (by decide) ?_
          exact r_zret hx hb hr hlocks hW rfl hF dX7_mayBe_187
      · replace hF := (if_pos hc22).symm.trans hF
        refine lv_aload_n hx hb dX7_mayBe_129 rfl (lv_at hl 0 rfl) ?_
        refine lv_bipush (v := 24) hx hb dX7_mayBe_130 (by decide) ?_
        obtain ⟨y25, hy25, hF⟩ := bd_some hF
        refine r_bi (va_runV (As := [.int 24]) (rest := []) ⟨hx, hb, hml, hown, htA⟩ (m_X7_two l G g ad n a0 aM σ 24 y25  hy25) (cwV 1 htA (gV aw_410 aw_411 aw_412 aw_382 gz_X7_two) rfl rfl rfl (by decide +kernel) ⟨Nat.le_of_ble_eq_true rfl, Nat.le_of_ble_eq_true rfl⟩) (r_preV hK hW (27) (tp_lt (by decide)) (cE_k (rfl : kd 27 = 9)) rfl [.int 24]) rfl rfl hl.1 rfl (lv_room (Nat.le_of_ble_eq_true rfl)) dX7_mayBe_132 ⟨Nat.zero_le _, Nat.zero_le _⟩) hW (fun H locs hW => ?_)
        refine lv_i2l (v := (Int32.toInt64 y25.2)) hx hb dX7_mayBe_135 rfl ?_
        refine lv_lconst (v := 1) hx hb dX7_mayBe_136 (by decide) ?_
        refine lv_ldc2 (v := 512) hx hb hown (htA _ aw_388) dX7_mayBe_137 ?_
        obtain ⟨y26, hy26, hF⟩ := bd_some hF
        refine r_bi (va_runS (As := [.long (Int32.toInt64 y25.2), .long 1, .long 512]) (rest := []) ⟨hx, hb, hml, hown, htA⟩ (m_X7_in l G g ad n a0 aM y25.1 (Int32.toInt64 y25.2) 1 512 y26  hy26) (va_cwS 3 htA (gS aw_390 aw_391 aw_382 gz_X7_in) rfl rfl rfl (by decide +kernel) ⟨Nat.le_of_ble_eq_true rfl, Nat.le_of_ble_eq_true rfl⟩) (r_pre hK hW [.long (Int32.toInt64 y25.2), .long 1, .long 512]) rfl rfl hl.1 rfl (lv_room (Nat.le_of_ble_eq_true rfl)) dX7_mayBe_140 ⟨Nat.zero_le _, Nat.zero_le _⟩) hW (fun H locs hW => ?_)
        refine lv_if_eq (tgt := 168) hx hb dX7_mayBe_143 (by decide) (fun hc27 => ?_) (fun hc27 => ?_)
        · replace hF := (if_pos hc27).symm.trans hF
          refine lv_iconst (v := 0) hx hb dX7_mayBe_168 (by decide) ?_
          refine lv_goto (tgt := 187) hx hb dX7_mayBe_169 (by decide) ?_
          exact r_zret hx hb hr hlocks hW rfl hF dX7_mayBe_187
        · replace hF := (if_neg hc27).symm.trans hF
          refine lv_aload_n hx hb dX7_mayBe_146 rfl (lv_at hl 0 rfl) ?_
          refine lv_bipush (v := 24) hx hb dX7_mayBe_147 (by decide) ?_
          obtain ⟨y28, hy28, hF⟩ := bd_some hF
          refine r_bi (va_runV (As := [.int 24]) (rest := []) ⟨hx, hb, hml, hown, htA⟩ (m_X7_two l G g ad n a0 aM y26.1 24 y28  hy28) (cwV 1 htA (gV aw_410 aw_411 aw_412 aw_382 gz_X7_two) rfl rfl rfl (by decide +kernel) ⟨Nat.le_of_ble_eq_true rfl, Nat.le_of_ble_eq_true rfl⟩) (r_preV hK hW (27) (tp_lt (by decide)) (cE_k (rfl : kd 27 = 9)) rfl [.int 24]) rfl rfl hl.1 rfl (lv_room (Nat.le_of_ble_eq_true rfl)) dX7_mayBe_149 ⟨Nat.zero_le _, Nat.zero_le _⟩) hW (fun H locs hW => ?_)
          refine lv_aload_n hx hb dX7_mayBe_152 rfl (lv_at hl 0 rfl) ?_
          refine lv_iload_n hx hb dX7_mayBe_153 rfl (lv_at hl 1 rfl) ?_
          obtain ⟨y29, hy29, hF⟩ := bd_some hF
          refine r_bi (va_runV (As := [.int x1]) (rest := [.int y28.2]) ⟨hx, hb, hml, hown, htA⟩ (m_X7_footprint l G g ad n a0 aM y28.1 x1 y29  hy29) (cwV 1 htA (gV aw_405 aw_406 aw_407 aw_382 gz_X7_footprint) rfl rfl rfl (by decide +kernel) ⟨Nat.le_of_ble_eq_true rfl, Nat.le_of_ble_eq_true rfl⟩) (r_preV hK hW (27) (tp_lt (by decide)) (cE_k (rfl : kd 27 = 9)) rfl [.int x1]) rfl rfl hl.1 rfl (lv_room (Nat.le_of_ble_eq_true rfl)) dX7_mayBe_154 ⟨Nat.zero_le _, Nat.zero_le _⟩) hW (fun H locs hW => ?_)
          refine lv_iadd hx hb dX7_mayBe_157 ?_
          refine lv_sipush (v := 513) hx hb dX7_mayBe_158 (by decide) ?_
          refine lv_icmp_gt (tgt := 168) hx hb dX7_mayBe_161 (by decide) (fun hc30 => ?_) (fun hc30 => ?_)
          · replace hF := (if_pos hc30).symm.trans hF
            refine lv_iconst (v := 0) hx hb dX7_mayBe_168 (by decide) ?_
            refine lv_goto (tgt := 187) hx hb dX7_mayBe_169 (by decide) ?_
            exact r_zret hx hb hr hlocks hW rfl hF dX7_mayBe_187
          · replace hF := (if_neg hc30).symm.trans hF
            refine lv_iconst (v := 1) hx hb dX7_mayBe_164 (by decide) ?_
            refine lv_goto (tgt := 187) hx hb dX7_mayBe_165 (by decide) ?_
            exact r_zret hx hb hr hlocks hW rfl hF dX7_mayBe_187
    · replace hF := (if_pos hc21).symm.trans hF
      refine lv_aload_n hx hb dX7_mayBe_69 rfl (lv_at hl 0 rfl) ?_
      refine lv_bipush (v := 24) hx hb dX7_mayBe_70 (by decide) ?_
      obtain ⟨y31, hy31, hF⟩ := bd_some hF
      refine r_bi (va_runV (As := [.int 24]) (rest := []) ⟨hx, hb, hml, hown, htA⟩ (m_X7_at l G g ad n a0 aM σ 24 y31  hy31) (cwV 1 htA (gV aw_398 aw_399 aw_400 aw_382 gz_X7_at) rfl rfl rfl (by decide +kernel) ⟨Nat.le_of_ble_eq_true rfl, Nat.le_of_ble_eq_true rfl⟩) (r_preV hK hW (27) (tp_lt (by decide)) (cE_k (rfl : kd 27 = 9)) rfl [.int 24]) rfl rfl hl.1 rfl (lv_room (Nat.le_of_ble_eq_true rfl)) dX7_mayBe_72 ⟨Nat.zero_le _, Nat.zero_le _⟩) hW (fun H locs hW => ?_)
      refine lv_i2l (v := (Int32.toInt64 y31.2)) hx hb dX7_mayBe_75 rfl ?_
      refine lv_lconst (v := 1) hx hb dX7_mayBe_76 (by decide) ?_
      refine lv_aload_n hx hb dX7_mayBe_77 rfl (lv_at hl 0 rfl) ?_
      refine r_get (C := RX7) (T := TX7) (N := 39) hx hb htA ia_X7 hown hK hW (27) (tp_lt (by decide)) (cE_k (rfl : kd 27 = 9)) rfl 5 (by decide) (htA _ aw_355) rfl dX7_mayBe_78 ?_
      refine lv_iload_n hx hb dX7_mayBe_81 rfl (lv_at hl 1 rfl) ?_
      obtain ⟨hg32, hF⟩ := gd_some hF
      refine r_iald hx hb hK hW (31) (tp_lt (by decide)) (rfl : kd 31 = 3) hg32 dX7_mayBe_82 ?_
      refine lv_i2l (v := (Int32.toInt64 (y31.1.1 (31) (Int32.toNatClampNeg x1)))) hx hb dX7_mayBe_83 rfl ?_
      obtain ⟨y33, hy33, hF⟩ := bd_some hF
      refine r_bi (va_runS (As := [.long (Int32.toInt64 y31.2), .long 1, .long (Int32.toInt64 (y31.1.1 (31) (Int32.toNatClampNeg x1)))]) (rest := []) ⟨hx, hb, hml, hown, htA⟩ (m_X7_in l G g ad n a0 aM y31.1 (Int32.toInt64 y31.2) 1 (Int32.toInt64 (y31.1.1 (31) (Int32.toNatClampNeg x1))) y33  hy33) (va_cwS 3 htA (gS aw_390 aw_391 aw_382 gz_X7_in) rfl rfl rfl (by decide +kernel) ⟨Nat.le_of_ble_eq_true rfl, Nat.le_of_ble_eq_true rfl⟩) (r_pre hK hW [.long (Int32.toInt64 y31.2), .long 1, .long (Int32.toInt64 (y31.1.1 (31) (Int32.toNatClampNeg x1)))]) rfl rfl hl.1 rfl (lv_room (Nat.le_of_ble_eq_true rfl)) dX7_mayBe_84 ⟨Nat.zero_le _, Nat.zero_le _⟩) hW (fun H locs hW => ?_)
      refine lv_if_eq (tgt := 120) hx hb dX7_mayBe_87 (by decide) (fun hc34 => ?_) (fun hc34 => ?_)
      · replace hF := (if_pos hc34).symm.trans hF
        refine lv_iconst (v := 0) hx hb dX7_mayBe_120 (by decide) ?_
        exact r_zret hx hb hr hlocks hW rfl hF dX7_mayBe_121
      · replace hF := (if_neg hc34).symm.trans hF
        refine lv_aload_n hx hb dX7_mayBe_90 rfl (lv_at hl 0 rfl) ?_
        refine r_get (C := RX7) (T := TX7) (N := 39) hx hb htA ia_X7 hown hK hW (27) (tp_lt (by decide)) (cE_k (rfl : kd 27 = 9)) rfl 7 (by decide) (htA _ aw_357) rfl dX7_mayBe_91 ?_
        refine lv_iload_n hx hb dX7_mayBe_94 rfl (lv_at hl 1 rfl) ?_
        obtain ⟨hg35, hF⟩ := gd_some hF
        refine r_iald hx hb hK hW (33) (tp_lt (by decide)) (rfl : kd 33 = 3) hg35 dX7_mayBe_95 ?_
        refine lv_aload_n hx hb dX7_mayBe_96 rfl (lv_at hl 0 rfl) ?_
        refine r_get (C := RX7) (T := TX7) (N := 39) hx hb htA ia_X7 hown hK hW (27) (tp_lt (by decide)) (cE_k (rfl : kd 27 = 9)) rfl 4 (by decide) (htA _ aw_354) rfl dX7_mayBe_97 ?_
        refine lv_iload_n hx hb dX7_mayBe_100 rfl (lv_at hl 1 rfl) ?_
        obtain ⟨hg36, hF⟩ := gd_some hF
        refine r_iald hx hb hK hW (30) (tp_lt (by decide)) (rfl : kd 30 = 3) hg36 dX7_mayBe_101 ?_
        refine lv_aload_n hx hb dX7_mayBe_102 rfl (lv_at hl 0 rfl) ?_
        refine lv_bipush (v := 24) hx hb dX7_mayBe_103 (by decide) ?_
        obtain ⟨y37, hy37, hF⟩ := bd_some hF
        refine r_bi (va_runV (As := [.int 24]) (rest := [.int (y33.1.1 (30) (Int32.toNatClampNeg x1)), .int (y33.1.1 (33) (Int32.toNatClampNeg x1))]) ⟨hx, hb, hml, hown, htA⟩ (m_X7_at l G g ad n a0 aM y33.1 24 y37  hy37) (cwV 1 htA (gV aw_398 aw_399 aw_400 aw_382 gz_X7_at) rfl rfl rfl (by decide +kernel) ⟨Nat.le_of_ble_eq_true rfl, Nat.le_of_ble_eq_true rfl⟩) (r_preV hK hW (27) (tp_lt (by decide)) (cE_k (rfl : kd 27 = 9)) rfl [.int 24]) rfl rfl hl.1 rfl (lv_room (Nat.le_of_ble_eq_true rfl)) dX7_mayBe_105 ⟨Nat.zero_le _, Nat.zero_le _⟩) hW (fun H locs hW => ?_)
        refine lv_imul hx hb dX7_mayBe_108 ?_
        refine lv_iadd hx hb dX7_mayBe_109 ?_
        refine lv_sipush (v := 513) hx hb dX7_mayBe_110 (by decide) ?_
        refine lv_icmp_gt (tgt := 120) hx hb dX7_mayBe_113 (by decide) (fun hc38 => ?_) (fun hc38 => ?_)
        · replace hF := (if_pos hc38).symm.trans hF
          refine lv_iconst (v := 0) hx hb dX7_mayBe_120 (by decide) ?_
          exact r_zret hx hb hr hlocks hW rfl hF dX7_mayBe_121
        · replace hF := (if_neg hc38).symm.trans hF
          refine lv_iconst (v := 1) hx hb dX7_mayBe_116 (by decide) ?_
          refine lv_goto (tgt := 121) hx hb dX7_mayBe_117 (by decide) ?_
          exact r_zret hx hb hr hlocks hW rfl hF dX7_mayBe_121
  · replace hF := (if_pos hc20).symm.trans hF
    refine lv_iconst (v := 1) hx hb dX7_mayBe_7 (by decide) ?_
    refine lv_istore (lv' := [(4, .int 1), (0, .ref (ad (27))), (1, .int x1), (2, .int x2), (3, .int x3)]) hx hb dX7_mayBe_8 hl (by decide) rfl (fun ls hl => ?_)
    refine lv_iconst (v := 0) hx hb dX7_mayBe_10 (by decide) ?_
    refine lv_istore (lv' := [(5, .int 0), (4, .int 1), (0, .ref (ad (27))), (1, .int x1), (2, .int x2), (3, .int x3)]) hx hb dX7_mayBe_11 hl (by decide) rfl (fun ls hl => ?_)
    exact hL13 σ x3 1 0 _ _ _  hW (lv_sub hl [2, 5, 1, 0] rfl) hF
def F_X7_setLabel_L149 (σ : St) (u1 : Int32) : Option (St) := (F_X7_begin σ u1 1 49 130).bind (fun y22 => (F_X7_putTwo y22 3).bind (fun y23 => (F_X7_finish y23 u1).bind (fun y24 => some y24)))
def F_X7_setLabel_L114 (K149 : St → Int32 → Option (St)) : Nat → St → Int32 → Int32 → Int32 → Int32 → Option (St)
  | 0, _, _, _, _, _ => none
  | fz + 1, σ, u1, u3, u4, u5 => if u3 ≤ u5 then K149 σ u1 else gd (ib (24 + u5) (ln (46))) (gd (ib ((32 * u4) + u5) (ln (44))) (nm (sI σ (44) (Int32.toNatClampNeg ((32 * u4) + u5)) (vp_nar .byte (σ.1 (46) (Int32.toNatClampNeg (24 + u5))))) (fun w28 => (F_X7_setLabel_L114 K149 fz) w28 u1 u3 u4 (u5 + 1))))
def F_X7_setLabel_L48 (σ : St) : Option (St) := some σ
def F_X7_setLabel_L14 (K48 : St → Option (St)) : Nat → St → Int32 → Int32 → Int32 → Option (St)
  | 0, _, _, _, _ => none
  | fz + 1, σ, u1, u3, u4 => if u3 ≤ u4 then K48 σ else gd (ib (24 + u4) (ln (46))) (gd (ib ((32 * u1) + u4) (ln (37))) (nm (sI σ (37) (Int32.toNatClampNeg ((32 * u1) + u4)) (vp_nar .byte (σ.1 (46) (Int32.toNatClampNeg (24 + u4))))) (fun w32 => (F_X7_setLabel_L14 K48 fz) w32 u1 u3 (u4 + 1))))
def F_X7_setLabel (σ : St) (x1 : Int32) (x2 : Int32) (x3 : Int32) : Option (St) := if x2 = 0 then gd (ib x1 (ln (36))) (nm (sI σ (36) (Int32.toNatClampNeg x1) x3) (fun w46 => F_X7_setLabel_L14 F_X7_setLabel_L48 fu w46 x1 x3 0)) else gd (ib x1 (ln (41))) (if (σ.1 (41) (Int32.toNatClampNeg x1)) = 4 then (F_X7_refuse σ x1 1 7).bind (fun y44 => some y44) else gd (ib x1 (ln (41))) (gd (ib x1 (ln (41))) (gd (ib x1 (ln (41))) (nm (sI σ (41) (Int32.toNatClampNeg x1) ((σ.1 (41) (Int32.toNatClampNeg x1)) + 1)) (fun w39 => gd (ib ((4 * x1) + (σ.1 (41) (Int32.toNatClampNeg x1))) (ln (42))) (nm (sI w39 (42) (Int32.toNatClampNeg ((4 * x1) + (σ.1 (41) (Int32.toNatClampNeg x1)))) ((w39.1 (27) 21) + 3)) (fun w41 => gd (ib ((4 * x1) + (σ.1 (41) (Int32.toNatClampNeg x1))) (ln (43))) (nm (sI w41 (43) (Int32.toNatClampNeg ((4 * x1) + (σ.1 (41) (Int32.toNatClampNeg x1)))) x3) (fun w43 => F_X7_setLabel_L114 F_X7_setLabel_L149 fu w43 x1 x3 ((4 * x1) + (σ.1 (41) (Int32.toNatClampNeg x1))) 0)))))))))
set_option maxHeartbeats 4000000 in
set_option maxRecDepth 100000 in
theorem m_X7_setLabel (l : Launch) (G : va_G) (g : Nat → ClassId) (ad : Nat → Nat) (n a0 aM : Nat) (σ : St) (x1 : Int32) (x2 : Int32) (x3 : Int32) (x : St) (hF : F_X7_setLabel σ x1 x2 x3 = some x) : Met l yX7_setLabel zs_X7_setLabel ({ frames := 4, cells := 0, slots := 0, locals := 92 } : Room) (va_Pc [.ref (ad (27)), .int x1, .int x2, .int x3] (wP G g ad n a0 aM σ)) (qV G g ad n a0 x) 0 0 (fun q : Nat => a0 ≤ q) := by
  refine Met.ofW (cc := cX7_setLabel) (maxL := 6) (ret := none) (by decide) rfl ?_
  intro p e s m args below meth c s₁ B hml hv
  obtain ⟨rfl, hP, hD, hK⟩ := hv
  have hx := B.exec
  have hb := B.bytes
  have hr := B.returns
  have htA : ∀ w ∈ AL, w.before _ s = true := fun w h9 => atoms_spec (ws := zs_X7_setLabel) B.pre w (List.mem_cons_of_mem _ h9)
  have hown : s.vm.findClass RX7 = some m.cls := findClass_of_methodNamed B.named
  have hlocks := B.notSynchronized
  have hW : Wd G g ad n a0 s.heap σ s.heap [] := ⟨hP, hD, va_S.rf⟩
  clear hP hD
  have hL149 : ∀ (σ : St) (u1 : Int32) (H : Heap) (locs : List Loc) (ls : Array Slot), Wd G g ad n a0 s.heap σ H locs → lv_has ls 6 [(0, .ref (ad (27))), (1, .int u1)] → F_X7_setLabel_L149  σ u1 = some x → W p l e (headSpec zs_X7_setLabel ({ frames := 4, cells := 0, slots := 0, locals := 92 } : Room)).room s m ([.ref (ad (27)), .int x1, .int x2, .int x3] : List Value).toArray below meth c H locs 0 0 (MQ below (qV G g ad n a0 x) ([.ref (ad (27)), .int x1, .int x2, .int x3] : List Value).toArray s 0 0 (fun q : Nat => a0 ≤ q)) (F0 m 149 ls []) := by
    intro σ u1 H locs ls hW hl hF
    unfold F_X7_setLabel_L149 at hF
    refine lv_aload_n hx hb dX7_setLabel_149 rfl (lv_at hl 0 rfl) ?_
    refine lv_iload_n hx hb dX7_setLabel_150 rfl (lv_at hl 1 rfl) ?_
    refine lv_iconst (v := 1) hx hb dX7_setLabel_151 (by decide) ?_
    refine lv_bipush (v := 49) hx hb dX7_setLabel_152 (by decide) ?_
    refine lv_sipush (v := 130) hx hb dX7_setLabel_154 (by decide) ?_
    obtain ⟨y22, hy22, hF⟩ := bd_some hF
    refine r_bv (va_runV (As := [.int u1, .int 1, .int 49, .int 130]) (rest := []) ⟨hx, hb, hml, hown, htA⟩ (m_X7_begin l G g ad n a0 aM σ u1 1 49 130 y22  hy22) (cwV 4 htA (gV aw_443 aw_444 aw_445 aw_382 gz_X7_begin) rfl rfl rfl (by decide +kernel) ⟨Nat.le_of_ble_eq_true rfl, Nat.le_of_ble_eq_true rfl⟩) (r_preV hK hW (27) (tp_lt (by decide)) (cE_k (rfl : kd 27 = 9)) rfl [.int u1, .int 1, .int 49, .int 130]) rfl rfl hl.1 rfl (lv_room (Nat.le_of_ble_eq_true rfl)) dX7_setLabel_157 ⟨Nat.zero_le _, Nat.zero_le _⟩) hW (fun H locs hW => ?_)
    refine lv_aload_n hx hb dX7_setLabel_160 rfl (lv_at hl 0 rfl) ?_
    refine lv_iconst (v := 3) hx hb dX7_setLabel_161 (by decide) ?_
    obtain ⟨y23, hy23, hF⟩ := bd_some hF
    refine r_bv (va_runV (As := [.int 3]) (rest := []) ⟨hx, hb, hml, hown, htA⟩ (m_X7_putTwo l G g ad n a0 aM y22 3 y23  hy23) (cwV 1 htA (gV aw_427 aw_428 aw_429 aw_382 gz_X7_putTwo) rfl rfl rfl (by decide +kernel) ⟨Nat.le_of_ble_eq_true rfl, Nat.le_of_ble_eq_true rfl⟩) (r_preV hK hW (27) (tp_lt (by decide)) (cE_k (rfl : kd 27 = 9)) rfl [.int 3]) rfl rfl hl.1 rfl (lv_room (Nat.le_of_ble_eq_true rfl)) dX7_setLabel_162 ⟨Nat.zero_le _, Nat.zero_le _⟩) hW (fun H locs hW => ?_)
    refine lv_aload_n hx hb dX7_setLabel_165 rfl (lv_at hl 0 rfl) ?_
    refine lv_iload_n hx hb dX7_setLabel_166 rfl (lv_at hl 1 rfl) ?_
    obtain ⟨y24, hy24, hF⟩ := bd_some hF
    refine r_bv (va_runV (As := [.int u1]) (rest := []) ⟨hx, hb, hml, hown, htA⟩ (m_X7_finish l G g ad n a0 aM y23 u1 y24  hy24) (cwV 1 htA (gV aw_447 aw_448 aw_449 aw_382 gz_X7_finish) rfl rfl rfl (by decide +kernel) ⟨Nat.le_of_ble_eq_true rfl, Nat.le_of_ble_eq_true rfl⟩) (r_preV hK hW (27) (tp_lt (by decide)) (cE_k (rfl : kd 27 = 9)) rfl [.int u1]) rfl rfl hl.1 rfl (lv_room (Nat.le_of_ble_eq_true rfl)) dX7_setLabel_167 ⟨Nat.zero_le _, Nat.zero_le _⟩) hW (fun H locs hW => ?_)
    exact r_vret hx hb hr hlocks hW hF dX7_setLabel_170
  have hL114 : ∀ (fz114 : Nat) (σ : St) (u1 : Int32) (u3 : Int32) (u4 : Int32) (u5 : Int32) (H : Heap) (locs : List Loc) (ls : Array Slot), Wd G g ad n a0 s.heap σ H locs → lv_has ls 6 [(0, .ref (ad (27))), (1, .int u1), (3, .int u3), (4, .int u4), (5, .int u5)] → F_X7_setLabel_L114 (F_X7_setLabel_L149) fz114 σ u1 u3 u4 u5 = some x → W p l e (headSpec zs_X7_setLabel ({ frames := 4, cells := 0, slots := 0, locals := 92 } : Room)).room s m ([.ref (ad (27)), .int x1, .int x2, .int x3] : List Value).toArray below meth c H locs 0 0 (MQ below (qV G g ad n a0 x) ([.ref (ad (27)), .int x1, .int x2, .int x3] : List Value).toArray s 0 0 (fun q : Nat => a0 ≤ q)) (F0 m 114 ls []) := by
    intro fz114
    induction fz114 with
    | zero =>
      intro σ u1 u3 u4 u5 H locs ls hW hl hF
      exact absurd hF (by simp [F_X7_setLabel_L114])
    | succ fz114 ih =>
      have hB114 := ih
      intro σ u1 u3 u4 u5 H locs ls hW hl hF
      unfold F_X7_setLabel_L114 at hF
      refine lv_iload hx hb dX7_setLabel_114 (lv_at hl 4 rfl) ?_
      refine lv_iload_n hx hb dX7_setLabel_116 rfl (lv_at hl 2 rfl) ?_
      refine lv_icmp_ge (tgt := 149) hx hb dX7_setLabel_117 (by decide) (fun hc25 => ?_) (fun hc25 => ?_)
      · replace hF := (if_pos hc25).symm.trans hF
        exact hL149 σ u1 _ _ _  hW (lv_sub hl [0, 1] rfl) hF
      · replace hF := (if_neg hc25).symm.trans hF
        refine lv_aload_n hx hb dX7_setLabel_120 rfl (lv_at hl 0 rfl) ?_
        refine r_get (C := RX7) (T := TX7) (N := 39) hx hb htA ia_X7 hown hK hW (27) (tp_lt (by decide)) (cE_k (rfl : kd 27 = 9)) rfl 18 (by decide) (htA _ aw_369) rfl dX7_setLabel_121 ?_
        refine lv_bipush (v := 32) hx hb dX7_setLabel_124 (by decide) ?_
        refine lv_iload hx hb dX7_setLabel_126 (lv_at hl 3 rfl) ?_
        refine lv_imul hx hb dX7_setLabel_128 ?_
        refine lv_iload hx hb dX7_setLabel_129 (lv_at hl 4 rfl) ?_
        refine lv_iadd hx hb dX7_setLabel_131 ?_
        refine lv_aload_n hx hb dX7_setLabel_132 rfl (lv_at hl 0 rfl) ?_
        refine r_get (C := RX7) (T := TX7) (N := 39) hx hb htA ia_X7 hown hK hW (27) (tp_lt (by decide)) (cE_k (rfl : kd 27 = 9)) rfl 22 (by decide) (htA _ aw_371) rfl dX7_setLabel_133 ?_
        refine lv_bipush (v := 24) hx hb dX7_setLabel_136 (by decide) ?_
        refine lv_iload hx hb dX7_setLabel_138 (lv_at hl 4 rfl) ?_
        refine lv_iadd hx hb dX7_setLabel_140 ?_
        obtain ⟨hg26, hF⟩ := gd_some hF
        refine r_bald hx hb hK hW (46) (tp_lt (by decide)) (rfl : kd 46 = 10) hg26 dX7_setLabel_141 ?_
        obtain ⟨hg27, hF⟩ := gd_some hF
        refine r_bast hx hb hK hW (44) (tp_lt (by decide)) (rfl : kd 44 = 10) hg27 dX7_setLabel_142 (fun H locs hW => ?_)
        obtain ⟨w28, ew28, hF⟩ := nm_some hF
        rw [← ew28] at hW
        refine lv_iinc (v := (u5 + 1)) (lv' := [(5, .int (u5 + 1)), (0, .ref (ad (27))), (1, .int u1), (3, .int u3), (4, .int u4)]) hx hb dX7_setLabel_143 hl (k := 4) rfl rfl (by decide) rfl (fun ls hl => ?_)
        refine lv_goto (tgt := 114) hx hb dX7_setLabel_146 (by decide) ?_
        exact hB114 w28 u1 u3 u4 (u5 + 1) _ _ _  hW (lv_sub hl [1, 2, 3, 4, 0] rfl) hF
  have hL114 := hL114 fu
  have hL48 : ∀ (σ : St) (H : Heap) (locs : List Loc) (ls : Array Slot), Wd G g ad n a0 s.heap σ H locs → lv_has ls 6 [] → F_X7_setLabel_L48  σ = some x → W p l e (headSpec zs_X7_setLabel ({ frames := 4, cells := 0, slots := 0, locals := 92 } : Room)).room s m ([.ref (ad (27)), .int x1, .int x2, .int x3] : List Value).toArray below meth c H locs 0 0 (MQ below (qV G g ad n a0 x) ([.ref (ad (27)), .int x1, .int x2, .int x3] : List Value).toArray s 0 0 (fun q : Nat => a0 ≤ q)) (F0 m 48 ls []) := by
    intro σ H locs ls hW hl hF
    unfold F_X7_setLabel_L48 at hF
    exact r_vret hx hb hr hlocks hW hF dX7_setLabel_48
  have hL14 : ∀ (fz14 : Nat) (σ : St) (u1 : Int32) (u3 : Int32) (u4 : Int32) (H : Heap) (locs : List Loc) (ls : Array Slot), Wd G g ad n a0 s.heap σ H locs → lv_has ls 6 [(0, .ref (ad (27))), (1, .int u1), (3, .int u3), (4, .int u4)] → F_X7_setLabel_L14 (F_X7_setLabel_L48) fz14 σ u1 u3 u4 = some x → W p l e (headSpec zs_X7_setLabel ({ frames := 4, cells := 0, slots := 0, locals := 92 } : Room)).room s m ([.ref (ad (27)), .int x1, .int x2, .int x3] : List Value).toArray below meth c H locs 0 0 (MQ below (qV G g ad n a0 x) ([.ref (ad (27)), .int x1, .int x2, .int x3] : List Value).toArray s 0 0 (fun q : Nat => a0 ≤ q)) (F0 m 14 ls []) := by
    intro fz14
    induction fz14 with
    | zero =>
      intro σ u1 u3 u4 H locs ls hW hl hF
      exact absurd hF (by simp [F_X7_setLabel_L14])
    | succ fz14 ih =>
      have hB14 := ih
      intro σ u1 u3 u4 H locs ls hW hl hF
      unfold F_X7_setLabel_L14 at hF
      refine lv_iload hx hb dX7_setLabel_14 (lv_at hl 3 rfl) ?_
      refine lv_iload_n hx hb dX7_setLabel_16 rfl (lv_at hl 2 rfl) ?_
      refine lv_icmp_ge (tgt := 48) hx hb dX7_setLabel_17 (by decide) (fun hc29 => ?_) (fun hc29 => ?_)
      · replace hF := (if_pos hc29).symm.trans hF
        exact hL48 σ _ _ _  hW (lv_sub hl [] rfl) hF
      · replace hF := (if_neg hc29).symm.trans hF
        refine lv_aload_n hx hb dX7_setLabel_20 rfl (lv_at hl 0 rfl) ?_
        refine r_get (C := RX7) (T := TX7) (N := 39) hx hb htA ia_X7 hown hK hW (27) (tp_lt (by decide)) (cE_k (rfl : kd 27 = 9)) rfl 11 (by decide) (htA _ aw_362) rfl dX7_setLabel_21 ?_
        refine lv_bipush (v := 32) hx hb dX7_setLabel_24 (by decide) ?_
        refine lv_iload_n hx hb dX7_setLabel_26 rfl (lv_at hl 1 rfl) ?_
        refine lv_imul hx hb dX7_setLabel_27 ?_
        refine lv_iload hx hb dX7_setLabel_28 (lv_at hl 3 rfl) ?_
        refine lv_iadd hx hb dX7_setLabel_30 ?_
        refine lv_aload_n hx hb dX7_setLabel_31 rfl (lv_at hl 0 rfl) ?_
        refine r_get (C := RX7) (T := TX7) (N := 39) hx hb htA ia_X7 hown hK hW (27) (tp_lt (by decide)) (cE_k (rfl : kd 27 = 9)) rfl 22 (by decide) (htA _ aw_371) rfl dX7_setLabel_32 ?_
        refine lv_bipush (v := 24) hx hb dX7_setLabel_35 (by decide) ?_
        refine lv_iload hx hb dX7_setLabel_37 (lv_at hl 3 rfl) ?_
        refine lv_iadd hx hb dX7_setLabel_39 ?_
        obtain ⟨hg30, hF⟩ := gd_some hF
        refine r_bald hx hb hK hW (46) (tp_lt (by decide)) (rfl : kd 46 = 10) hg30 dX7_setLabel_40 ?_
        obtain ⟨hg31, hF⟩ := gd_some hF
        refine r_bast hx hb hK hW (37) (tp_lt (by decide)) (rfl : kd 37 = 10) hg31 dX7_setLabel_41 (fun H locs hW => ?_)
        obtain ⟨w32, ew32, hF⟩ := nm_some hF
        rw [← ew32] at hW
        refine lv_iinc (v := (u4 + 1)) (lv' := [(4, .int (u4 + 1)), (0, .ref (ad (27))), (1, .int u1), (3, .int u3)]) hx hb dX7_setLabel_42 hl (k := 3) rfl rfl (by decide) rfl (fun ls hl => ?_)
        refine lv_goto (tgt := 14) hx hb dX7_setLabel_45 (by decide) ?_
        exact hB14 w32 u1 u3 (u4 + 1) _ _ _  hW (lv_sub hl [1, 2, 3, 0] rfl) hF
  have hL14 := hL14 fu
  have hl := lv_entry ([.ref (ad (27)), .int x1, .int x2, .int x3]) (n := 6) (Nat.le_of_ble_eq_true rfl)
  rw [lg_entry_eq]
  generalize (lg_sl ([.ref (ad (27)), .int x1, .int x2, .int x3]) ++ List.replicate (6 - (lg_sl ([.ref (ad (27)), .int x1, .int x2, .int x3])).length) Slot.unset).toArray = ls at hl ⊢
  have hl : lv_has ls 6 [(0, .ref (ad (27))), (1, .int x1), (2, .int x2), (3, .int x3)] := hl
  unfold F_X7_setLabel at hF
  refine lv_iload_n hx hb dX7_setLabel_0 rfl (lv_at hl 2 rfl) ?_
  refine lv_if_ne (tgt := 49) hx hb dX7_setLabel_1 (by decide) (fun hc33 => ?_) (fun hc33 => ?_)
  · replace hF := (if_neg hc33).symm.trans hF
    refine lv_aload_n hx hb dX7_setLabel_49 rfl (lv_at hl 0 rfl) ?_
    refine r_get (C := RX7) (T := TX7) (N := 39) hx hb htA ia_X7 hown hK hW (27) (tp_lt (by decide)) (cE_k (rfl : kd 27 = 9)) rfl 15 (by decide) (htA _ aw_366) rfl dX7_setLabel_50 ?_
    refine lv_iload_n hx hb dX7_setLabel_53 rfl (lv_at hl 1 rfl) ?_
    obtain ⟨hg34, hF⟩ := gd_some hF
    refine r_iald hx hb hK hW (41) (tp_lt (by decide)) (rfl : kd 41 = 3) hg34 dX7_setLabel_54 ?_
    refine lv_iconst (v := 4) hx hb dX7_setLabel_55 (by decide) ?_
    refine lv_icmp_ne (tgt := 68) hx hb dX7_setLabel_56 (by decide) (fun hc35 => ?_) (fun hc35 => ?_)
    · replace hF := (if_neg hc35).symm.trans hF
      refine lv_iconst (v := 4) hx hb dX7_setLabel_68 (by decide) ?_
      refine lv_iload_n hx hb dX7_setLabel_69 rfl (lv_at hl 1 rfl) ?_
      refine lv_imul hx hb dX7_setLabel_70 ?_
      refine lv_aload_n hx hb dX7_setLabel_71 rfl (lv_at hl 0 rfl) ?_
      refine r_get (C := RX7) (T := TX7) (N := 39) hx hb htA ia_X7 hown hK hW (27) (tp_lt (by decide)) (cE_k (rfl : kd 27 = 9)) rfl 15 (by decide) (htA _ aw_366) rfl dX7_setLabel_72 ?_
      refine lv_iload_n hx hb dX7_setLabel_75 rfl (lv_at hl 1 rfl) ?_
      obtain ⟨hg36, hF⟩ := gd_some hF
      refine r_iald hx hb hK hW (41) (tp_lt (by decide)) (rfl : kd 41 = 3) hg36 dX7_setLabel_76 ?_
      refine lv_iadd hx hb dX7_setLabel_77 ?_
      refine lv_istore (lv' := [(4, .int ((4 * x1) + (σ.1 (41) (Int32.toNatClampNeg x1)))), (0, .ref (ad (27))), (1, .int x1), (2, .int x2), (3, .int x3)]) hx hb dX7_setLabel_78 hl (by decide) rfl (fun ls hl => ?_)
      refine lv_aload_n hx hb dX7_setLabel_80 rfl (lv_at hl 1 rfl) ?_
      refine r_get (C := RX7) (T := TX7) (N := 39) hx hb htA ia_X7 hown hK hW (27) (tp_lt (by decide)) (cE_k (rfl : kd 27 = 9)) rfl 15 (by decide) (htA _ aw_366) rfl dX7_setLabel_81 ?_
      refine lv_iload_n hx hb dX7_setLabel_84 rfl (lv_at hl 2 rfl) ?_
      refine lv_dup2_11 hx hb dX7_setLabel_85 rfl rfl ?_
      obtain ⟨hg37, hF⟩ := gd_some hF
      refine r_iald hx hb hK hW (41) (tp_lt (by decide)) (rfl : kd 41 = 3) hg37 dX7_setLabel_86 ?_
      refine lv_iconst (v := 1) hx hb dX7_setLabel_87 (by decide) ?_
      refine lv_iadd hx hb dX7_setLabel_88 ?_
      obtain ⟨hg38, hF⟩ := gd_some hF
      refine r_iast hx hb hK hW (41) (tp_lt (by decide)) (rfl : kd 41 = 3) hg38 dX7_setLabel_89 (fun H locs hW => ?_)
      obtain ⟨w39, ew39, hF⟩ := nm_some hF
      rw [← ew39] at hW
      refine lv_aload_n hx hb dX7_setLabel_90 rfl (lv_at hl 1 rfl) ?_
      refine r_get (C := RX7) (T := TX7) (N := 39) hx hb htA ia_X7 hown hK hW (27) (tp_lt (by decide)) (cE_k (rfl : kd 27 = 9)) rfl 16 (by decide) (htA _ aw_367) rfl dX7_setLabel_91 ?_
      refine lv_iload hx hb dX7_setLabel_94 (lv_at hl 0 rfl) ?_
      refine lv_aload_n hx hb dX7_setLabel_96 rfl (lv_at hl 1 rfl) ?_
      refine r_get (C := RX7) (T := TX7) (N := 39) hx hb htA ia_X7 hown hK hW (27) (tp_lt (by decide)) (cE_k (rfl : kd 27 = 9)) rfl 21 (by decide) (htA _ aw_403) rfl dX7_setLabel_97 ?_
      refine lv_iconst (v := 3) hx hb dX7_setLabel_100 (by decide) ?_
      refine lv_iadd hx hb dX7_setLabel_101 ?_
      obtain ⟨hg40, hF⟩ := gd_some hF
      refine r_iast hx hb hK hW (42) (tp_lt (by decide)) (rfl : kd 42 = 3) hg40 dX7_setLabel_102 (fun H locs hW => ?_)
      obtain ⟨w41, ew41, hF⟩ := nm_some hF
      rw [← ew41] at hW
      refine lv_aload_n hx hb dX7_setLabel_103 rfl (lv_at hl 1 rfl) ?_
      refine r_get (C := RX7) (T := TX7) (N := 39) hx hb htA ia_X7 hown hK hW (27) (tp_lt (by decide)) (cE_k (rfl : kd 27 = 9)) rfl 17 (by decide) (htA _ aw_368) rfl dX7_setLabel_104 ?_
      refine lv_iload hx hb dX7_setLabel_107 (lv_at hl 0 rfl) ?_
      refine lv_iload_n hx hb dX7_setLabel_109 rfl (lv_at hl 4 rfl) ?_
      obtain ⟨hg42, hF⟩ := gd_some hF
      refine r_iast hx hb hK hW (43) (tp_lt (by decide)) (rfl : kd 43 = 3) hg42 dX7_setLabel_110 (fun H locs hW => ?_)
      obtain ⟨w43, ew43, hF⟩ := nm_some hF
      rw [← ew43] at hW
      refine lv_iconst (v := 0) hx hb dX7_setLabel_111 (by decide) ?_
      refine lv_istore (lv' := [(5, .int 0), (4, .int ((4 * x1) + (σ.1 (41) (Int32.toNatClampNeg x1)))), (0, .ref (ad (27))), (1, .int x1), (2, .int x2), (3, .int x3)]) hx hb dX7_setLabel_112 hl (by decide) rfl (fun ls hl => ?_)
      exact hL114 w43 x1 x3 ((4 * x1) + (σ.1 (41) (Int32.toNatClampNeg x1))) 0 _ _ _  hW (lv_sub hl [2, 3, 5, 1, 0] rfl) hF
    · replace hF := (if_pos hc35).symm.trans hF
      refine lv_aload_n hx hb dX7_setLabel_59 rfl (lv_at hl 0 rfl) ?_
      refine lv_iload_n hx hb dX7_setLabel_60 rfl (lv_at hl 1 rfl) ?_
      refine lv_iconst (v := 1) hx hb dX7_setLabel_61 (by decide) ?_
      refine lv_bipush (v := 7) hx hb dX7_setLabel_62 (by decide) ?_
      obtain ⟨y44, hy44, hF⟩ := bd_some hF
      refine r_bv (va_runV (As := [.int x1, .int 1, .int 7]) (rest := []) ⟨hx, hb, hml, hown, htA⟩ (m_X7_refuse l G g ad n a0 aM σ x1 1 7 y44  hy44) (cwV 3 htA (gV aw_451 aw_452 aw_453 aw_382 gz_X7_refuse) rfl rfl rfl (by decide +kernel) ⟨Nat.le_of_ble_eq_true rfl, Nat.le_of_ble_eq_true rfl⟩) (r_preV hK hW (27) (tp_lt (by decide)) (cE_k (rfl : kd 27 = 9)) rfl [.int x1, .int 1, .int 7]) rfl rfl hl.1 rfl (lv_room (Nat.le_of_ble_eq_true rfl)) dX7_setLabel_64 ⟨Nat.zero_le _, Nat.zero_le _⟩) hW (fun H locs hW => ?_)
      exact r_vret hx hb hr hlocks hW hF dX7_setLabel_67
  · replace hF := (if_pos hc33).symm.trans hF
    refine lv_aload_n hx hb dX7_setLabel_4 rfl (lv_at hl 0 rfl) ?_
    refine r_get (C := RX7) (T := TX7) (N := 39) hx hb htA ia_X7 hown hK hW (27) (tp_lt (by decide)) (cE_k (rfl : kd 27 = 9)) rfl 10 (by decide) (htA _ aw_360) rfl dX7_setLabel_5 ?_
    refine lv_iload_n hx hb dX7_setLabel_8 rfl (lv_at hl 1 rfl) ?_
    refine lv_iload_n hx hb dX7_setLabel_9 rfl (lv_at hl 3 rfl) ?_
    obtain ⟨hg45, hF⟩ := gd_some hF
    refine r_iast hx hb hK hW (36) (tp_lt (by decide)) (rfl : kd 36 = 3) hg45 dX7_setLabel_10 (fun H locs hW => ?_)
    obtain ⟨w46, ew46, hF⟩ := nm_some hF
    rw [← ew46] at hW
    refine lv_iconst (v := 0) hx hb dX7_setLabel_11 (by decide) ?_
    refine lv_istore (lv' := [(4, .int 0), (0, .ref (ad (27))), (1, .int x1), (2, .int x2), (3, .int x3)]) hx hb dX7_setLabel_12 hl (by decide) rfl (fun ls hl => ?_)
    exact hL14 w46 x1 x3 0 _ _ _  hW (lv_sub hl [1, 2, 4, 0] rfl) hF
def F_X7_set_L247 (σ : St) (u1 : Int32) (u2 : Int32) (u3 : Int32) : Option (St) := if u2 = 0 then some σ else (F_X7_begin σ u1 0 49 u3).bind (fun y24 => (F_X7_finish y24 u1).bind (fun y25 => some y25))
def F_X7_set_L246 (σ : St) (u1 : Int32) (u2 : Int32) (u3 : Int32) (z0 : Int32) (z1 : Int32) : Option (St) := gd (ib z1 (ln (35))) (nm (sI σ (35) (Int32.toNatClampNeg z1) (vp_nar .boolean z0)) (fun w27 => F_X7_set_L247 w27 u1 u2 u3))
def F_X7_set_L142 (σ : St) (u1 : Int32) (u2 : Int32) (u3 : Int32) (u4 : Int32) : Option (St) := (F_X7_mayBe σ u1 u3 u4).bind (fun y28 => if y28.2 = 0 then (F_X7_refuse y28.1 u1 u2 6).bind (fun y42 => some y42) else if u3 = 130 then (F_X7_setLabel y28.1 u1 u2 u4).bind (fun y41 => some y41) else if u3 = 224 then (F_X7_at y28.1 24).bind (fun y38 => gd (ib u1 (ln (32))) (nm (sI y38.1 (32) (Int32.toNatClampNeg u1) y38.2) (fun w40 => F_X7_set_L247 w40 u1 u2 u3))) else if u3 = 240 then (F_X7_two y28.1 24).bind (fun y35 => gd (ib u1 (ln (33))) (nm (sI y35.1 (33) (Int32.toNatClampNeg u1) y35.2) (fun w37 => F_X7_set_L247 w37 u1 u2 u3))) else (F_X7_at y28.1 24).bind (fun y33 => if y33.2 = 1 then F_X7_set_L246 y33.1 u1 u2 u3 1 u1 else F_X7_set_L246 y33.1 u1 u2 u3 0 u1))
def F_X7_set_L132 (σ : St) (u1 : Int32) (u2 : Int32) : Option (St) := (F_X7_refuse σ u1 u2 1).bind (fun y43 => some y43)
def F_X7_set_L129 (σ : St) (u1 : Int32) (u2 : Int32) (u3 : Int32) (u4 : Int32) (z0 : Int32) (z1 : Int32) : Option (St) := if z1 = z0 then F_X7_set_L142 σ u1 u2 u3 u4 else F_X7_set_L132 σ u1 u2
def F_X7_set_L88 (σ : St) (u1 : Int32) (u2 : Int32) : Option (St) := (F_X7_refuse σ u1 u2 5).bind (fun y45 => some y45)
def F_X7_set_L46 (σ : St) (u1 : Int32) (u2 : Int32) (u3 : Int32) (u4 : Int32) : Option (St) := (F_X7_isMatter σ u3).bind (fun y46 => if y46.2 = 0 then (F_X7_refuse y46.1 u1 u2 0).bind (fun y55 => some y55) else if u3 = 80 then F_X7_set_L88 y46.1 u1 u2 else if u3 = 96 then F_X7_set_L88 y46.1 u1 u2 else if u3 = 128 then F_X7_set_L88 y46.1 u1 u2 else if u3 = 32 then F_X7_set_L88 y46.1 u1 u2 else if u3 = 130 then if u4 ≤ 32 then F_X7_set_L142 y46.1 u1 u2 u3 u4 else F_X7_set_L132 y46.1 u1 u2 else if u3 = 240 then F_X7_set_L129 y46.1 u1 u2 u3 u4 2 u4 else F_X7_set_L129 y46.1 u1 u2 u3 u4 1 u4)
def F_X7_set (σ : St) (x1 : Int32) (x2 : Int32) : Option (St) := (F_X7_two σ 21).bind (fun y56 => (F_X7_at y56.1 23).bind (fun y57 => (F_X7_two y57.1 18).bind (fun y58 => if y58.2 = 0 then F_X7_set_L46 y58.1 x1 x2 y56.2 y57.2 else if y58.2 = 65535 then F_X7_set_L46 y58.1 x1 x2 y56.2 y57.2 else (F_X7_refuse y58.1 x1 x2 9).bind (fun y61 => some y61))))
set_option maxHeartbeats 4000000 in
set_option maxRecDepth 100000 in
theorem m_X7_set (l : Launch) (G : va_G) (g : Nat → ClassId) (ad : Nat → Nat) (n a0 aM : Nat) (σ : St) (x1 : Int32) (x2 : Int32) (x : St) (hF : F_X7_set σ x1 x2 = some x) : Met l yX7_set zs_X7_set ({ frames := 5, cells := 0, slots := 0, locals := 117 } : Room) (va_Pc [.ref (ad (27)), .int x1, .int x2] (wP G g ad n a0 aM σ)) (qV G g ad n a0 x) 0 0 (fun q : Nat => a0 ≤ q) := by
  refine Met.ofW (cc := cX7_set) (maxL := 6) (ret := none) (by decide) rfl ?_
  intro p e s m args below meth c s₁ B hml hv
  obtain ⟨rfl, hP, hD, hK⟩ := hv
  have hx := B.exec
  have hb := B.bytes
  have hr := B.returns
  have htA : ∀ w ∈ AL, w.before _ s = true := fun w h9 => atoms_spec (ws := zs_X7_set) B.pre w (List.mem_cons_of_mem _ h9)
  have hown : s.vm.findClass RX7 = some m.cls := findClass_of_methodNamed B.named
  have hlocks := B.notSynchronized
  have hW : Wd G g ad n a0 s.heap σ s.heap [] := ⟨hP, hD, va_S.rf⟩
  clear hP hD
  have hL247 : ∀ (σ : St) (u1 : Int32) (u2 : Int32) (u3 : Int32) (H : Heap) (locs : List Loc) (ls : Array Slot), Wd G g ad n a0 s.heap σ H locs → lv_has ls 6 [(0, .ref (ad (27))), (1, .int u1), (2, .int u2), (3, .int u3)] → F_X7_set_L247  σ u1 u2 u3 = some x → W p l e (headSpec zs_X7_set ({ frames := 5, cells := 0, slots := 0, locals := 117 } : Room)).room s m ([.ref (ad (27)), .int x1, .int x2] : List Value).toArray below meth c H locs 0 0 (MQ below (qV G g ad n a0 x) ([.ref (ad (27)), .int x1, .int x2] : List Value).toArray s 0 0 (fun q : Nat => a0 ≤ q)) (F0 m 247 ls []) := by
    intro σ u1 u2 u3 H locs ls hW hl hF
    unfold F_X7_set_L247 at hF
    refine lv_iload_n hx hb dX7_set_247 rfl (lv_at hl 2 rfl) ?_
    refine lv_if_eq (tgt := 265) hx hb dX7_set_248 (by decide) (fun hc23 => ?_) (fun hc23 => ?_)
    · replace hF := (if_pos hc23).symm.trans hF
      exact r_vret hx hb hr hlocks hW hF dX7_set_265
    · replace hF := (if_neg hc23).symm.trans hF
      refine lv_aload_n hx hb dX7_set_251 rfl (lv_at hl 0 rfl) ?_
      refine lv_iload_n hx hb dX7_set_252 rfl (lv_at hl 1 rfl) ?_
      refine lv_iconst (v := 0) hx hb dX7_set_253 (by decide) ?_
      refine lv_bipush (v := 49) hx hb dX7_set_254 (by decide) ?_
      refine lv_iload_n hx hb dX7_set_256 rfl (lv_at hl 3 rfl) ?_
      obtain ⟨y24, hy24, hF⟩ := bd_some hF
      refine r_bv (va_runV (As := [.int u1, .int 0, .int 49, .int u3]) (rest := []) ⟨hx, hb, hml, hown, htA⟩ (m_X7_begin l G g ad n a0 aM σ u1 0 49 u3 y24  hy24) (cwV 4 htA (gV aw_443 aw_444 aw_445 aw_382 gz_X7_begin) rfl rfl rfl (by decide +kernel) ⟨Nat.le_of_ble_eq_true rfl, Nat.le_of_ble_eq_true rfl⟩) (r_preV hK hW (27) (tp_lt (by decide)) (cE_k (rfl : kd 27 = 9)) rfl [.int u1, .int 0, .int 49, .int u3]) rfl rfl hl.1 rfl (lv_room (Nat.le_of_ble_eq_true rfl)) dX7_set_257 ⟨Nat.zero_le _, Nat.zero_le _⟩) hW (fun H locs hW => ?_)
      refine lv_aload_n hx hb dX7_set_260 rfl (lv_at hl 0 rfl) ?_
      refine lv_iload_n hx hb dX7_set_261 rfl (lv_at hl 1 rfl) ?_
      obtain ⟨y25, hy25, hF⟩ := bd_some hF
      refine r_bv (va_runV (As := [.int u1]) (rest := []) ⟨hx, hb, hml, hown, htA⟩ (m_X7_finish l G g ad n a0 aM y24 u1 y25  hy25) (cwV 1 htA (gV aw_447 aw_448 aw_449 aw_382 gz_X7_finish) rfl rfl rfl (by decide +kernel) ⟨Nat.le_of_ble_eq_true rfl, Nat.le_of_ble_eq_true rfl⟩) (r_preV hK hW (27) (tp_lt (by decide)) (cE_k (rfl : kd 27 = 9)) rfl [.int u1]) rfl rfl hl.1 rfl (lv_room (Nat.le_of_ble_eq_true rfl)) dX7_set_262 ⟨Nat.zero_le _, Nat.zero_le _⟩) hW (fun H locs hW => ?_)
      exact r_vret hx hb hr hlocks hW hF dX7_set_265
  have hL246 : ∀ (σ : St) (u1 : Int32) (u2 : Int32) (u3 : Int32) (z0 : Int32) (z1 : Int32) (H : Heap) (locs : List Loc) (ls : Array Slot), Wd G g ad n a0 s.heap σ H locs → lv_has ls 6 [(0, .ref (ad (27))), (1, .int u1), (2, .int u2), (3, .int u3)] → F_X7_set_L246  σ u1 u2 u3 z0 z1 = some x → W p l e (headSpec zs_X7_set ({ frames := 5, cells := 0, slots := 0, locals := 117 } : Room)).room s m ([.ref (ad (27)), .int x1, .int x2] : List Value).toArray below meth c H locs 0 0 (MQ below (qV G g ad n a0 x) ([.ref (ad (27)), .int x1, .int x2] : List Value).toArray s 0 0 (fun q : Nat => a0 ≤ q)) (F0 m 246 ls [.int z0, .int z1, .ref (ad (35))]) := by
    intro σ u1 u2 u3 z0 z1 H locs ls hW hl hF
    unfold F_X7_set_L246 at hF
    obtain ⟨hg26, hF⟩ := gd_some hF
    refine r_zast hx hb hK hW (35) (tp_lt (by decide)) (rfl : kd 35 = 11) hg26 dX7_set_246 (fun H locs hW => ?_)
    obtain ⟨w27, ew27, hF⟩ := nm_some hF
    rw [← ew27] at hW
    exact hL247 w27 u1 u2 u3 _ _ _  hW (lv_sub hl [0, 1, 2, 3] rfl) hF
  have hL142 : ∀ (σ : St) (u1 : Int32) (u2 : Int32) (u3 : Int32) (u4 : Int32) (H : Heap) (locs : List Loc) (ls : Array Slot), Wd G g ad n a0 s.heap σ H locs → lv_has ls 6 [(0, .ref (ad (27))), (1, .int u1), (2, .int u2), (3, .int u3), (4, .int u4)] → F_X7_set_L142  σ u1 u2 u3 u4 = some x → W p l e (headSpec zs_X7_set ({ frames := 5, cells := 0, slots := 0, locals := 117 } : Room)).room s m ([.ref (ad (27)), .int x1, .int x2] : List Value).toArray below meth c H locs 0 0 (MQ below (qV G g ad n a0 x) ([.ref (ad (27)), .int x1, .int x2] : List Value).toArray s 0 0 (fun q : Nat => a0 ≤ q)) (F0 m 142 ls []) := by
    intro σ u1 u2 u3 u4 H locs ls hW hl hF
    unfold F_X7_set_L142 at hF
    refine lv_aload_n hx hb dX7_set_142 rfl (lv_at hl 0 rfl) ?_
    refine lv_iload_n hx hb dX7_set_143 rfl (lv_at hl 1 rfl) ?_
    refine lv_iload_n hx hb dX7_set_144 rfl (lv_at hl 3 rfl) ?_
    refine lv_iload hx hb dX7_set_145 (lv_at hl 4 rfl) ?_
    obtain ⟨y28, hy28, hF⟩ := bd_some hF
    refine r_bi (va_runV (As := [.int u1, .int u3, .int u4]) (rest := []) ⟨hx, hb, hml, hown, htA⟩ (m_X7_mayBe l G g ad n a0 aM σ u1 u3 u4 y28  hy28) (cwV 3 htA (gV aw_469 aw_470 aw_471 aw_382 gz_X7_mayBe) rfl rfl rfl (by decide +kernel) ⟨Nat.le_of_ble_eq_true rfl, Nat.le_of_ble_eq_true rfl⟩) (r_preV hK hW (27) (tp_lt (by decide)) (cE_k (rfl : kd 27 = 9)) rfl [.int u1, .int u3, .int u4]) rfl rfl hl.1 rfl (lv_room (Nat.le_of_ble_eq_true rfl)) dX7_set_147 ⟨Nat.zero_le _, Nat.zero_le _⟩) hW (fun H locs hW => ?_)
    refine lv_if_ne (tgt := 164) hx hb dX7_set_150 (by decide) (fun hc29 => ?_) (fun hc29 => ?_)
    · replace hF := (if_neg hc29).symm.trans hF
      refine lv_iload_n hx hb dX7_set_164 rfl (lv_at hl 3 rfl) ?_
      refine lv_sipush (v := 130) hx hb dX7_set_165 (by decide) ?_
      refine lv_icmp_ne (tgt := 182) hx hb dX7_set_168 (by decide) (fun hc30 => ?_) (fun hc30 => ?_)
      · replace hF := (if_neg hc30).symm.trans hF
        refine lv_iload_n hx hb dX7_set_182 rfl (lv_at hl 3 rfl) ?_
        refine lv_sipush (v := 224) hx hb dX7_set_183 (by decide) ?_
        refine lv_icmp_ne (tgt := 204) hx hb dX7_set_186 (by decide) (fun hc31 => ?_) (fun hc31 => ?_)
        · replace hF := (if_neg hc31).symm.trans hF
          refine lv_iload_n hx hb dX7_set_204 rfl (lv_at hl 3 rfl) ?_
          refine lv_sipush (v := 240) hx hb dX7_set_205 (by decide) ?_
          refine lv_icmp_ne (tgt := 226) hx hb dX7_set_208 (by decide) (fun hc32 => ?_) (fun hc32 => ?_)
          · replace hF := (if_neg hc32).symm.trans hF
            refine lv_aload_n hx hb dX7_set_226 rfl (lv_at hl 0 rfl) ?_
            refine r_get (C := RX7) (T := TX7) (N := 39) hx hb htA ia_X7 hown hK hW (27) (tp_lt (by decide)) (cE_k (rfl : kd 27 = 9)) rfl 9 (by decide) (htA _ aw_359) rfl dX7_set_227 ?_
            refine lv_iload_n hx hb dX7_set_230 rfl (lv_at hl 1 rfl) ?_
            refine lv_aload_n hx hb dX7_set_231 rfl (lv_at hl 0 rfl) ?_
            refine lv_bipush (v := 24) hx hb dX7_set_232 (by decide) ?_
            obtain ⟨y33, hy33, hF⟩ := bd_some hF
            refine r_bi (va_runV (As := [.int 24]) (rest := [.int u1, .ref (ad (35))]) ⟨hx, hb, hml, hown, htA⟩ (m_X7_at l G g ad n a0 aM y28.1 24 y33  hy33) (cwV 1 htA (gV aw_398 aw_399 aw_400 aw_382 gz_X7_at) rfl rfl rfl (by decide +kernel) ⟨Nat.le_of_ble_eq_true rfl, Nat.le_of_ble_eq_true rfl⟩) (r_preV hK hW (27) (tp_lt (by decide)) (cE_k (rfl : kd 27 = 9)) rfl [.int 24]) rfl rfl hl.1 rfl (lv_room (Nat.le_of_ble_eq_true rfl)) dX7_set_234 ⟨Nat.zero_le _, Nat.zero_le _⟩) hW (fun H locs hW => ?_)
            refine lv_iconst (v := 1) hx hb dX7_set_237 (by decide) ?_
            refine lv_icmp_ne (tgt := 245) hx hb dX7_set_238 (by decide) (fun hc34 => ?_) (fun hc34 => ?_)
            · replace hF := (if_neg hc34).symm.trans hF
              refine lv_iconst (v := 0) hx hb dX7_set_245 (by decide) ?_
              exact hL246 y33.1 u1 u2 u3 0 u1 _ _ _  hW (lv_sub hl [0, 1, 2, 3] rfl) hF
            · replace hF := (if_pos hc34).symm.trans hF
              refine lv_iconst (v := 1) hx hb dX7_set_241 (by decide) ?_
              refine lv_goto (tgt := 246) hx hb dX7_set_242 (by decide) ?_
              exact hL246 y33.1 u1 u2 u3 1 u1 _ _ _  hW (lv_sub hl [0, 1, 2, 3] rfl) hF
          · replace hF := (if_pos hc32).symm.trans hF
            refine lv_aload_n hx hb dX7_set_211 rfl (lv_at hl 0 rfl) ?_
            refine r_get (C := RX7) (T := TX7) (N := 39) hx hb htA ia_X7 hown hK hW (27) (tp_lt (by decide)) (cE_k (rfl : kd 27 = 9)) rfl 7 (by decide) (htA _ aw_357) rfl dX7_set_212 ?_
            refine lv_iload_n hx hb dX7_set_215 rfl (lv_at hl 1 rfl) ?_
            refine lv_aload_n hx hb dX7_set_216 rfl (lv_at hl 0 rfl) ?_
            refine lv_bipush (v := 24) hx hb dX7_set_217 (by decide) ?_
            obtain ⟨y35, hy35, hF⟩ := bd_some hF
            refine r_bi (va_runV (As := [.int 24]) (rest := [.int u1, .ref (ad (33))]) ⟨hx, hb, hml, hown, htA⟩ (m_X7_two l G g ad n a0 aM y28.1 24 y35  hy35) (cwV 1 htA (gV aw_410 aw_411 aw_412 aw_382 gz_X7_two) rfl rfl rfl (by decide +kernel) ⟨Nat.le_of_ble_eq_true rfl, Nat.le_of_ble_eq_true rfl⟩) (r_preV hK hW (27) (tp_lt (by decide)) (cE_k (rfl : kd 27 = 9)) rfl [.int 24]) rfl rfl hl.1 rfl (lv_room (Nat.le_of_ble_eq_true rfl)) dX7_set_219 ⟨Nat.zero_le _, Nat.zero_le _⟩) hW (fun H locs hW => ?_)
            obtain ⟨hg36, hF⟩ := gd_some hF
            refine r_iast hx hb hK hW (33) (tp_lt (by decide)) (rfl : kd 33 = 3) hg36 dX7_set_222 (fun H locs hW => ?_)
            obtain ⟨w37, ew37, hF⟩ := nm_some hF
            rw [← ew37] at hW
            refine lv_goto (tgt := 247) hx hb dX7_set_223 (by decide) ?_
            exact hL247 w37 u1 u2 u3 _ _ _  hW (lv_sub hl [0, 1, 2, 3] rfl) hF
        · replace hF := (if_pos hc31).symm.trans hF
          refine lv_aload_n hx hb dX7_set_189 rfl (lv_at hl 0 rfl) ?_
          refine r_get (C := RX7) (T := TX7) (N := 39) hx hb htA ia_X7 hown hK hW (27) (tp_lt (by decide)) (cE_k (rfl : kd 27 = 9)) rfl 6 (by decide) (htA _ aw_356) rfl dX7_set_190 ?_
          refine lv_iload_n hx hb dX7_set_193 rfl (lv_at hl 1 rfl) ?_
          refine lv_aload_n hx hb dX7_set_194 rfl (lv_at hl 0 rfl) ?_
          refine lv_bipush (v := 24) hx hb dX7_set_195 (by decide) ?_
          obtain ⟨y38, hy38, hF⟩ := bd_some hF
          refine r_bi (va_runV (As := [.int 24]) (rest := [.int u1, .ref (ad (32))]) ⟨hx, hb, hml, hown, htA⟩ (m_X7_at l G g ad n a0 aM y28.1 24 y38  hy38) (cwV 1 htA (gV aw_398 aw_399 aw_400 aw_382 gz_X7_at) rfl rfl rfl (by decide +kernel) ⟨Nat.le_of_ble_eq_true rfl, Nat.le_of_ble_eq_true rfl⟩) (r_preV hK hW (27) (tp_lt (by decide)) (cE_k (rfl : kd 27 = 9)) rfl [.int 24]) rfl rfl hl.1 rfl (lv_room (Nat.le_of_ble_eq_true rfl)) dX7_set_197 ⟨Nat.zero_le _, Nat.zero_le _⟩) hW (fun H locs hW => ?_)
          obtain ⟨hg39, hF⟩ := gd_some hF
          refine r_iast hx hb hK hW (32) (tp_lt (by decide)) (rfl : kd 32 = 3) hg39 dX7_set_200 (fun H locs hW => ?_)
          obtain ⟨w40, ew40, hF⟩ := nm_some hF
          rw [← ew40] at hW
          refine lv_goto (tgt := 247) hx hb dX7_set_201 (by decide) ?_
          exact hL247 w40 u1 u2 u3 _ _ _  hW (lv_sub hl [0, 1, 2, 3] rfl) hF
      · replace hF := (if_pos hc30).symm.trans hF
        refine lv_aload_n hx hb dX7_set_171 rfl (lv_at hl 0 rfl) ?_
        refine lv_iload_n hx hb dX7_set_172 rfl (lv_at hl 1 rfl) ?_
        refine lv_iload_n hx hb dX7_set_173 rfl (lv_at hl 2 rfl) ?_
        refine lv_iload hx hb dX7_set_174 (lv_at hl 4 rfl) ?_
        obtain ⟨y41, hy41, hF⟩ := bd_some hF
        refine r_bv (va_runV (As := [.int u1, .int u2, .int u4]) (rest := []) ⟨hx, hb, hml, hown, htA⟩ (m_X7_setLabel l G g ad n a0 aM y28.1 u1 u2 u4 y41  hy41) (cwV 3 htA (gV aw_473 aw_474 aw_475 aw_382 gz_X7_setLabel) rfl rfl rfl (by decide +kernel) ⟨Nat.le_of_ble_eq_true rfl, Nat.le_of_ble_eq_true rfl⟩) (r_preV hK hW (27) (tp_lt (by decide)) (cE_k (rfl : kd 27 = 9)) rfl [.int u1, .int u2, .int u4]) rfl rfl hl.1 rfl (lv_room (Nat.le_of_ble_eq_true rfl)) dX7_set_176 ⟨Nat.zero_le _, Nat.zero_le _⟩) hW (fun H locs hW => ?_)
        refine lv_goto (tgt := 265) hx hb dX7_set_179 (by decide) ?_
        exact r_vret hx hb hr hlocks hW hF dX7_set_265
    · replace hF := (if_pos hc29).symm.trans hF
      refine lv_aload_n hx hb dX7_set_153 rfl (lv_at hl 0 rfl) ?_
      refine lv_iload_n hx hb dX7_set_154 rfl (lv_at hl 1 rfl) ?_
      refine lv_iload_n hx hb dX7_set_155 rfl (lv_at hl 2 rfl) ?_
      refine lv_bipush (v := 6) hx hb dX7_set_156 (by decide) ?_
      obtain ⟨y42, hy42, hF⟩ := bd_some hF
      refine r_bv (va_runV (As := [.int u1, .int u2, .int 6]) (rest := []) ⟨hx, hb, hml, hown, htA⟩ (m_X7_refuse l G g ad n a0 aM y28.1 u1 u2 6 y42  hy42) (cwV 3 htA (gV aw_451 aw_452 aw_453 aw_382 gz_X7_refuse) rfl rfl rfl (by decide +kernel) ⟨Nat.le_of_ble_eq_true rfl, Nat.le_of_ble_eq_true rfl⟩) (r_preV hK hW (27) (tp_lt (by decide)) (cE_k (rfl : kd 27 = 9)) rfl [.int u1, .int u2, .int 6]) rfl rfl hl.1 rfl (lv_room (Nat.le_of_ble_eq_true rfl)) dX7_set_158 ⟨Nat.zero_le _, Nat.zero_le _⟩) hW (fun H locs hW => ?_)
      refine lv_goto (tgt := 265) hx hb dX7_set_161 (by decide) ?_
      exact r_vret hx hb hr hlocks hW hF dX7_set_265
  have hL132 : ∀ (σ : St) (u1 : Int32) (u2 : Int32) (H : Heap) (locs : List Loc) (ls : Array Slot), Wd G g ad n a0 s.heap σ H locs → lv_has ls 6 [(0, .ref (ad (27))), (1, .int u1), (2, .int u2)] → F_X7_set_L132  σ u1 u2 = some x → W p l e (headSpec zs_X7_set ({ frames := 5, cells := 0, slots := 0, locals := 117 } : Room)).room s m ([.ref (ad (27)), .int x1, .int x2] : List Value).toArray below meth c H locs 0 0 (MQ below (qV G g ad n a0 x) ([.ref (ad (27)), .int x1, .int x2] : List Value).toArray s 0 0 (fun q : Nat => a0 ≤ q)) (F0 m 132 ls []) := by
    intro σ u1 u2 H locs ls hW hl hF
    unfold F_X7_set_L132 at hF
    refine lv_aload_n hx hb dX7_set_132 rfl (lv_at hl 0 rfl) ?_
    refine lv_iload_n hx hb dX7_set_133 rfl (lv_at hl 1 rfl) ?_
    refine lv_iload_n hx hb dX7_set_134 rfl (lv_at hl 2 rfl) ?_
    refine lv_iconst (v := 1) hx hb dX7_set_135 (by decide) ?_
    obtain ⟨y43, hy43, hF⟩ := bd_some hF
    refine r_bv (va_runV (As := [.int u1, .int u2, .int 1]) (rest := []) ⟨hx, hb, hml, hown, htA⟩ (m_X7_refuse l G g ad n a0 aM σ u1 u2 1 y43  hy43) (cwV 3 htA (gV aw_451 aw_452 aw_453 aw_382 gz_X7_refuse) rfl rfl rfl (by decide +kernel) ⟨Nat.le_of_ble_eq_true rfl, Nat.le_of_ble_eq_true rfl⟩) (r_preV hK hW (27) (tp_lt (by decide)) (cE_k (rfl : kd 27 = 9)) rfl [.int u1, .int u2, .int 1]) rfl rfl hl.1 rfl (lv_room (Nat.le_of_ble_eq_true rfl)) dX7_set_136 ⟨Nat.zero_le _, Nat.zero_le _⟩) hW (fun H locs hW => ?_)
    refine lv_goto (tgt := 265) hx hb dX7_set_139 (by decide) ?_
    exact r_vret hx hb hr hlocks hW hF dX7_set_265
  have hL129 : ∀ (σ : St) (u1 : Int32) (u2 : Int32) (u3 : Int32) (u4 : Int32) (z0 : Int32) (z1 : Int32) (H : Heap) (locs : List Loc) (ls : Array Slot), Wd G g ad n a0 s.heap σ H locs → lv_has ls 6 [(0, .ref (ad (27))), (1, .int u1), (2, .int u2), (3, .int u3), (4, .int u4)] → F_X7_set_L129  σ u1 u2 u3 u4 z0 z1 = some x → W p l e (headSpec zs_X7_set ({ frames := 5, cells := 0, slots := 0, locals := 117 } : Room)).room s m ([.ref (ad (27)), .int x1, .int x2] : List Value).toArray below meth c H locs 0 0 (MQ below (qV G g ad n a0 x) ([.ref (ad (27)), .int x1, .int x2] : List Value).toArray s 0 0 (fun q : Nat => a0 ≤ q)) (F0 m 129 ls [.int z0, .int z1]) := by
    intro σ u1 u2 u3 u4 z0 z1 H locs ls hW hl hF
    unfold F_X7_set_L129 at hF
    refine lv_icmp_eq (tgt := 142) hx hb dX7_set_129 (by decide) (fun hc44 => ?_) (fun hc44 => ?_)
    · replace hF := (if_pos hc44).symm.trans hF
      exact hL142 σ u1 u2 u3 u4 _ _ _  hW (lv_sub hl [0, 1, 2, 3, 4] rfl) hF
    · replace hF := (if_neg hc44).symm.trans hF
      exact hL132 σ u1 u2 _ _ _  hW (lv_sub hl [0, 1, 2] rfl) hF
  have hL88 : ∀ (σ : St) (u1 : Int32) (u2 : Int32) (H : Heap) (locs : List Loc) (ls : Array Slot), Wd G g ad n a0 s.heap σ H locs → lv_has ls 6 [(0, .ref (ad (27))), (1, .int u1), (2, .int u2)] → F_X7_set_L88  σ u1 u2 = some x → W p l e (headSpec zs_X7_set ({ frames := 5, cells := 0, slots := 0, locals := 117 } : Room)).room s m ([.ref (ad (27)), .int x1, .int x2] : List Value).toArray below meth c H locs 0 0 (MQ below (qV G g ad n a0 x) ([.ref (ad (27)), .int x1, .int x2] : List Value).toArray s 0 0 (fun q : Nat => a0 ≤ q)) (F0 m 88 ls []) := by
    intro σ u1 u2 H locs ls hW hl hF
    unfold F_X7_set_L88 at hF
    refine lv_aload_n hx hb dX7_set_88 rfl (lv_at hl 0 rfl) ?_
    refine lv_iload_n hx hb dX7_set_89 rfl (lv_at hl 1 rfl) ?_
    refine lv_iload_n hx hb dX7_set_90 rfl (lv_at hl 2 rfl) ?_
    refine lv_iconst (v := 5) hx hb dX7_set_91 (by decide) ?_
    obtain ⟨y45, hy45, hF⟩ := bd_some hF
    refine r_bv (va_runV (As := [.int u1, .int u2, .int 5]) (rest := []) ⟨hx, hb, hml, hown, htA⟩ (m_X7_refuse l G g ad n a0 aM σ u1 u2 5 y45  hy45) (cwV 3 htA (gV aw_451 aw_452 aw_453 aw_382 gz_X7_refuse) rfl rfl rfl (by decide +kernel) ⟨Nat.le_of_ble_eq_true rfl, Nat.le_of_ble_eq_true rfl⟩) (r_preV hK hW (27) (tp_lt (by decide)) (cE_k (rfl : kd 27 = 9)) rfl [.int u1, .int u2, .int 5]) rfl rfl hl.1 rfl (lv_room (Nat.le_of_ble_eq_true rfl)) dX7_set_92 ⟨Nat.zero_le _, Nat.zero_le _⟩) hW (fun H locs hW => ?_)
    refine lv_goto (tgt := 265) hx hb dX7_set_95 (by decide) ?_
    exact r_vret hx hb hr hlocks hW hF dX7_set_265
  have hL46 : ∀ (σ : St) (u1 : Int32) (u2 : Int32) (u3 : Int32) (u4 : Int32) (H : Heap) (locs : List Loc) (ls : Array Slot), Wd G g ad n a0 s.heap σ H locs → lv_has ls 6 [(0, .ref (ad (27))), (1, .int u1), (2, .int u2), (3, .int u3), (4, .int u4)] → F_X7_set_L46  σ u1 u2 u3 u4 = some x → W p l e (headSpec zs_X7_set ({ frames := 5, cells := 0, slots := 0, locals := 117 } : Room)).room s m ([.ref (ad (27)), .int x1, .int x2] : List Value).toArray below meth c H locs 0 0 (MQ below (qV G g ad n a0 x) ([.ref (ad (27)), .int x1, .int x2] : List Value).toArray s 0 0 (fun q : Nat => a0 ≤ q)) (F0 m 46 ls []) := by
    intro σ u1 u2 u3 u4 H locs ls hW hl hF
    unfold F_X7_set_L46 at hF
    refine lv_iload_n hx hb dX7_set_46 rfl (lv_at hl 3 rfl) ?_
    obtain ⟨y46, hy46, hF⟩ := bd_some hF
    refine r_bi (va_runS (As := [.int u3]) (rest := []) ⟨hx, hb, hml, hown, htA⟩ (m_X7_isMatter l G g ad n a0 aM σ u3 y46  hy46) (va_cwS 1 htA (gS aw_455 aw_456 aw_382 gz_X7_isMatter) rfl rfl rfl (by decide +kernel) ⟨Nat.le_of_ble_eq_true rfl, Nat.le_of_ble_eq_true rfl⟩) (r_pre hK hW [.int u3]) rfl rfl hl.1 rfl (lv_room (Nat.le_of_ble_eq_true rfl)) dX7_set_47 ⟨Nat.zero_le _, Nat.zero_le _⟩) hW (fun H locs hW => ?_)
    refine lv_if_ne (tgt := 63) hx hb dX7_set_50 (by decide) (fun hc47 => ?_) (fun hc47 => ?_)
    · replace hF := (if_neg hc47).symm.trans hF
      refine lv_iload_n hx hb dX7_set_63 rfl (lv_at hl 3 rfl) ?_
      refine lv_bipush (v := 80) hx hb dX7_set_64 (by decide) ?_
      refine lv_icmp_eq (tgt := 88) hx hb dX7_set_66 (by decide) (fun hc48 => ?_) (fun hc48 => ?_)
      · replace hF := (if_pos hc48).symm.trans hF
        exact hL88 y46.1 u1 u2 _ _ _  hW (lv_sub hl [0, 1, 2] rfl) hF
      · replace hF := (if_neg hc48).symm.trans hF
        refine lv_iload_n hx hb dX7_set_69 rfl (lv_at hl 3 rfl) ?_
        refine lv_bipush (v := 96) hx hb dX7_set_70 (by decide) ?_
        refine lv_icmp_eq (tgt := 88) hx hb dX7_set_72 (by decide) (fun hc49 => ?_) (fun hc49 => ?_)
        · replace hF := (if_pos hc49).symm.trans hF
          exact hL88 y46.1 u1 u2 _ _ _  hW (lv_sub hl [0, 1, 2] rfl) hF
        · replace hF := (if_neg hc49).symm.trans hF
          refine lv_iload_n hx hb dX7_set_75 rfl (lv_at hl 3 rfl) ?_
          refine lv_sipush (v := 128) hx hb dX7_set_76 (by decide) ?_
          refine lv_icmp_eq (tgt := 88) hx hb dX7_set_79 (by decide) (fun hc50 => ?_) (fun hc50 => ?_)
          · replace hF := (if_pos hc50).symm.trans hF
            exact hL88 y46.1 u1 u2 _ _ _  hW (lv_sub hl [0, 1, 2] rfl) hF
          · replace hF := (if_neg hc50).symm.trans hF
            refine lv_iload_n hx hb dX7_set_82 rfl (lv_at hl 3 rfl) ?_
            refine lv_bipush (v := 32) hx hb dX7_set_83 (by decide) ?_
            refine lv_icmp_ne (tgt := 98) hx hb dX7_set_85 (by decide) (fun hc51 => ?_) (fun hc51 => ?_)
            · replace hF := (if_neg hc51).symm.trans hF
              refine lv_iload_n hx hb dX7_set_98 rfl (lv_at hl 3 rfl) ?_
              refine lv_sipush (v := 130) hx hb dX7_set_99 (by decide) ?_
              refine lv_icmp_ne (tgt := 115) hx hb dX7_set_102 (by decide) (fun hc52 => ?_) (fun hc52 => ?_)
              · replace hF := (if_neg hc52).symm.trans hF
                refine lv_iload hx hb dX7_set_115 (lv_at hl 4 rfl) ?_
                refine lv_iload_n hx hb dX7_set_117 rfl (lv_at hl 3 rfl) ?_
                refine lv_sipush (v := 240) hx hb dX7_set_118 (by decide) ?_
                refine lv_icmp_ne (tgt := 128) hx hb dX7_set_121 (by decide) (fun hc53 => ?_) (fun hc53 => ?_)
                · replace hF := (if_neg hc53).symm.trans hF
                  refine lv_iconst (v := 1) hx hb dX7_set_128 (by decide) ?_
                  exact hL129 y46.1 u1 u2 u3 u4 1 u4 _ _ _  hW (lv_sub hl [0, 1, 2, 3, 4] rfl) hF
                · replace hF := (if_pos hc53).symm.trans hF
                  refine lv_iconst (v := 2) hx hb dX7_set_124 (by decide) ?_
                  refine lv_goto (tgt := 129) hx hb dX7_set_125 (by decide) ?_
                  exact hL129 y46.1 u1 u2 u3 u4 2 u4 _ _ _  hW (lv_sub hl [0, 1, 2, 3, 4] rfl) hF
              · replace hF := (if_pos hc52).symm.trans hF
                refine lv_iload hx hb dX7_set_105 (lv_at hl 4 rfl) ?_
                refine lv_bipush (v := 32) hx hb dX7_set_107 (by decide) ?_
                refine lv_icmp_le (tgt := 142) hx hb dX7_set_109 (by decide) (fun hc54 => ?_) (fun hc54 => ?_)
                · replace hF := (if_pos hc54).symm.trans hF
                  exact hL142 y46.1 u1 u2 u3 u4 _ _ _  hW (lv_sub hl [0, 1, 2, 3, 4] rfl) hF
                · replace hF := (if_neg hc54).symm.trans hF
                  refine lv_goto (tgt := 132) hx hb dX7_set_112 (by decide) ?_
                  exact hL132 y46.1 u1 u2 _ _ _  hW (lv_sub hl [0, 1, 2] rfl) hF
            · replace hF := (if_pos hc51).symm.trans hF
              exact hL88 y46.1 u1 u2 _ _ _  hW (lv_sub hl [0, 1, 2] rfl) hF
    · replace hF := (if_pos hc47).symm.trans hF
      refine lv_aload_n hx hb dX7_set_53 rfl (lv_at hl 0 rfl) ?_
      refine lv_iload_n hx hb dX7_set_54 rfl (lv_at hl 1 rfl) ?_
      refine lv_iload_n hx hb dX7_set_55 rfl (lv_at hl 2 rfl) ?_
      refine lv_iconst (v := 0) hx hb dX7_set_56 (by decide) ?_
      obtain ⟨y55, hy55, hF⟩ := bd_some hF
      refine r_bv (va_runV (As := [.int u1, .int u2, .int 0]) (rest := []) ⟨hx, hb, hml, hown, htA⟩ (m_X7_refuse l G g ad n a0 aM y46.1 u1 u2 0 y55  hy55) (cwV 3 htA (gV aw_451 aw_452 aw_453 aw_382 gz_X7_refuse) rfl rfl rfl (by decide +kernel) ⟨Nat.le_of_ble_eq_true rfl, Nat.le_of_ble_eq_true rfl⟩) (r_preV hK hW (27) (tp_lt (by decide)) (cE_k (rfl : kd 27 = 9)) rfl [.int u1, .int u2, .int 0]) rfl rfl hl.1 rfl (lv_room (Nat.le_of_ble_eq_true rfl)) dX7_set_57 ⟨Nat.zero_le _, Nat.zero_le _⟩) hW (fun H locs hW => ?_)
      refine lv_goto (tgt := 265) hx hb dX7_set_60 (by decide) ?_
      exact r_vret hx hb hr hlocks hW hF dX7_set_265
  have hl := lv_entry ([.ref (ad (27)), .int x1, .int x2]) (n := 6) (Nat.le_of_ble_eq_true rfl)
  rw [lg_entry_eq]
  generalize (lg_sl ([.ref (ad (27)), .int x1, .int x2]) ++ List.replicate (6 - (lg_sl ([.ref (ad (27)), .int x1, .int x2])).length) Slot.unset).toArray = ls at hl ⊢
  have hl : lv_has ls 6 [(0, .ref (ad (27))), (1, .int x1), (2, .int x2)] := hl
  unfold F_X7_set at hF
  refine lv_aload_n hx hb dX7_set_0 rfl (lv_at hl 0 rfl) ?_
  refine lv_bipush (v := 21) hx hb dX7_set_1 (by decide) ?_
  obtain ⟨y56, hy56, hF⟩ := bd_some hF
  refine r_bi (va_runV (As := [.int 21]) (rest := []) ⟨hx, hb, hml, hown, htA⟩ (m_X7_two l G g ad n a0 aM σ 21 y56  hy56) (cwV 1 htA (gV aw_410 aw_411 aw_412 aw_382 gz_X7_two) rfl rfl rfl (by decide +kernel) ⟨Nat.le_of_ble_eq_true rfl, Nat.le_of_ble_eq_true rfl⟩) (r_preV hK hW (27) (tp_lt (by decide)) (cE_k (rfl : kd 27 = 9)) rfl [.int 21]) rfl rfl hl.1 rfl (lv_room (Nat.le_of_ble_eq_true rfl)) dX7_set_3 ⟨Nat.zero_le _, Nat.zero_le _⟩) hW (fun H locs hW => ?_)
  refine lv_istore_n (lv' := [(3, .int y56.2), (0, .ref (ad (27))), (1, .int x1), (2, .int x2)]) hx hb dX7_set_6 rfl hl (by decide) rfl (fun ls hl => ?_)
  refine lv_aload_n hx hb dX7_set_7 rfl (lv_at hl 1 rfl) ?_
  refine lv_bipush (v := 23) hx hb dX7_set_8 (by decide) ?_
  obtain ⟨y57, hy57, hF⟩ := bd_some hF
  refine r_bi (va_runV (As := [.int 23]) (rest := []) ⟨hx, hb, hml, hown, htA⟩ (m_X7_at l G g ad n a0 aM y56.1 23 y57  hy57) (cwV 1 htA (gV aw_398 aw_399 aw_400 aw_382 gz_X7_at) rfl rfl rfl (by decide +kernel) ⟨Nat.le_of_ble_eq_true rfl, Nat.le_of_ble_eq_true rfl⟩) (r_preV hK hW (27) (tp_lt (by decide)) (cE_k (rfl : kd 27 = 9)) rfl [.int 23]) rfl rfl hl.1 rfl (lv_room (Nat.le_of_ble_eq_true rfl)) dX7_set_10 ⟨Nat.zero_le _, Nat.zero_le _⟩) hW (fun H locs hW => ?_)
  refine lv_istore (lv' := [(4, .int y57.2), (3, .int y56.2), (0, .ref (ad (27))), (1, .int x1), (2, .int x2)]) hx hb dX7_set_13 hl (by decide) rfl (fun ls hl => ?_)
  refine lv_aload_n hx hb dX7_set_15 rfl (lv_at hl 2 rfl) ?_
  refine lv_bipush (v := 18) hx hb dX7_set_16 (by decide) ?_
  obtain ⟨y58, hy58, hF⟩ := bd_some hF
  refine r_bi (va_runV (As := [.int 18]) (rest := []) ⟨hx, hb, hml, hown, htA⟩ (m_X7_two l G g ad n a0 aM y57.1 18 y58  hy58) (cwV 1 htA (gV aw_410 aw_411 aw_412 aw_382 gz_X7_two) rfl rfl rfl (by decide +kernel) ⟨Nat.le_of_ble_eq_true rfl, Nat.le_of_ble_eq_true rfl⟩) (r_preV hK hW (27) (tp_lt (by decide)) (cE_k (rfl : kd 27 = 9)) rfl [.int 18]) rfl rfl hl.1 rfl (lv_room (Nat.le_of_ble_eq_true rfl)) dX7_set_18 ⟨Nat.zero_le _, Nat.zero_le _⟩) hW (fun H locs hW => ?_)
  refine lv_istore (lv' := [(5, .int y58.2), (4, .int y57.2), (3, .int y56.2), (0, .ref (ad (27))), (1, .int x1), (2, .int x2)]) hx hb dX7_set_21 hl (by decide) rfl (fun ls hl => ?_)
  refine lv_iload hx hb dX7_set_23 (lv_at hl 0 rfl) ?_
  refine lv_if_eq (tgt := 46) hx hb dX7_set_25 (by decide) (fun hc59 => ?_) (fun hc59 => ?_)
  · replace hF := (if_pos hc59).symm.trans hF
    exact hL46 y58.1 x1 x2 y56.2 y57.2 _ _ _  hW (lv_sub hl [3, 4, 5, 2, 1] rfl) hF
  · replace hF := (if_neg hc59).symm.trans hF
    refine lv_iload hx hb dX7_set_28 (lv_at hl 0 rfl) ?_
    refine lv_ldc (v := 65535) hx hb hown (htA _ aw_468) dX7_set_30 ?_
    refine lv_icmp_eq (tgt := 46) hx hb dX7_set_32 (by decide) (fun hc60 => ?_) (fun hc60 => ?_)
    · replace hF := (if_pos hc60).symm.trans hF
      exact hL46 y58.1 x1 x2 y56.2 y57.2 _ _ _  hW (lv_sub hl [3, 4, 5, 2, 1] rfl) hF
    · replace hF := (if_neg hc60).symm.trans hF
      refine lv_aload_n hx hb dX7_set_35 rfl (lv_at hl 3 rfl) ?_
      refine lv_iload_n hx hb dX7_set_36 rfl (lv_at hl 4 rfl) ?_
      refine lv_iload_n hx hb dX7_set_37 rfl (lv_at hl 5 rfl) ?_
      refine lv_bipush (v := 9) hx hb dX7_set_38 (by decide) ?_
      obtain ⟨y61, hy61, hF⟩ := bd_some hF
      refine r_bv (va_runV (As := [.int x1, .int x2, .int 9]) (rest := []) ⟨hx, hb, hml, hown, htA⟩ (m_X7_refuse l G g ad n a0 aM y58.1 x1 x2 9 y61  hy61) (cwV 3 htA (gV aw_451 aw_452 aw_453 aw_382 gz_X7_refuse) rfl rfl rfl (by decide +kernel) ⟨Nat.le_of_ble_eq_true rfl, Nat.le_of_ble_eq_true rfl⟩) (r_preV hK hW (27) (tp_lt (by decide)) (cE_k (rfl : kd 27 = 9)) rfl [.int x1, .int x2, .int 9]) rfl rfl hl.1 rfl (lv_room (Nat.le_of_ble_eq_true rfl)) dX7_set_40 ⟨Nat.zero_le _, Nat.zero_le _⟩) hW (fun H locs hW => ?_)
      refine lv_goto (tgt := 265) hx hb dX7_set_43 (by decide) ?_
      exact r_vret hx hb hr hlocks hW hF dX7_set_265
def F_X7_hear_L97 (σ : St) (u1 : Int32) (u2 : Int32) (z0 : Int32) (z1 : Int32) : Option (St) := gd (ib z1 (ln (38))) (nm (sI σ (38) (Int32.toNatClampNeg z1) z0) (fun w13 => (F_X7_set w13 u1 u2).bind (fun y14 => some y14)))
def F_X7_hear (σ : St) (x1 : Int32) (x2 : Int32) : Option (St) := (F_X7_at σ 20).bind (fun y15 => if y15.2 = 16 then (F_X7_hearSearch y15.1 x1 x2).bind (fun y16 => some y16) else if y15.2 = 32 then if x2 = 0 then some y15.1 else gd (ib x1 (ln (38))) (gd (ib x1 (ln (38))) (nm (sI y15.1 (38) (Int32.toNatClampNeg x1) ((y15.1.1 (38) (Int32.toNatClampNeg x1)) + 1)) (fun w20 => (F_X7_get w20 x1).bind (fun y21 => some y21)))) else if y15.2 = 48 then if x2 = 0 then gd (ib x1 (ln (38))) (F_X7_hear_L97 y15.1 x1 x2 (y15.1.1 (38) (Int32.toNatClampNeg x1)) x1) else gd (ib x1 (ln (38))) (F_X7_hear_L97 y15.1 x1 x2 ((y15.1.1 (38) (Int32.toNatClampNeg x1)) + 1) x1) else some y15.1)
set_option maxHeartbeats 4000000 in
set_option maxRecDepth 100000 in
theorem m_X7_hear (l : Launch) (G : va_G) (g : Nat → ClassId) (ad : Nat → Nat) (n a0 aM : Nat) (σ : St) (x1 : Int32) (x2 : Int32) (x : St) (hF : F_X7_hear σ x1 x2 = some x) : Met l yX7_hear zs_X7_hear ({ frames := 6, cells := 0, slots := 0, locals := 142 } : Room) (va_Pc [.ref (ad (27)), .int x1, .int x2] (wP G g ad n a0 aM σ)) (qV G g ad n a0 x) 0 0 (fun q : Nat => a0 ≤ q) := by
  refine Met.ofW (cc := cX7_hear) (maxL := 3) (ret := none) (by decide) rfl ?_
  intro p e s m args below meth c s₁ B hml hv
  obtain ⟨rfl, hP, hD, hK⟩ := hv
  have hx := B.exec
  have hb := B.bytes
  have hr := B.returns
  have htA : ∀ w ∈ AL, w.before _ s = true := fun w h9 => atoms_spec (ws := zs_X7_hear) B.pre w (List.mem_cons_of_mem _ h9)
  have hown : s.vm.findClass RX7 = some m.cls := findClass_of_methodNamed B.named
  have hlocks := B.notSynchronized
  have hW : Wd G g ad n a0 s.heap σ s.heap [] := ⟨hP, hD, va_S.rf⟩
  clear hP hD
  have hL97 : ∀ (σ : St) (u1 : Int32) (u2 : Int32) (z0 : Int32) (z1 : Int32) (H : Heap) (locs : List Loc) (ls : Array Slot), Wd G g ad n a0 s.heap σ H locs → lv_has ls 3 [(0, .ref (ad (27))), (1, .int u1), (2, .int u2)] → F_X7_hear_L97  σ u1 u2 z0 z1 = some x → W p l e (headSpec zs_X7_hear ({ frames := 6, cells := 0, slots := 0, locals := 142 } : Room)).room s m ([.ref (ad (27)), .int x1, .int x2] : List Value).toArray below meth c H locs 0 0 (MQ below (qV G g ad n a0 x) ([.ref (ad (27)), .int x1, .int x2] : List Value).toArray s 0 0 (fun q : Nat => a0 ≤ q)) (F0 m 97 ls [.int z0, .int z1, .ref (ad (38))]) := by
    intro σ u1 u2 z0 z1 H locs ls hW hl hF
    unfold F_X7_hear_L97 at hF
    obtain ⟨hg12, hF⟩ := gd_some hF
    refine r_iast hx hb hK hW (38) (tp_lt (by decide)) (rfl : kd 38 = 3) hg12 dX7_hear_97 (fun H locs hW => ?_)
    obtain ⟨w13, ew13, hF⟩ := nm_some hF
    rw [← ew13] at hW
    refine lv_aload_n hx hb dX7_hear_98 rfl (lv_at hl 0 rfl) ?_
    refine lv_iload_n hx hb dX7_hear_99 rfl (lv_at hl 1 rfl) ?_
    refine lv_iload_n hx hb dX7_hear_100 rfl (lv_at hl 2 rfl) ?_
    obtain ⟨y14, hy14, hF⟩ := bd_some hF
    refine r_bv (va_runV (As := [.int u1, .int u2]) (rest := []) ⟨hx, hb, hml, hown, htA⟩ (m_X7_set l G g ad n a0 aM w13 u1 u2 y14  hy14) (cwV 2 htA (gV aw_485 aw_486 aw_487 aw_382 gz_X7_set) rfl rfl rfl (by decide +kernel) ⟨Nat.le_of_ble_eq_true rfl, Nat.le_of_ble_eq_true rfl⟩) (r_preV hK hW (27) (tp_lt (by decide)) (cE_k (rfl : kd 27 = 9)) rfl [.int u1, .int u2]) rfl rfl hl.1 rfl (lv_room (Nat.le_of_ble_eq_true rfl)) dX7_hear_101 ⟨Nat.zero_le _, Nat.zero_le _⟩) hW (fun H locs hW => ?_)
    refine lv_goto (tgt := 107) hx hb dX7_hear_104 (by decide) ?_
    exact r_vret hx hb hr hlocks hW hF dX7_hear_107
  have hl := lv_entry ([.ref (ad (27)), .int x1, .int x2]) (n := 3) (Nat.le_of_ble_eq_true rfl)
  rw [lg_entry_eq]
  generalize (lg_sl ([.ref (ad (27)), .int x1, .int x2]) ++ List.replicate (3 - (lg_sl ([.ref (ad (27)), .int x1, .int x2])).length) Slot.unset).toArray = ls at hl ⊢
  have hl : lv_has ls 3 [(0, .ref (ad (27))), (1, .int x1), (2, .int x2)] := hl
  unfold F_X7_hear at hF
  refine lv_aload_n hx hb dX7_hear_0 rfl (lv_at hl 0 rfl) ?_
  refine lv_bipush (v := 20) hx hb dX7_hear_1 (by decide) ?_
  obtain ⟨y15, hy15, hF⟩ := bd_some hF
  refine r_bi (va_runV (As := [.int 20]) (rest := []) ⟨hx, hb, hml, hown, htA⟩ (m_X7_at l G g ad n a0 aM σ 20 y15  hy15) (cwV 1 htA (gV aw_398 aw_399 aw_400 aw_382 gz_X7_at) rfl rfl rfl (by decide +kernel) ⟨Nat.le_of_ble_eq_true rfl, Nat.le_of_ble_eq_true rfl⟩) (r_preV hK hW (27) (tp_lt (by decide)) (cE_k (rfl : kd 27 = 9)) rfl [.int 20]) rfl rfl hl.1 rfl (lv_room (Nat.le_of_ble_eq_true rfl)) dX7_hear_3 ⟨Nat.zero_le _, Nat.zero_le _⟩) hW (fun H locs hW => ?_)
  by_cases hs6_0 : y15.2 = 16
  · replace hF := (if_pos hs6_0).symm.trans hF
    refine lv_lookup (off := 34) (tgt := 40) hx hb dX7_hear_6 (by decide) (by rw [hs6_0]; decide) (by decide) ?_
    refine lv_aload_n hx hb dX7_hear_40 rfl (lv_at hl 0 rfl) ?_
    refine lv_iload_n hx hb dX7_hear_41 rfl (lv_at hl 1 rfl) ?_
    refine lv_iload_n hx hb dX7_hear_42 rfl (lv_at hl 2 rfl) ?_
    obtain ⟨y16, hy16, hF⟩ := bd_some hF
    refine r_bv (va_runV (As := [.int x1, .int x2]) (rest := []) ⟨hx, hb, hml, hown, htA⟩ (m_X7_hearSearch l G g ad n a0 aM y15.1 x1 x2 y16  hy16) (cwV 2 htA (gV aw_477 aw_478 aw_479 aw_382 gz_X7_hearSearch) rfl rfl rfl (by decide +kernel) ⟨Nat.le_of_ble_eq_true rfl, Nat.le_of_ble_eq_true rfl⟩) (r_preV hK hW (27) (tp_lt (by decide)) (cE_k (rfl : kd 27 = 9)) rfl [.int x1, .int x2]) rfl rfl hl.1 rfl (lv_room (Nat.le_of_ble_eq_true rfl)) dX7_hear_43 ⟨Nat.zero_le _, Nat.zero_le _⟩) hW (fun H locs hW => ?_)
    refine lv_goto (tgt := 107) hx hb dX7_hear_46 (by decide) ?_
    exact r_vret hx hb hr hlocks hW hF dX7_hear_107
  · replace hF := (if_neg hs6_0).symm.trans hF
    by_cases hs6_1 : y15.2 = 32
    · replace hF := (if_pos hs6_1).symm.trans hF
      refine lv_lookup (off := 43) (tgt := 49) hx hb dX7_hear_6 (by decide) (by rw [hs6_1]; decide) (by decide) ?_
      refine lv_iload_n hx hb dX7_hear_49 rfl (lv_at hl 2 rfl) ?_
      refine lv_if_eq (tgt := 107) hx hb dX7_hear_50 (by decide) (fun hc17 => ?_) (fun hc17 => ?_)
      · replace hF := (if_pos hc17).symm.trans hF
        exact r_vret hx hb hr hlocks hW hF dX7_hear_107
      · replace hF := (if_neg hc17).symm.trans hF
        refine lv_aload_n hx hb dX7_hear_53 rfl (lv_at hl 0 rfl) ?_
        refine r_get (C := RX7) (T := TX7) (N := 39) hx hb htA ia_X7 hown hK hW (27) (tp_lt (by decide)) (cE_k (rfl : kd 27 = 9)) rfl 12 (by decide) (htA _ aw_363) rfl dX7_hear_54 ?_
        refine lv_iload_n hx hb dX7_hear_57 rfl (lv_at hl 1 rfl) ?_
        refine lv_dup2_11 hx hb dX7_hear_58 rfl rfl ?_
        obtain ⟨hg18, hF⟩ := gd_some hF
        refine r_iald hx hb hK hW (38) (tp_lt (by decide)) (rfl : kd 38 = 3) hg18 dX7_hear_59 ?_
        refine lv_iconst (v := 1) hx hb dX7_hear_60 (by decide) ?_
        refine lv_iadd hx hb dX7_hear_61 ?_
        obtain ⟨hg19, hF⟩ := gd_some hF
        refine r_iast hx hb hK hW (38) (tp_lt (by decide)) (rfl : kd 38 = 3) hg19 dX7_hear_62 (fun H locs hW => ?_)
        obtain ⟨w20, ew20, hF⟩ := nm_some hF
        rw [← ew20] at hW
        refine lv_aload_n hx hb dX7_hear_63 rfl (lv_at hl 0 rfl) ?_
        refine lv_iload_n hx hb dX7_hear_64 rfl (lv_at hl 1 rfl) ?_
        obtain ⟨y21, hy21, hF⟩ := bd_some hF
        refine r_bv (va_runV (As := [.int x1]) (rest := []) ⟨hx, hb, hml, hown, htA⟩ (m_X7_get l G g ad n a0 aM w20 x1 y21  hy21) (cwV 1 htA (gV aw_481 aw_482 aw_483 aw_382 gz_X7_get) rfl rfl rfl (by decide +kernel) ⟨Nat.le_of_ble_eq_true rfl, Nat.le_of_ble_eq_true rfl⟩) (r_preV hK hW (27) (tp_lt (by decide)) (cE_k (rfl : kd 27 = 9)) rfl [.int x1]) rfl rfl hl.1 rfl (lv_room (Nat.le_of_ble_eq_true rfl)) dX7_hear_65 ⟨Nat.zero_le _, Nat.zero_le _⟩) hW (fun H locs hW => ?_)
        refine lv_goto (tgt := 107) hx hb dX7_hear_68 (by decide) ?_
        exact r_vret hx hb hr hlocks hW hF dX7_hear_107
    · replace hF := (if_neg hs6_1).symm.trans hF
      by_cases hs6_2 : y15.2 = 48
      · replace hF := (if_pos hs6_2).symm.trans hF
        refine lv_lookup (off := 65) (tgt := 71) hx hb dX7_hear_6 (by decide) (by rw [hs6_2]; decide) (by decide) ?_
        refine lv_aload_n hx hb dX7_hear_71 rfl (lv_at hl 0 rfl) ?_
        refine r_get (C := RX7) (T := TX7) (N := 39) hx hb htA ia_X7 hown hK hW (27) (tp_lt (by decide)) (cE_k (rfl : kd 27 = 9)) rfl 12 (by decide) (htA _ aw_363) rfl dX7_hear_72 ?_
        refine lv_iload_n hx hb dX7_hear_75 rfl (lv_at hl 1 rfl) ?_
        refine lv_iload_n hx hb dX7_hear_76 rfl (lv_at hl 2 rfl) ?_
        refine lv_if_eq (tgt := 91) hx hb dX7_hear_77 (by decide) (fun hc22 => ?_) (fun hc22 => ?_)
        · replace hF := (if_pos hc22).symm.trans hF
          refine lv_aload_n hx hb dX7_hear_91 rfl (lv_at hl 0 rfl) ?_
          refine r_get (C := RX7) (T := TX7) (N := 39) hx hb htA ia_X7 hown hK hW (27) (tp_lt (by decide)) (cE_k (rfl : kd 27 = 9)) rfl 12 (by decide) (htA _ aw_363) rfl dX7_hear_92 ?_
          refine lv_iload_n hx hb dX7_hear_95 rfl (lv_at hl 1 rfl) ?_
          obtain ⟨hg23, hF⟩ := gd_some hF
          refine r_iald hx hb hK hW (38) (tp_lt (by decide)) (rfl : kd 38 = 3) hg23 dX7_hear_96 ?_
          exact hL97 y15.1 x1 x2 (y15.1.1 (38) (Int32.toNatClampNeg x1)) x1 _ _ _  hW (lv_sub hl [0, 1, 2] rfl) hF
        · replace hF := (if_neg hc22).symm.trans hF
          refine lv_aload_n hx hb dX7_hear_80 rfl (lv_at hl 0 rfl) ?_
          refine r_get (C := RX7) (T := TX7) (N := 39) hx hb htA ia_X7 hown hK hW (27) (tp_lt (by decide)) (cE_k (rfl : kd 27 = 9)) rfl 12 (by decide) (htA _ aw_363) rfl dX7_hear_81 ?_
          refine lv_iload_n hx hb dX7_hear_84 rfl (lv_at hl 1 rfl) ?_
          obtain ⟨hg24, hF⟩ := gd_some hF
          refine r_iald hx hb hK hW (38) (tp_lt (by decide)) (rfl : kd 38 = 3) hg24 dX7_hear_85 ?_
          refine lv_iconst (v := 1) hx hb dX7_hear_86 (by decide) ?_
          refine lv_iadd hx hb dX7_hear_87 ?_
          refine lv_goto (tgt := 97) hx hb dX7_hear_88 (by decide) ?_
          exact hL97 y15.1 x1 x2 ((y15.1.1 (38) (Int32.toNatClampNeg x1)) + 1) x1 _ _ _  hW (lv_sub hl [0, 1, 2] rfl) hF
      · replace hF := (if_neg hs6_2).symm.trans hF
        have ehs6_0 : (y15.2).toInt ≠ 16 := fun e9 => hs6_0 (Int32.toInt_inj.mp (e9.trans (by decide)))
        have ehs6_1 : (y15.2).toInt ≠ 32 := fun e9 => hs6_1 (Int32.toInt_inj.mp (e9.trans (by decide)))
        have ehs6_2 : (y15.2).toInt ≠ 48 := fun e9 => hs6_2 (Int32.toInt_inj.mp (e9.trans (by decide)))
        refine lv_lookup (off := 101) (tgt := 107) hx hb dX7_hear_6 (by decide) (by simp [Op.lookupswitch.offset, ehs6_0, ehs6_0.symm, ehs6_1, ehs6_1.symm, ehs6_2, ehs6_2.symm]) (by decide) ?_
        exact r_vret hx hb hr hlocks hW hF dX7_hear_107
def F_X7_look_L241 (σ : St) : Option (St) := nm (sI σ (27) 28 0) (fun w21 => some w21)
def F_X7_look_L184 (K241 : St → Option (St)) : Nat → St → Int32 → Option (St)
  | 0, _, _ => none
  | fz + 1, σ, u1 => if (σ.1 (27) 28) ≤ u1 then K241 σ else gd (ib u1 (ln (49))) (if (σ.1 (27) 25) ≤ (σ.1 (49) (Int32.toNatClampNeg u1)) then (F_X7_look_L184 K241 fz) σ (u1 + 1) else gd (ib u1 (ln (49))) (gd (ib u1 (ln (49))) (gd (ib (σ.1 (49) (Int32.toNatClampNeg u1)) (ln (47))) (gd (ib u1 (ln (50))) (gd (ib (σ.1 (49) (Int32.toNatClampNeg u1)) (ln (47))) (nm (sI σ (47) (Int32.toNatClampNeg (σ.1 (49) (Int32.toNatClampNeg u1))) (vp_nar .byte (Int8.toInt32 (Int32.toInt8 ((σ.1 (47) (Int32.toNatClampNeg (σ.1 (49) (Int32.toNatClampNeg u1)))) ^^^ (σ.1 (50) (Int32.toNatClampNeg u1))))))) (fun w30 => (F_X7_look_L184 K241 fz) w30 (u1 + 1))))))))
def F_X7_look_L175 (σ : St) : Option (St) := if (σ.1 (27) 25) ≤ 0 then some σ else F_X7_look_L184 F_X7_look_L241 fu σ 0
def F_X7_look_L153 (B73 : St → Int64 → Int32 → Option (St)) (K175 : St → Option (St)) (σ : St) (u1 : Int64) (u3 : Int32) (u4 : Int32) : Option (St) := nm (sI σ (27) 27 0) (fun w32 => (F_X7_hear w32 u3 u4).bind (fun y33 => (F_X7_fall y33).bind (fun y34 => B73 y34 u1 (u3 + 1))))
def F_X7_look_L141 (B73 : St → Int64 → Int32 → Option (St)) (K175 : St → Option (St)) (σ : St) (u1 : Int64) (u3 : Int32) (u4 : Int32) (z0 : Int32) : Option (St) := if u4 = 0 then if z0 = 0 then B73 σ u1 (u3 + 1) else F_X7_look_L153 B73 K175 σ u1 u3 u4 else F_X7_look_L153 B73 K175 σ u1 u3 u4
def F_X7_look_L140 (B73 : St → Int64 → Int32 → Option (St)) (K175 : St → Option (St)) (σ : St) (u1 : Int64) (u3 : Int32) (u4 : Int32) : Option (St) := F_X7_look_L141 B73 K175 σ u1 u3 u4 0
def F_X7_look_L136 (B73 : St → Int64 → Int32 → Option (St)) (K175 : St → Option (St)) (σ : St) (u1 : Int64) (u3 : Int32) (u4 : Int32) : Option (St) := F_X7_look_L141 B73 K175 σ u1 u3 u4 1
def F_X7_look_L96 (B73 : St → Int64 → Int32 → Option (St)) (K175 : St → Option (St)) (σ : St) (u1 : Int64) (u3 : Int32) (z0 : Int32) : Option (St) := if (lg_cmp (u1 &&& 4294967295) 4294967295) = 0 then if (lg_cmp (u1 >>> ((Int32.toInt64 32) &&& 63)) 65535) = 0 then F_X7_look_L136 B73 K175 σ u1 u3 z0 else gd (ib u3 (ln (28))) (if (lg_cmp (u1 >>> ((Int32.toInt64 32) &&& 63)) (Int32.toInt64 (σ.1 (28) (Int32.toNatClampNeg u3)))) = 0 then F_X7_look_L136 B73 K175 σ u1 u3 z0 else F_X7_look_L140 B73 K175 σ u1 u3 z0) else F_X7_look_L140 B73 K175 σ u1 u3 z0
def F_X7_look_L73 (K175 : St → Option (St)) : Nat → St → Int64 → Int32 → Option (St)
  | 0, _, _, _ => none
  | fz + 1, σ, u1, u3 => if (σ.1 (27) 1) ≤ u3 then K175 σ else (F_X7_ownId σ u3).bind (fun y42 => if (lg_cmp u1 y42.2) = 0 then F_X7_look_L96 (F_X7_look_L73 K175 fz) K175 y42.1 u1 u3 1 else F_X7_look_L96 (F_X7_look_L73 K175 fz) K175 y42.1 u1 u3 0)
def F_X7_look_L58 (σ : St) : Option (St) := (F_X7_isPacket σ).bind (fun y44 => if y44.2 = 0 then F_X7_look_L175 y44.1 else (F_X7_six y44.1 3).bind (fun y46 => F_X7_look_L73 F_X7_look_L175 fu y46.1 y46.2 0))
def F_X7_look_L55 (σ : St) : Option (St) := F_X7_look_L175 σ
def F_X7_look_L36 (K55 : St → Option (St)) : Nat → St → Int32 → Option (St)
  | 0, _, _ => none
  | fz + 1, σ, u1 => if (σ.1 (27) 1) ≤ u1 then K55 σ else (F_X7_takeLevels σ u1).bind (fun y48 => (F_X7_look_L36 K55 fz) y48 (u1 + 1))
def F_X7_look (σ : St) : Option (St) := nm (sI σ (27) 21 ((σ.1 (27) 21) + 1)) (fun w49 => (F_X7_doDue w49).bind (fun y50 => nm (sI y50 (27) 25 0) (fun w51 => if (w51.1 (27) 23) ≤ 0 then F_X7_look_L58 w51 else (F_X7_at w51 0).bind (fun y53 => if y53.2 = 0 then F_X7_look_L36 F_X7_look_L55 fu y53.1 0 else F_X7_look_L58 y53.1))))
set_option maxHeartbeats 4000000 in
set_option maxRecDepth 100000 in
theorem m_X7_look (l : Launch) (G : va_G) (g : Nat → ClassId) (ad : Nat → Nat) (n a0 aM : Nat) (σ : St) (x : St) (hF : F_X7_look σ = some x) : Met l yX7_look zs_X7_look ({ frames := 7, cells := 0, slots := 0, locals := 164 } : Room) (va_Pc [.ref (ad (27))] (wP G g ad n a0 aM σ)) (qV G g ad n a0 x) 0 0 (fun q : Nat => a0 ≤ q) := by
  refine Met.ofW (cc := cX7_look) (maxL := 6) (ret := none) (by decide) rfl ?_
  intro p e s m args below meth c s₁ B hml hv
  obtain ⟨rfl, hP, hD, hK⟩ := hv
  have hx := B.exec
  have hb := B.bytes
  have hr := B.returns
  have htA : ∀ w ∈ AL, w.before _ s = true := fun w h9 => atoms_spec (ws := zs_X7_look) B.pre w (List.mem_cons_of_mem _ h9)
  have hown : s.vm.findClass RX7 = some m.cls := findClass_of_methodNamed B.named
  have hlocks := B.notSynchronized
  have hW : Wd G g ad n a0 s.heap σ s.heap [] := ⟨hP, hD, va_S.rf⟩
  clear hP hD
  have hL241 : ∀ (σ : St) (H : Heap) (locs : List Loc) (ls : Array Slot), Wd G g ad n a0 s.heap σ H locs → lv_has ls 6 [(0, .ref (ad (27)))] → F_X7_look_L241  σ = some x → W p l e (headSpec zs_X7_look ({ frames := 7, cells := 0, slots := 0, locals := 164 } : Room)).room s m ([.ref (ad (27))] : List Value).toArray below meth c H locs 0 0 (MQ below (qV G g ad n a0 x) ([.ref (ad (27))] : List Value).toArray s 0 0 (fun q : Nat => a0 ≤ q)) (F0 m 241 ls []) := by
    intro σ H locs ls hW hl hF
    unfold F_X7_look_L241 at hF
    refine lv_aload_n hx hb dX7_look_241 rfl (lv_at hl 0 rfl) ?_
    refine lv_iconst (v := 0) hx hb dX7_look_242 (by decide) ?_
    refine r_putI (C := RX7) (T := TX7) (N := 39) (ty := .int) hx hb htA ia_X7 tyX7 tyX7_ok nmX7 hown hK hW (27) (tp_lt (by decide)) (cE_k (rfl : kd 27 = 9)) rfl 28 (by decide) (cE_k (rfl : kd 27 = 9)) (htA _ aw_492) rfl (by decide +kernel) rfl rfl (Nat.le_of_ble_eq_true rfl) dX7_look_243 (fun H locs hW => ?_)
    obtain ⟨w21, ew21, hF⟩ := nm_some hF
    rw [← ew21] at hW
    exact r_vret hx hb hr hlocks hW hF dX7_look_246
  have hL184 : ∀ (fz184 : Nat) (σ : St) (u1 : Int32) (H : Heap) (locs : List Loc) (ls : Array Slot), Wd G g ad n a0 s.heap σ H locs → lv_has ls 6 [(0, .ref (ad (27))), (1, .int u1)] → F_X7_look_L184 (F_X7_look_L241) fz184 σ u1 = some x → W p l e (headSpec zs_X7_look ({ frames := 7, cells := 0, slots := 0, locals := 164 } : Room)).room s m ([.ref (ad (27))] : List Value).toArray below meth c H locs 0 0 (MQ below (qV G g ad n a0 x) ([.ref (ad (27))] : List Value).toArray s 0 0 (fun q : Nat => a0 ≤ q)) (F0 m 184 ls []) := by
    intro fz184
    induction fz184 with
    | zero =>
      intro σ u1 H locs ls hW hl hF
      exact absurd hF (by simp [F_X7_look_L184])
    | succ fz184 ih =>
      have hB184 := ih
      intro σ u1 H locs ls hW hl hF
      unfold F_X7_look_L184 at hF
      refine lv_iload_n hx hb dX7_look_184 rfl (lv_at hl 1 rfl) ?_
      refine lv_aload_n hx hb dX7_look_185 rfl (lv_at hl 0 rfl) ?_
      refine r_get (C := RX7) (T := TX7) (N := 39) hx hb htA ia_X7 hown hK hW (27) (tp_lt (by decide)) (cE_k (rfl : kd 27 = 9)) rfl 28 (by decide) (htA _ aw_492) rfl dX7_look_186 ?_
      refine lv_icmp_ge (tgt := 241) hx hb dX7_look_189 (by decide) (fun hc22 => ?_) (fun hc22 => ?_)
      · replace hF := (if_pos hc22).symm.trans hF
        exact hL241 σ _ _ _  hW (lv_sub hl [0] rfl) hF
      · replace hF := (if_neg hc22).symm.trans hF
        refine lv_aload_n hx hb dX7_look_192 rfl (lv_at hl 0 rfl) ?_
        refine r_get (C := RX7) (T := TX7) (N := 39) hx hb htA ia_X7 hown hK hW (27) (tp_lt (by decide)) (cE_k (rfl : kd 27 = 9)) rfl 29 (by decide) (htA _ aw_374) rfl dX7_look_193 ?_
        refine lv_iload_n hx hb dX7_look_196 rfl (lv_at hl 1 rfl) ?_
        obtain ⟨hg23, hF⟩ := gd_some hF
        refine r_iald hx hb hK hW (49) (tp_lt (by decide)) (rfl : kd 49 = 3) hg23 dX7_look_197 ?_
        refine lv_aload_n hx hb dX7_look_198 rfl (lv_at hl 0 rfl) ?_
        refine r_get (C := RX7) (T := TX7) (N := 39) hx hb htA ia_X7 hown hK hW (27) (tp_lt (by decide)) (cE_k (rfl : kd 27 = 9)) rfl 25 (by decide) (htA _ aw_489) rfl dX7_look_199 ?_
        refine lv_icmp_ge (tgt := 235) hx hb dX7_look_202 (by decide) (fun hc24 => ?_) (fun hc24 => ?_)
        · replace hF := (if_pos hc24).symm.trans hF
          refine lv_iinc (v := (u1 + 1)) (lv' := [(1, .int (u1 + 1)), (0, .ref (ad (27)))]) hx hb dX7_look_235 hl (k := 1) rfl rfl (by decide) rfl (fun ls hl => ?_)
          refine lv_goto (tgt := 184) hx hb dX7_look_238 (by decide) ?_
          exact hB184 σ (u1 + 1) _ _ _  hW (lv_sub hl [1, 0] rfl) hF
        · replace hF := (if_neg hc24).symm.trans hF
          refine lv_aload_n hx hb dX7_look_205 rfl (lv_at hl 0 rfl) ?_
          refine r_get (C := RX7) (T := TX7) (N := 39) hx hb htA ia_X7 hown hK hW (27) (tp_lt (by decide)) (cE_k (rfl : kd 27 = 9)) rfl 24 (by decide) (htA _ aw_372) rfl dX7_look_206 ?_
          refine lv_aload_n hx hb dX7_look_209 rfl (lv_at hl 0 rfl) ?_
          refine r_get (C := RX7) (T := TX7) (N := 39) hx hb htA ia_X7 hown hK hW (27) (tp_lt (by decide)) (cE_k (rfl : kd 27 = 9)) rfl 29 (by decide) (htA _ aw_374) rfl dX7_look_210 ?_
          refine lv_iload_n hx hb dX7_look_213 rfl (lv_at hl 1 rfl) ?_
          obtain ⟨hg25, hF⟩ := gd_some hF
          refine r_iald hx hb hK hW (49) (tp_lt (by decide)) (rfl : kd 49 = 3) hg25 dX7_look_214 ?_
          refine lv_aload_n hx hb dX7_look_215 rfl (lv_at hl 0 rfl) ?_
          refine r_get (C := RX7) (T := TX7) (N := 39) hx hb htA ia_X7 hown hK hW (27) (tp_lt (by decide)) (cE_k (rfl : kd 27 = 9)) rfl 24 (by decide) (htA _ aw_372) rfl dX7_look_216 ?_
          refine lv_aload_n hx hb dX7_look_219 rfl (lv_at hl 0 rfl) ?_
          refine r_get (C := RX7) (T := TX7) (N := 39) hx hb htA ia_X7 hown hK hW (27) (tp_lt (by decide)) (cE_k (rfl : kd 27 = 9)) rfl 29 (by decide) (htA _ aw_374) rfl dX7_look_220 ?_
          refine lv_iload_n hx hb dX7_look_223 rfl (lv_at hl 1 rfl) ?_
          obtain ⟨hg26, hF⟩ := gd_some hF
          refine r_iald hx hb hK hW (49) (tp_lt (by decide)) (rfl : kd 49 = 3) hg26 dX7_look_224 ?_
          obtain ⟨hg27, hF⟩ := gd_some hF
          refine r_bald hx hb hK hW (47) (tp_lt (by decide)) (rfl : kd 47 = 10) hg27 dX7_look_225 ?_
          refine lv_aload_n hx hb dX7_look_226 rfl (lv_at hl 0 rfl) ?_
          refine r_get (C := RX7) (T := TX7) (N := 39) hx hb htA ia_X7 hown hK hW (27) (tp_lt (by decide)) (cE_k (rfl : kd 27 = 9)) rfl 30 (by decide) (htA _ aw_375) rfl dX7_look_227 ?_
          refine lv_iload_n hx hb dX7_look_230 rfl (lv_at hl 1 rfl) ?_
          obtain ⟨hg28, hF⟩ := gd_some hF
          refine r_iald hx hb hK hW (50) (tp_lt (by decide)) (rfl : kd 50 = 3) hg28 dX7_look_231 ?_
          refine lv_ixor hx hb dX7_look_232 ?_
          refine lv_i2b (v := (Int8.toInt32 (Int32.toInt8 ((σ.1 (47) (Int32.toNatClampNeg (σ.1 (49) (Int32.toNatClampNeg u1)))) ^^^ (σ.1 (50) (Int32.toNatClampNeg u1)))))) hx hb dX7_look_233 rfl ?_
          obtain ⟨hg29, hF⟩ := gd_some hF
          refine r_bast hx hb hK hW (47) (tp_lt (by decide)) (rfl : kd 47 = 10) hg29 dX7_look_234 (fun H locs hW => ?_)
          obtain ⟨w30, ew30, hF⟩ := nm_some hF
          rw [← ew30] at hW
          refine lv_iinc (v := (u1 + 1)) (lv' := [(1, .int (u1 + 1)), (0, .ref (ad (27)))]) hx hb dX7_look_235 hl (k := 1) rfl rfl (by decide) rfl (fun ls hl => ?_)
          refine lv_goto (tgt := 184) hx hb dX7_look_238 (by decide) ?_
          exact hB184 w30 (u1 + 1) _ _ _  hW (lv_sub hl [1, 0] rfl) hF
  have hL184 := hL184 fu
  have hL175 : ∀ (σ : St) (H : Heap) (locs : List Loc) (ls : Array Slot), Wd G g ad n a0 s.heap σ H locs → lv_has ls 6 [(0, .ref (ad (27)))] → F_X7_look_L175  σ = some x → W p l e (headSpec zs_X7_look ({ frames := 7, cells := 0, slots := 0, locals := 164 } : Room)).room s m ([.ref (ad (27))] : List Value).toArray below meth c H locs 0 0 (MQ below (qV G g ad n a0 x) ([.ref (ad (27))] : List Value).toArray s 0 0 (fun q : Nat => a0 ≤ q)) (F0 m 175 ls []) := by
    intro σ H locs ls hW hl hF
    unfold F_X7_look_L175 at hF
    refine lv_aload_n hx hb dX7_look_175 rfl (lv_at hl 0 rfl) ?_
    refine r_get (C := RX7) (T := TX7) (N := 39) hx hb htA ia_X7 hown hK hW (27) (tp_lt (by decide)) (cE_k (rfl : kd 27 = 9)) rfl 25 (by decide) (htA _ aw_489) rfl dX7_look_176 ?_
    refine lv_if_le (tgt := 246) hx hb dX7_look_179 (by decide) (fun hc31 => ?_) (fun hc31 => ?_)
    · replace hF := (if_pos hc31).symm.trans hF
      exact r_vret hx hb hr hlocks hW hF dX7_look_246
    · replace hF := (if_neg hc31).symm.trans hF
      refine lv_iconst (v := 0) hx hb dX7_look_182 (by decide) ?_
      refine lv_istore_n (lv' := [(1, .int 0), (0, .ref (ad (27)))]) hx hb dX7_look_183 rfl hl (by decide) rfl (fun ls hl => ?_)
      exact hL184 σ 0 _ _ _  hW (lv_sub hl [1, 0] rfl) hF
  have hL73 : ∀ (fz73 : Nat) (σ : St) (u1 : Int64) (u3 : Int32) (H : Heap) (locs : List Loc) (ls : Array Slot), Wd G g ad n a0 s.heap σ H locs → lv_has ls 6 [(0, .ref (ad (27))), (1, .long u1), (3, .int u3)] → F_X7_look_L73 (F_X7_look_L175) fz73 σ u1 u3 = some x → W p l e (headSpec zs_X7_look ({ frames := 7, cells := 0, slots := 0, locals := 164 } : Room)).room s m ([.ref (ad (27))] : List Value).toArray below meth c H locs 0 0 (MQ below (qV G g ad n a0 x) ([.ref (ad (27))] : List Value).toArray s 0 0 (fun q : Nat => a0 ≤ q)) (F0 m 73 ls []) := by
    intro fz73
    induction fz73 with
    | zero =>
      intro σ u1 u3 H locs ls hW hl hF
      exact absurd hF (by simp [F_X7_look_L73])
    | succ fz73 ih =>
      have hB73 := ih
      have hL153 : ∀ (σ : St) (u1 : Int64) (u3 : Int32) (u4 : Int32) (H : Heap) (locs : List Loc) (ls : Array Slot), Wd G g ad n a0 s.heap σ H locs → lv_has ls 6 [(0, .ref (ad (27))), (1, .long u1), (3, .int u3), (4, .int u4)] → F_X7_look_L153 (F_X7_look_L73 (F_X7_look_L175) fz73) (F_X7_look_L175) σ u1 u3 u4 = some x → W p l e (headSpec zs_X7_look ({ frames := 7, cells := 0, slots := 0, locals := 164 } : Room)).room s m ([.ref (ad (27))] : List Value).toArray below meth c H locs 0 0 (MQ below (qV G g ad n a0 x) ([.ref (ad (27))] : List Value).toArray s 0 0 (fun q : Nat => a0 ≤ q)) (F0 m 153 ls []) := by
        intro σ u1 u3 u4 H locs ls hW hl hF
        unfold F_X7_look_L153 at hF
        refine lv_aload_n hx hb dX7_look_153 rfl (lv_at hl 0 rfl) ?_
        refine lv_iconst (v := 0) hx hb dX7_look_154 (by decide) ?_
        refine r_putI (C := RX7) (T := TX7) (N := 39) (ty := .int) hx hb htA ia_X7 tyX7 tyX7_ok nmX7 hown hK hW (27) (tp_lt (by decide)) (cE_k (rfl : kd 27 = 9)) rfl 27 (by decide) (cE_k (rfl : kd 27 = 9)) (htA _ aw_414) rfl (by decide +kernel) rfl rfl (Nat.le_of_ble_eq_true rfl) dX7_look_155 (fun H locs hW => ?_)
        obtain ⟨w32, ew32, hF⟩ := nm_some hF
        rw [← ew32] at hW
        refine lv_aload_n hx hb dX7_look_158 rfl (lv_at hl 0 rfl) ?_
        refine lv_iload_n hx hb dX7_look_159 rfl (lv_at hl 2 rfl) ?_
        refine lv_iload hx hb dX7_look_160 (lv_at hl 3 rfl) ?_
        obtain ⟨y33, hy33, hF⟩ := bd_some hF
        refine r_bv (va_runV (As := [.int u3, .int u4]) (rest := []) ⟨hx, hb, hml, hown, htA⟩ (m_X7_hear l G g ad n a0 aM w32 u3 u4 y33  hy33) (cwV 2 htA (gV aw_505 aw_506 aw_507 aw_382 gz_X7_hear) rfl rfl rfl (by decide +kernel) ⟨Nat.le_of_ble_eq_true rfl, Nat.le_of_ble_eq_true rfl⟩) (r_preV hK hW (27) (tp_lt (by decide)) (cE_k (rfl : kd 27 = 9)) rfl [.int u3, .int u4]) rfl rfl hl.1 rfl (lv_room (Nat.le_of_ble_eq_true rfl)) dX7_look_162 ⟨Nat.zero_le _, Nat.zero_le _⟩) hW (fun H locs hW => ?_)
        refine lv_aload_n hx hb dX7_look_165 rfl (lv_at hl 0 rfl) ?_
        obtain ⟨y34, hy34, hF⟩ := bd_some hF
        refine r_bv (va_runV (As := []) (rest := []) ⟨hx, hb, hml, hown, htA⟩ (m_X7_fall l G g ad n a0 aM y33 y34  hy34) (cwV 0 htA (gV aw_509 aw_510 aw_511 aw_382 gz_X7_fall) rfl rfl rfl (by decide +kernel) ⟨Nat.le_of_ble_eq_true rfl, Nat.le_of_ble_eq_true rfl⟩) (r_preV hK hW (27) (tp_lt (by decide)) (cE_k (rfl : kd 27 = 9)) rfl []) rfl rfl hl.1 rfl (lv_room (Nat.le_of_ble_eq_true rfl)) dX7_look_166 ⟨Nat.zero_le _, Nat.zero_le _⟩) hW (fun H locs hW => ?_)
        refine lv_iinc (v := (u3 + 1)) (lv' := [(3, .int (u3 + 1)), (0, .ref (ad (27))), (1, .long u1), (4, .int u4)]) hx hb dX7_look_169 hl (k := 2) rfl rfl (by decide) rfl (fun ls hl => ?_)
        refine lv_goto (tgt := 73) hx hb dX7_look_172 (by decide) ?_
        exact hB73 y34 u1 (u3 + 1) _ _ _  hW (lv_sub hl [1, 2, 0] rfl) hF
      have hL141 : ∀ (σ : St) (u1 : Int64) (u3 : Int32) (u4 : Int32) (z0 : Int32) (H : Heap) (locs : List Loc) (ls : Array Slot), Wd G g ad n a0 s.heap σ H locs → lv_has ls 6 [(0, .ref (ad (27))), (1, .long u1), (3, .int u3), (4, .int u4)] → F_X7_look_L141 (F_X7_look_L73 (F_X7_look_L175) fz73) (F_X7_look_L175) σ u1 u3 u4 z0 = some x → W p l e (headSpec zs_X7_look ({ frames := 7, cells := 0, slots := 0, locals := 164 } : Room)).room s m ([.ref (ad (27))] : List Value).toArray below meth c H locs 0 0 (MQ below (qV G g ad n a0 x) ([.ref (ad (27))] : List Value).toArray s 0 0 (fun q : Nat => a0 ≤ q)) (F0 m 141 ls [.int z0]) := by
        intro σ u1 u3 u4 z0 H locs ls hW hl hF
        unfold F_X7_look_L141 at hF
        refine lv_istore (lv' := [(5, .int z0), (0, .ref (ad (27))), (1, .long u1), (3, .int u3), (4, .int u4)]) hx hb dX7_look_141 hl (by decide) rfl (fun ls hl => ?_)
        refine lv_iload hx hb dX7_look_143 (lv_at hl 4 rfl) ?_
        refine lv_if_ne (tgt := 153) hx hb dX7_look_145 (by decide) (fun hc35 => ?_) (fun hc35 => ?_)
        · replace hF := (if_neg hc35).symm.trans hF
          exact hL153 σ u1 u3 u4 _ _ _  hW (lv_sub hl [1, 2, 3, 4] rfl) hF
        · replace hF := (if_pos hc35).symm.trans hF
          refine lv_iload hx hb dX7_look_148 (lv_at hl 0 rfl) ?_
          refine lv_if_eq (tgt := 169) hx hb dX7_look_150 (by decide) (fun hc36 => ?_) (fun hc36 => ?_)
          · replace hF := (if_pos hc36).symm.trans hF
            refine lv_iinc (v := (u3 + 1)) (lv' := [(3, .int (u3 + 1)), (5, .int z0), (0, .ref (ad (27))), (1, .long u1), (4, .int u4)]) hx hb dX7_look_169 hl (k := 3) rfl rfl (by decide) rfl (fun ls hl => ?_)
            refine lv_goto (tgt := 73) hx hb dX7_look_172 (by decide) ?_
            exact hB73 σ u1 (u3 + 1) _ _ _  hW (lv_sub hl [2, 3, 0] rfl) hF
          · replace hF := (if_neg hc36).symm.trans hF
            exact hL153 σ u1 u3 u4 _ _ _  hW (lv_sub hl [1, 2, 3, 4] rfl) hF
      have hL140 : ∀ (σ : St) (u1 : Int64) (u3 : Int32) (u4 : Int32) (H : Heap) (locs : List Loc) (ls : Array Slot), Wd G g ad n a0 s.heap σ H locs → lv_has ls 6 [(0, .ref (ad (27))), (1, .long u1), (3, .int u3), (4, .int u4)] → F_X7_look_L140 (F_X7_look_L73 (F_X7_look_L175) fz73) (F_X7_look_L175) σ u1 u3 u4 = some x → W p l e (headSpec zs_X7_look ({ frames := 7, cells := 0, slots := 0, locals := 164 } : Room)).room s m ([.ref (ad (27))] : List Value).toArray below meth c H locs 0 0 (MQ below (qV G g ad n a0 x) ([.ref (ad (27))] : List Value).toArray s 0 0 (fun q : Nat => a0 ≤ q)) (F0 m 140 ls []) := by
        intro σ u1 u3 u4 H locs ls hW hl hF
        unfold F_X7_look_L140 at hF
        refine lv_iconst (v := 0) hx hb dX7_look_140 (by decide) ?_
        exact hL141 σ u1 u3 u4 0 _ _ _  hW (lv_sub hl [0, 1, 2, 3] rfl) hF
      have hL136 : ∀ (σ : St) (u1 : Int64) (u3 : Int32) (u4 : Int32) (H : Heap) (locs : List Loc) (ls : Array Slot), Wd G g ad n a0 s.heap σ H locs → lv_has ls 6 [(0, .ref (ad (27))), (1, .long u1), (3, .int u3), (4, .int u4)] → F_X7_look_L136 (F_X7_look_L73 (F_X7_look_L175) fz73) (F_X7_look_L175) σ u1 u3 u4 = some x → W p l e (headSpec zs_X7_look ({ frames := 7, cells := 0, slots := 0, locals := 164 } : Room)).room s m ([.ref (ad (27))] : List Value).toArray below meth c H locs 0 0 (MQ below (qV G g ad n a0 x) ([.ref (ad (27))] : List Value).toArray s 0 0 (fun q : Nat => a0 ≤ q)) (F0 m 136 ls []) := by
        intro σ u1 u3 u4 H locs ls hW hl hF
        unfold F_X7_look_L136 at hF
        refine lv_iconst (v := 1) hx hb dX7_look_136 (by decide) ?_
        refine lv_goto (tgt := 141) hx hb dX7_look_137 (by decide) ?_
        exact hL141 σ u1 u3 u4 1 _ _ _  hW (lv_sub hl [0, 1, 2, 3] rfl) hF
      have hL96 : ∀ (σ : St) (u1 : Int64) (u3 : Int32) (z0 : Int32) (H : Heap) (locs : List Loc) (ls : Array Slot), Wd G g ad n a0 s.heap σ H locs → lv_has ls 6 [(0, .ref (ad (27))), (1, .long u1), (3, .int u3)] → F_X7_look_L96 (F_X7_look_L73 (F_X7_look_L175) fz73) (F_X7_look_L175) σ u1 u3 z0 = some x → W p l e (headSpec zs_X7_look ({ frames := 7, cells := 0, slots := 0, locals := 164 } : Room)).room s m ([.ref (ad (27))] : List Value).toArray below meth c H locs 0 0 (MQ below (qV G g ad n a0 x) ([.ref (ad (27))] : List Value).toArray s 0 0 (fun q : Nat => a0 ≤ q)) (F0 m 96 ls [.int z0]) := by
        intro σ u1 u3 z0 H locs ls hW hl hF
        unfold F_X7_look_L96 at hF
        refine lv_istore (lv' := [(4, .int z0), (0, .ref (ad (27))), (1, .long u1), (3, .int u3)]) hx hb dX7_look_96 hl (by decide) rfl (fun ls hl => ?_)
        refine lv_lload_n hx hb dX7_look_98 rfl (lv_at hl 2 rfl) ?_
        refine lv_ldc2 (v := 4294967295) hx hb hown (htA _ aw_490) dX7_look_99 ?_
        refine lv_land hx hb dX7_look_102 ?_
        refine lv_ldc2 (v := 4294967295) hx hb hown (htA _ aw_490) dX7_look_103 ?_
        refine W.lcmp hx hb dX7_look_106 ?_
        refine lv_if_ne (tgt := 140) hx hb dX7_look_107 (by decide) (fun hc37 => ?_) (fun hc37 => ?_)
        · replace hF := (if_neg hc37).symm.trans hF
          exact hL140 σ u1 u3 z0 _ _ _  hW (lv_sub hl [1, 2, 3, 0] rfl) hF
        · replace hF := (if_pos hc37).symm.trans hF
          refine lv_lload_n hx hb dX7_look_110 rfl (lv_at hl 2 rfl) ?_
          refine lv_bipush (v := 32) hx hb dX7_look_111 (by decide) ?_
          refine lv_lshr (v := (u1 >>> ((Int32.toInt64 32) &&& 63))) hx hb dX7_look_113 rfl ?_
          refine lv_ldc2 (v := 65535) hx hb hown (htA _ aw_491) dX7_look_114 ?_
          refine W.lcmp hx hb dX7_look_117 ?_
          refine lv_if_eq (tgt := 136) hx hb dX7_look_118 (by decide) (fun hc38 => ?_) (fun hc38 => ?_)
          · replace hF := (if_pos hc38).symm.trans hF
            exact hL136 σ u1 u3 z0 _ _ _  hW (lv_sub hl [1, 2, 3, 0] rfl) hF
          · replace hF := (if_neg hc38).symm.trans hF
            refine lv_lload_n hx hb dX7_look_121 rfl (lv_at hl 2 rfl) ?_
            refine lv_bipush (v := 32) hx hb dX7_look_122 (by decide) ?_
            refine lv_lshr (v := (u1 >>> ((Int32.toInt64 32) &&& 63))) hx hb dX7_look_124 rfl ?_
            refine lv_aload_n hx hb dX7_look_125 rfl (lv_at hl 1 rfl) ?_
            refine r_get (C := RX7) (T := TX7) (N := 39) hx hb htA ia_X7 hown hK hW (27) (tp_lt (by decide)) (cE_k (rfl : kd 27 = 9)) rfl 2 (by decide) (htA _ aw_352) rfl dX7_look_126 ?_
            refine lv_iload_n hx hb dX7_look_129 rfl (lv_at hl 3 rfl) ?_
            obtain ⟨hg39, hF⟩ := gd_some hF
            refine r_iald hx hb hK hW (28) (tp_lt (by decide)) (rfl : kd 28 = 3) hg39 dX7_look_130 ?_
            refine lv_i2l (v := (Int32.toInt64 (σ.1 (28) (Int32.toNatClampNeg u3)))) hx hb dX7_look_131 rfl ?_
            refine W.lcmp hx hb dX7_look_132 ?_
            refine lv_if_ne (tgt := 140) hx hb dX7_look_133 (by decide) (fun hc40 => ?_) (fun hc40 => ?_)
            · replace hF := (if_neg hc40).symm.trans hF
              exact hL140 σ u1 u3 z0 _ _ _  hW (lv_sub hl [1, 2, 3, 0] rfl) hF
            · replace hF := (if_pos hc40).symm.trans hF
              exact hL136 σ u1 u3 z0 _ _ _  hW (lv_sub hl [1, 2, 3, 0] rfl) hF
      intro σ u1 u3 H locs ls hW hl hF
      unfold F_X7_look_L73 at hF
      refine lv_iload_n hx hb dX7_look_73 rfl (lv_at hl 2 rfl) ?_
      refine lv_aload_n hx hb dX7_look_74 rfl (lv_at hl 0 rfl) ?_
      refine r_get (C := RX7) (T := TX7) (N := 39) hx hb htA ia_X7 hown hK hW (27) (tp_lt (by decide)) (cE_k (rfl : kd 27 = 9)) rfl 1 (by decide) (htA _ aw_389) rfl dX7_look_75 ?_
      refine lv_icmp_ge (tgt := 175) hx hb dX7_look_78 (by decide) (fun hc41 => ?_) (fun hc41 => ?_)
      · replace hF := (if_pos hc41).symm.trans hF
        exact hL175 σ _ _ _  hW (lv_sub hl [0] rfl) hF
      · replace hF := (if_neg hc41).symm.trans hF
        refine lv_lload_n hx hb dX7_look_81 rfl (lv_at hl 1 rfl) ?_
        refine lv_aload_n hx hb dX7_look_82 rfl (lv_at hl 0 rfl) ?_
        refine lv_iload_n hx hb dX7_look_83 rfl (lv_at hl 2 rfl) ?_
        obtain ⟨y42, hy42, hF⟩ := bd_some hF
        refine r_bl (va_runV (As := [.int u3]) (rest := [.long u1]) ⟨hx, hb, hml, hown, htA⟩ (m_X7_ownId l G g ad n a0 aM σ u3 y42  hy42) (cwV 1 htA (gV aw_419 aw_420 aw_421 aw_382 gz_X7_ownId) rfl rfl rfl (by decide +kernel) ⟨Nat.le_of_ble_eq_true rfl, Nat.le_of_ble_eq_true rfl⟩) (r_preV hK hW (27) (tp_lt (by decide)) (cE_k (rfl : kd 27 = 9)) rfl [.int u3]) rfl rfl hl.1 rfl (lv_room (Nat.le_of_ble_eq_true rfl)) dX7_look_84 ⟨Nat.zero_le _, Nat.zero_le _⟩) hW (fun H locs hW => ?_)
        refine W.lcmp hx hb dX7_look_87 ?_
        refine lv_if_ne (tgt := 95) hx hb dX7_look_88 (by decide) (fun hc43 => ?_) (fun hc43 => ?_)
        · replace hF := (if_neg hc43).symm.trans hF
          refine lv_iconst (v := 0) hx hb dX7_look_95 (by decide) ?_
          exact hL96 y42.1 u1 u3 0 _ _ _  hW (lv_sub hl [0, 1, 2] rfl) hF
        · replace hF := (if_pos hc43).symm.trans hF
          refine lv_iconst (v := 1) hx hb dX7_look_91 (by decide) ?_
          refine lv_goto (tgt := 96) hx hb dX7_look_92 (by decide) ?_
          exact hL96 y42.1 u1 u3 1 _ _ _  hW (lv_sub hl [0, 1, 2] rfl) hF
  have hL73 := hL73 fu
  have hL58 : ∀ (σ : St) (H : Heap) (locs : List Loc) (ls : Array Slot), Wd G g ad n a0 s.heap σ H locs → lv_has ls 6 [(0, .ref (ad (27)))] → F_X7_look_L58  σ = some x → W p l e (headSpec zs_X7_look ({ frames := 7, cells := 0, slots := 0, locals := 164 } : Room)).room s m ([.ref (ad (27))] : List Value).toArray below meth c H locs 0 0 (MQ below (qV G g ad n a0 x) ([.ref (ad (27))] : List Value).toArray s 0 0 (fun q : Nat => a0 ≤ q)) (F0 m 58 ls []) := by
    intro σ H locs ls hW hl hF
    unfold F_X7_look_L58 at hF
    refine lv_aload_n hx hb dX7_look_58 rfl (lv_at hl 0 rfl) ?_
    obtain ⟨y44, hy44, hF⟩ := bd_some hF
    refine r_bi (va_runV (As := []) (rest := []) ⟨hx, hb, hml, hown, htA⟩ (m_X7_isPacket l G g ad n a0 aM σ y44  hy44) (cwV 0 htA (gV aw_501 aw_502 aw_503 aw_382 gz_X7_isPacket) rfl rfl rfl (by decide +kernel) ⟨Nat.le_of_ble_eq_true rfl, Nat.le_of_ble_eq_true rfl⟩) (r_preV hK hW (27) (tp_lt (by decide)) (cE_k (rfl : kd 27 = 9)) rfl []) rfl rfl hl.1 rfl (lv_room (Nat.le_of_ble_eq_true rfl)) dX7_look_59 ⟨Nat.zero_le _, Nat.zero_le _⟩) hW (fun H locs hW => ?_)
    refine lv_if_eq (tgt := 175) hx hb dX7_look_62 (by decide) (fun hc45 => ?_) (fun hc45 => ?_)
    · replace hF := (if_pos hc45).symm.trans hF
      exact hL175 y44.1 _ _ _  hW (lv_sub hl [0] rfl) hF
    · replace hF := (if_neg hc45).symm.trans hF
      refine lv_aload_n hx hb dX7_look_65 rfl (lv_at hl 0 rfl) ?_
      refine lv_iconst (v := 3) hx hb dX7_look_66 (by decide) ?_
      obtain ⟨y46, hy46, hF⟩ := bd_some hF
      refine r_bl (va_runV (As := [.int 3]) (rest := []) ⟨hx, hb, hml, hown, htA⟩ (m_X7_six l G g ad n a0 aM y44.1 3 y46  hy46) (cwV 1 htA (gV aw_435 aw_436 aw_437 aw_382 gz_X7_six) rfl rfl rfl (by decide +kernel) ⟨Nat.le_of_ble_eq_true rfl, Nat.le_of_ble_eq_true rfl⟩) (r_preV hK hW (27) (tp_lt (by decide)) (cE_k (rfl : kd 27 = 9)) rfl [.int 3]) rfl rfl hl.1 rfl (lv_room (Nat.le_of_ble_eq_true rfl)) dX7_look_67 ⟨Nat.zero_le _, Nat.zero_le _⟩) hW (fun H locs hW => ?_)
      refine lv_lstore_n (lv' := [(1, .long y46.2), (0, .ref (ad (27)))]) hx hb dX7_look_70 rfl hl (by decide) rfl (fun ls hl => ?_)
      refine lv_iconst (v := 0) hx hb dX7_look_71 (by decide) ?_
      refine lv_istore_n (lv' := [(3, .int 0), (1, .long y46.2), (0, .ref (ad (27)))]) hx hb dX7_look_72 rfl hl (by decide) rfl (fun ls hl => ?_)
      exact hL73 y46.1 y46.2 0 _ _ _  hW (lv_sub hl [2, 1, 0] rfl) hF
  have hL55 : ∀ (σ : St) (H : Heap) (locs : List Loc) (ls : Array Slot), Wd G g ad n a0 s.heap σ H locs → lv_has ls 6 [(0, .ref (ad (27)))] → F_X7_look_L55  σ = some x → W p l e (headSpec zs_X7_look ({ frames := 7, cells := 0, slots := 0, locals := 164 } : Room)).room s m ([.ref (ad (27))] : List Value).toArray below meth c H locs 0 0 (MQ below (qV G g ad n a0 x) ([.ref (ad (27))] : List Value).toArray s 0 0 (fun q : Nat => a0 ≤ q)) (F0 m 55 ls []) := by
    intro σ H locs ls hW hl hF
    unfold F_X7_look_L55 at hF
    refine lv_goto (tgt := 175) hx hb dX7_look_55 (by decide) ?_
    exact hL175 σ _ _ _  hW (lv_sub hl [0] rfl) hF
  have hL36 : ∀ (fz36 : Nat) (σ : St) (u1 : Int32) (H : Heap) (locs : List Loc) (ls : Array Slot), Wd G g ad n a0 s.heap σ H locs → lv_has ls 6 [(0, .ref (ad (27))), (1, .int u1)] → F_X7_look_L36 (F_X7_look_L55) fz36 σ u1 = some x → W p l e (headSpec zs_X7_look ({ frames := 7, cells := 0, slots := 0, locals := 164 } : Room)).room s m ([.ref (ad (27))] : List Value).toArray below meth c H locs 0 0 (MQ below (qV G g ad n a0 x) ([.ref (ad (27))] : List Value).toArray s 0 0 (fun q : Nat => a0 ≤ q)) (F0 m 36 ls []) := by
    intro fz36
    induction fz36 with
    | zero =>
      intro σ u1 H locs ls hW hl hF
      exact absurd hF (by simp [F_X7_look_L36])
    | succ fz36 ih =>
      have hB36 := ih
      intro σ u1 H locs ls hW hl hF
      unfold F_X7_look_L36 at hF
      refine lv_iload_n hx hb dX7_look_36 rfl (lv_at hl 1 rfl) ?_
      refine lv_aload_n hx hb dX7_look_37 rfl (lv_at hl 0 rfl) ?_
      refine r_get (C := RX7) (T := TX7) (N := 39) hx hb htA ia_X7 hown hK hW (27) (tp_lt (by decide)) (cE_k (rfl : kd 27 = 9)) rfl 1 (by decide) (htA _ aw_389) rfl dX7_look_38 ?_
      refine lv_icmp_ge (tgt := 55) hx hb dX7_look_41 (by decide) (fun hc47 => ?_) (fun hc47 => ?_)
      · replace hF := (if_pos hc47).symm.trans hF
        exact hL55 σ _ _ _  hW (lv_sub hl [0] rfl) hF
      · replace hF := (if_neg hc47).symm.trans hF
        refine lv_aload_n hx hb dX7_look_44 rfl (lv_at hl 0 rfl) ?_
        refine lv_iload_n hx hb dX7_look_45 rfl (lv_at hl 1 rfl) ?_
        obtain ⟨y48, hy48, hF⟩ := bd_some hF
        refine r_bv (va_runV (As := [.int u1]) (rest := []) ⟨hx, hb, hml, hown, htA⟩ (m_X7_takeLevels l G g ad n a0 aM σ u1 y48  hy48) (cwV 1 htA (gV aw_497 aw_498 aw_499 aw_382 gz_X7_takeLevels) rfl rfl rfl (by decide +kernel) ⟨Nat.le_of_ble_eq_true rfl, Nat.le_of_ble_eq_true rfl⟩) (r_preV hK hW (27) (tp_lt (by decide)) (cE_k (rfl : kd 27 = 9)) rfl [.int u1]) rfl rfl hl.1 rfl (lv_room (Nat.le_of_ble_eq_true rfl)) dX7_look_46 ⟨Nat.zero_le _, Nat.zero_le _⟩) hW (fun H locs hW => ?_)
        refine lv_iinc (v := (u1 + 1)) (lv' := [(1, .int (u1 + 1)), (0, .ref (ad (27)))]) hx hb dX7_look_49 hl (k := 1) rfl rfl (by decide) rfl (fun ls hl => ?_)
        refine lv_goto (tgt := 36) hx hb dX7_look_52 (by decide) ?_
        exact hB36 y48 (u1 + 1) _ _ _  hW (lv_sub hl [1, 0] rfl) hF
  have hL36 := hL36 fu
  have hl := lv_entry ([.ref (ad (27))]) (n := 6) (Nat.le_of_ble_eq_true rfl)
  rw [lg_entry_eq]
  generalize (lg_sl ([.ref (ad (27))]) ++ List.replicate (6 - (lg_sl ([.ref (ad (27))])).length) Slot.unset).toArray = ls at hl ⊢
  have hl : lv_has ls 6 [(0, .ref (ad (27)))] := hl
  unfold F_X7_look at hF
  refine lv_aload_n hx hb dX7_look_0 rfl (lv_at hl 0 rfl) ?_
  refine lv_dup hx hb dX7_look_1 rfl ?_
  refine r_get (C := RX7) (T := TX7) (N := 39) hx hb htA ia_X7 hown hK hW (27) (tp_lt (by decide)) (cE_k (rfl : kd 27 = 9)) rfl 21 (by decide) (htA _ aw_403) rfl dX7_look_2 ?_
  refine lv_iconst (v := 1) hx hb dX7_look_5 (by decide) ?_
  refine lv_iadd hx hb dX7_look_6 ?_
  refine r_putI (C := RX7) (T := TX7) (N := 39) (ty := .int) hx hb htA ia_X7 tyX7 tyX7_ok nmX7 hown hK hW (27) (tp_lt (by decide)) (cE_k (rfl : kd 27 = 9)) rfl 21 (by decide) (cE_k (rfl : kd 27 = 9)) (htA _ aw_403) rfl (by decide +kernel) rfl rfl (Nat.le_of_ble_eq_true rfl) dX7_look_7 (fun H locs hW => ?_)
  obtain ⟨w49, ew49, hF⟩ := nm_some hF
  rw [← ew49] at hW
  refine lv_aload_n hx hb dX7_look_10 rfl (lv_at hl 0 rfl) ?_
  obtain ⟨y50, hy50, hF⟩ := bd_some hF
  refine r_bv (va_runV (As := []) (rest := []) ⟨hx, hb, hml, hown, htA⟩ (m_X7_doDue l G g ad n a0 aM w49 y50  hy50) (cwV 0 htA (gV aw_493 aw_494 aw_495 aw_382 gz_X7_doDue) rfl rfl rfl (by decide +kernel) ⟨Nat.le_of_ble_eq_true rfl, Nat.le_of_ble_eq_true rfl⟩) (r_preV hK hW (27) (tp_lt (by decide)) (cE_k (rfl : kd 27 = 9)) rfl []) rfl rfl hl.1 rfl (lv_room (Nat.le_of_ble_eq_true rfl)) dX7_look_11 ⟨Nat.zero_le _, Nat.zero_le _⟩) hW (fun H locs hW => ?_)
  refine lv_aload_n hx hb dX7_look_14 rfl (lv_at hl 0 rfl) ?_
  refine lv_iconst (v := 0) hx hb dX7_look_15 (by decide) ?_
  refine r_putI (C := RX7) (T := TX7) (N := 39) (ty := .int) hx hb htA ia_X7 tyX7 tyX7_ok nmX7 hown hK hW (27) (tp_lt (by decide)) (cE_k (rfl : kd 27 = 9)) rfl 25 (by decide) (cE_k (rfl : kd 27 = 9)) (htA _ aw_489) rfl (by decide +kernel) rfl rfl (Nat.le_of_ble_eq_true rfl) dX7_look_16 (fun H locs hW => ?_)
  obtain ⟨w51, ew51, hF⟩ := nm_some hF
  rw [← ew51] at hW
  refine lv_aload_n hx hb dX7_look_19 rfl (lv_at hl 0 rfl) ?_
  refine r_get (C := RX7) (T := TX7) (N := 39) hx hb htA ia_X7 hown hK hW (27) (tp_lt (by decide)) (cE_k (rfl : kd 27 = 9)) rfl 23 (by decide) (htA _ aw_404) rfl dX7_look_20 ?_
  refine lv_if_le (tgt := 58) hx hb dX7_look_23 (by decide) (fun hc52 => ?_) (fun hc52 => ?_)
  · replace hF := (if_pos hc52).symm.trans hF
    exact hL58 w51 _ _ _  hW (lv_sub hl [0] rfl) hF
  · replace hF := (if_neg hc52).symm.trans hF
    refine lv_aload_n hx hb dX7_look_26 rfl (lv_at hl 0 rfl) ?_
    refine lv_iconst (v := 0) hx hb dX7_look_27 (by decide) ?_
    obtain ⟨y53, hy53, hF⟩ := bd_some hF
    refine r_bi (va_runV (As := [.int 0]) (rest := []) ⟨hx, hb, hml, hown, htA⟩ (m_X7_at l G g ad n a0 aM w51 0 y53  hy53) (cwV 1 htA (gV aw_398 aw_399 aw_400 aw_382 gz_X7_at) rfl rfl rfl (by decide +kernel) ⟨Nat.le_of_ble_eq_true rfl, Nat.le_of_ble_eq_true rfl⟩) (r_preV hK hW (27) (tp_lt (by decide)) (cE_k (rfl : kd 27 = 9)) rfl [.int 0]) rfl rfl hl.1 rfl (lv_room (Nat.le_of_ble_eq_true rfl)) dX7_look_28 ⟨Nat.zero_le _, Nat.zero_le _⟩) hW (fun H locs hW => ?_)
    refine lv_if_ne (tgt := 58) hx hb dX7_look_31 (by decide) (fun hc54 => ?_) (fun hc54 => ?_)
    · replace hF := (if_neg hc54).symm.trans hF
      exact hL58 y53.1 _ _ _  hW (lv_sub hl [0] rfl) hF
    · replace hF := (if_pos hc54).symm.trans hF
      refine lv_iconst (v := 0) hx hb dX7_look_34 (by decide) ?_
      refine lv_istore_n (lv' := [(1, .int 0), (0, .ref (ad (27)))]) hx hb dX7_look_35 rfl hl (by decide) rfl (fun ls hl => ?_)
      exact hL36 y53.1 0 _ _ _  hW (lv_sub hl [1, 0] rfl) hF
def F_X7_send_L57 (σ : St) : Option (St × Int32) := nm (sI σ (27) 20 0) (fun w8 => (F_X7_look w8).bind (fun y9 => some (y9, (y9.1 (27) 25))))
def F_X7_send_L31 (K57 : St → Option (St × Int32)) : Nat → St → Int32 → Option (St × Int32)
  | 0, _, _ => none
  | fz + 1, σ, u1 => if (σ.1 (27) 23) ≤ u1 then K57 σ else gd (ib u1 (ln (45))) (gd (ib u1 (ln (46))) (nm (sI σ (46) (Int32.toNatClampNeg u1) (vp_nar .byte (σ.1 (45) (Int32.toNatClampNeg u1)))) (fun w13 => (F_X7_send_L31 K57 fz) w13 (u1 + 1))))
def F_X7_send_L26 (σ : St) (z0 : Int32) : Option (St × Int32) := nm (sI σ (27) 23 z0) (fun w14 => F_X7_send_L31 F_X7_send_L57 fu w14 0)
def F_X7_send (σ : St) : Option (St × Int32) := nm (sI σ (27) 0 0) (fun w15 => if (w15.1 (27) 20) ≤ 513 then F_X7_send_L26 w15 (w15.1 (27) 20) else F_X7_send_L26 w15 513)
set_option maxHeartbeats 4000000 in
set_option maxRecDepth 100000 in
theorem m_X7_send (l : Launch) (G : va_G) (g : Nat → ClassId) (ad : Nat → Nat) (n a0 aM : Nat) (σ : St) (x : St × Int32) (hF : F_X7_send σ = some x) : Met l yX7_send zs_X7_send ({ frames := 8, cells := 0, slots := 0, locals := 189 } : Room) (va_Pc [.ref (ad (27))] (wP G g ad n a0 aM σ)) (qI G g ad n a0 x) 0 0 (fun q : Nat => a0 ≤ q) := by
  refine Met.ofW (cc := cX7_send) (maxL := 2) (ret := (some .int)) (by decide) rfl ?_
  intro p e s m args below meth c s₁ B hml hv
  obtain ⟨rfl, hP, hD, hK⟩ := hv
  have hx := B.exec
  have hb := B.bytes
  have hr := B.returns
  have htA : ∀ w ∈ AL, w.before _ s = true := fun w h9 => atoms_spec (ws := zs_X7_send) B.pre w (List.mem_cons_of_mem _ h9)
  have hown : s.vm.findClass RX7 = some m.cls := findClass_of_methodNamed B.named
  have hlocks := B.notSynchronized
  have hW : Wd G g ad n a0 s.heap σ s.heap [] := ⟨hP, hD, va_S.rf⟩
  clear hP hD
  have hL57 : ∀ (σ : St) (H : Heap) (locs : List Loc) (ls : Array Slot), Wd G g ad n a0 s.heap σ H locs → lv_has ls 2 [(0, .ref (ad (27)))] → F_X7_send_L57  σ = some x → W p l e (headSpec zs_X7_send ({ frames := 8, cells := 0, slots := 0, locals := 189 } : Room)).room s m ([.ref (ad (27))] : List Value).toArray below meth c H locs 0 0 (MQ below (qI G g ad n a0 x) ([.ref (ad (27))] : List Value).toArray s 0 0 (fun q : Nat => a0 ≤ q)) (F0 m 57 ls []) := by
    intro σ H locs ls hW hl hF
    unfold F_X7_send_L57 at hF
    refine lv_aload_n hx hb dX7_send_57 rfl (lv_at hl 0 rfl) ?_
    refine lv_iconst (v := 0) hx hb dX7_send_58 (by decide) ?_
    refine r_putI (C := RX7) (T := TX7) (N := 39) (ty := .int) hx hb htA ia_X7 tyX7 tyX7_ok nmX7 hown hK hW (27) (tp_lt (by decide)) (cE_k (rfl : kd 27 = 9)) rfl 20 (by decide) (cE_k (rfl : kd 27 = 9)) (htA _ aw_393) rfl (by decide +kernel) rfl rfl (Nat.le_of_ble_eq_true rfl) dX7_send_59 (fun H locs hW => ?_)
    obtain ⟨w8, ew8, hF⟩ := nm_some hF
    rw [← ew8] at hW
    refine lv_aload_n hx hb dX7_send_62 rfl (lv_at hl 0 rfl) ?_
    obtain ⟨y9, hy9, hF⟩ := bd_some hF
    refine r_bv (va_runV (As := []) (rest := []) ⟨hx, hb, hml, hown, htA⟩ (m_X7_look l G g ad n a0 aM w8 y9  hy9) (cwV 0 htA (gV aw_513 aw_514 aw_515 aw_382 gz_X7_look) rfl rfl rfl (by decide +kernel) ⟨Nat.le_of_ble_eq_true rfl, Nat.le_of_ble_eq_true rfl⟩) (r_preV hK hW (27) (tp_lt (by decide)) (cE_k (rfl : kd 27 = 9)) rfl []) rfl rfl hl.1 rfl (lv_room (Nat.le_of_ble_eq_true rfl)) dX7_send_63 ⟨Nat.zero_le _, Nat.zero_le _⟩) hW (fun H locs hW => ?_)
    refine lv_aload_n hx hb dX7_send_66 rfl (lv_at hl 0 rfl) ?_
    refine r_get (C := RX7) (T := TX7) (N := 39) hx hb htA ia_X7 hown hK hW (27) (tp_lt (by decide)) (cE_k (rfl : kd 27 = 9)) rfl 25 (by decide) (htA _ aw_489) rfl dX7_send_67 ?_
    exact r_iret hx hb hr hlocks hW hF dX7_send_70
  have hL31 : ∀ (fz31 : Nat) (σ : St) (u1 : Int32) (H : Heap) (locs : List Loc) (ls : Array Slot), Wd G g ad n a0 s.heap σ H locs → lv_has ls 2 [(0, .ref (ad (27))), (1, .int u1)] → F_X7_send_L31 (F_X7_send_L57) fz31 σ u1 = some x → W p l e (headSpec zs_X7_send ({ frames := 8, cells := 0, slots := 0, locals := 189 } : Room)).room s m ([.ref (ad (27))] : List Value).toArray below meth c H locs 0 0 (MQ below (qI G g ad n a0 x) ([.ref (ad (27))] : List Value).toArray s 0 0 (fun q : Nat => a0 ≤ q)) (F0 m 31 ls []) := by
    intro fz31
    induction fz31 with
    | zero =>
      intro σ u1 H locs ls hW hl hF
      exact absurd hF (by simp [F_X7_send_L31])
    | succ fz31 ih =>
      have hB31 := ih
      intro σ u1 H locs ls hW hl hF
      unfold F_X7_send_L31 at hF
      refine lv_iload_n hx hb dX7_send_31 rfl (lv_at hl 1 rfl) ?_
      refine lv_aload_n hx hb dX7_send_32 rfl (lv_at hl 0 rfl) ?_
      refine r_get (C := RX7) (T := TX7) (N := 39) hx hb htA ia_X7 hown hK hW (27) (tp_lt (by decide)) (cE_k (rfl : kd 27 = 9)) rfl 23 (by decide) (htA _ aw_404) rfl dX7_send_33 ?_
      refine lv_icmp_ge (tgt := 57) hx hb dX7_send_36 (by decide) (fun hc10 => ?_) (fun hc10 => ?_)
      · replace hF := (if_pos hc10).symm.trans hF
        exact hL57 σ _ _ _  hW (lv_sub hl [0] rfl) hF
      · replace hF := (if_neg hc10).symm.trans hF
        refine lv_aload_n hx hb dX7_send_39 rfl (lv_at hl 0 rfl) ?_
        refine r_get (C := RX7) (T := TX7) (N := 39) hx hb htA ia_X7 hown hK hW (27) (tp_lt (by decide)) (cE_k (rfl : kd 27 = 9)) rfl 22 (by decide) (htA _ aw_371) rfl dX7_send_40 ?_
        refine lv_iload_n hx hb dX7_send_43 rfl (lv_at hl 1 rfl) ?_
        refine lv_aload_n hx hb dX7_send_44 rfl (lv_at hl 0 rfl) ?_
        refine r_get (C := RX7) (T := TX7) (N := 39) hx hb htA ia_X7 hown hK hW (27) (tp_lt (by decide)) (cE_k (rfl : kd 27 = 9)) rfl 19 (by decide) (htA _ aw_370) rfl dX7_send_45 ?_
        refine lv_iload_n hx hb dX7_send_48 rfl (lv_at hl 1 rfl) ?_
        obtain ⟨hg11, hF⟩ := gd_some hF
        refine r_bald hx hb hK hW (45) (tp_lt (by decide)) (rfl : kd 45 = 10) hg11 dX7_send_49 ?_
        obtain ⟨hg12, hF⟩ := gd_some hF
        refine r_bast hx hb hK hW (46) (tp_lt (by decide)) (rfl : kd 46 = 10) hg12 dX7_send_50 (fun H locs hW => ?_)
        obtain ⟨w13, ew13, hF⟩ := nm_some hF
        rw [← ew13] at hW
        refine lv_iinc (v := (u1 + 1)) (lv' := [(1, .int (u1 + 1)), (0, .ref (ad (27)))]) hx hb dX7_send_51 hl (k := 1) rfl rfl (by decide) rfl (fun ls hl => ?_)
        refine lv_goto (tgt := 31) hx hb dX7_send_54 (by decide) ?_
        exact hB31 w13 (u1 + 1) _ _ _  hW (lv_sub hl [1, 0] rfl) hF
  have hL31 := hL31 fu
  have hL26 : ∀ (σ : St) (z0 : Int32) (H : Heap) (locs : List Loc) (ls : Array Slot), Wd G g ad n a0 s.heap σ H locs → lv_has ls 2 [(0, .ref (ad (27)))] → F_X7_send_L26  σ z0 = some x → W p l e (headSpec zs_X7_send ({ frames := 8, cells := 0, slots := 0, locals := 189 } : Room)).room s m ([.ref (ad (27))] : List Value).toArray below meth c H locs 0 0 (MQ below (qI G g ad n a0 x) ([.ref (ad (27))] : List Value).toArray s 0 0 (fun q : Nat => a0 ≤ q)) (F0 m 26 ls [.int z0, .ref (ad (27))]) := by
    intro σ z0 H locs ls hW hl hF
    unfold F_X7_send_L26 at hF
    refine r_putI (C := RX7) (T := TX7) (N := 39) (ty := .int) hx hb htA ia_X7 tyX7 tyX7_ok nmX7 hown hK hW (27) (tp_lt (by decide)) (cE_k (rfl : kd 27 = 9)) rfl 23 (by decide) (cE_k (rfl : kd 27 = 9)) (htA _ aw_404) rfl (by decide +kernel) rfl rfl (Nat.le_of_ble_eq_true rfl) dX7_send_26 (fun H locs hW => ?_)
    obtain ⟨w14, ew14, hF⟩ := nm_some hF
    rw [← ew14] at hW
    refine lv_iconst (v := 0) hx hb dX7_send_29 (by decide) ?_
    refine lv_istore_n (lv' := [(1, .int 0), (0, .ref (ad (27)))]) hx hb dX7_send_30 rfl hl (by decide) rfl (fun ls hl => ?_)
    exact hL31 w14 0 _ _ _  hW (lv_sub hl [1, 0] rfl) hF
  have hl := lv_entry ([.ref (ad (27))]) (n := 2) (Nat.le_of_ble_eq_true rfl)
  rw [lg_entry_eq]
  generalize (lg_sl ([.ref (ad (27))]) ++ List.replicate (2 - (lg_sl ([.ref (ad (27))])).length) Slot.unset).toArray = ls at hl ⊢
  have hl : lv_has ls 2 [(0, .ref (ad (27)))] := hl
  unfold F_X7_send at hF
  refine lv_aload_n hx hb dX7_send_0 rfl (lv_at hl 0 rfl) ?_
  refine lv_iconst (v := 0) hx hb dX7_send_1 (by decide) ?_
  refine r_putI (C := RX7) (T := TX7) (N := 39) (ty := .int) hx hb htA ia_X7 tyX7 tyX7_ok nmX7 hown hK hW (27) (tp_lt (by decide)) (cE_k (rfl : kd 27 = 9)) rfl 0 (by decide) (cE_k (rfl : kd 27 = 9)) (htA _ aw_379) rfl (by decide +kernel) rfl rfl (Nat.le_of_ble_eq_true rfl) dX7_send_2 (fun H locs hW => ?_)
  obtain ⟨w15, ew15, hF⟩ := nm_some hF
  rw [← ew15] at hW
  refine lv_aload_n hx hb dX7_send_5 rfl (lv_at hl 0 rfl) ?_
  refine lv_aload_n hx hb dX7_send_6 rfl (lv_at hl 0 rfl) ?_
  refine r_get (C := RX7) (T := TX7) (N := 39) hx hb htA ia_X7 hown hK hW (27) (tp_lt (by decide)) (cE_k (rfl : kd 27 = 9)) rfl 20 (by decide) (htA _ aw_393) rfl dX7_send_7 ?_
  refine lv_sipush (v := 513) hx hb dX7_send_10 (by decide) ?_
  refine lv_icmp_le (tgt := 22) hx hb dX7_send_13 (by decide) (fun hc16 => ?_) (fun hc16 => ?_)
  · replace hF := (if_pos hc16).symm.trans hF
    refine lv_aload_n hx hb dX7_send_22 rfl (lv_at hl 0 rfl) ?_
    refine r_get (C := RX7) (T := TX7) (N := 39) hx hb htA ia_X7 hown hK hW (27) (tp_lt (by decide)) (cE_k (rfl : kd 27 = 9)) rfl 20 (by decide) (htA _ aw_393) rfl dX7_send_23 ?_
    exact hL26 w15 (w15.1 (27) 20) _ _ _  hW (lv_sub hl [0] rfl) hF
  · replace hF := (if_neg hc16).symm.trans hF
    refine lv_sipush (v := 513) hx hb dX7_send_16 (by decide) ?_
    refine lv_goto (tgt := 26) hx hb dX7_send_19 (by decide) ?_
    exact hL26 w15 513 _ _ _  hW (lv_sub hl [0] rfl) hF
def F_X7_answer (σ : St) (x1 : Int32) : Option (St × Int32) := (F_X7_in σ (Int32.toInt64 x1) 0 (Int32.toInt64 ((σ.1 (27) 25) - 1))).bind (fun y4 => (F_X7_goes y4.1 y4.2).bind (fun y5 => if y5.2 = 0 then some (y5.1, 0) else gd (ib x1 (ln (47))) (some (y5.1, ((y5.1.1 (47) (Int32.toNatClampNeg x1)) &&& 255)))))
set_option maxHeartbeats 4000000 in
set_option maxRecDepth 100000 in
theorem m_X7_answer (l : Launch) (G : va_G) (g : Nat → ClassId) (ad : Nat → Nat) (n a0 aM : Nat) (σ : St) (x1 : Int32) (x : St × Int32) (hF : F_X7_answer σ x1 = some x) : Met l yX7_answer zs_X7_answer ({ frames := 1, cells := 0, slots := 0, locals := 25 } : Room) (va_Pc [.ref (ad (27)), .int x1] (wP G g ad n a0 aM σ)) (qI G g ad n a0 x) 0 0 (fun q : Nat => a0 ≤ q) := by
  refine Met.ofW (cc := cX7_answer) (maxL := 2) (ret := (some .int)) (by decide) rfl ?_
  intro p e s m args below meth c s₁ B hml hv
  obtain ⟨rfl, hP, hD, hK⟩ := hv
  have hx := B.exec
  have hb := B.bytes
  have hr := B.returns
  have htA : ∀ w ∈ AL, w.before _ s = true := fun w h9 => atoms_spec (ws := zs_X7_answer) B.pre w (List.mem_cons_of_mem _ h9)
  have hown : s.vm.findClass RX7 = some m.cls := findClass_of_methodNamed B.named
  have hlocks := B.notSynchronized
  have hW : Wd G g ad n a0 s.heap σ s.heap [] := ⟨hP, hD, va_S.rf⟩
  clear hP hD
  have hl := lv_entry ([.ref (ad (27)), .int x1]) (n := 2) (Nat.le_of_ble_eq_true rfl)
  rw [lg_entry_eq]
  generalize (lg_sl ([.ref (ad (27)), .int x1]) ++ List.replicate (2 - (lg_sl ([.ref (ad (27)), .int x1])).length) Slot.unset).toArray = ls at hl ⊢
  have hl : lv_has ls 2 [(0, .ref (ad (27))), (1, .int x1)] := hl
  unfold F_X7_answer at hF
  refine lv_aload_n hx hb dX7_answer_0 rfl (lv_at hl 0 rfl) ?_
  refine lv_iload_n hx hb dX7_answer_1 rfl (lv_at hl 1 rfl) ?_
  refine lv_i2l (v := (Int32.toInt64 x1)) hx hb dX7_answer_2 rfl ?_
  refine lv_lconst (v := 0) hx hb dX7_answer_3 (by decide) ?_
  refine lv_aload_n hx hb dX7_answer_4 rfl (lv_at hl 0 rfl) ?_
  refine r_get (C := RX7) (T := TX7) (N := 39) hx hb htA ia_X7 hown hK hW (27) (tp_lt (by decide)) (cE_k (rfl : kd 27 = 9)) rfl 25 (by decide) (htA _ aw_489) rfl dX7_answer_5 ?_
  refine lv_iconst (v := 1) hx hb dX7_answer_8 (by decide) ?_
  refine lv_isub hx hb dX7_answer_9 ?_
  refine lv_i2l (v := (Int32.toInt64 ((σ.1 (27) 25) - 1))) hx hb dX7_answer_10 rfl ?_
  obtain ⟨y4, hy4, hF⟩ := bd_some hF
  refine r_bi (va_runS (As := [.long (Int32.toInt64 x1), .long 0, .long (Int32.toInt64 ((σ.1 (27) 25) - 1))]) (rest := [.ref (ad (27))]) ⟨hx, hb, hml, hown, htA⟩ (m_X7_in l G g ad n a0 aM σ (Int32.toInt64 x1) 0 (Int32.toInt64 ((σ.1 (27) 25) - 1)) y4  hy4) (va_cwS 3 htA (gS aw_390 aw_391 aw_382 gz_X7_in) rfl rfl rfl (by decide +kernel) ⟨Nat.le_of_ble_eq_true rfl, Nat.le_of_ble_eq_true rfl⟩) (r_pre hK hW [.long (Int32.toInt64 x1), .long 0, .long (Int32.toInt64 ((σ.1 (27) 25) - 1))]) rfl rfl hl.1 rfl (lv_room (Nat.le_of_ble_eq_true rfl)) dX7_answer_11 ⟨Nat.zero_le _, Nat.zero_le _⟩) hW (fun H locs hW => ?_)
  obtain ⟨y5, hy5, hF⟩ := bd_some hF
  refine r_bi (va_runV (As := [.int y4.2]) (rest := []) ⟨hx, hb, hml, hown, htA⟩ (m_X7_goes l G g ad n a0 aM y4.1 y4.2 y5  hy5) (cwV 1 htA (gV aw_394 aw_395 aw_396 aw_382 gz_X7_goes) rfl rfl rfl (by decide +kernel) ⟨Nat.le_of_ble_eq_true rfl, Nat.le_of_ble_eq_true rfl⟩) (r_preV hK hW (27) (tp_lt (by decide)) (cE_k (rfl : kd 27 = 9)) rfl [.int y4.2]) rfl rfl hl.1 rfl (lv_room (Nat.le_of_ble_eq_true rfl)) dX7_answer_14 ⟨Nat.zero_le _, Nat.zero_le _⟩) hW (fun H locs hW => ?_)
  refine lv_if_eq (tgt := 33) hx hb dX7_answer_17 (by decide) (fun hc6 => ?_) (fun hc6 => ?_)
  · replace hF := (if_pos hc6).symm.trans hF
    refine lv_iconst (v := 0) hx hb dX7_answer_33 (by decide) ?_
    exact r_iret hx hb hr hlocks hW hF dX7_answer_34
  · replace hF := (if_neg hc6).symm.trans hF
    refine lv_aload_n hx hb dX7_answer_20 rfl (lv_at hl 0 rfl) ?_
    refine r_get (C := RX7) (T := TX7) (N := 39) hx hb htA ia_X7 hown hK hW (27) (tp_lt (by decide)) (cE_k (rfl : kd 27 = 9)) rfl 24 (by decide) (htA _ aw_372) rfl dX7_answer_21 ?_
    refine lv_iload_n hx hb dX7_answer_24 rfl (lv_at hl 1 rfl) ?_
    obtain ⟨hg7, hF⟩ := gd_some hF
    refine r_bald hx hb hK hW (47) (tp_lt (by decide)) (rfl : kd 47 = 10) hg7 dX7_answer_25 ?_
    refine lv_sipush (v := 255) hx hb dX7_answer_26 (by decide) ?_
    refine lv_iand hx hb dX7_answer_29 ?_
    refine lv_goto (tgt := 34) hx hb dX7_answer_30 (by decide) ?_
    exact r_iret hx hb hr hlocks hW hF dX7_answer_34
def F_X7_write (σ : St) (x1 : Int32) : Option (St) := gd (ib (σ.1 (27) 23) (ln (46))) (nm (sI σ (46) (Int32.toNatClampNeg (σ.1 (27) 23)) (vp_nar .byte (Int8.toInt32 (Int32.toInt8 x1)))) (fun w5 => nm (sI w5 (27) 23 ((w5.1 (27) 23) + 1)) (fun w6 => some w6)))
set_option maxHeartbeats 4000000 in
set_option maxRecDepth 100000 in
theorem m_X7_write (l : Launch) (G : va_G) (g : Nat → ClassId) (ad : Nat → Nat) (n a0 aM : Nat) (σ : St) (x1 : Int32) (x : St) (hF : F_X7_write σ x1 = some x) : Met l yX7_write zs_X7_write ({ frames := 0, cells := 0, slots := 0, locals := 0 } : Room) (va_Pc [.ref (ad (27)), .int x1] (wP G g ad n a0 aM σ)) (qV G g ad n a0 x) 0 0 (fun q : Nat => a0 ≤ q) := by
  refine Met.ofW (cc := cX7_write) (maxL := 2) (ret := none) (by decide) rfl ?_
  intro p e s m args below meth c s₁ B hml hv
  obtain ⟨rfl, hP, hD, hK⟩ := hv
  have hx := B.exec
  have hb := B.bytes
  have hr := B.returns
  have htA : ∀ w ∈ AL, w.before _ s = true := fun w h9 => atoms_spec (ws := zs_X7_write) B.pre w (List.mem_cons_of_mem _ h9)
  have hown : s.vm.findClass RX7 = some m.cls := findClass_of_methodNamed B.named
  have hlocks := B.notSynchronized
  have hW : Wd G g ad n a0 s.heap σ s.heap [] := ⟨hP, hD, va_S.rf⟩
  clear hP hD
  have hl := lv_entry ([.ref (ad (27)), .int x1]) (n := 2) (Nat.le_of_ble_eq_true rfl)
  rw [lg_entry_eq]
  generalize (lg_sl ([.ref (ad (27)), .int x1]) ++ List.replicate (2 - (lg_sl ([.ref (ad (27)), .int x1])).length) Slot.unset).toArray = ls at hl ⊢
  have hl : lv_has ls 2 [(0, .ref (ad (27))), (1, .int x1)] := hl
  unfold F_X7_write at hF
  refine lv_aload_n hx hb dX7_write_0 rfl (lv_at hl 0 rfl) ?_
  refine r_get (C := RX7) (T := TX7) (N := 39) hx hb htA ia_X7 hown hK hW (27) (tp_lt (by decide)) (cE_k (rfl : kd 27 = 9)) rfl 22 (by decide) (htA _ aw_371) rfl dX7_write_1 ?_
  refine lv_aload_n hx hb dX7_write_4 rfl (lv_at hl 0 rfl) ?_
  refine r_get (C := RX7) (T := TX7) (N := 39) hx hb htA ia_X7 hown hK hW (27) (tp_lt (by decide)) (cE_k (rfl : kd 27 = 9)) rfl 23 (by decide) (htA _ aw_404) rfl dX7_write_5 ?_
  refine lv_iload_n hx hb dX7_write_8 rfl (lv_at hl 1 rfl) ?_
  refine lv_i2b (v := (Int8.toInt32 (Int32.toInt8 x1))) hx hb dX7_write_9 rfl ?_
  obtain ⟨hg4, hF⟩ := gd_some hF
  refine r_bast hx hb hK hW (46) (tp_lt (by decide)) (rfl : kd 46 = 10) hg4 dX7_write_10 (fun H locs hW => ?_)
  obtain ⟨w5, ew5, hF⟩ := nm_some hF
  rw [← ew5] at hW
  refine lv_aload_n hx hb dX7_write_11 rfl (lv_at hl 0 rfl) ?_
  refine lv_dup hx hb dX7_write_12 rfl ?_
  refine r_get (C := RX7) (T := TX7) (N := 39) hx hb htA ia_X7 hown hK hW (27) (tp_lt (by decide)) (cE_k (rfl : kd 27 = 9)) rfl 23 (by decide) (htA _ aw_404) rfl dX7_write_13 ?_
  refine lv_iconst (v := 1) hx hb dX7_write_16 (by decide) ?_
  refine lv_iadd hx hb dX7_write_17 ?_
  refine r_putI (C := RX7) (T := TX7) (N := 39) (ty := .int) hx hb htA ia_X7 tyX7 tyX7_ok nmX7 hown hK hW (27) (tp_lt (by decide)) (cE_k (rfl : kd 27 = 9)) rfl 23 (by decide) (cE_k (rfl : kd 27 = 9)) (htA _ aw_404) rfl (by decide +kernel) rfl rfl (Nat.le_of_ble_eq_true rfl) dX7_write_18 (fun H locs hW => ?_)
  obtain ⟨w6, ew6, hF⟩ := nm_some hF
  rw [← ew6] at hW
  exact r_vret hx hb hr hlocks hW hF dX7_write_21
def F_X7_writeSix_L21 (σ : St) : Option (St) := some σ
def F_X7_writeSix_L3 (K21 : St → Option (St)) : Nat → St → Int64 → Int32 → Option (St)
  | 0, _, _, _ => none
  | fz + 1, σ, u1, u3 => if u3 < 0 then K21 σ else (F_X7_write σ (Int64.toInt32 (u1 >>> ((Int32.toInt64 u3) &&& 63)))).bind (fun y3 => (F_X7_writeSix_L3 K21 fz) y3 u1 (u3 + (-8)))
def F_X7_writeSix (σ : St) (x1 : Int64) : Option (St) := F_X7_writeSix_L3 F_X7_writeSix_L21 fu σ x1 40
set_option maxHeartbeats 4000000 in
set_option maxRecDepth 100000 in
theorem m_X7_writeSix (l : Launch) (G : va_G) (g : Nat → ClassId) (ad : Nat → Nat) (n a0 aM : Nat) (σ : St) (x1 : Int64) (x : St) (hF : F_X7_writeSix σ x1 = some x) : Met l yX7_writeSix zs_X7_writeSix ({ frames := 1, cells := 0, slots := 0, locals := 21 } : Room) (va_Pc [.ref (ad (27)), .long x1] (wP G g ad n a0 aM σ)) (qV G g ad n a0 x) 0 0 (fun q : Nat => a0 ≤ q) := by
  refine Met.ofW (cc := cX7_writeSix) (maxL := 4) (ret := none) (by decide) rfl ?_
  intro p e s m args below meth c s₁ B hml hv
  obtain ⟨rfl, hP, hD, hK⟩ := hv
  have hx := B.exec
  have hb := B.bytes
  have hr := B.returns
  have htA : ∀ w ∈ AL, w.before _ s = true := fun w h9 => atoms_spec (ws := zs_X7_writeSix) B.pre w (List.mem_cons_of_mem _ h9)
  have hown : s.vm.findClass RX7 = some m.cls := findClass_of_methodNamed B.named
  have hlocks := B.notSynchronized
  have hW : Wd G g ad n a0 s.heap σ s.heap [] := ⟨hP, hD, va_S.rf⟩
  clear hP hD
  have hL21 : ∀ (σ : St) (H : Heap) (locs : List Loc) (ls : Array Slot), Wd G g ad n a0 s.heap σ H locs → lv_has ls 4 [] → F_X7_writeSix_L21  σ = some x → W p l e (headSpec zs_X7_writeSix ({ frames := 1, cells := 0, slots := 0, locals := 21 } : Room)).room s m ([.ref (ad (27)), .long x1] : List Value).toArray below meth c H locs 0 0 (MQ below (qV G g ad n a0 x) ([.ref (ad (27)), .long x1] : List Value).toArray s 0 0 (fun q : Nat => a0 ≤ q)) (F0 m 21 ls []) := by
    intro σ H locs ls hW hl hF
    unfold F_X7_writeSix_L21 at hF
    exact r_vret hx hb hr hlocks hW hF dX7_writeSix_21
  have hL3 : ∀ (fz3 : Nat) (σ : St) (u1 : Int64) (u3 : Int32) (H : Heap) (locs : List Loc) (ls : Array Slot), Wd G g ad n a0 s.heap σ H locs → lv_has ls 4 [(0, .ref (ad (27))), (1, .long u1), (3, .int u3)] → F_X7_writeSix_L3 (F_X7_writeSix_L21) fz3 σ u1 u3 = some x → W p l e (headSpec zs_X7_writeSix ({ frames := 1, cells := 0, slots := 0, locals := 21 } : Room)).room s m ([.ref (ad (27)), .long x1] : List Value).toArray below meth c H locs 0 0 (MQ below (qV G g ad n a0 x) ([.ref (ad (27)), .long x1] : List Value).toArray s 0 0 (fun q : Nat => a0 ≤ q)) (F0 m 3 ls []) := by
    intro fz3
    induction fz3 with
    | zero =>
      intro σ u1 u3 H locs ls hW hl hF
      exact absurd hF (by simp [F_X7_writeSix_L3])
    | succ fz3 ih =>
      have hB3 := ih
      intro σ u1 u3 H locs ls hW hl hF
      unfold F_X7_writeSix_L3 at hF
      refine lv_iload_n hx hb dX7_writeSix_3 rfl (lv_at hl 2 rfl) ?_
      refine lv_if_lt (tgt := 21) hx hb dX7_writeSix_4 (by decide) (fun hc2 => ?_) (fun hc2 => ?_)
      · replace hF := (if_pos hc2).symm.trans hF
        exact hL21 σ _ _ _  hW (lv_sub hl [] rfl) hF
      · replace hF := (if_neg hc2).symm.trans hF
        refine lv_aload_n hx hb dX7_writeSix_7 rfl (lv_at hl 0 rfl) ?_
        refine lv_lload_n hx hb dX7_writeSix_8 rfl (lv_at hl 1 rfl) ?_
        refine lv_iload_n hx hb dX7_writeSix_9 rfl (lv_at hl 2 rfl) ?_
        refine lv_lshr (v := (u1 >>> ((Int32.toInt64 u3) &&& 63))) hx hb dX7_writeSix_10 rfl ?_
        refine lv_l2i (v := (Int64.toInt32 (u1 >>> ((Int32.toInt64 u3) &&& 63)))) hx hb dX7_writeSix_11 rfl ?_
        obtain ⟨y3, hy3, hF⟩ := bd_some hF
        refine r_bv (va_runV (As := [.int (Int64.toInt32 (u1 >>> ((Int32.toInt64 u3) &&& 63)))]) (rest := []) ⟨hx, hb, hml, hown, htA⟩ (m_X7_write l G g ad n a0 aM σ (Int64.toInt32 (u1 >>> ((Int32.toInt64 u3) &&& 63))) y3  hy3) (cwV 1 htA (gV aw_517 aw_518 aw_519 aw_382 gz_X7_write) rfl rfl rfl (by decide +kernel) ⟨Nat.le_of_ble_eq_true rfl, Nat.le_of_ble_eq_true rfl⟩) (r_preV hK hW (27) (tp_lt (by decide)) (cE_k (rfl : kd 27 = 9)) rfl [.int (Int64.toInt32 (u1 >>> ((Int32.toInt64 u3) &&& 63)))]) rfl rfl hl.1 rfl (lv_room (Nat.le_of_ble_eq_true rfl)) dX7_writeSix_12 ⟨Nat.zero_le _, Nat.zero_le _⟩) hW (fun H locs hW => ?_)
        refine lv_iinc (v := (u3 + (-8))) (lv' := [(3, .int (u3 + (-8))), (0, .ref (ad (27))), (1, .long u1)]) hx hb dX7_writeSix_15 hl (k := 2) rfl rfl (by decide) rfl (fun ls hl => ?_)
        refine lv_goto (tgt := 3) hx hb dX7_writeSix_18 (by decide) ?_
        exact hB3 y3 u1 (u3 + (-8)) _ _ _  hW (lv_sub hl [1, 2, 0] rfl) hF
  have hL3 := hL3 fu
  have hl := lv_entry ([.ref (ad (27)), .long x1]) (n := 4) (Nat.le_of_ble_eq_true rfl)
  rw [lg_entry_eq]
  generalize (lg_sl ([.ref (ad (27)), .long x1]) ++ List.replicate (4 - (lg_sl ([.ref (ad (27)), .long x1])).length) Slot.unset).toArray = ls at hl ⊢
  have hl : lv_has ls 4 [(0, .ref (ad (27))), (1, .long x1)] := hl
  unfold F_X7_writeSix at hF
  refine lv_bipush (v := 40) hx hb dX7_writeSix_0 (by decide) ?_
  refine lv_istore_n (lv' := [(3, .int 40), (0, .ref (ad (27))), (1, .long x1)]) hx hb dX7_writeSix_2 rfl hl (by decide) rfl (fun ls hl => ?_)
  exact hL3 σ x1 40 _ _ _  hW (lv_sub hl [1, 2, 0] rfl) hF
def F_X7_beginPacket (σ : St) (x1 : Int64) (x3 : Int32) (x4 : Int32) (x5 : Int32) : Option (St) := nm (sI σ (27) 31 (((σ.1 (27) 31) + 1) - ((σ.1 (27) 31) + 1) / 256 * 256)) (fun w18 => nm (sI w18 (27) 23 0) (fun w19 => (F_X7_write w19 204).bind (fun y20 => (F_X7_write y20 1).bind (fun y21 => (F_X7_write y21 0).bind (fun y22 => (F_X7_writeSix y22 x1).bind (fun y23 => (F_X7_idOf y23 32766 1).bind (fun y24 => (F_X7_writeSix y24.1 y24.2).bind (fun y25 => (F_X7_write y25 (y25.1 (27) 31)).bind (fun y26 => (F_X7_write y26 1).bind (fun y27 => (F_X7_write y27 0).bind (fun y28 => (F_X7_write y28 (x3 >>> (8 &&& 31))).bind (fun y29 => (F_X7_write y29 x3).bind (fun y30 => (F_X7_write y30 x4).bind (fun y31 => (F_X7_write y31 (x5 >>> (8 &&& 31))).bind (fun y32 => (F_X7_write y32 x5).bind (fun y33 => (F_X7_write y33 0).bind (fun y34 => some y34)))))))))))))))))
set_option maxHeartbeats 4000000 in
set_option maxRecDepth 100000 in
theorem m_X7_beginPacket (l : Launch) (G : va_G) (g : Nat → ClassId) (ad : Nat → Nat) (n a0 aM : Nat) (σ : St) (x1 : Int64) (x3 : Int32) (x4 : Int32) (x5 : Int32) (x : St) (hF : F_X7_beginPacket σ x1 x3 x4 x5 = some x) : Met l yX7_beginPacket zs_X7_beginPacket ({ frames := 2, cells := 0, slots := 0, locals := 44 } : Room) (va_Pc [.ref (ad (27)), .long x1, .int x3, .int x4, .int x5] (wP G g ad n a0 aM σ)) (qV G g ad n a0 x) 0 0 (fun q : Nat => a0 ≤ q) := by
  refine Met.ofW (cc := cX7_beginPacket) (maxL := 6) (ret := none) (by decide) rfl ?_
  intro p e s m args below meth c s₁ B hml hv
  obtain ⟨rfl, hP, hD, hK⟩ := hv
  have hx := B.exec
  have hb := B.bytes
  have hr := B.returns
  have htA : ∀ w ∈ AL, w.before _ s = true := fun w h9 => atoms_spec (ws := zs_X7_beginPacket) B.pre w (List.mem_cons_of_mem _ h9)
  have hown : s.vm.findClass RX7 = some m.cls := findClass_of_methodNamed B.named
  have hlocks := B.notSynchronized
  have hW : Wd G g ad n a0 s.heap σ s.heap [] := ⟨hP, hD, va_S.rf⟩
  clear hP hD
  have hl := lv_entry ([.ref (ad (27)), .long x1, .int x3, .int x4, .int x5]) (n := 6) (Nat.le_of_ble_eq_true rfl)
  rw [lg_entry_eq]
  generalize (lg_sl ([.ref (ad (27)), .long x1, .int x3, .int x4, .int x5]) ++ List.replicate (6 - (lg_sl ([.ref (ad (27)), .long x1, .int x3, .int x4, .int x5])).length) Slot.unset).toArray = ls at hl ⊢
  have hl : lv_has ls 6 [(0, .ref (ad (27))), (1, .long x1), (3, .int x3), (4, .int x4), (5, .int x5)] := hl
  unfold F_X7_beginPacket at hF
  refine lv_aload_n hx hb dX7_beginPacket_0 rfl (lv_at hl 0 rfl) ?_
  refine lv_aload_n hx hb dX7_beginPacket_1 rfl (lv_at hl 0 rfl) ?_
  refine r_get (C := RX7) (T := TX7) (N := 39) hx hb htA ia_X7 hown hK hW (27) (tp_lt (by decide)) (cE_k (rfl : kd 27 = 9)) rfl 31 (by decide) (htA _ aw_521) rfl dX7_beginPacket_2 ?_
  refine lv_iconst (v := 1) hx hb dX7_beginPacket_5 (by decide) ?_
  refine lv_iadd hx hb dX7_beginPacket_6 ?_
  refine lv_sipush (v := 256) hx hb dX7_beginPacket_7 (by decide) ?_
  refine lv_irem hx hb dX7_beginPacket_10 (by decide) ?_
  refine r_putI (C := RX7) (T := TX7) (N := 39) (ty := .int) hx hb htA ia_X7 tyX7 tyX7_ok nmX7 hown hK hW (27) (tp_lt (by decide)) (cE_k (rfl : kd 27 = 9)) rfl 31 (by decide) (cE_k (rfl : kd 27 = 9)) (htA _ aw_521) rfl (by decide +kernel) rfl rfl (Nat.le_of_ble_eq_true rfl) dX7_beginPacket_11 (fun H locs hW => ?_)
  obtain ⟨w18, ew18, hF⟩ := nm_some hF
  rw [← ew18] at hW
  refine lv_aload_n hx hb dX7_beginPacket_14 rfl (lv_at hl 0 rfl) ?_
  refine lv_iconst (v := 0) hx hb dX7_beginPacket_15 (by decide) ?_
  refine r_putI (C := RX7) (T := TX7) (N := 39) (ty := .int) hx hb htA ia_X7 tyX7 tyX7_ok nmX7 hown hK hW (27) (tp_lt (by decide)) (cE_k (rfl : kd 27 = 9)) rfl 23 (by decide) (cE_k (rfl : kd 27 = 9)) (htA _ aw_404) rfl (by decide +kernel) rfl rfl (Nat.le_of_ble_eq_true rfl) dX7_beginPacket_16 (fun H locs hW => ?_)
  obtain ⟨w19, ew19, hF⟩ := nm_some hF
  rw [← ew19] at hW
  refine lv_aload_n hx hb dX7_beginPacket_19 rfl (lv_at hl 0 rfl) ?_
  refine lv_sipush (v := 204) hx hb dX7_beginPacket_20 (by decide) ?_
  obtain ⟨y20, hy20, hF⟩ := bd_some hF
  refine r_bv (va_runV (As := [.int 204]) (rest := []) ⟨hx, hb, hml, hown, htA⟩ (m_X7_write l G g ad n a0 aM w19 204 y20  hy20) (cwV 1 htA (gV aw_517 aw_518 aw_519 aw_382 gz_X7_write) rfl rfl rfl (by decide +kernel) ⟨Nat.le_of_ble_eq_true rfl, Nat.le_of_ble_eq_true rfl⟩) (r_preV hK hW (27) (tp_lt (by decide)) (cE_k (rfl : kd 27 = 9)) rfl [.int 204]) rfl rfl hl.1 rfl (lv_room (Nat.le_of_ble_eq_true rfl)) dX7_beginPacket_23 ⟨Nat.zero_le _, Nat.zero_le _⟩) hW (fun H locs hW => ?_)
  refine lv_aload_n hx hb dX7_beginPacket_26 rfl (lv_at hl 0 rfl) ?_
  refine lv_iconst (v := 1) hx hb dX7_beginPacket_27 (by decide) ?_
  obtain ⟨y21, hy21, hF⟩ := bd_some hF
  refine r_bv (va_runV (As := [.int 1]) (rest := []) ⟨hx, hb, hml, hown, htA⟩ (m_X7_write l G g ad n a0 aM y20 1 y21  hy21) (cwV 1 htA (gV aw_517 aw_518 aw_519 aw_382 gz_X7_write) rfl rfl rfl (by decide +kernel) ⟨Nat.le_of_ble_eq_true rfl, Nat.le_of_ble_eq_true rfl⟩) (r_preV hK hW (27) (tp_lt (by decide)) (cE_k (rfl : kd 27 = 9)) rfl [.int 1]) rfl rfl hl.1 rfl (lv_room (Nat.le_of_ble_eq_true rfl)) dX7_beginPacket_28 ⟨Nat.zero_le _, Nat.zero_le _⟩) hW (fun H locs hW => ?_)
  refine lv_aload_n hx hb dX7_beginPacket_31 rfl (lv_at hl 0 rfl) ?_
  refine lv_iconst (v := 0) hx hb dX7_beginPacket_32 (by decide) ?_
  obtain ⟨y22, hy22, hF⟩ := bd_some hF
  refine r_bv (va_runV (As := [.int 0]) (rest := []) ⟨hx, hb, hml, hown, htA⟩ (m_X7_write l G g ad n a0 aM y21 0 y22  hy22) (cwV 1 htA (gV aw_517 aw_518 aw_519 aw_382 gz_X7_write) rfl rfl rfl (by decide +kernel) ⟨Nat.le_of_ble_eq_true rfl, Nat.le_of_ble_eq_true rfl⟩) (r_preV hK hW (27) (tp_lt (by decide)) (cE_k (rfl : kd 27 = 9)) rfl [.int 0]) rfl rfl hl.1 rfl (lv_room (Nat.le_of_ble_eq_true rfl)) dX7_beginPacket_33 ⟨Nat.zero_le _, Nat.zero_le _⟩) hW (fun H locs hW => ?_)
  refine lv_aload_n hx hb dX7_beginPacket_36 rfl (lv_at hl 0 rfl) ?_
  refine lv_lload_n hx hb dX7_beginPacket_37 rfl (lv_at hl 1 rfl) ?_
  obtain ⟨y23, hy23, hF⟩ := bd_some hF
  refine r_bv (va_runV (As := [.long x1]) (rest := []) ⟨hx, hb, hml, hown, htA⟩ (m_X7_writeSix l G g ad n a0 aM y22 x1 y23  hy23) (cwV 1 htA (gV aw_522 aw_523 aw_524 aw_382 gz_X7_writeSix) rfl rfl rfl (by decide +kernel) ⟨Nat.le_of_ble_eq_true rfl, Nat.le_of_ble_eq_true rfl⟩) (r_preV hK hW (27) (tp_lt (by decide)) (cE_k (rfl : kd 27 = 9)) rfl [.long x1]) rfl rfl hl.1 rfl (lv_room (Nat.le_of_ble_eq_true rfl)) dX7_beginPacket_38 ⟨Nat.zero_le _, Nat.zero_le _⟩) hW (fun H locs hW => ?_)
  refine lv_aload_n hx hb dX7_beginPacket_41 rfl (lv_at hl 0 rfl) ?_
  refine lv_sipush (v := 32766) hx hb dX7_beginPacket_42 (by decide) ?_
  refine lv_lconst (v := 1) hx hb dX7_beginPacket_45 (by decide) ?_
  obtain ⟨y24, hy24, hF⟩ := bd_some hF
  refine r_bl (va_runS (As := [.int 32766, .long 1]) (rest := [.ref (ad (27))]) ⟨hx, hb, hml, hown, htA⟩ (m_X7_idOf l G g ad n a0 aM y23 32766 1 y24  hy24) (va_cwS 2 htA (gS aw_380 aw_381 aw_382 gz_X7_idOf) rfl rfl rfl (by decide +kernel) ⟨Nat.le_of_ble_eq_true rfl, Nat.le_of_ble_eq_true rfl⟩) (r_pre hK hW [.int 32766, .long 1]) rfl rfl hl.1 rfl (lv_room (Nat.le_of_ble_eq_true rfl)) dX7_beginPacket_46 ⟨Nat.zero_le _, Nat.zero_le _⟩) hW (fun H locs hW => ?_)
  obtain ⟨y25, hy25, hF⟩ := bd_some hF
  refine r_bv (va_runV (As := [.long y24.2]) (rest := []) ⟨hx, hb, hml, hown, htA⟩ (m_X7_writeSix l G g ad n a0 aM y24.1 y24.2 y25  hy25) (cwV 1 htA (gV aw_522 aw_523 aw_524 aw_382 gz_X7_writeSix) rfl rfl rfl (by decide +kernel) ⟨Nat.le_of_ble_eq_true rfl, Nat.le_of_ble_eq_true rfl⟩) (r_preV hK hW (27) (tp_lt (by decide)) (cE_k (rfl : kd 27 = 9)) rfl [.long y24.2]) rfl rfl hl.1 rfl (lv_room (Nat.le_of_ble_eq_true rfl)) dX7_beginPacket_49 ⟨Nat.zero_le _, Nat.zero_le _⟩) hW (fun H locs hW => ?_)
  refine lv_aload_n hx hb dX7_beginPacket_52 rfl (lv_at hl 0 rfl) ?_
  refine lv_aload_n hx hb dX7_beginPacket_53 rfl (lv_at hl 0 rfl) ?_
  refine r_get (C := RX7) (T := TX7) (N := 39) hx hb htA ia_X7 hown hK hW (27) (tp_lt (by decide)) (cE_k (rfl : kd 27 = 9)) rfl 31 (by decide) (htA _ aw_521) rfl dX7_beginPacket_54 ?_
  obtain ⟨y26, hy26, hF⟩ := bd_some hF
  refine r_bv (va_runV (As := [.int (y25.1 (27) 31)]) (rest := []) ⟨hx, hb, hml, hown, htA⟩ (m_X7_write l G g ad n a0 aM y25 (y25.1 (27) 31) y26  hy26) (cwV 1 htA (gV aw_517 aw_518 aw_519 aw_382 gz_X7_write) rfl rfl rfl (by decide +kernel) ⟨Nat.le_of_ble_eq_true rfl, Nat.le_of_ble_eq_true rfl⟩) (r_preV hK hW (27) (tp_lt (by decide)) (cE_k (rfl : kd 27 = 9)) rfl [.int (y25.1 (27) 31)]) rfl rfl hl.1 rfl (lv_room (Nat.le_of_ble_eq_true rfl)) dX7_beginPacket_57 ⟨Nat.zero_le _, Nat.zero_le _⟩) hW (fun H locs hW => ?_)
  refine lv_aload_n hx hb dX7_beginPacket_60 rfl (lv_at hl 0 rfl) ?_
  refine lv_iconst (v := 1) hx hb dX7_beginPacket_61 (by decide) ?_
  obtain ⟨y27, hy27, hF⟩ := bd_some hF
  refine r_bv (va_runV (As := [.int 1]) (rest := []) ⟨hx, hb, hml, hown, htA⟩ (m_X7_write l G g ad n a0 aM y26 1 y27  hy27) (cwV 1 htA (gV aw_517 aw_518 aw_519 aw_382 gz_X7_write) rfl rfl rfl (by decide +kernel) ⟨Nat.le_of_ble_eq_true rfl, Nat.le_of_ble_eq_true rfl⟩) (r_preV hK hW (27) (tp_lt (by decide)) (cE_k (rfl : kd 27 = 9)) rfl [.int 1]) rfl rfl hl.1 rfl (lv_room (Nat.le_of_ble_eq_true rfl)) dX7_beginPacket_62 ⟨Nat.zero_le _, Nat.zero_le _⟩) hW (fun H locs hW => ?_)
  refine lv_aload_n hx hb dX7_beginPacket_65 rfl (lv_at hl 0 rfl) ?_
  refine lv_iconst (v := 0) hx hb dX7_beginPacket_66 (by decide) ?_
  obtain ⟨y28, hy28, hF⟩ := bd_some hF
  refine r_bv (va_runV (As := [.int 0]) (rest := []) ⟨hx, hb, hml, hown, htA⟩ (m_X7_write l G g ad n a0 aM y27 0 y28  hy28) (cwV 1 htA (gV aw_517 aw_518 aw_519 aw_382 gz_X7_write) rfl rfl rfl (by decide +kernel) ⟨Nat.le_of_ble_eq_true rfl, Nat.le_of_ble_eq_true rfl⟩) (r_preV hK hW (27) (tp_lt (by decide)) (cE_k (rfl : kd 27 = 9)) rfl [.int 0]) rfl rfl hl.1 rfl (lv_room (Nat.le_of_ble_eq_true rfl)) dX7_beginPacket_67 ⟨Nat.zero_le _, Nat.zero_le _⟩) hW (fun H locs hW => ?_)
  refine lv_aload_n hx hb dX7_beginPacket_70 rfl (lv_at hl 0 rfl) ?_
  refine lv_iload_n hx hb dX7_beginPacket_71 rfl (lv_at hl 2 rfl) ?_
  refine lv_bipush (v := 8) hx hb dX7_beginPacket_72 (by decide) ?_
  refine lv_ishr hx hb dX7_beginPacket_74 ?_
  obtain ⟨y29, hy29, hF⟩ := bd_some hF
  refine r_bv (va_runV (As := [.int (x3 >>> (8 &&& 31))]) (rest := []) ⟨hx, hb, hml, hown, htA⟩ (m_X7_write l G g ad n a0 aM y28 (x3 >>> (8 &&& 31)) y29  hy29) (cwV 1 htA (gV aw_517 aw_518 aw_519 aw_382 gz_X7_write) rfl rfl rfl (by decide +kernel) ⟨Nat.le_of_ble_eq_true rfl, Nat.le_of_ble_eq_true rfl⟩) (r_preV hK hW (27) (tp_lt (by decide)) (cE_k (rfl : kd 27 = 9)) rfl [.int (x3 >>> (8 &&& 31))]) rfl rfl hl.1 rfl (lv_room (Nat.le_of_ble_eq_true rfl)) dX7_beginPacket_75 ⟨Nat.zero_le _, Nat.zero_le _⟩) hW (fun H locs hW => ?_)
  refine lv_aload_n hx hb dX7_beginPacket_78 rfl (lv_at hl 0 rfl) ?_
  refine lv_iload_n hx hb dX7_beginPacket_79 rfl (lv_at hl 2 rfl) ?_
  obtain ⟨y30, hy30, hF⟩ := bd_some hF
  refine r_bv (va_runV (As := [.int x3]) (rest := []) ⟨hx, hb, hml, hown, htA⟩ (m_X7_write l G g ad n a0 aM y29 x3 y30  hy30) (cwV 1 htA (gV aw_517 aw_518 aw_519 aw_382 gz_X7_write) rfl rfl rfl (by decide +kernel) ⟨Nat.le_of_ble_eq_true rfl, Nat.le_of_ble_eq_true rfl⟩) (r_preV hK hW (27) (tp_lt (by decide)) (cE_k (rfl : kd 27 = 9)) rfl [.int x3]) rfl rfl hl.1 rfl (lv_room (Nat.le_of_ble_eq_true rfl)) dX7_beginPacket_80 ⟨Nat.zero_le _, Nat.zero_le _⟩) hW (fun H locs hW => ?_)
  refine lv_aload_n hx hb dX7_beginPacket_83 rfl (lv_at hl 0 rfl) ?_
  refine lv_iload hx hb dX7_beginPacket_84 (lv_at hl 3 rfl) ?_
  obtain ⟨y31, hy31, hF⟩ := bd_some hF
  refine r_bv (va_runV (As := [.int x4]) (rest := []) ⟨hx, hb, hml, hown, htA⟩ (m_X7_write l G g ad n a0 aM y30 x4 y31  hy31) (cwV 1 htA (gV aw_517 aw_518 aw_519 aw_382 gz_X7_write) rfl rfl rfl (by decide +kernel) ⟨Nat.le_of_ble_eq_true rfl, Nat.le_of_ble_eq_true rfl⟩) (r_preV hK hW (27) (tp_lt (by decide)) (cE_k (rfl : kd 27 = 9)) rfl [.int x4]) rfl rfl hl.1 rfl (lv_room (Nat.le_of_ble_eq_true rfl)) dX7_beginPacket_86 ⟨Nat.zero_le _, Nat.zero_le _⟩) hW (fun H locs hW => ?_)
  refine lv_aload_n hx hb dX7_beginPacket_89 rfl (lv_at hl 0 rfl) ?_
  refine lv_iload hx hb dX7_beginPacket_90 (lv_at hl 4 rfl) ?_
  refine lv_bipush (v := 8) hx hb dX7_beginPacket_92 (by decide) ?_
  refine lv_ishr hx hb dX7_beginPacket_94 ?_
  obtain ⟨y32, hy32, hF⟩ := bd_some hF
  refine r_bv (va_runV (As := [.int (x5 >>> (8 &&& 31))]) (rest := []) ⟨hx, hb, hml, hown, htA⟩ (m_X7_write l G g ad n a0 aM y31 (x5 >>> (8 &&& 31)) y32  hy32) (cwV 1 htA (gV aw_517 aw_518 aw_519 aw_382 gz_X7_write) rfl rfl rfl (by decide +kernel) ⟨Nat.le_of_ble_eq_true rfl, Nat.le_of_ble_eq_true rfl⟩) (r_preV hK hW (27) (tp_lt (by decide)) (cE_k (rfl : kd 27 = 9)) rfl [.int (x5 >>> (8 &&& 31))]) rfl rfl hl.1 rfl (lv_room (Nat.le_of_ble_eq_true rfl)) dX7_beginPacket_95 ⟨Nat.zero_le _, Nat.zero_le _⟩) hW (fun H locs hW => ?_)
  refine lv_aload_n hx hb dX7_beginPacket_98 rfl (lv_at hl 0 rfl) ?_
  refine lv_iload hx hb dX7_beginPacket_99 (lv_at hl 4 rfl) ?_
  obtain ⟨y33, hy33, hF⟩ := bd_some hF
  refine r_bv (va_runV (As := [.int x5]) (rest := []) ⟨hx, hb, hml, hown, htA⟩ (m_X7_write l G g ad n a0 aM y32 x5 y33  hy33) (cwV 1 htA (gV aw_517 aw_518 aw_519 aw_382 gz_X7_write) rfl rfl rfl (by decide +kernel) ⟨Nat.le_of_ble_eq_true rfl, Nat.le_of_ble_eq_true rfl⟩) (r_preV hK hW (27) (tp_lt (by decide)) (cE_k (rfl : kd 27 = 9)) rfl [.int x5]) rfl rfl hl.1 rfl (lv_room (Nat.le_of_ble_eq_true rfl)) dX7_beginPacket_101 ⟨Nat.zero_le _, Nat.zero_le _⟩) hW (fun H locs hW => ?_)
  refine lv_aload_n hx hb dX7_beginPacket_104 rfl (lv_at hl 0 rfl) ?_
  refine lv_iconst (v := 0) hx hb dX7_beginPacket_105 (by decide) ?_
  obtain ⟨y34, hy34, hF⟩ := bd_some hF
  refine r_bv (va_runV (As := [.int 0]) (rest := []) ⟨hx, hb, hml, hown, htA⟩ (m_X7_write l G g ad n a0 aM y33 0 y34  hy34) (cwV 1 htA (gV aw_517 aw_518 aw_519 aw_382 gz_X7_write) rfl rfl rfl (by decide +kernel) ⟨Nat.le_of_ble_eq_true rfl, Nat.le_of_ble_eq_true rfl⟩) (r_preV hK hW (27) (tp_lt (by decide)) (cE_k (rfl : kd 27 = 9)) rfl [.int 0]) rfl rfl hl.1 rfl (lv_room (Nat.le_of_ble_eq_true rfl)) dX7_beginPacket_106 ⟨Nat.zero_le _, Nat.zero_le _⟩) hW (fun H locs hW => ?_)
  exact r_vret hx hb hr hlocks hW hF dX7_beginPacket_109
def F_X7_sendOff_L52 (σ : St) (u1 : Int32) : Option (St) := (F_X7_write σ (u1 >>> (8 &&& 31))).bind (fun y9 => (F_X7_write y9 u1).bind (fun y10 => (F_X7_look y10).bind (fun y11 => some y11)))
def F_X7_sendOff_L30 (K52 : St → Int32 → Option (St)) : Nat → St → Int32 → Int32 → Option (St)
  | 0, _, _, _ => none
  | fz + 1, σ, u1, u2 => if (σ.1 (27) 23) ≤ u2 then K52 σ u1 else (F_X7_at σ u2).bind (fun y13 => (F_X7_sendOff_L30 K52 fz) y13.1 (u1 + y13.2) (u2 + 1))
def F_X7_sendOff (σ : St) : Option (St) := gd (ib 2 (ln (46))) (nm (sI σ (46) (Int32.toNatClampNeg 2) (vp_nar .byte (Int8.toInt32 (Int32.toInt8 (σ.1 (27) 23))))) (fun w15 => gd (ib 23 (ln (46))) (nm (sI w15 (46) (Int32.toNatClampNeg 23) (vp_nar .byte (Int8.toInt32 (Int32.toInt8 ((w15.1 (27) 23) - 24))))) (fun w17 => F_X7_sendOff_L30 F_X7_sendOff_L52 fu w17 0 0))))
set_option maxHeartbeats 4000000 in
set_option maxRecDepth 100000 in
theorem m_X7_sendOff (l : Launch) (G : va_G) (g : Nat → ClassId) (ad : Nat → Nat) (n a0 aM : Nat) (σ : St) (x : St) (hF : F_X7_sendOff σ = some x) : Met l yX7_sendOff zs_X7_sendOff ({ frames := 8, cells := 0, slots := 0, locals := 189 } : Room) (va_Pc [.ref (ad (27))] (wP G g ad n a0 aM σ)) (qV G g ad n a0 x) 0 0 (fun q : Nat => a0 ≤ q) := by
  refine Met.ofW (cc := cX7_sendOff) (maxL := 3) (ret := none) (by decide) rfl ?_
  intro p e s m args below meth c s₁ B hml hv
  obtain ⟨rfl, hP, hD, hK⟩ := hv
  have hx := B.exec
  have hb := B.bytes
  have hr := B.returns
  have htA : ∀ w ∈ AL, w.before _ s = true := fun w h9 => atoms_spec (ws := zs_X7_sendOff) B.pre w (List.mem_cons_of_mem _ h9)
  have hown : s.vm.findClass RX7 = some m.cls := findClass_of_methodNamed B.named
  have hlocks := B.notSynchronized
  have hW : Wd G g ad n a0 s.heap σ s.heap [] := ⟨hP, hD, va_S.rf⟩
  clear hP hD
  have hL52 : ∀ (σ : St) (u1 : Int32) (H : Heap) (locs : List Loc) (ls : Array Slot), Wd G g ad n a0 s.heap σ H locs → lv_has ls 3 [(0, .ref (ad (27))), (1, .int u1)] → F_X7_sendOff_L52  σ u1 = some x → W p l e (headSpec zs_X7_sendOff ({ frames := 8, cells := 0, slots := 0, locals := 189 } : Room)).room s m ([.ref (ad (27))] : List Value).toArray below meth c H locs 0 0 (MQ below (qV G g ad n a0 x) ([.ref (ad (27))] : List Value).toArray s 0 0 (fun q : Nat => a0 ≤ q)) (F0 m 52 ls []) := by
    intro σ u1 H locs ls hW hl hF
    unfold F_X7_sendOff_L52 at hF
    refine lv_aload_n hx hb dX7_sendOff_52 rfl (lv_at hl 0 rfl) ?_
    refine lv_iload_n hx hb dX7_sendOff_53 rfl (lv_at hl 1 rfl) ?_
    refine lv_bipush (v := 8) hx hb dX7_sendOff_54 (by decide) ?_
    refine lv_ishr hx hb dX7_sendOff_56 ?_
    obtain ⟨y9, hy9, hF⟩ := bd_some hF
    refine r_bv (va_runV (As := [.int (u1 >>> (8 &&& 31))]) (rest := []) ⟨hx, hb, hml, hown, htA⟩ (m_X7_write l G g ad n a0 aM σ (u1 >>> (8 &&& 31)) y9  hy9) (cwV 1 htA (gV aw_517 aw_518 aw_519 aw_382 gz_X7_write) rfl rfl rfl (by decide +kernel) ⟨Nat.le_of_ble_eq_true rfl, Nat.le_of_ble_eq_true rfl⟩) (r_preV hK hW (27) (tp_lt (by decide)) (cE_k (rfl : kd 27 = 9)) rfl [.int (u1 >>> (8 &&& 31))]) rfl rfl hl.1 rfl (lv_room (Nat.le_of_ble_eq_true rfl)) dX7_sendOff_57 ⟨Nat.zero_le _, Nat.zero_le _⟩) hW (fun H locs hW => ?_)
    refine lv_aload_n hx hb dX7_sendOff_60 rfl (lv_at hl 0 rfl) ?_
    refine lv_iload_n hx hb dX7_sendOff_61 rfl (lv_at hl 1 rfl) ?_
    obtain ⟨y10, hy10, hF⟩ := bd_some hF
    refine r_bv (va_runV (As := [.int u1]) (rest := []) ⟨hx, hb, hml, hown, htA⟩ (m_X7_write l G g ad n a0 aM y9 u1 y10  hy10) (cwV 1 htA (gV aw_517 aw_518 aw_519 aw_382 gz_X7_write) rfl rfl rfl (by decide +kernel) ⟨Nat.le_of_ble_eq_true rfl, Nat.le_of_ble_eq_true rfl⟩) (r_preV hK hW (27) (tp_lt (by decide)) (cE_k (rfl : kd 27 = 9)) rfl [.int u1]) rfl rfl hl.1 rfl (lv_room (Nat.le_of_ble_eq_true rfl)) dX7_sendOff_62 ⟨Nat.zero_le _, Nat.zero_le _⟩) hW (fun H locs hW => ?_)
    refine lv_aload_n hx hb dX7_sendOff_65 rfl (lv_at hl 0 rfl) ?_
    obtain ⟨y11, hy11, hF⟩ := bd_some hF
    refine r_bv (va_runV (As := []) (rest := []) ⟨hx, hb, hml, hown, htA⟩ (m_X7_look l G g ad n a0 aM y10 y11  hy11) (cwV 0 htA (gV aw_513 aw_514 aw_515 aw_382 gz_X7_look) rfl rfl rfl (by decide +kernel) ⟨Nat.le_of_ble_eq_true rfl, Nat.le_of_ble_eq_true rfl⟩) (r_preV hK hW (27) (tp_lt (by decide)) (cE_k (rfl : kd 27 = 9)) rfl []) rfl rfl hl.1 rfl (lv_room (Nat.le_of_ble_eq_true rfl)) dX7_sendOff_66 ⟨Nat.zero_le _, Nat.zero_le _⟩) hW (fun H locs hW => ?_)
    exact r_vret hx hb hr hlocks hW hF dX7_sendOff_69
  have hL30 : ∀ (fz30 : Nat) (σ : St) (u1 : Int32) (u2 : Int32) (H : Heap) (locs : List Loc) (ls : Array Slot), Wd G g ad n a0 s.heap σ H locs → lv_has ls 3 [(0, .ref (ad (27))), (1, .int u1), (2, .int u2)] → F_X7_sendOff_L30 (F_X7_sendOff_L52) fz30 σ u1 u2 = some x → W p l e (headSpec zs_X7_sendOff ({ frames := 8, cells := 0, slots := 0, locals := 189 } : Room)).room s m ([.ref (ad (27))] : List Value).toArray below meth c H locs 0 0 (MQ below (qV G g ad n a0 x) ([.ref (ad (27))] : List Value).toArray s 0 0 (fun q : Nat => a0 ≤ q)) (F0 m 30 ls []) := by
    intro fz30
    induction fz30 with
    | zero =>
      intro σ u1 u2 H locs ls hW hl hF
      exact absurd hF (by simp [F_X7_sendOff_L30])
    | succ fz30 ih =>
      have hB30 := ih
      intro σ u1 u2 H locs ls hW hl hF
      unfold F_X7_sendOff_L30 at hF
      refine lv_iload_n hx hb dX7_sendOff_30 rfl (lv_at hl 2 rfl) ?_
      refine lv_aload_n hx hb dX7_sendOff_31 rfl (lv_at hl 0 rfl) ?_
      refine r_get (C := RX7) (T := TX7) (N := 39) hx hb htA ia_X7 hown hK hW (27) (tp_lt (by decide)) (cE_k (rfl : kd 27 = 9)) rfl 23 (by decide) (htA _ aw_404) rfl dX7_sendOff_32 ?_
      refine lv_icmp_ge (tgt := 52) hx hb dX7_sendOff_35 (by decide) (fun hc12 => ?_) (fun hc12 => ?_)
      · replace hF := (if_pos hc12).symm.trans hF
        exact hL52 σ u1 _ _ _  hW (lv_sub hl [0, 1] rfl) hF
      · replace hF := (if_neg hc12).symm.trans hF
        refine lv_iload_n hx hb dX7_sendOff_38 rfl (lv_at hl 1 rfl) ?_
        refine lv_aload_n hx hb dX7_sendOff_39 rfl (lv_at hl 0 rfl) ?_
        refine lv_iload_n hx hb dX7_sendOff_40 rfl (lv_at hl 2 rfl) ?_
        obtain ⟨y13, hy13, hF⟩ := bd_some hF
        refine r_bi (va_runV (As := [.int u2]) (rest := [.int u1]) ⟨hx, hb, hml, hown, htA⟩ (m_X7_at l G g ad n a0 aM σ u2 y13  hy13) (cwV 1 htA (gV aw_398 aw_399 aw_400 aw_382 gz_X7_at) rfl rfl rfl (by decide +kernel) ⟨Nat.le_of_ble_eq_true rfl, Nat.le_of_ble_eq_true rfl⟩) (r_preV hK hW (27) (tp_lt (by decide)) (cE_k (rfl : kd 27 = 9)) rfl [.int u2]) rfl rfl hl.1 rfl (lv_room (Nat.le_of_ble_eq_true rfl)) dX7_sendOff_41 ⟨Nat.zero_le _, Nat.zero_le _⟩) hW (fun H locs hW => ?_)
        refine lv_iadd hx hb dX7_sendOff_44 ?_
        refine lv_istore_n (lv' := [(1, .int (u1 + y13.2)), (0, .ref (ad (27))), (2, .int u2)]) hx hb dX7_sendOff_45 rfl hl (by decide) rfl (fun ls hl => ?_)
        refine lv_iinc (v := (u2 + 1)) (lv' := [(2, .int (u2 + 1)), (1, .int (u1 + y13.2)), (0, .ref (ad (27)))]) hx hb dX7_sendOff_46 hl (k := 2) rfl rfl (by decide) rfl (fun ls hl => ?_)
        refine lv_goto (tgt := 30) hx hb dX7_sendOff_49 (by decide) ?_
        exact hB30 y13.1 (u1 + y13.2) (u2 + 1) _ _ _  hW (lv_sub hl [2, 1, 0] rfl) hF
  have hL30 := hL30 fu
  have hl := lv_entry ([.ref (ad (27))]) (n := 3) (Nat.le_of_ble_eq_true rfl)
  rw [lg_entry_eq]
  generalize (lg_sl ([.ref (ad (27))]) ++ List.replicate (3 - (lg_sl ([.ref (ad (27))])).length) Slot.unset).toArray = ls at hl ⊢
  have hl : lv_has ls 3 [(0, .ref (ad (27)))] := hl
  unfold F_X7_sendOff at hF
  refine lv_aload_n hx hb dX7_sendOff_0 rfl (lv_at hl 0 rfl) ?_
  refine r_get (C := RX7) (T := TX7) (N := 39) hx hb htA ia_X7 hown hK hW (27) (tp_lt (by decide)) (cE_k (rfl : kd 27 = 9)) rfl 22 (by decide) (htA _ aw_371) rfl dX7_sendOff_1 ?_
  refine lv_iconst (v := 2) hx hb dX7_sendOff_4 (by decide) ?_
  refine lv_aload_n hx hb dX7_sendOff_5 rfl (lv_at hl 0 rfl) ?_
  refine r_get (C := RX7) (T := TX7) (N := 39) hx hb htA ia_X7 hown hK hW (27) (tp_lt (by decide)) (cE_k (rfl : kd 27 = 9)) rfl 23 (by decide) (htA _ aw_404) rfl dX7_sendOff_6 ?_
  refine lv_i2b (v := (Int8.toInt32 (Int32.toInt8 (σ.1 (27) 23)))) hx hb dX7_sendOff_9 rfl ?_
  obtain ⟨hg14, hF⟩ := gd_some hF
  refine r_bast hx hb hK hW (46) (tp_lt (by decide)) (rfl : kd 46 = 10) hg14 dX7_sendOff_10 (fun H locs hW => ?_)
  obtain ⟨w15, ew15, hF⟩ := nm_some hF
  rw [← ew15] at hW
  refine lv_aload_n hx hb dX7_sendOff_11 rfl (lv_at hl 0 rfl) ?_
  refine r_get (C := RX7) (T := TX7) (N := 39) hx hb htA ia_X7 hown hK hW (27) (tp_lt (by decide)) (cE_k (rfl : kd 27 = 9)) rfl 22 (by decide) (htA _ aw_371) rfl dX7_sendOff_12 ?_
  refine lv_bipush (v := 23) hx hb dX7_sendOff_15 (by decide) ?_
  refine lv_aload_n hx hb dX7_sendOff_17 rfl (lv_at hl 0 rfl) ?_
  refine r_get (C := RX7) (T := TX7) (N := 39) hx hb htA ia_X7 hown hK hW (27) (tp_lt (by decide)) (cE_k (rfl : kd 27 = 9)) rfl 23 (by decide) (htA _ aw_404) rfl dX7_sendOff_18 ?_
  refine lv_bipush (v := 24) hx hb dX7_sendOff_21 (by decide) ?_
  refine lv_isub hx hb dX7_sendOff_23 ?_
  refine lv_i2b (v := (Int8.toInt32 (Int32.toInt8 ((w15.1 (27) 23) - 24)))) hx hb dX7_sendOff_24 rfl ?_
  obtain ⟨hg16, hF⟩ := gd_some hF
  refine r_bast hx hb hK hW (46) (tp_lt (by decide)) (rfl : kd 46 = 10) hg16 dX7_sendOff_25 (fun H locs hW => ?_)
  obtain ⟨w17, ew17, hF⟩ := nm_some hF
  rw [← ew17] at hW
  refine lv_iconst (v := 0) hx hb dX7_sendOff_26 (by decide) ?_
  refine lv_istore_n (lv' := [(1, .int 0), (0, .ref (ad (27)))]) hx hb dX7_sendOff_27 rfl hl (by decide) rfl (fun ls hl => ?_)
  refine lv_iconst (v := 0) hx hb dX7_sendOff_28 (by decide) ?_
  refine lv_istore_n (lv' := [(2, .int 0), (1, .int 0), (0, .ref (ad (27)))]) hx hb dX7_sendOff_29 rfl hl (by decide) rfl (fun ls hl => ?_)
  exact hL30 w17 0 0 _ _ _  hW (lv_sub hl [2, 1, 0] rfl) hF
