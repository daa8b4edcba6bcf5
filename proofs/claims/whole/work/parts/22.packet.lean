def F_X2_isCall (r0 : Nat) (σ : St) : Option (St × Int32) := (F_X6_restOf σ (σ.2 (r0) 0)).bind (fun y2 => if (lg_cmp y2.2 4294967295) = 0 then some (y2.1, 1) else some (y2.1, 0))
set_option maxHeartbeats 4000000 in
set_option maxRecDepth 100000 in
theorem m_X2_isCall (l : Launch) (G : va_G) (g : Nat → ClassId) (ad : Nat → Nat) (n a0 aM : Nat) (r0 : Nat) (σ : St) (x : St × Int32) (hr0 : isPk r0) (tr0 : r0 + 2 < tp n) (hF : F_X2_isCall r0 σ = some x) : Met l yX2_isCall zs_X2_isCall ({ frames := 1, cells := 0, slots := 0, locals := 21 } : Room) (va_Pc [.ref (ad (r0))] (wP G g ad n a0 aM σ)) (qI G g ad n a0 x) 0 0 (fun q : Nat => a0 ≤ q) := by
  refine Met.ofW (cc := cX2_isCall) (maxL := 1) (ret := (some .boolean)) (by decide) rfl ?_
  intro p e s m args below meth c s₁ B hml hv
  obtain ⟨rfl, hP, hD, hK⟩ := hv
  have hx := B.exec
  have hb := B.bytes
  have hr := B.returns
  have htA : ∀ w ∈ AL, w.before _ s = true := fun w h9 => atoms_spec (ws := zs_X2_isCall) B.pre w (List.mem_cons_of_mem _ h9)
  have hown : s.vm.findClass RX2 = some m.cls := findClass_of_methodNamed B.named
  have hlocks := B.notSynchronized
  have hW : Wd G g ad n a0 s.heap σ s.heap [] := ⟨hP, hD, va_S.rf⟩
  clear hP hD
  have hl := lv_entry ([.ref (ad (r0))]) (n := 1) (Nat.le_of_ble_eq_true rfl)
  rw [lg_entry_eq]
  generalize (lg_sl ([.ref (ad (r0))]) ++ List.replicate (1 - (lg_sl ([.ref (ad (r0))])).length) Slot.unset).toArray = ls at hl ⊢
  have hl : lv_has ls 1 [(0, .ref (ad (r0)))] := hl
  unfold F_X2_isCall at hF
  refine lv_aload_n hx hb dX2_isCall_0 rfl (lv_at hl 0 rfl) ?_
  refine r_get (C := RX2) (T := TX2) (N := 9) hx hb htA ia_X2 hown hK hW (r0) (by omega) (cE_k hr0.1) rfl 0 (by decide) (htA _ aw_82) rfl dX2_isCall_1 ?_
  obtain ⟨y2, hy2, hF⟩ := bd_some hF
  refine r_bl (va_runSN (As := [.long (σ.2 (r0) 0)]) (rest := []) ⟨hx, hb, hml, hown, htA⟩ (m_X6_restOf l G g ad n a0 aM σ (σ.2 (r0) 0) y2  hy2) ⟨va_cnB (host := "LampLine") 1 htA gz_X6_restOf rfl rfl rfl (hK.2.2.2.1 _ (by decide +kernel)) (htA _ aw_52) (by decide +kernel) ⟨Nat.le_of_ble_eq_true rfl, Nat.le_of_ble_eq_true rfl⟩, htA _ aw_79, trivial⟩ (r_pre hK hW [.long (σ.2 (r0) 0)]) rfl rfl hl.1 rfl (lv_room (Nat.le_of_ble_eq_true rfl)) dX2_isCall_4 ⟨Nat.zero_le _, Nat.zero_le _⟩) hW (fun H locs hW => ?_)
  refine lv_ldc2 (v := 4294967295) hx hb hown (htA _ aw_83) dX2_isCall_7 ?_
  refine W.lcmp hx hb dX2_isCall_10 ?_
  refine lv_if_ne (tgt := 18) hx hb dX2_isCall_11 (by decide) (fun hc3 => ?_) (fun hc3 => ?_)
  · replace hF := (if_neg hc3).symm.trans hF
    refine lv_iconst (v := 0) hx hb dX2_isCall_18 (by decide) ?_
    exact r_zret hx hb hr hlocks hW rfl hF dX2_isCall_19
  · replace hF := (if_pos hc3).symm.trans hF
    refine lv_iconst (v := 1) hx hb dX2_isCall_14 (by decide) ?_
    refine lv_goto (tgt := 19) hx hb dX2_isCall_15 (by decide) ?_
    exact r_zret hx hb hr hlocks hW rfl hF dX2_isCall_19
def F_X2_readFrom_L199 (r0 : Nat) (r1 : Nat) (σ : St) : Option (St × Int32) := some (σ, 1)
def F_X2_readFrom_L176 (r0 : Nat) (r1 : Nat) (K199 : St → Option (St × Int32)) : Nat → St → Int32 → Int32 → Option (St × Int32)
  | 0, _, _, _ => none
  | fz + 1, σ, u2, u3 => if u2 ≤ u3 then K199 σ else (F_X3_at (r1) σ u3).bind (fun y28 => (F_X3_put (r0 + 1) y28.1 y28.2).bind (fun y29 => (F_X2_readFrom_L176 r0 r1 K199 fz) y29 u2 (u3 + 1)))
def F_X2_readFrom (r0 : Nat) (r1 : Nat) (σ : St) : Option (St × Int32) := (F_X3_at (r1) σ 2).bind (fun y30 => if y30.2 < 24 then some (y30.1, 0) else (F_X3_size (r1) y30.1).bind (fun y32 => if y32.2 = (y30.2 + 2) then (F_X3_at (r1) y32.1 0).bind (fun y34 => if y34.2 = 204 then (F_X3_at (r1) y34.1 1).bind (fun y36 => if y36.2 = 1 then (F_X3_at (r1) y36.1 23).bind (fun y38 => if y38.2 = (y30.2 - 24) then (F_X3_sum (r1) y38.1 0 y30.2).bind (fun y40 => (F_X3_number (r1) y40.1 y30.2 2).bind (fun y41 => if (lg_cmp (Int32.toInt64 y40.2) y41.2) = 0 then (F_X3_number (r1) y41.1 3 6).bind (fun y43 => nm (sJ y43.1 (r0) 0 y43.2) (fun w44 => (F_X3_number (r1) w44 9 6).bind (fun y45 => nm (sJ y45.1 (r0) 1 y45.2) (fun w46 => (F_X3_at (r1) w46 15).bind (fun y47 => nm (sI y47.1 (r0) 2 y47.2) (fun w48 => (F_X3_at (r1) w48 16).bind (fun y49 => nm (sI y49.1 (r0) 3 y49.2) (fun w50 => (F_X3_at (r1) w50 17).bind (fun y51 => nm (sI y51.1 (r0) 4 y51.2) (fun w52 => (F_X3_number (r1) w52 18 2).bind (fun y53 => nm (sI y53.1 (r0) 5 (Int64.toInt32 y53.2)) (fun w54 => (F_X3_at (r1) w54 20).bind (fun y55 => nm (sI y55.1 (r0) 6 y55.2) (fun w56 => (F_X3_number (r1) w56 21 2).bind (fun y57 => nm (sI y57.1 (r0) 7 (Int64.toInt32 y57.2)) (fun w58 => (F_X3_cut (r0 + 1) w58 0).bind (fun y59 => F_X2_readFrom_L176 r0 r1 (F_X2_readFrom_L199 r0 r1) fu y59 y30.2 24))))))))))))))))) else some (y41.1, 0))) else some (y38.1, 0)) else some (y36.1, 0)) else some (y34.1, 0)) else some (y32.1, 0)))
set_option maxHeartbeats 4000000 in
set_option maxRecDepth 100000 in
theorem m_X2_readFrom (l : Launch) (G : va_G) (g : Nat → ClassId) (ad : Nat → Nat) (n a0 aM : Nat) (r0 : Nat) (r1 : Nat) (σ : St) (x : St × Int32) (hr0 : isPk r0) (tr0 : r0 + 2 < tp n) (hr1 : isRow r1) (tr1 : r1 + 1 < tp n) (hF : F_X2_readFrom r0 r1 σ = some x) : Met l yX2_readFrom zs_X2_readFrom ({ frames := 2, cells := 0, slots := 0, locals := 46 } : Room) (va_Pc [.ref (ad (r0)), .ref (ad (r1))] (wP G g ad n a0 aM σ)) (qI G g ad n a0 x) 0 0 (fun q : Nat => a0 ≤ q) := by
  refine Met.ofW (cc := cX2_readFrom) (maxL := 4) (ret := (some .boolean)) (by decide) rfl ?_
  intro p e s m args below meth c s₁ B hml hv
  obtain ⟨rfl, hP, hD, hK⟩ := hv
  have hx := B.exec
  have hb := B.bytes
  have hr := B.returns
  have htA : ∀ w ∈ AL, w.before _ s = true := fun w h9 => atoms_spec (ws := zs_X2_readFrom) B.pre w (List.mem_cons_of_mem _ h9)
  have hown : s.vm.findClass RX2 = some m.cls := findClass_of_methodNamed B.named
  have hlocks := B.notSynchronized
  have hW : Wd G g ad n a0 s.heap σ s.heap [] := ⟨hP, hD, va_S.rf⟩
  clear hP hD
  have hL199 : ∀ (σ : St) (H : Heap) (locs : List Loc) (ls : Array Slot), Wd G g ad n a0 s.heap σ H locs → lv_has ls 4 [] → F_X2_readFrom_L199 r0 r1  σ = some x → W p l e (headSpec zs_X2_readFrom ({ frames := 2, cells := 0, slots := 0, locals := 46 } : Room)).room s m ([.ref (ad (r0)), .ref (ad (r1))] : List Value).toArray below meth c H locs 0 0 (MQ below (qI G g ad n a0 x) ([.ref (ad (r0)), .ref (ad (r1))] : List Value).toArray s 0 0 (fun q : Nat => a0 ≤ q)) (F0 m 199 ls []) := by
    intro σ H locs ls hW hl hF
    unfold F_X2_readFrom_L199 at hF
    refine lv_iconst (v := 1) hx hb dX2_readFrom_199 (by decide) ?_
    exact r_zret hx hb hr hlocks hW rfl hF dX2_readFrom_200
  have hL176 : ∀ (fz176 : Nat) (σ : St) (u2 : Int32) (u3 : Int32) (H : Heap) (locs : List Loc) (ls : Array Slot), Wd G g ad n a0 s.heap σ H locs → lv_has ls 4 [(0, .ref (ad (r0))), (1, .ref (ad (r1))), (2, .int u2), (3, .int u3)] → F_X2_readFrom_L176 r0 r1 (F_X2_readFrom_L199 r0 r1) fz176 σ u2 u3 = some x → W p l e (headSpec zs_X2_readFrom ({ frames := 2, cells := 0, slots := 0, locals := 46 } : Room)).room s m ([.ref (ad (r0)), .ref (ad (r1))] : List Value).toArray below meth c H locs 0 0 (MQ below (qI G g ad n a0 x) ([.ref (ad (r0)), .ref (ad (r1))] : List Value).toArray s 0 0 (fun q : Nat => a0 ≤ q)) (F0 m 176 ls []) := by
    intro fz176
    induction fz176 with
    | zero =>
      intro σ u2 u3 H locs ls hW hl hF
      exact absurd hF (by simp [F_X2_readFrom_L176])
    | succ fz176 ih =>
      have hB176 := ih
      intro σ u2 u3 H locs ls hW hl hF
      unfold F_X2_readFrom_L176 at hF
      refine lv_iload_n hx hb dX2_readFrom_176 rfl (lv_at hl 3 rfl) ?_
      refine lv_iload_n hx hb dX2_readFrom_177 rfl (lv_at hl 2 rfl) ?_
      refine lv_icmp_ge (tgt := 199) hx hb dX2_readFrom_178 (by decide) (fun hc27 => ?_) (fun hc27 => ?_)
      · replace hF := (if_pos hc27).symm.trans hF
        exact hL199 σ _ _ _  hW (lv_sub hl [] rfl) hF
      · replace hF := (if_neg hc27).symm.trans hF
        refine lv_aload_n hx hb dX2_readFrom_181 rfl (lv_at hl 0 rfl) ?_
        refine r_get (C := RX2) (T := TX2) (N := 9) hx hb htA ia_X2 hown hK hW (r0) (by omega) (cE_k hr0.1) rfl 8 (by decide) (htA _ aw_90) rfl dX2_readFrom_182 ?_
        refine lv_aload_n hx hb dX2_readFrom_185 rfl (lv_at hl 1 rfl) ?_
        refine lv_iload_n hx hb dX2_readFrom_186 rfl (lv_at hl 3 rfl) ?_
        obtain ⟨y28, hy28, hF⟩ := bd_some hF
        refine r_bi (va_runV (As := [.int u3]) (rest := [.ref (ad (r0 + 1))]) ⟨hx, hb, hml, hown, htA⟩ (m_X3_at l G g ad n a0 aM (r1) σ u3 y28 hr1 (by omega) hy28) (cwV 1 htA (gV aw_99 aw_23 aw_24 aw_6 gz_X3_at) rfl rfl rfl (by decide +kernel) ⟨Nat.le_of_ble_eq_true rfl, Nat.le_of_ble_eq_true rfl⟩) (r_preV hK hW (r1) (by omega) (cE_k hr1.1) rfl [.int u3]) rfl rfl hl.1 rfl (lv_room (Nat.le_of_ble_eq_true rfl)) dX2_readFrom_187 ⟨Nat.zero_le _, Nat.zero_le _⟩) hW (fun H locs hW => ?_)
        obtain ⟨y29, hy29, hF⟩ := bd_some hF
        refine r_bv (va_runV (As := [.int y28.2]) (rest := []) ⟨hx, hb, hml, hown, htA⟩ (m_X3_put l G g ad n a0 aM (r0 + 1) y28.1 y28.2 y29 hr0.2 (by omega) hy29) (cwV 1 htA (gV aw_94 aw_9 aw_10 aw_6 gz_X3_put) rfl rfl rfl (by decide +kernel) ⟨Nat.le_of_ble_eq_true rfl, Nat.le_of_ble_eq_true rfl⟩) (r_preV hK hW (r0 + 1) (by omega) (cE_k hr0.2.1) rfl [.int y28.2]) rfl rfl hl.1 rfl (lv_room (Nat.le_of_ble_eq_true rfl)) dX2_readFrom_190 ⟨Nat.zero_le _, Nat.zero_le _⟩) hW (fun H locs hW => ?_)
        refine lv_iinc (v := (u3 + 1)) (lv' := [(3, .int (u3 + 1)), (0, .ref (ad (r0))), (1, .ref (ad (r1))), (2, .int u2)]) hx hb dX2_readFrom_193 hl (k := 3) rfl rfl (by decide) rfl (fun ls hl => ?_)
        refine lv_goto (tgt := 176) hx hb dX2_readFrom_196 (by decide) ?_
        exact hB176 y29 u2 (u3 + 1) _ _ _  hW (lv_sub hl [1, 2, 3, 0] rfl) hF
  have hL176 := hL176 fu
  have hl := lv_entry ([.ref (ad (r0)), .ref (ad (r1))]) (n := 4) (Nat.le_of_ble_eq_true rfl)
  rw [lg_entry_eq]
  generalize (lg_sl ([.ref (ad (r0)), .ref (ad (r1))]) ++ List.replicate (4 - (lg_sl ([.ref (ad (r0)), .ref (ad (r1))])).length) Slot.unset).toArray = ls at hl ⊢
  have hl : lv_has ls 4 [(0, .ref (ad (r0))), (1, .ref (ad (r1)))] := hl
  unfold F_X2_readFrom at hF
  refine lv_aload_n hx hb dX2_readFrom_0 rfl (lv_at hl 1 rfl) ?_
  refine lv_iconst (v := 2) hx hb dX2_readFrom_1 (by decide) ?_
  obtain ⟨y30, hy30, hF⟩ := bd_some hF
  refine r_bi (va_runV (As := [.int 2]) (rest := []) ⟨hx, hb, hml, hown, htA⟩ (m_X3_at l G g ad n a0 aM (r1) σ 2 y30 hr1 (by omega) hy30) (cwV 1 htA (gV aw_99 aw_23 aw_24 aw_6 gz_X3_at) rfl rfl rfl (by decide +kernel) ⟨Nat.le_of_ble_eq_true rfl, Nat.le_of_ble_eq_true rfl⟩) (r_preV hK hW (r1) (by omega) (cE_k hr1.1) rfl [.int 2]) rfl rfl hl.1 rfl (lv_room (Nat.le_of_ble_eq_true rfl)) dX2_readFrom_2 ⟨Nat.zero_le _, Nat.zero_le _⟩) hW (fun H locs hW => ?_)
  refine lv_istore_n (lv' := [(2, .int y30.2), (0, .ref (ad (r0))), (1, .ref (ad (r1)))]) hx hb dX2_readFrom_5 rfl hl (by decide) rfl (fun ls hl => ?_)
  refine lv_iload_n hx hb dX2_readFrom_6 rfl (lv_at hl 0 rfl) ?_
  refine lv_bipush (v := 24) hx hb dX2_readFrom_7 (by decide) ?_
  refine lv_icmp_lt (tgt := 22) hx hb dX2_readFrom_9 (by decide) (fun hc31 => ?_) (fun hc31 => ?_)
  · replace hF := (if_pos hc31).symm.trans hF
    refine lv_iconst (v := 0) hx hb dX2_readFrom_22 (by decide) ?_
    exact r_zret hx hb hr hlocks hW rfl hF dX2_readFrom_23
  · replace hF := (if_neg hc31).symm.trans hF
    refine lv_aload_n hx hb dX2_readFrom_12 rfl (lv_at hl 2 rfl) ?_
    obtain ⟨y32, hy32, hF⟩ := bd_some hF
    refine r_bi (va_runV (As := []) (rest := []) ⟨hx, hb, hml, hown, htA⟩ (m_X3_size l G g ad n a0 aM (r1) y30.1 y32 hr1 (by omega) hy32) (cwV 0 htA (gV aw_93 aw_19 aw_20 aw_6 gz_X3_size) rfl rfl rfl (by decide +kernel) ⟨Nat.le_of_ble_eq_true rfl, Nat.le_of_ble_eq_true rfl⟩) (r_preV hK hW (r1) (by omega) (cE_k hr1.1) rfl []) rfl rfl hl.1 rfl (lv_room (Nat.le_of_ble_eq_true rfl)) dX2_readFrom_13 ⟨Nat.zero_le _, Nat.zero_le _⟩) hW (fun H locs hW => ?_)
    refine lv_iload_n hx hb dX2_readFrom_16 rfl (lv_at hl 0 rfl) ?_
    refine lv_iconst (v := 2) hx hb dX2_readFrom_17 (by decide) ?_
    refine lv_iadd hx hb dX2_readFrom_18 ?_
    refine lv_icmp_eq (tgt := 24) hx hb dX2_readFrom_19 (by decide) (fun hc33 => ?_) (fun hc33 => ?_)
    · replace hF := (if_pos hc33).symm.trans hF
      refine lv_aload_n hx hb dX2_readFrom_24 rfl (lv_at hl 2 rfl) ?_
      refine lv_iconst (v := 0) hx hb dX2_readFrom_25 (by decide) ?_
      obtain ⟨y34, hy34, hF⟩ := bd_some hF
      refine r_bi (va_runV (As := [.int 0]) (rest := []) ⟨hx, hb, hml, hown, htA⟩ (m_X3_at l G g ad n a0 aM (r1) y32.1 0 y34 hr1 (by omega) hy34) (cwV 1 htA (gV aw_99 aw_23 aw_24 aw_6 gz_X3_at) rfl rfl rfl (by decide +kernel) ⟨Nat.le_of_ble_eq_true rfl, Nat.le_of_ble_eq_true rfl⟩) (r_preV hK hW (r1) (by omega) (cE_k hr1.1) rfl [.int 0]) rfl rfl hl.1 rfl (lv_room (Nat.le_of_ble_eq_true rfl)) dX2_readFrom_26 ⟨Nat.zero_le _, Nat.zero_le _⟩) hW (fun H locs hW => ?_)
      refine lv_sipush (v := 204) hx hb dX2_readFrom_29 (by decide) ?_
      refine lv_icmp_ne (tgt := 57) hx hb dX2_readFrom_32 (by decide) (fun hc35 => ?_) (fun hc35 => ?_)
      · replace hF := (if_neg hc35).symm.trans hF
        refine lv_iconst (v := 0) hx hb dX2_readFrom_57 (by decide) ?_
        exact r_zret hx hb hr hlocks hW rfl hF dX2_readFrom_58
      · replace hF := (if_pos hc35).symm.trans hF
        refine lv_aload_n hx hb dX2_readFrom_35 rfl (lv_at hl 2 rfl) ?_
        refine lv_iconst (v := 1) hx hb dX2_readFrom_36 (by decide) ?_
        obtain ⟨y36, hy36, hF⟩ := bd_some hF
        refine r_bi (va_runV (As := [.int 1]) (rest := []) ⟨hx, hb, hml, hown, htA⟩ (m_X3_at l G g ad n a0 aM (r1) y34.1 1 y36 hr1 (by omega) hy36) (cwV 1 htA (gV aw_99 aw_23 aw_24 aw_6 gz_X3_at) rfl rfl rfl (by decide +kernel) ⟨Nat.le_of_ble_eq_true rfl, Nat.le_of_ble_eq_true rfl⟩) (r_preV hK hW (r1) (by omega) (cE_k hr1.1) rfl [.int 1]) rfl rfl hl.1 rfl (lv_room (Nat.le_of_ble_eq_true rfl)) dX2_readFrom_37 ⟨Nat.zero_le _, Nat.zero_le _⟩) hW (fun H locs hW => ?_)
        refine lv_iconst (v := 1) hx hb dX2_readFrom_40 (by decide) ?_
        refine lv_icmp_ne (tgt := 57) hx hb dX2_readFrom_41 (by decide) (fun hc37 => ?_) (fun hc37 => ?_)
        · replace hF := (if_neg hc37).symm.trans hF
          refine lv_iconst (v := 0) hx hb dX2_readFrom_57 (by decide) ?_
          exact r_zret hx hb hr hlocks hW rfl hF dX2_readFrom_58
        · replace hF := (if_pos hc37).symm.trans hF
          refine lv_aload_n hx hb dX2_readFrom_44 rfl (lv_at hl 2 rfl) ?_
          refine lv_bipush (v := 23) hx hb dX2_readFrom_45 (by decide) ?_
          obtain ⟨y38, hy38, hF⟩ := bd_some hF
          refine r_bi (va_runV (As := [.int 23]) (rest := []) ⟨hx, hb, hml, hown, htA⟩ (m_X3_at l G g ad n a0 aM (r1) y36.1 23 y38 hr1 (by omega) hy38) (cwV 1 htA (gV aw_99 aw_23 aw_24 aw_6 gz_X3_at) rfl rfl rfl (by decide +kernel) ⟨Nat.le_of_ble_eq_true rfl, Nat.le_of_ble_eq_true rfl⟩) (r_preV hK hW (r1) (by omega) (cE_k hr1.1) rfl [.int 23]) rfl rfl hl.1 rfl (lv_room (Nat.le_of_ble_eq_true rfl)) dX2_readFrom_47 ⟨Nat.zero_le _, Nat.zero_le _⟩) hW (fun H locs hW => ?_)
          refine lv_iload_n hx hb dX2_readFrom_50 rfl (lv_at hl 0 rfl) ?_
          refine lv_bipush (v := 24) hx hb dX2_readFrom_51 (by decide) ?_
          refine lv_isub hx hb dX2_readFrom_53 ?_
          refine lv_icmp_eq (tgt := 59) hx hb dX2_readFrom_54 (by decide) (fun hc39 => ?_) (fun hc39 => ?_)
          · replace hF := (if_pos hc39).symm.trans hF
            refine lv_aload_n hx hb dX2_readFrom_59 rfl (lv_at hl 2 rfl) ?_
            refine lv_iconst (v := 0) hx hb dX2_readFrom_60 (by decide) ?_
            refine lv_iload_n hx hb dX2_readFrom_61 rfl (lv_at hl 0 rfl) ?_
            obtain ⟨y40, hy40, hF⟩ := bd_some hF
            refine r_bi (va_runV (As := [.int 0, .int y30.2]) (rest := []) ⟨hx, hb, hml, hown, htA⟩ (m_X3_sum l G g ad n a0 aM (r1) y38.1 0 y30.2 y40 hr1 (by omega) hy40) (cwV 2 htA (gV aw_100 aw_13 aw_14 aw_6 gz_X3_sum) rfl rfl rfl (by decide +kernel) ⟨Nat.le_of_ble_eq_true rfl, Nat.le_of_ble_eq_true rfl⟩) (r_preV hK hW (r1) (by omega) (cE_k hr1.1) rfl [.int 0, .int y30.2]) rfl rfl hl.1 rfl (lv_room (Nat.le_of_ble_eq_true rfl)) dX2_readFrom_62 ⟨Nat.zero_le _, Nat.zero_le _⟩) hW (fun H locs hW => ?_)
            refine lv_i2l (v := (Int32.toInt64 y40.2)) hx hb dX2_readFrom_65 rfl ?_
            refine lv_aload_n hx hb dX2_readFrom_66 rfl (lv_at hl 2 rfl) ?_
            refine lv_iload_n hx hb dX2_readFrom_67 rfl (lv_at hl 0 rfl) ?_
            refine lv_iconst (v := 2) hx hb dX2_readFrom_68 (by decide) ?_
            obtain ⟨y41, hy41, hF⟩ := bd_some hF
            refine r_bl (va_runV (As := [.int y30.2, .int 2]) (rest := [.long (Int32.toInt64 y40.2)]) ⟨hx, hb, hml, hown, htA⟩ (m_X3_number l G g ad n a0 aM (r1) y40.1 y30.2 2 y41 hr1 (by omega) hy41) (cwV 2 htA (gV aw_161 aw_102 aw_103 aw_6 gz_X3_number) rfl rfl rfl (by decide +kernel) ⟨Nat.le_of_ble_eq_true rfl, Nat.le_of_ble_eq_true rfl⟩) (r_preV hK hW (r1) (by omega) (cE_k hr1.1) rfl [.int y30.2, .int 2]) rfl rfl hl.1 rfl (lv_room (Nat.le_of_ble_eq_true rfl)) dX2_readFrom_69 ⟨Nat.zero_le _, Nat.zero_le _⟩) hW (fun H locs hW => ?_)
            refine W.lcmp hx hb dX2_readFrom_72 ?_
            refine lv_if_eq (tgt := 78) hx hb dX2_readFrom_73 (by decide) (fun hc42 => ?_) (fun hc42 => ?_)
            · replace hF := (if_pos hc42).symm.trans hF
              refine lv_aload_n hx hb dX2_readFrom_78 rfl (lv_at hl 1 rfl) ?_
              refine lv_aload_n hx hb dX2_readFrom_79 rfl (lv_at hl 2 rfl) ?_
              refine lv_iconst (v := 3) hx hb dX2_readFrom_80 (by decide) ?_
              refine lv_bipush (v := 6) hx hb dX2_readFrom_81 (by decide) ?_
              obtain ⟨y43, hy43, hF⟩ := bd_some hF
              refine r_bl (va_runV (As := [.int 3, .int 6]) (rest := [.ref (ad (r0))]) ⟨hx, hb, hml, hown, htA⟩ (m_X3_number l G g ad n a0 aM (r1) y41.1 3 6 y43 hr1 (by omega) hy43) (cwV 2 htA (gV aw_161 aw_102 aw_103 aw_6 gz_X3_number) rfl rfl rfl (by decide +kernel) ⟨Nat.le_of_ble_eq_true rfl, Nat.le_of_ble_eq_true rfl⟩) (r_preV hK hW (r1) (by omega) (cE_k hr1.1) rfl [.int 3, .int 6]) rfl rfl hl.1 rfl (lv_room (Nat.le_of_ble_eq_true rfl)) dX2_readFrom_83 ⟨Nat.zero_le _, Nat.zero_le _⟩) hW (fun H locs hW => ?_)
              refine r_putJ (C := RX2) (T := TX2) (N := 9) hx hb htA ia_X2 tyX2 tyX2_ok nmX2 hown hK hW (r0) (by omega) (cE_k hr0.1) rfl 0 (by decide) (cE_k hr0.1) (htA _ aw_82) rfl (by decide +kernel) (Nat.le_of_ble_eq_true rfl) dX2_readFrom_86 (fun H locs hW => ?_)
              obtain ⟨w44, ew44, hF⟩ := nm_some hF
              rw [← ew44] at hW
              refine lv_aload_n hx hb dX2_readFrom_89 rfl (lv_at hl 1 rfl) ?_
              refine lv_aload_n hx hb dX2_readFrom_90 rfl (lv_at hl 2 rfl) ?_
              refine lv_bipush (v := 9) hx hb dX2_readFrom_91 (by decide) ?_
              refine lv_bipush (v := 6) hx hb dX2_readFrom_93 (by decide) ?_
              obtain ⟨y45, hy45, hF⟩ := bd_some hF
              refine r_bl (va_runV (As := [.int 9, .int 6]) (rest := [.ref (ad (r0))]) ⟨hx, hb, hml, hown, htA⟩ (m_X3_number l G g ad n a0 aM (r1) w44 9 6 y45 hr1 (by omega) hy45) (cwV 2 htA (gV aw_161 aw_102 aw_103 aw_6 gz_X3_number) rfl rfl rfl (by decide +kernel) ⟨Nat.le_of_ble_eq_true rfl, Nat.le_of_ble_eq_true rfl⟩) (r_preV hK hW (r1) (by omega) (cE_k hr1.1) rfl [.int 9, .int 6]) rfl rfl hl.1 rfl (lv_room (Nat.le_of_ble_eq_true rfl)) dX2_readFrom_95 ⟨Nat.zero_le _, Nat.zero_le _⟩) hW (fun H locs hW => ?_)
              refine r_putJ (C := RX2) (T := TX2) (N := 9) hx hb htA ia_X2 tyX2 tyX2_ok nmX2 hown hK hW (r0) (by omega) (cE_k hr0.1) rfl 1 (by decide) (cE_k hr0.1) (htA _ aw_84) rfl (by decide +kernel) (Nat.le_of_ble_eq_true rfl) dX2_readFrom_98 (fun H locs hW => ?_)
              obtain ⟨w46, ew46, hF⟩ := nm_some hF
              rw [← ew46] at hW
              refine lv_aload_n hx hb dX2_readFrom_101 rfl (lv_at hl 1 rfl) ?_
              refine lv_aload_n hx hb dX2_readFrom_102 rfl (lv_at hl 2 rfl) ?_
              refine lv_bipush (v := 15) hx hb dX2_readFrom_103 (by decide) ?_
              obtain ⟨y47, hy47, hF⟩ := bd_some hF
              refine r_bi (va_runV (As := [.int 15]) (rest := [.ref (ad (r0))]) ⟨hx, hb, hml, hown, htA⟩ (m_X3_at l G g ad n a0 aM (r1) w46 15 y47 hr1 (by omega) hy47) (cwV 1 htA (gV aw_99 aw_23 aw_24 aw_6 gz_X3_at) rfl rfl rfl (by decide +kernel) ⟨Nat.le_of_ble_eq_true rfl, Nat.le_of_ble_eq_true rfl⟩) (r_preV hK hW (r1) (by omega) (cE_k hr1.1) rfl [.int 15]) rfl rfl hl.1 rfl (lv_room (Nat.le_of_ble_eq_true rfl)) dX2_readFrom_105 ⟨Nat.zero_le _, Nat.zero_le _⟩) hW (fun H locs hW => ?_)
              refine r_putI (C := RX2) (T := TX2) (N := 9) (ty := .int) hx hb htA ia_X2 tyX2 tyX2_ok nmX2 hown hK hW (r0) (by omega) (cE_k hr0.1) rfl 2 (by decide) (cE_k hr0.1) (htA _ aw_85) rfl (by decide +kernel) rfl rfl (Nat.le_of_ble_eq_true rfl) dX2_readFrom_108 (fun H locs hW => ?_)
              obtain ⟨w48, ew48, hF⟩ := nm_some hF
              rw [← ew48] at hW
              refine lv_aload_n hx hb dX2_readFrom_111 rfl (lv_at hl 1 rfl) ?_
              refine lv_aload_n hx hb dX2_readFrom_112 rfl (lv_at hl 2 rfl) ?_
              refine lv_bipush (v := 16) hx hb dX2_readFrom_113 (by decide) ?_
              obtain ⟨y49, hy49, hF⟩ := bd_some hF
              refine r_bi (va_runV (As := [.int 16]) (rest := [.ref (ad (r0))]) ⟨hx, hb, hml, hown, htA⟩ (m_X3_at l G g ad n a0 aM (r1) w48 16 y49 hr1 (by omega) hy49) (cwV 1 htA (gV aw_99 aw_23 aw_24 aw_6 gz_X3_at) rfl rfl rfl (by decide +kernel) ⟨Nat.le_of_ble_eq_true rfl, Nat.le_of_ble_eq_true rfl⟩) (r_preV hK hW (r1) (by omega) (cE_k hr1.1) rfl [.int 16]) rfl rfl hl.1 rfl (lv_room (Nat.le_of_ble_eq_true rfl)) dX2_readFrom_115 ⟨Nat.zero_le _, Nat.zero_le _⟩) hW (fun H locs hW => ?_)
              refine r_putI (C := RX2) (T := TX2) (N := 9) (ty := .int) hx hb htA ia_X2 tyX2 tyX2_ok nmX2 hown hK hW (r0) (by omega) (cE_k hr0.1) rfl 3 (by decide) (cE_k hr0.1) (htA _ aw_86) rfl (by decide +kernel) rfl rfl (Nat.le_of_ble_eq_true rfl) dX2_readFrom_118 (fun H locs hW => ?_)
              obtain ⟨w50, ew50, hF⟩ := nm_some hF
              rw [← ew50] at hW
              refine lv_aload_n hx hb dX2_readFrom_121 rfl (lv_at hl 1 rfl) ?_
              refine lv_aload_n hx hb dX2_readFrom_122 rfl (lv_at hl 2 rfl) ?_
              refine lv_bipush (v := 17) hx hb dX2_readFrom_123 (by decide) ?_
              obtain ⟨y51, hy51, hF⟩ := bd_some hF
              refine r_bi (va_runV (As := [.int 17]) (rest := [.ref (ad (r0))]) ⟨hx, hb, hml, hown, htA⟩ (m_X3_at l G g ad n a0 aM (r1) w50 17 y51 hr1 (by omega) hy51) (cwV 1 htA (gV aw_99 aw_23 aw_24 aw_6 gz_X3_at) rfl rfl rfl (by decide +kernel) ⟨Nat.le_of_ble_eq_true rfl, Nat.le_of_ble_eq_true rfl⟩) (r_preV hK hW (r1) (by omega) (cE_k hr1.1) rfl [.int 17]) rfl rfl hl.1 rfl (lv_room (Nat.le_of_ble_eq_true rfl)) dX2_readFrom_125 ⟨Nat.zero_le _, Nat.zero_le _⟩) hW (fun H locs hW => ?_)
              refine r_putI (C := RX2) (T := TX2) (N := 9) (ty := .int) hx hb htA ia_X2 tyX2 tyX2_ok nmX2 hown hK hW (r0) (by omega) (cE_k hr0.1) rfl 4 (by decide) (cE_k hr0.1) (htA _ aw_92) rfl (by decide +kernel) rfl rfl (Nat.le_of_ble_eq_true rfl) dX2_readFrom_128 (fun H locs hW => ?_)
              obtain ⟨w52, ew52, hF⟩ := nm_some hF
              rw [← ew52] at hW
              refine lv_aload_n hx hb dX2_readFrom_131 rfl (lv_at hl 1 rfl) ?_
              refine lv_aload_n hx hb dX2_readFrom_132 rfl (lv_at hl 2 rfl) ?_
              refine lv_bipush (v := 18) hx hb dX2_readFrom_133 (by decide) ?_
              refine lv_iconst (v := 2) hx hb dX2_readFrom_135 (by decide) ?_
              obtain ⟨y53, hy53, hF⟩ := bd_some hF
              refine r_bl (va_runV (As := [.int 18, .int 2]) (rest := [.ref (ad (r0))]) ⟨hx, hb, hml, hown, htA⟩ (m_X3_number l G g ad n a0 aM (r1) w52 18 2 y53 hr1 (by omega) hy53) (cwV 2 htA (gV aw_161 aw_102 aw_103 aw_6 gz_X3_number) rfl rfl rfl (by decide +kernel) ⟨Nat.le_of_ble_eq_true rfl, Nat.le_of_ble_eq_true rfl⟩) (r_preV hK hW (r1) (by omega) (cE_k hr1.1) rfl [.int 18, .int 2]) rfl rfl hl.1 rfl (lv_room (Nat.le_of_ble_eq_true rfl)) dX2_readFrom_136 ⟨Nat.zero_le _, Nat.zero_le _⟩) hW (fun H locs hW => ?_)
              refine lv_l2i (v := (Int64.toInt32 y53.2)) hx hb dX2_readFrom_139 rfl ?_
              refine r_putI (C := RX2) (T := TX2) (N := 9) (ty := .int) hx hb htA ia_X2 tyX2 tyX2_ok nmX2 hown hK hW (r0) (by omega) (cE_k hr0.1) rfl 5 (by decide) (cE_k hr0.1) (htA _ aw_87) rfl (by decide +kernel) rfl rfl (Nat.le_of_ble_eq_true rfl) dX2_readFrom_140 (fun H locs hW => ?_)
              obtain ⟨w54, ew54, hF⟩ := nm_some hF
              rw [← ew54] at hW
              refine lv_aload_n hx hb dX2_readFrom_143 rfl (lv_at hl 1 rfl) ?_
              refine lv_aload_n hx hb dX2_readFrom_144 rfl (lv_at hl 2 rfl) ?_
              refine lv_bipush (v := 20) hx hb dX2_readFrom_145 (by decide) ?_
              obtain ⟨y55, hy55, hF⟩ := bd_some hF
              refine r_bi (va_runV (As := [.int 20]) (rest := [.ref (ad (r0))]) ⟨hx, hb, hml, hown, htA⟩ (m_X3_at l G g ad n a0 aM (r1) w54 20 y55 hr1 (by omega) hy55) (cwV 1 htA (gV aw_99 aw_23 aw_24 aw_6 gz_X3_at) rfl rfl rfl (by decide +kernel) ⟨Nat.le_of_ble_eq_true rfl, Nat.le_of_ble_eq_true rfl⟩) (r_preV hK hW (r1) (by omega) (cE_k hr1.1) rfl [.int 20]) rfl rfl hl.1 rfl (lv_room (Nat.le_of_ble_eq_true rfl)) dX2_readFrom_147 ⟨Nat.zero_le _, Nat.zero_le _⟩) hW (fun H locs hW => ?_)
              refine r_putI (C := RX2) (T := TX2) (N := 9) (ty := .int) hx hb htA ia_X2 tyX2 tyX2_ok nmX2 hown hK hW (r0) (by omega) (cE_k hr0.1) rfl 6 (by decide) (cE_k hr0.1) (htA _ aw_88) rfl (by decide +kernel) rfl rfl (Nat.le_of_ble_eq_true rfl) dX2_readFrom_150 (fun H locs hW => ?_)
              obtain ⟨w56, ew56, hF⟩ := nm_some hF
              rw [← ew56] at hW
              refine lv_aload_n hx hb dX2_readFrom_153 rfl (lv_at hl 1 rfl) ?_
              refine lv_aload_n hx hb dX2_readFrom_154 rfl (lv_at hl 2 rfl) ?_
              refine lv_bipush (v := 21) hx hb dX2_readFrom_155 (by decide) ?_
              refine lv_iconst (v := 2) hx hb dX2_readFrom_157 (by decide) ?_
              obtain ⟨y57, hy57, hF⟩ := bd_some hF
              refine r_bl (va_runV (As := [.int 21, .int 2]) (rest := [.ref (ad (r0))]) ⟨hx, hb, hml, hown, htA⟩ (m_X3_number l G g ad n a0 aM (r1) w56 21 2 y57 hr1 (by omega) hy57) (cwV 2 htA (gV aw_161 aw_102 aw_103 aw_6 gz_X3_number) rfl rfl rfl (by decide +kernel) ⟨Nat.le_of_ble_eq_true rfl, Nat.le_of_ble_eq_true rfl⟩) (r_preV hK hW (r1) (by omega) (cE_k hr1.1) rfl [.int 21, .int 2]) rfl rfl hl.1 rfl (lv_room (Nat.le_of_ble_eq_true rfl)) dX2_readFrom_158 ⟨Nat.zero_le _, Nat.zero_le _⟩) hW (fun H locs hW => ?_)
              refine lv_l2i (v := (Int64.toInt32 y57.2)) hx hb dX2_readFrom_161 rfl ?_
              refine r_putI (C := RX2) (T := TX2) (N := 9) (ty := .int) hx hb htA ia_X2 tyX2 tyX2_ok nmX2 hown hK hW (r0) (by omega) (cE_k hr0.1) rfl 7 (by decide) (cE_k hr0.1) (htA _ aw_89) rfl (by decide +kernel) rfl rfl (Nat.le_of_ble_eq_true rfl) dX2_readFrom_162 (fun H locs hW => ?_)
              obtain ⟨w58, ew58, hF⟩ := nm_some hF
              rw [← ew58] at hW
              refine lv_aload_n hx hb dX2_readFrom_165 rfl (lv_at hl 1 rfl) ?_
              refine r_get (C := RX2) (T := TX2) (N := 9) hx hb htA ia_X2 hown hK hW (r0) (by omega) (cE_k hr0.1) rfl 8 (by decide) (htA _ aw_90) rfl dX2_readFrom_166 ?_
              refine lv_iconst (v := 0) hx hb dX2_readFrom_169 (by decide) ?_
              obtain ⟨y59, hy59, hF⟩ := bd_some hF
              refine r_bv (va_runV (As := [.int 0]) (rest := []) ⟨hx, hb, hml, hown, htA⟩ (m_X3_cut l G g ad n a0 aM (r0 + 1) w58 0 y59 hr0.2 (by omega) hy59) (cwV 1 htA (gV aw_91 aw_4 aw_5 aw_6 gz_X3_cut) rfl rfl rfl (by decide +kernel) ⟨Nat.le_of_ble_eq_true rfl, Nat.le_of_ble_eq_true rfl⟩) (r_preV hK hW (r0 + 1) (by omega) (cE_k hr0.2.1) rfl [.int 0]) rfl rfl hl.1 rfl (lv_room (Nat.le_of_ble_eq_true rfl)) dX2_readFrom_170 ⟨Nat.zero_le _, Nat.zero_le _⟩) hW (fun H locs hW => ?_)
              refine lv_bipush (v := 24) hx hb dX2_readFrom_173 (by decide) ?_
              refine lv_istore_n (lv' := [(3, .int 24), (2, .int y30.2), (0, .ref (ad (r0))), (1, .ref (ad (r1)))]) hx hb dX2_readFrom_175 rfl hl (by decide) rfl (fun ls hl => ?_)
              exact hL176 y59 y30.2 24 _ _ _  hW (lv_sub hl [2, 3, 1, 0] rfl) hF
            · replace hF := (if_neg hc42).symm.trans hF
              refine lv_iconst (v := 0) hx hb dX2_readFrom_76 (by decide) ?_
              exact r_zret hx hb hr hlocks hW rfl hF dX2_readFrom_77
          · replace hF := (if_neg hc39).symm.trans hF
            refine lv_iconst (v := 0) hx hb dX2_readFrom_57 (by decide) ?_
            exact r_zret hx hb hr hlocks hW rfl hF dX2_readFrom_58
    · replace hF := (if_neg hc33).symm.trans hF
      refine lv_iconst (v := 0) hx hb dX2_readFrom_22 (by decide) ?_
      exact r_zret hx hb hr hlocks hW rfl hF dX2_readFrom_23
def F_X2_writeTo_L147 (r0 : Nat) (r1 : Nat) (σ : St) (u2 : Int32) : Option (St) := (F_X3_sum (r1) σ 0 u2).bind (fun y21 => (F_X3_putNumber (r1) y21.1 (Int32.toInt64 y21.2) 2).bind (fun y22 => some y22))
def F_X2_writeTo_L118 (r0 : Nat) (r1 : Nat) (K147 : St → Int32 → Option (St)) : Nat → St → Int32 → Int32 → Option (St)
  | 0, _, _, _ => none
  | fz + 1, σ, u2, u3 => (F_X3_size (r0 + 1) σ).bind (fun y23 => if y23.2 ≤ u3 then K147 y23.1 u2 else (F_X3_at (r0 + 1) y23.1 u3).bind (fun y25 => (F_X3_put (r1) y25.1 y25.2).bind (fun y26 => (F_X2_writeTo_L118 r0 r1 K147 fz) y26 u2 (u3 + 1))))
def F_X2_writeTo (r0 : Nat) (r1 : Nat) (σ : St) : Option (St) := (F_X3_size (r0 + 1) σ).bind (fun y27 => (F_X3_cut (r1) y27.1 0).bind (fun y28 => (F_X3_put (r1) y28 204).bind (fun y29 => (F_X3_put (r1) y29 1).bind (fun y30 => (F_X3_put (r1) y30 (24 + y27.2)).bind (fun y31 => (F_X3_putNumber (r1) y31 (y31.2 (r0) 0) 6).bind (fun y32 => (F_X3_putNumber (r1) y32 (y32.2 (r0) 1) 6).bind (fun y33 => (F_X3_put (r1) y33 (y33.1 (r0) 2)).bind (fun y34 => (F_X3_put (r1) y34 (y34.1 (r0) 3)).bind (fun y35 => (F_X3_put (r1) y35 (y35.1 (r0) 4)).bind (fun y36 => (F_X3_putNumber (r1) y36 (Int32.toInt64 (y36.1 (r0) 5)) 2).bind (fun y37 => (F_X3_put (r1) y37 (y37.1 (r0) 6)).bind (fun y38 => (F_X3_putNumber (r1) y38 (Int32.toInt64 (y38.1 (r0) 7)) 2).bind (fun y39 => (F_X3_size (r0 + 1) y39).bind (fun y40 => (F_X3_put (r1) y40.1 y40.2).bind (fun y41 => F_X2_writeTo_L118 r0 r1 (F_X2_writeTo_L147 r0 r1) fu y41 (24 + y27.2) 0)))))))))))))))
set_option maxHeartbeats 4000000 in
set_option maxRecDepth 100000 in
theorem m_X2_writeTo (l : Launch) (G : va_G) (g : Nat → ClassId) (ad : Nat → Nat) (n a0 aM : Nat) (r0 : Nat) (r1 : Nat) (σ : St) (x : St) (hr0 : isPk r0) (tr0 : r0 + 2 < tp n) (hr1 : isRow r1) (tr1 : r1 + 1 < tp n) (hF : F_X2_writeTo r0 r1 σ = some x) : Met l yX2_writeTo zs_X2_writeTo ({ frames := 1, cells := 0, slots := 0, locals := 24 } : Room) (va_Pc [.ref (ad (r0)), .ref (ad (r1))] (wP G g ad n a0 aM σ)) (qV G g ad n a0 x) 0 0 (fun q : Nat => a0 ≤ q) := by
  refine Met.ofW (cc := cX2_writeTo) (maxL := 4) (ret := none) (by decide) rfl ?_
  intro p e s m args below meth c s₁ B hml hv
  obtain ⟨rfl, hP, hD, hK⟩ := hv
  have hx := B.exec
  have hb := B.bytes
  have hr := B.returns
  have htA : ∀ w ∈ AL, w.before _ s = true := fun w h9 => atoms_spec (ws := zs_X2_writeTo) B.pre w (List.mem_cons_of_mem _ h9)
  have hown : s.vm.findClass RX2 = some m.cls := findClass_of_methodNamed B.named
  have hlocks := B.notSynchronized
  have hW : Wd G g ad n a0 s.heap σ s.heap [] := ⟨hP, hD, va_S.rf⟩
  clear hP hD
  have hL147 : ∀ (σ : St) (u2 : Int32) (H : Heap) (locs : List Loc) (ls : Array Slot), Wd G g ad n a0 s.heap σ H locs → lv_has ls 4 [(1, .ref (ad (r1))), (2, .int u2)] → F_X2_writeTo_L147 r0 r1  σ u2 = some x → W p l e (headSpec zs_X2_writeTo ({ frames := 1, cells := 0, slots := 0, locals := 24 } : Room)).room s m ([.ref (ad (r0)), .ref (ad (r1))] : List Value).toArray below meth c H locs 0 0 (MQ below (qV G g ad n a0 x) ([.ref (ad (r0)), .ref (ad (r1))] : List Value).toArray s 0 0 (fun q : Nat => a0 ≤ q)) (F0 m 147 ls []) := by
    intro σ u2 H locs ls hW hl hF
    unfold F_X2_writeTo_L147 at hF
    refine lv_aload_n hx hb dX2_writeTo_147 rfl (lv_at hl 0 rfl) ?_
    refine lv_aload_n hx hb dX2_writeTo_148 rfl (lv_at hl 0 rfl) ?_
    refine lv_iconst (v := 0) hx hb dX2_writeTo_149 (by decide) ?_
    refine lv_iload_n hx hb dX2_writeTo_150 rfl (lv_at hl 1 rfl) ?_
    obtain ⟨y21, hy21, hF⟩ := bd_some hF
    refine r_bi (va_runV (As := [.int 0, .int u2]) (rest := [.ref (ad (r1))]) ⟨hx, hb, hml, hown, htA⟩ (m_X3_sum l G g ad n a0 aM (r1) σ 0 u2 y21 hr1 (by omega) hy21) (cwV 2 htA (gV aw_100 aw_13 aw_14 aw_6 gz_X3_sum) rfl rfl rfl (by decide +kernel) ⟨Nat.le_of_ble_eq_true rfl, Nat.le_of_ble_eq_true rfl⟩) (r_preV hK hW (r1) (by omega) (cE_k hr1.1) rfl [.int 0, .int u2]) rfl rfl hl.1 rfl (lv_room (Nat.le_of_ble_eq_true rfl)) dX2_writeTo_151 ⟨Nat.zero_le _, Nat.zero_le _⟩) hW (fun H locs hW => ?_)
    refine lv_i2l (v := (Int32.toInt64 y21.2)) hx hb dX2_writeTo_154 rfl ?_
    refine lv_iconst (v := 2) hx hb dX2_writeTo_155 (by decide) ?_
    obtain ⟨y22, hy22, hF⟩ := bd_some hF
    refine r_bv (va_runV (As := [.long (Int32.toInt64 y21.2), .int 2]) (rest := []) ⟨hx, hb, hml, hown, htA⟩ (m_X3_putNumber l G g ad n a0 aM (r1) y21.1 (Int32.toInt64 y21.2) 2 y22 hr1 (by omega) hy22) (cwV 2 htA (gV aw_95 aw_96 aw_97 aw_6 gz_X3_putNumber) rfl rfl rfl (by decide +kernel) ⟨Nat.le_of_ble_eq_true rfl, Nat.le_of_ble_eq_true rfl⟩) (r_preV hK hW (r1) (by omega) (cE_k hr1.1) rfl [.long (Int32.toInt64 y21.2), .int 2]) rfl rfl hl.1 rfl (lv_room (Nat.le_of_ble_eq_true rfl)) dX2_writeTo_156 ⟨Nat.zero_le _, Nat.zero_le _⟩) hW (fun H locs hW => ?_)
    exact r_vret hx hb hr hlocks hW hF dX2_writeTo_159
  have hL118 : ∀ (fz118 : Nat) (σ : St) (u2 : Int32) (u3 : Int32) (H : Heap) (locs : List Loc) (ls : Array Slot), Wd G g ad n a0 s.heap σ H locs → lv_has ls 4 [(0, .ref (ad (r0))), (1, .ref (ad (r1))), (2, .int u2), (3, .int u3)] → F_X2_writeTo_L118 r0 r1 (F_X2_writeTo_L147 r0 r1) fz118 σ u2 u3 = some x → W p l e (headSpec zs_X2_writeTo ({ frames := 1, cells := 0, slots := 0, locals := 24 } : Room)).room s m ([.ref (ad (r0)), .ref (ad (r1))] : List Value).toArray below meth c H locs 0 0 (MQ below (qV G g ad n a0 x) ([.ref (ad (r0)), .ref (ad (r1))] : List Value).toArray s 0 0 (fun q : Nat => a0 ≤ q)) (F0 m 118 ls []) := by
    intro fz118
    induction fz118 with
    | zero =>
      intro σ u2 u3 H locs ls hW hl hF
      exact absurd hF (by simp [F_X2_writeTo_L118])
    | succ fz118 ih =>
      have hB118 := ih
      intro σ u2 u3 H locs ls hW hl hF
      unfold F_X2_writeTo_L118 at hF
      refine lv_iload_n hx hb dX2_writeTo_118 rfl (lv_at hl 3 rfl) ?_
      refine lv_aload_n hx hb dX2_writeTo_119 rfl (lv_at hl 0 rfl) ?_
      refine r_get (C := RX2) (T := TX2) (N := 9) hx hb htA ia_X2 hown hK hW (r0) (by omega) (cE_k hr0.1) rfl 8 (by decide) (htA _ aw_90) rfl dX2_writeTo_120 ?_
      obtain ⟨y23, hy23, hF⟩ := bd_some hF
      refine r_bi (va_runV (As := []) (rest := [.int u3]) ⟨hx, hb, hml, hown, htA⟩ (m_X3_size l G g ad n a0 aM (r0 + 1) σ y23 hr0.2 (by omega) hy23) (cwV 0 htA (gV aw_93 aw_19 aw_20 aw_6 gz_X3_size) rfl rfl rfl (by decide +kernel) ⟨Nat.le_of_ble_eq_true rfl, Nat.le_of_ble_eq_true rfl⟩) (r_preV hK hW (r0 + 1) (by omega) (cE_k hr0.2.1) rfl []) rfl rfl hl.1 rfl (lv_room (Nat.le_of_ble_eq_true rfl)) dX2_writeTo_123 ⟨Nat.zero_le _, Nat.zero_le _⟩) hW (fun H locs hW => ?_)
      refine lv_icmp_ge (tgt := 147) hx hb dX2_writeTo_126 (by decide) (fun hc24 => ?_) (fun hc24 => ?_)
      · replace hF := (if_pos hc24).symm.trans hF
        exact hL147 y23.1 u2 _ _ _  hW (lv_sub hl [1, 2] rfl) hF
      · replace hF := (if_neg hc24).symm.trans hF
        refine lv_aload_n hx hb dX2_writeTo_129 rfl (lv_at hl 1 rfl) ?_
        refine lv_aload_n hx hb dX2_writeTo_130 rfl (lv_at hl 0 rfl) ?_
        refine r_get (C := RX2) (T := TX2) (N := 9) hx hb htA ia_X2 hown hK hW (r0) (by omega) (cE_k hr0.1) rfl 8 (by decide) (htA _ aw_90) rfl dX2_writeTo_131 ?_
        refine lv_iload_n hx hb dX2_writeTo_134 rfl (lv_at hl 3 rfl) ?_
        obtain ⟨y25, hy25, hF⟩ := bd_some hF
        refine r_bi (va_runV (As := [.int u3]) (rest := [.ref (ad (r1))]) ⟨hx, hb, hml, hown, htA⟩ (m_X3_at l G g ad n a0 aM (r0 + 1) y23.1 u3 y25 hr0.2 (by omega) hy25) (cwV 1 htA (gV aw_99 aw_23 aw_24 aw_6 gz_X3_at) rfl rfl rfl (by decide +kernel) ⟨Nat.le_of_ble_eq_true rfl, Nat.le_of_ble_eq_true rfl⟩) (r_preV hK hW (r0 + 1) (by omega) (cE_k hr0.2.1) rfl [.int u3]) rfl rfl hl.1 rfl (lv_room (Nat.le_of_ble_eq_true rfl)) dX2_writeTo_135 ⟨Nat.zero_le _, Nat.zero_le _⟩) hW (fun H locs hW => ?_)
        obtain ⟨y26, hy26, hF⟩ := bd_some hF
        refine r_bv (va_runV (As := [.int y25.2]) (rest := []) ⟨hx, hb, hml, hown, htA⟩ (m_X3_put l G g ad n a0 aM (r1) y25.1 y25.2 y26 hr1 (by omega) hy26) (cwV 1 htA (gV aw_94 aw_9 aw_10 aw_6 gz_X3_put) rfl rfl rfl (by decide +kernel) ⟨Nat.le_of_ble_eq_true rfl, Nat.le_of_ble_eq_true rfl⟩) (r_preV hK hW (r1) (by omega) (cE_k hr1.1) rfl [.int y25.2]) rfl rfl hl.1 rfl (lv_room (Nat.le_of_ble_eq_true rfl)) dX2_writeTo_138 ⟨Nat.zero_le _, Nat.zero_le _⟩) hW (fun H locs hW => ?_)
        refine lv_iinc (v := (u3 + 1)) (lv' := [(3, .int (u3 + 1)), (0, .ref (ad (r0))), (1, .ref (ad (r1))), (2, .int u2)]) hx hb dX2_writeTo_141 hl (k := 3) rfl rfl (by decide) rfl (fun ls hl => ?_)
        refine lv_goto (tgt := 118) hx hb dX2_writeTo_144 (by decide) ?_
        exact hB118 y26 u2 (u3 + 1) _ _ _  hW (lv_sub hl [1, 2, 3, 0] rfl) hF
  have hL118 := hL118 fu
  have hl := lv_entry ([.ref (ad (r0)), .ref (ad (r1))]) (n := 4) (Nat.le_of_ble_eq_true rfl)
  rw [lg_entry_eq]
  generalize (lg_sl ([.ref (ad (r0)), .ref (ad (r1))]) ++ List.replicate (4 - (lg_sl ([.ref (ad (r0)), .ref (ad (r1))])).length) Slot.unset).toArray = ls at hl ⊢
  have hl : lv_has ls 4 [(0, .ref (ad (r0))), (1, .ref (ad (r1)))] := hl
  unfold F_X2_writeTo at hF
  refine lv_bipush (v := 24) hx hb dX2_writeTo_0 (by decide) ?_
  refine lv_aload_n hx hb dX2_writeTo_2 rfl (lv_at hl 0 rfl) ?_
  refine r_get (C := RX2) (T := TX2) (N := 9) hx hb htA ia_X2 hown hK hW (r0) (by omega) (cE_k hr0.1) rfl 8 (by decide) (htA _ aw_90) rfl dX2_writeTo_3 ?_
  obtain ⟨y27, hy27, hF⟩ := bd_some hF
  refine r_bi (va_runV (As := []) (rest := [.int 24]) ⟨hx, hb, hml, hown, htA⟩ (m_X3_size l G g ad n a0 aM (r0 + 1) σ y27 hr0.2 (by omega) hy27) (cwV 0 htA (gV aw_93 aw_19 aw_20 aw_6 gz_X3_size) rfl rfl rfl (by decide +kernel) ⟨Nat.le_of_ble_eq_true rfl, Nat.le_of_ble_eq_true rfl⟩) (r_preV hK hW (r0 + 1) (by omega) (cE_k hr0.2.1) rfl []) rfl rfl hl.1 rfl (lv_room (Nat.le_of_ble_eq_true rfl)) dX2_writeTo_6 ⟨Nat.zero_le _, Nat.zero_le _⟩) hW (fun H locs hW => ?_)
  refine lv_iadd hx hb dX2_writeTo_9 ?_
  refine lv_istore_n (lv' := [(2, .int (24 + y27.2)), (0, .ref (ad (r0))), (1, .ref (ad (r1)))]) hx hb dX2_writeTo_10 rfl hl (by decide) rfl (fun ls hl => ?_)
  refine lv_aload_n hx hb dX2_writeTo_11 rfl (lv_at hl 2 rfl) ?_
  refine lv_iconst (v := 0) hx hb dX2_writeTo_12 (by decide) ?_
  obtain ⟨y28, hy28, hF⟩ := bd_some hF
  refine r_bv (va_runV (As := [.int 0]) (rest := []) ⟨hx, hb, hml, hown, htA⟩ (m_X3_cut l G g ad n a0 aM (r1) y27.1 0 y28 hr1 (by omega) hy28) (cwV 1 htA (gV aw_91 aw_4 aw_5 aw_6 gz_X3_cut) rfl rfl rfl (by decide +kernel) ⟨Nat.le_of_ble_eq_true rfl, Nat.le_of_ble_eq_true rfl⟩) (r_preV hK hW (r1) (by omega) (cE_k hr1.1) rfl [.int 0]) rfl rfl hl.1 rfl (lv_room (Nat.le_of_ble_eq_true rfl)) dX2_writeTo_13 ⟨Nat.zero_le _, Nat.zero_le _⟩) hW (fun H locs hW => ?_)
  refine lv_aload_n hx hb dX2_writeTo_16 rfl (lv_at hl 2 rfl) ?_
  refine lv_sipush (v := 204) hx hb dX2_writeTo_17 (by decide) ?_
  obtain ⟨y29, hy29, hF⟩ := bd_some hF
  refine r_bv (va_runV (As := [.int 204]) (rest := []) ⟨hx, hb, hml, hown, htA⟩ (m_X3_put l G g ad n a0 aM (r1) y28 204 y29 hr1 (by omega) hy29) (cwV 1 htA (gV aw_94 aw_9 aw_10 aw_6 gz_X3_put) rfl rfl rfl (by decide +kernel) ⟨Nat.le_of_ble_eq_true rfl, Nat.le_of_ble_eq_true rfl⟩) (r_preV hK hW (r1) (by omega) (cE_k hr1.1) rfl [.int 204]) rfl rfl hl.1 rfl (lv_room (Nat.le_of_ble_eq_true rfl)) dX2_writeTo_20 ⟨Nat.zero_le _, Nat.zero_le _⟩) hW (fun H locs hW => ?_)
  refine lv_aload_n hx hb dX2_writeTo_23 rfl (lv_at hl 2 rfl) ?_
  refine lv_iconst (v := 1) hx hb dX2_writeTo_24 (by decide) ?_
  obtain ⟨y30, hy30, hF⟩ := bd_some hF
  refine r_bv (va_runV (As := [.int 1]) (rest := []) ⟨hx, hb, hml, hown, htA⟩ (m_X3_put l G g ad n a0 aM (r1) y29 1 y30 hr1 (by omega) hy30) (cwV 1 htA (gV aw_94 aw_9 aw_10 aw_6 gz_X3_put) rfl rfl rfl (by decide +kernel) ⟨Nat.le_of_ble_eq_true rfl, Nat.le_of_ble_eq_true rfl⟩) (r_preV hK hW (r1) (by omega) (cE_k hr1.1) rfl [.int 1]) rfl rfl hl.1 rfl (lv_room (Nat.le_of_ble_eq_true rfl)) dX2_writeTo_25 ⟨Nat.zero_le _, Nat.zero_le _⟩) hW (fun H locs hW => ?_)
  refine lv_aload_n hx hb dX2_writeTo_28 rfl (lv_at hl 2 rfl) ?_
  refine lv_iload_n hx hb dX2_writeTo_29 rfl (lv_at hl 0 rfl) ?_
  obtain ⟨y31, hy31, hF⟩ := bd_some hF
  refine r_bv (va_runV (As := [.int (24 + y27.2)]) (rest := []) ⟨hx, hb, hml, hown, htA⟩ (m_X3_put l G g ad n a0 aM (r1) y30 (24 + y27.2) y31 hr1 (by omega) hy31) (cwV 1 htA (gV aw_94 aw_9 aw_10 aw_6 gz_X3_put) rfl rfl rfl (by decide +kernel) ⟨Nat.le_of_ble_eq_true rfl, Nat.le_of_ble_eq_true rfl⟩) (r_preV hK hW (r1) (by omega) (cE_k hr1.1) rfl [.int (24 + y27.2)]) rfl rfl hl.1 rfl (lv_room (Nat.le_of_ble_eq_true rfl)) dX2_writeTo_30 ⟨Nat.zero_le _, Nat.zero_le _⟩) hW (fun H locs hW => ?_)
  refine lv_aload_n hx hb dX2_writeTo_33 rfl (lv_at hl 2 rfl) ?_
  refine lv_aload_n hx hb dX2_writeTo_34 rfl (lv_at hl 1 rfl) ?_
  refine r_get (C := RX2) (T := TX2) (N := 9) hx hb htA ia_X2 hown hK hW (r0) (by omega) (cE_k hr0.1) rfl 0 (by decide) (htA _ aw_82) rfl dX2_writeTo_35 ?_
  refine lv_bipush (v := 6) hx hb dX2_writeTo_38 (by decide) ?_
  obtain ⟨y32, hy32, hF⟩ := bd_some hF
  refine r_bv (va_runV (As := [.long (y31.2 (r0) 0), .int 6]) (rest := []) ⟨hx, hb, hml, hown, htA⟩ (m_X3_putNumber l G g ad n a0 aM (r1) y31 (y31.2 (r0) 0) 6 y32 hr1 (by omega) hy32) (cwV 2 htA (gV aw_95 aw_96 aw_97 aw_6 gz_X3_putNumber) rfl rfl rfl (by decide +kernel) ⟨Nat.le_of_ble_eq_true rfl, Nat.le_of_ble_eq_true rfl⟩) (r_preV hK hW (r1) (by omega) (cE_k hr1.1) rfl [.long (y31.2 (r0) 0), .int 6]) rfl rfl hl.1 rfl (lv_room (Nat.le_of_ble_eq_true rfl)) dX2_writeTo_40 ⟨Nat.zero_le _, Nat.zero_le _⟩) hW (fun H locs hW => ?_)
  refine lv_aload_n hx hb dX2_writeTo_43 rfl (lv_at hl 2 rfl) ?_
  refine lv_aload_n hx hb dX2_writeTo_44 rfl (lv_at hl 1 rfl) ?_
  refine r_get (C := RX2) (T := TX2) (N := 9) hx hb htA ia_X2 hown hK hW (r0) (by omega) (cE_k hr0.1) rfl 1 (by decide) (htA _ aw_84) rfl dX2_writeTo_45 ?_
  refine lv_bipush (v := 6) hx hb dX2_writeTo_48 (by decide) ?_
  obtain ⟨y33, hy33, hF⟩ := bd_some hF
  refine r_bv (va_runV (As := [.long (y32.2 (r0) 1), .int 6]) (rest := []) ⟨hx, hb, hml, hown, htA⟩ (m_X3_putNumber l G g ad n a0 aM (r1) y32 (y32.2 (r0) 1) 6 y33 hr1 (by omega) hy33) (cwV 2 htA (gV aw_95 aw_96 aw_97 aw_6 gz_X3_putNumber) rfl rfl rfl (by decide +kernel) ⟨Nat.le_of_ble_eq_true rfl, Nat.le_of_ble_eq_true rfl⟩) (r_preV hK hW (r1) (by omega) (cE_k hr1.1) rfl [.long (y32.2 (r0) 1), .int 6]) rfl rfl hl.1 rfl (lv_room (Nat.le_of_ble_eq_true rfl)) dX2_writeTo_50 ⟨Nat.zero_le _, Nat.zero_le _⟩) hW (fun H locs hW => ?_)
  refine lv_aload_n hx hb dX2_writeTo_53 rfl (lv_at hl 2 rfl) ?_
  refine lv_aload_n hx hb dX2_writeTo_54 rfl (lv_at hl 1 rfl) ?_
  refine r_get (C := RX2) (T := TX2) (N := 9) hx hb htA ia_X2 hown hK hW (r0) (by omega) (cE_k hr0.1) rfl 2 (by decide) (htA _ aw_85) rfl dX2_writeTo_55 ?_
  obtain ⟨y34, hy34, hF⟩ := bd_some hF
  refine r_bv (va_runV (As := [.int (y33.1 (r0) 2)]) (rest := []) ⟨hx, hb, hml, hown, htA⟩ (m_X3_put l G g ad n a0 aM (r1) y33 (y33.1 (r0) 2) y34 hr1 (by omega) hy34) (cwV 1 htA (gV aw_94 aw_9 aw_10 aw_6 gz_X3_put) rfl rfl rfl (by decide +kernel) ⟨Nat.le_of_ble_eq_true rfl, Nat.le_of_ble_eq_true rfl⟩) (r_preV hK hW (r1) (by omega) (cE_k hr1.1) rfl [.int (y33.1 (r0) 2)]) rfl rfl hl.1 rfl (lv_room (Nat.le_of_ble_eq_true rfl)) dX2_writeTo_58 ⟨Nat.zero_le _, Nat.zero_le _⟩) hW (fun H locs hW => ?_)
  refine lv_aload_n hx hb dX2_writeTo_61 rfl (lv_at hl 2 rfl) ?_
  refine lv_aload_n hx hb dX2_writeTo_62 rfl (lv_at hl 1 rfl) ?_
  refine r_get (C := RX2) (T := TX2) (N := 9) hx hb htA ia_X2 hown hK hW (r0) (by omega) (cE_k hr0.1) rfl 3 (by decide) (htA _ aw_86) rfl dX2_writeTo_63 ?_
  obtain ⟨y35, hy35, hF⟩ := bd_some hF
  refine r_bv (va_runV (As := [.int (y34.1 (r0) 3)]) (rest := []) ⟨hx, hb, hml, hown, htA⟩ (m_X3_put l G g ad n a0 aM (r1) y34 (y34.1 (r0) 3) y35 hr1 (by omega) hy35) (cwV 1 htA (gV aw_94 aw_9 aw_10 aw_6 gz_X3_put) rfl rfl rfl (by decide +kernel) ⟨Nat.le_of_ble_eq_true rfl, Nat.le_of_ble_eq_true rfl⟩) (r_preV hK hW (r1) (by omega) (cE_k hr1.1) rfl [.int (y34.1 (r0) 3)]) rfl rfl hl.1 rfl (lv_room (Nat.le_of_ble_eq_true rfl)) dX2_writeTo_66 ⟨Nat.zero_le _, Nat.zero_le _⟩) hW (fun H locs hW => ?_)
  refine lv_aload_n hx hb dX2_writeTo_69 rfl (lv_at hl 2 rfl) ?_
  refine lv_aload_n hx hb dX2_writeTo_70 rfl (lv_at hl 1 rfl) ?_
  refine r_get (C := RX2) (T := TX2) (N := 9) hx hb htA ia_X2 hown hK hW (r0) (by omega) (cE_k hr0.1) rfl 4 (by decide) (htA _ aw_92) rfl dX2_writeTo_71 ?_
  obtain ⟨y36, hy36, hF⟩ := bd_some hF
  refine r_bv (va_runV (As := [.int (y35.1 (r0) 4)]) (rest := []) ⟨hx, hb, hml, hown, htA⟩ (m_X3_put l G g ad n a0 aM (r1) y35 (y35.1 (r0) 4) y36 hr1 (by omega) hy36) (cwV 1 htA (gV aw_94 aw_9 aw_10 aw_6 gz_X3_put) rfl rfl rfl (by decide +kernel) ⟨Nat.le_of_ble_eq_true rfl, Nat.le_of_ble_eq_true rfl⟩) (r_preV hK hW (r1) (by omega) (cE_k hr1.1) rfl [.int (y35.1 (r0) 4)]) rfl rfl hl.1 rfl (lv_room (Nat.le_of_ble_eq_true rfl)) dX2_writeTo_74 ⟨Nat.zero_le _, Nat.zero_le _⟩) hW (fun H locs hW => ?_)
  refine lv_aload_n hx hb dX2_writeTo_77 rfl (lv_at hl 2 rfl) ?_
  refine lv_aload_n hx hb dX2_writeTo_78 rfl (lv_at hl 1 rfl) ?_
  refine r_get (C := RX2) (T := TX2) (N := 9) hx hb htA ia_X2 hown hK hW (r0) (by omega) (cE_k hr0.1) rfl 5 (by decide) (htA _ aw_87) rfl dX2_writeTo_79 ?_
  refine lv_i2l (v := (Int32.toInt64 (y36.1 (r0) 5))) hx hb dX2_writeTo_82 rfl ?_
  refine lv_iconst (v := 2) hx hb dX2_writeTo_83 (by decide) ?_
  obtain ⟨y37, hy37, hF⟩ := bd_some hF
  refine r_bv (va_runV (As := [.long (Int32.toInt64 (y36.1 (r0) 5)), .int 2]) (rest := []) ⟨hx, hb, hml, hown, htA⟩ (m_X3_putNumber l G g ad n a0 aM (r1) y36 (Int32.toInt64 (y36.1 (r0) 5)) 2 y37 hr1 (by omega) hy37) (cwV 2 htA (gV aw_95 aw_96 aw_97 aw_6 gz_X3_putNumber) rfl rfl rfl (by decide +kernel) ⟨Nat.le_of_ble_eq_true rfl, Nat.le_of_ble_eq_true rfl⟩) (r_preV hK hW (r1) (by omega) (cE_k hr1.1) rfl [.long (Int32.toInt64 (y36.1 (r0) 5)), .int 2]) rfl rfl hl.1 rfl (lv_room (Nat.le_of_ble_eq_true rfl)) dX2_writeTo_84 ⟨Nat.zero_le _, Nat.zero_le _⟩) hW (fun H locs hW => ?_)
  refine lv_aload_n hx hb dX2_writeTo_87 rfl (lv_at hl 2 rfl) ?_
  refine lv_aload_n hx hb dX2_writeTo_88 rfl (lv_at hl 1 rfl) ?_
  refine r_get (C := RX2) (T := TX2) (N := 9) hx hb htA ia_X2 hown hK hW (r0) (by omega) (cE_k hr0.1) rfl 6 (by decide) (htA _ aw_88) rfl dX2_writeTo_89 ?_
  obtain ⟨y38, hy38, hF⟩ := bd_some hF
  refine r_bv (va_runV (As := [.int (y37.1 (r0) 6)]) (rest := []) ⟨hx, hb, hml, hown, htA⟩ (m_X3_put l G g ad n a0 aM (r1) y37 (y37.1 (r0) 6) y38 hr1 (by omega) hy38) (cwV 1 htA (gV aw_94 aw_9 aw_10 aw_6 gz_X3_put) rfl rfl rfl (by decide +kernel) ⟨Nat.le_of_ble_eq_true rfl, Nat.le_of_ble_eq_true rfl⟩) (r_preV hK hW (r1) (by omega) (cE_k hr1.1) rfl [.int (y37.1 (r0) 6)]) rfl rfl hl.1 rfl (lv_room (Nat.le_of_ble_eq_true rfl)) dX2_writeTo_92 ⟨Nat.zero_le _, Nat.zero_le _⟩) hW (fun H locs hW => ?_)
  refine lv_aload_n hx hb dX2_writeTo_95 rfl (lv_at hl 2 rfl) ?_
  refine lv_aload_n hx hb dX2_writeTo_96 rfl (lv_at hl 1 rfl) ?_
  refine r_get (C := RX2) (T := TX2) (N := 9) hx hb htA ia_X2 hown hK hW (r0) (by omega) (cE_k hr0.1) rfl 7 (by decide) (htA _ aw_89) rfl dX2_writeTo_97 ?_
  refine lv_i2l (v := (Int32.toInt64 (y38.1 (r0) 7))) hx hb dX2_writeTo_100 rfl ?_
  refine lv_iconst (v := 2) hx hb dX2_writeTo_101 (by decide) ?_
  obtain ⟨y39, hy39, hF⟩ := bd_some hF
  refine r_bv (va_runV (As := [.long (Int32.toInt64 (y38.1 (r0) 7)), .int 2]) (rest := []) ⟨hx, hb, hml, hown, htA⟩ (m_X3_putNumber l G g ad n a0 aM (r1) y38 (Int32.toInt64 (y38.1 (r0) 7)) 2 y39 hr1 (by omega) hy39) (cwV 2 htA (gV aw_95 aw_96 aw_97 aw_6 gz_X3_putNumber) rfl rfl rfl (by decide +kernel) ⟨Nat.le_of_ble_eq_true rfl, Nat.le_of_ble_eq_true rfl⟩) (r_preV hK hW (r1) (by omega) (cE_k hr1.1) rfl [.long (Int32.toInt64 (y38.1 (r0) 7)), .int 2]) rfl rfl hl.1 rfl (lv_room (Nat.le_of_ble_eq_true rfl)) dX2_writeTo_102 ⟨Nat.zero_le _, Nat.zero_le _⟩) hW (fun H locs hW => ?_)
  refine lv_aload_n hx hb dX2_writeTo_105 rfl (lv_at hl 2 rfl) ?_
  refine lv_aload_n hx hb dX2_writeTo_106 rfl (lv_at hl 1 rfl) ?_
  refine r_get (C := RX2) (T := TX2) (N := 9) hx hb htA ia_X2 hown hK hW (r0) (by omega) (cE_k hr0.1) rfl 8 (by decide) (htA _ aw_90) rfl dX2_writeTo_107 ?_
  obtain ⟨y40, hy40, hF⟩ := bd_some hF
  refine r_bi (va_runV (As := []) (rest := [.ref (ad (r1))]) ⟨hx, hb, hml, hown, htA⟩ (m_X3_size l G g ad n a0 aM (r0 + 1) y39 y40 hr0.2 (by omega) hy40) (cwV 0 htA (gV aw_93 aw_19 aw_20 aw_6 gz_X3_size) rfl rfl rfl (by decide +kernel) ⟨Nat.le_of_ble_eq_true rfl, Nat.le_of_ble_eq_true rfl⟩) (r_preV hK hW (r0 + 1) (by omega) (cE_k hr0.2.1) rfl []) rfl rfl hl.1 rfl (lv_room (Nat.le_of_ble_eq_true rfl)) dX2_writeTo_110 ⟨Nat.zero_le _, Nat.zero_le _⟩) hW (fun H locs hW => ?_)
  obtain ⟨y41, hy41, hF⟩ := bd_some hF
  refine r_bv (va_runV (As := [.int y40.2]) (rest := []) ⟨hx, hb, hml, hown, htA⟩ (m_X3_put l G g ad n a0 aM (r1) y40.1 y40.2 y41 hr1 (by omega) hy41) (cwV 1 htA (gV aw_94 aw_9 aw_10 aw_6 gz_X3_put) rfl rfl rfl (by decide +kernel) ⟨Nat.le_of_ble_eq_true rfl, Nat.le_of_ble_eq_true rfl⟩) (r_preV hK hW (r1) (by omega) (cE_k hr1.1) rfl [.int y40.2]) rfl rfl hl.1 rfl (lv_room (Nat.le_of_ble_eq_true rfl)) dX2_writeTo_113 ⟨Nat.zero_le _, Nat.zero_le _⟩) hW (fun H locs hW => ?_)
  refine lv_iconst (v := 0) hx hb dX2_writeTo_116 (by decide) ?_
  refine lv_istore_n (lv' := [(3, .int 0), (2, .int (24 + y27.2)), (0, .ref (ad (r0))), (1, .ref (ad (r1)))]) hx hb dX2_writeTo_117 rfl hl (by decide) rfl (fun ls hl => ?_)
  exact hL118 y41 (24 + y27.2) 0 _ _ _  hW (lv_sub hl [2, 3, 1, 0] rfl) hF
def F_X2_beginReply (r0 : Nat) (r1 : Nat) (σ : St) (x2 : Int64) : Option (St) := nm (sJ σ (r0) 0 (σ.2 (r1) 1)) (fun w9 => nm (sJ w9 (r0) 1 x2) (fun w10 => nm (sI w10 (r0) 2 (w10.1 (r1) 2)) (fun w11 => nm (sI w11 (r0) 3 0) (fun w12 => nm (sI w12 (r0) 5 (w12.1 (r1) 5)) (fun w13 => nm (sI w13 (r0) 6 ((w13.1 (r1) 6) + 1)) (fun w14 => nm (sI w14 (r0) 7 (w14.1 (r1) 7)) (fun w15 => (F_X3_cut (r0 + 1) w15 0).bind (fun y16 => some y16))))))))
set_option maxHeartbeats 4000000 in
set_option maxRecDepth 100000 in
theorem m_X2_beginReply (l : Launch) (G : va_G) (g : Nat → ClassId) (ad : Nat → Nat) (n a0 aM : Nat) (r0 : Nat) (r1 : Nat) (σ : St) (x2 : Int64) (x : St) (hr0 : isPk r0) (tr0 : r0 + 2 < tp n) (hr1 : isPk r1) (tr1 : r1 + 2 < tp n) (hF : F_X2_beginReply r0 r1 σ x2 = some x) : Met l yX2_beginReply zs_X2_beginReply ({ frames := 1, cells := 0, slots := 0, locals := 21 } : Room) (va_Pc [.ref (ad (r0)), .ref (ad (r1)), .long x2] (wP G g ad n a0 aM σ)) (qV G g ad n a0 x) 0 0 (fun q : Nat => a0 ≤ q) := by
  refine Met.ofW (cc := cX2_beginReply) (maxL := 4) (ret := none) (by decide) rfl ?_
  intro p e s m args below meth c s₁ B hml hv
  obtain ⟨rfl, hP, hD, hK⟩ := hv
  have hx := B.exec
  have hb := B.bytes
  have hr := B.returns
  have htA : ∀ w ∈ AL, w.before _ s = true := fun w h9 => atoms_spec (ws := zs_X2_beginReply) B.pre w (List.mem_cons_of_mem _ h9)
  have hown : s.vm.findClass RX2 = some m.cls := findClass_of_methodNamed B.named
  have hlocks := B.notSynchronized
  have hW : Wd G g ad n a0 s.heap σ s.heap [] := ⟨hP, hD, va_S.rf⟩
  clear hP hD
  have hl := lv_entry ([.ref (ad (r0)), .ref (ad (r1)), .long x2]) (n := 4) (Nat.le_of_ble_eq_true rfl)
  rw [lg_entry_eq]
  generalize (lg_sl ([.ref (ad (r0)), .ref (ad (r1)), .long x2]) ++ List.replicate (4 - (lg_sl ([.ref (ad (r0)), .ref (ad (r1)), .long x2])).length) Slot.unset).toArray = ls at hl ⊢
  have hl : lv_has ls 4 [(0, .ref (ad (r0))), (1, .ref (ad (r1))), (2, .long x2)] := hl
  unfold F_X2_beginReply at hF
  refine lv_aload_n hx hb dX2_beginReply_0 rfl (lv_at hl 0 rfl) ?_
  refine lv_aload_n hx hb dX2_beginReply_1 rfl (lv_at hl 1 rfl) ?_
  refine r_get (C := RX2) (T := TX2) (N := 9) hx hb htA ia_X2 hown hK hW (r1) (by omega) (cE_k hr1.1) rfl 1 (by decide) (htA _ aw_84) rfl dX2_beginReply_2 ?_
  refine r_putJ (C := RX2) (T := TX2) (N := 9) hx hb htA ia_X2 tyX2 tyX2_ok nmX2 hown hK hW (r0) (by omega) (cE_k hr0.1) rfl 0 (by decide) (cE_k hr0.1) (htA _ aw_82) rfl (by decide +kernel) (Nat.le_of_ble_eq_true rfl) dX2_beginReply_5 (fun H locs hW => ?_)
  obtain ⟨w9, ew9, hF⟩ := nm_some hF
  rw [← ew9] at hW
  refine lv_aload_n hx hb dX2_beginReply_8 rfl (lv_at hl 0 rfl) ?_
  refine lv_lload_n hx hb dX2_beginReply_9 rfl (lv_at hl 2 rfl) ?_
  refine r_putJ (C := RX2) (T := TX2) (N := 9) hx hb htA ia_X2 tyX2 tyX2_ok nmX2 hown hK hW (r0) (by omega) (cE_k hr0.1) rfl 1 (by decide) (cE_k hr0.1) (htA _ aw_84) rfl (by decide +kernel) (Nat.le_of_ble_eq_true rfl) dX2_beginReply_10 (fun H locs hW => ?_)
  obtain ⟨w10, ew10, hF⟩ := nm_some hF
  rw [← ew10] at hW
  refine lv_aload_n hx hb dX2_beginReply_13 rfl (lv_at hl 0 rfl) ?_
  refine lv_aload_n hx hb dX2_beginReply_14 rfl (lv_at hl 1 rfl) ?_
  refine r_get (C := RX2) (T := TX2) (N := 9) hx hb htA ia_X2 hown hK hW (r1) (by omega) (cE_k hr1.1) rfl 2 (by decide) (htA _ aw_85) rfl dX2_beginReply_15 ?_
  refine r_putI (C := RX2) (T := TX2) (N := 9) (ty := .int) hx hb htA ia_X2 tyX2 tyX2_ok nmX2 hown hK hW (r0) (by omega) (cE_k hr0.1) rfl 2 (by decide) (cE_k hr0.1) (htA _ aw_85) rfl (by decide +kernel) rfl rfl (Nat.le_of_ble_eq_true rfl) dX2_beginReply_18 (fun H locs hW => ?_)
  obtain ⟨w11, ew11, hF⟩ := nm_some hF
  rw [← ew11] at hW
  refine lv_aload_n hx hb dX2_beginReply_21 rfl (lv_at hl 0 rfl) ?_
  refine lv_iconst (v := 0) hx hb dX2_beginReply_22 (by decide) ?_
  refine r_putI (C := RX2) (T := TX2) (N := 9) (ty := .int) hx hb htA ia_X2 tyX2 tyX2_ok nmX2 hown hK hW (r0) (by omega) (cE_k hr0.1) rfl 3 (by decide) (cE_k hr0.1) (htA _ aw_86) rfl (by decide +kernel) rfl rfl (Nat.le_of_ble_eq_true rfl) dX2_beginReply_23 (fun H locs hW => ?_)
  obtain ⟨w12, ew12, hF⟩ := nm_some hF
  rw [← ew12] at hW
  refine lv_aload_n hx hb dX2_beginReply_26 rfl (lv_at hl 0 rfl) ?_
  refine lv_aload_n hx hb dX2_beginReply_27 rfl (lv_at hl 1 rfl) ?_
  refine r_get (C := RX2) (T := TX2) (N := 9) hx hb htA ia_X2 hown hK hW (r1) (by omega) (cE_k hr1.1) rfl 5 (by decide) (htA _ aw_87) rfl dX2_beginReply_28 ?_
  refine r_putI (C := RX2) (T := TX2) (N := 9) (ty := .int) hx hb htA ia_X2 tyX2 tyX2_ok nmX2 hown hK hW (r0) (by omega) (cE_k hr0.1) rfl 5 (by decide) (cE_k hr0.1) (htA _ aw_87) rfl (by decide +kernel) rfl rfl (Nat.le_of_ble_eq_true rfl) dX2_beginReply_31 (fun H locs hW => ?_)
  obtain ⟨w13, ew13, hF⟩ := nm_some hF
  rw [← ew13] at hW
  refine lv_aload_n hx hb dX2_beginReply_34 rfl (lv_at hl 0 rfl) ?_
  refine lv_aload_n hx hb dX2_beginReply_35 rfl (lv_at hl 1 rfl) ?_
  refine r_get (C := RX2) (T := TX2) (N := 9) hx hb htA ia_X2 hown hK hW (r1) (by omega) (cE_k hr1.1) rfl 6 (by decide) (htA _ aw_88) rfl dX2_beginReply_36 ?_
  refine lv_iconst (v := 1) hx hb dX2_beginReply_39 (by decide) ?_
  refine lv_iadd hx hb dX2_beginReply_40 ?_
  refine r_putI (C := RX2) (T := TX2) (N := 9) (ty := .int) hx hb htA ia_X2 tyX2 tyX2_ok nmX2 hown hK hW (r0) (by omega) (cE_k hr0.1) rfl 6 (by decide) (cE_k hr0.1) (htA _ aw_88) rfl (by decide +kernel) rfl rfl (Nat.le_of_ble_eq_true rfl) dX2_beginReply_41 (fun H locs hW => ?_)
  obtain ⟨w14, ew14, hF⟩ := nm_some hF
  rw [← ew14] at hW
  refine lv_aload_n hx hb dX2_beginReply_44 rfl (lv_at hl 0 rfl) ?_
  refine lv_aload_n hx hb dX2_beginReply_45 rfl (lv_at hl 1 rfl) ?_
  refine r_get (C := RX2) (T := TX2) (N := 9) hx hb htA ia_X2 hown hK hW (r1) (by omega) (cE_k hr1.1) rfl 7 (by decide) (htA _ aw_89) rfl dX2_beginReply_46 ?_
  refine r_putI (C := RX2) (T := TX2) (N := 9) (ty := .int) hx hb htA ia_X2 tyX2 tyX2_ok nmX2 hown hK hW (r0) (by omega) (cE_k hr0.1) rfl 7 (by decide) (cE_k hr0.1) (htA _ aw_89) rfl (by decide +kernel) rfl rfl (Nat.le_of_ble_eq_true rfl) dX2_beginReply_49 (fun H locs hW => ?_)
  obtain ⟨w15, ew15, hF⟩ := nm_some hF
  rw [← ew15] at hW
  refine lv_aload_n hx hb dX2_beginReply_52 rfl (lv_at hl 0 rfl) ?_
  refine r_get (C := RX2) (T := TX2) (N := 9) hx hb htA ia_X2 hown hK hW (r0) (by omega) (cE_k hr0.1) rfl 8 (by decide) (htA _ aw_90) rfl dX2_beginReply_53 ?_
  refine lv_iconst (v := 0) hx hb dX2_beginReply_56 (by decide) ?_
  obtain ⟨y16, hy16, hF⟩ := bd_some hF
  refine r_bv (va_runV (As := [.int 0]) (rest := []) ⟨hx, hb, hml, hown, htA⟩ (m_X3_cut l G g ad n a0 aM (r0 + 1) w15 0 y16 hr0.2 (by omega) hy16) (cwV 1 htA (gV aw_91 aw_4 aw_5 aw_6 gz_X3_cut) rfl rfl rfl (by decide +kernel) ⟨Nat.le_of_ble_eq_true rfl, Nat.le_of_ble_eq_true rfl⟩) (r_preV hK hW (r0 + 1) (by omega) (cE_k hr0.2.1) rfl [.int 0]) rfl rfl hl.1 rfl (lv_room (Nat.le_of_ble_eq_true rfl)) dX2_beginReply_57 ⟨Nat.zero_le _, Nat.zero_le _⟩) hW (fun H locs hW => ?_)
  exact r_vret hx hb hr hlocks hW hF dX2_beginReply_60
def F_X2_refuse (r0 : Nat) (σ : St) (x1 : Int32) : Option (St) := nm (sI σ (r0) 3 2) (fun w3 => (F_X3_putNumber (r0 + 1) w3 (Int32.toInt64 x1) 2).bind (fun y4 => some y4))
set_option maxHeartbeats 4000000 in
set_option maxRecDepth 100000 in
theorem m_X2_refuse (l : Launch) (G : va_G) (g : Nat → ClassId) (ad : Nat → Nat) (n a0 aM : Nat) (r0 : Nat) (σ : St) (x1 : Int32) (x : St) (hr0 : isPk r0) (tr0 : r0 + 2 < tp n) (hF : F_X2_refuse r0 σ x1 = some x) : Met l yX2_refuse zs_X2_refuse ({ frames := 1, cells := 0, slots := 0, locals := 24 } : Room) (va_Pc [.ref (ad (r0)), .int x1] (wP G g ad n a0 aM σ)) (qV G g ad n a0 x) 0 0 (fun q : Nat => a0 ≤ q) := by
  refine Met.ofW (cc := cX2_refuse) (maxL := 2) (ret := none) (by decide) rfl ?_
  intro p e s m args below meth c s₁ B hml hv
  obtain ⟨rfl, hP, hD, hK⟩ := hv
  have hx := B.exec
  have hb := B.bytes
  have hr := B.returns
  have htA : ∀ w ∈ AL, w.before _ s = true := fun w h9 => atoms_spec (ws := zs_X2_refuse) B.pre w (List.mem_cons_of_mem _ h9)
  have hown : s.vm.findClass RX2 = some m.cls := findClass_of_methodNamed B.named
  have hlocks := B.notSynchronized
  have hW : Wd G g ad n a0 s.heap σ s.heap [] := ⟨hP, hD, va_S.rf⟩
  clear hP hD
  have hl := lv_entry ([.ref (ad (r0)), .int x1]) (n := 2) (Nat.le_of_ble_eq_true rfl)
  rw [lg_entry_eq]
  generalize (lg_sl ([.ref (ad (r0)), .int x1]) ++ List.replicate (2 - (lg_sl ([.ref (ad (r0)), .int x1])).length) Slot.unset).toArray = ls at hl ⊢
  have hl : lv_has ls 2 [(0, .ref (ad (r0))), (1, .int x1)] := hl
  unfold F_X2_refuse at hF
  refine lv_aload_n hx hb dX2_refuse_0 rfl (lv_at hl 0 rfl) ?_
  refine lv_iconst (v := 2) hx hb dX2_refuse_1 (by decide) ?_
  refine r_putI (C := RX2) (T := TX2) (N := 9) (ty := .int) hx hb htA ia_X2 tyX2 tyX2_ok nmX2 hown hK hW (r0) (by omega) (cE_k hr0.1) rfl 3 (by decide) (cE_k hr0.1) (htA _ aw_86) rfl (by decide +kernel) rfl rfl (Nat.le_of_ble_eq_true rfl) dX2_refuse_2 (fun H locs hW => ?_)
  obtain ⟨w3, ew3, hF⟩ := nm_some hF
  rw [← ew3] at hW
  refine lv_aload_n hx hb dX2_refuse_5 rfl (lv_at hl 0 rfl) ?_
  refine r_get (C := RX2) (T := TX2) (N := 9) hx hb htA ia_X2 hown hK hW (r0) (by omega) (cE_k hr0.1) rfl 8 (by decide) (htA _ aw_90) rfl dX2_refuse_6 ?_
  refine lv_iload_n hx hb dX2_refuse_9 rfl (lv_at hl 1 rfl) ?_
  refine lv_i2l (v := (Int32.toInt64 x1)) hx hb dX2_refuse_10 rfl ?_
  refine lv_iconst (v := 2) hx hb dX2_refuse_11 (by decide) ?_
  obtain ⟨y4, hy4, hF⟩ := bd_some hF
  refine r_bv (va_runV (As := [.long (Int32.toInt64 x1), .int 2]) (rest := []) ⟨hx, hb, hml, hown, htA⟩ (m_X3_putNumber l G g ad n a0 aM (r0 + 1) w3 (Int32.toInt64 x1) 2 y4 hr0.2 (by omega) hy4) (cwV 2 htA (gV aw_95 aw_96 aw_97 aw_6 gz_X3_putNumber) rfl rfl rfl (by decide +kernel) ⟨Nat.le_of_ble_eq_true rfl, Nat.le_of_ble_eq_true rfl⟩) (r_preV hK hW (r0 + 1) (by omega) (cE_k hr0.2.1) rfl [.long (Int32.toInt64 x1), .int 2]) rfl rfl hl.1 rfl (lv_room (Nat.le_of_ble_eq_true rfl)) dX2_refuse_12 ⟨Nat.zero_le _, Nat.zero_le _⟩) hW (fun H locs hW => ?_)
  exact r_vret hx hb hr hlocks hW hF dX2_refuse_15
