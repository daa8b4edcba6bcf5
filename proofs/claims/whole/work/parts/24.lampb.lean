def F_X1_valueRefusal_L232 (r0 : Nat) (r1 : Nat) (σ : St) (u4 : Int32) : Option (St × Int32) := if u4 = 0 then some (σ, 6) else some (σ, (-1))
def F_X1_valueRefusal_L227 (r0 : Nat) (r1 : Nat) (σ : St) (z0 : Int32) : Option (St × Int32) := F_X1_valueRefusal_L232 r0 r1 σ z0
def F_X1_valueRefusal_L177 (r0 : Nat) (r1 : Nat) (σ : St) (z0 : Int32) : Option (St × Int32) := F_X1_valueRefusal_L232 r0 r1 σ z0
def F_X1_valueRefusal_L176 (r0 : Nat) (r1 : Nat) (σ : St) : Option (St × Int32) := F_X1_valueRefusal_L177 r0 r1 σ 0
def F_X1_valueRefusal_L108 (r0 : Nat) (r1 : Nat) (σ : St) (u2 : Int32) (u4 : Int32) : Option (St × Int32) := if u4 = 0 then F_X1_valueRefusal_L232 r0 r1 σ u4 else if u2 = 0 then if ((σ.1 (r0) 8) + (σ.1 (r0) 7)) < 4 then F_X1_valueRefusal_L232 r0 r1 σ u4 else some (σ, 7) else F_X1_valueRefusal_L232 r0 r1 σ u4
def F_X1_valueRefusal_L59 (r0 : Nat) (r1 : Nat) (K108 : St → Int32 → Int32 → Option (St × Int32)) : Nat → St → Int32 → Int32 → Int32 → Option (St × Int32)
  | 0, _, _, _, _ => none
  | fz + 1, σ, u2, u4, u5 => (F_X3_size (r1 + 1) σ).bind (fun y14 => if y14.2 ≤ u5 then K108 y14.1 u2 u4 else if u4 = 0 then (F_X1_valueRefusal_L59 r0 r1 K108 fz) y14.1 u2 0 (u5 + 1) else (F_X3_at (r1 + 1) y14.1 u5).bind (fun y17 => if y17.2 < 32 then (F_X1_valueRefusal_L59 r0 r1 K108 fz) y17.1 u2 0 (u5 + 1) else (F_X3_at (r1 + 1) y17.1 u5).bind (fun y19 => if 126 < y19.2 then (F_X1_valueRefusal_L59 r0 r1 K108 fz) y19.1 u2 0 (u5 + 1) else (F_X1_valueRefusal_L59 r0 r1 K108 fz) y19.1 u2 1 (u5 + 1))))
def F_X1_valueRefusal (r0 : Nat) (r1 : Nat) (σ : St) (x2 : Int32) : Option (St × Int32) := if (σ.1 (r1) 7) = 130 then F_X1_valueRefusal_L59 r0 r1 (F_X1_valueRefusal_L108 r0 r1) fu σ x2 1 0 else if (σ.1 (r1) 7) = 224 then (F_X3_at (r1 + 1) σ 0).bind (fun y21 => if y21.2 < 1 then F_X1_valueRefusal_L176 r0 r1 y21.1 else if (y21.1.1 (r0) 2) < y21.2 then F_X1_valueRefusal_L176 r0 r1 y21.1 else (F_X6_fits y21.1 (y21.1.1 (r0) 10) ((y21.1.1 (r0) 1) * y21.2)).bind (fun y24 => if y24.2 = 0 then F_X1_valueRefusal_L176 r0 r1 y24.1 else F_X1_valueRefusal_L177 r0 r1 y24.1 1)) else if (σ.1 (r1) 7) = 240 then (F_X3_at (r1 + 1) σ 0).bind (fun y26 => (F_X3_at (r1 + 1) y26.1 1).bind (fun y27 => (F_X6_fits y27.1 ((y26.2 <<< (8 &&& 31)) ||| y27.2) ((y27.1.1 (r0) 1) * (y27.1.1 (r0) 9))).bind (fun y28 => F_X1_valueRefusal_L232 r0 r1 y28.1 y28.2))) else if (σ.1 (r1) 7) = 4096 then (F_X3_at (r1 + 1) σ 0).bind (fun y29 => if 1 < y29.2 then F_X1_valueRefusal_L227 r0 r1 y29.1 0 else F_X1_valueRefusal_L227 r0 r1 y29.1 1) else F_X1_valueRefusal_L232 r0 r1 σ 1
set_option maxHeartbeats 4000000 in
set_option maxRecDepth 100000 in
theorem m_X1_valueRefusal (l : Launch) (G : va_G) (g : Nat → ClassId) (ad : Nat → Nat) (n a0 aM : Nat) (r0 : Nat) (r1 : Nat) (σ : St) (x2 : Int32) (x : St × Int32) (hr0 : isLp r0) (tr0 : r0 + 11 < tp n) (hr1 : isPk r1) (tr1 : r1 + 2 < tp n) (hF : F_X1_valueRefusal r0 r1 σ x2 = some x) : Met l yX1_valueRefusal zs_X1_valueRefusal ({ frames := 1, cells := 0, slots := 0, locals := 21 } : Room) (va_Pc [.ref (ad (r0)), .ref (ad (r1)), .int x2] (wP G g ad n a0 aM σ)) (qI G g ad n a0 x) 0 0 (fun q : Nat => a0 ≤ q) := by
  refine Met.ofW (cc := cX1_valueRefusal) (maxL := 6) (ret := (some .int)) (by decide) rfl ?_
  intro p e s m args below meth c s₁ B hml hv
  obtain ⟨rfl, hP, hD, hK⟩ := hv
  have hx := B.exec
  have hb := B.bytes
  have hr := B.returns
  have htA : ∀ w ∈ AL, w.before _ s = true := fun w h9 => atoms_spec (ws := zs_X1_valueRefusal) B.pre w (List.mem_cons_of_mem _ h9)
  have hown : s.vm.findClass RX1 = some m.cls := findClass_of_methodNamed B.named
  have hlocks := B.notSynchronized
  have hW : Wd G g ad n a0 s.heap σ s.heap [] := ⟨hP, hD, va_S.rf⟩
  clear hP hD
  have hL232 : ∀ (σ : St) (u4 : Int32) (H : Heap) (locs : List Loc) (ls : Array Slot), Wd G g ad n a0 s.heap σ H locs → lv_has ls 6 [(4, .int u4)] → F_X1_valueRefusal_L232 r0 r1  σ u4 = some x → W p l e (headSpec zs_X1_valueRefusal ({ frames := 1, cells := 0, slots := 0, locals := 21 } : Room)).room s m ([.ref (ad (r0)), .ref (ad (r1)), .int x2] : List Value).toArray below meth c H locs 0 0 (MQ below (qI G g ad n a0 x) ([.ref (ad (r0)), .ref (ad (r1)), .int x2] : List Value).toArray s 0 0 (fun q : Nat => a0 ≤ q)) (F0 m 232 ls []) := by
    intro σ u4 H locs ls hW hl hF
    unfold F_X1_valueRefusal_L232 at hF
    refine lv_iload hx hb dX1_valueRefusal_232 (lv_at hl 0 rfl) ?_
    refine lv_if_eq (tgt := 241) hx hb dX1_valueRefusal_234 (by decide) (fun hc10 => ?_) (fun hc10 => ?_)
    · replace hF := (if_pos hc10).symm.trans hF
      refine lv_bipush (v := 6) hx hb dX1_valueRefusal_241 (by decide) ?_
      exact r_iret hx hb hr hlocks hW hF dX1_valueRefusal_243
    · replace hF := (if_neg hc10).symm.trans hF
      refine lv_iconst (v := (-1)) hx hb dX1_valueRefusal_237 (by decide) ?_
      refine lv_goto (tgt := 243) hx hb dX1_valueRefusal_238 (by decide) ?_
      exact r_iret hx hb hr hlocks hW hF dX1_valueRefusal_243
  have hL227 : ∀ (σ : St) (z0 : Int32) (H : Heap) (locs : List Loc) (ls : Array Slot), Wd G g ad n a0 s.heap σ H locs → lv_has ls 6 [] → F_X1_valueRefusal_L227 r0 r1  σ z0 = some x → W p l e (headSpec zs_X1_valueRefusal ({ frames := 1, cells := 0, slots := 0, locals := 21 } : Room)).room s m ([.ref (ad (r0)), .ref (ad (r1)), .int x2] : List Value).toArray below meth c H locs 0 0 (MQ below (qI G g ad n a0 x) ([.ref (ad (r0)), .ref (ad (r1)), .int x2] : List Value).toArray s 0 0 (fun q : Nat => a0 ≤ q)) (F0 m 227 ls [.int z0]) := by
    intro σ z0 H locs ls hW hl hF
    unfold F_X1_valueRefusal_L227 at hF
    refine lv_istore (lv' := [(4, .int z0)]) hx hb dX1_valueRefusal_227 hl (by decide) rfl (fun ls hl => ?_)
    refine lv_goto (tgt := 232) hx hb dX1_valueRefusal_229 (by decide) ?_
    exact hL232 σ z0 _ _ _  hW (lv_sub hl [0] rfl) hF
  have hL177 : ∀ (σ : St) (z0 : Int32) (H : Heap) (locs : List Loc) (ls : Array Slot), Wd G g ad n a0 s.heap σ H locs → lv_has ls 6 [] → F_X1_valueRefusal_L177 r0 r1  σ z0 = some x → W p l e (headSpec zs_X1_valueRefusal ({ frames := 1, cells := 0, slots := 0, locals := 21 } : Room)).room s m ([.ref (ad (r0)), .ref (ad (r1)), .int x2] : List Value).toArray below meth c H locs 0 0 (MQ below (qI G g ad n a0 x) ([.ref (ad (r0)), .ref (ad (r1)), .int x2] : List Value).toArray s 0 0 (fun q : Nat => a0 ≤ q)) (F0 m 177 ls [.int z0]) := by
    intro σ z0 H locs ls hW hl hF
    unfold F_X1_valueRefusal_L177 at hF
    refine lv_istore (lv' := [(4, .int z0)]) hx hb dX1_valueRefusal_177 hl (by decide) rfl (fun ls hl => ?_)
    refine lv_goto (tgt := 232) hx hb dX1_valueRefusal_179 (by decide) ?_
    exact hL232 σ z0 _ _ _  hW (lv_sub hl [0] rfl) hF
  have hL176 : ∀ (σ : St) (H : Heap) (locs : List Loc) (ls : Array Slot), Wd G g ad n a0 s.heap σ H locs → lv_has ls 6 [] → F_X1_valueRefusal_L176 r0 r1  σ = some x → W p l e (headSpec zs_X1_valueRefusal ({ frames := 1, cells := 0, slots := 0, locals := 21 } : Room)).room s m ([.ref (ad (r0)), .ref (ad (r1)), .int x2] : List Value).toArray below meth c H locs 0 0 (MQ below (qI G g ad n a0 x) ([.ref (ad (r0)), .ref (ad (r1)), .int x2] : List Value).toArray s 0 0 (fun q : Nat => a0 ≤ q)) (F0 m 176 ls []) := by
    intro σ H locs ls hW hl hF
    unfold F_X1_valueRefusal_L176 at hF
    refine lv_iconst (v := 0) hx hb dX1_valueRefusal_176 (by decide) ?_
    exact hL177 σ 0 _ _ _  hW (lv_sub hl [] rfl) hF
  have hL108 : ∀ (σ : St) (u2 : Int32) (u4 : Int32) (H : Heap) (locs : List Loc) (ls : Array Slot), Wd G g ad n a0 s.heap σ H locs → lv_has ls 6 [(0, .ref (ad (r0))), (2, .int u2), (4, .int u4)] → F_X1_valueRefusal_L108 r0 r1  σ u2 u4 = some x → W p l e (headSpec zs_X1_valueRefusal ({ frames := 1, cells := 0, slots := 0, locals := 21 } : Room)).room s m ([.ref (ad (r0)), .ref (ad (r1)), .int x2] : List Value).toArray below meth c H locs 0 0 (MQ below (qI G g ad n a0 x) ([.ref (ad (r0)), .ref (ad (r1)), .int x2] : List Value).toArray s 0 0 (fun q : Nat => a0 ≤ q)) (F0 m 108 ls []) := by
    intro σ u2 u4 H locs ls hW hl hF
    unfold F_X1_valueRefusal_L108 at hF
    refine lv_iload hx hb dX1_valueRefusal_108 (lv_at hl 2 rfl) ?_
    refine lv_if_eq (tgt := 232) hx hb dX1_valueRefusal_110 (by decide) (fun hc11 => ?_) (fun hc11 => ?_)
    · replace hF := (if_pos hc11).symm.trans hF
      exact hL232 σ u4 _ _ _  hW (lv_sub hl [2] rfl) hF
    · replace hF := (if_neg hc11).symm.trans hF
      refine lv_iload_n hx hb dX1_valueRefusal_113 rfl (lv_at hl 1 rfl) ?_
      refine lv_if_ne (tgt := 232) hx hb dX1_valueRefusal_114 (by decide) (fun hc12 => ?_) (fun hc12 => ?_)
      · replace hF := (if_neg hc12).symm.trans hF
        exact hL232 σ u4 _ _ _  hW (lv_sub hl [2] rfl) hF
      · replace hF := (if_pos hc12).symm.trans hF
        refine lv_aload_n hx hb dX1_valueRefusal_117 rfl (lv_at hl 0 rfl) ?_
        refine r_get (C := RX1) (T := TX1) (N := 15) hx hb htA ia_X1 hown hK hW (r0) (by omega) (cE_k hr0.1) rfl 8 (by decide) (htA _ aw_49) rfl dX1_valueRefusal_118 ?_
        refine lv_aload_n hx hb dX1_valueRefusal_121 rfl (lv_at hl 0 rfl) ?_
        refine r_get (C := RX1) (T := TX1) (N := 15) hx hb htA ia_X1 hown hK hW (r0) (by omega) (cE_k hr0.1) rfl 7 (by decide) (htA _ aw_66) rfl dX1_valueRefusal_122 ?_
        refine lv_iadd hx hb dX1_valueRefusal_125 ?_
        refine lv_iconst (v := 4) hx hb dX1_valueRefusal_126 (by decide) ?_
        refine lv_icmp_lt (tgt := 232) hx hb dX1_valueRefusal_127 (by decide) (fun hc13 => ?_) (fun hc13 => ?_)
        · replace hF := (if_pos hc13).symm.trans hF
          exact hL232 σ u4 _ _ _  hW (lv_sub hl [2] rfl) hF
        · replace hF := (if_neg hc13).symm.trans hF
          refine lv_bipush (v := 7) hx hb dX1_valueRefusal_130 (by decide) ?_
          exact r_iret hx hb hr hlocks hW hF dX1_valueRefusal_132
  have hL59 : ∀ (fz59 : Nat) (σ : St) (u2 : Int32) (u4 : Int32) (u5 : Int32) (H : Heap) (locs : List Loc) (ls : Array Slot), Wd G g ad n a0 s.heap σ H locs → lv_has ls 6 [(0, .ref (ad (r0))), (2, .int u2), (3, .ref (ad (r1 + 1))), (4, .int u4), (5, .int u5)] → F_X1_valueRefusal_L59 r0 r1 (F_X1_valueRefusal_L108 r0 r1) fz59 σ u2 u4 u5 = some x → W p l e (headSpec zs_X1_valueRefusal ({ frames := 1, cells := 0, slots := 0, locals := 21 } : Room)).room s m ([.ref (ad (r0)), .ref (ad (r1)), .int x2] : List Value).toArray below meth c H locs 0 0 (MQ below (qI G g ad n a0 x) ([.ref (ad (r0)), .ref (ad (r1)), .int x2] : List Value).toArray s 0 0 (fun q : Nat => a0 ≤ q)) (F0 m 59 ls []) := by
    intro fz59
    induction fz59 with
    | zero =>
      intro σ u2 u4 u5 H locs ls hW hl hF
      exact absurd hF (by simp [F_X1_valueRefusal_L59])
    | succ fz59 ih =>
      have hB59 := ih
      intro σ u2 u4 u5 H locs ls hW hl hF
      unfold F_X1_valueRefusal_L59 at hF
      refine lv_iload hx hb dX1_valueRefusal_59 (lv_at hl 4 rfl) ?_
      refine lv_aload_n hx hb dX1_valueRefusal_61 rfl (lv_at hl 2 rfl) ?_
      obtain ⟨y14, hy14, hF⟩ := bd_some hF
      refine r_bi (va_runV (As := []) (rest := [.int u5]) ⟨hx, hb, hml, hown, htA⟩ (m_X3_size l G g ad n a0 aM (r1 + 1) σ y14 hr1.2 (by omega) hy14) (cwV 0 htA (gV aw_65 aw_19 aw_20 aw_6 gz_X3_size) rfl rfl rfl (by decide +kernel) ⟨Nat.le_of_ble_eq_true rfl, Nat.le_of_ble_eq_true rfl⟩) (r_preV hK hW (r1 + 1) (by omega) (cE_k hr1.2.1) rfl []) rfl rfl hl.1 rfl (lv_room (Nat.le_of_ble_eq_true rfl)) dX1_valueRefusal_62 ⟨Nat.zero_le _, Nat.zero_le _⟩) hW (fun H locs hW => ?_)
      refine lv_icmp_ge (tgt := 108) hx hb dX1_valueRefusal_65 (by decide) (fun hc15 => ?_) (fun hc15 => ?_)
      · replace hF := (if_pos hc15).symm.trans hF
        exact hL108 y14.1 u2 u4 _ _ _  hW (lv_sub hl [0, 1, 3] rfl) hF
      · replace hF := (if_neg hc15).symm.trans hF
        refine lv_iload hx hb dX1_valueRefusal_68 (lv_at hl 3 rfl) ?_
        refine lv_if_eq (tgt := 99) hx hb dX1_valueRefusal_70 (by decide) (fun hc16 => ?_) (fun hc16 => ?_)
        · replace hF := (if_pos hc16).symm.trans hF
          refine lv_iconst (v := 0) hx hb dX1_valueRefusal_99 (by decide) ?_
          refine lv_istore (lv' := [(4, .int 0), (0, .ref (ad (r0))), (2, .int u2), (3, .ref (ad (r1 + 1))), (5, .int u5)]) hx hb dX1_valueRefusal_100 hl (by decide) rfl (fun ls hl => ?_)
          refine lv_iinc (v := (u5 + 1)) (lv' := [(5, .int (u5 + 1)), (4, .int 0), (0, .ref (ad (r0))), (2, .int u2), (3, .ref (ad (r1 + 1)))]) hx hb dX1_valueRefusal_102 hl (k := 4) rfl rfl (by decide) rfl (fun ls hl => ?_)
          refine lv_goto (tgt := 59) hx hb dX1_valueRefusal_105 (by decide) ?_
          exact hB59 y14.1 u2 0 (u5 + 1) _ _ _  hW (lv_sub hl [2, 3, 4, 1, 0] rfl) hF
        · replace hF := (if_neg hc16).symm.trans hF
          refine lv_aload_n hx hb dX1_valueRefusal_73 rfl (lv_at hl 2 rfl) ?_
          refine lv_iload hx hb dX1_valueRefusal_74 (lv_at hl 4 rfl) ?_
          obtain ⟨y17, hy17, hF⟩ := bd_some hF
          refine r_bi (va_runV (As := [.int u5]) (rest := []) ⟨hx, hb, hml, hown, htA⟩ (m_X3_at l G g ad n a0 aM (r1 + 1) y14.1 u5 y17 hr1.2 (by omega) hy17) (cwV 1 htA (gV aw_75 aw_23 aw_24 aw_6 gz_X3_at) rfl rfl rfl (by decide +kernel) ⟨Nat.le_of_ble_eq_true rfl, Nat.le_of_ble_eq_true rfl⟩) (r_preV hK hW (r1 + 1) (by omega) (cE_k hr1.2.1) rfl [.int u5]) rfl rfl hl.1 rfl (lv_room (Nat.le_of_ble_eq_true rfl)) dX1_valueRefusal_76 ⟨Nat.zero_le _, Nat.zero_le _⟩) hW (fun H locs hW => ?_)
          refine lv_bipush (v := 32) hx hb dX1_valueRefusal_79 (by decide) ?_
          refine lv_icmp_lt (tgt := 99) hx hb dX1_valueRefusal_81 (by decide) (fun hc18 => ?_) (fun hc18 => ?_)
          · replace hF := (if_pos hc18).symm.trans hF
            refine lv_iconst (v := 0) hx hb dX1_valueRefusal_99 (by decide) ?_
            refine lv_istore (lv' := [(4, .int 0), (0, .ref (ad (r0))), (2, .int u2), (3, .ref (ad (r1 + 1))), (5, .int u5)]) hx hb dX1_valueRefusal_100 hl (by decide) rfl (fun ls hl => ?_)
            refine lv_iinc (v := (u5 + 1)) (lv' := [(5, .int (u5 + 1)), (4, .int 0), (0, .ref (ad (r0))), (2, .int u2), (3, .ref (ad (r1 + 1)))]) hx hb dX1_valueRefusal_102 hl (k := 4) rfl rfl (by decide) rfl (fun ls hl => ?_)
            refine lv_goto (tgt := 59) hx hb dX1_valueRefusal_105 (by decide) ?_
            exact hB59 y17.1 u2 0 (u5 + 1) _ _ _  hW (lv_sub hl [2, 3, 4, 1, 0] rfl) hF
          · replace hF := (if_neg hc18).symm.trans hF
            refine lv_aload_n hx hb dX1_valueRefusal_84 rfl (lv_at hl 2 rfl) ?_
            refine lv_iload hx hb dX1_valueRefusal_85 (lv_at hl 4 rfl) ?_
            obtain ⟨y19, hy19, hF⟩ := bd_some hF
            refine r_bi (va_runV (As := [.int u5]) (rest := []) ⟨hx, hb, hml, hown, htA⟩ (m_X3_at l G g ad n a0 aM (r1 + 1) y17.1 u5 y19 hr1.2 (by omega) hy19) (cwV 1 htA (gV aw_75 aw_23 aw_24 aw_6 gz_X3_at) rfl rfl rfl (by decide +kernel) ⟨Nat.le_of_ble_eq_true rfl, Nat.le_of_ble_eq_true rfl⟩) (r_preV hK hW (r1 + 1) (by omega) (cE_k hr1.2.1) rfl [.int u5]) rfl rfl hl.1 rfl (lv_room (Nat.le_of_ble_eq_true rfl)) dX1_valueRefusal_87 ⟨Nat.zero_le _, Nat.zero_le _⟩) hW (fun H locs hW => ?_)
            refine lv_bipush (v := 126) hx hb dX1_valueRefusal_90 (by decide) ?_
            refine lv_icmp_gt (tgt := 99) hx hb dX1_valueRefusal_92 (by decide) (fun hc20 => ?_) (fun hc20 => ?_)
            · replace hF := (if_pos hc20).symm.trans hF
              refine lv_iconst (v := 0) hx hb dX1_valueRefusal_99 (by decide) ?_
              refine lv_istore (lv' := [(4, .int 0), (0, .ref (ad (r0))), (2, .int u2), (3, .ref (ad (r1 + 1))), (5, .int u5)]) hx hb dX1_valueRefusal_100 hl (by decide) rfl (fun ls hl => ?_)
              refine lv_iinc (v := (u5 + 1)) (lv' := [(5, .int (u5 + 1)), (4, .int 0), (0, .ref (ad (r0))), (2, .int u2), (3, .ref (ad (r1 + 1)))]) hx hb dX1_valueRefusal_102 hl (k := 4) rfl rfl (by decide) rfl (fun ls hl => ?_)
              refine lv_goto (tgt := 59) hx hb dX1_valueRefusal_105 (by decide) ?_
              exact hB59 y19.1 u2 0 (u5 + 1) _ _ _  hW (lv_sub hl [2, 3, 4, 1, 0] rfl) hF
            · replace hF := (if_neg hc20).symm.trans hF
              refine lv_iconst (v := 1) hx hb dX1_valueRefusal_95 (by decide) ?_
              refine lv_goto (tgt := 100) hx hb dX1_valueRefusal_96 (by decide) ?_
              refine lv_istore (lv' := [(4, .int 1), (0, .ref (ad (r0))), (2, .int u2), (3, .ref (ad (r1 + 1))), (5, .int u5)]) hx hb dX1_valueRefusal_100 hl (by decide) rfl (fun ls hl => ?_)
              refine lv_iinc (v := (u5 + 1)) (lv' := [(5, .int (u5 + 1)), (4, .int 1), (0, .ref (ad (r0))), (2, .int u2), (3, .ref (ad (r1 + 1)))]) hx hb dX1_valueRefusal_102 hl (k := 4) rfl rfl (by decide) rfl (fun ls hl => ?_)
              refine lv_goto (tgt := 59) hx hb dX1_valueRefusal_105 (by decide) ?_
              exact hB59 y19.1 u2 1 (u5 + 1) _ _ _  hW (lv_sub hl [2, 3, 4, 1, 0] rfl) hF
  have hL59 := hL59 fu
  have hl := lv_entry ([.ref (ad (r0)), .ref (ad (r1)), .int x2]) (n := 6) (Nat.le_of_ble_eq_true rfl)
  rw [lg_entry_eq]
  generalize (lg_sl ([.ref (ad (r0)), .ref (ad (r1)), .int x2]) ++ List.replicate (6 - (lg_sl ([.ref (ad (r0)), .ref (ad (r1)), .int x2])).length) Slot.unset).toArray = ls at hl ⊢
  have hl : lv_has ls 6 [(0, .ref (ad (r0))), (1, .ref (ad (r1))), (2, .int x2)] := hl
  unfold F_X1_valueRefusal at hF
  refine lv_aload_n hx hb dX1_valueRefusal_0 rfl (lv_at hl 1 rfl) ?_
  refine r_getN (C := RX2) (T := TX2) (N := 9) hx hb htA ia_X2 hown hK hW (r1) (by omega) (cE_k hr1.1) rfl 8 (by decide) (hK.nest (w := .fieldLinkNest RX1 125 "LampLine$Packet" "data" "LLampLine$Row;" "LampLine") (by decide +kernel)) rfl dX1_valueRefusal_1 ?_
  refine lv_astore_n (lv' := [(3, .ref (ad (r1 + 1))), (0, .ref (ad (r0))), (1, .ref (ad (r1))), (2, .int x2)]) hx hb dX1_valueRefusal_4 rfl hl (by decide) rfl (fun ls hl => ?_)
  refine lv_iconst (v := 1) hx hb dX1_valueRefusal_5 (by decide) ?_
  refine lv_istore (lv' := [(4, .int 1), (3, .ref (ad (r1 + 1))), (0, .ref (ad (r0))), (1, .ref (ad (r1))), (2, .int x2)]) hx hb dX1_valueRefusal_6 hl (by decide) rfl (fun ls hl => ?_)
  refine lv_aload_n hx hb dX1_valueRefusal_8 rfl (lv_at hl 3 rfl) ?_
  refine r_getN (C := RX2) (T := TX2) (N := 9) hx hb htA ia_X2 hown hK hW (r1) (by omega) (cE_k hr1.1) rfl 7 (by decide) (hK.nest (w := .fieldLinkNest RX1 128 "LampLine$Packet" "matter" "I" "LampLine") (by decide +kernel)) rfl dX1_valueRefusal_9 ?_
  by_cases hs12_0 : (σ.1 (r1) 7) = 130
  · replace hF := (if_pos hs12_0).symm.trans hF
    refine lv_lookup (off := 44) (tgt := 56) hx hb dX1_valueRefusal_12 (by decide) (by rw [hs12_0]; decide) (by decide) ?_
    refine lv_iconst (v := 0) hx hb dX1_valueRefusal_56 (by decide) ?_
    refine lv_istore (lv' := [(5, .int 0), (4, .int 1), (3, .ref (ad (r1 + 1))), (0, .ref (ad (r0))), (1, .ref (ad (r1))), (2, .int x2)]) hx hb dX1_valueRefusal_57 hl (by decide) rfl (fun ls hl => ?_)
    exact hL59 σ x2 1 0 _ _ _  hW (lv_sub hl [3, 5, 2, 1, 0] rfl) hF
  · replace hF := (if_neg hs12_0).symm.trans hF
    by_cases hs12_1 : (σ.1 (r1) 7) = 224
    · replace hF := (if_pos hs12_1).symm.trans hF
      refine lv_lookup (off := 121) (tgt := 133) hx hb dX1_valueRefusal_12 (by decide) (by rw [hs12_1]; decide) (by decide) ?_
      refine lv_aload_n hx hb dX1_valueRefusal_133 rfl (lv_at hl 1 rfl) ?_
      refine lv_iconst (v := 0) hx hb dX1_valueRefusal_134 (by decide) ?_
      obtain ⟨y21, hy21, hF⟩ := bd_some hF
      refine r_bi (va_runV (As := [.int 0]) (rest := []) ⟨hx, hb, hml, hown, htA⟩ (m_X3_at l G g ad n a0 aM (r1 + 1) σ 0 y21 hr1.2 (by omega) hy21) (cwV 1 htA (gV aw_75 aw_23 aw_24 aw_6 gz_X3_at) rfl rfl rfl (by decide +kernel) ⟨Nat.le_of_ble_eq_true rfl, Nat.le_of_ble_eq_true rfl⟩) (r_preV hK hW (r1 + 1) (by omega) (cE_k hr1.2.1) rfl [.int 0]) rfl rfl hl.1 rfl (lv_room (Nat.le_of_ble_eq_true rfl)) dX1_valueRefusal_135 ⟨Nat.zero_le _, Nat.zero_le _⟩) hW (fun H locs hW => ?_)
      refine lv_istore (lv' := [(5, .int y21.2), (4, .int 1), (3, .ref (ad (r1 + 1))), (0, .ref (ad (r0))), (1, .ref (ad (r1))), (2, .int x2)]) hx hb dX1_valueRefusal_138 hl (by decide) rfl (fun ls hl => ?_)
      refine lv_iload hx hb dX1_valueRefusal_140 (lv_at hl 0 rfl) ?_
      refine lv_iconst (v := 1) hx hb dX1_valueRefusal_142 (by decide) ?_
      refine lv_icmp_lt (tgt := 176) hx hb dX1_valueRefusal_143 (by decide) (fun hc22 => ?_) (fun hc22 => ?_)
      · replace hF := (if_pos hc22).symm.trans hF
        exact hL176 y21.1 _ _ _  hW (lv_sub hl [] rfl) hF
      · replace hF := (if_neg hc22).symm.trans hF
        refine lv_iload hx hb dX1_valueRefusal_146 (lv_at hl 0 rfl) ?_
        refine lv_aload_n hx hb dX1_valueRefusal_148 rfl (lv_at hl 3 rfl) ?_
        refine r_get (C := RX1) (T := TX1) (N := 15) hx hb htA ia_X1 hown hK hW (r0) (by omega) (cE_k hr0.1) rfl 2 (by decide) (htA _ aw_41) rfl dX1_valueRefusal_149 ?_
        refine lv_icmp_gt (tgt := 176) hx hb dX1_valueRefusal_152 (by decide) (fun hc23 => ?_) (fun hc23 => ?_)
        · replace hF := (if_pos hc23).symm.trans hF
          exact hL176 y21.1 _ _ _  hW (lv_sub hl [] rfl) hF
        · replace hF := (if_neg hc23).symm.trans hF
          refine lv_aload_n hx hb dX1_valueRefusal_155 rfl (lv_at hl 3 rfl) ?_
          refine r_get (C := RX1) (T := TX1) (N := 15) hx hb htA ia_X1 hown hK hW (r0) (by omega) (cE_k hr0.1) rfl 10 (by decide) (htA _ aw_42) rfl dX1_valueRefusal_156 ?_
          refine lv_aload_n hx hb dX1_valueRefusal_159 rfl (lv_at hl 3 rfl) ?_
          refine r_get (C := RX1) (T := TX1) (N := 15) hx hb htA ia_X1 hown hK hW (r0) (by omega) (cE_k hr0.1) rfl 1 (by decide) (htA _ aw_40) rfl dX1_valueRefusal_160 ?_
          refine lv_iload hx hb dX1_valueRefusal_163 (lv_at hl 0 rfl) ?_
          refine lv_imul hx hb dX1_valueRefusal_165 ?_
          obtain ⟨y24, hy24, hF⟩ := bd_some hF
          refine r_bi (va_runSN (As := [.int (y21.1.1 (r0) 10), .int ((y21.1.1 (r0) 1) * y21.2)]) (rest := []) ⟨hx, hb, hml, hown, htA⟩ (m_X6_fits l G g ad n a0 aM y21.1 (y21.1.1 (r0) 10) ((y21.1.1 (r0) 1) * y21.2) y24  hy24) ⟨va_cnB (host := "LampLine") 2 htA gz_X6_fits rfl rfl rfl (hK.2.2.2.1 _ (by decide +kernel)) (htA _ aw_52) (by decide +kernel) ⟨Nat.le_of_ble_eq_true rfl, Nat.le_of_ble_eq_true rfl⟩, htA _ aw_127, trivial⟩ (r_pre hK hW [.int (y21.1.1 (r0) 10), .int ((y21.1.1 (r0) 1) * y21.2)]) rfl rfl hl.1 rfl (lv_room (Nat.le_of_ble_eq_true rfl)) dX1_valueRefusal_166 ⟨Nat.zero_le _, Nat.zero_le _⟩) hW (fun H locs hW => ?_)
          refine lv_if_eq (tgt := 176) hx hb dX1_valueRefusal_169 (by decide) (fun hc25 => ?_) (fun hc25 => ?_)
          · replace hF := (if_pos hc25).symm.trans hF
            exact hL176 y24.1 _ _ _  hW (lv_sub hl [] rfl) hF
          · replace hF := (if_neg hc25).symm.trans hF
            refine lv_iconst (v := 1) hx hb dX1_valueRefusal_172 (by decide) ?_
            refine lv_goto (tgt := 177) hx hb dX1_valueRefusal_173 (by decide) ?_
            exact hL177 y24.1 1 _ _ _  hW (lv_sub hl [] rfl) hF
    · replace hF := (if_neg hs12_1).symm.trans hF
      by_cases hs12_2 : (σ.1 (r1) 7) = 240
      · replace hF := (if_pos hs12_2).symm.trans hF
        refine lv_lookup (off := 170) (tgt := 182) hx hb dX1_valueRefusal_12 (by decide) (by rw [hs12_2]; decide) (by decide) ?_
        refine lv_aload_n hx hb dX1_valueRefusal_182 rfl (lv_at hl 1 rfl) ?_
        refine lv_iconst (v := 0) hx hb dX1_valueRefusal_183 (by decide) ?_
        obtain ⟨y26, hy26, hF⟩ := bd_some hF
        refine r_bi (va_runV (As := [.int 0]) (rest := []) ⟨hx, hb, hml, hown, htA⟩ (m_X3_at l G g ad n a0 aM (r1 + 1) σ 0 y26 hr1.2 (by omega) hy26) (cwV 1 htA (gV aw_75 aw_23 aw_24 aw_6 gz_X3_at) rfl rfl rfl (by decide +kernel) ⟨Nat.le_of_ble_eq_true rfl, Nat.le_of_ble_eq_true rfl⟩) (r_preV hK hW (r1 + 1) (by omega) (cE_k hr1.2.1) rfl [.int 0]) rfl rfl hl.1 rfl (lv_room (Nat.le_of_ble_eq_true rfl)) dX1_valueRefusal_184 ⟨Nat.zero_le _, Nat.zero_le _⟩) hW (fun H locs hW => ?_)
        refine lv_bipush (v := 8) hx hb dX1_valueRefusal_187 (by decide) ?_
        refine lv_ishl hx hb dX1_valueRefusal_189 ?_
        refine lv_aload_n hx hb dX1_valueRefusal_190 rfl (lv_at hl 1 rfl) ?_
        refine lv_iconst (v := 1) hx hb dX1_valueRefusal_191 (by decide) ?_
        obtain ⟨y27, hy27, hF⟩ := bd_some hF
        refine r_bi (va_runV (As := [.int 1]) (rest := [.int (y26.2 <<< (8 &&& 31))]) ⟨hx, hb, hml, hown, htA⟩ (m_X3_at l G g ad n a0 aM (r1 + 1) y26.1 1 y27 hr1.2 (by omega) hy27) (cwV 1 htA (gV aw_75 aw_23 aw_24 aw_6 gz_X3_at) rfl rfl rfl (by decide +kernel) ⟨Nat.le_of_ble_eq_true rfl, Nat.le_of_ble_eq_true rfl⟩) (r_preV hK hW (r1 + 1) (by omega) (cE_k hr1.2.1) rfl [.int 1]) rfl rfl hl.1 rfl (lv_room (Nat.le_of_ble_eq_true rfl)) dX1_valueRefusal_192 ⟨Nat.zero_le _, Nat.zero_le _⟩) hW (fun H locs hW => ?_)
        refine lv_ior hx hb dX1_valueRefusal_195 ?_
        refine lv_aload_n hx hb dX1_valueRefusal_196 rfl (lv_at hl 2 rfl) ?_
        refine r_get (C := RX1) (T := TX1) (N := 15) hx hb htA ia_X1 hown hK hW (r0) (by omega) (cE_k hr0.1) rfl 1 (by decide) (htA _ aw_40) rfl dX1_valueRefusal_197 ?_
        refine lv_aload_n hx hb dX1_valueRefusal_200 rfl (lv_at hl 2 rfl) ?_
        refine r_get (C := RX1) (T := TX1) (N := 15) hx hb htA ia_X1 hown hK hW (r0) (by omega) (cE_k hr0.1) rfl 9 (by decide) (htA _ aw_38) rfl dX1_valueRefusal_201 ?_
        refine lv_imul hx hb dX1_valueRefusal_204 ?_
        obtain ⟨y28, hy28, hF⟩ := bd_some hF
        refine r_bi (va_runSN (As := [.int ((y26.2 <<< (8 &&& 31)) ||| y27.2), .int ((y27.1.1 (r0) 1) * (y27.1.1 (r0) 9))]) (rest := []) ⟨hx, hb, hml, hown, htA⟩ (m_X6_fits l G g ad n a0 aM y27.1 ((y26.2 <<< (8 &&& 31)) ||| y27.2) ((y27.1.1 (r0) 1) * (y27.1.1 (r0) 9)) y28  hy28) ⟨va_cnB (host := "LampLine") 2 htA gz_X6_fits rfl rfl rfl (hK.2.2.2.1 _ (by decide +kernel)) (htA _ aw_52) (by decide +kernel) ⟨Nat.le_of_ble_eq_true rfl, Nat.le_of_ble_eq_true rfl⟩, htA _ aw_127, trivial⟩ (r_pre hK hW [.int ((y26.2 <<< (8 &&& 31)) ||| y27.2), .int ((y27.1.1 (r0) 1) * (y27.1.1 (r0) 9))]) rfl rfl hl.1 rfl (lv_room (Nat.le_of_ble_eq_true rfl)) dX1_valueRefusal_205 ⟨Nat.zero_le _, Nat.zero_le _⟩) hW (fun H locs hW => ?_)
        refine lv_istore (lv' := [(4, .int y28.2), (3, .ref (ad (r1 + 1))), (0, .ref (ad (r0))), (1, .ref (ad (r1))), (2, .int x2)]) hx hb dX1_valueRefusal_208 hl (by decide) rfl (fun ls hl => ?_)
        refine lv_goto (tgt := 232) hx hb dX1_valueRefusal_210 (by decide) ?_
        exact hL232 y28.1 y28.2 _ _ _  hW (lv_sub hl [0] rfl) hF
      · replace hF := (if_neg hs12_2).symm.trans hF
        by_cases hs12_3 : (σ.1 (r1) 7) = 4096
        · replace hF := (if_pos hs12_3).symm.trans hF
          refine lv_lookup (off := 201) (tgt := 213) hx hb dX1_valueRefusal_12 (by decide) (by rw [hs12_3]; decide) (by decide) ?_
          refine lv_aload_n hx hb dX1_valueRefusal_213 rfl (lv_at hl 1 rfl) ?_
          refine lv_iconst (v := 0) hx hb dX1_valueRefusal_214 (by decide) ?_
          obtain ⟨y29, hy29, hF⟩ := bd_some hF
          refine r_bi (va_runV (As := [.int 0]) (rest := []) ⟨hx, hb, hml, hown, htA⟩ (m_X3_at l G g ad n a0 aM (r1 + 1) σ 0 y29 hr1.2 (by omega) hy29) (cwV 1 htA (gV aw_75 aw_23 aw_24 aw_6 gz_X3_at) rfl rfl rfl (by decide +kernel) ⟨Nat.le_of_ble_eq_true rfl, Nat.le_of_ble_eq_true rfl⟩) (r_preV hK hW (r1 + 1) (by omega) (cE_k hr1.2.1) rfl [.int 0]) rfl rfl hl.1 rfl (lv_room (Nat.le_of_ble_eq_true rfl)) dX1_valueRefusal_215 ⟨Nat.zero_le _, Nat.zero_le _⟩) hW (fun H locs hW => ?_)
          refine lv_iconst (v := 1) hx hb dX1_valueRefusal_218 (by decide) ?_
          refine lv_icmp_gt (tgt := 226) hx hb dX1_valueRefusal_219 (by decide) (fun hc30 => ?_) (fun hc30 => ?_)
          · replace hF := (if_pos hc30).symm.trans hF
            refine lv_iconst (v := 0) hx hb dX1_valueRefusal_226 (by decide) ?_
            exact hL227 y29.1 0 _ _ _  hW (lv_sub hl [] rfl) hF
          · replace hF := (if_neg hc30).symm.trans hF
            refine lv_iconst (v := 1) hx hb dX1_valueRefusal_222 (by decide) ?_
            refine lv_goto (tgt := 227) hx hb dX1_valueRefusal_223 (by decide) ?_
            exact hL227 y29.1 1 _ _ _  hW (lv_sub hl [] rfl) hF
        · replace hF := (if_neg hs12_3).symm.trans hF
          have ehs12_0 : ((σ.1 (r1) 7)).toInt ≠ 130 := fun e9 => hs12_0 (Int32.toInt_inj.mp (e9.trans (by decide)))
          have ehs12_1 : ((σ.1 (r1) 7)).toInt ≠ 224 := fun e9 => hs12_1 (Int32.toInt_inj.mp (e9.trans (by decide)))
          have ehs12_2 : ((σ.1 (r1) 7)).toInt ≠ 240 := fun e9 => hs12_2 (Int32.toInt_inj.mp (e9.trans (by decide)))
          have ehs12_3 : ((σ.1 (r1) 7)).toInt ≠ 4096 := fun e9 => hs12_3 (Int32.toInt_inj.mp (e9.trans (by decide)))
          refine lv_lookup (off := 220) (tgt := 232) hx hb dX1_valueRefusal_12 (by decide) (by simp [Op.lookupswitch.offset, ehs12_0, ehs12_0.symm, ehs12_1, ehs12_1.symm, ehs12_2, ehs12_2.symm, ehs12_3, ehs12_3.symm]) (by decide) ?_
          exact hL232 σ 1 _ _ _  hW (lv_sub hl [0] rfl) hF
def F_X1_obey_L180 (r0 : Nat) (r1 : Nat) (r2 : Nat) (σ : St) (z0 : Int32) : Option (St) := gd (zb z0) (nm (sI σ (r0) 12 z0) (fun w18 => some w18))
def F_X1_obey (r0 : Nat) (r1 : Nat) (r2 : Nat) (σ : St) (x3 : Int32) (x4 : Int32) : Option (St) := if (σ.1 (r1) 7) = 130 then if x3 = 0 then if (x4 - x4 / 3 * 3) < 0 then some σ else gd (ib (x4 - x4 / 3 * 3) (ln (r0 + 4))) ((F_X3_copyFrom (r0 + 4 + 2 + 2 * (Int32.toNatClampNeg (x4 - x4 / 3 * 3))) (r1 + 1) σ).bind (fun y23 => gd (ib (x4 - x4 / 3 * 3) (ln (r0 + 5))) (nm (sI y23 (r0 + 5) (Int32.toNatClampNeg (x4 - x4 / 3 * 3)) (vp_nar .boolean 1)) (fun w25 => nm (sI w25 (r0) 7 ((w25.1 (r0) 7) + 1)) (fun w26 => nm (sI w26 (r2) 3 1) (fun w27 => (F_X3_putNumber (r2 + 1) w27 3 2).bind (fun y28 => some y28))))))) else (F_X3_copyFrom (r0 + 2) (r1 + 1) σ).bind (fun y29 => some y29) else if (σ.1 (r1) 7) = 224 then (F_X3_at (r1 + 1) σ 0).bind (fun y30 => nm (sI y30.1 (r0) 9 y30.2) (fun w31 => some w31)) else if (σ.1 (r1) 7) = 240 then (F_X3_at (r1 + 1) σ 0).bind (fun y32 => (F_X3_at (r1 + 1) y32.1 1).bind (fun y33 => nm (sI y33.1 (r0) 10 ((y32.2 <<< (8 &&& 31)) ||| y33.2)) (fun w34 => some w34))) else if (σ.1 (r1) 7) = 4096 then (F_X3_at (r1 + 1) σ 0).bind (fun y35 => if y35.2 = 1 then F_X1_obey_L180 r0 r1 r2 y35.1 1 else F_X1_obey_L180 r0 r1 r2 y35.1 0) else some σ
set_option maxHeartbeats 4000000 in
set_option maxRecDepth 100000 in
theorem m_X1_obey (l : Launch) (G : va_G) (g : Nat → ClassId) (ad : Nat → Nat) (n a0 aM : Nat) (r0 : Nat) (r1 : Nat) (r2 : Nat) (σ : St) (x3 : Int32) (x4 : Int32) (x : St) (hr0 : isLp r0) (tr0 : r0 + 11 < tp n) (hr1 : isPk r1) (tr1 : r1 + 2 < tp n) (hr2 : isPk r2) (tr2 : r2 + 2 < tp n) (hF : F_X1_obey r0 r1 r2 σ x3 x4 = some x) : Met l yX1_obey zs_X1_obey ({ frames := 1, cells := 0, slots := 0, locals := 24 } : Room) (va_Pc [.ref (ad (r0)), .ref (ad (r1)), .ref (ad (r2)), .int x3, .int x4] (wP G g ad n a0 aM σ)) (qV G g ad n a0 x) 0 0 (fun q : Nat => a0 ≤ q) := by
  refine Met.ofW (cc := cX1_obey) (maxL := 7) (ret := none) (by decide) rfl ?_
  intro p e s m args below meth c s₁ B hml hv
  obtain ⟨rfl, hP, hD, hK⟩ := hv
  have hx := B.exec
  have hb := B.bytes
  have hr := B.returns
  have htA : ∀ w ∈ AL, w.before _ s = true := fun w h9 => atoms_spec (ws := zs_X1_obey) B.pre w (List.mem_cons_of_mem _ h9)
  have hown : s.vm.findClass RX1 = some m.cls := findClass_of_methodNamed B.named
  have hlocks := B.notSynchronized
  have hW : Wd G g ad n a0 s.heap σ s.heap [] := ⟨hP, hD, va_S.rf⟩
  clear hP hD
  have hL180 : ∀ (σ : St) (z0 : Int32) (H : Heap) (locs : List Loc) (ls : Array Slot), Wd G g ad n a0 s.heap σ H locs → lv_has ls 7 [] → F_X1_obey_L180 r0 r1 r2  σ z0 = some x → W p l e (headSpec zs_X1_obey ({ frames := 1, cells := 0, slots := 0, locals := 24 } : Room)).room s m ([.ref (ad (r0)), .ref (ad (r1)), .ref (ad (r2)), .int x3, .int x4] : List Value).toArray below meth c H locs 0 0 (MQ below (qV G g ad n a0 x) ([.ref (ad (r0)), .ref (ad (r1)), .ref (ad (r2)), .int x3, .int x4] : List Value).toArray s 0 0 (fun q : Nat => a0 ≤ q)) (F0 m 180 ls [.int z0, .ref (ad (r0))]) := by
    intro σ z0 H locs ls hW hl hF
    unfold F_X1_obey_L180 at hF
    obtain ⟨hg17, hF⟩ := gd_some hF
    refine r_putI (C := RX1) (T := TX1) (N := 15) (ty := .boolean) hx hb htA ia_X1 tyX1 tyX1_ok nmX1 hown hK hW (r0) (by omega) (cE_k hr0.1) rfl 12 (by decide) (cE_k hr0.1) (htA _ aw_48) rfl (by decide +kernel) (zb_nar hg17) (zb_fit hg17) (Nat.le_of_ble_eq_true rfl) dX1_obey_180 (fun H locs hW => ?_)
    obtain ⟨w18, ew18, hF⟩ := nm_some hF
    rw [← ew18] at hW
    refine lv_goto (tgt := 186) hx hb dX1_obey_183 (by decide) ?_
    exact r_vret hx hb hr hlocks hW hF dX1_obey_186
  have hl := lv_entry ([.ref (ad (r0)), .ref (ad (r1)), .ref (ad (r2)), .int x3, .int x4]) (n := 7) (Nat.le_of_ble_eq_true rfl)
  rw [lg_entry_eq]
  generalize (lg_sl ([.ref (ad (r0)), .ref (ad (r1)), .ref (ad (r2)), .int x3, .int x4]) ++ List.replicate (7 - (lg_sl ([.ref (ad (r0)), .ref (ad (r1)), .ref (ad (r2)), .int x3, .int x4])).length) Slot.unset).toArray = ls at hl ⊢
  have hl : lv_has ls 7 [(0, .ref (ad (r0))), (1, .ref (ad (r1))), (2, .ref (ad (r2))), (3, .int x3), (4, .int x4)] := hl
  unfold F_X1_obey at hF
  refine lv_aload_n hx hb dX1_obey_0 rfl (lv_at hl 1 rfl) ?_
  refine r_getN (C := RX2) (T := TX2) (N := 9) hx hb htA ia_X2 hown hK hW (r1) (by omega) (cE_k hr1.1) rfl 8 (by decide) (hK.nest (w := .fieldLinkNest RX1 125 "LampLine$Packet" "data" "LLampLine$Row;" "LampLine") (by decide +kernel)) rfl dX1_obey_1 ?_
  refine lv_astore (lv' := [(5, .ref (ad (r1 + 1))), (0, .ref (ad (r0))), (1, .ref (ad (r1))), (2, .ref (ad (r2))), (3, .int x3), (4, .int x4)]) hx hb dX1_obey_4 hl (by decide) rfl (fun ls hl => ?_)
  refine lv_aload_n hx hb dX1_obey_6 rfl (lv_at hl 2 rfl) ?_
  refine r_getN (C := RX2) (T := TX2) (N := 9) hx hb htA ia_X2 hown hK hW (r1) (by omega) (cE_k hr1.1) rfl 7 (by decide) (hK.nest (w := .fieldLinkNest RX1 128 "LampLine$Packet" "matter" "I" "LampLine") (by decide +kernel)) rfl dX1_obey_7 ?_
  by_cases hs10_0 : (σ.1 (r1) 7) = 130
  · replace hF := (if_pos hs10_0).symm.trans hF
    refine lv_lookup (off := 42) (tgt := 52) hx hb dX1_obey_10 (by decide) (by rw [hs10_0]; decide) (by decide) ?_
    refine lv_iload hx hb dX1_obey_52 (lv_at hl 5 rfl) ?_
    refine lv_iconst (v := 3) hx hb dX1_obey_54 (by decide) ?_
    refine lv_irem hx hb dX1_obey_55 (by decide) ?_
    refine lv_istore (lv' := [(6, .int (x4 - x4 / 3 * 3)), (5, .ref (ad (r1 + 1))), (0, .ref (ad (r0))), (1, .ref (ad (r1))), (2, .ref (ad (r2))), (3, .int x3), (4, .int x4)]) hx hb dX1_obey_56 hl (by decide) rfl (fun ls hl => ?_)
    refine lv_iload_n hx hb dX1_obey_58 rfl (lv_at hl 5 rfl) ?_
    refine lv_if_eq (tgt := 74) hx hb dX1_obey_59 (by decide) (fun hc19 => ?_) (fun hc19 => ?_)
    · replace hF := (if_pos hc19).symm.trans hF
      refine lv_iload hx hb dX1_obey_74 (lv_at hl 0 rfl) ?_
      refine lv_if_lt (tgt := 186) hx hb dX1_obey_76 (by decide) (fun hc20 => ?_) (fun hc20 => ?_)
      · replace hF := (if_pos hc20).symm.trans hF
        exact r_vret hx hb hr hlocks hW hF dX1_obey_186
      · replace hF := (if_neg hc20).symm.trans hF
        refine lv_aload_n hx hb dX1_obey_79 rfl (lv_at hl 2 rfl) ?_
        refine r_get (C := RX1) (T := TX1) (N := 15) hx hb htA ia_X1 hown hK hW (r0) (by omega) (cE_k hr0.1) rfl 5 (by decide) (htA _ aw_35) rfl dX1_obey_80 ?_
        refine lv_iload hx hb dX1_obey_83 (lv_at hl 0 rfl) ?_
        obtain ⟨hg21, hF⟩ := gd_some hF
        refine r_later hx hb hK hW (r0 + 4) (by omega) hr0.2.2.2.1 hg21 (isLp_lt hr0 hg21) dX1_obey_85 ?_
        have hq22 : isRow (r0 + 4 + 2 + 2 * (Int32.toNatClampNeg (x4 - x4 / 3 * 3))) := isLp_row hr0 hg21
        have thq22 : r0 + 4 + 2 + 2 * (Int32.toNatClampNeg (x4 - x4 / 3 * 3)) + 1 < tp n := by have h9 := isLp_lt hr0 hg21; omega
        refine lv_aload hx hb dX1_obey_86 (lv_at hl 1 rfl) ?_
        obtain ⟨y23, hy23, hF⟩ := bd_some hF
        refine r_bv (va_runV (As := [.ref (ad (r1 + 1))]) (rest := []) ⟨hx, hb, hml, hown, htA⟩ (m_X3_copyFrom l G g ad n a0 aM (r0 + 4 + 2 + 2 * (Int32.toNatClampNeg (x4 - x4 / 3 * 3))) (r1 + 1) σ y23 hq22 (by omega) hr1.2 (by omega) hy23) (cwV 1 htA (gV aw_67 aw_68 aw_69 aw_6 gz_X3_copyFrom) rfl rfl rfl (by decide +kernel) ⟨Nat.le_of_ble_eq_true rfl, Nat.le_of_ble_eq_true rfl⟩) (r_preV hK hW (r0 + 4 + 2 + 2 * (Int32.toNatClampNeg (x4 - x4 / 3 * 3))) (by omega) (cE_k hq22.1) rfl [.ref (ad (r1 + 1))]) rfl rfl hl.1 rfl (lv_room (Nat.le_of_ble_eq_true rfl)) dX1_obey_88 ⟨Nat.zero_le _, Nat.zero_le _⟩) hW (fun H locs hW => ?_)
        refine lv_aload_n hx hb dX1_obey_91 rfl (lv_at hl 2 rfl) ?_
        refine r_get (C := RX1) (T := TX1) (N := 15) hx hb htA ia_X1 hown hK hW (r0) (by omega) (cE_k hr0.1) rfl 6 (by decide) (htA _ aw_37) rfl dX1_obey_92 ?_
        refine lv_iload hx hb dX1_obey_95 (lv_at hl 0 rfl) ?_
        refine lv_iconst (v := 1) hx hb dX1_obey_97 (by decide) ?_
        obtain ⟨hg24, hF⟩ := gd_some hF
        refine r_zast hx hb hK hW (r0 + 5) (by omega) hr0.2.2.2.2.1 hg24 dX1_obey_98 (fun H locs hW => ?_)
        obtain ⟨w25, ew25, hF⟩ := nm_some hF
        rw [← ew25] at hW
        refine lv_aload_n hx hb dX1_obey_99 rfl (lv_at hl 2 rfl) ?_
        refine lv_dup hx hb dX1_obey_100 rfl ?_
        refine r_get (C := RX1) (T := TX1) (N := 15) hx hb htA ia_X1 hown hK hW (r0) (by omega) (cE_k hr0.1) rfl 7 (by decide) (htA _ aw_66) rfl dX1_obey_101 ?_
        refine lv_iconst (v := 1) hx hb dX1_obey_104 (by decide) ?_
        refine lv_iadd hx hb dX1_obey_105 ?_
        refine r_putI (C := RX1) (T := TX1) (N := 15) (ty := .int) hx hb htA ia_X1 tyX1 tyX1_ok nmX1 hown hK hW (r0) (by omega) (cE_k hr0.1) rfl 7 (by decide) (cE_k hr0.1) (htA _ aw_66) rfl (by decide +kernel) rfl rfl (Nat.le_of_ble_eq_true rfl) dX1_obey_106 (fun H locs hW => ?_)
        obtain ⟨w26, ew26, hF⟩ := nm_some hF
        rw [← ew26] at hW
        refine lv_aload_n hx hb dX1_obey_109 rfl (lv_at hl 4 rfl) ?_
        refine lv_iconst (v := 1) hx hb dX1_obey_110 (by decide) ?_
        refine r_putIN (C := RX2) (T := TX2) (N := 9) (ty := .int) hx hb htA ia_X2 tyX2 tyX2_ok nmX2 hown hK hW (r2) (by omega) (cE_k hr2.1) rfl 3 (by decide) (cE_k hr2.1) (hK.nest (w := .fieldLinkNest RX1 187 "LampLine$Packet" "kind" "I" "LampLine") (by decide +kernel)) rfl (by decide +kernel) rfl rfl (Nat.le_of_ble_eq_true rfl) dX1_obey_111 (fun H locs hW => ?_)
        obtain ⟨w27, ew27, hF⟩ := nm_some hF
        rw [← ew27] at hW
        refine lv_aload_n hx hb dX1_obey_114 rfl (lv_at hl 4 rfl) ?_
        refine r_getN (C := RX2) (T := TX2) (N := 9) hx hb htA ia_X2 hown hK hW (r2) (by omega) (cE_k hr2.1) rfl 8 (by decide) (hK.nest (w := .fieldLinkNest RX1 125 "LampLine$Packet" "data" "LLampLine$Row;" "LampLine") (by decide +kernel)) rfl dX1_obey_115 ?_
        refine lv_ldc2 (v := 3) hx hb hown (htA _ aw_129) dX1_obey_118 ?_
        refine lv_iconst (v := 2) hx hb dX1_obey_121 (by decide) ?_
        obtain ⟨y28, hy28, hF⟩ := bd_some hF
        refine r_bv (va_runV (As := [.long 3, .int 2]) (rest := []) ⟨hx, hb, hml, hown, htA⟩ (m_X3_putNumber l G g ad n a0 aM (r2 + 1) w27 3 2 y28 hr2.2 (by omega) hy28) (cwV 2 htA (gV aw_118 aw_96 aw_97 aw_6 gz_X3_putNumber) rfl rfl rfl (by decide +kernel) ⟨Nat.le_of_ble_eq_true rfl, Nat.le_of_ble_eq_true rfl⟩) (r_preV hK hW (r2 + 1) (by omega) (cE_k hr2.2.1) rfl [.long 3, .int 2]) rfl rfl hl.1 rfl (lv_room (Nat.le_of_ble_eq_true rfl)) dX1_obey_122 ⟨Nat.zero_le _, Nat.zero_le _⟩) hW (fun H locs hW => ?_)
        refine lv_goto (tgt := 186) hx hb dX1_obey_125 (by decide) ?_
        exact r_vret hx hb hr hlocks hW hF dX1_obey_186
    · replace hF := (if_neg hc19).symm.trans hF
      refine lv_aload_n hx hb dX1_obey_62 rfl (lv_at hl 2 rfl) ?_
      refine r_get (C := RX1) (T := TX1) (N := 15) hx hb htA ia_X1 hown hK hW (r0) (by omega) (cE_k hr0.1) rfl 4 (by decide) (htA _ aw_34) rfl dX1_obey_63 ?_
      refine lv_aload hx hb dX1_obey_66 (lv_at hl 1 rfl) ?_
      obtain ⟨y29, hy29, hF⟩ := bd_some hF
      refine r_bv (va_runV (As := [.ref (ad (r1 + 1))]) (rest := []) ⟨hx, hb, hml, hown, htA⟩ (m_X3_copyFrom l G g ad n a0 aM (r0 + 2) (r1 + 1) σ y29 hr0.2.2.1 (by omega) hr1.2 (by omega) hy29) (cwV 1 htA (gV aw_67 aw_68 aw_69 aw_6 gz_X3_copyFrom) rfl rfl rfl (by decide +kernel) ⟨Nat.le_of_ble_eq_true rfl, Nat.le_of_ble_eq_true rfl⟩) (r_preV hK hW (r0 + 2) (by omega) (cE_k hr0.2.2.1.1) rfl [.ref (ad (r1 + 1))]) rfl rfl hl.1 rfl (lv_room (Nat.le_of_ble_eq_true rfl)) dX1_obey_68 ⟨Nat.zero_le _, Nat.zero_le _⟩) hW (fun H locs hW => ?_)
      refine lv_goto (tgt := 186) hx hb dX1_obey_71 (by decide) ?_
      exact r_vret hx hb hr hlocks hW hF dX1_obey_186
  · replace hF := (if_neg hs10_0).symm.trans hF
    by_cases hs10_1 : (σ.1 (r1) 7) = 224
    · replace hF := (if_pos hs10_1).symm.trans hF
      refine lv_lookup (off := 118) (tgt := 128) hx hb dX1_obey_10 (by decide) (by rw [hs10_1]; decide) (by decide) ?_
      refine lv_aload_n hx hb dX1_obey_128 rfl (lv_at hl 1 rfl) ?_
      refine lv_aload hx hb dX1_obey_129 (lv_at hl 0 rfl) ?_
      refine lv_iconst (v := 0) hx hb dX1_obey_131 (by decide) ?_
      obtain ⟨y30, hy30, hF⟩ := bd_some hF
      refine r_bi (va_runV (As := [.int 0]) (rest := [.ref (ad (r0))]) ⟨hx, hb, hml, hown, htA⟩ (m_X3_at l G g ad n a0 aM (r1 + 1) σ 0 y30 hr1.2 (by omega) hy30) (cwV 1 htA (gV aw_75 aw_23 aw_24 aw_6 gz_X3_at) rfl rfl rfl (by decide +kernel) ⟨Nat.le_of_ble_eq_true rfl, Nat.le_of_ble_eq_true rfl⟩) (r_preV hK hW (r1 + 1) (by omega) (cE_k hr1.2.1) rfl [.int 0]) rfl rfl hl.1 rfl (lv_room (Nat.le_of_ble_eq_true rfl)) dX1_obey_132 ⟨Nat.zero_le _, Nat.zero_le _⟩) hW (fun H locs hW => ?_)
      refine r_putI (C := RX1) (T := TX1) (N := 15) (ty := .int) hx hb htA ia_X1 tyX1 tyX1_ok nmX1 hown hK hW (r0) (by omega) (cE_k hr0.1) rfl 9 (by decide) (cE_k hr0.1) (htA _ aw_38) rfl (by decide +kernel) rfl rfl (Nat.le_of_ble_eq_true rfl) dX1_obey_135 (fun H locs hW => ?_)
      obtain ⟨w31, ew31, hF⟩ := nm_some hF
      rw [← ew31] at hW
      refine lv_goto (tgt := 186) hx hb dX1_obey_138 (by decide) ?_
      exact r_vret hx hb hr hlocks hW hF dX1_obey_186
    · replace hF := (if_neg hs10_1).symm.trans hF
      by_cases hs10_2 : (σ.1 (r1) 7) = 240
      · replace hF := (if_pos hs10_2).symm.trans hF
        refine lv_lookup (off := 131) (tgt := 141) hx hb dX1_obey_10 (by decide) (by rw [hs10_2]; decide) (by decide) ?_
        refine lv_aload_n hx hb dX1_obey_141 rfl (lv_at hl 1 rfl) ?_
        refine lv_aload hx hb dX1_obey_142 (lv_at hl 0 rfl) ?_
        refine lv_iconst (v := 0) hx hb dX1_obey_144 (by decide) ?_
        obtain ⟨y32, hy32, hF⟩ := bd_some hF
        refine r_bi (va_runV (As := [.int 0]) (rest := [.ref (ad (r0))]) ⟨hx, hb, hml, hown, htA⟩ (m_X3_at l G g ad n a0 aM (r1 + 1) σ 0 y32 hr1.2 (by omega) hy32) (cwV 1 htA (gV aw_75 aw_23 aw_24 aw_6 gz_X3_at) rfl rfl rfl (by decide +kernel) ⟨Nat.le_of_ble_eq_true rfl, Nat.le_of_ble_eq_true rfl⟩) (r_preV hK hW (r1 + 1) (by omega) (cE_k hr1.2.1) rfl [.int 0]) rfl rfl hl.1 rfl (lv_room (Nat.le_of_ble_eq_true rfl)) dX1_obey_145 ⟨Nat.zero_le _, Nat.zero_le _⟩) hW (fun H locs hW => ?_)
        refine lv_bipush (v := 8) hx hb dX1_obey_148 (by decide) ?_
        refine lv_ishl hx hb dX1_obey_150 ?_
        refine lv_aload hx hb dX1_obey_151 (lv_at hl 0 rfl) ?_
        refine lv_iconst (v := 1) hx hb dX1_obey_153 (by decide) ?_
        obtain ⟨y33, hy33, hF⟩ := bd_some hF
        refine r_bi (va_runV (As := [.int 1]) (rest := [.int (y32.2 <<< (8 &&& 31)), .ref (ad (r0))]) ⟨hx, hb, hml, hown, htA⟩ (m_X3_at l G g ad n a0 aM (r1 + 1) y32.1 1 y33 hr1.2 (by omega) hy33) (cwV 1 htA (gV aw_75 aw_23 aw_24 aw_6 gz_X3_at) rfl rfl rfl (by decide +kernel) ⟨Nat.le_of_ble_eq_true rfl, Nat.le_of_ble_eq_true rfl⟩) (r_preV hK hW (r1 + 1) (by omega) (cE_k hr1.2.1) rfl [.int 1]) rfl rfl hl.1 rfl (lv_room (Nat.le_of_ble_eq_true rfl)) dX1_obey_154 ⟨Nat.zero_le _, Nat.zero_le _⟩) hW (fun H locs hW => ?_)
        refine lv_ior hx hb dX1_obey_157 ?_
        refine r_putI (C := RX1) (T := TX1) (N := 15) (ty := .int) hx hb htA ia_X1 tyX1 tyX1_ok nmX1 hown hK hW (r0) (by omega) (cE_k hr0.1) rfl 10 (by decide) (cE_k hr0.1) (htA _ aw_42) rfl (by decide +kernel) rfl rfl (Nat.le_of_ble_eq_true rfl) dX1_obey_158 (fun H locs hW => ?_)
        obtain ⟨w34, ew34, hF⟩ := nm_some hF
        rw [← ew34] at hW
        refine lv_goto (tgt := 186) hx hb dX1_obey_161 (by decide) ?_
        exact r_vret hx hb hr hlocks hW hF dX1_obey_186
      · replace hF := (if_neg hs10_2).symm.trans hF
        by_cases hs10_3 : (σ.1 (r1) 7) = 4096
        · replace hF := (if_pos hs10_3).symm.trans hF
          refine lv_lookup (off := 154) (tgt := 164) hx hb dX1_obey_10 (by decide) (by rw [hs10_3]; decide) (by decide) ?_
          refine lv_aload_n hx hb dX1_obey_164 rfl (lv_at hl 1 rfl) ?_
          refine lv_aload hx hb dX1_obey_165 (lv_at hl 0 rfl) ?_
          refine lv_iconst (v := 0) hx hb dX1_obey_167 (by decide) ?_
          obtain ⟨y35, hy35, hF⟩ := bd_some hF
          refine r_bi (va_runV (As := [.int 0]) (rest := [.ref (ad (r0))]) ⟨hx, hb, hml, hown, htA⟩ (m_X3_at l G g ad n a0 aM (r1 + 1) σ 0 y35 hr1.2 (by omega) hy35) (cwV 1 htA (gV aw_75 aw_23 aw_24 aw_6 gz_X3_at) rfl rfl rfl (by decide +kernel) ⟨Nat.le_of_ble_eq_true rfl, Nat.le_of_ble_eq_true rfl⟩) (r_preV hK hW (r1 + 1) (by omega) (cE_k hr1.2.1) rfl [.int 0]) rfl rfl hl.1 rfl (lv_room (Nat.le_of_ble_eq_true rfl)) dX1_obey_168 ⟨Nat.zero_le _, Nat.zero_le _⟩) hW (fun H locs hW => ?_)
          refine lv_iconst (v := 1) hx hb dX1_obey_171 (by decide) ?_
          refine lv_icmp_ne (tgt := 179) hx hb dX1_obey_172 (by decide) (fun hc36 => ?_) (fun hc36 => ?_)
          · replace hF := (if_neg hc36).symm.trans hF
            refine lv_iconst (v := 0) hx hb dX1_obey_179 (by decide) ?_
            exact hL180 y35.1 0 _ _ _  hW (lv_sub hl [] rfl) hF
          · replace hF := (if_pos hc36).symm.trans hF
            refine lv_iconst (v := 1) hx hb dX1_obey_175 (by decide) ?_
            refine lv_goto (tgt := 180) hx hb dX1_obey_176 (by decide) ?_
            exact hL180 y35.1 1 _ _ _  hW (lv_sub hl [] rfl) hF
        · replace hF := (if_neg hs10_3).symm.trans hF
          have ehs10_0 : ((σ.1 (r1) 7)).toInt ≠ 130 := fun e9 => hs10_0 (Int32.toInt_inj.mp (e9.trans (by decide)))
          have ehs10_1 : ((σ.1 (r1) 7)).toInt ≠ 224 := fun e9 => hs10_1 (Int32.toInt_inj.mp (e9.trans (by decide)))
          have ehs10_2 : ((σ.1 (r1) 7)).toInt ≠ 240 := fun e9 => hs10_2 (Int32.toInt_inj.mp (e9.trans (by decide)))
          have ehs10_3 : ((σ.1 (r1) 7)).toInt ≠ 4096 := fun e9 => hs10_3 (Int32.toInt_inj.mp (e9.trans (by decide)))
          refine lv_lookup (off := 176) (tgt := 186) hx hb dX1_obey_10 (by decide) (by simp [Op.lookupswitch.offset, ehs10_0, ehs10_0.symm, ehs10_1, ehs10_1.symm, ehs10_2, ehs10_2.symm, ehs10_3, ehs10_3.symm]) (by decide) ?_
          exact r_vret hx hb hr hlocks hW hF dX1_obey_186
def F_X1_tell_L257 (r0 : Nat) (r2 : Nat) (σ : St) : Option (St) := some σ
def F_X1_tell_L248 (r0 : Nat) (r2 : Nat) (B206 : St → Int32 → Option (St)) (K257 : St → Option (St)) (σ : St) (u4 : Int32) (z0 : Int32) : Option (St) := (F_X3_put (r2 + 1) σ z0).bind (fun y25 => B206 y25 (u4 + (-4)))
def F_X1_tell_L206 (r0 : Nat) (r2 : Nat) (K257 : St → Option (St)) : Nat → St → Int32 → Option (St)
  | 0, _, _ => none
  | fz + 1, σ, u4 => if u4 < 0 then K257 σ else if 10 ≤ ((Int64.toInt32 ((Int64.toUInt64 (σ.2 (r0) 0)) >>> ((Int64.toUInt64 (Int32.toInt64 u4)) &&& Int64.toUInt64 63)).toInt64) &&& 15) then F_X1_tell_L248 r0 r2 (F_X1_tell_L206 r0 r2 K257 fz) K257 σ u4 ((65 + ((Int64.toInt32 ((Int64.toUInt64 (σ.2 (r0) 0)) >>> ((Int64.toUInt64 (Int32.toInt64 u4)) &&& Int64.toUInt64 63)).toInt64) &&& 15)) - 10) else F_X1_tell_L248 r0 r2 (F_X1_tell_L206 r0 r2 K257 fz) K257 σ u4 (48 + ((Int64.toInt32 ((Int64.toUInt64 (σ.2 (r0) 0)) >>> ((Int64.toUInt64 (Int32.toInt64 u4)) &&& Int64.toUInt64 63)).toInt64) &&& 15))
def F_X1_tell_L110 (r0 : Nat) (r2 : Nat) (σ : St) : Option (St) := some σ
def F_X1_tell_L83 (r0 : Nat) (r2 : Nat) (K110 : St → Option (St)) : Nat → St → Int32 → Option (St)
  | 0, _, _ => none
  | fz + 1, σ, u4 => if (Int32.ofNat 8) ≤ u4 then K110 σ else gd (ib u4 8) ((F_X3_putNumber (r2 + 1) σ (Int32.toInt64 (mtT.getD (Int32.toNatClampNeg u4) 0)) 2).bind (fun y30 => (F_X1_tell_L83 r0 r2 K110 fz) y30 (u4 + 1)))
def F_X1_tell (r0 : Nat) (r2 : Nat) (σ : St) (x1 : Int32) : Option (St) := if x1 = 32 then if (σ.1 (r0) 8) ≤ 0 then some σ else nm (sI σ (r0) 8 ((σ.1 (r0) 8) - 1)) (fun w32 => nm (sI w32 (r2) 7 130) (fun w33 => nm (sI w33 (r2) 6 49) (fun w34 => some w34))) else if x1 = 80 then F_X1_tell_L83 r0 r2 (F_X1_tell_L110 r0 r2) fu σ 0 else if x1 = 96 then (F_X3_putNumber (r2 + 1) σ (σ.2 (r0) 0) 6).bind (fun y35 => (F_X1_footprint (r0) y35).bind (fun y36 => (F_X3_putNumber (r2 + 1) y36.1 (Int32.toInt64 y36.2) 2).bind (fun y37 => (F_X3_put (r2 + 1) y37 (y37.1 (r0) 9)).bind (fun y38 => (F_X3_put (r2 + 1) y38 (y38.1 (r0) 2)).bind (fun y39 => (F_X3_putNumber (r2 + 1) y39 (Int32.toInt64 (y39.1 (r0) 10)) 2).bind (fun y40 => (F_X3_putNumber (r2 + 1) y40 0 2).bind (fun y41 => (F_X3_putNumber (r2 + 1) y41 (Int32.toInt64 (y41.1 (r0) 13)) 2).bind (fun y42 => some y42)))))))) else if x1 = 128 then (F_X3_put (r2 + 1) σ 76).bind (fun y43 => (F_X3_put (r2 + 1) y43 65).bind (fun y44 => (F_X3_put (r2 + 1) y44 77).bind (fun y45 => (F_X3_put (r2 + 1) y45 80).bind (fun y46 => F_X1_tell_L206 r0 r2 (F_X1_tell_L257 r0 r2) fu y46 28)))) else if x1 = 130 then (F_X3_copyFrom (r2 + 1) (r0 + 2) σ).bind (fun y47 => some y47) else if x1 = 224 then (F_X3_put (r2 + 1) σ (σ.1 (r0) 9)).bind (fun y48 => (F_X3_put (r2 + 1) y48 (y48.1 (r0) 2)).bind (fun y49 => some y49)) else if x1 = 240 then (F_X3_putNumber (r2 + 1) σ (Int32.toInt64 (σ.1 (r0) 10)) 2).bind (fun y50 => some y50) else if x1 = 4096 then (F_X6_flag σ (σ.1 (r0) 12)).bind (fun y51 => (F_X3_put (r2 + 1) y51.1 y51.2).bind (fun y52 => some y52)) else some σ
set_option maxHeartbeats 4000000 in
set_option maxRecDepth 100000 in
theorem m_X1_tell (l : Launch) (G : va_G) (g : Nat → ClassId) (ad : Nat → Nat) (n a0 aM : Nat) (r0 : Nat) (r2 : Nat) (σ : St) (x1 : Int32) (x : St) (hr0 : isLp r0) (tr0 : r0 + 11 < tp n) (hr2 : isPk r2) (tr2 : r2 + 2 < tp n) (hF : F_X1_tell r0 r2 σ x1 = some x) : Met l yX1_tell zs_X1_tell ({ frames := 1, cells := 0, slots := 0, locals := 24 } : Room) (va_Pc [.ref (ad (r0)), .int x1, .ref (ad (r2))] (wP G g ad n a0 aM σ)) (qV G g ad n a0 x) 0 0 (fun q : Nat => a0 ≤ q) := by
  refine Met.ofW (cc := cX1_tell) (maxL := 6) (ret := none) (by decide) rfl ?_
  intro p e s m args below meth c s₁ B hml hv
  obtain ⟨rfl, hP, hD, hK⟩ := hv
  have hx := B.exec
  have hb := B.bytes
  have hr := B.returns
  have htA : ∀ w ∈ AL, w.before _ s = true := fun w h9 => atoms_spec (ws := zs_X1_tell) B.pre w (List.mem_cons_of_mem _ h9)
  have hown : s.vm.findClass RX1 = some m.cls := findClass_of_methodNamed B.named
  have hlocks := B.notSynchronized
  have hW : Wd G g ad n a0 s.heap σ s.heap [] := ⟨hP, hD, va_S.rf⟩
  clear hP hD
  have hL257 : ∀ (σ : St) (H : Heap) (locs : List Loc) (ls : Array Slot), Wd G g ad n a0 s.heap σ H locs → lv_has ls 6 [] → F_X1_tell_L257 r0 r2  σ = some x → W p l e (headSpec zs_X1_tell ({ frames := 1, cells := 0, slots := 0, locals := 24 } : Room)).room s m ([.ref (ad (r0)), .int x1, .ref (ad (r2))] : List Value).toArray below meth c H locs 0 0 (MQ below (qV G g ad n a0 x) ([.ref (ad (r0)), .int x1, .ref (ad (r2))] : List Value).toArray s 0 0 (fun q : Nat => a0 ≤ q)) (F0 m 257 ls []) := by
    intro σ H locs ls hW hl hF
    unfold F_X1_tell_L257 at hF
    refine lv_goto (tgt := 350) hx hb dX1_tell_257 (by decide) ?_
    exact r_vret hx hb hr hlocks hW hF dX1_tell_350
  have hL206 : ∀ (fz206 : Nat) (σ : St) (u4 : Int32) (H : Heap) (locs : List Loc) (ls : Array Slot), Wd G g ad n a0 s.heap σ H locs → lv_has ls 6 [(0, .ref (ad (r0))), (3, .ref (ad (r2 + 1))), (4, .int u4)] → F_X1_tell_L206 r0 r2 (F_X1_tell_L257 r0 r2) fz206 σ u4 = some x → W p l e (headSpec zs_X1_tell ({ frames := 1, cells := 0, slots := 0, locals := 24 } : Room)).room s m ([.ref (ad (r0)), .int x1, .ref (ad (r2))] : List Value).toArray below meth c H locs 0 0 (MQ below (qV G g ad n a0 x) ([.ref (ad (r0)), .int x1, .ref (ad (r2))] : List Value).toArray s 0 0 (fun q : Nat => a0 ≤ q)) (F0 m 206 ls []) := by
    intro fz206
    induction fz206 with
    | zero =>
      intro σ u4 H locs ls hW hl hF
      exact absurd hF (by simp [F_X1_tell_L206])
    | succ fz206 ih =>
      have hB206 := ih
      have hL248 : ∀ (σ : St) (u4 : Int32) (z0 : Int32) (H : Heap) (locs : List Loc) (ls : Array Slot), Wd G g ad n a0 s.heap σ H locs → lv_has ls 6 [(0, .ref (ad (r0))), (3, .ref (ad (r2 + 1))), (4, .int u4)] → F_X1_tell_L248 r0 r2 (F_X1_tell_L206 r0 r2 (F_X1_tell_L257 r0 r2) fz206) (F_X1_tell_L257 r0 r2) σ u4 z0 = some x → W p l e (headSpec zs_X1_tell ({ frames := 1, cells := 0, slots := 0, locals := 24 } : Room)).room s m ([.ref (ad (r0)), .int x1, .ref (ad (r2))] : List Value).toArray below meth c H locs 0 0 (MQ below (qV G g ad n a0 x) ([.ref (ad (r0)), .int x1, .ref (ad (r2))] : List Value).toArray s 0 0 (fun q : Nat => a0 ≤ q)) (F0 m 248 ls [.int z0, .ref (ad (r2 + 1))]) := by
        intro σ u4 z0 H locs ls hW hl hF
        unfold F_X1_tell_L248 at hF
        obtain ⟨y25, hy25, hF⟩ := bd_some hF
        refine r_bv (va_runV (As := [.int z0]) (rest := []) ⟨hx, hb, hml, hown, htA⟩ (m_X3_put l G g ad n a0 aM (r2 + 1) σ z0 y25 hr2.2 (by omega) hy25) (cwV 1 htA (gV aw_130 aw_9 aw_10 aw_6 gz_X3_put) rfl rfl rfl (by decide +kernel) ⟨Nat.le_of_ble_eq_true rfl, Nat.le_of_ble_eq_true rfl⟩) (r_preV hK hW (r2 + 1) (by omega) (cE_k hr2.2.1) rfl [.int z0]) rfl rfl hl.1 rfl (lv_room (Nat.le_of_ble_eq_true rfl)) dX1_tell_248 ⟨Nat.zero_le _, Nat.zero_le _⟩) hW (fun H locs hW => ?_)
        refine lv_iinc (v := (u4 + (-4))) (lv' := [(4, .int (u4 + (-4))), (0, .ref (ad (r0))), (3, .ref (ad (r2 + 1)))]) hx hb dX1_tell_251 hl (k := 2) rfl rfl (by decide) rfl (fun ls hl => ?_)
        refine lv_goto (tgt := 206) hx hb dX1_tell_254 (by decide) ?_
        exact hB206 y25 (u4 + (-4)) _ _ _  hW (lv_sub hl [1, 2, 0] rfl) hF
      intro σ u4 H locs ls hW hl hF
      unfold F_X1_tell_L206 at hF
      refine lv_iload hx hb dX1_tell_206 (lv_at hl 2 rfl) ?_
      refine lv_if_lt (tgt := 257) hx hb dX1_tell_208 (by decide) (fun hc26 => ?_) (fun hc26 => ?_)
      · replace hF := (if_pos hc26).symm.trans hF
        exact hL257 σ _ _ _  hW (lv_sub hl [] rfl) hF
      · replace hF := (if_neg hc26).symm.trans hF
        refine lv_aload_n hx hb dX1_tell_211 rfl (lv_at hl 0 rfl) ?_
        refine r_get (C := RX1) (T := TX1) (N := 15) hx hb htA ia_X1 hown hK hW (r0) (by omega) (cE_k hr0.1) rfl 0 (by decide) (htA _ aw_39) rfl dX1_tell_212 ?_
        refine lv_iload hx hb dX1_tell_215 (lv_at hl 2 rfl) ?_
        refine lv_lushr (v := ((Int64.toUInt64 (σ.2 (r0) 0)) >>> ((Int64.toUInt64 (Int32.toInt64 u4)) &&& Int64.toUInt64 63)).toInt64) hx hb dX1_tell_217 rfl ?_
        refine lv_l2i (v := (Int64.toInt32 ((Int64.toUInt64 (σ.2 (r0) 0)) >>> ((Int64.toUInt64 (Int32.toInt64 u4)) &&& Int64.toUInt64 63)).toInt64)) hx hb dX1_tell_218 rfl ?_
        refine lv_bipush (v := 15) hx hb dX1_tell_219 (by decide) ?_
        refine lv_iand hx hb dX1_tell_221 ?_
        refine lv_istore (lv' := [(5, .int ((Int64.toInt32 ((Int64.toUInt64 (σ.2 (r0) 0)) >>> ((Int64.toUInt64 (Int32.toInt64 u4)) &&& Int64.toUInt64 63)).toInt64) &&& 15)), (0, .ref (ad (r0))), (3, .ref (ad (r2 + 1))), (4, .int u4)]) hx hb dX1_tell_222 hl (by decide) rfl (fun ls hl => ?_)
        refine lv_aload_n hx hb dX1_tell_224 rfl (lv_at hl 2 rfl) ?_
        refine lv_iload hx hb dX1_tell_225 (lv_at hl 0 rfl) ?_
        refine lv_bipush (v := 10) hx hb dX1_tell_227 (by decide) ?_
        refine lv_icmp_ge (tgt := 240) hx hb dX1_tell_229 (by decide) (fun hc27 => ?_) (fun hc27 => ?_)
        · replace hF := (if_pos hc27).symm.trans hF
          refine lv_bipush (v := 65) hx hb dX1_tell_240 (by decide) ?_
          refine lv_iload hx hb dX1_tell_242 (lv_at hl 0 rfl) ?_
          refine lv_iadd hx hb dX1_tell_244 ?_
          refine lv_bipush (v := 10) hx hb dX1_tell_245 (by decide) ?_
          refine lv_isub hx hb dX1_tell_247 ?_
          exact hL248 σ u4 ((65 + ((Int64.toInt32 ((Int64.toUInt64 (σ.2 (r0) 0)) >>> ((Int64.toUInt64 (Int32.toInt64 u4)) &&& Int64.toUInt64 63)).toInt64) &&& 15)) - 10) _ _ _  hW (lv_sub hl [1, 2, 3] rfl) hF
        · replace hF := (if_neg hc27).symm.trans hF
          refine lv_bipush (v := 48) hx hb dX1_tell_232 (by decide) ?_
          refine lv_iload hx hb dX1_tell_234 (lv_at hl 0 rfl) ?_
          refine lv_iadd hx hb dX1_tell_236 ?_
          refine lv_goto (tgt := 248) hx hb dX1_tell_237 (by decide) ?_
          exact hL248 σ u4 (48 + ((Int64.toInt32 ((Int64.toUInt64 (σ.2 (r0) 0)) >>> ((Int64.toUInt64 (Int32.toInt64 u4)) &&& Int64.toUInt64 63)).toInt64) &&& 15)) _ _ _  hW (lv_sub hl [1, 2, 3] rfl) hF
  have hL206 := hL206 fu
  have hL110 : ∀ (σ : St) (H : Heap) (locs : List Loc) (ls : Array Slot), Wd G g ad n a0 s.heap σ H locs → lv_has ls 6 [] → F_X1_tell_L110 r0 r2  σ = some x → W p l e (headSpec zs_X1_tell ({ frames := 1, cells := 0, slots := 0, locals := 24 } : Room)).room s m ([.ref (ad (r0)), .int x1, .ref (ad (r2))] : List Value).toArray below meth c H locs 0 0 (MQ below (qV G g ad n a0 x) ([.ref (ad (r0)), .int x1, .ref (ad (r2))] : List Value).toArray s 0 0 (fun q : Nat => a0 ≤ q)) (F0 m 110 ls []) := by
    intro σ H locs ls hW hl hF
    unfold F_X1_tell_L110 at hF
    refine lv_goto (tgt := 350) hx hb dX1_tell_110 (by decide) ?_
    exact r_vret hx hb hr hlocks hW hF dX1_tell_350
  have hL83 : ∀ (fz83 : Nat) (σ : St) (u4 : Int32) (H : Heap) (locs : List Loc) (ls : Array Slot), Wd G g ad n a0 s.heap σ H locs → lv_has ls 6 [(3, .ref (ad (r2 + 1))), (4, .int u4)] → F_X1_tell_L83 r0 r2 (F_X1_tell_L110 r0 r2) fz83 σ u4 = some x → W p l e (headSpec zs_X1_tell ({ frames := 1, cells := 0, slots := 0, locals := 24 } : Room)).room s m ([.ref (ad (r0)), .int x1, .ref (ad (r2))] : List Value).toArray below meth c H locs 0 0 (MQ below (qV G g ad n a0 x) ([.ref (ad (r0)), .int x1, .ref (ad (r2))] : List Value).toArray s 0 0 (fun q : Nat => a0 ≤ q)) (F0 m 83 ls []) := by
    intro fz83
    induction fz83 with
    | zero =>
      intro σ u4 H locs ls hW hl hF
      exact absurd hF (by simp [F_X1_tell_L83])
    | succ fz83 ih =>
      have hB83 := ih
      intro σ u4 H locs ls hW hl hF
      unfold F_X1_tell_L83 at hF
      refine lv_iload hx hb dX1_tell_83 (lv_at hl 1 rfl) ?_
      refine va_gets hx hb hK.2.1 hW.2.2 hown (htA _ aw_123) (fun _ h => h) dX1_tell_85 ?_
      refine va_tlen hx hb hK.2.2.1 hW.2.2 rfl dX1_tell_88 ?_
      refine lv_icmp_ge (tgt := 110) hx hb dX1_tell_89 (by decide) (fun hc28 => ?_) (fun hc28 => ?_)
      · replace hF := (if_pos hc28).symm.trans hF
        exact hL110 σ _ _ _  hW (lv_sub hl [] rfl) hF
      · replace hF := (if_neg hc28).symm.trans hF
        refine lv_aload_n hx hb dX1_tell_92 rfl (lv_at hl 0 rfl) ?_
        refine va_gets hx hb hK.2.1 hW.2.2 hown (htA _ aw_123) (fun _ h => h) dX1_tell_93 ?_
        refine lv_iload hx hb dX1_tell_96 (lv_at hl 1 rfl) ?_
        obtain ⟨hg29, hF⟩ := gd_some hF
        refine va_ti hx hb hK.2.2.1 hW.2.2 (ib_in hg29) rfl dX1_tell_98 ?_
        refine lv_i2l (v := (Int32.toInt64 (mtT.getD (Int32.toNatClampNeg u4) 0))) hx hb dX1_tell_99 rfl ?_
        refine lv_iconst (v := 2) hx hb dX1_tell_100 (by decide) ?_
        obtain ⟨y30, hy30, hF⟩ := bd_some hF
        refine r_bv (va_runV (As := [.long (Int32.toInt64 (mtT.getD (Int32.toNatClampNeg u4) 0)), .int 2]) (rest := []) ⟨hx, hb, hml, hown, htA⟩ (m_X3_putNumber l G g ad n a0 aM (r2 + 1) σ (Int32.toInt64 (mtT.getD (Int32.toNatClampNeg u4) 0)) 2 y30 hr2.2 (by omega) hy30) (cwV 2 htA (gV aw_118 aw_96 aw_97 aw_6 gz_X3_putNumber) rfl rfl rfl (by decide +kernel) ⟨Nat.le_of_ble_eq_true rfl, Nat.le_of_ble_eq_true rfl⟩) (r_preV hK hW (r2 + 1) (by omega) (cE_k hr2.2.1) rfl [.long (Int32.toInt64 (mtT.getD (Int32.toNatClampNeg u4) 0)), .int 2]) rfl rfl hl.1 rfl (lv_room (Nat.le_of_ble_eq_true rfl)) dX1_tell_101 ⟨Nat.zero_le _, Nat.zero_le _⟩) hW (fun H locs hW => ?_)
        refine lv_iinc (v := (u4 + 1)) (lv' := [(4, .int (u4 + 1)), (3, .ref (ad (r2 + 1)))]) hx hb dX1_tell_104 hl (k := 1) rfl rfl (by decide) rfl (fun ls hl => ?_)
        refine lv_goto (tgt := 83) hx hb dX1_tell_107 (by decide) ?_
        exact hB83 y30 (u4 + 1) _ _ _  hW (lv_sub hl [1, 0] rfl) hF
  have hL83 := hL83 fu
  have hl := lv_entry ([.ref (ad (r0)), .int x1, .ref (ad (r2))]) (n := 6) (Nat.le_of_ble_eq_true rfl)
  rw [lg_entry_eq]
  generalize (lg_sl ([.ref (ad (r0)), .int x1, .ref (ad (r2))]) ++ List.replicate (6 - (lg_sl ([.ref (ad (r0)), .int x1, .ref (ad (r2))])).length) Slot.unset).toArray = ls at hl ⊢
  have hl : lv_has ls 6 [(0, .ref (ad (r0))), (1, .int x1), (2, .ref (ad (r2)))] := hl
  unfold F_X1_tell at hF
  refine lv_aload_n hx hb dX1_tell_0 rfl (lv_at hl 2 rfl) ?_
  refine r_getN (C := RX2) (T := TX2) (N := 9) hx hb htA ia_X2 hown hK hW (r2) (by omega) (cE_k hr2.1) rfl 8 (by decide) (hK.nest (w := .fieldLinkNest RX1 125 "LampLine$Packet" "data" "LLampLine$Row;" "LampLine") (by decide +kernel)) rfl dX1_tell_1 ?_
  refine lv_astore_n (lv' := [(3, .ref (ad (r2 + 1))), (0, .ref (ad (r0))), (1, .int x1), (2, .ref (ad (r2)))]) hx hb dX1_tell_4 rfl hl (by decide) rfl (fun ls hl => ?_)
  refine lv_iload_n hx hb dX1_tell_5 rfl (lv_at hl 2 rfl) ?_
  by_cases hs6_0 : x1 = 32
  · replace hF := (if_pos hs6_0).symm.trans hF
    refine lv_lookup (off := 311) (tgt := 317) hx hb dX1_tell_6 (by decide) (by rw [hs6_0]; decide) (by decide) ?_
    refine lv_aload_n hx hb dX1_tell_317 rfl (lv_at hl 1 rfl) ?_
    refine r_get (C := RX1) (T := TX1) (N := 15) hx hb htA ia_X1 hown hK hW (r0) (by omega) (cE_k hr0.1) rfl 8 (by decide) (htA _ aw_49) rfl dX1_tell_318 ?_
    refine lv_if_le (tgt := 350) hx hb dX1_tell_321 (by decide) (fun hc31 => ?_) (fun hc31 => ?_)
    · replace hF := (if_pos hc31).symm.trans hF
      exact r_vret hx hb hr hlocks hW hF dX1_tell_350
    · replace hF := (if_neg hc31).symm.trans hF
      refine lv_aload_n hx hb dX1_tell_324 rfl (lv_at hl 1 rfl) ?_
      refine lv_dup hx hb dX1_tell_325 rfl ?_
      refine r_get (C := RX1) (T := TX1) (N := 15) hx hb htA ia_X1 hown hK hW (r0) (by omega) (cE_k hr0.1) rfl 8 (by decide) (htA _ aw_49) rfl dX1_tell_326 ?_
      refine lv_iconst (v := 1) hx hb dX1_tell_329 (by decide) ?_
      refine lv_isub hx hb dX1_tell_330 ?_
      refine r_putI (C := RX1) (T := TX1) (N := 15) (ty := .int) hx hb htA ia_X1 tyX1 tyX1_ok nmX1 hown hK hW (r0) (by omega) (cE_k hr0.1) rfl 8 (by decide) (cE_k hr0.1) (htA _ aw_49) rfl (by decide +kernel) rfl rfl (Nat.le_of_ble_eq_true rfl) dX1_tell_331 (fun H locs hW => ?_)
      obtain ⟨w32, ew32, hF⟩ := nm_some hF
      rw [← ew32] at hW
      refine lv_aload_n hx hb dX1_tell_334 rfl (lv_at hl 3 rfl) ?_
      refine lv_sipush (v := 130) hx hb dX1_tell_335 (by decide) ?_
      refine r_putIN (C := RX2) (T := TX2) (N := 9) (ty := .int) hx hb htA ia_X2 tyX2 tyX2_ok nmX2 hown hK hW (r2) (by omega) (cE_k hr2.1) rfl 7 (by decide) (cE_k hr2.1) (hK.nest (w := .fieldLinkNest RX1 128 "LampLine$Packet" "matter" "I" "LampLine") (by decide +kernel)) rfl (by decide +kernel) rfl rfl (Nat.le_of_ble_eq_true rfl) dX1_tell_338 (fun H locs hW => ?_)
      obtain ⟨w33, ew33, hF⟩ := nm_some hF
      rw [← ew33] at hW
      refine lv_aload_n hx hb dX1_tell_341 rfl (lv_at hl 3 rfl) ?_
      refine lv_bipush (v := 49) hx hb dX1_tell_342 (by decide) ?_
      refine r_putIN (C := RX2) (T := TX2) (N := 9) (ty := .int) hx hb htA ia_X2 tyX2 tyX2_ok nmX2 hown hK hW (r2) (by omega) (cE_k hr2.1) rfl 6 (by decide) (cE_k hr2.1) (hK.nest (w := .fieldLinkNest RX1 108 "LampLine$Packet" "group" "I" "LampLine") (by decide +kernel)) rfl (by decide +kernel) rfl rfl (Nat.le_of_ble_eq_true rfl) dX1_tell_344 (fun H locs hW => ?_)
      obtain ⟨w34, ew34, hF⟩ := nm_some hF
      rw [← ew34] at hW
      refine lv_goto (tgt := 350) hx hb dX1_tell_347 (by decide) ?_
      exact r_vret hx hb hr hlocks hW hF dX1_tell_350
  · replace hF := (if_neg hs6_0).symm.trans hF
    by_cases hs6_1 : x1 = 80
    · replace hF := (if_pos hs6_1).symm.trans hF
      refine lv_lookup (off := 74) (tgt := 80) hx hb dX1_tell_6 (by decide) (by rw [hs6_1]; decide) (by decide) ?_
      refine lv_iconst (v := 0) hx hb dX1_tell_80 (by decide) ?_
      refine lv_istore (lv' := [(4, .int 0), (3, .ref (ad (r2 + 1))), (0, .ref (ad (r0))), (1, .int x1), (2, .ref (ad (r2)))]) hx hb dX1_tell_81 hl (by decide) rfl (fun ls hl => ?_)
      exact hL83 σ 0 _ _ _  hW (lv_sub hl [1, 0] rfl) hF
    · replace hF := (if_neg hs6_1).symm.trans hF
      by_cases hs6_2 : x1 = 96
      · replace hF := (if_pos hs6_2).symm.trans hF
        refine lv_lookup (off := 107) (tgt := 113) hx hb dX1_tell_6 (by decide) (by rw [hs6_2]; decide) (by decide) ?_
        refine lv_aload_n hx hb dX1_tell_113 rfl (lv_at hl 0 rfl) ?_
        refine lv_aload_n hx hb dX1_tell_114 rfl (lv_at hl 1 rfl) ?_
        refine r_get (C := RX1) (T := TX1) (N := 15) hx hb htA ia_X1 hown hK hW (r0) (by omega) (cE_k hr0.1) rfl 0 (by decide) (htA _ aw_39) rfl dX1_tell_115 ?_
        refine lv_bipush (v := 6) hx hb dX1_tell_118 (by decide) ?_
        obtain ⟨y35, hy35, hF⟩ := bd_some hF
        refine r_bv (va_runV (As := [.long (σ.2 (r0) 0), .int 6]) (rest := []) ⟨hx, hb, hml, hown, htA⟩ (m_X3_putNumber l G g ad n a0 aM (r2 + 1) σ (σ.2 (r0) 0) 6 y35 hr2.2 (by omega) hy35) (cwV 2 htA (gV aw_118 aw_96 aw_97 aw_6 gz_X3_putNumber) rfl rfl rfl (by decide +kernel) ⟨Nat.le_of_ble_eq_true rfl, Nat.le_of_ble_eq_true rfl⟩) (r_preV hK hW (r2 + 1) (by omega) (cE_k hr2.2.1) rfl [.long (σ.2 (r0) 0), .int 6]) rfl rfl hl.1 rfl (lv_room (Nat.le_of_ble_eq_true rfl)) dX1_tell_120 ⟨Nat.zero_le _, Nat.zero_le _⟩) hW (fun H locs hW => ?_)
        refine lv_aload_n hx hb dX1_tell_123 rfl (lv_at hl 0 rfl) ?_
        refine lv_aload_n hx hb dX1_tell_124 rfl (lv_at hl 1 rfl) ?_
        obtain ⟨y36, hy36, hF⟩ := bd_some hF
        refine r_bi (va_runV (As := []) (rest := [.ref (ad (r2 + 1))]) ⟨hx, hb, hml, hown, htA⟩ (m_X1_footprint l G g ad n a0 aM (r0) y35 y36 hr0 (by omega) hy36) (cwV 0 htA (gV aw_54 aw_55 aw_56 aw_57 gz_X1_footprint) rfl rfl rfl (by decide +kernel) ⟨Nat.le_of_ble_eq_true rfl, Nat.le_of_ble_eq_true rfl⟩) (r_preV hK hW (r0) (by omega) (cE_k hr0.1) rfl []) rfl rfl hl.1 rfl (lv_room (Nat.le_of_ble_eq_true rfl)) dX1_tell_125 ⟨Nat.zero_le _, Nat.zero_le _⟩) hW (fun H locs hW => ?_)
        refine lv_i2l (v := (Int32.toInt64 y36.2)) hx hb dX1_tell_128 rfl ?_
        refine lv_iconst (v := 2) hx hb dX1_tell_129 (by decide) ?_
        obtain ⟨y37, hy37, hF⟩ := bd_some hF
        refine r_bv (va_runV (As := [.long (Int32.toInt64 y36.2), .int 2]) (rest := []) ⟨hx, hb, hml, hown, htA⟩ (m_X3_putNumber l G g ad n a0 aM (r2 + 1) y36.1 (Int32.toInt64 y36.2) 2 y37 hr2.2 (by omega) hy37) (cwV 2 htA (gV aw_118 aw_96 aw_97 aw_6 gz_X3_putNumber) rfl rfl rfl (by decide +kernel) ⟨Nat.le_of_ble_eq_true rfl, Nat.le_of_ble_eq_true rfl⟩) (r_preV hK hW (r2 + 1) (by omega) (cE_k hr2.2.1) rfl [.long (Int32.toInt64 y36.2), .int 2]) rfl rfl hl.1 rfl (lv_room (Nat.le_of_ble_eq_true rfl)) dX1_tell_130 ⟨Nat.zero_le _, Nat.zero_le _⟩) hW (fun H locs hW => ?_)
        refine lv_aload_n hx hb dX1_tell_133 rfl (lv_at hl 0 rfl) ?_
        refine lv_aload_n hx hb dX1_tell_134 rfl (lv_at hl 1 rfl) ?_
        refine r_get (C := RX1) (T := TX1) (N := 15) hx hb htA ia_X1 hown hK hW (r0) (by omega) (cE_k hr0.1) rfl 9 (by decide) (htA _ aw_38) rfl dX1_tell_135 ?_
        obtain ⟨y38, hy38, hF⟩ := bd_some hF
        refine r_bv (va_runV (As := [.int (y37.1 (r0) 9)]) (rest := []) ⟨hx, hb, hml, hown, htA⟩ (m_X3_put l G g ad n a0 aM (r2 + 1) y37 (y37.1 (r0) 9) y38 hr2.2 (by omega) hy38) (cwV 1 htA (gV aw_130 aw_9 aw_10 aw_6 gz_X3_put) rfl rfl rfl (by decide +kernel) ⟨Nat.le_of_ble_eq_true rfl, Nat.le_of_ble_eq_true rfl⟩) (r_preV hK hW (r2 + 1) (by omega) (cE_k hr2.2.1) rfl [.int (y37.1 (r0) 9)]) rfl rfl hl.1 rfl (lv_room (Nat.le_of_ble_eq_true rfl)) dX1_tell_138 ⟨Nat.zero_le _, Nat.zero_le _⟩) hW (fun H locs hW => ?_)
        refine lv_aload_n hx hb dX1_tell_141 rfl (lv_at hl 0 rfl) ?_
        refine lv_aload_n hx hb dX1_tell_142 rfl (lv_at hl 1 rfl) ?_
        refine r_get (C := RX1) (T := TX1) (N := 15) hx hb htA ia_X1 hown hK hW (r0) (by omega) (cE_k hr0.1) rfl 2 (by decide) (htA _ aw_41) rfl dX1_tell_143 ?_
        obtain ⟨y39, hy39, hF⟩ := bd_some hF
        refine r_bv (va_runV (As := [.int (y38.1 (r0) 2)]) (rest := []) ⟨hx, hb, hml, hown, htA⟩ (m_X3_put l G g ad n a0 aM (r2 + 1) y38 (y38.1 (r0) 2) y39 hr2.2 (by omega) hy39) (cwV 1 htA (gV aw_130 aw_9 aw_10 aw_6 gz_X3_put) rfl rfl rfl (by decide +kernel) ⟨Nat.le_of_ble_eq_true rfl, Nat.le_of_ble_eq_true rfl⟩) (r_preV hK hW (r2 + 1) (by omega) (cE_k hr2.2.1) rfl [.int (y38.1 (r0) 2)]) rfl rfl hl.1 rfl (lv_room (Nat.le_of_ble_eq_true rfl)) dX1_tell_146 ⟨Nat.zero_le _, Nat.zero_le _⟩) hW (fun H locs hW => ?_)
        refine lv_aload_n hx hb dX1_tell_149 rfl (lv_at hl 0 rfl) ?_
        refine lv_aload_n hx hb dX1_tell_150 rfl (lv_at hl 1 rfl) ?_
        refine r_get (C := RX1) (T := TX1) (N := 15) hx hb htA ia_X1 hown hK hW (r0) (by omega) (cE_k hr0.1) rfl 10 (by decide) (htA _ aw_42) rfl dX1_tell_151 ?_
        refine lv_i2l (v := (Int32.toInt64 (y39.1 (r0) 10))) hx hb dX1_tell_154 rfl ?_
        refine lv_iconst (v := 2) hx hb dX1_tell_155 (by decide) ?_
        obtain ⟨y40, hy40, hF⟩ := bd_some hF
        refine r_bv (va_runV (As := [.long (Int32.toInt64 (y39.1 (r0) 10)), .int 2]) (rest := []) ⟨hx, hb, hml, hown, htA⟩ (m_X3_putNumber l G g ad n a0 aM (r2 + 1) y39 (Int32.toInt64 (y39.1 (r0) 10)) 2 y40 hr2.2 (by omega) hy40) (cwV 2 htA (gV aw_118 aw_96 aw_97 aw_6 gz_X3_putNumber) rfl rfl rfl (by decide +kernel) ⟨Nat.le_of_ble_eq_true rfl, Nat.le_of_ble_eq_true rfl⟩) (r_preV hK hW (r2 + 1) (by omega) (cE_k hr2.2.1) rfl [.long (Int32.toInt64 (y39.1 (r0) 10)), .int 2]) rfl rfl hl.1 rfl (lv_room (Nat.le_of_ble_eq_true rfl)) dX1_tell_156 ⟨Nat.zero_le _, Nat.zero_le _⟩) hW (fun H locs hW => ?_)
        refine lv_aload_n hx hb dX1_tell_159 rfl (lv_at hl 0 rfl) ?_
        refine lv_lconst (v := 0) hx hb dX1_tell_160 (by decide) ?_
        refine lv_iconst (v := 2) hx hb dX1_tell_161 (by decide) ?_
        obtain ⟨y41, hy41, hF⟩ := bd_some hF
        refine r_bv (va_runV (As := [.long 0, .int 2]) (rest := []) ⟨hx, hb, hml, hown, htA⟩ (m_X3_putNumber l G g ad n a0 aM (r2 + 1) y40 0 2 y41 hr2.2 (by omega) hy41) (cwV 2 htA (gV aw_118 aw_96 aw_97 aw_6 gz_X3_putNumber) rfl rfl rfl (by decide +kernel) ⟨Nat.le_of_ble_eq_true rfl, Nat.le_of_ble_eq_true rfl⟩) (r_preV hK hW (r2 + 1) (by omega) (cE_k hr2.2.1) rfl [.long 0, .int 2]) rfl rfl hl.1 rfl (lv_room (Nat.le_of_ble_eq_true rfl)) dX1_tell_162 ⟨Nat.zero_le _, Nat.zero_le _⟩) hW (fun H locs hW => ?_)
        refine lv_aload_n hx hb dX1_tell_165 rfl (lv_at hl 0 rfl) ?_
        refine lv_aload_n hx hb dX1_tell_166 rfl (lv_at hl 1 rfl) ?_
        refine r_get (C := RX1) (T := TX1) (N := 15) hx hb htA ia_X1 hown hK hW (r0) (by omega) (cE_k hr0.1) rfl 13 (by decide) (htA _ aw_50) rfl dX1_tell_167 ?_
        refine lv_i2l (v := (Int32.toInt64 (y41.1 (r0) 13))) hx hb dX1_tell_170 rfl ?_
        refine lv_iconst (v := 2) hx hb dX1_tell_171 (by decide) ?_
        obtain ⟨y42, hy42, hF⟩ := bd_some hF
        refine r_bv (va_runV (As := [.long (Int32.toInt64 (y41.1 (r0) 13)), .int 2]) (rest := []) ⟨hx, hb, hml, hown, htA⟩ (m_X3_putNumber l G g ad n a0 aM (r2 + 1) y41 (Int32.toInt64 (y41.1 (r0) 13)) 2 y42 hr2.2 (by omega) hy42) (cwV 2 htA (gV aw_118 aw_96 aw_97 aw_6 gz_X3_putNumber) rfl rfl rfl (by decide +kernel) ⟨Nat.le_of_ble_eq_true rfl, Nat.le_of_ble_eq_true rfl⟩) (r_preV hK hW (r2 + 1) (by omega) (cE_k hr2.2.1) rfl [.long (Int32.toInt64 (y41.1 (r0) 13)), .int 2]) rfl rfl hl.1 rfl (lv_room (Nat.le_of_ble_eq_true rfl)) dX1_tell_172 ⟨Nat.zero_le _, Nat.zero_le _⟩) hW (fun H locs hW => ?_)
        refine lv_goto (tgt := 350) hx hb dX1_tell_175 (by decide) ?_
        exact r_vret hx hb hr hlocks hW hF dX1_tell_350
      · replace hF := (if_neg hs6_2).symm.trans hF
        by_cases hs6_3 : x1 = 128
        · replace hF := (if_pos hs6_3).symm.trans hF
          refine lv_lookup (off := 172) (tgt := 178) hx hb dX1_tell_6 (by decide) (by rw [hs6_3]; decide) (by decide) ?_
          refine lv_aload_n hx hb dX1_tell_178 rfl (lv_at hl 0 rfl) ?_
          refine lv_bipush (v := 76) hx hb dX1_tell_179 (by decide) ?_
          obtain ⟨y43, hy43, hF⟩ := bd_some hF
          refine r_bv (va_runV (As := [.int 76]) (rest := []) ⟨hx, hb, hml, hown, htA⟩ (m_X3_put l G g ad n a0 aM (r2 + 1) σ 76 y43 hr2.2 (by omega) hy43) (cwV 1 htA (gV aw_130 aw_9 aw_10 aw_6 gz_X3_put) rfl rfl rfl (by decide +kernel) ⟨Nat.le_of_ble_eq_true rfl, Nat.le_of_ble_eq_true rfl⟩) (r_preV hK hW (r2 + 1) (by omega) (cE_k hr2.2.1) rfl [.int 76]) rfl rfl hl.1 rfl (lv_room (Nat.le_of_ble_eq_true rfl)) dX1_tell_181 ⟨Nat.zero_le _, Nat.zero_le _⟩) hW (fun H locs hW => ?_)
          refine lv_aload_n hx hb dX1_tell_184 rfl (lv_at hl 0 rfl) ?_
          refine lv_bipush (v := 65) hx hb dX1_tell_185 (by decide) ?_
          obtain ⟨y44, hy44, hF⟩ := bd_some hF
          refine r_bv (va_runV (As := [.int 65]) (rest := []) ⟨hx, hb, hml, hown, htA⟩ (m_X3_put l G g ad n a0 aM (r2 + 1) y43 65 y44 hr2.2 (by omega) hy44) (cwV 1 htA (gV aw_130 aw_9 aw_10 aw_6 gz_X3_put) rfl rfl rfl (by decide +kernel) ⟨Nat.le_of_ble_eq_true rfl, Nat.le_of_ble_eq_true rfl⟩) (r_preV hK hW (r2 + 1) (by omega) (cE_k hr2.2.1) rfl [.int 65]) rfl rfl hl.1 rfl (lv_room (Nat.le_of_ble_eq_true rfl)) dX1_tell_187 ⟨Nat.zero_le _, Nat.zero_le _⟩) hW (fun H locs hW => ?_)
          refine lv_aload_n hx hb dX1_tell_190 rfl (lv_at hl 0 rfl) ?_
          refine lv_bipush (v := 77) hx hb dX1_tell_191 (by decide) ?_
          obtain ⟨y45, hy45, hF⟩ := bd_some hF
          refine r_bv (va_runV (As := [.int 77]) (rest := []) ⟨hx, hb, hml, hown, htA⟩ (m_X3_put l G g ad n a0 aM (r2 + 1) y44 77 y45 hr2.2 (by omega) hy45) (cwV 1 htA (gV aw_130 aw_9 aw_10 aw_6 gz_X3_put) rfl rfl rfl (by decide +kernel) ⟨Nat.le_of_ble_eq_true rfl, Nat.le_of_ble_eq_true rfl⟩) (r_preV hK hW (r2 + 1) (by omega) (cE_k hr2.2.1) rfl [.int 77]) rfl rfl hl.1 rfl (lv_room (Nat.le_of_ble_eq_true rfl)) dX1_tell_193 ⟨Nat.zero_le _, Nat.zero_le _⟩) hW (fun H locs hW => ?_)
          refine lv_aload_n hx hb dX1_tell_196 rfl (lv_at hl 0 rfl) ?_
          refine lv_bipush (v := 80) hx hb dX1_tell_197 (by decide) ?_
          obtain ⟨y46, hy46, hF⟩ := bd_some hF
          refine r_bv (va_runV (As := [.int 80]) (rest := []) ⟨hx, hb, hml, hown, htA⟩ (m_X3_put l G g ad n a0 aM (r2 + 1) y45 80 y46 hr2.2 (by omega) hy46) (cwV 1 htA (gV aw_130 aw_9 aw_10 aw_6 gz_X3_put) rfl rfl rfl (by decide +kernel) ⟨Nat.le_of_ble_eq_true rfl, Nat.le_of_ble_eq_true rfl⟩) (r_preV hK hW (r2 + 1) (by omega) (cE_k hr2.2.1) rfl [.int 80]) rfl rfl hl.1 rfl (lv_room (Nat.le_of_ble_eq_true rfl)) dX1_tell_199 ⟨Nat.zero_le _, Nat.zero_le _⟩) hW (fun H locs hW => ?_)
          refine lv_bipush (v := 28) hx hb dX1_tell_202 (by decide) ?_
          refine lv_istore (lv' := [(4, .int 28), (3, .ref (ad (r2 + 1))), (0, .ref (ad (r0))), (1, .int x1), (2, .ref (ad (r2)))]) hx hb dX1_tell_204 hl (by decide) rfl (fun ls hl => ?_)
          exact hL206 y46 28 _ _ _  hW (lv_sub hl [2, 1, 0] rfl) hF
        · replace hF := (if_neg hs6_3).symm.trans hF
          by_cases hs6_4 : x1 = 130
          · replace hF := (if_pos hs6_4).symm.trans hF
            refine lv_lookup (off := 254) (tgt := 260) hx hb dX1_tell_6 (by decide) (by rw [hs6_4]; decide) (by decide) ?_
            refine lv_aload_n hx hb dX1_tell_260 rfl (lv_at hl 0 rfl) ?_
            refine lv_aload_n hx hb dX1_tell_261 rfl (lv_at hl 1 rfl) ?_
            refine r_get (C := RX1) (T := TX1) (N := 15) hx hb htA ia_X1 hown hK hW (r0) (by omega) (cE_k hr0.1) rfl 4 (by decide) (htA _ aw_34) rfl dX1_tell_262 ?_
            obtain ⟨y47, hy47, hF⟩ := bd_some hF
            refine r_bv (va_runV (As := [.ref (ad (r0 + 2))]) (rest := []) ⟨hx, hb, hml, hown, htA⟩ (m_X3_copyFrom l G g ad n a0 aM (r2 + 1) (r0 + 2) σ y47 hr2.2 (by omega) hr0.2.2.1 (by omega) hy47) (cwV 1 htA (gV aw_67 aw_68 aw_69 aw_6 gz_X3_copyFrom) rfl rfl rfl (by decide +kernel) ⟨Nat.le_of_ble_eq_true rfl, Nat.le_of_ble_eq_true rfl⟩) (r_preV hK hW (r2 + 1) (by omega) (cE_k hr2.2.1) rfl [.ref (ad (r0 + 2))]) rfl rfl hl.1 rfl (lv_room (Nat.le_of_ble_eq_true rfl)) dX1_tell_265 ⟨Nat.zero_le _, Nat.zero_le _⟩) hW (fun H locs hW => ?_)
            refine lv_goto (tgt := 350) hx hb dX1_tell_268 (by decide) ?_
            exact r_vret hx hb hr hlocks hW hF dX1_tell_350
          · replace hF := (if_neg hs6_4).symm.trans hF
            by_cases hs6_5 : x1 = 224
            · replace hF := (if_pos hs6_5).symm.trans hF
              refine lv_lookup (off := 265) (tgt := 271) hx hb dX1_tell_6 (by decide) (by rw [hs6_5]; decide) (by decide) ?_
              refine lv_aload_n hx hb dX1_tell_271 rfl (lv_at hl 0 rfl) ?_
              refine lv_aload_n hx hb dX1_tell_272 rfl (lv_at hl 1 rfl) ?_
              refine r_get (C := RX1) (T := TX1) (N := 15) hx hb htA ia_X1 hown hK hW (r0) (by omega) (cE_k hr0.1) rfl 9 (by decide) (htA _ aw_38) rfl dX1_tell_273 ?_
              obtain ⟨y48, hy48, hF⟩ := bd_some hF
              refine r_bv (va_runV (As := [.int (σ.1 (r0) 9)]) (rest := []) ⟨hx, hb, hml, hown, htA⟩ (m_X3_put l G g ad n a0 aM (r2 + 1) σ (σ.1 (r0) 9) y48 hr2.2 (by omega) hy48) (cwV 1 htA (gV aw_130 aw_9 aw_10 aw_6 gz_X3_put) rfl rfl rfl (by decide +kernel) ⟨Nat.le_of_ble_eq_true rfl, Nat.le_of_ble_eq_true rfl⟩) (r_preV hK hW (r2 + 1) (by omega) (cE_k hr2.2.1) rfl [.int (σ.1 (r0) 9)]) rfl rfl hl.1 rfl (lv_room (Nat.le_of_ble_eq_true rfl)) dX1_tell_276 ⟨Nat.zero_le _, Nat.zero_le _⟩) hW (fun H locs hW => ?_)
              refine lv_aload_n hx hb dX1_tell_279 rfl (lv_at hl 0 rfl) ?_
              refine lv_aload_n hx hb dX1_tell_280 rfl (lv_at hl 1 rfl) ?_
              refine r_get (C := RX1) (T := TX1) (N := 15) hx hb htA ia_X1 hown hK hW (r0) (by omega) (cE_k hr0.1) rfl 2 (by decide) (htA _ aw_41) rfl dX1_tell_281 ?_
              obtain ⟨y49, hy49, hF⟩ := bd_some hF
              refine r_bv (va_runV (As := [.int (y48.1 (r0) 2)]) (rest := []) ⟨hx, hb, hml, hown, htA⟩ (m_X3_put l G g ad n a0 aM (r2 + 1) y48 (y48.1 (r0) 2) y49 hr2.2 (by omega) hy49) (cwV 1 htA (gV aw_130 aw_9 aw_10 aw_6 gz_X3_put) rfl rfl rfl (by decide +kernel) ⟨Nat.le_of_ble_eq_true rfl, Nat.le_of_ble_eq_true rfl⟩) (r_preV hK hW (r2 + 1) (by omega) (cE_k hr2.2.1) rfl [.int (y48.1 (r0) 2)]) rfl rfl hl.1 rfl (lv_room (Nat.le_of_ble_eq_true rfl)) dX1_tell_284 ⟨Nat.zero_le _, Nat.zero_le _⟩) hW (fun H locs hW => ?_)
              refine lv_goto (tgt := 350) hx hb dX1_tell_287 (by decide) ?_
              exact r_vret hx hb hr hlocks hW hF dX1_tell_350
            · replace hF := (if_neg hs6_5).symm.trans hF
              by_cases hs6_6 : x1 = 240
              · replace hF := (if_pos hs6_6).symm.trans hF
                refine lv_lookup (off := 284) (tgt := 290) hx hb dX1_tell_6 (by decide) (by rw [hs6_6]; decide) (by decide) ?_
                refine lv_aload_n hx hb dX1_tell_290 rfl (lv_at hl 0 rfl) ?_
                refine lv_aload_n hx hb dX1_tell_291 rfl (lv_at hl 1 rfl) ?_
                refine r_get (C := RX1) (T := TX1) (N := 15) hx hb htA ia_X1 hown hK hW (r0) (by omega) (cE_k hr0.1) rfl 10 (by decide) (htA _ aw_42) rfl dX1_tell_292 ?_
                refine lv_i2l (v := (Int32.toInt64 (σ.1 (r0) 10))) hx hb dX1_tell_295 rfl ?_
                refine lv_iconst (v := 2) hx hb dX1_tell_296 (by decide) ?_
                obtain ⟨y50, hy50, hF⟩ := bd_some hF
                refine r_bv (va_runV (As := [.long (Int32.toInt64 (σ.1 (r0) 10)), .int 2]) (rest := []) ⟨hx, hb, hml, hown, htA⟩ (m_X3_putNumber l G g ad n a0 aM (r2 + 1) σ (Int32.toInt64 (σ.1 (r0) 10)) 2 y50 hr2.2 (by omega) hy50) (cwV 2 htA (gV aw_118 aw_96 aw_97 aw_6 gz_X3_putNumber) rfl rfl rfl (by decide +kernel) ⟨Nat.le_of_ble_eq_true rfl, Nat.le_of_ble_eq_true rfl⟩) (r_preV hK hW (r2 + 1) (by omega) (cE_k hr2.2.1) rfl [.long (Int32.toInt64 (σ.1 (r0) 10)), .int 2]) rfl rfl hl.1 rfl (lv_room (Nat.le_of_ble_eq_true rfl)) dX1_tell_297 ⟨Nat.zero_le _, Nat.zero_le _⟩) hW (fun H locs hW => ?_)
                refine lv_goto (tgt := 350) hx hb dX1_tell_300 (by decide) ?_
                exact r_vret hx hb hr hlocks hW hF dX1_tell_350
              · replace hF := (if_neg hs6_6).symm.trans hF
                by_cases hs6_7 : x1 = 4096
                · replace hF := (if_pos hs6_7).symm.trans hF
                  refine lv_lookup (off := 297) (tgt := 303) hx hb dX1_tell_6 (by decide) (by rw [hs6_7]; decide) (by decide) ?_
                  refine lv_aload_n hx hb dX1_tell_303 rfl (lv_at hl 0 rfl) ?_
                  refine lv_aload_n hx hb dX1_tell_304 rfl (lv_at hl 1 rfl) ?_
                  refine r_get (C := RX1) (T := TX1) (N := 15) hx hb htA ia_X1 hown hK hW (r0) (by omega) (cE_k hr0.1) rfl 12 (by decide) (htA _ aw_48) rfl dX1_tell_305 ?_
                  obtain ⟨y51, hy51, hF⟩ := bd_some hF
                  refine r_bi (va_runSN (As := [.int (σ.1 (r0) 12)]) (rest := [.ref (ad (r2 + 1))]) ⟨hx, hb, hml, hown, htA⟩ (m_X6_flag l G g ad n a0 aM σ (σ.1 (r0) 12) y51  hy51) ⟨va_cnB (host := "LampLine") 1 htA gz_X6_flag rfl rfl rfl (hK.2.2.2.1 _ (by decide +kernel)) (htA _ aw_52) (by decide +kernel) ⟨Nat.le_of_ble_eq_true rfl, Nat.le_of_ble_eq_true rfl⟩, htA _ aw_59, trivial⟩ (r_pre hK hW [.int (σ.1 (r0) 12)]) rfl rfl hl.1 rfl (lv_room (Nat.le_of_ble_eq_true rfl)) dX1_tell_308 ⟨Nat.zero_le _, Nat.zero_le _⟩) hW (fun H locs hW => ?_)
                  obtain ⟨y52, hy52, hF⟩ := bd_some hF
                  refine r_bv (va_runV (As := [.int y51.2]) (rest := []) ⟨hx, hb, hml, hown, htA⟩ (m_X3_put l G g ad n a0 aM (r2 + 1) y51.1 y51.2 y52 hr2.2 (by omega) hy52) (cwV 1 htA (gV aw_130 aw_9 aw_10 aw_6 gz_X3_put) rfl rfl rfl (by decide +kernel) ⟨Nat.le_of_ble_eq_true rfl, Nat.le_of_ble_eq_true rfl⟩) (r_preV hK hW (r2 + 1) (by omega) (cE_k hr2.2.1) rfl [.int y51.2]) rfl rfl hl.1 rfl (lv_room (Nat.le_of_ble_eq_true rfl)) dX1_tell_311 ⟨Nat.zero_le _, Nat.zero_le _⟩) hW (fun H locs hW => ?_)
                  refine lv_goto (tgt := 350) hx hb dX1_tell_314 (by decide) ?_
                  exact r_vret hx hb hr hlocks hW hF dX1_tell_350
                · replace hF := (if_neg hs6_7).symm.trans hF
                  have ehs6_0 : (x1).toInt ≠ 32 := fun e9 => hs6_0 (Int32.toInt_inj.mp (e9.trans (by decide)))
                  have ehs6_1 : (x1).toInt ≠ 80 := fun e9 => hs6_1 (Int32.toInt_inj.mp (e9.trans (by decide)))
                  have ehs6_2 : (x1).toInt ≠ 96 := fun e9 => hs6_2 (Int32.toInt_inj.mp (e9.trans (by decide)))
                  have ehs6_3 : (x1).toInt ≠ 128 := fun e9 => hs6_3 (Int32.toInt_inj.mp (e9.trans (by decide)))
                  have ehs6_4 : (x1).toInt ≠ 130 := fun e9 => hs6_4 (Int32.toInt_inj.mp (e9.trans (by decide)))
                  have ehs6_5 : (x1).toInt ≠ 224 := fun e9 => hs6_5 (Int32.toInt_inj.mp (e9.trans (by decide)))
                  have ehs6_6 : (x1).toInt ≠ 240 := fun e9 => hs6_6 (Int32.toInt_inj.mp (e9.trans (by decide)))
                  have ehs6_7 : (x1).toInt ≠ 4096 := fun e9 => hs6_7 (Int32.toInt_inj.mp (e9.trans (by decide)))
                  refine lv_lookup (off := 344) (tgt := 350) hx hb dX1_tell_6 (by decide) (by simp [Op.lookupswitch.offset, ehs6_0, ehs6_0.symm, ehs6_1, ehs6_1.symm, ehs6_2, ehs6_2.symm, ehs6_3, ehs6_3.symm, ehs6_4, ehs6_4.symm, ehs6_5, ehs6_5.symm, ehs6_6, ehs6_6.symm, ehs6_7, ehs6_7.symm]) (by decide) ?_
                  exact r_vret hx hb hr hlocks hW hF dX1_tell_350
