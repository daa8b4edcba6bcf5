def F_X3_size (r0 : Nat) (σ : St) : Option (St × Int32) := some (σ, (σ.1 (r0) 1))
set_option maxHeartbeats 4000000 in
set_option maxRecDepth 100000 in
theorem m_X3_size (l : Launch) (G : va_G) (g : Nat → ClassId) (ad : Nat → Nat) (n a0 aM : Nat) (r0 : Nat) (σ : St) (x : St × Int32) (hr0 : isRow r0) (tr0 : r0 + 1 < tp n) (hF : F_X3_size r0 σ = some x) : Met l yX3_size zs_X3_size ({ frames := 0, cells := 0, slots := 0, locals := 0 } : Room) (va_Pc [.ref (ad (r0))] (wP G g ad n a0 aM σ)) (qI G g ad n a0 x) 0 0 (fun q : Nat => a0 ≤ q) := by
  refine Met.ofW (cc := cX3_size) (maxL := 1) (ret := (some .int)) (by decide) rfl ?_
  intro p e s m args below meth c s₁ B hml hv
  obtain ⟨rfl, hP, hD, hK⟩ := hv
  have hx := B.exec
  have hb := B.bytes
  have hr := B.returns
  have htA : ∀ w ∈ AL, w.before _ s = true := fun w h9 => atoms_spec (ws := zs_X3_size) B.pre w (List.mem_cons_of_mem _ h9)
  have hown : s.vm.findClass RX3 = some m.cls := findClass_of_methodNamed B.named
  have hlocks := B.notSynchronized
  have hW : Wd G g ad n a0 s.heap σ s.heap [] := ⟨hP, hD, va_S.rf⟩
  clear hP hD
  have hl := lv_entry ([.ref (ad (r0))]) (n := 1) (Nat.le_of_ble_eq_true rfl)
  rw [lg_entry_eq]
  generalize (lg_sl ([.ref (ad (r0))]) ++ List.replicate (1 - (lg_sl ([.ref (ad (r0))])).length) Slot.unset).toArray = ls at hl ⊢
  have hl : lv_has ls 1 [(0, .ref (ad (r0)))] := hl
  unfold F_X3_size at hF
  refine lv_aload_n hx hb dX3_size_0 rfl (lv_at hl 0 rfl) ?_
  refine r_get (C := RX3) (T := TX3) (N := 2) hx hb htA ia_X3 hown hK hW (r0) (by omega) (cE_k hr0.1) rfl 1 (by decide) (htA _ aw_0) rfl dX3_size_1 ?_
  exact r_iret hx hb hr hlocks hW hF dX3_size_4
def F_X3_at (r0 : Nat) (σ : St) (x1 : Int32) : Option (St × Int32) := if x1 < 0 then some (σ, 0) else if (σ.1 (r0) 1) ≤ x1 then some (σ, 0) else gd (ib x1 (ln (r0 + 1))) (some (σ, (σ.1 (r0 + 1) (Int32.toNatClampNeg x1))))
set_option maxHeartbeats 4000000 in
set_option maxRecDepth 100000 in
theorem m_X3_at (l : Launch) (G : va_G) (g : Nat → ClassId) (ad : Nat → Nat) (n a0 aM : Nat) (r0 : Nat) (σ : St) (x1 : Int32) (x : St × Int32) (hr0 : isRow r0) (tr0 : r0 + 1 < tp n) (hF : F_X3_at r0 σ x1 = some x) : Met l yX3_at zs_X3_at ({ frames := 0, cells := 0, slots := 0, locals := 0 } : Room) (va_Pc [.ref (ad (r0)), .int x1] (wP G g ad n a0 aM σ)) (qI G g ad n a0 x) 0 0 (fun q : Nat => a0 ≤ q) := by
  refine Met.ofW (cc := cX3_at) (maxL := 2) (ret := (some .int)) (by decide) rfl ?_
  intro p e s m args below meth c s₁ B hml hv
  obtain ⟨rfl, hP, hD, hK⟩ := hv
  have hx := B.exec
  have hb := B.bytes
  have hr := B.returns
  have htA : ∀ w ∈ AL, w.before _ s = true := fun w h9 => atoms_spec (ws := zs_X3_at) B.pre w (List.mem_cons_of_mem _ h9)
  have hown : s.vm.findClass RX3 = some m.cls := findClass_of_methodNamed B.named
  have hlocks := B.notSynchronized
  have hW : Wd G g ad n a0 s.heap σ s.heap [] := ⟨hP, hD, va_S.rf⟩
  clear hP hD
  have hl := lv_entry ([.ref (ad (r0)), .int x1]) (n := 2) (Nat.le_of_ble_eq_true rfl)
  rw [lg_entry_eq]
  generalize (lg_sl ([.ref (ad (r0)), .int x1]) ++ List.replicate (2 - (lg_sl ([.ref (ad (r0)), .int x1])).length) Slot.unset).toArray = ls at hl ⊢
  have hl : lv_has ls 2 [(0, .ref (ad (r0))), (1, .int x1)] := hl
  unfold F_X3_at at hF
  refine lv_iload_n hx hb dX3_at_0 rfl (lv_at hl 1 rfl) ?_
  refine lv_if_lt (tgt := 21) hx hb dX3_at_1 (by decide) (fun hc2 => ?_) (fun hc2 => ?_)
  · replace hF := (if_pos hc2).symm.trans hF
    refine lv_iconst (v := 0) hx hb dX3_at_21 (by decide) ?_
    exact r_iret hx hb hr hlocks hW hF dX3_at_22
  · replace hF := (if_neg hc2).symm.trans hF
    refine lv_iload_n hx hb dX3_at_4 rfl (lv_at hl 1 rfl) ?_
    refine lv_aload_n hx hb dX3_at_5 rfl (lv_at hl 0 rfl) ?_
    refine r_get (C := RX3) (T := TX3) (N := 2) hx hb htA ia_X3 hown hK hW (r0) (by omega) (cE_k hr0.1) rfl 1 (by decide) (htA _ aw_0) rfl dX3_at_6 ?_
    refine lv_icmp_ge (tgt := 21) hx hb dX3_at_9 (by decide) (fun hc3 => ?_) (fun hc3 => ?_)
    · replace hF := (if_pos hc3).symm.trans hF
      refine lv_iconst (v := 0) hx hb dX3_at_21 (by decide) ?_
      exact r_iret hx hb hr hlocks hW hF dX3_at_22
    · replace hF := (if_neg hc3).symm.trans hF
      refine lv_aload_n hx hb dX3_at_12 rfl (lv_at hl 0 rfl) ?_
      refine r_get (C := RX3) (T := TX3) (N := 2) hx hb htA ia_X3 hown hK hW (r0) (by omega) (cE_k hr0.1) rfl 0 (by decide) (htA _ aw_1) rfl dX3_at_13 ?_
      refine lv_iload_n hx hb dX3_at_16 rfl (lv_at hl 1 rfl) ?_
      obtain ⟨hg4, hF⟩ := gd_some hF
      refine r_iald hx hb hK hW (r0 + 1) (by omega) hr0.2 hg4 dX3_at_17 ?_
      refine lv_goto (tgt := 22) hx hb dX3_at_18 (by decide) ?_
      exact r_iret hx hb hr hlocks hW hF dX3_at_22
def F_X3_number_L32 (r0 : Nat) (σ : St) (u3 : Int64) : Option (St × Int64) := some (σ, u3)
def F_X3_number_L5 (r0 : Nat) (K32 : St → Int64 → Option (St × Int64)) : Nat → St → Int32 → Int32 → Int64 → Int32 → Option (St × Int64)
  | 0, _, _, _, _, _ => none
  | fz + 1, σ, u1, u2, u3, u5 => if (u1 + u2) ≤ u5 then K32 σ u3 else (F_X3_at (r0) σ u5).bind (fun y3 => (F_X3_number_L5 r0 K32 fz) y3.1 u1 u2 ((u3 <<< ((Int32.toInt64 8) &&& 63)) ||| (Int32.toInt64 y3.2)) (u5 + 1))
def F_X3_number (r0 : Nat) (σ : St) (x1 : Int32) (x2 : Int32) : Option (St × Int64) := F_X3_number_L5 r0 (F_X3_number_L32 r0) fu σ x1 x2 0 x1
set_option maxHeartbeats 4000000 in
set_option maxRecDepth 100000 in
theorem m_X3_number (l : Launch) (G : va_G) (g : Nat → ClassId) (ad : Nat → Nat) (n a0 aM : Nat) (r0 : Nat) (σ : St) (x1 : Int32) (x2 : Int32) (x : St × Int64) (hr0 : isRow r0) (tr0 : r0 + 1 < tp n) (hF : F_X3_number r0 σ x1 x2 = some x) : Met l yX3_number zs_X3_number ({ frames := 1, cells := 0, slots := 0, locals := 21 } : Room) (va_Pc [.ref (ad (r0)), .int x1, .int x2] (wP G g ad n a0 aM σ)) (qJ G g ad n a0 x) 0 0 (fun q : Nat => a0 ≤ q) := by
  refine Met.ofW (cc := cX3_number) (maxL := 6) (ret := (some .long)) (by decide) rfl ?_
  intro p e s m args below meth c s₁ B hml hv
  obtain ⟨rfl, hP, hD, hK⟩ := hv
  have hx := B.exec
  have hb := B.bytes
  have hr := B.returns
  have htA : ∀ w ∈ AL, w.before _ s = true := fun w h9 => atoms_spec (ws := zs_X3_number) B.pre w (List.mem_cons_of_mem _ h9)
  have hown : s.vm.findClass RX3 = some m.cls := findClass_of_methodNamed B.named
  have hlocks := B.notSynchronized
  have hW : Wd G g ad n a0 s.heap σ s.heap [] := ⟨hP, hD, va_S.rf⟩
  clear hP hD
  have hL32 : ∀ (σ : St) (u3 : Int64) (H : Heap) (locs : List Loc) (ls : Array Slot), Wd G g ad n a0 s.heap σ H locs → lv_has ls 6 [(3, .long u3)] → F_X3_number_L32 r0  σ u3 = some x → W p l e (headSpec zs_X3_number ({ frames := 1, cells := 0, slots := 0, locals := 21 } : Room)).room s m ([.ref (ad (r0)), .int x1, .int x2] : List Value).toArray below meth c H locs 0 0 (MQ below (qJ G g ad n a0 x) ([.ref (ad (r0)), .int x1, .int x2] : List Value).toArray s 0 0 (fun q : Nat => a0 ≤ q)) (F0 m 32 ls []) := by
    intro σ u3 H locs ls hW hl hF
    unfold F_X3_number_L32 at hF
    refine lv_lload_n hx hb dX3_number_32 rfl (lv_at hl 0 rfl) ?_
    exact r_lret hx hb hr hlocks hW hF dX3_number_33
  have hL5 : ∀ (fz5 : Nat) (σ : St) (u1 : Int32) (u2 : Int32) (u3 : Int64) (u5 : Int32) (H : Heap) (locs : List Loc) (ls : Array Slot), Wd G g ad n a0 s.heap σ H locs → lv_has ls 6 [(0, .ref (ad (r0))), (1, .int u1), (2, .int u2), (3, .long u3), (5, .int u5)] → F_X3_number_L5 r0 (F_X3_number_L32 r0) fz5 σ u1 u2 u3 u5 = some x → W p l e (headSpec zs_X3_number ({ frames := 1, cells := 0, slots := 0, locals := 21 } : Room)).room s m ([.ref (ad (r0)), .int x1, .int x2] : List Value).toArray below meth c H locs 0 0 (MQ below (qJ G g ad n a0 x) ([.ref (ad (r0)), .int x1, .int x2] : List Value).toArray s 0 0 (fun q : Nat => a0 ≤ q)) (F0 m 5 ls []) := by
    intro fz5
    induction fz5 with
    | zero =>
      intro σ u1 u2 u3 u5 H locs ls hW hl hF
      exact absurd hF (by simp [F_X3_number_L5])
    | succ fz5 ih =>
      have hB5 := ih
      intro σ u1 u2 u3 u5 H locs ls hW hl hF
      unfold F_X3_number_L5 at hF
      refine lv_iload hx hb dX3_number_5 (lv_at hl 4 rfl) ?_
      refine lv_iload_n hx hb dX3_number_7 rfl (lv_at hl 1 rfl) ?_
      refine lv_iload_n hx hb dX3_number_8 rfl (lv_at hl 2 rfl) ?_
      refine lv_iadd hx hb dX3_number_9 ?_
      refine lv_icmp_ge (tgt := 32) hx hb dX3_number_10 (by decide) (fun hc2 => ?_) (fun hc2 => ?_)
      · replace hF := (if_pos hc2).symm.trans hF
        exact hL32 σ u3 _ _ _  hW (lv_sub hl [3] rfl) hF
      · replace hF := (if_neg hc2).symm.trans hF
        refine lv_lload_n hx hb dX3_number_13 rfl (lv_at hl 3 rfl) ?_
        refine lv_bipush (v := 8) hx hb dX3_number_14 (by decide) ?_
        refine lv_lshl (v := (u3 <<< ((Int32.toInt64 8) &&& 63))) hx hb dX3_number_16 rfl ?_
        refine lv_aload_n hx hb dX3_number_17 rfl (lv_at hl 0 rfl) ?_
        refine lv_iload hx hb dX3_number_18 (lv_at hl 4 rfl) ?_
        obtain ⟨y3, hy3, hF⟩ := bd_some hF
        refine r_bi (va_runV (As := [.int u5]) (rest := [.long (u3 <<< ((Int32.toInt64 8) &&& 63))]) ⟨hx, hb, hml, hown, htA⟩ (m_X3_at l G g ad n a0 aM (r0) σ u5 y3 hr0 (by omega) hy3) (cwV 1 htA (gV aw_81 aw_23 aw_24 aw_6 gz_X3_at) rfl rfl rfl (by decide +kernel) ⟨Nat.le_of_ble_eq_true rfl, Nat.le_of_ble_eq_true rfl⟩) (r_preV hK hW (r0) (by omega) (cE_k hr0.1) rfl [.int u5]) rfl rfl hl.1 rfl (lv_room (Nat.le_of_ble_eq_true rfl)) dX3_number_20 ⟨Nat.zero_le _, Nat.zero_le _⟩) hW (fun H locs hW => ?_)
        refine lv_i2l (v := (Int32.toInt64 y3.2)) hx hb dX3_number_23 rfl ?_
        refine lv_lor hx hb dX3_number_24 ?_
        refine lv_lstore_n (lv' := [(3, .long ((u3 <<< ((Int32.toInt64 8) &&& 63)) ||| (Int32.toInt64 y3.2))), (0, .ref (ad (r0))), (1, .int u1), (2, .int u2), (5, .int u5)]) hx hb dX3_number_25 rfl hl (by decide) rfl (fun ls hl => ?_)
        refine lv_iinc (v := (u5 + 1)) (lv' := [(5, .int (u5 + 1)), (3, .long ((u3 <<< ((Int32.toInt64 8) &&& 63)) ||| (Int32.toInt64 y3.2))), (0, .ref (ad (r0))), (1, .int u1), (2, .int u2)]) hx hb dX3_number_26 hl (k := 4) rfl rfl (by decide) rfl (fun ls hl => ?_)
        refine lv_goto (tgt := 5) hx hb dX3_number_29 (by decide) ?_
        exact hB5 y3.1 u1 u2 ((u3 <<< ((Int32.toInt64 8) &&& 63)) ||| (Int32.toInt64 y3.2)) (u5 + 1) _ _ _  hW (lv_sub hl [2, 3, 4, 1, 0] rfl) hF
  have hL5 := hL5 fu
  have hl := lv_entry ([.ref (ad (r0)), .int x1, .int x2]) (n := 6) (Nat.le_of_ble_eq_true rfl)
  rw [lg_entry_eq]
  generalize (lg_sl ([.ref (ad (r0)), .int x1, .int x2]) ++ List.replicate (6 - (lg_sl ([.ref (ad (r0)), .int x1, .int x2])).length) Slot.unset).toArray = ls at hl ⊢
  have hl : lv_has ls 6 [(0, .ref (ad (r0))), (1, .int x1), (2, .int x2)] := hl
  unfold F_X3_number at hF
  refine lv_lconst (v := 0) hx hb dX3_number_0 (by decide) ?_
  refine lv_lstore_n (lv' := [(3, .long 0), (0, .ref (ad (r0))), (1, .int x1), (2, .int x2)]) hx hb dX3_number_1 rfl hl (by decide) rfl (fun ls hl => ?_)
  refine lv_iload_n hx hb dX3_number_2 rfl (lv_at hl 2 rfl) ?_
  refine lv_istore (lv' := [(5, .int x1), (3, .long 0), (0, .ref (ad (r0))), (1, .int x1), (2, .int x2)]) hx hb dX3_number_3 hl (by decide) rfl (fun ls hl => ?_)
  exact hL5 σ x1 x2 0 x1 _ _ _  hW (lv_sub hl [2, 3, 4, 1, 0] rfl) hF
def F_X3_sum_L41 (r0 : Nat) (σ : St) (u3 : Int32) : Option (St × Int32) := some (σ, (u3 &&& 65535))
def F_X3_sum_L5 (r0 : Nat) (K41 : St → Int32 → Option (St × Int32)) : Nat → St → Int32 → Int32 → Int32 → Option (St × Int32)
  | 0, _, _, _, _ => none
  | fz + 1, σ, u2, u3, u4 => if u4 < 0 then K41 σ u3 else if u2 ≤ u4 then K41 σ u3 else if (σ.1 (r0) 1) ≤ u4 then K41 σ u3 else gd (ib u4 (ln (r0 + 1))) ((F_X3_sum_L5 r0 K41 fz) σ u2 (u3 + (σ.1 (r0 + 1) (Int32.toNatClampNeg u4))) (u4 + 1))
def F_X3_sum (r0 : Nat) (σ : St) (x1 : Int32) (x2 : Int32) : Option (St × Int32) := F_X3_sum_L5 r0 (F_X3_sum_L41 r0) fu σ x2 0 x1
set_option maxHeartbeats 4000000 in
set_option maxRecDepth 100000 in
theorem m_X3_sum (l : Launch) (G : va_G) (g : Nat → ClassId) (ad : Nat → Nat) (n a0 aM : Nat) (r0 : Nat) (σ : St) (x1 : Int32) (x2 : Int32) (x : St × Int32) (hr0 : isRow r0) (tr0 : r0 + 1 < tp n) (hF : F_X3_sum r0 σ x1 x2 = some x) : Met l yX3_sum zs_X3_sum ({ frames := 0, cells := 0, slots := 0, locals := 0 } : Room) (va_Pc [.ref (ad (r0)), .int x1, .int x2] (wP G g ad n a0 aM σ)) (qI G g ad n a0 x) 0 0 (fun q : Nat => a0 ≤ q) := by
  refine Met.ofW (cc := cX3_sum) (maxL := 5) (ret := (some .int)) (by decide) rfl ?_
  intro p e s m args below meth c s₁ B hml hv
  obtain ⟨rfl, hP, hD, hK⟩ := hv
  have hx := B.exec
  have hb := B.bytes
  have hr := B.returns
  have htA : ∀ w ∈ AL, w.before _ s = true := fun w h9 => atoms_spec (ws := zs_X3_sum) B.pre w (List.mem_cons_of_mem _ h9)
  have hown : s.vm.findClass RX3 = some m.cls := findClass_of_methodNamed B.named
  have hlocks := B.notSynchronized
  have hW : Wd G g ad n a0 s.heap σ s.heap [] := ⟨hP, hD, va_S.rf⟩
  clear hP hD
  have hL41 : ∀ (σ : St) (u3 : Int32) (H : Heap) (locs : List Loc) (ls : Array Slot), Wd G g ad n a0 s.heap σ H locs → lv_has ls 5 [(3, .int u3)] → F_X3_sum_L41 r0  σ u3 = some x → W p l e (headSpec zs_X3_sum ({ frames := 0, cells := 0, slots := 0, locals := 0 } : Room)).room s m ([.ref (ad (r0)), .int x1, .int x2] : List Value).toArray below meth c H locs 0 0 (MQ below (qI G g ad n a0 x) ([.ref (ad (r0)), .int x1, .int x2] : List Value).toArray s 0 0 (fun q : Nat => a0 ≤ q)) (F0 m 41 ls []) := by
    intro σ u3 H locs ls hW hl hF
    unfold F_X3_sum_L41 at hF
    refine lv_iload_n hx hb dX3_sum_41 rfl (lv_at hl 0 rfl) ?_
    refine lv_ldc (v := 65535) hx hb hown (htA _ aw_2) dX3_sum_42 ?_
    refine lv_iand hx hb dX3_sum_44 ?_
    exact r_iret hx hb hr hlocks hW hF dX3_sum_45
  have hL5 : ∀ (fz5 : Nat) (σ : St) (u2 : Int32) (u3 : Int32) (u4 : Int32) (H : Heap) (locs : List Loc) (ls : Array Slot), Wd G g ad n a0 s.heap σ H locs → lv_has ls 5 [(0, .ref (ad (r0))), (2, .int u2), (3, .int u3), (4, .int u4)] → F_X3_sum_L5 r0 (F_X3_sum_L41 r0) fz5 σ u2 u3 u4 = some x → W p l e (headSpec zs_X3_sum ({ frames := 0, cells := 0, slots := 0, locals := 0 } : Room)).room s m ([.ref (ad (r0)), .int x1, .int x2] : List Value).toArray below meth c H locs 0 0 (MQ below (qI G g ad n a0 x) ([.ref (ad (r0)), .int x1, .int x2] : List Value).toArray s 0 0 (fun q : Nat => a0 ≤ q)) (F0 m 5 ls []) := by
    intro fz5
    induction fz5 with
    | zero =>
      intro σ u2 u3 u4 H locs ls hW hl hF
      exact absurd hF (by simp [F_X3_sum_L5])
    | succ fz5 ih =>
      have hB5 := ih
      intro σ u2 u3 u4 H locs ls hW hl hF
      unfold F_X3_sum_L5 at hF
      refine lv_iload hx hb dX3_sum_5 (lv_at hl 3 rfl) ?_
      refine lv_if_lt (tgt := 41) hx hb dX3_sum_7 (by decide) (fun hc2 => ?_) (fun hc2 => ?_)
      · replace hF := (if_pos hc2).symm.trans hF
        exact hL41 σ u3 _ _ _  hW (lv_sub hl [2] rfl) hF
      · replace hF := (if_neg hc2).symm.trans hF
        refine lv_iload hx hb dX3_sum_10 (lv_at hl 3 rfl) ?_
        refine lv_iload_n hx hb dX3_sum_12 rfl (lv_at hl 1 rfl) ?_
        refine lv_icmp_ge (tgt := 41) hx hb dX3_sum_13 (by decide) (fun hc3 => ?_) (fun hc3 => ?_)
        · replace hF := (if_pos hc3).symm.trans hF
          exact hL41 σ u3 _ _ _  hW (lv_sub hl [2] rfl) hF
        · replace hF := (if_neg hc3).symm.trans hF
          refine lv_iload hx hb dX3_sum_16 (lv_at hl 3 rfl) ?_
          refine lv_aload_n hx hb dX3_sum_18 rfl (lv_at hl 0 rfl) ?_
          refine r_get (C := RX3) (T := TX3) (N := 2) hx hb htA ia_X3 hown hK hW (r0) (by omega) (cE_k hr0.1) rfl 1 (by decide) (htA _ aw_0) rfl dX3_sum_19 ?_
          refine lv_icmp_ge (tgt := 41) hx hb dX3_sum_22 (by decide) (fun hc4 => ?_) (fun hc4 => ?_)
          · replace hF := (if_pos hc4).symm.trans hF
            exact hL41 σ u3 _ _ _  hW (lv_sub hl [2] rfl) hF
          · replace hF := (if_neg hc4).symm.trans hF
            refine lv_iload_n hx hb dX3_sum_25 rfl (lv_at hl 2 rfl) ?_
            refine lv_aload_n hx hb dX3_sum_26 rfl (lv_at hl 0 rfl) ?_
            refine r_get (C := RX3) (T := TX3) (N := 2) hx hb htA ia_X3 hown hK hW (r0) (by omega) (cE_k hr0.1) rfl 0 (by decide) (htA _ aw_1) rfl dX3_sum_27 ?_
            refine lv_iload hx hb dX3_sum_30 (lv_at hl 3 rfl) ?_
            obtain ⟨hg5, hF⟩ := gd_some hF
            refine r_iald hx hb hK hW (r0 + 1) (by omega) hr0.2 hg5 dX3_sum_32 ?_
            refine lv_iadd hx hb dX3_sum_33 ?_
            refine lv_istore_n (lv' := [(3, .int (u3 + (σ.1 (r0 + 1) (Int32.toNatClampNeg u4)))), (0, .ref (ad (r0))), (2, .int u2), (4, .int u4)]) hx hb dX3_sum_34 rfl hl (by decide) rfl (fun ls hl => ?_)
            refine lv_iinc (v := (u4 + 1)) (lv' := [(4, .int (u4 + 1)), (3, .int (u3 + (σ.1 (r0 + 1) (Int32.toNatClampNeg u4)))), (0, .ref (ad (r0))), (2, .int u2)]) hx hb dX3_sum_35 hl (k := 3) rfl rfl (by decide) rfl (fun ls hl => ?_)
            refine lv_goto (tgt := 5) hx hb dX3_sum_38 (by decide) ?_
            exact hB5 σ u2 (u3 + (σ.1 (r0 + 1) (Int32.toNatClampNeg u4))) (u4 + 1) _ _ _  hW (lv_sub hl [2, 3, 1, 0] rfl) hF
  have hL5 := hL5 fu
  have hl := lv_entry ([.ref (ad (r0)), .int x1, .int x2]) (n := 5) (Nat.le_of_ble_eq_true rfl)
  rw [lg_entry_eq]
  generalize (lg_sl ([.ref (ad (r0)), .int x1, .int x2]) ++ List.replicate (5 - (lg_sl ([.ref (ad (r0)), .int x1, .int x2])).length) Slot.unset).toArray = ls at hl ⊢
  have hl : lv_has ls 5 [(0, .ref (ad (r0))), (1, .int x1), (2, .int x2)] := hl
  unfold F_X3_sum at hF
  refine lv_iconst (v := 0) hx hb dX3_sum_0 (by decide) ?_
  refine lv_istore_n (lv' := [(3, .int 0), (0, .ref (ad (r0))), (1, .int x1), (2, .int x2)]) hx hb dX3_sum_1 rfl hl (by decide) rfl (fun ls hl => ?_)
  refine lv_iload_n hx hb dX3_sum_2 rfl (lv_at hl 2 rfl) ?_
  refine lv_istore (lv' := [(4, .int x1), (3, .int 0), (0, .ref (ad (r0))), (1, .int x1), (2, .int x2)]) hx hb dX3_sum_3 hl (by decide) rfl (fun ls hl => ?_)
  exact hL5 σ x2 0 x1 _ _ _  hW (lv_sub hl [2, 4, 1, 0] rfl) hF
def F_X3_cut (r0 : Nat) (σ : St) (x1 : Int32) : Option (St) := if x1 < 0 then some σ else if (σ.1 (r0) 1) ≤ x1 then some σ else nm (sI σ (r0) 1 x1) (fun w4 => some w4)
set_option maxHeartbeats 4000000 in
set_option maxRecDepth 100000 in
theorem m_X3_cut (l : Launch) (G : va_G) (g : Nat → ClassId) (ad : Nat → Nat) (n a0 aM : Nat) (r0 : Nat) (σ : St) (x1 : Int32) (x : St) (hr0 : isRow r0) (tr0 : r0 + 1 < tp n) (hF : F_X3_cut r0 σ x1 = some x) : Met l yX3_cut zs_X3_cut ({ frames := 0, cells := 0, slots := 0, locals := 0 } : Room) (va_Pc [.ref (ad (r0)), .int x1] (wP G g ad n a0 aM σ)) (qV G g ad n a0 x) 0 0 (fun q : Nat => a0 ≤ q) := by
  refine Met.ofW (cc := cX3_cut) (maxL := 2) (ret := none) (by decide) rfl ?_
  intro p e s m args below meth c s₁ B hml hv
  obtain ⟨rfl, hP, hD, hK⟩ := hv
  have hx := B.exec
  have hb := B.bytes
  have hr := B.returns
  have htA : ∀ w ∈ AL, w.before _ s = true := fun w h9 => atoms_spec (ws := zs_X3_cut) B.pre w (List.mem_cons_of_mem _ h9)
  have hown : s.vm.findClass RX3 = some m.cls := findClass_of_methodNamed B.named
  have hlocks := B.notSynchronized
  have hW : Wd G g ad n a0 s.heap σ s.heap [] := ⟨hP, hD, va_S.rf⟩
  clear hP hD
  have hl := lv_entry ([.ref (ad (r0)), .int x1]) (n := 2) (Nat.le_of_ble_eq_true rfl)
  rw [lg_entry_eq]
  generalize (lg_sl ([.ref (ad (r0)), .int x1]) ++ List.replicate (2 - (lg_sl ([.ref (ad (r0)), .int x1])).length) Slot.unset).toArray = ls at hl ⊢
  have hl : lv_has ls 2 [(0, .ref (ad (r0))), (1, .int x1)] := hl
  unfold F_X3_cut at hF
  refine lv_iload_n hx hb dX3_cut_0 rfl (lv_at hl 1 rfl) ?_
  refine lv_if_lt (tgt := 17) hx hb dX3_cut_1 (by decide) (fun hc2 => ?_) (fun hc2 => ?_)
  · replace hF := (if_pos hc2).symm.trans hF
    exact r_vret hx hb hr hlocks hW hF dX3_cut_17
  · replace hF := (if_neg hc2).symm.trans hF
    refine lv_iload_n hx hb dX3_cut_4 rfl (lv_at hl 1 rfl) ?_
    refine lv_aload_n hx hb dX3_cut_5 rfl (lv_at hl 0 rfl) ?_
    refine r_get (C := RX3) (T := TX3) (N := 2) hx hb htA ia_X3 hown hK hW (r0) (by omega) (cE_k hr0.1) rfl 1 (by decide) (htA _ aw_0) rfl dX3_cut_6 ?_
    refine lv_icmp_ge (tgt := 17) hx hb dX3_cut_9 (by decide) (fun hc3 => ?_) (fun hc3 => ?_)
    · replace hF := (if_pos hc3).symm.trans hF
      exact r_vret hx hb hr hlocks hW hF dX3_cut_17
    · replace hF := (if_neg hc3).symm.trans hF
      refine lv_aload_n hx hb dX3_cut_12 rfl (lv_at hl 0 rfl) ?_
      refine lv_iload_n hx hb dX3_cut_13 rfl (lv_at hl 1 rfl) ?_
      refine r_putI (C := RX3) (T := TX3) (N := 2) (ty := .int) hx hb htA ia_X3 tyX3 tyX3_ok nmX3 hown hK hW (r0) (by omega) (cE_k hr0.1) rfl 1 (by decide) (cE_k hr0.1) (htA _ aw_0) rfl (by decide +kernel) rfl rfl (Nat.le_of_ble_eq_true rfl) dX3_cut_14 (fun H locs hW => ?_)
      obtain ⟨w4, ew4, hF⟩ := nm_some hF
      rw [← ew4] at hW
      exact r_vret hx hb hr hlocks hW hF dX3_cut_17
def F_X3_put (r0 : Nat) (σ : St) (x1 : Int32) : Option (St) := if (Int32.ofNat (ln (r0 + 1))) ≤ (σ.1 (r0) 1) then some σ else gd (ib (σ.1 (r0) 1) (ln (r0 + 1))) (nm (sI σ (r0 + 1) (Int32.toNatClampNeg (σ.1 (r0) 1)) (x1 &&& 255)) (fun w6 => nm (sI w6 (r0) 1 ((w6.1 (r0) 1) + 1)) (fun w7 => some w7)))
set_option maxHeartbeats 4000000 in
set_option maxRecDepth 100000 in
theorem m_X3_put (l : Launch) (G : va_G) (g : Nat → ClassId) (ad : Nat → Nat) (n a0 aM : Nat) (r0 : Nat) (σ : St) (x1 : Int32) (x : St) (hr0 : isRow r0) (tr0 : r0 + 1 < tp n) (hF : F_X3_put r0 σ x1 = some x) : Met l yX3_put zs_X3_put ({ frames := 0, cells := 0, slots := 0, locals := 0 } : Room) (va_Pc [.ref (ad (r0)), .int x1] (wP G g ad n a0 aM σ)) (qV G g ad n a0 x) 0 0 (fun q : Nat => a0 ≤ q) := by
  refine Met.ofW (cc := cX3_put) (maxL := 2) (ret := none) (by decide) rfl ?_
  intro p e s m args below meth c s₁ B hml hv
  obtain ⟨rfl, hP, hD, hK⟩ := hv
  have hx := B.exec
  have hb := B.bytes
  have hr := B.returns
  have htA : ∀ w ∈ AL, w.before _ s = true := fun w h9 => atoms_spec (ws := zs_X3_put) B.pre w (List.mem_cons_of_mem _ h9)
  have hown : s.vm.findClass RX3 = some m.cls := findClass_of_methodNamed B.named
  have hlocks := B.notSynchronized
  have hW : Wd G g ad n a0 s.heap σ s.heap [] := ⟨hP, hD, va_S.rf⟩
  clear hP hD
  have hl := lv_entry ([.ref (ad (r0)), .int x1]) (n := 2) (Nat.le_of_ble_eq_true rfl)
  rw [lg_entry_eq]
  generalize (lg_sl ([.ref (ad (r0)), .int x1]) ++ List.replicate (2 - (lg_sl ([.ref (ad (r0)), .int x1])).length) Slot.unset).toArray = ls at hl ⊢
  have hl : lv_has ls 2 [(0, .ref (ad (r0))), (1, .int x1)] := hl
  unfold F_X3_put at hF
  refine lv_aload_n hx hb dX3_put_0 rfl (lv_at hl 0 rfl) ?_
  refine r_get (C := RX3) (T := TX3) (N := 2) hx hb htA ia_X3 hown hK hW (r0) (by omega) (cE_k hr0.1) rfl 1 (by decide) (htA _ aw_0) rfl dX3_put_1 ?_
  refine lv_aload_n hx hb dX3_put_4 rfl (lv_at hl 0 rfl) ?_
  refine r_get (C := RX3) (T := TX3) (N := 2) hx hb htA ia_X3 hown hK hW (r0) (by omega) (cE_k hr0.1) rfl 0 (by decide) (htA _ aw_1) rfl dX3_put_5 ?_
  refine r_ilen hx hb hK hW (r0 + 1) (by omega) hr0.2 dX3_put_8 ?_
  refine lv_icmp_ge (tgt := 36) hx hb dX3_put_9 (by decide) (fun hc4 => ?_) (fun hc4 => ?_)
  · replace hF := (if_pos hc4).symm.trans hF
    exact r_vret hx hb hr hlocks hW hF dX3_put_36
  · replace hF := (if_neg hc4).symm.trans hF
    refine lv_aload_n hx hb dX3_put_12 rfl (lv_at hl 0 rfl) ?_
    refine r_get (C := RX3) (T := TX3) (N := 2) hx hb htA ia_X3 hown hK hW (r0) (by omega) (cE_k hr0.1) rfl 0 (by decide) (htA _ aw_1) rfl dX3_put_13 ?_
    refine lv_aload_n hx hb dX3_put_16 rfl (lv_at hl 0 rfl) ?_
    refine r_get (C := RX3) (T := TX3) (N := 2) hx hb htA ia_X3 hown hK hW (r0) (by omega) (cE_k hr0.1) rfl 1 (by decide) (htA _ aw_0) rfl dX3_put_17 ?_
    refine lv_iload_n hx hb dX3_put_20 rfl (lv_at hl 1 rfl) ?_
    refine lv_sipush (v := 255) hx hb dX3_put_21 (by decide) ?_
    refine lv_iand hx hb dX3_put_24 ?_
    obtain ⟨hg5, hF⟩ := gd_some hF
    refine r_iast hx hb hK hW (r0 + 1) (by omega) hr0.2 hg5 dX3_put_25 (fun H locs hW => ?_)
    obtain ⟨w6, ew6, hF⟩ := nm_some hF
    rw [← ew6] at hW
    refine lv_aload_n hx hb dX3_put_26 rfl (lv_at hl 0 rfl) ?_
    refine lv_dup hx hb dX3_put_27 rfl ?_
    refine r_get (C := RX3) (T := TX3) (N := 2) hx hb htA ia_X3 hown hK hW (r0) (by omega) (cE_k hr0.1) rfl 1 (by decide) (htA _ aw_0) rfl dX3_put_28 ?_
    refine lv_iconst (v := 1) hx hb dX3_put_31 (by decide) ?_
    refine lv_iadd hx hb dX3_put_32 ?_
    refine r_putI (C := RX3) (T := TX3) (N := 2) (ty := .int) hx hb htA ia_X3 tyX3 tyX3_ok nmX3 hown hK hW (r0) (by omega) (cE_k hr0.1) rfl 1 (by decide) (cE_k hr0.1) (htA _ aw_0) rfl (by decide +kernel) rfl rfl (Nat.le_of_ble_eq_true rfl) dX3_put_33 (fun H locs hW => ?_)
    obtain ⟨w7, ew7, hF⟩ := nm_some hF
    rw [← ew7] at hW
    exact r_vret hx hb hr hlocks hW hF dX3_put_36
def F_X3_putNumber_L59 (r0 : Nat) (σ : St) : Option (St) := some σ
def F_X3_putNumber_L5 (r0 : Nat) (K59 : St → Option (St)) : Nat → St → Int64 → Int32 → Option (St)
  | 0, _, _, _ => none
  | fz + 1, σ, u1, u4 => if u4 < 0 then K59 σ else if (Int32.ofNat (ln (r0 + 1))) ≤ (σ.1 (r0) 1) then K59 σ else gd (ib (σ.1 (r0) 1) (ln (r0 + 1))) (nm (sI σ (r0 + 1) (Int32.toNatClampNeg (σ.1 (r0) 1)) ((Int64.toInt32 ((Int64.toUInt64 u1) >>> ((Int64.toUInt64 (Int32.toInt64 (8 * u4))) &&& Int64.toUInt64 63)).toInt64) &&& 255)) (fun w7 => nm (sI w7 (r0) 1 ((w7.1 (r0) 1) + 1)) (fun w8 => (F_X3_putNumber_L5 r0 K59 fz) w8 u1 (u4 + (-1)))))
def F_X3_putNumber (r0 : Nat) (σ : St) (x1 : Int64) (x3 : Int32) : Option (St) := F_X3_putNumber_L5 r0 (F_X3_putNumber_L59 r0) fu σ x1 (x3 - 1)
set_option maxHeartbeats 4000000 in
set_option maxRecDepth 100000 in
theorem m_X3_putNumber (l : Launch) (G : va_G) (g : Nat → ClassId) (ad : Nat → Nat) (n a0 aM : Nat) (r0 : Nat) (σ : St) (x1 : Int64) (x3 : Int32) (x : St) (hr0 : isRow r0) (tr0 : r0 + 1 < tp n) (hF : F_X3_putNumber r0 σ x1 x3 = some x) : Met l yX3_putNumber zs_X3_putNumber ({ frames := 0, cells := 0, slots := 0, locals := 0 } : Room) (va_Pc [.ref (ad (r0)), .long x1, .int x3] (wP G g ad n a0 aM σ)) (qV G g ad n a0 x) 0 0 (fun q : Nat => a0 ≤ q) := by
  refine Met.ofW (cc := cX3_putNumber) (maxL := 5) (ret := none) (by decide) rfl ?_
  intro p e s m args below meth c s₁ B hml hv
  obtain ⟨rfl, hP, hD, hK⟩ := hv
  have hx := B.exec
  have hb := B.bytes
  have hr := B.returns
  have htA : ∀ w ∈ AL, w.before _ s = true := fun w h9 => atoms_spec (ws := zs_X3_putNumber) B.pre w (List.mem_cons_of_mem _ h9)
  have hown : s.vm.findClass RX3 = some m.cls := findClass_of_methodNamed B.named
  have hlocks := B.notSynchronized
  have hW : Wd G g ad n a0 s.heap σ s.heap [] := ⟨hP, hD, va_S.rf⟩
  clear hP hD
  have hL59 : ∀ (σ : St) (H : Heap) (locs : List Loc) (ls : Array Slot), Wd G g ad n a0 s.heap σ H locs → lv_has ls 5 [] → F_X3_putNumber_L59 r0  σ = some x → W p l e (headSpec zs_X3_putNumber ({ frames := 0, cells := 0, slots := 0, locals := 0 } : Room)).room s m ([.ref (ad (r0)), .long x1, .int x3] : List Value).toArray below meth c H locs 0 0 (MQ below (qV G g ad n a0 x) ([.ref (ad (r0)), .long x1, .int x3] : List Value).toArray s 0 0 (fun q : Nat => a0 ≤ q)) (F0 m 59 ls []) := by
    intro σ H locs ls hW hl hF
    unfold F_X3_putNumber_L59 at hF
    exact r_vret hx hb hr hlocks hW hF dX3_putNumber_59
  have hL5 : ∀ (fz5 : Nat) (σ : St) (u1 : Int64) (u4 : Int32) (H : Heap) (locs : List Loc) (ls : Array Slot), Wd G g ad n a0 s.heap σ H locs → lv_has ls 5 [(0, .ref (ad (r0))), (1, .long u1), (4, .int u4)] → F_X3_putNumber_L5 r0 (F_X3_putNumber_L59 r0) fz5 σ u1 u4 = some x → W p l e (headSpec zs_X3_putNumber ({ frames := 0, cells := 0, slots := 0, locals := 0 } : Room)).room s m ([.ref (ad (r0)), .long x1, .int x3] : List Value).toArray below meth c H locs 0 0 (MQ below (qV G g ad n a0 x) ([.ref (ad (r0)), .long x1, .int x3] : List Value).toArray s 0 0 (fun q : Nat => a0 ≤ q)) (F0 m 5 ls []) := by
    intro fz5
    induction fz5 with
    | zero =>
      intro σ u1 u4 H locs ls hW hl hF
      exact absurd hF (by simp [F_X3_putNumber_L5])
    | succ fz5 ih =>
      have hB5 := ih
      intro σ u1 u4 H locs ls hW hl hF
      unfold F_X3_putNumber_L5 at hF
      refine lv_iload hx hb dX3_putNumber_5 (lv_at hl 2 rfl) ?_
      refine lv_if_lt (tgt := 59) hx hb dX3_putNumber_7 (by decide) (fun hc4 => ?_) (fun hc4 => ?_)
      · replace hF := (if_pos hc4).symm.trans hF
        exact hL59 σ _ _ _  hW (lv_sub hl [] rfl) hF
      · replace hF := (if_neg hc4).symm.trans hF
        refine lv_aload_n hx hb dX3_putNumber_10 rfl (lv_at hl 0 rfl) ?_
        refine r_get (C := RX3) (T := TX3) (N := 2) hx hb htA ia_X3 hown hK hW (r0) (by omega) (cE_k hr0.1) rfl 1 (by decide) (htA _ aw_0) rfl dX3_putNumber_11 ?_
        refine lv_aload_n hx hb dX3_putNumber_14 rfl (lv_at hl 0 rfl) ?_
        refine r_get (C := RX3) (T := TX3) (N := 2) hx hb htA ia_X3 hown hK hW (r0) (by omega) (cE_k hr0.1) rfl 0 (by decide) (htA _ aw_1) rfl dX3_putNumber_15 ?_
        refine r_ilen hx hb hK hW (r0 + 1) (by omega) hr0.2 dX3_putNumber_18 ?_
        refine lv_icmp_ge (tgt := 59) hx hb dX3_putNumber_19 (by decide) (fun hc5 => ?_) (fun hc5 => ?_)
        · replace hF := (if_pos hc5).symm.trans hF
          exact hL59 σ _ _ _  hW (lv_sub hl [] rfl) hF
        · replace hF := (if_neg hc5).symm.trans hF
          refine lv_aload_n hx hb dX3_putNumber_22 rfl (lv_at hl 0 rfl) ?_
          refine r_get (C := RX3) (T := TX3) (N := 2) hx hb htA ia_X3 hown hK hW (r0) (by omega) (cE_k hr0.1) rfl 0 (by decide) (htA _ aw_1) rfl dX3_putNumber_23 ?_
          refine lv_aload_n hx hb dX3_putNumber_26 rfl (lv_at hl 0 rfl) ?_
          refine r_get (C := RX3) (T := TX3) (N := 2) hx hb htA ia_X3 hown hK hW (r0) (by omega) (cE_k hr0.1) rfl 1 (by decide) (htA _ aw_0) rfl dX3_putNumber_27 ?_
          refine lv_lload_n hx hb dX3_putNumber_30 rfl (lv_at hl 1 rfl) ?_
          refine lv_bipush (v := 8) hx hb dX3_putNumber_31 (by decide) ?_
          refine lv_iload hx hb dX3_putNumber_33 (lv_at hl 2 rfl) ?_
          refine lv_imul hx hb dX3_putNumber_35 ?_
          refine lv_lushr (v := ((Int64.toUInt64 u1) >>> ((Int64.toUInt64 (Int32.toInt64 (8 * u4))) &&& Int64.toUInt64 63)).toInt64) hx hb dX3_putNumber_36 rfl ?_
          refine lv_l2i (v := (Int64.toInt32 ((Int64.toUInt64 u1) >>> ((Int64.toUInt64 (Int32.toInt64 (8 * u4))) &&& Int64.toUInt64 63)).toInt64)) hx hb dX3_putNumber_37 rfl ?_
          refine lv_sipush (v := 255) hx hb dX3_putNumber_38 (by decide) ?_
          refine lv_iand hx hb dX3_putNumber_41 ?_
          obtain ⟨hg6, hF⟩ := gd_some hF
          refine r_iast hx hb hK hW (r0 + 1) (by omega) hr0.2 hg6 dX3_putNumber_42 (fun H locs hW => ?_)
          obtain ⟨w7, ew7, hF⟩ := nm_some hF
          rw [← ew7] at hW
          refine lv_aload_n hx hb dX3_putNumber_43 rfl (lv_at hl 0 rfl) ?_
          refine lv_dup hx hb dX3_putNumber_44 rfl ?_
          refine r_get (C := RX3) (T := TX3) (N := 2) hx hb htA ia_X3 hown hK hW (r0) (by omega) (cE_k hr0.1) rfl 1 (by decide) (htA _ aw_0) rfl dX3_putNumber_45 ?_
          refine lv_iconst (v := 1) hx hb dX3_putNumber_48 (by decide) ?_
          refine lv_iadd hx hb dX3_putNumber_49 ?_
          refine r_putI (C := RX3) (T := TX3) (N := 2) (ty := .int) hx hb htA ia_X3 tyX3 tyX3_ok nmX3 hown hK hW (r0) (by omega) (cE_k hr0.1) rfl 1 (by decide) (cE_k hr0.1) (htA _ aw_0) rfl (by decide +kernel) rfl rfl (Nat.le_of_ble_eq_true rfl) dX3_putNumber_50 (fun H locs hW => ?_)
          obtain ⟨w8, ew8, hF⟩ := nm_some hF
          rw [← ew8] at hW
          refine lv_iinc (v := (u4 + (-1))) (lv' := [(4, .int (u4 + (-1))), (0, .ref (ad (r0))), (1, .long u1)]) hx hb dX3_putNumber_53 hl (k := 2) rfl rfl (by decide) rfl (fun ls hl => ?_)
          refine lv_goto (tgt := 5) hx hb dX3_putNumber_56 (by decide) ?_
          exact hB5 w8 u1 (u4 + (-1)) _ _ _  hW (lv_sub hl [1, 2, 0] rfl) hF
  have hL5 := hL5 fu
  have hl := lv_entry ([.ref (ad (r0)), .long x1, .int x3]) (n := 5) (Nat.le_of_ble_eq_true rfl)
  rw [lg_entry_eq]
  generalize (lg_sl ([.ref (ad (r0)), .long x1, .int x3]) ++ List.replicate (5 - (lg_sl ([.ref (ad (r0)), .long x1, .int x3])).length) Slot.unset).toArray = ls at hl ⊢
  have hl : lv_has ls 5 [(0, .ref (ad (r0))), (1, .long x1), (3, .int x3)] := hl
  unfold F_X3_putNumber at hF
  refine lv_iload_n hx hb dX3_putNumber_0 rfl (lv_at hl 2 rfl) ?_
  refine lv_iconst (v := 1) hx hb dX3_putNumber_1 (by decide) ?_
  refine lv_isub hx hb dX3_putNumber_2 ?_
  refine lv_istore (lv' := [(4, .int (x3 - 1)), (0, .ref (ad (r0))), (1, .long x1), (3, .int x3)]) hx hb dX3_putNumber_3 hl (by decide) rfl (fun ls hl => ?_)
  exact hL5 σ x1 (x3 - 1) _ _ _  hW (lv_sub hl [1, 2, 0] rfl) hF
def F_X3_copyFrom_L52 (r0 : Nat) (r1 : Nat) (σ : St) : Option (St) := some σ
def F_X3_copyFrom_L7 (r0 : Nat) (r1 : Nat) (K52 : St → Option (St)) : Nat → St → Int32 → Option (St)
  | 0, _, _ => none
  | fz + 1, σ, u2 => if (σ.1 (r1) 1) ≤ u2 then K52 σ else if (Int32.ofNat (ln (r0 + 1))) ≤ u2 then K52 σ else gd (ib u2 (ln (r1 + 1))) (gd (ib u2 (ln (r0 + 1))) (nm (sI σ (r0 + 1) (Int32.toNatClampNeg u2) (σ.1 (r1 + 1) (Int32.toNatClampNeg u2))) (fun w10 => nm (sI w10 (r0) 1 ((w10.1 (r0) 1) + 1)) (fun w11 => (F_X3_copyFrom_L7 r0 r1 K52 fz) w11 (u2 + 1)))))
def F_X3_copyFrom (r0 : Nat) (r1 : Nat) (σ : St) : Option (St) := nm (sI σ (r0) 1 0) (fun w12 => F_X3_copyFrom_L7 r0 r1 (F_X3_copyFrom_L52 r0 r1) fu w12 0)
set_option maxHeartbeats 4000000 in
set_option maxRecDepth 100000 in
theorem m_X3_copyFrom (l : Launch) (G : va_G) (g : Nat → ClassId) (ad : Nat → Nat) (n a0 aM : Nat) (r0 : Nat) (r1 : Nat) (σ : St) (x : St) (hr0 : isRow r0) (tr0 : r0 + 1 < tp n) (hr1 : isRow r1) (tr1 : r1 + 1 < tp n) (hF : F_X3_copyFrom r0 r1 σ = some x) : Met l yX3_copyFrom zs_X3_copyFrom ({ frames := 0, cells := 0, slots := 0, locals := 0 } : Room) (va_Pc [.ref (ad (r0)), .ref (ad (r1))] (wP G g ad n a0 aM σ)) (qV G g ad n a0 x) 0 0 (fun q : Nat => a0 ≤ q) := by
  refine Met.ofW (cc := cX3_copyFrom) (maxL := 3) (ret := none) (by decide) rfl ?_
  intro p e s m args below meth c s₁ B hml hv
  obtain ⟨rfl, hP, hD, hK⟩ := hv
  have hx := B.exec
  have hb := B.bytes
  have hr := B.returns
  have htA : ∀ w ∈ AL, w.before _ s = true := fun w h9 => atoms_spec (ws := zs_X3_copyFrom) B.pre w (List.mem_cons_of_mem _ h9)
  have hown : s.vm.findClass RX3 = some m.cls := findClass_of_methodNamed B.named
  have hlocks := B.notSynchronized
  have hW : Wd G g ad n a0 s.heap σ s.heap [] := ⟨hP, hD, va_S.rf⟩
  clear hP hD
  have hL52 : ∀ (σ : St) (H : Heap) (locs : List Loc) (ls : Array Slot), Wd G g ad n a0 s.heap σ H locs → lv_has ls 3 [] → F_X3_copyFrom_L52 r0 r1  σ = some x → W p l e (headSpec zs_X3_copyFrom ({ frames := 0, cells := 0, slots := 0, locals := 0 } : Room)).room s m ([.ref (ad (r0)), .ref (ad (r1))] : List Value).toArray below meth c H locs 0 0 (MQ below (qV G g ad n a0 x) ([.ref (ad (r0)), .ref (ad (r1))] : List Value).toArray s 0 0 (fun q : Nat => a0 ≤ q)) (F0 m 52 ls []) := by
    intro σ H locs ls hW hl hF
    unfold F_X3_copyFrom_L52 at hF
    exact r_vret hx hb hr hlocks hW hF dX3_copyFrom_52
  have hL7 : ∀ (fz7 : Nat) (σ : St) (u2 : Int32) (H : Heap) (locs : List Loc) (ls : Array Slot), Wd G g ad n a0 s.heap σ H locs → lv_has ls 3 [(0, .ref (ad (r0))), (1, .ref (ad (r1))), (2, .int u2)] → F_X3_copyFrom_L7 r0 r1 (F_X3_copyFrom_L52 r0 r1) fz7 σ u2 = some x → W p l e (headSpec zs_X3_copyFrom ({ frames := 0, cells := 0, slots := 0, locals := 0 } : Room)).room s m ([.ref (ad (r0)), .ref (ad (r1))] : List Value).toArray below meth c H locs 0 0 (MQ below (qV G g ad n a0 x) ([.ref (ad (r0)), .ref (ad (r1))] : List Value).toArray s 0 0 (fun q : Nat => a0 ≤ q)) (F0 m 7 ls []) := by
    intro fz7
    induction fz7 with
    | zero =>
      intro σ u2 H locs ls hW hl hF
      exact absurd hF (by simp [F_X3_copyFrom_L7])
    | succ fz7 ih =>
      have hB7 := ih
      intro σ u2 H locs ls hW hl hF
      unfold F_X3_copyFrom_L7 at hF
      refine lv_iload_n hx hb dX3_copyFrom_7 rfl (lv_at hl 2 rfl) ?_
      refine lv_aload_n hx hb dX3_copyFrom_8 rfl (lv_at hl 1 rfl) ?_
      refine r_get (C := RX3) (T := TX3) (N := 2) hx hb htA ia_X3 hown hK hW (r1) (by omega) (cE_k hr1.1) rfl 1 (by decide) (htA _ aw_0) rfl dX3_copyFrom_9 ?_
      refine lv_icmp_ge (tgt := 52) hx hb dX3_copyFrom_12 (by decide) (fun hc6 => ?_) (fun hc6 => ?_)
      · replace hF := (if_pos hc6).symm.trans hF
        exact hL52 σ _ _ _  hW (lv_sub hl [] rfl) hF
      · replace hF := (if_neg hc6).symm.trans hF
        refine lv_iload_n hx hb dX3_copyFrom_15 rfl (lv_at hl 2 rfl) ?_
        refine lv_aload_n hx hb dX3_copyFrom_16 rfl (lv_at hl 0 rfl) ?_
        refine r_get (C := RX3) (T := TX3) (N := 2) hx hb htA ia_X3 hown hK hW (r0) (by omega) (cE_k hr0.1) rfl 0 (by decide) (htA _ aw_1) rfl dX3_copyFrom_17 ?_
        refine r_ilen hx hb hK hW (r0 + 1) (by omega) hr0.2 dX3_copyFrom_20 ?_
        refine lv_icmp_ge (tgt := 52) hx hb dX3_copyFrom_21 (by decide) (fun hc7 => ?_) (fun hc7 => ?_)
        · replace hF := (if_pos hc7).symm.trans hF
          exact hL52 σ _ _ _  hW (lv_sub hl [] rfl) hF
        · replace hF := (if_neg hc7).symm.trans hF
          refine lv_aload_n hx hb dX3_copyFrom_24 rfl (lv_at hl 0 rfl) ?_
          refine r_get (C := RX3) (T := TX3) (N := 2) hx hb htA ia_X3 hown hK hW (r0) (by omega) (cE_k hr0.1) rfl 0 (by decide) (htA _ aw_1) rfl dX3_copyFrom_25 ?_
          refine lv_iload_n hx hb dX3_copyFrom_28 rfl (lv_at hl 2 rfl) ?_
          refine lv_aload_n hx hb dX3_copyFrom_29 rfl (lv_at hl 1 rfl) ?_
          refine r_get (C := RX3) (T := TX3) (N := 2) hx hb htA ia_X3 hown hK hW (r1) (by omega) (cE_k hr1.1) rfl 0 (by decide) (htA _ aw_1) rfl dX3_copyFrom_30 ?_
          refine lv_iload_n hx hb dX3_copyFrom_33 rfl (lv_at hl 2 rfl) ?_
          obtain ⟨hg8, hF⟩ := gd_some hF
          refine r_iald hx hb hK hW (r1 + 1) (by omega) hr1.2 hg8 dX3_copyFrom_34 ?_
          obtain ⟨hg9, hF⟩ := gd_some hF
          refine r_iast hx hb hK hW (r0 + 1) (by omega) hr0.2 hg9 dX3_copyFrom_35 (fun H locs hW => ?_)
          obtain ⟨w10, ew10, hF⟩ := nm_some hF
          rw [← ew10] at hW
          refine lv_aload_n hx hb dX3_copyFrom_36 rfl (lv_at hl 0 rfl) ?_
          refine lv_dup hx hb dX3_copyFrom_37 rfl ?_
          refine r_get (C := RX3) (T := TX3) (N := 2) hx hb htA ia_X3 hown hK hW (r0) (by omega) (cE_k hr0.1) rfl 1 (by decide) (htA _ aw_0) rfl dX3_copyFrom_38 ?_
          refine lv_iconst (v := 1) hx hb dX3_copyFrom_41 (by decide) ?_
          refine lv_iadd hx hb dX3_copyFrom_42 ?_
          refine r_putI (C := RX3) (T := TX3) (N := 2) (ty := .int) hx hb htA ia_X3 tyX3 tyX3_ok nmX3 hown hK hW (r0) (by omega) (cE_k hr0.1) rfl 1 (by decide) (cE_k hr0.1) (htA _ aw_0) rfl (by decide +kernel) rfl rfl (Nat.le_of_ble_eq_true rfl) dX3_copyFrom_43 (fun H locs hW => ?_)
          obtain ⟨w11, ew11, hF⟩ := nm_some hF
          rw [← ew11] at hW
          refine lv_iinc (v := (u2 + 1)) (lv' := [(2, .int (u2 + 1)), (0, .ref (ad (r0))), (1, .ref (ad (r1)))]) hx hb dX3_copyFrom_46 hl (k := 2) rfl rfl (by decide) rfl (fun ls hl => ?_)
          refine lv_goto (tgt := 7) hx hb dX3_copyFrom_49 (by decide) ?_
          exact hB7 w11 (u2 + 1) _ _ _  hW (lv_sub hl [1, 2, 0] rfl) hF
  have hL7 := hL7 fu
  have hl := lv_entry ([.ref (ad (r0)), .ref (ad (r1))]) (n := 3) (Nat.le_of_ble_eq_true rfl)
  rw [lg_entry_eq]
  generalize (lg_sl ([.ref (ad (r0)), .ref (ad (r1))]) ++ List.replicate (3 - (lg_sl ([.ref (ad (r0)), .ref (ad (r1))])).length) Slot.unset).toArray = ls at hl ⊢
  have hl : lv_has ls 3 [(0, .ref (ad (r0))), (1, .ref (ad (r1)))] := hl
  unfold F_X3_copyFrom at hF
  refine lv_aload_n hx hb dX3_copyFrom_0 rfl (lv_at hl 0 rfl) ?_
  refine lv_iconst (v := 0) hx hb dX3_copyFrom_1 (by decide) ?_
  refine r_putI (C := RX3) (T := TX3) (N := 2) (ty := .int) hx hb htA ia_X3 tyX3 tyX3_ok nmX3 hown hK hW (r0) (by omega) (cE_k hr0.1) rfl 1 (by decide) (cE_k hr0.1) (htA _ aw_0) rfl (by decide +kernel) rfl rfl (Nat.le_of_ble_eq_true rfl) dX3_copyFrom_2 (fun H locs hW => ?_)
  obtain ⟨w12, ew12, hF⟩ := nm_some hF
  rw [← ew12] at hW
  refine lv_iconst (v := 0) hx hb dX3_copyFrom_5 (by decide) ?_
  refine lv_istore_n (lv' := [(2, .int 0), (0, .ref (ad (r0))), (1, .ref (ad (r1)))]) hx hb dX3_copyFrom_6 rfl hl (by decide) rfl (fun ls hl => ?_)
  exact hL7 w12 0 _ _ _  hW (lv_sub hl [1, 2, 0] rfl) hF
def F_X3_join_L73 (r0 : Nat) (r1 : Nat) (σ : St) : Option (St) := some σ
def F_X3_join_L2 (r0 : Nat) (r1 : Nat) (K73 : St → Option (St)) : Nat → St → Int32 → Option (St)
  | 0, _, _ => none
  | fz + 1, σ, u2 => if (σ.1 (r1) 1) ≤ u2 then K73 σ else if (Int32.ofNat (ln (r0 + 1))) ≤ u2 then K73 σ else if (σ.1 (r0) 1) ≤ u2 then gd (ib u2 (ln (r1 + 1))) (gd (ib u2 (ln (r0 + 1))) (nm (sI σ (r0 + 1) (Int32.toNatClampNeg u2) (σ.1 (r1 + 1) (Int32.toNatClampNeg u2))) (fun w14 => nm (sI w14 (r0) 1 ((w14.1 (r0) 1) + 1)) (fun w15 => (F_X3_join_L2 r0 r1 K73 fz) w15 (u2 + 1))))) else gd (ib u2 (ln (r0 + 1))) (gd (ib u2 (ln (r1 + 1))) (gd (ib u2 (ln (r0 + 1))) (nm (sI σ (r0 + 1) (Int32.toNatClampNeg u2) ((σ.1 (r0 + 1) (Int32.toNatClampNeg u2)) ||| (σ.1 (r1 + 1) (Int32.toNatClampNeg u2)))) (fun w19 => (F_X3_join_L2 r0 r1 K73 fz) w19 (u2 + 1)))))
def F_X3_join (r0 : Nat) (r1 : Nat) (σ : St) : Option (St) := F_X3_join_L2 r0 r1 (F_X3_join_L73 r0 r1) fu σ 0
set_option maxHeartbeats 4000000 in
set_option maxRecDepth 100000 in
theorem m_X3_join (l : Launch) (G : va_G) (g : Nat → ClassId) (ad : Nat → Nat) (n a0 aM : Nat) (r0 : Nat) (r1 : Nat) (σ : St) (x : St) (hr0 : isRow r0) (tr0 : r0 + 1 < tp n) (hr1 : isRow r1) (tr1 : r1 + 1 < tp n) (hF : F_X3_join r0 r1 σ = some x) : Met l yX3_join zs_X3_join ({ frames := 0, cells := 0, slots := 0, locals := 0 } : Room) (va_Pc [.ref (ad (r0)), .ref (ad (r1))] (wP G g ad n a0 aM σ)) (qV G g ad n a0 x) 0 0 (fun q : Nat => a0 ≤ q) := by
  refine Met.ofW (cc := cX3_join) (maxL := 3) (ret := none) (by decide) rfl ?_
  intro p e s m args below meth c s₁ B hml hv
  obtain ⟨rfl, hP, hD, hK⟩ := hv
  have hx := B.exec
  have hb := B.bytes
  have hr := B.returns
  have htA : ∀ w ∈ AL, w.before _ s = true := fun w h9 => atoms_spec (ws := zs_X3_join) B.pre w (List.mem_cons_of_mem _ h9)
  have hown : s.vm.findClass RX3 = some m.cls := findClass_of_methodNamed B.named
  have hlocks := B.notSynchronized
  have hW : Wd G g ad n a0 s.heap σ s.heap [] := ⟨hP, hD, va_S.rf⟩
  clear hP hD
  have hL73 : ∀ (σ : St) (H : Heap) (locs : List Loc) (ls : Array Slot), Wd G g ad n a0 s.heap σ H locs → lv_has ls 3 [] → F_X3_join_L73 r0 r1  σ = some x → W p l e (headSpec zs_X3_join ({ frames := 0, cells := 0, slots := 0, locals := 0 } : Room)).room s m ([.ref (ad (r0)), .ref (ad (r1))] : List Value).toArray below meth c H locs 0 0 (MQ below (qV G g ad n a0 x) ([.ref (ad (r0)), .ref (ad (r1))] : List Value).toArray s 0 0 (fun q : Nat => a0 ≤ q)) (F0 m 73 ls []) := by
    intro σ H locs ls hW hl hF
    unfold F_X3_join_L73 at hF
    exact r_vret hx hb hr hlocks hW hF dX3_join_73
  have hL2 : ∀ (fz2 : Nat) (σ : St) (u2 : Int32) (H : Heap) (locs : List Loc) (ls : Array Slot), Wd G g ad n a0 s.heap σ H locs → lv_has ls 3 [(0, .ref (ad (r0))), (1, .ref (ad (r1))), (2, .int u2)] → F_X3_join_L2 r0 r1 (F_X3_join_L73 r0 r1) fz2 σ u2 = some x → W p l e (headSpec zs_X3_join ({ frames := 0, cells := 0, slots := 0, locals := 0 } : Room)).room s m ([.ref (ad (r0)), .ref (ad (r1))] : List Value).toArray below meth c H locs 0 0 (MQ below (qV G g ad n a0 x) ([.ref (ad (r0)), .ref (ad (r1))] : List Value).toArray s 0 0 (fun q : Nat => a0 ≤ q)) (F0 m 2 ls []) := by
    intro fz2
    induction fz2 with
    | zero =>
      intro σ u2 H locs ls hW hl hF
      exact absurd hF (by simp [F_X3_join_L2])
    | succ fz2 ih =>
      have hB2 := ih
      intro σ u2 H locs ls hW hl hF
      unfold F_X3_join_L2 at hF
      refine lv_iload_n hx hb dX3_join_2 rfl (lv_at hl 2 rfl) ?_
      refine lv_aload_n hx hb dX3_join_3 rfl (lv_at hl 1 rfl) ?_
      refine r_get (C := RX3) (T := TX3) (N := 2) hx hb htA ia_X3 hown hK hW (r1) (by omega) (cE_k hr1.1) rfl 1 (by decide) (htA _ aw_0) rfl dX3_join_4 ?_
      refine lv_icmp_ge (tgt := 73) hx hb dX3_join_7 (by decide) (fun hc9 => ?_) (fun hc9 => ?_)
      · replace hF := (if_pos hc9).symm.trans hF
        exact hL73 σ _ _ _  hW (lv_sub hl [] rfl) hF
      · replace hF := (if_neg hc9).symm.trans hF
        refine lv_iload_n hx hb dX3_join_10 rfl (lv_at hl 2 rfl) ?_
        refine lv_aload_n hx hb dX3_join_11 rfl (lv_at hl 0 rfl) ?_
        refine r_get (C := RX3) (T := TX3) (N := 2) hx hb htA ia_X3 hown hK hW (r0) (by omega) (cE_k hr0.1) rfl 0 (by decide) (htA _ aw_1) rfl dX3_join_12 ?_
        refine r_ilen hx hb hK hW (r0 + 1) (by omega) hr0.2 dX3_join_15 ?_
        refine lv_icmp_ge (tgt := 73) hx hb dX3_join_16 (by decide) (fun hc10 => ?_) (fun hc10 => ?_)
        · replace hF := (if_pos hc10).symm.trans hF
          exact hL73 σ _ _ _  hW (lv_sub hl [] rfl) hF
        · replace hF := (if_neg hc10).symm.trans hF
          refine lv_iload_n hx hb dX3_join_19 rfl (lv_at hl 2 rfl) ?_
          refine lv_aload_n hx hb dX3_join_20 rfl (lv_at hl 0 rfl) ?_
          refine r_get (C := RX3) (T := TX3) (N := 2) hx hb htA ia_X3 hown hK hW (r0) (by omega) (cE_k hr0.1) rfl 1 (by decide) (htA _ aw_0) rfl dX3_join_21 ?_
          refine lv_icmp_ge (tgt := 45) hx hb dX3_join_24 (by decide) (fun hc11 => ?_) (fun hc11 => ?_)
          · replace hF := (if_pos hc11).symm.trans hF
            refine lv_aload_n hx hb dX3_join_45 rfl (lv_at hl 0 rfl) ?_
            refine r_get (C := RX3) (T := TX3) (N := 2) hx hb htA ia_X3 hown hK hW (r0) (by omega) (cE_k hr0.1) rfl 0 (by decide) (htA _ aw_1) rfl dX3_join_46 ?_
            refine lv_iload_n hx hb dX3_join_49 rfl (lv_at hl 2 rfl) ?_
            refine lv_aload_n hx hb dX3_join_50 rfl (lv_at hl 1 rfl) ?_
            refine r_get (C := RX3) (T := TX3) (N := 2) hx hb htA ia_X3 hown hK hW (r1) (by omega) (cE_k hr1.1) rfl 0 (by decide) (htA _ aw_1) rfl dX3_join_51 ?_
            refine lv_iload_n hx hb dX3_join_54 rfl (lv_at hl 2 rfl) ?_
            obtain ⟨hg12, hF⟩ := gd_some hF
            refine r_iald hx hb hK hW (r1 + 1) (by omega) hr1.2 hg12 dX3_join_55 ?_
            obtain ⟨hg13, hF⟩ := gd_some hF
            refine r_iast hx hb hK hW (r0 + 1) (by omega) hr0.2 hg13 dX3_join_56 (fun H locs hW => ?_)
            obtain ⟨w14, ew14, hF⟩ := nm_some hF
            rw [← ew14] at hW
            refine lv_aload_n hx hb dX3_join_57 rfl (lv_at hl 0 rfl) ?_
            refine lv_dup hx hb dX3_join_58 rfl ?_
            refine r_get (C := RX3) (T := TX3) (N := 2) hx hb htA ia_X3 hown hK hW (r0) (by omega) (cE_k hr0.1) rfl 1 (by decide) (htA _ aw_0) rfl dX3_join_59 ?_
            refine lv_iconst (v := 1) hx hb dX3_join_62 (by decide) ?_
            refine lv_iadd hx hb dX3_join_63 ?_
            refine r_putI (C := RX3) (T := TX3) (N := 2) (ty := .int) hx hb htA ia_X3 tyX3 tyX3_ok nmX3 hown hK hW (r0) (by omega) (cE_k hr0.1) rfl 1 (by decide) (cE_k hr0.1) (htA _ aw_0) rfl (by decide +kernel) rfl rfl (Nat.le_of_ble_eq_true rfl) dX3_join_64 (fun H locs hW => ?_)
            obtain ⟨w15, ew15, hF⟩ := nm_some hF
            rw [← ew15] at hW
            refine lv_iinc (v := (u2 + 1)) (lv' := [(2, .int (u2 + 1)), (0, .ref (ad (r0))), (1, .ref (ad (r1)))]) hx hb dX3_join_67 hl (k := 2) rfl rfl (by decide) rfl (fun ls hl => ?_)
            refine lv_goto (tgt := 2) hx hb dX3_join_70 (by decide) ?_
            exact hB2 w15 (u2 + 1) _ _ _  hW (lv_sub hl [1, 2, 0] rfl) hF
          · replace hF := (if_neg hc11).symm.trans hF
            refine lv_aload_n hx hb dX3_join_27 rfl (lv_at hl 0 rfl) ?_
            refine r_get (C := RX3) (T := TX3) (N := 2) hx hb htA ia_X3 hown hK hW (r0) (by omega) (cE_k hr0.1) rfl 0 (by decide) (htA _ aw_1) rfl dX3_join_28 ?_
            refine lv_iload_n hx hb dX3_join_31 rfl (lv_at hl 2 rfl) ?_
            refine lv_dup2_11 hx hb dX3_join_32 rfl rfl ?_
            obtain ⟨hg16, hF⟩ := gd_some hF
            refine r_iald hx hb hK hW (r0 + 1) (by omega) hr0.2 hg16 dX3_join_33 ?_
            refine lv_aload_n hx hb dX3_join_34 rfl (lv_at hl 1 rfl) ?_
            refine r_get (C := RX3) (T := TX3) (N := 2) hx hb htA ia_X3 hown hK hW (r1) (by omega) (cE_k hr1.1) rfl 0 (by decide) (htA _ aw_1) rfl dX3_join_35 ?_
            refine lv_iload_n hx hb dX3_join_38 rfl (lv_at hl 2 rfl) ?_
            obtain ⟨hg17, hF⟩ := gd_some hF
            refine r_iald hx hb hK hW (r1 + 1) (by omega) hr1.2 hg17 dX3_join_39 ?_
            refine lv_ior hx hb dX3_join_40 ?_
            obtain ⟨hg18, hF⟩ := gd_some hF
            refine r_iast hx hb hK hW (r0 + 1) (by omega) hr0.2 hg18 dX3_join_41 (fun H locs hW => ?_)
            obtain ⟨w19, ew19, hF⟩ := nm_some hF
            rw [← ew19] at hW
            refine lv_goto (tgt := 67) hx hb dX3_join_42 (by decide) ?_
            refine lv_iinc (v := (u2 + 1)) (lv' := [(2, .int (u2 + 1)), (0, .ref (ad (r0))), (1, .ref (ad (r1)))]) hx hb dX3_join_67 hl (k := 2) rfl rfl (by decide) rfl (fun ls hl => ?_)
            refine lv_goto (tgt := 2) hx hb dX3_join_70 (by decide) ?_
            exact hB2 w19 (u2 + 1) _ _ _  hW (lv_sub hl [1, 2, 0] rfl) hF
  have hL2 := hL2 fu
  have hl := lv_entry ([.ref (ad (r0)), .ref (ad (r1))]) (n := 3) (Nat.le_of_ble_eq_true rfl)
  rw [lg_entry_eq]
  generalize (lg_sl ([.ref (ad (r0)), .ref (ad (r1))]) ++ List.replicate (3 - (lg_sl ([.ref (ad (r0)), .ref (ad (r1))])).length) Slot.unset).toArray = ls at hl ⊢
  have hl : lv_has ls 3 [(0, .ref (ad (r0))), (1, .ref (ad (r1)))] := hl
  unfold F_X3_join at hF
  refine lv_iconst (v := 0) hx hb dX3_join_0 (by decide) ?_
  refine lv_istore_n (lv' := [(2, .int 0), (0, .ref (ad (r0))), (1, .ref (ad (r1)))]) hx hb dX3_join_1 rfl hl (by decide) rfl (fun ls hl => ?_)
  exact hL2 σ 0 _ _ _  hW (lv_sub hl [1, 2, 0] rfl) hF
def F_X3_flip (r0 : Nat) (σ : St) (x1 : Int32) (x2 : Int32) : Option (St) := if x1 < 0 then some σ else if (σ.1 (r0) 1) ≤ x1 then some σ else gd (ib x1 (ln (r0 + 1))) (gd (ib x1 (ln (r0 + 1))) (nm (sI σ (r0 + 1) (Int32.toNatClampNeg x1) ((σ.1 (r0 + 1) (Int32.toNatClampNeg x1)) ^^^ (x2 &&& 255))) (fun w8 => some w8)))
set_option maxHeartbeats 4000000 in
set_option maxRecDepth 100000 in
theorem m_X3_flip (l : Launch) (G : va_G) (g : Nat → ClassId) (ad : Nat → Nat) (n a0 aM : Nat) (r0 : Nat) (σ : St) (x1 : Int32) (x2 : Int32) (x : St) (hr0 : isRow r0) (tr0 : r0 + 1 < tp n) (hF : F_X3_flip r0 σ x1 x2 = some x) : Met l yX3_flip zs_X3_flip ({ frames := 0, cells := 0, slots := 0, locals := 0 } : Room) (va_Pc [.ref (ad (r0)), .int x1, .int x2] (wP G g ad n a0 aM σ)) (qV G g ad n a0 x) 0 0 (fun q : Nat => a0 ≤ q) := by
  refine Met.ofW (cc := cX3_flip) (maxL := 3) (ret := none) (by decide) rfl ?_
  intro p e s m args below meth c s₁ B hml hv
  obtain ⟨rfl, hP, hD, hK⟩ := hv
  have hx := B.exec
  have hb := B.bytes
  have hr := B.returns
  have htA : ∀ w ∈ AL, w.before _ s = true := fun w h9 => atoms_spec (ws := zs_X3_flip) B.pre w (List.mem_cons_of_mem _ h9)
  have hown : s.vm.findClass RX3 = some m.cls := findClass_of_methodNamed B.named
  have hlocks := B.notSynchronized
  have hW : Wd G g ad n a0 s.heap σ s.heap [] := ⟨hP, hD, va_S.rf⟩
  clear hP hD
  have hl := lv_entry ([.ref (ad (r0)), .int x1, .int x2]) (n := 3) (Nat.le_of_ble_eq_true rfl)
  rw [lg_entry_eq]
  generalize (lg_sl ([.ref (ad (r0)), .int x1, .int x2]) ++ List.replicate (3 - (lg_sl ([.ref (ad (r0)), .int x1, .int x2])).length) Slot.unset).toArray = ls at hl ⊢
  have hl : lv_has ls 3 [(0, .ref (ad (r0))), (1, .int x1), (2, .int x2)] := hl
  unfold F_X3_flip at hF
  refine lv_iload_n hx hb dX3_flip_0 rfl (lv_at hl 1 rfl) ?_
  refine lv_if_lt (tgt := 26) hx hb dX3_flip_1 (by decide) (fun hc4 => ?_) (fun hc4 => ?_)
  · replace hF := (if_pos hc4).symm.trans hF
    exact r_vret hx hb hr hlocks hW hF dX3_flip_26
  · replace hF := (if_neg hc4).symm.trans hF
    refine lv_iload_n hx hb dX3_flip_4 rfl (lv_at hl 1 rfl) ?_
    refine lv_aload_n hx hb dX3_flip_5 rfl (lv_at hl 0 rfl) ?_
    refine r_get (C := RX3) (T := TX3) (N := 2) hx hb htA ia_X3 hown hK hW (r0) (by omega) (cE_k hr0.1) rfl 1 (by decide) (htA _ aw_0) rfl dX3_flip_6 ?_
    refine lv_icmp_ge (tgt := 26) hx hb dX3_flip_9 (by decide) (fun hc5 => ?_) (fun hc5 => ?_)
    · replace hF := (if_pos hc5).symm.trans hF
      exact r_vret hx hb hr hlocks hW hF dX3_flip_26
    · replace hF := (if_neg hc5).symm.trans hF
      refine lv_aload_n hx hb dX3_flip_12 rfl (lv_at hl 0 rfl) ?_
      refine r_get (C := RX3) (T := TX3) (N := 2) hx hb htA ia_X3 hown hK hW (r0) (by omega) (cE_k hr0.1) rfl 0 (by decide) (htA _ aw_1) rfl dX3_flip_13 ?_
      refine lv_iload_n hx hb dX3_flip_16 rfl (lv_at hl 1 rfl) ?_
      refine lv_dup2_11 hx hb dX3_flip_17 rfl rfl ?_
      obtain ⟨hg6, hF⟩ := gd_some hF
      refine r_iald hx hb hK hW (r0 + 1) (by omega) hr0.2 hg6 dX3_flip_18 ?_
      refine lv_iload_n hx hb dX3_flip_19 rfl (lv_at hl 2 rfl) ?_
      refine lv_sipush (v := 255) hx hb dX3_flip_20 (by decide) ?_
      refine lv_iand hx hb dX3_flip_23 ?_
      refine lv_ixor hx hb dX3_flip_24 ?_
      obtain ⟨hg7, hF⟩ := gd_some hF
      refine r_iast hx hb hK hW (r0 + 1) (by omega) hr0.2 hg7 dX3_flip_25 (fun H locs hW => ?_)
      obtain ⟨w8, ew8, hF⟩ := nm_some hF
      rw [← ew8] at hW
      exact r_vret hx hb hr hlocks hW hF dX3_flip_26
