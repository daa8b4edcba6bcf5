def F_X7_begin_L49 (σ : St) (u1 : Int32) (u2 : Int32) (u3 : Int32) (u4 : Int32) : Option (St) := (F_X7_ownId σ u1).bind (fun y18 => (F_X7_putId y18.1 y18.2).bind (fun y19 => (F_X7_at y19 15).bind (fun y20 => (F_X7_put y20.1 y20.2).bind (fun y21 => (F_X7_put y21 u2).bind (fun y22 => (F_X7_put y22 0).bind (fun y23 => (F_X7_two y23 18).bind (fun y24 => (F_X7_putTwo y24.1 y24.2).bind (fun y25 => (F_X7_put y25 u3).bind (fun y26 => (F_X7_putTwo y26 u4).bind (fun y27 => (F_X7_put y27 0).bind (fun y28 => some y28)))))))))))
def F_X7_begin_L26 (K49 : St → Int32 → Int32 → Int32 → Int32 → Option (St)) : Nat → St → Int32 → Int32 → Int32 → Int32 → Int32 → Option (St)
  | 0, _, _, _, _, _, _ => none
  | fz + 1, σ, u1, u2, u3, u4, u5 => if 15 ≤ u5 then K49 σ u1 u2 u3 u4 else (F_X7_at σ u5).bind (fun y30 => (F_X7_put y30.1 y30.2).bind (fun y31 => (F_X7_begin_L26 K49 fz) y31 u1 u2 u3 u4 (u5 + 1)))
def F_X7_begin (σ : St) (x1 : Int32) (x2 : Int32) (x3 : Int32) (x4 : Int32) : Option (St) := nm (sI σ (27) 27 0) (fun w32 => (F_X7_put w32 204).bind (fun y33 => (F_X7_put y33 1).bind (fun y34 => (F_X7_put y34 0).bind (fun y35 => F_X7_begin_L26 F_X7_begin_L49 fu y35 x1 x2 x3 x4 9))))
set_option maxHeartbeats 4000000 in
set_option maxRecDepth 100000 in
theorem m_X7_begin (l : Launch) (G : va_G) (g : Nat → ClassId) (ad : Nat → Nat) (n a0 aM : Nat) (σ : St) (x1 : Int32) (x2 : Int32) (x3 : Int32) (x4 : Int32) (x : St) (hF : F_X7_begin σ x1 x2 x3 x4 = some x) : Met l yX7_begin zs_X7_begin ({ frames := 2, cells := 0, slots := 0, locals := 44 } : Room) (va_Pc [.ref (ad (27)), .int x1, .int x2, .int x3, .int x4] (wP G g ad n a0 aM σ)) (qV G g ad n a0 x) 0 0 (fun q : Nat => a0 ≤ q) := by
  refine Met.ofW (cc := cX7_begin) (maxL := 6) (ret := none) (by decide) rfl ?_
  intro p e s m args below meth c s₁ B hml hv
  obtain ⟨rfl, hP, hD, hK⟩ := hv
  have hx := B.exec
  have hb := B.bytes
  have hr := B.returns
  have htA : ∀ w ∈ AL, w.before _ s = true := fun w h9 => atoms_spec (ws := zs_X7_begin) B.pre w (List.mem_cons_of_mem _ h9)
  have hown : s.vm.findClass RX7 = some m.cls := findClass_of_methodNamed B.named
  have hlocks := B.notSynchronized
  have hW : Wd G g ad n a0 s.heap σ s.heap [] := ⟨hP, hD, va_S.rf⟩
  clear hP hD
  have hL49 : ∀ (σ : St) (u1 : Int32) (u2 : Int32) (u3 : Int32) (u4 : Int32) (H : Heap) (locs : List Loc) (ls : Array Slot), Wd G g ad n a0 s.heap σ H locs → lv_has ls 6 [(0, .ref (ad (27))), (1, .int u1), (2, .int u2), (3, .int u3), (4, .int u4)] → F_X7_begin_L49  σ u1 u2 u3 u4 = some x → W p l e (headSpec zs_X7_begin ({ frames := 2, cells := 0, slots := 0, locals := 44 } : Room)).room s m ([.ref (ad (27)), .int x1, .int x2, .int x3, .int x4] : List Value).toArray below meth c H locs 0 0 (MQ below (qV G g ad n a0 x) ([.ref (ad (27)), .int x1, .int x2, .int x3, .int x4] : List Value).toArray s 0 0 (fun q : Nat => a0 ≤ q)) (F0 m 49 ls []) := by
    intro σ u1 u2 u3 u4 H locs ls hW hl hF
    unfold F_X7_begin_L49 at hF
    refine lv_aload_n hx hb dX7_begin_49 rfl (lv_at hl 0 rfl) ?_
    refine lv_aload_n hx hb dX7_begin_50 rfl (lv_at hl 0 rfl) ?_
    refine lv_iload_n hx hb dX7_begin_51 rfl (lv_at hl 1 rfl) ?_
    obtain ⟨y18, hy18, hF⟩ := bd_some hF
    refine r_bl (va_runV (As := [.int u1]) (rest := [.ref (ad (27))]) ⟨hx, hb, hml, hown, htA⟩ (m_X7_ownId l G g ad n a0 aM σ u1 y18  hy18) (cwV 1 htA (gV aw_419 aw_420 aw_421 aw_382 gz_X7_ownId) rfl rfl rfl (by decide +kernel) ⟨Nat.le_of_ble_eq_true rfl, Nat.le_of_ble_eq_true rfl⟩) (r_preV hK hW (27) (tp_lt (by decide)) (cE_k (rfl : kd 27 = 9)) rfl [.int u1]) rfl rfl hl.1 rfl (lv_room (Nat.le_of_ble_eq_true rfl)) dX7_begin_52 ⟨Nat.zero_le _, Nat.zero_le _⟩) hW (fun H locs hW => ?_)
    obtain ⟨y19, hy19, hF⟩ := bd_some hF
    refine r_bv (va_runV (As := [.long y18.2]) (rest := []) ⟨hx, hb, hml, hown, htA⟩ (m_X7_putId l G g ad n a0 aM y18.1 y18.2 y19  hy19) (cwV 1 htA (gV aw_423 aw_424 aw_425 aw_382 gz_X7_putId) rfl rfl rfl (by decide +kernel) ⟨Nat.le_of_ble_eq_true rfl, Nat.le_of_ble_eq_true rfl⟩) (r_preV hK hW (27) (tp_lt (by decide)) (cE_k (rfl : kd 27 = 9)) rfl [.long y18.2]) rfl rfl hl.1 rfl (lv_room (Nat.le_of_ble_eq_true rfl)) dX7_begin_55 ⟨Nat.zero_le _, Nat.zero_le _⟩) hW (fun H locs hW => ?_)
    refine lv_aload_n hx hb dX7_begin_58 rfl (lv_at hl 0 rfl) ?_
    refine lv_aload_n hx hb dX7_begin_59 rfl (lv_at hl 0 rfl) ?_
    refine lv_bipush (v := 15) hx hb dX7_begin_60 (by decide) ?_
    obtain ⟨y20, hy20, hF⟩ := bd_some hF
    refine r_bi (va_runV (As := [.int 15]) (rest := [.ref (ad (27))]) ⟨hx, hb, hml, hown, htA⟩ (m_X7_at l G g ad n a0 aM y19 15 y20  hy20) (cwV 1 htA (gV aw_398 aw_399 aw_400 aw_382 gz_X7_at) rfl rfl rfl (by decide +kernel) ⟨Nat.le_of_ble_eq_true rfl, Nat.le_of_ble_eq_true rfl⟩) (r_preV hK hW (27) (tp_lt (by decide)) (cE_k (rfl : kd 27 = 9)) rfl [.int 15]) rfl rfl hl.1 rfl (lv_room (Nat.le_of_ble_eq_true rfl)) dX7_begin_62 ⟨Nat.zero_le _, Nat.zero_le _⟩) hW (fun H locs hW => ?_)
    obtain ⟨y21, hy21, hF⟩ := bd_some hF
    refine r_bv (va_runV (As := [.int y20.2]) (rest := []) ⟨hx, hb, hml, hown, htA⟩ (m_X7_put l G g ad n a0 aM y20.1 y20.2 y21  hy21) (cwV 1 htA (gV aw_415 aw_416 aw_417 aw_382 gz_X7_put) rfl rfl rfl (by decide +kernel) ⟨Nat.le_of_ble_eq_true rfl, Nat.le_of_ble_eq_true rfl⟩) (r_preV hK hW (27) (tp_lt (by decide)) (cE_k (rfl : kd 27 = 9)) rfl [.int y20.2]) rfl rfl hl.1 rfl (lv_room (Nat.le_of_ble_eq_true rfl)) dX7_begin_65 ⟨Nat.zero_le _, Nat.zero_le _⟩) hW (fun H locs hW => ?_)
    refine lv_aload_n hx hb dX7_begin_68 rfl (lv_at hl 0 rfl) ?_
    refine lv_iload_n hx hb dX7_begin_69 rfl (lv_at hl 2 rfl) ?_
    obtain ⟨y22, hy22, hF⟩ := bd_some hF
    refine r_bv (va_runV (As := [.int u2]) (rest := []) ⟨hx, hb, hml, hown, htA⟩ (m_X7_put l G g ad n a0 aM y21 u2 y22  hy22) (cwV 1 htA (gV aw_415 aw_416 aw_417 aw_382 gz_X7_put) rfl rfl rfl (by decide +kernel) ⟨Nat.le_of_ble_eq_true rfl, Nat.le_of_ble_eq_true rfl⟩) (r_preV hK hW (27) (tp_lt (by decide)) (cE_k (rfl : kd 27 = 9)) rfl [.int u2]) rfl rfl hl.1 rfl (lv_room (Nat.le_of_ble_eq_true rfl)) dX7_begin_70 ⟨Nat.zero_le _, Nat.zero_le _⟩) hW (fun H locs hW => ?_)
    refine lv_aload_n hx hb dX7_begin_73 rfl (lv_at hl 0 rfl) ?_
    refine lv_iconst (v := 0) hx hb dX7_begin_74 (by decide) ?_
    obtain ⟨y23, hy23, hF⟩ := bd_some hF
    refine r_bv (va_runV (As := [.int 0]) (rest := []) ⟨hx, hb, hml, hown, htA⟩ (m_X7_put l G g ad n a0 aM y22 0 y23  hy23) (cwV 1 htA (gV aw_415 aw_416 aw_417 aw_382 gz_X7_put) rfl rfl rfl (by decide +kernel) ⟨Nat.le_of_ble_eq_true rfl, Nat.le_of_ble_eq_true rfl⟩) (r_preV hK hW (27) (tp_lt (by decide)) (cE_k (rfl : kd 27 = 9)) rfl [.int 0]) rfl rfl hl.1 rfl (lv_room (Nat.le_of_ble_eq_true rfl)) dX7_begin_75 ⟨Nat.zero_le _, Nat.zero_le _⟩) hW (fun H locs hW => ?_)
    refine lv_aload_n hx hb dX7_begin_78 rfl (lv_at hl 0 rfl) ?_
    refine lv_aload_n hx hb dX7_begin_79 rfl (lv_at hl 0 rfl) ?_
    refine lv_bipush (v := 18) hx hb dX7_begin_80 (by decide) ?_
    obtain ⟨y24, hy24, hF⟩ := bd_some hF
    refine r_bi (va_runV (As := [.int 18]) (rest := [.ref (ad (27))]) ⟨hx, hb, hml, hown, htA⟩ (m_X7_two l G g ad n a0 aM y23 18 y24  hy24) (cwV 1 htA (gV aw_410 aw_411 aw_412 aw_382 gz_X7_two) rfl rfl rfl (by decide +kernel) ⟨Nat.le_of_ble_eq_true rfl, Nat.le_of_ble_eq_true rfl⟩) (r_preV hK hW (27) (tp_lt (by decide)) (cE_k (rfl : kd 27 = 9)) rfl [.int 18]) rfl rfl hl.1 rfl (lv_room (Nat.le_of_ble_eq_true rfl)) dX7_begin_82 ⟨Nat.zero_le _, Nat.zero_le _⟩) hW (fun H locs hW => ?_)
    obtain ⟨y25, hy25, hF⟩ := bd_some hF
    refine r_bv (va_runV (As := [.int y24.2]) (rest := []) ⟨hx, hb, hml, hown, htA⟩ (m_X7_putTwo l G g ad n a0 aM y24.1 y24.2 y25  hy25) (cwV 1 htA (gV aw_427 aw_428 aw_429 aw_382 gz_X7_putTwo) rfl rfl rfl (by decide +kernel) ⟨Nat.le_of_ble_eq_true rfl, Nat.le_of_ble_eq_true rfl⟩) (r_preV hK hW (27) (tp_lt (by decide)) (cE_k (rfl : kd 27 = 9)) rfl [.int y24.2]) rfl rfl hl.1 rfl (lv_room (Nat.le_of_ble_eq_true rfl)) dX7_begin_85 ⟨Nat.zero_le _, Nat.zero_le _⟩) hW (fun H locs hW => ?_)
    refine lv_aload_n hx hb dX7_begin_88 rfl (lv_at hl 0 rfl) ?_
    refine lv_iload_n hx hb dX7_begin_89 rfl (lv_at hl 3 rfl) ?_
    obtain ⟨y26, hy26, hF⟩ := bd_some hF
    refine r_bv (va_runV (As := [.int u3]) (rest := []) ⟨hx, hb, hml, hown, htA⟩ (m_X7_put l G g ad n a0 aM y25 u3 y26  hy26) (cwV 1 htA (gV aw_415 aw_416 aw_417 aw_382 gz_X7_put) rfl rfl rfl (by decide +kernel) ⟨Nat.le_of_ble_eq_true rfl, Nat.le_of_ble_eq_true rfl⟩) (r_preV hK hW (27) (tp_lt (by decide)) (cE_k (rfl : kd 27 = 9)) rfl [.int u3]) rfl rfl hl.1 rfl (lv_room (Nat.le_of_ble_eq_true rfl)) dX7_begin_90 ⟨Nat.zero_le _, Nat.zero_le _⟩) hW (fun H locs hW => ?_)
    refine lv_aload_n hx hb dX7_begin_93 rfl (lv_at hl 0 rfl) ?_
    refine lv_iload hx hb dX7_begin_94 (lv_at hl 4 rfl) ?_
    obtain ⟨y27, hy27, hF⟩ := bd_some hF
    refine r_bv (va_runV (As := [.int u4]) (rest := []) ⟨hx, hb, hml, hown, htA⟩ (m_X7_putTwo l G g ad n a0 aM y26 u4 y27  hy27) (cwV 1 htA (gV aw_427 aw_428 aw_429 aw_382 gz_X7_putTwo) rfl rfl rfl (by decide +kernel) ⟨Nat.le_of_ble_eq_true rfl, Nat.le_of_ble_eq_true rfl⟩) (r_preV hK hW (27) (tp_lt (by decide)) (cE_k (rfl : kd 27 = 9)) rfl [.int u4]) rfl rfl hl.1 rfl (lv_room (Nat.le_of_ble_eq_true rfl)) dX7_begin_96 ⟨Nat.zero_le _, Nat.zero_le _⟩) hW (fun H locs hW => ?_)
    refine lv_aload_n hx hb dX7_begin_99 rfl (lv_at hl 0 rfl) ?_
    refine lv_iconst (v := 0) hx hb dX7_begin_100 (by decide) ?_
    obtain ⟨y28, hy28, hF⟩ := bd_some hF
    refine r_bv (va_runV (As := [.int 0]) (rest := []) ⟨hx, hb, hml, hown, htA⟩ (m_X7_put l G g ad n a0 aM y27 0 y28  hy28) (cwV 1 htA (gV aw_415 aw_416 aw_417 aw_382 gz_X7_put) rfl rfl rfl (by decide +kernel) ⟨Nat.le_of_ble_eq_true rfl, Nat.le_of_ble_eq_true rfl⟩) (r_preV hK hW (27) (tp_lt (by decide)) (cE_k (rfl : kd 27 = 9)) rfl [.int 0]) rfl rfl hl.1 rfl (lv_room (Nat.le_of_ble_eq_true rfl)) dX7_begin_101 ⟨Nat.zero_le _, Nat.zero_le _⟩) hW (fun H locs hW => ?_)
    exact r_vret hx hb hr hlocks hW hF dX7_begin_104
  have hL26 : ∀ (fz26 : Nat) (σ : St) (u1 : Int32) (u2 : Int32) (u3 : Int32) (u4 : Int32) (u5 : Int32) (H : Heap) (locs : List Loc) (ls : Array Slot), Wd G g ad n a0 s.heap σ H locs → lv_has ls 6 [(0, .ref (ad (27))), (1, .int u1), (2, .int u2), (3, .int u3), (4, .int u4), (5, .int u5)] → F_X7_begin_L26 (F_X7_begin_L49) fz26 σ u1 u2 u3 u4 u5 = some x → W p l e (headSpec zs_X7_begin ({ frames := 2, cells := 0, slots := 0, locals := 44 } : Room)).room s m ([.ref (ad (27)), .int x1, .int x2, .int x3, .int x4] : List Value).toArray below meth c H locs 0 0 (MQ below (qV G g ad n a0 x) ([.ref (ad (27)), .int x1, .int x2, .int x3, .int x4] : List Value).toArray s 0 0 (fun q : Nat => a0 ≤ q)) (F0 m 26 ls []) := by
    intro fz26
    induction fz26 with
    | zero =>
      intro σ u1 u2 u3 u4 u5 H locs ls hW hl hF
      exact absurd hF (by simp [F_X7_begin_L26])
    | succ fz26 ih =>
      have hB26 := ih
      intro σ u1 u2 u3 u4 u5 H locs ls hW hl hF
      unfold F_X7_begin_L26 at hF
      refine lv_iload hx hb dX7_begin_26 (lv_at hl 5 rfl) ?_
      refine lv_bipush (v := 15) hx hb dX7_begin_28 (by decide) ?_
      refine lv_icmp_ge (tgt := 49) hx hb dX7_begin_30 (by decide) (fun hc29 => ?_) (fun hc29 => ?_)
      · replace hF := (if_pos hc29).symm.trans hF
        exact hL49 σ u1 u2 u3 u4 _ _ _  hW (lv_sub hl [0, 1, 2, 3, 4] rfl) hF
      · replace hF := (if_neg hc29).symm.trans hF
        refine lv_aload_n hx hb dX7_begin_33 rfl (lv_at hl 0 rfl) ?_
        refine lv_aload_n hx hb dX7_begin_34 rfl (lv_at hl 0 rfl) ?_
        refine lv_iload hx hb dX7_begin_35 (lv_at hl 5 rfl) ?_
        obtain ⟨y30, hy30, hF⟩ := bd_some hF
        refine r_bi (va_runV (As := [.int u5]) (rest := [.ref (ad (27))]) ⟨hx, hb, hml, hown, htA⟩ (m_X7_at l G g ad n a0 aM σ u5 y30  hy30) (cwV 1 htA (gV aw_398 aw_399 aw_400 aw_382 gz_X7_at) rfl rfl rfl (by decide +kernel) ⟨Nat.le_of_ble_eq_true rfl, Nat.le_of_ble_eq_true rfl⟩) (r_preV hK hW (27) (tp_lt (by decide)) (cE_k (rfl : kd 27 = 9)) rfl [.int u5]) rfl rfl hl.1 rfl (lv_room (Nat.le_of_ble_eq_true rfl)) dX7_begin_37 ⟨Nat.zero_le _, Nat.zero_le _⟩) hW (fun H locs hW => ?_)
        obtain ⟨y31, hy31, hF⟩ := bd_some hF
        refine r_bv (va_runV (As := [.int y30.2]) (rest := []) ⟨hx, hb, hml, hown, htA⟩ (m_X7_put l G g ad n a0 aM y30.1 y30.2 y31  hy31) (cwV 1 htA (gV aw_415 aw_416 aw_417 aw_382 gz_X7_put) rfl rfl rfl (by decide +kernel) ⟨Nat.le_of_ble_eq_true rfl, Nat.le_of_ble_eq_true rfl⟩) (r_preV hK hW (27) (tp_lt (by decide)) (cE_k (rfl : kd 27 = 9)) rfl [.int y30.2]) rfl rfl hl.1 rfl (lv_room (Nat.le_of_ble_eq_true rfl)) dX7_begin_40 ⟨Nat.zero_le _, Nat.zero_le _⟩) hW (fun H locs hW => ?_)
        refine lv_iinc (v := (u5 + 1)) (lv' := [(5, .int (u5 + 1)), (0, .ref (ad (27))), (1, .int u1), (2, .int u2), (3, .int u3), (4, .int u4)]) hx hb dX7_begin_43 hl (k := 5) rfl rfl (by decide) rfl (fun ls hl => ?_)
        refine lv_goto (tgt := 26) hx hb dX7_begin_46 (by decide) ?_
        exact hB26 y31 u1 u2 u3 u4 (u5 + 1) _ _ _  hW (lv_sub hl [1, 2, 3, 4, 5, 0] rfl) hF
  have hL26 := hL26 fu
  have hl := lv_entry ([.ref (ad (27)), .int x1, .int x2, .int x3, .int x4]) (n := 6) (Nat.le_of_ble_eq_true rfl)
  rw [lg_entry_eq]
  generalize (lg_sl ([.ref (ad (27)), .int x1, .int x2, .int x3, .int x4]) ++ List.replicate (6 - (lg_sl ([.ref (ad (27)), .int x1, .int x2, .int x3, .int x4])).length) Slot.unset).toArray = ls at hl ⊢
  have hl : lv_has ls 6 [(0, .ref (ad (27))), (1, .int x1), (2, .int x2), (3, .int x3), (4, .int x4)] := hl
  unfold F_X7_begin at hF
  refine lv_aload_n hx hb dX7_begin_0 rfl (lv_at hl 0 rfl) ?_
  refine lv_iconst (v := 0) hx hb dX7_begin_1 (by decide) ?_
  refine r_putI (C := RX7) (T := TX7) (N := 39) (ty := .int) hx hb htA ia_X7 tyX7 tyX7_ok nmX7 hown hK hW (27) (tp_lt (by decide)) (cE_k (rfl : kd 27 = 9)) rfl 27 (by decide) (cE_k (rfl : kd 27 = 9)) (htA _ aw_414) rfl (by decide +kernel) rfl rfl (Nat.le_of_ble_eq_true rfl) dX7_begin_2 (fun H locs hW => ?_)
  obtain ⟨w32, ew32, hF⟩ := nm_some hF
  rw [← ew32] at hW
  refine lv_aload_n hx hb dX7_begin_5 rfl (lv_at hl 0 rfl) ?_
  refine lv_sipush (v := 204) hx hb dX7_begin_6 (by decide) ?_
  obtain ⟨y33, hy33, hF⟩ := bd_some hF
  refine r_bv (va_runV (As := [.int 204]) (rest := []) ⟨hx, hb, hml, hown, htA⟩ (m_X7_put l G g ad n a0 aM w32 204 y33  hy33) (cwV 1 htA (gV aw_415 aw_416 aw_417 aw_382 gz_X7_put) rfl rfl rfl (by decide +kernel) ⟨Nat.le_of_ble_eq_true rfl, Nat.le_of_ble_eq_true rfl⟩) (r_preV hK hW (27) (tp_lt (by decide)) (cE_k (rfl : kd 27 = 9)) rfl [.int 204]) rfl rfl hl.1 rfl (lv_room (Nat.le_of_ble_eq_true rfl)) dX7_begin_9 ⟨Nat.zero_le _, Nat.zero_le _⟩) hW (fun H locs hW => ?_)
  refine lv_aload_n hx hb dX7_begin_12 rfl (lv_at hl 0 rfl) ?_
  refine lv_iconst (v := 1) hx hb dX7_begin_13 (by decide) ?_
  obtain ⟨y34, hy34, hF⟩ := bd_some hF
  refine r_bv (va_runV (As := [.int 1]) (rest := []) ⟨hx, hb, hml, hown, htA⟩ (m_X7_put l G g ad n a0 aM y33 1 y34  hy34) (cwV 1 htA (gV aw_415 aw_416 aw_417 aw_382 gz_X7_put) rfl rfl rfl (by decide +kernel) ⟨Nat.le_of_ble_eq_true rfl, Nat.le_of_ble_eq_true rfl⟩) (r_preV hK hW (27) (tp_lt (by decide)) (cE_k (rfl : kd 27 = 9)) rfl [.int 1]) rfl rfl hl.1 rfl (lv_room (Nat.le_of_ble_eq_true rfl)) dX7_begin_14 ⟨Nat.zero_le _, Nat.zero_le _⟩) hW (fun H locs hW => ?_)
  refine lv_aload_n hx hb dX7_begin_17 rfl (lv_at hl 0 rfl) ?_
  refine lv_iconst (v := 0) hx hb dX7_begin_18 (by decide) ?_
  obtain ⟨y35, hy35, hF⟩ := bd_some hF
  refine r_bv (va_runV (As := [.int 0]) (rest := []) ⟨hx, hb, hml, hown, htA⟩ (m_X7_put l G g ad n a0 aM y34 0 y35  hy35) (cwV 1 htA (gV aw_415 aw_416 aw_417 aw_382 gz_X7_put) rfl rfl rfl (by decide +kernel) ⟨Nat.le_of_ble_eq_true rfl, Nat.le_of_ble_eq_true rfl⟩) (r_preV hK hW (27) (tp_lt (by decide)) (cE_k (rfl : kd 27 = 9)) rfl [.int 0]) rfl rfl hl.1 rfl (lv_room (Nat.le_of_ble_eq_true rfl)) dX7_begin_19 ⟨Nat.zero_le _, Nat.zero_le _⟩) hW (fun H locs hW => ?_)
  refine lv_bipush (v := 9) hx hb dX7_begin_22 (by decide) ?_
  refine lv_istore (lv' := [(5, .int 9), (0, .ref (ad (27))), (1, .int x1), (2, .int x2), (3, .int x3), (4, .int x4)]) hx hb dX7_begin_24 hl (by decide) rfl (fun ls hl => ?_)
  exact hL26 y35 x1 x2 x3 x4 9 _ _ _  hW (lv_sub hl [1, 2, 3, 4, 5, 0] rfl) hF
def F_X7_finish_L70 (σ : St) (u2 : Int32) : Option (St) := (F_X7_putTwo σ u2).bind (fun y10 => some y10)
def F_X7_finish_L43 (K70 : St → Int32 → Option (St)) : Nat → St → Int32 → Int32 → Option (St)
  | 0, _, _, _ => none
  | fz + 1, σ, u2, u3 => if (σ.1 (27) 27) ≤ u3 then K70 σ u2 else gd (ib u3 (ln (48))) ((F_X7_finish_L43 K70 fz) σ (u2 + ((σ.1 (48) (Int32.toNatClampNeg u3)) &&& 255)) (u3 + 1))
def F_X7_finish (σ : St) (x1 : Int32) : Option (St) := (F_X7_waiting σ x1).bind (fun y13 => gd (ib 17 (ln (48))) (nm (sI y13.1 (48) (Int32.toNatClampNeg 17) (vp_nar .byte (Int8.toInt32 (Int32.toInt8 y13.2)))) (fun w15 => gd (ib 2 (ln (48))) (nm (sI w15 (48) (Int32.toNatClampNeg 2) (vp_nar .byte (Int8.toInt32 (Int32.toInt8 (w15.1 (27) 27))))) (fun w17 => gd (ib 23 (ln (48))) (nm (sI w17 (48) (Int32.toNatClampNeg 23) (vp_nar .byte (Int8.toInt32 (Int32.toInt8 ((w17.1 (27) 27) - 24))))) (fun w19 => F_X7_finish_L43 F_X7_finish_L70 fu w19 0 0)))))))
set_option maxHeartbeats 4000000 in
set_option maxRecDepth 100000 in
theorem m_X7_finish (l : Launch) (G : va_G) (g : Nat → ClassId) (ad : Nat → Nat) (n a0 aM : Nat) (σ : St) (x1 : Int32) (x : St) (hF : F_X7_finish σ x1 = some x) : Met l yX7_finish zs_X7_finish ({ frames := 2, cells := 0, slots := 0, locals := 42 } : Room) (va_Pc [.ref (ad (27)), .int x1] (wP G g ad n a0 aM σ)) (qV G g ad n a0 x) 0 0 (fun q : Nat => a0 ≤ q) := by
  refine Met.ofW (cc := cX7_finish) (maxL := 4) (ret := none) (by decide) rfl ?_
  intro p e s m args below meth c s₁ B hml hv
  obtain ⟨rfl, hP, hD, hK⟩ := hv
  have hx := B.exec
  have hb := B.bytes
  have hr := B.returns
  have htA : ∀ w ∈ AL, w.before _ s = true := fun w h9 => atoms_spec (ws := zs_X7_finish) B.pre w (List.mem_cons_of_mem _ h9)
  have hown : s.vm.findClass RX7 = some m.cls := findClass_of_methodNamed B.named
  have hlocks := B.notSynchronized
  have hW : Wd G g ad n a0 s.heap σ s.heap [] := ⟨hP, hD, va_S.rf⟩
  clear hP hD
  have hL70 : ∀ (σ : St) (u2 : Int32) (H : Heap) (locs : List Loc) (ls : Array Slot), Wd G g ad n a0 s.heap σ H locs → lv_has ls 4 [(0, .ref (ad (27))), (2, .int u2)] → F_X7_finish_L70  σ u2 = some x → W p l e (headSpec zs_X7_finish ({ frames := 2, cells := 0, slots := 0, locals := 42 } : Room)).room s m ([.ref (ad (27)), .int x1] : List Value).toArray below meth c H locs 0 0 (MQ below (qV G g ad n a0 x) ([.ref (ad (27)), .int x1] : List Value).toArray s 0 0 (fun q : Nat => a0 ≤ q)) (F0 m 70 ls []) := by
    intro σ u2 H locs ls hW hl hF
    unfold F_X7_finish_L70 at hF
    refine lv_aload_n hx hb dX7_finish_70 rfl (lv_at hl 0 rfl) ?_
    refine lv_iload_n hx hb dX7_finish_71 rfl (lv_at hl 1 rfl) ?_
    obtain ⟨y10, hy10, hF⟩ := bd_some hF
    refine r_bv (va_runV (As := [.int u2]) (rest := []) ⟨hx, hb, hml, hown, htA⟩ (m_X7_putTwo l G g ad n a0 aM σ u2 y10  hy10) (cwV 1 htA (gV aw_427 aw_428 aw_429 aw_382 gz_X7_putTwo) rfl rfl rfl (by decide +kernel) ⟨Nat.le_of_ble_eq_true rfl, Nat.le_of_ble_eq_true rfl⟩) (r_preV hK hW (27) (tp_lt (by decide)) (cE_k (rfl : kd 27 = 9)) rfl [.int u2]) rfl rfl hl.1 rfl (lv_room (Nat.le_of_ble_eq_true rfl)) dX7_finish_72 ⟨Nat.zero_le _, Nat.zero_le _⟩) hW (fun H locs hW => ?_)
    exact r_vret hx hb hr hlocks hW hF dX7_finish_75
  have hL43 : ∀ (fz43 : Nat) (σ : St) (u2 : Int32) (u3 : Int32) (H : Heap) (locs : List Loc) (ls : Array Slot), Wd G g ad n a0 s.heap σ H locs → lv_has ls 4 [(0, .ref (ad (27))), (2, .int u2), (3, .int u3)] → F_X7_finish_L43 (F_X7_finish_L70) fz43 σ u2 u3 = some x → W p l e (headSpec zs_X7_finish ({ frames := 2, cells := 0, slots := 0, locals := 42 } : Room)).room s m ([.ref (ad (27)), .int x1] : List Value).toArray below meth c H locs 0 0 (MQ below (qV G g ad n a0 x) ([.ref (ad (27)), .int x1] : List Value).toArray s 0 0 (fun q : Nat => a0 ≤ q)) (F0 m 43 ls []) := by
    intro fz43
    induction fz43 with
    | zero =>
      intro σ u2 u3 H locs ls hW hl hF
      exact absurd hF (by simp [F_X7_finish_L43])
    | succ fz43 ih =>
      have hB43 := ih
      intro σ u2 u3 H locs ls hW hl hF
      unfold F_X7_finish_L43 at hF
      refine lv_iload_n hx hb dX7_finish_43 rfl (lv_at hl 2 rfl) ?_
      refine lv_aload_n hx hb dX7_finish_44 rfl (lv_at hl 0 rfl) ?_
      refine r_get (C := RX7) (T := TX7) (N := 39) hx hb htA ia_X7 hown hK hW (27) (tp_lt (by decide)) (cE_k (rfl : kd 27 = 9)) rfl 27 (by decide) (htA _ aw_414) rfl dX7_finish_45 ?_
      refine lv_icmp_ge (tgt := 70) hx hb dX7_finish_48 (by decide) (fun hc11 => ?_) (fun hc11 => ?_)
      · replace hF := (if_pos hc11).symm.trans hF
        exact hL70 σ u2 _ _ _  hW (lv_sub hl [0, 1] rfl) hF
      · replace hF := (if_neg hc11).symm.trans hF
        refine lv_iload_n hx hb dX7_finish_51 rfl (lv_at hl 1 rfl) ?_
        refine lv_aload_n hx hb dX7_finish_52 rfl (lv_at hl 0 rfl) ?_
        refine r_get (C := RX7) (T := TX7) (N := 39) hx hb htA ia_X7 hown hK hW (27) (tp_lt (by decide)) (cE_k (rfl : kd 27 = 9)) rfl 26 (by decide) (htA _ aw_373) rfl dX7_finish_53 ?_
        refine lv_iload_n hx hb dX7_finish_56 rfl (lv_at hl 2 rfl) ?_
        obtain ⟨hg12, hF⟩ := gd_some hF
        refine r_bald hx hb hK hW (48) (tp_lt (by decide)) (rfl : kd 48 = 10) hg12 dX7_finish_57 ?_
        refine lv_sipush (v := 255) hx hb dX7_finish_58 (by decide) ?_
        refine lv_iand hx hb dX7_finish_61 ?_
        refine lv_iadd hx hb dX7_finish_62 ?_
        refine lv_istore_n (lv' := [(2, .int (u2 + ((σ.1 (48) (Int32.toNatClampNeg u3)) &&& 255))), (0, .ref (ad (27))), (3, .int u3)]) hx hb dX7_finish_63 rfl hl (by decide) rfl (fun ls hl => ?_)
        refine lv_iinc (v := (u3 + 1)) (lv' := [(3, .int (u3 + 1)), (2, .int (u2 + ((σ.1 (48) (Int32.toNatClampNeg u3)) &&& 255))), (0, .ref (ad (27)))]) hx hb dX7_finish_64 hl (k := 2) rfl rfl (by decide) rfl (fun ls hl => ?_)
        refine lv_goto (tgt := 43) hx hb dX7_finish_67 (by decide) ?_
        exact hB43 σ (u2 + ((σ.1 (48) (Int32.toNatClampNeg u3)) &&& 255)) (u3 + 1) _ _ _  hW (lv_sub hl [2, 1, 0] rfl) hF
  have hL43 := hL43 fu
  have hl := lv_entry ([.ref (ad (27)), .int x1]) (n := 4) (Nat.le_of_ble_eq_true rfl)
  rw [lg_entry_eq]
  generalize (lg_sl ([.ref (ad (27)), .int x1]) ++ List.replicate (4 - (lg_sl ([.ref (ad (27)), .int x1])).length) Slot.unset).toArray = ls at hl ⊢
  have hl : lv_has ls 4 [(0, .ref (ad (27))), (1, .int x1)] := hl
  unfold F_X7_finish at hF
  refine lv_aload_n hx hb dX7_finish_0 rfl (lv_at hl 0 rfl) ?_
  refine r_get (C := RX7) (T := TX7) (N := 39) hx hb htA ia_X7 hown hK hW (27) (tp_lt (by decide)) (cE_k (rfl : kd 27 = 9)) rfl 26 (by decide) (htA _ aw_373) rfl dX7_finish_1 ?_
  refine lv_bipush (v := 17) hx hb dX7_finish_4 (by decide) ?_
  refine lv_aload_n hx hb dX7_finish_6 rfl (lv_at hl 0 rfl) ?_
  refine lv_iload_n hx hb dX7_finish_7 rfl (lv_at hl 1 rfl) ?_
  obtain ⟨y13, hy13, hF⟩ := bd_some hF
  refine r_bi (va_runV (As := [.int x1]) (rest := [.int 17, .ref (ad (48))]) ⟨hx, hb, hml, hown, htA⟩ (m_X7_waiting l G g ad n a0 aM σ x1 y13  hy13) (cwV 1 htA (gV aw_431 aw_432 aw_433 aw_382 gz_X7_waiting) rfl rfl rfl (by decide +kernel) ⟨Nat.le_of_ble_eq_true rfl, Nat.le_of_ble_eq_true rfl⟩) (r_preV hK hW (27) (tp_lt (by decide)) (cE_k (rfl : kd 27 = 9)) rfl [.int x1]) rfl rfl hl.1 rfl (lv_room (Nat.le_of_ble_eq_true rfl)) dX7_finish_8 ⟨Nat.zero_le _, Nat.zero_le _⟩) hW (fun H locs hW => ?_)
  refine lv_i2b (v := (Int8.toInt32 (Int32.toInt8 y13.2))) hx hb dX7_finish_11 rfl ?_
  obtain ⟨hg14, hF⟩ := gd_some hF
  refine r_bast hx hb hK hW (48) (tp_lt (by decide)) (rfl : kd 48 = 10) hg14 dX7_finish_12 (fun H locs hW => ?_)
  obtain ⟨w15, ew15, hF⟩ := nm_some hF
  rw [← ew15] at hW
  refine lv_aload_n hx hb dX7_finish_13 rfl (lv_at hl 0 rfl) ?_
  refine r_get (C := RX7) (T := TX7) (N := 39) hx hb htA ia_X7 hown hK hW (27) (tp_lt (by decide)) (cE_k (rfl : kd 27 = 9)) rfl 26 (by decide) (htA _ aw_373) rfl dX7_finish_14 ?_
  refine lv_iconst (v := 2) hx hb dX7_finish_17 (by decide) ?_
  refine lv_aload_n hx hb dX7_finish_18 rfl (lv_at hl 0 rfl) ?_
  refine r_get (C := RX7) (T := TX7) (N := 39) hx hb htA ia_X7 hown hK hW (27) (tp_lt (by decide)) (cE_k (rfl : kd 27 = 9)) rfl 27 (by decide) (htA _ aw_414) rfl dX7_finish_19 ?_
  refine lv_i2b (v := (Int8.toInt32 (Int32.toInt8 (w15.1 (27) 27)))) hx hb dX7_finish_22 rfl ?_
  obtain ⟨hg16, hF⟩ := gd_some hF
  refine r_bast hx hb hK hW (48) (tp_lt (by decide)) (rfl : kd 48 = 10) hg16 dX7_finish_23 (fun H locs hW => ?_)
  obtain ⟨w17, ew17, hF⟩ := nm_some hF
  rw [← ew17] at hW
  refine lv_aload_n hx hb dX7_finish_24 rfl (lv_at hl 0 rfl) ?_
  refine r_get (C := RX7) (T := TX7) (N := 39) hx hb htA ia_X7 hown hK hW (27) (tp_lt (by decide)) (cE_k (rfl : kd 27 = 9)) rfl 26 (by decide) (htA _ aw_373) rfl dX7_finish_25 ?_
  refine lv_bipush (v := 23) hx hb dX7_finish_28 (by decide) ?_
  refine lv_aload_n hx hb dX7_finish_30 rfl (lv_at hl 0 rfl) ?_
  refine r_get (C := RX7) (T := TX7) (N := 39) hx hb htA ia_X7 hown hK hW (27) (tp_lt (by decide)) (cE_k (rfl : kd 27 = 9)) rfl 27 (by decide) (htA _ aw_414) rfl dX7_finish_31 ?_
  refine lv_bipush (v := 24) hx hb dX7_finish_34 (by decide) ?_
  refine lv_isub hx hb dX7_finish_36 ?_
  refine lv_i2b (v := (Int8.toInt32 (Int32.toInt8 ((w17.1 (27) 27) - 24)))) hx hb dX7_finish_37 rfl ?_
  obtain ⟨hg18, hF⟩ := gd_some hF
  refine r_bast hx hb hK hW (48) (tp_lt (by decide)) (rfl : kd 48 = 10) hg18 dX7_finish_38 (fun H locs hW => ?_)
  obtain ⟨w19, ew19, hF⟩ := nm_some hF
  rw [← ew19] at hW
  refine lv_iconst (v := 0) hx hb dX7_finish_39 (by decide) ?_
  refine lv_istore_n (lv' := [(2, .int 0), (0, .ref (ad (27))), (1, .int x1)]) hx hb dX7_finish_40 rfl hl (by decide) rfl (fun ls hl => ?_)
  refine lv_iconst (v := 0) hx hb dX7_finish_41 (by decide) ?_
  refine lv_istore_n (lv' := [(3, .int 0), (2, .int 0), (0, .ref (ad (27))), (1, .int x1)]) hx hb dX7_finish_42 rfl hl (by decide) rfl (fun ls hl => ?_)
  exact hL43 w19 0 0 _ _ _  hW (lv_sub hl [2, 1, 0] rfl) hF
def F_X7_show_L95 (σ : St) (u3 : Int32) : Option (St) := (F_X7_put σ (((u3 >>> (8 &&& 31)) &&& 255) ||| 170)).bind (fun y10 => (F_X7_put y10 (((u3 >>> (8 &&& 31)) &&& 255) ||| 85)).bind (fun y11 => (F_X7_put y11 ((u3 &&& 255) ||| 170)).bind (fun y12 => (F_X7_put y12 ((u3 &&& 255) ||| 85)).bind (fun y13 => some y13))))
def F_X7_show_L39 (K95 : St → Int32 → Option (St)) : Nat → St → Int64 → Int32 → Int32 → Option (St)
  | 0, _, _, _, _ => none
  | fz + 1, σ, u1, u3, u4 => if u4 < 0 then K95 σ u3 else (F_X7_put σ (((Int64.toInt32 (u1 >>> ((Int32.toInt64 u4) &&& 63))) &&& 255) ||| 170)).bind (fun y15 => (F_X7_put y15 (((Int64.toInt32 (u1 >>> ((Int32.toInt64 u4) &&& 63))) &&& 255) ||| 85)).bind (fun y16 => (F_X7_show_L39 K95 fz) y16 u1 ((u3 + (((Int64.toInt32 (u1 >>> ((Int32.toInt64 u4) &&& 63))) &&& 255) ||| 170)) + (((Int64.toInt32 (u1 >>> ((Int32.toInt64 u4) &&& 63))) &&& 255) ||| 85)) (u4 + (-8))))
def F_X7_show_L26 (σ : St) (u1 : Int64) : Option (St) := (F_X7_put σ 170).bind (fun y17 => F_X7_show_L39 F_X7_show_L95 fu y17 u1 0 40)
def F_X7_show_L7 (K26 : St → Int64 → Option (St)) : Nat → St → Int64 → Int32 → Option (St)
  | 0, _, _, _ => none
  | fz + 1, σ, u1, u3 => if 7 ≤ u3 then K26 σ u1 else (F_X7_put σ 254).bind (fun y19 => (F_X7_show_L7 K26 fz) y19 u1 (u3 + 1))
def F_X7_show (σ : St) (x1 : Int64) : Option (St) := nm (sI σ (27) 27 0) (fun w20 => F_X7_show_L7 F_X7_show_L26 fu w20 x1 0)
set_option maxHeartbeats 4000000 in
set_option maxRecDepth 100000 in
theorem m_X7_show (l : Launch) (G : va_G) (g : Nat → ClassId) (ad : Nat → Nat) (n a0 aM : Nat) (σ : St) (x1 : Int64) (x : St) (hF : F_X7_show σ x1 = some x) : Met l yX7_show zs_X7_show ({ frames := 1, cells := 0, slots := 0, locals := 21 } : Room) (va_Pc [.ref (ad (27)), .long x1] (wP G g ad n a0 aM σ)) (qV G g ad n a0 x) 0 0 (fun q : Nat => a0 ≤ q) := by
  refine Met.ofW (cc := cX7_show) (maxL := 6) (ret := none) (by decide) rfl ?_
  intro p e s m args below meth c s₁ B hml hv
  obtain ⟨rfl, hP, hD, hK⟩ := hv
  have hx := B.exec
  have hb := B.bytes
  have hr := B.returns
  have htA : ∀ w ∈ AL, w.before _ s = true := fun w h9 => atoms_spec (ws := zs_X7_show) B.pre w (List.mem_cons_of_mem _ h9)
  have hown : s.vm.findClass RX7 = some m.cls := findClass_of_methodNamed B.named
  have hlocks := B.notSynchronized
  have hW : Wd G g ad n a0 s.heap σ s.heap [] := ⟨hP, hD, va_S.rf⟩
  clear hP hD
  have hL95 : ∀ (σ : St) (u3 : Int32) (H : Heap) (locs : List Loc) (ls : Array Slot), Wd G g ad n a0 s.heap σ H locs → lv_has ls 6 [(0, .ref (ad (27))), (3, .int u3)] → F_X7_show_L95  σ u3 = some x → W p l e (headSpec zs_X7_show ({ frames := 1, cells := 0, slots := 0, locals := 21 } : Room)).room s m ([.ref (ad (27)), .long x1] : List Value).toArray below meth c H locs 0 0 (MQ below (qV G g ad n a0 x) ([.ref (ad (27)), .long x1] : List Value).toArray s 0 0 (fun q : Nat => a0 ≤ q)) (F0 m 95 ls []) := by
    intro σ u3 H locs ls hW hl hF
    unfold F_X7_show_L95 at hF
    refine lv_aload_n hx hb dX7_show_95 rfl (lv_at hl 0 rfl) ?_
    refine lv_iload_n hx hb dX7_show_96 rfl (lv_at hl 1 rfl) ?_
    refine lv_bipush (v := 8) hx hb dX7_show_97 (by decide) ?_
    refine lv_ishr hx hb dX7_show_99 ?_
    refine lv_sipush (v := 255) hx hb dX7_show_100 (by decide) ?_
    refine lv_iand hx hb dX7_show_103 ?_
    refine lv_sipush (v := 170) hx hb dX7_show_104 (by decide) ?_
    refine lv_ior hx hb dX7_show_107 ?_
    obtain ⟨y10, hy10, hF⟩ := bd_some hF
    refine r_bv (va_runV (As := [.int (((u3 >>> (8 &&& 31)) &&& 255) ||| 170)]) (rest := []) ⟨hx, hb, hml, hown, htA⟩ (m_X7_put l G g ad n a0 aM σ (((u3 >>> (8 &&& 31)) &&& 255) ||| 170) y10  hy10) (cwV 1 htA (gV aw_415 aw_416 aw_417 aw_382 gz_X7_put) rfl rfl rfl (by decide +kernel) ⟨Nat.le_of_ble_eq_true rfl, Nat.le_of_ble_eq_true rfl⟩) (r_preV hK hW (27) (tp_lt (by decide)) (cE_k (rfl : kd 27 = 9)) rfl [.int (((u3 >>> (8 &&& 31)) &&& 255) ||| 170)]) rfl rfl hl.1 rfl (lv_room (Nat.le_of_ble_eq_true rfl)) dX7_show_108 ⟨Nat.zero_le _, Nat.zero_le _⟩) hW (fun H locs hW => ?_)
    refine lv_aload_n hx hb dX7_show_111 rfl (lv_at hl 0 rfl) ?_
    refine lv_iload_n hx hb dX7_show_112 rfl (lv_at hl 1 rfl) ?_
    refine lv_bipush (v := 8) hx hb dX7_show_113 (by decide) ?_
    refine lv_ishr hx hb dX7_show_115 ?_
    refine lv_sipush (v := 255) hx hb dX7_show_116 (by decide) ?_
    refine lv_iand hx hb dX7_show_119 ?_
    refine lv_bipush (v := 85) hx hb dX7_show_120 (by decide) ?_
    refine lv_ior hx hb dX7_show_122 ?_
    obtain ⟨y11, hy11, hF⟩ := bd_some hF
    refine r_bv (va_runV (As := [.int (((u3 >>> (8 &&& 31)) &&& 255) ||| 85)]) (rest := []) ⟨hx, hb, hml, hown, htA⟩ (m_X7_put l G g ad n a0 aM y10 (((u3 >>> (8 &&& 31)) &&& 255) ||| 85) y11  hy11) (cwV 1 htA (gV aw_415 aw_416 aw_417 aw_382 gz_X7_put) rfl rfl rfl (by decide +kernel) ⟨Nat.le_of_ble_eq_true rfl, Nat.le_of_ble_eq_true rfl⟩) (r_preV hK hW (27) (tp_lt (by decide)) (cE_k (rfl : kd 27 = 9)) rfl [.int (((u3 >>> (8 &&& 31)) &&& 255) ||| 85)]) rfl rfl hl.1 rfl (lv_room (Nat.le_of_ble_eq_true rfl)) dX7_show_123 ⟨Nat.zero_le _, Nat.zero_le _⟩) hW (fun H locs hW => ?_)
    refine lv_aload_n hx hb dX7_show_126 rfl (lv_at hl 0 rfl) ?_
    refine lv_iload_n hx hb dX7_show_127 rfl (lv_at hl 1 rfl) ?_
    refine lv_sipush (v := 255) hx hb dX7_show_128 (by decide) ?_
    refine lv_iand hx hb dX7_show_131 ?_
    refine lv_sipush (v := 170) hx hb dX7_show_132 (by decide) ?_
    refine lv_ior hx hb dX7_show_135 ?_
    obtain ⟨y12, hy12, hF⟩ := bd_some hF
    refine r_bv (va_runV (As := [.int ((u3 &&& 255) ||| 170)]) (rest := []) ⟨hx, hb, hml, hown, htA⟩ (m_X7_put l G g ad n a0 aM y11 ((u3 &&& 255) ||| 170) y12  hy12) (cwV 1 htA (gV aw_415 aw_416 aw_417 aw_382 gz_X7_put) rfl rfl rfl (by decide +kernel) ⟨Nat.le_of_ble_eq_true rfl, Nat.le_of_ble_eq_true rfl⟩) (r_preV hK hW (27) (tp_lt (by decide)) (cE_k (rfl : kd 27 = 9)) rfl [.int ((u3 &&& 255) ||| 170)]) rfl rfl hl.1 rfl (lv_room (Nat.le_of_ble_eq_true rfl)) dX7_show_136 ⟨Nat.zero_le _, Nat.zero_le _⟩) hW (fun H locs hW => ?_)
    refine lv_aload_n hx hb dX7_show_139 rfl (lv_at hl 0 rfl) ?_
    refine lv_iload_n hx hb dX7_show_140 rfl (lv_at hl 1 rfl) ?_
    refine lv_sipush (v := 255) hx hb dX7_show_141 (by decide) ?_
    refine lv_iand hx hb dX7_show_144 ?_
    refine lv_bipush (v := 85) hx hb dX7_show_145 (by decide) ?_
    refine lv_ior hx hb dX7_show_147 ?_
    obtain ⟨y13, hy13, hF⟩ := bd_some hF
    refine r_bv (va_runV (As := [.int ((u3 &&& 255) ||| 85)]) (rest := []) ⟨hx, hb, hml, hown, htA⟩ (m_X7_put l G g ad n a0 aM y12 ((u3 &&& 255) ||| 85) y13  hy13) (cwV 1 htA (gV aw_415 aw_416 aw_417 aw_382 gz_X7_put) rfl rfl rfl (by decide +kernel) ⟨Nat.le_of_ble_eq_true rfl, Nat.le_of_ble_eq_true rfl⟩) (r_preV hK hW (27) (tp_lt (by decide)) (cE_k (rfl : kd 27 = 9)) rfl [.int ((u3 &&& 255) ||| 85)]) rfl rfl hl.1 rfl (lv_room (Nat.le_of_ble_eq_true rfl)) dX7_show_148 ⟨Nat.zero_le _, Nat.zero_le _⟩) hW (fun H locs hW => ?_)
    exact r_vret hx hb hr hlocks hW hF dX7_show_151
  have hL39 : ∀ (fz39 : Nat) (σ : St) (u1 : Int64) (u3 : Int32) (u4 : Int32) (H : Heap) (locs : List Loc) (ls : Array Slot), Wd G g ad n a0 s.heap σ H locs → lv_has ls 6 [(0, .ref (ad (27))), (1, .long u1), (3, .int u3), (4, .int u4)] → F_X7_show_L39 (F_X7_show_L95) fz39 σ u1 u3 u4 = some x → W p l e (headSpec zs_X7_show ({ frames := 1, cells := 0, slots := 0, locals := 21 } : Room)).room s m ([.ref (ad (27)), .long x1] : List Value).toArray below meth c H locs 0 0 (MQ below (qV G g ad n a0 x) ([.ref (ad (27)), .long x1] : List Value).toArray s 0 0 (fun q : Nat => a0 ≤ q)) (F0 m 39 ls []) := by
    intro fz39
    induction fz39 with
    | zero =>
      intro σ u1 u3 u4 H locs ls hW hl hF
      exact absurd hF (by simp [F_X7_show_L39])
    | succ fz39 ih =>
      have hB39 := ih
      intro σ u1 u3 u4 H locs ls hW hl hF
      unfold F_X7_show_L39 at hF
      refine lv_iload hx hb dX7_show_39 (lv_at hl 3 rfl) ?_
      refine lv_if_lt (tgt := 95) hx hb dX7_show_41 (by decide) (fun hc14 => ?_) (fun hc14 => ?_)
      · replace hF := (if_pos hc14).symm.trans hF
        exact hL95 σ u3 _ _ _  hW (lv_sub hl [0, 2] rfl) hF
      · replace hF := (if_neg hc14).symm.trans hF
        refine lv_lload_n hx hb dX7_show_44 rfl (lv_at hl 1 rfl) ?_
        refine lv_iload hx hb dX7_show_45 (lv_at hl 3 rfl) ?_
        refine lv_lshr (v := (u1 >>> ((Int32.toInt64 u4) &&& 63))) hx hb dX7_show_47 rfl ?_
        refine lv_l2i (v := (Int64.toInt32 (u1 >>> ((Int32.toInt64 u4) &&& 63)))) hx hb dX7_show_48 rfl ?_
        refine lv_sipush (v := 255) hx hb dX7_show_49 (by decide) ?_
        refine lv_iand hx hb dX7_show_52 ?_
        refine lv_istore (lv' := [(5, .int ((Int64.toInt32 (u1 >>> ((Int32.toInt64 u4) &&& 63))) &&& 255)), (0, .ref (ad (27))), (1, .long u1), (3, .int u3), (4, .int u4)]) hx hb dX7_show_53 hl (by decide) rfl (fun ls hl => ?_)
        refine lv_aload_n hx hb dX7_show_55 rfl (lv_at hl 1 rfl) ?_
        refine lv_iload hx hb dX7_show_56 (lv_at hl 0 rfl) ?_
        refine lv_sipush (v := 170) hx hb dX7_show_58 (by decide) ?_
        refine lv_ior hx hb dX7_show_61 ?_
        obtain ⟨y15, hy15, hF⟩ := bd_some hF
        refine r_bv (va_runV (As := [.int (((Int64.toInt32 (u1 >>> ((Int32.toInt64 u4) &&& 63))) &&& 255) ||| 170)]) (rest := []) ⟨hx, hb, hml, hown, htA⟩ (m_X7_put l G g ad n a0 aM σ (((Int64.toInt32 (u1 >>> ((Int32.toInt64 u4) &&& 63))) &&& 255) ||| 170) y15  hy15) (cwV 1 htA (gV aw_415 aw_416 aw_417 aw_382 gz_X7_put) rfl rfl rfl (by decide +kernel) ⟨Nat.le_of_ble_eq_true rfl, Nat.le_of_ble_eq_true rfl⟩) (r_preV hK hW (27) (tp_lt (by decide)) (cE_k (rfl : kd 27 = 9)) rfl [.int (((Int64.toInt32 (u1 >>> ((Int32.toInt64 u4) &&& 63))) &&& 255) ||| 170)]) rfl rfl hl.1 rfl (lv_room (Nat.le_of_ble_eq_true rfl)) dX7_show_62 ⟨Nat.zero_le _, Nat.zero_le _⟩) hW (fun H locs hW => ?_)
        refine lv_aload_n hx hb dX7_show_65 rfl (lv_at hl 1 rfl) ?_
        refine lv_iload hx hb dX7_show_66 (lv_at hl 0 rfl) ?_
        refine lv_bipush (v := 85) hx hb dX7_show_68 (by decide) ?_
        refine lv_ior hx hb dX7_show_70 ?_
        obtain ⟨y16, hy16, hF⟩ := bd_some hF
        refine r_bv (va_runV (As := [.int (((Int64.toInt32 (u1 >>> ((Int32.toInt64 u4) &&& 63))) &&& 255) ||| 85)]) (rest := []) ⟨hx, hb, hml, hown, htA⟩ (m_X7_put l G g ad n a0 aM y15 (((Int64.toInt32 (u1 >>> ((Int32.toInt64 u4) &&& 63))) &&& 255) ||| 85) y16  hy16) (cwV 1 htA (gV aw_415 aw_416 aw_417 aw_382 gz_X7_put) rfl rfl rfl (by decide +kernel) ⟨Nat.le_of_ble_eq_true rfl, Nat.le_of_ble_eq_true rfl⟩) (r_preV hK hW (27) (tp_lt (by decide)) (cE_k (rfl : kd 27 = 9)) rfl [.int (((Int64.toInt32 (u1 >>> ((Int32.toInt64 u4) &&& 63))) &&& 255) ||| 85)]) rfl rfl hl.1 rfl (lv_room (Nat.le_of_ble_eq_true rfl)) dX7_show_71 ⟨Nat.zero_le _, Nat.zero_le _⟩) hW (fun H locs hW => ?_)
        refine lv_iload_n hx hb dX7_show_74 rfl (lv_at hl 3 rfl) ?_
        refine lv_iload hx hb dX7_show_75 (lv_at hl 0 rfl) ?_
        refine lv_sipush (v := 170) hx hb dX7_show_77 (by decide) ?_
        refine lv_ior hx hb dX7_show_80 ?_
        refine lv_iadd hx hb dX7_show_81 ?_
        refine lv_iload hx hb dX7_show_82 (lv_at hl 0 rfl) ?_
        refine lv_bipush (v := 85) hx hb dX7_show_84 (by decide) ?_
        refine lv_ior hx hb dX7_show_86 ?_
        refine lv_iadd hx hb dX7_show_87 ?_
        refine lv_istore_n (lv' := [(3, .int ((u3 + (((Int64.toInt32 (u1 >>> ((Int32.toInt64 u4) &&& 63))) &&& 255) ||| 170)) + (((Int64.toInt32 (u1 >>> ((Int32.toInt64 u4) &&& 63))) &&& 255) ||| 85))), (5, .int ((Int64.toInt32 (u1 >>> ((Int32.toInt64 u4) &&& 63))) &&& 255)), (0, .ref (ad (27))), (1, .long u1), (4, .int u4)]) hx hb dX7_show_88 rfl hl (by decide) rfl (fun ls hl => ?_)
        refine lv_iinc (v := (u4 + (-8))) (lv' := [(4, .int (u4 + (-8))), (3, .int ((u3 + (((Int64.toInt32 (u1 >>> ((Int32.toInt64 u4) &&& 63))) &&& 255) ||| 170)) + (((Int64.toInt32 (u1 >>> ((Int32.toInt64 u4) &&& 63))) &&& 255) ||| 85))), (5, .int ((Int64.toInt32 (u1 >>> ((Int32.toInt64 u4) &&& 63))) &&& 255)), (0, .ref (ad (27))), (1, .long u1)]) hx hb dX7_show_89 hl (k := 4) rfl rfl (by decide) rfl (fun ls hl => ?_)
        refine lv_goto (tgt := 39) hx hb dX7_show_92 (by decide) ?_
        exact hB39 y16 u1 ((u3 + (((Int64.toInt32 (u1 >>> ((Int32.toInt64 u4) &&& 63))) &&& 255) ||| 170)) + (((Int64.toInt32 (u1 >>> ((Int32.toInt64 u4) &&& 63))) &&& 255) ||| 85)) (u4 + (-8)) _ _ _  hW (lv_sub hl [3, 4, 1, 0] rfl) hF
  have hL39 := hL39 fu
  have hL26 : ∀ (σ : St) (u1 : Int64) (H : Heap) (locs : List Loc) (ls : Array Slot), Wd G g ad n a0 s.heap σ H locs → lv_has ls 6 [(0, .ref (ad (27))), (1, .long u1)] → F_X7_show_L26  σ u1 = some x → W p l e (headSpec zs_X7_show ({ frames := 1, cells := 0, slots := 0, locals := 21 } : Room)).room s m ([.ref (ad (27)), .long x1] : List Value).toArray below meth c H locs 0 0 (MQ below (qV G g ad n a0 x) ([.ref (ad (27)), .long x1] : List Value).toArray s 0 0 (fun q : Nat => a0 ≤ q)) (F0 m 26 ls []) := by
    intro σ u1 H locs ls hW hl hF
    unfold F_X7_show_L26 at hF
    refine lv_aload_n hx hb dX7_show_26 rfl (lv_at hl 0 rfl) ?_
    refine lv_sipush (v := 170) hx hb dX7_show_27 (by decide) ?_
    obtain ⟨y17, hy17, hF⟩ := bd_some hF
    refine r_bv (va_runV (As := [.int 170]) (rest := []) ⟨hx, hb, hml, hown, htA⟩ (m_X7_put l G g ad n a0 aM σ 170 y17  hy17) (cwV 1 htA (gV aw_415 aw_416 aw_417 aw_382 gz_X7_put) rfl rfl rfl (by decide +kernel) ⟨Nat.le_of_ble_eq_true rfl, Nat.le_of_ble_eq_true rfl⟩) (r_preV hK hW (27) (tp_lt (by decide)) (cE_k (rfl : kd 27 = 9)) rfl [.int 170]) rfl rfl hl.1 rfl (lv_room (Nat.le_of_ble_eq_true rfl)) dX7_show_30 ⟨Nat.zero_le _, Nat.zero_le _⟩) hW (fun H locs hW => ?_)
    refine lv_iconst (v := 0) hx hb dX7_show_33 (by decide) ?_
    refine lv_istore_n (lv' := [(3, .int 0), (0, .ref (ad (27))), (1, .long u1)]) hx hb dX7_show_34 rfl hl (by decide) rfl (fun ls hl => ?_)
    refine lv_bipush (v := 40) hx hb dX7_show_35 (by decide) ?_
    refine lv_istore (lv' := [(4, .int 40), (3, .int 0), (0, .ref (ad (27))), (1, .long u1)]) hx hb dX7_show_37 hl (by decide) rfl (fun ls hl => ?_)
    exact hL39 y17 u1 0 40 _ _ _  hW (lv_sub hl [2, 3, 1, 0] rfl) hF
  have hL7 : ∀ (fz7 : Nat) (σ : St) (u1 : Int64) (u3 : Int32) (H : Heap) (locs : List Loc) (ls : Array Slot), Wd G g ad n a0 s.heap σ H locs → lv_has ls 6 [(0, .ref (ad (27))), (1, .long u1), (3, .int u3)] → F_X7_show_L7 (F_X7_show_L26) fz7 σ u1 u3 = some x → W p l e (headSpec zs_X7_show ({ frames := 1, cells := 0, slots := 0, locals := 21 } : Room)).room s m ([.ref (ad (27)), .long x1] : List Value).toArray below meth c H locs 0 0 (MQ below (qV G g ad n a0 x) ([.ref (ad (27)), .long x1] : List Value).toArray s 0 0 (fun q : Nat => a0 ≤ q)) (F0 m 7 ls []) := by
    intro fz7
    induction fz7 with
    | zero =>
      intro σ u1 u3 H locs ls hW hl hF
      exact absurd hF (by simp [F_X7_show_L7])
    | succ fz7 ih =>
      have hB7 := ih
      intro σ u1 u3 H locs ls hW hl hF
      unfold F_X7_show_L7 at hF
      refine lv_iload_n hx hb dX7_show_7 rfl (lv_at hl 2 rfl) ?_
      refine lv_bipush (v := 7) hx hb dX7_show_8 (by decide) ?_
      refine lv_icmp_ge (tgt := 26) hx hb dX7_show_10 (by decide) (fun hc18 => ?_) (fun hc18 => ?_)
      · replace hF := (if_pos hc18).symm.trans hF
        exact hL26 σ u1 _ _ _  hW (lv_sub hl [0, 1] rfl) hF
      · replace hF := (if_neg hc18).symm.trans hF
        refine lv_aload_n hx hb dX7_show_13 rfl (lv_at hl 0 rfl) ?_
        refine lv_sipush (v := 254) hx hb dX7_show_14 (by decide) ?_
        obtain ⟨y19, hy19, hF⟩ := bd_some hF
        refine r_bv (va_runV (As := [.int 254]) (rest := []) ⟨hx, hb, hml, hown, htA⟩ (m_X7_put l G g ad n a0 aM σ 254 y19  hy19) (cwV 1 htA (gV aw_415 aw_416 aw_417 aw_382 gz_X7_put) rfl rfl rfl (by decide +kernel) ⟨Nat.le_of_ble_eq_true rfl, Nat.le_of_ble_eq_true rfl⟩) (r_preV hK hW (27) (tp_lt (by decide)) (cE_k (rfl : kd 27 = 9)) rfl [.int 254]) rfl rfl hl.1 rfl (lv_room (Nat.le_of_ble_eq_true rfl)) dX7_show_17 ⟨Nat.zero_le _, Nat.zero_le _⟩) hW (fun H locs hW => ?_)
        refine lv_iinc (v := (u3 + 1)) (lv' := [(3, .int (u3 + 1)), (0, .ref (ad (27))), (1, .long u1)]) hx hb dX7_show_20 hl (k := 2) rfl rfl (by decide) rfl (fun ls hl => ?_)
        refine lv_goto (tgt := 7) hx hb dX7_show_23 (by decide) ?_
        exact hB7 y19 u1 (u3 + 1) _ _ _  hW (lv_sub hl [1, 2, 0] rfl) hF
  have hL7 := hL7 fu
  have hl := lv_entry ([.ref (ad (27)), .long x1]) (n := 6) (Nat.le_of_ble_eq_true rfl)
  rw [lg_entry_eq]
  generalize (lg_sl ([.ref (ad (27)), .long x1]) ++ List.replicate (6 - (lg_sl ([.ref (ad (27)), .long x1])).length) Slot.unset).toArray = ls at hl ⊢
  have hl : lv_has ls 6 [(0, .ref (ad (27))), (1, .long x1)] := hl
  unfold F_X7_show at hF
  refine lv_aload_n hx hb dX7_show_0 rfl (lv_at hl 0 rfl) ?_
  refine lv_iconst (v := 0) hx hb dX7_show_1 (by decide) ?_
  refine r_putI (C := RX7) (T := TX7) (N := 39) (ty := .int) hx hb htA ia_X7 tyX7 tyX7_ok nmX7 hown hK hW (27) (tp_lt (by decide)) (cE_k (rfl : kd 27 = 9)) rfl 27 (by decide) (cE_k (rfl : kd 27 = 9)) (htA _ aw_414) rfl (by decide +kernel) rfl rfl (Nat.le_of_ble_eq_true rfl) dX7_show_2 (fun H locs hW => ?_)
  obtain ⟨w20, ew20, hF⟩ := nm_some hF
  rw [← ew20] at hW
  refine lv_iconst (v := 0) hx hb dX7_show_5 (by decide) ?_
  refine lv_istore_n (lv' := [(3, .int 0), (0, .ref (ad (27))), (1, .long x1)]) hx hb dX7_show_6 rfl hl (by decide) rfl (fun ls hl => ?_)
  exact hL7 w20 x1 0 _ _ _  hW (lv_sub hl [1, 2, 0] rfl) hF
def F_X7_hearSearch_L106 (σ : St) (u1 : Int32) (u2 : Int32) (u3 : Int32) (z0 : Int32) (z1 : Int32) : Option (St) := gd (ib z1 (ln (34))) (nm (sI σ (34) (Int32.toNatClampNeg z1) (vp_nar .boolean z0)) (fun w14 => if u2 = 0 then some w14 else (F_X7_begin w14 u1 0 17 u3).bind (fun y16 => (F_X7_putTwo y16 0).bind (fun y17 => (F_X7_finish y17 u1).bind (fun y18 => some y18)))))
def F_X7_hearSearch_L86 (σ : St) (u1 : Int32) (u2 : Int32) (u3 : Int32) (u4 : Int32) : Option (St) := if u4 = 0 then if u3 = 2 then F_X7_hearSearch_L106 σ u1 u2 u3 1 u1 else F_X7_hearSearch_L106 σ u1 u2 u3 0 u1 else some σ
def F_X7_hearSearch_L76 (σ : St) (u1 : Int32) (u2 : Int32) (u3 : Int32) (u4 : Int32) : Option (St) := if u3 = 2 then F_X7_hearSearch_L86 σ u1 u2 u3 u4 else if u3 = 3 then F_X7_hearSearch_L86 σ u1 u2 u3 u4 else some σ
def F_X7_hearSearch (σ : St) (x1 : Int32) (x2 : Int32) : Option (St) := (F_X7_two σ 21).bind (fun y23 => (F_X7_at y23.1 23).bind (fun y24 => if y23.2 = 1 then if y24.2 = 12 then (F_X7_ownId y24.1 x1).bind (fun y27 => gd (ib x1 (ln (34))) (if (y27.1.1 (34) (Int32.toNatClampNeg x1)) = 0 then (F_X7_six y27.1 24).bind (fun y30 => if (lg_cmp y27.2 y30.2) < 0 then some y30.1 else (F_X7_six y30.1 30).bind (fun y32 => if 0 < (lg_cmp y27.2 y32.2) then some y32.1 else (F_X7_show y32.1 y27.2).bind (fun y34 => some y34))) else some y27.1)) else F_X7_hearSearch_L76 y24.1 x1 x2 y23.2 y24.2 else F_X7_hearSearch_L76 y24.1 x1 x2 y23.2 y24.2))
set_option maxHeartbeats 4000000 in
set_option maxRecDepth 100000 in
theorem m_X7_hearSearch (l : Launch) (G : va_G) (g : Nat → ClassId) (ad : Nat → Nat) (n a0 aM : Nat) (σ : St) (x1 : Int32) (x2 : Int32) (x : St) (hF : F_X7_hearSearch σ x1 x2 = some x) : Met l yX7_hearSearch zs_X7_hearSearch ({ frames := 3, cells := 0, slots := 0, locals := 69 } : Room) (va_Pc [.ref (ad (27)), .int x1, .int x2] (wP G g ad n a0 aM σ)) (qV G g ad n a0 x) 0 0 (fun q : Nat => a0 ≤ q) := by
  refine Met.ofW (cc := cX7_hearSearch) (maxL := 7) (ret := none) (by decide) rfl ?_
  intro p e s m args below meth c s₁ B hml hv
  obtain ⟨rfl, hP, hD, hK⟩ := hv
  have hx := B.exec
  have hb := B.bytes
  have hr := B.returns
  have htA : ∀ w ∈ AL, w.before _ s = true := fun w h9 => atoms_spec (ws := zs_X7_hearSearch) B.pre w (List.mem_cons_of_mem _ h9)
  have hown : s.vm.findClass RX7 = some m.cls := findClass_of_methodNamed B.named
  have hlocks := B.notSynchronized
  have hW : Wd G g ad n a0 s.heap σ s.heap [] := ⟨hP, hD, va_S.rf⟩
  clear hP hD
  have hL106 : ∀ (σ : St) (u1 : Int32) (u2 : Int32) (u3 : Int32) (z0 : Int32) (z1 : Int32) (H : Heap) (locs : List Loc) (ls : Array Slot), Wd G g ad n a0 s.heap σ H locs → lv_has ls 7 [(0, .ref (ad (27))), (1, .int u1), (2, .int u2), (3, .int u3)] → F_X7_hearSearch_L106  σ u1 u2 u3 z0 z1 = some x → W p l e (headSpec zs_X7_hearSearch ({ frames := 3, cells := 0, slots := 0, locals := 69 } : Room)).room s m ([.ref (ad (27)), .int x1, .int x2] : List Value).toArray below meth c H locs 0 0 (MQ below (qV G g ad n a0 x) ([.ref (ad (27)), .int x1, .int x2] : List Value).toArray s 0 0 (fun q : Nat => a0 ≤ q)) (F0 m 106 ls [.int z0, .int z1, .ref (ad (34))]) := by
    intro σ u1 u2 u3 z0 z1 H locs ls hW hl hF
    unfold F_X7_hearSearch_L106 at hF
    obtain ⟨hg13, hF⟩ := gd_some hF
    refine r_zast hx hb hK hW (34) (tp_lt (by decide)) (rfl : kd 34 = 11) hg13 dX7_hearSearch_106 (fun H locs hW => ?_)
    obtain ⟨w14, ew14, hF⟩ := nm_some hF
    rw [← ew14] at hW
    refine lv_iload_n hx hb dX7_hearSearch_107 rfl (lv_at hl 2 rfl) ?_
    refine lv_if_eq (tgt := 130) hx hb dX7_hearSearch_108 (by decide) (fun hc15 => ?_) (fun hc15 => ?_)
    · replace hF := (if_pos hc15).symm.trans hF
      exact r_vret hx hb hr hlocks hW hF dX7_hearSearch_130
    · replace hF := (if_neg hc15).symm.trans hF
      refine lv_aload_n hx hb dX7_hearSearch_111 rfl (lv_at hl 0 rfl) ?_
      refine lv_iload_n hx hb dX7_hearSearch_112 rfl (lv_at hl 1 rfl) ?_
      refine lv_iconst (v := 0) hx hb dX7_hearSearch_113 (by decide) ?_
      refine lv_bipush (v := 17) hx hb dX7_hearSearch_114 (by decide) ?_
      refine lv_iload_n hx hb dX7_hearSearch_116 rfl (lv_at hl 3 rfl) ?_
      obtain ⟨y16, hy16, hF⟩ := bd_some hF
      refine r_bv (va_runV (As := [.int u1, .int 0, .int 17, .int u3]) (rest := []) ⟨hx, hb, hml, hown, htA⟩ (m_X7_begin l G g ad n a0 aM w14 u1 0 17 u3 y16  hy16) (cwV 4 htA (gV aw_443 aw_444 aw_445 aw_382 gz_X7_begin) rfl rfl rfl (by decide +kernel) ⟨Nat.le_of_ble_eq_true rfl, Nat.le_of_ble_eq_true rfl⟩) (r_preV hK hW (27) (tp_lt (by decide)) (cE_k (rfl : kd 27 = 9)) rfl [.int u1, .int 0, .int 17, .int u3]) rfl rfl hl.1 rfl (lv_room (Nat.le_of_ble_eq_true rfl)) dX7_hearSearch_117 ⟨Nat.zero_le _, Nat.zero_le _⟩) hW (fun H locs hW => ?_)
      refine lv_aload_n hx hb dX7_hearSearch_120 rfl (lv_at hl 0 rfl) ?_
      refine lv_iconst (v := 0) hx hb dX7_hearSearch_121 (by decide) ?_
      obtain ⟨y17, hy17, hF⟩ := bd_some hF
      refine r_bv (va_runV (As := [.int 0]) (rest := []) ⟨hx, hb, hml, hown, htA⟩ (m_X7_putTwo l G g ad n a0 aM y16 0 y17  hy17) (cwV 1 htA (gV aw_427 aw_428 aw_429 aw_382 gz_X7_putTwo) rfl rfl rfl (by decide +kernel) ⟨Nat.le_of_ble_eq_true rfl, Nat.le_of_ble_eq_true rfl⟩) (r_preV hK hW (27) (tp_lt (by decide)) (cE_k (rfl : kd 27 = 9)) rfl [.int 0]) rfl rfl hl.1 rfl (lv_room (Nat.le_of_ble_eq_true rfl)) dX7_hearSearch_122 ⟨Nat.zero_le _, Nat.zero_le _⟩) hW (fun H locs hW => ?_)
      refine lv_aload_n hx hb dX7_hearSearch_125 rfl (lv_at hl 0 rfl) ?_
      refine lv_iload_n hx hb dX7_hearSearch_126 rfl (lv_at hl 1 rfl) ?_
      obtain ⟨y18, hy18, hF⟩ := bd_some hF
      refine r_bv (va_runV (As := [.int u1]) (rest := []) ⟨hx, hb, hml, hown, htA⟩ (m_X7_finish l G g ad n a0 aM y17 u1 y18  hy18) (cwV 1 htA (gV aw_447 aw_448 aw_449 aw_382 gz_X7_finish) rfl rfl rfl (by decide +kernel) ⟨Nat.le_of_ble_eq_true rfl, Nat.le_of_ble_eq_true rfl⟩) (r_preV hK hW (27) (tp_lt (by decide)) (cE_k (rfl : kd 27 = 9)) rfl [.int u1]) rfl rfl hl.1 rfl (lv_room (Nat.le_of_ble_eq_true rfl)) dX7_hearSearch_127 ⟨Nat.zero_le _, Nat.zero_le _⟩) hW (fun H locs hW => ?_)
      exact r_vret hx hb hr hlocks hW hF dX7_hearSearch_130
  have hL86 : ∀ (σ : St) (u1 : Int32) (u2 : Int32) (u3 : Int32) (u4 : Int32) (H : Heap) (locs : List Loc) (ls : Array Slot), Wd G g ad n a0 s.heap σ H locs → lv_has ls 7 [(0, .ref (ad (27))), (1, .int u1), (2, .int u2), (3, .int u3), (4, .int u4)] → F_X7_hearSearch_L86  σ u1 u2 u3 u4 = some x → W p l e (headSpec zs_X7_hearSearch ({ frames := 3, cells := 0, slots := 0, locals := 69 } : Room)).room s m ([.ref (ad (27)), .int x1, .int x2] : List Value).toArray below meth c H locs 0 0 (MQ below (qV G g ad n a0 x) ([.ref (ad (27)), .int x1, .int x2] : List Value).toArray s 0 0 (fun q : Nat => a0 ≤ q)) (F0 m 86 ls []) := by
    intro σ u1 u2 u3 u4 H locs ls hW hl hF
    unfold F_X7_hearSearch_L86 at hF
    refine lv_iload hx hb dX7_hearSearch_86 (lv_at hl 4 rfl) ?_
    refine lv_if_ne (tgt := 130) hx hb dX7_hearSearch_88 (by decide) (fun hc19 => ?_) (fun hc19 => ?_)
    · replace hF := (if_neg hc19).symm.trans hF
      exact r_vret hx hb hr hlocks hW hF dX7_hearSearch_130
    · replace hF := (if_pos hc19).symm.trans hF
      refine lv_aload_n hx hb dX7_hearSearch_91 rfl (lv_at hl 0 rfl) ?_
      refine r_get (C := RX7) (T := TX7) (N := 39) hx hb htA ia_X7 hown hK hW (27) (tp_lt (by decide)) (cE_k (rfl : kd 27 = 9)) rfl 8 (by decide) (htA _ aw_358) rfl dX7_hearSearch_92 ?_
      refine lv_iload_n hx hb dX7_hearSearch_95 rfl (lv_at hl 1 rfl) ?_
      refine lv_iload_n hx hb dX7_hearSearch_96 rfl (lv_at hl 3 rfl) ?_
      refine lv_iconst (v := 2) hx hb dX7_hearSearch_97 (by decide) ?_
      refine lv_icmp_ne (tgt := 105) hx hb dX7_hearSearch_98 (by decide) (fun hc20 => ?_) (fun hc20 => ?_)
      · replace hF := (if_neg hc20).symm.trans hF
        refine lv_iconst (v := 0) hx hb dX7_hearSearch_105 (by decide) ?_
        exact hL106 σ u1 u2 u3 0 u1 _ _ _  hW (lv_sub hl [0, 1, 2, 3] rfl) hF
      · replace hF := (if_pos hc20).symm.trans hF
        refine lv_iconst (v := 1) hx hb dX7_hearSearch_101 (by decide) ?_
        refine lv_goto (tgt := 106) hx hb dX7_hearSearch_102 (by decide) ?_
        exact hL106 σ u1 u2 u3 1 u1 _ _ _  hW (lv_sub hl [0, 1, 2, 3] rfl) hF
  have hL76 : ∀ (σ : St) (u1 : Int32) (u2 : Int32) (u3 : Int32) (u4 : Int32) (H : Heap) (locs : List Loc) (ls : Array Slot), Wd G g ad n a0 s.heap σ H locs → lv_has ls 7 [(0, .ref (ad (27))), (1, .int u1), (2, .int u2), (3, .int u3), (4, .int u4)] → F_X7_hearSearch_L76  σ u1 u2 u3 u4 = some x → W p l e (headSpec zs_X7_hearSearch ({ frames := 3, cells := 0, slots := 0, locals := 69 } : Room)).room s m ([.ref (ad (27)), .int x1, .int x2] : List Value).toArray below meth c H locs 0 0 (MQ below (qV G g ad n a0 x) ([.ref (ad (27)), .int x1, .int x2] : List Value).toArray s 0 0 (fun q : Nat => a0 ≤ q)) (F0 m 76 ls []) := by
    intro σ u1 u2 u3 u4 H locs ls hW hl hF
    unfold F_X7_hearSearch_L76 at hF
    refine lv_iload_n hx hb dX7_hearSearch_76 rfl (lv_at hl 3 rfl) ?_
    refine lv_iconst (v := 2) hx hb dX7_hearSearch_77 (by decide) ?_
    refine lv_icmp_eq (tgt := 86) hx hb dX7_hearSearch_78 (by decide) (fun hc21 => ?_) (fun hc21 => ?_)
    · replace hF := (if_pos hc21).symm.trans hF
      exact hL86 σ u1 u2 u3 u4 _ _ _  hW (lv_sub hl [0, 1, 2, 3, 4] rfl) hF
    · replace hF := (if_neg hc21).symm.trans hF
      refine lv_iload_n hx hb dX7_hearSearch_81 rfl (lv_at hl 3 rfl) ?_
      refine lv_iconst (v := 3) hx hb dX7_hearSearch_82 (by decide) ?_
      refine lv_icmp_ne (tgt := 130) hx hb dX7_hearSearch_83 (by decide) (fun hc22 => ?_) (fun hc22 => ?_)
      · replace hF := (if_neg hc22).symm.trans hF
        exact r_vret hx hb hr hlocks hW hF dX7_hearSearch_130
      · replace hF := (if_pos hc22).symm.trans hF
        exact hL86 σ u1 u2 u3 u4 _ _ _  hW (lv_sub hl [0, 1, 2, 3, 4] rfl) hF
  have hl := lv_entry ([.ref (ad (27)), .int x1, .int x2]) (n := 7) (Nat.le_of_ble_eq_true rfl)
  rw [lg_entry_eq]
  generalize (lg_sl ([.ref (ad (27)), .int x1, .int x2]) ++ List.replicate (7 - (lg_sl ([.ref (ad (27)), .int x1, .int x2])).length) Slot.unset).toArray = ls at hl ⊢
  have hl : lv_has ls 7 [(0, .ref (ad (27))), (1, .int x1), (2, .int x2)] := hl
  unfold F_X7_hearSearch at hF
  refine lv_aload_n hx hb dX7_hearSearch_0 rfl (lv_at hl 0 rfl) ?_
  refine lv_bipush (v := 21) hx hb dX7_hearSearch_1 (by decide) ?_
  obtain ⟨y23, hy23, hF⟩ := bd_some hF
  refine r_bi (va_runV (As := [.int 21]) (rest := []) ⟨hx, hb, hml, hown, htA⟩ (m_X7_two l G g ad n a0 aM σ 21 y23  hy23) (cwV 1 htA (gV aw_410 aw_411 aw_412 aw_382 gz_X7_two) rfl rfl rfl (by decide +kernel) ⟨Nat.le_of_ble_eq_true rfl, Nat.le_of_ble_eq_true rfl⟩) (r_preV hK hW (27) (tp_lt (by decide)) (cE_k (rfl : kd 27 = 9)) rfl [.int 21]) rfl rfl hl.1 rfl (lv_room (Nat.le_of_ble_eq_true rfl)) dX7_hearSearch_3 ⟨Nat.zero_le _, Nat.zero_le _⟩) hW (fun H locs hW => ?_)
  refine lv_istore_n (lv' := [(3, .int y23.2), (0, .ref (ad (27))), (1, .int x1), (2, .int x2)]) hx hb dX7_hearSearch_6 rfl hl (by decide) rfl (fun ls hl => ?_)
  refine lv_aload_n hx hb dX7_hearSearch_7 rfl (lv_at hl 1 rfl) ?_
  refine lv_bipush (v := 23) hx hb dX7_hearSearch_8 (by decide) ?_
  obtain ⟨y24, hy24, hF⟩ := bd_some hF
  refine r_bi (va_runV (As := [.int 23]) (rest := []) ⟨hx, hb, hml, hown, htA⟩ (m_X7_at l G g ad n a0 aM y23.1 23 y24  hy24) (cwV 1 htA (gV aw_398 aw_399 aw_400 aw_382 gz_X7_at) rfl rfl rfl (by decide +kernel) ⟨Nat.le_of_ble_eq_true rfl, Nat.le_of_ble_eq_true rfl⟩) (r_preV hK hW (27) (tp_lt (by decide)) (cE_k (rfl : kd 27 = 9)) rfl [.int 23]) rfl rfl hl.1 rfl (lv_room (Nat.le_of_ble_eq_true rfl)) dX7_hearSearch_10 ⟨Nat.zero_le _, Nat.zero_le _⟩) hW (fun H locs hW => ?_)
  refine lv_istore (lv' := [(4, .int y24.2), (3, .int y23.2), (0, .ref (ad (27))), (1, .int x1), (2, .int x2)]) hx hb dX7_hearSearch_13 hl (by decide) rfl (fun ls hl => ?_)
  refine lv_iload_n hx hb dX7_hearSearch_15 rfl (lv_at hl 1 rfl) ?_
  refine lv_iconst (v := 1) hx hb dX7_hearSearch_16 (by decide) ?_
  refine lv_icmp_ne (tgt := 76) hx hb dX7_hearSearch_17 (by decide) (fun hc25 => ?_) (fun hc25 => ?_)
  · replace hF := (if_neg hc25).symm.trans hF
    exact hL76 y24.1 x1 x2 y23.2 y24.2 _ _ _  hW (lv_sub hl [2, 3, 4, 1, 0] rfl) hF
  · replace hF := (if_pos hc25).symm.trans hF
    refine lv_iload hx hb dX7_hearSearch_20 (lv_at hl 0 rfl) ?_
    refine lv_bipush (v := 12) hx hb dX7_hearSearch_22 (by decide) ?_
    refine lv_icmp_ne (tgt := 76) hx hb dX7_hearSearch_24 (by decide) (fun hc26 => ?_) (fun hc26 => ?_)
    · replace hF := (if_neg hc26).symm.trans hF
      exact hL76 y24.1 x1 x2 y23.2 y24.2 _ _ _  hW (lv_sub hl [2, 3, 4, 1, 0] rfl) hF
    · replace hF := (if_pos hc26).symm.trans hF
      refine lv_aload_n hx hb dX7_hearSearch_27 rfl (lv_at hl 2 rfl) ?_
      refine lv_iload_n hx hb dX7_hearSearch_28 rfl (lv_at hl 3 rfl) ?_
      obtain ⟨y27, hy27, hF⟩ := bd_some hF
      refine r_bl (va_runV (As := [.int x1]) (rest := []) ⟨hx, hb, hml, hown, htA⟩ (m_X7_ownId l G g ad n a0 aM y24.1 x1 y27  hy27) (cwV 1 htA (gV aw_419 aw_420 aw_421 aw_382 gz_X7_ownId) rfl rfl rfl (by decide +kernel) ⟨Nat.le_of_ble_eq_true rfl, Nat.le_of_ble_eq_true rfl⟩) (r_preV hK hW (27) (tp_lt (by decide)) (cE_k (rfl : kd 27 = 9)) rfl [.int x1]) rfl rfl hl.1 rfl (lv_room (Nat.le_of_ble_eq_true rfl)) dX7_hearSearch_29 ⟨Nat.zero_le _, Nat.zero_le _⟩) hW (fun H locs hW => ?_)
      refine lv_lstore (lv' := [(5, .long y27.2), (4, .int y24.2), (3, .int y23.2), (0, .ref (ad (27))), (1, .int x1), (2, .int x2)]) hx hb dX7_hearSearch_32 hl (by decide) rfl (fun ls hl => ?_)
      refine lv_aload_n hx hb dX7_hearSearch_34 rfl (lv_at hl 3 rfl) ?_
      refine r_get (C := RX7) (T := TX7) (N := 39) hx hb htA ia_X7 hown hK hW (27) (tp_lt (by decide)) (cE_k (rfl : kd 27 = 9)) rfl 8 (by decide) (htA _ aw_358) rfl dX7_hearSearch_35 ?_
      refine lv_iload_n hx hb dX7_hearSearch_38 rfl (lv_at hl 4 rfl) ?_
      obtain ⟨hg28, hF⟩ := gd_some hF
      refine r_zald hx hb hK hW (34) (tp_lt (by decide)) (rfl : kd 34 = 11) hg28 dX7_hearSearch_39 ?_
      refine lv_if_ne (tgt := 73) hx hb dX7_hearSearch_40 (by decide) (fun hc29 => ?_) (fun hc29 => ?_)
      · replace hF := (if_neg hc29).symm.trans hF
        refine lv_goto (tgt := 130) hx hb dX7_hearSearch_73 (by decide) ?_
        exact r_vret hx hb hr hlocks hW hF dX7_hearSearch_130
      · replace hF := (if_pos hc29).symm.trans hF
        refine lv_lload hx hb dX7_hearSearch_43 (lv_at hl 0 rfl) ?_
        refine lv_aload_n hx hb dX7_hearSearch_45 rfl (lv_at hl 3 rfl) ?_
        refine lv_bipush (v := 24) hx hb dX7_hearSearch_46 (by decide) ?_
        obtain ⟨y30, hy30, hF⟩ := bd_some hF
        refine r_bl (va_runV (As := [.int 24]) (rest := [.long y27.2]) ⟨hx, hb, hml, hown, htA⟩ (m_X7_six l G g ad n a0 aM y27.1 24 y30  hy30) (cwV 1 htA (gV aw_435 aw_436 aw_437 aw_382 gz_X7_six) rfl rfl rfl (by decide +kernel) ⟨Nat.le_of_ble_eq_true rfl, Nat.le_of_ble_eq_true rfl⟩) (r_preV hK hW (27) (tp_lt (by decide)) (cE_k (rfl : kd 27 = 9)) rfl [.int 24]) rfl rfl hl.1 rfl (lv_room (Nat.le_of_ble_eq_true rfl)) dX7_hearSearch_48 ⟨Nat.zero_le _, Nat.zero_le _⟩) hW (fun H locs hW => ?_)
        refine W.lcmp hx hb dX7_hearSearch_51 ?_
        refine lv_if_lt (tgt := 73) hx hb dX7_hearSearch_52 (by decide) (fun hc31 => ?_) (fun hc31 => ?_)
        · replace hF := (if_pos hc31).symm.trans hF
          refine lv_goto (tgt := 130) hx hb dX7_hearSearch_73 (by decide) ?_
          exact r_vret hx hb hr hlocks hW hF dX7_hearSearch_130
        · replace hF := (if_neg hc31).symm.trans hF
          refine lv_lload hx hb dX7_hearSearch_55 (lv_at hl 0 rfl) ?_
          refine lv_aload_n hx hb dX7_hearSearch_57 rfl (lv_at hl 3 rfl) ?_
          refine lv_bipush (v := 30) hx hb dX7_hearSearch_58 (by decide) ?_
          obtain ⟨y32, hy32, hF⟩ := bd_some hF
          refine r_bl (va_runV (As := [.int 30]) (rest := [.long y27.2]) ⟨hx, hb, hml, hown, htA⟩ (m_X7_six l G g ad n a0 aM y30.1 30 y32  hy32) (cwV 1 htA (gV aw_435 aw_436 aw_437 aw_382 gz_X7_six) rfl rfl rfl (by decide +kernel) ⟨Nat.le_of_ble_eq_true rfl, Nat.le_of_ble_eq_true rfl⟩) (r_preV hK hW (27) (tp_lt (by decide)) (cE_k (rfl : kd 27 = 9)) rfl [.int 30]) rfl rfl hl.1 rfl (lv_room (Nat.le_of_ble_eq_true rfl)) dX7_hearSearch_60 ⟨Nat.zero_le _, Nat.zero_le _⟩) hW (fun H locs hW => ?_)
          refine W.lcmp hx hb dX7_hearSearch_63 ?_
          refine lv_if_gt (tgt := 73) hx hb dX7_hearSearch_64 (by decide) (fun hc33 => ?_) (fun hc33 => ?_)
          · replace hF := (if_pos hc33).symm.trans hF
            refine lv_goto (tgt := 130) hx hb dX7_hearSearch_73 (by decide) ?_
            exact r_vret hx hb hr hlocks hW hF dX7_hearSearch_130
          · replace hF := (if_neg hc33).symm.trans hF
            refine lv_aload_n hx hb dX7_hearSearch_67 rfl (lv_at hl 3 rfl) ?_
            refine lv_lload hx hb dX7_hearSearch_68 (lv_at hl 0 rfl) ?_
            obtain ⟨y34, hy34, hF⟩ := bd_some hF
            refine r_bv (va_runV (As := [.long y27.2]) (rest := []) ⟨hx, hb, hml, hown, htA⟩ (m_X7_show l G g ad n a0 aM y32.1 y27.2 y34  hy34) (cwV 1 htA (gV aw_439 aw_440 aw_441 aw_382 gz_X7_show) rfl rfl rfl (by decide +kernel) ⟨Nat.le_of_ble_eq_true rfl, Nat.le_of_ble_eq_true rfl⟩) (r_preV hK hW (27) (tp_lt (by decide)) (cE_k (rfl : kd 27 = 9)) rfl [.long y27.2]) rfl rfl hl.1 rfl (lv_room (Nat.le_of_ble_eq_true rfl)) dX7_hearSearch_70 ⟨Nat.zero_le _, Nat.zero_le _⟩) hW (fun H locs hW => ?_)
            refine lv_goto (tgt := 130) hx hb dX7_hearSearch_73 (by decide) ?_
            exact r_vret hx hb hr hlocks hW hF dX7_hearSearch_130
def F_X7_refuse (σ : St) (x1 : Int32) (x2 : Int32) (x3 : Int32) : Option (St) := if x2 = 0 then some σ else (F_X7_at σ 20).bind (fun y7 => (F_X7_two y7.1 21).bind (fun y8 => (F_X7_begin y8.1 x1 2 (y7.2 + 1) y8.2).bind (fun y9 => (F_X7_putTwo y9 x3).bind (fun y10 => (F_X7_finish y10 x1).bind (fun y11 => some y11)))))
set_option maxHeartbeats 4000000 in
set_option maxRecDepth 100000 in
theorem m_X7_refuse (l : Launch) (G : va_G) (g : Nat → ClassId) (ad : Nat → Nat) (n a0 aM : Nat) (σ : St) (x1 : Int32) (x2 : Int32) (x3 : Int32) (x : St) (hF : F_X7_refuse σ x1 x2 x3 = some x) : Met l yX7_refuse zs_X7_refuse ({ frames := 3, cells := 0, slots := 0, locals := 69 } : Room) (va_Pc [.ref (ad (27)), .int x1, .int x2, .int x3] (wP G g ad n a0 aM σ)) (qV G g ad n a0 x) 0 0 (fun q : Nat => a0 ≤ q) := by
  refine Met.ofW (cc := cX7_refuse) (maxL := 4) (ret := none) (by decide) rfl ?_
  intro p e s m args below meth c s₁ B hml hv
  obtain ⟨rfl, hP, hD, hK⟩ := hv
  have hx := B.exec
  have hb := B.bytes
  have hr := B.returns
  have htA : ∀ w ∈ AL, w.before _ s = true := fun w h9 => atoms_spec (ws := zs_X7_refuse) B.pre w (List.mem_cons_of_mem _ h9)
  have hown : s.vm.findClass RX7 = some m.cls := findClass_of_methodNamed B.named
  have hlocks := B.notSynchronized
  have hW : Wd G g ad n a0 s.heap σ s.heap [] := ⟨hP, hD, va_S.rf⟩
  clear hP hD
  have hl := lv_entry ([.ref (ad (27)), .int x1, .int x2, .int x3]) (n := 4) (Nat.le_of_ble_eq_true rfl)
  rw [lg_entry_eq]
  generalize (lg_sl ([.ref (ad (27)), .int x1, .int x2, .int x3]) ++ List.replicate (4 - (lg_sl ([.ref (ad (27)), .int x1, .int x2, .int x3])).length) Slot.unset).toArray = ls at hl ⊢
  have hl : lv_has ls 4 [(0, .ref (ad (27))), (1, .int x1), (2, .int x2), (3, .int x3)] := hl
  unfold F_X7_refuse at hF
  refine lv_iload_n hx hb dX7_refuse_0 rfl (lv_at hl 2 rfl) ?_
  refine lv_if_eq (tgt := 34) hx hb dX7_refuse_1 (by decide) (fun hc6 => ?_) (fun hc6 => ?_)
  · replace hF := (if_pos hc6).symm.trans hF
    exact r_vret hx hb hr hlocks hW hF dX7_refuse_34
  · replace hF := (if_neg hc6).symm.trans hF
    refine lv_aload_n hx hb dX7_refuse_4 rfl (lv_at hl 0 rfl) ?_
    refine lv_iload_n hx hb dX7_refuse_5 rfl (lv_at hl 1 rfl) ?_
    refine lv_iconst (v := 2) hx hb dX7_refuse_6 (by decide) ?_
    refine lv_aload_n hx hb dX7_refuse_7 rfl (lv_at hl 0 rfl) ?_
    refine lv_bipush (v := 20) hx hb dX7_refuse_8 (by decide) ?_
    obtain ⟨y7, hy7, hF⟩ := bd_some hF
    refine r_bi (va_runV (As := [.int 20]) (rest := [.int 2, .int x1, .ref (ad (27))]) ⟨hx, hb, hml, hown, htA⟩ (m_X7_at l G g ad n a0 aM σ 20 y7  hy7) (cwV 1 htA (gV aw_398 aw_399 aw_400 aw_382 gz_X7_at) rfl rfl rfl (by decide +kernel) ⟨Nat.le_of_ble_eq_true rfl, Nat.le_of_ble_eq_true rfl⟩) (r_preV hK hW (27) (tp_lt (by decide)) (cE_k (rfl : kd 27 = 9)) rfl [.int 20]) rfl rfl hl.1 rfl (lv_room (Nat.le_of_ble_eq_true rfl)) dX7_refuse_10 ⟨Nat.zero_le _, Nat.zero_le _⟩) hW (fun H locs hW => ?_)
    refine lv_iconst (v := 1) hx hb dX7_refuse_13 (by decide) ?_
    refine lv_iadd hx hb dX7_refuse_14 ?_
    refine lv_aload_n hx hb dX7_refuse_15 rfl (lv_at hl 0 rfl) ?_
    refine lv_bipush (v := 21) hx hb dX7_refuse_16 (by decide) ?_
    obtain ⟨y8, hy8, hF⟩ := bd_some hF
    refine r_bi (va_runV (As := [.int 21]) (rest := [.int (y7.2 + 1), .int 2, .int x1, .ref (ad (27))]) ⟨hx, hb, hml, hown, htA⟩ (m_X7_two l G g ad n a0 aM y7.1 21 y8  hy8) (cwV 1 htA (gV aw_410 aw_411 aw_412 aw_382 gz_X7_two) rfl rfl rfl (by decide +kernel) ⟨Nat.le_of_ble_eq_true rfl, Nat.le_of_ble_eq_true rfl⟩) (r_preV hK hW (27) (tp_lt (by decide)) (cE_k (rfl : kd 27 = 9)) rfl [.int 21]) rfl rfl hl.1 rfl (lv_room (Nat.le_of_ble_eq_true rfl)) dX7_refuse_18 ⟨Nat.zero_le _, Nat.zero_le _⟩) hW (fun H locs hW => ?_)
    obtain ⟨y9, hy9, hF⟩ := bd_some hF
    refine r_bv (va_runV (As := [.int x1, .int 2, .int (y7.2 + 1), .int y8.2]) (rest := []) ⟨hx, hb, hml, hown, htA⟩ (m_X7_begin l G g ad n a0 aM y8.1 x1 2 (y7.2 + 1) y8.2 y9  hy9) (cwV 4 htA (gV aw_443 aw_444 aw_445 aw_382 gz_X7_begin) rfl rfl rfl (by decide +kernel) ⟨Nat.le_of_ble_eq_true rfl, Nat.le_of_ble_eq_true rfl⟩) (r_preV hK hW (27) (tp_lt (by decide)) (cE_k (rfl : kd 27 = 9)) rfl [.int x1, .int 2, .int (y7.2 + 1), .int y8.2]) rfl rfl hl.1 rfl (lv_room (Nat.le_of_ble_eq_true rfl)) dX7_refuse_21 ⟨Nat.zero_le _, Nat.zero_le _⟩) hW (fun H locs hW => ?_)
    refine lv_aload_n hx hb dX7_refuse_24 rfl (lv_at hl 0 rfl) ?_
    refine lv_iload_n hx hb dX7_refuse_25 rfl (lv_at hl 3 rfl) ?_
    obtain ⟨y10, hy10, hF⟩ := bd_some hF
    refine r_bv (va_runV (As := [.int x3]) (rest := []) ⟨hx, hb, hml, hown, htA⟩ (m_X7_putTwo l G g ad n a0 aM y9 x3 y10  hy10) (cwV 1 htA (gV aw_427 aw_428 aw_429 aw_382 gz_X7_putTwo) rfl rfl rfl (by decide +kernel) ⟨Nat.le_of_ble_eq_true rfl, Nat.le_of_ble_eq_true rfl⟩) (r_preV hK hW (27) (tp_lt (by decide)) (cE_k (rfl : kd 27 = 9)) rfl [.int x3]) rfl rfl hl.1 rfl (lv_room (Nat.le_of_ble_eq_true rfl)) dX7_refuse_26 ⟨Nat.zero_le _, Nat.zero_le _⟩) hW (fun H locs hW => ?_)
    refine lv_aload_n hx hb dX7_refuse_29 rfl (lv_at hl 0 rfl) ?_
    refine lv_iload_n hx hb dX7_refuse_30 rfl (lv_at hl 1 rfl) ?_
    obtain ⟨y11, hy11, hF⟩ := bd_some hF
    refine r_bv (va_runV (As := [.int x1]) (rest := []) ⟨hx, hb, hml, hown, htA⟩ (m_X7_finish l G g ad n a0 aM y10 x1 y11  hy11) (cwV 1 htA (gV aw_447 aw_448 aw_449 aw_382 gz_X7_finish) rfl rfl rfl (by decide +kernel) ⟨Nat.le_of_ble_eq_true rfl, Nat.le_of_ble_eq_true rfl⟩) (r_preV hK hW (27) (tp_lt (by decide)) (cE_k (rfl : kd 27 = 9)) rfl [.int x1]) rfl rfl hl.1 rfl (lv_room (Nat.le_of_ble_eq_true rfl)) dX7_refuse_31 ⟨Nat.zero_le _, Nat.zero_le _⟩) hW (fun H locs hW => ?_)
    exact r_vret hx hb hr hlocks hW hF dX7_refuse_34
def F_X7_isMatter (σ : St) (x0 : Int32) : Option (St × Int32) := if x0 = 80 then some (σ, 1) else if x0 = 96 then some (σ, 1) else if x0 = 128 then some (σ, 1) else if x0 = 130 then some (σ, 1) else if x0 = 224 then some (σ, 1) else if x0 = 240 then some (σ, 1) else if x0 = 4096 then some (σ, 1) else if x0 = 32 then some (σ, 1) else some (σ, 0)
set_option maxHeartbeats 4000000 in
set_option maxRecDepth 100000 in
theorem m_X7_isMatter (l : Launch) (G : va_G) (g : Nat → ClassId) (ad : Nat → Nat) (n a0 aM : Nat) (σ : St) (x0 : Int32) (x : St × Int32) (hF : F_X7_isMatter σ x0 = some x) : Met l yX7_isMatter zs_X7_isMatter ({ frames := 0, cells := 0, slots := 0, locals := 0 } : Room) (va_Pc [.int x0] (wP G g ad n a0 aM σ)) (qI G g ad n a0 x) 0 0 (fun q : Nat => a0 ≤ q) := by
  refine Met.ofW (cc := cX7_isMatter) (maxL := 1) (ret := (some .boolean)) (by decide) rfl ?_
  intro p e s m args below meth c s₁ B hml hv
  obtain ⟨rfl, hP, hD, hK⟩ := hv
  have hx := B.exec
  have hb := B.bytes
  have hr := B.returns
  have htA : ∀ w ∈ AL, w.before _ s = true := fun w h9 => atoms_spec (ws := zs_X7_isMatter) B.pre w (List.mem_cons_of_mem _ h9)
  have hown : s.vm.findClass RX7 = some m.cls := findClass_of_methodNamed B.named
  have hlocks := B.notSynchronized
  have hW : Wd G g ad n a0 s.heap σ s.heap [] := ⟨hP, hD, va_S.rf⟩
  clear hP hD
  have hl := lv_entry ([.int x0]) (n := 1) (Nat.le_of_ble_eq_true rfl)
  rw [lg_entry_eq]
  generalize (lg_sl ([.int x0]) ++ List.replicate (1 - (lg_sl ([.int x0])).length) Slot.unset).toArray = ls at hl ⊢
  have hl : lv_has ls 1 [(0, .int x0)] := hl
  unfold F_X7_isMatter at hF
  refine lv_iload_n hx hb dX7_isMatter_0 rfl (lv_at hl 0 rfl) ?_
  refine lv_bipush (v := 80) hx hb dX7_isMatter_1 (by decide) ?_
  refine lv_icmp_eq (tgt := 53) hx hb dX7_isMatter_3 (by decide) (fun hc1 => ?_) (fun hc1 => ?_)
  · replace hF := (if_pos hc1).symm.trans hF
    refine lv_iconst (v := 1) hx hb dX7_isMatter_53 (by decide) ?_
    refine lv_goto (tgt := 58) hx hb dX7_isMatter_54 (by decide) ?_
    exact r_zret hx hb hr hlocks hW rfl hF dX7_isMatter_58
  · replace hF := (if_neg hc1).symm.trans hF
    refine lv_iload_n hx hb dX7_isMatter_6 rfl (lv_at hl 0 rfl) ?_
    refine lv_bipush (v := 96) hx hb dX7_isMatter_7 (by decide) ?_
    refine lv_icmp_eq (tgt := 53) hx hb dX7_isMatter_9 (by decide) (fun hc2 => ?_) (fun hc2 => ?_)
    · replace hF := (if_pos hc2).symm.trans hF
      refine lv_iconst (v := 1) hx hb dX7_isMatter_53 (by decide) ?_
      refine lv_goto (tgt := 58) hx hb dX7_isMatter_54 (by decide) ?_
      exact r_zret hx hb hr hlocks hW rfl hF dX7_isMatter_58
    · replace hF := (if_neg hc2).symm.trans hF
      refine lv_iload_n hx hb dX7_isMatter_12 rfl (lv_at hl 0 rfl) ?_
      refine lv_sipush (v := 128) hx hb dX7_isMatter_13 (by decide) ?_
      refine lv_icmp_eq (tgt := 53) hx hb dX7_isMatter_16 (by decide) (fun hc3 => ?_) (fun hc3 => ?_)
      · replace hF := (if_pos hc3).symm.trans hF
        refine lv_iconst (v := 1) hx hb dX7_isMatter_53 (by decide) ?_
        refine lv_goto (tgt := 58) hx hb dX7_isMatter_54 (by decide) ?_
        exact r_zret hx hb hr hlocks hW rfl hF dX7_isMatter_58
      · replace hF := (if_neg hc3).symm.trans hF
        refine lv_iload_n hx hb dX7_isMatter_19 rfl (lv_at hl 0 rfl) ?_
        refine lv_sipush (v := 130) hx hb dX7_isMatter_20 (by decide) ?_
        refine lv_icmp_eq (tgt := 53) hx hb dX7_isMatter_23 (by decide) (fun hc4 => ?_) (fun hc4 => ?_)
        · replace hF := (if_pos hc4).symm.trans hF
          refine lv_iconst (v := 1) hx hb dX7_isMatter_53 (by decide) ?_
          refine lv_goto (tgt := 58) hx hb dX7_isMatter_54 (by decide) ?_
          exact r_zret hx hb hr hlocks hW rfl hF dX7_isMatter_58
        · replace hF := (if_neg hc4).symm.trans hF
          refine lv_iload_n hx hb dX7_isMatter_26 rfl (lv_at hl 0 rfl) ?_
          refine lv_sipush (v := 224) hx hb dX7_isMatter_27 (by decide) ?_
          refine lv_icmp_eq (tgt := 53) hx hb dX7_isMatter_30 (by decide) (fun hc5 => ?_) (fun hc5 => ?_)
          · replace hF := (if_pos hc5).symm.trans hF
            refine lv_iconst (v := 1) hx hb dX7_isMatter_53 (by decide) ?_
            refine lv_goto (tgt := 58) hx hb dX7_isMatter_54 (by decide) ?_
            exact r_zret hx hb hr hlocks hW rfl hF dX7_isMatter_58
          · replace hF := (if_neg hc5).symm.trans hF
            refine lv_iload_n hx hb dX7_isMatter_33 rfl (lv_at hl 0 rfl) ?_
            refine lv_sipush (v := 240) hx hb dX7_isMatter_34 (by decide) ?_
            refine lv_icmp_eq (tgt := 53) hx hb dX7_isMatter_37 (by decide) (fun hc6 => ?_) (fun hc6 => ?_)
            · replace hF := (if_pos hc6).symm.trans hF
              refine lv_iconst (v := 1) hx hb dX7_isMatter_53 (by decide) ?_
              refine lv_goto (tgt := 58) hx hb dX7_isMatter_54 (by decide) ?_
              exact r_zret hx hb hr hlocks hW rfl hF dX7_isMatter_58
            · replace hF := (if_neg hc6).symm.trans hF
              refine lv_iload_n hx hb dX7_isMatter_40 rfl (lv_at hl 0 rfl) ?_
              refine lv_sipush (v := 4096) hx hb dX7_isMatter_41 (by decide) ?_
              refine lv_icmp_eq (tgt := 53) hx hb dX7_isMatter_44 (by decide) (fun hc7 => ?_) (fun hc7 => ?_)
              · replace hF := (if_pos hc7).symm.trans hF
                refine lv_iconst (v := 1) hx hb dX7_isMatter_53 (by decide) ?_
                refine lv_goto (tgt := 58) hx hb dX7_isMatter_54 (by decide) ?_
                exact r_zret hx hb hr hlocks hW rfl hF dX7_isMatter_58
              · replace hF := (if_neg hc7).symm.trans hF
                refine lv_iload_n hx hb dX7_isMatter_47 rfl (lv_at hl 0 rfl) ?_
                refine lv_bipush (v := 32) hx hb dX7_isMatter_48 (by decide) ?_
                refine lv_icmp_ne (tgt := 57) hx hb dX7_isMatter_50 (by decide) (fun hc8 => ?_) (fun hc8 => ?_)
                · replace hF := (if_neg hc8).symm.trans hF
                  refine lv_iconst (v := 0) hx hb dX7_isMatter_57 (by decide) ?_
                  exact r_zret hx hb hr hlocks hW rfl hF dX7_isMatter_58
                · replace hF := (if_pos hc8).symm.trans hF
                  refine lv_iconst (v := 1) hx hb dX7_isMatter_53 (by decide) ?_
                  refine lv_goto (tgt := 58) hx hb dX7_isMatter_54 (by decide) ?_
                  exact r_zret hx hb hr hlocks hW rfl hF dX7_isMatter_58
def F_X7_tell_L379 (σ : St) (z0 : Int32) : Option (St) := (F_X7_put σ z0).bind (fun y43 => some y43)
def F_X7_tell_L325 (σ : St) : Option (St) := some σ
def F_X7_tell_L294 (K325 : St → Option (St)) : Nat → St → Int32 → Int32 → Option (St)
  | 0, _, _, _ => none
  | fz + 1, σ, u1, u3 => gd (ib u1 (ln (36))) (if (σ.1 (36) (Int32.toNatClampNeg u1)) ≤ u3 then K325 σ else gd (ib ((32 * u1) + u3) (ln (37))) ((F_X7_put σ (σ.1 (37) (Int32.toNatClampNeg ((32 * u1) + u3)))).bind (fun y47 => (F_X7_tell_L294 K325 fz) y47 u1 (u3 + 1))))
def F_X7_tell_L289 (σ : St) : Option (St) := some σ
def F_X7_tell_L280 (B238 : St → Int32 → Int32 → Option (St)) (K289 : St → Option (St)) (σ : St) (u1 : Int32) (u3 : Int32) (z0 : Int32) : Option (St) := (F_X7_put σ z0).bind (fun y48 => B238 y48 u1 (u3 + (-4)))
def F_X7_tell_L238 (K289 : St → Option (St)) : Nat → St → Int32 → Int32 → Option (St)
  | 0, _, _, _ => none
  | fz + 1, σ, u1, u3 => if u3 < 0 then K289 σ else gd (ib u1 (ln (29))) (if 10 ≤ ((Int64.toInt32 ((σ.2 (29) (Int32.toNatClampNeg u1)) >>> ((Int32.toInt64 u3) &&& 63))) &&& 15) then F_X7_tell_L280 (F_X7_tell_L238 K289 fz) K289 σ u1 u3 ((65 + ((Int64.toInt32 ((σ.2 (29) (Int32.toNatClampNeg u1)) >>> ((Int32.toInt64 u3) &&& 63))) &&& 15)) - 10) else F_X7_tell_L280 (F_X7_tell_L238 K289 fz) K289 σ u1 u3 (48 + ((Int64.toInt32 ((σ.2 (29) (Int32.toNatClampNeg u1)) >>> ((Int32.toInt64 u3) &&& 63))) &&& 15)))
def F_X7_tell (σ : St) (x1 : Int32) (x2 : Int32) : Option (St) := if x2 = 80 then (F_X7_putTwo σ 80).bind (fun y52 => (F_X7_putTwo y52 96).bind (fun y53 => (F_X7_putTwo y53 128).bind (fun y54 => (F_X7_putTwo y54 130).bind (fun y55 => (F_X7_putTwo y55 224).bind (fun y56 => (F_X7_putTwo y56 240).bind (fun y57 => (F_X7_putTwo y57 4096).bind (fun y58 => (F_X7_putTwo y58 32).bind (fun y59 => some y59)))))))) else if x2 = 96 then gd (ib x1 (ln (28))) ((F_X7_putTwo σ (σ.1 (28) (Int32.toNatClampNeg x1))).bind (fun y61 => gd (ib x1 (ln (29))) ((F_X7_putTwo y61 (Int64.toInt32 ((y61.2 (29) (Int32.toNatClampNeg x1)) >>> ((Int32.toInt64 16) &&& 63)))).bind (fun y63 => gd (ib x1 (ln (29))) ((F_X7_putTwo y63 (Int64.toInt32 (y63.2 (29) (Int32.toNatClampNeg x1)))).bind (fun y65 => (F_X7_footprint y65 x1).bind (fun y66 => (F_X7_putTwo y66.1 y66.2).bind (fun y67 => gd (ib x1 (ln (32))) ((F_X7_put y67 (y67.1 (32) (Int32.toNatClampNeg x1))).bind (fun y69 => gd (ib x1 (ln (31))) ((F_X7_put y69 (y69.1 (31) (Int32.toNatClampNeg x1))).bind (fun y71 => gd (ib x1 (ln (33))) ((F_X7_putTwo y71 (y71.1 (33) (Int32.toNatClampNeg x1))).bind (fun y73 => (F_X7_putTwo y73 0).bind (fun y74 => gd (ib x1 (ln (38))) ((F_X7_putTwo y74 ((y74.1 (38) (Int32.toNatClampNeg x1)) - (y74.1 (38) (Int32.toNatClampNeg x1)) / 65536 * 65536)).bind (fun y76 => some y76))))))))))))))))) else if x2 = 128 then (F_X7_put σ 76).bind (fun y77 => (F_X7_put y77 65).bind (fun y78 => (F_X7_put y78 77).bind (fun y79 => (F_X7_put y79 80).bind (fun y80 => F_X7_tell_L238 F_X7_tell_L289 fu y80 x1 28)))) else if x2 = 130 then F_X7_tell_L294 F_X7_tell_L325 fu σ x1 0 else if x2 = 224 then gd (ib x1 (ln (32))) ((F_X7_put σ (σ.1 (32) (Int32.toNatClampNeg x1))).bind (fun y82 => gd (ib x1 (ln (31))) ((F_X7_put y82 (y82.1 (31) (Int32.toNatClampNeg x1))).bind (fun y84 => some y84)))) else if x2 = 240 then gd (ib x1 (ln (33))) ((F_X7_putTwo σ (σ.1 (33) (Int32.toNatClampNeg x1))).bind (fun y86 => some y86)) else gd (ib x1 (ln (35))) (if (σ.1 (35) (Int32.toNatClampNeg x1)) = 0 then F_X7_tell_L379 σ 0 else F_X7_tell_L379 σ 1)
set_option maxHeartbeats 4000000 in
set_option maxRecDepth 100000 in
theorem m_X7_tell (l : Launch) (G : va_G) (g : Nat → ClassId) (ad : Nat → Nat) (n a0 aM : Nat) (σ : St) (x1 : Int32) (x2 : Int32) (x : St) (hF : F_X7_tell σ x1 x2 = some x) : Met l yX7_tell zs_X7_tell ({ frames := 2, cells := 0, slots := 0, locals := 42 } : Room) (va_Pc [.ref (ad (27)), .int x1, .int x2] (wP G g ad n a0 aM σ)) (qV G g ad n a0 x) 0 0 (fun q : Nat => a0 ≤ q) := by
  refine Met.ofW (cc := cX7_tell) (maxL := 5) (ret := none) (by decide) rfl ?_
  intro p e s m args below meth c s₁ B hml hv
  obtain ⟨rfl, hP, hD, hK⟩ := hv
  have hx := B.exec
  have hb := B.bytes
  have hr := B.returns
  have htA : ∀ w ∈ AL, w.before _ s = true := fun w h9 => atoms_spec (ws := zs_X7_tell) B.pre w (List.mem_cons_of_mem _ h9)
  have hown : s.vm.findClass RX7 = some m.cls := findClass_of_methodNamed B.named
  have hlocks := B.notSynchronized
  have hW : Wd G g ad n a0 s.heap σ s.heap [] := ⟨hP, hD, va_S.rf⟩
  clear hP hD
  have hL379 : ∀ (σ : St) (z0 : Int32) (H : Heap) (locs : List Loc) (ls : Array Slot), Wd G g ad n a0 s.heap σ H locs → lv_has ls 5 [] → F_X7_tell_L379  σ z0 = some x → W p l e (headSpec zs_X7_tell ({ frames := 2, cells := 0, slots := 0, locals := 42 } : Room)).room s m ([.ref (ad (27)), .int x1, .int x2] : List Value).toArray below meth c H locs 0 0 (MQ below (qV G g ad n a0 x) ([.ref (ad (27)), .int x1, .int x2] : List Value).toArray s 0 0 (fun q : Nat => a0 ≤ q)) (F0 m 379 ls [.int z0, .ref (ad (27))]) := by
    intro σ z0 H locs ls hW hl hF
    unfold F_X7_tell_L379 at hF
    obtain ⟨y43, hy43, hF⟩ := bd_some hF
    refine r_bv (va_runV (As := [.int z0]) (rest := []) ⟨hx, hb, hml, hown, htA⟩ (m_X7_put l G g ad n a0 aM σ z0 y43  hy43) (cwV 1 htA (gV aw_415 aw_416 aw_417 aw_382 gz_X7_put) rfl rfl rfl (by decide +kernel) ⟨Nat.le_of_ble_eq_true rfl, Nat.le_of_ble_eq_true rfl⟩) (r_preV hK hW (27) (tp_lt (by decide)) (cE_k (rfl : kd 27 = 9)) rfl [.int z0]) rfl rfl hl.1 rfl (lv_room (Nat.le_of_ble_eq_true rfl)) dX7_tell_379 ⟨Nat.zero_le _, Nat.zero_le _⟩) hW (fun H locs hW => ?_)
    exact r_vret hx hb hr hlocks hW hF dX7_tell_382
  have hL325 : ∀ (σ : St) (H : Heap) (locs : List Loc) (ls : Array Slot), Wd G g ad n a0 s.heap σ H locs → lv_has ls 5 [] → F_X7_tell_L325  σ = some x → W p l e (headSpec zs_X7_tell ({ frames := 2, cells := 0, slots := 0, locals := 42 } : Room)).room s m ([.ref (ad (27)), .int x1, .int x2] : List Value).toArray below meth c H locs 0 0 (MQ below (qV G g ad n a0 x) ([.ref (ad (27)), .int x1, .int x2] : List Value).toArray s 0 0 (fun q : Nat => a0 ≤ q)) (F0 m 325 ls []) := by
    intro σ H locs ls hW hl hF
    unfold F_X7_tell_L325 at hF
    refine lv_goto (tgt := 382) hx hb dX7_tell_325 (by decide) ?_
    exact r_vret hx hb hr hlocks hW hF dX7_tell_382
  have hL294 : ∀ (fz294 : Nat) (σ : St) (u1 : Int32) (u3 : Int32) (H : Heap) (locs : List Loc) (ls : Array Slot), Wd G g ad n a0 s.heap σ H locs → lv_has ls 5 [(0, .ref (ad (27))), (1, .int u1), (3, .int u3)] → F_X7_tell_L294 (F_X7_tell_L325) fz294 σ u1 u3 = some x → W p l e (headSpec zs_X7_tell ({ frames := 2, cells := 0, slots := 0, locals := 42 } : Room)).room s m ([.ref (ad (27)), .int x1, .int x2] : List Value).toArray below meth c H locs 0 0 (MQ below (qV G g ad n a0 x) ([.ref (ad (27)), .int x1, .int x2] : List Value).toArray s 0 0 (fun q : Nat => a0 ≤ q)) (F0 m 294 ls []) := by
    intro fz294
    induction fz294 with
    | zero =>
      intro σ u1 u3 H locs ls hW hl hF
      exact absurd hF (by simp [F_X7_tell_L294])
    | succ fz294 ih =>
      have hB294 := ih
      intro σ u1 u3 H locs ls hW hl hF
      unfold F_X7_tell_L294 at hF
      refine lv_iload_n hx hb dX7_tell_294 rfl (lv_at hl 2 rfl) ?_
      refine lv_aload_n hx hb dX7_tell_295 rfl (lv_at hl 0 rfl) ?_
      refine r_get (C := RX7) (T := TX7) (N := 39) hx hb htA ia_X7 hown hK hW (27) (tp_lt (by decide)) (cE_k (rfl : kd 27 = 9)) rfl 10 (by decide) (htA _ aw_360) rfl dX7_tell_296 ?_
      refine lv_iload_n hx hb dX7_tell_299 rfl (lv_at hl 1 rfl) ?_
      obtain ⟨hg44, hF⟩ := gd_some hF
      refine r_iald hx hb hK hW (36) (tp_lt (by decide)) (rfl : kd 36 = 3) hg44 dX7_tell_300 ?_
      refine lv_icmp_ge (tgt := 325) hx hb dX7_tell_301 (by decide) (fun hc45 => ?_) (fun hc45 => ?_)
      · replace hF := (if_pos hc45).symm.trans hF
        exact hL325 σ _ _ _  hW (lv_sub hl [] rfl) hF
      · replace hF := (if_neg hc45).symm.trans hF
        refine lv_aload_n hx hb dX7_tell_304 rfl (lv_at hl 0 rfl) ?_
        refine lv_aload_n hx hb dX7_tell_305 rfl (lv_at hl 0 rfl) ?_
        refine r_get (C := RX7) (T := TX7) (N := 39) hx hb htA ia_X7 hown hK hW (27) (tp_lt (by decide)) (cE_k (rfl : kd 27 = 9)) rfl 11 (by decide) (htA _ aw_362) rfl dX7_tell_306 ?_
        refine lv_bipush (v := 32) hx hb dX7_tell_309 (by decide) ?_
        refine lv_iload_n hx hb dX7_tell_311 rfl (lv_at hl 1 rfl) ?_
        refine lv_imul hx hb dX7_tell_312 ?_
        refine lv_iload_n hx hb dX7_tell_313 rfl (lv_at hl 2 rfl) ?_
        refine lv_iadd hx hb dX7_tell_314 ?_
        obtain ⟨hg46, hF⟩ := gd_some hF
        refine r_bald hx hb hK hW (37) (tp_lt (by decide)) (rfl : kd 37 = 10) hg46 dX7_tell_315 ?_
        obtain ⟨y47, hy47, hF⟩ := bd_some hF
        refine r_bv (va_runV (As := [.int (σ.1 (37) (Int32.toNatClampNeg ((32 * u1) + u3)))]) (rest := []) ⟨hx, hb, hml, hown, htA⟩ (m_X7_put l G g ad n a0 aM σ (σ.1 (37) (Int32.toNatClampNeg ((32 * u1) + u3))) y47  hy47) (cwV 1 htA (gV aw_415 aw_416 aw_417 aw_382 gz_X7_put) rfl rfl rfl (by decide +kernel) ⟨Nat.le_of_ble_eq_true rfl, Nat.le_of_ble_eq_true rfl⟩) (r_preV hK hW (27) (tp_lt (by decide)) (cE_k (rfl : kd 27 = 9)) rfl [.int (σ.1 (37) (Int32.toNatClampNeg ((32 * u1) + u3)))]) rfl rfl hl.1 rfl (lv_room (Nat.le_of_ble_eq_true rfl)) dX7_tell_316 ⟨Nat.zero_le _, Nat.zero_le _⟩) hW (fun H locs hW => ?_)
        refine lv_iinc (v := (u3 + 1)) (lv' := [(3, .int (u3 + 1)), (0, .ref (ad (27))), (1, .int u1)]) hx hb dX7_tell_319 hl (k := 2) rfl rfl (by decide) rfl (fun ls hl => ?_)
        refine lv_goto (tgt := 294) hx hb dX7_tell_322 (by decide) ?_
        exact hB294 y47 u1 (u3 + 1) _ _ _  hW (lv_sub hl [1, 2, 0] rfl) hF
  have hL294 := hL294 fu
  have hL289 : ∀ (σ : St) (H : Heap) (locs : List Loc) (ls : Array Slot), Wd G g ad n a0 s.heap σ H locs → lv_has ls 5 [] → F_X7_tell_L289  σ = some x → W p l e (headSpec zs_X7_tell ({ frames := 2, cells := 0, slots := 0, locals := 42 } : Room)).room s m ([.ref (ad (27)), .int x1, .int x2] : List Value).toArray below meth c H locs 0 0 (MQ below (qV G g ad n a0 x) ([.ref (ad (27)), .int x1, .int x2] : List Value).toArray s 0 0 (fun q : Nat => a0 ≤ q)) (F0 m 289 ls []) := by
    intro σ H locs ls hW hl hF
    unfold F_X7_tell_L289 at hF
    refine lv_goto (tgt := 382) hx hb dX7_tell_289 (by decide) ?_
    exact r_vret hx hb hr hlocks hW hF dX7_tell_382
  have hL238 : ∀ (fz238 : Nat) (σ : St) (u1 : Int32) (u3 : Int32) (H : Heap) (locs : List Loc) (ls : Array Slot), Wd G g ad n a0 s.heap σ H locs → lv_has ls 5 [(0, .ref (ad (27))), (1, .int u1), (3, .int u3)] → F_X7_tell_L238 (F_X7_tell_L289) fz238 σ u1 u3 = some x → W p l e (headSpec zs_X7_tell ({ frames := 2, cells := 0, slots := 0, locals := 42 } : Room)).room s m ([.ref (ad (27)), .int x1, .int x2] : List Value).toArray below meth c H locs 0 0 (MQ below (qV G g ad n a0 x) ([.ref (ad (27)), .int x1, .int x2] : List Value).toArray s 0 0 (fun q : Nat => a0 ≤ q)) (F0 m 238 ls []) := by
    intro fz238
    induction fz238 with
    | zero =>
      intro σ u1 u3 H locs ls hW hl hF
      exact absurd hF (by simp [F_X7_tell_L238])
    | succ fz238 ih =>
      have hB238 := ih
      have hL280 : ∀ (σ : St) (u1 : Int32) (u3 : Int32) (z0 : Int32) (H : Heap) (locs : List Loc) (ls : Array Slot), Wd G g ad n a0 s.heap σ H locs → lv_has ls 5 [(0, .ref (ad (27))), (1, .int u1), (3, .int u3)] → F_X7_tell_L280 (F_X7_tell_L238 (F_X7_tell_L289) fz238) (F_X7_tell_L289) σ u1 u3 z0 = some x → W p l e (headSpec zs_X7_tell ({ frames := 2, cells := 0, slots := 0, locals := 42 } : Room)).room s m ([.ref (ad (27)), .int x1, .int x2] : List Value).toArray below meth c H locs 0 0 (MQ below (qV G g ad n a0 x) ([.ref (ad (27)), .int x1, .int x2] : List Value).toArray s 0 0 (fun q : Nat => a0 ≤ q)) (F0 m 280 ls [.int z0, .ref (ad (27))]) := by
        intro σ u1 u3 z0 H locs ls hW hl hF
        unfold F_X7_tell_L280 at hF
        obtain ⟨y48, hy48, hF⟩ := bd_some hF
        refine r_bv (va_runV (As := [.int z0]) (rest := []) ⟨hx, hb, hml, hown, htA⟩ (m_X7_put l G g ad n a0 aM σ z0 y48  hy48) (cwV 1 htA (gV aw_415 aw_416 aw_417 aw_382 gz_X7_put) rfl rfl rfl (by decide +kernel) ⟨Nat.le_of_ble_eq_true rfl, Nat.le_of_ble_eq_true rfl⟩) (r_preV hK hW (27) (tp_lt (by decide)) (cE_k (rfl : kd 27 = 9)) rfl [.int z0]) rfl rfl hl.1 rfl (lv_room (Nat.le_of_ble_eq_true rfl)) dX7_tell_280 ⟨Nat.zero_le _, Nat.zero_le _⟩) hW (fun H locs hW => ?_)
        refine lv_iinc (v := (u3 + (-4))) (lv' := [(3, .int (u3 + (-4))), (0, .ref (ad (27))), (1, .int u1)]) hx hb dX7_tell_283 hl (k := 2) rfl rfl (by decide) rfl (fun ls hl => ?_)
        refine lv_goto (tgt := 238) hx hb dX7_tell_286 (by decide) ?_
        exact hB238 y48 u1 (u3 + (-4)) _ _ _  hW (lv_sub hl [1, 2, 0] rfl) hF
      intro σ u1 u3 H locs ls hW hl hF
      unfold F_X7_tell_L238 at hF
      refine lv_iload_n hx hb dX7_tell_238 rfl (lv_at hl 2 rfl) ?_
      refine lv_if_lt (tgt := 289) hx hb dX7_tell_239 (by decide) (fun hc49 => ?_) (fun hc49 => ?_)
      · replace hF := (if_pos hc49).symm.trans hF
        exact hL289 σ _ _ _  hW (lv_sub hl [] rfl) hF
      · replace hF := (if_neg hc49).symm.trans hF
        refine lv_aload_n hx hb dX7_tell_242 rfl (lv_at hl 0 rfl) ?_
        refine r_get (C := RX7) (T := TX7) (N := 39) hx hb htA ia_X7 hown hK hW (27) (tp_lt (by decide)) (cE_k (rfl : kd 27 = 9)) rfl 3 (by decide) (htA _ aw_353) rfl dX7_tell_243 ?_
        refine lv_iload_n hx hb dX7_tell_246 rfl (lv_at hl 1 rfl) ?_
        obtain ⟨hg50, hF⟩ := gd_some hF
        refine r_lald hx hb hK hW (29) (tp_lt (by decide)) (rfl : kd 29 = 7) hg50 dX7_tell_247 ?_
        refine lv_iload_n hx hb dX7_tell_248 rfl (lv_at hl 2 rfl) ?_
        refine lv_lshr (v := ((σ.2 (29) (Int32.toNatClampNeg u1)) >>> ((Int32.toInt64 u3) &&& 63))) hx hb dX7_tell_249 rfl ?_
        refine lv_l2i (v := (Int64.toInt32 ((σ.2 (29) (Int32.toNatClampNeg u1)) >>> ((Int32.toInt64 u3) &&& 63)))) hx hb dX7_tell_250 rfl ?_
        refine lv_bipush (v := 15) hx hb dX7_tell_251 (by decide) ?_
        refine lv_iand hx hb dX7_tell_253 ?_
        refine lv_istore (lv' := [(4, .int ((Int64.toInt32 ((σ.2 (29) (Int32.toNatClampNeg u1)) >>> ((Int32.toInt64 u3) &&& 63))) &&& 15)), (0, .ref (ad (27))), (1, .int u1), (3, .int u3)]) hx hb dX7_tell_254 hl (by decide) rfl (fun ls hl => ?_)
        refine lv_aload_n hx hb dX7_tell_256 rfl (lv_at hl 1 rfl) ?_
        refine lv_iload hx hb dX7_tell_257 (lv_at hl 0 rfl) ?_
        refine lv_bipush (v := 10) hx hb dX7_tell_259 (by decide) ?_
        refine lv_icmp_ge (tgt := 272) hx hb dX7_tell_261 (by decide) (fun hc51 => ?_) (fun hc51 => ?_)
        · replace hF := (if_pos hc51).symm.trans hF
          refine lv_bipush (v := 65) hx hb dX7_tell_272 (by decide) ?_
          refine lv_iload hx hb dX7_tell_274 (lv_at hl 0 rfl) ?_
          refine lv_iadd hx hb dX7_tell_276 ?_
          refine lv_bipush (v := 10) hx hb dX7_tell_277 (by decide) ?_
          refine lv_isub hx hb dX7_tell_279 ?_
          exact hL280 σ u1 u3 ((65 + ((Int64.toInt32 ((σ.2 (29) (Int32.toNatClampNeg u1)) >>> ((Int32.toInt64 u3) &&& 63))) &&& 15)) - 10) _ _ _  hW (lv_sub hl [1, 2, 3] rfl) hF
        · replace hF := (if_neg hc51).symm.trans hF
          refine lv_bipush (v := 48) hx hb dX7_tell_264 (by decide) ?_
          refine lv_iload hx hb dX7_tell_266 (lv_at hl 0 rfl) ?_
          refine lv_iadd hx hb dX7_tell_268 ?_
          refine lv_goto (tgt := 280) hx hb dX7_tell_269 (by decide) ?_
          exact hL280 σ u1 u3 (48 + ((Int64.toInt32 ((σ.2 (29) (Int32.toNatClampNeg u1)) >>> ((Int32.toInt64 u3) &&& 63))) &&& 15)) _ _ _  hW (lv_sub hl [1, 2, 3] rfl) hF
  have hL238 := hL238 fu
  have hl := lv_entry ([.ref (ad (27)), .int x1, .int x2]) (n := 5) (Nat.le_of_ble_eq_true rfl)
  rw [lg_entry_eq]
  generalize (lg_sl ([.ref (ad (27)), .int x1, .int x2]) ++ List.replicate (5 - (lg_sl ([.ref (ad (27)), .int x1, .int x2])).length) Slot.unset).toArray = ls at hl ⊢
  have hl : lv_has ls 5 [(0, .ref (ad (27))), (1, .int x1), (2, .int x2)] := hl
  unfold F_X7_tell at hF
  refine lv_iload_n hx hb dX7_tell_0 rfl (lv_at hl 2 rfl) ?_
  by_cases hs1_0 : x2 = 80
  · replace hF := (if_pos hs1_0).symm.trans hF
    refine lv_lookup (off := 59) (tgt := 60) hx hb dX7_tell_1 (by decide) (by rw [hs1_0]; decide) (by decide) ?_
    refine lv_aload_n hx hb dX7_tell_60 rfl (lv_at hl 0 rfl) ?_
    refine lv_bipush (v := 80) hx hb dX7_tell_61 (by decide) ?_
    obtain ⟨y52, hy52, hF⟩ := bd_some hF
    refine r_bv (va_runV (As := [.int 80]) (rest := []) ⟨hx, hb, hml, hown, htA⟩ (m_X7_putTwo l G g ad n a0 aM σ 80 y52  hy52) (cwV 1 htA (gV aw_427 aw_428 aw_429 aw_382 gz_X7_putTwo) rfl rfl rfl (by decide +kernel) ⟨Nat.le_of_ble_eq_true rfl, Nat.le_of_ble_eq_true rfl⟩) (r_preV hK hW (27) (tp_lt (by decide)) (cE_k (rfl : kd 27 = 9)) rfl [.int 80]) rfl rfl hl.1 rfl (lv_room (Nat.le_of_ble_eq_true rfl)) dX7_tell_63 ⟨Nat.zero_le _, Nat.zero_le _⟩) hW (fun H locs hW => ?_)
    refine lv_aload_n hx hb dX7_tell_66 rfl (lv_at hl 0 rfl) ?_
    refine lv_bipush (v := 96) hx hb dX7_tell_67 (by decide) ?_
    obtain ⟨y53, hy53, hF⟩ := bd_some hF
    refine r_bv (va_runV (As := [.int 96]) (rest := []) ⟨hx, hb, hml, hown, htA⟩ (m_X7_putTwo l G g ad n a0 aM y52 96 y53  hy53) (cwV 1 htA (gV aw_427 aw_428 aw_429 aw_382 gz_X7_putTwo) rfl rfl rfl (by decide +kernel) ⟨Nat.le_of_ble_eq_true rfl, Nat.le_of_ble_eq_true rfl⟩) (r_preV hK hW (27) (tp_lt (by decide)) (cE_k (rfl : kd 27 = 9)) rfl [.int 96]) rfl rfl hl.1 rfl (lv_room (Nat.le_of_ble_eq_true rfl)) dX7_tell_69 ⟨Nat.zero_le _, Nat.zero_le _⟩) hW (fun H locs hW => ?_)
    refine lv_aload_n hx hb dX7_tell_72 rfl (lv_at hl 0 rfl) ?_
    refine lv_sipush (v := 128) hx hb dX7_tell_73 (by decide) ?_
    obtain ⟨y54, hy54, hF⟩ := bd_some hF
    refine r_bv (va_runV (As := [.int 128]) (rest := []) ⟨hx, hb, hml, hown, htA⟩ (m_X7_putTwo l G g ad n a0 aM y53 128 y54  hy54) (cwV 1 htA (gV aw_427 aw_428 aw_429 aw_382 gz_X7_putTwo) rfl rfl rfl (by decide +kernel) ⟨Nat.le_of_ble_eq_true rfl, Nat.le_of_ble_eq_true rfl⟩) (r_preV hK hW (27) (tp_lt (by decide)) (cE_k (rfl : kd 27 = 9)) rfl [.int 128]) rfl rfl hl.1 rfl (lv_room (Nat.le_of_ble_eq_true rfl)) dX7_tell_76 ⟨Nat.zero_le _, Nat.zero_le _⟩) hW (fun H locs hW => ?_)
    refine lv_aload_n hx hb dX7_tell_79 rfl (lv_at hl 0 rfl) ?_
    refine lv_sipush (v := 130) hx hb dX7_tell_80 (by decide) ?_
    obtain ⟨y55, hy55, hF⟩ := bd_some hF
    refine r_bv (va_runV (As := [.int 130]) (rest := []) ⟨hx, hb, hml, hown, htA⟩ (m_X7_putTwo l G g ad n a0 aM y54 130 y55  hy55) (cwV 1 htA (gV aw_427 aw_428 aw_429 aw_382 gz_X7_putTwo) rfl rfl rfl (by decide +kernel) ⟨Nat.le_of_ble_eq_true rfl, Nat.le_of_ble_eq_true rfl⟩) (r_preV hK hW (27) (tp_lt (by decide)) (cE_k (rfl : kd 27 = 9)) rfl [.int 130]) rfl rfl hl.1 rfl (lv_room (Nat.le_of_ble_eq_true rfl)) dX7_tell_83 ⟨Nat.zero_le _, Nat.zero_le _⟩) hW (fun H locs hW => ?_)
    refine lv_aload_n hx hb dX7_tell_86 rfl (lv_at hl 0 rfl) ?_
    refine lv_sipush (v := 224) hx hb dX7_tell_87 (by decide) ?_
    obtain ⟨y56, hy56, hF⟩ := bd_some hF
    refine r_bv (va_runV (As := [.int 224]) (rest := []) ⟨hx, hb, hml, hown, htA⟩ (m_X7_putTwo l G g ad n a0 aM y55 224 y56  hy56) (cwV 1 htA (gV aw_427 aw_428 aw_429 aw_382 gz_X7_putTwo) rfl rfl rfl (by decide +kernel) ⟨Nat.le_of_ble_eq_true rfl, Nat.le_of_ble_eq_true rfl⟩) (r_preV hK hW (27) (tp_lt (by decide)) (cE_k (rfl : kd 27 = 9)) rfl [.int 224]) rfl rfl hl.1 rfl (lv_room (Nat.le_of_ble_eq_true rfl)) dX7_tell_90 ⟨Nat.zero_le _, Nat.zero_le _⟩) hW (fun H locs hW => ?_)
    refine lv_aload_n hx hb dX7_tell_93 rfl (lv_at hl 0 rfl) ?_
    refine lv_sipush (v := 240) hx hb dX7_tell_94 (by decide) ?_
    obtain ⟨y57, hy57, hF⟩ := bd_some hF
    refine r_bv (va_runV (As := [.int 240]) (rest := []) ⟨hx, hb, hml, hown, htA⟩ (m_X7_putTwo l G g ad n a0 aM y56 240 y57  hy57) (cwV 1 htA (gV aw_427 aw_428 aw_429 aw_382 gz_X7_putTwo) rfl rfl rfl (by decide +kernel) ⟨Nat.le_of_ble_eq_true rfl, Nat.le_of_ble_eq_true rfl⟩) (r_preV hK hW (27) (tp_lt (by decide)) (cE_k (rfl : kd 27 = 9)) rfl [.int 240]) rfl rfl hl.1 rfl (lv_room (Nat.le_of_ble_eq_true rfl)) dX7_tell_97 ⟨Nat.zero_le _, Nat.zero_le _⟩) hW (fun H locs hW => ?_)
    refine lv_aload_n hx hb dX7_tell_100 rfl (lv_at hl 0 rfl) ?_
    refine lv_sipush (v := 4096) hx hb dX7_tell_101 (by decide) ?_
    obtain ⟨y58, hy58, hF⟩ := bd_some hF
    refine r_bv (va_runV (As := [.int 4096]) (rest := []) ⟨hx, hb, hml, hown, htA⟩ (m_X7_putTwo l G g ad n a0 aM y57 4096 y58  hy58) (cwV 1 htA (gV aw_427 aw_428 aw_429 aw_382 gz_X7_putTwo) rfl rfl rfl (by decide +kernel) ⟨Nat.le_of_ble_eq_true rfl, Nat.le_of_ble_eq_true rfl⟩) (r_preV hK hW (27) (tp_lt (by decide)) (cE_k (rfl : kd 27 = 9)) rfl [.int 4096]) rfl rfl hl.1 rfl (lv_room (Nat.le_of_ble_eq_true rfl)) dX7_tell_104 ⟨Nat.zero_le _, Nat.zero_le _⟩) hW (fun H locs hW => ?_)
    refine lv_aload_n hx hb dX7_tell_107 rfl (lv_at hl 0 rfl) ?_
    refine lv_bipush (v := 32) hx hb dX7_tell_108 (by decide) ?_
    obtain ⟨y59, hy59, hF⟩ := bd_some hF
    refine r_bv (va_runV (As := [.int 32]) (rest := []) ⟨hx, hb, hml, hown, htA⟩ (m_X7_putTwo l G g ad n a0 aM y58 32 y59  hy59) (cwV 1 htA (gV aw_427 aw_428 aw_429 aw_382 gz_X7_putTwo) rfl rfl rfl (by decide +kernel) ⟨Nat.le_of_ble_eq_true rfl, Nat.le_of_ble_eq_true rfl⟩) (r_preV hK hW (27) (tp_lt (by decide)) (cE_k (rfl : kd 27 = 9)) rfl [.int 32]) rfl rfl hl.1 rfl (lv_room (Nat.le_of_ble_eq_true rfl)) dX7_tell_110 ⟨Nat.zero_le _, Nat.zero_le _⟩) hW (fun H locs hW => ?_)
    refine lv_goto (tgt := 382) hx hb dX7_tell_113 (by decide) ?_
    exact r_vret hx hb hr hlocks hW hF dX7_tell_382
  · replace hF := (if_neg hs1_0).symm.trans hF
    by_cases hs1_1 : x2 = 96
    · replace hF := (if_pos hs1_1).symm.trans hF
      refine lv_lookup (off := 115) (tgt := 116) hx hb dX7_tell_1 (by decide) (by rw [hs1_1]; decide) (by decide) ?_
      refine lv_aload_n hx hb dX7_tell_116 rfl (lv_at hl 0 rfl) ?_
      refine lv_aload_n hx hb dX7_tell_117 rfl (lv_at hl 0 rfl) ?_
      refine r_get (C := RX7) (T := TX7) (N := 39) hx hb htA ia_X7 hown hK hW (27) (tp_lt (by decide)) (cE_k (rfl : kd 27 = 9)) rfl 2 (by decide) (htA _ aw_352) rfl dX7_tell_118 ?_
      refine lv_iload_n hx hb dX7_tell_121 rfl (lv_at hl 1 rfl) ?_
      obtain ⟨hg60, hF⟩ := gd_some hF
      refine r_iald hx hb hK hW (28) (tp_lt (by decide)) (rfl : kd 28 = 3) hg60 dX7_tell_122 ?_
      obtain ⟨y61, hy61, hF⟩ := bd_some hF
      refine r_bv (va_runV (As := [.int (σ.1 (28) (Int32.toNatClampNeg x1))]) (rest := []) ⟨hx, hb, hml, hown, htA⟩ (m_X7_putTwo l G g ad n a0 aM σ (σ.1 (28) (Int32.toNatClampNeg x1)) y61  hy61) (cwV 1 htA (gV aw_427 aw_428 aw_429 aw_382 gz_X7_putTwo) rfl rfl rfl (by decide +kernel) ⟨Nat.le_of_ble_eq_true rfl, Nat.le_of_ble_eq_true rfl⟩) (r_preV hK hW (27) (tp_lt (by decide)) (cE_k (rfl : kd 27 = 9)) rfl [.int (σ.1 (28) (Int32.toNatClampNeg x1))]) rfl rfl hl.1 rfl (lv_room (Nat.le_of_ble_eq_true rfl)) dX7_tell_123 ⟨Nat.zero_le _, Nat.zero_le _⟩) hW (fun H locs hW => ?_)
      refine lv_aload_n hx hb dX7_tell_126 rfl (lv_at hl 0 rfl) ?_
      refine lv_aload_n hx hb dX7_tell_127 rfl (lv_at hl 0 rfl) ?_
      refine r_get (C := RX7) (T := TX7) (N := 39) hx hb htA ia_X7 hown hK hW (27) (tp_lt (by decide)) (cE_k (rfl : kd 27 = 9)) rfl 3 (by decide) (htA _ aw_353) rfl dX7_tell_128 ?_
      refine lv_iload_n hx hb dX7_tell_131 rfl (lv_at hl 1 rfl) ?_
      obtain ⟨hg62, hF⟩ := gd_some hF
      refine r_lald hx hb hK hW (29) (tp_lt (by decide)) (rfl : kd 29 = 7) hg62 dX7_tell_132 ?_
      refine lv_bipush (v := 16) hx hb dX7_tell_133 (by decide) ?_
      refine lv_lshr (v := ((y61.2 (29) (Int32.toNatClampNeg x1)) >>> ((Int32.toInt64 16) &&& 63))) hx hb dX7_tell_135 rfl ?_
      refine lv_l2i (v := (Int64.toInt32 ((y61.2 (29) (Int32.toNatClampNeg x1)) >>> ((Int32.toInt64 16) &&& 63)))) hx hb dX7_tell_136 rfl ?_
      obtain ⟨y63, hy63, hF⟩ := bd_some hF
      refine r_bv (va_runV (As := [.int (Int64.toInt32 ((y61.2 (29) (Int32.toNatClampNeg x1)) >>> ((Int32.toInt64 16) &&& 63)))]) (rest := []) ⟨hx, hb, hml, hown, htA⟩ (m_X7_putTwo l G g ad n a0 aM y61 (Int64.toInt32 ((y61.2 (29) (Int32.toNatClampNeg x1)) >>> ((Int32.toInt64 16) &&& 63))) y63  hy63) (cwV 1 htA (gV aw_427 aw_428 aw_429 aw_382 gz_X7_putTwo) rfl rfl rfl (by decide +kernel) ⟨Nat.le_of_ble_eq_true rfl, Nat.le_of_ble_eq_true rfl⟩) (r_preV hK hW (27) (tp_lt (by decide)) (cE_k (rfl : kd 27 = 9)) rfl [.int (Int64.toInt32 ((y61.2 (29) (Int32.toNatClampNeg x1)) >>> ((Int32.toInt64 16) &&& 63)))]) rfl rfl hl.1 rfl (lv_room (Nat.le_of_ble_eq_true rfl)) dX7_tell_137 ⟨Nat.zero_le _, Nat.zero_le _⟩) hW (fun H locs hW => ?_)
      refine lv_aload_n hx hb dX7_tell_140 rfl (lv_at hl 0 rfl) ?_
      refine lv_aload_n hx hb dX7_tell_141 rfl (lv_at hl 0 rfl) ?_
      refine r_get (C := RX7) (T := TX7) (N := 39) hx hb htA ia_X7 hown hK hW (27) (tp_lt (by decide)) (cE_k (rfl : kd 27 = 9)) rfl 3 (by decide) (htA _ aw_353) rfl dX7_tell_142 ?_
      refine lv_iload_n hx hb dX7_tell_145 rfl (lv_at hl 1 rfl) ?_
      obtain ⟨hg64, hF⟩ := gd_some hF
      refine r_lald hx hb hK hW (29) (tp_lt (by decide)) (rfl : kd 29 = 7) hg64 dX7_tell_146 ?_
      refine lv_l2i (v := (Int64.toInt32 (y63.2 (29) (Int32.toNatClampNeg x1)))) hx hb dX7_tell_147 rfl ?_
      obtain ⟨y65, hy65, hF⟩ := bd_some hF
      refine r_bv (va_runV (As := [.int (Int64.toInt32 (y63.2 (29) (Int32.toNatClampNeg x1)))]) (rest := []) ⟨hx, hb, hml, hown, htA⟩ (m_X7_putTwo l G g ad n a0 aM y63 (Int64.toInt32 (y63.2 (29) (Int32.toNatClampNeg x1))) y65  hy65) (cwV 1 htA (gV aw_427 aw_428 aw_429 aw_382 gz_X7_putTwo) rfl rfl rfl (by decide +kernel) ⟨Nat.le_of_ble_eq_true rfl, Nat.le_of_ble_eq_true rfl⟩) (r_preV hK hW (27) (tp_lt (by decide)) (cE_k (rfl : kd 27 = 9)) rfl [.int (Int64.toInt32 (y63.2 (29) (Int32.toNatClampNeg x1)))]) rfl rfl hl.1 rfl (lv_room (Nat.le_of_ble_eq_true rfl)) dX7_tell_148 ⟨Nat.zero_le _, Nat.zero_le _⟩) hW (fun H locs hW => ?_)
      refine lv_aload_n hx hb dX7_tell_151 rfl (lv_at hl 0 rfl) ?_
      refine lv_aload_n hx hb dX7_tell_152 rfl (lv_at hl 0 rfl) ?_
      refine lv_iload_n hx hb dX7_tell_153 rfl (lv_at hl 1 rfl) ?_
      obtain ⟨y66, hy66, hF⟩ := bd_some hF
      refine r_bi (va_runV (As := [.int x1]) (rest := [.ref (ad (27))]) ⟨hx, hb, hml, hown, htA⟩ (m_X7_footprint l G g ad n a0 aM y65 x1 y66  hy66) (cwV 1 htA (gV aw_405 aw_406 aw_407 aw_382 gz_X7_footprint) rfl rfl rfl (by decide +kernel) ⟨Nat.le_of_ble_eq_true rfl, Nat.le_of_ble_eq_true rfl⟩) (r_preV hK hW (27) (tp_lt (by decide)) (cE_k (rfl : kd 27 = 9)) rfl [.int x1]) rfl rfl hl.1 rfl (lv_room (Nat.le_of_ble_eq_true rfl)) dX7_tell_154 ⟨Nat.zero_le _, Nat.zero_le _⟩) hW (fun H locs hW => ?_)
      obtain ⟨y67, hy67, hF⟩ := bd_some hF
      refine r_bv (va_runV (As := [.int y66.2]) (rest := []) ⟨hx, hb, hml, hown, htA⟩ (m_X7_putTwo l G g ad n a0 aM y66.1 y66.2 y67  hy67) (cwV 1 htA (gV aw_427 aw_428 aw_429 aw_382 gz_X7_putTwo) rfl rfl rfl (by decide +kernel) ⟨Nat.le_of_ble_eq_true rfl, Nat.le_of_ble_eq_true rfl⟩) (r_preV hK hW (27) (tp_lt (by decide)) (cE_k (rfl : kd 27 = 9)) rfl [.int y66.2]) rfl rfl hl.1 rfl (lv_room (Nat.le_of_ble_eq_true rfl)) dX7_tell_157 ⟨Nat.zero_le _, Nat.zero_le _⟩) hW (fun H locs hW => ?_)
      refine lv_aload_n hx hb dX7_tell_160 rfl (lv_at hl 0 rfl) ?_
      refine lv_aload_n hx hb dX7_tell_161 rfl (lv_at hl 0 rfl) ?_
      refine r_get (C := RX7) (T := TX7) (N := 39) hx hb htA ia_X7 hown hK hW (27) (tp_lt (by decide)) (cE_k (rfl : kd 27 = 9)) rfl 6 (by decide) (htA _ aw_356) rfl dX7_tell_162 ?_
      refine lv_iload_n hx hb dX7_tell_165 rfl (lv_at hl 1 rfl) ?_
      obtain ⟨hg68, hF⟩ := gd_some hF
      refine r_iald hx hb hK hW (32) (tp_lt (by decide)) (rfl : kd 32 = 3) hg68 dX7_tell_166 ?_
      obtain ⟨y69, hy69, hF⟩ := bd_some hF
      refine r_bv (va_runV (As := [.int (y67.1 (32) (Int32.toNatClampNeg x1))]) (rest := []) ⟨hx, hb, hml, hown, htA⟩ (m_X7_put l G g ad n a0 aM y67 (y67.1 (32) (Int32.toNatClampNeg x1)) y69  hy69) (cwV 1 htA (gV aw_415 aw_416 aw_417 aw_382 gz_X7_put) rfl rfl rfl (by decide +kernel) ⟨Nat.le_of_ble_eq_true rfl, Nat.le_of_ble_eq_true rfl⟩) (r_preV hK hW (27) (tp_lt (by decide)) (cE_k (rfl : kd 27 = 9)) rfl [.int (y67.1 (32) (Int32.toNatClampNeg x1))]) rfl rfl hl.1 rfl (lv_room (Nat.le_of_ble_eq_true rfl)) dX7_tell_167 ⟨Nat.zero_le _, Nat.zero_le _⟩) hW (fun H locs hW => ?_)
      refine lv_aload_n hx hb dX7_tell_170 rfl (lv_at hl 0 rfl) ?_
      refine lv_aload_n hx hb dX7_tell_171 rfl (lv_at hl 0 rfl) ?_
      refine r_get (C := RX7) (T := TX7) (N := 39) hx hb htA ia_X7 hown hK hW (27) (tp_lt (by decide)) (cE_k (rfl : kd 27 = 9)) rfl 5 (by decide) (htA _ aw_355) rfl dX7_tell_172 ?_
      refine lv_iload_n hx hb dX7_tell_175 rfl (lv_at hl 1 rfl) ?_
      obtain ⟨hg70, hF⟩ := gd_some hF
      refine r_iald hx hb hK hW (31) (tp_lt (by decide)) (rfl : kd 31 = 3) hg70 dX7_tell_176 ?_
      obtain ⟨y71, hy71, hF⟩ := bd_some hF
      refine r_bv (va_runV (As := [.int (y69.1 (31) (Int32.toNatClampNeg x1))]) (rest := []) ⟨hx, hb, hml, hown, htA⟩ (m_X7_put l G g ad n a0 aM y69 (y69.1 (31) (Int32.toNatClampNeg x1)) y71  hy71) (cwV 1 htA (gV aw_415 aw_416 aw_417 aw_382 gz_X7_put) rfl rfl rfl (by decide +kernel) ⟨Nat.le_of_ble_eq_true rfl, Nat.le_of_ble_eq_true rfl⟩) (r_preV hK hW (27) (tp_lt (by decide)) (cE_k (rfl : kd 27 = 9)) rfl [.int (y69.1 (31) (Int32.toNatClampNeg x1))]) rfl rfl hl.1 rfl (lv_room (Nat.le_of_ble_eq_true rfl)) dX7_tell_177 ⟨Nat.zero_le _, Nat.zero_le _⟩) hW (fun H locs hW => ?_)
      refine lv_aload_n hx hb dX7_tell_180 rfl (lv_at hl 0 rfl) ?_
      refine lv_aload_n hx hb dX7_tell_181 rfl (lv_at hl 0 rfl) ?_
      refine r_get (C := RX7) (T := TX7) (N := 39) hx hb htA ia_X7 hown hK hW (27) (tp_lt (by decide)) (cE_k (rfl : kd 27 = 9)) rfl 7 (by decide) (htA _ aw_357) rfl dX7_tell_182 ?_
      refine lv_iload_n hx hb dX7_tell_185 rfl (lv_at hl 1 rfl) ?_
      obtain ⟨hg72, hF⟩ := gd_some hF
      refine r_iald hx hb hK hW (33) (tp_lt (by decide)) (rfl : kd 33 = 3) hg72 dX7_tell_186 ?_
      obtain ⟨y73, hy73, hF⟩ := bd_some hF
      refine r_bv (va_runV (As := [.int (y71.1 (33) (Int32.toNatClampNeg x1))]) (rest := []) ⟨hx, hb, hml, hown, htA⟩ (m_X7_putTwo l G g ad n a0 aM y71 (y71.1 (33) (Int32.toNatClampNeg x1)) y73  hy73) (cwV 1 htA (gV aw_427 aw_428 aw_429 aw_382 gz_X7_putTwo) rfl rfl rfl (by decide +kernel) ⟨Nat.le_of_ble_eq_true rfl, Nat.le_of_ble_eq_true rfl⟩) (r_preV hK hW (27) (tp_lt (by decide)) (cE_k (rfl : kd 27 = 9)) rfl [.int (y71.1 (33) (Int32.toNatClampNeg x1))]) rfl rfl hl.1 rfl (lv_room (Nat.le_of_ble_eq_true rfl)) dX7_tell_187 ⟨Nat.zero_le _, Nat.zero_le _⟩) hW (fun H locs hW => ?_)
      refine lv_aload_n hx hb dX7_tell_190 rfl (lv_at hl 0 rfl) ?_
      refine lv_iconst (v := 0) hx hb dX7_tell_191 (by decide) ?_
      obtain ⟨y74, hy74, hF⟩ := bd_some hF
      refine r_bv (va_runV (As := [.int 0]) (rest := []) ⟨hx, hb, hml, hown, htA⟩ (m_X7_putTwo l G g ad n a0 aM y73 0 y74  hy74) (cwV 1 htA (gV aw_427 aw_428 aw_429 aw_382 gz_X7_putTwo) rfl rfl rfl (by decide +kernel) ⟨Nat.le_of_ble_eq_true rfl, Nat.le_of_ble_eq_true rfl⟩) (r_preV hK hW (27) (tp_lt (by decide)) (cE_k (rfl : kd 27 = 9)) rfl [.int 0]) rfl rfl hl.1 rfl (lv_room (Nat.le_of_ble_eq_true rfl)) dX7_tell_192 ⟨Nat.zero_le _, Nat.zero_le _⟩) hW (fun H locs hW => ?_)
      refine lv_aload_n hx hb dX7_tell_195 rfl (lv_at hl 0 rfl) ?_
      refine lv_aload_n hx hb dX7_tell_196 rfl (lv_at hl 0 rfl) ?_
      refine r_get (C := RX7) (T := TX7) (N := 39) hx hb htA ia_X7 hown hK hW (27) (tp_lt (by decide)) (cE_k (rfl : kd 27 = 9)) rfl 12 (by decide) (htA _ aw_363) rfl dX7_tell_197 ?_
      refine lv_iload_n hx hb dX7_tell_200 rfl (lv_at hl 1 rfl) ?_
      obtain ⟨hg75, hF⟩ := gd_some hF
      refine r_iald hx hb hK hW (38) (tp_lt (by decide)) (rfl : kd 38 = 3) hg75 dX7_tell_201 ?_
      refine lv_ldc (v := 65536) hx hb hown (htA _ aw_409) dX7_tell_202 ?_
      refine lv_irem hx hb dX7_tell_204 (by decide) ?_
      obtain ⟨y76, hy76, hF⟩ := bd_some hF
      refine r_bv (va_runV (As := [.int ((y74.1 (38) (Int32.toNatClampNeg x1)) - (y74.1 (38) (Int32.toNatClampNeg x1)) / 65536 * 65536)]) (rest := []) ⟨hx, hb, hml, hown, htA⟩ (m_X7_putTwo l G g ad n a0 aM y74 ((y74.1 (38) (Int32.toNatClampNeg x1)) - (y74.1 (38) (Int32.toNatClampNeg x1)) / 65536 * 65536) y76  hy76) (cwV 1 htA (gV aw_427 aw_428 aw_429 aw_382 gz_X7_putTwo) rfl rfl rfl (by decide +kernel) ⟨Nat.le_of_ble_eq_true rfl, Nat.le_of_ble_eq_true rfl⟩) (r_preV hK hW (27) (tp_lt (by decide)) (cE_k (rfl : kd 27 = 9)) rfl [.int ((y74.1 (38) (Int32.toNatClampNeg x1)) - (y74.1 (38) (Int32.toNatClampNeg x1)) / 65536 * 65536)]) rfl rfl hl.1 rfl (lv_room (Nat.le_of_ble_eq_true rfl)) dX7_tell_205 ⟨Nat.zero_le _, Nat.zero_le _⟩) hW (fun H locs hW => ?_)
      refine lv_goto (tgt := 382) hx hb dX7_tell_208 (by decide) ?_
      exact r_vret hx hb hr hlocks hW hF dX7_tell_382
    · replace hF := (if_neg hs1_1).symm.trans hF
      by_cases hs1_2 : x2 = 128
      · replace hF := (if_pos hs1_2).symm.trans hF
        refine lv_lookup (off := 210) (tgt := 211) hx hb dX7_tell_1 (by decide) (by rw [hs1_2]; decide) (by decide) ?_
        refine lv_aload_n hx hb dX7_tell_211 rfl (lv_at hl 0 rfl) ?_
        refine lv_bipush (v := 76) hx hb dX7_tell_212 (by decide) ?_
        obtain ⟨y77, hy77, hF⟩ := bd_some hF
        refine r_bv (va_runV (As := [.int 76]) (rest := []) ⟨hx, hb, hml, hown, htA⟩ (m_X7_put l G g ad n a0 aM σ 76 y77  hy77) (cwV 1 htA (gV aw_415 aw_416 aw_417 aw_382 gz_X7_put) rfl rfl rfl (by decide +kernel) ⟨Nat.le_of_ble_eq_true rfl, Nat.le_of_ble_eq_true rfl⟩) (r_preV hK hW (27) (tp_lt (by decide)) (cE_k (rfl : kd 27 = 9)) rfl [.int 76]) rfl rfl hl.1 rfl (lv_room (Nat.le_of_ble_eq_true rfl)) dX7_tell_214 ⟨Nat.zero_le _, Nat.zero_le _⟩) hW (fun H locs hW => ?_)
        refine lv_aload_n hx hb dX7_tell_217 rfl (lv_at hl 0 rfl) ?_
        refine lv_bipush (v := 65) hx hb dX7_tell_218 (by decide) ?_
        obtain ⟨y78, hy78, hF⟩ := bd_some hF
        refine r_bv (va_runV (As := [.int 65]) (rest := []) ⟨hx, hb, hml, hown, htA⟩ (m_X7_put l G g ad n a0 aM y77 65 y78  hy78) (cwV 1 htA (gV aw_415 aw_416 aw_417 aw_382 gz_X7_put) rfl rfl rfl (by decide +kernel) ⟨Nat.le_of_ble_eq_true rfl, Nat.le_of_ble_eq_true rfl⟩) (r_preV hK hW (27) (tp_lt (by decide)) (cE_k (rfl : kd 27 = 9)) rfl [.int 65]) rfl rfl hl.1 rfl (lv_room (Nat.le_of_ble_eq_true rfl)) dX7_tell_220 ⟨Nat.zero_le _, Nat.zero_le _⟩) hW (fun H locs hW => ?_)
        refine lv_aload_n hx hb dX7_tell_223 rfl (lv_at hl 0 rfl) ?_
        refine lv_bipush (v := 77) hx hb dX7_tell_224 (by decide) ?_
        obtain ⟨y79, hy79, hF⟩ := bd_some hF
        refine r_bv (va_runV (As := [.int 77]) (rest := []) ⟨hx, hb, hml, hown, htA⟩ (m_X7_put l G g ad n a0 aM y78 77 y79  hy79) (cwV 1 htA (gV aw_415 aw_416 aw_417 aw_382 gz_X7_put) rfl rfl rfl (by decide +kernel) ⟨Nat.le_of_ble_eq_true rfl, Nat.le_of_ble_eq_true rfl⟩) (r_preV hK hW (27) (tp_lt (by decide)) (cE_k (rfl : kd 27 = 9)) rfl [.int 77]) rfl rfl hl.1 rfl (lv_room (Nat.le_of_ble_eq_true rfl)) dX7_tell_226 ⟨Nat.zero_le _, Nat.zero_le _⟩) hW (fun H locs hW => ?_)
        refine lv_aload_n hx hb dX7_tell_229 rfl (lv_at hl 0 rfl) ?_
        refine lv_bipush (v := 80) hx hb dX7_tell_230 (by decide) ?_
        obtain ⟨y80, hy80, hF⟩ := bd_some hF
        refine r_bv (va_runV (As := [.int 80]) (rest := []) ⟨hx, hb, hml, hown, htA⟩ (m_X7_put l G g ad n a0 aM y79 80 y80  hy80) (cwV 1 htA (gV aw_415 aw_416 aw_417 aw_382 gz_X7_put) rfl rfl rfl (by decide +kernel) ⟨Nat.le_of_ble_eq_true rfl, Nat.le_of_ble_eq_true rfl⟩) (r_preV hK hW (27) (tp_lt (by decide)) (cE_k (rfl : kd 27 = 9)) rfl [.int 80]) rfl rfl hl.1 rfl (lv_room (Nat.le_of_ble_eq_true rfl)) dX7_tell_232 ⟨Nat.zero_le _, Nat.zero_le _⟩) hW (fun H locs hW => ?_)
        refine lv_bipush (v := 28) hx hb dX7_tell_235 (by decide) ?_
        refine lv_istore_n (lv' := [(3, .int 28), (0, .ref (ad (27))), (1, .int x1), (2, .int x2)]) hx hb dX7_tell_237 rfl hl (by decide) rfl (fun ls hl => ?_)
        exact hL238 y80 x1 28 _ _ _  hW (lv_sub hl [1, 2, 0] rfl) hF
      · replace hF := (if_neg hs1_2).symm.trans hF
        by_cases hs1_3 : x2 = 130
        · replace hF := (if_pos hs1_3).symm.trans hF
          refine lv_lookup (off := 291) (tgt := 292) hx hb dX7_tell_1 (by decide) (by rw [hs1_3]; decide) (by decide) ?_
          refine lv_iconst (v := 0) hx hb dX7_tell_292 (by decide) ?_
          refine lv_istore_n (lv' := [(3, .int 0), (0, .ref (ad (27))), (1, .int x1), (2, .int x2)]) hx hb dX7_tell_293 rfl hl (by decide) rfl (fun ls hl => ?_)
          exact hL294 σ x1 0 _ _ _  hW (lv_sub hl [1, 2, 0] rfl) hF
        · replace hF := (if_neg hs1_3).symm.trans hF
          by_cases hs1_4 : x2 = 224
          · replace hF := (if_pos hs1_4).symm.trans hF
            refine lv_lookup (off := 327) (tgt := 328) hx hb dX7_tell_1 (by decide) (by rw [hs1_4]; decide) (by decide) ?_
            refine lv_aload_n hx hb dX7_tell_328 rfl (lv_at hl 0 rfl) ?_
            refine lv_aload_n hx hb dX7_tell_329 rfl (lv_at hl 0 rfl) ?_
            refine r_get (C := RX7) (T := TX7) (N := 39) hx hb htA ia_X7 hown hK hW (27) (tp_lt (by decide)) (cE_k (rfl : kd 27 = 9)) rfl 6 (by decide) (htA _ aw_356) rfl dX7_tell_330 ?_
            refine lv_iload_n hx hb dX7_tell_333 rfl (lv_at hl 1 rfl) ?_
            obtain ⟨hg81, hF⟩ := gd_some hF
            refine r_iald hx hb hK hW (32) (tp_lt (by decide)) (rfl : kd 32 = 3) hg81 dX7_tell_334 ?_
            obtain ⟨y82, hy82, hF⟩ := bd_some hF
            refine r_bv (va_runV (As := [.int (σ.1 (32) (Int32.toNatClampNeg x1))]) (rest := []) ⟨hx, hb, hml, hown, htA⟩ (m_X7_put l G g ad n a0 aM σ (σ.1 (32) (Int32.toNatClampNeg x1)) y82  hy82) (cwV 1 htA (gV aw_415 aw_416 aw_417 aw_382 gz_X7_put) rfl rfl rfl (by decide +kernel) ⟨Nat.le_of_ble_eq_true rfl, Nat.le_of_ble_eq_true rfl⟩) (r_preV hK hW (27) (tp_lt (by decide)) (cE_k (rfl : kd 27 = 9)) rfl [.int (σ.1 (32) (Int32.toNatClampNeg x1))]) rfl rfl hl.1 rfl (lv_room (Nat.le_of_ble_eq_true rfl)) dX7_tell_335 ⟨Nat.zero_le _, Nat.zero_le _⟩) hW (fun H locs hW => ?_)
            refine lv_aload_n hx hb dX7_tell_338 rfl (lv_at hl 0 rfl) ?_
            refine lv_aload_n hx hb dX7_tell_339 rfl (lv_at hl 0 rfl) ?_
            refine r_get (C := RX7) (T := TX7) (N := 39) hx hb htA ia_X7 hown hK hW (27) (tp_lt (by decide)) (cE_k (rfl : kd 27 = 9)) rfl 5 (by decide) (htA _ aw_355) rfl dX7_tell_340 ?_
            refine lv_iload_n hx hb dX7_tell_343 rfl (lv_at hl 1 rfl) ?_
            obtain ⟨hg83, hF⟩ := gd_some hF
            refine r_iald hx hb hK hW (31) (tp_lt (by decide)) (rfl : kd 31 = 3) hg83 dX7_tell_344 ?_
            obtain ⟨y84, hy84, hF⟩ := bd_some hF
            refine r_bv (va_runV (As := [.int (y82.1 (31) (Int32.toNatClampNeg x1))]) (rest := []) ⟨hx, hb, hml, hown, htA⟩ (m_X7_put l G g ad n a0 aM y82 (y82.1 (31) (Int32.toNatClampNeg x1)) y84  hy84) (cwV 1 htA (gV aw_415 aw_416 aw_417 aw_382 gz_X7_put) rfl rfl rfl (by decide +kernel) ⟨Nat.le_of_ble_eq_true rfl, Nat.le_of_ble_eq_true rfl⟩) (r_preV hK hW (27) (tp_lt (by decide)) (cE_k (rfl : kd 27 = 9)) rfl [.int (y82.1 (31) (Int32.toNatClampNeg x1))]) rfl rfl hl.1 rfl (lv_room (Nat.le_of_ble_eq_true rfl)) dX7_tell_345 ⟨Nat.zero_le _, Nat.zero_le _⟩) hW (fun H locs hW => ?_)
            refine lv_goto (tgt := 382) hx hb dX7_tell_348 (by decide) ?_
            exact r_vret hx hb hr hlocks hW hF dX7_tell_382
          · replace hF := (if_neg hs1_4).symm.trans hF
            by_cases hs1_5 : x2 = 240
            · replace hF := (if_pos hs1_5).symm.trans hF
              refine lv_lookup (off := 350) (tgt := 351) hx hb dX7_tell_1 (by decide) (by rw [hs1_5]; decide) (by decide) ?_
              refine lv_aload_n hx hb dX7_tell_351 rfl (lv_at hl 0 rfl) ?_
              refine lv_aload_n hx hb dX7_tell_352 rfl (lv_at hl 0 rfl) ?_
              refine r_get (C := RX7) (T := TX7) (N := 39) hx hb htA ia_X7 hown hK hW (27) (tp_lt (by decide)) (cE_k (rfl : kd 27 = 9)) rfl 7 (by decide) (htA _ aw_357) rfl dX7_tell_353 ?_
              refine lv_iload_n hx hb dX7_tell_356 rfl (lv_at hl 1 rfl) ?_
              obtain ⟨hg85, hF⟩ := gd_some hF
              refine r_iald hx hb hK hW (33) (tp_lt (by decide)) (rfl : kd 33 = 3) hg85 dX7_tell_357 ?_
              obtain ⟨y86, hy86, hF⟩ := bd_some hF
              refine r_bv (va_runV (As := [.int (σ.1 (33) (Int32.toNatClampNeg x1))]) (rest := []) ⟨hx, hb, hml, hown, htA⟩ (m_X7_putTwo l G g ad n a0 aM σ (σ.1 (33) (Int32.toNatClampNeg x1)) y86  hy86) (cwV 1 htA (gV aw_427 aw_428 aw_429 aw_382 gz_X7_putTwo) rfl rfl rfl (by decide +kernel) ⟨Nat.le_of_ble_eq_true rfl, Nat.le_of_ble_eq_true rfl⟩) (r_preV hK hW (27) (tp_lt (by decide)) (cE_k (rfl : kd 27 = 9)) rfl [.int (σ.1 (33) (Int32.toNatClampNeg x1))]) rfl rfl hl.1 rfl (lv_room (Nat.le_of_ble_eq_true rfl)) dX7_tell_358 ⟨Nat.zero_le _, Nat.zero_le _⟩) hW (fun H locs hW => ?_)
              refine lv_goto (tgt := 382) hx hb dX7_tell_361 (by decide) ?_
              exact r_vret hx hb hr hlocks hW hF dX7_tell_382
            · replace hF := (if_neg hs1_5).symm.trans hF
              have ehs1_0 : (x2).toInt ≠ 80 := fun e9 => hs1_0 (Int32.toInt_inj.mp (e9.trans (by decide)))
              have ehs1_1 : (x2).toInt ≠ 96 := fun e9 => hs1_1 (Int32.toInt_inj.mp (e9.trans (by decide)))
              have ehs1_2 : (x2).toInt ≠ 128 := fun e9 => hs1_2 (Int32.toInt_inj.mp (e9.trans (by decide)))
              have ehs1_3 : (x2).toInt ≠ 130 := fun e9 => hs1_3 (Int32.toInt_inj.mp (e9.trans (by decide)))
              have ehs1_4 : (x2).toInt ≠ 224 := fun e9 => hs1_4 (Int32.toInt_inj.mp (e9.trans (by decide)))
              have ehs1_5 : (x2).toInt ≠ 240 := fun e9 => hs1_5 (Int32.toInt_inj.mp (e9.trans (by decide)))
              refine lv_lookup (off := 363) (tgt := 364) hx hb dX7_tell_1 (by decide) (by simp [Op.lookupswitch.offset, ehs1_0, ehs1_0.symm, ehs1_1, ehs1_1.symm, ehs1_2, ehs1_2.symm, ehs1_3, ehs1_3.symm, ehs1_4, ehs1_4.symm, ehs1_5, ehs1_5.symm]) (by decide) ?_
              refine lv_aload_n hx hb dX7_tell_364 rfl (lv_at hl 0 rfl) ?_
              refine lv_aload_n hx hb dX7_tell_365 rfl (lv_at hl 0 rfl) ?_
              refine r_get (C := RX7) (T := TX7) (N := 39) hx hb htA ia_X7 hown hK hW (27) (tp_lt (by decide)) (cE_k (rfl : kd 27 = 9)) rfl 9 (by decide) (htA _ aw_359) rfl dX7_tell_366 ?_
              refine lv_iload_n hx hb dX7_tell_369 rfl (lv_at hl 1 rfl) ?_
              obtain ⟨hg87, hF⟩ := gd_some hF
              refine r_zald hx hb hK hW (35) (tp_lt (by decide)) (rfl : kd 35 = 11) hg87 dX7_tell_370 ?_
              refine lv_if_eq (tgt := 378) hx hb dX7_tell_371 (by decide) (fun hc88 => ?_) (fun hc88 => ?_)
              · replace hF := (if_pos hc88).symm.trans hF
                refine lv_iconst (v := 0) hx hb dX7_tell_378 (by decide) ?_
                exact hL379 σ 0 _ _ _  hW (lv_sub hl [] rfl) hF
              · replace hF := (if_neg hc88).symm.trans hF
                refine lv_iconst (v := 1) hx hb dX7_tell_374 (by decide) ?_
                refine lv_goto (tgt := 379) hx hb dX7_tell_375 (by decide) ?_
                exact hL379 σ 1 _ _ _  hW (lv_sub hl [] rfl) hF
def F_X7_getWaiting_L173 (σ : St) (u1 : Int32) : Option (St) := (F_X7_begin σ u1 0 49 130).bind (fun y20 => (F_X7_finish y20 u1).bind (fun y21 => some y21))
def F_X7_getWaiting_L167 (B73 : St → Int32 → Int32 → Option (St)) (K173 : St → Int32 → Option (St)) (σ : St) (u1 : Int32) (u3 : Int32) : Option (St) := B73 σ u1 (u3 + 1)
def F_X7_getWaiting_L125 (B73 : St → Int32 → Int32 → Option (St)) (K173 : St → Int32 → Option (St)) (K167 : St → Int32 → Int32 → Option (St)) : Nat → St → Int32 → Int32 → Int32 → Int32 → Option (St)
  | 0, _, _, _, _, _ => none
  | fz + 1, σ, u1, u3, u4, u5 => if 32 ≤ u5 then K167 σ u1 u3 else gd (ib (((32 * u4) + 32) + u5) (ln (44))) (gd (ib ((32 * u4) + u5) (ln (44))) (nm (sI σ (44) (Int32.toNatClampNeg ((32 * u4) + u5)) (vp_nar .byte (σ.1 (44) (Int32.toNatClampNeg (((32 * u4) + 32) + u5))))) (fun w25 => (F_X7_getWaiting_L125 B73 K173 K167 fz) w25 u1 u3 u4 (u5 + 1))))
def F_X7_getWaiting_L73 (K173 : St → Int32 → Option (St)) : Nat → St → Int32 → Int32 → Option (St)
  | 0, _, _, _ => none
  | fz + 1, σ, u1, u3 => gd (ib u1 (ln (41))) (if (σ.1 (41) (Int32.toNatClampNeg u1)) ≤ u3 then K173 σ u1 else gd (ib (((4 * u1) + u3) + 1) (ln (42))) (gd (ib ((4 * u1) + u3) (ln (42))) (nm (sI σ (42) (Int32.toNatClampNeg ((4 * u1) + u3)) (σ.1 (42) (Int32.toNatClampNeg (((4 * u1) + u3) + 1)))) (fun w30 => gd (ib (((4 * u1) + u3) + 1) (ln (43))) (gd (ib ((4 * u1) + u3) (ln (43))) (nm (sI w30 (43) (Int32.toNatClampNeg ((4 * u1) + u3)) (w30.1 (43) (Int32.toNatClampNeg (((4 * u1) + u3) + 1)))) (fun w33 => F_X7_getWaiting_L125 (F_X7_getWaiting_L73 K173 fz) K173 (F_X7_getWaiting_L167 (F_X7_getWaiting_L73 K173 fz) K173) fu w33 u1 u3 ((4 * u1) + u3) 0)))))))
def F_X7_getWaiting_L40 (σ : St) (u1 : Int32) (u2 : Int32) : Option (St) := if u2 = (-1) then (F_X7_begin σ u1 0 33 32).bind (fun y38 => (F_X7_finish y38 u1).bind (fun y39 => some y39)) else gd (ib u1 (ln (41))) (gd (ib u1 (ln (41))) (nm (sI σ (41) (Int32.toNatClampNeg u1) ((σ.1 (41) (Int32.toNatClampNeg u1)) - 1)) (fun w37 => F_X7_getWaiting_L73 F_X7_getWaiting_L173 fu w37 u1 u2)))
def F_X7_getWaiting_L11 (K40 : St → Int32 → Int32 → Option (St)) : Nat → St → Int32 → Int32 → Int32 → Option (St)
  | 0, _, _, _, _ => none
  | fz + 1, σ, u1, u2, u3 => if u3 < 0 then K40 σ u1 u2 else gd (ib ((4 * u1) + u3) (ln (42))) (if (σ.1 (42) (Int32.toNatClampNeg ((4 * u1) + u3))) = 0 then (F_X7_getWaiting_L11 K40 fz) σ u1 u3 (u3 + (-1)) else (F_X7_getWaiting_L11 K40 fz) σ u1 u2 (u3 + (-1)))
def F_X7_getWaiting (σ : St) (x1 : Int32) : Option (St) := gd (ib x1 (ln (41))) (F_X7_getWaiting_L11 F_X7_getWaiting_L40 fu σ x1 (-1) ((σ.1 (41) (Int32.toNatClampNeg x1)) - 1))
set_option maxHeartbeats 4000000 in
set_option maxRecDepth 100000 in
theorem m_X7_getWaiting (l : Launch) (G : va_G) (g : Nat → ClassId) (ad : Nat → Nat) (n a0 aM : Nat) (σ : St) (x1 : Int32) (x : St) (hF : F_X7_getWaiting σ x1 = some x) : Met l yX7_getWaiting zs_X7_getWaiting ({ frames := 3, cells := 0, slots := 0, locals := 69 } : Room) (va_Pc [.ref (ad (27)), .int x1] (wP G g ad n a0 aM σ)) (qV G g ad n a0 x) 0 0 (fun q : Nat => a0 ≤ q) := by
  refine Met.ofW (cc := cX7_getWaiting) (maxL := 6) (ret := none) (by decide) rfl ?_
  intro p e s m args below meth c s₁ B hml hv
  obtain ⟨rfl, hP, hD, hK⟩ := hv
  have hx := B.exec
  have hb := B.bytes
  have hr := B.returns
  have htA : ∀ w ∈ AL, w.before _ s = true := fun w h9 => atoms_spec (ws := zs_X7_getWaiting) B.pre w (List.mem_cons_of_mem _ h9)
  have hown : s.vm.findClass RX7 = some m.cls := findClass_of_methodNamed B.named
  have hlocks := B.notSynchronized
  have hW : Wd G g ad n a0 s.heap σ s.heap [] := ⟨hP, hD, va_S.rf⟩
  clear hP hD
  have hL173 : ∀ (σ : St) (u1 : Int32) (H : Heap) (locs : List Loc) (ls : Array Slot), Wd G g ad n a0 s.heap σ H locs → lv_has ls 6 [(0, .ref (ad (27))), (1, .int u1)] → F_X7_getWaiting_L173  σ u1 = some x → W p l e (headSpec zs_X7_getWaiting ({ frames := 3, cells := 0, slots := 0, locals := 69 } : Room)).room s m ([.ref (ad (27)), .int x1] : List Value).toArray below meth c H locs 0 0 (MQ below (qV G g ad n a0 x) ([.ref (ad (27)), .int x1] : List Value).toArray s 0 0 (fun q : Nat => a0 ≤ q)) (F0 m 173 ls []) := by
    intro σ u1 H locs ls hW hl hF
    unfold F_X7_getWaiting_L173 at hF
    refine lv_aload_n hx hb dX7_getWaiting_173 rfl (lv_at hl 0 rfl) ?_
    refine lv_iload_n hx hb dX7_getWaiting_174 rfl (lv_at hl 1 rfl) ?_
    refine lv_iconst (v := 0) hx hb dX7_getWaiting_175 (by decide) ?_
    refine lv_bipush (v := 49) hx hb dX7_getWaiting_176 (by decide) ?_
    refine lv_sipush (v := 130) hx hb dX7_getWaiting_178 (by decide) ?_
    obtain ⟨y20, hy20, hF⟩ := bd_some hF
    refine r_bv (va_runV (As := [.int u1, .int 0, .int 49, .int 130]) (rest := []) ⟨hx, hb, hml, hown, htA⟩ (m_X7_begin l G g ad n a0 aM σ u1 0 49 130 y20  hy20) (cwV 4 htA (gV aw_443 aw_444 aw_445 aw_382 gz_X7_begin) rfl rfl rfl (by decide +kernel) ⟨Nat.le_of_ble_eq_true rfl, Nat.le_of_ble_eq_true rfl⟩) (r_preV hK hW (27) (tp_lt (by decide)) (cE_k (rfl : kd 27 = 9)) rfl [.int u1, .int 0, .int 49, .int 130]) rfl rfl hl.1 rfl (lv_room (Nat.le_of_ble_eq_true rfl)) dX7_getWaiting_181 ⟨Nat.zero_le _, Nat.zero_le _⟩) hW (fun H locs hW => ?_)
    refine lv_aload_n hx hb dX7_getWaiting_184 rfl (lv_at hl 0 rfl) ?_
    refine lv_iload_n hx hb dX7_getWaiting_185 rfl (lv_at hl 1 rfl) ?_
    obtain ⟨y21, hy21, hF⟩ := bd_some hF
    refine r_bv (va_runV (As := [.int u1]) (rest := []) ⟨hx, hb, hml, hown, htA⟩ (m_X7_finish l G g ad n a0 aM y20 u1 y21  hy21) (cwV 1 htA (gV aw_447 aw_448 aw_449 aw_382 gz_X7_finish) rfl rfl rfl (by decide +kernel) ⟨Nat.le_of_ble_eq_true rfl, Nat.le_of_ble_eq_true rfl⟩) (r_preV hK hW (27) (tp_lt (by decide)) (cE_k (rfl : kd 27 = 9)) rfl [.int u1]) rfl rfl hl.1 rfl (lv_room (Nat.le_of_ble_eq_true rfl)) dX7_getWaiting_186 ⟨Nat.zero_le _, Nat.zero_le _⟩) hW (fun H locs hW => ?_)
    exact r_vret hx hb hr hlocks hW hF dX7_getWaiting_189
  have hL73 : ∀ (fz73 : Nat) (σ : St) (u1 : Int32) (u3 : Int32) (H : Heap) (locs : List Loc) (ls : Array Slot), Wd G g ad n a0 s.heap σ H locs → lv_has ls 6 [(0, .ref (ad (27))), (1, .int u1), (3, .int u3)] → F_X7_getWaiting_L73 (F_X7_getWaiting_L173) fz73 σ u1 u3 = some x → W p l e (headSpec zs_X7_getWaiting ({ frames := 3, cells := 0, slots := 0, locals := 69 } : Room)).room s m ([.ref (ad (27)), .int x1] : List Value).toArray below meth c H locs 0 0 (MQ below (qV G g ad n a0 x) ([.ref (ad (27)), .int x1] : List Value).toArray s 0 0 (fun q : Nat => a0 ≤ q)) (F0 m 73 ls []) := by
    intro fz73
    induction fz73 with
    | zero =>
      intro σ u1 u3 H locs ls hW hl hF
      exact absurd hF (by simp [F_X7_getWaiting_L73])
    | succ fz73 ih =>
      have hB73 := ih
      have hL167 : ∀ (σ : St) (u1 : Int32) (u3 : Int32) (H : Heap) (locs : List Loc) (ls : Array Slot), Wd G g ad n a0 s.heap σ H locs → lv_has ls 6 [(0, .ref (ad (27))), (1, .int u1), (3, .int u3)] → F_X7_getWaiting_L167 (F_X7_getWaiting_L73 (F_X7_getWaiting_L173) fz73) (F_X7_getWaiting_L173) σ u1 u3 = some x → W p l e (headSpec zs_X7_getWaiting ({ frames := 3, cells := 0, slots := 0, locals := 69 } : Room)).room s m ([.ref (ad (27)), .int x1] : List Value).toArray below meth c H locs 0 0 (MQ below (qV G g ad n a0 x) ([.ref (ad (27)), .int x1] : List Value).toArray s 0 0 (fun q : Nat => a0 ≤ q)) (F0 m 167 ls []) := by
        intro σ u1 u3 H locs ls hW hl hF
        unfold F_X7_getWaiting_L167 at hF
        refine lv_iinc (v := (u3 + 1)) (lv' := [(3, .int (u3 + 1)), (0, .ref (ad (27))), (1, .int u1)]) hx hb dX7_getWaiting_167 hl (k := 2) rfl rfl (by decide) rfl (fun ls hl => ?_)
        refine lv_goto (tgt := 73) hx hb dX7_getWaiting_170 (by decide) ?_
        exact hB73 σ u1 (u3 + 1) _ _ _  hW (lv_sub hl [1, 2, 0] rfl) hF
      have hL125 : ∀ (fz125 : Nat) (σ : St) (u1 : Int32) (u3 : Int32) (u4 : Int32) (u5 : Int32) (H : Heap) (locs : List Loc) (ls : Array Slot), Wd G g ad n a0 s.heap σ H locs → lv_has ls 6 [(0, .ref (ad (27))), (1, .int u1), (3, .int u3), (4, .int u4), (5, .int u5)] → F_X7_getWaiting_L125 (F_X7_getWaiting_L73 (F_X7_getWaiting_L173) fz73) (F_X7_getWaiting_L173) (F_X7_getWaiting_L167 (F_X7_getWaiting_L73 (F_X7_getWaiting_L173) fz73) (F_X7_getWaiting_L173)) fz125 σ u1 u3 u4 u5 = some x → W p l e (headSpec zs_X7_getWaiting ({ frames := 3, cells := 0, slots := 0, locals := 69 } : Room)).room s m ([.ref (ad (27)), .int x1] : List Value).toArray below meth c H locs 0 0 (MQ below (qV G g ad n a0 x) ([.ref (ad (27)), .int x1] : List Value).toArray s 0 0 (fun q : Nat => a0 ≤ q)) (F0 m 125 ls []) := by
        intro fz125
        induction fz125 with
        | zero =>
          intro σ u1 u3 u4 u5 H locs ls hW hl hF
          exact absurd hF (by simp [F_X7_getWaiting_L125])
        | succ fz125 ih =>
          have hB125 := ih
          intro σ u1 u3 u4 u5 H locs ls hW hl hF
          unfold F_X7_getWaiting_L125 at hF
          refine lv_iload hx hb dX7_getWaiting_125 (lv_at hl 4 rfl) ?_
          refine lv_bipush (v := 32) hx hb dX7_getWaiting_127 (by decide) ?_
          refine lv_icmp_ge (tgt := 167) hx hb dX7_getWaiting_129 (by decide) (fun hc22 => ?_) (fun hc22 => ?_)
          · replace hF := (if_pos hc22).symm.trans hF
            exact hL167 σ u1 u3 _ _ _  hW (lv_sub hl [0, 1, 2] rfl) hF
          · replace hF := (if_neg hc22).symm.trans hF
            refine lv_aload_n hx hb dX7_getWaiting_132 rfl (lv_at hl 0 rfl) ?_
            refine r_get (C := RX7) (T := TX7) (N := 39) hx hb htA ia_X7 hown hK hW (27) (tp_lt (by decide)) (cE_k (rfl : kd 27 = 9)) rfl 18 (by decide) (htA _ aw_369) rfl dX7_getWaiting_133 ?_
            refine lv_bipush (v := 32) hx hb dX7_getWaiting_136 (by decide) ?_
            refine lv_iload hx hb dX7_getWaiting_138 (lv_at hl 3 rfl) ?_
            refine lv_imul hx hb dX7_getWaiting_140 ?_
            refine lv_iload hx hb dX7_getWaiting_141 (lv_at hl 4 rfl) ?_
            refine lv_iadd hx hb dX7_getWaiting_143 ?_
            refine lv_aload_n hx hb dX7_getWaiting_144 rfl (lv_at hl 0 rfl) ?_
            refine r_get (C := RX7) (T := TX7) (N := 39) hx hb htA ia_X7 hown hK hW (27) (tp_lt (by decide)) (cE_k (rfl : kd 27 = 9)) rfl 18 (by decide) (htA _ aw_369) rfl dX7_getWaiting_145 ?_
            refine lv_bipush (v := 32) hx hb dX7_getWaiting_148 (by decide) ?_
            refine lv_iload hx hb dX7_getWaiting_150 (lv_at hl 3 rfl) ?_
            refine lv_imul hx hb dX7_getWaiting_152 ?_
            refine lv_bipush (v := 32) hx hb dX7_getWaiting_153 (by decide) ?_
            refine lv_iadd hx hb dX7_getWaiting_155 ?_
            refine lv_iload hx hb dX7_getWaiting_156 (lv_at hl 4 rfl) ?_
            refine lv_iadd hx hb dX7_getWaiting_158 ?_
            obtain ⟨hg23, hF⟩ := gd_some hF
            refine r_bald hx hb hK hW (44) (tp_lt (by decide)) (rfl : kd 44 = 10) hg23 dX7_getWaiting_159 ?_
            obtain ⟨hg24, hF⟩ := gd_some hF
            refine r_bast hx hb hK hW (44) (tp_lt (by decide)) (rfl : kd 44 = 10) hg24 dX7_getWaiting_160 (fun H locs hW => ?_)
            obtain ⟨w25, ew25, hF⟩ := nm_some hF
            rw [← ew25] at hW
            refine lv_iinc (v := (u5 + 1)) (lv' := [(5, .int (u5 + 1)), (0, .ref (ad (27))), (1, .int u1), (3, .int u3), (4, .int u4)]) hx hb dX7_getWaiting_161 hl (k := 4) rfl rfl (by decide) rfl (fun ls hl => ?_)
            refine lv_goto (tgt := 125) hx hb dX7_getWaiting_164 (by decide) ?_
            exact hB125 w25 u1 u3 u4 (u5 + 1) _ _ _  hW (lv_sub hl [1, 2, 3, 4, 0] rfl) hF
      have hL125 := hL125 fu
      intro σ u1 u3 H locs ls hW hl hF
      unfold F_X7_getWaiting_L73 at hF
      refine lv_iload_n hx hb dX7_getWaiting_73 rfl (lv_at hl 2 rfl) ?_
      refine lv_aload_n hx hb dX7_getWaiting_74 rfl (lv_at hl 0 rfl) ?_
      refine r_get (C := RX7) (T := TX7) (N := 39) hx hb htA ia_X7 hown hK hW (27) (tp_lt (by decide)) (cE_k (rfl : kd 27 = 9)) rfl 15 (by decide) (htA _ aw_366) rfl dX7_getWaiting_75 ?_
      refine lv_iload_n hx hb dX7_getWaiting_78 rfl (lv_at hl 1 rfl) ?_
      obtain ⟨hg26, hF⟩ := gd_some hF
      refine r_iald hx hb hK hW (41) (tp_lt (by decide)) (rfl : kd 41 = 3) hg26 dX7_getWaiting_79 ?_
      refine lv_icmp_ge (tgt := 173) hx hb dX7_getWaiting_80 (by decide) (fun hc27 => ?_) (fun hc27 => ?_)
      · replace hF := (if_pos hc27).symm.trans hF
        exact hL173 σ u1 _ _ _  hW (lv_sub hl [0, 1] rfl) hF
      · replace hF := (if_neg hc27).symm.trans hF
        refine lv_iconst (v := 4) hx hb dX7_getWaiting_83 (by decide) ?_
        refine lv_iload_n hx hb dX7_getWaiting_84 rfl (lv_at hl 1 rfl) ?_
        refine lv_imul hx hb dX7_getWaiting_85 ?_
        refine lv_iload_n hx hb dX7_getWaiting_86 rfl (lv_at hl 2 rfl) ?_
        refine lv_iadd hx hb dX7_getWaiting_87 ?_
        refine lv_istore (lv' := [(4, .int ((4 * u1) + u3)), (0, .ref (ad (27))), (1, .int u1), (3, .int u3)]) hx hb dX7_getWaiting_88 hl (by decide) rfl (fun ls hl => ?_)
        refine lv_aload_n hx hb dX7_getWaiting_90 rfl (lv_at hl 1 rfl) ?_
        refine r_get (C := RX7) (T := TX7) (N := 39) hx hb htA ia_X7 hown hK hW (27) (tp_lt (by decide)) (cE_k (rfl : kd 27 = 9)) rfl 16 (by decide) (htA _ aw_367) rfl dX7_getWaiting_91 ?_
        refine lv_iload hx hb dX7_getWaiting_94 (lv_at hl 0 rfl) ?_
        refine lv_aload_n hx hb dX7_getWaiting_96 rfl (lv_at hl 1 rfl) ?_
        refine r_get (C := RX7) (T := TX7) (N := 39) hx hb htA ia_X7 hown hK hW (27) (tp_lt (by decide)) (cE_k (rfl : kd 27 = 9)) rfl 16 (by decide) (htA _ aw_367) rfl dX7_getWaiting_97 ?_
        refine lv_iload hx hb dX7_getWaiting_100 (lv_at hl 0 rfl) ?_
        refine lv_iconst (v := 1) hx hb dX7_getWaiting_102 (by decide) ?_
        refine lv_iadd hx hb dX7_getWaiting_103 ?_
        obtain ⟨hg28, hF⟩ := gd_some hF
        refine r_iald hx hb hK hW (42) (tp_lt (by decide)) (rfl : kd 42 = 3) hg28 dX7_getWaiting_104 ?_
        obtain ⟨hg29, hF⟩ := gd_some hF
        refine r_iast hx hb hK hW (42) (tp_lt (by decide)) (rfl : kd 42 = 3) hg29 dX7_getWaiting_105 (fun H locs hW => ?_)
        obtain ⟨w30, ew30, hF⟩ := nm_some hF
        rw [← ew30] at hW
        refine lv_aload_n hx hb dX7_getWaiting_106 rfl (lv_at hl 1 rfl) ?_
        refine r_get (C := RX7) (T := TX7) (N := 39) hx hb htA ia_X7 hown hK hW (27) (tp_lt (by decide)) (cE_k (rfl : kd 27 = 9)) rfl 17 (by decide) (htA _ aw_368) rfl dX7_getWaiting_107 ?_
        refine lv_iload hx hb dX7_getWaiting_110 (lv_at hl 0 rfl) ?_
        refine lv_aload_n hx hb dX7_getWaiting_112 rfl (lv_at hl 1 rfl) ?_
        refine r_get (C := RX7) (T := TX7) (N := 39) hx hb htA ia_X7 hown hK hW (27) (tp_lt (by decide)) (cE_k (rfl : kd 27 = 9)) rfl 17 (by decide) (htA _ aw_368) rfl dX7_getWaiting_113 ?_
        refine lv_iload hx hb dX7_getWaiting_116 (lv_at hl 0 rfl) ?_
        refine lv_iconst (v := 1) hx hb dX7_getWaiting_118 (by decide) ?_
        refine lv_iadd hx hb dX7_getWaiting_119 ?_
        obtain ⟨hg31, hF⟩ := gd_some hF
        refine r_iald hx hb hK hW (43) (tp_lt (by decide)) (rfl : kd 43 = 3) hg31 dX7_getWaiting_120 ?_
        obtain ⟨hg32, hF⟩ := gd_some hF
        refine r_iast hx hb hK hW (43) (tp_lt (by decide)) (rfl : kd 43 = 3) hg32 dX7_getWaiting_121 (fun H locs hW => ?_)
        obtain ⟨w33, ew33, hF⟩ := nm_some hF
        rw [← ew33] at hW
        refine lv_iconst (v := 0) hx hb dX7_getWaiting_122 (by decide) ?_
        refine lv_istore (lv' := [(5, .int 0), (4, .int ((4 * u1) + u3)), (0, .ref (ad (27))), (1, .int u1), (3, .int u3)]) hx hb dX7_getWaiting_123 hl (by decide) rfl (fun ls hl => ?_)
        exact hL125 w33 u1 u3 ((4 * u1) + u3) 0 _ _ _  hW (lv_sub hl [2, 3, 4, 1, 0] rfl) hF
  have hL73 := hL73 fu
  have hL40 : ∀ (σ : St) (u1 : Int32) (u2 : Int32) (H : Heap) (locs : List Loc) (ls : Array Slot), Wd G g ad n a0 s.heap σ H locs → lv_has ls 6 [(0, .ref (ad (27))), (1, .int u1), (2, .int u2)] → F_X7_getWaiting_L40  σ u1 u2 = some x → W p l e (headSpec zs_X7_getWaiting ({ frames := 3, cells := 0, slots := 0, locals := 69 } : Room)).room s m ([.ref (ad (27)), .int x1] : List Value).toArray below meth c H locs 0 0 (MQ below (qV G g ad n a0 x) ([.ref (ad (27)), .int x1] : List Value).toArray s 0 0 (fun q : Nat => a0 ≤ q)) (F0 m 40 ls []) := by
    intro σ u1 u2 H locs ls hW hl hF
    unfold F_X7_getWaiting_L40 at hF
    refine lv_iload_n hx hb dX7_getWaiting_40 rfl (lv_at hl 2 rfl) ?_
    refine lv_iconst (v := (-1)) hx hb dX7_getWaiting_41 (by decide) ?_
    refine lv_icmp_ne (tgt := 61) hx hb dX7_getWaiting_42 (by decide) (fun hc34 => ?_) (fun hc34 => ?_)
    · replace hF := (if_neg hc34).symm.trans hF
      refine lv_aload_n hx hb dX7_getWaiting_61 rfl (lv_at hl 0 rfl) ?_
      refine r_get (C := RX7) (T := TX7) (N := 39) hx hb htA ia_X7 hown hK hW (27) (tp_lt (by decide)) (cE_k (rfl : kd 27 = 9)) rfl 15 (by decide) (htA _ aw_366) rfl dX7_getWaiting_62 ?_
      refine lv_iload_n hx hb dX7_getWaiting_65 rfl (lv_at hl 1 rfl) ?_
      refine lv_dup2_11 hx hb dX7_getWaiting_66 rfl rfl ?_
      obtain ⟨hg35, hF⟩ := gd_some hF
      refine r_iald hx hb hK hW (41) (tp_lt (by decide)) (rfl : kd 41 = 3) hg35 dX7_getWaiting_67 ?_
      refine lv_iconst (v := 1) hx hb dX7_getWaiting_68 (by decide) ?_
      refine lv_isub hx hb dX7_getWaiting_69 ?_
      obtain ⟨hg36, hF⟩ := gd_some hF
      refine r_iast hx hb hK hW (41) (tp_lt (by decide)) (rfl : kd 41 = 3) hg36 dX7_getWaiting_70 (fun H locs hW => ?_)
      obtain ⟨w37, ew37, hF⟩ := nm_some hF
      rw [← ew37] at hW
      refine lv_iload_n hx hb dX7_getWaiting_71 rfl (lv_at hl 2 rfl) ?_
      refine lv_istore_n (lv' := [(3, .int u2), (0, .ref (ad (27))), (1, .int u1), (2, .int u2)]) hx hb dX7_getWaiting_72 rfl hl (by decide) rfl (fun ls hl => ?_)
      exact hL73 w37 u1 u2 _ _ _  hW (lv_sub hl [1, 2, 0] rfl) hF
    · replace hF := (if_pos hc34).symm.trans hF
      refine lv_aload_n hx hb dX7_getWaiting_45 rfl (lv_at hl 0 rfl) ?_
      refine lv_iload_n hx hb dX7_getWaiting_46 rfl (lv_at hl 1 rfl) ?_
      refine lv_iconst (v := 0) hx hb dX7_getWaiting_47 (by decide) ?_
      refine lv_bipush (v := 33) hx hb dX7_getWaiting_48 (by decide) ?_
      refine lv_bipush (v := 32) hx hb dX7_getWaiting_50 (by decide) ?_
      obtain ⟨y38, hy38, hF⟩ := bd_some hF
      refine r_bv (va_runV (As := [.int u1, .int 0, .int 33, .int 32]) (rest := []) ⟨hx, hb, hml, hown, htA⟩ (m_X7_begin l G g ad n a0 aM σ u1 0 33 32 y38  hy38) (cwV 4 htA (gV aw_443 aw_444 aw_445 aw_382 gz_X7_begin) rfl rfl rfl (by decide +kernel) ⟨Nat.le_of_ble_eq_true rfl, Nat.le_of_ble_eq_true rfl⟩) (r_preV hK hW (27) (tp_lt (by decide)) (cE_k (rfl : kd 27 = 9)) rfl [.int u1, .int 0, .int 33, .int 32]) rfl rfl hl.1 rfl (lv_room (Nat.le_of_ble_eq_true rfl)) dX7_getWaiting_52 ⟨Nat.zero_le _, Nat.zero_le _⟩) hW (fun H locs hW => ?_)
      refine lv_aload_n hx hb dX7_getWaiting_55 rfl (lv_at hl 0 rfl) ?_
      refine lv_iload_n hx hb dX7_getWaiting_56 rfl (lv_at hl 1 rfl) ?_
      obtain ⟨y39, hy39, hF⟩ := bd_some hF
      refine r_bv (va_runV (As := [.int u1]) (rest := []) ⟨hx, hb, hml, hown, htA⟩ (m_X7_finish l G g ad n a0 aM y38 u1 y39  hy39) (cwV 1 htA (gV aw_447 aw_448 aw_449 aw_382 gz_X7_finish) rfl rfl rfl (by decide +kernel) ⟨Nat.le_of_ble_eq_true rfl, Nat.le_of_ble_eq_true rfl⟩) (r_preV hK hW (27) (tp_lt (by decide)) (cE_k (rfl : kd 27 = 9)) rfl [.int u1]) rfl rfl hl.1 rfl (lv_room (Nat.le_of_ble_eq_true rfl)) dX7_getWaiting_57 ⟨Nat.zero_le _, Nat.zero_le _⟩) hW (fun H locs hW => ?_)
      exact r_vret hx hb hr hlocks hW hF dX7_getWaiting_60
  have hL11 : ∀ (fz11 : Nat) (σ : St) (u1 : Int32) (u2 : Int32) (u3 : Int32) (H : Heap) (locs : List Loc) (ls : Array Slot), Wd G g ad n a0 s.heap σ H locs → lv_has ls 6 [(0, .ref (ad (27))), (1, .int u1), (2, .int u2), (3, .int u3)] → F_X7_getWaiting_L11 (F_X7_getWaiting_L40) fz11 σ u1 u2 u3 = some x → W p l e (headSpec zs_X7_getWaiting ({ frames := 3, cells := 0, slots := 0, locals := 69 } : Room)).room s m ([.ref (ad (27)), .int x1] : List Value).toArray below meth c H locs 0 0 (MQ below (qV G g ad n a0 x) ([.ref (ad (27)), .int x1] : List Value).toArray s 0 0 (fun q : Nat => a0 ≤ q)) (F0 m 11 ls []) := by
    intro fz11
    induction fz11 with
    | zero =>
      intro σ u1 u2 u3 H locs ls hW hl hF
      exact absurd hF (by simp [F_X7_getWaiting_L11])
    | succ fz11 ih =>
      have hB11 := ih
      intro σ u1 u2 u3 H locs ls hW hl hF
      unfold F_X7_getWaiting_L11 at hF
      refine lv_iload_n hx hb dX7_getWaiting_11 rfl (lv_at hl 3 rfl) ?_
      refine lv_if_lt (tgt := 40) hx hb dX7_getWaiting_12 (by decide) (fun hc40 => ?_) (fun hc40 => ?_)
      · replace hF := (if_pos hc40).symm.trans hF
        exact hL40 σ u1 u2 _ _ _  hW (lv_sub hl [0, 1, 2] rfl) hF
      · replace hF := (if_neg hc40).symm.trans hF
        refine lv_aload_n hx hb dX7_getWaiting_15 rfl (lv_at hl 0 rfl) ?_
        refine r_get (C := RX7) (T := TX7) (N := 39) hx hb htA ia_X7 hown hK hW (27) (tp_lt (by decide)) (cE_k (rfl : kd 27 = 9)) rfl 16 (by decide) (htA _ aw_367) rfl dX7_getWaiting_16 ?_
        refine lv_iconst (v := 4) hx hb dX7_getWaiting_19 (by decide) ?_
        refine lv_iload_n hx hb dX7_getWaiting_20 rfl (lv_at hl 1 rfl) ?_
        refine lv_imul hx hb dX7_getWaiting_21 ?_
        refine lv_iload_n hx hb dX7_getWaiting_22 rfl (lv_at hl 3 rfl) ?_
        refine lv_iadd hx hb dX7_getWaiting_23 ?_
        obtain ⟨hg41, hF⟩ := gd_some hF
        refine r_iald hx hb hK hW (42) (tp_lt (by decide)) (rfl : kd 42 = 3) hg41 dX7_getWaiting_24 ?_
        refine lv_if_ne (tgt := 32) hx hb dX7_getWaiting_25 (by decide) (fun hc42 => ?_) (fun hc42 => ?_)
        · replace hF := (if_neg hc42).symm.trans hF
          refine lv_iload_n hx hb dX7_getWaiting_32 rfl (lv_at hl 2 rfl) ?_
          refine lv_istore_n (lv' := [(2, .int u2), (0, .ref (ad (27))), (1, .int u1), (3, .int u3)]) hx hb dX7_getWaiting_33 rfl hl (by decide) rfl (fun ls hl => ?_)
          refine lv_iinc (v := (u3 + (-1))) (lv' := [(3, .int (u3 + (-1))), (2, .int u2), (0, .ref (ad (27))), (1, .int u1)]) hx hb dX7_getWaiting_34 hl (k := 3) rfl rfl (by decide) rfl (fun ls hl => ?_)
          refine lv_goto (tgt := 11) hx hb dX7_getWaiting_37 (by decide) ?_
          exact hB11 σ u1 u2 (u3 + (-1)) _ _ _  hW (lv_sub hl [2, 3, 1, 0] rfl) hF
        · replace hF := (if_pos hc42).symm.trans hF
          refine lv_iload_n hx hb dX7_getWaiting_28 rfl (lv_at hl 3 rfl) ?_
          refine lv_goto (tgt := 33) hx hb dX7_getWaiting_29 (by decide) ?_
          refine lv_istore_n (lv' := [(2, .int u3), (0, .ref (ad (27))), (1, .int u1), (3, .int u3)]) hx hb dX7_getWaiting_33 rfl hl (by decide) rfl (fun ls hl => ?_)
          refine lv_iinc (v := (u3 + (-1))) (lv' := [(3, .int (u3 + (-1))), (2, .int u3), (0, .ref (ad (27))), (1, .int u1)]) hx hb dX7_getWaiting_34 hl (k := 3) rfl rfl (by decide) rfl (fun ls hl => ?_)
          refine lv_goto (tgt := 11) hx hb dX7_getWaiting_37 (by decide) ?_
          exact hB11 σ u1 u3 (u3 + (-1)) _ _ _  hW (lv_sub hl [2, 3, 1, 0] rfl) hF
  have hL11 := hL11 fu
  have hl := lv_entry ([.ref (ad (27)), .int x1]) (n := 6) (Nat.le_of_ble_eq_true rfl)
  rw [lg_entry_eq]
  generalize (lg_sl ([.ref (ad (27)), .int x1]) ++ List.replicate (6 - (lg_sl ([.ref (ad (27)), .int x1])).length) Slot.unset).toArray = ls at hl ⊢
  have hl : lv_has ls 6 [(0, .ref (ad (27))), (1, .int x1)] := hl
  unfold F_X7_getWaiting at hF
  refine lv_iconst (v := (-1)) hx hb dX7_getWaiting_0 (by decide) ?_
  refine lv_istore_n (lv' := [(2, .int (-1)), (0, .ref (ad (27))), (1, .int x1)]) hx hb dX7_getWaiting_1 rfl hl (by decide) rfl (fun ls hl => ?_)
  refine lv_aload_n hx hb dX7_getWaiting_2 rfl (lv_at hl 1 rfl) ?_
  refine r_get (C := RX7) (T := TX7) (N := 39) hx hb htA ia_X7 hown hK hW (27) (tp_lt (by decide)) (cE_k (rfl : kd 27 = 9)) rfl 15 (by decide) (htA _ aw_366) rfl dX7_getWaiting_3 ?_
  refine lv_iload_n hx hb dX7_getWaiting_6 rfl (lv_at hl 2 rfl) ?_
  obtain ⟨hg43, hF⟩ := gd_some hF
  refine r_iald hx hb hK hW (41) (tp_lt (by decide)) (rfl : kd 41 = 3) hg43 dX7_getWaiting_7 ?_
  refine lv_iconst (v := 1) hx hb dX7_getWaiting_8 (by decide) ?_
  refine lv_isub hx hb dX7_getWaiting_9 ?_
  refine lv_istore_n (lv' := [(3, .int ((σ.1 (41) (Int32.toNatClampNeg x1)) - 1)), (2, .int (-1)), (0, .ref (ad (27))), (1, .int x1)]) hx hb dX7_getWaiting_10 rfl hl (by decide) rfl (fun ls hl => ?_)
  exact hL11 σ x1 (-1) ((σ.1 (41) (Int32.toNatClampNeg x1)) - 1) _ _ _  hW (lv_sub hl [2, 3, 1, 0] rfl) hF
def F_X7_get_L61 (σ : St) (u1 : Int32) (u2 : Int32) (z0 : Int32) (z1 : Int32) : Option (St) := if z1 = z0 then if u2 = 32 then (F_X7_getWaiting σ u1).bind (fun y17 => some y17) else (F_X7_begin σ u1 0 33 u2).bind (fun y14 => (F_X7_tell y14 u1 u2).bind (fun y15 => (F_X7_finish y15 u1).bind (fun y16 => some y16))) else (F_X7_refuse σ u1 1 1).bind (fun y18 => some y18)
def F_X7_get (σ : St) (x1 : Int32) : Option (St) := (F_X7_two σ 21).bind (fun y19 => (F_X7_two y19.1 18).bind (fun y20 => if y20.2 = 0 then (F_X7_isMatter y20.1 y19.2).bind (fun y22 => if y22.2 = 0 then (F_X7_refuse y22.1 x1 1 0).bind (fun y26 => some y26) else (F_X7_at y22.1 23).bind (fun y24 => if y19.2 = 32 then F_X7_get_L61 y24.1 x1 y19.2 1 y24.2 else F_X7_get_L61 y24.1 x1 y19.2 0 y24.2)) else (F_X7_refuse y20.1 x1 1 9).bind (fun y27 => some y27)))
set_option maxHeartbeats 4000000 in
set_option maxRecDepth 100000 in
theorem m_X7_get (l : Launch) (G : va_G) (g : Nat → ClassId) (ad : Nat → Nat) (n a0 aM : Nat) (σ : St) (x1 : Int32) (x : St) (hF : F_X7_get σ x1 = some x) : Met l yX7_get zs_X7_get ({ frames := 4, cells := 0, slots := 0, locals := 94 } : Room) (va_Pc [.ref (ad (27)), .int x1] (wP G g ad n a0 aM σ)) (qV G g ad n a0 x) 0 0 (fun q : Nat => a0 ≤ q) := by
  refine Met.ofW (cc := cX7_get) (maxL := 3) (ret := none) (by decide) rfl ?_
  intro p e s m args below meth c s₁ B hml hv
  obtain ⟨rfl, hP, hD, hK⟩ := hv
  have hx := B.exec
  have hb := B.bytes
  have hr := B.returns
  have htA : ∀ w ∈ AL, w.before _ s = true := fun w h9 => atoms_spec (ws := zs_X7_get) B.pre w (List.mem_cons_of_mem _ h9)
  have hown : s.vm.findClass RX7 = some m.cls := findClass_of_methodNamed B.named
  have hlocks := B.notSynchronized
  have hW : Wd G g ad n a0 s.heap σ s.heap [] := ⟨hP, hD, va_S.rf⟩
  clear hP hD
  have hL61 : ∀ (σ : St) (u1 : Int32) (u2 : Int32) (z0 : Int32) (z1 : Int32) (H : Heap) (locs : List Loc) (ls : Array Slot), Wd G g ad n a0 s.heap σ H locs → lv_has ls 3 [(0, .ref (ad (27))), (1, .int u1), (2, .int u2)] → F_X7_get_L61  σ u1 u2 z0 z1 = some x → W p l e (headSpec zs_X7_get ({ frames := 4, cells := 0, slots := 0, locals := 94 } : Room)).room s m ([.ref (ad (27)), .int x1] : List Value).toArray below meth c H locs 0 0 (MQ below (qV G g ad n a0 x) ([.ref (ad (27)), .int x1] : List Value).toArray s 0 0 (fun q : Nat => a0 ≤ q)) (F0 m 61 ls [.int z0, .int z1]) := by
    intro σ u1 u2 z0 z1 H locs ls hW hl hF
    unfold F_X7_get_L61 at hF
    refine lv_icmp_eq (tgt := 74) hx hb dX7_get_61 (by decide) (fun hc12 => ?_) (fun hc12 => ?_)
    · replace hF := (if_pos hc12).symm.trans hF
      refine lv_iload_n hx hb dX7_get_74 rfl (lv_at hl 2 rfl) ?_
      refine lv_bipush (v := 32) hx hb dX7_get_75 (by decide) ?_
      refine lv_icmp_ne (tgt := 88) hx hb dX7_get_77 (by decide) (fun hc13 => ?_) (fun hc13 => ?_)
      · replace hF := (if_neg hc13).symm.trans hF
        refine lv_aload_n hx hb dX7_get_88 rfl (lv_at hl 0 rfl) ?_
        refine lv_iload_n hx hb dX7_get_89 rfl (lv_at hl 1 rfl) ?_
        refine lv_iconst (v := 0) hx hb dX7_get_90 (by decide) ?_
        refine lv_bipush (v := 33) hx hb dX7_get_91 (by decide) ?_
        refine lv_iload_n hx hb dX7_get_93 rfl (lv_at hl 2 rfl) ?_
        obtain ⟨y14, hy14, hF⟩ := bd_some hF
        refine r_bv (va_runV (As := [.int u1, .int 0, .int 33, .int u2]) (rest := []) ⟨hx, hb, hml, hown, htA⟩ (m_X7_begin l G g ad n a0 aM σ u1 0 33 u2 y14  hy14) (cwV 4 htA (gV aw_443 aw_444 aw_445 aw_382 gz_X7_begin) rfl rfl rfl (by decide +kernel) ⟨Nat.le_of_ble_eq_true rfl, Nat.le_of_ble_eq_true rfl⟩) (r_preV hK hW (27) (tp_lt (by decide)) (cE_k (rfl : kd 27 = 9)) rfl [.int u1, .int 0, .int 33, .int u2]) rfl rfl hl.1 rfl (lv_room (Nat.le_of_ble_eq_true rfl)) dX7_get_94 ⟨Nat.zero_le _, Nat.zero_le _⟩) hW (fun H locs hW => ?_)
        refine lv_aload_n hx hb dX7_get_97 rfl (lv_at hl 0 rfl) ?_
        refine lv_iload_n hx hb dX7_get_98 rfl (lv_at hl 1 rfl) ?_
        refine lv_iload_n hx hb dX7_get_99 rfl (lv_at hl 2 rfl) ?_
        obtain ⟨y15, hy15, hF⟩ := bd_some hF
        refine r_bv (va_runV (As := [.int u1, .int u2]) (rest := []) ⟨hx, hb, hml, hown, htA⟩ (m_X7_tell l G g ad n a0 aM y14 u1 u2 y15  hy15) (cwV 2 htA (gV aw_462 aw_463 aw_464 aw_382 gz_X7_tell) rfl rfl rfl (by decide +kernel) ⟨Nat.le_of_ble_eq_true rfl, Nat.le_of_ble_eq_true rfl⟩) (r_preV hK hW (27) (tp_lt (by decide)) (cE_k (rfl : kd 27 = 9)) rfl [.int u1, .int u2]) rfl rfl hl.1 rfl (lv_room (Nat.le_of_ble_eq_true rfl)) dX7_get_100 ⟨Nat.zero_le _, Nat.zero_le _⟩) hW (fun H locs hW => ?_)
        refine lv_aload_n hx hb dX7_get_103 rfl (lv_at hl 0 rfl) ?_
        refine lv_iload_n hx hb dX7_get_104 rfl (lv_at hl 1 rfl) ?_
        obtain ⟨y16, hy16, hF⟩ := bd_some hF
        refine r_bv (va_runV (As := [.int u1]) (rest := []) ⟨hx, hb, hml, hown, htA⟩ (m_X7_finish l G g ad n a0 aM y15 u1 y16  hy16) (cwV 1 htA (gV aw_447 aw_448 aw_449 aw_382 gz_X7_finish) rfl rfl rfl (by decide +kernel) ⟨Nat.le_of_ble_eq_true rfl, Nat.le_of_ble_eq_true rfl⟩) (r_preV hK hW (27) (tp_lt (by decide)) (cE_k (rfl : kd 27 = 9)) rfl [.int u1]) rfl rfl hl.1 rfl (lv_room (Nat.le_of_ble_eq_true rfl)) dX7_get_105 ⟨Nat.zero_le _, Nat.zero_le _⟩) hW (fun H locs hW => ?_)
        exact r_vret hx hb hr hlocks hW hF dX7_get_108
      · replace hF := (if_pos hc13).symm.trans hF
        refine lv_aload_n hx hb dX7_get_80 rfl (lv_at hl 0 rfl) ?_
        refine lv_iload_n hx hb dX7_get_81 rfl (lv_at hl 1 rfl) ?_
        obtain ⟨y17, hy17, hF⟩ := bd_some hF
        refine r_bv (va_runV (As := [.int u1]) (rest := []) ⟨hx, hb, hml, hown, htA⟩ (m_X7_getWaiting l G g ad n a0 aM σ u1 y17  hy17) (cwV 1 htA (gV aw_458 aw_459 aw_460 aw_382 gz_X7_getWaiting) rfl rfl rfl (by decide +kernel) ⟨Nat.le_of_ble_eq_true rfl, Nat.le_of_ble_eq_true rfl⟩) (r_preV hK hW (27) (tp_lt (by decide)) (cE_k (rfl : kd 27 = 9)) rfl [.int u1]) rfl rfl hl.1 rfl (lv_room (Nat.le_of_ble_eq_true rfl)) dX7_get_82 ⟨Nat.zero_le _, Nat.zero_le _⟩) hW (fun H locs hW => ?_)
        refine lv_goto (tgt := 108) hx hb dX7_get_85 (by decide) ?_
        exact r_vret hx hb hr hlocks hW hF dX7_get_108
    · replace hF := (if_neg hc12).symm.trans hF
      refine lv_aload_n hx hb dX7_get_64 rfl (lv_at hl 0 rfl) ?_
      refine lv_iload_n hx hb dX7_get_65 rfl (lv_at hl 1 rfl) ?_
      refine lv_iconst (v := 1) hx hb dX7_get_66 (by decide) ?_
      refine lv_iconst (v := 1) hx hb dX7_get_67 (by decide) ?_
      obtain ⟨y18, hy18, hF⟩ := bd_some hF
      refine r_bv (va_runV (As := [.int u1, .int 1, .int 1]) (rest := []) ⟨hx, hb, hml, hown, htA⟩ (m_X7_refuse l G g ad n a0 aM σ u1 1 1 y18  hy18) (cwV 3 htA (gV aw_451 aw_452 aw_453 aw_382 gz_X7_refuse) rfl rfl rfl (by decide +kernel) ⟨Nat.le_of_ble_eq_true rfl, Nat.le_of_ble_eq_true rfl⟩) (r_preV hK hW (27) (tp_lt (by decide)) (cE_k (rfl : kd 27 = 9)) rfl [.int u1, .int 1, .int 1]) rfl rfl hl.1 rfl (lv_room (Nat.le_of_ble_eq_true rfl)) dX7_get_68 ⟨Nat.zero_le _, Nat.zero_le _⟩) hW (fun H locs hW => ?_)
      refine lv_goto (tgt := 108) hx hb dX7_get_71 (by decide) ?_
      exact r_vret hx hb hr hlocks hW hF dX7_get_108
  have hl := lv_entry ([.ref (ad (27)), .int x1]) (n := 3) (Nat.le_of_ble_eq_true rfl)
  rw [lg_entry_eq]
  generalize (lg_sl ([.ref (ad (27)), .int x1]) ++ List.replicate (3 - (lg_sl ([.ref (ad (27)), .int x1])).length) Slot.unset).toArray = ls at hl ⊢
  have hl : lv_has ls 3 [(0, .ref (ad (27))), (1, .int x1)] := hl
  unfold F_X7_get at hF
  refine lv_aload_n hx hb dX7_get_0 rfl (lv_at hl 0 rfl) ?_
  refine lv_bipush (v := 21) hx hb dX7_get_1 (by decide) ?_
  obtain ⟨y19, hy19, hF⟩ := bd_some hF
  refine r_bi (va_runV (As := [.int 21]) (rest := []) ⟨hx, hb, hml, hown, htA⟩ (m_X7_two l G g ad n a0 aM σ 21 y19  hy19) (cwV 1 htA (gV aw_410 aw_411 aw_412 aw_382 gz_X7_two) rfl rfl rfl (by decide +kernel) ⟨Nat.le_of_ble_eq_true rfl, Nat.le_of_ble_eq_true rfl⟩) (r_preV hK hW (27) (tp_lt (by decide)) (cE_k (rfl : kd 27 = 9)) rfl [.int 21]) rfl rfl hl.1 rfl (lv_room (Nat.le_of_ble_eq_true rfl)) dX7_get_3 ⟨Nat.zero_le _, Nat.zero_le _⟩) hW (fun H locs hW => ?_)
  refine lv_istore_n (lv' := [(2, .int y19.2), (0, .ref (ad (27))), (1, .int x1)]) hx hb dX7_get_6 rfl hl (by decide) rfl (fun ls hl => ?_)
  refine lv_aload_n hx hb dX7_get_7 rfl (lv_at hl 1 rfl) ?_
  refine lv_bipush (v := 18) hx hb dX7_get_8 (by decide) ?_
  obtain ⟨y20, hy20, hF⟩ := bd_some hF
  refine r_bi (va_runV (As := [.int 18]) (rest := []) ⟨hx, hb, hml, hown, htA⟩ (m_X7_two l G g ad n a0 aM y19.1 18 y20  hy20) (cwV 1 htA (gV aw_410 aw_411 aw_412 aw_382 gz_X7_two) rfl rfl rfl (by decide +kernel) ⟨Nat.le_of_ble_eq_true rfl, Nat.le_of_ble_eq_true rfl⟩) (r_preV hK hW (27) (tp_lt (by decide)) (cE_k (rfl : kd 27 = 9)) rfl [.int 18]) rfl rfl hl.1 rfl (lv_room (Nat.le_of_ble_eq_true rfl)) dX7_get_10 ⟨Nat.zero_le _, Nat.zero_le _⟩) hW (fun H locs hW => ?_)
  refine lv_if_eq (tgt := 27) hx hb dX7_get_13 (by decide) (fun hc21 => ?_) (fun hc21 => ?_)
  · replace hF := (if_pos hc21).symm.trans hF
    refine lv_iload_n hx hb dX7_get_27 rfl (lv_at hl 0 rfl) ?_
    obtain ⟨y22, hy22, hF⟩ := bd_some hF
    refine r_bi (va_runS (As := [.int y19.2]) (rest := []) ⟨hx, hb, hml, hown, htA⟩ (m_X7_isMatter l G g ad n a0 aM y20.1 y19.2 y22  hy22) (va_cwS 1 htA (gS aw_455 aw_456 aw_382 gz_X7_isMatter) rfl rfl rfl (by decide +kernel) ⟨Nat.le_of_ble_eq_true rfl, Nat.le_of_ble_eq_true rfl⟩) (r_pre hK hW [.int y19.2]) rfl rfl hl.1 rfl (lv_room (Nat.le_of_ble_eq_true rfl)) dX7_get_28 ⟨Nat.zero_le _, Nat.zero_le _⟩) hW (fun H locs hW => ?_)
    refine lv_if_ne (tgt := 44) hx hb dX7_get_31 (by decide) (fun hc23 => ?_) (fun hc23 => ?_)
    · replace hF := (if_neg hc23).symm.trans hF
      refine lv_aload_n hx hb dX7_get_44 rfl (lv_at hl 1 rfl) ?_
      refine lv_bipush (v := 23) hx hb dX7_get_45 (by decide) ?_
      obtain ⟨y24, hy24, hF⟩ := bd_some hF
      refine r_bi (va_runV (As := [.int 23]) (rest := []) ⟨hx, hb, hml, hown, htA⟩ (m_X7_at l G g ad n a0 aM y22.1 23 y24  hy24) (cwV 1 htA (gV aw_398 aw_399 aw_400 aw_382 gz_X7_at) rfl rfl rfl (by decide +kernel) ⟨Nat.le_of_ble_eq_true rfl, Nat.le_of_ble_eq_true rfl⟩) (r_preV hK hW (27) (tp_lt (by decide)) (cE_k (rfl : kd 27 = 9)) rfl [.int 23]) rfl rfl hl.1 rfl (lv_room (Nat.le_of_ble_eq_true rfl)) dX7_get_47 ⟨Nat.zero_le _, Nat.zero_le _⟩) hW (fun H locs hW => ?_)
      refine lv_iload_n hx hb dX7_get_50 rfl (lv_at hl 0 rfl) ?_
      refine lv_bipush (v := 32) hx hb dX7_get_51 (by decide) ?_
      refine lv_icmp_ne (tgt := 60) hx hb dX7_get_53 (by decide) (fun hc25 => ?_) (fun hc25 => ?_)
      · replace hF := (if_neg hc25).symm.trans hF
        refine lv_iconst (v := 0) hx hb dX7_get_60 (by decide) ?_
        exact hL61 y24.1 x1 y19.2 0 y24.2 _ _ _  hW (lv_sub hl [1, 2, 0] rfl) hF
      · replace hF := (if_pos hc25).symm.trans hF
        refine lv_iconst (v := 1) hx hb dX7_get_56 (by decide) ?_
        refine lv_goto (tgt := 61) hx hb dX7_get_57 (by decide) ?_
        exact hL61 y24.1 x1 y19.2 1 y24.2 _ _ _  hW (lv_sub hl [1, 2, 0] rfl) hF
    · replace hF := (if_pos hc23).symm.trans hF
      refine lv_aload_n hx hb dX7_get_34 rfl (lv_at hl 1 rfl) ?_
      refine lv_iload_n hx hb dX7_get_35 rfl (lv_at hl 2 rfl) ?_
      refine lv_iconst (v := 1) hx hb dX7_get_36 (by decide) ?_
      refine lv_iconst (v := 0) hx hb dX7_get_37 (by decide) ?_
      obtain ⟨y26, hy26, hF⟩ := bd_some hF
      refine r_bv (va_runV (As := [.int x1, .int 1, .int 0]) (rest := []) ⟨hx, hb, hml, hown, htA⟩ (m_X7_refuse l G g ad n a0 aM y22.1 x1 1 0 y26  hy26) (cwV 3 htA (gV aw_451 aw_452 aw_453 aw_382 gz_X7_refuse) rfl rfl rfl (by decide +kernel) ⟨Nat.le_of_ble_eq_true rfl, Nat.le_of_ble_eq_true rfl⟩) (r_preV hK hW (27) (tp_lt (by decide)) (cE_k (rfl : kd 27 = 9)) rfl [.int x1, .int 1, .int 0]) rfl rfl hl.1 rfl (lv_room (Nat.le_of_ble_eq_true rfl)) dX7_get_38 ⟨Nat.zero_le _, Nat.zero_le _⟩) hW (fun H locs hW => ?_)
      refine lv_goto (tgt := 108) hx hb dX7_get_41 (by decide) ?_
      exact r_vret hx hb hr hlocks hW hF dX7_get_108
  · replace hF := (if_neg hc21).symm.trans hF
    refine lv_aload_n hx hb dX7_get_16 rfl (lv_at hl 1 rfl) ?_
    refine lv_iload_n hx hb dX7_get_17 rfl (lv_at hl 2 rfl) ?_
    refine lv_iconst (v := 1) hx hb dX7_get_18 (by decide) ?_
    refine lv_bipush (v := 9) hx hb dX7_get_19 (by decide) ?_
    obtain ⟨y27, hy27, hF⟩ := bd_some hF
    refine r_bv (va_runV (As := [.int x1, .int 1, .int 9]) (rest := []) ⟨hx, hb, hml, hown, htA⟩ (m_X7_refuse l G g ad n a0 aM y20.1 x1 1 9 y27  hy27) (cwV 3 htA (gV aw_451 aw_452 aw_453 aw_382 gz_X7_refuse) rfl rfl rfl (by decide +kernel) ⟨Nat.le_of_ble_eq_true rfl, Nat.le_of_ble_eq_true rfl⟩) (r_preV hK hW (27) (tp_lt (by decide)) (cE_k (rfl : kd 27 = 9)) rfl [.int x1, .int 1, .int 9]) rfl rfl hl.1 rfl (lv_room (Nat.le_of_ble_eq_true rfl)) dX7_get_21 ⟨Nat.zero_le _, Nat.zero_le _⟩) hW (fun H locs hW => ?_)
    refine lv_goto (tgt := 108) hx hb dX7_get_24 (by decide) ?_
    exact r_vret hx hb hr hlocks hW hF dX7_get_108
