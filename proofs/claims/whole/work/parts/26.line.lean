def F_X6_isThere_L32 (n : Nat) (σ : St) : Option (St × Int32) := some (σ, 0)
def F_X6_isThere_L24 (n : Nat) (σ : St) : Option (St × Int32) := some (σ, 1)
def F_X6_isThere_L2 (n : Nat) (K24 : St → Option (St × Int32)) (K32 : St → Option (St × Int32)) : Nat → St → Int64 → Int32 → Option (St × Int32)
  | 0, _, _, _ => none
  | fz + 1, σ, u1, u3 => if (σ.1 (0) 10) ≤ u3 then K32 σ else gd (ib u3 24) (gd (decide (Int32.toNatClampNeg u3 < n)) (if (lg_cmp (σ.2 (54 + 12 * (Int32.toNatClampNeg u3)) 0) u1) = 0 then K24 σ else (F_X6_isThere_L2 n K24 K32 fz) σ u1 (u3 + 1)))
def F_X6_isThere (n : Nat) (σ : St) (x1 : Int64) : Option (St × Int32) := F_X6_isThere_L2 n (F_X6_isThere_L24 n) (F_X6_isThere_L32 n) fu σ x1 0
set_option maxHeartbeats 4000000 in
set_option maxRecDepth 100000 in
theorem m_X6_isThere (l : Launch) (G : va_G) (g : Nat → ClassId) (ad : Nat → Nat) (n a0 aM : Nat) (σ : St) (x1 : Int64) (x : St × Int32) (hF : F_X6_isThere n σ x1 = some x) : Met l yX6_isThere zs_X6_isThere ({ frames := 0, cells := 0, slots := 0, locals := 0 } : Room) (va_Pc [.ref (ad (0)), .long x1] (wP G g ad n a0 aM σ)) (qI G g ad n a0 x) 0 0 (fun q : Nat => a0 ≤ q) := by
  refine Met.ofW (cc := cX6_isThere) (maxL := 4) (ret := (some .boolean)) (by decide) rfl ?_
  intro p e s m args below meth c s₁ B hml hv
  obtain ⟨rfl, hP, hD, hK⟩ := hv
  have hx := B.exec
  have hb := B.bytes
  have hr := B.returns
  have htA : ∀ w ∈ AL, w.before _ s = true := fun w h9 => atoms_spec (ws := zs_X6_isThere) B.pre w (List.mem_cons_of_mem _ h9)
  have hown : s.vm.findClass RX6 = some m.cls := findClass_of_methodNamed B.named
  have hlocks := B.notSynchronized
  have hW : Wd G g ad n a0 s.heap σ s.heap [] := ⟨hP, hD, va_S.rf⟩
  clear hP hD
  have hL32 : ∀ (σ : St) (H : Heap) (locs : List Loc) (ls : Array Slot), Wd G g ad n a0 s.heap σ H locs → lv_has ls 4 [] → F_X6_isThere_L32 n  σ = some x → W p l e (headSpec zs_X6_isThere ({ frames := 0, cells := 0, slots := 0, locals := 0 } : Room)).room s m ([.ref (ad (0)), .long x1] : List Value).toArray below meth c H locs 0 0 (MQ below (qI G g ad n a0 x) ([.ref (ad (0)), .long x1] : List Value).toArray s 0 0 (fun q : Nat => a0 ≤ q)) (F0 m 32 ls []) := by
    intro σ H locs ls hW hl hF
    unfold F_X6_isThere_L32 at hF
    refine lv_iconst (v := 0) hx hb dX6_isThere_32 (by decide) ?_
    exact r_zret hx hb hr hlocks hW rfl hF dX6_isThere_33
  have hL24 : ∀ (σ : St) (H : Heap) (locs : List Loc) (ls : Array Slot), Wd G g ad n a0 s.heap σ H locs → lv_has ls 4 [] → F_X6_isThere_L24 n  σ = some x → W p l e (headSpec zs_X6_isThere ({ frames := 0, cells := 0, slots := 0, locals := 0 } : Room)).room s m ([.ref (ad (0)), .long x1] : List Value).toArray below meth c H locs 0 0 (MQ below (qI G g ad n a0 x) ([.ref (ad (0)), .long x1] : List Value).toArray s 0 0 (fun q : Nat => a0 ≤ q)) (F0 m 24 ls []) := by
    intro σ H locs ls hW hl hF
    unfold F_X6_isThere_L24 at hF
    refine lv_iconst (v := 1) hx hb dX6_isThere_24 (by decide) ?_
    exact r_zret hx hb hr hlocks hW rfl hF dX6_isThere_25
  have hL2 : ∀ (fz2 : Nat) (σ : St) (u1 : Int64) (u3 : Int32) (H : Heap) (locs : List Loc) (ls : Array Slot), Wd G g ad n a0 s.heap σ H locs → lv_has ls 4 [(0, .ref (ad (0))), (1, .long u1), (3, .int u3)] → F_X6_isThere_L2 n (F_X6_isThere_L24 n) (F_X6_isThere_L32 n) fz2 σ u1 u3 = some x → W p l e (headSpec zs_X6_isThere ({ frames := 0, cells := 0, slots := 0, locals := 0 } : Room)).room s m ([.ref (ad (0)), .long x1] : List Value).toArray below meth c H locs 0 0 (MQ below (qI G g ad n a0 x) ([.ref (ad (0)), .long x1] : List Value).toArray s 0 0 (fun q : Nat => a0 ≤ q)) (F0 m 2 ls []) := by
    intro fz2
    induction fz2 with
    | zero =>
      intro σ u1 u3 H locs ls hW hl hF
      exact absurd hF (by simp [F_X6_isThere_L2])
    | succ fz2 ih =>
      have hB2 := ih
      intro σ u1 u3 H locs ls hW hl hF
      unfold F_X6_isThere_L2 at hF
      refine lv_iload_n hx hb dX6_isThere_2 rfl (lv_at hl 2 rfl) ?_
      refine lv_aload_n hx hb dX6_isThere_3 rfl (lv_at hl 0 rfl) ?_
      refine r_get (C := RX6) (T := TX6) (N := 13) hx hb htA ia_X6 hown hK hW (0) (tp_lt (by decide)) (cE_k (rfl : kd 0 = 1)) rfl 10 (by decide) (htA _ aw_221) rfl dX6_isThere_4 ?_
      refine lv_icmp_ge (tgt := 32) hx hb dX6_isThere_7 (by decide) (fun hc4 => ?_) (fun hc4 => ?_)
      · replace hF := (if_pos hc4).symm.trans hF
        exact hL32 σ _ _ _  hW (lv_sub hl [] rfl) hF
      · replace hF := (if_neg hc4).symm.trans hF
        refine lv_aload_n hx hb dX6_isThere_10 rfl (lv_at hl 0 rfl) ?_
        refine r_get (C := RX6) (T := TX6) (N := 13) hx hb htA ia_X6 hown hK hW (0) (tp_lt (by decide)) (cE_k (rfl : kd 0 = 1)) rfl 9 (by decide) (htA _ aw_213) rfl dX6_isThere_11 ?_
        refine lv_iload_n hx hb dX6_isThere_14 rfl (lv_at hl 2 rfl) ?_
        obtain ⟨hg5, hF⟩ := gd_some hF
        obtain ⟨hg6, hF⟩ := gd_some hF
        refine r_lamp hx hb hK hW hg5 (of_decide_eq_true hg6) dX6_isThere_15 ?_
        have hq7 : isLp (54 + 12 * (Int32.toNatClampNeg u3)) := isLp_at _
        have thq7 : 54 + 12 * (Int32.toNatClampNeg u3) + 11 < tp n := by have h9 := of_decide_eq_true hg6; unfold tp; omega
        refine r_getN (C := RX1) (T := TX1) (N := 15) hx hb htA ia_X1 hown hK hW (54 + 12 * (Int32.toNatClampNeg u3)) (by omega) (cE_k hq7.1) rfl 0 (by decide) (hK.nest (w := .fieldLinkNest RX6 173 "LampLine$Lamp" "id" "J" "LampLine") (by decide +kernel)) rfl dX6_isThere_16 ?_
        refine lv_lload_n hx hb dX6_isThere_19 rfl (lv_at hl 1 rfl) ?_
        refine W.lcmp hx hb dX6_isThere_20 ?_
        refine lv_if_ne (tgt := 26) hx hb dX6_isThere_21 (by decide) (fun hc8 => ?_) (fun hc8 => ?_)
        · replace hF := (if_neg hc8).symm.trans hF
          refine lv_iinc (v := (u3 + 1)) (lv' := [(3, .int (u3 + 1)), (0, .ref (ad (0))), (1, .long u1)]) hx hb dX6_isThere_26 hl (k := 2) rfl rfl (by decide) rfl (fun ls hl => ?_)
          refine lv_goto (tgt := 2) hx hb dX6_isThere_29 (by decide) ?_
          exact hB2 σ u1 (u3 + 1) _ _ _  hW (lv_sub hl [1, 2, 0] rfl) hF
        · replace hF := (if_pos hc8).symm.trans hF
          exact hL24 σ _ _ _  hW (lv_sub hl [] rfl) hF
  have hL2 := hL2 fu
  have hl := lv_entry ([.ref (ad (0)), .long x1]) (n := 4) (Nat.le_of_ble_eq_true rfl)
  rw [lg_entry_eq]
  generalize (lg_sl ([.ref (ad (0)), .long x1]) ++ List.replicate (4 - (lg_sl ([.ref (ad (0)), .long x1])).length) Slot.unset).toArray = ls at hl ⊢
  have hl : lv_has ls 4 [(0, .ref (ad (0))), (1, .long x1)] := hl
  unfold F_X6_isThere at hF
  refine lv_iconst (v := 0) hx hb dX6_isThere_0 (by decide) ?_
  refine lv_istore_n (lv' := [(3, .int 0), (0, .ref (ad (0))), (1, .long x1)]) hx hb dX6_isThere_1 rfl hl (by decide) rfl (fun ls hl => ?_)
  exact hL2 σ x1 0 _ _ _  hW (lv_sub hl [1, 2, 0] rfl) hF
def F_X6_runFrame_L161 (n : Nat) (σ : St) : Option (St) := (F_X3_size (7) σ).bind (fun y16 => if y16.2 ≤ 0 then some y16.1 else (F_X5_applyTo (7) y16.1).bind (fun y18 => some y18))
def F_X6_runFrame_L101 (n : Nat) (B59 : St → Int32 → Int32 → Int32 → Option (St)) (K161 : St → Option (St)) (σ : St) (u1 : Int32) (u2 : Int32) (u3 : Int32) (q4 : Nat) : Option (St) := if u2 = 0 then B59 σ u1 u2 (u3 + 1) else (F_X1_isMeantBy (q4) σ (σ.2 (12) 0)).bind (fun y20 => if y20.2 = 0 then B59 y20.1 u1 u2 (u3 + 1) else (F_X1_speaksTo (q4) (12) (15) (5) y20.1 (y20.1.1 (0) 11)).bind (fun y22 => if y22.2 = 0 then B59 y22.1 u1 u2 (u3 + 1) else (F_X3_join (7) (5) y22.1).bind (fun y24 => B59 y24 u1 u2 (u3 + 1))))
def F_X6_runFrame_L59 (n : Nat) (K161 : St → Option (St)) : Nat → St → Int32 → Int32 → Int32 → Option (St)
  | 0, _, _, _, _ => none
  | fz + 1, σ, u1, u2, u3 => if (σ.1 (0) 10) ≤ u3 then K161 σ else gd (ib u3 24) (gd (decide (Int32.toNatClampNeg u3 < n)) ((F_X1_ripen (54 + 12 * (Int32.toNatClampNeg u3)) σ (σ.1 (0) 11)).bind (fun y29 => if u1 = 0 then F_X6_runFrame_L101 n (F_X6_runFrame_L59 n K161 fz) K161 y29 u1 u2 u3 (54 + 12 * (Int32.toNatClampNeg u3)) else (F_X1_shine (54 + 12 * (Int32.toNatClampNeg u3)) (3) y29 (y29.1 (0) 11)).bind (fun y31 => F_X6_runFrame_L101 n (F_X6_runFrame_L59 n K161 fz) K161 y31 u1 u2 u3 (54 + 12 * (Int32.toNatClampNeg u3))))))
def F_X6_runFrame_L44 (n : Nat) (σ : St) (z0 : Int32) : Option (St) := (F_X2_readFrom (12) (3) σ).bind (fun y32 => F_X6_runFrame_L59 n (F_X6_runFrame_L161 n) fu y32.1 z0 y32.2 0)
def F_X6_runFrame_L43 (n : Nat) (σ : St) : Option (St) := F_X6_runFrame_L44 n σ 0
def F_X6_runFrame (n : Nat) (σ : St) : Option (St) := nm (sI σ (0) 11 ((σ.1 (0) 11) + 1)) (fun w33 => (F_X3_cut (7) w33 0).bind (fun y34 => (F_X3_size (3) y34).bind (fun y35 => if y35.2 ≤ 0 then F_X6_runFrame_L43 n y35.1 else (F_X3_at (3) y35.1 0).bind (fun y37 => if y37.2 = 0 then F_X6_runFrame_L44 n y37.1 1 else F_X6_runFrame_L43 n y37.1))))
set_option maxHeartbeats 4000000 in
set_option maxRecDepth 100000 in
theorem m_X6_runFrame (l : Launch) (G : va_G) (g : Nat → ClassId) (ad : Nat → Nat) (n a0 aM : Nat) (σ : St) (x : St) (hF : F_X6_runFrame n σ = some x) : Met l yX6_runFrame zs_X6_runFrame ({ frames := 4, cells := 0, slots := 0, locals := 101 } : Room) (va_Pc [.ref (ad (0))] (wP G g ad n a0 aM σ)) (qV G g ad n a0 x) 0 0 (fun q : Nat => a0 ≤ q) := by
  refine Met.ofW (cc := cX6_runFrame) (maxL := 5) (ret := none) (by decide) rfl ?_
  intro p e s m args below meth c s₁ B hml hv
  obtain ⟨rfl, hP, hD, hK⟩ := hv
  have hx := B.exec
  have hb := B.bytes
  have hr := B.returns
  have htA : ∀ w ∈ AL, w.before _ s = true := fun w h9 => atoms_spec (ws := zs_X6_runFrame) B.pre w (List.mem_cons_of_mem _ h9)
  have hown : s.vm.findClass RX6 = some m.cls := findClass_of_methodNamed B.named
  have hlocks := B.notSynchronized
  have hW : Wd G g ad n a0 s.heap σ s.heap [] := ⟨hP, hD, va_S.rf⟩
  clear hP hD
  have hL161 : ∀ (σ : St) (H : Heap) (locs : List Loc) (ls : Array Slot), Wd G g ad n a0 s.heap σ H locs → lv_has ls 5 [(0, .ref (ad (0)))] → F_X6_runFrame_L161 n  σ = some x → W p l e (headSpec zs_X6_runFrame ({ frames := 4, cells := 0, slots := 0, locals := 101 } : Room)).room s m ([.ref (ad (0))] : List Value).toArray below meth c H locs 0 0 (MQ below (qV G g ad n a0 x) ([.ref (ad (0))] : List Value).toArray s 0 0 (fun q : Nat => a0 ≤ q)) (F0 m 161 ls []) := by
    intro σ H locs ls hW hl hF
    unfold F_X6_runFrame_L161 at hF
    refine lv_aload_n hx hb dX6_runFrame_161 rfl (lv_at hl 0 rfl) ?_
    refine r_get (C := RX6) (T := TX6) (N := 13) hx hb htA ia_X6 hown hK hW (0) (tp_lt (by decide)) (cE_k (rfl : kd 0 = 1)) rfl 3 (by decide) (htA _ aw_200) rfl dX6_runFrame_162 ?_
    obtain ⟨y16, hy16, hF⟩ := bd_some hF
    refine r_bi (va_runV (As := []) (rest := []) ⟨hx, hb, hml, hown, htA⟩ (m_X3_size l G g ad n a0 aM (7) σ y16 ⟨rfl, rfl⟩ (tp_lt (by decide)) hy16) (cwV 0 htA (gV aw_238 aw_19 aw_20 aw_6 gz_X3_size) rfl rfl rfl (by decide +kernel) ⟨Nat.le_of_ble_eq_true rfl, Nat.le_of_ble_eq_true rfl⟩) (r_preV hK hW (7) (tp_lt (by decide)) (cE_k (rfl : kd 7 = 2)) rfl []) rfl rfl hl.1 rfl (lv_room (Nat.le_of_ble_eq_true rfl)) dX6_runFrame_165 ⟨Nat.zero_le _, Nat.zero_le _⟩) hW (fun H locs hW => ?_)
    refine lv_if_le (tgt := 182) hx hb dX6_runFrame_168 (by decide) (fun hc17 => ?_) (fun hc17 => ?_)
    · replace hF := (if_pos hc17).symm.trans hF
      exact r_vret hx hb hr hlocks hW hF dX6_runFrame_182
    · replace hF := (if_neg hc17).symm.trans hF
      refine lv_aload_n hx hb dX6_runFrame_171 rfl (lv_at hl 0 rfl) ?_
      refine r_get (C := RX6) (T := TX6) (N := 13) hx hb htA ia_X6 hown hK hW (0) (tp_lt (by decide)) (cE_k (rfl : kd 0 = 1)) rfl 7 (by decide) (htA _ aw_208) rfl dX6_runFrame_172 ?_
      refine lv_aload_n hx hb dX6_runFrame_175 rfl (lv_at hl 0 rfl) ?_
      refine r_get (C := RX6) (T := TX6) (N := 13) hx hb htA ia_X6 hown hK hW (0) (tp_lt (by decide)) (cE_k (rfl : kd 0 = 1)) rfl 3 (by decide) (htA _ aw_200) rfl dX6_runFrame_176 ?_
      obtain ⟨y18, hy18, hF⟩ := bd_some hF
      refine r_bv (va_runV (As := [.ref (ad (7))]) (rest := []) ⟨hx, hb, hml, hown, htA⟩ (m_X5_applyTo l G g ad n a0 aM (7) y16.1 y18 ⟨rfl, rfl⟩ (tp_lt (by decide)) hy18) (cwV 1 htA (gV aw_267 aw_268 aw_269 aw_189 gz_X5_applyTo) rfl rfl rfl (by decide +kernel) ⟨Nat.le_of_ble_eq_true rfl, Nat.le_of_ble_eq_true rfl⟩) (r_preV hK hW (18) (tp_lt (by decide)) (cE_k (rfl : kd 18 = 5)) rfl [.ref (ad (7))]) rfl rfl hl.1 rfl (lv_room (Nat.le_of_ble_eq_true rfl)) dX6_runFrame_179 ⟨Nat.zero_le _, Nat.zero_le _⟩) hW (fun H locs hW => ?_)
      exact r_vret hx hb hr hlocks hW hF dX6_runFrame_182
  have hL59 : ∀ (fz59 : Nat) (σ : St) (u1 : Int32) (u2 : Int32) (u3 : Int32) (H : Heap) (locs : List Loc) (ls : Array Slot), Wd G g ad n a0 s.heap σ H locs → lv_has ls 5 [(0, .ref (ad (0))), (1, .int u1), (2, .int u2), (3, .int u3)] → F_X6_runFrame_L59 n (F_X6_runFrame_L161 n) fz59 σ u1 u2 u3 = some x → W p l e (headSpec zs_X6_runFrame ({ frames := 4, cells := 0, slots := 0, locals := 101 } : Room)).room s m ([.ref (ad (0))] : List Value).toArray below meth c H locs 0 0 (MQ below (qV G g ad n a0 x) ([.ref (ad (0))] : List Value).toArray s 0 0 (fun q : Nat => a0 ≤ q)) (F0 m 59 ls []) := by
    intro fz59
    induction fz59 with
    | zero =>
      intro σ u1 u2 u3 H locs ls hW hl hF
      exact absurd hF (by simp [F_X6_runFrame_L59])
    | succ fz59 ih =>
      have hB59 := ih
      have hL101 : ∀ (σ : St) (u1 : Int32) (u2 : Int32) (u3 : Int32) (q4 : Nat) (H : Heap) (locs : List Loc) (ls : Array Slot), isLp q4 → q4 + 11 < tp n → Wd G g ad n a0 s.heap σ H locs → lv_has ls 5 [(0, .ref (ad (0))), (1, .int u1), (2, .int u2), (3, .int u3), (4, .ref (ad (q4)))] → F_X6_runFrame_L101 n (F_X6_runFrame_L59 n (F_X6_runFrame_L161 n) fz59) (F_X6_runFrame_L161 n) σ u1 u2 u3 q4 = some x → W p l e (headSpec zs_X6_runFrame ({ frames := 4, cells := 0, slots := 0, locals := 101 } : Room)).room s m ([.ref (ad (0))] : List Value).toArray below meth c H locs 0 0 (MQ below (qV G g ad n a0 x) ([.ref (ad (0))] : List Value).toArray s 0 0 (fun q : Nat => a0 ≤ q)) (F0 m 101 ls []) := by
        intro σ u1 u2 u3 q4 H locs ls hq4 tq4 hW hl hF
        unfold F_X6_runFrame_L101 at hF
        refine lv_iload_n hx hb dX6_runFrame_101 rfl (lv_at hl 2 rfl) ?_
        refine lv_if_eq (tgt := 155) hx hb dX6_runFrame_102 (by decide) (fun hc19 => ?_) (fun hc19 => ?_)
        · replace hF := (if_pos hc19).symm.trans hF
          refine lv_iinc (v := (u3 + 1)) (lv' := [(3, .int (u3 + 1)), (0, .ref (ad (0))), (1, .int u1), (2, .int u2), (4, .ref (ad (q4)))]) hx hb dX6_runFrame_155 hl (k := 3) rfl rfl (by decide) rfl (fun ls hl => ?_)
          refine lv_goto (tgt := 59) hx hb dX6_runFrame_158 (by decide) ?_
          exact hB59 σ u1 u2 (u3 + 1) _ _ _  hW (lv_sub hl [1, 2, 3, 0] rfl) hF
        · replace hF := (if_neg hc19).symm.trans hF
          refine lv_aload hx hb dX6_runFrame_105 (lv_at hl 4 rfl) ?_
          refine lv_aload_n hx hb dX6_runFrame_107 rfl (lv_at hl 0 rfl) ?_
          refine r_get (C := RX6) (T := TX6) (N := 13) hx hb htA ia_X6 hown hK hW (0) (tp_lt (by decide)) (cE_k (rfl : kd 0 = 1)) rfl 5 (by decide) (htA _ aw_204) rfl dX6_runFrame_108 ?_
          refine r_getN (C := RX2) (T := TX2) (N := 9) hx hb htA ia_X2 hown hK hW (12) (tp_lt (by decide)) (cE_k (rfl : kd 12 = 4)) rfl 0 (by decide) (hK.nest (w := .fieldLinkNest RX6 257 "LampLine$Packet" "to" "J" "LampLine") (by decide +kernel)) rfl dX6_runFrame_111 ?_
          obtain ⟨y20, hy20, hF⟩ := bd_some hF
          refine r_bi (va_runV (As := [.long (σ.2 (12) 0)]) (rest := []) ⟨hx, hb, hml, hown, htA⟩ (m_X1_isMeantBy l G g ad n a0 aM (q4) σ (σ.2 (12) 0) y20 hq4 (by omega) hy20) (cwV 1 htA (gV aw_255 aw_256 aw_257 aw_57 gz_X1_isMeantBy) rfl rfl rfl (by decide +kernel) ⟨Nat.le_of_ble_eq_true rfl, Nat.le_of_ble_eq_true rfl⟩) (r_preV hK hW (q4) (by omega) (cE_k hq4.1) rfl [.long (σ.2 (12) 0)]) rfl rfl hl.1 rfl (lv_room (Nat.le_of_ble_eq_true rfl)) dX6_runFrame_114 ⟨Nat.zero_le _, Nat.zero_le _⟩) hW (fun H locs hW => ?_)
          refine lv_if_eq (tgt := 155) hx hb dX6_runFrame_117 (by decide) (fun hc21 => ?_) (fun hc21 => ?_)
          · replace hF := (if_pos hc21).symm.trans hF
            refine lv_iinc (v := (u3 + 1)) (lv' := [(3, .int (u3 + 1)), (0, .ref (ad (0))), (1, .int u1), (2, .int u2), (4, .ref (ad (q4)))]) hx hb dX6_runFrame_155 hl (k := 3) rfl rfl (by decide) rfl (fun ls hl => ?_)
            refine lv_goto (tgt := 59) hx hb dX6_runFrame_158 (by decide) ?_
            exact hB59 y20.1 u1 u2 (u3 + 1) _ _ _  hW (lv_sub hl [1, 2, 3, 0] rfl) hF
          · replace hF := (if_neg hc21).symm.trans hF
            refine lv_aload hx hb dX6_runFrame_120 (lv_at hl 4 rfl) ?_
            refine lv_aload_n hx hb dX6_runFrame_122 rfl (lv_at hl 0 rfl) ?_
            refine r_get (C := RX6) (T := TX6) (N := 13) hx hb htA ia_X6 hown hK hW (0) (tp_lt (by decide)) (cE_k (rfl : kd 0 = 1)) rfl 5 (by decide) (htA _ aw_204) rfl dX6_runFrame_123 ?_
            refine lv_aload_n hx hb dX6_runFrame_126 rfl (lv_at hl 0 rfl) ?_
            refine r_get (C := RX6) (T := TX6) (N := 13) hx hb htA ia_X6 hown hK hW (0) (tp_lt (by decide)) (cE_k (rfl : kd 0 = 1)) rfl 6 (by decide) (htA _ aw_205) rfl dX6_runFrame_127 ?_
            refine lv_aload_n hx hb dX6_runFrame_130 rfl (lv_at hl 0 rfl) ?_
            refine r_get (C := RX6) (T := TX6) (N := 13) hx hb htA ia_X6 hown hK hW (0) (tp_lt (by decide)) (cE_k (rfl : kd 0 = 1)) rfl 2 (by decide) (htA _ aw_199) rfl dX6_runFrame_131 ?_
            refine lv_aload_n hx hb dX6_runFrame_134 rfl (lv_at hl 0 rfl) ?_
            refine r_get (C := RX6) (T := TX6) (N := 13) hx hb htA ia_X6 hown hK hW (0) (tp_lt (by decide)) (cE_k (rfl : kd 0 = 1)) rfl 11 (by decide) (htA _ aw_241) rfl dX6_runFrame_135 ?_
            obtain ⟨y22, hy22, hF⟩ := bd_some hF
            refine r_bi (va_runV (As := [.ref (ad (12)), .ref (ad (15)), .ref (ad (5)), .int (y20.1.1 (0) 11)]) (rest := []) ⟨hx, hb, hml, hown, htA⟩ (m_X1_speaksTo l G g ad n a0 aM (q4) (12) (15) (5) y20.1 (y20.1.1 (0) 11) y22 hq4 (by omega) ⟨rfl, rfl, rfl⟩ (tp_lt (by decide)) ⟨rfl, rfl, rfl⟩ (tp_lt (by decide)) ⟨rfl, rfl⟩ (tp_lt (by decide)) hy22) (cwV 4 htA (gV aw_259 aw_260 aw_261 aw_57 gz_X1_speaksTo) rfl rfl rfl (by decide +kernel) ⟨Nat.le_of_ble_eq_true rfl, Nat.le_of_ble_eq_true rfl⟩) (r_preV hK hW (q4) (by omega) (cE_k hq4.1) rfl [.ref (ad (12)), .ref (ad (15)), .ref (ad (5)), .int (y20.1.1 (0) 11)]) rfl rfl hl.1 rfl (lv_room (Nat.le_of_ble_eq_true rfl)) dX6_runFrame_138 ⟨Nat.zero_le _, Nat.zero_le _⟩) hW (fun H locs hW => ?_)
            refine lv_if_eq (tgt := 155) hx hb dX6_runFrame_141 (by decide) (fun hc23 => ?_) (fun hc23 => ?_)
            · replace hF := (if_pos hc23).symm.trans hF
              refine lv_iinc (v := (u3 + 1)) (lv' := [(3, .int (u3 + 1)), (0, .ref (ad (0))), (1, .int u1), (2, .int u2), (4, .ref (ad (q4)))]) hx hb dX6_runFrame_155 hl (k := 3) rfl rfl (by decide) rfl (fun ls hl => ?_)
              refine lv_goto (tgt := 59) hx hb dX6_runFrame_158 (by decide) ?_
              exact hB59 y22.1 u1 u2 (u3 + 1) _ _ _  hW (lv_sub hl [1, 2, 3, 0] rfl) hF
            · replace hF := (if_neg hc23).symm.trans hF
              refine lv_aload_n hx hb dX6_runFrame_144 rfl (lv_at hl 0 rfl) ?_
              refine r_get (C := RX6) (T := TX6) (N := 13) hx hb htA ia_X6 hown hK hW (0) (tp_lt (by decide)) (cE_k (rfl : kd 0 = 1)) rfl 3 (by decide) (htA _ aw_200) rfl dX6_runFrame_145 ?_
              refine lv_aload_n hx hb dX6_runFrame_148 rfl (lv_at hl 0 rfl) ?_
              refine r_get (C := RX6) (T := TX6) (N := 13) hx hb htA ia_X6 hown hK hW (0) (tp_lt (by decide)) (cE_k (rfl : kd 0 = 1)) rfl 2 (by decide) (htA _ aw_199) rfl dX6_runFrame_149 ?_
              obtain ⟨y24, hy24, hF⟩ := bd_some hF
              refine r_bv (va_runV (As := [.ref (ad (5))]) (rest := []) ⟨hx, hb, hml, hown, htA⟩ (m_X3_join l G g ad n a0 aM (7) (5) y22.1 y24 ⟨rfl, rfl⟩ (tp_lt (by decide)) ⟨rfl, rfl⟩ (tp_lt (by decide)) hy24) (cwV 1 htA (gV aw_263 aw_264 aw_265 aw_6 gz_X3_join) rfl rfl rfl (by decide +kernel) ⟨Nat.le_of_ble_eq_true rfl, Nat.le_of_ble_eq_true rfl⟩) (r_preV hK hW (7) (tp_lt (by decide)) (cE_k (rfl : kd 7 = 2)) rfl [.ref (ad (5))]) rfl rfl hl.1 rfl (lv_room (Nat.le_of_ble_eq_true rfl)) dX6_runFrame_152 ⟨Nat.zero_le _, Nat.zero_le _⟩) hW (fun H locs hW => ?_)
              refine lv_iinc (v := (u3 + 1)) (lv' := [(3, .int (u3 + 1)), (0, .ref (ad (0))), (1, .int u1), (2, .int u2), (4, .ref (ad (q4)))]) hx hb dX6_runFrame_155 hl (k := 3) rfl rfl (by decide) rfl (fun ls hl => ?_)
              refine lv_goto (tgt := 59) hx hb dX6_runFrame_158 (by decide) ?_
              exact hB59 y24 u1 u2 (u3 + 1) _ _ _  hW (lv_sub hl [1, 2, 3, 0] rfl) hF
      intro σ u1 u2 u3 H locs ls hW hl hF
      unfold F_X6_runFrame_L59 at hF
      refine lv_iload_n hx hb dX6_runFrame_59 rfl (lv_at hl 3 rfl) ?_
      refine lv_aload_n hx hb dX6_runFrame_60 rfl (lv_at hl 0 rfl) ?_
      refine r_get (C := RX6) (T := TX6) (N := 13) hx hb htA ia_X6 hown hK hW (0) (tp_lt (by decide)) (cE_k (rfl : kd 0 = 1)) rfl 10 (by decide) (htA _ aw_221) rfl dX6_runFrame_61 ?_
      refine lv_icmp_ge (tgt := 161) hx hb dX6_runFrame_64 (by decide) (fun hc25 => ?_) (fun hc25 => ?_)
      · replace hF := (if_pos hc25).symm.trans hF
        exact hL161 σ _ _ _  hW (lv_sub hl [0] rfl) hF
      · replace hF := (if_neg hc25).symm.trans hF
        refine lv_aload_n hx hb dX6_runFrame_67 rfl (lv_at hl 0 rfl) ?_
        refine r_get (C := RX6) (T := TX6) (N := 13) hx hb htA ia_X6 hown hK hW (0) (tp_lt (by decide)) (cE_k (rfl : kd 0 = 1)) rfl 9 (by decide) (htA _ aw_213) rfl dX6_runFrame_68 ?_
        refine lv_iload_n hx hb dX6_runFrame_71 rfl (lv_at hl 3 rfl) ?_
        obtain ⟨hg26, hF⟩ := gd_some hF
        obtain ⟨hg27, hF⟩ := gd_some hF
        refine r_lamp hx hb hK hW hg26 (of_decide_eq_true hg27) dX6_runFrame_72 ?_
        have hq28 : isLp (54 + 12 * (Int32.toNatClampNeg u3)) := isLp_at _
        have thq28 : 54 + 12 * (Int32.toNatClampNeg u3) + 11 < tp n := by have h9 := of_decide_eq_true hg27; unfold tp; omega
        refine lv_astore (lv' := [(4, .ref (ad (54 + 12 * (Int32.toNatClampNeg u3)))), (0, .ref (ad (0))), (1, .int u1), (2, .int u2), (3, .int u3)]) hx hb dX6_runFrame_73 hl (by decide) rfl (fun ls hl => ?_)
        refine lv_aload hx hb dX6_runFrame_75 (lv_at hl 0 rfl) ?_
        refine lv_aload_n hx hb dX6_runFrame_77 rfl (lv_at hl 1 rfl) ?_
        refine r_get (C := RX6) (T := TX6) (N := 13) hx hb htA ia_X6 hown hK hW (0) (tp_lt (by decide)) (cE_k (rfl : kd 0 = 1)) rfl 11 (by decide) (htA _ aw_241) rfl dX6_runFrame_78 ?_
        obtain ⟨y29, hy29, hF⟩ := bd_some hF
        refine r_bv (va_runV (As := [.int (σ.1 (0) 11)]) (rest := []) ⟨hx, hb, hml, hown, htA⟩ (m_X1_ripen l G g ad n a0 aM (54 + 12 * (Int32.toNatClampNeg u3)) σ (σ.1 (0) 11) y29 hq28 (by omega) hy29) (cwV 1 htA (gV aw_247 aw_248 aw_249 aw_57 gz_X1_ripen) rfl rfl rfl (by decide +kernel) ⟨Nat.le_of_ble_eq_true rfl, Nat.le_of_ble_eq_true rfl⟩) (r_preV hK hW (54 + 12 * (Int32.toNatClampNeg u3)) (by omega) (cE_k hq28.1) rfl [.int (σ.1 (0) 11)]) rfl rfl hl.1 rfl (lv_room (Nat.le_of_ble_eq_true rfl)) dX6_runFrame_81 ⟨Nat.zero_le _, Nat.zero_le _⟩) hW (fun H locs hW => ?_)
        refine lv_iload_n hx hb dX6_runFrame_84 rfl (lv_at hl 2 rfl) ?_
        refine lv_if_eq (tgt := 101) hx hb dX6_runFrame_85 (by decide) (fun hc30 => ?_) (fun hc30 => ?_)
        · replace hF := (if_pos hc30).symm.trans hF
          exact hL101 y29 u1 u2 u3 (54 + 12 * (Int32.toNatClampNeg u3)) _ _ _ hq28 (by omega) hW (lv_sub hl [1, 2, 3, 4, 0] rfl) hF
        · replace hF := (if_neg hc30).symm.trans hF
          refine lv_aload hx hb dX6_runFrame_88 (lv_at hl 0 rfl) ?_
          refine lv_aload_n hx hb dX6_runFrame_90 rfl (lv_at hl 1 rfl) ?_
          refine r_get (C := RX6) (T := TX6) (N := 13) hx hb htA ia_X6 hown hK hW (0) (tp_lt (by decide)) (cE_k (rfl : kd 0 = 1)) rfl 1 (by decide) (htA _ aw_198) rfl dX6_runFrame_91 ?_
          refine lv_aload_n hx hb dX6_runFrame_94 rfl (lv_at hl 1 rfl) ?_
          refine r_get (C := RX6) (T := TX6) (N := 13) hx hb htA ia_X6 hown hK hW (0) (tp_lt (by decide)) (cE_k (rfl : kd 0 = 1)) rfl 11 (by decide) (htA _ aw_241) rfl dX6_runFrame_95 ?_
          obtain ⟨y31, hy31, hF⟩ := bd_some hF
          refine r_bv (va_runV (As := [.ref (ad (3)), .int (y29.1 (0) 11)]) (rest := []) ⟨hx, hb, hml, hown, htA⟩ (m_X1_shine l G g ad n a0 aM (54 + 12 * (Int32.toNatClampNeg u3)) (3) y29 (y29.1 (0) 11) y31 hq28 (by omega) ⟨rfl, rfl⟩ (tp_lt (by decide)) hy31) (cwV 2 htA (gV aw_251 aw_252 aw_253 aw_57 gz_X1_shine) rfl rfl rfl (by decide +kernel) ⟨Nat.le_of_ble_eq_true rfl, Nat.le_of_ble_eq_true rfl⟩) (r_preV hK hW (54 + 12 * (Int32.toNatClampNeg u3)) (by omega) (cE_k hq28.1) rfl [.ref (ad (3)), .int (y29.1 (0) 11)]) rfl rfl hl.1 rfl (lv_room (Nat.le_of_ble_eq_true rfl)) dX6_runFrame_98 ⟨Nat.zero_le _, Nat.zero_le _⟩) hW (fun H locs hW => ?_)
          exact hL101 y31 u1 u2 u3 (54 + 12 * (Int32.toNatClampNeg u3)) _ _ _ hq28 (by omega) hW (lv_sub hl [1, 2, 3, 4, 0] rfl) hF
  have hL59 := hL59 fu
  have hL44 : ∀ (σ : St) (z0 : Int32) (H : Heap) (locs : List Loc) (ls : Array Slot), Wd G g ad n a0 s.heap σ H locs → lv_has ls 5 [(0, .ref (ad (0)))] → F_X6_runFrame_L44 n  σ z0 = some x → W p l e (headSpec zs_X6_runFrame ({ frames := 4, cells := 0, slots := 0, locals := 101 } : Room)).room s m ([.ref (ad (0))] : List Value).toArray below meth c H locs 0 0 (MQ below (qV G g ad n a0 x) ([.ref (ad (0))] : List Value).toArray s 0 0 (fun q : Nat => a0 ≤ q)) (F0 m 44 ls [.int z0]) := by
    intro σ z0 H locs ls hW hl hF
    unfold F_X6_runFrame_L44 at hF
    refine lv_istore_n (lv' := [(1, .int z0), (0, .ref (ad (0)))]) hx hb dX6_runFrame_44 rfl hl (by decide) rfl (fun ls hl => ?_)
    refine lv_aload_n hx hb dX6_runFrame_45 rfl (lv_at hl 1 rfl) ?_
    refine r_get (C := RX6) (T := TX6) (N := 13) hx hb htA ia_X6 hown hK hW (0) (tp_lt (by decide)) (cE_k (rfl : kd 0 = 1)) rfl 5 (by decide) (htA _ aw_204) rfl dX6_runFrame_46 ?_
    refine lv_aload_n hx hb dX6_runFrame_49 rfl (lv_at hl 1 rfl) ?_
    refine r_get (C := RX6) (T := TX6) (N := 13) hx hb htA ia_X6 hown hK hW (0) (tp_lt (by decide)) (cE_k (rfl : kd 0 = 1)) rfl 1 (by decide) (htA _ aw_198) rfl dX6_runFrame_50 ?_
    obtain ⟨y32, hy32, hF⟩ := bd_some hF
    refine r_bi (va_runV (As := [.ref (ad (3))]) (rest := []) ⟨hx, hb, hml, hown, htA⟩ (m_X2_readFrom l G g ad n a0 aM (12) (3) σ y32 ⟨rfl, rfl, rfl⟩ (tp_lt (by decide)) ⟨rfl, rfl⟩ (tp_lt (by decide)) hy32) (cwV 1 htA (gV aw_243 aw_244 aw_245 aw_112 gz_X2_readFrom) rfl rfl rfl (by decide +kernel) ⟨Nat.le_of_ble_eq_true rfl, Nat.le_of_ble_eq_true rfl⟩) (r_preV hK hW (12) (tp_lt (by decide)) (cE_k (rfl : kd 12 = 4)) rfl [.ref (ad (3))]) rfl rfl hl.1 rfl (lv_room (Nat.le_of_ble_eq_true rfl)) dX6_runFrame_53 ⟨Nat.zero_le _, Nat.zero_le _⟩) hW (fun H locs hW => ?_)
    refine lv_istore_n (lv' := [(2, .int y32.2), (1, .int z0), (0, .ref (ad (0)))]) hx hb dX6_runFrame_56 rfl hl (by decide) rfl (fun ls hl => ?_)
    refine lv_iconst (v := 0) hx hb dX6_runFrame_57 (by decide) ?_
    refine lv_istore_n (lv' := [(3, .int 0), (2, .int y32.2), (1, .int z0), (0, .ref (ad (0)))]) hx hb dX6_runFrame_58 rfl hl (by decide) rfl (fun ls hl => ?_)
    exact hL59 y32.1 z0 y32.2 0 _ _ _  hW (lv_sub hl [3, 2, 1, 0] rfl) hF
  have hL43 : ∀ (σ : St) (H : Heap) (locs : List Loc) (ls : Array Slot), Wd G g ad n a0 s.heap σ H locs → lv_has ls 5 [(0, .ref (ad (0)))] → F_X6_runFrame_L43 n  σ = some x → W p l e (headSpec zs_X6_runFrame ({ frames := 4, cells := 0, slots := 0, locals := 101 } : Room)).room s m ([.ref (ad (0))] : List Value).toArray below meth c H locs 0 0 (MQ below (qV G g ad n a0 x) ([.ref (ad (0))] : List Value).toArray s 0 0 (fun q : Nat => a0 ≤ q)) (F0 m 43 ls []) := by
    intro σ H locs ls hW hl hF
    unfold F_X6_runFrame_L43 at hF
    refine lv_iconst (v := 0) hx hb dX6_runFrame_43 (by decide) ?_
    exact hL44 σ 0 _ _ _  hW (lv_sub hl [0] rfl) hF
  have hl := lv_entry ([.ref (ad (0))]) (n := 5) (Nat.le_of_ble_eq_true rfl)
  rw [lg_entry_eq]
  generalize (lg_sl ([.ref (ad (0))]) ++ List.replicate (5 - (lg_sl ([.ref (ad (0))])).length) Slot.unset).toArray = ls at hl ⊢
  have hl : lv_has ls 5 [(0, .ref (ad (0)))] := hl
  unfold F_X6_runFrame at hF
  refine lv_aload_n hx hb dX6_runFrame_0 rfl (lv_at hl 0 rfl) ?_
  refine lv_dup hx hb dX6_runFrame_1 rfl ?_
  refine r_get (C := RX6) (T := TX6) (N := 13) hx hb htA ia_X6 hown hK hW (0) (tp_lt (by decide)) (cE_k (rfl : kd 0 = 1)) rfl 11 (by decide) (htA _ aw_241) rfl dX6_runFrame_2 ?_
  refine lv_iconst (v := 1) hx hb dX6_runFrame_5 (by decide) ?_
  refine lv_iadd hx hb dX6_runFrame_6 ?_
  refine r_putI (C := RX6) (T := TX6) (N := 13) (ty := .int) hx hb htA ia_X6 tyX6 tyX6_ok nmX6 hown hK hW (0) (tp_lt (by decide)) (cE_k (rfl : kd 0 = 1)) rfl 11 (by decide) (cE_k (rfl : kd 0 = 1)) (htA _ aw_241) rfl (by decide +kernel) rfl rfl (Nat.le_of_ble_eq_true rfl) dX6_runFrame_7 (fun H locs hW => ?_)
  obtain ⟨w33, ew33, hF⟩ := nm_some hF
  rw [← ew33] at hW
  refine lv_aload_n hx hb dX6_runFrame_10 rfl (lv_at hl 0 rfl) ?_
  refine r_get (C := RX6) (T := TX6) (N := 13) hx hb htA ia_X6 hown hK hW (0) (tp_lt (by decide)) (cE_k (rfl : kd 0 = 1)) rfl 3 (by decide) (htA _ aw_200) rfl dX6_runFrame_11 ?_
  refine lv_iconst (v := 0) hx hb dX6_runFrame_14 (by decide) ?_
  obtain ⟨y34, hy34, hF⟩ := bd_some hF
  refine r_bv (va_runV (As := [.int 0]) (rest := []) ⟨hx, hb, hml, hown, htA⟩ (m_X3_cut l G g ad n a0 aM (7) w33 0 y34 ⟨rfl, rfl⟩ (tp_lt (by decide)) hy34) (cwV 1 htA (gV aw_240 aw_4 aw_5 aw_6 gz_X3_cut) rfl rfl rfl (by decide +kernel) ⟨Nat.le_of_ble_eq_true rfl, Nat.le_of_ble_eq_true rfl⟩) (r_preV hK hW (7) (tp_lt (by decide)) (cE_k (rfl : kd 7 = 2)) rfl [.int 0]) rfl rfl hl.1 rfl (lv_room (Nat.le_of_ble_eq_true rfl)) dX6_runFrame_15 ⟨Nat.zero_le _, Nat.zero_le _⟩) hW (fun H locs hW => ?_)
  refine lv_aload_n hx hb dX6_runFrame_18 rfl (lv_at hl 0 rfl) ?_
  refine r_get (C := RX6) (T := TX6) (N := 13) hx hb htA ia_X6 hown hK hW (0) (tp_lt (by decide)) (cE_k (rfl : kd 0 = 1)) rfl 1 (by decide) (htA _ aw_198) rfl dX6_runFrame_19 ?_
  obtain ⟨y35, hy35, hF⟩ := bd_some hF
  refine r_bi (va_runV (As := []) (rest := []) ⟨hx, hb, hml, hown, htA⟩ (m_X3_size l G g ad n a0 aM (3) y34 y35 ⟨rfl, rfl⟩ (tp_lt (by decide)) hy35) (cwV 0 htA (gV aw_238 aw_19 aw_20 aw_6 gz_X3_size) rfl rfl rfl (by decide +kernel) ⟨Nat.le_of_ble_eq_true rfl, Nat.le_of_ble_eq_true rfl⟩) (r_preV hK hW (3) (tp_lt (by decide)) (cE_k (rfl : kd 3 = 2)) rfl []) rfl rfl hl.1 rfl (lv_room (Nat.le_of_ble_eq_true rfl)) dX6_runFrame_22 ⟨Nat.zero_le _, Nat.zero_le _⟩) hW (fun H locs hW => ?_)
  refine lv_if_le (tgt := 43) hx hb dX6_runFrame_25 (by decide) (fun hc36 => ?_) (fun hc36 => ?_)
  · replace hF := (if_pos hc36).symm.trans hF
    exact hL43 y35.1 _ _ _  hW (lv_sub hl [0] rfl) hF
  · replace hF := (if_neg hc36).symm.trans hF
    refine lv_aload_n hx hb dX6_runFrame_28 rfl (lv_at hl 0 rfl) ?_
    refine r_get (C := RX6) (T := TX6) (N := 13) hx hb htA ia_X6 hown hK hW (0) (tp_lt (by decide)) (cE_k (rfl : kd 0 = 1)) rfl 1 (by decide) (htA _ aw_198) rfl dX6_runFrame_29 ?_
    refine lv_iconst (v := 0) hx hb dX6_runFrame_32 (by decide) ?_
    obtain ⟨y37, hy37, hF⟩ := bd_some hF
    refine r_bi (va_runV (As := [.int 0]) (rest := []) ⟨hx, hb, hml, hown, htA⟩ (m_X3_at l G g ad n a0 aM (3) y35.1 0 y37 ⟨rfl, rfl⟩ (tp_lt (by decide)) hy37) (cwV 1 htA (gV aw_242 aw_23 aw_24 aw_6 gz_X3_at) rfl rfl rfl (by decide +kernel) ⟨Nat.le_of_ble_eq_true rfl, Nat.le_of_ble_eq_true rfl⟩) (r_preV hK hW (3) (tp_lt (by decide)) (cE_k (rfl : kd 3 = 2)) rfl [.int 0]) rfl rfl hl.1 rfl (lv_room (Nat.le_of_ble_eq_true rfl)) dX6_runFrame_33 ⟨Nat.zero_le _, Nat.zero_le _⟩) hW (fun H locs hW => ?_)
    refine lv_if_ne (tgt := 43) hx hb dX6_runFrame_36 (by decide) (fun hc38 => ?_) (fun hc38 => ?_)
    · replace hF := (if_neg hc38).symm.trans hF
      exact hL43 y37.1 _ _ _  hW (lv_sub hl [0] rfl) hF
    · replace hF := (if_pos hc38).symm.trans hF
      refine lv_iconst (v := 1) hx hb dX6_runFrame_39 (by decide) ?_
      refine lv_goto (tgt := 44) hx hb dX6_runFrame_40 (by decide) ?_
      exact hL44 y37.1 1 _ _ _  hW (lv_sub hl [0] rfl) hF
def F_X6_beginQuestion (σ : St) (x1 : Int64) (x3 : Int32) (x4 : Int32) : Option (St) := nm (sI σ (0) 12 (((σ.1 (0) 12) + 1) &&& 255)) (fun w11 => nm (sJ w11 (9) 0 x1) (fun w12 => nm (sJ w12 (9) 1 140728898420737) (fun w13 => nm (sI w13 (9) 2 (w13.1 (0) 12)) (fun w14 => nm (sI w14 (9) 3 1) (fun w15 => nm (sI w15 (9) 4 0) (fun w16 => nm (sI w16 (9) 5 0) (fun w17 => nm (sI w17 (9) 6 x3) (fun w18 => nm (sI w18 (9) 7 x4) (fun w19 => (F_X3_cut (10) w19 0).bind (fun y20 => some y20))))))))))
set_option maxHeartbeats 4000000 in
set_option maxRecDepth 100000 in
theorem m_X6_beginQuestion (l : Launch) (G : va_G) (g : Nat → ClassId) (ad : Nat → Nat) (n a0 aM : Nat) (σ : St) (x1 : Int64) (x3 : Int32) (x4 : Int32) (x : St) (hF : F_X6_beginQuestion σ x1 x3 x4 = some x) : Met l yX6_beginQuestion zs_X6_beginQuestion ({ frames := 1, cells := 0, slots := 0, locals := 21 } : Room) (va_Pc [.ref (ad (0)), .long x1, .int x3, .int x4] (wP G g ad n a0 aM σ)) (qV G g ad n a0 x) 0 0 (fun q : Nat => a0 ≤ q) := by
  refine Met.ofW (cc := cX6_beginQuestion) (maxL := 5) (ret := none) (by decide) rfl ?_
  intro p e s m args below meth c s₁ B hml hv
  obtain ⟨rfl, hP, hD, hK⟩ := hv
  have hx := B.exec
  have hb := B.bytes
  have hr := B.returns
  have htA : ∀ w ∈ AL, w.before _ s = true := fun w h9 => atoms_spec (ws := zs_X6_beginQuestion) B.pre w (List.mem_cons_of_mem _ h9)
  have hown : s.vm.findClass RX6 = some m.cls := findClass_of_methodNamed B.named
  have hlocks := B.notSynchronized
  have hW : Wd G g ad n a0 s.heap σ s.heap [] := ⟨hP, hD, va_S.rf⟩
  clear hP hD
  have hl := lv_entry ([.ref (ad (0)), .long x1, .int x3, .int x4]) (n := 5) (Nat.le_of_ble_eq_true rfl)
  rw [lg_entry_eq]
  generalize (lg_sl ([.ref (ad (0)), .long x1, .int x3, .int x4]) ++ List.replicate (5 - (lg_sl ([.ref (ad (0)), .long x1, .int x3, .int x4])).length) Slot.unset).toArray = ls at hl ⊢
  have hl : lv_has ls 5 [(0, .ref (ad (0))), (1, .long x1), (3, .int x3), (4, .int x4)] := hl
  unfold F_X6_beginQuestion at hF
  refine lv_aload_n hx hb dX6_beginQuestion_0 rfl (lv_at hl 0 rfl) ?_
  refine lv_aload_n hx hb dX6_beginQuestion_1 rfl (lv_at hl 0 rfl) ?_
  refine r_get (C := RX6) (T := TX6) (N := 13) hx hb htA ia_X6 hown hK hW (0) (tp_lt (by decide)) (cE_k (rfl : kd 0 = 1)) rfl 12 (by decide) (htA _ aw_278) rfl dX6_beginQuestion_2 ?_
  refine lv_iconst (v := 1) hx hb dX6_beginQuestion_5 (by decide) ?_
  refine lv_iadd hx hb dX6_beginQuestion_6 ?_
  refine lv_sipush (v := 255) hx hb dX6_beginQuestion_7 (by decide) ?_
  refine lv_iand hx hb dX6_beginQuestion_10 ?_
  refine r_putI (C := RX6) (T := TX6) (N := 13) (ty := .int) hx hb htA ia_X6 tyX6 tyX6_ok nmX6 hown hK hW (0) (tp_lt (by decide)) (cE_k (rfl : kd 0 = 1)) rfl 12 (by decide) (cE_k (rfl : kd 0 = 1)) (htA _ aw_278) rfl (by decide +kernel) rfl rfl (Nat.le_of_ble_eq_true rfl) dX6_beginQuestion_11 (fun H locs hW => ?_)
  obtain ⟨w11, ew11, hF⟩ := nm_some hF
  rw [← ew11] at hW
  refine lv_aload_n hx hb dX6_beginQuestion_14 rfl (lv_at hl 0 rfl) ?_
  refine r_get (C := RX6) (T := TX6) (N := 13) hx hb htA ia_X6 hown hK hW (0) (tp_lt (by decide)) (cE_k (rfl : kd 0 = 1)) rfl 4 (by decide) (htA _ aw_203) rfl dX6_beginQuestion_15 ?_
  refine lv_lload_n hx hb dX6_beginQuestion_18 rfl (lv_at hl 1 rfl) ?_
  refine r_putJN (C := RX2) (T := TX2) (N := 9) hx hb htA ia_X2 tyX2 tyX2_ok nmX2 hown hK hW (9) (tp_lt (by decide)) (cE_k (rfl : kd 9 = 4)) rfl 0 (by decide) (cE_k (rfl : kd 9 = 4)) (hK.nest (w := .fieldLinkNest RX6 257 "LampLine$Packet" "to" "J" "LampLine") (by decide +kernel)) rfl (by decide +kernel) (Nat.le_of_ble_eq_true rfl) dX6_beginQuestion_19 (fun H locs hW => ?_)
  obtain ⟨w12, ew12, hF⟩ := nm_some hF
  rw [← ew12] at hW
  refine lv_aload_n hx hb dX6_beginQuestion_22 rfl (lv_at hl 0 rfl) ?_
  refine r_get (C := RX6) (T := TX6) (N := 13) hx hb htA ia_X6 hown hK hW (0) (tp_lt (by decide)) (cE_k (rfl : kd 0 = 1)) rfl 4 (by decide) (htA _ aw_203) rfl dX6_beginQuestion_23 ?_
  refine lv_ldc2 (v := 140728898420737) hx hb hown (htA _ aw_279) dX6_beginQuestion_26 ?_
  refine r_putJN (C := RX2) (T := TX2) (N := 9) hx hb htA ia_X2 tyX2 tyX2_ok nmX2 hown hK hW (9) (tp_lt (by decide)) (cE_k (rfl : kd 9 = 4)) rfl 1 (by decide) (cE_k (rfl : kd 9 = 4)) (hK.nest (w := .fieldLinkNest RX6 278 "LampLine$Packet" "from" "J" "LampLine") (by decide +kernel)) rfl (by decide +kernel) (Nat.le_of_ble_eq_true rfl) dX6_beginQuestion_29 (fun H locs hW => ?_)
  obtain ⟨w13, ew13, hF⟩ := nm_some hF
  rw [← ew13] at hW
  refine lv_aload_n hx hb dX6_beginQuestion_32 rfl (lv_at hl 0 rfl) ?_
  refine r_get (C := RX6) (T := TX6) (N := 13) hx hb htA ia_X6 hown hK hW (0) (tp_lt (by decide)) (cE_k (rfl : kd 0 = 1)) rfl 4 (by decide) (htA _ aw_203) rfl dX6_beginQuestion_33 ?_
  refine lv_aload_n hx hb dX6_beginQuestion_36 rfl (lv_at hl 0 rfl) ?_
  refine r_get (C := RX6) (T := TX6) (N := 13) hx hb htA ia_X6 hown hK hW (0) (tp_lt (by decide)) (cE_k (rfl : kd 0 = 1)) rfl 12 (by decide) (htA _ aw_278) rfl dX6_beginQuestion_37 ?_
  refine r_putIN (C := RX2) (T := TX2) (N := 9) (ty := .int) hx hb htA ia_X2 tyX2 tyX2_ok nmX2 hown hK hW (9) (tp_lt (by decide)) (cE_k (rfl : kd 9 = 4)) rfl 2 (by decide) (cE_k (rfl : kd 9 = 4)) (hK.nest (w := .fieldLinkNest RX6 281 "LampLine$Packet" "count" "I" "LampLine") (by decide +kernel)) rfl (by decide +kernel) rfl rfl (Nat.le_of_ble_eq_true rfl) dX6_beginQuestion_40 (fun H locs hW => ?_)
  obtain ⟨w14, ew14, hF⟩ := nm_some hF
  rw [← ew14] at hW
  refine lv_aload_n hx hb dX6_beginQuestion_43 rfl (lv_at hl 0 rfl) ?_
  refine r_get (C := RX6) (T := TX6) (N := 13) hx hb htA ia_X6 hown hK hW (0) (tp_lt (by decide)) (cE_k (rfl : kd 0 = 1)) rfl 4 (by decide) (htA _ aw_203) rfl dX6_beginQuestion_44 ?_
  refine lv_iconst (v := 1) hx hb dX6_beginQuestion_47 (by decide) ?_
  refine r_putIN (C := RX2) (T := TX2) (N := 9) (ty := .int) hx hb htA ia_X2 tyX2 tyX2_ok nmX2 hown hK hW (9) (tp_lt (by decide)) (cE_k (rfl : kd 9 = 4)) rfl 3 (by decide) (cE_k (rfl : kd 9 = 4)) (hK.nest (w := .fieldLinkNest RX6 151 "LampLine$Packet" "kind" "I" "LampLine") (by decide +kernel)) rfl (by decide +kernel) rfl rfl (Nat.le_of_ble_eq_true rfl) dX6_beginQuestion_48 (fun H locs hW => ?_)
  obtain ⟨w15, ew15, hF⟩ := nm_some hF
  rw [← ew15] at hW
  refine lv_aload_n hx hb dX6_beginQuestion_51 rfl (lv_at hl 0 rfl) ?_
  refine r_get (C := RX6) (T := TX6) (N := 13) hx hb htA ia_X6 hown hK hW (0) (tp_lt (by decide)) (cE_k (rfl : kd 0 = 1)) rfl 4 (by decide) (htA _ aw_203) rfl dX6_beginQuestion_52 ?_
  refine lv_iconst (v := 0) hx hb dX6_beginQuestion_55 (by decide) ?_
  refine r_putIN (C := RX2) (T := TX2) (N := 9) (ty := .int) hx hb htA ia_X2 tyX2 tyX2_ok nmX2 hown hK hW (9) (tp_lt (by decide)) (cE_k (rfl : kd 9 = 4)) rfl 4 (by decide) (cE_k (rfl : kd 9 = 4)) (hK.nest (w := .fieldLinkNest RX6 284 "LampLine$Packet" "messages" "I" "LampLine") (by decide +kernel)) rfl (by decide +kernel) rfl rfl (Nat.le_of_ble_eq_true rfl) dX6_beginQuestion_56 (fun H locs hW => ?_)
  obtain ⟨w16, ew16, hF⟩ := nm_some hF
  rw [← ew16] at hW
  refine lv_aload_n hx hb dX6_beginQuestion_59 rfl (lv_at hl 0 rfl) ?_
  refine r_get (C := RX6) (T := TX6) (N := 13) hx hb htA ia_X6 hown hK hW (0) (tp_lt (by decide)) (cE_k (rfl : kd 0 = 1)) rfl 4 (by decide) (htA _ aw_203) rfl dX6_beginQuestion_60 ?_
  refine lv_iconst (v := 0) hx hb dX6_beginQuestion_63 (by decide) ?_
  refine r_putIN (C := RX2) (T := TX2) (N := 9) (ty := .int) hx hb htA ia_X2 tyX2 tyX2_ok nmX2 hown hK hW (9) (tp_lt (by decide)) (cE_k (rfl : kd 9 = 4)) rfl 5 (by decide) (cE_k (rfl : kd 9 = 4)) (hK.nest (w := .fieldLinkNest RX6 139 "LampLine$Packet" "part" "I" "LampLine") (by decide +kernel)) rfl (by decide +kernel) rfl rfl (Nat.le_of_ble_eq_true rfl) dX6_beginQuestion_64 (fun H locs hW => ?_)
  obtain ⟨w17, ew17, hF⟩ := nm_some hF
  rw [← ew17] at hW
  refine lv_aload_n hx hb dX6_beginQuestion_67 rfl (lv_at hl 0 rfl) ?_
  refine r_get (C := RX6) (T := TX6) (N := 13) hx hb htA ia_X6 hown hK hW (0) (tp_lt (by decide)) (cE_k (rfl : kd 0 = 1)) rfl 4 (by decide) (htA _ aw_203) rfl dX6_beginQuestion_68 ?_
  refine lv_iload_n hx hb dX6_beginQuestion_71 rfl (lv_at hl 2 rfl) ?_
  refine r_putIN (C := RX2) (T := TX2) (N := 9) (ty := .int) hx hb htA ia_X2 tyX2 tyX2_ok nmX2 hown hK hW (9) (tp_lt (by decide)) (cE_k (rfl : kd 9 = 4)) rfl 6 (by decide) (cE_k (rfl : kd 9 = 4)) (hK.nest (w := .fieldLinkNest RX6 287 "LampLine$Packet" "group" "I" "LampLine") (by decide +kernel)) rfl (by decide +kernel) rfl rfl (Nat.le_of_ble_eq_true rfl) dX6_beginQuestion_72 (fun H locs hW => ?_)
  obtain ⟨w18, ew18, hF⟩ := nm_some hF
  rw [← ew18] at hW
  refine lv_aload_n hx hb dX6_beginQuestion_75 rfl (lv_at hl 0 rfl) ?_
  refine r_get (C := RX6) (T := TX6) (N := 13) hx hb htA ia_X6 hown hK hW (0) (tp_lt (by decide)) (cE_k (rfl : kd 0 = 1)) rfl 4 (by decide) (htA _ aw_203) rfl dX6_beginQuestion_76 ?_
  refine lv_iload hx hb dX6_beginQuestion_79 (lv_at hl 3 rfl) ?_
  refine r_putIN (C := RX2) (T := TX2) (N := 9) (ty := .int) hx hb htA ia_X2 tyX2 tyX2_ok nmX2 hown hK hW (9) (tp_lt (by decide)) (cE_k (rfl : kd 9 = 4)) rfl 7 (by decide) (cE_k (rfl : kd 9 = 4)) (hK.nest (w := .fieldLinkNest RX6 290 "LampLine$Packet" "matter" "I" "LampLine") (by decide +kernel)) rfl (by decide +kernel) rfl rfl (Nat.le_of_ble_eq_true rfl) dX6_beginQuestion_81 (fun H locs hW => ?_)
  obtain ⟨w19, ew19, hF⟩ := nm_some hF
  rw [← ew19] at hW
  refine lv_aload_n hx hb dX6_beginQuestion_84 rfl (lv_at hl 0 rfl) ?_
  refine r_get (C := RX6) (T := TX6) (N := 13) hx hb htA ia_X6 hown hK hW (0) (tp_lt (by decide)) (cE_k (rfl : kd 0 = 1)) rfl 4 (by decide) (htA _ aw_203) rfl dX6_beginQuestion_85 ?_
  refine r_getN (C := RX2) (T := TX2) (N := 9) hx hb htA ia_X2 hown hK hW (9) (tp_lt (by decide)) (cE_k (rfl : kd 9 = 4)) rfl 8 (by decide) (hK.nest (w := .fieldLinkNest RX6 142 "LampLine$Packet" "data" "LLampLine$Row;" "LampLine") (by decide +kernel)) rfl dX6_beginQuestion_88 ?_
  refine lv_iconst (v := 0) hx hb dX6_beginQuestion_91 (by decide) ?_
  obtain ⟨y20, hy20, hF⟩ := bd_some hF
  refine r_bv (va_runV (As := [.int 0]) (rest := []) ⟨hx, hb, hml, hown, htA⟩ (m_X3_cut l G g ad n a0 aM (10) w19 0 y20 ⟨rfl, rfl⟩ (tp_lt (by decide)) hy20) (cwV 1 htA (gV aw_240 aw_4 aw_5 aw_6 gz_X3_cut) rfl rfl rfl (by decide +kernel) ⟨Nat.le_of_ble_eq_true rfl, Nat.le_of_ble_eq_true rfl⟩) (r_preV hK hW (10) (tp_lt (by decide)) (cE_k (rfl : kd 10 = 2)) rfl [.int 0]) rfl rfl hl.1 rfl (lv_room (Nat.le_of_ble_eq_true rfl)) dX6_beginQuestion_92 ⟨Nat.zero_le _, Nat.zero_le _⟩) hW (fun H locs hW => ?_)
  exact r_vret hx hb hr hlocks hW hF dX6_beginQuestion_95
def F_X6_writeSearch (σ : St) (x1 : Int64) (x3 : Int32) : Option (St) := (F_X6_beginQuestion σ x1 16 x3).bind (fun y3 => (F_X2_writeTo (9) (3) y3).bind (fun y4 => some y4))
set_option maxHeartbeats 4000000 in
set_option maxRecDepth 100000 in
theorem m_X6_writeSearch (l : Launch) (G : va_G) (g : Nat → ClassId) (ad : Nat → Nat) (n a0 aM : Nat) (σ : St) (x1 : Int64) (x3 : Int32) (x : St) (hF : F_X6_writeSearch σ x1 x3 = some x) : Met l yX6_writeSearch zs_X6_writeSearch ({ frames := 2, cells := 0, slots := 0, locals := 47 } : Room) (va_Pc [.ref (ad (0)), .long x1, .int x3] (wP G g ad n a0 aM σ)) (qV G g ad n a0 x) 0 0 (fun q : Nat => a0 ≤ q) := by
  refine Met.ofW (cc := cX6_writeSearch) (maxL := 4) (ret := none) (by decide) rfl ?_
  intro p e s m args below meth c s₁ B hml hv
  obtain ⟨rfl, hP, hD, hK⟩ := hv
  have hx := B.exec
  have hb := B.bytes
  have hr := B.returns
  have htA : ∀ w ∈ AL, w.before _ s = true := fun w h9 => atoms_spec (ws := zs_X6_writeSearch) B.pre w (List.mem_cons_of_mem _ h9)
  have hown : s.vm.findClass RX6 = some m.cls := findClass_of_methodNamed B.named
  have hlocks := B.notSynchronized
  have hW : Wd G g ad n a0 s.heap σ s.heap [] := ⟨hP, hD, va_S.rf⟩
  clear hP hD
  have hl := lv_entry ([.ref (ad (0)), .long x1, .int x3]) (n := 4) (Nat.le_of_ble_eq_true rfl)
  rw [lg_entry_eq]
  generalize (lg_sl ([.ref (ad (0)), .long x1, .int x3]) ++ List.replicate (4 - (lg_sl ([.ref (ad (0)), .long x1, .int x3])).length) Slot.unset).toArray = ls at hl ⊢
  have hl : lv_has ls 4 [(0, .ref (ad (0))), (1, .long x1), (3, .int x3)] := hl
  unfold F_X6_writeSearch at hF
  refine lv_aload_n hx hb dX6_writeSearch_0 rfl (lv_at hl 0 rfl) ?_
  refine lv_lload_n hx hb dX6_writeSearch_1 rfl (lv_at hl 1 rfl) ?_
  refine lv_bipush (v := 16) hx hb dX6_writeSearch_2 (by decide) ?_
  refine lv_iload_n hx hb dX6_writeSearch_4 rfl (lv_at hl 2 rfl) ?_
  obtain ⟨y3, hy3, hF⟩ := bd_some hF
  refine r_bv (va_runV (As := [.long x1, .int 16, .int x3]) (rest := []) ⟨hx, hb, hml, hown, htA⟩ (m_X6_beginQuestion l G g ad n a0 aM σ x1 16 x3 y3  hy3) (cwV 3 htA (gV aw_281 aw_282 aw_283 aw_52 gz_X6_beginQuestion) rfl rfl rfl (by decide +kernel) ⟨Nat.le_of_ble_eq_true rfl, Nat.le_of_ble_eq_true rfl⟩) (r_preV hK hW (0) (tp_lt (by decide)) (cE_k (rfl : kd 0 = 1)) rfl [.long x1, .int 16, .int x3]) rfl rfl hl.1 rfl (lv_room (Nat.le_of_ble_eq_true rfl)) dX6_writeSearch_5 ⟨Nat.zero_le _, Nat.zero_le _⟩) hW (fun H locs hW => ?_)
  refine lv_aload_n hx hb dX6_writeSearch_8 rfl (lv_at hl 0 rfl) ?_
  refine r_get (C := RX6) (T := TX6) (N := 13) hx hb htA ia_X6 hown hK hW (0) (tp_lt (by decide)) (cE_k (rfl : kd 0 = 1)) rfl 4 (by decide) (htA _ aw_203) rfl dX6_writeSearch_9 ?_
  refine lv_aload_n hx hb dX6_writeSearch_12 rfl (lv_at hl 0 rfl) ?_
  refine r_get (C := RX6) (T := TX6) (N := 13) hx hb htA ia_X6 hown hK hW (0) (tp_lt (by decide)) (cE_k (rfl : kd 0 = 1)) rfl 1 (by decide) (htA _ aw_198) rfl dX6_writeSearch_13 ?_
  obtain ⟨y4, hy4, hF⟩ := bd_some hF
  refine r_bv (va_runV (As := [.ref (ad (3))]) (rest := []) ⟨hx, hb, hml, hown, htA⟩ (m_X2_writeTo l G g ad n a0 aM (9) (3) y3 y4 ⟨rfl, rfl, rfl⟩ (tp_lt (by decide)) ⟨rfl, rfl⟩ (tp_lt (by decide)) hy4) (cwV 1 htA (gV aw_285 aw_120 aw_121 aw_112 gz_X2_writeTo) rfl rfl rfl (by decide +kernel) ⟨Nat.le_of_ble_eq_true rfl, Nat.le_of_ble_eq_true rfl⟩) (r_preV hK hW (9) (tp_lt (by decide)) (cE_k (rfl : kd 9 = 4)) rfl [.ref (ad (3))]) rfl rfl hl.1 rfl (lv_room (Nat.le_of_ble_eq_true rfl)) dX6_writeSearch_16 ⟨Nat.zero_le _, Nat.zero_le _⟩) hW (fun H locs hW => ?_)
  exact r_vret hx hb hr hlocks hW hF dX6_writeSearch_19
def F_X6_writeBranchSearch (σ : St) (x1 : Int64) (x3 : Int64) : Option (St) := (F_X6_beginQuestion σ 281474976710655 16 1).bind (fun y5 => (F_X3_putNumber (10) y5 x1 6).bind (fun y6 => (F_X3_putNumber (10) y6 x3 6).bind (fun y7 => (F_X2_writeTo (9) (3) y7).bind (fun y8 => some y8))))
set_option maxHeartbeats 4000000 in
set_option maxRecDepth 100000 in
theorem m_X6_writeBranchSearch (l : Launch) (G : va_G) (g : Nat → ClassId) (ad : Nat → Nat) (n a0 aM : Nat) (σ : St) (x1 : Int64) (x3 : Int64) (x : St) (hF : F_X6_writeBranchSearch σ x1 x3 = some x) : Met l yX6_writeBranchSearch zs_X6_writeBranchSearch ({ frames := 2, cells := 0, slots := 0, locals := 47 } : Room) (va_Pc [.ref (ad (0)), .long x1, .long x3] (wP G g ad n a0 aM σ)) (qV G g ad n a0 x) 0 0 (fun q : Nat => a0 ≤ q) := by
  refine Met.ofW (cc := cX6_writeBranchSearch) (maxL := 5) (ret := none) (by decide) rfl ?_
  intro p e s m args below meth c s₁ B hml hv
  obtain ⟨rfl, hP, hD, hK⟩ := hv
  have hx := B.exec
  have hb := B.bytes
  have hr := B.returns
  have htA : ∀ w ∈ AL, w.before _ s = true := fun w h9 => atoms_spec (ws := zs_X6_writeBranchSearch) B.pre w (List.mem_cons_of_mem _ h9)
  have hown : s.vm.findClass RX6 = some m.cls := findClass_of_methodNamed B.named
  have hlocks := B.notSynchronized
  have hW : Wd G g ad n a0 s.heap σ s.heap [] := ⟨hP, hD, va_S.rf⟩
  clear hP hD
  have hl := lv_entry ([.ref (ad (0)), .long x1, .long x3]) (n := 5) (Nat.le_of_ble_eq_true rfl)
  rw [lg_entry_eq]
  generalize (lg_sl ([.ref (ad (0)), .long x1, .long x3]) ++ List.replicate (5 - (lg_sl ([.ref (ad (0)), .long x1, .long x3])).length) Slot.unset).toArray = ls at hl ⊢
  have hl : lv_has ls 5 [(0, .ref (ad (0))), (1, .long x1), (3, .long x3)] := hl
  unfold F_X6_writeBranchSearch at hF
  refine lv_aload_n hx hb dX6_writeBranchSearch_0 rfl (lv_at hl 0 rfl) ?_
  refine lv_ldc2 (v := 281474976710655) hx hb hown (htA _ aw_309) dX6_writeBranchSearch_1 ?_
  refine lv_bipush (v := 16) hx hb dX6_writeBranchSearch_4 (by decide) ?_
  refine lv_iconst (v := 1) hx hb dX6_writeBranchSearch_6 (by decide) ?_
  obtain ⟨y5, hy5, hF⟩ := bd_some hF
  refine r_bv (va_runV (As := [.long 281474976710655, .int 16, .int 1]) (rest := []) ⟨hx, hb, hml, hown, htA⟩ (m_X6_beginQuestion l G g ad n a0 aM σ 281474976710655 16 1 y5  hy5) (cwV 3 htA (gV aw_281 aw_282 aw_283 aw_52 gz_X6_beginQuestion) rfl rfl rfl (by decide +kernel) ⟨Nat.le_of_ble_eq_true rfl, Nat.le_of_ble_eq_true rfl⟩) (r_preV hK hW (0) (tp_lt (by decide)) (cE_k (rfl : kd 0 = 1)) rfl [.long 281474976710655, .int 16, .int 1]) rfl rfl hl.1 rfl (lv_room (Nat.le_of_ble_eq_true rfl)) dX6_writeBranchSearch_7 ⟨Nat.zero_le _, Nat.zero_le _⟩) hW (fun H locs hW => ?_)
  refine lv_aload_n hx hb dX6_writeBranchSearch_10 rfl (lv_at hl 0 rfl) ?_
  refine r_get (C := RX6) (T := TX6) (N := 13) hx hb htA ia_X6 hown hK hW (0) (tp_lt (by decide)) (cE_k (rfl : kd 0 = 1)) rfl 4 (by decide) (htA _ aw_203) rfl dX6_writeBranchSearch_11 ?_
  refine r_getN (C := RX2) (T := TX2) (N := 9) hx hb htA ia_X2 hown hK hW (9) (tp_lt (by decide)) (cE_k (rfl : kd 9 = 4)) rfl 8 (by decide) (hK.nest (w := .fieldLinkNest RX6 142 "LampLine$Packet" "data" "LLampLine$Row;" "LampLine") (by decide +kernel)) rfl dX6_writeBranchSearch_14 ?_
  refine lv_lload_n hx hb dX6_writeBranchSearch_17 rfl (lv_at hl 1 rfl) ?_
  refine lv_bipush (v := 6) hx hb dX6_writeBranchSearch_18 (by decide) ?_
  obtain ⟨y6, hy6, hF⟩ := bd_some hF
  refine r_bv (va_runV (As := [.long x1, .int 6]) (rest := []) ⟨hx, hb, hml, hown, htA⟩ (m_X3_putNumber l G g ad n a0 aM (10) y5 x1 6 y6 ⟨rfl, rfl⟩ (tp_lt (by decide)) hy6) (cwV 2 htA (gV aw_239 aw_96 aw_97 aw_6 gz_X3_putNumber) rfl rfl rfl (by decide +kernel) ⟨Nat.le_of_ble_eq_true rfl, Nat.le_of_ble_eq_true rfl⟩) (r_preV hK hW (10) (tp_lt (by decide)) (cE_k (rfl : kd 10 = 2)) rfl [.long x1, .int 6]) rfl rfl hl.1 rfl (lv_room (Nat.le_of_ble_eq_true rfl)) dX6_writeBranchSearch_20 ⟨Nat.zero_le _, Nat.zero_le _⟩) hW (fun H locs hW => ?_)
  refine lv_aload_n hx hb dX6_writeBranchSearch_23 rfl (lv_at hl 0 rfl) ?_
  refine r_get (C := RX6) (T := TX6) (N := 13) hx hb htA ia_X6 hown hK hW (0) (tp_lt (by decide)) (cE_k (rfl : kd 0 = 1)) rfl 4 (by decide) (htA _ aw_203) rfl dX6_writeBranchSearch_24 ?_
  refine r_getN (C := RX2) (T := TX2) (N := 9) hx hb htA ia_X2 hown hK hW (9) (tp_lt (by decide)) (cE_k (rfl : kd 9 = 4)) rfl 8 (by decide) (hK.nest (w := .fieldLinkNest RX6 142 "LampLine$Packet" "data" "LLampLine$Row;" "LampLine") (by decide +kernel)) rfl dX6_writeBranchSearch_27 ?_
  refine lv_lload_n hx hb dX6_writeBranchSearch_30 rfl (lv_at hl 2 rfl) ?_
  refine lv_bipush (v := 6) hx hb dX6_writeBranchSearch_31 (by decide) ?_
  obtain ⟨y7, hy7, hF⟩ := bd_some hF
  refine r_bv (va_runV (As := [.long x3, .int 6]) (rest := []) ⟨hx, hb, hml, hown, htA⟩ (m_X3_putNumber l G g ad n a0 aM (10) y6 x3 6 y7 ⟨rfl, rfl⟩ (tp_lt (by decide)) hy7) (cwV 2 htA (gV aw_239 aw_96 aw_97 aw_6 gz_X3_putNumber) rfl rfl rfl (by decide +kernel) ⟨Nat.le_of_ble_eq_true rfl, Nat.le_of_ble_eq_true rfl⟩) (r_preV hK hW (10) (tp_lt (by decide)) (cE_k (rfl : kd 10 = 2)) rfl [.long x3, .int 6]) rfl rfl hl.1 rfl (lv_room (Nat.le_of_ble_eq_true rfl)) dX6_writeBranchSearch_33 ⟨Nat.zero_le _, Nat.zero_le _⟩) hW (fun H locs hW => ?_)
  refine lv_aload_n hx hb dX6_writeBranchSearch_36 rfl (lv_at hl 0 rfl) ?_
  refine r_get (C := RX6) (T := TX6) (N := 13) hx hb htA ia_X6 hown hK hW (0) (tp_lt (by decide)) (cE_k (rfl : kd 0 = 1)) rfl 4 (by decide) (htA _ aw_203) rfl dX6_writeBranchSearch_37 ?_
  refine lv_aload_n hx hb dX6_writeBranchSearch_40 rfl (lv_at hl 0 rfl) ?_
  refine r_get (C := RX6) (T := TX6) (N := 13) hx hb htA ia_X6 hown hK hW (0) (tp_lt (by decide)) (cE_k (rfl : kd 0 = 1)) rfl 1 (by decide) (htA _ aw_198) rfl dX6_writeBranchSearch_41 ?_
  obtain ⟨y8, hy8, hF⟩ := bd_some hF
  refine r_bv (va_runV (As := [.ref (ad (3))]) (rest := []) ⟨hx, hb, hml, hown, htA⟩ (m_X2_writeTo l G g ad n a0 aM (9) (3) y7 y8 ⟨rfl, rfl, rfl⟩ (tp_lt (by decide)) ⟨rfl, rfl⟩ (tp_lt (by decide)) hy8) (cwV 1 htA (gV aw_285 aw_120 aw_121 aw_112 gz_X2_writeTo) rfl rfl rfl (by decide +kernel) ⟨Nat.le_of_ble_eq_true rfl, Nat.le_of_ble_eq_true rfl⟩) (r_preV hK hW (9) (tp_lt (by decide)) (cE_k (rfl : kd 9 = 4)) rfl [.ref (ad (3))]) rfl rfl hl.1 rfl (lv_room (Nat.le_of_ble_eq_true rfl)) dX6_writeBranchSearch_44 ⟨Nat.zero_le _, Nat.zero_le _⟩) hW (fun H locs hW => ?_)
  exact r_vret hx hb hr hlocks hW hF dX6_writeBranchSearch_47
def F_X6_isReplyFrom (σ : St) (x1 : Int64) : Option (St × Int32) := (F_X2_readFrom (12) (7) σ).bind (fun y2 => if y2.2 = 0 then some (y2.1, 0) else if (lg_cmp (y2.1.2 (12) 1) x1) = 0 then if (lg_cmp (y2.1.2 (12) 0) 140728898420737) = 0 then if (y2.1.1 (12) 2) = (y2.1.1 (0) 12) then some (y2.1, 1) else some (y2.1, 0) else some (y2.1, 0) else some (y2.1, 0))
set_option maxHeartbeats 4000000 in
set_option maxRecDepth 100000 in
theorem m_X6_isReplyFrom (l : Launch) (G : va_G) (g : Nat → ClassId) (ad : Nat → Nat) (n a0 aM : Nat) (σ : St) (x1 : Int64) (x : St × Int32) (hF : F_X6_isReplyFrom σ x1 = some x) : Met l yX6_isReplyFrom zs_X6_isReplyFrom ({ frames := 3, cells := 0, slots := 0, locals := 69 } : Room) (va_Pc [.ref (ad (0)), .long x1] (wP G g ad n a0 aM σ)) (qI G g ad n a0 x) 0 0 (fun q : Nat => a0 ≤ q) := by
  refine Met.ofW (cc := cX6_isReplyFrom) (maxL := 3) (ret := (some .boolean)) (by decide) rfl ?_
  intro p e s m args below meth c s₁ B hml hv
  obtain ⟨rfl, hP, hD, hK⟩ := hv
  have hx := B.exec
  have hb := B.bytes
  have hr := B.returns
  have htA : ∀ w ∈ AL, w.before _ s = true := fun w h9 => atoms_spec (ws := zs_X6_isReplyFrom) B.pre w (List.mem_cons_of_mem _ h9)
  have hown : s.vm.findClass RX6 = some m.cls := findClass_of_methodNamed B.named
  have hlocks := B.notSynchronized
  have hW : Wd G g ad n a0 s.heap σ s.heap [] := ⟨hP, hD, va_S.rf⟩
  clear hP hD
  have hl := lv_entry ([.ref (ad (0)), .long x1]) (n := 3) (Nat.le_of_ble_eq_true rfl)
  rw [lg_entry_eq]
  generalize (lg_sl ([.ref (ad (0)), .long x1]) ++ List.replicate (3 - (lg_sl ([.ref (ad (0)), .long x1])).length) Slot.unset).toArray = ls at hl ⊢
  have hl : lv_has ls 3 [(0, .ref (ad (0))), (1, .long x1)] := hl
  unfold F_X6_isReplyFrom at hF
  refine lv_aload_n hx hb dX6_isReplyFrom_0 rfl (lv_at hl 0 rfl) ?_
  refine r_get (C := RX6) (T := TX6) (N := 13) hx hb htA ia_X6 hown hK hW (0) (tp_lt (by decide)) (cE_k (rfl : kd 0 = 1)) rfl 5 (by decide) (htA _ aw_204) rfl dX6_isReplyFrom_1 ?_
  refine lv_aload_n hx hb dX6_isReplyFrom_4 rfl (lv_at hl 0 rfl) ?_
  refine r_get (C := RX6) (T := TX6) (N := 13) hx hb htA ia_X6 hown hK hW (0) (tp_lt (by decide)) (cE_k (rfl : kd 0 = 1)) rfl 3 (by decide) (htA _ aw_200) rfl dX6_isReplyFrom_5 ?_
  obtain ⟨y2, hy2, hF⟩ := bd_some hF
  refine r_bi (va_runV (As := [.ref (ad (7))]) (rest := []) ⟨hx, hb, hml, hown, htA⟩ (m_X2_readFrom l G g ad n a0 aM (12) (7) σ y2 ⟨rfl, rfl, rfl⟩ (tp_lt (by decide)) ⟨rfl, rfl⟩ (tp_lt (by decide)) hy2) (cwV 1 htA (gV aw_243 aw_244 aw_245 aw_112 gz_X2_readFrom) rfl rfl rfl (by decide +kernel) ⟨Nat.le_of_ble_eq_true rfl, Nat.le_of_ble_eq_true rfl⟩) (r_preV hK hW (12) (tp_lt (by decide)) (cE_k (rfl : kd 12 = 4)) rfl [.ref (ad (7))]) rfl rfl hl.1 rfl (lv_room (Nat.le_of_ble_eq_true rfl)) dX6_isReplyFrom_8 ⟨Nat.zero_le _, Nat.zero_le _⟩) hW (fun H locs hW => ?_)
  refine lv_if_eq (tgt := 58) hx hb dX6_isReplyFrom_11 (by decide) (fun hc3 => ?_) (fun hc3 => ?_)
  · replace hF := (if_pos hc3).symm.trans hF
    refine lv_iconst (v := 0) hx hb dX6_isReplyFrom_58 (by decide) ?_
    exact r_zret hx hb hr hlocks hW rfl hF dX6_isReplyFrom_59
  · replace hF := (if_neg hc3).symm.trans hF
    refine lv_aload_n hx hb dX6_isReplyFrom_14 rfl (lv_at hl 0 rfl) ?_
    refine r_get (C := RX6) (T := TX6) (N := 13) hx hb htA ia_X6 hown hK hW (0) (tp_lt (by decide)) (cE_k (rfl : kd 0 = 1)) rfl 5 (by decide) (htA _ aw_204) rfl dX6_isReplyFrom_15 ?_
    refine r_getN (C := RX2) (T := TX2) (N := 9) hx hb htA ia_X2 hown hK hW (12) (tp_lt (by decide)) (cE_k (rfl : kd 12 = 4)) rfl 1 (by decide) (hK.nest (w := .fieldLinkNest RX6 278 "LampLine$Packet" "from" "J" "LampLine") (by decide +kernel)) rfl dX6_isReplyFrom_18 ?_
    refine lv_lload_n hx hb dX6_isReplyFrom_21 rfl (lv_at hl 1 rfl) ?_
    refine W.lcmp hx hb dX6_isReplyFrom_22 ?_
    refine lv_if_ne (tgt := 58) hx hb dX6_isReplyFrom_23 (by decide) (fun hc4 => ?_) (fun hc4 => ?_)
    · replace hF := (if_neg hc4).symm.trans hF
      refine lv_iconst (v := 0) hx hb dX6_isReplyFrom_58 (by decide) ?_
      exact r_zret hx hb hr hlocks hW rfl hF dX6_isReplyFrom_59
    · replace hF := (if_pos hc4).symm.trans hF
      refine lv_aload_n hx hb dX6_isReplyFrom_26 rfl (lv_at hl 0 rfl) ?_
      refine r_get (C := RX6) (T := TX6) (N := 13) hx hb htA ia_X6 hown hK hW (0) (tp_lt (by decide)) (cE_k (rfl : kd 0 = 1)) rfl 5 (by decide) (htA _ aw_204) rfl dX6_isReplyFrom_27 ?_
      refine r_getN (C := RX2) (T := TX2) (N := 9) hx hb htA ia_X2 hown hK hW (12) (tp_lt (by decide)) (cE_k (rfl : kd 12 = 4)) rfl 0 (by decide) (hK.nest (w := .fieldLinkNest RX6 257 "LampLine$Packet" "to" "J" "LampLine") (by decide +kernel)) rfl dX6_isReplyFrom_30 ?_
      refine lv_ldc2 (v := 140728898420737) hx hb hown (htA _ aw_279) dX6_isReplyFrom_33 ?_
      refine W.lcmp hx hb dX6_isReplyFrom_36 ?_
      refine lv_if_ne (tgt := 58) hx hb dX6_isReplyFrom_37 (by decide) (fun hc5 => ?_) (fun hc5 => ?_)
      · replace hF := (if_neg hc5).symm.trans hF
        refine lv_iconst (v := 0) hx hb dX6_isReplyFrom_58 (by decide) ?_
        exact r_zret hx hb hr hlocks hW rfl hF dX6_isReplyFrom_59
      · replace hF := (if_pos hc5).symm.trans hF
        refine lv_aload_n hx hb dX6_isReplyFrom_40 rfl (lv_at hl 0 rfl) ?_
        refine r_get (C := RX6) (T := TX6) (N := 13) hx hb htA ia_X6 hown hK hW (0) (tp_lt (by decide)) (cE_k (rfl : kd 0 = 1)) rfl 5 (by decide) (htA _ aw_204) rfl dX6_isReplyFrom_41 ?_
        refine r_getN (C := RX2) (T := TX2) (N := 9) hx hb htA ia_X2 hown hK hW (12) (tp_lt (by decide)) (cE_k (rfl : kd 12 = 4)) rfl 2 (by decide) (hK.nest (w := .fieldLinkNest RX6 281 "LampLine$Packet" "count" "I" "LampLine") (by decide +kernel)) rfl dX6_isReplyFrom_44 ?_
        refine lv_aload_n hx hb dX6_isReplyFrom_47 rfl (lv_at hl 0 rfl) ?_
        refine r_get (C := RX6) (T := TX6) (N := 13) hx hb htA ia_X6 hown hK hW (0) (tp_lt (by decide)) (cE_k (rfl : kd 0 = 1)) rfl 12 (by decide) (htA _ aw_278) rfl dX6_isReplyFrom_48 ?_
        refine lv_icmp_ne (tgt := 58) hx hb dX6_isReplyFrom_51 (by decide) (fun hc6 => ?_) (fun hc6 => ?_)
        · replace hF := (if_neg hc6).symm.trans hF
          refine lv_iconst (v := 0) hx hb dX6_isReplyFrom_58 (by decide) ?_
          exact r_zret hx hb hr hlocks hW rfl hF dX6_isReplyFrom_59
        · replace hF := (if_pos hc6).symm.trans hF
          refine lv_iconst (v := 1) hx hb dX6_isReplyFrom_54 (by decide) ?_
          refine lv_goto (tgt := 59) hx hb dX6_isReplyFrom_55 (by decide) ?_
          exact r_zret hx hb hr hlocks hW rfl hF dX6_isReplyFrom_59
def F_X6_tryId_L73 (n : Nat) (σ : St) (u1 : Int64) : Option (St × Int32) := (F_X6_writeSearch σ u1 3).bind (fun y8 => (F_X6_runFrame n y8).bind (fun y9 => some (y9, 2)))
def F_X6_tryId (n : Nat) (σ : St) (x1 : Int64) : Option (St × Int32) := (F_X6_writeSearch σ x1 2).bind (fun y10 => (F_X6_runFrame n y10).bind (fun y11 => (F_X3_size (7) y11).bind (fun y12 => if y12.2 = 0 then some (y12.1, 0) else (F_X6_isReplyFrom y12.1 x1).bind (fun y14 => if y14.2 = 0 then F_X6_tryId_L73 n y14.1 x1 else if (y14.1.1 (12) 6) = 17 then if (y14.1.1 (12) 7) = 2 then if (y14.1.1 (12) 3) = 0 then (F_X4_keepFound y14.1 x1).bind (fun y19 => some (y19, 1)) else F_X6_tryId_L73 n y14.1 x1 else F_X6_tryId_L73 n y14.1 x1 else F_X6_tryId_L73 n y14.1 x1))))
set_option maxHeartbeats 4000000 in
set_option maxRecDepth 100000 in
theorem m_X6_tryId (l : Launch) (G : va_G) (g : Nat → ClassId) (ad : Nat → Nat) (n a0 aM : Nat) (σ : St) (x1 : Int64) (x : St × Int32) (hF : F_X6_tryId n σ x1 = some x) : Met l yX6_tryId zs_X6_tryId ({ frames := 5, cells := 0, slots := 0, locals := 125 } : Room) (va_Pc [.ref (ad (0)), .long x1] (wP G g ad n a0 aM σ)) (qI G g ad n a0 x) 0 0 (fun q : Nat => a0 ≤ q) := by
  refine Met.ofW (cc := cX6_tryId) (maxL := 3) (ret := (some .int)) (by decide) rfl ?_
  intro p e s m args below meth c s₁ B hml hv
  obtain ⟨rfl, hP, hD, hK⟩ := hv
  have hx := B.exec
  have hb := B.bytes
  have hr := B.returns
  have htA : ∀ w ∈ AL, w.before _ s = true := fun w h9 => atoms_spec (ws := zs_X6_tryId) B.pre w (List.mem_cons_of_mem _ h9)
  have hown : s.vm.findClass RX6 = some m.cls := findClass_of_methodNamed B.named
  have hlocks := B.notSynchronized
  have hW : Wd G g ad n a0 s.heap σ s.heap [] := ⟨hP, hD, va_S.rf⟩
  clear hP hD
  have hL73 : ∀ (σ : St) (u1 : Int64) (H : Heap) (locs : List Loc) (ls : Array Slot), Wd G g ad n a0 s.heap σ H locs → lv_has ls 3 [(0, .ref (ad (0))), (1, .long u1)] → F_X6_tryId_L73 n  σ u1 = some x → W p l e (headSpec zs_X6_tryId ({ frames := 5, cells := 0, slots := 0, locals := 125 } : Room)).room s m ([.ref (ad (0)), .long x1] : List Value).toArray below meth c H locs 0 0 (MQ below (qI G g ad n a0 x) ([.ref (ad (0)), .long x1] : List Value).toArray s 0 0 (fun q : Nat => a0 ≤ q)) (F0 m 73 ls []) := by
    intro σ u1 H locs ls hW hl hF
    unfold F_X6_tryId_L73 at hF
    refine lv_aload_n hx hb dX6_tryId_73 rfl (lv_at hl 0 rfl) ?_
    refine lv_lload_n hx hb dX6_tryId_74 rfl (lv_at hl 1 rfl) ?_
    refine lv_iconst (v := 3) hx hb dX6_tryId_75 (by decide) ?_
    obtain ⟨y8, hy8, hF⟩ := bd_some hF
    refine r_bv (va_runV (As := [.long u1, .int 3]) (rest := []) ⟨hx, hb, hml, hown, htA⟩ (m_X6_writeSearch l G g ad n a0 aM σ u1 3 y8  hy8) (cwV 2 htA (gV aw_314 aw_315 aw_316 aw_52 gz_X6_writeSearch) rfl rfl rfl (by decide +kernel) ⟨Nat.le_of_ble_eq_true rfl, Nat.le_of_ble_eq_true rfl⟩) (r_preV hK hW (0) (tp_lt (by decide)) (cE_k (rfl : kd 0 = 1)) rfl [.long u1, .int 3]) rfl rfl hl.1 rfl (lv_room (Nat.le_of_ble_eq_true rfl)) dX6_tryId_76 ⟨Nat.zero_le _, Nat.zero_le _⟩) hW (fun H locs hW => ?_)
    refine lv_aload_n hx hb dX6_tryId_79 rfl (lv_at hl 0 rfl) ?_
    obtain ⟨y9, hy9, hF⟩ := bd_some hF
    refine r_bv (va_runV (As := []) (rest := []) ⟨hx, hb, hml, hown, htA⟩ (m_X6_runFrame l G g ad n a0 aM y8 y9  hy9) (cwV 0 htA (gV aw_272 aw_273 aw_274 aw_52 gz_X6_runFrame) rfl rfl rfl (by decide +kernel) ⟨Nat.le_of_ble_eq_true rfl, Nat.le_of_ble_eq_true rfl⟩) (r_preV hK hW (0) (tp_lt (by decide)) (cE_k (rfl : kd 0 = 1)) rfl []) rfl rfl hl.1 rfl (lv_room (Nat.le_of_ble_eq_true rfl)) dX6_tryId_80 ⟨Nat.zero_le _, Nat.zero_le _⟩) hW (fun H locs hW => ?_)
    refine lv_iconst (v := 2) hx hb dX6_tryId_83 (by decide) ?_
    exact r_iret hx hb hr hlocks hW hF dX6_tryId_84
  have hl := lv_entry ([.ref (ad (0)), .long x1]) (n := 3) (Nat.le_of_ble_eq_true rfl)
  rw [lg_entry_eq]
  generalize (lg_sl ([.ref (ad (0)), .long x1]) ++ List.replicate (3 - (lg_sl ([.ref (ad (0)), .long x1])).length) Slot.unset).toArray = ls at hl ⊢
  have hl : lv_has ls 3 [(0, .ref (ad (0))), (1, .long x1)] := hl
  unfold F_X6_tryId at hF
  refine lv_aload_n hx hb dX6_tryId_0 rfl (lv_at hl 0 rfl) ?_
  refine lv_lload_n hx hb dX6_tryId_1 rfl (lv_at hl 1 rfl) ?_
  refine lv_iconst (v := 2) hx hb dX6_tryId_2 (by decide) ?_
  obtain ⟨y10, hy10, hF⟩ := bd_some hF
  refine r_bv (va_runV (As := [.long x1, .int 2]) (rest := []) ⟨hx, hb, hml, hown, htA⟩ (m_X6_writeSearch l G g ad n a0 aM σ x1 2 y10  hy10) (cwV 2 htA (gV aw_314 aw_315 aw_316 aw_52 gz_X6_writeSearch) rfl rfl rfl (by decide +kernel) ⟨Nat.le_of_ble_eq_true rfl, Nat.le_of_ble_eq_true rfl⟩) (r_preV hK hW (0) (tp_lt (by decide)) (cE_k (rfl : kd 0 = 1)) rfl [.long x1, .int 2]) rfl rfl hl.1 rfl (lv_room (Nat.le_of_ble_eq_true rfl)) dX6_tryId_3 ⟨Nat.zero_le _, Nat.zero_le _⟩) hW (fun H locs hW => ?_)
  refine lv_aload_n hx hb dX6_tryId_6 rfl (lv_at hl 0 rfl) ?_
  obtain ⟨y11, hy11, hF⟩ := bd_some hF
  refine r_bv (va_runV (As := []) (rest := []) ⟨hx, hb, hml, hown, htA⟩ (m_X6_runFrame l G g ad n a0 aM y10 y11  hy11) (cwV 0 htA (gV aw_272 aw_273 aw_274 aw_52 gz_X6_runFrame) rfl rfl rfl (by decide +kernel) ⟨Nat.le_of_ble_eq_true rfl, Nat.le_of_ble_eq_true rfl⟩) (r_preV hK hW (0) (tp_lt (by decide)) (cE_k (rfl : kd 0 = 1)) rfl []) rfl rfl hl.1 rfl (lv_room (Nat.le_of_ble_eq_true rfl)) dX6_tryId_7 ⟨Nat.zero_le _, Nat.zero_le _⟩) hW (fun H locs hW => ?_)
  refine lv_aload_n hx hb dX6_tryId_10 rfl (lv_at hl 0 rfl) ?_
  refine r_get (C := RX6) (T := TX6) (N := 13) hx hb htA ia_X6 hown hK hW (0) (tp_lt (by decide)) (cE_k (rfl : kd 0 = 1)) rfl 3 (by decide) (htA _ aw_200) rfl dX6_tryId_11 ?_
  obtain ⟨y12, hy12, hF⟩ := bd_some hF
  refine r_bi (va_runV (As := []) (rest := []) ⟨hx, hb, hml, hown, htA⟩ (m_X3_size l G g ad n a0 aM (7) y11 y12 ⟨rfl, rfl⟩ (tp_lt (by decide)) hy12) (cwV 0 htA (gV aw_238 aw_19 aw_20 aw_6 gz_X3_size) rfl rfl rfl (by decide +kernel) ⟨Nat.le_of_ble_eq_true rfl, Nat.le_of_ble_eq_true rfl⟩) (r_preV hK hW (7) (tp_lt (by decide)) (cE_k (rfl : kd 7 = 2)) rfl []) rfl rfl hl.1 rfl (lv_room (Nat.le_of_ble_eq_true rfl)) dX6_tryId_14 ⟨Nat.zero_le _, Nat.zero_le _⟩) hW (fun H locs hW => ?_)
  refine lv_if_ne (tgt := 22) hx hb dX6_tryId_17 (by decide) (fun hc13 => ?_) (fun hc13 => ?_)
  · replace hF := (if_neg hc13).symm.trans hF
    refine lv_aload_n hx hb dX6_tryId_22 rfl (lv_at hl 0 rfl) ?_
    refine lv_lload_n hx hb dX6_tryId_23 rfl (lv_at hl 1 rfl) ?_
    obtain ⟨y14, hy14, hF⟩ := bd_some hF
    refine r_bi (va_runV (As := [.long x1]) (rest := []) ⟨hx, hb, hml, hown, htA⟩ (m_X6_isReplyFrom l G g ad n a0 aM y12.1 x1 y14  hy14) (cwV 1 htA (gV aw_286 aw_287 aw_288 aw_52 gz_X6_isReplyFrom) rfl rfl rfl (by decide +kernel) ⟨Nat.le_of_ble_eq_true rfl, Nat.le_of_ble_eq_true rfl⟩) (r_preV hK hW (0) (tp_lt (by decide)) (cE_k (rfl : kd 0 = 1)) rfl [.long x1]) rfl rfl hl.1 rfl (lv_room (Nat.le_of_ble_eq_true rfl)) dX6_tryId_24 ⟨Nat.zero_le _, Nat.zero_le _⟩) hW (fun H locs hW => ?_)
    refine lv_if_eq (tgt := 73) hx hb dX6_tryId_27 (by decide) (fun hc15 => ?_) (fun hc15 => ?_)
    · replace hF := (if_pos hc15).symm.trans hF
      exact hL73 y14.1 x1 _ _ _  hW (lv_sub hl [0, 1] rfl) hF
    · replace hF := (if_neg hc15).symm.trans hF
      refine lv_aload_n hx hb dX6_tryId_30 rfl (lv_at hl 0 rfl) ?_
      refine r_get (C := RX6) (T := TX6) (N := 13) hx hb htA ia_X6 hown hK hW (0) (tp_lt (by decide)) (cE_k (rfl : kd 0 = 1)) rfl 5 (by decide) (htA _ aw_204) rfl dX6_tryId_31 ?_
      refine r_getN (C := RX2) (T := TX2) (N := 9) hx hb htA ia_X2 hown hK hW (12) (tp_lt (by decide)) (cE_k (rfl : kd 12 = 4)) rfl 6 (by decide) (hK.nest (w := .fieldLinkNest RX6 287 "LampLine$Packet" "group" "I" "LampLine") (by decide +kernel)) rfl dX6_tryId_34 ?_
      refine lv_bipush (v := 17) hx hb dX6_tryId_37 (by decide) ?_
      refine lv_icmp_ne (tgt := 73) hx hb dX6_tryId_39 (by decide) (fun hc16 => ?_) (fun hc16 => ?_)
      · replace hF := (if_neg hc16).symm.trans hF
        exact hL73 y14.1 x1 _ _ _  hW (lv_sub hl [0, 1] rfl) hF
      · replace hF := (if_pos hc16).symm.trans hF
        refine lv_aload_n hx hb dX6_tryId_42 rfl (lv_at hl 0 rfl) ?_
        refine r_get (C := RX6) (T := TX6) (N := 13) hx hb htA ia_X6 hown hK hW (0) (tp_lt (by decide)) (cE_k (rfl : kd 0 = 1)) rfl 5 (by decide) (htA _ aw_204) rfl dX6_tryId_43 ?_
        refine r_getN (C := RX2) (T := TX2) (N := 9) hx hb htA ia_X2 hown hK hW (12) (tp_lt (by decide)) (cE_k (rfl : kd 12 = 4)) rfl 7 (by decide) (hK.nest (w := .fieldLinkNest RX6 290 "LampLine$Packet" "matter" "I" "LampLine") (by decide +kernel)) rfl dX6_tryId_46 ?_
        refine lv_iconst (v := 2) hx hb dX6_tryId_49 (by decide) ?_
        refine lv_icmp_ne (tgt := 73) hx hb dX6_tryId_50 (by decide) (fun hc17 => ?_) (fun hc17 => ?_)
        · replace hF := (if_neg hc17).symm.trans hF
          exact hL73 y14.1 x1 _ _ _  hW (lv_sub hl [0, 1] rfl) hF
        · replace hF := (if_pos hc17).symm.trans hF
          refine lv_aload_n hx hb dX6_tryId_53 rfl (lv_at hl 0 rfl) ?_
          refine r_get (C := RX6) (T := TX6) (N := 13) hx hb htA ia_X6 hown hK hW (0) (tp_lt (by decide)) (cE_k (rfl : kd 0 = 1)) rfl 5 (by decide) (htA _ aw_204) rfl dX6_tryId_54 ?_
          refine r_getN (C := RX2) (T := TX2) (N := 9) hx hb htA ia_X2 hown hK hW (12) (tp_lt (by decide)) (cE_k (rfl : kd 12 = 4)) rfl 3 (by decide) (hK.nest (w := .fieldLinkNest RX6 151 "LampLine$Packet" "kind" "I" "LampLine") (by decide +kernel)) rfl dX6_tryId_57 ?_
          refine lv_if_ne (tgt := 73) hx hb dX6_tryId_60 (by decide) (fun hc18 => ?_) (fun hc18 => ?_)
          · replace hF := (if_neg hc18).symm.trans hF
            exact hL73 y14.1 x1 _ _ _  hW (lv_sub hl [0, 1] rfl) hF
          · replace hF := (if_pos hc18).symm.trans hF
            refine lv_aload_n hx hb dX6_tryId_63 rfl (lv_at hl 0 rfl) ?_
            refine r_get (C := RX6) (T := TX6) (N := 13) hx hb htA ia_X6 hown hK hW (0) (tp_lt (by decide)) (cE_k (rfl : kd 0 = 1)) rfl 8 (by decide) (htA _ aw_211) rfl dX6_tryId_64 ?_
            refine lv_lload_n hx hb dX6_tryId_67 rfl (lv_at hl 1 rfl) ?_
            obtain ⟨y19, hy19, hF⟩ := bd_some hF
            refine r_bv (va_runV (As := [.long x1]) (rest := []) ⟨hx, hb, hml, hown, htA⟩ (m_X4_keepFound l G g ad n a0 aM y14.1 x1 y19  hy19) (cwV 1 htA (gV aw_318 aw_319 aw_320 aw_175 gz_X4_keepFound) rfl rfl rfl (by decide +kernel) ⟨Nat.le_of_ble_eq_true rfl, Nat.le_of_ble_eq_true rfl⟩) (r_preV hK hW (21) (tp_lt (by decide)) (cE_k (rfl : kd 21 = 6)) rfl [.long x1]) rfl rfl hl.1 rfl (lv_room (Nat.le_of_ble_eq_true rfl)) dX6_tryId_68 ⟨Nat.zero_le _, Nat.zero_le _⟩) hW (fun H locs hW => ?_)
            refine lv_iconst (v := 1) hx hb dX6_tryId_71 (by decide) ?_
            exact r_iret hx hb hr hlocks hW hF dX6_tryId_72
  · replace hF := (if_pos hc13).symm.trans hF
    refine lv_iconst (v := 0) hx hb dX6_tryId_20 (by decide) ?_
    exact r_iret hx hb hr hlocks hW hF dX6_tryId_21
def F_X6_takeStep_L158 (n : Nat) (σ : St) (u1 : Int64) (u3 : Int64) : Option (St) := (F_X4_pile σ (((Int64.toUInt64 (u1 + u3)) >>> ((Int64.toUInt64 (Int32.toInt64 1)) &&& Int64.toUInt64 63)).toInt64 + 1) u3).bind (fun y17 => (F_X4_pile y17 u1 ((Int64.toUInt64 (u1 + u3)) >>> ((Int64.toUInt64 (Int32.toInt64 1)) &&& Int64.toUInt64 63)).toInt64).bind (fun y18 => some y18))
def F_X6_takeStep_L132 (n : Nat) (σ : St) (u1 : Int64) (u3 : Int64) (u5 : Int64) (z0 : Int32) : Option (St) := if z0 = 0 then F_X6_takeStep_L158 n σ u1 u3 else (F_X6_tryId n σ u5).bind (fun y20 => if y20.2 = 0 then F_X6_takeStep_L158 n y20.1 u1 u3 else (F_X4_pile y20.1 u1 u3).bind (fun y22 => some y22))
def F_X6_takeStep_L131 (n : Nat) (σ : St) (u1 : Int64) (u3 : Int64) (u5 : Int64) : Option (St) := F_X6_takeStep_L132 n σ u1 u3 u5 0
def F_X6_takeStep (n : Nat) (σ : St) : Option (St) := (F_X4_latestLow σ).bind (fun y23 => (F_X4_latestHigh y23.1).bind (fun y24 => (F_X4_takeLatest y24.1).bind (fun y25 => if (lg_cmp y23.2 y24.2) = 0 then (F_X6_restOf y25 y23.2).bind (fun y38 => if (lg_cmp y38.2 4294967295) = 0 then some y38.1 else (F_X6_tryId n y38.1 y23.2).bind (fun y40 => if y40.2 = 2 then (F_X4_pile y40.1 y23.2 y24.2).bind (fun y42 => some y42) else some y40.1)) else (F_X6_writeBranchSearch y25 y23.2 y24.2).bind (fun y27 => (F_X6_runFrame n y27).bind (fun y28 => (F_X3_size (7) y28).bind (fun y29 => if y29.2 = 0 then some y29.1 else (F_X0_read (7) y29.1).bind (fun y31 => if (lg_cmp y31.2 y23.2) < 0 then F_X6_takeStep_L131 n y31.1 y23.2 y24.2 y31.2 else if 0 < (lg_cmp y31.2 y24.2) then F_X6_takeStep_L131 n y31.1 y23.2 y24.2 y31.2 else (F_X6_restOf y31.1 y31.2).bind (fun y34 => if (lg_cmp y34.2 4294967295) = 0 then F_X6_takeStep_L131 n y34.1 y23.2 y24.2 y31.2 else (F_X4_hasFound y34.1 y31.2).bind (fun y36 => if y36.2 = 0 then F_X6_takeStep_L132 n y36.1 y23.2 y24.2 y31.2 1 else F_X6_takeStep_L131 n y36.1 y23.2 y24.2 y31.2)))))))))
set_option maxHeartbeats 4000000 in
set_option maxRecDepth 100000 in
theorem m_X6_takeStep (l : Launch) (G : va_G) (g : Nat → ClassId) (ad : Nat → Nat) (n a0 aM : Nat) (σ : St) (x : St) (hF : F_X6_takeStep n σ = some x) : Met l yX6_takeStep zs_X6_takeStep ({ frames := 6, cells := 0, slots := 0, locals := 147 } : Room) (va_Pc [.ref (ad (0))] (wP G g ad n a0 aM σ)) (qV G g ad n a0 x) 0 0 (fun q : Nat => a0 ≤ q) := by
  refine Met.ofW (cc := cX6_takeStep) (maxL := 10) (ret := none) (by decide) rfl ?_
  intro p e s m args below meth c s₁ B hml hv
  obtain ⟨rfl, hP, hD, hK⟩ := hv
  have hx := B.exec
  have hb := B.bytes
  have hr := B.returns
  have htA : ∀ w ∈ AL, w.before _ s = true := fun w h9 => atoms_spec (ws := zs_X6_takeStep) B.pre w (List.mem_cons_of_mem _ h9)
  have hown : s.vm.findClass RX6 = some m.cls := findClass_of_methodNamed B.named
  have hlocks := B.notSynchronized
  have hW : Wd G g ad n a0 s.heap σ s.heap [] := ⟨hP, hD, va_S.rf⟩
  clear hP hD
  have hL158 : ∀ (σ : St) (u1 : Int64) (u3 : Int64) (H : Heap) (locs : List Loc) (ls : Array Slot), Wd G g ad n a0 s.heap σ H locs → lv_has ls 10 [(0, .ref (ad (0))), (1, .long u1), (3, .long u3)] → F_X6_takeStep_L158 n  σ u1 u3 = some x → W p l e (headSpec zs_X6_takeStep ({ frames := 6, cells := 0, slots := 0, locals := 147 } : Room)).room s m ([.ref (ad (0))] : List Value).toArray below meth c H locs 0 0 (MQ below (qV G g ad n a0 x) ([.ref (ad (0))] : List Value).toArray s 0 0 (fun q : Nat => a0 ≤ q)) (F0 m 158 ls []) := by
    intro σ u1 u3 H locs ls hW hl hF
    unfold F_X6_takeStep_L158 at hF
    refine lv_lload_n hx hb dX6_takeStep_158 rfl (lv_at hl 1 rfl) ?_
    refine lv_lload_n hx hb dX6_takeStep_159 rfl (lv_at hl 2 rfl) ?_
    refine lv_ladd hx hb dX6_takeStep_160 ?_
    refine lv_iconst (v := 1) hx hb dX6_takeStep_161 (by decide) ?_
    refine lv_lushr (v := ((Int64.toUInt64 (u1 + u3)) >>> ((Int64.toUInt64 (Int32.toInt64 1)) &&& Int64.toUInt64 63)).toInt64) hx hb dX6_takeStep_162 rfl ?_
    refine lv_lstore (lv' := [(8, .long ((Int64.toUInt64 (u1 + u3)) >>> ((Int64.toUInt64 (Int32.toInt64 1)) &&& Int64.toUInt64 63)).toInt64), (0, .ref (ad (0))), (1, .long u1), (3, .long u3)]) hx hb dX6_takeStep_163 hl (by decide) rfl (fun ls hl => ?_)
    refine lv_aload_n hx hb dX6_takeStep_165 rfl (lv_at hl 1 rfl) ?_
    refine r_get (C := RX6) (T := TX6) (N := 13) hx hb htA ia_X6 hown hK hW (0) (tp_lt (by decide)) (cE_k (rfl : kd 0 = 1)) rfl 8 (by decide) (htA _ aw_211) rfl dX6_takeStep_166 ?_
    refine lv_lload hx hb dX6_takeStep_169 (lv_at hl 0 rfl) ?_
    refine lv_lconst (v := 1) hx hb dX6_takeStep_171 (by decide) ?_
    refine lv_ladd hx hb dX6_takeStep_172 ?_
    refine lv_lload_n hx hb dX6_takeStep_173 rfl (lv_at hl 3 rfl) ?_
    obtain ⟨y17, hy17, hF⟩ := bd_some hF
    refine r_bv (va_runV (As := [.long (((Int64.toUInt64 (u1 + u3)) >>> ((Int64.toUInt64 (Int32.toInt64 1)) &&& Int64.toUInt64 63)).toInt64 + 1), .long u3]) (rest := []) ⟨hx, hb, hml, hown, htA⟩ (m_X4_pile l G g ad n a0 aM σ (((Int64.toUInt64 (u1 + u3)) >>> ((Int64.toUInt64 (Int32.toInt64 1)) &&& Int64.toUInt64 63)).toInt64 + 1) u3 y17  hy17) (cwV 2 htA (gV aw_338 aw_173 aw_174 aw_175 gz_X4_pile) rfl rfl rfl (by decide +kernel) ⟨Nat.le_of_ble_eq_true rfl, Nat.le_of_ble_eq_true rfl⟩) (r_preV hK hW (21) (tp_lt (by decide)) (cE_k (rfl : kd 21 = 6)) rfl [.long (((Int64.toUInt64 (u1 + u3)) >>> ((Int64.toUInt64 (Int32.toInt64 1)) &&& Int64.toUInt64 63)).toInt64 + 1), .long u3]) rfl rfl hl.1 rfl (lv_room (Nat.le_of_ble_eq_true rfl)) dX6_takeStep_174 ⟨Nat.zero_le _, Nat.zero_le _⟩) hW (fun H locs hW => ?_)
    refine lv_aload_n hx hb dX6_takeStep_177 rfl (lv_at hl 1 rfl) ?_
    refine r_get (C := RX6) (T := TX6) (N := 13) hx hb htA ia_X6 hown hK hW (0) (tp_lt (by decide)) (cE_k (rfl : kd 0 = 1)) rfl 8 (by decide) (htA _ aw_211) rfl dX6_takeStep_178 ?_
    refine lv_lload_n hx hb dX6_takeStep_181 rfl (lv_at hl 2 rfl) ?_
    refine lv_lload hx hb dX6_takeStep_182 (lv_at hl 0 rfl) ?_
    obtain ⟨y18, hy18, hF⟩ := bd_some hF
    refine r_bv (va_runV (As := [.long u1, .long ((Int64.toUInt64 (u1 + u3)) >>> ((Int64.toUInt64 (Int32.toInt64 1)) &&& Int64.toUInt64 63)).toInt64]) (rest := []) ⟨hx, hb, hml, hown, htA⟩ (m_X4_pile l G g ad n a0 aM y17 u1 ((Int64.toUInt64 (u1 + u3)) >>> ((Int64.toUInt64 (Int32.toInt64 1)) &&& Int64.toUInt64 63)).toInt64 y18  hy18) (cwV 2 htA (gV aw_338 aw_173 aw_174 aw_175 gz_X4_pile) rfl rfl rfl (by decide +kernel) ⟨Nat.le_of_ble_eq_true rfl, Nat.le_of_ble_eq_true rfl⟩) (r_preV hK hW (21) (tp_lt (by decide)) (cE_k (rfl : kd 21 = 6)) rfl [.long u1, .long ((Int64.toUInt64 (u1 + u3)) >>> ((Int64.toUInt64 (Int32.toInt64 1)) &&& Int64.toUInt64 63)).toInt64]) rfl rfl hl.1 rfl (lv_room (Nat.le_of_ble_eq_true rfl)) dX6_takeStep_184 ⟨Nat.zero_le _, Nat.zero_le _⟩) hW (fun H locs hW => ?_)
    exact r_vret hx hb hr hlocks hW hF dX6_takeStep_187
  have hL132 : ∀ (σ : St) (u1 : Int64) (u3 : Int64) (u5 : Int64) (z0 : Int32) (H : Heap) (locs : List Loc) (ls : Array Slot), Wd G g ad n a0 s.heap σ H locs → lv_has ls 10 [(0, .ref (ad (0))), (1, .long u1), (3, .long u3), (5, .long u5)] → F_X6_takeStep_L132 n  σ u1 u3 u5 z0 = some x → W p l e (headSpec zs_X6_takeStep ({ frames := 6, cells := 0, slots := 0, locals := 147 } : Room)).room s m ([.ref (ad (0))] : List Value).toArray below meth c H locs 0 0 (MQ below (qV G g ad n a0 x) ([.ref (ad (0))] : List Value).toArray s 0 0 (fun q : Nat => a0 ≤ q)) (F0 m 132 ls [.int z0]) := by
    intro σ u1 u3 u5 z0 H locs ls hW hl hF
    unfold F_X6_takeStep_L132 at hF
    refine lv_istore (lv' := [(7, .int z0), (0, .ref (ad (0))), (1, .long u1), (3, .long u3), (5, .long u5)]) hx hb dX6_takeStep_132 hl (by decide) rfl (fun ls hl => ?_)
    refine lv_iload hx hb dX6_takeStep_134 (lv_at hl 0 rfl) ?_
    refine lv_if_eq (tgt := 158) hx hb dX6_takeStep_136 (by decide) (fun hc19 => ?_) (fun hc19 => ?_)
    · replace hF := (if_pos hc19).symm.trans hF
      exact hL158 σ u1 u3 _ _ _  hW (lv_sub hl [1, 2, 3] rfl) hF
    · replace hF := (if_neg hc19).symm.trans hF
      refine lv_aload_n hx hb dX6_takeStep_139 rfl (lv_at hl 1 rfl) ?_
      refine lv_lload hx hb dX6_takeStep_140 (lv_at hl 4 rfl) ?_
      obtain ⟨y20, hy20, hF⟩ := bd_some hF
      refine r_bi (va_runV (As := [.long u5]) (rest := []) ⟨hx, hb, hml, hown, htA⟩ (m_X6_tryId l G g ad n a0 aM σ u5 y20  hy20) (cwV 1 htA (gV aw_334 aw_335 aw_336 aw_52 gz_X6_tryId) rfl rfl rfl (by decide +kernel) ⟨Nat.le_of_ble_eq_true rfl, Nat.le_of_ble_eq_true rfl⟩) (r_preV hK hW (0) (tp_lt (by decide)) (cE_k (rfl : kd 0 = 1)) rfl [.long u5]) rfl rfl hl.1 rfl (lv_room (Nat.le_of_ble_eq_true rfl)) dX6_takeStep_142 ⟨Nat.zero_le _, Nat.zero_le _⟩) hW (fun H locs hW => ?_)
      refine lv_if_eq (tgt := 158) hx hb dX6_takeStep_145 (by decide) (fun hc21 => ?_) (fun hc21 => ?_)
      · replace hF := (if_pos hc21).symm.trans hF
        exact hL158 y20.1 u1 u3 _ _ _  hW (lv_sub hl [1, 2, 3] rfl) hF
      · replace hF := (if_neg hc21).symm.trans hF
        refine lv_aload_n hx hb dX6_takeStep_148 rfl (lv_at hl 1 rfl) ?_
        refine r_get (C := RX6) (T := TX6) (N := 13) hx hb htA ia_X6 hown hK hW (0) (tp_lt (by decide)) (cE_k (rfl : kd 0 = 1)) rfl 8 (by decide) (htA _ aw_211) rfl dX6_takeStep_149 ?_
        refine lv_lload_n hx hb dX6_takeStep_152 rfl (lv_at hl 2 rfl) ?_
        refine lv_lload_n hx hb dX6_takeStep_153 rfl (lv_at hl 3 rfl) ?_
        obtain ⟨y22, hy22, hF⟩ := bd_some hF
        refine r_bv (va_runV (As := [.long u1, .long u3]) (rest := []) ⟨hx, hb, hml, hown, htA⟩ (m_X4_pile l G g ad n a0 aM y20.1 u1 u3 y22  hy22) (cwV 2 htA (gV aw_338 aw_173 aw_174 aw_175 gz_X4_pile) rfl rfl rfl (by decide +kernel) ⟨Nat.le_of_ble_eq_true rfl, Nat.le_of_ble_eq_true rfl⟩) (r_preV hK hW (21) (tp_lt (by decide)) (cE_k (rfl : kd 21 = 6)) rfl [.long u1, .long u3]) rfl rfl hl.1 rfl (lv_room (Nat.le_of_ble_eq_true rfl)) dX6_takeStep_154 ⟨Nat.zero_le _, Nat.zero_le _⟩) hW (fun H locs hW => ?_)
        exact r_vret hx hb hr hlocks hW hF dX6_takeStep_157
  have hL131 : ∀ (σ : St) (u1 : Int64) (u3 : Int64) (u5 : Int64) (H : Heap) (locs : List Loc) (ls : Array Slot), Wd G g ad n a0 s.heap σ H locs → lv_has ls 10 [(0, .ref (ad (0))), (1, .long u1), (3, .long u3), (5, .long u5)] → F_X6_takeStep_L131 n  σ u1 u3 u5 = some x → W p l e (headSpec zs_X6_takeStep ({ frames := 6, cells := 0, slots := 0, locals := 147 } : Room)).room s m ([.ref (ad (0))] : List Value).toArray below meth c H locs 0 0 (MQ below (qV G g ad n a0 x) ([.ref (ad (0))] : List Value).toArray s 0 0 (fun q : Nat => a0 ≤ q)) (F0 m 131 ls []) := by
    intro σ u1 u3 u5 H locs ls hW hl hF
    unfold F_X6_takeStep_L131 at hF
    refine lv_iconst (v := 0) hx hb dX6_takeStep_131 (by decide) ?_
    exact hL132 σ u1 u3 u5 0 _ _ _  hW (lv_sub hl [0, 1, 2, 3] rfl) hF
  have hl := lv_entry ([.ref (ad (0))]) (n := 10) (Nat.le_of_ble_eq_true rfl)
  rw [lg_entry_eq]
  generalize (lg_sl ([.ref (ad (0))]) ++ List.replicate (10 - (lg_sl ([.ref (ad (0))])).length) Slot.unset).toArray = ls at hl ⊢
  have hl : lv_has ls 10 [(0, .ref (ad (0)))] := hl
  unfold F_X6_takeStep at hF
  refine lv_aload_n hx hb dX6_takeStep_0 rfl (lv_at hl 0 rfl) ?_
  refine r_get (C := RX6) (T := TX6) (N := 13) hx hb htA ia_X6 hown hK hW (0) (tp_lt (by decide)) (cE_k (rfl : kd 0 = 1)) rfl 8 (by decide) (htA _ aw_211) rfl dX6_takeStep_1 ?_
  obtain ⟨y23, hy23, hF⟩ := bd_some hF
  refine r_bl (va_runV (As := []) (rest := []) ⟨hx, hb, hml, hown, htA⟩ (m_X4_latestLow l G g ad n a0 aM σ y23  hy23) (cwV 0 htA (gV aw_322 aw_323 aw_324 aw_175 gz_X4_latestLow) rfl rfl rfl (by decide +kernel) ⟨Nat.le_of_ble_eq_true rfl, Nat.le_of_ble_eq_true rfl⟩) (r_preV hK hW (21) (tp_lt (by decide)) (cE_k (rfl : kd 21 = 6)) rfl []) rfl rfl hl.1 rfl (lv_room (Nat.le_of_ble_eq_true rfl)) dX6_takeStep_4 ⟨Nat.zero_le _, Nat.zero_le _⟩) hW (fun H locs hW => ?_)
  refine lv_lstore_n (lv' := [(1, .long y23.2), (0, .ref (ad (0)))]) hx hb dX6_takeStep_7 rfl hl (by decide) rfl (fun ls hl => ?_)
  refine lv_aload_n hx hb dX6_takeStep_8 rfl (lv_at hl 1 rfl) ?_
  refine r_get (C := RX6) (T := TX6) (N := 13) hx hb htA ia_X6 hown hK hW (0) (tp_lt (by decide)) (cE_k (rfl : kd 0 = 1)) rfl 8 (by decide) (htA _ aw_211) rfl dX6_takeStep_9 ?_
  obtain ⟨y24, hy24, hF⟩ := bd_some hF
  refine r_bl (va_runV (As := []) (rest := []) ⟨hx, hb, hml, hown, htA⟩ (m_X4_latestHigh l G g ad n a0 aM y23.1 y24  hy24) (cwV 0 htA (gV aw_326 aw_327 aw_328 aw_175 gz_X4_latestHigh) rfl rfl rfl (by decide +kernel) ⟨Nat.le_of_ble_eq_true rfl, Nat.le_of_ble_eq_true rfl⟩) (r_preV hK hW (21) (tp_lt (by decide)) (cE_k (rfl : kd 21 = 6)) rfl []) rfl rfl hl.1 rfl (lv_room (Nat.le_of_ble_eq_true rfl)) dX6_takeStep_12 ⟨Nat.zero_le _, Nat.zero_le _⟩) hW (fun H locs hW => ?_)
  refine lv_lstore_n (lv' := [(3, .long y24.2), (1, .long y23.2), (0, .ref (ad (0)))]) hx hb dX6_takeStep_15 rfl hl (by decide) rfl (fun ls hl => ?_)
  refine lv_aload_n hx hb dX6_takeStep_16 rfl (lv_at hl 2 rfl) ?_
  refine r_get (C := RX6) (T := TX6) (N := 13) hx hb htA ia_X6 hown hK hW (0) (tp_lt (by decide)) (cE_k (rfl : kd 0 = 1)) rfl 8 (by decide) (htA _ aw_211) rfl dX6_takeStep_17 ?_
  obtain ⟨y25, hy25, hF⟩ := bd_some hF
  refine r_bv (va_runV (As := []) (rest := []) ⟨hx, hb, hml, hown, htA⟩ (m_X4_takeLatest l G g ad n a0 aM y24.1 y25  hy25) (cwV 0 htA (gV aw_330 aw_331 aw_332 aw_175 gz_X4_takeLatest) rfl rfl rfl (by decide +kernel) ⟨Nat.le_of_ble_eq_true rfl, Nat.le_of_ble_eq_true rfl⟩) (r_preV hK hW (21) (tp_lt (by decide)) (cE_k (rfl : kd 21 = 6)) rfl []) rfl rfl hl.1 rfl (lv_room (Nat.le_of_ble_eq_true rfl)) dX6_takeStep_20 ⟨Nat.zero_le _, Nat.zero_le _⟩) hW (fun H locs hW => ?_)
  refine lv_lload_n hx hb dX6_takeStep_23 rfl (lv_at hl 1 rfl) ?_
  refine lv_lload_n hx hb dX6_takeStep_24 rfl (lv_at hl 0 rfl) ?_
  refine W.lcmp hx hb dX6_takeStep_25 ?_
  refine lv_if_ne (tgt := 59) hx hb dX6_takeStep_26 (by decide) (fun hc26 => ?_) (fun hc26 => ?_)
  · replace hF := (if_neg hc26).symm.trans hF
    refine lv_aload_n hx hb dX6_takeStep_59 rfl (lv_at hl 2 rfl) ?_
    refine lv_lload_n hx hb dX6_takeStep_60 rfl (lv_at hl 1 rfl) ?_
    refine lv_lload_n hx hb dX6_takeStep_61 rfl (lv_at hl 0 rfl) ?_
    obtain ⟨y27, hy27, hF⟩ := bd_some hF
    refine r_bv (va_runV (As := [.long y23.2, .long y24.2]) (rest := []) ⟨hx, hb, hml, hown, htA⟩ (m_X6_writeBranchSearch l G g ad n a0 aM y25 y23.2 y24.2 y27  hy27) (cwV 2 htA (gV aw_339 aw_340 aw_341 aw_52 gz_X6_writeBranchSearch) rfl rfl rfl (by decide +kernel) ⟨Nat.le_of_ble_eq_true rfl, Nat.le_of_ble_eq_true rfl⟩) (r_preV hK hW (0) (tp_lt (by decide)) (cE_k (rfl : kd 0 = 1)) rfl [.long y23.2, .long y24.2]) rfl rfl hl.1 rfl (lv_room (Nat.le_of_ble_eq_true rfl)) dX6_takeStep_62 ⟨Nat.zero_le _, Nat.zero_le _⟩) hW (fun H locs hW => ?_)
    refine lv_aload_n hx hb dX6_takeStep_65 rfl (lv_at hl 2 rfl) ?_
    obtain ⟨y28, hy28, hF⟩ := bd_some hF
    refine r_bv (va_runV (As := []) (rest := []) ⟨hx, hb, hml, hown, htA⟩ (m_X6_runFrame l G g ad n a0 aM y27 y28  hy28) (cwV 0 htA (gV aw_272 aw_273 aw_274 aw_52 gz_X6_runFrame) rfl rfl rfl (by decide +kernel) ⟨Nat.le_of_ble_eq_true rfl, Nat.le_of_ble_eq_true rfl⟩) (r_preV hK hW (0) (tp_lt (by decide)) (cE_k (rfl : kd 0 = 1)) rfl []) rfl rfl hl.1 rfl (lv_room (Nat.le_of_ble_eq_true rfl)) dX6_takeStep_66 ⟨Nat.zero_le _, Nat.zero_le _⟩) hW (fun H locs hW => ?_)
    refine lv_aload_n hx hb dX6_takeStep_69 rfl (lv_at hl 2 rfl) ?_
    refine r_get (C := RX6) (T := TX6) (N := 13) hx hb htA ia_X6 hown hK hW (0) (tp_lt (by decide)) (cE_k (rfl : kd 0 = 1)) rfl 3 (by decide) (htA _ aw_200) rfl dX6_takeStep_70 ?_
    obtain ⟨y29, hy29, hF⟩ := bd_some hF
    refine r_bi (va_runV (As := []) (rest := []) ⟨hx, hb, hml, hown, htA⟩ (m_X3_size l G g ad n a0 aM (7) y28 y29 ⟨rfl, rfl⟩ (tp_lt (by decide)) hy29) (cwV 0 htA (gV aw_238 aw_19 aw_20 aw_6 gz_X3_size) rfl rfl rfl (by decide +kernel) ⟨Nat.le_of_ble_eq_true rfl, Nat.le_of_ble_eq_true rfl⟩) (r_preV hK hW (7) (tp_lt (by decide)) (cE_k (rfl : kd 7 = 2)) rfl []) rfl rfl hl.1 rfl (lv_room (Nat.le_of_ble_eq_true rfl)) dX6_takeStep_73 ⟨Nat.zero_le _, Nat.zero_le _⟩) hW (fun H locs hW => ?_)
    refine lv_if_ne (tgt := 80) hx hb dX6_takeStep_76 (by decide) (fun hc30 => ?_) (fun hc30 => ?_)
    · replace hF := (if_neg hc30).symm.trans hF
      refine lv_aload_n hx hb dX6_takeStep_80 rfl (lv_at hl 2 rfl) ?_
      refine r_get (C := RX6) (T := TX6) (N := 13) hx hb htA ia_X6 hown hK hW (0) (tp_lt (by decide)) (cE_k (rfl : kd 0 = 1)) rfl 3 (by decide) (htA _ aw_200) rfl dX6_takeStep_81 ?_
      obtain ⟨y31, hy31, hF⟩ := bd_some hF
      refine r_bl (va_runS (As := [.ref (ad (7))]) (rest := []) ⟨hx, hb, hml, hown, htA⟩ (m_X0_read l G g ad n a0 aM (7) y29.1 y31 ⟨rfl, rfl⟩ (tp_lt (by decide)) hy31) (va_cwS 1 htA (gS aw_343 aw_344 aw_107 gz_X0_read) rfl rfl rfl (by decide +kernel) ⟨Nat.le_of_ble_eq_true rfl, Nat.le_of_ble_eq_true rfl⟩) (r_pre hK hW [.ref (ad (7))]) rfl rfl hl.1 rfl (lv_room (Nat.le_of_ble_eq_true rfl)) dX6_takeStep_84 ⟨Nat.zero_le _, Nat.zero_le _⟩) hW (fun H locs hW => ?_)
      refine lv_lstore (lv' := [(5, .long y31.2), (3, .long y24.2), (1, .long y23.2), (0, .ref (ad (0)))]) hx hb dX6_takeStep_87 hl (by decide) rfl (fun ls hl => ?_)
      refine lv_lload hx hb dX6_takeStep_89 (lv_at hl 0 rfl) ?_
      refine lv_lload_n hx hb dX6_takeStep_91 rfl (lv_at hl 2 rfl) ?_
      refine W.lcmp hx hb dX6_takeStep_92 ?_
      refine lv_if_lt (tgt := 131) hx hb dX6_takeStep_93 (by decide) (fun hc32 => ?_) (fun hc32 => ?_)
      · replace hF := (if_pos hc32).symm.trans hF
        exact hL131 y31.1 y23.2 y24.2 y31.2 _ _ _  hW (lv_sub hl [3, 2, 1, 0] rfl) hF
      · replace hF := (if_neg hc32).symm.trans hF
        refine lv_lload hx hb dX6_takeStep_96 (lv_at hl 0 rfl) ?_
        refine lv_lload_n hx hb dX6_takeStep_98 rfl (lv_at hl 1 rfl) ?_
        refine W.lcmp hx hb dX6_takeStep_99 ?_
        refine lv_if_gt (tgt := 131) hx hb dX6_takeStep_100 (by decide) (fun hc33 => ?_) (fun hc33 => ?_)
        · replace hF := (if_pos hc33).symm.trans hF
          exact hL131 y31.1 y23.2 y24.2 y31.2 _ _ _  hW (lv_sub hl [3, 2, 1, 0] rfl) hF
        · replace hF := (if_neg hc33).symm.trans hF
          refine lv_lload hx hb dX6_takeStep_103 (lv_at hl 0 rfl) ?_
          obtain ⟨y34, hy34, hF⟩ := bd_some hF
          refine r_bl (va_runS (As := [.long y31.2]) (rest := []) ⟨hx, hb, hml, hown, htA⟩ (m_X6_restOf l G g ad n a0 aM y31.1 y31.2 y34  hy34) (va_cwS 1 htA (gS aw_302 aw_79 aw_52 gz_X6_restOf) rfl rfl rfl (by decide +kernel) ⟨Nat.le_of_ble_eq_true rfl, Nat.le_of_ble_eq_true rfl⟩) (r_pre hK hW [.long y31.2]) rfl rfl hl.1 rfl (lv_room (Nat.le_of_ble_eq_true rfl)) dX6_takeStep_105 ⟨Nat.zero_le _, Nat.zero_le _⟩) hW (fun H locs hW => ?_)
          refine lv_ldc2 (v := 4294967295) hx hb hown (htA _ aw_76) dX6_takeStep_108 ?_
          refine W.lcmp hx hb dX6_takeStep_111 ?_
          refine lv_if_eq (tgt := 131) hx hb dX6_takeStep_112 (by decide) (fun hc35 => ?_) (fun hc35 => ?_)
          · replace hF := (if_pos hc35).symm.trans hF
            exact hL131 y34.1 y23.2 y24.2 y31.2 _ _ _  hW (lv_sub hl [3, 2, 1, 0] rfl) hF
          · replace hF := (if_neg hc35).symm.trans hF
            refine lv_aload_n hx hb dX6_takeStep_115 rfl (lv_at hl 3 rfl) ?_
            refine r_get (C := RX6) (T := TX6) (N := 13) hx hb htA ia_X6 hown hK hW (0) (tp_lt (by decide)) (cE_k (rfl : kd 0 = 1)) rfl 8 (by decide) (htA _ aw_211) rfl dX6_takeStep_116 ?_
            refine lv_lload hx hb dX6_takeStep_119 (lv_at hl 0 rfl) ?_
            obtain ⟨y36, hy36, hF⟩ := bd_some hF
            refine r_bi (va_runV (As := [.long y31.2]) (rest := []) ⟨hx, hb, hml, hown, htA⟩ (m_X4_hasFound l G g ad n a0 aM y34.1 y31.2 y36  hy36) (cwV 1 htA (gV aw_346 aw_179 aw_180 aw_175 gz_X4_hasFound) rfl rfl rfl (by decide +kernel) ⟨Nat.le_of_ble_eq_true rfl, Nat.le_of_ble_eq_true rfl⟩) (r_preV hK hW (21) (tp_lt (by decide)) (cE_k (rfl : kd 21 = 6)) rfl [.long y31.2]) rfl rfl hl.1 rfl (lv_room (Nat.le_of_ble_eq_true rfl)) dX6_takeStep_121 ⟨Nat.zero_le _, Nat.zero_le _⟩) hW (fun H locs hW => ?_)
            refine lv_if_ne (tgt := 131) hx hb dX6_takeStep_124 (by decide) (fun hc37 => ?_) (fun hc37 => ?_)
            · replace hF := (if_neg hc37).symm.trans hF
              exact hL131 y36.1 y23.2 y24.2 y31.2 _ _ _  hW (lv_sub hl [3, 2, 1, 0] rfl) hF
            · replace hF := (if_pos hc37).symm.trans hF
              refine lv_iconst (v := 1) hx hb dX6_takeStep_127 (by decide) ?_
              refine lv_goto (tgt := 132) hx hb dX6_takeStep_128 (by decide) ?_
              exact hL132 y36.1 y23.2 y24.2 y31.2 1 _ _ _  hW (lv_sub hl [3, 2, 1, 0] rfl) hF
    · replace hF := (if_pos hc30).symm.trans hF
      exact r_vret hx hb hr hlocks hW hF dX6_takeStep_79
  · replace hF := (if_pos hc26).symm.trans hF
    refine lv_lload_n hx hb dX6_takeStep_29 rfl (lv_at hl 1 rfl) ?_
    obtain ⟨y38, hy38, hF⟩ := bd_some hF
    refine r_bl (va_runS (As := [.long y23.2]) (rest := []) ⟨hx, hb, hml, hown, htA⟩ (m_X6_restOf l G g ad n a0 aM y25 y23.2 y38  hy38) (va_cwS 1 htA (gS aw_302 aw_79 aw_52 gz_X6_restOf) rfl rfl rfl (by decide +kernel) ⟨Nat.le_of_ble_eq_true rfl, Nat.le_of_ble_eq_true rfl⟩) (r_pre hK hW [.long y23.2]) rfl rfl hl.1 rfl (lv_room (Nat.le_of_ble_eq_true rfl)) dX6_takeStep_30 ⟨Nat.zero_le _, Nat.zero_le _⟩) hW (fun H locs hW => ?_)
    refine lv_ldc2 (v := 4294967295) hx hb hown (htA _ aw_76) dX6_takeStep_33 ?_
    refine W.lcmp hx hb dX6_takeStep_36 ?_
    refine lv_if_eq (tgt := 58) hx hb dX6_takeStep_37 (by decide) (fun hc39 => ?_) (fun hc39 => ?_)
    · replace hF := (if_pos hc39).symm.trans hF
      exact r_vret hx hb hr hlocks hW hF dX6_takeStep_58
    · replace hF := (if_neg hc39).symm.trans hF
      refine lv_aload_n hx hb dX6_takeStep_40 rfl (lv_at hl 2 rfl) ?_
      refine lv_lload_n hx hb dX6_takeStep_41 rfl (lv_at hl 1 rfl) ?_
      obtain ⟨y40, hy40, hF⟩ := bd_some hF
      refine r_bi (va_runV (As := [.long y23.2]) (rest := []) ⟨hx, hb, hml, hown, htA⟩ (m_X6_tryId l G g ad n a0 aM y38.1 y23.2 y40  hy40) (cwV 1 htA (gV aw_334 aw_335 aw_336 aw_52 gz_X6_tryId) rfl rfl rfl (by decide +kernel) ⟨Nat.le_of_ble_eq_true rfl, Nat.le_of_ble_eq_true rfl⟩) (r_preV hK hW (0) (tp_lt (by decide)) (cE_k (rfl : kd 0 = 1)) rfl [.long y23.2]) rfl rfl hl.1 rfl (lv_room (Nat.le_of_ble_eq_true rfl)) dX6_takeStep_42 ⟨Nat.zero_le _, Nat.zero_le _⟩) hW (fun H locs hW => ?_)
      refine lv_iconst (v := 2) hx hb dX6_takeStep_45 (by decide) ?_
      refine lv_icmp_ne (tgt := 58) hx hb dX6_takeStep_46 (by decide) (fun hc41 => ?_) (fun hc41 => ?_)
      · replace hF := (if_neg hc41).symm.trans hF
        exact r_vret hx hb hr hlocks hW hF dX6_takeStep_58
      · replace hF := (if_pos hc41).symm.trans hF
        refine lv_aload_n hx hb dX6_takeStep_49 rfl (lv_at hl 2 rfl) ?_
        refine r_get (C := RX6) (T := TX6) (N := 13) hx hb htA ia_X6 hown hK hW (0) (tp_lt (by decide)) (cE_k (rfl : kd 0 = 1)) rfl 8 (by decide) (htA _ aw_211) rfl dX6_takeStep_50 ?_
        refine lv_lload_n hx hb dX6_takeStep_53 rfl (lv_at hl 1 rfl) ?_
        refine lv_lload_n hx hb dX6_takeStep_54 rfl (lv_at hl 0 rfl) ?_
        obtain ⟨y42, hy42, hF⟩ := bd_some hF
        refine r_bv (va_runV (As := [.long y23.2, .long y24.2]) (rest := []) ⟨hx, hb, hml, hown, htA⟩ (m_X4_pile l G g ad n a0 aM y40.1 y23.2 y24.2 y42  hy42) (cwV 2 htA (gV aw_338 aw_173 aw_174 aw_175 gz_X4_pile) rfl rfl rfl (by decide +kernel) ⟨Nat.le_of_ble_eq_true rfl, Nat.le_of_ble_eq_true rfl⟩) (r_preV hK hW (21) (tp_lt (by decide)) (cE_k (rfl : kd 21 = 6)) rfl [.long y23.2, .long y24.2]) rfl rfl hl.1 rfl (lv_room (Nat.le_of_ble_eq_true rfl)) dX6_takeStep_55 ⟨Nat.zero_le _, Nat.zero_le _⟩) hW (fun H locs hW => ?_)
        exact r_vret hx hb hr hlocks hW hF dX6_takeStep_58
def F_X6_send (n : Nat) (σ : St) : Option (St × Int32) := (F_X3_copyFrom (3) (1) σ).bind (fun y5 => (F_X3_cut (1) y5 0).bind (fun y6 => (F_X6_runFrame n y6).bind (fun y7 => (F_X3_size (7) y7).bind (fun y8 => some (y8.1, y8.2)))))
set_option maxHeartbeats 4000000 in
set_option maxRecDepth 100000 in
theorem m_X6_send (l : Launch) (G : va_G) (g : Nat → ClassId) (ad : Nat → Nat) (n a0 aM : Nat) (σ : St) (x : St × Int32) (hF : F_X6_send n σ = some x) : Met l yX6_send zs_X6_send ({ frames := 5, cells := 0, slots := 0, locals := 125 } : Room) (va_Pc [.ref (ad (0))] (wP G g ad n a0 aM σ)) (qI G g ad n a0 x) 0 0 (fun q : Nat => a0 ≤ q) := by
  refine Met.ofW (cc := cX6_send) (maxL := 1) (ret := (some .int)) (by decide) rfl ?_
  intro p e s m args below meth c s₁ B hml hv
  obtain ⟨rfl, hP, hD, hK⟩ := hv
  have hx := B.exec
  have hb := B.bytes
  have hr := B.returns
  have htA : ∀ w ∈ AL, w.before _ s = true := fun w h9 => atoms_spec (ws := zs_X6_send) B.pre w (List.mem_cons_of_mem _ h9)
  have hown : s.vm.findClass RX6 = some m.cls := findClass_of_methodNamed B.named
  have hlocks := B.notSynchronized
  have hW : Wd G g ad n a0 s.heap σ s.heap [] := ⟨hP, hD, va_S.rf⟩
  clear hP hD
  have hl := lv_entry ([.ref (ad (0))]) (n := 1) (Nat.le_of_ble_eq_true rfl)
  rw [lg_entry_eq]
  generalize (lg_sl ([.ref (ad (0))]) ++ List.replicate (1 - (lg_sl ([.ref (ad (0))])).length) Slot.unset).toArray = ls at hl ⊢
  have hl : lv_has ls 1 [(0, .ref (ad (0)))] := hl
  unfold F_X6_send at hF
  refine lv_aload_n hx hb dX6_send_0 rfl (lv_at hl 0 rfl) ?_
  refine r_get (C := RX6) (T := TX6) (N := 13) hx hb htA ia_X6 hown hK hW (0) (tp_lt (by decide)) (cE_k (rfl : kd 0 = 1)) rfl 1 (by decide) (htA _ aw_198) rfl dX6_send_1 ?_
  refine lv_aload_n hx hb dX6_send_4 rfl (lv_at hl 0 rfl) ?_
  refine r_get (C := RX6) (T := TX6) (N := 13) hx hb htA ia_X6 hown hK hW (0) (tp_lt (by decide)) (cE_k (rfl : kd 0 = 1)) rfl 0 (by decide) (htA _ aw_197) rfl dX6_send_5 ?_
  obtain ⟨y5, hy5, hF⟩ := bd_some hF
  refine r_bv (va_runV (As := [.ref (ad (1))]) (rest := []) ⟨hx, hb, hml, hown, htA⟩ (m_X3_copyFrom l G g ad n a0 aM (3) (1) σ y5 ⟨rfl, rfl⟩ (tp_lt (by decide)) ⟨rfl, rfl⟩ (tp_lt (by decide)) hy5) (cwV 1 htA (gV aw_271 aw_68 aw_69 aw_6 gz_X3_copyFrom) rfl rfl rfl (by decide +kernel) ⟨Nat.le_of_ble_eq_true rfl, Nat.le_of_ble_eq_true rfl⟩) (r_preV hK hW (3) (tp_lt (by decide)) (cE_k (rfl : kd 3 = 2)) rfl [.ref (ad (1))]) rfl rfl hl.1 rfl (lv_room (Nat.le_of_ble_eq_true rfl)) dX6_send_8 ⟨Nat.zero_le _, Nat.zero_le _⟩) hW (fun H locs hW => ?_)
  refine lv_aload_n hx hb dX6_send_11 rfl (lv_at hl 0 rfl) ?_
  refine r_get (C := RX6) (T := TX6) (N := 13) hx hb htA ia_X6 hown hK hW (0) (tp_lt (by decide)) (cE_k (rfl : kd 0 = 1)) rfl 0 (by decide) (htA _ aw_197) rfl dX6_send_12 ?_
  refine lv_iconst (v := 0) hx hb dX6_send_15 (by decide) ?_
  obtain ⟨y6, hy6, hF⟩ := bd_some hF
  refine r_bv (va_runV (As := [.int 0]) (rest := []) ⟨hx, hb, hml, hown, htA⟩ (m_X3_cut l G g ad n a0 aM (1) y5 0 y6 ⟨rfl, rfl⟩ (tp_lt (by decide)) hy6) (cwV 1 htA (gV aw_240 aw_4 aw_5 aw_6 gz_X3_cut) rfl rfl rfl (by decide +kernel) ⟨Nat.le_of_ble_eq_true rfl, Nat.le_of_ble_eq_true rfl⟩) (r_preV hK hW (1) (tp_lt (by decide)) (cE_k (rfl : kd 1 = 2)) rfl [.int 0]) rfl rfl hl.1 rfl (lv_room (Nat.le_of_ble_eq_true rfl)) dX6_send_16 ⟨Nat.zero_le _, Nat.zero_le _⟩) hW (fun H locs hW => ?_)
  refine lv_aload_n hx hb dX6_send_19 rfl (lv_at hl 0 rfl) ?_
  obtain ⟨y7, hy7, hF⟩ := bd_some hF
  refine r_bv (va_runV (As := []) (rest := []) ⟨hx, hb, hml, hown, htA⟩ (m_X6_runFrame l G g ad n a0 aM y6 y7  hy7) (cwV 0 htA (gV aw_272 aw_273 aw_274 aw_52 gz_X6_runFrame) rfl rfl rfl (by decide +kernel) ⟨Nat.le_of_ble_eq_true rfl, Nat.le_of_ble_eq_true rfl⟩) (r_preV hK hW (0) (tp_lt (by decide)) (cE_k (rfl : kd 0 = 1)) rfl []) rfl rfl hl.1 rfl (lv_room (Nat.le_of_ble_eq_true rfl)) dX6_send_20 ⟨Nat.zero_le _, Nat.zero_le _⟩) hW (fun H locs hW => ?_)
  refine lv_aload_n hx hb dX6_send_23 rfl (lv_at hl 0 rfl) ?_
  refine r_get (C := RX6) (T := TX6) (N := 13) hx hb htA ia_X6 hown hK hW (0) (tp_lt (by decide)) (cE_k (rfl : kd 0 = 1)) rfl 3 (by decide) (htA _ aw_200) rfl dX6_send_24 ?_
  obtain ⟨y8, hy8, hF⟩ := bd_some hF
  refine r_bi (va_runV (As := []) (rest := []) ⟨hx, hb, hml, hown, htA⟩ (m_X3_size l G g ad n a0 aM (7) y7 y8 ⟨rfl, rfl⟩ (tp_lt (by decide)) hy8) (cwV 0 htA (gV aw_238 aw_19 aw_20 aw_6 gz_X3_size) rfl rfl rfl (by decide +kernel) ⟨Nat.le_of_ble_eq_true rfl, Nat.le_of_ble_eq_true rfl⟩) (r_preV hK hW (7) (tp_lt (by decide)) (cE_k (rfl : kd 7 = 2)) rfl []) rfl rfl hl.1 rfl (lv_room (Nat.le_of_ble_eq_true rfl)) dX6_send_27 ⟨Nat.zero_le _, Nat.zero_le _⟩) hW (fun H locs hW => ?_)
  exact r_iret hx hb hr hlocks hW hF dX6_send_30
def F_X6_search (n : Nat) (σ : St) : Option (St × Int32) := (F_X4_begin σ).bind (fun y4 => (F_X6_writeSearch y4 281474976710655 3).bind (fun y5 => (F_X6_runFrame n y5).bind (fun y6 => some (y6, (y6.1 (21) 4)))))
set_option maxHeartbeats 4000000 in
set_option maxRecDepth 100000 in
theorem m_X6_search (l : Launch) (G : va_G) (g : Nat → ClassId) (ad : Nat → Nat) (n a0 aM : Nat) (σ : St) (x : St × Int32) (hF : F_X6_search n σ = some x) : Met l yX6_search zs_X6_search ({ frames := 5, cells := 0, slots := 0, locals := 125 } : Room) (va_Pc [.ref (ad (0))] (wP G g ad n a0 aM σ)) (qI G g ad n a0 x) 0 0 (fun q : Nat => a0 ≤ q) := by
  refine Met.ofW (cc := cX6_search) (maxL := 1) (ret := (some .int)) (by decide) rfl ?_
  intro p e s m args below meth c s₁ B hml hv
  obtain ⟨rfl, hP, hD, hK⟩ := hv
  have hx := B.exec
  have hb := B.bytes
  have hr := B.returns
  have htA : ∀ w ∈ AL, w.before _ s = true := fun w h9 => atoms_spec (ws := zs_X6_search) B.pre w (List.mem_cons_of_mem _ h9)
  have hown : s.vm.findClass RX6 = some m.cls := findClass_of_methodNamed B.named
  have hlocks := B.notSynchronized
  have hW : Wd G g ad n a0 s.heap σ s.heap [] := ⟨hP, hD, va_S.rf⟩
  clear hP hD
  have hl := lv_entry ([.ref (ad (0))]) (n := 1) (Nat.le_of_ble_eq_true rfl)
  rw [lg_entry_eq]
  generalize (lg_sl ([.ref (ad (0))]) ++ List.replicate (1 - (lg_sl ([.ref (ad (0))])).length) Slot.unset).toArray = ls at hl ⊢
  have hl : lv_has ls 1 [(0, .ref (ad (0)))] := hl
  unfold F_X6_search at hF
  refine lv_aload_n hx hb dX6_search_0 rfl (lv_at hl 0 rfl) ?_
  refine r_get (C := RX6) (T := TX6) (N := 13) hx hb htA ia_X6 hown hK hW (0) (tp_lt (by decide)) (cE_k (rfl : kd 0 = 1)) rfl 8 (by decide) (htA _ aw_211) rfl dX6_search_1 ?_
  obtain ⟨y4, hy4, hF⟩ := bd_some hF
  refine r_bv (va_runV (As := []) (rest := []) ⟨hx, hb, hml, hown, htA⟩ (m_X4_begin l G g ad n a0 aM σ y4  hy4) (cwV 0 htA (gV aw_310 aw_311 aw_312 aw_175 gz_X4_begin) rfl rfl rfl (by decide +kernel) ⟨Nat.le_of_ble_eq_true rfl, Nat.le_of_ble_eq_true rfl⟩) (r_preV hK hW (21) (tp_lt (by decide)) (cE_k (rfl : kd 21 = 6)) rfl []) rfl rfl hl.1 rfl (lv_room (Nat.le_of_ble_eq_true rfl)) dX6_search_4 ⟨Nat.zero_le _, Nat.zero_le _⟩) hW (fun H locs hW => ?_)
  refine lv_aload_n hx hb dX6_search_7 rfl (lv_at hl 0 rfl) ?_
  refine lv_ldc2 (v := 281474976710655) hx hb hown (htA _ aw_309) dX6_search_8 ?_
  refine lv_iconst (v := 3) hx hb dX6_search_11 (by decide) ?_
  obtain ⟨y5, hy5, hF⟩ := bd_some hF
  refine r_bv (va_runV (As := [.long 281474976710655, .int 3]) (rest := []) ⟨hx, hb, hml, hown, htA⟩ (m_X6_writeSearch l G g ad n a0 aM y4 281474976710655 3 y5  hy5) (cwV 2 htA (gV aw_314 aw_315 aw_316 aw_52 gz_X6_writeSearch) rfl rfl rfl (by decide +kernel) ⟨Nat.le_of_ble_eq_true rfl, Nat.le_of_ble_eq_true rfl⟩) (r_preV hK hW (0) (tp_lt (by decide)) (cE_k (rfl : kd 0 = 1)) rfl [.long 281474976710655, .int 3]) rfl rfl hl.1 rfl (lv_room (Nat.le_of_ble_eq_true rfl)) dX6_search_12 ⟨Nat.zero_le _, Nat.zero_le _⟩) hW (fun H locs hW => ?_)
  refine lv_aload_n hx hb dX6_search_15 rfl (lv_at hl 0 rfl) ?_
  obtain ⟨y6, hy6, hF⟩ := bd_some hF
  refine r_bv (va_runV (As := []) (rest := []) ⟨hx, hb, hml, hown, htA⟩ (m_X6_runFrame l G g ad n a0 aM y5 y6  hy6) (cwV 0 htA (gV aw_272 aw_273 aw_274 aw_52 gz_X6_runFrame) rfl rfl rfl (by decide +kernel) ⟨Nat.le_of_ble_eq_true rfl, Nat.le_of_ble_eq_true rfl⟩) (r_preV hK hW (0) (tp_lt (by decide)) (cE_k (rfl : kd 0 = 1)) rfl []) rfl rfl hl.1 rfl (lv_room (Nat.le_of_ble_eq_true rfl)) dX6_search_16 ⟨Nat.zero_le _, Nat.zero_le _⟩) hW (fun H locs hW => ?_)
  refine lv_aload_n hx hb dX6_search_19 rfl (lv_at hl 0 rfl) ?_
  refine r_get (C := RX6) (T := TX6) (N := 13) hx hb htA ia_X6 hown hK hW (0) (tp_lt (by decide)) (cE_k (rfl : kd 0 = 1)) rfl 8 (by decide) (htA _ aw_211) rfl dX6_search_20 ?_
  refine r_getN (C := RX4) (T := TX4) (N := 7) hx hb htA ia_X4 hown hK hW (21) (tp_lt (by decide)) (cE_k (rfl : kd 21 = 6)) rfl 4 (by decide) (hK.nest (w := .fieldLinkNest RX6 210 "LampLine$Search" "depth" "I" "LampLine") (by decide +kernel)) rfl dX6_search_23 ?_
  exact r_iret hx hb hr hlocks hW hF dX6_search_26
def F_X6_frames (σ : St) : Option (St × Int32) := some (σ, (σ.1 (0) 11))
set_option maxHeartbeats 4000000 in
set_option maxRecDepth 100000 in
theorem m_X6_frames (l : Launch) (G : va_G) (g : Nat → ClassId) (ad : Nat → Nat) (n a0 aM : Nat) (σ : St) (x : St × Int32) (hF : F_X6_frames σ = some x) : Met l yX6_frames zs_X6_frames ({ frames := 0, cells := 0, slots := 0, locals := 0 } : Room) (va_Pc [.ref (ad (0))] (wP G g ad n a0 aM σ)) (qI G g ad n a0 x) 0 0 (fun q : Nat => a0 ≤ q) := by
  refine Met.ofW (cc := cX6_frames) (maxL := 1) (ret := (some .int)) (by decide) rfl ?_
  intro p e s m args below meth c s₁ B hml hv
  obtain ⟨rfl, hP, hD, hK⟩ := hv
  have hx := B.exec
  have hb := B.bytes
  have hr := B.returns
  have htA : ∀ w ∈ AL, w.before _ s = true := fun w h9 => atoms_spec (ws := zs_X6_frames) B.pre w (List.mem_cons_of_mem _ h9)
  have hown : s.vm.findClass RX6 = some m.cls := findClass_of_methodNamed B.named
  have hlocks := B.notSynchronized
  have hW : Wd G g ad n a0 s.heap σ s.heap [] := ⟨hP, hD, va_S.rf⟩
  clear hP hD
  have hl := lv_entry ([.ref (ad (0))]) (n := 1) (Nat.le_of_ble_eq_true rfl)
  rw [lg_entry_eq]
  generalize (lg_sl ([.ref (ad (0))]) ++ List.replicate (1 - (lg_sl ([.ref (ad (0))])).length) Slot.unset).toArray = ls at hl ⊢
  have hl : lv_has ls 1 [(0, .ref (ad (0)))] := hl
  unfold F_X6_frames at hF
  refine lv_aload_n hx hb dX6_frames_0 rfl (lv_at hl 0 rfl) ?_
  refine r_get (C := RX6) (T := TX6) (N := 13) hx hb htA ia_X6 hown hK hW (0) (tp_lt (by decide)) (cE_k (rfl : kd 0 = 1)) rfl 11 (by decide) (htA _ aw_241) rfl dX6_frames_1 ?_
  exact r_iret hx hb hr hlocks hW hF dX6_frames_4
def F_X6_found (σ : St) : Option (St × Int32) := some (σ, (σ.1 (21) 5))
set_option maxHeartbeats 4000000 in
set_option maxRecDepth 100000 in
theorem m_X6_found (l : Launch) (G : va_G) (g : Nat → ClassId) (ad : Nat → Nat) (n a0 aM : Nat) (σ : St) (x : St × Int32) (hF : F_X6_found σ = some x) : Met l yX6_found zs_X6_found ({ frames := 0, cells := 0, slots := 0, locals := 0 } : Room) (va_Pc [.ref (ad (0))] (wP G g ad n a0 aM σ)) (qI G g ad n a0 x) 0 0 (fun q : Nat => a0 ≤ q) := by
  refine Met.ofW (cc := cX6_found) (maxL := 1) (ret := (some .int)) (by decide) rfl ?_
  intro p e s m args below meth c s₁ B hml hv
  obtain ⟨rfl, hP, hD, hK⟩ := hv
  have hx := B.exec
  have hb := B.bytes
  have hr := B.returns
  have htA : ∀ w ∈ AL, w.before _ s = true := fun w h9 => atoms_spec (ws := zs_X6_found) B.pre w (List.mem_cons_of_mem _ h9)
  have hown : s.vm.findClass RX6 = some m.cls := findClass_of_methodNamed B.named
  have hlocks := B.notSynchronized
  have hW : Wd G g ad n a0 s.heap σ s.heap [] := ⟨hP, hD, va_S.rf⟩
  clear hP hD
  have hl := lv_entry ([.ref (ad (0))]) (n := 1) (Nat.le_of_ble_eq_true rfl)
  rw [lg_entry_eq]
  generalize (lg_sl ([.ref (ad (0))]) ++ List.replicate (1 - (lg_sl ([.ref (ad (0))])).length) Slot.unset).toArray = ls at hl ⊢
  have hl : lv_has ls 1 [(0, .ref (ad (0)))] := hl
  unfold F_X6_found at hF
  refine lv_aload_n hx hb dX6_found_0 rfl (lv_at hl 0 rfl) ?_
  refine r_get (C := RX6) (T := TX6) (N := 13) hx hb htA ia_X6 hown hK hW (0) (tp_lt (by decide)) (cE_k (rfl : kd 0 = 1)) rfl 8 (by decide) (htA _ aw_211) rfl dX6_found_1 ?_
  refine r_getN (C := RX4) (T := TX4) (N := 7) hx hb htA ia_X4 hown hK hW (21) (tp_lt (by decide)) (cE_k (rfl : kd 21 = 6)) rfl 5 (by decide) (hK.nest (w := .fieldLinkNest RX6 223 "LampLine$Search" "foundCount" "I" "LampLine") (by decide +kernel)) rfl dX6_found_4 ?_
  exact r_iret hx hb hr hlocks hW hF dX6_found_7
