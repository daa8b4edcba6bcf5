def F_lc_0 (xs : Nat → Int32) (x4 : Int32) (n : Nat) (σ : St) : Option (Nat × St) := (F_L_lamp n σ (xs (Int32.toNatClampNeg (x4 + 1))) (((Int32.toInt64 (xs (Int32.toNatClampNeg (x4 + 2)))) <<< ((Int32.toInt64 32) &&& 63)) ||| ((Int32.toInt64 (xs (Int32.toNatClampNeg (x4 + 3)))) &&& 4294967295)) (xs (Int32.toNatClampNeg (x4 + 4))) (xs (Int32.toNatClampNeg (x4 + 5))) (xs (Int32.toNatClampNeg (x4 + 6)))).bind (fun y1 => (F_X7_lamp y1.1 (xs (Int32.toNatClampNeg (x4 + 1))) (((Int32.toInt64 (xs (Int32.toNatClampNeg (x4 + 2)))) <<< ((Int32.toInt64 32) &&& 63)) ||| ((Int32.toInt64 (xs (Int32.toNatClampNeg (x4 + 3)))) &&& 4294967295)) (xs (Int32.toNatClampNeg (x4 + 4))) (xs (Int32.toNatClampNeg (x4 + 5))) (xs (Int32.toNatClampNeg (x4 + 6)))).bind (fun y2 => (F_X7_thrown y2.1).bind (fun y3 => if y3.2 = y1.2 then if y1.2 = 0 then gd (ib 0 (ln (26))) (if (lg_cmp (y3.1.2 (26) (Int32.toNatClampNeg 0)) (Int32.toInt64 y2.2)) = 0 then some ((if y1.2 = 0 then n + 1 else n), y3.1) else none) else some ((if y1.2 = 0 then n + 1 else n), y3.1) else none)))
set_option maxHeartbeats 4000000 in
set_option maxRecDepth 100000 in
theorem lc_0 {p : Program} {e : Env} {s : State} {m : MethodId} {below : List Frame} {meth : Method} {c : Code} (l : Launch) (hst : l.stackTraces = false) {b L : Nat} {xs : Nat → Int32} (C0 : lw_At p s m meth c b L xs) (htA : ∀ w ∈ AL, w.before #[Value.ref b] s = true) {G : va_G} {g : Nat → ClassId} {ad : Nat → Nat} {aM n cells slots : Nat} {σ : St} {H : Heap} {locs : List Loc} {ls : Array Slot} {x4 : Int32} (hK : wK G g s.heap.size aM s) (hW : Wd G g ad n s.heap.size s.heap σ H locs) (hl : lv_has ls 8 [(0, .ref b), (1, .ref (ad (0))), (2, .ref (ad (27))), (3, .ref (ad (26))), (4, .int x4)]) (hs : ∀ j : Nat, j < 7 → vp_in (x4 + nI j) L) (hC : cells + 12 ≤ room_1.cells) (hSl : slots + 669 ≤ room_1.slots) {z : Nat × St} (hF : F_lc_0 xs x4 n σ = some z)
    (kk : ∀ (ad : Nat → Nat) (H : Heap) (locs : List Loc) (ls : Array Slot), Wd G g ad z.1 s.heap.size s.heap z.2 H locs → lv_has ls 8 [(0, .ref b), (1, .ref (ad (0))), (2, .ref (ad (27))), (3, .ref (ad (26))), (4, .int x4)] → W p l e room_1 s m #[Value.ref b] below meth c H locs (cells + 12) (slots + 669) (lw_Z below #[Value.ref b] s) (F0 m 1209 ls [])) : W p l e room_1 s m #[Value.ref b] below meth c H locs cells slots (lw_Z below #[Value.ref b] s) (F0 m 128 ls []) := by
  obtain ⟨hx, hb, hr, hml, hown, -, hX, hbl, hlocks, -⟩ := C0
  have hbA : ¬ (fun q : Nat => s.heap.size ≤ q) b := Nat.not_le.mpr hbl
  unfold F_lc_0 at hF
  refine lv_aload_n hx hb dL_law_128 rfl (lv_at hl 1 rfl) ?_
  refine lv_aload_n hx hb dL_law_129 rfl (lv_at hl 0 rfl) ?_
  refine lv_iload hx hb dL_law_130 (lv_at hl 4 rfl) ?_
  refine lv_iconst (v := 1) hx hb dL_law_132 (by decide) ?_
  refine lv_iadd hx hb dL_law_133 ?_
  refine va_sld hx hb hX hbl hbA hW.2.2 (show vp_in (x4 + 1) L from hs 1 (by decide)) dL_law_134 ?_
  refine lv_aload_n hx hb dL_law_135 rfl (lv_at hl 0 rfl) ?_
  refine lv_iload hx hb dL_law_136 (lv_at hl 4 rfl) ?_
  refine lv_iconst (v := 2) hx hb dL_law_138 (by decide) ?_
  refine lv_iadd hx hb dL_law_139 ?_
  refine va_sld hx hb hX hbl hbA hW.2.2 (show vp_in (x4 + 2) L from hs 2 (by decide)) dL_law_140 ?_
  refine lv_i2l (v := (Int32.toInt64 (xs (Int32.toNatClampNeg (x4 + 2))))) hx hb dL_law_141 rfl ?_
  refine lv_bipush (v := 32) hx hb dL_law_142 (by decide) ?_
  refine lv_lshl (v := ((Int32.toInt64 (xs (Int32.toNatClampNeg (x4 + 2)))) <<< ((Int32.toInt64 32) &&& 63))) hx hb dL_law_144 rfl ?_
  refine lv_aload_n hx hb dL_law_145 rfl (lv_at hl 0 rfl) ?_
  refine lv_iload hx hb dL_law_146 (lv_at hl 4 rfl) ?_
  refine lv_iconst (v := 3) hx hb dL_law_148 (by decide) ?_
  refine lv_iadd hx hb dL_law_149 ?_
  refine va_sld hx hb hX hbl hbA hW.2.2 (show vp_in (x4 + 3) L from hs 3 (by decide)) dL_law_150 ?_
  refine lv_i2l (v := (Int32.toInt64 (xs (Int32.toNatClampNeg (x4 + 3))))) hx hb dL_law_151 rfl ?_
  refine lv_ldc2 (v := 4294967295) hx hb hown (htA _ aw_648) dL_law_152 ?_
  refine lv_land hx hb dL_law_155 ?_
  refine lv_lor hx hb dL_law_156 ?_
  refine lv_aload_n hx hb dL_law_157 rfl (lv_at hl 0 rfl) ?_
  refine lv_iload hx hb dL_law_158 (lv_at hl 4 rfl) ?_
  refine lv_iconst (v := 4) hx hb dL_law_160 (by decide) ?_
  refine lv_iadd hx hb dL_law_161 ?_
  refine va_sld hx hb hX hbl hbA hW.2.2 (show vp_in (x4 + 4) L from hs 4 (by decide)) dL_law_162 ?_
  refine lv_aload_n hx hb dL_law_163 rfl (lv_at hl 0 rfl) ?_
  refine lv_iload hx hb dL_law_164 (lv_at hl 4 rfl) ?_
  refine lv_iconst (v := 5) hx hb dL_law_166 (by decide) ?_
  refine lv_iadd hx hb dL_law_167 ?_
  refine va_sld hx hb hX hbl hbA hW.2.2 (show vp_in (x4 + 5) L from hs 5 (by decide)) dL_law_168 ?_
  refine lv_aload_n hx hb dL_law_169 rfl (lv_at hl 0 rfl) ?_
  refine lv_iload hx hb dL_law_170 (lv_at hl 4 rfl) ?_
  refine lv_bipush (v := 6) hx hb dL_law_172 (by decide) ?_
  refine lv_iadd hx hb dL_law_174 ?_
  refine va_sld hx hb hX hbl hbA hW.2.2 (show vp_in (x4 + 6) L from hs 6 (by decide)) dL_law_175 ?_
  refine lv_aload_n hx hb dL_law_176 rfl (lv_at hl 3 rfl) ?_
  obtain ⟨y1, hy1, hF⟩ := bd_some hF
  refine rh_bL (vx_runSX (As := [.ref (ad (0)), .int (xs (Int32.toNatClampNeg (x4 + 1))), .long (((Int32.toInt64 (xs (Int32.toNatClampNeg (x4 + 2)))) <<< ((Int32.toInt64 32) &&& 63)) ||| ((Int32.toInt64 (xs (Int32.toNatClampNeg (x4 + 3)))) &&& 4294967295)), .int (xs (Int32.toNatClampNeg (x4 + 4))), .int (xs (Int32.toNatClampNeg (x4 + 5))), .int (xs (Int32.toNatClampNeg (x4 + 6))), .ref (ad (26))]) (rest := []) ⟨hx, hb, hml, hown, htA⟩ (m_L_lamp l hst G g ad n s.heap.size aM σ (xs (Int32.toNatClampNeg (x4 + 1))) (((Int32.toInt64 (xs (Int32.toNatClampNeg (x4 + 2)))) <<< ((Int32.toInt64 32) &&& 63)) ||| ((Int32.toInt64 (xs (Int32.toNatClampNeg (x4 + 3)))) &&& 4294967295)) (xs (Int32.toNatClampNeg (x4 + 4))) (xs (Int32.toNatClampNeg (x4 + 5))) (xs (Int32.toNatClampNeg (x4 + 6))) y1 hy1) (vx_cwSW 7 htA (gS aw_655 aw_656 aw_657 gz_L_lamp) rfl rfl rfl (by decide +kernel) ⟨Nat.le_of_ble_eq_true rfl, Nat.le_of_ble_eq_true rfl⟩) (r_pre hK hW [.ref (ad (0)), .int (xs (Int32.toNatClampNeg (x4 + 1))), .long (((Int32.toInt64 (xs (Int32.toNatClampNeg (x4 + 2)))) <<< ((Int32.toInt64 32) &&& 63)) ||| ((Int32.toInt64 (xs (Int32.toNatClampNeg (x4 + 3)))) &&& 4294967295)), .int (xs (Int32.toNatClampNeg (x4 + 4))), .int (xs (Int32.toNatClampNeg (x4 + 5))), .int (xs (Int32.toNatClampNeg (x4 + 6))), .ref (ad (26))]) rfl rfl hl.1 rfl (lv_room (Nat.le_of_ble_eq_true rfl)) dL_law_177 ⟨by omega, by omega⟩) hW (fun ad1 H locs had hW => ?_)
  have hl : lv_has ls 8 [(0, .ref b), (1, .ref (ad1 (0))), (2, .ref (ad1 (27))), (3, .ref (ad1 (26))), (4, .int x4)] := by rw [had 0 (tp_lt (by decide)), had 26 (tp_lt (by decide)), had 27 (tp_lt (by decide))]; exact hl
  clear had
  generalize (if y1.2 = 0 then n + 1 else n) = n1 at hW hF
  generalize ad1 = ad at hW hl
  refine lv_istore (lv' := [(5, .int y1.2), (0, .ref b), (1, .ref (ad (0))), (2, .ref (ad (27))), (3, .ref (ad (26))), (4, .int x4)]) hx hb dL_law_180 hl (by decide) rfl (fun ls hl => ?_)
  refine lv_aload_n hx hb dL_law_182 rfl (lv_at hl 3 rfl) ?_
  refine lv_aload_n hx hb dL_law_183 rfl (lv_at hl 1 rfl) ?_
  refine lv_iload hx hb dL_law_184 (lv_at hl 5 rfl) ?_
  refine lv_iconst (v := 1) hx hb dL_law_186 (by decide) ?_
  refine lv_iadd hx hb dL_law_187 ?_
  refine va_sld hx hb hX hbl hbA hW.2.2 (show vp_in (x4 + 1) L from hs 1 (by decide)) dL_law_188 ?_
  refine lv_aload_n hx hb dL_law_189 rfl (lv_at hl 1 rfl) ?_
  refine lv_iload hx hb dL_law_190 (lv_at hl 5 rfl) ?_
  refine lv_iconst (v := 2) hx hb dL_law_192 (by decide) ?_
  refine lv_iadd hx hb dL_law_193 ?_
  refine va_sld hx hb hX hbl hbA hW.2.2 (show vp_in (x4 + 2) L from hs 2 (by decide)) dL_law_194 ?_
  refine lv_i2l (v := (Int32.toInt64 (xs (Int32.toNatClampNeg (x4 + 2))))) hx hb dL_law_195 rfl ?_
  refine lv_bipush (v := 32) hx hb dL_law_196 (by decide) ?_
  refine lv_lshl (v := ((Int32.toInt64 (xs (Int32.toNatClampNeg (x4 + 2)))) <<< ((Int32.toInt64 32) &&& 63))) hx hb dL_law_198 rfl ?_
  refine lv_aload_n hx hb dL_law_199 rfl (lv_at hl 1 rfl) ?_
  refine lv_iload hx hb dL_law_200 (lv_at hl 5 rfl) ?_
  refine lv_iconst (v := 3) hx hb dL_law_202 (by decide) ?_
  refine lv_iadd hx hb dL_law_203 ?_
  refine va_sld hx hb hX hbl hbA hW.2.2 (show vp_in (x4 + 3) L from hs 3 (by decide)) dL_law_204 ?_
  refine lv_i2l (v := (Int32.toInt64 (xs (Int32.toNatClampNeg (x4 + 3))))) hx hb dL_law_205 rfl ?_
  refine lv_ldc2 (v := 4294967295) hx hb hown (htA _ aw_648) dL_law_206 ?_
  refine lv_land hx hb dL_law_209 ?_
  refine lv_lor hx hb dL_law_210 ?_
  refine lv_aload_n hx hb dL_law_211 rfl (lv_at hl 1 rfl) ?_
  refine lv_iload hx hb dL_law_212 (lv_at hl 5 rfl) ?_
  refine lv_iconst (v := 4) hx hb dL_law_214 (by decide) ?_
  refine lv_iadd hx hb dL_law_215 ?_
  refine va_sld hx hb hX hbl hbA hW.2.2 (show vp_in (x4 + 4) L from hs 4 (by decide)) dL_law_216 ?_
  refine lv_aload_n hx hb dL_law_217 rfl (lv_at hl 1 rfl) ?_
  refine lv_iload hx hb dL_law_218 (lv_at hl 5 rfl) ?_
  refine lv_iconst (v := 5) hx hb dL_law_220 (by decide) ?_
  refine lv_iadd hx hb dL_law_221 ?_
  refine va_sld hx hb hX hbl hbA hW.2.2 (show vp_in (x4 + 5) L from hs 5 (by decide)) dL_law_222 ?_
  refine lv_aload_n hx hb dL_law_223 rfl (lv_at hl 1 rfl) ?_
  refine lv_iload hx hb dL_law_224 (lv_at hl 5 rfl) ?_
  refine lv_bipush (v := 6) hx hb dL_law_226 (by decide) ?_
  refine lv_iadd hx hb dL_law_228 ?_
  refine va_sld hx hb hX hbl hbA hW.2.2 (show vp_in (x4 + 6) L from hs 6 (by decide)) dL_law_229 ?_
  obtain ⟨y2, hy2, hF⟩ := bd_some hF
  refine r_bi (va_runV (As := [.int (xs (Int32.toNatClampNeg (x4 + 1))), .long (((Int32.toInt64 (xs (Int32.toNatClampNeg (x4 + 2)))) <<< ((Int32.toInt64 32) &&& 63)) ||| ((Int32.toInt64 (xs (Int32.toNatClampNeg (x4 + 3)))) &&& 4294967295)), .int (xs (Int32.toNatClampNeg (x4 + 4))), .int (xs (Int32.toNatClampNeg (x4 + 5))), .int (xs (Int32.toNatClampNeg (x4 + 6)))]) (rest := []) ⟨hx, hb, hml, hown, htA⟩ (m_X7_lamp l G g ad _ s.heap.size aM y1.1 (xs (Int32.toNatClampNeg (x4 + 1))) (((Int32.toInt64 (xs (Int32.toNatClampNeg (x4 + 2)))) <<< ((Int32.toInt64 32) &&& 63)) ||| ((Int32.toInt64 (xs (Int32.toNatClampNeg (x4 + 3)))) &&& 4294967295)) (xs (Int32.toNatClampNeg (x4 + 4))) (xs (Int32.toNatClampNeg (x4 + 5))) (xs (Int32.toNatClampNeg (x4 + 6))) y2  hy2) (cwV 5 htA (gV aw_659 aw_660 aw_661 aw_382 gz_X7_lamp) rfl rfl rfl (by decide +kernel) ⟨Nat.le_of_ble_eq_true rfl, Nat.le_of_ble_eq_true rfl⟩) (r_preV hK hW (27) (tp_lt (by decide)) (cE_k (rfl : kd 27 = 9)) rfl [.int (xs (Int32.toNatClampNeg (x4 + 1))), .long (((Int32.toInt64 (xs (Int32.toNatClampNeg (x4 + 2)))) <<< ((Int32.toInt64 32) &&& 63)) ||| ((Int32.toInt64 (xs (Int32.toNatClampNeg (x4 + 3)))) &&& 4294967295)), .int (xs (Int32.toNatClampNeg (x4 + 4))), .int (xs (Int32.toNatClampNeg (x4 + 5))), .int (xs (Int32.toNatClampNeg (x4 + 6)))]) rfl rfl hl.1 rfl (lv_room (Nat.le_of_ble_eq_true rfl)) dL_law_230 ⟨by omega, by omega⟩) hW (fun H locs hW => ?_)
  refine lv_istore (lv' := [(6, .int y2.2), (5, .int y1.2), (0, .ref b), (1, .ref (ad (0))), (2, .ref (ad (27))), (3, .ref (ad (26))), (4, .int x4)]) hx hb dL_law_233 hl (by decide) rfl (fun ls hl => ?_)
  refine lv_aload_n hx hb dL_law_235 rfl (lv_at hl 4 rfl) ?_
  obtain ⟨y3, hy3, hF⟩ := bd_some hF
  refine r_bi (va_runV (As := []) (rest := []) ⟨hx, hb, hml, hown, htA⟩ (m_X7_thrown l G g ad _ s.heap.size aM y2.1 y3  hy3) (cwV 0 htA (gV aw_663 aw_664 aw_665 aw_382 gz_X7_thrown) rfl rfl rfl (by decide +kernel) ⟨Nat.le_of_ble_eq_true rfl, Nat.le_of_ble_eq_true rfl⟩) (r_preV hK hW (27) (tp_lt (by decide)) (cE_k (rfl : kd 27 = 9)) rfl []) rfl rfl hl.1 rfl (lv_room (Nat.le_of_ble_eq_true rfl)) dL_law_236 ⟨by omega, by omega⟩) hW (fun H locs hW => ?_)
  refine lv_iload hx hb dL_law_239 (lv_at hl 1 rfl) ?_
  refine lv_icmp_eq (tgt := 246) hx hb dL_law_241 (by decide) (fun hc4 => ?_) (fun hc4 => ?_)
  · replace hF := (if_pos hc4).symm.trans hF
    refine lv_iload hx hb dL_law_246 (lv_at hl 1 rfl) ?_
    refine lv_if_ne (tgt := 263) hx hb dL_law_248 (by decide) (fun hc5 => ?_) (fun hc5 => ?_)
    · replace hF := (if_neg hc5).symm.trans hF
      refine lv_goto (tgt := 1209) hx hb dL_law_263 (by decide) ?_
      have hF := Option.some.inj hF
      subst hF
      refine W.widen (k := cells + 12) (n := slots + 669) (by omega) (by omega) ?_
      exact kk ad _ _ _ hW (lv_sub hl [2, 3, 4, 5, 6] rfl)
    · replace hF := (if_pos hc5).symm.trans hF
      refine lv_aload_n hx hb dL_law_251 rfl (lv_at hl 5 rfl) ?_
      refine lv_iconst (v := 0) hx hb dL_law_252 (by decide) ?_
      obtain ⟨hg6, hF⟩ := gd_some hF
      refine r_lald hx hb hK hW (26) (tp_lt (by decide)) (rfl : kd 26 = 7) hg6 dL_law_253 ?_
      refine lv_iload hx hb dL_law_254 (lv_at hl 0 rfl) ?_
      refine lv_i2l (v := (Int32.toInt64 y2.2)) hx hb dL_law_256 rfl ?_
      refine W.lcmp hx hb dL_law_257 ?_
      refine lv_if_eq (tgt := 263) hx hb dL_law_258 (by decide) (fun hc7 => ?_) (fun hc7 => ?_)
      · replace hF := (if_pos hc7).symm.trans hF
        refine lv_goto (tgt := 1209) hx hb dL_law_263 (by decide) ?_
        have hF := Option.some.inj hF
        subst hF
        refine W.widen (k := cells + 12) (n := slots + 669) (by omega) (by omega) ?_
        exact kk ad _ _ _ hW (lv_sub hl [2, 3, 4, 5, 6] rfl)
      · replace hF := (if_neg hc7).symm.trans hF
        refine lv_iconst (v := 0) hx hb dL_law_261 (by decide) ?_
        exact absurd hF (fun h9 => nomatch h9)
  · replace hF := (if_neg hc4).symm.trans hF
    refine lv_iconst (v := 0) hx hb dL_law_244 (by decide) ?_
    exact absurd hF (fun h9 => nomatch h9)
def F_lc_1 (xs : Nat → Int32) (x4 : Int32) (n : Nat) (σ : St) : Option (Nat × St) := (F_L_feed σ (xs (Int32.toNatClampNeg (x4 + 1))) (xs (Int32.toNatClampNeg (x4 + 2))) (xs (Int32.toNatClampNeg (x4 + 3))) (xs (Int32.toNatClampNeg (x4 + 4))) (xs (Int32.toNatClampNeg (x4 + 5)))).bind (fun y1 => (F_X7_feed y1.1 (xs (Int32.toNatClampNeg (x4 + 1))) (xs (Int32.toNatClampNeg (x4 + 2))) (xs (Int32.toNatClampNeg (x4 + 3))) (xs (Int32.toNatClampNeg (x4 + 4))) (xs (Int32.toNatClampNeg (x4 + 5)))).bind (fun y2 => (F_X7_thrown y2.1).bind (fun y3 => if y3.2 = y1.2 then if y1.2 = 0 then gd (ib 0 (ln (26))) (if (lg_cmp (y3.1.2 (26) (Int32.toNatClampNeg 0)) (Int32.toInt64 y2.2)) = 0 then some (n, y3.1) else none) else some (n, y3.1) else none)))
set_option maxHeartbeats 4000000 in
set_option maxRecDepth 100000 in
theorem lc_1 {p : Program} {e : Env} {s : State} {m : MethodId} {below : List Frame} {meth : Method} {c : Code} (l : Launch) (hst : l.stackTraces = false) {b L : Nat} {xs : Nat → Int32} (C0 : lw_At p s m meth c b L xs) (htA : ∀ w ∈ AL, w.before #[Value.ref b] s = true) {G : va_G} {g : Nat → ClassId} {ad : Nat → Nat} {aM n cells slots : Nat} {σ : St} {H : Heap} {locs : List Loc} {ls : Array Slot} {x4 : Int32} (hK : wK G g s.heap.size aM s) (hW : Wd G g ad n s.heap.size s.heap σ H locs) (hl : lv_has ls 8 [(0, .ref b), (1, .ref (ad (0))), (2, .ref (ad (27))), (3, .ref (ad (26))), (4, .int x4)]) (hs : ∀ j : Nat, j < 7 → vp_in (x4 + nI j) L) (hC : cells + 12 ≤ room_1.cells) (hSl : slots + 669 ≤ room_1.slots) {z : Nat × St} (hF : F_lc_1 xs x4 n σ = some z)
    (kk : ∀ (ad : Nat → Nat) (H : Heap) (locs : List Loc) (ls : Array Slot), Wd G g ad z.1 s.heap.size s.heap z.2 H locs → lv_has ls 8 [(0, .ref b), (1, .ref (ad (0))), (2, .ref (ad (27))), (3, .ref (ad (26))), (4, .int x4)] → W p l e room_1 s m #[Value.ref b] below meth c H locs (cells + 12) (slots + 669) (lw_Z below #[Value.ref b] s) (F0 m 1209 ls [])) : W p l e room_1 s m #[Value.ref b] below meth c H locs cells slots (lw_Z below #[Value.ref b] s) (F0 m 266 ls []) := by
  obtain ⟨hx, hb, hr, hml, hown, -, hX, hbl, hlocks, -⟩ := C0
  have hbA : ¬ (fun q : Nat => s.heap.size ≤ q) b := Nat.not_le.mpr hbl
  unfold F_lc_1 at hF
  refine lv_aload_n hx hb dL_law_266 rfl (lv_at hl 1 rfl) ?_
  refine lv_aload_n hx hb dL_law_267 rfl (lv_at hl 0 rfl) ?_
  refine lv_iload hx hb dL_law_268 (lv_at hl 4 rfl) ?_
  refine lv_iconst (v := 1) hx hb dL_law_270 (by decide) ?_
  refine lv_iadd hx hb dL_law_271 ?_
  refine va_sld hx hb hX hbl hbA hW.2.2 (show vp_in (x4 + 1) L from hs 1 (by decide)) dL_law_272 ?_
  refine lv_aload_n hx hb dL_law_273 rfl (lv_at hl 0 rfl) ?_
  refine lv_iload hx hb dL_law_274 (lv_at hl 4 rfl) ?_
  refine lv_iconst (v := 2) hx hb dL_law_276 (by decide) ?_
  refine lv_iadd hx hb dL_law_277 ?_
  refine va_sld hx hb hX hbl hbA hW.2.2 (show vp_in (x4 + 2) L from hs 2 (by decide)) dL_law_278 ?_
  refine lv_aload_n hx hb dL_law_279 rfl (lv_at hl 0 rfl) ?_
  refine lv_iload hx hb dL_law_280 (lv_at hl 4 rfl) ?_
  refine lv_iconst (v := 3) hx hb dL_law_282 (by decide) ?_
  refine lv_iadd hx hb dL_law_283 ?_
  refine va_sld hx hb hX hbl hbA hW.2.2 (show vp_in (x4 + 3) L from hs 3 (by decide)) dL_law_284 ?_
  refine lv_aload_n hx hb dL_law_285 rfl (lv_at hl 0 rfl) ?_
  refine lv_iload hx hb dL_law_286 (lv_at hl 4 rfl) ?_
  refine lv_iconst (v := 4) hx hb dL_law_288 (by decide) ?_
  refine lv_iadd hx hb dL_law_289 ?_
  refine va_sld hx hb hX hbl hbA hW.2.2 (show vp_in (x4 + 4) L from hs 4 (by decide)) dL_law_290 ?_
  refine lv_aload_n hx hb dL_law_291 rfl (lv_at hl 0 rfl) ?_
  refine lv_iload hx hb dL_law_292 (lv_at hl 4 rfl) ?_
  refine lv_iconst (v := 5) hx hb dL_law_294 (by decide) ?_
  refine lv_iadd hx hb dL_law_295 ?_
  refine va_sld hx hb hX hbl hbA hW.2.2 (show vp_in (x4 + 5) L from hs 5 (by decide)) dL_law_296 ?_
  refine lv_aload_n hx hb dL_law_297 rfl (lv_at hl 3 rfl) ?_
  obtain ⟨y1, hy1, hF⟩ := bd_some hF
  refine rh_bi (vx_runSX (As := [.ref (ad (0)), .int (xs (Int32.toNatClampNeg (x4 + 1))), .int (xs (Int32.toNatClampNeg (x4 + 2))), .int (xs (Int32.toNatClampNeg (x4 + 3))), .int (xs (Int32.toNatClampNeg (x4 + 4))), .int (xs (Int32.toNatClampNeg (x4 + 5))), .ref (ad (26))]) (rest := []) ⟨hx, hb, hml, hown, htA⟩ (m_L_feed l hst G g ad n s.heap.size aM σ (xs (Int32.toNatClampNeg (x4 + 1))) (xs (Int32.toNatClampNeg (x4 + 2))) (xs (Int32.toNatClampNeg (x4 + 3))) (xs (Int32.toNatClampNeg (x4 + 4))) (xs (Int32.toNatClampNeg (x4 + 5))) y1 hy1) (vx_cwSW 7 htA (gS aw_667 aw_668 aw_657 gz_L_feed) rfl rfl rfl (by decide +kernel) ⟨Nat.le_of_ble_eq_true rfl, Nat.le_of_ble_eq_true rfl⟩) (r_pre hK hW [.ref (ad (0)), .int (xs (Int32.toNatClampNeg (x4 + 1))), .int (xs (Int32.toNatClampNeg (x4 + 2))), .int (xs (Int32.toNatClampNeg (x4 + 3))), .int (xs (Int32.toNatClampNeg (x4 + 4))), .int (xs (Int32.toNatClampNeg (x4 + 5))), .ref (ad (26))]) rfl rfl hl.1 rfl (lv_room (Nat.le_of_ble_eq_true rfl)) dL_law_298 ⟨by omega, by omega⟩) hW (fun H locs hW => ?_)
  refine lv_istore (lv' := [(5, .int y1.2), (0, .ref b), (1, .ref (ad (0))), (2, .ref (ad (27))), (3, .ref (ad (26))), (4, .int x4)]) hx hb dL_law_301 hl (by decide) rfl (fun ls hl => ?_)
  refine lv_aload_n hx hb dL_law_303 rfl (lv_at hl 3 rfl) ?_
  refine lv_aload_n hx hb dL_law_304 rfl (lv_at hl 1 rfl) ?_
  refine lv_iload hx hb dL_law_305 (lv_at hl 5 rfl) ?_
  refine lv_iconst (v := 1) hx hb dL_law_307 (by decide) ?_
  refine lv_iadd hx hb dL_law_308 ?_
  refine va_sld hx hb hX hbl hbA hW.2.2 (show vp_in (x4 + 1) L from hs 1 (by decide)) dL_law_309 ?_
  refine lv_aload_n hx hb dL_law_310 rfl (lv_at hl 1 rfl) ?_
  refine lv_iload hx hb dL_law_311 (lv_at hl 5 rfl) ?_
  refine lv_iconst (v := 2) hx hb dL_law_313 (by decide) ?_
  refine lv_iadd hx hb dL_law_314 ?_
  refine va_sld hx hb hX hbl hbA hW.2.2 (show vp_in (x4 + 2) L from hs 2 (by decide)) dL_law_315 ?_
  refine lv_aload_n hx hb dL_law_316 rfl (lv_at hl 1 rfl) ?_
  refine lv_iload hx hb dL_law_317 (lv_at hl 5 rfl) ?_
  refine lv_iconst (v := 3) hx hb dL_law_319 (by decide) ?_
  refine lv_iadd hx hb dL_law_320 ?_
  refine va_sld hx hb hX hbl hbA hW.2.2 (show vp_in (x4 + 3) L from hs 3 (by decide)) dL_law_321 ?_
  refine lv_aload_n hx hb dL_law_322 rfl (lv_at hl 1 rfl) ?_
  refine lv_iload hx hb dL_law_323 (lv_at hl 5 rfl) ?_
  refine lv_iconst (v := 4) hx hb dL_law_325 (by decide) ?_
  refine lv_iadd hx hb dL_law_326 ?_
  refine va_sld hx hb hX hbl hbA hW.2.2 (show vp_in (x4 + 4) L from hs 4 (by decide)) dL_law_327 ?_
  refine lv_aload_n hx hb dL_law_328 rfl (lv_at hl 1 rfl) ?_
  refine lv_iload hx hb dL_law_329 (lv_at hl 5 rfl) ?_
  refine lv_iconst (v := 5) hx hb dL_law_331 (by decide) ?_
  refine lv_iadd hx hb dL_law_332 ?_
  refine va_sld hx hb hX hbl hbA hW.2.2 (show vp_in (x4 + 5) L from hs 5 (by decide)) dL_law_333 ?_
  obtain ⟨y2, hy2, hF⟩ := bd_some hF
  refine r_bi (va_runV (As := [.int (xs (Int32.toNatClampNeg (x4 + 1))), .int (xs (Int32.toNatClampNeg (x4 + 2))), .int (xs (Int32.toNatClampNeg (x4 + 3))), .int (xs (Int32.toNatClampNeg (x4 + 4))), .int (xs (Int32.toNatClampNeg (x4 + 5)))]) (rest := []) ⟨hx, hb, hml, hown, htA⟩ (m_X7_feed l G g ad n s.heap.size aM y1.1 (xs (Int32.toNatClampNeg (x4 + 1))) (xs (Int32.toNatClampNeg (x4 + 2))) (xs (Int32.toNatClampNeg (x4 + 3))) (xs (Int32.toNatClampNeg (x4 + 4))) (xs (Int32.toNatClampNeg (x4 + 5))) y2  hy2) (cwV 5 htA (gV aw_670 aw_671 aw_672 aw_382 gz_X7_feed) rfl rfl rfl (by decide +kernel) ⟨Nat.le_of_ble_eq_true rfl, Nat.le_of_ble_eq_true rfl⟩) (r_preV hK hW (27) (tp_lt (by decide)) (cE_k (rfl : kd 27 = 9)) rfl [.int (xs (Int32.toNatClampNeg (x4 + 1))), .int (xs (Int32.toNatClampNeg (x4 + 2))), .int (xs (Int32.toNatClampNeg (x4 + 3))), .int (xs (Int32.toNatClampNeg (x4 + 4))), .int (xs (Int32.toNatClampNeg (x4 + 5)))]) rfl rfl hl.1 rfl (lv_room (Nat.le_of_ble_eq_true rfl)) dL_law_334 ⟨by omega, by omega⟩) hW (fun H locs hW => ?_)
  refine lv_istore (lv' := [(6, .int y2.2), (5, .int y1.2), (0, .ref b), (1, .ref (ad (0))), (2, .ref (ad (27))), (3, .ref (ad (26))), (4, .int x4)]) hx hb dL_law_337 hl (by decide) rfl (fun ls hl => ?_)
  refine lv_aload_n hx hb dL_law_339 rfl (lv_at hl 4 rfl) ?_
  obtain ⟨y3, hy3, hF⟩ := bd_some hF
  refine r_bi (va_runV (As := []) (rest := []) ⟨hx, hb, hml, hown, htA⟩ (m_X7_thrown l G g ad n s.heap.size aM y2.1 y3  hy3) (cwV 0 htA (gV aw_663 aw_664 aw_665 aw_382 gz_X7_thrown) rfl rfl rfl (by decide +kernel) ⟨Nat.le_of_ble_eq_true rfl, Nat.le_of_ble_eq_true rfl⟩) (r_preV hK hW (27) (tp_lt (by decide)) (cE_k (rfl : kd 27 = 9)) rfl []) rfl rfl hl.1 rfl (lv_room (Nat.le_of_ble_eq_true rfl)) dL_law_340 ⟨by omega, by omega⟩) hW (fun H locs hW => ?_)
  refine lv_iload hx hb dL_law_343 (lv_at hl 1 rfl) ?_
  refine lv_icmp_eq (tgt := 350) hx hb dL_law_345 (by decide) (fun hc4 => ?_) (fun hc4 => ?_)
  · replace hF := (if_pos hc4).symm.trans hF
    refine lv_iload hx hb dL_law_350 (lv_at hl 1 rfl) ?_
    refine lv_if_ne (tgt := 367) hx hb dL_law_352 (by decide) (fun hc5 => ?_) (fun hc5 => ?_)
    · replace hF := (if_neg hc5).symm.trans hF
      refine lv_goto (tgt := 1209) hx hb dL_law_367 (by decide) ?_
      have hF := Option.some.inj hF
      subst hF
      refine W.widen (k := cells + 12) (n := slots + 669) (by omega) (by omega) ?_
      exact kk ad _ _ _ hW (lv_sub hl [2, 3, 4, 5, 6] rfl)
    · replace hF := (if_pos hc5).symm.trans hF
      refine lv_aload_n hx hb dL_law_355 rfl (lv_at hl 5 rfl) ?_
      refine lv_iconst (v := 0) hx hb dL_law_356 (by decide) ?_
      obtain ⟨hg6, hF⟩ := gd_some hF
      refine r_lald hx hb hK hW (26) (tp_lt (by decide)) (rfl : kd 26 = 7) hg6 dL_law_357 ?_
      refine lv_iload hx hb dL_law_358 (lv_at hl 0 rfl) ?_
      refine lv_i2l (v := (Int32.toInt64 y2.2)) hx hb dL_law_360 rfl ?_
      refine W.lcmp hx hb dL_law_361 ?_
      refine lv_if_eq (tgt := 367) hx hb dL_law_362 (by decide) (fun hc7 => ?_) (fun hc7 => ?_)
      · replace hF := (if_pos hc7).symm.trans hF
        refine lv_goto (tgt := 1209) hx hb dL_law_367 (by decide) ?_
        have hF := Option.some.inj hF
        subst hF
        refine W.widen (k := cells + 12) (n := slots + 669) (by omega) (by omega) ?_
        exact kk ad _ _ _ hW (lv_sub hl [2, 3, 4, 5, 6] rfl)
      · replace hF := (if_neg hc7).symm.trans hF
        refine lv_iconst (v := 0) hx hb dL_law_365 (by decide) ?_
        exact absurd hF (fun h9 => nomatch h9)
  · replace hF := (if_neg hc4).symm.trans hF
    refine lv_iconst (v := 0) hx hb dL_law_348 (by decide) ?_
    exact absurd hF (fun h9 => nomatch h9)
def F_lc_2 (xs : Nat → Int32) (x4 : Int32) (n : Nat) (σ : St) : Option (Nat × St) := (F_L_end σ (xs (Int32.toNatClampNeg (x4 + 1)))).bind (fun y1 => (F_X7_end y1.1 (xs (Int32.toNatClampNeg (x4 + 1)))).bind (fun y2 => (F_X7_thrown y2).bind (fun y3 => if y3.2 = y1.2 then some (n, y3.1) else none)))
set_option maxHeartbeats 4000000 in
set_option maxRecDepth 100000 in
theorem lc_2 {p : Program} {e : Env} {s : State} {m : MethodId} {below : List Frame} {meth : Method} {c : Code} (l : Launch) (hst : l.stackTraces = false) {b L : Nat} {xs : Nat → Int32} (C0 : lw_At p s m meth c b L xs) (htA : ∀ w ∈ AL, w.before #[Value.ref b] s = true) {G : va_G} {g : Nat → ClassId} {ad : Nat → Nat} {aM n cells slots : Nat} {σ : St} {H : Heap} {locs : List Loc} {ls : Array Slot} {x4 : Int32} (hK : wK G g s.heap.size aM s) (hW : Wd G g ad n s.heap.size s.heap σ H locs) (hl : lv_has ls 8 [(0, .ref b), (1, .ref (ad (0))), (2, .ref (ad (27))), (3, .ref (ad (26))), (4, .int x4)]) (hs : ∀ j : Nat, j < 7 → vp_in (x4 + nI j) L) (hC : cells + 12 ≤ room_1.cells) (hSl : slots + 669 ≤ room_1.slots) {z : Nat × St} (hF : F_lc_2 xs x4 n σ = some z)
    (kk : ∀ (ad : Nat → Nat) (H : Heap) (locs : List Loc) (ls : Array Slot), Wd G g ad z.1 s.heap.size s.heap z.2 H locs → lv_has ls 8 [(0, .ref b), (1, .ref (ad (0))), (2, .ref (ad (27))), (3, .ref (ad (26))), (4, .int x4)] → W p l e room_1 s m #[Value.ref b] below meth c H locs (cells + 12) (slots + 669) (lw_Z below #[Value.ref b] s) (F0 m 1209 ls [])) : W p l e room_1 s m #[Value.ref b] below meth c H locs cells slots (lw_Z below #[Value.ref b] s) (F0 m 370 ls []) := by
  obtain ⟨hx, hb, hr, hml, hown, -, hX, hbl, hlocks, -⟩ := C0
  have hbA : ¬ (fun q : Nat => s.heap.size ≤ q) b := Nat.not_le.mpr hbl
  unfold F_lc_2 at hF
  refine lv_aload_n hx hb dL_law_370 rfl (lv_at hl 1 rfl) ?_
  refine lv_aload_n hx hb dL_law_371 rfl (lv_at hl 0 rfl) ?_
  refine lv_iload hx hb dL_law_372 (lv_at hl 4 rfl) ?_
  refine lv_iconst (v := 1) hx hb dL_law_374 (by decide) ?_
  refine lv_iadd hx hb dL_law_375 ?_
  refine va_sld hx hb hX hbl hbA hW.2.2 (show vp_in (x4 + 1) L from hs 1 (by decide)) dL_law_376 ?_
  obtain ⟨y1, hy1, hF⟩ := bd_some hF
  refine rh_bi (vx_runSX (As := [.ref (ad (0)), .int (xs (Int32.toNatClampNeg (x4 + 1)))]) (rest := []) ⟨hx, hb, hml, hown, htA⟩ (m_L_end l hst G g ad n s.heap.size aM σ (xs (Int32.toNatClampNeg (x4 + 1))) y1 hy1) (vx_cwSW 2 htA (gS aw_674 aw_675 aw_657 gz_L_end) rfl rfl rfl (by decide +kernel) ⟨Nat.le_of_ble_eq_true rfl, Nat.le_of_ble_eq_true rfl⟩) (r_pre hK hW [.ref (ad (0)), .int (xs (Int32.toNatClampNeg (x4 + 1)))]) rfl rfl hl.1 rfl (lv_room (Nat.le_of_ble_eq_true rfl)) dL_law_377 ⟨by omega, by omega⟩) hW (fun H locs hW => ?_)
  refine lv_istore (lv' := [(5, .int y1.2), (0, .ref b), (1, .ref (ad (0))), (2, .ref (ad (27))), (3, .ref (ad (26))), (4, .int x4)]) hx hb dL_law_380 hl (by decide) rfl (fun ls hl => ?_)
  refine lv_aload_n hx hb dL_law_382 rfl (lv_at hl 3 rfl) ?_
  refine lv_aload_n hx hb dL_law_383 rfl (lv_at hl 1 rfl) ?_
  refine lv_iload hx hb dL_law_384 (lv_at hl 5 rfl) ?_
  refine lv_iconst (v := 1) hx hb dL_law_386 (by decide) ?_
  refine lv_iadd hx hb dL_law_387 ?_
  refine va_sld hx hb hX hbl hbA hW.2.2 (show vp_in (x4 + 1) L from hs 1 (by decide)) dL_law_388 ?_
  obtain ⟨y2, hy2, hF⟩ := bd_some hF
  refine r_bv (va_runV (As := [.int (xs (Int32.toNatClampNeg (x4 + 1)))]) (rest := []) ⟨hx, hb, hml, hown, htA⟩ (m_X7_end l G g ad n s.heap.size aM y1.1 (xs (Int32.toNatClampNeg (x4 + 1))) y2  hy2) (cwV 1 htA (gV aw_677 aw_678 aw_679 aw_382 gz_X7_end) rfl rfl rfl (by decide +kernel) ⟨Nat.le_of_ble_eq_true rfl, Nat.le_of_ble_eq_true rfl⟩) (r_preV hK hW (27) (tp_lt (by decide)) (cE_k (rfl : kd 27 = 9)) rfl [.int (xs (Int32.toNatClampNeg (x4 + 1)))]) rfl rfl hl.1 rfl (lv_room (Nat.le_of_ble_eq_true rfl)) dL_law_389 ⟨by omega, by omega⟩) hW (fun H locs hW => ?_)
  refine lv_aload_n hx hb dL_law_392 rfl (lv_at hl 3 rfl) ?_
  obtain ⟨y3, hy3, hF⟩ := bd_some hF
  refine r_bi (va_runV (As := []) (rest := []) ⟨hx, hb, hml, hown, htA⟩ (m_X7_thrown l G g ad n s.heap.size aM y2 y3  hy3) (cwV 0 htA (gV aw_663 aw_664 aw_665 aw_382 gz_X7_thrown) rfl rfl rfl (by decide +kernel) ⟨Nat.le_of_ble_eq_true rfl, Nat.le_of_ble_eq_true rfl⟩) (r_preV hK hW (27) (tp_lt (by decide)) (cE_k (rfl : kd 27 = 9)) rfl []) rfl rfl hl.1 rfl (lv_room (Nat.le_of_ble_eq_true rfl)) dL_law_393 ⟨by omega, by omega⟩) hW (fun H locs hW => ?_)
  refine lv_iload hx hb dL_law_396 (lv_at hl 0 rfl) ?_
  refine lv_icmp_eq (tgt := 403) hx hb dL_law_398 (by decide) (fun hc4 => ?_) (fun hc4 => ?_)
  · replace hF := (if_pos hc4).symm.trans hF
    refine lv_goto (tgt := 1209) hx hb dL_law_403 (by decide) ?_
    have hF := Option.some.inj hF
    subst hF
    refine W.widen (k := cells + 12) (n := slots + 669) (by omega) (by omega) ?_
    exact kk ad _ _ _ hW (lv_sub hl [1, 2, 3, 4, 5] rfl)
  · replace hF := (if_neg hc4).symm.trans hF
    refine lv_iconst (v := 0) hx hb dL_law_401 (by decide) ?_
    exact absurd hF (fun h9 => nomatch h9)
def F_lc_3 (xs : Nat → Int32) (x4 : Int32) (n : Nat) (σ : St) : Option (Nat × St) := (F_X6_send n σ).bind (fun y1 => (F_X7_send y1.1).bind (fun y2 => if y1.2 = y2.2 then some (n, y2.1) else none))
set_option maxHeartbeats 4000000 in
set_option maxRecDepth 100000 in
theorem lc_3 {p : Program} {e : Env} {s : State} {m : MethodId} {below : List Frame} {meth : Method} {c : Code} (l : Launch) (hst : l.stackTraces = false) {b L : Nat} {xs : Nat → Int32} (C0 : lw_At p s m meth c b L xs) (htA : ∀ w ∈ AL, w.before #[Value.ref b] s = true) {G : va_G} {g : Nat → ClassId} {ad : Nat → Nat} {aM n cells slots : Nat} {σ : St} {H : Heap} {locs : List Loc} {ls : Array Slot} {x4 : Int32} (hK : wK G g s.heap.size aM s) (hW : Wd G g ad n s.heap.size s.heap σ H locs) (hl : lv_has ls 8 [(0, .ref b), (1, .ref (ad (0))), (2, .ref (ad (27))), (3, .ref (ad (26))), (4, .int x4)]) (hs : ∀ j : Nat, j < 7 → vp_in (x4 + nI j) L) (hC : cells + 12 ≤ room_1.cells) (hSl : slots + 669 ≤ room_1.slots) {z : Nat × St} (hF : F_lc_3 xs x4 n σ = some z)
    (kk : ∀ (ad : Nat → Nat) (H : Heap) (locs : List Loc) (ls : Array Slot), Wd G g ad z.1 s.heap.size s.heap z.2 H locs → lv_has ls 8 [(0, .ref b), (1, .ref (ad (0))), (2, .ref (ad (27))), (3, .ref (ad (26))), (4, .int x4)] → W p l e room_1 s m #[Value.ref b] below meth c H locs (cells + 12) (slots + 669) (lw_Z below #[Value.ref b] s) (F0 m 1209 ls [])) : W p l e room_1 s m #[Value.ref b] below meth c H locs cells slots (lw_Z below #[Value.ref b] s) (F0 m 406 ls []) := by
  obtain ⟨hx, hb, hr, hml, hown, -, hX, hbl, hlocks, -⟩ := C0
  have hbA : ¬ (fun q : Nat => s.heap.size ≤ q) b := Nat.not_le.mpr hbl
  unfold F_lc_3 at hF
  refine lv_aload_n hx hb dL_law_406 rfl (lv_at hl 1 rfl) ?_
  obtain ⟨y1, hy1, hF⟩ := bd_some hF
  refine r_bi (va_runV (As := []) (rest := []) ⟨hx, hb, hml, hown, htA⟩ (m_X6_send l G g ad n s.heap.size aM σ y1  hy1) (cwV 0 htA (gV aw_681 aw_682 aw_683 aw_52 gz_X6_send) rfl rfl rfl (by decide +kernel) ⟨Nat.le_of_ble_eq_true rfl, Nat.le_of_ble_eq_true rfl⟩) (r_preV hK hW (0) (tp_lt (by decide)) (cE_k (rfl : kd 0 = 1)) rfl []) rfl rfl hl.1 rfl (lv_room (Nat.le_of_ble_eq_true rfl)) dL_law_407 ⟨by omega, by omega⟩) hW (fun H locs hW => ?_)
  refine lv_aload_n hx hb dL_law_410 rfl (lv_at hl 2 rfl) ?_
  obtain ⟨y2, hy2, hF⟩ := bd_some hF
  refine r_bi (va_runV (As := []) (rest := [.int y1.2]) ⟨hx, hb, hml, hown, htA⟩ (m_X7_send l G g ad n s.heap.size aM y1.1 y2  hy2) (cwV 0 htA (gV aw_685 aw_686 aw_687 aw_382 gz_X7_send) rfl rfl rfl (by decide +kernel) ⟨Nat.le_of_ble_eq_true rfl, Nat.le_of_ble_eq_true rfl⟩) (r_preV hK hW (27) (tp_lt (by decide)) (cE_k (rfl : kd 27 = 9)) rfl []) rfl rfl hl.1 rfl (lv_room (Nat.le_of_ble_eq_true rfl)) dL_law_411 ⟨by omega, by omega⟩) hW (fun H locs hW => ?_)
  refine lv_icmp_eq (tgt := 1209) hx hb dL_law_414 (by decide) (fun hc3 => ?_) (fun hc3 => ?_)
  · replace hF := (if_pos hc3).symm.trans hF
    have hF := Option.some.inj hF
    subst hF
    refine W.widen (k := cells + 12) (n := slots + 669) (by omega) (by omega) ?_
    exact kk ad _ _ _ hW (lv_sub hl [0, 1, 2, 3, 4] rfl)
  · replace hF := (if_neg hc3).symm.trans hF
    refine lv_iconst (v := 0) hx hb dL_law_417 (by decide) ?_
    exact absurd hF (fun h9 => nomatch h9)
def F_lc_4 (xs : Nat → Int32) (x4 : Int32) (n : Nat) (σ : St) : Option (Nat × St) := (F_L_answer σ (xs (Int32.toNatClampNeg (x4 + 1)))).bind (fun y1 => (F_X7_answer y1.1 (xs (Int32.toNatClampNeg (x4 + 1)))).bind (fun y2 => (F_X7_thrown y2.1).bind (fun y3 => if y3.2 = y1.2 then if y1.2 = 0 then gd (ib 0 (ln (26))) (if (lg_cmp (y3.1.2 (26) (Int32.toNatClampNeg 0)) (Int32.toInt64 y2.2)) = 0 then some (n, y3.1) else none) else some (n, y3.1) else none)))
set_option maxHeartbeats 4000000 in
set_option maxRecDepth 100000 in
theorem lc_4 {p : Program} {e : Env} {s : State} {m : MethodId} {below : List Frame} {meth : Method} {c : Code} (l : Launch) (hst : l.stackTraces = false) {b L : Nat} {xs : Nat → Int32} (C0 : lw_At p s m meth c b L xs) (htA : ∀ w ∈ AL, w.before #[Value.ref b] s = true) {G : va_G} {g : Nat → ClassId} {ad : Nat → Nat} {aM n cells slots : Nat} {σ : St} {H : Heap} {locs : List Loc} {ls : Array Slot} {x4 : Int32} (hK : wK G g s.heap.size aM s) (hW : Wd G g ad n s.heap.size s.heap σ H locs) (hl : lv_has ls 8 [(0, .ref b), (1, .ref (ad (0))), (2, .ref (ad (27))), (3, .ref (ad (26))), (4, .int x4)]) (hs : ∀ j : Nat, j < 7 → vp_in (x4 + nI j) L) (hC : cells + 12 ≤ room_1.cells) (hSl : slots + 669 ≤ room_1.slots) {z : Nat × St} (hF : F_lc_4 xs x4 n σ = some z)
    (kk : ∀ (ad : Nat → Nat) (H : Heap) (locs : List Loc) (ls : Array Slot), Wd G g ad z.1 s.heap.size s.heap z.2 H locs → lv_has ls 8 [(0, .ref b), (1, .ref (ad (0))), (2, .ref (ad (27))), (3, .ref (ad (26))), (4, .int x4)] → W p l e room_1 s m #[Value.ref b] below meth c H locs (cells + 12) (slots + 669) (lw_Z below #[Value.ref b] s) (F0 m 1209 ls [])) : W p l e room_1 s m #[Value.ref b] below meth c H locs cells slots (lw_Z below #[Value.ref b] s) (F0 m 419 ls []) := by
  obtain ⟨hx, hb, hr, hml, hown, -, hX, hbl, hlocks, -⟩ := C0
  have hbA : ¬ (fun q : Nat => s.heap.size ≤ q) b := Nat.not_le.mpr hbl
  unfold F_lc_4 at hF
  refine lv_aload_n hx hb dL_law_419 rfl (lv_at hl 1 rfl) ?_
  refine lv_aload_n hx hb dL_law_420 rfl (lv_at hl 0 rfl) ?_
  refine lv_iload hx hb dL_law_421 (lv_at hl 4 rfl) ?_
  refine lv_iconst (v := 1) hx hb dL_law_423 (by decide) ?_
  refine lv_iadd hx hb dL_law_424 ?_
  refine va_sld hx hb hX hbl hbA hW.2.2 (show vp_in (x4 + 1) L from hs 1 (by decide)) dL_law_425 ?_
  refine lv_aload_n hx hb dL_law_426 rfl (lv_at hl 3 rfl) ?_
  obtain ⟨y1, hy1, hF⟩ := bd_some hF
  refine rh_bi (vx_runSX (As := [.ref (ad (0)), .int (xs (Int32.toNatClampNeg (x4 + 1))), .ref (ad (26))]) (rest := []) ⟨hx, hb, hml, hown, htA⟩ (m_L_answer l hst G g ad n s.heap.size aM σ (xs (Int32.toNatClampNeg (x4 + 1))) y1 hy1) (vx_cwSW 3 htA (gS aw_689 aw_690 aw_657 gz_L_answer) rfl rfl rfl (by decide +kernel) ⟨Nat.le_of_ble_eq_true rfl, Nat.le_of_ble_eq_true rfl⟩) (r_pre hK hW [.ref (ad (0)), .int (xs (Int32.toNatClampNeg (x4 + 1))), .ref (ad (26))]) rfl rfl hl.1 rfl (lv_room (Nat.le_of_ble_eq_true rfl)) dL_law_427 ⟨by omega, by omega⟩) hW (fun H locs hW => ?_)
  refine lv_istore (lv' := [(5, .int y1.2), (0, .ref b), (1, .ref (ad (0))), (2, .ref (ad (27))), (3, .ref (ad (26))), (4, .int x4)]) hx hb dL_law_430 hl (by decide) rfl (fun ls hl => ?_)
  refine lv_aload_n hx hb dL_law_432 rfl (lv_at hl 3 rfl) ?_
  refine lv_aload_n hx hb dL_law_433 rfl (lv_at hl 1 rfl) ?_
  refine lv_iload hx hb dL_law_434 (lv_at hl 5 rfl) ?_
  refine lv_iconst (v := 1) hx hb dL_law_436 (by decide) ?_
  refine lv_iadd hx hb dL_law_437 ?_
  refine va_sld hx hb hX hbl hbA hW.2.2 (show vp_in (x4 + 1) L from hs 1 (by decide)) dL_law_438 ?_
  obtain ⟨y2, hy2, hF⟩ := bd_some hF
  refine r_bi (va_runV (As := [.int (xs (Int32.toNatClampNeg (x4 + 1)))]) (rest := []) ⟨hx, hb, hml, hown, htA⟩ (m_X7_answer l G g ad n s.heap.size aM y1.1 (xs (Int32.toNatClampNeg (x4 + 1))) y2  hy2) (cwV 1 htA (gV aw_692 aw_693 aw_694 aw_382 gz_X7_answer) rfl rfl rfl (by decide +kernel) ⟨Nat.le_of_ble_eq_true rfl, Nat.le_of_ble_eq_true rfl⟩) (r_preV hK hW (27) (tp_lt (by decide)) (cE_k (rfl : kd 27 = 9)) rfl [.int (xs (Int32.toNatClampNeg (x4 + 1)))]) rfl rfl hl.1 rfl (lv_room (Nat.le_of_ble_eq_true rfl)) dL_law_439 ⟨by omega, by omega⟩) hW (fun H locs hW => ?_)
  refine lv_istore (lv' := [(6, .int y2.2), (5, .int y1.2), (0, .ref b), (1, .ref (ad (0))), (2, .ref (ad (27))), (3, .ref (ad (26))), (4, .int x4)]) hx hb dL_law_442 hl (by decide) rfl (fun ls hl => ?_)
  refine lv_aload_n hx hb dL_law_444 rfl (lv_at hl 4 rfl) ?_
  obtain ⟨y3, hy3, hF⟩ := bd_some hF
  refine r_bi (va_runV (As := []) (rest := []) ⟨hx, hb, hml, hown, htA⟩ (m_X7_thrown l G g ad n s.heap.size aM y2.1 y3  hy3) (cwV 0 htA (gV aw_663 aw_664 aw_665 aw_382 gz_X7_thrown) rfl rfl rfl (by decide +kernel) ⟨Nat.le_of_ble_eq_true rfl, Nat.le_of_ble_eq_true rfl⟩) (r_preV hK hW (27) (tp_lt (by decide)) (cE_k (rfl : kd 27 = 9)) rfl []) rfl rfl hl.1 rfl (lv_room (Nat.le_of_ble_eq_true rfl)) dL_law_445 ⟨by omega, by omega⟩) hW (fun H locs hW => ?_)
  refine lv_iload hx hb dL_law_448 (lv_at hl 1 rfl) ?_
  refine lv_icmp_eq (tgt := 455) hx hb dL_law_450 (by decide) (fun hc4 => ?_) (fun hc4 => ?_)
  · replace hF := (if_pos hc4).symm.trans hF
    refine lv_iload hx hb dL_law_455 (lv_at hl 1 rfl) ?_
    refine lv_if_ne (tgt := 472) hx hb dL_law_457 (by decide) (fun hc5 => ?_) (fun hc5 => ?_)
    · replace hF := (if_neg hc5).symm.trans hF
      refine lv_goto (tgt := 1209) hx hb dL_law_472 (by decide) ?_
      have hF := Option.some.inj hF
      subst hF
      refine W.widen (k := cells + 12) (n := slots + 669) (by omega) (by omega) ?_
      exact kk ad _ _ _ hW (lv_sub hl [2, 3, 4, 5, 6] rfl)
    · replace hF := (if_pos hc5).symm.trans hF
      refine lv_aload_n hx hb dL_law_460 rfl (lv_at hl 5 rfl) ?_
      refine lv_iconst (v := 0) hx hb dL_law_461 (by decide) ?_
      obtain ⟨hg6, hF⟩ := gd_some hF
      refine r_lald hx hb hK hW (26) (tp_lt (by decide)) (rfl : kd 26 = 7) hg6 dL_law_462 ?_
      refine lv_iload hx hb dL_law_463 (lv_at hl 0 rfl) ?_
      refine lv_i2l (v := (Int32.toInt64 y2.2)) hx hb dL_law_465 rfl ?_
      refine W.lcmp hx hb dL_law_466 ?_
      refine lv_if_eq (tgt := 472) hx hb dL_law_467 (by decide) (fun hc7 => ?_) (fun hc7 => ?_)
      · replace hF := (if_pos hc7).symm.trans hF
        refine lv_goto (tgt := 1209) hx hb dL_law_472 (by decide) ?_
        have hF := Option.some.inj hF
        subst hF
        refine W.widen (k := cells + 12) (n := slots + 669) (by omega) (by omega) ?_
        exact kk ad _ _ _ hW (lv_sub hl [2, 3, 4, 5, 6] rfl)
      · replace hF := (if_neg hc7).symm.trans hF
        refine lv_iconst (v := 0) hx hb dL_law_470 (by decide) ?_
        exact absurd hF (fun h9 => nomatch h9)
  · replace hF := (if_neg hc4).symm.trans hF
    refine lv_iconst (v := 0) hx hb dL_law_453 (by decide) ?_
    exact absurd hF (fun h9 => nomatch h9)
def F_lc_5 (xs : Nat → Int32) (x4 : Int32) (n : Nat) (σ : St) : Option (Nat × St) := (F_L_ask n σ (xs (Int32.toNatClampNeg (x4 + 1))) (((Int32.toInt64 (xs (Int32.toNatClampNeg (x4 + 2)))) <<< ((Int32.toInt64 32) &&& 63)) ||| ((Int32.toInt64 (xs (Int32.toNatClampNeg (x4 + 3)))) &&& 4294967295)) (xs (Int32.toNatClampNeg (x4 + 4))) (xs (Int32.toNatClampNeg (x4 + 5))) (xs (Int32.toNatClampNeg (x4 + 6)))).bind (fun y1 => (F_X7_ask y1.1 (xs (Int32.toNatClampNeg (x4 + 1))) (((Int32.toInt64 (xs (Int32.toNatClampNeg (x4 + 2)))) <<< ((Int32.toInt64 32) &&& 63)) ||| ((Int32.toInt64 (xs (Int32.toNatClampNeg (x4 + 3)))) &&& 4294967295)) (xs (Int32.toNatClampNeg (x4 + 4))) (xs (Int32.toNatClampNeg (x4 + 5))) (xs (Int32.toNatClampNeg (x4 + 6)))).bind (fun y2 => (F_X7_thrown y2.1).bind (fun y3 => if y3.2 = y1.2 then if y1.2 = 0 then gd (ib 0 (ln (26))) (if (lg_cmp (y3.1.2 (26) (Int32.toNatClampNeg 0)) (Int32.toInt64 y2.2)) = 0 then some (n, y3.1) else none) else some (n, y3.1) else none)))
set_option maxHeartbeats 4000000 in
set_option maxRecDepth 100000 in
theorem lc_5 {p : Program} {e : Env} {s : State} {m : MethodId} {below : List Frame} {meth : Method} {c : Code} (l : Launch) (hst : l.stackTraces = false) {b L : Nat} {xs : Nat → Int32} (C0 : lw_At p s m meth c b L xs) (htA : ∀ w ∈ AL, w.before #[Value.ref b] s = true) {G : va_G} {g : Nat → ClassId} {ad : Nat → Nat} {aM n cells slots : Nat} {σ : St} {H : Heap} {locs : List Loc} {ls : Array Slot} {x4 : Int32} (hK : wK G g s.heap.size aM s) (hW : Wd G g ad n s.heap.size s.heap σ H locs) (hl : lv_has ls 8 [(0, .ref b), (1, .ref (ad (0))), (2, .ref (ad (27))), (3, .ref (ad (26))), (4, .int x4)]) (hs : ∀ j : Nat, j < 7 → vp_in (x4 + nI j) L) (hC : cells + 12 ≤ room_1.cells) (hSl : slots + 669 ≤ room_1.slots) {z : Nat × St} (hF : F_lc_5 xs x4 n σ = some z)
    (kk : ∀ (ad : Nat → Nat) (H : Heap) (locs : List Loc) (ls : Array Slot), Wd G g ad z.1 s.heap.size s.heap z.2 H locs → lv_has ls 8 [(0, .ref b), (1, .ref (ad (0))), (2, .ref (ad (27))), (3, .ref (ad (26))), (4, .int x4)] → W p l e room_1 s m #[Value.ref b] below meth c H locs (cells + 12) (slots + 669) (lw_Z below #[Value.ref b] s) (F0 m 1209 ls [])) : W p l e room_1 s m #[Value.ref b] below meth c H locs cells slots (lw_Z below #[Value.ref b] s) (F0 m 475 ls []) := by
  obtain ⟨hx, hb, hr, hml, hown, -, hX, hbl, hlocks, -⟩ := C0
  have hbA : ¬ (fun q : Nat => s.heap.size ≤ q) b := Nat.not_le.mpr hbl
  unfold F_lc_5 at hF
  refine lv_aload_n hx hb dL_law_475 rfl (lv_at hl 1 rfl) ?_
  refine lv_aload_n hx hb dL_law_476 rfl (lv_at hl 0 rfl) ?_
  refine lv_iload hx hb dL_law_477 (lv_at hl 4 rfl) ?_
  refine lv_iconst (v := 1) hx hb dL_law_479 (by decide) ?_
  refine lv_iadd hx hb dL_law_480 ?_
  refine va_sld hx hb hX hbl hbA hW.2.2 (show vp_in (x4 + 1) L from hs 1 (by decide)) dL_law_481 ?_
  refine lv_aload_n hx hb dL_law_482 rfl (lv_at hl 0 rfl) ?_
  refine lv_iload hx hb dL_law_483 (lv_at hl 4 rfl) ?_
  refine lv_iconst (v := 2) hx hb dL_law_485 (by decide) ?_
  refine lv_iadd hx hb dL_law_486 ?_
  refine va_sld hx hb hX hbl hbA hW.2.2 (show vp_in (x4 + 2) L from hs 2 (by decide)) dL_law_487 ?_
  refine lv_i2l (v := (Int32.toInt64 (xs (Int32.toNatClampNeg (x4 + 2))))) hx hb dL_law_488 rfl ?_
  refine lv_bipush (v := 32) hx hb dL_law_489 (by decide) ?_
  refine lv_lshl (v := ((Int32.toInt64 (xs (Int32.toNatClampNeg (x4 + 2)))) <<< ((Int32.toInt64 32) &&& 63))) hx hb dL_law_491 rfl ?_
  refine lv_aload_n hx hb dL_law_492 rfl (lv_at hl 0 rfl) ?_
  refine lv_iload hx hb dL_law_493 (lv_at hl 4 rfl) ?_
  refine lv_iconst (v := 3) hx hb dL_law_495 (by decide) ?_
  refine lv_iadd hx hb dL_law_496 ?_
  refine va_sld hx hb hX hbl hbA hW.2.2 (show vp_in (x4 + 3) L from hs 3 (by decide)) dL_law_497 ?_
  refine lv_i2l (v := (Int32.toInt64 (xs (Int32.toNatClampNeg (x4 + 3))))) hx hb dL_law_498 rfl ?_
  refine lv_ldc2 (v := 4294967295) hx hb hown (htA _ aw_648) dL_law_499 ?_
  refine lv_land hx hb dL_law_502 ?_
  refine lv_lor hx hb dL_law_503 ?_
  refine lv_aload_n hx hb dL_law_504 rfl (lv_at hl 0 rfl) ?_
  refine lv_iload hx hb dL_law_505 (lv_at hl 4 rfl) ?_
  refine lv_iconst (v := 4) hx hb dL_law_507 (by decide) ?_
  refine lv_iadd hx hb dL_law_508 ?_
  refine va_sld hx hb hX hbl hbA hW.2.2 (show vp_in (x4 + 4) L from hs 4 (by decide)) dL_law_509 ?_
  refine lv_aload_n hx hb dL_law_510 rfl (lv_at hl 0 rfl) ?_
  refine lv_iload hx hb dL_law_511 (lv_at hl 4 rfl) ?_
  refine lv_iconst (v := 5) hx hb dL_law_513 (by decide) ?_
  refine lv_iadd hx hb dL_law_514 ?_
  refine va_sld hx hb hX hbl hbA hW.2.2 (show vp_in (x4 + 5) L from hs 5 (by decide)) dL_law_515 ?_
  refine lv_aload_n hx hb dL_law_516 rfl (lv_at hl 0 rfl) ?_
  refine lv_iload hx hb dL_law_517 (lv_at hl 4 rfl) ?_
  refine lv_bipush (v := 6) hx hb dL_law_519 (by decide) ?_
  refine lv_iadd hx hb dL_law_521 ?_
  refine va_sld hx hb hX hbl hbA hW.2.2 (show vp_in (x4 + 6) L from hs 6 (by decide)) dL_law_522 ?_
  refine lv_aload_n hx hb dL_law_523 rfl (lv_at hl 3 rfl) ?_
  obtain ⟨y1, hy1, hF⟩ := bd_some hF
  refine rh_bi (vx_runSX (As := [.ref (ad (0)), .int (xs (Int32.toNatClampNeg (x4 + 1))), .long (((Int32.toInt64 (xs (Int32.toNatClampNeg (x4 + 2)))) <<< ((Int32.toInt64 32) &&& 63)) ||| ((Int32.toInt64 (xs (Int32.toNatClampNeg (x4 + 3)))) &&& 4294967295)), .int (xs (Int32.toNatClampNeg (x4 + 4))), .int (xs (Int32.toNatClampNeg (x4 + 5))), .int (xs (Int32.toNatClampNeg (x4 + 6))), .ref (ad (26))]) (rest := []) ⟨hx, hb, hml, hown, htA⟩ (m_L_ask l hst G g ad n s.heap.size aM σ (xs (Int32.toNatClampNeg (x4 + 1))) (((Int32.toInt64 (xs (Int32.toNatClampNeg (x4 + 2)))) <<< ((Int32.toInt64 32) &&& 63)) ||| ((Int32.toInt64 (xs (Int32.toNatClampNeg (x4 + 3)))) &&& 4294967295)) (xs (Int32.toNatClampNeg (x4 + 4))) (xs (Int32.toNatClampNeg (x4 + 5))) (xs (Int32.toNatClampNeg (x4 + 6))) y1 hy1) (vx_cwSW 7 htA (gS aw_696 aw_697 aw_657 gz_L_ask) rfl rfl rfl (by decide +kernel) ⟨Nat.le_of_ble_eq_true rfl, Nat.le_of_ble_eq_true rfl⟩) (r_pre hK hW [.ref (ad (0)), .int (xs (Int32.toNatClampNeg (x4 + 1))), .long (((Int32.toInt64 (xs (Int32.toNatClampNeg (x4 + 2)))) <<< ((Int32.toInt64 32) &&& 63)) ||| ((Int32.toInt64 (xs (Int32.toNatClampNeg (x4 + 3)))) &&& 4294967295)), .int (xs (Int32.toNatClampNeg (x4 + 4))), .int (xs (Int32.toNatClampNeg (x4 + 5))), .int (xs (Int32.toNatClampNeg (x4 + 6))), .ref (ad (26))]) rfl rfl hl.1 rfl (lv_room (Nat.le_of_ble_eq_true rfl)) dL_law_524 ⟨by omega, by omega⟩) hW (fun H locs hW => ?_)
  refine lv_istore (lv' := [(5, .int y1.2), (0, .ref b), (1, .ref (ad (0))), (2, .ref (ad (27))), (3, .ref (ad (26))), (4, .int x4)]) hx hb dL_law_527 hl (by decide) rfl (fun ls hl => ?_)
  refine lv_aload_n hx hb dL_law_529 rfl (lv_at hl 3 rfl) ?_
  refine lv_aload_n hx hb dL_law_530 rfl (lv_at hl 1 rfl) ?_
  refine lv_iload hx hb dL_law_531 (lv_at hl 5 rfl) ?_
  refine lv_iconst (v := 1) hx hb dL_law_533 (by decide) ?_
  refine lv_iadd hx hb dL_law_534 ?_
  refine va_sld hx hb hX hbl hbA hW.2.2 (show vp_in (x4 + 1) L from hs 1 (by decide)) dL_law_535 ?_
  refine lv_aload_n hx hb dL_law_536 rfl (lv_at hl 1 rfl) ?_
  refine lv_iload hx hb dL_law_537 (lv_at hl 5 rfl) ?_
  refine lv_iconst (v := 2) hx hb dL_law_539 (by decide) ?_
  refine lv_iadd hx hb dL_law_540 ?_
  refine va_sld hx hb hX hbl hbA hW.2.2 (show vp_in (x4 + 2) L from hs 2 (by decide)) dL_law_541 ?_
  refine lv_i2l (v := (Int32.toInt64 (xs (Int32.toNatClampNeg (x4 + 2))))) hx hb dL_law_542 rfl ?_
  refine lv_bipush (v := 32) hx hb dL_law_543 (by decide) ?_
  refine lv_lshl (v := ((Int32.toInt64 (xs (Int32.toNatClampNeg (x4 + 2)))) <<< ((Int32.toInt64 32) &&& 63))) hx hb dL_law_545 rfl ?_
  refine lv_aload_n hx hb dL_law_546 rfl (lv_at hl 1 rfl) ?_
  refine lv_iload hx hb dL_law_547 (lv_at hl 5 rfl) ?_
  refine lv_iconst (v := 3) hx hb dL_law_549 (by decide) ?_
  refine lv_iadd hx hb dL_law_550 ?_
  refine va_sld hx hb hX hbl hbA hW.2.2 (show vp_in (x4 + 3) L from hs 3 (by decide)) dL_law_551 ?_
  refine lv_i2l (v := (Int32.toInt64 (xs (Int32.toNatClampNeg (x4 + 3))))) hx hb dL_law_552 rfl ?_
  refine lv_ldc2 (v := 4294967295) hx hb hown (htA _ aw_648) dL_law_553 ?_
  refine lv_land hx hb dL_law_556 ?_
  refine lv_lor hx hb dL_law_557 ?_
  refine lv_aload_n hx hb dL_law_558 rfl (lv_at hl 1 rfl) ?_
  refine lv_iload hx hb dL_law_559 (lv_at hl 5 rfl) ?_
  refine lv_iconst (v := 4) hx hb dL_law_561 (by decide) ?_
  refine lv_iadd hx hb dL_law_562 ?_
  refine va_sld hx hb hX hbl hbA hW.2.2 (show vp_in (x4 + 4) L from hs 4 (by decide)) dL_law_563 ?_
  refine lv_aload_n hx hb dL_law_564 rfl (lv_at hl 1 rfl) ?_
  refine lv_iload hx hb dL_law_565 (lv_at hl 5 rfl) ?_
  refine lv_iconst (v := 5) hx hb dL_law_567 (by decide) ?_
  refine lv_iadd hx hb dL_law_568 ?_
  refine va_sld hx hb hX hbl hbA hW.2.2 (show vp_in (x4 + 5) L from hs 5 (by decide)) dL_law_569 ?_
  refine lv_aload_n hx hb dL_law_570 rfl (lv_at hl 1 rfl) ?_
  refine lv_iload hx hb dL_law_571 (lv_at hl 5 rfl) ?_
  refine lv_bipush (v := 6) hx hb dL_law_573 (by decide) ?_
  refine lv_iadd hx hb dL_law_575 ?_
  refine va_sld hx hb hX hbl hbA hW.2.2 (show vp_in (x4 + 6) L from hs 6 (by decide)) dL_law_576 ?_
  obtain ⟨y2, hy2, hF⟩ := bd_some hF
  refine r_bi (va_runV (As := [.int (xs (Int32.toNatClampNeg (x4 + 1))), .long (((Int32.toInt64 (xs (Int32.toNatClampNeg (x4 + 2)))) <<< ((Int32.toInt64 32) &&& 63)) ||| ((Int32.toInt64 (xs (Int32.toNatClampNeg (x4 + 3)))) &&& 4294967295)), .int (xs (Int32.toNatClampNeg (x4 + 4))), .int (xs (Int32.toNatClampNeg (x4 + 5))), .int (xs (Int32.toNatClampNeg (x4 + 6)))]) (rest := []) ⟨hx, hb, hml, hown, htA⟩ (m_X7_ask l G g ad n s.heap.size aM y1.1 (xs (Int32.toNatClampNeg (x4 + 1))) (((Int32.toInt64 (xs (Int32.toNatClampNeg (x4 + 2)))) <<< ((Int32.toInt64 32) &&& 63)) ||| ((Int32.toInt64 (xs (Int32.toNatClampNeg (x4 + 3)))) &&& 4294967295)) (xs (Int32.toNatClampNeg (x4 + 4))) (xs (Int32.toNatClampNeg (x4 + 5))) (xs (Int32.toNatClampNeg (x4 + 6))) y2  hy2) (cwV 5 htA (gV aw_699 aw_700 aw_701 aw_382 gz_X7_ask) rfl rfl rfl (by decide +kernel) ⟨Nat.le_of_ble_eq_true rfl, Nat.le_of_ble_eq_true rfl⟩) (r_preV hK hW (27) (tp_lt (by decide)) (cE_k (rfl : kd 27 = 9)) rfl [.int (xs (Int32.toNatClampNeg (x4 + 1))), .long (((Int32.toInt64 (xs (Int32.toNatClampNeg (x4 + 2)))) <<< ((Int32.toInt64 32) &&& 63)) ||| ((Int32.toInt64 (xs (Int32.toNatClampNeg (x4 + 3)))) &&& 4294967295)), .int (xs (Int32.toNatClampNeg (x4 + 4))), .int (xs (Int32.toNatClampNeg (x4 + 5))), .int (xs (Int32.toNatClampNeg (x4 + 6)))]) rfl rfl hl.1 rfl (lv_room (Nat.le_of_ble_eq_true rfl)) dL_law_577 ⟨by omega, by omega⟩) hW (fun H locs hW => ?_)
  refine lv_istore (lv' := [(6, .int y2.2), (5, .int y1.2), (0, .ref b), (1, .ref (ad (0))), (2, .ref (ad (27))), (3, .ref (ad (26))), (4, .int x4)]) hx hb dL_law_580 hl (by decide) rfl (fun ls hl => ?_)
  refine lv_aload_n hx hb dL_law_582 rfl (lv_at hl 4 rfl) ?_
  obtain ⟨y3, hy3, hF⟩ := bd_some hF
  refine r_bi (va_runV (As := []) (rest := []) ⟨hx, hb, hml, hown, htA⟩ (m_X7_thrown l G g ad n s.heap.size aM y2.1 y3  hy3) (cwV 0 htA (gV aw_663 aw_664 aw_665 aw_382 gz_X7_thrown) rfl rfl rfl (by decide +kernel) ⟨Nat.le_of_ble_eq_true rfl, Nat.le_of_ble_eq_true rfl⟩) (r_preV hK hW (27) (tp_lt (by decide)) (cE_k (rfl : kd 27 = 9)) rfl []) rfl rfl hl.1 rfl (lv_room (Nat.le_of_ble_eq_true rfl)) dL_law_583 ⟨by omega, by omega⟩) hW (fun H locs hW => ?_)
  refine lv_iload hx hb dL_law_586 (lv_at hl 1 rfl) ?_
  refine lv_icmp_eq (tgt := 593) hx hb dL_law_588 (by decide) (fun hc4 => ?_) (fun hc4 => ?_)
  · replace hF := (if_pos hc4).symm.trans hF
    refine lv_iload hx hb dL_law_593 (lv_at hl 1 rfl) ?_
    refine lv_if_ne (tgt := 610) hx hb dL_law_595 (by decide) (fun hc5 => ?_) (fun hc5 => ?_)
    · replace hF := (if_neg hc5).symm.trans hF
      refine lv_goto (tgt := 1209) hx hb dL_law_610 (by decide) ?_
      have hF := Option.some.inj hF
      subst hF
      refine W.widen (k := cells + 12) (n := slots + 669) (by omega) (by omega) ?_
      exact kk ad _ _ _ hW (lv_sub hl [2, 3, 4, 5, 6] rfl)
    · replace hF := (if_pos hc5).symm.trans hF
      refine lv_aload_n hx hb dL_law_598 rfl (lv_at hl 5 rfl) ?_
      refine lv_iconst (v := 0) hx hb dL_law_599 (by decide) ?_
      obtain ⟨hg6, hF⟩ := gd_some hF
      refine r_lald hx hb hK hW (26) (tp_lt (by decide)) (rfl : kd 26 = 7) hg6 dL_law_600 ?_
      refine lv_iload hx hb dL_law_601 (lv_at hl 0 rfl) ?_
      refine lv_i2l (v := (Int32.toInt64 y2.2)) hx hb dL_law_603 rfl ?_
      refine W.lcmp hx hb dL_law_604 ?_
      refine lv_if_eq (tgt := 610) hx hb dL_law_605 (by decide) (fun hc7 => ?_) (fun hc7 => ?_)
      · replace hF := (if_pos hc7).symm.trans hF
        refine lv_goto (tgt := 1209) hx hb dL_law_610 (by decide) ?_
        have hF := Option.some.inj hF
        subst hF
        refine W.widen (k := cells + 12) (n := slots + 669) (by omega) (by omega) ?_
        exact kk ad _ _ _ hW (lv_sub hl [2, 3, 4, 5, 6] rfl)
      · replace hF := (if_neg hc7).symm.trans hF
        refine lv_iconst (v := 0) hx hb dL_law_608 (by decide) ?_
        exact absurd hF (fun h9 => nomatch h9)
  · replace hF := (if_neg hc4).symm.trans hF
    refine lv_iconst (v := 0) hx hb dL_law_591 (by decide) ?_
    exact absurd hF (fun h9 => nomatch h9)
def F_lc_6 (xs : Nat → Int32) (x4 : Int32) (n : Nat) (σ : St) : Option (Nat × St) := (F_L_spoil σ (xs (Int32.toNatClampNeg (x4 + 1))) (xs (Int32.toNatClampNeg (x4 + 2)))).bind (fun y1 => (F_X7_spoil y1.1 (xs (Int32.toNatClampNeg (x4 + 1))) (xs (Int32.toNatClampNeg (x4 + 2)))).bind (fun y2 => (F_X7_thrown y2).bind (fun y3 => if y3.2 = y1.2 then some (n, y3.1) else none)))
set_option maxHeartbeats 4000000 in
set_option maxRecDepth 100000 in
theorem lc_6 {p : Program} {e : Env} {s : State} {m : MethodId} {below : List Frame} {meth : Method} {c : Code} (l : Launch) (hst : l.stackTraces = false) {b L : Nat} {xs : Nat → Int32} (C0 : lw_At p s m meth c b L xs) (htA : ∀ w ∈ AL, w.before #[Value.ref b] s = true) {G : va_G} {g : Nat → ClassId} {ad : Nat → Nat} {aM n cells slots : Nat} {σ : St} {H : Heap} {locs : List Loc} {ls : Array Slot} {x4 : Int32} (hK : wK G g s.heap.size aM s) (hW : Wd G g ad n s.heap.size s.heap σ H locs) (hl : lv_has ls 8 [(0, .ref b), (1, .ref (ad (0))), (2, .ref (ad (27))), (3, .ref (ad (26))), (4, .int x4)]) (hs : ∀ j : Nat, j < 7 → vp_in (x4 + nI j) L) (hC : cells + 12 ≤ room_1.cells) (hSl : slots + 669 ≤ room_1.slots) {z : Nat × St} (hF : F_lc_6 xs x4 n σ = some z)
    (kk : ∀ (ad : Nat → Nat) (H : Heap) (locs : List Loc) (ls : Array Slot), Wd G g ad z.1 s.heap.size s.heap z.2 H locs → lv_has ls 8 [(0, .ref b), (1, .ref (ad (0))), (2, .ref (ad (27))), (3, .ref (ad (26))), (4, .int x4)] → W p l e room_1 s m #[Value.ref b] below meth c H locs (cells + 12) (slots + 669) (lw_Z below #[Value.ref b] s) (F0 m 1209 ls [])) : W p l e room_1 s m #[Value.ref b] below meth c H locs cells slots (lw_Z below #[Value.ref b] s) (F0 m 613 ls []) := by
  obtain ⟨hx, hb, hr, hml, hown, -, hX, hbl, hlocks, -⟩ := C0
  have hbA : ¬ (fun q : Nat => s.heap.size ≤ q) b := Nat.not_le.mpr hbl
  unfold F_lc_6 at hF
  refine lv_aload_n hx hb dL_law_613 rfl (lv_at hl 1 rfl) ?_
  refine lv_aload_n hx hb dL_law_614 rfl (lv_at hl 0 rfl) ?_
  refine lv_iload hx hb dL_law_615 (lv_at hl 4 rfl) ?_
  refine lv_iconst (v := 1) hx hb dL_law_617 (by decide) ?_
  refine lv_iadd hx hb dL_law_618 ?_
  refine va_sld hx hb hX hbl hbA hW.2.2 (show vp_in (x4 + 1) L from hs 1 (by decide)) dL_law_619 ?_
  refine lv_aload_n hx hb dL_law_620 rfl (lv_at hl 0 rfl) ?_
  refine lv_iload hx hb dL_law_621 (lv_at hl 4 rfl) ?_
  refine lv_iconst (v := 2) hx hb dL_law_623 (by decide) ?_
  refine lv_iadd hx hb dL_law_624 ?_
  refine va_sld hx hb hX hbl hbA hW.2.2 (show vp_in (x4 + 2) L from hs 2 (by decide)) dL_law_625 ?_
  obtain ⟨y1, hy1, hF⟩ := bd_some hF
  refine rh_bi (vx_runSX (As := [.ref (ad (0)), .int (xs (Int32.toNatClampNeg (x4 + 1))), .int (xs (Int32.toNatClampNeg (x4 + 2)))]) (rest := []) ⟨hx, hb, hml, hown, htA⟩ (m_L_spoil l hst G g ad n s.heap.size aM σ (xs (Int32.toNatClampNeg (x4 + 1))) (xs (Int32.toNatClampNeg (x4 + 2))) y1 hy1) (vx_cwSW 3 htA (gS aw_703 aw_704 aw_657 gz_L_spoil) rfl rfl rfl (by decide +kernel) ⟨Nat.le_of_ble_eq_true rfl, Nat.le_of_ble_eq_true rfl⟩) (r_pre hK hW [.ref (ad (0)), .int (xs (Int32.toNatClampNeg (x4 + 1))), .int (xs (Int32.toNatClampNeg (x4 + 2)))]) rfl rfl hl.1 rfl (lv_room (Nat.le_of_ble_eq_true rfl)) dL_law_626 ⟨by omega, by omega⟩) hW (fun H locs hW => ?_)
  refine lv_istore (lv' := [(5, .int y1.2), (0, .ref b), (1, .ref (ad (0))), (2, .ref (ad (27))), (3, .ref (ad (26))), (4, .int x4)]) hx hb dL_law_629 hl (by decide) rfl (fun ls hl => ?_)
  refine lv_aload_n hx hb dL_law_631 rfl (lv_at hl 3 rfl) ?_
  refine lv_aload_n hx hb dL_law_632 rfl (lv_at hl 1 rfl) ?_
  refine lv_iload hx hb dL_law_633 (lv_at hl 5 rfl) ?_
  refine lv_iconst (v := 1) hx hb dL_law_635 (by decide) ?_
  refine lv_iadd hx hb dL_law_636 ?_
  refine va_sld hx hb hX hbl hbA hW.2.2 (show vp_in (x4 + 1) L from hs 1 (by decide)) dL_law_637 ?_
  refine lv_aload_n hx hb dL_law_638 rfl (lv_at hl 1 rfl) ?_
  refine lv_iload hx hb dL_law_639 (lv_at hl 5 rfl) ?_
  refine lv_iconst (v := 2) hx hb dL_law_641 (by decide) ?_
  refine lv_iadd hx hb dL_law_642 ?_
  refine va_sld hx hb hX hbl hbA hW.2.2 (show vp_in (x4 + 2) L from hs 2 (by decide)) dL_law_643 ?_
  obtain ⟨y2, hy2, hF⟩ := bd_some hF
  refine r_bv (va_runV (As := [.int (xs (Int32.toNatClampNeg (x4 + 1))), .int (xs (Int32.toNatClampNeg (x4 + 2)))]) (rest := []) ⟨hx, hb, hml, hown, htA⟩ (m_X7_spoil l G g ad n s.heap.size aM y1.1 (xs (Int32.toNatClampNeg (x4 + 1))) (xs (Int32.toNatClampNeg (x4 + 2))) y2  hy2) (cwV 2 htA (gV aw_706 aw_707 aw_708 aw_382 gz_X7_spoil) rfl rfl rfl (by decide +kernel) ⟨Nat.le_of_ble_eq_true rfl, Nat.le_of_ble_eq_true rfl⟩) (r_preV hK hW (27) (tp_lt (by decide)) (cE_k (rfl : kd 27 = 9)) rfl [.int (xs (Int32.toNatClampNeg (x4 + 1))), .int (xs (Int32.toNatClampNeg (x4 + 2)))]) rfl rfl hl.1 rfl (lv_room (Nat.le_of_ble_eq_true rfl)) dL_law_644 ⟨by omega, by omega⟩) hW (fun H locs hW => ?_)
  refine lv_aload_n hx hb dL_law_647 rfl (lv_at hl 3 rfl) ?_
  obtain ⟨y3, hy3, hF⟩ := bd_some hF
  refine r_bi (va_runV (As := []) (rest := []) ⟨hx, hb, hml, hown, htA⟩ (m_X7_thrown l G g ad n s.heap.size aM y2 y3  hy3) (cwV 0 htA (gV aw_663 aw_664 aw_665 aw_382 gz_X7_thrown) rfl rfl rfl (by decide +kernel) ⟨Nat.le_of_ble_eq_true rfl, Nat.le_of_ble_eq_true rfl⟩) (r_preV hK hW (27) (tp_lt (by decide)) (cE_k (rfl : kd 27 = 9)) rfl []) rfl rfl hl.1 rfl (lv_room (Nat.le_of_ble_eq_true rfl)) dL_law_648 ⟨by omega, by omega⟩) hW (fun H locs hW => ?_)
  refine lv_iload hx hb dL_law_651 (lv_at hl 0 rfl) ?_
  refine lv_icmp_eq (tgt := 658) hx hb dL_law_653 (by decide) (fun hc4 => ?_) (fun hc4 => ?_)
  · replace hF := (if_pos hc4).symm.trans hF
    refine lv_goto (tgt := 1209) hx hb dL_law_658 (by decide) ?_
    have hF := Option.some.inj hF
    subst hF
    refine W.widen (k := cells + 12) (n := slots + 669) (by omega) (by omega) ?_
    exact kk ad _ _ _ hW (lv_sub hl [1, 2, 3, 4, 5] rfl)
  · replace hF := (if_neg hc4).symm.trans hF
    refine lv_iconst (v := 0) hx hb dL_law_656 (by decide) ?_
    exact absurd hF (fun h9 => nomatch h9)
def F_lc_7 (xs : Nat → Int32) (x4 : Int32) (n : Nat) (σ : St) : Option (Nat × St) := (F_X6_frames σ).bind (fun y1 => (F_X7_frames y1.1).bind (fun y2 => if y1.2 = y2.2 then some (n, y2.1) else none))
set_option maxHeartbeats 4000000 in
set_option maxRecDepth 100000 in
theorem lc_7 {p : Program} {e : Env} {s : State} {m : MethodId} {below : List Frame} {meth : Method} {c : Code} (l : Launch) (hst : l.stackTraces = false) {b L : Nat} {xs : Nat → Int32} (C0 : lw_At p s m meth c b L xs) (htA : ∀ w ∈ AL, w.before #[Value.ref b] s = true) {G : va_G} {g : Nat → ClassId} {ad : Nat → Nat} {aM n cells slots : Nat} {σ : St} {H : Heap} {locs : List Loc} {ls : Array Slot} {x4 : Int32} (hK : wK G g s.heap.size aM s) (hW : Wd G g ad n s.heap.size s.heap σ H locs) (hl : lv_has ls 8 [(0, .ref b), (1, .ref (ad (0))), (2, .ref (ad (27))), (3, .ref (ad (26))), (4, .int x4)]) (hs : ∀ j : Nat, j < 7 → vp_in (x4 + nI j) L) (hC : cells + 12 ≤ room_1.cells) (hSl : slots + 669 ≤ room_1.slots) {z : Nat × St} (hF : F_lc_7 xs x4 n σ = some z)
    (kk : ∀ (ad : Nat → Nat) (H : Heap) (locs : List Loc) (ls : Array Slot), Wd G g ad z.1 s.heap.size s.heap z.2 H locs → lv_has ls 8 [(0, .ref b), (1, .ref (ad (0))), (2, .ref (ad (27))), (3, .ref (ad (26))), (4, .int x4)] → W p l e room_1 s m #[Value.ref b] below meth c H locs (cells + 12) (slots + 669) (lw_Z below #[Value.ref b] s) (F0 m 1209 ls [])) : W p l e room_1 s m #[Value.ref b] below meth c H locs cells slots (lw_Z below #[Value.ref b] s) (F0 m 661 ls []) := by
  obtain ⟨hx, hb, hr, hml, hown, -, hX, hbl, hlocks, -⟩ := C0
  have hbA : ¬ (fun q : Nat => s.heap.size ≤ q) b := Nat.not_le.mpr hbl
  unfold F_lc_7 at hF
  refine lv_aload_n hx hb dL_law_661 rfl (lv_at hl 1 rfl) ?_
  obtain ⟨y1, hy1, hF⟩ := bd_some hF
  refine r_bi (va_runV (As := []) (rest := []) ⟨hx, hb, hml, hown, htA⟩ (m_X6_frames l G g ad n s.heap.size aM σ y1  hy1) (cwV 0 htA (gV aw_710 aw_711 aw_712 aw_52 gz_X6_frames) rfl rfl rfl (by decide +kernel) ⟨Nat.le_of_ble_eq_true rfl, Nat.le_of_ble_eq_true rfl⟩) (r_preV hK hW (0) (tp_lt (by decide)) (cE_k (rfl : kd 0 = 1)) rfl []) rfl rfl hl.1 rfl (lv_room (Nat.le_of_ble_eq_true rfl)) dL_law_662 ⟨by omega, by omega⟩) hW (fun H locs hW => ?_)
  refine lv_aload_n hx hb dL_law_665 rfl (lv_at hl 2 rfl) ?_
  obtain ⟨y2, hy2, hF⟩ := bd_some hF
  refine r_bi (va_runV (As := []) (rest := [.int y1.2]) ⟨hx, hb, hml, hown, htA⟩ (m_X7_frames l G g ad n s.heap.size aM y1.1 y2  hy2) (cwV 0 htA (gV aw_714 aw_715 aw_716 aw_382 gz_X7_frames) rfl rfl rfl (by decide +kernel) ⟨Nat.le_of_ble_eq_true rfl, Nat.le_of_ble_eq_true rfl⟩) (r_preV hK hW (27) (tp_lt (by decide)) (cE_k (rfl : kd 27 = 9)) rfl []) rfl rfl hl.1 rfl (lv_room (Nat.le_of_ble_eq_true rfl)) dL_law_666 ⟨by omega, by omega⟩) hW (fun H locs hW => ?_)
  refine lv_icmp_eq (tgt := 1209) hx hb dL_law_669 (by decide) (fun hc3 => ?_) (fun hc3 => ?_)
  · replace hF := (if_pos hc3).symm.trans hF
    have hF := Option.some.inj hF
    subst hF
    refine W.widen (k := cells + 12) (n := slots + 669) (by omega) (by omega) ?_
    exact kk ad _ _ _ hW (lv_sub hl [0, 1, 2, 3, 4] rfl)
  · replace hF := (if_neg hc3).symm.trans hF
    refine lv_iconst (v := 0) hx hb dL_law_672 (by decide) ?_
    exact absurd hF (fun h9 => nomatch h9)
def F_lc_8 (xs : Nat → Int32) (x4 : Int32) (n : Nat) (σ : St) : Option (Nat × St) := (F_L_about n σ (xs (Int32.toNatClampNeg (x4 + 1))) (xs (Int32.toNatClampNeg (x4 + 2)))).bind (fun y1 => (F_X7_about y1.1 (xs (Int32.toNatClampNeg (x4 + 1))) (xs (Int32.toNatClampNeg (x4 + 2)))).bind (fun y2 => (F_X7_thrown y2.1).bind (fun y3 => if y3.2 = y1.2 then if y1.2 = 0 then gd (ib 0 (ln (26))) (if (lg_cmp (y3.1.2 (26) (Int32.toNatClampNeg 0)) (Int32.toInt64 y2.2)) = 0 then some (n, y3.1) else none) else some (n, y3.1) else none)))
set_option maxHeartbeats 4000000 in
set_option maxRecDepth 100000 in
theorem lc_8 {p : Program} {e : Env} {s : State} {m : MethodId} {below : List Frame} {meth : Method} {c : Code} (l : Launch) (hst : l.stackTraces = false) {b L : Nat} {xs : Nat → Int32} (C0 : lw_At p s m meth c b L xs) (htA : ∀ w ∈ AL, w.before #[Value.ref b] s = true) {G : va_G} {g : Nat → ClassId} {ad : Nat → Nat} {aM n cells slots : Nat} {σ : St} {H : Heap} {locs : List Loc} {ls : Array Slot} {x4 : Int32} (hK : wK G g s.heap.size aM s) (hW : Wd G g ad n s.heap.size s.heap σ H locs) (hl : lv_has ls 8 [(0, .ref b), (1, .ref (ad (0))), (2, .ref (ad (27))), (3, .ref (ad (26))), (4, .int x4)]) (hs : ∀ j : Nat, j < 7 → vp_in (x4 + nI j) L) (hC : cells + 12 ≤ room_1.cells) (hSl : slots + 669 ≤ room_1.slots) {z : Nat × St} (hF : F_lc_8 xs x4 n σ = some z)
    (kk : ∀ (ad : Nat → Nat) (H : Heap) (locs : List Loc) (ls : Array Slot), Wd G g ad z.1 s.heap.size s.heap z.2 H locs → lv_has ls 8 [(0, .ref b), (1, .ref (ad (0))), (2, .ref (ad (27))), (3, .ref (ad (26))), (4, .int x4)] → W p l e room_1 s m #[Value.ref b] below meth c H locs (cells + 12) (slots + 669) (lw_Z below #[Value.ref b] s) (F0 m 1209 ls [])) : W p l e room_1 s m #[Value.ref b] below meth c H locs cells slots (lw_Z below #[Value.ref b] s) (F0 m 674 ls []) := by
  obtain ⟨hx, hb, hr, hml, hown, -, hX, hbl, hlocks, -⟩ := C0
  have hbA : ¬ (fun q : Nat => s.heap.size ≤ q) b := Nat.not_le.mpr hbl
  unfold F_lc_8 at hF
  refine lv_aload_n hx hb dL_law_674 rfl (lv_at hl 1 rfl) ?_
  refine lv_aload_n hx hb dL_law_675 rfl (lv_at hl 0 rfl) ?_
  refine lv_iload hx hb dL_law_676 (lv_at hl 4 rfl) ?_
  refine lv_iconst (v := 1) hx hb dL_law_678 (by decide) ?_
  refine lv_iadd hx hb dL_law_679 ?_
  refine va_sld hx hb hX hbl hbA hW.2.2 (show vp_in (x4 + 1) L from hs 1 (by decide)) dL_law_680 ?_
  refine lv_aload_n hx hb dL_law_681 rfl (lv_at hl 0 rfl) ?_
  refine lv_iload hx hb dL_law_682 (lv_at hl 4 rfl) ?_
  refine lv_iconst (v := 2) hx hb dL_law_684 (by decide) ?_
  refine lv_iadd hx hb dL_law_685 ?_
  refine va_sld hx hb hX hbl hbA hW.2.2 (show vp_in (x4 + 2) L from hs 2 (by decide)) dL_law_686 ?_
  refine lv_aload_n hx hb dL_law_687 rfl (lv_at hl 3 rfl) ?_
  obtain ⟨y1, hy1, hF⟩ := bd_some hF
  refine rh_bi (vx_runSX (As := [.ref (ad (0)), .int (xs (Int32.toNatClampNeg (x4 + 1))), .int (xs (Int32.toNatClampNeg (x4 + 2))), .ref (ad (26))]) (rest := []) ⟨hx, hb, hml, hown, htA⟩ (m_L_about l hst G g ad n s.heap.size aM σ (xs (Int32.toNatClampNeg (x4 + 1))) (xs (Int32.toNatClampNeg (x4 + 2))) y1 hy1) (vx_cwSW 4 htA (gS aw_718 aw_719 aw_657 gz_L_about) rfl rfl rfl (by decide +kernel) ⟨Nat.le_of_ble_eq_true rfl, Nat.le_of_ble_eq_true rfl⟩) (r_pre hK hW [.ref (ad (0)), .int (xs (Int32.toNatClampNeg (x4 + 1))), .int (xs (Int32.toNatClampNeg (x4 + 2))), .ref (ad (26))]) rfl rfl hl.1 rfl (lv_room (Nat.le_of_ble_eq_true rfl)) dL_law_688 ⟨by omega, by omega⟩) hW (fun H locs hW => ?_)
  refine lv_istore (lv' := [(5, .int y1.2), (0, .ref b), (1, .ref (ad (0))), (2, .ref (ad (27))), (3, .ref (ad (26))), (4, .int x4)]) hx hb dL_law_691 hl (by decide) rfl (fun ls hl => ?_)
  refine lv_aload_n hx hb dL_law_693 rfl (lv_at hl 3 rfl) ?_
  refine lv_aload_n hx hb dL_law_694 rfl (lv_at hl 1 rfl) ?_
  refine lv_iload hx hb dL_law_695 (lv_at hl 5 rfl) ?_
  refine lv_iconst (v := 1) hx hb dL_law_697 (by decide) ?_
  refine lv_iadd hx hb dL_law_698 ?_
  refine va_sld hx hb hX hbl hbA hW.2.2 (show vp_in (x4 + 1) L from hs 1 (by decide)) dL_law_699 ?_
  refine lv_aload_n hx hb dL_law_700 rfl (lv_at hl 1 rfl) ?_
  refine lv_iload hx hb dL_law_701 (lv_at hl 5 rfl) ?_
  refine lv_iconst (v := 2) hx hb dL_law_703 (by decide) ?_
  refine lv_iadd hx hb dL_law_704 ?_
  refine va_sld hx hb hX hbl hbA hW.2.2 (show vp_in (x4 + 2) L from hs 2 (by decide)) dL_law_705 ?_
  obtain ⟨y2, hy2, hF⟩ := bd_some hF
  refine r_bi (va_runV (As := [.int (xs (Int32.toNatClampNeg (x4 + 1))), .int (xs (Int32.toNatClampNeg (x4 + 2)))]) (rest := []) ⟨hx, hb, hml, hown, htA⟩ (m_X7_about l G g ad n s.heap.size aM y1.1 (xs (Int32.toNatClampNeg (x4 + 1))) (xs (Int32.toNatClampNeg (x4 + 2))) y2  hy2) (cwV 2 htA (gV aw_721 aw_722 aw_723 aw_382 gz_X7_about) rfl rfl rfl (by decide +kernel) ⟨Nat.le_of_ble_eq_true rfl, Nat.le_of_ble_eq_true rfl⟩) (r_preV hK hW (27) (tp_lt (by decide)) (cE_k (rfl : kd 27 = 9)) rfl [.int (xs (Int32.toNatClampNeg (x4 + 1))), .int (xs (Int32.toNatClampNeg (x4 + 2)))]) rfl rfl hl.1 rfl (lv_room (Nat.le_of_ble_eq_true rfl)) dL_law_706 ⟨by omega, by omega⟩) hW (fun H locs hW => ?_)
  refine lv_istore (lv' := [(6, .int y2.2), (5, .int y1.2), (0, .ref b), (1, .ref (ad (0))), (2, .ref (ad (27))), (3, .ref (ad (26))), (4, .int x4)]) hx hb dL_law_709 hl (by decide) rfl (fun ls hl => ?_)
  refine lv_aload_n hx hb dL_law_711 rfl (lv_at hl 4 rfl) ?_
  obtain ⟨y3, hy3, hF⟩ := bd_some hF
  refine r_bi (va_runV (As := []) (rest := []) ⟨hx, hb, hml, hown, htA⟩ (m_X7_thrown l G g ad n s.heap.size aM y2.1 y3  hy3) (cwV 0 htA (gV aw_663 aw_664 aw_665 aw_382 gz_X7_thrown) rfl rfl rfl (by decide +kernel) ⟨Nat.le_of_ble_eq_true rfl, Nat.le_of_ble_eq_true rfl⟩) (r_preV hK hW (27) (tp_lt (by decide)) (cE_k (rfl : kd 27 = 9)) rfl []) rfl rfl hl.1 rfl (lv_room (Nat.le_of_ble_eq_true rfl)) dL_law_712 ⟨by omega, by omega⟩) hW (fun H locs hW => ?_)
  refine lv_iload hx hb dL_law_715 (lv_at hl 1 rfl) ?_
  refine lv_icmp_eq (tgt := 722) hx hb dL_law_717 (by decide) (fun hc4 => ?_) (fun hc4 => ?_)
  · replace hF := (if_pos hc4).symm.trans hF
    refine lv_iload hx hb dL_law_722 (lv_at hl 1 rfl) ?_
    refine lv_if_ne (tgt := 739) hx hb dL_law_724 (by decide) (fun hc5 => ?_) (fun hc5 => ?_)
    · replace hF := (if_neg hc5).symm.trans hF
      refine lv_goto (tgt := 1209) hx hb dL_law_739 (by decide) ?_
      have hF := Option.some.inj hF
      subst hF
      refine W.widen (k := cells + 12) (n := slots + 669) (by omega) (by omega) ?_
      exact kk ad _ _ _ hW (lv_sub hl [2, 3, 4, 5, 6] rfl)
    · replace hF := (if_pos hc5).symm.trans hF
      refine lv_aload_n hx hb dL_law_727 rfl (lv_at hl 5 rfl) ?_
      refine lv_iconst (v := 0) hx hb dL_law_728 (by decide) ?_
      obtain ⟨hg6, hF⟩ := gd_some hF
      refine r_lald hx hb hK hW (26) (tp_lt (by decide)) (rfl : kd 26 = 7) hg6 dL_law_729 ?_
      refine lv_iload hx hb dL_law_730 (lv_at hl 0 rfl) ?_
      refine lv_i2l (v := (Int32.toInt64 y2.2)) hx hb dL_law_732 rfl ?_
      refine W.lcmp hx hb dL_law_733 ?_
      refine lv_if_eq (tgt := 739) hx hb dL_law_734 (by decide) (fun hc7 => ?_) (fun hc7 => ?_)
      · replace hF := (if_pos hc7).symm.trans hF
        refine lv_goto (tgt := 1209) hx hb dL_law_739 (by decide) ?_
        have hF := Option.some.inj hF
        subst hF
        refine W.widen (k := cells + 12) (n := slots + 669) (by omega) (by omega) ?_
        exact kk ad _ _ _ hW (lv_sub hl [2, 3, 4, 5, 6] rfl)
      · replace hF := (if_neg hc7).symm.trans hF
        refine lv_iconst (v := 0) hx hb dL_law_737 (by decide) ?_
        exact absurd hF (fun h9 => nomatch h9)
  · replace hF := (if_neg hc4).symm.trans hF
    refine lv_iconst (v := 0) hx hb dL_law_720 (by decide) ?_
    exact absurd hF (fun h9 => nomatch h9)
def F_lc_9 (xs : Nat → Int32) (x4 : Int32) (n : Nat) (σ : St) : Option (Nat × St) := (F_L_rest n σ (xs (Int32.toNatClampNeg (x4 + 1)))).bind (fun y1 => (F_X7_rest y1.1 (xs (Int32.toNatClampNeg (x4 + 1)))).bind (fun y2 => (F_X7_thrown y2.1).bind (fun y3 => if y3.2 = y1.2 then if y1.2 = 0 then gd (ib 0 (ln (26))) (if (lg_cmp (y3.1.2 (26) (Int32.toNatClampNeg 0)) y2.2) = 0 then some (n, y3.1) else none) else some (n, y3.1) else none)))
set_option maxHeartbeats 4000000 in
set_option maxRecDepth 100000 in
theorem lc_9 {p : Program} {e : Env} {s : State} {m : MethodId} {below : List Frame} {meth : Method} {c : Code} (l : Launch) (hst : l.stackTraces = false) {b L : Nat} {xs : Nat → Int32} (C0 : lw_At p s m meth c b L xs) (htA : ∀ w ∈ AL, w.before #[Value.ref b] s = true) {G : va_G} {g : Nat → ClassId} {ad : Nat → Nat} {aM n cells slots : Nat} {σ : St} {H : Heap} {locs : List Loc} {ls : Array Slot} {x4 : Int32} (hK : wK G g s.heap.size aM s) (hW : Wd G g ad n s.heap.size s.heap σ H locs) (hl : lv_has ls 8 [(0, .ref b), (1, .ref (ad (0))), (2, .ref (ad (27))), (3, .ref (ad (26))), (4, .int x4)]) (hs : ∀ j : Nat, j < 7 → vp_in (x4 + nI j) L) (hC : cells + 12 ≤ room_1.cells) (hSl : slots + 669 ≤ room_1.slots) {z : Nat × St} (hF : F_lc_9 xs x4 n σ = some z)
    (kk : ∀ (ad : Nat → Nat) (H : Heap) (locs : List Loc) (ls : Array Slot), Wd G g ad z.1 s.heap.size s.heap z.2 H locs → lv_has ls 8 [(0, .ref b), (1, .ref (ad (0))), (2, .ref (ad (27))), (3, .ref (ad (26))), (4, .int x4)] → W p l e room_1 s m #[Value.ref b] below meth c H locs (cells + 12) (slots + 669) (lw_Z below #[Value.ref b] s) (F0 m 1209 ls [])) : W p l e room_1 s m #[Value.ref b] below meth c H locs cells slots (lw_Z below #[Value.ref b] s) (F0 m 742 ls []) := by
  obtain ⟨hx, hb, hr, hml, hown, -, hX, hbl, hlocks, -⟩ := C0
  have hbA : ¬ (fun q : Nat => s.heap.size ≤ q) b := Nat.not_le.mpr hbl
  unfold F_lc_9 at hF
  refine lv_aload_n hx hb dL_law_742 rfl (lv_at hl 1 rfl) ?_
  refine lv_aload_n hx hb dL_law_743 rfl (lv_at hl 0 rfl) ?_
  refine lv_iload hx hb dL_law_744 (lv_at hl 4 rfl) ?_
  refine lv_iconst (v := 1) hx hb dL_law_746 (by decide) ?_
  refine lv_iadd hx hb dL_law_747 ?_
  refine va_sld hx hb hX hbl hbA hW.2.2 (show vp_in (x4 + 1) L from hs 1 (by decide)) dL_law_748 ?_
  refine lv_aload_n hx hb dL_law_749 rfl (lv_at hl 3 rfl) ?_
  obtain ⟨y1, hy1, hF⟩ := bd_some hF
  refine rh_bi (vx_runSX (As := [.ref (ad (0)), .int (xs (Int32.toNatClampNeg (x4 + 1))), .ref (ad (26))]) (rest := []) ⟨hx, hb, hml, hown, htA⟩ (m_L_rest l hst G g ad n s.heap.size aM σ (xs (Int32.toNatClampNeg (x4 + 1))) y1 hy1) (vx_cwSW 3 htA (gS aw_725 aw_726 aw_657 gz_L_rest) rfl rfl rfl (by decide +kernel) ⟨Nat.le_of_ble_eq_true rfl, Nat.le_of_ble_eq_true rfl⟩) (r_pre hK hW [.ref (ad (0)), .int (xs (Int32.toNatClampNeg (x4 + 1))), .ref (ad (26))]) rfl rfl hl.1 rfl (lv_room (Nat.le_of_ble_eq_true rfl)) dL_law_750 ⟨by omega, by omega⟩) hW (fun H locs hW => ?_)
  refine lv_istore (lv' := [(5, .int y1.2), (0, .ref b), (1, .ref (ad (0))), (2, .ref (ad (27))), (3, .ref (ad (26))), (4, .int x4)]) hx hb dL_law_753 hl (by decide) rfl (fun ls hl => ?_)
  refine lv_aload_n hx hb dL_law_755 rfl (lv_at hl 3 rfl) ?_
  refine lv_aload_n hx hb dL_law_756 rfl (lv_at hl 1 rfl) ?_
  refine lv_iload hx hb dL_law_757 (lv_at hl 5 rfl) ?_
  refine lv_iconst (v := 1) hx hb dL_law_759 (by decide) ?_
  refine lv_iadd hx hb dL_law_760 ?_
  refine va_sld hx hb hX hbl hbA hW.2.2 (show vp_in (x4 + 1) L from hs 1 (by decide)) dL_law_761 ?_
  obtain ⟨y2, hy2, hF⟩ := bd_some hF
  refine r_bl (va_runV (As := [.int (xs (Int32.toNatClampNeg (x4 + 1)))]) (rest := []) ⟨hx, hb, hml, hown, htA⟩ (m_X7_rest l G g ad n s.heap.size aM y1.1 (xs (Int32.toNatClampNeg (x4 + 1))) y2  hy2) (cwV 1 htA (gV aw_728 aw_729 aw_730 aw_382 gz_X7_rest) rfl rfl rfl (by decide +kernel) ⟨Nat.le_of_ble_eq_true rfl, Nat.le_of_ble_eq_true rfl⟩) (r_preV hK hW (27) (tp_lt (by decide)) (cE_k (rfl : kd 27 = 9)) rfl [.int (xs (Int32.toNatClampNeg (x4 + 1)))]) rfl rfl hl.1 rfl (lv_room (Nat.le_of_ble_eq_true rfl)) dL_law_762 ⟨by omega, by omega⟩) hW (fun H locs hW => ?_)
  refine lv_lstore (lv' := [(6, .long y2.2), (5, .int y1.2), (0, .ref b), (1, .ref (ad (0))), (2, .ref (ad (27))), (3, .ref (ad (26))), (4, .int x4)]) hx hb dL_law_765 hl (by decide) rfl (fun ls hl => ?_)
  refine lv_aload_n hx hb dL_law_767 rfl (lv_at hl 4 rfl) ?_
  obtain ⟨y3, hy3, hF⟩ := bd_some hF
  refine r_bi (va_runV (As := []) (rest := []) ⟨hx, hb, hml, hown, htA⟩ (m_X7_thrown l G g ad n s.heap.size aM y2.1 y3  hy3) (cwV 0 htA (gV aw_663 aw_664 aw_665 aw_382 gz_X7_thrown) rfl rfl rfl (by decide +kernel) ⟨Nat.le_of_ble_eq_true rfl, Nat.le_of_ble_eq_true rfl⟩) (r_preV hK hW (27) (tp_lt (by decide)) (cE_k (rfl : kd 27 = 9)) rfl []) rfl rfl hl.1 rfl (lv_room (Nat.le_of_ble_eq_true rfl)) dL_law_768 ⟨by omega, by omega⟩) hW (fun H locs hW => ?_)
  refine lv_iload hx hb dL_law_771 (lv_at hl 1 rfl) ?_
  refine lv_icmp_eq (tgt := 778) hx hb dL_law_773 (by decide) (fun hc4 => ?_) (fun hc4 => ?_)
  · replace hF := (if_pos hc4).symm.trans hF
    refine lv_iload hx hb dL_law_778 (lv_at hl 1 rfl) ?_
    refine lv_if_ne (tgt := 794) hx hb dL_law_780 (by decide) (fun hc5 => ?_) (fun hc5 => ?_)
    · replace hF := (if_neg hc5).symm.trans hF
      refine lv_goto (tgt := 1209) hx hb dL_law_794 (by decide) ?_
      have hF := Option.some.inj hF
      subst hF
      refine W.widen (k := cells + 12) (n := slots + 669) (by omega) (by omega) ?_
      exact kk ad _ _ _ hW (lv_sub hl [2, 3, 4, 5, 6] rfl)
    · replace hF := (if_pos hc5).symm.trans hF
      refine lv_aload_n hx hb dL_law_783 rfl (lv_at hl 5 rfl) ?_
      refine lv_iconst (v := 0) hx hb dL_law_784 (by decide) ?_
      obtain ⟨hg6, hF⟩ := gd_some hF
      refine r_lald hx hb hK hW (26) (tp_lt (by decide)) (rfl : kd 26 = 7) hg6 dL_law_785 ?_
      refine lv_lload hx hb dL_law_786 (lv_at hl 0 rfl) ?_
      refine W.lcmp hx hb dL_law_788 ?_
      refine lv_if_eq (tgt := 794) hx hb dL_law_789 (by decide) (fun hc7 => ?_) (fun hc7 => ?_)
      · replace hF := (if_pos hc7).symm.trans hF
        refine lv_goto (tgt := 1209) hx hb dL_law_794 (by decide) ?_
        have hF := Option.some.inj hF
        subst hF
        refine W.widen (k := cells + 12) (n := slots + 669) (by omega) (by omega) ?_
        exact kk ad _ _ _ hW (lv_sub hl [2, 3, 4, 5, 6] rfl)
      · replace hF := (if_neg hc7).symm.trans hF
        refine lv_iconst (v := 0) hx hb dL_law_792 (by decide) ?_
        exact absurd hF (fun h9 => nomatch h9)
  · replace hF := (if_neg hc4).symm.trans hF
    refine lv_iconst (v := 0) hx hb dL_law_776 (by decide) ?_
    exact absurd hF (fun h9 => nomatch h9)
def F_lc_10 (xs : Nat → Int32) (x4 : Int32) (n : Nat) (σ : St) : Option (Nat × St) := (F_L_level n σ (xs (Int32.toNatClampNeg (x4 + 1))) (xs (Int32.toNatClampNeg (x4 + 2)))).bind (fun y1 => (F_X7_level y1.1 (xs (Int32.toNatClampNeg (x4 + 1))) (xs (Int32.toNatClampNeg (x4 + 2)))).bind (fun y2 => (F_X7_thrown y2.1).bind (fun y3 => if y3.2 = y1.2 then if y1.2 = 0 then gd (ib 0 (ln (26))) (if (lg_cmp (y3.1.2 (26) (Int32.toNatClampNeg 0)) (Int32.toInt64 y2.2)) = 0 then some (n, y3.1) else none) else some (n, y3.1) else none)))
set_option maxHeartbeats 4000000 in
set_option maxRecDepth 100000 in
theorem lc_10 {p : Program} {e : Env} {s : State} {m : MethodId} {below : List Frame} {meth : Method} {c : Code} (l : Launch) (hst : l.stackTraces = false) {b L : Nat} {xs : Nat → Int32} (C0 : lw_At p s m meth c b L xs) (htA : ∀ w ∈ AL, w.before #[Value.ref b] s = true) {G : va_G} {g : Nat → ClassId} {ad : Nat → Nat} {aM n cells slots : Nat} {σ : St} {H : Heap} {locs : List Loc} {ls : Array Slot} {x4 : Int32} (hK : wK G g s.heap.size aM s) (hW : Wd G g ad n s.heap.size s.heap σ H locs) (hl : lv_has ls 8 [(0, .ref b), (1, .ref (ad (0))), (2, .ref (ad (27))), (3, .ref (ad (26))), (4, .int x4)]) (hs : ∀ j : Nat, j < 7 → vp_in (x4 + nI j) L) (hC : cells + 12 ≤ room_1.cells) (hSl : slots + 669 ≤ room_1.slots) {z : Nat × St} (hF : F_lc_10 xs x4 n σ = some z)
    (kk : ∀ (ad : Nat → Nat) (H : Heap) (locs : List Loc) (ls : Array Slot), Wd G g ad z.1 s.heap.size s.heap z.2 H locs → lv_has ls 8 [(0, .ref b), (1, .ref (ad (0))), (2, .ref (ad (27))), (3, .ref (ad (26))), (4, .int x4)] → W p l e room_1 s m #[Value.ref b] below meth c H locs (cells + 12) (slots + 669) (lw_Z below #[Value.ref b] s) (F0 m 1209 ls [])) : W p l e room_1 s m #[Value.ref b] below meth c H locs cells slots (lw_Z below #[Value.ref b] s) (F0 m 797 ls []) := by
  obtain ⟨hx, hb, hr, hml, hown, -, hX, hbl, hlocks, -⟩ := C0
  have hbA : ¬ (fun q : Nat => s.heap.size ≤ q) b := Nat.not_le.mpr hbl
  unfold F_lc_10 at hF
  refine lv_aload_n hx hb dL_law_797 rfl (lv_at hl 1 rfl) ?_
  refine lv_aload_n hx hb dL_law_798 rfl (lv_at hl 0 rfl) ?_
  refine lv_iload hx hb dL_law_799 (lv_at hl 4 rfl) ?_
  refine lv_iconst (v := 1) hx hb dL_law_801 (by decide) ?_
  refine lv_iadd hx hb dL_law_802 ?_
  refine va_sld hx hb hX hbl hbA hW.2.2 (show vp_in (x4 + 1) L from hs 1 (by decide)) dL_law_803 ?_
  refine lv_aload_n hx hb dL_law_804 rfl (lv_at hl 0 rfl) ?_
  refine lv_iload hx hb dL_law_805 (lv_at hl 4 rfl) ?_
  refine lv_iconst (v := 2) hx hb dL_law_807 (by decide) ?_
  refine lv_iadd hx hb dL_law_808 ?_
  refine va_sld hx hb hX hbl hbA hW.2.2 (show vp_in (x4 + 2) L from hs 2 (by decide)) dL_law_809 ?_
  refine lv_aload_n hx hb dL_law_810 rfl (lv_at hl 3 rfl) ?_
  obtain ⟨y1, hy1, hF⟩ := bd_some hF
  refine rh_bi (vx_runSX (As := [.ref (ad (0)), .int (xs (Int32.toNatClampNeg (x4 + 1))), .int (xs (Int32.toNatClampNeg (x4 + 2))), .ref (ad (26))]) (rest := []) ⟨hx, hb, hml, hown, htA⟩ (m_L_level l hst G g ad n s.heap.size aM σ (xs (Int32.toNatClampNeg (x4 + 1))) (xs (Int32.toNatClampNeg (x4 + 2))) y1 hy1) (vx_cwSW 4 htA (gS aw_732 aw_733 aw_657 gz_L_level) rfl rfl rfl (by decide +kernel) ⟨Nat.le_of_ble_eq_true rfl, Nat.le_of_ble_eq_true rfl⟩) (r_pre hK hW [.ref (ad (0)), .int (xs (Int32.toNatClampNeg (x4 + 1))), .int (xs (Int32.toNatClampNeg (x4 + 2))), .ref (ad (26))]) rfl rfl hl.1 rfl (lv_room (Nat.le_of_ble_eq_true rfl)) dL_law_811 ⟨by omega, by omega⟩) hW (fun H locs hW => ?_)
  refine lv_istore (lv' := [(5, .int y1.2), (0, .ref b), (1, .ref (ad (0))), (2, .ref (ad (27))), (3, .ref (ad (26))), (4, .int x4)]) hx hb dL_law_814 hl (by decide) rfl (fun ls hl => ?_)
  refine lv_aload_n hx hb dL_law_816 rfl (lv_at hl 3 rfl) ?_
  refine lv_aload_n hx hb dL_law_817 rfl (lv_at hl 1 rfl) ?_
  refine lv_iload hx hb dL_law_818 (lv_at hl 5 rfl) ?_
  refine lv_iconst (v := 1) hx hb dL_law_820 (by decide) ?_
  refine lv_iadd hx hb dL_law_821 ?_
  refine va_sld hx hb hX hbl hbA hW.2.2 (show vp_in (x4 + 1) L from hs 1 (by decide)) dL_law_822 ?_
  refine lv_aload_n hx hb dL_law_823 rfl (lv_at hl 1 rfl) ?_
  refine lv_iload hx hb dL_law_824 (lv_at hl 5 rfl) ?_
  refine lv_iconst (v := 2) hx hb dL_law_826 (by decide) ?_
  refine lv_iadd hx hb dL_law_827 ?_
  refine va_sld hx hb hX hbl hbA hW.2.2 (show vp_in (x4 + 2) L from hs 2 (by decide)) dL_law_828 ?_
  obtain ⟨y2, hy2, hF⟩ := bd_some hF
  refine r_bi (va_runV (As := [.int (xs (Int32.toNatClampNeg (x4 + 1))), .int (xs (Int32.toNatClampNeg (x4 + 2)))]) (rest := []) ⟨hx, hb, hml, hown, htA⟩ (m_X7_level l G g ad n s.heap.size aM y1.1 (xs (Int32.toNatClampNeg (x4 + 1))) (xs (Int32.toNatClampNeg (x4 + 2))) y2  hy2) (cwV 2 htA (gV aw_735 aw_736 aw_737 aw_382 gz_X7_level) rfl rfl rfl (by decide +kernel) ⟨Nat.le_of_ble_eq_true rfl, Nat.le_of_ble_eq_true rfl⟩) (r_preV hK hW (27) (tp_lt (by decide)) (cE_k (rfl : kd 27 = 9)) rfl [.int (xs (Int32.toNatClampNeg (x4 + 1))), .int (xs (Int32.toNatClampNeg (x4 + 2)))]) rfl rfl hl.1 rfl (lv_room (Nat.le_of_ble_eq_true rfl)) dL_law_829 ⟨by omega, by omega⟩) hW (fun H locs hW => ?_)
  refine lv_istore (lv' := [(6, .int y2.2), (5, .int y1.2), (0, .ref b), (1, .ref (ad (0))), (2, .ref (ad (27))), (3, .ref (ad (26))), (4, .int x4)]) hx hb dL_law_832 hl (by decide) rfl (fun ls hl => ?_)
  refine lv_aload_n hx hb dL_law_834 rfl (lv_at hl 4 rfl) ?_
  obtain ⟨y3, hy3, hF⟩ := bd_some hF
  refine r_bi (va_runV (As := []) (rest := []) ⟨hx, hb, hml, hown, htA⟩ (m_X7_thrown l G g ad n s.heap.size aM y2.1 y3  hy3) (cwV 0 htA (gV aw_663 aw_664 aw_665 aw_382 gz_X7_thrown) rfl rfl rfl (by decide +kernel) ⟨Nat.le_of_ble_eq_true rfl, Nat.le_of_ble_eq_true rfl⟩) (r_preV hK hW (27) (tp_lt (by decide)) (cE_k (rfl : kd 27 = 9)) rfl []) rfl rfl hl.1 rfl (lv_room (Nat.le_of_ble_eq_true rfl)) dL_law_835 ⟨by omega, by omega⟩) hW (fun H locs hW => ?_)
  refine lv_iload hx hb dL_law_838 (lv_at hl 1 rfl) ?_
  refine lv_icmp_eq (tgt := 845) hx hb dL_law_840 (by decide) (fun hc4 => ?_) (fun hc4 => ?_)
  · replace hF := (if_pos hc4).symm.trans hF
    refine lv_iload hx hb dL_law_845 (lv_at hl 1 rfl) ?_
    refine lv_if_ne (tgt := 862) hx hb dL_law_847 (by decide) (fun hc5 => ?_) (fun hc5 => ?_)
    · replace hF := (if_neg hc5).symm.trans hF
      refine lv_goto (tgt := 1209) hx hb dL_law_862 (by decide) ?_
      have hF := Option.some.inj hF
      subst hF
      refine W.widen (k := cells + 12) (n := slots + 669) (by omega) (by omega) ?_
      exact kk ad _ _ _ hW (lv_sub hl [2, 3, 4, 5, 6] rfl)
    · replace hF := (if_pos hc5).symm.trans hF
      refine lv_aload_n hx hb dL_law_850 rfl (lv_at hl 5 rfl) ?_
      refine lv_iconst (v := 0) hx hb dL_law_851 (by decide) ?_
      obtain ⟨hg6, hF⟩ := gd_some hF
      refine r_lald hx hb hK hW (26) (tp_lt (by decide)) (rfl : kd 26 = 7) hg6 dL_law_852 ?_
      refine lv_iload hx hb dL_law_853 (lv_at hl 0 rfl) ?_
      refine lv_i2l (v := (Int32.toInt64 y2.2)) hx hb dL_law_855 rfl ?_
      refine W.lcmp hx hb dL_law_856 ?_
      refine lv_if_eq (tgt := 862) hx hb dL_law_857 (by decide) (fun hc7 => ?_) (fun hc7 => ?_)
      · replace hF := (if_pos hc7).symm.trans hF
        refine lv_goto (tgt := 1209) hx hb dL_law_862 (by decide) ?_
        have hF := Option.some.inj hF
        subst hF
        refine W.widen (k := cells + 12) (n := slots + 669) (by omega) (by omega) ?_
        exact kk ad _ _ _ hW (lv_sub hl [2, 3, 4, 5, 6] rfl)
      · replace hF := (if_neg hc7).symm.trans hF
        refine lv_iconst (v := 0) hx hb dL_law_860 (by decide) ?_
        exact absurd hF (fun h9 => nomatch h9)
  · replace hF := (if_neg hc4).symm.trans hF
    refine lv_iconst (v := 0) hx hb dL_law_843 (by decide) ?_
    exact absurd hF (fun h9 => nomatch h9)
def F_lc_11 (xs : Nat → Int32) (x4 : Int32) (n : Nat) (σ : St) : Option (Nat × St) := (F_L_label n σ (xs (Int32.toNatClampNeg (x4 + 1))) (xs (Int32.toNatClampNeg (x4 + 2)))).bind (fun y1 => (F_X7_label y1.1 (xs (Int32.toNatClampNeg (x4 + 1))) (xs (Int32.toNatClampNeg (x4 + 2)))).bind (fun y2 => (F_X7_thrown y2.1).bind (fun y3 => if y3.2 = y1.2 then if y1.2 = 0 then gd (ib 0 (ln (26))) (if (lg_cmp (y3.1.2 (26) (Int32.toNatClampNeg 0)) (Int32.toInt64 y2.2)) = 0 then some (n, y3.1) else none) else some (n, y3.1) else none)))
set_option maxHeartbeats 4000000 in
set_option maxRecDepth 100000 in
theorem lc_11 {p : Program} {e : Env} {s : State} {m : MethodId} {below : List Frame} {meth : Method} {c : Code} (l : Launch) (hst : l.stackTraces = false) {b L : Nat} {xs : Nat → Int32} (C0 : lw_At p s m meth c b L xs) (htA : ∀ w ∈ AL, w.before #[Value.ref b] s = true) {G : va_G} {g : Nat → ClassId} {ad : Nat → Nat} {aM n cells slots : Nat} {σ : St} {H : Heap} {locs : List Loc} {ls : Array Slot} {x4 : Int32} (hK : wK G g s.heap.size aM s) (hW : Wd G g ad n s.heap.size s.heap σ H locs) (hl : lv_has ls 8 [(0, .ref b), (1, .ref (ad (0))), (2, .ref (ad (27))), (3, .ref (ad (26))), (4, .int x4)]) (hs : ∀ j : Nat, j < 7 → vp_in (x4 + nI j) L) (hC : cells + 12 ≤ room_1.cells) (hSl : slots + 669 ≤ room_1.slots) {z : Nat × St} (hF : F_lc_11 xs x4 n σ = some z)
    (kk : ∀ (ad : Nat → Nat) (H : Heap) (locs : List Loc) (ls : Array Slot), Wd G g ad z.1 s.heap.size s.heap z.2 H locs → lv_has ls 8 [(0, .ref b), (1, .ref (ad (0))), (2, .ref (ad (27))), (3, .ref (ad (26))), (4, .int x4)] → W p l e room_1 s m #[Value.ref b] below meth c H locs (cells + 12) (slots + 669) (lw_Z below #[Value.ref b] s) (F0 m 1209 ls [])) : W p l e room_1 s m #[Value.ref b] below meth c H locs cells slots (lw_Z below #[Value.ref b] s) (F0 m 865 ls []) := by
  obtain ⟨hx, hb, hr, hml, hown, -, hX, hbl, hlocks, -⟩ := C0
  have hbA : ¬ (fun q : Nat => s.heap.size ≤ q) b := Nat.not_le.mpr hbl
  unfold F_lc_11 at hF
  refine lv_aload_n hx hb dL_law_865 rfl (lv_at hl 1 rfl) ?_
  refine lv_aload_n hx hb dL_law_866 rfl (lv_at hl 0 rfl) ?_
  refine lv_iload hx hb dL_law_867 (lv_at hl 4 rfl) ?_
  refine lv_iconst (v := 1) hx hb dL_law_869 (by decide) ?_
  refine lv_iadd hx hb dL_law_870 ?_
  refine va_sld hx hb hX hbl hbA hW.2.2 (show vp_in (x4 + 1) L from hs 1 (by decide)) dL_law_871 ?_
  refine lv_aload_n hx hb dL_law_872 rfl (lv_at hl 0 rfl) ?_
  refine lv_iload hx hb dL_law_873 (lv_at hl 4 rfl) ?_
  refine lv_iconst (v := 2) hx hb dL_law_875 (by decide) ?_
  refine lv_iadd hx hb dL_law_876 ?_
  refine va_sld hx hb hX hbl hbA hW.2.2 (show vp_in (x4 + 2) L from hs 2 (by decide)) dL_law_877 ?_
  refine lv_aload_n hx hb dL_law_878 rfl (lv_at hl 3 rfl) ?_
  obtain ⟨y1, hy1, hF⟩ := bd_some hF
  refine rh_bi (vx_runSX (As := [.ref (ad (0)), .int (xs (Int32.toNatClampNeg (x4 + 1))), .int (xs (Int32.toNatClampNeg (x4 + 2))), .ref (ad (26))]) (rest := []) ⟨hx, hb, hml, hown, htA⟩ (m_L_label l hst G g ad n s.heap.size aM σ (xs (Int32.toNatClampNeg (x4 + 1))) (xs (Int32.toNatClampNeg (x4 + 2))) y1 hy1) (vx_cwSW 4 htA (gS aw_739 aw_740 aw_657 gz_L_label) rfl rfl rfl (by decide +kernel) ⟨Nat.le_of_ble_eq_true rfl, Nat.le_of_ble_eq_true rfl⟩) (r_pre hK hW [.ref (ad (0)), .int (xs (Int32.toNatClampNeg (x4 + 1))), .int (xs (Int32.toNatClampNeg (x4 + 2))), .ref (ad (26))]) rfl rfl hl.1 rfl (lv_room (Nat.le_of_ble_eq_true rfl)) dL_law_879 ⟨by omega, by omega⟩) hW (fun H locs hW => ?_)
  refine lv_istore (lv' := [(5, .int y1.2), (0, .ref b), (1, .ref (ad (0))), (2, .ref (ad (27))), (3, .ref (ad (26))), (4, .int x4)]) hx hb dL_law_882 hl (by decide) rfl (fun ls hl => ?_)
  refine lv_aload_n hx hb dL_law_884 rfl (lv_at hl 3 rfl) ?_
  refine lv_aload_n hx hb dL_law_885 rfl (lv_at hl 1 rfl) ?_
  refine lv_iload hx hb dL_law_886 (lv_at hl 5 rfl) ?_
  refine lv_iconst (v := 1) hx hb dL_law_888 (by decide) ?_
  refine lv_iadd hx hb dL_law_889 ?_
  refine va_sld hx hb hX hbl hbA hW.2.2 (show vp_in (x4 + 1) L from hs 1 (by decide)) dL_law_890 ?_
  refine lv_aload_n hx hb dL_law_891 rfl (lv_at hl 1 rfl) ?_
  refine lv_iload hx hb dL_law_892 (lv_at hl 5 rfl) ?_
  refine lv_iconst (v := 2) hx hb dL_law_894 (by decide) ?_
  refine lv_iadd hx hb dL_law_895 ?_
  refine va_sld hx hb hX hbl hbA hW.2.2 (show vp_in (x4 + 2) L from hs 2 (by decide)) dL_law_896 ?_
  obtain ⟨y2, hy2, hF⟩ := bd_some hF
  refine r_bi (va_runV (As := [.int (xs (Int32.toNatClampNeg (x4 + 1))), .int (xs (Int32.toNatClampNeg (x4 + 2)))]) (rest := []) ⟨hx, hb, hml, hown, htA⟩ (m_X7_label l G g ad n s.heap.size aM y1.1 (xs (Int32.toNatClampNeg (x4 + 1))) (xs (Int32.toNatClampNeg (x4 + 2))) y2  hy2) (cwV 2 htA (gV aw_742 aw_743 aw_744 aw_382 gz_X7_label) rfl rfl rfl (by decide +kernel) ⟨Nat.le_of_ble_eq_true rfl, Nat.le_of_ble_eq_true rfl⟩) (r_preV hK hW (27) (tp_lt (by decide)) (cE_k (rfl : kd 27 = 9)) rfl [.int (xs (Int32.toNatClampNeg (x4 + 1))), .int (xs (Int32.toNatClampNeg (x4 + 2)))]) rfl rfl hl.1 rfl (lv_room (Nat.le_of_ble_eq_true rfl)) dL_law_897 ⟨by omega, by omega⟩) hW (fun H locs hW => ?_)
  refine lv_istore (lv' := [(6, .int y2.2), (5, .int y1.2), (0, .ref b), (1, .ref (ad (0))), (2, .ref (ad (27))), (3, .ref (ad (26))), (4, .int x4)]) hx hb dL_law_900 hl (by decide) rfl (fun ls hl => ?_)
  refine lv_aload_n hx hb dL_law_902 rfl (lv_at hl 4 rfl) ?_
  obtain ⟨y3, hy3, hF⟩ := bd_some hF
  refine r_bi (va_runV (As := []) (rest := []) ⟨hx, hb, hml, hown, htA⟩ (m_X7_thrown l G g ad n s.heap.size aM y2.1 y3  hy3) (cwV 0 htA (gV aw_663 aw_664 aw_665 aw_382 gz_X7_thrown) rfl rfl rfl (by decide +kernel) ⟨Nat.le_of_ble_eq_true rfl, Nat.le_of_ble_eq_true rfl⟩) (r_preV hK hW (27) (tp_lt (by decide)) (cE_k (rfl : kd 27 = 9)) rfl []) rfl rfl hl.1 rfl (lv_room (Nat.le_of_ble_eq_true rfl)) dL_law_903 ⟨by omega, by omega⟩) hW (fun H locs hW => ?_)
  refine lv_iload hx hb dL_law_906 (lv_at hl 1 rfl) ?_
  refine lv_icmp_eq (tgt := 913) hx hb dL_law_908 (by decide) (fun hc4 => ?_) (fun hc4 => ?_)
  · replace hF := (if_pos hc4).symm.trans hF
    refine lv_iload hx hb dL_law_913 (lv_at hl 1 rfl) ?_
    refine lv_if_ne (tgt := 930) hx hb dL_law_915 (by decide) (fun hc5 => ?_) (fun hc5 => ?_)
    · replace hF := (if_neg hc5).symm.trans hF
      refine lv_goto (tgt := 1209) hx hb dL_law_930 (by decide) ?_
      have hF := Option.some.inj hF
      subst hF
      refine W.widen (k := cells + 12) (n := slots + 669) (by omega) (by omega) ?_
      exact kk ad _ _ _ hW (lv_sub hl [2, 3, 4, 5, 6] rfl)
    · replace hF := (if_pos hc5).symm.trans hF
      refine lv_aload_n hx hb dL_law_918 rfl (lv_at hl 5 rfl) ?_
      refine lv_iconst (v := 0) hx hb dL_law_919 (by decide) ?_
      obtain ⟨hg6, hF⟩ := gd_some hF
      refine r_lald hx hb hK hW (26) (tp_lt (by decide)) (rfl : kd 26 = 7) hg6 dL_law_920 ?_
      refine lv_iload hx hb dL_law_921 (lv_at hl 0 rfl) ?_
      refine lv_i2l (v := (Int32.toInt64 y2.2)) hx hb dL_law_923 rfl ?_
      refine W.lcmp hx hb dL_law_924 ?_
      refine lv_if_eq (tgt := 930) hx hb dL_law_925 (by decide) (fun hc7 => ?_) (fun hc7 => ?_)
      · replace hF := (if_pos hc7).symm.trans hF
        refine lv_goto (tgt := 1209) hx hb dL_law_930 (by decide) ?_
        have hF := Option.some.inj hF
        subst hF
        refine W.widen (k := cells + 12) (n := slots + 669) (by omega) (by omega) ?_
        exact kk ad _ _ _ hW (lv_sub hl [2, 3, 4, 5, 6] rfl)
      · replace hF := (if_neg hc7).symm.trans hF
        refine lv_iconst (v := 0) hx hb dL_law_928 (by decide) ?_
        exact absurd hF (fun h9 => nomatch h9)
  · replace hF := (if_neg hc4).symm.trans hF
    refine lv_iconst (v := 0) hx hb dL_law_911 (by decide) ?_
    exact absurd hF (fun h9 => nomatch h9)
def F_lc_12 (xs : Nat → Int32) (x4 : Int32) (n : Nat) (σ : St) : Option (Nat × St) := if (xs (Int32.toNatClampNeg (x4 + 2))) = 0 then (F_L_silence n σ (xs (Int32.toNatClampNeg (x4 + 1))) 0).bind (fun y2 => if (xs (Int32.toNatClampNeg (x4 + 2))) = 0 then (F_X7_silence y2.1 (xs (Int32.toNatClampNeg (x4 + 1))) 0).bind (fun y4 => (F_X7_thrown y4.1).bind (fun y5 => if y5.2 = y2.2 then if y2.2 = 0 then gd (ib 0 (ln (26))) (if (lg_cmp (y5.1.2 (26) (Int32.toNatClampNeg 0)) (Int32.toInt64 y4.2)) = 0 then some (n, y5.1) else none) else some (n, y5.1) else none)) else (F_X7_silence y2.1 (xs (Int32.toNatClampNeg (x4 + 1))) 1).bind (fun y10 => (F_X7_thrown y10.1).bind (fun y11 => if y11.2 = y2.2 then if y2.2 = 0 then gd (ib 0 (ln (26))) (if (lg_cmp (y11.1.2 (26) (Int32.toNatClampNeg 0)) (Int32.toInt64 y10.2)) = 0 then some (n, y11.1) else none) else some (n, y11.1) else none))) else (F_L_silence n σ (xs (Int32.toNatClampNeg (x4 + 1))) 1).bind (fun y16 => if (xs (Int32.toNatClampNeg (x4 + 2))) = 0 then (F_X7_silence y16.1 (xs (Int32.toNatClampNeg (x4 + 1))) 0).bind (fun y18 => (F_X7_thrown y18.1).bind (fun y19 => if y19.2 = y16.2 then if y16.2 = 0 then gd (ib 0 (ln (26))) (if (lg_cmp (y19.1.2 (26) (Int32.toNatClampNeg 0)) (Int32.toInt64 y18.2)) = 0 then some (n, y19.1) else none) else some (n, y19.1) else none)) else (F_X7_silence y16.1 (xs (Int32.toNatClampNeg (x4 + 1))) 1).bind (fun y24 => (F_X7_thrown y24.1).bind (fun y25 => if y25.2 = y16.2 then if y16.2 = 0 then gd (ib 0 (ln (26))) (if (lg_cmp (y25.1.2 (26) (Int32.toNatClampNeg 0)) (Int32.toInt64 y24.2)) = 0 then some (n, y25.1) else none) else some (n, y25.1) else none)))
set_option maxHeartbeats 4000000 in
set_option maxRecDepth 100000 in
theorem lc_12 {p : Program} {e : Env} {s : State} {m : MethodId} {below : List Frame} {meth : Method} {c : Code} (l : Launch) (hst : l.stackTraces = false) {b L : Nat} {xs : Nat → Int32} (C0 : lw_At p s m meth c b L xs) (htA : ∀ w ∈ AL, w.before #[Value.ref b] s = true) {G : va_G} {g : Nat → ClassId} {ad : Nat → Nat} {aM n cells slots : Nat} {σ : St} {H : Heap} {locs : List Loc} {ls : Array Slot} {x4 : Int32} (hK : wK G g s.heap.size aM s) (hW : Wd G g ad n s.heap.size s.heap σ H locs) (hl : lv_has ls 8 [(0, .ref b), (1, .ref (ad (0))), (2, .ref (ad (27))), (3, .ref (ad (26))), (4, .int x4)]) (hs : ∀ j : Nat, j < 7 → vp_in (x4 + nI j) L) (hC : cells + 12 ≤ room_1.cells) (hSl : slots + 669 ≤ room_1.slots) {z : Nat × St} (hF : F_lc_12 xs x4 n σ = some z)
    (kk : ∀ (ad : Nat → Nat) (H : Heap) (locs : List Loc) (ls : Array Slot), Wd G g ad z.1 s.heap.size s.heap z.2 H locs → lv_has ls 8 [(0, .ref b), (1, .ref (ad (0))), (2, .ref (ad (27))), (3, .ref (ad (26))), (4, .int x4)] → W p l e room_1 s m #[Value.ref b] below meth c H locs (cells + 12) (slots + 669) (lw_Z below #[Value.ref b] s) (F0 m 1209 ls [])) : W p l e room_1 s m #[Value.ref b] below meth c H locs cells slots (lw_Z below #[Value.ref b] s) (F0 m 933 ls []) := by
  obtain ⟨hx, hb, hr, hml, hown, -, hX, hbl, hlocks, -⟩ := C0
  have hbA : ¬ (fun q : Nat => s.heap.size ≤ q) b := Nat.not_le.mpr hbl
  unfold F_lc_12 at hF
  refine lv_aload_n hx hb dL_law_933 rfl (lv_at hl 1 rfl) ?_
  refine lv_aload_n hx hb dL_law_934 rfl (lv_at hl 0 rfl) ?_
  refine lv_iload hx hb dL_law_935 (lv_at hl 4 rfl) ?_
  refine lv_iconst (v := 1) hx hb dL_law_937 (by decide) ?_
  refine lv_iadd hx hb dL_law_938 ?_
  refine va_sld hx hb hX hbl hbA hW.2.2 (show vp_in (x4 + 1) L from hs 1 (by decide)) dL_law_939 ?_
  refine lv_aload_n hx hb dL_law_940 rfl (lv_at hl 0 rfl) ?_
  refine lv_iload hx hb dL_law_941 (lv_at hl 4 rfl) ?_
  refine lv_iconst (v := 2) hx hb dL_law_943 (by decide) ?_
  refine lv_iadd hx hb dL_law_944 ?_
  refine va_sld hx hb hX hbl hbA hW.2.2 (show vp_in (x4 + 2) L from hs 2 (by decide)) dL_law_945 ?_
  refine lv_if_eq (tgt := 953) hx hb dL_law_946 (by decide) (fun hc1 => ?_) (fun hc1 => ?_)
  · replace hF := (if_pos hc1).symm.trans hF
    refine lv_iconst (v := 0) hx hb dL_law_953 (by decide) ?_
    refine lv_aload_n hx hb dL_law_954 rfl (lv_at hl 3 rfl) ?_
    obtain ⟨y2, hy2, hF⟩ := bd_some hF
    refine rh_bi (vx_runSX (As := [.ref (ad (0)), .int (xs (Int32.toNatClampNeg (x4 + 1))), .int 0, .ref (ad (26))]) (rest := []) ⟨hx, hb, hml, hown, htA⟩ (m_L_silence l hst G g ad n s.heap.size aM σ (xs (Int32.toNatClampNeg (x4 + 1))) 0 y2 hy2) (vx_cwSW 4 htA (gS aw_746 aw_747 aw_657 gz_L_silence) rfl rfl rfl (by decide +kernel) ⟨Nat.le_of_ble_eq_true rfl, Nat.le_of_ble_eq_true rfl⟩) (r_pre hK hW [.ref (ad (0)), .int (xs (Int32.toNatClampNeg (x4 + 1))), .int 0, .ref (ad (26))]) rfl rfl hl.1 rfl (lv_room (Nat.le_of_ble_eq_true rfl)) dL_law_955 ⟨by omega, by omega⟩) hW (fun H locs hW => ?_)
    refine lv_istore (lv' := [(5, .int y2.2), (0, .ref b), (1, .ref (ad (0))), (2, .ref (ad (27))), (3, .ref (ad (26))), (4, .int x4)]) hx hb dL_law_958 hl (by decide) rfl (fun ls hl => ?_)
    refine lv_aload_n hx hb dL_law_960 rfl (lv_at hl 3 rfl) ?_
    refine lv_aload_n hx hb dL_law_961 rfl (lv_at hl 1 rfl) ?_
    refine lv_iload hx hb dL_law_962 (lv_at hl 5 rfl) ?_
    refine lv_iconst (v := 1) hx hb dL_law_964 (by decide) ?_
    refine lv_iadd hx hb dL_law_965 ?_
    refine va_sld hx hb hX hbl hbA hW.2.2 (show vp_in (x4 + 1) L from hs 1 (by decide)) dL_law_966 ?_
    refine lv_aload_n hx hb dL_law_967 rfl (lv_at hl 1 rfl) ?_
    refine lv_iload hx hb dL_law_968 (lv_at hl 5 rfl) ?_
    refine lv_iconst (v := 2) hx hb dL_law_970 (by decide) ?_
    refine lv_iadd hx hb dL_law_971 ?_
    refine va_sld hx hb hX hbl hbA hW.2.2 (show vp_in (x4 + 2) L from hs 2 (by decide)) dL_law_972 ?_
    refine lv_if_eq (tgt := 980) hx hb dL_law_973 (by decide) (fun hc3 => ?_) (fun hc3 => ?_)
    · replace hF := (if_pos hc3).symm.trans hF
      refine lv_iconst (v := 0) hx hb dL_law_980 (by decide) ?_
      obtain ⟨y4, hy4, hF⟩ := bd_some hF
      refine r_bi (va_runV (As := [.int (xs (Int32.toNatClampNeg (x4 + 1))), .int 0]) (rest := []) ⟨hx, hb, hml, hown, htA⟩ (m_X7_silence l G g ad n s.heap.size aM y2.1 (xs (Int32.toNatClampNeg (x4 + 1))) 0 y4  hy4) (cwV 2 htA (gV aw_749 aw_750 aw_751 aw_382 gz_X7_silence) rfl rfl rfl (by decide +kernel) ⟨Nat.le_of_ble_eq_true rfl, Nat.le_of_ble_eq_true rfl⟩) (r_preV hK hW (27) (tp_lt (by decide)) (cE_k (rfl : kd 27 = 9)) rfl [.int (xs (Int32.toNatClampNeg (x4 + 1))), .int 0]) rfl rfl hl.1 rfl (lv_room (Nat.le_of_ble_eq_true rfl)) dL_law_981 ⟨by omega, by omega⟩) hW (fun H locs hW => ?_)
      refine lv_istore (lv' := [(6, .int y4.2), (5, .int y2.2), (0, .ref b), (1, .ref (ad (0))), (2, .ref (ad (27))), (3, .ref (ad (26))), (4, .int x4)]) hx hb dL_law_984 hl (by decide) rfl (fun ls hl => ?_)
      refine lv_aload_n hx hb dL_law_986 rfl (lv_at hl 4 rfl) ?_
      obtain ⟨y5, hy5, hF⟩ := bd_some hF
      refine r_bi (va_runV (As := []) (rest := []) ⟨hx, hb, hml, hown, htA⟩ (m_X7_thrown l G g ad n s.heap.size aM y4.1 y5  hy5) (cwV 0 htA (gV aw_663 aw_664 aw_665 aw_382 gz_X7_thrown) rfl rfl rfl (by decide +kernel) ⟨Nat.le_of_ble_eq_true rfl, Nat.le_of_ble_eq_true rfl⟩) (r_preV hK hW (27) (tp_lt (by decide)) (cE_k (rfl : kd 27 = 9)) rfl []) rfl rfl hl.1 rfl (lv_room (Nat.le_of_ble_eq_true rfl)) dL_law_987 ⟨by omega, by omega⟩) hW (fun H locs hW => ?_)
      refine lv_iload hx hb dL_law_990 (lv_at hl 1 rfl) ?_
      refine lv_icmp_eq (tgt := 997) hx hb dL_law_992 (by decide) (fun hc6 => ?_) (fun hc6 => ?_)
      · replace hF := (if_pos hc6).symm.trans hF
        refine lv_iload hx hb dL_law_997 (lv_at hl 1 rfl) ?_
        refine lv_if_ne (tgt := 1014) hx hb dL_law_999 (by decide) (fun hc7 => ?_) (fun hc7 => ?_)
        · replace hF := (if_neg hc7).symm.trans hF
          refine lv_goto (tgt := 1209) hx hb dL_law_1014 (by decide) ?_
          have hF := Option.some.inj hF
          subst hF
          refine W.widen (k := cells + 12) (n := slots + 669) (by omega) (by omega) ?_
          exact kk ad _ _ _ hW (lv_sub hl [2, 3, 4, 5, 6] rfl)
        · replace hF := (if_pos hc7).symm.trans hF
          refine lv_aload_n hx hb dL_law_1002 rfl (lv_at hl 5 rfl) ?_
          refine lv_iconst (v := 0) hx hb dL_law_1003 (by decide) ?_
          obtain ⟨hg8, hF⟩ := gd_some hF
          refine r_lald hx hb hK hW (26) (tp_lt (by decide)) (rfl : kd 26 = 7) hg8 dL_law_1004 ?_
          refine lv_iload hx hb dL_law_1005 (lv_at hl 0 rfl) ?_
          refine lv_i2l (v := (Int32.toInt64 y4.2)) hx hb dL_law_1007 rfl ?_
          refine W.lcmp hx hb dL_law_1008 ?_
          refine lv_if_eq (tgt := 1014) hx hb dL_law_1009 (by decide) (fun hc9 => ?_) (fun hc9 => ?_)
          · replace hF := (if_pos hc9).symm.trans hF
            refine lv_goto (tgt := 1209) hx hb dL_law_1014 (by decide) ?_
            have hF := Option.some.inj hF
            subst hF
            refine W.widen (k := cells + 12) (n := slots + 669) (by omega) (by omega) ?_
            exact kk ad _ _ _ hW (lv_sub hl [2, 3, 4, 5, 6] rfl)
          · replace hF := (if_neg hc9).symm.trans hF
            refine lv_iconst (v := 0) hx hb dL_law_1012 (by decide) ?_
            exact absurd hF (fun h9 => nomatch h9)
      · replace hF := (if_neg hc6).symm.trans hF
        refine lv_iconst (v := 0) hx hb dL_law_995 (by decide) ?_
        exact absurd hF (fun h9 => nomatch h9)
    · replace hF := (if_neg hc3).symm.trans hF
      refine lv_iconst (v := 1) hx hb dL_law_976 (by decide) ?_
      refine lv_goto (tgt := 981) hx hb dL_law_977 (by decide) ?_
      obtain ⟨y10, hy10, hF⟩ := bd_some hF
      refine r_bi (va_runV (As := [.int (xs (Int32.toNatClampNeg (x4 + 1))), .int 1]) (rest := []) ⟨hx, hb, hml, hown, htA⟩ (m_X7_silence l G g ad n s.heap.size aM y2.1 (xs (Int32.toNatClampNeg (x4 + 1))) 1 y10  hy10) (cwV 2 htA (gV aw_749 aw_750 aw_751 aw_382 gz_X7_silence) rfl rfl rfl (by decide +kernel) ⟨Nat.le_of_ble_eq_true rfl, Nat.le_of_ble_eq_true rfl⟩) (r_preV hK hW (27) (tp_lt (by decide)) (cE_k (rfl : kd 27 = 9)) rfl [.int (xs (Int32.toNatClampNeg (x4 + 1))), .int 1]) rfl rfl hl.1 rfl (lv_room (Nat.le_of_ble_eq_true rfl)) dL_law_981 ⟨by omega, by omega⟩) hW (fun H locs hW => ?_)
      refine lv_istore (lv' := [(6, .int y10.2), (5, .int y2.2), (0, .ref b), (1, .ref (ad (0))), (2, .ref (ad (27))), (3, .ref (ad (26))), (4, .int x4)]) hx hb dL_law_984 hl (by decide) rfl (fun ls hl => ?_)
      refine lv_aload_n hx hb dL_law_986 rfl (lv_at hl 4 rfl) ?_
      obtain ⟨y11, hy11, hF⟩ := bd_some hF
      refine r_bi (va_runV (As := []) (rest := []) ⟨hx, hb, hml, hown, htA⟩ (m_X7_thrown l G g ad n s.heap.size aM y10.1 y11  hy11) (cwV 0 htA (gV aw_663 aw_664 aw_665 aw_382 gz_X7_thrown) rfl rfl rfl (by decide +kernel) ⟨Nat.le_of_ble_eq_true rfl, Nat.le_of_ble_eq_true rfl⟩) (r_preV hK hW (27) (tp_lt (by decide)) (cE_k (rfl : kd 27 = 9)) rfl []) rfl rfl hl.1 rfl (lv_room (Nat.le_of_ble_eq_true rfl)) dL_law_987 ⟨by omega, by omega⟩) hW (fun H locs hW => ?_)
      refine lv_iload hx hb dL_law_990 (lv_at hl 1 rfl) ?_
      refine lv_icmp_eq (tgt := 997) hx hb dL_law_992 (by decide) (fun hc12 => ?_) (fun hc12 => ?_)
      · replace hF := (if_pos hc12).symm.trans hF
        refine lv_iload hx hb dL_law_997 (lv_at hl 1 rfl) ?_
        refine lv_if_ne (tgt := 1014) hx hb dL_law_999 (by decide) (fun hc13 => ?_) (fun hc13 => ?_)
        · replace hF := (if_neg hc13).symm.trans hF
          refine lv_goto (tgt := 1209) hx hb dL_law_1014 (by decide) ?_
          have hF := Option.some.inj hF
          subst hF
          refine W.widen (k := cells + 12) (n := slots + 669) (by omega) (by omega) ?_
          exact kk ad _ _ _ hW (lv_sub hl [2, 3, 4, 5, 6] rfl)
        · replace hF := (if_pos hc13).symm.trans hF
          refine lv_aload_n hx hb dL_law_1002 rfl (lv_at hl 5 rfl) ?_
          refine lv_iconst (v := 0) hx hb dL_law_1003 (by decide) ?_
          obtain ⟨hg14, hF⟩ := gd_some hF
          refine r_lald hx hb hK hW (26) (tp_lt (by decide)) (rfl : kd 26 = 7) hg14 dL_law_1004 ?_
          refine lv_iload hx hb dL_law_1005 (lv_at hl 0 rfl) ?_
          refine lv_i2l (v := (Int32.toInt64 y10.2)) hx hb dL_law_1007 rfl ?_
          refine W.lcmp hx hb dL_law_1008 ?_
          refine lv_if_eq (tgt := 1014) hx hb dL_law_1009 (by decide) (fun hc15 => ?_) (fun hc15 => ?_)
          · replace hF := (if_pos hc15).symm.trans hF
            refine lv_goto (tgt := 1209) hx hb dL_law_1014 (by decide) ?_
            have hF := Option.some.inj hF
            subst hF
            refine W.widen (k := cells + 12) (n := slots + 669) (by omega) (by omega) ?_
            exact kk ad _ _ _ hW (lv_sub hl [2, 3, 4, 5, 6] rfl)
          · replace hF := (if_neg hc15).symm.trans hF
            refine lv_iconst (v := 0) hx hb dL_law_1012 (by decide) ?_
            exact absurd hF (fun h9 => nomatch h9)
      · replace hF := (if_neg hc12).symm.trans hF
        refine lv_iconst (v := 0) hx hb dL_law_995 (by decide) ?_
        exact absurd hF (fun h9 => nomatch h9)
  · replace hF := (if_neg hc1).symm.trans hF
    refine lv_iconst (v := 1) hx hb dL_law_949 (by decide) ?_
    refine lv_goto (tgt := 954) hx hb dL_law_950 (by decide) ?_
    refine lv_aload_n hx hb dL_law_954 rfl (lv_at hl 3 rfl) ?_
    obtain ⟨y16, hy16, hF⟩ := bd_some hF
    refine rh_bi (vx_runSX (As := [.ref (ad (0)), .int (xs (Int32.toNatClampNeg (x4 + 1))), .int 1, .ref (ad (26))]) (rest := []) ⟨hx, hb, hml, hown, htA⟩ (m_L_silence l hst G g ad n s.heap.size aM σ (xs (Int32.toNatClampNeg (x4 + 1))) 1 y16 hy16) (vx_cwSW 4 htA (gS aw_746 aw_747 aw_657 gz_L_silence) rfl rfl rfl (by decide +kernel) ⟨Nat.le_of_ble_eq_true rfl, Nat.le_of_ble_eq_true rfl⟩) (r_pre hK hW [.ref (ad (0)), .int (xs (Int32.toNatClampNeg (x4 + 1))), .int 1, .ref (ad (26))]) rfl rfl hl.1 rfl (lv_room (Nat.le_of_ble_eq_true rfl)) dL_law_955 ⟨by omega, by omega⟩) hW (fun H locs hW => ?_)
    refine lv_istore (lv' := [(5, .int y16.2), (0, .ref b), (1, .ref (ad (0))), (2, .ref (ad (27))), (3, .ref (ad (26))), (4, .int x4)]) hx hb dL_law_958 hl (by decide) rfl (fun ls hl => ?_)
    refine lv_aload_n hx hb dL_law_960 rfl (lv_at hl 3 rfl) ?_
    refine lv_aload_n hx hb dL_law_961 rfl (lv_at hl 1 rfl) ?_
    refine lv_iload hx hb dL_law_962 (lv_at hl 5 rfl) ?_
    refine lv_iconst (v := 1) hx hb dL_law_964 (by decide) ?_
    refine lv_iadd hx hb dL_law_965 ?_
    refine va_sld hx hb hX hbl hbA hW.2.2 (show vp_in (x4 + 1) L from hs 1 (by decide)) dL_law_966 ?_
    refine lv_aload_n hx hb dL_law_967 rfl (lv_at hl 1 rfl) ?_
    refine lv_iload hx hb dL_law_968 (lv_at hl 5 rfl) ?_
    refine lv_iconst (v := 2) hx hb dL_law_970 (by decide) ?_
    refine lv_iadd hx hb dL_law_971 ?_
    refine va_sld hx hb hX hbl hbA hW.2.2 (show vp_in (x4 + 2) L from hs 2 (by decide)) dL_law_972 ?_
    refine lv_if_eq (tgt := 980) hx hb dL_law_973 (by decide) (fun hc17 => ?_) (fun hc17 => ?_)
    · replace hF := (if_pos hc17).symm.trans hF
      refine lv_iconst (v := 0) hx hb dL_law_980 (by decide) ?_
      obtain ⟨y18, hy18, hF⟩ := bd_some hF
      refine r_bi (va_runV (As := [.int (xs (Int32.toNatClampNeg (x4 + 1))), .int 0]) (rest := []) ⟨hx, hb, hml, hown, htA⟩ (m_X7_silence l G g ad n s.heap.size aM y16.1 (xs (Int32.toNatClampNeg (x4 + 1))) 0 y18  hy18) (cwV 2 htA (gV aw_749 aw_750 aw_751 aw_382 gz_X7_silence) rfl rfl rfl (by decide +kernel) ⟨Nat.le_of_ble_eq_true rfl, Nat.le_of_ble_eq_true rfl⟩) (r_preV hK hW (27) (tp_lt (by decide)) (cE_k (rfl : kd 27 = 9)) rfl [.int (xs (Int32.toNatClampNeg (x4 + 1))), .int 0]) rfl rfl hl.1 rfl (lv_room (Nat.le_of_ble_eq_true rfl)) dL_law_981 ⟨by omega, by omega⟩) hW (fun H locs hW => ?_)
      refine lv_istore (lv' := [(6, .int y18.2), (5, .int y16.2), (0, .ref b), (1, .ref (ad (0))), (2, .ref (ad (27))), (3, .ref (ad (26))), (4, .int x4)]) hx hb dL_law_984 hl (by decide) rfl (fun ls hl => ?_)
      refine lv_aload_n hx hb dL_law_986 rfl (lv_at hl 4 rfl) ?_
      obtain ⟨y19, hy19, hF⟩ := bd_some hF
      refine r_bi (va_runV (As := []) (rest := []) ⟨hx, hb, hml, hown, htA⟩ (m_X7_thrown l G g ad n s.heap.size aM y18.1 y19  hy19) (cwV 0 htA (gV aw_663 aw_664 aw_665 aw_382 gz_X7_thrown) rfl rfl rfl (by decide +kernel) ⟨Nat.le_of_ble_eq_true rfl, Nat.le_of_ble_eq_true rfl⟩) (r_preV hK hW (27) (tp_lt (by decide)) (cE_k (rfl : kd 27 = 9)) rfl []) rfl rfl hl.1 rfl (lv_room (Nat.le_of_ble_eq_true rfl)) dL_law_987 ⟨by omega, by omega⟩) hW (fun H locs hW => ?_)
      refine lv_iload hx hb dL_law_990 (lv_at hl 1 rfl) ?_
      refine lv_icmp_eq (tgt := 997) hx hb dL_law_992 (by decide) (fun hc20 => ?_) (fun hc20 => ?_)
      · replace hF := (if_pos hc20).symm.trans hF
        refine lv_iload hx hb dL_law_997 (lv_at hl 1 rfl) ?_
        refine lv_if_ne (tgt := 1014) hx hb dL_law_999 (by decide) (fun hc21 => ?_) (fun hc21 => ?_)
        · replace hF := (if_neg hc21).symm.trans hF
          refine lv_goto (tgt := 1209) hx hb dL_law_1014 (by decide) ?_
          have hF := Option.some.inj hF
          subst hF
          refine W.widen (k := cells + 12) (n := slots + 669) (by omega) (by omega) ?_
          exact kk ad _ _ _ hW (lv_sub hl [2, 3, 4, 5, 6] rfl)
        · replace hF := (if_pos hc21).symm.trans hF
          refine lv_aload_n hx hb dL_law_1002 rfl (lv_at hl 5 rfl) ?_
          refine lv_iconst (v := 0) hx hb dL_law_1003 (by decide) ?_
          obtain ⟨hg22, hF⟩ := gd_some hF
          refine r_lald hx hb hK hW (26) (tp_lt (by decide)) (rfl : kd 26 = 7) hg22 dL_law_1004 ?_
          refine lv_iload hx hb dL_law_1005 (lv_at hl 0 rfl) ?_
          refine lv_i2l (v := (Int32.toInt64 y18.2)) hx hb dL_law_1007 rfl ?_
          refine W.lcmp hx hb dL_law_1008 ?_
          refine lv_if_eq (tgt := 1014) hx hb dL_law_1009 (by decide) (fun hc23 => ?_) (fun hc23 => ?_)
          · replace hF := (if_pos hc23).symm.trans hF
            refine lv_goto (tgt := 1209) hx hb dL_law_1014 (by decide) ?_
            have hF := Option.some.inj hF
            subst hF
            refine W.widen (k := cells + 12) (n := slots + 669) (by omega) (by omega) ?_
            exact kk ad _ _ _ hW (lv_sub hl [2, 3, 4, 5, 6] rfl)
          · replace hF := (if_neg hc23).symm.trans hF
            refine lv_iconst (v := 0) hx hb dL_law_1012 (by decide) ?_
            exact absurd hF (fun h9 => nomatch h9)
      · replace hF := (if_neg hc20).symm.trans hF
        refine lv_iconst (v := 0) hx hb dL_law_995 (by decide) ?_
        exact absurd hF (fun h9 => nomatch h9)
    · replace hF := (if_neg hc17).symm.trans hF
      refine lv_iconst (v := 1) hx hb dL_law_976 (by decide) ?_
      refine lv_goto (tgt := 981) hx hb dL_law_977 (by decide) ?_
      obtain ⟨y24, hy24, hF⟩ := bd_some hF
      refine r_bi (va_runV (As := [.int (xs (Int32.toNatClampNeg (x4 + 1))), .int 1]) (rest := []) ⟨hx, hb, hml, hown, htA⟩ (m_X7_silence l G g ad n s.heap.size aM y16.1 (xs (Int32.toNatClampNeg (x4 + 1))) 1 y24  hy24) (cwV 2 htA (gV aw_749 aw_750 aw_751 aw_382 gz_X7_silence) rfl rfl rfl (by decide +kernel) ⟨Nat.le_of_ble_eq_true rfl, Nat.le_of_ble_eq_true rfl⟩) (r_preV hK hW (27) (tp_lt (by decide)) (cE_k (rfl : kd 27 = 9)) rfl [.int (xs (Int32.toNatClampNeg (x4 + 1))), .int 1]) rfl rfl hl.1 rfl (lv_room (Nat.le_of_ble_eq_true rfl)) dL_law_981 ⟨by omega, by omega⟩) hW (fun H locs hW => ?_)
      refine lv_istore (lv' := [(6, .int y24.2), (5, .int y16.2), (0, .ref b), (1, .ref (ad (0))), (2, .ref (ad (27))), (3, .ref (ad (26))), (4, .int x4)]) hx hb dL_law_984 hl (by decide) rfl (fun ls hl => ?_)
      refine lv_aload_n hx hb dL_law_986 rfl (lv_at hl 4 rfl) ?_
      obtain ⟨y25, hy25, hF⟩ := bd_some hF
      refine r_bi (va_runV (As := []) (rest := []) ⟨hx, hb, hml, hown, htA⟩ (m_X7_thrown l G g ad n s.heap.size aM y24.1 y25  hy25) (cwV 0 htA (gV aw_663 aw_664 aw_665 aw_382 gz_X7_thrown) rfl rfl rfl (by decide +kernel) ⟨Nat.le_of_ble_eq_true rfl, Nat.le_of_ble_eq_true rfl⟩) (r_preV hK hW (27) (tp_lt (by decide)) (cE_k (rfl : kd 27 = 9)) rfl []) rfl rfl hl.1 rfl (lv_room (Nat.le_of_ble_eq_true rfl)) dL_law_987 ⟨by omega, by omega⟩) hW (fun H locs hW => ?_)
      refine lv_iload hx hb dL_law_990 (lv_at hl 1 rfl) ?_
      refine lv_icmp_eq (tgt := 997) hx hb dL_law_992 (by decide) (fun hc26 => ?_) (fun hc26 => ?_)
      · replace hF := (if_pos hc26).symm.trans hF
        refine lv_iload hx hb dL_law_997 (lv_at hl 1 rfl) ?_
        refine lv_if_ne (tgt := 1014) hx hb dL_law_999 (by decide) (fun hc27 => ?_) (fun hc27 => ?_)
        · replace hF := (if_neg hc27).symm.trans hF
          refine lv_goto (tgt := 1209) hx hb dL_law_1014 (by decide) ?_
          have hF := Option.some.inj hF
          subst hF
          refine W.widen (k := cells + 12) (n := slots + 669) (by omega) (by omega) ?_
          exact kk ad _ _ _ hW (lv_sub hl [2, 3, 4, 5, 6] rfl)
        · replace hF := (if_pos hc27).symm.trans hF
          refine lv_aload_n hx hb dL_law_1002 rfl (lv_at hl 5 rfl) ?_
          refine lv_iconst (v := 0) hx hb dL_law_1003 (by decide) ?_
          obtain ⟨hg28, hF⟩ := gd_some hF
          refine r_lald hx hb hK hW (26) (tp_lt (by decide)) (rfl : kd 26 = 7) hg28 dL_law_1004 ?_
          refine lv_iload hx hb dL_law_1005 (lv_at hl 0 rfl) ?_
          refine lv_i2l (v := (Int32.toInt64 y24.2)) hx hb dL_law_1007 rfl ?_
          refine W.lcmp hx hb dL_law_1008 ?_
          refine lv_if_eq (tgt := 1014) hx hb dL_law_1009 (by decide) (fun hc29 => ?_) (fun hc29 => ?_)
          · replace hF := (if_pos hc29).symm.trans hF
            refine lv_goto (tgt := 1209) hx hb dL_law_1014 (by decide) ?_
            have hF := Option.some.inj hF
            subst hF
            refine W.widen (k := cells + 12) (n := slots + 669) (by omega) (by omega) ?_
            exact kk ad _ _ _ hW (lv_sub hl [2, 3, 4, 5, 6] rfl)
          · replace hF := (if_neg hc29).symm.trans hF
            refine lv_iconst (v := 0) hx hb dL_law_1012 (by decide) ?_
            exact absurd hF (fun h9 => nomatch h9)
      · replace hF := (if_neg hc26).symm.trans hF
        refine lv_iconst (v := 0) hx hb dL_law_995 (by decide) ?_
        exact absurd hF (fun h9 => nomatch h9)
def F_lc_13 (xs : Nat → Int32) (x4 : Int32) (n : Nat) (σ : St) : Option (Nat × St) := (F_X6_search n σ).bind (fun y1 => (F_X7_search y1.1).bind (fun y2 => if y1.2 = y2.2 then some (n, y2.1) else none))
set_option maxHeartbeats 4000000 in
set_option maxRecDepth 100000 in
theorem lc_13 {p : Program} {e : Env} {s : State} {m : MethodId} {below : List Frame} {meth : Method} {c : Code} (l : Launch) (hst : l.stackTraces = false) {b L : Nat} {xs : Nat → Int32} (C0 : lw_At p s m meth c b L xs) (htA : ∀ w ∈ AL, w.before #[Value.ref b] s = true) {G : va_G} {g : Nat → ClassId} {ad : Nat → Nat} {aM n cells slots : Nat} {σ : St} {H : Heap} {locs : List Loc} {ls : Array Slot} {x4 : Int32} (hK : wK G g s.heap.size aM s) (hW : Wd G g ad n s.heap.size s.heap σ H locs) (hl : lv_has ls 8 [(0, .ref b), (1, .ref (ad (0))), (2, .ref (ad (27))), (3, .ref (ad (26))), (4, .int x4)]) (hs : ∀ j : Nat, j < 7 → vp_in (x4 + nI j) L) (hC : cells + 12 ≤ room_1.cells) (hSl : slots + 669 ≤ room_1.slots) {z : Nat × St} (hF : F_lc_13 xs x4 n σ = some z)
    (kk : ∀ (ad : Nat → Nat) (H : Heap) (locs : List Loc) (ls : Array Slot), Wd G g ad z.1 s.heap.size s.heap z.2 H locs → lv_has ls 8 [(0, .ref b), (1, .ref (ad (0))), (2, .ref (ad (27))), (3, .ref (ad (26))), (4, .int x4)] → W p l e room_1 s m #[Value.ref b] below meth c H locs (cells + 12) (slots + 669) (lw_Z below #[Value.ref b] s) (F0 m 1209 ls [])) : W p l e room_1 s m #[Value.ref b] below meth c H locs cells slots (lw_Z below #[Value.ref b] s) (F0 m 1017 ls []) := by
  obtain ⟨hx, hb, hr, hml, hown, -, hX, hbl, hlocks, -⟩ := C0
  have hbA : ¬ (fun q : Nat => s.heap.size ≤ q) b := Nat.not_le.mpr hbl
  unfold F_lc_13 at hF
  refine lv_aload_n hx hb dL_law_1017 rfl (lv_at hl 1 rfl) ?_
  obtain ⟨y1, hy1, hF⟩ := bd_some hF
  refine r_bi (va_runV (As := []) (rest := []) ⟨hx, hb, hml, hown, htA⟩ (m_X6_search l G g ad n s.heap.size aM σ y1  hy1) (cwV 0 htA (gV aw_753 aw_754 aw_755 aw_52 gz_X6_search) rfl rfl rfl (by decide +kernel) ⟨Nat.le_of_ble_eq_true rfl, Nat.le_of_ble_eq_true rfl⟩) (r_preV hK hW (0) (tp_lt (by decide)) (cE_k (rfl : kd 0 = 1)) rfl []) rfl rfl hl.1 rfl (lv_room (Nat.le_of_ble_eq_true rfl)) dL_law_1018 ⟨by omega, by omega⟩) hW (fun H locs hW => ?_)
  refine lv_aload_n hx hb dL_law_1021 rfl (lv_at hl 2 rfl) ?_
  obtain ⟨y2, hy2, hF⟩ := bd_some hF
  refine r_bi (va_runV (As := []) (rest := [.int y1.2]) ⟨hx, hb, hml, hown, htA⟩ (m_X7_search l G g ad n s.heap.size aM y1.1 y2  hy2) (cwV 0 htA (gV aw_757 aw_758 aw_759 aw_382 gz_X7_search) rfl rfl rfl (by decide +kernel) ⟨Nat.le_of_ble_eq_true rfl, Nat.le_of_ble_eq_true rfl⟩) (r_preV hK hW (27) (tp_lt (by decide)) (cE_k (rfl : kd 27 = 9)) rfl []) rfl rfl hl.1 rfl (lv_room (Nat.le_of_ble_eq_true rfl)) dL_law_1022 ⟨by omega, by omega⟩) hW (fun H locs hW => ?_)
  refine lv_icmp_eq (tgt := 1209) hx hb dL_law_1025 (by decide) (fun hc3 => ?_) (fun hc3 => ?_)
  · replace hF := (if_pos hc3).symm.trans hF
    have hF := Option.some.inj hF
    subst hF
    refine W.widen (k := cells + 12) (n := slots + 669) (by omega) (by omega) ?_
    exact kk ad _ _ _ hW (lv_sub hl [0, 1, 2, 3, 4] rfl)
  · replace hF := (if_neg hc3).symm.trans hF
    refine lv_iconst (v := 0) hx hb dL_law_1028 (by decide) ?_
    exact absurd hF (fun h9 => nomatch h9)
def F_lc_14 (xs : Nat → Int32) (x4 : Int32) (n : Nat) (σ : St) : Option (Nat × St) := (F_L_step n σ (xs (Int32.toNatClampNeg (x4 + 1)))).bind (fun y1 => (F_X7_step y1.1 (xs (Int32.toNatClampNeg (x4 + 1)))).bind (fun y2 => (F_X7_thrown y2.1).bind (fun y3 => if y3.2 = y1.2 then if y1.2 = 0 then gd (ib 0 (ln (26))) (if (lg_cmp (y3.1.2 (26) (Int32.toNatClampNeg 0)) (Int32.toInt64 y2.2)) = 0 then some (n, y3.1) else none) else some (n, y3.1) else none)))
set_option maxHeartbeats 4000000 in
set_option maxRecDepth 100000 in
theorem lc_14 {p : Program} {e : Env} {s : State} {m : MethodId} {below : List Frame} {meth : Method} {c : Code} (l : Launch) (hst : l.stackTraces = false) {b L : Nat} {xs : Nat → Int32} (C0 : lw_At p s m meth c b L xs) (htA : ∀ w ∈ AL, w.before #[Value.ref b] s = true) {G : va_G} {g : Nat → ClassId} {ad : Nat → Nat} {aM n cells slots : Nat} {σ : St} {H : Heap} {locs : List Loc} {ls : Array Slot} {x4 : Int32} (hK : wK G g s.heap.size aM s) (hW : Wd G g ad n s.heap.size s.heap σ H locs) (hl : lv_has ls 8 [(0, .ref b), (1, .ref (ad (0))), (2, .ref (ad (27))), (3, .ref (ad (26))), (4, .int x4)]) (hs : ∀ j : Nat, j < 7 → vp_in (x4 + nI j) L) (hC : cells + 12 ≤ room_1.cells) (hSl : slots + 669 ≤ room_1.slots) {z : Nat × St} (hF : F_lc_14 xs x4 n σ = some z)
    (kk : ∀ (ad : Nat → Nat) (H : Heap) (locs : List Loc) (ls : Array Slot), Wd G g ad z.1 s.heap.size s.heap z.2 H locs → lv_has ls 8 [(0, .ref b), (1, .ref (ad (0))), (2, .ref (ad (27))), (3, .ref (ad (26))), (4, .int x4)] → W p l e room_1 s m #[Value.ref b] below meth c H locs (cells + 12) (slots + 669) (lw_Z below #[Value.ref b] s) (F0 m 1209 ls [])) : W p l e room_1 s m #[Value.ref b] below meth c H locs cells slots (lw_Z below #[Value.ref b] s) (F0 m 1030 ls []) := by
  obtain ⟨hx, hb, hr, hml, hown, -, hX, hbl, hlocks, -⟩ := C0
  have hbA : ¬ (fun q : Nat => s.heap.size ≤ q) b := Nat.not_le.mpr hbl
  unfold F_lc_14 at hF
  refine lv_aload_n hx hb dL_law_1030 rfl (lv_at hl 1 rfl) ?_
  refine lv_aload_n hx hb dL_law_1031 rfl (lv_at hl 0 rfl) ?_
  refine lv_iload hx hb dL_law_1032 (lv_at hl 4 rfl) ?_
  refine lv_iconst (v := 1) hx hb dL_law_1034 (by decide) ?_
  refine lv_iadd hx hb dL_law_1035 ?_
  refine va_sld hx hb hX hbl hbA hW.2.2 (show vp_in (x4 + 1) L from hs 1 (by decide)) dL_law_1036 ?_
  refine lv_aload_n hx hb dL_law_1037 rfl (lv_at hl 3 rfl) ?_
  obtain ⟨y1, hy1, hF⟩ := bd_some hF
  refine rh_bi (vx_runSX (As := [.ref (ad (0)), .int (xs (Int32.toNatClampNeg (x4 + 1))), .ref (ad (26))]) (rest := []) ⟨hx, hb, hml, hown, htA⟩ (m_L_step l hst G g ad n s.heap.size aM σ (xs (Int32.toNatClampNeg (x4 + 1))) y1 hy1) (vx_cwSW 3 htA (gS aw_761 aw_762 aw_657 gz_L_step) rfl rfl rfl (by decide +kernel) ⟨Nat.le_of_ble_eq_true rfl, Nat.le_of_ble_eq_true rfl⟩) (r_pre hK hW [.ref (ad (0)), .int (xs (Int32.toNatClampNeg (x4 + 1))), .ref (ad (26))]) rfl rfl hl.1 rfl (lv_room (Nat.le_of_ble_eq_true rfl)) dL_law_1038 ⟨by omega, by omega⟩) hW (fun H locs hW => ?_)
  refine lv_istore (lv' := [(5, .int y1.2), (0, .ref b), (1, .ref (ad (0))), (2, .ref (ad (27))), (3, .ref (ad (26))), (4, .int x4)]) hx hb dL_law_1041 hl (by decide) rfl (fun ls hl => ?_)
  refine lv_aload_n hx hb dL_law_1043 rfl (lv_at hl 3 rfl) ?_
  refine lv_aload_n hx hb dL_law_1044 rfl (lv_at hl 1 rfl) ?_
  refine lv_iload hx hb dL_law_1045 (lv_at hl 5 rfl) ?_
  refine lv_iconst (v := 1) hx hb dL_law_1047 (by decide) ?_
  refine lv_iadd hx hb dL_law_1048 ?_
  refine va_sld hx hb hX hbl hbA hW.2.2 (show vp_in (x4 + 1) L from hs 1 (by decide)) dL_law_1049 ?_
  obtain ⟨y2, hy2, hF⟩ := bd_some hF
  refine r_bi (va_runV (As := [.int (xs (Int32.toNatClampNeg (x4 + 1)))]) (rest := []) ⟨hx, hb, hml, hown, htA⟩ (m_X7_step l G g ad n s.heap.size aM y1.1 (xs (Int32.toNatClampNeg (x4 + 1))) y2  hy2) (cwV 1 htA (gV aw_764 aw_765 aw_766 aw_382 gz_X7_step) rfl rfl rfl (by decide +kernel) ⟨Nat.le_of_ble_eq_true rfl, Nat.le_of_ble_eq_true rfl⟩) (r_preV hK hW (27) (tp_lt (by decide)) (cE_k (rfl : kd 27 = 9)) rfl [.int (xs (Int32.toNatClampNeg (x4 + 1)))]) rfl rfl hl.1 rfl (lv_room (Nat.le_of_ble_eq_true rfl)) dL_law_1050 ⟨by omega, by omega⟩) hW (fun H locs hW => ?_)
  refine lv_istore (lv' := [(6, .int y2.2), (5, .int y1.2), (0, .ref b), (1, .ref (ad (0))), (2, .ref (ad (27))), (3, .ref (ad (26))), (4, .int x4)]) hx hb dL_law_1053 hl (by decide) rfl (fun ls hl => ?_)
  refine lv_aload_n hx hb dL_law_1055 rfl (lv_at hl 4 rfl) ?_
  obtain ⟨y3, hy3, hF⟩ := bd_some hF
  refine r_bi (va_runV (As := []) (rest := []) ⟨hx, hb, hml, hown, htA⟩ (m_X7_thrown l G g ad n s.heap.size aM y2.1 y3  hy3) (cwV 0 htA (gV aw_663 aw_664 aw_665 aw_382 gz_X7_thrown) rfl rfl rfl (by decide +kernel) ⟨Nat.le_of_ble_eq_true rfl, Nat.le_of_ble_eq_true rfl⟩) (r_preV hK hW (27) (tp_lt (by decide)) (cE_k (rfl : kd 27 = 9)) rfl []) rfl rfl hl.1 rfl (lv_room (Nat.le_of_ble_eq_true rfl)) dL_law_1056 ⟨by omega, by omega⟩) hW (fun H locs hW => ?_)
  refine lv_iload hx hb dL_law_1059 (lv_at hl 1 rfl) ?_
  refine lv_icmp_eq (tgt := 1066) hx hb dL_law_1061 (by decide) (fun hc4 => ?_) (fun hc4 => ?_)
  · replace hF := (if_pos hc4).symm.trans hF
    refine lv_iload hx hb dL_law_1066 (lv_at hl 1 rfl) ?_
    refine lv_if_ne (tgt := 1083) hx hb dL_law_1068 (by decide) (fun hc5 => ?_) (fun hc5 => ?_)
    · replace hF := (if_neg hc5).symm.trans hF
      refine lv_goto (tgt := 1209) hx hb dL_law_1083 (by decide) ?_
      have hF := Option.some.inj hF
      subst hF
      refine W.widen (k := cells + 12) (n := slots + 669) (by omega) (by omega) ?_
      exact kk ad _ _ _ hW (lv_sub hl [2, 3, 4, 5, 6] rfl)
    · replace hF := (if_pos hc5).symm.trans hF
      refine lv_aload_n hx hb dL_law_1071 rfl (lv_at hl 5 rfl) ?_
      refine lv_iconst (v := 0) hx hb dL_law_1072 (by decide) ?_
      obtain ⟨hg6, hF⟩ := gd_some hF
      refine r_lald hx hb hK hW (26) (tp_lt (by decide)) (rfl : kd 26 = 7) hg6 dL_law_1073 ?_
      refine lv_iload hx hb dL_law_1074 (lv_at hl 0 rfl) ?_
      refine lv_i2l (v := (Int32.toInt64 y2.2)) hx hb dL_law_1076 rfl ?_
      refine W.lcmp hx hb dL_law_1077 ?_
      refine lv_if_eq (tgt := 1083) hx hb dL_law_1078 (by decide) (fun hc7 => ?_) (fun hc7 => ?_)
      · replace hF := (if_pos hc7).symm.trans hF
        refine lv_goto (tgt := 1209) hx hb dL_law_1083 (by decide) ?_
        have hF := Option.some.inj hF
        subst hF
        refine W.widen (k := cells + 12) (n := slots + 669) (by omega) (by omega) ?_
        exact kk ad _ _ _ hW (lv_sub hl [2, 3, 4, 5, 6] rfl)
      · replace hF := (if_neg hc7).symm.trans hF
        refine lv_iconst (v := 0) hx hb dL_law_1081 (by decide) ?_
        exact absurd hF (fun h9 => nomatch h9)
  · replace hF := (if_neg hc4).symm.trans hF
    refine lv_iconst (v := 0) hx hb dL_law_1064 (by decide) ?_
    exact absurd hF (fun h9 => nomatch h9)
def F_lc_15 (xs : Nat → Int32) (x4 : Int32) (n : Nat) (σ : St) : Option (Nat × St) := (F_X6_found σ).bind (fun y1 => (F_X7_found y1.1).bind (fun y2 => if y1.2 = y2.2 then some (n, y2.1) else none))
set_option maxHeartbeats 4000000 in
set_option maxRecDepth 100000 in
theorem lc_15 {p : Program} {e : Env} {s : State} {m : MethodId} {below : List Frame} {meth : Method} {c : Code} (l : Launch) (hst : l.stackTraces = false) {b L : Nat} {xs : Nat → Int32} (C0 : lw_At p s m meth c b L xs) (htA : ∀ w ∈ AL, w.before #[Value.ref b] s = true) {G : va_G} {g : Nat → ClassId} {ad : Nat → Nat} {aM n cells slots : Nat} {σ : St} {H : Heap} {locs : List Loc} {ls : Array Slot} {x4 : Int32} (hK : wK G g s.heap.size aM s) (hW : Wd G g ad n s.heap.size s.heap σ H locs) (hl : lv_has ls 8 [(0, .ref b), (1, .ref (ad (0))), (2, .ref (ad (27))), (3, .ref (ad (26))), (4, .int x4)]) (hs : ∀ j : Nat, j < 7 → vp_in (x4 + nI j) L) (hC : cells + 12 ≤ room_1.cells) (hSl : slots + 669 ≤ room_1.slots) {z : Nat × St} (hF : F_lc_15 xs x4 n σ = some z)
    (kk : ∀ (ad : Nat → Nat) (H : Heap) (locs : List Loc) (ls : Array Slot), Wd G g ad z.1 s.heap.size s.heap z.2 H locs → lv_has ls 8 [(0, .ref b), (1, .ref (ad (0))), (2, .ref (ad (27))), (3, .ref (ad (26))), (4, .int x4)] → W p l e room_1 s m #[Value.ref b] below meth c H locs (cells + 12) (slots + 669) (lw_Z below #[Value.ref b] s) (F0 m 1209 ls [])) : W p l e room_1 s m #[Value.ref b] below meth c H locs cells slots (lw_Z below #[Value.ref b] s) (F0 m 1086 ls []) := by
  obtain ⟨hx, hb, hr, hml, hown, -, hX, hbl, hlocks, -⟩ := C0
  have hbA : ¬ (fun q : Nat => s.heap.size ≤ q) b := Nat.not_le.mpr hbl
  unfold F_lc_15 at hF
  refine lv_aload_n hx hb dL_law_1086 rfl (lv_at hl 1 rfl) ?_
  obtain ⟨y1, hy1, hF⟩ := bd_some hF
  refine r_bi (va_runV (As := []) (rest := []) ⟨hx, hb, hml, hown, htA⟩ (m_X6_found l G g ad n s.heap.size aM σ y1  hy1) (cwV 0 htA (gV aw_768 aw_769 aw_770 aw_52 gz_X6_found) rfl rfl rfl (by decide +kernel) ⟨Nat.le_of_ble_eq_true rfl, Nat.le_of_ble_eq_true rfl⟩) (r_preV hK hW (0) (tp_lt (by decide)) (cE_k (rfl : kd 0 = 1)) rfl []) rfl rfl hl.1 rfl (lv_room (Nat.le_of_ble_eq_true rfl)) dL_law_1087 ⟨by omega, by omega⟩) hW (fun H locs hW => ?_)
  refine lv_aload_n hx hb dL_law_1090 rfl (lv_at hl 2 rfl) ?_
  obtain ⟨y2, hy2, hF⟩ := bd_some hF
  refine r_bi (va_runV (As := []) (rest := [.int y1.2]) ⟨hx, hb, hml, hown, htA⟩ (m_X7_found l G g ad n s.heap.size aM y1.1 y2  hy2) (cwV 0 htA (gV aw_772 aw_773 aw_774 aw_382 gz_X7_found) rfl rfl rfl (by decide +kernel) ⟨Nat.le_of_ble_eq_true rfl, Nat.le_of_ble_eq_true rfl⟩) (r_preV hK hW (27) (tp_lt (by decide)) (cE_k (rfl : kd 27 = 9)) rfl []) rfl rfl hl.1 rfl (lv_room (Nat.le_of_ble_eq_true rfl)) dL_law_1091 ⟨by omega, by omega⟩) hW (fun H locs hW => ?_)
  refine lv_icmp_eq (tgt := 1209) hx hb dL_law_1094 (by decide) (fun hc3 => ?_) (fun hc3 => ?_)
  · replace hF := (if_pos hc3).symm.trans hF
    have hF := Option.some.inj hF
    subst hF
    refine W.widen (k := cells + 12) (n := slots + 669) (by omega) (by omega) ?_
    exact kk ad _ _ _ hW (lv_sub hl [0, 1, 2, 3, 4] rfl)
  · replace hF := (if_neg hc3).symm.trans hF
    refine lv_iconst (v := 0) hx hb dL_law_1097 (by decide) ?_
    exact absurd hF (fun h9 => nomatch h9)
def F_lc_16 (xs : Nat → Int32) (x4 : Int32) (n : Nat) (σ : St) : Option (Nat × St) := (F_L_id σ (xs (Int32.toNatClampNeg (x4 + 1)))).bind (fun y1 => (F_X7_id y1.1 (xs (Int32.toNatClampNeg (x4 + 1)))).bind (fun y2 => (F_X7_thrown y2.1).bind (fun y3 => if y3.2 = y1.2 then if y1.2 = 0 then gd (ib 0 (ln (26))) (if (lg_cmp (y3.1.2 (26) (Int32.toNatClampNeg 0)) y2.2) = 0 then some (n, y3.1) else none) else some (n, y3.1) else none)))
set_option maxHeartbeats 4000000 in
set_option maxRecDepth 100000 in
theorem lc_16 {p : Program} {e : Env} {s : State} {m : MethodId} {below : List Frame} {meth : Method} {c : Code} (l : Launch) (hst : l.stackTraces = false) {b L : Nat} {xs : Nat → Int32} (C0 : lw_At p s m meth c b L xs) (htA : ∀ w ∈ AL, w.before #[Value.ref b] s = true) {G : va_G} {g : Nat → ClassId} {ad : Nat → Nat} {aM n cells slots : Nat} {σ : St} {H : Heap} {locs : List Loc} {ls : Array Slot} {x4 : Int32} (hK : wK G g s.heap.size aM s) (hW : Wd G g ad n s.heap.size s.heap σ H locs) (hl : lv_has ls 8 [(0, .ref b), (1, .ref (ad (0))), (2, .ref (ad (27))), (3, .ref (ad (26))), (4, .int x4)]) (hs : ∀ j : Nat, j < 7 → vp_in (x4 + nI j) L) (hC : cells + 12 ≤ room_1.cells) (hSl : slots + 669 ≤ room_1.slots) {z : Nat × St} (hF : F_lc_16 xs x4 n σ = some z)
    (kk : ∀ (ad : Nat → Nat) (H : Heap) (locs : List Loc) (ls : Array Slot), Wd G g ad z.1 s.heap.size s.heap z.2 H locs → lv_has ls 8 [(0, .ref b), (1, .ref (ad (0))), (2, .ref (ad (27))), (3, .ref (ad (26))), (4, .int x4)] → W p l e room_1 s m #[Value.ref b] below meth c H locs (cells + 12) (slots + 669) (lw_Z below #[Value.ref b] s) (F0 m 1209 ls [])) : W p l e room_1 s m #[Value.ref b] below meth c H locs cells slots (lw_Z below #[Value.ref b] s) (F0 m 1099 ls []) := by
  obtain ⟨hx, hb, hr, hml, hown, -, hX, hbl, hlocks, -⟩ := C0
  have hbA : ¬ (fun q : Nat => s.heap.size ≤ q) b := Nat.not_le.mpr hbl
  unfold F_lc_16 at hF
  refine lv_aload_n hx hb dL_law_1099 rfl (lv_at hl 1 rfl) ?_
  refine lv_aload_n hx hb dL_law_1100 rfl (lv_at hl 0 rfl) ?_
  refine lv_iload hx hb dL_law_1101 (lv_at hl 4 rfl) ?_
  refine lv_iconst (v := 1) hx hb dL_law_1103 (by decide) ?_
  refine lv_iadd hx hb dL_law_1104 ?_
  refine va_sld hx hb hX hbl hbA hW.2.2 (show vp_in (x4 + 1) L from hs 1 (by decide)) dL_law_1105 ?_
  refine lv_aload_n hx hb dL_law_1106 rfl (lv_at hl 3 rfl) ?_
  obtain ⟨y1, hy1, hF⟩ := bd_some hF
  refine rh_bi (vx_runSX (As := [.ref (ad (0)), .int (xs (Int32.toNatClampNeg (x4 + 1))), .ref (ad (26))]) (rest := []) ⟨hx, hb, hml, hown, htA⟩ (m_L_id l hst G g ad n s.heap.size aM σ (xs (Int32.toNatClampNeg (x4 + 1))) y1 hy1) (vx_cwSW 3 htA (gS aw_776 aw_777 aw_657 gz_L_id) rfl rfl rfl (by decide +kernel) ⟨Nat.le_of_ble_eq_true rfl, Nat.le_of_ble_eq_true rfl⟩) (r_pre hK hW [.ref (ad (0)), .int (xs (Int32.toNatClampNeg (x4 + 1))), .ref (ad (26))]) rfl rfl hl.1 rfl (lv_room (Nat.le_of_ble_eq_true rfl)) dL_law_1107 ⟨by omega, by omega⟩) hW (fun H locs hW => ?_)
  refine lv_istore (lv' := [(5, .int y1.2), (0, .ref b), (1, .ref (ad (0))), (2, .ref (ad (27))), (3, .ref (ad (26))), (4, .int x4)]) hx hb dL_law_1110 hl (by decide) rfl (fun ls hl => ?_)
  refine lv_aload_n hx hb dL_law_1112 rfl (lv_at hl 3 rfl) ?_
  refine lv_aload_n hx hb dL_law_1113 rfl (lv_at hl 1 rfl) ?_
  refine lv_iload hx hb dL_law_1114 (lv_at hl 5 rfl) ?_
  refine lv_iconst (v := 1) hx hb dL_law_1116 (by decide) ?_
  refine lv_iadd hx hb dL_law_1117 ?_
  refine va_sld hx hb hX hbl hbA hW.2.2 (show vp_in (x4 + 1) L from hs 1 (by decide)) dL_law_1118 ?_
  obtain ⟨y2, hy2, hF⟩ := bd_some hF
  refine r_bl (va_runV (As := [.int (xs (Int32.toNatClampNeg (x4 + 1)))]) (rest := []) ⟨hx, hb, hml, hown, htA⟩ (m_X7_id l G g ad n s.heap.size aM y1.1 (xs (Int32.toNatClampNeg (x4 + 1))) y2  hy2) (cwV 1 htA (gV aw_779 aw_780 aw_781 aw_382 gz_X7_id) rfl rfl rfl (by decide +kernel) ⟨Nat.le_of_ble_eq_true rfl, Nat.le_of_ble_eq_true rfl⟩) (r_preV hK hW (27) (tp_lt (by decide)) (cE_k (rfl : kd 27 = 9)) rfl [.int (xs (Int32.toNatClampNeg (x4 + 1)))]) rfl rfl hl.1 rfl (lv_room (Nat.le_of_ble_eq_true rfl)) dL_law_1119 ⟨by omega, by omega⟩) hW (fun H locs hW => ?_)
  refine lv_lstore (lv' := [(6, .long y2.2), (5, .int y1.2), (0, .ref b), (1, .ref (ad (0))), (2, .ref (ad (27))), (3, .ref (ad (26))), (4, .int x4)]) hx hb dL_law_1122 hl (by decide) rfl (fun ls hl => ?_)
  refine lv_aload_n hx hb dL_law_1124 rfl (lv_at hl 4 rfl) ?_
  obtain ⟨y3, hy3, hF⟩ := bd_some hF
  refine r_bi (va_runV (As := []) (rest := []) ⟨hx, hb, hml, hown, htA⟩ (m_X7_thrown l G g ad n s.heap.size aM y2.1 y3  hy3) (cwV 0 htA (gV aw_663 aw_664 aw_665 aw_382 gz_X7_thrown) rfl rfl rfl (by decide +kernel) ⟨Nat.le_of_ble_eq_true rfl, Nat.le_of_ble_eq_true rfl⟩) (r_preV hK hW (27) (tp_lt (by decide)) (cE_k (rfl : kd 27 = 9)) rfl []) rfl rfl hl.1 rfl (lv_room (Nat.le_of_ble_eq_true rfl)) dL_law_1125 ⟨by omega, by omega⟩) hW (fun H locs hW => ?_)
  refine lv_iload hx hb dL_law_1128 (lv_at hl 1 rfl) ?_
  refine lv_icmp_eq (tgt := 1135) hx hb dL_law_1130 (by decide) (fun hc4 => ?_) (fun hc4 => ?_)
  · replace hF := (if_pos hc4).symm.trans hF
    refine lv_iload hx hb dL_law_1135 (lv_at hl 1 rfl) ?_
    refine lv_if_ne (tgt := 1151) hx hb dL_law_1137 (by decide) (fun hc5 => ?_) (fun hc5 => ?_)
    · replace hF := (if_neg hc5).symm.trans hF
      refine lv_goto (tgt := 1209) hx hb dL_law_1151 (by decide) ?_
      have hF := Option.some.inj hF
      subst hF
      refine W.widen (k := cells + 12) (n := slots + 669) (by omega) (by omega) ?_
      exact kk ad _ _ _ hW (lv_sub hl [2, 3, 4, 5, 6] rfl)
    · replace hF := (if_pos hc5).symm.trans hF
      refine lv_aload_n hx hb dL_law_1140 rfl (lv_at hl 5 rfl) ?_
      refine lv_iconst (v := 0) hx hb dL_law_1141 (by decide) ?_
      obtain ⟨hg6, hF⟩ := gd_some hF
      refine r_lald hx hb hK hW (26) (tp_lt (by decide)) (rfl : kd 26 = 7) hg6 dL_law_1142 ?_
      refine lv_lload hx hb dL_law_1143 (lv_at hl 0 rfl) ?_
      refine W.lcmp hx hb dL_law_1145 ?_
      refine lv_if_eq (tgt := 1151) hx hb dL_law_1146 (by decide) (fun hc7 => ?_) (fun hc7 => ?_)
      · replace hF := (if_pos hc7).symm.trans hF
        refine lv_goto (tgt := 1209) hx hb dL_law_1151 (by decide) ?_
        have hF := Option.some.inj hF
        subst hF
        refine W.widen (k := cells + 12) (n := slots + 669) (by omega) (by omega) ?_
        exact kk ad _ _ _ hW (lv_sub hl [2, 3, 4, 5, 6] rfl)
      · replace hF := (if_neg hc7).symm.trans hF
        refine lv_iconst (v := 0) hx hb dL_law_1149 (by decide) ?_
        exact absurd hF (fun h9 => nomatch h9)
  · replace hF := (if_neg hc4).symm.trans hF
    refine lv_iconst (v := 0) hx hb dL_law_1133 (by decide) ?_
    exact absurd hF (fun h9 => nomatch h9)
def F_lc_17 (xs : Nat → Int32) (x4 : Int32) (n : Nat) (σ : St) : Option (Nat × St) := (F_L_branch σ (xs (Int32.toNatClampNeg (x4 + 1)))).bind (fun y1 => (F_X7_branch y1.1 (xs (Int32.toNatClampNeg (x4 + 1)))).bind (fun y2 => (F_X7_thrown y2.1).bind (fun y3 => if y3.2 = y1.2 then if y1.2 = 0 then gd (ib 0 (ln (26))) (if (lg_cmp (y3.1.2 (26) (Int32.toNatClampNeg 0)) y2.2) = 0 then some (n, y3.1) else none) else some (n, y3.1) else none)))
set_option maxHeartbeats 4000000 in
set_option maxRecDepth 100000 in
theorem lc_17 {p : Program} {e : Env} {s : State} {m : MethodId} {below : List Frame} {meth : Method} {c : Code} (l : Launch) (hst : l.stackTraces = false) {b L : Nat} {xs : Nat → Int32} (C0 : lw_At p s m meth c b L xs) (htA : ∀ w ∈ AL, w.before #[Value.ref b] s = true) {G : va_G} {g : Nat → ClassId} {ad : Nat → Nat} {aM n cells slots : Nat} {σ : St} {H : Heap} {locs : List Loc} {ls : Array Slot} {x4 : Int32} (hK : wK G g s.heap.size aM s) (hW : Wd G g ad n s.heap.size s.heap σ H locs) (hl : lv_has ls 8 [(0, .ref b), (1, .ref (ad (0))), (2, .ref (ad (27))), (3, .ref (ad (26))), (4, .int x4)]) (hs : ∀ j : Nat, j < 7 → vp_in (x4 + nI j) L) (hC : cells + 12 ≤ room_1.cells) (hSl : slots + 669 ≤ room_1.slots) {z : Nat × St} (hF : F_lc_17 xs x4 n σ = some z)
    (kk : ∀ (ad : Nat → Nat) (H : Heap) (locs : List Loc) (ls : Array Slot), Wd G g ad z.1 s.heap.size s.heap z.2 H locs → lv_has ls 8 [(0, .ref b), (1, .ref (ad (0))), (2, .ref (ad (27))), (3, .ref (ad (26))), (4, .int x4)] → W p l e room_1 s m #[Value.ref b] below meth c H locs (cells + 12) (slots + 669) (lw_Z below #[Value.ref b] s) (F0 m 1209 ls [])) : W p l e room_1 s m #[Value.ref b] below meth c H locs cells slots (lw_Z below #[Value.ref b] s) (F0 m 1154 ls []) := by
  obtain ⟨hx, hb, hr, hml, hown, -, hX, hbl, hlocks, -⟩ := C0
  have hbA : ¬ (fun q : Nat => s.heap.size ≤ q) b := Nat.not_le.mpr hbl
  unfold F_lc_17 at hF
  refine lv_aload_n hx hb dL_law_1154 rfl (lv_at hl 1 rfl) ?_
  refine lv_aload_n hx hb dL_law_1155 rfl (lv_at hl 0 rfl) ?_
  refine lv_iload hx hb dL_law_1156 (lv_at hl 4 rfl) ?_
  refine lv_iconst (v := 1) hx hb dL_law_1158 (by decide) ?_
  refine lv_iadd hx hb dL_law_1159 ?_
  refine va_sld hx hb hX hbl hbA hW.2.2 (show vp_in (x4 + 1) L from hs 1 (by decide)) dL_law_1160 ?_
  refine lv_aload_n hx hb dL_law_1161 rfl (lv_at hl 3 rfl) ?_
  obtain ⟨y1, hy1, hF⟩ := bd_some hF
  refine rh_bi (vx_runSX (As := [.ref (ad (0)), .int (xs (Int32.toNatClampNeg (x4 + 1))), .ref (ad (26))]) (rest := []) ⟨hx, hb, hml, hown, htA⟩ (m_L_branch l hst G g ad n s.heap.size aM σ (xs (Int32.toNatClampNeg (x4 + 1))) y1 hy1) (vx_cwSW 3 htA (gS aw_783 aw_784 aw_657 gz_L_branch) rfl rfl rfl (by decide +kernel) ⟨Nat.le_of_ble_eq_true rfl, Nat.le_of_ble_eq_true rfl⟩) (r_pre hK hW [.ref (ad (0)), .int (xs (Int32.toNatClampNeg (x4 + 1))), .ref (ad (26))]) rfl rfl hl.1 rfl (lv_room (Nat.le_of_ble_eq_true rfl)) dL_law_1162 ⟨by omega, by omega⟩) hW (fun H locs hW => ?_)
  refine lv_istore (lv' := [(5, .int y1.2), (0, .ref b), (1, .ref (ad (0))), (2, .ref (ad (27))), (3, .ref (ad (26))), (4, .int x4)]) hx hb dL_law_1165 hl (by decide) rfl (fun ls hl => ?_)
  refine lv_aload_n hx hb dL_law_1167 rfl (lv_at hl 3 rfl) ?_
  refine lv_aload_n hx hb dL_law_1168 rfl (lv_at hl 1 rfl) ?_
  refine lv_iload hx hb dL_law_1169 (lv_at hl 5 rfl) ?_
  refine lv_iconst (v := 1) hx hb dL_law_1171 (by decide) ?_
  refine lv_iadd hx hb dL_law_1172 ?_
  refine va_sld hx hb hX hbl hbA hW.2.2 (show vp_in (x4 + 1) L from hs 1 (by decide)) dL_law_1173 ?_
  obtain ⟨y2, hy2, hF⟩ := bd_some hF
  refine r_bl (va_runV (As := [.int (xs (Int32.toNatClampNeg (x4 + 1)))]) (rest := []) ⟨hx, hb, hml, hown, htA⟩ (m_X7_branch l G g ad n s.heap.size aM y1.1 (xs (Int32.toNatClampNeg (x4 + 1))) y2  hy2) (cwV 1 htA (gV aw_786 aw_787 aw_788 aw_382 gz_X7_branch) rfl rfl rfl (by decide +kernel) ⟨Nat.le_of_ble_eq_true rfl, Nat.le_of_ble_eq_true rfl⟩) (r_preV hK hW (27) (tp_lt (by decide)) (cE_k (rfl : kd 27 = 9)) rfl [.int (xs (Int32.toNatClampNeg (x4 + 1)))]) rfl rfl hl.1 rfl (lv_room (Nat.le_of_ble_eq_true rfl)) dL_law_1174 ⟨by omega, by omega⟩) hW (fun H locs hW => ?_)
  refine lv_lstore (lv' := [(6, .long y2.2), (5, .int y1.2), (0, .ref b), (1, .ref (ad (0))), (2, .ref (ad (27))), (3, .ref (ad (26))), (4, .int x4)]) hx hb dL_law_1177 hl (by decide) rfl (fun ls hl => ?_)
  refine lv_aload_n hx hb dL_law_1179 rfl (lv_at hl 4 rfl) ?_
  obtain ⟨y3, hy3, hF⟩ := bd_some hF
  refine r_bi (va_runV (As := []) (rest := []) ⟨hx, hb, hml, hown, htA⟩ (m_X7_thrown l G g ad n s.heap.size aM y2.1 y3  hy3) (cwV 0 htA (gV aw_663 aw_664 aw_665 aw_382 gz_X7_thrown) rfl rfl rfl (by decide +kernel) ⟨Nat.le_of_ble_eq_true rfl, Nat.le_of_ble_eq_true rfl⟩) (r_preV hK hW (27) (tp_lt (by decide)) (cE_k (rfl : kd 27 = 9)) rfl []) rfl rfl hl.1 rfl (lv_room (Nat.le_of_ble_eq_true rfl)) dL_law_1180 ⟨by omega, by omega⟩) hW (fun H locs hW => ?_)
  refine lv_iload hx hb dL_law_1183 (lv_at hl 1 rfl) ?_
  refine lv_icmp_eq (tgt := 1190) hx hb dL_law_1185 (by decide) (fun hc4 => ?_) (fun hc4 => ?_)
  · replace hF := (if_pos hc4).symm.trans hF
    refine lv_iload hx hb dL_law_1190 (lv_at hl 1 rfl) ?_
    refine lv_if_ne (tgt := 1206) hx hb dL_law_1192 (by decide) (fun hc5 => ?_) (fun hc5 => ?_)
    · replace hF := (if_neg hc5).symm.trans hF
      refine lv_goto (tgt := 1209) hx hb dL_law_1206 (by decide) ?_
      have hF := Option.some.inj hF
      subst hF
      refine W.widen (k := cells + 12) (n := slots + 669) (by omega) (by omega) ?_
      exact kk ad _ _ _ hW (lv_sub hl [2, 3, 4, 5, 6] rfl)
    · replace hF := (if_pos hc5).symm.trans hF
      refine lv_aload_n hx hb dL_law_1195 rfl (lv_at hl 5 rfl) ?_
      refine lv_iconst (v := 0) hx hb dL_law_1196 (by decide) ?_
      obtain ⟨hg6, hF⟩ := gd_some hF
      refine r_lald hx hb hK hW (26) (tp_lt (by decide)) (rfl : kd 26 = 7) hg6 dL_law_1197 ?_
      refine lv_lload hx hb dL_law_1198 (lv_at hl 0 rfl) ?_
      refine W.lcmp hx hb dL_law_1200 ?_
      refine lv_if_eq (tgt := 1206) hx hb dL_law_1201 (by decide) (fun hc7 => ?_) (fun hc7 => ?_)
      · replace hF := (if_pos hc7).symm.trans hF
        refine lv_goto (tgt := 1209) hx hb dL_law_1206 (by decide) ?_
        have hF := Option.some.inj hF
        subst hF
        refine W.widen (k := cells + 12) (n := slots + 669) (by omega) (by omega) ?_
        exact kk ad _ _ _ hW (lv_sub hl [2, 3, 4, 5, 6] rfl)
      · replace hF := (if_neg hc7).symm.trans hF
        refine lv_iconst (v := 0) hx hb dL_law_1204 (by decide) ?_
        exact absurd hF (fun h9 => nomatch h9)
  · replace hF := (if_neg hc4).symm.trans hF
    refine lv_iconst (v := 0) hx hb dL_law_1188 (by decide) ?_
    exact absurd hF (fun h9 => nomatch h9)
