/-! ===== LampLine.lamp's last stretch: a lamp is made, laid into the row of lamps, counted ===== -/
def lampBlank : List Value := [.long 0, .int 0, .int 0, .null, .null, .null, .null, .int 0, .int 0, .int 0, .int 0, .int 0, .int 0, .int 0, .int 0]
/-- lamp's answer: a lamp more (n + 1, more addresses), or a throw and nothing changed -/
def xQL (G : va_G) (g : Nat → ClassId) (ad : Nat → Nat) (n : Nat) (a0 : Nat) (x : St × Nat × Int32) : Array Value → State → Outcome → State → Prop := va_Qi (fun r (u : St × (Nat → Nat)) => (u.1, 0, r) = x) (fun u t => wB G g u.2 (n + 1) a0 u.1 t ∧ ∀ k, k < tp n → u.2 k = ad k) (fun q : Nat => a0 ≤ q)
theorem Wd_sz {G : va_G} {g : Nat → ClassId} {ad : Nat → Nat} {n a0 : Nat} {H0 H : Heap} {σ : St} {locs : List Loc} (h : Wd G g ad n a0 H0 σ H locs) : a0 ≤ H.size := by
  have h1 := (h.1 0 _ (wl_at (tp_lt (by decide)) rfl)).lt
  have h2 := h.2.1.2 0 _ (wl_at (tp_lt (by decide)) rfl)
  exact Nat.le_of_lt (Nat.lt_of_le_of_lt h2 h1)
section MK
variable {p : Program} {l : Launch} {e : Env} {R : Room} {s : State} {m : MethodId} {args : Array Value} {below : List Frame} {meth : Method} {c : Code} {H : Heap} {locs : List Loc}
variable {ls : Array Slot} {G : va_G} {g : Nat → ClassId} {ad : Nat → Nat} {n a0 aM : Nat} {σ : St} {XC : String → State → State → Prop}
set_option maxHeartbeats 4000000 in
set_option maxRecDepth 100000 in
theorem lamp_mk (hx : p.tables.exec = Jvm.exec) (hb : c.code = cX6_lamp) (hr : meth.sig.returnType = some .int) (hlocks : meth.locks = false) (hml : c.maxLocals = 9) (htA : ∀ w ∈ AL, w.before args s = true) (hown : s.vm.findClass RX6 = some m.cls) (hK : wK G g a0 aM s) (hW : Wd G g ad n a0 s.heap σ H locs) (hsz : a0 ≤ s.heap.size)
    {x4 x5 x6 : Int32} {x7 : Int64} (hl : lv_has ls 9 [(0, .ref (ad 0)), (4, .int x4), (5, .int x5), (6, .int x6), (7, .long x7)]) (hi : ib (σ.1 0 10) 24 = true) (hn : (σ.1 0 10).toNatClampNeg = n) (hRf : 3 ≤ R.frames) (hRl : 67 ≤ R.locals) (hRc : 12 ≤ R.cells) (hRs : 669 ≤ R.slots)
    {x : St × Nat × Int32} (hF : some (sI (nL σ n x7 x4 x5 x6) 0 10 ((nL σ n x7 x4 x5 x6).1 0 10 + 1), 0, (sI (nL σ n x7 x4 x5 x6) 0 10 ((nL σ n x7 x4 x5 x6).1 0 10 + 1)).1 0 10 - 1) = some x) :
    W p l e R s m args below meth c H locs 0 0 (vx_MQ below (xQL G g ad n a0 x) XC args s 12 669 (fun q : Nat => a0 ≤ q)) (F0 m 137 ls []) := by
  have hA : ∀ q : Nat, s.heap.size ≤ q → (fun q : Nat => a0 ≤ q) q := fun q h => Nat.le_trans hsz h
  refine lv_aload_n hx hb dX6_lamp_137 rfl (lv_at hl 0 rfl) ?_
  refine r_get (C := RX6) (T := TX6) (N := 13) hx hb htA ia_X6 hown hK hW (0) (tp_lt (by decide)) (cE_k (rfl : kd 0 = 1)) rfl 9 (by decide) (htA _ aw_213) rfl dX6_lamp_138 ?_
  refine lv_aload_n hx hb dX6_lamp_141 rfl (lv_at hl 0 rfl) ?_
  refine r_get (C := RX6) (T := TX6) (N := 13) hx hb htA ia_X6 hown hK hW (0) (tp_lt (by decide)) (cE_k (rfl : kd 0 = 1)) rfl 10 (by decide) (htA _ aw_221) rfl dX6_lamp_142 ?_
  refine va_new (ci := 0) (fs := lampBlank) (C := RX1) (T := TX1) (N := 15) hx hb htA ia_X1 tyX1 tyX1_ok hown (htA _ aw_212) (htA _ aw_226) (htA _ aw_57) hK.1 hW.1 hW.2.1 hW.2.2 hA rfl (fun j hj => by rcases (show j = 0 ∨ j = 1 ∨ j = 2 ∨ j = 3 ∨ j = 4 ∨ j = 5 ∨ j = 6 ∨ j = 7 ∨ j = 8 ∨ j = 9 ∨ j = 10 ∨ j = 11 ∨ j = 12 ∨ j = 13 ∨ j = 14 by omega) with rfl | rfl | rfl | rfl | rfl | rfl | rfl | rfl | rfl | rfl | rfl | rfl | rfl | rfl | rfl <;> rfl) (by omega) (by omega) dX6_lamp_145 (fun q H1 hP1 hD1 hS1 => ?_)
  have hlen : (wl g ad n σ).length = tp n := by simp [wl]
  have hPw : va_P G vwCl (wl g ad n σ) H1 := fun k z hk => hP1 k z (by rw [List.getElem?_append_left (List.getElem?_eq_some_iff.mp hk).1]; exact hk)
  have hlast : (wl g ad n σ ++ [(q, (.inr (0, lampBlank) : va_E))])[tp n]? = some (q, .inr (0, lampBlank)) := by
    rw [List.getElem?_append_right (by omega), hlen, Nat.sub_self]; rfl
  have hPc : va_P G vwCl [(q, .inr (0, lampBlank))] H1 := fun k z hk => by
    have h1 : k < 1 := (List.getElem?_eq_some_iff.mp hk).1
    rw [show k = 0 by omega] at hk
    cases hk
    exact hP1 (tp n) _ hlast
  have hDc : va_D (fun q : Nat => a0 ≤ q) [(q, (.inr (0, lampBlank) : va_E))] := ⟨fun i j a b h1 h2 _ => by
      have h3 : i < 1 := (List.getElem?_eq_some_iff.mp h1).1
      have h4 : j < 1 := (List.getElem?_eq_some_iff.mp h2).1
      omega, fun k z hk => by
      have h1 : k < 1 := (List.getElem?_eq_some_iff.mp hk).1
      rw [show k = 0 by omega] at hk
      cases hk
      exact hD1.2 (tp n) _ hlast⟩
  have hne : ∀ (k : Nat) (z : Nat × va_E), (wl g ad n σ)[k]? = some z → z.1 ≠ q := fun k z hk h9 => by
    have hkl := (List.getElem?_eq_some_iff.mp hk).1
    have h1 := hD1.1 k (tp n) z (q, .inr (0, lampBlank)) (by rw [List.getElem?_append_left hkl]; exact hk) hlast h9
    omega
  have hFc : ∀ z, va_A [(q, (.inr (0, lampBlank) : va_E))] H1.size z → (fun q : Nat => a0 ≤ q) z := fun z hz => by
    rcases hz with ⟨k, e9, hk⟩ | hz
    · exact hDc.2 k (z, e9) hk
    · exact Nat.le_trans hsz (Nat.le_trans hS1.1 hz)
  refine lv_dup hx hb dX6_lamp_148 rfl ?_
  refine lv_lload hx hb dX6_lamp_149 (lv_at hl 4 rfl) ?_
  refine lv_iload hx hb dX6_lamp_151 (lv_at hl 1 rfl) ?_
  refine lv_iload hx hb dX6_lamp_153 (lv_at hl 2 rfl) ?_
  refine lv_iload hx hb dX6_lamp_155 (lv_at hl 3 rfl) ?_
  refine va_callv (va_runI (As := [.long x7, .int x4, .int x5, .int x6]) (rest := [.ref q, .int (σ.1 0 10), .ref (ad 25)]) ⟨hx, hb, hml, hown, htA⟩ (c_X1_init l G g q H1.size x7 x4 x5 x6) (cwI 4 htA gz_X1_init rfl rfl rfl (htA _ aw_57) (htA _ aw_235) (htA _ aw_236) rfl (by decide +kernel) ⟨by show 2 + 1 ≤ R.frames; omega, by show 8 + (7 + 11) + 41 ≤ R.locals; omega⟩) (iPre (kI.of hK) hPc hDc) rfl rfl hl.1 rfl (lv_room (Nat.le_of_ble_eq_true rfl)) dX6_lamp_157 ⟨by omega, by omega⟩) hS1 (fun z _ h => hFc z h) hFc (fun u t H2 locs2 ht hvm hw hB hz1 hk1 hS2 => ?_)
  obtain ⟨hP2, hD2⟩ := hB
  rw [ht] at hP2
  have hPw2 : va_P G vwCl (wl g ad n σ) H2 := hPw.kept (fun k z hk => hk1 z.1 (hPw k z hk).lt (fun h9 => by
    rcases h9 with ⟨k9, e9, h9⟩ | h9
    · have h1 : k9 < 1 := (List.getElem?_eq_some_iff.mp h9).1
      rw [show k9 = 0 by omega] at h9
      cases h9
      exact hne k z hk rfl
    · exact absurd (hPw k z hk).lt (by omega)))
  have hPa : va_P G vwCl (wl g ad n σ ++ w1_X1 g q x7 x4 x5 x6 u) H2 := hPw2.app hP2
  have hDa : va_D (fun q : Nat => a0 ≤ q) (wl g ad n σ ++ w1_X1 g q x7 x4 x5 x6 u) := va_D.app hW.2.1 (hD2.weaken (fun k z hk h => hFc _ h)) (fun i j a b h1 h2 h9 => by
    rcases hD2.2 j b h2 with ⟨k9, e9, h8⟩ | h8
    · have h7 : k9 < 1 := (List.getElem?_eq_some_iff.mp h8).1
      rw [show k9 = 0 by omega] at h8
      have h6 : b.1 = q := (congrArg Prod.fst (Option.some.inj h8)).symm
      exact hne i a h1 (h9.trans h6)
    · have h7 := (hPw i a h1).lt
      rw [h9] at h7
      omega)
  have hq0 : (wl g ad n σ ++ w1_X1 g q x7 x4 x5 x6 u)[25]? = some (ad 25, .inl (g 4, 24, .inr (.inr (.inr (.inr (fun z => if z < n then some (ad (54 + 12 * z)) else none)))))) := by
    rw [List.getElem?_append_left (by rw [hlen]; exact tp_lt (by decide))]
    exact wl_at (tp_lt (by decide)) (cE_k (k := 25) (κ := 8) rfl)
  have hqk : (wl g ad n σ ++ w1_X1 g q x7 x4 x5 x6 u)[tp n]? = some (q, .inr (0, [.long x7, .int x4, .int x5, .ref (u 0), .ref (u 1), .ref (u 3), .ref (u 4), .int 0, .int 0, .int 1, .int x6, .int 0, .int 0, .int 0, .int 0])) := by
    rw [List.getElem?_append_right (by omega), hlen, Nat.sub_self]; rfl
  refine va_astq (D := G) (r := (RX1, TX1, 15)) hx hb hK.1 hPa hDa hS2 25 4 (tp n) 0 hq0 rfl hqk rfl (ib_in hi) dX6_lamp_160 (fun H3 locs3 hP3 hD3 hS3 => ?_)
  rw [hn, List.set_append_left 25 _ (by rw [hlen]; exact tp_lt (by decide)), wl_grow] at hP3 hD3
  have hW3 : Wd G g (nA ad n q u) (n + 1) a0 s.heap (nL σ n x7 x4 x5 x6) H3 locs3 := ⟨hP3, hD3, hS3⟩
  have h00 : nA ad n q u 0 = ad 0 := nA_lo (by omega)
  have hl2 : lv_has ls 9 [(0, .ref (nA ad n q u 0))] := by rw [h00]; exact lv_sub hl [0] rfl
  clear hPa hDa hPw2 hP2 hD2
  generalize hade : nA ad n q u = ad' at hW3 hl2
  refine lv_aload_n hx hb dX6_lamp_161 rfl (lv_at hl2 0 rfl) ?_
  refine lv_dup hx hb dX6_lamp_162 rfl ?_
  refine r_get (C := RX6) (T := TX6) (N := 13) hx hb htA ia_X6 hown hK hW3 (0) (tp_lt (by decide)) (cE_k (rfl : kd 0 = 1)) rfl 10 (by decide) (htA _ aw_221) rfl dX6_lamp_163 ?_
  refine lv_iconst (v := 1) hx hb dX6_lamp_166 (by decide) ?_
  refine lv_iadd hx hb dX6_lamp_167 ?_
  refine r_putI (C := RX6) (T := TX6) (N := 13) (ty := .int) hx hb htA ia_X6 tyX6 tyX6_ok nmX6 hown hK hW3 (0) (tp_lt (by decide)) (cE_k (rfl : kd 0 = 1)) rfl 10 (by decide) (cE_k (rfl : kd 0 = 1)) (htA _ aw_221) rfl (by decide +kernel) rfl rfl (Nat.le_of_ble_eq_true rfl) dX6_lamp_168 (fun H locs hW => ?_)
  refine lv_aload_n hx hb dX6_lamp_171 rfl (lv_at hl2 0 rfl) ?_
  refine r_get (C := RX6) (T := TX6) (N := 13) hx hb htA ia_X6 hown hK hW (0) (tp_lt (by decide)) (cE_k (rfl : kd 0 = 1)) rfl 10 (by decide) (htA _ aw_221) rfl dX6_lamp_172 ?_
  refine lv_iconst (v := 1) hx hb dX6_lamp_175 (by decide) ?_
  refine lv_isub hx hb dX6_lamp_176 ?_
  refine W.widen (k := 12) (n := 669) (Nat.le_of_ble_eq_true rfl) (Nat.le_of_ble_eq_true rfl) ?_
  refine vx_ret (W.iret hx hb hr (fun t ht _ => ⟨⟨_, (sI (nL σ n x7 x4 x5 x6) 0 10 ((nL σ n x7 x4 x5 x6).1 0 10 + 1), ad'), rfl, Option.some.inj hF, ⟨by rw [ht]; exact hW.1, hW.2.1⟩, fun k hk => by rw [← hade]; exact nA_lo hk⟩, hW.2.2.F ht⟩) hW.2.2.2.2 dX6_lamp_177 hlocks)
end MK
