/-! ===== the law's helper 'lamp' ===== -/
/-- its answer: 0 and a lamp more, or a number of a throw and nothing changed -/
def qH (G : va_G) (g : Nat → ClassId) (ad : Nat → Nat) (n : Nat) (a0 : Nat) (x : St × Int32) : Array Value → State → Outcome → State → Prop := va_Qi (fun r (u : St × Nat × (Nat → Nat)) => (u.1, r) = x ∧ u.2.1 = (if x.2 = 0 then n + 1 else n)) (fun u t => wB G g u.2.2 u.2.1 a0 u.1 t ∧ ∀ k, k < tp n → u.2.2 k = ad k) (fun q : Nat => a0 ≤ q)
section HL
variable {p : Program} {l : Launch} {e : Env} {R : Room} {s : State} {m : MethodId} {args : Array Value} {below : List Frame} {meth : Method} {c : Code} {H : Heap} {locs : List Loc} {cells slots mc ms : Nat} {Q : State → Prop}
variable {pc : Nat} {ls : Array Slot} {st0 rest : List Value} {G : va_G} {g : Nat → ClassId} {ad : Nat → Nat} {n a0 aM : Nat} {σ : St} {a : Array Value}
theorem rx_bL {x : St × Nat × Int32} (hr : vx_Run p l e R s m args below meth c H locs cells slots mc ms (F0 m pc ls st0) rest (xQL G g ad n a0 x a) (xX G g ad n a0 x.1 x.2.1) (fun q : Nat => a0 ≤ q)) (hW : Wd G g ad n a0 s.heap σ H locs)
    (kx : ∀ (E : String) (ce : Cell) (q9 : Addr) (H : Heap) (locs : List Loc), exN E = x.2.1 → Wd G g ad n a0 s.heap x.1 H locs → H[q9]? = some ce → ce.vm = .none → s.vm.findClass E = some ce.cls → vx_W p l e R s m args below meth c H locs (cells + mc) (slots + ms) Q (F0 m pc ls rest) q9)
    (kk : ∀ (ad' : Nat → Nat) (H : Heap) (locs : List Loc), x.2.1 = 0 → (∀ k, k < tp n → ad' k = ad k) → Wd G g ad' (n + 1) a0 s.heap x.1 H locs → W p l e R s m args below meth c H locs (cells + mc) (slots + ms) Q (F0 m (pc + 3) ls (.int x.2.2 :: rest))) : W p l e R s m args below meth c H locs cells slots Q (F0 m pc ls st0) :=
  vx_calli hr hW.2.2 (fun _ _ h => h) (fun _ h => h) (fun _ _ h => h) (fun E ce q9 u t H1 locs1 ht _ hp hB _ _ hS h1 h2 h3 => by
    subst hp; subst ht
    exact kx E ce q9 t.heap locs1 hB.1 ⟨hB.2.1, hB.2.2, hS⟩ h1 h2 h3) (fun r u t H1 locs1 ht _ hp hB _ _ hS => by
    obtain ⟨u1, u2⟩ := u
    subst hp; subst ht
    exact kk u2 t.heap locs1 rfl hB.2 ⟨hB.1.1, hB.1.2, hS⟩)
/-- behind a call of this helper -/
theorem rh_bL {x : St × Int32} (hr : vx_Run p l e R s m args below meth c H locs cells slots mc ms (F0 m pc ls st0) rest (qH G g ad n a0 x a) (xN a0) (fun q : Nat => a0 ≤ q)) (hW : Wd G g ad n a0 s.heap σ H locs)
    (kk : ∀ (ad' : Nat → Nat) (H : Heap) (locs : List Loc), (∀ k, k < tp n → ad' k = ad k) → Wd G g ad' (if x.2 = 0 then n + 1 else n) a0 s.heap x.1 H locs → W p l e R s m args below meth c H locs (cells + mc) (slots + ms) Q (F0 m (pc + 3) ls (.int x.2 :: rest))) : W p l e R s m args below meth c H locs cells slots Q (F0 m pc ls st0) :=
  vx_calli hr hW.2.2 (fun _ _ h => h) (fun _ h => h) (fun _ _ h => h) (fun E ce q9 u t H1 locs1 ht _ hp hB _ _ hS h1 h2 h3 => absurd hp (fun h => h)) (fun r u t H1 locs1 ht _ hp hB _ _ hS => by
    obtain ⟨u1, u2, u3⟩ := u
    obtain ⟨hp, hn⟩ := hp
    subst hp; subst ht
    have hn' : u2 = if r = 0 then n + 1 else n := hn
    subst hn'
    exact kk u3 t.heap locs1 hB.2 ⟨hB.1.1, hB.1.2, hS⟩)
end HL
def F_L_lamp (n : Nat) (σ : St) (x1 : Int32) (x2 : Int64) (x4 : Int32) (x5 : Int32) (x6 : Int32) : Option (St × Int32) := (F_X6_lamp n σ x1 x2 x4 x5 x6).bind (fun y => if y.2.1 = 0 then some (sJ y.1 26 (Int32.toNatClampNeg 0) (Int32.toInt64 y.2.2), 0) else if y.2.1 = 1 then some (y.1, 1) else if y.2.1 = 2 then some (y.1, 2) else none)
set_option maxHeartbeats 4000000 in
set_option maxRecDepth 100000 in
theorem m_L_lamp (l : Launch) (hst : l.stackTraces = false) (G : va_G) (g : Nat → ClassId) (ad : Nat → Nat) (n a0 aM : Nat) (σ : St) (x1 : Int32) (x2 : Int64) (x4 : Int32) (x5 : Int32) (x6 : Int32) (x : St × Int32) (hF : F_L_lamp n σ x1 x2 x4 x5 x6 = some x) : vx_Met l yL_lamp zs_L_lamp ({ frames := 7, cells := 12, slots := 669, locals := 110 } : Room) (va_Pc [.ref (ad 0), .int x1, .long x2, .int x4, .int x5, .int x6, .ref (ad 26)] (wP G g ad n a0 aM σ)) (qH G g ad n a0 x) (xN a0) 12 669 (fun q : Nat => a0 ≤ q) := by
  refine vx_ofWH (cc := cL_lamp) (maxL := 9) (ret := (some .int)) (by decide) rfl ?_
  intro p e s m args below meth c s₁ B hml hv
  obtain ⟨rfl, hP, hD, hK⟩ := hv
  have hx := B.exec
  have hb := B.bytes
  have hr := B.returns
  have htA : ∀ w ∈ AL, w.before _ s = true := fun w h9 => atoms_spec (ws := zs_L_lamp) B.pre w (List.mem_cons_of_mem _ h9)
  have hown : s.vm.findClass RL = some m.cls := findClass_of_methodNamed B.named
  have hlocks := B.notSynchronized
  have hW : Wd G g ad n a0 s.heap σ s.heap [] := ⟨hP, hD, va_S.rf⟩
  clear hP hD
  have htab := vx_table (x := yL_lamp) B (atoms_spec (ws := zs_L_lamp) B.pre _ List.mem_cons_self)
  have hl := lv_entry ([.ref (ad 0), .int x1, .long x2, .int x4, .int x5, .int x6, .ref (ad 26)]) (n := 9) (Nat.le_of_ble_eq_true rfl)
  rw [lg_entry_eq]
  generalize (lg_sl ([.ref (ad 0), .int x1, .long x2, .int x4, .int x5, .int x6, .ref (ad 26)]) ++ List.replicate (9 - (lg_sl ([.ref (ad 0), .int x1, .long x2, .int x4, .int x5, .int x6, .ref (ad 26)])).length) Slot.unset).toArray = ls at hl ⊢
  have hl : lv_has ls 9 [(0, .ref (ad 0)), (1, .int x1), (2, .long x2), (4, .int x4), (5, .int x5), (6, .int x6), (7, .ref (ad 26))] := hl
  unfold F_L_lamp at hF
  refine lv_aload hx hb dL_lamp_0 (lv_at hl 6 rfl) ?_
  refine lv_iconst (v := 0) hx hb dL_lamp_2 (by decide) ?_
  refine lv_aload_n hx hb dL_lamp_3 rfl (lv_at hl 0 rfl) ?_
  refine lv_iload_n hx hb dL_lamp_4 rfl (lv_at hl 1 rfl) ?_
  refine lv_lload_n hx hb dL_lamp_5 rfl (lv_at hl 2 rfl) ?_
  refine lv_iload hx hb dL_lamp_6 (lv_at hl 3 rfl) ?_
  refine lv_iload hx hb dL_lamp_8 (lv_at hl 4 rfl) ?_
  refine lv_iload hx hb dL_lamp_10 (lv_at hl 5 rfl) ?_
  obtain ⟨y, hy, hF⟩ := bd_some hF
  refine rx_bL (vx_runV (As := [.int x1, .long x2, .int x4, .int x5, .int x6]) (rest := [.int 0, .ref (ad 26)]) ⟨hx, hb, hml, hown, htA⟩ (m_X6_lamp l hst G g ad n a0 aM σ x1 x2 x4 x5 x6 y hy) (cwV 5 htA (gV aw_587 aw_588 aw_589 aw_52 gz_X6_lamp) rfl rfl rfl (by decide +kernel) ⟨Nat.le_of_ble_eq_true rfl, Nat.le_of_ble_eq_true rfl⟩) (r_preV hK hW 0 (tp_lt (by decide)) (cE_k (rfl : kd 0 = 1)) rfl [.int x1, .long x2, .int x4, .int x5, .int x6]) rfl rfl hl.1 rfl (lv_room (Nat.le_of_ble_eq_true rfl)) dL_lamp_12 ⟨Nat.le_of_ble_eq_true rfl, Nat.le_of_ble_eq_true rfl⟩) hW (fun E ce q9 H locs hE hW hcell hv9 hcl => ?_) (fun ad' H locs h0y had hW => ?_)
  · replace hF := (if_neg (fun h9 => exN_pos E (hE.trans h9))).symm.trans hF
    by_cases hk0 : y.2.1 = 1
    · replace hF := (if_pos hk0).symm.trans hF
      have hEe := exN_1 (hE.trans hk0)
      subst hEe
      refine ct_1 (name := eIA) hown ⟨0, 17, 20, 13⟩ _ htab (by decide) (by decide) (htA _ aw_585) (cst_use (w := .castable eIA eIA) (by decide +kernel) (hK.2.2.2.2.2.2.2.1 _ (by decide +kernel))) hcell hv9 hcl ?_
      refine lv_astore (lv' := [(8, .ref q9), (0, .ref (ad 0)), (1, .int x1), (2, .long x2), (4, .int x4), (5, .int x5), (6, .int x6), (7, .ref (ad 26))]) hx hb dL_lamp_20 hl (by decide) rfl (fun ls hl => ?_)
      refine lv_iconst (v := 1) hx hb dL_lamp_22 (by decide) ?_
      have hF := Option.some.inj hF
      subst hF
      exact W.widen (k := 12) (n := 669) (Nat.le_of_ble_eq_true rfl) (Nat.le_of_ble_eq_true rfl) (vx_ret (W.iret hx hb hr (fun t ht _ => ⟨⟨1, (y.1, n, ad), rfl, ⟨rfl, (if_neg (show ¬ (1 : Int32) = 0 by decide)).symm⟩, ⟨by rw [ht]; exact hW.1, hW.2.1⟩, fun _ _ => rfl⟩, hW.2.2.F ht⟩) hW.2.2.2.2 dL_lamp_23 hlocks))
    · replace hF := (if_neg hk0).symm.trans hF
      by_cases hk1 : y.2.1 = 2
      · replace hF := (if_pos hk1).symm.trans hF
        have hEe := exN_2 (hE.trans hk1)
        subst hEe
        refine ct_2 (name := eIS) (nam2 := eIA) hown ⟨0, 17, 20, 13⟩ ⟨0, 17, 24, 15⟩ _ htab (by decide) (by decide) (htA _ aw_585) (hK.2.2.2.2.2.2.2.2.1 (eIS, eIA) (by decide +kernel)) (by decide) (by decide) (htA _ aw_586) (cst_use (w := .castable eIS eIS) (by decide +kernel) (hK.2.2.2.2.2.2.2.1 _ (by decide +kernel))) hcell hv9 hcl ?_
        refine lv_astore (lv' := [(8, .ref q9), (0, .ref (ad 0)), (1, .int x1), (2, .long x2), (4, .int x4), (5, .int x5), (6, .int x6), (7, .ref (ad 26))]) hx hb dL_lamp_24 hl (by decide) rfl (fun ls hl => ?_)
        refine lv_iconst (v := 2) hx hb dL_lamp_26 (by decide) ?_
        have hF := Option.some.inj hF
        subst hF
        exact W.widen (k := 12) (n := 669) (Nat.le_of_ble_eq_true rfl) (Nat.le_of_ble_eq_true rfl) (vx_ret (W.iret hx hb hr (fun t ht _ => ⟨⟨2, (y.1, n, ad), rfl, ⟨rfl, (if_neg (show ¬ (2 : Int32) = 0 by decide)).symm⟩, ⟨by rw [ht]; exact hW.1, hW.2.1⟩, fun _ _ => rfl⟩, hW.2.2.F ht⟩) hW.2.2.2.2 dL_lamp_27 hlocks))
      · replace hF := (if_neg hk1).symm.trans hF
        exact absurd hF (fun h9 => nomatch h9)
  · replace hF := (if_pos h0y).symm.trans hF
    refine lv_i2l (v := (Int32.toInt64 y.2.2)) hx hb dL_lamp_15 rfl ?_
    have h26 : ad' 26 = ad 26 := had 26 (tp_lt (by decide))
    refine W.eq (g2 := F0 m 16 ls [.long (Int32.toInt64 y.2.2), .int 0, .ref (ad' 26)]) (by rw [h26]) ?_
    refine r_last hx hb hK hW (26) (tp_lt (by decide)) (rfl : kd 26 = 7) (i := 0) (by decide) dL_lamp_16 (fun H locs hW => ?_)
    refine lv_goto (tgt := 28) hx hb dL_lamp_17 (by decide) ?_
    refine lv_iconst (v := 0) hx hb dL_lamp_28 (by decide) ?_
    have hF := Option.some.inj hF
    subst hF
    exact W.widen (k := 12) (n := 669) (Nat.le_of_ble_eq_true rfl) (Nat.le_of_ble_eq_true rfl) (vx_ret (W.iret hx hb hr (fun t ht _ => ⟨⟨0, (sJ y.1 26 (Int32.toNatClampNeg 0) (Int32.toInt64 y.2.2), n + 1, ad'), rfl, ⟨rfl, (if_pos rfl).symm⟩, ⟨by rw [ht]; exact hW.1, hW.2.1⟩, had⟩, hW.2.2.F ht⟩) hW.2.2.2.2 dL_lamp_29 hlocks))
