/-! ===== the law's loop, over an invariant of the stores ===== -/
def F_it (xs : Nat → Int32) (x4 : Int32) (n : Nat) (σ : St) : Option (Nat × St) := if (xs (Int32.toNatClampNeg x4) &&& 31) = 0 then F_lc_0 xs x4 n σ else if (xs (Int32.toNatClampNeg x4) &&& 31) = 1 then F_lc_1 xs x4 n σ else if (xs (Int32.toNatClampNeg x4) &&& 31) = 2 then F_lc_2 xs x4 n σ else if (xs (Int32.toNatClampNeg x4) &&& 31) = 3 then F_lc_3 xs x4 n σ else if (xs (Int32.toNatClampNeg x4) &&& 31) = 4 then F_lc_4 xs x4 n σ else if (xs (Int32.toNatClampNeg x4) &&& 31) = 5 then F_lc_5 xs x4 n σ else if (xs (Int32.toNatClampNeg x4) &&& 31) = 6 then F_lc_6 xs x4 n σ else if (xs (Int32.toNatClampNeg x4) &&& 31) = 7 then F_lc_7 xs x4 n σ else if (xs (Int32.toNatClampNeg x4) &&& 31) = 8 then F_lc_8 xs x4 n σ else if (xs (Int32.toNatClampNeg x4) &&& 31) = 9 then F_lc_9 xs x4 n σ else if (xs (Int32.toNatClampNeg x4) &&& 31) = 10 then F_lc_10 xs x4 n σ else if (xs (Int32.toNatClampNeg x4) &&& 31) = 11 then F_lc_11 xs x4 n σ else if (xs (Int32.toNatClampNeg x4) &&& 31) = 12 then F_lc_12 xs x4 n σ else if (xs (Int32.toNatClampNeg x4) &&& 31) = 13 then F_lc_13 xs x4 n σ else if (xs (Int32.toNatClampNeg x4) &&& 31) = 14 then F_lc_14 xs x4 n σ else if (xs (Int32.toNatClampNeg x4) &&& 31) = 15 then F_lc_15 xs x4 n σ else if (xs (Int32.toNatClampNeg x4) &&& 31) = 16 then F_lc_16 xs x4 n σ else if (xs (Int32.toNatClampNeg x4) &&& 31) = 17 then F_lc_17 xs x4 n σ else some (n, σ)
theorem lp_in {i j L : Nat} (hL : L ≤ 3584) (h : 7 * i + 7 ≤ L) (hj : j < 7) : vp_in (nI (7 * i) + nI j) L := by
  rw [nI_add]
  exact vp_in_nI (by omega) (by omega)
theorem lp_end {i L : Nat} (hL : L ≤ 3584) (hi : 7 * i ≤ L + 7) : (Int32.ofNat L - 7 < nI (7 * i)) ↔ L < 7 * i + 7 := by
  have h1 : (nI L - nI 7).toInt = (L : Int) - (7 : Nat) := pk_sub_toInt (by omega) (by decide)
  have h2 : (nI (7 * i)).toInt = ((7 * i : Nat) : Int) := nI_toInt (by omega)
  rw [Int32.lt_iff_toInt_lt]
  show (nI L - nI 7).toInt < _ ↔ _
  rw [h1, h2]
  omega
set_option maxHeartbeats 4000000 in
set_option maxRecDepth 100000 in
theorem law_loop {p : Program} {e : Env} {s : State} {m : MethodId} {below : List Frame} {meth : Method} {c : Code} (l : Launch) (hst : l.stackTraces = false) {b L : Nat} {xs : Nat → Int32} (hL : L ≤ 3584) (C0 : lw_At p s m meth c b L xs) (htA : ∀ w ∈ AL, w.before #[Value.ref b] s = true) {G : va_G} {g : Nat → ClassId} {aM : Nat} (hK : wK G g s.heap.size aM s) (Inv : Nat → Nat → St → Prop) (hI : ∀ (i n : Nat) (σ : St), i < 512 → Inv i n σ → ∃ z, F_it xs (nI (7 * i)) n σ = some z ∧ Inv (i + 1) z.1 z.2) :
    ∀ (k i n : Nat) (σ : St) (ad : Nat → Nat) (H : Heap) (locs : List Loc) (ls : Array Slot), 7 * i ≤ L → 512 ≤ i + k → Inv i n σ → Wd G g ad n s.heap.size s.heap σ H locs → ∀ x4 : Int32, x4 = nI (7 * i) → lv_has ls 8 [(0, .ref b), (1, .ref (ad (0))), (2, .ref (ad (27))), (3, .ref (ad (26))), (4, .int x4)] → W p l e room_1 s m #[Value.ref b] below meth c H locs (100 + 12 * i) (30000 + 669 * i) (lw_Z below #[Value.ref b] s) (F0 m 23 ls []) := by
  obtain ⟨hx, hb, hr, hml, hown, hts, hX, hbl, hlocks, hgv⟩ := id C0
  have hbA : ¬ (fun q : Nat => s.heap.size ≤ q) b := Nat.not_le.mpr hbl
  intro k
  induction k with
  | zero =>
    intro i n σ ad H locs ls hi hk hV hW x4 e4 hl
    have hend : Int32.ofNat L - 7 < x4 := by rw [e4]; exact (lp_end hL (by omega)).mpr (by omega)
    refine lv_iload hx hb dL_law_23 (lv_at hl 4 rfl) ?_
    refine lv_aload_n hx hb dL_law_25 rfl (lv_at hl 0 rfl) ?_
    refine va_slen hx hb hX hbl hbA hW.2.2 dL_law_26 ?_
    refine lv_bipush (v := 7) hx hb dL_law_27 (by decide) ?_
    refine lv_isub hx hb dL_law_29 ?_
    refine lv_icmp_gt (tgt := 1215) hx hb dL_law_30 (by decide) (fun _ => ?_) (fun h9 => absurd hend h9)
    refine lv_iconst (v := 1) hx hb dL_law_1215 (by decide) ?_
    refine va_forget (fun q hq => hW.2.2.2.2 q hq) ?_
    refine W.widen (k := 601024) (n := 7293034) (by omega) (by omega) ?_
    exact lw_ret hx hb hr hlocks dL_law_1216
  | succ k ih =>
    intro i n σ ad H locs ls hi hk hV hW x4 e4 hl
    refine lv_iload hx hb dL_law_23 (lv_at hl 4 rfl) ?_
    refine lv_aload_n hx hb dL_law_25 rfl (lv_at hl 0 rfl) ?_
    refine va_slen hx hb hX hbl hbA hW.2.2 dL_law_26 ?_
    refine lv_bipush (v := 7) hx hb dL_law_27 (by decide) ?_
    refine lv_isub hx hb dL_law_29 ?_
    refine lv_icmp_gt (tgt := 1215) hx hb dL_law_30 (by decide) (fun h9 => ?_) (fun h9 => ?_)
    · refine lv_iconst (v := 1) hx hb dL_law_1215 (by decide) ?_
      have hi2 : i ≤ 513 := by omega
      refine va_forget (fun q hq => hW.2.2.2.2 q hq) ?_
      refine W.widen (k := 601024) (n := 7293034) (by omega) (by omega) ?_
      exact lw_ret hx hb hr hlocks dL_law_1216
    · have hlt : 7 * i + 7 ≤ L := by
        rcases Nat.lt_or_ge L (7 * i + 7) with h8 | h8
        · exact absurd (by rw [e4]; exact (lp_end hL (by omega)).mpr h8) h9
        · exact h8
      have hi5 : i < 512 := by omega
      have hs : ∀ j : Nat, j < 7 → vp_in (x4 + nI j) L := fun j hj => by rw [e4]; exact lp_in hL hlt hj
      have hs0 : vp_in x4 L := by rw [e4]; exact vp_in_nI (by omega) (by omega)
      obtain ⟨z, hF, hV2⟩ := hI i n σ hi5 hV
      rw [← e4] at hF
      have hC : 100 + 12 * i + 12 ≤ room_1.cells := by show 100 + 12 * i + 12 ≤ 601024; omega
      have hSl : 30000 + 669 * i + 669 ≤ room_1.slots := by show 30000 + 669 * i + 669 ≤ 7293034; omega
      have kk : ∀ (ad : Nat → Nat) (H : Heap) (locs : List Loc) (ls : Array Slot), Wd G g ad z.1 s.heap.size s.heap z.2 H locs → lv_has ls 8 [(0, .ref b), (1, .ref (ad (0))), (2, .ref (ad (27))), (3, .ref (ad (26))), (4, .int x4)] → W p l e room_1 s m #[Value.ref b] below meth c H locs (100 + 12 * i + 12) (30000 + 669 * i + 669) (lw_Z below #[Value.ref b] s) (F0 m 1209 ls []) := by
        intro ad H locs ls hW hl
        refine lv_iinc (v := x4 + 7) (lv' := [(4, .int (x4 + 7)), (0, .ref b), (1, .ref (ad (0))), (2, .ref (ad (27))), (3, .ref (ad (26)))]) hx hb dL_law_1209 hl (k := 4) rfl rfl (by decide) rfl (fun ls hl => ?_)
        refine lv_goto (tgt := 23) hx hb dL_law_1212 (by decide) ?_
        exact ih (i + 1) z.1 z.2 ad H locs ls (by omega) (by omega) hV2 hW (x4 + 7) (by rw [e4]; exact nI_add (7 * i) 7) (lv_sub hl [1, 2, 3, 4, 0] rfl)
      refine lv_aload_n hx hb dL_law_33 rfl (lv_at hl 0 rfl) ?_
      refine lv_iload hx hb dL_law_34 (lv_at hl 4 rfl) ?_
      refine va_sld hx hb hX hbl hbA hW.2.2 hs0 dL_law_36 ?_
      refine lv_bipush (v := 31) hx hb dL_law_37 (by decide) ?_
      refine lv_iand hx hb dL_law_39 ?_
      unfold F_it at hF
      by_cases hq0 : (xs (Int32.toNatClampNeg x4) &&& 31) = 0
      · replace hF := (if_pos hq0).symm.trans hF
        refine lv_tableIn (off := 88) (tgt := 128) hx hb dL_law_40 (by rw [hq0]; decide) (by rw [hq0]; decide) (by rw [hq0]; rfl) (by decide) ?_
        exact lc_0 l hst C0 htA hK hW hl hs hC hSl hF kk
      replace hF := (if_neg hq0).symm.trans hF
      by_cases hq1 : (xs (Int32.toNatClampNeg x4) &&& 31) = 1
      · replace hF := (if_pos hq1).symm.trans hF
        refine lv_tableIn (off := 226) (tgt := 266) hx hb dL_law_40 (by rw [hq1]; decide) (by rw [hq1]; decide) (by rw [hq1]; rfl) (by decide) ?_
        exact lc_1 l hst C0 htA hK hW hl hs hC hSl hF kk
      replace hF := (if_neg hq1).symm.trans hF
      by_cases hq2 : (xs (Int32.toNatClampNeg x4) &&& 31) = 2
      · replace hF := (if_pos hq2).symm.trans hF
        refine lv_tableIn (off := 330) (tgt := 370) hx hb dL_law_40 (by rw [hq2]; decide) (by rw [hq2]; decide) (by rw [hq2]; rfl) (by decide) ?_
        exact lc_2 l hst C0 htA hK hW hl hs hC hSl hF kk
      replace hF := (if_neg hq2).symm.trans hF
      by_cases hq3 : (xs (Int32.toNatClampNeg x4) &&& 31) = 3
      · replace hF := (if_pos hq3).symm.trans hF
        refine lv_tableIn (off := 366) (tgt := 406) hx hb dL_law_40 (by rw [hq3]; decide) (by rw [hq3]; decide) (by rw [hq3]; rfl) (by decide) ?_
        exact lc_3 l hst C0 htA hK hW hl hs hC hSl hF kk
      replace hF := (if_neg hq3).symm.trans hF
      by_cases hq4 : (xs (Int32.toNatClampNeg x4) &&& 31) = 4
      · replace hF := (if_pos hq4).symm.trans hF
        refine lv_tableIn (off := 379) (tgt := 419) hx hb dL_law_40 (by rw [hq4]; decide) (by rw [hq4]; decide) (by rw [hq4]; rfl) (by decide) ?_
        exact lc_4 l hst C0 htA hK hW hl hs hC hSl hF kk
      replace hF := (if_neg hq4).symm.trans hF
      by_cases hq5 : (xs (Int32.toNatClampNeg x4) &&& 31) = 5
      · replace hF := (if_pos hq5).symm.trans hF
        refine lv_tableIn (off := 435) (tgt := 475) hx hb dL_law_40 (by rw [hq5]; decide) (by rw [hq5]; decide) (by rw [hq5]; rfl) (by decide) ?_
        exact lc_5 l hst C0 htA hK hW hl hs hC hSl hF kk
      replace hF := (if_neg hq5).symm.trans hF
      by_cases hq6 : (xs (Int32.toNatClampNeg x4) &&& 31) = 6
      · replace hF := (if_pos hq6).symm.trans hF
        refine lv_tableIn (off := 573) (tgt := 613) hx hb dL_law_40 (by rw [hq6]; decide) (by rw [hq6]; decide) (by rw [hq6]; rfl) (by decide) ?_
        exact lc_6 l hst C0 htA hK hW hl hs hC hSl hF kk
      replace hF := (if_neg hq6).symm.trans hF
      by_cases hq7 : (xs (Int32.toNatClampNeg x4) &&& 31) = 7
      · replace hF := (if_pos hq7).symm.trans hF
        refine lv_tableIn (off := 621) (tgt := 661) hx hb dL_law_40 (by rw [hq7]; decide) (by rw [hq7]; decide) (by rw [hq7]; rfl) (by decide) ?_
        exact lc_7 l hst C0 htA hK hW hl hs hC hSl hF kk
      replace hF := (if_neg hq7).symm.trans hF
      by_cases hq8 : (xs (Int32.toNatClampNeg x4) &&& 31) = 8
      · replace hF := (if_pos hq8).symm.trans hF
        refine lv_tableIn (off := 634) (tgt := 674) hx hb dL_law_40 (by rw [hq8]; decide) (by rw [hq8]; decide) (by rw [hq8]; rfl) (by decide) ?_
        exact lc_8 l hst C0 htA hK hW hl hs hC hSl hF kk
      replace hF := (if_neg hq8).symm.trans hF
      by_cases hq9 : (xs (Int32.toNatClampNeg x4) &&& 31) = 9
      · replace hF := (if_pos hq9).symm.trans hF
        refine lv_tableIn (off := 702) (tgt := 742) hx hb dL_law_40 (by rw [hq9]; decide) (by rw [hq9]; decide) (by rw [hq9]; rfl) (by decide) ?_
        exact lc_9 l hst C0 htA hK hW hl hs hC hSl hF kk
      replace hF := (if_neg hq9).symm.trans hF
      by_cases hq10 : (xs (Int32.toNatClampNeg x4) &&& 31) = 10
      · replace hF := (if_pos hq10).symm.trans hF
        refine lv_tableIn (off := 757) (tgt := 797) hx hb dL_law_40 (by rw [hq10]; decide) (by rw [hq10]; decide) (by rw [hq10]; rfl) (by decide) ?_
        exact lc_10 l hst C0 htA hK hW hl hs hC hSl hF kk
      replace hF := (if_neg hq10).symm.trans hF
      by_cases hq11 : (xs (Int32.toNatClampNeg x4) &&& 31) = 11
      · replace hF := (if_pos hq11).symm.trans hF
        refine lv_tableIn (off := 825) (tgt := 865) hx hb dL_law_40 (by rw [hq11]; decide) (by rw [hq11]; decide) (by rw [hq11]; rfl) (by decide) ?_
        exact lc_11 l hst C0 htA hK hW hl hs hC hSl hF kk
      replace hF := (if_neg hq11).symm.trans hF
      by_cases hq12 : (xs (Int32.toNatClampNeg x4) &&& 31) = 12
      · replace hF := (if_pos hq12).symm.trans hF
        refine lv_tableIn (off := 893) (tgt := 933) hx hb dL_law_40 (by rw [hq12]; decide) (by rw [hq12]; decide) (by rw [hq12]; rfl) (by decide) ?_
        exact lc_12 l hst C0 htA hK hW hl hs hC hSl hF kk
      replace hF := (if_neg hq12).symm.trans hF
      by_cases hq13 : (xs (Int32.toNatClampNeg x4) &&& 31) = 13
      · replace hF := (if_pos hq13).symm.trans hF
        refine lv_tableIn (off := 977) (tgt := 1017) hx hb dL_law_40 (by rw [hq13]; decide) (by rw [hq13]; decide) (by rw [hq13]; rfl) (by decide) ?_
        exact lc_13 l hst C0 htA hK hW hl hs hC hSl hF kk
      replace hF := (if_neg hq13).symm.trans hF
      by_cases hq14 : (xs (Int32.toNatClampNeg x4) &&& 31) = 14
      · replace hF := (if_pos hq14).symm.trans hF
        refine lv_tableIn (off := 990) (tgt := 1030) hx hb dL_law_40 (by rw [hq14]; decide) (by rw [hq14]; decide) (by rw [hq14]; rfl) (by decide) ?_
        exact lc_14 l hst C0 htA hK hW hl hs hC hSl hF kk
      replace hF := (if_neg hq14).symm.trans hF
      by_cases hq15 : (xs (Int32.toNatClampNeg x4) &&& 31) = 15
      · replace hF := (if_pos hq15).symm.trans hF
        refine lv_tableIn (off := 1046) (tgt := 1086) hx hb dL_law_40 (by rw [hq15]; decide) (by rw [hq15]; decide) (by rw [hq15]; rfl) (by decide) ?_
        exact lc_15 l hst C0 htA hK hW hl hs hC hSl hF kk
      replace hF := (if_neg hq15).symm.trans hF
      by_cases hq16 : (xs (Int32.toNatClampNeg x4) &&& 31) = 16
      · replace hF := (if_pos hq16).symm.trans hF
        refine lv_tableIn (off := 1059) (tgt := 1099) hx hb dL_law_40 (by rw [hq16]; decide) (by rw [hq16]; decide) (by rw [hq16]; rfl) (by decide) ?_
        exact lc_16 l hst C0 htA hK hW hl hs hC hSl hF kk
      replace hF := (if_neg hq16).symm.trans hF
      by_cases hq17 : (xs (Int32.toNatClampNeg x4) &&& 31) = 17
      · replace hF := (if_pos hq17).symm.trans hF
        refine lv_tableIn (off := 1114) (tgt := 1154) hx hb dL_law_40 (by rw [hq17]; decide) (by rw [hq17]; decide) (by rw [hq17]; rfl) (by decide) ?_
        exact lc_17 l hst C0 htA hK hW hl hs hC hSl hF kk
      replace hF := (if_neg hq17).symm.trans hF
      have e0 : (xs (Int32.toNatClampNeg x4) &&& 31).toInt ≠ 0 := fun e9 => hq0 (Int32.toInt_inj.mp (e9.trans (by decide)))
      have e1 : (xs (Int32.toNatClampNeg x4) &&& 31).toInt ≠ 1 := fun e9 => hq1 (Int32.toInt_inj.mp (e9.trans (by decide)))
      have e2 : (xs (Int32.toNatClampNeg x4) &&& 31).toInt ≠ 2 := fun e9 => hq2 (Int32.toInt_inj.mp (e9.trans (by decide)))
      have e3 : (xs (Int32.toNatClampNeg x4) &&& 31).toInt ≠ 3 := fun e9 => hq3 (Int32.toInt_inj.mp (e9.trans (by decide)))
      have e4 : (xs (Int32.toNatClampNeg x4) &&& 31).toInt ≠ 4 := fun e9 => hq4 (Int32.toInt_inj.mp (e9.trans (by decide)))
      have e5 : (xs (Int32.toNatClampNeg x4) &&& 31).toInt ≠ 5 := fun e9 => hq5 (Int32.toInt_inj.mp (e9.trans (by decide)))
      have e6 : (xs (Int32.toNatClampNeg x4) &&& 31).toInt ≠ 6 := fun e9 => hq6 (Int32.toInt_inj.mp (e9.trans (by decide)))
      have e7 : (xs (Int32.toNatClampNeg x4) &&& 31).toInt ≠ 7 := fun e9 => hq7 (Int32.toInt_inj.mp (e9.trans (by decide)))
      have e8 : (xs (Int32.toNatClampNeg x4) &&& 31).toInt ≠ 8 := fun e9 => hq8 (Int32.toInt_inj.mp (e9.trans (by decide)))
      have e9 : (xs (Int32.toNatClampNeg x4) &&& 31).toInt ≠ 9 := fun e9 => hq9 (Int32.toInt_inj.mp (e9.trans (by decide)))
      have e10 : (xs (Int32.toNatClampNeg x4) &&& 31).toInt ≠ 10 := fun e9 => hq10 (Int32.toInt_inj.mp (e9.trans (by decide)))
      have e11 : (xs (Int32.toNatClampNeg x4) &&& 31).toInt ≠ 11 := fun e9 => hq11 (Int32.toInt_inj.mp (e9.trans (by decide)))
      have e12 : (xs (Int32.toNatClampNeg x4) &&& 31).toInt ≠ 12 := fun e9 => hq12 (Int32.toInt_inj.mp (e9.trans (by decide)))
      have e13 : (xs (Int32.toNatClampNeg x4) &&& 31).toInt ≠ 13 := fun e9 => hq13 (Int32.toInt_inj.mp (e9.trans (by decide)))
      have e14 : (xs (Int32.toNatClampNeg x4) &&& 31).toInt ≠ 14 := fun e9 => hq14 (Int32.toInt_inj.mp (e9.trans (by decide)))
      have e15 : (xs (Int32.toNatClampNeg x4) &&& 31).toInt ≠ 15 := fun e9 => hq15 (Int32.toInt_inj.mp (e9.trans (by decide)))
      have e16 : (xs (Int32.toNatClampNeg x4) &&& 31).toInt ≠ 16 := fun e9 => hq16 (Int32.toInt_inj.mp (e9.trans (by decide)))
      have e17 : (xs (Int32.toNatClampNeg x4) &&& 31).toInt ≠ 17 := fun e9 => hq17 (Int32.toInt_inj.mp (e9.trans (by decide)))
      refine lv_tableOut (tgt := 1209) hx hb dL_law_40 (by omega) (by decide) ?_
      have hF := Option.some.inj hF
      subst hF
      exact W.widen (k := 100 + 12 * i + 12) (n := 30000 + 669 * i + 669) (by omega) (by omega) (kk ad _ _ _ hW hl)
