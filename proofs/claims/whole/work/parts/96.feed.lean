/-! ===== PURE: feed, send ===== -/
theorem lo8_sarK (x : Int32) (s : Nat) (hs : s ≤ 24) : lo8 (x >>> nI s) = x.toBitVec.toNat / 2 ^ s % 256 := by
  have hsm : ∀ s, s < 32 → ((nI s).toBitVec.smod 32) = BitVec.ofNat 32 s := by decide
  have h : (x >>> nI s).toBitVec = x.toBitVec.sshiftRight s := by
    rw [Int32.toBitVec_shiftRight, hsm s (by omega), BitVec.sshiftRight_eq', BitVec.toNat_ofNat, Nat.mod_eq_of_lt (by omega)]
  unfold lo8
  rw [h]
  have h2 : (x.toBitVec.sshiftRight s).setWidth 8 = (x.toBitVec >>> s).setWidth 8 := by
    apply BitVec.eq_of_getLsbD_eq
    intro i hi
    rw [BitVec.getLsbD_setWidth, BitVec.getLsbD_setWidth, BitVec.getLsbD_sshiftRight, BitVec.getLsbD_ushiftRight]
    simp [hi, show i < 32 by omega, show s + i < 32 by omega]
  have h3 := congrArg BitVec.toNat h2
  rw [BitVec.toNat_setWidth, BitVec.toNat_setWidth, BitVec.toNat_ushiftRight, Nat.shiftRight_eq_div_pow] at h3
  exact h3
theorem sx32 (x : Int32) : x.toInt64.toBitVec.toNat % 2 ^ 32 = x.toBitVec.toNat := by
  have h : (x.toInt64.toBitVec).setWidth 32 = x.toBitVec := by
    show (x.toBitVec.signExtend 64).setWidth 32 = x.toBitVec
    apply BitVec.eq_of_getLsbD_eq
    intro i hi
    rw [BitVec.getLsbD_setWidth, BitVec.getLsbD_signExtend]
    simp [hi, show i < 64 by omega]
  have h3 := congrArg BitVec.toNat h
  rw [BitVec.toNat_setWidth] at h3
  exact h3
theorem be_sx (x : Int32) : be x.toInt64.toBitVec.toNat 4 = be x.toBitVec.toNat 4 := by
  have h := sx32 x
  have hb := x.toBitVec.isLt
  generalize x.toInt64.toBitVec.toNat = a at *
  generalize x.toBitVec.toNat = b at *
  show [a / 256 ^ 3 % 256, a / 256 ^ 2 % 256, a / 256 ^ 1 % 256, a / 256 ^ 0 % 256] = [b / 256 ^ 3 % 256, b / 256 ^ 2 % 256, b / 256 ^ 1 % 256, b / 256 ^ 0 % 256]
  rw [show a / 256 ^ 3 % 256 = b / 256 ^ 3 % 256 by omega, show a / 256 ^ 2 % 256 = b / 256 ^ 2 % 256 by omega, show a / 256 ^ 1 % 256 = b / 256 ^ 1 % 256 by omega, show a / 256 ^ 0 % 256 = b / 256 ^ 0 % 256 by omega]
/-- twenty bytes -/
def fd20 (a b c d e : Int32) : List Nat := be a.toBitVec.toNat 4 ++ (be b.toBitVec.toNat 4 ++ (be c.toBitVec.toNat 4 ++ (be d.toBitVec.toNat 4 ++ be e.toBitVec.toNat 4)))
theorem fd20_len {a b c d e : Int32} : (fd20 a b c d e).length = 20 := rfl
def sel5 (a b c d e : Int32) (j : Nat) : Int32 := if j < 4 then a else if j < 8 then b else if j < 12 then c else if j < 16 then d else e
theorem fd20_at {a b c d e : Int32} : ∀ j, j < 20 → (fd20 a b c d e).getD j 0 = (sel5 a b c d e j).toBitVec.toNat / 2 ^ (24 - 8 * (j % 4)) % 256 := by
  intro j hj
  rcases (show j = 0 ∨ j = 1 ∨ j = 2 ∨ j = 3 ∨ j = 4 ∨ j = 5 ∨ j = 6 ∨ j = 7 ∨ j = 8 ∨ j = 9 ∨ j = 10 ∨ j = 11 ∨ j = 12 ∨ j = 13 ∨ j = 14 ∨ j = 15 ∨ j = 16 ∨ j = 17 ∨ j = 18 ∨ j = 19 by omega) with h | h | h | h | h | h | h | h | h | h | h | h | h | h | h | h | h | h | h | h <;> subst h <;> rfl
theorem f_pn {σ0 σ : St} {l : List Nat} {x : Int32} {k : St → Option (St × Nat × Int32)} {P : St × Nat × Int32 → Prop} (h : Rw σ 1 l) (he : Eqx [1, 1 + 1] σ0 σ) (hl : l.length + 4 ≤ 520) (hk : ∀ τ, Rw τ 1 (l ++ be x.toBitVec.toNat 4) → Eqx [1, 1 + 1] σ0 τ → Ok (k τ) P) : Ok ((F_X3_putNumber 1 σ x.toInt64 4).bind k) P := by
  refine wpn (b := 1) (m := 4) (x := x.toInt64.toBitVec.toNat) h he rfl (by decide) (by rw [show ln (1 + 1) = 520 from rfl]; exact hl) ?_ x.toInt64.toBitVec.isLt (fun τ h1 h2 => hk τ (by rw [← be_sx]; exact h1) h2)
  obtain ⟨m, h1, h2⟩ := wb_of x.toInt64
  rw [h2, wb_tn h1]
theorem sh20 : ∀ j, j < 20 → ((24 - (8 * (nI j - nI j / 4 * 4))) &&& 31) = nI (24 - 8 * (j % 4)) := by decide +kernel
theorem m_fdL {a b c d e : Int32} {tp : List Nat} {σ0 : St} {K : St → Option (St × Int32)} {P : St × Int32 → Prop} (ht : tp.length + 20 ≤ 520) (hK : ∀ τ, Mw τ 45 20 (tp ++ fd20 a b c d e) → Fr (fun q j => q = 45 ∨ (q = 27 ∧ j = 20)) σ0 τ → Ok (K τ) P) : ∀ (m fz k : Nat) (σ : St), m < fz → k + m = 20 → Mw σ 45 20 (tp ++ (fd20 a b c d e).take k) → Fr (fun q j => q = 45 ∨ (q = 27 ∧ j = 20)) σ0 σ → Ok (F_X7_feed_L30 K fz σ a b c d e (nI k)) P := by
  intro m
  induction m with
  | zero =>
    intro fz k σ hf hk h he
    cases fz with
    | zero => omega
    | succ fz =>
      unfold F_X7_feed_L30
      refine Ok.tt (show (20 : Int32) ≤ _ from nI_le (a := 20) (by omega) (by omega)) ?_
      rw [show k = 20 by omega, List.take_of_length_le (by rw [fd20_len]; omega)] at h
      exact hK σ h he
  | succ m ih =>
    intro fz k σ hf hk h he
    cases fz with
    | zero => omega
    | succ fz =>
      have hlt : ((fd20 a b c d e).take k).length = k := by rw [List.length_take, fd20_len]; omega
      have hlen : (tp ++ (fd20 a b c d e).take k).length = tp.length + k := by rw [List.length_append, hlt]
      have st : ∀ z : Int32, z = sel5 a b c d e k → Ok (F_X7_feed_L83 (F_X7_feed_L30 K fz) K σ a b c d e (nI k) z) P := by
        intro z hz
        unfold F_X7_feed_L83
        rw [h.1, hlen]
        refine Ok.gd (show ib (nI (tp.length + k)) (ln 45) = true from ib_nI (show tp.length + k < 520 by omega) (by decide)) (Ok.nm (Ok.nm ?_))
        rw [nI_clamp (by omega), sI_nk (show (27 : Nat) ≠ 45 by decide), h.1, hlen, nI_1, nI_1, sh20 k (by omega)]
        have q0 : Fr (fun q j => q = 45 ∨ (q = 27 ∧ j = 20)) σ (sI (sI σ 45 (tp.length + k) (vp_nar .byte (Int8.toInt32 (Int32.toInt8 (z >>> nI (24 - 8 * (k % 4))))))) 27 20 (nI (tp.length + k + 1))) := (Fr.sI (Or.inl rfl)).t (Fr.sI (Or.inr ⟨rfl, rfl⟩))
        refine ih fz (k + 1) _ (by omega) (by omega) ?_ (he.t q0)
        have hlt2 : ((fd20 a b c d e).take (k + 1)).length = k + 1 := by rw [List.length_take, fd20_len]; omega
        refine ⟨by rw [sI_eq, List.length_append, hlt2]; rfl, by rw [List.length_append, hlt2, show ln 45 = 520 from rfl]; omega, fun j hj => ?_⟩
        rw [List.length_append, hlt2] at hj
        rw [sI_nk (by decide)]
        by_cases ej : j = tp.length + k
        · rw [ej, sI_eq, lo8_byte, lo8_sarK _ _ (by omega), List.getD_eq_getElem?_getD, List.getElem?_append_right (by omega), show tp.length + k - tp.length = k by omega, ← List.getD_eq_getElem?_getD, nD_take, if_pos (by omega), fd20_at k (by omega), hz]
        · rw [sI_nj ej]
          have g := h.2.2 j (by omega)
          rw [g]
          by_cases h3 : j < tp.length
          · rw [List.getD_eq_getElem?_getD, List.getElem?_append_left h3, List.getD_eq_getElem?_getD, List.getElem?_append_left h3]
          · rw [List.getD_eq_getElem?_getD, List.getElem?_append_right (by omega), List.getD_eq_getElem?_getD, List.getElem?_append_right (by omega), ← List.getD_eq_getElem?_getD, ← List.getD_eq_getElem?_getD, nD_take, nD_take, if_pos (by omega), if_pos (by omega)]
      unfold F_X7_feed_L30
      refine Ok.ff (show ¬ (20 : Int32) ≤ _ from nI_ge (b := 20) (by omega) (by omega)) ?_
      by_cases h4 : 4 ≤ k
      · refine Ok.tt (show (4 : Int32) ≤ _ from nI_le (a := 4) h4 (by omega)) ?_
        by_cases h8 : 8 ≤ k
        · refine Ok.tt (show (8 : Int32) ≤ _ from nI_le (a := 8) h8 (by omega)) ?_
          by_cases h12 : 12 ≤ k
          · refine Ok.tt (show (12 : Int32) ≤ _ from nI_le (a := 12) h12 (by omega)) ?_
            by_cases h16 : 16 ≤ k
            · refine Ok.tt (show (16 : Int32) ≤ _ from nI_le (a := 16) h16 (by omega)) (st e ?_)
              unfold sel5; rw [if_neg (by omega), if_neg (by omega), if_neg (by omega), if_neg (by omega)]
            · refine Ok.ff (show ¬ (16 : Int32) ≤ _ from nI_ge (b := 16) (by omega) (by omega)) (st d ?_)
              unfold sel5; rw [if_neg (by omega), if_neg (by omega), if_neg (by omega), if_pos (by omega)]
          · refine Ok.ff (show ¬ (12 : Int32) ≤ _ from nI_ge (b := 12) (by omega) (by omega)) (st c ?_)
            unfold sel5; rw [if_neg (by omega), if_neg (by omega), if_pos (by omega)]
        · refine Ok.ff (show ¬ (8 : Int32) ≤ _ from nI_ge (b := 8) (by omega) (by omega)) (st b ?_)
          unfold sel5; rw [if_neg (by omega), if_pos (by omega)]
      · refine Ok.ff (show ¬ (4 : Int32) ≤ _ from nI_ge (b := 4) (by omega) (by omega)) (st a ?_)
        unfold sel5; rw [if_pos (by omega)]
theorem ic_1 {xs : Nat → Int32} {x4 : Int32} {i n : Nat} {σ : St} (h : Inv i n σ) : Ok (F_lc_1 xs x4 n σ) (fun z => Inv (i + 1) z.1 z.2) := by
  obtain ⟨X, Y, bg, tp, hn, hC, hM, hS, hf, hb⟩ := h
  have hB := hS.1.bl
  have ltp := hC.2.2.2.1
  rw [show ln (1 + 1) = 520 from rfl] at ltp
  unfold F_lc_1
  generalize xs (Int32.toNatClampNeg (x4 + 1)) = a
  generalize xs (Int32.toNatClampNeg (x4 + 2)) = b
  generalize xs (Int32.toNatClampNeg (x4 + 3)) = c
  generalize xs (Int32.toNatClampNeg (x4 + 4)) = d
  generalize xs (Int32.toNatClampNeg (x4 + 5)) = e
  by_cases h20 : tp.length + 20 ≤ 520
  · refine lc_v Int32.toInt64 (oA := F_L_feed σ a b c d e) (B := fun τ => F_X7_feed τ a b c d e) (c := 0) (v := (nI (tp.length + 20)).toInt64) (X2 := X) (Y2 := Y) (bg2 := bg) (tp2 := tp ++ fd20 a b c d e) hn hM hB ?_ (fun τ hτ => ?_) (by decide) ⟨hS.up, by omega, hb⟩
    · unfold F_L_feed
      refine fl_v Int32.toInt64 (by decide) ?_
      unfold F_X6_feed
      refine Ok.eq (f_size hC.2.2) ?_
      dsimp only
      rw [show nI tp.length + 20 = nI (tp.length + 20) from nI_add _ 20]
      refine Ok.tt (show _ ≤ (520 : Int32) from nI_le (b := 520) h20 (by decide)) ?_
      refine f_pn (σ0 := σ) hC.2.2 Eqx.rf (by omega) (fun τ1 r1 q1 => ?_)
      refine f_pn (σ0 := σ) r1 q1 (by simp [be_len]; omega) (fun τ2 r2 q2 => ?_)
      refine f_pn (σ0 := σ) r2 q2 (by simp [be_len]; omega) (fun τ3 r3 q3 => ?_)
      refine f_pn (σ0 := σ) r3 q3 (by simp [be_len]; omega) (fun τ4 r4 q4 => ?_)
      refine f_pn (σ0 := σ) r4 q4 (by simp [be_len]; omega) (fun τ5 r5 q5 => ?_)
      have e5 : tp ++ be a.toBitVec.toNat 4 ++ be b.toBitVec.toNat 4 ++ be c.toBitVec.toNat 4 ++ be d.toBitVec.toNat 4 ++ be e.toBitVec.toNat 4 = tp ++ fd20 a b c d e := by unfold fd20; simp only [List.append_assoc]
      rw [e5] at r5
      have q0 : Fr (fun q _ => q = 1 ∨ q = 2) σ τ5 := (Fr.ex q5).mo (fun a b h => by simpa using h)
      refine Ok.eq (f_size r5) (Ok.so ⟨⟨hC.1.fr q0 (fun q j h => by omega), hC.2.1.fr q0 (fun r j h1 h2 h => by omega), r5⟩, Or.inl ⟨rfl, rfl, ?_⟩, q0.mo (fun a b h => by unfold pCf; omega)⟩)
      dsimp only
      rw [List.length_append, fd20_len]
    · unfold F_X7_feed
      rw [hτ.2.2.1.1, show nI tp.length + 20 = nI (tp.length + 20) from nI_add _ 20]
      refine Ok.ff (show ¬ (520 : Int32) < _ from nI_nlt (a := 520) h20 (by decide)) ?_
      unfold F_X7_feed_L19
      refine Ok.eq (m_goes (b := true)) (Ok.ff (show ¬ bI true = 0 by decide) ?_)
      obtain ⟨g1, g2, g3, g4⟩ := ma_ok (V := fun _ : Nat => 0) (z := 0) (v := 0) hτ hB rfl
      dsimp only at g1 g2 g4 ⊢
      generalize sI τ 27 0 (nI (if true = true then 0 else 1)) = ρ at *
      refine m_fdL (σ0 := ρ) (tp := tp) h20 (fun ζ z1 z2 => ?_) 20 fu 0 ρ (by unfold fu; omega) rfl (by rw [List.take_zero, List.append_nil]; exact g1.2.2.1) Fr.rf
      unfold F_X7_feed_L124
      refine Ok.so ⟨⟨g1.1.fr hB z2 (fun q j h1 h2 => by unfold pX at h1; omega), g1.2.1.fr z2 (fun q j h1 h2 => by unfold pS at h1; omega), z1, g1.2.2.2.fr z2 (fun a q j h1 h2 h3 => by have := lpl_lt h2; omega)⟩, by rw [z2.i (by omega)]; exact g2, fun _ => ?_, g4.t (z2.mo (fun a b h => by omega))⟩
      dsimp only
      rw [z1.1, List.length_append, fd20_len]
  · refine lc_v Int32.toInt64 (oA := F_L_feed σ a b c d e) (B := fun τ => F_X7_feed τ a b c d e) (c := 1) (v := 0) (X2 := X) (Y2 := Y) (bg2 := bg) (tp2 := tp) hn hM hB ?_ (fun τ hτ => ?_) (by decide) ⟨hS.up, by omega, hb⟩
    · unfold F_L_feed
      refine fl_v Int32.toInt64 (by decide) ?_
      unfold F_X6_feed
      refine Ok.eq (f_size hC.2.2) ?_
      dsimp only
      rw [show nI tp.length + 20 = nI (tp.length + 20) from nI_add _ 20]
      exact Ok.ff (show ¬ _ ≤ (520 : Int32) from nI_ge (a := 520) (by omega) (by omega)) (Ok.so ⟨hC, Or.inr ⟨rfl, rfl⟩, Fr.rf⟩)
    · unfold F_X7_feed
      rw [hτ.2.2.1.1, show nI tp.length + 20 = nI (tp.length + 20) from nI_add _ 20]
      refine Ok.tt (show (520 : Int32) < _ from nI_lt (a := 520) (by omega) (by omega)) ?_
      unfold F_X7_feed_L19
      exact Ok.eq (m_goes (b := false)) (Ok.tt rfl (Ok.so (ma_thr hτ hB)))
/-! send -/
theorem m_snL {tp : List Nat} {m0 : Nat} {σ0 : St} {K : St → Option (St × Int32)} {P : St × Int32 → Prop} (hm : m0 ≤ tp.length) (hm2 : m0 ≤ 513) (h45 : ∀ k, k < tp.length → lo8 (σ0.1 45 k) = tp.getD k 0) (h23 : σ0.1 27 23 = nI m0) (hl : tp.length ≤ 520) (hK : ∀ τ, Mw τ 46 23 (tp.take m0) → Fr (fun q _ => q = 46) σ0 τ → Ok (K τ) P) : ∀ (m fz k : Nat) (σ : St), m < fz → k + m = m0 → (∀ j, j < k → lo8 (σ.1 46 j) = tp.getD j 0) → Fr (fun q _ => q = 46) σ0 σ → Ok (F_X7_send_L31 K fz σ (nI k)) P := by
  intro m
  induction m with
  | zero =>
    intro fz k σ hf hk h he
    cases fz with
    | zero => omega
    | succ fz =>
      unfold F_X7_send_L31
      refine Ok.tt (by rw [he.i (by omega), h23]; exact nI_le (by omega) (by omega)) ?_
      have hlen : (tp.take m0).length = m0 := by rw [List.length_take]; omega
      refine hK σ ⟨by rw [he.i (by omega), h23, hlen], by rw [hlen]; exact hm2, fun j hj => ?_⟩ he
      rw [hlen] at hj
      rw [nD_take, if_pos hj]
      exact h j (by omega)
  | succ m ih =>
    intro fz k σ hf hk h he
    cases fz with
    | zero => omega
    | succ fz =>
      unfold F_X7_send_L31
      refine Ok.ff (by rw [he.i (by omega), h23]; exact nI_ge (by omega) (by omega)) ?_
      refine Ok.gd (show ib (nI k) (ln 45) = true from ib_nI (show k < 520 by omega) (by decide)) (Ok.gd (show ib (nI k) (ln 46) = true from ib_nI (show k < 513 by omega) (by decide)) (Ok.nm ?_))
      rw [nI_clamp (by omega), nI_1]
      refine ih fz (k + 1) _ (by omega) (by omega) (fun j hj => ?_) (he.t (Fr.sI rfl))
      by_cases e : j = k
      · rw [e, sI_eq, lo8_nar, he.i (by omega)]; exact h45 k (by omega)
      · rw [sI_nj e]; exact h j (by omega)
theorem take_min {l : List Nat} {k : Nat} : l.take (min l.length k) = l.take k := by
  by_cases h : k ≤ l.length
  · rw [Nat.min_eq_right h]
  · rw [Nat.min_eq_left (by omega), List.take_of_length_le (Nat.le_refl _), List.take_of_length_le (by omega)]
theorem ic_3 {xs : Nat → Int32} {x4 : Int32} {i n : Nat} {σ : St} (hi : i < 512) (h : Inv i n σ) : Ok (F_lc_3 xs x4 n σ) (fun z => Inv (i + 1) z.1 z.2) := by
  obtain ⟨X, Y, bg, tp, hn, hC, hM, hS, hf, hb⟩ := h
  have hB := hS.1.bl
  have ltp := hC.2.2.2.1
  rw [show ln (1 + 1) = 520 from rfl] at ltp
  have hbt : By (tp.take 513) := fun k => by
    rw [nD_take]
    split
    · exact hC.2.2.by k
    · decide
  have hWn : WX (i + 1) n (lookX n (tp.take 513) X) := by
    intro j hj
    exact ((hS.1.look (f := tp.take 513) hbt) j hj).up (by split <;> omega) (Nat.le_refl _)
  unfold F_lc_3
  refine lc_e (oA := F_X6_send n σ) (B := F_X7_send) (v := nI (lookX n (tp.take 513) X).2.2.2.1.length) (X2 := lookX n (tp.take 513) X) (Y2 := Y) (bg2 := bg) (tp2 := []) hn hM hB ?_ (fun τ hτ => ?_) ⟨⟨hWn, hS.2.1, hS.2.2.1, hS.2.2.2.to ids_look rfl rfl⟩, by show X.1 + 1 ≤ 3000 * (i + 1); omega, hb⟩
  · unfold F_X6_send
    obtain ⟨g, x11⟩ := hC.1.2.2.2.2.2.2.2.2.2.2
    refine Ok.bi (f_copy (r0 := 3) (r1 := 1) (by decide) (by decide) (by decide) hC.2.2 x11) (fun τ1 h1 => ?_)
    have k1 : Fr (fun r _ => 3 ≤ r ∧ r ≤ 4) σ τ1 := (Fr.ex h1.2).mo (fun a b h => by simp only [List.mem_cons, List.mem_nil_iff, or_false] at h; omega)
    have r3 : Rw τ1 3 (tp.take 513) := h1.1
    obtain ⟨τ2, e1, e2, e3⟩ := f_cut0 (hC.2.2.fr k1 (fun j => by omega) (fun j => by omega))
    have k2 : Fr (fun r _ => r = 1) τ1 τ2 := (Fr.ex e3).mo (fun a b h => by simpa using h)
    refine Ok.eq e1 ?_
    have hX2 : CX τ2 n X := (hC.1.fr3 k1 r3).fr k2 (fun q j h => by omega)
    refine Ok.bi (f_run hX2 hn hS.1 (by omega) (by omega) (r3.fr k2 (fun j => by omega) (fun j => by omega))) (fun τ3 h3 => ?_)
    refine Ok.eq (f_size h3.1.2.2.2.2.1) (Ok.so ⟨⟨h3.1, ?_, e2.fr h3.2 (fun j => by unfold pR; omega) (fun j => by unfold pR; omega)⟩, rfl, ?_⟩)
    · exact ((hC.2.1.fr k1 (fun r j h1 h2 h => by omega)).fr k2 (fun r j h1 h2 h => by omega)).fr h3.2 (fun r j h1 h2 h => by unfold pR at h; omega)
    · exact ((k1.mo (fun a b h => by unfold pCf; omega)).t (k2.mo (fun a b h => by unfold pCf; omega))).t (h3.2.mo (fun a b h => by unfold pR at h; unfold pCf; omega))
  · unfold F_X7_send
    refine Ok.nm ?_
    have q0 : Fr (fun q j => q = 27 ∧ j = 0) τ (sI τ 27 0 0) := Fr.sI ⟨rfl, rfl⟩
    have g1 := hτ.fr hB q0 (fun q j h => by omega)
    generalize sI τ 27 0 0 = ρ at *
    have L26 : Ok (F_X7_send_L26 ρ (nI (min tp.length 513))) (fun y => MH y.1 n (lookX n (tp.take 513) X) Y bg [] ∧ y.2 = nI (lookX n (tp.take 513) X).2.2.2.1.length ∧ Fr (fun q _ => 27 ≤ q ∧ q ≤ 53) τ y.1) := by
      unfold F_X7_send_L26
      refine Ok.nm ?_
      have q1 : Fr (fun q j => q = 27 ∧ j = 23) ρ (sI ρ 27 23 (nI (min tp.length 513))) := Fr.sI ⟨rfl, rfl⟩
      have h23 : (sI ρ 27 23 (nI (min tp.length 513))).1 27 23 = nI (min tp.length 513) := sI_eq
      have g2 := g1.fr hB q1 (fun q j h => by omega)
      generalize sI ρ 27 23 (nI (min tp.length 513)) = ω at *
      refine m_snL (σ0 := ω) (tp := tp) (m0 := min tp.length 513) (by omega) (by omega) g2.2.2.1.2.2 h23 ltp (fun ζ z1 z2 => ?_) (min tp.length 513) fu 0 ω (by unfold fu; omega) (by omega) (fun j hj => absurd hj (Nat.not_lt_zero j)) Fr.rf
      rw [take_min] at z1
      unfold F_X7_send_L57
      refine Ok.nm ?_
      have q2 : Fr (fun q j => q = 27 ∧ j = 20) ζ (sI ζ 27 20 0) := Fr.sI ⟨rfl, rfl⟩
      have g3 := g2.fr hB z2 (fun q j h => by omega)
      have m45 : Mw (sI ζ 27 20 0) 45 20 [] := ⟨by rw [sI_eq]; rfl, by decide, fun k hk => absurd hk (Nat.not_lt_zero k)⟩
      have z1' := z1.fr q2 (by omega) (fun j => by omega)
      have xX := g3.1.fr hB q2 (fun q j h1 h2 => by unfold pX at h1; omega)
      have xY := g3.2.1.fr q2 (fun q j h1 h2 => by unfold pS at h1; omega)
      have xZ := g3.2.2.2.fr q2 (fun a q j h1 h2 h3 => by have := lpl_lt h2; omega)
      generalize sI ζ 27 20 0 = κ at *
      refine Ok.bi (m_look xX hn hS.1 (by omega) (by omega) z1') (fun ξ hξ => Ok.so ⟨⟨hξ.1, xY.fr hξ.2 (fun q j h1 h2 => by unfold pS at h1; unfold pM at h2; omega), m45.fr hξ.2 (by unfold pM; omega) (fun j => by unfold pM; omega), xZ.fr hξ.2 (fun a q j h1 h2 h3 => ?_)⟩, hξ.1.2.2.2.2.1.1, ?_⟩)
      · have hl := lpl_lt h2
        have hz := zn_no h2 h1
        unfold pM at h3; omega
      · exact ((((q0.mo (fun a b h => by omega)).t (q1.mo (fun a b h => by omega))).t (z2.mo (fun a b h => by omega))).t (q2.mo (fun a b h => by omega))).t (hξ.2.mo (fun a b h => by unfold pM at h; omega))
    rw [g1.2.2.1.1]
    by_cases h5 : tp.length ≤ 513
    · rw [Nat.min_eq_left h5] at L26
      exact Ok.tt (show _ ≤ (513 : Int32) from nI_le (b := 513) h5 (by decide)) L26
    · rw [Nat.min_eq_right (by omega)] at L26
      exact Ok.ff (show ¬ _ ≤ (513 : Int32) from nI_ge (a := 513) (by omega) (by omega)) L26
