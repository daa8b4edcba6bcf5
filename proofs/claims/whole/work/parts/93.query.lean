/-! ===== PURE: calls about one lamp ===== -/
/-- no lamp's index -/
abbrev NoL (n : Nat) (x : Int32) : Prop := x < 0 ∨ ∃ k, k < 2 ^ 31 ∧ x = nI k ∧ ¬ k < n
theorem la_no {σ : St} {n : Nat} {x : Int32} (hn : n ≤ 24) (h10 : σ.1 0 10 = nI n) (h : NoL n x) : F_X6_lampAt n σ x = some (σ, 3, 0) := by
  unfold F_X6_lampAt F_X6_lampAt_L12
  rcases h with h | ⟨k, hk, rfl, h⟩
  · rw [if_pos h]
  · rw [if_neg (nI_pos hk), h10, if_neg (nI_nlt (by omega) hk)]
theorem la_yes {σ : St} {n k : Nat} (hn : n ≤ 24) (h10 : σ.1 0 10 = nI n) (h : k < n) : F_X6_lampAt n σ (nI k) = some (σ, 0, qq k) := by
  unfold F_X6_lampAt
  rw [if_neg (nI_pos (by omega)), h10, if_pos (nI_lt h (by omega)), gd_t (ib_nI (show k < 24 by omega) (by decide)), nI_clamp (by omega), gd_t (decide_eq_true h)]
  rfl
theorem il_no {σ : St} {n : Nat} {x : Int32} (hn : n ≤ 24) (h1 : σ.1 27 1 = nI n) (h : NoL n x) : F_X7_isLamp σ x = some (σ, bI false) := by
  unfold F_X7_isLamp
  rw [h1]
  rcases h with h | ⟨k, hk, rfl, h⟩
  · rw [bd_eq (m_inneg h)]; rfl
  · rw [bd_eq (m_inlt hk (by omega)), decide_eq_false h]; rfl
theorem il_yes {σ : St} {n k : Nat} (hn : n ≤ 24) (h1 : σ.1 27 1 = nI n) (h : k < n) : F_X7_isLamp σ (nI k) = some (σ, bI true) := by
  unfold F_X7_isLamp
  rw [h1, bd_eq (m_inlt (by omega) (by omega)), decide_eq_true h]; rfl
theorem noL {n : Nat} (x : Int32) : NoL n x ∨ ∃ k, k < n ∧ x = nI k := by
  by_cases hx : x < 0
  · exact Or.inl (Or.inl hx)
  obtain ⟨k, hk, rfl⟩ := i32_nn hx
  by_cases h : k < n
  · exact Or.inr ⟨k, h, rfl⟩
  · exact Or.inl (Or.inr ⟨k, hk, rfl, h⟩)
/-! rest -/
theorem ic_9 {xs : Nat → Int32} {x4 : Int32} {i n : Nat} {σ : St} (h : Inv i n σ) : Ok (F_lc_9 xs x4 n σ) (fun z => Inv (i + 1) z.1 z.2) := by
  obtain ⟨X, Y, bg, tp, hn, hC, hM, hS, hf, hb⟩ := h
  have hB := hS.1.bl
  unfold F_lc_9
  generalize xs (Int32.toNatClampNeg (x4 + 1)) = x
  rcases noL (n := n) x with hx | ⟨k, hk, rfl⟩
  · refine lc_v (fun z => z) (oA := F_L_rest n σ x) (B := fun τ => F_X7_rest τ x) (c := 1) (v := 0) (X2 := X) (Y2 := Y) (bg2 := bg) (tp2 := tp) hn hM hB ?_ (fun τ hτ => ?_) (by decide) ⟨hS.up, by omega, hb⟩
    · unfold F_L_rest
      refine fl_v (fun z => z) (by decide) ?_
      unfold F_X6_rest
      exact Ok.eq (la_no hn hC.1.1 hx) (Ok.ff (show ¬ (3 : Nat) = 0 by decide) (Ok.so ⟨hC, Or.inr ⟨rfl, rfl⟩, Fr.rf⟩))
    · unfold F_X7_rest
      exact Ok.eq (il_no hn hτ.1.1 hx) (Ok.eq (m_goes (b := false)) (Ok.tt rfl (Ok.so (ma_thr hτ hB))))
  · have hid := (hS.1 k hk).1.1
    refine lc_v (fun z => z) (oA := F_L_rest n σ (nI k)) (B := fun τ => F_X7_rest τ (nI k)) (c := 0) (v := lN ((X.2.2.1 k).1 0 % 2 ^ 32)) (X2 := X) (Y2 := Y) (bg2 := bg) (tp2 := tp) hn hM hB ?_ (fun τ hτ => ?_) (by decide) ⟨hS.up, by omega, hb⟩
    · unfold F_L_rest
      refine fl_v (fun z => z) (by decide) ?_
      unfold F_X6_rest F_X6_restOf
      refine Ok.eq (la_yes hn hC.1.1 hk) (Ok.tt rfl (Ok.eq rfl (Ok.so ⟨hC, Or.inl ⟨rfl, rfl, ?_⟩, Fr.rf⟩)))
      dsimp only
      rw [(hC.1.2.2.2.1 k hk).1, rest_mask (by omega)]
    · unfold F_X7_rest
      refine Ok.eq (il_yes hn hτ.1.1 hk) (Ok.eq (m_goes (b := true)) (Ok.ff (show ¬ bI true = 0 by decide) (Ok.gd (show ib (nI k) (ln 29) = true from ib_nI (show k < 24 by omega) (by decide)) (Ok.so (ma_ok hτ hB ?_)))))
      dsimp only
      rw [sI_2, nI_clamp (by omega)]; exact (hτ.1.2.2.2.1 k hk).2.1
/-! about -/
def fct (L : Lp) (now d : Nat) : Nat :=
  if d = 0 then L.1 0 / 2 ^ 32 else if d = 1 then L.1 1 * L.1 9 else if d = 2 then L.1 9 else if d = 3 then L.1 2 else if d = 4 then L.1 10
  else if d = 5 then L.1 11 else if d = 6 then L.1 12 else if d = 7 then (if L.1 14 = 0 then 1 else if now - L.1 14 < 20 then 0 else 1)
  else if d = 8 then L.1 8 else if d = 9 then L.2.1.length else L.1 13
theorem f_flag {σ : St} {v : Nat} (h : v ≤ 1) : F_X6_flag σ (nI v) = some (σ, nI v) := by
  unfold F_X6_flag
  rcases (show v = 0 ∨ v = 1 by omega) with e | e <;> subst e <;> rfl
theorem f_fact {σ : St} {k o now x d : Nat} {L : Lp} (hC : CL σ (qq k) L) (hW : Wl o now x L) (hd : d ≤ 10) (hnow : now < 2 ^ 30) : F_X1_fact (qq k) σ (nI d) (nI now) = some (σ, nI (fct L now d)) := by
  obtain ⟨c1, c2, c3, c4, c5, c6⟩ := hC
  obtain ⟨w1, w2, w3, w4, w5, w6, w7, w8, w9, w10, w11, w12, w13⟩ := hW
  unfold F_X1_fact
  rcases (show d = 0 ∨ d = 1 ∨ d = 2 ∨ d = 3 ∨ d = 4 ∨ d = 5 ∨ d = 6 ∨ d = 7 ∨ d = 8 ∨ d = 9 ∨ d = 10 by omega) with e | e | e | e | e | e | e | e | e | e | e <;> subst e
  · rw [if_pos (by decide)]
    unfold F_X6_makerOf
    rw [c1, mk_shr (by omega)]; rfl
  · rw [if_neg (by decide), if_pos (by decide)]
    unfold F_X1_footprint
    rw [c2 1 (by decide), c2 9 (by decide), pk_mul]; rfl
  · rw [if_neg (by decide), if_neg (by decide), if_pos (by decide), c2 9 (by decide)]; rfl
  · rw [if_neg (by decide), if_neg (by decide), if_neg (by decide), if_pos (by decide), c2 2 (by decide)]; rfl
  · rw [if_neg (by decide), if_neg (by decide), if_neg (by decide), if_neg (by decide), if_pos (by decide), c2 10 (by decide)]; rfl
  · rw [if_neg (by decide), if_neg (by decide), if_neg (by decide), if_neg (by decide), if_neg (by decide), if_pos (by decide), c2 11 (by decide), bd_eq (f_flag w5)]; rfl
  · rw [if_neg (by decide), if_neg (by decide), if_neg (by decide), if_neg (by decide), if_neg (by decide), if_neg (by decide), if_pos (by decide), c2 12 (by decide), bd_eq (f_flag w6)]; rfl
  · rw [if_neg (by decide), if_neg (by decide), if_neg (by decide), if_neg (by decide), if_neg (by decide), if_neg (by decide), if_neg (by decide), if_pos (by decide)]
    unfold F_X1_isDark
    rw [c2 14 (by decide)]
    have e7 : fct L now 7 = if L.1 14 = 0 then 1 else if now - L.1 14 < 20 then 0 else 1 := rfl
    rw [e7]
    by_cases h0 : L.1 14 = 0
    · rw [if_pos (show nI (L.1 14) = 0 by rw [h0]; rfl), if_pos h0]
      rfl
    · rw [if_neg (show ¬ nI (L.1 14) = 0 from nI_ne0 (by omega) (by omega)), if_neg h0, pk_sub (by omega)]
      by_cases h2 : now - L.1 14 < 20
      · rw [if_pos (show nI (now - L.1 14) < 20 from nI_lt (b := 20) h2 (by decide)), if_pos h2]; rfl
      · rw [if_neg (show ¬ nI (now - L.1 14) < 20 from nI_nlt (b := 20) (by omega) (by omega)), if_neg h2]; rfl
  · rw [if_neg (by decide), if_neg (by decide), if_neg (by decide), if_neg (by decide), if_neg (by decide), if_neg (by decide), if_neg (by decide), if_neg (by decide), if_pos (by decide), c2 8 (by decide)]; rfl
  · rw [if_neg (by decide), if_neg (by decide), if_neg (by decide), if_neg (by decide), if_neg (by decide), if_neg (by decide), if_neg (by decide), if_neg (by decide), if_neg (by decide), if_pos (by decide), bd_eq (f_size c5)]; rfl
  · rw [if_neg (by decide), if_neg (by decide), if_neg (by decide), if_neg (by decide), if_neg (by decide), if_neg (by decide), if_neg (by decide), if_neg (by decide), if_neg (by decide), if_neg (by decide), if_pos (by decide), c2 13 (by decide)]; rfl
theorem m_fact {σ : St} {k o now d : Nat} {L : Lp} (hk : k < 24) (hM : ML σ k L) (hW : Wl o now 3 L) (h21 : σ.1 27 21 = nI now) (hd : d ≤ 10) (hnow : now < 2 ^ 30) : F_X7_about_L26 σ (nI k) (nI d) 1 = some (sI σ 27 0 (nI (if true = true then 0 else 1)), nI (fct L now d)) := by
  have hB := hW.bl
  have hL := hW.lt (by omega)
  have q0 : Fr (fun q j => q = 27 ∧ j = 0) σ (sI σ 27 0 (nI (if true = true then 0 else 1))) := Fr.sI ⟨rfl, rfl⟩
  have hM2 := hM.fr hB q0 (fun q j h1 h2 => by have := lpl_lt h1; omega)
  have t21 : (sI σ 27 0 (nI (if true = true then 0 else 1))).1 27 21 = nI now := by rw [q0.i (by omega)]; exact h21
  obtain ⟨w1, w2, w3, w4, w5, w6, w7, w8, w9, w10, w11, w12, w13⟩ := hW
  unfold F_X7_about_L26
  rw [show (1 : Int32) = bI true from rfl, bd_eq m_goes]
  dsimp only
  generalize sI σ 27 0 (nI (if true = true then 0 else 1)) = τ at *
  rw [if_neg (show ¬ bI true = 0 by decide)]
  have g : ∀ r, 28 ≤ r → r ≤ 41 → r ≠ 37 → r ≠ 39 → ib (nI k) (ln r) = true := by
    intro r h1 h2 h3 h4
    have e : ln r = 24 := by
      rcases (show r = 28 ∨ r = 29 ∨ r = 30 ∨ r = 31 ∨ r = 32 ∨ r = 33 ∨ r = 34 ∨ r = 35 ∨ r = 36 ∨ r = 38 ∨ r = 40 ∨ r = 41 by omega) with e | e | e | e | e | e | e | e | e | e | e | e <;> subst e <;> rfl
    rw [e]
    exact ib_nI hk (by decide)
  rcases (show d = 0 ∨ d = 1 ∨ d = 2 ∨ d = 3 ∨ d = 4 ∨ d = 5 ∨ d = 6 ∨ d = 7 ∨ d = 8 ∨ d = 9 ∨ d = 10 by omega) with e | e | e | e | e | e | e | e | e | e | e <;> subst e
  · rw [if_pos (by decide), gd_t (g 28 (by omega) (by omega) (by omega) (by omega)), nI_clamp (by omega), hM2.1]; rfl
  · rw [if_neg (by decide), if_pos (by decide), bd_eq (m_foot hM2 hk)]; rfl
  · rw [if_neg (by decide), if_neg (by decide), if_pos (by decide), gd_t (g 32 (by omega) (by omega) (by omega) (by omega)), nI_clamp (by omega), hM2.sc 32 9 (by decide)]; rfl
  · rw [if_neg (by decide), if_neg (by decide), if_neg (by decide), if_pos (by decide), gd_t (g 31 (by omega) (by omega) (by omega) (by omega)), nI_clamp (by omega), hM2.sc 31 2 (by decide)]; rfl
  · rw [if_neg (by decide), if_neg (by decide), if_neg (by decide), if_neg (by decide), if_pos (by decide), gd_t (g 33 (by omega) (by omega) (by omega) (by omega)), nI_clamp (by omega), hM2.sc 33 10 (by decide)]; rfl
  · rw [if_neg (by decide), if_neg (by decide), if_neg (by decide), if_neg (by decide), if_neg (by decide), if_pos (by decide), gd_t (g 34 (by omega) (by omega) (by omega) (by omega)), nI_clamp (by omega), hM2.sc 34 11 (by decide)]
    have e5 : fct L now 5 = L.1 11 := rfl
    rw [e5]
    rcases (show L.1 11 = 0 ∨ L.1 11 = 1 by omega) with e | e <;> rw [e] <;> rfl
  · rw [if_neg (by decide), if_neg (by decide), if_neg (by decide), if_neg (by decide), if_neg (by decide), if_neg (by decide), if_pos (by decide), gd_t (g 35 (by omega) (by omega) (by omega) (by omega)), nI_clamp (by omega), hM2.sc 35 12 (by decide)]
    have e6 : fct L now 6 = L.1 12 := rfl
    rw [e6]
    rcases (show L.1 12 = 0 ∨ L.1 12 = 1 by omega) with e | e <;> rw [e] <;> rfl
  · rw [if_neg (by decide), if_neg (by decide), if_neg (by decide), if_neg (by decide), if_neg (by decide), if_neg (by decide), if_neg (by decide), if_pos (by decide), gd_t (g 40 (by omega) (by omega) (by omega) (by omega)), nI_clamp (by omega), hM2.sc 40 14 (by decide)]
    have e7 : fct L now 7 = if L.1 14 = 0 then 1 else if now - L.1 14 < 20 then 0 else 1 := rfl
    rw [e7]
    by_cases h0 : L.1 14 = 0
    · rw [if_pos (show nI (L.1 14) = 0 by rw [h0]; rfl), if_pos h0]; rfl
    · rw [if_neg (show ¬ nI (L.1 14) = 0 from nI_ne0 (by omega) (by omega)), if_neg h0, gd_t (g 40 (by omega) (by omega) (by omega) (by omega)), t21, pk_sub (by omega)]
      by_cases h2 : now - L.1 14 < 20
      · rw [if_pos (show nI (now - L.1 14) < 20 from nI_lt (b := 20) h2 (by decide)), if_pos h2]; rfl
      · rw [if_neg (show ¬ nI (now - L.1 14) < 20 from nI_nlt (b := 20) (by omega) (by omega)), if_neg h2]; rfl
  · rw [if_neg (by decide), if_neg (by decide), if_neg (by decide), if_neg (by decide), if_neg (by decide), if_neg (by decide), if_neg (by decide), if_neg (by decide), if_pos (by decide), bd_eq (m_waiting hM2.2.2.2.2.2 hk hB hL)]; rfl
  · rw [if_neg (by decide), if_neg (by decide), if_neg (by decide), if_neg (by decide), if_neg (by decide), if_neg (by decide), if_neg (by decide), if_neg (by decide), if_neg (by decide), if_pos (by decide), gd_t (g 36 (by omega) (by omega) (by omega) (by omega)), nI_clamp (by omega), hM2.2.2.2.1.1]; rfl
  · rw [if_neg (by decide), if_neg (by decide), if_neg (by decide), if_neg (by decide), if_neg (by decide), if_neg (by decide), if_neg (by decide), if_neg (by decide), if_neg (by decide), if_neg (by decide), gd_t (g 38 (by omega) (by omega) (by omega) (by omega)), nI_clamp (by omega), hM2.sc 38 13 (by decide)]; rfl
theorem ic_8 {xs : Nat → Int32} {x4 : Int32} {i n : Nat} {σ : St} (hi : i < 512) (h : Inv i n σ) : Ok (F_lc_8 xs x4 n σ) (fun z => Inv (i + 1) z.1 z.2) := by
  obtain ⟨X, Y, bg, tp, hn, hC, hM, hS, hf, hb⟩ := h
  have hB := hS.1.bl
  unfold F_lc_8
  generalize xs (Int32.toNatClampNeg (x4 + 1)) = x
  generalize xs (Int32.toNatClampNeg (x4 + 2)) = y
  have thr : Ok (F_L_about n σ x y) (Ca σ n X Y bg tp 1 0) → (∀ τ, MH τ n X Y bg tp → Ok (F_X7_about τ x y) (Ma Int32.toInt64 n X Y bg tp 1 0 τ)) → _ := fun h1 h2 => lc_v (i := i) Int32.toInt64 (oA := F_L_about n σ x y) (B := fun τ => F_X7_about τ x y) hn hM hB h1 h2 (by decide) ⟨hS.up, by omega, hb⟩
  have m25 : ∀ τ, MH τ n X Y bg tp → Ok (F_X7_about_L25 τ x y) (Ma Int32.toInt64 n X Y bg tp 1 0 τ) := by
    intro τ hτ
    unfold F_X7_about_L25 F_X7_about_L26
    exact Ok.eq (m_goes (b := false)) (Ok.tt rfl (Ok.so (ma_thr hτ hB)))
  rcases noL (n := n) x with hx | ⟨k, hk, rfl⟩
  · refine thr ?_ (fun τ hτ => ?_)
    · unfold F_L_about
      refine fl_v Int32.toInt64 (by decide) ?_
      unfold F_X6_about
      exact Ok.eq (la_no hn hC.1.1 hx) (Ok.ff (show ¬ (3 : Nat) = 0 by decide) (Ok.so ⟨hC, Or.inr ⟨rfl, rfl⟩, Fr.rf⟩))
    · unfold F_X7_about
      exact Ok.eq (il_no hn hτ.1.1 hx) (Ok.tt rfl (m25 τ hτ))
  by_cases hy : y < 0
  · refine thr ?_ (fun τ hτ => ?_)
    · unfold F_L_about
      refine fl_v Int32.toInt64 (by decide) ?_
      unfold F_X6_about F_X6_about_L16
      exact Ok.eq (la_yes hn hC.1.1 hk) (Ok.tt rfl (Ok.tt hy (Ok.so ⟨hC, Or.inr ⟨rfl, rfl⟩, Fr.rf⟩)))
    · unfold F_X7_about
      exact Ok.eq (il_yes hn hτ.1.1 hk) (Ok.ff (show ¬ bI true = 0 by decide) (Ok.eq (m_inneg hy) (Ok.tt rfl (m25 τ hτ))))
  obtain ⟨d, hd, rfl⟩ := i32_nn hy
  have hin : ∀ τ, F_X7_in τ (nI d).toInt64 0 10 = some (τ, if 0 ≤ d ∧ d ≤ 10 then 1 else 0) := fun τ => by rw [nI_l hd]; exact m_inN (a := 0) (b := 10) (by omega) (by decide) (by decide)
  by_cases h10 : d ≤ 10
  · have hWk := hS.1 k hk
    refine lc_v Int32.toInt64 (oA := F_L_about n σ (nI k) (nI d)) (B := fun τ => F_X7_about τ (nI k) (nI d)) (c := 0) (v := (nI (fct (X.2.2.1 k) X.1 d)).toInt64) (X2 := X) (Y2 := Y) (bg2 := bg) (tp2 := tp) hn hM hB ?_ (fun τ hτ => ?_) (by decide) ⟨hS.up, by omega, hb⟩
    · unfold F_L_about
      refine fl_v Int32.toInt64 (by decide) ?_
      unfold F_X6_about
      refine Ok.eq (la_yes hn hC.1.1 hk) (Ok.tt rfl (Ok.ff (nI_pos hd) (Ok.tt (show _ ≤ (10 : Int32) from nI_le (b := 10) h10 (by decide)) ?_)))
      dsimp only
      rw [hC.1.2.1]
      exact Ok.eq (f_fact (hC.1.2.2.2.1 k hk) hWk h10 (by omega)) (Ok.so ⟨hC, Or.inl ⟨rfl, rfl, rfl⟩, Fr.rf⟩)
    · unfold F_X7_about
      refine Ok.eq (il_yes hn hτ.1.1 hk) (Ok.ff (show ¬ bI true = 0 by decide) (Ok.eq ((hin τ).trans (by rw [if_pos (by omega)])) ?_))
      refine Ok.ff (show ¬ (1 : Int32) = 0 by decide) ?_
      exact ⟨_, m_fact (by omega) (hτ.1.2.2.2.1 k hk) hWk hτ.1.2.1 h10 (by omega), ma_ok hτ hB rfl⟩
  · refine thr ?_ (fun τ hτ => ?_)
    · unfold F_L_about
      refine fl_v Int32.toInt64 (by decide) ?_
      unfold F_X6_about F_X6_about_L16
      exact Ok.eq (la_yes hn hC.1.1 hk) (Ok.tt rfl (Ok.ff (nI_pos hd) (Ok.ff (show ¬ _ ≤ (10 : Int32) from nI_ge (a := 10) (by omega) (by omega)) (Ok.so ⟨hC, Or.inr ⟨rfl, rfl⟩, Fr.rf⟩))))
    · unfold F_X7_about
      refine Ok.eq (il_yes hn hτ.1.1 hk) (Ok.ff (show ¬ bI true = 0 by decide) (Ok.eq ((hin τ).trans (by rw [if_neg (by omega)])) ?_))
      exact Ok.tt rfl (m25 τ hτ)
/-! level -/
theorem ic_10 {xs : Nat → Int32} {x4 : Int32} {i n : Nat} {σ : St} (h : Inv i n σ) : Ok (F_lc_10 xs x4 n σ) (fun z => Inv (i + 1) z.1 z.2) := by
  obtain ⟨X, Y, bg, tp, hn, hC, hM, hS, hf, hb⟩ := h
  have hB := hS.1.bl
  unfold F_lc_10
  generalize xs (Int32.toNatClampNeg (x4 + 1)) = x
  generalize xs (Int32.toNatClampNeg (x4 + 2)) = y
  have thr : Ok (F_L_level n σ x y) (Ca σ n X Y bg tp 1 0) → (∀ τ, MH τ n X Y bg tp → Ok (F_X7_level τ x y) (Ma Int32.toInt64 n X Y bg tp 1 0 τ)) → _ := fun h1 h2 => lc_v (i := i) Int32.toInt64 (oA := F_L_level n σ x y) (B := fun τ => F_X7_level τ x y) hn hM hB h1 h2 (by decide) ⟨hS.up, by omega, hb⟩
  have m25 : ∀ τ, MH τ n X Y bg tp → Ok (F_X7_level_L30 τ x y) (Ma Int32.toInt64 n X Y bg tp 1 0 τ) := by
    intro τ hτ
    unfold F_X7_level_L30 F_X7_level_L31
    exact Ok.eq (m_goes (b := false)) (Ok.tt rfl (Ok.so (ma_thr hτ hB)))
  rcases noL (n := n) x with hx | ⟨k, hk, rfl⟩
  · refine thr ?_ (fun τ hτ => ?_)
    · unfold F_L_level
      refine fl_v Int32.toInt64 (by decide) ?_
      unfold F_X6_level
      exact Ok.eq (la_no hn hC.1.1 hx) (Ok.ff (show ¬ (3 : Nat) = 0 by decide) (Ok.so ⟨hC, Or.inr ⟨rfl, rfl⟩, Fr.rf⟩))
    · unfold F_X7_level
      exact Ok.eq (il_no hn hτ.1.1 hx) (Ok.tt rfl (m25 τ hτ))
  have hWk := hS.1 k hk
  have hCk := hC.1.2.2.2.1 k hk
  have hsz : (X.2.2.1 k).1 1 * (X.2.2.1 k).1 9 ≤ 512 := by have := hWk.2.2.2.1; omega
  have hfp : F_X1_footprint (qq k) σ = some (σ, nI ((X.2.2.1 k).1 1 * (X.2.2.1 k).1 9)) := by
    unfold F_X1_footprint
    rw [hCk.2.1 1 (by decide), hCk.2.1 9 (by decide), pk_mul]
  by_cases hy : y < 0
  · refine thr ?_ (fun τ hτ => ?_)
    · unfold F_L_level
      refine fl_v Int32.toInt64 (by decide) ?_
      unfold F_X6_level F_X6_level_L18
      exact Ok.eq (la_yes hn hC.1.1 hk) (Ok.tt rfl (Ok.tt hy (Ok.so ⟨hC, Or.inr ⟨rfl, rfl⟩, Fr.rf⟩)))
    · unfold F_X7_level
      exact Ok.eq (il_yes hn hτ.1.1 hk) (Ok.ff (show ¬ bI true = 0 by decide) (Ok.eq (m_foot (hτ.1.2.2.2.1 k hk) (by omega)) (Ok.eq (m_inneg hy) (Ok.tt rfl (m25 τ hτ)))))
  obtain ⟨d, hd, rfl⟩ := i32_nn hy
  by_cases h10 : d < (X.2.2.1 k).1 1 * (X.2.2.1 k).1 9
  · refine lc_v Int32.toInt64 (oA := F_L_level n σ (nI k) (nI d)) (B := fun τ => F_X7_level τ (nI k) (nI d)) (c := 0) (v := (nI ((X.2.2.1 k).2.2.1 d)).toInt64) (X2 := X) (Y2 := Y) (bg2 := bg) (tp2 := tp) hn hM hB ?_ (fun τ hτ => ?_) (by decide) ⟨hS.up, by omega, hb⟩
    · unfold F_L_level
      refine fl_v Int32.toInt64 (by decide) ?_
      unfold F_X6_level
      refine Ok.eq (la_yes hn hC.1.1 hk) (Ok.tt rfl (Ok.ff (nI_pos hd) (Ok.eq hfp (Ok.tt (nI_lt h10 (by omega)) ?_))))
      dsimp only
      unfold F_X1_levelAt
      rw [if_neg (nI_pos hd), if_neg (show ¬ (512 : Int32) ≤ nI d from nI_ge (b := 512) (by omega) (by omega)), gd_t (ib_nI (show d < ln (qq k + 1) by rw [ln_q1]; omega) (by rw [ln_q1]; decide)), nI_clamp (by omega), hCk.2.2.2.1 d (by omega)]
      exact Ok.so ⟨hC, Or.inl ⟨rfl, rfl, rfl⟩, Fr.rf⟩
    · unfold F_X7_level
      refine Ok.eq (il_yes hn hτ.1.1 hk) (Ok.ff (show ¬ bI true = 0 by decide) (Ok.eq (m_foot (hτ.1.2.2.2.1 k hk) (by omega)) (Ok.eq ((m_inlt hd (by omega)).trans (by rw [decide_eq_true h10])) (Ok.ff (show ¬ bI true = 0 by decide) ?_))))
      unfold F_X7_level_L31
      refine Ok.eq (m_goes (b := true)) (Ok.ff (show ¬ bI true = 0 by decide) ?_)
      rw [show (512 : Int32) = nI 512 from rfl, pk_mul, nI_add]
      refine Ok.gd (show ib (nI (512 * k + d)) (ln 39) = true from ib_nI (show 512 * k + d < 12288 by omega) (by decide)) (Ok.so (ma_ok hτ hB ?_))
      dsimp only
      rw [sI_nk (by decide), nI_clamp (by omega), (hτ.1.2.2.2.1 k hk).2.2.2.2.1 d (by omega)]
  · refine thr ?_ (fun τ hτ => ?_)
    · unfold F_L_level
      refine fl_v Int32.toInt64 (by decide) ?_
      unfold F_X6_level F_X6_level_L18
      exact Ok.eq (la_yes hn hC.1.1 hk) (Ok.tt rfl (Ok.ff (nI_pos hd) (Ok.eq hfp (Ok.ff (nI_nlt (by omega) hd) (Ok.so ⟨hC, Or.inr ⟨rfl, rfl⟩, Fr.rf⟩)))))
    · unfold F_X7_level
      exact Ok.eq (il_yes hn hτ.1.1 hk) (Ok.ff (show ¬ bI true = 0 by decide) (Ok.eq (m_foot (hτ.1.2.2.2.1 k hk) (by omega)) (Ok.eq ((m_inlt hd (by omega)).trans (by rw [decide_eq_false h10])) (Ok.tt rfl (m25 τ hτ)))))
/-! label -/
theorem ic_11 {xs : Nat → Int32} {x4 : Int32} {i n : Nat} {σ : St} (h : Inv i n σ) : Ok (F_lc_11 xs x4 n σ) (fun z => Inv (i + 1) z.1 z.2) := by
  obtain ⟨X, Y, bg, tp, hn, hC, hM, hS, hf, hb⟩ := h
  have hB := hS.1.bl
  unfold F_lc_11
  generalize xs (Int32.toNatClampNeg (x4 + 1)) = x
  generalize xs (Int32.toNatClampNeg (x4 + 2)) = y
  have thr : Ok (F_L_label n σ x y) (Ca σ n X Y bg tp 1 0) → (∀ τ, MH τ n X Y bg tp → Ok (F_X7_label τ x y) (Ma Int32.toInt64 n X Y bg tp 1 0 τ)) → _ := fun h1 h2 => lc_v (i := i) Int32.toInt64 (oA := F_L_label n σ x y) (B := fun τ => F_X7_label τ x y) hn hM hB h1 h2 (by decide) ⟨hS.up, by omega, hb⟩
  have m25 : ∀ τ, MH τ n X Y bg tp → Ok (F_X7_label_L31 τ x y) (Ma Int32.toInt64 n X Y bg tp 1 0 τ) := by
    intro τ hτ
    unfold F_X7_label_L31 F_X7_label_L32
    exact Ok.eq (m_goes (b := false)) (Ok.tt rfl (Ok.so (ma_thr hτ hB)))
  rcases noL (n := n) x with hx | ⟨k, hk, rfl⟩
  · refine thr ?_ (fun τ hτ => ?_)
    · unfold F_L_label
      refine fl_v Int32.toInt64 (by decide) ?_
      unfold F_X6_label
      exact Ok.eq (la_no hn hC.1.1 hx) (Ok.ff (show ¬ (3 : Nat) = 0 by decide) (Ok.so ⟨hC, Or.inr ⟨rfl, rfl⟩, Fr.rf⟩))
    · unfold F_X7_label
      exact Ok.eq (il_no hn hτ.1.1 hx) (Ok.tt rfl (m25 τ hτ))
  have hWk := hS.1 k hk
  have h32 := hWk.bl.1
  have hR := (hC.1.2.2.2.1 k hk).2.2.2.2.1
  have g36 : ∀ τ, MH τ n X Y bg tp → τ.1 36 (Int32.toNatClampNeg (nI k)) = nI (X.2.2.1 k).2.1.length := fun τ hτ => by rw [nI_clamp (by omega)]; exact (hτ.1.2.2.2.1 k hk).2.2.2.1.1
  have ib36 : ib (nI k) (ln 36) = true := ib_nI (show k < 24 by omega) (by decide)
  by_cases hy : y < 0
  · refine thr ?_ (fun τ hτ => ?_)
    · unfold F_L_label
      refine fl_v Int32.toInt64 (by decide) ?_
      unfold F_X6_label F_X6_label_L21
      exact Ok.eq (la_yes hn hC.1.1 hk) (Ok.tt rfl (Ok.tt hy (Ok.so ⟨hC, Or.inr ⟨rfl, rfl⟩, Fr.rf⟩)))
    · unfold F_X7_label
      exact Ok.eq (il_yes hn hτ.1.1 hk) (Ok.ff (show ¬ bI true = 0 by decide) (Ok.gd ib36 (Ok.eq (m_inneg hy) (Ok.tt rfl (m25 τ hτ)))))
  obtain ⟨d, hd, rfl⟩ := i32_nn hy
  by_cases h10 : d < (X.2.2.1 k).2.1.length
  · refine lc_v Int32.toInt64 (oA := F_L_label n σ (nI k) (nI d)) (B := fun τ => F_X7_label τ (nI k) (nI d)) (c := 0) (v := (nI ((X.2.2.1 k).2.1.getD d 0)).toInt64) (X2 := X) (Y2 := Y) (bg2 := bg) (tp2 := tp) hn hM hB ?_ (fun τ hτ => ?_) (by decide) ⟨hS.up, by omega, hb⟩
    · unfold F_L_label
      refine fl_v Int32.toInt64 (by decide) ?_
      unfold F_X6_label
      refine Ok.eq (la_yes hn hC.1.1 hk) (Ok.tt rfl (Ok.ff (nI_pos hd) (Ok.eq (f_size hR) (Ok.tt (nI_lt h10 (by omega)) ?_))))
      exact Ok.eq (f_at hR hd) (Ok.so ⟨hC, Or.inl ⟨rfl, rfl, rfl⟩, Fr.rf⟩)
    · unfold F_X7_label
      refine Ok.eq (il_yes hn hτ.1.1 hk) (Ok.ff (show ¬ bI true = 0 by decide) (Ok.gd ib36 ?_))
      dsimp only
      rw [g36 τ hτ]
      refine Ok.eq ((m_inlt hd (by omega)).trans (by rw [decide_eq_true h10])) (Ok.ff (show ¬ bI true = 0 by decide) ?_)
      unfold F_X7_label_L32
      refine Ok.eq (m_goes (b := true)) (Ok.ff (show ¬ bI true = 0 by decide) ?_)
      rw [show (32 : Int32) = nI 32 from rfl, pk_mul, nI_add]
      refine Ok.gd (show ib (nI (32 * k + d)) (ln 37) = true from ib_nI (show 32 * k + d < 768 by omega) (by decide)) (Ok.so (ma_ok hτ hB ?_))
      dsimp only
      rw [sI_nk (by decide), nI_clamp (by omega), lo8_and, (hτ.1.2.2.2.1 k hk).2.2.2.1.2 d h10]
  · refine thr ?_ (fun τ hτ => ?_)
    · unfold F_L_label
      refine fl_v Int32.toInt64 (by decide) ?_
      unfold F_X6_label F_X6_label_L21
      exact Ok.eq (la_yes hn hC.1.1 hk) (Ok.tt rfl (Ok.ff (nI_pos hd) (Ok.eq (f_size hR) (Ok.ff (nI_nlt (by omega) hd) (Ok.so ⟨hC, Or.inr ⟨rfl, rfl⟩, Fr.rf⟩)))))
    · unfold F_X7_label
      refine Ok.eq (il_yes hn hτ.1.1 hk) (Ok.ff (show ¬ bI true = 0 by decide) (Ok.gd ib36 ?_))
      dsimp only
      rw [g36 τ hτ]
      exact Ok.eq ((m_inlt hd (by omega)).trans (by rw [decide_eq_false h10])) (Ok.tt rfl (m25 τ hτ))
/-! answer -/
theorem ic_4 {xs : Nat → Int32} {x4 : Int32} {i n : Nat} {σ : St} (h : Inv i n σ) : Ok (F_lc_4 xs x4 n σ) (fun z => Inv (i + 1) z.1 z.2) := by
  obtain ⟨X, Y, bg, tp, hn, hC, hM, hS, hf, hb⟩ := h
  have hB := hS.1.bl
  unfold F_lc_4
  generalize xs (Int32.toNatClampNeg (x4 + 1)) = x
  have thr : Ok (F_L_answer σ x) (Ca σ n X Y bg tp 1 0) → (∀ τ, MH τ n X Y bg tp → Ok (F_X7_answer τ x) (Ma Int32.toInt64 n X Y bg tp 1 0 τ)) → _ := fun h1 h2 => lc_v (i := i) Int32.toInt64 (oA := F_L_answer σ x) (B := fun τ => F_X7_answer τ x) hn hM hB h1 h2 (by decide) ⟨hS.up, by omega, hb⟩
  have hR := hC.1.2.2.2.2.1
  have l7 := hR.2.1
  rw [show ln (7 + 1) = 257 from rfl] at l7
  by_cases hx : x < 0
  · refine thr ?_ (fun τ hτ => ?_)
    · unfold F_L_answer
      refine fl_v Int32.toInt64 (by decide) ?_
      unfold F_X6_answer F_X6_answer_L15
      exact Ok.tt hx (Ok.so ⟨hC, Or.inr ⟨rfl, rfl⟩, Fr.rf⟩)
    · unfold F_X7_answer
      exact Ok.eq (m_inneg hx) (Ok.eq (m_goes (b := false)) (Ok.tt rfl (Ok.so (ma_thr hτ hB))))
  obtain ⟨d, hd, rfl⟩ := i32_nn hx
  by_cases h10 : d < X.2.2.2.1.length
  · refine lc_v Int32.toInt64 (oA := F_L_answer σ (nI d)) (B := fun τ => F_X7_answer τ (nI d)) (c := 0) (v := (nI (X.2.2.2.1.getD d 0)).toInt64) (X2 := X) (Y2 := Y) (bg2 := bg) (tp2 := tp) hn hM hB ?_ (fun τ hτ => ?_) (by decide) ⟨hS.up, by omega, hb⟩
    · unfold F_L_answer
      refine fl_v Int32.toInt64 (by decide) ?_
      unfold F_X6_answer
      exact Ok.ff (nI_pos hd) (Ok.eq (f_size hR) (Ok.tt (nI_lt h10 (by omega)) (Ok.eq (f_at hR hd) (Ok.so ⟨hC, Or.inl ⟨rfl, rfl, rfl⟩, Fr.rf⟩))))
    · have h47 := hτ.1.2.2.2.2.1
      unfold F_X7_answer
      rw [h47.1]
      refine Ok.eq ((m_inlt hd (by omega)).trans (by rw [decide_eq_true h10])) ?_
      refine Ok.eq (m_goes (b := true)) (Ok.ff (show ¬ bI true = 0 by decide) ?_)
      refine Ok.gd (show ib (nI d) (ln 47) = true from ib_nI (show d < 300 by omega) (by decide)) (Ok.so (ma_ok hτ hB ?_))
      dsimp only
      rw [sI_nk (by decide), nI_clamp (by omega), lo8_and, h47.2.2 d h10]
  · refine thr ?_ (fun τ hτ => ?_)
    · unfold F_L_answer
      refine fl_v Int32.toInt64 (by decide) ?_
      unfold F_X6_answer F_X6_answer_L15
      exact Ok.ff (nI_pos hd) (Ok.eq (f_size hR) (Ok.ff (nI_nlt (by omega) hd) (Ok.so ⟨hC, Or.inr ⟨rfl, rfl⟩, Fr.rf⟩)))
    · unfold F_X7_answer
      rw [hτ.1.2.2.2.2.1.1]
      exact Ok.eq ((m_inlt hd (by omega)).trans (by rw [decide_eq_false h10])) (Ok.eq (m_goes (b := false)) (Ok.tt rfl (Ok.so (ma_thr hτ hB))))
