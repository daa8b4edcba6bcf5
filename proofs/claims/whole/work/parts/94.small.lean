/-! ===== PURE: branch, end, silence, spoil ===== -/
theorem m_inle {σ : St} {k c : Nat} (hk : k < 2 ^ 31) (hc : c < 2 ^ 31) : F_X7_in σ (nI k).toInt64 0 ((nI c).toInt64) = some (σ, bI (decide (k ≤ c))) := by
  rw [nI_l hk, nI_l hc, show (0 : Int64) = lN 0 from rfl, m_inN (by omega) (by decide) (by omega)]
  by_cases h : k ≤ c
  · rw [if_pos (by omega), decide_eq_true h]; rfl
  · rw [if_neg (by omega), decide_eq_false h]; rfl
theorem ic_17 {xs : Nat → Int32} {x4 : Int32} {i n : Nat} {σ : St} (h : Inv i n σ) : Ok (F_lc_17 xs x4 n σ) (fun z => Inv (i + 1) z.1 z.2) := by
  obtain ⟨X, Y, bg, tp, hn, hC, hM, hS, hf, hb⟩ := h
  have hB := hS.1.bl
  have h49 := hS.2.2.1.2
  unfold F_lc_17
  generalize xs (Int32.toNatClampNeg (x4 + 1)) = x
  have fin : ∀ c v, c < 10 → Ok (F_L_branch σ x) (Ca σ n X Y bg tp c v) → (∀ τ, MH τ n X Y bg tp → Ok (F_X7_branch τ x) (Ma (fun z => z) n X Y bg tp c v τ)) → _ := fun c v hc h1 h2 => lc_v (i := i) (fun z => z) (oA := F_L_branch σ x) (B := fun τ => F_X7_branch τ x) hn hM hB h1 h2 hc ⟨hS.up, by omega, hb⟩
  have m27 : ∀ τ, MH τ n X Y bg tp → Ok (F_X7_branch_L27 τ x) (Ma (fun z => z) n X Y bg tp 1 0 τ) := by
    intro τ hτ
    unfold F_X7_branch_L27 F_X7_branch_L28
    exact Ok.eq (m_goes (b := false)) (Ok.tt rfl (Ok.so (ma_thr hτ hB)))
  have cls : ∀ c v, Ok (F_X6_branch σ x) (Cr (fun z => z) 3 σ n X Y bg tp c v) → Ok (F_L_branch σ x) (Ca σ n X Y bg tp c v) := by
    intro c v h
    unfold F_L_branch
    exact fl_v (fun z => z) (by decide) h
  by_cases hx : x < 0
  · refine fin 1 0 (by decide) (cls 1 0 ?_) (fun τ hτ => ?_)
    · unfold F_X6_branch F_X6_branch_L9
      exact Ok.tt hx (Ok.so ⟨hC, Or.inr ⟨rfl, rfl⟩, Fr.rf⟩)
    · unfold F_X7_branch
      exact Ok.ff (fun e => by rw [e] at hx; exact absurd hx (by decide)) (Ok.eq (m_inneg hx) (Ok.tt rfl (m27 τ hτ)))
  obtain ⟨d, hd, rfl⟩ := i32_nn hx
  have hin : ∀ τ, F_X7_in τ (nI d).toInt64 0 1 = some (τ, bI (decide (d ≤ 1))) := fun τ => m_inle (c := 1) hd (by decide)
  by_cases h2 : d = 2
  · subst h2
    refine fin 0 (nI Y.2.2.2.2).toInt64 (by decide) (cls 0 _ ?_) (fun τ hτ => ?_)
    · unfold F_X6_branch
      refine Ok.ff (by decide) (Ok.tt (by decide) (Ok.tt (by decide) (Ok.so ⟨hC, Or.inl ⟨rfl, rfl, ?_⟩, Fr.rf⟩)))
      dsimp only
      rw [hC.2.1.2.2.2.2.2]
    · unfold F_X7_branch F_X7_branch_L23 F_X7_branch_L28
      refine Ok.tt (by decide) (Ok.eq (m_goes (b := true)) (Ok.ff (show ¬ bI true = 0 by decide) (Ok.tt (by decide) (Ok.so (ma_ok hτ hB ?_)))))
      dsimp only
      rw [sI_nj (by decide), hτ.2.1.2.2.2.2.2]
  by_cases h3 : 2 < d
  · refine fin 1 0 (by decide) (cls 1 0 ?_) (fun τ hτ => ?_)
    · unfold F_X6_branch F_X6_branch_L9
      exact Ok.ff (nI_pos hd) (Ok.ff (show ¬ _ ≤ (2 : Int32) from nI_ge (a := 2) h3 hd) (Ok.so ⟨hC, Or.inr ⟨rfl, rfl⟩, Fr.rf⟩))
    · unfold F_X7_branch
      exact Ok.ff (fun e => h2 ((nI_eq (b := 2) (by omega) (by omega)).mp e)) (Ok.eq ((hin τ).trans (by rw [decide_eq_false (by omega)])) (Ok.tt rfl (m27 τ hτ)))
  have c2 : nI d ≤ (2 : Int32) := nI_le (b := 2) (by omega) (by decide)
  have n2 : ¬ nI d = (2 : Int32) := fun e => h2 ((nI_eq (b := 2) (by omega) (by omega)).mp e)
  by_cases h0 : Y.1 = 0
  · refine fin 1 0 (by decide) (cls 1 0 ?_) (fun τ hτ => ?_)
    · unfold F_X6_branch
      exact Ok.ff (nI_pos hd) (Ok.tt c2 (Ok.ff n2 (Ok.tt (by rw [hC.2.1.2.1, h0]; rfl) (Ok.so ⟨hC, Or.inr ⟨rfl, rfl⟩, Fr.rf⟩))))
    · unfold F_X7_branch
      refine Ok.ff n2 (Ok.eq ((hin τ).trans (by rw [decide_eq_true (by omega)])) (Ok.ff (show ¬ bI true = 0 by decide) (Ok.tt ?_ (m27 τ hτ))))
      dsimp only
      rw [hτ.2.1.2.1, h0]; decide
  have hpos : 0 < Y.1 := by omega
  have e1 : nI Y.1 - 1 = nI (Y.1 - 1) := pk_sub (b := 1) (by omega)
  have hlo : F_X4_latestLow σ = some (σ, lN (br Y).1) := by
    unfold F_X4_latestLow
    rw [hC.2.1.2.1, if_neg (nI_nle hpos (by omega)), e1, gd_t (show ib (nI (Y.1 - 1)) (ln 22) = true from ib_nI (show Y.1 - 1 < 64 by omega) (by decide)), nI_clamp (by omega), (hC.2.1.2.2.1 (Y.1 - 1) (by omega)).1]
    rfl
  have hhi : F_X4_latestHigh σ = some (σ, lN (br Y).2) := by
    unfold F_X4_latestHigh
    rw [hC.2.1.2.1, if_neg (nI_nle hpos (by omega)), e1, gd_t (show ib (nI (Y.1 - 1)) (ln 23) = true from ib_nI (show Y.1 - 1 < 64 by omega) (by decide)), nI_clamp (by omega), (hC.2.1.2.2.1 (Y.1 - 1) (by omega)).2]
    rfl
  have y0 : ¬ (nI Y.1 = 0) := nI_ne0 (by omega) (by omega)
  refine fin 0 (if d = 0 then lN (br Y).1 else lN (br Y).2) (by decide) (cls 0 _ ?_) (fun τ hτ => ?_)
  · unfold F_X6_branch
    refine Ok.ff (nI_pos hd) (Ok.tt c2 (Ok.ff n2 (Ok.ff (by rw [hC.2.1.2.1]; exact y0) ?_)))
    by_cases hd0 : d = 0
    · subst hd0
      exact Ok.tt rfl (Ok.eq hlo (Ok.so ⟨hC, Or.inl ⟨rfl, rfl, rfl⟩, Fr.rf⟩))
    · refine Ok.ff (nI_ne0 (by omega) (by omega)) (Ok.eq hhi (Ok.so ⟨hC, Or.inl ⟨rfl, rfl, ?_⟩, Fr.rf⟩))
      rw [if_neg hd0]
  · unfold F_X7_branch
    refine Ok.ff n2 (Ok.eq ((hin τ).trans (by rw [decide_eq_true (by omega)])) (Ok.ff (show ¬ bI true = 0 by decide) (Ok.ff ?_ ?_)))
    · dsimp only
      rw [hτ.2.1.2.1]; exact nI_nle hpos (by omega)
    unfold F_X7_branch_L23 F_X7_branch_L28
    refine Ok.eq (m_goes (b := true)) (Ok.ff (show ¬ bI true = 0 by decide) (Ok.ff n2 ?_))
    dsimp only
    rw [sI_nj (by decide), hτ.2.1.2.1, e1]
    by_cases hd0 : d = 0
    · subst hd0
      refine Ok.tt rfl (Ok.gd (ib_nI (show Y.1 - 1 < 128 by omega) (by decide)) (Ok.so (ma_ok hτ hB ?_)))
      rw [nI_clamp (by omega), sI_2, (hτ.2.1.2.2.1 (Y.1 - 1) (by omega)).1]; rfl
    · refine Ok.ff (nI_ne0 (by omega) (by omega)) (Ok.gd (ib_nI (show Y.1 - 1 < 128 by omega) (by decide)) (Ok.so (ma_ok hτ hB ?_)))
      rw [nI_clamp (by omega), sI_2, (hτ.2.1.2.2.1 (Y.1 - 1) (by omega)).2, if_neg hd0]; rfl
/-! end -/
theorem ic_2 {xs : Nat → Int32} {x4 : Int32} {i n : Nat} {σ : St} (h : Inv i n σ) : Ok (F_lc_2 xs x4 n σ) (fun z => Inv (i + 1) z.1 z.2) := by
  obtain ⟨X, Y, bg, tp, hn, hC, hM, hS, hf, hb⟩ := h
  have hB := hS.1.bl
  have ltp := hC.2.2.2.1
  rw [show ln (1 + 1) = 520 from rfl] at ltp
  unfold F_lc_2
  generalize xs (Int32.toNatClampNeg (x4 + 1)) = x
  have mend : ∀ τ, MH τ n X Y bg tp → Ok (F_X7_end_L27 (sI τ 27 0 (nI (if false = true then 0 else 1))) ((sI τ 27 0 (nI (if false = true then 0 else 1))).1 27 20)) (fun y => Ma (fun _ : Nat => 0) n X Y bg tp 1 0 τ (y, 0)) := by
    intro τ hτ
    unfold F_X7_end_L27
    rw [sI_id]
    exact Ok.nm (Ok.so (ma_thr hτ hB))
  by_cases hx : x < 0
  · refine lc_n (c := 1) (v := 0) (B := fun τ => F_X7_end τ x) (X2 := X) (Y2 := Y) (bg2 := bg) (tp2 := tp) hn hM hB ?_ (fun τ hτ => ?_) ⟨hS.up, by omega, hb⟩
    · unfold F_L_end
      refine fl_n (v := 0) ?_
      unfold F_X6_end F_X6_end_L15
      exact Ok.tt hx (Ok.so ⟨hC, Or.inr ⟨rfl, rfl⟩, Fr.rf⟩)
    · unfold F_X7_end
      exact Ok.eq (m_inneg hx) (Ok.eq (m_goes (b := false)) (Ok.tt rfl (mend τ hτ)))
  obtain ⟨d, hd, rfl⟩ := i32_nn hx
  by_cases h10 : d ≤ tp.length
  · refine lc_n (c := 0) (v := 0) (B := fun τ => F_X7_end τ (nI d)) (X2 := X) (Y2 := Y) (bg2 := bg) (tp2 := tp.take d) hn hM hB ?_ (fun τ hτ => ?_) ⟨hS.up, by omega, hb⟩
    · unfold F_L_end
      refine fl_n (v := 0) ?_
      unfold F_X6_end
      refine Ok.ff (nI_pos hd) (Ok.eq (f_size hC.2.2) (Ok.tt (nI_le h10 (by omega)) ?_))
      obtain ⟨ρ, r1, r2, r3⟩ := f_cut hC.2.2 h10
      have q0 : Fr (fun q _ => q = 1) σ ρ := (Fr.ex r3).mo (fun a b h => by simpa using h)
      exact Ok.eq r1 (Ok.so ⟨⟨hC.1.fr q0 (fun q j h => by omega), hC.2.1.fr q0 (fun r j h1 h2 h => by omega), r2⟩, Or.inl ⟨rfl, rfl, rfl⟩, q0.mo (fun a b h => by unfold pCf; omega)⟩)
    · unfold F_X7_end
      rw [hτ.2.2.1.1]
      refine Ok.eq ((m_inle hd (by omega)).trans (by rw [decide_eq_true h10])) (Ok.eq (m_goes (b := true)) (Ok.ff (show ¬ bI true = 0 by decide) ?_))
      unfold F_X7_end_L27
      refine Ok.nm (Ok.so ?_)
      have q1 := (ma_ok (V := fun _ : Nat => 0) (z := 0) (v := 0) hτ hB rfl)
      obtain ⟨g1, g2, g3, g4⟩ := q1
      dsimp only at g1 g2 g4 ⊢
      generalize sI τ 27 0 (nI (if true = true then 0 else 1)) = ρ at *
      have q2 : Fr (fun q j => q = 27 ∧ j = 20) ρ (sI ρ 27 20 (nI d)) := Fr.sI ⟨rfl, rfl⟩
      have hlen : (tp.take d).length = d := by rw [List.length_take]; omega
      refine ⟨⟨g1.1.fr hB q2 (fun q j h1 h2 => by unfold pX at h1; omega), g1.2.1.fr q2 (fun q j h1 h2 => by unfold pS at h1; omega), ⟨by rw [sI_eq, hlen], by rw [hlen, show ln 45 = 520 from rfl]; omega, fun k hk => ?_⟩, g1.2.2.2.fr q2 (fun a q j h1 h2 h3 => by have := lpl_lt h2; omega)⟩, by rw [q2.i (by omega)]; exact g2, fun _ => rfl, g4.t (q2.mo (fun a b h => by omega))⟩
      rw [q2.i (by omega), nD_take, if_pos (by omega)]
      exact g1.2.2.1.2.2 k (by omega)
  · refine lc_n (c := 1) (v := 0) (B := fun τ => F_X7_end τ (nI d)) (X2 := X) (Y2 := Y) (bg2 := bg) (tp2 := tp) hn hM hB ?_ (fun τ hτ => ?_) ⟨hS.up, by omega, hb⟩
    · unfold F_L_end
      refine fl_n (v := 0) ?_
      unfold F_X6_end F_X6_end_L15
      exact Ok.ff (nI_pos hd) (Ok.eq (f_size hC.2.2) (Ok.ff (nI_ge (by omega) (by omega)) (Ok.so ⟨hC, Or.inr ⟨rfl, rfl⟩, Fr.rf⟩)))
    · unfold F_X7_end
      rw [hτ.2.2.1.1]
      refine Ok.eq ((m_inle hd (by omega)).trans (by rw [decide_eq_false h10])) (Ok.eq (m_goes (b := false)) (Ok.tt rfl ?_))
      exact mend τ hτ
/-! silence -/
def siX (X : Xs) (k v : Nat) : Xs := (X.1, X.2.1, fun j => if j = k then su (X.2.2.1 k) 11 v else X.2.2.1 j, X.2.2.2)
theorem siX_wl {o n k v : Nat} {X : Xs} (h : WX o n X) (hk : k < n) (hv : v ≤ 1) : WX o n (siX X k v) := by
  intro j hj
  show Wl o X.1 3 (if j = k then su (X.2.2.1 k) 11 v else X.2.2.1 j)
  split
  · obtain ⟨w1, w2, w3, w4, w5, w6, w7, w8, w9, w10, w11, w12, w13⟩ := h k hk
    exact ⟨w1, w2, w3, w4, by rw [su_eq]; exact hv, w6, w7, w8, w9, w10, w11, w12, w13⟩
  · exact h j hj
theorem siX_ids {k v : Nat} {X : Xs} (j : Nat) : ids (siX X k v) j = ids X j := by
  show (if j = k then su (X.2.2.1 k) 11 v else X.2.2.1 j).1 0 = _
  split
  · rename_i e; rw [e, su_ne (by decide)]
  · rfl
theorem silC {σ : St} {n k v bg : Nat} {X : Xs} {Y : Ys} {tp : List Nat} {o : Nat} (hn : n ≤ 24) (hC : CH σ n X Y bg tp) (hW : WX o n X) (hk : k < n) (hv : v ≤ 1) : Ok (F_L_silence n σ (nI k) (nI v)) (Ca σ n (siX X k v) Y bg tp 0 (nI ((X.2.2.1 k).1 11)).toInt64) := by
  unfold F_L_silence
  refine fl_v Int32.toInt64 (by decide) ?_
  unfold F_X6_silence
  refine Ok.eq (la_yes hn hC.1.1 hk) (Ok.tt rfl ?_)
  dsimp only
  rw [(hC.1.2.2.2.1 k hk).2.1 11 (by decide)]
  refine Ok.eq (f_flag (hW k hk).2.2.2.2.1) (Ok.gd ?_ (Ok.nm (Ok.so ?_)))
  · rcases (show v = 0 ∨ v = 1 by omega) with e | e <;> subst e <;> decide
  have q0 : Fr (fun q j => q = qq k ∧ j = 11) σ (sI σ (qq k) 11 (nI v)) := Fr.sI ⟨rfl, rfl⟩
  refine ⟨⟨?_, hC.2.1.fr q0 (fun r j h1 h2 h => by unfold qq at h; omega), hC.2.2.fr q0 (fun j h => by unfold qq at h; omega) (fun j h => by unfold qq at h; omega)⟩, Or.inl ⟨rfl, rfl, rfl⟩, q0.mo (fun a b h => by unfold pCf; unfold qq at h; omega)⟩
  obtain ⟨x1, x2, ⟨x3, x3b⟩, x4, x5, x6, ⟨d, x7⟩, ⟨u, x8⟩, ⟨h, x9⟩, ⟨q, x10⟩, ⟨g, x11⟩⟩ := hC.1
  have rr : ∀ {r : Nat} {l : List Nat}, r ≤ 16 → Rw σ r l → Rw (sI σ (qq k) 11 (nI v)) r l := fun h2 hr => hr.fr q0 (fun j h => by unfold qq at h; omega) (fun j h => by unfold qq at h; omega)
  have hne : ∀ r, r < 54 → r ≠ qq k := fun r hr => by unfold qq; omega
  refine ⟨by rw [sI_nk (hne 0 (by omega))]; exact x1, by rw [sI_nk (hne 0 (by omega))]; exact x2, ⟨by rw [sI_nk (hne 0 (by omega))]; exact x3, x3b⟩, fun j hj => ?_, rr (by omega) x5, ⟨by rw [sI_nk (hne 18 (by omega))]; exact x6.1, x6.2.1, fun j hj => by rw [sI_nk (hne 19 (by omega)), sI_nk (hne 20 (by omega))]; exact x6.2.2 j hj⟩, ⟨d, rr (by omega) x7⟩, ⟨u, rr (by omega) x8⟩, ⟨h, rr (by omega) x9⟩, ⟨q, rr (by omega) x10⟩, ⟨g, rr (by omega) x11⟩⟩
  show CL _ (qq j) (if j = k then su (X.2.2.1 k) 11 v else X.2.2.1 j)
  by_cases e : j = k
  · subst e; rw [if_pos rfl]; exact (x4 j hj).su (by decide)
  · rw [if_neg e]
    exact (x4 j hj).fr q0 (fun r b h1 h2 h => by unfold qq at h1 h2 h; omega)
theorem silM {τ : St} {n k v bg : Nat} {X : Xs} {Y : Ys} {tp : List Nat} {o : Nat} (hn : n ≤ 24) (hτ : MH τ n X Y bg tp) (hW : WX o n X) (hk : k < n) (hv : v ≤ 1) : Ok (F_X7_silence τ (nI k) (nI v)) (Ma Int32.toInt64 n (siX X k v) Y bg tp 0 (nI ((X.2.2.1 k).1 11)).toInt64 τ) := by
  have hB := hW.bl
  unfold F_X7_silence
  refine Ok.eq (il_yes hn hτ.1.1 hk) (Ok.eq (m_goes (b := true)) (Ok.ff (show ¬ bI true = 0 by decide) ?_))
  obtain ⟨g1, g2, g3, g4⟩ := ma_ok (V := fun _ : Nat => 0) (z := 0) (v := 0) hτ hB rfl
  dsimp only at g1 g2 g4 ⊢
  generalize sI τ 27 0 (nI (if true = true then 0 else 1)) = ρ at *
  have ib34 : ib (nI k) (ln 34) = true := ib_nI (show k < 24 by omega) (by decide)
  have hMk := g1.1.2.2.2.1 k hk
  refine Ok.gd ib34 ?_
  rw [nI_clamp (by omega), hMk.sc 34 11 (by decide)]
  have q0 : Fr (fun q j => q = 34 ∧ j = k) ρ (sI ρ 34 k (nI v)) := Fr.sI ⟨rfl, rfl⟩
  have q0' : Fr (lpl k) ρ (sI ρ 34 k (nI v)) := q0.mo (fun a b h => by unfold lpl; omega)
  have hnar : vp_nar .boolean (nI v) = nI v := by
    rcases (show v = 0 ∨ v = 1 by omega) with e | e <;> subst e
    · exact vn0
    · exact vn1
  have hL : ∀ z : Int32, z = nI ((X.2.2.1 k).1 11) → Ok (F_X7_silence_L28 ρ (nI k) (nI v) z) (Ma Int32.toInt64 n (siX X k v) Y bg tp 0 (nI ((X.2.2.1 k).1 11)).toInt64 τ) := by
    intro z hz
    unfold F_X7_silence_L28
    refine Ok.gd ib34 (Ok.nm (Ok.so ?_))
    rw [nI_clamp (by omega), hnar]
    obtain ⟨⟨x1, x2, x3, x4, x5, x6, ⟨r, x7⟩⟩, y0, t0, z0⟩ := g1
    refine ⟨⟨⟨by rw [q0.i (by omega)]; exact x1, by rw [q0.i (by omega)]; exact x2, by rw [q0.i (by omega)]; exact x3, fun j hj => ?_, x5.fr q0 (by omega) (fun j => by omega), x6.fr q0 (by omega) (fun j => by omega), ⟨r, x7.fr q0 (by omega) (fun j => by omega)⟩⟩, y0.fr q0 (fun q j h1 h2 => by unfold pS at h1; omega), t0.fr q0 (by omega) (fun j => by omega), z0.fr q0' (fun a q j h1 h2 h3 => by have := lpl_ne h2 h3; omega)⟩, by rw [q0.i (by omega)]; exact g2, fun _ => by rw [hz], g4.t (q0.mo (fun a b h => by omega))⟩
    show ML _ j (if j = k then su (X.2.2.1 k) 11 v else X.2.2.1 j)
    by_cases e : j = k
    · subst e; rw [if_pos rfl]; exact (x4 j hj).sv (by decide)
    · rw [if_neg e]
      exact (x4 j hj).oth (hB j hj) q0' e
  have h11 := (hW k hk).2.2.2.2.1
  rcases (show (X.2.2.1 k).1 11 = 0 ∨ (X.2.2.1 k).1 11 = 1 by omega) with e | e
  · exact Ok.tt (by rw [e]; rfl) (hL 0 (by rw [e]; rfl))
  · exact Ok.ff (by rw [e]; decide) (hL 1 (by rw [e]; rfl))
theorem ic_12 {xs : Nat → Int32} {x4 : Int32} {i n : Nat} {σ : St} (h : Inv i n σ) : Ok (F_lc_12 xs x4 n σ) (fun z => Inv (i + 1) z.1 z.2) := by
  obtain ⟨X, Y, bg, tp, hn, hC, hM, hS, hf, hb⟩ := h
  have hB := hS.1.bl
  have key : ∀ (x : Int32) (v : Nat), v ≤ 1 → Ok ((F_L_silence n σ x (nI v)).bind (fun y1 => (F_X7_silence y1.1 x (nI v)).bind (fun y2 => (F_X7_thrown y2.1).bind (fun y3 => if y3.2 = y1.2 then (if y1.2 = 0 then gd (ib 0 (ln (26))) (if (lg_cmp (y3.1.2 (26) (Int32.toNatClampNeg 0)) (Int32.toInt64 y2.2)) = 0 then some (n, y3.1) else none) else some (n, y3.1)) else none)))) (fun z => Inv (i + 1) z.1 z.2) := by
    intro x v hv
    rcases noL (n := n) x with hx | ⟨k, hk, rfl⟩
    · refine lc_v Int32.toInt64 (oA := F_L_silence n σ x (nI v)) (B := fun τ => F_X7_silence τ x (nI v)) (c := 1) (v := 0) (X2 := X) (Y2 := Y) (bg2 := bg) (tp2 := tp) hn hM hB ?_ (fun τ hτ => ?_) (by decide) ⟨hS.up, by omega, hb⟩
      · unfold F_L_silence
        refine fl_v Int32.toInt64 (by decide) ?_
        unfold F_X6_silence
        exact Ok.eq (la_no hn hC.1.1 hx) (Ok.ff (show ¬ (3 : Nat) = 0 by decide) (Ok.so ⟨hC, Or.inr ⟨rfl, rfl⟩, Fr.rf⟩))
      · unfold F_X7_silence
        exact Ok.eq (il_no hn hτ.1.1 hx) (Ok.eq (m_goes (b := false)) (Ok.tt rfl (Ok.so (ma_thr hτ hB))))
    · exact lc_v Int32.toInt64 (oA := F_L_silence n σ (nI k) (nI v)) (B := fun τ => F_X7_silence τ (nI k) (nI v)) hn hM hB (silC hn hC hS.1 hk hv) (fun τ hτ => silM hn hτ hS.1 hk hv) (by decide) ⟨⟨siX_wl hS.up.1 hk hv, hS.2.1, hS.2.2.1, hS.2.2.2.to siX_ids rfl rfl⟩, by show X.1 ≤ 3000 * (i + 1); omega, hb⟩
  unfold F_lc_12
  by_cases h0 : xs (Int32.toNatClampNeg (x4 + 2)) = 0
  · simp only [if_pos h0]
    exact key _ 0 (by decide)
  · simp only [if_neg h0]
    exact key _ 1 (by decide)
