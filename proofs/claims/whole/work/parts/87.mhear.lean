/-! ===== PURE: the model's lamp hears a packet ===== -/
theorem sI_id {σ : St} {k j : Nat} : sI σ k j (σ.1 k j) = σ := by
  have h : (sI σ k j (σ.1 k j)).1 = σ.1 := by
    funext q b
    rw [sI_if]
    split
    · rename_i h; rw [h.1, h.2]
    · rfl
  exact Prod.ext h rfl
theorem m_s142 {σ : St} {i o now : Nat} {L : Lp} {f : List Nat} {own : Bool} (hM : ML σ i L) (hi : i < 24) (hW : Wl o now 2 L) (hn : now + 3 < 2 ^ 31) (h46 : Mw σ 46 23 f) (hok : pkOk f) (h48 : Mw σ 48 27 []) (h21 : σ.1 27 21 = nI now) (hg : f.getD 20 0 = 48) (hform : formR (two f 18) (two f 21) true (f.getD 23 0) = none) : Ok (F_X7_set_L142 σ (nI i) (bI own) (nI (two f 21)) (nI (f.getD 23 0))) (MrOk σ i (hrO f now own true L)) := by
  have hB := hW.bl
  have hL := hW.lt (by omega)
  have hid := hW.1.1
  have hb := h46.by
  have hl : 26 ≤ f.length := by have := hok.1; have := hok.2.1; omega
  have hl2 : f.length = f.getD 23 0 + 26 := by have := hok.1; have := hok.2.1; have := hok.2.2.2.2.1; omega
  have hm := two_lt hb 21
  have b24 := hb 24
  have t24 := two_lt hb 24
  have hsz := formR_szs hform
  have hs : szs f := ⟨hsz.1, hsz.2.1, hsz.2.2.1, hsz.2.2.2.1⟩
  have hset := hsz.2.2.2.2
  have c130 : (nI (two f 21) = 130) ↔ two f 21 = 130 := nI_eq (b := 130) (by omega) (by omega)
  have c224 : (nI (two f 21) = 224) ↔ two f 21 = 224 := nI_eq (b := 224) (by omega) (by omega)
  have c240 : (nI (two f 21) = 240) ↔ two f 21 = 240 := nI_eq (b := 240) (by omega) (by omega)
  unfold F_X7_set_L142
  obtain ⟨b, hbq, hbv⟩ := m_mayBe hM hi hW h46 hok hs hset
  refine Ok.eq hbq ?_
  dsimp only
  rcases hbv with ⟨hmay, rfl⟩ | ⟨hmay, rfl⟩
  rotate_left
  · refine Ok.tt rfl ?_
    rw [bs, hrO_val hform (valR_no hset hmay)]
    exact (m_refuse (r := 6) hM hi hB hL hid h46 (by omega) h48 (by omega) (by omega)).mo (fun τ hτ => ⟨hM.fr hB hτ.2 (fun q j h1 h2 => lpl_pw h1 h2), hτ.1, hτ.2.mo (fun a b h => Or.inr h)⟩)
  refine Ok.ff (by decide) ?_
  by_cases e130 : two f 21 = 130
  · refine Ok.tt (c130.mpr e130) ?_
    rw [bs]
    exact m_setLabel hM hi hW hn h46 hok h48 h21 hg (hsz.1 e130) e130 hform hmay
  refine Ok.ff (fun h => e130 (c130.mp h)) ?_
  have hv := valR_yes (own := own) hmay (fun h => e130 h.1)
  rw [hrO_ob hform hv]
  have hWo : Wl o now 3 (obL L now own f) := obL_wl hW hok hb hs hv
  have fin : ∀ τ, ML τ i (obL L now own f) → Fr (lpl i) σ τ → Ok (F_X7_set_L247 τ (nI i) (bI own) (nI (two f 21))) (MrOk σ i (obL L now own f, if own = true then (if two f 21 = 130 then rp f (obL L now own f) 1 49 130 [0, 3] else rp f (obL L now own f) 0 49 (two f 21) []) else [])) := by
    intro τ g1 g2
    have k46 : Mw τ 46 23 f := h46.fr g2 (fun h => by have := lpl_lt h; omega) (fun j h => by have := lpl_lt h; omega)
    have k48 : Mw τ 48 27 [] := h48.fr g2 (fun h => by have := lpl_lt h; omega) (fun j h => by have := lpl_lt h; omega)
    unfold F_X7_set_L247
    cases own with
    | false => exact Ok.tt rfl (Ok.so ⟨g1, k48, g2.mo (fun a b h => Or.inl h)⟩)
    | true =>
      refine Ok.ff (by decide) ?_
      refine (m_reply0 (kind := 0) (grp := 49) (mat := two f 21) g1 hi hWo.bl (hWo.lt (by omega)) hWo.1.1 k46 (by omega) k48 (by decide) (by decide) hm).mo (fun ρ hρ => ⟨g1.fr hWo.bl hρ.2 (fun q j h1 h2 => lpl_pw h1 h2), ?_, (g2.mo (fun a b h => Or.inl h)).t (hρ.2.mo (fun a b h => Or.inr h))⟩)
      rw [if_pos rfl, if_neg e130]; exact hρ.1
  by_cases e224 : two f 21 = 224
  · refine Ok.tt (c224.mpr e224) ?_
    have ho : obL L now own f = su L 9 (f.getD 24 0) := by unfold obL; rw [if_neg e130, if_pos e224]
    have h1 := hsz.2.1 e224
    refine Ok.eq (m_at h46 (k := 24) (by omega)) ?_
    refine Ok.gd (show ib (nI i) (ln 32) = true from ib_nI (show i < 24 from hi) (by decide)) (Ok.nm ?_)
    rw [nI_clamp (by omega)]
    exact fin _ (by rw [ho]; exact hM.sv (by decide)) (Fr.sI (by unfold lpl; omega))
  refine Ok.ff (fun h => e224 (c224.mp h)) ?_
  by_cases e240 : two f 21 = 240
  · refine Ok.tt (c240.mpr e240) ?_
    have ho : obL L now own f = su L 10 (two f 24) := by unfold obL; rw [if_neg e130, if_neg e224, if_pos e240]
    have h1 := hsz.2.2.1 e240
    refine Ok.eq (m_two h46 (k := 24) (by omega)) ?_
    refine Ok.gd (show ib (nI i) (ln 33) = true from ib_nI (show i < 24 from hi) (by decide)) (Ok.nm ?_)
    rw [nI_clamp (by omega)]
    exact fin _ (by rw [ho]; exact hM.sv (by decide)) (Fr.sI (by unfold lpl; omega))
  refine Ok.ff (fun h => e240 (c240.mp h)) ?_
  have e4096 : two f 21 = 4096 := by omega
  have ho : obL L now own f = su L 12 (if f.getD 24 0 = 1 then 1 else 0) := by unfold obL; rw [if_neg e130, if_neg e224, if_neg e240, if_pos e4096]
  have h1 := hsz.2.2.2.1 e4096
  refine Ok.eq (m_at h46 (k := 24) (by omega)) ?_
  dsimp only
  unfold F_X7_set_L246
  by_cases h2 : f.getD 24 0 = 1
  · refine Ok.tt (by rw [h2]; rfl) ?_
    refine Ok.gd (show ib (nI i) (ln 35) = true from ib_nI (show i < 24 from hi) (by decide)) (Ok.nm ?_)
    rw [nI_clamp (by omega), vn1]
    exact fin _ (by rw [ho, if_pos h2]; exact hM.sv (v := 1) (by decide)) (Fr.sI (by unfold lpl; omega))
  · refine Ok.ff (fun h => h2 ((nI_eq (b := 1) (by omega) (by omega)).mp h)) ?_
    refine Ok.gd (show ib (nI i) (ln 35) = true from ib_nI (show i < 24 from hi) (by decide)) (Ok.nm ?_)
    rw [nI_clamp (by omega), vn0]
    exact fin _ (by rw [ho, if_neg h2]; exact hM.sv (v := 0) (by decide)) (Fr.sI (by unfold lpl; omega))
theorem m_set {σ : St} {i o now : Nat} {L : Lp} {f : List Nat} {own : Bool} (hM : ML σ i L) (hi : i < 24) (hW : Wl o now 2 L) (hn : now + 3 < 2 ^ 31) (h46 : Mw σ 46 23 f) (hok : pkOk f) (h48 : Mw σ 48 27 []) (h21 : σ.1 27 21 = nI now) (hg : f.getD 20 0 = 48) : Ok (F_X7_set σ (nI i) (bI own)) (MrOk σ i (hrO f now own true L)) := by
  have hB := hW.bl
  have hL := hW.lt (by omega)
  have hid := hW.1.1
  have hb := h46.by
  have hl : 26 ≤ f.length := by have := hok.1; have := hok.2.1; omega
  have hm := two_lt hb 21
  have ht := two_lt hb 18
  have b23 := hb 23
  have c130 : (nI (two f 21) = 130) ↔ two f 21 = 130 := nI_eq (b := 130) (by omega) (by omega)
  have c240 : (nI (two f 21) = 240) ↔ two f 21 = 240 := nI_eq (b := 240) (by omega) (by omega)
  have c80 : (nI (two f 21) = 80) ↔ two f 21 = 80 := nI_eq (b := 80) (by omega) (by omega)
  have c96 : (nI (two f 21) = 96) ↔ two f 21 = 96 := nI_eq (b := 96) (by omega) (by omega)
  have c128 : (nI (two f 21) = 128) ↔ two f 21 = 128 := nI_eq (b := 128) (by omega) (by omega)
  have c32 : (nI (two f 21) = 32) ↔ two f 21 = 32 := nI_eq (b := 32) (by omega) (by omega)
  have t0 : (nI (two f 18) = 0) ↔ two f 18 = 0 := nI_eq (b := 0) (by omega) (by omega)
  have t6 : (nI (two f 18) = 65535) ↔ two f 18 = 65535 := nI_eq (b := 65535) (by omega) (by omega)
  have n1 : (nI (f.getD 23 0) = 1) ↔ f.getD 23 0 = 1 := nI_eq (b := 1) (by omega) (by omega)
  have n2 : (nI (f.getD 23 0) = 2) ↔ f.getD 23 0 = 2 := nI_eq (b := 2) (by omega) (by omega)
  have ref : ∀ r, r < 10 → formR (two f 18) (two f 21) true (f.getD 23 0) = some r → Ok ((F_X7_refuse σ (nI i) (bI own) (nI r)).bind (fun y => some y)) (MrOk σ i (hrO f now own true L)) := by
    intro r hr hf
    rw [bs, hrO_some hf]
    exact (m_refuse hM hi hB hL hid h46 (by omega) h48 hr (by omega)).mo (fun τ hτ => ⟨hM.fr hB hτ.2 (fun q j h1 h2 => lpl_pw h1 h2), hτ.1, hτ.2.mo (fun a b h => Or.inr h)⟩)
  have go := fun hf => m_s142 (own := own) hM hi hW hn h46 hok h48 h21 hg hf
  have L46 : (two f 18 = 0 ∨ two f 18 = 65535) → Ok (F_X7_set_L46 σ (nI i) (bI own) (nI (two f 21)) (nI (f.getD 23 0))) (MrOk σ i (hrO f now own true L)) := by
    intro hp
    have hp' : ¬ (two f 18 ≠ 0 ∧ ¬ (true = true ∧ two f 18 = 65535)) := fun h => by
      rcases hp with h9 | h9
      · exact h.1 h9
      · exact h.2 ⟨rfl, h9⟩
    unfold F_X7_set_L46
    refine Ok.eq (m_isM hm) ?_
    dsimp only
    by_cases hM8 : isM (two f 21)
    · rw [if_pos hM8]
      refine Ok.ff (by decide) ?_
      have r5 : two f 21 ≠ 130 → two f 21 ≠ 224 → two f 21 ≠ 240 → two f 21 ≠ 4096 → Ok (F_X7_set_L88 σ (nI i) (bI own)) (MrOk σ i (hrO f now own true L)) := by
        intro a1 a2 a3 a4
        unfold F_X7_set_L88
        refine ref 5 (by omega) ?_
        unfold formR
        rw [if_neg hp', if_neg (not_not_intro hM8), if_neg (by decide), if_neg a1, if_neg a2, if_neg a3, if_neg a4]
      by_cases e80 : two f 21 = 80
      · exact Ok.tt (c80.mpr e80) (r5 (by omega) (by omega) (by omega) (by omega))
      refine Ok.ff (fun h => e80 (c80.mp h)) ?_
      by_cases e96 : two f 21 = 96
      · exact Ok.tt (c96.mpr e96) (r5 (by omega) (by omega) (by omega) (by omega))
      refine Ok.ff (fun h => e96 (c96.mp h)) ?_
      by_cases e128 : two f 21 = 128
      · exact Ok.tt (c128.mpr e128) (r5 (by omega) (by omega) (by omega) (by omega))
      refine Ok.ff (fun h => e128 (c128.mp h)) ?_
      by_cases e32 : two f 21 = 32
      · exact Ok.tt (c32.mpr e32) (r5 (by omega) (by omega) (by omega) (by omega))
      refine Ok.ff (fun h => e32 (c32.mp h)) ?_
      unfold F_X7_set_L129 F_X7_set_L132
      by_cases e130 : two f 21 = 130
      · refine Ok.tt (c130.mpr e130) ?_
        by_cases hs : f.getD 23 0 ≤ 32
        · refine Ok.tt (show _ ≤ (32 : Int32) from nI_le (b := 32) hs (by decide)) (go ?_)
          unfold formR
          rw [if_neg hp', if_neg (not_not_intro hM8), if_neg (by decide), if_pos e130, if_pos hs]
        · refine Ok.ff (show ¬ _ ≤ (32 : Int32) from nI_ge (a := 32) (by omega) (by omega)) (ref 1 (by omega) ?_)
          unfold formR
          rw [if_neg hp', if_neg (not_not_intro hM8), if_neg (by decide), if_pos e130, if_neg hs]
      refine Ok.ff (fun h => e130 (c130.mp h)) ?_
      by_cases e240 : two f 21 = 240
      · refine Ok.tt (c240.mpr e240) ?_
        by_cases hs : f.getD 23 0 = 2
        · refine Ok.tt (n2.mpr hs) (go ?_)
          unfold formR
          rw [if_neg hp', if_neg (not_not_intro hM8), if_neg (by decide), if_neg e130, if_neg (by omega), if_pos e240, if_pos hs]
        · refine Ok.ff (fun h => hs (n2.mp h)) (ref 1 (by omega) ?_)
          unfold formR
          rw [if_neg hp', if_neg (not_not_intro hM8), if_neg (by decide), if_neg e130, if_neg (by omega), if_pos e240, if_neg hs]
      refine Ok.ff (fun h => e240 (c240.mp h)) ?_
      by_cases hs : f.getD 23 0 = 1
      · refine Ok.tt (n1.mpr hs) (go ?_)
        unfold formR
        rw [if_neg hp', if_neg (not_not_intro hM8), if_neg (by decide), if_neg e130]
        by_cases e224 : two f 21 = 224
        · rw [if_pos e224, if_pos hs]
        · rw [if_neg e224, if_neg e240, if_pos (by omega), if_pos hs]
      · refine Ok.ff (fun h => hs (n1.mp h)) (ref 1 (by omega) ?_)
        unfold formR
        rw [if_neg hp', if_neg (not_not_intro hM8), if_neg (by decide), if_neg e130]
        by_cases e224 : two f 21 = 224
        · rw [if_pos e224, if_neg hs]
        · rw [if_neg e224, if_neg e240, if_pos (by omega), if_neg hs]
    · rw [if_neg hM8]
      refine Ok.tt rfl ?_
      refine ref 0 (by omega) ?_
      unfold formR
      rw [if_neg hp', if_pos hM8]
  unfold F_X7_set
  refine Ok.eq (m_two h46 (k := 21) (by omega)) ?_
  refine Ok.eq (m_at h46 (k := 23) (by omega)) ?_
  refine Ok.eq (m_two h46 (k := 18) (by omega)) ?_
  dsimp only
  by_cases e0 : two f 18 = 0
  · exact Ok.tt (t0.mpr e0) (L46 (Or.inl e0))
  refine Ok.ff (fun h => e0 (t0.mp h)) ?_
  by_cases e6 : two f 18 = 65535
  · exact Ok.tt (t6.mpr e6) (L46 (Or.inr e6))
  refine Ok.ff (fun h => e6 (t6.mp h)) ?_
  refine ref 9 (by omega) ?_
  unfold formR
  rw [if_pos ⟨e0, fun h => e6 h.2⟩]
theorem m_hearS {σ : St} {i o now : Nat} {L : Lp} {f : List Nat} {own : Bool} (hM : ML σ i L) (hi : i < 24) (hW : Wl o now 2 L) (hn : now + 3 < 2 ^ 31) (h46 : Mw σ 46 23 f) (hok : pkOk f) (h48 : Mw σ 48 27 []) : Ok (F_X7_hearSearch σ (nI i) (bI own)) (MrOk σ i (hrS f own L)) := by
  have hB := hW.bl
  have hL := hW.lt (by omega)
  have hid := hW.1.1
  have h11 := hW.2.2.2.2.1
  have hb := h46.by
  have hl : 26 ≤ f.length := by have := hok.1; have := hok.2.1; omega
  have hl2 : f.length = f.getD 23 0 + 26 := by have := hok.1; have := hok.2.1; have := hok.2.2.2.2.1; omega
  have hm := two_lt hb 21
  have b23 := hb 23
  have m1 : (nI (two f 21) = 1) ↔ two f 21 = 1 := nI_eq (b := 1) (by omega) (by omega)
  have m2 : (nI (two f 21) = 2) ↔ two f 21 = 2 := nI_eq (b := 2) (by omega) (by omega)
  have m3 : (nI (two f 21) = 3) ↔ two f 21 = 3 := nI_eq (b := 3) (by omega) (by omega)
  have n12 : (nI (f.getD 23 0) = 12) ↔ f.getD 23 0 = 12 := nI_eq (b := 12) (by omega) (by omega)
  have n0 : (nI (f.getD 23 0) = 0) ↔ f.getD 23 0 = 0 := nI_eq (b := 0) (by omega) (by omega)
  have none_ : Ok (some σ) (MrOk σ i (L, [])) := Ok.so ⟨hM, h48, Fr.rf⟩
  have L76 : ¬ (two f 21 = 1 ∧ f.getD 23 0 = 12) → Ok (F_X7_hearSearch_L76 σ (nI i) (bI own) (nI (two f 21)) (nI (f.getD 23 0))) (MrOk σ i (hrS f own L)) := by
    intro hno
    have e0 : hrS f own L = if (two f 21 = 2 ∨ two f 21 = 3) ∧ f.getD 23 0 = 0 then (su L 11 (if two f 21 = 2 then 1 else 0), if own = true then rp f L 0 17 (two f 21) [0, 0] else []) else (L, []) := by unfold hrS; rw [if_neg hno]
    rw [e0]
    have fin : ∀ v : Nat, ∀ z : Int32, vp_nar .boolean z = nI v → v = (if two f 21 = 2 then 1 else 0) → Ok (F_X7_hearSearch_L106 σ (nI i) (bI own) (nI (two f 21)) z (nI i)) (MrOk σ i (su L 11 (if two f 21 = 2 then 1 else 0), if own = true then rp f L 0 17 (two f 21) [0, 0] else [])) := by
      intro v z hz hv
      rw [← hv]
      unfold F_X7_hearSearch_L106
      refine Ok.gd (show ib (nI i) (ln 34) = true from ib_nI (show i < 24 from hi) (by decide)) (Ok.nm ?_)
      rw [nI_clamp (by omega), hz]
      have g1 : ML (sI σ 34 i (nI v)) i (su L 11 v) := hM.sv (by decide)
      have g2 : Fr (lpl i) σ (sI σ 34 i (nI v)) := Fr.sI (by unfold lpl; omega)
      have k46 : Mw (sI σ 34 i (nI v)) 46 23 f := h46.fr g2 (fun h => by have := lpl_lt h; omega) (fun j h => by have := lpl_lt h; omega)
      have k48 : Mw (sI σ 34 i (nI v)) 48 27 [] := h48.fr g2 (fun h => by have := lpl_lt h; omega) (fun j h => by have := lpl_lt h; omega)
      generalize sI σ 34 i (nI v) = τ at *
      cases own with
      | false => exact Ok.tt rfl (Ok.so ⟨g1, k48, g2.mo (fun a b h => Or.inl h)⟩)
      | true =>
        refine Ok.ff (by decide) ?_
        have hBs : Bl (su L 11 v) := hB
        have hLs : Lt (su L 11 v) := hL
        refine (m_reply (kind := 0) (grp := 17) (mat := two f 21) (d := [0, 0]) (mid := fun y => F_X7_putTwo y 0) g1 hi hBs hLs hid k46 (by omega) k48 (by decide) (by decide) hm (by decide) (fun ρ h1 h2 => ?_)).mo (fun ρ hρ => ⟨g1.fr hBs hρ.2 (fun q j h1 h2 => lpl_pw h1 h2), hρ.1, (g2.mo (fun a b h => Or.inl h)).t (hρ.2.mo (fun a b h => Or.inr h))⟩)
        have := rtwo (k := fun y => some y) (P := fun ρ => Mw ρ 48 27 (pz (six f 9) ((su L 11 v).1 0) (f.getD 15 0) 0 (two f 18) 17 (two f 21) ++ [0, 0]) ∧ Fr pw τ ρ) (σ0 := τ) (x := 0) (by omega) h2 h1 (by rw [pz_len]; omega) (fun ρ g1 g2 => Ok.so ⟨g1, g2⟩)
        rw [bs] at this
        exact this
    have L86 : (two f 21 = 2 ∨ two f 21 = 3) → Ok (F_X7_hearSearch_L86 σ (nI i) (bI own) (nI (two f 21)) (nI (f.getD 23 0))) (MrOk σ i (if (two f 21 = 2 ∨ two f 21 = 3) ∧ f.getD 23 0 = 0 then (su L 11 (if two f 21 = 2 then 1 else 0), if own = true then rp f L 0 17 (two f 21) [0, 0] else []) else (L, []))) := by
      intro h23
      unfold F_X7_hearSearch_L86
      by_cases h0 : f.getD 23 0 = 0
      · refine Ok.tt (n0.mpr h0) ?_
        rw [if_pos (show (two f 21 = 2 ∨ two f 21 = 3) ∧ f.getD 23 0 = 0 from ⟨h23, h0⟩)]
        by_cases h2 : two f 21 = 2
        · exact Ok.tt (m2.mpr h2) (fin 1 1 vn1 (by rw [if_pos h2]))
        · exact Ok.ff (fun h => h2 (m2.mp h)) (fin 0 0 vn0 (by rw [if_neg h2]))
      · refine Ok.ff (fun h => h0 (n0.mp h)) ?_
        rw [if_neg (show ¬ ((two f 21 = 2 ∨ two f 21 = 3) ∧ f.getD 23 0 = 0) from fun h => h0 h.2)]
        exact none_
    unfold F_X7_hearSearch_L76
    by_cases h2 : two f 21 = 2
    · exact Ok.tt (m2.mpr h2) (L86 (Or.inl h2))
    refine Ok.ff (fun h => h2 (m2.mp h)) ?_
    by_cases h3 : two f 21 = 3
    · exact Ok.tt (m3.mpr h3) (L86 (Or.inr h3))
    refine Ok.ff (fun h => h3 (m3.mp h)) ?_
    rw [if_neg (by omega)]
    exact none_
  unfold F_X7_hearSearch
  refine Ok.eq (m_two h46 (k := 21) (by omega)) ?_
  refine Ok.eq (m_at h46 (k := 23) (by omega)) ?_
  dsimp only
  by_cases e1 : two f 21 = 1
  · refine Ok.tt (m1.mpr e1) ?_
    by_cases e12 : f.getD 23 0 = 12
    · refine Ok.tt (n12.mpr e12) ?_
      have s24 := six_lt hb 24
      have s30 := six_lt hb 30
      refine Ok.eq (m_ownId hM hi hid) ?_
      refine Ok.gd (show ib (nI i) (ln 34) = true from ib_nI (show i < 24 from hi) (by decide)) ?_
      dsimp only
      rw [nI_clamp (by omega), hM.sc 34 11 (by decide)]
      unfold hrS
      rw [if_pos (show two f 21 = 1 ∧ f.getD 23 0 = 12 from ⟨e1, e12⟩)]
      by_cases h0 : L.1 11 = 0
      · refine Ok.tt (by rw [h0]; rfl) ?_
        refine Ok.eq (m_six h46 (u := 24) (by omega)) ?_
        dsimp only
        by_cases c1 : L.1 0 < six f 24
        · refine Ok.tt (cm_lt.mpr ((pk_lLT (by omega) (by omega)).mpr c1)) ?_
          rw [if_neg (by omega)]
          exact none_
        refine Ok.ff (fun h => c1 ((pk_lLT (by omega) (by omega)).mp (cm_lt.mp h))) ?_
        refine Ok.eq (m_six h46 (u := 30) (by omega)) ?_
        dsimp only
        by_cases c2 : six f 30 < L.1 0
        · refine Ok.tt (cm_gt.mpr ((pk_lLT (by omega) (by omega)).mpr c2)) ?_
          rw [if_neg (by omega)]
          exact none_
        refine Ok.ff (fun h => c2 ((pk_lLT (by omega) (by omega)).mp (cm_gt.mp h))) ?_
        rw [if_pos ⟨h0, by omega, by omega⟩, bs]
        exact (m_show (by omega)).mo (fun τ hτ => ⟨hM.fr hB hτ.2 (fun q j h1 h2 => lpl_pw h1 h2), hτ.1, hτ.2.mo (fun a b h => Or.inr h)⟩)
      · refine Ok.ff (nI_ne0 (by omega) (by omega)) ?_
        rw [if_neg (by omega)]
        exact none_
    · exact Ok.ff (fun h => e12 (n12.mp h)) (L76 (by omega))
  · exact Ok.ff (fun h => e1 (m1.mp h)) (L76 (by omega))
theorem m_hear {σ : St} {i o now : Nat} {L : Lp} {f : List Nat} {own : Bool} (hM : ML σ i L) (hi : i < 24) (hW : Wl o now 2 L) (ho : o + 1 ≤ 1000) (hn : now + 3 < 2 ^ 31) (h46 : Mw σ 46 23 f) (hok : pkOk f) (h48 : Mw σ 48 27 []) (h21 : σ.1 27 21 = nI now) : Ok (F_X7_hear σ (nI i) (bI own)) (MrOk σ i (hr f now own L)) := by
  have hb := h46.by
  have hl : 26 ≤ f.length := by have := hok.1; have := hok.2.1; omega
  have b20 := hb 20
  have m16 : (nI (f.getD 20 0) = 16) ↔ f.getD 20 0 = 16 := nI_eq (b := 16) (by omega) (by omega)
  have m32 : (nI (f.getD 20 0) = 32) ↔ f.getD 20 0 = 32 := nI_eq (b := 32) (by omega) (by omega)
  have m48 : (nI (f.getD 20 0) = 48) ↔ f.getD 20 0 = 48 := nI_eq (b := 48) (by omega) (by omega)
  have hsu : Wl (o + 1) now 2 (su L 13 (L.1 13 + 1)) := by
    obtain ⟨w1, w2, w3, w4, w5, w6, w7, w8, w9, w10, w11, w12, w13⟩ := hW
    exact ⟨w1, w2, w3, w4, w5, w6, by rw [su_eq]; omega, w8, w9, w10, w11, w12, w13⟩
  have g1 : ML (sI σ 38 i (nI (L.1 13 + 1))) i (su L 13 (L.1 13 + 1)) := hM.sv (by decide)
  have g2 : Fr (lpl i) σ (sI σ 38 i (nI (L.1 13 + 1))) := Fr.sI (by unfold lpl; omega)
  have k46 : Mw (sI σ 38 i (nI (L.1 13 + 1))) 46 23 f := h46.fr g2 (fun h => by have := lpl_lt h; omega) (fun j h => by have := lpl_lt h; omega)
  have k48 : Mw (sI σ 38 i (nI (L.1 13 + 1))) 48 27 [] := h48.fr g2 (fun h => by have := lpl_lt h; omega) (fun j h => by have := lpl_lt h; omega)
  have k21 : (sI σ 38 i (nI (L.1 13 + 1))).1 27 21 = nI now := by rw [sI_nk (by decide)]; exact h21
  have up : ∀ R, ∀ τ, MrOk (sI σ 38 i (nI (L.1 13 + 1))) i R τ → MrOk σ i R τ := fun R τ h => ⟨h.1, h.2.1, (g2.mo (fun a b h => Or.inl h)).t h.2.2⟩
  unfold F_X7_hear hr
  refine Ok.eq (m_at h46 (k := 20) (by omega)) ?_
  dsimp only
  by_cases e16 : f.getD 20 0 = 16
  · refine Ok.tt (m16.mpr e16) ?_
    rw [if_pos e16, bs]
    exact m_hearS hM hi hW hn h46 hok h48
  refine Ok.ff (fun h => e16 (m16.mp h)) ?_
  rw [if_neg e16]
  by_cases e32 : f.getD 20 0 = 32
  · refine Ok.tt (m32.mpr e32) ?_
    rw [if_pos e32]
    cases own with
    | false => exact Ok.tt rfl (Ok.so ⟨hM, h48, Fr.rf⟩)
    | true =>
      refine Ok.ff (by decide) ?_
      refine Ok.gd (show ib (nI i) (ln 38) = true from ib_nI (show i < 24 from hi) (by decide)) (Ok.gd (show ib (nI i) (ln 38) = true from ib_nI (show i < 24 from hi) (by decide)) (Ok.nm ?_))
      rw [nI_clamp (by omega), hM.sc 38 13 (by decide), nI_1, bs, if_pos rfl]
      exact (m_get g1 hi hsu ho (by omega) k46 hok k48 e32).mo (fun τ h => up _ τ h)
  refine Ok.ff (fun h => e32 (m32.mp h)) ?_
  rw [if_neg e32]
  by_cases e48 : f.getD 20 0 = 48
  · refine Ok.tt (m48.mpr e48) ?_
    rw [if_pos e48]
    unfold F_X7_hear_L97
    cases own with
    | false =>
      refine Ok.tt rfl (Ok.gd (show ib (nI i) (ln 38) = true from ib_nI (show i < 24 from hi) (by decide)) (Ok.gd (show ib (nI i) (ln 38) = true from ib_nI (show i < 24 from hi) (by decide)) (Ok.nm ?_)))
      have hs : sI σ 38 i (σ.1 38 i) = σ := sI_id
      rw [nI_clamp (by omega), hs, bs, if_neg (by decide)]
      exact m_set (own := false) hM hi hW hn h46 hok h48 h21 e48
    | true =>
      refine Ok.ff (by decide) (Ok.gd (show ib (nI i) (ln 38) = true from ib_nI (show i < 24 from hi) (by decide)) (Ok.gd (show ib (nI i) (ln 38) = true from ib_nI (show i < 24 from hi) (by decide)) (Ok.nm ?_)))
      rw [nI_clamp (by omega), hM.sc 38 13 (by decide), nI_1, bs, if_pos rfl]
      exact (m_set (own := true) g1 hi hsu hn k46 hok k48 k21 e48).mo (fun τ h => up _ τ h)
  refine Ok.ff (fun h => e48 (m48.mp h)) ?_
  rw [if_neg e48]
  exact Ok.so ⟨hM, h48, Fr.rf⟩
