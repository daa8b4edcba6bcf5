/-! ===== PURE: the model's SET and SEARCH ===== -/
theorem m_in {σ : St} {x a b : Int64} : F_X7_in σ x a b = some (σ, if a ≤ x ∧ x ≤ b then 1 else 0) := by
  unfold F_X7_in
  by_cases h1 : x < a
  · rw [if_pos (cm_lt.mpr h1), if_neg]
    rintro ⟨h2, -⟩
    rw [Int64.lt_iff_toInt_lt] at h1
    rw [Int64.le_iff_toInt_le] at h2
    omega
  · rw [if_neg (fun h => h1 (cm_lt.mp h))]
    have h1' : a ≤ x := by rw [Int64.le_iff_toInt_le]; rw [Int64.lt_iff_toInt_lt] at h1; omega
    by_cases h2 : b < x
    · rw [if_pos (cm_gt.mpr h2), if_neg]
      rintro ⟨-, h3⟩
      rw [Int64.lt_iff_toInt_lt] at h2
      rw [Int64.le_iff_toInt_le] at h3
      omega
    · rw [if_neg (fun h => h2 (cm_gt.mp h)), if_pos]
      refine ⟨h1', ?_⟩
      rw [Int64.le_iff_toInt_le]; rw [Int64.lt_iff_toInt_lt] at h2; omega
theorem m_inN {σ : St} {x a b : Nat} (hx : x < 2 ^ 63) (ha : a < 2 ^ 63) (hb : b < 2 ^ 63) : F_X7_in σ (lN x) (lN a) (lN b) = some (σ, if a ≤ x ∧ x ≤ b then 1 else 0) := by
  rw [m_in]
  by_cases h : a ≤ x ∧ x ≤ b
  · rw [if_pos h, if_pos ⟨(pk_lLE ha hx).mpr h.1, (pk_lLE hx hb).mpr h.2⟩]
  · rw [if_neg h, if_neg (fun h9 => h ⟨(pk_lLE ha hx).mp h9.1, (pk_lLE hx hb).mp h9.2⟩)]
theorem m_mbL {σ : St} {f : List Nat} {n : Nat} {K : St → Int32 → Option (St × Int32)} (h46 : Mw σ 46 23 f) (hl : 24 + n ≤ f.length) : ∀ (m fz k : Nat) (may : Bool), m < fz → k + m = n → F_X7_mayBe_L13 K fz σ (nI n) (bI may) (nI k) = K σ (bI (may && okB f (24 + k) m)) := by
  have hb := h46.by
  have hl5 := h46.2.1
  rw [show ln 46 = 513 from rfl] at hl5
  intro m
  induction m with
  | zero =>
    intro fz k may hf hk
    cases fz with
    | zero => omega
    | succ fz =>
      unfold F_X7_mayBe_L13
      rw [if_pos (nI_le (by omega) (by omega))]
      show K σ (bI may) = K σ (bI (may && true))
      rw [Bool.and_true]
  | succ m ih =>
    intro fz k may hf hk
    cases fz with
    | zero => omega
    | succ fz =>
      have hbk := hb (24 + k)
      unfold F_X7_mayBe_L13
      rw [if_neg (nI_ge (by omega) (by omega)), nI_1]
      have e0 := ih fz (k + 1) false (by omega) (by omega)
      have e1 := ih fz (k + 1) true (by omega) (by omega)
      rw [show bI false = 0 from rfl, Bool.false_and] at e0
      rw [show bI true = 1 from rfl, Bool.true_and] at e1
      show _ = K σ (bI (may && (decide (32 ≤ f.getD (24 + k) 0 ∧ f.getD (24 + k) 0 ≤ 126) && okB f (24 + k + 1) m)))
      cases may with
      | false => rw [if_pos (show bI false = 0 from rfl), e0, Bool.false_and]
      | true =>
        rw [if_neg (show ¬ bI true = 0 by decide), Bool.true_and, show (24 : Int32) + nI k = nI (24 + k) from nI_add 24 k, bd_eq (m_at h46 (by omega))]
        dsimp only
        rw [nI_l (by omega), show (32 : Int64) = lN 32 from rfl, show (126 : Int64) = lN 126 from rfl, m_inN (by omega) (by decide) (by decide)]
        simp only [Option.bind_some]
        by_cases h : 32 ≤ f.getD (24 + k) 0 ∧ f.getD (24 + k) 0 ≤ 126
        · rw [if_pos h, if_neg (by decide), e1, decide_eq_true h, Bool.true_and]; rfl
        · rw [if_neg h, if_pos rfl, e0, decide_eq_false h, Bool.false_and]
/-- a value that may be -/
def mayV (L : Lp) (f : List Nat) : Prop :=
  if two f 21 = 130 then okB f 24 (f.getD 23 0) = true
  else if two f 21 = 224 then 1 ≤ f.getD 24 0 ∧ f.getD 24 0 ≤ L.1 2 ∧ L.1 10 + L.1 1 * f.getD 24 0 ≤ 513
  else if two f 21 = 240 then 1 ≤ two f 24 ∧ two f 24 ≤ 512 ∧ two f 24 + L.1 1 * L.1 9 ≤ 513
  else f.getD 24 0 ≤ 1
theorem m_mayBe {σ : St} {i o now x : Nat} {L : Lp} {f : List Nat} (hM : ML σ i L) (hi : i < 24) (hW : Wl o now x L) (h46 : Mw σ 46 23 f) (hok : pkOk f) (hs : szs f) (hset : two f 21 = 130 ∨ two f 21 = 224 ∨ two f 21 = 240 ∨ two f 21 = 4096) : ∃ b : Int32, F_X7_mayBe σ (nI i) (nI (two f 21)) (nI (f.getD 23 0)) = some (σ, b) ∧ ((mayV L f ∧ b = 1) ∨ (¬ mayV L f ∧ b = 0)) := by
  have hb := h46.by
  have hm := two_lt hb 21
  have h24 := hb 24
  have h25 := hb 25
  have ht := two_lt hb 24
  have hl := hok.2.1
  have hl0 := hok.1
  have h23 := hok.2.2.2.2.1
  have hfl := h46.2.1
  rw [show ln 46 = 513 from rfl] at hfl
  obtain ⟨-, w2, w3, w4, -⟩ := hW
  have c130 : (nI (two f 21) = 130) ↔ two f 21 = 130 := nI_eq (b := 130) (by omega) (by omega)
  have c224 : (nI (two f 21) = 224) ↔ two f 21 = 224 := nI_eq (b := 224) (by omega) (by omega)
  have c240 : (nI (two f 21) = 240) ↔ two f 21 = 240 := nI_eq (b := 240) (by omega) (by omega)
  unfold F_X7_mayBe mayV
  simp only [c130, c224, c240]
  by_cases e130 : two f 21 = 130
  · rw [if_pos e130, if_pos e130]
    have e := m_mbL (K := F_X7_mayBe_L59) h46 (n := f.getD 23 0) (by omega) (f.getD 23 0) fu 0 true (by unfold fu; omega) (by omega)
    rw [show (1 : Int32) = bI true from rfl, show (0 : Int32) = nI 0 from rfl, e, Bool.true_and, Nat.add_zero]
    unfold F_X7_mayBe_L59
    cases okB f 24 (f.getD 23 0) with
    | true => exact ⟨1, rfl, Or.inl ⟨rfl, rfl⟩⟩
    | false => exact ⟨0, rfl, Or.inr ⟨by decide, rfl⟩⟩
  rw [if_neg e130, if_neg e130]
  by_cases e224 : two f 21 = 224
  · rw [if_pos e224, if_pos e224]
    have hn := hs.2.1 e224
    have hmul : L.1 1 * f.getD 24 0 ≤ 64 * 255 := Nat.mul_le_mul (by omega) (by omega)
    rw [show (24 : Int32) = nI 24 from rfl, bd_eq (m_at h46 (by omega))]
    dsimp only
    rw [gd_t (show ib (nI i) (ln 31) = true from ib_nI (show i < 24 from hi) (by decide)), nI_clamp (by omega), hM.sc 31 2 (by decide), nI_l (by omega), nI_l (by omega), show (1 : Int64) = lN 1 from rfl, m_inN (by omega) (by decide) (by omega)]
    simp only [Option.bind_some]
    by_cases h1 : 1 ≤ f.getD 24 0 ∧ f.getD 24 0 ≤ L.1 2
    · rw [if_pos h1, if_neg (show ¬ (1 : Int32) = 0 by decide), gd_t (show ib (nI i) (ln 33) = true from ib_nI (show i < 24 from hi) (by decide)), gd_t (show ib (nI i) (ln 30) = true from ib_nI (show i < 24 from hi) (by decide)), bd_eq (m_at h46 (by omega))]
      dsimp only
      rw [hM.sc 33 10 (by decide), hM.sc 30 1 (by decide), pk_mul, nI_add]
      by_cases h2 : L.1 10 + L.1 1 * f.getD 24 0 ≤ 513
      · rw [if_neg (show ¬ (513 : Int32) < _ from nI_nlt (a := 513) h2 (by decide))]
        exact ⟨1, rfl, Or.inl ⟨⟨h1.1, h1.2, h2⟩, rfl⟩⟩
      · rw [if_pos (show (513 : Int32) < _ from nI_lt (a := 513) (by omega) (by omega))]
        exact ⟨0, rfl, Or.inr ⟨fun h => h2 h.2.2, rfl⟩⟩
    · rw [if_neg h1, if_pos rfl]
      exact ⟨0, rfl, Or.inr ⟨fun h => h1 ⟨h.1, h.2.1⟩, rfl⟩⟩
  rw [if_neg e224, if_neg e224]
  by_cases e240 : two f 21 = 240
  · rw [if_pos e240, if_pos e240]
    have hn := hs.2.2.1 e240
    rw [show (24 : Int32) = nI 24 from rfl, bd_eq (m_two h46 (by omega))]
    dsimp only
    rw [nI_l (by omega), show (1 : Int64) = lN 1 from rfl, show (512 : Int64) = lN 512 from rfl, m_inN (by omega) (by decide) (by decide)]
    simp only [Option.bind_some]
    by_cases h1 : 1 ≤ two f 24 ∧ two f 24 ≤ 512
    · rw [if_pos h1, if_neg (show ¬ (1 : Int32) = 0 by decide), bd_eq (m_two h46 (by omega))]
      dsimp only
      rw [bd_eq (m_foot hM hi)]
      dsimp only
      rw [nI_add]
      by_cases h2 : two f 24 + L.1 1 * L.1 9 ≤ 513
      · rw [if_neg (show ¬ (513 : Int32) < _ from nI_nlt (a := 513) h2 (by decide))]
        exact ⟨1, rfl, Or.inl ⟨⟨h1.1, h1.2, h2⟩, rfl⟩⟩
      · rw [if_pos (show (513 : Int32) < _ from nI_lt (a := 513) (by omega) (by omega))]
        exact ⟨0, rfl, Or.inr ⟨fun h => h2 h.2.2, rfl⟩⟩
    · rw [if_neg h1, if_pos rfl]
      exact ⟨0, rfl, Or.inr ⟨fun h => h1 ⟨h.1, h.2.1⟩, rfl⟩⟩
  rw [if_neg e240, if_neg e240]
  have hn := hs.2.2.2 (by omega)
  rw [show (24 : Int32) = nI 24 from rfl, bd_eq (m_at h46 (by omega))]
  dsimp only
  by_cases h1 : f.getD 24 0 ≤ 1
  · rw [if_neg (show ¬ (2 : Int32) ≤ _ from nI_ge (b := 2) (by omega) (by decide))]
    exact ⟨1, rfl, Or.inl ⟨h1, rfl⟩⟩
  · rw [if_pos (show (2 : Int32) ≤ _ from nI_le (a := 2) (by omega) (by omega))]
    exact ⟨0, rfl, Or.inr ⟨h1, rfl⟩⟩
theorem valR_no {L : Lp} {own : Bool} {f : List Nat} (hset : two f 21 = 130 ∨ two f 21 = 224 ∨ two f 21 = 240 ∨ two f 21 = 4096) (h : ¬ mayV L f) : valR L own f = some 6 := by
  unfold mayV at h
  unfold valR
  by_cases e130 : two f 21 = 130
  · rw [if_pos e130] at h ⊢
    rw [if_pos (by simpa using h)]
  rw [if_neg e130] at h ⊢
  by_cases e224 : two f 21 = 224
  · rw [if_pos e224] at h ⊢
    rw [if_neg h]
  rw [if_neg e224] at h ⊢
  by_cases e240 : two f 21 = 240
  · rw [if_pos e240] at h ⊢
    rw [if_neg h]
  rw [if_neg e240] at h ⊢
  rw [if_pos (show two f 21 = 4096 by omega), if_neg h]
theorem valR_yes {L : Lp} {own : Bool} {f : List Nat} (h : mayV L f) (h7 : ¬ (two f 21 = 130 ∧ own = true ∧ 4 ≤ L.1 8 + L.2.2.2.length)) : valR L own f = none := by
  unfold mayV at h
  unfold valR
  by_cases e130 : two f 21 = 130
  · rw [if_pos e130] at h ⊢
    rw [if_neg (by rw [h]; decide), if_neg (fun h9 => h7 ⟨e130, h9⟩)]
  rw [if_neg e130] at h ⊢
  by_cases e224 : two f 21 = 224
  · rw [if_pos e224] at h ⊢
    rw [if_pos h]
  rw [if_neg e224] at h ⊢
  by_cases e240 : two f 21 = 240
  · rw [if_pos e240] at h ⊢
    rw [if_pos h]
  rw [if_neg e240] at h ⊢
  by_cases e4096 : two f 21 = 4096
  · rw [if_pos e4096, if_pos h]
  · rw [if_neg e4096]
/-- bytes of the frame are copied -/
theorem m_sl1L {K : St → Int32 → Option St} {P : St → Prop} {i j2 n : Nat} {f : List Nat} {σ0 : St} (hj : j2 < 96) (hn : n ≤ 32) (hl : 24 + n ≤ f.length) (h46 : Mw σ0 46 23 f) (hK : ∀ τ, Fr (fun q j => q = 44 ∧ 32 * j2 ≤ j ∧ j < 32 * j2 + 32) σ0 τ → (∀ b, b < n → lo8 (τ.1 44 (32 * j2 + b)) = f.getD (24 + b) 0) → Ok (K τ (nI i)) P) : ∀ (m fz k : Nat) (σ : St), m < fz → k + m = n → Fr (fun q j => q = 44 ∧ 32 * j2 ≤ j ∧ j < 32 * j2 + 32) σ0 σ → (∀ b, b < k → lo8 (σ.1 44 (32 * j2 + b)) = f.getD (24 + b) 0) → Ok (F_X7_setLabel_L114 K fz σ (nI i) (nI n) (nI j2) (nI k)) P := by
  have hl5 := h46.2.1
  rw [show ln 46 = 513 from rfl] at hl5
  intro m
  induction m with
  | zero =>
    intro fz k σ hf hk he hc
    cases fz with
    | zero => omega
    | succ fz =>
      unfold F_X7_setLabel_L114
      refine Ok.tt (nI_le (by omega) (by omega)) ?_
      rw [show k = n by omega] at hc
      exact hK σ he hc
  | succ m ih =>
    intro fz k σ hf hk he hc
    cases fz with
    | zero => omega
    | succ fz =>
      unfold F_X7_setLabel_L114
      refine Ok.ff (nI_ge (by omega) (by omega)) ?_
      rw [show (24 : Int32) + nI k = nI (24 + k) from nI_add 24 k, show (32 : Int32) = nI 32 from rfl, pk_mul, nI_add, nI_1]
      refine Ok.gd (show ib (nI (24 + k)) (ln 46) = true from ib_nI (show 24 + k < 513 by omega) (by decide)) (Ok.gd (show ib (nI (32 * j2 + k)) (ln 44) = true from ib_nI (show 32 * j2 + k < 3072 by omega) (by decide)) (Ok.nm ?_))
      rw [nI_clamp (by omega), nI_clamp (by omega)]
      refine ih fz (k + 1) _ (by omega) (by omega) (he.t (Fr.sI ⟨rfl, by omega, by omega⟩)) (fun b hb => ?_)
      by_cases e : b = k
      · subst e; rw [sI_eq, lo8_nar, he.i (by omega)]; exact h46.2.2 _ (by omega)
      · rw [sI_nj (by omega)]; exact hc b (by omega)
theorem m_sl2L {K : St → Option St} {P : St → Prop} {i n : Nat} {f : List Nat} {σ0 : St} (hi : i < 24) (hn : n ≤ 32) (hl : 24 + n ≤ f.length) (h46 : Mw σ0 46 23 f) (hK : ∀ τ, Fr (fun q j => q = 37 ∧ 32 * i ≤ j ∧ j < 32 * i + 32) σ0 τ → (∀ b, b < n → lo8 (τ.1 37 (32 * i + b)) = f.getD (24 + b) 0) → Ok (K τ) P) : ∀ (m fz k : Nat) (σ : St), m < fz → k + m = n → Fr (fun q j => q = 37 ∧ 32 * i ≤ j ∧ j < 32 * i + 32) σ0 σ → (∀ b, b < k → lo8 (σ.1 37 (32 * i + b)) = f.getD (24 + b) 0) → Ok (F_X7_setLabel_L14 K fz σ (nI i) (nI n) (nI k)) P := by
  have hl5 := h46.2.1
  rw [show ln 46 = 513 from rfl] at hl5
  intro m
  induction m with
  | zero =>
    intro fz k σ hf hk he hc
    cases fz with
    | zero => omega
    | succ fz =>
      unfold F_X7_setLabel_L14
      refine Ok.tt (nI_le (by omega) (by omega)) ?_
      rw [show k = n by omega] at hc
      exact hK σ he hc
  | succ m ih =>
    intro fz k σ hf hk he hc
    cases fz with
    | zero => omega
    | succ fz =>
      unfold F_X7_setLabel_L14
      refine Ok.ff (nI_ge (by omega) (by omega)) ?_
      rw [show (24 : Int32) + nI k = nI (24 + k) from nI_add 24 k, show (32 : Int32) = nI 32 from rfl, pk_mul, nI_add, nI_1]
      refine Ok.gd (show ib (nI (24 + k)) (ln 46) = true from ib_nI (show 24 + k < 513 by omega) (by decide)) (Ok.gd (show ib (nI (32 * i + k)) (ln 37) = true from ib_nI (show 32 * i + k < 768 by omega) (by decide)) (Ok.nm ?_))
      rw [nI_clamp (by omega), nI_clamp (by omega)]
      refine ih fz (k + 1) _ (by omega) (by omega) (he.t (Fr.sI ⟨rfl, by omega, by omega⟩)) (fun b hb => ?_)
      by_cases e : b = k
      · subst e; rw [sI_eq, lo8_nar, he.i (by omega)]; exact h46.2.2 _ (by omega)
      · rw [sI_nj (by omega)]; exact hc b (by omega)
theorem m_setLabel {σ : St} {i o now : Nat} {L : Lp} {f : List Nat} {own : Bool} (hM : ML σ i L) (hi : i < 24) (hW : Wl o now 2 L) (hn : now + 3 < 2 ^ 31) (h46 : Mw σ 46 23 f) (hok : pkOk f) (h48 : Mw σ 48 27 []) (h21 : σ.1 27 21 = nI now) (hg : f.getD 20 0 = 48) (hs : f.getD 23 0 ≤ 32) (e130 : two f 21 = 130) (hform : formR (two f 18) (two f 21) true (f.getD 23 0) = none) (hmay : mayV L f) : Ok (F_X7_setLabel σ (nI i) (bI own) (nI (f.getD 23 0))) (MrOk σ i (hrO f now own true L)) := by
  have hB := hW.bl
  have hL := hW.lt (by omega)
  have hid := hW.1.1
  have hb4 := hB.2.1
  have hlen := dt_len hok
  have hl := hok.2.1
  have hl0 := hok.1
  have h23 := hok.2.2.2.2.1
  have hat : ∀ k, k < f.getD 23 0 → (dt f).getD k 0 = f.getD (24 + k) 0 := fun k hk => dt_at (by omega)
  unfold F_X7_setLabel
  cases own with
  | false =>
    refine Ok.tt rfl ?_
    refine Ok.gd (show ib (nI i) (ln 36) = true from ib_nI (show i < 24 from hi) (by decide)) (Ok.nm ?_)
    rw [nI_clamp (by omega)]
    have q0 : Fr (fun q j => q = 36 ∧ j = i) σ (sI σ 36 i (nI (f.getD 23 0))) := Fr.sI ⟨rfl, rfl⟩
    rw [hrO_ob hform (valR_yes hmay (fun h => absurd h.2.1 (by decide)))]
    have ho : obL L now false f = slab L (dt f) := by unfold obL; rw [if_pos e130]; rfl
    refine m_sl2L (σ0 := sI σ 36 i (nI (f.getD 23 0))) hi hs (by omega) (h46.fr q0 (by omega) (fun j => by omega)) (fun τ f1 f2 => ?_) (f.getD 23 0) fu 0 _ (by unfold fu; omega) (by omega) Fr.rf (fun b hb => by omega)
    have q1 : Fr (lpl i) σ τ := (q0.mo (fun a b h => by unfold lpl; omega)).t (f1.mo (fun a b h => by unfold lpl; omega))
    refine Ok.so ⟨?_, h48.fr q1 (fun h => by have := lpl_lt h; omega) (fun j h => by have := lpl_lt h; omega), q1.mo (fun a b h => Or.inl h)⟩
    show ML τ i (obL L now false f)
    rw [ho]
    obtain ⟨a1, a2, a3, ⟨a4, a5⟩, a6, a7, a8, a9⟩ := hM
    refine ⟨?_, ?_, fun e he => ?_, ⟨?_, fun k hk => ?_⟩, fun k hk => ?_, ?_, fun k hk => ?_, fun k hk => ?_⟩
    · rw [f1.i (by omega), q0.i (by omega)]; exact a1
    · rw [f1.l (by omega), q0.l (by omega)]; exact a2
    · have g1 := rjs_r e he
      rw [f1.i (by omega), q0.i (by omega)]; exact a3 e he
    · rw [f1.i (by omega), sI_eq]
      show _ = nI (dt f).length
      rw [hlen]
    · change k < (dt f).length at hk
      rw [hlen] at hk
      show _ = (dt f).getD k 0
      rw [f2 k hk, hat k hk]
    · rw [f1.i (by omega), q0.i (by omega)]; exact a6 k hk
    · rw [f1.i (by omega), q0.i (by omega)]; exact a7
    · rw [f1.i (by omega), q0.i (by omega)]; exact a8 k hk
    · have g := a9 k hk
      exact ⟨by rw [f1.i (by omega), q0.i (by omega)]; exact g.1, by rw [f1.i (by omega), q0.i (by omega)]; exact g.2.1, fun b hb => by rw [f1.i (by omega), q0.i (by omega)]; exact g.2.2 b hb⟩
  | true =>
    refine Ok.ff (by decide) ?_
    refine Ok.gd (show ib (nI i) (ln 41) = true from ib_nI (show i < 24 from hi) (by decide)) ?_
    rw [nI_clamp (by omega), hM.2.2.2.2.2.1]
    by_cases h4 : L.1 8 + L.2.2.2.length = 4
    · refine Ok.tt (by rw [h4]; rfl) ?_
      have hv : valR L true f = some 7 := by
        have h5 := hmay
        unfold mayV at h5
        rw [if_pos e130] at h5
        unfold valR
        rw [if_pos e130, if_neg (by rw [h5]; decide), if_pos ⟨rfl, by omega⟩]
      rw [bs, hrO_val hform hv]
      refine (m_refuse (own := true) (r := 7) hM hi hB hL hid h46 (by omega) h48 (by omega) (by omega)).mo (fun τ hτ => ⟨hM.fr hB hτ.2 (fun q j h1 h2 => lpl_pw h1 h2), hτ.1, hτ.2.mo (fun a b h => Or.inr h)⟩)
    · refine Ok.ff (fun h => h4 ((nI_eq (b := 4) (by omega) (by omega)).mp h)) ?_
      rw [hrO_ob hform (valR_yes hmay (fun h => by have := h.2.2; omega))]
      have ho : obL L now true f = slat L (L.2.2.2 ++ [(now + 3, dt f)]) := by unfold obL; rw [if_pos e130]; rfl
      refine Ok.gd (show ib (nI i) (ln 41) = true from ib_nI (show i < 24 from hi) (by decide)) (Ok.gd (show ib (nI i) (ln 41) = true from ib_nI (show i < 24 from hi) (by decide)) (Ok.gd (show ib (nI i) (ln 41) = true from ib_nI (show i < 24 from hi) (by decide)) (Ok.nm ?_)))
      rw [show (4 : Int32) = nI 4 from rfl, pk_mul, nI_add, nI_1, show 4 * i + (L.1 8 + L.2.2.2.length) = 4 * i + L.1 8 + L.2.2.2.length by omega]
      generalize hj2 : 4 * i + L.1 8 + L.2.2.2.length = j2
      have hj96 : j2 < 96 := by omega
      refine Ok.gd (show ib (nI j2) (ln 42) = true from ib_nI (show j2 < 96 by omega) (by decide)) (Ok.nm ?_)
      refine Ok.gd (show ib (nI j2) (ln 43) = true from ib_nI (show j2 < 96 by omega) (by decide)) (Ok.nm ?_)
      rw [nI_clamp (by omega), sI_nk (show (27 : Nat) ≠ 41 by decide), h21, show nI now + 3 = nI (now + 3) from nI_add now 3]
      generalize hw : sI (sI (sI σ 41 i (nI (L.1 8 + L.2.2.2.length + 1))) 42 j2 (nI (now + 3))) 43 j2 (nI (f.getD 23 0)) = w
      have q1 : Fr (fun q j => (q = 41 ∧ j = i) ∨ ((q = 42 ∨ q = 43) ∧ j = j2)) σ w := by rw [← hw]; exact ((Fr.sI (Or.inl ⟨rfl, rfl⟩)).t (Fr.sI (Or.inr ⟨Or.inl rfl, rfl⟩))).t (Fr.sI (Or.inr ⟨Or.inr rfl, rfl⟩))
      refine m_sl1L (σ0 := w) (j2 := j2) (n := f.getD 23 0) hj96 hs (by omega) (h46.fr q1 (by omega) (fun j => by omega)) (fun τ f1 f2 => ?_) (f.getD 23 0) fu 0 w (by unfold fu; omega) (by omega) Fr.rf (fun b hb => by omega)
      have q2 : Fr (lpl i) σ τ := (q1.mo (fun a b h => by unfold lpl; omega)).t (f1.mo (fun a b h => by unfold lpl; omega))
      have hM2 : ML τ i (obL L now true f) := by
        rw [ho]
        obtain ⟨a1, a2, a3, ⟨a4, a5⟩, a6, a7, a8, a9⟩ := hM
        refine ⟨?_, ?_, fun e he => ?_, ⟨?_, fun k hk => ?_⟩, fun k hk => ?_, ?_, fun k hk => ?_, fun k hk => ?_⟩
        · rw [f1.i (by omega), q1.i (by omega)]; exact a1
        · rw [f1.l (by omega), q1.l (by omega)]; exact a2
        · have g1 := rjs_r e he
          rw [f1.i (by omega), q1.i (by omega)]; exact a3 e he
        · rw [f1.i (by omega), q1.i (by omega)]; exact a4
        · rw [f1.i (by omega), q1.i (by omega)]; exact a5 k hk
        · rw [f1.i (by omega), q1.i (by omega)]; exact a6 k hk
        · rw [f1.i (by omega), ← hw, sI_nk (by decide), sI_nk (by decide), sI_eq]
          show _ = nI (L.1 8 + (L.2.2.2 ++ [(now + 3, dt f)]).length)
          rw [List.length_append, List.length_singleton, Nat.add_assoc]
        · change k < L.1 8 at hk
          rw [f1.i (by omega), q1.i (by omega)]; exact a8 k hk
        · change k < (L.2.2.2 ++ [(now + 3, dt f)]).length at hk
          rw [List.length_append, List.length_singleton] at hk
          show τ.1 42 (4 * i + L.1 8 + k) = nI (la (slat L (L.2.2.2 ++ [(now + 3, dt f)])) k).1 ∧ _
          by_cases ek : k = L.2.2.2.length
          · have el : la (slat L (L.2.2.2 ++ [(now + 3, dt f)])) k = (now + 3, dt f) := by
              show (L.2.2.2 ++ [(now + 3, dt f)]).getD k (0, []) = _
              rw [ek, List.getD_eq_getElem?_getD, List.getElem?_append_right (Nat.le_refl _), Nat.sub_self]; rfl
            rw [el]
            have e2 : 4 * i + L.1 8 + k = j2 := by omega
            show _ ∧ τ.1 43 (4 * i + L.1 8 + k) = _ ∧ ∀ b, b < (dt f).length → lo8 (τ.1 44 (32 * (4 * i + L.1 8 + k) + b)) = (dt f).getD b 0
            rw [e2]
            refine ⟨?_, ?_, fun b hb => ?_⟩
            · rw [f1.i (by omega), ← hw, sI_nk (by decide), sI_eq]
            · rw [f1.i (by omega), ← hw, sI_eq]
              show _ = nI (dt f).length
              rw [hlen]
            · rw [hlen] at hb
              rw [f2 b hb, hat b hb]
          · have hk2 : k < L.2.2.2.length := by omega
            have el : la (slat L (L.2.2.2 ++ [(now + 3, dt f)])) k = la L k := by
              show (L.2.2.2 ++ [(now + 3, dt f)]).getD k (0, []) = L.2.2.2.getD k (0, [])
              rw [List.getD_eq_getElem?_getD, List.getD_eq_getElem?_getD, List.getElem?_append_left hk2]
            rw [el]
            have g := a9 k hk2
            have hb3 := hB.2.2 k hk2
            exact ⟨by rw [f1.i (by omega), q1.i (by omega)]; exact g.1, by show τ.1 43 (4 * i + L.1 8 + k) = _; rw [f1.i (by omega), q1.i (by omega)]; exact g.2.1, fun b hb => by show lo8 (τ.1 44 (32 * (4 * i + L.1 8 + k) + b)) = _; rw [f1.i (by omega), q1.i (by omega)]; exact g.2.2 b hb⟩
      have hs4 : szs f := ⟨fun _ => hs, fun h => by omega, fun h => by omega, fun h => by omega⟩
      have hWo : Wl o now 3 (obL L now true f) := obL_wl hW hok h46.by hs4 (valR_yes hmay (fun h => by have := h.2.2; omega))
      unfold F_X7_setLabel_L149
      refine (m_reply (kind := 1) (grp := 49) (mat := 130) (d := [0, 3]) (mid := fun y => F_X7_putTwo y 3) hM2 hi hWo.bl (hWo.lt (by omega)) hWo.1.1 (h46.fr q2 (fun h => by have := lpl_lt h; omega) (fun j h => by have := lpl_lt h; omega)) (by omega) (h48.fr q2 (fun h => by have := lpl_lt h; omega) (fun j h => by have := lpl_lt h; omega)) (by decide) (by decide) (by decide) (by decide) (fun ρ h1 h2 => ?_)).mo (fun ρ hρ => ⟨hM2.fr hWo.bl hρ.2 (fun q j h1 h2 => lpl_pw h1 h2), ?_, (q2.mo (fun a b h => Or.inl h)).t (hρ.2.mo (fun a b h => Or.inr h))⟩)
      · have := rtwo (k := fun y => some y) (P := fun ρ => Mw ρ 48 27 (pz (six f 9) ((obL L now true f).1 0) (f.getD 15 0) 1 (two f 18) 49 130 ++ [0, 3]) ∧ Fr pw τ ρ) (σ0 := τ) (x := 3) (by omega) h2 h1 (by rw [pz_len]; omega) (fun ρ g1 g2 => Ok.so ⟨g1, g2⟩)
        rw [bs] at this
        exact this
      · rw [if_pos rfl, if_pos e130]; exact hρ.1
