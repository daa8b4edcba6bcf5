/-! ===== PURE: the model's GET of what waits ===== -/
theorem lpl_lt {i q j : Nat} (h : lpl i q j) : 28 ≤ q ∧ q ≤ 44 := by unfold lpl at h; omega
theorem lpl_pw {i q j : Nat} (h1 : lpl i q j) (h2 : pw q j) : False := by have := lpl_lt h1; unfold pw at h2; omega
theorem m_gwL {σ : St} {i : Nat} {L : Lp} {K : St → Int32 → Int32 → Option St} (h : ML1 σ i L) (hi : i < 24) (hB : Bl L) (hL : Lt L) : ∀ (c fz : Nat), c < fz → c ≤ L.1 8 + L.2.2.2.length → F_X7_getWaiting_L11 K fz σ (nI i) (if c < L.1 8 then nI c else -1) (nI c - 1) = K σ (nI i) (if 0 < L.1 8 then nI 0 else -1) := by
  obtain ⟨h7, h8, h9⟩ := h
  have hb := hB.2.1
  intro c
  induction c with
  | zero =>
    intro fz hf hc
    cases fz with
    | zero => omega
    | succ fz =>
      unfold F_X7_getWaiting_L11
      rw [if_pos (show nI 0 - 1 < 0 by decide)]
  | succ c ih =>
    intro fz hf hc
    cases fz with
    | zero => omega
    | succ fz =>
      unfold F_X7_getWaiting_L11
      rw [nI_pred, if_neg (nI_pos (by omega)), show (4 : Int32) = nI 4 from rfl, pk_mul, nI_add, gd_t (show ib (nI (4 * i + c)) (ln 42) = true from ib_nI (show 4 * i + c < 96 by omega) (by decide)), nI_clamp (by omega), ← Int32.sub_eq_add_neg]
      have := ih fz (by omega) (by omega)
      by_cases hc8 : c < L.1 8
      · rw [if_pos hc8] at this
        rw [h8 c hc8, if_pos rfl]
        exact this
      · rw [if_neg hc8] at this
        have e : 4 * i + c = 4 * i + L.1 8 + (c - L.1 8) := by omega
        have g := hL (c - L.1 8) (by omega)
        rw [e, (h9 (c - L.1 8) (by omega)).1, if_neg (nI_ne0 g.1 g.2), if_neg (by omega)]
        exact this
/-- the first k of what waits or comes later have come down -/
def Shd (i k : Nat) (σ0 σ : St) : Prop := (∀ j, j < k → σ.1 42 (4 * i + j) = σ0.1 42 (4 * i + j + 1) ∧ σ.1 43 (4 * i + j) = σ0.1 43 (4 * i + j + 1) ∧ ∀ b, b < 32 → lo8 (σ.1 44 (32 * (4 * i + j) + b)) = lo8 (σ0.1 44 (32 * (4 * i + j) + 32 + b))) ∧ Fr (fun q j => ((q = 42 ∨ q = 43) ∧ 4 * i ≤ j ∧ j < 4 * i + k) ∨ (q = 44 ∧ 32 * (4 * i) ≤ j ∧ j < 32 * (4 * i + k))) σ0 σ
theorem m_gbL {B73 : St → Int32 → Int32 → Option St} {K173 : St → Int32 → Option St} {K167 : St → Int32 → Int32 → Option St} {P : St → Prop} {i k : Nat} {σ0 : St} (hi : 4 * i + k + 1 < 96) (hK : ∀ τ, Fr (fun q j => q = 44 ∧ 32 * (4 * i + k) ≤ j ∧ j < 32 * (4 * i + k) + 32) σ0 τ → (∀ b, b < 32 → lo8 (τ.1 44 (32 * (4 * i + k) + b)) = lo8 (σ0.1 44 (32 * (4 * i + k) + 32 + b))) → Ok (K167 τ (nI i) (nI k)) P) : ∀ (m fz c : Nat) (σ : St), m < fz → c + m = 32 → Fr (fun q j => q = 44 ∧ 32 * (4 * i + k) ≤ j ∧ j < 32 * (4 * i + k) + 32) σ0 σ → (∀ b, b < c → lo8 (σ.1 44 (32 * (4 * i + k) + b)) = lo8 (σ0.1 44 (32 * (4 * i + k) + 32 + b))) → Ok (F_X7_getWaiting_L125 B73 K173 K167 fz σ (nI i) (nI k) (nI (4 * i + k)) (nI c)) P := by
  intro m
  induction m with
  | zero =>
    intro fz c σ hf hc he hd
    cases fz with
    | zero => omega
    | succ fz =>
      unfold F_X7_getWaiting_L125
      refine Ok.tt (show (32 : Int32) ≤ nI c from nI_le (a := 32) (by omega) (by omega)) ?_
      rw [show c = 32 by omega] at hd
      exact hK σ he hd
  | succ m ih =>
    intro fz c σ hf hc he hd
    cases fz with
    | zero => omega
    | succ fz =>
      unfold F_X7_getWaiting_L125
      refine Ok.ff (show ¬ (32 : Int32) ≤ nI c from nI_ge (b := 32) (by omega) (by omega)) ?_
      rw [show (32 : Int32) = nI 32 from rfl, pk_mul, nI_add, nI_add, nI_add, nI_1]
      refine Ok.gd (show ib (nI (32 * (4 * i + k) + 32 + c)) (ln 44) = true from ib_nI (show 32 * (4 * i + k) + 32 + c < 3072 by omega) (by decide)) (Ok.gd (show ib (nI (32 * (4 * i + k) + c)) (ln 44) = true from ib_nI (show 32 * (4 * i + k) + c < 3072 by omega) (by decide)) (Ok.nm ?_))
      rw [nI_clamp (by omega), nI_clamp (by omega)]
      refine ih fz (c + 1) _ (by omega) (by omega) (he.t (Fr.sI ⟨rfl, by omega, by omega⟩)) (fun b hb => ?_)
      by_cases e : b = c
      · subst e; rw [sI_eq, lo8_nar, he.i (by omega)]
      · rw [sI_nj (by omega)]; exact hd b (by omega)
theorem m_gsL {K173 : St → Int32 → Option St} {P : St → Prop} {i n : Nat} {σ0 : St} (hi : i < 24) (hn : n ≤ 3) (h41 : σ0.1 41 i = nI n) (hK : ∀ τ, Shd i n σ0 τ → Ok (K173 τ (nI i)) P) : ∀ (m fz k : Nat) (σ : St), m < fz → k + m = n → Shd i k σ0 σ → Ok (F_X7_getWaiting_L73 K173 fz σ (nI i) (nI k)) P := by
  intro m
  induction m with
  | zero =>
    intro fz k σ hf hk hs
    cases fz with
    | zero => omega
    | succ fz =>
      unfold F_X7_getWaiting_L73
      refine Ok.gd (show ib (nI i) (ln 41) = true from ib_nI (show i < 24 from hi) (by decide)) ?_
      rw [nI_clamp (by omega), hs.2.i (by omega), h41]
      refine Ok.tt (nI_le (by omega) (by omega)) ?_
      rw [show k = n by omega] at hs
      exact hK σ hs
  | succ m ih =>
    intro fz k σ hf hk hs
    cases fz with
    | zero => omega
    | succ fz =>
      unfold F_X7_getWaiting_L73
      refine Ok.gd (show ib (nI i) (ln 41) = true from ib_nI (show i < 24 from hi) (by decide)) ?_
      rw [nI_clamp (by omega), hs.2.i (by omega), h41]
      refine Ok.ff (nI_ge (by omega) (by omega)) ?_
      rw [show (4 : Int32) = nI 4 from rfl, pk_mul, nI_add, nI_1]
      refine Ok.gd (show ib (nI (4 * i + k + 1)) (ln 42) = true from ib_nI (show 4 * i + k + 1 < 96 by omega) (by decide)) (Ok.gd (show ib (nI (4 * i + k)) (ln 42) = true from ib_nI (show 4 * i + k < 96 by omega) (by decide)) (Ok.nm ?_))
      refine Ok.gd (show ib (nI (4 * i + k + 1)) (ln 43) = true from ib_nI (show 4 * i + k + 1 < 96 by omega) (by decide)) (Ok.gd (show ib (nI (4 * i + k)) (ln 43) = true from ib_nI (show 4 * i + k < 96 by omega) (by decide)) (Ok.nm ?_))
      rw [nI_clamp (show 4 * i + k + 1 < 2 ^ 31 by omega), nI_clamp (show 4 * i + k < 2 ^ 31 by omega), sI_nk (show (43 : Nat) ≠ 42 by decide)]
      generalize hw : sI (sI σ 42 (4 * i + k) (σ.1 42 (4 * i + k + 1))) 43 (4 * i + k) (σ.1 43 (4 * i + k + 1)) = w
      have q1 : Fr (fun q j => (q = 42 ∨ q = 43) ∧ j = 4 * i + k) σ w := by rw [← hw]; exact (Fr.sI ⟨Or.inl rfl, rfl⟩).t (Fr.sI ⟨Or.inr rfl, rfl⟩)
      refine m_gbL (σ0 := w) (by omega) (fun τ f1 f2 => ?_) 32 fu 0 w (by unfold fu; omega) (by omega) Fr.rf (fun b hb => by omega)
      unfold F_X7_getWaiting_L167
      rw [nI_1]
      refine ih fz (k + 1) τ (by omega) (by omega) ⟨fun j hj => ?_, ?_⟩
      · by_cases e : j = k
        · subst e
          refine ⟨?_, ?_, fun b hb => ?_⟩
          · rw [f1.i (by omega), ← hw, sI_nk (by decide), sI_eq, hs.2.i (by omega)]
          · rw [f1.i (by omega), ← hw, sI_eq, hs.2.i (by omega)]
          · rw [f2 b hb, q1.i (by omega), hs.2.i (by omega)]
        · have g := hs.1 j (by omega)
          exact ⟨by rw [f1.i (by omega), q1.i (by omega)]; exact g.1, by rw [f1.i (by omega), q1.i (by omega)]; exact g.2.1, fun b hb => by rw [f1.i (by omega), q1.i (by omega)]; exact g.2.2 b hb⟩
      · exact ((hs.2.mo (fun a b h => by omega)).t (q1.mo (fun a b h => by omega))).t (f1.mo (fun a b h => by omega))
/-- the places of a lamp and of the reply, in the model -/
abbrev ph (i : Nat) : Nat → Nat → Prop := fun q j => lpl i q j ∨ q = 48 ∨ (q = 27 ∧ j = 27)
theorem m_gw {σ : St} {i o now x : Nat} {L : Lp} {f : List Nat} (hM : ML σ i L) (hi : i < 24) (hW : Wl o now x L) (hn : now + x < 2 ^ 31) (h46 : Mw σ 46 23 f) (hl : 24 ≤ f.length) (h48 : Mw σ 48 27 []) : Ok (F_X7_getWaiting σ (nI i)) (fun τ => (if L.1 8 = 0 then ML τ i L ∧ Mw τ 48 27 (rp f L 0 33 32 []) else ML τ i (su L 8 (L.1 8 - 1)) ∧ Mw τ 48 27 (rp f (su L 8 (L.1 8 - 1)) 0 49 130 [])) ∧ Fr (ph i) σ τ) := by
  have hB := hW.bl
  have hL := hW.lt hn
  have hb := hB.2.1
  have hid := hW.1.1
  have h1 := hM.2.2.2.2.2
  unfold F_X7_getWaiting
  refine Ok.gd (show ib (nI i) (ln 41) = true from ib_nI (show i < 24 from hi) (by decide)) ?_
  rw [nI_clamp (by omega), h1.1]
  have hz := m_gwL (K := F_X7_getWaiting_L40) h1 hi hB hL (L.1 8 + L.2.2.2.length) fu (by unfold fu; omega) (Nat.le_refl _)
  rw [if_neg (show ¬ L.1 8 + L.2.2.2.length < L.1 8 by omega)] at hz
  rw [hz]
  unfold F_X7_getWaiting_L40
  by_cases h0 : L.1 8 = 0
  · rw [if_neg (show ¬ 0 < L.1 8 by omega)]
    refine Ok.tt rfl ?_
    refine (m_reply0 (kind := 0) (grp := 33) (mat := 32) hM hi hB hL hid h46 hl h48 (by decide) (by decide) (by decide)).mo (fun τ hτ => ⟨?_, hτ.2.mo (fun a b h => Or.inr h)⟩)
    rw [if_pos h0]
    exact ⟨hM.fr hB hτ.2 (fun q j h1 h2 => lpl_pw h1 h2), hτ.1⟩
  · rw [if_pos (show 0 < L.1 8 by omega)]
    refine Ok.ff (by decide) ?_
    refine Ok.gd (show ib (nI i) (ln 41) = true from ib_nI (show i < 24 from hi) (by decide)) (Ok.gd (show ib (nI i) (ln 41) = true from ib_nI (show i < 24 from hi) (by decide)) (Ok.nm ?_))
    rw [nI_clamp (by omega), h1.1, show nI (L.1 8 + L.2.2.2.length) - 1 = nI (L.1 8 + L.2.2.2.length - 1) from pk_sub (b := 1) (by omega)]
    have q0 : Fr (fun q j => q = 41 ∧ j = i) σ (sI σ 41 i (nI (L.1 8 + L.2.2.2.length - 1))) := Fr.sI ⟨rfl, rfl⟩
    refine m_gsL (σ0 := sI σ 41 i (nI (L.1 8 + L.2.2.2.length - 1))) (n := L.1 8 + L.2.2.2.length - 1) hi (by omega) (by rw [sI_eq]) (fun τ hs => ?_) (L.1 8 + L.2.2.2.length - 1) fu 0 _ (by unfold fu; omega) (by omega) ⟨fun j hj => by omega, Fr.rf⟩
    have e8 : (su L 8 (L.1 8 - 1)).1 8 = L.1 8 - 1 := su_eq
    have q1 : Fr (lpl i) σ τ := (q0.mo (fun a b h => by unfold lpl; omega)).t (hs.2.mo (fun a b h => by unfold lpl; omega))
    have hM2 : ML τ i (su L 8 (L.1 8 - 1)) := by
      obtain ⟨a1, a2, a3, ⟨a4, a5⟩, a6, a7, a8, a9⟩ := hM
      have b1 := hB.1
      refine ⟨?_, ?_, fun e he => ?_, ⟨?_, fun k hk => ?_⟩, fun k hk => ?_, ?_, fun k hk => ?_, fun k hk => ?_⟩
      · rw [hs.2.i (by omega), q0.i (by omega)]; exact a1
      · rw [hs.2.l (by omega), q0.l (by omega)]; exact a2
      · have g1 := rjs_r e he
        have g2 := rjs_j e he
        rw [hs.2.i (by omega), q0.i (by omega), su_ne g2.2]; exact a3 e he
      · rw [hs.2.i (by omega), q0.i (by omega)]; exact a4
      · change k < L.2.1.length at hk
        rw [hs.2.i (by omega), q0.i (by omega)]; exact a5 k hk
      · rw [hs.2.i (by omega), q0.i (by omega)]; exact a6 k hk
      · rw [hs.2.i (by omega), sI_eq, e8]
        show nI _ = nI (L.1 8 - 1 + L.2.2.2.length)
        congr 1; omega
      · rw [e8] at hk
        rw [(hs.1 k (by omega)).1, q0.i (by omega), show 4 * i + k + 1 = 4 * i + (k + 1) by omega]
        exact a8 (k + 1) (by omega)
      · change k < L.2.2.2.length at hk
        have g := a9 k hk
        have s := hs.1 (L.1 8 - 1 + k) (by omega)
        have hb3 := hB.2.2 k hk
        have el : la (su L 8 (L.1 8 - 1)) k = la L k := rfl
        rw [e8, el, show 4 * i + (L.1 8 - 1) + k = 4 * i + (L.1 8 - 1 + k) by omega]
        refine ⟨?_, ?_, fun b hb => ?_⟩
        · rw [s.1, q0.i (by omega), show 4 * i + (L.1 8 - 1 + k) + 1 = 4 * i + L.1 8 + k by omega]; exact g.1
        · rw [s.2.1, q0.i (by omega), show 4 * i + (L.1 8 - 1 + k) + 1 = 4 * i + L.1 8 + k by omega]; exact g.2.1
        · rw [s.2.2 b (by omega), q0.i (by omega), show 32 * (4 * i + (L.1 8 - 1 + k)) + 32 + b = 32 * (4 * i + L.1 8 + k) + b by omega]
          exact g.2.2 b hb
    have hB2 : Bl (su L 8 (L.1 8 - 1)) := ⟨hB.1, by rw [e8]; show L.1 8 - 1 + L.2.2.2.length ≤ 4; omega, hB.2.2⟩
    unfold F_X7_getWaiting_L173
    refine (m_reply0 (kind := 0) (grp := 49) (mat := 130) hM2 hi hB2 hL hid (h46.fr q1 (fun h => by have := lpl_lt h; omega) (fun j h => by have := lpl_lt h; omega)) hl (h48.fr q1 (fun h => by have := lpl_lt h; omega) (fun j h => by have := lpl_lt h; omega)) (by decide) (by decide) (by decide)).mo (fun ρ hρ => ⟨?_, (q1.mo (fun a b h => Or.inl h)).t (hρ.2.mo (fun a b h => Or.inr h))⟩)
    rw [if_neg h0]
    exact ⟨hM2.fr hB2 hρ.2 (fun q j h1 h2 => lpl_pw h1 h2), hρ.1⟩
theorem m_isM {σ : St} {m : Nat} (hm : m < 65536) : F_X7_isMatter σ (nI m) = some (σ, if isM m then 1 else 0) := by
  have c : ∀ k, k < 65536 → ((nI m = nI k) ↔ m = k) := fun k hk => nI_eq (by omega) (by omega)
  have c80 : (nI m = 80) ↔ m = 80 := c 80 (by decide)
  have c96 : (nI m = 96) ↔ m = 96 := c 96 (by decide)
  have c128 : (nI m = 128) ↔ m = 128 := c 128 (by decide)
  have c130 : (nI m = 130) ↔ m = 130 := c 130 (by decide)
  have c224 : (nI m = 224) ↔ m = 224 := c 224 (by decide)
  have c240 : (nI m = 240) ↔ m = 240 := c 240 (by decide)
  have c4096 : (nI m = 4096) ↔ m = 4096 := c 4096 (by decide)
  have c32 : (nI m = 32) ↔ m = 32 := c 32 (by decide)
  unfold F_X7_isMatter isM
  simp only [c80, c96, c128, c130, c224, c240, c4096, c32]
  by_cases h : m = 80 ∨ m = 96 ∨ m = 128 ∨ m = 130 ∨ m = 224 ∨ m = 240 ∨ m = 4096 ∨ m = 32
  · rw [if_pos h]
    rcases h with h | h | h | h | h | h | h | h <;> subst h <;> rfl
  · rw [if_neg h, if_neg (by omega), if_neg (by omega), if_neg (by omega), if_neg (by omega), if_neg (by omega), if_neg (by omega), if_neg (by omega), if_neg (by omega)]
/-- what a lamp of the model has done -/
def MrOk (σ : St) (i : Nat) (R : Lp × List Nat) (τ : St) : Prop := ML τ i R.1 ∧ Mw τ 48 27 R.2 ∧ Fr (ph i) σ τ
theorem hrO_some {f : List Nat} {now r : Nat} {own set : Bool} {L : Lp} (h : formR (two f 18) (two f 21) set (f.getD 23 0) = some r) : hrO f now own set L = (L, if own = true then rp f L 2 (f.getD 20 0 + 1) (two f 21) (be r 2) else []) := by
  unfold hrO; rw [h]
theorem hrO_val {f : List Nat} {now r : Nat} {own : Bool} {L : Lp} (h : formR (two f 18) (two f 21) true (f.getD 23 0) = none) (hv : valR L own f = some r) : hrO f now own true L = (L, if own = true then rp f L 2 (f.getD 20 0 + 1) (two f 21) (be r 2) else []) := by
  unfold hrO; rw [h]
  simp only [if_true, hv]
theorem hrO_ob {f : List Nat} {now : Nat} {own : Bool} {L : Lp} (h : formR (two f 18) (two f 21) true (f.getD 23 0) = none) (hv : valR L own f = none) : hrO f now own true L = (obL L now own f, if own = true then (if two f 21 = 130 then rp f (obL L now own f) 1 49 130 [0, 3] else rp f (obL L now own f) 0 49 (two f 21) []) else []) := by
  unfold hrO; rw [h]
  simp only [if_true, hv]
theorem hrO_get {f : List Nat} {now : Nat} {own : Bool} {L : Lp} (h : formR (two f 18) (two f 21) false (f.getD 23 0) = none) : hrO f now own false L = if two f 21 = 32 then (if L.1 8 = 0 then (L, rp f L 0 33 32 []) else (su L 8 (L.1 8 - 1), rp f (su L 8 (L.1 8 - 1)) 0 49 130 [])) else (L, rp f L 0 33 (two f 21) (telD L (two f 21))) := by
  unfold hrO; rw [h]
  simp only [Bool.false_eq_true, if_false]
theorem telD_len {L : Lp} {m : Nat} (h : L.2.1.length ≤ 32) : (telD L m).length ≤ 231 := by
  unfold telD
  repeat' split
  all_goals first | (simp [be_len, hx_len]) | omega
theorem m_get {σ : St} {i o now x : Nat} {L : Lp} {f : List Nat} (hM : ML σ i L) (hi : i < 24) (hW : Wl o now x L) (ho : o ≤ 1000) (hn : now + x < 2 ^ 31) (h46 : Mw σ 46 23 f) (hok : pkOk f) (h48 : Mw σ 48 27 []) (hg : f.getD 20 0 = 32) : Ok (F_X7_get σ (nI i)) (MrOk σ i (hrO f now true false L)) := by
  have hB := hW.bl
  have hL := hW.lt hn
  have hid := hW.1.1
  have hb := h46.by
  have hl : 26 ≤ f.length := by have := hok.1; have := hok.2.1; omega
  have hm := two_lt hb 21
  have ht := two_lt hb 18
  have b23 := hb 23
  have c32 : (nI (two f 21) = 32) ↔ two f 21 = 32 := nI_eq (b := 32) (by omega) (by omega)
  have t0 : (nI (two f 18) = 0) ↔ two f 18 = 0 := nI_eq (b := 0) (by omega) (by omega)
  have n0 : (nI (f.getD 23 0) = 0) ↔ f.getD 23 0 = 0 := nI_eq (b := 0) (by omega) (by omega)
  have n1 : (nI (f.getD 23 0) = 1) ↔ f.getD 23 0 = 1 := nI_eq (b := 1) (by omega) (by omega)
  have ref : ∀ r, r < 10 → formR (two f 18) (two f 21) false (f.getD 23 0) = some r → Ok ((F_X7_refuse σ (nI i) 1 (nI r)).bind (fun y => some y)) (MrOk σ i (hrO f now true false L)) := by
    intro r hr hf
    rw [bs, hrO_some hf]
    refine (m_refuse (own := true) hM hi hB hL hid h46 (by omega) h48 hr (by omega)).mo (fun τ hτ => ⟨hM.fr hB hτ.2 (fun q j h1 h2 => lpl_pw h1 h2), hτ.1, hτ.2.mo (fun a b h => Or.inr h)⟩)
  unfold F_X7_get
  refine Ok.eq (m_two h46 (k := 21) (by omega)) ?_
  refine Ok.eq (m_two h46 (k := 18) (by omega)) ?_
  dsimp only
  by_cases e0 : two f 18 = 0
  · refine Ok.tt (t0.mpr e0) ?_
    refine Ok.eq (m_isM hm) ?_
    dsimp only
    by_cases hM8 : isM (two f 21)
    · rw [if_pos hM8]
      refine Ok.ff (by decide) ?_
      refine Ok.eq (m_at h46 (k := 23) (by omega)) ?_
      dsimp only
      unfold F_X7_get_L61
      by_cases e32 : two f 21 = 32
      · refine Ok.tt (c32.mpr e32) ?_
        by_cases en : f.getD 23 0 = 1
        · refine Ok.tt (n1.mpr en) (Ok.tt (c32.mpr e32) ?_)
          have hf : formR (two f 18) (two f 21) false (f.getD 23 0) = none := by
            unfold formR
            rw [if_neg (by omega), if_neg (not_not_intro hM8), if_pos rfl, if_pos e32, if_pos en]
          rw [bs, hrO_get hf, if_pos e32]
          refine (m_gw hM hi hW hn h46 (by omega) h48).mo (fun τ hτ => ?_)
          by_cases h8 : L.1 8 = 0
          · rw [if_pos h8]; rw [if_pos h8] at hτ
            exact ⟨hτ.1.1, hτ.1.2, hτ.2⟩
          · rw [if_neg h8]; rw [if_neg h8] at hτ
            exact ⟨hτ.1.1, hτ.1.2, hτ.2⟩
        · refine Ok.ff (fun h => en (n1.mp h)) ?_
          refine ref 1 (by omega) ?_
          unfold formR
          rw [if_neg (by omega), if_neg (not_not_intro hM8), if_pos rfl, if_pos e32, if_neg en]
      · refine Ok.ff (fun h => e32 (c32.mp h)) ?_
        by_cases en : f.getD 23 0 = 0
        · refine Ok.tt (n0.mpr en) (Ok.ff (fun h => e32 (c32.mp h)) ?_)
          have hf : formR (two f 18) (two f 21) false (f.getD 23 0) = none := by
            unfold formR
            rw [if_neg (by omega), if_neg (not_not_intro hM8), if_pos rfl, if_neg e32, if_pos en]
          rw [hrO_get hf, if_neg e32]
          refine (m_reply (kind := 0) (grp := 33) (d := telD L (two f 21)) (mid := fun y => F_X7_tell y (nI i) (nI (two f 21))) hM hi hB hL hid h46 (by omega) h48 (by decide) (by decide) hm (telD_len hB.1) (fun τ h1 h2 => ?_)).mo (fun τ hτ => ⟨hM.fr hB hτ.2 (fun q j h1 h2 => lpl_pw h1 h2), hτ.1, hτ.2.mo (fun a b h => Or.inr h)⟩)
          refine (m_tell (hM.fr hB h1 (fun q j h1 h2 => lpl_pw h1 h2)) hi hW ho h2 pz_len hM8 e32).mo (fun ρ hρ => ⟨hρ.1, h1.t hρ.2⟩)
        · refine Ok.ff (fun h => en (n0.mp h)) ?_
          refine ref 1 (by omega) ?_
          unfold formR
          rw [if_neg (by omega), if_neg (not_not_intro hM8), if_pos rfl, if_neg e32, if_neg en]
    · rw [if_neg hM8]
      refine Ok.tt rfl ?_
      refine ref 0 (by omega) ?_
      unfold formR
      rw [if_neg (by omega), if_pos hM8]
  · refine Ok.ff (fun h => e0 (t0.mp h)) ?_
    refine ref 9 (by omega) ?_
    unfold formR
    rw [if_pos ⟨e0, fun h => absurd h.1 (by decide)⟩]
