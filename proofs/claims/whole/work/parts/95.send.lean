/-! ===== PURE: spoil, feed, send ===== -/
def spA (sc : Nat) (sp : Nat → Nat × Int32) (e : Nat × Int32) : Nat × (Nat → Nat × Int32) := if sc < 16 then (sc + 1, fun j => if j = sc then e else sp j) else (16, fun j => if j = 15 then e else sp (j + 1))
abbrev pSp : Nat → Nat → Prop := fun q _ => 18 ≤ q ∧ q ≤ 20
theorem f_add13 {σ : St} {sc k : Nat} {sp : Nat → Nat × Int32} {y : Int32} (h : CS σ sc sp) (hs : sc < 16) (hk : k ≤ 300) : Ok (F_X5_add_L13 σ (nI k) y) (fun τ => CS τ (sc + 1) (fun j => if j = sc then (k, y) else sp j) ∧ Fr pSp σ τ) := by
  obtain ⟨h1, h2, h3⟩ := h
  unfold F_X5_add_L13
  rw [h1]
  refine Ok.gd (ib_nI (show sc < 16 from hs) (by decide)) (Ok.nm ?_)
  rw [nI_clamp (by omega), sI_nk (by decide), h1]
  refine Ok.gd (ib_nI (show sc < 16 from hs) (by decide)) (Ok.nm (Ok.nm (Ok.so ?_)))
  rw [nI_clamp (by omega), sI_nk (by decide), sI_nk (by decide), h1, nI_1]
  refine ⟨⟨sI_eq, by omega, fun j hj => ?_⟩, ((Fr.sI (by unfold pSp; omega)).t (Fr.sI (by unfold pSp; omega))).t (Fr.sI (by unfold pSp; omega))⟩
  by_cases e : j = sc
  · simp [sI_if, e, hk]
  · have := h3 j (by omega)
    simp [sI_if, e, this]
theorem f_drL {σ0 : St} {sp : Nat → Nat × Int32} {K : St → Option St} {P : St → Prop} (hK : ∀ τ, (∀ j, j < 15 → τ.1 19 j = nI (sp (j + 1)).1 ∧ τ.1 20 j = (sp (j + 1)).2) → Fr (fun q _ => q = 19 ∨ q = 20) σ0 τ → Ok (K τ) P) : ∀ (m fz k : Nat) (σ : St), m < fz → k + m = 16 → 1 ≤ k → (∀ j, j < 16 → σ.1 19 j = nI (if j + 1 < k then sp (j + 1) else sp j).1 ∧ σ.1 20 j = (if j + 1 < k then sp (j + 1) else sp j).2) → Fr (fun q _ => q = 19 ∨ q = 20) σ0 σ → Ok (F_X5_dropFirst_L2 K fz σ (nI k)) P := by
  intro m
  induction m with
  | zero =>
    intro fz k σ hf hk h1 hD he
    cases fz with
    | zero => omega
    | succ fz =>
      unfold F_X5_dropFirst_L2
      refine Ok.tt (show (16 : Int32) ≤ _ from nI_le (a := 16) (by omega) (by omega)) (hK σ (fun j hj => ?_) he)
      have := hD j (by omega)
      rw [if_pos (by omega)] at this
      exact this
  | succ m ih =>
    intro fz k σ hf hk h1 hD he
    cases fz with
    | zero => omega
    | succ fz =>
      unfold F_X5_dropFirst_L2
      refine Ok.ff (show ¬ (16 : Int32) ≤ _ from nI_ge (b := 16) (by omega) (by omega)) ?_
      rw [show nI k - 1 = nI (k - 1) from pk_sub (b := 1) h1, nI_1]
      refine Ok.gd (show ib (nI k) (ln 19) = true from ib_nI (show k < 16 by omega) (by decide)) (Ok.gd (show ib (nI (k - 1)) (ln 19) = true from ib_nI (show k - 1 < 16 by omega) (by decide)) (Ok.nm (Ok.gd (show ib (nI k) (ln 20) = true from ib_nI (show k < 16 by omega) (by decide)) (Ok.gd (show ib (nI (k - 1)) (ln 20) = true from ib_nI (show k - 1 < 16 by omega) (by decide)) (Ok.nm ?_)))))
      rw [nI_clamp (show k - 1 < 2 ^ 31 by omega), nI_clamp (show k < 2 ^ 31 by omega), sI_nk (show (20 : Nat) ≠ 19 by decide)]
      have hk16 := hD k (by omega)
      rw [if_neg (by omega)] at hk16
      rw [hk16.1, hk16.2]
      refine ih fz (k + 1) _ (by omega) (by omega) (by omega) (fun j hj => ?_) (he.t ((Fr.sI (Or.inl rfl)).t (Fr.sI (Or.inr rfl))))
      by_cases e : j = k - 1
      · have e2 : j + 1 = k := by omega
        rw [if_pos (show j + 1 < k + 1 by omega), e2]
        simp [sI_if, e]
      · have hj2 := hD j hj
        have e3 : (if j + 1 < k + 1 then sp (j + 1) else sp j) = (if j + 1 < k then sp (j + 1) else sp j) := by
          by_cases h9 : j + 1 < k
          · rw [if_pos h9, if_pos (by omega)]
          · rw [if_neg h9, if_neg (by omega)]
        rw [e3]
        simp [sI_if, e, hj2]
theorem f_add {σ : St} {sc k : Nat} {sp : Nat → Nat × Int32} {y : Int32} (h : CS σ sc sp) (hk : k ≤ 300) : Ok (F_X5_add σ (nI k) y) (fun τ => CS τ (spA sc sp (k, y)).1 (spA sc sp (k, y)).2 ∧ Fr pSp σ τ) := by
  have hs := h.2.1
  unfold F_X5_add spA
  rw [h.1]
  by_cases h16 : sc < 16
  · rw [if_pos h16]
    exact Ok.tt (show _ < (16 : Int32) from nI_lt (b := 16) h16 (by decide)) (f_add13 h h16 hk)
  · rw [if_neg h16]
    refine Ok.ff (show ¬ _ < (16 : Int32) from nI_nlt (b := 16) (by omega) (by omega)) ?_
    have hd : Ok (F_X5_dropFirst σ) (fun τ => CS τ 15 (fun j => sp (j + 1)) ∧ Fr pSp σ τ) := by
      unfold F_X5_dropFirst
      refine f_drL (σ0 := σ) (sp := sp) (fun τ t1 t2 => ?_) 15 fu 1 σ (by unfold fu; omega) (by omega) (by omega) (fun j hj => ?_) Fr.rf
      · unfold F_X5_dropFirst_L42
        refine Ok.nm (Ok.so ⟨⟨by rw [sI_eq]; rfl, by decide, fun j hj => ?_⟩, (t2.mo (fun a b h => by unfold pSp; omega)).t (Fr.sI (by unfold pSp; omega))⟩)
        rw [sI_nk (by decide), sI_nk (by decide)]
        exact ⟨(t1 j hj).1, (h.2.2 (j + 1) (by omega)).2.1, (t1 j hj).2⟩
      · rw [if_neg (by omega)]
        have := h.2.2 j (by omega)
        exact ⟨this.1, this.2.2⟩
    refine Ok.bi hd (fun τ hτ => ?_)
    refine (f_add13 hτ.1 (by decide) hk).mo (fun ρ hρ => ⟨hρ.1, hτ.2.t hρ.2⟩)
/-! the model -/
abbrev pSm : Nat → Nat → Prop := fun q j => q = 49 ∨ q = 50 ∨ (q = 27 ∧ j = 28)
theorem m_add80 {σ : St} {sc k : Nat} {sp : Nat → Nat × Int32} {y : Int32} (h : MS σ sc sp) (hs : sc < 16) (hk : k ≤ 300) : Ok (F_X7_spoil_L80 σ (nI k) y) (fun τ => MS τ (sc + 1) (fun j => if j = sc then (k, y) else sp j) ∧ Fr pSm σ τ) := by
  obtain ⟨h1, h2, h3⟩ := h
  unfold F_X7_spoil_L80
  rw [h1]
  refine Ok.gd (ib_nI (show sc < 16 from hs) (by decide)) (Ok.nm ?_)
  rw [nI_clamp (by omega), sI_nk (by decide), h1]
  refine Ok.gd (ib_nI (show sc < 16 from hs) (by decide)) (Ok.nm (Ok.nm (Ok.so ?_)))
  rw [nI_clamp (by omega), sI_nk (by decide), sI_nk (by decide), h1, nI_1]
  refine ⟨⟨sI_eq, by omega, fun j hj => ?_⟩, ((Fr.sI (by unfold pSm; omega)).t (Fr.sI (by unfold pSm; omega))).t (Fr.sI (by unfold pSm; omega))⟩
  by_cases e : j = sc
  · simp [sI_if, e, hk]
  · have := h3 j (by omega)
    simp [sI_if, e, this]
theorem m_drL {σ0 : St} {sp : Nat → Nat × Int32} {u1 u2 : Int32} {K : St → Int32 → Int32 → Option St} {P : St → Prop} (h28 : σ0.1 27 28 = nI 15) (hK : ∀ τ, (∀ j, j < 15 → τ.1 49 j = nI (sp (j + 1)).1 ∧ τ.1 50 j = (sp (j + 1)).2) → Fr (fun q _ => q = 49 ∨ q = 50) σ0 τ → Ok (K τ u1 u2) P) : ∀ (m fz k : Nat) (σ : St), m < fz → k + m = 15 → (∀ j, j < 16 → σ.1 49 j = nI (if j < k then sp (j + 1) else sp j).1 ∧ σ.1 50 j = (if j < k then sp (j + 1) else sp j).2) → Fr (fun q _ => q = 49 ∨ q = 50) σ0 σ → Ok (F_X7_spoil_L38 K fz σ u1 u2 (nI k)) P := by
  intro m
  induction m with
  | zero =>
    intro fz k σ hf hk hD he
    cases fz with
    | zero => omega
    | succ fz =>
      unfold F_X7_spoil_L38
      refine Ok.tt (by rw [he.i (by omega), h28]; exact nI_le (by omega) (by omega)) (hK σ (fun j hj => ?_) he)
      have := hD j (by omega)
      rw [if_pos (by omega)] at this
      exact this
  | succ m ih =>
    intro fz k σ hf hk hD he
    cases fz with
    | zero => omega
    | succ fz =>
      unfold F_X7_spoil_L38
      refine Ok.ff (by rw [he.i (by omega), h28]; exact nI_ge (by omega) (by omega)) ?_
      rw [nI_1]
      refine Ok.gd (show ib (nI (k + 1)) (ln 49) = true from ib_nI (show k + 1 < 16 by omega) (by decide)) (Ok.gd (show ib (nI k) (ln 49) = true from ib_nI (show k < 16 by omega) (by decide)) (Ok.nm (Ok.gd (show ib (nI (k + 1)) (ln 50) = true from ib_nI (show k + 1 < 16 by omega) (by decide)) (Ok.gd (show ib (nI k) (ln 50) = true from ib_nI (show k < 16 by omega) (by decide)) (Ok.nm ?_)))))
      rw [nI_clamp (show k < 2 ^ 31 by omega), nI_clamp (show k + 1 < 2 ^ 31 by omega), sI_nk (show (50 : Nat) ≠ 49 by decide)]
      have hk16 := hD (k + 1) (by omega)
      rw [if_neg (by omega)] at hk16
      rw [hk16.1, hk16.2]
      refine ih fz (k + 1) _ (by omega) (by omega) (fun j hj => ?_) (he.t ((Fr.sI (Or.inl rfl)).t (Fr.sI (Or.inr rfl))))
      by_cases e : j = k
      · rw [if_pos (show j < k + 1 by omega)]
        simp [sI_if, e]
      · have hj2 := hD j hj
        have e3 : (if j < k + 1 then sp (j + 1) else sp j) = (if j < k then sp (j + 1) else sp j) := by
          by_cases h9 : j < k
          · rw [if_pos h9, if_pos (by omega)]
          · rw [if_neg h9, if_neg (by omega)]
        rw [e3]
        simp [sI_if, e, hj2]
def spX (X : Xs) (e : Nat × Int32) : Xs := (X.1, X.2.1, X.2.2.1, X.2.2.2.1, (spA X.2.2.2.2.1 X.2.2.2.2.2 e).1, (spA X.2.2.2.2.1 X.2.2.2.2.2 e).2)
theorem ic_6 {xs : Nat → Int32} {x4 : Int32} {i n : Nat} {σ : St} (h : Inv i n σ) : Ok (F_lc_6 xs x4 n σ) (fun z => Inv (i + 1) z.1 z.2) := by
  obtain ⟨X, Y, bg, tp, hn, hC, hM, hS, hf, hb⟩ := h
  have hB := hS.1.bl
  unfold F_lc_6
  generalize xs (Int32.toNatClampNeg (x4 + 1)) = x
  generalize xs (Int32.toNatClampNeg (x4 + 2)) = y
  by_cases hx : x < 0
  · refine lc_n (c := 1) (v := 0) (B := fun τ => F_X7_spoil τ x y) (X2 := X) (Y2 := Y) (bg2 := bg) (tp2 := tp) hn hM hB ?_ (fun τ hτ => ?_) ⟨hS.up, by omega, hb⟩
    · unfold F_L_spoil
      refine fl_n (v := 0) ?_
      unfold F_X6_spoil F_X6_spoil_L11
      exact Ok.tt hx (Ok.so ⟨hC, Or.inr ⟨rfl, rfl⟩, Fr.rf⟩)
    · unfold F_X7_spoil
      exact Ok.eq (m_inneg hx) (Ok.eq (m_goes (b := false)) (Ok.tt rfl (Ok.so (ma_thr hτ hB))))
  obtain ⟨d, hd, rfl⟩ := i32_nn hx
  have hin : ∀ τ, F_X7_in τ (nI d).toInt64 0 300 = some (τ, bI (decide (d ≤ 300))) := fun τ => m_inle (c := 300) hd (by decide)
  by_cases h10 : d ≤ 300
  · refine lc_n (c := 0) (v := 0) (B := fun τ => F_X7_spoil τ (nI d) y) (X2 := spX X (d, y)) (Y2 := Y) (bg2 := bg) (tp2 := tp) hn hM hB ?_ (fun τ hτ => ?_) ⟨⟨hS.up.1, hS.2.1, hS.2.2.1, hS.2.2.2.to (fun _ => rfl) rfl rfl⟩, by show X.1 ≤ _; omega, hb⟩
    · unfold F_L_spoil
      refine fl_n (v := 0) ?_
      unfold F_X6_spoil
      refine Ok.ff (nI_pos hd) (Ok.tt (show _ ≤ (300 : Int32) from nI_le (b := 300) h10 (by decide)) ?_)
      refine Ok.bi (f_add hC.1.2.2.2.2.2.1 h10) (fun ρ hρ => Ok.so ⟨⟨?_, hC.2.1.fr hρ.2 (fun r j h1 h2 h => by unfold pSp at h; omega), hC.2.2.fr hρ.2 (fun j => by unfold pSp; omega) (fun j => by unfold pSp; omega)⟩, Or.inl ⟨rfl, rfl, rfl⟩, hρ.2.mo (fun a b h => by unfold pSp at h; unfold pCf; omega)⟩)
      have he := hρ.2
      obtain ⟨x1, x2, ⟨x3, x3b⟩, x4, x5, x6, ⟨a, x7⟩, ⟨v, x8⟩, ⟨g, x9⟩, ⟨q, x10⟩, ⟨w, x11⟩⟩ := hC.1
      have rr : ∀ {r : Nat} {l : List Nat}, r ≤ 16 → Rw σ r l → Rw ρ r l := fun h2 hr => hr.fr he (fun j h => by unfold pSp at h; omega) (fun j h => by unfold pSp at h; omega)
      exact ⟨by rw [he.i (by unfold pSp; omega)]; exact x1, by rw [he.i (by unfold pSp; omega)]; exact x2, ⟨by rw [he.i (by unfold pSp; omega)]; exact x3, x3b⟩, fun j hj => (x4 j hj).fr he (fun r k g1 g2 h => by unfold qq at g1; unfold pSp at h; omega), rr (by omega) x5, hρ.1, ⟨a, rr (by omega) x7⟩, ⟨v, rr (by omega) x8⟩, ⟨g, rr (by omega) x9⟩, ⟨q, rr (by omega) x10⟩, ⟨w, rr (by omega) x11⟩⟩
    · unfold F_X7_spoil
      refine Ok.eq ((hin τ).trans (by rw [decide_eq_true h10])) (Ok.eq (m_goes (b := true)) (Ok.ff (show ¬ bI true = 0 by decide) ?_))
      obtain ⟨g1, g2, g3, g4⟩ := ma_ok (V := fun _ : Nat => 0) (z := 0) (v := 0) hτ hB rfl
      dsimp only at g1 g2 g4 ⊢
      generalize sI τ 27 0 (nI (if true = true then 0 else 1)) = ρ at *
      have fin : Ok (if ρ.1 27 28 = 16 then nm (sI ρ 27 28 (ρ.1 27 28 - 1)) (fun w36 => F_X7_spoil_L38 F_X7_spoil_L80 fu w36 (nI d) y 0) else F_X7_spoil_L80 ρ (nI d) y) (fun ζ => MS ζ (spX X (d, y)).2.2.2.2.1 (spX X (d, y)).2.2.2.2.2 ∧ Fr pSm ρ ζ) := by
        have hs := g1.1.2.2.2.2.2.1
        have hs2 := hs.2.1
        show Ok _ (fun ζ => MS ζ (spA _ _ _).1 (spA _ _ _).2 ∧ Fr pSm ρ ζ)
        unfold spA
        rw [hs.1]
        by_cases h16 : X.2.2.2.2.1 < 16
        · rw [if_pos h16]
          exact Ok.ff (fun e => by have := (nI_eq (b := 16) (by omega) (by omega)).mp e; omega) (m_add80 hs h16 h10)
        · rw [if_neg h16, show X.2.2.2.2.1 = 16 by omega]
          refine Ok.tt rfl (Ok.nm ?_)
          rw [show nI 16 - 1 = nI 15 from by decide]
          have q0 : Fr (fun q j => q = 27 ∧ j = 28) ρ (sI ρ 27 28 (nI 15)) := Fr.sI ⟨rfl, rfl⟩
          have h28 : (sI ρ 27 28 (nI 15)).1 27 28 = nI 15 := sI_eq
          generalize sI ρ 27 28 (nI 15) = ω at *
          refine m_drL (σ0 := ω) (sp := X.2.2.2.2.2) h28 (fun ζ t1 t2 => ?_) 15 fu 0 ω (by unfold fu; omega) (by omega) (fun j hj => ?_) Fr.rf
          · have hs3 : MS ζ 15 (fun j => X.2.2.2.2.2 (j + 1)) := ⟨by rw [t2.i (by omega)]; exact h28, by decide, fun j hj => ⟨(t1 j hj).1, (hs.2.2 (j + 1) (by omega)).2.1, (t1 j hj).2⟩⟩
            refine (m_add80 hs3 (by decide) h10).mo (fun κ hκ => ⟨hκ.1, ((q0.mo (fun a b h => by unfold pSm; omega)).t (t2.mo (fun a b h => by unfold pSm; omega))).t hκ.2⟩)
          · rw [if_neg (by omega), q0.i (by omega), q0.i (by omega)]
            have := hs.2.2 j (by omega)
            exact ⟨this.1, this.2.2⟩
      refine fin.mo (fun ζ hζ => ?_)
      have he := hζ.2
      obtain ⟨⟨x1, x2, x3, x4, x5, x6, ⟨r, x7⟩⟩, y0, t0, z0⟩ := g1
      exact ⟨⟨⟨by rw [he.i (by unfold pSm; omega)]; exact x1, by rw [he.i (by unfold pSm; omega)]; exact x2, by rw [he.i (by unfold pSm; omega)]; exact x3, fun j hj => (x4 j hj).fr (hB j hj) he (fun q k h1 h2 => by have := lpl_lt h1; unfold pSm at h2; omega), x5.fr he (by unfold pSm; omega) (fun j => by unfold pSm; omega), hζ.1, ⟨r, x7.fr he (by unfold pSm; omega) (fun j => by unfold pSm; omega)⟩⟩, y0.fr he (fun q j h1 h2 => by unfold pS at h1; unfold pSm at h2; omega), t0.fr he (by unfold pSm; omega) (fun j => by unfold pSm; omega), z0.fr he (fun a q j h1 h2 h3 => by have := lpl_lt h2; unfold pSm at h3; omega)⟩, by rw [he.i (by unfold pSm; omega)]; exact g2, fun _ => rfl, g4.t (he.mo (fun a b h => by unfold pSm at h; omega))⟩
  · refine lc_n (c := 1) (v := 0) (B := fun τ => F_X7_spoil τ (nI d) y) (X2 := X) (Y2 := Y) (bg2 := bg) (tp2 := tp) hn hM hB ?_ (fun τ hτ => ?_) ⟨hS.up, by omega, hb⟩
    · unfold F_L_spoil
      refine fl_n (v := 0) ?_
      unfold F_X6_spoil F_X6_spoil_L11
      exact Ok.ff (nI_pos hd) (Ok.ff (show ¬ _ ≤ (300 : Int32) from nI_ge (a := 300) (by omega) hd) (Ok.so ⟨hC, Or.inr ⟨rfl, rfl⟩, Fr.rf⟩))
    · unfold F_X7_spoil
      exact Ok.eq ((hin τ).trans (by rw [decide_eq_false h10])) (Ok.eq (m_goes (b := false)) (Ok.tt rfl (Ok.so (ma_thr hτ hB))))
