/-! ===== PURE: the model's levels and what comes due ===== -/
theorem ML.lev {σ : St} {i : Nat} {L : Lp} (h : ML σ i L) {k v : Nat} : ML (sI σ 39 (512 * i + k) (nI v)) i (slev L (fun j => if j = k then v else L.2.2.1 j)) := by
  obtain ⟨h1, h2, h3, ⟨h4, h5⟩, h6, h7, h8, h9⟩ := h
  refine ⟨?_, h2, fun e he => ?_, ⟨?_, fun k hk => ?_⟩, fun j hj => ?_, ?_, fun k hk => ?_, fun k hk => ?_⟩
  · rw [sI_nk (by omega)]; exact h1
  · have := rjs_r e he
    rw [sI_nk (by omega)]; exact h3 e he
  · rw [sI_nk (by omega)]; exact h4
  · rw [sI_nk (by omega)]; exact h5 k hk
  · show _ = nI (if j = k then v else L.2.2.1 j)
    by_cases e : j = k
    · subst e; rw [sI_eq, if_pos rfl]
    · rw [sI_nj (by omega), if_neg e]; exact h6 j hj
  · rw [sI_nk (by omega)]; exact h7
  · rw [sI_nk (by omega)]; exact h8 k hk
  · rw [sI_nk (by omega), sI_nk (by omega), sI_nk (by omega)]; exact h9 k hk
theorem m_foot {σ : St} {i : Nat} {L : Lp} (h : ML σ i L) (hi : i < 24) : F_X7_footprint σ (nI i) = some (σ, nI (L.1 1 * L.1 9)) := by
  unfold F_X7_footprint
  rw [gd_t (show ib (nI i) (ln 30) = true from ib_nI (show i < 24 from hi) (by decide)), gd_t (show ib (nI i) (ln 32) = true from ib_nI (show i < 24 from hi) (by decide)), nI_clamp (by omega), h.sc 30 1 (by decide), h.sc 32 9 (by decide), pk_mul]
theorem m_levL {i : Nat} {K : St → Int32 → Option St} {P : St → Prop} {f : List Nat} {L : Lp} {σ0 : St} (hi : i < 24) (hs : L.1 1 * L.1 9 ≤ 512) (ha : L.1 10 ≤ 600) (hf5 : f.length ≤ 513) (hK : ∀ τ, ML τ i (slev L (fun j => if j < L.1 1 * L.1 9 ∧ L.1 10 + j < f.length then f.getD (L.1 10 + j) 0 else L.2.2.1 j)) → Fr (fun q j => q = 39 ∧ 512 * i ≤ j ∧ j < 512 * i + 512) σ0 τ → Ok (K τ (nI i)) P) : ∀ (m fz k : Nat) (σ : St), m < fz → k + m = L.1 1 * L.1 9 → Mw σ 46 23 f → ML σ i (slev L (fun j => if j < k ∧ L.1 10 + j < f.length then f.getD (L.1 10 + j) 0 else L.2.2.1 j)) → Fr (fun q j => q = 39 ∧ 512 * i ≤ j ∧ j < 512 * i + 512) σ0 σ → Ok (F_X7_takeLevels_L2 K fz σ (nI i) (nI k)) P := by
  intro m
  induction m with
  | zero =>
    intro fz k σ hf hk h46 hM he
    cases fz with
    | zero => omega
    | succ fz =>
      unfold F_X7_takeLevels_L2
      refine Ok.eq (m_foot hM hi) ?_
      refine Ok.tt (nI_le (by show L.1 1 * L.1 9 ≤ k; omega) (by omega)) ?_
      rw [show k = L.1 1 * L.1 9 by omega] at hM
      exact hK σ hM he
  | succ m ih =>
    intro fz k σ hf hk h46 hM he
    cases fz with
    | zero => omega
    | succ fz =>
      unfold F_X7_takeLevels_L2
      refine Ok.eq (m_foot hM hi) ?_
      refine Ok.ff (nI_ge (by show k < L.1 1 * L.1 9; omega) (by show L.1 1 * L.1 9 < 2 ^ 31; omega)) ?_
      refine Ok.gd (show ib (nI i) (ln 33) = true from ib_nI (show i < 24 from hi) (by decide)) ?_
      have h10 : σ.1 33 i = nI (L.1 10) := hM.sc 33 10 (by decide)
      dsimp only
      rw [nI_clamp (by omega), h10, h46.1, nI_add, nI_1]
      by_cases hle : f.length ≤ L.1 10 + k
      · refine Ok.tt (nI_le hle (by omega)) ?_
        refine ih fz (k + 1) σ (by omega) (by omega) h46 ?_ he
        have e : (fun j => if j < k + 1 ∧ L.1 10 + j < f.length then f.getD (L.1 10 + j) 0 else L.2.2.1 j) = (fun j => if j < k ∧ L.1 10 + j < f.length then f.getD (L.1 10 + j) 0 else L.2.2.1 j) := by
          funext j
          by_cases h : j < k ∧ L.1 10 + j < f.length
          · rw [if_pos h, if_pos (by omega)]
          · rw [if_neg h, if_neg (by omega)]
        rw [e]; exact hM
      · refine Ok.ff (nI_ge (by omega) (by omega)) ?_
        refine Ok.gd (show ib (nI i) (ln 33) = true from ib_nI (show i < 24 from hi) (by decide)) ?_
        refine Ok.eq (m_at h46 (by omega)) ?_
        dsimp only
        rw [show (512 : Int32) = nI 512 from rfl, pk_mul, nI_add]
        refine Ok.gd (show ib (nI (512 * i + k)) (ln 39) = true from ib_nI (show 512 * i + k < 12288 by omega) (by decide)) (Ok.nm ?_)
        rw [nI_clamp (by omega)]
        have hM2 := hM.lev (k := k) (v := f.getD (L.1 10 + k) 0)
        have q1 : Fr (fun q j => q = 39 ∧ 512 * i ≤ j ∧ j < 512 * i + 512) σ (sI σ 39 (512 * i + k) (nI (f.getD (L.1 10 + k) 0))) := Fr.sI ⟨rfl, by omega, by omega⟩
        refine ih fz (k + 1) _ (by omega) (by omega) (h46.fr q1 (by omega) (fun j => by omega)) ?_ (he.t q1)
        have e : (fun j => if j < k + 1 ∧ L.1 10 + j < f.length then f.getD (L.1 10 + j) 0 else L.2.2.1 j) = (fun j => if j = k then f.getD (L.1 10 + k) 0 else if j < k ∧ L.1 10 + j < f.length then f.getD (L.1 10 + j) 0 else L.2.2.1 j) := by
          funext j
          by_cases h1 : j = k
          · subst h1; rw [if_pos rfl, if_pos (by omega)]
          · rw [if_neg h1]
            by_cases h : j < k ∧ L.1 10 + j < f.length
            · rw [if_pos h, if_pos (by omega)]
            · rw [if_neg h, if_neg (by omega)]
        rw [e]; exact hM2
theorem m_levels {σ : St} {i now o x : Nat} {L : Lp} {f : List Nat} (hM : ML σ i L) (hi : i < 24) (hW : Wl o now x L) (h46 : Mw σ 46 23 f) (h21 : σ.1 27 21 = nI now) : Ok (F_X7_takeLevels σ (nI i)) (fun τ => ML τ i (shi f now L) ∧ Fr (lpl i) σ τ) := by
  have hl := h46.2.1
  rw [show ln 46 = 513 from rfl] at hl
  obtain ⟨-, w2, w3, w4, -⟩ := hW
  unfold F_X7_takeLevels
  refine m_levL (L := L) (f := f) (σ0 := σ) hi (by omega) (by omega) hl (fun τ hM2 he => ?_) (L.1 1 * L.1 9) fu 0 σ (by unfold fu; omega) (by omega) h46 ?_ Fr.rf
  · have h10 : τ.1 33 i = nI (L.1 10) := hM2.sc 33 10 (by decide)
    unfold F_X7_takeLevels_L56
    refine Ok.gd (show ib (nI i) (ln 33) = true from ib_nI (show i < 24 from hi) (by decide)) ?_
    rw [nI_clamp (by omega), h10, he.i (by omega), h46.1, he.i (by omega), h21]
    by_cases hle : f.length ≤ L.1 10
    · refine Ok.tt (nI_le hle (by omega)) (Ok.so ⟨?_, he.mo (fun a b h => by unfold lpl; omega)⟩)
      unfold shi
      rw [if_neg (by omega)]
      exact hM2
    · refine Ok.ff (nI_ge (by omega) (by omega)) ?_
      refine Ok.gd (show ib (nI i) (ln 40) = true from ib_nI (show i < 24 from hi) (by decide)) (Ok.nm (Ok.so ⟨?_, (he.mo (fun a b h => by unfold lpl; omega)).t (Fr.sI (by unfold lpl; omega))⟩))
      unfold shi
      rw [if_pos (by omega)]
      exact hM2.sv (j := 14) (by decide)
  · have e : slev L (fun j => if j < 0 ∧ L.1 10 + j < f.length then f.getD (L.1 10 + j) 0 else L.2.2.1 j) = L := by
      unfold slev
      have : (fun j => if j < 0 ∧ L.1 10 + j < f.length then f.getD (L.1 10 + j) 0 else L.2.2.1 j) = L.2.2.1 := by
        funext j; rw [if_neg (by omega)]
      rw [this]
    rw [e]; exact hM
/-- a text is copied to the label -/
theorem m_cpL {B2 : St → Int32 → Option St} {K116 : St → Option St} {B12 : St → Int32 → Int32 → Option St} {K110 : St → Int32 → Option St} {K104 : St → Int32 → Int32 → Option St} {P : St → Prop} {i j2 s : Nat} {u2 : Int32} {σ0 : St} (hi : i < 24) (hj : j2 < 96) (hs : s ≤ 32) (hK : ∀ τ, Fr (fun q j => q = 37 ∧ 32 * i ≤ j ∧ j < 32 * i + 32) σ0 τ → (∀ b, b < s → lo8 (τ.1 37 (32 * i + b)) = lo8 (σ0.1 44 (32 * j2 + b))) → Ok (K104 τ (nI i) u2) P) : ∀ (m fz k : Nat) (σ : St), m < fz → k + m = s → σ0.1 43 j2 = nI s → Fr (fun q j => q = 37 ∧ 32 * i ≤ j ∧ j < 32 * i + 32) σ0 σ → (∀ b, b < k → lo8 (σ.1 37 (32 * i + b)) = lo8 (σ0.1 44 (32 * j2 + b))) → Ok (F_X7_doDue_L63 B2 K116 B12 K110 K104 fz σ (nI i) u2 (nI j2) (nI k)) P := by
  intro m
  induction m with
  | zero =>
    intro fz k σ hf hk h43 he hc
    cases fz with
    | zero => omega
    | succ fz =>
      unfold F_X7_doDue_L63
      refine Ok.gd (show ib (nI j2) (ln 43) = true from ib_nI (show j2 < 96 from hj) (by decide)) ?_
      rw [nI_clamp (by omega), he.i (by omega), h43]
      refine Ok.tt (nI_le (by omega) (by omega)) ?_
      rw [show k = s by omega] at hc
      exact hK σ he hc
  | succ m ih =>
    intro fz k σ hf hk h43 he hc
    cases fz with
    | zero => omega
    | succ fz =>
      unfold F_X7_doDue_L63
      refine Ok.gd (show ib (nI j2) (ln 43) = true from ib_nI (show j2 < 96 from hj) (by decide)) ?_
      rw [nI_clamp (by omega), he.i (by omega), h43]
      refine Ok.ff (nI_ge (by omega) (by omega)) ?_
      rw [show (32 : Int32) = nI 32 from rfl, pk_mul, pk_mul, nI_add, nI_add, nI_1]
      refine Ok.gd (show ib (nI (32 * j2 + k)) (ln 44) = true from ib_nI (show 32 * j2 + k < 3072 by omega) (by decide)) (Ok.gd (show ib (nI (32 * i + k)) (ln 37) = true from ib_nI (show 32 * i + k < 768 by omega) (by decide)) (Ok.nm ?_))
      rw [nI_clamp (by omega), nI_clamp (by omega)]
      refine ih fz (k + 1) _ (by omega) (by omega) h43 (he.t (Fr.sI ⟨rfl, by omega, by omega⟩)) (fun b hb => ?_)
      by_cases e : b = k
      · subst e; rw [sI_eq, lo8_nar, he.i (by omega)]
      · rw [sI_nj (by omega)]; exact hc b (by omega)
theorem m_skip {B2 : St → Int32 → Option St} {K116 : St → Option St} {K110 : St → Int32 → Option St} {i now la8 : Nat} {σ : St} (hi : i < 24) (h41 : σ.1 41 i = nI la8) (hl : la8 ≤ 4) (h21 : σ.1 27 21 = nI now) (hn : now < 2 ^ 31) : ∀ (m fz k : Nat), k + m ≤ la8 → (∀ j, k ≤ j → j < k + m → ∃ v, σ.1 42 (4 * i + j) = nI v ∧ v ≠ now ∧ v < 2 ^ 31) → F_X7_doDue_L12 B2 K116 K110 (fz + m) σ (nI i) (nI k) = F_X7_doDue_L12 B2 K116 K110 fz σ (nI i) (nI (k + m)) := by
  intro m
  induction m with
  | zero => intro fz k _ _; rfl
  | succ m ih =>
    intro fz k hk hd
    obtain ⟨v, v1, v2, v3⟩ := hd k (by omega) (by omega)
    rw [show fz + (m + 1) = (fz + m) + 1 by omega]
    rw [F_X7_doDue_L12]
    rw [gd_t (show ib (nI i) (ln 41) = true from ib_nI (show i < 24 from hi) (by decide)), nI_clamp (by omega), h41, if_neg (nI_ge (by omega) (by omega)), show (4 : Int32) = nI 4 from rfl, pk_mul, nI_add, gd_t (show ib (nI (4 * i + k)) (ln 42) = true from ib_nI (show 4 * i + k < 96 by omega) (by decide)), nI_clamp (by omega), v1, h21, if_neg (fun h => v2 ((nI_eq v3 hn).mp h))]
    unfold F_X7_doDue_L104
    rw [nI_1, ih fz (k + 1) (by omega) (fun j h1 h2 => hd j (by omega) (by omega)), show k + 1 + m = k + (m + 1) by omega]
theorem m_exit {B2 : St → Int32 → Option St} {K116 : St → Option St} {K110 : St → Int32 → Option St} {i la8 fz : Nat} {σ : St} (hi : i < 24) (h41 : σ.1 41 i = nI la8) (hl : la8 ≤ 4) : F_X7_doDue_L12 B2 K116 K110 (fz + 1) σ (nI i) (nI la8) = K110 σ (nI i) := by
  rw [F_X7_doDue_L12]
  rw [gd_t (show ib (nI i) (ln 41) = true from ib_nI (show i < 24 from hi) (by decide)), nI_clamp (by omega), h41, if_pos (nI_le (Nat.le_refl _) (by omega))]
theorem m_due {B2 : St → Int32 → Option St} {K116 : St → Option St} {K110 : St → Int32 → Option St} {P : St → Prop} {i o now : Nat} {L : Lp} {σ : St} (hM : ML σ i L) (hi : i < 24) (hW : Wl o now 3 L) (h21 : σ.1 27 21 = nI (now + 1)) (hn : now + 4 < 2 ^ 31) (hK : ∀ τ, ML τ i (rip (now + 1) L) → Fr (lpl i) σ τ → Ok (K110 τ (nI i)) P) : Ok (F_X7_doDue_L12 B2 K116 K110 fu σ (nI i) 0) P := by
  have hB := hW.bl
  have hM' := hM
  obtain ⟨h1, h2, h3, ⟨h4, h5⟩, h6, h7, h8, h9⟩ := hM
  obtain ⟨-, -, -, -, -, -, -, -, -, -, w11, w12, w13⟩ := hW
  have hdue : ∀ k, k < L.2.2.2.length → now < (la L k).1 ∧ (la L k).1 ≤ now + 3 ∧ (la L k).2.length ≤ 32 := fun k hk => ⟨(w12 _ (la_mem hk)).1, (w12 _ (la_mem hk)).2.1, (w12 _ (la_mem hk)).2.2.1⟩
  have z0 : ∀ j, j < L.1 8 → ∃ v, σ.1 42 (4 * i + j) = nI v ∧ v ≠ now + 1 ∧ v < 2 ^ 31 := fun j hj => ⟨0, h8 j hj, by omega, by decide⟩
  cases hl : L.2.2.2 with
  | nil =>
    have e := m_skip (B2 := B2) (K116 := K116) (K110 := K110) hi h7 w11 h21 (by omega) (L.1 8) (fu - L.1 8) 0 (by omega) (fun j _ hj => z0 j (by omega))
    rw [show fu - L.1 8 + L.1 8 = fu by unfold fu; omega, Nat.zero_add] at e
    rw [show (0 : Int32) = nI 0 from rfl, e, show fu - L.1 8 = (fu - L.1 8 - 1) + 1 by unfold fu; omega]
    have e2 := m_exit (B2 := B2) (K116 := K116) (K110 := K110) (fz := fu - L.1 8 - 1) hi h7 w11
    rw [show L.1 8 + L.2.2.2.length = L.1 8 by rw [hl]; rfl] at e2
    rw [e2]
    refine hK σ ?_ Fr.rf
    have : rip (now + 1) L = L := by unfold rip; rw [hl]
    rw [this]; exact hM'
  | cons e r =>
    have hle : (la L 0) = e := by unfold la; rw [hl]; rfl
    have hlen : L.2.2.2.length = r.length + 1 := by rw [hl]; rfl
    by_cases hc : e.1 = now + 1
    · -- the head comes due
      have es := m_skip (B2 := B2) (K116 := K116) (K110 := K110) hi h7 w11 h21 (by omega) (L.1 8) (fu - L.1 8) 0 (by omega) (fun j _ hj => z0 j (by omega))
      rw [show fu - L.1 8 + L.1 8 = fu by unfold fu; omega, Nat.zero_add] at es
      rw [show (0 : Int32) = nI 0 from rfl, es, show fu - L.1 8 = (fu - L.1 8 - 1) + 1 by unfold fu; omega]
      rw [F_X7_doDue_L12]
      have g0 := h9 0 (by omega)
      rw [hle, Nat.add_zero] at g0
      refine Ok.gd (show ib (nI i) (ln 41) = true from ib_nI (show i < 24 from hi) (by decide)) ?_
      rw [nI_clamp (by omega), h7]
      refine Ok.ff (nI_ge (by omega) (by omega)) ?_
      rw [show (4 : Int32) = nI 4 from rfl, pk_mul, nI_add]
      refine Ok.gd (show ib (nI (4 * i + L.1 8)) (ln 42) = true from ib_nI (show 4 * i + L.1 8 < 96 by omega) (by decide)) ?_
      rw [nI_clamp (show 4 * i + L.1 8 < 2 ^ 31 by omega), g0.1, h21]
      refine Ok.tt (by rw [hc]) ?_
      refine Ok.gd (show ib (nI (4 * i + L.1 8)) (ln 42) = true from ib_nI (show 4 * i + L.1 8 < 96 by omega) (by decide)) (Ok.nm ?_)
      refine Ok.gd (show ib (nI (4 * i + L.1 8)) (ln 43) = true from ib_nI (show 4 * i + L.1 8 < 96 by omega) (by decide)) (Ok.gd (show ib (nI i) (ln 36) = true from ib_nI (show i < 24 from hi) (by decide)) (Ok.nm ?_))
      rw [sI_nk (show (43 : Nat) ≠ 42 by decide), g0.2.1]
      generalize hw : sI (sI σ 42 (4 * i + L.1 8) 0) 36 i (nI e.2.length) = w
      have q1 : Fr (fun q j => (q = 42 ∧ j = 4 * i + L.1 8) ∨ (q = 36 ∧ j = i)) σ w := by rw [← hw]; exact (Fr.sI (Or.inl ⟨rfl, rfl⟩)).t (Fr.sI (Or.inr ⟨rfl, rfl⟩))
      have he32 : e.2.length ≤ 32 := by have := (hdue 0 (by omega)).2.2; rw [hle] at this; exact this
      refine m_cpL (σ0 := w) (s := e.2.length) (j2 := 4 * i + L.1 8) hi (by omega) he32 (fun τ f1 f2 => ?_) e.2.length fu 0 w (by unfold fu; omega) (by omega) (by rw [q1.i (by omega)]; exact g0.2.1) Fr.rf (fun b hb => by omega)
      unfold F_X7_doDue_L104
      rw [nI_1]
      have q2 : Fr (lpl i) σ τ := (q1.mo (fun a b h => by unfold lpl; omega)).t (f1.mo (fun a b h => by unfold lpl; omega))
      have t41 : τ.1 41 i = nI (L.1 8 + L.2.2.2.length) := by rw [f1.i (by omega), q1.i (by omega)]; exact h7
      have t21 : τ.1 27 21 = nI (now + 1) := by rw [f1.i (by omega), q1.i (by omega)]; exact h21
      have r9 : ∀ k, k < r.length → la L (k + 1) = r.getD k (0, []) := fun k hk => by unfold la; rw [hl]; rfl
      have hw13 := w13
      rw [hl] at hw13
      have es2 := m_skip (B2 := B2) (K116 := K116) (K110 := K110) hi t41 w11 t21 (by omega) r.length (fu - L.1 8 - 1 - r.length) (L.1 8 + 1) (by omega) (fun j hj1 hj2 => by
        have e1 : 4 * i + j = 4 * i + L.1 8 + (j - L.1 8) := by omega
        have g := (h9 (j - L.1 8) (by omega)).1
        have d := hdue (j - L.1 8) (by omega)
        refine ⟨(la L (j - L.1 8)).1, by rw [f1.i (by omega), q1.i (by omega), e1]; exact g, ?_, by omega⟩
        have hm : la L (j - L.1 8) ∈ r := by
          rw [show j - L.1 8 = (j - L.1 8 - 1) + 1 by omega, r9 _ (by omega), List.getD_eq_getElem?_getD, List.getElem?_eq_getElem (show j - L.1 8 - 1 < r.length by omega)]
          exact List.getElem_mem _
        have := (List.pairwise_cons.mp hw13).1 _ hm
        omega)
      rw [show fu - L.1 8 - 1 - r.length + r.length = fu - L.1 8 - 1 by unfold fu; omega] at es2
      rw [es2, show fu - L.1 8 - 1 - r.length = (fu - L.1 8 - 2 - r.length) + 1 by unfold fu; omega, show L.1 8 + 1 + r.length = L.1 8 + L.2.2.2.length by omega, m_exit hi t41 w11]
      refine hK τ ?_ q2
      have hrip : rip (now + 1) L = slat (slab (su L 8 (L.1 8 + 1)) e.2) r := by unfold rip; rw [hl]; exact if_pos hc
      rw [hrip]
      refine ⟨?_, ?_, fun e' he' => ?_, ⟨?_, fun k hk => ?_⟩, fun k hk => ?_, ?_, fun k hk => ?_, fun k hk => ?_⟩
      · rw [f1.i (by omega), q1.i (by omega)]; exact h1
      · rw [f1.l (by omega), q1.l (by omega)]; exact h2
      · have g1 := rjs_r e' he'
        have g2 := rjs_j e' he'
        rw [f1.i (by omega), q1.i (by omega), h3 e' he']
        show _ = nI ((su L 8 (L.1 8 + 1)).1 e'.2)
        rw [su_ne g2.2]
      · rw [f1.i (by omega), ← hw, sI_eq]; rfl
      · rw [f2 k hk, q1.i (by omega)]
        have := g0.2.2 k hk
        exact this
      · rw [f1.i (by omega), q1.i (by omega)]; exact h6 k hk
      · rw [t41]
        show nI (L.1 8 + L.2.2.2.length) = nI ((su L 8 (L.1 8 + 1)).1 8 + r.length)
        rw [su_eq]; congr 1; omega
      · change k < (su L 8 (L.1 8 + 1)).1 8 at hk
        rw [su_eq] at hk
        rw [f1.i (by omega)]
        by_cases hk8 : k = L.1 8
        · subst hk8; rw [← hw, sI_nk (by decide), sI_eq]
        · rw [q1.i (by omega)]; exact h8 k (by omega)
      · change k < r.length at hk
        have g := h9 (k + 1) (by omega)
        have e8 : (slat (slab (su L 8 (L.1 8 + 1)) e.2) r).1 8 = L.1 8 + 1 := by show (su L 8 (L.1 8 + 1)).1 8 = L.1 8 + 1; exact su_eq
        have el : la (slat (slab (su L 8 (L.1 8 + 1)) e.2) r) k = la L (k + 1) := (r9 k hk).symm
        rw [e8, el, show 4 * i + (L.1 8 + 1) + k = 4 * i + L.1 8 + (k + 1) by omega]
        have hb9 := (hdue (k + 1) (by omega)).2.2
        refine ⟨by rw [f1.i (by omega), q1.i (by omega)]; exact g.1, by rw [f1.i (by omega), q1.i (by omega)]; exact g.2.1, fun b hb => by rw [f1.i (by omega), q1.i (by omega)]; exact g.2.2 b hb⟩
    · -- nothing comes due
      have es := m_skip (B2 := B2) (K116 := K116) (K110 := K110) hi h7 w11 h21 (by omega) (L.1 8 + L.2.2.2.length) (fu - (L.1 8 + L.2.2.2.length)) 0 (by omega) (fun j _ hj => by
        by_cases hj8 : j < L.1 8
        · exact z0 j hj8
        · have e1 : 4 * i + j = 4 * i + L.1 8 + (j - L.1 8) := by omega
          have g := (h9 (j - L.1 8) (by omega)).1
          have d := hdue (j - L.1 8) (by omega)
          refine ⟨(la L (j - L.1 8)).1, by rw [e1]; exact g, ?_, by omega⟩
          by_cases hj0 : j - L.1 8 = 0
          · rw [hj0, hle]; exact hc
          · have hm : la L (j - L.1 8) ∈ r := by
              unfold la
              rw [hl, show j - L.1 8 = (j - L.1 8 - 1) + 1 by omega]
              show r.getD (j - L.1 8 - 1) (0, []) ∈ r
              rw [List.getD_eq_getElem?_getD, List.getElem?_eq_getElem (show j - L.1 8 - 1 < r.length by omega)]
              exact List.getElem_mem _
            have hw13 := w13
            rw [hl] at hw13
            have := (List.pairwise_cons.mp hw13).1 _ hm
            have d0 := hdue 0 (by omega)
            rw [hle] at d0
            omega)
      rw [show fu - (L.1 8 + L.2.2.2.length) + (L.1 8 + L.2.2.2.length) = fu by unfold fu; omega, Nat.zero_add] at es
      rw [show (0 : Int32) = nI 0 from rfl, es, show fu - (L.1 8 + L.2.2.2.length) = (fu - (L.1 8 + L.2.2.2.length) - 1) + 1 by unfold fu; omega, m_exit hi h7 w11]
      refine hK σ ?_ Fr.rf
      have : rip (now + 1) L = L := by unfold rip; rw [hl]; exact if_neg hc
      rw [this]; exact hM'
