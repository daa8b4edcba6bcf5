/-! ===== PURE: a frame on the line, model's side ===== -/
theorem lpl_ne {i j q k : Nat} (h1 : lpl i q k) (h2 : lpl j q k) : i = j := by unfold lpl at h1 h2; omega
theorem ML.oth {i j : Nat} {σ τ : St} {L : Lp} (h : ML σ j L) (hB : Bl L) (he : Fr (lpl i) σ τ) (hn : j ≠ i) : ML τ j L := h.fr hB he (fun _ _ h1 h2 => hn (lpl_ne h1 h2))
/-- 1: a place of one of the first n lamps -/
def zn (n q j : Nat) : Nat := if ∃ i, i < n ∧ lpl i q j then 1 else 0
theorem zn_of {n i q j : Nat} (h : lpl i q j) (hi : i < n) : 28 ≤ q ∧ q ≤ 44 ∧ zn n q j = 1 := by
  have := lpl_lt h
  exact ⟨this.1, this.2, if_pos ⟨i, hi, h⟩⟩
theorem zn_no {n i q j : Nat} (h : lpl i q j) (hi : n ≤ i) : ¬ zn n q j = 1 := by
  unfold zn
  rw [if_neg (fun ⟨k, h1, h2⟩ => by have := lpl_ne h h2; omega)]
  decide
abbrev pLm (n : Nat) : Nat → Nat → Prop := fun q j => 28 ≤ q ∧ q ≤ 44 ∧ zn n q j = 1
theorem m_dueL {K : St → Option St} {P : St → Prop} {n o now : Nat} {A : Nat → Lp} {σ0 : St} (hn : n ≤ 24) (hno : now + 4 < 2 ^ 31) (hW : ∀ j, j < n → Wl o now 3 (A j)) (hK : ∀ τ, (∀ j, j < n → ML τ j (rip (now + 1) (A j))) → Fr (pLm n) σ0 τ → Ok (K τ) P) : ∀ (m fz i : Nat) (σ : St), m < fz → i + m = n → σ.1 27 1 = nI n → σ.1 27 21 = nI (now + 1) → (∀ j, j < n → ML σ j (if j < i then rip (now + 1) (A j) else A j)) → Fr (pLm n) σ0 σ → Ok (F_X7_doDue_L2 K fz σ (nI i)) P := by
  intro m
  induction m with
  | zero =>
    intro fz i σ hf hi h1 h21 hM he
    cases fz with
    | zero => omega
    | succ fz =>
      unfold F_X7_doDue_L2
      refine Ok.tt (by rw [h1]; exact nI_le (by omega) (by omega)) ?_
      refine hK σ (fun j hj => ?_) he
      have := hM j hj
      rw [if_pos (by omega)] at this
      exact this
  | succ m ih =>
    intro fz i σ hf hi h1 h21 hM he
    cases fz with
    | zero => omega
    | succ fz =>
      unfold F_X7_doDue_L2
      refine Ok.ff (by rw [h1]; exact nI_ge (by omega) (by omega)) ?_
      have hMi := hM i (by omega)
      rw [if_neg (Nat.lt_irrefl i)] at hMi
      refine m_due hMi (by omega) (hW i (by omega)) h21 hno (fun τ g1 g2 => ?_)
      unfold F_X7_doDue_L110
      rw [nI_1]
      have gg : Fr (pLm n) σ τ := g2.mo (fun a b h => zn_of h (by omega))
      refine ih fz (i + 1) τ (by omega) (by omega) (by rw [gg.i (by unfold pLm; omega)]; exact h1) (by rw [gg.i (by unfold pLm; omega)]; exact h21) (fun j hj => ?_) (he.t gg)
      by_cases e : j = i
      · subst e; rw [if_pos (Nat.lt_succ_self j)]; exact g1
      · have g := hM j hj
        have hB : Bl (if j < i then rip (now + 1) (A j) else A j) := by
          split
          · exact (rip_wl (hW j hj)).bl
          · exact (hW j hj).bl
        have g' := g.oth hB g2 e
        by_cases e2 : j < i
        · rw [if_pos e2] at g'; rw [if_pos (by omega)]; exact g'
        · rw [if_neg e2] at g'; rw [if_neg (by omega)]; exact g'
theorem m_lvL {K : St → Option St} {P : St → Prop} {n o now x : Nat} {A : Nat → Lp} {f : List Nat} {σ0 : St} (hn : n ≤ 24) (hW : ∀ j, j < n → Wl o now x (A j)) (hb : By f) (hK : ∀ τ, (∀ j, j < n → ML τ j (shi f now (A j))) → Fr (pLm n) σ0 τ → Ok (K τ) P) : ∀ (m fz i : Nat) (σ : St), m < fz → i + m = n → σ.1 27 1 = nI n → σ.1 27 21 = nI now → Mw σ 46 23 f → (∀ j, j < n → ML σ j (if j < i then shi f now (A j) else A j)) → Fr (pLm n) σ0 σ → Ok (F_X7_look_L36 K fz σ (nI i)) P := by
  intro m
  induction m with
  | zero =>
    intro fz i σ hf hi h1 h21 h46 hM he
    cases fz with
    | zero => omega
    | succ fz =>
      unfold F_X7_look_L36
      refine Ok.tt (by rw [h1]; exact nI_le (by omega) (by omega)) ?_
      refine hK σ (fun j hj => ?_) he
      have := hM j hj
      rw [if_pos (by omega)] at this
      exact this
  | succ m ih =>
    intro fz i σ hf hi h1 h21 h46 hM he
    cases fz with
    | zero => omega
    | succ fz =>
      unfold F_X7_look_L36
      refine Ok.ff (by rw [h1]; exact nI_ge (by omega) (by omega)) ?_
      have hMi := hM i (by omega)
      rw [if_neg (Nat.lt_irrefl i)] at hMi
      refine Ok.bi (m_levels hMi (by omega) (hW i (by omega)) h46 h21) (fun τ hτ => ?_)
      obtain ⟨g1, g2⟩ := hτ
      rw [nI_1]
      have gg : Fr (pLm n) σ τ := g2.mo (fun a b h => zn_of h (by omega))
      refine ih fz (i + 1) τ (by omega) (by omega) (by rw [gg.i (by unfold pLm; omega)]; exact h1) (by rw [gg.i (by unfold pLm; omega)]; exact h21) (h46.fr gg (by unfold pLm; omega) (fun j => by unfold pLm; omega)) (fun j hj => ?_) (he.t gg)
      by_cases e : j = i
      · subst e; rw [if_pos (Nat.lt_succ_self j)]; exact g1
      · have g := hM j hj
        have hB : Bl (if j < i then shi f now (A j) else A j) := by
          split
          · exact (shi_wl (hW j hj) hb).bl
          · exact (hW j hj).bl
        have g' := g.oth hB g2 e
        by_cases e2 : j < i
        · rw [if_pos e2] at g'; rw [if_pos (by omega)]; exact g'
        · rw [if_neg e2] at g'; rw [if_neg (by omega)]; exact g'
/-- a packet over one lamp -/
def hp (f : List Nat) (now : Nat) (L : Lp) : Lp × List Nat :=
  if six f 3 = L.1 0 then hr f now true L else if calls (six f 3) (L.1 0) then hr f now false L else (L, [])
def an2 (f : List Nat) (now : Nat) (A : Nat → Lp) : Nat → List Nat
  | 0 => []
  | n + 1 => jn (an2 f now A n) (hp f now (A n)).2
theorem hp_wl {o now : Nat} {L : Lp} {f : List Nat} (hW : Wl o now 2 L) (hok : pkOk f) (hb : By f) : Wl (o + 1) now 3 (hp f now L).1 := by
  have h : ∀ own, Wl (o + 1) now 3 (hr f now own L).1 := fun own => (hr_wl hW hok hb).up (by split <;> omega) (by omega)
  unfold hp
  split
  · exact h _
  split
  · exact h _
  · exact hW.up (by omega) (by omega)
abbrev pLk (n : Nat) : Nat → Nat → Prop := fun q j => (28 ≤ q ∧ q ≤ 44 ∧ zn n q j = 1) ∨ q = 47 ∨ q = 48 ∨ (q = 27 ∧ (j = 25 ∨ j = 27))
theorem m_pkL2 {K : St → Option St} {P : St → Prop} {n o now : Nat} {A : Nat → Lp} {f : List Nat} {σ0 : St} (hn : n ≤ 24) (ho : o + 1 ≤ 1000) (hno : now + 3 < 2 ^ 31) (hW : ∀ j, j < n → Wl o now 2 (A j)) (hb : By f) (hok : pkOk f) (hK : ∀ τ, (∀ j, j < n → ML τ j (hp f now (A j)).1) → Mw τ 47 25 (an2 f now A n) → (∃ r, Mw τ 48 27 r) → Fr (pLk n) σ0 τ → Ok (K τ) P) : ∀ (m fz i : Nat) (σ : St), m < fz → i + m = n → σ.1 27 1 = nI n → σ.1 27 21 = nI now → Mw σ 46 23 f → (∀ j, j < n → ML σ j (if j < i then (hp f now (A j)).1 else A j)) → Mw σ 47 25 (an2 f now A i) → (∃ r, Mw σ 48 27 r) → Fr (pLk n) σ0 σ → Ok (F_X7_look_L73 K fz σ (lN (six f 3)) (nI i)) P := by
  have s3 := six_lt hb 3
  have d3 : six f 3 / 2 ^ 32 ≤ six f 3 := Nat.div_le_self _ _
  intro m
  induction m with
  | zero =>
    intro fz i σ hf hi h1 h21 h46 hM h47 h48 he
    cases fz with
    | zero => omega
    | succ fz =>
      unfold F_X7_look_L73
      refine Ok.tt (by rw [h1]; exact nI_le (by omega) (by omega)) ?_
      rw [show i = n by omega] at h47 hM
      refine hK σ (fun j hj => ?_) h47 h48 he
      have := hM j hj
      rw [if_pos hj] at this
      exact this
  | succ m ih =>
    intro fz i σ hf hi h1 h21 h46 hM h47 h48 he
    cases fz with
    | zero => omega
    | succ fz =>
      have hMi := hM i (by omega)
      rw [if_neg (Nat.lt_irrefl i)] at hMi
      have hWi := hW i (by omega)
      have hid := hWi.1.1
      have hdi : (A i).1 0 / 2 ^ 32 ≤ (A i).1 0 := Nat.div_le_self _ _
      unfold F_X7_look_L73
      refine Ok.ff (by rw [h1]; exact nI_ge (by omega) (by omega)) ?_
      refine Ok.eq (m_ownId hMi (by omega) hid) ?_
      dsimp only
      -- on to the next
      have go : ∀ (τ : St), Fr (fun q j => ph i q j ∨ pan q j) σ τ → ML τ i (hp f now (A i)).1 → Mw τ 47 25 (an2 f now A (i + 1)) → (∃ r, Mw τ 48 27 r) → Ok (F_X7_look_L73 K fz τ (lN (six f 3)) (nI i + 1)) P := by
        intro τ k1 k2 k3 k4
        have gg : Fr (pLk n) σ τ := k1.mo (fun a b h => by
          rcases h with (h | h | h) | h
          · exact Or.inl (zn_of h (by omega))
          · unfold pLk; omega
          · unfold pLk; omega
          · unfold pan at h; unfold pLk; omega)
        rw [nI_1]
        refine ih fz (i + 1) τ (by omega) (by omega) (by rw [gg.i (by unfold pLk; omega)]; exact h1) (by rw [gg.i (by unfold pLk; omega)]; exact h21) (h46.fr gg (by unfold pLk; omega) (fun j => by unfold pLk; omega)) (fun j hj => ?_) k3 k4 (he.t gg)
        by_cases e : j = i
        · subst e; rw [if_pos (Nat.lt_succ_self j)]; exact k2
        · have g := hM j hj
          have hB : Bl (if j < i then (hp f now (A j)).1 else A j) := by
            split
            · exact (hp_wl (hW j hj) hok hb).bl
            · exact (hW j hj).bl
          have g' := g.fr hB k1 (fun q k h1 h2 => by
            have hl := lpl_lt h1
            rcases h2 with (h | h | h) | h
            · exact e (lpl_ne h1 h)
            · omega
            · omega
            · unfold pan at h; omega)
          by_cases e2 : j < i
          · rw [if_pos e2] at g'; rw [if_pos (by omega)]; exact g'
          · rw [if_neg e2] at g'; rw [if_neg (by omega)]; exact g'
      have L153 : ∀ own : Bool, hp f now (A i) = hr f now own (A i) → Ok (F_X7_look_L153 (F_X7_look_L73 K fz) K σ (lN (six f 3)) (nI i) (bI own)) P := by
        intro own hown
        unfold F_X7_look_L153
        refine Ok.nm ?_
        have q0 : Fr (fun q j => q = 27 ∧ j = 27) σ (sI σ 27 27 0) := Fr.sI ⟨rfl, rfl⟩
        have e48 : Mw (sI σ 27 27 0) 48 27 [] := ⟨by rw [sI_eq]; rfl, by decide, fun k hk => absurd hk (Nat.not_lt_zero k)⟩
        have M0 : ML (sI σ 27 27 0) i (A i) := hMi.fr hWi.bl q0 (fun q j h1 h2 => by have := lpl_lt h1; omega)
        refine Ok.bi (m_hear (own := own) M0 (by omega) hWi ho hno (h46.fr q0 (by omega) (fun j => by omega)) hok e48 (by rw [q0.i (by omega)]; exact h21)) (fun τ hτ => ?_)
        obtain ⟨t1, t2, t3⟩ := hτ
        rw [← hown] at t1 t2
        have a47 : Mw τ 47 25 (an2 f now A i) := (h47.fr q0 (by omega) (fun j => by omega)).fr t3 (fun h => by
          rcases h with h | h | h
          · have := lpl_lt h; omega
          · omega
          · omega) (fun j h => by
          rcases h with h | h | h
          · have := lpl_lt h; omega
          · omega
          · omega)
        refine Ok.bi (m_fall a47 t2) (fun ρ hρ => ?_)
        have fρ : Fr (fun q j => ph i q j ∨ pan q j) σ ρ := ((q0.mo (fun a b h => Or.inl (Or.inr (Or.inr h)))).t (t3.mo (fun a b h => Or.inl h))).t (hρ.2.mo (fun a b h => Or.inr h))
        refine go ρ fρ (t1.fr (hp_wl hWi hok hb).bl hρ.2 (fun q j h1 h2 => by have := lpl_lt h1; unfold pan at h2; omega)) hρ.1 ⟨_, t2.fr hρ.2 (by unfold pan; omega) (fun j => by unfold pan; omega)⟩
      have L141 : ∀ own cb : Bool, (own = true ↔ six f 3 = (A i).1 0) → (cb = true ↔ calls (six f 3) ((A i).1 0)) → Ok (F_X7_look_L141 (F_X7_look_L73 K fz) K σ (lN (six f 3)) (nI i) (bI own) (bI cb)) P := by
        intro own cb h1 h2
        unfold F_X7_look_L141
        cases own with
        | true =>
          refine Ok.ff (by decide) (L153 true ?_)
          unfold hp; rw [if_pos (h1.mp rfl)]
        | false =>
          have h1' : ¬ six f 3 = (A i).1 0 := fun h => by have := h1.mpr h; exact absurd this (by decide)
          refine Ok.tt rfl ?_
          cases cb with
          | true =>
            refine Ok.ff (by decide) (L153 false ?_)
            unfold hp; rw [if_neg h1', if_pos (h2.mp rfl)]
          | false =>
            refine Ok.tt rfl ?_
            have e : hp f now (A i) = (A i, []) := by
              unfold hp; rw [if_neg h1', if_neg (fun h => by have := h2.mpr h; exact absurd this (by decide))]
            refine go σ Fr.rf (by rw [e]; exact hMi) ?_ h48
            show Mw σ 47 25 (jn (an2 f now A i) (hp f now (A i)).2)
            rw [e, jn_nil]
            exact h47
      have L96 : ∀ own : Bool, (own = true ↔ six f 3 = (A i).1 0) → Ok (F_X7_look_L96 (F_X7_look_L73 K fz) K σ (lN (six f 3)) (nI i) (bI own)) P := by
        intro own h1
        unfold F_X7_look_L96 F_X7_look_L136 F_X7_look_L140
        rw [rest_mask (by omega), show (32 : Int32) = nI 32 from rfl, wb_sar (by omega) (by decide)]
        by_cases hcl : isCl (six f 3)
        · refine Ok.tt (cm_0.mpr (by rw [show six f 3 % 2 ^ 32 = 2 ^ 32 - 1 from hcl]; rfl)) ?_
          by_cases h6 : six f 3 / 2 ^ 32 = 65535
          · refine Ok.tt (cm_0.mpr (by rw [h6]; rfl)) ?_
            exact L141 own true h1 ⟨fun _ => ⟨hcl, Or.inl h6⟩, fun _ => rfl⟩
          · refine Ok.ff (fun h => by rw [cm_0, lit6, pk_lEQ (by omega) (by omega)] at h; exact h6 h) ?_
            refine Ok.gd (show ib (nI i) (ln 28) = true from ib_nI (show i < 24 by omega) (by decide)) ?_
            rw [nI_clamp (by omega), hMi.1, nI_l (by omega)]
            by_cases h7 : six f 3 / 2 ^ 32 = (A i).1 0 / 2 ^ 32
            · refine Ok.tt (cm_0.mpr (by rw [h7])) ?_
              exact L141 own true h1 ⟨fun _ => ⟨hcl, Or.inr h7⟩, fun _ => rfl⟩
            · refine Ok.ff (fun h => by rw [cm_0, pk_lEQ (by omega) (by omega)] at h; exact h7 h) ?_
              exact L141 own false h1 ⟨fun h => absurd h (by decide), fun h => by rcases h.2 with h | h; exact absurd h h6; exact absurd h h7⟩
        · refine Ok.ff (fun h => by rw [cm_0, lit6, pk_lEQ (by omega) (by omega)] at h; exact hcl h) ?_
          exact L141 own false h1 ⟨fun h => absurd h (by decide), fun h => absurd h.1 hcl⟩
      by_cases ho2 : six f 3 = (A i).1 0
      · exact Ok.tt (cm_0.mpr (by rw [ho2])) (L96 true ⟨fun _ => ho2, fun _ => rfl⟩)
      · exact Ok.ff (fun h => by rw [cm_0, pk_lEQ (by omega) (by omega)] at h; exact ho2 h) (L96 false ⟨fun h => absurd h (by decide), fun h => absurd h ho2⟩)
/-- the model's spoils -/
def MS (σ : St) (sc : Nat) (sp : Nat → Nat × Int32) : Prop := σ.1 27 28 = nI sc ∧ sc ≤ 16 ∧ ∀ j, j < sc → σ.1 49 j = nI (sp j).1 ∧ (sp j).1 ≤ 300 ∧ σ.1 50 j = (sp j).2
theorem MS.fr {p : Nat → Nat → Prop} {σ τ : St} {sc : Nat} {sp : Nat → Nat × Int32} (h : MS σ sc sp) (he : Fr p σ τ) (h1 : ¬ p 27 28) (h2 : ∀ j, ¬ p 49 j ∧ ¬ p 50 j) : MS τ sc sp := ⟨by rw [he.i h1]; exact h.1, h.2.1, fun j hj => by rw [he.i (h2 j).1, he.i (h2 j).2]; exact h.2.2 j hj⟩
theorem m_spL {K : St → Option St} {P : St → Prop} {an : List Nat} {sp : Nat → Nat × Int32} {sc : Nat} {σ0 : St} (hK : ∀ τ, Mw τ 47 25 (flA an sp sc) → Fr (fun q _ => q = 47) σ0 τ → Ok (K τ) P) : ∀ (m fz k : Nat) (σ : St), m < fz → k + m = sc → MS σ sc sp → Mw σ 47 25 (flA an sp k) → Fr (fun q _ => q = 47) σ0 σ → Ok (F_X7_look_L184 K fz σ (nI k)) P := by
  intro m
  induction m with
  | zero =>
    intro fz k σ hf hk hc h he
    cases fz with
    | zero => omega
    | succ fz =>
      unfold F_X7_look_L184
      refine Ok.tt (by rw [hc.1]; exact nI_le (by omega) (by have := hc.2.1; omega)) ?_
      rw [show k = sc by omega] at h
      exact hK σ h he
  | succ m ih =>
    intro fz k σ hf hk hc h he
    cases fz with
    | zero => omega
    | succ fz =>
      have hs := hc.2.1
      obtain ⟨g1, g2, g3⟩ := hc.2.2 k (by omega)
      have hl := h.2.1
      rw [show ln 47 = 300 from rfl] at hl
      unfold F_X7_look_L184
      refine Ok.ff (by rw [hc.1]; exact nI_ge (by omega) (by omega)) ?_
      refine Ok.gd (show ib (nI k) (ln 49) = true from ib_nI (show k < 16 by omega) (by decide)) ?_
      rw [nI_clamp (by omega), g1, h.1, nI_1]
      have e1 : flA an sp (k + 1) = fl (flA an sp k) (sp k).1 (sp k).2 := rfl
      by_cases hlt : (flA an sp k).length ≤ (sp k).1
      · refine Ok.tt (nI_le hlt (by omega)) ?_
        refine ih fz (k + 1) σ (by omega) (by omega) hc ?_ he
        rw [e1]; unfold fl
        rw [List.set_eq_of_length_le hlt]
        exact h
      · refine Ok.ff (nI_ge (by omega) (by omega)) ?_
        refine Ok.gd (show ib (nI k) (ln 49) = true from ib_nI (show k < 16 by omega) (by decide)) (Ok.gd (show ib (nI k) (ln 49) = true from ib_nI (show k < 16 by omega) (by decide)) (Ok.gd (show ib (nI (sp k).1) (ln 47) = true from ib_nI (show (sp k).1 < 300 by omega) (by decide)) (Ok.gd (show ib (nI k) (ln 50) = true from ib_nI (show k < 16 by omega) (by decide)) (Ok.gd (show ib (nI (sp k).1) (ln 47) = true from ib_nI (show (sp k).1 < 300 by omega) (by decide)) (Ok.nm ?_)))))
        rw [nI_clamp (by omega), g3]
        have f1 : Fr (fun q _ => q = 47) σ (sI σ 47 (sp k).1 (vp_nar .byte (Int8.toInt32 (Int32.toInt8 (σ.1 47 (sp k).1 ^^^ (sp k).2))))) := Fr.sI rfl
        refine ih fz (k + 1) _ (by omega) (by omega) (hc.fr f1 (by omega) (fun j => by omega)) ?_ (he.t f1)
        rw [e1]; unfold fl
        refine h.set (by decide) ?_
        rw [lo8_byte, lo8_xor, h.2.2 _ (by omega)]
/-- the model's line -/
def MX (σ : St) (n : Nat) (X : Xs) : Prop :=
  σ.1 27 1 = nI n ∧ σ.1 27 21 = nI X.1 ∧ σ.1 27 31 = nI X.2.1 ∧ (∀ j, j < n → ML σ j (X.2.2.1 j)) ∧ Mw σ 47 25 X.2.2.2.1 ∧ MS σ X.2.2.2.2.1 X.2.2.2.2.2 ∧ (∃ r, Mw σ 48 27 r)
theorem ans_0 {f : List Nat} {now : Nat} {A : Nat → Lp} : ∀ n, (∀ j, j < n → (ls f now (A j)).2 = []) → ans f now A n = [] := by
  intro n
  induction n with
  | zero => intro _; rfl
  | succ n ih =>
    intro h
    show jn (ans f now A n) (ls f now (A n)).2 = []
    rw [ih (fun j hj => h j (by omega)), h n (by omega), jn_nil]
theorem ans_2 {f : List Nat} {now : Nat} {A : Nat → Lp} : ∀ n, (∀ j, j < n → ls f now (A j) = hp f now (rip now (A j))) → ans f now A n = an2 f now (fun j => rip now (A j)) n := by
  intro n
  induction n with
  | zero => intro _; rfl
  | succ n ih =>
    intro h
    show jn (ans f now A n) (ls f now (A n)).2 = jn (an2 f now (fun j => rip now (A j)) n) (hp f now (rip now (A n))).2
    rw [ih (fun j hj => h j (by omega)), h n (by omega)]
abbrev pM (n : Nat) : Nat → Nat → Prop := fun q j => (28 ≤ q ∧ q ≤ 44 ∧ zn n q j = 1) ∨ q = 47 ∨ q = 48 ∨ (q = 27 ∧ (j = 21 ∨ j = 25 ∨ j = 27 ∨ j = 28))
theorem m_look {σ : St} {n o : Nat} {X : Xs} {f : List Nat} (hX : MX σ n X) (hn : n ≤ 24) (hW : WX o n X) (ho : o + 1 ≤ 1000) (hno : X.1 + 4 < 2 ^ 31) (h46 : Mw σ 46 23 f) : Ok (F_X7_look σ) (fun τ => MX τ n (lookX n f X) ∧ Fr (pM n) σ τ) := by
  obtain ⟨x1, x2, x3, x4, x5, x6, ⟨r, x7⟩⟩ := hX
  have hb := h46.by
  have b0 := hb 0
  have l46 := h46.2.1
  rw [show ln 46 = 513 from rfl] at l46
  unfold F_X7_look
  refine Ok.nm ?_
  rw [x2, nI_1]
  generalize hw : sI σ 27 21 (nI (X.1 + 1)) = w
  have k0 : Fr (fun q j => q = 27 ∧ j = 21) σ w := by rw [← hw]; exact Fr.sI ⟨rfl, rfl⟩
  have w21 : w.1 27 21 = nI (X.1 + 1) := by rw [← hw, sI_eq]
  unfold F_X7_doDue
  have due : Ok (F_X7_doDue_L2 F_X7_doDue_L116 fu w 0) (fun τ => (∀ j, j < n → ML τ j (rip (X.1 + 1) (X.2.2.1 j))) ∧ Fr (pLm n) w τ) := by
    refine m_dueL (σ0 := w) hn hno hW (fun τ g1 g2 => Ok.so ⟨g1, g2⟩) n fu 0 w (by unfold fu; omega) (by omega) (by rw [k0.i (by omega)]; exact x1) w21 (fun j hj => ?_) Fr.rf
    rw [if_neg (Nat.not_lt_zero j)]
    exact (x4 j hj).fr (hW j hj).bl k0 (fun q k h1 h2 => by have := lpl_lt h1; omega)
  refine Ok.bi due (fun τ0 ht0 => ?_)
  obtain ⟨m0, f0⟩ := ht0
  refine Ok.nm ?_
  generalize hv : sI τ0 27 25 0 = v
  have k1 : Fr (fun q j => q = 27 ∧ j = 25) τ0 v := by rw [← hv]; exact Fr.sI ⟨rfl, rfl⟩
  have k2 : Fr (fun q j => (28 ≤ q ∧ q ≤ 44 ∧ zn n q j = 1) ∨ (q = 27 ∧ (j = 21 ∨ j = 25))) σ v := ((k0.mo (fun a b h => by omega)).t (f0.mo (fun a b h => by unfold pLm at h; omega))).t (k1.mo (fun a b h => by omega))
  have Mv : ∀ j, j < n → ML v j (rip (X.1 + 1) (X.2.2.1 j)) := fun j hj => (m0 j hj).fr (rip_wl (hW j hj)).bl k1 (fun q k h1 h2 => by have := lpl_lt h1; omega)
  have v1 : v.1 27 1 = nI n := by rw [k2.i (by omega)]; exact x1
  have v21 : v.1 27 21 = nI (X.1 + 1) := by rw [k1.i (by omega), f0.i (by unfold pLm; omega)]; exact w21
  have v46 : Mw v 46 23 f := h46.fr k2 (by omega) (fun j => by omega)
  have v47 : Mw v 47 25 [] := ⟨by rw [← hv, sI_eq]; rfl, by decide, fun k hk => absurd hk (Nat.not_lt_zero k)⟩
  have v48 : Mw v 48 27 r := x7.fr k2 (by omega) (fun j => by omega)
  -- the spoils
  have fin : ∀ τ, (∀ j, j < n → ML τ j (ls f (X.1 + 1) (X.2.2.1 j)).1) → Mw τ 47 25 (ans f (X.1 + 1) X.2.2.1 n) → (∃ r, Mw τ 48 27 r) → Fr (pLk n) v τ → Ok (F_X7_look_L175 τ) (fun τ => MX τ n (lookX n f X) ∧ Fr (pM n) σ τ) := by
    intro τ g1 g2 ⟨r2, g3⟩ g4
    have k3 : Fr (fun q j => (28 ≤ q ∧ q ≤ 44 ∧ zn n q j = 1) ∨ q = 47 ∨ q = 48 ∨ (q = 27 ∧ (j = 21 ∨ j = 25 ∨ j = 27))) σ τ := (k2.mo (fun a b h => by omega)).t (g4.mo (fun a b h => by unfold pLk at h; omega))
    have s6 : MS τ X.2.2.2.2.1 X.2.2.2.2.2 := x6.fr k3 (by omega) (fun j => by omega)
    have base : ∀ ρ, Fr (fun q j => q = 47 ∨ (q = 27 ∧ j = 28)) τ ρ → Mw ρ 47 25 (lookX n f X).2.2.2.1 → MS ρ (lookX n f X).2.2.2.2.1 X.2.2.2.2.2 → MX ρ n (lookX n f X) ∧ Fr (pM n) σ ρ := by
      intro ρ u1 u2 u3
      have k4 : Fr (pM n) σ ρ := (k3.mo (fun a b h => by unfold pM; omega)).t (u1.mo (fun a b h => by unfold pM; omega))
      refine ⟨⟨by rw [k4.i (by unfold pM; omega)]; exact x1, ?_, by rw [k4.i (by unfold pM; omega)]; exact x3, fun j hj => ?_, u2, u3, ⟨r2, g3.fr u1 (by omega) (fun j => by omega)⟩⟩, k4⟩
      · rw [u1.i (by omega), g4.i (by unfold pLk; omega)]; exact v21
      · show ML ρ j (if j < n then _ else _)
        rw [if_pos hj]
        exact (g1 j hj).fr (ls_wl (hW j hj) hb).bl u1 (fun q k h1 h2 => by have := lpl_lt h1; omega)
    have l47 := g2.2.1
    rw [show ln 47 = 300 from rfl] at l47
    unfold F_X7_look_L175
    rw [g2.1]
    by_cases h0 : (ans f (X.1 + 1) X.2.2.1 n).length = 0
    · refine Ok.tt (show _ ≤ (0 : Int32) from nI_le (b := 0) (by omega) (by decide)) (Ok.so ?_)
      refine base τ Fr.rf ?_ ?_
      · show Mw τ 47 25 (flA _ _ (if _ then _ else _))
        rw [if_pos h0]; exact g2
      · show MS τ (if _ then _ else _) _
        rw [if_pos h0]; exact s6
    · refine Ok.ff (nI_nle (by omega) (by omega)) ?_
      refine m_spL (σ0 := τ) (an := ans f (X.1 + 1) X.2.2.1 n) (sp := X.2.2.2.2.2) (sc := X.2.2.2.2.1) (fun ζ z1 z2 => ?_) X.2.2.2.2.1 fu 0 τ (by unfold fu; have := s6.2.1; omega) (by omega) s6 g2 Fr.rf
      unfold F_X7_look_L241
      refine Ok.nm (Ok.so ?_)
      have q9 : Fr (fun q j => q = 27 ∧ j = 28) ζ (sI ζ 27 28 0) := Fr.sI ⟨rfl, rfl⟩
      refine base _ ((z2.mo (fun a b h => Or.inl h)).t (q9.mo (fun a b h => Or.inr h))) ?_ ?_
      · show Mw _ 47 25 (flA _ _ (if _ then _ else _))
        rw [if_neg h0]; exact z1.fr q9 (by omega) (fun j => by omega)
      · show MS _ (if _ then _ else _) _
        rw [if_neg h0]
        exact ⟨by rw [sI_eq]; rfl, by omega, fun j hj => absurd hj (Nat.not_lt_zero j)⟩
  have hW1 : ∀ j, j < n → Wl o (X.1 + 1) 2 (rip (X.1 + 1) (X.2.2.1 j)) := fun j hj => rip_wl (hW j hj)
  -- no levels
  have L58 : ¬ (0 < f.length ∧ f.getD 0 0 = 0) → Ok (F_X7_look_L58 v) (fun τ => MX τ n (lookX n f X) ∧ Fr (pM n) σ τ) := by
    intro hnl
    unfold F_X7_look_L58
    refine Ok.eq (m_isPacket v46) ?_
    dsimp only
    by_cases hp1 : pkOk f
    · rw [if_pos hp1]
      refine Ok.ff (by decide) ?_
      refine Ok.eq (m_six v46 (u := 3) (by have := hp1.1; have := hp1.2.1; omega)) ?_
      dsimp only
      have hls : ∀ j, j < n → ls f (X.1 + 1) (X.2.2.1 j) = hp f (X.1 + 1) (rip (X.1 + 1) (X.2.2.1 j)) := by
        intro j hj
        unfold ls hp
        rw [if_neg hnl, if_pos hp1, rip_0]
      refine m_pkL2 (σ0 := v) (A := fun j => rip (X.1 + 1) (X.2.2.1 j)) hn ho (by omega) hW1 hb hp1 (fun τ g1 g2 g3 g4 => ?_) n fu 0 v (by unfold fu; omega) (by omega) v1 v21 v46 (fun j hj => ?_) v47 ⟨r, v48⟩ Fr.rf
      · refine fin τ (fun j hj => ?_) ?_ g3 g4
        · rw [hls j hj]; exact g1 j hj
        · rw [ans_2 n hls]; exact g2
      · rw [if_neg (Nat.not_lt_zero j)]; exact Mv j hj
    · rw [if_neg hp1]
      refine Ok.tt rfl ?_
      have hls : ∀ j, j < n → ls f (X.1 + 1) (X.2.2.1 j) = (rip (X.1 + 1) (X.2.2.1 j), []) := by
        intro j hj
        unfold ls
        rw [if_neg hnl, if_neg hp1]
      refine fin v (fun j hj => by rw [hls j hj]; exact Mv j hj) ?_ ⟨r, v48⟩ Fr.rf
      rw [ans_0 n (fun j hj => by rw [hls j hj])]
      exact v47
  rw [v46.1]
  by_cases h0 : f.length = 0
  · refine Ok.tt (show _ ≤ (0 : Int32) from nI_le (b := 0) (by omega) (by decide)) (L58 (by omega))
  · refine Ok.ff (nI_nle (by omega) (by omega)) ?_
    refine Ok.eq (m_at v46 (k := 0) (by omega)) ?_
    dsimp only
    by_cases hz : f.getD 0 0 = 0
    · refine Ok.tt (by rw [hz]; rfl) ?_
      have hls : ∀ j, j < n → ls f (X.1 + 1) (X.2.2.1 j) = (shi f (X.1 + 1) (rip (X.1 + 1) (X.2.2.1 j)), []) := by
        intro j hj
        unfold ls
        rw [if_pos ⟨by omega, hz⟩]
      refine m_lvL (σ0 := v) (A := fun j => rip (X.1 + 1) (X.2.2.1 j)) hn hW1 hb (fun τ g1 g2 => ?_) n fu 0 v (by unfold fu; omega) (by omega) v1 v21 v46 (fun j hj => ?_) Fr.rf
      · unfold F_X7_look_L55
        refine fin τ (fun j hj => by rw [hls j hj]; exact g1 j hj) ?_ ⟨r, v48.fr g2 (by unfold pLm; omega) (fun j => by unfold pLm; omega)⟩ (g2.mo (fun a b h => Or.inl h))
        rw [ans_0 n (fun j hj => by rw [hls j hj])]
        exact v47.fr g2 (by unfold pLm; omega) (fun j => by unfold pLm; omega)
      · rw [if_neg (Nat.not_lt_zero j)]; exact Mv j hj
    · refine Ok.ff (nI_ne0 (by omega) (by omega)) (L58 (fun h => hz h.2))
