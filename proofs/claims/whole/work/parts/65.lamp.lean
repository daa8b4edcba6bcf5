/-! ===== PURE: lamps, class's side ===== -/
theorem lnq (i c : Nat) (hc : c < 12) : ln (54 + 12 * i + c) = ln1.getD c 0 := by
  unfold ln
  rw [if_neg (by omega), show (54 + 12 * i + c - 54) % 12 = c by omega]
def qq (i : Nat) : Nat := 54 + 12 * i
theorem ln_q1 (i : Nat) : ln (qq i + 1) = 512 := lnq i 1 (by decide)
theorem ln_q3 (i : Nat) : ln (qq i + 2 + 1) = 32 := lnq i 3 (by decide)
theorem ln_q4 (i : Nat) : ln (qq i + 4) = 3 := lnq i 4 (by decide)
theorem ln_q5 (i : Nat) : ln (qq i + 5) = 3 := lnq i 5 (by decide)
theorem ln_qp (i p : Nat) (h : p < 3) : ln (qq i + 6 + 2 * p + 1) = 32 := by
  rcases (show p = 0 ∨ p = 1 ∨ p = 2 by omega) with e | e | e <;> subst e
  · exact lnq i 7 (by decide)
  · exact lnq i 9 (by decide)
  · exact lnq i 11 (by decide)
/-- the class's lamp at role q -/
def CL (σ : St) (q : Nat) (L : Lp) : Prop :=
  σ.2 q 0 = lN (L.1 0) ∧ (∀ j, j ∈ [1, 2, 8, 9, 10, 11, 12, 13, 14] → σ.1 q j = nI (L.1 j)) ∧ σ.1 q 7 = nI L.2.2.2.length ∧ (∀ k, k < 512 → σ.1 (q + 1) k = nI (L.2.2.1 k)) ∧ Rw σ (q + 2) L.2.1 ∧
  (∀ p, p < 3 → ∃ t, Rw σ (q + 6 + 2 * p) t ∧ (((∃ d, (d, t) ∈ L.2.2.2 ∧ d % 3 = p) ∧ σ.1 (q + 5) p = 1) ∨ ((∀ e, e ∈ L.2.2.2 → e.1 % 3 ≠ p) ∧ σ.1 (q + 5) p = 0)))
theorem CL.fr {p : Nat → Nat → Prop} {σ τ : St} {q : Nat} {L : Lp} (h : CL σ q L) (he : Fr p σ τ) (hp : ∀ r j, q ≤ r → r < q + 12 → ¬ p r j) : CL τ q L := by
  obtain ⟨h1, h2, h3, h4, h5, h6⟩ := h
  refine ⟨?_, fun j hj => ?_, ?_, fun k hk => ?_, ?_, fun p3 hp3 => ?_⟩
  · rw [he.l (hp q 0 (by omega) (by omega))]; exact h1
  · rw [he.i (hp q j (by omega) (by omega))]; exact h2 j hj
  · rw [he.i (hp q 7 (by omega) (by omega))]; exact h3
  · rw [he.i (hp (q + 1) k (by omega) (by omega))]; exact h4 k hk
  · exact h5.fr he (fun j => hp _ j (by omega) (by omega)) (fun j => hp _ j (by omega) (by omega))
  · obtain ⟨t, a1, a2⟩ := h6 p3 hp3
    refine ⟨t, a1.fr he (fun j => hp _ j (by omega) (by omega)) (fun j => hp _ j (by omega) (by omega)), ?_⟩
    rw [he.i (hp (q + 5) p3 (by omega) (by omega))]
    exact a2
/-- one number of the class's lamp is set -/
theorem CL.su {σ : St} {q : Nat} {L : Lp} (h : CL σ q L) {j v : Nat} (hj : j ∈ [1, 2, 8, 9, 10, 11, 12, 13, 14]) : CL (sI σ q j (nI v)) q (su L j v) := by
  obtain ⟨h1, h2, h3, h4, h5, h6⟩ := h
  have hne : j ≠ 7 ∧ j ≠ 0 := by
    constructor <;> (intro h; subst h; exact absurd hj (by decide))
  refine ⟨?_, fun k hk => ?_, ?_, fun k hk => ?_, ?_, fun p3 hp3 => ?_⟩
  · rw [su_ne (by omega)]; exact h1
  · by_cases e : k = j
    · subst e; rw [sI_eq, su_eq]
    · rw [sI_nj e, su_ne e]; exact h2 k hk
  · rw [sI_nj (by omega)]; exact h3
  · rw [sI_nk (by omega)]; exact h4 k hk
  · exact h5.keep (L := [q]) (Eqx.sI (by simp)) (by simp) (by simp <;> omega)
  · obtain ⟨t, a1, a2⟩ := h6 p3 hp3
    refine ⟨t, a1.keep (L := [q]) (Eqx.sI (by simp)) (by simp <;> omega) (by simp <;> omega), ?_⟩
    rw [sI_nk (by omega)]
    exact a2
theorem vn0 : vp_nar .boolean 0 = 0 := by decide
theorem vn1 : vp_nar .boolean 1 = 1 := by decide
theorem take_len_le {l : List Nat} {k : Nat} (h : l.length ≤ k) : l.take k = l := List.take_of_length_le h
theorem rip_wl {o now : Nat} {L : Lp} (h : Wl o now 3 L) : Wl o (now + 1) 2 (rip (now + 1) L) := by
  obtain ⟨h1, h2, h3, h4, h5, h6, h7, h8, h9, h10, h11, h12, h13⟩ := h
  unfold rip
  cases hl : L.2.2.2 with
  | nil =>
    dsimp only
    refine ⟨h1, h2, h3, h4, h5, h6, h7, by omega, h9, h10, h11, ?_, h13⟩
    rw [hl]; intro e he; exact absurd he (by simp)
  | cons e r =>
    dsimp only
    rw [hl] at h11 h12 h13
    have h14 := List.pairwise_cons.mp h13
    by_cases hc : e.1 = now + 1
    · rw [if_pos hc]
      have he := h12 e (by simp)
      refine ⟨h1, h2, h3, h4, h5, h6, h7, ?_, ⟨he.2.2.1, he.2.2.2⟩, h10, ?_, ?_, h14.2⟩
      · show L.1 14 ≤ now + 1; omega
      · show L.1 8 + 1 + r.length ≤ 4
        rw [List.length_cons] at h11; omega
      · intro e2 h2e
        have h15 := h12 e2 (by simp; exact Or.inr h2e)
        have h16 := h14.1 e2 h2e
        exact ⟨by omega, by omega, h15.2.2⟩
    · rw [if_neg hc]
      refine ⟨h1, h2, h3, h4, h5, h6, h7, by omega, h9, h10, by rw [hl]; exact h11, ?_, by rw [hl]; exact h13⟩
      rw [hl]
      intro e2 h2e
      have h15 := h12 e2 h2e
      have h17 := h12 e (by simp)
      have h16 : e2 = e ∨ e.1 < e2.1 := by
        rcases List.mem_cons.mp h2e with h | h
        · exact Or.inl h
        · exact Or.inr (h14.1 e2 h)
      refine ⟨?_, by omega, h15.2.2⟩
      rcases h16 with h16 | h16
      · rw [h16]; omega
      · omega
/-- only the lamp's roles differ -/
abbrev pq (q : Nat) : Nat → Nat → Prop := fun r _ => q ≤ r ∧ r < q + 12
theorem f_ripen {σ : St} {i now o : Nat} {L : Lp} (hC : CL σ (qq i) L) (hW : Wl o now 3 L) (hn : now + 1 < 2 ^ 31) : Ok (F_X1_ripen (qq i) σ (nI (now + 1))) (fun τ => CL τ (qq i) (rip (now + 1) L) ∧ Fr (pq (qq i)) σ τ) := by
  have hp : (now + 1) % 3 < 3 := Nat.mod_lt _ (by decide)
  unfold F_X1_ripen
  rw [show (3 : Int32) = nI 3 from rfl, pk_rem hn (by decide) (by decide)]
  refine Ok.ff (nI_pos (by omega)) ?_
  rw [ln_q5, ln_q4]
  refine Ok.gd (ib_nI hp (by decide)) ?_
  rw [nI_clamp (by omega)]
  generalize hpp : (now + 1) % 3 = p at hp
  have hC' := hC
  obtain ⟨h1, h2, h3, h4, h5, h6⟩ := hC
  obtain ⟨-, -, -, -, -, -, -, -, w9, -, w11, w12, w13⟩ := hW
  obtain ⟨t, a1, a2⟩ := h6 p hp
  rcases a2 with ⟨⟨d, a2, a3⟩, a4⟩ | ⟨a2, a3⟩
  · refine Ok.ff (by rw [a4]; decide) ?_
    refine Ok.gd (ib_nI hp (by decide)) ?_
    refine Ok.nm ?_
    refine Ok.gd (ib_nI hp (by decide)) ?_
    have hd := w12 (d, t) a2
    have hdn : d = now + 1 := by
      have g1 := hd.1
      have g2 := hd.2.1
      dsimp only at g1 g2
      omega
    subst hdn
    have hhead : ∃ r, L.2.2.2 = (now + 1, t) :: r := by
      cases hl : L.2.2.2 with
      | nil => rw [hl] at a2; exact absurd a2 (by simp)
      | cons e r =>
        rw [hl] at a2 w13
        rcases List.mem_cons.mp a2 with h | h
        · exact ⟨r, by rw [← h]⟩
        · have g := (List.pairwise_cons.mp w13).1 _ h
          have g2 := w12 e (by rw [hl]; simp)
          dsimp only at g
          omega
    obtain ⟨r, hr⟩ := hhead
    rw [show qq i + 4 + 2 + 2 * p = qq i + 6 + 2 * p by omega]
    have a1' : Rw (sI σ (qq i + 5) p (vp_nar .boolean 0)) (qq i + 6 + 2 * p) t := a1.keep (L := [qq i + 5]) (Eqx.sI (by simp)) (by simp <;> omega) (by simp <;> omega)
    have h5' : Rw (sI σ (qq i + 5) p (vp_nar .boolean 0)) (qq i + 2) L.2.1 := h5.keep (L := [qq i + 5]) (Eqx.sI (by simp)) (by simp) (by simp)
    refine Ok.bi (f_copy (by omega) (by omega) (by omega) a1' h5') (fun τ hτ => ?_)
    obtain ⟨e1, e2⟩ := hτ
    rw [ln_q3, take_len_le hd.2.2.1] at e1
    have e3 : τ.1 (qq i) = σ.1 (qq i) := by rw [(e2 (qq i) (by simp <;> omega)).1, sI_nk (by omega)]
    refine Ok.nm (Ok.nm (Ok.so ?_))
    have hfr : Fr (pq (qq i)) σ (sI (sI τ (qq i) 7 (τ.1 (qq i) 7 - 1)) (qq i) 8 ((sI τ (qq i) 7 (τ.1 (qq i) 7 - 1)).1 (qq i) 8 + 1)) := by
      have g1 : Fr (pq (qq i)) σ (sI σ (qq i + 5) p (vp_nar .boolean 0)) := Fr.sI ⟨by omega, by omega⟩
      have g2 : Fr (pq (qq i)) (sI σ (qq i + 5) p (vp_nar .boolean 0)) τ := (Fr.ex e2).mo (fun a b h => by simp only [List.mem_cons, List.mem_nil_iff, or_false] at h; exact ⟨by omega, by omega⟩)
      exact ((g1.tr g2 (fun _ _ h => h) (fun _ _ h => h)).tr (Fr.sI ⟨by omega, by omega⟩) (fun _ _ h => h) (fun _ _ h => h)).tr (Fr.sI ⟨by omega, by omega⟩) (fun _ _ h => h) (fun _ _ h => h)
    refine ⟨?_, hfr⟩
    have hrip : rip (now + 1) L = slat (slab (su L 8 (L.1 8 + 1)) t) r := by unfold rip; rw [hr]; exact if_pos rfl
    rw [hrip]
    have hk7 : ∀ k, k ∈ [qq i + 2, qq i + 3, qq i + 5] ∨ (sI (sI τ (qq i) 7 (τ.1 (qq i) 7 - 1)) (qq i) 8 ((sI τ (qq i) 7 (τ.1 (qq i) 7 - 1)).1 (qq i) 8 + 1)).1 k = (sI (sI σ (qq i) 7 (σ.1 (qq i) 7 - 1)) (qq i) 8 (σ.1 (qq i) 8 + 1)).1 k ∧ (sI (sI τ (qq i) 7 (τ.1 (qq i) 7 - 1)) (qq i) 8 ((sI τ (qq i) 7 (τ.1 (qq i) 7 - 1)).1 (qq i) 8 + 1)).2 k = σ.2 k := by
      intro k
      by_cases hk : k ∈ [qq i + 2, qq i + 3, qq i + 5]
      · exact Or.inl hk
      · right
        simp only [List.mem_cons, List.mem_nil_iff, or_false, not_or] at hk
        have g := e2 k (by simp <;> omega)
        constructor
        · funext j
          simp only [sI_if, e3]
          rw [g.1, sI_nk (by omega)]
          simp
        · show τ.2 k = σ.2 k
          rw [g.2]; rfl
    have v1 : ∀ k, k ∉ [qq i + 2, qq i + 3, qq i + 5] → (sI (sI τ (qq i) 7 (τ.1 (qq i) 7 - 1)) (qq i) 8 ((sI τ (qq i) 7 (τ.1 (qq i) 7 - 1)).1 (qq i) 8 + 1)).1 k = (sI (sI σ (qq i) 7 (σ.1 (qq i) 7 - 1)) (qq i) 8 (σ.1 (qq i) 8 + 1)).1 k := fun k hk => ((hk7 k).resolve_left hk).1
    refine ⟨?_, fun j hj => ?_, ?_, fun k hk => ?_, ?_, fun p3 hp3 => ?_⟩
    · rw [((hk7 (qq i)).resolve_left (by simp)).2]; exact h1
    · rw [v1 _ (by simp)]
      show _ = nI ((su L 8 (L.1 8 + 1)).1 j)
      by_cases hj8 : j = 8
      · subst hj8; rw [sI_eq, su_eq, h2 8 (by simp), nI_1]
      · have : j ≠ 7 := by intro h; subst h; exact absurd hj (by decide)
        rw [sI_nj hj8, sI_nj this, su_ne hj8]; exact h2 j hj
    · rw [v1 _ (by simp), sI_nj (by decide), sI_eq, h3, hr]
      exact nI_pred _
    · rw [v1 _ (by simp), sI_nk (by omega), sI_nk (by omega)]; exact h4 k hk
    · exact e1.keep (L := [qq i]) (Eqx.tr (Eqx.sI (by simp)) (Eqx.sI (by simp))) (by simp) (by simp <;> omega)
    · obtain ⟨t3, b1, b2⟩ := h6 p3 hp3
      refine ⟨t3, ?_, ?_⟩
      · refine ⟨?_, b1.2.1, b1.2.2.1, fun k hk => ?_⟩
        · rw [v1 _ (by simp <;> omega), sI_nk (by omega), sI_nk (by omega)]; exact b1.1
        · rw [v1 _ (by simp <;> omega), sI_nk (by omega), sI_nk (by omega)]; exact b1.2.2.2 k hk
      · have g5 : (sI (sI τ (qq i) 7 (τ.1 (qq i) 7 - 1)) (qq i) 8 ((sI τ (qq i) 7 (τ.1 (qq i) 7 - 1)).1 (qq i) 8 + 1)).1 (qq i + 5) p3 = if p3 = p then 0 else σ.1 (qq i + 5) p3 := by
          rw [sI_nk (by omega), sI_nk (by omega), (e2 (qq i + 5) (by simp <;> omega)).1, vn0]
          by_cases hh : p3 = p
          · subst hh; rw [sI_eq, if_pos rfl]
          · rw [sI_nj hh, if_neg hh]
        rw [g5]
        show (((∃ d, (d, t3) ∈ r ∧ d % 3 = p3) ∧ _) ∨ _)
        by_cases hh : p3 = p
        · right
          rw [if_pos hh]
          refine ⟨fun e he => ?_, rfl⟩
          have g6 := w12 e (by rw [hr]; simp; exact Or.inr he)
          rw [hr] at w13
          have g7 := (List.pairwise_cons.mp w13).1 e he
          dsimp only at g7
          omega
        · rw [if_neg hh]
          rcases b2 with ⟨⟨d, b2, b3⟩, b4⟩ | ⟨b2, b3⟩
          · left
            refine ⟨⟨d, ?_, b3⟩, b4⟩
            rw [hr] at b2
            rcases List.mem_cons.mp b2 with h | h
            · exfalso
              have : d = now + 1 := congrArg Prod.fst h
              omega
            · exact h
          · right
            exact ⟨fun e he => b2 e (by rw [hr]; simp; exact Or.inr he), b3⟩
  · refine Ok.tt a3 (Ok.so ⟨?_, Fr.rf⟩)
    have hrip : rip (now + 1) L = L := by
      unfold rip
      cases hl : L.2.2.2 with
      | nil => rfl
      | cons e r =>
        have g := a2 e (by rw [hl]; simp)
        exact if_neg (fun h => g (by rw [h]; exact hpp))
    rw [hrip]
    exact hC'
