/-! ===== PURE: SET, echo, what a lamp hears: class's side ===== -/
theorem Pr.kind {σ : St} {r to fr cnt kind part grp mat k2 : Nat} {data : List Nat} (h : Pr σ r to fr cnt kind part grp mat data) (hk : k2 < 256) : Pr (sI σ r 3 (nI k2)) r to fr cnt k2 part grp mat data := by
  obtain ⟨⟨a1, b1⟩, ⟨a2, b2⟩, ⟨a3, b3⟩, ⟨a4, b4⟩, ⟨a6, b6⟩, ⟨a7, b7⟩, ⟨a8, b8⟩, hd, h231⟩ := h
  refine ⟨⟨a1, b1⟩, ⟨a2, b2⟩, ⟨?_, b3⟩, ⟨sI_eq, hk⟩, ⟨?_, b6⟩, ⟨?_, b7⟩, ⟨?_, b8⟩, hd.keep (L := [r]) (Eqx.sI (by simp)) (by simp) (by simp <;> omega), h231⟩
  · rw [sI_nj (by decide)]; exact a3
  · rw [sI_nj (by decide)]; exact a6
  · rw [sI_nj (by decide)]; exact a7
  · rw [sI_nj (by decide)]; exact a8
theorem CL.lab {σ τ : St} {i : Nat} {L : Lp} {t : List Nat} (h : CL σ (qq i) L) (he : Eqx [qq i + 2, qq i + 3] σ τ) (hr : Rw τ (qq i + 2) t) : CL τ (qq i) (slab L t) := by
  obtain ⟨h1, h2, h3, h4, h5, h6⟩ := h
  have g := he (qq i) (by simp <;> omega)
  refine ⟨by rw [g.2]; exact h1, fun j hj => by rw [g.1]; exact h2 j hj, by rw [g.1]; exact h3, fun k hk => ?_, hr, fun p hp => ?_⟩
  · rw [(he (qq i + 1) (by simp <;> omega)).1]; exact h4 k hk
  · obtain ⟨t3, a1, a2⟩ := h6 p hp
    refine ⟨t3, a1.keep he (by simp <;> omega) (by simp <;> omega), ?_⟩
    rw [(he (qq i + 5) (by simp <;> omega)).1]
    exact a2
/-- something comes later -/
theorem CL.lat {σ τ : St} {i now o : Nat} {L : Lp} {t : List Nat} (h : CL σ (qq i) L) (hW : Wl o now 2 L) (he : Eqx [qq i + 6 + 2 * (now % 3), qq i + 6 + 2 * (now % 3) + 1] σ τ) (hr : Rw τ (qq i + 6 + 2 * (now % 3)) t) : CL (sI (sI τ (qq i + 5) (now % 3) 1) (qq i) 7 (nI L.2.2.2.length + 1)) (qq i) (slat L (L.2.2.2 ++ [(now + 3, t)])) := by
  obtain ⟨h1, h2, h3, h4, h5, h6⟩ := h
  obtain ⟨-, -, -, -, -, -, -, -, -, -, -, w12, -⟩ := hW
  have g := he (qq i) (by simp <;> omega)
  refine ⟨?_, fun j hj => ?_, ?_, fun k hk => ?_, ?_, fun p hp => ?_⟩
  · show τ.2 (qq i) 0 = _; rw [g.2]; exact h1
  · have : j ≠ 7 := by intro h; subst h; exact absurd hj (by decide)
    rw [sI_nj this, sI_nk (by omega), g.1]; exact h2 j hj
  · show _ = nI (L.2.2.2 ++ [(now + 3, t)]).length
    rw [sI_eq, List.length_append, nI_1]; rfl
  · rw [sI_nk (by omega), sI_nk (by omega), (he (qq i + 1) (by simp <;> omega)).1]; exact h4 k hk
  · exact (h5.keep he (by simp <;> omega) (by simp <;> omega)).keep (L := [qq i, qq i + 5]) (Eqx.tr (Eqx.sI (by simp)) (Eqx.sI (by simp))) (by simp) (by simp <;> omega)
  · by_cases hpn : p = now % 3
    · subst hpn
      refine ⟨t, hr.keep (L := [qq i, qq i + 5]) (Eqx.tr (Eqx.sI (by simp)) (Eqx.sI (by simp))) (by simp <;> omega) (by simp <;> omega), Or.inl ⟨⟨now + 3, ?_, by omega⟩, ?_⟩⟩
      · show _ ∈ L.2.2.2 ++ [(now + 3, t)]
        simp
      · rw [sI_nk (by omega), sI_eq]
    · obtain ⟨t3, a1, a2⟩ := h6 p hp
      refine ⟨t3, (a1.keep he (by simp <;> omega) (by simp <;> omega)).keep (L := [qq i, qq i + 5]) (Eqx.tr (Eqx.sI (by simp)) (Eqx.sI (by simp))) (by simp <;> omega) (by simp <;> omega), ?_⟩
      rw [sI_nk (by omega), sI_nj hpn, (he (qq i + 5) (by simp <;> omega)).1]
      show ((∃ d, (d, t3) ∈ L.2.2.2 ++ [(now + 3, t)] ∧ d % 3 = p) ∧ _) ∨ ((∀ e, e ∈ L.2.2.2 ++ [(now + 3, t)] → e.1 % 3 ≠ p) ∧ _)
      rcases a2 with ⟨⟨d, a2, a3⟩, a4⟩ | ⟨a2, a3⟩
      · exact Or.inl ⟨⟨d, by simp [a2], a3⟩, a4⟩
      · refine Or.inr ⟨fun e he => ?_, a3⟩
        rcases List.mem_append.mp he with h | h
        · exact a2 e h
        · have : e = (now + 3, t) := by simpa using h
          rw [this]
          show (now + 3) % 3 ≠ p
          omega
theorem f_obey {σ : St} {i o now to fr cnt part grp mat : Nat} {L : Lp} {f : List Nat} {own : Bool} (hC : CL σ (qq i) L) (hW : Wl o now 2 L) (hH : Hd σ 12 f) (hok : pkOk f) (hb : By f) (hs : szs f) (hn : now < 2 ^ 31) (hP : Pr σ 15 to fr cnt 0 part grp mat []) (hset : two f 21 = 130 ∨ two f 21 = 224 ∨ two f 21 = 240 ∨ two f 21 = 4096) : Ok (F_X1_obey (qq i) 12 15 σ (bI (!own)) (nI now)) (fun τ => Fr (pl3 (qq i)) σ τ ∧ CL τ (qq i) (obL L now own f) ∧ Pr τ 15 to fr cnt (if two f 21 = 130 ∧ own = true then 1 else 0) part grp mat (if two f 21 = 130 ∧ own = true then [0, 3] else [])) := by
  have hr : Rw σ 13 (dt f) := hH.2.2.2.2.2.2.2.2.1
  have h7 : σ.1 12 7 = nI (two f 21) := hH.2.2.2.2.2.2.2.1.1
  have hm := two_lt hb 21
  have h23 : f.getD 23 0 = f.getD 2 0 - 24 := hok.2.2.2.2.1
  have hlen := dt_len hok
  have b2 := hb 2
  have b24 := hb 24
  have b25 := hb 25
  have c130 : (nI (two f 21) = 130) ↔ two f 21 = 130 := nI_eq (b := 130) (by omega) (by omega)
  have c224 : (nI (two f 21) = 224) ↔ two f 21 = 224 := nI_eq (b := 224) (by omega) (by omega)
  have c240 : (nI (two f 21) = 240) ↔ two f 21 = 240 := nI_eq (b := 240) (by omega) (by omega)
  have c4096 : (nI (two f 21) = 4096) ↔ two f 21 = 4096 := nI_eq (b := 4096) (by omega) (by omega)
  have hqP : ∀ {τ : St}, Fr (pq (qq i)) σ τ → Pr τ 15 to fr cnt 0 part grp mat [] := fun he => hP.fr he (fun k j h1 h2 h => by have := h.1; unfold qq at this; omega)
  have one : ∀ (j v : Nat), j ∈ [1, 2, 8, 9, 10, 11, 12, 13, 14] → two f 21 ≠ 130 → obL L now own f = su L j v → Ok (some (sI σ (qq i) j (nI v))) (fun τ => Fr (pl3 (qq i)) σ τ ∧ CL τ (qq i) (obL L now own f) ∧ Pr τ 15 to fr cnt (if two f 21 = 130 ∧ own = true then 1 else 0) part grp mat (if two f 21 = 130 ∧ own = true then [0, 3] else [])) := by
    intro j v hj h130 ho
    refine Ok.so ⟨Fr.sI (Or.inl ⟨by omega, by omega⟩), by rw [ho]; exact hC.su hj, ?_⟩
    rw [if_neg (fun h => h130 h.1), if_neg (fun h => h130 h.1)]
    exact hqP (Fr.sI ⟨by omega, by omega⟩)
  unfold F_X1_obey
  rw [h7]
  simp only [c130, c224, c240, c4096]
  by_cases e130 : two f 21 = 130
  · rw [if_pos e130]
    have hl32 : (dt f).length ≤ 32 := by rw [hlen]; exact hs.1 e130
    have hp3 : now % 3 < 3 := Nat.mod_lt _ (by decide)
    cases own with
    | true =>
      rw [if_pos (show bI (!true) = 0 from rfl), show (3 : Int32) = nI 3 from rfl, pk_rem hn (by decide) (by decide)]
      refine Ok.ff (nI_pos (by omega)) ?_
      rw [ln_q4, ln_q5, nI_clamp (by omega), show qq i + 4 + 2 + 2 * (now % 3) = qq i + 6 + 2 * (now % 3) by omega]
      refine Ok.gd (ib_nI hp3 (by decide)) ?_
      obtain ⟨t0, t1, -⟩ := hC.2.2.2.2.2 (now % 3) hp3
      refine Ok.bi (f_copy (by unfold qq; omega) (by unfold qq; omega) (by unfold qq; omega) hr t1) (fun τ hτ => ?_)
      obtain ⟨e1, e2⟩ := hτ
      rw [ln_qp i _ hp3, take_len_le hl32] at e1
      refine Ok.gd (ib_nI hp3 (by decide)) (Ok.nm (Ok.nm (Ok.nm ?_)))
      rw [vn1]
      have hC2 := hC.lat hW e2 e1
      have e3 : (sI τ (qq i + 5) (now % 3) 1).1 (qq i) 7 = nI L.2.2.2.length := by
        rw [sI_nk (by omega), (e2 (qq i) (by simp <;> omega)).1]; exact hC.2.2.1
      rw [e3]
      have hfr : Fr (pq (qq i)) σ (sI (sI τ (qq i + 5) (now % 3) 1) (qq i) 7 (nI L.2.2.2.length + 1)) := by
        have g2 : Fr (pq (qq i)) σ τ := (Fr.ex e2).mo (fun a b h => by simp only [List.mem_cons, List.mem_nil_iff, or_false] at h; exact ⟨by omega, by omega⟩)
        exact (g2.t (Fr.sI ⟨by omega, by omega⟩)).t (Fr.sI ⟨by omega, by omega⟩)
      have hP2 := (hqP hfr).kind (k2 := 1) (by decide)
      refine wpn (b := 16) (σ0 := sI (sI (sI τ (qq i + 5) (now % 3) 1) (qq i) 7 (nI L.2.2.2.length + 1)) 15 3 (nI 1)) (l := []) (x := 3) hP2.2.2.2.2.2.2.2.1 Eqx.rf (m := 2) rfl (by decide) (by decide) rfl (by decide) (fun τ2 r2 q2 => ?_)
      refine Ok.so ⟨?_, ?_, ?_⟩
      · have g3 : Fr (pl3 (qq i)) σ (sI (sI τ (qq i + 5) (now % 3) 1) (qq i) 7 (nI L.2.2.2.length + 1)) := hfr.mo (fun a b h => Or.inl h)
        exact (g3.t (Fr.sI (Or.inr ⟨by omega, by omega⟩))).t ((Fr.ex q2).mo (fun a b h => by simp only [List.mem_cons, List.mem_nil_iff, or_false] at h; right; omega))
      · have ho : obL L now true f = slat L (L.2.2.2 ++ [(now + 3, dt f)]) := by unfold obL; rw [if_pos e130]; rfl
        rw [ho]
        refine hC2.fr (p := fun r _ => 15 ≤ r ∧ r ≤ 17) (Fr.t (p := fun r _ => 15 ≤ r ∧ r ≤ 17) (Fr.sI ⟨by omega, by omega⟩) ((Fr.ex q2).mo (fun a b h => by simp only [List.mem_cons, List.mem_nil_iff, or_false] at h; omega))) (fun r j h1 h2 h => by unfold qq at h1; omega)
      · rw [if_pos ⟨e130, rfl⟩, if_pos ⟨e130, rfl⟩]
        exact hP2.row q2 r2
    | false =>
      rw [if_neg (show ¬ bI (!false) = 0 by decide)]
      refine Ok.bi (f_copy (r0 := qq i + 2) (r1 := 12 + 1) (by unfold qq; omega) (by unfold qq; omega) (by unfold qq; omega) hr hC.2.2.2.2.1) (fun τ hτ => ?_)
      obtain ⟨e1, e2⟩ := hτ
      rw [ln_q3, take_len_le hl32] at e1
      have g2 : Fr (pq (qq i)) σ τ := (Fr.ex e2).mo (fun a b h => by simp only [List.mem_cons, List.mem_nil_iff, or_false] at h; exact ⟨by omega, by omega⟩)
      refine Ok.so ⟨g2.mo (fun a b h => Or.inl h), ?_, ?_⟩
      · have ho : obL L now false f = slab L (dt f) := by unfold obL; rw [if_pos e130]; rfl
        rw [ho]
        exact hC.lab e2 e1
      · rw [if_neg (fun h => absurd h.2 (by decide)), if_neg (fun h => absurd h.2 (by decide))]
        exact hqP g2
  rw [if_neg e130]
  by_cases e224 : two f 21 = 224
  · have hat : (dt f).getD 0 0 = f.getD 24 0 := dt_at (k := 0) (by have := hs.2.1 e224; omega)
    rw [if_pos e224]
    refine Ok.eq (f_at (r := 13) hr (k := 0) (by decide)) (Ok.nm ?_)
    rw [hat]
    exact one 9 _ (by simp) e130 (by unfold obL; rw [if_neg e130, if_pos e224])
  rw [if_neg e224]
  by_cases e240 : two f 21 = 240
  · have hn2 := hs.2.2.1 e240
    have hat : (dt f).getD 0 0 = f.getD 24 0 := dt_at (k := 0) (by omega)
    have hat1 : (dt f).getD 1 0 = f.getD 25 0 := dt_at (k := 1) (by omega)
    rw [if_pos e240]
    refine Ok.eq (f_at (r := 13) hr (k := 0) (by decide)) ?_
    refine Ok.eq (f_at (r := 13) hr (k := 1) (by decide)) (Ok.nm ?_)
    dsimp only
    rw [hat, hat1, sh8 b24 b25]
    exact one 10 _ (by simp) e130 (by unfold obL; rw [if_neg e130, if_neg e224, if_pos e240]; rfl)
  have e4096 : two f 21 = 4096 := by omega
  rw [if_neg e240, if_pos e4096]
  have hat : (dt f).getD 0 0 = f.getD 24 0 := dt_at (k := 0) (by have := hs.2.2.2 e4096; omega)
  refine Ok.eq (f_at (r := 13) hr (k := 0) (by decide)) ?_
  dsimp only
  rw [hat]
  have ho : obL L now own f = su L 12 (if f.getD 24 0 = 1 then 1 else 0) := by unfold obL; rw [if_neg e130, if_neg e224, if_neg e240, if_pos e4096]
  unfold F_X1_obey_L180
  by_cases h1 : f.getD 24 0 = 1
  · refine Ok.tt (by rw [h1]; rfl) (Ok.gd (by decide) (Ok.nm ?_))
    rw [if_pos h1] at ho
    exact one 12 1 (by simp) e130 ho
  · refine Ok.ff (fun h => h1 ((nI_eq (b := 1) (by omega) (by omega)).mp h)) (Ok.gd (by decide) (Ok.nm ?_))
    rw [if_neg h1] at ho
    exact one 12 0 (by simp) e130 ho
