/-! ===== PURE: a frame on the line, class's side ===== -/
theorem Wl.up {o o2 now x x2 : Nat} {L : Lp} (h : Wl o now x L) (ho : o ≤ o2) (hx : x ≤ x2) : Wl o2 now x2 L := by
  obtain ⟨w1, w2, w3, w4, w5, w6, w7, w8, w9, w10, w11, w12, w13⟩ := h
  exact ⟨w1, w2, w3, w4, w5, w6, by omega, w8, w9, w10, w11, fun e he => ⟨(w12 e he).1, by have := (w12 e he).2.1; omega, (w12 e he).2.2⟩, w13⟩
theorem hrO_wl {o now : Nat} {L : Lp} {f : List Nat} {own set : Bool} (hW : Wl o now 2 L) (hok : pkOk f) (hb : By f) : Wl o now 3 (hrO f now own set L).1 := by
  have h3 := hW.up (Nat.le_refl o) (show 2 ≤ 3 by decide)
  unfold hrO
  cases hf : formR (two f 18) (two f 21) set (f.getD 23 0) with
  | some r => exact h3
  | none =>
    dsimp only
    cases set with
    | true =>
      rw [if_pos rfl]
      have hsz := formR_szs hf
      cases hv : valR L own f with
      | some r => exact h3
      | none => exact obL_wl hW hok hb ⟨hsz.1, hsz.2.1, hsz.2.2.1, hsz.2.2.2.1⟩ hv
    | false =>
      rw [if_neg (by decide)]
      dsimp only
      rw [if_neg (by decide)]
      by_cases h32 : two f 21 = 32
      · rw [if_pos h32]
        by_cases h8 : L.1 8 = 0
        · rw [if_pos h8]; exact h3
        · rw [if_neg h8]
          obtain ⟨w1, w2, w3, w4, w5, w6, w7, w8, w9, w10, w11, w12, w13⟩ := h3
          refine ⟨w1, w2, w3, w4, w5, w6, w7, w8, w9, w10, ?_, w12, w13⟩
          show (su L 8 (L.1 8 - 1)).1 8 + L.2.2.2.length ≤ 4
          rw [su_eq]; omega
      · rw [if_neg h32]; exact h3
theorem hrS_wl {o now : Nat} {L : Lp} {f : List Nat} {own : Bool} (h3 : Wl o now 3 L) : Wl o now 3 (hrS f own L).1 := by
  unfold hrS
  split
  · split <;> exact h3
  split
  · obtain ⟨w1, w2, w3, w4, w5, w6, w7, w8, w9, w10, w11, w12, w13⟩ := h3
    refine ⟨w1, w2, w3, w4, ?_, w6, w7, w8, w9, w10, w11, w12, w13⟩
    show (su L 11 _).1 11 ≤ 1
    rw [su_eq]
    split <;> omega
  · exact h3
theorem hr_wl {o now : Nat} {L : Lp} {f : List Nat} {own : Bool} (hW : Wl o now 2 L) (hok : pkOk f) (hb : By f) : Wl (if f.getD 20 0 = 16 then o else o + 1) now 3 (hr f now own L).1 := by
  have hsu : Wl (o + 1) now 2 (su L 13 (L.1 13 + 1)) := by
    obtain ⟨w1, w2, w3, w4, w5, w6, w7, w8, w9, w10, w11, w12, w13⟩ := hW
    exact ⟨w1, w2, w3, w4, w5, w6, by rw [su_eq]; omega, w8, w9, w10, w11, w12, w13⟩
  unfold hr
  by_cases e16 : f.getD 20 0 = 16
  · rw [if_pos e16, if_pos e16]
    exact hrS_wl (hW.up (Nat.le_refl _) (by decide))
  rw [if_neg e16, if_neg e16]
  split
  · split
    · exact hrO_wl hsu hok hb
    · exact hW.up (by omega) (by omega)
  split
  · split
    · exact hrO_wl hsu hok hb
    · exact (hrO_wl hW hok hb).up (by omega) (by omega)
  · exact hW.up (by omega) (by omega)
theorem shi_wl {o now x : Nat} {L : Lp} {f : List Nat} (hW : Wl o now x L) (hb : By f) : Wl o now x (shi f now L) := by
  obtain ⟨w1, w2, w3, w4, w5, w6, w7, w8, w9, w10, w11, w12, w13⟩ := hW
  have key : ∀ L' : Lp, Wl o now x L' → (∀ g : Nat → Nat, (∀ k, g k < 256) → Wl o now x (slev L' g)) := by
    intro L' h g hg
    obtain ⟨w1, w2, w3, w4, w5, w6, w7, w8, w9, w10, w11, w12, w13⟩ := h
    exact ⟨w1, w2, w3, w4, w5, w6, w7, w8, w9, hg, w11, w12, w13⟩
  unfold shi
  refine key _ ?_ _ (fun k => ?_)
  · split
    · exact ⟨w1, w2, w3, w4, w5, w6, w7, by rw [su_eq]; omega, w9, w10, w11, w12, w13⟩
    · exact ⟨w1, w2, w3, w4, w5, w6, w7, w8, w9, w10, w11, w12, w13⟩
  · split
    · exact hb _
    · exact w10 k
theorem rip_0 {now : Nat} {L : Lp} : (rip now L).1 0 = L.1 0 := by
  unfold rip
  split
  · rfl
  · split <;> rfl
theorem ls_wl {o now : Nat} {L : Lp} {f : List Nat} (hW : Wl o now 3 L) (hb : By f) : Wl (if f.getD 20 0 = 16 then o else o + 1) (now + 1) 3 (ls f (now + 1) L).1 := by
  have h2 := rip_wl hW
  have hup : Wl (if f.getD 20 0 = 16 then o else o + 1) (now + 1) 3 (rip (now + 1) L) := h2.up (by split <;> omega) (by omega)
  have hhr : ∀ own, pkOk f → Wl (if f.getD 20 0 = 16 then o else o + 1) (now + 1) 3 (hr f (now + 1) own (rip (now + 1) L)).1 := fun own hok => hr_wl h2 hok hb
  generalize (if f.getD 20 0 = 16 then o else o + 1) = o2 at hup hhr ⊢
  unfold ls
  split
  · exact shi_wl hup hb
  split
  · rename_i hok
    split
    · exact hhr _ hok
    split
    · exact hhr _ hok
    · exact hup
  · exact hup
/-- the class's spoils -/
def CS (σ : St) (sc : Nat) (sp : Nat → Nat × Int32) : Prop := σ.1 18 2 = nI sc ∧ sc ≤ 16 ∧ ∀ j, j < sc → σ.1 19 j = nI (sp j).1 ∧ (sp j).1 ≤ 300 ∧ σ.1 20 j = (sp j).2
theorem f_apL {K : St → Option St} {P : St → Prop} {an : List Nat} {sp : Nat → Nat × Int32} {sc : Nat} {σ0 : St} (hK : ∀ τ, Rw τ 7 (flA an sp sc) → Eqx [8] σ0 τ → Ok (K τ) P) : ∀ (m fz k : Nat) (σ : St), m < fz → k + m = sc → CS σ sc sp → Rw σ 7 (flA an sp k) → Eqx [8] σ0 σ → Ok (F_X5_applyTo_L2 7 K fz σ (nI k)) P := by
  intro m
  induction m with
  | zero =>
    intro fz k σ hf hk hc h he
    cases fz with
    | zero => omega
    | succ fz =>
      unfold F_X5_applyTo_L2
      refine Ok.tt (by rw [hc.1]; exact nI_le (by omega) (by have := hc.2.1; omega)) ?_
      rw [show k = sc by omega] at h
      exact hK σ h he
  | succ m ih =>
    intro fz k σ hf hk hc h he
    cases fz with
    | zero => omega
    | succ fz =>
      have hs := hc.2.1
      obtain ⟨g1, g2, g3⟩ := hc.2.2 k (by omega)
      unfold F_X5_applyTo_L2
      refine Ok.ff (by rw [hc.1]; exact nI_ge (by omega) (by omega)) ?_
      refine Ok.gd (ib_nI (show k < 16 by omega) (by decide)) (Ok.gd (ib_nI (show k < 16 by omega) (by decide)) ?_)
      rw [nI_clamp (by omega), g1, g3]
      refine Ok.bi (f_flip h (by omega) _) (fun τ hτ => ?_)
      rw [nI_1]
      have hc2 : CS τ sc sp := ⟨by rw [(hτ.2 18 (by simp)).1]; exact hc.1, hs, fun j hj => by rw [(hτ.2 19 (by simp)).1, (hτ.2 20 (by simp)).1]; exact hc.2.2 j hj⟩
      exact ih fz (k + 1) τ (by omega) (by omega) hc2 hτ.1 (Eqx.tr he hτ.2)
theorem f_apply {σ : St} {an : List Nat} {sc : Nat} {sp : Nat → Nat × Int32} (hc : CS σ sc sp) (h : Rw σ 7 an) : Ok (F_X5_applyTo 7 σ) (fun τ => Rw τ 7 (flA an sp sc) ∧ CS τ 0 sp ∧ Fr (fun r _ => r = 8 ∨ r = 18) σ τ) := by
  unfold F_X5_applyTo
  refine f_apL (an := an) (sp := sp) (sc := sc) (σ0 := σ) (fun τ r q => ?_) sc fu 0 σ (by unfold fu; have := hc.2.1; omega) (by omega) hc h Eqx.rf
  unfold F_X5_applyTo_L32
  refine Ok.nm (Ok.so ⟨r.keep (L := [18]) (Eqx.sI (by simp)) (by simp) (by simp), ⟨by rw [sI_eq]; rfl, by omega, fun j hj => by omega⟩, ?_⟩)
  exact ((Fr.ex q).mo (fun a b h => by simp only [List.mem_cons, List.mem_nil_iff, or_false] at h; omega)).t (Fr.sI (Or.inr rfl))
/-- the places that a frame changes -/
abbrev pfr : Nat → Nat → Prop := fun r _ => (5 ≤ r ∧ r ≤ 8) ∨ (15 ≤ r ∧ r ≤ 17) ∨ 54 ≤ r
/-- what stands while the lamps hear -/
def CI (σ : St) (n i : Nat) (f : List Nat) (now : Nat) (A : Nat → Lp) : Prop :=
  (∀ j, j < n → CL σ (qq j) (if j < i then (ls f now (A j)).1 else A j)) ∧ Rw σ 7 (ans f now A i) ∧ Rw σ 3 f ∧ (pkOk f → Hd σ 12 f) ∧ (∃ d, Rw σ 16 d) ∧ (∃ v, Rw σ 5 v) ∧ σ.1 0 10 = nI n ∧ σ.1 0 11 = nI now
theorem CI.next {σ τ : St} {n i : Nat} {f : List Nat} {now : Nat} {A : Nat → Lp} (h : CI σ n i f now A) (hi : i < n) (hfr : Fr (fun r _ => (qq i ≤ r ∧ r < qq i + 12) ∨ (15 ≤ r ∧ r ≤ 17) ∨ (5 ≤ r ∧ r ≤ 8)) σ τ) (hC : CL τ (qq i) (ls f now (A i)).1) (hr : Rw τ 7 (ans f now A (i + 1))) (hd : ∃ d, Rw τ 16 d) (hv : ∃ v, Rw τ 5 v) : CI τ n (i + 1) f now A := by
  obtain ⟨h1, h2, h3, h4, h5, h6, h7, h8⟩ := h
  refine ⟨fun j hj => ?_, hr, h3.fr hfr (fun j => by unfold qq; omega) (fun j => by unfold qq; omega), fun hok => (h4 hok).fr hfr (fun k j g1 g2 => by unfold qq; omega), hd, hv, by rw [hfr.i (by unfold qq; omega)]; exact h7, by rw [hfr.i (by unfold qq; omega)]; exact h8⟩
  by_cases e : j = i
  · subst e; rw [if_pos (by omega)]; exact hC
  · have g := (h1 j hj).fr hfr (fun r k g1 g2 => by unfold qq at g1 g2 ⊢; omega)
    by_cases e2 : j < i
    · rw [if_pos e2] at g; rw [if_pos (by omega)]; exact g
    · rw [if_neg e2] at g; rw [if_neg (by omega)]; exact g
theorem f_runL {n now o : Nat} {f : List Nat} {A : Nat → Lp} {lev pk : Bool} {K : St → Option St} {P : St → Prop} {σ0 : St} (hn : n ≤ 24) (hno : now + 1 < 2 ^ 31) (ho : o + 1 ≤ 1000) (hb : By f) (hW : ∀ j, j < n → Wl o now 3 (A j)) (hlev : lev = true ↔ 0 < f.length ∧ f.getD 0 0 = 0) (hpk : pk = true ↔ pkOk f) (hK : ∀ τ, CI τ n n f (now + 1) A → Fr pfr σ0 τ → Ok (K τ) P) : ∀ (m fz i : Nat) (σ : St), m < fz → i + m = n → CI σ n i f (now + 1) A → Fr pfr σ0 σ → Ok (F_X6_runFrame_L59 n K fz σ (bI lev) (bI pk) (nI i)) P := by
  have s3 := six_lt hb 3
  intro m
  induction m with
  | zero =>
    intro fz i σ hf hi hI he
    cases fz with
    | zero => omega
    | succ fz =>
      unfold F_X6_runFrame_L59
      refine Ok.tt (by rw [hI.2.2.2.2.2.2.1]; exact nI_le (by omega) (by omega)) ?_
      rw [show i = n by omega] at hI
      exact hK σ hI he
  | succ m ih =>
    intro fz i σ hf hi hI he
    cases fz with
    | zero => omega
    | succ fz =>
      have hI' := hI
      obtain ⟨h1, h2, h3, h4, ⟨d, h5⟩, ⟨v, h6⟩, h7, h8⟩ := hI
      have hWi := hW i (by omega)
      have hWr := rip_wl hWi
      have hCi := h1 i (by omega)
      rw [if_neg (by omega)] at hCi
      unfold F_X6_runFrame_L59
      refine Ok.ff (by rw [h7]; exact nI_ge (by omega) (by omega)) ?_
      refine Ok.gd (ib_nI (by omega) (by omega)) ?_
      rw [nI_clamp (by omega)]
      refine Ok.gd (decide_eq_true (by omega)) ?_
      rw [h8, show 54 + 12 * i = qq i from rfl]
      refine Ok.bi (f_ripen hCi hWi hno) (fun τ1 ht1 => ?_)
      obtain ⟨c1, f1⟩ := ht1
      -- onwards
      have go : ∀ (τ : St), Fr (fun r _ => (qq i ≤ r ∧ r < qq i + 12) ∨ (15 ≤ r ∧ r ≤ 17) ∨ (5 ≤ r ∧ r ≤ 8)) σ τ → CL τ (qq i) (ls f (now + 1) (A i)).1 → Rw τ 7 (ans f (now + 1) A (i + 1)) → (∃ d, Rw τ 16 d) → (∃ v, Rw τ 5 v) → Ok (F_X6_runFrame_L59 n K fz τ (bI lev) (bI pk) (nI i + 1)) P := by
        intro τ g1 g2 g3 g4 g5
        rw [nI_1]
        exact ih fz (i + 1) τ (by omega) (by omega) (hI'.next (by omega) g1 g2 g3 g4 g5) (he.t (g1.mo (fun a b h => by rcases h with h | h | h; right; right; unfold qq at h; omega; right; left; exact h; left; exact h)))
      have f1' : Fr (fun r _ => (qq i ≤ r ∧ r < qq i + 12) ∨ (15 ≤ r ∧ r ≤ 17) ∨ (5 ≤ r ∧ r ≤ 8)) σ τ1 := f1.mo (fun a b h => Or.inl h)
      have r7 : Rw τ1 7 (ans f (now + 1) A i) := h2.fr f1 (fun j => by unfold pq qq; omega) (fun j => by unfold pq qq; omega)
      have r16 : Rw τ1 16 d := h5.fr f1 (fun j => by unfold pq qq; omega) (fun j => by unfold pq qq; omega)
      have r5 : Rw τ1 5 v := h6.fr f1 (fun j => by unfold pq qq; omega) (fun j => by unfold pq qq; omega)
      have r3 : Rw τ1 3 f := h3.fr f1 (fun j => by unfold pq qq; omega) (fun j => by unfold pq qq; omega)
      have e11 : τ1.1 0 11 = nI (now + 1) := by rw [f1.i (by unfold pq qq; omega)]; exact h8
      -- nothing said
      have silent : ∀ (τ : St), Fr (pq (qq i)) σ τ → CL τ (qq i) (ls f (now + 1) (A i)).1 → (ls f (now + 1) (A i)).2 = [] → Ok (F_X6_runFrame_L59 n K fz τ (bI lev) (bI pk) (nI i + 1)) P := by
        intro τ g1 g2 g3
        refine go τ (g1.mo (fun a b h => Or.inl h)) g2 ?_ ⟨d, h5.fr g1 (fun j => by unfold pq qq; omega) (fun j => by unfold pq qq; omega)⟩ ⟨v, h6.fr g1 (fun j => by unfold pq qq; omega) (fun j => by unfold pq qq; omega)⟩
        show Rw τ 7 (jn (ans f (now + 1) A i) (ls f (now + 1) (A i)).2)
        rw [g3, jn_nil]
        exact h2.fr g1 (fun j => by unfold pq qq; omega) (fun j => by unfold pq qq; omega)
      by_cases hl : lev = true
      · have hl2 := hlev.mp hl
        have hnpk : ¬ pkOk f := fun h => by have := h.2.2.1; omega
        have hpkf : pk = false := by
          cases pk with
          | false => rfl
          | true => exact absurd (hpk.mp rfl) hnpk
        have hls : ls f (now + 1) (A i) = (shi f (now + 1) (rip (now + 1) (A i)), []) := by unfold ls; rw [if_pos hl2]
        rw [hl] at silent ⊢
        refine Ok.ff (by decide) ?_
        rw [e11]
        refine Ok.bi (f_shine c1 hWr r3) (fun τ2 ht2 => ?_)
        unfold F_X6_runFrame_L101
        rw [hpkf] at silent ⊢
        refine Ok.tt rfl ?_
        exact silent τ2 (f1.t ht2.2) (by rw [hls]; exact ht2.1) (by rw [hls])
      · have hlf : lev = false := by simpa using hl
        have hnl : ¬ (0 < f.length ∧ f.getD 0 0 = 0) := fun h => hl (hlev.mpr h)
        rw [hlf] at silent go ⊢
        refine Ok.tt rfl ?_
        unfold F_X6_runFrame_L101
        by_cases hp : pkOk f
        · have hpt : pk = true := hpk.mpr hp
          rw [hpt] at silent go ⊢
          refine Ok.ff (by decide) ?_
          have hH : Hd τ1 12 f := (h4 hp).fr f1 (fun k j g1 g2 => by unfold pq qq; omega)
          have hw1 := hWi.1
          rw [hH.1.1]
          refine Ok.eq (f_isMeantBy (L := rip (now + 1) (A i)) c1 (by rw [rip_0]; omega) (by rw [rip_0]; omega) s3) ?_
          dsimp only
          rw [rip_0]
          by_cases hme : six f 3 = (A i).1 0 ∨ calls (six f 3) ((A i).1 0)
          · rw [if_pos hme]
            refine Ok.ff (by decide) ?_
            obtain ⟨own, hown, hls⟩ : ∃ own : Bool, (own = true ↔ ¬ isCl (six f 3)) ∧ ls f (now + 1) (A i) = hr f (now + 1) own (rip (now + 1) (A i)) := by
              by_cases hid : six f 3 = (A i).1 0
              · refine ⟨true, ⟨fun _ h => ?_, fun _ => rfl⟩, ?_⟩
                · unfold isCl at h; rw [hid] at h; omega
                · unfold ls; rw [if_neg hnl, if_pos hp, if_pos hid]
              · have hca : calls (six f 3) ((A i).1 0) := hme.resolve_left hid
                refine ⟨false, ⟨fun h => absurd h (by decide), fun h => absurd hca.1 h⟩, ?_⟩
                unfold ls; rw [if_neg hnl, if_pos hp, if_neg hid, if_pos hca]
            rw [e11]
            refine Ok.bi (f_speaks c1 hWr ho hH hp hb r16 r5 hno hown) (fun y hy => ?_)
            rw [← hls] at hy
            obtain ⟨y1, y2, y3, y4, y5⟩ := hy
            have fy : Fr (fun r _ => (qq i ≤ r ∧ r < qq i + 12) ∨ (15 ≤ r ∧ r ≤ 17) ∨ (5 ≤ r ∧ r ≤ 8)) σ y.1 := f1'.t (y2.mo (fun a b h => by rcases h with h | h | h; exact Or.inl h; exact Or.inr (Or.inl h); exact Or.inr (Or.inr ⟨by omega, by omega⟩)))
            have r7y : Rw y.1 7 (ans f (now + 1) A i) := r7.fr y2 (fun j => by unfold pl5 qq; omega) (fun j => by unfold pl5 qq; omega)
            rcases y5 with ⟨e1, e2, e3⟩ | ⟨e1, e2⟩
            · refine Ok.ff (by rw [e1]; decide) ?_
              have hlen := e2.2.1
              rw [show ln (5 + 1) = 257 from rfl] at hlen
              refine Ok.bi (f_join (r0 := 7) (r1 := 5) (by omega) (by omega) (by omega) r7y e2 (by rw [show ln (7 + 1) = 257 from rfl]; exact hlen)) (fun τ3 ht3 => ?_)
              have f3 : Fr (fun r _ => (qq i ≤ r ∧ r < qq i + 12) ∨ (15 ≤ r ∧ r ≤ 17) ∨ (5 ≤ r ∧ r ≤ 8)) y.1 τ3 := (Fr.ex ht3.2).mo (fun a b h => by simp only [List.mem_cons, List.mem_nil_iff, or_false] at h; right; right; omega)
              obtain ⟨d3, hd3⟩ := y3
              refine go τ3 (fy.t f3) (y1.fr (Fr.ex ht3.2) (fun r j g1 g2 h => by simp only [List.mem_cons, List.mem_nil_iff, or_false] at h; unfold qq at g1; omega)) ht3.1 ⟨d3, hd3.keep ht3.2 (by simp) (by simp)⟩ ⟨_, e2.keep ht3.2 (by simp) (by simp)⟩
            · refine Ok.tt e1 ?_
              refine go y.1 fy y1 ?_ y3 y4
              show Rw y.1 7 (jn (ans f (now + 1) A i) (ls f (now + 1) (A i)).2)
              rw [e2, jn_nil]
              exact r7y
          · rw [if_neg hme]
            refine Ok.tt rfl ?_
            have hls : ls f (now + 1) (A i) = (rip (now + 1) (A i), []) := by
              unfold ls
              rw [if_neg hnl, if_pos hp, if_neg (fun h => hme (Or.inl h)), if_neg (fun h => hme (Or.inr h))]
            exact silent τ1 f1 (by rw [hls]; exact c1) (by rw [hls])
        · have hpf : pk = false := by
            cases pk with
            | false => rfl
            | true => exact absurd (hpk.mp rfl) hp
          rw [hpf] at silent ⊢
          refine Ok.tt rfl ?_
          have hls : ls f (now + 1) (A i) = (rip (now + 1) (A i), []) := by unfold ls; rw [if_neg hnl, if_neg hp]
          exact silent τ1 f1 (by rw [hls]; exact c1) (by rw [hls])
