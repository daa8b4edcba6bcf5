/-! ===== PURE: frames and questions, class's side ===== -/
/-- the class's line -/
def CX (σ : St) (n : Nat) (X : Xs) : Prop :=
  σ.1 0 10 = nI n ∧ σ.1 0 11 = nI X.1 ∧ (σ.1 0 12 = nI X.2.1 ∧ X.2.1 < 256) ∧ (∀ j, j < n → CL σ (qq j) (X.2.2.1 j)) ∧ Rw σ 7 X.2.2.2.1 ∧ CS σ X.2.2.2.2.1 X.2.2.2.2.2 ∧ (∃ d, Rw σ 16 d) ∧ (∃ v, Rw σ 5 v) ∧ (∃ h, Rw σ 13 h) ∧ (∃ q, Rw σ 10 q) ∧ (∃ g, Rw σ 3 g)
/-- what the lamps keep -/
def WX (o n : Nat) (X : Xs) : Prop := ∀ j, j < n → Wl o X.1 3 (X.2.2.1 j)
theorem WX.look {o n : Nat} {X : Xs} {f : List Nat} (h : WX o n X) (hb : By f) : WX (if f.getD 20 0 = 16 then o else o + 1) n (lookX n f X) := by
  intro j hj
  show Wl _ (X.1 + 1) 3 (if j < n then _ else _)
  rw [if_pos hj]
  exact ls_wl (h j hj) hb
/-- the places that a frame changes, all in all -/
abbrev pR : Nat → Nat → Prop := fun r j => (r = 0 ∧ j = 11) ∨ (5 ≤ r ∧ r ≤ 8) ∨ (12 ≤ r ∧ r ≤ 18) ∨ 54 ≤ r
theorem f_run {σ : St} {n o : Nat} {X : Xs} {f : List Nat} (hX : CX σ n X) (hn : n ≤ 24) (hW : WX o n X) (ho : o + 1 ≤ 1000) (hno : X.1 + 1 < 2 ^ 31) (h3 : Rw σ 3 f) : Ok (F_X6_runFrame n σ) (fun τ => CX τ n (lookX n f X) ∧ Fr pR σ τ) := by
  obtain ⟨x1, x2, ⟨x3, x3b⟩, x4, x5, x6, ⟨d, x7⟩, ⟨v, x8⟩, ⟨h, x9⟩, ⟨q, x10⟩, -⟩ := hX
  have hb := h3.by
  have b0 := hb 0
  have l3 := h3.2.1
  rw [show ln (3 + 1) = 513 from rfl] at l3
  unfold F_X6_runFrame
  refine Ok.nm ?_
  rw [x2, nI_1]
  have k1 : Fr (fun r j => r = 0 ∧ j = 11) σ (sI σ 0 11 (nI (X.1 + 1))) := Fr.sI ⟨rfl, rfl⟩
  refine wcut (σ0 := sI σ 0 11 (nI (X.1 + 1))) (b := 7) (l := X.2.2.2.1) (x5.fr k1 (fun j => by omega) (fun j => by omega)) Eqx.rf (fun τ0 r0 q0 => ?_)
  have k2 : Fr (fun r j => (r = 0 ∧ j = 11) ∨ (7 ≤ r ∧ r ≤ 8)) σ τ0 := (k1.mo (fun a b h => Or.inl h)).t ((Fr.ex q0).mo (fun a b h => by simp only [List.mem_cons, List.mem_nil_iff, or_false] at h; right; omega))
  have h3' : Rw τ0 3 f := h3.fr k2 (fun j => by omega) (fun j => by omega)
  -- from the packet on
  have L44 : ∀ lev : Bool, (lev = true ↔ 0 < f.length ∧ f.getD 0 0 = 0) → Ok (F_X6_runFrame_L44 n τ0 (bI lev)) (fun τ => CX τ n (lookX n f X) ∧ Fr pR σ τ) := by
    intro lev hlev
    unfold F_X6_runFrame_L44
    refine Ok.bi (f_readFrom (r := 12) (b := 3) (by omega) rfl h3' (x9.fr k2 (fun j => by omega) (fun j => by omega))) (fun y hy => ?_)
    obtain ⟨y1, ⟨d', y2⟩, y3⟩ := hy
    have k3 : Fr (fun r j => (r = 0 ∧ j = 11) ∨ (7 ≤ r ∧ r ≤ 8) ∨ (12 ≤ r ∧ r ≤ 14)) σ y.1 := (k2.mo (fun a b h => by omega)).t ((Fr.ex y1).mo (fun a b h => by simp only [List.mem_cons, List.mem_nil_iff, or_false] at h; right; right; omega))
    obtain ⟨pk, hpk, hpv⟩ : ∃ pk : Bool, (pk = true ↔ pkOk f) ∧ y.2 = bI pk := by
      rcases y3 with ⟨g1, g2, -⟩ | ⟨g1, g2⟩
      · exact ⟨true, ⟨fun _ => g1, fun _ => rfl⟩, g2⟩
      · exact ⟨false, ⟨fun h => absurd h (by decide), fun h => absurd h g1⟩, g2⟩
    rw [hpv]
    have hCI : CI y.1 n 0 f (X.1 + 1) X.2.2.1 := by
      refine ⟨fun j hj => ?_, ?_, h3.fr k3 (fun j => by omega) (fun j => by omega), fun hok => ?_, ⟨d, x7.fr k3 (fun j => by omega) (fun j => by omega)⟩, ⟨v, x8.fr k3 (fun j => by omega) (fun j => by omega)⟩, by rw [k3.i (by omega)]; exact x1, ?_⟩
      · rw [if_neg (by omega)]
        exact (x4 j hj).fr k3 (fun r k g1 g2 h => by unfold qq at g1; omega)
      · exact r0.keep y1 (by simp) (by simp)
      · rcases y3 with ⟨-, -, g⟩ | ⟨g, -⟩
        · exact g
        · exact absurd hok g
      · rw [(y1 0 (by simp)).1, (q0 0 (by simp)).1, sI_eq]
    refine f_runL (σ0 := y.1) hn hno ho hb hW hlev hpk (fun τ hI he => ?_) n fu 0 y.1 (by unfold fu; omega) (by omega) hCI Fr.rf
    obtain ⟨i1, i2, i3, -, i5, i6, i7, i8⟩ := hI
    have k4 : Fr (fun r j => (r = 0 ∧ j = 11) ∨ (5 ≤ r ∧ r ≤ 8) ∨ (12 ≤ r ∧ r ≤ 17) ∨ 54 ≤ r) σ τ := (k3.mo (fun a b h => by omega)).t (he.mo (fun a b h => by omega))
    have hcs : CS τ X.2.2.2.2.1 X.2.2.2.2.2 := ⟨by rw [k4.i (by omega)]; exact x6.1, x6.2.1, fun j hj => by rw [k4.i (by omega), k4.i (by omega)]; exact x6.2.2 j hj⟩
    have base : ∀ (ρ : St), Fr (fun r _ => r = 8 ∨ r = 18) τ ρ → Rw ρ 7 (lookX n f X).2.2.2.1 → CS ρ (lookX n f X).2.2.2.2.1 X.2.2.2.2.2 → CX ρ n (lookX n f X) ∧ Fr pR σ ρ := by
      intro ρ g1 g2 g3
      have k5 : Fr pR σ ρ := (k4.mo (fun a b h => by omega)).t (g1.mo (fun a b h => by omega))
      obtain ⟨d5, i5⟩ := i5
      obtain ⟨v6, i6⟩ := i6
      refine ⟨⟨by rw [g1.i (by omega)]; exact i7, by rw [g1.i (by omega)]; exact i8, ⟨by rw [k5.i (by unfold pR; omega)]; exact x3, x3b⟩, fun j hj => ?_, g2, g3, ⟨d5, i5.fr g1 (fun j => by omega) (fun j => by omega)⟩, ⟨v6, i6.fr g1 (fun j => by omega) (fun j => by omega)⟩, ?_, ⟨q, x10.fr k5 (fun j => by unfold pR; omega) (fun j => by unfold pR; omega)⟩, ⟨f, i3.fr g1 (fun j => by omega) (fun j => by omega)⟩⟩, k5⟩
      · show CL ρ (qq j) (if j < n then _ else _)
        rw [if_pos hj]
        have g := i1 j hj
        rw [if_pos hj] at g
        exact g.fr g1 (fun r k h1 h2 h => by unfold qq at h1; omega)
      · have y2' : Rw τ 13 d' := y2.fr he (fun j => by unfold pfr; omega) (fun j => by unfold pfr; omega)
        exact ⟨d', y2'.fr g1 (fun j => by omega) (fun j => by omega)⟩
    unfold F_X6_runFrame_L161
    refine Ok.eq (f_size i2) ?_
    dsimp only
    have hl7 := i2.2.1
    rw [show ln (7 + 1) = 257 from rfl] at hl7
    by_cases h0 : (ans f (X.1 + 1) X.2.2.1 n).length = 0
    · refine Ok.tt (show _ ≤ (0 : Int32) from nI_le (b := 0) (by omega) (by decide)) (Ok.so ?_)
      refine base τ Fr.rf ?_ ?_
      · show Rw τ 7 (flA _ _ (if _ then _ else _))
        rw [if_pos h0]; exact i2
      · show CS τ (if _ then _ else _) _
        rw [if_pos h0]; exact hcs
    · refine Ok.ff (nI_nle (by omega) (by omega)) ?_
      refine Ok.bi (f_apply hcs i2) (fun ρ hρ => Ok.so ?_)
      refine base ρ hρ.2.2 ?_ ?_
      · show Rw ρ 7 (flA _ _ (if _ then _ else _))
        rw [if_neg h0]; exact hρ.1
      · show CS ρ (if _ then _ else _) _
        rw [if_neg h0]; exact hρ.2.1
  refine Ok.eq (f_size h3') ?_
  dsimp only
  by_cases h0 : f.length = 0
  · refine Ok.tt (show _ ≤ (0 : Int32) from nI_le (b := 0) (by omega) (by decide)) ?_
    exact L44 false ⟨fun h => absurd h (by decide), fun h => by omega⟩
  · refine Ok.ff (nI_nle (by omega) (by omega)) ?_
    refine Ok.eq (f_at (r := 3) h3' (k := 0) (by decide)) ?_
    dsimp only
    by_cases hz : f.getD 0 0 = 0
    · refine Ok.tt (by rw [hz]; rfl) ?_
      exact L44 true ⟨fun _ => ⟨by omega, hz⟩, fun _ => rfl⟩
    · refine Ok.ff (nI_ne0 (by omega) (by omega)) ?_
      exact L44 false ⟨fun h => absurd h (by decide), fun h => absurd h.2 hz⟩
/-- a question begins -/
theorem f_bq {σ : St} {n to grp mat : Nat} {X : Xs} (hX : CX σ n X) (ht : to < 2 ^ 48) (hg : grp < 256) (hm : mat < 65536) : Ok (F_X6_beginQuestion σ (lN to) (nI grp) (nI mat)) (fun τ => CX τ n (X.1, (X.2.1 + 1) % 256, X.2.2) ∧ Pk τ 9 to SR ((X.2.1 + 1) % 256) 1 0 0 grp mat [] ∧ Fr (fun r j => (r = 0 ∧ j = 12) ∨ (9 ≤ r ∧ r ≤ 11)) σ τ) := by
  obtain ⟨x1, x2, ⟨x3, x3b⟩, x4, x5, x6, ⟨d, x7⟩, ⟨v, x8⟩, ⟨h, x9⟩, ⟨q, x10⟩, ⟨g, x11⟩⟩ := hX
  unfold F_X6_beginQuestion
  refine Ok.nm (Ok.nm (Ok.nm (Ok.nm (Ok.nm (Ok.nm (Ok.nm (Ok.nm (Ok.nm ?_))))))))
  rw [x3, nI_1, and255]
  have e12 : (sJ (sJ (sI σ 0 12 (nI ((X.2.1 + 1) % 256))) 9 0 (lN to)) 9 1 140728898420737).1 0 12 = nI ((X.2.1 + 1) % 256) := by
    rw [sJ_1, sJ_1, sI_eq]
  rw [e12]
  have k1 : Fr (fun r j => (r = 0 ∧ j = 12) ∨ r = 9) σ (sI (sI (sI (sI (sI (sI (sJ (sJ (sI σ 0 12 (nI ((X.2.1 + 1) % 256))) 9 0 (lN to)) 9 1 140728898420737) 9 2 (nI ((X.2.1 + 1) % 256))) 9 3 1) 9 4 0) 9 5 0) 9 6 (nI grp)) 9 7 (nI mat)) :=
    ((((((((Fr.sI (Or.inl ⟨rfl, rfl⟩)).t (Fr.sJ (Or.inr rfl))).t (Fr.sJ (Or.inr rfl))).t (Fr.sI (Or.inr rfl))).t (Fr.sI (Or.inr rfl))).t (Fr.sI (Or.inr rfl))).t (Fr.sI (Or.inr rfl))).t (Fr.sI (Or.inr rfl))).t (Fr.sI (Or.inr rfl))
  refine wcut (b := 10) (l := q) (x10.fr k1 (fun j => by omega) (fun j => by omega)) Eqx.rf (fun τ r1 q1 => Ok.so ?_)
  have k2 : Fr (fun r j => (r = 0 ∧ j = 12) ∨ (9 ≤ r ∧ r ≤ 11)) σ τ := (k1.mo (fun a b h => by omega)).t ((Fr.ex q1).mo (fun a b h => by simp only [List.mem_cons, List.mem_nil_iff, or_false] at h; omega))
  have h9 := q1 9 (by simp)
  have h00 := q1 0 (by simp)
  have hlt : (X.2.1 + 1) % 256 < 256 := Nat.mod_lt _ (by decide)
  refine ⟨⟨by rw [k2.i (by omega)]; exact x1, by rw [k2.i (by omega)]; exact x2, ⟨?_, hlt⟩, fun j hj => (x4 j hj).fr k2 (fun r k g1 g2 h => by unfold qq at g1; omega), x5.fr k2 (fun j => by omega) (fun j => by omega), ⟨by rw [k2.i (by omega)]; exact x6.1, x6.2.1, fun j hj => by rw [k2.i (by omega), k2.i (by omega)]; exact x6.2.2 j hj⟩, ⟨d, x7.fr k2 (fun j => by omega) (fun j => by omega)⟩, ⟨v, x8.fr k2 (fun j => by omega) (fun j => by omega)⟩, ⟨h, x9.fr k2 (fun j => by omega) (fun j => by omega)⟩, ⟨[], r1⟩, ⟨g, x11.fr k2 (fun j => by omega) (fun j => by omega)⟩⟩, ⟨⟨?_, ht⟩, ⟨?_, by decide⟩, ⟨?_, hlt⟩, ⟨?_, by decide⟩, ⟨?_, by decide⟩, ⟨?_, by decide⟩, ⟨?_, hg⟩, ⟨?_, hm⟩, r1, rfl⟩, k2⟩
  · rw [h00.1]; simp [sI_if, sJ_1]
  · rw [h9.2]; simp [sI_2, sJ_if]
  · rw [h9.2]; simp [sI_2, sJ_if]; rfl
  · rw [h9.1]; simp [sI_if, sJ_1]
  · rw [h9.1]; simp [sI_if, sJ_1]; rfl
  · rw [h9.1]; simp [sI_if, sJ_1]; rfl
  · rw [h9.1]; simp [sI_if, sJ_1]; rfl
  · rw [h9.1]; simp [sI_if, sJ_1]
  · rw [h9.1]; simp [sI_if, sJ_1]
/-- the line, but for a frame that is written -/
theorem CX.fr3 {σ τ : St} {n : Nat} {X : Xs} {l : List Nat} (hX : CX σ n X) (he : Fr (fun r _ => 3 ≤ r ∧ r ≤ 4) σ τ) (hr : Rw τ 3 l) : CX τ n X := by
  obtain ⟨x1, x2, ⟨x3, x3b⟩, x4, x5, x6, ⟨d, x7⟩, ⟨v, x8⟩, ⟨h, x9⟩, ⟨q, x10⟩, -⟩ := hX
  exact ⟨by rw [he.i (by omega)]; exact x1, by rw [he.i (by omega)]; exact x2, ⟨by rw [he.i (by omega)]; exact x3, x3b⟩, fun j hj => (x4 j hj).fr he (fun r k g1 g2 h => by unfold qq at g1; omega), x5.fr he (fun j => by omega) (fun j => by omega), ⟨by rw [he.i (by omega)]; exact x6.1, x6.2.1, fun j hj => by rw [he.i (by omega), he.i (by omega)]; exact x6.2.2 j hj⟩, ⟨d, x7.fr he (fun j => by omega) (fun j => by omega)⟩, ⟨v, x8.fr he (fun j => by omega) (fun j => by omega)⟩, ⟨h, x9.fr he (fun j => by omega) (fun j => by omega)⟩, ⟨q, x10.fr he (fun j => by omega) (fun j => by omega)⟩, ⟨l, hr⟩⟩
/-- the places that a question changes -/
abbrev pA : Nat → Nat → Prop := fun r j => (r = 0 ∧ (j = 11 ∨ j = 12)) ∨ (3 ≤ r ∧ r ≤ 18) ∨ 54 ≤ r
/-- a question that is written goes out -/
theorem f_send {σ : St} {n o to part grp mat : Nat} {d : List Nat} {X X0 : Xs} (hX0 : X0 = (X.1, (X.2.1 + 1) % 256, X.2.2)) (hX : CX σ n X0) (hn : n ≤ 24) (hW : WX o n X) (ho : o + 1 ≤ 1000) (hno : X.1 + 1 < 2 ^ 31) (hP : Pk σ 9 to SR ((X.2.1 + 1) % 256) 1 0 part grp mat d) : Ok ((F_X2_writeTo 9 3 σ).bind (fun y => F_X6_runFrame n y)) (fun τ => CX τ n (askX n X to part grp mat d) ∧ Fr pA σ τ) := by
  subst hX0
  obtain ⟨g, x11⟩ := hX.2.2.2.2.2.2.2.2.2.2
  refine Ok.bi (f_writeTo (b := 3) (by omega) (by decide) hP x11) (fun τ hτ => ?_)
  have k1 : Fr (fun r _ => 3 ≤ r ∧ r ≤ 4) σ τ := (Fr.ex hτ.2).mo (fun a b h => by simp only [List.mem_cons, List.mem_nil_iff, or_false] at h; omega)
  refine (f_run (X := (X.1, (X.2.1 + 1) % 256, X.2.2)) (hX.fr3 k1 hτ.1) hn hW ho hno hτ.1).mo (fun ρ hρ => ⟨hρ.1, ?_⟩)
  exact (k1.mo (fun a b h => by unfold pA; omega)).t (hρ.2.mo (fun a b h => by unfold pA pR at *; omega))
