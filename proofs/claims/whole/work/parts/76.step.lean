/-! ===== PURE: steps of the search, class's side ===== -/
theorem Ok.b2 {α β γ : Type} {o : Option α} {g : α → Option β} {k : β → Option γ} {Q : β → Prop} {P : γ → Prop} (h : Ok (o.bind g) Q) (hk : ∀ z, Q z → Ok (k z) P) : Ok (o.bind (fun y => (g y).bind k)) P := by
  rw [← Option.bind_assoc]
  exact Ok.bi h hk
theorem By.cons {a : Nat} {l : List Nat} (ha : a < 256) (h : By l) : By (a :: l) := by
  intro k
  cases k with
  | zero => exact ha
  | succ k => exact h k
theorem By.nil : By [] := fun k => by rw [nD_ge (Nat.zero_le _)]; decide
theorem By.app {a b : List Nat} (ha : By a) (hb : By b) : By (a ++ b) := by
  induction a with
  | nil => exact hb
  | cons x a ih => exact By.cons (ha 0) (ih (fun k => ha (k + 1)))
theorem By.be (x k : Nat) : By (be x k) := by
  induction k with
  | zero => exact By.nil
  | succ k ih => exact By.cons (Nat.mod_lt _ (by decide)) ih
theorem pkt_by {to fr cnt kind msgs part grp mat : Nat} {d : List Nat} (h1 : cnt < 256) (h2 : kind < 256) (h3 : msgs < 256) (h4 : grp < 256) (h5 : d.length ≤ 231) (h6 : By d) : By (pkt to fr cnt kind msgs part grp mat d) := by
  unfold pkt pb
  exact By.app (By.cons (by decide) (By.cons (by decide) (By.cons (by omega) ((By.be _ _).app ((By.be _ _).app (By.cons h1 (By.cons h2 (By.cons h3 ((By.be _ _).app (By.cons h4 ((By.be _ _).app (By.cons (by omega) h6)))))))))))) (By.be _ _)
theorem pkt_20 {to fr cnt kind msgs part grp mat : Nat} {d : List Nat} : (pkt to fr cnt kind msgs part grp mat d).getD 20 0 = grp := rfl
theorem WX.ask {o n to part mat grp : Nat} {X : Xs} {d : List Nat} (h : WX o n X) (hg : grp < 256) (h5 : d.length ≤ 231) (h6 : By d) : WX (if grp = 16 then o else o + 1) n (askX n X to part grp mat d) := by
  have := WX.look (X := (X.1, (X.2.1 + 1) % 256, X.2.2)) (f := pkt to SR ((X.2.1 + 1) % 256) 1 0 part grp mat d) h (pkt_by (Nat.mod_lt _ (by decide)) (by decide) (by decide) hg h5 h6)
  rw [pkt_20] at this
  exact this
theorem f_ws {σ : St} {n o to mat : Nat} {X : Xs} (hX : CX σ n X) (hn : n ≤ 24) (hW : WX o n X) (ho : o + 1 ≤ 1000) (hno : X.1 + 1 < 2 ^ 31) (ht : to < 2 ^ 48) (hm : mat < 65536) : Ok ((F_X6_writeSearch σ (lN to) (nI mat)).bind (fun y => F_X6_runFrame n y)) (fun τ => CX τ n (askX n X to 0 16 mat []) ∧ Fr pA σ τ) := by
  unfold F_X6_writeSearch
  rw [Option.bind_assoc]
  refine Ok.bi (f_bq hX ht (show 16 < 256 by decide) hm) (fun τ hτ => ?_)
  rw [Option.bind_assoc]
  refine (f_send (X := X) rfl hτ.1 hn hW ho hno hτ.2.1).mo (fun ρ hρ => ⟨hρ.1, ?_⟩)
  exact (hτ.2.2.mo (fun a b h => by unfold pA; omega)).t hρ.2
abbrev pT : Nat → Nat → Prop := fun r j => (r = 0 ∧ (j = 11 ∨ j = 12)) ∨ (3 ≤ r ∧ r ≤ 18) ∨ 54 ≤ r ∨ (21 ≤ r ∧ r ≤ 24)
theorem CX.frH {σ τ : St} {n : Nat} {X : Xs} (hX : CX σ n X) (he : Fr pH σ τ) : CX τ n X := by
  obtain ⟨x1, x2, ⟨x3, x3b⟩, x4, x5, x6, ⟨d, x7⟩, ⟨v, x8⟩, ⟨h, x9⟩, ⟨q, x10⟩, ⟨g, x11⟩⟩ := hX
  exact ⟨by rw [he.i (by unfold pH; omega)]; exact x1, by rw [he.i (by unfold pH; omega)]; exact x2, ⟨by rw [he.i (by unfold pH; omega)]; exact x3, x3b⟩, fun j hj => (x4 j hj).fr he (fun r k g1 g2 h => by unfold qq at g1; unfold pH at h; omega), x5.fr he (fun j => by unfold pH; omega) (fun j => by unfold pH; omega), ⟨by rw [he.i (by unfold pH; omega)]; exact x6.1, x6.2.1, fun j hj => by rw [he.i (by unfold pH; omega), he.i (by unfold pH; omega)]; exact x6.2.2 j hj⟩, ⟨d, x7.fr he (fun j => by unfold pH; omega) (fun j => by unfold pH; omega)⟩, ⟨v, x8.fr he (fun j => by unfold pH; omega) (fun j => by unfold pH; omega)⟩, ⟨h, x9.fr he (fun j => by unfold pH; omega) (fun j => by unfold pH; omega)⟩, ⟨q, x10.fr he (fun j => by unfold pH; omega) (fun j => by unfold pH; omega)⟩, ⟨g, x11.fr he (fun j => by unfold pH; omega) (fun j => by unfold pH; omega)⟩⟩
/-- what the found ones keep -/
def WF (Y : Ys) : Prop := (∀ j, j < Y.2.2.1 → Y.2.2.2.1 j < 2 ^ 48) ∧ Y.2.2.1 ≤ 24
theorem f_try {σ : St} {n o bg id : Nat} {X : Xs} {Y : Ys} (hX : CX σ n X) (hY : CY σ bg Y) (hn : n ≤ 24) (hW : WX o n X) (ho : o + 1 ≤ 1000) (hno : X.1 + 2 < 2 ^ 31) (hid : id < 2 ^ 48) (hF : WF Y) (hk : (tryX n X id).2 = 1 → ¬ has Y id → Y.2.2.1 < 24) : Ok (F_X6_tryId n σ (lN id)) (fun y => CX y.1 n (tryX n X id).1 ∧ CY y.1 bg (if (tryX n X id).2 = 1 then kep Y id else Y) ∧ y.2 = nI (tryX n X id).2 ∧ Fr pT σ y.1) := by
  have hWa : WX o n (askX n X id 0 16 2 []) := WX.ask (to := id) (part := 0) (mat := 2) (grp := 16) (d := []) hW (by decide) (by decide) By.nil
  unfold F_X6_tryId
  refine Ok.b2 (f_ws (mat := 2) hX hn hW ho (by omega) hid (by decide)) (fun τ hτ => ?_)
  obtain ⟨t1, t2⟩ := hτ
  have kT : Fr pT σ τ := t2.mo (fun a b h => by unfold pA pT at *; omega)
  have hY1 : CY τ bg Y := hY.fr t2 (fun r j h1 h2 h => by unfold pA at h; omega)
  have r7 : Rw τ 7 (askX n X id 0 16 2 []).2.2.2.1 := t1.2.2.2.2.1
  have l7 := r7.2.1
  rw [show ln (7 + 1) = 257 from rfl] at l7
  have b7 := r7.by
  -- doubt
  have dbt : ∀ ρ : St, CX ρ n (askX n X id 0 16 2 []) → CY ρ bg Y → Fr pT σ ρ → (askX n X id 0 16 2 []).2.2.2.1.length ≠ 0 → ¬ isFnd (askX n X id 0 16 2 []) id → Ok (F_X6_tryId_L73 n ρ (lN id)) (fun y => CX y.1 n (tryX n X id).1 ∧ CY y.1 bg (if (tryX n X id).2 = 1 then kep Y id else Y) ∧ y.2 = nI (tryX n X id).2 ∧ Fr pT σ y.1) := by
    intro ρ g1 g2 g3 g4 g5
    have e : tryX n X id = (askX n (askX n X id 0 16 2 []) id 0 16 3 [], 2) := by unfold tryX; rw [if_neg g4, if_neg g5]
    rw [e]
    unfold F_X6_tryId_L73
    refine Ok.b2 (f_ws (mat := 3) g1 hn hWa ho (show X.1 + 1 + 1 < 2 ^ 31 by omega) hid (by decide)) (fun ρ2 h2 => Ok.so ⟨h2.1, ?_, rfl, ?_⟩)
    · rw [if_neg (show ¬ 2 = 1 by decide)]
      exact g2.fr h2.2 (fun r j h1 h2 h => by unfold pA at h; omega)
    · exact g3.t (h2.2.mo (fun a b h => by unfold pA pT at *; omega))
  refine Ok.eq (f_size r7) ?_
  dsimp only
  by_cases h0 : (askX n X id 0 16 2 []).2.2.2.1.length = 0
  · refine Ok.tt (by rw [h0]; rfl) (Ok.so ?_)
    have e : tryX n X id = (askX n X id 0 16 2 [], 0) := by unfold tryX; rw [if_pos h0]
    rw [e]
    exact ⟨t1, by rw [if_neg (show ¬ 0 = 1 by decide)]; exact hY1, rfl, kT⟩
  · refine Ok.ff (nI_ne0 (by omega) (by omega)) ?_
    refine Ok.bi (f_isRep t1 hid) (fun y hy => ?_)
    obtain ⟨y1, y2, y3⟩ := hy
    have kY : Fr pT σ y.1 := kT.t (y2.mo (fun a b h => by unfold pT; omega))
    have hY2 : CY y.1 bg Y := hY1.fr y2 (fun r j h1 h2 h => by omega)
    rcases y3 with ⟨g1, g2, g3⟩ | ⟨g1, g2⟩
    · refine Ok.ff (by rw [g2]; decide) ?_
      have b20 := b7 20
      have b16 := b7 16
      have t21 := two_lt b7 21
      rw [g3.2.2.2.2.2.2.1.1, g3.2.2.2.2.2.2.2.1.1, g3.2.2.2.1.1]
      by_cases e17 : (askX n X id 0 16 2 []).2.2.2.1.getD 20 0 = 17
      · refine Ok.tt (by rw [e17]; rfl) ?_
        by_cases e2 : two (askX n X id 0 16 2 []).2.2.2.1 21 = 2
        · refine Ok.tt (by rw [e2]; rfl) ?_
          by_cases e0 : (askX n X id 0 16 2 []).2.2.2.1.getD 16 0 = 0
          · refine Ok.tt (by rw [e0]; rfl) ?_
            have e : tryX n X id = (askX n X id 0 16 2 [], 1) := by unfold tryX; rw [if_neg h0, if_pos ⟨g1, e17, e2, e0⟩]
            rw [e] at hk ⊢
            refine Ok.bi (f_keep hY2 hF.1 hF.2 hid (hk rfl)) (fun ρ hρ => Ok.so ⟨y1.frH hρ.2, ?_, rfl, kY.t (hρ.2.mo (fun a b h => by unfold pH pT at *; omega))⟩)
            rw [if_pos rfl]; exact hρ.1
          · refine Ok.ff (nI_ne0 (by omega) (by omega)) ?_
            exact dbt y.1 y1 hY2 kY h0 (fun h => e0 h.2.2.2)
        · refine Ok.ff (fun h => e2 ((nI_eq (b := 2) (by omega) (by omega)).mp h)) ?_
          exact dbt y.1 y1 hY2 kY h0 (fun h => e2 h.2.2.1)
      · refine Ok.ff (fun h => e17 ((nI_eq (b := 17) (by omega) (by omega)).mp h)) ?_
        exact dbt y.1 y1 hY2 kY h0 (fun h => e17 h.2.1)
    · refine Ok.tt g2 ?_
      exact dbt y.1 y1 hY2 kY h0 (fun h => g1 h.1)
/-- the latest branch is taken -/
def tkn (Y : Ys) : Ys := (Y.1 - 1, Y.2.1, Y.2.2.1, Y.2.2.2.1, Y.2.2.2.2 + 1)
/-- both halves are piled -/
def mid (Y : Ys) (a b : Nat) : Ys := pil (pil Y ((a + b) / 2 + 1) b) a ((a + b) / 2)
def br (Y : Ys) : Nat × Nat := Y.2.1 (Y.1 - 1)
/-- the question for a branch -/
def qst (n : Nat) (X : Xs) (a b : Nat) : Xs := askX n X 281474976710655 0 16 1 (be a 6 ++ be b 6)
abbrev wth (Y : Ys) (a b v : Nat) : Prop := a ≤ v ∧ v ≤ b ∧ ¬ isCl v ∧ ¬ has Y v
/-- one step -/
def stp (n : Nat) (X : Xs) (Y : Ys) : Xs × Ys :=
  if (br Y).1 = (br Y).2 then
    (if isCl (br Y).1 then (X, tkn Y)
     else ((tryX n X (br Y).1).1, if (tryX n X (br Y).1).2 = 2 then pil (tkn Y) (br Y).1 (br Y).2 else if (tryX n X (br Y).1).2 = 1 then kep (tkn Y) (br Y).1 else tkn Y))
  else if (qst n X (br Y).1 (br Y).2).2.2.2.1.length = 0 then (qst n X (br Y).1 (br Y).2, tkn Y)
  else match shw (qst n X (br Y).1 (br Y).2).2.2.2.1 with
    | none => (qst n X (br Y).1 (br Y).2, mid (tkn Y) (br Y).1 (br Y).2)
    | some v =>
      if wth (tkn Y) (br Y).1 (br Y).2 v then
        ((tryX n (qst n X (br Y).1 (br Y).2) v).1,
          if (tryX n (qst n X (br Y).1 (br Y).2) v).2 = 0 then mid (tkn Y) (br Y).1 (br Y).2
          else if (tryX n (qst n X (br Y).1 (br Y).2) v).2 = 1 then pil (kep (tkn Y) v) (br Y).1 (br Y).2
          else pil (tkn Y) (br Y).1 (br Y).2)
      else (qst n X (br Y).1 (br Y).2, mid (tkn Y) (br Y).1 (br Y).2)
/-- what the search keeps -/
def WY (Y : Ys) : Prop := (∀ j, j < Y.1 → (Y.2.1 j).1 ≤ (Y.2.1 j).2 ∧ (Y.2.1 j).2 < 2 ^ 48 - 1 ∧ (Y.2.1 j).2 - (Y.2.1 j).1 < 2 ^ (48 - j)) ∧ Y.1 ≤ 49
theorem tryX_c {n : Nat} {X : Xs} {id : Nat} : (tryX n X id).2 = 0 ∨ (tryX n X id).2 = 1 ∨ (tryX n X id).2 = 2 := by
  unfold tryX
  split
  · exact Or.inl rfl
  · split
    · exact Or.inr (Or.inl rfl)
    · exact Or.inr (Or.inr rfl)
theorem f_taken {σ : St} {bg : Nat} {Y : Ys} (h : CY σ bg Y) (hd : 0 < Y.1) (hd2 : Y.1 ≤ 64) : Ok (F_X4_takeLatest σ) (fun τ => CY τ bg (tkn Y) ∧ Fr pH σ τ) := by
  obtain ⟨h1, h2, h3, h4, h5, h6⟩ := h
  unfold F_X4_takeLatest
  rw [h2]
  refine Ok.ff (nI_nle hd (by omega)) (Ok.nm (Ok.nm (Ok.so ?_)))
  rw [show nI Y.1 - 1 = nI (Y.1 - 1) from pk_sub (b := 1) hd, sI_nj (by decide), h6, nI_1]
  refine ⟨⟨?_, ?_, fun j hj => h3 j (by have : j < Y.1 - 1 := hj; omega), ?_, h5, ?_⟩, (Fr.sI ⟨by omega, by omega⟩).t (Fr.sI ⟨by omega, by omega⟩)⟩
  · simp [sI_if]; exact h1
  · simp [sI_if]; rfl
  · simp [sI_if]; exact h4
  · simp [sI_if]; rfl
theorem kep_1 {Y : Ys} {id : Nat} : (kep Y id).1 = Y.1 := by unfold kep; split <;> rfl
theorem f_takeStep {σ : St} {n o bg : Nat} {X : Xs} {Y : Ys} (hX : CX σ n X) (hY : CY σ bg Y) (hn : n ≤ 24) (hW : WX o n X) (ho : o + 1 ≤ 1000) (hno : X.1 + 3 < 2 ^ 31) (hF : WF Y) (hWY : WY Y) (hd : 0 < Y.1) (hk1 : (br Y).1 = (br Y).2 → ¬ isCl (br Y).1 → (tryX n X (br Y).1).2 = 1 → ¬ has Y (br Y).1 → Y.2.2.1 < 24) (hk2 : ∀ v, v < 2 ^ 48 → ¬ isCl v → (tryX n (qst n X (br Y).1 (br Y).2) v).2 = 1 → ¬ has Y v → Y.2.2.1 < 24) : Ok (F_X6_takeStep n σ) (fun τ => CX τ n (stp n X Y).1 ∧ CY τ bg (stp n X Y).2 ∧ Fr pT σ τ) := by
  have hd49 := hWY.2
  obtain ⟨wa, wb, wc⟩ := hWY.1 (Y.1 - 1) (by omega)
  have hlo : F_X4_latestLow σ = some (σ, lN (br Y).1) := by
    unfold F_X4_latestLow
    rw [hY.2.1, if_neg (nI_nle hd (by omega)), show nI Y.1 - 1 = nI (Y.1 - 1) from pk_sub (b := 1) hd, gd_t (show ib (nI (Y.1 - 1)) (ln 22) = true from ib_nI (show Y.1 - 1 < 64 by omega) (by decide)), nI_clamp (by omega), (hY.2.2.1 (Y.1 - 1) (by omega)).1]
    rfl
  have hhi : F_X4_latestHigh σ = some (σ, lN (br Y).2) := by
    unfold F_X4_latestHigh
    rw [hY.2.1, if_neg (nI_nle hd (by omega)), show nI Y.1 - 1 = nI (Y.1 - 1) from pk_sub (b := 1) hd, gd_t (show ib (nI (Y.1 - 1)) (ln 23) = true from ib_nI (show Y.1 - 1 < 64 by omega) (by decide)), nI_clamp (by omega), (hY.2.2.1 (Y.1 - 1) (by omega)).2]
    rfl
  have wa' : (br Y).1 ≤ (br Y).2 := wa
  have wb' : (br Y).2 < 2 ^ 48 - 1 := wb
  unfold stp
  generalize hba : (br Y).1 = a at *
  generalize hbb : (br Y).2 = b at *
  unfold F_X6_takeStep
  refine Ok.eq hlo ?_
  refine Ok.eq hhi ?_
  refine Ok.bi (f_taken hY hd (by omega)) (fun τ hτ => ?_)
  obtain ⟨t1, t2⟩ := hτ
  have tX := hX.frH t2
  have tT : Fr pT σ τ := t2.mo (fun a b h => by unfold pH pT at *; omega)
  have hFt : WF (tkn Y) := hF
  dsimp only
  by_cases hab : a = b
  · rw [if_pos hab]
    refine Ok.tt (cm_0.mpr (by rw [hab])) ?_
    unfold F_X6_restOf
    refine Ok.eq rfl ?_
    dsimp only
    rw [rest_mask (by omega)]
    by_cases hcl : isCl a
    · rw [if_pos hcl]
      refine Ok.tt (cm_0.mpr (by rw [show a % 2 ^ 32 = 2 ^ 32 - 1 from hcl]; rfl)) (Ok.so ⟨tX, t1, tT⟩)
    · rw [if_neg hcl]
      refine Ok.ff (fun h => by rw [cm_0, lit6, pk_lEQ (by omega) (by omega)] at h; exact hcl h) ?_
      refine Ok.bi (f_try tX t1 hn hW ho (by omega) (by omega) hFt (fun h1 h2 => hk1 hab hcl h1 h2)) (fun y hy => ?_)
      obtain ⟨y1, y2, y3, y4⟩ := hy
      rw [y3]
      by_cases h2 : (tryX n X a).2 = 2
      · refine Ok.tt (by rw [h2]; rfl) ?_
        rw [if_neg (by omega)] at y2
        refine Ok.bi (f_pile y2 (show Y.1 - 1 < 64 by omega)) (fun ρ hρ => Ok.so ⟨y1.frH hρ.2, ?_, (tT.t y4).t (hρ.2.mo (fun a b h => by unfold pH pT at *; omega))⟩)
        rw [if_pos h2]; exact hρ.1
      · refine Ok.ff (fun h => h2 ((nI_eq (b := 2) (by rcases tryX_c (n := n) (X := X) (id := a) with h | h | h <;> omega) (by omega)).mp h)) (Ok.so ⟨y1, ?_, tT.t y4⟩)
        rw [if_neg h2]; exact y2
  · rw [if_neg hab]
    refine Ok.ff (fun h => hab ((pk_lEQ (by omega) (by omega)).mp (cm_0.mp h))) ?_
    unfold F_X6_writeBranchSearch
    rw [Option.bind_assoc]
    refine Ok.bi (f_bq tX (to := 281474976710655) (grp := 16) (mat := 1) (by decide) (by decide) (by decide)) (fun τ2 h2 => ?_)
    obtain ⟨g1, g2, g3⟩ := h2
    have k2 : Fr pT σ τ2 := tT.t (g3.mo (fun a b h => by unfold pT; omega))
    rw [Option.bind_assoc]
    have g2' := g2
    obtain ⟨⟨a1, c1⟩, ⟨a2, c2⟩, ⟨a3, c3⟩, ⟨a4, c4⟩, ⟨a5, c5⟩, ⟨a6, c6⟩, ⟨a7, c7⟩, ⟨a8, c8⟩, hd10, h231⟩ := g2
    refine wpn (b := 10) (σ0 := τ2) (l := []) hd10 Eqx.rf (m := 6) rfl (by decide) (by decide) (x := a) rfl (by omega) (fun τ3 r3 q3 => ?_)
    rw [Option.bind_assoc]
    refine wpn (b := 10) (σ0 := τ2) r3 q3 (m := 6) rfl (by decide) (by simp [be_len]; decide) (x := b) rfl (by omega) (fun τ4 r4 q4 => ?_)
    rw [List.nil_append] at r4
    have k4 : Fr (fun r _ => 10 ≤ r ∧ r ≤ 11) τ2 τ4 := (Fr.ex q4).mo (fun a b h => by simp only [List.mem_cons, List.mem_nil_iff, or_false] at h; omega)
    have hX4 : CX τ4 n (X.1, (X.2.1 + 1) % 256, X.2.2) := by
      obtain ⟨x1, x2, ⟨x3, x3b⟩, x4, x5, x6, ⟨d, x7⟩, ⟨v, x8⟩, ⟨h, x9⟩, ⟨q, x10⟩, ⟨g, x11⟩⟩ := g1
      exact ⟨by rw [k4.i (by omega)]; exact x1, by rw [k4.i (by omega)]; exact x2, ⟨by rw [k4.i (by omega)]; exact x3, x3b⟩, fun j hj => (x4 j hj).fr k4 (fun r k g1 g2 h => by unfold qq at g1; omega), x5.fr k4 (fun j => by omega) (fun j => by omega), ⟨by rw [k4.i (by omega)]; exact x6.1, x6.2.1, fun j hj => by rw [k4.i (by omega), k4.i (by omega)]; exact x6.2.2 j hj⟩, ⟨d, x7.fr k4 (fun j => by omega) (fun j => by omega)⟩, ⟨v, x8.fr k4 (fun j => by omega) (fun j => by omega)⟩, ⟨h, x9.fr k4 (fun j => by omega) (fun j => by omega)⟩, ⟨_, r4⟩, ⟨g, x11.fr k4 (fun j => by omega) (fun j => by omega)⟩⟩
    have hP4 : Pk τ4 9 281474976710655 SR ((X.2.1 + 1) % 256) 1 0 0 16 1 (be a 6 ++ be b 6) := ⟨⟨by rw [k4.l (by omega)]; exact a1, c1⟩, ⟨by rw [k4.l (by omega)]; exact a2, c2⟩, ⟨by rw [k4.i (by omega)]; exact a3, c3⟩, ⟨by rw [k4.i (by omega)]; exact a4, c4⟩, ⟨by rw [k4.i (by omega)]; exact a5, c5⟩, ⟨by rw [k4.i (by omega)]; exact a6, c6⟩, ⟨by rw [k4.i (by omega)]; exact a7, c7⟩, ⟨by rw [k4.i (by omega)]; exact a8, c8⟩, r4, h231⟩
    rw [Option.bind_assoc]
    refine Ok.b2 (g := fun y => F_X6_runFrame n y) (f_send (X := X) rfl hX4 hn hW ho (by omega) hP4) (fun ρ hρ => ?_)
    obtain ⟨p1, p2⟩ := hρ
    have hWq : WX o n (qst n X a b) := WX.ask (grp := 16) hW (by decide) (by simp [be_len]) ((By.be _ _).app (By.be _ _))
    have kρ : Fr pT σ ρ := (k2.t (k4.mo (fun a b h => by unfold pT; omega))).t (p2.mo (fun a b h => by unfold pA pT at *; omega))
    have yρ : CY ρ bg (tkn Y) := ((t1.fr g3 (fun r j h1 h2 h => by omega)).fr k4 (fun r j h1 h2 h => by omega)).fr p2 (fun r j h1 h2 h => by unfold pA at h; omega)
    change CX ρ n (qst n X a b) at p1
    have hq1 : (qst n X a b).1 = X.1 + 1 := rfl
    generalize qst n X a b = Q at *
    have r7 : Rw ρ 7 Q.2.2.2.1 := p1.2.2.2.2.1
    have l7 := r7.2.1
    rw [show ln (7 + 1) = 257 from rfl] at l7
    refine Ok.eq (f_size r7) ?_
    dsimp only
    by_cases h0 : Q.2.2.2.1.length = 0
    · rw [if_pos h0]
      exact Ok.tt (by rw [h0]; rfl) (Ok.so ⟨p1, yρ, kρ⟩)
    rw [if_neg h0]
    refine Ok.ff (nI_ne0 (by omega) (by omega)) ?_
    refine Ok.eq (f_read r7) ?_
    dsimp only
    -- both halves
    have halves : ∀ (ζ : St) (Xz : Xs), CX ζ n Xz → CY ζ bg (tkn Y) → Fr pT σ ζ → Ok (F_X6_takeStep_L158 n ζ (lN a) (lN b)) (fun τ => CX τ n Xz ∧ CY τ bg (mid (tkn Y) a b) ∧ Fr pT σ τ) := by
      intro ζ Xz z1 z2 z3
      unfold F_X6_takeStep_L158
      have hm : ((Int64.toUInt64 (lN a + lN b)) >>> ((Int64.toUInt64 (Int32.toInt64 1)) &&& Int64.toUInt64 63)).toInt64 = lN ((a + b) / 2) := by
        rw [lN_add, show (1 : Int32) = nI 1 from rfl, wb_shr (by omega) (by decide)]
      rw [hm, lN_1]
      refine Ok.bi (f_pile z2 (show Y.1 - 1 < 64 by omega)) (fun ζ2 u2 => ?_)
      refine Ok.bi (f_pile u2.1 (show Y.1 - 1 + 1 < 64 by omega)) (fun ζ3 u3 => Ok.so ⟨(z1.frH u2.2).frH u3.2, u3.1, ?_⟩)
      exact (z3.t (u2.2.mo (fun a b h => by unfold pH pT at *; omega))).t (u3.2.mo (fun a b h => by unfold pH pT at *; omega))
    have no : Ok (F_X6_takeStep_L131 n ρ (lN a) (lN b) (oL (shw Q.2.2.2.1))) (fun τ => CX τ n Q ∧ CY τ bg (mid (tkn Y) a b) ∧ Fr pT σ τ) := by
      unfold F_X6_takeStep_L131 F_X6_takeStep_L132
      exact Ok.tt rfl (halves ρ Q p1 yρ kρ)
    cases hsh : shw Q.2.2.2.1 with
    | none =>
      rw [hsh] at no
      refine Ok.tt ?_ no
      rw [cm_lt, Int64.lt_iff_toInt_lt]
      have := pk_lT (n := a) (by omega)
      rw [this, show (oL none).toInt = -1 from by decide]
      omega
    | some v =>
      rw [hsh] at no
      have hv48 : v < 2 ^ 48 := by
        unfold shw at hsh
        split at hsh
        · injection hsh with hsh
          rw [← hsh]
          exact nn_lt r7.by 6 0 8 0 (by decide)
        · exact absurd hsh (by simp)
      dsimp only
      show Ok (if lg_cmp (lN v) (lN a) < 0 then _ else _) _
      by_cases c1 : v < a
      · refine Ok.tt (cm_lt.mpr ((pk_lLT (by omega) (by omega)).mpr c1)) ?_
        rw [if_neg (fun h => by have := h.1; omega)]
        exact no
      refine Ok.ff (fun h => c1 ((pk_lLT (by omega) (by omega)).mp (cm_lt.mp h))) ?_
      by_cases c2 : b < v
      · refine Ok.tt (cm_gt.mpr ((pk_lLT (by omega) (by omega)).mpr c2)) ?_
        rw [if_neg (fun h => by have := h.2.1; omega)]
        exact no
      refine Ok.ff (fun h => c2 ((pk_lLT (by omega) (by omega)).mp (cm_gt.mp h))) ?_
      unfold F_X6_restOf
      refine Ok.eq rfl ?_
      dsimp only
      rw [show oL (some v) = lN v from rfl, rest_mask (by omega)]
      by_cases hcl : isCl v
      · refine Ok.tt (cm_0.mpr (by rw [show v % 2 ^ 32 = 2 ^ 32 - 1 from hcl]; rfl)) ?_
        rw [if_neg (fun h => h.2.2.1 hcl)]
        exact no
      refine Ok.ff (fun h => by rw [cm_0, lit6, pk_lEQ (by omega) (by omega)] at h; exact hcl h) ?_
      refine Ok.eq (f_has yρ hF.1 hF.2 hv48) ?_
      dsimp only
      by_cases hhs : has (tkn Y) v
      · rw [if_pos hhs]
        refine Ok.ff (by decide) ?_
        rw [if_neg (fun h => h.2.2.2 hhs)]
        exact no
      rw [if_neg hhs]
      refine Ok.tt rfl ?_
      rw [if_pos (show wth (tkn Y) a b v from ⟨by omega, by omega, hcl, hhs⟩)]
      unfold F_X6_takeStep_L132
      refine Ok.ff (by decide) ?_
      refine Ok.bi (f_try p1 yρ hn hWq ho (by rw [hq1]; omega) hv48 hFt (fun h1 h2 => hk2 v hv48 hcl h1 h2)) (fun y hy => ?_)
      obtain ⟨y1, y2, y3, y4⟩ := hy
      rw [y3]
      by_cases h2 : (tryX n Q v).2 = 0
      · refine Ok.tt (by rw [h2]; rfl) ?_
        rw [if_neg (by omega)] at y2
        rw [if_pos h2]
        exact halves y.1 _ y1 y2 (kρ.t y4)
      · refine Ok.ff (nI_ne0 (by omega) (by rcases tryX_c (n := n) (X := Q) (id := v) with h | h | h <;> omega)) ?_
        rw [if_neg h2]
        by_cases h3 : (tryX n Q v).2 = 1
        · rw [if_pos h3] at y2 ⊢
          refine Ok.bi (f_pile y2 (by rw [kep_1]; show Y.1 - 1 < 64; omega)) (fun ρ2 hρ2 => Ok.so ⟨y1.frH hρ2.2, hρ2.1, (kρ.t y4).t (hρ2.2.mo (fun a b h => by unfold pH pT at *; omega))⟩)
        · rw [if_neg h3] at y2 ⊢
          refine Ok.bi (f_pile y2 (by show Y.1 - 1 < 64; omega)) (fun ρ2 hρ2 => Ok.so ⟨y1.frH hρ2.2, hρ2.1, (kρ.t y4).t (hρ2.2.mo (fun a b h => by unfold pH pT at *; omega))⟩)
