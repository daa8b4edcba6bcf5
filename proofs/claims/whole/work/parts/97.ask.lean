/-! ===== PURE: search, step ===== -/
def seY (Y : Ys) : Ys := pil (0, Y.2.1, 0, Y.2.2.2.1, 0) 0 281474976710654
theorem seY_wy {Y : Ys} : WY (seY Y) := by
  refine ⟨fun j hj => ?_, by show (0 : Nat) + 1 ≤ 49; decide⟩
  have hj' : j < 0 + 1 := hj
  have e : j = 0 := by omega
  subst e
  show (0 : Nat) ≤ 281474976710654 ∧ 281474976710654 < 2 ^ 48 - 1 ∧ 281474976710654 - 0 < 2 ^ (48 - 0)
  decide
theorem ic_13 {xs : Nat → Int32} {x4 : Int32} {i n : Nat} {σ : St} (hi : i < 512) (h : Inv i n σ) : Ok (F_lc_13 xs x4 n σ) (fun z => Inv (i + 1) z.1 z.2) := by
  obtain ⟨X, Y, bg, tp, hn, hC, hM, hS, hf, hb⟩ := h
  have hB := hS.1.bl
  have hW1 : WX i n (askX n X 281474976710655 0 16 3 []) := WX.ask (grp := 16) hS.1 (by decide) (by decide) By.nil
  have hWn : WX (i + 1) n (askX n X 281474976710655 0 16 3 []) := fun j hj => (hW1 j hj).up (by omega) (Nat.le_refl _)
  unfold F_lc_13
  refine lc_e (oA := F_X6_search n σ) (B := F_X7_search) (v := nI 1) (X2 := askX n X 281474976710655 0 16 3 []) (Y2 := seY Y) (bg2 := 1) (tp2 := tp) hn hM hB ?_ (fun τ hτ => ?_) ⟨⟨hWn, ask_c, seY_wy, ⟨fun j hj => absurd hj (Nat.not_lt_zero j), fun a j h1 h2 => absurd h2 (Nat.not_lt_zero j)⟩⟩, by show X.1 + 1 ≤ 3000 * (i + 1); omega, by decide⟩
  · unfold F_X6_search F_X4_begin
    have hq : Fr pH σ (sI (sI (sI (sI σ 21 3 1) 21 4 0) 21 5 0) 21 6 0) := (((Fr.sI (by unfold pH; omega)).t (Fr.sI (by unfold pH; omega))).t (Fr.sI (by unfold pH; omega))).t (Fr.sI (by unfold pH; omega))
    have hY : CY (sI (sI (sI (sI σ 21 3 1) 21 4 0) 21 5 0) 21 6 0) 1 (0, Y.2.1, 0, Y.2.2.2.1, 0) := by
      refine ⟨?_, ?_, fun j hj => absurd hj (Nat.not_lt_zero j), ?_, fun j hj => absurd hj (Nat.not_lt_zero j), ?_⟩
      · simp [sI_if]; rfl
      · simp [sI_if]; rfl
      · simp [sI_if]; rfl
      · simp [sI_if]; rfl
    refine Ok.bi (Q := fun τ => CX τ n X ∧ CY τ 1 (seY Y) ∧ Fr pH σ τ) (Ok.nm (Ok.nm (Ok.nm (Ok.nm ?_)))) (fun τ1 h1 => ?_)
    · refine Ok.bi (f_pile (a := 0) (b := 281474976710654) hY (show (0 : Nat) < 64 by decide)) (fun τ1 h1 => Ok.so ⟨hC.1.frH (hq.t h1.2), h1.1, hq.t h1.2⟩)
    · obtain ⟨t1, t2, t3⟩ := h1
      refine Ok.b2 (f_ws (to := 281474976710655) (mat := 3) t1 hn hS.1 (by omega) (by omega) (by decide) (by decide)) (fun τ2 h2 => Ok.so ⟨⟨h2.1, ?_, ?_⟩, ?_, ?_⟩)
      · exact t2.fr h2.2 (fun r j h1 h2 h => by unfold pA at h; omega)
      · exact (hC.2.2.fr t3 (fun j => by unfold pH; omega) (fun j => by unfold pH; omega)).fr h2.2 (fun j => by unfold pA; omega) (fun j => by unfold pA; omega)
      · exact (t2.fr h2.2 (fun r j h1 h2 h => by unfold pA at h; omega)).2.1
      · exact (t3.mo (fun a b h => by unfold pH at h; unfold pCf; omega)).t (h2.2.mo (fun a b h => by unfold pA at h; unfold pCf; omega))
  · unfold F_X7_search
    refine Ok.nm (Ok.nm (Ok.nm (Ok.nm (Ok.nm (Ok.gd (by decide) (Ok.nm (Ok.gd (by decide) (Ok.nm ?_))))))))
    rw [show Int32.toNatClampNeg 0 = 0 from by decide]
    have hq : Fr (fun q j => (q = 27 ∧ (j = 0 ∨ j = 32 ∨ j = 33 ∨ j = 34 ∨ j = 37)) ∨ q = 51 ∨ q = 52) τ (sJ (sJ (sI (sI (sI (sI (sI τ 27 0 0) 27 32 1) 27 33 0) 27 37 0) 27 34 1) 51 0 0) 52 0 281474976710654) := ((((((Fr.sI (by omega)).t (Fr.sI (by omega))).t (Fr.sI (by omega))).t (Fr.sI (by omega))).t (Fr.sI (by omega))).t (Fr.sJ (by omega))).t (Fr.sJ (by omega))
    have hY : MY (sJ (sJ (sI (sI (sI (sI (sI τ 27 0 0) 27 32 1) 27 33 0) 27 37 0) 27 34 1) 51 0 0) 52 0 281474976710654) 1 (seY Y) := by
      refine ⟨?_, ?_, fun j hj => ?_, ?_, fun j hj => absurd hj (Nat.not_lt_zero j), ?_⟩
      · simp [sI_if, sJ_1]; rfl
      · simp [sI_if, sJ_1]; rfl
      · have hj' : j < 0 + 1 := hj
        have e : j = 0 := by omega
        subst e
        simp [sI_2, sJ_if]
        exact ⟨rfl, rfl⟩
      · simp [sI_if, sJ_1]; rfl
      · simp [sI_if, sJ_1]; rfl
    have xX := hτ.1.fr hB hq (fun q j h1 h2 => by unfold pX at h1; omega)
    have xT := hτ.2.2.1.fr hq (by omega) (fun j => by omega)
    have xZ := hτ.2.2.2.fr hq (fun a q j h1 h2 h3 => by have := lpl_lt h2; omega)
    generalize sJ (sJ (sI (sI (sI (sI (sI τ 27 0 0) 27 32 1) 27 33 0) 27 37 0) 27 34 1) 51 0 0) 52 0 281474976710654 = ρ at *
    refine Ok.b2 (m_ws (to := 281474976710655) (mat := 3) xX hS.2.1 hn hS.1 (by omega) (by omega) (by decide) (by decide)) (fun τ2 h2 => Ok.so ⟨⟨h2.1, hY.fr h2.2 (fun q j h1 h2 => by unfold pS at h1; unfold pQ at h2; omega), xT.fr h2.2 (by unfold pQ; omega) (fun j => by unfold pQ; omega), xZ.fr h2.2 (fun a q j h1 h3 h4 => ?_)⟩, rfl, ?_⟩)
    · have hl := lpl_lt h3
      have hz := zn_no h3 h1
      unfold pQ at h4; omega
    · exact (hq.mo (fun a b h => by omega)).t (h2.2.mo (fun a b h => by unfold pQ at h; omega))
/-! step -/
def stN (n : Nat) : Nat → Xs × Ys → Xs × Ys
  | 0, Z => Z
  | m + 1, Z => if Z.2.1 = 0 then Z else stN n m (stp n Z.1 Z.2)
theorem stN_0 {n m : Nat} {Z : Xs × Ys} (h : Z.2.1 = 0) : stN n m Z = Z := by
  cases m with
  | zero => rfl
  | succ m => show (if Z.2.1 = 0 then Z else _) = Z; rw [if_pos h]
theorem stN_s {n m : Nat} {Z : Xs × Ys} (h : Z.2.1 ≠ 0) : stN n (m + 1) Z = stN n m (stp n Z.1 Z.2) := by
  show (if Z.2.1 = 0 then Z else _) = _
  rw [if_neg h]
theorem stN_ok {o n : Nat} : ∀ (m : Nat) (X : Xs) (Y : Ys), Sx o n X Y → Sx o n (stN n m (X, Y)).1 (stN n m (X, Y)).2 ∧ (stN n m (X, Y)).1.1 ≤ X.1 + 3 * m := by
  intro m
  induction m with
  | zero => intro X Y h; exact ⟨h, by show X.1 ≤ X.1 + 3 * 0; omega⟩
  | succ m ih =>
    intro X Y h
    by_cases h0 : Y.1 = 0
    · rw [stN_0 h0]; exact ⟨h, by show X.1 ≤ _; omega⟩
    · rw [stN_s h0]
      obtain ⟨g1, g2⟩ := stp_ok h (by omega)
      obtain ⟨g3, g4⟩ := ih (stp n X Y).1 (stp n X Y).2 g1
      refine ⟨g3, ?_⟩
      have g4' : (stN n m (stp n X Y)).1.1 ≤ (stp n X Y).1.1 + 3 * m := g4
      show (stN n m (stp n X Y)).1.1 ≤ X.1 + 3 * (m + 1)
      omega
theorem f_stL {n o bg x : Nat} {R : Xs × Ys} {σ0 : St} {K : St → Option (St × Nat × Int32)} {P : St × Nat × Int32 → Prop} (hn : n ≤ 24) (ho : o + 1 ≤ 1000) (hx : x ≤ 1000) (hK : ∀ τ, CX τ n R.1 → CY τ bg R.2 → Fr pT σ0 τ → Ok (K τ) P) : ∀ (m fz k : Nat) (σ : St) (X : Xs) (Y : Ys), m < fz → k + m = x → CX σ n X → CY σ bg Y → Sx o n X Y → X.1 + 3 * m + 6 < 2 ^ 31 → stN n m (X, Y) = R → Fr pT σ0 σ → Ok (F_X6_step_L44 n K fz σ (nI x) (nI k)) P := by
  intro m
  induction m with
  | zero =>
    intro fz k σ X Y hf hk hX hY hS hno hR he
    cases fz with
    | zero => omega
    | succ fz =>
      unfold F_X6_step_L44
      refine Ok.tt (nI_le (by omega) (by omega)) ?_
      subst hR
      exact hK σ hX hY he
  | succ m ih =>
    intro fz k σ X Y hf hk hX hY hS hno hR he
    cases fz with
    | zero => omega
    | succ fz =>
      have h49 := hS.2.2.1.2
      unfold F_X6_step_L44
      refine Ok.ff (nI_ge (by omega) (by omega)) ?_
      by_cases h0 : Y.1 = 0
      · refine Ok.tt (by rw [hY.2.1, h0]; decide) ?_
        rw [stN_0 h0] at hR
        subst hR
        exact hK σ hX hY he
      · refine Ok.ff (by rw [hY.2.1]; exact nI_nle (by omega) (by omega)) ?_
        rw [stN_s h0] at hR
        obtain ⟨g1, g2⟩ := stp_ok hS (by omega)
        refine Ok.bi (f_takeStep hX hY hn hS.1 ho (by omega) (hS.2.2.2.wf hn hS.1) hS.2.2.1 (by omega) (stp_k1 hS hn (by omega)) (stp_k2 hS hn)) (fun τ hτ => ?_)
        rw [nI_1]
        exact ih fz (k + 1) τ (stp n X Y).1 (stp n X Y).2 (by omega) (by omega) hτ.1 hτ.2.1 g1 (by omega) hR (he.t hτ.2.2)
theorem m_stL {n o bg x : Nat} {R : Xs × Ys} {σ0 : St} {K : St → Option (St × Int32)} {P : St × Int32 → Prop} (hn : n ≤ 24) (ho : o + 1 ≤ 1000) (hx : x ≤ 1000) (hK : ∀ τ, MX τ n R.1 → MY τ bg R.2 → Fr (pU n) σ0 τ → Ok (K τ) P) : ∀ (m fz k : Nat) (σ : St) (X : Xs) (Y : Ys), m < fz → k + m = x → MX σ n X → MY σ bg Y → Sx o n X Y → X.1 + 3 * m + 6 < 2 ^ 31 → stN n m (X, Y) = R → Fr (pU n) σ0 σ → Ok (F_X7_step_L43 K fz σ (nI x) (nI k)) P := by
  intro m
  induction m with
  | zero =>
    intro fz k σ X Y hf hk hX hY hS hno hR he
    cases fz with
    | zero => omega
    | succ fz =>
      unfold F_X7_step_L43
      refine Ok.tt (nI_le (by omega) (by omega)) ?_
      subst hR
      exact hK σ hX hY he
  | succ m ih =>
    intro fz k σ X Y hf hk hX hY hS hno hR he
    cases fz with
    | zero => omega
    | succ fz =>
      have h49 := hS.2.2.1.2
      unfold F_X7_step_L43
      refine Ok.ff (nI_ge (by omega) (by omega)) ?_
      by_cases h0 : Y.1 = 0
      · refine Ok.tt (by rw [hY.2.1, h0]; decide) ?_
        rw [stN_0 h0] at hR
        subst hR
        exact hK σ hX hY he
      · refine Ok.ff (by rw [hY.2.1]; exact nI_nle (by omega) (by omega)) ?_
        rw [stN_s h0] at hR
        obtain ⟨g1, g2⟩ := stp_ok hS (by omega)
        refine Ok.bi (m_step hX hS.2.1 hY hn hS.1 ho (by omega) (hS.2.2.2.wf hn hS.1) hS.2.2.1 (by omega) (stp_k1 hS hn (by omega)) (stp_k2 hS hn)) (fun τ hτ => ?_)
        rw [nI_1]
        exact ih fz (k + 1) τ (stp n X Y).1 (stp n X Y).2 (by omega) (by omega) hτ.1 hτ.2.1 g1 (by omega) hR (he.t hτ.2.2)
theorem m_in1 {σ : St} {x : Int32} : F_X7_in σ x.toInt64 1 1000 = some (σ, if 1 ≤ x ∧ x ≤ 1000 then 1 else 0) := by
  rw [m_in]
  have e1 : ((1 : Int64) ≤ x.toInt64 ∧ x.toInt64 ≤ 1000) ↔ (1 ≤ x ∧ x ≤ 1000) := by
    have h1 : ((1 : Int64) ≤ x.toInt64) ↔ (1 ≤ x) := i64_le (x := 1) (y := x)
    have h2 : (x.toInt64 ≤ (1000 : Int64)) ↔ (x ≤ 1000) := i64_le (x := x) (y := 1000)
    rw [h1, h2]
  by_cases h : 1 ≤ x ∧ x ≤ 1000
  · rw [if_pos h, if_pos (e1.mpr h)]
  · rw [if_neg h, if_neg (fun h9 => h (e1.mp h9))]
theorem ic_14 {xs : Nat → Int32} {x4 : Int32} {i n : Nat} {σ : St} (hi : i < 512) (h : Inv i n σ) : Ok (F_lc_14 xs x4 n σ) (fun z => Inv (i + 1) z.1 z.2) := by
  obtain ⟨X, Y, bg, tp, hn, hC, hM, hS, hf, hb⟩ := h
  have hB := hS.1.bl
  unfold F_lc_14
  generalize xs (Int32.toNatClampNeg (x4 + 1)) = x
  have thrM : ∀ (c : Nat) (τ : St), 0 < c → c < 10 → MH τ n X Y bg tp → Ok (F_X7_step_L29 τ x (nI c)) (Ma Int32.toInt64 n X Y bg tp c 0 τ) := by
    intro c τ hc hc2 hτ
    unfold F_X7_step_L29
    refine Ok.nm ?_
    rw [sI_eq]
    have q0 : Fr (fun q j => q = 27 ∧ j = 0) τ (sI τ 27 0 (nI c)) := Fr.sI ⟨rfl, rfl⟩
    exact Ok.ff (nI_nle hc (by omega)) (Ok.so ⟨hτ.fr hB q0 (fun q j h => by omega), sI_eq, fun h => by omega, q0.mo (fun a b h => by omega)⟩)
  by_cases hbg : bg = 0
  · refine lc_v Int32.toInt64 (oA := F_L_step n σ x) (B := fun τ => F_X7_step τ x) (c := 1) (v := 0) (X2 := X) (Y2 := Y) (bg2 := bg) (tp2 := tp) hn hM hB ?_ (fun τ hτ => ?_) (by decide) ⟨hS.up, by omega, hb⟩
    · unfold F_L_step F_X6_step
      rw [if_pos (show σ.1 21 3 = 0 by rw [hC.2.1.1, hbg]; rfl)]
      exact ⟨_, rfl, hC, rfl, fun h => absurd h (by decide), Fr.rf⟩
    · unfold F_X7_step
      exact Ok.tt (by rw [hτ.2.1.1, hbg]; rfl) (thrM 1 τ (by decide) (by decide) hτ)
  have hb1 : ¬ (nI bg = 0) := nI_ne0 (by omega) (by omega)
  by_cases hr : 1 ≤ x ∧ x ≤ 1000
  · have hx0 : ¬ x < 0 := by
      have := hr.1
      rw [Int32.le_iff_toInt_le, show (1 : Int32).toInt = 1 from by decide] at this
      rw [Int32.lt_iff_toInt_lt, show (0 : Int32).toInt = 0 from by decide]
      omega
    have hx1 : ¬ x < 1 := by
      have := hr.1
      rw [Int32.le_iff_toInt_le] at this
      rw [Int32.lt_iff_toInt_lt]
      omega
    obtain ⟨m, hm, rfl⟩ := i32_nn hx0
    have hm1000 : m ≤ 1000 := by
      apply Classical.byContradiction
      intro h9
      exact absurd hr.2 (show ¬ _ ≤ (1000 : Int32) from nI_ge (a := 1000) (by omega) hm)
    obtain ⟨s1, s2⟩ := stN_ok m X Y hS
    refine lc_v Int32.toInt64 (oA := F_L_step n σ (nI m)) (B := fun τ => F_X7_step τ (nI m)) (c := 0) (v := (nI (stN n m (X, Y)).2.1).toInt64) (X2 := (stN n m (X, Y)).1) (Y2 := (stN n m (X, Y)).2) (bg2 := bg) (tp2 := tp) hn hM hB ?_ (fun τ hτ => ?_) (by decide) ⟨s1.up, by omega, hb⟩
    · unfold F_L_step
      have key : Ok (F_X6_step n σ (nI m)) (Cr Int32.toInt64 9 σ n (stN n m (X, Y)).1 (stN n m (X, Y)).2 bg tp 0 (nI (stN n m (X, Y)).2.1).toInt64) := by
        unfold F_X6_step
        refine Ok.ff (by rw [hC.2.1.1]; exact hb1) (Ok.ff hx1 (Ok.tt hr.2 ?_))
        refine f_stL (σ0 := σ) (o := i) (bg := bg) (R := stN n m (X, Y)) hn (by omega) hm1000 (fun τ t1 t2 t3 => ?_) m fu 0 σ X Y (by unfold fu; omega) (by omega) hC.1 hC.2.1 hS (by omega) rfl Fr.rf
        unfold F_X6_step_L69
        exact Ok.so ⟨⟨t1, t2, hC.2.2.fr t3 (fun j => by unfold pT; omega) (fun j => by unfold pT; omega)⟩, Or.inl ⟨rfl, rfl, by dsimp only; rw [t2.2.1]⟩, t3.mo (fun a b h => by unfold pT at h; unfold pCf; omega)⟩
      refine Ok.bi key (fun y hy => ?_)
      obtain ⟨h1, h2, h3⟩ := hy
      rcases h2 with ⟨e1, e2, e3⟩ | ⟨e1, e2⟩
      · refine Ok.tt e2 (Ok.gd (by decide) (Ok.nm (Ok.so ?_)))
        rw [show Int32.toNatClampNeg 0 = 0 from by decide, e3]
        have q0 : Fr (fun q j => q = 26 ∧ j = 0) y.1 (sJ y.1 26 0 (nI (stN n m (X, Y)).2.1).toInt64) := Fr.sJ ⟨rfl, rfl⟩
        exact ⟨h1.fr q0 (fun q j h => by omega), rfl, fun _ => sJ_eq, h3.t (q0.mo (fun a b h => by unfold pCf; omega))⟩
      · omega
    · unfold F_X7_step
      have hin1 : F_X7_in τ (nI m).toInt64 1 1000 = some (τ, 1) := by rw [m_in1, if_pos hr]
      refine Ok.ff (by rw [hτ.2.1.1]; exact hb1) (Ok.eq hin1 ?_)
      refine Ok.ff (show ¬ (1 : Int32) = 0 by decide) ?_
      unfold F_X7_step_L29
      refine Ok.nm ?_
      dsimp only
      rw [sI_eq]
      refine Ok.tt (by decide) ?_
      have q0 : Fr (fun q j => q = 27 ∧ j = 0) τ (sI τ 27 0 0) := Fr.sI ⟨rfl, rfl⟩
      have g1 := hτ.fr hB q0 (fun q j h => by omega)
      have g0 : (sI τ 27 0 0).1 27 0 = nI 0 := sI_eq
      generalize sI τ 27 0 0 = ρ at *
      refine m_stL (σ0 := ρ) (o := i) (bg := bg) (R := stN n m (X, Y)) hn (by omega) hm1000 (fun ζ t1 t2 t3 => ?_) m fu 0 ρ X Y (by unfold fu; omega) (by omega) g1.1 g1.2.1 hS (by omega) rfl Fr.rf
      unfold F_X7_step_L65
      refine Ok.so ⟨⟨t1, t2, g1.2.2.1.fr t3 (by unfold pU; omega) (fun j => by unfold pU; omega), g1.2.2.2.fr t3 (fun a q j h1 h2 h3 => ?_)⟩, by rw [t3.i (by unfold pU; omega)]; exact g0, fun _ => by dsimp only; rw [t2.2.1], (q0.mo (fun a b h => by omega)).t (t3.mo (fun a b h => by unfold pU at h; omega))⟩
      have hl := lpl_lt h2
      have hz := zn_no h2 h1
      unfold pU at h3; omega
  · refine lc_v Int32.toInt64 (oA := F_L_step n σ x) (B := fun τ => F_X7_step τ x) (c := 2) (v := 0) (X2 := X) (Y2 := Y) (bg2 := bg) (tp2 := tp) hn hM hB ?_ (fun τ hτ => ?_) (by decide) ⟨hS.up, by omega, hb⟩
    · have key : F_X6_step n σ x = some (σ, 1, 0) := by
        unfold F_X6_step F_X6_step_L32
        rw [if_neg (show ¬ σ.1 21 3 = 0 by rw [hC.2.1.1]; exact hb1)]
        by_cases h1 : x < 1
        · rw [if_pos h1]
        · rw [if_neg h1, if_neg (fun h2 => hr ⟨by rw [Int32.le_iff_toInt_le]; rw [Int32.lt_iff_toInt_lt] at h1; omega, h2⟩)]
      unfold F_L_step
      rw [key]
      exact ⟨_, rfl, hC, rfl, fun h => absurd h (by decide), Fr.rf⟩
    · unfold F_X7_step
      have hin0 : F_X7_in τ x.toInt64 1 1000 = some (τ, 0) := by rw [m_in1, if_neg hr]
      refine Ok.ff (by rw [hτ.2.1.1]; exact hb1) (Ok.eq hin0 ?_)
      exact Ok.tt rfl (thrM 2 τ (by decide) (by decide) hτ)
