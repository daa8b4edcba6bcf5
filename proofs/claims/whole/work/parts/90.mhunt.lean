/-! ===== PURE: the search, model's side ===== -/
theorem m_hdL {σ : St} {a : List Nat} {K1 K2 : St → Option (St × Int64)} (h : Mw σ 47 25 a) (h24 : a.length = 24) : ∀ (m fz k : Nat), m < fz → k + m = 8 → F_X7_shown_L15 K1 K2 fz σ (nI k) = if hdk a k m = true then K2 σ else K1 σ := by
  intro m
  induction m with
  | zero =>
    intro fz k hf hk
    cases fz with
    | zero => omega
    | succ fz =>
      unfold F_X7_shown_L15
      rw [if_pos (show (8 : Int32) ≤ nI k from nI_le (a := 8) (by omega) (by omega))]
      rfl
  | succ m ih =>
    intro fz k hf hk
    cases fz with
    | zero => omega
    | succ fz =>
      have hb := h.by k
      unfold F_X7_shown_L15
      rw [if_neg (show ¬ (8 : Int32) ≤ nI k from nI_ge (b := 8) (by omega) (by omega)), bd_eq (m_hd h (by omega))]
      unfold F_X7_shown_L41
      dsimp only
      rw [nI_1, ih fz (k + 1) (by omega) (by omega)]
      have e254 : (nI (a.getD k 0) = 254) ↔ a.getD k 0 = 254 := nI_eq (b := 254) (by omega) (by omega)
      have e170 : (nI (a.getD k 0) = 170) ↔ a.getD k 0 = 170 := nI_eq (b := 170) (by omega) (by omega)
      show _ = if (decide (a.getD k 0 = if k < 7 then 254 else 170) && hdk a (k + 1) m) = true then K2 σ else K1 σ
      by_cases h7 : k < 7
      · rw [if_neg (show ¬ (7 : Int32) ≤ nI k from nI_ge (b := 7) (by omega) (by omega)), if_pos h7]
        by_cases hc : a.getD k 0 = 254
        · rw [if_pos (e254.mpr hc), decide_eq_true hc, Bool.true_and]
        · rw [if_neg (fun h => hc (e254.mp h)), decide_eq_false hc, Bool.false_and, if_neg (by decide)]
      · rw [if_pos (show (7 : Int32) ≤ nI k from nI_le (a := 7) (by omega) (by omega)), if_neg h7]
        by_cases hc : a.getD k 0 = 170
        · rw [if_pos (e170.mpr hc), decide_eq_true hc, Bool.true_and]
        · rw [if_neg (fun h => hc (e170.mp h)), decide_eq_false hc, Bool.false_and, if_neg (by decide)]
theorem m_pr2 {σ : St} {a : List Nat} {u1 : Int64} {u3 : Int32} {K1 : St → Option (St × Int64)} {K2 : St → Int64 → Int32 → Int32 → Option (St × Int64)} (h : Mw σ 47 25 a) (h24 : a.length = 24) : ∀ (m fz k t : Nat), m < fz → k + 2 * m = 24 → m ≤ 2 → F_X7_shown_L65 K1 K2 fz σ u1 u3 (nI t) (nI k) = if prs a k m = true then K2 σ u1 u3 (nI (nn t a k m)) else K1 σ := by
  intro m
  induction m with
  | zero =>
    intro fz k t hf hk h2
    cases fz with
    | zero => omega
    | succ fz =>
      unfold F_X7_shown_L65
      rw [if_pos (show (24 : Int32) ≤ nI k from nI_le (a := 24) (by omega) (by omega))]
      rfl
  | succ m ih =>
    intro fz k t hf hk h2
    cases fz with
    | zero => omega
    | succ fz =>
      have hb := h.by k
      have hb1 := h.by (k + 1)
      unfold F_X7_shown_L65
      rw [if_neg (show ¬ (24 : Int32) ≤ nI k from nI_ge (b := 24) (by omega) (by omega)), bd_eq (m_hd h (by omega)), nI_1]
      dsimp only
      rw [bd_eq (m_hd h (by omega))]
      dsimp only
      have e170 : (nI (a.getD k 0) &&& 170 = 170) ↔ a.getD k 0 &&& 170 = 170 := by
        rw [show nI (a.getD k 0) &&& 170 = nI (a.getD k 0 &&& 170) from nI_and _ 170]
        have := and_lt256 (b := 170) hb
        exact nI_eq (b := 170) (by omega) (by omega)
      have e85 : (nI (a.getD (k + 1) 0) &&& 85 = 85) ↔ a.getD (k + 1) 0 &&& 85 = 85 := by
        rw [show nI (a.getD (k + 1) 0) &&& 85 = nI (a.getD (k + 1) 0 &&& 85) from nI_and _ 85]
        have := and_lt256 (b := 85) hb1
        exact nI_eq (b := 85) (by omega) (by omega)
      rw [if_pos (show (20 : Int32) ≤ nI k from nI_le (a := 20) (by omega) (by omega)), show (256 : Int32) = nI 256 from rfl, pk_mul, nI_and, nI_add, show nI k + 2 = nI (k + 2) from nI_add k 2, ih fz (k + 2) _ (by omega) (by omega) (by omega)]
      show _ = if (decide (a.getD k 0 &&& 170 = 170 ∧ a.getD (k + 1) 0 &&& 85 = 85) && prs a (k + 2) m) = true then K2 σ u1 u3 (nI (nn (t * 256 + (a.getD k 0 &&& a.getD (k + 1) 0)) a (k + 2) m)) else K1 σ
      by_cases hc1 : a.getD k 0 &&& 170 = 170
      · rw [if_pos (e170.mpr hc1)]
        by_cases hc2 : a.getD (k + 1) 0 &&& 85 = 85
        · rw [if_pos (e85.mpr hc2), decide_eq_true ⟨hc1, hc2⟩, Bool.true_and]
        · rw [if_neg (fun h => hc2 (e85.mp h)), decide_eq_false (fun h => hc2 h.2), Bool.false_and, if_neg (by decide)]
      · rw [if_neg (fun h => hc1 (e170.mp h)), decide_eq_false (fun h => hc1 h.1), Bool.false_and, if_neg (by decide)]
theorem m_pr1 {σ : St} {a : List Nat} {K1 : St → Option (St × Int64)} {K2 : St → Int64 → Int32 → Int32 → Option (St × Int64)} (h : Mw σ 47 25 a) (h24 : a.length = 24) : ∀ (m fz k x s : Nat), m + 2 < fz → k + 2 * m = 20 → F_X7_shown_L65 K1 K2 fz σ (lN x) (nI s) 0 (nI k) = if prs a k (m + 2) = true then K2 σ (lN (nn x a k m)) (nI (s + sg a k (2 * m))) (nI (nn 0 a 20 2)) else K1 σ := by
  intro m
  induction m with
  | zero =>
    intro fz k x s hf hk
    have e := m_pr2 (u1 := lN x) (u3 := nI s) (K1 := K1) (K2 := K2) h h24 2 fz 20 0 (by omega) (by omega) (by omega)
    rw [show k = 20 by omega]
    exact e
  | succ m ih =>
    intro fz k x s hf hk
    cases fz with
    | zero => omega
    | succ fz =>
      have hb := h.by k
      have hb1 := h.by (k + 1)
      have hab : a.getD k 0 &&& a.getD (k + 1) 0 < 256 := and_lt256 hb
      unfold F_X7_shown_L65
      rw [if_neg (show ¬ (24 : Int32) ≤ nI k from nI_ge (b := 24) (by omega) (by omega)), bd_eq (m_hd h (by omega)), nI_1]
      dsimp only
      rw [bd_eq (m_hd h (by omega))]
      dsimp only
      have e170 : (nI (a.getD k 0) &&& 170 = 170) ↔ a.getD k 0 &&& 170 = 170 := by
        rw [show nI (a.getD k 0) &&& 170 = nI (a.getD k 0 &&& 170) from nI_and _ 170]
        have := and_lt256 (b := 170) hb
        exact nI_eq (b := 170) (by omega) (by omega)
      have e85 : (nI (a.getD (k + 1) 0) &&& 85 = 85) ↔ a.getD (k + 1) 0 &&& 85 = 85 := by
        rw [show nI (a.getD (k + 1) 0) &&& 85 = nI (a.getD (k + 1) 0 &&& 85) from nI_and _ 85]
        have := and_lt256 (b := 85) hb1
        exact nI_eq (b := 85) (by omega) (by omega)
      rw [if_neg (show ¬ (20 : Int32) ≤ nI k from nI_ge (b := 20) (by omega) (by omega)), show (256 : Int64) = lN 256 from rfl, lN_mul, nI_and, nI_l (by omega), lN_add, nI_add, nI_add, show nI k + 2 = nI (k + 2) from nI_add k 2, ih fz (k + 2) _ _ (by omega) (by omega)]
      have es : s + a.getD k 0 + a.getD (k + 1) 0 + sg a (k + 2) (2 * m) = s + sg a k (2 * (m + 1)) := by
        show _ = s + (a.getD k 0 + (a.getD (k + 1) 0 + sg a (k + 2) (2 * m)))
        omega
      rw [es]
      show _ = if (decide (a.getD k 0 &&& 170 = 170 ∧ a.getD (k + 1) 0 &&& 85 = 85) && prs a (k + 2) (m + 2)) = true then K2 σ (lN (nn (x * 256 + (a.getD k 0 &&& a.getD (k + 1) 0)) a (k + 2) m)) (nI (s + sg a k (2 * (m + 1)))) (nI (nn 0 a 20 2)) else K1 σ
      by_cases hc1 : a.getD k 0 &&& 170 = 170
      · rw [if_pos (e170.mpr hc1)]
        by_cases hc2 : a.getD (k + 1) 0 &&& 85 = 85
        · rw [if_pos (e85.mpr hc2), decide_eq_true ⟨hc1, hc2⟩, Bool.true_and]
        · rw [if_neg (fun h => hc2 (e85.mp h)), decide_eq_false (fun h => hc2 h.2), Bool.false_and, if_neg (by decide)]
      · rw [if_neg (fun h => hc1 (e170.mp h)), decide_eq_false (fun h => hc1 h.1), Bool.false_and, if_neg (by decide)]
theorem m_shown {σ : St} {a : List Nat} (h : Mw σ 47 25 a) : F_X7_shown σ = some (σ, oL (shw a)) := by
  have hl := h.2.1
  rw [show ln 47 = 300 from rfl] at hl
  have hb := h.by
  have n24 : (nI a.length = 24) ↔ a.length = 24 := nI_eq (b := 24) (by omega) (by omega)
  unfold F_X7_shown
  rw [h.1]
  unfold shw
  by_cases h24 : a.length = 24
  · rw [if_pos (n24.mpr h24), show (0 : Int32) = nI 0 from rfl, m_hdL h h24 8 fu 0 (by unfold fu; omega) rfl]
    by_cases hh : hdk a 0 8 = true
    · rw [if_pos hh]
      unfold F_X7_shown_L54
      have e := m_pr1 (K1 := F_X7_shown_L112) (K2 := F_X7_shown_L167) h h24 6 fu 8 0 0 (by unfold fu; omega) (by omega)
      have e' : F_X7_shown_L65 F_X7_shown_L112 F_X7_shown_L167 fu σ 0 0 0 8 = if prs a 8 8 = true then F_X7_shown_L167 σ (lN (nn 0 a 8 6)) (nI (0 + sg a 8 12)) (nI (nn 0 a 20 2)) else F_X7_shown_L112 σ := e
      rw [e', Nat.zero_add]
      by_cases hp : prs a 8 8 = true
      · rw [if_pos hp]
        unfold F_X7_shown_L167
        have hsl := sg_le hb 12 8
        have hn2 := nn_lt hb 2 0 20 0 (by decide)
        rw [show (65536 : Int32) = nI 65536 from rfl, pk_rem (by omega) (by decide) (by decide), Nat.mod_eq_of_lt (by omega)]
        by_cases hc : sg a 8 12 = nn 0 a 20 2
        · rw [if_pos (congrArg nI hc), if_pos ⟨h24, hh, hp, hc⟩]; rfl
        · rw [if_neg (fun h9 => hc ((nI_eq (by omega) (by omega)).mp h9)), if_neg (fun h9 => hc h9.2.2.2)]; rfl
      · rw [if_neg hp, if_neg (fun h9 => hp h9.2.2.1)]; rfl
    · rw [if_neg hh, if_neg (fun h9 => hh h9.2.1)]; rfl
  · rw [if_neg (fun h9 => h24 (n24.mp h9)), if_neg (fun h9 => h24 h9.1)]; rfl
/-- the model's search -/
def MY (σ : St) (bg : Nat) (Y : Ys) : Prop :=
  σ.1 27 32 = nI bg ∧ σ.1 27 34 = nI Y.1 ∧ (∀ j, j < Y.1 → σ.2 51 j = lN (Y.2.1 j).1 ∧ σ.2 52 j = lN (Y.2.1 j).2) ∧ σ.1 27 37 = nI Y.2.2.1 ∧ (∀ j, j < Y.2.2.1 → σ.2 53 j = lN (Y.2.2.2.1 j)) ∧ σ.1 27 33 = nI Y.2.2.2.2
/-- the places of the model's search -/
abbrev pS : Nat → Nat → Prop := fun q j => (51 ≤ q ∧ q ≤ 53) ∨ (q = 27 ∧ (j = 32 ∨ j = 33 ∨ j = 34 ∨ j = 37))
theorem MY.fr {p : Nat → Nat → Prop} {σ τ : St} {bg : Nat} {Y : Ys} (h : MY σ bg Y) (he : Fr p σ τ) (hp : ∀ q j, pS q j → ¬ p q j) : MY τ bg Y := by
  obtain ⟨h1, h2, h3, h4, h5, h6⟩ := h
  refine ⟨?_, ?_, fun j hj => ?_, ?_, fun j hj => ?_, ?_⟩
  · rw [he.i (hp 27 32 (by unfold pS; omega))]; exact h1
  · rw [he.i (hp 27 34 (by unfold pS; omega))]; exact h2
  · rw [he.l (hp 51 j (by unfold pS; omega)), he.l (hp 52 j (by unfold pS; omega))]; exact h3 j hj
  · rw [he.i (hp 27 37 (by unfold pS; omega))]; exact h4
  · rw [he.l (hp 53 j (by unfold pS; omega))]; exact h5 j hj
  · rw [he.i (hp 27 33 (by unfold pS; omega))]; exact h6
abbrev pP : Nat → Nat → Prop := fun q j => (51 ≤ q ∧ q ≤ 52) ∨ (q = 27 ∧ j = 34)
theorem m_push {σ : St} {bg a b : Nat} {Y : Ys} (h : MY σ bg Y) (hd : Y.1 < 128) : Ok (F_X7_push σ (lN a) (lN b)) (fun τ => MY τ bg (pil Y a b) ∧ Fr pP σ τ) := by
  obtain ⟨h1, h2, h3, h4, h5, h6⟩ := h
  unfold F_X7_push
  rw [h2]
  refine Ok.gd (ib_nI (show Y.1 < 128 from hd) (by decide)) (Ok.nm ?_)
  rw [nI_clamp (by omega), sJ_1, h2]
  refine Ok.gd (ib_nI (show Y.1 < 128 from hd) (by decide)) (Ok.nm (Ok.nm (Ok.so ?_)))
  rw [nI_clamp (by omega), sJ_1, sJ_1, h2, nI_1]
  refine ⟨⟨?_, ?_, fun j hj => ?_, ?_, fun j hj => ?_, ?_⟩, ((Fr.sJ (by unfold pP; omega)).t (Fr.sJ (by unfold pP; omega))).t (Fr.sI (by unfold pP; omega))⟩
  · simp [sI_if, sJ_1]; exact h1
  · simp [sI_if, sJ_1]; rfl
  · show (sI _ 27 34 _).2 51 j = lN (if j = Y.1 then (a, b) else Y.2.1 j).1 ∧ (sI _ 27 34 _).2 52 j = lN (if j = Y.1 then (a, b) else Y.2.1 j).2
    simp only [sI_2, sJ_if]
    by_cases e : j = Y.1
    · simp [e]
    · have := h3 j (by show j < Y.1; have : j < Y.1 + 1 := hj; omega)
      simp [e, this]
  · simp [sI_if, sJ_1]; exact h4
  · simp only [sI_2, sJ_if]; simp; exact h5 j hj
  · simp [sI_if, sJ_1]; exact h6
theorem m_hasL {σ : St} {fc id : Nat} {fd : Nat → Nat} {K : St → Int32 → Option (St × Int32)} (h4 : σ.1 27 37 = nI fc) (h5 : ∀ j, j < fc → σ.2 53 j = lN (fd j)) (hfd : ∀ j, j < fc → fd j < 2 ^ 48) (hfc : fc ≤ 24) (hid : id < 2 ^ 48) : ∀ (m fz k : Nat), m < fz → k + m = fc → (F_X7_isFound_L5 K fz σ (lN id) 1 (nI k) = K σ 1) ∧ ((∃ j, k ≤ j ∧ j < k + m ∧ fd j = id) → F_X7_isFound_L5 K fz σ (lN id) 0 (nI k) = K σ 1) ∧ ((¬ ∃ j, k ≤ j ∧ j < k + m ∧ fd j = id) → F_X7_isFound_L5 K fz σ (lN id) 0 (nI k) = K σ 0) := by
  intro m
  induction m with
  | zero =>
    intro fz k hf hk
    cases fz with
    | zero => omega
    | succ fz =>
      unfold F_X7_isFound_L5
      rw [h4, if_pos (nI_le (by omega) (by omega)), if_pos (nI_le (by omega) (by omega))]
      exact ⟨rfl, fun ⟨j, h1, h2, _⟩ => by omega, fun _ => rfl⟩
  | succ m ih =>
    intro fz k hf hk
    cases fz with
    | zero => omega
    | succ fz =>
      have g1 := hfd k (by omega)
      have hi := ih fz (k + 1) (by omega) (by omega)
      unfold F_X7_isFound_L5
      rw [h4, if_neg (nI_ge (by omega) (by omega)), if_neg (show ¬ (1 : Int32) = 0 by decide), nI_1, hi.1, if_neg (nI_ge (by omega) (by omega)), if_pos rfl, gd_t (show ib (nI k) (ln 53) = true from ib_nI (show k < 24 by omega) (by decide)), nI_clamp (by omega), h5 k (by omega), has_succ]
      refine ⟨rfl, ?_⟩
      by_cases e : fd k = id
      · rw [if_pos (cm_0.mpr (by rw [e]))]
        exact ⟨fun _ => rfl, fun h => absurd (Or.inl e) h⟩
      · rw [if_neg (fun h => e ((pk_lEQ (by omega) (by omega)).mp (cm_0.mp h)))]
        exact ⟨fun h => hi.2.1 (h.resolve_left e), fun h => hi.2.2 (fun h2 => h (Or.inr h2))⟩
theorem m_has {σ : St} {bg id : Nat} {Y : Ys} (h : MY σ bg Y) (hF : WF Y) (hid : id < 2 ^ 48) : F_X7_isFound σ (lN id) = some (σ, if has Y id then 1 else 0) := by
  have g := (m_hasL (K := F_X7_isFound_L42) h.2.2.2.1 h.2.2.2.2.1 hF.1 hF.2 hid Y.2.2.1 fu 0 (by unfold fu; have := hF.2; omega) (by omega)).2
  unfold F_X7_isFound
  by_cases hh : has Y id
  · rw [if_pos hh]
    obtain ⟨j, h1, h2⟩ := hh
    exact g.1 ⟨j, by omega, by omega, h2⟩
  · rw [if_neg hh]
    exact g.2 (fun ⟨j, h1, h2, h3⟩ => hh ⟨j, by omega, h3⟩)
/-- the places that a try changes, in the model -/
abbrev pU (n : Nat) : Nat → Nat → Prop := fun q j => (28 ≤ q ∧ q ≤ 44 ∧ zn n q j = 1) ∨ (46 ≤ q ∧ q ≤ 48) ∨ (51 ≤ q ∧ q ≤ 53) ∨ (q = 27 ∧ (j = 21 ∨ j = 23 ∨ j = 25 ∨ j = 27 ∨ j = 28 ∨ j = 31 ∨ j = 33 ∨ j = 34 ∨ j = 37))
theorem m_try {σ : St} {n o bg id : Nat} {X : Xs} {Y : Ys} (hX : MX σ n X) (hc : X.2.1 < 256) (hY : MY σ bg Y) (hn : n ≤ 24) (hW : WX o n X) (ho : o + 1 ≤ 1000) (hno : X.1 + 5 < 2 ^ 31) (hid : id < 2 ^ 48) (hF : WF Y) (hk : (tryX n X id).2 = 1 → ¬ has Y id → Y.2.2.1 < 24) : Ok (F_X7_tried σ (lN id)) (fun y => MX y.1 n (tryX n X id).1 ∧ MY y.1 bg (if (tryX n X id).2 = 1 then kep Y id else Y) ∧ y.2 = nI (tryX n X id).2 ∧ Fr (pU n) σ y.1) := by
  have hWa : WX o n (askX n X id 0 16 2 []) := WX.ask (to := id) (part := 0) (mat := 2) (grp := 16) (d := []) hW (by decide) (by decide) By.nil
  have hca : (askX n X id 0 16 2 []).2.1 < 256 := Nat.mod_lt _ (by decide)
  unfold F_X7_tried
  refine Ok.b2 (m_ws (mat := 2) hX hc hn hW ho (by omega) hid (by decide)) (fun τ hτ => ?_)
  obtain ⟨t1, t2⟩ := hτ
  have kU : Fr (pU n) σ τ := t2.mo (fun a b h => by unfold pQ at h; unfold pU; omega)
  have hY1 : MY τ bg Y := hY.fr t2 (fun q j h1 h2 => by unfold pS at h1; unfold pQ at h2; omega)
  have r7 : Mw τ 47 25 (askX n X id 0 16 2 []).2.2.2.1 := t1.2.2.2.2.1
  have l7 := r7.2.1
  rw [show ln 47 = 300 from rfl] at l7
  have b7 := r7.by
  have dbt : (askX n X id 0 16 2 []).2.2.2.1.length ≠ 0 → ¬ isFnd (askX n X id 0 16 2 []) id → Ok (F_X7_tried_L101 τ (lN id)) (fun y => MX y.1 n (tryX n X id).1 ∧ MY y.1 bg (if (tryX n X id).2 = 1 then kep Y id else Y) ∧ y.2 = nI (tryX n X id).2 ∧ Fr (pU n) σ y.1) := by
    intro g4 g5
    have e : tryX n X id = (askX n (askX n X id 0 16 2 []) id 0 16 3 [], 2) := by unfold tryX; rw [if_neg g4, if_neg g5]
    rw [e]
    unfold F_X7_tried_L101
    refine Ok.b2 (m_ws (mat := 3) t1 hca hn hWa ho (show X.1 + 1 + 4 < 2 ^ 31 by omega) hid (by decide)) (fun ρ2 h2 => Ok.so ⟨h2.1, ?_, rfl, ?_⟩)
    · rw [if_neg (show ¬ 2 = 1 by decide)]
      exact hY1.fr h2.2 (fun q j h1 h2 => by unfold pS at h1; unfold pQ at h2; omega)
    · exact kU.t (h2.2.mo (fun a b h => by unfold pQ at h; unfold pU; omega))
  rw [r7.1]
  by_cases h0 : (askX n X id 0 16 2 []).2.2.2.1.length = 0
  · refine Ok.tt (by rw [h0]; rfl) (Ok.so ?_)
    have e : tryX n X id = (askX n X id 0 16 2 [], 0) := by unfold tryX; rw [if_pos h0]
    rw [e]
    exact ⟨t1, by rw [if_neg (show ¬ 0 = 1 by decide)]; exact hY1, rfl, kU⟩
  refine Ok.ff (nI_ne0 (by omega) (by omega)) ?_
  refine Ok.eq (m_isRep r7 t1.2.2.1 hca hid) ?_
  dsimp only
  by_cases hr : isRep (askX n X id 0 16 2 []).2.2.2.1 id (askX n X id 0 16 2 []).2.1
  · rw [if_pos hr]
    refine Ok.ff (by decide) ?_
    have b20 := b7 20
    have b16 := b7 16
    have t21 := two_lt b7 21
    have hlen : 26 ≤ (askX n X id 0 16 2 []).2.2.2.1.length := by have := hr.1.1; have := hr.1.2.1; omega
    refine Ok.eq (m_hd r7 (k := 20) (by omega)) ?_
    dsimp only
    by_cases e17 : (askX n X id 0 16 2 []).2.2.2.1.getD 20 0 = 17
    · refine Ok.tt (by rw [e17]; rfl) ?_
      refine Ok.eq (m_hd r7 (k := 21) (by omega)) ?_
      refine Ok.eq (m_hd r7 (k := 22) (by omega)) ?_
      dsimp only
      rw [show (256 : Int32) = nI 256 from rfl, pk_mul, nI_add]
      change Ok (if nI (two (askX n X id 0 16 2 []).2.2.2.1 21) = 2 then _ else _) _
      by_cases e2 : two (askX n X id 0 16 2 []).2.2.2.1 21 = 2
      · refine Ok.tt (by rw [e2]; rfl) ?_
        refine Ok.eq (m_hd r7 (k := 16) (by omega)) ?_
        dsimp only
        by_cases e0 : (askX n X id 0 16 2 []).2.2.2.1.getD 16 0 = 0
        · refine Ok.tt (by rw [e0]; rfl) ?_
          have e : tryX n X id = (askX n X id 0 16 2 [], 1) := by unfold tryX; rw [if_neg h0, if_pos ⟨hr, e17, e2, e0⟩]
          rw [e] at hk ⊢
          refine Ok.eq (m_has hY1 hF hid) ?_
          dsimp only
          rw [if_pos rfl]
          unfold kep
          by_cases hh : has Y id
          · rw [if_pos hh, if_pos hh]
            exact Ok.ff (by decide) (Ok.so ⟨t1, hY1, rfl, kU⟩)
          · rw [if_neg hh, if_neg hh]
            refine Ok.tt rfl ?_
            have h24 := hk rfl hh
            have hY1' := hY1
            obtain ⟨y1, y2, y3, y4, y5, y6⟩ := hY1
            rw [y4]
            refine Ok.gd (ib_nI (show Y.2.2.1 < 24 from h24) (by decide)) (Ok.nm (Ok.nm (Ok.so ?_)))
            rw [nI_clamp (by omega), sJ_1, y4, nI_1]
            have q9 : Fr (fun q j => q = 53 ∨ (q = 27 ∧ j = 37)) τ (sI (sJ τ 53 Y.2.2.1 (lN id)) 27 37 (nI (Y.2.2.1 + 1))) := (Fr.sJ (Or.inl rfl)).t (Fr.sI (Or.inr ⟨rfl, rfl⟩))
            refine ⟨t1.fr hWa.bl q9 (fun q j h1 h2 => by unfold pX at h1; omega), ⟨?_, ?_, fun j hj => ?_, ?_, fun j hj => ?_, ?_⟩, rfl, kU.t (q9.mo (fun a b h => by unfold pU; omega))⟩
            · rw [q9.i (by omega)]; exact y1
            · rw [q9.i (by omega)]; exact y2
            · rw [q9.l (by omega), q9.l (by omega)]; exact y3 j hj
            · rw [sI_eq]; rfl
            · show (sI _ 27 37 _).2 53 j = lN (if j = Y.2.2.1 then id else Y.2.2.2.1 j)
              rw [sI_2, sJ_if]
              by_cases ej : j = Y.2.2.1
              · simp [ej]
              · have : j < Y.2.2.1 := by have : j < Y.2.2.1 + 1 := hj; omega
                simp [ej]; exact y5 j this
            · rw [q9.i (by omega)]; exact y6
        · refine Ok.ff (nI_ne0 (by omega) (by omega)) ?_
          exact dbt h0 (fun h => e0 h.2.2.2)
      · refine Ok.ff (fun h => e2 ((nI_eq (b := 2) (by omega) (by omega)).mp h)) ?_
        exact dbt h0 (fun h => e2 h.2.2.1)
    · refine Ok.ff (fun h => e17 ((nI_eq (b := 17) (by omega) (by omega)).mp h)) ?_
      exact dbt h0 (fun h => e17 h.2.1)
  · rw [if_neg hr]
    refine Ok.tt rfl ?_
    exact dbt h0 (fun h => hr h.1)
theorem m_isId {σ : St} {v : Nat} (hv : v < 2 ^ 48) : F_X7_isId σ (lN v) = some (σ, if isCl v then 0 else 1) := by
  unfold F_X7_isId
  rw [rest_mask (by omega)]
  by_cases h : isCl v
  · rw [if_pos (cm_0.mpr (by rw [show v % 2 ^ 32 = 2 ^ 32 - 1 from h]; rfl)), if_pos h]
  · rw [if_neg (fun h9 => by rw [cm_0, lit6, pk_lEQ (by omega) (by omega)] at h9; exact h h9), if_neg h]
theorem WX.try {o n id : Nat} {X : Xs} (h : WX o n X) : WX o n (tryX n X id).1 := by
  have h1 : WX o n (askX n X id 0 16 2 []) := WX.ask (to := id) (part := 0) (mat := 2) (grp := 16) (d := []) h (by decide) (by decide) By.nil
  unfold tryX
  split
  · exact h1
  split
  · exact h1
  · exact WX.ask (to := id) (part := 0) (mat := 3) (grp := 16) (d := []) h1 (by decide) (by decide) By.nil
theorem m_step {σ : St} {n o bg : Nat} {X : Xs} {Y : Ys} (hX : MX σ n X) (hc : X.2.1 < 256) (hY : MY σ bg Y) (hn : n ≤ 24) (hW : WX o n X) (ho : o + 1 ≤ 1000) (hno : X.1 + 6 < 2 ^ 31) (hF : WF Y) (hWY : WY Y) (hd : 0 < Y.1) (hk1 : (br Y).1 = (br Y).2 → ¬ isCl (br Y).1 → (tryX n X (br Y).1).2 = 1 → ¬ has Y (br Y).1 → Y.2.2.1 < 24) (hk2 : ∀ v, v < 2 ^ 48 → ¬ isCl v → (tryX n (qst n X (br Y).1 (br Y).2) v).2 = 1 → ¬ has Y v → Y.2.2.1 < 24) : Ok (F_X7_stepOnce σ) (fun τ => MX τ n (stp n X Y).1 ∧ MY τ bg (stp n X Y).2 ∧ Fr (pU n) σ τ) := by
  have hd49 := hWY.2
  obtain ⟨wa, wb, wc⟩ := hWY.1 (Y.1 - 1) (by omega)
  have hY' := hY
  obtain ⟨y1, y2, y3, y4, y5, y6⟩ := hY
  obtain ⟨z1, z2⟩ := y3 (Y.1 - 1) (by omega)
  change (br Y).1 ≤ (br Y).2 at wa
  change (br Y).2 < 2 ^ 48 - 1 at wb
  change σ.2 51 (Y.1 - 1) = lN (br Y).1 at z1
  change σ.2 52 (Y.1 - 1) = lN (br Y).2 at z2
  unfold F_X7_stepOnce
  refine Ok.nm ?_
  have e34 : (sI σ 27 34 (σ.1 27 34 - 1)).1 27 34 = nI (Y.1 - 1) := by
    rw [sI_eq, y2]; exact pk_sub (b := 1) hd
  rw [e34]
  refine Ok.gd (ib_nI (show Y.1 - 1 < 128 by omega) (by decide)) (Ok.gd (ib_nI (show Y.1 - 1 < 128 by omega) (by decide)) (Ok.nm ?_))
  rw [nI_clamp (by omega), sI_2, z1, z2, sI_nj (show (33 : Nat) ≠ 34 by decide), y6, nI_1, y2, show nI Y.1 - 1 = nI (Y.1 - 1) from pk_sub (b := 1) hd]
  generalize hw : sI (sI σ 27 34 (nI (Y.1 - 1))) 27 33 (nI (Y.2.2.2.2 + 1)) = w
  have q0 : Fr (fun q j => q = 27 ∧ (j = 33 ∨ j = 34)) σ w := by rw [← hw]; exact (Fr.sI ⟨rfl, Or.inr rfl⟩).t (Fr.sI ⟨rfl, Or.inl rfl⟩)
  have wX : MX w n X := hX.fr hW.bl q0 (fun q j h1 h2 => by unfold pX at h1; omega)
  have wY : MY w bg (tkn Y) := by
    refine ⟨by rw [q0.i (by omega)]; exact y1, by rw [← hw, sI_nj (by decide), sI_eq]; rfl, fun j hj => ?_, by rw [q0.i (by omega)]; exact y4, fun j hj => by rw [q0.l (by omega)]; exact y5 j hj, by rw [← hw, sI_eq]; rfl⟩
    rw [q0.l (by omega), q0.l (by omega)]
    exact y3 j (by have : j < Y.1 - 1 := hj; omega)
  have wU : Fr (pU n) σ w := q0.mo (fun a b h => by unfold pU; omega)
  have hFt : WF (tkn Y) := hF
  unfold stp
  generalize hA : (br Y).1 = a at *
  generalize hBb : (br Y).2 = b at *
  by_cases hab : a = b
  · refine Ok.tt (cm_0.mpr (by rw [hab])) ?_
    rw [if_pos hab]
    refine Ok.eq (m_isId (by omega)) ?_
    dsimp only
    by_cases hcl : isCl a
    · rw [if_pos hcl, if_pos hcl]
      exact Ok.tt rfl (Ok.so ⟨wX, wY, wU⟩)
    rw [if_neg hcl, if_neg hcl]
    refine Ok.ff (by decide) ?_
    refine Ok.bi (m_try wX hc wY hn hW ho (by omega) (by omega) hFt (fun h1 h2 => hk1 hab hcl h1 h2)) (fun y hy => ?_)
    obtain ⟨v1, v2, v3, v4⟩ := hy
    have vU := wU.t v4
    rw [v3]
    by_cases h2 : (tryX n X a).2 = 2
    · refine Ok.tt (by rw [h2]; rfl) ?_
      rw [if_neg (by omega)] at v2
      rw [if_pos h2]
      refine Ok.bi (m_push v2 (show Y.1 - 1 < 128 by omega)) (fun ρ hρ => Ok.so ⟨v1.fr hW.try.bl hρ.2 (fun q j h1 h2 => by unfold pX at h1; unfold pP at h2; omega), hρ.1, vU.t (hρ.2.mo (fun a b h => by unfold pP at h; unfold pU; omega))⟩)
    · refine Ok.ff (fun h => h2 ((nI_eq (b := 2) (by rcases tryX_c (n := n) (X := X) (id := a) with h | h | h <;> omega) (by omega)).mp h)) ?_
      rw [if_neg h2]
      exact Ok.so ⟨v1, v2, vU⟩
  · refine Ok.ff (fun h => hab ((pk_lEQ (by omega) (by omega)).mp (cm_0.mp h))) ?_
    rw [if_neg hab]
    refine Ok.bi (m_bp (to := 281474976710655) (part := 0) (grp := 16) (mat := 1) wX hW.bl hc (by decide) (by decide) (by decide) (by decide)) (fun τ2 h2 => ?_)
    obtain ⟨g1, g2, g3⟩ := h2
    refine vsix (σ0 := τ2) (x := a) (by omega) g1 Fr.rf (by rw [pz_len]; omega) (fun τ3 m3 q3 => ?_)
    refine vsix (σ0 := τ2) (x := b) (by omega) m3 q3 (by rw [List.length_append, pz_len, be_len]; omega) (fun τ4 m4 q4 => ?_)
    have m4' : Mw τ4 46 23 (pz 281474976710655 SR ((X.2.1 + 1) % 256) 1 0 16 1 ++ (be a 6 ++ be b 6)) := by rw [← List.append_assoc]; exact m4
    have hX4 : MX τ4 n (X.1, (X.2.1 + 1) % 256, X.2.2) := g2.fr hW.bl q4 (fun q j h1 h2 => by unfold pX at h1; unfold pv at h2; omega)
    refine Ok.bi (m_so (X := X) (d := be a 6 ++ be b 6) rfl hX4 hn hW ho (by omega) m4' (by simp [be_len])) (fun ρ hρ => ?_)
    obtain ⟨p1, p2⟩ := hρ
    have hWq : WX o n (qst n X a b) := WX.ask (grp := 16) hW (by decide) (by simp [be_len]) ((By.be _ _).app (By.be _ _))
    have kρ : Fr (pU n) σ ρ := ((wU.t (g3.mo (fun a b h => by unfold pU; omega))).t (q4.mo (fun a b h => by unfold pv at h; unfold pU; omega))).t (p2.mo (fun a b h => by unfold pQ at h; unfold pU; omega))
    have yρ : MY ρ bg (tkn Y) := ((wY.fr g3 (fun q j h1 h2 => by unfold pS at h1; omega)).fr q4 (fun q j h1 h2 => by unfold pS at h1; unfold pv at h2; omega)).fr p2 (fun q j h1 h2 => by unfold pS at h1; unfold pQ at h2; omega)
    change MX ρ n (qst n X a b) at p1
    have hq1 : (qst n X a b).1 = X.1 + 1 := rfl
    have hcq : (qst n X a b).2.1 < 256 := Nat.mod_lt _ (by decide)
    generalize qst n X a b = Q at *
    have r7 : Mw ρ 47 25 Q.2.2.2.1 := p1.2.2.2.2.1
    have l7 := r7.2.1
    rw [show ln 47 = 300 from rfl] at l7
    rw [r7.1]
    by_cases h0 : Q.2.2.2.1.length = 0
    · rw [if_pos h0]
      exact Ok.tt (by rw [h0]; rfl) (Ok.so ⟨p1, yρ, kρ⟩)
    rw [if_neg h0]
    refine Ok.ff (nI_ne0 (by omega) (by omega)) ?_
    refine Ok.eq (m_shown r7) ?_
    dsimp only
    -- both halves
    have halves : ∀ (ζ : St) (Xz : Xs), MX ζ n Xz → WX o n Xz → MY ζ bg (tkn Y) → Fr (pU n) σ ζ → Ok (F_X7_stepOnce_L155 ζ (lN a) (lN b)) (fun τ => MX τ n Xz ∧ MY τ bg (mid (tkn Y) a b) ∧ Fr (pU n) σ τ) := by
      intro ζ Xz z1 zW z2 z3
      unfold F_X7_stepOnce_L155
      rw [lN_add, show (2 : Int64) = lN 2 from rfl, pk_lDiv (by omega) (by decide) (by decide), lN_1]
      refine Ok.bi (m_push z2 (show Y.1 - 1 < 128 by omega)) (fun ζ2 u2 => ?_)
      refine Ok.bi (m_push u2.1 (show Y.1 - 1 + 1 < 128 by omega)) (fun ζ3 u3 => Ok.so ⟨(z1.fr zW.bl u2.2 (fun q j h1 h2 => by unfold pX at h1; unfold pP at h2; omega)).fr zW.bl u3.2 (fun q j h1 h2 => by unfold pX at h1; unfold pP at h2; omega), u3.1, ?_⟩)
      exact (z3.t (u2.2.mo (fun a b h => by unfold pP at h; unfold pU; omega))).t (u3.2.mo (fun a b h => by unfold pP at h; unfold pU; omega))
    have no : Ok (F_X7_stepOnce_L155 ρ (lN a) (lN b)) (fun τ => MX τ n Q ∧ MY τ bg (mid (tkn Y) a b) ∧ Fr (pU n) σ τ) := halves ρ Q p1 hWq yρ kρ
    cases hsh : shw Q.2.2.2.1 with
    | none =>
      refine Ok.tt ?_ no
      rw [cm_lt, Int64.lt_iff_toInt_lt]
      have := pk_lT (n := a) (by omega)
      rw [this, show (oL none).toInt = -1 from by decide]
      omega
    | some v =>
      have hv48 : v < 2 ^ 48 := by
        unfold shw at hsh
        split at hsh
        · injection hsh with hsh
          rw [← hsh]
          exact nn_lt r7.by 6 0 8 0 (by decide)
        · exact absurd hsh (by simp)
      dsimp only
      show Ok (if lg_cmp (lN v) (lN a) < 0 then _ else _) _
      by_cases c1 : v < a
      · refine Ok.tt (cm_lt.mpr ((pk_lLT (by omega) (by omega)).mpr c1)) ?_
        rw [if_neg (fun h => by have := h.1; omega)]
        exact no
      refine Ok.ff (fun h => c1 ((pk_lLT (by omega) (by omega)).mp (cm_lt.mp h))) ?_
      by_cases c2 : b < v
      · refine Ok.tt (cm_gt.mpr ((pk_lLT (by omega) (by omega)).mpr c2)) ?_
        rw [if_neg (fun h => by have := h.2.1; omega)]
        exact no
      refine Ok.ff (fun h => c2 ((pk_lLT (by omega) (by omega)).mp (cm_gt.mp h))) ?_
      rw [show oL (some v) = lN v from rfl]
      refine Ok.eq (m_isId hv48) ?_
      dsimp only
      by_cases hcl : isCl v
      · rw [if_pos hcl]
        refine Ok.tt rfl ?_
        rw [if_neg (fun h => h.2.2.1 hcl)]
        exact no
      rw [if_neg hcl]
      refine Ok.ff (by decide) ?_
      refine Ok.eq (m_has yρ hFt hv48) ?_
      dsimp only
      by_cases hhs : has (tkn Y) v
      · rw [if_pos hhs]
        refine Ok.ff (by decide) ?_
        rw [if_neg (fun h => h.2.2.2 hhs)]
        exact no
      rw [if_neg hhs]
      refine Ok.tt rfl ?_
      rw [if_pos (show wth (tkn Y) a b v from ⟨by omega, by omega, hcl, hhs⟩)]
      refine Ok.bi (m_try p1 hcq yρ hn hWq ho (by rw [hq1]; omega) hv48 hFt (fun h1 h2 => hk2 v hv48 hcl h1 h2)) (fun y hy => ?_)
      obtain ⟨v1, v2, v3, v4⟩ := hy
      rw [v3]
      by_cases h2 : (tryX n Q v).2 = 0
      · refine Ok.tt (by rw [h2]; rfl) ?_
        rw [if_neg (by omega)] at v2
        rw [if_pos h2]
        exact halves y.1 _ v1 hWq.try v2 (kρ.t v4)
      · refine Ok.ff (nI_ne0 (by omega) (by rcases tryX_c (n := n) (X := Q) (id := v) with h | h | h <;> omega)) ?_
        rw [if_neg h2]
        by_cases h3 : (tryX n Q v).2 = 1
        · rw [if_pos h3] at v2 ⊢
          refine Ok.bi (m_push v2 (by rw [kep_1]; show Y.1 - 1 < 128; omega)) (fun ρ2 hρ2 => Ok.so ⟨v1.fr hWq.try.bl hρ2.2 (fun q j h1 h2 => by unfold pX at h1; unfold pP at h2; omega), hρ2.1, (kρ.t v4).t (hρ2.2.mo (fun a b h => by unfold pP at h; unfold pU; omega))⟩)
        · rw [if_neg h3] at v2 ⊢
          refine Ok.bi (m_push v2 (by show Y.1 - 1 < 128; omega)) (fun ρ2 hρ2 => Ok.so ⟨v1.fr hWq.try.bl hρ2.2 (fun q j h1 h2 => by unfold pX at h1; unfold pP at h2; omega), hρ2.1, (kρ.t v4).t (hρ2.2.mo (fun a b h => by unfold pP at h; unfold pU; omega))⟩)
