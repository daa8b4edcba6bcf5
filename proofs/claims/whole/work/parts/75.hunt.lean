/-! ===== PURE: the search, class's side ===== -/
def oL : Option Nat → Int64
  | none => -1
  | some v => lN v
theorem f_hdL {σ : St} {a : List Nat} {K1 K2 : St → Option (St × Int64)} (h : Rw σ 7 a) : ∀ (m fz k : Nat), m < fz → k + m = 8 → F_X0_read_L15 7 K1 K2 fz σ (nI k) = if hdk a k m = true then K2 σ else K1 σ := by
  intro m
  induction m with
  | zero =>
    intro fz k hf hk
    cases fz with
    | zero => omega
    | succ fz =>
      unfold F_X0_read_L15
      rw [if_pos (show (8 : Int32) ≤ nI k from nI_le (a := 8) (by omega) (by omega))]
      rfl
  | succ m ih =>
    intro fz k hf hk
    cases fz with
    | zero => omega
    | succ fz =>
      have hb := h.lt k
      unfold F_X0_read_L15
      rw [if_neg (show ¬ (8 : Int32) ≤ nI k from nI_ge (b := 8) (by omega) (by omega)), bd_eq (f_at h (by omega))]
      unfold F_X0_read_L41
      dsimp only
      rw [nI_1, ih fz (k + 1) (by omega) (by omega)]
      have e254 : (nI (a.getD k 0) = 254) ↔ a.getD k 0 = 254 := nI_eq (b := 254) (by omega) (by omega)
      have e170 : (nI (a.getD k 0) = 170) ↔ a.getD k 0 = 170 := nI_eq (b := 170) (by omega) (by omega)
      show _ = if (decide (a.getD k 0 = if k < 7 then 254 else 170) && hdk a (k + 1) m) = true then K2 σ else K1 σ
      by_cases h7 : k < 7
      · rw [if_neg (show ¬ (7 : Int32) ≤ nI k from nI_ge (b := 7) (by omega) (by omega)), if_pos h7]
        by_cases hc : a.getD k 0 = 254
        · rw [if_pos (e254.mpr hc), decide_eq_true hc, Bool.true_and]
        · rw [if_neg (fun h => hc (e254.mp h)), decide_eq_false hc, Bool.false_and, if_neg (by decide)]
      · rw [if_pos (show (7 : Int32) ≤ nI k from nI_le (a := 7) (by omega) (by omega)), if_neg h7]
        by_cases hc : a.getD k 0 = 170
        · rw [if_pos (e170.mpr hc), decide_eq_true hc, Bool.true_and]
        · rw [if_neg (fun h => hc (e170.mp h)), decide_eq_false hc, Bool.false_and, if_neg (by decide)]
theorem and_lt256 {a b : Nat} (ha : a < 256) : a &&& b < 256 := Nat.lt_of_le_of_lt Nat.and_le_left ha
theorem f_prL {σ : St} {a : List Nat} {K1 : St → Option (St × Int64)} {K2 : St → Int64 → Option (St × Int64)} (h : Rw σ 7 a) : ∀ (m fz k x c : Nat), m < fz → k + 2 * m = 24 → x < 256 ^ c → c + m ≤ 8 → F_X0_read_L59 7 K1 K2 fz σ (lN x) (nI k) = if prs a k m = true then K2 σ (lN (nn x a k m)) else K1 σ := by
  intro m
  induction m with
  | zero =>
    intro fz k x c hf hk hx hc
    cases fz with
    | zero => omega
    | succ fz =>
      unfold F_X0_read_L59
      rw [if_pos (show (24 : Int32) ≤ nI k from nI_le (a := 24) (by omega) (by omega))]
      rfl
  | succ m ih =>
    intro fz k x c hf hk hx hc
    cases fz with
    | zero => omega
    | succ fz =>
      have hb := h.lt k
      have hb1 := h.lt (k + 1)
      have hab : a.getD k 0 &&& a.getD (k + 1) 0 < 256 := and_lt256 hb
      have hp : 256 ^ (c + 1) ≤ 256 ^ 8 := Nat.pow_le_pow_right (by decide) (by omega)
      have h2 : x * 256 + (a.getD k 0 &&& a.getD (k + 1) 0) < 256 ^ (c + 1) := by rw [Nat.pow_succ]; omega
      have h3 : x * 256 + (a.getD k 0 &&& a.getD (k + 1) 0) < 2 ^ 64 := Nat.lt_of_lt_of_le h2 (Nat.le_trans hp (by decide))
      unfold F_X0_read_L59
      rw [if_neg (show ¬ (24 : Int32) ≤ nI k from nI_ge (b := 24) (by omega) (by omega)), bd_eq (f_at h (by omega)), nI_1]
      dsimp only
      rw [bd_eq (f_at h (by omega))]
      dsimp only
      have e170 : (nI (a.getD k 0) &&& 170 = 170) ↔ a.getD k 0 &&& 170 = 170 := by
        rw [show nI (a.getD k 0) &&& 170 = nI (a.getD k 0 &&& 170) from nI_and _ 170]
        have := and_lt256 (b := 170) hb
        exact nI_eq (b := 170) (by omega) (by omega)
      have e85 : (nI (a.getD (k + 1) 0) &&& 85 = 85) ↔ a.getD (k + 1) 0 &&& 85 = 85 := by
        rw [show nI (a.getD (k + 1) 0) &&& 85 = nI (a.getD (k + 1) 0 &&& 85) from nI_and _ 85]
        have := and_lt256 (b := 85) hb1
        exact nI_eq (b := 85) (by omega) (by omega)
      have e1 : (lN x <<< ((Int32.toInt64 8) &&& 63)) ||| (Int32.toInt64 (nI (a.getD k 0) &&& nI (a.getD (k + 1) 0))) = lN (x * 256 + (a.getD k 0 &&& a.getD (k + 1) 0)) := by
        rw [show (8 : Int32) = nI 8 from rfl, wb_shl x (by decide), nI_and, nI_l (by omega)]
        exact wb_ors (k := 8) (by omega) h3
      rw [e1, show nI k + 2 = nI (k + 2) from nI_add k 2, ih fz (k + 2) _ (c + 1) (by omega) (by omega) h2 (by omega)]
      show _ = if (decide (a.getD k 0 &&& 170 = 170 ∧ a.getD (k + 1) 0 &&& 85 = 85) && prs a (k + 2) m) = true then K2 σ (lN (nn (x * 256 + (a.getD k 0 &&& a.getD (k + 1) 0)) a (k + 2) m)) else K1 σ
      by_cases hc1 : a.getD k 0 &&& 170 = 170
      · rw [if_pos (e170.mpr hc1)]
        by_cases hc2 : a.getD (k + 1) 0 &&& 85 = 85
        · rw [if_pos (e85.mpr hc2), decide_eq_true ⟨hc1, hc2⟩, Bool.true_and]
        · rw [if_neg (fun h => hc2 (e85.mp h)), decide_eq_false (fun h => hc2 h.2), Bool.false_and, if_neg (by decide)]
      · rw [if_neg (fun h => hc1 (e170.mp h)), decide_eq_false (fun h => hc1 h.1), Bool.false_and, if_neg (by decide)]
theorem nn_lt {a : List Nat} (hb : By a) : ∀ (m x k c : Nat), x < 256 ^ c → nn x a k m < 256 ^ (c + m) := by
  intro m
  induction m with
  | zero => intro x k c h; exact h
  | succ m ih =>
    intro x k c h
    have h1 : a.getD k 0 &&& a.getD (k + 1) 0 < 256 := and_lt256 (hb k)
    have h2 : x * 256 + (a.getD k 0 &&& a.getD (k + 1) 0) < 256 ^ (c + 1) := by rw [Nat.pow_succ]; omega
    have h3 := ih _ (k + 2) (c + 1) h2
    rw [show c + (m + 1) = c + 1 + m by omega]
    exact h3
theorem nn_add {f : List Nat} : ∀ (m x k j : Nat), nn x f k (m + j) = nn (nn x f k m) f (k + 2 * m) j := by
  intro m
  induction m with
  | zero => intro x k j; rw [Nat.zero_add]; rfl
  | succ m ih =>
    intro x k j
    rw [show m + 1 + j = (m + j) + 1 by omega]
    show nn (x * 256 + (f.getD k 0 &&& f.getD (k + 1) 0)) f (k + 2) (m + j) = nn (nn (x * 256 + (f.getD k 0 &&& f.getD (k + 1) 0)) f (k + 2) m) f (k + 2 * (m + 1)) j
    rw [ih, show k + 2 + 2 * m = k + 2 * (m + 1) by omega]
theorem nn_2 (x k : Nat) (f : List Nat) : nn x f k 2 = x * 65536 + nn 0 f k 2 := by
  show (x * 256 + (f.getD k 0 &&& f.getD (k + 1) 0)) * 256 + (f.getD (k + 2) 0 &&& f.getD (k + 2 + 1) 0) = x * 65536 + ((0 * 256 + (f.getD k 0 &&& f.getD (k + 1) 0)) * 256 + (f.getD (k + 2) 0 &&& f.getD (k + 2 + 1) 0))
  omega
theorem nn_88 (a : List Nat) : nn 0 a 8 8 = nn 0 a 8 6 * 65536 + nn 0 a 20 2 := by
  have h := nn_add (f := a) 6 0 8 2
  rw [nn_2] at h
  exact h
theorem f_read {σ : St} {a : List Nat} (h : Rw σ 7 a) : F_X0_read 7 σ = some (σ, oL (shw a)) := by
  have hl := h.2.1
  rw [show ln (7 + 1) = 257 from rfl] at hl
  have hb := h.by
  have n24 : (nI a.length = 24) ↔ a.length = 24 := nI_eq (b := 24) (by omega) (by omega)
  unfold F_X0_read
  rw [bd_eq (f_size h)]
  dsimp only
  unfold shw
  by_cases h24 : a.length = 24
  · rw [if_pos (n24.mpr h24), show (0 : Int32) = nI 0 from rfl, f_hdL h 8 fu 0 (by unfold fu; omega) rfl]
    by_cases hh : hdk a 0 8 = true
    · rw [if_pos hh]
      unfold F_X0_read_L54
      rw [show (0 : Int64) = lN 0 from rfl, show (8 : Int32) = nI 8 from rfl, f_prL h 8 fu 8 0 0 (by unfold fu; omega) (by omega) (by decide) (by omega)]
      by_cases hp : prs a 8 8 = true
      · rw [if_pos hp]
        unfold F_X0_read_L125
        have hs := f_sum h (a := 8) (m := 12) (by omega)
        have hsl := sg_le hb 12 8
        have hnl := nn_lt hb 8 0 8 0 (by decide)
        have hn2 := nn_lt hb 2 0 20 0 (by decide)
        have hn6 := nn_lt hb 6 0 8 0 (by decide)
        have h88 := nn_88 a
        rw [Nat.mod_eq_of_lt (by omega)] at hs
        rw [show (8 : Int32) = nI 8 from rfl, show (20 : Int32) = nI 20 from rfl, bd_eq hs]
        dsimp only
        rw [nI_l (by omega), show lN (nn 0 a 8 8) &&& 65535 = lN (nn 0 a 8 8 % 65536) from wb_mask (k := 16) (by omega) (by decide), show (16 : Int32) = nI 16 from rfl, wb_shr (by omega) (by decide)]
        have e1 : nn 0 a 8 8 % 65536 = nn 0 a 20 2 := by omega
        have e2 : nn 0 a 8 8 / 2 ^ 16 = nn 0 a 8 6 := by omega
        rw [e1, e2]
        by_cases hc : sg a 8 12 = nn 0 a 20 2
        · rw [if_pos (cm_0.mpr (by rw [hc])), if_pos ⟨h24, hh, hp, hc⟩]; rfl
        · rw [if_neg (fun h9 => by rw [cm_0, pk_lEQ (by omega) (by omega)] at h9; omega), if_neg (fun h9 => hc h9.2.2.2)]; rfl
      · rw [if_neg hp, if_neg (fun h9 => hp h9.2.2.1)]; rfl
    · rw [if_neg hh, if_neg (fun h9 => hh h9.2.1)]; rfl
  · rw [if_neg (fun h9 => h24 (n24.mp h9)), if_neg (fun h9 => h24 h9.1)]; rfl
theorem f_isRep {σ : St} {n id : Nat} {X : Xs} (hX : CX σ n X) (hid : id < 2 ^ 48) : Ok (F_X6_isReplyFrom σ (lN id)) (fun y => CX y.1 n X ∧ Fr (fun r _ => 12 ≤ r ∧ r ≤ 14) σ y.1 ∧ ((isRep X.2.2.2.1 id X.2.1 ∧ y.2 = 1 ∧ Hd y.1 12 X.2.2.2.1) ∨ (¬ isRep X.2.2.2.1 id X.2.1 ∧ y.2 = 0))) := by
  obtain ⟨x1, x2, ⟨x3, x3b⟩, x4, x5, x6, ⟨d, x7⟩, ⟨v, x8⟩, ⟨h, x9⟩, ⟨q, x10⟩, ⟨g, x11⟩⟩ := hX
  have hb := x5.by
  have s3 := six_lt hb 3
  have s9 := six_lt hb 9
  have b15 := hb 15
  unfold F_X6_isReplyFrom
  refine Ok.bi (f_readFrom (r := 12) (b := 7) (by omega) rfl x5 x9) (fun y hy => ?_)
  obtain ⟨y1, ⟨d', y2⟩, y3⟩ := hy
  have k1 : Fr (fun r _ => 12 ≤ r ∧ r ≤ 14) σ y.1 := (Fr.ex y1).mo (fun a b h => by simp only [List.mem_cons, List.mem_nil_iff, or_false] at h; omega)
  have hCX : CX y.1 n X := ⟨by rw [k1.i (by omega)]; exact x1, by rw [k1.i (by omega)]; exact x2, ⟨by rw [k1.i (by omega)]; exact x3, x3b⟩, fun j hj => (x4 j hj).fr k1 (fun r k g1 g2 h => by unfold qq at g1; omega), x5.fr k1 (fun j => by omega) (fun j => by omega), ⟨by rw [k1.i (by omega)]; exact x6.1, x6.2.1, fun j hj => by rw [k1.i (by omega), k1.i (by omega)]; exact x6.2.2 j hj⟩, ⟨d, x7.fr k1 (fun j => by omega) (fun j => by omega)⟩, ⟨v, x8.fr k1 (fun j => by omega) (fun j => by omega)⟩, ⟨d', y2⟩, ⟨q, x10.fr k1 (fun j => by omega) (fun j => by omega)⟩, ⟨g, x11.fr k1 (fun j => by omega) (fun j => by omega)⟩⟩
  rcases y3 with ⟨g1, g2, g3⟩ | ⟨g1, g2⟩
  · refine Ok.ff (by rw [g2]; decide) ?_
    rw [g3.1.1, g3.2.1.1, g3.2.2.1.1, hCX.2.2.1.1]
    by_cases e9 : six X.2.2.2.1 9 = id
    · refine Ok.tt (cm_0.mpr (by rw [e9])) ?_
      by_cases e3 : six X.2.2.2.1 3 = SR
      · refine Ok.tt (cm_0.mpr (by rw [e3]; rfl)) ?_
        by_cases e15 : X.2.2.2.1.getD 15 0 = X.2.1
        · exact Ok.tt (by rw [e15]) (Ok.so ⟨hCX, k1, Or.inl ⟨⟨g1, e9, e3, e15⟩, rfl, g3⟩⟩)
        · exact Ok.ff (fun h9 => e15 ((nI_eq (by omega) (by omega)).mp h9)) (Ok.so ⟨hCX, k1, Or.inr ⟨fun h9 => e15 h9.2.2.2, rfl⟩⟩)
      · exact Ok.ff (fun h9 => e3 ((pk_lEQ (b := SR) (by omega) (by decide)).mp (cm_0.mp h9))) (Ok.so ⟨hCX, k1, Or.inr ⟨fun h9 => e3 h9.2.2.1, rfl⟩⟩)
    · exact Ok.ff (fun h9 => e9 ((pk_lEQ (by omega) (by omega)).mp (cm_0.mp h9))) (Ok.so ⟨hCX, k1, Or.inr ⟨fun h9 => e9 h9.2.1, rfl⟩⟩)
  · exact Ok.tt g2 (Ok.so ⟨hCX, k1, Or.inr ⟨fun h9 => g1 h9.1, rfl⟩⟩)
/-- the class's search -/
def CY (σ : St) (bg : Nat) (Y : Ys) : Prop :=
  σ.1 21 3 = nI bg ∧ σ.1 21 4 = nI Y.1 ∧ (∀ j, j < Y.1 → σ.2 22 j = lN (Y.2.1 j).1 ∧ σ.2 23 j = lN (Y.2.1 j).2) ∧ σ.1 21 5 = nI Y.2.2.1 ∧ (∀ j, j < Y.2.2.1 → σ.2 24 j = lN (Y.2.2.2.1 j)) ∧ σ.1 21 6 = nI Y.2.2.2.2
theorem CY.fr {p : Nat → Nat → Prop} {σ τ : St} {bg : Nat} {Y : Ys} (h : CY σ bg Y) (he : Fr p σ τ) (hp : ∀ r j, 21 ≤ r → r ≤ 24 → ¬ p r j) : CY τ bg Y := by
  obtain ⟨h1, h2, h3, h4, h5, h6⟩ := h
  refine ⟨?_, ?_, fun j hj => ?_, ?_, fun j hj => ?_, ?_⟩
  · rw [he.i (hp 21 3 (by omega) (by omega))]; exact h1
  · rw [he.i (hp 21 4 (by omega) (by omega))]; exact h2
  · rw [he.l (hp 22 j (by omega) (by omega)), he.l (hp 23 j (by omega) (by omega))]; exact h3 j hj
  · rw [he.i (hp 21 5 (by omega) (by omega))]; exact h4
  · rw [he.l (hp 24 j (by omega) (by omega))]; exact h5 j hj
  · rw [he.i (hp 21 6 (by omega) (by omega))]; exact h6
abbrev pH : Nat → Nat → Prop := fun r _ => 21 ≤ r ∧ r ≤ 24
theorem f_pile {σ : St} {bg a b : Nat} {Y : Ys} (h : CY σ bg Y) (hd : Y.1 < 64) : Ok (F_X4_pile σ (lN a) (lN b)) (fun τ => CY τ bg (pil Y a b) ∧ Fr pH σ τ) := by
  obtain ⟨h1, h2, h3, h4, h5, h6⟩ := h
  unfold F_X4_pile
  rw [h2]
  refine Ok.ff (show ¬ (64 : Int32) ≤ nI Y.1 from nI_ge (b := 64) hd (by omega)) ?_
  refine Ok.gd (ib_nI (show Y.1 < 64 from hd) (by decide)) (Ok.nm ?_)
  rw [nI_clamp (by omega), sJ_1, h2]
  refine Ok.gd (ib_nI (show Y.1 < 64 from hd) (by decide)) (Ok.nm (Ok.nm (Ok.so ?_)))
  rw [nI_clamp (by omega), sJ_1, sJ_1, h2, nI_1]
  refine ⟨⟨?_, ?_, fun j hj => ?_, ?_, fun j hj => ?_, ?_⟩, ((Fr.sJ ⟨by omega, by omega⟩).t (Fr.sJ ⟨by omega, by omega⟩)).t (Fr.sI ⟨by omega, by omega⟩)⟩
  · simp [sI_if, sJ_1]; exact h1
  · simp [sI_if, sJ_1]; rfl
  · show (sI _ 21 4 _).2 22 j = lN (if j = Y.1 then (a, b) else Y.2.1 j).1 ∧ (sI _ 21 4 _).2 23 j = lN (if j = Y.1 then (a, b) else Y.2.1 j).2
    simp only [sI_2, sJ_if]
    by_cases e : j = Y.1
    · simp [e]
    · have := h3 j (by show j < Y.1; have : j < Y.1 + 1 := hj; omega)
      simp [e, this]
  · simp [sI_if, sJ_1]; exact h4
  · simp only [sI_2, sJ_if]; simp; exact h5 j hj
  · simp [sI_if, sJ_1]; exact h6
theorem has_succ {g : Nat → Nat} {id k m : Nat} : (∃ j, k ≤ j ∧ j < k + (m + 1) ∧ g j = id) ↔ g k = id ∨ ∃ j, k + 1 ≤ j ∧ j < k + 1 + m ∧ g j = id := by
  constructor
  · rintro ⟨j, h1, h2, h3⟩
    by_cases e : j = k
    · subst e; exact Or.inl h3
    · exact Or.inr ⟨j, by omega, by omega, h3⟩
  · rintro (h | ⟨j, h1, h2, h3⟩)
    · exact ⟨k, by omega, by omega, h⟩
    · exact ⟨j, by omega, by omega, h3⟩
theorem f_hasL {σ : St} {fc id : Nat} {fd : Nat → Nat} {K1 K2 : St → Option (St × Int32)} (h4 : σ.1 21 5 = nI fc) (h5 : ∀ j, j < fc → σ.2 24 j = lN (fd j)) (hfd : ∀ j, j < fc → fd j < 2 ^ 48) (hfc : fc ≤ 24) (hid : id < 2 ^ 48) : ∀ (m fz k : Nat), m < fz → k + m = fc → ((∃ j, k ≤ j ∧ j < k + m ∧ fd j = id) → F_X4_hasFound_L2 K1 K2 fz σ (lN id) (nI k) = K1 σ) ∧ ((¬ ∃ j, k ≤ j ∧ j < k + m ∧ fd j = id) → F_X4_hasFound_L2 K1 K2 fz σ (lN id) (nI k) = K2 σ) := by
  intro m
  induction m with
  | zero =>
    intro fz k hf hk
    cases fz with
    | zero => omega
    | succ fz =>
      unfold F_X4_hasFound_L2
      rw [h4, if_pos (nI_le (by omega) (by omega))]
      exact ⟨fun ⟨j, h1, h2, _⟩ => by omega, fun _ => rfl⟩
  | succ m ih =>
    intro fz k hf hk
    cases fz with
    | zero => omega
    | succ fz =>
      have g1 := hfd k (by omega)
      unfold F_X4_hasFound_L2
      rw [h4, if_neg (nI_ge (by omega) (by omega)), gd_t (show ib (nI k) (ln 24) = true from ib_nI (show k < 24 by omega) (by decide)), nI_clamp (by omega), h5 k (by omega), nI_1, has_succ]
      by_cases e : fd k = id
      · rw [if_pos (cm_0.mpr (by rw [e]))]
        exact ⟨fun _ => rfl, fun h => absurd (Or.inl e) h⟩
      · rw [if_neg (fun h => e ((pk_lEQ (by omega) (by omega)).mp (cm_0.mp h)))]
        have := ih fz (k + 1) (by omega) (by omega)
        exact ⟨fun h => this.1 (h.resolve_left e), fun h => this.2 (fun h2 => h (Or.inr h2))⟩
theorem f_has {σ : St} {bg id : Nat} {Y : Ys} (h : CY σ bg Y) (hfd : ∀ j, j < Y.2.2.1 → Y.2.2.2.1 j < 2 ^ 48) (hfc : Y.2.2.1 ≤ 24) (hid : id < 2 ^ 48) : F_X4_hasFound σ (lN id) = some (σ, if has Y id then 1 else 0) := by
  have g := f_hasL (K1 := F_X4_hasFound_L21) (K2 := F_X4_hasFound_L29) h.2.2.2.1 h.2.2.2.2.1 hfd hfc hid Y.2.2.1 fu 0 (by unfold fu; omega) (by omega)
  unfold F_X4_hasFound
  by_cases hh : has Y id
  · rw [if_pos hh]
    obtain ⟨j, h1, h2⟩ := hh
    exact g.1 ⟨j, by omega, by omega, h2⟩
  · rw [if_neg hh]
    exact g.2 (fun ⟨j, h1, h2, h3⟩ => hh ⟨j, by omega, h3⟩)
def kep (Y : Ys) (id : Nat) : Ys := if has Y id then Y else kee Y id
theorem f_keep {σ : St} {bg id : Nat} {Y : Ys} (h : CY σ bg Y) (hfd : ∀ j, j < Y.2.2.1 → Y.2.2.2.1 j < 2 ^ 48) (hfc : Y.2.2.1 ≤ 24) (hid : id < 2 ^ 48) (hk : ¬ has Y id → Y.2.2.1 < 24) : Ok (F_X4_keepFound σ (lN id)) (fun τ => CY τ bg (kep Y id) ∧ Fr pH σ τ) := by
  have h' := h
  obtain ⟨h1, h2, h3, h4, h5, h6⟩ := h
  unfold F_X4_keepFound kep
  refine Ok.eq (f_has h' hfd hfc hid) ?_
  dsimp only
  by_cases hh : has Y id
  · rw [if_pos hh, if_pos hh]
    exact Ok.ff (by decide) (Ok.so ⟨h', Fr.rf⟩)
  · rw [if_neg hh, if_neg hh]
    have hlt := hk hh
    refine Ok.tt rfl ?_
    rw [h4]
    refine Ok.ff (show ¬ (24 : Int32) ≤ _ from nI_ge (b := 24) hlt (by omega)) ?_
    refine Ok.gd (ib_nI (show Y.2.2.1 < 24 from hlt) (by decide)) (Ok.nm (Ok.nm (Ok.so ?_)))
    rw [nI_clamp (by omega), sJ_1, h4, nI_1]
    refine ⟨⟨?_, ?_, fun j hj => ?_, ?_, fun j hj => ?_, ?_⟩, (Fr.sJ ⟨by omega, by omega⟩).t (Fr.sI ⟨by omega, by omega⟩)⟩
    · simp [sI_if, sJ_1]; exact h1
    · simp [sI_if, sJ_1]; exact h2
    · simp only [sI_2, sJ_if]; simp; exact h3 j hj
    · simp [sI_if, sJ_1]; rfl
    · show (sI _ 21 5 _).2 24 j = lN (if j = Y.2.2.1 then id else Y.2.2.2.1 j)
      simp only [sI_2, sJ_if]
      by_cases e : j = Y.2.2.1
      · simp [e]
      · have := h5 j (by have : j < Y.2.2.1 + 1 := hj; omega)
        simp [e, this]
    · simp [sI_if, sJ_1]; exact h6
