/-! ===== PURE: values, SET, echo, class's side ===== -/
theorem f_fits {σ : St} {a w : Nat} (ha : a < 2 ^ 20) (hw : w < 2 ^ 20) : F_X6_fits σ (nI a) (nI w) = some (σ, if 1 ≤ a ∧ a ≤ 512 ∧ a + w ≤ 513 then 1 else 0) := by
  have c1 : (nI a < 1) ↔ a < 1 := nI_ltI (b := 1) (by omega) (by omega)
  have c2 : (512 < nI a) ↔ 512 < a := nI_ltI (a := 512) (by omega) (by omega)
  unfold F_X6_fits
  simp only [c1, c2]
  by_cases h1 : a < 1
  · rw [if_pos h1, if_neg (by omega)]
  · rw [if_neg h1]
    by_cases h2 : 512 < a
    · rw [if_pos h2, if_neg (by omega)]
    · rw [if_neg h2, nI_add, show (1 : Int32) = nI 1 from rfl, pk_sub (by omega)]
      have c3 : (512 < nI (a + w - 1)) ↔ 512 < a + w - 1 := nI_ltI (a := 512) (by omega) (by omega)
      simp only [c3]
      by_cases h3 : 512 < a + w - 1
      · rw [if_pos h3, if_neg (by omega)]
      · rw [if_neg h3, if_pos (by omega)]
theorem f_valL {i : Nat} {K : St → Int32 → Int32 → Option (St × Int32)} {σ : St} {f : List Nat} {u : Int32} (hok : pkOk f) (hr : Rw σ 13 (dt f)) : ∀ (m fz k : Nat) (may : Bool), m < fz → k + m = f.getD 23 0 → F_X1_valueRefusal_L59 (qq i) 12 K fz σ u (bI may) (nI k) = K σ u (bI (may && okB f (24 + k) m)) := by
  have hlen := dt_len hok
  have h23 : f.getD 23 0 = f.getD 2 0 - 24 := hok.2.2.2.2.1
  have hl := hr.2.1
  rw [show ln (13 + 1) = 231 from rfl] at hl
  intro m
  induction m with
  | zero =>
    intro fz k may hf hk
    cases fz with
    | zero => omega
    | succ fz =>
      unfold F_X1_valueRefusal_L59
      rw [bd_eq (f_size (r := 13) hr)]
      dsimp only
      rw [if_pos (nI_le (by omega) (by omega))]
      show K σ u (bI may) = K σ u (bI (may && true))
      rw [Bool.and_true]
  | succ m ih =>
    intro fz k may hf hk
    cases fz with
    | zero => omega
    | succ fz =>
      unfold F_X1_valueRefusal_L59
      rw [bd_eq (f_size (r := 13) hr)]
      dsimp only
      rw [if_neg (nI_ge (by omega) (by omega)), nI_1]
      have hb := hr.lt k
      have hat : (dt f).getD k 0 = f.getD (24 + k) 0 := dt_at (by omega)
      rw [hat] at hb
      have c1 : (nI (f.getD (24 + k) 0) < 32) ↔ f.getD (24 + k) 0 < 32 := nI_ltI (b := 32) (by omega) (by omega)
      have c2 : (126 < nI (f.getD (24 + k) 0)) ↔ 126 < f.getD (24 + k) 0 := nI_ltI (a := 126) (by omega) (by omega)
      have e0 := ih fz (k + 1) false (by omega) (by omega)
      have e1 := ih fz (k + 1) true (by omega) (by omega)
      rw [show bI false = 0 from rfl, Bool.false_and] at e0
      rw [show bI true = 1 from rfl, Bool.true_and] at e1
      show _ = K σ u (bI (may && (decide (32 ≤ f.getD (24 + k) 0 ∧ f.getD (24 + k) 0 ≤ 126) && okB f (24 + k + 1) m)))
      cases may with
      | false =>
        rw [if_pos (show bI false = 0 from rfl), e0, Bool.false_and]
      | true =>
        rw [if_neg (show ¬ bI true = 0 by decide), Bool.true_and, bd_eq (f_at (r := 13) hr (by omega))]
        dsimp only
        rw [hat]
        simp only [c1]
        by_cases h1 : f.getD (24 + k) 0 < 32
        · rw [if_pos h1, e0, decide_eq_false (by omega), Bool.false_and]
        · rw [if_neg h1, bd_eq (f_at (r := 13) hr (by omega))]
          dsimp only
          rw [hat]
          simp only [c2]
          by_cases h2 : 126 < f.getD (24 + k) 0
          · rw [if_pos h2, e0, decide_eq_false (by omega), Bool.false_and]
          · rw [if_neg h2, e1, decide_eq_true (by omega), Bool.true_and]; rfl
/-- sizes that fit what is set -/
def szs (f : List Nat) : Prop := (two f 21 = 130 → f.getD 23 0 ≤ 32) ∧ (two f 21 = 224 → f.getD 23 0 = 1) ∧ (two f 21 = 240 → f.getD 23 0 = 2) ∧ (two f 21 = 4096 → f.getD 23 0 = 1)
theorem f_valR {σ : St} {i o now x : Nat} {L : Lp} {f : List Nat} {own : Bool} (hC : CL σ (qq i) L) (hW : Wl o now x L) (hH : Hd σ 12 f) (hok : pkOk f) (hb : By f) (hs : szs f) : F_X1_valueRefusal (qq i) 12 σ (bI (!own)) = some (σ, oI (valR L own f)) := by
  have hr : Rw σ 13 (dt f) := hH.2.2.2.2.2.2.2.2.1
  have h7 : σ.1 12 7 = nI (two f 21) := hH.2.2.2.2.2.2.2.1.1
  have hm := two_lt hb 21
  have h23 : f.getD 23 0 = f.getD 2 0 - 24 := hok.2.2.2.2.1
  have b2 := hb 2
  have b24 := hb 24
  have b25 := hb 25
  obtain ⟨-, w2, w3, w4, w5, w6, w7, w8, w9, -, w11, -⟩ := hW
  have c130 : (nI (two f 21) = 130) ↔ two f 21 = 130 := nI_eq (b := 130) (by omega) (by omega)
  have c224 : (nI (two f 21) = 224) ↔ two f 21 = 224 := nI_eq (b := 224) (by omega) (by omega)
  have c240 : (nI (two f 21) = 240) ↔ two f 21 = 240 := nI_eq (b := 240) (by omega) (by omega)
  have c4096 : (nI (two f 21) = 4096) ↔ two f 21 = 4096 := nI_eq (b := 4096) (by omega) (by omega)
  have e232 : ∀ b : Bool, F_X1_valueRefusal_L232 (qq i) 12 σ (bI b) = some (σ, if b = true then -1 else 6) := by
    intro b
    cases b <;> rfl
  unfold F_X1_valueRefusal valR
  rw [h7]
  simp only [c130, c224, c240, c4096]
  by_cases e130 : two f 21 = 130
  · rw [if_pos e130, if_pos e130, show (1 : Int32) = bI true from rfl]
    have e := f_valL (i := i) (K := F_X1_valueRefusal_L108 (qq i) 12) (u := bI (!own)) hok hr (f.getD 23 0) fu 0 true (by unfold fu; omega) (by omega)
    rw [show (0 : Int32) = nI 0 from rfl, e, Bool.true_and]
    unfold F_X1_valueRefusal_L108
    rw [e232]
    by_cases ho : okB f 24 (f.getD 23 0) = true
    · rw [ho, if_neg (show ¬ bI true = 0 by decide), if_neg (show ¬ true = false by decide)]
      cases own with
      | false =>
        rw [if_neg (show ¬ bI (!false) = 0 by decide)]
        simp [oI]
      | true =>
        rw [if_pos (show bI (!true) = 0 from rfl), hC.2.1 8 (by simp), hC.2.2.1, nI_add]
        have c4 : (nI (L.1 8 + L.2.2.2.length) < 4) ↔ L.1 8 + L.2.2.2.length < 4 := nI_ltI (b := 4) (by omega) (by omega)
        by_cases h4 : L.1 8 + L.2.2.2.length < 4
        · rw [if_pos (c4.mpr h4), if_neg (show ¬ (true = true ∧ 4 ≤ L.1 8 + L.2.2.2.length) by omega)]; rfl
        · rw [if_neg (fun h => h4 (c4.mp h)), if_pos (show true = true ∧ 4 ≤ L.1 8 + L.2.2.2.length from ⟨rfl, by omega⟩)]; rfl
    · rw [Bool.not_eq_true] at ho
      rw [ho, if_pos (show bI false = 0 from rfl), if_pos rfl]; rfl
  rw [if_neg e130, if_neg e130]
  by_cases e224 : two f 21 = 224
  · have hat : (dt f).getD 0 0 = f.getD 24 0 := dt_at (k := 0) (by have := hs.2.1 e224; omega)
    rw [if_pos e224, if_pos e224, show (0 : Int32) = nI 0 from rfl, bd_eq (f_at (r := 13) hr (k := 0) (by decide))]
    dsimp only
    rw [hat, hC.2.1 2 (by simp), hC.2.1 10 (by simp), hC.2.1 1 (by simp), pk_mul]
    have hmul : L.1 1 * f.getD 24 0 ≤ 64 * 255 := Nat.mul_le_mul (by omega) (by omega)
    rw [f_fits (by omega) (by omega)]
    unfold F_X1_valueRefusal_L176 F_X1_valueRefusal_L177
    rw [show (0 : Int32) = bI false from rfl, show (1 : Int32) = bI true from rfl, e232]
    simp only [Option.bind_some, e232]
    have c1 : (nI (f.getD 24 0) < bI true) ↔ f.getD 24 0 < 1 := nI_ltI (b := 1) (by omega) (by omega)
    have c2 : (nI (L.1 2) < nI (f.getD 24 0)) ↔ L.1 2 < f.getD 24 0 := nI_ltI (by omega) (by omega)
    simp only [c1, c2]
    by_cases h1 : f.getD 24 0 < 1
    · rw [if_pos h1, if_neg (show ¬ (1 ≤ f.getD 24 0 ∧ f.getD 24 0 ≤ L.1 2 ∧ L.1 10 + L.1 1 * f.getD 24 0 ≤ 513) by omega)]; rfl
    · rw [if_neg h1]
      by_cases h2 : L.1 2 < f.getD 24 0
      · rw [if_pos h2, if_neg (show ¬ (1 ≤ f.getD 24 0 ∧ f.getD 24 0 ≤ L.1 2 ∧ L.1 10 + L.1 1 * f.getD 24 0 ≤ 513) by omega)]; rfl
      · rw [if_neg h2]
        by_cases h3 : L.1 10 + L.1 1 * f.getD 24 0 ≤ 513
        · rw [if_pos (show 1 ≤ L.1 10 ∧ L.1 10 ≤ 512 ∧ L.1 10 + L.1 1 * f.getD 24 0 ≤ 513 by have : 1 ≤ L.1 1 * L.1 9 := Nat.mul_pos (by omega) (by omega); omega), if_neg (show ¬ bI true = nI 0 by decide), if_pos (show 1 ≤ f.getD 24 0 ∧ f.getD 24 0 ≤ L.1 2 ∧ L.1 10 + L.1 1 * f.getD 24 0 ≤ 513 by omega)]; rfl
        · rw [if_neg (show ¬ (1 ≤ L.1 10 ∧ L.1 10 ≤ 512 ∧ L.1 10 + L.1 1 * f.getD 24 0 ≤ 513) by omega), if_pos (show bI false = nI 0 by decide), if_neg (show ¬ (1 ≤ f.getD 24 0 ∧ f.getD 24 0 ≤ L.1 2 ∧ L.1 10 + L.1 1 * f.getD 24 0 ≤ 513) by omega)]; rfl
  rw [if_neg e224, if_neg e224]
  by_cases e240 : two f 21 = 240
  · have hn2 := hs.2.2.1 e240
    have hat : (dt f).getD 0 0 = f.getD 24 0 := dt_at (k := 0) (by omega)
    have hat1 : (dt f).getD 1 0 = f.getD 25 0 := dt_at (k := 1) (by omega)
    have ht : f.getD 24 0 * 256 + f.getD 25 0 = two f 24 := rfl
    have ht2 := two_lt hb 24
    rw [if_pos e240, if_pos e240, show (0 : Int32) = nI 0 from rfl, bd_eq (f_at (r := 13) hr (k := 0) (by decide)), show (1 : Int32) = nI 1 from rfl]
    dsimp only
    rw [bd_eq (f_at (r := 13) hr (k := 1) (by decide))]
    dsimp only
    rw [hat, hat1, hC.2.1 9 (by simp), hC.2.1 1 (by simp), pk_mul, sh8 b24 b25, ht, f_fits (by omega) (by omega)]
    simp only [Option.bind_some]
    by_cases h3 : 1 ≤ two f 24 ∧ two f 24 ≤ 512 ∧ two f 24 + L.1 1 * L.1 9 ≤ 513
    · rw [if_pos h3, if_pos h3]; exact e232 true
    · rw [if_neg h3, if_neg h3]; exact e232 false
  rw [if_neg e240, if_neg e240]
  by_cases e4096 : two f 21 = 4096
  · have hn2 := hs.2.2.2 e4096
    have hat : (dt f).getD 0 0 = f.getD 24 0 := dt_at (k := 0) (by omega)
    rw [if_pos e4096, if_pos e4096, show (0 : Int32) = nI 0 from rfl, bd_eq (f_at (r := 13) hr (k := 0) (by decide))]
    dsimp only
    rw [hat]
    have c1 : (1 < nI (f.getD 24 0)) ↔ 1 < f.getD 24 0 := nI_ltI (a := 1) (by omega) (by omega)
    unfold F_X1_valueRefusal_L227
    simp only [c1]
    by_cases h3 : f.getD 24 0 ≤ 1
    · rw [if_neg (by omega), if_pos h3]; exact e232 true
    · rw [if_pos (by omega), if_neg h3]; exact e232 false
  rw [if_neg e4096, if_neg e4096]
  exact e232 true
