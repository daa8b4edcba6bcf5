/-! ===== PURE: rows of bytes in the store ===== -/
/-- only the roles of L differ -/
def Eqx (L : List Nat) (σ τ : St) : Prop := ∀ q, q ∉ L → τ.1 q = σ.1 q ∧ τ.2 q = σ.2 q
theorem Eqx.rf {L : List Nat} {σ : St} : Eqx L σ σ := fun _ _ => ⟨rfl, rfl⟩
theorem Eqx.tr {L : List Nat} {σ τ ρ : St} (h1 : Eqx L σ τ) (h2 : Eqx L τ ρ) : Eqx L σ ρ := fun q h => ⟨(h2 q h).1.trans (h1 q h).1, (h2 q h).2.trans (h1 q h).2⟩
theorem Eqx.mono {L M : List Nat} {σ τ : St} (h : Eqx L σ τ) (hL : ∀ q, q ∈ L → q ∈ M) : Eqx M σ τ := fun q hq => h q (fun h9 => hq (hL q h9))
theorem Eqx.sI {L : List Nat} {σ : St} {k j : Nat} {v : Int32} (h : k ∈ L) : Eqx L σ (sI σ k j v) := fun q hq => ⟨by
  have hne : q ≠ k := fun e => hq (e ▸ h)
  show (if q = k then _ else σ.1 q) = σ.1 q
  rw [if_neg hne], rfl⟩
theorem Eqx.sJ {L : List Nat} {σ : St} {k j : Nat} {v : Int64} (h : k ∈ L) : Eqx L σ (sJ σ k j v) := fun q hq => ⟨rfl, by
  have hne : q ≠ k := fun e => hq (e ▸ h)
  show (if q = k then _ else σ.2 q) = σ.2 q
  rw [if_neg hne]⟩
theorem sI_eq {σ : St} {k j : Nat} {v : Int32} : (sI σ k j v).1 k j = v := by rw [sI_self]; exact pk_us
theorem sI_nj {σ : St} {k j j' : Nat} {v : Int32} (h : j' ≠ j) : (sI σ k j v).1 k j' = σ.1 k j' := by rw [sI_self]; exact pk_un h
theorem sI_nk {σ : St} {k j q : Nat} {v : Int32} (h : q ≠ k) : (sI σ k j v).1 q = σ.1 q := if_neg h
theorem sI_2 {σ : St} {k j : Nat} {v : Int32} : (sI σ k j v).2 = σ.2 := rfl
theorem sJ_eq {σ : St} {k j : Nat} {v : Int64} : (sJ σ k j v).2 k j = v := by rw [sJ_self]; exact pk_uLs
theorem sJ_nj {σ : St} {k j j' : Nat} {v : Int64} (h : j' ≠ j) : (sJ σ k j v).2 k j' = σ.2 k j' := by rw [sJ_self]; exact pk_uLn h
theorem sJ_nk {σ : St} {k j q : Nat} {v : Int64} (h : q ≠ k) : (sJ σ k j v).2 q = σ.2 q := if_neg h
theorem sJ_1 {σ : St} {k j : Nat} {v : Int64} : (sJ σ k j v).1 = σ.1 := rfl
theorem gd_t {α : Type} {b : Bool} {k : Option α} (h : b = true) : gd b k = k := by unfold gd; rw [if_pos h]
theorem ib_nI {k N : Nat} (h : k < N) (hN : N < 2 ^ 31) : ib (nI k) N = true := by
  unfold ib
  rw [nI_clamp (by omega)]
  simp only [Bool.and_eq_true, Bool.not_eq_true', decide_eq_false_iff_not, decide_eq_true_eq]
  exact ⟨nI_pos (by omega), h⟩
theorem bd_eq {α β : Type} {o : Option α} {y : α} {k : α → Option β} (h : o = some y) : o.bind k = k y := by rw [h]; rfl
/-- the lowest byte of an int -/
def lo8 (x : Int32) : Nat := x.toBitVec.toNat % 256
theorem lo8_lt (x : Int32) : lo8 x < 256 := Nat.mod_lt _ (by decide)
theorem lo8_and (x : Int32) : x &&& 255 = nI (lo8 x) := pk_and x 8 (by decide)
theorem lo8_nI {m : Nat} (h : m < 2 ^ 32) : lo8 (nI m) = m % 256 := by unfold lo8; rw [pk_tn h]
/-- a row's bytes -/
def Rw (σ : St) (r : Nat) (l : List Nat) : Prop := σ.1 r 1 = nI l.length ∧ l.length ≤ ln (r + 1) ∧ ln (r + 1) ≤ 4000 ∧ ∀ k, k < l.length → σ.1 (r + 1) k = nI (l.getD k 0) ∧ l.getD k 0 < 256
theorem Rw.keep {σ τ : St} {r : Nat} {l L : List Nat} (h : Rw σ r l) (he : Eqx L σ τ) (h1 : r ∉ L) (h2 : r + 1 ∉ L) : Rw τ r l := by
  refine ⟨?_, h.2.1, h.2.2.1, fun k hk => ?_⟩
  · rw [(he r h1).1]; exact h.1
  · rw [(he (r + 1) h2).1]; exact h.2.2.2 k hk
theorem Rw.lt {σ : St} {r : Nat} {l : List Nat} (h : Rw σ r l) (k : Nat) : l.getD k 0 < 256 := by
  by_cases hk : k < l.length
  · exact (h.2.2.2 k hk).2
  · rw [List.getD_eq_getElem?_getD, List.getElem?_eq_none (by omega)]
    decide
theorem f_size {σ : St} {r : Nat} {l : List Nat} (h : Rw σ r l) : F_X3_size r σ = some (σ, nI l.length) := by unfold F_X3_size; rw [h.1]
theorem f_at {σ : St} {r : Nat} {l : List Nat} (h : Rw σ r l) {k : Nat} (hk : k < 2 ^ 31) : F_X3_at r σ (nI k) = some (σ, nI (l.getD k 0)) := by
  obtain ⟨h1, h2, h3, h4⟩ := h
  unfold F_X3_at
  rw [if_neg (nI_pos hk), h1]
  by_cases hl : k < l.length
  · rw [if_neg (fun h9 => by rw [nI_leI (by omega) hk] at h9; omega), gd_t (ib_nI (by omega) (by omega)), nI_clamp hk, (h4 k hl).1]
  · rw [if_pos ((nI_leI (by omega) hk).mpr (by omega)), List.getD_eq_getElem?_getD, List.getElem?_eq_none (by omega)]
    rfl
theorem f_cut {σ : St} {r : Nat} {l : List Nat} (h : Rw σ r l) {m : Nat} (hm : m ≤ l.length) : ∃ τ, F_X3_cut r σ (nI m) = some τ ∧ Rw τ r (l.take m) ∧ Eqx [r] σ τ := by
  obtain ⟨h1, h2, h3, h4⟩ := h
  unfold F_X3_cut
  rw [if_neg (nI_pos (by omega)), h1]
  by_cases hl : m < l.length
  · refine ⟨sI σ r 1 (nI m), by rw [if_neg (fun h9 => by rw [nI_leI (by omega) (by omega)] at h9; omega)]; rfl, ?_, Eqx.sI (by simp)⟩
    have hlen : (l.take m).length = m := by rw [List.length_take]; omega
    refine ⟨by rw [sI_eq, hlen], by omega, h3, fun k hk => ?_⟩
    have hk' : k < m := by omega
    rw [sI_nk (by omega), (h4 k (by omega)).1]
    have e : (l.take m).getD k 0 = l.getD k 0 := by
      rw [List.getD_eq_getElem?_getD, List.getD_eq_getElem?_getD, List.getElem?_take_of_lt hk']
    rw [e]
    exact ⟨rfl, (h4 k (by omega)).2⟩
  · have e : m = l.length := by omega
    refine ⟨_, by rw [if_pos ((nI_leI (by omega) (by omega)).mpr (by omega))], ?_, Eqx.rf⟩
    rw [e, List.take_length]
    exact ⟨h1, h2, h3, h4⟩
theorem f_cut0 {σ : St} {r : Nat} {l : List Nat} (h : Rw σ r l) : ∃ τ, F_X3_cut r σ 0 = some τ ∧ Rw τ r [] ∧ Eqx [r] σ τ := by
  obtain ⟨τ, h1, h2, h3⟩ := f_cut h (m := 0) (Nat.zero_le _)
  exact ⟨τ, h1, h2, h3⟩
theorem getD_app_lt {l : List Nat} {x : Nat} {k : Nat} (h : k < l.length) : (l ++ [x]).getD k 0 = l.getD k 0 := by
  rw [List.getD_eq_getElem?_getD, List.getD_eq_getElem?_getD, List.getElem?_append_left h]
theorem getD_app_eq {l : List Nat} {x : Nat} : (l ++ [x]).getD l.length 0 = x := by
  rw [List.getD_eq_getElem?_getD, List.getElem?_append_right (Nat.le_refl _), Nat.sub_self]
  rfl
/-- a byte comes behind a row -/
theorem Rw.push {σ : St} {r : Nat} {l : List Nat} (h : Rw σ r l) (hl : l.length < ln (r + 1)) {b : Nat} (hb : b < 256) : Rw (sI (sI σ (r + 1) l.length (nI b)) r 1 (nI l.length + 1)) r (l ++ [b]) := by
  obtain ⟨h1, h2, h3, h4⟩ := h
  refine ⟨?_, by rw [List.length_append]; exact hl, h3, fun k hk => ?_⟩
  · rw [sI_eq, List.length_append, nI_1]; rfl
  · rw [List.length_append] at hk
    have hk : k < l.length + 1 := hk
    rw [sI_nk (by omega)]
    by_cases hk2 : k = l.length
    · subst hk2
      rw [sI_eq, getD_app_eq]
      exact ⟨rfl, hb⟩
    · rw [sI_nj hk2, getD_app_lt (by omega)]
      exact h4 k (by omega)
theorem f_put {σ : St} {r : Nat} {l : List Nat} (h : Rw σ r l) (hl : l.length < ln (r + 1)) (v : Int32) : ∃ τ, F_X3_put r σ v = some τ ∧ Rw τ r (l ++ [lo8 v]) ∧ Eqx [r, r + 1] σ τ := by
  have hp := h.push hl (lo8_lt v)
  obtain ⟨h1, h2, h3, h4⟩ := h
  unfold F_X3_put
  rw [h1, if_neg (fun h9 => by rw [show Int32.ofNat (ln (r + 1)) = nI (ln (r + 1)) from rfl, nI_leI (by omega) (by omega)] at h9; omega), gd_t (ib_nI hl (by omega)), nI_clamp (by omega), lo8_and]
  refine ⟨_, rfl, ?_, ?_⟩
  · show Rw (sI (sI σ (r + 1) l.length (nI (lo8 v))) r 1 ((sI σ (r + 1) l.length (nI (lo8 v))).1 r 1 + 1)) r (l ++ [lo8 v])
    rw [sI_nk (show r ≠ r + 1 by omega), h1]
    exact hp
  · exact Eqx.tr (Eqx.sI (by simp)) (Eqx.sI (by simp))
/-- the lowest k bytes of a long, the highest first -/
def beL (x : Int64) : Nat → List Nat
  | 0 => []
  | k + 1 => (x.toBitVec.toNat / 256 ^ k % 256) :: beL x k
theorem beL_len (x : Int64) (k : Nat) : (beL x k).length = k := by
  induction k with
  | zero => rfl
  | succ k ih => show (beL x k).length + 1 = k + 1; rw [ih]
theorem by_shr (x : Int64) : ∀ k, k < 8 → (Int64.toInt32 ((Int64.toUInt64 x) >>> ((Int64.toUInt64 (Int32.toInt64 (8 * nI k))) &&& Int64.toUInt64 63)).toInt64) &&& 255 = nI (x.toBitVec.toNat / 256 ^ k % 256) := by
  intro k hk
  have hs : ∀ k, k < 8 → ((Int64.toUInt64 (Int32.toInt64 (8 * nI k))) &&& Int64.toUInt64 63).toNat % 64 = 8 * k := by decide
  have h1 := hs k hk
  rw [lo8_and]
  unfold lo8
  congr 1
  have h2 : (Int64.toInt32 ((Int64.toUInt64 x) >>> ((Int64.toUInt64 (Int32.toInt64 (8 * nI k))) &&& Int64.toUInt64 63)).toInt64).toBitVec.toNat = (x.toBitVec.toNat / 256 ^ k) % 2 ^ 32 := by
    show (BitVec.signExtend 32 _).toNat = _
    rw [BitVec.signExtend_eq_setWidth_of_le _ (by decide), BitVec.toNat_setWidth]
    congr 1
    show ((Int64.toUInt64 x) >>> ((Int64.toUInt64 (Int32.toInt64 (8 * nI k))) &&& Int64.toUInt64 63)).toNat = _
    rw [UInt64.toNat_shiftRight, h1, Nat.shiftRight_eq_div_pow]
    show x.toBitVec.toNat / 2 ^ (8 * k) = _
    rw [Nat.pow_mul]
  rw [h2]
  omega
theorem f_putNumber {r : Nat} {x : Int64} {K : St → Option St} : ∀ (k fz : Nat) (σ : St) (l : List Nat), k ≤ 8 → k < fz → Rw σ r l → l.length + k ≤ ln (r + 1) → ∃ τ, F_X3_putNumber_L5 r K fz σ x (nI k - 1) = K τ ∧ Rw τ r (l ++ beL x k) ∧ Eqx [r, r + 1] σ τ := by
  intro k
  induction k with
  | zero =>
    intro fz σ l hk hf h hl
    cases fz with
    | zero => omega
    | succ fz =>
      unfold F_X3_putNumber_L5
      rw [if_pos (show nI 0 - 1 < 0 by decide)]
      exact ⟨σ, rfl, by rw [show beL x 0 = [] from rfl, List.append_nil]; exact h, Eqx.rf⟩
  | succ k ih =>
    intro fz σ l hk hf h hl
    cases fz with
    | zero => omega
    | succ fz =>
      have hp := h.push (b := x.toBitVec.toNat / 256 ^ k % 256) (by omega) (Nat.mod_lt _ (by decide))
      have h' := h
      obtain ⟨h1, h2, h3, h4⟩ := h'
      obtain ⟨τ, e1, e2, e3⟩ := ih fz _ (l ++ [x.toBitVec.toNat / 256 ^ k % 256]) (by omega) (by omega) hp (by rw [List.length_append]; show l.length + 1 + k ≤ _; omega)
      refine ⟨τ, ?_, ?_, ?_⟩
      · unfold F_X3_putNumber_L5
        rw [nI_pred, if_neg (nI_pos (by omega)), h1, if_neg (fun h9 => by rw [show Int32.ofNat (ln (r + 1)) = nI (ln (r + 1)) from rfl, nI_leI (by omega) (by omega)] at h9; omega), gd_t (ib_nI (by omega) (by omega)), nI_clamp (by omega), by_shr x k (by omega)]
        show F_X3_putNumber_L5 r K fz (sI (sI σ (r + 1) l.length (nI (x.toBitVec.toNat / 256 ^ k % 256))) r 1 ((sI σ (r + 1) l.length (nI (x.toBitVec.toNat / 256 ^ k % 256))).1 r 1 + 1)) x (nI k + (-1)) = K τ
        rw [sI_nk (show r ≠ r + 1 by omega), h1, ← Int32.sub_eq_add_neg]
        exact e1
      · rw [show l ++ beL x (k + 1) = l ++ [x.toBitVec.toNat / 256 ^ k % 256] ++ beL x k by rw [List.append_assoc]; rfl]
        exact e2
      · exact Eqx.tr (Eqx.tr (Eqx.sI (by simp)) (Eqx.sI (by simp))) e3
