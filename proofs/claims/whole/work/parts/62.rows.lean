/-! ===== PURE: the class's rows: numbers, sums, copies, what falls together ===== -/
theorem nD (l : List Nat) (k : Nat) : l.getD k 0 = if h : k < l.length then l[k] else 0 := by
  by_cases h : k < l.length
  · rw [dif_pos h, List.getD_eq_getElem?_getD, List.getElem?_eq_getElem h]; rfl
  · rw [dif_neg h, List.getD_eq_getElem?_getD, List.getElem?_eq_none (by omega)]; rfl
theorem nD_ge {l : List Nat} {k : Nat} (h : l.length ≤ k) : l.getD k 0 = 0 := by rw [nD, dif_neg (by omega)]
theorem nD_take (l : List Nat) (k j : Nat) : (l.take k).getD j 0 = if j < k then l.getD j 0 else 0 := by
  by_cases h : j < k
  · rw [if_pos h, List.getD_eq_getElem?_getD, List.getD_eq_getElem?_getD, List.getElem?_take_of_lt h]
  · rw [if_neg h, nD_ge (by rw [List.length_take]; omega)]
theorem nD_set (l : List Nat) (k v j : Nat) : (l.set k v).getD j 0 = if j = k ∧ k < l.length then v else l.getD j 0 := by
  rw [List.getD_eq_getElem?_getD, List.getElem?_set]
  by_cases h : k = j
  · subst h
    by_cases h2 : k < l.length
    · rw [if_pos rfl, if_pos h2, if_pos ⟨rfl, h2⟩]; rfl
    · rw [if_pos rfl, if_neg h2, if_neg (fun h9 => h2 h9.2), nD_ge (by omega)]; rfl
  · rw [if_neg h, if_neg (fun h9 => h h9.1.symm), List.getD_eq_getElem?_getD]
theorem take_succ' {l : List Nat} {k : Nat} (h : k < l.length) : l.take k ++ [l.getD k 0] = l.take (k + 1) := by
  rw [List.take_succ_eq_append_getElem h, nD, dif_pos h]
/-- all are bytes -/
def By (l : List Nat) : Prop := ∀ k, l.getD k 0 < 256
theorem Rw.by {σ : St} {r : Nat} {l : List Nat} (h : Rw σ r l) : By l := h.lt
/-- a number of m bytes from k on, behind a -/
def bn (a : Nat) (l : List Nat) (k : Nat) : Nat → Nat
  | 0 => a
  | m + 1 => bn (a * 256 + l.getD k 0) l (k + 1) m
theorem bn_lt {l : List Nat} (hb : By l) : ∀ (m a k c : Nat), a < 256 ^ c → bn a l k m < 256 ^ (c + m) := by
  intro m
  induction m with
  | zero => intro a k c h; exact h
  | succ m ih =>
    intro a k c h
    have h1 := hb k
    have h2 : a * 256 + l.getD k 0 < 256 ^ (c + 1) := by rw [Nat.pow_succ]; omega
    have h3 := ih (a * 256 + l.getD k 0) (k + 1) (c + 1) h2
    rw [show c + (m + 1) = c + 1 + m by omega]
    exact h3
def two (l : List Nat) (k : Nat) : Nat := l.getD k 0 * 256 + l.getD (k + 1) 0
def six (l : List Nat) (k : Nat) : Nat := bn 0 l k 6
theorem bn2 (l : List Nat) (k : Nat) : bn 0 l k 2 = two l k := by
  unfold two
  show (0 * 256 + l.getD k 0) * 256 + l.getD (k + 1) 0 = _
  omega
theorem two_lt {l : List Nat} (hb : By l) (k : Nat) : two l k < 65536 := by
  have h1 := hb k
  have h2 := hb (k + 1)
  unfold two
  omega
theorem six_lt {l : List Nat} (hb : By l) (k : Nat) : six l k < 2 ^ 48 := by
  have h := bn_lt hb 6 0 k 0 (by decide)
  exact h
theorem f_numL {r : Nat} {K : St → Int64 → Option (St × Int64)} {σ : St} {l : List Nat} (h : Rw σ r l) : ∀ (m fz a k c u1 u2 : Nat), m < fz → k + m = u1 + u2 → u1 + u2 < 2 ^ 31 → a < 256 ^ c → c + m ≤ 7 → F_X3_number_L5 r K fz σ (nI u1) (nI u2) (lN a) (nI k) = K σ (lN (bn a l k m)) := by
  intro m
  induction m with
  | zero =>
    intro fz a k c u1 u2 hf hk hu ha hc
    cases fz with
    | zero => omega
    | succ fz =>
      unfold F_X3_number_L5
      rw [nI_add, if_pos ((nI_leI (by omega) (by omega)).mpr (by omega))]
      rfl
  | succ m ih =>
    intro fz a k c u1 u2 hf hk hu ha hc
    cases fz with
    | zero => omega
    | succ fz =>
      have hb := h.lt k
      have hp : 256 ^ (c + 1) ≤ 256 ^ 7 := Nat.pow_le_pow_right (by decide) (by omega)
      have h2 : a * 256 + l.getD k 0 < 256 ^ (c + 1) := by rw [Nat.pow_succ]; omega
      have h3 : a * 256 + l.getD k 0 < 2 ^ 64 := Nat.lt_of_lt_of_le h2 (Nat.le_trans hp (by decide))
      unfold F_X3_number_L5
      rw [nI_add, if_neg (fun h9 => by rw [nI_leI (by omega) (by omega)] at h9; omega), bd_eq (f_at h (by omega))]
      have e1 : (lN a <<< ((Int32.toInt64 8) &&& 63)) ||| (Int32.toInt64 (nI (l.getD k 0))) = lN (a * 256 + l.getD k 0) := by
        rw [show (8 : Int32) = nI 8 from rfl, wb_shl a (by decide), nI_l (by omega)]
        exact wb_ors (k := 8) (by omega) h3
      show F_X3_number_L5 r K fz σ (nI u1) (nI u2) ((lN a <<< ((Int32.toInt64 8) &&& 63)) ||| (Int32.toInt64 (nI (l.getD k 0)))) (nI k + 1) = _
      rw [e1, nI_1]
      exact ih fz _ (k + 1) (c + 1) u1 u2 (by omega) (by omega) hu h2 (by omega)
theorem f_number {σ : St} {r : Nat} {l : List Nat} (h : Rw σ r l) {a m : Nat} (hm : m ≤ 6) (ha : a + m < 2 ^ 31) : F_X3_number r σ (nI a) (nI m) = some (σ, lN (bn 0 l a m)) := by
  unfold F_X3_number
  exact f_numL h m fu 0 a 0 a m (by unfold fu; omega) rfl ha (by decide) (by omega)
/-- the sum of m bytes from k on -/
def sg (l : List Nat) (k : Nat) : Nat → Nat
  | 0 => 0
  | m + 1 => l.getD k 0 + sg l (k + 1) m
theorem sg_le {l : List Nat} (hb : By l) : ∀ (m k : Nat), sg l k m ≤ 255 * m := by
  intro m
  induction m with
  | zero => intro k; exact Nat.le_refl _
  | succ m ih =>
    intro k
    have h1 := hb k
    have h2 := ih (k + 1)
    show l.getD k 0 + sg l (k + 1) m ≤ _
    omega
theorem sg_congr {a b : List Nat} : ∀ (m k : Nat), (∀ j, k ≤ j → j < k + m → a.getD j 0 = b.getD j 0) → sg a k m = sg b k m := by
  intro m
  induction m with
  | zero => intro k h; rfl
  | succ m ih =>
    intro k h
    show a.getD k 0 + sg a (k + 1) m = b.getD k 0 + sg b (k + 1) m
    rw [h k (by omega) (by omega), ih (k + 1) (fun j h1 h2 => h j (by omega) (by omega))]
theorem f_sumL {r : Nat} {K : St → Int32 → Option (St × Int32)} {σ : St} {l : List Nat} (h : Rw σ r l) : ∀ (m fz a k u2 : Nat), m < fz → k + m = u2 → u2 ≤ l.length → F_X3_sum_L5 r K fz σ (nI u2) (nI a) (nI k) = K σ (nI (a + sg l k m)) := by
  obtain ⟨h1, h2, h3, h4⟩ := h
  intro m
  induction m with
  | zero =>
    intro fz a k u2 hf hk hl
    cases fz with
    | zero => omega
    | succ fz =>
      unfold F_X3_sum_L5
      rw [if_neg (nI_pos (by omega)), if_pos ((nI_leI (by omega) (by omega)).mpr (by omega))]
      rfl
  | succ m ih =>
    intro fz a k u2 hf hk hl
    cases fz with
    | zero => omega
    | succ fz =>
      unfold F_X3_sum_L5
      rw [if_neg (nI_pos (by omega)), if_neg (fun h9 => by rw [nI_leI (by omega) (by omega)] at h9; omega), h1, if_neg (fun h9 => by rw [nI_leI (by omega) (by omega)] at h9; omega), gd_t (ib_nI (by omega) (by omega)), nI_clamp (by omega), (h4 k (by omega)).1, nI_add, nI_1]
      rw [ih fz _ (k + 1) u2 (by omega) (by omega) hl]
      show K σ (nI (a + l.getD k 0 + sg l (k + 1) m)) = K σ (nI (a + (l.getD k 0 + sg l (k + 1) m)))
      rw [Nat.add_assoc]
theorem f_sum {σ : St} {r : Nat} {l : List Nat} (h : Rw σ r l) {a m : Nat} (ha : a + m ≤ l.length) : F_X3_sum r σ (nI a) (nI (a + m)) = some (σ, nI (sg l a m % 65536)) := by
  have h2 := h.2.1
  have h3 := h.2.2.1
  have h4 := sg_le h.by m a
  unfold F_X3_sum
  rw [show (0 : Int32) = nI 0 from rfl, f_sumL h m fu 0 a (a + m) (by unfold fu; omega) rfl ha]
  unfold F_X3_sum_L41
  rw [show 65535 = nI 65535 from rfl, Nat.zero_add, pk_andN (by omega) 16 (by decide)]
theorem f_copyL {r0 r1 : Nat} {K : St → Option St} (hr : r0 ≠ r1) (hr2 : r0 ≠ r1 + 1) (hr3 : r0 + 1 ≠ r1) (hc : ln (r0 + 1) ≤ 4000) {l : List Nat} : ∀ (m fz k : Nat) (σ : St), m < fz → k + m = min l.length (ln (r0 + 1)) → Rw σ r1 l → Rw σ r0 (l.take k) → ∃ τ, F_X3_copyFrom_L7 r0 r1 K fz σ (nI k) = K τ ∧ Rw τ r0 (l.take (ln (r0 + 1))) ∧ Eqx [r0, r0 + 1] σ τ := by
  intro m
  induction m with
  | zero =>
    intro fz k σ hf hk h hp
    cases fz with
    | zero => omega
    | succ fz =>
      have hl := h.2.1
      have hl2 := h.2.2.1
      unfold F_X3_copyFrom_L7
      refine ⟨σ, ?_, ?_, Eqx.rf⟩
      · rw [h.1]
        by_cases h9 : l.length ≤ k
        · rw [if_pos ((nI_leI (by omega) (by omega)).mpr h9)]
        · rw [if_neg (fun h8 => h9 ((nI_leI (by omega) (by omega)).mp h8)), show Int32.ofNat (ln (r0 + 1)) = nI (ln (r0 + 1)) from rfl, if_pos ((nI_leI (a := ln (r0 + 1)) (by omega) (by omega)).mpr (by omega))]
      · by_cases h9 : l.length ≤ ln (r0 + 1)
        · rw [List.take_of_length_le h9]
          rw [List.take_of_length_le (by omega)] at hp
          exact hp
        · rw [show k = ln (r0 + 1) by omega] at hp
          exact hp
  | succ m ih =>
    intro fz k σ hf hk h hp
    cases fz with
    | zero => omega
    | succ fz =>
      have hl := h.2.1
      have hl2 := h.2.2.1
      have hlen : (l.take k).length = k := by rw [List.length_take]; omega
      have hpu := hp.push (b := l.getD k 0) (by omega) (h.lt k)
      rw [hlen, take_succ' (by omega)] at hpu
      obtain ⟨τ, e1, e2, e3⟩ := ih fz (k + 1) _ (by omega) (by omega) (h.keep (L := [r0, r0 + 1]) (Eqx.tr (Eqx.sI (by simp)) (Eqx.sI (by simp))) (by simp; omega) (by simp; omega)) hpu
      refine ⟨τ, ?_, e2, Eqx.tr (Eqx.tr (Eqx.sI (by simp)) (Eqx.sI (by simp))) e3⟩
      unfold F_X3_copyFrom_L7
      rw [h.1, if_neg (fun h8 => by rw [nI_leI (by omega) (by omega)] at h8; omega), if_neg (fun h8 => by rw [show Int32.ofNat (ln (r0 + 1)) = nI (ln (r0 + 1)) from rfl, nI_leI (by omega) (by omega)] at h8; omega), gd_t (ib_nI (by omega) (by omega)), gd_t (ib_nI (by omega) (by omega)), nI_clamp (by omega), (h.2.2.2 k (by omega)).1]
      show F_X3_copyFrom_L7 r0 r1 K fz (sI (sI σ (r0 + 1) k (nI (l.getD k 0))) r0 1 ((sI σ (r0 + 1) k (nI (l.getD k 0))).1 r0 1 + 1)) (nI k + 1) = K τ
      rw [sI_nk (show r0 ≠ r0 + 1 by omega), hp.1, hlen, nI_1 k]
      rw [nI_1 k] at e1
      exact e1
theorem f_copy {σ : St} {r0 r1 : Nat} {l l0 : List Nat} (hr : r0 ≠ r1) (hr2 : r0 ≠ r1 + 1) (hr3 : r0 + 1 ≠ r1) (h : Rw σ r1 l) (h0 : Rw σ r0 l0) : Ok (F_X3_copyFrom r0 r1 σ) (fun τ => Rw τ r0 (l.take (ln (r0 + 1))) ∧ Eqx [r0, r0 + 1] σ τ) := by
  have hl := h.2.1
  have hl2 := h.2.2.1
  have hc := h0.2.2.1
  have hz : Rw (sI σ r0 1 (nI 0)) r0 (l.take 0) := ⟨by rw [sI_eq]; rfl, Nat.zero_le _, hc, fun k hk => absurd hk (by simp)⟩
  obtain ⟨τ, e1, e2, e3⟩ := f_copyL (K := F_X3_copyFrom_L52 r0 r1) hr hr2 hr3 hc (l := l) (min l.length (ln (r0 + 1))) fu 0 (sI σ r0 1 (nI 0)) (by unfold fu; omega) (by omega) (h.keep (L := [r0]) (Eqx.sI (by simp)) (by simp; omega) (by simp; omega)) hz
  refine ⟨τ, ?_, e2, Eqx.tr (Eqx.sI (by simp)) e3⟩
  unfold F_X3_copyFrom nm
  rw [lit 0]
  exact e1
/-- two answers fall together -/
def jn (a b : List Nat) : List Nat := (List.range (max a.length b.length)).map (fun k => a.getD k 0 ||| b.getD k 0)
theorem jn_len (a b : List Nat) : (jn a b).length = max a.length b.length := by unfold jn; rw [List.length_map, List.length_range]
theorem jn_at (a b : List Nat) (k : Nat) : (jn a b).getD k 0 = a.getD k 0 ||| b.getD k 0 := by
  by_cases h : k < max a.length b.length
  · rw [nD, dif_pos (by rw [jn_len]; exact h)]
    unfold jn
    rw [List.getElem_map, List.getElem_range]
  · rw [nD_ge (by rw [jn_len]; omega), nD_ge (show a.length ≤ k by omega), nD_ge (show b.length ≤ k by omega)]
    rfl
theorem ext_getD {a b : List Nat} (h : a.length = b.length) (h2 : ∀ k, k < a.length → a.getD k 0 = b.getD k 0) : a = b := by
  apply List.ext_getElem h
  intro k h3 h4
  have h5 := h2 k h3
  rw [nD, nD, dif_pos h3, dif_pos h4] at h5
  exact h5
theorem jn_nil (a : List Nat) : jn a [] = a := by
  apply ext_getD
  · rw [jn_len]; simp
  · intro k _
    rw [jn_at, nD_ge (l := []) (Nat.zero_le _), Nat.or_zero]
theorem or_lt256 {a b : Nat} (ha : a < 256) (hb : b < 256) : a ||| b < 256 := Nat.or_lt_two_pow (n := 8) ha hb
theorem xor_lt256 {a b : Nat} (ha : a < 256) (hb : b < 256) : a ^^^ b < 256 := Nat.xor_lt_two_pow (n := 8) ha hb
theorem f_joinL {r0 r1 : Nat} {K : St → Option St} (hr : r0 ≠ r1) (hr2 : r0 ≠ r1 + 1) (hr3 : r0 + 1 ≠ r1) {a b : List Nat} (hb : b.length ≤ ln (r0 + 1)) : ∀ (m fz k : Nat) (σ : St), m < fz → k + m = b.length → Rw σ r1 b → Rw σ r0 (jn a (b.take k)) → ∃ τ, F_X3_join_L2 r0 r1 K fz σ (nI k) = K τ ∧ Rw τ r0 (jn a b) ∧ Eqx [r0, r0 + 1] σ τ := by
  intro m
  induction m with
  | zero =>
    intro fz k σ hf hk h hp
    cases fz with
    | zero => omega
    | succ fz =>
      have hl := h.2.1
      have hl2 := h.2.2.1
      unfold F_X3_join_L2
      refine ⟨σ, ?_, ?_, Eqx.rf⟩
      · rw [h.1, if_pos ((nI_leI (by omega) (by omega)).mpr (by omega))]
      · rw [List.take_of_length_le (by omega)] at hp
        exact hp
  | succ m ih =>
    intro fz k σ hf hk h hp
    cases fz with
    | zero => omega
    | succ fz =>
      have hl := h.2.1
      have hl2 := h.2.2.1
      have hc := hp.2.2.1
      have hpl := hp.2.1
      have hlen : (jn a (b.take k)).length = max a.length k := by rw [jn_len, List.length_take]; congr 1; omega
      have hlen2 : (jn a (b.take (k + 1))).length = max a.length (k + 1) := by rw [jn_len, List.length_take]; congr 1; omega
      have hat : ∀ j, (jn a (b.take (k + 1))).getD j 0 = if j = k then a.getD j 0 ||| b.getD j 0 else (jn a (b.take k)).getD j 0 := by
        intro j
        rw [jn_at, jn_at, nD_take, nD_take]
        by_cases hj : j = k
        · rw [if_pos hj, if_pos (by omega)]
        · rw [if_neg hj]
          by_cases hj2 : j < k
          · rw [if_pos hj2, if_pos (by omega)]
          · rw [if_neg hj2, if_neg (by omega)]
      have hbl : ∀ j, (jn a (b.take (k + 1))).getD j 0 < 256 := by
        intro j
        rw [hat]
        by_cases hj : j = k
        · rw [if_pos hj]
          have h5 := hp.lt k
          rw [jn_at, nD_take, if_neg (by omega), Nat.or_zero] at h5
          rw [hj]
          exact or_lt256 h5 (h.lt k)
        · rw [if_neg hj]; exact hp.lt j
      rw [hlen] at hpl
      unfold F_X3_join_L2
      rw [h.1, if_neg (fun h8 => by rw [nI_leI (by omega) (by omega)] at h8; omega), if_neg (fun h8 => by rw [show Int32.ofNat (ln (r0 + 1)) = nI (ln (r0 + 1)) from rfl, nI_leI (by omega) (by omega)] at h8; omega), hp.1, hlen]
      by_cases hk2 : a.length ≤ k
      · have ha0 : a.getD k 0 = 0 := nD_ge hk2
        have hq : Rw (sI (sI σ (r0 + 1) k (nI (b.getD k 0))) r0 1 (nI k + 1)) r0 (jn a (b.take (k + 1))) := by
          refine ⟨by rw [sI_eq, hlen2, nI_1]; congr 1; omega, by rw [hlen2]; omega, hc, fun j hj => ⟨?_, hbl j⟩⟩
          rw [hlen2] at hj
          rw [sI_nk (by omega), hat]
          by_cases hj2 : j = k
          · subst hj2
            rw [sI_eq, if_pos rfl, ha0, Nat.zero_or]
          · rw [sI_nj hj2, if_neg hj2]
            exact (hp.2.2.2 j (by omega)).1
        obtain ⟨τ, e1, e2, e3⟩ := ih fz (k + 1) _ (by omega) (by omega) (h.keep (L := [r0, r0 + 1]) (Eqx.tr (Eqx.sI (by simp)) (Eqx.sI (by simp))) (by simp; omega) (by simp; omega)) hq
        refine ⟨τ, ?_, e2, Eqx.tr (Eqx.tr (Eqx.sI (by simp)) (Eqx.sI (by simp))) e3⟩
        rw [if_pos ((nI_leI (by omega) (by omega)).mpr (by omega)), gd_t (ib_nI (by omega) (by omega)), gd_t (ib_nI (by omega) (by omega)), nI_clamp (by omega), (h.2.2.2 k (by omega)).1]
        show F_X3_join_L2 r0 r1 K fz (sI (sI σ (r0 + 1) k (nI (b.getD k 0))) r0 1 ((sI σ (r0 + 1) k (nI (b.getD k 0))).1 r0 1 + 1)) (nI k + 1) = K τ
        rw [sI_nk (show r0 ≠ r0 + 1 by omega), hp.1, hlen, show max a.length k = k by omega, nI_1 k]
        rw [nI_1 k] at e1
        exact e1
      · have hq : Rw (sI σ (r0 + 1) k (nI (a.getD k 0 ||| b.getD k 0))) r0 (jn a (b.take (k + 1))) := by
          refine ⟨by rw [sI_nk (by omega), hp.1, hlen, hlen2]; congr 1; omega, by rw [hlen2]; omega, hc, fun j hj => ⟨?_, hbl j⟩⟩
          rw [hlen2] at hj
          rw [hat]
          by_cases hj2 : j = k
          · subst hj2
            rw [sI_eq, if_pos rfl]
          · rw [sI_nj hj2, if_neg hj2]
            exact (hp.2.2.2 j (by omega)).1
        obtain ⟨τ, e1, e2, e3⟩ := ih fz (k + 1) _ (by omega) (by omega) (h.keep (L := [r0, r0 + 1]) (Eqx.sI (by simp)) (by simp; omega) (by simp; omega)) hq
        refine ⟨τ, ?_, e2, Eqx.tr (Eqx.sI (by simp)) e3⟩
        rw [if_neg (fun h8 => by rw [nI_leI (by omega) (by omega)] at h8; omega), gd_t (ib_nI (by omega) (by omega)), gd_t (ib_nI (by omega) (by omega)), gd_t (ib_nI (by omega) (by omega)), nI_clamp (by omega), (h.2.2.2 k (by omega)).1, (hp.2.2.2 k (by omega)).1, jn_at, nD_take, if_neg (by omega), Nat.or_zero, nI_or]
        show F_X3_join_L2 r0 r1 K fz (sI σ (r0 + 1) k (nI (a.getD k 0 ||| b.getD k 0))) (nI k + 1) = K τ
        rw [nI_1 k]
        exact e1
theorem f_join {σ : St} {r0 r1 : Nat} {a b : List Nat} (hr : r0 ≠ r1) (hr2 : r0 ≠ r1 + 1) (hr3 : r0 + 1 ≠ r1) (ha : Rw σ r0 a) (h : Rw σ r1 b) (hb : b.length ≤ ln (r0 + 1)) : Ok (F_X3_join r0 r1 σ) (fun τ => Rw τ r0 (jn a b) ∧ Eqx [r0, r0 + 1] σ τ) := by
  have hl := h.2.1
  have hl2 := h.2.2.1
  obtain ⟨τ, e1, e2, e3⟩ := f_joinL (K := F_X3_join_L73 r0 r1) hr hr2 hr3 (a := a) hb b.length fu 0 σ (by unfold fu; omega) (by omega) h (by rw [List.take_zero, jn_nil]; exact ha)
  exact ⟨τ, e1, e2, e3⟩
/-- one spoiled byte -/
def fl (l : List Nat) (k : Nat) (m : Int32) : List Nat := l.set k (l.getD k 0 ^^^ lo8 m)
theorem f_flip {σ : St} {r : Nat} {l : List Nat} (h : Rw σ r l) {k : Nat} (hk : k < 2 ^ 31) (m : Int32) : Ok (F_X3_flip r σ (nI k) m) (fun τ => Rw τ r (fl l k m) ∧ Eqx [r + 1] σ τ) := by
  have h2 := h.2.1
  have h3 := h.2.2.1
  unfold F_X3_flip
  rw [if_neg (nI_pos hk), h.1]
  by_cases hl : k < l.length
  · rw [if_neg (fun h9 => by rw [nI_leI (by omega) hk] at h9; omega), gd_t (ib_nI (by omega) (by omega)), gd_t (ib_nI (by omega) (by omega)), nI_clamp hk, (h.2.2.2 k hl).1, lo8_and, nI_xor]
    refine ⟨_, rfl, ?_, Eqx.sI (by simp)⟩
    refine ⟨by rw [sI_nk (by omega), h.1]; unfold fl; rw [List.length_set], by unfold fl; rw [List.length_set]; exact h2, h3, fun j hj => ?_⟩
    unfold fl
    rw [nD_set]
    by_cases hj2 : j = k
    · rw [if_pos ⟨hj2, hl⟩, hj2, sI_eq]
      exact ⟨rfl, xor_lt256 (h.lt k) (lo8_lt m)⟩
    · rw [if_neg (fun h9 => hj2 h9.1), sI_nj hj2]
      unfold fl at hj
      rw [List.length_set] at hj
      exact h.2.2.2 j hj
  · rw [if_pos ((nI_leI (by omega) hk).mpr (by omega))]
    refine ⟨_, rfl, ?_, Eqx.rf⟩
    unfold fl
    rw [List.set_eq_of_length_le (by omega)]
    exact h
