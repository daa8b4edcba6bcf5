/-! ===== a lamp more: the store, the addresses, the world ===== -/
def nLI (w m a : Int32) : Nat → Int32 := fun j => if j = 1 then w else if j = 2 then m else if j = 9 then 1 else if j = 10 then a else 0
def nLJ (id : Int64) : Nat → Int64 := fun j => if j = 0 then id else 0
def nL (σ : St) (n : Nat) (id : Int64) (w m a : Int32) : St := (fun q => if q < 54 + 12 * n then σ.1 q else if q = 54 + 12 * n then nLI w m a else fun _ => 0, fun q => if q < 54 + 12 * n then σ.2 q else if q = 54 + 12 * n then nLJ id else fun _ => 0)
def nA (ad : Nat → Nat) (n q : Nat) (u : Nat → Nat) : Nat → Nat := fun k => if k < 54 + 12 * n then ad k else if k = 54 + 12 * n then q else u (k - (55 + 12 * n))
theorem nA_lo {ad : Nat → Nat} {n q : Nat} {u : Nat → Nat} {k : Nat} (h : k < 54 + 12 * n) : nA ad n q u k = ad k := if_pos h
theorem nA_0 {ad : Nat → Nat} {n q : Nat} {u : Nat → Nat} : nA ad n q u (54 + 12 * n) = q := by unfold nA; rw [if_neg (by omega), if_pos rfl]
theorem nA_s {ad : Nat → Nat} {n q : Nat} {u : Nat → Nat} (j : Nat) : nA ad n q u (54 + 12 * n + (j + 1)) = u j := by
  unfold nA
  rw [if_neg (by omega), if_neg (by omega)]
  congr 1
  omega
theorem nL_i0 {σ : St} {n : Nat} {id : Int64} {w m a : Int32} : (nL σ n id w m a).1 (54 + 12 * n) = nLI w m a := by unfold nL; simp
theorem nL_j0 {σ : St} {n : Nat} {id : Int64} {w m a : Int32} : (nL σ n id w m a).2 (54 + 12 * n) = nLJ id := by unfold nL; simp
theorem nL_i {σ : St} {n : Nat} {id : Int64} {w m a : Int32} (j : Nat) : (nL σ n id w m a).1 (54 + 12 * n + (j + 1)) = fun _ => 0 := by
  unfold nL
  dsimp only
  rw [if_neg (by omega), if_neg (by omega)]
theorem nL_lo {σ : St} {n : Nat} {id : Int64} {w m a : Int32} {k : Nat} (h : k < 54 + 12 * n) : (nL σ n id w m a).1 k = σ.1 k ∧ (nL σ n id w m a).2 k = σ.2 k := ⟨if_pos h, if_pos h⟩
/-- which roles a role's cell names -/
theorem kd_hi {k : Nat} (h : ¬ k < 54) : kd k = kd1.getD ((k - 54) % 12) 0 := by unfold kd; rw [if_neg h]
theorem kd_2 {k n : Nat} (h : kd k = 2) (hk : k < 54 + 12 * n) : k + 1 < 54 + 12 * n := by
  by_cases h1 : k < 54
  · rcases Nat.lt_or_ge (k + 1) 54 with h2 | h2
    · omega
    · rw [show k = 53 by omega] at h; exact absurd h (by decide)
  · rw [kd_hi h1] at h
    have h3 : ∀ r, r < 12 → kd1.getD r 0 = 2 → r ≤ 10 := by decide
    have h4 := h3 _ (Nat.mod_lt _ (by decide)) h
    omega
theorem kd_4 {k n : Nat} (h : kd k = 4) (hk : k < 54 + 12 * n) : k + 1 < 54 + 12 * n := by
  by_cases h1 : k < 54
  · rcases Nat.lt_or_ge (k + 1) 54 with h2 | h2
    · omega
    · rw [show k = 53 by omega] at h; exact absurd h (by decide)
  · rw [kd_hi h1] at h
    have h3 : ∀ r, r < 12 → kd1.getD r 0 = 4 → r ≤ 10 := by decide
    have h4 := h3 _ (Nat.mod_lt _ (by decide)) h
    omega
theorem kd_12 {k n : Nat} (h : kd k = 12) (hk : k < 54 + 12 * n) : k + 5 < 54 + 12 * n := by
  by_cases h1 : k < 54
  · have h3 : ∀ r, r < 54 → kd r ≠ 12 := by decide
    exact absurd h (h3 k h1)
  · rw [kd_hi h1] at h
    have h3 : ∀ r, r < 12 → kd1.getD r 0 = 12 → r = 0 := by decide
    have h4 := h3 _ (Nat.mod_lt _ (by decide)) h
    omega
theorem kd_13 {k n : Nat} (h : kd k = 13) (hk : k < 54 + 12 * n) : k + 7 < 54 + 12 * n := by
  by_cases h1 : k < 54
  · have h3 : ∀ r, r < 54 → kd r ≠ 13 := by decide
    exact absurd h (h3 k h1)
  · rw [kd_hi h1] at h
    have h3 : ∀ r, r < 12 → kd1.getD r 0 = 13 → r = 4 := by decide
    have h4 := h3 _ (Nat.mod_lt _ (by decide)) h
    omega
theorem kd_le (k : Nat) : 1 ≤ kd k ∧ kd k ≤ 13 := by
  by_cases h1 : k < 54
  · have h3 : ∀ r, r < 54 → 1 ≤ kd r ∧ kd r ≤ 13 := by decide
    exact h3 k h1
  · rw [kd_hi h1]
    have h3 : ∀ r, r < 12 → 1 ≤ kd1.getD r 0 ∧ kd1.getD r 0 ≤ 13 := by decide
    exact h3 _ (Nat.mod_lt _ (by decide))
theorem kd_8 {k : Nat} (h : kd k = 8) : k = 25 := by
  by_cases h1 : k < 54
  · have h3 : ∀ r, r < 54 → kd r = 8 → r = 25 := by decide
    exact h3 k h1 h
  · rw [kd_hi h1] at h
    have h3 : ∀ r, r < 12 → kd1.getD r 0 ≠ 8 := by decide
    exact absurd h (h3 _ (Nat.mod_lt _ (by decide)))
theorem cE_grow {g : Nat → ClassId} {ad ad' : Nat → Nat} {n n' k : Nat} {i : Nat → Int32} {j : Nat → Int64} (hk : k < 54 + 12 * n) (h25 : k ≠ 25) (had : ∀ q, q < 54 + 12 * n → ad' q = ad q) : cE g ad' n' k i j = cE g ad n k i j := by
  unfold cE
  have hle := kd_le k
  have h0 : ∀ q, q < 54 → ad' q = ad q := fun q hq => had q (by omega)
  rcases (show kd k = 1 ∨ kd k = 2 ∨ kd k = 3 ∨ kd k = 4 ∨ kd k = 5 ∨ kd k = 6 ∨ kd k = 7 ∨ kd k = 8 ∨ kd k = 9 ∨ kd k = 10 ∨ kd k = 11 ∨ kd k = 12 ∨ kd k = 13 by omega) with h | h | h | h | h | h | h | h | h | h | h | h | h
  · rw [h]; show cK g ad' n' k i j 1 = cK g ad n k i j 1; simp only [cK]; rw [h0 1 (by decide), h0 3 (by decide), h0 5 (by decide), h0 7 (by decide), h0 9 (by decide), h0 12 (by decide), h0 15 (by decide), h0 18 (by decide), h0 21 (by decide), h0 25 (by decide)]
  · rw [h]; show cK g ad' n' k i j 2 = cK g ad n k i j 2; simp only [cK]; rw [had _ (kd_2 h hk)]
  · rw [h]; rfl
  · rw [h]; show cK g ad' n' k i j 4 = cK g ad n k i j 4; simp only [cK]; rw [had _ (kd_4 h hk)]
  · rw [h]; show cK g ad' n' k i j 5 = cK g ad n k i j 5; simp only [cK]; rw [h0 19 (by decide), h0 20 (by decide)]
  · rw [h]; show cK g ad' n' k i j 6 = cK g ad n k i j 6; simp only [cK]; rw [h0 22 (by decide), h0 23 (by decide), h0 24 (by decide)]
  · rw [h]; rfl
  · exact absurd (kd_8 h) h25
  · rw [h]; show cK g ad' n' k i j 9 = cK g ad n k i j 9; simp only [cK]; rw [h0 28 (by decide), h0 29 (by decide), h0 30 (by decide), h0 31 (by decide), h0 32 (by decide), h0 33 (by decide), h0 34 (by decide), h0 35 (by decide), h0 36 (by decide), h0 37 (by decide), h0 38 (by decide), h0 39 (by decide), h0 40 (by decide), h0 41 (by decide), h0 42 (by decide), h0 43 (by decide), h0 44 (by decide), h0 45 (by decide), h0 46 (by decide), h0 47 (by decide), h0 48 (by decide), h0 49 (by decide), h0 50 (by decide), h0 51 (by decide), h0 52 (by decide), h0 53 (by decide)]
  · rw [h]; rfl
  · rw [h]; rfl
  · have h5 := kd_12 h hk
    rw [h]; show cK g ad' n' k i j 12 = cK g ad n k i j 12; simp only [cK]; rw [had (k + 1) (by omega), had (k + 2) (by omega), had (k + 4) (by omega), had (k + 5) (by omega)]
  · have h5 := kd_13 h hk
    rw [h]; show cK g ad' n' k i j 13 = cK g ad n k i j 13; simp only [cK]
    congr 7
    funext q
    by_cases hq : q < 3
    · rw [if_pos hq, if_pos hq, had _ (by omega)]
    · rw [if_neg hq, if_neg hq]
theorem wl_grow {g : Nat → ClassId} {ad : Nat → Nat} {n q : Nat} {u : Nat → Nat} {σ : St} {id : Int64} {w m a : Int32} :
    (wl g ad n σ).set 25 (ad 25, .inl (g 4, 24, .inr (.inr (.inr (.inr (va_up (fun z => if z < n then some (ad (54 + 12 * z)) else none) n (some q))))))) ++ w1_X1 g q id w m a u = wl g (nA ad n q u) (n + 1) (nL σ n id w m a) := by
  have hr : List.range (tp (n + 1)) = List.range (tp n) ++ (List.range 12).map (fun d => 54 + 12 * n + d) := by
    rw [show tp (n + 1) = tp n + 12 by unfold tp; omega, List.range_add]
    rfl
  show _ = (List.range (tp (n + 1))).map _
  rw [hr, List.map_append]
  congr 1
  · apply List.ext_getElem?
    intro k
    by_cases hk : k < tp n
    · have hk' : k < 54 + 12 * n := hk
      rw [List.getElem?_map, List.getElem?_range hk]
      by_cases h25 : k = 25
      · subst h25
        rw [List.getElem?_set_self (by simpa [wl] using hk)]
        show some _ = some _
        congr 1
        show _ = (nA ad n q u 25, cE g (nA ad n q u) (n + 1) 25 ((nL σ n id w m a).1 25) ((nL σ n id w m a).2 25))
        rw [nA_lo hk', (nL_lo hk').1, (nL_lo hk').2]
        congr 1
        show _ = cE g (nA ad n q u) (n + 1) 25 (σ.1 25) (σ.2 25)
        rw [cE_k (κ := 8) rfl]
        show _ = Sum.inl _
        congr 7
        funext z
        unfold va_up
        by_cases hz : z = n
        · subst hz
          rw [if_pos rfl, if_pos (by omega), nA_0]
        · rw [if_neg hz]
          show (if z < n then some (ad (54 + 12 * z)) else none) = _
          by_cases hz2 : z < n
          · rw [if_pos hz2, if_pos (by omega), nA_lo (by omega)]
          · rw [if_neg hz2, if_neg (by omega)]
      · rw [List.getElem?_set_ne (fun h => h25 h.symm)]
        unfold wl
        rw [List.getElem?_map, List.getElem?_range hk]
        show some _ = some _
        congr 1
        show (ad k, cE g ad n k (σ.1 k) (σ.2 k)) = (nA ad n q u k, cE g (nA ad n q u) (n + 1) k ((nL σ n id w m a).1 k) ((nL σ n id w m a).2 k))
        rw [nA_lo hk', (nL_lo hk').1, (nL_lo hk').2, cE_grow hk' h25 (fun q9 h9 => nA_lo h9)]
    · rw [List.getElem?_eq_none (by simpa [wl] using hk), List.getElem?_eq_none (by simpa using hk)]
  · obtain ⟨k0, k1, ⟨k2, k3⟩, k4, k5, ⟨k6, k7⟩, ⟨k8, k9⟩, ⟨k10, k11⟩, l1, l3, l4, l5, l7, l9, l11⟩ := isLp_at n
    show _ = [_, _, _, _, _, _, _, _, _, _, _, _]
    unfold w1_X1
    dsimp only
    have e0 : (nA ad n q u (54 + 12 * n + 0), cE g (nA ad n q u) (n + 1) (54 + 12 * n + 0) ((nL σ n id w m a).1 (54 + 12 * n + 0)) ((nL σ n id w m a).2 (54 + 12 * n + 0))) = (q, (.inr (0, [.long id, .int w, .int m, .ref (u 0), .ref (u 1), .ref (u 3), .ref (u 4), .int 0, .int 0, .int 1, .int a, .int 0, .int 0, .int 0, .int 0]) : va_E)) := by
      rw [Nat.add_zero, nA_0, nL_i0, nL_j0, cE_k k0]
      show (q, (Sum.inr (0, [.long id, .int w, .int m, .ref (nA ad n q u (54 + 12 * n + 1)), .ref (nA ad n q u (54 + 12 * n + 2)), .ref (nA ad n q u (54 + 12 * n + 4)), .ref (nA ad n q u (54 + 12 * n + 5)), .int 0, .int 0, .int 1, .int a, .int 0, .int 0, .int 0, .int 0]) : va_E)) = _
      rw [nA_s 0, nA_s 1, nA_s 3, nA_s 4]
    have ea : ∀ d N, kd (54 + 12 * n + (d + 1)) = 3 → ln (54 + 12 * n + (d + 1)) = N → (nA ad n q u (54 + 12 * n + (d + 1)), cE g (nA ad n q u) (n + 1) (54 + 12 * n + (d + 1)) ((nL σ n id w m a).1 (54 + 12 * n + (d + 1))) ((nL σ n id w m a).2 (54 + 12 * n + (d + 1)))) = (u d, (.inl (g 1, N, .inl (fun _ => (0 : Int32))) : va_E)) := by
      intro d N h1 h2
      rw [nA_s, nL_i, cE_k h1]
      show (u d, (Sum.inl (g 1, ln _, Sum.inl _) : va_E)) = _
      rw [h2]
    have er : ∀ d, kd (54 + 12 * n + (d + 1)) = 2 → (nA ad n q u (54 + 12 * n + (d + 1)), cE g (nA ad n q u) (n + 1) (54 + 12 * n + (d + 1)) ((nL σ n id w m a).1 (54 + 12 * n + (d + 1))) ((nL σ n id w m a).2 (54 + 12 * n + (d + 1)))) = (u d, (.inr (2, [.ref (u (d + 1)), .int 0]) : va_E)) := by
      intro d h1
      rw [nA_s, nL_i, cE_k h1]
      show (u d, (Sum.inr (2, [.ref (nA ad n q u (54 + 12 * n + (d + 1) + 1)), .int 0]) : va_E)) = _
      rw [show 54 + 12 * n + (d + 1) + 1 = 54 + 12 * n + ((d + 1) + 1) by omega, nA_s]
    have e4 : (nA ad n q u (54 + 12 * n + 4), cE g (nA ad n q u) (n + 1) (54 + 12 * n + 4) ((nL σ n id w m a).1 (54 + 12 * n + 4)) ((nL σ n id w m a).2 (54 + 12 * n + 4))) = (u 3, (.inl (g 5, 3, .inr (.inr (.inr (.inr (va_up (va_up (va_up (fun _ => none) (Int32.toNatClampNeg 0) (some (u 5))) (Int32.toNatClampNeg 1) (some (u 7))) (Int32.toNatClampNeg 2) (some (u 9))))))) : va_E)) := by
      rw [nA_s 3, cE_k k4]
      show (u 3, (Sum.inl (g 5, ln (54 + 12 * n + 4), Sum.inr (Sum.inr (Sum.inr (Sum.inr (fun z => if z < 3 then some (nA ad n q u (54 + 12 * n + 4 + 2 + 2 * z)) else none))))) : va_E)) = _
      rw [l4]
      congr 8
      funext z
      rcases (show z = 0 ∨ z = 1 ∨ z = 2 ∨ 3 ≤ z by omega) with h | h | h | h
      · subst h; rw [if_pos (by decide), nA_s 5]; rfl
      · subst h; rw [if_pos (by decide), nA_s 7]; rfl
      · subst h; rw [if_pos (by decide), nA_s 9]; rfl
      · rw [if_neg (by omega)]
        have t0 : Int32.toNatClampNeg 0 = 0 := by decide
        have t1 : Int32.toNatClampNeg 1 = 1 := by decide
        have t2 : Int32.toNatClampNeg 2 = 2 := by decide
        unfold va_up
        rw [t0, t1, t2, if_neg (show ¬ z = 2 by omega), if_neg (show ¬ z = 1 by omega), if_neg (show ¬ z = 0 by omega)]
    have e5 : (nA ad n q u (54 + 12 * n + 5), cE g (nA ad n q u) (n + 1) (54 + 12 * n + 5) ((nL σ n id w m a).1 (54 + 12 * n + 5)) ((nL σ n id w m a).2 (54 + 12 * n + 5))) = (u 4, (.inl (g 3, 3, .inl (fun _ => (0 : Int32))) : va_E)) := by
      rw [nA_s 4, nL_i 4, cE_k k5]
      show (u 4, (Sum.inl (g 3, ln (54 + 12 * n + 5), Sum.inl _) : va_E)) = _
      rw [l5]
    rw [e0, ea 0 512 k1 l1, er 1 k2, ea 2 32 k3 l3, e4, e5, er 5 k6, ea 6 32 k7 l7, er 7 k8, ea 8 32 k9 l9, er 9 k10, ea 10 32 k11 l11]
