/-! ===== PURE: the model's lamps and replies ===== -/
/-- the model's places of lamp i -/
abbrev lpl (i : Nat) : Nat → Nat → Prop := fun q j => (28 ≤ q ∧ q ≤ 36 ∧ j = i) ∨ (q = 38 ∧ j = i) ∨ (q = 40 ∧ j = i) ∨ (q = 41 ∧ j = i) ∨ (q = 37 ∧ 32 * i ≤ j ∧ j < 32 * i + 32) ∨ (q = 39 ∧ 512 * i ≤ j ∧ j < 512 * i + 512) ∨ ((q = 42 ∨ q = 43) ∧ 4 * i ≤ j ∧ j < 4 * i + 4) ∨ (q = 44 ∧ 128 * i ≤ j ∧ j < 128 * i + 128)
def rjs : List (Nat × Nat) := [(30, 1), (31, 2), (32, 9), (33, 10), (34, 11), (35, 12), (38, 13), (40, 14)]
theorem rjs_r : ∀ e, e ∈ rjs → (30 ≤ e.1 ∧ e.1 ≤ 35) ∨ e.1 = 38 ∨ e.1 = 40 := by decide
theorem rjs_j : ∀ e, e ∈ rjs → e.2 ≠ 0 ∧ e.2 ≠ 8 := by decide
theorem rjs_u : ∀ e, e ∈ rjs → ∀ d, d ∈ rjs → (e.1 = d.1 ↔ e.2 = d.2) := by decide
def la (L : Lp) (k : Nat) : Nat × List Nat := L.2.2.2.getD k (0, [])
/-- what comes later, in the model -/
def ML1 (σ : St) (i : Nat) (L : Lp) : Prop :=
  σ.1 41 i = nI (L.1 8 + L.2.2.2.length) ∧ (∀ k, k < L.1 8 → σ.1 42 (4 * i + k) = 0) ∧ (∀ k, k < L.2.2.2.length → σ.1 42 (4 * i + L.1 8 + k) = nI (la L k).1 ∧ σ.1 43 (4 * i + L.1 8 + k) = nI (la L k).2.length ∧ ∀ b, b < (la L k).2.length → lo8 (σ.1 44 (32 * (4 * i + L.1 8 + k) + b)) = (la L k).2.getD b 0)
/-- the model's lamp -/
def ML (σ : St) (i : Nat) (L : Lp) : Prop :=
  σ.1 28 i = nI (L.1 0 / 2 ^ 32) ∧ σ.2 29 i = lN (L.1 0 % 2 ^ 32) ∧ (∀ e, e ∈ rjs → σ.1 e.1 i = nI (L.1 e.2)) ∧ (σ.1 36 i = nI L.2.1.length ∧ ∀ k, k < L.2.1.length → lo8 (σ.1 37 (32 * i + k)) = L.2.1.getD k 0) ∧ (∀ k, k < 512 → σ.1 39 (512 * i + k) = nI (L.2.2.1 k)) ∧ ML1 σ i L
theorem la_mem {L : Lp} {k : Nat} (h : k < L.2.2.2.length) : la L k ∈ L.2.2.2 := by
  unfold la
  rw [List.getD_eq_getElem?_getD, List.getElem?_eq_getElem h]
  exact List.getElem_mem h
/-- bounds that the frames of lamps need -/
def Bl (L : Lp) : Prop := L.2.1.length ≤ 32 ∧ L.1 8 + L.2.2.2.length ≤ 4 ∧ ∀ k, k < L.2.2.2.length → (la L k).2.length ≤ 32
theorem Wl.bl {o now x : Nat} {L : Lp} (h : Wl o now x L) : Bl L := by
  obtain ⟨w1, w2, w3, w4, w5, w6, w7, w8, w9, w10, w11, w12, w13⟩ := h
  exact ⟨w9.1, w11, fun k hk => (w12 _ (la_mem hk)).2.2.1⟩
theorem ML.fr {p : Nat → Nat → Prop} {σ τ : St} {i : Nat} {L : Lp} (h : ML σ i L) (hB : Bl L) (he : Fr p σ τ) (hp : ∀ q j, lpl i q j → ¬ p q j) : ML τ i L := by
  obtain ⟨h1, h2, h3, ⟨h4, h5⟩, h6, h7, h8, h9⟩ := h
  obtain ⟨b1, b2, b3⟩ := hB
  refine ⟨?_, ?_, fun e hm => ?_, ⟨?_, fun k hk => ?_⟩, fun k hk => ?_, ?_, fun k hk => ?_, fun k hk => ⟨?_, ?_, fun b hb => ?_⟩⟩
  · rw [he.i (hp _ _ (by unfold lpl; omega))]; exact h1
  · rw [he.l (hp _ _ (by unfold lpl; omega))]; exact h2
  · have := rjs_r e hm
    rw [he.i (hp _ _ (by unfold lpl; omega))]; exact h3 e hm
  · rw [he.i (hp _ _ (by unfold lpl; omega))]; exact h4
  · rw [he.i (hp _ _ (by unfold lpl; omega))]; exact h5 k hk
  · rw [he.i (hp _ _ (by unfold lpl; omega))]; exact h6 k hk
  · rw [he.i (hp _ _ (by unfold lpl; omega))]; exact h7
  · rw [he.i (hp _ _ (by unfold lpl; omega))]; exact h8 k hk
  · rw [he.i (hp _ _ (by unfold lpl; omega))]; exact (h9 k hk).1
  · rw [he.i (hp _ _ (by unfold lpl; omega))]; exact (h9 k hk).2.1
  · have := b3 k hk
    rw [he.i (hp _ _ (by unfold lpl; omega))]; exact (h9 k hk).2.2 b hb
theorem ML.sv {σ : St} {i r j v : Nat} {L : Lp} (h : ML σ i L) (hm : (r, j) ∈ rjs) : ML (sI σ r i (nI v)) i (su L j v) := by
  obtain ⟨h1, h2, h3, ⟨h4, h5⟩, h6, h7, h8, h9⟩ := h
  have hr := rjs_r _ hm
  have hj := rjs_j _ hm
  dsimp only at hr hj
  have e8 : (su L j v).1 8 = L.1 8 := su_ne (by omega)
  have e0 : (su L j v).1 0 = L.1 0 := su_ne (by omega)
  refine ⟨?_, ?_, fun e he => ?_, ⟨?_, fun k hk => ?_⟩, fun k hk => ?_, ?_, ?_, ?_⟩
  · rw [e0, sI_nk (by omega)]; exact h1
  · rw [e0]; exact h2
  · have hu := rjs_u _ he _ hm
    dsimp only at hu
    by_cases e2 : e.2 = j
    · rw [hu.mpr e2, e2, sI_eq, su_eq]
    · rw [sI_nk (fun h => e2 (hu.mp h)), su_ne e2]; exact h3 e he
  · rw [sI_nk (by omega)]; exact h4
  · rw [sI_nk (by omega)]; exact h5 k hk
  · rw [sI_nk (by omega)]; exact h6 k hk
  · rw [e8, sI_nk (by omega)]; exact h7
  · rw [e8]; intro k hk; rw [sI_nk (by omega)]; exact h8 k hk
  · rw [e8]; intro k hk; rw [sI_nk (by omega), sI_nk (by omega), sI_nk (by omega)]; exact h9 k hk
theorem ML.sc {σ : St} {i : Nat} {L : Lp} (h : ML σ i L) (r j : Nat) (hm : (r, j) ∈ rjs) : σ.1 r i = nI (L.1 j) := h.2.2.1 (r, j) hm
theorem m_ownId {σ : St} {i : Nat} {L : Lp} (h : ML σ i L) (hi : i < 24) (hid : L.1 0 < 2 ^ 47) : F_X7_ownId σ (nI i) = some (σ, lN (L.1 0)) := by
  unfold F_X7_ownId F_X7_idOf
  rw [gd_t (show ib (nI i) (ln 28) = true from ib_nI (show i < 24 from hi) (by decide)), gd_t (show ib (nI i) (ln 29) = true from ib_nI (show i < 24 from hi) (by decide)), nI_clamp (by omega), h.1, h.2.1]
  show some (σ, ((Int32.toInt64 (nI (L.1 0 / 2 ^ 32))) <<< ((Int32.toInt64 32) &&& 63)) ||| lN (L.1 0 % 2 ^ 32)) = _
  rw [nI_l (by omega), show (32 : Int32) = nI 32 from rfl, wb_shl _ (by decide), wb_ors (k := 32) (by omega) (by omega)]
  congr 2
  congr 1
  omega
theorem m_waitL {σ : St} {i : Nat} {L : Lp} {K : St → Int32 → Option (St × Int32)} (h : ML1 σ i L) (hi : i < 24) (hB : Bl L) (hp : ∀ k, k < L.2.2.2.length → 0 < (la L k).1 ∧ (la L k).1 < 2 ^ 31) : ∀ (m fz k : Nat), m < fz → k + m = L.1 8 + L.2.2.2.length → F_X7_waiting_L4 K fz σ (nI i) (nI (min k (L.1 8))) (nI k) = K σ (nI (L.1 8)) := by
  obtain ⟨h7, h8, h9⟩ := h
  have hb := hB.2.1
  intro m
  induction m with
  | zero =>
    intro fz k hf hk
    cases fz with
    | zero => omega
    | succ fz =>
      unfold F_X7_waiting_L4
      rw [gd_t (show ib (nI i) (ln 41) = true from ib_nI (show i < 24 from hi) (by decide)), nI_clamp (by omega), h7, if_pos (nI_le (by omega) (by omega)), show min k (L.1 8) = L.1 8 by omega]
  | succ m ih =>
    intro fz k hf hk
    cases fz with
    | zero => omega
    | succ fz =>
      unfold F_X7_waiting_L4
      rw [gd_t (show ib (nI i) (ln 41) = true from ib_nI (show i < 24 from hi) (by decide)), nI_clamp (by omega), h7, if_neg (nI_ge (by omega) (by omega)), show (4 : Int32) = nI 4 from rfl, pk_mul, nI_add, gd_t (show ib (nI (4 * i + k)) (ln 42) = true from ib_nI (show 4 * i + k < 96 by omega) (by decide)), nI_clamp (by omega), nI_1 k, nI_1]
      by_cases hk8 : k < L.1 8
      · rw [h8 k hk8, if_pos rfl]
        have := ih fz (k + 1) (by omega) (by omega)
        rw [show min (k + 1) (L.1 8) = min k (L.1 8) + 1 by omega] at this
        exact this
      · have e : 4 * i + k = 4 * i + L.1 8 + (k - L.1 8) := by omega
        have g := hp (k - L.1 8) (by omega)
        rw [e, (h9 (k - L.1 8) (by omega)).1, if_neg (nI_ne0 g.1 g.2)]
        have := ih fz (k + 1) (by omega) (by omega)
        rw [show min (k + 1) (L.1 8) = min k (L.1 8) by omega] at this
        exact this
theorem m_waiting {σ : St} {i : Nat} {L : Lp} (h : ML1 σ i L) (hi : i < 24) (hB : Bl L) (hp : ∀ k, k < L.2.2.2.length → 0 < (la L k).1 ∧ (la L k).1 < 2 ^ 31) : F_X7_waiting σ (nI i) = some (σ, nI (L.1 8)) := by
  have hb := hB.2.1
  unfold F_X7_waiting
  have := m_waitL (K := F_X7_waiting_L41) h hi hB hp (L.1 8 + L.2.2.2.length) fu 0 (by unfold fu; omega) (by omega)
  rw [Nat.zero_min] at this
  exact this
/-- a reply's head before it is finished -/
def pz (to fr cnt kind part grp mat : Nat) : List Nat := 204 :: 1 :: 0 :: (be to 6 ++ (be fr 6 ++ (cnt :: kind :: 0 :: (be part 2 ++ (grp :: (be mat 2 ++ [0]))))))
theorem pz_len {to fr cnt kind part grp mat : Nat} : (pz to fr cnt kind part grp mat).length = 24 := rfl
theorem six_be {f : List Nat} (hb : By f) (k : Nat) : be (six f k) 6 = [f.getD k 0, f.getD (k + 1) 0, f.getD (k + 2) 0, f.getD (k + 3) 0, f.getD (k + 4) 0, f.getD (k + 5) 0] := by
  have h0 := hb k
  have h1 := hb (k + 1)
  have h2 := hb (k + 2)
  have h3 := hb (k + 3)
  have h4 := hb (k + 4)
  have h5 := hb (k + 5)
  have e : six f k = ((((((0 * 256 + f.getD k 0) * 256 + f.getD (k + 1) 0) * 256 + f.getD (k + 2) 0) * 256 + f.getD (k + 3) 0) * 256 + f.getD (k + 4) 0) * 256 + f.getD (k + 5) 0) := rfl
  rw [e]
  generalize f.getD k 0 = a at *
  generalize f.getD (k + 1) 0 = b at *
  generalize f.getD (k + 2) 0 = c at *
  generalize f.getD (k + 3) 0 = d at *
  generalize f.getD (k + 4) 0 = e at *
  generalize f.getD (k + 5) 0 = g at *
  simp only [be]
  simp only [List.cons.injEq, and_true]
  refine ⟨?_, ?_, ?_, ?_, ?_, ?_⟩ <;> omega
theorem m_b9L {σ0 : St} {f : List Nat} {u1 u2 u3 u4 : Int32} {K : St → Int32 → Int32 → Int32 → Int32 → Option St} {P : St → Prop} : ∀ (m fz k : Nat) (σ : St) (l : List Nat), m < fz → k + m = 15 → Mw σ 46 23 f → 15 ≤ f.length → Mw σ 48 27 l → l.length + m ≤ 100 → Fr pw σ0 σ → (∀ τ, Mw τ 48 27 (l ++ (f.drop k).take m) → Fr pw σ0 τ → Ok (K τ u1 u2 u3 u4) P) → Ok (F_X7_begin_L26 K fz σ u1 u2 u3 u4 (nI k)) P := by
  intro m
  induction m with
  | zero =>
    intro fz k σ l hf hk h46 hl15 h hl he hK
    cases fz with
    | zero => omega
    | succ fz =>
      unfold F_X7_begin_L26
      refine Ok.tt (show (15 : Int32) ≤ nI k from nI_le (a := 15) (by omega) (by omega)) ?_
      exact hK σ (by rw [List.take_zero, List.append_nil]; exact h) he
  | succ m ih =>
    intro fz k σ l hf hk h46 hl15 h hl he hK
    cases fz with
    | zero => omega
    | succ fz =>
      have hb := h46.by k
      unfold F_X7_begin_L26
      refine Ok.ff (show ¬ (15 : Int32) ≤ nI k from nI_ge (b := 15) (by omega) (by omega)) ?_
      refine Ok.eq (m_at h46 (by omega)) ?_
      dsimp only
      refine rput (σ0 := σ) (x := f.getD k 0) h Fr.rf (by omega) (by rw [lo8_nn]; omega) (fun τ e1 q1 => ?_)
      rw [nI_1]
      refine ih fz (k + 1) τ _ (by omega) (by omega) (h46.fr q1 (by decide) (fun j => by unfold pw; omega)) hl15 e1 (by simp; omega) (he.t q1) (fun τ3 g1 g2 => hK τ3 ?_ g2)
      rw [List.append_assoc] at g1
      have hkl : k < f.length := by omega
      rw [List.drop_eq_getElem_cons hkl, List.take_succ_cons]
      rw [nD, dif_pos hkl] at g1
      exact g1
theorem m_begin {σ : St} {i kind grp mat : Nat} {L : Lp} {f r0 : List Nat} (hM : ML σ i L) (hi : i < 24) (hB : Bl L) (hid : L.1 0 < 2 ^ 47) (h46 : Mw σ 46 23 f) (hl : 24 ≤ f.length) (h48 : Mw σ 48 27 r0) (hk : kind < 256) (hg : grp < 256) (hm : mat < 65536) : Ok (F_X7_begin σ (nI i) (nI kind) (nI grp) (nI mat)) (fun τ => Mw τ 48 27 (pz (six f 9) (L.1 0) (f.getD 15 0) kind (two f 18) grp mat) ∧ Fr pw σ τ) := by
  have hb := h46.by
  unfold F_X7_begin
  refine Ok.nm ?_
  have q0 : Fr pw σ (sI σ 27 27 0) := Fr.sI (Or.inr ⟨rfl, rfl⟩)
  have m0 : Mw (sI σ 27 27 0) 48 27 [] := ⟨by rw [sI_eq]; rfl, by decide, fun k hk => absurd hk (by simp)⟩
  have k46 : ∀ {τ : St}, Fr pw σ τ → Mw τ 46 23 f := fun h => h46.fr h (by decide) (fun j => by unfold pw; omega)
  refine rput (σ0 := σ) (x := 204) m0 q0 (by simp) (lo8_nn 204) (fun τ1 m1 q1 => ?_)
  refine rput (σ0 := σ) (x := 1) m1 q1 (by simp) (lo8_nn 1) (fun τ2 m2 q2 => ?_)
  refine rput (σ0 := σ) (x := 0) m2 q2 (by simp) (lo8_nn 0) (fun τ3 m3 q3 => ?_)
  refine m_b9L (f := f) (σ0 := σ) 6 fu 9 τ3 _ (by unfold fu; omega) rfl (k46 q3) (by omega) m3 (by simp) q3 (fun τ4 m4 q4 => ?_)
  unfold F_X7_begin_L49
  have hM4 : ML τ4 i L := hM.fr hB q4 (fun q j h1 h2 => by unfold pw at h2; unfold lpl at h1; omega)
  refine Ok.eq (m_ownId hM4 hi hid) ?_
  dsimp only
  have hdt : (f.drop 9).take 6 = be (six f 9) 6 := by
    rw [six_be hb]
    apply ext_getD
    · rw [List.length_take, List.length_drop]; simp; omega
    · intro k hk
      rw [List.length_take, List.length_drop] at hk
      have hk6 : k < 6 := by omega
      rw [nD_take, if_pos hk6, nD_drop]
      rcases (show k = 0 ∨ k = 1 ∨ k = 2 ∨ k = 3 ∨ k = 4 ∨ k = 5 by omega) with e | e | e | e | e | e <;> subst e <;> rfl
  rw [hdt] at m4
  refine rsix (σ0 := σ) (by omega) m4 q4 (by simp [be_len]) (fun τ5 m5 q5 => ?_)
  refine Ok.eq (m_at (k46 q5) (k := 15) (by omega)) ?_
  dsimp only
  refine rput (σ0 := σ) (x := f.getD 15 0) m5 q5 (by simp [be_len]) (by rw [lo8_nn]; have := hb 15; omega) (fun τ6 m6 q6 => ?_)
  refine rput (σ0 := σ) (x := kind) m6 q6 (by simp [be_len]) (by rw [lo8_nn]; omega) (fun τ7 m7 q7 => ?_)
  refine rput (σ0 := σ) (x := 0) m7 q7 (by simp [be_len]) (lo8_nn 0) (fun τ8 m8 q8 => ?_)
  refine Ok.eq (m_two (k46 q8) (k := 18) (by omega)) ?_
  dsimp only
  have ht := two_lt hb 18
  refine rtwo (σ0 := σ) (by omega) m8 q8 (by simp [be_len]) (fun τ9 m9 q9 => ?_)
  refine rput (σ0 := σ) (x := grp) m9 q9 (by simp [be_len]) (by rw [lo8_nn]; omega) (fun τ10 m10 q10 => ?_)
  refine rtwo (σ0 := σ) (by omega) m10 q10 (by simp [be_len]) (fun τ11 m11 q11 => ?_)
  refine rput (σ0 := σ) (x := 0) m11 q11 (by simp [be_len]) (lo8_nn 0) (fun τ12 m12 q12 => Ok.so ⟨?_, q12⟩)
  have hq : ∀ x, x = pz (six f 9) (L.1 0) (f.getD 15 0) kind (two f 18) grp mat → Mw τ12 48 27 x → Mw τ12 48 27 (pz (six f 9) (L.1 0) (f.getD 15 0) kind (two f 18) grp mat) := fun x hx hy => hx ▸ hy
  exact hq _ (by simp [pz]) m12
theorem Mw.set {σ : St} {a s k x : Nat} {l : List Nat} {v : Int32} (h : Mw σ a s l) (ha : a ≠ 27) (hv : lo8 v = x) : Mw (sI σ a k v) a s (l.set k x) := by
  refine ⟨by rw [sI_nk (by omega), List.length_set]; exact h.1, by rw [List.length_set]; exact h.2.1, fun j hj => ?_⟩
  rw [List.length_set] at hj
  rw [nD_set]
  by_cases e : j = k
  · subst e; rw [sI_eq, if_pos ⟨rfl, hj⟩]; exact hv
  · rw [sI_nj e, if_neg (fun h => e h.1)]; exact h.2.2 j hj
theorem m_sumL {σ : St} {l : List Nat} {K : St → Int32 → Option St} (h : Mw σ 48 27 l) : ∀ (m fz k a : Nat), m < fz → k + m = l.length → F_X7_finish_L43 K fz σ (nI a) (nI k) = K σ (nI (a + sg l k m)) := by
  have hl := h.2.1
  rw [show ln 48 = 300 from rfl] at hl
  intro m
  induction m with
  | zero =>
    intro fz k a hf hk
    cases fz with
    | zero => omega
    | succ fz =>
      unfold F_X7_finish_L43
      rw [h.1, if_pos (nI_le (by omega) (by omega))]
      rfl
  | succ m ih =>
    intro fz k a hf hk
    cases fz with
    | zero => omega
    | succ fz =>
      unfold F_X7_finish_L43
      rw [h.1, if_neg (nI_ge (by omega) (by omega)), gd_t (show ib (nI k) (ln 48) = true from ib_nI (show k < 300 by omega) (by decide)), nI_clamp (by omega), lo8_and, h.2.2 k (by omega), nI_add, nI_1, ih fz (k + 1) _ (by omega) (by omega)]
      show K σ (nI (a + l.getD k 0 + sg l (k + 1) m)) = K σ (nI (a + (l.getD k 0 + sg l (k + 1) m)))
      rw [Nat.add_assoc]
theorem m_finish {σ : St} {i to fr cnt kind part grp mat : Nat} {L : Lp} {d : List Nat} (hM : ML1 σ i L) (hi : i < 24) (hB : Bl L) (hp : ∀ k, k < L.2.2.2.length → 0 < (la L k).1 ∧ (la L k).1 < 2 ^ 31) (h48 : Mw σ 48 27 (pz to fr cnt kind part grp mat ++ d)) (hd : d.length ≤ 231) : Ok (F_X7_finish σ (nI i)) (fun τ => Mw τ 48 27 (pkt to fr cnt kind (L.1 8) part grp mat d) ∧ Fr pw σ τ) := by
  have hb := hB.2.1
  have hlen : (pz to fr cnt kind part grp mat ++ d).length = 24 + d.length := by rw [List.length_append, pz_len]
  unfold F_X7_finish
  refine Ok.eq (m_waiting hM hi hB hp) ?_
  refine Ok.gd (by decide) (Ok.nm (Ok.gd (by decide) (Ok.nm (Ok.gd (by decide) (Ok.nm ?_)))))
  dsimp only
  rw [show Int32.toNatClampNeg 17 = 17 from by decide, show Int32.toNatClampNeg 2 = 2 from by decide, show Int32.toNatClampNeg 23 = 23 from by decide]
  have m1 := h48.set (k := 17) (v := vp_nar .byte (Int8.toInt32 (Int32.toInt8 (nI (L.1 8))))) (x := L.1 8) (by decide) (by rw [lo8_byte, lo8_nn]; omega)
  rw [m1.1, List.length_set, hlen]
  have m2 := m1.set (k := 2) (v := vp_nar .byte (Int8.toInt32 (Int32.toInt8 (nI (24 + d.length))))) (x := 24 + d.length) (by decide) (by rw [lo8_byte, lo8_nn]; omega)
  rw [m2.1, List.length_set, List.length_set, hlen, show nI (24 + d.length) - 24 = nI d.length from by rw [show (24 : Int32) = nI 24 from rfl, pk_sub (by omega)]; congr 1; omega]
  have m3 := m2.set (k := 23) (v := vp_nar .byte (Int8.toInt32 (Int32.toInt8 (nI d.length)))) (x := d.length) (by decide) (by rw [lo8_byte, lo8_nn]; omega)
  generalize hw : sI (sI (sI σ 48 17 (vp_nar .byte (Int8.toInt32 (Int32.toInt8 (nI (L.1 8)))))) 48 2 (vp_nar .byte (Int8.toInt32 (Int32.toInt8 (nI (24 + d.length)))))) 48 23 (vp_nar .byte (Int8.toInt32 (Int32.toInt8 (nI d.length)))) = w at m3
  have q1 : Fr pw σ w := by rw [← hw]; exact ((Fr.sI (Or.inl rfl)).t (Fr.sI (Or.inl rfl))).t (Fr.sI (Or.inl rfl))
  have e : ((((pz to fr cnt kind part grp mat ++ d).set 17 (L.1 8)).set 2 (24 + d.length)).set 23 d.length) = pb to fr cnt kind (L.1 8) part grp mat d := rfl
  rw [e] at m3
  have hs := sg_le m3.by (24 + d.length) 0
  have hsum := m_sumL (K := F_X7_finish_L70) m3 (24 + d.length) fu 0 0 (by unfold fu; omega) (by rw [pb_len]; omega)
  rw [show (0 : Int32) = nI 0 from rfl, hsum, Nat.zero_add]
  unfold F_X7_finish_L70
  refine rtwo (σ0 := σ) (by omega) m3 q1 (by rw [pb_len]; omega) (fun τ m4 q4 => Ok.so ⟨m4, q4⟩)
