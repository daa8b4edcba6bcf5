/-! ===== PURE: the model's echo, what falls together, packets, levels ===== -/
def es (id : Nat) : Nat → Nat
  | 0 => 0
  | c + 1 => (id / 256 ^ c % 256 ||| 170) + (id / 256 ^ c % 256 ||| 85) + es id c
theorem es_sg (id : Nat) : sg (eh id) 8 12 = es id 6 := by
  simp only [sg, es, eh, ep, List.cons_append, List.nil_append, List.getD_cons_succ, List.getD_cons_zero]
  omega
theorem m_e7L {σ0 : St} {K : St → Int64 → Option St} {P : St → Prop} {u : Int64} : ∀ (m fz k : Nat) (σ : St) (l : List Nat), m < fz → k + m = 7 → Mw σ 48 27 l → l.length + m ≤ 200 → Fr pw σ0 σ → (∀ τ, Mw τ 48 27 (l ++ List.replicate m 254) → Fr pw σ0 τ → Ok (K τ u) P) → Ok (F_X7_show_L7 K fz σ u (nI k)) P := by
  intro m
  induction m with
  | zero =>
    intro fz k σ l hf hk h hl he hK
    cases fz with
    | zero => omega
    | succ fz =>
      unfold F_X7_show_L7
      refine Ok.tt (show (7 : Int32) ≤ nI k from nI_le (a := 7) (by omega) (by omega)) ?_
      exact hK σ (by simpa using h) he
  | succ m ih =>
    intro fz k σ l hf hk h hl he hK
    cases fz with
    | zero => omega
    | succ fz =>
      unfold F_X7_show_L7
      refine Ok.ff (show ¬ (7 : Int32) ≤ nI k from nI_ge (b := 7) (by omega) (by omega)) ?_
      refine rput (σ0 := σ0) (x := 254) h he (by omega) (lo8_nn 254) (fun τ e1 e2 => ?_)
      rw [nI_1]
      refine ih fz (k + 1) τ (l ++ [254]) (by omega) (by omega) e1 (by simp; omega) e2 (fun τ2 g1 g2 => hK τ2 ?_ g2)
      rw [List.append_assoc] at g1
      exact g1
theorem m_epL {id : Nat} {K : St → Int32 → Option St} {P : St → Prop} (hid : id < 2 ^ 63) {σ0 : St} : ∀ (c fz a : Nat) (σ : St) (l : List Nat), c < fz → c ≤ 6 → Mw σ 48 27 l → l.length + 2 * c ≤ 200 → Fr pw σ0 σ → (∀ τ, Mw τ 48 27 (l ++ ep id c) → Fr pw σ0 τ → Ok (K τ (nI (a + es id c))) P) → Ok (F_X7_show_L39 K fz σ (lN id) (nI a) (nI (8 * c) - 8)) P := by
  intro c
  induction c with
  | zero =>
    intro fz a σ l hf hc h hl he hK
    cases fz with
    | zero => omega
    | succ fz =>
      unfold F_X7_show_L39
      refine Ok.tt (by decide) ?_
      exact hK σ (by rw [show ep id 0 = [] from rfl, List.append_nil]; exact h) he
  | succ c ih =>
    intro fz a σ l hf hc h hl he hK
    cases fz with
    | zero => omega
    | succ fz =>
      unfold F_X7_show_L39
      rw [show nI (8 * (c + 1)) - 8 = nI (8 * c) from pk_sub (a := 8 * (c + 1)) (b := 8) (by omega)]
      refine Ok.ff (nI_pos (by omega)) ?_
      have hb : id / 256 ^ c % 256 < 256 := Nat.mod_lt _ (by decide)
      have h1 := or170 hb
      have h2 := or85 hb
      rw [wb_sar hid (by omega), p256, lN_i, and255, show nI (id / 256 ^ c % 256) ||| 170 = nI (id / 256 ^ c % 256 ||| 170) from nI_or _ 170, show nI (id / 256 ^ c % 256) ||| 85 = nI (id / 256 ^ c % 256 ||| 85) from nI_or _ 85, nI_add, nI_add]
      refine rput (σ0 := σ0) (x := id / 256 ^ c % 256 ||| 170) h he (by omega) (by rw [lo8_nn]; omega) (fun τ1 e1 q1 => ?_)
      refine rput (σ0 := σ0) (x := id / 256 ^ c % 256 ||| 85) e1 q1 (by rw [List.length_append, List.length_singleton]; omega) (by rw [lo8_nn]; omega) (fun τ2 e2 q2 => ?_)
      rw [← Int32.sub_eq_add_neg]
      refine ih fz _ τ2 _ (by omega) (by omega) e2 (by simp; omega) q2 (fun τ3 g1 g2 => ?_)
      rw [List.append_assoc, List.append_assoc] at g1
      have := hK τ3 g1 g2
      rw [show a + es id (c + 1) = a + (id / 256 ^ c % 256 ||| 170) + (id / 256 ^ c % 256 ||| 85) + es id c from by show a + ((id / 256 ^ c % 256 ||| 170) + (id / 256 ^ c % 256 ||| 85) + es id c) = _; omega] at this
      exact this
theorem m_show {σ : St} {id : Nat} (hid : id < 2 ^ 48) : Ok (F_X7_show σ (lN id)) (fun τ => Mw τ 48 27 (ech id) ∧ Fr pw σ τ) := by
  unfold F_X7_show
  refine Ok.nm ?_
  have q0 : Fr pw σ (sI σ 27 27 0) := Fr.sI (Or.inr ⟨rfl, rfl⟩)
  have m0 : Mw (sI σ 27 27 0) 48 27 [] := ⟨by rw [sI_eq]; rfl, by decide, fun k hk => absurd hk (by simp)⟩
  refine m_e7L (σ0 := σ) 7 fu 0 _ [] (by unfold fu; omega) rfl m0 (by simp) q0 (fun τ1 m1 q1 => ?_)
  unfold F_X7_show_L26
  refine rput (σ0 := σ) (x := 170) m1 q1 (by simp) (lo8_nn 170) (fun τ2 m2 q2 => ?_)
  refine m_epL (id := id) (by omega) (σ0 := σ) 6 fu 0 τ2 _ (by unfold fu; omega) (by omega) m2 (by simp) q2 (fun τ3 m3 q3 => ?_)
  have hq : ∀ x, x = eh id → Mw τ3 48 27 x → Mw τ3 48 27 (eh id) := fun x hx hy => hx ▸ hy
  have m4 := hq _ (by simp [eh, List.replicate]) m3
  have hsl := sg_le m4.by 12 8
  rw [Nat.zero_add, ← es_sg]
  unfold F_X7_show_L95
  generalize hs : sg (eh id) 8 12 = s at *
  rw [pk_shrN (by omega) (8 &&& 31) 8 (by decide), and255, and255, show s / 2 ^ 8 % 256 = s / 256 by omega]
  have e1 : ∀ x k : Nat, x < 256 → k < 256 → lo8 (nI x ||| nI k) = x ||| k := by
    intro x k hx hk
    have := or_lt256 hx hk
    rw [nI_or, lo8_nn]; omega
  refine rput (σ0 := σ) (x := s / 256 ||| 170) m4 q3 (by simp [eh_len]) (e1 _ 170 (by omega) (by decide)) (fun τ5 m5 q5 => ?_)
  refine rput (σ0 := σ) (x := s / 256 ||| 85) m5 q5 (by simp [eh_len]) (e1 _ 85 (by omega) (by decide)) (fun τ6 m6 q6 => ?_)
  refine rput (σ0 := σ) (x := s % 256 ||| 170) m6 q6 (by simp [eh_len]) (e1 _ 170 (by omega) (by decide)) (fun τ7 m7 q7 => ?_)
  refine rput (σ0 := σ) (x := s % 256 ||| 85) m7 q7 (by simp [eh_len]) (e1 _ 85 (by omega) (by decide)) (fun τ8 m8 q8 => Ok.so ⟨?_, q8⟩)
  have hq2 : ∀ x, x = ech id → Mw τ8 48 27 x → Mw τ8 48 27 (ech id) := fun x hx hy => hx ▸ hy
  exact hq2 _ (by simp [ech, hs]) m8
/-- the places of the answer -/
abbrev pan : Nat → Nat → Prop := fun q j => q = 47 ∨ (q = 27 ∧ j = 25)
theorem m_fallL {K : St → Option St} {P : St → Prop} {a r : List Nat} {σ0 : St} (ha : a.length ≤ 300) (hr : r.length ≤ 300) (hK : ∀ τ, (∀ j, j < max a.length r.length → lo8 (τ.1 47 j) = (jn a r).getD j 0) → Fr (fun q _ => q = 47) σ0 τ → Ok (K τ) P) : ∀ (m fz k : Nat) (σ : St), m < fz → k + m = r.length → Mw σ 48 27 r → σ.1 27 25 = nI a.length → (∀ j, j < max a.length k → lo8 (σ.1 47 j) = (jn a (r.take k)).getD j 0) → Fr (fun q _ => q = 47) σ0 σ → Ok (F_X7_fall_L2 K fz σ (nI k)) P := by
  intro m
  induction m with
  | zero =>
    intro fz k σ hf hk h48 h25 hc he
    cases fz with
    | zero => omega
    | succ fz =>
      unfold F_X7_fall_L2
      refine Ok.tt (by rw [h48.1]; exact nI_le (by omega) (by omega)) ?_
      rw [List.take_of_length_le (by omega), show k = r.length by omega] at hc
      exact hK σ hc he
  | succ m ih =>
    intro fz k σ hf hk h48 h25 hc he
    cases fz with
    | zero => omega
    | succ fz =>
      have hat : ∀ j, (jn a (r.take (k + 1))).getD j 0 = if j = k then a.getD j 0 ||| r.getD j 0 else (jn a (r.take k)).getD j 0 := by
        intro j
        rw [jn_at, jn_at, nD_take, nD_take]
        by_cases hj : j = k
        · rw [if_pos hj, if_pos (by omega)]
        · rw [if_neg hj]
          by_cases hj2 : j < k
          · rw [if_pos hj2, if_pos (by omega)]
          · rw [if_neg hj2, if_neg (by omega)]
      have step : ∀ ρ : St, Fr (fun q j => q = 47 ∧ j = k) σ ρ → lo8 (ρ.1 47 k) = a.getD k 0 → Ok (F_X7_fall_L25 (F_X7_fall_L2 K fz) K ρ (nI k)) P := by
        intro ρ g1 g2
        have h48' : Mw ρ 48 27 r := h48.fr g1 (by omega) (fun j => by omega)
        unfold F_X7_fall_L25
        refine Ok.gd (show ib (nI k) (ln 47) = true from ib_nI (show k < 300 by omega) (by decide)) (Ok.gd (show ib (nI k) (ln 48) = true from ib_nI (show k < 300 by omega) (by decide)) (Ok.gd (show ib (nI k) (ln 47) = true from ib_nI (show k < 300 by omega) (by decide)) (Ok.nm ?_)))
        rw [nI_clamp (by omega), nI_1]
        refine ih fz (k + 1) _ (by omega) (by omega) (h48'.fr (p := fun q _ => q = 47) (Fr.sI rfl) (by omega) (fun j => by omega)) (by rw [sI_nk (by decide), g1.i (by omega)]; exact h25) (fun j hj => ?_) ((he.t (g1.mo (fun a b h => h.1))).t (Fr.sI rfl))
        rw [hat]
        by_cases e : j = k
        · subst e
          rw [sI_eq, if_pos rfl, lo8_byte, lo8_or, g2, h48'.2.2 j (by omega)]
        · rw [sI_nj e, if_neg e, g1.i (by omega)]
          exact hc j (by omega)
      unfold F_X7_fall_L2
      refine Ok.ff (by rw [h48.1]; exact nI_ge (by omega) (by omega)) ?_
      rw [h25]
      by_cases hka : k < a.length
      · refine Ok.tt (nI_lt hka (by omega)) ?_
        refine step σ Fr.rf ?_
        have := hc k (by omega)
        rw [jn_at, nD_take, if_neg (by omega), Nat.or_zero] at this
        exact this
      · refine Ok.ff (nI_nlt (by omega) (by omega)) ?_
        refine Ok.gd (show ib (nI k) (ln 47) = true from ib_nI (show k < 300 by omega) (by decide)) (Ok.nm ?_)
        rw [nI_clamp (by omega)]
        refine step _ (Fr.sI ⟨rfl, rfl⟩) ?_
        rw [sI_eq, lo8_nar, nD_ge (by omega)]
        decide
theorem m_fall {σ : St} {a r : List Nat} (h47 : Mw σ 47 25 a) (h48 : Mw σ 48 27 r) : Ok (F_X7_fall σ) (fun τ => Mw τ 47 25 (jn a r) ∧ Fr pan σ τ) := by
  have ha := h47.2.1
  have hr := h48.2.1
  rw [show ln 47 = 300 from rfl] at ha
  rw [show ln 48 = 300 from rfl] at hr
  unfold F_X7_fall
  refine m_fallL (a := a) (r := r) (σ0 := σ) ha hr (fun τ hc he => ?_) r.length fu 0 σ (by unfold fu; omega) (by omega) h48 h47.1 (fun j hj => ?_) Fr.rf
  · unfold F_X7_fall_L51 F_X7_fall_L74
    rw [he.i (by decide), he.i (by decide), h47.1, h48.1]
    have fin : ∀ x : Nat, x = max a.length r.length → Ok (nm (sI τ 27 25 (nI x)) (fun w => some w)) (fun τ => Mw τ 47 25 (jn a r) ∧ Fr pan σ τ) := by
      intro x hx
      refine Ok.nm (Ok.so ⟨⟨by rw [sI_eq, jn_len, hx], by rw [jn_len, show ln 47 = 300 from rfl]; omega, fun k hk => ?_⟩, (he.mo (fun a b h => Or.inl h)).t (Fr.sI (Or.inr ⟨rfl, rfl⟩))⟩)
      rw [jn_len] at hk
      rw [sI_nk (by decide)]
      exact hc k hk
    by_cases hle : r.length ≤ a.length
    · refine Ok.tt (nI_le hle (by omega)) (fin _ (by omega))
    · refine Ok.ff (nI_ge (by omega) (by omega)) (fin _ (by omega))
  · rw [List.take_zero, jn_nil]
    exact h47.2.2 j (by omega)
theorem m_pkL {σ : St} {f : List Nat} {K : St → Int32 → Option (St × Int32)} (h : Mw σ 46 23 f) (hl : f.length = f.getD 2 0 + 2) (h2 : 2 < f.length) : ∀ (m fz k a : Nat), m < fz → k + m = f.getD 2 0 → F_X7_isPacket_L76 K fz σ (nI a) (nI k) = K σ (nI (a + sg f k m)) := by
  have hb := h.by
  have b2 := hb 2
  intro m
  induction m with
  | zero =>
    intro fz k a hf hk
    cases fz with
    | zero => omega
    | succ fz =>
      unfold F_X7_isPacket_L76
      rw [show (2 : Int32) = nI 2 from rfl, bd_eq (m_at h h2)]
      dsimp only
      rw [if_pos (nI_le (by omega) (by omega))]
      rfl
  | succ m ih =>
    intro fz k a hf hk
    cases fz with
    | zero => omega
    | succ fz =>
      have hbk := hb k
      unfold F_X7_isPacket_L76
      rw [show (2 : Int32) = nI 2 from rfl, bd_eq (m_at h (by omega))]
      dsimp only
      rw [if_neg (nI_ge (by omega) (by omega)), bd_eq (m_at h (by omega))]
      dsimp only
      rw [nI_add, nI_1, ih fz (k + 1) _ (by omega) (by omega)]
      show K σ (nI (a + f.getD k 0 + sg f (k + 1) m)) = K σ (nI (a + (f.getD k 0 + sg f (k + 1) m)))
      rw [Nat.add_assoc]
theorem m_isPacket {σ : St} {f : List Nat} (h : Mw σ 46 23 f) : F_X7_isPacket σ = some (σ, if pkOk f then 1 else 0) := by
  have hl := h.2.1
  rw [show ln 46 = 513 from rfl] at hl
  have hb := h.by
  have b0 := hb 0
  have b1 := hb 1
  have b2 := hb 2
  have b23 := hb 23
  unfold F_X7_isPacket
  rw [h.1]
  by_cases h26 : f.length < 26
  · rw [if_pos (show nI f.length < 26 from nI_lt (b := 26) h26 (by decide)), if_neg (fun h9 => by have := h9.1; have := h9.2.1; omega)]
  rw [if_neg (show ¬ nI f.length < 26 from nI_nlt (b := 26) (by omega) (by omega)), show (0 : Int32) = nI 0 from rfl, bd_eq (m_at h (by omega))]
  dsimp only
  by_cases e0 : f.getD 0 0 = 204
  · rw [if_pos (show nI (f.getD 0 0) = 204 by rw [e0]; rfl), show (1 : Int32) = nI 1 from rfl, bd_eq (m_at h (by omega))]
    dsimp only
    by_cases e1 : f.getD 1 0 = 1
    · rw [if_pos (show nI (f.getD 1 0) = nI 1 by rw [e1]), show (2 : Int32) = nI 2 from rfl, bd_eq (m_at h (by omega))]
      dsimp only
      by_cases e2 : f.getD 2 0 < 24
      · rw [if_pos (show nI (f.getD 2 0) < 24 from nI_lt (b := 24) e2 (by decide)), if_neg (fun h9 => by have := h9.1; omega)]
      · rw [if_neg (show ¬ nI (f.getD 2 0) < 24 from nI_nlt (b := 24) (by omega) (by omega)), bd_eq (m_at h (by omega))]
        dsimp only
        rw [h.1, nI_add]
        by_cases e3 : f.length = f.getD 2 0 + 2
        · rw [if_pos (show nI f.length = nI (f.getD 2 0 + 2) from congrArg nI e3), show (23 : Int32) = nI 23 from rfl, bd_eq (m_at h (by omega))]
          dsimp only
          rw [bd_eq (m_at h (by omega))]
          dsimp only
          rw [show (24 : Int32) = nI 24 from rfl, pk_sub (by omega)]
          by_cases e4 : f.getD 23 0 = f.getD 2 0 - 24
          · rw [if_pos (show nI (f.getD 23 0) = nI (f.getD 2 0 - 24) from congrArg nI e4), m_pkL h e3 (by omega) (f.getD 2 0) fu 0 0 (by unfold fu; omega) (by omega), Nat.zero_add]
            unfold F_X7_isPacket_L99
            have hs := sg_le hb (f.getD 2 0) 0
            have ht := two_lt hb (f.getD 2 0)
            rw [show (2 : Int32) = nI 2 from rfl, bd_eq (m_at h (by omega))]
            dsimp only
            rw [bd_eq (m_two h (by omega))]
            dsimp only
            rw [show (65536 : Int32) = nI 65536 from rfl, pk_rem (by omega) (by decide) (by decide), Nat.mod_eq_of_lt (by omega)]
            by_cases e5 : sg f 0 (f.getD 2 0) = two f (f.getD 2 0)
            · rw [if_pos (congrArg nI e5), if_pos ⟨by omega, e3, e0, e1, e4, e5⟩]; rfl
            · rw [if_neg (fun h9 => e5 ((nI_eq (by omega) (by omega)).mp h9)), if_neg (fun h9 => e5 h9.2.2.2.2.2)]; rfl
          · rw [if_neg (fun h9 => e4 ((nI_eq (by omega) (by omega)).mp h9)), if_neg (fun h9 => e4 h9.2.2.2.2.1)]
        · rw [if_neg (fun h9 => e3 ((nI_eq (by omega) (by omega)).mp h9)), if_neg (fun h9 => e3 h9.2.1)]
    · rw [if_neg (fun h9 => e1 ((nI_eq (by omega) (by omega)).mp h9)), if_neg (fun h9 => e1 h9.2.2.2.1)]
  · rw [if_neg (show ¬ nI (f.getD 0 0) = 204 from fun h9 => e0 ((nI_eq (b := 204) (by omega) (by omega)).mp h9)), if_neg (fun h9 => e0 h9.2.2.1)]
