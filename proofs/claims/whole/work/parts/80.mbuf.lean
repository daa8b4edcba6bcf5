/-! ===== PURE: the model's buffers ===== -/
theorem lo8_nn (n : Nat) : lo8 (nI n) = n % 256 := by
  unfold lo8
  show (BitVec.ofNat 32 n).toNat % 256 = n % 256
  rw [BitVec.toNat_ofNat]
  omega
theorem lo8_sar (x : Int32) : lo8 (x >>> (8 &&& 31)) = x.toBitVec.toNat / 256 % 256 := by
  have h : (x >>> (8 &&& 31)).toBitVec = x.toBitVec.sshiftRight 8 := by
    rw [Int32.toBitVec_shiftRight, show ((8 &&& 31 : Int32).toBitVec.smod 32) = 8#32 from by decide, BitVec.sshiftRight_eq']
    rfl
  unfold lo8
  rw [h]
  have h2 : (x.toBitVec.sshiftRight 8).setWidth 8 = (x.toBitVec >>> 8).setWidth 8 := by
    apply BitVec.eq_of_getLsbD_eq
    intro i hi
    rw [BitVec.getLsbD_setWidth, BitVec.getLsbD_setWidth, BitVec.getLsbD_sshiftRight, BitVec.getLsbD_ushiftRight]
    simp [hi, show i < 32 by omega, show 8 + i < 32 by omega]
  have h3 := congrArg BitVec.toNat h2
  rw [BitVec.toNat_setWidth, BitVec.toNat_setWidth, BitVec.toNat_ushiftRight, Nat.shiftRight_eq_div_pow] at h3
  exact h3
theorem lo8_sarN {n : Nat} (h : n < 2 ^ 32) : lo8 (nI n >>> (8 &&& 31)) = n / 256 % 256 := by rw [lo8_sar, pk_tn h]
/-- a buffer of the model -/
def Mw (σ : St) (a s : Nat) (l : List Nat) : Prop := σ.1 27 s = nI l.length ∧ l.length ≤ ln a ∧ ∀ k, k < l.length → lo8 (σ.1 a k) = l.getD k 0
theorem Mw.by {σ : St} {a s : Nat} {l : List Nat} (h : Mw σ a s l) : By l := by
  intro k
  by_cases hk : k < l.length
  · rw [← h.2.2 k hk]; exact lo8_lt _
  · rw [nD_ge (by omega)]; decide
theorem Mw.fr {p : Nat → Nat → Prop} {σ τ : St} {a s : Nat} {l : List Nat} (h : Mw σ a s l) (he : Fr p σ τ) (h1 : ¬ p 27 s) (h2 : ∀ j, ¬ p a j) : Mw τ a s l :=
  ⟨by rw [he.i h1]; exact h.1, h.2.1, fun k hk => by rw [he.i (h2 k)]; exact h.2.2 k hk⟩
theorem m_at {σ : St} {f : List Nat} (h : Mw σ 46 23 f) {k : Nat} (hk : k < f.length) : F_X7_at σ (nI k) = some (σ, nI (f.getD k 0)) := by
  have hl := h.2.1
  rw [show ln 46 = 513 from rfl] at hl
  unfold F_X7_at
  rw [gd_t (show ib (nI k) (ln 46) = true from ib_nI (show k < 513 by omega) (by decide)), nI_clamp (by omega), lo8_and, h.2.2 k hk]
theorem m_two {σ : St} {f : List Nat} (h : Mw σ 46 23 f) {k : Nat} (hk : k + 1 < f.length) : F_X7_two σ (nI k) = some (σ, nI (two f k)) := by
  unfold F_X7_two
  rw [nI_1, bd_eq (m_at h (by omega))]
  dsimp only
  rw [bd_eq (m_at h (by omega))]
  dsimp only
  rw [show (256 : Int32) = nI 256 from rfl, pk_mul, nI_add]
  rfl
theorem m_sixL {σ : St} {f : List Nat} {K : St → Int64 → Option (St × Int64)} (h : Mw σ 46 23 f) {u : Nat} (hu : u + 5 < f.length) : ∀ (m fz k a : Nat), m < fz → k + m = 6 → F_X7_six_L5 K fz σ (nI u) (lN a) (nI k) = K σ (lN (bn a f (u + k) m)) := by
  have hl := h.2.1
  rw [show ln 46 = 513 from rfl] at hl
  intro m
  induction m with
  | zero =>
    intro fz k a hf hk
    cases fz with
    | zero => omega
    | succ fz =>
      unfold F_X7_six_L5
      rw [if_pos (show (6 : Int32) ≤ nI k from nI_le (a := 6) (by omega) (by omega))]
      rfl
  | succ m ih =>
    intro fz k a hf hk
    cases fz with
    | zero => omega
    | succ fz =>
      have hb := h.by (u + k)
      unfold F_X7_six_L5
      rw [if_neg (show ¬ (6 : Int32) ≤ nI k from nI_ge (b := 6) (by omega) (by omega)), nI_add, bd_eq (m_at h (by omega))]
      dsimp only
      rw [show (256 : Int64) = lN 256 from rfl, lN_mul, nI_l (by omega), lN_add, nI_1, ih fz (k + 1) _ (by omega) (by omega)]
      rfl
theorem m_six {σ : St} {f : List Nat} (h : Mw σ 46 23 f) {u : Nat} (hu : u + 5 < f.length) : F_X7_six σ (nI u) = some (σ, lN (six f u)) := by
  unfold F_X7_six
  exact m_sixL (K := F_X7_six_L34) h hu 6 fu 0 0 (by unfold fu; omega) rfl
/-! the writer of put -/
abbrev pw : Nat → Nat → Prop := fun q j => q = 48 ∨ (q = 27 ∧ j = 27)
theorem rpush {σ : St} {l : List Nat} (h : Mw σ 48 27 l) (hl : l.length < 300) (v : Int32) : Ok (F_X7_put σ v) (fun τ => Mw τ 48 27 (l ++ [lo8 v]) ∧ Fr pw σ τ) := by
  unfold F_X7_put
  rw [h.1]
  refine Ok.gd (show ib (nI l.length) (ln 48) = true from ib_nI (show l.length < 300 from hl) (by decide)) (Ok.nm (Ok.nm (Ok.so ?_)))
  rw [nI_clamp (by omega), sI_nk (by decide), h.1, nI_1]
  refine ⟨⟨by rw [sI_eq, List.length_append]; rfl, by rw [List.length_append]; exact hl, fun k hk => ?_⟩, (Fr.sI (Or.inl rfl)).t (Fr.sI (Or.inr ⟨rfl, rfl⟩))⟩
  rw [sI_nk (by decide)]
  rw [List.length_append, List.length_singleton] at hk
  by_cases hk2 : k = l.length
  · subst hk2
    rw [sI_eq, getD_app_eq, lo8_byte]
  · rw [sI_nj hk2, getD_app_lt (by omega)]
    exact h.2.2 k (by omega)
theorem rput {β : Type} {σ0 σ : St} {l : List Nat} {v : Int32} {x : Nat} {k : St → Option β} {P : β → Prop} (h : Mw σ 48 27 l) (he : Fr pw σ0 σ) (hl : l.length < 300) (hv : lo8 v = x) (hk : ∀ τ, Mw τ 48 27 (l ++ [x]) → Fr pw σ0 τ → Ok (k τ) P) : Ok ((F_X7_put σ v).bind k) P := by
  refine Ok.bi (rpush h hl v) (fun τ hτ => ?_)
  rw [hv] at hτ
  exact hk τ hτ.1 (he.t hτ.2)
theorem rsixL {K : St → Option St} {P : St → Prop} {x : Nat} (hx : x < 2 ^ 63) {σ0 : St} : ∀ (c fz : Nat) (σ : St) (l : List Nat), c < fz → c ≤ 6 → Mw σ 48 27 l → l.length + c ≤ 300 → Fr pw σ0 σ → (∀ τ, Mw τ 48 27 (l ++ be x c) → Fr pw σ0 τ → Ok (K τ) P) → Ok (F_X7_putId_L3 K fz σ (lN x) (nI (8 * c) - 8)) P := by
  intro c
  induction c with
  | zero =>
    intro fz σ l hf hc h hl he hK
    cases fz with
    | zero => omega
    | succ fz =>
      unfold F_X7_putId_L3
      refine Ok.tt (by decide) ?_
      exact hK σ (by rw [show be x 0 = [] from rfl, List.append_nil]; exact h) he
  | succ c ih =>
    intro fz σ l hf hc h hl he hK
    cases fz with
    | zero => omega
    | succ fz =>
      unfold F_X7_putId_L3
      rw [show nI (8 * (c + 1)) - 8 = nI (8 * c) from pk_sub (a := 8 * (c + 1)) (b := 8) (by omega)]
      refine Ok.ff (nI_pos (by omega)) ?_
      rw [wb_sar hx (by omega), p256, lN_i]
      refine rput (σ0 := σ0) h he (by omega) (lo8_nn _) (fun τ e1 q1 => ?_)
      rw [← Int32.sub_eq_add_neg]
      refine ih fz τ _ (by omega) (by omega) e1 (by simp; omega) q1 (fun τ3 g1 g2 => hK τ3 ?_ g2)
      rw [List.append_assoc] at g1
      exact g1
theorem rsix {β : Type} {σ0 σ : St} {l : List Nat} {x : Nat} {k : St → Option β} {P : β → Prop} (hx : x < 2 ^ 63) (h : Mw σ 48 27 l) (he : Fr pw σ0 σ) (hl : l.length + 6 ≤ 300) (hk : ∀ τ, Mw τ 48 27 (l ++ be x 6) → Fr pw σ0 τ → Ok (k τ) P) : Ok ((F_X7_putId σ (lN x)).bind k) P := by
  refine Ok.bi (Q := fun τ => Mw τ 48 27 (l ++ be x 6) ∧ Fr pw σ0 τ) ?_ (fun τ hτ => hk τ hτ.1 hτ.2)
  unfold F_X7_putId
  exact rsixL hx (σ0 := σ0) 6 fu σ l (by unfold fu; omega) (by omega) h hl he (fun τ g1 g2 => Ok.so ⟨g1, g2⟩)
/-! the writer of write -/
abbrev pv : Nat → Nat → Prop := fun q j => q = 46 ∨ (q = 27 ∧ j = 23)
theorem vpush {σ : St} {l : List Nat} (h : Mw σ 46 23 l) (hl : l.length < 513) (v : Int32) : Ok (F_X7_write σ v) (fun τ => Mw τ 46 23 (l ++ [lo8 v]) ∧ Fr pv σ τ) := by
  unfold F_X7_write
  rw [h.1]
  refine Ok.gd (show ib (nI l.length) (ln 46) = true from ib_nI (show l.length < 513 from hl) (by decide)) (Ok.nm (Ok.nm (Ok.so ?_)))
  rw [nI_clamp (by omega), sI_nk (by decide), h.1, nI_1]
  refine ⟨⟨by rw [sI_eq, List.length_append]; rfl, by rw [List.length_append]; exact hl, fun k hk => ?_⟩, (Fr.sI (Or.inl rfl)).t (Fr.sI (Or.inr ⟨rfl, rfl⟩))⟩
  rw [sI_nk (by decide)]
  rw [List.length_append, List.length_singleton] at hk
  by_cases hk2 : k = l.length
  · subst hk2
    rw [sI_eq, getD_app_eq, lo8_byte]
  · rw [sI_nj hk2, getD_app_lt (by omega)]
    exact h.2.2 k (by omega)
theorem vput {β : Type} {σ0 σ : St} {l : List Nat} {v : Int32} {x : Nat} {k : St → Option β} {P : β → Prop} (h : Mw σ 46 23 l) (he : Fr pv σ0 σ) (hl : l.length < 513) (hv : lo8 v = x) (hk : ∀ τ, Mw τ 46 23 (l ++ [x]) → Fr pv σ0 τ → Ok (k τ) P) : Ok ((F_X7_write σ v).bind k) P := by
  refine Ok.bi (vpush h hl v) (fun τ hτ => ?_)
  rw [hv] at hτ
  exact hk τ hτ.1 (he.t hτ.2)
theorem vsixL {K : St → Option St} {P : St → Prop} {x : Nat} (hx : x < 2 ^ 63) {σ0 : St} : ∀ (c fz : Nat) (σ : St) (l : List Nat), c < fz → c ≤ 6 → Mw σ 46 23 l → l.length + c ≤ 513 → Fr pv σ0 σ → (∀ τ, Mw τ 46 23 (l ++ be x c) → Fr pv σ0 τ → Ok (K τ) P) → Ok (F_X7_writeSix_L3 K fz σ (lN x) (nI (8 * c) - 8)) P := by
  intro c
  induction c with
  | zero =>
    intro fz σ l hf hc h hl he hK
    cases fz with
    | zero => omega
    | succ fz =>
      unfold F_X7_writeSix_L3
      refine Ok.tt (by decide) ?_
      exact hK σ (by rw [show be x 0 = [] from rfl, List.append_nil]; exact h) he
  | succ c ih =>
    intro fz σ l hf hc h hl he hK
    cases fz with
    | zero => omega
    | succ fz =>
      unfold F_X7_writeSix_L3
      rw [show nI (8 * (c + 1)) - 8 = nI (8 * c) from pk_sub (a := 8 * (c + 1)) (b := 8) (by omega)]
      refine Ok.ff (nI_pos (by omega)) ?_
      rw [wb_sar hx (by omega), p256, lN_i]
      refine vput (σ0 := σ0) h he (by omega) (lo8_nn _) (fun τ e1 q1 => ?_)
      rw [← Int32.sub_eq_add_neg]
      refine ih fz τ _ (by omega) (by omega) e1 (by simp; omega) q1 (fun τ3 g1 g2 => hK τ3 ?_ g2)
      rw [List.append_assoc] at g1
      exact g1
theorem vsix {β : Type} {σ0 σ : St} {l : List Nat} {x : Nat} {k : St → Option β} {P : β → Prop} (hx : x < 2 ^ 63) (h : Mw σ 46 23 l) (he : Fr pv σ0 σ) (hl : l.length + 6 ≤ 513) (hk : ∀ τ, Mw τ 46 23 (l ++ be x 6) → Fr pv σ0 τ → Ok (k τ) P) : Ok ((F_X7_writeSix σ (lN x)).bind k) P := by
  refine Ok.bi (Q := fun τ => Mw τ 46 23 (l ++ be x 6) ∧ Fr pv σ0 τ) ?_ (fun τ hτ => hk τ hτ.1 hτ.2)
  unfold F_X7_writeSix
  exact vsixL hx (σ0 := σ0) 6 fu σ l (by unfold fu; omega) (by omega) h hl he (fun τ g1 g2 => Ok.so ⟨g1, g2⟩)
theorem rtwo {β : Type} {σ0 σ : St} {l : List Nat} {x : Nat} {k : St → Option β} {P : β → Prop} (hx : x < 2 ^ 32) (h : Mw σ 48 27 l) (he : Fr pw σ0 σ) (hl : l.length + 2 ≤ 300) (hk : ∀ τ, Mw τ 48 27 (l ++ be x 2) → Fr pw σ0 τ → Ok (k τ) P) : Ok ((F_X7_putTwo σ (nI x)).bind k) P := by
  refine Ok.bi (Q := fun τ => Mw τ 48 27 (l ++ be x 2) ∧ Fr pw σ0 τ) ?_ (fun τ hτ => hk τ hτ.1 hτ.2)
  unfold F_X7_putTwo
  refine rput (σ0 := σ0) h he (by omega) (lo8_sarN hx) (fun τ e1 q1 => ?_)
  refine rput (σ0 := σ0) e1 q1 (by simp; omega) (lo8_nn _) (fun τ2 e2 q2 => Ok.so ⟨?_, q2⟩)
  rw [be2]
  rw [List.append_assoc] at e2
  exact e2
