/-! ===== PURE: levels, refusals, class's side ===== -/
theorem CL.lev {σ : St} {i : Nat} {L : Lp} (h : CL σ (qq i) L) {k v : Nat} : CL (sI σ (qq i + 1) k (nI v)) (qq i) (slev L (fun j => if j = k then v else L.2.2.1 j)) := by
  obtain ⟨h1, h2, h3, h4, h5, h6⟩ := h
  refine ⟨h1, fun j hj => ?_, ?_, fun j hj => ?_, ?_, fun p3 hp3 => ?_⟩
  · rw [sI_nk (by omega)]; exact h2 j hj
  · rw [sI_nk (by omega)]; exact h3
  · show _ = nI (if j = k then v else L.2.2.1 j)
    by_cases e : j = k
    · subst e; rw [sI_eq, if_pos rfl]
    · rw [sI_nj e, if_neg e]; exact h4 j hj
  · exact h5.keep (L := [qq i + 1]) (Eqx.sI (by simp)) (by simp) (by simp <;> omega)
  · obtain ⟨t, a1, a2⟩ := h6 p3 hp3
    refine ⟨t, a1.keep (L := [qq i + 1]) (Eqx.sI (by simp)) (by simp <;> omega) (by simp <;> omega), ?_⟩
    rw [sI_nk (by omega)]
    exact a2
theorem Fr.t {p : Nat → Nat → Prop} {σ τ ρ : St} (h1 : Fr p σ τ) (h2 : Fr p τ ρ) : Fr p σ ρ := h1.tr h2 (fun _ _ h => h) (fun _ _ h => h)
theorem f_shineL {i : Nat} {K : St → Option St} {P : St → Prop} {f : List Nat} {L : Lp} {σ0 : St} {s : Nat} (hs : s ≤ 512) (ha : L.1 10 ≤ 600) (hK : ∀ τ, CL τ (qq i) (slev L (fun j => if j < s then f.getD (L.1 10 + j) 0 else L.2.2.1 j)) → Fr (pq (qq i)) σ0 τ → Ok (K τ) P) : ∀ (m fz k : Nat) (σ : St), m < fz → k + m = s → Rw σ 3 f → CL σ (qq i) (slev L (fun j => if j < k then f.getD (L.1 10 + j) 0 else L.2.2.1 j)) → Fr (pq (qq i)) σ0 σ → Ok (F_X1_shine_L36 (qq i) 3 K fz σ (nI s) (nI k)) P := by
  intro m
  induction m with
  | zero =>
    intro fz k σ hf hk hr hc he
    cases fz with
    | zero => omega
    | succ fz =>
      unfold F_X1_shine_L36
      refine Ok.tt ((nI_leI (by omega) (by omega)).mpr (by omega)) ?_
      rw [show k = s by omega] at hc
      exact hK σ hc he
  | succ m ih =>
    intro fz k σ hf hk hr hc he
    cases fz with
    | zero => omega
    | succ fz =>
      unfold F_X1_shine_L36
      refine Ok.ff (fun h9 => by rw [nI_leI (by omega) (by omega)] at h9; omega) ?_
      refine Ok.ff (fun h9 => by rw [lit, nI_leI (by omega) (by omega)] at h9; omega) ?_
      have h10 : σ.1 (qq i) 10 = nI (L.1 10) := hc.2.1 10 (by simp)
      rw [h10, nI_add, nI_1, nI_clamp (by omega)]
      refine Ok.eq (f_at hr (by omega)) ?_
      refine Ok.gd (by rw [ln_q1]; exact ib_nI (by omega) (by omega)) (Ok.nm ?_)
      have hc2 := hc.lev (k := k) (v := f.getD (L.1 10 + k) 0)
      have e : (fun j => if j < k + 1 then f.getD (L.1 10 + j) 0 else L.2.2.1 j) = (fun j => if j = k then f.getD (L.1 10 + k) 0 else if j < k then f.getD (L.1 10 + j) 0 else L.2.2.1 j) := by
        funext j
        by_cases h1 : j = k
        · subst h1; rw [if_pos rfl, if_pos (by omega)]
        · rw [if_neg h1]
          by_cases h2 : j < k
          · rw [if_pos h2, if_pos (by omega)]
          · rw [if_neg h2, if_neg (by omega)]
      have hfr : Fr (pq (qq i)) σ (sI σ (qq i + 1) k (nI (f.getD (L.1 10 + k) 0))) := Fr.sI ⟨by omega, by omega⟩
      exact ih fz (k + 1) _ (by omega) (by omega) (hr.fr hfr (fun j h => by unfold qq at h; omega) (fun j h => by unfold qq at h; omega)) (by rw [e]; exact hc2) (he.t hfr)
theorem f_shine {σ : St} {i now o x : Nat} {L : Lp} {f : List Nat} (hC : CL σ (qq i) L) (hW : Wl o now x L) (hr : Rw σ 3 f) : Ok (F_X1_shine (qq i) 3 σ (nI now)) (fun τ => CL τ (qq i) (shi f now L) ∧ Fr (pq (qq i)) σ τ) := by
  have hl := hr.2.1
  rw [show ln (3 + 1) = 513 from rfl] at hl
  obtain ⟨-, w2, w3, w4, -⟩ := hW
  have hw : L.1 1 * L.1 9 ≤ 512 := by omega
  have hw1 : 1 ≤ L.1 1 * L.1 9 := Nat.mul_pos (by omega) (by omega)
  have key : ∀ (L' : Lp) (σ' : St), L'.1 10 = L.1 10 → L'.1 1 = L.1 1 → L'.1 9 = L.1 9 → L'.2 = L.2 → CL σ' (qq i) L' → Rw σ' 3 f → Fr (pq (qq i)) σ σ' → (L' = if L.1 10 < f.length then su L 14 now else L) → Ok (F_X1_shine_L16 (qq i) 3 σ') (fun τ => CL τ (qq i) (shi f now L) ∧ Fr (pq (qq i)) σ τ) := by
    intro L' σ' g10 g1 g9 g2 hc hr' hfr hL'
    have h10 : σ'.1 (qq i) 10 = nI (L.1 10) := by rw [← g10]; exact hc.2.1 10 (by simp)
    have h1 : σ'.1 (qq i) 1 = nI (L.1 1) := by rw [← g1]; exact hc.2.1 1 (by simp)
    have h9 : σ'.1 (qq i) 9 = nI (L.1 9) := by rw [← g9]; exact hc.2.1 9 (by simp)
    have fin : ∀ s, (∀ j, j < s ↔ j < L.1 1 * L.1 9 ∧ L.1 10 + j < f.length) → s ≤ 512 → Ok (F_X1_shine_L36 (qq i) 3 (F_X1_shine_L74 (qq i) 3) fu σ' (nI s) (nI 0)) (fun τ => CL τ (qq i) (shi f now L) ∧ Fr (pq (qq i)) σ τ) := by
      intro s hs hs2
      refine f_shineL (L := L') (σ0 := σ) hs2 (by rw [g10]; omega) (fun τ hc' hf' => Ok.so ⟨?_, hf'⟩) s fu 0 σ' (by unfold fu; omega) (by omega) hr' ?_ hfr
      · have e : slev L' (fun j => if j < 0 then f.getD (L'.1 10 + j) 0 else L'.2.2.1 j) = L' := rfl
        rw [e]; exact hc
      · have e : shi f now L = slev L' (fun j => if j < s then f.getD (L'.1 10 + j) 0 else L'.2.2.1 j) := by
          unfold shi
          rw [hL']
          congr 1
          funext k
          rw [← hL', g10, g2]
          by_cases hk : k < s
          · rw [if_pos hk, if_pos ((hs k).mp hk)]
          · rw [if_neg hk, if_neg (fun h => hk ((hs k).mpr h))]
        rw [e]; exact hc'
    unfold F_X1_shine_L16 F_X1_footprint
    refine Ok.eq rfl ?_
    refine Ok.eq (f_size hr') ?_
    dsimp only
    rw [h1, h9, h10, pk_mul]
    by_cases hle : f.length ≤ L.1 10
    · have hneg : (if nI f.length - nI (L.1 10) < nI (L.1 1 * L.1 9) then nI f.length - nI (L.1 10) else nI (L.1 1 * L.1 9)) ≤ (0 : Int32) := by
        by_cases heq : f.length = L.1 10
        · rw [heq, pk_sub (Nat.le_refl _), Nat.sub_self, if_pos (nI_lt (by omega) (by omega))]
          exact nI_le (b := 0) (Nat.le_refl _) (by decide)
        · have hsn := pk_sneg (a := f.length) (b := L.1 10) (by omega) (by omega)
          have h3 : nI f.length - nI (L.1 10) < nI (L.1 1 * L.1 9) := by
            have h4 : (0 : Int32) ≤ nI (L.1 1 * L.1 9) := nI_pos' (by omega)
            rw [Int32.lt_iff_toInt_lt] at hsn ⊢
            rw [Int32.le_iff_toInt_le] at h4
            omega
          rw [if_pos h3]
          rw [Int32.lt_iff_toInt_lt] at hsn
          rw [Int32.le_iff_toInt_le]
          omega
      have hnz := fin 0 (fun j => ⟨fun h => by omega, fun h => by omega⟩) (by omega)
      have hfu : fu = 4095 + 1 := rfl
      rw [hfu] at hnz ⊢
      unfold F_X1_shine_L36 at hnz ⊢
      rw [if_pos hneg]
      rw [if_pos (show nI 0 ≤ nI 0 from nI_le (Nat.le_refl _) (by omega))] at hnz
      exact hnz
    · rw [pk_sub (by omega)]
      by_cases hlt : f.length - L.1 10 < L.1 1 * L.1 9
      · rw [if_pos (nI_lt hlt (by omega))]
        exact fin _ (fun j => by omega) (by omega)
      · rw [if_neg (nI_nlt (by omega) (by omega))]
        exact fin _ (fun j => by omega) (by omega)
  have h10 : σ.1 (qq i) 10 = nI (L.1 10) := hC.2.1 10 (by simp)
  unfold F_X1_shine
  refine Ok.eq (f_size hr) ?_
  dsimp only
  rw [h10]
  by_cases hle : f.length ≤ L.1 10
  · refine Ok.tt (nI_le hle (by omega)) ?_
    exact key L σ rfl rfl rfl rfl hC hr Fr.rf (by rw [if_neg (by omega)])
  · refine Ok.ff (nI_ge (by omega) (by omega)) (Ok.nm ?_)
    have hfr : Fr (pq (qq i)) σ (sI σ (qq i) 14 (nI now)) := Fr.sI ⟨by omega, by omega⟩
    exact key (su L 14 now) _ (su_ne (by decide)) (su_ne (by decide)) (su_ne (by decide)) rfl (hC.su (by simp)) (hr.fr hfr (fun j h => by unfold qq at h; omega) (fun j h => by unfold qq at h; omega)) hfr (by rw [if_pos (by omega)])
theorem mk_shr {x : Nat} (h : x < 2 ^ 63) : (Int64.toInt32 ((Int64.toUInt64 (lN x)) >>> ((Int64.toUInt64 (Int32.toInt64 32)) &&& Int64.toUInt64 63)).toInt64) = nI (x / 2 ^ 32) := by
  have e := wb_shr (n := x) (k := 32) (by omega) (by decide)
  rw [show (32 : Int32) = nI 32 from rfl, e, lN_i]
theorem f_isMeantBy {σ : St} {i to : Nat} {L : Lp} (hC : CL σ (qq i) L) (hid : L.1 0 < 2 ^ 47) (hall : L.1 0 % 2 ^ 32 < 2 ^ 32 - 1) (ht : to < 2 ^ 48) : F_X1_isMeantBy (qq i) σ (lN to) = some (σ, if to = L.1 0 ∨ calls to (L.1 0) then 1 else 0) := by
  unfold F_X1_isMeantBy F_X6_restOf F_X6_makerOf
  rw [rest_mask (by omega), mk_shr (by omega)]
  simp only [Option.bind_some]
  rw [hC.1, mk_shr (by omega)]
  by_cases hc : to % 2 ^ 32 = 2 ^ 32 - 1
  · rw [if_pos (cm_0.mpr (by rw [hc]; rfl))]
    have hne : ¬ to = L.1 0 := fun h => by rw [h] at hc; omega
    by_cases h1 : to / 2 ^ 32 = 65535
    · rw [if_pos (by rw [h1]; rfl), if_pos (Or.inr ⟨hc, Or.inl h1⟩)]
    · rw [if_neg (fun h9 => by rw [lit, nI_eq (by omega) (by omega)] at h9; omega)]
      by_cases h2 : to / 2 ^ 32 = L.1 0 / 2 ^ 32
      · rw [if_pos (by rw [h2]), if_pos (Or.inr ⟨hc, Or.inr h2⟩)]
      · rw [if_neg (fun h9 => by rw [nI_eq (by omega) (by omega)] at h9; omega), if_neg]
        rintro (h9 | ⟨-, h9 | h9⟩)
        · exact hne h9
        · exact h1 h9
        · exact h2 h9
  · rw [if_neg (fun h9 => by rw [cm_0, lit6, pk_lEQ (by omega) (by omega)] at h9; omega)]
    by_cases h1 : to = L.1 0
    · rw [if_pos (cm_0.mpr (by rw [h1])), if_pos (Or.inl h1)]
    · rw [if_neg (fun h9 => by rw [cm_0, pk_lEQ (by omega) (by omega)] at h9; omega), if_neg]
      rintro (h9 | ⟨h9, -⟩)
      · exact h1 h9
      · exact hc h9
theorem f_isKnownL {σ : St} {m : Nat} {K1 K2 : St → Option (St × Int32)} : ∀ (c fz k : Nat), c < fz → k + c = 8 → (∀ j, k ≤ j → j < 8 → mtT.getD j 0 ≠ nI m) → F_X1_isKnown_L2 K1 K2 fz σ (nI m) (nI k) = K2 σ := by
  intro c
  induction c with
  | zero =>
    intro fz k hf hk h
    cases fz with
    | zero => omega
    | succ fz =>
      unfold F_X1_isKnown_L2
      rw [if_pos (show Int32.ofNat 8 ≤ nI k from nI_le (a := 8) (by omega) (by omega))]
  | succ c ih =>
    intro fz k hf hk h
    cases fz with
    | zero => omega
    | succ fz =>
      unfold F_X1_isKnown_L2
      rw [if_neg (show ¬ Int32.ofNat 8 ≤ nI k from nI_ge (b := 8) (by omega) (by omega)), gd_t (ib_nI (by omega) (by omega)), nI_clamp (by omega), if_neg (h k (by omega) (by omega)), nI_1]
      exact ih fz (k + 1) (by omega) (by omega) (fun j h1 h2 => h j (by omega) h2)
theorem f_isKnown {σ : St} {m : Nat} (hm : m < 65536) : F_X1_isKnown σ (nI m) = some (σ, if isM m then 1 else 0) := by
  by_cases h1 : m = 80
  · subst h1; rfl
  by_cases h2 : m = 96
  · subst h2; rfl
  by_cases h3 : m = 128
  · subst h3; rfl
  by_cases h4 : m = 130
  · subst h4; rfl
  by_cases h5 : m = 224
  · subst h5; rfl
  by_cases h6 : m = 240
  · subst h6; rfl
  by_cases h7 : m = 4096
  · subst h7; rfl
  by_cases h8 : m = 32
  · subst h8; rfl
  rw [if_neg (by intro h; unfold isM at h; omega)]
  unfold F_X1_isKnown
  refine f_isKnownL (K1 := F_X1_isKnown_L19) (K2 := F_X1_isKnown_L27) 8 fu 0 (by unfold fu; omega) rfl (fun j _ hj h => ?_)
  have n : ∀ c, c < 65536 → c ≠ m → ¬ nI c = nI m := fun c hc hn h => hn ((nI_eq (by omega) (by omega)).mp h)
  rcases (show j = 0 ∨ j = 1 ∨ j = 2 ∨ j = 3 ∨ j = 4 ∨ j = 5 ∨ j = 6 ∨ j = 7 by omega) with e | e | e | e | e | e | e | e <;> subst e
  · exact n 80 (by omega) (by omega) h
  · exact n 96 (by omega) (by omega) h
  · exact n 128 (by omega) (by omega) h
  · exact n 130 (by omega) (by omega) h
  · exact n 224 (by omega) (by omega) h
  · exact n 240 (by omega) (by omega) h
  · exact n 4096 (by omega) (by omega) h
  · exact n 32 (by omega) (by omega) h
/-- a reason, or none -/
def oI : Option Nat → Int32
  | none => -1
  | some r => nI r
def bI (b : Bool) : Int32 := if b = true then 1 else 0
theorem f_formR {σ : St} {part m n : Nat} {set : Bool} (hp : part < 65536) (hm : m < 65536) (hn : n < 256) : F_X1_formRefusal σ (nI part) (nI m) (bI set) (nI n) = some (σ, oI (formR part m set n)) := by
  have eqv : ∀ (a : Nat) (c : Nat), a < 65536 → c < 65536 → ((nI a = nI c) ↔ a = c) := fun a c h1 h2 => nI_eq (by omega) (by omega)
  have L17 : F_X1_formRefusal_L17 σ (nI m) (bI set) (nI n) = some (σ, oI (if ¬ isM m then some 0 else if set = false then (if n = (if m = 32 then 1 else 0) then none else some 1) else if m = 130 then (if n ≤ 32 then none else some 1) else if m = 224 then (if n = 1 then none else some 1) else if m = 240 then (if n = 2 then none else some 1) else if m = 4096 then (if n = 1 then none else some 1) else some 5)) := by
    have c130 : (nI m = 130) ↔ m = 130 := eqv m 130 hm (by omega)
    have c224 : (nI m = 224) ↔ m = 224 := eqv m 224 hm (by omega)
    have c240 : (nI m = 240) ↔ m = 240 := eqv m 240 hm (by omega)
    have c4096 : (nI m = 4096) ↔ m = 4096 := eqv m 4096 hm (by omega)
    have c32 : (nI m = 32) ↔ m = 32 := eqv m 32 hm (by omega)
    have n0 : (nI n = 0) ↔ n = 0 := eqv n 0 (by omega) (by omega)
    have n1 : (nI n = 1) ↔ n = 1 := eqv n 1 (by omega) (by omega)
    have n2 : (nI n = 2) ↔ n = 2 := eqv n 2 (by omega) (by omega)
    have n32 : (32 < nI n) ↔ 32 < n := nI_ltI (a := 32) (by omega) (by omega)
    unfold F_X1_formRefusal_L17 F_X1_formRefusal_L42
    rw [f_isKnown hm]
    simp only [Option.bind_some, c130, c224, c240, c4096, c32, n0, n1, n2, n32]
    by_cases h1 : isM m
    · rw [if_pos h1, if_neg (show ¬ (1 : Int32) = 0 by decide), if_neg (not_not_intro h1)]
      cases set with
      | false =>
        rw [if_pos (show bI false = 0 from rfl), if_pos rfl]
        by_cases h2 : m = 32
        · by_cases h3 : n = 1 <;> simp [h2, h3, oI] <;> rfl
        · by_cases h3 : n = 0 <;> simp [h2, h3, oI] <;> rfl
      | true =>
        rw [if_neg (show ¬ bI true = 0 by decide), if_neg (show ¬ true = false by decide)]
        by_cases h2 : m = 130
        · by_cases h3 : n ≤ 32
          · rw [if_pos h2, if_pos h2, if_neg (by omega), if_pos h3]; rfl
          · rw [if_pos h2, if_pos h2, if_pos (by omega), if_neg h3]; rfl
        · rw [if_neg h2, if_neg h2]
          by_cases h4 : m = 224
          · by_cases h3 : n = 1 <;> simp [h4, h3, oI] <;> rfl
          · by_cases h5 : m = 240
            · by_cases h3 : n = 2 <;> simp [h5, h3, oI] <;> rfl
            · by_cases h6 : m = 4096
              · by_cases h3 : n = 1 <;> simp [h6, h3, oI] <;> rfl
              · simp [h4, h5, h6, oI]; rfl
    · rw [if_neg h1, if_pos rfl, if_pos h1]; rfl
  have p0 : (nI part = 0) ↔ part = 0 := eqv part 0 hp (by omega)
  have p5 : (nI part = 65535) ↔ part = 65535 := eqv part 65535 hp (by omega)
  unfold F_X1_formRefusal formR
  simp only [p0, p5]
  by_cases h0 : part = 0
  · rw [if_neg (show ¬ (part ≠ 0 ∧ ¬ (set = true ∧ part = 65535)) from fun h => h.1 h0), if_pos h0, L17]
  · rw [if_neg h0]
    cases set with
    | false =>
      rw [if_pos (show bI false = 0 from rfl), if_pos (show part ≠ 0 ∧ ¬ (false = true ∧ part = 65535) from ⟨h0, fun h => absurd h.1 (by decide)⟩)]; rfl
    | true =>
      rw [if_neg (show ¬ bI true = 0 by decide)]
      by_cases h1 : part = 65535
      · rw [if_neg (show ¬ (part ≠ 0 ∧ ¬ (true = true ∧ part = 65535)) from fun h => h.2 ⟨rfl, h1⟩), if_pos h1, L17]
      · rw [if_neg h1, if_pos (show part ≠ 0 ∧ ¬ (true = true ∧ part = 65535) from ⟨h0, fun h => h1 h.2⟩)]; rfl
