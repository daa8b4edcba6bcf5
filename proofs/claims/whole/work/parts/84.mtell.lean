/-! ===== PURE: the model's GET ===== -/
/-- what the model needs of a lamp that comes later -/
def Lt (L : Lp) : Prop := ∀ k, k < L.2.2.2.length → 0 < (la L k).1 ∧ (la L k).1 < 2 ^ 31
theorem Wl.lt {o now x : Nat} {L : Lp} (h : Wl o now x L) (hn : now + x < 2 ^ 31) : Lt L := by
  obtain ⟨-, -, -, -, -, -, -, -, -, -, -, w12, -⟩ := h
  intro k hk
  have := w12 _ (la_mem hk)
  omega
/-- a whole reply -/
theorem m_reply {σ : St} {i kind grp mat : Nat} {L : Lp} {f r0 d : List Nat} {mid : St → Option St} (hM : ML σ i L) (hi : i < 24) (hB : Bl L) (hL : Lt L) (hid : L.1 0 < 2 ^ 47) (h46 : Mw σ 46 23 f) (hl : 24 ≤ f.length) (h48 : Mw σ 48 27 r0) (hk : kind < 256) (hg : grp < 256) (hm : mat < 65536) (hd : d.length ≤ 231) (hmid : ∀ τ, Fr pw σ τ → Mw τ 48 27 (pz (six f 9) (L.1 0) (f.getD 15 0) kind (two f 18) grp mat) → Ok (mid τ) (fun ρ => Mw ρ 48 27 (pz (six f 9) (L.1 0) (f.getD 15 0) kind (two f 18) grp mat ++ d) ∧ Fr pw σ ρ)) : Ok ((F_X7_begin σ (nI i) (nI kind) (nI grp) (nI mat)).bind (fun y => (mid y).bind (fun z => (F_X7_finish z (nI i)).bind (fun x => some x)))) (fun τ => Mw τ 48 27 (rp f L kind grp mat d) ∧ Fr pw σ τ) := by
  refine Ok.bi (m_begin hM hi hB hid h46 hl h48 hk hg hm) (fun τ hτ => ?_)
  refine Ok.bi (hmid τ hτ.2 hτ.1) (fun ρ hρ => ?_)
  have hM2 : ML ρ i L := hM.fr hB hρ.2 (fun q j h1 h2 => by unfold pw at h2; unfold lpl at h1; omega)
  refine Ok.bi (m_finish hM2.2.2.2.2.2 hi hB hL hρ.1 hd) (fun ζ hζ => Ok.so ⟨hζ.1, hρ.2.t hζ.2⟩)
theorem m_reply0 {σ : St} {i kind grp mat : Nat} {L : Lp} {f r0 : List Nat} (hM : ML σ i L) (hi : i < 24) (hB : Bl L) (hL : Lt L) (hid : L.1 0 < 2 ^ 47) (h46 : Mw σ 46 23 f) (hl : 24 ≤ f.length) (h48 : Mw σ 48 27 r0) (hk : kind < 256) (hg : grp < 256) (hm : mat < 65536) : Ok ((F_X7_begin σ (nI i) (nI kind) (nI grp) (nI mat)).bind (fun y => (F_X7_finish y (nI i)).bind (fun x => some x))) (fun τ => Mw τ 48 27 (rp f L kind grp mat []) ∧ Fr pw σ τ) := by
  refine Ok.bi (m_begin hM hi hB hid h46 hl h48 hk hg hm) (fun τ hτ => ?_)
  have hM2 : ML τ i L := hM.fr hB hτ.2 (fun q j h1 h2 => by unfold pw at h2; unfold lpl at h1; omega)
  refine Ok.bi (m_finish (d := []) hM2.2.2.2.2.2 hi hB hL (by rw [List.append_nil]; exact hτ.1) (by decide)) (fun ζ hζ => Ok.so ⟨hζ.1, hτ.2.t hζ.2⟩)
theorem bs {α : Type} (o : Option α) : o.bind (fun x => some x) = o := by cases o <;> rfl
theorem m_refuse {σ : St} {i r : Nat} {L : Lp} {f : List Nat} {own : Bool} (hM : ML σ i L) (hi : i < 24) (hB : Bl L) (hL : Lt L) (hid : L.1 0 < 2 ^ 47) (h46 : Mw σ 46 23 f) (hl : 24 ≤ f.length) (h48 : Mw σ 48 27 []) (hr : r < 10) (hg : f.getD 20 0 < 255) : Ok (F_X7_refuse σ (nI i) (bI own) (nI r)) (fun τ => Mw τ 48 27 (if own = true then rp f L 2 (f.getD 20 0 + 1) (two f 21) (be r 2) else []) ∧ Fr pw σ τ) := by
  have hb := h46.by
  unfold F_X7_refuse
  cases own with
  | false => exact Ok.tt rfl (Ok.so ⟨h48, Fr.rf⟩)
  | true =>
    refine Ok.ff (by decide) ?_
    refine Ok.eq (m_at h46 (k := 20) (by omega)) ?_
    refine Ok.eq (m_two h46 (k := 21) (by omega)) ?_
    dsimp only
    rw [nI_1]
    refine m_reply (mid := fun y => F_X7_putTwo y (nI r)) hM hi hB hL hid h46 hl h48 (by decide) (by omega) (two_lt hb 21) (by rw [be_len]; omega) (fun τ h1 h2 => ?_)
    have := rtwo (k := fun y => some y) (P := fun ρ => Mw ρ 48 27 (pz (six f 9) (L.1 0) (f.getD 15 0) 2 (two f 18) (f.getD 20 0 + 1) (two f 21) ++ be r 2) ∧ Fr pw σ ρ) (σ0 := σ) (x := r) (by omega) h2 h1 (by rw [pz_len]; omega) (fun ρ g1 g2 => Ok.so ⟨g1, g2⟩)
    rw [bs] at this
    exact this
theorem m_lblL {σ0 : St} {i : Nat} {t : List Nat} {K : St → Option St} {P : St → Prop} (hi : i < 24) (ht : t.length ≤ 32) (h36 : σ0.1 36 i = nI t.length) (h37 : ∀ k, k < t.length → lo8 (σ0.1 37 (32 * i + k)) = t.getD k 0) : ∀ (m fz k : Nat) (σ : St) (l : List Nat), m < fz → k + m = t.length → Mw σ 48 27 l → l.length + m ≤ 200 → Fr pw σ0 σ → (∀ τ, Mw τ 48 27 (l ++ t.drop k) → Fr pw σ0 τ → Ok (K τ) P) → Ok (F_X7_tell_L294 K fz σ (nI i) (nI k)) P := by
  intro m
  induction m with
  | zero =>
    intro fz k σ l hf hk h hl he hK
    cases fz with
    | zero => omega
    | succ fz =>
      unfold F_X7_tell_L294
      refine Ok.gd (show ib (nI i) (ln 36) = true from ib_nI (show i < 24 from hi) (by decide)) ?_
      rw [nI_clamp (by omega), he.i (by unfold pw; omega), h36]
      refine Ok.tt (nI_le (by omega) (by omega)) ?_
      exact hK σ (by rw [List.drop_of_length_le (by omega), List.append_nil]; exact h) he
  | succ m ih =>
    intro fz k σ l hf hk h hl he hK
    cases fz with
    | zero => omega
    | succ fz =>
      unfold F_X7_tell_L294
      refine Ok.gd (show ib (nI i) (ln 36) = true from ib_nI (show i < 24 from hi) (by decide)) ?_
      rw [nI_clamp (by omega), he.i (by unfold pw; omega), h36]
      refine Ok.ff (nI_ge (by omega) (by omega)) ?_
      rw [show (32 : Int32) = nI 32 from rfl, pk_mul, nI_add]
      refine Ok.gd (show ib (nI (32 * i + k)) (ln 37) = true from ib_nI (show 32 * i + k < 768 by omega) (by decide)) ?_
      rw [nI_clamp (by omega)]
      refine rput (σ0 := σ0) (x := t.getD k 0) h he (by omega) (by rw [he.i (by unfold pw; omega)]; exact h37 k (by omega)) (fun τ e1 q1 => ?_)
      rw [nI_1]
      refine ih fz (k + 1) τ _ (by omega) (by omega) e1 (by simp; omega) q1 (fun τ3 g1 g2 => hK τ3 ?_ g2)
      have hkl : k < t.length := by omega
      rw [List.append_assoc] at g1
      rw [List.drop_eq_getElem_cons hkl]
      rw [nD, dif_pos hkl] at g1
      exact g1
theorem m_hexL {σ0 : St} {i id : Nat} {K : St → Option St} {P : St → Prop} (hi : i < 24) (h29 : σ0.2 29 i = lN (id % 2 ^ 32)) : ∀ (c fz : Nat) (σ : St) (l : List Nat), c < fz → c ≤ 8 → Mw σ 48 27 l → l.length + c ≤ 200 → Fr pw σ0 σ → (∀ τ, Mw τ 48 27 (l ++ hx id c) → Fr pw σ0 τ → Ok (K τ) P) → Ok (F_X7_tell_L238 K fz σ (nI i) (nI (4 * c) - 4)) P := by
  intro c
  induction c with
  | zero =>
    intro fz σ l hf hc h hl he hK
    cases fz with
    | zero => omega
    | succ fz =>
      unfold F_X7_tell_L238
      refine Ok.tt (by decide) ?_
      exact hK σ (by rw [show hx id 0 = [] from rfl, List.append_nil]; exact h) he
  | succ c ih =>
    intro fz σ l hf hc h hl he hK
    cases fz with
    | zero => omega
    | succ fz =>
      unfold F_X7_tell_L238
      rw [show nI (4 * (c + 1)) - 4 = nI (4 * c) from pk_sub (a := 4 * (c + 1)) (b := 4) (by omega)]
      refine Ok.ff (nI_pos (by omega)) ?_
      refine Ok.gd (show ib (nI i) (ln 29) = true from ib_nI (show i < 24 from hi) (by decide)) ?_
      have hdig : id % 2 ^ 32 / 16 ^ c % 16 = id / 16 ^ c % 16 := by
        rcases (show c = 0 ∨ c = 1 ∨ c = 2 ∨ c = 3 ∨ c = 4 ∨ c = 5 ∨ c = 6 ∨ c = 7 by omega) with e | e | e | e | e | e | e | e <;> subst e <;> omega
      rw [nI_clamp (by omega), he.l (by unfold pw; omega), h29, wb_sar (by omega) (by omega), p16, lN_i, and15, hdig]
      unfold F_X7_tell_L280
      have hd : id / 16 ^ c % 16 < 16 := Nat.mod_lt _ (by decide)
      have step : ∀ (v : Int32) (x : Nat), v = nI x → x < 256 → hx id (c + 1) = x :: hx id c → Ok ((F_X7_put σ v).bind (fun y25 => F_X7_tell_L238 K fz y25 (nI i) (nI (4 * c) + (-4)))) P := by
        intro v x hv hx1 hhx
        refine rput (σ0 := σ0) (x := x) h he (by omega) (by rw [hv, lo8_nn]; omega) (fun τ e1 e2 => ?_)
        rw [← Int32.sub_eq_add_neg]
        refine ih fz τ (l ++ [x]) (by omega) (by omega) e1 (by simp; omega) e2 (fun τ2 g1 g2 => hK τ2 ?_ g2)
        rw [hhx]
        rw [List.append_assoc] at g1
        exact g1
      by_cases h10 : id / 16 ^ c % 16 < 10
      · refine Ok.ff (show ¬ (10 : Int32) ≤ _ from nI_ge (b := 10) h10 (by omega)) ?_
        refine step _ (48 + id / 16 ^ c % 16) (nI_add 48 _) (by omega) ?_
        show (if id / 16 ^ c % 16 < 10 then _ else _) :: hx id c = _
        rw [if_pos h10]
      · refine Ok.tt (show (10 : Int32) ≤ _ from nI_le (a := 10) (by omega) (by omega)) ?_
        refine step _ (55 + id / 16 ^ c % 16) ?_ (by omega) ?_
        · rw [show (65 : Int32) + nI (id / 16 ^ c % 16) = nI (65 + id / 16 ^ c % 16) from nI_add 65 _, show (10 : Int32) = nI 10 from rfl, pk_sub (by omega)]
          congr 1; omega
        · show (if id / 16 ^ c % 16 < 10 then _ else _) :: hx id c = _
          rw [if_neg h10]
theorem be_id (id : Nat) (h : id < 2 ^ 47) : be id 6 = be (id / 2 ^ 32) 2 ++ (be (id % 2 ^ 32 / 2 ^ 16) 2 ++ be (id % 2 ^ 32) 2) := by
  rw [be2, be2, be2]
  simp only [be, List.cons_append, List.nil_append, List.cons.injEq, and_true]
  refine ⟨?_, ?_, ?_, ?_, ?_, ?_⟩
  all_goals first | trivial | omega
theorem m_tell {σ : St} {i m o now x : Nat} {L : Lp} {l : List Nat} (hM : ML σ i L) (hi : i < 24) (hW : Wl o now x L) (ho : o ≤ 1000) (h48 : Mw σ 48 27 l) (hl : l.length = 24) (hm : isM m) (hm32 : m ≠ 32) : Ok (F_X7_tell σ (nI i) (nI m)) (fun ρ => Mw ρ 48 27 (l ++ telD L m) ∧ Fr pw σ ρ) := by
  have hm2 : m < 65536 := by unfold isM at hm; omega
  have hB := hW.bl
  obtain ⟨w1, w2, w3, w4, w5, w6, w7, w8, w9, -, w11, -⟩ := hW
  have c80 : (nI m = 80) ↔ m = 80 := nI_eq (b := 80) (by omega) (by omega)
  have c96 : (nI m = 96) ↔ m = 96 := nI_eq (b := 96) (by omega) (by omega)
  have c128 : (nI m = 128) ↔ m = 128 := nI_eq (b := 128) (by omega) (by omega)
  have c130 : (nI m = 130) ↔ m = 130 := nI_eq (b := 130) (by omega) (by omega)
  have c224 : (nI m = 224) ↔ m = 224 := nI_eq (b := 224) (by omega) (by omega)
  have c240 : (nI m = 240) ↔ m = 240 := nI_eq (b := 240) (by omega) (by omega)
  have gi : ∀ r, ln r = 24 → ib (nI i) (ln r) = true := fun r hr => by rw [hr]; exact ib_nI hi (by decide)
  have kM : ∀ {τ : St}, Fr pw σ τ → ML τ i L := fun he => hM.fr hB he (fun q j h1 h2 => by unfold pw at h2; unfold lpl at h1; omega)
  unfold F_X7_tell telD
  simp only [c80, c96, c128, c130, c224, c240]
  by_cases e80 : m = 80
  · rw [if_pos e80, if_pos e80]
    refine rtwo (σ0 := σ) (x := 80) (by decide) h48 Fr.rf (by omega) (fun τ1 m1 q1 => ?_)
    refine rtwo (σ0 := σ) (x := 96) (by decide) m1 q1 (by simp [be_len]; omega) (fun τ2 m2 q2 => ?_)
    refine rtwo (σ0 := σ) (x := 128) (by decide) m2 q2 (by simp [be_len]; omega) (fun τ3 m3 q3 => ?_)
    refine rtwo (σ0 := σ) (x := 130) (by decide) m3 q3 (by simp [be_len]; omega) (fun τ4 m4 q4 => ?_)
    refine rtwo (σ0 := σ) (x := 224) (by decide) m4 q4 (by simp [be_len]; omega) (fun τ5 m5 q5 => ?_)
    refine rtwo (σ0 := σ) (x := 240) (by decide) m5 q5 (by simp [be_len]; omega) (fun τ6 m6 q6 => ?_)
    refine rtwo (σ0 := σ) (x := 4096) (by decide) m6 q6 (by simp [be_len]; omega) (fun τ7 m7 q7 => ?_)
    refine rtwo (σ0 := σ) (x := 32) (by decide) m7 q7 (by simp [be_len]; omega) (fun τ8 m8 q8 => Ok.so ⟨?_, q8⟩)
    simp only [List.append_assoc] at m8
    exact m8
  rw [if_neg e80, if_neg e80]
  by_cases e96 : m = 96
  · rw [if_pos e96, if_pos e96]
    refine Ok.gd (gi 28 rfl) ?_
    rw [nI_clamp (by omega), hM.1]
    refine rtwo (σ0 := σ) (by omega) h48 Fr.rf (by omega) (fun τ1 m1 q1 => ?_)
    refine Ok.gd (gi 29 rfl) ?_
    rw [(kM q1).2.1, show (16 : Int32) = nI 16 from rfl, wb_sar (by omega) (by decide), lN_i]
    refine rtwo (σ0 := σ) (by omega) m1 q1 (by simp [be_len]; omega) (fun τ2 m2 q2 => ?_)
    refine Ok.gd (gi 29 rfl) ?_
    rw [(kM q2).2.1, lN_i]
    refine rtwo (σ0 := σ) (by omega) m2 q2 (by simp [be_len]; omega) (fun τ3 m3 q3 => ?_)
    refine Ok.eq (m_foot (kM q3) hi) ?_
    refine rtwo (σ0 := σ) (by omega) m3 q3 (by simp [be_len]; omega) (fun τ4 m4 q4 => ?_)
    refine Ok.gd (gi 32 rfl) ?_
    refine rput (σ0 := σ) (x := L.1 9) m4 q4 (by simp [be_len]; omega) (by rw [(kM q4).sc 32 9 (by decide), lo8_nn]; omega) (fun τ5 m5 q5 => ?_)
    refine Ok.gd (gi 31 rfl) ?_
    refine rput (σ0 := σ) (x := L.1 2) m5 q5 (by simp [be_len]; omega) (by rw [(kM q5).sc 31 2 (by decide), lo8_nn]; omega) (fun τ6 m6 q6 => ?_)
    refine Ok.gd (gi 33 rfl) ?_
    rw [(kM q6).sc 33 10 (by decide)]
    refine rtwo (σ0 := σ) (by omega) m6 q6 (by simp [be_len]; omega) (fun τ7 m7 q7 => ?_)
    refine rtwo (σ0 := σ) (x := 0) (by omega) m7 q7 (by simp [be_len]; omega) (fun τ8 m8 q8 => ?_)
    refine Ok.gd (gi 38 rfl) ?_
    rw [(kM q8).sc 38 13 (by decide), show (65536 : Int32) = nI 65536 from rfl, pk_rem (by omega) (by decide) (by decide), Nat.mod_eq_of_lt (by omega)]
    refine rtwo (σ0 := σ) (by omega) m8 q8 (by simp [be_len]; omega) (fun τ9 m9 q9 => Ok.so ⟨?_, q9⟩)
    rw [be_id _ w1.1]
    simp only [List.append_assoc] at m9 ⊢
    exact m9
  rw [if_neg e96, if_neg e96]
  by_cases e128 : m = 128
  · rw [if_pos e128, if_pos e128]
    refine rput (σ0 := σ) (x := 76) h48 Fr.rf (by omega) (lo8_nn 76) (fun τ1 m1 q1 => ?_)
    refine rput (σ0 := σ) (x := 65) m1 q1 (by simp; omega) (lo8_nn 65) (fun τ2 m2 q2 => ?_)
    refine rput (σ0 := σ) (x := 77) m2 q2 (by simp; omega) (lo8_nn 77) (fun τ3 m3 q3 => ?_)
    refine rput (σ0 := σ) (x := 80) m3 q3 (by simp; omega) (lo8_nn 80) (fun τ4 m4 q4 => ?_)
    refine m_hexL (id := L.1 0) (σ0 := σ) hi hM.2.1 8 fu τ4 _ (by unfold fu; omega) (by omega) m4 (by simp; omega) q4 (fun τ5 m5 q5 => Ok.so ⟨?_, q5⟩)
    simp only [List.append_assoc] at m5
    exact m5
  rw [if_neg e128, if_neg e128]
  by_cases e130 : m = 130
  · rw [if_pos e130, if_pos e130]
    refine m_lblL (σ0 := σ) hi w9.1 hM.2.2.2.1.1 hM.2.2.2.1.2 L.2.1.length fu 0 σ l (by unfold fu; omega) (by omega) h48 (by omega) Fr.rf (fun τ g1 g2 => Ok.so ⟨g1, g2⟩)
  rw [if_neg e130, if_neg e130]
  by_cases e224 : m = 224
  · rw [if_pos e224, if_pos e224]
    refine Ok.gd (gi 32 rfl) ?_
    rw [nI_clamp (by omega)]
    refine rput (σ0 := σ) (x := L.1 9) h48 Fr.rf (by omega) (by rw [hM.sc 32 9 (by decide), lo8_nn]; omega) (fun τ5 m5 q5 => ?_)
    refine Ok.gd (gi 31 rfl) ?_
    refine rput (σ0 := σ) (x := L.1 2) m5 q5 (by simp; omega) (by rw [(kM q5).sc 31 2 (by decide), lo8_nn]; omega) (fun τ6 m6 q6 => Ok.so ⟨?_, q6⟩)
    rw [List.append_assoc] at m6
    exact m6
  rw [if_neg e224, if_neg e224]
  by_cases e240 : m = 240
  · rw [if_pos e240, if_pos e240]
    refine Ok.gd (gi 33 rfl) ?_
    rw [nI_clamp (by omega), hM.sc 33 10 (by decide)]
    refine rtwo (σ0 := σ) (by omega) h48 Fr.rf (by omega) (fun τ7 m7 q7 => Ok.so ⟨m7, q7⟩)
  rw [if_neg e240, if_neg e240]
  refine Ok.gd (gi 35 rfl) ?_
  rw [nI_clamp (by omega), hM.sc 35 12 (by decide)]
  unfold F_X7_tell_L379
  by_cases h12 : L.1 12 = 0
  · refine Ok.tt (by rw [h12]; rfl) ?_
    refine rput (σ0 := σ) (x := L.1 12) h48 Fr.rf (by omega) (by rw [h12]; exact lo8_nn 0) (fun τ7 m7 q7 => Ok.so ⟨m7, q7⟩)
  · refine Ok.ff (nI_ne0 (by omega) (by omega)) ?_
    refine rput (σ0 := σ) (x := L.1 12) h48 Fr.rf (by omega) (by rw [show L.1 12 = 1 by omega]; exact lo8_nn 1) (fun τ7 m7 q7 => Ok.so ⟨m7, q7⟩)
