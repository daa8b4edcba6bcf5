/-! ===== PURE: questions and their answers, model's side ===== -/
/-- the places that the model's line rests on -/
abbrev pX : Nat → Nat → Prop := fun q j => (q = 27 ∧ (j = 1 ∨ j = 21 ∨ j = 25 ∨ j = 27 ∨ j = 28 ∨ j = 31)) ∨ (28 ≤ q ∧ q ≤ 44) ∨ (47 ≤ q ∧ q ≤ 50)
theorem MX.fr {p : Nat → Nat → Prop} {σ τ : St} {n : Nat} {X : Xs} (hX : MX σ n X) (hB : ∀ j, j < n → Bl (X.2.2.1 j)) (he : Fr p σ τ) (hp : ∀ q j, pX q j → ¬ p q j) : MX τ n X := by
  obtain ⟨x1, x2, x3, x4, x5, x6, ⟨r, x7⟩⟩ := hX
  have h27 : ∀ j, (j = 1 ∨ j = 21 ∨ j = 25 ∨ j = 27 ∨ j = 28 ∨ j = 31) → ¬ p 27 j := fun j h => hp 27 j (Or.inl ⟨rfl, h⟩)
  refine ⟨by rw [he.i (h27 1 (by omega))]; exact x1, by rw [he.i (h27 21 (by omega))]; exact x2, by rw [he.i (h27 31 (by omega))]; exact x3, fun j hj => (x4 j hj).fr (hB j hj) he (fun q k h1 => hp q k (Or.inr (Or.inl (lpl_lt h1)))), x5.fr he (h27 25 (by omega)) (fun j => hp 47 j (by unfold pX; omega)), x6.fr he (h27 28 (by omega)) (fun j => ⟨hp 49 j (by unfold pX; omega), hp 50 j (by unfold pX; omega)⟩), ⟨r, x7.fr he (h27 27 (by omega)) (fun j => hp 48 j (by unfold pX; omega))⟩⟩
theorem WX.bl {o n : Nat} {X : Xs} (h : WX o n X) : ∀ j, j < n → Bl (X.2.2.1 j) := fun j hj => (h j hj).bl
theorem m_bp {σ : St} {n to part grp mat : Nat} {X : Xs} (hX : MX σ n X) (hB : ∀ j, j < n → Bl (X.2.2.1 j)) (hc : X.2.1 < 256) (ht : to < 2 ^ 48) (hp : part < 65536) (hg : grp < 256) (hm : mat < 65536) : Ok (F_X7_beginPacket σ (lN to) (nI part) (nI grp) (nI mat)) (fun τ => Mw τ 46 23 (pz to SR ((X.2.1 + 1) % 256) 1 part grp mat) ∧ MX τ n (X.1, (X.2.1 + 1) % 256, X.2.2) ∧ Fr (fun q j => q = 46 ∨ (q = 27 ∧ (j = 23 ∨ j = 31))) σ τ) := by
  have hlt : (X.2.1 + 1) % 256 < 256 := Nat.mod_lt _ (by decide)
  unfold F_X7_beginPacket
  refine Ok.nm (Ok.nm ?_)
  rw [hX.2.2.1, nI_1, show (256 : Int32) = nI 256 from rfl, pk_rem (by omega) (by decide) (by decide)]
  generalize hw : sI (sI σ 27 31 (nI ((X.2.1 + 1) % 256))) 27 23 0 = w
  have q0 : Fr (fun q j => q = 27 ∧ (j = 23 ∨ j = 31)) σ w := by rw [← hw]; exact (Fr.sI ⟨rfl, Or.inr rfl⟩).t (Fr.sI ⟨rfl, Or.inl rfl⟩)
  have w31 : w.1 27 31 = nI ((X.2.1 + 1) % 256) := by rw [← hw, sI_nj (by decide), sI_eq]
  have m0 : Mw w 46 23 [] := ⟨by rw [← hw, sI_eq]; rfl, by decide, fun k hk => absurd hk (Nat.not_lt_zero k)⟩
  refine vput (σ0 := w) (x := 204) m0 Fr.rf (by simp) (lo8_nn 204) (fun τ1 m1 q1 => ?_)
  refine vput (σ0 := w) (x := 1) m1 q1 (by simp) (lo8_nn 1) (fun τ2 m2 q2 => ?_)
  refine vput (σ0 := w) (x := 0) m2 q2 (by simp) (lo8_nn 0) (fun τ3 m3 q3 => ?_)
  refine vsix (σ0 := w) (by omega) m3 q3 (by simp) (fun τ4 m4 q4 => ?_)
  refine Ok.eq (show F_X7_idOf τ4 32766 1 = some (τ4, lN SR) from by unfold F_X7_idOf; rw [show (Int32.toInt64 32766 <<< (Int32.toInt64 32 &&& 63) ||| 1 : Int64) = lN SR from by decide]) ?_
  refine vsix (σ0 := w) (x := SR) (by decide) m4 q4 (by simp [be_len]) (fun τ5 m5 q5 => ?_)
  rw [q5.i (show ¬ pv 27 31 by unfold pv; omega), w31]
  refine vput (σ0 := w) (x := (X.2.1 + 1) % 256) m5 q5 (by simp [be_len]) (by rw [lo8_nn]; omega) (fun τ6 m6 q6 => ?_)
  refine vput (σ0 := w) (x := 1) m6 q6 (by simp [be_len]) (lo8_nn 1) (fun τ7 m7 q7 => ?_)
  refine vput (σ0 := w) (x := 0) m7 q7 (by simp [be_len]) (lo8_nn 0) (fun τ8 m8 q8 => ?_)
  refine vput (σ0 := w) (x := part / 256 % 256) m8 q8 (by simp [be_len]) (lo8_sarN (by omega)) (fun τ9 m9 q9 => ?_)
  refine vput (σ0 := w) (x := part % 256) m9 q9 (by simp [be_len]) (lo8_nn part) (fun τ10 m10 q10 => ?_)
  refine vput (σ0 := w) (x := grp) m10 q10 (by simp [be_len]) (by rw [lo8_nn]; omega) (fun τ11 m11 q11 => ?_)
  refine vput (σ0 := w) (x := mat / 256 % 256) m11 q11 (by simp [be_len]) (lo8_sarN (by omega)) (fun τ12 m12 q12 => ?_)
  refine vput (σ0 := w) (x := mat % 256) m12 q12 (by simp [be_len]) (lo8_nn mat) (fun τ13 m13 q13 => ?_)
  refine vput (σ0 := w) (x := 0) m13 q13 (by simp [be_len]) (lo8_nn 0) (fun τ m14 q14 => Ok.so ⟨?_, ?_, (q0.mo (fun a b h => Or.inr h)).t (q14.mo (fun a b h => by unfold pv at h; omega))⟩)
  · have hq : ∀ x, x = pz to SR ((X.2.1 + 1) % 256) 1 part grp mat → Mw τ 46 23 x → Mw τ 46 23 (pz to SR ((X.2.1 + 1) % 256) 1 part grp mat) := fun x hx hy => hx ▸ hy
    exact hq _ (by simp [pz, be2]) m14
  · have kk : Fr (fun q j => q = 46 ∨ (q = 27 ∧ (j = 23 ∨ j = 31))) σ τ := (q0.mo (fun a b h => Or.inr h)).t (q14.mo (fun a b h => by unfold pv at h; omega))
    obtain ⟨x1, x2, x3, x4, x5, x6, ⟨r, x7⟩⟩ := hX
    refine ⟨by rw [kk.i (by omega)]; exact x1, by rw [kk.i (by omega)]; exact x2, by rw [q14.i (show ¬ pv 27 31 by unfold pv; omega)]; exact w31, fun j hj => (x4 j hj).fr (hB j hj) kk (fun q k h1 h2 => by have := lpl_lt h1; omega), x5.fr kk (by omega) (fun j => by omega), x6.fr kk (by omega) (fun j => by omega), ⟨r, x7.fr kk (by omega) (fun j => by omega)⟩⟩
theorem m_soL {σ : St} {l : List Nat} {K : St → Int32 → Option St} (h : Mw σ 46 23 l) : ∀ (m fz k a : Nat), m < fz → k + m = l.length → F_X7_sendOff_L30 K fz σ (nI a) (nI k) = K σ (nI (a + sg l k m)) := by
  have hl := h.2.1
  rw [show ln 46 = 513 from rfl] at hl
  intro m
  induction m with
  | zero =>
    intro fz k a hf hk
    cases fz with
    | zero => omega
    | succ fz =>
      unfold F_X7_sendOff_L30
      rw [h.1, if_pos (nI_le (by omega) (by omega))]
      rfl
  | succ m ih =>
    intro fz k a hf hk
    cases fz with
    | zero => omega
    | succ fz =>
      unfold F_X7_sendOff_L30
      rw [h.1, if_neg (nI_ge (by omega) (by omega)), bd_eq (m_at h (by omega))]
      dsimp only
      rw [nI_add, nI_1, ih fz (k + 1) _ (by omega) (by omega)]
      show K σ (nI (a + l.getD k 0 + sg l (k + 1) m)) = K σ (nI (a + (l.getD k 0 + sg l (k + 1) m)))
      rw [Nat.add_assoc]
/-- the places that a question changes, in the model -/
abbrev pQ (n : Nat) : Nat → Nat → Prop := fun q j => (28 ≤ q ∧ q ≤ 44 ∧ zn n q j = 1) ∨ (46 ≤ q ∧ q ≤ 48) ∨ (q = 27 ∧ (j = 21 ∨ j = 23 ∨ j = 25 ∨ j = 27 ∨ j = 28 ∨ j = 31))
theorem m_so {σ : St} {n o to part grp mat : Nat} {d : List Nat} {X X0 : Xs} (hX0 : X0 = (X.1, (X.2.1 + 1) % 256, X.2.2)) (hX : MX σ n X0) (hn : n ≤ 24) (hW : WX o n X) (ho : o + 1 ≤ 1000) (hno : X.1 + 4 < 2 ^ 31) (h46 : Mw σ 46 23 (pz to SR ((X.2.1 + 1) % 256) 1 part grp mat ++ d)) (hd : d.length ≤ 231) : Ok (F_X7_sendOff σ) (fun τ => MX τ n (askX n X to part grp mat d) ∧ Fr (pQ n) σ τ) := by
  subst hX0
  have hlen : (pz to SR ((X.2.1 + 1) % 256) 1 part grp mat ++ d).length = 24 + d.length := by rw [List.length_append, pz_len]
  unfold F_X7_sendOff
  refine Ok.gd (by decide) (Ok.nm (Ok.gd (by decide) (Ok.nm ?_)))
  rw [show Int32.toNatClampNeg 2 = 2 from by decide, show Int32.toNatClampNeg 23 = 23 from by decide]
  rw [h46.1, hlen]
  have m2 := h46.set (k := 2) (v := vp_nar .byte (Int8.toInt32 (Int32.toInt8 (nI (24 + d.length))))) (x := 24 + d.length) (by decide) (by rw [lo8_byte, lo8_nn]; omega)
  rw [m2.1, List.length_set, hlen, show nI (24 + d.length) - 24 = nI d.length from by rw [show (24 : Int32) = nI 24 from rfl, pk_sub (by omega)]; congr 1; omega]
  have m3 := m2.set (k := 23) (v := vp_nar .byte (Int8.toInt32 (Int32.toInt8 (nI d.length)))) (x := d.length) (by decide) (by rw [lo8_byte, lo8_nn]; omega)
  generalize hw : sI (sI σ 46 2 (vp_nar .byte (Int8.toInt32 (Int32.toInt8 (nI (24 + d.length)))))) 46 23 (vp_nar .byte (Int8.toInt32 (Int32.toInt8 (nI d.length)))) = w at m3
  have q1 : Fr pv σ w := by rw [← hw]; exact (Fr.sI (Or.inl rfl)).t (Fr.sI (Or.inl rfl))
  have e : (((pz to SR ((X.2.1 + 1) % 256) 1 part grp mat ++ d).set 2 (24 + d.length)).set 23 d.length) = pb to SR ((X.2.1 + 1) % 256) 1 0 part grp mat d := rfl
  rw [e] at m3
  have hs := sg_le m3.by (24 + d.length) 0
  have hsum := m_soL (K := F_X7_sendOff_L52) m3 (24 + d.length) fu 0 0 (by unfold fu; omega) (by rw [pb_len]; omega)
  rw [show (0 : Int32) = nI 0 from rfl, hsum, Nat.zero_add]
  unfold F_X7_sendOff_L52
  generalize hs0 : sg (pb to SR ((X.2.1 + 1) % 256) 1 0 part grp mat d) 0 (24 + d.length) = s at hs
  refine vput (σ0 := σ) (x := s / 256 % 256) m3 q1 (by rw [pb_len]; omega) (lo8_sarN (by omega)) (fun τ1 m4 q4 => ?_)
  refine vput (σ0 := σ) (x := s % 256) m4 q4 (by rw [List.length_append, pb_len]; show _ + 1 < _; omega) (lo8_nn s) (fun τ2 m5 q5 => ?_)
  have m6 : Mw τ2 46 23 (pkt to SR ((X.2.1 + 1) % 256) 1 0 part grp mat d) := by
    unfold pkt
    rw [hs0, be2]
    have hq : ∀ x y, x = y → Mw τ2 46 23 x → Mw τ2 46 23 y := fun x y hx hy => hx ▸ hy
    exact hq _ _ (by simp) m5
  rw [bs]
  refine (m_look (X := (X.1, (X.2.1 + 1) % 256, X.2.2)) (hX.fr hW.bl q5 (fun q j h1 h2 => by unfold pX at h1; unfold pv at h2; omega)) hn hW ho hno m6).mo (fun ρ hρ => ⟨hρ.1, ?_⟩)
  exact (q5.mo (fun a b h => by unfold pv at h; unfold pQ; omega)).t (hρ.2.mo (fun a b h => by unfold pM at h; unfold pQ; omega))
/-- a short question -/
theorem m_ws {σ : St} {n o to mat : Nat} {X : Xs} (hX : MX σ n X) (hc : X.2.1 < 256) (hn : n ≤ 24) (hW : WX o n X) (ho : o + 1 ≤ 1000) (hno : X.1 + 4 < 2 ^ 31) (ht : to < 2 ^ 48) (hm : mat < 65536) : Ok ((F_X7_beginPacket σ (lN to) 0 16 (nI mat)).bind (fun y => F_X7_sendOff y)) (fun τ => MX τ n (askX n X to 0 16 mat []) ∧ Fr (pQ n) σ τ) := by
  refine Ok.bi (m_bp (part := 0) (grp := 16) hX hW.bl hc ht (by decide) (by decide) hm) (fun τ hτ => ?_)
  refine (m_so (X := X) (d := []) rfl hτ.2.1 hn hW ho hno (by rw [List.append_nil]; exact hτ.1) (by decide)).mo (fun ρ hρ => ⟨hρ.1, ?_⟩)
  exact (hτ.2.2.mo (fun a b h => by unfold pQ; omega)).t hρ.2
/-! what is heard -/
theorem m_hd {σ : St} {f : List Nat} (h : Mw σ 47 25 f) {k : Nat} (hk : k < f.length) : F_X7_heard σ (nI k) = some (σ, nI (f.getD k 0)) := by
  have hl := h.2.1
  rw [show ln 47 = 300 from rfl] at hl
  unfold F_X7_heard
  rw [gd_t (show ib (nI k) (ln 47) = true from ib_nI (show k < 300 by omega) (by decide)), nI_clamp (by omega), lo8_and, h.2.2 k hk]
theorem m_h6L {σ : St} {f : List Nat} {K : St → Int64 → Option (St × Int64)} (h : Mw σ 47 25 f) {u : Nat} (hu : u + 5 < f.length) : ∀ (m fz k a : Nat), m < fz → k + m = 6 → F_X7_heardSix_L5 K fz σ (nI u) (lN a) (nI k) = K σ (lN (bn a f (u + k) m)) := by
  have hl := h.2.1
  rw [show ln 47 = 300 from rfl] at hl
  intro m
  induction m with
  | zero =>
    intro fz k a hf hk
    cases fz with
    | zero => omega
    | succ fz =>
      unfold F_X7_heardSix_L5
      rw [if_pos (show (6 : Int32) ≤ nI k from nI_le (a := 6) (by omega) (by omega))]
      rfl
  | succ m ih =>
    intro fz k a hf hk
    cases fz with
    | zero => omega
    | succ fz =>
      have hb := h.by (u + k)
      unfold F_X7_heardSix_L5
      rw [if_neg (show ¬ (6 : Int32) ≤ nI k from nI_ge (b := 6) (by omega) (by omega)), nI_add, bd_eq (m_hd h (by omega))]
      dsimp only
      rw [show (256 : Int64) = lN 256 from rfl, lN_mul, nI_l (by omega), lN_add, nI_1, ih fz (k + 1) _ (by omega) (by omega)]
      rfl
theorem m_h6 {σ : St} {f : List Nat} (h : Mw σ 47 25 f) {u : Nat} (hu : u + 5 < f.length) : F_X7_heardSix σ (nI u) = some (σ, lN (six f u)) := by
  unfold F_X7_heardSix
  exact m_h6L (K := F_X7_heardSix_L34) h hu 6 fu 0 0 (by unfold fu; omega) rfl
theorem m_irL {σ : St} {f : List Nat} {u : Int64} {K : St → Int64 → Int32 → Option (St × Int32)} (h : Mw σ 47 25 f) (hl : f.length = f.getD 2 0 + 2) (h2 : 2 < f.length) : ∀ (m fz k a : Nat), m < fz → k + m = f.getD 2 0 → F_X7_isReply_L77 K fz σ u (nI a) (nI k) = K σ u (nI (a + sg f k m)) := by
  have hb := h.by
  have b2 := hb 2
  intro m
  induction m with
  | zero =>
    intro fz k a hf hk
    cases fz with
    | zero => omega
    | succ fz =>
      unfold F_X7_isReply_L77
      rw [show (2 : Int32) = nI 2 from rfl, bd_eq (m_hd h h2)]
      dsimp only
      rw [if_pos (nI_le (by omega) (by omega))]
      rfl
  | succ m ih =>
    intro fz k a hf hk
    cases fz with
    | zero => omega
    | succ fz =>
      have hbk := hb k
      unfold F_X7_isReply_L77
      rw [show (2 : Int32) = nI 2 from rfl, bd_eq (m_hd h (by omega))]
      dsimp only
      rw [if_neg (nI_ge (by omega) (by omega)), bd_eq (m_hd h (by omega))]
      dsimp only
      rw [nI_add, nI_1, ih fz (k + 1) _ (by omega) (by omega)]
      show K σ u (nI (a + f.getD k 0 + sg f (k + 1) m)) = K σ u (nI (a + (f.getD k 0 + sg f (k + 1) m)))
      rw [Nat.add_assoc]
theorem m_ir2 {σ : St} {f : List Nat} {id qc : Nat} (h : Mw σ 47 25 f) (h31 : σ.1 27 31 = nI qc) (hq : qc < 256) (hid : id < 2 ^ 48) (hp : pkOk f) : F_X7_isReply_L139 σ (lN id) 1 = some (σ, if isRep f id qc then 1 else 0) := by
  have hl0 : 26 ≤ f.length := by have := hp.1; have := hp.2.1; omega
  have hb := h.by
  have b15 := hb 15
  have s3 := six_lt hb 3
  have s9 := six_lt hb 9
  unfold F_X7_isReply_L139
  rw [if_neg (by decide), show (3 : Int32) = nI 3 from rfl, bd_eq (m_h6 h (u := 3) (by omega))]
  dsimp only
  rw [show F_X7_idOf σ 32766 1 = some (σ, lN SR) from by unfold F_X7_idOf; rw [show (Int32.toInt64 32766 <<< (Int32.toInt64 32 &&& 63) ||| 1 : Int64) = lN SR from by decide]]
  simp only [Option.bind_some]
  by_cases e3 : six f 3 = SR
  · rw [if_pos (cm_0.mpr (by rw [e3])), show (9 : Int32) = nI 9 from rfl, bd_eq (m_h6 h (u := 9) (by omega))]
    dsimp only
    by_cases e9 : six f 9 = id
    · rw [if_pos (cm_0.mpr (by rw [e9])), show (15 : Int32) = nI 15 from rfl, bd_eq (m_hd h (by omega))]
      dsimp only
      rw [h31]
      by_cases e15 : f.getD 15 0 = qc
      · rw [if_pos (congrArg nI e15), if_pos ⟨hp, e9, e3, e15⟩]
      · rw [if_neg (fun h9 => e15 ((nI_eq (by omega) (by omega)).mp h9)), if_neg (fun h9 => e15 h9.2.2.2)]
    · rw [if_neg (fun h9 => e9 ((pk_lEQ (by omega) (by omega)).mp (cm_0.mp h9))), if_neg (fun h9 => e9 h9.2.1)]
  · rw [if_neg (fun h9 => e3 ((pk_lEQ (b := SR) (by omega) (by decide)).mp (cm_0.mp h9))), if_neg (fun h9 => e3 h9.2.2.1)]
theorem m_isRep {σ : St} {f : List Nat} {id qc : Nat} (h : Mw σ 47 25 f) (h31 : σ.1 27 31 = nI qc) (hq : qc < 256) (hid : id < 2 ^ 48) : F_X7_isReply σ (lN id) = some (σ, if isRep f id qc then 1 else 0) := by
  have hl := h.2.1
  rw [show ln 47 = 300 from rfl] at hl
  have hb := h.by
  have b0 := hb 0
  have b1 := hb 1
  have b2 := hb 2
  have b23 := hb 23
  unfold F_X7_isReply
  rw [h.1]
  by_cases h26 : f.length < 26
  · rw [if_pos (show nI f.length < 26 from nI_lt (b := 26) h26 (by decide)), if_neg (fun h9 => by have := h9.1.1; have := h9.1.2.1; omega)]
  rw [if_neg (show ¬ nI f.length < 26 from nI_nlt (b := 26) (by omega) (by omega)), show (0 : Int32) = nI 0 from rfl, bd_eq (m_hd h (by omega))]
  dsimp only
  by_cases e0 : f.getD 0 0 = 204
  · rw [if_pos (show nI (f.getD 0 0) = 204 by rw [e0]; rfl), show (1 : Int32) = nI 1 from rfl, bd_eq (m_hd h (by omega))]
    dsimp only
    by_cases e1 : f.getD 1 0 = 1
    · rw [if_pos (show nI (f.getD 1 0) = nI 1 by rw [e1]), show (2 : Int32) = nI 2 from rfl, bd_eq (m_hd h (by omega))]
      dsimp only
      by_cases e2 : f.getD 2 0 < 24
      · rw [if_pos (show nI (f.getD 2 0) < 24 from nI_lt (b := 24) e2 (by decide)), if_neg (fun h9 => by have := h9.1.1; omega)]
      · rw [if_neg (show ¬ nI (f.getD 2 0) < 24 from nI_nlt (b := 24) (by omega) (by omega)), bd_eq (m_hd h (by omega))]
        dsimp only
        rw [h.1, nI_add]
        by_cases e3 : f.length = f.getD 2 0 + 2
        · rw [if_pos (show nI f.length = nI (f.getD 2 0 + 2) from congrArg nI e3), show (23 : Int32) = nI 23 from rfl, bd_eq (m_hd h (by omega))]
          dsimp only
          rw [bd_eq (m_hd h (by omega))]
          dsimp only
          rw [show (24 : Int32) = nI 24 from rfl, pk_sub (by omega)]
          by_cases e4 : f.getD 23 0 = f.getD 2 0 - 24
          · rw [if_pos (show nI (f.getD 23 0) = nI (f.getD 2 0 - 24) from congrArg nI e4), m_irL h e3 (by omega) (f.getD 2 0) fu 0 0 (by unfold fu; omega) (by omega), Nat.zero_add]
            unfold F_X7_isReply_L102
            have hs := sg_le hb (f.getD 2 0) 0
            have ht := two_lt hb (f.getD 2 0)
            rw [show (2 : Int32) = nI 2 from rfl, bd_eq (m_hd h (by omega))]
            dsimp only
            rw [bd_eq (m_hd h (by omega))]
            dsimp only
            rw [bd_eq (m_hd h (by omega))]
            dsimp only
            rw [nI_1, bd_eq (m_hd h (by omega))]
            dsimp only
            rw [show (65536 : Int32) = nI 65536 from rfl, pk_rem (by omega) (by decide) (by decide), Nat.mod_eq_of_lt (by omega), show (256 : Int32) = nI 256 from rfl, pk_mul, nI_add]
            change (if nI (sg f 0 (f.getD 2 0)) = nI (two f (f.getD 2 0)) then _ else _) = _
            by_cases e5 : sg f 0 (f.getD 2 0) = two f (f.getD 2 0)
            · rw [if_pos (congrArg nI e5)]
              exact m_ir2 h h31 hq hid ⟨by omega, e3, e0, e1, e4, e5⟩
            · rw [if_neg (fun h9 => e5 ((nI_eq (by omega) (by omega)).mp h9)), if_neg (fun h9 => e5 h9.1.2.2.2.2.2)]
              unfold F_X7_isReply_L139
              rw [if_pos rfl]; rfl
          · rw [if_neg (fun h9 => e4 ((nI_eq (by omega) (by omega)).mp h9)), if_neg (fun h9 => e4 h9.1.2.2.2.2.1)]
        · rw [if_neg (fun h9 => e3 ((nI_eq (by omega) (by omega)).mp h9)), if_neg (fun h9 => e3 h9.1.2.1)]
    · rw [if_neg (fun h9 => e1 ((nI_eq (by omega) (by omega)).mp h9)), if_neg (fun h9 => e1 h9.1.2.2.2.1)]
  · rw [if_neg (show ¬ nI (f.getD 0 0) = 204 from fun h9 => e0 ((nI_eq (b := 204) (by omega) (by omega)).mp h9)), if_neg (fun h9 => e0 h9.1.2.2.1)]
