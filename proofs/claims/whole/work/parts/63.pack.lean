/-! ===== PURE: packets, class's side ===== -/
def be (x : Nat) : Nat → List Nat
  | 0 => []
  | k + 1 => (x / 256 ^ k % 256) :: be x k
theorem be_len (x k : Nat) : (be x k).length = k := by
  induction k with
  | zero => rfl
  | succ k ih => show (be x k).length + 1 = k + 1; rw [ih]
theorem beL_lN {x : Nat} (h : x < 2 ^ 64) (k : Nat) : beL (lN x) k = be x k := by
  induction k with
  | zero => rfl
  | succ k ih => show ((lN x).toBitVec.toNat / 256 ^ k % 256) :: beL (lN x) k = _; rw [ih, wb_tn h]; rfl
theorem be2 (x : Nat) : be x 2 = [x / 256 % 256, x % 256] := by
  show [x / 256 ^ 1 % 256, x / 256 ^ 0 % 256] = _
  rw [Nat.pow_one, Nat.pow_zero, Nat.div_one]
/-- a packet's bytes but its sum -/
def pb (to fr cnt kind msgs part grp mat : Nat) (data : List Nat) : List Nat :=
  204 :: 1 :: (24 + data.length) :: (be to 6 ++ (be fr 6 ++ (cnt :: kind :: msgs :: (be part 2 ++ (grp :: (be mat 2 ++ (data.length :: data)))))))
theorem pb_len {to fr cnt kind msgs part grp mat : Nat} {data : List Nat} : (pb to fr cnt kind msgs part grp mat data).length = 24 + data.length := by
  simp [pb, be_len]; omega
def pkt (to fr cnt kind msgs part grp mat : Nat) (data : List Nat) : List Nat :=
  pb to fr cnt kind msgs part grp mat data ++ be (sg (pb to fr cnt kind msgs part grp mat data) 0 (24 + data.length)) 2
theorem pkt_len {to fr cnt kind msgs part grp mat : Nat} {data : List Nat} : (pkt to fr cnt kind msgs part grp mat data).length = 26 + data.length := by
  simp [pkt, be_len, pb_len]; omega
theorem wput {β : Type} {σ0 σ : St} {b : Nat} {l : List Nat} {v : Int32} {x : Nat} {k : St → Option β} {P : β → Prop} (h : Rw σ b l) (he : Eqx [b, b + 1] σ0 σ) (hl : l.length < ln (b + 1)) (hv : v = nI x) (hx : x < 256) (hk : ∀ τ, Rw τ b (l ++ [x]) → Eqx [b, b + 1] σ0 τ → Ok (k τ) P) : Ok ((F_X3_put b σ v).bind k) P := by
  obtain ⟨τ, e1, e2, e3⟩ := f_put h hl v
  rw [e1]
  refine hk τ ?_ (Eqx.tr he e3)
  rw [hv, lo8_nI (by omega), Nat.mod_eq_of_lt hx] at e2
  exact e2
theorem wpn {β : Type} {σ0 σ : St} {b : Nat} {l : List Nat} {v : Int64} {x m : Nat} {c : Int32} {k : St → Option β} {P : β → Prop} (h : Rw σ b l) (he : Eqx [b, b + 1] σ0 σ) (hc : c = nI m) (hm : m ≤ 8) (hl : l.length + m ≤ ln (b + 1)) (hv : v = lN x) (hx : x < 2 ^ 64) (hk : ∀ τ, Rw τ b (l ++ be x m) → Eqx [b, b + 1] σ0 τ → Ok (k τ) P) : Ok ((F_X3_putNumber b σ v c).bind k) P := by
  obtain ⟨τ, e1, e2, e3⟩ := f_putNumber (x := v) (K := F_X3_putNumber_L59 b) m fu σ l hm (by unfold fu; omega) h hl
  have e4 : F_X3_putNumber b σ v c = some τ := by rw [hc]; exact e1
  rw [e4]
  refine hk τ ?_ (Eqx.tr he e3)
  rw [hv, beL_lN hx] at e2
  exact e2
theorem wcut {β : Type} {σ0 σ : St} {b : Nat} {l : List Nat} {k : St → Option β} {P : β → Prop} (h : Rw σ b l) (he : Eqx [b, b + 1] σ0 σ) (hk : ∀ τ, Rw τ b [] → Eqx [b, b + 1] σ0 τ → Ok (k τ) P) : Ok ((F_X3_cut b σ 0).bind k) P := by
  obtain ⟨τ, e1, e2, e3⟩ := f_cut0 h
  rw [e1]
  exact hk τ e2 (Eqx.tr he (Eqx.mono e3 (by simp)))
/-- what a packet's object says -/
def Pk (σ : St) (r to fr cnt kind msgs part grp mat : Nat) (data : List Nat) : Prop :=
  (σ.2 r 0 = lN to ∧ to < 2 ^ 48) ∧ (σ.2 r 1 = lN fr ∧ fr < 2 ^ 48) ∧ (σ.1 r 2 = nI cnt ∧ cnt < 256) ∧ (σ.1 r 3 = nI kind ∧ kind < 256) ∧ (σ.1 r 4 = nI msgs ∧ msgs < 256) ∧ (σ.1 r 5 = nI part ∧ part < 65536) ∧ (σ.1 r 6 = nI grp ∧ grp < 256) ∧ (σ.1 r 7 = nI mat ∧ mat < 65536) ∧ Rw σ (r + 1) data ∧ ln (r + 2) = 231
theorem f_writeL {r b : Nat} {K : St → Int32 → Option St} {P : St → Prop} {d l : List Nat} {u : Int32} (hr : b ≠ r + 1) (hr2 : b ≠ r + 2) (hr3 : b + 1 ≠ r + 1) (hl : l.length + d.length ≤ ln (b + 1)) {σ0 : St} (hK : ∀ τ, Rw τ b (l ++ d) → Eqx [b, b + 1] σ0 τ → Ok (K τ u) P) : ∀ (m fz k : Nat) (σ : St), m < fz → k + m = d.length → Rw σ (r + 1) d → Rw σ b (l ++ d.take k) → Eqx [b, b + 1] σ0 σ → Ok (F_X2_writeTo_L118 r b K fz σ u (nI k)) P := by
  intro m
  induction m with
  | zero =>
    intro fz k σ hf hk hd h he
    cases fz with
    | zero => omega
    | succ fz =>
      have h1 := hd.2.1
      have h2 := hd.2.2.1
      unfold F_X2_writeTo_L118
      rw [bd_eq (f_size hd)]
      refine Ok.tt ((nI_leI (by omega) (by omega)).mpr (by omega)) ?_
      rw [List.take_of_length_le (by omega)] at h
      exact hK σ h he
  | succ m ih =>
    intro fz k σ hf hk hd h he
    cases fz with
    | zero => omega
    | succ fz =>
      have h1 := hd.2.1
      have h2 := hd.2.2.1
      unfold F_X2_writeTo_L118
      rw [bd_eq (f_size hd)]
      refine Ok.ff (fun h9 => by rw [nI_leI (by omega) (by omega)] at h9; omega) ?_
      rw [bd_eq (f_at hd (by omega))]
      have hlen : (l ++ d.take k).length = l.length + k := by rw [List.length_append, List.length_take]; omega
      refine wput (σ0 := σ) h Eqx.rf (by omega) rfl (hd.lt k) (fun τ e1 e2 => ?_)
      rw [List.append_assoc, take_succ' (by omega)] at e1
      have e3 := ih fz (k + 1) τ (by omega) (by omega) (hd.keep e2 (by simp; omega) (by simp; omega)) e1 (Eqx.tr he e2)
      rw [nI_1]
      exact e3
theorem f_writeTo {σ : St} {r b to fr cnt kind msgs part grp mat : Nat} {d l : List Nat} (hr : b ≠ r ∧ b ≠ r + 1 ∧ b ≠ r + 2 ∧ b + 1 ≠ r) (hb : 257 ≤ ln (b + 1)) (h : Pk σ r to fr cnt kind msgs part grp mat d) (h0 : Rw σ b l) : Ok (F_X2_writeTo r b σ) (fun τ => Rw τ b (pkt to fr cnt kind msgs part grp mat d) ∧ Eqx [b, b + 1] σ τ) := by
  obtain ⟨⟨a1, c1⟩, ⟨a2, c2⟩, ⟨a3, c3⟩, ⟨a4, c4⟩, ⟨a5, c5⟩, ⟨a6, c6⟩, ⟨a7, c7⟩, ⟨a8, c8⟩, hd, h231⟩ := h
  obtain ⟨hr0, hr1, hr2, hr3⟩ := hr
  have hd1 := hd.2.1
  rw [show r + 1 + 1 = r + 2 from rfl, h231] at hd1
  have hn : ∀ {τ : St}, Eqx [b, b + 1] σ τ → τ.1 r = σ.1 r ∧ τ.2 r = σ.2 r := fun he => he r (by simp; omega)
  have hcap := h0.2.2.1
  unfold F_X2_writeTo
  rw [bd_eq (f_size hd)]
  refine wcut h0 Eqx.rf (fun τ0 w0 e0 => ?_)
  refine wput w0 e0 (by simp; omega) (x := 204) rfl (by decide) (fun τ1 w1 e1 => ?_)
  refine wput w1 e1 (by simp; omega) (x := 1) rfl (by decide) (fun τ2 w2 e2 => ?_)
  refine wput w2 e2 (by simp; omega) (x := 24 + d.length) (nI_add 24 d.length) (by omega) (fun τ3 w3 e3 => ?_)
  refine wpn w3 e3 (m := 6) rfl (by decide) (by simp; omega) (x := to) (by rw [(hn e3).2]; exact a1) (by omega) (fun τ4 w4 e4 => ?_)
  refine wpn w4 e4 (m := 6) rfl (by decide) (by simp [be_len]; omega) (x := fr) (by rw [(hn e4).2]; exact a2) (by omega) (fun τ5 w5 e5 => ?_)
  refine wput w5 e5 (by simp [be_len]; omega) (x := cnt) (by rw [(hn e5).1]; exact a3) c3 (fun τ6 w6 e6 => ?_)
  refine wput w6 e6 (by simp [be_len]; omega) (x := kind) (by rw [(hn e6).1]; exact a4) c4 (fun τ7 w7 e7 => ?_)
  refine wput w7 e7 (by simp [be_len]; omega) (x := msgs) (by rw [(hn e7).1]; exact a5) c5 (fun τ8 w8 e8 => ?_)
  refine wpn w8 e8 (m := 2) rfl (by decide) (by simp [be_len]; omega) (x := part) (by rw [(hn e8).1, a6, nI_l (by omega)]) (by omega) (fun τ9 w9 e9 => ?_)
  refine wput w9 e9 (by simp [be_len]; omega) (x := grp) (by rw [(hn e9).1]; exact a7) c7 (fun τ10 w10 e10 => ?_)
  refine wpn w10 e10 (m := 2) rfl (by decide) (by simp [be_len]; omega) (x := mat) (by rw [(hn e10).1, a8, nI_l (by omega)]) (by omega) (fun τ11 w11 e11 => ?_)
  rw [bd_eq (f_size (hd.keep e11 (by simp; omega) (by simp; omega)))]
  refine wput w11 e11 (by simp [be_len]; omega) (x := d.length) rfl (by omega) (fun τ12 w12 e12 => ?_)
  refine f_writeL (d := d) hr1 hr2 (by omega) ?hl (σ0 := σ) (fun τ w e => ?_) d.length fu 0 τ12 (by unfold fu; omega) (by omega) (hd.keep e12 (by simp; omega) (by simp; omega)) (by rw [List.take_zero, List.append_nil]; exact w12) e12
  case hl => simp [be_len]; omega
  have hq : ∀ x, x = pb to fr cnt kind msgs part grp mat d → Rw τ b x → Rw τ b (pb to fr cnt kind msgs part grp mat d) := fun x hx hy => hx ▸ hy
  have w' := hq _ (by simp [pb]) w
  unfold F_X2_writeTo_L147
  have hs := f_sum w' (a := 0) (m := 24 + d.length) (by rw [pb_len]; omega)
  have hsl := sg_le w'.by (24 + d.length) 0
  rw [Nat.zero_add] at hs
  rw [show (24 : Int32) + nI d.length = nI (24 + d.length) from nI_add 24 d.length, lit 0, bd_eq hs, Nat.mod_eq_of_lt (by omega)]
  refine wpn w' e (m := 2) rfl (by decide) (by rw [pb_len]; omega) (x := sg (pb to fr cnt kind msgs part grp mat d) 0 (24 + d.length)) (nI_l (by omega)) (by omega) (fun τ13 w13 e13 => ?_)
  exact Ok.so ⟨w13, e13⟩
/-- the bytes are a packet's -/
abbrev pkOk (f : List Nat) : Prop := 24 ≤ f.getD 2 0 ∧ f.length = f.getD 2 0 + 2 ∧ f.getD 0 0 = 204 ∧ f.getD 1 0 = 1 ∧ f.getD 23 0 = f.getD 2 0 - 24 ∧ sg f 0 (f.getD 2 0) = two f (f.getD 2 0)
/-- a packet's data -/
def dt (f : List Nat) : List Nat := (f.drop 24).take (f.getD 2 0 - 24)
theorem dt_len {f : List Nat} (h : pkOk f) : (dt f).length = f.getD 23 0 := by
  obtain ⟨h1, h2, -, -, h5, -⟩ := h
  unfold dt
  rw [List.length_take, List.length_drop]; omega
theorem nD_drop (l : List Nat) (k j : Nat) : (l.drop k).getD j 0 = l.getD (k + j) 0 := by
  rw [List.getD_eq_getElem?_getD, List.getD_eq_getElem?_getD, List.getElem?_drop]
theorem dt_at {f : List Nat} {k : Nat} (h : k < f.getD 2 0 - 24) : (dt f).getD k 0 = f.getD (24 + k) 0 := by
  unfold dt
  rw [nD_take, if_pos h, nD_drop]
theorem f_readL {r b : Nat} {K : St → Option (St × Int32)} {P : St × Int32 → Prop} {f : List Nat} (hr : b ≠ r + 1) (hr2 : b ≠ r + 2) (hr3 : b + 1 ≠ r + 1) (h231 : ln (r + 2) = 231) (hf2 : f.getD 2 0 ≤ f.length) {σ0 : St} (hK : ∀ τ, Rw τ (r + 1) (dt f) → Eqx [r + 1, r + 2] σ0 τ → Ok (K τ) P) : ∀ (m fz k : Nat) (σ : St), m < fz → 24 + k + m = f.getD 2 0 → Rw σ b f → Rw σ (r + 1) ((f.drop 24).take k) → Eqx [r + 1, r + 2] σ0 σ → Ok (F_X2_readFrom_L176 r b K fz σ (nI (f.getD 2 0)) (nI (24 + k))) P := by
  intro m
  induction m with
  | zero =>
    intro fz k σ hf hk hb h he
    cases fz with
    | zero => omega
    | succ fz =>
      have hx := hb.lt 2
      unfold F_X2_readFrom_L176
      refine Ok.tt ((nI_leI (by omega) (by omega)).mpr (by omega)) ?_
      rw [show k = f.getD 2 0 - 24 by omega] at h
      exact hK σ h he
  | succ m ih =>
    intro fz k σ hf hk hb h he
    cases fz with
    | zero => omega
    | succ fz =>
      have hx := hb.lt 2
      unfold F_X2_readFrom_L176
      refine Ok.ff (fun h9 => by rw [nI_leI (by omega) (by omega)] at h9; omega) ?_
      rw [bd_eq (f_at hb (by omega))]
      have hlen : ((f.drop 24).take k).length = k := by rw [List.length_take, List.length_drop]; omega
      obtain ⟨τ, e0, e1, e2⟩ := f_put h (by rw [hlen, show r + 1 + 1 = r + 2 from rfl, h231]; omega) (nI (f.getD (24 + k) 0))
      have hx2 := hb.lt (24 + k)
      rw [lo8_nI (by omega), Nat.mod_eq_of_lt (by omega), ← nD_drop, take_succ' (by rw [List.length_drop]; omega)] at e1
      rw [bd_eq e0, nI_1]
      exact ih fz (k + 1) τ (by omega) (by omega) (hb.keep e2 (by simp; omega) (by simp; omega)) e1 (Eqx.tr he e2)
/-- what a packet's object says of the bytes that it has read -/
def Hd (σ : St) (r : Nat) (f : List Nat) : Prop := Pk σ r (six f 3) (six f 9) (f.getD 15 0) (f.getD 16 0) (f.getD 17 0) (two f 18) (f.getD 20 0) (two f 21) (dt f)
theorem lN_i' (n : Nat) : Int64.toInt32 (lN n) = nI n := lN_i n
theorem f_readFrom {σ : St} {r b : Nat} {f d : List Nat} (hr : b ≠ r ∧ b ≠ r + 1 ∧ b ≠ r + 2 ∧ b + 1 ≠ r) (h231 : ln (r + 2) = 231) (h : Rw σ b f) (h0 : Rw σ (r + 1) d) : Ok (F_X2_readFrom r b σ) (fun y => Eqx [r, r + 1, r + 2] σ y.1 ∧ (∃ d', Rw y.1 (r + 1) d') ∧ ((pkOk f ∧ y.2 = 1 ∧ Hd y.1 r f) ∨ (¬ pkOk f ∧ y.2 = 0))) := by
  obtain ⟨hr0, hr1, hr2, hr3⟩ := hr
  have g1 := h.2.1
  have g2 := h.2.2.1
  have hb := h.by
  have b2 := hb 2
  unfold F_X2_readFrom
  refine Ok.eq (f_at h (k := 2) (by decide)) ?_
  dsimp only
  refine Ok.it (fun c => Ok.so ⟨fun _ _ => ⟨rfl, rfl⟩, ⟨d, h0⟩, Or.inr ⟨fun h9 => ?_, rfl⟩⟩) (fun c => ?_)
  · rw [lit, nI_ltI (by omega) (by omega)] at c; omega
  rw [lit, nI_ltI (by omega) (by omega)] at c
  refine Ok.eq (f_size h) ?_
  dsimp only
  refine Ok.it (fun c1 => ?_) (fun c1 => Ok.so ⟨fun _ _ => ⟨rfl, rfl⟩, ⟨d, h0⟩, Or.inr ⟨fun h9 => ?_, rfl⟩⟩)
  rotate_left
  · rw [lit, nI_add, nI_eq (by omega) (by omega)] at c1; omega
  rw [lit, nI_add, nI_eq (by omega) (by omega)] at c1
  refine Ok.eq (f_at h (k := 0) (by decide)) ?_
  dsimp only
  refine Ok.it (fun c2 => ?_) (fun c2 => Ok.so ⟨fun _ _ => ⟨rfl, rfl⟩, ⟨d, h0⟩, Or.inr ⟨fun h9 => ?_, rfl⟩⟩)
  rotate_left
  · have := hb 0; rw [lit, nI_eq (by omega) (by omega)] at c2; omega
  have b0 := hb 0
  rw [lit, nI_eq (by omega) (by omega)] at c2
  refine Ok.eq (f_at h (k := 1) (by decide)) ?_
  dsimp only
  refine Ok.it (fun c3 => ?_) (fun c3 => Ok.so ⟨fun _ _ => ⟨rfl, rfl⟩, ⟨d, h0⟩, Or.inr ⟨fun h9 => ?_, rfl⟩⟩)
  rotate_left
  · have := hb 1; rw [lit, nI_eq (by omega) (by omega)] at c3; omega
  have b1 := hb 1
  rw [lit, nI_eq (by omega) (by omega)] at c3
  refine Ok.eq (f_at h (k := 23) (by decide)) ?_
  dsimp only
  have b23 := hb 23
  refine Ok.it (fun c4 => ?_) (fun c4 => Ok.so ⟨fun _ _ => ⟨rfl, rfl⟩, ⟨d, h0⟩, Or.inr ⟨fun h9 => ?_, rfl⟩⟩)
  rotate_left
  · rw [lit, pk_sub (by omega), nI_eq (by omega) (by omega)] at c4; omega
  rw [lit, pk_sub (by omega), nI_eq (by omega) (by omega)] at c4
  have hs := f_sum h (a := 0) (m := f.getD 2 0) (by omega)
  rw [Nat.zero_add] at hs
  have hsl := sg_le hb (f.getD 2 0) 0
  refine Ok.eq hs ?_
  dsimp only
  refine Ok.eq (f_number h (a := f.getD 2 0) (m := 2) (by decide) (by omega)) ?_
  dsimp only
  rw [bn2, nI_l (by omega), Nat.mod_eq_of_lt (by omega)]
  have htw := two_lt hb (f.getD 2 0)
  refine Ok.it (fun c5 => ?_) (fun c5 => Ok.so ⟨fun _ _ => ⟨rfl, rfl⟩, ⟨d, h0⟩, Or.inr ⟨fun h9 => ?_, rfl⟩⟩)
  rotate_left
  · rw [cm_0, pk_lEQ (by omega) (by omega)] at c5; exact c5 h9.2.2.2.2.2
  rw [cm_0, pk_lEQ (by omega) (by omega)] at c5
  have hok : pkOk f := ⟨by omega, c1, c2, c3, c4, c5⟩
  have kp : ∀ {τ : St}, Eqx [r, r + 1, r + 2] σ τ → Rw τ b f := fun he => h.keep he (by simp; omega) (by simp; omega)
  refine Ok.eq (f_number h (a := 3) (m := 6) (by decide) (by decide)) ?_
  refine Ok.nm ?_
  dsimp only
  have e1 : Eqx [r, r + 1, r + 2] σ (sJ σ r 0 (lN (bn 0 f 3 6))) := Eqx.sJ (by simp)
  refine Ok.eq (f_number (kp e1) (a := 9) (m := 6) (by decide) (by decide)) ?_
  refine Ok.nm ?_
  dsimp only
  have e2 := Eqx.tr e1 (Eqx.sJ (L := [r, r + 1, r + 2]) (k := r) (j := 1) (v := lN (bn 0 f 9 6)) (by simp))
  refine Ok.eq (f_at (kp e2) (k := 15) (by decide)) ?_
  refine Ok.nm ?_
  dsimp only
  have e3 := Eqx.tr e2 (Eqx.sI (L := [r, r + 1, r + 2]) (k := r) (j := 2) (v := nI (f.getD 15 0)) (by simp))
  refine Ok.eq (f_at (kp e3) (k := 16) (by decide)) ?_
  refine Ok.nm ?_
  dsimp only
  have e4 := Eqx.tr e3 (Eqx.sI (L := [r, r + 1, r + 2]) (k := r) (j := 3) (v := nI (f.getD 16 0)) (by simp))
  refine Ok.eq (f_at (kp e4) (k := 17) (by decide)) ?_
  refine Ok.nm ?_
  dsimp only
  have e5 := Eqx.tr e4 (Eqx.sI (L := [r, r + 1, r + 2]) (k := r) (j := 4) (v := nI (f.getD 17 0)) (by simp))
  refine Ok.eq (f_number (kp e5) (a := 18) (m := 2) (by decide) (by decide)) ?_
  refine Ok.nm ?_
  dsimp only
  rw [lN_i', bn2]
  have e6 := Eqx.tr e5 (Eqx.sI (L := [r, r + 1, r + 2]) (k := r) (j := 5) (v := nI (two f 18)) (by simp))
  refine Ok.eq (f_at (kp e6) (k := 20) (by decide)) ?_
  refine Ok.nm ?_
  dsimp only
  have e7 := Eqx.tr e6 (Eqx.sI (L := [r, r + 1, r + 2]) (k := r) (j := 6) (v := nI (f.getD 20 0)) (by simp))
  refine Ok.eq (f_number (kp e7) (a := 21) (m := 2) (by decide) (by decide)) ?_
  refine Ok.nm ?_
  dsimp only
  rw [lN_i', bn2]
  have e8 := Eqx.tr e7 (Eqx.sI (L := [r, r + 1, r + 2]) (k := r) (j := 7) (v := nI (two f 21)) (by simp))
  refine wcut (σ0 := sI (sI (sI (sI (sI (sI (sJ (sJ σ r 0 (lN (bn 0 f 3 6))) r 1 (lN (bn 0 f 9 6))) r 2 (nI (f.getD 15 0))) r 3 (nI (f.getD 16 0))) r 4 (nI (f.getD 17 0))) r 5 (nI (two f 18))) r 6 (nI (f.getD 20 0))) r 7 (nI (two f 21))) (l := d) (Rw.keep (L := [r]) (σ := σ) h0 (Eqx.tr (Eqx.tr (Eqx.tr (Eqx.tr (Eqx.tr (Eqx.tr (Eqx.tr (Eqx.sJ (by simp)) (Eqx.sJ (by simp))) (Eqx.sI (by simp))) (Eqx.sI (by simp))) (Eqx.sI (by simp))) (Eqx.sI (by simp))) (Eqx.sI (by simp))) (Eqx.sI (by simp))) (by simp) (by simp; omega)) Eqx.rf (fun τ0 q0 q1 => ?_)
  have q2 := Eqx.tr e8 (Eqx.mono (M := [r, r + 1, r + 2]) q1 (by simp))
  refine f_readL (f := f) (σ0 := τ0) hr1 hr2 (by omega) h231 (by omega) (fun τ p1 p2 => ?_) (f.getD 2 0 - 24) fu 0 τ0 (by unfold fu; omega) (by omega) (kp q2) (by rw [List.take_zero]; exact q0) Eqx.rf
  have p3 := Eqx.tr q1 p2
  have hrr := p3 r (by simp; omega)
  refine Ok.so ⟨Eqx.tr q2 (Eqx.mono p2 (by simp)), ⟨dt f, p1⟩, Or.inl ⟨hok, rfl, ?_⟩⟩
  have s3 := six_lt hb 3
  have s9 := six_lt hb 9
  have t18 := two_lt hb 18
  have t21 := two_lt hb 21
  refine ⟨⟨?_, s3⟩, ⟨?_, s9⟩, ⟨?_, hb 15⟩, ⟨?_, hb 16⟩, ⟨?_, hb 17⟩, ⟨?_, t18⟩, ⟨?_, hb 20⟩, ⟨?_, t21⟩, p1, h231⟩ <;> first | rw [hrr.1] | rw [hrr.2]
  all_goals simp [sI_2, sJ_1, sI_if, sJ_if, six]
theorem rest_mask {x : Nat} (h : x < 2 ^ 63) : lN x &&& 4294967295 = lN (x % 2 ^ 32) := wb_mask (k := 32) (by omega) (by decide)
theorem f_isCall {σ : St} {r to : Nat} (h : σ.2 r 0 = lN to) (ht : to < 2 ^ 48) : F_X2_isCall r σ = some (σ, if to % 2 ^ 32 = 2 ^ 32 - 1 then 1 else 0) := by
  unfold F_X2_isCall F_X6_restOf
  rw [h, rest_mask (by omega)]
  show (if lg_cmp (lN (to % 2 ^ 32)) 4294967295 = 0 then some (σ, 1) else some (σ, 0)) = _
  by_cases hc : to % 2 ^ 32 = 2 ^ 32 - 1
  · rw [if_pos hc, if_pos (cm_0.mpr (by rw [hc]; rfl))]
  · rw [if_neg hc, if_neg (fun h9 => by rw [cm_0, lit6, pk_lEQ (by omega) (by omega)] at h9; omega)]
