/-! ===== PURE: ask ===== -/
theorem CX.fq {σ τ : St} {n : Nat} {X : Xs} {l : List Nat} (hX : CX σ n X) (he : Fr (fun r _ => r = 1 ∨ r = 9 ∨ r = 10 ∨ r = 11) σ τ) (hr : Rw τ 10 l) : CX τ n X := by
  obtain ⟨x1, x2, ⟨x3, x3b⟩, x4, x5, x6, ⟨d, x7⟩, ⟨v, x8⟩, ⟨h, x9⟩, -, ⟨g, x11⟩⟩ := hX
  exact ⟨by rw [he.i (by omega)]; exact x1, by rw [he.i (by omega)]; exact x2, ⟨by rw [he.i (by omega)]; exact x3, x3b⟩, fun j hj => (x4 j hj).fr he (fun r k g1 g2 h => by unfold qq at g1; omega), x5.fr he (fun j => by omega) (fun j => by omega), ⟨by rw [he.i (by omega)]; exact x6.1, x6.2.1, fun j hj => by rw [he.i (by omega), he.i (by omega)]; exact x6.2.2 j hj⟩, ⟨d, x7.fr he (fun j => by omega) (fun j => by omega)⟩, ⟨v, x8.fr he (fun j => by omega) (fun j => by omega)⟩, ⟨h, x9.fr he (fun j => by omega) (fun j => by omega)⟩, ⟨l, hr⟩, ⟨g, x11.fr he (fun j => by omega) (fun j => by omega)⟩⟩
theorem m_inC {σ : St} {x c : Int32} : F_X7_in σ x.toInt64 0 c.toInt64 = some (σ, if ¬ x < 0 ∧ x ≤ c then 1 else 0) := by
  rw [m_in]
  have e1 : ((0 : Int64) ≤ x.toInt64 ∧ x.toInt64 ≤ c.toInt64) ↔ (¬ x < 0 ∧ x ≤ c) := by
    have h1 : ((0 : Int64) ≤ x.toInt64) ↔ (0 ≤ x) := i64_le (x := 0) (y := x)
    rw [h1, i64_le, Int32.le_iff_toInt_le, Int32.lt_iff_toInt_lt, Int32.le_iff_toInt_le]
    omega
  by_cases h : ¬ x < 0 ∧ x ≤ c
  · rw [if_pos h, if_pos (e1.mpr h)]
  · rw [if_neg h, if_neg (fun h9 => h (e1.mp h9))]
theorem m_inD {σ : St} {x c : Int64} : F_X7_in σ x 0 c = some (σ, if ¬ x < 0 ∧ x ≤ c then 1 else 0) := by
  rw [m_in]
  have e1 : ((0 : Int64) ≤ x ∧ x ≤ c) ↔ (¬ x < 0 ∧ x ≤ c) := by
    rw [Int64.le_iff_toInt_le, Int64.lt_iff_toInt_lt, Int64.le_iff_toInt_le]
    omega
  by_cases h : ¬ x < 0 ∧ x ≤ c
  · rw [if_pos h, if_pos (e1.mpr h)]
  · rw [if_neg h, if_neg (fun h9 => h (e1.mp h9))]
theorem lt_nle {x c : Int32} : c < x ↔ ¬ x ≤ c := by
  rw [Int32.lt_iff_toInt_lt, Int32.le_iff_toInt_le]; omega
abbrev akOk (x1 : Int32) (x2 : Int64) (x4 x5 x6 : Int32) : Prop := (¬ x1 < 0 ∧ x1 ≤ 65535) ∧ (¬ x2 < 0 ∧ x2 ≤ 4294967295) ∧ (¬ x4 < 0 ∧ x4 ≤ 65535) ∧ (¬ x5 < 0 ∧ x5 ≤ 255) ∧ (¬ x6 < 0 ∧ x6 ≤ 65535)
theorem ak_bad {σ : St} {n : Nat} {x1 x4 x5 x6 : Int32} {x2 : Int64} (h : ¬ akOk x1 x2 x4 x5 x6) : F_X6_ask n σ x1 x2 x4 x5 x6 = some (σ, 1, 0) := by
  unfold F_X6_ask F_X6_ask_L24 F_X6_ask_L71
  by_cases a1 : x1 < 0
  · rw [if_pos a1]
  rw [if_neg a1]
  by_cases b1 : 65535 < x1
  · rw [if_pos b1]
  rw [if_neg b1]
  by_cases a2 : x2 < 0
  · rw [if_pos (cm_lt.mpr a2)]
  rw [if_neg (fun h9 => a2 (cm_lt.mp h9))]
  by_cases b2 : x2 ≤ 4294967295
  rotate_left
  · rw [if_neg (fun h9 => b2 (cm_le.mp h9))]
  rw [if_pos (cm_le.mpr b2)]
  by_cases a4 : x4 < 0
  · rw [if_pos a4]
  rw [if_neg a4]
  by_cases b4 : 65535 < x4
  · rw [if_pos b4]
  rw [if_neg b4]
  by_cases a5 : x5 < 0
  · rw [if_pos a5]
  rw [if_neg a5]
  by_cases b5 : 255 < x5
  · rw [if_pos b5]
  rw [if_neg b5]
  by_cases a6 : x6 < 0
  · rw [if_pos a6]
  rw [if_neg a6]
  by_cases b6 : x6 ≤ 65535
  · rw [lt_nle, Classical.not_not] at b1 b4 b5
    exact absurd ⟨⟨a1, b1⟩, ⟨a2, b2⟩, ⟨a4, b4⟩, ⟨a5, b5⟩, a6, b6⟩ h
  · rw [if_neg b6]
theorem if10 {c : Prop} [Decidable c] : ((if c then (1 : Int32) else 0) = 0) ↔ ¬ c := by
  by_cases h : c
  · rw [if_pos h]; exact ⟨fun h9 => absurd h9 (by decide), fun h9 => absurd h h9⟩
  · rw [if_neg h]; exact ⟨fun _ => h, fun _ => rfl⟩
theorem mk_ask {σ : St} {x1 x4 x5 x6 : Int32} {x2 : Int64} : F_X7_ask σ x1 x2 x4 x5 x6 = F_X7_ask_L68 σ x1 x2 x4 x5 x6 (if akOk x1 x2 x4 x5 x6 then 1 else 0) := by
  unfold F_X7_ask F_X7_ask_L67
  rw [show (65535 : Int64) = (65535 : Int32).toInt64 from rfl, show (255 : Int64) = (255 : Int32).toInt64 from rfl, bd_eq m_inC]
  dsimp only
  by_cases h1 : ¬ x1 < 0 ∧ x1 ≤ 65535
  rotate_left
  · rw [if_pos (if10.mpr h1), if_neg (fun h9 => h1 h9.1)]
  rw [if_neg (fun h9 => if10.mp h9 h1), bd_eq m_inD]
  dsimp only
  by_cases h2 : ¬ x2 < 0 ∧ x2 ≤ 4294967295
  rotate_left
  · rw [if_pos (if10.mpr h2), if_neg (fun h9 => h2 h9.2.1)]
  rw [if_neg (fun h9 => if10.mp h9 h2), bd_eq m_inC]
  dsimp only
  by_cases h4 : ¬ x4 < 0 ∧ x4 ≤ 65535
  rotate_left
  · rw [if_pos (if10.mpr h4), if_neg (fun h9 => h4 h9.2.2.1)]
  rw [if_neg (fun h9 => if10.mp h9 h4), bd_eq m_inC]
  dsimp only
  by_cases h5 : ¬ x5 < 0 ∧ x5 ≤ 255
  rotate_left
  · rw [if_pos (if10.mpr h5), if_neg (fun h9 => h5 h9.2.2.2.1)]
  rw [if_neg (fun h9 => if10.mp h9 h5), bd_eq m_inC]
  dsimp only
  by_cases h6 : ¬ x6 < 0 ∧ x6 ≤ 65535
  rotate_left
  · rw [if_pos (if10.mpr h6), if_neg (fun h9 => h6 h9.2.2.2.2)]
  rw [if_neg (fun h9 => if10.mp h9 h6), if_pos ⟨h1, h2, h4, h5, h6⟩]
theorem nn_le {x : Int32} {c : Nat} (hc : c < 2 ^ 31) (h1 : ¬ x < 0) (h2 : x ≤ nI c) : ∃ k, k ≤ c ∧ x = nI k := by
  obtain ⟨k, hk, rfl⟩ := i32_nn h1
  refine ⟨k, ?_, rfl⟩
  apply Classical.byContradiction
  intro h9
  exact absurd h2 (nI_ge (by omega) hk)
theorem jid {σ : St} {m r : Nat} (hm : m ≤ 65535) (hr : r ≤ 4294967295) : (((Int32.toInt64 (nI m)) <<< ((Int32.toInt64 32) &&& 63)) ||| lN r) = lN (m * 2 ^ 32 + r) := by
  rw [nI_l (by omega), show (32 : Int32) = nI 32 from rfl, wb_shl m (by decide)]
  exact wb_ors (k := 32) (by omega) (by omega)
def akV (a : List Nat) (to c : Nat) : Int32 := if a.length = 0 then -1 else if isRep a to c then nI (a.getD 16 0) else -2
theorem akC {σ : St} {n bg m r pt g mt o : Nat} {X : Xs} {Y : Ys} {tp : List Nat} (hn : n ≤ 24) (hC : CH σ n X Y bg tp) (hW : WX o n X) (ho : o + 1 ≤ 1000) (hno : X.1 + 1 < 2 ^ 31) (hm : m ≤ 65535) (hr : r ≤ 4294967295) (hp : pt ≤ 65535) (hg : g ≤ 255) (hmt : mt ≤ 65535) : Ok (F_X6_ask n σ (nI m) (lN r) (nI pt) (nI g) (nI mt)) (Cr Int32.toInt64 1 σ n (askX n X (m * 2 ^ 32 + r) pt g mt (tp.take 231)) Y bg [] 0 (akV (askX n X (m * 2 ^ 32 + r) pt g mt (tp.take 231)).2.2.2.1 (m * 2 ^ 32 + r) (askX n X (m * 2 ^ 32 + r) pt g mt (tp.take 231)).2.1).toInt64) := by
  have ltp := hC.2.2.2.1
  rw [show ln (1 + 1) = 520 from rfl] at ltp
  have hto : m * 2 ^ 32 + r < 2 ^ 48 := by omega
  unfold F_X6_ask
  refine Ok.ff (nI_pos (by omega)) (Ok.ff (show ¬ (65535 : Int32) < _ from nI_nlt (a := 65535) hm (by decide)) (Ok.ff (fun h9 => by have := (pk_lLT (a := r) (b := 0) (by omega) (by decide)).mp (cm_lt.mp h9); omega) (Ok.tt (cm_le.mpr ((pk_lLE (b := 4294967295) (by omega) (by decide)).mpr hr)) (Ok.ff (nI_pos (by omega)) (Ok.ff (show ¬ (65535 : Int32) < _ from nI_nlt (a := 65535) hp (by decide)) (Ok.ff (nI_pos (by omega)) (Ok.ff (show ¬ (255 : Int32) < _ from nI_nlt (a := 255) hg (by decide)) (Ok.ff (nI_pos (by omega)) (Ok.tt (show _ ≤ (65535 : Int32) from nI_le (b := 65535) hmt (by decide)) ?_)))))))))
  have hj : F_X6_joinedId σ (nI m) (lN r) = some (σ, lN (m * 2 ^ 32 + r)) := by
    unfold F_X6_joinedId
    rw [jid (σ := σ) hm hr]
  refine Ok.eq hj ?_
  generalize m * 2 ^ 32 + r = to at *
  dsimp only
  refine Ok.bi (f_bq hC.1 hto (show g < 256 by omega) (show mt < 65536 by omega)) (fun τ1 h1 => ?_)
  obtain ⟨b1, b2, b3⟩ := h1
  refine Ok.nm ?_
  have q1 : Fr (fun q j => q = 9 ∧ j = 5) τ1 (sI τ1 9 5 (nI pt)) := Fr.sI ⟨rfl, rfl⟩
  obtain ⟨⟨a1, c1⟩, ⟨a2, c2⟩, ⟨a3, c3⟩, ⟨a4, c4⟩, ⟨a5, c5⟩, ⟨a6, c6⟩, ⟨a7, c7⟩, ⟨a8, c8⟩, hd10, h231⟩ := b2
  have r1 : Rw τ1 1 tp := hC.2.2.fr b3 (fun j => by omega) (fun j => by omega)
  have r1' := r1.fr q1 (fun j => by omega) (fun j => by omega)
  have r10' := hd10.fr q1 (fun j => by omega) (fun j => by omega)
  have e95 : (sI τ1 9 5 (nI pt)).1 9 5 = nI pt := sI_eq
  generalize sI τ1 9 5 (nI pt) = τ2 at *
  refine Ok.bi (f_copy (r0 := 10) (r1 := 1) (by decide) (by decide) (by decide) r1' r10') (fun τ3 h3 => ?_)
  have k3 : Fr (fun r _ => r = 10 ∨ r = 11) τ2 τ3 := (Fr.ex h3.2).mo (fun a b h => by simpa using h)
  have d10 : Rw τ3 10 (tp.take 231) := h3.1
  obtain ⟨τ4, e1, e2, e3⟩ := f_cut0 (r1'.fr k3 (fun j => by omega) (fun j => by omega))
  have k4 : Fr (fun r _ => r = 1) τ3 τ4 := (Fr.ex e3).mo (fun a b h => by simpa using h)
  refine Ok.eq e1 ?_
  have k14 : Fr (fun r _ => r = 1 ∨ r = 9 ∨ r = 10 ∨ r = 11) τ1 τ4 := ((q1.mo (fun a b h => by omega)).t (k3.mo (fun a b h => by omega))).t (k4.mo (fun a b h => by omega))
  have k24 : Fr (fun r _ => r = 1 ∨ r = 10 ∨ r = 11) τ2 τ4 := (k3.mo (fun a b h => by omega)).t (k4.mo (fun a b h => by omega))
  have d10' : Rw τ4 10 (tp.take 231) := d10.fr k4 (fun j => by omega) (fun j => by omega)
  have x4 : CX τ4 n (X.1, (X.2.1 + 1) % 256, X.2.2) := b1.fq k14 d10'
  have hP4 : Pk τ4 9 to SR ((X.2.1 + 1) % 256) 1 0 pt g mt (tp.take 231) := ⟨⟨by rw [k24.l (by omega), q1.l (by omega)]; exact a1, c1⟩, ⟨by rw [k24.l (by omega), q1.l (by omega)]; exact a2, c2⟩, ⟨by rw [k24.i (by omega), q1.i (by omega)]; exact a3, c3⟩, ⟨by rw [k24.i (by omega), q1.i (by omega)]; exact a4, c4⟩, ⟨by rw [k24.i (by omega), q1.i (by omega)]; exact a5, c5⟩, ⟨by rw [k24.i (by omega)]; exact e95, by omega⟩, ⟨by rw [k24.i (by omega), q1.i (by omega)]; exact a7, c7⟩, ⟨by rw [k24.i (by omega), q1.i (by omega)]; exact a8, c8⟩, d10', h231⟩
  refine Ok.b2 (f_send (X := X) rfl x4 hn hW ho hno hP4) (fun τ5 h5 => ?_)
  obtain ⟨p1, p2⟩ := h5
  have fAll : Fr pCf σ τ5 := ((b3.mo (fun a b h => by unfold pCf; omega)).t (k14.mo (fun a b h => by unfold pCf; omega))).t (p2.mo (fun a b h => by unfold pA at h; unfold pCf; omega))
  have yAll : CY τ5 bg Y := ((hC.2.1.fr b3 (fun r j h1 h2 h => by omega)).fr k14 (fun r j h1 h2 h => by omega)).fr p2 (fun r j h1 h2 h => by unfold pA at h; omega)
  have t5 : Rw τ5 1 [] := e2.fr p2 (fun j => by unfold pA; omega) (fun j => by unfold pA; omega)
  generalize askX n X to pt g mt (tp.take 231) = Q at *
  have r7 : Rw τ5 7 Q.2.2.2.1 := p1.2.2.2.2.1
  have l7 := r7.2.1
  rw [show ln (7 + 1) = 257 from rfl] at l7
  refine Ok.eq (f_size r7) ?_
  dsimp only
  unfold akV
  by_cases h0 : Q.2.2.2.1.length = 0
  · rw [if_pos h0]
    exact Ok.tt (by rw [h0]; rfl) (Ok.so ⟨⟨p1, yAll, t5⟩, Or.inl ⟨rfl, rfl, rfl⟩, fAll⟩)
  rw [if_neg h0]
  refine Ok.ff (nI_ne0 (by omega) (by omega)) ?_
  refine Ok.bi (f_isRep p1 hto) (fun y hy => ?_)
  obtain ⟨y1, y2, y3⟩ := hy
  have fY : Fr pCf σ y.1 := fAll.t (y2.mo (fun a b h => by unfold pCf; omega))
  have hYY : CY y.1 bg Y := yAll.fr y2 (fun r j h1 h2 h => by omega)
  have t6 : Rw y.1 1 [] := t5.fr y2 (fun j => by omega) (fun j => by omega)
  rcases y3 with ⟨g1, g2, g3⟩ | ⟨g1, g2⟩
  · rw [if_pos g1]
    refine Ok.ff (by rw [g2]; decide) (Ok.so ⟨⟨y1, hYY, t6⟩, Or.inl ⟨rfl, rfl, ?_⟩, fY⟩)
    dsimp only
    rw [g3.2.2.2.1.1]
  · rw [if_neg g1]
    exact Ok.tt g2 (Ok.so ⟨⟨y1, hYY, t6⟩, Or.inl ⟨rfl, rfl, rfl⟩, fY⟩)
theorem take_s {l : List Nat} {k : Nat} (h : k < l.length) : l.take (k + 1) = l.take k ++ [l.getD k 0] := by
  rw [List.take_add_one, List.getD_eq_getElem?_getD, List.getElem?_eq_getElem h]
  rfl
theorem m_akL {tp Z : List Nat} {σ0 : St} {u1 : Int32} {u2 : Int64} {K : St → Int32 → Int64 → Option (St × Int32)} {P : St × Int32 → Prop} (hZ : Z.length = 24) (ht : Mw σ0 45 20 tp) (hK : ∀ τ, Mw τ 46 23 (Z ++ tp.take 231) → Fr pv σ0 τ → Ok (K τ u1 u2) P) : ∀ (m fz k : Nat) (σ : St), m < fz → k + m = min tp.length 231 → Mw σ 46 23 (Z ++ tp.take k) → Fr pv σ0 σ → Ok (F_X7_ask_L94 K fz σ u1 u2 (nI k)) P := by
  have hl := ht.2.1
  rw [show ln 45 = 520 from rfl] at hl
  intro m
  induction m with
  | zero =>
    intro fz k σ hf hk h he
    cases fz with
    | zero => omega
    | succ fz =>
      unfold F_X7_ask_L94
      rw [show k = min tp.length 231 by omega, take_min] at h
      have hlen := ht.1
      refine Ok.it (fun _ => hK σ h he) (fun h9 => Ok.tt ?_ (hK σ h he))
      rw [he.i (show ¬ pv 27 20 by unfold pv; omega), hlen] at h9
      by_cases h5 : tp.length ≤ 231
      · exact absurd (nI_le (by omega) (by omega)) h9
      · exact (show (231 : Int32) ≤ _ from nI_le (a := 231) (by omega) (by omega))
  | succ m ih =>
    intro fz k σ hf hk h he
    cases fz with
    | zero => omega
    | succ fz =>
      unfold F_X7_ask_L94
      refine Ok.ff (by rw [he.i (show ¬ pv 27 20 by unfold pv; omega), ht.1]; exact nI_ge (by omega) (by omega)) (Ok.ff (show ¬ (231 : Int32) ≤ _ from nI_ge (b := 231) (by omega) (by omega)) ?_)
      refine Ok.gd (show ib (nI k) (ln 45) = true from ib_nI (show k < 520 by omega) (by decide)) ?_
      rw [nI_clamp (by omega)]
      have hlt : (Z ++ tp.take k).length = 24 + k := by rw [List.length_append, hZ, List.length_take]; omega
      refine vput (σ0 := σ0) (x := tp.getD k 0) h he (by omega) (by rw [he.i (show ¬ pv 45 k by unfold pv; omega)]; exact ht.2.2 k (by omega)) (fun τ h1 h2 => ?_)
      rw [nI_1]
      refine ih fz (k + 1) τ (by omega) (by omega) ?_ h2
      rw [take_s (by omega), ← List.append_assoc]
      exact h1
theorem akM {τ : St} {n bg m r pt g mt o : Nat} {X : Xs} {Y : Ys} {tp : List Nat} (hn : n ≤ 24) (hτ : MH τ n X Y bg tp) (hc : X.2.1 < 256) (hW : WX o n X) (ho : o + 1 ≤ 1000) (hno : X.1 + 4 < 2 ^ 31) (hm : m ≤ 65535) (hr : r ≤ 4294967295) (hp : pt ≤ 65535) (hg : g ≤ 255) (hmt : mt ≤ 65535) : Ok (F_X7_ask_L68 τ (nI m) (lN r) (nI pt) (nI g) (nI mt) 1) (Ma Int32.toInt64 n (askX n X (m * 2 ^ 32 + r) pt g mt (tp.take 231)) Y bg [] 0 (akV (askX n X (m * 2 ^ 32 + r) pt g mt (tp.take 231)).2.2.2.1 (m * 2 ^ 32 + r) (askX n X (m * 2 ^ 32 + r) pt g mt (tp.take 231)).2.1).toInt64 τ) := by
  have hB := hW.bl
  have hto : m * 2 ^ 32 + r < 2 ^ 48 := by omega
  have hj : ∀ ρ : St, F_X7_idOf ρ (nI m) (lN r) = some (ρ, lN (m * 2 ^ 32 + r)) := by
    intro ρ
    unfold F_X7_idOf
    rw [jid (σ := ρ) hm hr]
  unfold F_X7_ask_L68
  refine Ok.eq (m_goes (b := true)) (Ok.ff (show ¬ bI true = 0 by decide) ?_)
  obtain ⟨g1, g2, g3, g4⟩ := ma_ok (V := fun _ : Nat => 0) (z := 0) (v := 0) hτ hB rfl
  dsimp only at g1 g2 g4 ⊢
  generalize sI τ 27 0 (nI (if true = true then 0 else 1)) = ρ at *
  refine Ok.eq (hj ρ) ?_
  dsimp only
  refine Ok.bi (m_bp g1.1 hB hc hto (show pt < 65536 by omega) (show g < 256 by omega) (show mt < 65536 by omega)) (fun τ1 h1 => ?_)
  obtain ⟨b1, b2, b3⟩ := h1
  have t1 : Mw τ1 45 20 tp := g1.2.2.1.fr b3 (by omega) (fun j => by omega)
  have ltp := t1.2.1
  rw [show ln 45 = 520 from rfl] at ltp
  refine m_akL (σ0 := τ1) (tp := tp) pz_len t1 (fun τ2 m2 q2 => ?_) (min tp.length 231) fu 0 τ1 (by unfold fu; omega) (by omega) (by rw [List.take_zero, List.append_nil]; exact b1) Fr.rf
  unfold F_X7_ask_L128
  refine Ok.nm ?_
  have q3 : Fr (fun q j => q = 27 ∧ j = 20) τ2 (sI τ2 27 20 0) := Fr.sI ⟨rfl, rfl⟩
  have t3 : Mw (sI τ2 27 20 0) 45 20 [] := ⟨by rw [sI_eq]; rfl, by decide, fun k hk => absurd hk (Nat.not_lt_zero k)⟩
  have f3 : Fr (fun q j => q = 46 ∨ (q = 27 ∧ (j = 20 ∨ j = 23 ∨ j = 31))) ρ (sI τ2 27 20 0) := ((b3.mo (fun a b h => by omega)).t (q2.mo (fun a b h => by unfold pv at h; omega))).t (q3.mo (fun a b h => by omega))
  have x3 : MX (sI τ2 27 20 0) n (X.1, (X.2.1 + 1) % 256, X.2.2) := (b2.fr hB q2 (fun q j h1 h2 => by unfold pX at h1; unfold pv at h2; omega)).fr hB q3 (fun q j h1 h2 => by unfold pX at h1; omega)
  have m3 := m2.fr q3 (by omega) (fun j => by omega)
  have y3 := g1.2.1.fr f3 (fun q j h1 h2 => by unfold pS at h1; omega)
  have z3 := g1.2.2.2.fr f3 (fun a q j h1 h2 h3 => by have := lpl_lt h2; omega)
  have c3 : (sI τ2 27 20 0).1 27 0 = nI 0 := by rw [f3.i (by omega)]; exact g2
  generalize sI τ2 27 20 0 = τ3 at *
  refine Ok.bi (m_so (X := X) (d := tp.take 231) rfl x3 hn hW ho hno m3 (by rw [List.length_take]; omega)) (fun τ4 h4 => ?_)
  obtain ⟨p1, p2⟩ := h4
  have y4 := y3.fr p2 (fun q j h1 h2 => by unfold pS at h1; unfold pQ at h2; omega)
  have t4 := t3.fr p2 (by unfold pQ; omega) (fun j => by unfold pQ; omega)
  have z4 := z3.fr p2 (fun a q j h1 h2 h3 => by have hl := lpl_lt h2; have hz := zn_no h2 h1; unfold pQ at h3; omega)
  have c4 : τ4.1 27 0 = nI 0 := by rw [p2.i (by unfold pQ; omega)]; exact c3
  have f4 : Fr (fun q _ => 27 ≤ q ∧ q ≤ 53) τ τ4 := (g4.t (f3.mo (fun a b h => by omega))).t (p2.mo (fun a b h => by unfold pQ at h; omega))
  have hcq : (askX n X (m * 2 ^ 32 + r) pt g mt (tp.take 231)).2.1 < 256 := ask_c
  generalize m * 2 ^ 32 + r = to at *
  generalize askX n X to pt g mt (tp.take 231) = Q at *
  have r7 : Mw τ4 47 25 Q.2.2.2.1 := p1.2.2.2.2.1
  have l7 := r7.2.1
  rw [show ln 47 = 300 from rfl] at l7
  rw [r7.1]
  unfold akV
  by_cases h0 : Q.2.2.2.1.length = 0
  · rw [if_pos h0]
    exact Ok.tt (by rw [h0]; rfl) (Ok.so ⟨⟨p1, y4, t4, z4⟩, c4, fun _ => rfl, f4⟩)
  rw [if_neg h0]
  refine Ok.ff (nI_ne0 (by omega) (by omega)) ?_
  refine Ok.eq (hj τ4) ?_
  dsimp only
  refine Ok.eq (m_isRep r7 p1.2.2.1 hcq hto) ?_
  dsimp only
  by_cases hr2 : isRep Q.2.2.2.1 to Q.2.1
  · rw [if_pos hr2, if_pos hr2]
    refine Ok.ff (by decide) ?_
    exact Ok.eq (m_hd r7 (k := 16) (by have := hr2.1.1; have := hr2.1.2.1; omega)) (Ok.so ⟨⟨p1, y4, t4, z4⟩, c4, fun _ => rfl, f4⟩)
  · rw [if_neg hr2, if_neg hr2]
    exact Ok.tt rfl (Ok.so ⟨⟨p1, y4, t4, z4⟩, c4, fun _ => rfl, f4⟩)
theorem ic_5 {xs : Nat → Int32} {x4 : Int32} {i n : Nat} {σ : St} (hi : i < 512) (h : Inv i n σ) : Ok (F_lc_5 xs x4 n σ) (fun z => Inv (i + 1) z.1 z.2) := by
  obtain ⟨X, Y, bg, tp, hn, hC, hM, hS, hf, hb⟩ := h
  have hB := hS.1.bl
  unfold F_lc_5
  generalize xs (Int32.toNatClampNeg (x4 + 1)) = a1
  generalize (((Int32.toInt64 (xs (Int32.toNatClampNeg (x4 + 2)))) <<< ((Int32.toInt64 32) &&& 63)) ||| ((Int32.toInt64 (xs (Int32.toNatClampNeg (x4 + 3)))) &&& 4294967295)) = a2
  generalize xs (Int32.toNatClampNeg (x4 + 4)) = a4
  generalize xs (Int32.toNatClampNeg (x4 + 5)) = a5
  generalize xs (Int32.toNatClampNeg (x4 + 6)) = a6
  by_cases hv : akOk a1 a2 a4 a5 a6
  · have hv' := hv
    obtain ⟨⟨u1, v1⟩, ⟨u2, v2⟩, ⟨u4, v4⟩, ⟨u5, v5⟩, ⟨u6, v6⟩⟩ := hv
    obtain ⟨m, hm, rfl⟩ := nn_le (c := 65535) (by decide) u1 v1
    obtain ⟨pt, hp, rfl⟩ := nn_le (c := 65535) (by decide) u4 v4
    obtain ⟨g, hg, rfl⟩ := nn_le (c := 255) (by decide) u5 v5
    obtain ⟨mt, hmt, rfl⟩ := nn_le (c := 65535) (by decide) u6 v6
    obtain ⟨r, hr0, rfl⟩ := pk_lOf u2
    have hr : r ≤ 4294967295 := (pk_lLE (b := 4294967295) hr0 (by decide)).mp v2
    have hbt : By (tp.take 231) := fun k => by
      rw [nD_take]
      split
      · exact hC.2.2.by k
      · decide
    have hWn : WX (i + 1) n (askX n X (m * 2 ^ 32 + r) pt g mt (tp.take 231)) := fun j hj => ((WX.ask (to := m * 2 ^ 32 + r) (part := pt) (mat := mt) (d := tp.take 231) hS.1 (show g < 256 by omega) (by rw [List.length_take]; omega) hbt) j hj).up (by split <;> omega) (Nat.le_refl _)
    refine lc_v Int32.toInt64 (oA := F_L_ask n σ (nI m) (lN r) (nI pt) (nI g) (nI mt)) (B := fun τ => F_X7_ask τ (nI m) (lN r) (nI pt) (nI g) (nI mt)) (c := 0) hn hM hB (fl_v Int32.toInt64 (by decide) (akC hn hC hS.1 (by omega) (by omega) hm hr hp hg hmt)) (fun τ hτ => ?_) (by decide) ⟨⟨hWn, ask_c, hS.2.2.1, hS.2.2.2.to ids_ask rfl rfl⟩, by show X.1 + 1 ≤ 3000 * (i + 1); omega, hb⟩
    rw [mk_ask, if_pos hv']
    exact akM hn hτ hS.2.1 hS.1 (by omega) (by omega) hm hr hp hg hmt
  · refine lc_v Int32.toInt64 (oA := F_L_ask n σ a1 a2 a4 a5 a6) (B := fun τ => F_X7_ask τ a1 a2 a4 a5 a6) (c := 1) (v := 0) (X2 := X) (Y2 := Y) (bg2 := bg) (tp2 := tp) hn hM hB ?_ (fun τ hτ => ?_) (by decide) ⟨hS.up, by omega, hb⟩
    · unfold F_L_ask
      refine fl_v Int32.toInt64 (by decide) ?_
      rw [ak_bad hv]
      exact Ok.so ⟨hC, Or.inr ⟨rfl, rfl⟩, Fr.rf⟩
    · rw [mk_ask, if_neg hv]
      unfold F_X7_ask_L68
      exact Ok.eq (m_goes (b := false)) (Ok.tt rfl (Ok.so (ma_thr hτ hB)))
/-! ===== PURE: a new lamp ===== -/
def L00 (id w m a : Nat) : Lp := (fun j => if j = 0 then id else if j = 1 then w else if j = 2 then m else if j = 9 then 1 else if j = 10 then a else 0, [], fun _ => 0, [])
def laX (n : Nat) (X : Xs) (L : Lp) : Xs := (X.1, X.2.1, fun j => if j = n then L else X.2.2.1 j, X.2.2.2)
theorem L00_wl {o now mk r w m a : Nat} (h1 : 1 ≤ mk) (h2 : mk ≤ 32767) (h3 : r < 4294967295) (h4 : 1 ≤ w ∧ w ≤ 64) (h5 : 1 ≤ m ∧ m ≤ 8) (h6 : 1 ≤ a ∧ a + w ≤ 513) : Wl o now 3 (L00 (mk * 2 ^ 32 + r) w m a) := by
  refine ⟨⟨?_, ?_, ?_⟩, h4, ⟨?_, ?_, ?_⟩, ⟨h6.1, ?_⟩, ?_, ?_, ?_, ?_, ⟨?_, ?_⟩, ?_, ?_, ?_, ?_⟩
  · show mk * 2 ^ 32 + r < 2 ^ 47; omega
  · show 2 ^ 32 ≤ mk * 2 ^ 32 + r; omega
  · show (mk * 2 ^ 32 + r) % 2 ^ 32 < 2 ^ 32 - 1; omega
  · show 1 ≤ 1; omega
  · show 1 ≤ m; omega
  · show m ≤ 8; omega
  · show a + w * 1 ≤ 513; omega
  · show 0 ≤ 1; omega
  · show 0 ≤ 1; omega
  · show 0 ≤ o; omega
  · show 0 ≤ now; omega
  · show 0 ≤ 32; omega
  · exact By.nil
  · intro k; show 0 < 256; omega
  · show 0 + 0 ≤ 4; omega
  · intro e he; exact absurd he (by show ¬ e ∈ []; simp)
  · show List.Pairwise _ []; exact List.Pairwise.nil
theorem it_L {σ : St} {n id : Nat} {g : Nat → Nat} {K1 K2 : St → Option (St × Int32)} (hn : n ≤ 24) (h10 : σ.1 0 10 = nI n) (hg : ∀ k, k < n → σ.2 (qq k) 0 = lN (g k) ∧ g k < 2 ^ 48) (hid : id < 2 ^ 48) : ∀ (m fz k : Nat), m < fz → k + m = n → ((∃ j, k ≤ j ∧ j < k + m ∧ g j = id) → F_X6_isThere_L2 n K1 K2 fz σ (lN id) (nI k) = K1 σ) ∧ ((¬ ∃ j, k ≤ j ∧ j < k + m ∧ g j = id) → F_X6_isThere_L2 n K1 K2 fz σ (lN id) (nI k) = K2 σ) := by
  intro m
  induction m with
  | zero =>
    intro fz k hf hk
    cases fz with
    | zero => omega
    | succ fz =>
      unfold F_X6_isThere_L2
      rw [h10, if_pos (nI_le (by omega) (by omega))]
      exact ⟨fun ⟨j, h1, h2, _⟩ => by omega, fun _ => rfl⟩
  | succ m ih =>
    intro fz k hf hk
    cases fz with
    | zero => omega
    | succ fz =>
      obtain ⟨g1, g2⟩ := hg k (by omega)
      unfold F_X6_isThere_L2
      rw [h10, if_neg (nI_ge (by omega) (by omega)), gd_t (ib_nI (show k < 24 by omega) (by decide)), nI_clamp (by omega), gd_t (decide_eq_true (show k < n by omega)), show 54 + 12 * k = qq k from rfl, g1, nI_1, has_succ]
      by_cases e : g k = id
      · rw [if_pos (cm_0.mpr (by rw [e]))]
        exact ⟨fun _ => rfl, fun h => absurd (Or.inl e) h⟩
      · rw [if_neg (fun h => e ((pk_lEQ (by omega) (by omega)).mp (cm_0.mp h)))]
        have := ih fz (k + 1) (by omega) (by omega)
        exact ⟨fun h => this.1 (h.resolve_left e), fun h => this.2 (fun h2 => h (Or.inr h2))⟩
/-- an ID that is there -/
abbrev thr (n : Nat) (X : Xs) (id : Nat) : Prop := ∃ j, j < n ∧ ids X j = id
theorem it_C {σ : St} {n o id : Nat} {X : Xs} (hn : n ≤ 24) (hX : CX σ n X) (hW : WX o n X) (hid : id < 2 ^ 48) : (thr n X id → F_X6_isThere n σ (lN id) = some (σ, 1)) ∧ (¬ thr n X id → F_X6_isThere n σ (lN id) = some (σ, 0)) := by
  have g := it_L (K1 := F_X6_isThere_L24 n) (K2 := F_X6_isThere_L32 n) hn hX.1 (g := ids X) (fun k hk => ⟨(hX.2.2.2.1 k hk).1, by have := (hW k hk).1.1; show ids X k < 2 ^ 48; have : ids X k < 2 ^ 47 := this; omega⟩) hid n fu 0 (by unfold fu; omega) (by omega)
  unfold F_X6_isThere
  exact ⟨fun ⟨j, h1, h2⟩ => g.1 ⟨j, by omega, by omega, h2⟩, fun h => g.2 (fun ⟨j, h1, h2, h3⟩ => h ⟨j, by omega, h3⟩)⟩
abbrev lmOk (x1 : Int32) (x2 : Int64) (x4 x5 x6 : Int32) : Prop := ∃ mk r w m a, x1 = nI mk ∧ x2 = lN r ∧ x4 = nI w ∧ x5 = nI m ∧ x6 = nI a ∧ (1 ≤ mk ∧ mk ≤ 32767) ∧ r < 4294967295 ∧ (1 ≤ w ∧ w ≤ 64) ∧ (1 ≤ m ∧ m ≤ 8) ∧ (1 ≤ a ∧ a + w ≤ 513)
theorem nn_in {x : Int32} {c : Nat} (hc : c < 2 ^ 31) (h1 : ¬ x < 1) (h2 : x ≤ nI c) : ∃ k, 1 ≤ k ∧ k ≤ c ∧ x = nI k := by
  have h0 : ¬ x < 0 := by
    rw [Int32.lt_iff_toInt_lt, show (1 : Int32).toInt = 1 from by decide] at h1
    rw [Int32.lt_iff_toInt_lt, show (0 : Int32).toInt = 0 from by decide]
    omega
  obtain ⟨k, hk, rfl⟩ := nn_le hc h0 h2
  refine ⟨k, ?_, hk, rfl⟩
  apply Classical.byContradiction
  intro h9
  have e : k = 0 := by omega
  subst e
  exact h1 (by decide)
theorem lm_bad {σ : St} {n : Nat} {x1 x4 x5 x6 : Int32} {x2 : Int64} (h : ¬ lmOk x1 x2 x4 x5 x6) : F_X6_lamp n σ x1 x2 x4 x5 x6 = some (σ, 1, 0) := by
  unfold F_X6_lamp F_X6_lamp_L26 F_X6_lamp_L62
  by_cases a1 : x1 < 1
  · rw [if_pos a1]
  rw [if_neg a1]
  by_cases b1 : 32767 < x1
  · rw [if_pos b1]
  rw [if_neg b1]
  by_cases a2 : x2 < 0
  · rw [if_pos (cm_lt.mpr a2)]
  rw [if_neg (fun h9 => a2 (cm_lt.mp h9))]
  by_cases b2 : x2 < 4294967295
  rotate_left
  · rw [if_neg (fun h9 => b2 (cm_lt.mp h9))]
  rw [if_pos (cm_lt.mpr b2)]
  by_cases a4 : x4 < 1
  · rw [if_pos a4]
  rw [if_neg a4]
  by_cases b4 : 64 < x4
  · rw [if_pos b4]
  rw [if_neg b4]
  by_cases a5 : x5 < 1
  · rw [if_pos a5]
  rw [if_neg a5]
  by_cases b5 : x5 ≤ 8
  rotate_left
  · rw [if_neg b5]
  rw [if_pos b5]
  rw [lt_nle, Classical.not_not] at b1 b4
  obtain ⟨mk, c1, c2, rfl⟩ := nn_in (c := 32767) (by decide) a1 b1
  obtain ⟨w, c3, c4, rfl⟩ := nn_in (c := 64) (by decide) a4 b4
  obtain ⟨m, c5, c6, rfl⟩ := nn_in (c := 8) (by decide) a5 b5
  obtain ⟨r, hr0, rfl⟩ := pk_lOf a2
  have hr : r < 4294967295 := (pk_lLT (b := 4294967295) hr0 (by decide)).mp b2
  have e : F_X6_fits σ x6 (nI w) = some (σ, 0) := by
    unfold F_X6_fits
    by_cases a6 : x6 < 1
    · rw [if_pos a6]
    rw [if_neg a6]
    by_cases b6 : 512 < x6
    · rw [if_pos b6]
    rw [if_neg b6]
    rw [lt_nle, Classical.not_not] at b6
    obtain ⟨a, c7, c8, rfl⟩ := nn_in (c := 512) (by decide) a6 b6
    rw [nI_add, show nI (a + w) - 1 = nI (a + w - 1) from pk_sub (b := 1) (by omega)]
    by_cases b7 : 512 < a + w - 1
    · rw [if_pos (show (512 : Int32) < _ from nI_lt (a := 512) b7 (by omega))]
    · exact absurd ⟨mk, r, w, m, a, rfl, rfl, rfl, rfl, rfl, ⟨c1, c2⟩, hr, ⟨c3, c4⟩, ⟨c5, c6⟩, c7, by omega⟩ h
  rw [bd_eq e]
  rfl
theorem lm_good {σ : St} {n mk r w m a : Nat} (h1 : 1 ≤ mk ∧ mk ≤ 32767) (h2 : r < 4294967295) (h3 : 1 ≤ w ∧ w ≤ 64) (h4 : 1 ≤ m ∧ m ≤ 8) (h5 : 1 ≤ a ∧ a + w ≤ 513) : F_X6_lamp n σ (nI mk) (lN r) (nI w) (nI m) (nI a) = (F_X6_isThere n σ (lN (mk * 2 ^ 32 + r))).bind (fun y15 => if y15.2 = 0 then if (y15.1.1 (0) 10) < 24 then gd (ib (y15.1.1 0 10) 24) (gd (decide ((y15.1.1 0 10).toNatClampNeg = n)) (some (sI (nL y15.1 n (lN (mk * 2 ^ 32 + r)) (nI w) (nI m) (nI a)) 0 10 ((nL y15.1 n (lN (mk * 2 ^ 32 + r)) (nI w) (nI m) (nI a)).1 0 10 + 1), 0, (sI (nL y15.1 n (lN (mk * 2 ^ 32 + r)) (nI w) (nI m) (nI a)) 0 10 ((nL y15.1 n (lN (mk * 2 ^ 32 + r)) (nI w) (nI m) (nI a)).1 0 10 + 1)).1 0 10 - 1))) else some (y15.1, 2, 0) else some (y15.1, 1, 0)) := by
  have e : F_X6_fits σ (nI a) (nI w) = some (σ, 1) := by
    unfold F_X6_fits
    rw [if_neg (show ¬ nI a < (1 : Int32) from nI_nlt (b := 1) h5.1 (by omega)), if_neg (show ¬ (512 : Int32) < nI a from nI_nlt (a := 512) (by omega) (by omega)), nI_add, show nI (a + w) - 1 = nI (a + w - 1) from pk_sub (b := 1) (by omega), if_neg (show ¬ (512 : Int32) < nI (a + w - 1) from nI_nlt (a := 512) (by omega) (by omega))]
  have hj : F_X6_joinedId σ (nI mk) (lN r) = some (σ, lN (mk * 2 ^ 32 + r)) := by
    unfold F_X6_joinedId
    rw [jid (σ := σ) (by omega) (by omega)]
  unfold F_X6_lamp
  rw [if_neg (show ¬ nI mk < (1 : Int32) from nI_nlt (b := 1) h1.1 (by omega)), if_neg (show ¬ (32767 : Int32) < nI mk from nI_nlt (a := 32767) h1.2 (by decide)), if_neg (fun h9 => by have := (pk_lLT (a := r) (b := 0) (by omega) (by decide)).mp (cm_lt.mp h9); omega), if_pos (show lg_cmp (lN r) 4294967295 < 0 from cm_lt.mpr ((pk_lLT (b := 4294967295) (by omega) (by decide)).mpr h2)), if_neg (show ¬ nI w < (1 : Int32) from nI_nlt (b := 1) h3.1 (by omega)), if_neg (show ¬ (64 : Int32) < nI w from nI_nlt (a := 64) h3.2 (by decide)), if_neg (show ¬ nI m < (1 : Int32) from nI_nlt (b := 1) h4.1 (by omega)), if_pos (show nI m ≤ (8 : Int32) from nI_le (b := 8) h4.2 (by decide)), bd_eq e]
  dsimp only
  rw [if_neg (by decide), bd_eq hj]
/-! the model -/
theorem m_inE {σ : St} {x c : Int32} : F_X7_in σ x.toInt64 1 c.toInt64 = some (σ, if ¬ x < 1 ∧ x ≤ c then 1 else 0) := by
  rw [m_in]
  have e1 : ((1 : Int64) ≤ x.toInt64 ∧ x.toInt64 ≤ c.toInt64) ↔ (¬ x < 1 ∧ x ≤ c) := by
    have h1 : ((1 : Int64) ≤ x.toInt64) ↔ (1 ≤ x) := i64_le (x := 1) (y := x)
    rw [h1, i64_le, Int32.le_iff_toInt_le, Int32.lt_iff_toInt_lt, Int32.le_iff_toInt_le]
    omega
  by_cases h : ¬ x < 1 ∧ x ≤ c
  · rw [if_pos h, if_pos (e1.mpr h)]
  · rw [if_neg h, if_neg (fun h9 => h (e1.mp h9))]
theorem mk_lamp {σ : St} {x1 x4 x5 x6 : Int32} {x2 : Int64} : ∃ b : Int32, F_X7_lamp σ x1 x2 x4 x5 x6 = F_X7_lamp_L83 F_X7_lamp_L133 fu σ x1 x2 x4 x5 x6 b 0 ∧ ((lmOk x1 x2 x4 x5 x6 ∧ b = 1) ∨ (¬ lmOk x1 x2 x4 x5 x6 ∧ b = 0)) := by
  unfold F_X7_lamp
  rw [show (32767 : Int64) = (32767 : Int32).toInt64 from rfl, show (64 : Int64) = (64 : Int32).toInt64 from rfl, show (8 : Int64) = (8 : Int32).toInt64 from rfl, show (512 : Int64) = (512 : Int32).toInt64 from rfl, bd_eq m_inE]
  dsimp only
  have imp : ∀ {x : Int32} {c k : Nat}, c < 2 ^ 31 → 1 ≤ k → k ≤ c → x = nI k → ¬ x < 1 ∧ x ≤ nI c := by
    intro x c k h0 h1 h2 h3
    subst h3
    exact ⟨show ¬ nI k < (1 : Int32) from nI_nlt (b := 1) h1 (by omega), nI_le h2 h0⟩
  by_cases h1 : ¬ x1 < 1 ∧ x1 ≤ 32767
  rotate_left
  · rw [if_pos (if10.mpr h1)]
    exact ⟨0, rfl, Or.inr ⟨fun ⟨k0, r, w, m, a, e1, e2, e3, e4, e5, c1, c2, c3, c4, c5⟩ => h1 (imp (c := 32767) (by decide) c1.1 c1.2 e1), rfl⟩⟩
  rw [if_neg (fun h9 => if10.mp h9 h1), bd_eq m_inD]
  dsimp only
  by_cases h2 : ¬ x2 < 0 ∧ x2 ≤ 4294967294
  rotate_left
  · rw [if_pos (if10.mpr h2)]
    refine ⟨0, rfl, Or.inr ⟨fun ⟨k0, r, w, m, a, e1, e2, e3, e4, e5, c1, c2, c3, c4, c5⟩ => h2 ?_, rfl⟩⟩
    subst e2
    exact ⟨fun h9 => by have := (pk_lLT (a := r) (b := 0) (by omega) (by decide)).mp h9; omega, (pk_lLE (b := 4294967294) (by omega) (by decide)).mpr (by omega)⟩
  rw [if_neg (fun h9 => if10.mp h9 h2), bd_eq m_inE]
  dsimp only
  by_cases h4 : ¬ x4 < 1 ∧ x4 ≤ 64
  rotate_left
  · rw [if_pos (if10.mpr h4)]
    exact ⟨0, rfl, Or.inr ⟨fun ⟨k0, r, w, m, a, e1, e2, e3, e4, e5, c1, c2, c3, c4, c5⟩ => h4 (imp (c := 64) (by decide) c3.1 c3.2 e3), rfl⟩⟩
  rw [if_neg (fun h9 => if10.mp h9 h4), bd_eq m_inE]
  dsimp only
  by_cases h5 : ¬ x5 < 1 ∧ x5 ≤ 8
  rotate_left
  · rw [if_pos (if10.mpr h5)]
    exact ⟨0, rfl, Or.inr ⟨fun ⟨k0, r, w, m, a, e1, e2, e3, e4, e5, c1, c2, c3, c4, c5⟩ => h5 (imp (c := 8) (by decide) c4.1 c4.2 e4), rfl⟩⟩
  rw [if_neg (fun h9 => if10.mp h9 h5), bd_eq m_inE]
  dsimp only
  by_cases h6 : ¬ x6 < 1 ∧ x6 ≤ 512
  rotate_left
  · rw [if_pos (if10.mpr h6)]
    exact ⟨0, rfl, Or.inr ⟨fun ⟨k0, r, w, m, a, e1, e2, e3, e4, e5, c1, c2, c3, c4, c5⟩ => h6 (imp (c := 512) (by decide) c5.1 (by omega) e5), rfl⟩⟩
  rw [if_neg (fun h9 => if10.mp h9 h6)]
  obtain ⟨mk, c1, c2, rfl⟩ := nn_in (c := 32767) (by decide) h1.1 h1.2
  obtain ⟨w, c3, c4, rfl⟩ := nn_in (c := 64) (by decide) h4.1 h4.2
  obtain ⟨m, c5, c6, rfl⟩ := nn_in (c := 8) (by decide) h5.1 h5.2
  obtain ⟨a, c7, c8, rfl⟩ := nn_in (c := 512) (by decide) h6.1 h6.2
  obtain ⟨r, hr0, rfl⟩ := pk_lOf h2.1
  have hr : r ≤ 4294967294 := (pk_lLE (b := 4294967294) hr0 (by decide)).mp h2.2
  rw [nI_add]
  by_cases b7 : 513 < a + w
  · rw [if_pos (show (513 : Int32) < _ from nI_lt (a := 513) b7 (by omega))]
    refine ⟨0, rfl, Or.inr ⟨fun ⟨mk2, r2, w2, m2, a2, e1, e2, e3, e4, e5, d1, d2, d3, d4, d5⟩ => ?_, rfl⟩⟩
    have ew := (nI_eq (a := w) (b := w2) (by omega) (by omega)).mp e3
    have ea := (nI_eq (a := a) (b := a2) (by omega) (by omega)).mp e5
    omega
  · rw [if_neg (show ¬ (513 : Int32) < _ from nI_nlt (a := 513) (by omega) (by omega))]
    exact ⟨1, rfl, Or.inl ⟨⟨mk, r, w, m, a, rfl, rfl, rfl, rfl, rfl, ⟨c1, c2⟩, by omega, ⟨c3, c4⟩, ⟨c5, c6⟩, c7, by omega⟩, rfl⟩⟩
theorem m_l0 {σ : St} {n fz : Nat} {x1 x4 x5 x6 : Int32} {x2 : Int64} {u8 : Int32} : F_X7_lamp_L83 F_X7_lamp_L133 (fz + 1) σ x1 x2 x4 x5 x6 0 u8 = F_X7_lamp_L133 σ x1 x2 x4 x5 x6 0 := by
  unfold F_X7_lamp_L83
  by_cases h : (σ.1 27 1) ≤ u8
  · rw [if_pos h]
  · rw [if_neg h, if_pos rfl]
theorem m_l1 {σ : St} {n mk r : Nat} {x4 x5 x6 : Int32} {g : Nat → Nat} (hn : n ≤ 24) (h1 : σ.1 27 1 = nI n) (hg : ∀ k, k < n → σ.1 28 k = nI (g k / 2 ^ 32) ∧ σ.2 29 k = lN (g k % 2 ^ 32) ∧ g k < 2 ^ 48) (hm : mk < 2 ^ 16) (hr : r < 2 ^ 32) : ∀ (m fz k : Nat), m + 1 < fz → k + m = n → ((∃ j, k ≤ j ∧ j < k + m ∧ g j = mk * 2 ^ 32 + r) → F_X7_lamp_L83 F_X7_lamp_L133 fz σ (nI mk) (lN r) x4 x5 x6 1 (nI k) = F_X7_lamp_L133 σ (nI mk) (lN r) x4 x5 x6 0) ∧ ((¬ ∃ j, k ≤ j ∧ j < k + m ∧ g j = mk * 2 ^ 32 + r) → F_X7_lamp_L83 F_X7_lamp_L133 fz σ (nI mk) (lN r) x4 x5 x6 1 (nI k) = F_X7_lamp_L133 σ (nI mk) (lN r) x4 x5 x6 1) := by
  intro m
  induction m with
  | zero =>
    intro fz k hf hk
    cases fz with
    | zero => omega
    | succ fz =>
      unfold F_X7_lamp_L83
      rw [h1, if_pos (nI_le (by omega) (by omega))]
      exact ⟨fun ⟨j, h1, h2, _⟩ => by omega, fun _ => rfl⟩
  | succ m ih =>
    intro fz k hf hk
    cases fz with
    | zero => omega
    | succ fz =>
      obtain ⟨g1, g2, g3⟩ := hg k (by omega)
      have i := ih fz (k + 1) (by omega) (by omega)
      unfold F_X7_lamp_L83
      rw [h1, if_neg (nI_ge (by omega) (by omega)), if_neg (show ¬ (1 : Int32) = 0 by decide), gd_t (show ib (nI k) (ln 28) = true from ib_nI (show k < 24 by omega) (by decide)), nI_clamp (by omega), g1, nI_1, has_succ]
      by_cases e : g k / 2 ^ 32 = mk
      · rw [if_pos (by rw [e]), gd_t (show ib (nI k) (ln 29) = true from ib_nI (show k < 24 by omega) (by decide)), g2]
        by_cases e2 : g k % 2 ^ 32 = r
        · rw [if_pos (cm_0.mpr (by rw [e2]))]
          have ez : F_X7_lamp_L83 F_X7_lamp_L133 fz σ (nI mk) (lN r) x4 x5 x6 0 (nI (k + 1)) = F_X7_lamp_L133 σ (nI mk) (lN r) x4 x5 x6 0 := by
            rw [show fz = (fz - 1) + 1 by omega]
            exact m_l0 (n := n)
          rw [ez]
          exact ⟨fun _ => rfl, fun h => absurd (Or.inl (by omega)) h⟩
        · rw [if_neg (fun h => e2 ((pk_lEQ (by omega) (by omega)).mp (cm_0.mp h)))]
          exact ⟨fun h => i.1 (h.resolve_left (by omega)), fun h => i.2 (fun h2 => h (Or.inr h2))⟩
      · rw [if_neg (fun h => e ((nI_eq (by omega) (by omega)).mp h))]
        exact ⟨fun h => i.1 (h.resolve_left (by omega)), fun h => i.2 (fun h2 => h (Or.inr h2))⟩
theorem m_thr {τ : St} {n c bg : Nat} {X : Xs} {Y : Ys} {tp : List Nat} {x1 x4 x5 x6 : Int32} {x2 : Int64} (hτ : MH τ n X Y bg tp) (hB : ∀ j, j < n → Bl (X.2.2.1 j)) (hc : 0 < c) (hc2 : c < 10) : Ok (F_X7_lamp_L157 τ x1 x2 x4 x5 x6 (nI c)) (Ma Int32.toInt64 n X Y bg tp c 0 τ) := by
  unfold F_X7_lamp_L157
  refine Ok.nm ?_
  rw [sI_eq]
  have q0 : Fr (fun q j => q = 27 ∧ j = 0) τ (sI τ 27 0 (nI c)) := Fr.sI ⟨rfl, rfl⟩
  exact Ok.ff (nI_nle hc (by omega)) (Ok.so ⟨hτ.fr hB q0 (fun q j h => by omega), sI_eq, fun h => by omega, q0.mo (fun a b h => by omega)⟩)
theorem m_new {τ : St} {n bg mk r w m a : Nat} {X : Xs} {Y : Ys} {tp : List Nat} (hτ : MH τ n X Y bg tp) (hB : ∀ j, j < n → Bl (X.2.2.1 j)) (hn : n < 24) (hr : r < 2 ^ 32) : Ok (F_X7_lamp_L157 τ (nI mk) (lN r) (nI w) (nI m) (nI a) 0) (fun y => MH y.1 (n + 1) (laX n X (L00 (mk * 2 ^ 32 + r) w m a)) Y bg tp ∧ y.1.1 27 0 = nI 0 ∧ y.2 = nI n ∧ Fr (fun q _ => 27 ≤ q ∧ q ≤ 53) τ y.1) := by
  unfold F_X7_lamp_L157
  refine Ok.nm ?_
  rw [sI_eq]
  refine Ok.tt (by decide) ?_
  have q0 : Fr (fun q j => q = 27 ∧ j = 0) τ (sI τ 27 0 0) := Fr.sI ⟨rfl, rfl⟩
  have g1 := hτ.fr hB q0 (fun q j h => by omega)
  have g0 : (sI τ 27 0 0).1 27 0 = nI 0 := sI_eq
  generalize sI τ 27 0 0 = ρ at *
  have ib24 : ∀ R, ln R = 24 → ib (nI n) (ln R) = true := fun R h => by rw [h]; exact ib_nI hn (by decide)
  have e1 := g1.1.1
  rw [e1]
  refine Ok.gd (ib24 28 rfl) (Ok.nm ?_)
  rw [nI_clamp (by omega), sI_nk (show (27 : Nat) ≠ 28 by decide), e1]
  refine Ok.gd (ib24 29 rfl) (Ok.nm ?_)
  rw [nI_clamp (by omega), sJ_1, sI_nk (show (27 : Nat) ≠ 28 by decide), e1]
  refine Ok.gd (ib24 30 rfl) (Ok.nm ?_)
  rw [nI_clamp (by omega), sI_nk (show (27 : Nat) ≠ 30 by decide), sJ_1, sI_nk (show (27 : Nat) ≠ 28 by decide), e1]
  refine Ok.gd (ib24 31 rfl) (Ok.nm ?_)
  rw [nI_clamp (by omega), sI_nk (show (27 : Nat) ≠ 31 by decide), sI_nk (show (27 : Nat) ≠ 30 by decide), sJ_1, sI_nk (show (27 : Nat) ≠ 28 by decide), e1]
  refine Ok.gd (ib24 32 rfl) (Ok.nm ?_)
  rw [nI_clamp (by omega), sI_nk (show (27 : Nat) ≠ 32 by decide), sI_nk (show (27 : Nat) ≠ 31 by decide), sI_nk (show (27 : Nat) ≠ 30 by decide), sJ_1, sI_nk (show (27 : Nat) ≠ 28 by decide), e1]
  refine Ok.gd (ib24 33 rfl) (Ok.nm (Ok.nm ?_))
  rw [nI_clamp (by omega), sI_nk (show (27 : Nat) ≠ 33 by decide), sI_nk (show (27 : Nat) ≠ 32 by decide), sI_nk (show (27 : Nat) ≠ 31 by decide), sI_nk (show (27 : Nat) ≠ 30 by decide), sJ_1, sI_nk (show (27 : Nat) ≠ 28 by decide), e1, nI_1, sI_eq, show nI (n + 1) - 1 = nI n from pk_sub (b := 1) (by omega)]
  refine Ok.so ?_
  have hq : Fr (fun q j => (28 ≤ q ∧ q ≤ 33 ∧ j = n) ∨ (q = 27 ∧ j = 1)) ρ (sI (sI (sI (sI (sI (sJ (sI ρ 28 n (nI mk)) 29 n (lN r)) 30 n (nI w)) 31 n (nI m)) 32 n 1) 33 n (nI a)) 27 1 (nI (n + 1))) := ((((((Fr.sI (by omega)).t (Fr.sJ (by omega))).t (Fr.sI (by omega))).t (Fr.sI (by omega))).t (Fr.sI (by omega))).t (Fr.sI (by omega))).t (Fr.sI (by omega))
  have v28 : (sI (sI (sI (sI (sI (sJ (sI ρ 28 n (nI mk)) 29 n (lN r)) 30 n (nI w)) 31 n (nI m)) 32 n 1) 33 n (nI a)) 27 1 (nI (n + 1))).1 28 n = nI mk := by simp [sI_if, sJ_1]
  have v29 : (sI (sI (sI (sI (sI (sJ (sI ρ 28 n (nI mk)) 29 n (lN r)) 30 n (nI w)) 31 n (nI m)) 32 n 1) 33 n (nI a)) 27 1 (nI (n + 1))).2 29 n = lN r := by simp [sI_2, sJ_if]
  have v30 : (sI (sI (sI (sI (sI (sJ (sI ρ 28 n (nI mk)) 29 n (lN r)) 30 n (nI w)) 31 n (nI m)) 32 n 1) 33 n (nI a)) 27 1 (nI (n + 1))).1 30 n = nI w := by simp [sI_if, sJ_1]
  have v31 : (sI (sI (sI (sI (sI (sJ (sI ρ 28 n (nI mk)) 29 n (lN r)) 30 n (nI w)) 31 n (nI m)) 32 n 1) 33 n (nI a)) 27 1 (nI (n + 1))).1 31 n = nI m := by simp [sI_if, sJ_1]
  have v32 : (sI (sI (sI (sI (sI (sJ (sI ρ 28 n (nI mk)) 29 n (lN r)) 30 n (nI w)) 31 n (nI m)) 32 n 1) 33 n (nI a)) 27 1 (nI (n + 1))).1 32 n = nI 1 := by simp [sI_if, sJ_1]; rfl
  have v33 : (sI (sI (sI (sI (sI (sJ (sI ρ 28 n (nI mk)) 29 n (lN r)) 30 n (nI w)) 31 n (nI m)) 32 n 1) 33 n (nI a)) 27 1 (nI (n + 1))).1 33 n = nI a := by simp [sI_if, sJ_1]
  have v1 : (sI (sI (sI (sI (sI (sJ (sI ρ 28 n (nI mk)) 29 n (lN r)) 30 n (nI w)) 31 n (nI m)) 32 n 1) 33 n (nI a)) 27 1 (nI (n + 1))).1 27 1 = nI (n + 1) := sI_eq
  generalize sI (sI (sI (sI (sI (sJ (sI ρ 28 n (nI mk)) 29 n (lN r)) 30 n (nI w)) 31 n (nI m)) 32 n 1) 33 n (nI a)) 27 1 (nI (n + 1)) = ω at *
  obtain ⟨⟨x1, x2, x3, x4, x5, x6, ⟨rr, x7⟩⟩, y0, t0, z0⟩ := g1
  obtain ⟨⟨z34, z35, z36, z38, z40, z41⟩, z39⟩ := z0 n (Nat.le_refl n) hn
  refine ⟨⟨⟨v1, by rw [hq.i (by omega)]; exact x2, by rw [hq.i (by omega)]; exact x3, fun j hj => ?_, x5.fr hq (by omega) (fun j => by omega), x6.fr hq (by omega) (fun j => by omega), ⟨rr, x7.fr hq (by omega) (fun j => by omega)⟩⟩, y0.fr hq (fun q j h1 h2 => by unfold pS at h1; omega), t0.fr hq (by omega) (fun j => by omega), fun j h1 h2 => ?_⟩, by rw [hq.i (by omega)]; exact g0, rfl, (q0.mo (fun a b h => by omega)).t (hq.mo (fun a b h => by omega))⟩
  · show ML ω j (if j = n then L00 (mk * 2 ^ 32 + r) w m a else X.2.2.1 j)
    by_cases e : j = n
    · subst e
      rw [if_pos rfl]
      refine ⟨?_, ?_, fun e he => ?_, ⟨?_, fun k hk => ?_⟩, fun k hk => ?_, ?_, fun k hk => ?_, fun k hk => ?_⟩
      · show ω.1 28 j = nI ((mk * 2 ^ 32 + r) / 2 ^ 32)
        rw [v28, show (mk * 2 ^ 32 + r) / 2 ^ 32 = mk by omega]
      · show ω.2 29 j = lN ((mk * 2 ^ 32 + r) % 2 ^ 32)
        rw [v29, show (mk * 2 ^ 32 + r) % 2 ^ 32 = r by omega]
      · have hmem : e = (30, 1) ∨ e = (31, 2) ∨ e = (32, 9) ∨ e = (33, 10) ∨ e = (34, 11) ∨ e = (35, 12) ∨ e = (38, 13) ∨ e = (40, 14) := by
          unfold rjs at he
          simpa using he
        rcases hmem with e0 | e0 | e0 | e0 | e0 | e0 | e0 | e0 <;> subst e0
        · exact v30
        · exact v31
        · exact v32
        · exact v33
        · show ω.1 34 j = nI 0; rw [hq.i (by omega)]; exact z34
        · show ω.1 35 j = nI 0; rw [hq.i (by omega)]; exact z35
        · show ω.1 38 j = nI 0; rw [hq.i (by omega)]; exact z38
        · show ω.1 40 j = nI 0; rw [hq.i (by omega)]; exact z40
      · show ω.1 36 j = nI 0; rw [hq.i (by omega)]; exact z36
      · exact absurd hk (Nat.not_lt_zero k)
      · show ω.1 39 (512 * j + k) = nI 0; rw [hq.i (by omega)]; exact z39 k hk
      · show ω.1 41 j = nI 0; rw [hq.i (by omega)]; exact z41
      · exact absurd hk (Nat.not_lt_zero k)
      · exact absurd hk (Nat.not_lt_zero k)
    · rw [if_neg e]
      exact (x4 j (by omega)).fr (hB j (by omega)) hq (fun q k h1 h2 => by
        have := lpl_lt h1
        rcases h2 with h2 | h2
        · have h3 : lpl n q k := by unfold lpl; omega
          exact e (lpl_ne h1 h3)
        · omega)
  · obtain ⟨⟨w34, w35, w36, w38, w40, w41⟩, w39⟩ := z0 j (by omega) h2
    exact ⟨⟨by rw [hq.i (by omega)]; exact w34, by rw [hq.i (by omega)]; exact w35, by rw [hq.i (by omega)]; exact w36, by rw [hq.i (by omega)]; exact w38, by rw [hq.i (by omega)]; exact w40, by rw [hq.i (by omega)]; exact w41⟩, fun k hk => by rw [hq.i (by omega)]; exact w39 k hk⟩
/-! the class -/
theorem c_new {σ : St} {n bg id w m a : Nat} {X : Xs} {Y : Ys} {tp : List Nat} (hC : CH σ n X Y bg tp) (hn : n < 24) : CH (sI (nL σ n (lN id) (nI w) (nI m) (nI a)) 0 10 (nI (n + 1))) (n + 1) (laX n X (L00 id w m a)) Y bg tp ∧ Fr pCf σ (sI (nL σ n (lN id) (nI w) (nI m) (nI a)) 0 10 (nI (n + 1))) := by
  have hq : Fr (fun q j => (q = 0 ∧ j = 10) ∨ 54 + 12 * n ≤ q) σ (sI (nL σ n (lN id) (nI w) (nI m) (nI a)) 0 10 (nI (n + 1))) := by
    intro q j h
    constructor
    · rw [sI_if, if_neg (fun h9 => h (Or.inl h9))]
      show (if q < 54 + 12 * n then σ.1 q else _) j = _
      rw [if_pos (by omega)]
    · rw [sI_2]
      show (if q < 54 + 12 * n then σ.2 q else _) j = _
      rw [if_pos (by omega)]
  have e10 : (sI (nL σ n (lN id) (nI w) (nI m) (nI a)) 0 10 (nI (n + 1))).1 0 10 = nI (n + 1) := sI_eq
  have i0 : ∀ j, (sI (nL σ n (lN id) (nI w) (nI m) (nI a)) 0 10 (nI (n + 1))).1 (qq n) j = nLI (nI w) (nI m) (nI a) j := fun j => by
    rw [sI_nk (by unfold qq; omega), show qq n = 54 + 12 * n from rfl, nL_i0]
  have j0 : ∀ j, (sI (nL σ n (lN id) (nI w) (nI m) (nI a)) 0 10 (nI (n + 1))).2 (qq n) j = nLJ (lN id) j := fun j => by
    rw [sI_2, show qq n = 54 + 12 * n from rfl, nL_j0]
  have ii : ∀ k j, (sI (nL σ n (lN id) (nI w) (nI m) (nI a)) 0 10 (nI (n + 1))).1 (qq n + (k + 1)) j = 0 := fun k j => by
    rw [sI_nk (by unfold qq; omega), show qq n + (k + 1) = 54 + 12 * n + (k + 1) from rfl, nL_i]
  generalize sI (nL σ n (lN id) (nI w) (nI m) (nI a)) 0 10 (nI (n + 1)) = ω at *
  refine ⟨⟨?_, hC.2.1.fr hq (fun r j h1 h2 h => by omega), hC.2.2.fr hq (fun j h => by omega) (fun j h => by omega)⟩, hq.mo (fun a b h => by unfold pCf; omega)⟩
  obtain ⟨x1, x2, ⟨x3, x3b⟩, x4, x5, x6, ⟨d, x7⟩, ⟨v, x8⟩, ⟨h, x9⟩, ⟨q, x10⟩, ⟨g, x11⟩⟩ := hC.1
  have rr : ∀ {r : Nat} {l : List Nat}, 1 ≤ r → r ≤ 16 → Rw σ r l → Rw ω r l := fun h1 h2 hr => hr.fr hq (fun j h => by omega) (fun j h => by omega)
  refine ⟨e10, by rw [hq.i (by omega)]; exact x2, ⟨by rw [hq.i (by omega)]; exact x3, x3b⟩, fun j hj => ?_, rr (by omega) (by omega) x5, ⟨by rw [hq.i (by omega)]; exact x6.1, x6.2.1, fun j hj => by rw [hq.i (by omega), hq.i (by omega)]; exact x6.2.2 j hj⟩, ⟨d, rr (by omega) (by omega) x7⟩, ⟨v, rr (by omega) (by omega) x8⟩, ⟨h, rr (by omega) (by omega) x9⟩, ⟨q, rr (by omega) (by omega) x10⟩, ⟨g, rr (by omega) (by omega) x11⟩⟩
  show CL ω (qq j) (if j = n then L00 id w m a else X.2.2.1 j)
  by_cases e : j = n
  · subst e
    rw [if_pos rfl]
    have rz : ∀ c, ln (qq j + (c + 1) + 1) ≤ 4000 → Rw ω (qq j + (c + 1)) [] := fun c hl => ⟨ii c 1, Nat.zero_le _, hl, fun k hk => absurd hk (Nat.not_lt_zero k)⟩
    refine ⟨j0 0, fun k hk => ?_, ?_, fun k hk => ?_, rz 1 (by rw [ln_q3]; decide), fun p hp => ?_⟩
    · rw [i0]
      have hmem : k = 1 ∨ k = 2 ∨ k = 8 ∨ k = 9 ∨ k = 10 ∨ k = 11 ∨ k = 12 ∨ k = 13 ∨ k = 14 := by simpa using hk
      rcases hmem with e0 | e0 | e0 | e0 | e0 | e0 | e0 | e0 | e0 <;> subst e0 <;> rfl
    · rw [i0]; rfl
    · exact ii 0 k
    · refine ⟨[], ?_, Or.inr ⟨fun e he => absurd he (by show ¬ e ∈ []; simp), ii 4 p⟩⟩
      have := rz (5 + 2 * p) (by rw [show qq j + (5 + 2 * p + 1) + 1 = qq j + 6 + 2 * p + 1 by omega, ln_qp j p hp]; decide)
      rw [show qq j + (5 + 2 * p + 1) = qq j + 6 + 2 * p by omega] at this
      exact this
  · rw [if_neg e]
    exact (x4 j (by omega)).fr hq (fun r k g1 g2 h => by unfold qq at g1 g2; omega)
theorem ic_0 {xs : Nat → Int32} {x4 : Int32} {i n : Nat} {σ : St} (h : Inv i n σ) : Ok (F_lc_0 xs x4 n σ) (fun z => Inv (i + 1) z.1 z.2) := by
  obtain ⟨X, Y, bg, tp, hn, hC, hM, hS, hf, hb⟩ := h
  have hB := hS.1.bl
  unfold F_lc_0
  generalize xs (Int32.toNatClampNeg (x4 + 1)) = a1
  generalize (((Int32.toInt64 (xs (Int32.toNatClampNeg (x4 + 2)))) <<< ((Int32.toInt64 32) &&& 63)) ||| ((Int32.toInt64 (xs (Int32.toNatClampNeg (x4 + 3)))) &&& 4294967295)) = a2
  generalize xs (Int32.toNatClampNeg (x4 + 4)) = a4
  generalize xs (Int32.toNatClampNeg (x4 + 5)) = a5
  generalize xs (Int32.toNatClampNeg (x4 + 6)) = a6
  have bad : ∀ c : Nat, 0 < c → c < 10 → F_L_lamp n σ a1 a2 a4 a5 a6 = some (σ, nI c) → (∀ τ, MH τ n X Y bg tp → Ok (F_X7_lamp τ a1 a2 a4 a5 a6) (Ma Int32.toInt64 n X Y bg tp c 0 τ)) → Ok ((F_L_lamp n σ a1 a2 a4 a5 a6).bind (fun y1 => (F_X7_lamp y1.1 a1 a2 a4 a5 a6).bind (fun y2 => (F_X7_thrown y2.1).bind (fun y3 => if y3.2 = y1.2 then if y1.2 = 0 then gd (ib 0 (ln (26))) (if (lg_cmp (y3.1.2 (26) (Int32.toNatClampNeg 0)) (Int32.toInt64 y2.2)) = 0 then some ((if y1.2 = 0 then n + 1 else n), y3.1) else none) else some ((if y1.2 = 0 then n + 1 else n), y3.1) else none)))) (fun z => Inv (i + 1) z.1 z.2) := by
    intro c hc hc2 hA hBB
    have c0 : ¬ nI c = 0 := nI_ne0 hc (by omega)
    refine Ok.eq hA ?_
    dsimp only
    refine Ok.bi (hBB σ hM) (fun y2 h2 => ?_)
    obtain ⟨b1, b2, b3, b4⟩ := h2
    unfold F_X7_thrown
    refine Ok.eq rfl ?_
    dsimp only
    refine Ok.tt b2 (Ok.ff c0 (Ok.so ?_))
    rw [if_neg c0]
    exact ⟨X, Y, bg, tp, hn, hC.fr b4 (fun q j h => by omega), b1, hS.up, by omega, hb⟩
  by_cases hv : lmOk a1 a2 a4 a5 a6
  rotate_left
  · refine bad 1 (by decide) (by decide) ?_ (fun τ hτ => ?_)
    · unfold F_L_lamp
      rw [lm_bad hv]
      rfl
    · obtain ⟨b, e1, e2⟩ := mk_lamp (σ := τ) (x1 := a1) (x2 := a2) (x4 := a4) (x5 := a5) (x6 := a6)
      rcases e2 with ⟨h9, -⟩ | ⟨-, rfl⟩
      · exact absurd h9 hv
      rw [e1, show fu = 4095 + 1 from rfl, m_l0 (n := n)]
      unfold F_X7_lamp_L133
      rw [if_pos rfl]
      exact m_thr (c := 1) hτ hB (by decide) (by decide)
  have hv' := hv
  obtain ⟨mk, r, w, m, a, rfl, rfl, rfl, rfl, rfl, c1, c2, c3, c4, c5⟩ := hv
  have hid : mk * 2 ^ 32 + r < 2 ^ 48 := by omega
  have hg : ∀ τ, MH τ n X Y bg tp → ∀ k, k < n → τ.1 28 k = nI (ids X k / 2 ^ 32) ∧ τ.2 29 k = lN (ids X k % 2 ^ 32) ∧ ids X k < 2 ^ 48 := fun τ hτ k hk => ⟨(hτ.1.2.2.2.1 k hk).1, (hτ.1.2.2.2.1 k hk).2.1, by have : ids X k < 2 ^ 47 := (hS.1 k hk).1.1; omega⟩
  have hT := it_C hn hC.1 hS.1 hid
  have mod : ∀ τ, MH τ n X Y bg tp → F_X7_lamp τ (nI mk) (lN r) (nI w) (nI m) (nI a) = F_X7_lamp_L83 F_X7_lamp_L133 fu τ (nI mk) (lN r) (nI w) (nI m) (nI a) 1 (nI 0) := by
    intro τ hτ
    obtain ⟨b, e1, e2⟩ := mk_lamp (σ := τ) (x1 := nI mk) (x2 := lN r) (x4 := nI w) (x5 := nI m) (x6 := nI a)
    rcases e2 with ⟨-, rfl⟩ | ⟨h9, -⟩
    · exact e1
    · exact absurd hv' h9
  have lp := fun τ hτ => m_l1 (x4 := nI w) (x5 := nI m) (x6 := nI a) (g := ids X) hn hτ.1.1 (hg τ hτ) (show mk < 2 ^ 16 by omega) (show r < 2 ^ 32 by omega) n fu 0 (by unfold fu; omega) (by omega)
  by_cases hth : thr n X (mk * 2 ^ 32 + r)
  · refine bad 1 (by decide) (by decide) ?_ (fun τ hτ => ?_)
    · unfold F_L_lamp
      rw [lm_good c1 c2 c3 c4 c5, bd_eq (hT.1 hth)]
      rfl
    · obtain ⟨j, j1, j2⟩ := hth
      rw [mod τ hτ, (lp τ hτ).1 ⟨j, by omega, by omega, j2⟩]
      unfold F_X7_lamp_L133
      rw [if_pos rfl]
      exact m_thr (c := 1) hτ hB (by decide) (by decide)
  have lp2 : ∀ τ, MH τ n X Y bg tp → F_X7_lamp τ (nI mk) (lN r) (nI w) (nI m) (nI a) = F_X7_lamp_L133 τ (nI mk) (lN r) (nI w) (nI m) (nI a) 1 := fun τ hτ => by
    rw [mod τ hτ, (lp τ hτ).2 (fun ⟨j, j1, j2, j3⟩ => hth ⟨j, by omega, j3⟩)]
  by_cases h24 : n = 24
  · refine bad 2 (by decide) (by decide) ?_ (fun τ hτ => ?_)
    · unfold F_L_lamp
      rw [lm_good c1 c2 c3 c4 c5, bd_eq (hT.2 hth)]
      dsimp only
      rw [if_pos rfl, hC.1.1, h24]
      rfl
    · rw [lp2 τ hτ]
      unfold F_X7_lamp_L133
      rw [if_neg (by decide), hτ.1.1, if_pos (by rw [h24]; rfl)]
      exact m_thr (c := 2) hτ hB (by decide) (by decide)
  have hn2 : n < 24 := by omega
  obtain ⟨cn1, cn2⟩ := c_new (id := mk * 2 ^ 32 + r) (w := w) (m := m) (a := a) hC hn2
  have e010 : (nL σ n (lN (mk * 2 ^ 32 + r)) (nI w) (nI m) (nI a)).1 0 10 = nI n := by
    show (if 0 < 54 + 12 * n then σ.1 0 else _) 10 = nI n
    rw [if_pos (by omega)]; exact hC.1.1
  have hA : F_L_lamp n σ (nI mk) (lN r) (nI w) (nI m) (nI a) = some (sJ (sI (nL σ n (lN (mk * 2 ^ 32 + r)) (nI w) (nI m) (nI a)) 0 10 (nI (n + 1))) 26 0 (nI n).toInt64, 0) := by
    unfold F_L_lamp
    rw [lm_good c1 c2 c3 c4 c5, bd_eq (hT.2 hth)]
    dsimp only
    rw [if_pos rfl, hC.1.1, if_pos (show nI n < (24 : Int32) from nI_lt (b := 24) hn2 (by decide)), gd_t (ib_nI hn2 (by decide)), nI_clamp (by omega), gd_t (decide_eq_true rfl), e010, nI_1]
    simp only [Option.bind_some]
    rw [if_pos trivial, sI_eq, show nI (n + 1) - 1 = nI n from pk_sub (b := 1) (by omega), show Int32.toNatClampNeg 0 = 0 from by decide]
  generalize sI (nL σ n (lN (mk * 2 ^ 32 + r)) (nI w) (nI m) (nI a)) 0 10 (nI (n + 1)) = ω at *
  have q0 : Fr (fun q j => q = 26 ∧ j = 0) ω (sJ ω 26 0 (nI n).toInt64) := Fr.sJ ⟨rfl, rfl⟩
  have v26 : (sJ ω 26 0 (nI n).toInt64).2 26 0 = (nI n).toInt64 := sJ_eq
  have ch1 := cn1.fr q0 (fun q j h => by omega)
  have fr1 : Fr pCf σ (sJ ω 26 0 (nI n).toInt64) := cn2.t (q0.mo (fun a b h => by unfold pCf; omega))
  generalize sJ ω 26 0 (nI n).toInt64 = κ at *
  refine Ok.eq hA ?_
  dsimp only
  have hMk : MH κ n X Y bg tp := hM.fr hB fr1 (fun q j h => by unfold pCf at h; omega)
  have hmN : Ok (F_X7_lamp κ (nI mk) (lN r) (nI w) (nI m) (nI a)) (fun y => MH y.1 (n + 1) (laX n X (L00 (mk * 2 ^ 32 + r) w m a)) Y bg tp ∧ y.1.1 27 0 = nI 0 ∧ y.2 = nI n ∧ Fr (fun q _ => 27 ≤ q ∧ q ≤ 53) κ y.1) := by
    rw [lp2 κ hMk]
    unfold F_X7_lamp_L133
    rw [if_neg (by decide), hMk.1.1, if_neg (show ¬ nI n = (24 : Int32) from fun h9 => h24 ((nI_eq (b := 24) (by omega) (by omega)).mp h9))]
    exact m_new hMk hB hn2 (by omega)
  refine Ok.bi hmN (fun y2 h2 => ?_)
  obtain ⟨b1, b2, b3, b4⟩ := h2
  unfold F_X7_thrown
  refine Ok.eq rfl ?_
  dsimp only
  refine Ok.tt b2 (Ok.tt rfl (Ok.gd (by decide) (Ok.tt ?_ (Ok.so ?_))))
  · rw [show Int32.toNatClampNeg 0 = 0 from by decide, cm_0, b4.l (by omega), v26, b3]
  · rw [if_pos rfl]
    refine ⟨laX n X (L00 (mk * 2 ^ 32 + r) w m a), Y, bg, tp, by omega, ch1.fr b4 (fun q j h => by omega), b1, ⟨fun j hj => ?_, hS.2.1, hS.2.2.1, ⟨fun j hj => ?_, hS.2.2.2.2⟩⟩, by show X.1 ≤ 3000 * (i + 1); omega, hb⟩
    · show Wl (i + 1) X.1 3 (if j = n then L00 (mk * 2 ^ 32 + r) w m a else X.2.2.1 j)
      by_cases e : j = n
      · rw [if_pos e]; exact L00_wl c1.1 c1.2 c2 c3 c4 c5
      · rw [if_neg e]; exact (hS.1 j (by omega)).up (by omega) (Nat.le_refl _)
    · obtain ⟨k, k1, k2⟩ := hS.2.2.2.1 j hj
      refine ⟨k, by omega, ?_⟩
      show (if k = n then L00 (mk * 2 ^ 32 + r) w m a else X.2.2.1 k).1 0 = Y.2.2.2.1 j
      rw [if_neg (by omega)]; exact k2
/-! every call; the start -/
theorem inv_it {xs : Nat → Int32} {i n : Nat} {σ : St} {x4 : Int32} (hi : i < 512) (h : Inv i n σ) : ∃ z, F_it xs x4 n σ = some z ∧ Inv (i + 1) z.1 z.2 := by
  have key : Ok (F_it xs x4 n σ) (fun z => Inv (i + 1) z.1 z.2) := by
    unfold F_it
    refine Ok.it (fun _ => ic_0 h) (fun _ => ?_)
    refine Ok.it (fun _ => ic_1 h) (fun _ => ?_)
    refine Ok.it (fun _ => ic_2 h) (fun _ => ?_)
    refine Ok.it (fun _ => ic_3 hi h) (fun _ => ?_)
    refine Ok.it (fun _ => ic_4 h) (fun _ => ?_)
    refine Ok.it (fun _ => ic_5 hi h) (fun _ => ?_)
    refine Ok.it (fun _ => ic_6 h) (fun _ => ?_)
    refine Ok.it (fun _ => ic_7 h) (fun _ => ?_)
    refine Ok.it (fun _ => ic_8 hi h) (fun _ => ?_)
    refine Ok.it (fun _ => ic_9 h) (fun _ => ?_)
    refine Ok.it (fun _ => ic_10 h) (fun _ => ?_)
    refine Ok.it (fun _ => ic_11 h) (fun _ => ?_)
    refine Ok.it (fun _ => ic_12 h) (fun _ => ?_)
    refine Ok.it (fun _ => ic_13 hi h) (fun _ => ?_)
    refine Ok.it (fun _ => ic_14 hi h) (fun _ => ?_)
    refine Ok.it (fun _ => ic_15 h) (fun _ => ?_)
    refine Ok.it (fun _ => ic_16 h) (fun _ => ?_)
    refine Ok.it (fun _ => ic_17 h) (fun _ => ?_)
    obtain ⟨X, Y, bg, tp, hn, hC, hM, hS, hf, hb⟩ := h
    exact Ok.so ⟨X, Y, bg, tp, hn, hC, hM, hS.up, by omega, hb⟩
  exact key
theorem inv_00 : Inv 0 0 s00 := by
  have rz : ∀ r, ln (r + 1) ≤ 4000 → Rw s00 r [] := fun r h => ⟨rfl, Nat.zero_le _, h, fun k hk => absurd hk (Nat.not_lt_zero k)⟩
  have mz : ∀ a s, Mw s00 a s [] := fun a s => ⟨rfl, Nat.zero_le _, fun k hk => absurd hk (Nat.not_lt_zero k)⟩
  refine ⟨(0, 0, fun _ => L00 0 0 0 0, [], 0, fun _ => (0, 0)), (0, fun _ => (0, 0), 0, fun _ => 0, 0), 0, [], by decide, ⟨⟨rfl, rfl, ⟨rfl, by decide⟩, fun j hj => absurd hj (Nat.not_lt_zero j), rz 7 (by decide), ⟨rfl, by decide, fun j hj => absurd hj (Nat.not_lt_zero j)⟩, ⟨[], rz 16 (by decide)⟩, ⟨[], rz 5 (by decide)⟩, ⟨[], rz 13 (by decide)⟩, ⟨[], rz 10 (by decide)⟩, ⟨[], rz 3 (by decide)⟩⟩, ⟨rfl, rfl, fun j hj => absurd hj (Nat.not_lt_zero j), rfl, fun j hj => absurd hj (Nat.not_lt_zero j), rfl⟩, rz 1 (by decide)⟩, ⟨⟨rfl, rfl, rfl, fun j hj => absurd hj (Nat.not_lt_zero j), mz 47 25, ⟨rfl, by decide, fun j hj => absurd hj (Nat.not_lt_zero j)⟩, ⟨[], mz 48 27⟩⟩, ⟨rfl, rfl, fun j hj => absurd hj (Nat.not_lt_zero j), rfl, fun j hj => absurd hj (Nat.not_lt_zero j), rfl⟩, mz 45 20, fun j _ _ => ⟨⟨rfl, rfl, rfl, rfl, rfl, rfl⟩, fun k _ => rfl⟩⟩, ⟨fun j hj => absurd hj (Nat.not_lt_zero j), by decide, ⟨fun j hj => absurd hj (Nat.not_lt_zero j), by decide⟩, ⟨fun j hj => absurd hj (Nat.not_lt_zero j), fun a j h1 h2 => absurd h2 (Nat.not_lt_zero j)⟩⟩, by decide, by decide⟩
