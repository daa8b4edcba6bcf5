/-! ===== PURE: ask ===== -/
theorem CX.fq {σ τ : St} {n : Nat} {X : Xs} {l : List Nat} (hX : CX σ n X) (he : Fr (fun r _ => r = 1 ∨ r = 9 ∨ r = 10 ∨ r = 11) σ τ) (hr : Rw τ 10 l) : CX τ n X := by
  obtain ⟨x1, x2, ⟨x3, x3b⟩, x4, x5, x6, ⟨d, x7⟩, ⟨v, x8⟩, ⟨h, x9⟩, -, ⟨g, x11⟩⟩ := hX
  exact ⟨by rw [he.i (by omega)]; exact x1, by rw [he.i (by omega)]; exact x2, ⟨by rw [he.i (by omega)]; exact x3, x3b⟩, fun j hj => (x4 j hj).fr he (fun r k g1 g2 h => by unfold qq at g1; omega), x5.fr he (fun j => by omega) (fun j => by omega), ⟨by rw [he.i (by omega)]; exact x6.1, x6.2.1, fun j hj => by rw [he.i (by omega), he.i (by omega)]; exact x6.2.2 j hj⟩, ⟨d, x7.fr he (fun j => by omega) (fun j => by omega)⟩, ⟨v, x8.fr he (fun j => by omega) (fun j => by omega)⟩, ⟨h, x9.fr he (fun j => by omega) (fun j => by omega)⟩, ⟨l, hr⟩, ⟨g, x11.fr he (fun j => by omega) (fun j => by omega)⟩⟩
theorem m_inC {σ : St} {x c : Int32} : F_X7_in σ x.toInt64 0 c.toInt64 = some (σ, if ¬ x < 0 ∧ x ≤ c then 1 else 0) := by
  rw [m_in]
  have e1 : ((0 : Int64) ≤ x.toInt64 ∧ x.toInt64 ≤ c.toInt64) ↔ (¬ x < 0 ∧ x ≤ c) := by
    have h1 : ((0 : Int64) ≤ x.toInt64) ↔ (0 ≤ x) := i64_le (x := 0) (y := x)
    rw [h1, i64_le, Int32.le_iff_toInt_le, Int32.lt_iff_toInt_lt, Int32.le_iff_toInt_le]
    omega
  by_cases h : ¬ x < 0 ∧ x ≤ c
  · rw [if_pos h, if_pos (e1.mpr h)]
  · rw [if_neg h, if_neg (fun h9 => h (e1.mp h9))]
theorem m_inD {σ : St} {x c : Int64} : F_X7_in σ x 0 c = some (σ, if ¬ x < 0 ∧ x ≤ c then 1 else 0) := by
  rw [m_in]
  have e1 : ((0 : Int64) ≤ x ∧ x ≤ c) ↔ (¬ x < 0 ∧ x ≤ c) := by
    rw [Int64.le_iff_toInt_le, Int64.lt_iff_toInt_lt, Int64.le_iff_toInt_le]
    omega
  by_cases h : ¬ x < 0 ∧ x ≤ c
  · rw [if_pos h, if_pos (e1.mpr h)]
  · rw [if_neg h, if_neg (fun h9 => h (e1.mp h9))]
theorem lt_nle {x c : Int32} : c < x ↔ ¬ x ≤ c := by
  rw [Int32.lt_iff_toInt_lt, Int32.le_iff_toInt_le]; omega
abbrev akOk (x1 : Int32) (x2 : Int64) (x4 x5 x6 : Int32) : Prop := (¬ x1 < 0 ∧ x1 ≤ 65535) ∧ (¬ x2 < 0 ∧ x2 ≤ 4294967295) ∧ (¬ x4 < 0 ∧ x4 ≤ 65535) ∧ (¬ x5 < 0 ∧ x5 ≤ 255) ∧ (¬ x6 < 0 ∧ x6 ≤ 65535)
theorem ak_bad {σ : St} {n : Nat} {x1 x4 x5 x6 : Int32} {x2 : Int64} (h : ¬ akOk x1 x2 x4 x5 x6) : F_X6_ask n σ x1 x2 x4 x5 x6 = some (σ, 1, 0) := by
  unfold F_X6_ask F_X6_ask_L24 F_X6_ask_L71
  by_cases a1 : x1 < 0
  · rw [if_pos a1]
  rw [if_neg a1]
  by_cases b1 : 65535 < x1
  · rw [if_pos b1]
  rw [if_neg b1]
  by_cases a2 : x2 < 0
  · rw [if_pos (cm_lt.mpr a2)]
  rw [if_neg (fun h9 => a2 (cm_lt.mp h9))]
  by_cases b2 : x2 ≤ 4294967295
  rotate_left
  · rw [if_neg (fun h9 => b2 (cm_le.mp h9))]
  rw [if_pos (cm_le.mpr b2)]
  by_cases a4 : x4 < 0
  · rw [if_pos a4]
  rw [if_neg a4]
  by_cases b4 : 65535 < x4
  · rw [if_pos b4]
  rw [if_neg b4]
  by_cases a5 : x5 < 0
  · rw [if_pos a5]
  rw [if_neg a5]
  by_cases b5 : 255 < x5
  · rw [if_pos b5]
  rw [if_neg b5]
  by_cases a6 : x6 < 0
  · rw [if_pos a6]
  rw [if_neg a6]
  by_cases b6 : x6 ≤ 65535
  · rw [lt_nle, Classical.not_not] at b1 b4 b5
    exact absurd ⟨⟨a1, b1⟩, ⟨a2, b2⟩, ⟨a4, b4⟩, ⟨a5, b5⟩, a6, b6⟩ h
  · rw [if_neg b6]
theorem if10 {c : Prop} [Decidable c] : ((if c then (1 : Int32) else 0) = 0) ↔ ¬ c := by
  by_cases h : c
  · rw [if_pos h]; exact ⟨fun h9 => absurd h9 (by decide), fun h9 => absurd h h9⟩
  · rw [if_neg h]; exact ⟨fun _ => h, fun _ => rfl⟩
theorem mk_ask {σ : St} {x1 x4 x5 x6 : Int32} {x2 : Int64} : F_X7_ask σ x1 x2 x4 x5 x6 = F_X7_ask_L68 σ x1 x2 x4 x5 x6 (if akOk x1 x2 x4 x5 x6 then 1 else 0) := by
  unfold F_X7_ask F_X7_ask_L67
  rw [show (65535 : Int64) = (65535 : Int32).toInt64 from rfl, show (255 : Int64) = (255 : Int32).toInt64 from rfl, bd_eq m_inC]
  dsimp only
  by_cases h1 : ¬ x1 < 0 ∧ x1 ≤ 65535
  rotate_left
  · rw [if_pos (if10.mpr h1), if_neg (fun h9 => h1 h9.1)]
  rw [if_neg (fun h9 => if10.mp h9 h1), bd_eq m_inD]
  dsimp only
  by_cases h2 : ¬ x2 < 0 ∧ x2 ≤ 4294967295
  rotate_left
  · rw [if_pos (if10.mpr h2), if_neg (fun h9 => h2 h9.2.1)]
  rw [if_neg (fun h9 => if10.mp h9 h2), bd_eq m_inC]
  dsimp only
  by_cases h4 : ¬ x4 < 0 ∧ x4 ≤ 65535
  rotate_left
  · rw [if_pos (if10.mpr h4), if_neg (fun h9 => h4 h9.2.2.1)]
  rw [if_neg (fun h9 => if10.mp h9 h4), bd_eq m_inC]
  dsimp only
  by_cases h5 : ¬ x5 < 0 ∧ x5 ≤ 255
  rotate_left
  · rw [if_pos (if10.mpr h5), if_neg (fun h9 => h5 h9.2.2.2.1)]
  rw [if_neg (fun h9 => if10.mp h9 h5), bd_eq m_inC]
  dsimp only
  by_cases h6 : ¬ x6 < 0 ∧ x6 ≤ 65535
  rotate_left
  · rw [if_pos (if10.mpr h6), if_neg (fun h9 => h6 h9.2.2.2.2)]
  rw [if_neg (fun h9 => if10.mp h9 h6), if_pos ⟨h1, h2, h4, h5, h6⟩]
theorem nn_le {x : Int32} {c : Nat} (hc : c < 2 ^ 31) (h1 : ¬ x < 0) (h2 : x ≤ nI c) : ∃ k, k ≤ c ∧ x = nI k := by
  obtain ⟨k, hk, rfl⟩ := i32_nn h1
  refine ⟨k, ?_, rfl⟩
  apply Classical.byContradiction
  intro h9
  exact absurd h2 (nI_ge (by omega) hk)
theorem jid {σ : St} {m r : Nat} (hm : m ≤ 65535) (hr : r ≤ 4294967295) : (((Int32.toInt64 (nI m)) <<< ((Int32.toInt64 32) &&& 63)) ||| lN r) = lN (m * 2 ^ 32 + r) := by
  rw [nI_l (by omega), show (32 : Int32) = nI 32 from rfl, wb_shl m (by decide)]
  exact wb_ors (k := 32) (by omega) (by omega)
def akV (a : List Nat) (to c : Nat) : Int32 := if a.length = 0 then -1 else if isRep a to c then nI (a.getD 16 0) else -2
theorem akC {σ : St} {n bg m r pt g mt o : Nat} {X : Xs} {Y : Ys} {tp : List Nat} (hn : n ≤ 24) (hC : CH σ n X Y bg tp) (hW : WX o n X) (ho : o + 1 ≤ 1000) (hno : X.1 + 1 < 2 ^ 31) (hm : m ≤ 65535) (hr : r ≤ 4294967295) (hp : pt ≤ 65535) (hg : g ≤ 255) (hmt : mt ≤ 65535) : Ok (F_X6_ask n σ (nI m) (lN r) (nI pt) (nI g) (nI mt)) (Cr Int32.toInt64 1 σ n (askX n X (m * 2 ^ 32 + r) pt g mt (tp.take 231)) Y bg [] 0 (akV (askX n X (m * 2 ^ 32 + r) pt g mt (tp.take 231)).2.2.2.1 (m * 2 ^ 32 + r) (askX n X (m * 2 ^ 32 + r) pt g mt (tp.take 231)).2.1).toInt64) := by
  have ltp := hC.2.2.2.1
  rw [show ln (1 + 1) = 520 from rfl] at ltp
  have hto : m * 2 ^ 32 + r < 2 ^ 48 := by omega
  unfold F_X6_ask
  refine Ok.ff (nI_pos (by omega)) (Ok.ff (show ¬ (65535 : Int32) < _ from nI_nlt (a := 65535) hm (by decide)) (Ok.ff (fun h9 => by have := (pk_lLT (a := r) (b := 0) (by omega) (by decide)).mp (cm_lt.mp h9); omega) (Ok.tt (cm_le.mpr ((pk_lLE (b := 4294967295) (by omega) (by decide)).mpr hr)) (Ok.ff (nI_pos (by omega)) (Ok.ff (show ¬ (65535 : Int32) < _ from nI_nlt (a := 65535) hp (by decide)) (Ok.ff (nI_pos (by omega)) (Ok.ff (show ¬ (255 : Int32) < _ from nI_nlt (a := 255) hg (by decide)) (Ok.ff (nI_pos (by omega)) (Ok.tt (show _ ≤ (65535 : Int32) from nI_le (b := 65535) hmt (by decide)) ?_)))))))))
  have hj : F_X6_joinedId σ (nI m) (lN r) = some (σ, lN (m * 2 ^ 32 + r)) := by
    unfold F_X6_joinedId
    rw [jid (σ := σ) hm hr]
  refine Ok.eq hj ?_
  generalize m * 2 ^ 32 + r = to at *
  dsimp only
  refine Ok.bi (f_bq hC.1 hto (show g < 256 by omega) (show mt < 65536 by omega)) (fun τ1 h1 => ?_)
  obtain ⟨b1, b2, b3⟩ := h1
  refine Ok.nm ?_
  have q1 : Fr (fun q j => q = 9 ∧ j = 5) τ1 (sI τ1 9 5 (nI pt)) := Fr.sI ⟨rfl, rfl⟩
  obtain ⟨⟨a1, c1⟩, ⟨a2, c2⟩, ⟨a3, c3⟩, ⟨a4, c4⟩, ⟨a5, c5⟩, ⟨a6, c6⟩, ⟨a7, c7⟩, ⟨a8, c8⟩, hd10, h231⟩ := b2
  have r1 : Rw τ1 1 tp := hC.2.2.fr b3 (fun j => by omega) (fun j => by omega)
  have r1' := r1.fr q1 (fun j => by omega) (fun j => by omega)
  have r10' := hd10.fr q1 (fun j => by omega) (fun j => by omega)
  have e95 : (sI τ1 9 5 (nI pt)).1 9 5 = nI pt := sI_eq
  generalize sI τ1 9 5 (nI pt) = τ2 at *
  refine Ok.bi (f_copy (r0 := 10) (r1 := 1) (by decide) (by decide) (by decide) r1' r10') (fun τ3 h3 => ?_)
  have k3 : Fr (fun r _ => r = 10 ∨ r = 11) τ2 τ3 := (Fr.ex h3.2).mo (fun a b h => by simpa using h)
  have d10 : Rw τ3 10 (tp.take 231) := h3.1
  obtain ⟨τ4, e1, e2, e3⟩ := f_cut0 (r1'.fr k3 (fun j => by omega) (fun j => by omega))
  have k4 : Fr (fun r _ => r = 1) τ3 τ4 := (Fr.ex e3).mo (fun a b h => by simpa using h)
  refine Ok.eq e1 ?_
  have k14 : Fr (fun r _ => r = 1 ∨ r = 9 ∨ r = 10 ∨ r = 11) τ1 τ4 := ((q1.mo (fun a b h => by omega)).t (k3.mo (fun a b h => by omega))).t (k4.mo (fun a b h => by omega))
  have k24 : Fr (fun r _ => r = 1 ∨ r = 10 ∨ r = 11) τ2 τ4 := (k3.mo (fun a b h => by omega)).t (k4.mo (fun a b h => by omega))
  have d10' : Rw τ4 10 (tp.take 231) := d10.fr k4 (fun j => by omega) (fun j => by omega)
  have x4 : CX τ4 n (X.1, (X.2.1 + 1) % 256, X.2.2) := b1.fq k14 d10'
  have hP4 : Pk τ4 9 to SR ((X.2.1 + 1) % 256) 1 0 pt g mt (tp.take 231) := ⟨⟨by rw [k24.l (by omega), q1.l (by omega)]; exact a1, c1⟩, ⟨by rw [k24.l (by omega), q1.l (by omega)]; exact a2, c2⟩, ⟨by rw [k24.i (by omega), q1.i (by omega)]; exact a3, c3⟩, ⟨by rw [k24.i (by omega), q1.i (by omega)]; exact a4, c4⟩, ⟨by rw [k24.i (by omega), q1.i (by omega)]; exact a5, c5⟩, ⟨by rw [k24.i (by omega)]; exact e95, by omega⟩, ⟨by rw [k24.i (by omega), q1.i (by omega)]; exact a7, c7⟩, ⟨by rw [k24.i (by omega), q1.i (by omega)]; exact a8, c8⟩, d10', h231⟩
  refine Ok.b2 (f_send (X := X) rfl x4 hn hW ho hno hP4) (fun τ5 h5 => ?_)
  obtain ⟨p1, p2⟩ := h5
  have fAll : Fr pCf σ τ5 := ((b3.mo (fun a b h => by unfold pCf; omega)).t (k14.mo (fun a b h => by unfold pCf; omega))).t (p2.mo (fun a b h => by unfold pA at h; unfold pCf; omega))
  have yAll : CY τ5 bg Y := ((hC.2.1.fr b3 (fun r j h1 h2 h => by omega)).fr k14 (fun r j h1 h2 h => by omega)).fr p2 (fun r j h1 h2 h => by unfold pA at h; omega)
  have t5 : Rw τ5 1 [] := e2.fr p2 (fun j => by unfold pA; omega) (fun j => by unfold pA; omega)
  generalize askX n X to pt g mt (tp.take 231) = Q at *
  have r7 : Rw τ5 7 Q.2.2.2.1 := p1.2.2.2.2.1
  have l7 := r7.2.1
  rw [show ln (7 + 1) = 257 from rfl] at l7
  refine Ok.eq (f_size r7) ?_
  dsimp only
  unfold akV
  by_cases h0 : Q.2.2.2.1.length = 0
  · rw [if_pos h0]
    exact Ok.tt (by rw [h0]; rfl) (Ok.so ⟨⟨p1, yAll, t5⟩, Or.inl ⟨rfl, rfl, rfl⟩, fAll⟩)
  rw [if_neg h0]
  refine Ok.ff (nI_ne0 (by omega) (by omega)) ?_
  refine Ok.bi (f_isRep p1 hto) (fun y hy => ?_)
  obtain ⟨y1, y2, y3⟩ := hy
  have fY : Fr pCf σ y.1 := fAll.t (y2.mo (fun a b h => by unfold pCf; omega))
  have hYY : CY y.1 bg Y := yAll.fr y2 (fun r j h1 h2 h => by omega)
  have t6 : Rw y.1 1 [] := t5.fr y2 (fun j => by omega) (fun j => by omega)
  rcases y3 with ⟨g1, g2, g3⟩ | ⟨g1, g2⟩
  · rw [if_pos g1]
    refine Ok.ff (by rw [g2]; decide) (Ok.so ⟨⟨y1, hYY, t6⟩, Or.inl ⟨rfl, rfl, ?_⟩, fY⟩)
    dsimp only
    rw [g3.2.2.2.1.1]
  · rw [if_neg g1]
    exact Ok.tt g2 (Ok.so ⟨⟨y1, hYY, t6⟩, Or.inl ⟨rfl, rfl, rfl⟩, fY⟩)
theorem take_s {l : List Nat} {k : Nat} (h : k < l.length) : l.take (k + 1) = l.take k ++ [l.getD k 0] := by
  rw [List.take_add_one, List.getD_eq_getElem?_getD, List.getElem?_eq_getElem h]
  rfl
theorem m_akL {tp Z : List Nat} {σ0 : St} {u1 : Int32} {u2 : Int64} {K : St → Int32 → Int64 → Option (St × Int32)} {P : St × Int32 → Prop} (hZ : Z.length = 24) (ht : Mw σ0 45 20 tp) (hK : ∀ τ, Mw τ 46 23 (Z ++ tp.take 231) → Fr pv σ0 τ → Ok (K τ u1 u2) P) : ∀ (m fz k : Nat) (σ : St), m < fz → k + m = min tp.length 231 → Mw σ 46 23 (Z ++ tp.take k) → Fr pv σ0 σ → Ok (F_X7_ask_L94 K fz σ u1 u2 (nI k)) P := by
  have hl := ht.2.1
  rw [show ln 45 = 520 from rfl] at hl
  intro m
  induction m with
  | zero =>
    intro fz k σ hf hk h he
    cases fz with
    | zero => omega
    | succ fz =>
      unfold F_X7_ask_L94
      rw [show k = min tp.length 231 by omega, take_min] at h
      have hlen := ht.1
      refine Ok.it (fun _ => hK σ h he) (fun h9 => Ok.tt ?_ (hK σ h he))
      rw [he.i (show ¬ pv 27 20 by unfold pv; omega), hlen] at h9
      by_cases h5 : tp.length ≤ 231
      · exact absurd (nI_le (by omega) (by omega)) h9
      · exact (show (231 : Int32) ≤ _ from nI_le (a := 231) (by omega) (by omega))
  | succ m ih =>
    intro fz k σ hf hk h he
    cases fz with
    | zero => omega
    | succ fz =>
      unfold F_X7_ask_L94
      refine Ok.ff (by rw [he.i (show ¬ pv 27 20 by unfold pv; omega), ht.1]; exact nI_ge (by omega) (by omega)) (Ok.ff (show ¬ (231 : Int32) ≤ _ from nI_ge (b := 231) (by omega) (by omega)) ?_)
      refine Ok.gd (show ib (nI k) (ln 45) = true from ib_nI (show k < 520 by omega) (by decide)) ?_
      rw [nI_clamp (by omega)]
      have hlt : (Z ++ tp.take k).length = 24 + k := by rw [List.length_append, hZ, List.length_take]; omega
      refine vput (σ0 := σ0) (x := tp.getD k 0) h he (by omega) (by rw [he.i (show ¬ pv 45 k by unfold pv; omega)]; exact ht.2.2 k (by omega)) (fun τ h1 h2 => ?_)
      rw [nI_1]
      refine ih fz (k + 1) τ (by omega) (by omega) ?_ h2
      rw [take_s (by omega), ← List.append_assoc]
      exact h1
theorem akM {τ : St} {n bg m r pt g mt o : Nat} {X : Xs} {Y : Ys} {tp : List Nat} (hn : n ≤ 24) (hτ : MH τ n X Y bg tp) (hc : X.2.1 < 256) (hW : WX o n X) (ho : o + 1 ≤ 1000) (hno : X.1 + 4 < 2 ^ 31) (hm : m ≤ 65535) (hr : r ≤ 4294967295) (hp : pt ≤ 65535) (hg : g ≤ 255) (hmt : mt ≤ 65535) : Ok (F_X7_ask_L68 τ (nI m) (lN r) (nI pt) (nI g) (nI mt) 1) (Ma Int32.toInt64 n (askX n X (m * 2 ^ 32 + r) pt g mt (tp.take 231)) Y bg [] 0 (akV (askX n X (m * 2 ^ 32 + r) pt g mt (tp.take 231)).2.2.2.1 (m * 2 ^ 32 + r) (askX n X (m * 2 ^ 32 + r) pt g mt (tp.take 231)).2.1).toInt64 τ) := by
  have hB := hW.bl
  have hto : m * 2 ^ 32 + r < 2 ^ 48 := by omega
  have hj : ∀ ρ : St, F_X7_idOf ρ (nI m) (lN r) = some (ρ, lN (m * 2 ^ 32 + r)) := by
    intro ρ
    unfold F_X7_idOf
    rw [jid (σ := ρ) hm hr]
  unfold F_X7_ask_L68
  refine Ok.eq (m_goes (b := true)) (Ok.ff (show ¬ bI true = 0 by decide) ?_)
  obtain ⟨g1, g2, g3, g4⟩ := ma_ok (V := fun _ : Nat => 0) (z := 0) (v := 0) hτ hB rfl
  dsimp only at g1 g2 g4 ⊢
  generalize sI τ 27 0 (nI (if true = true then 0 else 1)) = ρ at *
  refine Ok.eq (hj ρ) ?_
  dsimp only
  refine Ok.bi (m_bp g1.1 hB hc hto (show pt < 65536 by omega) (show g < 256 by omega) (show mt < 65536 by omega)) (fun τ1 h1 => ?_)
  obtain ⟨b1, b2, b3⟩ := h1
  have t1 : Mw τ1 45 20 tp := g1.2.2.1.fr b3 (by omega) (fun j => by omega)
  have ltp := t1.2.1
  rw [show ln 45 = 520 from rfl] at ltp
  refine m_akL (σ0 := τ1) (tp := tp) pz_len t1 (fun τ2 m2 q2 => ?_) (min tp.length 231) fu 0 τ1 (by unfold fu; omega) (by omega) (by rw [List.take_zero, List.append_nil]; exact b1) Fr.rf
  unfold F_X7_ask_L128
  refine Ok.nm ?_
  have q3 : Fr (fun q j => q = 27 ∧ j = 20) τ2 (sI τ2 27 20 0) := Fr.sI ⟨rfl, rfl⟩
  have t3 : Mw (sI τ2 27 20 0) 45 20 [] := ⟨by rw [sI_eq]; rfl, by decide, fun k hk => absurd hk (Nat.not_lt_zero k)⟩
  have f3 : Fr (fun q j => q = 46 ∨ (q = 27 ∧ (j = 20 ∨ j = 23 ∨ j = 31))) ρ (sI τ2 27 20 0) := ((b3.mo (fun a b h => by omega)).t (q2.mo (fun a b h => by unfold pv at h; omega))).t (q3.mo (fun a b h => by omega))
  have x3 : MX (sI τ2 27 20 0) n (X.1, (X.2.1 + 1) % 256, X.2.2) := (b2.fr hB q2 (fun q j h1 h2 => by unfold pX at h1; unfold pv at h2; omega)).fr hB q3 (fun q j h1 h2 => by unfold pX at h1; omega)
  have m3 := m2.fr q3 (by omega) (fun j => by omega)
  have y3 := g1.2.1.fr f3 (fun q j h1 h2 => by unfold pS at h1; omega)
  have z3 := g1.2.2.2.fr f3 (fun a q j h1 h2 h3 => by have := lpl_lt h2; omega)
  have c3 : (sI τ2 27 20 0).1 27 0 = nI 0 := by rw [f3.i (by omega)]; exact g2
  generalize sI τ2 27 20 0 = τ3 at *
  refine Ok.bi (m_so (X := X) (d := tp.take 231) rfl x3 hn hW ho hno m3 (by rw [List.length_take]; omega)) (fun τ4 h4 => ?_)
  obtain ⟨p1, p2⟩ := h4
  have y4 := y3.fr p2 (fun q j h1 h2 => by unfold pS at h1; unfold pQ at h2; omega)
  have t4 := t3.fr p2 (by unfold pQ; omega) (fun j => by unfold pQ; omega)
  have z4 := z3.fr p2 (fun a q j h1 h2 h3 => by have hl := lpl_lt h2; have hz := zn_no h2 h1; unfold pQ at h3; omega)
  have c4 : τ4.1 27 0 = nI 0 := by rw [p2.i (by unfold pQ; omega)]; exact c3
  have f4 : Fr (fun q _ => 27 ≤ q ∧ q ≤ 53) τ τ4 := (g4.t (f3.mo (fun a b h => by omega))).t (p2.mo (fun a b h => by unfold pQ at h; omega))
  have hcq : (askX n X (m * 2 ^ 32 + r) pt g mt (tp.take 231)).2.1 < 256 := ask_c
  generalize m * 2 ^ 32 + r = to at *
  generalize askX n X to pt g mt (tp.take 231) = Q at *
  have r7 : Mw τ4 47 25 Q.2.2.2.1 := p1.2.2.2.2.1
  have l7 := r7.2.1
  rw [show ln 47 = 300 from rfl] at l7
  rw [r7.1]
  unfold akV
  by_cases h0 : Q.2.2.2.1.length = 0
  · rw [if_pos h0]
    exact Ok.tt (by rw [h0]; rfl) (Ok.so ⟨⟨p1, y4, t4, z4⟩, c4, fun _ => rfl, f4⟩)
  rw [if_neg h0]
  refine Ok.ff (nI_ne0 (by omega) (by omega)) ?_
  refine Ok.eq (hj τ4) ?_
  dsimp only
  refine Ok.eq (m_isRep r7 p1.2.2.1 hcq hto) ?_
  dsimp only
  by_cases hr2 : isRep Q.2.2.2.1 to Q.2.1
  · rw [if_pos hr2, if_pos hr2]
    refine Ok.ff (by decide) ?_
    exact Ok.eq (m_hd r7 (k := 16) (by have := hr2.1.1; have := hr2.1.2.1; omega)) (Ok.so ⟨⟨p1, y4, t4, z4⟩, c4, fun _ => rfl, f4⟩)
  · rw [if_neg hr2, if_neg hr2]
    exact Ok.tt rfl (Ok.so ⟨⟨p1, y4, t4, z4⟩, c4, fun _ => rfl, f4⟩)
theorem ic_5 {xs : Nat → Int32} {x4 : Int32} {i n : Nat} {σ : St} (hi : i < 512) (h : Inv i n σ) : Ok (F_lc_5 xs x4 n σ) (fun z => Inv (i + 1) z.1 z.2) := by
  obtain ⟨X, Y, bg, tp, hn, hC, hM, hS, hf, hb⟩ := h
  have hB := hS.1.bl
  unfold F_lc_5
  generalize xs (Int32.toNatClampNeg (x4 + 1)) = a1
  generalize (((Int32.toInt64 (xs (Int32.toNatClampNeg (x4 + 2)))) <<< ((Int32.toInt64 32) &&& 63)) ||| ((Int32.toInt64 (xs (Int32.toNatClampNeg (x4 + 3)))) &&& 4294967295)) = a2
  generalize xs (Int32.toNatClampNeg (x4 + 4)) = a4
  generalize xs (Int32.toNatClampNeg (x4 + 5)) = a5
  generalize xs (Int32.toNatClampNeg (x4 + 6)) = a6
  by_cases hv : akOk a1 a2 a4 a5 a6
  · have hv' := hv
    obtain ⟨⟨u1, v1⟩, ⟨u2, v2⟩, ⟨u4, v4⟩, ⟨u5, v5⟩, ⟨u6, v6⟩⟩ := hv
    obtain ⟨m, hm, rfl⟩ := nn_le (c := 65535) (by decide) u1 v1
    obtain ⟨pt, hp, rfl⟩ := nn_le (c := 65535) (by decide) u4 v4
    obtain ⟨g, hg, rfl⟩ := nn_le (c := 255) (by decide) u5 v5
    obtain ⟨mt, hmt, rfl⟩ := nn_le (c := 65535) (by decide) u6 v6
    obtain ⟨r, hr0, rfl⟩ := pk_lOf u2
    have hr : r ≤ 4294967295 := (pk_lLE (b := 4294967295) hr0 (by decide)).mp v2
    have hbt : By (tp.take 231) := fun k => by
      rw [nD_take]
      split
      · exact hC.2.2.by k
      · decide
    have hWn : WX (i + 1) n (askX n X (m * 2 ^ 32 + r) pt g mt (tp.take 231)) := fun j hj => ((WX.ask (to := m * 2 ^ 32 + r) (part := pt) (mat := mt) (d := tp.take 231) hS.1 (show g < 256 by omega) (by rw [List.length_take]; omega) hbt) j hj).up (by split <;> omega) (Nat.le_refl _)
    refine lc_v Int32.toInt64 (oA := F_L_ask n σ (nI m) (lN r) (nI pt) (nI g) (nI mt)) (B := fun τ => F_X7_ask τ (nI m) (lN r) (nI pt) (nI g) (nI mt)) (c := 0) hn hM hB (fl_v Int32.toInt64 (by decide) (akC hn hC hS.1 (by omega) (by omega) hm hr hp hg hmt)) (fun τ hτ => ?_) (by decide) ⟨⟨hWn, ask_c, hS.2.2.1, hS.2.2.2.to ids_ask rfl rfl⟩, by show X.1 + 1 ≤ 3000 * (i + 1); omega, hb⟩
    rw [mk_ask, if_pos hv']
    exact akM hn hτ hS.2.1 hS.1 (by omega) (by omega) hm hr hp hg hmt
  · refine lc_v Int32.toInt64 (oA := F_L_ask n σ a1 a2 a4 a5 a6) (B := fun τ => F_X7_ask τ a1 a2 a4 a5 a6) (c := 1) (v := 0) (X2 := X) (Y2 := Y) (bg2 := bg) (tp2 := tp) hn hM hB ?_ (fun τ hτ => ?_) (by decide) ⟨hS.up, by omega, hb⟩
    · unfold F_L_ask
      refine fl_v Int32.toInt64 (by decide) ?_
      rw [ak_bad hv]
      exact Ok.so ⟨hC, Or.inr ⟨rfl, rfl⟩, Fr.rf⟩
    · rw [mk_ask, if_neg hv]
      unfold F_X7_ask_L68
      exact Ok.eq (m_goes (b := false)) (Ok.tt rfl (Ok.so (ma_thr hτ hB)))
