/-! ===== PURE: calls ===== -/
/-- lamps that are not there yet, in the model -/
def Fz (σ : St) (n : Nat) : Prop := ∀ j, n ≤ j → j < 24 → (σ.1 34 j = 0 ∧ σ.1 35 j = 0 ∧ σ.1 36 j = 0 ∧ σ.1 38 j = 0 ∧ σ.1 40 j = 0 ∧ σ.1 41 j = 0) ∧ ∀ k, k < 512 → σ.1 39 (512 * j + k) = 0
theorem Fz.fr {p : Nat → Nat → Prop} {σ τ : St} {n : Nat} (h : Fz σ n) (he : Fr p σ τ) (hp : ∀ i q j, n ≤ i → lpl i q j → ¬ p q j) : Fz τ n := by
  intro j h1 h2
  obtain ⟨⟨a1, a2, a3, a4, a5, a6⟩, a7⟩ := h j h1 h2
  refine ⟨⟨?_, ?_, ?_, ?_, ?_, ?_⟩, fun k hk => ?_⟩
  · rw [he.i (hp j 34 j h1 (by unfold lpl; omega))]; exact a1
  · rw [he.i (hp j 35 j h1 (by unfold lpl; omega))]; exact a2
  · rw [he.i (hp j 36 j h1 (by unfold lpl; omega))]; exact a3
  · rw [he.i (hp j 38 j h1 (by unfold lpl; omega))]; exact a4
  · rw [he.i (hp j 40 j h1 (by unfold lpl; omega))]; exact a5
  · rw [he.i (hp j 41 j h1 (by unfold lpl; omega))]; exact a6
  · rw [he.i (hp j 39 (512 * j + k) h1 (by unfold lpl; omega))]; exact a7 k hk
/-- the class's half, the model's half -/
def CH (σ : St) (n : Nat) (X : Xs) (Y : Ys) (bg : Nat) (tp : List Nat) : Prop := CX σ n X ∧ CY σ bg Y ∧ Rw σ 1 tp
def MH (σ : St) (n : Nat) (X : Xs) (Y : Ys) (bg : Nat) (tp : List Nat) : Prop := MX σ n X ∧ MY σ bg Y ∧ Mw σ 45 20 tp ∧ Fz σ n
theorem CX.fr {p : Nat → Nat → Prop} {σ τ : St} {n : Nat} {X : Xs} (hX : CX σ n X) (he : Fr p σ τ) (hp : ∀ q j, p q j → q = 1 ∨ q = 2 ∨ (q = 0 ∧ j ≠ 10 ∧ j ≠ 11 ∧ j ≠ 12) ∨ (21 ≤ q ∧ q ≤ 53)) : CX τ n X := by
  have no : ∀ q j, ¬ (q = 1 ∨ q = 2 ∨ (q = 0 ∧ j ≠ 10 ∧ j ≠ 11 ∧ j ≠ 12) ∨ (21 ≤ q ∧ q ≤ 53)) → ¬ p q j := fun q j h h2 => h (hp q j h2)
  obtain ⟨x1, x2, ⟨x3, x3b⟩, x4, x5, x6, ⟨d, x7⟩, ⟨v, x8⟩, ⟨h, x9⟩, ⟨q, x10⟩, ⟨g, x11⟩⟩ := hX
  have rr : ∀ {r : Nat} {l : List Nat}, 3 ≤ r → r ≤ 16 → Rw σ r l → Rw τ r l := fun h1 h2 hr => hr.fr he (fun j => no _ j (by omega)) (fun j => no _ j (by omega))
  exact ⟨by rw [he.i (no 0 10 (by omega))]; exact x1, by rw [he.i (no 0 11 (by omega))]; exact x2, ⟨by rw [he.i (no 0 12 (by omega))]; exact x3, x3b⟩, fun j hj => (x4 j hj).fr he (fun r k g1 g2 => no r k (by unfold qq at g1; omega)), rr (by omega) (by omega) x5, ⟨by rw [he.i (no 18 2 (by omega))]; exact x6.1, x6.2.1, fun j hj => by rw [he.i (no 19 j (by omega)), he.i (no 20 j (by omega))]; exact x6.2.2 j hj⟩, ⟨d, rr (by omega) (by omega) x7⟩, ⟨v, rr (by omega) (by omega) x8⟩, ⟨h, rr (by omega) (by omega) x9⟩, ⟨q, rr (by omega) (by omega) x10⟩, ⟨g, rr (by omega) (by omega) x11⟩⟩
abbrev pCf : Nat → Nat → Prop := fun q _ => q ≤ 26 ∨ 54 ≤ q
abbrev pMf : Nat → Nat → Prop := fun q _ => 26 ≤ q ∧ q ≤ 53
theorem CH.fr {p : Nat → Nat → Prop} {σ τ : St} {n bg : Nat} {X : Xs} {Y : Ys} {tp : List Nat} (h : CH σ n X Y bg tp) (he : Fr p σ τ) (hp : ∀ q j, p q j → 25 ≤ q ∧ q ≤ 53) : CH τ n X Y bg tp := by
  have no : ∀ q j, ¬ (25 ≤ q ∧ q ≤ 53) → ¬ p q j := fun q j h h2 => h (hp q j h2)
  exact ⟨h.1.fr he (fun q j hh => by have := hp q j hh; omega), h.2.1.fr he (fun r j h1 h2 => no r j (by omega)), h.2.2.fr he (fun j => no _ j (by omega)) (fun j => no _ j (by omega))⟩
theorem MH.fr {p : Nat → Nat → Prop} {σ τ : St} {n bg : Nat} {X : Xs} {Y : Ys} {tp : List Nat} (h : MH σ n X Y bg tp) (hB : ∀ j, j < n → Bl (X.2.2.1 j)) (he : Fr p σ τ) (hp : ∀ q j, p q j → q ≤ 26 ∨ 54 ≤ q ∨ (q = 27 ∧ (j = 0 ∨ j = 23)) ∨ q = 46) : MH τ n X Y bg tp := by
  have no : ∀ q j, ¬ (q ≤ 26 ∨ 54 ≤ q ∨ (q = 27 ∧ (j = 0 ∨ j = 23)) ∨ q = 46) → ¬ p q j := fun q j h h2 => h (hp q j h2)
  exact ⟨h.1.fr hB he (fun q j h1 => no q j (by unfold pX at h1; omega)), h.2.1.fr he (fun q j h1 => no q j (by unfold pS at h1; omega)), h.2.2.1.fr he (no 27 20 (by omega)) (fun j => no 45 j (by omega)), h.2.2.2.fr he (fun i q j h1 h2 => no q j (by have := lpl_lt h2; omega))⟩
/-- all that is kept between calls -/
def Inv (i n : Nat) (σ : St) : Prop := ∃ (X : Xs) (Y : Ys) (bg : Nat) (tp : List Nat), n ≤ 24 ∧ CH σ n X Y bg tp ∧ MH σ n X Y bg tp ∧ Sx i n X Y ∧ X.1 ≤ 3000 * i ∧ bg ≤ 1
/-- what the law's help for a call answers; c: thrown or not, v: its value -/
def Ca (σ : St) (n : Nat) (X : Xs) (Y : Ys) (bg : Nat) (tp : List Nat) (c : Nat) (v : Int64) (y : St × Int32) : Prop := CH y.1 n X Y bg tp ∧ y.2 = nI c ∧ (c = 0 → y.1.2 26 0 = v) ∧ Fr pCf σ y.1
def Ma {β : Type} (V : β → Int64) (n : Nat) (X : Xs) (Y : Ys) (bg : Nat) (tp : List Nat) (c : Nat) (v : Int64) (τ : St) (y : St × β) : Prop := MH y.1 n X Y bg tp ∧ y.1.1 27 0 = nI c ∧ (c = 0 → V y.2 = v) ∧ Fr (fun q _ => 27 ≤ q ∧ q ≤ 53) τ y.1
def Gd (i n : Nat) (X : Xs) (Y : Ys) (bg : Nat) : Prop := Sx (i + 1) n X Y ∧ X.1 ≤ 3000 * (i + 1) ∧ bg ≤ 1
theorem Sx.up {o n : Nat} {X : Xs} {Y : Ys} (h : Sx o n X Y) : Sx (o + 1) n X Y := ⟨fun j hj => (h.1 j hj).up (by omega) (Nat.le_refl _), h.2⟩
theorem lc_v {β : Type} {i n c bg bg2 : Nat} {v : Int64} {X X2 : Xs} {Y Y2 : Ys} {tp tp2 : List Nat} {σ : St} {oA : Option (St × Int32)} {B : St → Option (St × β)} (V : β → Int64) (hn : n ≤ 24) (hM : MH σ n X Y bg tp) (hB : ∀ j, j < n → Bl (X.2.2.1 j)) (hA : Ok oA (Ca σ n X2 Y2 bg2 tp2 c v)) (hBB : ∀ τ, MH τ n X Y bg tp → Ok (B τ) (Ma V n X2 Y2 bg2 tp2 c v τ)) (hc : c < 10) (hG : Gd i n X2 Y2 bg2) : Ok (oA.bind (fun y1 => (B y1.1).bind (fun y2 => (F_X7_thrown y2.1).bind (fun y3 => if y3.2 = y1.2 then (if y1.2 = 0 then gd (ib 0 (ln (26))) (if (lg_cmp (y3.1.2 (26) (Int32.toNatClampNeg 0)) (V y2.2)) = 0 then some (n, y3.1) else none) else some (n, y3.1)) else none)))) (fun z => Inv (i + 1) z.1 z.2) := by
  refine Ok.bi hA (fun y1 h1 => ?_)
  obtain ⟨a1, a2, a3, a4⟩ := h1
  refine Ok.bi (hBB y1.1 (hM.fr hB a4 (fun q j h => by unfold pCf at h; omega))) (fun y2 h2 => ?_)
  obtain ⟨b1, b2, b3, b4⟩ := h2
  unfold F_X7_thrown
  refine Ok.eq rfl ?_
  dsimp only
  refine Ok.tt (by rw [b2, a2]) ?_
  have fin : Inv (i + 1) n y2.1 := ⟨X2, Y2, bg2, tp2, hn, a1.fr b4 (fun q j h => by omega), b1, hG.1, hG.2.1, hG.2.2⟩
  by_cases h0 : c = 0
  · refine Ok.tt (by rw [a2, h0]; rfl) (Ok.gd (by decide) (Ok.tt ?_ (Ok.so fin)))
    rw [show Int32.toNatClampNeg 0 = 0 from by decide, cm_0, b4.l (by omega), a3 h0, b3 h0]
  · exact Ok.ff (by rw [a2]; exact nI_ne0 (by omega) (by omega)) (Ok.so fin)
theorem lc_n {i n c bg bg2 : Nat} {v : Int64} {X X2 : Xs} {Y Y2 : Ys} {tp tp2 : List Nat} {σ : St} {oA : Option (St × Int32)} {B : St → Option St} (hn : n ≤ 24) (hM : MH σ n X Y bg tp) (hB : ∀ j, j < n → Bl (X.2.2.1 j)) (hA : Ok oA (fun y => CH y.1 n X2 Y2 bg2 tp2 ∧ y.2 = nI c ∧ Fr pCf σ y.1)) (hBB : ∀ τ, MH τ n X Y bg tp → Ok (B τ) (fun y => Ma (fun _ : Nat => v) n X2 Y2 bg2 tp2 c v τ (y, 0))) (hG : Gd i n X2 Y2 bg2) : Ok (oA.bind (fun y1 => (B y1.1).bind (fun y2 => (F_X7_thrown y2).bind (fun y3 => if y3.2 = y1.2 then some (n, y3.1) else none)))) (fun z => Inv (i + 1) z.1 z.2) := by
  refine Ok.bi hA (fun y1 h1 => ?_)
  obtain ⟨a1, a2, a4⟩ := h1
  refine Ok.bi (hBB y1.1 (hM.fr hB a4 (fun q j h => by unfold pCf at h; omega))) (fun y2 h2 => ?_)
  obtain ⟨b1, b2, b3, b4⟩ := h2
  unfold F_X7_thrown
  refine Ok.eq rfl ?_
  dsimp only
  exact Ok.tt (by rw [a2]; exact b2) (Ok.so ⟨X2, Y2, bg2, tp2, hn, a1.fr b4 (fun q j h => by omega), b1, hG.1, hG.2.1, hG.2.2⟩)
theorem lc_e {i n bg bg2 : Nat} {v : Int32} {X X2 : Xs} {Y Y2 : Ys} {tp tp2 : List Nat} {σ : St} {oA : Option (St × Int32)} {B : St → Option (St × Int32)} (hn : n ≤ 24) (hM : MH σ n X Y bg tp) (hB : ∀ j, j < n → Bl (X.2.2.1 j)) (hA : Ok oA (fun y => CH y.1 n X2 Y2 bg2 tp2 ∧ y.2 = v ∧ Fr pCf σ y.1)) (hBB : ∀ τ, MH τ n X Y bg tp → Ok (B τ) (fun y => MH y.1 n X2 Y2 bg2 tp2 ∧ y.2 = v ∧ Fr (fun q _ => 27 ≤ q ∧ q ≤ 53) τ y.1)) (hG : Gd i n X2 Y2 bg2) : Ok (oA.bind (fun y1 => (B y1.1).bind (fun y2 => if y1.2 = y2.2 then some (n, y2.1) else none))) (fun z => Inv (i + 1) z.1 z.2) := by
  refine Ok.bi hA (fun y1 h1 => ?_)
  obtain ⟨a1, a2, a4⟩ := h1
  refine Ok.bi (hBB y1.1 (hM.fr hB a4 (fun q j h => by unfold pCf at h; omega))) (fun y2 h2 => ?_)
  obtain ⟨b1, b2, b4⟩ := h2
  exact Ok.tt (by rw [a2, b2]) (Ok.so ⟨X2, Y2, bg2, tp2, hn, a1.fr b4 (fun q j h => by omega), b1, hG.1, hG.2.1, hG.2.2⟩)
/-- the law's help for a call that answers or throws -/
def Cr {γ : Type} (W : γ → Int64) (k : Nat) (σ : St) (n : Nat) (X : Xs) (Y : Ys) (bg : Nat) (tp : List Nat) (c : Nat) (v : Int64) (y : St × Nat × γ) : Prop := CH y.1 n X Y bg tp ∧ ((c = 0 ∧ y.2.1 = 0 ∧ W y.2.2 = v) ∨ (c = 1 ∧ y.2.1 = k)) ∧ Fr pCf σ y.1
theorem fl_v {γ : Type} {n c k bg : Nat} {v : Int64} {X : Xs} {Y : Ys} {tp : List Nat} {σ : St} {o : Option (St × Nat × γ)} (W : γ → Int64) (hk : k ≠ 0) (h : Ok o (Cr W k σ n X Y bg tp c v)) : Ok (o.bind (fun y4 => if y4.2.1 = 0 then gd (ib 0 (ln (26))) (nm (sJ y4.1 (26) (Int32.toNatClampNeg 0) (W y4.2.2)) (fun w6 => some (w6, 0))) else if y4.2.1 = k then some (y4.1, 1) else none)) (Ca σ n X Y bg tp c v) := by
  refine Ok.bi h (fun y hy => ?_)
  obtain ⟨h1, h2, h3⟩ := hy
  rcases h2 with ⟨e1, e2, e3⟩ | ⟨e1, e2⟩
  · refine Ok.tt e2 (Ok.gd (by decide) (Ok.nm (Ok.so ?_)))
    rw [show Int32.toNatClampNeg 0 = 0 from by decide, e3]
    have q0 : Fr (fun q j => q = 26 ∧ j = 0) y.1 (sJ y.1 26 0 v) := Fr.sJ ⟨rfl, rfl⟩
    exact ⟨h1.fr q0 (fun q j h => by omega), by rw [e1]; rfl, fun _ => sJ_eq, h3.t (q0.mo (fun a b h => by unfold pCf; omega))⟩
  · exact Ok.ff (by rw [e2]; exact hk) (Ok.tt e2 (Ok.so ⟨h1, by rw [e1]; rfl, fun h => by omega, h3⟩))
theorem fl_n {n c bg : Nat} {v : Int64} {X : Xs} {Y : Ys} {tp : List Nat} {σ : St} {o : Option (St × Nat × Int32)} (h : Ok o (Cr (fun _ => v) 1 σ n X Y bg tp c v)) : Ok (o.bind (fun y2 => if y2.2.1 = 0 then some (y2.1, 0) else if y2.2.1 = 1 then some (y2.1, 1) else none)) (fun y => CH y.1 n X Y bg tp ∧ y.2 = nI c ∧ Fr pCf σ y.1) := by
  refine Ok.bi h (fun y hy => ?_)
  obtain ⟨h1, h2, h3⟩ := hy
  rcases h2 with ⟨e1, e2, e3⟩ | ⟨e1, e2⟩
  · exact Ok.tt e2 (Ok.so ⟨h1, by rw [e1]; rfl, h3⟩)
  · exact Ok.ff (by rw [e2]; decide) (Ok.tt e2 (Ok.so ⟨h1, by rw [e1]; rfl, h3⟩))
theorem m_goes {σ : St} {b : Bool} : F_X7_goes σ (bI b) = some (sI σ 27 0 (nI (if b = true then 0 else 1)), bI b) := by
  unfold F_X7_goes F_X7_goes_L10
  cases b with
  | true => rfl
  | false => rfl
theorem i32_nn {x : Int32} (h : ¬ x < 0) : ∃ k, k < 2 ^ 31 ∧ x = nI k := by
  rcases pk_ix x (n := 2147483647) (by decide) with h1 | h1 | ⟨j, h1, h2⟩
  · exact absurd h1 h
  · refine ⟨2147483647, by decide, Int32.toInt_inj.mp ?_⟩
    rw [Int32.le_iff_toInt_le, show (nI 2147483647).toInt = 2147483647 from by decide] at h1
    have := Int32.toInt_lt x
    rw [show (nI 2147483647).toInt = 2147483647 from by decide]
    omega
  · exact ⟨j, by omega, h2⟩
theorem m_inneg {σ : St} {x : Int32} {b : Int64} (h : x < 0) : F_X7_in σ x.toInt64 0 b = some (σ, 0) := by
  unfold F_X7_in
  rw [if_pos (cm_lt.mpr (by rw [Int64.lt_iff_toInt_lt, Int32.toInt_toInt64]; rw [Int32.lt_iff_toInt_lt] at h; exact h))]
theorem m_inlt {σ : St} {k c : Nat} (hk : k < 2 ^ 31) (hc : c < 2 ^ 31) : F_X7_in σ (nI k).toInt64 0 ((nI c - 1).toInt64) = some (σ, bI (decide (k < c))) := by
  by_cases h0 : c = 0
  · subst h0
    unfold F_X7_in
    rw [nI_l hk, if_neg (fun h => by have := (pk_lLT (a := k) (b := 0) (by omega) (by omega)).mp (cm_lt.mp h); omega), if_pos (cm_gt.mpr (by rw [Int64.lt_iff_toInt_lt, pk_lT (by omega), show ((nI 0 - 1).toInt64).toInt = -1 from by decide]; omega)), decide_eq_false (by omega)]
    rfl
  · rw [show nI c - 1 = nI (c - 1) from pk_sub (b := 1) (by omega), nI_l hk, nI_l (by omega), show (0 : Int64) = lN 0 from rfl, m_inN (by omega) (by decide) (by omega)]
    by_cases h : k < c
    · rw [if_pos (by omega), decide_eq_true h]; rfl
    · rw [if_neg (by omega), decide_eq_false h]; rfl
/-- the model throws 1 and changes nothing -/
theorem ma_thr {β : Type} {V : β → Int64} {n bg : Nat} {v : Int64} {X : Xs} {Y : Ys} {tp : List Nat} {τ : St} {z : β} (hM : MH τ n X Y bg tp) (hB : ∀ j, j < n → Bl (X.2.2.1 j)) : Ma V n X Y bg tp 1 v τ (sI τ 27 0 (nI (if false = true then 0 else 1)), z) := by
  have q0 : Fr (fun q j => q = 27 ∧ j = 0) τ (sI τ 27 0 (nI (if false = true then 0 else 1))) := Fr.sI ⟨rfl, rfl⟩
  exact ⟨hM.fr hB q0 (fun q j h => by omega), sI_eq, fun h => absurd h (by decide), q0.mo (fun a b h => by omega)⟩
theorem ma_ok {β : Type} {V : β → Int64} {n bg : Nat} {v : Int64} {X : Xs} {Y : Ys} {tp : List Nat} {τ : St} {z : β} (hM : MH τ n X Y bg tp) (hB : ∀ j, j < n → Bl (X.2.2.1 j)) (hv : V z = v) : Ma V n X Y bg tp 0 v τ (sI τ 27 0 (nI (if true = true then 0 else 1)), z) := by
  have q0 : Fr (fun q j => q = 27 ∧ j = 0) τ (sI τ 27 0 (nI (if true = true then 0 else 1))) := Fr.sI ⟨rfl, rfl⟩
  exact ⟨hM.fr hB q0 (fun q j h => by omega), sI_eq, fun _ => hv, q0.mo (fun a b h => by omega)⟩
/-! frames, found -/
theorem ic_7 {xs : Nat → Int32} {x4 : Int32} {i n : Nat} {σ : St} (h : Inv i n σ) : Ok (F_lc_7 xs x4 n σ) (fun z => Inv (i + 1) z.1 z.2) := by
  obtain ⟨X, Y, bg, tp, hn, hC, hM, hS, hf, hb⟩ := h
  have hB := hS.1.bl
  unfold F_lc_7
  have hA : Ok (F_X6_frames σ) (fun y => CH y.1 n X Y bg tp ∧ y.2 = nI X.1 ∧ Fr pCf σ y.1) := ⟨_, rfl, hC, hC.1.2.1, Fr.rf⟩
  refine lc_e (B := F_X7_frames) (X2 := X) (Y2 := Y) (bg2 := bg) (tp2 := tp) (v := nI X.1) hn hM hB hA (fun τ hτ => ?_) ⟨hS.up, by omega, hb⟩
  unfold F_X7_frames
  have q0 : Fr (fun q j => q = 27 ∧ j = 0) τ (sI τ 27 0 0) := Fr.sI ⟨rfl, rfl⟩
  refine Ok.nm (Ok.so ⟨hτ.fr hB q0 (fun q j h => by omega), ?_, q0.mo (fun a b h => by omega)⟩)
  rw [q0.i (by omega)]; exact hτ.1.2.1
theorem ic_15 {xs : Nat → Int32} {x4 : Int32} {i n : Nat} {σ : St} (h : Inv i n σ) : Ok (F_lc_15 xs x4 n σ) (fun z => Inv (i + 1) z.1 z.2) := by
  obtain ⟨X, Y, bg, tp, hn, hC, hM, hS, hf, hb⟩ := h
  have hB := hS.1.bl
  unfold F_lc_15
  have hA : Ok (F_X6_found σ) (fun y => CH y.1 n X Y bg tp ∧ y.2 = nI Y.2.2.1 ∧ Fr pCf σ y.1) := ⟨_, rfl, hC, hC.2.1.2.2.2.1, Fr.rf⟩
  refine lc_e (B := F_X7_found) (X2 := X) (Y2 := Y) (bg2 := bg) (tp2 := tp) (v := nI Y.2.2.1) hn hM hB hA (fun τ hτ => ?_) ⟨hS.up, by omega, hb⟩
  unfold F_X7_found
  have q0 : Fr (fun q j => q = 27 ∧ j = 0) τ (sI τ 27 0 0) := Fr.sI ⟨rfl, rfl⟩
  refine Ok.nm (Ok.so ⟨hτ.fr hB q0 (fun q j h => by omega), ?_, q0.mo (fun a b h => by omega)⟩)
  rw [q0.i (by omega)]; exact hτ.2.1.2.2.2.1
/-! id -/
theorem ic_16 {xs : Nat → Int32} {x4 : Int32} {i n : Nat} {σ : St} (h : Inv i n σ) : Ok (F_lc_16 xs x4 n σ) (fun z => Inv (i + 1) z.1 z.2) := by
  obtain ⟨X, Y, bg, tp, hn, hC, hM, hS, hf, hb⟩ := h
  have hB := hS.1.bl
  have hF := hS.2.2.2.wf hn hS.1
  unfold F_lc_16
  generalize xs (Int32.toNatClampNeg (x4 + 1)) = x
  have thr : (x < 0 ∨ ∃ k, k < 2 ^ 31 ∧ x = nI k ∧ ¬ k < Y.2.2.1) → Ok (F_L_id σ x) (Ca σ n X Y bg tp 1 0) ∧ ∀ τ, MH τ n X Y bg tp → Ok (F_X7_id τ x) (Ma (fun z => z) n X Y bg tp 1 0 τ) := by
    intro hx
    constructor
    · unfold F_L_id
      refine fl_v (fun z => z) (by decide) ?_
      unfold F_X6_id F_X6_id_L15
      rcases hx with hx | ⟨k, hk, rfl, hx⟩
      · exact Ok.tt hx (Ok.so ⟨hC, Or.inr ⟨rfl, rfl⟩, Fr.rf⟩)
      · refine Ok.ff (nI_pos hk) (Ok.ff ?_ (Ok.so ⟨hC, Or.inr ⟨rfl, rfl⟩, Fr.rf⟩))
        rw [hC.2.1.2.2.2.1]
        exact nI_nlt (by omega) hk
    · intro τ hτ
      unfold F_X7_id
      rw [hτ.2.1.2.2.2.1]
      rcases hx with hx | ⟨k, hk, rfl, hx⟩
      · refine Ok.eq (m_inneg hx) (Ok.eq (m_goes (b := false)) (Ok.tt rfl (Ok.so (ma_thr hτ hB))))
      · refine Ok.eq (m_inlt hk (by have := hF.2; omega)) ?_
        rw [decide_eq_false hx]
        exact Ok.eq (m_goes (b := false)) (Ok.tt rfl (Ok.so (ma_thr hτ hB)))
  by_cases hx : x < 0
  · obtain ⟨t1, t2⟩ := thr (Or.inl hx)
    exact lc_v (fun z => z) hn hM hB t1 t2 (by decide) ⟨hS.up, by omega, hb⟩
  obtain ⟨k, hk, rfl⟩ := i32_nn hx
  by_cases hk2 : k < Y.2.2.1
  · have h24 := hF.2
    refine lc_v (fun z => z) (oA := F_L_id σ (nI k)) (B := fun τ => F_X7_id τ (nI k)) (c := 0) (v := lN (Y.2.2.2.1 k)) (X2 := X) (Y2 := Y) (bg2 := bg) (tp2 := tp) hn hM hB ?_ (fun τ hτ => ?_) (by decide) ⟨hS.up, by omega, hb⟩
    · unfold F_L_id
      refine fl_v (fun z => z) (by decide) ?_
      unfold F_X6_id
      refine Ok.ff (nI_pos hk) (Ok.tt ?_ (Ok.gd (ib_nI (show k < 24 by omega) (by decide)) (Ok.so ⟨hC, Or.inl ⟨rfl, rfl, ?_⟩, Fr.rf⟩)))
      · rw [hC.2.1.2.2.2.1]; exact nI_lt hk2 (by omega)
      · rw [nI_clamp (by omega)]; exact hC.2.1.2.2.2.2.1 k hk2
    · unfold F_X7_id
      rw [hτ.2.1.2.2.2.1]
      refine Ok.eq (m_inlt hk (by omega)) ?_
      rw [decide_eq_true hk2]
      refine Ok.eq (m_goes (b := true)) (Ok.ff (show ¬ bI true = 0 by decide) (Ok.gd (ib_nI (show k < 24 by omega) (by decide)) (Ok.so (ma_ok hτ hB ?_))))
      dsimp only
      rw [sI_2, nI_clamp (by omega)]; exact hτ.2.1.2.2.2.2.1 k hk2
  · obtain ⟨t1, t2⟩ := thr (Or.inr ⟨k, hk, rfl, hk2⟩)
    exact lc_v (fun z => z) hn hM hB t1 t2 (by decide) ⟨hS.up, by omega, hb⟩
