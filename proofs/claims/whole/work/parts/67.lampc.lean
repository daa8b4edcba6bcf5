/-! ===== PURE: what a lamp tells and does, class's side ===== -/
/-- a packet's object but its messages -/
def Pr (σ : St) (r to fr cnt kind part grp mat : Nat) (data : List Nat) : Prop :=
  (σ.2 r 0 = lN to ∧ to < 2 ^ 48) ∧ (σ.2 r 1 = lN fr ∧ fr < 2 ^ 48) ∧ (σ.1 r 2 = nI cnt ∧ cnt < 256) ∧ (σ.1 r 3 = nI kind ∧ kind < 256) ∧ (σ.1 r 5 = nI part ∧ part < 65536) ∧ (σ.1 r 6 = nI grp ∧ grp < 256) ∧ (σ.1 r 7 = nI mat ∧ mat < 65536) ∧ Rw σ (r + 1) data ∧ ln (r + 2) = 231
theorem Pr.fr {p : Nat → Nat → Prop} {σ τ : St} {r to fr cnt kind part grp mat : Nat} {data : List Nat} (h : Pr σ r to fr cnt kind part grp mat data) (he : Fr p σ τ) (hp : ∀ k j, r ≤ k → k < r + 3 → ¬ p k j) : Pr τ r to fr cnt kind part grp mat data := by
  obtain ⟨⟨a1, c1⟩, ⟨a2, c2⟩, ⟨a3, c3⟩, ⟨a4, c4⟩, ⟨a6, c6⟩, ⟨a7, c7⟩, ⟨a8, c8⟩, hd, h231⟩ := h
  have hi : ∀ j, τ.1 r j = σ.1 r j := fun j => he.i (hp r j (by omega) (by omega))
  have hj : ∀ j, τ.2 r j = σ.2 r j := fun j => he.l (hp r j (by omega) (by omega))
  exact ⟨⟨by rw [hj]; exact a1, c1⟩, ⟨by rw [hj]; exact a2, c2⟩, ⟨by rw [hi]; exact a3, c3⟩, ⟨by rw [hi]; exact a4, c4⟩, ⟨by rw [hi]; exact a6, c6⟩, ⟨by rw [hi]; exact a7, c7⟩, ⟨by rw [hi]; exact a8, c8⟩, hd.fr he (fun j => hp _ j (by omega) (by omega)) (fun j => hp _ j (by omega) (by omega)), h231⟩
theorem Hd.fr {p : Nat → Nat → Prop} {σ τ : St} {r : Nat} {f : List Nat} (h : Hd σ r f) (he : Fr p σ τ) (hp : ∀ k j, r ≤ k → k < r + 3 → ¬ p k j) : Hd τ r f := by
  obtain ⟨⟨a1, c1⟩, ⟨a2, c2⟩, ⟨a3, c3⟩, ⟨a4, c4⟩, ⟨a5, c5⟩, ⟨a6, c6⟩, ⟨a7, c7⟩, ⟨a8, c8⟩, hd, h231⟩ := h
  have hi : ∀ j, τ.1 r j = σ.1 r j := fun j => he.i (hp r j (by omega) (by omega))
  have hj : ∀ j, τ.2 r j = σ.2 r j := fun j => he.l (hp r j (by omega) (by omega))
  exact ⟨⟨by rw [hj]; exact a1, c1⟩, ⟨by rw [hj]; exact a2, c2⟩, ⟨by rw [hi]; exact a3, c3⟩, ⟨by rw [hi]; exact a4, c4⟩, ⟨by rw [hi]; exact a5, c5⟩, ⟨by rw [hi]; exact a6, c6⟩, ⟨by rw [hi]; exact a7, c7⟩, ⟨by rw [hi]; exact a8, c8⟩, hd.fr he (fun j => hp _ j (by omega) (by omega)) (fun j => hp _ j (by omega) (by omega)), h231⟩
/-- a new data row -/
theorem Pr.row {σ τ : St} {r to fr cnt kind part grp mat : Nat} {data d2 : List Nat} (h : Pr σ r to fr cnt kind part grp mat data) (he : Eqx [r + 1, r + 2] σ τ) (hd2 : Rw τ (r + 1) d2) : Pr τ r to fr cnt kind part grp mat d2 := by
  obtain ⟨⟨a1, c1⟩, ⟨a2, c2⟩, ⟨a3, c3⟩, ⟨a4, c4⟩, ⟨a6, c6⟩, ⟨a7, c7⟩, ⟨a8, c8⟩, hd, h231⟩ := h
  have hh := he r (by simp <;> omega)
  exact ⟨⟨by rw [hh.2]; exact a1, c1⟩, ⟨by rw [hh.2]; exact a2, c2⟩, ⟨by rw [hh.1]; exact a3, c3⟩, ⟨by rw [hh.1]; exact a4, c4⟩, ⟨by rw [hh.1]; exact a6, c6⟩, ⟨by rw [hh.1]; exact a7, c7⟩, ⟨by rw [hh.1]; exact a8, c8⟩, hd2, h231⟩
theorem and15 (n : Nat) : nI n &&& 15 = nI (n % 16) := by rw [show (15 : Int32) = nI 15 from rfl, nI_and]; exact congrArg nI (Nat.and_two_pow_sub_one_eq_mod n 4)
theorem and255 (n : Nat) : nI n &&& 255 = nI (n % 256) := by rw [show (255 : Int32) = nI 255 from rfl, nI_and]; exact congrArg nI (Nat.and_two_pow_sub_one_eq_mod n 8)
theorem sh8 {a b : Nat} (ha : a < 256) (hb : b < 256) : (nI a <<< (8 &&& 31)) ||| nI b = nI (a * 256 + b) := by
  rw [pk_shlN (8 &&& 31) 8 (by decide) (by omega), nI_or]
  congr 1
  rw [← Nat.shiftLeft_eq, Nat.shiftLeft_add_eq_or_of_lt (by omega)]
theorem ushr_i {x c : Nat} (hx : x < 2 ^ 63) (hc : c < 64) : Int64.toInt32 ((Int64.toUInt64 (lN x)) >>> ((Int64.toUInt64 (Int32.toInt64 (nI c))) &&& Int64.toUInt64 63)).toInt64 = nI (x / 2 ^ c) := by
  rw [wb_shr (by omega) hc, lN_i]
theorem p16 (c : Nat) : 2 ^ (4 * c) = 16 ^ c := by rw [Nat.pow_mul]
theorem p256 (c : Nat) : 2 ^ (8 * c) = 256 ^ c := by rw [Nat.pow_mul]
theorem f_hexL {q : Nat} {id : Nat} {K : St → Option St} {P : St → Prop} (hid : id < 2 ^ 63) {σ0 : St} {l0 : List Nat} : ∀ (c fz : Nat) (σ : St) (l : List Nat), c < fz → c ≤ 8 → σ.2 q 0 = lN id → q ≠ 16 → q ≠ 17 → Rw σ 16 l → l.length + c ≤ 231 → Eqx [16, 17] σ0 σ → (∀ τ, Rw τ 16 (l ++ hx id c) → Eqx [16, 17] σ0 τ → Ok (K τ) P) → Ok (F_X1_tell_L206 q 15 K fz σ (nI (4 * c) - 4)) P := by
  intro c
  induction c with
  | zero =>
    intro fz σ l hf hc hq hq1 hq2 h hl he hK
    cases fz with
    | zero => omega
    | succ fz =>
      unfold F_X1_tell_L206
      refine Ok.tt (by decide) ?_
      exact hK σ (by rw [show hx id 0 = [] from rfl, List.append_nil]; exact h) he
  | succ c ih =>
    intro fz σ l hf hc hq hq1 hq2 h hl he hK
    cases fz with
    | zero => omega
    | succ fz =>
      unfold F_X1_tell_L206
      rw [show nI (4 * (c + 1)) - 4 = nI (4 * c) from pk_sub (a := 4 * (c + 1)) (b := 4) (by omega)]
      refine Ok.ff (nI_pos (by omega)) ?_
      rw [hq, ushr_i hid (by omega), p16, and15]
      unfold F_X1_tell_L248
      have hd : id / 16 ^ c % 16 < 16 := Nat.mod_lt _ (by decide)
      have step : ∀ (v : Int32) (x : Nat), v = nI x → x < 256 → hx id (c + 1) = x :: hx id c → Ok ((F_X3_put (15 + 1) σ v).bind (fun y25 => F_X1_tell_L206 q 15 K fz y25 (nI (4 * c) + (-4)))) P := by
        intro v x hv hx1 hhx
        refine wput (b := 16) (σ0 := σ) h Eqx.rf (by rw [show ln (16 + 1) = 231 from rfl]; omega) hv hx1 (fun τ e1 e2 => ?_)
        rw [← Int32.sub_eq_add_neg]
        refine ih fz τ (l ++ [x]) (by omega) (by omega) (by rw [(e2 q (by simp <;> omega)).2]; exact hq) hq1 hq2 e1 (by simp; omega) (Eqx.tr he e2) (fun τ2 g1 g2 => hK τ2 ?_ g2)
        rw [hhx]
        rw [List.append_assoc] at g1
        exact g1
      by_cases h10 : id / 16 ^ c % 16 < 10
      · refine Ok.ff (show ¬ (10 : Int32) ≤ _ from nI_ge (b := 10) h10 (by omega)) ?_
        refine step _ (48 + id / 16 ^ c % 16) (nI_add 48 _) (by omega) ?_
        show (if id / 16 ^ c % 16 < 10 then _ else _) :: hx id c = _
        rw [if_pos h10]
      · refine Ok.tt (show (10 : Int32) ≤ _ from nI_le (a := 10) (by omega) (by omega)) ?_
        refine step _ (55 + id / 16 ^ c % 16) ?_ (by omega) ?_
        · rw [show (65 : Int32) + nI (id / 16 ^ c % 16) = nI (65 + id / 16 ^ c % 16) from nI_add 65 _, show (10 : Int32) = nI 10 from rfl, pk_sub (by omega)]
          congr 1; omega
        · show (if id / 16 ^ c % 16 < 10 then _ else _) :: hx id c = _
          rw [if_neg h10]
def mtN : List Nat := [80, 96, 128, 130, 224, 240, 4096, 32]
def mlN (k : Nat) : Nat → List Nat
  | 0 => []
  | c + 1 => be (mtN.getD k 0) 2 ++ mlN (k + 1) c
theorem mt_l : ∀ k, k < 8 → Int32.toInt64 (mtT.getD k 0) = lN (mtN.getD k 0) := by decide
theorem mt_b : ∀ k, k < 8 → mtN.getD k 0 < 65536 := by decide
theorem f_listL {q : Nat} {K : St → Option St} {P : St → Prop} {σ0 : St} : ∀ (c fz k : Nat) (σ : St) (l : List Nat), c < fz → k + c = 8 → Rw σ 16 l → l.length + 2 * c ≤ 231 → Eqx [16, 17] σ0 σ → (∀ τ, Rw τ 16 (l ++ mlN k c) → Eqx [16, 17] σ0 τ → Ok (K τ) P) → Ok (F_X1_tell_L83 q 15 K fz σ (nI k)) P := by
  intro c
  induction c with
  | zero =>
    intro fz k σ l hf hc h hl he hK
    cases fz with
    | zero => omega
    | succ fz =>
      unfold F_X1_tell_L83
      refine Ok.tt (show Int32.ofNat 8 ≤ nI k from nI_le (a := 8) (by omega) (by omega)) ?_
      exact hK σ (by rw [show mlN k 0 = [] from rfl, List.append_nil]; exact h) he
  | succ c ih =>
    intro fz k σ l hf hc h hl he hK
    cases fz with
    | zero => omega
    | succ fz =>
      unfold F_X1_tell_L83
      refine Ok.ff (show ¬ Int32.ofNat 8 ≤ nI k from nI_ge (b := 8) (by omega) (by omega)) ?_
      refine Ok.gd (ib_nI (by omega) (by omega)) ?_
      rw [nI_clamp (by omega)]
      have hb := mt_b k (by omega)
      refine wpn (b := 16) (σ0 := σ) h Eqx.rf (m := 2) rfl (by decide) (by rw [show ln (16 + 1) = 231 from rfl]; omega) (mt_l k (by omega)) (by omega) (fun τ e1 e2 => ?_)
      rw [nI_1]
      refine ih fz (k + 1) τ _ (by omega) (by omega) e1 (by simp [be_len]; omega) (Eqx.tr he e2) (fun τ2 g1 g2 => hK τ2 ?_ g2)
      rw [List.append_assoc] at g1
      exact g1
/-- what the places of a lamp and of the reply are -/
abbrev pl3 (q : Nat) : Nat → Nat → Prop := fun r _ => (q ≤ r ∧ r < q + 12) ∨ (15 ≤ r ∧ r ≤ 17)
theorem f_tell {σ : St} {i o now x m to fr cnt kind part grp mat : Nat} {L : Lp} (hC : CL σ (qq i) L) (hW : Wl o now x L) (ho : o ≤ 1000) (hP : Pr σ 15 to fr cnt kind part grp mat []) (hm : isM m) : Ok (F_X1_tell (qq i) 15 σ (nI m)) (fun τ => Fr (pl3 (qq i)) σ τ ∧ (if m = 32 ∧ L.1 8 ≠ 0 then CL τ (qq i) (su L 8 (L.1 8 - 1)) ∧ Pr τ 15 to fr cnt kind part 49 130 [] else CL τ (qq i) L ∧ Pr τ 15 to fr cnt kind part grp mat (if m = 32 then [] else telD L m))) := by
  have hm2 : m < 65536 := by unfold isM at hm; omega
  obtain ⟨w1, w2, w3, w4, w5, w6, w7, w8, w9, -, w11, -⟩ := hW
  have hfp : L.1 1 * L.1 9 ≤ 512 := by omega
  have hrow : Rw σ 16 [] := hP.2.2.2.2.2.2.2.1
  have c32 : (nI m = 32) ↔ m = 32 := nI_eq (b := 32) (by omega) (by omega)
  have c80 : (nI m = 80) ↔ m = 80 := nI_eq (b := 80) (by omega) (by omega)
  have c96 : (nI m = 96) ↔ m = 96 := nI_eq (b := 96) (by omega) (by omega)
  have c128 : (nI m = 128) ↔ m = 128 := nI_eq (b := 128) (by omega) (by omega)
  have c130 : (nI m = 130) ↔ m = 130 := nI_eq (b := 130) (by omega) (by omega)
  have c224 : (nI m = 224) ↔ m = 224 := nI_eq (b := 224) (by omega) (by omega)
  have c240 : (nI m = 240) ↔ m = 240 := nI_eq (b := 240) (by omega) (by omega)
  have c4096 : (nI m = 4096) ↔ m = 4096 := nI_eq (b := 4096) (by omega) (by omega)
  have h8 : σ.1 (qq i) 8 = nI (L.1 8) := hC.2.1 8 (by simp)
  have hcap : ln (16 + 1) = 231 := rfl
  -- what is left to show where only the reply's data have come
  have fin : ∀ (τ : St) (d : List Nat), m ≠ 32 → d = telD L m → Rw τ 16 d → Eqx [16, 17] σ τ → Fr (pl3 (qq i)) σ τ ∧ (if m = 32 ∧ L.1 8 ≠ 0 then CL τ (qq i) (su L 8 (L.1 8 - 1)) ∧ Pr τ 15 to fr cnt kind part 49 130 [] else CL τ (qq i) L ∧ Pr τ 15 to fr cnt kind part grp mat (if m = 32 then [] else telD L m)) := by
    intro τ d h32 hd hr he
    refine ⟨(Fr.ex he).mo (fun a b h => by simp only [List.mem_cons, List.mem_nil_iff, or_false] at h; right; omega), ?_⟩
    rw [if_neg (fun h => h32 h.1), if_neg h32]
    refine ⟨hC.fr (Fr.ex he) (fun r j h1 h2 h => ?_), hP.row he (by rw [← hd]; exact hr)⟩
    simp only [List.mem_cons, List.mem_nil_iff, or_false] at h
    unfold qq at h1
    omega
  have hq16 : ∀ {τ : St}, Eqx [16, 17] σ τ → τ.1 (qq i) = σ.1 (qq i) ∧ τ.2 (qq i) = σ.2 (qq i) := fun he => he (qq i) (by unfold qq; simp <;> omega)
  unfold F_X1_tell
  simp only [c32, c80, c96, c128, c130, c224, c240, c4096]
  by_cases e32 : m = 32
  · rw [if_pos e32, h8]
    by_cases hw : L.1 8 = 0
    · refine Ok.tt (by rw [hw]; decide) (Ok.so ⟨Fr.rf, ?_⟩)
      rw [if_neg (fun h => h.2 hw), if_pos e32]
      exact ⟨hC, hP⟩
    · refine Ok.ff (nI_nle (by omega) (by omega)) (Ok.nm (Ok.nm (Ok.nm (Ok.so ⟨?_, ?_⟩))))
      · exact ((Fr.sI (Or.inl ⟨by omega, by omega⟩)).t (Fr.sI (Or.inr ⟨by omega, by omega⟩))).t (Fr.sI (Or.inr ⟨by omega, by omega⟩))
      · rw [if_pos ⟨e32, hw⟩]
        rw [show nI (L.1 8) - 1 = nI (L.1 8 - 1) from pk_sub (b := 1) (by omega)]
        constructor
        · refine (hC.su (j := 8) (v := L.1 8 - 1) (by simp)).fr (p := fun r _ => r = 15) (Fr.t (p := fun r _ => r = 15) (Fr.sI rfl) (Fr.sI rfl)) (fun r j h1 h2 h => ?_)
          unfold qq at h1
          omega
        · have hP' : Pr (sI σ (qq i) 8 (nI (L.1 8 - 1))) 15 to fr cnt kind part grp mat [] := hP.fr (p := fun r _ => r = qq i) (Fr.sI rfl) (fun k j h1 h2 h => by unfold qq at h; omega)
          obtain ⟨⟨a1, b1⟩, ⟨a2, b2⟩, ⟨a3, b3⟩, ⟨a4, b4⟩, ⟨a6, b6⟩, ⟨a7, b7⟩, ⟨a8, b8⟩, hd, h231⟩ := hP'
          refine ⟨⟨a1, b1⟩, ⟨a2, b2⟩, ⟨?_, b3⟩, ⟨?_, b4⟩, ⟨?_, b6⟩, ⟨?_, by decide⟩, ⟨?_, by decide⟩, hd.keep (L := [15]) (Eqx.tr (Eqx.sI (by simp)) (Eqx.sI (by simp))) (by simp) (by simp), h231⟩
          · rw [sI_nj (by decide), sI_nj (by decide)]; exact a3
          · rw [sI_nj (by decide), sI_nj (by decide)]; exact a4
          · rw [sI_nj (by decide), sI_nj (by decide)]; exact a6
          · rw [sI_eq]; rfl
          · rw [sI_nj (by decide), sI_eq]; rfl
  rw [if_neg e32]
  by_cases e80 : m = 80
  · rw [if_pos e80]
    refine f_listL (q := qq i) (σ0 := σ) 8 fu 0 σ [] (by unfold fu; omega) rfl hrow (by simp) Eqx.rf (fun τ r q => ?_)
    refine Ok.so (fin τ _ e32 ?_ r q)
    unfold telD
    rw [if_pos e80]
    rfl
  rw [if_neg e80]
  by_cases e96 : m = 96
  · rw [if_pos e96]
    refine wpn (b := 16) (σ0 := σ) hrow Eqx.rf (m := 6) rfl (by decide) (by simp [hcap]) (x := L.1 0) hC.1 (by omega) (fun τ1 r1 q1 => ?_)
    unfold F_X1_footprint
    refine Ok.eq rfl ?_
    dsimp only
    refine wpn (b := 16) r1 q1 (m := 2) rfl (by decide) (by simp [hcap, be_len]) (x := L.1 1 * L.1 9) (by rw [(hq16 q1).1, hC.2.1 1 (by simp), hC.2.1 9 (by simp), pk_mul, nI_l (by omega)]) (by omega) (fun τ2 r2 q2 => ?_)
    refine wput (b := 16) r2 q2 (by simp [hcap, be_len]) (x := L.1 9) (by rw [(hq16 q2).1, hC.2.1 9 (by simp)]) (by omega) (fun τ3 r3 q3 => ?_)
    refine wput (b := 16) r3 q3 (by simp [hcap, be_len]) (x := L.1 2) (by rw [(hq16 q3).1, hC.2.1 2 (by simp)]) (by omega) (fun τ4 r4 q4 => ?_)
    refine wpn (b := 16) r4 q4 (m := 2) rfl (by decide) (by simp [hcap, be_len]) (x := L.1 10) (by rw [(hq16 q4).1, hC.2.1 10 (by simp), nI_l (by omega)]) (by omega) (fun τ5 r5 q5 => ?_)
    refine wpn (b := 16) r5 q5 (m := 2) rfl (by decide) (by simp [hcap, be_len]) (x := 0) rfl (by omega) (fun τ6 r6 q6 => ?_)
    refine wpn (b := 16) r6 q6 (m := 2) rfl (by decide) (by simp [hcap, be_len]) (x := L.1 13) (by rw [(hq16 q6).1, hC.2.1 13 (by simp), nI_l (by omega)]) (by omega) (fun τ7 r7 q7 => ?_)
    refine Ok.so (fin τ7 _ e32 ?_ r7 q7)
    unfold telD
    rw [if_neg e80, if_pos e96, show be 0 2 = [0, 0] from rfl]
    simp
  rw [if_neg e96]
  by_cases e128 : m = 128
  · rw [if_pos e128]
    refine wput (b := 16) (σ0 := σ) hrow Eqx.rf (by simp [hcap]) (x := 76) rfl (by decide) (fun τ1 r1 q1 => ?_)
    refine wput (b := 16) r1 q1 (by simp [hcap]) (x := 65) rfl (by decide) (fun τ2 r2 q2 => ?_)
    refine wput (b := 16) r2 q2 (by simp [hcap]) (x := 77) rfl (by decide) (fun τ3 r3 q3 => ?_)
    refine wput (b := 16) r3 q3 (by simp [hcap]) (x := 80) rfl (by decide) (fun τ4 r4 q4 => ?_)
    refine f_hexL (id := L.1 0) (by omega) (σ0 := σ) (l0 := []) 8 fu τ4 _ (by unfold fu; omega) (by omega) (by rw [(hq16 q4).2]; exact hC.1) (by unfold qq; omega) (by unfold qq; omega) r4 (by simp) q4 (fun τ r q => ?_)
    refine Ok.so (fin τ _ e32 ?_ r q)
    unfold telD
    rw [if_neg e80, if_neg e96, if_pos e128]
    simp
  rw [if_neg e128]
  by_cases e130 : m = 130
  · rw [if_pos e130]
    refine Ok.bi (f_copy (r0 := 16) (r1 := qq i + 2) (by unfold qq; omega) (by unfold qq; omega) (by unfold qq; omega) hC.2.2.2.2.1 hrow) (fun τ hτ => ?_)
    rw [hcap, take_len_le (by omega)] at hτ
    refine Ok.so (fin τ _ e32 ?_ hτ.1 hτ.2)
    unfold telD
    rw [if_neg e80, if_neg e96, if_neg e128, if_pos e130]
  rw [if_neg e130]
  by_cases e224 : m = 224
  · rw [if_pos e224]
    refine wput (b := 16) (σ0 := σ) hrow Eqx.rf (by simp [hcap]) (x := L.1 9) (hC.2.1 9 (by simp)) (by omega) (fun τ1 r1 q1 => ?_)
    refine wput (b := 16) r1 q1 (by simp [hcap]) (x := L.1 2) (by rw [(hq16 q1).1, hC.2.1 2 (by simp)]) (by omega) (fun τ2 r2 q2 => ?_)
    refine Ok.so (fin τ2 _ e32 ?_ r2 q2)
    unfold telD
    rw [if_neg e80, if_neg e96, if_neg e128, if_neg e130, if_pos e224]
    rfl
  rw [if_neg e224]
  by_cases e240 : m = 240
  · rw [if_pos e240]
    refine wpn (b := 16) (σ0 := σ) hrow Eqx.rf (m := 2) rfl (by decide) (by simp [hcap]) (x := L.1 10) (by rw [hC.2.1 10 (by simp), nI_l (by omega)]) (by omega) (fun τ1 r1 q1 => ?_)
    refine Ok.so (fin τ1 _ e32 ?_ r1 q1)
    unfold telD
    rw [if_neg e80, if_neg e96, if_neg e128, if_neg e130, if_neg e224, if_pos e240]
    rfl
  rw [if_neg e240, if_pos (show m = 4096 by unfold isM at hm; omega), hC.2.1 12 (by simp)]
  have hflag : F_X6_flag σ (nI (L.1 12)) = some (σ, nI (L.1 12)) := by
    rcases (show L.1 12 = 0 ∨ L.1 12 = 1 by omega) with e | e <;> rw [e] <;> rfl
  refine Ok.eq hflag ?_
  refine wput (b := 16) (σ0 := σ) hrow Eqx.rf (by simp [hcap]) (x := L.1 12) rfl (by omega) (fun τ1 r1 q1 => ?_)
  refine Ok.so (fin τ1 _ e32 ?_ r1 q1)
  unfold telD
  rw [if_neg e80, if_neg e96, if_neg e128, if_neg e130, if_neg e224, if_neg e240]
  rfl
