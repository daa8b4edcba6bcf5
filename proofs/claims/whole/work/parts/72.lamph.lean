/-! ===== PURE: GET and SET: class's side ===== -/
theorem f_133 {σ0 σ : St} {i to fr cnt kind part grp mat : Nat} {L : Lp} {d v : List Nat} {own : Bool} {R : Lp × List Nat} (hC : CL σ (qq i) L) (h8 : L.1 8 ≤ 4) (hP : Pr σ 15 to fr cnt kind part grp mat d) (hv : Rw σ 5 v) (hfr : Fr (pl5 (qq i)) σ0 σ) (hR : R = (L, if own = true then pkt to fr cnt kind (L.1 8) part grp mat d else [])) : Ok (F_X1_speaksToOrder_L133 (qq i) 12 15 5 σ (bI (!own))) (HrOk σ0 i R) := by
  subst hR
  unfold F_X1_speaksToOrder_L133
  cases own with
  | true =>
    refine Ok.tt rfl ?_
    refine (f_fin hC h8 hP hv).mo (fun y hy => ?_)
    obtain ⟨y1, y2, y3, y4, y5⟩ := hy
    exact ⟨y1, hfr.t y2, y3, ⟨_, y5⟩, Or.inl ⟨y4, y5, pkt_ne⟩⟩
  | false =>
    refine Ok.ff (by decide) (Ok.so ?_)
    exact ⟨hC, hfr, ⟨d, hP.2.2.2.2.2.2.2.1⟩, ⟨v, hv⟩, Or.inr ⟨rfl, rfl⟩⟩
theorem oI_none {x : Option Nat} (h : ∀ r, x = some r → r < 10) : oI x = -1 ↔ x = none := by
  cases x with
  | none => exact ⟨fun _ => rfl, fun _ => rfl⟩
  | some r =>
    have hr := h r rfl
    refine ⟨fun h9 => ?_, fun h9 => absurd h9 (by simp)⟩
    exfalso
    have h10 : (nI r).toInt = (r : Int) := nI_toInt (by omega)
    have h11 : (nI r).toInt = (-1 : Int32).toInt := congrArg Int32.toInt h9
    rw [h10, show (-1 : Int32).toInt = -1 from by decide] at h11
    omega
theorem obL_wl {o now : Nat} {L : Lp} {f : List Nat} {own : Bool} (hW : Wl o now 2 L) (hok : pkOk f) (hb : By f) (hs : szs f) (hv : valR L own f = none) : Wl o now 3 (obL L now own f) := by
  obtain ⟨w1, w2, w3, w4, w5, w6, w7, w8, w9, w10, w11, w12, w13⟩ := hW
  have hlen := dt_len hok
  have hdb : By (dt f) := by
    intro k
    unfold dt
    rw [nD_take]
    by_cases h : k < f.getD 2 0 - 24
    · rw [if_pos h, nD_drop]; exact hb _
    · rw [if_neg h]; decide
  have w12' : ∀ e, e ∈ L.2.2.2 → now < e.1 ∧ e.1 ≤ now + 3 ∧ e.2.length ≤ 32 ∧ By e.2 := fun e he => ⟨(w12 e he).1, by have := (w12 e he).2.1; omega, (w12 e he).2.2⟩
  unfold obL
  unfold valR at hv
  by_cases e130 : two f 21 = 130
  · rw [if_pos e130] at hv ⊢
    have h32 := hs.1 e130
    cases own with
    | true =>
      rw [if_pos rfl]
      split at hv
      · exact absurd hv (by simp)
      split at hv
      · exact absurd hv (by simp)
      · rename_i _ h4
        have h4' : ¬ 4 ≤ L.1 8 + L.2.2.2.length := fun h => h4 ⟨rfl, h⟩
        refine ⟨w1, w2, w3, w4, w5, w6, w7, w8, w9, w10, ?_, ?_, ?_⟩
        · show L.1 8 + (L.2.2.2 ++ [(now + 3, dt f)]).length ≤ 4
          rw [List.length_append, List.length_singleton]; omega
        · intro e he
          rcases List.mem_append.mp he with h | h
          · exact w12' e h
          · have : e = (now + 3, dt f) := by simpa using h
            rw [this]
            exact ⟨by show now < now + 3; omega, Nat.le_refl _, by show (dt f).length ≤ 32; omega, hdb⟩
        · show (L.2.2.2 ++ [(now + 3, dt f)]).Pairwise _
          rw [List.pairwise_append]
          refine ⟨w13, List.pairwise_singleton _ _, fun a ha b hb2 => ?_⟩
          have : b = (now + 3, dt f) := by simpa using hb2
          rw [this]
          have := (w12 a ha).2.1
          show a.1 < now + 3
          omega
    | false =>
      rw [if_neg (by decide)]
      exact ⟨w1, w2, w3, w4, w5, w6, w7, w8, ⟨by show (dt f).length ≤ 32; omega, hdb⟩, w10, w11, w12', w13⟩
  rw [if_neg e130] at hv ⊢
  by_cases e224 : two f 21 = 224
  · rw [if_pos e224] at hv ⊢
    split at hv
    · rename_i h
      refine ⟨w1, w2, ?_, ?_, w5, w6, w7, w8, w9, w10, w11, w12', w13⟩
      · show 1 ≤ (su L 9 (f.getD 24 0)).1 9 ∧ (su L 9 (f.getD 24 0)).1 9 ≤ _ ∧ _
        rw [su_eq, su_ne (by decide)]
        exact ⟨h.1, h.2.1, w3.2.2⟩
      · show 1 ≤ (su L 9 (f.getD 24 0)).1 10 ∧ (su L 9 (f.getD 24 0)).1 10 + (su L 9 (f.getD 24 0)).1 1 * (su L 9 (f.getD 24 0)).1 9 ≤ 513
        rw [su_eq, su_ne (by decide), su_ne (by decide)]
        exact ⟨w4.1, h.2.2⟩
    · exact absurd hv (by simp)
  rw [if_neg e224] at hv ⊢
  by_cases e240 : two f 21 = 240
  · rw [if_pos e240] at hv ⊢
    split at hv
    · rename_i h
      refine ⟨w1, w2, w3, ?_, w5, w6, w7, w8, w9, w10, w11, w12', w13⟩
      show 1 ≤ (su L 10 (two f 24)).1 10 ∧ (su L 10 (two f 24)).1 10 + (su L 10 (two f 24)).1 1 * (su L 10 (two f 24)).1 9 ≤ 513
      rw [su_eq, su_ne (by decide), su_ne (by decide)]
      exact ⟨h.1, h.2.2⟩
    · exact absurd hv (by simp)
  rw [if_neg e240] at hv ⊢
  by_cases e4096 : two f 21 = 4096
  · rw [if_pos e4096]
    refine ⟨w1, w2, w3, w4, w5, ?_, w7, w8, w9, w10, w11, w12', w13⟩
    rw [su_eq]
    split <;> omega
  · rw [if_neg e4096]
    exact ⟨w1, w2, w3, w4, w5, w6, w7, w8, w9, w10, w11, w12', w13⟩
theorem f_sp40 {σ : St} {i o now : Nat} {L : Lp} {f d v : List Nat} {own set : Bool} (hC : CL σ (qq i) L) (hW : Wl o now 2 L) (ho : o ≤ 1000) (hH : Hd σ 12 f) (hok : pkOk f) (hb : By f) (hd : Rw σ 16 d) (hv : Rw σ 5 v) (hn : now < 2 ^ 31) (hg : f.getD 20 0 = if set = true then 48 else 32) (hso : set = false → own = true) : Ok (F_X1_speaksToOrder_L40 (qq i) 12 15 5 σ (nI now) (bI (!own)) (bI set)) (HrOk σ i (hrO f now own set L)) := by
  have hm := two_lt hb 21
  have ht := two_lt hb 18
  have hlen := dt_len hok
  have b23 := hb 23
  have w1 := hW.1
  have w11 := hW.2.2.2.2.2.2.2.2.2.2.1
  have hg2 : f.getD 20 0 < 255 := by rw [hg]; split <;> omega
  unfold F_X1_speaksToOrder_L40
  rw [hC.1]
  refine Ok.bi (f_begin (i := i) hH hd (by omega) hg2) (fun τ hτ => ?_)
  obtain ⟨p1, p2⟩ := hτ
  have hH1 : Hd τ 12 f := hH.fr p2 (fun k j h1 h2 h => by omega)
  have hC1 : CL τ (qq i) L := hC.fr p2 (fun r j h1 h2 h => by unfold qq at h1; omega)
  have hv1 : Rw τ 5 v := hv.fr p2 (fun j => by omega) (fun j => by omega)
  have k1 : Fr (pl5 (qq i)) σ τ := p2.mo (fun a b h => Or.inr (Or.inl h))
  have hr1 : Rw τ 13 (dt f) := hH1.2.2.2.2.2.2.2.2.1
  refine Ok.eq (f_size (r := 13) hr1) ?_
  dsimp only
  rw [hlen, hH1.2.2.2.2.2.1.1, hH1.2.2.2.2.2.2.2.1.1]
  refine Ok.eq (f_formR ht hm b23) ?_
  dsimp only
  have hO1 : oI (formR (two f 18) (two f 21) set (f.getD 23 0)) = -1 ↔ formR (two f 18) (two f 21) set (f.getD 23 0) = none := oI_none (fun r h => formR_lt h)
  -- a refusal
  have ref : ∀ r, r < 10 → hrO f now own set L = (L, if own = true then rp f L 2 (f.getD 20 0 + 1) (two f 21) (be r 2) else []) → Ok (F_X1_speaksToOrder_L91 (qq i) 12 15 5 τ (nI now) (bI (!own)) (bI set) (nI r)) (HrOk σ i (hrO f now own set L)) := by
    intro r hr hR
    unfold F_X1_speaksToOrder_L91 F_X2_refuse
    refine Ok.ff (fun h9 => absurd ((oI_none (x := some r) (fun r' h => by injection h with h; omega)).mp h9) (by simp)) ?_
    have p3 := p1.kind (k2 := 2) (by decide)
    have k2 : Fr (fun r _ => r = 15) τ (sI τ 15 3 (nI 2)) := Fr.sI rfl
    refine Ok.bi (Q := fun τ2 => Pr τ2 15 (six f 9) (L.1 0) (f.getD 15 0) 2 (two f 18) (f.getD 20 0 + 1) (two f 21) (be r 2) ∧ Fr (fun r _ => 15 ≤ r ∧ r ≤ 17) τ τ2) ?_ (fun τ2 h2 => ?_)
    · refine Ok.nm ?_
      refine wpn (b := 16) (σ0 := sI τ 15 3 (nI 2)) (l := []) (x := r) p3.2.2.2.2.2.2.2.1 Eqx.rf (m := 2) rfl (by decide) (by decide) (nI_l (by omega)) (by omega) (fun τ2 r2 q2 => Ok.so ⟨p3.row q2 r2, ?_⟩)
      exact (k2.mo (fun a b h => by omega)).t ((Fr.ex q2).mo (fun a b h => by simp only [List.mem_cons, List.mem_nil_iff, or_false] at h; omega))
    · refine f_133 (L := L) (hC1.fr h2.2 (fun r j h1 h2 h => by unfold qq at h1; omega)) (by omega) h2.1 (hv1.fr h2.2 (fun j => by omega) (fun j => by omega)) (k1.t (h2.2.mo (fun a b h => Or.inr (Or.inl h)))) hR
  by_cases hf : formR (two f 18) (two f 21) set (f.getD 23 0) = none
  · refine Ok.tt (hO1.mpr hf) ?_
    cases set with
    | false =>
      have hown := hso rfl
      subst hown
      refine Ok.tt rfl ?_
      rw [hf]
      unfold F_X1_speaksToOrder_L91
      refine Ok.tt rfl (Ok.tt rfl ?_)
      rw [hH1.2.2.2.2.2.2.2.1.1]
      refine Ok.bi (f_tell hC1 hW ho p1 (formR_isM hf)) (fun τ2 h2 => ?_)
      obtain ⟨g1, g2⟩ := h2
      have k2 : Fr (pl5 (qq i)) σ τ2 := k1.t (g1.mo (fun a b h => by rcases h with h | h; exact Or.inl h; exact Or.inr (Or.inl h)))
      have hv2 : Rw τ2 5 v := hv1.fr g1 (fun j => by unfold pl3 qq; omega) (fun j => by unfold pl3 qq; omega)
      have hg32 : f.getD 20 0 = 32 := hg
      by_cases hc : two f 21 = 32 ∧ L.1 8 ≠ 0
      · rw [if_pos hc] at g2
        refine f_133 (own := true) g2.1 (by rw [su_eq]; omega) g2.2 hv2 k2 ?_
        unfold hrO
        rw [hf]
        simp only [hc.1, hc.2, if_true, if_false, rp, Bool.false_eq_true]
        rw [su_eq, su_ne (by decide)]
      · rw [if_neg hc] at g2
        refine f_133 (own := true) g2.1 (by omega) g2.2 hv2 k2 ?_
        unfold hrO
        rw [hf, hg32]
        by_cases h32 : two f 21 = 32
        · have h80 : L.1 8 = 0 := by omega
          simp only [h32, h80, if_true, if_false, rp, Bool.false_eq_true]
        · simp only [h32, if_true, if_false, rp, Bool.false_eq_true]
    | true =>
      refine Ok.ff (by decide) ?_
      have hsz := formR_szs hf
      have hs : szs f := ⟨hsz.1, hsz.2.1, hsz.2.2.1, hsz.2.2.2.1⟩
      refine Ok.eq (f_valR hC1 hW hH1 hok hb hs) ?_
      dsimp only
      have hg48 : f.getD 20 0 = 48 := hg
      cases hval : valR L own f with
      | some r =>
        refine ref r (valR_lt hval) ?_
        unfold hrO
        rw [hf]
        simp only [if_true, hval]
      | none =>
        unfold F_X1_speaksToOrder_L91
        refine Ok.tt rfl (Ok.ff (by decide) ?_)
        refine Ok.bi (f_obey (own := own) hC1 hW hH1 hok hb hs hn p1 hsz.2.2.2.2) (fun τ2 h2 => ?_)
        obtain ⟨g1, g2, g3⟩ := h2
        have k2 : Fr (pl5 (qq i)) σ τ2 := k1.t (g1.mo (fun a b h => by rcases h with h | h; exact Or.inl h; exact Or.inr (Or.inl h)))
        have hv2 : Rw τ2 5 v := hv1.fr g1 (fun j => by unfold pl3 qq; omega) (fun j => by unfold pl3 qq; omega)
        have hid : (obL L now own f).1 0 = L.1 0 := by unfold obL; (repeat' split) <;> rfl
        have h8 : (obL L now own f).1 8 = L.1 8 := by unfold obL; (repeat' split) <;> rfl
        refine f_133 (own := own) g2 (by rw [h8]; omega) g3 hv2 k2 ?_
        unfold hrO
        rw [hf]
        simp only [if_true, hval, rp, hid, h8, hg48]
        cases own with
        | false => rfl
        | true =>
          by_cases e130 : two f 21 = 130
          · simp only [e130, if_true, and_self]
          · simp only [e130, if_true, if_false, false_and]
  · refine Ok.ff (fun h => hf (hO1.mp h)) ?_
    cases hfr : formR (two f 18) (two f 21) set (f.getD 23 0) with
    | none => exact absurd hfr hf
    | some r =>
      refine ref r (formR_lt hfr) ?_
      unfold hrO
      rw [hfr]
theorem f_speaks {σ : St} {i o now : Nat} {L : Lp} {f d v : List Nat} {own : Bool} (hC : CL σ (qq i) L) (hW : Wl o now 2 L) (ho : o + 1 ≤ 1000) (hH : Hd σ 12 f) (hok : pkOk f) (hb : By f) (hd : Rw σ 16 d) (hv : Rw σ 5 v) (hn : now < 2 ^ 31) (hown : own = true ↔ ¬ isCl (six f 3)) : Ok (F_X1_speaksTo (qq i) 12 15 5 σ (nI now)) (HrOk σ i (hr f now own L)) := by
  have b20 := hb 20
  have s3 := six_lt hb 3
  have h6 : σ.1 12 6 = nI (f.getD 20 0) := hH.2.2.2.2.2.2.1.1
  have h0 : σ.2 12 0 = lN (six f 3) := hH.1.1
  have c16 : (nI (f.getD 20 0) = 16) ↔ f.getD 20 0 = 16 := nI_eq (b := 16) (by omega) (by omega)
  have c32 : (nI (f.getD 20 0) = 32) ↔ f.getD 20 0 = 32 := nI_eq (b := 32) (by omega) (by omega)
  have c48 : (nI (f.getD 20 0) = 48) ↔ f.getD 20 0 = 48 := nI_eq (b := 48) (by omega) (by omega)
  have hcall : F_X2_isCall 12 σ = some (σ, bI (!own)) := by
    rw [f_isCall (r := 12) h0 s3]
    by_cases hcl : isCl (six f 3)
    · have : own = false := by
        cases own with
        | false => rfl
        | true => exact absurd hcl (hown.mp rfl)
      rw [if_pos hcl, this]; rfl
    · rw [if_neg hcl, hown.mpr hcl]; rfl
  have zb1 : ∀ {o : Option (St × Int32)} {R : Lp × List Nat}, Ok o (HrOk σ i R) → Ok (o.bind (fun y => gd (zb y.2) (some (y.1, y.2)))) (HrOk σ i R) := by
    intro o R h
    refine Ok.bi h (fun y hy => ?_)
    refine Ok.gd ?_ (Ok.so hy)
    rcases hy.2.2.2.2 with ⟨e, -⟩ | ⟨e, -⟩ <;> rw [e] <;> decide
  -- the count
  have cnt : ∀ (set : Bool), f.getD 20 0 = (if set = true then 48 else 32) → (set = false → own = true) → Ok (F_X1_speaksToOrder_L20 (qq i) 12 15 5 σ (nI now) (bI (!own)) (bI set)) (HrOk σ i (hrO f now own set (if own = true then su L 13 (L.1 13 + 1) else L))) := by
    intro set hg hso
    unfold F_X1_speaksToOrder_L20
    cases own with
    | true =>
      refine Ok.tt rfl (Ok.nm ?_)
      rw [hC.2.1 13 (by simp), nI_1, show (65535 : Int32) = nI 65535 from rfl, pk_andN (by have := hW.2.2.2.2.2.2.1; omega) 16 (by decide), Nat.mod_eq_of_lt (by have := hW.2.2.2.2.2.2.1; omega)]
      have k1 : Fr (fun r _ => r = qq i) σ (sI σ (qq i) 13 (nI (L.1 13 + 1))) := Fr.sI rfl
      have hW2 : Wl (o + 1) now 2 (su L 13 (L.1 13 + 1)) := by
        obtain ⟨w1, w2, w3, w4, w5, w6, w7, w8, w9, w10, w11, w12, w13⟩ := hW
        exact ⟨w1, w2, w3, w4, w5, w6, by rw [su_eq]; omega, w8, w9, w10, w11, w12, w13⟩
      refine (f_sp40 (hC.su (by simp)) hW2 ho (hH.fr k1 (fun k j h1 h2 h => by unfold qq at h; omega)) hok hb (hd.fr k1 (fun j => by unfold qq; omega) (fun j => by unfold qq; omega)) (hv.fr k1 (fun j => by unfold qq; omega) (fun j => by unfold qq; omega)) hn hg hso).mo (fun y hy => ?_)
      exact ⟨hy.1, (k1.mo (fun a b h => Or.inl ⟨by omega, by omega⟩)).t hy.2.1, hy.2.2⟩
    | false =>
      refine Ok.ff (by decide) ?_
      exact f_sp40 hC hW (by omega) hH hok hb hd hv hn hg hso
  unfold F_X1_speaksTo F_X1_speaksTo_L42 F_X1_speaksToOrder
  rw [h6]
  simp only [c16, c32, c48]
  unfold hr
  by_cases e16 : f.getD 20 0 = 16
  · rw [if_pos e16, if_pos e16]
    exact zb1 (f_spS hC hW hH hok hb hd hv hown e16)
  rw [if_neg e16, if_neg e16]
  by_cases e48 : f.getD 20 0 = 48
  · rw [if_pos e48, if_neg (by omega), if_pos e48]
    refine zb1 (Ok.eq hcall ?_)
    dsimp only
    rw [h6]
    refine Ok.tt (c48.mpr e48) ?_
    exact cnt true e48 (fun h => absurd h (by decide))
  rw [if_neg e48]
  by_cases e32 : f.getD 20 0 = 32
  · rw [if_pos e32, if_pos e32]
    refine Ok.eq hcall ?_
    dsimp only
    cases own with
    | true =>
      refine Ok.tt rfl ?_
      refine zb1 (Ok.eq hcall ?_)
      dsimp only
      rw [h6]
      refine Ok.ff (fun h => e48 (c48.mp h)) ?_
      exact cnt false e32 (fun _ => rfl)
    | false =>
      refine Ok.ff (by decide) (Ok.so ?_)
      exact HrOk.no hC hd hv rfl
  · rw [if_neg e32, if_neg e32, if_neg e48]
    exact Ok.so (HrOk.no hC hd hv rfl)
