/-! ===== PURE: what a lamp hears: class's side ===== -/
def HrOk (σ : St) (i : Nat) (R : Lp × List Nat) (y : St × Int32) : Prop := CL y.1 (qq i) R.1 ∧ Fr (pl5 (qq i)) σ y.1 ∧ (∃ d, Rw y.1 16 d) ∧ (∃ v, Rw y.1 5 v) ∧ ((y.2 = 1 ∧ Rw y.1 5 R.2 ∧ R.2 ≠ []) ∨ (y.2 = 0 ∧ R.2 = []))
theorem bn_congr {a b : List Nat} : ∀ (m x k j : Nat), (∀ t, t < m → a.getD (k + t) 0 = b.getD (j + t) 0) → bn x a k m = bn x b j m := by
  intro m
  induction m with
  | zero => intro x k j h; rfl
  | succ m ih =>
    intro x k j h
    show bn (x * 256 + a.getD k 0) a (k + 1) m = bn (x * 256 + b.getD j 0) b (j + 1) m
    have h0 := h 0 (by omega)
    rw [Nat.add_zero, Nat.add_zero] at h0
    rw [h0]
    exact ih _ _ _ (fun t ht => by have := h (t + 1) (by omega); rw [show k + 1 + t = k + (t + 1) by omega, show j + 1 + t = j + (t + 1) by omega]; exact this)
theorem pkt_ne {to fr cnt kind msgs part grp mat : Nat} {data : List Nat} : pkt to fr cnt kind msgs part grp mat data ≠ [] := by
  intro h
  have := congrArg List.length h
  rw [pkt_len] at this
  simp at this
theorem ech_ne {id : Nat} : ech id ≠ [] := by
  intro h
  have := congrArg List.length h
  rw [ech_len] at this
  simp at this
theorem HrOk.no {σ : St} {i : Nat} {R : Lp × List Nat} {L : Lp} {d v : List Nat} (hC : CL σ (qq i) L) (hd : Rw σ 16 d) (hv : Rw σ 5 v) (hR : R = (L, [])) : HrOk σ i R (σ, 0) := by
  subst hR
  exact ⟨hC, Fr.rf, ⟨d, hd⟩, ⟨v, hv⟩, Or.inr ⟨rfl, rfl⟩⟩
theorem f_spS {σ : St} {i o now : Nat} {L : Lp} {f d v : List Nat} {own : Bool} (hC : CL σ (qq i) L) (hW : Wl o now 2 L) (hH : Hd σ 12 f) (hok : pkOk f) (hb : By f) (hd : Rw σ 16 d) (hv : Rw σ 5 v) (hown : own = true ↔ ¬ isCl (six f 3)) (hg : f.getD 20 0 = 16) : Ok (F_X1_speaksToSearch (qq i) 12 15 5 σ) (HrOk σ i (hrS f own L)) := by
  have hr : Rw σ 13 (dt f) := hH.2.2.2.2.2.2.2.2.1
  have h7 : σ.1 12 7 = nI (two f 21) := hH.2.2.2.2.2.2.2.1.1
  have h0 : σ.2 12 0 = lN (six f 3) := hH.1.1
  have hm := two_lt hb 21
  have h23 : f.getD 23 0 = f.getD 2 0 - 24 := hok.2.2.2.2.1
  have hlen := dt_len hok
  have b23 := hb 23
  have s24 := six_lt hb 24
  have s30 := six_lt hb 30
  have s3 := six_lt hb 3
  obtain ⟨w1, -, -, -, w5, -, -, -, -, -, w11, -⟩ := hW
  have c1 : (nI (two f 21) = 1) ↔ two f 21 = 1 := nI_eq (b := 1) (by omega) (by omega)
  have c2 : (nI (two f 21) = 2) ↔ two f 21 = 2 := nI_eq (b := 2) (by omega) (by omega)
  have c3 : (nI (two f 21) = 3) ↔ two f 21 = 3 := nI_eq (b := 3) (by omega) (by omega)
  have n12 : (nI (f.getD 23 0) = 12) ↔ f.getD 23 0 = 12 := nI_eq (b := 12) (by omega) (by omega)
  have n0 : (nI (f.getD 23 0) = 0) ↔ f.getD 23 0 = 0 := nI_eq (b := 0) (by omega) (by omega)
  -- a HUSH or WAKE
  have L117 : ∀ z : Nat, z ≤ 1 → (two f 21 = 2 ∨ two f 21 = 3) ∧ f.getD 23 0 = 0 → z = (if two f 21 = 2 then 1 else 0) → Ok (F_X1_speaksToSearch_L117 (qq i) 12 15 5 σ (nI z)) (HrOk σ i (hrS f own L)) := by
    intro z hz hc hze
    have hR : hrS f own L = (su L 11 z, if own = true then rp f L 0 17 (two f 21) [0, 0] else []) := by
      unfold hrS
      rw [if_neg (by omega), if_pos hc, hze]
    rw [hR]
    unfold F_X1_speaksToSearch_L117
    refine Ok.gd (by rcases (show z = 0 ∨ z = 1 by omega) with e | e <;> rw [e] <;> decide) (Ok.nm ?_)
    have k1 : Fr (fun r _ => r = qq i) σ (sI σ (qq i) 11 (nI z)) := Fr.sI rfl
    have hC1 : CL (sI σ (qq i) 11 (nI z)) (qq i) (su L 11 z) := hC.su (by simp)
    have hd1 : Rw (sI σ (qq i) 11 (nI z)) 16 d := hd.fr k1 (fun j => by unfold qq; omega) (fun j => by unfold qq; omega)
    have hv1 : Rw (sI σ (qq i) 11 (nI z)) 5 v := hv.fr k1 (fun j => by unfold qq; omega) (fun j => by unfold qq; omega)
    have k2 : Fr (pl5 (qq i)) σ (sI σ (qq i) 11 (nI z)) := Fr.sI (Or.inl ⟨by omega, by omega⟩)
    refine Ok.eq (f_isCall (r := 12) (to := six f 3) h0 s3) ?_
    dsimp only
    by_cases hcl : isCl (six f 3)
    · have ho : own = false := by
        cases own with
        | false => rfl
        | true => exact absurd hcl (hown.mp rfl)
      rw [if_pos hcl]
      refine Ok.ff (by decide) (Ok.so ⟨hC1, k2, ⟨d, hd1⟩, ⟨v, hv1⟩, Or.inr ⟨rfl, ?_⟩⟩)
      rw [ho]; rfl
    · have ho : own = true := hown.mpr hcl
      rw [if_neg hcl]
      refine Ok.tt rfl ?_
      have hH1 : Hd (sI σ (qq i) 11 (nI z)) 12 f := hH.fr k1 (fun k j h1 h2 h => by unfold qq at h; omega)
      rw [show (sI σ (qq i) 11 (nI z)).2 (qq i) 0 = lN (L.1 0) from hC.1]
      refine Ok.bi (f_begin (i := i) hH1 hd1 (by omega) (by omega)) (fun τ hτ => ?_)
      obtain ⟨p1, p2⟩ := hτ
      refine wpn (b := 16) (σ0 := τ) (l := []) (x := 0) p1.2.2.2.2.2.2.2.1 Eqx.rf (m := 2) rfl (by decide) (by decide) rfl (by decide) (fun τ2 r2 q2 => ?_)
      have k3 : Fr (fun r _ => 15 ≤ r ∧ r ≤ 17) (sI σ (qq i) 11 (nI z)) τ2 := p2.t ((Fr.ex q2).mo (fun a b h => by simp only [List.mem_cons, List.mem_nil_iff, or_false] at h; omega))
      have hC2 : CL τ2 (qq i) (su L 11 z) := hC1.fr k3 (fun r j h1 h2 h => by unfold qq at h1; omega)
      refine (f_fin (i := i) hC2 (by rw [su_ne (by decide)]; omega) (p1.row q2 r2) (hv1.fr k3 (fun j => by omega) (fun j => by omega))).mo (fun y hy => ?_)
      obtain ⟨y1, y2, y3, y4, y5⟩ := hy
      have e17 : f.getD 20 0 + 1 = 17 := by omega
      rw [e17, su_ne (by decide)] at y5
      refine ⟨y1, (k2.t (k3.mo (fun a b h => Or.inr (Or.inl h)))).t y2, y3, ⟨_, y5⟩, Or.inl ⟨y4, ?_, ?_⟩⟩
      · rw [if_pos ho]; exact y5
      · rw [if_pos ho]; exact pkt_ne
  have L80 : ¬ (two f 21 = 1 ∧ f.getD 23 0 = 12) → Ok (F_X1_speaksToSearch_L80 (qq i) 12 15 5 σ (nI (f.getD 23 0))) (HrOk σ i (hrS f own L)) := by
    intro hn
    unfold F_X1_speaksToSearch_L80 F_X1_speaksToSearch_L96
    rw [h7]
    simp only [c2, c3, n0]
    by_cases e2 : two f 21 = 2
    · rw [if_pos e2]
      by_cases e0 : f.getD 23 0 = 0
      · rw [if_pos e0, if_pos e2]
        exact L117 1 (by omega) ⟨Or.inl e2, e0⟩ (by rw [if_pos e2])
      · rw [if_neg e0]
        exact Ok.so (HrOk.no hC hd hv (by unfold hrS; rw [if_neg hn, if_neg (by omega)]))
    · rw [if_neg e2]
      by_cases e3 : two f 21 = 3
      · rw [if_pos e3]
        by_cases e0 : f.getD 23 0 = 0
        · rw [if_pos e0, if_neg e2]
          exact L117 0 (by omega) ⟨Or.inr e3, e0⟩ (by rw [if_neg e2])
        · rw [if_neg e0]
          exact Ok.so (HrOk.no hC hd hv (by unfold hrS; rw [if_neg hn, if_neg (by omega)]))
      · rw [if_neg e3]
        exact Ok.so (HrOk.no hC hd hv (by unfold hrS; rw [if_neg hn, if_neg (by omega)]))
  unfold F_X1_speaksToSearch
  refine Ok.eq (f_size (r := 13) hr) ?_
  dsimp only
  rw [h7, hlen]
  simp only [c1, n12]
  by_cases e1 : two f 21 = 1
  · rw [if_pos e1]
    by_cases e12 : f.getD 23 0 = 12
    · rw [if_pos e12]
      have hl : ∀ t, t < 12 → (dt f).getD t 0 = f.getD (24 + t) 0 := fun t ht => dt_at (by omega)
      have e24 : bn 0 (dt f) 0 6 = six f 24 := bn_congr 6 0 0 24 (fun t ht => by rw [Nat.zero_add]; exact hl t (by omega))
      have e30 : bn 0 (dt f) 6 6 = six f 30 := bn_congr 6 0 6 30 (fun t ht => by rw [hl (6 + t) (by omega)]; congr 1; omega)
      rw [hC.2.1 11 (by simp)]
      have c11 : (nI (L.1 11) = 0) ↔ L.1 11 = 0 := nI_eq (b := 0) (by omega) (by omega)
      simp only [c11]
      have hR : ∀ R, (L.1 11 = 0 ∧ six f 24 ≤ L.1 0 ∧ L.1 0 ≤ six f 30 → R = (L, ech (L.1 0))) → (¬ (L.1 11 = 0 ∧ six f 24 ≤ L.1 0 ∧ L.1 0 ≤ six f 30) → R = (L, [])) → hrS f own L = R := by
        intro R h1 h2
        unfold hrS
        rw [if_pos ⟨e1, e12⟩]
        by_cases h : L.1 11 = 0 ∧ six f 24 ≤ L.1 0 ∧ L.1 0 ≤ six f 30
        · rw [if_pos h]; exact (h1 h).symm
        · rw [if_neg h]; exact (h2 h).symm
      by_cases e11 : L.1 11 = 0
      · rw [if_pos e11]
        refine Ok.eq (f_number (r := 13) hr (a := 0) (m := 6) (by decide) (by decide)) ?_
        dsimp only
        rw [e24, hC.1]
        by_cases g1 : L.1 0 < six f 24
        · refine Ok.tt (cm_lt.mpr ((pk_lLT (by omega) (by omega)).mpr g1)) ?_
          exact Ok.so (HrOk.no hC hd hv (hR _ (fun h => by omega) (fun _ => rfl)))
        · refine Ok.ff (fun h => g1 ((pk_lLT (by omega) (by omega)).mp (cm_lt.mp h))) ?_
          refine Ok.eq (f_number (r := 13) hr (a := 6) (m := 6) (by decide) (by decide)) ?_
          dsimp only
          rw [e30]
          try rw [hC.1]
          by_cases g2 : L.1 0 ≤ six f 30
          · refine Ok.tt (cm_le.mpr ((pk_lLE (by omega) (by omega)).mpr g2)) ?_
            refine Ok.bi (f_echo (id := L.1 0) (by omega) hv) (fun τ hτ => Ok.so ?_)
            rw [hR (L, ech (L.1 0)) (fun _ => rfl) (fun h => absurd ⟨e11, by omega, g2⟩ h)]
            have kx : Fr (pl5 (qq i)) σ τ := (Fr.ex hτ.2).mo (fun a b h => by simp only [List.mem_cons, List.mem_nil_iff, or_false] at h; right; right; omega)
            exact ⟨hC.fr (Fr.ex hτ.2) (fun r j h1 h2 h => by simp only [List.mem_cons, List.mem_nil_iff, or_false] at h; unfold qq at h1; omega), kx, ⟨d, hd.keep hτ.2 (by simp) (by simp)⟩, ⟨_, hτ.1⟩, Or.inl ⟨rfl, hτ.1, ech_ne⟩⟩
          · refine Ok.ff (fun h => g2 ((pk_lLE (by omega) (by omega)).mp (cm_le.mp h))) ?_
            exact Ok.so (HrOk.no hC hd hv (hR _ (fun h => by omega) (fun _ => rfl)))
      · rw [if_neg e11]
        exact Ok.so (HrOk.no hC hd hv (hR _ (fun h => absurd h.1 e11) (fun _ => rfl)))
    · rw [if_neg e12]
      exact L80 (by omega)
  · rw [if_neg e1]
    exact L80 (by omega)
theorem formR_szs {part m n : Nat} (h : formR part m true n = none) : (m = 130 → n ≤ 32) ∧ (m = 224 → n = 1) ∧ (m = 240 → n = 2) ∧ (m = 4096 → n = 1) ∧ (m = 130 ∨ m = 224 ∨ m = 240 ∨ m = 4096) := by
  unfold formR at h
  split at h
  · exact absurd h (by simp)
  split at h
  · exact absurd h (by simp)
  split at h
  · rename_i h9; exact absurd h9 (by decide)
  split at h
  · rename_i e
    split at h
    · refine ⟨fun _ => by assumption, ?_, ?_, ?_, Or.inl e⟩ <;> omega
    · exact absurd h (by simp)
  split at h
  · rename_i e
    split at h
    · refine ⟨?_, fun _ => by assumption, ?_, ?_, Or.inr (Or.inl e)⟩ <;> omega
    · exact absurd h (by simp)
  split at h
  · rename_i e
    split at h
    · refine ⟨?_, ?_, fun _ => by assumption, ?_, Or.inr (Or.inr (Or.inl e))⟩ <;> omega
    · exact absurd h (by simp)
  split at h
  · rename_i e
    split at h
    · refine ⟨?_, ?_, ?_, fun _ => by assumption, Or.inr (Or.inr (Or.inr e))⟩ <;> omega
    · exact absurd h (by simp)
  · exact absurd h (by simp)
theorem formR_isM {part m n : Nat} {set : Bool} (h : formR part m set n = none) : isM m := by
  unfold formR at h
  split at h
  · exact absurd h (by simp)
  split at h
  · exact absurd h (by simp)
  · rename_i h9
    exact Classical.not_not.mp h9
theorem formR_lt {part m n r : Nat} {set : Bool} (h : formR part m set n = some r) : r < 10 := by
  unfold formR at h
  repeat' split at h
  all_goals first | (injection h with h; omega) | exact absurd h (by simp)
theorem valR_lt {L : Lp} {own : Bool} {f : List Nat} {r : Nat} (h : valR L own f = some r) : r < 10 := by
  unfold valR at h
  repeat' split at h
  all_goals first | (injection h with h; omega) | exact absurd h (by simp)
