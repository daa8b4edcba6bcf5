/-! ===== PURE: echo and what a lamp hears: class's side ===== -/
theorem f_e7L {K : St → Int64 → Option St} {P : St → Prop} {u : Int64} {σ0 : St} : ∀ (m fz k : Nat) (σ : St) (l : List Nat), m < fz → k + m = 7 → Rw σ 5 l → l.length + m ≤ 200 → Eqx [5, 6] σ0 σ → (∀ τ, Rw τ 5 (l ++ List.replicate m 254) → Eqx [5, 6] σ0 τ → Ok (K τ u) P) → Ok (F_X0_write_L7 5 K fz σ u (nI k)) P := by
  intro m
  induction m with
  | zero =>
    intro fz k σ l hf hk h hl he hK
    cases fz with
    | zero => omega
    | succ fz =>
      unfold F_X0_write_L7
      refine Ok.tt (show (7 : Int32) ≤ nI k from nI_le (a := 7) (by omega) (by omega)) ?_
      exact hK σ (by simpa using h) he
  | succ m ih =>
    intro fz k σ l hf hk h hl he hK
    cases fz with
    | zero => omega
    | succ fz =>
      unfold F_X0_write_L7
      refine Ok.ff (show ¬ (7 : Int32) ≤ nI k from nI_ge (b := 7) (by omega) (by omega)) ?_
      refine wput (σ0 := σ0) h he (by rw [show ln (5 + 1) = 257 from rfl]; omega) (x := 254) rfl (by decide) (fun τ e1 e2 => ?_)
      rw [nI_1]
      refine ih fz (k + 1) τ (l ++ [254]) (by omega) (by omega) e1 (by simp; omega) e2 (fun τ2 g1 g2 => hK τ2 ?_ g2)
      rw [List.append_assoc] at g1
      exact g1
theorem or170 {b : Nat} (h : b < 256) : b ||| 170 < 256 := or_lt256 h (by decide)
theorem or85 {b : Nat} (h : b < 256) : b ||| 85 < 256 := or_lt256 h (by decide)
theorem f_epL {id : Nat} {K : St → Option St} {P : St → Prop} (hid : id < 2 ^ 63) {σ0 : St} : ∀ (c fz : Nat) (σ : St) (l : List Nat), c < fz → c ≤ 6 → Rw σ 5 l → l.length + 2 * c ≤ 200 → Eqx [5, 6] σ0 σ → (∀ τ, Rw τ 5 (l ++ ep id c) → Eqx [5, 6] σ0 τ → Ok (K τ) P) → Ok (F_X0_write_L36 5 K fz σ (lN id) (nI (8 * c) - 8)) P := by
  intro c
  induction c with
  | zero =>
    intro fz σ l hf hc h hl he hK
    cases fz with
    | zero => omega
    | succ fz =>
      unfold F_X0_write_L36
      refine Ok.tt (by decide) ?_
      exact hK σ (by rw [show ep id 0 = [] from rfl, List.append_nil]; exact h) he
  | succ c ih =>
    intro fz σ l hf hc h hl he hK
    cases fz with
    | zero => omega
    | succ fz =>
      unfold F_X0_write_L36
      rw [show nI (8 * (c + 1)) - 8 = nI (8 * c) from pk_sub (a := 8 * (c + 1)) (b := 8) (by omega)]
      refine Ok.ff (nI_pos (by omega)) ?_
      have hb : id / 256 ^ c % 256 < 256 := Nat.mod_lt _ (by decide)
      rw [ushr_i hid (by omega), p256, and255]
      have hcap : ln (5 + 1) = 257 := rfl
      refine wput (σ0 := σ0) h he (by rw [hcap]; omega) (x := id / 256 ^ c % 256 ||| 170) (nI_or _ 170) (or170 hb) (fun τ1 e1 q1 => ?_)
      refine wput (σ0 := σ0) e1 q1 (by rw [hcap, List.length_append, List.length_singleton]; omega) (x := id / 256 ^ c % 256 ||| 85) (nI_or _ 85) (or85 hb) (fun τ2 e2 q2 => ?_)
      rw [show (-8 : Int32) = -8 from rfl, ← Int32.sub_eq_add_neg]
      refine ih fz τ2 _ (by omega) (by omega) e2 (by simp; omega) q2 (fun τ3 g1 g2 => hK τ3 ?_ g2)
      rw [List.append_assoc, List.append_assoc] at g1
      exact g1
theorem or_mod (s k : Nat) (hk : k < 256) : (s ||| k) % 256 = s % 256 ||| k := by
  have h := Nat.or_mod_two_pow (a := s) (b := k) (n := 8)
  rw [show 2 ^ 8 = 256 from rfl, Nat.mod_eq_of_lt hk] at h
  exact h
theorem f_echo {σ : St} {id : Nat} {v : List Nat} (hid : id < 2 ^ 48) (h : Rw σ 5 v) : Ok (F_X0_write 5 σ (lN id)) (fun τ => Rw τ 5 (ech id) ∧ Eqx [5, 6] σ τ) := by
  have hcap : ln (5 + 1) = 257 := rfl
  unfold F_X0_write
  refine wcut h Eqx.rf (fun τ0 r0 q0 => ?_)
  refine f_e7L (σ0 := σ) 7 fu 0 τ0 [] (by unfold fu; omega) rfl r0 (by simp) q0 (fun τ1 r1 q1 => ?_)
  unfold F_X0_write_L26
  refine wput (σ0 := σ) r1 q1 (by simp [hcap]) (x := 170) rfl (by decide) (fun τ2 r2 q2 => ?_)
  refine f_epL (id := id) (by omega) (σ0 := σ) 6 fu τ2 _ (by unfold fu; omega) (by omega) r2 (by simp) q2 (fun τ3 r3 q3 => ?_)
  have hq : ∀ x, x = eh id → Rw τ3 5 x → Rw τ3 5 (eh id) := fun x hx hy => hx ▸ hy
  have r4 := hq _ (by simp [eh, List.replicate]) r3
  have hs := f_sum r4 (a := 8) (m := 12) (by rw [eh_len]; omega)
  have hsl := sg_le r4.by 12 8
  rw [Nat.mod_eq_of_lt (by omega)] at hs
  unfold F_X0_write_L75
  refine Ok.eq hs ?_
  dsimp only
  have hsh : ((Int32.toUInt32 (nI (sg (eh id) 8 12))) >>> ((Int32.toUInt32 8) &&& Int32.toUInt32 31)).toInt32 = nI (sg (eh id) 8 12 / 256) := pk_ushrN (by omega) 8 8 (by decide)
  rw [hsh]
  have hd : sg (eh id) 8 12 / 256 < 256 := by omega
  refine wput (σ0 := σ) r4 q3 (by rw [hcap, eh_len]; omega) (x := sg (eh id) 8 12 / 256 ||| 170) (nI_or _ 170) (or170 hd) (fun τ4 r5 q5 => ?_)
  refine wput (σ0 := σ) r5 q5 (by simp [hcap, eh_len]) (x := sg (eh id) 8 12 / 256 ||| 85) (nI_or _ 85) (or85 hd) (fun τ5 r6 q6 => ?_)
  have wl : ∀ {τ : St} {l : List Nat} {k : Nat} {β : Type} {kk : St → Option β} {P : β → Prop}, Rw τ 5 l → Eqx [5, 6] σ τ → l.length < 257 → k < 256 → (∀ τ', Rw τ' 5 (l ++ [sg (eh id) 8 12 % 256 ||| k]) → Eqx [5, 6] σ τ' → Ok (kk τ') P) → Ok ((F_X3_put 5 τ (nI (sg (eh id) 8 12 ||| k))).bind kk) P := by
    intro τ l k β kk P g1 g2 g3 g4 g5
    obtain ⟨τ', e1, e2, e3⟩ := f_put g1 (by rw [hcap]; exact g3) (nI (sg (eh id) 8 12 ||| k))
    rw [e1]
    refine g5 τ' ?_ (Eqx.tr g2 e3)
    have hlt : sg (eh id) 8 12 ||| k < 2 ^ 32 := Nat.or_lt_two_pow (by omega) (by omega)
    rw [lo8_nI hlt, or_mod _ _ g4] at e2
    exact e2
  rw [show nI (sg (eh id) 8 12) ||| 170 = nI (sg (eh id) 8 12 ||| 170) from nI_or _ 170, show nI (sg (eh id) 8 12) ||| 85 = nI (sg (eh id) 8 12 ||| 85) from nI_or _ 85]
  refine wl (k := 170) r6 q6 (by simp [eh_len]) (by decide) (fun τ6 r7 q7 => ?_)
  refine wl (k := 85) r7 q7 (by simp [eh_len]) (by decide) (fun τ7 r8 q8 => ?_)
  refine Ok.so ⟨?_, q8⟩
  have hq2 : ∀ x, x = ech id → Rw τ7 5 x → Rw τ7 5 (ech id) := fun x hx hy => hx ▸ hy
  exact hq2 _ (by simp [ech]) r8
/-- places of a lamp, of the reply and of the voice -/
abbrev pl5 (q : Nat) : Nat → Nat → Prop := fun r _ => (q ≤ r ∧ r < q + 12) ∨ (15 ≤ r ∧ r ≤ 17) ∨ (5 ≤ r ∧ r ≤ 6)
theorem f_begin {σ : St} {i : Nat} {f d : List Nat} {id : Nat} (hH : Hd σ 12 f) (hd : Rw σ 16 d) (hid : id < 2 ^ 48) (hg : f.getD 20 0 < 255) : Ok (F_X2_beginReply 15 12 σ (lN id)) (fun τ => Pr τ 15 (six f 9) id (f.getD 15 0) 0 (two f 18) (f.getD 20 0 + 1) (two f 21) [] ∧ Fr (fun r _ => 15 ≤ r ∧ r ≤ 17) σ τ) := by
  obtain ⟨⟨a1, c1⟩, ⟨a2, c2⟩, ⟨a3, c3⟩, ⟨a4, c4⟩, ⟨a5, c5⟩, ⟨a6, c6⟩, ⟨a7, c7⟩, ⟨a8, c8⟩, -, -⟩ := hH
  have h12 : ∀ {τ : St}, Fr (fun r _ => r = 15) σ τ → ∀ j, τ.1 12 j = σ.1 12 j := fun he j => he.i (by decide)
  unfold F_X2_beginReply
  refine Ok.nm (Ok.nm (Ok.nm (Ok.nm (Ok.nm (Ok.nm (Ok.nm ?_))))))
  rw [a2]
  generalize hw1 : sJ (sJ σ 15 0 (lN (six f 9))) 15 1 (lN id) = w1
  have k1 : Fr (fun r _ => r = 15) σ w1 := by rw [← hw1]; exact Fr.t (p := fun r _ => r = 15) (Fr.sJ rfl) (Fr.sJ rfl)
  have v1 : w1.2 15 0 = lN (six f 9) ∧ w1.2 15 1 = lN id := by rw [← hw1]; simp [sJ_if]
  rw [h12 k1, a3]
  generalize hw2 : sI w1 15 2 (nI (f.getD 15 0)) = w2
  have k2 : Fr (fun r _ => r = 15) σ w2 := by rw [← hw2]; exact k1.t (Fr.sI rfl)
  have k3 : Fr (fun r _ => r = 15) σ (sI w2 15 3 0) := k2.t (Fr.sI rfl)
  rw [h12 k3, a6]
  have k4 : Fr (fun r _ => r = 15) σ (sI (sI w2 15 3 0) 15 5 (nI (two f 18))) := k3.t (Fr.sI rfl)
  rw [h12 k4, a7]
  have k5 : Fr (fun r _ => r = 15) σ (sI (sI (sI w2 15 3 0) 15 5 (nI (two f 18))) 15 6 (nI (f.getD 20 0) + 1)) := k4.t (Fr.sI rfl)
  rw [h12 k5, a8]
  have k6 : Fr (fun r _ => r = 15) σ (sI (sI (sI (sI w2 15 3 0) 15 5 (nI (two f 18))) 15 6 (nI (f.getD 20 0) + 1)) 15 7 (nI (two f 21))) := k5.t (Fr.sI rfl)
  refine wcut (σ0 := sI (sI (sI (sI w2 15 3 0) 15 5 (nI (two f 18))) 15 6 (nI (f.getD 20 0) + 1)) 15 7 (nI (two f 21))) (b := 16) (l := d) (hd.fr k6 (fun j => by omega) (fun j => by omega)) Eqx.rf (fun τ r q => ?_)
  have hq := q 15 (by simp)
  refine Ok.so ⟨⟨⟨?_, c2⟩, ⟨?_, hid⟩, ⟨?_, c3⟩, ⟨?_, by decide⟩, ⟨?_, c6⟩, ⟨?_, by omega⟩, ⟨?_, c8⟩, r, rfl⟩, ?_⟩
  · rw [hq.2, ← hw2]; exact v1.1
  · rw [hq.2, ← hw2]; exact v1.2
  · rw [hq.1, ← hw2]; simp [sI_if]
  · rw [hq.1, ← hw2]; simp [sI_if]; rfl
  · rw [hq.1, ← hw2]; simp [sI_if]
  · rw [hq.1, ← hw2]; simp [sI_if, nI_1]
  · rw [hq.1, ← hw2]; simp [sI_if]
  · exact (k6.mo (fun a b h => by omega)).t ((Fr.ex q).mo (fun a b h => by simp only [List.mem_cons, List.mem_nil_iff, or_false] at h; omega))
theorem f_fin {σ : St} {i to fr cnt kind part grp mat : Nat} {L : Lp} {d v : List Nat} (hC : CL σ (qq i) L) (h8 : L.1 8 ≤ 4) (hP : Pr σ 15 to fr cnt kind part grp mat d) (hv : Rw σ 5 v) : Ok (nm (sI σ 15 4 (σ.1 (qq i) 8)) (fun w => (F_X2_writeTo 15 5 w).bind (fun y => some (y, (1 : Int32))))) (fun y => CL y.1 (qq i) L ∧ Fr (pl5 (qq i)) σ y.1 ∧ (∃ d', Rw y.1 16 d') ∧ y.2 = 1 ∧ Rw y.1 5 (pkt to fr cnt kind (L.1 8) part grp mat d)) := by
  refine Ok.nm ?_
  rw [hC.2.1 8 (by simp)]
  have k1 : Fr (fun r j => r = 15 ∧ j = 4) σ (sI σ 15 4 (nI (L.1 8))) := Fr.sI ⟨rfl, rfl⟩
  obtain ⟨⟨a1, b1⟩, ⟨a2, b2⟩, ⟨a3, b3⟩, ⟨a4, b4⟩, ⟨a6, b6⟩, ⟨a7, b7⟩, ⟨a8, b8⟩, hd, h231⟩ := hP
  have hd1 : Rw (sI σ 15 4 (nI (L.1 8))) 16 d := hd.fr k1 (fun j => by omega) (fun j => by omega)
  have hPk : Pk (sI σ 15 4 (nI (L.1 8))) 15 to fr cnt kind (L.1 8) part grp mat d := ⟨⟨a1, b1⟩, ⟨a2, b2⟩, ⟨by rw [k1.i (by omega)]; exact a3, b3⟩, ⟨by rw [k1.i (by omega)]; exact a4, b4⟩, ⟨sI_eq, by omega⟩, ⟨by rw [k1.i (by omega)]; exact a6, b6⟩, ⟨by rw [k1.i (by omega)]; exact a7, b7⟩, ⟨by rw [k1.i (by omega)]; exact a8, b8⟩, hd1, h231⟩
  refine Ok.bi (f_writeTo (b := 5) (by omega) (by decide) hPk (hv.fr k1 (fun j => by omega) (fun j => by omega))) (fun τ hτ => Ok.so ⟨?_, ?_, ⟨d, ?_⟩, rfl, hτ.1⟩)
  · exact (hC.fr k1 (fun r j h1 h2 h => by unfold qq at h1; omega)).fr (Fr.ex hτ.2) (fun r j h1 h2 h => by simp only [List.mem_cons, List.mem_nil_iff, or_false] at h; unfold qq at h1; omega)
  · exact (k1.mo (fun a b h => by right; left; omega)).t ((Fr.ex hτ.2).mo (fun a b h => by simp only [List.mem_cons, List.mem_nil_iff, or_false] at h; right; right; omega))
  · exact hd1.keep hτ.2 (by simp) (by simp)
