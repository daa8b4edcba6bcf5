/-! ===== PURE: what steps keep ===== -/
theorem hr_0 {f : List Nat} {now : Nat} {own : Bool} {L : Lp} : (hr f now own L).1.1 0 = L.1 0 := by
  have hO : ∀ set (M : Lp), (hrO f now own set M).1.1 0 = M.1 0 := by
    intro set M
    unfold hrO
    split
    · rfl
    · split
      · show (obL M now own f).1 0 = M.1 0
        unfold obL
        repeat' split
        all_goals rfl
      · split
        · split <;> rfl
        · rfl
  unfold hr
  split
  · unfold hrS
    split
    · split <;> rfl
    · split <;> rfl
  split
  · split
    · rw [hO]; rfl
    · rfl
  split
  · rw [hO]; split <;> rfl
  · rfl
theorem ls_0 {f : List Nat} {now : Nat} {L : Lp} : (ls f now L).1.1 0 = L.1 0 := by
  unfold ls
  split
  · show (shi f now (rip now L)).1 0 = L.1 0
    unfold shi
    show (if (rip now L).1 10 < f.length then su (rip now L) 14 now else rip now L).1 0 = L.1 0
    split
    · rw [su_ne (by decide)]; exact rip_0
    · exact rip_0
  split
  · split
    · rw [hr_0]; exact rip_0
    split
    · rw [hr_0]; exact rip_0
    · exact rip_0
  · exact rip_0
abbrev ids (X : Xs) (k : Nat) : Nat := (X.2.2.1 k).1 0
theorem ids_look {n : Nat} {f : List Nat} {X : Xs} (k : Nat) : ids (lookX n f X) k = ids X k := by
  show (if k < n then (ls f (X.1 + 1) (X.2.2.1 k)).1 else X.2.2.1 k).1 0 = _
  split
  · exact ls_0
  · rfl
theorem ids_ask {n to part grp mat : Nat} {d : List Nat} {X : Xs} (k : Nat) : ids (askX n X to part grp mat d) k = ids X k := ids_look k
theorem ids_try {n id : Nat} {X : Xs} (k : Nat) : ids (tryX n X id).1 k = ids X k := by
  unfold tryX
  split
  · exact ids_ask k
  split
  · exact ids_ask k
  · exact (ids_ask k).trans (ids_ask k)
theorem six_pkt {to fr cnt kind msgs part grp mat : Nat} {d : List Nat} (h : to < 2 ^ 48) : six (pkt to fr cnt kind msgs part grp mat d) 3 = to := by
  show (((((0 * 256 + to / 256 ^ 5 % 256) * 256 + to / 256 ^ 4 % 256) * 256 + to / 256 ^ 3 % 256) * 256 + to / 256 ^ 2 % 256) * 256 + to / 256 ^ 1 % 256) * 256 + to / 256 ^ 0 % 256 = to
  omega
theorem flA_nil {sp : Nat → Nat × Int32} : ∀ c, flA [] sp c = [] := by
  intro c
  induction c with
  | zero => rfl
  | succ c ih => show fl (flA [] sp c) _ _ = []; rw [ih]; rfl
/-- who is found is there -/
theorem try_there {n id : Nat} {X : Xs} (hid : id < 2 ^ 48) (hcl : ¬ isCl id) (h : (tryX n X id).2 = 1) : ∃ k, k < n ∧ ids X k = id := by
  apply Classical.byContradiction
  intro hno
  have e : (askX n X id 0 16 2 []).2.2.2.1.length = 0 := by
    have hs : six (pkt id SR ((X.2.1 + 1) % 256) 1 0 0 16 2 []) 3 = id := six_pkt hid
    have h0 : ans (pkt id SR ((X.2.1 + 1) % 256) 1 0 0 16 2 []) (X.1 + 1) X.2.2.1 n = [] := by
      refine ans_0 n (fun j hj => ?_)
      unfold ls
      split
      · rfl
      split
      · rw [hs, if_neg (fun h9 => hno ⟨j, hj, h9.symm⟩), if_neg (fun h9 => hcl h9.1)]
      · rfl
    show (flA (ans (pkt id SR ((X.2.1 + 1) % 256) 1 0 0 16 2 []) (X.1 + 1) X.2.2.1 n) _ _).length = 0
    rw [h0, flA_nil]; rfl
  unfold tryX at h
  rw [if_pos e] at h
  exact absurd (show (0 : Nat) = 1 from h) (by decide)
/-- those found are lamps, and none twice -/
def FY (n : Nat) (X : Xs) (Y : Ys) : Prop := (∀ j, j < Y.2.2.1 → ∃ k, k < n ∧ ids X k = Y.2.2.2.1 j) ∧ (∀ i j, i < j → j < Y.2.2.1 → Y.2.2.2.1 i ≠ Y.2.2.2.1 j)
theorem pigeon : ∀ (n c : Nat) (g fd : Nat → Nat), (∀ j, j < c → ∃ k, k < n ∧ g k = fd j) → (∀ i j, i < j → j < c → fd i ≠ fd j) → c ≤ n := by
  intro n
  induction n with
  | zero =>
    intro c g fd h1 h2
    apply Classical.byContradiction
    intro h
    obtain ⟨k, hk, _⟩ := h1 0 (by omega)
    omega
  | succ n ih =>
    intro c g fd h1 h2
    by_cases hx : ∃ j, j < c ∧ fd j = g n
    · obtain ⟨j0, hj0, he⟩ := hx
      have key := ih (c - 1) g (fun j => if j < j0 then fd j else fd (j + 1)) (fun j hj => ?_) (fun i j hij hj => ?_)
      · omega
      · by_cases hlt : j < j0
        · rw [if_pos hlt]
          obtain ⟨k, hk, hg⟩ := h1 j (by omega)
          refine ⟨k, ?_, hg⟩
          by_cases hkn : k = n
          · subst hkn
            exact absurd (hg.symm.trans he.symm) (h2 j j0 hlt hj0)
          · omega
        · rw [if_neg hlt]
          obtain ⟨k, hk, hg⟩ := h1 (j + 1) (by omega)
          refine ⟨k, ?_, hg⟩
          by_cases hkn : k = n
          · subst hkn
            exact absurd (he.trans hg) (h2 j0 (j + 1) (by omega) (by omega))
          · omega
      · by_cases h3 : i < j0
        · rw [if_pos h3]
          by_cases h4 : j < j0
          · rw [if_pos h4]; exact h2 i j hij (by omega)
          · rw [if_neg h4]; exact h2 i (j + 1) (by omega) (by omega)
        · rw [if_neg h3, if_neg (by omega)]
          exact h2 (i + 1) (j + 1) (by omega) (by omega)
    · have key := ih c g fd (fun j hj => ?_) h2
      · omega
      · obtain ⟨k, hk, hg⟩ := h1 j hj
        refine ⟨k, ?_, hg⟩
        by_cases hkn : k = n
        · subst hkn; exact absurd ⟨j, hj, hg.symm⟩ hx
        · omega
theorem FY.kee {n id : Nat} {X : Xs} {Y : Ys} (h : FY n X Y) (hh : ¬ has Y id) (hk : ∃ k, k < n ∧ ids X k = id) : FY n X (kee Y id) := by
  constructor
  · intro j hj
    show ∃ k, k < n ∧ ids X k = if j = Y.2.2.1 then id else Y.2.2.2.1 j
    split
    · exact hk
    · exact h.1 j (by have : j < Y.2.2.1 + 1 := hj; omega)
  · intro i j hij hj
    have hj' : j < Y.2.2.1 + 1 := hj
    show (if i = Y.2.2.1 then id else Y.2.2.2.1 i) ≠ if j = Y.2.2.1 then id else Y.2.2.2.1 j
    rw [if_neg (by omega)]
    split
    · exact fun e => hh ⟨i, by omega, e⟩
    · exact h.2 i j hij (by omega)
theorem FY.kep {n id : Nat} {X : Xs} {Y : Ys} (h : FY n X Y) (hk : ∃ k, k < n ∧ ids X k = id) : FY n X (kep Y id) := by
  unfold Jvm.Pilot.CLampLineLaw_law_r5351_a1a261.kep
  split
  · exact h
  · rename_i hh; exact h.kee hh hk
theorem FY.room {n id : Nat} {X : Xs} {Y : Ys} (h : FY n X Y) (hh : ¬ has Y id) (hk : ∃ k, k < n ∧ ids X k = id) : Y.2.2.1 < n := by
  have := h.kee hh hk
  exact pigeon n (Y.2.2.1 + 1) (ids X) _ this.1 this.2
theorem FY.to {n : Nat} {X X2 : Xs} {Y Y2 : Ys} (h : FY n X Y) (hi : ∀ k, ids X2 k = ids X k) (h1 : Y2.2.2.1 = Y.2.2.1) (h2 : Y2.2.2.2.1 = Y.2.2.2.1) : FY n X2 Y2 := by
  unfold FY
  rw [h1, h2]
  exact ⟨fun j hj => by obtain ⟨k, a, b⟩ := h.1 j hj; exact ⟨k, a, by rw [hi]; exact b⟩, h.2⟩
theorem FY.wf {o n : Nat} {X : Xs} {Y : Ys} (h : FY n X Y) (hn : n ≤ 24) (hW : WX o n X) : WF Y := by
  constructor
  · intro j hj
    obtain ⟨k, hk, e⟩ := h.1 j hj
    have := (hW k hk).1.1
    show Y.2.2.2.1 j < 2 ^ 48
    rw [← e]
    have : ids X k < 2 ^ 47 := this
    omega
  · have := pigeon n Y.2.2.1 (ids X) Y.2.2.2.1 h.1 h.2
    omega
theorem kep_21 {Y : Ys} {id : Nat} : (kep Y id).2.1 = Y.2.1 := by unfold kep; split <;> rfl
theorem WY.eq {Y Y2 : Ys} (h : WY Y) (h1 : Y2.1 = Y.1) (h2 : Y2.2.1 = Y.2.1) : WY Y2 := by
  unfold WY
  rw [h1, h2]
  exact h
theorem WY.tkn {Y : Ys} (h : WY Y) : WY (tkn Y) := ⟨fun j hj => h.1 j (by have : j < Y.1 - 1 := hj; omega), by have := h.2; show Y.1 - 1 ≤ 49; omega⟩
theorem WY.back {Y Z : Ys} (h : WY Y) (hd : 0 < Y.1) (hz1 : Z.1 = Y.1 - 1) (hz2 : Z.2.1 = Y.2.1) : WY (pil Z (br Y).1 (br Y).2) := by
  have hd2 := h.2
  refine ⟨fun j hj => ?_, by show Z.1 + 1 ≤ 49; omega⟩
  have hj' : j < Z.1 + 1 := hj
  show (if j = Z.1 then ((br Y).1, (br Y).2) else Z.2.1 j).1 ≤ (if j = Z.1 then ((br Y).1, (br Y).2) else Z.2.1 j).2 ∧ (if j = Z.1 then ((br Y).1, (br Y).2) else Z.2.1 j).2 < 2 ^ 48 - 1 ∧ (if j = Z.1 then ((br Y).1, (br Y).2) else Z.2.1 j).2 - (if j = Z.1 then ((br Y).1, (br Y).2) else Z.2.1 j).1 < 2 ^ (48 - j)
  by_cases e : j = Z.1
  · rw [if_pos e, show j = Y.1 - 1 by omega]
    exact h.1 (Y.1 - 1) (by omega)
  · rw [if_neg e, hz2]
    exact h.1 j (by omega)
theorem WY.mid {Y : Ys} (h : WY Y) (hd : 0 < Y.1) (hab : (br Y).1 ≠ (br Y).2) : WY (mid (Jvm.Pilot.CLampLineLaw_law_r5351_a1a261.tkn Y) (br Y).1 (br Y).2) := by
  obtain ⟨wa, wb, wc⟩ := h.1 (Y.1 - 1) (by omega)
  change (br Y).1 ≤ (br Y).2 at wa
  change (br Y).2 < 2 ^ 48 - 1 at wb
  change (br Y).2 - (br Y).1 < 2 ^ (48 - (Y.1 - 1)) at wc
  generalize (br Y).1 = a at *
  generalize (br Y).2 = b at *
  have h49 := h.2
  have hlt : Y.1 ≤ 48 := by
    apply Classical.byContradiction
    intro h9
    have e : Y.1 = 49 := by omega
    rw [e] at wc
    have : (2 : Nat) ^ (48 - (49 - 1)) = 1 := by decide
    omega
  have hp : 2 ^ (48 - (Y.1 - 1)) = 2 * 2 ^ (48 - Y.1) := by
    rw [show 48 - (Y.1 - 1) = (48 - Y.1) + 1 by omega, Nat.pow_succ, Nat.mul_comm]
  refine ⟨fun j hj => ?_, by show Y.1 - 1 + 1 + 1 ≤ 49; omega⟩
  have hj' : j < Y.1 - 1 + 1 + 1 := hj
  show (if j = Y.1 - 1 + 1 then (a, (a + b) / 2) else if j = Y.1 - 1 then ((a + b) / 2 + 1, b) else Y.2.1 j).1 ≤ (if j = Y.1 - 1 + 1 then (a, (a + b) / 2) else if j = Y.1 - 1 then ((a + b) / 2 + 1, b) else Y.2.1 j).2 ∧ (if j = Y.1 - 1 + 1 then (a, (a + b) / 2) else if j = Y.1 - 1 then ((a + b) / 2 + 1, b) else Y.2.1 j).2 < 2 ^ 48 - 1 ∧ (if j = Y.1 - 1 + 1 then (a, (a + b) / 2) else if j = Y.1 - 1 then ((a + b) / 2 + 1, b) else Y.2.1 j).2 - (if j = Y.1 - 1 + 1 then (a, (a + b) / 2) else if j = Y.1 - 1 then ((a + b) / 2 + 1, b) else Y.2.1 j).1 < 2 ^ (48 - j)
  by_cases e : j = Y.1 - 1 + 1
  · rw [if_pos e, show j = Y.1 by omega]
    dsimp only
    exact ⟨by omega, by omega, by omega⟩
  · rw [if_neg e]
    by_cases e2 : j = Y.1 - 1
    · rw [if_pos e2, e2]
      dsimp only
      exact ⟨by omega, by omega, by omega⟩
    · rw [if_neg e2]
      exact h.1 j (by omega)
/-- what a line and a search keep -/
def Sx (o n : Nat) (X : Xs) (Y : Ys) : Prop := WX o n X ∧ X.2.1 < 256 ∧ WY Y ∧ FY n X Y
theorem ask_c {n to part grp mat : Nat} {d : List Nat} {X : Xs} : (askX n X to part grp mat d).2.1 < 256 := Nat.mod_lt _ (by decide)
theorem try_c {n id : Nat} {X : Xs} : (tryX n X id).1.2.1 < 256 := by
  unfold tryX
  split
  · exact ask_c
  split
  · exact ask_c
  · exact ask_c
theorem try_1 {n id : Nat} {X : Xs} : (tryX n X id).1.1 ≤ X.1 + 2 := by
  unfold tryX
  split
  · show X.1 + 1 ≤ X.1 + 2; omega
  split
  · show X.1 + 1 ≤ X.1 + 2; omega
  · show X.1 + 1 + 1 ≤ X.1 + 2; omega
theorem ids_q {n a b : Nat} {X : Xs} (k : Nat) : ids (qst n X a b) k = ids X k := ids_ask k
theorem stp_k1 {o n : Nat} {X : Xs} {Y : Ys} (h : Sx o n X Y) (hn : n ≤ 24) (hd : 0 < Y.1) : (br Y).1 = (br Y).2 → ¬ isCl (br Y).1 → (tryX n X (br Y).1).2 = 1 → ¬ has Y (br Y).1 → Y.2.2.1 < 24 := by
  intro _ h2 h3 h4
  have hb := h.2.2.1.1 (Y.1 - 1) (by omega)
  have : (br Y).1 < 2 ^ 48 := by
    have h1 : (br Y).1 ≤ (br Y).2 := hb.1
    have h2 : (br Y).2 < 2 ^ 48 - 1 := hb.2.1
    omega
  have := h.2.2.2.room h4 (try_there this h2 h3)
  omega
theorem stp_k2 {o n : Nat} {X : Xs} {Y : Ys} (h : Sx o n X Y) (hn : n ≤ 24) : ∀ v, v < 2 ^ 48 → ¬ isCl v → (tryX n (qst n X (br Y).1 (br Y).2) v).2 = 1 → ¬ has Y v → Y.2.2.1 < 24 := by
  intro v hv h2 h3 h4
  obtain ⟨k, hk, e⟩ := try_there hv h2 h3
  have := h.2.2.2.room h4 ⟨k, hk, (ids_q k).symm.trans e⟩
  omega
theorem stp_ok {o n : Nat} {X : Xs} {Y : Ys} (h : Sx o n X Y) (hd : 0 < Y.1) : Sx o n (stp n X Y).1 (stp n X Y).2 ∧ (stp n X Y).1.1 ≤ X.1 + 3 := by
  obtain ⟨h1, h2, h3, h4⟩ := h
  have hb := h3.1 (Y.1 - 1) (by omega)
  have hlt : (br Y).1 < 2 ^ 48 ∧ (br Y).2 < 2 ^ 48 := by
    have h1 : (br Y).1 ≤ (br Y).2 := hb.1
    have h2 : (br Y).2 < 2 ^ 48 - 1 := hb.2.1
    omega
  have hWq : WX o n (qst n X (br Y).1 (br Y).2) := WX.ask (grp := 16) h1 (by decide) (by simp [be_len]) ((By.be _ _).app (By.be _ _))
  have hcq : (qst n X (br Y).1 (br Y).2).2.1 < 256 := ask_c
  have hiq : ∀ k, ids (qst n X (br Y).1 (br Y).2) k = ids X k := ids_q
  have hq1 : (qst n X (br Y).1 (br Y).2).1 = X.1 + 1 := rfl
  unfold stp
  by_cases hab : (br Y).1 = (br Y).2
  · rw [if_pos hab]
    by_cases hcl : isCl (br Y).1
    · rw [if_pos hcl]
      exact ⟨⟨h1, h2, h3.tkn, h4.to (fun _ => rfl) rfl rfl⟩, by show X.1 ≤ X.1 + 3; omega⟩
    · rw [if_neg hcl]
      have t1 := try_1 (n := n) (id := (br Y).1) (X := X)
      refine ⟨⟨h1.try, try_c, ?_, ?_⟩, by show (tryX n X (br Y).1).1.1 ≤ X.1 + 3; omega⟩
      · dsimp only
        split
        · exact h3.back hd rfl rfl
        split
        · exact h3.tkn.eq kep_1 kep_21
        · exact h3.tkn
      · dsimp only
        split
        · exact h4.to ids_try rfl rfl
        split
        · rename_i hf
          have g : FY n (tryX n X (br Y).1).1 (tkn Y) := h4.to ids_try rfl rfl
          obtain ⟨k, hk, e⟩ := try_there hlt.1 hcl hf
          exact g.kep ⟨k, hk, (ids_try k).trans e⟩
        · exact h4.to ids_try rfl rfl
  · rw [if_neg hab]
    have hmid := h3.mid hd hab
    generalize qst n X (br Y).1 (br Y).2 = Q at *
    by_cases h0 : Q.2.2.2.1.length = 0
    · rw [if_pos h0]
      exact ⟨⟨hWq, hcq, h3.tkn, h4.to hiq rfl rfl⟩, by show Q.1 ≤ X.1 + 3; omega⟩
    · rw [if_neg h0]
      have no : Sx o n (Q, mid (tkn Y) (br Y).1 (br Y).2).1 (Q, mid (tkn Y) (br Y).1 (br Y).2).2 ∧ (Q, mid (tkn Y) (br Y).1 (br Y).2).1.1 ≤ X.1 + 3 := ⟨⟨hWq, hcq, hmid, h4.to hiq rfl rfl⟩, by show Q.1 ≤ X.1 + 3; omega⟩
      cases hsh : shw Q.2.2.2.1 with
      | none => exact no
      | some v =>
        dsimp only
        by_cases hw : wth (tkn Y) (br Y).1 (br Y).2 v
        · rw [if_pos hw]
          have t1 := try_1 (n := n) (id := v) (X := Q)
          have hv : v < 2 ^ 48 := by have := hw.2.1; omega
          have hi2 : ∀ k, ids (tryX n Q v).1 k = ids X k := fun k => (ids_try k).trans (hiq k)
          refine ⟨⟨hWq.try, try_c, ?_, ?_⟩, by show (tryX n Q v).1.1 ≤ X.1 + 3; omega⟩
          · dsimp only
            split
            · exact hmid
            split
            · exact h3.back hd (by rw [kep_1]; rfl) (by rw [kep_21]; rfl)
            · exact h3.back hd rfl rfl
          · dsimp only
            split
            · exact h4.to hi2 rfl rfl
            split
            · rename_i hf
              have g : FY n (tryX n Q v).1 (tkn Y) := h4.to hi2 rfl rfl
              obtain ⟨k, hk, e⟩ := try_there hv hw.2.2.1 hf
              exact (g.kep ⟨k, hk, (ids_try k).trans e⟩).to (fun _ => rfl) rfl rfl
            · exact h4.to hi2 rfl rfl
        · rw [if_neg hw]
          exact no
