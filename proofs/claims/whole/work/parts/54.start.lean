/-! ===== the law's start: what is known of tables and statics; the first world ===== -/
theorem st_arr {s : State} {args : Array Value} {ty : FieldType} (hne : ∀ C, ty ≠ .object C) (h : (Cond.arrayClass ty).before args s = true) : ∃ cA, ArrOfT s cA ty ∧ va_RA s cA ty := by
  obtain ⟨cA, kA, comp, h1, h2, h3⟩ := Cond.arrayClass_spec h
  refine ⟨cA, fun N z => ⟨(fun k h => by cases h), kA, h2, comp, h3⟩, ?_⟩
  cases ty with
  | object C => exact absurd rfl (hne C)
  | _ => exact h1
theorem st_arrO {s : State} {args : Array Value} {C : String} (h : (Cond.arrayOver (.object C)).before args s = true) : ∃ cA, ArrOfT s cA (.object C) ∧ va_RA s cA (.object C) := by
  obtain ⟨comp, cA, kA, h1, -, h2, h3, h4⟩ := Cond.arrayOver_spec h
  exact ⟨cA, fun N z => ⟨(fun k h => by cases h), kA, h2, comp, h3⟩, kA, comp, h2, h3, h1, h4⟩
theorem st_K {s : State} {args : Array Value} (hts : ∀ w ∈ lw_tbl, w.before args s = true) : ∃ (G : va_G) (g : Nat → ClassId), va_K G vwCl (tyL g) s := by
  obtain ⟨c1, i1, k1⟩ := u_known (C := RX1) (T := TX1) (N := 15) (n := 15) hts ta_X1 (hts _ (ta_AL _ aw_226))
  obtain ⟨c2, i2, k2⟩ := u_known (C := RX2) (T := TX2) (N := 9) (n := 9) hts ta_X2 (hts _ (ta_AL _ aw_202))
  obtain ⟨c3, i3, k3⟩ := u_known (C := RX3) (T := TX3) (N := 2) (n := 2) hts ta_X3 (hts _ (ta_AL _ aw_33))
  obtain ⟨c4, i4, k4⟩ := u_known (C := RX4) (T := TX4) (N := 7) (n := 7) hts ta_X4 (hts _ (ta_AL _ aw_210))
  obtain ⟨c5, i5, k5⟩ := u_known (C := RX5) (T := TX5) (N := 3) (n := 3) hts ta_X5 (hts _ (ta_AL _ aw_207))
  obtain ⟨c6, i6, k6⟩ := u_known (C := RX6) (T := TX6) (N := 13) (n := 13) hts ta_X6 (hts _ (ta_AL _ aw_645))
  obtain ⟨c7, i7, k7⟩ := u_known (C := RX7) (T := TX7) (N := 39) (n := 39) hts ta_X7 (hts _ (ta_AL _ aw_647))
  obtain ⟨g0, a0⟩ := st_arr (ty := .byte) (fun C h => by cases h) (hts _ (ta_AL _ aw_361))
  obtain ⟨g1, a1⟩ := st_arr (ty := .int) (fun C h => by cases h) (hts _ (ta_AL _ aw_29))
  obtain ⟨g2, a2⟩ := st_arr (ty := .long) (fun C h => by cases h) (hts _ (ta_AL _ aw_163))
  obtain ⟨g3, a3⟩ := st_arr (ty := .boolean) (fun C h => by cases h) (hts _ (ta_AL _ aw_36))
  obtain ⟨g4, a4⟩ := st_arrO (C := "LampLine$Lamp") (hts _ (by decide +kernel))
  obtain ⟨g5, a5⟩ := st_arrO (C := "LampLine$Row") (hts _ (by decide +kernel))
  refine ⟨(fun k => [c1, c2, c3, c4, c5, c6, c7].getD k 0, fun k => [i1, i2, i3, i4, i5, i6, i7].getD k (fun _ => 0)), fun k => [g0, g1, g2, g3, g4, g5].getD k 0, ?_, ?_⟩
  · intro k q hq
    match k, hq with
    | 0, hq => cases hq; exact k1
    | 1, hq => cases hq; exact k2
    | 2, hq => cases hq; exact k3
    | 3, hq => cases hq; exact k4
    | 4, hq => cases hq; exact k5
    | 5, hq => cases hq; exact k6
    | 6, hq => cases hq; exact k7
    | k + 7, hq => simp [vwCl] at hq
  · intro k q hq
    match k, hq with
    | 0, hq => cases hq; exact a0
    | 1, hq => cases hq; exact a1
    | 2, hq => cases hq; exact a2
    | 3, hq => cases hq; exact a3
    | 4, hq => cases hq; exact a4
    | 5, hq => cases hq; exact a5
    | k + 6, hq => simp [tyL] at hq
theorem st_eq {s : State} {args : Array Value} {t : Term} {v : Int32} (h : (Cond.eq t (.int v)).before args s = true) : t.eval args s none [] s = some (.int v) := by
  obtain ⟨y, h1, h2⟩ := Cond.eq_one h
  cases h2
  exact h1
abbrev tM : Term := .static "LampLine$Lamp" "MATTERS" "[I"
theorem st_str {s : State} {args : Array Value} {k : Nat} {tx : String} (h1 : (Cond.stringRef RX6 k tx).before args s = true) (h2 : (Cond.exactly (.string RX6 k) "java/lang/String").before args s = true) : ∃ sa, vk_R RX6 k tx sa s := by
  obtain ⟨a, c, cell, kk, h3, -⟩ := Cond.exactly_spec h2
  exact ⟨a, h1, h3⟩
theorem nest_tb : ∀ w ∈ nestW, w ∈ lw_tbl := by decide +kernel
theorem cst_tb : ∀ w ∈ cstW, w ∈ lw_tbl := by decide +kernel
theorem str_tb : ∀ q ∈ strW, Cond.stringRef RX6 q.1 q.2 ∈ lw_tbl := by decide +kernel
theorem str_nw : ∀ q ∈ strW, Cond.exactly (.string RX6 q.1) "java/lang/String" ∈ flatC (Jvm.Cond.and given_1 narrow_1) := by decide +kernel
theorem nc_nw : ∀ q ∈ ncW, Cond.not (.castable q.1 q.2) ∈ flatC (Jvm.Cond.and given_1 narrow_1) := by decide +kernel
theorem mt_nw : ∀ j, j < 8 → Cond.eq (.elem tM (.int (Int32.ofNat j))) (.int (mtT.getD j 0)) ∈ flatC (Jvm.Cond.and given_1 narrow_1) := by decide +kernel
theorem cst_on {w : Cond} (hw : w ∈ cstW) : w.onTables = true := by
  simp only [cstW, List.mem_cons, List.not_mem_nil, or_false] at hw
  rcases hw with e | e | e | e | e | e <;> subst e <;> rfl
theorem nest_on {w : Cond} (hw : nestOk w = true) : w.onTables = true := by
  cases w <;> simp [nestOk] at hw <;> rfl
theorem st_wK {s : State} {args : Array Value} (hts : ∀ w ∈ lw_tbl, w.before args s = true) (hgv : (Jvm.Cond.and given_1 narrow_1).before args s = true) {G : va_G} {g : Nat → ClassId} (hK : va_K G vwCl (tyL g) s) : ∃ aM, wK G g s.heap.size aM s := by
  have hq := flat_of_before _ hgv
  have hA : ∀ a : Nat, a < s.heap.size → ¬ (fun q : Nat => s.heap.size ≤ q) a := fun a h => Nat.not_le.mpr h
  obtain ⟨t, h1, h2⟩ := va_Tof (args := args) (s := s) (tm := tM) (ty := .int) (N := 8) (f := mtF) (A := fun q : Nat => s.heap.size ≤ q) (by decide) (hq _ (by decide +kernel)) (st_eq (v := Int32.ofNat 8) (hq _ (by decide +kernel))) (fun j hj => st_eq (hq _ (mt_nw j hj))) hA
  refine ⟨t, hK, va_Zref (hts _ (by decide +kernel)) (hts _ (by decide +kernel)) h1 hA, h2, fun w hw => va_Nw.of (nest_on (List.all_eq_true.mp nestW_ok w hw)) (hts w (nest_tb w hw)), ?_, ?_, fun q hq9 => st_str (hts _ (str_tb q hq9)) (hq _ (str_nw q hq9)), fun w hw => va_Nw.of (cst_on hw) (hts w (cst_tb w hw)), fun q hq9 => va_Nc.of (hq _ (nc_nw q hq9)), hts (.arrayOver (.object "LampLine$Row")) (by decide +kernel), hts (.arrayOver (.object "LampLine$Lamp")) (by decide +kernel)⟩
  · exact vx_Zqof (hts _ (by decide +kernel)) (hts _ (by decide +kernel)) (hq _ (by decide +kernel)) hA
  · exact vx_Zqof (hts _ (by decide +kernel)) (hts _ (by decide +kernel)) (hq _ (by decide +kernel)) hA
