/-! ===== cells are made: arrays of known classes; what a constructor needs of the tables ===== -/
def kI (G : va_G) (g : Nat → ClassId) (U : State) : Prop := va_K G vwCl (tyL g) U ∧ (∀ w ∈ nestW, va_Nw w U) ∧ va_AO "LampLine$Row" U ∧ va_AO "LampLine$Lamp" U
theorem kI.moved {G : va_G} {g : Nat → ClassId} {s U : State} (h : kI G g s) (hW : s.WarmedH U.vm) : kI G g U :=
  ⟨va_K.moved hW.alike h.1, fun w hw => nest_warm (List.all_eq_true.mp nestW_ok w hw) hW (h.2.1 w hw), va_AO.moved hW.alike h.2.2.1, va_AO.moved hW.alike h.2.2.2⟩
theorem kI.calling {G : va_G} {g : Nat → ClassId} {U : State} (h : kI G g U) (f : JFrame) (mk : MethodId) (a : Array Value) : kI G g (U.calling f mk a) :=
  ⟨va_K.moved (u := U) (U := U.calling f mk a) (Vm.Alike.refl U.vm) h.1, fun w hw => nest_same (u := U) (U := U.calling f mk a) (List.all_eq_true.mp nestW_ok w hw) rfl (h.2.1 w hw), va_AO.moved (u := U) (U := U.calling f mk a) (Vm.Alike.refl U.vm) h.2.2.1, va_AO.moved (u := U) (U := U.calling f mk a) (Vm.Alike.refl U.vm) h.2.2.2⟩
theorem kI.of {G : va_G} {g : Nat → ClassId} {a0 aM : Nat} {s : State} (h : wK G g a0 aM s) : kI G g s := ⟨h.1, h.2.2.2.1, h.2.2.2.2.2.2.2.2.2.1, h.2.2.2.2.2.2.2.2.2.2⟩
theorem ra_one {U : State} {a b : ClassId} {ty : FieldType} (h1 : va_RA U a ty) (h2 : va_RA U b ty) : a = b := by
  cases ty with
  | object C =>
    obtain ⟨-, -, -, -, -, h1⟩ := h1
    obtain ⟨-, -, -, -, -, h2⟩ := h2
    exact Option.some.inj (h1.symm.trans h2)
  | _ => exact Option.some.inj (h1.symm.trans h2)
section QN
variable {p : Program} {l : Launch} {e : Env} {R : Room} {s : State} {m : MethodId} {args : Array Value} {below : List Frame} {meth : Method} {c : Code} {H : Heap} {locs : List Loc} {cells slots : Nat} {Q : State → Prop}
variable {cc : ByteArray} {pc : Nat} {ls : Array Slot} {rest : List Value} {G : va_G} {g : Nat → ClassId} {A : Nat → Prop} {ws : va_W} {H0 : Heap}
theorem q_newa (hx : p.tables.exec = Jvm.exec) (hb : c.code = cc) {atype : ArrayType} (harr : (Cond.arrayClass (newarray.typeOf atype)).before args s = true) {ty : FieldType} (hty : newarray.typeOf atype = ty) (t0 : Nat) (ht : (tyL g)[t0]? = some (g t0, ty)) (hK : kI G g s) (hP : va_P G vwCl ws H) (hD : va_D A ws) (hS : va_S A H0 H locs) (hA : ∀ q, H0.size ≤ q → A q)
    {n : Int32} {N' : Nat} {a0 : vp_A} (ha : ∀ cA : ClassId, vp_cell cA a0 = arrV cA N' (fun _ => defaultValue ty)) (hn : ¬ n < 0) (hN : n.toNatClampNeg = N') (hbytes : N' * componentBytes ty ≤ 536870912) (hcells : cells + 1 ≤ R.cells) (hslots : slots + N' ≤ R.slots) (hdg : decode cc pc = .ok (.newarray atype, 2))
    (kk : ∀ (q : Nat) (H : Heap), va_P G vwCl (ws ++ [(q, .inl (g t0, a0))]) H → va_D A (ws ++ [(q, .inl (g t0, a0))]) → va_S A H0 H locs → W p l e R s m args below meth c H locs (cells + 1) (slots + N') Q (F0 m (pc + 2) ls (.ref q :: rest))) : W p l e R s m args below meth c H locs cells slots Q (F0 m pc ls (.int n :: rest)) :=
  va_newa hx hb harr hty hK.1 hP hD hS hA ha hn hN hbytes hcells hslots hdg (fun q cA H1 hK1 hP1 hD1 hS1 => by
    have h1 := (hK1.2 (tyL g).length (cA, ty) (by simp)).2
    have h2 := (hK.1.2 t0 _ ht).2
    have h3 := ra_one h1 h2
    subst h3
    exact kk q H1 hP1 hD1 hS1)
theorem q_newq (hx : p.tables.exec = Jvm.exec) (hb : c.code = cc) {own C : String} {index : Nat} (hown : s.vm.findClass own = some m.cls) (hclink : (Cond.classLink own index C).before args s = true) (hover : va_AO C s) (t0 : Nat) (ht : (tyL g)[t0]? = some (g t0, .object C)) (hK : kI G g s) (hP : va_P G vwCl ws H) (hD : va_D A ws) (hS : va_S A H0 H locs) (hA : ∀ q, H0.size ≤ q → A q)
    {n : Int32} {N' : Nat} (hn : ¬ n < 0) (hN : n.toNatClampNeg = N') (hbytes : N' * 4 ≤ 536870912) (hcells : cells + 1 ≤ R.cells) (hslots : slots + N' ≤ R.slots) (hdg : decode cc pc = .ok (.anewarray index, 3))
    (kk : ∀ (q : Nat) (H : Heap), va_P G vwCl (ws ++ [(q, .inl (g t0, N', .inr (.inr (.inr (.inr (fun _ => none))))))]) H → va_D A (ws ++ [(q, .inl (g t0, N', .inr (.inr (.inr (.inr (fun _ => none))))))]) → va_S A H0 H locs → W p l e R s m args below meth c H locs (cells + 1) (slots + N') Q (F0 m (pc + 3) ls (.ref q :: rest))) : W p l e R s m args below meth c H locs cells slots Q (F0 m pc ls (.int n :: rest)) :=
  va_newq hx hb hown hclink hover hK.1 hP hD hS hA hn hN hbytes hcells hslots hdg (fun q cA H1 hK1 hP1 hD1 hS1 => by
    have h1 := (hK1.2 (tyL g).length (cA, .object C) (by simp)).2
    have h2 := (hK.1.2 t0 _ ht).2
    have h3 := ra_one h1 h2
    subst h3
    exact kk q H1 hP1 hD1 hS1)
end QN
theorem cI_i (N : Nat) : ∀ cA : ClassId, vp_cell cA (N, .inl (fun _ => (0 : Int32))) = arrV cA N (fun _ => defaultValue .int) := fun _ => rfl
theorem cI_b (N : Nat) : ∀ cA : ClassId, vp_cell cA (N, .inl (fun _ => (0 : Int32))) = arrV cA N (fun _ => defaultValue .byte) := fun _ => rfl
theorem cI_z (N : Nat) : ∀ cA : ClassId, vp_cell cA (N, .inl (fun _ => (0 : Int32))) = arrV cA N (fun _ => defaultValue .boolean) := fun _ => rfl
theorem cI_j (N : Nat) : ∀ cA : ClassId, vp_cell cA (N, .inr (.inl (fun _ => (0 : Int64)))) = arrV cA N (fun _ => defaultValue .long) := fun _ => rfl
/-- a constructor's start and end: its own cell, the cells that it makes (their addresses u) -/
def iP (G : va_G) (g : Nat → ClassId) (sz : Nat) (w : va_W) (U : State) : Prop := U.heap.size = sz ∧ va_P G vwCl w U.heap ∧ kI G g U ∧ va_D (fun _ => True) w
def iB (G : va_G) (sz : Nat) (w : va_W) (w1 : (Nat → Nat) → va_W) (u : Nat → Nat) (t : State) : Prop := va_P G vwCl (w1 u) t.heap ∧ va_D (va_A w sz) (w1 u)
theorem iP_blind {G : va_G} {g : Nat → ClassId} {sz : Nat} {w : va_W} {av : List Value} : FrameBlind (va_Pc av (iP G g sz w)) := fun a U f mk q => by
  obtain ⟨q0, q1, q2, q3, q4⟩ := q
  exact ⟨q0, q1, q2, q3.calling f mk a, q4⟩
theorem iPre {G : va_G} {g : Nat → ClassId} {w : va_W} {s : State} {H : Heap} {A : Nat → Prop} {As : List Value} (hK : kI G g s) (hP : va_P G vwCl w H) (hD : va_D A w) : PreS s H (va_Pc As (iP G g H.size w)) As :=
  ⟨iP_blind, fun U hU hw => ⟨rfl, by rw [hU], by rw [hU]; exact hP, hK.moved hw, hD.weaken (fun _ _ _ _ => trivial)⟩⟩
