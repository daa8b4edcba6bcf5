/-! ===== the machine's instructions over the store ===== -/
/-- a guard -/
def gd {α : Type} (b : Bool) (k : Option α) : Option α := if b = true then k else none
theorem gd_some {α : Type} {b : Bool} {k : Option α} {x : α} (h : gd b k = some x) : b = true ∧ k = some x := by
  unfold gd at h
  by_cases hb : b = true
  · rw [if_pos hb] at h; exact ⟨hb, h⟩
  · rw [if_neg hb] at h; cases h
theorem bd_some {α β : Type} {o : Option α} {k : α → Option β} {x : β} (h : o.bind k = some x) : ∃ y, o = some y ∧ k y = some x := by
  cases o with
  | none => cases h
  | some y => exact ⟨y, rfl, h⟩
/-- an index within, a number that is a boolean -/
def ib (i : Int32) (n : Nat) : Bool := !(decide (i < 0)) && decide (i.toNatClampNeg < n)
theorem ib_in {i : Int32} {n : Nat} (h : ib i n = true) : vp_in i n := by
  simp only [ib, Bool.and_eq_true, Bool.not_eq_true', decide_eq_false_iff_not, decide_eq_true_eq] at h
  intro q
  rcases q with q | q
  · exact h.1 q
  · omega
def zb (x : Int32) : Bool := decide (x = 0) || decide (x = 1)
theorem zb_nar {x : Int32} (h : zb x = true) : narrow .boolean (.int x) = .int x := by
  simp only [zb, Bool.or_eq_true, decide_eq_true_eq] at h
  rcases h with h | h <;> subst h <;> rfl
theorem zb_fit {x : Int32} (h : zb x = true) : fits .boolean (.int x) = true := by
  simp only [zb, Bool.or_eq_true, decide_eq_true_eq] at h
  rcases h with h | h <;> subst h <;> rfl
theorem tp_lt {n k : Nat} (h : k < 54) : k < tp n := by unfold tp; omega
section WR
variable {p : Program} {l : Launch} {e : Env} {R : Room} {s : State} {m : MethodId} {args : Array Value} {below : List Frame} {meth : Method} {c : Code} {H : Heap} {locs : List Loc} {cells slots : Nat} {Q : State → Prop}
variable {cc : ByteArray} {pc : Nat} {ls : Array Slot} {rest : List Value} {G : va_G} {g : Nat → ClassId} {ad : Nat → Nat} {n a0 aM : Nat} {σ : St} {H0 : Heap}
theorem r_get (hx : p.tables.exec = Jvm.exec) (hb : c.code = cc) {own C : String} {T : u_T} {N ci index : Nat} {Ts : List Cond} (hts : ∀ w ∈ Ts, w.before args s = true) (hin : ∀ w ∈ u_ws C T N, w ∈ Ts) (hown : s.vm.findClass own = some m.cls) (hK : wK G g a0 aM s) (hW : Wd G g ad n a0 H0 σ H locs) (k : Nat) (hk : k < tp n) {fs : List Value} (hc : cE g ad n k (σ.1 k) (σ.2 k) = .inr (ci, fs)) (hcl : vwCl[ci]? = some (C, T, N)) (j : Nat) (hj : j < N) (hlink : (Cond.fieldLink own index (T j).1 (T j).2.1 (T j).2.2.1).before args s = true) {v : Value} (hv : fs[j]? = some v) (hdg : decode cc pc = .ok (.getfield index, 3))
    (kk : W p l e R s m args below meth c H locs cells slots Q (F0 m (pc + 3) ls (v :: rest))) : W p l e R s m args below meth c H locs cells slots Q (F0 m pc ls (.ref (ad k) :: rest)) :=
  va_get hx hb hts hin hown hK.1 hW.1 k (wl_at hk hc) hcl j hj hlink (fun _ h => h) hv hdg kk
theorem r_getN (hx : p.tables.exec = Jvm.exec) (hb : c.code = cc) {own C host : String} {T : u_T} {N ci index : Nat} {Ts : List Cond} (hts : ∀ w ∈ Ts, w.before args s = true) (hin : ∀ w ∈ u_ws C T N, w ∈ Ts) (hown : s.vm.findClass own = some m.cls) (hK : wK G g a0 aM s) (hW : Wd G g ad n a0 H0 σ H locs) (k : Nat) (hk : k < tp n) {fs : List Value} (hc : cE g ad n k (σ.1 k) (σ.2 k) = .inr (ci, fs)) (hcl : vwCl[ci]? = some (C, T, N)) (j : Nat) (hj : j < N) (hlink : (Cond.fieldLinkNest own index (T j).1 (T j).2.1 (T j).2.2.1 host).before args s = true) {v : Value} (hv : fs[j]? = some v) (hdg : decode cc pc = .ok (.getfield index, 3))
    (kk : W p l e R s m args below meth c H locs cells slots Q (F0 m (pc + 3) ls (v :: rest))) : W p l e R s m args below meth c H locs cells slots Q (F0 m pc ls (.ref (ad k) :: rest)) :=
  va_getN hx hb hts hin hown hK.1 hW.1 k (wl_at hk hc) hcl j hj hlink (fun _ h => h) hv hdg kk
theorem r_putI (hx : p.tables.exec = Jvm.exec) (hb : c.code = cc) {own C : String} {T : u_T} {N ci index : Nat} {Ts : List Cond} (hts : ∀ w ∈ Ts, w.before args s = true) (hin : ∀ w ∈ u_ws C T N, w ∈ Ts) (ty0 : Nat → FieldType) (hty : ∀ k, k < N → parseFieldDescriptor (T k).2.2.1 = some (ty0 k)) (hnm : ∀ a, a < N → ∀ b, b < N → a ≠ b → (T a).2.1 ≠ (T b).2.1) (hown : s.vm.findClass own = some m.cls) (hK : wK G g a0 aM s) (hW : Wd G g ad n a0 H0 σ H locs) (k : Nat) (hk : k < tp n) {fs : List Value} (hc : cE g ad n k (σ.1 k) (σ.2 k) = .inr (ci, fs)) (hcl : vwCl[ci]? = some (C, T, N)) (j : Nat) (hj : j < N) {x : Int32} (hc2 : cE g ad n k (upd (σ.1 k) j x) (σ.2 k) = .inr (ci, fs.set j (.int x))) (hlink : (Cond.fieldLink own index (T j).1 (T j).2.1 (T j).2.2.1).before args s = true) (hfin : (T j).2.2.2 = false) {ty : FieldType} (hd : parseFieldDescriptor (T j).2.2.1 = some ty) (hn : narrow ty (.int x) = .int x) (hfit : fits ty (.int x) = true) (hl : j < fs.length) (hdg : decode cc pc = .ok (.putfield index, 3))
    (kk : ∀ (H : Heap) (locs : List Loc), Wd G g ad n a0 H0 (sI σ k j x) H locs → W p l e R s m args below meth c H locs cells slots Q (F0 m (pc + 3) ls rest)) : W p l e R s m args below meth c H locs cells slots Q (F0 m pc ls (.int x :: .ref (ad k) :: rest)) :=
  va_put hx hb hts hin ty0 hty hnm hown hK.1 hW.1 hW.2.1 hW.2.2 k (wl_at hk hc) hcl j hj hlink (fun _ h => h) hfin hd hn hfit hl hdg (fun H1 locs1 h1 h2 h3 => kk H1 locs1 ⟨by rw [← wl_sI hc2]; exact h1, by rw [← wl_sI hc2]; exact h2, h3⟩)
theorem r_putIN (hx : p.tables.exec = Jvm.exec) (hb : c.code = cc) {own C host : String} {T : u_T} {N ci index : Nat} {Ts : List Cond} (hts : ∀ w ∈ Ts, w.before args s = true) (hin : ∀ w ∈ u_ws C T N, w ∈ Ts) (ty0 : Nat → FieldType) (hty : ∀ k, k < N → parseFieldDescriptor (T k).2.2.1 = some (ty0 k)) (hnm : ∀ a, a < N → ∀ b, b < N → a ≠ b → (T a).2.1 ≠ (T b).2.1) (hown : s.vm.findClass own = some m.cls) (hK : wK G g a0 aM s) (hW : Wd G g ad n a0 H0 σ H locs) (k : Nat) (hk : k < tp n) {fs : List Value} (hc : cE g ad n k (σ.1 k) (σ.2 k) = .inr (ci, fs)) (hcl : vwCl[ci]? = some (C, T, N)) (j : Nat) (hj : j < N) {x : Int32} (hc2 : cE g ad n k (upd (σ.1 k) j x) (σ.2 k) = .inr (ci, fs.set j (.int x))) (hlink : (Cond.fieldLinkNest own index (T j).1 (T j).2.1 (T j).2.2.1 host).before args s = true) (hfin : (T j).2.2.2 = false) {ty : FieldType} (hd : parseFieldDescriptor (T j).2.2.1 = some ty) (hn : narrow ty (.int x) = .int x) (hfit : fits ty (.int x) = true) (hl : j < fs.length) (hdg : decode cc pc = .ok (.putfield index, 3))
    (kk : ∀ (H : Heap) (locs : List Loc), Wd G g ad n a0 H0 (sI σ k j x) H locs → W p l e R s m args below meth c H locs cells slots Q (F0 m (pc + 3) ls rest)) : W p l e R s m args below meth c H locs cells slots Q (F0 m pc ls (.int x :: .ref (ad k) :: rest)) :=
  va_putN hx hb hts hin ty0 hty hnm hown hK.1 hW.1 hW.2.1 hW.2.2 k (wl_at hk hc) hcl j hj hlink (fun _ h => h) hfin hd hn hfit hl hdg (fun H1 locs1 h1 h2 h3 => kk H1 locs1 ⟨by rw [← wl_sI hc2]; exact h1, by rw [← wl_sI hc2]; exact h2, h3⟩)
theorem r_putJ (hx : p.tables.exec = Jvm.exec) (hb : c.code = cc) {own C : String} {T : u_T} {N ci index : Nat} {Ts : List Cond} (hts : ∀ w ∈ Ts, w.before args s = true) (hin : ∀ w ∈ u_ws C T N, w ∈ Ts) (ty0 : Nat → FieldType) (hty : ∀ k, k < N → parseFieldDescriptor (T k).2.2.1 = some (ty0 k)) (hnm : ∀ a, a < N → ∀ b, b < N → a ≠ b → (T a).2.1 ≠ (T b).2.1) (hown : s.vm.findClass own = some m.cls) (hK : wK G g a0 aM s) (hW : Wd G g ad n a0 H0 σ H locs) (k : Nat) (hk : k < tp n) {fs : List Value} (hc : cE g ad n k (σ.1 k) (σ.2 k) = .inr (ci, fs)) (hcl : vwCl[ci]? = some (C, T, N)) (j : Nat) (hj : j < N) {x : Int64} (hc2 : cE g ad n k (σ.1 k) (vp_updL (σ.2 k) j x) = .inr (ci, fs.set j (.long x))) (hlink : (Cond.fieldLink own index (T j).1 (T j).2.1 (T j).2.2.1).before args s = true) (hfin : (T j).2.2.2 = false) (hd : parseFieldDescriptor (T j).2.2.1 = some .long) (hl : j < fs.length) (hdg : decode cc pc = .ok (.putfield index, 3))
    (kk : ∀ (H : Heap) (locs : List Loc), Wd G g ad n a0 H0 (sJ σ k j x) H locs → W p l e R s m args below meth c H locs cells slots Q (F0 m (pc + 3) ls rest)) : W p l e R s m args below meth c H locs cells slots Q (F0 m pc ls (.long x :: .ref (ad k) :: rest)) :=
  va_put hx hb hts hin ty0 hty hnm hown hK.1 hW.1 hW.2.1 hW.2.2 k (wl_at hk hc) hcl j hj hlink (fun _ h => h) hfin hd rfl rfl hl hdg (fun H1 locs1 h1 h2 h3 => kk H1 locs1 ⟨by rw [← wl_sJ hc2]; exact h1, by rw [← wl_sJ hc2]; exact h2, h3⟩)
theorem r_putJN (hx : p.tables.exec = Jvm.exec) (hb : c.code = cc) {own C host : String} {T : u_T} {N ci index : Nat} {Ts : List Cond} (hts : ∀ w ∈ Ts, w.before args s = true) (hin : ∀ w ∈ u_ws C T N, w ∈ Ts) (ty0 : Nat → FieldType) (hty : ∀ k, k < N → parseFieldDescriptor (T k).2.2.1 = some (ty0 k)) (hnm : ∀ a, a < N → ∀ b, b < N → a ≠ b → (T a).2.1 ≠ (T b).2.1) (hown : s.vm.findClass own = some m.cls) (hK : wK G g a0 aM s) (hW : Wd G g ad n a0 H0 σ H locs) (k : Nat) (hk : k < tp n) {fs : List Value} (hc : cE g ad n k (σ.1 k) (σ.2 k) = .inr (ci, fs)) (hcl : vwCl[ci]? = some (C, T, N)) (j : Nat) (hj : j < N) {x : Int64} (hc2 : cE g ad n k (σ.1 k) (vp_updL (σ.2 k) j x) = .inr (ci, fs.set j (.long x))) (hlink : (Cond.fieldLinkNest own index (T j).1 (T j).2.1 (T j).2.2.1 host).before args s = true) (hfin : (T j).2.2.2 = false) (hd : parseFieldDescriptor (T j).2.2.1 = some .long) (hl : j < fs.length) (hdg : decode cc pc = .ok (.putfield index, 3))
    (kk : ∀ (H : Heap) (locs : List Loc), Wd G g ad n a0 H0 (sJ σ k j x) H locs → W p l e R s m args below meth c H locs cells slots Q (F0 m (pc + 3) ls rest)) : W p l e R s m args below meth c H locs cells slots Q (F0 m pc ls (.long x :: .ref (ad k) :: rest)) :=
  va_putN hx hb hts hin ty0 hty hnm hown hK.1 hW.1 hW.2.1 hW.2.2 k (wl_at hk hc) hcl j hj hlink (fun _ h => h) hfin hd rfl rfl hl hdg (fun H1 locs1 h1 h2 h3 => kk H1 locs1 ⟨by rw [← wl_sJ hc2]; exact h1, by rw [← wl_sJ hc2]; exact h2, h3⟩)
theorem r_iald (hx : p.tables.exec = Jvm.exec) (hb : c.code = cc) (hK : wK G g a0 aM s) (hW : Wd G g ad n a0 H0 σ H locs) (k : Nat) (hk : k < tp n) (hr : kd k = 3) {i : Int32} (hi : ib i (ln k) = true) (hdg : decode cc pc = .ok (.iaload, 1))
    (kk : W p l e R s m args below meth c H locs cells slots Q (F0 m (pc + 1) ls (.int (σ.1 k i.toNatClampNeg) :: rest))) : W p l e R s m args below meth c H locs cells slots Q (F0 m pc ls (.int i :: .ref (ad k) :: rest)) :=
  va_iald hx hb hK.1 hW.1 k 1 (wl_at hk (cE_k hr)) rfl (ib_in hi) hdg kk
theorem r_bald (hx : p.tables.exec = Jvm.exec) (hb : c.code = cc) (hK : wK G g a0 aM s) (hW : Wd G g ad n a0 H0 σ H locs) (k : Nat) (hk : k < tp n) (hr : kd k = 10) {i : Int32} (hi : ib i (ln k) = true) (hdg : decode cc pc = .ok (.baload, 1))
    (kk : W p l e R s m args below meth c H locs cells slots Q (F0 m (pc + 1) ls (.int (σ.1 k i.toNatClampNeg) :: rest))) : W p l e R s m args below meth c H locs cells slots Q (F0 m pc ls (.int i :: .ref (ad k) :: rest)) :=
  va_bald hx hb hK.1 hW.1 k 0 (wl_at hk (cE_k hr)) rfl (ib_in hi) hdg kk
theorem r_zald (hx : p.tables.exec = Jvm.exec) (hb : c.code = cc) (hK : wK G g a0 aM s) (hW : Wd G g ad n a0 H0 σ H locs) (k : Nat) (hk : k < tp n) (hr : kd k = 11) {i : Int32} (hi : ib i (ln k) = true) (hdg : decode cc pc = .ok (.baload, 1))
    (kk : W p l e R s m args below meth c H locs cells slots Q (F0 m (pc + 1) ls (.int (σ.1 k i.toNatClampNeg) :: rest))) : W p l e R s m args below meth c H locs cells slots Q (F0 m pc ls (.int i :: .ref (ad k) :: rest)) :=
  va_zald hx hb hK.1 hW.1 k 3 (wl_at hk (cE_k hr)) rfl (ib_in hi) hdg kk
theorem r_lald (hx : p.tables.exec = Jvm.exec) (hb : c.code = cc) (hK : wK G g a0 aM s) (hW : Wd G g ad n a0 H0 σ H locs) (k : Nat) (hk : k < tp n) (hr : kd k = 7) {i : Int32} (hi : ib i (ln k) = true) (hdg : decode cc pc = .ok (.laload, 1))
    (kk : W p l e R s m args below meth c H locs cells slots Q (F0 m (pc + 1) ls (.long (σ.2 k i.toNatClampNeg) :: rest))) : W p l e R s m args below meth c H locs cells slots Q (F0 m pc ls (.int i :: .ref (ad k) :: rest)) :=
  va_lald hx hb hK.1 hW.1 k 2 (wl_at hk (cE_k hr)) rfl (ib_in hi) hdg kk
theorem r_iast (hx : p.tables.exec = Jvm.exec) (hb : c.code = cc) (hK : wK G g a0 aM s) (hW : Wd G g ad n a0 H0 σ H locs) (k : Nat) (hk : k < tp n) (hr : kd k = 3) {i x : Int32} (hi : ib i (ln k) = true) (hdg : decode cc pc = .ok (.iastore, 1))
    (kk : ∀ (H : Heap) (locs : List Loc), Wd G g ad n a0 H0 (sI σ k i.toNatClampNeg x) H locs → W p l e R s m args below meth c H locs cells slots Q (F0 m (pc + 1) ls rest)) : W p l e R s m args below meth c H locs cells slots Q (F0 m pc ls (.int x :: .int i :: .ref (ad k) :: rest)) :=
  va_iast hx hb hK.1 hW.1 hW.2.1 hW.2.2 k 1 (wl_at hk (cE_k hr)) rfl (ib_in hi) hdg (fun H1 locs1 h1 h2 h3 => kk H1 locs1 ⟨by rw [← wl_sI (cE_k hr)]; exact h1, by rw [← wl_sI (cE_k hr)]; exact h2, h3⟩)
theorem r_bast (hx : p.tables.exec = Jvm.exec) (hb : c.code = cc) (hK : wK G g a0 aM s) (hW : Wd G g ad n a0 H0 σ H locs) (k : Nat) (hk : k < tp n) (hr : kd k = 10) {i x : Int32} (hi : ib i (ln k) = true) (hdg : decode cc pc = .ok (.bastore, 1))
    (kk : ∀ (H : Heap) (locs : List Loc), Wd G g ad n a0 H0 (sI σ k i.toNatClampNeg (vp_nar .byte x)) H locs → W p l e R s m args below meth c H locs cells slots Q (F0 m (pc + 1) ls rest)) : W p l e R s m args below meth c H locs cells slots Q (F0 m pc ls (.int x :: .int i :: .ref (ad k) :: rest)) :=
  va_bast hx hb hK.1 hW.1 hW.2.1 hW.2.2 k 0 (wl_at hk (cE_k hr)) rfl (ib_in hi) hdg (fun H1 locs1 h1 h2 h3 => kk H1 locs1 ⟨by rw [← wl_sI (cE_k hr)]; exact h1, by rw [← wl_sI (cE_k hr)]; exact h2, h3⟩)
theorem r_zast (hx : p.tables.exec = Jvm.exec) (hb : c.code = cc) (hK : wK G g a0 aM s) (hW : Wd G g ad n a0 H0 σ H locs) (k : Nat) (hk : k < tp n) (hr : kd k = 11) {i x : Int32} (hi : ib i (ln k) = true) (hdg : decode cc pc = .ok (.bastore, 1))
    (kk : ∀ (H : Heap) (locs : List Loc), Wd G g ad n a0 H0 (sI σ k i.toNatClampNeg (vp_nar .boolean x)) H locs → W p l e R s m args below meth c H locs cells slots Q (F0 m (pc + 1) ls rest)) : W p l e R s m args below meth c H locs cells slots Q (F0 m pc ls (.int x :: .int i :: .ref (ad k) :: rest)) :=
  va_zast hx hb hK.1 hW.1 hW.2.1 hW.2.2 k 3 (wl_at hk (cE_k hr)) rfl (ib_in hi) hdg (fun H1 locs1 h1 h2 h3 => kk H1 locs1 ⟨by rw [← wl_sI (cE_k hr)]; exact h1, by rw [← wl_sI (cE_k hr)]; exact h2, h3⟩)
theorem r_last (hx : p.tables.exec = Jvm.exec) (hb : c.code = cc) (hK : wK G g a0 aM s) (hW : Wd G g ad n a0 H0 σ H locs) (k : Nat) (hk : k < tp n) (hr : kd k = 7) {i : Int32} {x : Int64} (hi : ib i (ln k) = true) (hdg : decode cc pc = .ok (.lastore, 1))
    (kk : ∀ (H : Heap) (locs : List Loc), Wd G g ad n a0 H0 (sJ σ k i.toNatClampNeg x) H locs → W p l e R s m args below meth c H locs cells slots Q (F0 m (pc + 1) ls rest)) : W p l e R s m args below meth c H locs cells slots Q (F0 m pc ls (.long x :: .int i :: .ref (ad k) :: rest)) :=
  va_last hx hb hK.1 hW.1 hW.2.1 hW.2.2 k 2 (wl_at hk (cE_k hr)) rfl (ib_in hi) hdg (fun H1 locs1 h1 h2 h3 => kk H1 locs1 ⟨by rw [← wl_sJ (cE_k hr)]; exact h1, by rw [← wl_sJ (cE_k hr)]; exact h2, h3⟩)
theorem r_ilen (hx : p.tables.exec = Jvm.exec) (hb : c.code = cc) (hK : wK G g a0 aM s) (hW : Wd G g ad n a0 H0 σ H locs) (k : Nat) (hk : k < tp n) (hr : kd k = 3) (hdg : decode cc pc = .ok (.arraylength, 1))
    (kk : W p l e R s m args below meth c H locs cells slots Q (F0 m (pc + 1) ls (.int (Int32.ofNat (ln k)) :: rest))) : W p l e R s m args below meth c H locs cells slots Q (F0 m pc ls (.ref (ad k) :: rest)) :=
  va_alen hx hb hK.1 hW.1 k 1 (wl_at hk (cE_k hr)) rfl rfl hdg kk
/-- an element of the row of lamps -/
theorem r_lamp (hx : p.tables.exec = Jvm.exec) (hb : c.code = cc) (hK : wK G g a0 aM s) (hW : Wd G g ad n a0 H0 σ H locs) {i : Int32} (hi : ib i 24 = true) (hn : i.toNatClampNeg < n) (hdg : decode cc pc = .ok (.aaload, 1))
    (kk : W p l e R s m args below meth c H locs cells slots Q (F0 m (pc + 1) ls (.ref (ad (54 + 12 * i.toNatClampNeg)) :: rest))) : W p l e R s m args below meth c H locs cells slots Q (F0 m pc ls (.int i :: .ref (ad 25) :: rest)) := by
  refine va_aldq hx hb hK.1 hW.1 25 4 (wl_at (tp_lt (by decide)) (cE_k (k := 25) (κ := 8) rfl)) rfl (ib_in hi) hdg ?_
  rw [if_pos hn]
  exact kk
/-- an element of a lamp's row of texts -/
theorem r_later (hx : p.tables.exec = Jvm.exec) (hb : c.code = cc) (hK : wK G g a0 aM s) (hW : Wd G g ad n a0 H0 σ H locs) (k : Nat) (hk : k < tp n) (hr : kd k = 13) {i : Int32} (hi : ib i (ln k) = true) (h3 : i.toNatClampNeg < 3) (hdg : decode cc pc = .ok (.aaload, 1))
    (kk : W p l e R s m args below meth c H locs cells slots Q (F0 m (pc + 1) ls (.ref (ad (k + 2 + 2 * i.toNatClampNeg)) :: rest))) : W p l e R s m args below meth c H locs cells slots Q (F0 m pc ls (.int i :: .ref (ad k) :: rest)) := by
  refine va_aldq hx hb hK.1 hW.1 k 5 (wl_at hk (cE_k hr)) rfl (ib_in hi) hdg ?_
  rw [if_pos h3]
  exact kk
end WR
section WE
variable {p : Program} {l : Launch} {e : Env} {R : Room} {s : State} {m : MethodId} {args : Array Value} {below : List Frame} {meth : Method} {c : Code} {H : Heap} {locs : List Loc} {cells slots : Nat}
variable {cc : ByteArray} {pc : Nat} {ls : Array Slot} {G : va_G} {g : Nat → ClassId} {ad : Nat → Nat} {n a0 aM : Nat} {σ : St}
/-- a method's ends: its answer and store are those that its function has -/
def qI (G : va_G) (g : Nat → ClassId) (ad : Nat → Nat) (n : Nat) (a0 : Nat) (x : St × Int32) : Array Value → State → Outcome → State → Prop := va_Qi (fun r u => (u, r) = x) (wB G g ad n a0) (fun q : Nat => a0 ≤ q)
def qJ (G : va_G) (g : Nat → ClassId) (ad : Nat → Nat) (n : Nat) (a0 : Nat) (x : St × Int64) : Array Value → State → Outcome → State → Prop := va_Ql (fun r u => (u, r) = x) (wB G g ad n a0) (fun q : Nat => a0 ≤ q)
def qV (G : va_G) (g : Nat → ClassId) (ad : Nat → Nat) (n : Nat) (a0 : Nat) (x : St) : Array Value → State → Outcome → State → Prop := va_Qv (fun u => u = x) (wB G g ad n a0) (fun q : Nat => a0 ≤ q)
theorem r_iret (hx : p.tables.exec = Jvm.exec) (hb : c.code = cc) (hr : meth.sig.returnType = some .int) (hlocks : meth.locks = false) (hW : Wd G g ad n a0 s.heap σ H locs) {v : Int32} {x : St × Int32} (hF : some (σ, v) = some x) (hdg : decode cc pc = .ok (.ireturn, 1)) : W p l e R s m args below meth c H locs cells slots (MQ below (qI G g ad n a0 x) args s cells slots (fun q : Nat => a0 ≤ q)) (F0 m pc ls [.int v]) :=
  W.iret hx hb hr (fun t ht _ => ⟨⟨v, σ, rfl, Option.some.inj hF, by rw [ht]; exact hW.1, hW.2.1⟩, hW.2.2.F ht⟩) hW.2.2.2.2 hdg hlocks
theorem r_zret (hx : p.tables.exec = Jvm.exec) (hb : c.code = cc) (hr : meth.sig.returnType = some .boolean) (hlocks : meth.locks = false) (hW : Wd G g ad n a0 s.heap σ H locs) {v : Int32} (hz : zb v = true) {x : St × Int32} (hF : some (σ, v) = some x) (hdg : decode cc pc = .ok (.ireturn, 1)) : W p l e R s m args below meth c H locs cells slots (MQ below (qI G g ad n a0 x) args s cells slots (fun q : Nat => a0 ≤ q)) (F0 m pc ls [.int v]) :=
  W.zret hx hb hr (zb_nar hz) (fun t ht _ => ⟨⟨v, σ, rfl, Option.some.inj hF, by rw [ht]; exact hW.1, hW.2.1⟩, hW.2.2.F ht⟩) hW.2.2.2.2 hdg hlocks
theorem r_lret (hx : p.tables.exec = Jvm.exec) (hb : c.code = cc) (hr : meth.sig.returnType = some .long) (hlocks : meth.locks = false) (hW : Wd G g ad n a0 s.heap σ H locs) {v : Int64} {x : St × Int64} (hF : some (σ, v) = some x) (hdg : decode cc pc = .ok (.lreturn, 1)) : W p l e R s m args below meth c H locs cells slots (MQ below (qJ G g ad n a0 x) args s cells slots (fun q : Nat => a0 ≤ q)) (F0 m pc ls [.long v]) :=
  W.lret hx hb hr (fun t ht _ => ⟨⟨v, σ, rfl, Option.some.inj hF, by rw [ht]; exact hW.1, hW.2.1⟩, hW.2.2.F ht⟩) hW.2.2.2.2 hdg hlocks
theorem r_vret (hx : p.tables.exec = Jvm.exec) (hb : c.code = cc) (hr : meth.sig.returnType = none) (hlocks : meth.locks = false) (hW : Wd G g ad n a0 s.heap σ H locs) {x : St} (hF : some σ = some x) (hdg : decode cc pc = .ok (.return_, 1)) : W p l e R s m args below meth c H locs cells slots (MQ below (qV G g ad n a0 x) args s cells slots (fun q : Nat => a0 ≤ q)) (F0 m pc ls []) :=
  W.vret hx hb hr (fun t ht _ => ⟨⟨σ, rfl, Option.some.inj hF, by rw [ht]; exact hW.1, hW.2.1⟩, hW.2.2.F ht⟩) hW.2.2.2.2 hdg hlocks
end WE
section WC
variable {p : Program} {l : Launch} {e : Env} {R : Room} {s : State} {m : MethodId} {args : Array Value} {below : List Frame} {meth : Method} {c : Code} {H : Heap} {locs : List Loc} {cells slots : Nat} {Q : State → Prop}
variable {cc : ByteArray} {pc : Nat} {ls : Array Slot} {st0 rest : List Value} {G : va_G} {g : Nat → ClassId} {ad : Nat → Nat} {n a0 aM : Nat} {σ : St} {free : Addr → Prop} {a : Array Value}
/-- behind a call: the store is that of the callee's function -/
theorem r_bi {x : St × Int32} (hr : va_Run p l e R s m args below meth c H locs cells slots 0 0 (F0 m pc ls st0) rest (qI G g ad n a0 x a) (fun q : Nat => a0 ≤ q)) (hW : Wd G g ad n a0 s.heap σ H locs)
    (kk : ∀ (H : Heap) (locs : List Loc), Wd G g ad n a0 s.heap x.1 H locs → W p l e R s m args below meth c H locs cells slots Q (F0 m (pc + 3) ls (.int x.2 :: rest))) : W p l e R s m args below meth c H locs cells slots Q (F0 m pc ls st0) :=
  va_calli hr hW.2.2 (fun _ _ h => h) (fun _ h => h) (fun r u t H1 locs1 ht _ hp hB _ _ hS => by
    subst hp; subst ht
    exact kk t.heap locs1 ⟨hB.1, hB.2, hS⟩)
theorem r_bl {x : St × Int64} (hr : va_Run p l e R s m args below meth c H locs cells slots 0 0 (F0 m pc ls st0) rest (qJ G g ad n a0 x a) (fun q : Nat => a0 ≤ q)) (hW : Wd G g ad n a0 s.heap σ H locs)
    (kk : ∀ (H : Heap) (locs : List Loc), Wd G g ad n a0 s.heap x.1 H locs → W p l e R s m args below meth c H locs cells slots Q (F0 m (pc + 3) ls (.long x.2 :: rest))) : W p l e R s m args below meth c H locs cells slots Q (F0 m pc ls st0) :=
  va_calll hr hW.2.2 (fun _ _ h => h) (fun _ h => h) (fun r u t H1 locs1 ht _ hp hB _ _ hS => by
    subst hp; subst ht
    exact kk t.heap locs1 ⟨hB.1, hB.2, hS⟩)
theorem r_bv {x : St} (hr : va_Run p l e R s m args below meth c H locs cells slots 0 0 (F0 m pc ls st0) rest (qV G g ad n a0 x a) (fun q : Nat => a0 ≤ q)) (hW : Wd G g ad n a0 s.heap σ H locs)
    (kk : ∀ (H : Heap) (locs : List Loc), Wd G g ad n a0 s.heap x H locs → W p l e R s m args below meth c H locs cells slots Q (F0 m (pc + 3) ls rest)) : W p l e R s m args below meth c H locs cells slots Q (F0 m pc ls st0) :=
  va_callv hr hW.2.2 (fun _ _ h => h) (fun _ h => h) (fun u t H1 locs1 ht _ hp hB _ _ hS => by
    subst hp; subst ht
    exact kk t.heap locs1 ⟨hB.1, hB.2, hS⟩)
/-- ahead of a call: the callee's start -/
theorem r_pre (hK : wK G g a0 aM s) (hW : Wd G g ad n a0 s.heap σ H locs) (As : List Value) : PreS s H (va_Pc As (wP G g ad n a0 aM σ)) As :=
  ⟨wP_blind, fun U hU hw => ⟨rfl, by rw [hU]; exact hW.1, hW.2.1, hK.moved hw hW.2.2 hU⟩⟩
theorem r_preV (hK : wK G g a0 aM s) (hW : Wd G g ad n a0 s.heap σ H locs) (k : Nat) (hk : k < tp n) {ci : Nat} {fs : List Value} {q : vw_C} (hc : cE g ad n k (σ.1 k) (σ.2 k) = .inr (ci, fs)) (hcl : vwCl[ci]? = some q) (As : List Value) : PreV s H q.1 (ad k) (va_Pc (.ref (ad k) :: As) (wP G g ad n a0 aM σ)) As :=
  ⟨wP_blind, va_recv hK.1 hW.1 hcl (wl_at hk hc), fun U hU hw => ⟨rfl, by rw [hU]; exact hW.1, hW.2.1, hK.moved hw hW.2.2 hU⟩⟩
end WC
