/-! ===== methods that throw: x = (store, kind, value), kind 0 returned, 1 IllegalArgument, 2 IllegalState, 3 IndexOutOfBounds ===== -/
def exN (E : String) : Nat := if E = eIA then 1 else if E = eIS then 2 else if E = eIO then 3 else 4
theorem exN_pos (E : String) : exN E ≠ 0 := by
  unfold exN
  split
  · decide
  · split
    · decide
    · split <;> decide
theorem exN_1 {E : String} (h : exN E = 1) : E = eIA := by
  unfold exN at h
  by_cases h1 : E = eIA
  · exact h1
  · rw [if_neg h1] at h
    by_cases h2 : E = eIS
    · rw [if_pos h2] at h; exact absurd h (by decide)
    · rw [if_neg h2] at h
      by_cases h3 : E = eIO
      · rw [if_pos h3] at h; exact absurd h (by decide)
      · rw [if_neg h3] at h; exact absurd h (by decide)
theorem exN_2 {E : String} (h : exN E = 2) : E = eIS := by
  unfold exN at h
  by_cases h1 : E = eIA
  · rw [if_pos h1] at h; exact absurd h (by decide)
  · rw [if_neg h1] at h
    by_cases h2 : E = eIS
    · exact h2
    · rw [if_neg h2] at h
      by_cases h3 : E = eIO
      · rw [if_pos h3] at h; exact absurd h (by decide)
      · rw [if_neg h3] at h; exact absurd h (by decide)
theorem exN_3 {E : String} (h : exN E = 3) : E = eIO := by
  unfold exN at h
  by_cases h1 : E = eIA
  · rw [if_pos h1] at h; exact absurd h (by decide)
  · rw [if_neg h1] at h
    by_cases h2 : E = eIS
    · rw [if_pos h2] at h; exact absurd h (by decide)
    · rw [if_neg h2] at h
      by_cases h3 : E = eIO
      · exact h3
      · rw [if_neg h3] at h; exact absurd h (by decide)
def xQI (G : va_G) (g : Nat → ClassId) (ad : Nat → Nat) (n : Nat) (a0 : Nat) (x : St × Nat × Int32) : Array Value → State → Outcome → State → Prop := va_Qi (fun r u => (u, 0, r) = x) (wB G g ad n a0) (fun q : Nat => a0 ≤ q)
def xQJ (G : va_G) (g : Nat → ClassId) (ad : Nat → Nat) (n : Nat) (a0 : Nat) (x : St × Nat × Int64) : Array Value → State → Outcome → State → Prop := va_Ql (fun r u => (u, 0, r) = x) (wB G g ad n a0) (fun q : Nat => a0 ≤ q)
def xQV (G : va_G) (g : Nat → ClassId) (ad : Nat → Nat) (n : Nat) (a0 : Nat) (x : St × Nat × Int32) : Array Value → State → Outcome → State → Prop := va_Qv (fun u => (u, 0, (0 : Int32)) = x) (wB G g ad n a0) (fun q : Nat => a0 ≤ q)
def xQR (G : va_G) (g : Nat → ClassId) (ad : Nat → Nat) (n : Nat) (a0 : Nat) (x : St × Nat × Nat) : Array Value → State → Outcome → State → Prop := va_Qr (fun u => (u, 0, x.2.2) = x) (fun u a t => a = ad x.2.2 ∧ wB G g ad n a0 u t) (fun q : Nat => a0 ≤ q)
def xX (G : va_G) (g : Nat → ClassId) (ad : Nat → Nat) (n : Nat) (a0 : Nat) (σ : St) (k : Nat) : String → State → State → Prop := vx_X (fun u : St => u = σ) (fun E u t => exN E = k ∧ wB G g ad n a0 u t) (fun q : Nat => a0 ≤ q)
section XE
variable {p : Program} {l : Launch} {e : Env} {R : Room} {s : State} {m : MethodId} {args : Array Value} {below : List Frame} {meth : Method} {c : Code} {H : Heap} {locs : List Loc} {cells slots mc ms : Nat}
variable {cc : ByteArray} {pc : Nat} {ls : Array Slot} {rest : List Value} {G : va_G} {g : Nat → ClassId} {ad : Nat → Nat} {n a0 aM : Nat} {σ : St} {XC : String → State → State → Prop} {Qc : Array Value → State → Outcome → State → Prop}
theorem rx_iret (hx : p.tables.exec = Jvm.exec) (hb : c.code = cc) (hr : meth.sig.returnType = some .int) (hlocks : meth.locks = false) (hW : Wd G g ad n a0 s.heap σ H locs) {v : Int32} {x : St × Nat × Int32} (hF : some (σ, 0, v) = some x) (hdg : decode cc pc = .ok (.ireturn, 1)) (hc : cells ≤ mc) (hs : slots ≤ ms) : W p l e R s m args below meth c H locs cells slots (vx_MQ below (xQI G g ad n a0 x) XC args s mc ms (fun q : Nat => a0 ≤ q)) (F0 m pc ls [.int v]) :=
  W.widen (k := mc) (n := ms) hc hs (vx_ret (W.iret hx hb hr (fun t ht _ => ⟨⟨v, σ, rfl, Option.some.inj hF, by rw [ht]; exact hW.1, hW.2.1⟩, hW.2.2.F ht⟩) hW.2.2.2.2 hdg hlocks))
theorem rx_lret (hx : p.tables.exec = Jvm.exec) (hb : c.code = cc) (hr : meth.sig.returnType = some .long) (hlocks : meth.locks = false) (hW : Wd G g ad n a0 s.heap σ H locs) {v : Int64} {x : St × Nat × Int64} (hF : some (σ, 0, v) = some x) (hdg : decode cc pc = .ok (.lreturn, 1)) (hc : cells ≤ mc) (hs : slots ≤ ms) : W p l e R s m args below meth c H locs cells slots (vx_MQ below (xQJ G g ad n a0 x) XC args s mc ms (fun q : Nat => a0 ≤ q)) (F0 m pc ls [.long v]) :=
  W.widen (k := mc) (n := ms) hc hs (vx_ret (W.lret hx hb hr (fun t ht _ => ⟨⟨v, σ, rfl, Option.some.inj hF, by rw [ht]; exact hW.1, hW.2.1⟩, hW.2.2.F ht⟩) hW.2.2.2.2 hdg hlocks))
theorem rx_vret (hx : p.tables.exec = Jvm.exec) (hb : c.code = cc) (hr : meth.sig.returnType = none) (hlocks : meth.locks = false) (hW : Wd G g ad n a0 s.heap σ H locs) {x : St × Nat × Int32} (hF : some (σ, 0, (0 : Int32)) = some x) (hdg : decode cc pc = .ok (.return_, 1)) (hc : cells ≤ mc) (hs : slots ≤ ms) : W p l e R s m args below meth c H locs cells slots (vx_MQ below (xQV G g ad n a0 x) XC args s mc ms (fun q : Nat => a0 ≤ q)) (F0 m pc ls []) :=
  W.widen (k := mc) (n := ms) hc hs (vx_ret (W.vret hx hb hr (fun t ht _ => ⟨⟨σ, rfl, Option.some.inj hF, by rw [ht]; exact hW.1, hW.2.1⟩, hW.2.2.F ht⟩) hW.2.2.2.2 hdg hlocks))
theorem rx_aret (hx : p.tables.exec = Jvm.exec) (hb : c.code = cc) {C : String} (hr : meth.sig.returnType = some (.object C)) (hlocks : meth.locks = false) (hW : Wd G g ad n a0 s.heap σ H locs) {r : Nat} {x : St × Nat × Nat} (hF : some (σ, 0, r) = some x) (hdg : decode cc pc = .ok (.areturn, 1)) (hc : cells ≤ mc) (hs : slots ≤ ms) : W p l e R s m args below meth c H locs cells slots (vx_MQ below (xQR G g ad n a0 x) XC args s mc ms (fun q : Nat => a0 ≤ q)) (F0 m pc ls [.ref (ad r)]) := by
  have hF := Option.some.inj hF
  subst hF
  exact W.widen (k := mc) (n := ms) hc hs (vx_ret (W.aret hx hb hr (Or.inl ⟨_, rfl⟩) (Or.inr ⟨_, rfl⟩) (fun t ht _ => ⟨⟨σ, ad r, rfl, rfl, rfl, by rw [ht]; exact hW.1, hW.2.1⟩, hW.2.2.F ht⟩) hW.2.2.2.2 hdg hlocks))
/-- a throw: the sequence new, dup, ldc, <init>, athrow -/
theorem rx_throw (hx : p.tables.exec = Jvm.exec) (hb : c.code = cc) (hst : l.stackTraces = false) {cls text : String} {ik is ic maxL : Nat}
    (hown : s.vm.findClass RX6 = some m.cls) (hcls : Bundle.fit cls = true)
    (hk : (Cond.classLink RX6 ik cls).before args s = true) (hini : (Cond.initialized cls).before args s = true) (hK : wK G g a0 aM s) (htx : (is, text) ∈ strW) (hat : ∀ w ∈ vx_atS RX6 ic cls ["java/lang/RuntimeException", "java/lang/Exception"], w.before args s = true)
    (hgood : ∀ w ∈ Cond.classLink RX6 ik cls :: Cond.initialized cls :: vx_atS RX6 ic cls ["java/lang/RuntimeException", "java/lang/Exception"], vx_ot w = true)
    (hW : Wd G g ad n a0 s.heap σ H locs) (hml : c.maxLocals = maxL) (hsize : ls.size = maxL)
    (d0 : decode cc pc = .ok (.new ik, 3)) (d3 : decode cc (pc + 3) = .ok (.dup, 1)) (d4 : decode cc (pc + 4) = .ok (.ldc is, 2)) (d6 : decode cc (pc + 6) = .ok (.invokespecial ic, 3)) (d9 : decode cc (pc + 9) = .ok (.athrow, 1))
    (hno : ∀ x ∈ c.exceptionTable.toList, False) (hRf : 5 < R.frames) (hRl : (rest.map fun v => v.category).sum + 82 ≤ R.locals) (hRc : cells + 1 ≤ R.cells) (hRs : slots + 6 ≤ R.slots) (hc : cells + 1 ≤ mc) (hs : slots + 6 ≤ ms) (hlocks : meth.locks = false) {τ : St} {kd9 : Nat} (hF : (σ, exN cls) = (τ, kd9)) :
    W p l e R s m args below meth c H locs cells slots (vx_MQ below Qc (xX G g ad n a0 τ kd9) args s mc ms (fun q : Nat => a0 ≤ q)) (F0 m pc ls rest) := by
  cases hF
  obtain ⟨-, -, -, -, x1, x2, x3, -⟩ := hK
  obtain ⟨sa, hsa⟩ := x3 _ htx
  refine vx_throwS (names := ["java/lang/RuntimeException", "java/lang/Exception"]) hx hb hst hown hcls (by decide +kernel) hk hini hsa hat hgood x1 x2 hW.2.2 (hsize.trans hml.symm) d0 d3 d4 d6 d9 (fun x h => absurd h (hno x)) hRf (by simpa using hRl) hRc hRs hlocks ?_ hW.2.2.2.2 hc hs
  intro t _ h1 h2
  refine ⟨σ, rfl, ⟨rfl, va_P.kept hW.1 (fun k q hq => h2 _ (hW.1 k q hq).lt), hW.2.1⟩, ?_⟩
  exact ⟨Nat.le_trans hW.2.2.1 h1, fun q hq hA => by rw [h2 q (Nat.lt_of_lt_of_le hq hW.2.2.1)]; exact hW.2.2.2.1 q hq hA⟩
end XE
theorem hatA {args : Array Value} {s : State} (htA : ∀ w ∈ AL, w.before args s = true) {G : va_G} {g : Nat → ClassId} {a0 aM : Nat} (hK : wK G g a0 aM s) : ∀ w ∈ vx_atS RX6 66 eIA ["java/lang/RuntimeException", "java/lang/Exception"], w.before args s = true :=
  vx_hat (B := cstW) (fun w h => htA w (ia_vxA1 w h)) (by decide +kernel) (fun w h => cst_use h (hK.2.2.2.2.2.2.2.1 w h))
theorem hatS {args : Array Value} {s : State} (htA : ∀ w ∈ AL, w.before args s = true) {G : va_G} {g : Nat → ClassId} {a0 aM : Nat} (hK : wK G g a0 aM s) : ∀ w ∈ vx_atS RX6 95 eIS ["java/lang/RuntimeException", "java/lang/Exception"], w.before args s = true :=
  vx_hat (B := cstW) (fun w h => htA w (ia_vxA2 w h)) (by decide +kernel) (fun w h => cst_use h (hK.2.2.2.2.2.2.2.1 w h))
theorem hatO {args : Array Value} {s : State} (htA : ∀ w ∈ AL, w.before args s = true) {G : va_G} {g : Nat → ClassId} {a0 aM : Nat} (hK : wK G g a0 aM s) : ∀ w ∈ vx_atS RX6 125 eIO ["java/lang/RuntimeException", "java/lang/Exception"], w.before args s = true :=
  vx_hat (B := cstW) (fun w h => htA w (ia_vxA3 w h)) (by decide +kernel) (fun w h => cst_use h (hK.2.2.2.2.2.2.2.1 w h))
theorem hgdA : ∀ w ∈ Cond.classLink RX6 62 eIA :: Cond.initialized eIA :: vx_atS RX6 66 eIA ["java/lang/RuntimeException", "java/lang/Exception"], vx_ot w = true := by decide +kernel
theorem hgdS : ∀ w ∈ Cond.classLink RX6 91 eIS :: Cond.initialized eIS :: vx_atS RX6 95 eIS ["java/lang/RuntimeException", "java/lang/Exception"], vx_ot w = true := by decide +kernel
theorem hgdO : ∀ w ∈ Cond.classLink RX6 121 eIO :: Cond.initialized eIO :: vx_atS RX6 125 eIO ["java/lang/RuntimeException", "java/lang/Exception"], vx_ot w = true := by decide +kernel
section XC
variable {p : Program} {l : Launch} {e : Env} {R : Room} {s : State} {m : MethodId} {args : Array Value} {below : List Frame} {meth : Method} {c : Code} {H : Heap} {locs : List Loc} {cells slots : Nat} {Q : State → Prop}
variable {pc : Nat} {ls : Array Slot} {st0 rest : List Value} {G : va_G} {g : Nat → ClassId} {ad : Nat → Nat} {n a0 aM : Nat} {σ : St} {a : Array Value}
/-- behind a call of a method that returns a cell or throws -/
theorem rx_br {x : St × Nat × Nat} (hr : vx_Run p l e R s m args below meth c H locs cells slots 1 6 (F0 m pc ls st0) rest (xQR G g ad n a0 x a) (xX G g ad n a0 x.1 x.2.1) (fun q : Nat => a0 ≤ q)) (hW : Wd G g ad n a0 s.heap σ H locs)
    (kx : ∀ (E : String) (ce : Cell) (q9 : Addr) (H : Heap) (locs : List Loc), exN E = x.2.1 → Wd G g ad n a0 s.heap x.1 H locs → H[q9]? = some ce → ce.vm = .none → s.vm.findClass E = some ce.cls → vx_W p l e R s m args below meth c H locs (cells + 1) (slots + 6) Q (F0 m pc ls rest) q9)
    (kk : ∀ (H : Heap) (locs : List Loc), x.2.1 = 0 → Wd G g ad n a0 s.heap x.1 H locs → W p l e R s m args below meth c H locs (cells + 1) (slots + 6) Q (F0 m (pc + 3) ls (.ref (ad x.2.2) :: rest))) : W p l e R s m args below meth c H locs cells slots Q (F0 m pc ls st0) := by
  intro T hT X
  rcases hr T hT X with ⟨v, st₀, t, T', L, h0, X', hL, e1, e2, ⟨⟨u, b, hv, hp, hb, hB⟩, hF⟩, st⟩ | ⟨q, st₀, t, T', L, E, ce, h0, X', hL, e1, e2, ⟨u, hp, ⟨hE, hB⟩, hF⟩, hce, hcv, hcl, st⟩
  · cases hv
    subst hb
    obtain ⟨k1, k2, k3⟩ := vx_keep (A0 := fun q : Nat => a0 ≤ q) h0 e1 hW.2.2 (fun _ _ h => h) (fun _ h => h) hL hF
    have h1 : x.2.1 = 0 := by rw [← hp]
    have h2 : x.1 = u := by rw [← hp]
    obtain ⟨t2, a1, b1⟩ := kk T'.heap (locs ++ L) h1 ⟨by rw [h2, e1]; exact hB.1, by rw [h2]; exact hB.2, k3⟩ T' rfl X'
    exact ⟨t2, st t2 a1, b1⟩
  · obtain ⟨k1, k2, k3⟩ := vx_keep (A0 := fun q : Nat => a0 ≤ q) h0 e1 hW.2.2 (fun _ _ h => h) (fun _ h => h) hL hF
    subst hp
    obtain ⟨t2, a1, b1⟩ := kx E ce q T'.heap (locs ++ L) hE ⟨by rw [e1]; exact hB.1, hB.2, k3⟩ (by rw [e1]; exact hce) hcv hcl T' rfl X'
    exact ⟨t2, st.trans a1, b1⟩
/-- an exception goes on to the caller -/
theorem rx_out {Qc : Array Value → State → Outcome → State → Prop} {E : String} {ce : Cell} {q9 : Addr} {τ : St} {k9 : Nat} (hno : ∀ x ∈ c.exceptionTable.toList, False) (hlocks : meth.locks = false) (hE : exN E = k9) (hW : Wd G g ad n a0 s.heap τ H locs) (hcell : H[q9]? = some ce) (hv : ce.vm = .none) (hcl : s.vm.findClass E = some ce.cls) {mc ms : Nat} (hc : cells ≤ mc) (hs : slots ≤ ms) :
    vx_W p l e R s m args below meth c H locs cells slots (vx_MQ below Qc (xX G g ad n a0 τ k9) args s mc ms (fun q : Nat => a0 ≤ q)) (F0 m pc ls rest) q9 :=
  vx_out (fun x h => absurd h (hno x)) hlocks hcell hv hcl (fun t ht _ => ⟨τ, rfl, ⟨hE, by rw [ht]; exact hW.1, hW.2.1⟩, hW.2.2.F ht⟩) hW.2.2.2.2 hc hs
end XC
theorem ex_A : exN eIA = 1 := by decide +kernel
theorem ex_S : exN eIS = 2 := by decide +kernel
theorem ex_O : exN eIO = 3 := by decide +kernel
theorem rx_kF {α : Type} {cls : String} {k : Nat} {σ : St} {v : α} {x : St × Nat × α} (h : exN cls = k) (hF : some (σ, k, v) = some x) : (σ, exN cls) = (x.1, x.2.1) := by
  cases hF
  rw [h]
theorem rx_xF {α : Type} {σ : St} {k : Nat} {v : α} {x : St × Nat × α} (hF : some (σ, k, v) = some x) : σ = x.1 ∧ k = x.2.1 := by
  cases hF
  exact ⟨rfl, rfl⟩
