/-! ===== behind a call of a method that returns or throws; contracts of the law's helpers, which throw nothing ===== -/
/-- nothing is thrown -/
def xN (a0 : Nat) : String → State → State → Prop := vx_X (fun _ : St => False) (fun _ _ _ => True) (fun q : Nat => a0 ≤ q)
section BK
variable {p : Program} {l : Launch} {e : Env} {R : Room} {s : State} {m : MethodId} {args : Array Value} {below : List Frame} {meth : Method} {c : Code} {H : Heap} {locs : List Loc} {cells slots mc ms : Nat} {Q : State → Prop}
variable {pc : Nat} {ls : Array Slot} {st0 rest : List Value} {G : va_G} {g : Nat → ClassId} {ad : Nat → Nat} {n a0 aM : Nat} {σ : St} {a : Array Value}
theorem rx_bi {x : St × Nat × Int32} (hr : vx_Run p l e R s m args below meth c H locs cells slots mc ms (F0 m pc ls st0) rest (xQI G g ad n a0 x a) (xX G g ad n a0 x.1 x.2.1) (fun q : Nat => a0 ≤ q)) (hW : Wd G g ad n a0 s.heap σ H locs)
    (kx : ∀ (E : String) (ce : Cell) (q9 : Addr) (H : Heap) (locs : List Loc), exN E = x.2.1 → Wd G g ad n a0 s.heap x.1 H locs → H[q9]? = some ce → ce.vm = .none → s.vm.findClass E = some ce.cls → vx_W p l e R s m args below meth c H locs (cells + mc) (slots + ms) Q (F0 m pc ls rest) q9)
    (kk : ∀ (H : Heap) (locs : List Loc), x.2.1 = 0 → Wd G g ad n a0 s.heap x.1 H locs → W p l e R s m args below meth c H locs (cells + mc) (slots + ms) Q (F0 m (pc + 3) ls (.int x.2.2 :: rest))) : W p l e R s m args below meth c H locs cells slots Q (F0 m pc ls st0) :=
  vx_calli hr hW.2.2 (fun _ _ h => h) (fun _ h => h) (fun _ _ h => h) (fun E ce q9 u t H1 locs1 ht _ hp hB _ _ hS h1 h2 h3 => by
    subst hp; subst ht
    exact kx E ce q9 t.heap locs1 hB.1 ⟨hB.2.1, hB.2.2, hS⟩ h1 h2 h3) (fun r u t H1 locs1 ht _ hp hB _ _ hS => by
    subst hp; subst ht
    exact kk t.heap locs1 rfl ⟨hB.1, hB.2, hS⟩)
theorem rx_bl {x : St × Nat × Int64} (hr : vx_Run p l e R s m args below meth c H locs cells slots mc ms (F0 m pc ls st0) rest (xQJ G g ad n a0 x a) (xX G g ad n a0 x.1 x.2.1) (fun q : Nat => a0 ≤ q)) (hW : Wd G g ad n a0 s.heap σ H locs)
    (kx : ∀ (E : String) (ce : Cell) (q9 : Addr) (H : Heap) (locs : List Loc), exN E = x.2.1 → Wd G g ad n a0 s.heap x.1 H locs → H[q9]? = some ce → ce.vm = .none → s.vm.findClass E = some ce.cls → vx_W p l e R s m args below meth c H locs (cells + mc) (slots + ms) Q (F0 m pc ls rest) q9)
    (kk : ∀ (H : Heap) (locs : List Loc), x.2.1 = 0 → Wd G g ad n a0 s.heap x.1 H locs → W p l e R s m args below meth c H locs (cells + mc) (slots + ms) Q (F0 m (pc + 3) ls (.long x.2.2 :: rest))) : W p l e R s m args below meth c H locs cells slots Q (F0 m pc ls st0) :=
  vx_calll hr hW.2.2 (fun _ _ h => h) (fun _ h => h) (fun _ _ h => h) (fun E ce q9 u t H1 locs1 ht _ hp hB _ _ hS h1 h2 h3 => by
    subst hp; subst ht
    exact kx E ce q9 t.heap locs1 hB.1 ⟨hB.2.1, hB.2.2, hS⟩ h1 h2 h3) (fun r u t H1 locs1 ht _ hp hB _ _ hS => by
    subst hp; subst ht
    exact kk t.heap locs1 rfl ⟨hB.1, hB.2, hS⟩)
theorem rx_bv {x : St × Nat × Int32} (hr : vx_Run p l e R s m args below meth c H locs cells slots mc ms (F0 m pc ls st0) rest (xQV G g ad n a0 x a) (xX G g ad n a0 x.1 x.2.1) (fun q : Nat => a0 ≤ q)) (hW : Wd G g ad n a0 s.heap σ H locs)
    (kx : ∀ (E : String) (ce : Cell) (q9 : Addr) (H : Heap) (locs : List Loc), exN E = x.2.1 → Wd G g ad n a0 s.heap x.1 H locs → H[q9]? = some ce → ce.vm = .none → s.vm.findClass E = some ce.cls → vx_W p l e R s m args below meth c H locs (cells + mc) (slots + ms) Q (F0 m pc ls rest) q9)
    (kk : ∀ (H : Heap) (locs : List Loc), x.2.1 = 0 → Wd G g ad n a0 s.heap x.1 H locs → W p l e R s m args below meth c H locs (cells + mc) (slots + ms) Q (F0 m (pc + 3) ls rest)) : W p l e R s m args below meth c H locs cells slots Q (F0 m pc ls st0) :=
  vx_callv hr hW.2.2 (fun _ _ h => h) (fun _ h => h) (fun _ _ h => h) (fun E ce q9 u t H1 locs1 ht _ hp hB _ _ hS h1 h2 h3 => by
    subst hp; subst ht
    exact kx E ce q9 t.heap locs1 hB.1 ⟨hB.2.1, hB.2.2, hS⟩ h1 h2 h3) (fun u t H1 locs1 ht _ hp hB _ _ hS => by
    subst hp; subst ht
    exact kk t.heap locs1 rfl ⟨hB.1, hB.2, hS⟩)
/-- behind a call of a helper: it answers -/
theorem rh_bi {x : St × Int32} (hr : vx_Run p l e R s m args below meth c H locs cells slots mc ms (F0 m pc ls st0) rest (qI G g ad n a0 x a) (xN a0) (fun q : Nat => a0 ≤ q)) (hW : Wd G g ad n a0 s.heap σ H locs)
    (kk : ∀ (H : Heap) (locs : List Loc), Wd G g ad n a0 s.heap x.1 H locs → W p l e R s m args below meth c H locs (cells + mc) (slots + ms) Q (F0 m (pc + 3) ls (.int x.2 :: rest))) : W p l e R s m args below meth c H locs cells slots Q (F0 m pc ls st0) :=
  vx_calli hr hW.2.2 (fun _ _ h => h) (fun _ h => h) (fun _ _ h => h) (fun E ce q9 u t H1 locs1 ht _ hp hB _ _ hS h1 h2 h3 => absurd hp (fun h => h)) (fun r u t H1 locs1 ht _ hp hB _ _ hS => by
    subst hp; subst ht
    exact kk t.heap locs1 ⟨hB.1, hB.2, hS⟩)
variable {cc : ByteArray}
theorem rh_iret {XC : String → State → State → Prop} (hx : p.tables.exec = Jvm.exec) (hb : c.code = cc) (hr : meth.sig.returnType = some .int) (hlocks : meth.locks = false) (hW : Wd G g ad n a0 s.heap σ H locs) {v : Int32} {x : St × Int32} (hF : some (σ, v) = some x) (hdg : decode cc pc = .ok (.ireturn, 1)) (hc : cells ≤ mc) (hs : slots ≤ ms) : W p l e R s m args below meth c H locs cells slots (vx_MQ below (qI G g ad n a0 x) XC args s mc ms (fun q : Nat => a0 ≤ q)) (F0 m pc ls [.int v]) :=
  W.widen (k := mc) (n := ms) hc hs (vx_ret (W.iret hx hb hr (fun t ht _ => ⟨⟨v, σ, rfl, Option.some.inj hF, by rw [ht]; exact hW.1, hW.2.1⟩, hW.2.2.F ht⟩) hW.2.2.2.2 hdg hlocks))
end BK
