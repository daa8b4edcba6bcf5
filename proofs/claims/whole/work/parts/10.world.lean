/-! ===== the store: the cells of the class, of the reference and of the lamps by ROLES (fixed numbers), their ints and longs ===== -/
abbrev St : Type := (Nat → Nat → Int32) × (Nat → Nat → Int64)
/-- kinds of roles: 1 LampLine 2 Row 3 int[] 4 Packet 5 Spoils 6 Search 7 long[] 8 Lamp[] 9 LampLineModel 10 byte[] 11 boolean[] 12 Lamp 13 Row[] -/
def kd0 : List Nat := [1, 2, 3, 2, 3, 2, 3, 2, 3, 4, 2, 3, 4, 2, 3, 4, 2, 3, 5, 3, 3, 6, 7, 7, 7, 8, 7, 9,
  3, 7, 3, 3, 3, 3, 11, 11, 3, 10, 3, 3, 3, 3, 3, 3, 10, 10, 10, 10, 10, 3, 3, 7, 7, 7]
def kd1 : List Nat := [12, 3, 2, 3, 13, 11, 2, 3, 2, 3, 2, 3]
def ln0 : List Nat := [0, 0, 520, 0, 513, 0, 257, 0, 257, 0, 0, 231, 0, 0, 231, 0, 0, 231, 0, 16, 16, 0, 64, 64, 24, 24, 1, 0,
  24, 24, 24, 24, 24, 24, 24, 24, 24, 768, 24, 12288, 24, 24, 96, 96, 3072, 520, 513, 300, 300, 16, 16, 128, 128, 24]
def ln1 : List Nat := [0, 512, 0, 32, 3, 3, 0, 32, 0, 32, 0, 32]
def kd (k : Nat) : Nat := if k < 54 then kd0.getD k 0 else kd1.getD ((k - 54) % 12) 0
def ln (k : Nat) : Nat := if k < 54 then ln0.getD k 0 else ln1.getD ((k - 54) % 12) 0
/-- the cell of role k, by its kind, its ints i, its longs j; g: the array classes (0 byte 1 int 2 long 3 boolean 4 Lamp 5 Row), ad: the addresses, n: how many lamps -/
def cK (g : Nat → ClassId) (ad : Nat → Nat) (n : Nat) (k : Nat) (i : Nat → Int32) (j : Nat → Int64) (κ : Nat) : va_E := match κ with
  | 1 => .inr (5, [.ref (ad 1), .ref (ad 3), .ref (ad 5), .ref (ad 7), .ref (ad 9), .ref (ad 12), .ref (ad 15), .ref (ad 18), .ref (ad 21), .ref (ad 25), .int (i 10), .int (i 11), .int (i 12)])
  | 2 => .inr (2, [.ref (ad (k + 1)), .int (i 1)])
  | 3 => .inl (g 1, ln k, .inl i)
  | 4 => .inr (1, [.long (j 0), .long (j 1), .int (i 2), .int (i 3), .int (i 4), .int (i 5), .int (i 6), .int (i 7), .ref (ad (k + 1))])
  | 5 => .inr (4, [.ref (ad 19), .ref (ad 20), .int (i 2)])
  | 6 => .inr (3, [.ref (ad 22), .ref (ad 23), .ref (ad 24), .int (i 3), .int (i 4), .int (i 5), .int (i 6)])
  | 7 => .inl (g 2, ln k, .inr (.inl j))
  | 8 => .inl (g 4, ln k, .inr (.inr (.inr (.inr (fun q => if q < n then some (ad (54 + 12 * q)) else none)))))
  | 9 => .inr (6, [.int (i 0), .int (i 1), .ref (ad 28), .ref (ad 29), .ref (ad 30), .ref (ad 31), .ref (ad 32), .ref (ad 33), .ref (ad 34), .ref (ad 35), .ref (ad 36), .ref (ad 37), .ref (ad 38), .ref (ad 39), .ref (ad 40), .ref (ad 41), .ref (ad 42), .ref (ad 43), .ref (ad 44), .ref (ad 45), .int (i 20), .int (i 21), .ref (ad 46), .int (i 23), .ref (ad 47), .int (i 25), .ref (ad 48), .int (i 27), .int (i 28), .ref (ad 49), .ref (ad 50), .int (i 31), .int (i 32), .int (i 33), .int (i 34), .ref (ad 51), .ref (ad 52), .int (i 37), .ref (ad 53)])
  | 10 => .inl (g 0, ln k, .inl i)
  | 11 => .inl (g 3, ln k, .inl i)
  | 12 => .inr (0, [.long (j 0), .int (i 1), .int (i 2), .ref (ad (k + 1)), .ref (ad (k + 2)), .ref (ad (k + 4)), .ref (ad (k + 5)), .int (i 7), .int (i 8), .int (i 9), .int (i 10), .int (i 11), .int (i 12), .int (i 13), .int (i 14)])
  | _ => .inl (g 5, ln k, .inr (.inr (.inr (.inr (fun q => if q < 3 then some (ad (k + 2 + 2 * q)) else none)))))
def cE (g : Nat → ClassId) (ad : Nat → Nat) (n : Nat) (k : Nat) (i : Nat → Int32) (j : Nat → Int64) : va_E := cK g ad n k i j (kd k)
theorem cE_k {g : Nat → ClassId} {ad : Nat → Nat} {n k κ : Nat} {i : Nat → Int32} {j : Nat → Int64} (h : kd k = κ) : cE g ad n k i j = cK g ad n k i j κ := by unfold cE; rw [h]
def tp (n : Nat) : Nat := 54 + 12 * n
def wl (g : Nat → ClassId) (ad : Nat → Nat) (n : Nat) (σ : St) : va_W := (List.range (tp n)).map (fun k => (ad k, cE g ad n k (σ.1 k) (σ.2 k)))
theorem wl_at {g : Nat → ClassId} {ad : Nat → Nat} {n : Nat} {σ : St} {k : Nat} {e : va_E} (hk : k < tp n) (hc : cE g ad n k (σ.1 k) (σ.2 k) = e) : (wl g ad n σ)[k]? = some (ad k, e) := by
  unfold wl
  rw [List.getElem?_map, List.getElem?_range hk]
  simp [hc]
theorem wl_set {g : Nat → ClassId} {ad : Nat → Nat} {n : Nat} {σ τ : St} {k : Nat} {e : va_E} (he : cE g ad n k (τ.1 k) (τ.2 k) = e) (hi : ∀ q, q ≠ k → τ.1 q = σ.1 q) (hj : ∀ q, q ≠ k → τ.2 q = σ.2 q) : (wl g ad n σ).set k (ad k, e) = wl g ad n τ := by
  apply List.ext_getElem?
  intro q
  by_cases hq : q = k
  · subst hq
    by_cases hl : q < tp n
    · rw [List.getElem?_set_self (by simpa [wl] using hl), wl_at (e := e) hl he]
    · rw [List.getElem?_eq_none (by simpa [wl] using hl), List.getElem?_eq_none (by simpa [wl] using hl)]
  · rw [List.getElem?_set_ne (fun h => hq h.symm)]
    unfold wl
    rw [List.getElem?_map, List.getElem?_map]
    by_cases hl : q < tp n
    · rw [List.getElem?_range hl]
      simp [hi q hq, hj q hq]
    · rw [List.getElem?_eq_none (by simpa using hl)]
      rfl
/-- an int, a long of a role -/
def sI (σ : St) (k j : Nat) (v : Int32) : St := (fun q => if q = k then upd (σ.1 k) j v else σ.1 q, σ.2)
def sJ (σ : St) (k j : Nat) (v : Int64) : St := (σ.1, fun q => if q = k then vp_updL (σ.2 k) j v else σ.2 q)
theorem sI_self (σ : St) (k j : Nat) (v : Int32) : (sI σ k j v).1 k = upd (σ.1 k) j v := by simp [sI]
theorem sJ_self (σ : St) (k j : Nat) (v : Int64) : (sJ σ k j v).2 k = vp_updL (σ.2 k) j v := by simp [sJ]
theorem wl_sI {g : Nat → ClassId} {ad : Nat → Nat} {n : Nat} {σ : St} {k j : Nat} {v : Int32} {e : va_E} (he : cE g ad n k (upd (σ.1 k) j v) (σ.2 k) = e) : (wl g ad n σ).set k (ad k, e) = wl g ad n (sI σ k j v) :=
  wl_set (by rw [sI_self]; exact he) (fun q h => by simp [sI, h]) (fun _ _ => rfl)
theorem wl_sJ {g : Nat → ClassId} {ad : Nat → Nat} {n : Nat} {σ : St} {k j : Nat} {v : Int64} {e : va_E} (he : cE g ad n k (σ.1 k) (vp_updL (σ.2 k) j v) = e) : (wl g ad n σ).set k (ad k, e) = wl g ad n (sJ σ k j v) :=
  wl_set (by rw [sJ_self]; exact he) (fun _ _ => rfl) (fun q h => by simp [sJ, h])
/-- the array classes as the tables have them -/
def tyL (g : Nat → ClassId) : List (ClassId × FieldType) := [(g 0, .byte), (g 1, .int), (g 2, .long), (g 3, .boolean), (g 4, .object "LampLine$Lamp"), (g 5, .object "LampLine$Row")]
/-- the list of matters, a static array that nobody writes -/
def mtT : List Int32 := [80, 96, 128, 130, 224, 240, 4096, 32]
def mtF (k : Nat) : Value := .int (mtT.getD k 0)
/-- the words on private fields and methods of nest mates -/
def nestW : List Cond := [.fieldLinkNest "LampLine" 139 "LampLine$Packet" "part" "I" "LampLine",
  .fieldLinkNest "LampLine" 142 "LampLine$Packet" "data" "LLampLine$Row;" "LampLine",
  .fieldLinkNest "LampLine" 151 "LampLine$Packet" "kind" "I" "LampLine",
  .fieldLinkNest "LampLine" 173 "LampLine$Lamp" "id" "J" "LampLine",
  .fieldLinkNest "LampLine" 189 "LampLine$Lamp" "text" "LLampLine$Row;" "LampLine",
  .fieldLinkNest "LampLine" 194 "LampLine$Lamp" "silent" "Z" "LampLine",
  .fieldLinkNest "LampLine" 210 "LampLine$Search" "depth" "I" "LampLine",
  .fieldLinkNest "LampLine" 213 "LampLine$Search" "begun" "Z" "LampLine",
  .fieldLinkNest "LampLine" 223 "LampLine$Search" "foundCount" "I" "LampLine",
  .fieldLinkNest "LampLine" 228 "LampLine$Search" "foundIds" "[J" "LampLine",
  .fieldLinkNest "LampLine" 232 "LampLine$Search" "steps" "I" "LampLine",
  .fieldLinkNest "LampLine" 257 "LampLine$Packet" "to" "J" "LampLine",
  .fieldLinkNest "LampLine" 278 "LampLine$Packet" "from" "J" "LampLine",
  .fieldLinkNest "LampLine" 281 "LampLine$Packet" "count" "I" "LampLine",
  .fieldLinkNest "LampLine" 284 "LampLine$Packet" "messages" "I" "LampLine",
  .fieldLinkNest "LampLine" 287 "LampLine$Packet" "group" "I" "LampLine",
  .fieldLinkNest "LampLine" 290 "LampLine$Packet" "matter" "I" "LampLine",
  .fieldLinkNest "LampLine$Lamp" 108 "LampLine$Packet" "group" "I" "LampLine",
  .fieldLinkNest "LampLine$Lamp" 125 "LampLine$Packet" "data" "LLampLine$Row;" "LampLine",
  .fieldLinkNest "LampLine$Lamp" 128 "LampLine$Packet" "matter" "I" "LampLine",
  .fieldLinkNest "LampLine$Lamp" 149 "LampLine$Packet" "messages" "I" "LampLine",
  .fieldLinkNest "LampLine$Lamp" 155 "LampLine$Packet" "part" "I" "LampLine",
  .fieldLinkNest "LampLine$Lamp" 187 "LampLine$Packet" "kind" "I" "LampLine",
  .methodLinkNest "LampLine" 29 ⟨"LampLine$Packet", "<init>", "()V"⟩ "LampLine",
  .methodLinkNest "LampLine" 42 ⟨"LampLine$Spoils", "<init>", "()V"⟩ "LampLine",
  .methodLinkNest "LampLine" 49 ⟨"LampLine$Search", "<init>", "()V"⟩ "LampLine",
  .methodLinkNest "LampLine$Lamp" 52 ⟨"LampLine", "makerOf", "(J)I"⟩ "LampLine",
  .methodLinkNest "LampLine$Lamp" 64 ⟨"LampLine", "flag", "(Z)I"⟩ "LampLine",
  .methodLinkNest "LampLine$Lamp" 101 ⟨"LampLine", "restOf", "(J)J"⟩ "LampLine",
  .methodLinkNest "LampLine$Lamp" 183 ⟨"LampLine", "fits", "(II)Z"⟩ "LampLine",
  .methodLinkNest "LampLine$Packet" 24 ⟨"LampLine", "restOf", "(J)J"⟩ "LampLine"]
def nestOk (w : Cond) : Bool := match w with
  | .fieldLinkNest _ _ _ _ _ _ => true
  | .methodLinkNest _ _ _ _ => true
  | _ => false
theorem nestW_ok : nestW.all nestOk = true := by decide +kernel
theorem nest_warm {w : Cond} (hw : nestOk w = true) {s U : State} (hW : s.WarmedH U.vm) (h : va_Nw w s) : va_Nw w U := by
  cases w <;> simp [nestOk] at hw
  · exact va_Nw.warmM hW h
  · exact va_Nw.warmF hW h
theorem nest_same {w : Cond} (hw : nestOk w = true) {u U : State} (hvm : u.vm = U.vm) (h : va_Nw w u) : va_Nw w U := by
  cases w <;> simp [nestOk] at hw
  · exact va_Nw.same rfl hvm h
  · exact va_Nw.same rfl hvm h
theorem nest_use {w : Cond} (hw : nestOk w = true) {A : Array Value} {U : State} (h : va_Nw w U) : w.before A U = true := by
  cases w <;> simp [nestOk] at hw
  · exact va_Nw.use rfl h
  · exact va_Nw.use rfl h
/-- what a throw needs: two statics of Throwable, the texts, casts -/
def strW : List (Nat × String) := [(64, "no ID of a lamp"), (69, "width or modes"), (75, "address"), (85, "the ID is there"), (93, "no room for a lamp more"), (103, "the tape is full"), (109, "the tape has not so many bytes"), (123, "the answer has no such byte"), (131, "no ID"), (133, "part, kind or matter"), (154, "no byte of an answer"), (167, "nothing of that kind is told"), (184, "the lamp has no such slot"), (192, "the label has no such byte"), (216, "no search"), (218, "not so many steps at once"), (226, "not so many are found"), (235, "no branch"), (244, "no such lamp")]
abbrev eIA : String := "java/lang/IllegalArgumentException"
abbrev eIS : String := "java/lang/IllegalStateException"
abbrev eIO : String := "java/lang/IndexOutOfBoundsException"
def cstW : List Cond := [.castable eIA eIA, .castable eIS eIS, .castable eIO eIO, .declares (Bundle.initS "java/lang/RuntimeException"), .declares (Bundle.initS "java/lang/Exception"), .declares (Bundle.initS Bundle.tN)]
def ncW : List (String × String) := [(eIS, eIA), (eIA, eIS)]
theorem cst_warm {w : Cond} (hw : w ∈ cstW) {s U : State} (hW : s.WarmedH U.vm) (h : va_Nw w s) : va_Nw w U := by
  simp only [cstW, List.mem_cons, List.not_mem_nil, or_false] at hw
  rcases hw with e | e | e | e | e | e <;> subst e <;> first | exact va_Nw.warmC hW h | exact va_Nw.warmD hW h
theorem cst_same {w : Cond} (hw : w ∈ cstW) {u U : State} (hvm : u.vm = U.vm) (h : va_Nw w u) : va_Nw w U := by
  simp only [cstW, List.mem_cons, List.not_mem_nil, or_false] at hw
  rcases hw with e | e | e | e | e | e <;> subst e <;> exact va_Nw.same rfl hvm h
def wX (a0 : Nat) (U : State) : Prop := vx_Zq Bundle.tN "UNASSIGNED_STACK" Bundle.steD (fun q : Nat => a0 ≤ q) U U.heap ∧ vx_Zq Bundle.tN "SUPPRESSED_SENTINEL" Bundle.listD (fun q : Nat => a0 ≤ q) U U.heap ∧ (∀ q ∈ strW, ∃ sa, vk_R RX6 q.1 q.2 sa U) ∧ (∀ w ∈ cstW, va_Nw w U) ∧ (∀ q ∈ ncW, va_Nc q.1 q.2 U) ∧ va_AO "LampLine$Row" U ∧ va_AO "LampLine$Lamp" U
theorem cst_use {w : Cond} (hw : w ∈ cstW) {A : Array Value} {U : State} (h : va_Nw w U) : w.before A U = true := by
  simp only [cstW, List.mem_cons, List.not_mem_nil, or_false] at hw
  rcases hw with e | e | e | e | e | e <;> subst e <;> exact va_Nw.use rfl h
/-- what is known of the tables and of statics: at a start, and from any state behind it -/
def wK (G : va_G) (g : Nat → ClassId) (a0 aM : Nat) (U : State) : Prop := va_K G vwCl (tyL g) U ∧ va_Z "LampLine$Lamp" "MATTERS" "[I" (.ref aM) (fun q : Nat => a0 ≤ q) U U.heap ∧ va_T .int aM 8 mtF (fun q : Nat => a0 ≤ q) U U.heap ∧ (∀ w ∈ nestW, va_Nw w U) ∧ wX a0 U
/-- the world: the store is on the heap, its cells are apart and lie from a0 on, nothing below a0 has changed since H0 -/
def Wd (G : va_G) (g : Nat → ClassId) (ad : Nat → Nat) (n : Nat) (a0 : Nat) (H0 : Heap) (σ : St) (H : Heap) (locs : List Loc) : Prop := va_P G vwCl (wl g ad n σ) H ∧ va_D (fun q : Nat => a0 ≤ q) (wl g ad n σ) ∧ va_S (fun q : Nat => a0 ≤ q) H0 H locs
/-- a contract's start and the world at its end -/
def wP (G : va_G) (g : Nat → ClassId) (ad : Nat → Nat) (n : Nat) (a0 aM : Nat) (σ : St) (U : State) : Prop := va_P G vwCl (wl g ad n σ) U.heap ∧ va_D (fun q : Nat => a0 ≤ q) (wl g ad n σ) ∧ wK G g a0 aM U
def wB (G : va_G) (g : Nat → ClassId) (ad : Nat → Nat) (n : Nat) (a0 : Nat) (u : St) (t : State) : Prop := va_P G vwCl (wl g ad n u) t.heap ∧ va_D (fun q : Nat => a0 ≤ q) (wl g ad n u)
theorem wK.moved {G : va_G} {g : Nat → ClassId} {a0 aM : Nat} {s U : State} {H : Heap} {locs : List Loc} (h : wK G g a0 aM s) (hW : s.WarmedH U.vm) (hS : va_S (fun q : Nat => a0 ≤ q) s.heap H locs) (hU : U.heap = H) : wK G g a0 aM U := by
  obtain ⟨h1, h2, h3, h4, x1, x2, x3, x4, x5, x6, x7⟩ := h
  subst hU
  have hvm := hW.alike
  exact ⟨va_K.moved hvm h1, va_Z.moved hvm (va_Z.kept h2 (fun a h1 h2 => hS.2.1 a h1 h2)), va_T.moved hvm (va_T.kept h3 (fun a h1 h2 => hS.2.1 a h1 h2)), fun w hw => nest_warm (List.all_eq_true.mp nestW_ok w hw) hW (h4 w hw), vx_Zq.moved hvm (vx_Zq.kept x1 (fun a h1 h2 => hS.2.1 a h1 h2)), vx_Zq.moved hvm (vx_Zq.kept x2 (fun a h1 h2 => hS.2.1 a h1 h2)), fun q hq => (x3 q hq).imp (fun _ h => vk_R.warm hW h), fun w hw => cst_warm hw hW (x4 w hw), fun q hq => va_Nc.moved hvm (x5 q hq), va_AO.moved hvm x6, va_AO.moved hvm x7⟩
theorem wK.nest {G : va_G} {g : Nat → ClassId} {a0 aM : Nat} {s : State} (h : wK G g a0 aM s) {w : Cond} (hw : w ∈ nestW) {A : Array Value} : w.before A s = true := nest_use (List.all_eq_true.mp nestW_ok w hw) (h.2.2.2.1 w hw)
theorem wP_blind {G : va_G} {g : Nat → ClassId} {ad : Nat → Nat} {n a0 aM : Nat} {σ : St} {av : List Value} : FrameBlind (va_Pc av (wP G g ad n a0 aM σ)) := fun a U f mk q => by
  obtain ⟨q0, q1, q2, q3, q4, q5, q6, x1, x2, x3, x4, x5, x6, x7⟩ := q
  exact ⟨q0, q1, q2, va_K.moved (u := U) (U := U.calling f mk a) (Vm.Alike.refl U.vm) q3, va_Z.moved (u := U) (U := U.calling f mk a) (Vm.Alike.refl U.vm) q4, va_T.moved (u := U) (U := U.calling f mk a) (Vm.Alike.refl U.vm) q5, fun w hw => nest_same (u := U) (U := U.calling f mk a) (List.all_eq_true.mp nestW_ok w hw) rfl (q6 w hw), vx_Zq.moved (u := U) (U := U.calling f mk a) (Vm.Alike.refl U.vm) x1, vx_Zq.moved (u := U) (U := U.calling f mk a) (Vm.Alike.refl U.vm) x2, fun q hq => (x3 q hq).imp (fun _ h => vk_R.same (u := U) (U := U.calling f mk a) rfl h), fun w hw => cst_same (u := U) (U := U.calling f mk a) hw rfl (x4 w hw), fun q hq => va_Nc.moved (u := U) (U := U.calling f mk a) (Vm.Alike.refl U.vm) (x5 q hq), va_AO.moved (u := U) (U := U.calling f mk a) (Vm.Alike.refl U.vm) x6, va_AO.moved (u := U) (U := U.calling f mk a) (Vm.Alike.refl U.vm) x7⟩
/-- what hangs on a row, a packet, a lamp -/
def isRow (r : Nat) : Prop := kd r = 2 ∧ kd (r + 1) = 3
def isPk (r : Nat) : Prop := kd r = 4 ∧ isRow (r + 1)
def isLp (r : Nat) : Prop := kd r = 12 ∧ kd (r + 1) = 3 ∧ isRow (r + 2) ∧ kd (r + 4) = 13 ∧ kd (r + 5) = 11 ∧ isRow (r + 6) ∧ isRow (r + 8) ∧ isRow (r + 10) ∧ ln (r + 1) = 512 ∧ ln (r + 2 + 1) = 32 ∧ ln (r + 4) = 3 ∧ ln (r + 5) = 3 ∧ ln (r + 6 + 1) = 32 ∧ ln (r + 8 + 1) = 32 ∧ ln (r + 10 + 1) = 32
theorem isLp_at (i : Nat) : isLp (54 + 12 * i) := by
  have h : ∀ d, d < 12 → kd (54 + 12 * i + d) = kd1.getD d 0 := fun d hd => by
    unfold kd
    rw [if_neg (by omega)]
    congr 1
    omega
  have k : ∀ d, d < 12 → ln (54 + 12 * i + d) = ln1.getD d 0 := fun d hd => by
    unfold ln
    rw [if_neg (by omega)]
    congr 1
    omega
  exact ⟨h 0 (by decide), h 1 (by decide), ⟨h 2 (by decide), h 3 (by decide)⟩, h 4 (by decide), h 5 (by decide), ⟨h 6 (by decide), h 7 (by decide)⟩, ⟨h 8 (by decide), h 9 (by decide)⟩, ⟨h 10 (by decide), h 11 (by decide)⟩, k 1 (by decide), k 3 (by decide), k 4 (by decide), k 5 (by decide), k 7 (by decide), k 9 (by decide), k 11 (by decide)⟩
