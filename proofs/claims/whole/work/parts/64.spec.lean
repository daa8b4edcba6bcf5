/-! ===== PURE: what the line does, in numbers and lists ===== -/
/-- a lamp: numbers (0 id, 1 width, 2 modes, 8 waiting, 9 mode, 10 address, 11 silent, 12 shows, 13 orders, 14 lit), label, levels, what comes later -/
abbrev Lp : Type := (Nat → Nat) × List Nat × (Nat → Nat) × List (Nat × List Nat)
/-- one number of a lamp is set -/
def su (L : Lp) (j v : Nat) : Lp := (fun k => if k = j then v else L.1 k, L.2)
theorem su_eq {L : Lp} {j v : Nat} : (su L j v).1 j = v := if_pos rfl
theorem su_ne {L : Lp} {j v k : Nat} (h : k ≠ j) : (su L j v).1 k = L.1 k := if_neg h
theorem su_2 {L : Lp} {j v : Nat} : (su L j v).2 = L.2 := rfl
def slab (L : Lp) (t : List Nat) : Lp := (L.1, t, L.2.2)
def slev (L : Lp) (g : Nat → Nat) : Lp := (L.1, L.2.1, g, L.2.2.2)
def slat (L : Lp) (e : List (Nat × List Nat)) : Lp := (L.1, L.2.1, L.2.2.1, e)
/-- what a lamp keeps; o: most orders; x: how far what comes later may lie ahead -/
def Wl (o now x : Nat) (L : Lp) : Prop :=
  (L.1 0 < 2 ^ 47 ∧ 2 ^ 32 ≤ L.1 0 ∧ L.1 0 % 2 ^ 32 < 2 ^ 32 - 1) ∧ (1 ≤ L.1 1 ∧ L.1 1 ≤ 64) ∧ (1 ≤ L.1 9 ∧ L.1 9 ≤ L.1 2 ∧ L.1 2 ≤ 8) ∧ (1 ≤ L.1 10 ∧ L.1 10 + L.1 1 * L.1 9 ≤ 513) ∧ L.1 11 ≤ 1 ∧ L.1 12 ≤ 1 ∧ L.1 13 ≤ o ∧ L.1 14 ≤ now ∧
  (L.2.1.length ≤ 32 ∧ By L.2.1) ∧ (∀ k, L.2.2.1 k < 256) ∧ (L.1 8 + L.2.2.2.length ≤ 4) ∧ (∀ e, e ∈ L.2.2.2 → now < e.1 ∧ e.1 ≤ now + x ∧ e.2.length ≤ 32 ∧ By e.2) ∧ L.2.2.2.Pairwise (fun a b => a.1 < b.1)
abbrev isM (m : Nat) : Prop := m = 80 ∨ m = 96 ∨ m = 128 ∨ m = 130 ∨ m = 224 ∨ m = 240 ∨ m = 4096 ∨ m = 32
/-- why a packet's form is refused -/
def formR (part m : Nat) (set : Bool) (n : Nat) : Option Nat :=
  if part ≠ 0 ∧ ¬ (set = true ∧ part = 65535) then some 9
  else if ¬ isM m then some 0
  else if set = false then (if n = (if m = 32 then 1 else 0) then none else some 1)
  else if m = 130 then (if n ≤ 32 then none else some 1)
  else if m = 224 then (if n = 1 then none else some 1)
  else if m = 240 then (if n = 2 then none else some 1)
  else if m = 4096 then (if n = 1 then none else some 1)
  else some 5
/-- bytes that a label may have -/
def okB (f : List Nat) (k : Nat) : Nat → Bool
  | 0 => true
  | m + 1 => decide (32 ≤ f.getD k 0 ∧ f.getD k 0 ≤ 126) && okB f (k + 1) m
/-- why a value is refused -/
def valR (L : Lp) (own : Bool) (f : List Nat) : Option Nat :=
  if two f 21 = 130 then (if okB f 24 (f.getD 23 0) = false then some 6 else if own = true ∧ 4 ≤ L.1 8 + L.2.2.2.length then some 7 else none)
  else if two f 21 = 224 then (if 1 ≤ f.getD 24 0 ∧ f.getD 24 0 ≤ L.1 2 ∧ L.1 10 + L.1 1 * f.getD 24 0 ≤ 513 then none else some 6)
  else if two f 21 = 240 then (if 1 ≤ two f 24 ∧ two f 24 ≤ 512 ∧ two f 24 + L.1 1 * L.1 9 ≤ 513 then none else some 6)
  else if two f 21 = 4096 then (if f.getD 24 0 ≤ 1 then none else some 6)
  else none
/-- a reply -/
def rp (f : List Nat) (L : Lp) (kind grp mat : Nat) (data : List Nat) : List Nat := pkt (six f 9) (L.1 0) (f.getD 15 0) kind (L.1 8) (two f 18) grp mat data
/-- what a SET does to a lamp -/
def obL (L : Lp) (now : Nat) (own : Bool) (f : List Nat) : Lp :=
  if two f 21 = 130 then (if own = true then slat L (L.2.2.2 ++ [(now + 3, dt f)]) else slab L (dt f))
  else if two f 21 = 224 then su L 9 (f.getD 24 0)
  else if two f 21 = 240 then su L 10 (two f 24)
  else if two f 21 = 4096 then su L 12 (if f.getD 24 0 = 1 then 1 else 0)
  else L
/-- eight digits -/
def hx (id : Nat) : Nat → List Nat
  | 0 => []
  | k + 1 => (if id / 16 ^ k % 16 < 10 then 48 + id / 16 ^ k % 16 else 55 + id / 16 ^ k % 16) :: hx id k
theorem hx_len (id k : Nat) : (hx id k).length = k := by
  induction k with
  | zero => rfl
  | succ k ih => show (hx id k).length + 1 = k + 1; rw [ih]
/-- what a GET tells -/
def telD (L : Lp) (m : Nat) : List Nat :=
  if m = 80 then [0, 80, 0, 96, 0, 128, 0, 130, 0, 224, 0, 240, 16, 0, 0, 32]
  else if m = 96 then be (L.1 0) 6 ++ (be (L.1 1 * L.1 9) 2 ++ (L.1 9 :: L.1 2 :: (be (L.1 10) 2 ++ (0 :: 0 :: be (L.1 13) 2))))
  else if m = 128 then 76 :: 65 :: 77 :: 80 :: hx (L.1 0) 8
  else if m = 130 then L.2.1
  else if m = 224 then [L.1 9, L.1 2]
  else if m = 240 then be (L.1 10) 2
  else [L.1 12]
/-- pairs of bytes that tell an ID -/
def ep (id : Nat) : Nat → List Nat
  | 0 => []
  | k + 1 => (id / 256 ^ k % 256 ||| 170) :: (id / 256 ^ k % 256 ||| 85) :: ep id k
theorem ep_len (id k : Nat) : (ep id k).length = 2 * k := by
  induction k with
  | zero => rfl
  | succ k ih => show (ep id k).length + 1 + 1 = 2 * (k + 1); rw [ih]; omega
def eh (id : Nat) : List Nat := [254, 254, 254, 254, 254, 254, 254, 170] ++ ep id 6
theorem eh_len (id : Nat) : (eh id).length = 20 := by simp [eh, ep_len]
def ech (id : Nat) : List Nat := eh id ++ [sg (eh id) 8 12 / 256 ||| 170, sg (eh id) 8 12 / 256 ||| 85, sg (eh id) 8 12 % 256 ||| 170, sg (eh id) 8 12 % 256 ||| 85]
theorem ech_len (id : Nat) : (ech id).length = 24 := by simp [ech, eh_len]
/-- what a lamp does with a SEARCH -/
def hrS (f : List Nat) (own : Bool) (L : Lp) : Lp × List Nat :=
  if two f 21 = 1 ∧ f.getD 23 0 = 12 then
    (if L.1 11 = 0 ∧ six f 24 ≤ L.1 0 ∧ L.1 0 ≤ six f 30 then (L, ech (L.1 0)) else (L, []))
  else if (two f 21 = 2 ∨ two f 21 = 3) ∧ f.getD 23 0 = 0 then
    (su L 11 (if two f 21 = 2 then 1 else 0), if own = true then rp f L 0 17 (two f 21) [0, 0] else [])
  else (L, [])
/-- what a lamp does with a GET or SET, when it has been counted -/
def hrO (f : List Nat) (now : Nat) (own : Bool) (set : Bool) (L : Lp) : Lp × List Nat :=
  match (match formR (two f 18) (two f 21) set (f.getD 23 0) with | some r => some r | none => if set = true then valR L own f else none) with
  | some r => (L, if own = true then rp f L 2 (f.getD 20 0 + 1) (two f 21) (be r 2) else [])
  | none =>
    if set = true then (obL L now own f, if own = true then (if two f 21 = 130 then rp f (obL L now own f) 1 49 130 [0, 3] else rp f (obL L now own f) 0 49 (two f 21) []) else [])
    else if two f 21 = 32 then (if L.1 8 = 0 then (L, rp f L 0 33 32 []) else (su L 8 (L.1 8 - 1), rp f (su L 8 (L.1 8 - 1)) 0 49 130 []))
    else (L, rp f L 0 33 (two f 21) (telD L (two f 21)))
/-- what a lamp does with a packet that is meant for it -/
def hr (f : List Nat) (now : Nat) (own : Bool) (L : Lp) : Lp × List Nat :=
  if f.getD 20 0 = 16 then hrS f own L
  else if f.getD 20 0 = 32 then (if own = true then hrO f now own false (su L 13 (L.1 13 + 1)) else (L, []))
  else if f.getD 20 0 = 48 then hrO f now own true (if own = true then su L 13 (L.1 13 + 1) else L)
  else (L, [])
/-- what comes due -/
def rip (now : Nat) (L : Lp) : Lp :=
  match L.2.2.2 with
  | [] => L
  | e :: r => if e.1 = now then slat (slab (su L 8 (L.1 8 + 1)) e.2) r else L
/-- levels -/
def shi (f : List Nat) (now : Nat) (L : Lp) : Lp :=
  slev (if L.1 10 < f.length then su L 14 now else L) (fun k => if k < L.1 1 * L.1 9 ∧ L.1 10 + k < f.length then f.getD (L.1 10 + k) 0 else L.2.2.1 k)
abbrev isCl (to : Nat) : Prop := to % 2 ^ 32 = 2 ^ 32 - 1
abbrev calls (to id : Nat) : Prop := isCl to ∧ (to / 2 ^ 32 = 65535 ∨ to / 2 ^ 32 = id / 2 ^ 32)
/-- a frame over one lamp -/
def ls (f : List Nat) (now : Nat) (L : Lp) : Lp × List Nat :=
  if 0 < f.length ∧ f.getD 0 0 = 0 then (shi f now (rip now L), [])
  else if pkOk f then (if six f 3 = L.1 0 then hr f now true (rip now L) else if calls (six f 3) (L.1 0) then hr f now false (rip now L) else (rip now L, []))
  else (rip now L, [])
/-- the answer of the first n lamps -/
def ans (f : List Nat) (now : Nat) (A : Nat → Lp) : Nat → List Nat
  | 0 => []
  | n + 1 => jn (ans f now A n) (ls f now (A n)).2
/-- the first c spoils -/
def flA (l : List Nat) (sp : Nat → Nat × Int32) : Nat → List Nat
  | 0 => l
  | c + 1 => fl (flA l sp c) (sp c).1 (sp c).2
/-- the line: frames, counted, lamps, answer, how many spoils, spoils -/
abbrev Xs : Type := Nat × Nat × (Nat → Lp) × List Nat × Nat × (Nat → Nat × Int32)
def lookX (n : Nat) (f : List Nat) (X : Xs) : Xs :=
  (X.1 + 1, X.2.1, fun i => if i < n then (ls f (X.1 + 1) (X.2.2.1 i)).1 else X.2.2.1 i, flA (ans f (X.1 + 1) X.2.2.1 n) X.2.2.2.2.2 (if (ans f (X.1 + 1) X.2.2.1 n).length = 0 then 0 else X.2.2.2.2.1), (if (ans f (X.1 + 1) X.2.2.1 n).length = 0 then X.2.2.2.2.1 else 0), X.2.2.2.2.2)
def SR : Nat := 140728898420737
def askX (n : Nat) (X : Xs) (to part grp mat : Nat) (data : List Nat) : Xs :=
  lookX n (pkt to SR ((X.2.1 + 1) % 256) 1 0 part grp mat data) (X.1, (X.2.1 + 1) % 256, X.2.2)
abbrev isRep (a : List Nat) (id qc : Nat) : Prop := pkOk a ∧ six a 9 = id ∧ six a 3 = SR ∧ a.getD 15 0 = qc
abbrev isFnd (X : Xs) (id : Nat) : Prop := isRep X.2.2.2.1 id X.2.1 ∧ X.2.2.2.1.getD 20 0 = 17 ∧ two X.2.2.2.1 21 = 2 ∧ X.2.2.2.1.getD 16 0 = 0
/-- an ID is tried: 0 away, 1 found, 2 doubt -/
def tryX (n : Nat) (X : Xs) (id : Nat) : Xs × Nat :=
  if (askX n X id 0 16 2 []).2.2.2.1.length = 0 then (askX n X id 0 16 2 [], 0)
  else if isFnd (askX n X id 0 16 2 []) id then (askX n X id 0 16 2 [], 1)
  else (askX n (askX n X id 0 16 2 []) id 0 16 3 [], 2)
/-- an ID that is told by pairs -/
def nn (a : Nat) (f : List Nat) (k : Nat) : Nat → Nat
  | 0 => a
  | m + 1 => nn (a * 256 + (f.getD k 0 &&& f.getD (k + 1) 0)) f (k + 2) m
def prs (f : List Nat) (k : Nat) : Nat → Bool
  | 0 => true
  | m + 1 => decide (f.getD k 0 &&& 170 = 170 ∧ f.getD (k + 1) 0 &&& 85 = 85) && prs f (k + 2) m
def hdk (f : List Nat) (k : Nat) : Nat → Bool
  | 0 => true
  | m + 1 => decide (f.getD k 0 = if k < 7 then 254 else 170) && hdk f (k + 1) m
def shw (f : List Nat) : Option Nat :=
  if f.length = 24 ∧ hdk f 0 8 = true ∧ prs f 8 8 = true ∧ sg f 8 12 = nn 0 f 20 2 then some (nn 0 f 8 6) else none
/-- the search: how deep, branches, how many found, found, steps -/
abbrev Ys : Type := Nat × (Nat → Nat × Nat) × Nat × (Nat → Nat) × Nat
def pil (Y : Ys) (a b : Nat) : Ys := (Y.1 + 1, fun j => if j = Y.1 then (a, b) else Y.2.1 j, Y.2.2)
abbrev has (Y : Ys) (id : Nat) : Prop := ∃ j, j < Y.2.2.1 ∧ Y.2.2.2.1 j = id
def kee (Y : Ys) (id : Nat) : Ys := (Y.1, Y.2.1, Y.2.2.1 + 1, (fun j => if j = Y.2.2.1 then id else Y.2.2.2.1 j), Y.2.2.2.2)
