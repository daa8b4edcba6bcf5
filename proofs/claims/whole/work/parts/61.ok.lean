/-! ===== PURE: runs that end, frames, numbers ===== -/
def Ok {α : Type} (o : Option α) (P : α → Prop) : Prop := ∃ x, o = some x ∧ P x
theorem Ok.so {α : Type} {x : α} {P : α → Prop} (h : P x) : Ok (some x) P := ⟨x, rfl, h⟩
theorem Ok.bi {α β : Type} {o : Option α} {k : α → Option β} {Q : α → Prop} {P : β → Prop} (h : Ok o Q) (hk : ∀ y, Q y → Ok (k y) P) : Ok (o.bind k) P := by
  obtain ⟨y, rfl, hy⟩ := h
  exact hk y hy
theorem Ok.mo {α : Type} {o : Option α} {Q P : α → Prop} (h : Ok o Q) (hk : ∀ y, Q y → P y) : Ok o P := by
  obtain ⟨y, rfl, hy⟩ := h
  exact ⟨y, rfl, hk y hy⟩
theorem Ok.eq {α β : Type} {o : Option α} {x : α} {k : α → Option β} {P : β → Prop} (h : o = some x) (hk : Ok (k x) P) : Ok (o.bind k) P := by rw [h]; exact hk
theorem Ok.nm {α β : Type} {a : α} {f : α → Option β} {P : β → Prop} (h : Ok (f a) P) : Ok (nm a f) P := h
theorem Ok.gd {α : Type} {b : Bool} {k : Option α} {P : α → Prop} (hb : b = true) (h : Ok k P) : Ok (gd b k) P := by rw [gd_t hb]; exact h
theorem Ok.it {α : Type} {c : Prop} [Decidable c] {a b : Option α} {P : α → Prop} (h1 : c → Ok a P) (h2 : ¬ c → Ok b P) : Ok (if c then a else b) P := by
  by_cases h : c
  · rw [if_pos h]; exact h1 h
  · rw [if_neg h]; exact h2 h
theorem Ok.tt {α : Type} {c : Prop} [Decidable c] {a b : Option α} {P : α → Prop} (hc : c) (h : Ok a P) : Ok (if c then a else b) P := by rw [if_pos hc]; exact h
theorem Ok.ff {α : Type} {c : Prop} [Decidable c] {a b : Option α} {P : α → Prop} (hc : ¬ c) (h : Ok b P) : Ok (if c then a else b) P := by rw [if_neg hc]; exact h
/-- only the places of p differ -/
def Fr (p : Nat → Nat → Prop) (σ τ : St) : Prop := ∀ q j, ¬ p q j → τ.1 q j = σ.1 q j ∧ τ.2 q j = σ.2 q j
theorem Fr.rf {p : Nat → Nat → Prop} {σ : St} : Fr p σ σ := fun _ _ _ => ⟨rfl, rfl⟩
theorem Fr.tr {p q r : Nat → Nat → Prop} {σ τ ρ : St} (h1 : Fr p σ τ) (h2 : Fr q τ ρ) (hp : ∀ a b, p a b → r a b) (hq : ∀ a b, q a b → r a b) : Fr r σ ρ := fun a b h =>
  ⟨(h2 a b (fun h9 => h (hq a b h9))).1.trans (h1 a b (fun h9 => h (hp a b h9))).1, (h2 a b (fun h9 => h (hq a b h9))).2.trans (h1 a b (fun h9 => h (hp a b h9))).2⟩
theorem Fr.mo {p q : Nat → Nat → Prop} {σ τ : St} (h : Fr p σ τ) (hp : ∀ a b, p a b → q a b) : Fr q σ τ := fun a b h9 => h a b (fun h8 => h9 (hp a b h8))
theorem Fr.ex {L : List Nat} {σ τ : St} (h : Eqx L σ τ) : Fr (fun q _ => q ∈ L) σ τ := fun q j hq => ⟨by rw [(h q hq).1], by rw [(h q hq).2]⟩
theorem Fr.sI {p : Nat → Nat → Prop} {σ : St} {k j : Nat} {v : Int32} (h : p k j) : Fr p σ (sI σ k j v) := fun a b hn => ⟨by
  by_cases h1 : a = k
  · subst h1
    by_cases h2 : b = j
    · subst h2; exact absurd h hn
    · exact sI_nj h2
  · rw [sI_nk h1], rfl⟩
theorem Fr.sJ {p : Nat → Nat → Prop} {σ : St} {k j : Nat} {v : Int64} (h : p k j) : Fr p σ (sJ σ k j v) := fun a b hn => ⟨rfl, by
  by_cases h1 : a = k
  · subst h1
    by_cases h2 : b = j
    · subst h2; exact absurd h hn
    · exact sJ_nj h2
  · rw [sJ_nk h1]⟩
theorem Fr.i {p : Nat → Nat → Prop} {σ τ : St} (h : Fr p σ τ) {q j : Nat} (hn : ¬ p q j) : τ.1 q j = σ.1 q j := (h q j hn).1
theorem Fr.l {p : Nat → Nat → Prop} {σ τ : St} (h : Fr p σ τ) {q j : Nat} (hn : ¬ p q j) : τ.2 q j = σ.2 q j := (h q j hn).2
theorem Rw.fr {p : Nat → Nat → Prop} {σ τ : St} {r : Nat} {l : List Nat} (h : Rw σ r l) (he : Fr p σ τ) (h1 : ∀ j, ¬ p r j) (h2 : ∀ j, ¬ p (r + 1) j) : Rw τ r l := by
  refine ⟨?_, h.2.1, h.2.2.1, fun k hk => ?_⟩
  · rw [he.i (h1 1)]; exact h.1
  · rw [he.i (h2 k)]; exact h.2.2.2 k hk
theorem lit (k : Nat) : (OfNat.ofNat k : Int32) = nI (@OfNat.ofNat Nat k (instOfNatNat k)) := rfl
theorem lit6 (k : Nat) : (OfNat.ofNat k : Int64) = lN (@OfNat.ofNat Nat k (instOfNatNat k)) := rfl
theorem sI_if {σ : St} {k j a b : Nat} {v : Int32} : (sI σ k j v).1 a b = if a = k ∧ b = j then v else σ.1 a b := by
  by_cases h1 : a = k
  · subst h1
    by_cases h2 : b = j
    · subst h2; rw [sI_eq, if_pos ⟨rfl, rfl⟩]
    · rw [sI_nj h2, if_neg (fun h => h2 h.2)]
  · rw [sI_nk h1, if_neg (fun h => h1 h.1)]
theorem sJ_if {σ : St} {k j a b : Nat} {v : Int64} : (sJ σ k j v).2 a b = if a = k ∧ b = j then v else σ.2 a b := by
  by_cases h1 : a = k
  · subst h1
    by_cases h2 : b = j
    · subst h2; rw [sJ_eq, if_pos ⟨rfl, rfl⟩]
    · rw [sJ_nj h2, if_neg (fun h => h2 h.2)]
  · rw [sJ_nk h1, if_neg (fun h => h1 h.1)]
/-! comparisons of longs -/
theorem cm_0 {x y : Int64} : lg_cmp x y = 0 ↔ x = y := by
  unfold lg_cmp
  by_cases h1 : x > y
  · rw [if_pos h1]
    constructor
    · intro h; exact absurd h (by decide)
    · intro h; subst h; exact absurd h1 (by rw [gt_iff_lt, Int64.lt_iff_toInt_lt]; omega)
  · rw [if_neg h1]
    by_cases h2 : x = y
    · rw [if_pos h2]; exact ⟨fun _ => h2, fun _ => rfl⟩
    · rw [if_neg h2]; exact ⟨fun h => absurd h (by decide), fun h => absurd h h2⟩
theorem cm_lt {x y : Int64} : lg_cmp x y < 0 ↔ x < y := by
  unfold lg_cmp
  by_cases h1 : x > y
  · rw [if_pos h1]
    rw [gt_iff_lt, Int64.lt_iff_toInt_lt] at h1
    rw [Int64.lt_iff_toInt_lt]
    exact ⟨fun h => absurd h (by decide), fun h => by omega⟩
  · rw [if_neg h1]
    by_cases h2 : x = y
    · rw [if_pos h2]; subst h2; exact ⟨fun h => absurd h (by decide), fun h => by rw [Int64.lt_iff_toInt_lt] at h; omega⟩
    · rw [if_neg h2]
      rw [gt_iff_lt, Int64.lt_iff_toInt_lt] at h1
      rw [Int64.lt_iff_toInt_lt]
      exact ⟨fun _ => by
        have h3 : x.toInt ≠ y.toInt := fun e => h2 (Int64.toInt_inj.mp e)
        omega, fun _ => by decide⟩
theorem cm_le {x y : Int64} : lg_cmp x y ≤ 0 ↔ x ≤ y := by
  unfold lg_cmp
  by_cases h1 : x > y
  · rw [if_pos h1]
    rw [gt_iff_lt, Int64.lt_iff_toInt_lt] at h1
    rw [Int64.le_iff_toInt_le]
    exact ⟨fun h => absurd h (by decide), fun h => by omega⟩
  · rw [if_neg h1]
    rw [gt_iff_lt, Int64.lt_iff_toInt_lt] at h1
    rw [Int64.le_iff_toInt_le]
    refine ⟨fun _ => by omega, fun _ => ?_⟩
    by_cases h2 : x = y
    · rw [if_pos h2]; decide
    · rw [if_neg h2]; decide
theorem cm_gt {x y : Int64} : 0 < lg_cmp x y ↔ y < x := by
  unfold lg_cmp
  by_cases h1 : x > y
  · rw [if_pos h1]
    exact ⟨fun _ => h1, fun _ => by decide⟩
  · rw [if_neg h1]
    refine ⟨fun h => ?_, fun h => absurd h h1⟩
    by_cases h2 : x = y
    · rw [if_pos h2] at h; exact absurd h (by decide)
    · rw [if_neg h2] at h; exact absurd h (by decide)
theorem i64_le {x y : Int32} : x.toInt64 ≤ y.toInt64 ↔ x ≤ y := by rw [Int64.le_iff_toInt_le, Int32.le_iff_toInt_le, Int32.toInt_toInt64, Int32.toInt_toInt64]
theorem i64_lt {x y : Int32} : x.toInt64 < y.toInt64 ↔ x < y := by rw [Int64.lt_iff_toInt_lt, Int32.lt_iff_toInt_lt, Int32.toInt_toInt64, Int32.toInt_toInt64]
theorem i64_eq {x y : Int32} : x.toInt64 = y.toInt64 ↔ x = y := by rw [← Int64.toInt_inj, ← Int32.toInt_inj, Int32.toInt_toInt64, Int32.toInt_toInt64]
/-! bits -/
theorem nI_or (a b : Nat) : nI a ||| nI b = nI (a ||| b) := by
  apply Int32.toBitVec_inj.mp
  rw [Int32.toBitVec_or]
  apply BitVec.eq_of_toNat_eq
  show ((BitVec.ofNat 32 a) ||| (BitVec.ofNat 32 b)).toNat = (BitVec.ofNat 32 (a ||| b)).toNat
  rw [BitVec.toNat_or, BitVec.toNat_ofNat, BitVec.toNat_ofNat, BitVec.toNat_ofNat, Nat.or_mod_two_pow]
theorem nI_xor (a b : Nat) : nI a ^^^ nI b = nI (a ^^^ b) := by
  apply Int32.toBitVec_inj.mp
  rw [Int32.toBitVec_xor]
  apply BitVec.eq_of_toNat_eq
  show ((BitVec.ofNat 32 a) ^^^ (BitVec.ofNat 32 b)).toNat = (BitVec.ofNat 32 (a ^^^ b)).toNat
  rw [BitVec.toNat_xor, BitVec.toNat_ofNat, BitVec.toNat_ofNat, BitVec.toNat_ofNat, Nat.xor_mod_two_pow]
theorem nI_and (a b : Nat) : nI a &&& nI b = nI (a &&& b) := by
  apply Int32.toBitVec_inj.mp
  rw [Int32.toBitVec_and]
  apply BitVec.eq_of_toNat_eq
  show ((BitVec.ofNat 32 a) &&& (BitVec.ofNat 32 b)).toNat = (BitVec.ofNat 32 (a &&& b)).toNat
  rw [BitVec.toNat_and, BitVec.toNat_ofNat, BitVec.toNat_ofNat, BitVec.toNat_ofNat, Nat.and_mod_two_pow]
theorem lo8_or (x y : Int32) : lo8 (x ||| y) = lo8 x ||| lo8 y := by
  unfold lo8
  rw [Int32.toBitVec_or, BitVec.toNat_or]
  exact Nat.or_mod_two_pow (n := 8)
theorem lo8_xor (x y : Int32) : lo8 (x ^^^ y) = lo8 x ^^^ lo8 y := by
  unfold lo8
  rw [Int32.toBitVec_xor, BitVec.toNat_xor]
  exact Nat.xor_mod_two_pow (n := 8)
theorem lo8_byte (x : Int32) : lo8 (vp_nar .byte (Int8.toInt32 (Int32.toInt8 x))) = lo8 x := by
  rw [pk_vb]
  unfold lo8
  show ((x.toBitVec.signExtend 8).signExtend 32).toNat % 256 = x.toBitVec.toNat % 256
  have h : ((x.toBitVec.signExtend 8).signExtend 32).setWidth 8 = x.toBitVec.setWidth 8 := by
    apply BitVec.eq_of_getLsbD_eq
    intro i hi
    have h3 : i < 32 := by omega
    rw [BitVec.getLsbD_setWidth, BitVec.getLsbD_setWidth, BitVec.getLsbD_signExtend, BitVec.getLsbD_signExtend, if_pos hi]
    simp [hi, h3]
  have h2 := congrArg BitVec.toNat h
  rw [BitVec.toNat_setWidth, BitVec.toNat_setWidth] at h2
  exact h2
theorem vb_any (x : Int32) : vp_nar .byte x = Int8.toInt32 (Int32.toInt8 x) := by
  rfl
theorem lo8_nar (x : Int32) : lo8 (vp_nar .byte x) = lo8 x := by
  rw [vb_any, ← pk_vb, lo8_byte]
/-! longs to 2^64 (out of the kit's papers of bits) -/
theorem wb_tb (n : Nat) : (lN n).toBitVec = BitVec.ofNat 64 n := rfl
theorem wb_inj {a b : Int64} (h : a.toBitVec = b.toBitVec) : a = b := Int64.toBitVec_inj.mp h
theorem wb_tn {n : Nat} (h : n < 2 ^ 64) : (lN n).toBitVec.toNat = n := by rw [wb_tb, BitVec.toNat_ofNat, Nat.mod_eq_of_lt h]
theorem wb_of (x : Int64) : ∃ n, n < 2 ^ 64 ∧ x = lN n := ⟨x.toBitVec.toNat, x.toBitVec.isLt, wb_inj (by rw [wb_tb]; simp)⟩
theorem wb_c : ∀ k, k < 64 → ((nI k).toInt64 &&& 63) = lN k := by decide +kernel
theorem wb_cu : ∀ k, k < 64 → ((nI k).toInt64.toUInt64 &&& Int64.toUInt64 63) = UInt64.ofNat k := by decide +kernel
theorem wb_sm : ∀ k, k < 64 → (BitVec.ofNat 64 k).smod 64 = BitVec.ofNat 64 k := by decide +kernel
theorem wb_shr {n k : Nat} (hn : n < 2 ^ 64) (hk : k < 64) : ((lN n).toUInt64 >>> ((nI k).toInt64.toUInt64 &&& Int64.toUInt64 63)).toInt64 = lN (n / 2 ^ k) := by
  rw [wb_cu k hk]
  apply wb_inj
  apply BitVec.eq_of_toNat_eq
  show ((lN n).toUInt64 >>> UInt64.ofNat k).toNat = (BitVec.ofNat 64 _).toNat
  have h1 : (UInt64.ofNat k).toNat = k := by
    show (BitVec.ofNat 64 k).toNat = k
    rw [BitVec.toNat_ofNat, Nat.mod_eq_of_lt (by omega)]
  have h2 : (lN n).toUInt64.toNat = n := wb_tn hn
  rw [UInt64.toNat_shiftRight, h1, h2, Nat.mod_eq_of_lt hk, Nat.shiftRight_eq_div_pow, BitVec.toNat_ofNat, Nat.mod_eq_of_lt (Nat.lt_of_le_of_lt (Nat.div_le_self _ _) hn)]
theorem wb_shl (n : Nat) {k : Nat} (hk : k < 64) : lN n <<< ((nI k).toInt64 &&& 63) = lN (n * 2 ^ k) := by
  rw [wb_c k hk]
  apply wb_inj
  rw [Int64.toBitVec_shiftLeft, wb_tb, wb_tb, wb_tb, wb_sm k hk]
  apply BitVec.eq_of_toNat_eq
  rw [BitVec.shiftLeft_eq', BitVec.toNat_shiftLeft, BitVec.toNat_ofNat, BitVec.toNat_ofNat, BitVec.toNat_ofNat, Nat.mod_eq_of_lt (show k < 2 ^ 64 by omega), Nat.shiftLeft_eq, Nat.mul_mod, Nat.mod_mod, ← Nat.mul_mod]
theorem wb_sar {n k : Nat} (hn : n < 2 ^ 63) (hk : k < 64) : lN n >>> ((nI k).toInt64 &&& 63) = lN (n / 2 ^ k) := by
  rw [wb_c k hk]
  have hd : n / 2 ^ k ≤ n := Nat.div_le_self _ _
  apply wb_inj
  rw [Int64.toBitVec_shiftRight, wb_tb, wb_tb, wb_tb, wb_sm k hk]
  have hm : (BitVec.ofNat 64 n).msb = false := by
    rw [BitVec.msb_eq_decide, BitVec.toNat_ofNat]
    simp only [decide_eq_false_iff_not]
    omega
  apply BitVec.eq_of_toNat_eq
  rw [BitVec.sshiftRight_eq', BitVec.sshiftRight_eq_of_msb_false hm, BitVec.toNat_ushiftRight, BitVec.toNat_ofNat, BitVec.toNat_ofNat, BitVec.toNat_ofNat, Nat.mod_eq_of_lt (show k < 2 ^ 64 by omega), Nat.shiftRight_eq_div_pow, Nat.mod_eq_of_lt (by omega), Nat.mod_eq_of_lt (by omega)]
theorem wb_and {a b : Nat} (ha : a < 2 ^ 64) (hb : b < 2 ^ 64) : lN a &&& lN b = lN (a &&& b) := by
  apply wb_inj
  rw [Int64.toBitVec_and, wb_tb, wb_tb, wb_tb]
  apply BitVec.eq_of_toNat_eq
  rw [BitVec.toNat_and, BitVec.toNat_ofNat, BitVec.toNat_ofNat, BitVec.toNat_ofNat, Nat.mod_eq_of_lt ha, Nat.mod_eq_of_lt hb, Nat.mod_eq_of_lt (Nat.and_lt_two_pow _ hb)]
theorem wb_or {a b : Nat} (ha : a < 2 ^ 64) (hb : b < 2 ^ 64) : lN a ||| lN b = lN (a ||| b) := by
  apply wb_inj
  rw [Int64.toBitVec_or, wb_tb, wb_tb, wb_tb]
  apply BitVec.eq_of_toNat_eq
  rw [BitVec.toNat_or, BitVec.toNat_ofNat, BitVec.toNat_ofNat, BitVec.toNat_ofNat, Nat.mod_eq_of_lt ha, Nat.mod_eq_of_lt hb, Nat.mod_eq_of_lt (Nat.or_lt_two_pow ha hb)]
theorem wb_mask {n k : Nat} (hn : n < 2 ^ 64) (hk : k < 64) : lN n &&& lN (2 ^ k - 1) = lN (n % 2 ^ k) := by
  have h2 : 2 ^ k < 2 ^ 64 := Nat.pow_lt_pow_right (by decide) hk
  rw [wb_and hn (by omega), Nat.and_two_pow_sub_one_eq_mod]
/-- 'or' of parts that don't overlap -/
theorem wb_ors {a b k : Nat} (ha : a < 2 ^ k) (h : b * 2 ^ k + a < 2 ^ 64) : lN (b * 2 ^ k) ||| lN a = lN (b * 2 ^ k + a) := by
  have h1 : b * 2 ^ k ||| a = b * 2 ^ k + a := by rw [← Nat.shiftLeft_eq, Nat.shiftLeft_add_eq_or_of_lt ha]
  rw [wb_or (by omega) (by omega), h1]
