/-! Tools for the state functions. -/
theorem okb_t {α : Type} {b : Bool} {x : Option α} (h : b = true) : okb b x = x := by unfold okb; rw [if_pos h]
theorem okc {α : Type} {w : HS} {a ci : Nat} {x : Option α} (h : hc w a = ci) : okb (hc w a == ci) x = x := okb_t (by rw [h]; exact beq_self_eq_true ci)
theorem nI_mul (a b : Nat) : nI a * nI b = nI (a * b) := (Int32.ofNat_mul a b).symm
theorem nI_inj {a b : Nat} (ha : a < 2 ^ 31) (hb : b < 2 ^ 31) (h : nI a = nI b) : a = b := (nI_eq ha hb).mp h
theorem okn {α : Type} {i n : Nat} {x : Option α} (h : i < n) (hn : n < 2 ^ 31) : okb (inb (nI i) n) x = x := okb_t (inb_nI h hn)
/-- the first of d places from i on -/
def fstI (p : Nat → Bool) : Nat → Nat → Int32
  | _, 0 => -1
  | i, d + 1 => if p i = true then nI i else fstI p (i + 1) d
theorem ixr (k r f : Nat) : ((20 : Int32) * nI k + (5 : Int32) * nI r) + nI f = nI (20 * k + 5 * r + f) := by
  rw [show (20 : Int32) = nI 20 from rfl, show (5 : Int32) = nI 5 from rfl, nI_mul, nI_mul, nI_add, nI_add]
/-- reference: a rule's place -/
def rl (w : HS) (m k r f : Nat) : Int32 := ha w m 5 (20 * k + 5 * r + f)
theorem ruleAt_eq {w : HS} {m k r f : Nat} (h : hc w m = 9) (hk : k < 9) (hr : r < 4) (hf : f < 5) : FX9_ruleAt w m (nI k) (nI r) (nI f) = some (rl w m k r f, w) := by
  unfold FX9_ruleAt
  rw [okc h, ixr, okn (by omega) (by decide), nI_clamp (by omega)]
  rfl
theorem isIn_eq (w : HS) (a b c : Int64) : FX9_isIn w a b c = some (if lg_cmp a b < 0 then 0 else if 0 < lg_cmp a c then 0 else 1, w) := by
  unfold FX9_isIn
  split
  · rfl
  · split <;> rfl
theorem bit_eq {w : HS} {m : Nat} (h : hc w m = 9) (c : Int32) : FX9_bit w m c = some ((ha w m 16 0 >>> (c &&& 31)) &&& 1, w) := by
  unfold FX9_bit
  rw [okc h]
def wthI (B c d : Int32) : Int32 := if d = 1 then B ||| ((1 : Int32) <<< (c &&& 31)) else B &&& (((1 : Int32) <<< (c &&& 31)) ^^^ (-1 : Int32))
theorem with_eq (w : HS) (B c d : Int32) : FX9_with w B c d = some (wthI B c d, w) := by
  unfold FX9_with wthI
  split <;> rfl
theorem sets_eq {w : HS} {m : Nat} (h : hc w m = 9) (c d : Int32) : FX9_sets w m c d = some ((), setA w m 16 0 (wthI (ha w m 16 0) c d)) := by
  unfold FX9_sets
  rw [okc h, with_eq]
  rfl
theorem toldBy_eq {w : HS} {m k r f : Nat} (h : hc w m = 9) (hk : k < 9) (hr : r < 4) (hf : f < 5) (hn : ha w m 16 1 = nI k) : FX9_toldBy w m (nI r) (nI f) = some (rl w m k r f, w) := by
  unfold FX9_toldBy
  rw [okc h, hn, ruleAt_eq h hk hr hf]
  rfl
def rlP (w : HS) (m k : Nat) (l of by_ : Int32) (r : Nat) : Bool := decide (rl w m k r 0 = l ∧ (of < 0 ∨ rl w m k r 1 = of) ∧ (by_ < 0 ∨ rl w m k r 2 = by_))
theorem ruleOf_loop {w : HS} {m k N : Nat} (h : hc w m = 9) (hk : k < 9) (hN : ha w m 6 k = nI N) (hN4 : N ≤ 4) (l of by_ : Int32) : ∀ d i n, i + d = N → d < n → FX9_ruleOf_11 n w m l of by_ (nI k) (nI i) = some (fstI (rlP w m k l of by_) i d, w) := by
  intro d
  induction d with
  | zero =>
    intro i n e hn
    obtain ⟨n, rfl⟩ : ∃ q, n = q + 1 := ⟨n - 1, by omega⟩
    rw [FX9_ruleOf_11, if_neg (nI_pos (by omega)), okn hk (by decide), nI_clamp (by omega), hN, if_pos (nI_le (by omega) (by omega))]
    rfl
  | succ d ih =>
    intro i n e hn
    obtain ⟨n, rfl⟩ : ∃ q, n = q + 1 := ⟨n - 1, by omega⟩
    have step := ih (i + 1) n (by omega) (by omega)
    have r0 := ruleAt_eq (r := i) (f := 0) h hk (by omega) (by omega)
    have r1 := ruleAt_eq (r := i) (f := 1) h hk (by omega) (by omega)
    have r2 := ruleAt_eq (r := i) (f := 2) h hk (by omega) (by omega)
    rw [show nI 0 = (0 : Int32) from rfl] at r0
    rw [show nI 1 = (1 : Int32) from rfl] at r1
    rw [show nI 2 = (2 : Int32) from rfl] at r2
    have e78 : FX9_ruleOf_78 (FX9_ruleOf_11 n) w m l of by_ (nI k) (nI i) = some (fstI (rlP w m k l of by_) (i + 1) d, w) := by
      unfold FX9_ruleOf_78
      rw [nI_1]
      exact step
    have e58 : FX9_ruleOf_58 (FX9_ruleOf_11 n) w m l of by_ (nI k) (nI i) = some (if by_ < 0 ∨ rl w m k i 2 = by_ then nI i else fstI (rlP w m k l of by_) (i + 1) d, w) := by
      unfold FX9_ruleOf_58
      by_cases hb : by_ < 0
      · rw [if_pos hb, if_pos (Or.inl hb)]
      · rw [if_neg hb, r2, Option.bind_some]
        dsimp only
        by_cases he : rl w m k i 2 = by_
        · rw [if_pos he, if_pos (Or.inr he)]
        · rw [if_neg he, if_neg (fun z => z.elim hb he)]
          exact e78
    rw [FX9_ruleOf_11, if_neg (nI_pos (by omega)), okn hk (by decide), nI_clamp (by omega), hN, if_neg (nI_ge (by omega) (by omega)), r0, Option.bind_some]
    dsimp only
    show _ = some (if rlP w m k l of by_ i = true then nI i else fstI (rlP w m k l of by_) (i + 1) d, w)
    unfold rlP
    by_cases h0 : rl w m k i 0 = l
    · rw [if_pos h0]
      by_cases ho : of < 0
      · rw [if_pos ho, e58]
        by_cases hb : by_ < 0 ∨ rl w m k i 2 = by_
        · rw [if_pos hb, if_pos (by simp [h0, ho, hb])]
        · rw [if_neg hb, if_neg (by simp [hb])]
          rfl
      · rw [if_neg ho, r1, Option.bind_some]
        dsimp only
        by_cases h1 : rl w m k i 1 = of
        · rw [if_pos h1, e58]
          by_cases hb : by_ < 0 ∨ rl w m k i 2 = by_
          · rw [if_pos hb, if_pos (by simp [h0, h1, hb])]
          · rw [if_neg hb, if_neg (by simp [hb])]
            rfl
        · rw [if_neg h1, e78, if_neg (by simp [ho, h1])]
          rfl
    · rw [if_neg h0, e78, if_neg (by simp [h0])]
      rfl
theorem fuel_lt {d : Nat} (h : d < 9999) : d < FUEL := Nat.lt_of_lt_of_le h (Nat.le_of_ble_eq_true rfl)
theorem ruleOf_eq {w : HS} {m k N : Nat} (h : hc w m = 9) (hk : k < 9) (hN : ha w m 6 k = nI N) (hN4 : N ≤ 4) (hn : ha w m 16 1 = nI k) (l of by_ : Int32) : FX9_ruleOf w m l of by_ = some (fstI (rlP w m k l of by_) 0 N, w) := by
  unfold FX9_ruleOf
  rw [okc h, hn]
  exact ruleOf_loop h hk hN hN4 l of by_ N 0 FUEL (by omega) (fuel_lt (by omega))
theorem ruleOf_no {w : HS} {m : Nat} (h : hc w m = 9) (hn : ha w m 16 1 = -1) (l of by_ : Int32) : FX9_ruleOf w m l of by_ = some (-1, w) := by
  unfold FX9_ruleOf
  rw [okc h, hn, show FUEL = 9999 + 1 from rfl, FX9_ruleOf_11, if_pos (by decide)]
