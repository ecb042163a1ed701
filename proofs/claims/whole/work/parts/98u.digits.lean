/-! Digits of eight; bits of ints and longs. -/
def dg (x t : Nat) : Nat := x / 8 ^ t % 8
theorem dg_lt (x t : Nat) : dg x t < 8 := Nat.mod_lt _ (by decide)
theorem e8 (t : Nat) : 8 ^ t = 2 ^ (3 * t) := by rw [Nat.pow_mul]
theorem dg_or (x y t : Nat) : dg (x ||| y) t = dg x t ||| dg y t := by
  unfold dg
  rw [e8, ← Nat.shiftRight_eq_div_pow, ← Nat.shiftRight_eq_div_pow, ← Nat.shiftRight_eq_div_pow, Nat.shiftRight_or_distrib, show (8 : Nat) = 2 ^ 3 from rfl, Nat.or_mod_two_pow]
theorem dg_at {q p t : Nat} (hq : q < 8) : dg (q * 8 ^ p) t = if t = p then q else 0 := by
  unfold dg
  by_cases e : t = p
  · rw [if_pos e, e, Nat.mul_div_cancel _ (Nat.pow_pos (by decide)), Nat.mod_eq_of_lt hq]
  · rw [if_neg e]
    rcases Nat.lt_or_gt_of_ne e with h | h
    · rw [show p = t + (p - t - 1 + 1) from by omega, Nat.pow_add, Nat.mul_comm (8 ^ t), ← Nat.mul_assoc, Nat.mul_div_cancel _ (Nat.pow_pos (by decide)), Nat.pow_succ, ← Nat.mul_assoc]
      exact Nat.mul_mod_left _ _
    · have : q * 8 ^ p < 8 ^ t := by
        have h1 : q * 8 ^ p < 8 * 8 ^ p := Nat.mul_lt_mul_of_pos_right hq (Nat.pow_pos (by decide))
        have h2 : 8 * 8 ^ p ≤ 8 ^ t := by
          rw [← Nat.pow_succ']
          exact Nat.pow_le_pow_right (by decide) h
        omega
      rw [Nat.div_eq_of_lt this]
theorem dg_ext : ∀ n {x y : Nat}, x < 8 ^ n → y < 8 ^ n → (∀ t, t < n → dg x t = dg y t) → x = y := by
  intro n
  induction n with
  | zero => intro x y hx hy _; simp at hx hy; omega
  | succ n ih =>
    intro x y hx hy h
    have h0 := h 0 (by omega)
    unfold dg at h0
    rw [Nat.pow_zero, Nat.div_one, Nat.div_one] at h0
    have hx' : x / 8 < 8 ^ n := Nat.div_lt_of_lt_mul (by rw [Nat.pow_succ, Nat.mul_comm] at hx; exact hx)
    have hy' : y / 8 < 8 ^ n := Nat.div_lt_of_lt_mul (by rw [Nat.pow_succ, Nat.mul_comm] at hy; exact hy)
    have := ih hx' hy' (fun t ht => by
      have := h (t + 1) (by omega)
      unfold dg at this ⊢
      rw [Nat.div_div_eq_div_mul, Nat.div_div_eq_div_mul, ← Nat.pow_succ']
      exact this)
    omega
theorem or_lt8 {x y n : Nat} (hx : x < 8 ^ n) (hy : y < 8 ^ n) : x ||| y < 8 ^ n := by
  rw [e8] at hx hy ⊢
  exact Nat.or_lt_two_pow hx hy
theorem at_lt8 {q p n : Nat} (hq : q < 8) (hp : p < n) : q * 8 ^ p < 8 ^ n := by
  have h1 : q * 8 ^ p < 8 * 8 ^ p := Nat.mul_lt_mul_of_pos_right hq (Nat.pow_pos (by decide))
  have h2 : 8 * 8 ^ p ≤ 8 ^ n := by
    rw [← Nat.pow_succ']
    exact Nat.pow_le_pow_right (by decide) hp
  omega
-- ints
theorem nI_or (x y : Nat) : nI x ||| nI y = nI (x ||| y) := by
  apply Int32.toBitVec_inj.mp
  rw [Int32.toBitVec_or]
  exact (BitVec.ofNat_or (w := 32)).symm
theorem nI_andm (x n : Nat) : nI x &&& nI (2 ^ n - 1) = nI (x % 2 ^ n) := by
  apply Int32.toBitVec_inj.mp
  rw [Int32.toBitVec_and]
  show BitVec.ofNat 32 x &&& BitVec.ofNat 32 (2 ^ n - 1) = BitVec.ofNat 32 (x % 2 ^ n)
  rw [← BitVec.ofNat_and, Nat.and_two_pow_sub_one_eq_mod]
theorem smod32 : ∀ s, s < 32 → ((nI s &&& 31).toBitVec.smod 32) = BitVec.ofNat 32 s := by decide +kernel
theorem nI_shr {x s : Nat} (hx : x < 2 ^ 31) (hs : s < 32) : nI x >>> (nI s &&& 31) = nI (x / 2 ^ s) := by
  apply Int32.toBitVec_inj.mp
  have hm : (BitVec.ofNat 32 x).msb = false := by
    rw [BitVec.msb_eq_decide, BitVec.toNat_ofNat, decide_eq_false_iff_not]
    have : x % 2 ^ 32 = x := Nat.mod_eq_of_lt (by omega)
    omega
  rw [Int32.toBitVec_shiftRight, smod32 s hs]
  show (BitVec.ofNat 32 x).sshiftRight' (BitVec.ofNat 32 s) = BitVec.ofNat 32 (x / 2 ^ s)
  unfold BitVec.sshiftRight'
  rw [BitVec.sshiftRight_eq_of_msb_false hm]
  apply BitVec.eq_of_toNat_eq
  have d1 : x / 2 ^ s ≤ x := Nat.div_le_self _ _
  rw [BitVec.toNat_ushiftRight, BitVec.toNat_ofNat, BitVec.toNat_ofNat, BitVec.toNat_ofNat, Nat.shiftRight_eq_div_pow, Nat.mod_eq_of_lt (show x < 2 ^ 32 by omega), Nat.mod_eq_of_lt (show s < 2 ^ 32 by omega), Nat.mod_eq_of_lt (show x / 2 ^ s < 2 ^ 32 by omega)]
theorem nI_shl {x s : Nat} (hs : s < 32) : nI x <<< (nI s &&& 31) = nI (x * 2 ^ s) := by
  apply Int32.toBitVec_inj.mp
  rw [Int32.toBitVec_shiftLeft, smod32 s hs]
  show (BitVec.ofNat 32 x) <<< (BitVec.ofNat 32 s) = BitVec.ofNat 32 (x * 2 ^ s)
  rw [BitVec.shiftLeft_eq']
  apply BitVec.eq_of_toNat_eq
  rw [BitVec.toNat_shiftLeft, BitVec.toNat_ofNat, BitVec.toNat_ofNat, BitVec.toNat_ofNat, Nat.shiftLeft_eq, Nat.mod_eq_of_lt (show s < 2 ^ 32 by omega), Nat.mod_mul_mod]
/-- field t of an int -/
theorem nI_fld {x t : Nat} (hx : x < 2 ^ 31) (ht : 3 * t < 32) : (nI x >>> (nI (3 * t) &&& 31)) &&& (7 : Int32) = nI (dg x t) := by
  rw [nI_shr hx ht, show (7 : Int32) = nI (2 ^ 3 - 1) from rfl, nI_andm, ← e8]
  rfl
theorem nI_put {q t : Nat} (ht : 3 * t < 32) : nI q <<< (nI (3 * t) &&& 31) = nI (q * 8 ^ t) := by
  rw [nI_shl ht, e8]
-- longs
theorem jN_or (x y : Nat) : jN x ||| jN y = jN (x ||| y) := by
  apply Int64.toBitVec_inj.mp
  rw [Int64.toBitVec_or]
  exact (BitVec.ofNat_or (w := 64)).symm
theorem jN_andm (x n : Nat) : jN x &&& jN (2 ^ n - 1) = jN (x % 2 ^ n) := by
  apply Int64.toBitVec_inj.mp
  rw [Int64.toBitVec_and]
  show BitVec.ofNat 64 x &&& BitVec.ofNat 64 (2 ^ n - 1) = BitVec.ofNat 64 (x % 2 ^ n)
  rw [← BitVec.ofNat_and, Nat.and_two_pow_sub_one_eq_mod]
theorem smod64 : ∀ s, s < 64 → (((nI s).toInt64 &&& 63).toBitVec.smod 64) = BitVec.ofNat 64 s := by decide +kernel
theorem jN_shr {x s : Nat} (hx : x < 2 ^ 63) (hs : s < 64) : jN x >>> ((nI s).toInt64 &&& 63) = jN (x / 2 ^ s) := by
  apply Int64.toBitVec_inj.mp
  have hm : (BitVec.ofNat 64 x).msb = false := by
    rw [BitVec.msb_eq_decide, BitVec.toNat_ofNat, decide_eq_false_iff_not]
    have : x % 2 ^ 64 = x := Nat.mod_eq_of_lt (by omega)
    omega
  rw [Int64.toBitVec_shiftRight, smod64 s hs]
  show (BitVec.ofNat 64 x).sshiftRight' (BitVec.ofNat 64 s) = BitVec.ofNat 64 (x / 2 ^ s)
  unfold BitVec.sshiftRight'
  rw [BitVec.sshiftRight_eq_of_msb_false hm]
  apply BitVec.eq_of_toNat_eq
  have d1 : x / 2 ^ s ≤ x := Nat.div_le_self _ _
  rw [BitVec.toNat_ushiftRight, BitVec.toNat_ofNat, BitVec.toNat_ofNat, BitVec.toNat_ofNat, Nat.shiftRight_eq_div_pow, Nat.mod_eq_of_lt (show x < 2 ^ 64 by omega), Nat.mod_eq_of_lt (show s < 2 ^ 64 by omega), Nat.mod_eq_of_lt (show x / 2 ^ s < 2 ^ 64 by omega)]
theorem jN_shl {x s : Nat} (hs : s < 64) : jN x <<< ((nI s).toInt64 &&& 63) = jN (x * 2 ^ s) := by
  apply Int64.toBitVec_inj.mp
  rw [Int64.toBitVec_shiftLeft, smod64 s hs]
  show (BitVec.ofNat 64 x) <<< (BitVec.ofNat 64 s) = BitVec.ofNat 64 (x * 2 ^ s)
  rw [BitVec.shiftLeft_eq']
  apply BitVec.eq_of_toNat_eq
  rw [BitVec.toNat_shiftLeft, BitVec.toNat_ofNat, BitVec.toNat_ofNat, BitVec.toNat_ofNat, Nat.shiftLeft_eq, Nat.mod_eq_of_lt (show s < 2 ^ 64 by omega), Nat.mod_mul_mod]
theorem p820 : (8 : Nat) ^ 20 = 2 ^ 60 := by decide
theorem jN_fld {x t : Nat} (hx : x < 8 ^ 20) (ht : t < 20) : (jN x >>> ((nI (3 * t)).toInt64 &&& 63)) &&& (7 : Int64) = jN (dg x t) := by
  rw [jN_shr (by rw [p820] at hx; omega) (by omega), show (7 : Int64) = jN (2 ^ 3 - 1) from rfl, jN_andm, ← e8]
  rfl
theorem jN_put {q t : Nat} (ht : t < 20) : jN q <<< ((nI (3 * t)).toInt64 &&& 63) = jN (q * 8 ^ t) := by
  rw [jN_shl (by omega), e8]
theorem jN_inj {x y : Nat} (hx : x < 2 ^ 63) (hy : y < 2 ^ 63) : jN x = jN y ↔ x = y := by
  constructor
  · intro h
    have := congrArg Int64.toInt h
    rw [jN_toInt hx, jN_toInt hy] at this
    omega
  · intro h; rw [h]
