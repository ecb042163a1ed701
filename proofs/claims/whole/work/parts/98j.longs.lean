/-! Long numbers; quotients. -/
def jN (n : Nat) : Int64 := Int64.ofNat n
theorem jN_add (a b : Nat) : jN a + jN b = jN (a + b) := (Int64.ofNat_add a b).symm
theorem jN_mul (a b : Nat) : jN a * jN b = jN (a * b) := (Int64.ofNat_mul a b).symm
theorem jN_toInt {n : Nat} (h : n < 2 ^ 63) : (jN n).toInt = (n : Int) := Int64.toInt_ofNat_of_lt h
theorem jN_sub {a b : Nat} (h : b ≤ a) : jN a - jN b = jN (a - b) := by
  have e : jN a = jN (a - b) + jN b := by rw [jN_add, Nat.sub_add_cancel h]
  rw [e]
  exact Int64.add_sub_cancel _ _
theorem nat_bmod {n : Nat} (h : n < 2 ^ 63) : (n : Int).bmod (2 ^ 64) = (n : Int) := by
  apply Int.bmod_eq_of_le <;> omega
theorem jN_div {a b : Nat} (ha : a < 2 ^ 63) (hb : b < 2 ^ 63) : jN a / jN b = jN (a / b) := by
  have h1 : a / b ≤ a := Nat.div_le_self a b
  apply Int64.toInt_inj.mp
  rw [Int64.toInt_div, jN_toInt ha, jN_toInt hb, jN_toInt (Nat.lt_of_le_of_lt h1 ha), Int.ofNat_tdiv]
  exact nat_bmod (by omega)
theorem jN_rem {a b : Nat} (ha : a < 2 ^ 63) (hb : b < 2 ^ 63) : jN a - jN a / jN b * jN b = jN (a % b) := by
  rw [jN_div ha hb, jN_mul, jN_sub (Nat.div_mul_le_self a b)]
  congr 1
  have := Nat.div_add_mod a b
  rw [Nat.mul_comm] at this
  omega
theorem nat_bmod32 {n : Nat} (h : n < 2 ^ 31) : (n : Int).bmod (2 ^ 32) = (n : Int) := by
  apply Int.bmod_eq_of_le <;> omega
theorem nI_dv {a b : Nat} (ha : a < 2 ^ 31) (hb : b < 2 ^ 31) : nI a / nI b = nI (a / b) := by
  have h1 : a / b ≤ a := Nat.div_le_self a b
  apply Int32.toInt_inj.mp
  rw [Int32.toInt_div, nI_toInt ha, nI_toInt hb, nI_toInt (Nat.lt_of_le_of_lt h1 ha), Int.ofNat_tdiv]
  exact nat_bmod32 (by omega)
theorem nI_rem {a b : Nat} (ha : a < 2 ^ 31) (hb : b < 2 ^ 31) : nI a - nI a / nI b * nI b = nI (a % b) := by
  rw [nI_dv ha hb, nI_mul, nI_subc (Nat.div_mul_le_self a b)]
  congr 1
  have := Nat.div_add_mod a b
  rw [Nat.mul_comm] at this
  omega
theorem jN_i {n : Nat} (h : n < 2 ^ 31) : (jN n).toInt32 = nI n := by
  apply Int32.toInt_inj.mp
  rw [Int64.toInt_toInt32, jN_toInt (by omega), nI_toInt h]
  exact nat_bmod32 h
theorem nI_j {n : Nat} (h : n < 2 ^ 31) : (nI n).toInt64 = jN n := by
  apply Int64.toInt_inj.mp
  rw [Int32.toInt_toInt64, nI_toInt h, jN_toInt (by omega)]
theorem jN_and31 {z : Nat} : jN z &&& (2147483647 : Int64) = jN (z % 2 ^ 31) := by
  apply Int64.toBitVec_inj.mp
  rw [Int64.toBitVec_and]
  show BitVec.ofNat 64 z &&& BitVec.ofNat 64 2147483647 = BitVec.ofNat 64 (z % 2 ^ 31)
  apply BitVec.eq_of_toNat_eq
  rw [BitVec.toNat_and, BitVec.toNat_ofNat, BitVec.toNat_ofNat, BitVec.toNat_ofNat, show 2147483647 % 2 ^ 64 = 2 ^ 31 - 1 from by decide, Nat.and_two_pow_sub_one_eq_mod]
  omega
/-- the next x, a draw -/
def nxD (X : Nat) : Nat := (X * 1103515245 + 12345) % 2147483648
def dvD (X k : Nat) : Nat := X / 65536 % k
theorem nxD_lt (X : Nat) : nxD X < 2 ^ 31 := Nat.mod_lt _ (by decide)
section DR
variable {w : HS} {x m X k : Nat}
theorem draw_c (h8 : hc w x = 8) (hX : hi w x 11 = nI X) (X31 : X < 2 ^ 31) (k0 : 0 < k) (k31 : k < 2 ^ 31) : FX8_draw w x (nI k) = some (nI (dvD (nxD X) k), setI w x 11 (nI (nxD X))) := by
  have e : ((((hi w x 11).toInt64 * (1103515245 : Int64)) + (12345 : Int64)) &&& (2147483647 : Int64)).toInt32 = nI (nxD X) := by
    rw [hX, nI_j X31, show (1103515245 : Int64) = jN 1103515245 from rfl, show (12345 : Int64) = jN 12345 from rfl, jN_mul, jN_add, jN_and31, jN_i (Nat.mod_lt _ (by decide))]
    rfl
  have n31 := nxD_lt X
  unfold FX8_draw
  refine E_c h8 (E_d ?_)
  rw [e]
  refine E_t (nI_le (a := 1) (by omega) k31) (E_k (decide_eq_true (nI_ne0 k0 k31)) ?_)
  rw [hi_setI, if_pos ⟨rfl, rfl⟩, show (65536 : Int32) = nI 65536 from rfl, nI_dv n31 (by decide), nI_rem (by omega) k31]
  rfl
theorem draw_r (h9 : hc w m = 9) (hX : hl w m 40 = jN X) (X31 : X < 2 ^ 31) (k0 : 0 < k) (k31 : k < 2 ^ 31) : FX9_draw w m (nI k) = some (nI (dvD (nxD X) k), setL w m 40 (jN (nxD X))) := by
  have e : (((hl w m 40) * (1103515245 : Int64)) + (12345 : Int64)) - (((hl w m 40) * (1103515245 : Int64)) + (12345 : Int64)) / (2147483648 : Int64) * (2147483648 : Int64) = jN (nxD X) := by
    rw [hX, show (1103515245 : Int64) = jN 1103515245 from rfl, show (12345 : Int64) = jN 12345 from rfl, show (2147483648 : Int64) = jN 2147483648 from rfl, jN_mul, jN_add, jN_rem (by omega) (by decide)]
    rfl
  have n31 := nxD_lt X
  have d31 : dvD (nxD X) k < 2 ^ 31 := Nat.lt_of_lt_of_le (Nat.mod_lt _ k0) (by omega)
  unfold FX9_draw
  refine E_c h9 (E_d ?_)
  rw [e, nI_j k31]
  refine E_k (decide_eq_true ?_) ?_
  · intro z
    have := congrArg Int64.toInt z
    rw [jN_toInt (by omega), show (0 : Int64).toInt = 0 from by decide] at this
    omega
  · rw [hl_setL, if_pos ⟨rfl, rfl⟩, show (65536 : Int64) = jN 65536 from rfl, jN_div (by omega) (by decide), jN_rem (by omega) (by omega)]
    show some ((jN (dvD (nxD X) k)).toInt32, _) = _
    rw [jN_i d31]
end DR
