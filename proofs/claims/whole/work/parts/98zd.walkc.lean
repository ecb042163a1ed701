/-! The search: the class's walk. -/
def dh (x t : Nat) : Nat := x / 128 ^ t % 128
theorem e128 (t : Nat) : 128 ^ t = 2 ^ (7 * t) := by rw [Nat.pow_mul]
theorem dh_or (x y t : Nat) : dh (x ||| y) t = dh x t ||| dh y t := by
  unfold dh
  rw [e128, ← Nat.shiftRight_eq_div_pow, ← Nat.shiftRight_eq_div_pow, ← Nat.shiftRight_eq_div_pow, Nat.shiftRight_or_distrib, show (128 : Nat) = 2 ^ 7 from rfl, Nat.or_mod_two_pow]
theorem dh_up {x p t : Nat} : dh (x * 128 ^ p) t = if t < p then 0 else dh x (t - p) := by
  unfold dh
  by_cases h : t < p
  · rw [if_pos h, show p = t + (p - t - 1 + 1) from by omega, Nat.pow_add, Nat.mul_comm (128 ^ t), ← Nat.mul_assoc, Nat.mul_div_cancel _ (Nat.pow_pos (by decide)), Nat.pow_succ, ← Nat.mul_assoc]
    exact Nat.mul_mod_left _ _
  · rw [if_neg h, show 128 ^ t = 128 ^ p * 128 ^ (t - p) from by rw [← Nat.pow_add, show p + (t - p) = t from by omega], ← Nat.div_div_eq_div_mul, Nat.mul_div_cancel _ (Nat.pow_pos (by decide))]
theorem dh_hi {x n t : Nat} (hx : x < 128 ^ n) (h : n ≤ t) : dh x t = 0 := by
  unfold dh
  have : 128 ^ n ≤ 128 ^ t := Nat.pow_le_pow_right (by decide) h
  rw [Nat.div_eq_of_lt (by omega)]
theorem dh_0 {q : Nat} (hq : q < 128) : dh q 0 = q := by
  unfold dh
  rw [Nat.pow_zero, Nat.div_one, Nat.mod_eq_of_lt hq]
theorem or_lt128 {x y n : Nat} (hx : x < 128 ^ n) (hy : y < 128 ^ n) : x ||| y < 128 ^ n := by
  rw [e128] at hx hy ⊢
  exact Nat.or_lt_two_pow hx hy
theorem up_lt128 {x p l n : Nat} (hx : x < 128 ^ l) (h : p + l ≤ n) : x * 128 ^ p < 128 ^ n := by
  have h1 : x * 128 ^ p < 128 ^ l * 128 ^ p := Nat.mul_lt_mul_of_pos_right hx (Nat.pow_pos (by decide))
  have h2 : 128 ^ l * 128 ^ p ≤ 128 ^ n := by
    rw [← Nat.pow_add]
    exact Nat.pow_le_pow_right (by decide) (by omega)
  omega
/-- op u of a step -/
def opc (k sd u : Nat) : Nat := if sAc k u = 0 then sdI k sd u - 1 else sAc k u + 1
def fldV (e k sd u : Nat) : Nat := 8 * e + 4 * sDn k + opc k sd u
theorem opc4 {k sd u : Nat} (h : sd < 3) : opc k sd u < 4 := by
  unfold opc
  have := sdI_le (k := k) h u
  have := sAc3 k u
  split <;> omega
theorem fldI : ∀ e, e < 9 → ∀ d, d < 2 → ∀ o, o < 4 → ((nI e <<< ((3 : Int32) &&& 31)) ||| nI (4 * d)) ||| (nI o &&& (3 : Int32)) = nI (8 * e + 4 * d + o) := by decide +kernel
section WK
variable {w : HS} {s k e sd : Nat}
theorem packed_c (s4 : hc w s = 4) (T : STk w s 78) (k78 : k < 78) (e9 : e < 9) (sd3 : sd < 3) (ok : okS k sd = true) : ∃ X, FX4_packedStep w s (nI k) (nI e) (nI sd) = some (jN X, w) ∧ X < 128 ^ sLn k ∧ ∀ u, u < sLn k → dh X u = fldV e k sd u := by
  obtain ⟨t2, t3, t4⟩ := T k k78
  obtain ⟨l0, l3⟩ := sLn3 k
  have d2 := sDn2 k
  have loop : ∀ d u n X, u + d = sLn k → d < n → X < 128 ^ u → (∀ v, v < u → dh X v = fldV e k sd v) → ∃ X', FX4_packedStep_11 n w s (nI k) (nI e) (jN X) (dI (sdI k sd u)) (nI u) = some (jN X', w) ∧ X' < 128 ^ sLn k ∧ ∀ v, v < sLn k → dh X' v = fldV e k sd v := by
    intro d
    induction d with
    | zero =>
      intro u n X hu hn hX h
      obtain ⟨n, rfl⟩ : ∃ z, n = z + 1 := ⟨n - 1, by omega⟩
      have ee : u = sLn k := by omega
      refine ⟨X, ?_, by rw [← ee]; exact hX, fun v hv => h v (by omega)⟩
      rw [FX4_packedStep_11, nI_clamp (n := k) (by omega), t2]
      exact E_i rfl k78 (by decide) (E_t (nI_le (by omega) (by omega)) rfl)
    | succ d ih =>
      intro u n X hu hn hX h
      obtain ⟨n, rfl⟩ : ∃ z, n = z + 1 := ⟨n - 1, by omega⟩
      have a3 := sAc3 k u
      have o4 := opc4 (k := k) (sd := sd) (u := u) sd3
      have f128 : fldV e k sd u < 128 := by unfold fldV; omega
      obtain ⟨X', e', r'⟩ := ih (u + 1) n (X ||| fldV e k sd u * 128 ^ u) (by omega) (by omega) (or_lt128 (Nat.lt_of_lt_of_le hX (Nat.pow_le_pow_right (by decide) (by omega))) (up_lt128 (l := 1) (by rw [Nat.pow_one]; exact f128) (by omega))) (fun v hv => by
        rw [dh_or, dh_up]
        by_cases ev : v = u
        · rw [ev, if_neg (by omega), Nat.sub_self, dh_hi hX (Nat.le_refl _), dh_0 f128, Nat.zero_or]
        · rw [if_pos (by omega), Nat.or_zero]
          exact h v (by omega))
      refine ⟨X', ?_, r'⟩
      have s86 : ∀ (o : Nat) (v6 : Int32), o = opc k sd u → v6 = dI (sdI k sd (u + 1)) → FX4_packedStep_65 (FX4_packedStep_11 n) w s (nI k) (nI e) (jN X) v6 (nI u) (nI o) = some (jN X', w) := by
        intro o v6 ho hv
        have fin : ∀ dd : Nat, dd = sDn k → FX4_packedStep_86 (FX4_packedStep_11 n) w s (nI k) (nI e) v6 (nI u) (nI o) (nI (4 * dd)) (nI e <<< ((3 : Int32) &&& 31)) (jN X) = some (jN X', w) := by
          intro dd hd
          unfold FX4_packedStep_86
          rw [fldI e e9 dd (by omega) o (by omega), nI_j (by omega), show (7 : Int32) * nI u = nI (7 * u) from by rw [l7_, nI_mul], jN_shl (by omega), jN_or, nI_1, ← e128, hv, show 8 * e + 4 * dd + o = fldV e k sd u from by unfold fldV; rw [hd, ho]]
          exact e'
        unfold FX4_packedStep_65
        rw [nI_clamp (n := k) (by omega), t3]
        refine E_i rfl k78 (by decide) ?_
        by_cases z : sDn k = 0
        · rw [if_pos (by rw [z]; rfl)]
          exact fin 0 z.symm
        · rw [if_neg (nI_ne0 (by omega) (by omega))]
          exact fin 1 (by omega)
      rw [FX4_packedStep_11, nI_clamp (n := k) (by omega), t2, show nI k * (3 : Int32) + nI u = nI (3 * k + u) from by rw [l3_, nI_mul, nI_add, Nat.mul_comm], nI_clamp (n := 3 * k + u) (by omega), t4 u (by omega)]
      refine E_i rfl k78 (by decide) (E_f (nI_ge (by omega) (by omega)) (E_i rfl (by omega) (by decide) ?_))
      unfold FX4_packedStep_49
      by_cases a0 : sAc k u = 0
      · have sp := sdI_pos ok u (Or.inl a0)
        have ed : dI (sdI k sd u) = nI (sdI k sd u - 1) := by rw [show sdI k sd u = (sdI k sd u - 1) + 1 from by omega, dI_s]; rfl
        rw [if_pos (by rw [a0]; rfl), if_pos (by rw [a0]; rfl), ed]
        refine s86 (sdI k sd u - 1) _ (by unfold opc; rw [if_pos a0]) ?_
        rw [← ed]
        show _ = dI (dueA (sdI k sd u) (sAc k u))
        unfold dueA
        rw [if_pos a0]
      · rw [if_neg (nI_ne0 (by omega) (by omega)), if_neg (nI_ne0 (by omega) (by omega)), show nI (sAc k u) - (1 : Int32) = nI (sAc k u - 1) from by rw [l1_, nI_subc (by omega)], show (2 : Int32) + nI (sAc k u - 1) = nI (sAc k u + 1) from by rw [l2_, nI_add, show 2 + (sAc k u - 1) = sAc k u + 1 from by omega]]
        refine s86 (sAc k u + 1) _ (by unfold opc; rw [if_neg a0]) ?_
        show _ = dI (dueA (sdI k sd u) (sAc k u))
        unfold dueA
        rw [if_neg a0, show sAc k u = (sAc k u - 1) + 1 from by omega, dI_s]
        rfl
  unfold FX4_packedStep
  obtain ⟨X', e', r'⟩ := loop (sLn k) 0 FUEL 0 (by omega) (fuel_lt (by omega)) (by decide) (fun v hv => absurd hv (Nat.not_lt_zero _))
  exact ⟨X', E_c s4 e', r'⟩
end WK
-- the way to a state
def elW (P : PBs) : Nat → Nat → Nat
  | 0, _ => 0
  | f + 1, i => if i = 0 then 0 else elW P f (pP P i) + 1
def opW (P : PBs) : Nat → Nat → Nat → Nat
  | 0, _, _ => 0
  | f + 1, i, t => if i = 0 then 0 else if t < pO P (pP P i) then opW P f (pP P i) t else fldV (elW P i (pP P i)) (pB P i) (pS P (pP P i)).1 (t - pO P (pP P i))
section WP
variable {P : PBs} {n : Nat}
theorem elW_f (L : Lk P n) : ∀ f f' i, i < n → i < f → i < f' → elW P f i = elW P f' i := by
  intro f
  induction f with
  | zero => intro f' i _ h; omega
  | succ f ih =>
    intro f' i hn h h'
    obtain ⟨f', rfl⟩ : ∃ z, f' = z + 1 := ⟨f' - 1, by omega⟩
    unfold elW
    by_cases e : i = 0
    · rw [if_pos e, if_pos e]
    · rw [if_neg e, if_neg e]
      have := (L i (by omega) hn).1
      rw [ih f' (pP P i) (by omega) (by omega) (by omega)]
theorem opW_f (L : Lk P n) : ∀ f f' i t, i < n → i < f → i < f' → opW P f i t = opW P f' i t := by
  intro f
  induction f with
  | zero => intro f' i t _ h; omega
  | succ f ih =>
    intro f' i t hn h h'
    obtain ⟨f', rfl⟩ : ∃ z, f' = z + 1 := ⟨f' - 1, by omega⟩
    unfold opW
    by_cases e : i = 0
    · rw [if_pos e, if_pos e]
    · rw [if_neg e, if_neg e]
      have := (L i (by omega) hn).1
      by_cases q : t < pO P (pP P i)
      · rw [if_pos q, if_pos q]
        exact ih f' (pP P i) t (by omega) (by omega) (by omega)
      · rw [if_neg q, if_neg q]
def elP (P : PBs) (i : Nat) : Nat := elW P (i + 1) i
def opP (P : PBs) (i t : Nat) : Nat := opW P (i + 1) i t
theorem elP_0 : elP P 0 = 0 := rfl
theorem elP_s (L : Lk P n) {i : Nat} (i0 : 0 < i) (hi' : i < n) : elP P i = elP P (pP P i) + 1 := by
  have := (L i i0 hi').1
  unfold elP
  rw [show elW P (i + 1) i = (if i = 0 then 0 else elW P i (pP P i) + 1) from rfl, if_neg (by omega), elW_f L i (pP P i + 1) (pP P i) (by omega) this (by omega)]
theorem opP_s (L : Lk P n) {i t : Nat} (i0 : 0 < i) (hi' : i < n) : opP P i t = if t < pO P (pP P i) then opP P (pP P i) t else fldV (elP P (pP P i)) (pB P i) (pS P (pP P i)).1 (t - pO P (pP P i)) := by
  have := (L i i0 hi').1
  unfold opP elP
  rw [show opW P (i + 1) i t = (if i = 0 then 0 else if t < pO P (pP P i) then opW P i (pP P i) t else fldV (elW P i (pP P i)) (pB P i) (pS P (pP P i)).1 (t - pO P (pP P i))) from rfl, if_neg (by omega), elW_f L i (pP P i + 1) (pP P i) (by omega) this (by omega), opW_f L i (pP P i + 1) (pP P i) t (by omega) this (by omega)]
theorem elP_le (L : Lk P n) (o0 : pO P 0 = 0) : ∀ i, i < n → elP P i ≤ pO P i := by
  intro i
  induction i using Nat.strongRecOn with
  | ind i ih =>
    intro hi'
    by_cases e : i = 0
    · rw [e, elP_0]; exact Nat.zero_le _
    · obtain ⟨l1, l2, l3, _⟩ := L i (by omega) hi'
      have := ih (pP P i) l1 (by omega)
      have := (sLn3 (pB P i)).1
      rw [elP_s L (by omega) hi', l3]
      omega
theorem pO_mono (L : Lk P n) {i : Nat} (i0 : 0 < i) (hi' : i < n) : pO P (pP P i) < pO P i := by
  obtain ⟨l1, l2, l3, _⟩ := L i i0 hi'
  have := (sLn3 (pB P i)).1
  omega
end WP
section WT
variable {w : HS} {s C : Nat} {P : PBs}
theorem walkTo_c (R : CRf w s P) (F : Fdp C P) (C9 : C ≤ 9) : ∃ X, FX4_walkTo w s (nI (pN P)) = some (jN X, w) ∧ X < 128 ^ 9 ∧ ∀ t, t < C → dh X t = opP P (pN P) t := by
  obtain ⟨s4, T, h9, n12, n0, links, rows⟩ := R
  obtain ⟨f0, f1, L, f3⟩ := F
  have el9 : elP P (pN P) ≤ 9 := by
    have := elP_le L f1 (pN P) (by omega)
    omega
  -- packing
  have p59 : ∀ f i n X, i ≤ pN P → i < f → elP P i < n → X < 128 ^ 9 → (∀ t, t < pO P i → dh X t = 0) → pO P i ≤ 9 → elP P i ≤ 9 → ∃ X', FX4_walkTo_59 n w s (nI (pO P i)) (jN X) (nI i) (dI (elP P i)) = some (jN X', w) ∧ X' < 128 ^ 9 ∧ (∀ t, t < pO P i → dh X' t = opP P i t) ∧ ∀ t, pO P i ≤ t → dh X' t = dh X t := by
    intro f
    induction f with
    | zero => intro i n X _ h; omega
    | succ f ih =>
      intro i n X hi' hf hn hX hz ho he
      obtain ⟨n, rfl⟩ : ∃ z, n = z + 1 := ⟨n - 1, by omega⟩
      by_cases e : i = 0
      · subst e
        rw [f1] at *
        refine ⟨X, ?_, hX, fun t ht => absurd ht (Nat.not_lt_zero _), fun t _ => rfl⟩
        rw [FX4_walkTo_59, elP_0]
        exact E_t dI_0 rfl
      · obtain ⟨q1, q2, q3, q4⟩ := links i (by omega) hi'
        obtain ⟨l1, l2, l3, l4⟩ := L i (by omega) (by omega)
        obtain ⟨r1, r2⟩ := rows (pP P i) (by omega)
        have es := elP_s L (show 0 < i by omega) (show i < pN P + 1 by omega)
        have om := pO_mono L (show 0 < i by omega) (show i < pN P + 1 by omega)
        obtain ⟨t2, _, _⟩ := T (pB P i) q4
        obtain ⟨ln0, ln3⟩ := sLn3 (pB P i)
        obtain ⟨Y, e1, Y1, Y2⟩ := packed_c (e := elP P (pP P i)) s4 T q4 (by omega) r2 l4
        obtain ⟨X', e', b1, b2, b3⟩ := ih (pP P i) n (X ||| Y * 128 ^ pO P (pP P i)) (by omega) (by omega) (by omega) (or_lt128 hX (up_lt128 Y1 (by omega))) (fun t ht => by
          rw [dh_or, hz t (by omega), dh_up, if_pos ht]
          rfl) (by omega) (by omega)
        refine ⟨X', ?_, b1, fun t ht => ?_, fun t ht => ?_⟩
        · rw [FX4_walkTo_59, es, dI_s, nI_clamp (n := i) (by omega), q2, q1, nI_clamp (n := pB P i) (by omega), t2, nI_clamp (n := pP P i) (by omega), r1, show nI (pO P i) - nI (sLn (pB P i)) = nI (pO P (pP P i)) from by rw [nI_subc (by omega), show pO P i - sLn (pB P i) = pO P (pP P i) from by omega], show (7 : Int32) * nI (pO P (pP P i)) = nI (7 * pO P (pP P i)) from by rw [l7_, nI_mul], dI_m]
          refine E_f (nI_pos (by omega)) (E_f (nI_nle (by omega) (by omega)) (E_i rfl (show i < 1201 by omega) (by decide) (E_i rfl (show i < 1201 by omega) (by decide) (E_i rfl q4 (by decide) (E_i rfl (show i < 1201 by omega) (by decide) (E_i rfl (show pP P i < 1201 by omega) (by decide) (E_b e1 ?_)))))))
          dsimp only
          rw [jN_shl (by omega), jN_or, ← e128]
          exact e'
        · rw [opP_s L (by omega) (by omega)]
          by_cases q : t < pO P (pP P i)
          · rw [if_pos q]
            exact b2 t q
          · rw [if_neg q, b3 t (by omega), dh_or, hz t ht, dh_up, if_neg q, Nat.zero_or]
            exact Y2 _ (by omega)
        · rw [b3 t (by omega), dh_or, dh_up, if_neg (by omega), dh_hi Y1 (by omega), Nat.or_zero]
  -- counting
  have p7 : ∀ f i n, i ≤ pN P → i < f → elP P i < n → FX4_walkTo_7 n w s (nI (pN P)) (nI (C - pO P i)) (nI (elP P (pN P) - elP P i)) (nI i) = FX4_walkTo_48 w s (nI (pN P)) (nI C) (nI (elP P (pN P))) ∨ ¬ (pO P i ≤ C ∧ elP P i ≤ elP P (pN P)) := by
    intro f
    induction f with
    | zero => intro i n _ h; omega
    | succ f ih =>
      intro i n hi' hf hn
      obtain ⟨n, rfl⟩ : ∃ z, n = z + 1 := ⟨n - 1, by omega⟩
      by_cases cond : pO P i ≤ C ∧ elP P i ≤ elP P (pN P)
      · left
        by_cases e : i = 0
        · subst e
          rw [FX4_walkTo_7, f1, elP_0, Nat.sub_zero, Nat.sub_zero]
          exact E_t (show nI 0 ≤ 0 by decide) rfl
        · obtain ⟨q1, q2, q3, q4⟩ := links i (by omega) hi'
          obtain ⟨l1, l2, l3, l4⟩ := L i (by omega) (by omega)
          have es := elP_s L (show 0 < i by omega) (show i < pN P + 1 by omega)
          have om := pO_mono L (show 0 < i by omega) (show i < pN P + 1 by omega)
          obtain ⟨t2, _, _⟩ := T (pB P i) q4
          have st := (ih (pP P i) n (by omega) (by omega) (by omega)).resolve_right (fun z => z ⟨by omega, by omega⟩)
          rw [FX4_walkTo_7, nI_clamp (n := i) (by omega), q2, q1, nI_clamp (n := pB P i) (by omega), t2, nI_add, nI_1, show C - pO P i + sLn (pB P i) = C - pO P (pP P i) from by omega, show elP P (pN P) - elP P i + 1 = elP P (pN P) - elP P (pP P i) from by omega]
          exact E_f (nI_nle (by omega) (by omega)) (E_f (nI_ge (b := 9) (by omega) (by decide)) (E_i rfl (show i < 1201 by omega) (by decide) (E_i rfl q4 (by decide) (E_i rfl (show i < 1201 by omega) (by decide) st))))
      · exact Or.inr cond
  obtain ⟨X', e', b1, b2, b3⟩ := p59 (pN P + 1) (pN P) FUEL 0 (Nat.le_refl _) (by omega) (fuel_lt (by omega)) (by decide) (fun t _ => by unfold dh; rw [Nat.zero_div]) (by omega) el9
  refine ⟨X', ?_, b1, fun t ht => b2 t (by omega)⟩
  have st := (p7 (pN P + 1) (pN P) FUEL (Nat.le_refl _) (by omega) (fuel_lt (by omega))).resolve_right (fun z => z ⟨by omega, Nat.le_refl _⟩)
  rw [f3, Nat.sub_self, Nat.sub_self] at st
  unfold FX4_walkTo
  refine E_c s4 (Eq.trans st ?_)
  unfold FX4_walkTo_48
  rw [f3] at e'
  exact e'
end WT
