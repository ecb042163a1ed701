/-! Parts: pure; the class's rows of bits. -/
def kyL (L : List (Nat × Nat)) : Nat × List (Nat × Nat) := (L.length, L.take 60)
theorem gt_take {L : List (Nat × Nat)} {i : Nat} (h : i < 60) : gt (L.take 60) i = gt L i := by
  unfold gt
  rw [List.getD_eq_getElem?_getD, List.getD_eq_getElem?_getD, List.getElem?_take, if_pos h]
theorem ky_iff {L L' : List (Nat × Nat)} : kyL L = kyL L' ↔ L.length = L'.length ∧ ∀ i, i < mn60 L.length → gt L i = gt L' i := by
  unfold kyL
  rw [Prod.mk.injEq]
  constructor
  · rintro ⟨h1, h2⟩
    refine ⟨h1, fun i hi => ?_⟩
    have := (mn60_le L.length).2
    rw [← gt_take (L := L) (by omega), ← gt_take (L := L') (by omega), h2]
  · rintro ⟨h1, h2⟩
    refine ⟨h1, List.ext_getElem? (fun i => ?_)⟩
    rw [List.getElem?_take, List.getElem?_take]
    by_cases i60 : i < 60
    · rw [if_pos i60, if_pos i60]
      by_cases il : i < L.length
      · have := h2 i (by unfold mn60; split <;> omega)
        unfold gt at this
        rw [List.getD_eq_getElem?_getD, List.getD_eq_getElem?_getD, List.getElem?_eq_getElem il, List.getElem?_eq_getElem (by omega)] at this
        rw [List.getElem?_eq_getElem il, List.getElem?_eq_getElem (by omega)]
        exact congrArg some this
      · rw [List.getElem?_eq_none (by omega), List.getElem?_eq_none (by omega)]
    · rw [if_neg i60, if_neg i60]
theorem cnt_snoc {f : Nat → Bool} : ∀ d i, cntF f i (d + 1) = cntF f i d + if f (i + d) = true then 1 else 0 := by
  intro d
  induction d with
  | zero => intro i; show (if f i = true then 1 else 0) + 0 = 0 + _; rw [Nat.add_zero, Nat.add_zero, Nat.zero_add]
  | succ d ih =>
    intro i
    show (if f i = true then 1 else 0) + cntF f (i + 1) (d + 1) = ((if f i = true then 1 else 0) + cntF f (i + 1) d) + _
    rw [ih (i + 1), show i + 1 + d = i + (d + 1) from by omega]
    omega
abbrev Key : Type := Nat × List (Nat × Nat)
section PP
variable {D : Nat → Key}
/-- how many of the first n are as this one -/
def asE (D : Nat → Key) (e : Key) (n : Nat) : Nat := cntF (fun j => decide (D j = e)) 0 n
theorem asE_succ (e : Key) (n : Nat) : asE D e (n + 1) = asE D e n + if D n = e then 1 else 0 := by
  unfold asE
  rw [cnt_snoc, Nat.zero_add]
  by_cases h : D n = e
  · rw [if_pos h, if_pos (decide_eq_true h)]
  · rw [if_neg h, if_neg (by rw [decide_eq_true_eq]; exact h)]
theorem asE_mono (e : Key) : ∀ d n, asE D e n ≤ asE D e (n + d) := by
  intro d
  induction d with
  | zero => intro n; exact Nat.le_refl _
  | succ d ih =>
    intro n
    have := ih n
    rw [show n + (d + 1) = (n + d) + 1 from by omega, asE_succ]
    omega
theorem asE_le (e : Key) (n : Nat) : asE D e n ≤ n := cntF_le
def mxN (a b : Nat) : Nat := if a < b then b else a
/-- class: the greatest part, one after the other -/
def gmD (D : Nat → Key) : Nat → Nat
  | 0 => 0
  | n + 1 => mxN (gmD D n) (asE D (D n) (n + 1))
/-- reference: of all -/
def rmD (D : Nat → Key) (n : Nat) : Nat → Nat
  | 0 => 0
  | i + 1 => mxN (rmD D n i) (asE D (D i) n)
theorem gm_ge : ∀ n i, i < n → asE D (D i) n ≤ gmD D n := by
  intro n
  induction n with
  | zero => intro i h; omega
  | succ n ih =>
    intro i hi
    show _ ≤ mxN (gmD D n) (asE D (D n) (n + 1))
    unfold mxN
    by_cases e : D n = D i
    · rw [← e]
      split <;> omega
    · have : i ≠ n := fun z => e (by rw [z])
      have h1 := ih i (by omega)
      rw [asE_succ, if_neg e]
      split <;> omega
theorem gm_le : ∀ n c, (∀ i, i < n → asE D (D i) n ≤ c) → gmD D n ≤ c := by
  intro n
  induction n with
  | zero => intro c _; exact Nat.zero_le _
  | succ n ih =>
    intro c h
    have h1 : gmD D n ≤ c := ih c (fun i hi => Nat.le_trans (by rw [asE_succ]; omega) (h i (by omega)))
    have h2 := h n (by omega)
    show mxN (gmD D n) (asE D (D n) (n + 1)) ≤ c
    unfold mxN
    split <;> omega
theorem rm_ge (n : Nat) : ∀ k i, i < k → asE D (D i) n ≤ rmD D n k := by
  intro k
  induction k with
  | zero => intro i h; omega
  | succ k ih =>
    intro i hi
    show _ ≤ mxN (rmD D n k) (asE D (D k) n)
    unfold mxN
    by_cases e : i = k
    · rw [e]; split <;> omega
    · have := ih i (by omega)
      split <;> omega
theorem rm_le (n : Nat) {c : Nat} : ∀ k, (∀ i, i < k → asE D (D i) n ≤ c) → rmD D n k ≤ c := by
  intro k
  induction k with
  | zero => intro _; exact Nat.zero_le _
  | succ k ih =>
    intro h
    have h1 := ih (fun i hi => h i (by omega))
    have h2 := h k (by omega)
    show mxN (rmD D n k) (asE D (D k) n) ≤ c
    unfold mxN
    split <;> omega
theorem gm_rm (n : Nat) : rmD D n n = gmD D n := Nat.le_antisymm (rm_le n n (fun i hi => gm_ge n i hi)) (gm_le n _ (fun i hi => rm_ge n n i hi))
end PP
-- growing numbers are known by their set
theorem inc_eq {a b : Nat → Nat} {n : Nat} (ha : ∀ j k, j < k → k < n → a j < a k) (hb : ∀ j k, j < k → k < n → b j < b k) (hab : ∀ k, k < n → ∃ j, j < n ∧ b j = a k) (hba : ∀ k, k < n → ∃ j, j < n ∧ a j = b k) : ∀ k, k < n → a k = b k := by
  intro k
  induction k using Nat.strongRecOn with
  | ind k ih =>
    intro hk
    rcases Nat.lt_trichotomy (a k) (b k) with h | h | h
    · obtain ⟨j, j1, j2⟩ := hab k hk
      by_cases jk : j < k
      · have := ih j jk j1
        have := ha j k jk hk
        omega
      · by_cases e : j = k
        · rw [e] at j2; omega
        · have := hb k j (by omega) j1
          omega
    · exact h
    · obtain ⟨j, j1, j2⟩ := hba k hk
      by_cases jk : j < k
      · have := ih j jk j1
        have := hb j k jk hk
        omega
      · by_cases e : j = k
        · rw [e] at j2; omega
        · have := ha k j (by omega) j1
          omega
theorem sh64 : ∀ n, n < 320 → ((1 : Int64) <<< ((nI n &&& (63 : Int32)).toInt64 &&& 63)).toBitVec = BitVec.twoPow 64 (n % 64) ∧ (nI n >>> ((6 : Int32) &&& 31)) = nI (n / 64) := by decide +kernel
theorem lgc0 {a b : Int64} : lg_cmp a b = 0 ↔ a = b := by
  unfold lg_cmp
  by_cases h : a > b
  · rw [if_pos h]
    constructor
    · intro z; exact absurd z (by decide)
    · intro z
      rw [z] at h
      exact absurd h (Int64.lt_irrefl)
  · rw [if_neg h]
    by_cases e : a = b
    · rw [if_pos e]; exact ⟨fun _ => e, fun _ => rfl⟩
    · rw [if_neg e]
      exact ⟨fun z => absurd z (by decide), fun z => absurd z e⟩
/-- v is among the first j numbers -/
def inL (L : List (Nat × Nat)) (j v : Nat) : Bool := (fsN (fun k => decide ((gt L k).1 = v)) 0 j).isSome
theorem inL_iff {L : List (Nat × Nat)} {j v : Nat} : inL L j v = true ↔ ∃ k, k < j ∧ (gt L k).1 = v := by
  unfold inL
  rw [fsN_isSome]
  constructor
  · rintro ⟨c, _, c1, c2⟩
    exact ⟨c, by omega, of_decide_eq_true c2⟩
  · rintro ⟨c, c1, c2⟩
    exact ⟨c, Nat.zero_le _, by omega, decide_eq_true c2⟩
theorem inL_succ {L : List (Nat × Nat)} {j v : Nat} : inL L (j + 1) v = (inL L j v || decide ((gt L j).1 = v)) := by
  rw [Bool.eq_iff_iff, inL_iff, Bool.or_eq_true, inL_iff, decide_eq_true_eq]
  constructor
  · rintro ⟨k, k1, k2⟩
    by_cases e : k = j
    · rw [e] at k2; exact Or.inr k2
    · exact Or.inl ⟨k, by omega, k2⟩
  · rintro (⟨k, k1, k2⟩ | k)
    · exact ⟨k, by omega, k2⟩
    · exact ⟨j, by omega, k⟩
/-- class: row t holds the numbers of L -/
def RBt (w : HS) (s t j : Nat) (L : List (Nat × Nat)) : Prop := ∀ u, u < 5 → ∀ b, b < 64 → (hj w s 5 (5 * t + u)).toBitVec.getLsbD b = inL L j (64 * u + b)
def RBw (w : HS) (s t : Nat) (L : List (Nat × Nat)) : Prop := ha w s 4 t = nI L.length ∧ RBt w s t (mn60 L.length) L
section CPT
variable {w : HS} {s r t N : Nat} {L L' : List (Nat × Nat)} {M : Mch}
/-- a log is good -/
def GLg (M : Mch) (N : Nat) (L : List (Nat × Nat)) : Prop := L.length ≤ 999 ∧ (∀ k, k < L.length → GAd M N 0 (gt L k).1 (gt L k).2) ∧ (∀ k, k < L.length → (gt L k).1 < 288) ∧ ∀ j k, j < k → k < L.length → (gt L j).1 < (gt L k).1
theorem alike_c (s5 : hc w s = 5) {t t' : Nat} (ht : t < 240) (ht' : t' < 240) (R : RBw w s t L) (R' : RBw w s t' L') (G : GLg M N L) (G' : GLg M N L') : FX5_isAlike w s (nI t) (nI t') = some (if kyL L = kyL L' then 1 else 0, w) := by
  obtain ⟨g1, g2, g3, g4⟩ := G
  obtain ⟨g1', g2', g3', g4'⟩ := G'
  unfold FX5_isAlike
  rw [nI_clamp (by omega), nI_clamp (by omega), R.1, R'.1]
  refine E_c s5 (E_i rfl ht (by decide) (E_i rfl ht' (by decide) ?_))
  by_cases e : L.length = L'.length
  · refine E_t (by rw [e]) ?_
    have n60 := mn60_le L.length
    have loop : ∀ d u n, u + d = 5 → d < n → (∀ j, j < u → hj w s 5 (5 * t + j) = hj w s 5 (5 * t' + j)) → FX5_isAlike_19 n w s (nI t) (nI t') (nI u) = some (if kyL L = kyL L' then 1 else 0, w) := by
      intro d
      induction d with
      | zero =>
        intro u n hu hn h
        obtain ⟨n, rfl⟩ : ∃ z, n = z + 1 := ⟨n - 1, by omega⟩
        have bits : ∀ v, v < 320 → inL L (mn60 L.length) v = inL L' (mn60 L.length) v := by
          intro v hv
          have a1 := R.2 (v / 64) (by omega) (v % 64) (by omega)
          have a2 := R'.2 (v / 64) (by omega) (v % 64) (by omega)
          rw [← h (v / 64) (by omega), ← e] at a2
          rw [a1, show 64 * (v / 64) + v % 64 = v from by omega] at a2
          exact a2
        have nums : ∀ k, k < mn60 L.length → (gt L k).1 = (gt L' k).1 := by
          refine inc_eq (a := fun k => (gt L k).1) (b := fun k => (gt L' k).1) (fun j k h1 h2 => g4 j k h1 (by omega)) (fun j k h1 h2 => g4' j k h1 (by omega)) (fun k hk => ?_) (fun k hk => ?_)
          · have b1 := bits (gt L k).1 (by have := g3 k (by omega); omega)
            rw [inL_iff.mpr ⟨k, hk, rfl⟩] at b1
            exact inL_iff.mp b1.symm
          · have b1 := bits (gt L' k).1 (by have := g3' k (by omega); omega)
            rw [(inL_iff (L := L')).mpr ⟨k, hk, rfl⟩] at b1
            exact inL_iff.mp b1
        have ke : kyL L = kyL L' := by
          rw [ky_iff]
          refine ⟨e, fun i hi => ?_⟩
          have a1 := g2 i (by omega)
          have a2 := g2' i (by omega)
          have a3 := nums i hi
          rw [a3] at a1
          exact Prod.ext a3 (gad_inj a1 a2)
        rw [FX5_isAlike_19, if_pos ke]
        exact E_t (nI_le (a := 5) (by omega) (by omega)) rfl
      | succ d ih =>
        intro u n hu hn h
        obtain ⟨n, rfl⟩ : ∃ z, n = z + 1 := ⟨n - 1, by omega⟩
        rw [FX5_isAlike_19, l5_, nI_mul, nI_mul, nI_add, nI_add, nI_clamp (by omega), nI_clamp (by omega), show t * 5 = 5 * t from by omega, show t' * 5 = 5 * t' from by omega]
        refine E_f (nI_ge (b := 5) (by omega) (by decide)) (E_i rfl (by omega) (by decide) (E_i rfl (by omega) (by decide) ?_))
        by_cases eq : hj w s 5 (5 * t + u) = hj w s 5 (5 * t' + u)
        · refine E_t (lgc0.mpr eq) ?_
          rw [nI_1]
          refine ih (u + 1) n (by omega) (by omega) (fun j hj' => ?_)
          by_cases ju : j = u
          · rw [ju]; exact eq
          · exact h j (by omega)
        · have ke : ¬ kyL L = kyL L' := by
            rw [ky_iff]
            rintro ⟨_, z⟩
            apply eq
            apply Int64.toBitVec_inj.mp
            apply BitVec.eq_of_getLsbD_eq
            intro b hb
            rw [R.2 u (by omega) b hb, R'.2 u (by omega) b hb, Bool.eq_iff_iff, inL_iff, inL_iff, ← e]
            constructor
            · rintro ⟨k, k1, k2⟩
              exact ⟨k, k1, by rw [← z k k1]; exact k2⟩
            · rintro ⟨k, k1, k2⟩
              exact ⟨k, k1, by rw [z k k1]; exact k2⟩
          rw [if_neg ke]
          exact E_f (fun z => eq (lgc0.mp z)) rfl
    exact loop 5 0 FUEL rfl (fuel_lt (by decide)) (fun j hj' => absurd hj' (Nat.not_lt_zero _))
  · have ke : ¬ kyL L = kyL L' := fun z => e (ky_iff.mp z).1
    rw [if_neg ke]
    exact E_f (fun z => e ((nI_eq (by omega) (by omega)).mp z)) rfl
end CPT
