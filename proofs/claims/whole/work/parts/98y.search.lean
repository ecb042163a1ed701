/-! The search: pure; the class's slots. -/
abbrev AS : Type := Nat × (Nat → Nat)
def fstG (i k : Nat) : Nat := if i / 4 % 2 = 0 then 1 - sDn k else sDn k
/-- the state behind a step -/
def nxA (bk : Nat → Book) (a : AS) (k : Nat) : AS := (sdI k a.1 (sLn k), fun i => itS (bk (i / 8)) (fstG i k) k a.1 (a.2 i))
def EqS (K : Nat) (a b : AS) : Prop := a.1 = b.1 ∧ ∀ i, i < 8 * K → a.2 i = b.2 i
def eqS (K : Nat) (a b : AS) : Bool := decide (a.1 = b.1 ∧ ∀ i, i < 8 * K → a.2 i = b.2 i)
def allF (K : Nat) (a : AS) : Bool := decide (∀ i, i < 8 * K → a.2 i = 4)
/-- states, where each came from, by which step, with how many ops -/
abbrev PBs : Type := Nat × (Nat → AS) × (Nat → Nat) × (Nat → Nat) × (Nat → Nat)
def pN (P : PBs) : Nat := P.1
def pS (P : PBs) : Nat → AS := P.2.1
def pP (P : PBs) : Nat → Nat := P.2.2.1
def pB (P : PBs) : Nat → Nat := P.2.2.2.1
def pO (P : PBs) : Nat → Nat := P.2.2.2.2
def inP (K : Nat) (P : PBs) (a : AS) : Bool := (fsN (fun i => eqS K (pS P i) a) 0 (pN P)).isSome
def putP (P : PBs) (a : AS) (s k C : Nat) : PBs := (pN P, fun i => if i = pN P then a else pS P i, fun i => if i = pN P then s else pP P i, fun i => if i = pN P then k else pB P i, fun i => if i = pN P then C else pO P i)
def incP (P : PBs) : PBs := (pN P + 1, P.2)
def arrP (K : Nat) (bk : Nat → Book) (P : PBs) (s k C : Nat) : Nat × PBs := if okS k (pS P s).1 = false then (0, P) else if allF K (nxA bk (pS P s) k) = true then (1, putP P (nxA bk (pS P s) k) s k C) else if inP K P (nxA bk (pS P s) k) = true then (0, P) else if 1200 ≤ pN P then (2, P) else (0, incP (putP P (nxA bk (pS P s) k) s k C))
def stpL (K : Nat) (bk : Nat → Book) (C s : Nat) : Nat → Nat → PBs → Nat × PBs
  | _, 0, P => (0, P)
  | k, d + 1, P => if (arrP K bk P s k C).1 = 0 then stpL K bk C s (k + 1) d (arrP K bk P s k C).2 else arrP K bk P s k C
def stA (K : Nat) (bk : Nat → Book) (C l s : Nat) (P : PBs) : Nat × PBs := stpL K bk C s (sF l) (sF (l + 1) - sF l) P
def lvlL (K : Nat) (bk : Nat → Book) (C l : Nat) : Nat → Nat → PBs → Nat × PBs
  | _, 0, P => (0, P)
  | s, d + 1, P => if (stA K bk C l s P).1 = 0 then lvlL K bk C l (s + 1) d (stA K bk C l s P).2 else stA K bk C l s P
def lvA (K : Nat) (bk : Nat → Book) (C : Nat) (ls : Nat → Nat) (l : Nat) (P : PBs) : Nat × PBs := lvlL K bk C l (ls (C - l)) (ls (C - l + 1) - ls (C - l)) P
def lenL (K : Nat) (bk : Nat → Book) (C : Nat) (ls : Nat → Nat) : Nat → Nat → PBs → Nat × PBs
  | _, 0, P => (0, P)
  | l, d + 1, P => if (lvA K bk C ls l P).1 = 0 then lenL K bk C ls (l + 1) d (lvA K bk C ls l P).2 else lvA K bk C ls l P
def lsU (ls : Nat → Nat) (C n : Nat) : Nat → Nat := fun i => if i = C then n else ls i
def leA (K : Nat) (bk : Nat → Book) (C : Nat) (ls : Nat → Nat) (P : PBs) : Nat × PBs := lenL K bk C (lsU ls C (pN P)) 1 (if C < 3 then C else 3) P
/-- how it ended, with how many ops -/
def opsL (K : Nat) (bk : Nat → Book) : Nat → Nat → (Nat → Nat) → PBs → Nat × Nat × PBs
  | C, 0, _, P => (0, C, P)
  | C, d + 1, ls, P => if (leA K bk C ls P).1 = 0 then opsL K bk (C + 1) d (lsU ls C (pN P)) (leA K bk C ls P).2 else ((leA K bk C ls P).1, C, (leA K bk C ls P).2)
def P0 (bk : Nat → Book) : PBs := (1, fun _ => (0, fun i => stl (bk (i / 8)) 1 0 (i % 4)), fun _ => 0, fun _ => 0, fun _ => 0)
def srch (K : Nat) (bk : Nat → Book) : Nat × Nat × PBs := opsL K bk 1 9 (fun _ => 0) (P0 bk)
def srI (r : Nat × Nat × PBs) : Int32 := if r.1 = 0 then -2 else if r.1 = 1 then nI r.2.1 else -3
-- no more pigeons than holes
theorem pig : ∀ b a (f : Nat → Nat), (∀ p, p < a → f p < b) → (∀ p q, p < a → q < a → f p = f q → p = q) → a ≤ b := by
  intro b
  induction b with
  | zero =>
    intro a f h1 _
    by_cases h : 0 < a
    · have := h1 0 h; omega
    · omega
  | succ b ih =>
    intro a f h1 h2
    by_cases h : ∃ p, p < a ∧ f p = b
    · obtain ⟨p0, a0, e0⟩ := h
      have := ih (a - 1) (fun p => if p = p0 then f (a - 1) else f p) (fun p hp => by
        by_cases e : p = p0
        · rw [if_pos e]
          have t1 := h1 (a - 1) (by omega)
          by_cases t2 : f (a - 1) = b
          · have := h2 (a - 1) p0 (by omega) a0 (by rw [t2, e0])
            omega
          · omega
        · rw [if_neg e]
          have t1 := h1 p (by omega)
          by_cases t2 : f p = b
          · exact absurd (h2 p p0 (by omega) a0 (by rw [t2, e0])) e
          · omega) (fun p q hp hq e => by
        by_cases e1 : p = p0
        · by_cases e2 : q = p0
          · omega
          · rw [if_pos e1, if_neg e2] at e
            have := h2 (a - 1) q (by omega) (by omega) e
            omega
        · by_cases e2 : q = p0
          · rw [if_neg e1, if_pos e2] at e
            have := h2 p (a - 1) (by omega) (by omega) e
            omega
          · rw [if_neg e1, if_neg e2] at e
            exact h2 p q (by omega) (by omega) e)
      omega
    · have := ih a f (fun p hp => by
        have t1 := h1 p hp
        by_cases t2 : f p = b
        · exact absurd ⟨p, hp, t2⟩ h
        · omega) h2
      omega
-- the class's slots
def mixI (v c : Int32) : Int32 := ((v ^^^ c) * (16777619 : Int32)) ^^^ (((v ^^^ c) * (16777619 : Int32)).toUInt32 >>> ((15 : Int32).toUInt32 &&& Int32.toUInt32 31)).toInt32
def hmixG (mx : Int32 → Int32 → Int32) (f : Nat → Int32) : Nat → Nat → Int32 → Int32
  | _, 0, v => v
  | j, d + 1, v => hmixG mx f (j + 1) d (mx v (f j))
def hmix (f : Nat → Int32) (j d : Nat) (v : Int32) : Int32 := hmixG mixI f j d v
theorem hmixG_congr {mx : Int32 → Int32 → Int32} {f g : Nat → Int32} : ∀ d j v, (∀ i, j ≤ i → i < j + d → f i = g i) → hmixG mx f j d v = hmixG mx g j d v := by
  intro d
  induction d with
  | zero => intro j v _; rfl
  | succ d ih =>
    intro j v h
    unfold hmixG
    rw [h j (Nat.le_refl _) (by omega)]
    exact ih (j + 1) _ (fun i h1 h2 => h i (by omega) (by omega))
theorem hmix_congr {f g : Nat → Int32} (d j : Nat) (v : Int32) (h : ∀ i, j ≤ i → i < j + d → f i = g i) : hmix f j d v = hmix g j d v := by
  unfold hmix
  exact hmixG_congr d j v h
theorem hmixG_0 (mx : Int32 → Int32 → Int32) (f : Nat → Int32) (j : Nat) (v : Int32) : hmixG mx f j 0 v = v := rfl
theorem hmixG_s (mx : Int32 → Int32 → Int32) (f : Nat → Int32) (j d : Nat) (v : Int32) : hmixG mx f j (d + 1) v = hmixG mx f (j + 1) d (mx v (f j)) := rfl
theorem hmix_0 (f : Nat → Int32) (j : Nat) (v : Int32) : hmix f j 0 v = v := by
  unfold hmix
  exact hmixG_0 _ f j v
theorem hmix_s (f : Nat → Int32) (j d : Nat) (v : Int32) : hmix f j (d + 1) v = hmix f (j + 1) d (mixI v (f j)) := by
  unfold hmix
  exact hmixG_s _ f j d v
theorem and4095 (x : Int32) : ∃ z, z < 4096 ∧ (x &&& (4095 : Int32)) = nI z := by
  have h : ∀ y : BitVec 32, ∃ z, z < 4096 ∧ (y &&& 4095#32) = BitVec.ofNat 32 z := by
    intro y
    refine ⟨(y &&& 4095#32).toNat, ?_, by simp⟩
    have : (y &&& 4095#32).toNat ≤ 4095 := by
      rw [BitVec.toNat_and]
      exact Nat.and_le_right
    omega
  obtain ⟨z, z1, z2⟩ := h x.toBitVec
  refine ⟨z, z1, ?_⟩
  apply Int32.toBitVec_inj.mp
  rw [Int32.toBitVec_and]
  exact z2
theorem a4095 (x : Nat) : nI x &&& (4095 : Int32) = nI (x % 4096) := by
  have := nI_andm x 12
  rw [show (2 : Nat) ^ 12 - 1 = 4095 from by decide, show (2 : Nat) ^ 12 = 4096 from by decide] at this
  rw [l4095_]
  exact this
/-- where a row's slot is first looked for -/
def hvS (w : HS) (s K i : Nat) : Nat := (hmix (fun j => ha w s 10 (8 * i + j)) 0 K (ha w s 11 i) &&& (4095 : Int32)).toNatClampNeg
theorem hvS_e (w : HS) (s K i : Nat) : hmix (fun j => ha w s 10 (8 * i + j)) 0 K (ha w s 11 i) &&& (4095 : Int32) = nI (hvS w s K i) ∧ hvS w s K i < 4096 := by
  obtain ⟨z, z1, z2⟩ := and4095 (hmix (fun j => ha w s 10 (8 * i + j)) 0 K (ha w s 11 i))
  unfold hvS
  rw [z2, nI_clamp (by omega)]
  exact ⟨rfl, z1⟩
/-- class: the slots of the first n rows -/
def HTs (w : HS) (s K n : Nat) : Prop := (∀ p, p < 4096 → ha w s 14 p = 0 ∨ ∃ i, i < n ∧ ha w s 14 p = nI (i + 1)) ∧ (∀ p, p < 4096 → ∀ p', p' < 4096 → ∀ i, i < n → ha w s 14 p = nI (i + 1) → ha w s 14 p' = nI (i + 1) → p = p') ∧ ∀ i, i < n → ∃ d, d < 4096 ∧ ha w s 14 ((hvS w s K i + d) % 4096) = nI (i + 1) ∧ ∀ t, t < d → ha w s 14 ((hvS w s K i + t) % 4096) ≠ 0
section SL
variable {w : HS} {s K n r : Nat}
theorem empty_slot (H : HTs w s K n) (n12 : n ≤ 1201) : ∃ p, p < 4096 ∧ ha w s 14 p = 0 := by
  by_cases h : ∃ p, p < 4096 ∧ ha w s 14 p = 0
  · exact h
  · exfalso
    have h' : ∀ p, p < 4096 → ∃ i, i < n ∧ ha w s 14 p = nI (i + 1) := fun p hp => by
      rcases H.1 p hp with z | z
      · exact absurd ⟨p, hp, z⟩ h
      · exact z
    have := pig n 4096 (fun p => (ha w s 14 p).toNatClampNeg - 1) (fun p hp => by
      obtain ⟨i, i1, i2⟩ := h' p hp
      rw [i2, nI_clamp (by omega)]
      omega) (fun p q hp hq e => by
      obtain ⟨i, i1, i2⟩ := h' p hp
      obtain ⟨j, j1, j2⟩ := h' q hq
      rw [i2, j2, nI_clamp (by omega), nI_clamp (by omega)] at e
      have ij : i = j := by omega
      rw [← ij] at j2
      exact H.2.1 p hp q hq i i1 i2 j2)
    omega
theorem slot9 (h8 : hi w s 8 = nI K) (K8 : K ≤ 8) (r12 : r ≤ 1200) : ∀ d j k v, j + d = K → d < k → FX4_slotOf_9 k w s (nI r) v (nI j) = FX4_slotOf_56 FUEL w s (nI r) (hmix (fun j => ha w s 10 (8 * r + j)) j d v &&& (4095 : Int32)) 0 := by
  intro d
  induction d with
  | zero =>
    intro j k v hj hk
    obtain ⟨k, rfl⟩ : ∃ z, k = z + 1 := ⟨k - 1, by omega⟩
    rw [FX4_slotOf_9, h8, hmix_0, if_pos (nI_le (by omega) (by omega))]
  | succ d ih =>
    intro j k v hj hk
    obtain ⟨k, rfl⟩ : ∃ z, k = z + 1 := ⟨k - 1, by omega⟩
    rw [FX4_slotOf_9, h8, show nI r * (8 : Int32) + nI j = nI (8 * r + j) from by rw [l8_, nI_mul, nI_add, Nat.mul_comm], nI_clamp (by omega), nI_1, hmix_s]
    refine E_f (nI_ge (by omega) (by omega)) (E_i rfl (by omega) (by decide) ?_)
    have e : ((v ^^^ ha w s 10 (8 * r + j)) * (16777619 : Int32)) ^^^ (((v ^^^ ha w s 10 (8 * r + j)) * (16777619 : Int32)).toUInt32 >>> ((15 : Int32).toUInt32 &&& Int32.toUInt32 31)).toInt32 = mixI v (ha w s 10 (8 * r + j)) := by unfold mixI; exact Eq.refl _
    rw [e]
    exact ih (j + 1) k _ (by omega) (by omega)
theorem slot_c {sm : Nat → Bool} (s4 : hc w s = 4) (h8 : hi w s 8 = nI K) (K8 : K ≤ 8) (r12 : r ≤ 1200) (H : HTs w s K n) (n12 : n ≤ 1200) (same : ∀ i, i < n → FX4_isSame w s (nI i) (nI r) = some (if sm i = true then 1 else 0, w)) (hs : ∀ i, i < n → sm i = true → hvS w s K i = hvS w s K r) : ∃ p, p < 4096 ∧ FX4_slotOf w s (nI r) = some (nI p, w) ∧ ((∃ i, i < n ∧ sm i = true ∧ ha w s 14 p = nI (i + 1)) ∨ (ha w s 14 p = 0 ∧ (∀ i, i < n → sm i = false) ∧ ∃ d, d < 4096 ∧ p = (hvS w s K r + d) % 4096 ∧ ∀ t, t < d → ha w s 14 ((hvS w s K r + t) % 4096) ≠ 0)) := by
  obtain ⟨e0, h4⟩ := hvS_e w s K r
  obtain ⟨p0, p01, p02⟩ := empty_slot H (by omega)
  obtain ⟨t0, ht0, et0⟩ : ∃ t0, t0 < 4096 ∧ (hvS w s K r + t0) % 4096 = p0 := ⟨(p0 + 4096 - hvS w s K r) % 4096, Nat.mod_lt _ (by decide), by omega⟩
  have loop : ∀ d t k, t + d = t0 → d < k → (∀ u, u < t → ha w s 14 ((hvS w s K r + u) % 4096) ≠ 0 ∧ ∀ i, i < n → ha w s 14 ((hvS w s K r + u) % 4096) = nI (i + 1) → sm i = false) → ∃ p, p < 4096 ∧ FX4_slotOf_56 k w s (nI r) (nI ((hvS w s K r + t) % 4096)) (nI t) = some (nI p, w) ∧ ((∃ i, i < n ∧ sm i = true ∧ ha w s 14 p = nI (i + 1)) ∨ (ha w s 14 p = 0 ∧ (∀ i, i < n → sm i = false) ∧ ∃ d, d < 4096 ∧ p = (hvS w s K r + d) % 4096 ∧ ∀ t, t < d → ha w s 14 ((hvS w s K r + t) % 4096) ≠ 0)) := by
    intro d
    induction d with
    | zero =>
      intro t k ht hk h
      obtain ⟨k, rfl⟩ : ∃ z, k = z + 1 := ⟨k - 1, by omega⟩
      have tt : t = t0 := by omega
      subst tt
      refine ⟨p0, p01, ?_, Or.inr ⟨p02, fun i hi' => ?_, t, ht0, et0.symm, fun u hu => (h u hu).1⟩⟩
      · rw [FX4_slotOf_56, et0, nI_clamp (by omega), p02]
        exact E_f (nI_ge (b := 4096) (by omega) (by decide)) (E_i rfl p01 (by decide) (E_t rfl rfl))
      · cases e : sm i with
        | false => rfl
        | true =>
          exfalso
          obtain ⟨d', d1, d2, d3⟩ := H.2.2 i hi'
          rw [hs i hi' e] at d2 d3
          have dt : d' < t := by
            rcases Nat.lt_trichotomy d' t with q | q | q
            · exact q
            · rw [q, et0, p02] at d2
              exact absurd d2.symm (nI_ne0 (by omega) (by omega))
            · have := d3 t q
              rw [et0] at this
              exact absurd p02 this
          have := (h d' dt).2 i hi' d2
          rw [e] at this
          cases this
    | succ d ih =>
      intro t k ht hk h
      obtain ⟨k, rfl⟩ : ∃ z, k = z + 1 := ⟨k - 1, by omega⟩
      obtain ⟨p, hp⟩ : ∃ p, p = (hvS w s K r + t) % 4096 := ⟨_, rfl⟩
      have p4 : p < 4096 := by rw [hp]; exact Nat.mod_lt _ (by decide)
      rcases H.1 p p4 with z | ⟨i, i1, i2⟩
      · refine ⟨p, p4, ?_, Or.inr ⟨z, fun i hi' => ?_, t, by omega, hp, fun u hu => (h u hu).1⟩⟩
        · rw [FX4_slotOf_56, ← hp, nI_clamp (by omega), z]
          exact E_f (nI_ge (b := 4096) (by omega) (by decide)) (E_i rfl p4 (by decide) (E_t rfl rfl))
        · cases e : sm i with
          | false => rfl
          | true =>
            exfalso
            obtain ⟨d', d1, d2, d3⟩ := H.2.2 i hi'
            rw [hs i hi' e] at d2 d3
            have dt : d' < t := by
              rcases Nat.lt_trichotomy d' t with q | q | q
              · exact q
              · rw [q, ← hp, z] at d2
                exact absurd d2.symm (nI_ne0 (by omega) (by omega))
              · have := d3 t q
                rw [← hp] at this
                exact absurd z this
            have := (h d' dt).2 i hi' d2
            rw [e] at this
            cases this
      · have nz : ¬ ha w s 14 p = 0 := by rw [i2]; exact nI_ne0 (by omega) (by omega)
        have sme := same i i1
        cases e : sm i with
        | true =>
          rw [e] at sme
          refine ⟨p, p4, ?_, Or.inl ⟨i, i1, e, i2⟩⟩
          rw [FX4_slotOf_56, ← hp, nI_clamp (by omega)]
          refine E_f (nI_ge (b := 4096) (by omega) (by decide)) (E_i rfl p4 (by decide) (E_f nz (E_i rfl p4 (by decide) ?_)))
          rw [i2, l1_, nI_subc (by omega), show i + 1 - 1 = i from by omega]
          exact E_b sme (E_f i10 rfl)
        | false =>
          rw [e] at sme
          obtain ⟨p', q1, q2, q3⟩ := ih (t + 1) k (by omega) (by omega) (fun u hu => by
            by_cases ut : u = t
            · rw [ut, ← hp]
              refine ⟨nz, fun j j1 j2 => ?_⟩
              have : i = j := by
                have := (nI_eq (a := i + 1) (b := j + 1) (by omega) (by omega)).mp (by rw [← i2, ← j2])
                omega
              rw [← this]
              exact e
            · exact h u (by omega))
          refine ⟨p', q1, ?_, q3⟩
          rw [FX4_slotOf_56, ← hp, nI_clamp (by omega)]
          refine E_f (nI_ge (b := 4096) (by omega) (by decide)) (E_i rfl p4 (by decide) (E_f nz (E_i rfl p4 (by decide) ?_)))
          rw [i2, l1_, nI_subc (by omega), show i + 1 - 1 = i from by omega]
          refine E_b sme (E_t rfl ?_)
          dsimp only
          rw [nI_add, nI_add, a4095, show (p + 1) % 4096 = (hvS w s K r + (t + 1)) % 4096 from by omega]
          exact q2
  obtain ⟨p, q1, q2, q3⟩ := loop t0 0 FUEL (by omega) (fuel_lt (by omega)) (fun u hu => absurd hu (Nat.not_lt_zero _))
  refine ⟨p, q1, ?_, q3⟩
  rw [Nat.add_zero, Nat.mod_eq_of_lt h4, ← e0] at q2
  unfold FX4_slotOf
  rw [nI_clamp (by omega)]
  refine E_c s4 (E_i rfl (by omega) (by decide) ?_)
  exact Eq.trans (slot9 h8 K8 r12 K 0 FUEL _ (by omega) (fuel_lt (by omega))) q2
/-- a row more -/
theorem HTs.ins {w' : HS} {p : Nat} (H : HTs w s K n) (n12 : n ≤ 1200) (p4 : p < 4096) (z : ha w s 14 p = 0) {d : Nat} (d4 : d < 4096) (hp : p = (hvS w s K n + d) % 4096) (path : ∀ t, t < d → ha w s 14 ((hvS w s K n + t) % 4096) ≠ 0) (e14 : ∀ q, ha w' s 14 q = if q = p then nI (n + 1) else ha w s 14 q) (hv : ∀ i, i ≤ n → hvS w' s K i = hvS w s K i) : HTs w' s K (n + 1) := by
  obtain ⟨h1, h2, h3⟩ := H
  refine ⟨fun q hq => ?_, fun q hq q' hq' i hi' e e' => ?_, fun i hi' => ?_⟩
  · rw [e14]
    by_cases e : q = p
    · rw [if_pos e]; exact Or.inr ⟨n, by omega, rfl⟩
    · rw [if_neg e]
      rcases h1 q hq with y | ⟨i, i1, i2⟩
      · exact Or.inl y
      · exact Or.inr ⟨i, by omega, i2⟩
  · rw [e14] at e e'
    have old : ∀ q, q < 4096 → ¬ q = p → ha w s 14 q = nI (n + 1) → False := by
      intro q hq _ y
      rcases h1 q hq with x | ⟨j, j1, j2⟩
      · rw [x] at y; exact absurd y.symm (nI_ne0 (by omega) (by omega))
      · rw [y] at j2
        have := (nI_eq (a := n + 1) (b := j + 1) (by omega) (by omega)).mp j2
        omega
    by_cases a : q = p
    · by_cases b : q' = p
      · omega
      · rw [if_pos a] at e
        rw [if_neg b] at e'
        have : n = i := by
          have := (nI_eq (a := n + 1) (b := i + 1) (by omega) (by omega)).mp e
          omega
        rw [← this] at e'
        exact absurd e' (fun y => old q' hq' b y)
    · by_cases b : q' = p
      · rw [if_neg a] at e
        rw [if_pos b] at e'
        have : n = i := by
          have := (nI_eq (a := n + 1) (b := i + 1) (by omega) (by omega)).mp e'
          omega
        rw [← this] at e
        exact absurd e (fun y => old q hq a y)
      · rw [if_neg a] at e
        rw [if_neg b] at e'
        by_cases hn : i = n
        · rw [hn] at e
          exact absurd e (fun y => old q hq a y)
        · exact h2 q hq q' hq' i (by omega) e e'
  · by_cases hn : i = n
    · subst hn
      refine ⟨d, d4, ?_, fun t ht => ?_⟩
      · rw [hv i (Nat.le_refl _), e14, if_pos hp.symm]
      · rw [hv i (Nat.le_refl _), e14]
        split
        · exact nI_ne0 (by omega) (by omega)
        · exact path t ht
    · obtain ⟨d', d1, d2, d3⟩ := h3 i (by omega)
      refine ⟨d', d1, ?_, fun t ht => ?_⟩
      · rw [hv i (by omega), e14, if_neg (fun y => by
          rw [y, z] at d2
          exact absurd d2.symm (nI_ne0 (by omega) (by omega)))]
        exact d2
      · rw [hv i (by omega), e14]
        split
        · exact nI_ne0 (by omega) (by omega)
        · exact d3 t ht
end SL
