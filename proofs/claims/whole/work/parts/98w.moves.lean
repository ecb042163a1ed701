/-! The search: what a step makes of the two cells; the class's moves. -/
def dueA (sd act : Nat) : Nat := if act = 0 then sd else act
def itO (b : Book) (cell sd act st : Nat) : Nat := if st = 4 then 4 else if act = 0 ∧ otB b cell 0 st / 4 ≠ sd - 1 then 4 else otB b cell act st % 4
/-- what a sound memory has ahead of op i -/
def sdI (k sd : Nat) : Nat → Nat
  | 0 => sd
  | i + 1 => dueA (sdI k sd i) (sAc k i)
/-- a cell's i ops -/
def itI (b : Book) (c k sd : Nat) : Nat → Nat → Nat
  | 0, st => st
  | i + 1, st => itO b c (sdI k sd i) (sAc k i) (itI b c k sd i st)
/-- all ops on the first cell, then on the other one -/
def itS (b : Book) (c1 k sd st : Nat) : Nat := itI b (1 - c1) k sd (sLn k) (itI b c1 k sd (sLn k) st)
/-- there is such a step -/
def okS (k sd : Nat) : Bool := decide (¬ (sd = 0 ∧ sAc k 0 = 0))
theorem sAc3 (k i : Nat) : sAc k i < 3 := Nat.mod_lt _ (by decide)
theorem sdI_le {k sd : Nat} (h : sd < 3) : ∀ i, sdI k sd i < 3 := by
  intro i
  induction i with
  | zero => exact h
  | succ i ih =>
    show dueA _ _ < 3
    unfold dueA
    have := sAc3 k i
    split <;> omega
theorem sdI_pos {k sd : Nat} (h : okS k sd = true) : ∀ i, sAc k i = 0 ∨ 0 < i → (0 < sdI k sd i) := by
  have h' : ¬ (sd = 0 ∧ sAc k 0 = 0) := of_decide_eq_true h
  intro i
  induction i with
  | zero =>
    intro hz
    show 0 < sd
    omega
  | succ i ih =>
    intro _
    show 0 < dueA _ _
    unfold dueA
    by_cases e : sAc k i = 0
    · rw [if_pos e]
      exact ih (Or.inl e)
    · rw [if_neg e]
      omega
theorem itO_le {b : Book} {c sd act st : Nat} : itO b c sd act st ≤ 4 := by
  unfold itO
  split
  · omega
  · split
    · omega
    · have := Nat.mod_lt (otB b c act st) (show 4 > 0 by decide); omega
theorem itI_le {b : Book} {c k sd st : Nat} (h : st ≤ 4) : ∀ i, itI b c k sd i st ≤ 4 := by
  intro i
  cases i with
  | zero => exact h
  | succ i => exact itO_le
theorem itI_4 {b : Book} {c k sd : Nat} : ∀ i, itI b c k sd i 4 = 4 := by
  intro i
  induction i with
  | zero => rfl
  | succ i ih =>
    show itO _ _ _ _ _ = 4
    rw [ih]
    unfold itO
    rw [if_pos rfl]
theorem itI_stay {b : Book} {c k sd st : Nat} : ∀ d i, itI b c k sd i st = 4 → itI b c k sd (i + d) st = 4 := by
  intro d
  induction d with
  | zero => intro i h; exact h
  | succ d ih =>
    intro i h
    have := ih i h
    show itO _ _ _ _ (itI b c k sd (i + d) st) = 4
    rw [this]
    unfold itO
    rw [if_pos rfl]
theorem itS_le {b : Book} {c k sd st : Nat} (h : st ≤ 4) : itS b c k sd st ≤ 4 := itI_le (itI_le h _) _
section BS
variable {w : HS} {s kp c1 k sd : Nat} {b : Book}
theorem bs48 {k21 : HS → Nat → Nat → Int32 → Int32 → Int32 → Int32 → Int32 → Int32 → Int32 → Option (Int32 × HS)} (s4 : hc w s = 4) (T : STk w s 78) (K : CK w kp b) (W : WB b) (k78 : k < 78) (c2 : c1 < 2) {i e x sdv : Nat} (he : e < sLn k) (hi' : i = e ∨ i = sLn k + e) (x4 : x < 4) (sd3 : sdv < 3) (hp : sAc k e = 0 → 0 < sdv) : FX4_behindStep_48 k21 w s kp (nI c1) (nI sd) (nI k) (nI (sLn k)) (nI x) (dI sdv) (nI i) = k21 w s kp (nI c1) (nI sd) (nI k) (nI (sLn k)) (nI (itO b (if i < sLn k then c1 else 1 - c1) sdv (sAc k e) x)) (dI (dueA sdv (sAc k e))) (nI (i + 1)) := by
  obtain ⟨_, _, t4⟩ := T k k78
  have l3 := (sLn3 k).2
  have a3 := sAc3 k e
  obtain ⟨cell, hcell⟩ : ∃ cell, cell = if i < sLn k then c1 else 1 - c1 := ⟨_, rfl⟩
  have cl : cell < 2 := by rw [hcell]; split <;> omega
  rw [← hcell]
  have o8 := otB8 (act := sAc k e) W x4 cl a3
  -- the state and what is due then
  have s123 : ∀ y : Nat, FX4_behindStep_123 k21 w s kp (nI c1) (nI sd) (nI k) (nI (sLn k)) (dI sdv) (nI i) (nI (sAc k e)) (nI y) = k21 w s kp (nI c1) (nI sd) (nI k) (nI (sLn k)) (nI y) (dI (dueA sdv (sAc k e))) (nI (i + 1)) := by
    intro y
    unfold FX4_behindStep_123 FX4_behindStep_139 dueA
    rw [nI_1]
    by_cases a0 : sAc k e = 0
    · rw [if_pos a0, if_pos (by rw [a0]; rfl)]
    · rw [if_neg a0, if_neg (nI_ne0 (by omega) (by omega))]
      rfl
  have s92 : FX4_behindStep_92 k21 w s kp (nI c1) (nI sd) (nI k) (nI (sLn k)) (nI x) (dI sdv) (nI i) (nI (sAc k e)) (nI cell) kp = k21 w s kp (nI c1) (nI sd) (nI k) (nI (sLn k)) (nI (itO b cell sdv (sAc k e) x)) (dI (dueA sdv (sAc k e))) (nI (i + 1)) := by
    unfold FX4_behindStep_92
    rw [ck_out K x4 cl a3]
    show (if nI (sAc k e) = 0 then _ else _) = _
    dsimp only
    rw [sh2 _ o8]
    unfold itO
    rw [if_neg (show ¬ x = 4 by omega)]
    by_cases a0 : sAc k e = 0
    · rw [if_pos (by rw [a0]; rfl)]
      have sp := hp a0
      have ed : dI sdv = nI (sdv - 1) := by rw [show sdv = (sdv - 1) + 1 from by omega, dI_s]; rfl
      by_cases q : otB b cell 0 x / 4 = sdv - 1
      · rw [if_pos (by rw [a0, q, ed]), if_neg (fun z => z.2 q)]
        unfold FX4_behindStep_119
        rw [fx3 _ o8]
        exact s123 _
      · rw [if_neg (by
          rw [ed, a0]
          rw [a0] at o8
          exact fun z => q ((nI_eq (by omega) (by omega)).mp z)), if_pos ⟨a0, q⟩]
        exact s123 4
    · rw [if_neg (nI_ne0 (by omega) (by omega)), if_neg (fun z => a0 z.1)]
      unfold FX4_behindStep_119
      rw [fx3 _ o8]
      exact s123 _
  have s73 : FX4_behindStep_73 k21 w s kp (nI c1) (nI sd) (nI k) (nI (sLn k)) (nI x) (dI sdv) (nI i) (nI e) (nI k * (3 : Int32)) s = k21 w s kp (nI c1) (nI sd) (nI k) (nI (sLn k)) (nI (itO b cell sdv (sAc k e) x)) (dI (dueA sdv (sAc k e))) (nI (i + 1)) := by
    unfold FX4_behindStep_73
    rw [show nI k * (3 : Int32) + nI e = nI (3 * k + e) from by rw [l3_, nI_mul, nI_add, Nat.mul_comm], nI_clamp (by omega), t4 e he]
    refine E_c s4 (E_i rfl (by omega) (by decide) ?_)
    by_cases h : i < sLn k
    · rw [if_pos h] at hcell
      rw [hcell] at s92 ⊢
      rw [if_neg (nI_ge h (by omega))]
      exact s92
    · rw [if_neg h] at hcell
      rw [if_pos (nI_le (by omega) (by omega)), show (1 : Int32) - nI c1 = nI (1 - c1) from by rw [l1_, nI_subc (by omega)], ← hcell]
      exact s92
  unfold FX4_behindStep_48
  by_cases h : i < sLn k
  · have ie : i = e := by omega
    rw [if_neg (nI_ge h (by omega))]
    rw [← ie] at s73 ⊢
    exact s73
  · have ie : e = i - sLn k := by omega
    rw [if_pos (nI_le (by omega) (by omega)), nI_subc (by omega), ← ie]
    exact s73
/-- class: what a step makes of a state -/
theorem bstep_c (s4 : hc w s = 4) (T : STk w s 78) (K : CK w kp b) (W : WB b) (k78 : k < 78) (c2 : c1 < 2) (sd3 : sd < 3) (ok : okS k sd = true) {x : Nat} (x4 : x < 4) : FX4_behindStep w s kp (nI c1) (nI sd) (nI k) (nI x) = some (nI (itS b c1 k sd x), w) := by
  obtain ⟨l0, l3⟩ := sLn3 k
  obtain ⟨t2, _, _⟩ := T k k78
  have r2 : (2 : Int32) * nI (sLn k) = nI (2 * sLn k) := by rw [l2_, nI_mul]
  -- the second cell
  have ph2 : ∀ d e n y v8, e + d = sLn k → d < n → y ≤ 4 → (0 < e → v8 = dI (sdI k sd e)) → FX4_behindStep_21 n w s kp (nI c1) (nI sd) (nI k) (nI (sLn k)) (nI (itI b (1 - c1) k sd e y)) v8 (nI (sLn k + e)) = some (nI (itI b (1 - c1) k sd (sLn k) y), w) := by
    intro d
    induction d with
    | zero =>
      intro e n y v8 he hn hy _
      obtain ⟨n, rfl⟩ : ∃ z, n = z + 1 := ⟨n - 1, by omega⟩
      have ee : e = sLn k := by omega
      rw [FX4_behindStep_21, r2, ee]
      exact E_t (nI_le (by omega) (by omega)) rfl
    | succ d ih =>
      intro e n y v8 he hn hy hv
      obtain ⟨n, rfl⟩ : ∃ z, n = z + 1 := ⟨n - 1, by omega⟩
      have y4 := itI_le (b := b) (c := 1 - c1) (k := k) (sd := sd) hy e
      rw [FX4_behindStep_21, r2, if_neg (nI_ge (by omega) (by omega))]
      by_cases f : itI b (1 - c1) k sd e y = 4
      · rw [f, if_pos (show nI 4 = (4 : Int32) from rfl)]
        have := itI_stay (sLn k - e) e f
        rw [show e + (sLn k - e) = sLn k from by omega] at this
        rw [this]
      · rw [if_neg (show ¬ nI (itI b (1 - c1) k sd e y) = (4 : Int32) from fun z => f ((nI_eq (a := itI b (1 - c1) k sd e y) (b := 4) (by omega) (by decide)).mp z))]
        have st := ih (e + 1) n y (dI (sdI k sd (e + 1))) (by omega) (by omega) hy (fun _ => rfl)
        have go := bs48 (k21 := FX4_behindStep_21 n) (sd := sd) (i := sLn k + e) (e := e) (x := itI b (1 - c1) k sd e y) (sdv := sdI k sd e) s4 T K W k78 c2 (by omega) (Or.inr rfl) (by omega) (sdI_le sd3 e) (fun z => sdI_pos ok e (Or.inl z))
        rw [if_neg (show ¬ sLn k + e < sLn k by omega)] at go
        by_cases e0 : e = 0
        · subst e0
          rw [if_pos (show nI (sLn k + 0) = nI (sLn k) from rfl)]
          exact Eq.trans go st
        · rw [if_neg (show ¬ nI (sLn k + e) = nI (sLn k) from fun z => by
            have := (nI_eq (a := sLn k + e) (b := sLn k) (by omega) (by omega)).mp z
            omega), hv (by omega)]
          exact Eq.trans go st
  -- the first cell
  have ph1 : ∀ d e n, e + d = sLn k → d + 4 < n → FX4_behindStep_21 n w s kp (nI c1) (nI sd) (nI k) (nI (sLn k)) (nI (itI b c1 k sd e x)) (dI (sdI k sd e)) (nI e) = some (nI (itS b c1 k sd x), w) := by
    intro d
    induction d with
    | zero =>
      intro e n he hn
      have ee : e = sLn k := by omega
      subst ee
      exact ph2 (sLn k) 0 n (itI b c1 k sd (sLn k) x) _ (by omega) (by omega) (itI_le (by omega) _) (fun z => absurd z (Nat.lt_irrefl _))
    | succ d ih =>
      intro e n he hn
      obtain ⟨n, rfl⟩ : ∃ z, n = z + 1 := ⟨n - 1, by omega⟩
      have y4 := itI_le (b := b) (c := c1) (k := k) (sd := sd) (show x ≤ 4 by omega) e
      rw [FX4_behindStep_21, r2, if_neg (nI_ge (by omega) (by omega))]
      by_cases f : itI b c1 k sd e x = 4
      · rw [f, if_pos (show nI 4 = (4 : Int32) from rfl)]
        have := itI_stay (sLn k - e) e f
        rw [show e + (sLn k - e) = sLn k from by omega] at this
        unfold itS
        rw [this, itI_4]
      · rw [if_neg (show ¬ nI (itI b c1 k sd e x) = (4 : Int32) from fun z => f ((nI_eq (a := itI b c1 k sd e x) (b := 4) (by omega) (by decide)).mp z))]
        have st := ih (e + 1) n (by omega) (by omega)
        have go := bs48 (k21 := FX4_behindStep_21 n) (sd := sd) (i := e) (e := e) (x := itI b c1 k sd e x) (sdv := sdI k sd e) s4 T K W k78 c2 (by omega) (Or.inl rfl) (by omega) (sdI_le sd3 e) (fun z => sdI_pos ok e (Or.inl z))
        rw [if_pos (show e < sLn k by omega)] at go
        rw [if_neg (show ¬ nI e = nI (sLn k) from fun z => by
          have := (nI_eq (a := e) (b := sLn k) (by omega) (by omega)).mp z
          omega)]
        exact Eq.trans go st
  unfold FX4_behindStep
  rw [nI_clamp (by omega), t2]
  refine E_c s4 (E_i rfl k78 (by decide) ?_)
  exact ph1 (sLn k) 0 FUEL (by omega) (fuel_lt (by omega))
/-- a move's fields -/
def mvD (b : Book) (sd k t : Nat) : Nat := if t < 4 then itS b (1 - sDn k) k sd t else if t = 4 then 4 else if t < 9 then itS b (sDn k) k sd (t - 5) else 4
theorem sDn2 (k : Nat) : sDn k < 2 := by unfold sDn; split <;> decide
theorem mv0 : ∀ t, t < 10 → dg 536887296 t = if t = 4 ∨ t = 9 then 4 else 0 := by decide +kernel
theorem or0 (x : Nat) : 0 ||| x = x := Nat.zero_or x
theorem move_c (s4 : hc w s = 4) (T : STk w s 78) (K : CK w kp b) (W : WB b) (k78 : k < 78) (sd3 : sd < 3) (ok : okS k sd = true) : ∃ y, FX4_moveOf w s kp (nI sd) (nI k) = some (nI y, w) ∧ y < 8 ^ 10 ∧ ∀ t, t < 10 → dg y t = mvD b sd k t := by
  obtain ⟨_, t3, _⟩ := T k k78
  have d2 := sDn2 k
  have loop : ∀ d x n y, x + d = 4 → d < n → y < 8 ^ 10 → (∀ t, t < 10 → dg y t = if t = 4 ∨ t = 9 then 4 else if t < x ∨ (5 ≤ t ∧ t < 5 + x) then mvD b sd k t else 0) → ∃ y', FX4_moveOf_23 n w s kp (nI sd) (nI k) (nI y) (nI (1 - sDn k)) (nI x) = some (nI y', w) ∧ y' < 8 ^ 10 ∧ ∀ t, t < 10 → dg y' t = mvD b sd k t := by
    intro d
    induction d with
    | zero =>
      intro x n y hx hn hy h
      obtain ⟨n, rfl⟩ : ∃ z, n = z + 1 := ⟨n - 1, by omega⟩
      refine ⟨y, ?_, hy, fun t ht => ?_⟩
      · rw [FX4_moveOf_23]
        exact E_t (nI_le (a := 4) (by omega) (by omega)) rfl
      · rw [h t ht]
        by_cases e : t = 4 ∨ t = 9
        · rw [if_pos e]
          unfold mvD
          rcases e with e | e
          · rw [if_neg (by omega), if_pos e]
          · rw [if_neg (by omega), if_neg (by omega), if_neg (by omega)]
        · rw [if_neg e, if_pos (by omega)]
    | succ d ih =>
      intro x n y hx hn hy h
      obtain ⟨n, rfl⟩ : ∃ z, n = z + 1 := ⟨n - 1, by omega⟩
      have q1 := bstep_c (c1 := 1 - sDn k) s4 T K W k78 (by omega) sd3 ok (show x < 4 by omega)
      have q2 := bstep_c (c1 := sDn k) s4 T K W k78 d2 sd3 ok (show x < 4 by omega)
      have b1 := itS_le (b := b) (c := 1 - sDn k) (k := k) (sd := sd) (show x ≤ 4 by omega)
      have b2 := itS_le (b := b) (c := sDn k) (k := k) (sd := sd) (show x ≤ 4 by omega)
      have m1 : mvD b sd k x = itS b (1 - sDn k) k sd x := by unfold mvD; rw [if_pos (by omega)]
      have m2 : mvD b sd k (5 + x) = itS b (sDn k) k sd x := by unfold mvD; rw [if_neg (by omega), if_neg (by omega), if_pos (by omega), show 5 + x - 5 = x from by omega]
      obtain ⟨y', e', r'⟩ := ih (x + 1) n ((y ||| itS b (1 - sDn k) k sd x * 8 ^ x) ||| itS b (sDn k) k sd x * 8 ^ (5 + x)) (by omega) (by omega) (or_lt8 (or_lt8 hy (at_lt8 (by omega) (by omega))) (at_lt8 (by omega) (by omega))) (by
        intro t ht
        rw [dg_or, dg_or, dg_at (by omega), dg_at (by omega), h t ht]
        by_cases e : t = 4 ∨ t = 9
        · rw [if_pos e, if_neg (by omega), if_neg (by omega), if_pos e]
          rfl
        · rw [if_neg e, if_neg e]
          by_cases t1 : t = x
          · subst t1
            rw [if_neg (by omega), if_pos rfl, if_neg (by omega), if_pos (by omega), m1, or0, Nat.or_zero]
          · by_cases t2 : t = 5 + x
            · subst t2
              rw [if_neg (by omega), if_neg (by omega), if_pos rfl, if_pos (by omega), m2, or0, or0]
            · rw [if_neg t1, if_neg t2, Nat.or_zero, Nat.or_zero]
              by_cases t3 : t < x ∨ 5 ≤ t ∧ t < 5 + x
              · rw [if_pos t3, if_pos (by omega)]
              · rw [if_neg t3, if_neg (by omega)])
      refine ⟨y', ?_, r'⟩
      rw [FX4_moveOf_23]
      refine E_f (nI_ge (b := 4) (by omega) (by decide)) (E_b q1 ?_)
      dsimp only
      rw [show (1 : Int32) - nI (1 - sDn k) = nI (sDn k) from by rw [l1_, nI_subc (by omega), show 1 - (1 - sDn k) = sDn k from by omega]]
      refine E_b q2 ?_
      dsimp only
      rw [show (3 : Int32) * nI x = nI (3 * x) from by rw [l3_, nI_mul], show (15 : Int32) + nI (3 * x) = nI (3 * (5 + x)) from by rw [l15_, nI_add, show 15 + 3 * x = 3 * (5 + x) from by omega], nI_put (by omega), nI_put (by omega), nI_or, nI_or, nI_1]
      exact e'
  obtain ⟨y', e', r'⟩ := loop 4 0 FUEL 536887296 rfl (fuel_lt (by decide)) (by decide) (fun t ht => by
    rw [mv0 t ht]
    by_cases e : t = 4 ∨ t = 9
    · rw [if_pos e, if_pos e]
    · rw [if_neg e, if_neg e, if_neg (by omega)])
  refine ⟨y', ?_, r'⟩
  unfold FX4_moveOf FX4_moveOf_18
  rw [nI_clamp (by omega), t3]
  refine E_c s4 (E_i rfl k78 (by decide) ?_)
  by_cases e : sDn k = 0
  · rw [e] at e' ⊢
    exact E_t rfl e'
  · have e1 : sDn k = 1 := by omega
    rw [e1] at e' ⊢
    exact E_f (by decide) e'
end BS
