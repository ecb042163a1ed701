/-! The search: a state arrives, class. -/
/-- class: row i holds this state -/
def CRow (w : HS) (s K i : Nat) (a : AS) : Prop := ha w s 11 i = nI a.1 ∧ a.1 < 3 ∧ ∀ j, j < K → ∃ c, ha w s 10 (8 * i + j) = nI c ∧ c < 8 ^ 8 ∧ ∀ t, t < 8 → dg c t = a.2 (8 * j + t) ∧ a.2 (8 * j + t) ≤ 4
section AR
variable {w : HS} {s K n i r k : Nat} {a a' : AS} {bk : Nat → Book}
theorem p88 : (8 : Nat) ^ 8 = 16777216 := by decide
theorem CRow.code (A : CRow w s K i a) (A' : CRow w s K r a') {j : Nat} (hj' : j < K) : ha w s 10 (8 * i + j) = ha w s 10 (8 * r + j) ↔ ∀ t, t < 8 → a.2 (8 * j + t) = a'.2 (8 * j + t) := by
  obtain ⟨c, c1, c2, c3⟩ := A.2.2 j hj'
  obtain ⟨d, d1, d2, d3⟩ := A'.2.2 j hj'
  rw [c1, d1, nI_eq (by rw [p88] at c2; omega) (by rw [p88] at d2; omega)]
  constructor
  · intro e t ht
    rw [← (c3 t ht).1, ← (d3 t ht).1, e]
  · intro h
    refine dg_ext 8 c2 d2 (fun t ht => ?_)
    rw [(c3 t ht).1, (d3 t ht).1, h t ht]
theorem same_c (s4 : hc w s = 4) (h8 : hi w s 8 = nI K) (K8 : K ≤ 8) (i12 : i ≤ 1200) (r12 : r ≤ 1200) (A : CRow w s K i a) (A' : CRow w s K r a') : FX4_isSame w s (nI i) (nI r) = some (if eqS K a a' = true then 1 else 0, w) := by
  have a3 := A.2.1
  have a3' := A'.2.1
  unfold FX4_isSame
  rw [nI_clamp (n := i) (by omega), nI_clamp (n := r) (by omega), A.1, A'.1]
  refine E_c s4 (E_i rfl (by omega) (by decide) (E_i rfl (by omega) (by decide) ?_))
  by_cases e : a.1 = a'.1
  · refine E_t (by rw [e]) ?_
    have loop : ∀ d j m, j + d = K → d < m → (∀ i', i' < 8 * j → a.2 i' = a'.2 i') → FX4_isSame_19 m w s (nI i) (nI r) (nI j) = some (if eqS K a a' = true then 1 else 0, w) := by
      intro d
      induction d with
      | zero =>
        intro j m hj' hm h
        obtain ⟨m, rfl⟩ : ∃ z, m = z + 1 := ⟨m - 1, by omega⟩
        have t : eqS K a a' = true := decide_eq_true ⟨e, fun i' hi' => h i' (by omega)⟩
        rw [FX4_isSame_19, h8, if_pos t]
        exact E_t (nI_le (by omega) (by omega)) rfl
      | succ d ih =>
        intro j m hj' hm h
        obtain ⟨m, rfl⟩ : ∃ z, m = z + 1 := ⟨m - 1, by omega⟩
        have cd := A.code A' (show j < K by omega)
        rw [FX4_isSame_19, h8, show nI i * (8 : Int32) + nI j = nI (8 * i + j) from by rw [l8_, nI_mul, nI_add, Nat.mul_comm], show nI r * (8 : Int32) + nI j = nI (8 * r + j) from by rw [l8_, nI_mul, nI_add, Nat.mul_comm], nI_clamp (n := 8 * i + j) (by omega), nI_clamp (n := 8 * r + j) (by omega)]
        refine E_f (nI_ge (by omega) (by omega)) (E_i rfl (by omega) (by decide) (E_i rfl (by omega) (by decide) ?_))
        by_cases q : ha w s 10 (8 * i + j) = ha w s 10 (8 * r + j)
        · refine E_t q ?_
          rw [nI_1]
          refine ih (j + 1) m (by omega) (by omega) (fun i' hi' => ?_)
          by_cases l : i' < 8 * j
          · exact h i' l
          · have := cd.mp q (i' - 8 * j) (by omega)
            rw [show 8 * j + (i' - 8 * j) = i' from by omega] at this
            exact this
        · have t : ¬ eqS K a a' = true := by
            intro z
            have z' := (of_decide_eq_true z).2
            exact q (cd.mpr (fun t ht => z' _ (by omega)))
          rw [if_neg t]
          exact E_f q rfl
    exact loop K 0 FUEL (by omega) (fuel_lt (by omega)) (fun i' hi' => absurd hi' (by omega))
  · have t : ¬ eqS K a a' = true := fun z => e (of_decide_eq_true z).1
    rw [if_neg t]
    exact E_f (fun z => e ((nI_eq (by omega) (by omega)).mp z)) rfl
theorem CRow.hv (A : CRow w s K i a) (A' : CRow w s K r a') (e : eqS K a a' = true) : hvS w s K i = hvS w s K r := by
  obtain ⟨e1, e2⟩ := of_decide_eq_true e
  unfold hvS
  rw [A.1, A'.1, e1, hmix_congr (f := fun j => ha w s 10 (8 * i + j)) (g := fun j => ha w s 10 (8 * r + j)) K 0 _ (fun j _ hj' => (A.code A' (by omega)).mpr (fun t ht => e2 _ (by omega)))]
theorem CRow.fr {w' : HS} (A : CRow w s K i a) (e11 : ha w' s 11 i = ha w s 11 i) (e10 : ∀ j, j < K → ha w' s 10 (8 * i + j) = ha w s 10 (8 * i + j)) : CRow w' s K i a := by
  refine ⟨by rw [e11]; exact A.1, A.2.1, fun j hj' => ?_⟩
  obtain ⟨c, c1, c2⟩ := A.2.2 j hj'
  exact ⟨c, by rw [e10 j hj']; exact c1, c2⟩
theorem hvS_fr {w' : HS} (e11 : ha w' s 11 i = ha w s 11 i) (e10 : ∀ j, j < K → ha w' s 10 (8 * i + j) = ha w s 10 (8 * i + j)) : hvS w' s K i = hvS w s K i := by
  unfold hvS
  rw [e11, hmix_congr (f := fun j => ha w' s 10 (8 * i + j)) (g := fun j => ha w s 10 (8 * i + j)) K 0 _ (fun j _ hj' => e10 j (by omega))]
/-- class: the search stands here -/
def CRp (w : HS) (s K : Nat) (ks : Nat → Nat) (bk : Nat → Book) (P : PBs) : Prop := hc w s = 4 ∧ STk w s 78 ∧ hi w s 8 = nI K ∧ K ≤ 8 ∧ 0 < K ∧ (∀ j, j < K → ha w s 7 j = nI (ks j) ∧ ks j < 8 ∧ MVc w s (ks j) (bk j)) ∧ hi w s 9 = nI (pN P) ∧ pN P ≤ 1200 ∧ 0 < pN P ∧ (∀ i, i < pN P → CRow w s K i (pS P i)) ∧ (∀ i, 0 < i → i < pN P → ha w s 12 i = nI (pP P i) ∧ ha w s 13 i = nI (pB P i) ∧ pP P i < i ∧ pB P i < 78) ∧ HTs w s K (pN P)
/-- what an arrival may change -/
def PAr (s : Nat) : Nat → Nat → Prop := fun b j => b = s ∧ 9 ≤ j ∧ j ≤ 14
theorem sb_c (s4 : hc w s = 4) (T : STk w s 78) (k78 : k < 78) {sd : Nat} (sd3 : sd < 3) : FX4_soundBehind w s (nI sd) (nI k) = some (nI (sdI k sd (sLn k)), w) := by
  obtain ⟨t2, _, t4⟩ := T k k78
  have l3 := (sLn3 k).2
  have loop : ∀ d e m, e + d = sLn k → d < m → FX4_soundBehind_5 m w s (nI k) (nI (sdI k sd e)) (nI e) = some (nI (sdI k sd (sLn k)), w) := by
    intro d
    induction d with
    | zero =>
      intro e m he hm
      obtain ⟨m, rfl⟩ : ∃ z, m = z + 1 := ⟨m - 1, by omega⟩
      have ee : e = sLn k := by omega
      subst ee
      rw [FX4_soundBehind_5, nI_clamp (n := k) (by omega), t2]
      exact E_i rfl k78 (by decide) (E_t (nI_le (Nat.le_refl _) (by omega)) rfl)
    | succ d ih =>
      intro e m he hm
      obtain ⟨m, rfl⟩ : ∃ z, m = z + 1 := ⟨m - 1, by omega⟩
      have a3 := sAc3 k e
      have st := ih (e + 1) m (by omega) (by omega)
      rw [FX4_soundBehind_5, nI_clamp (n := k) (by omega), t2, show nI k * (3 : Int32) + nI e = nI (3 * k + e) from by rw [l3_, nI_mul, nI_add, Nat.mul_comm], nI_clamp (n := 3 * k + e) (by omega), t4 e (by omega)]
      refine E_i rfl k78 (by decide) (E_f (nI_ge (by omega) (by omega)) (E_i rfl (by omega) (by decide) ?_))
      unfold FX4_soundBehind_40
      rw [nI_1]
      by_cases a0 : sAc k e = 0
      · refine E_t (by rw [a0]; rfl) ?_
        rw [show sdI k sd (e + 1) = sdI k sd e from if_pos a0] at st
        exact st
      · refine E_f (nI_ne0 (by omega) (by omega)) ?_
        rw [show sdI k sd (e + 1) = sAc k e from if_neg a0] at st
        exact st
  unfold FX4_soundBehind
  exact E_c s4 (loop (sLn k) 0 FUEL (by omega) (fuel_lt (by omega)))
theorem allC : ∀ t, t < 8 → dg 9586980 t = 4 := by decide +kernel
theorem mv_item {b : Book} {sd st t x : Nat} (x4 : x ≤ 4) (ht : t < 8) : mvD b sd st ((if t < 4 then 0 else 5) + x) = itS b (if t / 4 % 2 = 0 then 1 - sDn st else sDn st) st sd x := by
  unfold mvD
  by_cases t4 : t < 4
  · rw [if_pos t4, Nat.zero_add, if_pos (show t / 4 % 2 = 0 by omega)]
    by_cases e : x = 4
    · rw [if_neg (by omega), if_pos e, e]
      unfold itS
      rw [itI_4, itI_4]
    · rw [if_pos (by omega)]
  · rw [if_neg t4, if_neg (show ¬ t / 4 % 2 = 0 by omega), if_neg (by omega), if_neg (by omega)]
    by_cases e : x = 4
    · rw [if_neg (by omega), e]
      unfold itS
      rw [itI_4, itI_4]
    · rw [if_pos (by omega), show 5 + x - 5 = x from by omega]
theorem arr5 {P : PBs} {s0 : Nat} {ks : Nat → Nat} {w0 : HS} (R : CRp w0 s K ks bk P) (hs0 : s0 < pN P) (k78 : k < 78) (ok : okS k (pS P s0).1 = true) : ∀ d j m w ov, j + d = K → d < m → Fr (fun b i => b = s ∧ i = 10) w0 w → (∀ i, i < 8 * pN P → ha w s 10 i = ha w0 s 10 i) → (∀ j', j' < j → ∃ c, ha w s 10 (8 * pN P + j') = nI c ∧ c < 8 ^ 8 ∧ ∀ t, t < 8 → dg c t = (nxA bk (pS P s0) k).2 (8 * j' + t) ∧ (nxA bk (pS P s0) k).2 (8 * j' + t) ≤ 4) → ov = (if ∀ i, i < 8 * j → (nxA bk (pS P s0) k).2 i = 4 then 1 else 0) → ∃ w' m', FX4_arrive_5 m w s (nI s0) (nI k) ov (nI j) = FX4_arrive_5 (m' + 1) w' s (nI s0) (nI k) (if allF K (nxA bk (pS P s0) k) = true then 1 else 0) (nI K) ∧ Fr (fun b i => b = s ∧ i = 10) w0 w' ∧ (∀ i, i < 8 * pN P → ha w' s 10 i = ha w0 s 10 i) ∧ ∀ j', j' < K → ∃ c, ha w' s 10 (8 * pN P + j') = nI c ∧ c < 8 ^ 8 ∧ ∀ t, t < 8 → dg c t = (nxA bk (pS P s0) k).2 (8 * j' + t) ∧ (nxA bk (pS P s0) k).2 (8 * j' + t) ≤ 4 := by
  obtain ⟨s4, T, h8, K8, K0, hk, h9, n12, n0, rows, links, ht⟩ := R
  have r0 := rows s0 hs0
  have sd3 := r0.2.1
  intro d
  induction d with
  | zero =>
    intro j m w ov hj' hm F O E ho
    obtain ⟨m, rfl⟩ : ∃ z, m = z + 1 := ⟨m - 1, by omega⟩
    have e : j = K := by omega
    subst e
    refine ⟨w, m, ?_, F, O, E⟩
    rw [ho]
    congr 1
    unfold allF
    by_cases q : ∀ i, i < 8 * j → (nxA bk (pS P s0) k).2 i = 4
    · rw [if_pos q, if_pos (decide_eq_true q)]
    · rw [if_neg q, if_neg (fun z => q (of_decide_eq_true z))]
  | succ d ih =>
    intro j m w ov hj' hm F O E ho
    obtain ⟨m, rfl⟩ : ∃ z, m = z + 1 := ⟨m - 1, by omega⟩
    obtain ⟨k7, k8, mv⟩ := hk j (by omega)
    obtain ⟨y, y1, y2, y3⟩ := (mv (pS P s0).1 sd3 k k78).1 ok
    obtain ⟨c, c1, c2, c3⟩ := r0.2.2 j (by omega)
    obtain ⟨c', e', d1, d2⟩ := moved_c (w := w) c2 (fun t ht => by rw [(c3 t ht).1]; exact (c3 t ht).2) y2
    have items : ∀ t, t < 8 → dg c' t = (nxA bk (pS P s0) k).2 (8 * j + t) ∧ (nxA bk (pS P s0) k).2 (8 * j + t) ≤ 4 := by
      intro t ht
      have x4 := (c3 t ht).2
      have e1 : (nxA bk (pS P s0) k).2 (8 * j + t) = itS (bk j) (if t / 4 % 2 = 0 then 1 - sDn k else sDn k) k (pS P s0).1 ((pS P s0).2 (8 * j + t)) := by
        show itS (bk ((8 * j + t) / 8)) (fstG (8 * j + t) k) k _ _ = _
        unfold fstG
        rw [show (8 * j + t) / 8 = j from by omega, show (8 * j + t) / 4 % 2 = t / 4 % 2 from by omega]
      refine ⟨?_, by rw [e1]; exact itS_le x4⟩
      rw [d2 t ht, (c3 t ht).1, y3 _ (by split <;> omega), mv_item x4 ht, e1]
    have w7 : ha w s 7 = ha w0 s 7 := F.ar (by omega)
    have w11 : ha w s 11 = ha w0 s 11 := F.ar (by omega)
    have w5 : ha w s 5 = ha w0 s 5 := F.ar (by omega)
    have w9 : hi w s 9 = nI (pN P) := by rw [F.i (by omega)]; exact h9
    have w8 : hi w s 8 = nI K := by rw [F.i (by omega)]; exact h8
    obtain ⟨w1, hw1⟩ : ∃ w1, w1 = setA w s 10 (8 * pN P + j) (nI c') := ⟨_, rfl⟩
    have f1 : Fr (fun b i => b = s ∧ i = 10) w0 w1 := F.trans (by rw [hw1]; exact Fr.sA ⟨rfl, rfl⟩)
    have e10 : ∀ i, ha w1 s 10 i = if i = 8 * pN P + j then nI c' else ha w s 10 i := by
      intro i
      rw [hw1, ha_setA, if_pos ⟨rfl, rfl⟩]
      rfl
    have fail : c' = 9586980 ↔ ∀ i, 8 * j ≤ i → i < 8 * j + 8 → (nxA bk (pS P s0) k).2 i = 4 := by
      constructor
      · intro e i i1 i2
        have := (items (i - 8 * j) (by omega)).1
        rw [e, allC _ (by omega), show 8 * j + (i - 8 * j) = i from by omega] at this
        exact this.symm
      · intro q
        refine dg_ext 8 d1 (by decide) (fun t ht => ?_)
        rw [allC t ht, (items t ht).1]
        exact q _ (by omega) (by omega)
    obtain ⟨w', m', eq', r'⟩ := ih (j + 1) m w1 (if ∀ i, i < 8 * (j + 1) → (nxA bk (pS P s0) k).2 i = 4 then 1 else 0) (by omega) (by omega) f1 (fun i hi' => by rw [e10, if_neg (by omega)]; exact O i hi') (fun j' hj2 => by
      rw [e10]
      by_cases e : j' = j
      · rw [if_pos (by omega), e]
        exact ⟨c', rfl, d1, items⟩
      · rw [if_neg (by omega)]
        exact E j' (by omega)) rfl
    refine ⟨w', m', ?_, r'⟩
    rw [FX4_arrive_5, w8, w7, w11, w5, nI_clamp (n := j) (by omega), nI_clamp (n := s0) (by omega), k7, r0.1, show (((nI (ks j) * (3 : Int32)) + nI (pS P s0).1) * (78 : Int32)) + nI k = nI (234 * ks j + 78 * (pS P s0).1 + k) from by rw [l3_, nI_mul, nI_add, l78_, nI_mul, nI_add, show (ks j * 3 + (pS P s0).1) * 78 + k = 234 * ks j + 78 * (pS P s0).1 + k from by omega], nI_clamp (n := 234 * ks j + 78 * (pS P s0).1 + k) (by omega), y1, show nI s0 * (8 : Int32) + nI j = nI (8 * s0 + j) from by rw [l8_, nI_mul, nI_add, Nat.mul_comm], nI_clamp (n := 8 * s0 + j) (by omega), O _ (by omega), c1]
    rw [← eq']
    refine E_f (nI_ge (by omega) (by omega)) (E_i rfl (by omega) (by decide) (E_i rfl (by omega) (by decide) (E_i rfl (by omega) (by decide) (E_f (nI_nM (by rw [show (8 : Nat) ^ 10 = 2 ^ 30 from by decide] at y2; omega)) (E_i rfl (by omega) (by decide) (E_b e' ?_))))))
    dsimp only
    rw [w9, show nI (pN P) * (8 : Int32) + nI j = nI (8 * pN P + j) from by rw [l8_, nI_mul, nI_add, Nat.mul_comm], nI_clamp (n := 8 * pN P + j) (by omega)]
    refine E_i rfl (by omega) (by decide) (E_d ?_)
    rw [← hw1]
    unfold FX4_arrive_101 FX4_arrive_102
    rw [nI_1]
    by_cases q : ∀ i, i < 8 * j → (nxA bk (pS P s0) k).2 i = 4
    · rw [if_pos q] at ho
      refine E_f (by rw [ho]; decide) ?_
      by_cases f : c' = 9586980
      · refine E_t (by rw [f]; rfl) ?_
        rw [if_pos (fun i hi' => by
          by_cases l : i < 8 * j
          · exact q i l
          · exact fail.mp f i (by omega) (by omega))]
      · refine E_f (fun z => f ((nI_eq (a := c') (b := 9586980) (by rw [p88] at d1; omega) (by decide)).mp z)) ?_
        rw [if_neg (fun z => f (fail.mpr (fun i _ i2 => z i (by omega))))]
    · rw [if_neg q] at ho
      refine E_t ho ?_
      rw [if_neg (fun z => q (fun i hi' => z i (by omega)))]
end AR
