/-! The search: the reference's states in words. -/
def swp (g c : Nat) : Nat := if g = 0 then c % 2 * 2 + c / 2 else c
def rvv (g x : Nat) : Nat := if x = 4 then 4 else swp g x
def rsd (sd : Nat) : Nat := if sd = 0 then 2 else sd - 1
section RP
variable {bk : Nat → Book} {K : Nat} {a a' : AS}
/-- where v lies in machine i's kind: v at address 1 (0), at address 0 (1) -/
def gV (bk : Nat → Book) (v : Nat) : Nat := if pr (bk (v / 8)) = true then v / 4 % 2 else 1 - v / 4 % 2
def iV (bk : Nat → Book) (v : Nat) : Nat := 8 * (v / 8) + 4 * gV bk v + swp (gV bk v) (v % 4)
def rit (bk : Nat → Book) (a : AS) (v : Nat) : Nat := rvv (gV bk v) (a.2 (iV bk v))
def rpt (bk : Nat → Book) (a : AS) (p : Nat) : Nat := if p = 0 then rsd a.1 else rit bk a (p - 1)
/-- a state's parts are in their bounds -/
def Abd (K : Nat) (a : AS) : Prop := a.1 < 3 ∧ ∀ i, i < 8 * K → a.2 i ≤ 4
theorem gV2 (bk : Nat → Book) (v : Nat) : gV bk v < 2 := by unfold gV; split <;> omega
theorem sw4 : ∀ g, g < 2 → ∀ c, c < 4 → swp g c < 4 ∧ swp g (swp g c) = c := by decide
theorem rv5a : ∀ g, g < 2 → ∀ x, x < 5 → rvv g x < 5 := by decide
theorem rv5b : ∀ g, g < 2 → ∀ x, x < 5 → ∀ y, y < 5 → rvv g x = rvv g y → x = y := by decide
theorem rv5c : ∀ g, g < 2 → ∀ x, x < 5 → rvv g x = 4 → x = 4 := by decide
theorem rs3 : ∀ x, x < 3 → ∀ y, y < 3 → rsd x < 3 ∧ (rsd x = rsd y ↔ x = y) := by decide
theorem iV_lt {v : Nat} (h : v < 8 * K) : iV bk v < 8 * K := by
  have g2 := gV2 bk v
  have := (sw4 (gV bk v) g2 (v % 4) (Nat.mod_lt _ (by decide))).1
  unfold iV
  omega
theorem iV_onto {i : Nat} (h : i < 8 * K) : ∃ v, v < 8 * K ∧ iV bk v = i := by
  obtain ⟨g, hg⟩ : ∃ g, g = i / 4 % 2 := ⟨_, rfl⟩
  have g2 : g < 2 := by rw [hg]; exact Nat.mod_lt _ (by decide)
  obtain ⟨sw1, sw2⟩ := sw4 g g2 (i % 4) (Nat.mod_lt _ (by decide))
  obtain ⟨sd, hsd⟩ : ∃ sd, sd = if pr (bk (i / 8)) = true then g else 1 - g := ⟨_, rfl⟩
  have sd2 : sd < 2 := by rw [hsd]; split <;> omega
  have e1 : (8 * (i / 8) + 4 * sd + swp g (i % 4)) / 8 = i / 8 := by omega
  have e2 : (8 * (i / 8) + 4 * sd + swp g (i % 4)) / 4 % 2 = sd := by omega
  have e3 : (8 * (i / 8) + 4 * sd + swp g (i % 4)) % 4 = swp g (i % 4) := by omega
  have eg : gV bk (8 * (i / 8) + 4 * sd + swp g (i % 4)) = g := by
    unfold gV
    rw [e1, e2, hsd]
    by_cases q : pr (bk (i / 8)) = true
    · rw [if_pos q, if_pos q]
    · rw [if_neg q, if_neg q]; omega
  refine ⟨8 * (i / 8) + 4 * sd + swp g (i % 4), by omega, ?_⟩
  unfold iV
  rw [eg, e1, e3, sw2]
  omega
theorem rpt_lt (A : Abd K a) {p : Nat} (h : p < 8 * K + 1) : rpt bk a p < 5 := by
  unfold rpt
  split
  · have := (rs3 a.1 A.1 a.1 A.1).1; omega
  · unfold rit
    have := A.2 _ (iV_lt (bk := bk) (show p - 1 < 8 * K by omega))
    exact rv5a _ (gV2 bk _) _ (by omega)
theorem rpt_eq (A : Abd K a) (A' : Abd K a') : (∀ p, p < 8 * K + 1 → rpt bk a p = rpt bk a' p) ↔ eqS K a a' = true := by
  unfold eqS
  rw [decide_eq_true_eq]
  constructor
  · intro h
    refine ⟨?_, fun i hi' => ?_⟩
    · have := h 0 (by omega)
      unfold rpt at this
      rw [if_pos rfl, if_pos rfl] at this
      exact (rs3 _ A.1 _ A'.1).2.mp this
    · obtain ⟨v, v1, v2⟩ := iV_onto (bk := bk) hi'
      have := h (v + 1) (by omega)
      unfold rpt at this
      rw [if_neg (by omega), if_neg (by omega), show v + 1 - 1 = v from by omega] at this
      unfold rit at this
      rw [v2] at this
      have b1 := A.2 i hi'
      have b2 := A'.2 i hi'
      exact rv5b _ (gV2 bk v) _ (by omega) _ (by omega) this
  · rintro ⟨h1, h2⟩ p hp
    unfold rpt
    by_cases e : p = 0
    · rw [if_pos e, if_pos e, h1]
    · rw [if_neg e, if_neg e]
      unfold rit
      rw [h2 _ (iV_lt (by omega))]
theorem rpt_all (A : Abd K a) : (∀ p, 0 < p → p < 8 * K + 1 → rpt bk a p = 4) ↔ allF K a = true := by
  unfold allF
  rw [decide_eq_true_eq]
  constructor
  · intro h i hi'
    obtain ⟨v, v1, v2⟩ := iV_onto (bk := bk) hi'
    have := h (v + 1) (by omega) (by omega)
    unfold rpt at this
    rw [if_neg (by omega), show v + 1 - 1 = v from by omega] at this
    unfold rit at this
    rw [v2] at this
    have b1 := A.2 i hi'
    exact rv5c _ (gV2 bk v) _ (by omega) this
  · intro h p p0 hp
    unfold rpt rit
    rw [if_neg (by omega), h _ (iV_lt (by omega))]
    rfl
end RP
/-- four words hold the first c parts -/
def RWb (f : Nat → Int64) (bk : Nat → Book) (a : AS) (c : Nat) : Prop := ∀ u, u < 4 → ∃ x, f u = jN x ∧ x < 8 ^ 20 ∧ ∀ t, t < 20 → dg x t = if 20 * u + t < c then rpt bk a (20 * u + t) else 0
section RB2
variable {w : HS} {m K c : Nat} {bk : Nat → Book} {a a' : AS}
theorem RWb.ext {f g : Nat → Int64} (h : RWb f bk a c) (e : ∀ u, u < 4 → g u = f u) : RWb g bk a c := by
  intro u hu
  rw [e u hu]
  exact h u hu
theorem RWb.cg {f : Nat → Int64} (h : RWb f bk a c) (e : ∀ p, p < c → rpt bk a' p = rpt bk a p) : RWb f bk a' c := by
  intro u hu
  obtain ⟨x, x1, x2, x3⟩ := h u hu
  refine ⟨x, x1, x2, fun t ht => ?_⟩
  rw [x3 t ht]
  by_cases q : 20 * u + t < c
  · rw [if_pos q, if_pos q, e _ q]
  · rw [if_neg q, if_neg q]
theorem builds27 (c80 : c < 80) (h : RWb (fun u => hj w m 33 u) bk a c) (v8 : rpt bk a c < 8) : ∃ w', FX9_builds_27 w m (nI c) (jN (rpt bk a c)) = some ((), w') ∧ Fr (fun b k => b = m ∧ k = 33) w w' ∧ RWb (fun u => hj w' m 33 u) bk a (c + 1) := by
  obtain ⟨x, x1, x2, x3⟩ := h (c / 20) (by omega)
  obtain ⟨w', hw⟩ : ∃ w', w' = setJ w m 33 (c / 20) (jN (x ||| rpt bk a c * 8 ^ (c % 20))) := ⟨_, rfl⟩
  have m20 : c % 20 < 20 := Nat.mod_lt _ (by decide)
  refine ⟨w', ?_, by rw [hw]; exact Fr.sJ ⟨rfl, rfl⟩, fun u hu => ?_⟩
  · unfold FX9_builds_27
    have x1' : hj w m 33 (c / 20) = jN x := x1
    rw [l20_, nI_rem (a := c) (b := 20) (by omega) (by decide), nI_dv (a := c) (b := 20) (by omega) (by decide), nI_clamp (by omega), x1', l3_, nI_mul, jN_put m20, jN_or, ← hw]
    exact E_i rfl (by omega) (by decide) (E_i rfl (by omega) (by decide) (E_d rfl))
  · dsimp only
    rw [hw, hj_upd]
    by_cases e : u = c / 20
    · rw [if_pos e]
      refine ⟨_, rfl, or_lt8 x2 (at_lt8 v8 m20), fun t ht => ?_⟩
      rw [dg_or, dg_at v8, x3 t ht]
      by_cases q : t = c % 20
      · rw [if_pos q, if_neg (by omega), if_pos (by omega), Nat.zero_or, show 20 * u + t = c from by omega]
      · rw [if_neg q, Nat.or_zero]
        by_cases l : 20 * (c / 20) + t < c
        · rw [if_pos l, if_pos (by omega), e]
        · rw [if_neg l, if_neg (by omega)]
    · rw [if_neg e]
      obtain ⟨y, y1, y2, y3⟩ := h u hu
      refine ⟨y, y1, y2, fun t ht => ?_⟩
      rw [y3 t ht]
      by_cases l : 20 * u + t < c
      · rw [if_pos l, if_pos (by omega)]
      · rw [if_neg l, if_neg (by omega)]
theorem builds_s (h9 : hc w m = 9) (c0 : 0 < c) (c80 : c < 80) (h : RWb (fun u => hj w m 33 u) bk a c) (v8 : rpt bk a c < 8) : ∃ w', FX9_builds w m (nI c) (jN (rpt bk a c)) = some ((), w') ∧ Fr (fun b k => b = m ∧ k = 33) w w' ∧ RWb (fun u => hj w' m 33 u) bk a (c + 1) := by
  obtain ⟨w', e, r⟩ := builds27 c80 h v8
  refine ⟨w', ?_, r⟩
  unfold FX9_builds
  exact E_c h9 (E_f (nI_ne0 c0 (by omega)) e)
theorem builds_0 (h9 : hc w m = 9) (v8 : rpt bk a 0 < 8) : ∃ w', FX9_builds w m 0 (jN (rpt bk a 0)) = some ((), w') ∧ Fr (fun b k => b = m ∧ k = 33) w w' ∧ RWb (fun u => hj w' m 33 u) bk a 1 := by
  have loop : ∀ d u n w1, u + d = 4 → d < n → Fr (fun b k => b = m ∧ k = 33) w w1 → (∀ i, i < u → hj w1 m 33 i = 0) → ∃ w', FX9_builds_7 n w1 m (nI 0) (jN (rpt bk a 0)) (nI u) = some ((), w') ∧ Fr (fun b k => b = m ∧ k = 33) w w' ∧ RWb (fun u => hj w' m 33 u) bk a 1 := by
    intro d
    induction d with
    | zero =>
      intro u n w1 hu hn F Z
      obtain ⟨n, rfl⟩ : ∃ z, n = z + 1 := ⟨n - 1, by omega⟩
      obtain ⟨w', e, F', r⟩ := builds27 (w := w1) (m := m) (bk := bk) (a := a) (c := 0) (by decide) (fun i hi' => ⟨0, by dsimp only; rw [Z i (by omega)]; rfl, by decide, fun t ht => by
        rw [if_neg (by omega)]
        unfold dg
        rw [Nat.zero_div]⟩) v8
      refine ⟨w', ?_, F.trans F', r⟩
      rw [FX9_builds_7]
      exact E_t (nI_le (a := 4) (by omega) (by omega)) e
    | succ d ih =>
      intro u n w1 hu hn F Z
      obtain ⟨n, rfl⟩ : ∃ z, n = z + 1 := ⟨n - 1, by omega⟩
      obtain ⟨w', e, r⟩ := ih (u + 1) n (setJ w1 m 33 u 0) (by omega) (by omega) (F.trans (Fr.sJ ⟨rfl, rfl⟩)) (fun i hi' => by
        rw [hj_upd]
        by_cases q : i = u
        · rw [if_pos q]
        · rw [if_neg q]; exact Z i (by omega))
      refine ⟨w', ?_, r⟩
      rw [FX9_builds_7, nI_clamp (by omega)]
      refine E_f (nI_ge (b := 4) (by omega) (by decide)) (E_i rfl (by omega) (by decide) (E_d ?_))
      rw [nI_1]
      exact e
  obtain ⟨w', e, r⟩ := loop 4 0 FUEL w rfl (fuel_lt (by decide)) Fr.refl (fun i hi' => absurd hi' (Nat.not_lt_zero _))
  refine ⟨w', ?_, r⟩
  unfold FX9_builds
  exact E_c h9 (E_t rfl e)
/-- reference: row i -/
def RRow (w : HS) (m K i : Nat) (bk : Nat → Book) (a : AS) : Prop := RWb (fun u => hj w m 25 (4 * i + u)) bk a (8 * K + 1) ∧ Abd K a
theorem part_r {i p : Nat} (h9 : hc w m = 9) (K8 : K ≤ 8) (i12 : i ≤ 1200) (R : RRow w m K i bk a) (hp : p < 8 * K + 1) : FX9_partOf w m (nI i) (nI p) = some (nI (rpt bk a p), w) := by
  obtain ⟨x, x1, x2, x3⟩ := R.1 (p / 20) (by omega)
  have m20 : p % 20 < 20 := Nat.mod_lt _ (by decide)
  have x1' : hj w m 25 (4 * i + p / 20) = jN x := x1
  have r5 := rpt_lt (bk := bk) R.2 hp
  unfold FX9_partOf
  rw [l20_, nI_rem (a := p) (b := 20) (by omega) (by decide), nI_dv (a := p) (b := 20) (by omega) (by decide), l4_, nI_mul, nI_add, nI_clamp (by omega), x1', l3_, nI_mul, jN_fld x2 m20, x3 _ m20, if_pos (by omega), show 20 * (p / 20) + p % 20 = p from by omega, jN_i (by omega)]
  exact E_c h9 (E_i rfl (by omega) (by decide) rfl)
theorem words_eq {f g : Nat → Int64} (A : Abd K a) (A' : Abd K a') (K8 : K ≤ 8) (F : RWb f bk a (8 * K + 1)) (G : RWb g bk a' (8 * K + 1)) : (∀ u, u < 4 → f u = g u) ↔ eqS K a a' = true := by
  rw [← rpt_eq (bk := bk) A A']
  constructor
  · intro h p hp
    obtain ⟨x, x1, x2, x3⟩ := F (p / 20) (by omega)
    obtain ⟨y, y1, y2, y3⟩ := G (p / 20) (by omega)
    have e := h (p / 20) (by omega)
    rw [x1, y1, jN_inj (by rw [p820] at x2; omega) (by rw [p820] at y2; omega)] at e
    have a1 := x3 (p % 20) (Nat.mod_lt _ (by decide))
    have a2 := y3 (p % 20) (Nat.mod_lt _ (by decide))
    rw [show 20 * (p / 20) + p % 20 = p from by omega, if_pos hp] at a1 a2
    rw [← a1, ← a2, e]
  · intro h u hu
    obtain ⟨x, x1, x2, x3⟩ := F u hu
    obtain ⟨y, y1, y2, y3⟩ := G u hu
    rw [x1, y1]
    congr 1
    refine dg_ext 20 x2 y2 (fun t ht => ?_)
    rw [x3 t ht, y3 t ht]
    by_cases q : 20 * u + t < 8 * K + 1
    · rw [if_pos q, if_pos q, h _ q]
    · rw [if_neg q, if_neg q]
theorem built_r {n : Nat} {st : Nat → AS} (h9 : hc w m = 9) (K8 : K ≤ 8) (n12 : n ≤ 1200) (h29 : hi w m 29 = nI n) (rows : ∀ i, i < n → RRow w m K i bk (st i)) (A : Abd K a) (Bt : RWb (fun u => hj w m 33 u) bk a (8 * K + 1)) : ∃ v, FX9_stateBuilt w m = some (v, w) ∧ (v < 0 ↔ (fsN (fun i => eqS K (st i) a) 0 n).isSome = false) := by
  have loop : ∀ d i k, i + d = n → d < k → ∃ v, FX9_stateBuilt_2 k w m (nI i) = some (v, w) ∧ (v < 0 ↔ (fsN (fun i => eqS K (st i) a) i d).isSome = false) := by
    intro d
    induction d with
    | zero =>
      intro i k hi' hk
      obtain ⟨k, rfl⟩ : ∃ z, k = z + 1 := ⟨k - 1, by omega⟩
      refine ⟨-1, ?_, ⟨fun _ => rfl, fun _ => by decide⟩⟩
      rw [FX9_stateBuilt_2, h29]
      exact E_t (nI_le (by omega) (by omega)) rfl
    | succ d ih =>
      intro i k hi' hk
      obtain ⟨k, rfl⟩ : ∃ z, k = z + 1 := ⟨k - 1, by omega⟩
      obtain ⟨v, ev, hv⟩ := ih (i + 1) k (by omega) (by omega)
      have R := rows i (by omega)
      have we := words_eq (bk := bk) R.2 A K8 R.1 Bt
      have nx : ¬ eqS K (st i) a = true → ∀ y, FX9_stateBuilt_90 (FX9_stateBuilt_2 k) w m (nI i) = y → y = some (v, w) := by
        intro _ y hy
        rw [← hy]
        unfold FX9_stateBuilt_90
        rw [nI_1]
        exact ev
      have n90 : FX9_stateBuilt_90 (FX9_stateBuilt_2 k) w m (nI i) = some (v, w) := by
        unfold FX9_stateBuilt_90
        rw [nI_1]
        exact ev
      rw [FX9_stateBuilt_2, h29, l4_, nI_mul, l1_, nI_add, l2_, nI_add, l3_, nI_add, nI_clamp (n := 4 * i) (by omega), nI_clamp (n := 4 * i + 1) (by omega), nI_clamp (n := 4 * i + 2) (by omega), nI_clamp (n := 4 * i + 3) (by omega)]
      by_cases q : eqS K (st i) a = true
      · have ws := we.mpr q
        refine ⟨nI i, ?_, ?_⟩
        · exact E_f (nI_ge (by omega) (by omega)) (E_i rfl (by omega) (by decide) (E_t (lgc0.mpr (ws 0 (by decide))) (E_i rfl (by omega) (by decide) (E_t (lgc0.mpr (ws 1 (by decide))) (E_i rfl (by omega) (by decide) (E_t (lgc0.mpr (ws 2 (by decide))) (E_i rfl (by omega) (by decide) (E_t (lgc0.mpr (ws 3 (by decide))) rfl))))))))
        · rw [fsN_t q]
          exact ⟨fun z => absurd z (nI_pos (by omega)), fun z => by cases z⟩
      · refine ⟨v, ?_, by rw [fsN_f q]; exact hv⟩
        refine E_f (nI_ge (by omega) (by omega)) (E_i rfl (by omega) (by decide) ?_)
        by_cases w0 : hj w m 25 (4 * i) = hj w m 33 0
        · refine E_t (lgc0.mpr w0) (E_i rfl (by omega) (by decide) ?_)
          by_cases w1 : hj w m 25 (4 * i + 1) = hj w m 33 1
          · refine E_t (lgc0.mpr w1) (E_i rfl (by omega) (by decide) ?_)
            by_cases w2 : hj w m 25 (4 * i + 2) = hj w m 33 2
            · refine E_t (lgc0.mpr w2) (E_i rfl (by omega) (by decide) ?_)
              by_cases w3 : hj w m 25 (4 * i + 3) = hj w m 33 3
              · refine absurd (we.mp (fun u hu => ?_)) q
                have : u = 0 ∨ u = 1 ∨ u = 2 ∨ u = 3 := by omega
                rcases this with rfl | rfl | rfl | rfl
                · exact w0
                · exact w1
                · exact w2
                · exact w3
              · exact E_f (fun z => w3 (lgc0.mp z)) n90
            · exact E_f (fun z => w2 (lgc0.mp z)) n90
          · exact E_f (fun z => w1 (lgc0.mp z)) n90
        · exact E_f (fun z => w0 (lgc0.mp z)) n90
  obtain ⟨v, e, hv⟩ := loop n 0 FUEL (by omega) (fuel_lt (by omega))
  refine ⟨v, ?_, hv⟩
  unfold FX9_stateBuilt
  exact E_c h9 e
theorem allf_r (h9 : hc w m = 9) (K8 : K ≤ 8) (h30 : hi w m 30 = nI (8 * K)) (A : Abd K a) (Bt : RWb (fun u => hj w m 33 u) bk a (8 * K + 1)) : FX9_isAllFailed w m = some (if allF K a = true then 1 else 0, w) := by
  have loop : ∀ d p k, p + d = 8 * K + 1 → 0 < p → d < k → (∀ q, 0 < q → q < p → rpt bk a q = 4) → FX9_isAllFailed_2 k w m (nI p) = some (if allF K a = true then 1 else 0, w) := by
    intro d
    induction d with
    | zero =>
      intro p k hp p0 hk h
      obtain ⟨k, rfl⟩ : ∃ z, k = z + 1 := ⟨k - 1, by omega⟩
      have t : allF K a = true := (rpt_all (bk := bk) A).mp (fun q q0 hq => h q q0 (by omega))
      rw [FX9_isAllFailed_2, h30, if_pos t]
      exact E_t (nI_lt (by omega) (by omega)) rfl
    | succ d ih =>
      intro p k hp p0 hk h
      obtain ⟨k, rfl⟩ : ∃ z, k = z + 1 := ⟨k - 1, by omega⟩
      obtain ⟨x, x1, x2, x3⟩ := Bt (p / 20) (by omega)
      have m20 : p % 20 < 20 := Nat.mod_lt _ (by decide)
      have x1' : hj w m 33 (p / 20) = jN x := x1
      have r5 := rpt_lt (bk := bk) A (show p < 8 * K + 1 by omega)
      rw [FX9_isAllFailed_2, h30, l20_, nI_rem (a := p) (b := 20) (by omega) (by decide), nI_dv (a := p) (b := 20) (by omega) (by decide), nI_clamp (by omega), x1', l3_, nI_mul, jN_fld x2 m20, x3 _ m20, if_pos (show 20 * (p / 20) + p % 20 < 8 * K + 1 by omega), show 20 * (p / 20) + p % 20 = p from by omega]
      refine E_f (nI_nlt (by omega) (by omega)) (E_i rfl (by omega) (by decide) ?_)
      by_cases q : rpt bk a p = 4
      · refine E_t (lgc0.mpr (by rw [q]; rfl)) ?_
        rw [nI_1]
        refine ih (p + 1) k (by omega) (by omega) (by omega) (fun y y0 hy => ?_)
        by_cases e : y = p
        · rw [e]; exact q
        · exact h y y0 (by omega)
      · have t : ¬ allF K a = true := fun z => q ((rpt_all (bk := bk) A).mpr z p p0 (by omega))
        rw [if_neg t]
        refine E_f (fun z => q ?_) rfl
        have := lgc0.mp z
        exact (jN_inj (x := rpt bk a p) (y := 4) (by omega) (by decide)).mp this
  unfold FX9_isAllFailed
  exact E_c h9 (loop (8 * K) 1 FUEL (by omega) (by decide) (fuel_lt (by omega)) (fun q q0 hq => by omega))
end RB2
