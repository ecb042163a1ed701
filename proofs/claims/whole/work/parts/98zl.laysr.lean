/-! The search: the reference's machines and its first state; the whole search. -/
/-- the machines below t are laid -/
def LMs (w : HS) (m z t : Nat) : Prop := hi w m 30 = nI t ∧ ∀ v, v < t → ha w m 31 v = nI (ksF z (v / 8)) ∧ ha w m 32 v = nI (v / 4 % 2)
def P30 (m : Nat) : Nat → Nat → Prop := fun b k => b = m ∧ (30 ≤ k ∧ k ≤ 32)
theorem kK_kn {z kn : Nat} (kn8 : kn ≤ 8) (zk : z < 2 ^ kn) : kK z 8 = kK z kn := by
  have step : ∀ d k, k + d = 8 → kn ≤ k → kK z k = kK z kn → kK z 8 = kK z kn := by
    intro d
    induction d with
    | zero => intro k hk _ h; rw [← h, show k = 8 by omega]
    | succ d ih =>
      intro k hk hk' h
      refine ih (k + 1) (by omega) (by omega) ?_
      rw [kK_s, if_neg (fun q => by have := bt_kn kn (by omega) z zk k (by omega) q; omega), h]
      rfl
  exact step (8 - kn) kn (by omega) (Nat.le_refl _) rfl
section LY
variable {w0 : HS} {m z k kn : Nat}
theorem has_r {w : HS} (z256 : z < 256) (k8 : k < 8) : FX9_has w (nI z) (nI k) = some (if bt z k = 1 then 1 else 0, w) := by
  unfold FX9_has
  rw [(bt256 z z256 k k8).1]
  have b2 := bt_lt z k
  by_cases q : bt z k = 1
  · rw [if_pos q]
    exact E_t (by rw [q]; rfl) rfl
  · rw [if_neg q]
    exact E_f (by rw [show bt z k = 0 by omega]; decide) rfl
theorem lay33 {k7 : HS → Nat → Int32 → Int32 → Option (Unit × HS)} {k17 : HS → Nat → Int32 → Int32 → Int32 → Option (Unit × HS)} {sd q : Nat} (z256 : z < 256) (k8 : k < 8) (bz : bt z k = 1) (sd2 : sd < 2) (hq : q = 8 * kK z k + 4 * sd) : ∀ d c n w, c + d = 4 → d < n → Fr (P30 m) w0 w → LMs w m z (q + c) → ∃ w', FX9_laysMachines_33 k7 k17 n w m (nI z) (nI k) (nI sd) (nI c) = k17 w' m (nI z) (nI k) (nI (sd + 1)) ∧ Fr (P30 m) w0 w' ∧ LMs w' m z (q + 4) := by
  have kl := kK_le z k
  have ka := ks_at z z256 k k8 bz
  intro d
  induction d with
  | zero =>
    intro c n w hc' hn F L
    obtain ⟨n, rfl⟩ : ∃ z, n = z + 1 := ⟨n - 1, by omega⟩
    refine ⟨w, ?_, F, by rw [show q + 4 = q + c by omega]; exact L⟩
    rw [FX9_laysMachines_33, nI_1]
    exact E_t (nI_le (a := 4) (by omega) (by omega)) rfl
  | succ d ih =>
    intro c n w hc' hn F L
    obtain ⟨n, rfl⟩ : ∃ z, n = z + 1 := ⟨n - 1, by omega⟩
    obtain ⟨L1, L2⟩ := L
    obtain ⟨w1, hw1⟩ : ∃ w1, w1 = setA w m 31 (q + c) (nI k) := ⟨_, rfl⟩
    have F1 : Fr (fun b k => b = m ∧ k = 31) w w1 := by rw [hw1]; exact Fr.sA ⟨rfl, rfl⟩
    obtain ⟨w2, hw2⟩ : ∃ w2, w2 = setA w1 m 32 (q + c) (nI sd) := ⟨_, rfl⟩
    have F2 : Fr (fun b k => b = m ∧ k = 32) w1 w2 := by rw [hw2]; exact Fr.sA ⟨rfl, rfl⟩
    obtain ⟨w3, hw3⟩ : ∃ w3, w3 = setI w2 m 30 (nI (q + c + 1)) := ⟨_, rfl⟩
    have F3 : Fr (fun b k => b = m ∧ k = 30) w2 w3 := by rw [hw3]; exact Fr.sI ⟨rfl, rfl⟩
    have e1 : hi w1 m 30 = nI (q + c) := by rw [F1.i (by omega)]; exact L1
    have e2 : hi w2 m 30 = nI (q + c) := by rw [F2.i (by omega)]; exact e1
    obtain ⟨w', e', r⟩ := ih (c + 1) n w3 (by omega) (by omega) (((F.trans (F1.mono (fun b k z => by unfold P30; omega))).trans (F2.mono (fun b k z => by unfold P30; omega))).trans (F3.mono (fun b k z => by unfold P30; omega))) (by
      refine ⟨by rw [hw3, hi_setI, if_pos ⟨rfl, rfl⟩]; rfl, fun v hv => ?_⟩
      rw [F3.ar (show ¬ (m = m ∧ 31 = 30) by omega), F3.ar (show ¬ (m = m ∧ 32 = 30) by omega), F2.ar (show ¬ (m = m ∧ 31 = 32) by omega), hw2, ha_upd, F1.ar (show ¬ (m = m ∧ 32 = 31) by omega), hw1, ha_upd]
      by_cases e : v = q + c
      · rw [if_pos e, if_pos e, show v / 8 = kK z k by omega, ka, show v / 4 % 2 = sd by omega]
        exact ⟨rfl, rfl⟩
      · rw [if_neg e, if_neg e]
        exact L2 v (by omega))
    refine ⟨w', ?_, r⟩
    rw [FX9_laysMachines_33, L1, nI_clamp (by omega)]
    refine E_f (nI_ge (b := 4) (by omega) (by decide)) (E_i rfl (by omega) (by decide) (E_d ?_))
    rw [← hw1, e1, nI_clamp (by omega)]
    refine E_i rfl (by omega) (by decide) (E_d ?_)
    rw [← hw2, e2, nI_1]
    refine E_d ?_
    rw [← hw3, nI_1]
    exact e'
theorem lay17 {k7 : HS → Nat → Int32 → Int32 → Option (Unit × HS)} {w : HS} {n : Nat} (z256 : z < 256) (k8 : k < 8) (hn : 3 ≤ n) (F : Fr (P30 m) w0 w) (L : LMs w m z (8 * kK z k)) : ∃ w', FX9_laysMachines_17 k7 n w m (nI z) (nI k) 0 = k7 w' m (nI z) (nI (k + 1)) ∧ Fr (P30 m) w0 w' ∧ LMs w' m z (8 * kK z (k + 1)) := by
  obtain ⟨n, rfl⟩ : ∃ z, n = z + 3 := ⟨n - 3, by omega⟩
  have hs := fun w => has_r (w := w) (z := z) (k := k) z256 k8
  have es := kK_s z k
  have e81 : ∀ w, FX9_laysMachines_81 k7 w m (nI z) (nI k) = k7 w m (nI z) (nI (k + 1)) := fun w => by unfold FX9_laysMachines_81; rw [nI_1]
  by_cases q : bt z k = 1
  · rw [if_pos q] at es hs
    obtain ⟨w1, e1, F1, L1⟩ := lay33 (k7 := k7) (k17 := FX9_laysMachines_17 k7 (n + 2)) (sd := 0) z256 k8 q (by decide) rfl 4 0 FUEL w rfl (fuel_lt (by decide)) F L
    obtain ⟨w2, e2, F2, L2⟩ := lay33 (k7 := k7) (k17 := FX9_laysMachines_17 k7 (n + 1)) (sd := 1) z256 k8 q (by decide) rfl 4 0 FUEL w1 rfl (fuel_lt (by decide)) F1 L1
    refine ⟨w2, ?_, F2, by rw [es, show 8 * (kK z k + 1) = 8 * kK z k + 4 * 1 + 4 by omega]; exact L2⟩
    rw [FX9_laysMachines_17]
    refine E_f (by decide) (E_b (hs w) (E_f (show ¬ (1:Int32) = 0 by decide) ?_))
    refine Eq.trans e1 ?_
    rw [FX9_laysMachines_17]
    refine E_f (by decide) (E_b (hs w1) (E_f (show ¬ (1:Int32) = 0 by decide) ?_))
    refine Eq.trans e2 ?_
    rw [FX9_laysMachines_17, e81]
    exact E_t (by decide) rfl
  · rw [if_neg q] at es hs
    refine ⟨w, ?_, F, by rw [es]; exact L⟩
    rw [FX9_laysMachines_17]
    refine E_f (by decide) (E_b (hs w) (E_t rfl ?_))
    exact e81 w
theorem lay7 (z256 : z < 256) (kn8 : kn ≤ 8) (h7 : hi w0 m 7 = nI kn) : ∀ d k n w, k + d = kn → d < n → Fr (P30 m) w0 w → LMs w m z (8 * kK z k) → ∃ w', FX9_laysMachines_7 n w m (nI z) (nI k) = ((FX9_builds w' m (0 : Int32) (2 : Int64)).bind fun q2 => (FX9_laysMachines_97 FUEL q2.2 m (0 : Int32))) ∧ Fr (P30 m) w0 w' ∧ LMs w' m z (8 * kK z kn) := by
  intro d
  induction d with
  | zero =>
    intro k n w hk hn F L
    obtain ⟨n, rfl⟩ : ∃ z, n = z + 1 := ⟨n - 1, by omega⟩
    refine ⟨w, ?_, F, by rw [show kn = k by omega]; exact L⟩
    rw [FX9_laysMachines_7, F.i (by unfold P30; omega), h7]
    exact E_t (nI_le (by omega) (by omega)) rfl
  | succ d ih =>
    intro k n w hk hn F L
    obtain ⟨n, rfl⟩ : ∃ z, n = z + 1 := ⟨n - 1, by omega⟩
    obtain ⟨w1, e1, F1, L1⟩ := lay17 (k7 := FX9_laysMachines_7 n) (n := FUEL) (k := k) z256 (by omega) (by have := fuel_lt (d := 5) (by decide); omega) F L
    obtain ⟨w2, e2, r⟩ := ih (k + 1) n w1 (by omega) (by omega) F1 L1
    refine ⟨w2, ?_, r⟩
    rw [FX9_laysMachines_7, F.i (by unfold P30; omega), h7]
    exact E_f (nI_ge (by omega) (by omega)) (e1.trans e2)
end LY
/-- the state at the start -/
def a0B (bk : Nat → Book) : AS := (0, fun i => stl (bk (i / 8)) 1 0 (i % 4))
theorem P0_S (bk : Nat → Book) : pS (P0 bk) 0 = a0B bk := rfl
section SR
variable {w : HS} {m K z kn : Nat} {bk : Nat → Book} {B : Nat → Book}
theorem swp1 : ∀ x, x < 4 → swp 1 x = x := by decide
theorem a0_bd (wb : ∀ j, WB (bk j)) : (∀ i, (a0B bk).2 i < 4) ∧ Abd K (a0B bk) := by
  have h : ∀ i, (a0B bk).2 i < 4 := by
    intro i
    show stl (bk (i / 8)) 1 0 (i % 4) < 4
    exact (stl_g (a := 1) (g := 1) (wb _) (by decide) (Nat.mod_lt _ (by decide)) (Or.inl rfl)).2
  exact ⟨h, show (0:Nat) < 3 by decide, fun i _ => Nat.le_of_lt (h i)⟩
theorem a0_rit (wb : ∀ j, WB (bk j)) (v : Nat) : rit bk (a0B bk) v = stl (bk (v / 8)) (aV (bk (v / 8)) (gV bk v)) (1 - gV bk v) (v % 4) := by
  obtain ⟨q8, q4⟩ := iV_k bk v
  have g2 := gV2 bk v
  have v4 : v % 4 < 4 := Nat.mod_lt _ (by decide)
  have sw := sw4 (gV bk v) g2 (v % 4) v4
  have im : iV bk v % 4 = swp (gV bk v) (v % 4) := by unfold iV; omega
  obtain ⟨s1, s2⟩ := stl_g (a := aV (bk (v / 8)) (gV bk v)) (wb (v / 8)) g2 v4 (by
    unfold aV
    cases q : pr (bk (v / 8)) with
    | true => left; rfl
    | false => right; rfl)
  unfold rit
  show rvv (gV bk v) (stl (bk (iV bk v / 8)) 1 0 (iV bk v % 4)) = _
  rw [q8, im, ← s1]
  have t := sw4 _ g2 _ s2
  unfold rvv
  rw [if_neg (by omega), t.2]
theorem lay97 {w0 : HS} (Bs : RBs w0 m K bk) (wb : ∀ j, WB (bk j)) : ∀ d v n w, v + d = 8 * K → d < n → TMb w0 w m → RWb (fun u => hj w m 33 u) bk (a0B bk) (v + 1) → ∃ w', FX9_laysMachines_97 n w m (nI v) = some ((), w') ∧ TSr w0 w' m ∧ QRr w' m K bk (P0 bk) := by
  obtain ⟨a4, A⟩ := a0_bd (K := K) wb
  intro d
  induction d with
  | zero =>
    intro v n w hv hn T Bt
    obtain ⟨n, rfl⟩ : ∃ z, n = z + 1 := ⟨n - 1, by omega⟩
    obtain ⟨h1, h2, h3, h4, h5, h6⟩ := Bs.ts T.ts
    obtain rfl : v = 8 * K := by omega
    obtain ⟨u, hu⟩ : ∃ u, u = setI w m 29 0 := ⟨_, rfl⟩
    have Fu : Fr (fun b k => b = m ∧ k = 29) w u := by rw [hu]; exact Fr.sI ⟨rfl, rfl⟩
    obtain ⟨w', e, F, q29, q25, q26, q27, q28⟩ := comes_r (w := u) (m := m) (n := 0) (x1 := 0) (x2 := -1) (x3 := 0) (by rw [Fu.c]; exact h1) (by rw [hu, hi_setI, if_pos ⟨rfl, rfl⟩]; rfl) (by decide)
    refine ⟨w', ?_, T.ts.tr (TSr.o2 ((Fu.mono (fun b k z => by omega)).trans (F.mono (fun b k z => by omega)))), ⟨q29, by rw [q27, if_pos rfl], fun i hi' => ?_⟩, show 1 ≤ 1200 by decide, show 0 < 1 by decide, fun i hi' => ?_⟩
    · rw [FX9_laysMachines_97, h2]
      refine E_t (nI_le (by omega) (by omega)) (E_d ?_)
      rw [← hu]
      exact E_b e rfl
    · have i0 : i = 0 := by have : i < 1 := hi'; omega
      subst i0
      rw [P0_S]
      refine ⟨⟨Bt.ext (fun t ht => ?_), A⟩, by rw [q26, if_pos rfl]; rfl, fun z => absurd z (Nat.lt_irrefl _)⟩
      rw [q25, if_pos (by omega), Fu.j (by omega), show 4 * 0 + t - 4 * 0 = t by omega]
    · have i0 : i = 0 := by have : i < 1 := hi'; omega
      subst i0
      rw [P0_S]
      unfold allF
      refine decide_eq_false (fun q => ?_)
      have := q 0 (by omega)
      have := a4 0
      omega
  | succ d ih =>
    intro v n w hv hn T Bt
    obtain ⟨n, rfl⟩ : ∃ z, n = z + 1 := ⟨n - 1, by omega⟩
    obtain ⟨h1, h2, h3, h4, h5, h6⟩ := Bs.ts T.ts
    obtain ⟨w1, e1, T1, _, x1⟩ := tries_r (w0 := w) (bk := bk) (v := v) (c := v % 4) h1 TM.refl (h5 v (by omega)) (by omega) (Nat.mod_lt _ (by decide))
    rw [← a0_rit wb v] at x1
    have r5 := rpt_lt (bk := bk) A (show v + 1 < 8 * K + 1 by omega)
    have ep : rpt bk (a0B bk) (v + 1) = rit bk (a0B bk) v := by unfold rpt; rw [if_neg (by omega), show v + 1 - 1 = v by omega]
    obtain ⟨w2, e2, F2, B2⟩ := builds_s (w := w1) (m := m) (bk := bk) (a := a0B bk) (c := v + 1) (by rw [T1.1.c]; exact h1) (by omega) (by omega) (Bt.ext (fun u _ => by rw [T1.1.j (by unfold PR; omega)])) (by omega)
    obtain ⟨w', e', r⟩ := ih (v + 1) n w2 (by omega) (by omega) ⟨(T.1.trans (T1.1.mono (fun b k z => by unfold PR at z; unfold PMb; omega))).trans (F2.mono (fun b k z => by unfold PMb; omega)), fun j hj => by rw [F2.ar (by omega), T1.2 j hj]; exact T.2 j hj⟩ B2
    refine ⟨w', ?_, r⟩
    rw [FX9_laysMachines_97, h2, l4_, nI_rem (a := v) (b := 4) (by omega) (by decide)]
    refine E_f (nI_ge (by omega) (by omega)) (E_b e1 ?_)
    dsimp only
    rw [ep] at e2 r5
    rw [x1, nI_1, nI_j (by omega)]
    exact E_b e2 e'
def PSs (m : Nat) : Nat → Nat → Prop := fun b k => b = m ∧ (k = 16 ∨ (20 ≤ k ∧ k ≤ 33))
theorem searches_r (h9 : hc w m = 9) (h7 : hi w m 7 = nI kn) (kn8 : kn ≤ 8) (rk : ∀ k, k < kn → RK w m k (B k) ∧ WB (B k)) (mp : ∀ c, c < 2 → ha w m 16 (4 + c) = nI c) (z0 : 0 < z) (zk : z < 2 ^ kn) : ∃ w', FX9_searches w m (nI z) = some (srI (srB B z), w') ∧ Fr (PSs m) w w' ∧ (∀ j, 4 ≤ j → ha w' m 16 j = ha w m 16 j) ∧ ((srB B z).1 = 1 → QFr w' m (kK z 8) (bkZ B z) (srB B z).2.2) := by
  have z256 : z < 256 := Nat.lt_of_lt_of_le zk (Nat.pow_le_pow_right (n := 2) (by decide) kn8)
  obtain ⟨K1, K2⟩ := kK_pos z z256 z0
  have kbt : ∀ j, ksF z j < kn := fun j => bt_kn kn (by omega) z zk _ (ks_bit z256 z0 j).1 (ks_bit z256 z0 j).2
  have wb : ∀ j, WB (bkZ B z j) := fun j => (rk _ (kbt j)).2
  obtain ⟨u, hu⟩ : ∃ u, u = setI w m 30 0 := ⟨_, rfl⟩
  have Fu : Fr (P30 m) w u := by rw [hu]; exact Fr.sI ⟨rfl, by omega⟩
  obtain ⟨w1, e1, F1, L1⟩ := lay7 (w0 := u) (m := m) (z := z) z256 kn8 (by rw [Fu.i (by unfold P30; omega)]; exact h7) kn 0 FUEL u (by omega) (fuel_lt (by omega)) Fr.refl ⟨by rw [hu, hi_setI, if_pos ⟨rfl, rfl⟩]; rfl, fun v hv => absurd hv (Nat.not_lt_zero _)⟩
  rw [← kK_kn kn8 zk] at L1
  have Fw1 : Fr (P30 m) w w1 := Fu.trans F1
  have g9 : hc w1 m = 9 := by rw [Fw1.c]; exact h9
  have Bs : RBs w1 m (kK z 8) (bkZ B z) := by
    refine ⟨g9, L1.1, K1, K2, fun v hv => ?_, fun c hc' => by rw [Fw1.ar (by unfold P30; omega)]; exact mp c hc'⟩
    obtain ⟨y1, y2⟩ := L1.2 v hv
    exact ⟨ksF z (v / 8), (ks_bit z256 z0 _).1, y1, y2, (rk _ (kbt _)).1.fr Fw1 (by unfold P30; omega) (by unfold P30; omega), wb _⟩
  have ep : rpt (bkZ B z) (a0B (bkZ B z)) 0 = 2 := rfl
  obtain ⟨w2, e2, F2, B2⟩ := builds_0 (w := w1) (m := m) (bk := bkZ B z) (a := a0B (bkZ B z)) g9 (by rw [ep]; decide)
  rw [ep] at e2
  obtain ⟨w3, e3, T3, Q3⟩ := lay97 (w0 := w1) Bs wb (8 * kK z 8) 0 FUEL w2 (by omega) (fuel_lt (by omega)) ⟨F2.mono (fun b k z => by unfold PMb; omega), fun j _ => by rw [F2.ar (by omega)]⟩ B2
  obtain ⟨w4, e4, T4, Q4⟩ := ops_r Bs 9 1 (fun _ => 0) FUEL w3 (P0 (bkZ B z)) (by decide) (by decide) (fuel_lt (by decide)) T3 Q3 (ivs_0 _)
  have es : opsL (kK z 8) (bkZ B z) 1 9 (fun _ => 0) (P0 (bkZ B z)) = srB B z := by unfold srB srch; exact Eq.refl _
  rw [es] at e4 Q4
  refine ⟨w4, ?_, (Fw1.mono (fun b k z => by unfold P30 at z; unfold PSs; omega)).trans (T4.1.mono (fun b k z => by unfold PSt at z; unfold PSs; omega)), fun j hj => by rw [T4.2 j hj, Fw1.ar (by unfold P30; omega)], Q4⟩
  unfold FX9_searches
  have el : FX9_laysMachines w m (nI z) = some ((), w3) := by
    unfold FX9_laysMachines
    refine E_c h9 (E_d ?_)
    rw [← hu]
    refine Eq.trans e1 (E_b e2 ?_)
    exact e3
  exact E_c h9 (E_b el e4)
/-- reference: the least number of ops -/
theorem leastOf_r (h9 : hc w m = 9) (h7 : hi w m 7 = nI kn) (kn8 : kn ≤ 8) (rk : ∀ k, k < kn → RK w m k (B k) ∧ WB (B k)) (z0 : 0 < z) (zk : z < 2 ^ kn) : ∃ w', FX9_leastOf w m (nI z) = some (srI (srB B z), w') ∧ Quiet m w w' ∧ ((srB B z).1 = 1 → QFr w' m (kK z 8) (bkZ B z) (srB B z).2.2) := by
  have z256 : z < 256 := Nat.lt_of_lt_of_le zk (Nat.pow_le_pow_right (n := 2) (by decide) kn8)
  obtain ⟨w1, e1, F1, a1, a2, a3⟩ := ref_two h9
  have Fk : Fr (PX m) w w1 := ((kA_fr w m).mono (fun b k z => by unfold PX; omega)).trans (F1.mono (fun b k z => by unfold PCm at z; unfold PX; omega))
  have g9 : hc w1 m = 9 := by rw [Fk.c]; exact h9
  obtain ⟨w2, e2, F2, k2, Q2⟩ := searches_r (w := w1) (B := B) (z := z) g9 (by rw [Fk.i (by unfold PX; omega)]; exact h7) kn8 (fun k hk => ⟨(rk k hk).1.fr Fk (by unfold PX; omega) (by unfold PX; omega), (rk k hk).2⟩) (fun c hc' => a3 c (by omega)) z0 zk
  obtain ⟨w3, hw3⟩ : ∃ w3, w3 = setI w2 m 15 (hi w m 15) := ⟨_, rfl⟩
  have F3 : Fr (fun b k => b = m ∧ k = 15) w2 w3 := by rw [hw3]; exact Fr.sI ⟨rfl, rfl⟩
  have g93 : hc w3 m = 9 := by rw [F3.c, F2.c]; exact g9
  refine ⟨lB w3 m, ?_, ref_endX (((F1.mono (fun b k z => by unfold PCm at z; unfold PXe; omega)).trans (F2.mono (fun b k z => by unfold PSs at z; unfold PXe; omega))).trans (F3.mono (fun b k z => by unfold PXe; omega))) (by rw [hw3, hi_setI, if_pos ⟨rfl, rfl⟩]) (fun j hj => by rw [F3.ar (by omega), k2 j (by omega), a2 j (by omega)]), fun o => ?_⟩
  · unfold FX9_leastOf
    refine E_c h9 (E_f (nI_ne0 z0 (by omega)) (E_b e1 ?_))
    dsimp only
    refine E_b e2 (E_d ?_)
    dsimp only
    rw [← hw3]
    exact E_b (ref_back g93) rfl
  · obtain ⟨r1, r2⟩ := Q2 o
    have F4 : Fr (fun b k => b = m ∧ (k = 15 ∨ k = 16)) w2 (lB w3 m) := (F3.mono (fun b k z => by omega)).trans (Fr.sR ⟨rfl, Or.inr rfl⟩)
    exact ⟨r1.fr F4 (fun k h1 h2 => by omega), r2⟩
end SR
