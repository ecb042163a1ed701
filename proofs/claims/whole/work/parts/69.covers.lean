/-! On two cells; covers; kinds and marches by number. -/
theorem idx {u : Int32} {n : Nat} (hn : n < 2 ^ 31) : (u < 0 ∨ nI n ≤ u) ∨ ∃ k, k < n ∧ u = nI k := by
  by_cases h : u < 0
  · exact Or.inl (Or.inl h)
  · obtain ⟨j, j1, rfl⟩ := nI_of h
    by_cases hj : j < n
    · exact Or.inr ⟨j, hj, rfl⟩
    · exact Or.inl (Or.inr (nI_le (by omega) j1))
section CXs
variable {w : HS} {x r kn mn : Nat} {B : Nat → Book} {MM : Nat → Mch}
def KN (w : HS) (x kn mn : Nat) (B : Nat → Book) (MM : Nat → Mch) : Prop := ∀ mi, mi < 6 → ∀ k, k < 8 → ha w x 8 (8 * mi + k) = 0 ∨ (mi < mn ∧ k < kn ∧ ha w x 8 (8 * mi + k) = nI (1 + onT (B k) (MM mi)))
/-- class: kinds, marches, the trial, what is known -/
def CX (w : HS) (x r kn mn : Nat) (B : Nat → Book) (MM : Nat → Mch) : Prop := hc w x = 8 ∧ hp w x 7 = some r ∧ hc w r = 7 ∧ hi w x 2 = nI kn ∧ kn ≤ 8 ∧ hi w x 4 = nI mn ∧ mn ≤ 6 ∧ (∀ k, k < kn → ∃ p, hq w x 1 k = some p ∧ CK w p (B k) ∧ WB (B k)) ∧ (∀ k, k < mn → ∃ p, hq w x 3 k = some p ∧ CM w p (MM k) ∧ WM (MM k)) ∧ KN w x kn mn B MM
/-- what trials and what is known may change -/
def PBx (x r : Nat) : Nat → Nat → Prop := fun b k => b = r ∨ (b = x ∧ k = 8)
theorem CX.at {w' : HS} (h : CX w x r kn mn B MM) (f : Fr (PBx x r) w w') (hk : KN w' x kn mn B MM) : CX w' x r kn mn B MM := by
  obtain ⟨h1, h2, h3, h4, h5, h6, h7, h8, h9, _⟩ := h
  have xr : x ≠ r := by intro q; rw [q, h3] at h1; cases h1
  refine ⟨by rw [f.c]; exact h1, by rw [f.o (by unfold PBx; omega)]; exact h2, by rw [f.c]; exact h3, by rw [f.i (by unfold PBx; omega)]; exact h4, h5, by rw [f.i (by unfold PBx; omega)]; exact h6, h7, fun k hk => ?_, fun k hk => ?_, hk⟩
  · obtain ⟨p, p1, p2, p3⟩ := h8 k hk
    refine ⟨p, by rw [f.qq (by unfold PBx; omega)]; exact p1, p2.fr f (fun k z => ?_), p3⟩
    have := p2.1
    rcases z with z | z
    · rw [z, h3] at this; cases this
    · rw [z.1, h1] at this; cases this
  · obtain ⟨p, p1, p2, p3⟩ := h9 k hk
    refine ⟨p, by rw [f.qq (by unfold PBx; omega)]; exact p1, p2.fr f (fun k z => ?_), p3⟩
    have := p2.1
    rcases z with z | z
    · rw [z, h3] at this; cases this
    · rw [z.1, h1] at this; cases this
theorem cx_kind (h : CX w x r kn mn B MM) {k : Nat} (hk : k < kn) : ∃ p, FX8_kindAt w x (nI k) = some (some p, w) ∧ CK w p (B k) ∧ WB (B k) ∧ hq w x 1 k = some p := by
  obtain ⟨p, p1, p2, p3⟩ := h.2.2.2.2.2.2.2.1 k hk
  have k8 := h.2.2.2.2.1
  refine ⟨p, ?_, p2, p3, p1⟩
  unfold FX8_kindAt
  refine E_c h.1 (E_f (nI_pos (by omega)) (E_f (by rw [h.2.2.2.1]; exact nI_ge hk (by omega)) (E_f (nI_ge (b := 8) (by omega) (by decide)) (E_i rfl (by omega) (by decide) ?_))))
  rw [nI_clamp (by omega), p1]
theorem cx_nokind (h : CX w x r kn mn B MM) {u : Int32} (hu : u < 0 ∨ nI kn ≤ u) : FX8_kindAt w x u = some (none, w) := by
  unfold FX8_kindAt
  refine E_c h.1 ?_
  by_cases h0 : u < 0
  · exact E_t h0 rfl
  · exact E_f h0 (E_t (by rw [h.2.2.2.1]; exact hu.resolve_left h0) rfl)
theorem cx_march (h : CX w x r kn mn B MM) {k : Nat} (hk : k < mn) : ∃ p, FX8_marchAt w x (nI k) = some (some p, w) ∧ CM w p (MM k) ∧ WM (MM k) ∧ hq w x 3 k = some p := by
  obtain ⟨p, p1, p2, p3⟩ := h.2.2.2.2.2.2.2.2.1 k hk
  have k6 := h.2.2.2.2.2.2.1
  refine ⟨p, ?_, p2, p3, p1⟩
  unfold FX8_marchAt
  refine E_c h.1 (E_f (nI_pos (by omega)) (E_f (by rw [h.2.2.2.2.2.1]; exact nI_ge hk (by omega)) (E_f (nI_ge (b := 6) (by omega) (by decide)) (E_i rfl (by omega) (by decide) ?_))))
  rw [nI_clamp (by omega), p1]
theorem cx_nomarch (h : CX w x r kn mn B MM) {u : Int32} (hu : u < 0 ∨ nI mn ≤ u) : FX8_marchAt w x u = some (none, w) := by
  unfold FX8_marchAt
  refine E_c h.1 ?_
  by_cases h0 : u < 0
  · exact E_t h0 rfl
  · exact E_f h0 (E_t (by rw [h.2.2.2.2.2.1]; exact hu.resolve_left h0) rfl)
theorem cx_both (h : CX w x r kn mn B MM) {mi k : Nat} (hm : mi < mn) (hk : k < kn) : Rn (FX8_bothOrders w x (nI mi) (nI k)) (fun z w' => z = nI (onT (B k) (MM mi)) ∧ Fr (PBx x r) w w' ∧ CX w' x r kn mn B MM) := by
  obtain ⟨kp, e1, k1, k2, _⟩ := cx_kind h hk
  obtain ⟨mq, e2, m1, m2, _⟩ := cx_march h hm
  have k8 := h.2.2.2.2.1
  have m6 := h.2.2.2.2.2.2.1
  have kn1 := h.2.2.2.2.2.2.2.2.2
  refine (both_eq (b := B k) (M := MM mi) (kp := kp) (mp := mq) ⟨h.1, h.2.1, h.2.2.1, k1, k2, m1, m2⟩ (by omega) (by omega) e1 e2 ?_).mono ?_
  · rcases kn1 mi (by omega) k (by omega) with z | z
    · exact Or.inl z
    · exact Or.inr z.2.2
  · intro z w' ⟨h1, h2, h3, h4⟩
    refine ⟨h1, h2, h.at h2 (fun mi' hm' k' hk' => ?_)⟩
    by_cases q : 8 * mi' + k' = 8 * mi + k
    · obtain ⟨rfl, rfl⟩ : mi' = mi ∧ k' = k := by omega
      exact Or.inr ⟨hm, hk, h3⟩
    · rw [h4 _ q]
      exact kn1 mi' hm' k' hk'
def covI (f : Nat → Bool) : Nat → Nat → Int32 → Int32
  | _, 0, s => s
  | i, d + 1, s => covI f (i + 1) d (if f i = true then s ||| ((1 : Int32) <<< (nI i &&& 31)) else s)
theorem covI_congr {f g : Nat → Bool} : ∀ {d i : Nat} {s : Int32}, (∀ r, i ≤ r → r < i + d → f r = g r) → covI f i d s = covI g i d s := by
  intro d
  induction d with
  | zero => intro i s _; rfl
  | succ d ih =>
    intro i s h
    unfold covI
    rw [h i (Nat.le_refl _) (by omega), ih (fun r h1 h2 => h r (by omega) (by omega))]
theorem cx_covers {mi : Nat} {w0 : HS} (hm : mi < mn) : ∀ d i n s w, i + d = kn → d < n → Fr (PBx x r) w0 w → CX w x r kn mn B MM → Rn (FX8_covers_14 n w x (nI mi) s (nI i)) (fun z w' => z = covI (fun k => decide (onT (B k) (MM mi) = 3)) i d s ∧ Fr (PBx x r) w0 w' ∧ CX w' x r kn mn B MM) := by
  intro d
  induction d with
  | zero =>
    intro i n s w he hn f h
    obtain ⟨n, rfl⟩ : ∃ z, n = z + 1 := ⟨n - 1, by omega⟩
    have k8 := h.2.2.2.2.1
    rw [FX8_covers_14, h.2.2.2.1]
    exact Rn.t (nI_le (by omega) (by omega)) (Rn.ret ⟨rfl, f, h⟩)
  | succ d ih =>
    intro i n s w he hn f h
    obtain ⟨n, rfl⟩ : ∃ z, n = z + 1 := ⟨n - 1, by omega⟩
    have k8 := h.2.2.2.2.1
    rw [FX8_covers_14, h.2.2.2.1]
    refine Rn.f (nI_ge (by omega) (by omega)) ((cx_both h hm (show i < kn by omega)).call ?_)
    intro z w' ⟨h1, h2, h3⟩
    dsimp only
    have o3 := onT3 (B i) (MM mi)
    unfold FX8_covers_38
    rw [h1, nI_1 i]
    by_cases h33 : onT (B i) (MM mi) = 3
    · refine Rn.t (by rw [h33]; rfl) ?_
      have := ih (i + 1) n (s ||| ((1 : Int32) <<< (nI i &&& 31))) w' (by omega) (by omega) (f.trans h2) h3
      refine this.mono (fun z w2 hh => ⟨?_, hh.2⟩)
      rw [hh.1]
      unfold covI
      rw [if_pos (decide_eq_true h33)]
      cases d <;> rfl
    · refine Rn.f (fun q => h33 ((nI_eq (a := onT (B i) (MM mi)) (b := 3) (by omega) (by omega)).mp q)) ?_
      have := ih (i + 1) n s w' (by omega) (by omega) (f.trans h2) h3
      refine this.mono (fun z w2 hh => ⟨?_, hh.2⟩)
      rw [hh.1]
      unfold covI
      rw [if_neg (fun q => h33 (of_decide_eq_true q))]
      cases d <;> rfl
end CXs
-- reference
section ROn
variable {w : HS} {m k mi : Nat} {b : Book} {M : Mch}
theorem two_loop {old : Int32} {w0 : HS} : ∀ d i n (w : HS), i + d = 6 → d < n → Fr (PCm m) w0 w → hi w m 15 = nI 2 → (∀ j, j < 4 ∨ 10 ≤ j → ha w m 16 j = ha w0 m 16 j) → (∀ j, j < i → ha w m 16 (4 + j) = nI j) → ∃ w', FX9_beginsTwo_16 n w m old (nI i) = some (old, w') ∧ Fr (PCm m) w0 w' ∧ hi w' m 15 = nI 2 ∧ (∀ j, j < 4 ∨ 10 ≤ j → ha w' m 16 j = ha w0 m 16 j) ∧ ∀ j, j < 6 → ha w' m 16 (4 + j) = nI j := by
  intro d
  induction d with
  | zero =>
    intro i n w he hn f h15 hj hi'
    obtain ⟨n, rfl⟩ : ∃ z, n = z + 1 := ⟨n - 1, by omega⟩
    obtain rfl : i = 6 := by omega
    refine ⟨w, ?_, f, h15, hj, hi'⟩
    rw [FX9_beginsTwo_16]
    exact E_t (nI_le (a := 6) (b := 6) (by decide) (by decide)) rfl
  | succ d ih =>
    intro i n w he hn f h15 hj hi'
    obtain ⟨n, rfl⟩ : ∃ z, n = z + 1 := ⟨n - 1, by omega⟩
    have ix : (4 : Int32) + nI i = nI (4 + i) := nI_add 4 i
    obtain ⟨w', e1, r1, r2, r3, r4⟩ := ih (i + 1) n (setA w m 16 (4 + i) (nI i)) (by omega) (by omega) (f.trans (Fr.sA ⟨rfl, by omega⟩)) h15 (fun j hh => by rw [ha_setA, if_pos ⟨rfl, rfl⟩, upd_n (by omega)]; exact hj j hh) (fun j hh => by
      rw [ha_setA, if_pos ⟨rfl, rfl⟩]
      by_cases q : j = i
      · subst q; rw [upd_s]
      · rw [upd_n (by omega)]; exact hi' j (by omega))
    refine ⟨w', ?_, r1, r2, r3, r4⟩
    rw [FX9_beginsTwo_16, ix, nI_clamp (by omega), nI_1]
    exact E_f (nI_ge (b := 6) (by omega) (by decide)) (E_i rfl (by omega) (by decide) (E_d e1))
theorem ref_two (h9 : hc w m = 9) : ∃ w', FX9_beginsTwo w m = some (hi w m 15, w') ∧ Fr (PCm m) (kA w m) w' ∧ hi w' m 15 = nI 2 ∧ (∀ j, j < 4 ∨ 10 ≤ j → ha w' m 16 j = ha w m 16 j) ∧ ∀ j, j < 6 → ha w' m 16 (4 + j) = nI j := by
  obtain ⟨w', e1, r1, r2, r3, r4⟩ := two_loop (m := m) (old := hi w m 15) (w0 := kA w m) 6 0 FUEL (setI (kA w m) m 15 2) (by omega) (fuel_lt (by omega)) (Fr.sI ⟨rfl, by omega⟩) (by rw [hi_setI, if_pos ⟨rfl, rfl⟩]; rfl) (fun j _ => rfl) (fun j hh => by omega)
  refine ⟨w', ?_, r1, r2, fun j hh => by rw [r3 j hh, (kA_fr w m).ar (by omega)], r4⟩
  unfold FX9_beginsTwo
  exact E_c h9 (E_b (ref_keeps h9) (E_d e1))
theorem p2 (b : Book) (p : Nat) (hp : p < 2) : pA b 2 p = (if pr b = true then p else 7) ∧ pV b 2 p = (if pr b = true then 1 - p else p) ∧ p < nP b 2 ∧ (pr b = true → ordP b 2 (fun i => i) p = decide (p = 0)) := by
  have h : p = 0 ∨ p = 1 := by omega
  unfold ordP aT vT pA pV nP
  cases pr b <;> rcases h with h | h <;> subst h <;> decide
theorem mpid : MPok 2 (fun i => i) (fun i => i) := ⟨fun i h => h, fun i h => h, fun i _ j _ h => h, fun c h => ⟨h, rfl⟩⟩
theorem seen2 (W : WB b) (hM : WM M) {p : Nat} (hp : p < 2) : (escF (Ebl b (pA b 2 p) (pV b 2 p) 2 (fun i => i) M) (nCh M) 0 (2 ^ 2)).isNone = seen b (decide (p = 0)) M := by
  obtain ⟨q1, q2, q3, q4⟩ := p2 b p hp
  rw [catch_eq (ad := fun i => i) W hM (by decide) (by decide) q3 mpid]
  cases hpr : pr b with
  | true => rw [q4 hpr]
  | false => rw [seen_ord W hM hpr, seen_ord (o := decide (p = 0)) W hM hpr]
theorem ref_on29 {w w1 : HS} (h9 : hc w m = 9) (K : RK w m k b) (hk : k < 8) (W : WB b) (T : RMa w m mi M) (h7 : mi < 7) (hM : WM M) (f1 : Fr (PCm m) (kA w m) w1) (h15 : hi w1 m 15 = nI 2) (hj : ∀ j, j < 4 ∨ 10 ≤ j → ha w1 m 16 j = ha w m 16 j) (hmp : ∀ j, j < 6 → ha w1 m 16 (4 + j) = nI j) :
    ∀ d v n s u, v + d = 2 → d < n → TC w1 u m → s = (if 0 < v ∧ seen b true M = true then 1 else 0) + (if 1 < v ∧ seen b false M = true then 2 else 0) → Rn (FX9_onTwo_29 n u m (nI mi) (nI k) (hi w m 15) (nI s) (nI v)) (fun z w' => z = nI (onT b M) ∧ Quiet m w w') := by
  have F1 : Fr (PX m) w w1 := ((kA_fr w m).mono (fun b k z => by unfold PX; omega)).trans (PCm_PX f1)
  have G : RG w1 m k mi b M 2 (fun i => i) := ⟨by rw [F1.c]; exact h9, K.fr F1 (by unfold PX; omega) (by unfold PX; omega), hk, W, T.fr F1 (by unfold PX; omega) (by unfold PX; omega), h7, hM, h15, by decide, fun i hi => ⟨hmp i (by omega), show i < 6 by omega⟩⟩
  intro d
  induction d with
  | zero =>
    intro v n s u he hn TT hs
    obtain ⟨n, rfl⟩ : ∃ z, n = z + 1 := ⟨n - 1, by omega⟩
    obtain rfl : v = 2 := by omega
    rw [FX9_onTwo_29]
    refine Rn.t (nI_le (a := 2) (b := 2) (by decide) (by decide)) (Rn.bd ?_)
    have u9 : hc (setI u m 15 (hi w m 15)) m = 9 := by rw [hc_setI, TT.1.c, F1.c]; exact h9
    refine Rn.eq (ref_back u9) (Rn.ret ⟨?_, ?_⟩)
    · rw [hs]
      unfold onT
      congr 1
      cases seen b true M <;> cases seen b false M <;> rfl
    · refine ref_end ((f1.trans TT.1).trans (Fr.sI ⟨rfl, by omega⟩)) (by rw [hi_setI, if_pos ⟨rfl, rfl⟩]) (fun j hh => ?_)
      rw [ha_setI, TT.2.2 j (by omega), hj j (by omega)]
  | succ d ih =>
    intro v n s u he hn TT hs
    obtain ⟨n, rfl⟩ : ∃ z, n = z + 1 := ⟨n - 1, by omega⟩
    have v2 : v < 2 := by omega
    obtain ⟨q1, q2, q3, q4⟩ := p2 b v v2
    have Gu := G.tc TT
    rw [FX9_onTwo_29]
    refine Rn.f (nI_ge (b := 2) v2 (by decide)) (Rn.eq (ref_pair Gu.1 Gu.2.1 W (by omega)) ?_)
    dsimp only
    -- the victim, then the aggressor, then the trial
    have c71 : ∀ u', TC w1 u' m → hi u' m 24 = cI (pV b 2 v) → Rn (FX9_onTwo_71 (FX9_onTwo_29 n) u' m (nI mi) (nI k) (hi w m 15) (nI s) (nI v) (cI (pA b 2 v)) m) (fun z w' => z = nI (onT b M) ∧ Quiet m w w') := by
      intro u' TT' h24
      have Gu' := G.tc TT'
      unfold FX9_onTwo_71
      refine Rn.okc Gu'.1 (Rn.bd ?_)
      obtain ⟨u2, hu2⟩ : ∃ u2, u2 = setI u' m 23 (cI (pA b 2 v)) := ⟨_, rfl⟩
      rw [← hu2]
      have T2 : TC w1 u2 m := by
        rw [hu2]
        exact ⟨TT'.1.trans (Fr.sI ⟨rfl, by omega⟩), by rw [hi_setI, if_neg (by omega)]; exact TT'.2.1, TT'.2.2⟩
      have a23 : hi u2 m 23 = cI (pA b 2 v) := by rw [hu2, hi_setI, if_pos ⟨rfl, rfl⟩]
      have a24 : hi u2 m 24 = cI (pV b 2 v) := by rw [hu2, hi_setI, if_neg (by omega)]; exact h24
      refine (ref_esc (G.tc T2) (pl_of W (by decide) (by decide) q3).2.1 a23 a24 TM.refl).call ?_
      intro z u3 ⟨h1, h2⟩
      have T3 := T2.tm h2
      dsimp only
      rw [h1]
      have lt := esc_lt (N := 2) (E := Ebl b (pA b 2 v) (pV b 2 v) 2 (fun i => i) M) hM (by decide)
      have en := eI_neg (o := escF (Ebl b (pA b 2 v) (pV b 2 v) 2 (fun i => i) M) (nCh M) 0 (2 ^ 2)) (fun z hz => by have := lt z hz; omega)
      rw [seen2 W hM v2] at en
      have fin : ∀ s' : Nat, s' = (if 0 < v + 1 ∧ seen b true M = true then 1 else 0) + (if 1 < v + 1 ∧ seen b false M = true then 2 else 0) → Rn (FX9_onTwo_29 n u3 m (nI mi) (nI k) (hi w m 15) (nI s') (nI (v + 1))) (fun z w' => z = nI (onT b M) ∧ Quiet m w w') := fun s' hs' => ih (v + 1) n s' u3 (by omega) (by omega) T3 hs'
      unfold FX9_onTwo_93
      rw [nI_1 v]
      have vv : v = 0 ∨ v = 1 := by omega
      rcases vv with vv | vv
      · subst vv
        have s0 : s = 0 := by rw [hs]; cases seen b true M <;> cases seen b false M <;> rfl
        subst s0
        cases hsn : seen b (decide ((0 : Nat) = 0)) M with
        | false =>
          refine Rn.t (en.mpr hsn) ?_
          exact fin 0 (by rw [show seen b true M = false from hsn]; cases seen b false M <;> rfl)
        | true =>
          refine Rn.f (fun q => by rw [en.mp q] at hsn; cases hsn) ?_
          exact fin 1 (by rw [show seen b true M = true from hsn]; cases seen b false M <;> rfl)
      · subst vv
        have s1 : s = if seen b true M = true then 1 else 0 := by rw [hs]; cases seen b true M <;> cases seen b false M <;> rfl
        have sl : s < 2 := by rw [s1]; split <;> decide
        have or0 : ∀ s, s < 2 → (nI s ||| (0 : Int32)) = nI s ∧ (nI s ||| ((1 : Int32) <<< (nI 1 &&& 31))) = nI (s + 2) := by decide
        obtain ⟨o1, o2⟩ := or0 s sl
        cases hsn : seen b (decide ((1 : Nat) = 0)) M with
        | false =>
          refine Rn.t (en.mpr hsn) ?_
          rw [o1]
          exact fin s (by rw [s1, show seen b false M = false from hsn]; cases seen b true M <;> rfl)
        | true =>
          refine Rn.f (fun q => by rw [en.mp q] at hsn; cases hsn) ?_
          rw [o2]
          exact fin (s + 2) (by rw [s1, show seen b false M = true from hsn]; cases seen b true M <;> rfl)
    have c53 : Rn (FX9_onTwo_53 (FX9_onTwo_29 n) u m (nI mi) (nI k) (hi w m 15) (nI s) (nI v) (cI (pV b 2 v)) m) (fun z w' => z = nI (onT b M) ∧ Quiet m w w') := by
      unfold FX9_onTwo_53
      refine Rn.okc Gu.1 (Rn.bd ?_)
      obtain ⟨u2, hu2⟩ : ∃ u2, u2 = setI u m 24 (cI (pV b 2 v)) := ⟨_, rfl⟩
      rw [← hu2]
      have T2 : TC w1 u2 m := by
        rw [hu2]
        exact ⟨TT.1.trans (Fr.sI ⟨rfl, by omega⟩), by rw [hi_setI, if_neg (by omega)]; exact TT.2.1, TT.2.2⟩
      have a24 : hi u2 m 24 = cI (pV b 2 v) := by rw [hu2, hi_setI, if_pos ⟨rfl, rfl⟩]
      have G2 := G.tc T2
      refine Rn.eq (ref_pair G2.1 G2.2.1 W (by omega)) ?_
      dsimp only
      have r := c71 u2 T2 a24
      rw [q1] at r
      cases hpr : pr b with
      | false =>
        rw [hpr] at r
        exact Rn.t rfl r
      | true =>
        rw [hpr, if_pos rfl, cI_n (by omega)] at r
        exact Rn.f (by decide) r
    rw [q2] at c53
    cases hpr : pr b with
    | false =>
      rw [hpr] at c53
      rw [show cI (if false = true then 1 - v else v) = nI v from cI_n (by simp; omega)] at c53
      exact Rn.t rfl c53
    | true =>
      rw [hpr] at c53
      rw [show cI (if true = true then 1 - v else v) = nI (1 - v) from cI_n (by simp; omega)] at c53
      refine Rn.f (by decide) ?_
      rw [l1_, nI_subc (by omega)]
      exact c53
theorem ref_onTwo {w : HS} (h9 : hc w m = 9) (K : RK w m k b) (hk : k < 8) (W : WB b) (T : RMa w m mi M) (h7 : mi < 7) (hM : WM M) : ∃ q, FX9_beginsTwo w m = some q ∧ Rn (FX9_onTwo_29 FUEL q.2 m (nI mi) (nI k) q.1 0 0) (fun z w' => z = nI (onT b M) ∧ Quiet m w w') := by
  obtain ⟨w1, e1, f1, h15, hj, hmp⟩ := ref_two h9
  exact ⟨_, e1, ref_on29 h9 K hk W T h7 hM f1 h15 hj hmp 2 0 FUEL 0 w1 (by omega) (fuel_lt (by omega)) TC.refl rfl⟩
end ROn
