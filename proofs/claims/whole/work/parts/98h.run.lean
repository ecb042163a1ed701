/-! run, memory, heal. -/
section AF
variable {w : HS} {x h q m r N kn mn cnt pos sz : Nat} {S S' : Me} {H : Nat → Me} {B : Nat → Book} {MM : Nat → Mch}
def meRun (S : Me) (mi ch x : Nat) (L : List (Nat × Nat)) : Me := (x, meK S, meA S, meV S, meP S, some mi, ch, some L.length, mn60 L.length, fun k => (gt L k).1, fun k => (gt L k).2)
theorem mn60_le (n : Nat) : mn60 n ≤ n ∧ mn60 n ≤ 60 := by unfold mn60; split <;> omega
theorem run_c {p mi ch : Nat} {M : Mch} (F : CF w q (bkS B S) (meA S) (meV S)) (cm : CM w p M) (hM : WM M) (Mv : MV w q N S) (V : VS kn mn N B MM S) (N6 : N ≤ 6) (hch : ch < 8) : ∃ w', FX3_goThrough w q p (nI mi) (nI ch) = some ((), w') ∧ Fr (fun b _ => b = q) w w' ∧ MV w' q N (meRun S mi ch (runS (bkS B S) (meA S) (meV S) N (meP S) M ch (meC S, 0, [])).1 (runS (bkS B S) (meA S) (meV S) N (meP S) M ch (meC S, 0, [])).2.2) ∧ hp w' q 2 = hp w q 2 ∧ Sd0 (bkS B S) (meA S) (meV S) (runS (bkS B S) (meA S) (meV S) N (meP S) M ch (meC S, 0, [])).1 ∧ (runS (bkS B S) (meA S) (meV S) N (meP S) M ch (meC S, 0, [])).1 < 64 ∧ (runS (bkS B S) (meA S) (meV S) N (meP S) M ch (meC S, 0, [])).2.2.length ≤ 999 := by
  obtain ⟨m1, m2, m3, m4, m5, m6, m7, m8, m9, m10, m11, m12, m13⟩ := Mv
  obtain ⟨ad, A⟩ := V.2.2.2.2.1
  have M8 := hM.2.1
  obtain ⟨wa, hwa⟩ : ∃ wa, wa = setI (setI (setI (setI w q 6 (nI mi)) q 7 (nI ch)) q 8 0) q 9 0 := ⟨_, rfl⟩
  have fa : Fr (fun b k => b = q ∧ (k = 6 ∨ k = 7 ∨ k = 8 ∨ k = 9)) w wa := by rw [hwa]; exact (((Fr.sI ⟨rfl, by omega⟩).trans (Fr.sI ⟨rfl, by omega⟩)).trans (Fr.sI ⟨rfl, by omega⟩)).trans (Fr.sI ⟨rfl, by omega⟩)
  have a6 : hi wa q 6 = nI mi := by rw [hwa, hi_setI, if_neg (by omega), hi_setI, if_neg (by omega), hi_setI, if_neg (by omega), hi_setI, if_pos ⟨rfl, rfl⟩]
  have a7 : hi wa q 7 = nI ch := by rw [hwa, hi_setI, if_neg (by omega), hi_setI, if_neg (by omega), hi_setI, if_pos ⟨rfl, rfl⟩]
  have a8 : hi wa q 8 = 0 := by rw [hwa, hi_setI, if_neg (by omega), hi_setI, if_pos ⟨rfl, rfl⟩]
  have a9 : hi wa q 9 = 0 := by rw [hwa, hi_setI, if_pos ⟨rfl, rfl⟩]
  have ncl : ∀ p, hc w p = 1 → ∀ k, ¬ (p = q ∧ (k = 6 ∨ k = 7 ∨ k = 8 ∨ k = 9)) := fun p hp k z => by rw [z.1, m1] at hp; cases hp
  have G : CG wa q p (bkS B S) (meA S) (meV S) N (meP S) M := ⟨F.fr fa (by omega) (by omega) (by omega) ncl, cm.fr fa (fun k z => by have := cm.1; rw [z.1, m1] at this; cases this), hM, by rw [fa.i (by omega)]; exact m2, N6, fun i hi => ⟨by rw [fa.ar (by omega)]; exact m12 i (by omega), A.1 i (by omega)⟩⟩
  have S0 : CS wa wa q 0 (meC S, 0, []) := ⟨Fr.refl, by rw [fa.i (by omega)]; exact m3, V.1, a8, a9, Nat.le_refl _, Nat.le_refl _, fun k hk => absurd hk (Nat.not_lt_zero _)⟩
  obtain ⟨u, w', e, ⟨f', h1, x6, h8, h9, hl, hb, hg⟩, sd⟩ := cls_run (b := bkS B S) G hch (mN M) 0 FUEL 0 (meC S, 0, []) wa (by omega) (fuel_lt (by omega)) (by omega) S0 V.2.2.2.1
  obtain ⟨s, hs⟩ : ∃ s, s = runS (bkS B S) (meA S) (meV S) N (meP S) M ch (meC S, 0, []) := ⟨_, rfl⟩
  have hs' : itf (fun e s => elmS (bkS B S) (meA S) (meV S) N (meP S) M e (dwn M ch e) s) 0 (mN M) (meC S, 0, []) = s := by rw [hs]; rfl
  rw [hs'] at h1 x6 h8 h9 hl hb hg sd
  rw [← hs]
  have F2 : Fr (fun b k => b = q ∧ (k = 1 ∨ (6 ≤ k ∧ k ≤ 9) ∨ k = 11)) w w' := (fa.mono (fun b k z => by omega)).trans (f'.mono (fun b k z => by unfold P3 at z; omega))
  obtain ⟨n1, n2⟩ := mn60_le s.2.2.length
  refine ⟨w', ?_, F2.mono (fun b k z => z.1), ⟨by rw [F2.c]; exact m1, by rw [F2.i (by omega)]; exact m2, h1, by rw [F2.i (by omega)]; exact m4, by rw [F2.i (by omega)]; exact m5, by rw [F2.i (by omega)]; exact m6, by rw [f'.i (by unfold P3; omega), a6]; rfl, fun _ => by rw [f'.i (by unfold P3; omega), a7]; rfl, h8, h9, n2, by rw [F2.ar (by omega)]; exact m12, fun i hi => ?_⟩, by rw [F2.o (by omega)], sd, x6, by omega⟩
  · unfold FX3_goThrough
    refine E_c m1 (E_d (E_d (E_d (E_d ?_))))
    rw [← hwa]
    cases u
    exact e
  · have i1 : i < mn60 s.2.2.length := hi
    exact hg i (by omega) (by omega)
/-- reference: the log is laid into the row -/
theorem run61 {f : Nat} (h20 : hi w m 20 = nI f) (f9 : f ≤ 999) : ∀ d v n w1, v + d = 120 → d < n → Fr (fun b k => b = m ∧ k = 16) w w1 → hc w m = 9 → (∀ j, ha w1 m 16 j = if 13 ≤ j ∧ j < 13 + v then (if 2 * f ≤ j - 13 then 0 else ha w m 21 (j - 13)) else ha w m 16 j) → ∃ w', FX9_run_61 n w1 m (nI v) = some (nI f, w') ∧ Fr (fun b k => b = m ∧ k = 16) w w' ∧ ∀ j, ha w' m 16 j = if 13 ≤ j ∧ j < 133 then (if 2 * f ≤ j - 13 then 0 else ha w m 21 (j - 13)) else ha w m 16 j := by
  intro d
  induction d with
  | zero =>
    intro v n w1 he hn f1 h9 h1
    obtain ⟨n, rfl⟩ : ∃ z, n = z + 1 := ⟨n - 1, by omega⟩
    have v1 : v = 120 := by omega
    subst v1
    refine ⟨w1, ?_, f1, fun j => h1 j⟩
    rw [FX9_run_61, f1.i (by omega), h20]
    exact E_t (by decide) rfl
  | succ d ih =>
    intro v n w1 he hn f1 h9 h1
    obtain ⟨n, rfl⟩ : ∃ z, n = z + 1 := ⟨n - 1, by omega⟩
    have st : ∀ y, y = (if 2 * f ≤ v then 0 else ha w m 21 v) → ∃ w', FX9_run_95 (FX9_run_61 n) w1 m (nI v) y ((13 : Int32) + nI v) m = some (nI f, w') ∧ Fr (fun b k => b = m ∧ k = 16) w w' ∧ ∀ j, ha w' m 16 j = if 13 ≤ j ∧ j < 133 then (if 2 * f ≤ j - 13 then 0 else ha w m 21 (j - 13)) else ha w m 16 j := by
      intro y hy
      obtain ⟨w', e', r'⟩ := ih (v + 1) n (setA w1 m 16 (13 + v) y) (by omega) (by omega) (f1.trans (Fr.sA ⟨rfl, rfl⟩)) h9 (by
        intro j
        rw [ha_setA, if_pos ⟨rfl, rfl⟩]
        by_cases e : j = 13 + v
        · rw [e, upd_s, if_pos (by omega), show 13 + v - 13 = v from by omega]
          exact hy
        · rw [upd_n e, h1]
          by_cases z : 13 ≤ j ∧ j < 13 + v
          · rw [if_pos z]
            exact (if_pos (by omega)).symm
          · rw [if_neg z]
            exact (if_neg (by omega)).symm)
      refine ⟨w', ?_, r'⟩
      unfold FX9_run_95
      rw [show (13 : Int32) + nI v = nI (13 + v) from nI_add 13 v, nI_clamp (by omega)]
      refine E_c (by rw [f1.c]; exact h9) (E_i rfl (by omega) (by decide) (E_d ?_))
      rw [nI_1]
      exact e'
    rw [FX9_run_61, f1.i (by omega), h20, l2_, nI_mul, nI_clamp (by omega), f1.ar (by omega)]
    by_cases z : 2 * f ≤ v
    · obtain ⟨w', e', r'⟩ := st 0 (by rw [if_pos z])
      exact ⟨w', E_f (nI_ge (b := 120) (by omega) (by decide)) (E_t (nI_le z (by omega)) e'), r'⟩
    · obtain ⟨w', e', r'⟩ := st (ha w m 21 v) (by rw [if_neg z])
      exact ⟨w', E_f (nI_ge (b := 120) (by omega) (by decide)) (E_f (nI_ge (by omega) (by omega)) (E_i rfl (by omega) (by decide) e')), r'⟩
/-- reference: run laid -/
def r9Q (m mi ch : Nat) (wc wd : HS) : Prop := ∃ z w15, FX9_goesThrough wc m (nI mi) (nI ch) = some ((), w15) ∧ FX9_run_61 FUEL (setA (setA (setA w15 m 16 10 (nI mi)) m 16 11 (nI ch)) m 16 12 (hi (setA (setA w15 m 16 10 (nI mi)) m 16 11 (nI ch)) m 20)) m 0 = some (z, wd)
theorem run_r {mi ch : Nat} {M : Mch} (RFc : RF w m (bkS B S) (meA S) (meV S)) (R : RV (ha w m 16) S) (V : VS kn mn N B MM S) (hM : WM M) (T : RMa w m mi M) (h7 : mi < 7) (hN : hi w m 15 = nI N) (N6 : N ≤ 6) (hch : ch < 8) : ∃ w' w15 L, FX9_goesThrough w m (nI mi) (nI ch) = some ((), w15) ∧ L = (runS (bkS B S) (meA S) (meV S) N (meP S) M ch (meC S, 0, [])).2.2 ∧ FX9_run_61 FUEL (setA (setA (setA w15 m 16 10 (nI mi)) m 16 11 (nI ch)) m 16 12 (hi (setA (setA w15 m 16 10 (nI mi)) m 16 11 (nI ch)) m 20)) m 0 = some (nI L.length, w') ∧ Fr (PR m) w w' ∧ RV (ha w' m 16) (meRun S mi ch (runS (bkS B S) (meA S) (meV S) N (meP S) M ch (meC S, 0, [])).1 (runS (bkS B S) (meA S) (meV S) N (meP S) M ch (meC S, 0, [])).2.2) := by
  obtain ⟨r1, r2, r3, r4, r5, r6, r7, r8, r9, r10⟩ := R
  obtain ⟨ad, A⟩ := V.2.2.2.2.1
  obtain ⟨u, w15, e15, f15, j15, x15, x6, h20, h22, hl, hb, hg⟩ := ref_goes (x := meC S) (mp := meP S) RFc r1 V.1 hM T h7 hN N6 (fun i hi => ⟨r5 i (by omega), A.1 i (by omega)⟩) hch
  obtain ⟨s, hs⟩ : ∃ s, s = runS (bkS B S) (meA S) (meV S) N (meP S) M ch (meC S, 0, []) := ⟨_, rfl⟩
  rw [← hs] at x15 x6 h20 h22 hl hb hg ⊢
  obtain ⟨wa, hwa⟩ : ∃ wa, wa = setA (setA (setA w15 m 16 10 (nI mi)) m 16 11 (nI ch)) m 16 12 (hi (setA (setA w15 m 16 10 (nI mi)) m 16 11 (nI ch)) m 20) := ⟨_, rfl⟩
  have fa : Fr (fun b k => b = m ∧ k = 16) w15 wa := by rw [hwa]; exact ((Fr.sA ⟨rfl, rfl⟩).trans (Fr.sA ⟨rfl, rfl⟩)).trans (Fr.sA ⟨rfl, rfl⟩)
  have i20 : hi (setA (setA w15 m 16 10 (nI mi)) m 16 11 (nI ch)) m 20 = nI s.2.2.length := h20
  have ea : ∀ j, ha wa m 16 j = if j = 12 then nI s.2.2.length else if j = 11 then nI ch else if j = 10 then nI mi else ha w15 m 16 j := by
    intro j
    rw [hwa, i20, ha_setA, if_pos ⟨rfl, rfl⟩, ha_setA, if_pos ⟨rfl, rfl⟩, ha_setA, if_pos ⟨rfl, rfl⟩]
    rfl
  have c9 : hc wa m = 9 := by rw [fa.c, f15.c]; exact RFc.1
  obtain ⟨w', e', f', g'⟩ := run61 (w := wa) (m := m) (f := s.2.2.length) (by rw [fa.i (by omega)]; exact h20) (by omega) 120 0 FUEL wa rfl (fuel_lt (by decide)) Fr.refl c9 (fun j => by rw [if_neg (by omega)])
  have lo : ∀ j, j < 13 → ha w' m 16 j = ha wa m 16 j := fun j hj => by rw [g', if_neg (by omega)]
  have lo2 : ∀ j, j < 10 → j ≠ 0 → ha w' m 16 j = ha w m 16 j := fun j hj h0 => by rw [lo _ (by omega), ea, if_neg (by omega), if_neg (by omega), if_neg (by omega), j15 j h0]
  obtain ⟨n1, n2⟩ := mn60_le s.2.2.length
  have a21 : ha wa m 21 = ha w15 m 21 := fa.ar (by omega)
  cases u
  refine ⟨w', w15, s.2.2, e15, rfl, by rw [← hwa]; exact e', (f15.trans (fa.mono (fun b k z => ⟨z.1, Or.inl z.2⟩))).trans (f'.mono (fun b k z => ⟨z.1, Or.inl z.2⟩)), ⟨by rw [lo 0 (by decide), ea]; exact x15, by rw [lo2 1 (by decide) (by decide)]; exact r2, by rw [lo2 2 (by decide) (by decide)]; exact r3, by rw [lo2 3 (by decide) (by decide)]; exact r4, fun i hi => by rw [lo2 _ (by omega) (by omega)]; exact r5 i hi, by rw [lo 10 (by decide), ea]; rfl, fun _ => by rw [lo 11 (by decide), ea]; rfl, by rw [lo 12 (by decide), ea]; rfl, n2, fun i hi => ?_⟩⟩
  have i1 : i < mn60 s.2.2.length := hi
  obtain ⟨t1, t2⟩ := hg i (by omega) (by omega)
  rw [g', if_pos (by omega), if_neg (by omega), g', if_pos (by omega), if_neg (by omega), a21, show 13 + 2 * i - 13 = 2 * i from by omega, show 14 + 2 * i - 13 = 2 * i + 1 from by omega]
  exact ⟨t1, t2⟩
theorem VS.run {mi ch x' : Nat} {L : List (Nat × Nat)} (V : VS kn mn N B MM S) (hM : WM (MM mi)) (N6 : N ≤ 6) (hmi : mi < mn) (hch : ch < 8) (x6 : x' < 64) (sd : Sd0 (bkS B S) (meA S) (meV S) x') (l9 : L.length ≤ 999) (G : ∀ k, k < L.length → GAd (MM mi) N ch (gt L k).1 (gt L k).2) : VS kn mn N B MM (meRun S mi ch x' L) := by
  obtain ⟨v1, v2, v3, v4, v5, v6, v7, v8⟩ := V
  obtain ⟨n1, n2⟩ := mn60_le L.length
  have key : ∀ i, i < mn60 L.length → GAd (MM mi) N ch (gt L i).1 (gt L i).2 := fun i hi => G i (by omega)
  refine ⟨x6, v2, v3, sd, v5, ⟨fun z => (by cases z), fun f hf => ?_, fun i hi => ?_⟩, ⟨fun z => (by cases z), fun z => (by cases z)⟩, fun mj hj => ?_⟩
  · cases hf
    exact ⟨by omega, rfl⟩
  · have := gad_bd hM N6 (key i hi)
    have e1 : meX (meRun S mi ch x' L) i = (gt L i).1 := rfl
    have e2 : meY (meRun S mi ch x' L) i = (gt L i).2 := rfl
    rw [e1, e2]
    omega
  · cases hj
    exact ⟨hmi, hch, fun i hi => key i hi⟩
theorem CM.ph {wa : HS} {p : Nat} {M : Mch} (Co : COR w x h q m r N kn mn cnt pos B MM S H) (cm : CM w p M) (ka : Ke (PHq w h q) w wa) : CM wa p M := cm.ke ka (Co.nk2 p cm.1)
theorem run_call (Co : COR w x h q m r N kn mn cnt pos B MM S H) (fs : ∀ b, hc w b < 10 → b < sz) (u0 u1 : Int32) : ACT w x h q m N kn mn sz B MM (fun sz w x => FX8_run sz w x u0 u1) (fun w m => FX9_run w m u0 u1) := by
  obtain ⟨c1, c2, c3, c4, c5, c6, V, c8⟩ := id Co
  obtain ⟨l1, l2, l3, l4, l5, l6, l7, l8, l9⟩ := id c1
  have mn6 := c6.2.2.2.2.1
  rcases idx (u := u0) (n := mn) (by omega) with hu | ⟨mi, hmi, rfl⟩
  · refine ACT.no (z := -1) Co ?_ ?_
    · try dsimp only
      unfold FX8_run
      exact E_c l1 (E_b (cx_nomarch c5 hu) rfl)
    · try dsimp only
      unfold FX9_run
      exact E_c l4 (E_b (rx_nomarch c6 hu) (E_t rfl rfl))
  obtain ⟨p, e1, cm, hM, hqp⟩ := cx_march c5 hmi
  have e9 := rx_march c6 hmi
  rcases idx (u := u1) (n := 8) (by decide) with hu | ⟨ch, hch, rfl⟩
  · refine ACT.no (z := -1) Co ?_ ?_
    · try dsimp only
      unfold FX8_run
      refine E_c l1 (E_b e1 ?_)
      show (if u1 < 0 then _ else _) = _
      by_cases z : u1 < 0
      · exact E_t z rfl
      · refine E_f z (E_f ?_ rfl)
        obtain ⟨j, j1, rfl⟩ := nI_of z
        have : ¬ j < 8 := fun q => nI_ge q (by decide) (hu.resolve_left z)
        exact nI_nlt (b := 8) (by omega) j1
    · try dsimp only
      unfold FX9_run
      rcases isin_c w u1 7 (a := 0) (b := 7) (by decide) (by decide) (by decide) with ⟨k, hk, e, _⟩ | ⟨_, ei⟩
      · exact absurd e (ne_c hu (by omega) (by decide))
      · exact E_c l4 (E_b e9 (E_f i10 (E_b ei (E_t rfl rfl))))
  obtain ⟨s, hs⟩ : ∃ s, s = runS (bkS B S) (meA S) (meV S) N (meP S) (MM mi) ch (meC S, 0, []) := ⟨_, rfl⟩
  have n : ∀ j, j = 8 ∨ j = 9 → ¬ PAc w h m m j := by
    intro j hj z
    rcases z with z | z | z
    · have := c2.2.1; rw [← z, l4] at this; cases this
    · rw [l4] at z; cases z
    · omega
  -- what a run keeps, told ahead
  obtain ⟨_, _, _, _, _, sd, x6, le9⟩ := run_c (p := p) (mi := mi) (ch := ch) (M := MM mi) (Co.cf Ke.refl Co.nk l3 c4) cm hM l3 V l9 hch
  have Gd := run_good (b := bkS B S) (a := meA S) (v := meV S) (N := N) (ch := ch) (M := MM mi) (mp := meP S) (meC S)
  refine ACT.go (S' := meRun S mi ch s.1 s.2.2) (Q8 := fun wa wb => FX3_goThrough wa q p (nI mi) (nI ch) = some ((), wb)) (Q9 := fun wc wd => ∃ w15, FX9_goesThrough wc m (nI mi) (nI ch) = some ((), w15) ∧ FX9_run_61 FUEL (setA (setA (setA w15 m 16 10 (nI mi)) m 16 11 (nI ch)) m 16 12 (hi (setA (setA w15 m 16 10 (nI mi)) m 16 11 (nI ch)) m 20)) m 0 = some (nI s.2.2.length, wd)) Co fs ?_ (fun wa ka Ma pa => ?_) (fun wc kc hN Rc => ?_) ?_
  · rw [hs]
    exact V.run hM l9 hmi hch x6 sd le9 (fun k hk => (Gd.1 k hk).1)
  · obtain ⟨wb, b1, b2, b3, b4, _⟩ := run_c (p := p) (mi := mi) (ch := ch) (M := MM mi) (Co.cf ka Co.nk Ma pa) (CM.ph Co cm ka) hM Ma V l9 hch
    rw [← hs] at b3
    exact ⟨wb, b1, b2, b3, by rw [b4]; exact pa⟩
  · have T : RMa wc m mi (MM mi) := by
      have := (c6.2.2.2.2.2.2.1 mi hmi).1
      unfold RMa at this ⊢
      rw [kc.ar l4 (by decide) (n 8 (Or.inl rfl)), kc.ar l4 (by decide) (n 9 (Or.inr rfl))]
      exact this
    obtain ⟨wd, w15, L, d1, d2, d3, d4, d5⟩ := run_r (Co.rf kc Rc) Rc V hM T (by omega) hN l9 hch
    rw [← hs] at d2 d5
    rw [d2] at d3
    exact ⟨wd, ⟨w15, d1, d3⟩, d4, d5⟩
  · intro wa mc ms wb wc wd f1 a5 ac Ma q8 b9 b5 Mb kb mi' e3 Rc q9 Rd
    obtain ⟨w15, d1, d2⟩ := q9
    refine ⟨nI s.2.2.length, ?_, ?_⟩
    · try dsimp only
      unfold FX8_run
      refine E_c l1 (E_b e1 ?_)
      show (if nI ch < 0 then _ else _) = _
      refine E_f (nI_pos (by omega)) (E_t (nI_lt (b := 8) hch (by decide)) (E_b c2.1 (E_b l2 (E_b f1 (bm0 (E_b a5 (E_b q8 (E_b b5 (E_c Mb.1 ?_)))))))))
      dsimp only
      rw [Mb.2.2.2.2.2.2.2.2.1]
      rfl
    · try dsimp only
      unfold FX9_run
      have Rb := c6.mi b9 mi'
      rcases isin_c wb (nI ch) 7 (a := 0) (b := 7) (by decide) (by decide) (by decide) with ⟨k, hk, e, ei⟩ | ⟨hu, ei⟩
      · exact E_c b9 (E_b (rx_march Rb hmi) (E_f i10 (E_b ei (E_f i10 (E_b e3 (E_b d1 (E_d (E_d (E_d d2)))))))))
      · exact absurd rfl (ne_c hu (by omega) (by decide))
-- heal
theorem heal_act (Co : COR w x h q m r N kn mn cnt pos B MM S H) (fs : ∀ b, hc w b < 10 → b < sz) : ACT w x h q m N kn mn sz B MM (fun sz w x => FX8_heal sz w x) (fun w m => FX9_heal w m) := by
  obtain ⟨c1, c2, c3, c4, c5, c6, V, c8⟩ := id Co
  have kn8 := c6.2.2.1
  obtain ⟨z, w1, mc, ms, w2, S', cnt', pos', H', e1, e2, e3, e4, e5, e6, e7, e8, e9, e10⟩ := heal_call c1 c2 c3 c4 (fun k hk => ⟨by have := V.2.1 k hk; omega, by
    obtain ⟨p, p1, _⟩ := c5.2.2.2.2.2.2.2.1 k (V.2.1 k hk)
    exact ⟨p, p1⟩⟩) fs
  refine ⟨z, w1, mc, ms, w2, S', cnt', pos', H', e1, e2, e3, e4, e5.mono (fun b k z => ?_), e6, e7, e8, e9, ?_, ?_⟩
  · rcases z with z | z | z
    · exact Or.inl z
    · exact Or.inr (Or.inl z)
    · exact Or.inr (Or.inr ⟨z.1, by omega⟩)
  · rcases e10 with ⟨_, rfl, _⟩ | ⟨rfl, _⟩
    · exact V
    · obtain ⟨v1, v2, v3, v4, v5, v6, v7, v8⟩ := V
      exact ⟨v1, fun k hk => (by cases hk), Or.inl ⟨rfl, rfl, rfl⟩, fun z => (by cases z), v5, v6, v7, v8⟩
  · rcases e10 with ⟨_, _, rfl, rfl⟩ | ⟨_, rfl, rfl⟩
    · exact c8
    · intro i hi
      unfold hcons
      by_cases i0 : i = 0
      · rw [if_pos i0]; exact V
      · rw [if_neg i0]
        exact c8 (i - 1) (by unfold c20 at hi; split at hi <;> omega)
end AF
