/-! Reference: caught, escape, on two, covers. -/
theorem keep_loop {m : Nat} : ∀ d i n (w : HS), i + d = 133 → d < n → FX9_keepsAside_2 n w m (nI i) = some ((), setR w m 17 (fun j => if i ≤ j ∧ j < 133 then ha w m 16 j else ha w m 17 j)) := by
  intro d
  induction d with
  | zero =>
    intro i n w he hn
    obtain ⟨n, rfl⟩ : ∃ z, n = z + 1 := ⟨n - 1, by omega⟩
    obtain rfl : i = 133 := by omega
    rw [FX9_keepsAside_2]
    refine E_t (nI_le (a := 133) (b := 133) (by decide) (by decide)) ?_
    have : (fun j => if 133 ≤ j ∧ j < 133 then ha w m 16 j else ha w m 17 j) = ha w m 17 := by
      funext j
      rw [if_neg (by omega)]
    rw [this, setR_id]
  | succ d ih =>
    intro i n w he hn
    obtain ⟨n, rfl⟩ : ∃ z, n = z + 1 := ⟨n - 1, by omega⟩
    rw [FX9_keepsAside_2, nI_clamp (by omega), nI_1]
    refine E_f (nI_ge (b := 133) (by omega) (by decide)) (E_i rfl (by omega) (by decide) (E_i rfl (by omega) (by decide) (E_d ?_)))
    rw [ih (i + 1) n _ (by omega) (by omega)]
    unfold setA
    rw [setR_setR, ha_setR]
    congr 3
    funext j
    rw [show ha (setR w m 17 (upd (ha w m 17) i (ha w m 16 i))) m 16 = ha w m 16 from by rw [ha_setRR, if_neg (by omega)]]
    by_cases hj : j = i
    · subst hj
      rw [if_neg (by omega), if_pos (by omega), upd_s]
    · rw [upd_n hj]
      by_cases hh : i ≤ j ∧ j < 133
      · rw [if_pos (by omega), if_pos hh]
      · rw [if_neg (by omega), if_neg hh]
theorem back_loop {m : Nat} : ∀ d i n (w : HS), i + d = 133 → d < n → FX9_laysBack_2 n w m (nI i) = some ((), setR w m 16 (fun j => if i ≤ j ∧ j < 133 then ha w m 17 j else ha w m 16 j)) := by
  intro d
  induction d with
  | zero =>
    intro i n w he hn
    obtain ⟨n, rfl⟩ : ∃ z, n = z + 1 := ⟨n - 1, by omega⟩
    obtain rfl : i = 133 := by omega
    rw [FX9_laysBack_2]
    refine E_t (nI_le (a := 133) (b := 133) (by decide) (by decide)) ?_
    have : (fun j => if 133 ≤ j ∧ j < 133 then ha w m 17 j else ha w m 16 j) = ha w m 16 := by
      funext j
      rw [if_neg (by omega)]
    rw [this, setR_id]
  | succ d ih =>
    intro i n w he hn
    obtain ⟨n, rfl⟩ : ∃ z, n = z + 1 := ⟨n - 1, by omega⟩
    rw [FX9_laysBack_2, nI_clamp (by omega), nI_1]
    refine E_f (nI_ge (b := 133) (by omega) (by decide)) (E_i rfl (by omega) (by decide) (E_i rfl (by omega) (by decide) (E_d ?_)))
    rw [ih (i + 1) n _ (by omega) (by omega)]
    unfold setA
    rw [setR_setR, ha_setR]
    congr 3
    funext j
    rw [show ha (setR w m 16 (upd (ha w m 16) i (ha w m 17 i))) m 17 = ha w m 17 from by rw [ha_setRR, if_neg (by omega)]]
    by_cases hj : j = i
    · subst hj
      rw [if_neg (by omega), if_pos (by omega), upd_s]
    · rw [upd_n hj]
      by_cases hh : i ≤ j ∧ j < 133
      · rw [if_pos (by omega), if_pos hh]
      · rw [if_neg (by omega), if_neg hh]
def kA (w : HS) (m : Nat) : HS := setR w m 17 (fun j => if 0 ≤ j ∧ j < 133 then ha w m 16 j else ha w m 17 j)
theorem ref_keeps {w : HS} {m : Nat} (h9 : hc w m = 9) : FX9_keepsAside w m = some ((), kA w m) := by
  unfold FX9_keepsAside
  exact E_c h9 (keep_loop 133 0 FUEL w (by omega) (fuel_lt (by omega)))
theorem kA_fr (w : HS) (m : Nat) : Fr (fun b k => b = m ∧ k = 17) w (kA w m) := Fr.sR ⟨rfl, rfl⟩
theorem kA_17 (w : HS) (m : Nat) : ∀ j, j < 133 → ha (kA w m) m 17 j = ha w m 16 j := by
  intro j hj
  unfold kA
  rw [ha_setRR, if_pos ⟨rfl, rfl⟩, if_pos ⟨Nat.zero_le _, hj⟩]
def lB (w : HS) (m : Nat) : HS := setR w m 16 (fun j => if 0 ≤ j ∧ j < 133 then ha w m 17 j else ha w m 16 j)
theorem ref_back {w : HS} {m : Nat} (h9 : hc w m = 9) : FX9_laysBack w m = some ((), lB w m) := by
  unfold FX9_laysBack
  exact E_c h9 (back_loop 133 0 FUEL w (by omega) (fuel_lt (by omega)))
/-- what the reference uses as it likes -/
def PX (m : Nat) : Nat → Nat → Prop := fun b k => b = m ∧ (k = 2 ∨ k = 3 ∨ k = 4 ∨ (13 ≤ k ∧ k ≤ 17) ∨ (20 ≤ k ∧ k ≤ 38) ∨ k = 40)
/-- the reference has tried things, and all is as it was -/
def Quiet (m : Nat) (w w' : HS) : Prop := Fr (PX m) w w' ∧ ha w' m 16 = ha w m 16 ∧ hi w' m 15 = hi w m 15
theorem Quiet.refl {m : Nat} {w : HS} : Quiet m w w := ⟨Fr.refl, rfl, rfl⟩
theorem Quiet.trans {m : Nat} {w w' w'' : HS} (h : Quiet m w w') (g : Quiet m w' w'') : Quiet m w w'' := ⟨h.1.trans g.1, g.2.1.trans h.2.1, g.2.2.trans h.2.2⟩
/-- trials by placements -/
def PCm (m : Nat) : Nat → Nat → Prop := fun b k => b = m ∧ (k = 15 ∨ k = 16 ∨ (20 ≤ k ∧ k ≤ 24))
theorem PCm_PX {m : Nat} {w w' : HS} (f : Fr (PCm m) w w') : Fr (PX m) w w' := f.mono (fun b k z => by unfold PCm at z; unfold PX; omega)
theorem PR_PCm {m : Nat} {w w' : HS} (f : Fr (PR m) w w') : Fr (PCm m) w w' := f.mono (fun b k z => by unfold PR at z; unfold PCm; omega)
theorem ref_end {w w1 : HS} {m : Nat} (f : Fr (PCm m) (kA w m) w1) (h15 : hi w1 m 15 = hi w m 15) (hj : ∀ j, 133 ≤ j → ha w1 m 16 j = ha w m 16 j) : Quiet m w (lB w1 m) := by
  have g : Fr (PX m) w (kA w m) := (kA_fr w m).mono (fun b k z => by unfold PX; omega)
  refine ⟨(g.trans (PCm_PX f)).trans (Fr.sR ⟨rfl, by omega⟩), ?_, ?_⟩
  · unfold lB
    rw [ha_setR]
    funext j
    by_cases h : j < 133
    · rw [if_pos ⟨Nat.zero_le _, h⟩, f.ar (by unfold PCm; omega), kA_17 w m j h]
    · rw [if_neg (by omega), hj j (by omega)]
  · show hi w1 m 15 = _
    exact h15
section RC
variable {w0 : HS} {m k mi N : Nat} {b : Book} {M : Mch} {mp ad : Nat → Nat}
/-- reference: w is reached from w0 by placements tried -/
def TC (w0 w : HS) (m : Nat) : Prop := Fr (PCm m) w0 w ∧ hi w m 15 = hi w0 m 15 ∧ ∀ j, 4 ≤ j → ha w m 16 j = ha w0 m 16 j
theorem TC.refl {w : HS} {m : Nat} : TC w w m := ⟨Fr.refl, rfl, fun _ _ => rfl⟩
theorem RG.tc {w : HS} (G : RG w0 m k mi b M N mp) (T : TC w0 w m) : RG w m k mi b M N mp := by
  obtain ⟨g1, g2, g3, g4, g5, g6, g7, g8, g9, g10⟩ := G
  exact ⟨by rw [T.1.c]; exact g1, g2.fr T.1 (by unfold PCm; omega) (by unfold PCm; omega), g3, g4, g5.fr T.1 (by unfold PCm; omega) (by unfold PCm; omega), g6, g7, by rw [T.2.1]; exact g8, g9, fun i hi => by rw [T.2.2 _ (by omega)]; exact g10 i hi⟩
theorem TC.tm {w w' : HS} (T : TC w0 w m) (h : TM w w' m) : TC w0 w' m := ⟨T.1.trans (PR_PCm h.1), (h.1.i (by unfold PR; omega)).trans T.2.1, fun j hj => (h.2 j hj).trans (T.2.2 j hj)⟩
theorem eI_neg {o : Option (Nat × Nat)} (h : ∀ z, o = some z → 8 * z.1 + z.2 < 2 ^ 31) : 0 ≤ eI o ↔ o.isNone = false := by
  cases o with
  | none => exact ⟨fun z => absurd z (by decide), fun z => by cases z⟩
  | some z => exact ⟨fun _ => rfl, fun _ => nI_pos' (h z rfl)⟩
theorem esc_lt {E : Nat → Nat → Bool} (hM : WM M) (h6 : N ≤ 6) : ∀ z, escF E (nCh M) 0 (2 ^ N) = some z → z.1 < 64 ∧ z.2 < 8 := by
  intro z h
  have p64 : 2 ^ N ≤ 64 := by
    have : ∀ k, k < 7 → 2 ^ k ≤ 64 := by decide
    exact this N (by omega)
  obtain ⟨_, h2, h3, _⟩ := escF_some _ _ _ _ h
  have := fsN_some h3
  have n8 := nCh8 hM
  exact ⟨by omega, by omega⟩
/-- a placement is laid and tried -/
theorem ref_place (G : RG w0 m k mi b M N mp) (h2 : 2 ≤ N) {w : HS} (T : TC w0 w m) {p : Nat} (hp : p < nP b N) : ∃ w1, FX9_laysPlace w m (nI k) (nI p) = some ((), w1) ∧ TC w0 w1 m ∧ hi w1 m 23 = cI (pA b N p) ∧ hi w1 m 24 = cI (pV b N p) ∧ Rn (FX9_escapeOf w1 m (nI mi) (nI k)) (fun z w' => z = eI (escF (Ebl b (pA b N p) (pV b N p) N mp M) (nCh M) 0 (2 ^ N)) ∧ TC w0 w' m ∧ hi w' m 23 = cI (pA b N p) ∧ hi w' m 24 = cI (pV b N p)) := by
  have Gw := G.tc T
  obtain ⟨g1, g2, g3, g4, g5, g6, g7, g8, g9, g10⟩ := id Gw
  obtain ⟨w1, e1, f1, a1, v1⟩ := ref_lays g1 g2 g4 (by omega) g8 h2 g9 hp
  have T1 : TC w0 w1 m := ⟨T.1.trans (f1.mono (fun b k z => by unfold PCm; omega)), (f1.i (by omega)).trans T.2.1, fun j hj => by rw [f1.ar (by omega)]; exact T.2.2 j hj⟩
  refine ⟨w1, e1, T1, a1, v1, ?_⟩
  refine (ref_esc (G.tc T1) (pl_of g4 h2 g9 hp).2.1 a1 v1 TM.refl).mono ?_
  intro z w' ⟨h1, h2⟩
  exact ⟨h1, T1.tm h2, by rw [h2.1.i (by unfold PR; omega)]; exact a1, by rw [h2.1.i (by unfold PR; omega)]; exact v1⟩
theorem ref_near {w : HS} (h9 : hc w m = 9) (W : WB b) (h2 : 2 ≤ N) (h6 : N ≤ 6) {p : Nat} (hp : p < nP b N) (a1 : hi w m 23 = cI (pA b N p)) (v1 : hi w m 24 = cI (pV b N p)) : FX9_isNear w m = some (if ask b N true p = true then 1 else 0, w) := by
  obtain ⟨p32, pl, pv, pa⟩ := pl_of W h2 h6 hp
  unfold FX9_isNear
  rw [a1, v1]
  refine E_c h9 ?_
  cases hpr : pr b with
  | false =>
    have a7 : pA b N p = 7 := by unfold pA; rw [if_neg (by rw [hpr]; decide)]
    rw [show ask b N true p = true from decide_eq_true (Or.inr (Or.inl hpr)), a7]
    exact E_t (by decide) rfl
  | true =>
    have pa' := pa hpr
    obtain ⟨n1, _, n3⟩ := nr_lem (pA b N p) (by omega) (pV b N p) (by omega)
    rw [cI_n (by omega), cI_n (by omega)]
    refine E_f (nI_pos (by omega)) ?_
    by_cases h1 : pA b N p = pV b N p + 1
    · rw [show ask b N true p = true from decide_eq_true (Or.inr (Or.inr (Or.inl h1)))]
      exact E_t (n1.mpr h1) rfl
    · refine E_f (fun z => h1 (n1.mp z)) ?_
      by_cases h2 : pV b N p = pA b N p + 1
      · rw [show ask b N true p = true from decide_eq_true (Or.inr (Or.inr (Or.inr h2)))]
        exact E_t (n3.mpr h2) rfl
      · rw [show ask b N true p = false from decide_eq_false (fun z => by
          rcases z with z | z | z | z
          · cases z
          · rw [hpr] at z; cases z
          · exact h1 z
          · exact h2 z)]
        exact E_f (fun z => h2 (n3.mp z)) rfl
theorem ask_f (b : Book) (N p : Nat) : ask b N false p = true := decide_eq_true (Or.inl rfl)
def caF (b : Book) (N : Nat) (mp : Nat → Nat) (M : Mch) (nr : Bool) (p : Nat) : Bool := ask b N nr p && (escF (Ebl b (pA b N p) (pV b N p) N mp M) (nCh M) 0 (2 ^ N)).isNone
theorem ref_caught_loop (G : RG (kA w0 m) m k mi b M N mp) (h2 : 2 ≤ N) {nr : Bool} {vn : Int32} (hn : vn = 0 ↔ nr = false) : ∀ d p n acc w, p + d = nP b N → d < n → TC (kA w0 m) w m → Rn (FX9_caught_28 n w m (nI mi) (nI k) vn (nI acc) (nI p)) (fun z w' => z = nI (acc + cntF (caF b N mp M nr) p d) ∧ Quiet m w0 w') := by
  obtain ⟨_, _, _, g4, _, _, g7, g8, g9, _⟩ := id G
  have n30 : nP b N ≤ 30 := by
    unfold nP
    have := nP_le N (by omega) h2
    split <;> omega
  intro d
  induction d with
  | zero =>
    intro p n acc w he hn' T
    obtain ⟨n, rfl⟩ : ∃ z, n = z + 1 := ⟨n - 1, by omega⟩
    obtain ⟨q1, q2, q3, q4, q5, q6, q7, q8, q9, q10⟩ := G.tc T
    rw [FX9_caught_28]
    refine Rn.eq (ref_nP q1 q2 q4 (by omega) q8 h2) (Rn.t (nI_le (by omega) (by omega)) (Rn.eq (ref_back q1) (Rn.ret ⟨rfl, ref_end T.1 T.2.1 (fun j hj => ?_)⟩)))
    rw [T.2.2 j (by omega), (kA_fr w0 m).ar (by omega)]
  | succ d ih =>
    intro p n acc w he hn' T
    obtain ⟨n, rfl⟩ : ∃ z, n = z + 1 := ⟨n - 1, by omega⟩
    obtain ⟨q1, q2, q3, q4, q5, q6, q7, q8, q9, q10⟩ := G.tc T
    obtain ⟨w1, e1, T1, a1, v1, R1⟩ := ref_place G h2 T (p := p) (by omega)
    rw [FX9_caught_28]
    refine Rn.eq (ref_nP q1 q2 q4 (by omega) q8 h2) (Rn.f (nI_ge (by omega) (by omega)) (Rn.eq e1 ?_))
    dsimp only
    have c71 : ∀ w', TC (kA w0 m) w' m → caF b N mp M nr p = false → Rn (FX9_caught_71 (FX9_caught_28 n) w' m (nI mi) (nI k) vn (nI p) (nI acc)) (fun z w' => z = nI (acc + cntF (caF b N mp M nr) p (d + 1)) ∧ Quiet m w0 w') := by
      intro w' T' hf
      unfold FX9_caught_71 FX9_caught_72
      rw [l0_, nI_add, Nat.add_zero, nI_1 p]
      refine (ih (p + 1) n acc w' (by omega) (by omega) T').mono (fun z w2 h => ⟨?_, h.2⟩)
      rw [h.1, cnt_f hf]
    have c58 : ask b N nr p = true → Rn (FX9_caught_58 (FX9_caught_28 n) w1 m (nI mi) (nI k) vn (nI p) (nI acc)) (fun z w' => z = nI (acc + cntF (caF b N mp M nr) p (d + 1)) ∧ Quiet m w0 w') := by
      intro ha
      unfold FX9_caught_58
      refine R1.call ?_
      intro z w2 ⟨h1, T2, _, _⟩
      dsimp only
      rw [h1]
      have lt := esc_lt (N := N) (E := Ebl b (pA b N p) (pV b N p) N mp M) g7 g9
      have en := eI_neg (o := escF (Ebl b (pA b N p) (pV b N p) N mp M) (nCh M) 0 (2 ^ N)) (fun z hz => by have := lt z hz; omega)
      by_cases hs : (escF (Ebl b (pA b N p) (pV b N p) N mp M) (nCh M) 0 (2 ^ N)).isNone = false
      · refine Rn.t (en.mpr hs) (c71 w2 T2 ?_)
        unfold caF
        rw [hs, Bool.and_false]
      · refine Rn.f (fun z => hs (en.mp z)) ?_
        unfold FX9_caught_72
        rw [nI_1 acc, nI_1 p]
        refine (ih (p + 1) n (acc + 1) w2 (by omega) (by omega) T2).mono (fun z w3 h => ⟨?_, h.2⟩)
        rw [h.1, cnt_t (by unfold caF; rw [ha]; simpa using hs), Nat.add_assoc]
    by_cases h0 : vn = 0
    · refine Rn.t h0 (c58 ?_)
      rw [hn.mp h0]
      exact ask_f b N p
    · have nr1 : nr = true := by
        cases hb : nr with
        | true => rfl
        | false => exact absurd (hn.mpr hb) h0
      refine Rn.f h0 (Rn.eq (ref_near (by rw [T1.1.c]; exact G.1) q4 h2 q9 (by omega) a1 v1) ?_)
      dsimp only
      rw [show ask b N true p = ask b N nr p from by rw [nr1]]
      cases ha : ask b N nr p with
      | false =>
        refine Rn.t rfl (c71 w1 T1 ?_)
        unfold caF
        rw [ha]
        rfl
      | true => exact Rn.f (by decide) (c58 ha)
theorem ref_escape_loop (G : RG (kA w0 m) m k mi b M N mp) (h2 : 2 ≤ N) {nr : Bool} {vn : Int32} (hn : vn = 0 ↔ nr = false) {wt : Nat} (hw : wt < 4) : ∀ d p n w, p + d = nP b N → d + 1 < n → TC (kA w0 m) w m → Rn (FX9_escape_41 n w m (nI mi) (nI k) vn (nI wt) (-1) (nI p)) (fun z w' => z = (match fsN (fun p => ask b N nr p && !(escF (Ebl b (pA b N p) (pV b N p) N mp M) (nCh M) 0 (2 ^ N)).isNone) p d with | some p => escV b N mp M wt p | none => -2) ∧ Quiet m w0 w') := by
  obtain ⟨_, _, _, g4, _, _, g7, g8, g9, _⟩ := id G
  have n30 : nP b N ≤ 30 := by
    unfold nP
    have := nP_le N (by omega) h2
    split <;> omega
  have qu : ∀ w, TC (kA w0 m) w m → Quiet m w0 (lB w m) := by
    intro w T
    refine ref_end T.1 T.2.1 (fun j hj => ?_)
    rw [T.2.2 j (by omega), (kA_fr w0 m).ar (by omega)]
  intro d
  induction d with
  | zero =>
    intro p n w he hn' T
    obtain ⟨n, rfl⟩ : ∃ z, n = z + 1 := ⟨n - 1, by omega⟩
    obtain ⟨q1, q2, q3, q4, q5, q6, q7, q8, q9, q10⟩ := G.tc T
    rw [FX9_escape_41]
    refine Rn.eq (ref_nP q1 q2 q4 (by omega) q8 h2) (Rn.t (nI_le (by omega) (by omega)) ?_)
    unfold FX9_escape_88
    exact Rn.eq (ref_back q1) (Rn.f (by decide) (Rn.ret ⟨rfl, qu w T⟩))
  | succ d ih =>
    intro p n w he hn' T
    obtain ⟨n, rfl⟩ : ∃ z, n = z + 1 := ⟨n - 1, by omega⟩
    obtain ⟨q1, q2, q3, q4, q5, q6, q7, q8, q9, q10⟩ := G.tc T
    obtain ⟨w1, e1, T1, a1, v1, R1⟩ := ref_place G h2 T (p := p) (by omega)
    have hp : p < nP b N := by omega
    obtain ⟨p32, pl, pv, pa⟩ := pl_of g4 h2 g9 hp
    rw [FX9_escape_41]
    refine Rn.eq (ref_nP q1 q2 q4 (by omega) q8 h2) (Rn.f (nI_ge (by omega) (by omega)) (Rn.f (by decide) (Rn.eq e1 ?_)))
    dsimp only
    have c74 : ask b N nr p = true → Rn (FX9_escape_74 (FX9_escape_41 n) w1 m (nI mi) (nI k) vn (nI wt) (nI p)) (fun z w' => z = (match fsN (fun p => ask b N nr p && !(escF (Ebl b (pA b N p) (pV b N p) N mp M) (nCh M) 0 (2 ^ N)).isNone) p (d + 1) with | some p => escV b N mp M wt p | none => -2) ∧ Quiet m w0 w') := by
      intro ha
      unfold FX9_escape_74 FX9_escape_82
      refine R1.call ?_
      intro z w2 ⟨h1, T2, a2, v2⟩
      dsimp only
      rw [h1, nI_1 p]
      cases e : escF (Ebl b (pA b N p) (pV b N p) N mp M) (nCh M) 0 (2 ^ N) with
      | none =>
        rw [fsN_f (by rw [ha, e]; exact Bool.false_ne_true)]
        exact ih (p + 1) n w2 (by omega) (by omega) T2
      | some z =>
        obtain ⟨z1, z2⟩ := esc_lt g7 g9 z e
        rw [fsN_t (by rw [ha, e]; rfl)]
        obtain ⟨n, rfl⟩ : ∃ z, n = z + 1 := ⟨n - 1, by omega⟩
        obtain ⟨q1, q2, q3, q4, q5, q6, q7, q8, q9, q10⟩ := G.tc T2
        have fin : Rn (FX9_escape_88 w2 m (nI wt) (nI (8 * z.1 + z.2))) (fun y w' => y = escV b N mp M wt p ∧ Quiet m w0 w') := by
          unfold FX9_escape_88
          have b24 : hi (lB w2 m) m 24 = cI (pV b N p) := v2
          have b23 : hi (lB w2 m) m 23 = cI (pA b N p) := a2
          have d8 : ∀ a, a < 512 → nI a / (8 : Int32) = nI (a / 8) ∧ nI a - nI a / (8 : Int32) * (8 : Int32) = nI (a % 8) := by decide +kernel
          obtain ⟨d1, d2⟩ := d8 (8 * z.1 + z.2) (by omega)
          have ev : escV b N mp M wt p = if wt = 0 then cI (pV b N p) else if wt = 1 then cI (pA b N p) else wI wt z := by unfold escV; rw [e]
          refine Rn.eq (ref_back q1) (Rn.t (nI_pos' (by omega)) ?_)
          dsimp only
          rw [b24, b23, d2, d1, ev]
          by_cases w0 : wt = 0
          · subst w0
            exact Rn.t rfl (Rn.ret ⟨rfl, qu w2 T2⟩)
          · refine Rn.f (nI_ne0 (by omega) (by omega)) ?_
            rw [if_neg w0]
            by_cases w1 : wt = 1
            · subst w1
              exact Rn.t rfl (Rn.ret ⟨rfl, qu w2 T2⟩)
            · refine Rn.f (fun y => w1 ((nI_eq (a := wt) (b := 1) (by omega) (by omega)).mp y)) ?_
              rw [if_neg w1]
              unfold wI
              by_cases w2' : wt = 2
              · subst w2'
                refine Rn.t rfl (Rn.ret ⟨?_, qu w2 T2⟩)
                rw [if_pos rfl, show (8 * z.1 + z.2) / 8 = z.1 from by omega]
              · refine Rn.f (fun y => w2' ((nI_eq (a := wt) (b := 2) (by omega) (by omega)).mp y)) (Rn.ret ⟨?_, qu w2 T2⟩)
                rw [if_neg w2', show (8 * z.1 + z.2) % 8 = z.2 from by omega]
        rw [FX9_escape_41]
        refine Rn.eq (ref_nP q1 q2 q4 (by omega) q8 h2) ?_
        dsimp only
        by_cases hl : nP b N ≤ p + 1
        · exact Rn.t (nI_le hl (by omega)) fin
        · exact Rn.f (nI_ge (by omega) (by omega)) (Rn.t (nI_pos' (by omega)) fin)
    by_cases h0 : vn = 0
    · refine Rn.t h0 (c74 ?_)
      rw [hn.mp h0]
      exact ask_f b N p
    · have nr1 : nr = true := by
        cases hb : nr with
        | true => rfl
        | false => exact absurd (hn.mpr hb) h0
      refine Rn.f h0 (Rn.eq (ref_near (by rw [T1.1.c]; exact G.1) q4 h2 q9 (by omega) a1 v1) ?_)
      dsimp only
      rw [show ask b N true p = ask b N nr p from by rw [nr1]]
      cases ha : ask b N nr p with
      | false =>
        refine Rn.t rfl ?_
        unfold FX9_escape_82
        rw [nI_1 p, fsN_f (by rw [ha]; exact Bool.false_ne_true)]
        exact ih (p + 1) n w1 (by omega) (by omega) T1
      | true => exact Rn.f (by decide) (c74 ha)
end RC
