/-! The search: the reference searches as the pure search does. -/
def rsI (c : Nat) : Int32 := if c = 0 then 0 else if c = 1 then 1 else -3
/-- how a piece of the search ends, reference -/
def RsQ (w w' : HS) (m K : Nat) (bk : Nat → Book) (r : Nat × PBs) : Prop := TSr w w' m ∧ (r.1 = 0 → QRr w' m K bk r.2) ∧ (r.1 = 1 → QFr w' m K bk r.2)
section LO
variable {m K C : Nat} {bk : Nat → Book}
theorem sF_2 : ∀ l, l < 4 → 0 < l → sF (l + 1) - sF l = 2 * 3 ^ l ∧ sF (l + 1) ≤ 78 := by decide
theorem steps_rL {w0 : HS} {l s : Nat} (l0 : 0 < l) (l3 : l ≤ 3) (Bs : RBs w0 m K bk) : ∀ d k n w P, k + d = sF (l + 1) → sF l ≤ k → d < n → TSr w0 w m → QRr w m K bk P → s < pN P → ∃ w', FX9_stepsFrom_3 n w m (nI s) (nI l) (nI C) (nI (k - sF l)) = some (rsI (stpL K bk C s k d P).1, w') ∧ RsQ w0 w' m K bk (stpL K bk C s k d P) := by
  obtain ⟨f2, f78⟩ := sF_2 l (by omega) l0
  have p27 : 3 ^ l ≤ 27 := Nat.pow_le_pow_right (n := 3) (by decide) l3
  intro d
  induction d with
  | zero =>
    intro k n w P hk hk' hn T Q hs
    obtain ⟨n, rfl⟩ : ∃ z, n = z + 1 := ⟨n - 1, by omega⟩
    refine ⟨w, ?_, T, fun _ => Q, fun z => absurd z (show ¬ (0:Nat) = 1 by decide)⟩
    rw [FX9_stepsFrom_3]
    refine E_b (pow_r l (by omega) l0) ?_
    dsimp only
    rw [l2_, nI_mul]
    exact E_t (nI_le (by omega) (by omega)) rfl
  | succ d ih =>
    intro k n w P hk hk' hn T Q hs
    obtain ⟨n, rfl⟩ : ∃ z, n = z + 1 := ⟨n - 1, by omega⟩
    have sl := sLn_F l (by omega) l0 k (by omega) hk' (by omega)
    obtain ⟨w1, T1, c0, c1, c2⟩ := one_r (C := C) (n := n) (k := k) (Bs.ts T) Q hs (by omega)
    have er : sRs k = k - sF l := by unfold sRs; rw [sl]
    rw [sl, er] at c0 c1 c2
    have keep := arr_mono K bk P s k C
    unfold stpL
    obtain ⟨r, hr⟩ : ∃ r, r = arrP K bk P s k C := ⟨_, rfl⟩
    rw [← hr] at c0 c1 c2 keep ⊢
    by_cases q : r.1 = 0
    · rw [if_pos q]
      obtain ⟨e1, Q1⟩ := c0 q
      obtain ⟨w2, e2, r2⟩ := ih (k + 1) n w1 r.2 (by omega) (by omega) (by omega) (T.tr T1) Q1 (by omega)
      refine ⟨w2, ?_, r2⟩
      rw [e1, ← e2, show k + 1 - sF l = k - sF l + 1 by omega]
    · rw [if_neg q]
      by_cases q1 : r.1 = 1
      · obtain ⟨e1, Q1⟩ := c1 q1
        refine ⟨w1, ?_, T.tr T1, fun z => absurd z q, fun _ => Q1⟩
        rw [e1, q1]
        rfl
      · refine ⟨w1, ?_, T.tr T1, fun z => absurd z q, fun z => absurd z q1⟩
        rw [c2 q q1]
        unfold rsI
        rw [if_neg q, if_neg q1]
theorem stepsA_r {w0 w : HS} {l s : Nat} {P : PBs} (l0 : 0 < l) (l3 : l ≤ 3) (Bs : RBs w0 m K bk) (T : TSr w0 w m) (Q : QRr w m K bk P) (hs : s < pN P) : ∃ w', FX9_stepsFrom w m (nI s) (nI l) (nI C) = some (rsI (stA K bk C l s P).1, w') ∧ RsQ w0 w' m K bk (stA K bk C l s P) := by
  obtain ⟨f2, f78⟩ := sF_2 l (by omega) l0
  have m1 := sF_mono l (by omega) l0
  have p27 : 3 ^ l ≤ 27 := Nat.pow_le_pow_right (n := 3) (by decide) l3
  obtain ⟨w', e, r⟩ := steps_rL (C := C) l0 l3 Bs (sF (l + 1) - sF l) (sF l) FUEL w P (by omega) (Nat.le_refl _) (fuel_lt (by omega)) T Q hs
  refine ⟨w', ?_, r⟩
  unfold FX9_stepsFrom
  rw [Nat.sub_self] at e
  exact E_c (by rw [T.1.c]; exact Bs.1) e
/-- what the reference says at the end of a piece -/
def fI (C c : Nat) : Int32 := if c = 1 then nI C else -3
theorem lvl_r {w0 : HS} {l : Nat} {ls : Nat → Nat} {k7 : HS → Nat → Int32 → Option (Int32 × HS)} {k15 : HS → Nat → Int32 → Int32 → Option (Int32 × HS)} (l0 : 0 < l) (l3 : l ≤ 3) (lC : l ≤ C) (C9 : C ≤ 9) (lsm : ls (C - l) ≤ ls (C - l + 1)) (Bs : RBs w0 m K bk) : ∀ d i n w P, i + d = 1201 → d < n → TSr w0 w m → QRr w m K bk P → Ivp C ls P → i ≤ pN P → ∃ w', ((lvlL K bk C l (max i (ls (C - l))) (ls (C - l + 1) - max i (ls (C - l))) P).1 = 0 → FX9_searches_28 k7 k15 n w m (nI C) (nI l) (nI i) = k15 w' m (nI C) (nI (l + 1))) ∧ ((lvlL K bk C l (max i (ls (C - l))) (ls (C - l + 1) - max i (ls (C - l))) P).1 ≠ 0 → FX9_searches_28 k7 k15 n w m (nI C) (nI l) (nI i) = some (fI C (lvlL K bk C l (max i (ls (C - l))) (ls (C - l + 1) - max i (ls (C - l))) P).1, w')) ∧ RsQ w0 w' m K bk (lvlL K bk C l (max i (ls (C - l))) (ls (C - l + 1) - max i (ls (C - l))) P) := by
  intro d
  induction d with
  | zero => intro i n w P hi' hn T Q I hP; have := Q.2.1; omega
  | succ d ih =>
    intro i n w P hi' hn T Q I hP
    obtain ⟨n, rfl⟩ : ∃ z, n = z + 1 := ⟨n - 1, by omega⟩
    have n12 := Q.2.1
    have i29 := Q.1.1
    have up := I.2.2.2.2.2.2 (C - l + 1) (by omega)
    rw [FX9_searches_28, i29]
    by_cases fin : pN P ≤ i
    · have z : ls (C - l + 1) - max i (ls (C - l)) = 0 := by omega
      rw [z]
      unfold lvlL
      refine ⟨w, fun _ => ?_, fun z => absurd rfl z, T, fun _ => Q, fun z => absurd z (show ¬ (0:Nat) = 1 by decide)⟩
      rw [nI_1]
      exact E_t (nI_le fin (by omega)) rfl
    · have iff' := I.2.2.2.2.1 (C - l) (by omega) i (by omega)
      have r26 := (Q.1.2.2 i (by omega)).2.1
      have oC := I.2.2.2.1 i (by omega)
      have e26 : (ha w m 26 (nI i).toNatClampNeg = nI C - nI l) ↔ (ls (C - l) ≤ i ∧ i < ls (C - l + 1)) := by
        rw [nI_clamp (by omega), r26, nI_subc lC, nI_eq (by omega) (by omega)]
        exact iff'
      by_cases q : ls (C - l) ≤ i ∧ i < ls (C - l + 1)
      · obtain ⟨w1, e1, T1, Q1, F1⟩ := stepsA_r (C := C) l0 l3 Bs T Q (s := i) (by omega)
        have so := stp_iv (K := K) (bk := bk) l0 l3 (sF (l + 1) - sF l) (sF l) P (by have := sF_mono l (by omega) l0; omega) (Nat.le_refl _) I (s := i) (by omega) (by have := iff'.mpr q; omega)
        have kp := stpL_mono K bk C i (sF (l + 1) - sF l) (sF l) P
        obtain ⟨r, hr⟩ : ∃ r, r = stA K bk C l i P := ⟨_, rfl⟩
        have hr' : stpL K bk C i (sF l) (sF (l + 1) - sF l) P = r := hr.symm
        rw [hr'] at so kp
        rw [← hr] at e1 Q1 F1
        have em : max i (ls (C - l)) = i := by omega
        have ed : ls (C - l + 1) - i = ls (C - l + 1) - (i + 1) + 1 := by omega
        rw [em, ed]
        unfold lvlL
        rw [← hr]
        by_cases q0 : r.1 = 0
        · rw [if_pos q0]
          obtain ⟨w2, g1, g2, g3⟩ := ih (i + 1) n w1 r.2 (by omega) (by omega) T1 (Q1 q0) (so.1 q0) (by omega)
          have em2 : max (i + 1) (ls (C - l)) = i + 1 := by omega
          rw [em2] at g1 g2 g3
          have c81 : ∀ y, FX9_searches_28 k7 k15 n w1 m (nI C) (nI l) (nI (i + 1)) = y → (if nI (pN P) ≤ nI i then (k15 w m (nI C) (nI l + (1 : Int32))) else (okb (inb (nI i) 1201) (if (ha w m 26 (nI i).toNatClampNeg) = (nI C - nI l) then ((FX9_stepsFrom w m (nI i) (nI l) (nI C)).bind fun q4 => (if q4.1 = 0 then (FX9_searches_81 (k7) (k15) (FX9_searches_28 k7 k15 n) q4.2 m (nI C) (nI l) (nI i)) else (if q4.1 = (1 : Int32) then (some (nI C, q4.2)) else (some ((-3 : Int32), q4.2))))) else (FX9_searches_81 (k7) (k15) (FX9_searches_28 k7 k15 n) w m (nI C) (nI l) (nI i))))) = y := by
            intro y hy
            refine E_f (nI_ge (by omega) (by omega)) (E_i rfl (by omega) (by decide) (E_t (e26.mpr q) (E_b e1 ?_)))
            dsimp only
            refine E_t (by rw [q0]; rfl) ?_
            unfold FX9_searches_81
            rw [nI_1]
            exact hy
          exact ⟨w2, fun z => c81 _ (g1 z), fun z => c81 _ (g2 z), g3⟩
        · rw [if_neg q0]
          refine ⟨w1, fun z => absurd z q0, fun _ => ?_, T1, Q1, F1⟩
          refine E_f (nI_ge (by omega) (by omega)) (E_i rfl (by omega) (by decide) (E_t (e26.mpr q) (E_b e1 ?_)))
          dsimp only
          unfold rsI fI
          rw [if_neg q0]
          by_cases q1 : r.1 = 1
          · rw [if_pos q1, if_pos q1]
            exact E_f (by decide) (E_t rfl rfl)
          · rw [if_neg q1, if_neg q1]
            exact E_f (by decide) (E_f (by decide) rfl)
      · obtain ⟨w2, g1, g2, g3⟩ := ih (i + 1) n w P (by omega) (by omega) T Q I (by omega)
        have em : lvlL K bk C l (max (i + 1) (ls (C - l))) (ls (C - l + 1) - max (i + 1) (ls (C - l))) P = lvlL K bk C l (max i (ls (C - l))) (ls (C - l + 1) - max i (ls (C - l))) P := by
          by_cases y : i < ls (C - l)
          · rw [show max (i + 1) (ls (C - l)) = max i (ls (C - l)) by omega]
          · rw [show ls (C - l + 1) - max (i + 1) (ls (C - l)) = 0 by omega, show ls (C - l + 1) - max i (ls (C - l)) = 0 by omega]
            rfl
        rw [em] at g1 g2 g3
        have c81 : ∀ y, FX9_searches_28 k7 k15 n w m (nI C) (nI l) (nI (i + 1)) = y → (if nI (pN P) ≤ nI i then (k15 w m (nI C) (nI l + (1 : Int32))) else (okb (inb (nI i) 1201) (if (ha w m 26 (nI i).toNatClampNeg) = (nI C - nI l) then ((FX9_stepsFrom w m (nI i) (nI l) (nI C)).bind fun q4 => (if q4.1 = 0 then (FX9_searches_81 (k7) (k15) (FX9_searches_28 k7 k15 n) q4.2 m (nI C) (nI l) (nI i)) else (if q4.1 = (1 : Int32) then (some (nI C, q4.2)) else (some ((-3 : Int32), q4.2))))) else (FX9_searches_81 (k7) (k15) (FX9_searches_28 k7 k15 n) w m (nI C) (nI l) (nI i))))) = y := by
          intro y hy
          refine E_f (nI_ge (by omega) (by omega)) (E_i rfl (by omega) (by decide) (E_f (fun z => q (e26.mp z)) ?_))
          unfold FX9_searches_81
          rw [nI_1]
          exact hy
        exact ⟨w2, fun z => c81 _ (g1 z), fun z => c81 _ (g2 z), g3⟩
theorem len_r {w0 : HS} {ls : Nat → Nat} {k7 : HS → Nat → Int32 → Option (Int32 × HS)} (C0 : 0 < C) (C9 : C ≤ 9) (lsm : ∀ c, c + 1 ≤ C → ls c ≤ ls (c + 1)) (Bs : RBs w0 m K bk) : ∀ d l n w P, l + d = (if C < 3 then C else 3) + 1 → 0 < l → d < n → TSr w0 w m → QRr w m K bk P → Ivp C ls P → ∃ w', ((lenL K bk C ls l d P).1 = 0 → FX9_searches_15 k7 n w m (nI C) (nI l) = k7 w' m (nI (C + 1))) ∧ ((lenL K bk C ls l d P).1 ≠ 0 → FX9_searches_15 k7 n w m (nI C) (nI l) = some (fI C (lenL K bk C ls l d P).1, w')) ∧ RsQ w0 w' m K bk (lenL K bk C ls l d P) := by
  intro d
  induction d with
  | zero =>
    intro l n w P hl l0 hn T Q I
    obtain ⟨n, rfl⟩ : ∃ z, n = z + 1 := ⟨n - 1, by omega⟩
    unfold lenL
    refine ⟨w, fun _ => ?_, fun z => absurd rfl z, T, fun _ => Q, fun z => absurd z (show ¬ (0:Nat) = 1 by decide)⟩
    rw [FX9_searches_15]
    have e93 : FX9_searches_93 k7 w m (nI C) = k7 w m (nI (C + 1)) := by unfold FX9_searches_93; rw [nI_1]
    rw [e93]
    by_cases q : C < 3
    · rw [if_pos q] at hl
      by_cases q3 : 3 < l
      · exact E_t (nI_lt (a := 3) q3 (by omega)) rfl
      · exact E_f (nI_nlt (a := 3) (by omega) (by omega)) (E_t (nI_lt (by omega) (by omega)) rfl)
    · rw [if_neg q] at hl
      exact E_t (nI_lt (a := 3) (by omega) (by omega)) rfl
  | succ d ih =>
    intro l n w P hl l0 hn T Q I
    obtain ⟨n, rfl⟩ : ∃ z, n = z + 1 := ⟨n - 1, by omega⟩
    have lC : l ≤ C ∧ l ≤ 3 := by split at hl <;> omega
    obtain ⟨w1, g1, g2, T1, Q1, F1⟩ := lvl_r (C := C) (k7 := k7) (k15 := FX9_searches_15 k7 n) l0 lC.2 lC.1 C9 (lsm (C - l) (by omega)) Bs 1201 0 FUEL w P (by omega) (fuel_lt (by decide)) T Q I (Nat.zero_le _)
    have em : max 0 (ls (C - l)) = ls (C - l) := by omega
    have so := lvl_iv (K := K) (bk := bk) l0 lC.2 lC.1 (ls (C - l + 1) - ls (C - l)) (ls (C - l)) P (by have := lsm (C - l) (by omega); omega) (Nat.le_refl _) I
    rw [em] at g1 g2 Q1 F1
    obtain ⟨r, hr⟩ : ∃ r, r = lvA K bk C ls l P := ⟨_, rfl⟩
    have hr' : lvlL K bk C l (ls (C - l)) (ls (C - l + 1) - ls (C - l)) P = r := hr.symm
    rw [hr'] at g1 g2 Q1 F1 so
    have hd : ∀ y, FX9_searches_28 k7 (FX9_searches_15 k7 n) FUEL w m (nI C) (nI l) (nI 0) = y → FX9_searches_15 k7 (n + 1) w m (nI C) (nI l) = y := by
      intro y hy
      rw [FX9_searches_15]
      exact E_f (nI_nlt (a := 3) (by omega) (by decide)) (E_f (nI_nlt (by omega) (by omega)) hy)
    unfold lenL
    rw [← hr]
    by_cases q0 : r.1 = 0
    · rw [if_pos q0]
      obtain ⟨w2, f1, f2, f3⟩ := ih (l + 1) n w1 r.2 (by omega) (by omega) (by omega) T1 (Q1 q0) (so.1 q0)
      exact ⟨w2, fun z => hd _ ((g1 q0).trans (f1 z)), fun z => hd _ ((g1 q0).trans (f2 z)), f3⟩
    · rw [if_neg q0]
      exact ⟨w1, fun z => absurd z q0, fun _ => hd _ (g2 q0), T1, Q1, F1⟩
theorem ops_r {w0 : HS} (Bs : RBs w0 m K bk) : ∀ d C ls n w P, C + d = 10 → 0 < C → d < n → TSr w0 w m → QRr w m K bk P → Ivs C ls P → ∃ w', FX9_searches_7 n w m (nI C) = some (srI (opsL K bk C d ls P), w') ∧ TSr w0 w' m ∧ ((opsL K bk C d ls P).1 = 1 → QFr w' m K bk (opsL K bk C d ls P).2.2) := by
  intro d
  induction d with
  | zero =>
    intro C ls n w P hC C0 hn T Q I
    obtain ⟨n, rfl⟩ : ∃ z, n = z + 1 := ⟨n - 1, by omega⟩
    unfold opsL
    refine ⟨w, ?_, T, fun z => absurd z (show ¬ (0:Nat) = 1 by decide)⟩
    rw [FX9_searches_7]
    exact E_t (nI_lt (a := 9) (by omega) (by omega)) rfl
  | succ d ih =>
    intro C ls n w P hC C0 hn T Q I
    obtain ⟨n, rfl⟩ : ∃ z, n = z + 1 := ⟨n - 1, by omega⟩
    obtain ⟨I', lsm⟩ := ivs_up I
    have dl : 1 + (if C < 3 then C else 3) = (if C < 3 then C else 3) + 1 := Nat.add_comm _ _
    have dn : (if C < 3 then C else 3) < FUEL := fuel_lt (by split <;> omega)
    obtain ⟨w1, g1, g2, T1, Q1, F1⟩ := len_r (k7 := FX9_searches_7 n) C0 (by omega) lsm Bs (if C < 3 then C else 3) 1 FUEL w P dl (by decide) dn T Q I'
    have so := len_iv (K := K) (bk := bk) lsm (if C < 3 then C else 3) 1 P dl (by decide) I'
    obtain ⟨r, hr⟩ : ∃ r, r = leA K bk C ls P := ⟨_, rfl⟩
    have hr' : lenL K bk C (lsU ls C (pN P)) 1 (if C < 3 then C else 3) P = r := hr.symm
    rw [hr'] at g1 g2 Q1 F1 so
    have hd : ∀ y, FX9_searches_15 (FX9_searches_7 n) FUEL w m (nI C) (nI 1) = y → FX9_searches_7 (n + 1) w m (nI C) = y := by
      intro y hy
      rw [FX9_searches_7]
      exact E_f (nI_nlt (a := 9) (by omega) (by decide)) hy
    unfold opsL
    rw [← hr]
    by_cases q0 : r.1 = 0
    · rw [if_pos q0]
      obtain ⟨w2, f1, f2⟩ := ih (C + 1) (lsU ls C (pN P)) n w1 r.2 (by omega) (by omega) (by omega) T1 (Q1 q0) (ivp_next (so.1 q0) lsm)
      exact ⟨w2, hd _ ((g1 q0).trans f1), f2⟩
    · rw [if_neg q0]
      refine ⟨w1, ?_, T1, F1⟩
      rw [hd _ (g2 q0)]
      unfold srI fI
      rw [if_neg q0]
end LO
