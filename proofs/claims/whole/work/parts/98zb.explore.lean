/-! The search: the class explores as the pure search does. -/
theorem arr_mono (K : Nat) (bk : Nat → Book) (P : PBs) (s k C : Nat) : pN P ≤ pN (arrP K bk P s k C).2 := by
  unfold arrP
  split
  · exact Nat.le_refl _
  · split
    · exact Nat.le_refl _
    · split
      · exact Nat.le_refl _
      · split
        · exact Nat.le_refl _
        · exact Nat.le_succ _
theorem stpL_mono (K : Nat) (bk : Nat → Book) (C s : Nat) : ∀ d k P, pN P ≤ pN (stpL K bk C s k d P).2 := by
  intro d
  induction d with
  | zero => intro k P; exact Nat.le_refl _
  | succ d ih =>
    intro k P
    have a := arr_mono K bk P s k C
    unfold stpL
    split
    · exact Nat.le_trans a (ih _ _)
    · exact a
theorem lvlL_mono (K : Nat) (bk : Nat → Book) (C l : Nat) : ∀ d s P, pN P ≤ pN (lvlL K bk C l s d P).2 := by
  intro d
  induction d with
  | zero => intro s P; exact Nat.le_refl _
  | succ d ih =>
    intro s P
    have a : pN P ≤ pN (stA K bk C l s P).2 := stpL_mono K bk C s _ _ _
    unfold lvlL
    split
    · exact Nat.le_trans a (ih _ _)
    · exact a
theorem lenL_mono (K : Nat) (bk : Nat → Book) (C : Nat) (ls : Nat → Nat) : ∀ d l P, pN P ≤ pN (lenL K bk C ls l d P).2 := by
  intro d
  induction d with
  | zero => intro l P; exact Nat.le_refl _
  | succ d ih =>
    intro l P
    have a : pN P ≤ pN (lvA K bk C ls l P).2 := lvlL_mono K bk C l _ _ _
    unfold lenL
    split
    · exact Nat.le_trans a (ih _ _)
    · exact a
section EX
variable {w0 : HS} {s K C l : Nat} {ks : Nat → Nat} {bk : Nat → Book}
/-- class: the search stands so, or is at its end -/
def EOK (w : HS) (s K : Nat) (ks : Nat → Nat) (bk : Nat → Book) (r : Nat × PBs) : Prop := (r.1 ≠ 1 → CRp w s K ks bk r.2) ∧ (r.1 = 1 → CRf w s r.2)
theorem r3 (K : Nat) (bk : Nat → Book) (P : PBs) (s k C : Nat) : (arrP K bk P s k C).1 ≤ 2 := by
  unfold arrP
  split
  · exact Nat.zero_le _
  · split
    · exact (by decide : 1 ≤ 2)
    · split
      · exact Nat.zero_le _
      · split
        · exact Nat.le_refl _
        · exact Nat.zero_le _
theorem expand26 {lv s0 : Nat} {k7 : HS → Nat → Int32 → Int32 → Int32 → Option (Int32 × HS)} (l0 : 0 < l) (l3 : l ≤ 3) : ∀ d k n w P, k + d = sF (l + 1) → d < n → Fr (PAr s) w0 w → CRp w s K ks bk P → s0 < pN P → ∃ w', ((stpL K bk C s0 k d P).1 = 0 → FX4_expand_26 k7 n w s (nI lv) (nI l) (nI s0) (nI k) = k7 w' s (nI lv) (nI l) (nI (s0 + 1))) ∧ ((stpL K bk C s0 k d P).1 ≠ 0 → FX4_expand_26 k7 n w s (nI lv) (nI l) (nI s0) (nI k) = some (nI (stpL K bk C s0 k d P).1, w')) ∧ Fr (PAr s) w0 w' ∧ EOK w' s K ks bk (stpL K bk C s0 k d P) ∧ (stpL K bk C s0 k d P).1 ≤ 2 := by
  obtain ⟨_, s1, _⟩ := sta0 l (by omega)
  have f78 := sF_le (l + 1) (by omega)
  intro d
  induction d with
  | zero =>
    intro k n w P he hn F R hs
    obtain ⟨n, rfl⟩ : ∃ z, n = z + 1 := ⟨n - 1, by omega⟩
    refine ⟨w, fun _ => ?_, fun z => absurd rfl z, F, ⟨fun _ => R, fun z => absurd z (show ¬ (0 : Nat) = 1 from by decide)⟩, Nat.zero_le _⟩
    rw [FX4_expand_26, nI_1, nI_1, nI_clamp (n := l + 1) (by omega), s1]
    exact E_i rfl (show l + 1 < 5 by omega) (by decide) (E_t (nI_le (by omega) (by omega)) rfl)
  | succ d ih =>
    intro k n w P he hn F R hs
    obtain ⟨n, rfl⟩ : ∃ z, n = z + 1 := ⟨n - 1, by omega⟩
    obtain ⟨w1, e1, F1, R1, R1'⟩ := arrive_c (C := C) R hs (show k < 78 by omega)
    have am := arr_mono K bk P s0 k C
    have a2 := r3 K bk P s0 k C
    unfold stpL
    by_cases z : (arrP K bk P s0 k C).1 = 0
    · rw [if_pos z]
      obtain ⟨w', g1, g2, g3, g4, g5⟩ := ih (k + 1) n w1 _ (by omega) (by omega) (F.trans F1) (R1 (by omega)) (by omega)
      have go : ∀ y, FX4_expand_26 k7 n w1 s (nI lv) (nI l) (nI s0) (nI (k + 1)) = y → FX4_expand_26 k7 (n + 1) w s (nI lv) (nI l) (nI s0) (nI k) = y := by
        intro y hy
        rw [FX4_expand_26, nI_1, nI_clamp (n := l + 1) (by omega), s1]
        refine E_i rfl (show l + 1 < 5 by omega) (by decide) (E_f (nI_ge (by omega) (by omega)) (E_b e1 (E_t ?_ ?_)))
        · rw [z]; rfl
        · rw [nI_1]; exact hy
      exact ⟨w', fun q => go _ (g1 q), fun q => go _ (g2 q), g3, g4, g5⟩
    · rw [if_neg z]
      refine ⟨w1, fun q => absurd q z, fun _ => ?_, F.trans F1, ⟨R1, R1'⟩, a2⟩
      rw [FX4_expand_26, nI_1, nI_clamp (n := l + 1) (by omega), s1]
      exact E_i rfl (show l + 1 < 5 by omega) (by decide) (E_f (nI_ge (by omega) (by omega)) (E_b e1 (E_f (nI_ne0 (by omega) (by omega)) rfl)))
theorem expand7 {lv hi9 : Nat} (l0 : 0 < l) (l3 : l ≤ 3) (lv9 : lv + 1 < 10) (h15 : ha w0 s 15 (lv + 1) = nI hi9) (h12 : hi9 ≤ 1200) : ∀ d s0 n w P, s0 + d = hi9 → d < n → Fr (PAr s) w0 w → CRp w s K ks bk P → hi9 ≤ pN P → ∃ w', FX4_expand_7 n w s (nI lv) (nI l) (nI s0) = some (nI (lvlL K bk C l s0 d P).1, w') ∧ Fr (PAr s) w0 w' ∧ EOK w' s K ks bk (lvlL K bk C l s0 d P) ∧ (lvlL K bk C l s0 d P).1 ≤ 2 := by
  obtain ⟨s0', _, _⟩ := sta0 l (by omega)
  have f78 := sF_le (l + 1) (by omega)
  have fm := sF_mono l (by omega) l0
  intro d
  induction d with
  | zero =>
    intro s0 n w P he hn F R hP
    obtain ⟨n, rfl⟩ : ∃ z, n = z + 1 := ⟨n - 1, by omega⟩
    refine ⟨w, ?_, F, ⟨fun _ => R, fun z => absurd z (show ¬ (0 : Nat) = 1 from by decide)⟩, Nat.zero_le _⟩
    rw [FX4_expand_7, nI_1, nI_clamp (n := lv + 1) (by omega), F.ar (by unfold PAr; omega), h15]
    exact E_i rfl lv9 (by decide) (E_t (nI_le (by omega) (by omega)) rfl)
  | succ d ih =>
    intro s0 n w P he hn F R hP
    obtain ⟨n, rfl⟩ : ∃ z, n = z + 1 := ⟨n - 1, by omega⟩
    obtain ⟨w1, g1, g2, F1, R1, a2⟩ := expand26 (w0 := w) (C := C) (lv := lv) (s0 := s0) (k7 := FX4_expand_7 n) l0 l3 (sF (l + 1) - sF l) (sF l) FUEL w P (by omega) (fuel_lt (by omega)) Fr.refl R (by omega)
    have mono : pN P ≤ pN (stA K bk C l s0 P).2 := stpL_mono K bk C s0 _ _ _
    have go : ∀ y, FX4_expand_26 (FX4_expand_7 n) FUEL w s (nI lv) (nI l) (nI s0) (nI (sF l)) = y → FX4_expand_7 (n + 1) w s (nI lv) (nI l) (nI s0) = y := by
      intro y hy
      rw [FX4_expand_7, nI_1, nI_clamp (n := lv + 1) (by omega), F.ar (by unfold PAr; omega), h15, nI_clamp (n := l) (by omega), s0']
      exact E_i rfl lv9 (by decide) (E_f (nI_ge (by omega) (by omega)) (E_i rfl (show l < 5 by omega) (by decide) hy))
    unfold lvlL
    by_cases z : (stA K bk C l s0 P).1 = 0
    · rw [if_pos z]
      obtain ⟨w', h1, h2⟩ := ih (s0 + 1) n w1 (stA K bk C l s0 P).2 (by omega) (by omega) (F.trans F1) (R1.1 (by
        have : (stpL K bk C s0 (sF l) (sF (l + 1) - sF l) P).1 = 0 := z
        omega)) (by omega)
      exact ⟨w', go _ (Eq.trans (g1 z) h1), h2⟩
    · rw [if_neg z]
      exact ⟨w1, go _ (g2 z), F.trans F1, R1, a2⟩
/-- the levels are in their order -/
def LSo (w : HS) (s C : Nat) (ls : Nat → Nat) (P : PBs) : Prop := (∀ c, c ≤ C → ha w s 15 c = nI (ls c) ∧ ls c ≤ pN P) ∧ ∀ c, c + 1 ≤ C → ls c ≤ ls (c + 1)
theorem explore27 {ls : Nat → Nat} {k9 : HS → Nat → Int32 → Option (Int32 × HS)} (C0 : 0 < C) (C9 : C ≤ 9) : ∀ d l n w P, l + d = (if C < 3 then C else 3) + 1 → 0 < l → d < n → Fr (PAr s) w0 w → LSo w s C ls P → CRp w s K ks bk P → ∃ w', ((lenL K bk C ls l d P).1 = 0 → FX4_explore_27 k9 n w s (nI C) (nI l) = k9 w' s (nI (C + 1))) ∧ ((lenL K bk C ls l d P).1 ≠ 0 → FX4_explore_27 k9 n w s (nI C) (nI l) = some (if (lenL K bk C ls l d P).1 = 1 then nI C else -3, w')) ∧ Fr (PAr s) w0 w' ∧ EOK w' s K ks bk (lenL K bk C ls l d P) ∧ (lenL K bk C ls l d P).1 ≤ 2 := by
  intro d
  induction d with
  | zero =>
    intro l n w P he l0 hn F L R
    obtain ⟨n, rfl⟩ : ∃ z, n = z + 1 := ⟨n - 1, by omega⟩
    refine ⟨w, fun _ => ?_, fun z => absurd rfl z, F, ⟨fun _ => R, fun z => absurd z (show ¬ (0 : Nat) = 1 from by decide)⟩, Nat.zero_le _⟩
    rw [FX4_explore_27]
    unfold FX4_explore_68
    rw [nI_1]
    by_cases c3 : C < 3
    · rw [if_pos c3] at he
      exact E_f (nI_nlt (a := 3) (b := l) (by omega) (by decide)) (E_t (nI_lt (by omega) (by omega)) rfl)
    · rw [if_neg c3] at he
      exact E_t (nI_lt (a := 3) (by omega) (by omega)) rfl
  | succ d ih =>
    intro l n w P he l0 hn F L R
    obtain ⟨n, rfl⟩ : ∃ z, n = z + 1 := ⟨n - 1, by omega⟩
    have l3 : l ≤ 3 ∧ l ≤ C := by split at he <;> omega
    have n12 : pN P ≤ 1200 := R.2.2.2.2.2.2.2.1
    obtain ⟨q1, q2⟩ := L.1 (C - l + 1) (by omega)
    obtain ⟨q3, q4⟩ := L.1 (C - l) (by omega)
    have q5 := L.2 (C - l) (by omega)
    obtain ⟨w1, e1, F1, R1, a2⟩ := expand7 (w0 := w) (C := C) (l := l) (lv := C - l) (hi9 := ls (C - l + 1)) l0 l3.1 (by omega) q1 (by omega) (ls (C - l + 1) - ls (C - l)) (ls (C - l)) FUEL w P (by omega) (fuel_lt (by omega)) Fr.refl R q2
    have e1' : FX4_expand w s (nI (C - l)) (nI l) = some (nI (lvA K bk C ls l P).1, w1) := by
      unfold FX4_expand
      rw [nI_clamp (by omega), q3]
      exact E_c R.1 (E_i rfl (by omega) (by decide) e1)
    have mono : pN P ≤ pN (lvA K bk C ls l P).2 := lvlL_mono K bk C l _ _ _
    have a2' : (lvA K bk C ls l P).1 ≤ 2 := a2
    have L1 : LSo w1 s C ls (lvA K bk C ls l P).2 := ⟨fun c hc' => by
      obtain ⟨x1, x2⟩ := L.1 c hc'
      exact ⟨by rw [F1.ar (by unfold PAr; omega)]; exact x1, by omega⟩, L.2⟩
    unfold lenL
    by_cases z : (lvA K bk C ls l P).1 = 0
    · rw [if_pos z]
      obtain ⟨w', g1, g2, g3, g4⟩ := ih (l + 1) n w1 (lvA K bk C ls l P).2 (by omega) (by omega) (by omega) (F.trans F1) L1 (R1.1 (by
        have : (lvlL K bk C l (ls (C - l)) (ls (C - l + 1) - ls (C - l)) P).1 = 0 := z
        omega))
      have go : ∀ y, FX4_explore_27 k9 n w1 s (nI C) (nI (l + 1)) = y → FX4_explore_27 k9 (n + 1) w s (nI C) (nI l) = y := by
        intro y hy
        rw [FX4_explore_27, nI_subc l3.2]
        refine E_f (nI_nlt (a := 3) (b := l) l3.1 (by decide)) (E_f (nI_nlt l3.2 (by omega)) (E_b e1' (E_t ?_ ?_)))
        · rw [z]; rfl
        · rw [nI_1]; exact hy
      exact ⟨w', fun q => go _ (g1 q), fun q => go _ (g2 q), g3, g4⟩
    · rw [if_neg z]
      refine ⟨w1, fun q => absurd q z, fun _ => ?_, F.trans F1, R1, a2⟩
      rw [FX4_explore_27, nI_subc l3.2]
      refine E_f (nI_nlt (a := 3) (b := l) l3.1 (by decide)) (E_f (nI_nlt l3.2 (by omega)) (E_b e1' (E_f (nI_ne0 (by omega) (by omega)) ?_)))
      by_cases o : (lvA K bk C ls l P).1 = 1
      · rw [if_pos o]
        exact E_t (by rw [o]; rfl) rfl
      · rw [if_neg o]
        exact E_f (fun q => o ((nI_eq (a := (lvA K bk C ls l P).1) (b := 1) (by omega) (by decide)).mp q)) rfl
def PEx (s : Nat) : Nat → Nat → Prop := fun b j => b = s ∧ 9 ≤ j ∧ j ≤ 15
theorem explore9 : ∀ d C n w ls P, C + d = 10 → 0 < C → d < n → Fr (PEx s) w0 w → ((∀ c, c < C → ha w s 15 c = nI (ls c) ∧ ls c ≤ pN P) ∧ ∀ c, c + 1 < C → ls c ≤ ls (c + 1)) → CRp w s K ks bk P → ∃ w', FX4_explore_9 n w s (nI C) = some (srI (opsL K bk C d ls P), w') ∧ Fr (PEx s) w0 w' ∧ ((opsL K bk C d ls P).1 = 1 → CRf w' s (opsL K bk C d ls P).2.2 ∧ 0 < (opsL K bk C d ls P).2.1 ∧ (opsL K bk C d ls P).2.1 ≤ 9) := by
  intro d
  induction d with
  | zero =>
    intro C n w ls P he C0 hn F L R
    obtain ⟨n, rfl⟩ : ∃ z, n = z + 1 := ⟨n - 1, by omega⟩
    refine ⟨w, ?_, F, fun z => absurd z (show ¬ (0 : Nat) = 1 from by decide)⟩
    rw [FX4_explore_9]
    exact E_t (nI_lt (a := 9) (by omega) (by omega)) rfl
  | succ d ih =>
    intro C n w ls P he C0 hn F L R
    obtain ⟨n, rfl⟩ : ∃ z, n = z + 1 := ⟨n - 1, by omega⟩
    obtain ⟨w1, hw1⟩ : ∃ w1, w1 = setA w s 15 C (nI (pN P)) := ⟨_, rfl⟩
    have f1 : Fr (fun b j => b = s ∧ j = 15) w w1 := by rw [hw1]; exact Fr.sA ⟨rfl, rfl⟩
    have e15 : ∀ c, ha w1 s 15 c = if c = C then nI (pN P) else ha w s 15 c := by
      intro c
      rw [hw1, ha_setA, if_pos ⟨rfl, rfl⟩]
      rfl
    have R1 : CRp w1 s K ks bk P := by
      obtain ⟨s4, T, h8, K8, K0, hk, h9, n12, n0, rows, links, ht⟩ := R
      exact ⟨by rw [f1.c]; exact s4, T.fr f1 (by omega) (by omega) (by omega), by rw [f1.i (by omega)]; exact h8, K8, K0, fun j hj' => ⟨by rw [f1.ar (by omega)]; exact (hk j hj').1, (hk j hj').2.1, (hk j hj').2.2.o (fun i _ _ => by rw [f1.ar (by omega)])⟩, by rw [f1.i (by omega)]; exact h9, n12, n0, fun i hi' => (rows i hi').fr (by rw [f1.ar (by omega)]) (fun j _ => by rw [f1.ar (by omega)]), by rw [f1.ar (by omega), f1.ar (by omega)]; exact links, ht.fr (f1.ar (by omega)) (fun i _ => hvS_fr (by rw [f1.ar (by omega)]) (fun j _ => by rw [f1.ar (by omega)]))⟩
    have L1 : LSo w1 s C (lsU ls C (pN P)) P := by
      refine ⟨fun c hc' => ?_, fun c hc' => ?_⟩
      · rw [e15]
        unfold lsU
        by_cases e : c = C
        · rw [if_pos e, if_pos e]; exact ⟨rfl, Nat.le_refl _⟩
        · rw [if_neg e, if_neg e]; exact L.1 c (by omega)
      · unfold lsU
        rw [if_neg (show ¬ c = C by omega)]
        by_cases e : c + 1 = C
        · rw [if_pos e]; exact (L.1 c (by omega)).2
        · rw [if_neg e]; exact L.2 c (by omega)
    obtain ⟨w2, g1, g2, F2, E2, a2⟩ := explore27 (w0 := w1) (k9 := FX4_explore_9 n) (ls := lsU ls C (pN P)) C0 (by omega) (if C < 3 then C else 3) 1 FUEL w1 P (by omega) (by decide) (fuel_lt (by split <;> omega)) Fr.refl L1 R1
    have mono : pN P ≤ pN (leA K bk C ls P).2 := lenL_mono K bk C _ _ _ _
    have FF : Fr (PEx s) w0 w2 := (F.trans (f1.mono (fun b j z => by unfold PEx; omega))).trans (F2.mono (fun b j z => by unfold PAr at z; unfold PEx; omega))
    have go : ∀ y, FX4_explore_27 (FX4_explore_9 n) FUEL w1 s (nI C) (nI 1) = y → FX4_explore_9 (n + 1) w s (nI C) = y := by
      intro y hy
      rw [FX4_explore_9, R.2.2.2.2.2.2.1, nI_clamp (by omega)]
      refine E_f (nI_nlt (a := 9) (b := C) (by omega) (by decide)) (E_i rfl (show C < 10 by omega) (by decide) (E_d ?_))
      rw [← hw1]
      exact hy
    unfold opsL
    by_cases z : (leA K bk C ls P).1 = 0
    · rw [if_pos z]
      obtain ⟨w', h1, h2, h3⟩ := ih (C + 1) n w2 (lsU ls C (pN P)) (leA K bk C ls P).2 (by omega) (by omega) (by omega) FF ⟨fun c hc' => by
        obtain ⟨x1, x2⟩ := L1.1 c (by omega)
        exact ⟨by rw [F2.ar (by unfold PAr; omega)]; exact x1, by omega⟩, fun c hc' => L1.2 c (by omega)⟩ (E2.1 (by
        have : (lenL K bk C (lsU ls C (pN P)) 1 (if C < 3 then C else 3) P).1 = 0 := z
        omega))
      exact ⟨w', go _ (Eq.trans (g1 z) h1), h2, h3⟩
    · rw [if_neg z]
      refine ⟨w2, go _ (Eq.trans (g2 z) ?_), FF, fun o => ⟨E2.2 o, C0, by show C ≤ 9; omega⟩⟩
      unfold srI
      show some ((if (leA K bk C ls P).1 = 1 then nI C else -3), w2) = some ((if (leA K bk C ls P).1 = 0 then (-2 : Int32) else if (leA K bk C ls P).1 = 1 then nI C else -3), w2)
      rw [if_neg z]
end EX
