/-! The search: steps; the class's tables of them. -/
def sLn (k : Nat) : Nat := if k < 6 then 1 else if k < 24 then 2 else 3
def sF (l : Nat) : Nat := if l ≤ 1 then 0 else if l = 2 then 6 else if l = 3 then 24 else 78
def sRs (k : Nat) : Nat := k - sF (sLn k)
def sDn (k : Nat) : Nat := if 3 ^ sLn k ≤ sRs k then 1 else 0
def sAc (k i : Nat) : Nat := sRs k / 3 ^ (sLn k - 1 - i) % 3
theorem sLn_F : ∀ l, l < 4 → 0 < l → ∀ k, k < 78 → sF l ≤ k → k < sF (l + 1) → sLn k = l := by decide +kernel
theorem sta0 : ∀ l, l < 4 → (staB 0).getD l 0 = nI (sF l) ∧ (staB 0).getD (l + 1) 0 = nI (sF (l + 1)) ∧ (staB 1).getD l 0 = (if l = 0 then 0 else nI (3 ^ l)) := by decide +kernel
theorem sLn3 (k : Nat) : 0 < sLn k ∧ sLn k ≤ 3 := by unfold sLn; split <;> (try split) <;> omega
theorem sF_le : ∀ l, l < 5 → sF l ≤ 78 := by decide
theorem sF_mono : ∀ l, l < 4 → 0 < l → sF l < sF (l + 1) := by decide
def dI (d : Nat) : Int32 := nI d - 1
theorem dI_s (d : Nat) : dI (d + 1) = nI d := by
  unfold dI
  rw [← nI_1]
  exact Int32.add_sub_cancel _ _
theorem dI_0 : dI 0 < 0 := by decide
theorem dI_m (d : Nat) : nI d + (-1 : Int32) = dI d := by
  unfold dI
  rw [Int32.sub_eq_add_neg]
/-- class: the tables of the steps below k -/
def STk (w : HS) (s k : Nat) : Prop := ∀ j, j < k → ha w s 2 j = nI (sLn j) ∧ ha w s 3 j = nI (sDn j) ∧ ∀ i, i < sLn j → ha w s 4 (3 * j + i) = nI (sAc j i)
section IN
variable {w : HS} {s sz k l rest : Nat} {k134 : HS → Nat → Nat → Int32 → Option (Unit × HS × Nat × Nat)} {k145 : HS → Nat → Nat → Int32 → Int32 → Option (Unit × HS × Nat × Nat)}
theorem in196 (k78 : k < 78) (r54 : rest < 54) : ∀ d n w1, d ≤ l → l ≤ 3 → d < n → Fr (fun b k => b = s ∧ k = 4) w w1 → (∀ j, j < 3 * k ∨ 3 * k + 3 ≤ j → ha w1 s 4 j = ha w s 4 j) → (∀ i, d ≤ i → i < l → ha w1 s 4 (3 * k + i) = nI (rest / 3 ^ (l - 1 - i) % 3)) → ∃ w', FX4_init_196 k134 k145 n w1 sz s (nI l) (nI k) (nI (rest / 3 ^ (l - d))) (dI d) = k145 w' sz s (nI l) (nI (k + 1)) ∧ Fr (fun b k => b = s ∧ k = 4) w w' ∧ (∀ j, j < 3 * k ∨ 3 * k + 3 ≤ j → ha w' s 4 j = ha w s 4 j) ∧ ∀ i, i < l → ha w' s 4 (3 * k + i) = nI (rest / 3 ^ (l - 1 - i) % 3) := by
  intro d
  induction d with
  | zero =>
    intro n w1 hd hl hn F O E
    obtain ⟨n, rfl⟩ : ∃ z, n = z + 1 := ⟨n - 1, by omega⟩
    refine ⟨w1, ?_, F, O, fun i hi => E i (Nat.zero_le _) hi⟩
    rw [FX4_init_196, if_pos dI_0, nI_1]
  | succ d ih =>
    intro n w1 hd hl hn F O E
    obtain ⟨n, rfl⟩ : ∃ z, n = z + 1 := ⟨n - 1, by omega⟩
    have rb : rest / 3 ^ (l - (d + 1)) ≤ rest := Nat.div_le_self _ _
    obtain ⟨w', e', r'⟩ := ih n (setA w1 s 4 (3 * k + d) (nI (rest / 3 ^ (l - (d + 1)) % 3))) (by omega) hl (by omega) (F.trans (Fr.sA ⟨rfl, rfl⟩)) (by
      intro j hj
      rw [ha_setA, if_pos ⟨rfl, rfl⟩, upd_n (by omega)]
      exact O j hj) (by
      intro i h1 h2
      rw [ha_setA, if_pos ⟨rfl, rfl⟩]
      by_cases e : i = d
      · rw [e, upd_s, show l - (d + 1) = l - 1 - d from by omega]
      · rw [upd_n (by omega)]
        exact E i (by omega) h2)
    refine ⟨w', ?_, r'⟩
    rw [FX4_init_196, dI_s, if_neg (nI_pos (by omega)), show nI k * (3 : Int32) + nI d = nI (3 * k + d) from by rw [l3_, nI_mul, nI_add, Nat.mul_comm], nI_clamp (by omega)]
    refine E_i rfl (by omega) (by decide) (E_d ?_)
    rw [l3_, nI_rem (by omega) (by decide), nI_dv (by omega) (by decide), dI_m, Nat.div_div_eq_div_mul, ← Nat.pow_succ, show (l - (d + 1)).succ = l - d from by omega]
    exact e'
theorem STk.st {w w' : HS} (h : STk w s k) (h2 : ∀ j, j < k → ha w' s 2 j = ha w s 2 j) (h3 : ∀ j, j < k → ha w' s 3 j = ha w s 3 j) (h4 : ∀ j, j < 3 * k → ha w' s 4 j = ha w s 4 j) : STk w' s k := by
  intro j hj
  obtain ⟨a, b, c⟩ := h j hj
  have := (sLn3 j).2
  exact ⟨by rw [h2 j hj]; exact a, by rw [h3 j hj]; exact b, fun i hi => by rw [h4 _ (by omega)]; exact c i hi⟩
theorem in145 (l0 : 0 < l) (l3 : l ≤ 3) : ∀ d k n w1, k + d = sF (l + 1) → sF l ≤ k → d < n → hc w1 s = 4 → Fr (fun b j => b = s ∧ (j = 2 ∨ j = 3 ∨ j = 4)) w w1 → STk w1 s k → ∃ w', FX4_init_145 k134 n w1 sz s (nI l) (nI k) = k134 w' sz s (nI (l + 1)) ∧ hc w' s = 4 ∧ Fr (fun b j => b = s ∧ (j = 2 ∨ j = 3 ∨ j = 4)) w w' ∧ STk w' s (sF (l + 1)) := by
  obtain ⟨s0, s1, s2⟩ := sta0 l (by omega)
  rw [if_neg (by omega)] at s2
  have f78 := sF_le (l + 1) (by omega)
  have p27 : 3 ^ l ≤ 27 := by
    have : ∀ l, l < 4 → 3 ^ l ≤ 27 := by decide
    exact this l (by omega)
  intro d
  induction d with
  | zero =>
    intro k n w1 he hk hn s4 F T
    obtain ⟨n, rfl⟩ : ∃ z, n = z + 1 := ⟨n - 1, by omega⟩
    have e : k = sF (l + 1) := by omega
    refine ⟨w1, ?_, s4, F, by rw [← e]; exact T⟩
    rw [FX4_init_145, nI_1, nI_clamp (n := l + 1) (by omega), s1]
    refine E_i rfl (show l + 1 < 5 by omega) (by decide) ?_
    rw [if_pos (nI_le (by omega) (by omega))]
  | succ d ih =>
    intro k n w1 he hk hn s4 F T
    obtain ⟨n, rfl⟩ : ∃ z, n = z + 1 := ⟨n - 1, by omega⟩
    have ek : sLn k = l := sLn_F l (by omega) l0 k (by omega) hk (by omega)
    have er : sRs k = k - sF l := by unfold sRs; rw [ek]
    have r54 : k - sF l < 54 := by
      have : ∀ l, l < 4 → 0 < l → sF (l + 1) ≤ sF l + 54 := by decide
      have := this l (by omega) l0
      omega
    obtain ⟨w2, hw2⟩ : ∃ w2, w2 = setA w1 s 2 k (nI l) := ⟨_, rfl⟩
    have dn : ∀ v : Int32, v = nI (sDn k) → ∃ w', FX4_init_190 k134 (FX4_init_145 k134 n) w2 sz s (nI l) (nI k) (nI (k - sF l)) v (nI k) s = k134 w' sz s (nI (l + 1)) ∧ hc w' s = 4 ∧ Fr (fun b j => b = s ∧ (j = 2 ∨ j = 3 ∨ j = 4)) w w' ∧ STk w' s (sF (l + 1)) := by
      intro v hv
      obtain ⟨w3, hw3⟩ : ∃ w3, w3 = setA w2 s 3 k (nI (sDn k)) := ⟨_, rfl⟩
      obtain ⟨w4, e4, F4, O4, E4⟩ := in196 (w := w3) (s := s) (sz := sz) (k := k) (l := l) (rest := k - sF l) (k134 := k134) (k145 := FX4_init_145 k134 n) (by omega) r54 l FUEL w3 (Nat.le_refl _) l3 (fuel_lt (by omega)) Fr.refl (fun j _ => rfl) (fun i h1 h2 => by omega)
      rw [Nat.sub_self, Nat.pow_zero, Nat.div_one] at e4
      have F14 : Fr (fun b j => b = s ∧ (j = 2 ∨ j = 3 ∨ j = 4)) w1 w4 := (Fr.trans (w' := w2) (by rw [hw2]; exact Fr.sA ⟨rfl, by omega⟩) (Fr.trans (w' := w3) (by rw [hw3]; exact Fr.sA ⟨rfl, by omega⟩) (F4.mono (fun b j z => by omega))))
      have a2 : ∀ j, ha w4 s 2 j = if j = k then nI l else ha w1 s 2 j := by
        intro j
        rw [F4.ar (by omega), hw3, ha_setA, if_neg (by omega), hw2, ha_setA, if_pos ⟨rfl, rfl⟩]
        rfl
      have a3 : ∀ j, ha w4 s 3 j = if j = k then nI (sDn k) else ha w1 s 3 j := by
        intro j
        rw [F4.ar (by omega), hw3, ha_setA, if_pos ⟨rfl, rfl⟩, hw2, ha_setA, if_neg (by omega)]
        rfl
      have a4 : ∀ j, j < 3 * k → ha w4 s 4 j = ha w1 s 4 j := by
        intro j hj
        rw [O4 j (Or.inl hj), hw3, ha_setA, if_neg (by omega), hw2, ha_setA, if_neg (by omega)]
      have T4 : STk w4 s (k + 1) := by
        intro j hj
        by_cases e : j = k
        · subst e
          refine ⟨by rw [a2, if_pos rfl, ek], by rw [a3, if_pos rfl], fun i hi => ?_⟩
          rw [E4 i (by omega)]
          unfold sAc
          rw [er, ek]
        · exact T.st (fun j hj => by rw [a2, if_neg (by omega)]) (fun j hj => by rw [a3, if_neg (by omega)]) a4 j (by omega)
      obtain ⟨w', e', r'⟩ := ih (k + 1) n w4 (by omega) (by omega) (by omega) (by rw [F14.c]; exact s4) (F.trans F14) T4
      refine ⟨w', ?_, r'⟩
      have hn' : vp_nar .boolean v = nI (sDn k) := by
        rw [hv]
        unfold sDn
        split
        · exact eq_of_beq nar1
        · exact eq_of_beq nar0
      unfold FX4_init_190
      rw [hn', nI_clamp (by omega), l1_, nI_subc (by omega)]
      refine E_c (by rw [hw2]; exact s4) (E_i rfl (show k < 78 by omega) (by decide) (E_d ?_))
      rw [← hw3, ← e']
      have edl : nI (l - 1) = dI l := by
        rw [show l = (l - 1) + 1 from by omega, dI_s]
        rfl
      rw [edl]
      exact e4
    rw [FX4_init_145, nI_1, nI_clamp (n := l + 1) (by omega), s1, nI_clamp (n := k) (by omega), nI_clamp (n := l) (by omega), s0, s2, ← hw2, nI_subc hk]
    by_cases h : 3 ^ l ≤ k - sF l
    · obtain ⟨w', e', r'⟩ := dn 1 (by unfold sDn; rw [ek, er, if_pos h]; rfl)
      refine ⟨w', ?_, r'⟩
      exact E_i rfl (show l + 1 < 5 by omega) (by decide) (E_f (nI_ge (by omega) (by omega)) (E_i rfl (show l < 5 by omega) (by decide) (E_i rfl (show k < 78 by omega) (by decide) (E_d (E_i rfl (show l < 4 by omega) (by decide) (E_f (nI_nlt h (by omega)) e'))))))
    · obtain ⟨w', e', r'⟩ := dn 0 (by unfold sDn; rw [ek, er, if_neg h]; rfl)
      refine ⟨w', ?_, r'⟩
      exact E_i rfl (show l + 1 < 5 by omega) (by decide) (E_f (nI_ge (by omega) (by omega)) (E_i rfl (show l < 5 by omega) (by decide) (E_i rfl (show k < 78 by omega) (by decide) (E_d (E_i rfl (show l < 4 by omega) (by decide) (E_t (nI_lt (by omega) (by omega)) e'))))))
theorem in134 (s4 : hc w s = 4) : ∃ w', FX4_init_134 FUEL w sz s 1 = some ((), w', 0, 0) ∧ hc w' s = 4 ∧ Fr (fun b j => b = s ∧ (j = 2 ∨ j = 3 ∨ j = 4)) w w' ∧ STk w' s 78 := by
  have one : ∀ l n w1, 0 < l → l ≤ 3 → hc w1 s = 4 → Fr (fun b j => b = s ∧ (j = 2 ∨ j = 3 ∨ j = 4)) w w1 → STk w1 s (sF l) → ∃ w', FX4_init_134 (n + 1) w1 sz s (nI l) = FX4_init_134 n w' sz s (nI (l + 1)) ∧ hc w' s = 4 ∧ Fr (fun b j => b = s ∧ (j = 2 ∨ j = 3 ∨ j = 4)) w w' ∧ STk w' s (sF (l + 1)) := by
    intro l n w1 l0 l3 h4 F T
    obtain ⟨s0, _, _⟩ := sta0 l (by omega)
    have fm := sF_mono l (by omega) l0
    have f78 := sF_le (l + 1) (by omega)
    obtain ⟨w', e', r'⟩ := in145 (w := w) (s := s) (sz := sz) (k134 := FX4_init_134 n) l0 l3 (sF (l + 1) - sF l) (sF l) FUEL w1 (by omega) (Nat.le_refl _) (fuel_lt (by omega)) h4 F T
    refine ⟨w', ?_, r'⟩
    rw [FX4_init_134, nI_clamp (n := l) (by omega), s0]
    exact E_f (nI_nlt (b := l) (a := 3) l3 (by decide)) (E_i rfl (show l < 5 by omega) (by decide) e')
  obtain ⟨w1, e1, a1, b1, c1⟩ := one 1 9999 w (by decide) (by decide) s4 Fr.refl (fun j hj => absurd hj (Nat.not_lt_zero _))
  obtain ⟨w2, e2, a2, b2, c2⟩ := one 2 9998 w1 (by decide) (by decide) a1 b1 c1
  obtain ⟨w3, e3, a3, b3, c3⟩ := one 3 9997 w2 (by decide) (by decide) a2 b2 c2
  refine ⟨w3, ?_, a3, b3, c3⟩
  refine Eq.trans e1 (Eq.trans e2 (Eq.trans e3 ?_))
  rw [FX4_init_134]
  exact E_t (by decide) rfl
end IN
