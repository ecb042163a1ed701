/-! The search: what holds of the pure one. -/
/-- how the states came -/
def Lk (P : PBs) (n : Nat) : Prop := ∀ i, 0 < i → i < n → pP P i < i ∧ pB P i < 78 ∧ pO P i = pO P (pP P i) + sLn (pB P i) ∧ okS (pB P i) (pS P (pP P i)).1 = true
def Ivp (C : Nat) (ls : Nat → Nat) (P : PBs) : Prop := 0 < pN P ∧ pO P 0 = 0 ∧ Lk P (pN P) ∧ (∀ i, i < pN P → pO P i ≤ C) ∧ (∀ c, c < C → ∀ i, i < pN P → (pO P i = c ↔ ls c ≤ i ∧ i < ls (c + 1))) ∧ (∀ i, i < pN P → (pO P i = C ↔ ls C ≤ i)) ∧ ∀ c, c ≤ C → ls c ≤ pN P
def Fdp (C : Nat) (P : PBs) : Prop := 0 < pN P ∧ pO P 0 = 0 ∧ Lk P (pN P + 1) ∧ pO P (pN P) = C
def Rsp (C : Nat) (ls : Nat → Nat) (r : Nat × PBs) : Prop := (r.1 = 0 → Ivp C ls r.2) ∧ (r.1 = 1 → Fdp C r.2)
section PI
variable {K C l : Nat} {bk : Nat → Book} {ls : Nat → Nat}
theorem put_old {P : PBs} {a : AS} {s k : Nat} : ∀ i, i < pN P → pP (putP P a s k C) i = pP P i ∧ pB (putP P a s k C) i = pB P i ∧ pO (putP P a s k C) i = pO P i := by
  intro i hi'
  have e : ¬ i = pN P := by omega
  exact ⟨if_neg e, if_neg e, if_neg e⟩
theorem put_oldS {P : PBs} {a : AS} {s k : Nat} : ∀ i, i < pN P → pS (putP P a s k C) i = pS P i := fun i hi' => if_neg (show ¬ i = pN P by omega)
theorem put_new {P : PBs} {a : AS} {s k : Nat} : pP (putP P a s k C) (pN P) = s ∧ pB (putP P a s k C) (pN P) = k ∧ pO (putP P a s k C) (pN P) = C := ⟨if_pos rfl, if_pos rfl, if_pos rfl⟩
theorem put_lk {P : PBs} {a : AS} {s k : Nat} (I : Ivp C ls P) (hs : s < pN P) (hk : k < 78) (ho : pO P s + sLn k = C) (ok : okS k (pS P s).1 = true) : Lk (putP P a s k C) (pN P + 1) := by
  obtain ⟨i0, i1, i2, _⟩ := I
  intro i h0 h1
  by_cases e : i = pN P
  · subst e
    obtain ⟨n1, n2, n3⟩ := put_new (P := P) (a := a) (s := s) (k := k) (C := C)
    rw [n1, n2, n3, (put_old s hs).2.2, put_oldS s hs]
    exact ⟨hs, hk, ho.symm, ok⟩
  · obtain ⟨o1, o2, o3⟩ := put_old (P := P) (a := a) (s := s) (k := k) (C := C) i (by omega)
    obtain ⟨l1, l2, l3, l4⟩ := i2 i h0 (by omega)
    rw [o1, o2, o3, (put_old (pP P i) (by omega)).2.2, put_oldS (pP P i) (by omega)]
    exact ⟨l1, l2, l3, l4⟩
theorem arr_iv {P : PBs} {s k : Nat} (I : Ivp C ls P) (hs : s < pN P) (hk : k < 78) (ho : pO P s + sLn k = C) : Rsp C ls (arrP K bk P s k C) := by
  unfold arrP
  split
  · exact ⟨fun _ => I, fun z => absurd z (show ¬ (0 : Nat) = 1 from by decide)⟩
  · rename_i okn
    obtain ⟨a, ha'⟩ : ∃ a, a = nxA bk (pS P s) k := ⟨_, rfl⟩
    rw [← ha']
    have L := put_lk (a := a) I hs hk ho (by
      cases e : okS k (pS P s).1 with
      | true => rfl
      | false => exact absurd e okn)
    obtain ⟨i0, i1, i2, i3, i4, i5, i6⟩ := id I
    split
    · refine ⟨fun z => absurd z (show ¬ (1 : Nat) = 0 from by decide), fun _ => ⟨i0, ?_, L, ?_⟩⟩
      · exact ((put_old 0 i0).2.2).trans i1
      · exact put_new.2.2
    · split
      · exact ⟨fun _ => I, fun z => absurd z (show ¬ (0 : Nat) = 1 from by decide)⟩
      · split
        · exact ⟨fun z => absurd z (show ¬ (2 : Nat) = 0 from by decide), fun z => absurd z (show ¬ (2 : Nat) = 1 from by decide)⟩
        · refine ⟨fun _ => ?_, fun z => absurd z (show ¬ (0 : Nat) = 1 from by decide)⟩
          have oo : ∀ i, i < pN P → pO (incP (putP P a s k C)) i = pO P i := fun i hi' => (put_old i hi').2.2
          have on : pO (incP (putP P a s k C)) (pN P) = C := put_new.2.2
          have en : pN (incP (putP P a s k C)) = pN P + 1 := rfl
          show Ivp C ls (incP (putP P a s k C))
          refine ⟨by rw [en]; omega, by rw [oo 0 i0]; exact i1, by rw [en]; exact L, fun i hi' => ?_, fun c hc' i hi' => ?_, fun i hi' => ?_, fun c hc' => by rw [en]; have := i6 c hc'; omega⟩
          · rw [en] at hi'
            by_cases e : i = pN P
            · rw [e, on]; exact Nat.le_refl _
            · rw [oo i (by omega)]; exact i3 i (by omega)
          · rw [en] at hi'
            by_cases e : i = pN P
            · rw [e, on]
              have := i6 (c + 1) (by omega)
              exact ⟨fun z => by omega, fun z => by omega⟩
            · rw [oo i (by omega)]; exact i4 c hc' i (by omega)
          · rw [en] at hi'
            by_cases e : i = pN P
            · rw [e, on]
              exact ⟨fun _ => i6 C (Nat.le_refl _), fun _ => rfl⟩
            · rw [oo i (by omega)]; exact i5 i (by omega)
theorem arr_keepO {P : PBs} {s k i : Nat} (hi' : i < pN P) : pO (arrP K bk P s k C).2 i = pO P i ∧ i < pN (arrP K bk P s k C).2 := by
  have m := arr_mono K bk P s k C
  refine ⟨?_, by omega⟩
  unfold arrP
  split
  · rfl
  · split
    · exact (put_old i hi').2.2
    · split
      · rfl
      · split
        · rfl
        · exact (put_old i hi').2.2
theorem stp_iv {s : Nat} (l0 : 0 < l) (l3 : l ≤ 3) : ∀ d k P, k + d = sF (l + 1) → sF l ≤ k → Ivp C ls P → s < pN P → pO P s + l = C → Rsp C ls (stpL K bk C s k d P) := by
  intro d
  induction d with
  | zero => intro k P _ _ I _ _; exact ⟨fun _ => I, fun z => absurd z (show ¬ (0 : Nat) = 1 from by decide)⟩
  | succ d ih =>
    intro k P he hk I hs ho
    have f78 := sF_le (l + 1) (by omega)
    have ek : sLn k = l := sLn_F l (by omega) l0 k (by omega) hk (by omega)
    have A := arr_iv (K := K) (bk := bk) I hs (show k < 78 by omega) (by rw [ek]; exact ho)
    unfold stpL
    by_cases z : (arrP K bk P s k C).1 = 0
    · rw [if_pos z]
      obtain ⟨k1, k2⟩ := arr_keepO (K := K) (bk := bk) (C := C) (s := s) (k := k) hs
      exact ih (k + 1) _ (by omega) (by omega) (A.1 z) k2 (by rw [k1]; exact ho)
    · rw [if_neg z]
      exact A
theorem stp_keep {s : Nat} : ∀ d k P i, i < pN P → pO (stpL K bk C s k d P).2 i = pO P i ∧ i < pN (stpL K bk C s k d P).2 := by
  intro d
  induction d with
  | zero => intro k P i h; exact ⟨rfl, h⟩
  | succ d ih =>
    intro k P i h
    obtain ⟨k1, k2⟩ := arr_keepO (K := K) (bk := bk) (C := C) (s := s) (k := k) h
    unfold stpL
    by_cases z : (arrP K bk P s k C).1 = 0
    · rw [if_pos z]
      obtain ⟨j1, j2⟩ := ih (k + 1) _ i k2
      exact ⟨j1.trans k1, j2⟩
    · rw [if_neg z]
      exact ⟨k1, k2⟩
theorem lvl_iv (l0 : 0 < l) (l3 : l ≤ 3) (lC : l ≤ C) : ∀ d s P, s + d = ls (C - l + 1) → ls (C - l) ≤ s → Ivp C ls P → Rsp C ls (lvlL K bk C l s d P) := by
  intro d
  induction d with
  | zero => intro s P _ _ I; exact ⟨fun _ => I, fun z => absurd z (show ¬ (0 : Nat) = 1 from by decide)⟩
  | succ d ih =>
    intro s P he hs I
    have fm := sF_mono l (by omega) l0
    have l6 := I.2.2.2.2.2.2 (C - l + 1) (by omega)
    have hs' : s < pN P := by omega
    have ho : pO P s = C - l := (I.2.2.2.2.1 (C - l) (by omega) s hs').mpr ⟨hs, by omega⟩
    have A : Rsp C ls (stA K bk C l s P) := stp_iv l0 l3 (sF (l + 1) - sF l) (sF l) P (by omega) (Nat.le_refl _) I hs' (by omega)
    unfold lvlL
    by_cases z : (stA K bk C l s P).1 = 0
    · rw [if_pos z]
      exact ih (s + 1) _ (by omega) (by omega) (A.1 z)
    · rw [if_neg z]
      exact A
theorem len_iv (lsm : ∀ c, c + 1 ≤ C → ls c ≤ ls (c + 1)) : ∀ d l P, l + d = (if C < 3 then C else 3) + 1 → 0 < l → Ivp C ls P → Rsp C ls (lenL K bk C ls l d P) := by
  intro d
  induction d with
  | zero => intro l P _ _ I; exact ⟨fun _ => I, fun z => absurd z (show ¬ (0 : Nat) = 1 from by decide)⟩
  | succ d ih =>
    intro l P he l0 I
    have l3 : l ≤ 3 ∧ l ≤ C := by split at he <;> omega
    have lm := lsm (C - l) (by omega)
    have A : Rsp C ls (lvA K bk C ls l P) := lvl_iv l0 l3.1 l3.2 _ _ P (by omega) (Nat.le_refl _) I
    unfold lenL
    by_cases z : (lvA K bk C ls l P).1 = 0
    · rw [if_pos z]
      exact ih (l + 1) _ (by omega) (by omega) (A.1 z)
    · rw [if_neg z]
      exact A
/-- ahead of C ops -/
def Ivs (C : Nat) (ls : Nat → Nat) (P : PBs) : Prop := 0 < pN P ∧ pO P 0 = 0 ∧ Lk P (pN P) ∧ (∀ i, i < pN P → pO P i < C) ∧ (∀ c, c + 1 < C → ∀ i, i < pN P → (pO P i = c ↔ ls c ≤ i ∧ i < ls (c + 1))) ∧ (∀ c, c + 1 = C → ∀ i, i < pN P → (pO P i = c ↔ ls c ≤ i)) ∧ (∀ c, c < C → ls c ≤ pN P) ∧ ∀ c, c + 1 < C → ls c ≤ ls (c + 1)
theorem ivs_up {P : PBs} (I : Ivs C ls P) : Ivp C (lsU ls C (pN P)) P ∧ ∀ c, c + 1 ≤ C → lsU ls C (pN P) c ≤ lsU ls C (pN P) (c + 1) := by
  obtain ⟨i0, i1, i2, i3, i4, i5, i6, i7⟩ := I
  unfold lsU
  refine ⟨⟨i0, i1, i2, fun i hi' => Nat.le_of_lt (i3 i hi'), fun c hc' i hi' => ?_, fun i hi' => ?_, fun c hc' => ?_⟩, fun c hc' => ?_⟩
  · try dsimp only
    rw [if_neg (by omega)]
    by_cases e : c + 1 = C
    · rw [if_pos e, i5 c e i hi']
      exact ⟨fun z => ⟨z, hi'⟩, fun z => z.1⟩
    · rw [if_neg e]
      exact i4 c (by omega) i hi'
  · try dsimp only
    rw [if_pos rfl]
    have := i3 i hi'
    exact ⟨fun z => by omega, fun z => by omega⟩
  · try dsimp only
    split
    · exact Nat.le_refl _
    · exact i6 c (by omega)
  · try dsimp only
    rw [if_neg (by omega)]
    by_cases e : c + 1 = C
    · rw [if_pos e]; exact i6 c (by omega)
    · rw [if_neg e]; exact i7 c (by omega)
theorem ivp_next {P : PBs} (I : Ivp C ls P) (lsm : ∀ c, c + 1 ≤ C → ls c ≤ ls (c + 1)) : Ivs (C + 1) ls P := by
  obtain ⟨i0, i1, i2, i3, i4, i5, i6⟩ := I
  refine ⟨i0, i1, i2, fun i hi' => by have := i3 i hi'; omega, fun c hc' i hi' => i4 c (by omega) i hi', fun c hc' i hi' => ?_, fun c hc' => i6 c (by omega), fun c hc' => lsm c (by omega)⟩
  have e : c = C := by omega
  rw [e]
  exact i5 i hi'
theorem ops_iv : ∀ d C ls P, 0 < C → Ivs C ls P → (opsL K bk C d ls P).1 = 1 → Fdp (opsL K bk C d ls P).2.1 (opsL K bk C d ls P).2.2 := by
  intro d
  induction d with
  | zero => intro C ls P _ _ z; exact absurd z (show ¬ (0 : Nat) = 1 from by decide)
  | succ d ih =>
    intro C ls P C0 I
    obtain ⟨J, lsm⟩ := ivs_up I
    have A : Rsp C (lsU ls C (pN P)) (leA K bk C ls P) := len_iv lsm _ 1 P (by omega) (by decide) J
    unfold opsL
    by_cases z : (leA K bk C ls P).1 = 0
    · rw [if_pos z]
      exact ih (C + 1) _ _ (by omega) (ivp_next (A.1 z) lsm)
    · rw [if_neg z]
      intro o
      exact A.2 o
theorem ivs_0 (bk : Nat → Book) : Ivs 1 (fun _ => 0) (P0 bk) := by
  refine ⟨by show 0 < 1; decide, rfl, fun i h0 h1 => ?_, fun i _ => by show 0 < 1; decide, fun c hc' => by omega, fun c hc' i hi' => ?_, fun c hc' => Nat.zero_le _, fun c hc' => Nat.le_refl _⟩
  · have : i < 1 := h1
    omega
  · have e : c = 0 := by omega
    rw [e]
    exact ⟨fun _ => Nat.zero_le _, fun _ => rfl⟩
theorem srch_fd (h : (srch K bk).1 = 1) : Fdp (srch K bk).2.1 (srch K bk).2.2 := ops_iv 9 1 _ _ (by decide) (ivs_0 bk) h
end PI
