/-! A rule, in both. -/
def anyN (p : Nat → Bool) : Nat → Bool
  | 0 => false
  | i + 1 => anyN p i || p i
theorem anyN_iff (p : Nat → Bool) : ∀ n, anyN p n = true ↔ ∃ r, r < n ∧ p r = true := by
  intro n
  induction n with
  | zero => exact ⟨fun h => (by cases h), fun ⟨r, h, _⟩ => by omega⟩
  | succ n ih =>
    unfold anyN
    rw [Bool.or_eq_true, ih]
    constructor
    · intro h
      rcases h with ⟨r, h1, h2⟩ | h
      · exact ⟨r, by omega, h2⟩
      · exact ⟨n, by omega, h⟩
    · intro ⟨r, h1, h2⟩
      by_cases e : r = n
      · subst e; exact Or.inr h2
      · exact Or.inl ⟨r, by omega, h2⟩
theorem pr_any (b : Book) : pr b = anyN (isP b) b.1 := by
  cases h : anyN (isP b) b.1 with
  | true =>
    obtain ⟨r, h1, h2⟩ := (anyN_iff _ _).mp h
    exact pr_of h1 (of_decide_eq_true h2)
  | false =>
    unfold pr
    cases e : fsN (isP b) 0 b.1 with
    | none => rfl
    | some z =>
      have := fsN_some e
      have q := (anyN_iff (isP b) b.1).mpr ⟨z, by omega, this.2.2⟩
      rw [h] at q
      cases q
theorem anyN_congr {p q : Nat → Bool} : ∀ {n}, (∀ r, r < n → p r = q r) → anyN p n = anyN q n := by
  intro n
  induction n with
  | zero => intro _; rfl
  | succ n ih =>
    intro h
    unfold anyN
    rw [ih (fun r hr => h r (by omega)), h n (by omega)]
/-- a well-told rule -/
def WBr (b : Nat → Nat → Nat) (r : Nat) : Prop := (b r 0 = 118 ∧ b r 1 < 2 ∧ b r 2 < 3 ∧ b r 3 < 2 ∧ (b r 2 = 2 → b r 4 < 2)) ∨ (b r 0 = 97 ∧ b r 1 < 2 ∧ b r 2 < 3 ∧ b r 3 < 3) ∨ (b r 0 = 115 ∧ b r 1 < 2 ∧ b r 3 < 2) ∨ (b r 0 = 107 ∧ b r 3 < 2) ∨ (b r 0 = 110 ∧ b r 3 < 2) ∨ b r 0 = 109 ∨ (b r 0 = 98 ∧ b r 3 < 2)
def aln (c : Nat) : Bool := decide (c = 110 ∨ c = 109 ∨ c = 98)
/-- i rules are well told -/
def WBi (b : Nat → Nat → Nat) (i : Nat) : Prop := i ≤ 4 ∧ (∀ r, r < i → WBr b r) ∧ (∀ r f, b r f < 128) ∧ (1 < i → ∀ r, r < i → aln (b r 0) = false)
theorem WBi.wb {b : Nat → Nat → Nat} {i : Nat} (h : WBi b i) (h0 : 0 < i) : WB (i, b) := by
  obtain ⟨h1, h2, h3, h4⟩ := h
  refine ⟨h1, h0, h3, fun r hr => ?_⟩
  have hr' : r < i := hr
  have q := h2 r hr'
  show (b r 0 = 118 ∧ _) ∨ _
  by_cases hi : 1 < i
  · have a := h4 hi r hr'
    unfold aln at a
    rw [decide_eq_false_iff_not] at a
    unfold WBr at q
    rcases q with q | q | q | q | q | q | q
    · exact Or.inl q
    · exact Or.inr (Or.inl q)
    · exact Or.inr (Or.inr (Or.inl q))
    · exact Or.inr (Or.inr (Or.inr (Or.inl q)))
    · exact absurd (Or.inl q.1) a
    · exact absurd (Or.inr (Or.inl q)) a
    · exact absurd (Or.inr (Or.inr q.1)) a
  · have i1 : i = 1 := by omega
    unfold WBr at q
    rcases q with q | q | q | q | q | q | q
    · exact Or.inl q
    · exact Or.inr (Or.inl q)
    · exact Or.inr (Or.inr (Or.inl q))
    · exact Or.inr (Or.inr (Or.inr (Or.inl q)))
    · exact Or.inr (Or.inr (Or.inr (Or.inr ⟨i1, Or.inl q⟩)))
    · exact Or.inr (Or.inr (Or.inr (Or.inr ⟨i1, Or.inr (Or.inl q)⟩)))
    · exact Or.inr (Or.inr (Or.inr (Or.inr ⟨i1, Or.inr (Or.inr q)⟩)))
def Po (t o : Nat) : Nat → Nat → Prop := fun b k => (b = t ∧ (k = 2 ∨ k = 3)) ∨ (b = o ∧ k ≤ 6)
/-- class: i rules of kind o are read -/
def KC (w0 w : HS) (t o i : Nat) (β : Nat → Nat) (n p : Nat) (b : Nat → Nat → Nat) : Prop := TP w t β n p 0 ∧ hc w o = 1 ∧ hi w o 0 = nI i ∧ Fr (Po t o) w0 w ∧ (∀ r, r < i → ha w o 2 r = nI (cfm (i, b) r) ∧ ha w o 3 r = nI (cfr (i, b) r) ∧ ha w o 4 r = nI (cwr (i, b) r) ∧ (b r 0 ≠ 109 → ha w o 5 r = nI (b r 3)) ∧ (b r 0 = 118 → b r 2 = 2 → ha w o 6 r = nI (b r 4))) ∧ hi w o 1 = nI (if anyN (isP (i, b)) i = true then 1 else 0) ∧ ∀ r, i ≤ r → r < 4 → ∀ k, 2 ≤ k → k ≤ 6 → ha w o k r = 0
/-- class: a fault was found -/
def KCf (w0 w : HS) (t o : Nat) (β : Nat → Nat) (n f : Nat) : Prop := Fr (Po t o) w0 w ∧ hc w o = 1 ∧ (∃ p, TP w t β n p f) ∧ ∃ i, i ≤ 4 ∧ hi w o 0 = nI i
/-- reference: i rules of kind kn are read -/
def KR (w0 w : HS) (m kn i : Nat) (β : Nat → Nat) (n p : Nat) (b : Nat → Nat → Nat) : Prop := TR w m β n p ∧ hi w m 7 = nI kn ∧ kn < 8 ∧ Fr (Pk m) w0 w ∧ (∀ r, r < i → ∀ f, f < 5 → ha w m 5 (20 * kn + 5 * r + f) = nI (b r f)) ∧ (∀ j, ¬ (20 * kn ≤ j ∧ j < 20 * kn + 20) → ha w m 5 j = ha w0 m 5 j) ∧ ∀ j, j < 180 → ∃ z, z < 128 ∧ ha w m 5 j = nI z
/-- reference: a fault was found -/
def KRf (w0 w : HS) (m kn f : Nat) : Prop := hi w m 3 = nI f ∧ Fr (Pk m) w0 w ∧ (∀ j, ¬ (20 * kn ≤ j ∧ j < 20 * kn + 20) → ha w m 5 j = ha w0 m 5 j) ∧ ∀ j, j < 180 → ∃ z, z < 128 ∧ ha w m 5 j = nI z
theorem ix_0 : ∀ k, k < 256 → (∀ l, l < 7 → (ixL 0 k = some l ↔ k = lc l)) ∧ (ixL 0 k = none ↔ ∀ l, l < 7 → k ≠ lc l) := by decide +kernel
/-- the row of a rule, as numbers -/
theorem row_num {l : Nat} {row row' r5 r5' : Nat → Int32} (hl : l < 7) (h : RowOK l row row' r5 r5') (h0 : r5 0 = nI (lc l)) (hz : ∀ f, f < 5 → ∃ z, z < 128 ∧ r5 f = nI z) : ∃ c : Nat → Nat, (∀ f, f < 5 → r5' f = nI (c f)) ∧ (∀ f, c f < 128) ∧ c 0 = lc l ∧ WBr (fun _ => c) 0 ∧ (row 2 = nI l → row 3 = 0 → row 4 = 0 → row' 2 = nI (cfm (1, fun _ => c) 0) ∧ row' 3 = nI (cfr (1, fun _ => c) 0) ∧ row' 4 = nI (cwr (1, fun _ => c) 0) ∧ (c 0 ≠ 109 → row' 5 = nI (c 3)) ∧ (c 0 = 118 → c 2 = 2 → row' 6 = nI (c 4))) := by
  obtain ⟨h1, of, by_, to, tl, o1, o2, o3, o4, q1, q2, q3, q4⟩ := h
  obtain ⟨z1, z1a, z1b⟩ := hz 1 (by decide)
  obtain ⟨z2, z2a, z2b⟩ := hz 2 (by decide)
  obtain ⟨z3, z3a, z3b⟩ := hz 3 (by decide)
  obtain ⟨z4, z4a, z4b⟩ := hz 4 (by decide)
  obtain ⟨lca, _⟩ := lc_all l hl
  have mk5 : ∀ a1 a2 a3 a4 : Nat, a1 < 128 → a2 < 128 → a3 < 128 → a4 < 128 → r5' 1 = nI a1 → r5' 2 = nI a2 → r5' 3 = nI a3 → r5' 4 = nI a4 → (∀ f, f < 5 → r5' f = nI ((fun f => if f = 0 then lc l else if f = 1 then a1 else if f = 2 then a2 else if f = 3 then a3 else a4) f)) ∧ (∀ f, (fun f => if f = 0 then lc l else if f = 1 then a1 else if f = 2 then a2 else if f = 3 then a3 else a4) f < 128) := by
    intro a1 a2 a3 a4 b1 b2 b3 b4 c1 c2 c3 c4
    constructor
    · intro f hf
      have : f = 0 ∨ f = 1 ∨ f = 2 ∨ f = 3 ∨ f = 4 := by omega
      rcases this with e | e | e | e | e <;> subst e
      · rw [h1, h0]; rfl
      · exact c1
      · exact c2
      · exact c3
      · exact c4
    · intro f
      dsimp only
      repeat' split
      all_goals assumption
  by_cases l2 : l < 2
  · obtain ⟨a1, a2, a3, a4, a5, a6, a7, a8, a9, a10, a11⟩ := q1 l2
    by_cases br : by_ = 2 ∧ l = 0
    · obtain ⟨m1, m2⟩ := mk5 of by_ to tl (by omega) (by omega) (by omega) (by omega) a7 a8 a9 (a10 br.1 br.2)
      obtain ⟨e1, e2⟩ := br
      subst e1
      subst e2
      refine ⟨_, m1, m2, rfl, Or.inl ⟨rfl, o1, o2, a1 rfl, fun _ => o4⟩, fun r2 r3 r4 => ⟨a2, a3, by rw [a4, if_pos rfl, r4]; rfl, fun _ => a5, fun _ _ => a6 rfl rfl⟩⟩
    · obtain ⟨m1, m2⟩ := mk5 of by_ to z4 (by omega) (by omega) (by omega) (by omega) a7 a8 a9 (by rw [a11 br, z4b])
      have ll : l = 0 ∨ l = 1 := by omega
      rcases ll with ll | ll
      · subst ll
        have b2 : ¬ by_ = 2 := fun q => br ⟨q, rfl⟩
        refine ⟨_, m1, m2, rfl, Or.inl ⟨rfl, o1, o2, a1 rfl, fun q => absurd q b2⟩, fun r2 r3 r4 => ⟨?_, a3, ?_, fun _ => a5, fun _ q => absurd q b2⟩⟩
        · rw [a2, if_neg b2, r2]
          show nI 0 = nI (if by_ = 2 then 7 else 0)
          rw [if_neg b2]
        · rw [a4, if_neg b2]
          show nI by_ = nI (if (lc 0 = 118 ∨ lc 0 = 97) ∧ by_ ≠ 2 then by_ else 0)
          rw [if_pos ⟨Or.inl rfl, b2⟩]
      · subst ll
        refine ⟨_, m1, m2, rfl, Or.inr (Or.inl ⟨rfl, o1, o2, o3⟩), fun r2 r3 r4 => ⟨?_, a3, ?_, fun _ => a5, fun q => by cases q⟩⟩
        · show _ = nI (if by_ = 2 then 8 else 1)
          rw [a2, r2]
          by_cases b2 : by_ = 2
          · rw [if_pos b2, if_pos b2]; rfl
          · rw [if_neg b2, if_neg b2]
        · show _ = nI (if (lc 1 = 118 ∨ lc 1 = 97) ∧ by_ ≠ 2 then by_ else 0)
          rw [a4]
          by_cases b2 : by_ = 2
          · rw [if_pos b2, if_neg (fun q => q.2 b2), r4]; rfl
          · rw [if_neg b2, if_pos ⟨Or.inr rfl, b2⟩]
  · by_cases e2 : l = 2
    · obtain ⟨a1, a2, a3, a4, a5, a6, a7, a8, a9⟩ := q2 e2
      obtain ⟨m1, m2⟩ := mk5 of z2 to z4 (by omega) (by omega) (by omega) (by omega) a6 (by rw [a8, z2b]) a7 (by rw [a9, z4b])
      subst e2
      exact ⟨_, m1, m2, rfl, Or.inr (Or.inr (Or.inl ⟨rfl, o1, a1⟩)), fun r2 r3 r4 => ⟨by rw [a2, r2]; rfl, a3, by rw [a4, r4]; rfl, fun _ => a5, fun q => by cases q⟩⟩
    · by_cases e5 : l = 5
      · obtain ⟨a1, a2, a3, a4, a5, a6, a7⟩ := q4 e5
        obtain ⟨m1, m2⟩ := mk5 z1 z2 z3 z4 z1a z2a z3a z4a (by rw [a4, z1b]) (by rw [a5, z2b]) (by rw [a6, z3b]) (by rw [a7, z4b])
        subst e5
        exact ⟨_, m1, m2, rfl, Or.inr (Or.inr (Or.inr (Or.inr (Or.inr (Or.inl rfl))))), fun r2 r3 r4 => ⟨by rw [a1, r2]; rfl, by rw [a2, r3]; rfl, by rw [a3, r4]; rfl, fun q => absurd rfl q, fun q => by cases q⟩⟩
      · have e346 : l = 3 ∨ l = 4 ∨ l = 6 := by omega
        obtain ⟨a1, a2, a3, a4, a5, a6, a7, a8, a9⟩ := q3 e346
        obtain ⟨m1, m2⟩ := mk5 z1 z2 to z4 z1a z2a (by omega) z4a (by rw [a7, z1b]) (by rw [a8, z2b]) a6 (by rw [a9, z4b])
        rcases e346 with e | e | e <;> subst e
        · exact ⟨_, m1, m2, rfl, Or.inr (Or.inr (Or.inr (Or.inl ⟨rfl, a1⟩))), fun r2 r3 r4 => ⟨by rw [a2, r2]; rfl, by rw [a3, r3]; rfl, by rw [a4, r4]; rfl, fun _ => a5, fun q => by cases q⟩⟩
        · exact ⟨_, m1, m2, rfl, Or.inr (Or.inr (Or.inr (Or.inr (Or.inl ⟨rfl, a1⟩)))), fun r2 r3 r4 => ⟨by rw [a2, r2]; rfl, by rw [a3, r3]; rfl, by rw [a4, r4]; rfl, fun _ => a5, fun q => by cases q⟩⟩
        · exact ⟨_, m1, m2, rfl, Or.inr (Or.inr (Or.inr (Or.inr (Or.inr (Or.inr ⟨rfl, a1⟩))))), fun r2 r3 r4 => ⟨by rw [a2, r2]; rfl, by rw [a3, r3]; rfl, by rw [a4, r4]; rfl, fun _ => a5, fun q => by cases q⟩⟩
