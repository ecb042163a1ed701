/-! A memory's state, in the class's object and in the reference's row; copies of either. -/
/-- content, kind, its cells, the map, the last run and its choice, how often it failed, the log -/
abbrev Me : Type := Nat × Option Nat × Nat × Nat × (Nat → Nat) × Option Nat × Nat × Option Nat × Nat × (Nat → Nat) × (Nat → Nat)
def meC (S : Me) : Nat := S.1
def meK (S : Me) : Option Nat := S.2.1
def meA (S : Me) : Nat := S.2.2.1
def meV (S : Me) : Nat := S.2.2.2.1
def meP (S : Me) : Nat → Nat := S.2.2.2.2.1
def meR (S : Me) : Option Nat := S.2.2.2.2.2.1
def meH (S : Me) : Nat := S.2.2.2.2.2.2.1
def meF (S : Me) : Option Nat := S.2.2.2.2.2.2.2.1
def meN (S : Me) : Nat := S.2.2.2.2.2.2.2.2.1
def meX (S : Me) : Nat → Nat := S.2.2.2.2.2.2.2.2.2.1
def meY (S : Me) : Nat → Nat := S.2.2.2.2.2.2.2.2.2.2
/-- class: a memory -/
def MV (w : HS) (o N : Nat) (S : Me) : Prop := hc w o = 3 ∧ hi w o 0 = nI N ∧ hi w o 1 = nI (meC S) ∧ hi w o 3 = oI (meK S) ∧ hi w o 4 = cI (meA S) ∧ hi w o 5 = cI (meV S) ∧ hi w o 6 = oI (meR S) ∧ (meR S ≠ none → hi w o 7 = nI (meH S)) ∧ hi w o 8 = oI (meF S) ∧ hi w o 9 = nI (meN S) ∧ meN S ≤ 60 ∧ (∀ i, i < 6 → ha w o 10 i = nI (meP S i)) ∧ ∀ i, i < meN S → ha w o 11 i = nI (8 * meX S i + meY S i)
/-- reference: a row -/
def RV (f : Nat → Int32) (S : Me) : Prop := f 0 = nI (meC S) ∧ f 1 = oI (meK S) ∧ f 2 = cI (meA S) ∧ f 3 = cI (meV S) ∧ (∀ i, i < 6 → f (4 + i) = nI (meP S i)) ∧ f 10 = oI (meR S) ∧ (meR S ≠ none → f 11 = nI (meH S)) ∧ f 12 = oI (meF S) ∧ meN S ≤ 60 ∧ ∀ i, i < meN S → f (13 + 2 * i) = nI (meX S i) ∧ f (14 + 2 * i) = nI (meY S i)
theorem RV.cg {f g : Nat → Int32} {S : Me} (h : RV f S) (e : ∀ i, i < 133 → g i = f i) : RV g S := by
  obtain ⟨h1, h2, h3, h4, h5, h6, h7, h8, h9, h10⟩ := h
  exact ⟨by rw [e _ (by decide)]; exact h1, by rw [e _ (by decide)]; exact h2, by rw [e _ (by decide)]; exact h3, by rw [e _ (by decide)]; exact h4, fun i hi => by rw [e _ (by omega)]; exact h5 i hi, by rw [e _ (by decide)]; exact h6, fun q => by rw [e _ (by decide)]; exact h7 q, by rw [e _ (by decide)]; exact h8, h9, fun i hi => by rw [e _ (by omega), e _ (by omega)]; exact h10 i hi⟩
theorem MV.ke {P : Nat → Nat → Prop} {w w' : HS} {o N : Nat} {S : Me} (h : MV w o N S) (f : Ke P w w') (n : ∀ k, ¬ P o k) : MV w' o N S := by
  obtain ⟨h1, h2, h3, h4, h5, h6, h7, h8, h9, h10, h11, h12, h13⟩ := h
  have d : 3 < 10 := by decide
  exact ⟨f.c h1 d, by rw [f.i h1 d (n _)]; exact h2, by rw [f.i h1 d (n _)]; exact h3, by rw [f.i h1 d (n _)]; exact h4, by rw [f.i h1 d (n _)]; exact h5, by rw [f.i h1 d (n _)]; exact h6, by rw [f.i h1 d (n _)]; exact h7, by rw [f.i h1 d (n _)]; exact h8, by rw [f.i h1 d (n _)]; exact h9, by rw [f.i h1 d (n _)]; exact h10, h11, by rw [f.ar h1 d (n _)]; exact h12, by rw [f.ar h1 d (n _)]; exact h13⟩
section CP
variable {w w1 : HS} {d s n N m c : Nat} {S : Me}
/-- class: n fields are copied -/
def CpI (w w1 : HS) (d s n : Nat) : Prop := Fr (fun b _ => b = d) w w1 ∧ (∀ k, k < n → k ≠ 2 → hi w1 d k = hi w s k) ∧ (2 < n → hp w1 d 2 = hp w s 2)
theorem cp_i (h : CpI w w1 d s n) (ne : s ≠ d) : CpI w (setI w1 d n (hi w1 s n)) d s (n + 1) ∨ n = 2 := by
  by_cases n2 : n = 2
  · exact Or.inr n2
  · obtain ⟨h1, h2, h3⟩ := h
    refine Or.inl ⟨h1.trans (Fr.sI rfl), fun k hk k2 => ?_, fun q => ?_⟩
    · rw [hi_setI]
      by_cases e : k = n
      · rw [if_pos ⟨rfl, e⟩, h1.i (fun z => ne z), e]
      · rw [if_neg (fun z => e z.2)]
        exact h2 k (by omega) k2
    · rw [hp_setI]
      exact h3 (by omega)
theorem cp_i' (h : CpI w w1 d s n) (ne : s ≠ d) (n2 : n ≠ 2) : CpI w (setI w1 d n (hi w1 s n)) d s (n + 1) := (cp_i h ne).resolve_right n2
theorem cp_p (h : CpI w w1 d s 2) (ne : s ≠ d) : CpI w (setP w1 d 2 (hp w1 s 2)) d s 3 := by
  obtain ⟨h1, h2, h3⟩ := h
  refine ⟨h1.trans (Fr.sP rfl), fun k hk k2 => ?_, fun _ => ?_⟩
  · rw [hi_setP]
    exact h2 k (by omega) k2
  · rw [hp_setP, if_pos ⟨rfl, rfl⟩, h1.o (fun z => ne z)]
theorem copy_me (h : MV w s N S) (hd : hc w d = 3) (ne : s ≠ d) : ∃ w', FX3_copyFrom w d s = some ((), w') ∧ Fr (fun b _ => b = d) w w' ∧ MV w' d N S ∧ hp w' d 2 = hp w s 2 := by
  have c0 : CpI w w d s 0 := ⟨Fr.refl, fun k hk => by omega, fun q => by omega⟩
  have c10 := cp_i' (cp_i' (cp_i' (cp_i' (cp_i' (cp_i' (cp_i' (cp_p (cp_i' (cp_i' c0 ne (by decide)) ne (by decide)) ne) ne (by decide)) ne (by decide)) ne (by decide)) ne (by decide)) ne (by decide)) ne (by decide)) ne (by decide)
  obtain ⟨wz, hz, c10⟩ : ∃ wz, FX3_copyFrom w d s = some ((), setR (setR wz d 10 (va_cpy (ha wz s 10) (ha wz d 10) 0 0 6)) d 11 (va_cpy (ha (setR wz d 10 (va_cpy (ha wz s 10) (ha wz d 10) 0 0 6)) s 11) (ha (setR wz d 10 (va_cpy (ha wz s 10) (ha wz d 10) 0 0 6)) d 11) 0 0 60)) ∧ CpI w wz d s 10 := by
    refine ⟨_, ?_, c10⟩
    unfold FX3_copyFrom
    exact E_c hd (E_c h.1 (E_d (E_d (E_d (E_d (E_d (E_d (E_d (E_d (E_d (E_d (E_d (E_d rfl)))))))))))))
  obtain ⟨w2, hw2⟩ : ∃ w2, w2 = setR wz d 10 (va_cpy (ha wz s 10) (ha wz d 10) 0 0 6) := ⟨_, rfl⟩
  obtain ⟨w3, hw3⟩ : ∃ w3, w3 = setR w2 d 11 (va_cpy (ha w2 s 11) (ha w2 d 11) 0 0 60) := ⟨_, rfl⟩
  have f2 : Fr (fun b _ => b = d) w w2 := c10.1.trans (by rw [hw2]; exact Fr.sR rfl)
  have f3 : Fr (fun b _ => b = d) w w3 := f2.trans (by rw [hw3]; exact Fr.sR rfl)
  obtain ⟨h1, h2, h3, h4, h5, h6, h7, h8, h9, h10, h11, h12, h13⟩ := h
  have ei : ∀ k, k < 10 → k ≠ 2 → hi w3 d k = hi w s k := fun k hk k2 => by rw [hw3, hi_setR, hw2, hi_setR]; exact c10.2.1 k hk k2
  have a10 : ∀ i, i < 6 → ha w3 d 10 i = ha w s 10 i := by
    intro i hi
    rw [hw3, ha_setRR, if_neg (by omega), hw2, ha_setRR, if_pos ⟨rfl, rfl⟩]
    show (if 0 ≤ i ∧ i < 0 + 6 then ha wz s 10 (0 + (i - 0)) else _) = _
    rw [if_pos (by omega), show 0 + (i - 0) = i from by omega, c10.1.ar (fun z => ne z)]
  have a11 : ∀ i, i < 60 → ha w3 d 11 i = ha w s 11 i := by
    intro i hi
    rw [hw3, ha_setRR, if_pos ⟨rfl, rfl⟩]
    show (if 0 ≤ i ∧ i < 0 + 60 then ha w2 s 11 (0 + (i - 0)) else _) = _
    rw [if_pos (by omega), show 0 + (i - 0) = i from by omega, f2.ar (fun z => ne z)]
  refine ⟨w3, ?_, f3, ⟨by rw [f3.c]; exact hd, by rw [ei _ (by decide) (by decide)]; exact h2, by rw [ei _ (by decide) (by decide)]; exact h3, by rw [ei _ (by decide) (by decide)]; exact h4, by rw [ei _ (by decide) (by decide)]; exact h5, by rw [ei _ (by decide) (by decide)]; exact h6, by rw [ei _ (by decide) (by decide)]; exact h7, by rw [ei _ (by decide) (by decide)]; exact h8, by rw [ei _ (by decide) (by decide)]; exact h9, by rw [ei _ (by decide) (by decide)]; exact h10, h11, fun i hi => by rw [a10 i hi]; exact h12 i hi, fun i hi => by rw [a11 i (by omega)]; exact h13 i hi⟩, ?_⟩
  · rw [hw3, hw2]
    exact hz
  · rw [hw3, hp_setR, hw2, hp_setR]
    exact c10.2.2 (by decide)
def P89 (m : Nat) : Nat → Nat → Prop := fun b k => b = m ∧ (k = 18 ∨ k = 19)
/-- reference: the row of now is kept as row c -/
theorem keep_row (h9 : hc w m = 9) (c20 : c < 20) : ∀ d j n w1, j + d = 133 → d < n → Fr (P89 m) w w1 → hi w1 m 19 = nI c → (∀ i, ha w1 m 18 i = if 133 * c ≤ i ∧ i < 133 * c + j then ha w m 16 (i - 133 * c) else ha w m 18 i) → ∃ w', FX9_keepsAct_54 n w1 m (nI j) = some ((), w') ∧ Fr (P89 m) w w' ∧ hi w' m 19 = nI (c + 1) ∧ ∀ i, ha w' m 18 i = if 133 * c ≤ i ∧ i < 133 * c + 133 then ha w m 16 (i - 133 * c) else ha w m 18 i := by
  intro d
  induction d with
  | zero =>
    intro j n w1 he hn f1 h1 h2
    obtain ⟨n, rfl⟩ : ∃ z, n = z + 1 := ⟨n - 1, by omega⟩
    have j1 : j = 133 := by omega
    subst j1
    refine ⟨setI w1 m 19 (nI (c + 1)), ?_, f1.trans (Fr.sI ⟨rfl, Or.inr rfl⟩), by rw [hi_setI, if_pos ⟨rfl, rfl⟩], fun i => by rw [ha_setI]; exact h2 i⟩
    rw [FX9_keepsAct_54, h1, nI_1]
    exact E_t (by decide) (E_d rfl)
  | succ d ih =>
    intro j n w1 he hn f1 h1 h2
    obtain ⟨n, rfl⟩ : ∃ z, n = z + 1 := ⟨n - 1, by omega⟩
    have e16 : ha w1 m 16 = ha w m 16 := f1.ar (by unfold P89; omega)
    obtain ⟨w', e', r'⟩ := ih (j + 1) n (setA w1 m 18 (133 * c + j) (ha w m 16 j)) (by omega) (by omega) (f1.trans (Fr.sA ⟨rfl, Or.inl rfl⟩)) h1 (by
      intro i
      rw [ha_setA, if_pos ⟨rfl, rfl⟩]
      by_cases e : i = 133 * c + j
      · subst e
        rw [upd_s, if_pos (by omega), show 133 * c + j - 133 * c = j from by omega]
      · rw [upd_n e, h2]
        by_cases q : 133 * c ≤ i ∧ i < 133 * c + j
        · rw [if_pos q, if_pos (by omega)]
        · rw [if_neg q, if_neg (by omega)])
    refine ⟨w', ?_, r'⟩
    rw [FX9_keepsAct_54, h1, l133_, nI_mul, nI_add, nI_clamp (by omega), nI_clamp (by omega), e16]
    refine E_f (nI_ge (by omega) (by decide)) (E_i rfl (by omega) (by decide) (E_i rfl (by omega) (by decide) (E_d ?_)))
    rw [nI_1]
    exact e'
/-- reference: all rows move down -/
theorem shift_rows : ∀ d j n w1, j + d = 2660 → 133 ≤ j → d < n → Fr (P89 m) w w1 → hi w1 m 19 = nI 20 → (∀ i, ha w1 m 18 i = if i + 133 < j then ha w m 18 (i + 133) else ha w m 18 i) → ∃ w', FX9_keepsAct_13 n w1 m (nI j) = FX9_keepsAct_52 w' m ∧ Fr (P89 m) w w' ∧ hi w' m 19 = nI 19 ∧ ∀ i, i < 2527 → ha w' m 18 i = ha w m 18 (i + 133) := by
  intro d
  induction d with
  | zero =>
    intro j n w1 he hj hn f1 h1 h2
    obtain ⟨n, rfl⟩ : ∃ z, n = z + 1 := ⟨n - 1, by omega⟩
    have j1 : j = 2660 := by omega
    subst j1
    refine ⟨setI w1 m 19 (nI 19), ?_, f1.trans (Fr.sI ⟨rfl, Or.inr rfl⟩), by rw [hi_setI, if_pos ⟨rfl, rfl⟩], fun i hi => ?_⟩
    · rw [FX9_keepsAct_13, h1, l1_, nI_subc (by decide)]
      exact E_t (by decide) (E_d rfl)
    · rw [ha_setI, h2, if_pos (by omega)]
  | succ d ih =>
    intro j n w1 he hj hn f1 h1 h2
    obtain ⟨n, rfl⟩ : ∃ z, n = z + 1 := ⟨n - 1, by omega⟩
    have e2 : ha w1 m 18 j = ha w m 18 j := by rw [h2 j, if_neg (by omega)]
    obtain ⟨w', e', r'⟩ := ih (j + 1) n (setA w1 m 18 (j - 133) (ha w m 18 j)) (by omega) (by omega) (by omega) (f1.trans (Fr.sA ⟨rfl, Or.inl rfl⟩)) h1 (by
      intro i
      rw [ha_setA, if_pos ⟨rfl, rfl⟩]
      by_cases e : i = j - 133
      · have e3 : i + 133 = j := by omega
        rw [e, upd_s, ← e, if_pos (by omega), e3]
      · rw [upd_n e, h2]
        by_cases q : i + 133 < j
        · rw [if_pos q, if_pos (by omega)]
        · rw [if_neg q, if_neg (by omega)])
    refine ⟨w', ?_, r'⟩
    rw [FX9_keepsAct_13, l133_, nI_subc (by omega), nI_clamp (by omega), nI_clamp (by omega), e2]
    refine E_f (nI_ge (b := 2660) (by omega) (by decide)) (E_i rfl (by omega) (by decide) (E_i rfl (by omega) (by decide) (E_d ?_)))
    rw [nI_1]
    exact e'
/-- reference: row c is now -/
theorem undo_row (c20 : c < 20) : ∀ d j n w1, j + d = 133 → d < n → Fr (fun b k => b = m ∧ k = 16) w w1 → hi w m 19 = nI c → (∀ i, ha w1 m 16 i = if i < j then ha w m 18 (133 * c + i) else ha w m 16 i) → ∃ w', FX9_undo_21 n w1 m (nI j) = some (nI c, w') ∧ Fr (fun b k => b = m ∧ k = 16) w w' ∧ ∀ i, i < 133 → ha w' m 16 i = ha w m 18 (133 * c + i) := by
  intro d
  induction d with
  | zero =>
    intro j n w1 he hn f1 h1 h2
    obtain ⟨n, rfl⟩ : ∃ z, n = z + 1 := ⟨n - 1, by omega⟩
    have j1 : j = 133 := by omega
    subst j1
    refine ⟨w1, ?_, f1, fun i hi => by rw [h2, if_pos hi]⟩
    rw [FX9_undo_21, f1.i (by omega), h1]
    exact E_t (by decide) rfl
  | succ d ih =>
    intro j n w1 he hn f1 h1 h2
    obtain ⟨n, rfl⟩ : ∃ z, n = z + 1 := ⟨n - 1, by omega⟩
    have e18 : ha w1 m 18 = ha w m 18 := f1.ar (by omega)
    obtain ⟨w', e', r'⟩ := ih (j + 1) n (setA w1 m 16 j (ha w m 18 (133 * c + j))) (by omega) (by omega) (f1.trans (Fr.sA ⟨rfl, rfl⟩)) h1 (by
      intro i
      rw [ha_setA, if_pos ⟨rfl, rfl⟩]
      by_cases e : i = j
      · subst e
        rw [upd_s, if_pos (by omega)]
      · rw [upd_n e, h2]
        by_cases q : i < j
        · rw [if_pos q, if_pos (by omega)]
        · rw [if_neg q, if_neg (by omega)])
    refine ⟨w', ?_, r'⟩
    rw [FX9_undo_21, f1.i (by omega), h1, l133_, nI_mul, nI_add, nI_clamp (by omega), nI_clamp (by omega), e18]
    refine E_f (nI_ge (by omega) (by decide)) (E_i rfl (by omega) (by decide) (E_i rfl (by omega) (by decide) (E_d ?_)))
    rw [nI_1]
    exact e'
end CP
