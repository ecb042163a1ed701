/-! Reference: a rule's body; the same text, the same rule or the same fault. -/
section TK
variable {β : Nat → Nat} {n p : Nat}
theorem tk_f {s f : Nat} (h : f ≠ 0) : tkP β n s p f = (none, sk β n p, f) := if_neg h
theorem tk_s {s j : Nat} (h1 : sk β n p < n) (h2 : ixL s (β (sk β n p)) = some j) : tkP β n s p 0 = (some j, sk β n p + 1, 0) := by
  unfold tkP
  rw [if_pos rfl, if_pos h1, h2]
theorem tk_n {s : Nat} (h : ¬ sk β n p < n ∨ ixL s (β (sk β n p)) = none) : tkP β n s p 0 = (none, sk β n p, 8 * sk β n p + 1) := by
  unfold tkP
  rw [if_pos rfl]
  by_cases h1 : sk β n p < n
  · rw [if_pos h1, h.resolve_left (fun q => q h1)]
  · rw [if_neg h1]
theorem endC_f {l : Nat} {rd : Bool} {f : Nat} {row : Nat → Int32} (h : f ≠ 0) : (endC β n l rd p f row).2.1 = f := by
  unfold endC
  simp only [tk_f h]
  split <;> rfl
theorem midC_f {l f : Nat} {row : Nat → Int32} (h : f ≠ 0) : (midC β n l p f row).2.1 = f := by
  unfold midC
  simp only [tk_f h]
  split
  · exact endC_f h
  · exact endC_f h
end TK
theorem ix_one : ∀ s, s < 15 → (sgL s).length = 1 → ∀ k, k < 256 → ixL s k = if k = (sgL s).getD 0 0 then some 0 else none := by decide +kernel
theorem ix_dig : ∀ k, k < 256 → ixL 1 k = (if k = 48 then some 0 else if k = 49 then some 1 else none) ∧ ixL 4 k = (if k = 48 then some 0 else if k = 49 then some 1 else if k = 120 then some 2 else none) ∧ ixL 2 k = (if k = 119 then some 0 else if k = 114 then some 1 else none) ∧ ixL 12 k = ixL 1 k := by decide +kernel
theorem nar0 : (vp_nar .boolean (0 : Int32) == 0) = true := by decide
theorem nar1 : (vp_nar .boolean (1 : Int32) == 1) = true := by decide
def Pk (m : Nat) : Nat → Nat → Prop := fun b k => b = m ∧ (k = 2 ∨ k = 3 ∨ k = 4 ∨ k = 5)
/-- reference: rule i of kind kn is being read -/
def BR (w0 w : HS) (m kn i : Nat) (β : Nat → Nat) (n p : Nat) (r5 : Nat → Int32) : Prop := TR w m β n p ∧ hi w m 7 = nI kn ∧ kn < 8 ∧ i < 4 ∧ Fr (Pk m) w0 w ∧ (∀ f, f < 5 → ha w m 5 (20 * kn + 5 * i + f) = r5 f ∧ ∃ z, z < 128 ∧ r5 f = nI z) ∧ ∀ j, ¬ (20 * kn + 5 * i ≤ j ∧ j < 20 * kn + 5 * i + 5) → ha w m 5 j = ha w0 m 5 j
/-- reference: a fault was found -/
def BF (w0 w : HS) (m kn i f : Nat) : Prop := hi w m 3 = nI f ∧ Fr (Pk m) w0 w ∧ (∀ j, ¬ (20 * kn + 5 * i ≤ j ∧ j < 20 * kn + 5 * i + 5) → ha w m 5 j = ha w0 m 5 j) ∧ ∀ f, f < 5 → ∃ z, z < 128 ∧ ha w m 5 (20 * kn + 5 * i + f) = nI z
section BRs
variable {w0 w : HS} {m kn i n p : Nat} {β : Nat → Nat} {r5 : Nat → Int32}
theorem BR.st (h : BR w0 w m kn i β n p r5) {w' : HS} {p' : Nat} (f : Fr (Pfw m) w w') (t : TR w' m β n p') : BR w0 w' m kn i β n p' r5 := by
  obtain ⟨h1, h2, h3, h4, h5, h6, h7⟩ := h
  refine ⟨t, by rw [f.i (by unfold Pfw; omega)]; exact h2, h3, h4, h5.trans (f.mono (fun b k z => by unfold Pfw at z; unfold Pk; omega)), ?_, ?_⟩
  · rw [f.ar (by unfold Pfw; omega)]; exact h6
  · rw [f.ar (by unfold Pfw; omega)]; exact h7
theorem BR.bf (h : BR w0 w m kn i β n p r5) {w' : HS} {f' : Nat} (f : Fr (Pfw m) w w') (t : hi w' m 3 = nI f') : BF w0 w' m kn i f' := by
  obtain ⟨h1, h2, h3, h4, h5, h6, h7⟩ := h
  refine ⟨t, h5.trans (f.mono (fun b k z => by unfold Pfw at z; unfold Pk; omega)), ?_, ?_⟩
  · rw [f.ar (by unfold Pfw; omega)]; exact h7
  · rw [f.ar (by unfold Pfw; omega)]
    intro g hg
    obtain ⟨e, z, z1, z2⟩ := h6 g hg
    exact ⟨z, z1, e.trans z2⟩
theorem br_lays (h : BR w0 w m kn i β n p r5) {f : Nat} {v : Int32} (hf : f < 5) (hv : ∃ z, z < 128 ∧ v = nI z) : ∃ w', FX9_lays w m (hi w m 7) (nI i) (nI f) v = some ((), w') ∧ BR w0 w' m kn i β n p (upd r5 f v) ∧ hi w' m 4 = hi w m 4 := by
  obtain ⟨h1, h2, h3, h4, h5, h6, h7⟩ := id h
  refine ⟨setA w m 5 (20 * kn + 5 * i + f) v, ?_, ⟨h1.fr (Fr.sA (p := fun b k => b = m ∧ k = 5) ⟨rfl, rfl⟩) (by omega) (by omega) (by omega), h2, h3, h4, h5.trans (Fr.sA ⟨rfl, by omega⟩), fun g hg => ?_, fun j hj => ?_⟩, rfl⟩
  · unfold FX9_lays
    rw [h2, ixr, nI_clamp (by omega)]
    exact E_c h1.1 (E_i rfl (by omega) (by decide) (E_d rfl))
  · rw [ha_setA, if_pos ⟨rfl, rfl⟩]
    by_cases e : g = f
    · subst e; rw [upd_s, upd_s]; exact ⟨rfl, hv⟩
    · rw [upd_n (by omega), upd_n e]; exact h6 g hg
  · rw [ha_setA, if_pos ⟨rfl, rfl⟩, upd_n (by omega)]
    exact h7 j hj
theorem br_digit (hb : ∀ i, β i < 256) (h : BR w0 w m kn i β n p r5) (an : Bool) : (∃ j p', tkP β n (if an = true then 4 else 1) p 0 = (some j, p', 0) ∧ j < 3 ∧ ∃ w', FX9_readsDigit w m (if an = true then 1 else 0) = some (1, w') ∧ BR w0 w' m kn i β n p' r5 ∧ hi w' m 4 = nI j) ∨ (∃ f p', tkP β n (if an = true then 4 else 1) p 0 = (none, p', f) ∧ f ≠ 0 ∧ ∃ w', FX9_readsDigit w m (if an = true then 1 else 0) = some (0, w') ∧ BF w0 w' m kn i f) := by
  obtain ⟨w1, e1, f1, t1⟩ := tr_next hb h.1
  have sl := sk_le (β := β) (n := n) (p := p) h.1.2.2.2.2.2
  have b256 := hb (sk β n p)
  obtain ⟨x1, x2, _, _⟩ := ix_dig _ b256
  have hc9 : hc w1 m = 9 := t1.1
  have good : ∀ v j : Nat, sk β n p < n → β (sk β n p) = v → (if v = 120 then j = 2 else (48 ≤ v ∧ j = v - 48)) → j < 3 → (v = 48 ∨ v = 49 ∨ v = 120) → ∃ w', FX9_readsDigit_37 w1 m (nI v) = some (1, w') ∧ BR w0 w' m kn i β n (sk β n p + 1) r5 ∧ hi w' m 4 = nI j := by
    intro v j hn hv hj j3 hv3
    have fin : ∀ z : Int32, z = nI j → ∃ w', FX9_readsDigit_52 w1 m z m = some (1, w') ∧ BR w0 w' m kn i β n (sk β n p + 1) r5 ∧ hi w' m 4 = nI j := by
      intro z hz
      refine ⟨setI (setI w1 m 4 z) m 2 (nI (sk β n p + 1)), ?_, h.st ((Pat_Pfw f1).trans ((Fr.sI (p := Pfw m) ⟨rfl, by omega⟩).trans (Fr.sI ⟨rfl, by omega⟩))) ?_, ?_⟩
      · unfold FX9_readsDigit_52
        refine E_c hc9 (E_d (E_d ?_))
        rw [hi_setI, if_neg (by omega), t1.2.2.2.2.1, nI_1]
      · exact (t1.fr (Fr.sI (p := fun b k => b = m ∧ k = 4) ⟨rfl, rfl⟩) (by omega) (by omega) (by omega)).pl (by omega)
      · rw [hi_setI, if_neg (by omega), hi_setI, if_pos ⟨rfl, rfl⟩, hz]
    unfold FX9_readsDigit_37
    by_cases e : v = 120
    · rw [if_pos e] at hj
      obtain ⟨w', q1, q2⟩ := fin 2 (by rw [hj]; rfl)
      exact ⟨w', E_t (by rw [e]; rfl) q1, q2⟩
    · rw [if_neg e] at hj
      obtain ⟨w', q1, q2⟩ := fin (nI v - 48) (by rw [l48_, nI_subc hj.1, hj.2])
      exact ⟨w', E_f (fun q => e ((nI_eq (a := v) (b := 120) (by omega) (by decide)).mp q)) q1, q2⟩
  have bad : ∃ w', FX9_readsDigit_27 w1 m = some (0, w') ∧ BF w0 w' m kn i (8 * sk β n p + 1) := by
    refine ⟨setI w1 m 3 (nI (8 * sk β n p + 1)), ?_, h.bf ((Pat_Pfw f1).trans (Fr.sI ⟨rfl, by omega⟩)) (by rw [hi_setI, if_pos ⟨rfl, rfl⟩])⟩
    unfold FX9_readsDigit_27 FX9_fails
    rw [t1.2.2.2.2.1]
    refine E_b (a := (0, setI w1 m 3 (nI (8 * sk β n p + 1)))) (E_c hc9 (E_d ?_)) (E_k nar0 rfl)
    rw [show ((8 : Int32) * nI (sk β n p)) + 1 = nI (8 * sk β n p + 1) from by rw [l8_, l1_, nI_mul, nI_add]]
  have beq : ∀ v, v < 256 → (bI β n (sk β n p) = nI v ↔ sk β n p < n ∧ β (sk β n p) = v) := fun v hv => bI_eq hb (by omega)
  by_cases q0 : sk β n p < n ∧ β (sk β n p) = 48
  · obtain ⟨w', g1, g2, g3⟩ := good 48 0 q0.1 q0.2 (by decide) (by decide) (Or.inl rfl)
    refine Or.inl ⟨0, sk β n p + 1, tk_s q0.1 (by rw [q0.2]; cases an <;> rfl), by decide, w', ?_, g2, g3⟩
    unfold FX9_readsDigit
    refine E_c h.1.1 (E_b e1 (E_t ((beq 48 (by decide)).mpr q0) ?_))
    dsimp only
    rw [(beq 48 (by decide)).mpr q0]
    exact g1
  · by_cases q1 : sk β n p < n ∧ β (sk β n p) = 49
    · obtain ⟨w', g1, g2, g3⟩ := good 49 1 q1.1 q1.2 (by decide) (by decide) (Or.inr (Or.inl rfl))
      refine Or.inl ⟨1, sk β n p + 1, tk_s q1.1 (by rw [q1.2]; cases an <;> rfl), by decide, w', ?_, g2, g3⟩
      unfold FX9_readsDigit
      refine E_c h.1.1 (E_b e1 (E_f (fun z => q0 ((beq 48 (by decide)).mp z)) (E_t ((beq 49 (by decide)).mpr q1) ?_)))
      dsimp only
      rw [(beq 49 (by decide)).mpr q1]
      exact g1
    · by_cases q2 : an = true ∧ sk β n p < n ∧ β (sk β n p) = 120
      · obtain ⟨w', g1, g2, g3⟩ := good 120 2 q2.2.1 q2.2.2 (by decide) (by decide) (Or.inr (Or.inr rfl))
        refine Or.inl ⟨2, sk β n p + 1, tk_s q2.2.1 (by rw [q2.2.2, q2.1]; rfl), by decide, w', ?_, g2, g3⟩
        unfold FX9_readsDigit
        refine E_c h.1.1 (E_b e1 (E_f (fun z => q0 ((beq 48 (by decide)).mp z)) (E_f (fun z => q1 ((beq 49 (by decide)).mp z)) (E_t ((beq 120 (by decide)).mpr q2.2) (E_f (by rw [q2.1]; decide) ?_)))))
        dsimp only
        rw [(beq 120 (by decide)).mpr q2.2]
        exact g1
      · obtain ⟨w', g1, g2⟩ := bad
        refine Or.inr ⟨8 * sk β n p + 1, sk β n p, tk_n ?_, by omega, w', ?_, g2⟩
        · by_cases hn : sk β n p < n
          · right
            have n0 : β (sk β n p) ≠ 48 := fun z => q0 ⟨hn, z⟩
            have n1 : β (sk β n p) ≠ 49 := fun z => q1 ⟨hn, z⟩
            cases an with
            | false => rw [show (if false = true then 4 else 1) = 1 from rfl, x1, if_neg n0, if_neg n1]
            | true => rw [show (if true = true then 4 else 1) = 4 from rfl, x2, if_neg n0, if_neg n1, if_neg (fun z => q2 ⟨rfl, hn, z⟩)]
          · exact Or.inl hn
        · unfold FX9_readsDigit
          refine E_c h.1.1 (E_b e1 (E_f (fun z => q0 ((beq 48 (by decide)).mp z)) (E_f (fun z => q1 ((beq 49 (by decide)).mp z)) ?_)))
          by_cases q3 : sk β n p < n ∧ β (sk β n p) = 120
          · refine E_t ((beq 120 (by decide)).mpr q3) ?_
            cases an with
            | false => exact E_t rfl g1
            | true => exact absurd ⟨rfl, q3⟩ q2
          · exact E_f (fun z => q3 ((beq 120 (by decide)).mp z)) g1
theorem br_needs (hb : ∀ i, β i < 256) (h : BR w0 w m kn i β n p r5) {s c : Nat} (hs : s < 15) (hl : (sgL s).length = 1) (hc : (sgL s).getD 0 0 = c) (hc2 : c < 128) : (∃ p', tkP β n s p 0 = (some 0, p', 0) ∧ ∃ w', FX9_needs w m (nI c) = some (1, w') ∧ BR w0 w' m kn i β n p' r5 ∧ hi w' m 4 = hi w m 4) ∨ (∃ f p', tkP β n s p 0 = (none, p', f) ∧ f ≠ 0 ∧ ∃ w', FX9_needs w m (nI c) = some (0, w') ∧ BF w0 w' m kn i f) := by
  have x := ix_one s hs hl _ (hb (sk β n p))
  rw [hc] at x
  rcases tr_needs hb (c := c) (by omega) h.1 with ⟨q1, q2, w1, e1, f1, t1, g4⟩ | ⟨q, w1, e1, f1, g3⟩
  · exact Or.inl ⟨sk β n p + 1, tk_s q1 (by rw [x, if_pos q2]), w1, e1, h.st f1 t1, g4⟩
  · refine Or.inr ⟨8 * sk β n p + 1, sk β n p, tk_n ?_, by omega, w1, e1, h.bf f1 g3⟩
    by_cases hn : sk β n p < n
    · exact Or.inr (by rw [x, if_neg (fun z => q ⟨hn, z⟩)])
    · exact Or.inl hn
/-- behind ':' : what v becomes -/
theorem ref_endB (hb : ∀ i, β i < 256) (h : BR w0 w m kn i β n p r5) {l : Nat} {row : Nat → Int32} (hl : l ≠ 1) : ((endC β n l false p 0 row).2.1 = 0 ∧ ∃ j, j < 2 ∧ (endC β n l false p 0 row).2.2 = upd row 5 (nI j) ∧ ∃ w', FX9_readsRest_85 w m (nI i) = some (1, w') ∧ BR w0 w' m kn i β n (endC β n l false p 0 row).1 (upd r5 3 (nI j))) ∨ ((endC β n l false p 0 row).2.1 ≠ 0 ∧ ∃ w', FX9_readsRest_85 w m (nI i) = some (0, w') ∧ BF w0 w' m kn i (endC β n l false p 0 row).2.1) := by
  have eE : endC β n l false p 0 row = _ := if_neg (fun q : false = true ∧ l = 0 => by cases q.1)
  rw [eE, if_neg hl]
  unfold FX9_readsRest_85
  rcases br_needs hb h (s := 3) (c := 58) (by decide) rfl rfl (by decide) with ⟨p1, k1, w1, e1, B1, _⟩ | ⟨f, p1, k1, fn, w1, e1, B1⟩
  · rw [k1]
    dsimp only
    rcases br_digit hb B1 false with ⟨j, p2, k2, j3, w2, e2, B2, d2⟩ | ⟨f, p2, k2, fn, w2, e2, B2⟩
    · rw [show tkP β n 1 p1 0 = (some j, p2, 0) from k2]
      have j2 : j < 2 := by
        have := tk1_lt (β := β) (n := n) (p := p1) (f := 0) (s := 1) (j := j) (by rw [show tkP β n 1 p1 0 = (some j, p2, 0) from k2])
        have : (sgL 1).length = 2 := rfl
        omega
      obtain ⟨w3, e3, B3, _⟩ := br_lays B2 (f := 3) (v := nI j) (by decide) ⟨j, by omega, rfl⟩
      refine Or.inl ⟨rfl, j, j2, rfl, w3, E_b e1 (E_f (show ¬ (1 : Int32) = 0 by decide) (E_b e2 (E_f (show ¬ (1 : Int32) = 0 by decide) (E_b (a := ((), w3)) ?_ rfl)))), B3⟩
      dsimp only
      rw [d2]
      exact e3
    · rw [show tkP β n 1 p1 0 = (none, p2, f) from k2]
      exact Or.inr ⟨fn, w2, E_b e1 (E_f (show ¬ (1 : Int32) = 0 by decide) (E_b e2 (E_t rfl rfl))), B2⟩
  · rw [k1]
    dsimp only
    rw [tk_f fn]
    exact Or.inr ⟨fn, w1, E_b e1 (E_t rfl rfl), B1⟩
end BRs
