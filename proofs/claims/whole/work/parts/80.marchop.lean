/-! An op of a march, read by both. -/
def sEo (op : Nat → Nat) : Nat → Option Nat → Option Nat
  | 0, o => o
  | k + 1, o => if op k < 2 then sEo op k o else some (op k - 2)
def rEo (op : Nat → Nat) : Nat → Nat
  | 0 => 0
  | k + 1 => rEo op k + if op k < 2 then 1 else 0
theorem sEo_c {op op' : Nat → Nat} : ∀ {k : Nat} {o : Option Nat}, (∀ j, j < k → op j = op' j) → sEo op k o = sEo op' k o ∧ rEo op k = rEo op' k := by
  intro k
  induction k with
  | zero => intro o _; exact ⟨rfl, rfl⟩
  | succ k ih =>
    intro o h
    unfold sEo rEo
    rw [h k (by omega), (ih (o := o) (fun j hj => h j (by omega))).1, (ih (o := o) (fun j hj => h j (by omega))).2]
    exact ⟨rfl, rfl⟩
def opu (op : Nat → Nat) (i c : Nat) : Nat → Nat := fun k => if k = i then c else op k
def Pop (t o : Nat) : Nat → Nat → Prop := fun b k => (b = t ∧ (k = 2 ∨ k = 3)) ∨ (b = o ∧ (k = 4 ∨ k = 6 ∨ k = 7 ∨ k = 8))
/-- class: i ops of element e are read -/
def OC (w1 w : HS) (t o e i : Nat) (β : Nat → Nat) (n p : Nat) (so : Option Nat) (op : Nat → Nat) : Prop := TP w t β n p 0 ∧ hc w o = 2 ∧ hi w o 0 = nI e ∧ e < 8 ∧ i ≤ 6 ∧ hi w o 4 = oI (sEo op i so) ∧ Fr (Pop t o) w1 w ∧ ha w o 6 e = nI i ∧ ha w o 7 e = nI (rEo op i) ∧ (∀ k, k < i → ha w o 8 (6 * e + k) = nI (op k)) ∧ (∀ j, j ≠ e → ha w o 6 j = ha w1 o 6 j ∧ ha w o 7 j = ha w1 o 7 j) ∧ ∀ j, ¬ (6 * e ≤ j ∧ j < 6 * e + 6) → ha w o 8 j = ha w1 o 8 j
def OF (w1 w : HS) (t o e : Nat) (β : Nat → Nat) (n f : Nat) : Prop := Fr (Pop t o) w1 w ∧ hc w o = 2 ∧ hi w o 0 = nI e ∧ ∃ p, TP w t β n p f
def Pro (m : Nat) : Nat → Nat → Prop := fun b k => b = m ∧ (k = 2 ∨ k = 3 ∨ k = 4 ∨ k = 8 ∨ k = 13)
/-- reference: i ops of element e are read -/
def OR (u1 u : HS) (m mn e i : Nat) (β : Nat → Nat) (n p : Nat) (so : Option Nat) (op : Nat → Nat) : Prop := TR u m β n p ∧ hi u m 11 = nI mn ∧ mn < 6 ∧ e < 8 ∧ hi u m 13 = oI (sEo op i so) ∧ Fr (Pro m) u1 u ∧ (∀ k, k < i → ha u m 8 (64 * mn + 8 * e + 2 + k) = nI (op k)) ∧ ∀ j, ¬ (64 * mn + 8 * e + 2 ≤ j ∧ j < 64 * mn + 8 * e + 8) → ha u m 8 j = ha u1 m 8 j
def ORf (u1 u : HS) (m mn e f : Nat) : Prop := hi u m 3 = nI f ∧ Fr (Pro m) u1 u ∧ ∀ j, ¬ (64 * mn + 8 * e + 2 ≤ j ∧ j < 64 * mn + 8 * e + 8) → ha u m 8 j = ha u1 m 8 j
section OPs
variable {w1 w u1 u : HS} {t o m mn e i n p : Nat} {β : Nat → Nat} {so : Option Nat} {op : Nat → Nat}
theorem OC.ne (h : OC w1 w t o e i β n p so op) : o ≠ t := by
  intro q
  have := h.1.1
  rw [← q, h.2.1] at this
  cases this
theorem OC.tp (h : OC w1 w t o e i β n p so op) {w' : HS} {p' : Nat} (f : Fr (P6 t) w w') (T : TP w' t β n p' 0) : OC w1 w' t o e i β n p' so op := by
  have ne := h.ne
  obtain ⟨h1, h2, h3, h4, h5, h6, h7, h8, h9, h10, h11, h12⟩ := h
  refine ⟨T, by rw [f.c]; exact h2, by rw [f.i (by unfold P6; omega)]; exact h3, h4, h5, by rw [f.i (by unfold P6; omega)]; exact h6, h7.trans (f.mono (fun b k z => Or.inl z)), by rw [f.ar (by unfold P6; omega)]; exact h8, by rw [f.ar (by unfold P6; omega)]; exact h9, by rw [f.ar (by unfold P6; omega)]; exact h10, ?_, by rw [f.ar (by unfold P6; omega)]; exact h12⟩
  rw [f.ar (by unfold P6; omega), f.ar (by unfold P6; omega)]
  exact h11
theorem OC.cf (h : OC w1 w t o e i β n p so op) {w' : HS} {p' f' : Nat} (f : Fr (P6 t) w w') (T : TP w' t β n p' f') : OF w1 w' t o e β n f' := by
  have ne := h.ne
  obtain ⟨h1, h2, h3, h4, h5, h6, h7, h8, h9, h10, h11, h12⟩ := h
  exact ⟨h7.trans (f.mono (fun b k z => Or.inl z)), by rw [f.c]; exact h2, by rw [f.i (by unfold P6; omega)]; exact h3, p', T⟩
theorem OR.st (h : OR u1 u m mn e i β n p so op) {u' : HS} {p' : Nat} (f : Fr (Pfw m) u u') (T : TR u' m β n p') : OR u1 u' m mn e i β n p' so op := by
  obtain ⟨h1, h2, h3, h4, h5, h6, h7, h8⟩ := h
  refine ⟨T, by rw [f.i (by unfold Pfw; omega)]; exact h2, h3, h4, by rw [f.i (by unfold Pfw; omega)]; exact h5, h6.trans (f.mono (fun b k z => by unfold Pfw at z; unfold Pro; omega)), ?_, ?_⟩
  · rw [f.ar (by unfold Pfw; omega)]; exact h7
  · rw [f.ar (by unfold Pfw; omega)]; exact h8
theorem OR.cf (h : OR u1 u m mn e i β n p so op) {u' : HS} {f' : Nat} (f : Fr (Pfw m) u u') (T : hi u' m 3 = nI f') : ORf u1 u' m mn e f' := by
  obtain ⟨h1, h2, h3, h4, h5, h6, h7, h8⟩ := h
  refine ⟨T, h6.trans (f.mono (fun b k z => by unfold Pfw at z; unfold Pro; omega)), ?_⟩
  rw [f.ar (by unfold Pfw; omega)]; exact h8
theorem OF.opf (hb : ∀ i, β i < 256) {f : Nat} (h : OF w1 w t o e β n f) (hf : f ≠ 0) : Rn (FX2_scanOp w o t) (fun _ w' => OF w1 w' t o e β n f) := by
  obtain ⟨h1, h2, h3, p, T⟩ := h
  have ne : o ≠ t := by
    intro q
    have := T.1
    rw [← q, h2] at this
    cases this
  obtain ⟨w2, e2, f2, t2⟩ := tp_next hb T
  obtain ⟨w3, e3, f3, t3⟩ := tp_take hb (s := 11) (by decide) t2
  rw [tk_f hf] at e3 t3
  unfold FX2_scanOp
  refine Rn.okc h2 (Rn.eq e2 (Rn.eq e3 (Rn.t rfl (Rn.ret ⟨(h1.trans (f2.mono (fun b k z => Or.inl z))).trans (f3.mono (fun b k z => Or.inl z)), by rw [f3.c, f2.c]; exact h2, ?_, _, t3⟩))))
  show hi w3 o 0 = nI e
  rw [f3.i (by unfold P6; omega), f2.i (by unfold P6; omega)]
  exact h3
theorem ix_11 : ∀ k, k < 256 → ixL 11 k = (if k = 114 then some 0 else if k = 119 then some 1 else none) := by decide +kernel
theorem tr_digit0 (hb : ∀ i, β i < 256) {u : HS} {p : Nat} (T : TR u m β n p) : (∃ j p', tkP β n 12 p 0 = (some j, p', 0) ∧ j < 2 ∧ ∃ u', FX9_readsDigit u m 0 = some (1, u') ∧ Fr (Pfw m) u u' ∧ TR u' m β n p' ∧ hi u' m 4 = nI j) ∨ (∃ f p', tkP β n 12 p 0 = (none, p', f) ∧ f ≠ 0 ∧ ∃ u', FX9_readsDigit u m 0 = some (0, u') ∧ Fr (Pfw m) u u' ∧ hi u' m 3 = nI f) := by
  obtain ⟨w1, e1, f1, t1⟩ := tr_next hb T
  have b256 := hb (sk β n p)
  have sl := sk_le (β := β) (n := n) (p := p) T.2.2.2.2.2
  obtain ⟨x1, _, _, x12⟩ := ix_dig _ b256
  rw [x1] at x12
  have beq : ∀ v, v < 256 → (bI β n (sk β n p) = nI v ↔ sk β n p < n ∧ β (sk β n p) = v) := fun v hv => bI_eq hb (by omega)
  have good : ∀ v j : Nat, 48 ≤ v → v < 120 → j = v - 48 → sk β n p < n → ∃ u', FX9_readsDigit_37 w1 m (nI v) = some (1, u') ∧ Fr (Pfw m) u u' ∧ TR u' m β n (sk β n p + 1) ∧ hi u' m 4 = nI j := by
    intro v j v1 v2 hj hn
    refine ⟨setI (setI w1 m 4 (nI j)) m 2 (nI (sk β n p + 1)), ?_, (Pat_Pfw f1).trans ((Fr.sI (p := Pfw m) ⟨rfl, by omega⟩).trans (Fr.sI ⟨rfl, by omega⟩)), ?_, ?_⟩
    · unfold FX9_readsDigit_37
      refine E_f (fun q => by have := (nI_eq (a := v) (b := 120) (by omega) (by decide)).mp q; omega) ?_
      rw [l48_, nI_subc v1, ← hj]
      unfold FX9_readsDigit_52
      refine E_c t1.1 (E_d (E_d ?_))
      rw [hi_setI, if_neg (by omega), t1.2.2.2.2.1, nI_1]
    · exact (t1.fr (Fr.sI (p := fun b k => b = m ∧ k = 4) ⟨rfl, rfl⟩) (by omega) (by omega) (by omega)).pl (by omega)
    · rw [hi_setI, if_neg (by omega), hi_setI, if_pos ⟨rfl, rfl⟩]
  by_cases q0 : sk β n p < n ∧ β (sk β n p) = 48
  · obtain ⟨w', g1, g2, g3, g4⟩ := good 48 0 (by decide) (by decide) rfl q0.1
    refine Or.inl ⟨0, sk β n p + 1, tk_s q0.1 (by rw [q0.2]; rfl), by decide, w', ?_, g2, g3, g4⟩
    unfold FX9_readsDigit
    refine E_c T.1 (E_b e1 (E_t ((beq 48 (by decide)).mpr q0) ?_))
    dsimp only
    rw [(beq 48 (by decide)).mpr q0]
    exact g1
  · by_cases q1 : sk β n p < n ∧ β (sk β n p) = 49
    · obtain ⟨w', g1, g2, g3, g4⟩ := good 49 1 (by decide) (by decide) rfl q1.1
      refine Or.inl ⟨1, sk β n p + 1, tk_s q1.1 (by rw [q1.2]; rfl), by decide, w', ?_, g2, g3, g4⟩
      unfold FX9_readsDigit
      refine E_c T.1 (E_b e1 (E_f (fun z => q0 ((beq 48 (by decide)).mp z)) (E_t ((beq 49 (by decide)).mpr q1) ?_)))
      dsimp only
      rw [(beq 49 (by decide)).mpr q1]
      exact g1
    · have bad : FX9_readsDigit_27 w1 m = some (0, setI w1 m 3 (nI (8 * sk β n p + 1))) := by
        unfold FX9_readsDigit_27
        rw [t1.2.2.2.2.1]
        exact E_b (ref_fails t1.1 (y := 1)) (E_k nar0 rfl)
      refine Or.inr ⟨8 * sk β n p + 1, sk β n p, tk_n ?_, by omega, setI w1 m 3 (nI (8 * sk β n p + 1)), ?_, (Pat_Pfw f1).trans (Fr.sI ⟨rfl, by omega⟩), by rw [hi_setI, if_pos ⟨rfl, rfl⟩]⟩
      · by_cases hn : sk β n p < n
        · right
          rw [x12, if_neg (fun z => q0 ⟨hn, z⟩), if_neg (fun z => q1 ⟨hn, z⟩)]
        · exact Or.inl hn
      · unfold FX9_readsDigit
        refine E_c T.1 (E_b e1 (E_f (fun z => q0 ((beq 48 (by decide)).mp z)) (E_f (fun z => q1 ((beq 49 (by decide)).mp z)) ?_)))
        exact (by by_cases q3 : bI β n (sk β n p) = (120 : Int32)
                  · exact E_t q3 (E_t rfl bad)
                  · exact E_f q3 bad)
theorem oI_lt {so : Option Nat} (h : ∀ z, so = some z → z < 2) {d : Nat} (hd : d < 2) : nI d = oI so ↔ so = some d := by
  cases so with
  | none => exact ⟨fun q => absurd q (nI_nM (by omega)), fun q => by cases q⟩
  | some z =>
    have := h z rfl
    exact ⟨fun q => by rw [(nI_eq (by omega) (by omega)).mp q], fun q => by cases q; rfl⟩
theorem op_both (hb : ∀ i, β i < 256) (C : OC w1 w t o e i β n p so op) (R : OR u1 u m mn e i β n p so op) (hs : ∀ z, sEo op i so = some z → z < 2) :
    (i < 6 ∧ ∃ p' c, c < 4 ∧ (c < 2 → sEo op i so = some c) ∧ Rn (FX2_scanOp w o t) (fun _ w' => OC w1 w' t o e (i + 1) β n p' so (opu op i c)) ∧ ∃ u', FX9_readsOp u m (nI e) (nI i) = some (1, u') ∧ OR u1 u' m mn e (i + 1) β n p' so (opu op i c)) ∨
    (∃ f, f ≠ 0 ∧ Rn (FX2_scanOp w o t) (fun _ w' => OF w1 w' t o e β n f) ∧ ∃ u', FX9_readsOp u m (nI e) (nI i) = some (0, u') ∧ ORf u1 u' m mn e f) := by
  have ne := C.ne
  have pn := C.1.2.2.2.2.2.1
  have n200 := C.1.2.2.1
  have i6 := C.2.2.2.2.1
  have e8 := C.2.2.2.1
  have sl := sk_le (β := β) (n := n) (p := p) pn
  obtain ⟨w2, e2, f2, t2⟩ := tp_next hb C.1
  obtain ⟨w3, e3, f3, t3⟩ := tp_take hb (s := 11) (by decide) t2
  rw [tk_sk pn] at e3 t3
  obtain ⟨u2, g2, h2, r2⟩ := tr_next hb R.1
  have R2 := R.st (Pat_Pfw h2) r2
  have C2 := C.tp f2 t2
  have x := ix_11 _ (hb (sk β n p))
  have beq : ∀ v, v < 256 → (bI β n (sk β n p) = nI v ↔ sk β n p < n ∧ β (sk β n p) = v) := fun v hv => bI_eq hb (by omega)
  by_cases hL : sk β n p < n ∧ ∃ l, l < 2 ∧ β (sk β n p) = (if l = 0 then 114 else 119)
  · obtain ⟨hn, l, l2, hl⟩ := hL
    have ix : ixL 11 (β (sk β n p)) = some l := by
      rw [x, hl]
      have : l = 0 ∨ l = 1 := by omega
      rcases this with q | q <;> subst q <;> rfl
    have tk := tk_s (β := β) (n := n) (p := p) (s := 11) hn ix
    rw [tk] at e3 t3
    have C3 : OC w1 w3 t o e i β n (sk β n p + 1) so op := C2.tp f3 t3
    have hbI : bI β n (sk β n p) = nI (if l = 0 then 114 else 119) := (beq _ (by split <;> decide)).mpr ⟨hn, hl⟩
    -- reference to 31
    have r31 : ∀ z : Option (Int32 × HS), FX9_readsOp_31 u2 m (nI e) (nI i) (nI (if l = 0 then 114 else 119)) (nI (sk β n p)) = z → FX9_readsOp u m (nI e) (nI i) = z := by
      intro z hz
      unfold FX9_readsOp
      refine E_c R.1.1 (E_b g2 ?_)
      dsimp only
      rw [r2.2.2.2.2.1, hbI]
      by_cases l0 : l = 0
      · rw [if_pos l0] at hz ⊢
        exact E_t rfl hz
      · rw [if_neg l0] at hz ⊢
        exact E_f (by decide) (E_t rfl hz)
    have c6 := C3.2.2.2.2.2.2.2.1
    have c0 := C3.2.2.1
    by_cases i66 : i = 6
    · -- the seventh
      obtain ⟨w4, e4, f4, t4⟩ := tp_blame (at' := sk β n p) (y := 3) t3 (by omega) (by decide) (by decide)
      rw [if_pos rfl] at t4
      refine Or.inr ⟨8 * sk β n p + 3, by omega, ?_, setI u2 m 3 (nI (8 * sk β n p + 3)), r31 _ ?_, R2.cf (Fr.sI ⟨rfl, by omega⟩) (by rw [hi_setI, if_pos ⟨rfl, rfl⟩])⟩
      · unfold FX2_scanOp
        refine Rn.okc C.2.1 (Rn.eq e2 (Rn.eq e3 (Rn.f (nI_nM (show l < 2 ^ 31 by omega)) ?_)))
        dsimp only
        rw [c0]
        refine Rn.t (nI_lt (b := 8) e8 (by decide)) (Rn.oki rfl e8 (by decide) ?_)
        rw [nI_clamp (by omega), c6, i66]
        exact Rn.f (by decide) (Rn.eq e4 (Rn.ret (C3.cf f4 t4)))
      · unfold FX9_readsOp_31
        exact E_t (by rw [i66]; rfl) (E_b (ref_fails r2.1 (y := 3)) (E_k nar0 rfl))
    · have i5 : i < 6 := by omega
      obtain ⟨w4, e4, f4, t4⟩ := tp_take hb (s := 12) (by decide) t3
      have T2' : TR (setI u2 m 2 (nI (sk β n p + 1))) m β n (sk β n p + 1) := r2.pl (by omega)
      have R3 := R2.st (Fr.sI ⟨rfl, Or.inl rfl⟩) T2'
      -- the end of the class's op, any value
      have fin85 : ∀ {w5 : HS} {pz fz : Nat} (v : Int32), Fr (P6 t) w3 w5 → TP w5 t β n pz fz → ∃ w6, FX2_scanOp_85 w5 o (nI l) (nI i) v = some ((), w6) ∧ Fr (Pop t o) w5 w6 ∧ TP w6 t β n pz fz ∧ hc w6 o = 2 ∧ hi w6 o 0 = nI e ∧ hi w6 o 4 = (if l = 0 then hi w3 o 4 else v) ∧ ha w6 o 6 = upd (ha w3 o 6) e (nI (i + 1)) ∧ ha w6 o 7 = (if l = 0 then upd (ha w3 o 7) e (nI (rEo op i + 1)) else ha w3 o 7) ∧ ha w6 o 8 = upd (ha w3 o 8) (6 * e + i) ((nI l * 2) + v) := by
        intro w5 pz fz v f5 t5
        have c05 : hi w5 o 0 = nI e := by rw [f5.i (by unfold P6; omega)]; exact c0
        have c5c : hc w5 o = 2 := by rw [f5.c]; exact C3.2.1
        have a6 : ha w5 o 6 = ha w3 o 6 := f5.ar (by unfold P6; omega)
        have a7 : ha w5 o 7 = ha w3 o 7 := f5.ar (by unfold P6; omega)
        have a8 : ha w5 o 8 = ha w3 o 8 := f5.ar (by unfold P6; omega)
        have a4 : hi w5 o 4 = hi w3 o 4 := f5.i (by unfold P6; omega)
        have ix6 : (nI e * (6 : Int32)) + nI i = nI (6 * e + i) := by rw [l6_, nI_mul, nI_add, Nat.mul_comm]
        obtain ⟨wa, hwa⟩ : ∃ wa, wa = setA w5 o 8 (6 * e + i) ((nI l * 2) + v) := ⟨_, rfl⟩
        obtain ⟨wb, hwb⟩ : ∃ wb, wb = setA wa o 6 e (nI (i + 1)) := ⟨_, rfl⟩
        have Fa : Fr (Pop t o) w5 wa := by rw [hwa]; exact Fr.sA (Or.inr ⟨rfl, by omega⟩)
        have Fb : Fr (Pop t o) wa wb := by rw [hwb]; exact Fr.sA (Or.inr ⟨rfl, by omega⟩)
        have Fo : Fr (fun b k => b = o ∧ (k = 6 ∨ k = 8)) w5 wb := by
          rw [hwb, hwa]
          exact (Fr.sA ⟨rfl, by omega⟩).trans (Fr.sA ⟨rfl, by omega⟩)
        have b0 : hi wb o 0 = nI e := by rw [Fo.i (by omega)]; exact c05
        have tb := t5.fr Fo (fun k z => ne z.1.symm)
        have hb6 : ha wb o 6 = upd (ha w3 o 6) e (nI (i + 1)) := by rw [hwb, ha_setA, if_pos ⟨rfl, rfl⟩, hwa, ha_setA, if_neg (by omega), a6]
        have hb7 : ha wb o 7 = ha w3 o 7 := by rw [Fo.ar (by omega), a7]
        have hb8 : ha wb o 8 = upd (ha w3 o 8) (6 * e + i) ((nI l * 2) + v) := by rw [hwb, ha_setA, if_neg (by omega), hwa, ha_setA, if_pos ⟨rfl, rfl⟩, a8]
        have head : ∀ z : Option (Unit × HS), (if nI l = 0 then (okb (inb (hi wb o 0) 8) (okb (inb (hi wb o 0) 8) (bnd (setA wb o 7 (hi wb o 0).toNatClampNeg ((ha wb o 7 (hi wb o 0).toNatClampNeg) + (1 : Int32))) fun w16 => (some ((), w16))))) else (bnd (setI wb o 4 v) fun w18 => (some ((), w18)))) = z → FX2_scanOp_85 w5 o (nI l) (nI i) v = z := by
          intro z hz
          unfold FX2_scanOp_85
          rw [c05, ix6]
          refine E_i rfl (by omega) (by decide) (E_d ?_)
          rw [nI_clamp (by omega), ← hwa]
          have : hi wa o 0 = nI e := by rw [hwa]; exact c05
          rw [this]
          refine E_i rfl e8 (by decide) (E_d ?_)
          rw [nI_clamp (by omega), nI_1, ← hwb]
          exact hz
        by_cases l0 : l = 0
        · refine ⟨setA wb o 7 e (nI (rEo op i + 1)), head _ ?_, (Fa.trans Fb).trans (Fr.sA (Or.inr ⟨rfl, by omega⟩)), tb.fr (Fr.sA (p := fun b k => b = o ∧ k = 7) ⟨rfl, rfl⟩) (fun k z => ne z.1.symm), ?_, b0, ?_, ?_, ?_, ?_⟩
          · refine E_t (by rw [l0]; rfl) ?_
            rw [b0, nI_clamp (by omega), hb7, C3.2.2.2.2.2.2.2.2.1, nI_1]
            exact E_i rfl e8 (by decide) (E_i rfl e8 (by decide) (E_d rfl))
          · show hc wb o = 2
            rw [Fo.c]; exact c5c
          · rw [if_pos l0]
            show hi wb o 4 = _
            rw [Fo.i (by omega)]; exact a4
          · rw [ha_setA, if_neg (by omega)]; exact hb6
          · rw [if_pos l0, ha_setA, if_pos ⟨rfl, rfl⟩, hb7]
          · rw [ha_setA, if_neg (by omega)]; exact hb8
        · refine ⟨setI wb o 4 v, head _ ?_, (Fa.trans Fb).trans (Fr.sI (Or.inr ⟨rfl, by omega⟩)), tb.fr (Fr.sI (p := fun b k => b = o ∧ k = 4) ⟨rfl, rfl⟩) (fun k z => ne z.1.symm), ?_, ?_, ?_, hb6, ?_, hb8⟩
          · exact E_f (nI_ne0 (by omega) (by omega)) (E_d rfl)
          · show hc wb o = 2
            rw [Fo.c]; exact c5c
          · rw [hi_setI, if_neg (by omega)]; exact b0
          · rw [if_neg l0, hi_setI, if_pos ⟨rfl, rfl⟩]
          · rw [if_neg l0]; exact hb7
      -- class head
      have clsh : ∀ {Q : Unit → HS → Prop}, Rn (if nI l = 0 then (if oI (tkP β n 12 (sk β n p + 1) 0).1 = (-1 : Int32) then (FX2_scanOp_85 w4 o (nI l) (nI i) (oI (tkP β n 12 (sk β n p + 1) 0).1)) else (if oI (tkP β n 12 (sk β n p + 1) 0).1 = (hi w4 o 4) then (FX2_scanOp_85 w4 o (nI l) (nI i) (oI (tkP β n 12 (sk β n p + 1) 0).1)) else ((FX6_blame w4 t (nI (sk β n p)) (4 : Int32)).bind fun q20 => (FX2_scanOp_85 q20.2 o (nI l) (nI i) (oI (tkP β n 12 (sk β n p + 1) 0).1))))) else (FX2_scanOp_85 w4 o (nI l) (nI i) (oI (tkP β n 12 (sk β n p + 1) 0).1))) Q → Rn (FX2_scanOp w o t) Q := by
        intro Q hQ
        unfold FX2_scanOp
        refine Rn.okc C.2.1 (Rn.eq e2 (Rn.eq e3 (Rn.f (nI_nM (show l < 2 ^ 31 by omega)) ?_)))
        dsimp only
        rw [c0]
        refine Rn.t (nI_lt (b := 8) e8 (by decide)) (Rn.oki rfl e8 (by decide) ?_)
        rw [nI_clamp (by omega), c6]
        exact Rn.t (nI_lt (b := 6) i5 (by decide)) (Rn.eq e4 hQ)
      have rh : ∀ z : Option (Int32 × HS), (FX9_readsDigit (setI u2 m 2 (nI (sk β n p + 1))) m 0).bind (fun q11 => (if q11.1 = 0 then (some ((0 : Int32), q11.2)) else (if nI (if l = 0 then 114 else 119) = (114 : Int32) then (if (hi q11.2 m 4) = (hi q11.2 m 13) then (FX9_readsOp_90 q11.2 m (nI e) (nI i) (nI (if l = 0 then 114 else 119))) else ((FX9_fails q11.2 m (4 : Int32) (nI (sk β n p))).bind fun q18 => (okb (vp_nar .boolean q18.1 == q18.1) (some (q18.1, q18.2))))) else (FX9_readsOp_90 q11.2 m (nI e) (nI i) (nI (if l = 0 then 114 else 119)))))) = z → FX9_readsOp u m (nI e) (nI i) = z := by
        intro z hz
        refine r31 _ ?_
        unfold FX9_readsOp_31
        refine E_f (fun q => i66 ((nI_eq (a := i) (b := 6) (by omega) (by decide)).mp q)) (E_d ?_)
        rw [r2.2.2.2.2.1, nI_1]
        exact hz
      rcases tr_digit0 hb T2' with ⟨d, pd, kd, d2, u3, x3, y3, z3, d3⟩ | ⟨f, pd, kd, fn, u3, x3, y3, d3⟩
      · rw [kd] at e4 t4 clsh
        have R4 := R3.st y3 z3
        have C4 := C3.tp f4 t4
        have so4 : hi w4 o 4 = oI (sEo op i so) := C4.2.2.2.2.2.1
        have u13 : hi u3 m 13 = oI (sEo op i so) := R4.2.2.2.2.1
        have oc := oI_lt hs d2
        by_cases hbad : l = 0 ∧ sEo op i so ≠ some d
        · -- told wrongly
          obtain ⟨w5, e5, f5, t5⟩ := tp_blame (at' := sk β n p) (y := 4) t4 (by omega) (by decide) (by decide)
          rw [if_pos rfl] at t5
          obtain ⟨w6, e6, f6, t6, c6', c7', _⟩ := fin85 (nI d) (f4.trans f5) t5
          refine Or.inr ⟨8 * sk β n p + 4, by omega, clsh ?_, setI u3 m 3 (nI (8 * sk β n p + 4)), rh _ ?_, R4.cf (Fr.sI ⟨rfl, by omega⟩) (by rw [hi_setI, if_pos ⟨rfl, rfl⟩])⟩
          · refine Rn.t (by rw [hbad.1]; rfl) (Rn.f (nI_nM (show d < 2 ^ 31 by omega)) (Rn.f ?_ (Rn.eq e5 (Rn.of e6 ⟨?_, c6', c7', _, t6⟩))))
            · rw [so4]
              exact fun q => hbad.2 (oc.mp q)
            · exact (C3.2.2.2.2.2.2.1.trans ((f4.trans f5).mono (fun b k z => Or.inl z))).trans f6
          · refine E_b x3 (E_f i10 (E_t (by rw [if_pos hbad.1]; rfl) (E_f ?_ (E_b (ref_fails z3.1 (y := 4)) (E_k nar0 rfl)))))
            dsimp only
            rw [d3, u13]
            exact fun q => hbad.2 (oc.mp q)
        · -- an op
          obtain ⟨w6, e6, f6, t6, g1, g2', g3, g4, g5, g6⟩ := fin85 (nI d) f4 t4
          have hok : l = 0 → sEo op i so = some d := fun q => by
            by_cases h : sEo op i so = some d
            · exact h
            · exact absurd ⟨q, h⟩ hbad
          have cval : (nI l * 2) + nI d = nI (2 * l + d) := by rw [l2_, nI_mul, nI_add, Nat.mul_comm]
          obtain ⟨ag1, ag2⟩ := sEo_c (op := opu op i (2 * l + d)) (op' := op) (k := i) (o := so) (fun j hj => if_neg (by omega))
          have oi : opu op i (2 * l + d) i = 2 * l + d := if_pos rfl
          have snd : sEo (opu op i (2 * l + d)) (i + 1) so = if l = 0 then sEo op i so else some d := by
            show (if opu op i (2 * l + d) i < 2 then sEo (opu op i (2 * l + d)) i so else some (opu op i (2 * l + d) i - 2)) = _
            rw [oi, ag1]
            by_cases l0 : l = 0
            · rw [if_pos (by omega), if_pos l0]
            · rw [if_neg (by omega), if_neg l0, show 2 * l + d - 2 = d from by omega]
          have rd : rEo (opu op i (2 * l + d)) (i + 1) = rEo op i + if l = 0 then 1 else 0 := by
            show rEo (opu op i (2 * l + d)) i + (if opu op i (2 * l + d) i < 2 then 1 else 0) = _
            rw [oi, ag2]
            by_cases l0 : l = 0
            · rw [if_pos (by omega), if_pos l0]
            · rw [if_neg (by omega), if_neg l0]
          obtain ⟨q1, q2, q3, q4, q5, q6, q7, q8, q9, q10, q11, q12⟩ := id C3
          have OCn : OC w1 w6 t o e (i + 1) β n pd so (opu op i (2 * l + d)) := by
            refine ⟨t6, g1, g2', e8, by omega, ?_, (q7.trans (f4.mono (fun b k z => Or.inl z))).trans f6, ?_, ?_, ?_, ?_, ?_⟩
            · rw [g3, snd, q6]
              by_cases l0 : l = 0
              · rw [if_pos l0, if_pos l0]
              · rw [if_neg l0, if_neg l0]; rfl
            · rw [g4, upd_s]
            · rw [g5, rd]
              by_cases l0 : l = 0
              · rw [if_pos l0, if_pos l0, upd_s]
              · rw [if_neg l0, if_neg l0, q9]; rfl
            · intro k hk
              rw [g6, cval]
              by_cases ek : k = i
              · subst ek; rw [upd_s, oi]
              · rw [upd_n (by omega), show opu op i (2 * l + d) k = op k from if_neg ek]
                exact q10 k (by omega)
            · intro j hj
              rw [g4, upd_n hj]
              refine ⟨(q11 j hj).1, ?_⟩
              rw [g5]
              by_cases l0 : l = 0
              · rw [if_pos l0, upd_n hj]; exact (q11 j hj).2
              · rw [if_neg l0]; exact (q11 j hj).2
            · intro j hj
              rw [g6, upd_n (by omega)]
              exact q12 j hj
          refine Or.inl ⟨i5, pd, 2 * l + d, by omega, fun q => by rw [hok (by omega), show 2 * l + d = d from by omega], clsh ?_, ?_⟩
          · by_cases l0 : l = 0
            · refine Rn.t (by rw [l0]; rfl) (Rn.f (nI_nM (show d < 2 ^ 31 by omega)) (Rn.t ?_ (Rn.of e6 OCn)))
              rw [so4]
              exact oc.mpr (hok l0)
            · exact Rn.f (nI_ne0 (by omega) (by omega)) (Rn.of e6 OCn)
          · -- reference
            obtain ⟨p1, p2, p3, p4, p5, p6, p7, p8⟩ := id R4
            have ixr8 : ((((64 : Int32) * nI mn) + ((8 : Int32) * nI e)) + (2 : Int32)) + nI i = nI (64 * mn + 8 * e + 2 + i) := by
              rw [show (64 : Int32) = nI 64 from rfl, l8_, l2_, nI_mul, nI_mul, nI_add, nI_add, nI_add]
            have r108 : ∀ s0 : Int32, s0 = oI (if l = 0 then sEo op i so else some d) → ∃ u6, FX9_readsOp_108 u3 m (nI e) (nI i) (nI (if l = 0 then 114 else 119)) s0 m = some (1, u6) ∧ OR u1 u6 m mn e (i + 1) β n pd so (opu op i (2 * l + d)) := by
              intro s0 hs0
              obtain ⟨ua, hua⟩ : ∃ ua, ua = setI u3 m 13 s0 := ⟨_, rfl⟩
              have fa : Fr (fun b k => b = m ∧ k = 13) u3 ua := by rw [hua]; exact Fr.sI ⟨rfl, rfl⟩
              have a11 : hi ua m 11 = nI mn := by rw [fa.i (by omega)]; exact p2
              have a4 : hi ua m 4 = nI d := by rw [fa.i (by omega)]; exact d3
              have a8 : ha ua m 8 = ha u3 m 8 := fa.ar (by omega)
              have val : (if l = 0 then (0 : Int32) else 2) + nI d = nI (2 * l + d) := by
                have : l = 0 ∨ l = 1 := by omega
                rcases this with q | q <;> subst q
                · rw [if_pos rfl, l0_, nI_add]
                · rw [if_neg (by decide), l2_, nI_add]
              refine ⟨setA ua m 8 (64 * mn + 8 * e + 2 + i) (nI (2 * l + d)), ?_, ?_⟩
              · unfold FX9_readsOp_108
                refine E_c p1.1 (E_d ?_)
                rw [← hua, a11, ixr8, nI_clamp (by omega), a4]
                by_cases l0 : l = 0
                · rw [if_pos l0] at val
                  rw [if_pos l0]
                  refine E_f (by decide) (E_i rfl (by omega) (by decide) (E_d ?_))
                  rw [val]
                · rw [if_neg l0] at val
                  rw [if_neg l0]
                  refine E_t rfl (E_i rfl (by omega) (by decide) (E_d ?_))
                  rw [val]
              · refine ⟨?_, a11, p3, p4, ?_, (p6.trans (fa.mono (fun b k z => by unfold Pro; omega))).trans (Fr.sA ⟨rfl, by omega⟩), ?_, ?_⟩
                · exact (p1.fr fa (by omega) (by omega) (by omega)).fr (Fr.sA (p := fun b k => b = m ∧ k = 8) ⟨rfl, rfl⟩) (by omega) (by omega) (by omega)
                · show hi ua m 13 = _
                  rw [hua, hi_setI, if_pos ⟨rfl, rfl⟩, hs0, snd]
                · intro k hk
                  rw [ha_setA, if_pos ⟨rfl, rfl⟩, a8]
                  by_cases ek : k = i
                  · subst ek; rw [upd_s, oi]
                  · rw [upd_n (by omega), show opu op i (2 * l + d) k = op k from if_neg ek]
                    exact p7 k (by omega)
                · intro j hj
                  rw [ha_setA, if_pos ⟨rfl, rfl⟩, upd_n (by omega), a8]
                  exact p8 j hj
            have r90 : ∃ u6, FX9_readsOp_90 u3 m (nI e) (nI i) (nI (if l = 0 then 114 else 119)) = some (1, u6) ∧ OR u1 u6 m mn e (i + 1) β n pd so (opu op i (2 * l + d)) := by
              unfold FX9_readsOp_90
              rw [d3, u13]
              by_cases l0 : l = 0
              · obtain ⟨u6, z1, z2⟩ := r108 (oI (sEo op i so)) (by rw [if_pos l0])
                exact ⟨u6, E_f (by rw [if_pos l0]; decide) z1, z2⟩
              · obtain ⟨u6, z1, z2⟩ := r108 (nI d) (by rw [if_neg l0]; rfl)
                exact ⟨u6, E_t (by rw [if_neg l0]; rfl) z1, z2⟩
            obtain ⟨u6, z1, z2⟩ := r90
            refine ⟨u6, rh _ (E_b x3 (E_f i10 ?_)), z2⟩
            dsimp only
            by_cases l0 : l = 0
            · refine E_t (by rw [if_pos l0]; rfl) (E_t ?_ z1)
              rw [d3, u13]
              exact oc.mpr (hok l0)
            · exact E_f (by rw [if_neg l0]; decide) z1
      · rw [kd] at e4 t4 clsh
        obtain ⟨w6, e6, f6, t6, c6', c7', _⟩ := fin85 (-1) f4 t4
        have ofn : OF w1 w6 t o e β n f := ⟨(C3.2.2.2.2.2.2.1.trans (f4.mono (fun b k z => Or.inl z))).trans f6, c6', c7', _, t6⟩
        refine Or.inr ⟨f, fn, clsh ?_, u3, rh _ (E_b x3 (E_t rfl rfl)), R3.cf y3 d3⟩
        by_cases l0 : l = 0
        · exact Rn.t (by rw [l0]; rfl) (Rn.t rfl (Rn.of e6 ofn))
        · exact Rn.f (nI_ne0 (by omega) (by omega)) (Rn.of e6 ofn)
  · -- no letter
    have tk : tkP β n 11 p 0 = (none, sk β n p, 8 * sk β n p + 1) := tk_n (by
      by_cases hn : sk β n p < n
      · right
        rw [x, if_neg (show ¬ β (sk β n p) = 114 from fun z => hL ⟨hn, 0, by decide, z⟩), if_neg (show ¬ β (sk β n p) = 119 from fun z => hL ⟨hn, 1, by decide, z⟩)]
      · exact Or.inl hn)
    rw [tk] at e3 t3
    refine Or.inr ⟨8 * sk β n p + 1, by omega, ?_, setI u2 m 3 (nI (8 * sk β n p + 1)), ?_, R2.cf (Fr.sI ⟨rfl, by omega⟩) (by rw [hi_setI, if_pos ⟨rfl, rfl⟩])⟩
    · unfold FX2_scanOp
      exact Rn.okc C.2.1 (Rn.eq e2 (Rn.eq e3 (Rn.t rfl (Rn.ret (C2.cf f3 t3)))))
    · unfold FX9_readsOp
      refine E_c R.1.1 (E_b g2 (E_f (fun q => ?_) (E_f (fun q => ?_) ?_)))
      · have := (beq 114 (by decide)).mp q
        exact hL ⟨this.1, 0, by decide, this.2⟩
      · have := (beq 119 (by decide)).mp q
        exact hL ⟨this.1, 1, by decide, this.2⟩
      · dsimp only
        rw [r2.2.2.2.2.1]
        exact E_b (ref_fails r2.1 (y := 1)) (E_k nar0 rfl)
end OPs
