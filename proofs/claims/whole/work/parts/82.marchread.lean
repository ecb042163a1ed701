/-! An element, a march, read by both. -/
def eM (M : Mch) (e v c : Nat) (op : Nat → Nat) : Mch := (M.1, fun x => if x = e then v else mW M x, fun x => if x = e then c else mC M x, fun x => if x = e then op else mO M x)
section EMs
variable {M : Mch} {e v c : Nat} {op : Nat → Nat}
theorem eM_W (x : Nat) : mW (eM M e v c op) x = if x = e then v else mW M x := rfl
theorem eM_C (x : Nat) : mC (eM M e v c op) x = if x = e then c else mC M x := rfl
theorem eM_O (x : Nat) : mO (eM M e v c op) x = if x = e then op else mO M x := rfl
theorem sE_o (M : Mch) (x : Nat) : ∀ k o, sE M x k o = sEo (mO M x) k o ∧ rE M x k = rEo (mO M x) k := by
  intro k
  induction k with
  | zero => intro o; exact ⟨rfl, rfl⟩
  | succ k ih =>
    intro o
    unfold sE sEo rE rEo
    rw [(ih o).1, (ih o).2]
    exact ⟨rfl, rfl⟩
theorem eM_n {x : Nat} (h : x ≠ e) : mW (eM M e v c op) x = mW M x ∧ mC (eM M e v c op) x = mC M x ∧ mO (eM M e v c op) x = mO M x := ⟨if_neg h, if_neg h, if_neg h⟩
theorem eM_sE {x : Nat} (h : x ≠ e) (k : Nat) (o : Option Nat) : sE (eM M e v c op) x k o = sE M x k o ∧ rE (eM M e v c op) x k = rE M x k := by
  rw [(sE_o _ x k o).1, (sE_o M x k o).1, (sE_o _ x k o).2, (sE_o M x k o).2, (eM_n h).2.2]
  exact ⟨rfl, rfl⟩
theorem eM_rd {x : Nat} (h : x ≠ e) : rdE (eM M e v c op) x = rdE M x := by
  unfold rdE
  rw [(eM_n h).2.1, (eM_sE h _ none).2]
theorem eM_s : sE (eM M e v c op) e = fun k o => sEo op k o := by
  funext k o
  rw [(sE_o _ e k o).1, eM_O, if_pos rfl]
theorem eM_rs : rdE (eM M e v c op) e = rEo op c := by
  unfold rdE
  rw [(sE_o _ e _ none).2, eM_O, if_pos rfl, eM_C, if_pos rfl]
def tO (M : Mch) : Nat → Nat
  | 0 => 0
  | x + 1 => tO M x + mC M x
def tR (M : Mch) : Nat → Nat
  | 0 => 0
  | x + 1 => tR M x + rdE M x
theorem eM_b : ∀ {x : Nat}, x ≤ e → sM (eM M e v c op) x = sM M x ∧ aM (eM M e v c op) x = aM M x ∧ tO (eM M e v c op) x = tO M x ∧ tR (eM M e v c op) x = tR M x := by
  intro x
  induction x with
  | zero => intro _; exact ⟨rfl, rfl, rfl, rfl⟩
  | succ x ih =>
    intro h
    obtain ⟨i1, i2, i3, i4⟩ := ih (by omega)
    obtain ⟨n1, n2, n3⟩ := eM_n (M := M) (e := e) (v := v) (c := c) (op := op) (x := x) (by omega)
    refine ⟨?_, ?_, ?_, ?_⟩
    · show sE _ x (mC _ x) (sM _ x) = sE M x (mC M x) (sM M x)
      rw [n2, i1, (eM_sE (by omega) _ _).1]
    · show aM _ x + (if mW _ x = 2 then 1 else 0) = aM M x + _
      rw [i2, n1]
    · show tO _ x + mC _ x = tO M x + mC M x
      rw [i3, n2]
    · show tR _ x + rdE _ x = tR M x + rdE M x
      rw [i4, eM_rd (by omega)]
theorem eM_e1 : sM (eM M e v c op) (e + 1) = sEo op c (sM M e) ∧ aM (eM M e v c op) (e + 1) = aM M e + (if v = 2 then 1 else 0) ∧ tO (eM M e v c op) (e + 1) = tO M e + c ∧ tR (eM M e v c op) (e + 1) = tR M e + rEo op c := by
  obtain ⟨i1, i2, i3, i4⟩ := eM_b (M := M) (e := e) (v := v) (c := c) (op := op) (x := e) (Nat.le_refl _)
  refine ⟨?_, ?_, ?_, ?_⟩
  · show sE _ e (mC _ e) (sM _ e) = _
    rw [i1, eM_s, eM_C, if_pos rfl]
  · show aM _ e + (if mW _ e = 2 then 1 else 0) = _
    rw [i2, eM_W, if_pos rfl]
  · show tO _ e + mC _ e = _
    rw [i3, eM_C, if_pos rfl]
  · show tR _ e + rdE _ e = _
    rw [i4, eM_rs]
end EMs
/-- e elements are well told -/
def WMi (M : Mch) (e : Nat) : Prop := e ≤ 8 ∧ aM M e ≤ 3 ∧ ∀ x, x < e → mW M x < 3 ∧ 0 < mC M x ∧ mC M x ≤ 6 ∧ ∀ k, k < mC M x → mO M x k < 4 ∧ (mO M x k < 2 → sE M x k (sM M x) = some (mO M x k))
theorem WMi.s2 {M : Mch} : ∀ {e : Nat}, WMi M e → ∀ z, sM M e = some z → z < 2 := by
  intro e
  induction e with
  | zero => intro _ z hz; cases hz
  | succ e ih =>
    intro h z hz
    have W := h.2.2 e (by omega)
    have h' : WMi M e := ⟨by have := h.1; omega, by have := h.2.1; have : aM M (e + 1) = aM M e + _ := rfl; omega, fun x hx => h.2.2 x (by omega)⟩
    have hz' : sE M e (mC M e) (sM M e) = some z := hz
    rw [(sE_o M e _ _).1] at hz'
    exact VO.s2 (ih h') (c := mC M e) (fun k hk => ⟨(W.2.2.2 k hk).1, fun q => by rw [← (sE_o M e _ _).1]; exact (W.2.2.2 k hk).2 q⟩) z hz'
def Pm (t o : Nat) : Nat → Nat → Prop := fun b k => (b = t ∧ (k = 2 ∨ k = 3)) ∨ b = o
/-- class: e elements of march o are read -/
def MC (w0 w : HS) (t o e : Nat) (β : Nat → Nat) (n p : Nat) (M : Mch) : Prop := TP w t β n p 0 ∧ hc w o = 2 ∧ hi w o 0 = nI e ∧ hi w o 1 = nI (tO M e) ∧ hi w o 2 = nI (tR M e) ∧ hi w o 3 = nI (aM M e) ∧ hi w o 4 = oI (sM M e) ∧ Fr (Pm t o) w0 w ∧ (∀ x, x < e → ha w o 5 x = nI (wyC M x) ∧ ha w o 6 x = nI (mC M x) ∧ ha w o 7 x = nI (rdE M x) ∧ ∀ k, k < mC M x → ha w o 8 (6 * x + k) = nI (mO M x k)) ∧ ∀ x, e ≤ x → x < 8 → ha w o 6 x = 0 ∧ ha w o 7 x = 0
def MF (w0 w : HS) (t o : Nat) (β : Nat → Nat) (n f : Nat) : Prop := Fr (Pm t o) w0 w ∧ hc w o = 2 ∧ (∃ e, e ≤ 8 ∧ hi w o 0 = nI e) ∧ ∃ p, TP w t β n p f
def Prm (m : Nat) : Nat → Nat → Prop := fun b k => b = m ∧ (k = 2 ∨ k = 3 ∨ k = 4 ∨ k = 8 ∨ k = 13 ∨ k = 14)
/-- reference: e elements of march mn are read -/
def MR (u0 u : HS) (m mn e : Nat) (β : Nat → Nat) (n p : Nat) (M : Mch) : Prop := TR u m β n p ∧ hi u m 11 = nI mn ∧ mn < 6 ∧ hi u m 13 = oI (sM M e) ∧ hi u m 14 = nI (aM M e) ∧ ha u m 12 = wrd9 ∧ Fr (Prm m) u0 u ∧ (∀ x, x < e → ha u m 8 (64 * mn + 8 * x) = nI (mW M x) ∧ ha u m 8 (64 * mn + 8 * x + 1) = nI (mC M x) ∧ ∀ k, k < mC M x → ha u m 8 (64 * mn + 8 * x + 2 + k) = nI (mO M x k)) ∧ ∀ j, ¬ (64 * mn ≤ j ∧ j < 64 * mn + 64) → ha u m 8 j = ha u0 m 8 j
def MRf (u0 u : HS) (m mn f : Nat) : Prop := hi u m 3 = nI f ∧ Fr (Prm m) u0 u ∧ ∀ j, ¬ (64 * mn ≤ j ∧ j < 64 * mn + 64) → ha u m 8 j = ha u0 m 8 j
section EL
variable {w0 w u0 u : HS} {t o m mn e n p : Nat} {β : Nat → Nat} {M : Mch}
theorem MC.tp (h : MC w0 w t o e β n p M) {w' : HS} {p' : Nat} (f : Fr (P6 t) w w') (T : TP w' t β n p' 0) : MC w0 w' t o e β n p' M := by
  have ne : o ≠ t := by
    intro q
    have := h.1.1
    rw [← q, h.2.1] at this
    cases this
  obtain ⟨h1, h2, h3, h4, h5, h6, h7, h8, h9, h10⟩ := h
  refine ⟨T, by rw [f.c]; exact h2, by rw [f.i (by unfold P6; omega)]; exact h3, by rw [f.i (by unfold P6; omega)]; exact h4, by rw [f.i (by unfold P6; omega)]; exact h5, by rw [f.i (by unfold P6; omega)]; exact h6, by rw [f.i (by unfold P6; omega)]; exact h7, h8.trans (f.mono (fun b k z => Or.inl z)), ?_, ?_⟩
  · rw [f.ar (by unfold P6; omega), f.ar (by unfold P6; omega), f.ar (by unfold P6; omega), f.ar (by unfold P6; omega)]
    exact h9
  · rw [f.ar (by unfold P6; omega), f.ar (by unfold P6; omega)]
    exact h10
theorem MC.cf (h : MC w0 w t o e β n p M) (he : e ≤ 8) {w' : HS} {p' f' : Nat} (f : Fr (P6 t) w w') (T : TP w' t β n p' f') : MF w0 w' t o β n f' := by
  have ne : o ≠ t := by
    intro q
    have := h.1.1
    rw [← q, h.2.1] at this
    cases this
  obtain ⟨h1, h2, h3, h4, h5, h6, h7, h8, h9, h10⟩ := h
  exact ⟨h8.trans (f.mono (fun b k z => Or.inl z)), by rw [f.c]; exact h2, ⟨e, he, by rw [f.i (by unfold P6; omega)]; exact h3⟩, p', T⟩
theorem MR.st (h : MR u0 u m mn e β n p M) {u' : HS} {p' : Nat} (f : Fr (Pfw m) u u') (T : TR u' m β n p') : MR u0 u' m mn e β n p' M := by
  obtain ⟨h1, h2, h3, h4, h5, h6, h7, h8, h9⟩ := h
  refine ⟨T, by rw [f.i (by unfold Pfw; omega)]; exact h2, h3, by rw [f.i (by unfold Pfw; omega)]; exact h4, by rw [f.i (by unfold Pfw; omega)]; exact h5, by rw [f.ar (by unfold Pfw; omega)]; exact h6, h7.trans (f.mono (fun b k z => by unfold Pfw at z; unfold Prm; omega)), ?_, ?_⟩
  · rw [f.ar (by unfold Pfw; omega)]; exact h8
  · rw [f.ar (by unfold Pfw; omega)]; exact h9
theorem MR.cf (h : MR u0 u m mn e β n p M) {u' : HS} {f' : Nat} (f : Fr (Pfw m) u u') (T : hi u' m 3 = nI f') : MRf u0 u' m mn f' := by
  obtain ⟨h1, h2, h3, h4, h5, h6, h7, h8, h9⟩ := h
  refine ⟨T, h7.trans (f.mono (fun b k z => by unfold Pfw at z; unfold Prm; omega)), ?_⟩
  rw [f.ar (by unfold Pfw; omega)]; exact h9
/-- class: an element's end -/
theorem el_137 {w5 : HS} (hc5 : hc w5 o = 2) (h0 : hi w5 o 0 = nI e) (e8 : e < 8) : ∃ w', FX2_scanElement_137 w5 o = some ((), w') ∧ Fr (fun b k => b = o ∧ k ≤ 2) w5 w' ∧ hi w' o 0 = nI (e + 1) ∧ hi w' o 1 = hi w5 o 1 + ha w5 o 6 e ∧ hi w' o 2 = hi w5 o 2 + ha w5 o 7 e := by
  obtain ⟨wa, hwa⟩ : ∃ wa, wa = setI w5 o 1 (hi w5 o 1 + ha w5 o 6 e) := ⟨_, rfl⟩
  obtain ⟨wb, hwb⟩ : ∃ wb, wb = setI wa o 2 (hi wa o 2 + ha wa o 7 e) := ⟨_, rfl⟩
  have a0 : hi wa o 0 = nI e := by rw [hwa, hi_setI, if_neg (by omega)]; exact h0
  have b0 : hi wb o 0 = nI e := by rw [hwb, hi_setI, if_neg (by omega)]; exact a0
  refine ⟨setI wb o 0 (nI (e + 1)), ?_, ?_, by rw [hi_setI, if_pos ⟨rfl, rfl⟩], ?_, ?_⟩
  · unfold FX2_scanElement_137
    rw [h0]
    refine E_i rfl e8 (by decide) (E_d ?_)
    rw [nI_clamp (by omega), ← hwa, a0]
    refine E_i rfl e8 (by decide) (E_d ?_)
    rw [nI_clamp (by omega), ← hwb]
    refine E_d ?_
    rw [b0, nI_1]
  · rw [hwb, hwa]
    exact ((Fr.sI ⟨rfl, by omega⟩).trans (Fr.sI ⟨rfl, by omega⟩)).trans (Fr.sI ⟨rfl, by omega⟩)
  · rw [hi_setI, if_neg (by omega), hwb, hi_setI, if_neg (by omega), hwa, hi_setI, if_pos ⟨rfl, rfl⟩]
  · rw [hi_setI, if_neg (by omega), hwb, hi_setI, if_pos ⟨rfl, rfl⟩, hwa, hi_setI, if_neg (by omega)]
    rfl
end EL
