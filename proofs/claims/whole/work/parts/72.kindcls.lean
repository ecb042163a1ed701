/-! Class: a rule's body. -/
def Pb (t o : Nat) : Nat → Nat → Prop := fun b k => (b = t ∧ (k = 2 ∨ k = 3)) ∨ (b = o ∧ 2 ≤ k ∧ k ≤ 6)
/-- class: rule i of kind o is being read -/
def BT (w0 w : HS) (t o i : Nat) (β : Nat → Nat) (n p f : Nat) (row : Nat → Int32) : Prop := TP w t β n p f ∧ hc w o = 1 ∧ hi w o 0 = nI i ∧ i < 4 ∧ Fr (Pb t o) w0 w ∧ (∀ k, 2 ≤ k → k ≤ 6 → ha w o k i = row k) ∧ ∀ k, 2 ≤ k → k ≤ 6 → ∀ j, j ≠ i → ha w o k j = ha w0 o k j
section BTs
variable {w0 w : HS} {t o i n p f : Nat} {β : Nat → Nat} {row : Nat → Int32}
theorem BT.ne (h : BT w0 w t o i β n p f row) : o ≠ t := by
  intro e
  have := h.1.1
  rw [← e, h.2.1] at this
  cases this
theorem bt_take (hb : ∀ i, β i < 256) (h : BT w0 w t o i β n p f row) {s : Nat} (hs : s < 15) : ∃ w', FX6_take w t s = some (oI (tkP β n s p f).1, w') ∧ BT w0 w' t o i β n (tkP β n s p f).2.1 (tkP β n s p f).2.2 row := by
  obtain ⟨h1, h2, h3, h4, h5, h6, h7⟩ := id h
  have ne := h.ne
  obtain ⟨w', e1, f1, t1⟩ := tp_take hb hs h1
  refine ⟨w', e1, t1, by rw [f1.c]; exact h2, by rw [f1.i (by unfold P6; omega)]; exact h3, h4, h5.trans (f1.mono (fun b k z => Or.inl z)), fun k k1 k2 => by rw [f1.ar (by unfold P6; omega)]; exact h6 k k1 k2, fun k k1 k2 j hj => by rw [f1.ar (by unfold P6; omega)]; exact h7 k k1 k2 j hj⟩
theorem bt_store (h : BT w0 w t o i β n p f row) {k : Nat} {v : Int32} (k1 : 2 ≤ k) (k2 : k ≤ 6) : BT w0 (setA w o k i v) t o i β n p f (upd row k v) := by
  obtain ⟨h1, h2, h3, h4, h5, h6, h7⟩ := id h
  have ne := h.ne
  refine ⟨h1.fr (Fr.sA (p := fun b z => b = o ∧ z = k) ⟨rfl, rfl⟩) (fun z q => ne q.1.symm), h2, h3, h4, h5.trans (Fr.sA (Or.inr ⟨rfl, k1, k2⟩)), fun z z1 z2 => ?_, fun z z1 z2 j hj => ?_⟩
  · rw [ha_setA]
    by_cases e : z = k
    · subst e
      rw [if_pos ⟨rfl, rfl⟩, upd_s, upd_s]
    · rw [if_neg (fun q => e q.2), upd_n e]
      exact h6 z z1 z2
  · rw [ha_setA]
    by_cases e : z = k
    · subst e
      rw [if_pos ⟨rfl, rfl⟩, upd_n hj]
      exact h7 z z1 z2 j hj
    · rw [if_neg (fun q => e q.2)]
      exact h7 z z1 z2 j hj
/-- the end of a body that tells what v becomes, with what a read tells if it is one of v -/
def endC (β : Nat → Nat) (n l : Nat) (rd : Bool) (p f : Nat) (row : Nat → Int32) : Nat × Nat × (Nat → Int32) :=
  if rd = true ∧ l = 0 then
    ((tkP β n 1 (tkP β n 5 (tkP β n (if l = 1 then 4 else 1) (tkP β n 3 p f).2.1 (tkP β n 3 p f).2.2).2.1 (tkP β n (if l = 1 then 4 else 1) (tkP β n 3 p f).2.1 (tkP β n 3 p f).2.2).2.2).2.1 (tkP β n 5 (tkP β n (if l = 1 then 4 else 1) (tkP β n 3 p f).2.1 (tkP β n 3 p f).2.2).2.1 (tkP β n (if l = 1 then 4 else 1) (tkP β n 3 p f).2.1 (tkP β n 3 p f).2.2).2.2).2.2).2.1,
     (tkP β n 1 (tkP β n 5 (tkP β n (if l = 1 then 4 else 1) (tkP β n 3 p f).2.1 (tkP β n 3 p f).2.2).2.1 (tkP β n (if l = 1 then 4 else 1) (tkP β n 3 p f).2.1 (tkP β n 3 p f).2.2).2.2).2.1 (tkP β n 5 (tkP β n (if l = 1 then 4 else 1) (tkP β n 3 p f).2.1 (tkP β n 3 p f).2.2).2.1 (tkP β n (if l = 1 then 4 else 1) (tkP β n 3 p f).2.1 (tkP β n 3 p f).2.2).2.2).2.2).2.2,
     upd (upd row 5 (oI (tkP β n (if l = 1 then 4 else 1) (tkP β n 3 p f).2.1 (tkP β n 3 p f).2.2).1)) 6 (oI (tkP β n 1 (tkP β n 5 (tkP β n (if l = 1 then 4 else 1) (tkP β n 3 p f).2.1 (tkP β n 3 p f).2.2).2.1 (tkP β n (if l = 1 then 4 else 1) (tkP β n 3 p f).2.1 (tkP β n 3 p f).2.2).2.2).2.1 (tkP β n 5 (tkP β n (if l = 1 then 4 else 1) (tkP β n 3 p f).2.1 (tkP β n 3 p f).2.2).2.1 (tkP β n (if l = 1 then 4 else 1) (tkP β n 3 p f).2.1 (tkP β n 3 p f).2.2).2.2).2.2).1))
  else ((tkP β n (if l = 1 then 4 else 1) (tkP β n 3 p f).2.1 (tkP β n 3 p f).2.2).2.1, (tkP β n (if l = 1 then 4 else 1) (tkP β n 3 p f).2.1 (tkP β n 3 p f).2.2).2.2, upd row 5 (oI (tkP β n (if l = 1 then 4 else 1) (tkP β n 3 p f).2.1 (tkP β n 3 p f).2.2).1))
theorem cls_112 (hb : ∀ i, β i < 256) (h : BT w0 w t o i β n p f row) {l : Nat} (hl : l < 7) (rd : Bool) : Rn (FX1_scanBody_112 w o t (nI l) (if rd = true then 1 else 0)) (fun _ w' => BT w0 w' t o i β n (endC β n l rd p f row).1 (endC β n l rd p f row).2.1 (endC β n l rd p f row).2.2) := by
  obtain ⟨w1, e1, B1⟩ := bt_take hb h (s := 3) (by decide)
  have h4 := h.2.2.2.1
  have c140 : ∀ s, s < 15 → s = (if l = 1 then 4 else 1) → Rn (FX1_scanBody_140 w1 o t (nI l) (if rd = true then 1 else 0) s t (nI i) o) (fun _ w' => BT w0 w' t o i β n (endC β n l rd p f row).1 (endC β n l rd p f row).2.1 (endC β n l rd p f row).2.2) := by
    intro s hs es
    obtain ⟨w2, e2, B2⟩ := bt_take hb B1 hs
    unfold FX1_scanBody_140
    refine Rn.eq e2 (Rn.okc B2.2.1 (Rn.oki rfl h4 (by decide) (Rn.bd ?_)))
    dsimp only
    rw [nI_clamp (by omega)]
    have B3 := bt_store (k := 5) (v := oI (tkP β n s (tkP β n 3 p f).2.1 (tkP β n 3 p f).2.2).1) B2 (by decide) (by decide)
    rw [es] at B3 ⊢
    by_cases c : rd = true ∧ l = 0
    · have eE : endC β n l rd p f row = _ := if_pos c
      rw [eE]
      obtain ⟨w4, e4, B4⟩ := bt_take hb B3 (s := 5) (by decide)
      obtain ⟨w5, e5, B5⟩ := bt_take hb B4 (s := 1) (by decide)
      refine Rn.f (by rw [c.1]; decide) (Rn.t (by rw [c.2]; rfl) (Rn.eq e4 (Rn.eq e5 ?_)))
      dsimp only
      rw [B4.2.2.1]
      refine Rn.oki rfl h4 (by decide) (Rn.bd (Rn.ret ?_))
      rw [nI_clamp (by omega)]
      exact bt_store B5 (by decide) (by decide)
    · have eE : endC β n l rd p f row = _ := if_neg c
      rw [eE]
      cases rd with
      | false => exact Rn.t rfl (Rn.ret B3)
      | true =>
        have l0 : ¬ l = 0 := fun q => c ⟨rfl, q⟩
        exact Rn.f (by decide) (Rn.f (nI_ne0 (by omega) (by omega)) (Rn.ret B3))
  unfold FX1_scanBody_112
  refine Rn.eq e1 ?_
  dsimp only
  rw [B1.2.2.1]
  by_cases l1 : l = 1
  · exact Rn.t (by rw [l1]; rfl) (c140 4 (by decide) (by rw [if_pos l1]))
  · exact Rn.f (fun q => l1 ((nI_eq (a := l) (b := 1) (by omega) (by decide)).mp q)) (c140 1 (by decide) (by rw [if_neg l1]))
/-- a rule of v or a, behind its first digit -/
def midC (β : Nat → Nat) (n l p f : Nat) (row : Nat → Int32) : Nat × Nat × (Nat → Int32) :=
  if (tkP β n 2 p f).1 = some 1 then endC β n l true (tkP β n 2 p f).2.1 (tkP β n 2 p f).2.2 (upd row 2 (if l = 0 then 7 else 8))
  else endC β n l false (tkP β n 1 (tkP β n 2 p f).2.1 (tkP β n 2 p f).2.2).2.1 (tkP β n 1 (tkP β n 2 p f).2.1 (tkP β n 2 p f).2.2).2.2 (upd row 4 (oI (tkP β n 1 (tkP β n 2 p f).2.1 (tkP β n 2 p f).2.2).1))
theorem tk1_lt {s j : Nat} (h : (tkP β n s p f).1 = some j) : j < (sgL s).length := by
  unfold tkP at h
  split at h
  · split at h
    · cases e : ixL s (β (sk β n p)) with
      | none => rw [e] at h; cases h
      | some z =>
        rw [e] at h
        cases h
        exact (ixL_lt e).1
    · cases h
  · cases h
theorem oI_1 {o : Option Nat} {c : Nat} (h : ∀ z, o = some z → z < 2 ^ 31) (hc : c < 2 ^ 31) : oI o = nI c ↔ o = some c := by
  cases o with
  | none => exact ⟨fun q => absurd q.symm (nI_nM hc), fun q => by cases q⟩
  | some z => exact ⟨fun q => by rw [(nI_eq (h z rfl) hc).mp q], fun q => by cases q; rfl⟩
theorem cls_48 (hb : ∀ i, β i < 256) (h : BT w0 w t o i β n p f row) {l : Nat} (hl : l < 2) : Rn (FX1_scanBody_48 w o t (nI l) 1 0) (fun _ w' => BT w0 w' t o i β n (midC β n l p f row).1 (midC β n l p f row).2.1 (midC β n l p f row).2.2) := by
  have h4 := h.2.2.2.1
  obtain ⟨w1, e1, B1⟩ := bt_take hb h (s := 2) (by decide)
  have lt2 : ∀ z, (tkP β n 2 p f).1 = some z → z < 2 ^ 31 := fun z hz => by
    have := tk1_lt hz
    have : (sgL 2).length = 2 := rfl
    omega
  unfold FX1_scanBody_48
  refine Rn.f (by decide) (Rn.eq e1 ?_)
  dsimp only
  by_cases c : (tkP β n 2 p f).1 = some 1
  · have eE : midC β n l p f row = _ := if_pos c
    rw [eE]
    refine Rn.t ((oI_1 (c := 1) lt2 (by decide)).mpr c) ?_
    have s93 : ∀ v : Int32, v = (if l = 0 then 7 else 8) → Rn (FX1_scanBody_93 w1 o t (nI l) 1 v (nI i) o) (fun _ w' => BT w0 w' t o i β n (endC β n l true (tkP β n 2 p f).2.1 (tkP β n 2 p f).2.2 (upd row 2 (if l = 0 then 7 else 8))).1 (endC β n l true (tkP β n 2 p f).2.1 (tkP β n 2 p f).2.2 (upd row 2 (if l = 0 then 7 else 8))).2.1 (endC β n l true (tkP β n 2 p f).2.1 (tkP β n 2 p f).2.2 (upd row 2 (if l = 0 then 7 else 8))).2.2) := by
      intro v hv
      unfold FX1_scanBody_93
      refine Rn.okc B1.2.1 (Rn.oki rfl h4 (by decide) (Rn.bd ?_))
      rw [nI_clamp (by omega), hv]
      exact cls_112 hb (bt_store B1 (by decide) (by decide)) (by omega) true
    unfold FX1_scanBody_67
    rw [B1.2.2.1]
    refine Rn.f (by decide) ?_
    by_cases l0 : l = 0
    · exact Rn.t (by rw [l0]; rfl) (s93 7 (by rw [if_pos l0]))
    · exact Rn.f (nI_ne0 (by omega) (by omega)) (s93 8 (by rw [if_neg l0]))
  · have eE : midC β n l p f row = _ := if_neg c
    rw [eE]
    refine Rn.f (fun q => c ((oI_1 (c := 1) lt2 (by decide)).mp q)) ?_
    obtain ⟨w2, e2, B2⟩ := bt_take hb B1 (s := 1) (by decide)
    unfold FX1_scanBody_67
    refine Rn.t rfl (Rn.eq e2 ?_)
    dsimp only
    rw [B1.2.2.1]
    refine Rn.oki rfl h4 (by decide) (Rn.bd ?_)
    rw [nI_clamp (by omega)]
    exact cls_112 hb (bt_store B2 (by decide) (by decide)) (by omega) false
/-- a rule's body -/
def bodyC (β : Nat → Nat) (n l p f : Nat) (row : Nat → Int32) : Nat × Nat × (Nat → Int32) :=
  if l = 5 then (p, f, row) else
  if l < 2 then midC β n l (tkP β n 1 p f).2.1 (tkP β n 1 p f).2.2 (upd row 3 (oI (tkP β n 1 p f).1)) else
  if l = 2 then endC β n l false (tkP β n 1 p f).2.1 (tkP β n 1 p f).2.2 (upd row 3 (oI (tkP β n 1 p f).1)) else
  endC β n l false p f row
theorem cls_body (hb : ∀ i, β i < 256) (h : BT w0 w t o i β n p f row) {l : Nat} (hl : l < 7) : Rn (FX1_scanBody w o t (nI l)) (fun _ w' => BT w0 w' t o i β n (bodyC β n l p f row).1 (bodyC β n l p f row).2.1 (bodyC β n l p f row).2.2) := by
  have h4 := h.2.2.2.1
  have ld : ∀ z, z < 128 → (nI l = nI z ↔ l = z) := fun z hz => nI_eq (by omega) (by omega)
  unfold FX1_scanBody
  refine Rn.okc h.2.1 ?_
  by_cases l5 : l = 5
  · have eE : bodyC β n l p f row = _ := if_pos l5
    rw [eE]
    exact Rn.t (by rw [l5]; rfl) (Rn.ret h)
  · refine Rn.f (fun q => l5 ((ld 5 (by decide)).mp q)) ?_
    by_cases l2 : l < 2
    · have eE : bodyC β n l p f row = midC β n l (tkP β n 1 p f).2.1 (tkP β n 1 p f).2.2 (upd row 3 (oI (tkP β n 1 p f).1)) := by
        unfold bodyC
        rw [if_neg l5, if_pos l2]
      rw [eE]
      have go : Rn (FX1_scanBody_15 w o t (nI l)) (fun _ w' => BT w0 w' t o i β n (midC β n l (tkP β n 1 p f).2.1 (tkP β n 1 p f).2.2 (upd row 3 (oI (tkP β n 1 p f).1))).1 (midC β n l (tkP β n 1 p f).2.1 (tkP β n 1 p f).2.2 (upd row 3 (oI (tkP β n 1 p f).1))).2.1 (midC β n l (tkP β n 1 p f).2.1 (tkP β n 1 p f).2.2 (upd row 3 (oI (tkP β n 1 p f).1))).2.2) := by
        unfold FX1_scanBody_15 FX1_scanBody_20
        refine Rn.f (by decide) ?_
        obtain ⟨w1, e1, B1⟩ := bt_take hb h (s := 1) (by decide)
        unfold FX1_scanBody_33
        refine Rn.eq e1 ?_
        dsimp only
        rw [h.2.2.1]
        refine Rn.oki rfl h4 (by decide) (Rn.bd ?_)
        rw [nI_clamp (by omega)]
        exact cls_48 hb (bt_store B1 (by decide) (by decide)) l2
      by_cases l0 : l = 0
      · exact Rn.t (by rw [l0]; rfl) go
      · exact Rn.f (nI_ne0 (by omega) (by omega)) (Rn.t (by rw [show l = 1 from by omega]; rfl) go)
    · refine Rn.f (nI_ne0 (by omega) (by omega)) (Rn.f (fun q => by have := (ld 1 (by decide)).mp q; omega) ?_)
      unfold FX1_scanBody_20
      refine Rn.t rfl ?_
      by_cases l22 : l = 2
      · have eE : bodyC β n l p f row = endC β n l false (tkP β n 1 p f).2.1 (tkP β n 1 p f).2.2 (upd row 3 (oI (tkP β n 1 p f).1)) := by
          unfold bodyC
          rw [if_neg l5, if_neg l2, if_pos l22]
        rw [eE]
        refine Rn.t (by rw [l22]; rfl) ?_
        obtain ⟨w1, e1, B1⟩ := bt_take hb h (s := 1) (by decide)
        unfold FX1_scanBody_33
        refine Rn.eq e1 ?_
        dsimp only
        rw [h.2.2.1]
        refine Rn.oki rfl h4 (by decide) (Rn.bd ?_)
        rw [nI_clamp (by omega)]
        unfold FX1_scanBody_48
        exact Rn.t rfl (cls_112 hb (bt_store B1 (by decide) (by decide)) hl false)
      · have eE : bodyC β n l p f row = endC β n l false p f row := by
          unfold bodyC
          rw [if_neg l5, if_neg l2, if_neg l22]
        rw [eE]
        refine Rn.f (fun q => l22 ((ld 2 (by decide)).mp q)) ?_
        unfold FX1_scanBody_48
        exact Rn.t rfl (cls_112 hb h hl false)
end BTs
