/-! The class's memory: its cells, its march. -/
def wyC (M : Mch) (e : Nat) : Nat := if mW M e = 2 then 2 + aM M e else mW M e
/-- class: a march -/
def CM (w : HS) (p : Nat) (M : Mch) : Prop := hc w p = 2 ∧ hi w p 0 = nI (mN M) ∧ hi w p 3 = nI (aM M (mN M)) ∧ ∀ e, e < mN M → ha w p 5 e = nI (wyC M e) ∧ ha w p 6 e = nI (mC M e) ∧ ha w p 7 e = nI (rdE M e) ∧ ∀ k, k < mC M e → ha w p 8 (6 * e + k) = nI (mO M e k)
theorem CM.fr {P : Nat → Nat → Prop} {w w' : HS} {p : Nat} {M : Mch} (h : CM w p M) (f : Fr P w w') (n : ∀ k, ¬ P p k) : CM w' p M := by
  unfold CM
  rw [f.c, f.i (n 0), f.i (n 3), f.ar (n 5), f.ar (n 6), f.ar (n 7), f.ar (n 8)]
  exact h
theorem rE_le (M : Mch) (e : Nat) : ∀ k, rE M e k ≤ k := by
  intro k
  induction k with
  | zero => exact Nat.le_refl _
  | succ k ih =>
    show rE M e k + _ ≤ k + 1
    split <;> omega
section CMM
variable {w : HS} {p e : Nat} {M : Mch}
theorem cm_ops (h : CM w p M) (hM : WM M) (he : e < mN M) : FX2_opsOf w p (nI e) = some (nI (mC M e), w) := by
  have := hM.2.1
  unfold FX2_opsOf
  refine E_c h.1 (E_f (nI_pos (by omega)) (E_f (nI_ge (b := 8) (by omega) (by decide)) (E_i rfl (by omega) (by decide) ?_)))
  rw [nI_clamp (by omega), (h.2.2.2 e he).2.1]
theorem cm_reads (h : CM w p M) (hM : WM M) (he : e < mN M) : FX2_readsOf w p (nI e) = some (nI (rdE M e), w) := by
  have := hM.2.1
  unfold FX2_readsOf
  refine E_c h.1 (E_f (nI_pos (by omega)) (E_f (nI_ge (b := 8) (by omega) (by decide)) (E_i rfl (by omega) (by decide) ?_)))
  rw [nI_clamp (by omega), (h.2.2.2 e he).2.2.1]
theorem cm_way (h : CM w p M) (hM : WM M) (he : e < mN M) : FX2_wayOf w p (nI e) = some (nI (wyC M e), w) := by
  have := hM.2.1
  unfold FX2_wayOf
  refine E_c h.1 (E_f (nI_pos (by omega)) (E_f (nI_ge (b := 8) (by omega) (by decide)) (E_i rfl (by omega) (by decide) ?_)))
  rw [nI_clamp (by omega), (h.2.2.2 e he).1]
theorem cm_op (h : CM w p M) (hM : WM M) (he : e < mN M) {k : Nat} (hk : k < mC M e) : FX2_opAt w p (nI e) (nI k) = some (nI (mO M e k), w) := by
  have := hM.2.1
  have := (hM.2.2.2 e he).2.2.1
  have ix : (nI e * (6 : Int32)) + nI k = nI (6 * e + k) := by rw [l6_, nI_mul, nI_add, Nat.mul_comm]
  unfold FX2_opAt
  rw [ix]
  refine E_c h.1 (E_f (nI_pos (by omega)) (E_f (nI_ge (b := 48) (by omega) (by decide)) (E_i rfl (by omega) (by decide) ?_)))
  rw [nI_clamp (by omega), (h.2.2.2 e he).2.2.2 k hk]
theorem am_lt (hM : WM M) (he : e < mN M) (h2 : mW M e = 2) : aM M e < 3 := by
  have a1 : aM M (e + 1) ≤ aM M (mN M) := by
    have := aM_le M (mN M - (e + 1)) (e + 1)
    rw [show e + 1 + (mN M - (e + 1)) = mN M from by omega] at this
    exact this
  have a2 : aM M (e + 1) = aM M e + if mW M e = 2 then 1 else 0 := rfl
  rw [if_pos h2] at a2
  have := hM.2.2.1
  omega
theorem cm_down (h : CM w p M) (hM : WM M) (he : e < mN M) {ch : Nat} (hch : ch < 8) : FX2_isDown w p (nI e) (nI ch) = some (if dwn M ch e = true then 1 else 0, w) := by
  have W3 := (hM.2.2.2 e he).1
  unfold FX2_isDown
  refine E_c h.1 (E_b (cm_way h hM he) ?_)
  dsimp only
  by_cases h2 : mW M e = 2
  · have a3 := am_lt hM he h2
    have e1 : wyC M e = 2 + aM M e := by unfold wyC; rw [if_pos h2]
    have ed : dwn M ch e = decide (bt ch (aM M e) = 1) := by unfold dwn; rw [if_pos h2]
    have bl := bt_lt ch (aM M e)
    rw [e1, ed]
    refine E_t (nI_le (a := 2) (by omega) (by omega)) ?_
    rw [l2_, nI_subc (by omega), show 2 + aM M e - 2 = aM M e from by omega, bt_ch ch hch _ (by omega)]
    by_cases hb : bt ch (aM M e) = 1
    · refine E_t (by rw [hb]; rfl) ?_
      rw [hb]
      rfl
    · refine E_f (fun q => hb ((nI_eq (a := bt ch (aM M e)) (b := 1) (by omega) (by omega)).mp q)) ?_
      rw [if_neg (by rw [decide_eq_true_eq]; exact hb)]
  · have e1 : wyC M e = mW M e := by unfold wyC; rw [if_neg h2]
    have ed : dwn M ch e = decide (mW M e = 1) := by unfold dwn; rw [if_neg h2]
    rw [e1, ed]
    refine E_f (nI_ge (b := 2) (by omega) (by decide)) ?_
    by_cases hb : mW M e = 1
    · refine E_t (by rw [hb]; rfl) ?_
      rw [hb]
      rfl
    · refine E_f (fun q => hb ((nI_eq (a := mW M e) (b := 1) (by omega) (by omega)).mp q)) ?_
      rw [if_neg (by rw [decide_eq_true_eq]; exact hb)]
end CMM
/-- class: this fault is in a memory -/
def CF (w : HS) (q : Nat) (b : Book) (a v : Nat) : Prop := hc w q = 3 ∧ hi w q 4 = cI a ∧ hi w q 5 = cI v ∧ PL b a v ∧ ((hp w q 2 = none ∧ b.1 = 0) ∨ ∃ p, hp w q 2 = some p ∧ CK w p b ∧ 0 < b.1)
def cb (w : HS) (q x : Nat) : HS := setI w q 1 (nI x)
theorem setI_setI (w : HS) (a k : Nat) (x y : Int32) : setI (setI w a k x) a k y = setI w a k y := by
  unfold setI
  dsimp only
  rw [up2_up2]
theorem setI_id {w : HS} {a k : Nat} {x : Int32} (h : hi w a k = x) : setI w a k x = w := by
  subst h
  unfold setI
  have : up2 w.2.1 a k (hi w a k) = w.2.1 := up2_id _ _ _
  rw [this]
theorem cb_cb (w : HS) (q x y : Nat) : cb (cb w q x) q y = cb w q y := setI_setI _ _ _ _ _
theorem cb_id {w : HS} {q x : Nat} (h : hi w q 1 = nI x) : cb w q x = w := setI_id h
theorem cb_1 (w : HS) (q x : Nat) : hi (cb w q x) q 1 = nI x := by unfold cb; rw [hi_setI, if_pos ⟨rfl, rfl⟩]
theorem cb_k (w : HS) (q x : Nat) {k : Nat} (h : k ≠ 1) : hi (cb w q x) q k = hi w q k := by unfold cb; rw [hi_setI, if_neg (fun z => h z.2)]
theorem cb_fr (w : HS) (q x : Nat) : Fr (fun b k => b = q ∧ k = 1) w (cb w q x) := Fr.sI ⟨rfl, rfl⟩
theorem CK.cl {w : HS} {p q ci : Nat} {b : Book} (h : CK w p b) (hq : hc w q = ci) (hci : ci ≠ 1) : p ≠ q := by
  intro e
  subst e
  rw [h.1] at hq
  exact hci hq.symm
theorem CF.fr {P : Nat → Nat → Prop} {w w' : HS} {q a v : Nat} {b : Book} (h : CF w q b a v) (f : Fr P w w') (n2 : ¬ P q 2) (n4 : ¬ P q 4) (n5 : ¬ P q 5) (n : ∀ p, hc w p = 1 → ∀ k, ¬ P p k) : CF w' q b a v := by
  obtain ⟨h1, h2, h3, h4, h5⟩ := h
  refine ⟨by rw [f.c]; exact h1, by rw [f.i n4]; exact h2, by rw [f.i n5]; exact h3, h4, ?_⟩
  rw [f.o n2]
  rcases h5 with h5 | ⟨p, k1, k2, k3⟩
  · exact Or.inl h5
  · exact Or.inr ⟨p, k1, k2.fr f (n p k2.1), k3⟩
theorem CF.cb {w : HS} {q a v x : Nat} {b : Book} (h : CF w q b a v) : CF (cb w q x) q b a v := h.fr (cb_fr w q x) (fun z => by omega) (fun z => by omega) (fun z => by omega) (fun p hp k z => by
  have := h.1
  rw [← z.1, hp] at this
  cases this)
theorem or2 : ∀ s, s < 2 → ∀ t, t < 2 → (nI s ||| (nI t <<< ((1 : Int32) &&& 31))) = nI (s + 2 * t) := by decide +kernel
theorem bt7 : ∀ x, x < 64 → bt x 7 = 0 := by decide +kernel
theorem wb6 : ∀ x, x < 64 → ∀ c, c < 6 → ∀ d, d < 2 → ((nI x &&& (((1 : Int32) <<< (nI c &&& 31)) ^^^ (-1 : Int32))) ||| (nI d <<< (nI c &&& 31))) = nI (sb x c d) := by decide +kernel
theorem cI_nM {c : Nat} (h : c < 6) : ¬ cI c = -1 := by rw [cI_n h]; exact nI_nM (by omega)
def upS (a v x s : Nat) : Nat := if a = 7 then sb x v (bt s 0) else sb (sb x v (bt s 0)) a (bt s 1)
section LM
variable {w : HS} {q a v x : Nat} {b : Book}
theorem CF.pl (h : CF w q b a v) (h0 : 0 < b.1) : WB b ∧ v < 6 ∧ ((pr b = true ∧ a < 6 ∧ a ≠ v) ∨ (pr b = false ∧ a = 7)) := by
  rcases h.2.2.2.1 with z | z
  · omega
  · exact z
theorem lm_state (h : CF w q b a v) (h0 : 0 < b.1) (hx : hi w q 1 = nI x) (x6 : x < 64) : FX3_state w q = some (nI (pj a v x), w) := by
  obtain ⟨W, hv, hp⟩ := h.pl h0
  unfold FX3_state
  rw [h.2.2.1, cI_n hv, hx, bit_nI x x6 v hv]
  refine E_c h.1 (E_f (nI_nM (by omega)) ?_)
  unfold FX3_state_23
  rw [h.2.1, hx]
  unfold pj
  have b1 := bt_lt x v
  have b2 := bt_lt x a
  rcases hp with hp | hp
  · refine E_f (cI_nM hp.2.1) ?_
    rw [cI_n hp.2.1, bit_nI x x6 a hp.2.1, or2 _ b1 _ b2]
  · rw [hp.2]
    refine E_t rfl ?_
    rw [bt7 x x6, Nat.mul_zero, Nat.add_zero]
theorem s01 : ∀ s, s < 4 → (nI s &&& (1 : Int32)) = nI (bt s 0) ∧ ((nI s >>> ((1 : Int32) &&& 31)) &&& (1 : Int32)) = nI (bt s 1) := by decide +kernel
theorem lm_setState (h : CF w q b a v) (h0 : 0 < b.1) (hx : hi w q 1 = nI x) (x6 : x < 64) {s : Nat} (hs : s < 4) : FX3_setState w q (nI s) = some ((), cb w q (upS a v x s)) := by
  obtain ⟨W, hv, hp⟩ := h.pl h0
  obtain ⟨e0, e1⟩ := s01 s hs
  have b0 := bt_lt s 0
  have b1 := bt_lt s 1
  have s6 := sb_lt x x6 v hv _ b0
  unfold FX3_setState
  rw [h.2.2.1, cI_n hv]
  refine E_c h.1 (E_f (nI_nM (by omega)) ?_)
  unfold FX3_withBit
  refine E_b rfl ?_
  dsimp only
  rw [hx, e0, wb6 x x6 v hv _ b0]
  show FX3_setState_26 (cb w q (sb x v (bt s 0))) q (nI s) = _
  unfold FX3_setState_26
  rw [cb_k _ _ _ (by decide), h.2.1, cb_1]
  rcases hp with hp | hp
  · refine E_f (cI_nM hp.2.1) ?_
    unfold FX3_withBit
    refine E_b rfl ?_
    dsimp only
    rw [e1, cI_n hp.2.1, wb6 _ s6 a hp.2.1 _ b1]
    show some ((), cb (cb w q _) q _) = _
    rw [cb_cb]
    unfold upS
    rw [if_neg (by omega)]
  · rw [hp.2]
    refine E_t rfl ?_
    unfold upS
    rw [if_pos rfl]
theorem up_pj (hv : v < 6) (hp : (a < 6 ∧ a ≠ v) ∨ a = 7) (x6 : x < 64) {z : Nat} (z6 : z < 64) (hz : ∀ f, f < 6 → f ≠ v → f ≠ a → bt z f = bt x f) : upS a v x (pj a v z) = z := by
  obtain ⟨q1, q2, _, _⟩ := pj_all v hv a (by omega) (by omega) (by omega) z z6
  have b1 := bt_lt z v
  have b2 := bt_lt z a
  have s6 := sb_lt x x6 v hv _ b1
  unfold upS
  rw [q1, q2]
  rcases hp with hp | hp
  · rw [if_neg (by omega)]
    refine eq_of_bt _ (sb_lt _ s6 a hp.1 _ b2) _ z6 (fun f hf => ?_)
    by_cases ha : f = a
    · subst ha
      rw [bt_sb _ s6 f hf _ b2]
    · rw [bt_sb_ne _ s6 a hp.1 _ b2 f (by omega) ha]
      by_cases hfv : f = v
      · subst hfv
        rw [bt_sb x x6 f hf _ b1]
      · rw [bt_sb_ne x x6 v hv _ b1 f (by omega) hfv, hz f hf hfv ha]
  · rw [if_pos hp]
    refine eq_of_bt _ s6 _ z6 (fun f hf => ?_)
    by_cases hfv : f = v
    · subst hfv
      rw [bt_sb x x6 f hf _ b1]
    · rw [bt_sb_ne x x6 v hv _ b1 f (by omega) hfv, hz f hf hfv (by omega)]
theorem hp_ps {P : Prop} (hp : (pr b = true ∧ a < 6 ∧ a ≠ v) ∨ (pr b = false ∧ a = 7)) : ((a < 6 ∧ a ≠ v) ∨ a = 7) ∧ a < 8 ∧ a ≠ v ∨ P ∨ v = 7 := by omega
theorem sh2 : ∀ y, y < 8 → (nI y >>> ((2 : Int32) &&& 31)) = nI (y / 4) := by decide +kernel
theorem op_eq {b : Book} {a v x c act : Nat} (W : WB b) (hv : v < 6) (hp : (pr b = true ∧ a < 6 ∧ a ≠ v) ∨ (pr b = false ∧ a = 7)) (x6 : x < 64) (hc : c = v ∨ (c = a ∧ a < 6)) (ha : act < 3) : otB b (ix2 v c) act (pj a v x) / 4 = (if act = 0 then (rAt b a v x c).1 else 0) ∧ upS a v x (otB b (ix2 v c) act (pj a v x) % 4) = (if act = 0 then (rAt b a v x c).2 else wAt b a v x c (act - 1)) := by
  have s4 := pj4 a v x
  have i2 := ix2_lt v c
  have c6 : c < 6 := by omega
  have hpp : (a < 6 ∧ a ≠ v) ∨ a = 7 := by omega
  by_cases h : act = 0
  · subst h
    rw [if_pos rfl, if_pos rfl, otB_r]
    obtain ⟨r1, r2⟩ := rAt4 W s4 i2
    obtain ⟨p1, p2, p3⟩ := pj_rAt W hv (by omega) (by omega) (by omega) x6 hc
    rw [← p1] at r2 ⊢
    rw [← p2]
    have p4 := pj4 a v (rAt b a v x c).2
    constructor
    · omega
    · rw [show (pj a v (rAt b a v x c).2 + 4 * (rAt b a v x c).1) % 4 = pj a v (rAt b a v x c).2 from by omega]
      exact up_pj hv hpp x6 p3 (fun f f1 f2 f3 => rAt_ne W hv x6 f1 f2 c6 (by omega))
  · rw [if_neg h, if_neg h, otB_w h]
    have r1 := wAt4 (d := act - 1) W s4 i2 (by omega)
    obtain ⟨p2, p3⟩ := pj_wAt W hv (by omega) (by omega) (by omega) x6 hc (d := act - 1) (by omega)
    rw [← p2]
    have p4 := pj4 a v (wAt b a v x c (act - 1))
    constructor
    · omega
    · rw [show pj a v (wAt b a v x c (act - 1)) % 4 = pj a v (wAt b a v x c (act - 1)) from by omega]
      exact up_pj hv hpp x6 p3 (fun f f1 f2 f3 => wAt_ne W hv x6 f1 f2 c6 (by omega) (by omega))
theorem none_w {b : Book} {a v x c d : Nat} (h : b.1 = 0) (hv : c ≠ v) (ha : c ≠ a) : wAt b a v x c d = sb x c d := by
  have hl0 : lt0 b = 0 := by unfold lt0; rw [if_pos h]
  rw [wAt_e (fun z => by omega) (fun z => by omega) (fun z => by omega)]
  unfold wrt fol stl
  rw [if_neg hv, if_neg ha, ru_0 h, h]
  rfl
theorem none_r {b : Book} {a v x c : Nat} (h : b.1 = 0) (hv : c ≠ v) (ha : c ≠ a) : rAt b a v x c = (bt x c, x) := by
  have hl0 : lt0 b = 0 := by unfold lt0; rw [if_pos h]
  rw [rAt_e (fun z => by omega) (fun z => by omega) (fun z => by omega)]
  unfold rdd
  rw [if_neg hv]
  unfold fol stl
  dsimp only
  rw [if_neg ha, ru_0 h, h]
  rfl
/-- what an op makes of the cells, and tells -/
def opx (b : Book) (a v x c act : Nat) : Nat := if act = 0 then (rAt b a v x c).2 else wAt b a v x c (act - 1)
def opt (b : Book) (a v x c act : Nat) : Nat := if act = 0 then (rAt b a v x c).1 else 0
theorem lm_op (h : CF w q b a v) (hx : hi w q 1 = nI x) (x6 : x < 64) (sd : 0 < b.1 → Sd b a v x) {c ad act : Nat} (hm : ha w q 10 ad = nI c) (had : ad < 6) (c6 : c < 6) (hact : act < 3) : FX3_operate w q (nI ad) (nI act) = some (nI (opt b a v x c act), cb w q (opx b a v x c act)) := by
  have A8 := h.2.2.2.1.a8
  have hcell : FX3_cellOf w q (nI ad) = some (nI c, w) := by
    unfold FX3_cellOf
    refine E_c h.1 (E_f (nI_pos (by omega)) (E_f (nI_ge (b := 6) (by omega) (by decide)) (E_i rfl (by omega) (by decide) ?_)))
    rw [nI_clamp (by omega), hm]
  have ecv : nI c = hi w q 5 ↔ c = v := by
    rw [h.2.2.1, ← cI_n c6]
    exact cI_eq c (by omega) v A8.2.2.1
  have eca : nI c = hi w q 4 ↔ c = a := by
    rw [h.2.1, ← cI_n c6]
    exact cI_eq c (by omega) a A8.1
  have sound : opx b a v x c act = (if act = 0 then x else sb x c (act - 1)) → opt b a v x c act = (if act = 0 then bt x c else 0) → FX3_operate_76 w q (nI act) (nI c) = some (nI (opt b a v x c act), cb w q (opx b a v x c act)) := by
    intro e1 e2
    rw [e1, e2]
    unfold FX3_operate_76
    rw [hx]
    by_cases h0 : act = 0
    · subst h0
      refine E_t rfl ?_
      rw [bit_nI x x6 c c6, if_pos rfl, if_pos rfl, cb_id hx]
    · refine E_f (nI_ne0 (by omega) (by omega)) ?_
      unfold FX3_withBit
      refine E_b rfl ?_
      dsimp only
      rw [l1_, nI_subc (by omega), ← l1_, wb6 x x6 c c6 _ (by omega), if_neg h0, if_neg h0]
      rfl
  unfold FX3_operate
  refine E_c h.1 (E_b hcell ?_)
  dsimp only
  refine E_f (nI_nM (by omega)) ?_
  rcases h.2.2.2.2 with ⟨h5, h6⟩ | ⟨p, k1, k2, k3⟩
  · rw [h5]
    have z7 : a = 7 ∧ v = 7 := by
      rcases h.2.2.2.1 with z | z
      · exact z.2
      · have := z.1.2.1; omega
    refine sound ?_ ?_
    · unfold opx
      rw [none_w h6 (by omega) (by omega), none_r h6 (by omega) (by omega)]
    · unfold opt
      rw [none_r h6 (by omega) (by omega)]
  · rw [k1]
    show (if nI c = hi w q 5 then _ else _) = _
    obtain ⟨W, hv, hp⟩ := h.pl k3
    have o53 : (c = v ∨ (c = a ∧ a < 6)) → FX3_operate_53 w q (nI act) (nI (ix2 v c)) (some p) = some (nI (opt b a v x c act), cb w q (opx b a v x c act)) := by
      intro hc
      obtain ⟨z1, z2⟩ := op_eq (act := act) W hv hp x6 hc hact
      have o8 := otB8 (act := act) W (pj4 a v x) (ix2_lt v c) hact
      unfold FX3_operate_53 opt opx
      refine E_b (lm_state h k3 hx x6) (E_b rfl (E_b (ck_out k2 (pj4 a v x) (ix2_lt v c) hact) ?_))
      dsimp only
      rw [fx3 _ o8, sh2 _ o8]
      refine E_b (lm_setState h k3 hx x6 (by omega)) ?_
      rw [z1, z2]
    have o36 : (c = v ∨ (c = a ∧ a < 6)) → FX3_operate_36 w q (nI act) (nI c) = some (nI (opt b a v x c act), cb w q (opx b a v x c act)) := by
      intro hc
      unfold FX3_operate_36
      rw [k1]
      have := o53 hc
      by_cases hcv : c = v
      · refine E_t (ecv.mpr hcv) ?_
        rw [hcv, ix2_self] at this
        rw [hcv]
        exact this
      · refine E_f (fun z => hcv (ecv.mp z)) ?_
        rw [ix2_ne hcv] at this
        exact this
    by_cases hcv : c = v
    · exact E_t (ecv.mpr hcv) (o36 (Or.inl hcv))
    · refine E_f (fun z => hcv (ecv.mp z)) ?_
      by_cases hca : c = a
      · exact E_t (eca.mpr hca) (o36 (Or.inr ⟨hca, by omega⟩))
      · refine E_f (fun z => hca (eca.mp z)) (sound ?_ ?_)
        · unfold opx
          rw [sound_r h.2.2.2.1 k3 x6 hcv hca (sd k3)]
          by_cases h0 : act = 0
          · rw [if_pos h0, if_pos h0]
          · rw [if_neg h0, if_neg h0, sound_w h.2.2.2.1 k3 x6 c6 hcv hca (by omega) (sd k3)]
        · unfold opt
          rw [sound_r h.2.2.2.1 k3 x6 hcv hca (sd k3)]
theorem lm_fill (h : CF w q b a v) (x6 : x < 64) : FX3_fill w q (nI x) = some ((), cb w q (stl b a v x)) := by
  unfold FX3_fill
  refine E_c h.1 (E_d ?_)
  show (hp (cb w q x) q 2).elim _ _ = _
  rcases h.2.2.2.2 with ⟨h5, h6⟩ | ⟨p, k1, k2, k3⟩
  · rw [show hp (cb w q x) q 2 = hp w q 2 from rfl, h5]
    have st : stl b a v x = x := by unfold stl; rw [ru_0 h6, h6]; rfl
    rw [st]
    rfl
  · obtain ⟨W, hv, hpp⟩ := h.pl k3
    have hC : CF (cb w q x) q b a v := h.cb
    rw [show hp (cb w q x) q 2 = hp w q 2 from rfl, k1]
    show ((FX3_state (cb w q x) q).bind _) = _
    refine E_b (lm_state hC k3 (cb_1 _ _ _) x6) ?_
    refine E_b (show hp (setI w q 1 (nI x)) q 2 = some p from k1) ?_
    have k2' : CK (cb w q x) p b := k2.fr (cb_fr w q x) (fun k z => by
      have := k2.cl h.1 (by decide)
      omega)
    refine E_b (ck_set k2' (pj4 a v x)) ?_
    dsimp only
    refine E_b (lm_setState hC k3 (cb_1 _ _ _) x6 (stl4 W (pj4 a v x))) ?_
    dsimp only
    rw [cb_cb, ← pj_stl W hv (by omega) (by omega) (by omega) x6, up_pj hv (by omega) x6 (stl_ltW W hv x6) (fun f f1 f2 _ => stl_ne W hv x6 f1 f2)]
end LM
