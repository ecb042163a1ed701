/-! A kind made ready, and the two-cell machine against the machine in a memory. -/
theorem wAt4 {b : Book} {x c d : Nat} (W : WB b) (hx : x < 4) (hc : c < 2) (hd : d < 2) : wAt b 1 0 x c d < 4 := by
  unfold wAt
  split
  · exact hx
  · split
    · exact wrt4 W hx (by decide) hd
    · split
      · exact wrt4 W (wrt4 W hx hc hd) (by decide) hd
      · exact wrt4 W hx hc hd
theorem rAt4 {b : Book} {x c : Nat} (W : WB b) (hx : x < 4) (hc : c < 2) : (rAt b 1 0 x c).2 < 4 ∧ (rAt b 1 0 x c).1 < 2 := by
  unfold rAt
  split
  · rename_i h
    refine ⟨hx, ?_⟩
    have l0 : b.2 0 0 = 110 := by
      have := h.1
      unfold lt0 at this
      rw [if_neg (by have := W.2.1; omega)] at this
      exact this
    dsimp only
    rcases W.2.2.2 0 W.2.1 with q | q | q | q | q <;> omega
  · split
    · exact rdd4 W hx (by decide)
    · split
      · refine ⟨(rdd4 W (rdd4 W hx hc).1 (by decide)).1, ?_⟩
        dsimp only
        split <;> split <;> decide
      · exact rdd4 W hx hc
theorem otB8 {b : Book} {c act x : Nat} (W : WB b) (hx : x < 4) (hc : c < 2) (ha : act < 3) : otB b c act x < 8 := by
  unfold otB
  split
  · have := rAt4 W hx hc
    omega
  · have := wAt4 (d := act - 1) W hx hc (by omega)
    omega
/-- class: a kind made ready -/
def CK (w : HS) (p : Nat) (b : Book) : Prop := hc w p = 1 ∧ hi w p 0 = nI b.1 ∧ hi w p 1 = nI (if pr b = true then 1 else 0) ∧ (∀ x, x < 4 → ha w p 8 x = nI (stl b 1 0 x)) ∧ ∀ c, c < 2 → ∀ act, act < 3 → ∀ x, x < 4 → ha w p 7 (12 * c + 4 * act + x) = nI (otB b c act x)
theorem CK.fr {P : Nat → Nat → Prop} {w w' : HS} {p : Nat} {b : Book} (h : CK w p b) (f : Fr P w w') (n : ∀ k, ¬ P p k) : CK w' p b := by
  obtain ⟨h1, h2, h3, h4, h5⟩ := h
  refine ⟨by rw [f.c]; exact h1, by rw [f.i (n 0)]; exact h2, by rw [f.i (n 1)]; exact h3, ?_, ?_⟩
  · rw [f.ar (n 8)]; exact h4
  · rw [f.ar (n 7)]; exact h5
def TTb (w : HS) (p : Nat) (b : Book) (s ac : Nat) : Prop := ∀ c, c < 2 → ∀ act, act < 3 → ∀ x, x < 4 → (x < s ∨ x = s ∧ act < ac) → ha w p 7 (12 * c + 4 * act + x) = nI (otB b c act x)
def SSb (w : HS) (p : Nat) (b : Book) (s : Nat) : Prop := ∀ x, x < s → ha w p 8 x = nI (stl b 1 0 x)
def Pp (p : Nat) : Nat → Nat → Prop := fun b k => b = p ∧ 7 ≤ k
theorem prep20 {b : Book} {p s : Nat} (W : WB b) (hs : s < 4) {w0 : HS} {k2 : HS → Nat → Int32 → Option (Unit × HS)} {Q : Unit → HS → Prop} (K : ∀ w', RW w' p b → TTb w' p b (s + 1) 0 → SSb w' p b (s + 1) → Fr (Pp p) w0 w' → Rn (k2 w' p (nI (s + 1))) Q) :
    ∀ d ac n w, ac + d = 3 → d < n → RW w p b → TTb w p b s ac → SSb w p b (s + 1) → Fr (Pp p) w0 w → Rn (FX1_prepare_20 k2 n w p (nI s) (nI ac)) Q := by
  intro d
  induction d with
  | zero =>
    intro ac n w e hn R T S F
    obtain ⟨n, rfl⟩ : ∃ q, n = q + 1 := ⟨n - 1, by omega⟩
    obtain rfl : ac = 3 := by omega
    rw [FX1_prepare_20, nI_1]
    refine Rn.t (nI_le (a := 3) (b := 3) (by decide) (by decide)) (K w R (fun c hc act ha x hx h => T c hc act ha x hx (by omega)) S F)
  | succ d ih =>
    intro ac n w e hn R T S F
    obtain ⟨n, rfl⟩ : ∃ q, n = q + 1 := ⟨n - 1, by omega⟩
    have i1 : (nI ac * (4 : Int32)) + nI s = nI (4 * ac + s) := by rw [l4_, nI_mul, nI_add, Nat.mul_comm]
    have i2 : ((12 : Int32) + (nI ac * (4 : Int32))) + nI s = nI (12 + 4 * ac + s) := by rw [l4_, l12_, nI_mul, nI_add, nI_add, Nat.mul_comm]
    rw [FX1_prepare_20, i1, i2, nI_clamp (by omega), nI_clamp (by omega), nI_1 s, nI_1 ac]
    refine Rn.f (nI_ge (a := ac) (b := 3) (by omega) (by decide)) ?_
    refine Rn.eq (cls_op (c := 0) R W hs (by decide) (by omega)) (Rn.oki rfl (by omega) (by decide) (Rn.bd ?_))
    have F1 : Fr (Pp p) w (setA w p 7 (4 * ac + s) (nI (otB b 0 ac s))) := Fr.sA ⟨rfl, by decide⟩
    have R1 := R.fr F1 (fun k hk q => by unfold Pp at q; omega)
    refine Rn.eq (cls_op (c := 1) R1 W hs (by decide) (by omega)) (Rn.oki rfl (by omega) (by decide) (Rn.bd ?_))
    have F2 : Fr (Pp p) (setA w p 7 (4 * ac + s) (nI (otB b 0 ac s))) (setA (setA w p 7 (4 * ac + s) (nI (otB b 0 ac s))) p 7 (12 + 4 * ac + s) (nI (otB b 1 ac s))) := Fr.sA ⟨rfl, by decide⟩
    have R2 := R1.fr F2 (fun k hk q => by unfold Pp at q; omega)
    refine ih (ac + 1) n _ (by omega) (by omega) R2 ?_ ?_ ((F.trans F1).trans F2)
    · intro c hc act ha x hx h
      rw [ha_setA, if_pos ⟨rfl, rfl⟩, ha_setA, if_pos ⟨rfl, rfl⟩]
      by_cases h1 : 12 * c + 4 * act + x = 12 + 4 * ac + s
      · obtain ⟨rfl, rfl, rfl⟩ : c = 1 ∧ act = ac ∧ x = s := by omega
        rw [h1, upd_s]
      · rw [upd_n h1]
        by_cases h2 : 12 * c + 4 * act + x = 4 * ac + s
        · obtain ⟨rfl, rfl, rfl⟩ : c = 0 ∧ act = ac ∧ x = s := by omega
          rw [h2, upd_s]
        · rw [upd_n h2]
          refine T c hc act ha x hx ?_
          by_cases x = s <;> by_cases act = ac <;> omega
    · intro x hx
      rw [ha_setA, if_neg (fun q => absurd q.2 (by decide)), ha_setA, if_neg (fun q => absurd q.2 (by decide))]
      exact S x hx
theorem prep2 {b : Book} {p : Nat} (W : WB b) {w0 : HS} : ∀ d s n w, s + d = 4 → d < n → RW w p b → TTb w p b s 0 → SSb w p b s → Fr (Pp p) w0 w → Rn (FX1_prepare_2 n w p (nI s)) (fun _ w' => RW w' p b ∧ TTb w' p b 4 0 ∧ SSb w' p b 4 ∧ Fr (Pp p) w0 w') := by
  intro d
  induction d with
  | zero =>
    intro s n w e hn R T S F
    obtain ⟨n, rfl⟩ : ∃ q, n = q + 1 := ⟨n - 1, by omega⟩
    obtain rfl : s = 4 := by omega
    rw [FX1_prepare_2]
    exact Rn.t (nI_le (a := 4) (b := 4) (by decide) (by decide)) (Rn.ret ⟨R, T, S, F⟩)
  | succ d ih =>
    intro s n w e hn R T S F
    obtain ⟨n, rfl⟩ : ∃ q, n = q + 1 := ⟨n - 1, by omega⟩
    rw [FX1_prepare_2, nI_clamp (by omega)]
    refine Rn.f (nI_ge (a := s) (b := 4) (by omega) (by decide)) ?_
    refine Rn.eq (cls_settle R W (by omega)) (Rn.oki rfl (by omega) (by decide) (Rn.bd ?_))
    have F1 : Fr (Pp p) w (setA w p 8 s (nI (stl b 1 0 s))) := Fr.sA ⟨rfl, by decide⟩
    have R1 := R.fr F1 (fun k hk q => by unfold Pp at q; omega)
    refine prep20 W (by omega) (fun w' R' T' S' F' => ih (s + 1) n w' (by omega) (by omega) R' T' S' F') 3 0 FUEL _ (by omega) (fuel_lt (by omega)) R1 ?_ ?_ (F.trans F1)
    · intro c hc act ha x hx h
      rw [ha_setA, if_neg (fun q => absurd q.2 (by decide))]
      exact T c hc act ha x hx h
    · intro x hx
      rw [ha_setA, if_pos ⟨rfl, rfl⟩]
      by_cases h : x = s
      · subst h; rw [upd_s]
      · rw [upd_n h]
        exact S x (by omega)
theorem prep {b : Book} {p : Nat} (W : WB b) {w : HS} (R : RW w p b) (hp : hi w p 1 = nI (if pr b = true then 1 else 0)) : Rn (FX1_prepare w p) (fun _ w' => CK w' p b ∧ Fr (Pp p) w w') := by
  unfold FX1_prepare
  refine Rn.okc R.1 ?_
  refine (prep2 (w0 := w) W 4 0 FUEL w (by omega) (fuel_lt (by omega)) R ?_ ?_ Fr.refl).mono ?_
  · intro c hc act ha x hx h; omega
  · intro x hx; omega
  · intro _ w' ⟨R', T', S', F'⟩
    refine ⟨⟨R'.1, R'.2.1, ?_, fun x hx => S' x hx, fun c hc act ha x hx => T' c hc act ha x hx (by omega)⟩, F'⟩
    rw [F'.i (by unfold Pp; omega)]
    exact hp
theorem ck_out {w : HS} {p x c act : Nat} {b : Book} (h : CK w p b) (hx : x < 4) (hc2 : c < 2) (ha : act < 3) : FX1_outcomeOf w p (nI c) (nI act) (nI x) = some (nI (otB b c act x), w) := by
  have e3 : (nI x &&& (3 : Int32)) = nI x := by rw [fx3 x (by omega), Nat.mod_eq_of_lt hx]
  have ix : (((nI c * (12 : Int32)) + (nI act * (4 : Int32))) + (nI x &&& (3 : Int32))) = nI (12 * c + 4 * act + x) := by rw [e3, l12_, l4_, nI_mul, nI_mul, nI_add, nI_add, Nat.mul_comm c, Nat.mul_comm act]
  unfold FX1_outcomeOf
  rw [ix, nI_clamp (by omega), h.2.2.2.2 c hc2 act ha x hx]
  exact E_c h.1 (E_f (nI_pos (by omega)) (E_f (nI_ge (b := 24) (by omega) (by decide)) (E_i rfl (by omega) (by decide) rfl)))
theorem ck_set {w : HS} {p x : Nat} {b : Book} (h : CK w p b) (hx : x < 4) : FX1_settledFrom w p (nI x) = some (nI (stl b 1 0 x), w) := by
  have e3 : (nI x &&& (3 : Int32)) = nI x := by rw [fx3 x (by omega), Nat.mod_eq_of_lt hx]
  unfold FX1_settledFrom
  rw [e3, nI_clamp (by omega), h.2.2.2.1 x hx]
  exact E_c h.1 (E_i rfl (by omega) (by decide) rfl)
/-! cells renamed -/
/-- the two cells of a fault out of a memory's bits -/
def pj (a v x : Nat) : Nat := bt x v + 2 * bt x a
theorem pj4 (a v x : Nat) : pj a v x < 4 := by
  have := bt_lt x v
  have := bt_lt x a
  unfold pj
  omega
theorem pj_a0 : ∀ v, v < 6 → ∀ a, a < 8 → (a ≠ v ∧ a ≠ 6) → ∀ x, x < 64 → bt (pj a v x) 0 = bt x v ∧ bt (pj a v x) 1 = bt x a := by decide +kernel
theorem pj_a1 : ∀ v, v < 6 → ∀ a, a < 8 → (a ≠ v ∧ a ≠ 6) → ∀ x, x < 64 → ∀ d, d < 2 → pj a v (sb x v d) = sb (pj a v x) 0 d := by decide +kernel
theorem pj_a2 : ∀ v, v < 6 → ∀ a, a < 6 → a ≠ v → ∀ x, x < 64 → ∀ d, d < 2 → pj a v (sb x a d) = sb (pj a v x) 1 d := by decide +kernel
theorem pj_all (v : Nat) (hv : v < 6) (a : Nat) (ha : a < 8) (hav : a ≠ v) (h6 : a ≠ 6) (x : Nat) (hx : x < 64) : bt (pj a v x) 0 = bt x v ∧ bt (pj a v x) 1 = bt x a ∧ (∀ d, d < 2 → pj a v (sb x v d) = sb (pj a v x) 0 d) ∧ (a < 6 → ∀ d, d < 2 → pj a v (sb x a d) = sb (pj a v x) 1 d) := ⟨(pj_a0 v hv a ha ⟨hav, h6⟩ x hx).1, (pj_a0 v hv a ha ⟨hav, h6⟩ x hx).2, pj_a1 v hv a ha ⟨hav, h6⟩ x hx, fun h => pj_a2 v hv a h hav x hx⟩
section PJ
variable {b : Book} {a v x : Nat}
theorem pj_stlL (W : WB b) (hv : v < 6) (ha : a < 8) (hav : a ≠ v) (h6 : a ≠ 6) : ∀ d i x, i + d ≤ b.1 → x < 64 → pj a v (stlL b a v i d x) = stlL b 1 0 i d (pj a v x) := by
  intro d
  induction d with
  | zero => intro i x _ _; rfl
  | succ d ih =>
    intro i x hi hx
    unfold stlL
    obtain ⟨q1, q2, q3, _⟩ := pj_all v hv a ha hav h6 x hx
    rw [q2]
    split
    · rename_i h
      have s3 := (W.s (show i < b.1 by omega) h.1).2
      rw [ih _ _ (by omega) (sb_lt x hx v hv _ s3), q3 _ s3]
    · exact ih _ _ (by omega) hx
theorem pj_stl (W : WB b) (hv : v < 6) (ha : a < 8) (hav : a ≠ v) (h6 : a ≠ 6) (hx : x < 64) : pj a v (stl b a v x) = stl b 1 0 (pj a v x) := by
  obtain ⟨q1, q2, q3, _⟩ := pj_all v hv a ha hav h6 x hx
  unfold stl
  cases e : ru b 107 none none with
  | none => exact pj_stlL W hv ha hav h6 _ _ _ (by omega) hx
  | some r =>
    obtain ⟨r1, r2, _⟩ := ru_some e
    have k3 := W.k r1 r2
    dsimp only
    rw [pj_stlL W hv ha hav h6 _ _ _ (by omega) (sb_lt x hx v hv _ k3), q3 _ k3]
/-- which of the two cells: v 0, a 1 -/
def ix2 (v c : Nat) : Nat := if c = v then 0 else 1
theorem pj_fol (W : WB b) (hv : v < 6) (ha : a < 8) (hav : a ≠ v) (h6 : a ≠ 6) (hx : x < 64) {c of by_ : Nat} (hc : c = v ∨ (c = a ∧ a < 6)) : pj a v (fol b a v x c of by_) = fol b 1 0 (pj a v x) (ix2 v c) of by_ := by
  obtain ⟨q1, q2, q3, _⟩ := pj_all v hv a ha hav h6 x hx
  unfold fol ix2
  by_cases h : c = a
  · have hcv : ¬ c = v := by omega
    rw [if_pos h, if_neg hcv, if_pos rfl]
    cases e : ru b 97 (some of) (some by_) with
    | none => rfl
    | some r =>
      obtain ⟨r1, r2, _⟩ := ru_some e
      have a3 := W.a r1 r2
      dsimp only
      rw [q1, q3]
      split <;> omega
  · have hcv : c = v := by omega
    rw [if_neg h, if_pos hcv, if_neg (by decide)]
theorem pj_sb (hv : v < 6) (ha : a < 8) (hav : a ≠ v) (h6 : a ≠ 6) (hx : x < 64) {c d : Nat} (hc : c = v ∨ (c = a ∧ a < 6)) (hd : d < 2) : pj a v (sb x c d) = sb (pj a v x) (ix2 v c) d ∧ bt (pj a v x) (ix2 v c) = bt x c := by
  obtain ⟨q1, q2, q3, q4⟩ := pj_all v hv a ha hav h6 x hx
  unfold ix2
  by_cases h : c = v
  · subst h
    rw [if_pos rfl]
    exact ⟨q3 d hd, q1⟩
  · obtain ⟨h1, h2⟩ : c = a ∧ a < 6 := by omega
    subst h1
    rw [if_neg h]
    exact ⟨q4 h2 d hd, q2⟩
theorem ix2_lt (v c : Nat) : ix2 v c < 2 := by unfold ix2; split <;> decide
theorem ix2_0 {v c a : Nat} (hav : a ≠ v) (hc : c = v ∨ (c = a ∧ a < 6)) : (ix2 v c = 0 ↔ c = v) ∧ (ix2 v c = 1 ↔ c = a) := by
  unfold ix2
  by_cases h : c = v
  · rw [if_pos h]
    constructor
    · exact ⟨fun _ => h, fun _ => rfl⟩
    · exact ⟨fun q => by omega, fun q => by omega⟩
  · rw [if_neg h]
    constructor
    · exact ⟨fun q => by omega, fun q => by omega⟩
    · exact ⟨fun _ => by omega, fun _ => rfl⟩
theorem pj_wrt (W : WB b) (hv : v < 6) (ha : a < 8) (hav : a ≠ v) (h6 : a ≠ 6) (hx : x < 64) {c d : Nat} (hc : c = v ∨ (c = a ∧ a < 6)) (hd : d < 2) : pj a v (wrt b a v x c d) = wrt b 1 0 (pj a v x) (ix2 v c) d ∧ wrt b a v x c d < 64 := by
  have c6 : c < 6 := by omega
  obtain ⟨_, k2⟩ := pj_sb hv ha hav h6 hx hc hd
  obtain ⟨z0, _⟩ := ix2_0 hav hc
  unfold wrt
  rw [k2]
  have key : ∀ e, e < 2 → pj a v (stl b a v (fol b a v (sb x c e) c (bt x c) d)) = stl b 1 0 (fol b 1 0 (sb (pj a v x) (ix2 v c) e) (ix2 v c) (bt x c) d) ∧ stl b a v (fol b a v (sb x c e) c (bt x c) d) < 64 := by
    intro e he
    have s6 := sb_lt x hx c c6 e he
    have f6 : fol b a v (sb x c e) c (bt x c) d < 64 := fol_ltW W hv s6
    refine ⟨?_, stl_ltW W hv f6⟩
    rw [pj_stl W hv ha hav h6 f6, pj_fol W hv ha hav h6 s6 hc, (pj_sb hv ha hav h6 hx hc he).1]
  by_cases h : c = v
  · rw [if_pos h, if_pos (z0.mpr h)]
    cases e : ru b 118 (some (bt x c)) (some d) with
    | none => exact key d hd
    | some r =>
      obtain ⟨r1, r2, _⟩ := ru_some e
      exact key _ (W.v r1 r2).1
  · rw [if_neg h, if_neg (fun q => h (z0.mp q))]
    exact key d hd
theorem pj_rdd (W : WB b) (hv : v < 6) (ha : a < 8) (hav : a ≠ v) (h6 : a ≠ 6) (hx : x < 64) {c : Nat} (hc : c = v ∨ (c = a ∧ a < 6)) : (rdd b a v x c).1 = (rdd b 1 0 (pj a v x) (ix2 v c)).1 ∧ pj a v (rdd b a v x c).2 = (rdd b 1 0 (pj a v x) (ix2 v c)).2 ∧ (rdd b a v x c).2 < 64 := by
  have c6 : c < 6 := by omega
  obtain ⟨_, k2⟩ := pj_sb (d := 0) hv ha hav h6 hx hc (by decide)
  obtain ⟨z0, _⟩ := ix2_0 hav hc
  unfold rdd
  rw [k2]
  have key : ∀ y, y < 64 → pj a v (stl b a v (fol b a v y c (bt x c) 2)) = stl b 1 0 (fol b 1 0 (pj a v y) (ix2 v c) (bt x c) 2) ∧ stl b a v (fol b a v y c (bt x c) 2) < 64 := by
    intro y hy
    have f6 : fol b a v y c (bt x c) 2 < 64 := fol_ltW W hv hy
    refine ⟨?_, stl_ltW W hv f6⟩
    rw [pj_stl W hv ha hav h6 f6, pj_fol W hv ha hav h6 hy hc]
  by_cases h : c = v
  · rw [if_pos h, if_pos (z0.mpr h)]
    cases e : ru b 118 (some (bt x c)) (some 2) with
    | none => exact ⟨rfl, key x hx⟩
    | some r =>
      obtain ⟨r1, r2, _⟩ := ru_some e
      have v3 := (W.v r1 r2).1
      obtain ⟨y1, y2⟩ := key _ (sb_lt x hx c c6 _ v3)
      rw [(pj_sb hv ha hav h6 hx hc v3).1] at y1
      exact ⟨rfl, y1, y2⟩
  · rw [if_neg h, if_neg (fun q => h (z0.mp q))]
    exact ⟨rfl, key x hx⟩
theorem pj_wAt (W : WB b) (hv : v < 6) (ha : a < 8) (hav : a ≠ v) (h6 : a ≠ 6) (hx : x < 64) {c d : Nat} (hc : c = v ∨ (c = a ∧ a < 6)) (hd : d < 2) : pj a v (wAt b a v x c d) = wAt b 1 0 (pj a v x) (ix2 v c) d ∧ wAt b a v x c d < 64 := by
  obtain ⟨z0, z1⟩ := ix2_0 hav hc
  obtain ⟨v1, v2⟩ := pj_wrt W hv ha hav h6 hx (c := v) (d := d) (Or.inl rfl) hd
  obtain ⟨c1, c2⟩ := pj_wrt W hv ha hav h6 hx (c := c) (d := d) hc hd
  obtain ⟨b1, b2⟩ := pj_wrt W hv ha hav h6 c2 (c := v) (d := d) (Or.inl rfl) hd
  have iv : ix2 v v = 0 := by unfold ix2; rw [if_pos rfl]
  rw [iv] at v1 b1
  unfold wAt
  simp only [z0, z1]
  split
  · exact ⟨rfl, hx⟩
  · split
    · exact ⟨v1, v2⟩
    · split
      · rw [b1, c1]
        exact ⟨rfl, b2⟩
      · exact ⟨c1, c2⟩
theorem pj_rAt (W : WB b) (hv : v < 6) (ha : a < 8) (hav : a ≠ v) (h6 : a ≠ 6) (hx : x < 64) {c : Nat} (hc : c = v ∨ (c = a ∧ a < 6)) : (rAt b a v x c).1 = (rAt b 1 0 (pj a v x) (ix2 v c)).1 ∧ pj a v (rAt b a v x c).2 = (rAt b 1 0 (pj a v x) (ix2 v c)).2 ∧ (rAt b a v x c).2 < 64 := by
  obtain ⟨z0, z1⟩ := ix2_0 hav hc
  obtain ⟨v0, v1, v2⟩ := pj_rdd W hv ha hav h6 hx (c := v) (Or.inl rfl)
  obtain ⟨c0, c1, c2⟩ := pj_rdd W hv ha hav h6 hx (c := c) hc
  obtain ⟨b0, b1, b2⟩ := pj_rdd W hv ha hav h6 c2 (c := v) (Or.inl rfl)
  have iv : ix2 v v = 0 := by unfold ix2; rw [if_pos rfl]
  rw [iv] at v0 v1 b0 b1
  unfold rAt
  simp only [z0, z1]
  split
  · exact ⟨rfl, rfl, hx⟩
  · split
    · exact ⟨v0, v1, v2⟩
    · split
      · dsimp only
        rw [b0, b1, c0, c1]
        exact ⟨rfl, rfl, b2⟩
      · exact ⟨c0, c1, c2⟩
end PJ
