/-! Class: placements; what is caught, both ways of asking. -/
def MPok (N : Nat) (mp ad : Nat → Nat) : Prop := (∀ i, i < 6 → mp i < 6) ∧ (∀ i, i < N → mp i < N) ∧ (∀ i, i < 6 → ∀ j, j < 6 → mp i = mp j → i = j) ∧ ∀ c, c < N → ad c < N ∧ mp (ad c) = c
def aT (b : Book) (N : Nat) (ad : Nat → Nat) (p : Nat) : Nat := if pr b = true then ad (pA b N p) else if ad (pV b N p) = 0 then 1 else 0
def vT (b : Book) (N : Nat) (ad : Nat → Nat) (p : Nat) : Nat := ad (pV b N p)
theorem at_ok {b : Book} {N p : Nat} {mp ad : Nat → Nat} (W : WB b) (h2 : 2 ≤ N) (h6 : N ≤ 6) (hp : p < nP b N) (A : MPok N mp ad) : aT b N ad p < N ∧ vT b N ad p < N ∧ aT b N ad p ≠ vT b N ad p ∧ mp (vT b N ad p) = pV b N p ∧ (pr b = true → mp (aT b N ad p) = pA b N p) := by
  obtain ⟨_, pl, pv, pa⟩ := pl_of W h2 h6 hp
  obtain ⟨v1, v2⟩ := A.2.2.2 _ pv
  unfold aT vT
  by_cases h : pr b = true
  · obtain ⟨a1, a2⟩ := A.2.2.2 _ (pa h)
    rw [if_pos h]
    refine ⟨a1, v1, ?_, v2, fun _ => a2⟩
    intro q
    rw [q, v2] at a2
    rcases pl with z | z
    · have := W.2.1; omega
    · rcases z.2.2 with y | y
      · exact y.2.2 a2.symm
      · rw [h] at y; cases y.1
  · rw [if_neg h]
    refine ⟨by split <;> omega, v1, by split <;> omega, v2, fun q => absurd q h⟩
theorem geo_of {b : Book} {N p : Nat} {mp ad : Nat → Nat} {M : Mch} (W : WB b) (hM : WM M) (h2 : 2 ≤ N) (h6 : N ≤ 6) (hp : p < nP b N) (A : MPok N mp ad) : Geo b (pA b N p) (pV b N p) N mp M := ⟨(pl_of W h2 h6 hp).2.1, W.2.1, hM, h2, h6, fun i hi => A.1 i (by omega), fun i hi j hj h => A.2.2.1 i (by omega) j (by omega) h⟩
def ordP (b : Book) (N : Nat) (ad : Nat → Nat) (p : Nat) : Bool := decide (aT b N ad p < vT b N ad p)
theorem escF_none {E : Nat → Nat → Bool} {K : Nat} : ∀ d c, escF E K c d = none ↔ ∀ i, c ≤ i → i < c + d → fsN (E i) 0 K = none := by
  intro d
  induction d with
  | zero => intro c; exact ⟨fun _ i h1 h2 => by omega, fun _ => rfl⟩
  | succ d ih =>
    intro c
    unfold escF
    cases e : fsN (E c) 0 K with
    | some ch =>
      constructor
      · intro h; cases h
      · intro h
        have := h c (Nat.le_refl _) (by omega)
        rw [e] at this
        cases this
    | none =>
      dsimp only
      rw [ih (c + 1)]
      constructor
      · intro h i h1 h2
        by_cases q : i = c
        · subst q; exact e
        · exact h i (by omega) (by omega)
      · intro h i h1 h2
        exact h i (by omega) (by omega)
theorem cov2a : ∀ N, N < 7 → ∀ v, v < N → ∀ a, a < N → ∀ s, s < 4 → sb (sb 0 v (s % 2)) a (s / 2) < 2 ^ N := by decide +kernel
theorem cov2b : ∀ v, v < 6 → ∀ a, a < 6 → a ≠ v → ∀ s, s < 4 → pj a v (sb (sb 0 v (s % 2)) a (s / 2)) = s := by decide +kernel
theorem cov2 (N : Nat) (hN : N < 7) (v : Nat) (hv : v < N) (a : Nat) (ha : a < N) (hav : a ≠ v) (s : Nat) (hs : s < 4) : ∃ c, c < 2 ^ N ∧ c < 64 ∧ pj a v c = s := by
  have p64 : 2 ^ N ≤ 64 := by
    have : ∀ k, k < 7 → 2 ^ k ≤ 64 := by decide
    exact this N hN
  have h1 := cov2a N hN v hv a ha s hs
  exact ⟨_, h1, by omega, cov2b v (by omega) a (by omega) hav s hs⟩
theorem cov1 : ∀ N, N < 7 → ∀ v, v < N → ∀ s, s < 2 → sb 0 v s < 2 ^ N ∧ sb 0 v s < 64 ∧ pj 7 v (sb 0 v s) = s := by decide +kernel
theorem Ebl_bl {b : Book} {N p : Nat} {mp ad : Nat → Nat} {M : Mch} (W : WB b) (hM : WM M) (h2 : 2 ≤ N) (h6 : N ≤ 6) (hp : p < nP b N) (A : MPok N mp ad) {c : Nat} (c6 : c < 64) : fsN (Ebl b (pA b N p) (pV b N p) N mp M c) 0 (nCh M) = fbc b (ordP b N ad p) M (pj (pA b N p) (pV b N p) c) := by
  obtain ⟨q1, q2, q3, q4, q5⟩ := at_ok W h2 h6 hp A
  have G := geo_of (M := M) W hM h2 h6 hp A
  unfold fbc
  refine fsN_congr (fun ch _ _ => ?_)
  unfold Ebl ordP
  exact (bl_rl G q1 q2 q3 q4 q5 c6).symm
theorem catch_eq {b : Book} {N p : Nat} {mp ad : Nat → Nat} {M : Mch} (W : WB b) (hM : WM M) (h2 : 2 ≤ N) (h6 : N ≤ 6) (hp : p < nP b N) (A : MPok N mp ad) : (escF (Ebl b (pA b N p) (pV b N p) N mp M) (nCh M) 0 (2 ^ N)).isNone = seen b (ordP b N ad p) M := by
  have p64 : 2 ^ N ≤ 64 := by
    have : ∀ k, k < 7 → 2 ^ k ≤ 64 := by decide
    exact this N (by omega)
  obtain ⟨_, pl, pv, pa⟩ := pl_of W h2 h6 hp
  have key : (escF (Ebl b (pA b N p) (pV b N p) N mp M) (nCh M) 0 (2 ^ N) = none) ↔ seen b (ordP b N ad p) M = true := by
    rw [escF_none, seen_iff]
    constructor
    · intro h s s4
      cases hpr : pr b with
      | true =>
        have pa' := pa hpr
        have ne : pA b N p ≠ pV b N p := by
          rcases pl with z | z
          · have := W.2.1; omega
          · rcases z.2.2 with y | y
            · exact y.2.2
            · rw [hpr] at y; cases y.1
        obtain ⟨c, c1, c2, c3⟩ := cov2 N (by omega) _ pv _ pa' ne s s4
        have := h c (Nat.zero_le _) (by omega)
        rw [Ebl_bl W hM h2 h6 hp A c2, c3] at this
        exact this
      | false =>
        have a7 : pA b N p = 7 := by unfold pA; rw [if_neg (by rw [hpr]; decide)]
        obtain ⟨c1, c2, c3⟩ := cov1 N (by omega) _ pv (s % 2) (by omega)
        have := h _ (Nat.zero_le _) (show sb 0 (pV b N p) (s % 2) < 0 + 2 ^ N by omega)
        rw [Ebl_bl W hM h2 h6 hp A c2, a7, c3] at this
        rw [← this]
        unfold fbc
        exact fsN_congr (fun ch _ _ => bl_one W hM hpr s4)
    · intro h i _ hi
      rw [Ebl_bl W hM h2 h6 hp A (by omega)]
      exact h _ (pj4 _ _ _)
  cases e : escF (Ebl b (pA b N p) (pV b N p) N mp M) (nCh M) 0 (2 ^ N) with
  | none => rw [key.mp e]; rfl
  | some z =>
    cases hs : seen b (ordP b N ad p) M with
    | false => rfl
    | true =>
      have := key.mpr hs
      rw [e] at this
      cases this
def ask (b : Book) (N : Nat) (nr : Bool) (p : Nat) : Bool := decide (nr = false ∨ pr b = false ∨ pA b N p = pV b N p + 1 ∨ pV b N p = pA b N p + 1)
def cntF (f : Nat → Bool) : Nat → Nat → Nat
  | _, 0 => 0
  | i, d + 1 => (if f i = true then 1 else 0) + cntF f (i + 1) d
theorem cnt_t {f : Nat → Bool} {i d : Nat} (h : f i = true) : cntF f i (d + 1) = 1 + cntF f (i + 1) d := by rw [cntF, if_pos h]
theorem cnt_f {f : Nat → Bool} {i d : Nat} (h : f i = false) : cntF f i (d + 1) = cntF f (i + 1) d := by rw [cntF, if_neg (by rw [h]; decide), Nat.zero_add]
theorem cntF_congr {f g : Nat → Bool} : ∀ {d i : Nat}, (∀ r, i ≤ r → r < i + d → f r = g r) → cntF f i d = cntF g i d := by
  intro d
  induction d with
  | zero => intro i _; rfl
  | succ d ih =>
    intro i h
    unfold cntF
    rw [h i (Nat.le_refl _) (by omega), ih (fun r h1 h2 => h r (by omega) (by omega))]
theorem cntF_le {f : Nat → Bool} : ∀ {d i : Nat}, cntF f i d ≤ d := by
  intro d
  induction d with
  | zero => intro i; exact Nat.le_refl _
  | succ d ih =>
    intro i
    have := ih (i := i + 1)
    unfold cntF
    split <;> omega
theorem nr_lem : ∀ a, a < 6 → ∀ v, v < 6 → ((nI a - nI v = (1 : Int32)) ↔ a = v + 1) ∧ ((nI a - nI v = (-1 : Int32)) ↔ v = a + 1) ∧ ((nI v - nI a = (1 : Int32)) ↔ v = a + 1) := by decide +kernel
section CP
variable {w0 : HS} {x r kp mq q N : Nat} {b : Book} {M : Mch} {mp ad : Nat → Nat}
/-- class: the memory's cells by address -/
def LVq (w : HS) (x q N : Nat) (mp ad : Nat → Nat) : Prop := hp w x 5 = some q ∧ hc w q = 3 ∧ hi w q 0 = nI N ∧ 2 ≤ N ∧ N ≤ 6 ∧ (∀ i, i < 6 → ha w q 10 i = nI (mp i)) ∧ MPok N mp ad
def KL (w : HS) (x r kp mq : Nat) (b : Book) (M : Mch) (q N : Nat) (mp ad : Nat → Nat) : Prop := KT w x r kp mq b M ∧ LVq w x q N mp ad
theorem LVq.fr {P : Nat → Nat → Prop} {w w' : HS} (h : LVq w x q N mp ad) (f : Fr P w w') (n5 : ¬ P x 5) (n0 : ¬ P q 0) (n10 : ¬ P q 10) : LVq w' x q N mp ad := by
  obtain ⟨h1, h2, h3, h4, h5, h6, h7⟩ := h
  exact ⟨by rw [f.o n5]; exact h1, by rw [f.c]; exact h2, by rw [f.i n0]; exact h3, h4, h5, by rw [f.ar n10]; exact h6, h7⟩
theorem KL.at {w : HS} (G : KL w0 x r kp mq b M q N mp ad) (f : Fr (PT r) w0 w) : KL w x r kp mq b M q N mp ad := by
  obtain ⟨g1, g2⟩ := G
  have hr := g1.2.2.1
  have hx := g1.1
  have hq := g2.2.1
  refine ⟨g1.at f, g2.fr f (fun z => ?_) (fun z => ?_) (fun z => ?_)⟩
  · unfold PT at z; rw [z, hr] at hx; cases hx
  · unfold PT at z; rw [z, hr] at hq; cases hq
  · unfold PT at z; rw [z, hr] at hq; cases hq
theorem ck_np {w : HS} (K : CK w kp b) (h2 : 2 ≤ N) : FX1_placements w kp (nI N) = some (nI (nP b N), w) := by
  unfold FX1_placements nP
  refine E_c K.1 ?_
  rw [K.2.2.1]
  cases hp : pr b with
  | true =>
    refine E_f (by decide) ?_
    rw [l1_, nI_subc (by omega), nI_mul]
    rfl
  | false => exact E_t rfl rfl
theorem mx1 (h2 : 2 ≤ N) (h6 : N ≤ 6) : (if (1 : Int32) < (nI N - (1 : Int32)) then (nI N - (1 : Int32)) else (1 : Int32)) = nI (N - 1) := by
  rw [l1_, nI_subc (by omega)]
  by_cases h : 1 < N - 1
  · rw [if_pos (nI_lt h (by omega))]
  · rw [if_neg (nI_nlt (by omega) (by omega)), show N - 1 = 1 from by omega]
theorem ck_pA {w : HS} (K : CK w kp b) (W : WB b) (h2 : 2 ≤ N) (h6 : N ≤ 6) {p : Nat} (hp : p < nP b N) : FX1_aggressorOf w kp (nI p) (nI N) = some (cI (pA b N p), w) := by
  obtain ⟨p32, pl, pv, pa⟩ := pl_of W h2 h6 hp
  unfold FX1_aggressorOf
  rw [K.2.2.1, mx1 h2 h6]
  refine E_c K.1 ?_
  cases hpr : pr b with
  | false =>
    refine E_t rfl ?_
    unfold pA
    rw [hpr]
    rfl
  | true =>
    have := pa hpr
    have e : pA b N p = p / (N - 1) := by unfold pA; rw [if_pos hpr]
    refine E_f (by decide) (E_k (decide_eq_true (nI_ne0 (by omega) (by omega))) ?_)
    rw [(div_s p p32 (N - 1) (by omega) (by omega)).1, cI_n (by omega), e]
theorem ck_pV {w : HS} (K : CK w kp b) (W : WB b) (h2 : 2 ≤ N) (h6 : N ≤ 6) {p : Nat} (hp : p < nP b N) : FX1_victimOf w kp (nI p) (nI N) = some (nI (pV b N p), w) := by
  obtain ⟨p32, pl, pv, pa⟩ := pl_of W h2 h6 hp
  unfold FX1_victimOf
  rw [K.2.2.1, mx1 h2 h6]
  refine E_c K.1 ?_
  cases hpr : pr b with
  | false =>
    refine E_t rfl ?_
    unfold pV
    rw [hpr]
    rfl
  | true =>
    have e : pV b N p = if p % (N - 1) < p / (N - 1) then p % (N - 1) else p % (N - 1) + 1 := by unfold pV; rw [if_pos hpr]
    obtain ⟨d1, d2⟩ := div_s p p32 (N - 1) (by omega) (by omega)
    have z1 : ¬ nI (N - 1) = 0 := nI_ne0 (by omega) (by omega)
    have ml : p % (N - 1) < N - 1 := Nat.mod_lt _ (by omega)
    have dl : p / (N - 1) ≤ p := Nat.div_le_self _ _
    refine E_f (by decide) (E_k (decide_eq_true z1) (E_k (decide_eq_true z1) ?_))
    rw [d2, d1, e]
    by_cases hlt : p % (N - 1) < p / (N - 1)
    · rw [if_pos hlt]
      exact E_f (nI_ge hlt (by omega)) rfl
    · rw [if_neg hlt]
      refine E_t (nI_le (by omega) (by omega)) ?_
      rw [nI_1]
theorem lv_addr {w : HS} (L : LVq w x q N mp ad) {c : Nat} (hc6 : c < N) : FX3_addressOf w q (nI c) = some (nI (ad c), w) := by
  obtain ⟨h1, h2, h3, h4, h5, h6, A⟩ := L
  obtain ⟨a1, a2⟩ := A.2.2.2 c hc6
  have loop : ∀ d i n, i + d = 6 → d < n → i ≤ ad c → FX3_addressOf_2 n w q (nI c) (nI i) = some (nI (ad c), w) := by
    intro d
    induction d with
    | zero => intro i n he hn hi; omega
    | succ d ih =>
      intro i n he hn hi
      obtain ⟨n, rfl⟩ : ∃ z, n = z + 1 := ⟨n - 1, by omega⟩
      have mi := A.1 i (by omega)
      rw [FX3_addressOf_2, nI_clamp (by omega), h6 i (by omega)]
      refine E_f (nI_ge (b := 6) (by omega) (by decide)) (E_i rfl (by omega) (by decide) ?_)
      by_cases e : mp i = c
      · have : i = ad c := A.2.2.1 i (by omega) _ (by omega) (e.trans a2.symm)
        rw [← this]
        exact E_t (by rw [e]) rfl
      · refine E_f (fun z => e ((nI_eq (by omega) (by omega)).mp z)) ?_
        rw [nI_1]
        refine ih (i + 1) n (by omega) (by omega) ?_
        by_cases q : i = ad c
        · rw [q] at e; exact absurd a2 e
        · omega
  unfold FX3_addressOf
  exact E_c h2 (loop 6 0 FUEL (by omega) (fuel_lt (by omega)) (Nat.zero_le _))
theorem kl_aim (G : KL w0 x r kp mq b M q N mp ad) {w : HS} (f : Fr (PT r) w0 w) {p : Nat} (hp : p < nP b N) : Rn (FX8_aim w x kp (nI p)) (fun _ w' => Fr (PT r) w0 w' ∧ AT w' r N (aT b N ad p) (vT b N ad p)) := by
  obtain ⟨⟨g1, g2, g3, g4, g5, g6, g7⟩, L⟩ := G.at f
  obtain ⟨l1, l2, l3, l4, l5, l6, l7⟩ := id L
  obtain ⟨a1, a2, a3, a4, a5⟩ := at_ok g5 l4 l5 hp l7
  obtain ⟨p32, pl, pv, pa⟩ := pl_of g5 l4 l5 hp
  have fin : ∀ z : Nat, z = aT b N ad p → Rn (FX8_aim_59 w x (nI (vT b N ad p)) (nI z)) (fun _ w' => Fr (PT r) w0 w' ∧ AT w' r N (aT b N ad p) (vT b N ad p)) := by
    intro z hz
    subst hz
    unfold FX8_aim_59
    refine Rn.pp g2 (Rn.pp l1 (Rn.okc l2 ?_))
    obtain ⟨w1, e1, f1, A1⟩ := kt_place (w := w) (N := N) (aAt := aT b N ad p) (vAt := vT b N ad p) g3
    rw [l3]
    exact Rn.eq e1 (Rn.ret ⟨f.trans f1, A1 l5 a1 a2⟩)
  have f29 : ∀ s0 : Nat, (pr b = false → s0 = aT b N ad p) → Rn (FX8_aim_29 w x kp (nI p) (nI (vT b N ad p)) (nI s0)) (fun _ w' => Fr (PT r) w0 w' ∧ AT w' r N (aT b N ad p) (vT b N ad p)) := by
    intro s0 hs0
    unfold FX8_aim_29
    refine Rn.okc g4.1 ?_
    rw [g4.2.2.1]
    cases hpr : pr b with
    | false => exact Rn.t rfl (fin s0 (hs0 hpr))
    | true =>
      refine Rn.f (by decide) (Rn.pp l1 (Rn.pp l1 (Rn.okc l2 ?_)))
      rw [l3]
      refine Rn.eq (ck_pA g4 g5 l4 l5 hp) ?_
      have pa' := pa hpr
      dsimp only
      rw [cI_n (by omega)]
      refine Rn.eq (lv_addr L pa') ?_
      refine fin _ ?_
      unfold aT
      rw [if_pos hpr]
  unfold FX8_aim
  refine Rn.okc g1 (Rn.pp l1 (Rn.pp l1 (Rn.okc l2 ?_)))
  rw [l3]
  refine Rn.eq (ck_pV g4 g5 l4 l5 hp) (Rn.eq (lv_addr L pv) ?_)
  dsimp only
  by_cases h0 : ad (pV b N p) = 0
  · refine Rn.t (by rw [h0]; rfl) (f29 1 (fun hpr => ?_))
    unfold aT
    rw [if_neg (by rw [hpr]; decide), if_pos h0]
  · refine Rn.f (nI_ne0 (by omega) (by unfold vT at a2; omega)) (f29 0 (fun hpr => ?_))
    unfold aT
    rw [if_neg (by rw [hpr]; decide), if_neg h0]
theorem onT_bit (b : Book) (M : Mch) (o : Bool) : (nI (onT b M) &&& (if o = true then (1 : Int32) else 2)) = 0 ↔ seen b o M = false := by
  unfold onT
  cases h1 : seen b true M <;> cases h2 : seen b false M <;> cases o <;> simp only [h1, h2] <;> decide
theorem kl_caught (G : KL w0 x r kp mq b M q N mp ad) {w : HS} (f : Fr (PT r) w0 w) {p : Nat} (hp : p < nP b N) : Rn (FX8_isCaught w x kp (nI p) (nI (onT b M))) (fun z w' => z = (if seen b (ordP b N ad p) M = true then 1 else 0) ∧ Fr (PT r) w0 w') := by
  unfold FX8_isCaught
  refine Rn.okc (G.at f).1.1 ((kl_aim G f hp).call ?_)
  intro _ w1 ⟨f1, A⟩
  have g2 := (G.at f1).1.2.1
  have g3 := (G.at f1).1.2.2.1
  have a6 := A.2.2.2.1
  have aa := A.2.2.2.2.1
  have av := A.2.2.2.2.2
  refine Rn.pp g2 (Rn.okc g3 (Rn.pp g2 (Rn.okc g3 ?_)))
  dsimp only
  rw [A.1, A.2.1]
  have fin : ∀ o : Bool, o = ordP b N ad p → Rn (FX8_isCaught_29 w1 (if o = true then (1 : Int32) else 2) (nI (onT b M))) (fun z w' => z = (if seen b (ordP b N ad p) M = true then 1 else 0) ∧ Fr (PT r) w0 w') := by
    intro o ho
    subst ho
    unfold FX8_isCaught_29
    cases hs : seen b (ordP b N ad p) M with
    | false => exact Rn.t ((onT_bit b M _).mpr hs) (Rn.ret ⟨rfl, f1⟩)
    | true => exact Rn.f (fun z => by rw [(onT_bit b M _).mp z] at hs; cases hs) (Rn.ret ⟨rfl, f1⟩)
  by_cases hlt : aT b N ad p < vT b N ad p
  · exact Rn.f (nI_ge hlt (by omega)) (fin true (decide_eq_true hlt).symm)
  · exact Rn.t (nI_le (by omega) (by omega)) (fin false (decide_eq_false hlt).symm)
theorem kl_asked (G : KL w0 x r kp mq b M q N mp ad) {w : HS} (f : Fr (PT r) w0 w) {p : Nat} (hp : p < nP b N) {nr : Bool} {vn : Int32} (hn : vn = 0 ↔ nr = false) : FX8_isAsked w x kp (nI p) vn = some (if ask b N nr p = true then 1 else 0, w) := by
  obtain ⟨⟨g1, g2, g3, g4, g5, g6, g7⟩, L⟩ := G.at f
  obtain ⟨l1, l2, l3, l4, l5, l6, l7⟩ := id L
  obtain ⟨p32, pl, pv, pa⟩ := pl_of g5 l4 l5 hp
  unfold FX8_isAsked
  refine E_c g1 ?_
  by_cases h0 : vn = 0
  · refine E_t h0 ?_
    rw [show ask b N nr p = true from decide_eq_true (Or.inl (hn.mp h0))]
    rfl
  · refine E_f h0 (E_c g4.1 ?_)
    rw [g4.2.2.1]
    cases hpr : pr b with
    | false =>
      refine E_t rfl ?_
      rw [show ask b N nr p = true from decide_eq_true (Or.inr (Or.inl hpr))]
      rfl
    | true =>
      have pa' := pa hpr
      have nr1 : nr = true := by
        cases hb : nr with
        | true => rfl
        | false => exact absurd (hn.mpr hb) h0
      obtain ⟨n1, n2, _⟩ := nr_lem (pA b N p) (by omega) (pV b N p) (by omega)
      refine E_f (by decide) (E_b l1 (E_c l2 ?_))
      rw [l3]
      refine E_b (ck_pA g4 g5 l4 l5 hp) (E_b l1 (E_c l2 ?_))
      dsimp only
      rw [l3]
      refine E_b (ck_pV g4 g5 l4 l5 hp) ?_
      dsimp only
      rw [cI_n (by omega)]
      by_cases h1 : pA b N p = pV b N p + 1
      · refine E_t (n1.mpr h1) ?_
        rw [show ask b N nr p = true from decide_eq_true (Or.inr (Or.inr (Or.inl h1)))]
        rfl
      · refine E_f (fun z => h1 (n1.mp z)) ?_
        by_cases h2 : pV b N p = pA b N p + 1
        · refine E_t (n2.mpr h2) ?_
          rw [show ask b N nr p = true from decide_eq_true (Or.inr (Or.inr (Or.inr h2)))]
          rfl
        · refine E_f (fun z => h2 (n2.mp z)) ?_
          rw [show ask b N nr p = false from decide_eq_false (fun z => by
            rcases z with z | z | z | z
            · rw [nr1] at z; cases z
            · rw [hpr] at z; cases z
            · exact h1 z
            · exact h2 z)]
          rfl
theorem kl_caught_loop (G : KL w0 x r kp mq b M q N mp ad) {nr : Bool} {vn : Int32} (hn : vn = 0 ↔ nr = false) : ∀ d p n acc w, p + d = nP b N → d < n → Fr (PT r) w0 w → Rn (FX8_caught_36 n w x vn kp (nI (onT b M)) (nI acc) (nI p)) (fun z w' => z = nI (acc + cntF (fun p => ask b N nr p && seen b (ordP b N ad p) M) p d) ∧ Fr (PT r) w0 w') := by
  have l4 := G.2.2.2.2.1
  have l5 := G.2.2.2.2.2.1
  have n30 : nP b N ≤ 30 := by
    unfold nP
    have := nP_le N (by omega) l4
    split <;> omega
  intro d
  induction d with
  | zero =>
    intro p n acc w he hn' f
    obtain ⟨n, rfl⟩ : ∃ z, n = z + 1 := ⟨n - 1, by omega⟩
    have Gw := G.at f
    rw [FX8_caught_36]
    refine Rn.pp Gw.2.1 (Rn.okc Gw.2.2.1 ?_)
    rw [Gw.2.2.2.1]
    exact Rn.eq (ck_np Gw.1.2.2.2.1 l4) (Rn.t (nI_le (by omega) (by omega)) (Rn.ret ⟨rfl, f⟩))
  | succ d ih =>
    intro p n acc w he hn' f
    obtain ⟨n, rfl⟩ : ∃ z, n = z + 1 := ⟨n - 1, by omega⟩
    have Gw := G.at f
    rw [FX8_caught_36]
    refine Rn.pp Gw.2.1 (Rn.okc Gw.2.2.1 ?_)
    rw [Gw.2.2.2.1]
    refine Rn.eq (ck_np Gw.1.2.2.2.1 l4) (Rn.f (nI_ge (by omega) (by omega)) (Rn.eq (kl_asked G f (by omega) hn) ?_))
    dsimp only
    unfold FX8_caught_81
    rw [nI_1 p]
    cases ha : ask b N nr p with
    | false =>
      refine Rn.t rfl ?_
      refine (ih (p + 1) n acc w (by omega) (by omega) f).mono (fun z w' h => ⟨?_, h.2⟩)
      rw [h.1, cnt_f (by show (ask b N nr p && _) = false; rw [ha]; rfl)]
    | true =>
      refine Rn.f (by decide) ((kl_caught G f (by omega)).call ?_)
      intro z1 w1 ⟨h1, f1⟩
      dsimp only
      rw [h1, nI_1 acc]
      cases hs : seen b (ordP b N ad p) M with
      | false =>
        refine Rn.t rfl ?_
        refine (ih (p + 1) n acc w1 (by omega) (by omega) f1).mono (fun z w' h => ⟨?_, h.2⟩)
        rw [h.1, cnt_f (by show (ask b N nr p && seen b (ordP b N ad p) M) = false; rw [ha, hs]; rfl)]
      | true =>
        refine Rn.f (by decide) ?_
        refine (ih (p + 1) n (acc + 1) w1 (by omega) (by omega) f1).mono (fun z w' h => ⟨?_, h.2⟩)
        rw [h.1, cnt_t (by show (ask b N nr p && seen b (ordP b N ad p) M) = true; rw [ha, hs]; rfl), Nat.add_assoc]
end CP
