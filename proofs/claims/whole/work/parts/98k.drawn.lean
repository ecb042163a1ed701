/-! drawn. -/
/-- one trial by draws, from x on: does it fail; x then -/
def hitD (B : Nat → Book) (N : Nat) (mp : Nat → Nat) (M : Mch) (kn X : Nat) : Bool := decide (0 < (rL (B (dvD (nxD X) kn)) (pA (B (dvD (nxD X) kn)) N (dvD (nxD (nxD X)) (nP (B (dvD (nxD X) kn)) N))) (pV (B (dvD (nxD X) kn)) N (dvD (nxD (nxD X)) (nP (B (dvD (nxD X) kn)) N))) N mp M (dvD (nxD (nxD (nxD (nxD X)))) 8) (dvD (nxD (nxD (nxD X))) (2 ^ N))).length)
def nx4 (X : Nat) : Nat := nxD (nxD (nxD (nxD X)))
def cntD (B : Nat → Book) (N : Nat) (mp : Nat → Nat) (M : Mch) (kn : Nat) : Nat → Nat → Nat
  | 0, _ => 0
  | d + 1, X => (if hitD B N mp M kn X = true then 1 else 0) + cntD B N mp M kn d (nx4 X)
theorem cntD_le {B : Nat → Book} {N : Nat} {mp : Nat → Nat} {M : Mch} {kn : Nat} : ∀ d X, cntD B N mp M kn d X ≤ d := by
  intro d
  induction d with
  | zero => intro X; exact Nat.le_refl _
  | succ d ih =>
    intro X
    have := ih (nx4 X)
    show (if _ then 1 else 0) + _ ≤ _
    split <;> omega
theorem dv_lt {X k : Nat} (h : 0 < k) : dvD X k < k := Nat.mod_lt _ h
theorem nP_pos {b : Book} {N : Nat} (h2 : 2 ≤ N) (h6 : N ≤ 6) : 0 < nP b N ∧ nP b N < 31 := by
  unfold nP
  split
  · have := nP_le N (by omega) h2
    have : 0 < N * (N - 1) := Nat.mul_pos (by omega) (by omega)
    omega
  · omega
section DW
variable {w : HS} {x r q m kn mn N mi : Nat} {B : Nat → Book} {MM : Nat → Mch} {mp ad : Nat → Nat}
def PDc (x r : Nat) : Nat → Nat → Prop := fun b k => b = r ∨ (b = x ∧ k = 11)
theorem CX.dc {w' : HS} (C : CX w x r kn mn B MM) (f : Fr (PDc x r) w w') : CX w' x r kn mn B MM := by
  refine C.ks (Ke.of f) ?_ ?_
  · have h8 := C.1
    have h7 := C.2.2.1
    have xr : x ≠ r := by intro e; rw [e, h7] at h8; cases h8
    unfold PDc
    refine ⟨by omega, by omega, by omega, by omega, by omega, by omega⟩
  · intro p hp k z
    rcases z with z | z
    · have := C.2.2.1; rw [← z] at this; omega
    · have := C.1; rw [← z.1] at this; omega
theorem LVq.dc {w' : HS} (C : CX w x r kn mn B MM) (L : LVq w x q N mp ad) (f : Fr (PDc x r) w w') : LVq w' x q N mp ad := by
  have h8 := C.1
  have h7 := C.2.2.1
  have h3 := L.2.1
  have xr : x ≠ r := by intro e; rw [e, h7] at h8; cases h8
  have qr : q ≠ r := by intro e; rw [e, h7] at h3; cases h3
  have qx : q ≠ x := by intro e; rw [e, h8] at h3; cases h3
  exact L.fr f (by unfold PDc; omega) (by unfold PDc; omega) (by unfold PDc; omega)
/-- class: the draws -/
theorem drawn_c {w0 : HS} {p v4 : Nat} {mm : Nat} (hmi : mi < mn) (hqp : hq w0 x 3 mi = some p) (kn0 : 0 < kn) (m50 : mm ≤ 50) (v31 : v4 < 2 ^ 31) : ∀ d i n s X w, i + d = mm → d < n → s ≤ i → Fr (PDc x r) w0 w → CX w x r kn mn B MM → LVq w x q N mp ad → hi w x 11 = nI X → X < 2 ^ 31 → ∃ w', FX8_drawn_42 n w x (nI mm) p (nI v4) (nI s) (nI i) = some (nI (s + cntD B N mp (MM mi) kn d X), w') ∧ Fr (PDc x r) w0 w' ∧ hi w' x 11 = nI v4 := by
  intro d
  induction d with
  | zero =>
    intro i n s X w he hn hs f C L hX X31
    obtain ⟨n, rfl⟩ : ∃ z, n = z + 1 := ⟨n - 1, by omega⟩
    refine ⟨setI w x 11 (nI v4), ?_, f.trans (Fr.sI (Or.inr ⟨rfl, rfl⟩)), by rw [hi_setI, if_pos ⟨rfl, rfl⟩]⟩
    rw [FX8_drawn_42]
    exact E_t (nI_le (by omega) (by omega)) (E_d rfl)
  | succ d ih =>
    intro i n s X w he hn hs f C L hX X31
    obtain ⟨n, rfl⟩ : ∃ z, n = z + 1 := ⟨n - 1, by omega⟩
    have kn8 := C.2.2.2.2.1
    obtain ⟨l1, l2, l3, l4, l5, l6, A⟩ := id L
    obtain ⟨p64a, p64, p640, _⟩ := pw_c N (by omega)
    -- the four draws
    have n1 := nxD_lt X
    have n2 := nxD_lt (nxD X)
    have n3 := nxD_lt (nxD (nxD X))
    have n4 := nxD_lt (nxD (nxD (nxD X)))
    obtain ⟨k, hk⟩ : ∃ k, k = dvD (nxD X) kn := ⟨_, rfl⟩
    have kl : k < kn := by rw [hk]; exact dv_lt kn0
    have e1 := draw_c (k := kn) C.1 hX X31 kn0 (by omega)
    rw [← hk] at e1
    obtain ⟨w1, hw1⟩ : ∃ w1, w1 = setI w x 11 (nI (nxD X)) := ⟨_, rfl⟩
    rw [← hw1] at e1
    have f1 : Fr (PDc x r) w w1 := by rw [hw1]; exact Fr.sI (Or.inr ⟨rfl, rfl⟩)
    have X1 : hi w1 x 11 = nI (nxD X) := by rw [hw1, hi_setI, if_pos ⟨rfl, rfl⟩]
    have C1 := C.dc f1
    have L1 := L.dc C f1
    obtain ⟨kp, ek, K1, W, hqk⟩ := cx_kind C1 kl
    obtain ⟨npos, np31⟩ := nP_pos (b := B k) l4 l5
    obtain ⟨pl, hpl⟩ : ∃ pl, pl = dvD (nxD (nxD X)) (nP (B k) N) := ⟨_, rfl⟩
    have pll : pl < nP (B k) N := by rw [hpl]; exact dv_lt npos
    have e2 := draw_c (k := nP (B k) N) C1.1 X1 n1 npos (by omega)
    rw [← hpl] at e2
    obtain ⟨w2, hw2⟩ : ∃ w2, w2 = setI w1 x 11 (nI (nxD (nxD X))) := ⟨_, rfl⟩
    rw [← hw2] at e2
    have f2 : Fr (PDc x r) w1 w2 := by rw [hw2]; exact Fr.sI (Or.inr ⟨rfl, rfl⟩)
    have X2 : hi w2 x 11 = nI (nxD (nxD X)) := by rw [hw2, hi_setI, if_pos ⟨rfl, rfl⟩]
    have C2 := C1.dc f2
    have L2 := L1.dc C1 f2
    obtain ⟨c, hc'⟩ : ∃ c, c = dvD (nxD (nxD (nxD X))) (2 ^ N) := ⟨_, rfl⟩
    have cl : c < 64 := by
      have : c < 2 ^ N := by rw [hc']; exact dv_lt p640
      omega
    have e3 := draw_c (k := 2 ^ N) C2.1 X2 n2 p640 (by omega)
    rw [← hc'] at e3
    obtain ⟨w3, hw3⟩ : ∃ w3, w3 = setI w2 x 11 (nI (nxD (nxD (nxD X)))) := ⟨_, rfl⟩
    rw [← hw3] at e3
    have f3 : Fr (PDc x r) w2 w3 := by rw [hw3]; exact Fr.sI (Or.inr ⟨rfl, rfl⟩)
    have X3 : hi w3 x 11 = nI (nxD (nxD (nxD X))) := by rw [hw3, hi_setI, if_pos ⟨rfl, rfl⟩]
    have C3 := C2.dc f3
    have L3 := L2.dc C2 f3
    obtain ⟨ch, hch⟩ : ∃ ch, ch = dvD (nxD (nxD (nxD (nxD X)))) 8 := ⟨_, rfl⟩
    have chl : ch < 8 := by rw [hch]; exact dv_lt (by decide)
    have e4 := draw_c (k := 8) C3.1 X3 n3 (by decide) (by decide)
    rw [← hch] at e4
    obtain ⟨w4, hw4⟩ : ∃ w4, w4 = setI w3 x 11 (nI (nx4 X)) := ⟨_, rfl⟩
    have e4' : FX8_draw w3 x 8 = some (nI ch, w4) := by rw [hw4]; exact e4
    have f4 : Fr (PDc x r) w3 w4 := by rw [hw4]; exact Fr.sI (Or.inr ⟨rfl, rfl⟩)
    have X4 : hi w4 x 11 = nI (nx4 X) := by rw [hw4, hi_setI, if_pos ⟨rfl, rfl⟩]
    have C4 := C3.dc f4
    have L4 := L3.dc C3 f4
    -- the trial
    have F04 : Fr (PDc x r) w0 w4 := (((f.trans f1).trans f2).trans f3).trans f4
    have F14 : Fr (PDc x r) w1 w4 := (f2.trans f3).trans f4
    have xr : x ≠ r := by intro e; have a := C.1; rw [e, C.2.2.1] at a; cases a
    have hq4 : hq w4 x 1 k = some kp := by rw [F14.qq (by unfold PDc; omega)]; exact hqk
    obtain ⟨kp', hk1, K4, _⟩ := C4.2.2.2.2.2.2.2.1 k kl
    rw [hq4] at hk1
    cases hk1
    obtain ⟨p', hp1, M4, hM⟩ := C4.2.2.2.2.2.2.2.2.1 mi hmi
    rw [F04.qq (by unfold PDc; omega), hqp] at hp1
    cases hp1
    have G : KL w4 x r kp p (B k) (MM mi) q N mp ad := ⟨⟨C4.1, C4.2.1, C4.2.2.1, K4, W, M4, hM⟩, L4⟩
    obtain ⟨u5, w5, e5, f5, A5⟩ := kl_aim G Fr.refl pll
    have e6 := kl_stateIn (p := pl) (c := c) G f5 pll cl
    obtain ⟨z7, w7, e7, hz7, le7, _, f7, A7⟩ := kt_go (ch := ch) (c := pj (pA (B k) N pl) (pV (B k) N pl) c) G.1 f5 A5 chl (pj4 _ _ _)
    obtain ⟨o1, o2, o3, o4, o5⟩ := at_ok W l4 l5 pll A
    have eg := rl_gl (ch := ch) (geo_of W hM l4 l5 pll A) o1 o2 o3 o4 o5 cl
    rw [← eg] at hz7 le7
    have f7' : Fr (PDc x r) w4 w7 := f7.mono (fun b k z => Or.inl z)
    have C7 := C4.dc f7'
    have L7 := L4.dc C4 f7'
    have X7 : hi w7 x 11 = nI (nx4 X) := by rw [f7.i (fun z => xr z)]; exact X4
    have hit : hitD B N mp (MM mi) kn X = decide (0 < (rL (B k) (pA (B k) N pl) (pV (B k) N pl) N mp (MM mi) ch c).length) := by
      unfold hitD
      rw [← hk, ← hpl, ← hc', ← hch]
    have p5 : ∀ {wx : HS}, Fr (PDc x r) w wx → hp wx x 5 = some q := fun fx => by rw [fx.o (by unfold PDc; omega)]; exact l1
    have q3 : ∀ {wx : HS}, Fr (PDc x r) w wx → hc wx q = 3 := fun fx => by rw [fx.c]; exact l2
    have q0 : ∀ {wx : HS}, LVq wx x q N mp ad → hi wx q 0 = nI N := fun lx => lx.2.2.1
    have c5 : cntD B N mp (MM mi) kn (d + 1) X = (if hitD B N mp (MM mi) kn X = true then 1 else 0) + cntD B N mp (MM mi) kn d (nx4 X) := rfl
    have cle := cntD_le (B := B) (N := N) (mp := mp) (M := MM mi) (kn := kn) d (nx4 X)
    have nx31 : nx4 X < 2 ^ 31 := nxD_lt _
    have F17 : Fr (PDc x r) w w7 := (f1.trans F14).trans f7'
    have body : ∀ s', s' ≤ i + 1 → s + cntD B N mp (MM mi) kn (d + 1) X = s' + cntD B N mp (MM mi) kn d (nx4 X) → ∃ w', FX8_drawn_144 (FX8_drawn_42 n) w7 x (nI mm) p (nI v4) (nI s') (nI i) = some (nI (s + cntD B N mp (MM mi) kn (d + 1) X), w') ∧ Fr (PDc x r) w0 w' ∧ hi w' x 11 = nI v4 := by
      intro s' hs' es
      obtain ⟨w', a1, a2⟩ := ih (i + 1) n s' (nx4 X) w7 (by omega) (by omega) hs' (f.trans F17) C7 L7 X7 nx31
      refine ⟨w', ?_, a2⟩
      unfold FX8_drawn_144
      rw [nI_1, es]
      exact a1
    have pre : ∀ y, (if z7 ≤ 0 then (FX8_drawn_144 (FX8_drawn_42 n) w7 x (nI mm) p (nI v4) (nI s) (nI i)) else (FX8_drawn_144 (FX8_drawn_42 n) w7 x (nI mm) p (nI v4) (nI s + (1 : Int32)) (nI i))) = y → FX8_drawn_42 (n + 1) w x (nI mm) p (nI v4) (nI s) (nI i) = y := by
      intro y hy
      rw [FX8_drawn_42]
      refine E_f (nI_ge (by omega) (by omega)) ?_
      rw [C.2.2.2.1]
      refine E_b e1 (E_b ek ?_)
      refine E_b (p5 f1) (E_c (q3 f1) ?_)
      rw [q0 L1]
      refine E_b (ck_np K1 l4) (E_b e2 (E_b (p5 (f1.trans f2)) (E_c (q3 (f1.trans f2)) ?_)))
      dsimp only
      rw [q0 L2, p64a]
      refine E_b e3 (E_b e4' (E_b e5 (E_b (show hp w5 x 7 = some r by rw [f5.o (fun z => xr z)]; exact C4.2.1) (E_b e6 (E_b e7 ?_)))))
      exact hy
    by_cases h0 : 0 < (rL (B k) (pA (B k) N pl) (pV (B k) N pl) N mp (MM mi) ch c).length
    · have hh : hitD B N mp (MM mi) kn X = true := by rw [hit]; exact decide_eq_true h0
      obtain ⟨w', a1, a2⟩ := body (s + 1) (by omega) (by rw [c5, if_pos hh]; omega)
      refine ⟨w', pre _ (E_f ?_ ?_), a2⟩
      · rw [hz7]; exact nI_nle h0 (by omega)
      · rw [nI_1]; exact a1
    · have hh : ¬ hitD B N mp (MM mi) kn X = true := by rw [hit, decide_eq_true_eq]; exact h0
      obtain ⟨w', a1, a2⟩ := body s (by omega) (by rw [c5, if_neg hh]; omega)
      refine ⟨w', pre _ (E_t ?_ a1), a2⟩
      rw [hz7, show (rL (B k) (pA (B k) N pl) (pV (B k) N pl) N mp (MM mi) ch c).length = 0 from by omega]
      decide
-- reference
def PDr (m : Nat) : Nat → Nat → Prop := fun b k => b = m ∧ (k = 15 ∨ k = 16 ∨ (20 ≤ k ∧ k ≤ 24) ∨ k = 40)
def TD (w0 w : HS) (m : Nat) : Prop := Fr (PDr m) w0 w ∧ hi w m 15 = hi w0 m 15 ∧ ∀ j, 4 ≤ j → ha w m 16 j = ha w0 m 16 j
theorem TD.refl {w : HS} {m : Nat} : TD w w m := ⟨Fr.refl, rfl, fun _ _ => rfl⟩
theorem TD.tr {w w' w'' : HS} {m : Nat} (h : TD w w' m) (g : TD w' w'' m) : TD w w'' m := ⟨h.1.trans g.1, g.2.1.trans h.2.1, fun j hj => (g.2.2 j hj).trans (h.2.2 j hj)⟩
theorem RX.td {w' : HS} (R : RX w m kn mn B MM N mp) (T : TD w w' m) : RX w' m kn mn B MM N mp := by
  obtain ⟨c1, c2, c3, c4, c5, c6, c7, c8, c9, c10, c11⟩ := R
  have f := T.1
  exact ⟨by rw [f.c]; exact c1, by rw [f.i (by unfold PDr; omega)]; exact c2, c3, by rw [f.i (by unfold PDr; omega)]; exact c4, c5, fun k hk => ⟨(c6 k hk).1.fr f (by unfold PDr; omega) (by unfold PDr; omega), (c6 k hk).2⟩, fun k hk => ⟨(c7 k hk).1.fr f (by unfold PDr; omega) (by unfold PDr; omega), (c7 k hk).2⟩, by rw [T.2.1]; exact c8, c9, c10, fun i hi => by rw [T.2.2 _ (by omega)]; exact c11 i hi⟩
theorem ref_endD {w w1 : HS} {m : Nat} (f : Fr (PDr m) (kA w m) w1) (h15 : hi w1 m 15 = hi w m 15) (hj : ∀ j, 133 ≤ j → ha w1 m 16 j = ha w m 16 j) : Quiet m w (lB w1 m) := by
  have g : Fr (PX m) w (kA w m) := (kA_fr w m).mono (fun b k z => by unfold PX; omega)
  have g2 : Fr (PX m) (kA w m) w1 := f.mono (fun b k z => by unfold PDr at z; unfold PX; omega)
  refine ⟨(g.trans g2).trans (Fr.sR ⟨rfl, by omega⟩), ?_, ?_⟩
  · unfold lB
    rw [ha_setR]
    funext j
    by_cases h : j < 133
    · rw [if_pos ⟨Nat.zero_le _, h⟩, f.ar (by unfold PDr; omega), kA_17 w m j h]
    · rw [if_neg (by omega), hj j (by omega)]
  · show hi w1 m 15 = _
    exact h15
theorem TD.sL {w : HS} {m : Nat} {y : Int64} : TD w (setL w m 40 y) m := ⟨Fr.sL ⟨rfl, by omega⟩, rfl, fun _ _ => rfl⟩
theorem drawn_r {w0 wz : HS} {mm : Nat} (hmi : mi < mn) (kn0 : 0 < kn) (m50 : mm ≤ 50) (R0 : RX (kA wz m) m kn mn B MM N mp) : ∀ d i n s X w, i + d = mm → d < n → s ≤ i → TD (kA wz m) w m → hl w m 40 = jN X → X < 2 ^ 31 → ∃ w', FX9_drawn_47 n w m (nI mi) (nI mm) (nI s) (nI i) = some (nI (s + cntD B N mp (MM mi) kn d X), w') ∧ Quiet m wz w' := by
  intro d
  induction d with
  | zero =>
    intro i n s X w he hn hs T hX X31
    obtain ⟨n, rfl⟩ : ∃ z, n = z + 1 := ⟨n - 1, by omega⟩
    have R := R0.td T
    refine ⟨lB w m, ?_, ref_endD T.1 T.2.1 (fun j hj => (T.2.2 j (by omega)).trans (by rw [(kA_fr wz m).ar (by omega)]))⟩
    rw [FX9_drawn_47]
    exact E_t (nI_le (by omega) (by omega)) (E_b (ref_back R.1) rfl)
  | succ d ih =>
    intro i n s X w he hn hs T hX X31
    obtain ⟨n, rfl⟩ : ∃ z, n = z + 1 := ⟨n - 1, by omega⟩
    have R := R0.td T
    have kn8 := R.2.2.1
    have mn6 := R.2.2.2.2.1
    have l4 := R.2.2.2.2.2.2.2.2.1
    have l5 := R.2.2.2.2.2.2.2.2.2.1
    obtain ⟨p64a, p64, p640, _⟩ := pw_c N (by omega)
    have n1 := nxD_lt X
    have n2 := nxD_lt (nxD X)
    have n3 := nxD_lt (nxD (nxD X))
    have n4 := nxD_lt (nxD (nxD (nxD X)))
    obtain ⟨k, hk⟩ : ∃ k, k = dvD (nxD X) kn := ⟨_, rfl⟩
    have kl : k < kn := by rw [hk]; exact dv_lt kn0
    have W := (R.2.2.2.2.2.1 k kl).2
    have hM := (R.2.2.2.2.2.2.1 mi hmi).2
    have e1 := draw_r (k := kn) R.1 hX X31 kn0 (by omega)
    rw [← hk] at e1
    obtain ⟨w1, hw1⟩ : ∃ w1, w1 = setL w m 40 (jN (nxD X)) := ⟨_, rfl⟩
    rw [← hw1] at e1
    have T1 : TD w w1 m := by rw [hw1]; exact TD.sL
    have X1 : hl w1 m 40 = jN (nxD X) := by rw [hw1, hl_setL, if_pos ⟨rfl, rfl⟩]
    have R1 := R.td T1
    obtain ⟨npos, np31⟩ := nP_pos (b := B k) l4 l5
    have e2 := ref_nP R1.1 (R1.2.2.2.2.2.1 k kl).1 W (by omega) R1.2.2.2.2.2.2.2.1 l4
    obtain ⟨pl, hpl⟩ : ∃ pl, pl = dvD (nxD (nxD X)) (nP (B k) N) := ⟨_, rfl⟩
    have pll : pl < nP (B k) N := by rw [hpl]; exact dv_lt npos
    have e3 := draw_r (k := nP (B k) N) R1.1 X1 n1 npos (by omega)
    rw [← hpl] at e3
    obtain ⟨w2, hw2⟩ : ∃ w2, w2 = setL w1 m 40 (jN (nxD (nxD X))) := ⟨_, rfl⟩
    rw [← hw2] at e3
    have T2 : TD w1 w2 m := by rw [hw2]; exact TD.sL
    have X2 : hl w2 m 40 = jN (nxD (nxD X)) := by rw [hw2, hl_setL, if_pos ⟨rfl, rfl⟩]
    have R2 := R1.td T2
    obtain ⟨w3, e4, f3, a3, v3⟩ := ref_lays R2.1 (R2.2.2.2.2.2.1 k kl).1 W (by omega) R2.2.2.2.2.2.2.2.1 l4 l5 pll
    have T3 : TD w2 w3 m := ⟨f3.mono (fun b k z => by unfold PDr; omega), f3.i (by omega), fun j _ => by rw [f3.ar (by omega)]⟩
    have X3 : hl w3 m 40 = jN (nxD (nxD X)) := by rw [f3.l (by omega)]; exact X2
    have R3 := R2.td T3
    obtain ⟨c, hc'⟩ : ∃ c, c = dvD (nxD (nxD (nxD X))) (2 ^ N) := ⟨_, rfl⟩
    have cl : c < 64 := by
      have : c < 2 ^ N := by rw [hc']; exact dv_lt p640
      omega
    have e5 := draw_r (k := 2 ^ N) R3.1 X3 n2 p640 (by omega)
    rw [← hc'] at e5
    obtain ⟨w4, hw4⟩ : ∃ w4, w4 = setL w3 m 40 (jN (nxD (nxD (nxD X)))) := ⟨_, rfl⟩
    rw [← hw4] at e5
    have T4 : TD w3 w4 m := by rw [hw4]; exact TD.sL
    have X4 : hl w4 m 40 = jN (nxD (nxD (nxD X))) := by rw [hw4, hl_setL, if_pos ⟨rfl, rfl⟩]
    have R4 := R3.td T4
    obtain ⟨_, PLk, _, _⟩ := pl_of W l4 l5 pll
    obtain ⟨w5, e6, T5, RF5, x5⟩ := ref_try R4.1 TM.refl (R4.2.2.2.2.2.1 k kl).1 (by omega) PLk W.2.1 cl
    have T5' : TD w4 w5 m := ⟨T5.1.mono (fun b k z => by unfold PR at z; unfold PDr; omega), T5.1.i (by unfold PR; omega), T5.2⟩
    have X5 : hl w5 m 40 = jN (nxD (nxD (nxD X))) := by rw [T5.1.l (by unfold PR; omega)]; exact X4
    have R5 := R4.td T5'
    obtain ⟨ch, hch⟩ : ∃ ch, ch = dvD (nxD (nxD (nxD (nxD X)))) 8 := ⟨_, rfl⟩
    have chl : ch < 8 := by rw [hch]; exact dv_lt (by decide)
    have e7 := draw_r (k := 8) R5.1 X5 n3 (by decide) (by decide)
    rw [← hch] at e7
    obtain ⟨w6, hw6⟩ : ∃ w6, w6 = setL w5 m 40 (jN (nx4 X)) := ⟨_, rfl⟩
    have e7' : FX9_draw w5 m 8 = some (nI ch, w6) := by rw [hw6]; exact e7
    have T6 : TD w5 w6 m := by rw [hw6]; exact TD.sL
    have X6 : hl w6 m 40 = jN (nx4 X) := by rw [hw6, hl_setL, if_pos ⟨rfl, rfl⟩]
    have R6 := R5.td T6
    have RF6 : RF w6 m (B k) (pA (B k) N pl) (pV (B k) N pl) := RF5.fr T6.1 (by unfold PDr; omega) (by unfold PDr; omega) (fun j _ => by rw [hw6]; rfl)
    obtain ⟨u7, w7, e8, RS7⟩ := ref_goes (x := stl (B k) (pA (B k) N pl) (pV (B k) N pl) c) (mp := mp) (ch := ch) RF6 (by rw [hw6]; exact x5) (stl_lt PLk cl) hM (R6.2.2.2.2.2.2.1 mi hmi).1 (by omega) R6.2.2.2.2.2.2.2.1 l5 (fun i hi => R6.2.2.2.2.2.2.2.2.2.2 i (by omega)) chl
    have T7 : TD w6 w7 m := ⟨RS7.1.mono (fun b k z => by unfold PR at z; unfold PDr; omega), RS7.1.i (by unfold PR; omega), fun j hj => RS7.2.1 j (by omega)⟩
    have X7 : hl w7 m 40 = jN (nx4 X) := by rw [RS7.1.l (by unfold PR; omega)]; exact X6
    have h20 : hi w7 m 20 = nI (rL (B k) (pA (B k) N pl) (pV (B k) N pl) N mp (MM mi) ch c).length := RS7.2.2.2.2.1
    have le7 : (rL (B k) (pA (B k) N pl) (pV (B k) N pl) N mp (MM mi) ch c).length ≤ 999 := Nat.le_trans RS7.2.2.2.2.2.2.1 RS7.2.2.2.2.2.2.2.1
    have T07 : TD (kA wz m) w7 m := ((((((T.tr T1).tr T2).tr T3).tr T4).tr T5').tr T6).tr T7
    have hit : hitD B N mp (MM mi) kn X = decide (0 < (rL (B k) (pA (B k) N pl) (pV (B k) N pl) N mp (MM mi) ch c).length) := by
      unfold hitD
      rw [← hk, ← hpl, ← hc', ← hch]
    have c5 : cntD B N mp (MM mi) kn (d + 1) X = (if hitD B N mp (MM mi) kn X = true then 1 else 0) + cntD B N mp (MM mi) kn d (nx4 X) := rfl
    have nx31 : nx4 X < 2 ^ 31 := nxD_lt _
    have body : ∀ s' (y : Int32), nI s + y = nI s' → s' ≤ i + 1 → s + cntD B N mp (MM mi) kn (d + 1) X = s' + cntD B N mp (MM mi) kn d (nx4 X) → ∃ w', FX9_drawn_127 (FX9_drawn_47 n) w7 m (nI mi) (nI mm) (nI i) y (nI s) = some (nI (s + cntD B N mp (MM mi) kn (d + 1) X), w') ∧ Quiet m wz w' := by
      intro s' y hy hs' es
      obtain ⟨w', a1, a2⟩ := ih (i + 1) n s' (nx4 X) w7 (by omega) (by omega) hs' T07 X7 nx31
      refine ⟨w', ?_, a2⟩
      unfold FX9_drawn_127
      rw [nI_1, es, hy]
      exact a1
    have pre : ∀ y, (if hi w7 m 20 ≤ 0 then (FX9_drawn_127 (FX9_drawn_47 n) w7 m (nI mi) (nI mm) (nI i) (0 : Int32) (nI s)) else (FX9_drawn_127 (FX9_drawn_47 n) w7 m (nI mi) (nI mm) (nI i) (1 : Int32) (nI s))) = y → FX9_drawn_47 (n + 1) w m (nI mi) (nI mm) (nI s) (nI i) = y := by
      intro y hy
      rw [FX9_drawn_47]
      refine E_f (nI_ge (by omega) (by omega)) ?_
      rw [R.2.1]
      refine E_b e1 (E_b e2 (E_b e3 (E_b e4 ?_)))
      dsimp only
      rw [R3.2.2.2.2.2.2.2.1, p64a, a3, v3]
      cases u7
      exact E_b e5 (E_b e6 (E_b e7' (E_b e8 hy)))
    by_cases h0 : 0 < (rL (B k) (pA (B k) N pl) (pV (B k) N pl) N mp (MM mi) ch c).length
    · have hh : hitD B N mp (MM mi) kn X = true := by rw [hit]; exact decide_eq_true h0
      obtain ⟨w', a1, a2⟩ := body (s + 1) 1 (nI_1 s) (by omega) (by rw [c5, if_pos hh]; omega)
      refine ⟨w', pre _ (E_f ?_ a1), a2⟩
      rw [h20]; exact nI_nle h0 (by omega)
    · have hh : ¬ hitD B N mp (MM mi) kn X = true := by rw [hit, decide_eq_true_eq]; exact h0
      obtain ⟨w', a1, a2⟩ := body s 0 (nI_add s 0) (by omega) (by rw [c5, if_neg hh]; omega)
      refine ⟨w', pre _ (E_t ?_ a1), a2⟩
      rw [h20, show (rL (B k) (pA (B k) N pl) (pV (B k) N pl) N mp (MM mi) ch c).length = 0 from by omega]
      decide
theorem drawn_call {X : Nat} (C : CX w x r kn mn B MM) (R : RX w m kn mn B MM N mp) (L : LVq w x q N mp ad) (hX : hi w x 11 = nI X) (X31 : X < 2 ^ 31) (D : hi w x 11 = hi w m 39) (u0 u1 : Int32) : ∃ z w1 w2, FX8_drawn w x u0 u1 = some (z, w1) ∧ FX9_drawn w1 m u0 u1 = some (z, w2) ∧ Fr (PDc x r) w w1 ∧ hi w1 x 11 = hi w x 11 ∧ Quiet m w1 w2 := by
  have kn8 := C.2.2.2.2.1
  have mn6 := C.2.2.2.2.2.2.1
  have h8 := C.1
  have h9 := R.1
  rcases idx (u := u0) (n := mn) (by omega) with hu | ⟨mi, hmi, rfl⟩
  · refine ⟨-1, w, w, ?_, ?_, Fr.refl, rfl, Quiet.refl⟩
    · unfold FX8_drawn
      exact E_c h8 (E_b (cx_nomarch C hu) rfl)
    · unfold FX9_drawn
      exact E_c h9 (E_b (rx_nomarch R hu) (E_t rfl rfl))
  obtain ⟨p, e1, cm, hM, hqp⟩ := cx_march C hmi
  have i2 : ∀ (v : HS), FX9_isIn v u1.toInt64 1 50 = some (if u1 < 1 ∨ 50 < u1 then 0 else 1, v) := fun v => is_in v u1 1 50
  by_cases hu : u1 < 1 ∨ 50 < u1
  · refine ⟨-1, w, w, ?_, ?_, Fr.refl, rfl, Quiet.refl⟩
    · unfold FX8_drawn
      refine E_c h8 (E_b e1 ?_)
      show (if u1 < 1 then _ else _) = _
      by_cases z : u1 < 1
      · exact E_t z rfl
      · exact E_f z (E_t (hu.resolve_left z) rfl)
    · unfold FX9_drawn
      have i2w := i2 w
      rw [if_pos hu] at i2w
      exact E_c h9 (E_b (rx_march R hmi) (E_f i10 (E_b i2w (E_t rfl rfl))))
  have h1 : ¬ u1 < 1 := fun z => hu (Or.inl z)
  have h50 : ¬ 50 < u1 := fun z => hu (Or.inr z)
  obtain ⟨mm, mm1, mm50, rfl⟩ : ∃ mm, 1 ≤ mm ∧ mm ≤ 50 ∧ u1 = nI mm := by
    have h0 : ¬ u1 < 0 := by
      intro z
      rw [lt_i] at z h1
      have e0 : (0 : Int32).toInt = 0 := by decide
      have e2 : (1 : Int32).toInt = 1 := by decide
      omega
    obtain ⟨j, j1, rfl⟩ := nI_of h0
    refine ⟨j, ?_, ?_, rfl⟩
    · by_cases z : j < 1
      · exact absurd (nI_lt (b := 1) z (by decide)) h1
      · omega
    · by_cases z : 50 < j
      · exact absurd (nI_lt (a := 50) z j1) h50
      · omega
  by_cases k0 : kn = 0
  · refine ⟨-1, w, w, ?_, ?_, Fr.refl, rfl, Quiet.refl⟩
    · unfold FX8_drawn
      refine E_c h8 (E_b e1 ?_)
      show (if nI mm < 1 then _ else _) = _
      refine E_f h1 (E_f h50 (E_t ?_ rfl))
      rw [C.2.2.2.1, k0]
      rfl
    · unfold FX9_drawn
      have i2w := i2 w
      rw [if_neg hu] at i2w
      refine E_c h9 (E_b (rx_march R hmi) (E_f i10 (E_b i2w (E_f i10 (E_t ?_ rfl)))))
      dsimp only
      rw [R.2.1, k0]
      rfl
  obtain ⟨w1, a1, a2, a3⟩ := drawn_c (w0 := w) (v4 := X) (mm := mm) (q := q) (N := N) (mp := mp) (ad := ad) hmi hqp (by omega) mm50 X31 mm 0 FUEL 0 X w (by omega) (fuel_lt (by omega)) (Nat.le_refl _) Fr.refl C L hX X31
  have xm : x ≠ m := by intro e; rw [e, h9] at h8; cases h8
  have rm : r ≠ m := by intro e; have := C.2.2.1; rw [e, h9] at this; cases this
  have mi1 : ∀ k, hi w1 m k = hi w m k ∧ ha w1 m k = ha w m k := fun k => ⟨a2.i (by unfold PDc; omega), a2.ar (by unfold PDc; omega)⟩
  have c9 : hc w1 m = 9 := by rw [a2.c]; exact h9
  have R1 := R.mi c9 mi1
  obtain ⟨wz, hwz⟩ : ∃ wz, wz = setL w1 m 40 (jN X) := ⟨_, rfl⟩
  have fz : Fr (fun b k => b = m ∧ k = 40) w1 wz := by rw [hwz]; exact Fr.sL ⟨rfl, rfl⟩
  have Rz : RX wz m kn mn B MM N mp := R1.mi (by rw [fz.c]; exact c9) (fun k => by rw [hwz]; exact ⟨rfl, rfl⟩)
  have Rk : RX (kA wz m) m kn mn B MM N mp := by
    obtain ⟨c1, c2, c3, c4, c5, c6, c7, c8, c9, c10, c11⟩ := Rz
    have f := kA_fr wz m
    exact ⟨by rw [f.c]; exact c1, by rw [f.i (by omega)]; exact c2, c3, by rw [f.i (by omega)]; exact c4, c5, fun k hk => ⟨(c6 k hk).1.fr f (by omega) (by omega), (c6 k hk).2⟩, fun k hk => ⟨(c7 k hk).1.fr f (by omega) (by omega), (c7 k hk).2⟩, by rw [f.i (by omega)]; exact c8, c9, c10, by rw [f.ar (by omega)]; exact c11⟩
  obtain ⟨w2, b1, b2⟩ := drawn_r (w0 := w) (wz := wz) (mm := mm) hmi (by omega) mm50 Rk mm 0 FUEL 0 X (kA wz m) (by omega) (fuel_lt (by omega)) (Nat.le_refl _) TD.refl (by
    have e : hl (kA wz m) m 40 = hl wz m 40 := rfl
    rw [e, hwz, hl_setL, if_pos ⟨rfl, rfl⟩]) X31
  rw [Nat.zero_add] at a1 b1
  have Qz : Quiet m w1 wz := ⟨fz.mono (fun b k z => by unfold PX; omega), by rw [fz.ar (by omega)], by rw [fz.i (by omega)]⟩
  refine ⟨nI (cntD B N mp (MM mi) kn mm X), w1, w2, ?_, ?_, a2, by rw [a3, hX], Qz.trans b2⟩
  · unfold FX8_drawn
    refine E_c h8 (E_b e1 ?_)
    show (if nI mm < 1 then _ else _) = _
    refine E_f h1 (E_f h50 (E_f ?_ ?_))
    · rw [C.2.2.2.1]; exact nI_ne0 (by omega) (by omega)
    · rw [hX]; exact a1
  · unfold FX9_drawn
    have i2w := i2 w1
    rw [if_neg hu] at i2w
    refine E_c c9 (E_b (rx_march R1 hmi) (E_f i10 (E_b i2w (E_f i10 (E_f ?_ (E_d ?_))))))
    · dsimp only
      rw [R1.2.1]; exact nI_ne0 (by omega) (by omega)
    · dsimp only
      have e39 : hi w1 m 39 = nI X := by rw [(mi1 39).1, ← D, hX]
      rw [e39, nI_j X31, ← hwz]
      exact E_b (ref_keeps Rz.1) b1
end DW
