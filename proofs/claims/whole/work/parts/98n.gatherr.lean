/-! Reference: the faults that fit gathered. -/
/-- what the reference's longer works use -/
def PXe (m : Nat) : Nat → Nat → Prop := fun b k => b = m ∧ (k = 15 ∨ k = 16 ∨ (20 ≤ k ∧ k ≤ 38) ∨ k = 40)
theorem ref_endX {w w1 : HS} {m : Nat} (f : Fr (PXe m) (kA w m) w1) (h15 : hi w1 m 15 = hi w m 15) (hj : ∀ j, 133 ≤ j → ha w1 m 16 j = ha w m 16 j) : Quiet m w (lB w1 m) := by
  have g : Fr (PX m) w (kA w m) := (kA_fr w m).mono (fun b k z => by unfold PX; omega)
  have g2 : Fr (PX m) (kA w m) w1 := f.mono (fun b k z => by unfold PXe at z; unfold PX; omega)
  refine ⟨(g.trans g2).trans (Fr.sR ⟨rfl, by omega⟩), ?_, ?_⟩
  · unfold lB
    rw [ha_setR]
    funext j
    by_cases h : j < 133
    · rw [if_pos ⟨Nat.zero_le _, h⟩, f.ar (by unfold PXe; omega), kA_17 w m j h]
    · rw [if_neg (by omega), hj j (by omega)]
  · show hi w1 m 15 = _
    exact h15
/-- a list's entries in one row -/
def peL (g : Nat → Nat × Nat) (v : Nat) : Nat := if v % 2 = 0 then (g (v / 2)).1 else (g (v / 2)).2
section GR9
variable {w0 : HS} {m k mi a v N ch f kn mn : Nat} {b : Book} {M : Mch} {mp : Nat → Nat} {S : Me} {B : Nat → Book} {MM : Nat → Mch}
/-- the row kept aside tells the run -/
def R17 (w : HS) (m mi ch f : Nat) (S : Me) : Prop := ha w m 17 10 = nI mi ∧ ha w m 17 11 = nI ch ∧ ha w m 17 12 = nI f ∧ ∀ i, i < meN S → ha w m 17 (13 + 2 * i) = nI (meX S i) ∧ ha w m 17 (14 + 2 * i) = nI (meY S i)
theorem R17.fr {P : Nat → Nat → Prop} {w w' : HS} (h : R17 w m mi ch f S) (F : Fr P w w') (n : ¬ P m 17) : R17 w' m mi ch f S := by
  unfold R17
  rw [F.ar n]
  exact h
theorem aslog_r {w : HS} {L : List (Nat × Nat)} (h9 : hc w m = 9) (LG : LGr w m L) (R : R17 w m mi ch f S) (Vl : VL S) (hF : meF S = some f) (hb : ∀ i, i < L.length → (gt L i).1 < 1024 ∧ (gt L i).2 < 8) : FX9_isAsLogged w m = some (if lgf L S = true then 1 else 0, w) := by
  obtain ⟨g1, g2, g3⟩ := LG
  obtain ⟨_, _, r3, r4⟩ := R
  obtain ⟨f1, f2⟩ := Vl.2.1 f hF
  unfold FX9_isAsLogged
  rw [g1, r3]
  refine E_c h9 ?_
  by_cases e : L.length = f
  · refine E_t (by rw [e]) ?_
    have n60 := mn60_le f
    have v21 : ∀ v, v < 2 * mn60 f → ha w m 21 v = nI (peL (gt L) v) ∧ ha w m 17 (13 + v) = nI (peL (fun i => (meX S i, meY S i)) v) ∧ peL (gt L) v < 1024 ∧ peL (fun i => (meX S i, meY S i)) v < 1024 := by
      intro v hv
      have t1 := g3 (v / 2) (by omega) (by omega)
      have t2 := r4 (v / 2) (by omega)
      have t3 := hb (v / 2) (by omega)
      have t4 := Vl.2.2 (v / 2) (by omega)
      unfold peL
      by_cases h : v % 2 = 0
      · rw [if_pos h, if_pos h]
        rw [show 2 * (v / 2) = v from by omega] at t1
        rw [show 13 + 2 * (v / 2) = 13 + v from by omega] at t2
        exact ⟨t1.1, t2.1, t3.1, t4.1⟩
      · rw [if_neg h, if_neg h]
        rw [show 2 * (v / 2) + 1 = v from by omega] at t1
        rw [show 14 + 2 * (v / 2) = 13 + v from by omega] at t2
        exact ⟨t1.2, t2.2, by omega, by dsimp only; omega⟩
    have loop : ∀ d i n, i + d = 2 * mn60 f → d < n → (∀ j, j < i → peL (gt L) j = peL (fun i => (meX S i, meY S i)) j) → FX9_isAsLogged_18 n w m (nI i) = some (if lgf L S = true then 1 else 0, w) := by
      intro d
      induction d with
      | zero =>
        intro i n hi hn h
        obtain ⟨n, rfl⟩ : ∃ z, n = z + 1 := ⟨n - 1, by omega⟩
        have t : lgf L S = true := by
          unfold lgf
          rw [decide_eq_true_eq]
          refine ⟨by rw [hF, e], fun j hj => ?_⟩
          have t1 := h (2 * j) (by omega)
          have t2 := h (2 * j + 1) (by omega)
          unfold peL at t1 t2
          rw [if_pos (by omega), if_pos (by omega), show 2 * j / 2 = j from by omega] at t1
          rw [if_neg (by omega), if_neg (by omega), show (2 * j + 1) / 2 = j from by omega] at t2
          exact ⟨t1, t2⟩
        rw [FX9_isAsLogged_18, g1, if_pos t, l2_, nI_mul]
        by_cases z : 2 * L.length ≤ i
        · exact E_t (nI_le z (by omega)) rfl
        · refine E_f (nI_ge (by omega) (by omega)) (E_t (nI_le (a := 120) ?_ (by omega)) rfl)
          unfold mn60 at hi
          split at hi <;> omega
      | succ d ih =>
        intro i n hi hn h
        obtain ⟨n, rfl⟩ : ∃ z, n = z + 1 := ⟨n - 1, by omega⟩
        obtain ⟨t1, t2, t3, t4⟩ := v21 i (by omega)
        rw [FX9_isAsLogged_18, g1, l2_, nI_mul, show (13 : Int32) + nI i = nI (13 + i) from nI_add 13 i, nI_clamp (by omega), nI_clamp (by omega), t1, t2]
        refine E_f (nI_ge (by omega) (by omega)) (E_f (nI_ge (b := 120) (by omega) (by decide)) (E_i rfl (by omega) (by decide) (E_i rfl (by omega) (by decide) ?_)))
        by_cases eq : peL (gt L) i = peL (fun i => (meX S i, meY S i)) i
        · refine E_t (by rw [eq]) ?_
          rw [nI_1]
          refine ih (i + 1) n (by omega) (by omega) (fun j hj => ?_)
          by_cases ji : j = i
          · rw [ji]; exact eq
          · exact h j (by omega)
        · have t : ¬ lgf L S = true := by
            unfold lgf
            rw [decide_eq_true_eq]
            intro z
            apply eq
            have := z.2 (i / 2) (by omega)
            unfold peL
            by_cases h2 : i % 2 = 0
            · rw [if_pos h2, if_pos h2]; exact this.1
            · rw [if_neg h2, if_neg h2]; exact this.2
          rw [if_neg t]
          exact E_f (fun z => eq ((nI_eq (by omega) (by omega)).mp z)) rfl
    exact loop (2 * mn60 f) 0 FUEL (by omega) (fuel_lt (by omega)) (fun j hj => absurd hj (Nat.not_lt_zero _))
  · have t : ¬ lgf L S = true := by
      unfold lgf
      rw [decide_eq_true_eq, hF]
      exact fun z => e (Option.some.inj z.1).symm
    rw [if_neg t]
    exact E_f (fun z => e ((nI_eq (by omega) (by omega)).mp z)) rfl
/-- reference: does it fit now -/
theorem fitsnow_r (G : RG w0 m k mi b M N mp) (P : PL b a v) (hA : hi w0 m 23 = cI a) (hV : hi w0 m 24 = cI v) (R : R17 w0 m mi ch f S) (Vl : VL S) (hF : meF S = some f) (hch : ch < 8) : ∀ d c n w, c + d = 2 ^ N → d < n → TM w0 w m → Rn (FX9_fitsNow_2 n w m (nI k) (nI c)) (fun z w' => z = (if (fsN (fun c => lgf (rL b a v N mp M ch c) S) c d).isSome = true then 1 else 0) ∧ TM w0 w' m) := by
  have N6 : N ≤ 6 := G.2.2.2.2.2.2.2.2.1
  have hM : WM M := G.2.2.2.2.2.2.1
  obtain ⟨p1, p64, _, _⟩ := pw_c N (by omega)
  intro d
  induction d with
  | zero =>
    intro c n w hc' hn T
    obtain ⟨n, rfl⟩ : ∃ z, n = z + 1 := ⟨n - 1, by omega⟩
    rw [FX9_fitsNow_2, T.1.i (by unfold PR; omega), G.2.2.2.2.2.2.2.1, p1]
    exact Rn.t (nI_le (by omega) (by omega)) (Rn.ret ⟨rfl, T⟩)
  | succ d ih =>
    intro c n w hc' hn T
    obtain ⟨n, rfl⟩ : ∃ z, n = z + 1 := ⟨n - 1, by omega⟩
    obtain ⟨w1, e1, go⟩ := ref_trun (ch := ch) (c := c) G T P (by omega) hch
    have T1 : TM w0 w1 m := by
      obtain ⟨w1', e1', T1', _⟩ := ref_try (c := c) G.1 T G.2.1 G.2.2.1 P G.2.2.2.1.2.1 (by omega)
      rw [e1] at e1'
      cases e1'
      exact T1'
    have R1 := R.fr T1.1 (by unfold PR; omega)
    rw [FX9_fitsNow_2, T.1.i (by unfold PR; omega), G.2.2.2.2.2.2.2.1, p1]
    refine Rn.f (nI_ge (by omega) (by omega)) ?_
    rw [T.1.i (by unfold PR; omega), T.1.i (by unfold PR; omega), hA, hV]
    refine Rn.eq e1 ?_
    dsimp only
    rw [R1.1, R1.2.1]
    refine go.call ?_
    rintro _ w2 ⟨T2, LG2⟩
    have R2 := R.fr T2.1 (by unfold PR; omega)
    refine Rn.eq (aslog_r (by rw [T2.1.c]; exact G.1) LG2 R2 Vl hF (fun i hi => by have := rl_bd hM N6 i hi; omega)) ?_
    dsimp only
    by_cases t : lgf (rL b a v N mp M ch c) S = true
    · rw [if_pos t, fsN_t t]
      exact Rn.f i10 (Rn.ret ⟨rfl, T2⟩)
    · rw [if_neg t, fsN_f t, nI_1]
      exact Rn.t rfl (ih (c + 1) n w2 (by omega) (by omega) T2)
/-- reference: these faults fit -/
def RFt (w : HS) (m N kn : Nat) (B : Nat → Book) (L : List (Nat × Nat)) : Prop := hi w m 36 = nI L.length ∧ ∀ i, i < L.length → ha w m 35 (3 * i) = nI (gt L i).1 ∧ ha w m 35 (3 * i + 1) = cI (pA (B (gt L i).1) N (gt L i).2) ∧ ha w m 35 (3 * i + 2) = cI (pV (B (gt L i).1) N (gt L i).2)
def PFr (m : Nat) : Nat → Nat → Prop := fun b k => b = m ∧ (k = 16 ∨ (20 ≤ k ∧ k ≤ 24) ∨ k = 35 ∨ k = 36)
def TF (w0 w : HS) (m : Nat) : Prop := Fr (PFr m) w0 w ∧ ∀ j, 4 ≤ j → ha w m 16 j = ha w0 m 16 j
theorem TF.tr {w w' : HS} (h : TF w0 w m) (g : TF w w' m) : TF w0 w' m := ⟨h.1.trans g.1, fun j hj => (g.2 j hj).trans (h.2 j hj)⟩
theorem TF.tm {w w' : HS} (h : TF w0 w m) (g : TM w w' m) : TF w0 w' m := ⟨h.1.trans (g.1.mono (fun b k z => by unfold PR at z; unfold PFr; omega)), fun j hj => (g.2 j hj).trans (h.2 j hj)⟩
theorem RX.tf {w' : HS} {w : HS} (R : RX w m kn mn B MM N mp) (T : TF w w' m) : RX w' m kn mn B MM N mp := by
  obtain ⟨c1, c2, c3, c4, c5, c6, c7, c8, c9, c10, c11⟩ := R
  have f := T.1
  exact ⟨by rw [f.c]; exact c1, by rw [f.i (by unfold PFr; omega)]; exact c2, c3, by rw [f.i (by unfold PFr; omega)]; exact c4, c5, fun k hk => ⟨(c6 k hk).1.fr f (by unfold PFr; omega) (by unfold PFr; omega), (c6 k hk).2⟩, fun k hk => ⟨(c7 k hk).1.fr f (by unfold PFr; omega) (by unfold PFr; omega), (c7 k hk).2⟩, by rw [f.i (by unfold PFr; omega)]; exact c8, c9, c10, fun i hi => by rw [T.2 _ (by omega)]; exact c11 i hi⟩
theorem gath_k9 (R0 : RX w0 m kn mn B MM N mp) (Q0 : R17 w0 m mi ch f S) (Vl : VL S) (hF : meF S = some f) (hch : ch < 8) (hmi : mi < mn) {k : Nat} (hk : k < kn) {k11 : HS → Nat → Int32 → Option (Unit × HS)} {Q : Unit → HS → Prop} {L0 : List (Nat × Nat)}
    (K : ∀ w', TF w0 w' m → RFt w' m N kn B (gthP (fun k p => fitR (B k) N mp (MM mi) ch S p) k 0 (nP (B k) N) L0) → (gthP (fun k p => fitR (B k) N mp (MM mi) ch S p) k 0 (nP (B k) N) L0).length ≤ 30 * k + nP (B k) N → Rn (k11 w' m (nI (k + 1))) Q) : ∀ d i n L w, i + d = nP (B k) N → d < n → TF w0 w m → RFt w m N kn B L → L.length ≤ 30 * k + i → gthP (fun k p => fitR (B k) N mp (MM mi) ch S p) k i d L = gthP (fun k p => fitR (B k) N mp (MM mi) ch S p) k 0 (nP (B k) N) L0 → Rn (FX9_gathersFits_21 k11 n w m (nI k) (nI i)) Q := by
  have kn8 := R0.2.2.1
  have mn6 := R0.2.2.2.2.1
  have l4 := R0.2.2.2.2.2.2.2.2.1
  have l5 := R0.2.2.2.2.2.2.2.2.2.1
  have np31 := (nP_pos (b := B k) l4 l5).2
  obtain ⟨p1, p64, _, _⟩ := pw_c N (by omega)
  intro d
  induction d with
  | zero =>
    intro i n L w hid hn T C hl eL
    obtain ⟨n, rfl⟩ : ∃ z, n = z + 1 := ⟨n - 1, by omega⟩
    have R := R0.tf T
    have W := (R.2.2.2.2.2.1 k hk).2
    have eL' : L = gthP (fun k p => fitR (B k) N mp (MM mi) ch S p) k 0 (nP (B k) N) L0 := eL
    rw [FX9_gathersFits_21]
    refine Rn.eq (ref_nP R.1 (R.2.2.2.2.2.1 k hk).1 W (by omega) R.2.2.2.2.2.2.2.1 l4) (Rn.t (nI_le (by omega) (by omega)) ?_)
    rw [nI_1]
    exact K w T (by rw [← eL']; exact C) (by rw [← eL']; omega)
  | succ d ih =>
    intro i n L w hid hn T C hl eL
    obtain ⟨n, rfl⟩ : ∃ z, n = z + 1 := ⟨n - 1, by omega⟩
    have R := R0.tf T
    have W := (R.2.2.2.2.2.1 k hk).2
    have hpl : i < nP (B k) N := by omega
    obtain ⟨w1, e1, f1, a1, v1⟩ := ref_lays R.1 (R.2.2.2.2.2.1 k hk).1 W (by omega) R.2.2.2.2.2.2.2.1 l4 l5 hpl
    have T1 : TF w w1 m := ⟨f1.mono (fun b k z => by unfold PFr; omega), fun j _ => by rw [f1.ar (by omega)]⟩
    have R1 := R.tf T1
    have Q1 : R17 w1 m mi ch f S := (Q0.fr T.1 (by unfold PFr; omega)).fr f1 (by omega)
    obtain ⟨_, PLk, _, _⟩ := pl_of W l4 l5 hpl
    rw [FX9_gathersFits_21]
    refine Rn.eq (ref_nP R.1 (R.2.2.2.2.2.1 k hk).1 W (by omega) R.2.2.2.2.2.2.2.1 l4) (Rn.f (nI_ge (by omega) (by omega)) (Rn.eq e1 ?_))
    unfold FX9_fitsNow
    refine Rn.call (Rn.okc R1.1 (fitsnow_r (R1.rg hk hmi) PLk a1 v1 Q1 Vl hF hch (2 ^ N) 0 FUEL w1 (by omega) (fuel_lt (by omega)) TM.refl)) ?_
    rintro z w2 ⟨hz, T2⟩
    have ef : (fsN (fun c => lgf (rL (B k) (pA (B k) N i) (pV (B k) N i) N mp (MM mi) ch c) S) 0 (2 ^ N)).isSome = fitR (B k) N mp (MM mi) ch S i := rfl
    rw [ef] at hz
    have T02 : TF w0 w2 m := (T.tr T1).tm T2
    have C2 : RFt w2 m N kn B L := by
      obtain ⟨c1, c2⟩ := C
      exact ⟨by rw [T2.1.i (by unfold PR; omega), f1.i (by omega)]; exact c1, by rw [T2.1.ar (by unfold PR; omega), f1.ar (by omega)]; exact c2⟩
    dsimp only
    rw [hz]
    have eL2 : gthP (fun k p => fitR (B k) N mp (MM mi) ch S p) k (i + 1) d (if fitR (B k) N mp (MM mi) ch S i = true then L ++ [(k, i)] else L) = gthP (fun k p => fitR (B k) N mp (MM mi) ch S p) k 0 (nP (B k) N) L0 := eL
    by_cases t : fitR (B k) N mp (MM mi) ch S i = true
    · rw [if_pos t] at eL2
      rw [if_pos t]
      refine Rn.f i10 ?_
      have i36 := C2.1
      have e23 : hi w2 m 23 = cI (pA (B k) N i) := by rw [T2.1.i (by unfold PR; omega)]; exact a1
      have e24 : hi w2 m 24 = cI (pV (B k) N i) := by rw [T2.1.i (by unfold PR; omega)]; exact v1
      have L240 : L.length < 240 := by omega
      obtain ⟨w3, hw3⟩ : ∃ w3, w3 = setA w2 m 35 (3 * L.length) (nI k) := ⟨_, rfl⟩
      obtain ⟨w4, hw4⟩ : ∃ w4, w4 = setA w3 m 35 (3 * L.length + 1) (cI (pA (B k) N i)) := ⟨_, rfl⟩
      obtain ⟨w5, hw5⟩ : ∃ w5, w5 = setA w4 m 35 (3 * L.length + 2) (cI (pV (B k) N i)) := ⟨_, rfl⟩
      obtain ⟨w6, hw6⟩ : ∃ w6, w6 = setI w5 m 36 (nI (L.length + 1)) := ⟨_, rfl⟩
      have f6 : Fr (fun b k => b = m ∧ (k = 35 ∨ k = 36)) w2 w6 := by rw [hw6, hw5, hw4, hw3]; exact (((Fr.sA ⟨rfl, Or.inl rfl⟩).trans (Fr.sA ⟨rfl, Or.inl rfl⟩)).trans (Fr.sA ⟨rfl, Or.inl rfl⟩)).trans (Fr.sI ⟨rfl, Or.inr rfl⟩)
      have i3 : ∀ k, hi w3 m k = hi w2 m k := fun k => by rw [hw3, hi_setA]
      have i4 : ∀ k, hi w4 m k = hi w2 m k := fun k => by rw [hw4, hi_setA, i3]
      have i5 : ∀ k, hi w5 m k = hi w2 m k := fun k => by rw [hw5, hi_setA, i4]
      have e35 : ∀ j, ha w6 m 35 j = if j = 3 * L.length + 2 then cI (pV (B k) N i) else if j = 3 * L.length + 1 then cI (pA (B k) N i) else if j = 3 * L.length then nI k else ha w2 m 35 j := by
        intro j
        rw [hw6, ha_setI, hw5, ha_setA, if_pos ⟨rfl, rfl⟩, hw4, ha_setA, if_pos ⟨rfl, rfl⟩, hw3, ha_setA, if_pos ⟨rfl, rfl⟩]
        rfl
      have el : (L ++ [(k, i)]).length = L.length + 1 := by rw [List.length_append]; rfl
      have C6 : RFt w6 m N kn B (L ++ [(k, i)]) := by
        refine ⟨by rw [hw6, hi_setI, if_pos ⟨rfl, rfl⟩, el], fun j hj => ?_⟩
        rw [el] at hj
        by_cases e : j = L.length
        · rw [e, gt_new]
          refine ⟨?_, ?_, ?_⟩
          · rw [e35, if_neg (by omega), if_neg (by omega), if_pos rfl]
          · rw [e35, if_neg (by omega), if_pos rfl]
          · rw [e35, if_pos rfl]
        · rw [gt_old (by omega)]
          have := C2.2 j (by omega)
          refine ⟨?_, ?_, ?_⟩
          · rw [e35, if_neg (by omega), if_neg (by omega), if_neg (by omega)]; exact this.1
          · rw [e35, if_neg (by omega), if_neg (by omega), if_neg (by omega)]; exact this.2.1
          · rw [e35, if_neg (by omega), if_neg (by omega), if_neg (by omega)]; exact this.2.2
      have T06 : TF w0 w6 m := T02.tr ⟨f6.mono (fun b k z => by unfold PFr; omega), fun j _ => by rw [f6.ar (by omega)]⟩
      have fin : Rn (FX9_gathersFits_103 k11 (FX9_gathersFits_21 k11 n) w6 m (nI k) (nI i)) Q := by
        unfold FX9_gathersFits_103
        rw [nI_1]
        exact ih (i + 1) n _ w6 (by omega) (by omega) T06 C6 (by rw [el]; omega) eL2
      rw [i36, l3_, nI_mul, nI_clamp (by omega)]
      refine Rn.oki rfl (by omega) (by decide) (Rn.bd ?_)
      rw [← hw3, i3, i3, i36, e23, nI_mul, l1_, nI_add, nI_clamp (by omega)]
      refine Rn.oki rfl (by omega) (by decide) (Rn.bd ?_)
      rw [← hw4, i4, i4, i36, e24, nI_mul, l2_, nI_add, nI_clamp (by omega)]
      refine Rn.oki rfl (by omega) (by decide) (Rn.bd (Rn.bd ?_))
      rw [← hw5, i5, i36, nI_add, ← hw6]
      exact fin
    · rw [if_neg t] at eL2
      rw [if_neg t]
      refine Rn.t rfl ?_
      unfold FX9_gathersFits_103
      rw [nI_1]
      exact ih (i + 1) n L w2 (by omega) (by omega) T02 C2 (by omega) eL2
/-- reference: all kinds -/
theorem gath_all9 {wz : HS} (R0 : RX (kA wz m) m kn mn B MM N mp) (Q0 : R17 (kA wz m) m mi ch f S) (Vl : VL S) (hF : meF S = some f) (hch : ch < 8) (hmi : mi < mn) : ∀ d k n L w, k + d = kn → d < n → TF (kA wz m) w m → RFt w m N kn B L → L.length ≤ 30 * k → Rn (FX9_gathersFits_11 n w m (nI k)) (fun _ w' => Quiet m wz w' ∧ RFt w' m N kn B (gthK (fun k p => fitR (B k) N mp (MM mi) ch S p) (fun k => nP (B k) N) k d L)) := by
  have kn8 := R0.2.2.1
  have l4 := R0.2.2.2.2.2.2.2.2.1
  have l5 := R0.2.2.2.2.2.2.2.2.2.1
  intro d
  induction d with
  | zero =>
    intro k n L w he hn T C hl
    obtain ⟨n, rfl⟩ : ∃ z, n = z + 1 := ⟨n - 1, by omega⟩
    have R := R0.tf T
    rw [FX9_gathersFits_11, R.2.1]
    refine Rn.t (nI_le (by omega) (by omega)) (Rn.eq (ref_back R.1) (Rn.ret ⟨?_, ?_⟩))
    · refine ref_endX (T.1.mono (fun b k z => by unfold PFr at z; unfold PXe; omega)) ?_ (fun j hj => (T.2 j (by omega)).trans (by rw [(kA_fr wz m).ar (by omega)]))
      rw [T.1.i (by unfold PFr; omega)]
      rfl
    · have fB : Fr (fun b k => b = m ∧ k = 16) w (lB w m) := Fr.sR ⟨rfl, rfl⟩
      show RFt (lB w m) m N kn B L
      exact ⟨by rw [fB.i (by omega)]; exact C.1, by rw [fB.ar (by omega)]; exact C.2⟩
  | succ d ih =>
    intro k n L w he hn T C hl
    obtain ⟨n, rfl⟩ : ∃ z, n = z + 1 := ⟨n - 1, by omega⟩
    have R := R0.tf T
    have np31 := (nP_pos (b := B k) l4 l5).2
    rw [FX9_gathersFits_11, R.2.1]
    refine Rn.f (nI_ge (by omega) (by omega)) ?_
    refine gath_k9 (k := k) (L0 := L) R0 Q0 Vl hF hch hmi (by omega) ?_ (nP (B k) N) 0 FUEL L w (by omega) (fuel_lt (by omega)) T C (by omega) rfl
    intro w' T' C' hl'
    exact ih (k + 1) n _ w' (by omega) (by omega) T' C' (Nat.le_trans hl' (by omega))
theorem gathers_r {w : HS} (R : RX w m kn mn B MM N mp) (RVw : RV (ha w m 16) S) (Vl : VL S) (hR : meR S = some mi) (hF : meF S = some f) (hH : meH S = ch) (hch : ch < 8) (hmi : mi < mn) : Rn (FX9_gathersFits w m) (fun _ w' => Quiet m w w' ∧ RFt w' m N kn B (gthK (fun k p => fitR (B k) N mp (MM mi) ch S p) (fun k => nP (B k) N) 0 kn [])) := by
  obtain ⟨r1, r2, r3, r4, r5, r6, r7, r8, r9, r10⟩ := RVw
  have kn8 := R.2.2.1
  obtain ⟨wz, hwz⟩ : ∃ wz, wz = setI w m 36 0 := ⟨_, rfl⟩
  have fz : Fr (fun b k => b = m ∧ k = 36) w wz := by rw [hwz]; exact Fr.sI ⟨rfl, rfl⟩
  have F : Fr (fun b k => b = m ∧ (k = 17 ∨ k = 36)) w (kA wz m) := (fz.mono (fun b k z => by omega)).trans ((kA_fr wz m).mono (fun b k z => by omega))
  have Rk : RX (kA wz m) m kn mn B MM N mp := by
    obtain ⟨c1, c2, c3, c4, c5, c6, c7, c8, c9, c10, c11⟩ := R
    exact ⟨by rw [F.c]; exact c1, by rw [F.i (by omega)]; exact c2, c3, by rw [F.i (by omega)]; exact c4, c5, fun k hk => ⟨(c6 k hk).1.fr F (by omega) (by omega), (c6 k hk).2⟩, fun k hk => ⟨(c7 k hk).1.fr F (by omega) (by omega), (c7 k hk).2⟩, by rw [F.i (by omega)]; exact c8, c9, c10, by rw [F.ar (by omega)]; exact c11⟩
  have a17 : ∀ j, j < 133 → ha (kA wz m) m 17 j = ha w m 16 j := fun j hj => by rw [kA_17 wz m j hj, fz.ar (by omega)]
  have Q : R17 (kA wz m) m mi ch f S := ⟨by rw [a17 _ (by decide), r6, hR]; rfl, by rw [a17 _ (by decide), r7 (by rw [hR]; exact fun z => (by cases z)), hH], by rw [a17 _ (by decide), r8, hF]; rfl, fun i hi => ⟨by rw [a17 _ (by omega)]; exact (r10 i hi).1, by rw [a17 _ (by omega)]; exact (r10 i hi).2⟩⟩
  have C : RFt (kA wz m) m N kn B [] := ⟨by rw [(kA_fr wz m).i (by omega), hwz, hi_setI, if_pos ⟨rfl, rfl⟩]; rfl, fun i hi => absurd hi (Nat.not_lt_zero _)⟩
  have Qz : Quiet m w wz := ⟨fz.mono (fun b k z => by unfold PX; omega), by rw [fz.ar (by omega)], by rw [fz.i (by omega)]⟩
  unfold FX9_gathersFits
  refine Rn.okc R.1 (Rn.bd ?_)
  rw [← hwz]
  refine Rn.eq (ref_keeps (by rw [fz.c]; exact R.1)) ?_
  refine (gath_all9 Rk Q Vl hF hch hmi kn 0 FUEL [] (kA wz m) (by omega) (fuel_lt (by omega)) ⟨Fr.refl, fun _ _ => rfl⟩ C (Nat.zero_le _)).mono ?_
  rintro _ w' ⟨q1, q2⟩
  exact ⟨Qz.trans q1, q2⟩
end GR9
