/-! The greatest part: reference. -/
section PR9
variable {m N kn mn mj : Nat} {mp : Nat → Nat} {B : Nat → Book} {MM : Nat → Mch} {FL : List (Nat × Nat)}
/-- reference: the logs of the first i -/
def RPl (w : HS) (m : Nat) (D : Nat → List (Nat × Nat)) (i : Nat) : Prop := ∀ j, j < i → ha w m 37 j = nI (D j).length ∧ ∀ v, v < 2 * mn60 (D j).length → ha w m 38 (120 * j + v) = nI (peL (gt (D j)) v)
def PPr (m : Nat) : Nat → Nat → Prop := fun b k => b = m ∧ (k = 16 ∨ (20 ≤ k ∧ k ≤ 22) ∨ k = 37 ∨ k = 38)
def TPa (w0 w : HS) (m : Nat) : Prop := Fr (PPr m) w0 w ∧ ∀ j, 4 ≤ j → ha w m 16 j = ha w0 m 16 j
theorem TPa.tr {w0 w w' : HS} (h : TPa w0 w m) (g : TPa w w' m) : TPa w0 w' m := ⟨h.1.trans g.1, fun j hj => (g.2 j hj).trans (h.2 j hj)⟩
theorem RX.tp {w w' : HS} (R : RX w m kn mn B MM N mp) (T : TPa w w' m) : RX w' m kn mn B MM N mp := by
  obtain ⟨c1, c2, c3, c4, c5, c6, c7, c8, c9, c10, c11⟩ := R
  have f := T.1
  exact ⟨by rw [f.c]; exact c1, by rw [f.i (by unfold PPr; omega)]; exact c2, c3, by rw [f.i (by unfold PPr; omega)]; exact c4, c5, fun k hk => ⟨(c6 k hk).1.fr f (by unfold PPr; omega) (by unfold PPr; omega), (c6 k hk).2⟩, fun k hk => ⟨(c7 k hk).1.fr f (by unfold PPr; omega) (by unfold PPr; omega), (c7 k hk).2⟩, by rw [f.i (by unfold PPr; omega)]; exact c8, c9, c10, fun i hi => by rw [T.2 _ (by omega)]; exact c11 i hi⟩
theorem RFt.fr {P : Nat → Nat → Prop} {w w' : HS} (C : RFt w m N kn B FL) (F : Fr P w w') (n35 : ¬ P m 35) (n36 : ¬ P m 36) : RFt w' m N kn B FL := by
  unfold RFt
  rw [F.i n36, F.ar n35]
  exact C
/-- a log is laid into row i -/
theorem parts65 {w0 : HS} {i : Nat} {L : List (Nat × Nat)} {vm : Int32} {k6 : HS → Nat → Int32 → Int32 → Option (Int32 × HS)} {Q : Int32 → HS → Prop} (i240 : i < 240) (l9 : L.length ≤ 999) (h20 : hi w0 m 20 = nI L.length) (h21 : ∀ v, v < 2 * mn60 L.length → ha w0 m 21 v = nI (peL (gt L) v))
    (K : ∀ w', Fr (fun b k => b = m ∧ k = 38) w0 w' → (∀ j, (j < 120 * i ∨ 120 * i + 120 ≤ j) → ha w' m 38 j = ha w0 m 38 j) → (∀ v, v < 2 * mn60 L.length → ha w' m 38 (120 * i + v) = nI (peL (gt L) v)) → Rn (k6 w' m vm (nI (i + 1))) Q) : ∀ d v n w, v + d = 2 * mn60 L.length → d < n → Fr (fun b k => b = m ∧ k = 38) w0 w → (∀ j, (j < 120 * i ∨ 120 * i + 120 ≤ j) → ha w m 38 j = ha w0 m 38 j) → (∀ u, u < v → ha w m 38 (120 * i + u) = nI (peL (gt L) u)) → Rn (FX9_partsOf_65 k6 n w m vm (nI i) (nI v)) Q := by
  have n60 := mn60_le L.length
  intro d
  induction d with
  | zero =>
    intro v n w hv hn F O E
    obtain ⟨n, rfl⟩ : ∃ z, n = z + 1 := ⟨n - 1, by omega⟩
    have fin : Rn (FX9_partsOf_104 k6 w m vm (nI i)) Q := by
      unfold FX9_partsOf_104
      rw [nI_1]
      exact K w F O (fun u hu => E u (by omega))
    rw [FX9_partsOf_65, F.i (by omega), h20, l2_, nI_mul]
    by_cases z : 2 * L.length ≤ v
    · exact Rn.t (nI_le z (by omega)) fin
    · refine Rn.f (nI_ge (by omega) (by omega)) (Rn.t (nI_le (a := 120) ?_ (by omega)) fin)
      unfold mn60 at hv
      split at hv <;> omega
  | succ d ih =>
    intro v n w hv hn F O E
    obtain ⟨n, rfl⟩ : ∃ z, n = z + 1 := ⟨n - 1, by omega⟩
    rw [FX9_partsOf_65, F.i (by omega), h20, l2_, nI_mul, show (120 : Int32) * nI i + nI v = nI (120 * i + v) from by rw [l120_, nI_mul, nI_add], nI_clamp (by omega), nI_clamp (by omega), F.ar (by omega), h21 v (by omega)]
    refine Rn.f (nI_ge (by omega) (by omega)) (Rn.f (nI_ge (b := 120) (by omega) (by decide)) (Rn.oki rfl (by omega) (by decide) (Rn.oki rfl (by omega) (by decide) (Rn.bd ?_))))
    rw [nI_1]
    refine ih (v + 1) n _ (by omega) (by omega) (F.trans (Fr.sA ⟨rfl, rfl⟩)) (fun j hj => ?_) (fun u hu => ?_)
    · rw [ha_setA, if_pos ⟨rfl, rfl⟩, upd_n (by omega)]
      exact O j hj
    · rw [ha_setA, if_pos ⟨rfl, rfl⟩]
      by_cases e : u = v
      · rw [e, upd_s]
      · rw [upd_n (by omega)]
        exact E u (by omega)
theorem pe21 {w : HS} {L : List (Nat × Nat)} (LG : LGr w m L) : ∀ v, v < 2 * mn60 L.length → ha w m 21 v = nI (peL (gt L) v) := by
  intro v hv
  have n60 := mn60_le L.length
  have t1 := LG.2.2 (v / 2) (by omega) (by omega)
  unfold peL
  by_cases h : v % 2 = 0
  · rw [if_pos h]
    rw [show 2 * (v / 2) = v from by omega] at t1
    exact t1.1
  · rw [if_neg h]
    rw [show 2 * (v / 2) + 1 = v from by omega] at t1
    exact t1.2
theorem alike_r {w : HS} {D : Nat → List (Nat × Nat)} {n i j : Nat} (h9 : hc w m = 9) (P : RPl w m D n) (hi' : i < n) (hj' : j < n) (n240 : n ≤ 240) (G : ∀ t, t < n → GLg (MM mj) N (D t)) (N6 : N ≤ 6) (hM : WM (MM mj)) : FX9_areAlike w m (nI i) (nI j) = some (if kyL (D j) = kyL (D i) then 1 else 0, w) := by
  obtain ⟨a1, a2⟩ := P i hi'
  obtain ⟨b1, b2⟩ := P j hj'
  obtain ⟨g1, g2, g3, _⟩ := G i hi'
  obtain ⟨g1', g2', g3', _⟩ := G j hj'
  unfold FX9_areAlike
  rw [nI_clamp (by omega), nI_clamp (by omega), a1, b1]
  refine E_c h9 (E_i rfl (by omega) (by decide) (E_i rfl (by omega) (by decide) ?_))
  by_cases e : (D i).length = (D j).length
  · refine E_t (by rw [e]) ?_
    have n60 := mn60_le (D i).length
    rw [← e] at b2
    have bd : ∀ v, v < 2 * mn60 (D i).length → peL (gt (D i)) v < 288 ∧ peL (gt (D j)) v < 288 := by
      intro v hv
      have t1 := g3 (v / 2) (by omega)
      have t2 := g3' (v / 2) (by omega)
      have t3 := (gad_bd hM N6 (g2 (v / 2) (by omega))).2
      have t4 := (gad_bd hM N6 (g2' (v / 2) (by omega))).2
      unfold peL
      split
      · exact ⟨t1, t2⟩
      · exact ⟨by omega, by omega⟩
    have loop : ∀ d v k, v + d = 2 * mn60 (D i).length → d < k → (∀ u, u < v → peL (gt (D i)) u = peL (gt (D j)) u) → FX9_areAlike_19 k w m (nI i) (nI j) (nI v) = some (if kyL (D j) = kyL (D i) then 1 else 0, w) := by
      intro d
      induction d with
      | zero =>
        intro v k hv hk h
        obtain ⟨k, rfl⟩ : ∃ z, k = z + 1 := ⟨k - 1, by omega⟩
        have ke : kyL (D j) = kyL (D i) := by
          rw [ky_iff, ← e]
          refine ⟨rfl, fun t ht => ?_⟩
          have t1 := h (2 * t) (by omega)
          have t2 := h (2 * t + 1) (by omega)
          unfold peL at t1 t2
          rw [if_pos (by omega), if_pos (by omega), show 2 * t / 2 = t from by omega] at t1
          rw [if_neg (by omega), if_neg (by omega), show (2 * t + 1) / 2 = t from by omega] at t2
          exact Prod.ext t1.symm t2.symm
        rw [FX9_areAlike_19, nI_clamp (by omega), a1, if_pos ke, l2_, nI_mul]
        refine E_i rfl (by omega) (by decide) ?_
        by_cases z : 2 * (D i).length ≤ v
        · exact E_t (nI_le z (by omega)) rfl
        · refine E_f (nI_ge (by omega) (by omega)) (E_t (nI_le (a := 120) ?_ (by omega)) rfl)
          unfold mn60 at hv
          split at hv <;> omega
      | succ d ih =>
        intro v k hv hk h
        obtain ⟨k, rfl⟩ : ∃ z, k = z + 1 := ⟨k - 1, by omega⟩
        obtain ⟨d1, d2⟩ := bd v (by omega)
        rw [FX9_areAlike_19, nI_clamp (n := i) (by omega), a1, l2_, nI_mul, show (120 : Int32) * nI i + nI v = nI (120 * i + v) from by rw [l120_, nI_mul, nI_add], show (120 : Int32) * nI j + nI v = nI (120 * j + v) from by rw [l120_, nI_mul, nI_add], nI_clamp (n := 120 * i + v) (by omega), nI_clamp (n := 120 * j + v) (by omega), a2 v (by omega), b2 v (by omega)]
        refine E_i rfl (by omega) (by decide) (E_f (nI_ge (by omega) (by omega)) (E_f (nI_ge (b := 120) (by omega) (by decide)) (E_i rfl (by omega) (by decide) (E_i rfl (by omega) (by decide) ?_))))
        by_cases eq : peL (gt (D i)) v = peL (gt (D j)) v
        · refine E_t (by rw [eq]) ?_
          rw [nI_1]
          refine ih (v + 1) k (by omega) (by omega) (fun u hu => ?_)
          by_cases uv : u = v
          · rw [uv]; exact eq
          · exact h u (by omega)
        · have ke : ¬ kyL (D j) = kyL (D i) := by
            rw [ky_iff]
            rintro ⟨_, z⟩
            apply eq
            rw [← e] at z
            have := z (v / 2) (by omega)
            unfold peL
            rw [this]
          rw [if_neg ke]
          exact E_f (fun z => eq ((nI_eq (by omega) (by omega)).mp z)) rfl
    exact loop (2 * mn60 (D i).length) 0 FUEL (by omega) (fuel_lt (by omega)) (fun u hu => absurd hu (Nat.not_lt_zero _))
  · have ke : ¬ kyL (D j) = kyL (D i) := fun z => e (ky_iff.mp z).1.symm
    rw [if_neg ke]
    exact E_f (fun z => e ((nI_eq (by omega) (by omega)).mp z)) rfl
/-- the count of one row -/
theorem parts132 {w : HS} {D : Nat → List (Nat × Nat)} {n i c0 : Nat} {k118 : HS → Nat → Int32 → Int32 → Option (Int32 × HS)} (h9 : hc w m = 9) (h36 : hi w m 36 = nI n) (P : RPl w m D n) (hi' : i < n) (n240 : n ≤ 240) (c240 : c0 ≤ 240) (G : ∀ t, t < n → GLg (MM mj) N (D t)) (N6 : N ≤ 6) (hM : WM (MM mj)) : ∀ d j k, j + d = n → d < k → FX9_partsOf_132 k118 k w m (nI c0) (nI i) (nI (asE (fun j => kyL (D j)) (kyL (D i)) j)) (nI j) = k118 w m (nI (mxN c0 (asE (fun j => kyL (D j)) (kyL (D i)) n))) (nI (i + 1)) := by
  intro d
  induction d with
  | zero =>
    intro j k hj' hk
    obtain ⟨k, rfl⟩ : ∃ z, k = z + 1 := ⟨k - 1, by omega⟩
    have e : j = n := by omega
    subst e
    have cle := asE_le (D := fun j => kyL (D j)) (kyL (D i)) j
    rw [FX9_partsOf_132, h36, if_pos (nI_le (Nat.le_refl _) (by omega))]
    unfold FX9_partsOf_179 mxN
    rw [nI_1]
    by_cases h : c0 < asE (fun j => kyL (D j)) (kyL (D i)) j
    · rw [if_neg (nI_ge h (by omega)), if_pos h]
    · rw [if_pos (nI_le (by omega) (by omega)), if_neg h]
  | succ d ih =>
    intro j k hj' hk
    obtain ⟨k, rfl⟩ : ∃ z, k = z + 1 := ⟨k - 1, by omega⟩
    have al := alike_r (mj := mj) (MM := MM) h9 P hi' (show j < n by omega) n240 G N6 hM
    have st := ih (j + 1) k (by omega) (by omega)
    rw [asE_succ] at st
    rw [FX9_partsOf_132, h36, if_neg (nI_ge (by omega) (by omega)), al]
    show (if (if kyL (D j) = kyL (D i) then (1 : Int32) else 0) = 0 then _ else _) = _
    unfold FX9_partsOf_158
    rw [nI_1]
    by_cases h : kyL (D j) = kyL (D i)
    · rw [if_pos h] at st
      rw [if_pos h, if_neg i10, nI_1]
      exact st
    · rw [if_neg h] at st
      rw [if_neg h, if_pos rfl, show nI (asE (fun j => kyL (D j)) (kyL (D i)) j) + (0 : Int32) = nI (asE (fun j => kyL (D j)) (kyL (D i)) j + 0) from nI_add _ 0]
      exact st
theorem rm_n {D : Nat → Key} (n k : Nat) : rmD D n k ≤ n := rm_le n k (fun i _ => asE_le _ n)
theorem parts118 {w : HS} {D : Nat → List (Nat × Nat)} {n : Nat} (h9 : hc w m = 9) (h36 : hi w m 36 = nI n) (P : RPl w m D n) (n240 : n ≤ 240) (G : ∀ t, t < n → GLg (MM mj) N (D t)) (N6 : N ≤ 6) (hM : WM (MM mj)) : ∀ d i k, i + d = n → d < k → FX9_partsOf_118 k w m (nI (rmD (fun j => kyL (D j)) n i)) (nI i) = some (nI (rmD (fun j => kyL (D j)) n n), w) := by
  intro d
  induction d with
  | zero =>
    intro i k hi' hk
    obtain ⟨k, rfl⟩ : ∃ z, k = z + 1 := ⟨k - 1, by omega⟩
    have e : i = n := by omega
    subst e
    rw [FX9_partsOf_118, h36]
    exact E_t (nI_le (Nat.le_refl _) (by omega)) rfl
  | succ d ih =>
    intro i k hi' hk
    obtain ⟨k, rfl⟩ : ∃ z, k = z + 1 := ⟨k - 1, by omega⟩
    have rl := rm_n (D := fun j => kyL (D j)) n i
    have := parts132 (k118 := FX9_partsOf_118 k) (mj := mj) (MM := MM) (c0 := rmD (fun j => kyL (D j)) n i) h9 h36 P (show i < n by omega) n240 (by omega) G N6 hM n 0 FUEL (by omega) (fuel_lt (by omega))
    rw [FX9_partsOf_118, h36]
    refine E_f (nI_ge (by omega) (by omega)) (Eq.trans this ?_)
    exact ih (i + 1) k (by omega) (by omega)
theorem parts6 {wz : HS} (R0 : RX (kA wz m) m kn mn B MM N mp) (C0 : RFt (kA wz m) m N kn B FL) (l240 : FL.length ≤ 240) (ok : ∀ i, i < FL.length → (gt FL i).1 < kn ∧ (gt FL i).2 < nP (B (gt FL i).1) N) (hmj : mj < mn) : ∀ d i n w, i + d = FL.length → d < n → TPa (kA wz m) w m → RPl w m (pD B N mp (MM mj) FL) i → Rn (FX9_partsOf_6 n w m (nI mj) (nI i)) (fun z w' => z = nI (rmD (kD B N mp (MM mj) FL) FL.length FL.length) ∧ Quiet m wz w' ∧ RFt w' m N kn B FL) := by
  have kn8 := R0.2.2.1
  have mn6 := R0.2.2.2.2.1
  have l4 := R0.2.2.2.2.2.2.2.2.1
  have l5 := R0.2.2.2.2.2.2.2.2.2.1
  have hM := (R0.2.2.2.2.2.2.1 mj hmj).2
  intro d
  induction d with
  | zero =>
    intro i n w he hn T P
    obtain ⟨n, rfl⟩ : ∃ z, n = z + 1 := ⟨n - 1, by omega⟩
    have e : i = FL.length := by omega
    subst e
    have R := R0.tp T
    have C : RFt w m N kn B FL := C0.fr T.1 (by unfold PPr; omega) (by unfold PPr; omega)
    have fB : Fr (fun b k => b = m ∧ k = 16) w (lB w m) := Fr.sR ⟨rfl, rfl⟩
    have Pb : RPl (lB w m) m (pD B N mp (MM mj) FL) FL.length := by
      unfold RPl
      rw [fB.ar (by omega), fB.ar (by omega)]
      exact P
    have e36 : hi (lB w m) m 36 = nI FL.length := by rw [fB.i (by omega)]; exact C.1
    rw [FX9_partsOf_6, C.1]
    refine Rn.t (nI_le (Nat.le_refl _) (by omega)) (Rn.eq (ref_back R.1) ?_)
    refine Rn.of (parts118 (mj := mj) (MM := MM) (N := N) (by rw [fB.c]; exact R.1) e36 Pb l240 (fun t _ => rl_glg hM l5) l5 hM FL.length 0 FUEL (by omega) (fuel_lt (by omega))) ⟨rfl, ?_, C.fr fB (by omega) (by omega)⟩
    refine ref_endX (T.1.mono (fun b k z => by unfold PPr at z; unfold PXe; omega)) ?_ (fun j hj => (T.2 j (by omega)).trans (by rw [(kA_fr wz m).ar (by omega)]))
    rw [T.1.i (by unfold PPr; omega)]
    rfl
  | succ d ih =>
    intro i n w he hn T P
    obtain ⟨n, rfl⟩ : ∃ z, n = z + 1 := ⟨n - 1, by omega⟩
    have R := R0.tp T
    have C : RFt w m N kn B FL := C0.fr T.1 (by unfold PPr; omega) (by unfold PPr; omega)
    obtain ⟨k1, k2⟩ := ok i (by omega)
    obtain ⟨t1, t2, t3⟩ := C.2 i (by omega)
    have W := (R.2.2.2.2.2.1 (gt FL i).1 k1).2
    obtain ⟨_, PLk, _, _⟩ := pl_of W l4 l5 k2
    have G := R.rg k1 hmj
    obtain ⟨w1, e1, go⟩ := ref_trun (ch := 0) (c := 0) G TM.refl PLk (by decide) (by decide)
    rw [FX9_partsOf_6, C.1]
    refine Rn.f (nI_ge (by omega) (by omega)) ?_
    rw [l3_, nI_mul, l1_, nI_add, l2_, nI_add, nI_clamp (n := 3 * i) (by omega), nI_clamp (n := 3 * i + 1) (by omega), nI_clamp (n := 3 * i + 2) (by omega), t1, t2, t3]
    refine Rn.oki rfl (by omega) (by decide) (Rn.oki rfl (by omega) (by decide) (Rn.oki rfl (by omega) (by decide) (Rn.eq e1 (go.call ?_))))
    rintro _ w2 ⟨T2, LG2⟩
    have LG2' : LGr w2 m (pD B N mp (MM mj) FL i) := LG2
    refine Rn.oki rfl (show i < 240 by omega) (by decide) (Rn.bd ?_)
    dsimp only
    rw [nI_clamp (by omega), LG2'.1]
    obtain ⟨w3, hw3⟩ : ∃ w3, w3 = setA w2 m 37 i (nI (pD B N mp (MM mj) FL i).length) := ⟨_, rfl⟩
    have f3 : Fr (fun b k => b = m ∧ k = 37) w2 w3 := by rw [hw3]; exact Fr.sA ⟨rfl, rfl⟩
    rw [← hw3]
    refine parts65 (L := pD B N mp (MM mj) FL i) (by omega) LG2'.2.1 (by rw [f3.i (by omega)]; exact LG2'.1) (fun v hv => by rw [f3.ar (by omega)]; exact pe21 LG2' v hv) ?_ (2 * mn60 (pD B N mp (MM mj) FL i).length) 0 FUEL w3 (by omega) (fuel_lt (by have := mn60_le (pD B N mp (MM mj) FL i).length; omega)) Fr.refl (fun j _ => rfl) (fun u hu => absurd hu (Nat.not_lt_zero _))
    intro w4 F4 O4 E4
    have n60 := mn60_le (pD B N mp (MM mj) FL i).length
    have T24 : TPa w w4 m := ⟨((T2.1.mono (fun b k z => by unfold PR at z; unfold PPr; omega)).trans (f3.mono (fun b k z => by unfold PPr; omega))).trans (F4.mono (fun b k z => by unfold PPr; omega)), fun j hj => by rw [F4.ar (by omega), f3.ar (by omega)]; exact T2.2 j hj⟩
    refine ih (i + 1) n w4 (by omega) (by omega) (T.tr T24) (fun j hj => ?_)
    by_cases e : j = i
    · subst e
      exact ⟨by rw [F4.ar (by omega), hw3, ha_setA, if_pos ⟨rfl, rfl⟩, upd_s], E4⟩
    · obtain ⟨b1, b2⟩ := P j (by omega)
      refine ⟨by rw [F4.ar (by omega), hw3, ha_setA, if_pos ⟨rfl, rfl⟩, upd_n e, T2.1.ar (by unfold PR; omega)]; exact b1, fun v hv => ?_⟩
      have := mn60_le (pD B N mp (MM mj) FL j).length
      rw [O4 _ (by omega), f3.ar (by omega), T2.1.ar (by unfold PR; omega)]
      exact b2 v hv
theorem partsOf_r {w : HS} (R : RX w m kn mn B MM N mp) (C : RFt w m N kn B FL) (l240 : FL.length ≤ 240) (ok : ∀ i, i < FL.length → (gt FL i).1 < kn ∧ (gt FL i).2 < nP (B (gt FL i).1) N) (hmj : mj < mn) : Rn (FX9_partsOf w m (nI mj)) (fun z w' => z = nI (rmD (kD B N mp (MM mj) FL) FL.length FL.length) ∧ Quiet m w w' ∧ RFt w' m N kn B FL) := by
  have F := kA_fr w m
  have Rk : RX (kA w m) m kn mn B MM N mp := by
    obtain ⟨c1, c2, c3, c4, c5, c6, c7, c8, c9, c10, c11⟩ := R
    exact ⟨by rw [F.c]; exact c1, by rw [F.i (by omega)]; exact c2, c3, by rw [F.i (by omega)]; exact c4, c5, fun k hk => ⟨(c6 k hk).1.fr F (by omega) (by omega), (c6 k hk).2⟩, fun k hk => ⟨(c7 k hk).1.fr F (by omega) (by omega), (c7 k hk).2⟩, by rw [F.i (by omega)]; exact c8, c9, c10, by rw [F.ar (by omega)]; exact c11⟩
  unfold FX9_partsOf
  refine Rn.okc R.1 (Rn.eq (ref_keeps R.1) ?_)
  exact parts6 Rk (C.fr F (by omega) (by omega)) l240 ok hmj FL.length 0 FUEL (kA w m) (by omega) (fuel_lt (by omega)) ⟨Fr.refl, fun _ _ => rfl⟩ (fun j hj => absurd hj (Nat.not_lt_zero _))
end PR9
