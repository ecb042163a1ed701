/-! The search: the reference's walk. -/
theorem cdK_d : ∀ k, k < 78 → cdK k / 100 = sLn k ∧ cdK k % 100 / 27 = sDn k ∧ cdK k % 100 - 27 * sDn k = sRs k % 3 ^ sLn k ∧ 27 * sDn k ≤ cdK k % 100 ∧ cdK k < 400 := by decide +kernel
theorem wk_f {e d o : Nat} (d2 : d < 2) (o4 : o < 4) : wkV (8 * e + 4 * d + o) = 100 * e + (10 * d + o) := by
  unfold wkV
  rw [show (8 * e + 4 * d + o) / 8 = e by omega, show (8 * e + 4 * d + o) / 4 % 2 = d by omega, show (8 * e + 4 * d + o) % 4 = o by omega, Nat.add_assoc]
section WO
variable {w : HS} {m K C : Nat} {bk : Nat → Book} {P : PBs}
theorem wo47 {k sd u : Nat} (h9 : hc w m = 9) (k78 : k < 78) (sd3 : sd < 3) (ok : okS k sd = true) (hu : u < sLn k) : ∀ d j n, j + d = u → d < n → FX9_walkedOp_47 n w m (nI (sLn k)) (nI u) (nI (sDn k)) (nI (sRs k % 3 ^ sLn k)) (nI (rsd (sdI k sd j))) (nI j) = some (nI (10 * sDn k + opc k sd u), w) := by
  have l3 := (sLn3 k).2
  intro d
  induction d with
  | zero =>
    intro j n hj hn
    obtain ⟨n, rfl⟩ : ∃ z, n = z + 1 := ⟨n - 1, by omega⟩
    obtain rfl : j = u := by omega
    have s3 := sdI_le (k := k) sd3 j
    have a3 := sAc3 k j
    rw [FX9_walkedOp_47]
    refine E_t (nI_le (by omega) (by omega)) (E_b (stepop_r h9 k78 hu) ?_)
    dsimp only
    unfold opc
    by_cases q : sAc k j = 0
    · have p0 := sdI_pos ok j (Or.inl q)
      rw [if_pos q, rsd_s _ s3 p0, l10_, nI_mul, nI_add]
      exact E_t (by rw [q]; rfl) rfl
    · rw [if_neg q, l10_, nI_mul, nI_1]
      exact E_f (nI_ne0 (by omega) (by omega)) (by rw [nI_add])
  | succ d ih =>
    intro j n hj hn
    obtain ⟨n, rfl⟩ : ∃ z, n = z + 1 := ⟨n - 1, by omega⟩
    have a3 := sAc3 k j
    have nx := ih (j + 1) n (by omega) (by omega)
    have es : sdI k sd (j + 1) = dueA (sdI k sd j) (sAc k j) := rfl
    unfold dueA at es
    rw [FX9_walkedOp_47]
    refine E_f (nI_ge (by omega) (by omega)) (E_b (stepop_r h9 k78 (by omega)) ?_)
    dsimp only
    by_cases q : sAc k j = 0
    · rw [if_pos q] at es
      rw [es] at nx
      refine E_t (by rw [q]; rfl) ?_
      unfold FX9_walkedOp_81
      rw [nI_1]
      exact nx
    · rw [if_neg q] at es
      rw [es, rsd_s _ a3 (by omega)] at nx
      refine E_f (nI_ne0 (by omega) (by omega)) (E_b (stepop_r h9 k78 (by omega)) ?_)
      dsimp only
      unfold FX9_walkedOp_81
      rw [nI_1, l1_, nI_subc (by omega)]
      exact nx
theorem walkedR {i n u : Nat} (h9 : hc w m = 9) (K8 : K ≤ 8) (R : RRi w m K bk P n) (L : Lk P n) (n12 : n ≤ 1201) (i0 : 0 < i) (hi' : i < n) (hu : u < sLn (pB P i)) : FX9_walkedOp w m (nI i) (nI (sLn (pB P i))) (nI u) = some (nI (10 * sDn (pB P i) + opc (pB P i) (pS P (pP P i)).1 u), w) := by
  obtain ⟨l1, l2, l3, l4⟩ := L i i0 hi'
  obtain ⟨r27, r28⟩ := (R.2.2 i hi').2.2 i0
  have Rp := (R.2.2 (pP P i) (by omega)).1
  obtain ⟨c1, c2, c3, c4, c5⟩ := cdK_d (pB P i) l2
  have part0 : FX9_partOf w m (nI (pP P i)) 0 = some (nI (rsd (sdI (pB P i) (pS P (pP P i)).1 0)), w) := by
    have := part_r (bk := bk) h9 K8 (by omega) Rp (p := 0) (by omega)
    unfold rpt at this
    rw [if_pos rfl] at this
    exact this
  have s3 := (sLn3 (pB P i)).2
  unfold FX9_walkedOp
  rw [nI_clamp (by omega), r27, r28]
  refine E_c h9 (E_i rfl (by omega) (by decide) (E_i rfl (by omega) (by decide) (E_i rfl (by omega) (by decide) (E_b part0 ?_))))
  dsimp only
  rw [l100_, nI_rem (a := cdK (pB P i)) (b := 100) (by omega) (by decide), l27_, nI_dv (a := cdK (pB P i) % 100) (b := 27) (by omega) (by decide), c2, nI_mul, nI_subc c4, c3]
  exact wo47 h9 l2 Rp.2.1 l4 hu u 0 FUEL (by omega) (fuel_lt (by omega))
/-- the rows back from the last one -/
def chn (P : PBs) : Nat → Nat
  | 0 => pN P
  | j + 1 => pP P (chn P j)
theorem chn_ok (F : Fdp C P) : ∀ j, j ≤ elP P (pN P) → chn P j ≤ pN P ∧ elP P (chn P j) = elP P (pN P) - j ∧ ∀ t, t < pO P (chn P j) → opP P (pN P) t = opP P (chn P j) t := by
  obtain ⟨f1, f2, f3, f4⟩ := F
  intro j
  induction j with
  | zero => intro _; exact ⟨Nat.le_refl _, rfl, fun _ _ => rfl⟩
  | succ j ih =>
    intro hj
    obtain ⟨c1, c2, c3⟩ := ih (by omega)
    have p0 : 0 < chn P j := by
      rcases Nat.eq_zero_or_pos (chn P j) with h | h
      · rw [h, elP_0] at c2; omega
      · exact h
    have hl := (f3 _ p0 (by omega)).1
    have es := elP_s f3 p0 (show chn P j < pN P + 1 by omega)
    have mo := pO_mono f3 p0 (show chn P j < pN P + 1 by omega)
    show pP P (chn P j) ≤ pN P ∧ elP P (pP P (chn P j)) = _ ∧ ∀ t, t < pO P (pP P (chn P j)) → opP P (pN P) t = opP P (pP P (chn P j)) t
    refine ⟨by omega, by omega, fun t ht => ?_⟩
    rw [c3 t (by omega), opP_s f3 p0 (show chn P j < pN P + 1 by omega), if_pos ht]
theorem chn_pos (F : Fdp C P) {j : Nat} (hj : j < elP P (pN P)) : 0 < chn P j := by
  obtain ⟨_, c2, _⟩ := chn_ok F j (by omega)
  rcases Nat.eq_zero_or_pos (chn P j) with h | h
  · rw [h, elP_0] at c2; omega
  · exact h
theorem chn_0 (F : Fdp C P) : chn P (elP P (pN P)) = 0 := by
  obtain ⟨c1, c2, _⟩ := chn_ok F _ (Nat.le_refl _)
  rcases Nat.eq_zero_or_pos (chn P (elP P (pN P))) with h | h
  · exact h
  · have := elP_s F.2.2.1 h (show chn P (elP P (pN P)) < pN P + 1 by omega)
    omega
theorem walk79 {w0 : HS} {E t : Nat} (F : Fdp C P) (C9 : C ≤ 9) (h9 : hc w m = 9) (K8 : K ≤ 8) (n12 : pN P ≤ 1200) (R : RRi w m K bk P (pN P + 1)) (hE : E = elP P (pN P)) (E9 : E ≤ 9) (t31 : t < 2 ^ 31) (h34 : ∀ j, j < E → ha w m 34 j = nI (chn P j)) : ∀ d e n, e + d = E → d < n → pO P (chn P (E - e)) ≤ t → FX9_walk_79 n w m (nI E) (nI (t - pO P (chn P (E - e)))) (nI e) = some (if t < C then nI (wkV (opP P (pN P) t)) else -2, w) := by
  intro d
  induction d with
  | zero =>
    intro e n he hn ht
    obtain ⟨n, rfl⟩ : ∃ z, n = z + 1 := ⟨n - 1, by omega⟩
    have ez : E - e = 0 := by omega
    rw [ez] at ht
    have : pO P (chn P 0) = C := F.2.2.2
    rw [show (if t < C then nI (wkV (opP P (pN P) t)) else (-2 : Int32)) = -2 from if_neg (by omega), FX9_walk_79]
    exact E_t (nI_le (by omega) (by omega)) rfl
  | succ d ih =>
    intro e n he hn ht
    obtain ⟨n, rfl⟩ : ∃ z, n = z + 1 := ⟨n - 1, by omega⟩
    obtain ⟨j, hj⟩ : ∃ j, j = E - 1 - e := ⟨_, rfl⟩
    have p0 := chn_pos F (j := j) (by omega)
    obtain ⟨c1, c2, c3⟩ := chn_ok F j (by omega)
    have ej : E - e = j + 1 := by omega
    have eq1 : chn P (E - e) = pP P (chn P j) := by rw [ej]; rfl
    obtain ⟨i, hi'⟩ : ∃ i, i = chn P j := ⟨_, rfl⟩
    rw [← hi'] at p0 c1 c2 c3 eq1
    have r34 := h34 j (by omega)
    rw [← hi'] at r34
    obtain ⟨k1, k2, k3, k4⟩ := F.2.2.1 i p0 (by omega)
    have r28 := ((R.2.2 i (by omega)).2.2 p0).2
    obtain ⟨d1, d2, d3, d4, d5⟩ := cdK_d _ k2
    have s3 := (sLn3 (pB P i)).2
    rw [eq1] at ht ⊢
    rw [FX9_walk_79, l1_, nI_subc (by omega), nI_subc (by omega), ← hj, nI_clamp (n := j) (by omega), r34, nI_clamp (n := i) (by omega), r28, l100_, nI_dv (a := cdK (pB P i)) (b := 100) (by omega) (by decide), d1]
    refine E_f (nI_ge (by omega) (by omega)) (E_i rfl (by omega) (by decide) (E_i rfl (by omega) (by decide) ?_))
    by_cases q : sLn (pB P i) ≤ t - pO P (pP P i)
    · refine E_t (nI_le q (by omega)) ?_
      rw [nI_subc q, nI_add]
      have e2 : E - (e + 1) = j := by omega
      have nx := ih (e + 1) n (by omega) (by omega) (by rw [e2, ← hi']; omega)
      rw [e2, ← hi', show t - pO P i = t - pO P (pP P i) - sLn (pB P i) by omega] at nx
      exact nx
    · have hC : pO P i ≤ C := by
        have mono : ∀ j, j ≤ E → pO P (chn P j) ≤ C := by
          intro j
          induction j with
          | zero => intro _; show pO P (pN P) ≤ C; rw [F.2.2.2]; exact Nat.le_refl _
          | succ j ih' =>
            intro hj'
            have := ih' (by omega)
            have p0' := chn_pos F (j := j) (by omega)
            have c1' := (chn_ok F j (by omega)).1
            have := pO_mono F.2.2.1 p0' (show chn P j < pN P + 1 by omega)
            show pO P (pP P (chn P j)) ≤ C
            omega
        rw [hi']
        exact mono j (by omega)
      have es := elP_s F.2.2.1 p0 (show i < pN P + 1 by omega)
      refine E_f (fun z => q ((nI_leI (by omega) (by omega)).mp z)) (E_b (walkedR h9 K8 R F.2.2.1 (by omega) p0 (by omega) (by omega)) ?_)
      dsimp only
      rw [if_pos (by omega), c3 t (by omega), opP_s F.2.2.1 p0 (show i < pN P + 1 by omega), if_neg (by omega), nI_mul, nI_add, show elP P (pP P i) = e by omega]
      have o4 := opc4 (k := pB P i) (u := t - pO P (pP P i)) ((R.2.2 (pP P i) (by omega)).1.2.1)
      have dd := sDn2 (pB P i)
      unfold fldV
      rw [wk_f dd o4]
/-- what a walk tells -/
def wAn (P : PBs) (E C : Nat) (v : Int32) : Int32 := if v = -1 then nI E else if v < nI C then nI (wkV (opP P (pN P) v.toNatClampNeg)) else -2
theorem walk33 {w0 : HS} {v : Int32} {E : Nat} (F : Fdp C P) (C9 : C ≤ 9) (h9 : hc w0 m = 9) (K8 : K ≤ 8) (n12 : pN P ≤ 1200) (R : RRi w0 m K bk P (pN P + 1)) (hE : E = elP P (pN P)) (E9 : E ≤ 9) (hv : v = -1 ∨ ∃ t, v = nI t ∧ t < 2 ^ 31) : ∀ d j n w, j + d = E → d < n → Fr (fun b k => b = m ∧ k = 34) w0 w → (∀ i, i < j → ha w m 34 i = nI (chn P i)) → ∃ w', FX9_walk_33 n w m v (nI j) (nI (chn P j)) = some (wAn P E C v, w') ∧ Fr (fun b k => b = m ∧ k = 34) w0 w' := by
  intro d
  induction d with
  | zero =>
    intro j n w hj hn Fw Z
    obtain ⟨n, rfl⟩ : ∃ z, n = z + 1 := ⟨n - 1, by omega⟩
    obtain rfl : j = E := by omega
    have z0 : chn P j = 0 := by rw [hE]; exact chn_0 F
    have Rw : RRi w m K bk P (pN P + 1) := R.fr Fw (fun k h1 h2 => by omega)
    refine ⟨w, ?_, Fw⟩
    rw [FX9_walk_33, z0, nI_clamp (by decide), Rw.2.1]
    refine E_i rfl (by decide) (by decide) (E_t (by decide) ?_)
    rcases hv with h | ⟨t, h, t31⟩
    · have eA : wAn P j C v = nI j := if_pos h
      rw [eA]
      exact E_t h rfl
    · have nm : ¬ v = -1 := by
        rw [h]
        intro z
        have := nI_pos (n := t) t31
        rw [z] at this
        exact this (by decide)
      have eA : wAn P j C v = if t < C then nI (wkV (opP P (pN P) t)) else -2 := by
        unfold wAn
        rw [if_neg nm, h, nI_clamp t31]
        by_cases q : t < C
        · rw [if_pos q, if_pos (nI_lt q (by omega))]
        · rw [if_neg q, if_neg (nI_nlt (by omega) (by omega))]
      rw [eA]
      refine E_f nm ?_
      have g := walk79 (w0 := w0) F C9 (by rw [Fw.c]; exact h9) K8 n12 Rw hE E9 t31 Z j 0 FUEL (by omega) (fuel_lt (by omega)) (by rw [Nat.sub_zero, z0, F.2.1]; exact Nat.zero_le _)
      rw [Nat.sub_zero, z0, F.2.1, Nat.sub_zero] at g
      rw [h]
      exact g
  | succ d ih =>
    intro j n w hj hn Fw Z
    obtain ⟨n, rfl⟩ : ∃ z, n = z + 1 := ⟨n - 1, by omega⟩
    have p0 := chn_pos F (j := j) (by omega)
    obtain ⟨c1, c2, c3⟩ := chn_ok F j (by omega)
    have Rw : RRi w m K bk P (pN P + 1) := R.fr Fw (fun k h1 h2 => by omega)
    have r27 := ((Rw.2.2 (chn P j) (by omega)).2.2 p0).1
    have lp := (F.2.2.1 _ p0 (show chn P j < pN P + 1 by omega)).1
    obtain ⟨w1, hw1⟩ : ∃ w1, w1 = setA w m 34 j (nI (chn P j)) := ⟨_, rfl⟩
    have F1 : Fr (fun b k => b = m ∧ k = 34) w w1 := by rw [hw1]; exact Fr.sA ⟨rfl, rfl⟩
    obtain ⟨w', e', r⟩ := ih (j + 1) n w1 (by omega) (by omega) (Fw.trans F1) (fun i hi' => by
      rw [hw1, ha_upd]
      by_cases e : i = j
      · rw [if_pos e, e]
      · rw [if_neg e]; exact Z i (by omega))
    refine ⟨w', ?_, r⟩
    rw [FX9_walk_33, nI_clamp (n := chn P j) (by omega), r27, nI_clamp (n := j) (by omega)]
    refine E_i rfl (by omega) (by decide) (E_f (nI_pos (by omega)) (E_i rfl (by omega) (by decide) (E_d (E_i rfl (by omega) (by decide) ?_))))
    rw [← hw1, F1.ar (by omega), r27, nI_1]
    exact e'
end WO
