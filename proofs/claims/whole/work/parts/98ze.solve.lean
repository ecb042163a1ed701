/-! The search: a set solved, class. -/
def kK (z j : Nat) : Nat := cntF (fun k => decide (bt z k = 1)) 0 j
def ksF (z j : Nat) : Nat := (fsN (fun k => decide (bt z k = 1 ∧ kK z k = j)) 0 8).getD ((fsN (fun k => decide (bt z k = 1)) 0 8).getD 0)
theorem ks_at : ∀ z, z < 256 → ∀ k, k < 8 → bt z k = 1 → ksF z (kK z k) = k := by decide +kernel
theorem ks_some : ∀ z, z < 256 → 0 < z → (fsN (fun k => decide (bt z k = 1)) 0 8).isSome = true := by decide +kernel
theorem kK_pos : ∀ z, z < 256 → 0 < z → 0 < kK z 8 ∧ kK z 8 ≤ 8 := by decide +kernel
theorem bt_kn : ∀ kn, kn < 9 → ∀ z, z < 2 ^ kn → ∀ k, k < 8 → bt z k = 1 → k < kn := by decide +kernel
theorem ks_bit {z : Nat} (z256 : z < 256) (z0 : 0 < z) (j : Nat) : ksF z j < 8 ∧ bt z (ksF z j) = 1 := by
  unfold ksF
  cases e : fsN (fun k => decide (bt z k = 1 ∧ kK z k = j)) 0 8 with
  | some k =>
    obtain ⟨_, k2, k3⟩ := fsN_some e
    exact ⟨by show k < 8; omega, (of_decide_eq_true k3).1⟩
  | none =>
    cases e2 : fsN (fun k => decide (bt z k = 1)) 0 8 with
    | some k =>
      obtain ⟨_, k2, k3⟩ := fsN_some e2
      exact ⟨by show k < 8; omega, of_decide_eq_true k3⟩
    | none =>
      have := ks_some z z256 z0
      rw [e2] at this
      cases this
theorem kK_s (z k : Nat) : kK z (k + 1) = kK z k + if bt z k = 1 then 1 else 0 := by
  unfold kK
  rw [cnt_snoc, Nat.zero_add]
  by_cases h : bt z k = 1
  · rw [if_pos h, if_pos (decide_eq_true h)]
  · rw [if_neg h, if_neg (by rw [decide_eq_true_eq]; exact h)]
theorem kK_le (z k : Nat) : kK z k ≤ k := cntF_le
def bkZ (B : Nat → Book) (z : Nat) : Nat → Book := fun j => B (ksF z j)
def srB (B : Nat → Book) (z : Nat) : Nat × Nat × PBs := srch (kK z 8) (bkZ B z)
theorem srB_fd {B : Nat → Book} {z : Nat} (o : (srB B z).1 = 1) : Fdp (srB B z).2.1 (srB B z).2.2 := by
  unfold srB at o ⊢
  exact srch_fd o
/-- class: the answer of a set -/
def ANS (w : HS) (s : Nat) (B : Nat → Book) (z : Nat) : Prop := ha w s 0 z = srI (srB B z) ∧ ((srB B z).1 = 1 → 0 < (srB B z).2.1 ∧ (srB B z).2.1 ≤ 9 ∧ ∃ X, hj w s 1 z = jN X ∧ X < 128 ^ 9 ∧ ∀ t, t < (srB B z).2.1 → dh X t = opP (srB B z).2.2 (pN (srB B z).2.2) t)
def SIv (w : HS) (s kn : Nat) (B : Nat → Book) : Prop := hc w s = 4 ∧ STk w s 78 ∧ LKd w s kn B ∧ ∀ z, z < 256 → ha w s 0 z = 0 ∨ (0 < z ∧ z < 2 ^ kn ∧ ANS w s B z)
theorem srI_ne {r : Nat × Nat × PBs} (h : r.1 = 1 → 0 < r.2.1 ∧ r.2.1 ≤ 9) : ¬ srI r = 0 := by
  unfold srI
  by_cases a : r.1 = 0
  · rw [if_pos a]; decide
  · rw [if_neg a]
    by_cases b : r.1 = 1
    · rw [if_pos b]
      have := h b
      exact nI_ne0 (by omega) (by omega)
    · rw [if_neg b]; decide
theorem srI_pos {r : Nat × Nat × PBs} (h : r.1 = 1 → 0 < r.2.1 ∧ r.2.1 ≤ 9) : (srI r ≤ 0 ↔ r.1 ≠ 1) := by
  unfold srI
  by_cases a : r.1 = 0
  · rw [if_pos a]
    exact ⟨fun _ => by omega, fun _ => by decide⟩
  · rw [if_neg a]
    by_cases b : r.1 = 1
    · rw [if_pos b]
      have := h b
      exact ⟨fun z => absurd z (nI_nle (by omega) (by omega)), fun z => absurd b z⟩
    · rw [if_neg b]
      exact ⟨fun _ => b, fun _ => by decide⟩
section SO
variable {w0 : HS} {s x r kn mn z : Nat} {B : Nat → Book} {MM : Nat → Mch}
/-- the set is chosen below k -/
def CHo (w : HS) (s z k : Nat) (B : Nat → Book) : Prop := hi w s 8 = nI (kK z k) ∧ ∀ j, j < kK z k → ha w s 7 j = nI (ksF z j) ∧ MVc w s (ksF z j) (B (ksF z j)) ∧ ∃ c, ha w s 10 j = nI c ∧ c < 8 ^ 8 ∧ ∀ t, t < 8 → dg c t = stl (B (ksF z j)) 1 0 (t % 4)
def PSo (s : Nat) : Nat → Nat → Prop := fun b j => b = s ∧ 5 ≤ j
theorem solve106 (z256 : z < 256) (z0 : 0 < z) (s4 : hc w0 s = 4) (T : STk w0 s 78) (H : CHo w0 s z 8 B) (wb : ∀ j, WB (bkZ B z j)) : ∃ w', FX4_solve_106 w0 s (nI z) = some ((), w') ∧ Fr (fun b j => b = s ∧ (j = 0 ∨ j = 1 ∨ 5 ≤ j)) w0 w' ∧ (∀ y, y ≠ z → ha w' s 0 y = ha w0 s 0 y ∧ hj w' s 1 y = hj w0 s 1 y) ∧ ANS w' s B z ∧ ha w' s 5 = ha w0 s 5 ∧ hi w' s 6 = hi w0 s 6 := by
  obtain ⟨K0, K8⟩ := kK_pos z z256 z0
  obtain ⟨w1, hw1⟩ : ∃ w1, w1 = filR w0 s 4 14 0 := ⟨_, rfl⟩
  have f1 : Fr (fun b j => b = s ∧ j = 14) w0 w1 := by rw [hw1]; exact Fr.sR ⟨rfl, rfl⟩
  have z14 : ∀ p, p < 4096 → ha w1 s 14 p = 0 := by
    intro p hp
    rw [hw1]
    unfold filR
    rw [ha_setR]
    exact if_pos (show p < fln 4 14 from hp)
  obtain ⟨w2, hw2⟩ : ∃ w2, w2 = setA w1 s 11 0 0 := ⟨_, rfl⟩
  have f2 : Fr (fun b j => b = s ∧ j = 11) w1 w2 := by rw [hw2]; exact Fr.sA ⟨rfl, rfl⟩
  have F2 : Fr (fun b j => b = s ∧ (j = 11 ∨ j = 14)) w0 w2 := (f1.mono (fun b j y => by omega)).trans (f2.mono (fun b j y => by omega))
  have s42 : hc w2 s = 4 := by rw [F2.c]; exact s4
  have h82 : hi w2 s 8 = nI (kK z 8) := by rw [F2.i (by omega)]; exact H.1
  have z142 : ∀ p, p < 4096 → ha w2 s 14 p = 0 := fun p hp => by rw [f2.ar (by omega)]; exact z14 p hp
  have H0 : HTs w2 s (kK z 8) 0 := ⟨fun p hp => Or.inl (z142 p hp), fun p _ p' _ i hi' => absurd hi' (Nat.not_lt_zero _), fun i hi' => absurd hi' (Nat.not_lt_zero _)⟩
  obtain ⟨p, p4, ep, alt⟩ := slot_c (r := 0) (sm := fun _ => false) s42 h82 K8 (by decide) H0 (by decide) (fun i hi' => absurd hi' (Nat.not_lt_zero _)) (fun i hi' => absurd hi' (Nat.not_lt_zero _))
  obtain ⟨zp, _, d, d4, hp, path⟩ := alt.resolve_left (fun y => by obtain ⟨i, i1, _⟩ := y; omega)
  obtain ⟨w3, hw3⟩ : ∃ w3, w3 = setA w2 s 14 p (nI 1) := ⟨_, rfl⟩
  obtain ⟨w4, hw4⟩ : ∃ w4, w4 = setI w3 s 9 (nI 1) := ⟨_, rfl⟩
  obtain ⟨w5, hw5⟩ : ∃ w5, w5 = setA w4 s 15 0 (nI 0) := ⟨_, rfl⟩
  have f3 : Fr (fun b j => b = s ∧ j = 14) w2 w3 := by rw [hw3]; exact Fr.sA ⟨rfl, rfl⟩
  have f4 : Fr (fun b j => b = s ∧ j = 9) w3 w4 := by rw [hw4]; exact Fr.sI ⟨rfl, rfl⟩
  have f5 : Fr (fun b j => b = s ∧ j = 15) w4 w5 := by rw [hw5]; exact Fr.sA ⟨rfl, rfl⟩
  have f25 : Fr (fun b j => b = s ∧ (j = 9 ∨ j = 14 ∨ j = 15)) w2 w5 := ((f3.mono (fun b j y => by omega)).trans (f4.mono (fun b j y => by omega))).trans (f5.mono (fun b j y => by omega))
  have F5 : Fr (fun b j => b = s ∧ (j = 9 ∨ j = 11 ∨ j = 14 ∨ j = 15)) w0 w5 := (F2.mono (fun b j y => by omega)).trans (f25.mono (fun b j y => by omega))
  have e14 : ∀ q, ha w5 s 14 q = if q = p then nI (0 + 1) else ha w2 s 14 q := by
    intro q
    rw [f5.ar (by omega), f4.ar (by omega), hw3, ha_setA, if_pos ⟨rfl, rfl⟩]
    rfl
  have H5 : HTs w5 s (kK z 8) 1 := H0.ins (by decide) p4 zp d4 hp path e14 (fun i _ => hvS_fr (by rw [f25.ar (by omega)]) (fun j _ => by rw [f25.ar (by omega)]))
  have R5 : CRp w5 s (kK z 8) (ksF z) (bkZ B z) (P0 (bkZ B z)) := by
    refine ⟨by rw [F5.c]; exact s4, T.fr F5 (by omega) (by omega) (by omega), by rw [F5.i (by omega)]; exact H.1, K8, K0, fun j hj' => ?_, ?_, by show 1 ≤ 1200; decide, by show 0 < 1; decide, fun i hi' => ?_, fun i i0 hi' => ?_, H5⟩
    · obtain ⟨x1, x2, _⟩ := H.2 j hj'
      exact ⟨by rw [F5.ar (by omega)]; exact x1, (ks_bit z256 z0 j).1, x2.o (fun i _ _ => by rw [F5.ar (by omega)])⟩
    · rw [f5.i (by omega), hw4, hi_setI, if_pos ⟨rfl, rfl⟩]; rfl
    · have i0 : i = 0 := by have : i < 1 := hi'; omega
      subst i0
      refine ⟨?_, by show 0 < 3; decide, fun j hj' => ?_⟩
      · rw [f25.ar (by omega), hw2, ha_setA, if_pos ⟨rfl, rfl⟩, upd_s]; rfl
      · obtain ⟨_, _, c, c1, c2, c3⟩ := H.2 j hj'
        refine ⟨c, by rw [F5.ar (by omega), Nat.mul_zero, Nat.zero_add]; exact c1, c2, fun t ht => ?_⟩
        have e1 : (pS (P0 (bkZ B z)) 0).2 (8 * j + t) = stl (B (ksF z j)) 1 0 (t % 4) := by
          show stl (bkZ B z ((8 * j + t) / 8)) 1 0 ((8 * j + t) % 4) = _
          rw [show (8 * j + t) / 8 = j from by omega, show (8 * j + t) % 4 = t % 4 from by omega]
          rfl
        have s4' := stl4 (a := 1) (wb j) (show t % 4 < 4 from Nat.mod_lt _ (by decide))
        refine ⟨by rw [e1]; exact c3 t ht, by rw [e1]; exact Nat.le_of_lt s4'⟩
    · have : i < 1 := hi'
      omega
  obtain ⟨w6, e6, F6, fd6⟩ := explore9 (w0 := w5) (ks := ksF z) (bk := bkZ B z) 9 1 FUEL w5 (fun _ => 0) (P0 (bkZ B z)) rfl (by decide) (fuel_lt (by decide)) Fr.refl ⟨fun c hc' => ⟨by
    have c0 : c = 0 := by omega
    rw [c0, hw5, ha_setA, if_pos ⟨rfl, rfl⟩, upd_s], Nat.zero_le _⟩, fun c hc' => by omega⟩ R5
  have es : opsL (kK z 8) (bkZ B z) 1 9 (fun _ => 0) (P0 (bkZ B z)) = srB B z := by unfold srB srch; exact Eq.refl _
  rw [es] at e6 fd6
  have e6' : FX4_explore w4 s = some (srI (srB B z), w6) := by
    unfold FX4_explore
    refine E_c (by rw [f4.c, f3.c]; exact s42) (E_d ?_)
    have : setA w4 s 15 0 (0 : Int32) = w5 := by rw [hw5]; rfl
    rw [this]
    exact e6
  have fd : (srB B z).1 = 1 → CRf w6 s (srB B z).2.2 ∧ 0 < (srB B z).2.1 ∧ (srB B z).2.1 ≤ 9 := fd6
  have F06 : Fr (fun b j => b = s ∧ 9 ≤ j) w0 w6 := (F5.mono (fun b j y => by omega)).trans (F6.mono (fun b j y => by unfold PEx at y; omega))
  obtain ⟨w7, hw7⟩ : ∃ w7, w7 = setA w6 s 0 z (srI (srB B z)) := ⟨_, rfl⟩
  have f7 : Fr (fun b j => b = s ∧ j = 0) w6 w7 := by rw [hw7]; exact Fr.sA ⟨rfl, rfl⟩
  have a0 : ∀ y, ha w7 s 0 y = if y = z then srI (srB B z) else ha w0 s 0 y := by
    intro y
    rw [hw7, ha_setA, if_pos ⟨rfl, rfl⟩, F06.ar (by omega)]
    rfl
  have sp := srI_pos (r := srB B z) (fun o => (fd o).2)
  have pre : ∀ y, (if (ha w7 s 0 (nI z).toNatClampNeg) ≤ 0 then (some ((), w7)) else ((FX4_walkTo w7 s (hi w7 s 9)).bind fun q33 => (okb (inb (nI z) 256) (bnd (setJ q33.2 s 1 ((nI z).toNatClampNeg) q33.1) fun w40 => (some ((), w40)))))) = y → FX4_solve_106 w0 s (nI z) = y := by
    intro y hy
    unfold FX4_solve_106
    refine E_d ?_
    rw [← hw1]
    refine E_d ?_
    rw [← hw2]
    refine E_b ep (E_i rfl p4 (by decide) (E_d ?_))
    dsimp only
    rw [nI_clamp (n := p) (by omega), show setA w2 s 14 p (1 : Int32) = w3 from by rw [hw3]; rfl]
    refine E_d ?_
    rw [show setI w3 s 9 (1 : Int32) = w4 from by rw [hw4]; rfl]
    refine E_b e6' (E_i rfl z256 (by decide) (E_d ?_))
    dsimp only
    rw [nI_clamp (n := z) (by omega), ← hw7]
    refine E_i rfl z256 (by decide) ?_
    rw [nI_clamp (n := z) (by omega)] at hy
    exact hy
  by_cases o : (srB B z).1 = 1
  · obtain ⟨cf, c0, c9⟩ := fd o
    have cf7 : CRf w7 s (srB B z).2.2 := by
      obtain ⟨q1, q2, q3, q4, q5, q6, q7⟩ := cf
      exact ⟨by rw [f7.c]; exact q1, q2.fr f7 (by omega) (by omega) (by omega), by rw [f7.i (by omega)]; exact q3, q4, q5, by rw [f7.ar (by omega), f7.ar (by omega)]; exact q6, by rw [f7.ar (by omega)]; exact q7⟩
    obtain ⟨X, eX, X1, X2⟩ := walkTo_c cf7 (srB_fd o) c9
    obtain ⟨w8, hw8⟩ : ∃ w8, w8 = setJ w7 s 1 z (jN X) := ⟨_, rfl⟩
    have f8 : Fr (fun b j => b = s ∧ j = 1) w7 w8 := by rw [hw8]; exact Fr.sJ ⟨rfl, rfl⟩
    have j1 : ∀ y, hj w8 s 1 y = if y = z then jN X else hj w0 s 1 y := by
      intro y
      rw [hw8, hj_upd, f7.j (by omega), F06.j (by omega)]
    refine ⟨w8, pre _ (E_f ?_ ?_), ((F06.mono (fun b j y => by omega)).trans (f7.mono (fun b j y => by omega))).trans (f8.mono (fun b j y => by omega)), fun y hy => ⟨by rw [f8.ar (by omega), a0, if_neg hy], by rw [j1, if_neg hy]⟩, ⟨by rw [f8.ar (by omega), a0, if_pos rfl], fun _ => ⟨c0, c9, X, by rw [j1, if_pos rfl], X1, X2⟩⟩, by rw [f8.ar (by omega), f7.ar (by omega), F06.ar (by omega)], by rw [f8.i (by omega), f7.i (by omega), F06.i (by omega)]⟩
    · rw [nI_clamp (by omega), a0, if_pos rfl]
      exact fun y => absurd o (sp.mp y)
    · rw [cf7.2.2.1]
      refine E_b eX (E_i rfl z256 (by decide) (E_d ?_))
      dsimp only
      rw [nI_clamp (by omega), ← hw8]
  · refine ⟨w7, pre _ (E_t ?_ rfl), (F06.mono (fun b j y => by omega)).trans (f7.mono (fun b j y => by omega)), fun y hy => ⟨by rw [a0, if_neg hy], by rw [f7.j (by omega), F06.j (by omega)]⟩, ⟨by rw [a0, if_pos rfl], fun q => absurd q o⟩, by rw [f7.ar (by omega), F06.ar (by omega)], by rw [f7.i (by omega), F06.i (by omega)]⟩
    rw [nI_clamp (by omega), a0, if_pos rfl]
    exact sp.mpr o
theorem solve30 {w00 : HS} (z256 : z < 256) (z0 : 0 < z) (zk : z < 2 ^ kn) (kn8 : kn ≤ 8) (x8 : hc w00 x = 8) (s4 : hc w00 s = 4) (ck : ∀ k, k < kn → ∃ p, hq w00 x 1 k = some p ∧ CK w00 p (B k) ∧ WB (B k)) : ∀ d k n w, k + d = 8 → d < n → Fr (PSo s) w00 w → STk w s 78 → LKd w s kn B → CHo w s z k B → ∃ w', FX4_solve_30 n w s (nI z) x (nI k) = FX4_solve_106 w' s (nI z) ∧ Fr (PSo s) w00 w' ∧ STk w' s 78 ∧ LKd w' s kn B ∧ CHo w' s z 8 B := by
  have xs : x ≠ s := by intro e; rw [e, s4] at x8; cases x8
  intro d
  induction d with
  | zero =>
    intro k n w he hn F T L H
    obtain ⟨n, rfl⟩ : ∃ y, n = y + 1 := ⟨n - 1, by omega⟩
    have k8 : k = 8 := by omega
    subst k8
    refine ⟨w, ?_, F, T, L, H⟩
    rw [FX4_solve_30]
    exact E_t (by decide) rfl
  | succ d ih =>
    intro k n w he hn F T L H
    obtain ⟨n, rfl⟩ : ∃ y, n = y + 1 := ⟨n - 1, by omega⟩
    obtain ⟨b1, _⟩ := bt256 z z256 k (by omega)
    have bl := bt_lt z k
    have kl := kK_le z k
    have ks := kK_s z k
    by_cases hb : bt z k = 1
    · rw [if_pos hb] at ks
      have hk : k < kn := bt_kn kn (by omega) z zk k (by omega) hb
      obtain ⟨p, p1, p2, p3⟩ := ck k hk
      have kat := ks_at z z256 k (by omega) hb
      have ps : p ≠ s := p2.cl s4 (by decide)
      have qp : ∀ {wv : HS}, Fr (PSo s) w00 wv → hq wv x 1 k = some p := fun fv => by rw [fv.qq (by unfold PSo; omega)]; exact p1
      have cp : ∀ {wv : HS}, Fr (PSo s) w00 wv → CK wv p (B k) := fun fv => p2.fr fv (fun j y => ps y.1)
      obtain ⟨w1, e1, F1, L1, M1, N1⟩ := learn_c (k := k) (by rw [F.c]; exact s4) T L kn8 hk (cp F) p3
      have F01 : Fr (PSo s) w00 w1 := F.trans (F1.mono (fun b j y => by unfold PSo; omega))
      have T1 := T.fr F1 (by omega) (by omega) (by omega)
      have i81 : hi w1 s 8 = nI (kK z k) := by rw [F1.i (by omega)]; exact H.1
      obtain ⟨w2, hw2⟩ : ∃ w2, w2 = setA w1 s 7 (kK z k) (nI k) := ⟨_, rfl⟩
      have f2 : Fr (fun b j => b = s ∧ j = 7) w1 w2 := by rw [hw2]; exact Fr.sA ⟨rfl, rfl⟩
      have F02 : Fr (PSo s) w00 w2 := F01.trans (f2.mono (fun b j y => by unfold PSo; omega))
      have i82 : hi w2 s 8 = nI (kK z k) := by rw [f2.i (by omega)]; exact i81
      obtain ⟨c, ec, c8, cd⟩ := first_c (cp F02) p3
      obtain ⟨w3, hw3⟩ : ∃ w3, w3 = setA w2 s 10 (kK z k) (nI c) := ⟨_, rfl⟩
      obtain ⟨w4, hw4⟩ : ∃ w4, w4 = setI w3 s 8 (nI (kK z k + 1)) := ⟨_, rfl⟩
      have f3 : Fr (fun b j => b = s ∧ j = 10) w2 w3 := by rw [hw3]; exact Fr.sA ⟨rfl, rfl⟩
      have f4 : Fr (fun b j => b = s ∧ j = 8) w3 w4 := by rw [hw4]; exact Fr.sI ⟨rfl, rfl⟩
      have f14 : Fr (fun b j => b = s ∧ (j = 7 ∨ j = 8 ∨ j = 10)) w1 w4 := ((f2.mono (fun b j y => by omega)).trans (f3.mono (fun b j y => by omega))).trans (f4.mono (fun b j y => by omega))
      have i83 : hi w3 s 8 = nI (kK z k) := by rw [f3.i (by omega)]; exact i82
      have e7 : ∀ j, ha w4 s 7 j = if j = kK z k then nI k else ha w s 7 j := by
        intro j
        rw [f4.ar (by omega), f3.ar (by omega), hw2, ha_setA, if_pos ⟨rfl, rfl⟩, F1.ar (by omega)]
        rfl
      have e10 : ∀ j, ha w4 s 10 j = if j = kK z k then nI c else ha w s 10 j := by
        intro j
        rw [f4.ar (by omega), hw3, ha_setA, if_pos ⟨rfl, rfl⟩, f2.ar (by omega), F1.ar (by omega)]
        rfl
      have m5 : ha w4 s 5 = ha w1 s 5 := f14.ar (by omega)
      have L4 : LKd w4 s kn B := by
        obtain ⟨y, y1, y2, y3⟩ := L1
        exact ⟨y, y1, by rw [f14.i (by omega)]; exact y2, fun j j8 hj' => ⟨(y3 j j8 hj').1, (y3 j j8 hj').2.o (fun i _ _ => by rw [m5])⟩⟩
      -- those chosen ahead stay learned
      have bits : ∀ j, j < kK z k → MVc w1 s (ksF z j) (B (ksF z j)) := by
        intro j hj'
        obtain ⟨_, x2, _⟩ := H.2 j hj'
        by_cases e : ksF z j = k
        · rw [e]; exact M1
        · exact N1 _ _ e x2
      obtain ⟨w', e', r'⟩ := ih (k + 1) n w4 (by omega) (by omega) (F02.trans ((f3.mono (fun b j y => by unfold PSo; omega)).trans (f4.mono (fun b j y => by unfold PSo; omega)))) (T1.fr f14 (by omega) (by omega) (by omega)) L4 ⟨by rw [hw4, hi_setI, if_pos ⟨rfl, rfl⟩, ks], fun j hj' => by
        rw [ks] at hj'
        rw [e7, e10]
        by_cases ej : j = kK z k
        · rw [if_pos ej, if_pos ej, ej, kat]
          exact ⟨rfl, M1.o (fun i _ _ => by rw [m5]), c, rfl, c8, cd⟩
        · rw [if_neg ej, if_neg ej]
          obtain ⟨x1, x2, x3⟩ := H.2 j (by omega)
          exact ⟨x1, (bits j (by omega)).o (fun i _ _ => by rw [m5]), x3⟩⟩
      refine ⟨w', ?_, r'⟩
      rw [FX4_solve_30, b1, nI_clamp (n := k) (by omega), qp F]
      refine E_f (nI_ge (b := 8) (by omega) (by decide)) (E_c (by rw [F.c]; exact x8) (E_f (nI_ge (b := 8) (by omega) (by decide)) (E_t (by rw [hb]; rfl) (E_i rfl (by omega) (by decide) ?_))))
      show okb (inb (nI k) 8) ((some p).bind _) = _
      refine E_i rfl (by omega) (by decide) (E_b rfl (E_b e1 ?_))
      dsimp only
      rw [i81, nI_clamp (n := kK z k) (by omega)]
      refine E_i rfl (by omega) (by decide) (E_d ?_)
      rw [← hw2, qp F02]
      refine E_i rfl (by omega) (by decide) (E_b rfl (E_b ec ?_))
      dsimp only
      rw [i82, nI_clamp (n := kK z k) (by omega)]
      refine E_i rfl (by omega) (by decide) (E_d ?_)
      rw [← hw3]
      refine E_d ?_
      rw [i83, nI_1, ← hw4]
      unfold FX4_solve_100
      rw [nI_1]
      exact e'
    · rw [if_neg hb, Nat.add_zero] at ks
      obtain ⟨w', e', r'⟩ := ih (k + 1) n w (by omega) (by omega) F T L (by unfold CHo; rw [ks]; exact H)
      refine ⟨w', ?_, r'⟩
      rw [FX4_solve_30, b1]
      refine E_f (nI_ge (b := 8) (by omega) (by decide)) (E_c (by rw [F.c]; exact x8) (E_f (nI_ge (b := 8) (by omega) (by decide)) (E_f (by rw [show bt z k = 0 from by omega]; decide) ?_)))
      unfold FX4_solve_100
      rw [nI_1]
      exact e'
end SO
