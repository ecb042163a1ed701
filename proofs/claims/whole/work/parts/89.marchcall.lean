/-! The call that reads a march. -/
theorem bmw_e {α : Type} {c s : Nat} {y : Option (α × HS × Nat × Nat)} {z : α × HS × Nat × Nat} (h : y = some z) : bmw c s y = some (z.1, z.2.1, z.2.2.1 + c, z.2.2.2 + s) := by
  rw [h]
  rfl
section MX
variable {X : (Nat → Nat) × (Nat → Nat) × (Nat → Nat → Nat)} {a b : Nat}
theorem mx_sE (e : Nat) : ∀ k o, sE (a, X) e k o = sE (b, X) e k o := by
  intro k
  induction k with
  | zero => intro o; rfl
  | succ k ih =>
    intro o
    show (if mO (a, X) e k < 2 then sE (a, X) e k o else some (mO (a, X) e k - 2)) = (if mO (b, X) e k < 2 then sE (b, X) e k o else some (mO (b, X) e k - 2))
    rw [ih]
    rfl
theorem mx_rE (e : Nat) : ∀ k, rE (a, X) e k = rE (b, X) e k := by
  intro k
  induction k with
  | zero => rfl
  | succ k ih =>
    show rE (a, X) e k + (if mO (a, X) e k < 2 then 1 else 0) = rE (b, X) e k + (if mO (b, X) e k < 2 then 1 else 0)
    rw [ih]
    rfl
theorem mx_all : ∀ e, sM (a, X) e = sM (b, X) e ∧ aM (a, X) e = aM (b, X) e ∧ tO (a, X) e = tO (b, X) e ∧ tR (a, X) e = tR (b, X) e := by
  intro e
  induction e with
  | zero => exact ⟨rfl, rfl, rfl, rfl⟩
  | succ e ih =>
    obtain ⟨i1, i2, i3, i4⟩ := ih
    refine ⟨?_, ?_, ?_, ?_⟩
    · show sE (a, X) e (mC (a, X) e) (sM (a, X) e) = sE (b, X) e (mC (b, X) e) (sM (b, X) e)
      rw [i1, mx_sE (a := a) (b := b)]
      rfl
    · show aM (a, X) e + (if mW (a, X) e = 2 then 1 else 0) = aM (b, X) e + (if mW (b, X) e = 2 then 1 else 0)
      rw [i2]
      rfl
    · show tO (a, X) e + mC (a, X) e = tO (b, X) e + mC (b, X) e
      rw [i3]
      rfl
    · show tR (a, X) e + rE (a, X) e (mC (a, X) e) = tR (b, X) e + rE (b, X) e (mC (b, X) e)
      rw [i4, mx_rE (a := a) (b := b)]
      rfl
end MX
theorem wm_of {M : Mch} {j : Nat} (V : WMi M j) (h0 : 0 < j) : WM (j, M.2) := by
  obtain ⟨n0, X⟩ := M
  obtain ⟨v1, v2, v3⟩ := V
  refine ⟨h0, v1, ?_, fun e he => ?_⟩
  · show aM (j, X) j ≤ 3
    rw [(mx_all (a := j) (b := n0) (X := X) j).2.1]
    exact v2
  · obtain ⟨a1, a2, a3, a4⟩ := v3 e he
    refine ⟨a1, a2, a3, fun k hk => ⟨(a4 k hk).1, fun q => ?_⟩⟩
    show sE (j, X) e k (sM (j, X) e) = _
    rw [(mx_all (a := j) (b := n0) (X := X) e).1, mx_sE (a := j) (b := n0)]
    exact (a4 k hk).2 q
section MCA
variable {w w0 u0 u : HS} {x r t o m kn mn N n sz e p : Nat} {B : Nat → Book} {MM : Nat → Mch} {mp β : Nat → Nat} {M : Mch}
theorem MC.cm (C : MC w0 w t o e β n p M) : CM w o (e, M.2) ∧ hi w o 1 = nI (tO (e, M.2) e) ∧ hi w o 2 = nI (tR (e, M.2) e) ∧ hi w o 4 = oI (sM (e, M.2) e) := by
  obtain ⟨n0, X⟩ := M
  obtain ⟨c1, c2, c3, c4, c5, c6, c7, c8, c9, c10⟩ := C
  have A := fun j => mx_all (a := e) (b := n0) (X := X) j
  refine ⟨⟨c2, c3, ?_, fun y hy => ?_⟩, ?_, ?_, ?_⟩
  · show hi w o 3 = nI (aM (e, X) e)
    rw [(A e).2.1]; exact c6
  · obtain ⟨a1, a2, a3, a4⟩ := c9 y hy
    refine ⟨?_, a2, ?_, a4⟩
    · rw [a1]
      unfold wyC
      show nI (if mW (n0, X) y = 2 then 2 + aM (n0, X) y else mW (n0, X) y) = nI (if mW (e, X) y = 2 then 2 + aM (e, X) y else mW (e, X) y)
      rw [(A y).2.1]
      rfl
    · rw [a3]
      show nI (rE (n0, X) y (mC (n0, X) y)) = nI (rE (e, X) y (mC (e, X) y))
      rw [mx_rE (a := e) (b := n0)]
      rfl
  · show hi w o 1 = nI (tO (e, X) e)
    rw [(A e).2.2.1]; exact c4
  · show hi w o 2 = nI (tR (e, X) e)
    rw [(A e).2.2.2]; exact c5
  · show hi w o 4 = oI (sM (e, X) e)
    rw [(A e).1]; exact c7
theorem MRm.rm (h : MRm u m mn e M) : RMa u m mn (e, M.2) ∧ ha u m 10 mn = oI (sM (e, M.2) e) := by
  obtain ⟨n0, X⟩ := M
  obtain ⟨h1, h2, h3⟩ := h
  refine ⟨⟨h1, h3⟩, ?_⟩
  show ha u m 10 mn = oI (sM (e, X) e)
  rw [(mx_all (a := e) (b := n0) (X := X) e).1]
  exact h2
/-- reference: the marches that there were -/
theorem rma_old {k : Nat} (T : RMa u0 m k M) (W : WM M) (E : MRe u0 u m mn) (hk : k < mn) : RMa u m k M := by
  obtain ⟨e1, e2, e3⟩ := E
  have W8 := W.2.1
  refine ⟨by rw [(e3 k (by omega)).1]; exact T.1, fun e he => ?_⟩
  obtain ⟨t1, t2, t3⟩ := T.2 e he
  have C6 := (W.2.2.2 e he).2.2.1
  exact ⟨by rw [e2 _ (by omega)]; exact t1, by rw [e2 _ (by omega)]; exact t2, fun k hk => by rw [e2 _ (by omega)]; exact t3 k hk⟩
def PMq (x t m : Nat) : Nat → Nat → Prop := fun b k => (b = t ∧ 1 ≤ k ∧ k ≤ 3) ∨ (b = x ∧ (k = 3 ∨ k = 4)) ∨ (b = m ∧ ((1 ≤ k ∧ k ≤ 4) ∨ (8 ≤ k ∧ k ≤ 11) ∨ k = 13 ∨ k = 14))
theorem RMa.at {k : Nat} {w' : HS} (T : RMa w m k M) (h8 : ha w' m 8 = ha w m 8) (h9 : ha w' m 9 = ha w m 9) : RMa w' m k M := by
  unfold RMa
  rw [h8, h9]
  exact T
theorem RK.at {k : Nat} {b : Book} {w' : HS} (T : RK w m k b) (h5 : ha w' m 5 = ha w m 5) (h6 : ha w' m 6 = ha w m 6) : RK w' m k b := by
  unfold RK rl
  rw [h5, h6]
  exact T
theorem march_call (C : CX w x r kn mn B MM) (R : RX w m kn mn B MM N mp) (Ct : CXt w x mn MM) (Rt : RXt w m mn MM) (h0 : hp w x 0 = some t) (T : TV w t m n) (wr : ha w m 12 = wrd9) (fs : ∀ b, hc w b < 10 → b < sz) :
    ∃ z w1 mc ms w2 mn' MM', FX8_march sz w x = some (z, w1, mc, ms) ∧ FX9_march w1 m = some (z, w2) ∧ mc ≤ 20 ∧ ms ≤ 300 ∧ Ke (PMq x t m) w w2 ∧ CX w2 x r kn mn' B MM' ∧ RX w2 m kn mn' B MM' N mp ∧ CXt w2 x mn' MM' ∧ RXt w2 m mn' MM' ∧ (∃ n', TV w2 t m n') ∧ mn ≤ mn' ∧ ∀ k, k < mn → MM' k = MM k := by
  obtain ⟨t1, t2, t3, t4, t5, t6⟩ := id T
  have x8 := C.1
  have kn8 := C.2.2.2.2.1
  have mn6 := C.2.2.2.2.2.2.1
  have x4 := C.2.2.2.2.2.1
  have m11 := R.2.2.2.1
  have tm : t ≠ m := by intro e; rw [e, t2] at t1; cases t1
  have xt : x ≠ t := by intro e; rw [e, t1] at x8; cases x8
  have xm : x ≠ m := by intro e; rw [e, t2] at x8; cases x8
  have d6 : 6 < 10 := by decide
  have d8 : 8 < 10 := by decide
  have d9 : 9 < 10 := by decide
  by_cases full : mn = 6
  · refine ⟨-1, w, 0, 0, w, mn, MM, ?_, ?_, by decide, by decide, Ke.refl, C, R, Ct, Rt, ⟨n, T⟩, Nat.le_refl _, fun _ _ => rfl⟩
    · unfold FX8_march
      exact E_c x8 (E_f (by rw [x4, full]; decide) rfl)
    · unfold FX9_march
      exact E_c t2 (E_t (by rw [m11, full]; rfl) rfl)
  · obtain ⟨wa, hwa⟩ : ∃ wa, wa = nwX2 w sz := ⟨_, rfl⟩
    have ka : ∀ {P : Nat → Nat → Prop}, Ke P w wa := fun {P} => by rw [hwa]; exact Ke.nw fs
    have s6 : t < sz := fs t (by omega)
    have s8 : x < sz := fs x (by omega)
    have s9 : m < sz := fs m (by omega)
    have sc : hc wa sz = 2 := by rw [hwa]; exact if_pos rfl
    have si : ∀ k, hi wa sz k = (match k with | 4 => (-1) | _ => 0) := by
      intro k
      rw [hwa]
      show (if sz = sz then (fun k => match k with | 4 => (-1) | _ => 0) else w.2.1 sz) k = _
      rw [if_pos rfl]
    have sa : ∀ k i, ha wa sz k i = 0 := by
      intro k i
      rw [hwa]
      show (if sz = sz then (fun _ _ => (0 : Int32)) else w.2.2.2.2.1 sz) k i = _
      rw [if_pos rfl]
    obtain ⟨β, TB0⟩ := T.tb
    obtain ⟨b1, b2, b3, b4, b5, b6, b7, b8⟩ := TB0
    -- the tape in any later state of the reference
    have tbu : ∀ u, hc u m = 9 → hi u m 1 = hi w m 1 → ha u m 0 = ha w m 0 → TB wa t u m β n := by
      intro u g1 g2 g3
      refine ⟨ka.c t1 d6 (P := fun _ _ => False), by rw [ka.i (P := fun _ _ => False) t1 d6 (fun z => z)]; exact b2, b3, ?_, g1, by rw [g2]; exact b6, by rw [g3]; exact b7, b8⟩
      rw [ka.ar (P := fun _ _ => False) t1 d6 (fun z => z)]
      exact b4
    have rd := fun u (g1 : hc u m = 9) (g2 : hi u m 1 = hi w m 1) (g3 : ha u m 0 = ha w m 0) (g4 : hi u m 11 = hi w m 11) (g5 : ha u m 12 = ha w m 12) => march_read (o := sz) (mn := mn) (tbu u g1 g2 g3) sc (fun k hk => by rw [si]; match k, hk with | 0, _ => rfl | 1, _ => rfl | 2, _ => rfl | 3, _ => rfl) (si 4) (fun k _ => ⟨sa 6 k, sa 7 k⟩) (by rw [g4]; exact m11) (by omega) (by rw [g5]; exact wr)
    -- the class reads
    obtain ⟨wb, eb, Fb, tb6⟩ : ∃ wb, FX2_scan wa sz t = some ((), wb) ∧ Fr (Pm t sz) wa wb ∧ hc wb t = 6 := by
      rcases rd w t2 rfl rfl rfl rfl with ⟨j, M', p', _, _, ⟨_, wb, eb, C'⟩, _⟩ | ⟨f, _, ⟨_, wb, eb, C'⟩, _⟩
      · exact ⟨wb, eb, C'.2.2.2.2.2.2.2.1, C'.1.1⟩
      · obtain ⟨p', T'⟩ := C'.2.2.2
        exact ⟨wb, eb, C'.1, T'.1⟩
    have kb : Ke (PMq x t m) w wb := ka.st Fb (fun b k hb z => by have := fs b hb; unfold Pm at z; unfold PMq; omega)
    obtain ⟨wc, hwc⟩ : ∃ wc, wc = setI wb t 1 0 := ⟨_, rfl⟩
    have fc : Fr (fun b k => b = t ∧ k = 1) wb wc := by rw [hwc]; exact Fr.sI ⟨rfl, rfl⟩
    have kc : Ke (PMq x t m) w wc := kb.st fc (fun b k hb z => by unfold PMq; omega)
    have c0 : hp wb x 0 = some t := by rw [kb.o x8 d8 (by unfold PMq; omega)]; exact h0
    have c0' : hp wc x 0 = some t := by rw [kc.o x8 d8 (by unfold PMq; omega)]; exact h0
    have c3 : hi wc t 3 = hi wb t 3 := by rw [fc.i (by omega)]
    -- the class's call, up to the fault
    have cls : ∀ z, (if (hi wc t 3) = 0 then (okb (inb (hi wc x 4) 6) (bnd (setQ wc x 3 ((hi wc x 4).toNatClampNeg) (some sz)) fun w40 => (bnd (setI w40 x 4 ((hi w40 x 4) + (1 : Int32))) fun w42 => (some (((hi w42 x 4) - (1 : Int32)), w42, 0, 0))))) else (some (((-2 : Int32) - (hi wc t 3)), wc, 0, 0))) = some z → FX8_march sz w x = some (z.1, z.2.1, z.2.2.1 + 4 + 1, z.2.2.2 + 72 + 9) := by
      intro z hz
      unfold FX8_march
      refine E_c x8 (E_t (by rw [x4]; exact nI_lt (b := 6) (by omega) (by decide)) ?_)
      refine bmw_e (z := (z.1, z.2.1, z.2.2.1 + 4, z.2.2.2 + 72)) (bmw_e (z := z) ?_)
      refine E_d ?_
      rw [← hwa, ka.o (P := fun _ _ => False) x8 d8 (fun z => z), h0]
      refine E_b rfl (E_b eb ?_)
      dsimp only
      rw [c0]
      refine E_b rfl (E_c tb6 (E_d ?_))
      rw [← hwc, c0']
      refine E_b rfl (E_c (by rw [fc.c]; exact tb6) ?_)
      by_cases q : hi wc t 3 = 0
      · rw [if_pos q] at hz
        exact E_t q hz
      · rw [if_neg q] at hz
        exact E_f q (E_b rfl (E_c (by rw [fc.c]; exact tb6) hz))
    have f81 : ∀ {u : HS}, Ke (PMq x t m) w u → hi u m 1 = hi w m 1 → ha u m 0 = ha w m 0 → hi u m 11 = hi w m 11 → ha u m 12 = ha w m 12 → hc u m = 9 := fun k _ _ _ _ => k.c t2 d9
    -- what the reference keeps while the class works
    have same : ∀ {u P' : _}, Fr P' wa u → (∀ k, ¬ P' m k) → hi u m 1 = hi w m 1 ∧ ha u m 0 = ha w m 0 ∧ hi u m 11 = hi w m 11 ∧ ha u m 12 = ha w m 12 ∧ hc u m = 9 ∧ ha u m 8 = ha w m 8 ∧ ha u m 9 = ha w m 9 ∧ ha u m 10 = ha w m 10 ∧ ha u m 5 = ha w m 5 ∧ ha u m 6 = ha w m 6 ∧ hi u m 7 = hi w m 7 := by
      intro u P' F nP
      have K : Ke (fun b k => P' b k) w u := ka.st F (fun b k _ z => z)
      exact ⟨K.i t2 d9 (nP _), K.ar t2 d9 (nP _), K.i t2 d9 (nP _), K.ar t2 d9 (nP _), K.c t2 d9, K.ar t2 d9 (nP _), K.ar t2 d9 (nP _), K.ar t2 d9 (nP _), K.ar t2 d9 (nP _), K.ar t2 d9 (nP _), K.i t2 d9 (nP _)⟩
    by_cases q : hi wb t 3 = 0
    · -- read
      obtain ⟨w1, hw1⟩ : ∃ w1, w1 = setI (setQ wc x 3 mn (some sz)) x 4 (nI (mn + 1)) := ⟨_, rfl⟩
      have f1 : Fr (fun b k => b = x ∧ (k = 3 ∨ k = 4)) wc w1 := by rw [hw1]; exact (Fr.sQ ⟨rfl, Or.inl rfl⟩).trans (Fr.sI ⟨rfl, Or.inr rfl⟩)
      have k1 : Ke (PMq x t m) w w1 := kc.st f1 (fun b k hb z => by unfold PMq; omega)
      have F1 : Fr (fun b _ => b ≠ m) wa w1 := ((Fb.mono (fun b k z => by unfold Pm at z; omega)).trans (fc.mono (fun b k z => by omega))).trans (f1.mono (fun b k z => by omega))
      obtain ⟨a1, a2, a3, a4, a5, a6, a7, a8, a9, a10, a11⟩ := same F1 (fun k z => z rfl)
      have e8 := cls (nI mn, w1, 0, 0) (by
        refine E_t (by rw [c3]; exact q) ?_
        have c4 : hi wc x 4 = nI mn := by rw [fc.i (by omega), Fb.i (by unfold Pm; omega), ka.i (P := fun _ _ => False) x8 d8 (fun z => z)]; exact x4
        rw [c4]
        refine E_i rfl (by omega) (by decide) (E_d (E_d ?_))
        rw [nI_clamp (by omega), hi_setQ, c4, nI_1, ← hw1, show hi w1 x 4 = nI (mn + 1) from by rw [hw1, hi_setI, if_pos ⟨rfl, rfl⟩], l1_, nI_subc (by omega)]
        rfl)
      rcases rd w1 a5 a1 a2 a3 a4 with ⟨j, M', p', j0, V, ⟨_, wb', eb', C'⟩, u', eu, Er, Em⟩ | ⟨f, fn, ⟨_, wb', eb', C'⟩, u', eu, Er, Em⟩
      · rw [eb] at eb'
        cases eb'
        obtain ⟨w2, hw2⟩ : ∃ w2, w2 = setI (setI u' m 1 0) m 11 (nI (mn + 1)) := ⟨_, rfl⟩
        have f2 : Fr (fun b k => b = m ∧ (k = 1 ∨ k = 11)) u' w2 := by rw [hw2]; exact (Fr.sI ⟨rfl, Or.inl rfl⟩).trans (Fr.sI ⟨rfl, Or.inr rfl⟩)
        have k2 : Ke (PMq x t m) w w2 := (k1.st Er.1 (fun b k hb z => by unfold Pm9 at z; unfold PMq; omega)).st f2 (fun b k hb z => by unfold PMq; omega)
        have F2 : Fr (fun b _ => b = m) w1 w2 := (Er.1.mono (fun b k z => z.1)).trans (f2.mono (fun b k z => z.1))
        obtain ⟨cm, ct1, ct2, ct4⟩ := C'.cm
        obtain ⟨rm, rt⟩ := Em.rm
        have W' := wm_of V j0
        have Fz : Fr (fun b k => b ≠ sz) wb w2 := ((fc.mono (fun b k z => by omega)).trans (f1.mono (fun b k z => by omega))).trans (F2.mono (fun b k z => by omega))
        obtain ⟨MM', hM⟩ : ∃ MM' : Nat → Mch, MM' = fun k => if k = mn then (j, M'.2) else MM k := ⟨_, rfl⟩
        have Mn : MM' mn = (j, M'.2) := by rw [hM]; exact if_pos rfl
        have Mo : ∀ k, k < mn → MM' k = MM k := fun k hk => by rw [hM]; exact if_neg (by omega)
        have q3 : hq w2 x 3 = va_up (hq w x 3) mn (some sz) := by
          rw [F2.qq (by omega), hw1]
          show hq (setQ wc x 3 mn (some sz)) x 3 = _
          rw [hq_setQ, if_pos ⟨rfl, rfl⟩, fc.qq (by omega), Fb.qq (by unfold Pm; omega), ka.qq (P := fun _ _ => False) x8 d8 (fun z => z)]
        have q3o : ∀ k, k < mn → hq w2 x 3 k = hq w x 3 k := fun k hk => by rw [q3]; exact if_neg (by omega)
        have q3n : hq w2 x 3 mn = some sz := by rw [q3]; exact if_pos rfl
        have R2 : ∀ k, k < mn → RMa w2 m k (MM k) := fun k hk => (rma_old (((R.2.2.2.2.2.2.1 k hk).1).at a6 a7) (R.2.2.2.2.2.2.1 k hk).2 Er hk).at (f2.ar (by omega)) (f2.ar (by omega))
        refine ⟨nI mn, w1, _, _, w2, mn + 1, MM', e8, ?_, (show 5 ≤ 20 by decide), (show 81 ≤ 300 by decide), k2, ?_, ?_, ?_, ?_, ⟨0, ?_⟩, by omega, Mo⟩
        · unfold FX9_march
          refine E_c a5 (E_f (by rw [a3, m11]; exact fun z => full ((nI_eq (a := mn) (b := 6) (by omega) (by decide)).mp z)) (E_b eu (E_d (E_f i10 (E_d ?_)))))
          have : hi (setI u' m 1 0) m 11 = nI mn := by rw [hi_setI, if_neg (by omega), Er.1.i (by unfold Pm9; omega), a3]; exact m11
          rw [this, nI_1, ← hw2, show hi w2 m 11 = nI (mn + 1) from by rw [hw2, hi_setI, if_pos ⟨rfl, rfl⟩], l1_, nI_subc (by omega)]
          rfl
        · refine C.ke k2 (by unfold PMq; omega) (by unfold PMq; omega) (fun p hp k z => ?_) (by rw [k2.i x8 d8 (by unfold PMq; omega)]; exact C.2.2.2.1) kn8 (by rw [F2.i (by omega), hw1, hi_setI, if_pos ⟨rfl, rfl⟩]) (by omega) (Nat.le_refl _) (by omega) (fun _ _ => rfl) Mo (fun k _ => by rw [k2.qq x8 d8 (by unfold PMq; omega)]) q3o (fun k h1 h2 => by omega) (fun k h1 h2 => ?_)
          · unfold PMq at z
            rcases z with z | z | z
            · rw [z.1, t1] at hp; omega
            · rw [z.1, x8] at hp; omega
            · rw [z.1, t2] at hp; omega
          · have : k = mn := by omega
            subst this
            rw [Mn]
            exact ⟨sz, q3n, cm.fr Fz (fun k z => z rfl), W'⟩
        · refine R.ke k2 (by rw [k2.i t2 d9 (by unfold PMq; omega)]; exact R.2.1) kn8 (by rw [hw2, hi_setI, if_pos ⟨rfl, rfl⟩]) (by omega) (by unfold PMq; omega) (by unfold PMq; omega) (fun _ _ => rfl) Mo (fun k hk => (R.2.2.2.2.2.1 k hk).1.at (k2.ar t2 d9 (by unfold PMq; omega)) (k2.ar t2 d9 (by unfold PMq; omega))) R2 (fun k h1 h2 => by omega) (fun k h1 h2 => ?_)
          have : k = mn := by omega
          subst this
          rw [Mn]
          exact ⟨rm.at (f2.ar (by omega)) (f2.ar (by omega)), W'⟩
        · intro k hk p hp
          by_cases e : k = mn
          · subst e
            rw [q3n] at hp
            cases hp
            rw [Mn, Fz.i (fun z => z rfl), Fz.i (fun z => z rfl), Fz.i (fun z => z rfl)]
            exact ⟨ct1, ct2, ct4⟩
          · have hk' : k < mn := by omega
            rw [q3o k hk'] at hp
            rw [Mo k hk']
            obtain ⟨p', p1, p2, _⟩ := C.2.2.2.2.2.2.2.2.1 k hk'
            rw [hp] at p1
            cases p1
            have np : ∀ k, ¬ PMq x t m p k := by
              intro k z
              have hp2 := p2.1
              unfold PMq at z
              rcases z with z | z | z
              · rw [z.1, t1] at hp2; omega
              · rw [z.1, x8] at hp2; omega
              · rw [z.1, t2] at hp2; omega
            rw [k2.i p2.1 (by decide) (np 1), k2.i p2.1 (by decide) (np 2), k2.i p2.1 (by decide) (np 4)]
            exact Ct k hk' p hp
        · intro k hk
          rw [f2.ar (by omega)]
          by_cases e : k = mn
          · subst e
            rw [Mn]
            exact rt
          · have hk' : k < mn := by omega
            rw [Mo k hk', (Er.2.2 k e).2, a8]
            exact Rt k hk'
        · refine ⟨k2.c t1 d6, k2.c t2 d9, ?_, ?_, by decide, fun i hi => by omega⟩
          · rw [F2.i (by omega), f1.i (by omega), hwc, hi_setI, if_pos ⟨rfl, rfl⟩]; rfl
          · rw [hw2, hi_setI, if_neg (by omega), hi_setI, if_pos ⟨rfl, rfl⟩]; rfl
      · rw [eb] at eb'
        cases eb'
        obtain ⟨p', T'⟩ := C'.2.2.2
        rw [T'.2.2.2.2.2.2.1] at q
        exact absurd q (nI_ne0 (by omega) (by have := T'.2.2.2.2.2.2.2; omega))
    · -- a fault
      have F1 : Fr (fun b _ => b ≠ m) wa wc := (Fb.mono (fun b k z => by unfold Pm at z; omega)).trans (fc.mono (fun b k z => by omega))
      obtain ⟨a1, a2, a3, a4, a5, a6, a7, a8, a9, a10, a11⟩ := same F1 (fun k z => z rfl)
      have e8 := cls (-2 - hi wb t 3, wc, 0, 0) (by
        refine E_f (by rw [c3]; exact q) ?_
        rw [c3])
      rcases rd wc a5 a1 a2 a3 a4 with ⟨j, M', p', j0, V, ⟨_, wb', eb', C'⟩, u', eu, Er, Em⟩ | ⟨f, fn, ⟨_, wb', eb', C'⟩, u', eu, Er, Em⟩
      · rw [eb] at eb'
        cases eb'
        exact absurd C'.1.2.2.2.2.2.2.1 q
      · rw [eb] at eb'
        cases eb'
        obtain ⟨p', T'⟩ := C'.2.2.2
        obtain ⟨w2, hw2⟩ : ∃ w2, w2 = setI u' m 1 0 := ⟨_, rfl⟩
        have f2 : Fr (fun b k => b = m ∧ k = 1) u' w2 := by rw [hw2]; exact Fr.sI ⟨rfl, rfl⟩
        have k2 : Ke (PMq x t m) w w2 := (kc.st Er.1 (fun b k hb z => by unfold Pm9 at z; unfold PMq; omega)).st f2 (fun b k hb z => by unfold PMq; omega)
        have F2 : Fr (fun b _ => b = m) wc w2 := (Er.1.mono (fun b k z => z.1)).trans (f2.mono (fun b k z => z.1))
        have Fx : Fr (fun b k => b = m ∨ b = sz ∨ b = t) wa w2 := ((Fb.mono (fun b k z => by unfold Pm at z; omega)).trans (fc.mono (fun b k z => by omega))).trans (F2.mono (fun b k z => by omega))
        have kx : Ke (fun b _ => b = m ∨ b = t) w w2 := ka.st Fx (fun b k hb z => by have := fs b hb; omega)
        have R2 : ∀ k, k < mn → RMa w2 m k (MM k) := fun k hk => (rma_old (((R.2.2.2.2.2.2.1 k hk).1).at a6 a7) (R.2.2.2.2.2.2.1 k hk).2 Er hk).at (f2.ar (by omega)) (f2.ar (by omega))
        refine ⟨-2 - hi wb t 3, wc, _, _, w2, mn, MM, e8, ?_, (show 5 ≤ 20 by decide), (show 81 ≤ 300 by decide), k2, ?_, ?_, ?_, ?_, ⟨0, ?_⟩, Nat.le_refl _, fun _ _ => rfl⟩
        · unfold FX9_march
          refine E_c a5 (E_f (by rw [a3, m11]; exact fun z => full ((nI_eq (a := mn) (b := 6) (by omega) (by decide)).mp z)) (E_b eu (E_d (E_t rfl ?_))))
          rw [T'.2.2.2.2.2.2.1, ← hw2, show hi w2 m 3 = nI f from by rw [f2.i (by omega)]; exact Em]
        · refine C.ke kx (by omega) (by omega) (fun p hp k z => ?_) (by rw [kx.i x8 d8 (by omega)]; exact C.2.2.2.1) kn8 (by rw [kx.i x8 d8 (by omega)]; exact x4) mn6 (Nat.le_refl _) (Nat.le_refl _) (fun _ _ => rfl) (fun _ _ => rfl) (fun k _ => by rw [kx.qq x8 d8 (by omega)]) (fun k _ => by rw [kx.qq x8 d8 (by omega)]) (fun k h1 h2 => by omega) (fun k h1 h2 => by omega)
          rcases z with z | z
          · rw [z, t2] at hp; omega
          · rw [z, t1] at hp; omega
        · exact R.ke k2 (by rw [k2.i t2 d9 (by unfold PMq; omega)]; exact R.2.1) kn8 (by rw [f2.i (by omega), Er.1.i (by unfold Pm9; omega), a3]; exact m11) mn6 (by unfold PMq; omega) (by unfold PMq; omega) (fun _ _ => rfl) (fun _ _ => rfl) (fun k hk => (R.2.2.2.2.2.1 k hk).1.at (k2.ar t2 d9 (by unfold PMq; omega)) (k2.ar t2 d9 (by unfold PMq; omega))) R2 (fun k h1 h2 => by omega) (fun k h1 h2 => by omega)
        · intro k hk p hp
          rw [kx.qq x8 d8 (by omega)] at hp
          obtain ⟨p', p1, p2, _⟩ := C.2.2.2.2.2.2.2.2.1 k hk
          rw [hp] at p1
          cases p1
          have np : ∀ k : Nat, ¬ (p = m ∨ p = t) := by
            intro k z
            have hp2 := p2.1
            rcases z with z | z
            · rw [z, t2] at hp2; omega
            · rw [z, t1] at hp2; omega
          rw [kx.i p2.1 (by decide) (np 1), kx.i p2.1 (by decide) (np 2), kx.i p2.1 (by decide) (np 4)]
          exact Ct k hk p hp
        · intro k hk
          rw [f2.ar (by omega), (Er.2.2 k (by omega)).2, a8]
          exact Rt k hk
        · refine ⟨k2.c t1 d6, k2.c t2 d9, ?_, ?_, by decide, fun i hi => by omega⟩
          · rw [F2.i (by omega), hwc, hi_setI, if_pos ⟨rfl, rfl⟩]; rfl
          · rw [hw2, hi_setI, if_pos ⟨rfl, rfl⟩]; rfl
end MCA
