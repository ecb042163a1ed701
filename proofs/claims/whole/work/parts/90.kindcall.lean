/-! The call that reads a kind. -/
theorem CXt.ke {P : Nat → Nat → Prop} {w w' : HS} {x r kn mn : Nat} {B : Nat → Book} {MM : Nat → Mch} (h : CXt w x mn MM) (C : CX w x r kn mn B MM) (f : Ke P w w') (n3 : ¬ P x 3) (nk : ∀ p, hc w p = 2 → ∀ k, ¬ P p k) : CXt w' x mn MM := by
  intro k hk p hp
  rw [f.qq C.1 (by decide) n3] at hp
  obtain ⟨p', p1, p2, _⟩ := C.2.2.2.2.2.2.2.2.1 k hk
  rw [hp] at p1
  cases p1
  have np := nk p p2.1
  rw [f.i p2.1 (by decide) (np 1), f.i p2.1 (by decide) (np 2), f.i p2.1 (by decide) (np 4)]
  exact h k hk p hp
theorem cf_c {b b' : Book} {r : Nat} (h : b.2 r = b'.2 r) : cfm b r = cfm b' r ∧ cfr b r = cfr b' r ∧ cwr b r = cwr b' r ∧ isP b r = isP b' r := by
  unfold cfm cfr cwr isP
  rw [h]
  exact ⟨rfl, rfl, rfl, rfl⟩
section KCA
variable {w w0 u0 u : HS} {x r t o m kn mn N n sz j p : Nat} {B : Nat → Book} {MM : Nat → Mch} {mp β : Nat → Nat} {b b' : Nat → Nat → Nat}
theorem WBi.cg (V : WBi b j) (e : ∀ r, r < j → b' r = b r) (l : ∀ r f, b' r f < 128) : WBi b' j := by
  obtain ⟨v1, v2, v3, v4⟩ := V
  refine ⟨v1, fun r hr => ?_, l, fun q r hr => ?_⟩
  · have := v2 r hr
    unfold WBr at this ⊢
    rw [e r hr]
    exact this
  · rw [e r hr]
    exact v4 q r hr
theorem KC.rw (C : KC w0 w t o j β n p b) (e : ∀ r, r < j → b' r = b r) : RW w o (j, b') ∧ hi w o 1 = nI (if pr (j, b') = true then 1 else 0) := by
  obtain ⟨c1, c2, c3, c4, c5, c6, c7⟩ := C
  refine ⟨⟨c2, c3, fun r hr => ?_⟩, ?_⟩
  · have hr' : r < j := hr
    obtain ⟨a1, a2, a3, a4, a5⟩ := c5 r hr'
    obtain ⟨q1, q2, q3, _⟩ := cf_c (b := (j, b')) (b' := (j, b)) (r := r) (e r hr')
    have e' : (j, b').2 r = b r := e r hr'
    rw [q1, q2, q3, e']
    exact ⟨a1, a2, a3, a4, a5⟩
  · rw [c6, pr_any]
    have : anyN (isP (j, b')) j = anyN (isP (j, b)) j := anyN_congr (fun r hr => (cf_c (b := (j, b')) (b' := (j, b)) (r := r) (e r hr)).2.2.2)
    show _ = nI (if anyN (isP (j, b')) j = true then 1 else 0)
    rw [this]
theorem rk_old {k : Nat} {bk : Book} (T : RK u0 m k bk) (E : KRe u0 u m kn) (hk : k < kn) : RK u m k bk := by
  obtain ⟨e1, e2, e3, e4, e5⟩ := E
  refine ⟨by rw [e5 k (by omega)]; exact T.1, fun r hr f hf => ?_⟩
  have := T.2 r hr f hf
  unfold rl at this ⊢
  rw [e3 _ (by omega)]
  exact this
def PKq (x t m : Nat) : Nat → Nat → Prop := fun b k => (b = t ∧ 1 ≤ k ∧ k ≤ 3) ∨ (b = x ∧ (k = 1 ∨ k = 2)) ∨ (b = m ∧ 1 ≤ k ∧ k ≤ 7)
def N5 (w : HS) (m : Nat) : Prop := ∀ j, j < 180 → ∃ z, z < 128 ∧ ha w m 5 j = nI z
theorem kind_call (C : CX w x r kn mn B MM) (R : RX w m kn mn B MM N mp) (Ct : CXt w x mn MM) (Rt : RXt w m mn MM) (h0 : hp w x 0 = some t) (T : TV w t m n) (n5 : N5 w m) (fs : ∀ b, hc w b < 10 → b < sz) :
    ∃ z w1 mc ms w2 kn' B', FX8_kind sz w x = some (z, w1, mc, ms) ∧ FX9_kind w1 m = some (z, w2) ∧ mc ≤ 20 ∧ ms ≤ 300 ∧ Ke (PKq x t m) w w2 ∧ CX w2 x r kn' mn B' MM ∧ RX w2 m kn' mn B' MM N mp ∧ CXt w2 x mn MM ∧ RXt w2 m mn MM ∧ (∃ n', TV w2 t m n') ∧ N5 w2 m ∧ kn ≤ kn' ∧ (∀ k, k < kn → B' k = B k) ∧ ∀ k, k < kn → hq w2 x 1 k = hq w x 1 k := by
  obtain ⟨t1, t2, t3, t4, t5, t6⟩ := id T
  have x8 := C.1
  have kn8 := C.2.2.2.2.1
  have mn6 := C.2.2.2.2.2.2.1
  have x2 := C.2.2.2.1
  have m7 := R.2.1
  have tm : t ≠ m := by intro e; rw [e, t2] at t1; cases t1
  have xt : x ≠ t := by intro e; rw [e, t1] at x8; cases x8
  have xm : x ≠ m := by intro e; rw [e, t2] at x8; cases x8
  have d6 : 6 < 10 := by decide
  have d8 : 8 < 10 := by decide
  have d9 : 9 < 10 := by decide
  have npq : ∀ {p k : Nat}, (hc w p = 1 ∨ hc w p = 2) → ¬ PKq x t m p k := by
    intro p k hp z
    unfold PKq at z
    rcases z with z | z | z
    · rw [z.1, t1] at hp; omega
    · rw [z.1, x8] at hp; omega
    · rw [z.1, t2] at hp; omega
  have stay : FX8_kind sz w x = some (-1, w, 0, 0) → FX9_kind w m = some (-1, w) → ∃ z w1 mc ms w2 kn' B', FX8_kind sz w x = some (z, w1, mc, ms) ∧ FX9_kind w1 m = some (z, w2) ∧ mc ≤ 20 ∧ ms ≤ 300 ∧ Ke (PKq x t m) w w2 ∧ CX w2 x r kn' mn B' MM ∧ RX w2 m kn' mn B' MM N mp ∧ CXt w2 x mn MM ∧ RXt w2 m mn MM ∧ (∃ n', TV w2 t m n') ∧ N5 w2 m ∧ kn ≤ kn' ∧ (∀ k, k < kn → B' k = B k) ∧ ∀ k, k < kn → hq w2 x 1 k = hq w x 1 k := fun g1 g2 => ⟨-1, w, 0, 0, w, kn, B, g1, g2, by decide, by decide, Ke.refl, C, R, Ct, Rt, ⟨n, T⟩, n5, Nat.le_refl _, fun _ _ => rfl, fun _ _ => rfl⟩
  by_cases full : kn = 8
  · refine stay ?_ ?_
    · unfold FX8_kind
      exact E_c x8 (E_t (by rw [x2, full]; decide) rfl)
    · unfold FX9_kind
      exact E_c t2 (E_t (by rw [m7, full]; rfl) rfl)
  have x2n : ¬ (8 : Int32) ≤ hi w x 2 := by rw [x2]; exact nI_ge (b := 8) (by omega) (by decide)
  have m7n : ¬ hi w m 7 = 8 := by rw [m7]; exact fun z => full ((nI_eq (a := kn) (b := 8) (by omega) (by decide)).mp z)
  by_cases n100 : n ≤ 100
  · obtain ⟨wa, hwa⟩ : ∃ wa, wa = nwX1 w sz := ⟨_, rfl⟩
    have ka : ∀ {P : Nat → Nat → Prop}, Ke P w wa := fun {P} => by rw [hwa]; exact Ke.nw fs
    have s6 : t < sz := fs t (by omega)
    have s8 : x < sz := fs x (by omega)
    have s9 : m < sz := fs m (by omega)
    have sc : hc wa sz = 1 := by rw [hwa]; exact if_pos rfl
    have si : ∀ k, hi wa sz k = 0 := by
      intro k
      rw [hwa]
      show (if sz = sz then (fun _ => (0 : Int32)) else w.2.1 sz) k = _
      rw [if_pos rfl]
    have sa : ∀ k i, ha wa sz k i = 0 := by
      intro k i
      rw [hwa]
      show (if sz = sz then (fun _ _ => (0 : Int32)) else w.2.2.2.2.1 sz) k i = _
      rw [if_pos rfl]
    obtain ⟨β, TB0⟩ := T.tb
    obtain ⟨b1, b2, b3, b4, b5, b6, b7, b8⟩ := TB0
    have tbu : ∀ u, hc u m = 9 → hi u m 1 = hi w m 1 → ha u m 0 = ha w m 0 → TB wa t u m β n := by
      intro u g1 g2 g3
      refine ⟨ka.c t1 d6 (P := fun _ _ => False), by rw [ka.i (P := fun _ _ => False) t1 d6 (fun z => z)]; exact b2, b3, ?_, g1, by rw [g2]; exact b6, by rw [g3]; exact b7, b8⟩
      rw [ka.ar (P := fun _ _ => False) t1 d6 (fun z => z)]
      exact b4
    have rd := fun u (g1 : hc u m = 9) (g2 : hi u m 1 = hi w m 1) (g3 : ha u m 0 = ha w m 0) (g4 : hi u m 7 = hi w m 7) (g5 : ha u m 5 = ha w m 5) => kind_read (o := sz) (kn := kn) (tbu u g1 g2 g3) sc (si 0) (si 1) (fun r _ k _ _ => sa k r) (by rw [g4]; exact m7) (by omega) (by rw [g5]; exact n5)
    -- the class reads
    obtain ⟨wb, eb, Fb, tb6, bc1, prp⟩ : ∃ wb, FX1_scan wa sz t = some ((), wb) ∧ Fr (Po t sz) wa wb ∧ hc wb t = 6 ∧ hc wb sz = 1 ∧ (hi wb t 3 = 0 → ∃ j b, 0 < j ∧ WBi b j ∧ RW wb sz (j, b) ∧ hi wb sz 1 = nI (if pr (j, b) = true then 1 else 0)) := by
      rcases rd w t2 rfl rfl rfl rfl with ⟨j, b', p', j0, V, ⟨_, wb, eb, C'⟩, _⟩ | ⟨f, fn, ⟨_, wb, eb, C'⟩, _⟩
      · exact ⟨wb, eb, C'.2.2.2.1, C'.1.1, C'.2.1, fun _ => ⟨j, b', j0, V, (C'.rw (fun _ _ => rfl)).1, (C'.rw (fun _ _ => rfl)).2⟩⟩
      · obtain ⟨p', T'⟩ := C'.2.2.1
        refine ⟨wb, eb, C'.1, T'.1, C'.2.1, fun q => ?_⟩
        rw [T'.2.2.2.2.2.2.1] at q
        exact absurd q (nI_ne0 (by omega) (by have := T'.2.2.2.2.2.2.2; omega))
    have kb : Ke (PKq x t m) w wb := ka.st Fb (fun b k hb z => by have := fs b hb; unfold Po at z; unfold PKq; omega)
    obtain ⟨wc, hwc⟩ : ∃ wc, wc = setI wb t 1 0 := ⟨_, rfl⟩
    have fc : Fr (fun b k => b = t ∧ k = 1) wb wc := by rw [hwc]; exact Fr.sI ⟨rfl, rfl⟩
    have kc : Ke (PKq x t m) w wc := kb.st fc (fun b k hb z => by unfold PKq; omega)
    have c0 : hp wb x 0 = some t := by rw [kb.o x8 d8 (by unfold PKq; omega)]; exact h0
    have c0' : hp wc x 0 = some t := by rw [kc.o x8 d8 (by unfold PKq; omega)]; exact h0
    have c3 : hi wc t 3 = hi wb t 3 := by rw [fc.i (by omega)]
    -- the class's call, up to the fault
    have cls : ∀ z, (if (hi wc t 3) = 0 then ((FX1_prepare wc sz).bind fun q42 => (okb (inb (hi q42.2 x 2) 8) (bnd (setQ q42.2 x 1 ((hi q42.2 x 2).toNatClampNeg) (some sz)) fun w49 => (bnd (setI w49 x 2 ((hi w49 x 2) + (1 : Int32))) fun w51 => (some (((hi w51 x 2) - (1 : Int32)), w51, 0, 0)))))) else (some (((-2 : Int32) - (hi wc t 3)), wc, 0, 0))) = some z → FX8_kind sz w x = some (z.1, z.2.1, z.2.2.1 + 7 + 1, z.2.2.2 + 48 + 9) := by
      intro z hz
      unfold FX8_kind
      refine E_c x8 (E_f x2n ?_)
      rw [h0]
      refine E_b rfl (E_c t1 (E_t (by rw [t3]; exact nI_le (b := 100) n100 (by decide)) ?_))
      refine bmw_e (z := (z.1, z.2.1, z.2.2.1 + 7, z.2.2.2 + 48)) (bmw_e (z := z) ?_)
      refine E_d ?_
      rw [← hwa, ka.o (P := fun _ _ => False) x8 d8 (fun z => z), h0]
      refine E_b rfl (E_b eb ?_)
      dsimp only
      rw [c0]
      refine E_b rfl (E_c tb6 (E_d ?_))
      rw [← hwc, c0']
      refine E_b rfl (E_c (by rw [fc.c]; exact tb6) ?_)
      by_cases q : hi wc t 3 = 0
      · rw [if_pos q] at hz
        exact E_t q hz
      · rw [if_neg q] at hz
        exact E_f q (E_b rfl (E_c (by rw [fc.c]; exact tb6) hz))
    have same : ∀ {u P' : _}, Fr P' wa u → (∀ k, ¬ P' m k) → hi u m 1 = hi w m 1 ∧ ha u m 0 = ha w m 0 ∧ hi u m 7 = hi w m 7 ∧ ha u m 5 = ha w m 5 ∧ hc u m = 9 ∧ ha u m 6 = ha w m 6 := by
      intro u P' F nP
      have K : Ke (fun b k => P' b k) w u := ka.st F (fun b k _ z => z)
      exact ⟨K.i t2 d9 (nP _), K.ar t2 d9 (nP _), K.i t2 d9 (nP _), K.ar t2 d9 (nP _), K.c t2 d9, K.ar t2 d9 (nP _)⟩
    by_cases q : hi wb t 3 = 0
    · -- read
      obtain ⟨wd, ed, Fd⟩ : ∃ wd, FX1_prepare wc sz = some ((), wd) ∧ Fr (Pp sz) wc wd := by
        obtain ⟨j, b', j0, V, rw0, hp0⟩ := prp q
        obtain ⟨_, wd, ed, _, Fd⟩ := prep (V.wb j0) (rw0.fr fc (fun k _ => by omega)) (by rw [fc.i (by omega)]; exact hp0)
        exact ⟨wd, ed, Fd⟩
      obtain ⟨w1, hw1⟩ : ∃ w1, w1 = setI (setQ wd x 1 kn (some sz)) x 2 (nI (kn + 1)) := ⟨_, rfl⟩
      have f1 : Fr (fun b k => b = x ∧ (k = 1 ∨ k = 2)) wd w1 := by rw [hw1]; exact (Fr.sQ ⟨rfl, Or.inl rfl⟩).trans (Fr.sI ⟨rfl, Or.inr rfl⟩)
      have k1 : Ke (PKq x t m) w w1 := (kc.st Fd (fun b k hb z => by have := fs b hb; unfold Pp at z; omega)).st f1 (fun b k hb z => by unfold PKq; omega)
      have F1 : Fr (fun b _ => b ≠ m) wa w1 := (((Fb.mono (fun b k z => by unfold Po at z; omega)).trans (fc.mono (fun b k z => by omega))).trans (Fd.mono (fun b k z => by unfold Pp at z; omega))).trans (f1.mono (fun b k z => by omega))
      obtain ⟨a1, a2, a3, a4, a5, a6⟩ := same F1 (fun k z => z rfl)
      have e8 := cls (nI kn, w1, 0, 0) (by
        refine E_t (by rw [c3]; exact q) (E_b ed ?_)
        have c4 : hi wd x 2 = nI kn := by rw [Fd.i (by unfold Pp; omega), fc.i (by omega), Fb.i (by unfold Po; omega), ka.i (P := fun _ _ => False) x8 d8 (fun z => z)]; exact x2
        dsimp only
        rw [c4]
        refine E_i rfl (by omega) (by decide) (E_d (E_d ?_))
        rw [nI_clamp (by omega), hi_setQ, c4, nI_1, ← hw1, show hi w1 x 2 = nI (kn + 1) from by rw [hw1, hi_setI, if_pos ⟨rfl, rfl⟩], l1_, nI_subc (by omega)]
        rfl)
      rcases rd w1 a5 a1 a2 a3 a4 with ⟨j, b', p', j0, V, ⟨_, wb', eb', C'⟩, u', eu, Er, Em6, Em⟩ | ⟨f, fn, ⟨_, wb', eb', C'⟩, u', eu, Er, Em⟩
      · rw [eb] at eb'
        cases eb'
        obtain ⟨zz, hz⟩ : ∃ zz : Nat → Nat, ∀ i, zz i < 128 ∧ (i < 180 → ha u' m 5 i = nI (zz i)) := by
          refine ⟨fun i => if h : i < 180 then (Er.2.2.2.1 i h).choose else 0, fun i => ?_⟩
          by_cases h : i < 180
          · dsimp only
            rw [dif_pos h]
            exact ⟨(Er.2.2.2.1 i h).choose_spec.1, fun _ => (Er.2.2.2.1 i h).choose_spec.2⟩
          · dsimp only
            rw [dif_neg h]
            exact ⟨by decide, fun q => absurd q h⟩
        obtain ⟨bb, hbb⟩ : ∃ bb : Nat → Nat → Nat, bb = fun r f => if r < j then b' r f else zz (20 * kn + 5 * r + f) := ⟨_, rfl⟩
        have eo : ∀ r, r < j → bb r = b' r := fun r hr => by rw [hbb]; funext f; exact if_pos hr
        have en : ∀ r, ¬ r < j → ∀ f, bb r f = zz (20 * kn + 5 * r + f) := fun r hr f => by rw [hbb]; exact if_neg hr
        have Vb : WBi bb j := V.cg eo (fun r f => by
          by_cases hr : r < j
          · rw [eo r hr]; exact V.2.2.1 r f
          · rw [en r hr]; exact (hz _).1)
        have Wb : WB (j, bb) := Vb.wb j0
        obtain ⟨rwb, hpb⟩ := C'.rw eo
        obtain ⟨_, wd', ed', ck, _⟩ := prep Wb (rwb.fr fc (fun k _ => by omega)) (by rw [fc.i (by omega)]; exact hpb)
        rw [ed] at ed'
        cases ed'
        have rk : RK u' m kn (j, bb) := by
          refine ⟨Em6, fun r hr f hf => ?_⟩
          unfold rl
          show _ = nI (bb r f)
          by_cases hr' : r < j
          · rw [eo r hr']; exact Em r hr' f hf
          · rw [en r hr']; exact (hz _).2 (by omega)
        obtain ⟨w2, hw2⟩ : ∃ w2, w2 = setI (setI u' m 1 0) m 7 (nI (kn + 1)) := ⟨_, rfl⟩
        have f2 : Fr (fun b k => b = m ∧ (k = 1 ∨ k = 7)) u' w2 := by rw [hw2]; exact (Fr.sI ⟨rfl, Or.inl rfl⟩).trans (Fr.sI ⟨rfl, Or.inr rfl⟩)
        have k2 : Ke (PKq x t m) w w2 := (k1.st Er.2.1 (fun b k hb z => by unfold Pk6 at z; unfold PKq; omega)).st f2 (fun b k hb z => by unfold PKq; omega)
        have F2 : Fr (fun b _ => b = m) w1 w2 := (Er.2.1.mono (fun b k z => z.1)).trans (f2.mono (fun b k z => z.1))
        have Fz : Fr (fun b k => b ≠ sz) wd w2 := (f1.mono (fun b k z => by omega)).trans (F2.mono (fun b k z => by omega))
        obtain ⟨B', hB⟩ : ∃ B' : Nat → Book, B' = fun k => if k = kn then (j, bb) else B k := ⟨_, rfl⟩
        have Bn : B' kn = (j, bb) := by rw [hB]; exact if_pos rfl
        have Bo : ∀ k, k < kn → B' k = B k := fun k hk => by rw [hB]; exact if_neg (by omega)
        have q1 : hq w2 x 1 = va_up (hq w x 1) kn (some sz) := by
          rw [F2.qq (by omega), hw1]
          show hq (setQ wd x 1 kn (some sz)) x 1 = _
          rw [hq_setQ, if_pos ⟨rfl, rfl⟩, Fd.qq (by unfold Pp; omega), fc.qq (by omega), Fb.qq (by unfold Po; omega), ka.qq (P := fun _ _ => False) x8 d8 (fun z => z)]
        have q1o : ∀ k, k < kn → hq w2 x 1 k = hq w x 1 k := fun k hk => by rw [q1]; exact if_neg (by omega)
        have q1n : hq w2 x 1 kn = some sz := by rw [q1]; exact if_pos rfl
        have R2 : ∀ k, k < kn → RK w2 m k (B k) := fun k hk => (rk_old ((R.2.2.2.2.2.1 k hk).1.at a4 a6) Er hk).at (f2.ar (by omega)) (f2.ar (by omega))
        refine ⟨nI kn, w1, _, _, w2, kn + 1, B', e8, ?_, (show 8 ≤ 20 by decide), (show 57 ≤ 300 by decide), k2, ?_, ?_, ?_, ?_, ⟨0, ?_⟩, ?_, by omega, Bo, q1o⟩
        · unfold FX9_kind
          refine E_c a5 (E_f (by rw [a3]; exact m7n) (E_t (by rw [a1, t4]; exact nI_le (b := 100) n100 (by decide)) (E_b eu (E_d (E_f i10 (E_d ?_))))))
          have : hi (setI u' m 1 0) m 7 = nI kn := by rw [hi_setI, if_neg (by omega)]; exact Er.1
          rw [this, nI_1, ← hw2, show hi w2 m 7 = nI (kn + 1) from by rw [hw2, hi_setI, if_pos ⟨rfl, rfl⟩], l1_, nI_subc (by omega)]
          rfl
        · refine C.ke k2 (by unfold PKq; omega) (by unfold PKq; omega) (fun p hp k => npq hp) (by rw [F2.i (by omega), hw1, hi_setI, if_pos ⟨rfl, rfl⟩]) (by omega) (by rw [k2.i x8 d8 (by unfold PKq; omega)]; exact C.2.2.2.2.2.1) mn6 (by omega) (Nat.le_refl _) Bo (fun _ _ => rfl) q1o (fun k _ => by rw [k2.qq x8 d8 (by unfold PKq; omega)]) (fun k h1 h2 => ?_) (fun k h1 h2 => by omega)
          have : k = kn := by omega
          subst this
          rw [Bn]
          exact ⟨sz, q1n, ck.fr Fz (fun k z => z rfl), Wb⟩
        · refine R.ke k2 (by rw [hw2, hi_setI, if_pos ⟨rfl, rfl⟩]) (by omega) (by rw [k2.i t2 d9 (by unfold PKq; omega)]; exact R.2.2.2.1) mn6 (by unfold PKq; omega) (by unfold PKq; omega) Bo (fun _ _ => rfl) R2 (fun k hk => (R.2.2.2.2.2.2.1 k hk).1.at (k2.ar t2 d9 (by unfold PKq; omega)) (k2.ar t2 d9 (by unfold PKq; omega))) (fun k h1 h2 => ?_) (fun k h1 h2 => by omega)
          have : k = kn := by omega
          subst this
          rw [Bn]
          exact ⟨rk.at (f2.ar (by omega)) (f2.ar (by omega)), Wb⟩
        · exact Ct.ke C k2 (by unfold PKq; omega) (fun p hp k => npq (Or.inr hp))
        · intro k hk
          rw [k2.ar t2 d9 (by unfold PKq; omega)]
          exact Rt k hk
        · refine ⟨k2.c t1 d6, k2.c t2 d9, ?_, ?_, by decide, fun i hi => by omega⟩
          · rw [F2.i (by omega), f1.i (by omega), Fd.i (by unfold Pp; omega), hwc, hi_setI, if_pos ⟨rfl, rfl⟩]; rfl
          · rw [hw2, hi_setI, if_neg (by omega), hi_setI, if_pos ⟨rfl, rfl⟩]; rfl
        · unfold N5
          rw [f2.ar (by omega)]
          exact Er.2.2.2.1
      · rw [eb] at eb'
        cases eb'
        obtain ⟨p', T'⟩ := C'.2.2.1
        rw [T'.2.2.2.2.2.2.1] at q
        exact absurd q (nI_ne0 (by omega) (by have := T'.2.2.2.2.2.2.2; omega))
    · -- a fault
      have F1 : Fr (fun b _ => b ≠ m) wa wc := (Fb.mono (fun b k z => by unfold Po at z; omega)).trans (fc.mono (fun b k z => by omega))
      obtain ⟨a1, a2, a3, a4, a5, a6⟩ := same F1 (fun k z => z rfl)
      have e8 := cls (-2 - hi wb t 3, wc, 0, 0) (by
        refine E_f (by rw [c3]; exact q) ?_
        rw [c3])
      rcases rd wc a5 a1 a2 a3 a4 with ⟨j, b', p', j0, V, ⟨_, wb', eb', C'⟩, u', eu, Er, Em6, Em⟩ | ⟨f, fn, ⟨_, wb', eb', C'⟩, u', eu, Er, Em⟩
      · rw [eb] at eb'
        cases eb'
        exact absurd C'.1.2.2.2.2.2.2.1 q
      · rw [eb] at eb'
        cases eb'
        obtain ⟨p', T'⟩ := C'.2.2.1
        obtain ⟨w2, hw2⟩ : ∃ w2, w2 = setI u' m 1 0 := ⟨_, rfl⟩
        have f2 : Fr (fun b k => b = m ∧ k = 1) u' w2 := by rw [hw2]; exact Fr.sI ⟨rfl, rfl⟩
        have k2 : Ke (PKq x t m) w w2 := (kc.st Er.2.1 (fun b k hb z => by unfold Pk6 at z; unfold PKq; omega)).st f2 (fun b k hb z => by unfold PKq; omega)
        have F2 : Fr (fun b _ => b = m) wc w2 := (Er.2.1.mono (fun b k z => z.1)).trans (f2.mono (fun b k z => z.1))
        have Fx : Fr (fun b k => b = m ∨ b = sz ∨ b = t) wa w2 := ((Fb.mono (fun b k z => by unfold Po at z; omega)).trans (fc.mono (fun b k z => by omega))).trans (F2.mono (fun b k z => by omega))
        have kx : Ke (fun b _ => b = m ∨ b = t) w w2 := ka.st Fx (fun b k hb z => by have := fs b hb; omega)
        have R2 : ∀ k, k < kn → RK w2 m k (B k) := fun k hk => (rk_old ((R.2.2.2.2.2.1 k hk).1.at a4 a6) Er hk).at (f2.ar (by omega)) (f2.ar (by omega))
        refine ⟨-2 - hi wb t 3, wc, _, _, w2, kn, B, e8, ?_, (show 8 ≤ 20 by decide), (show 57 ≤ 300 by decide), k2, ?_, ?_, ?_, ?_, ⟨0, ?_⟩, ?_, Nat.le_refl _, fun _ _ => rfl, fun k _ => by rw [kx.qq x8 d8 (by omega)]⟩
        · unfold FX9_kind
          refine E_c a5 (E_f (by rw [a3]; exact m7n) (E_t (by rw [a1, t4]; exact nI_le (b := 100) n100 (by decide)) (E_b eu (E_d (E_t rfl ?_)))))
          rw [T'.2.2.2.2.2.2.1, ← hw2, show hi w2 m 3 = nI f from by rw [f2.i (by omega)]; exact Em]
        · refine C.ke kx (by omega) (by omega) (fun p hp k z => ?_) (by rw [kx.i x8 d8 (by omega)]; exact x2) kn8 (by rw [kx.i x8 d8 (by omega)]; exact C.2.2.2.2.2.1) mn6 (Nat.le_refl _) (Nat.le_refl _) (fun _ _ => rfl) (fun _ _ => rfl) (fun k _ => by rw [kx.qq x8 d8 (by omega)]) (fun k _ => by rw [kx.qq x8 d8 (by omega)]) (fun k h1 h2 => by omega) (fun k h1 h2 => by omega)
          rcases z with z | z
          · rw [z, t2] at hp; omega
          · rw [z, t1] at hp; omega
        · exact R.ke k2 (by rw [f2.i (by omega)]; exact Er.1) kn8 (by rw [k2.i t2 d9 (by unfold PKq; omega)]; exact R.2.2.2.1) mn6 (by unfold PKq; omega) (by unfold PKq; omega) (fun _ _ => rfl) (fun _ _ => rfl) R2 (fun k hk => (R.2.2.2.2.2.2.1 k hk).1.at (k2.ar t2 d9 (by unfold PKq; omega)) (k2.ar t2 d9 (by unfold PKq; omega))) (fun k h1 h2 => by omega) (fun k h1 h2 => by omega)
        · exact Ct.ke C k2 (by unfold PKq; omega) (fun p hp k => npq (Or.inr hp))
        · intro k hk
          rw [k2.ar t2 d9 (by unfold PKq; omega)]
          exact Rt k hk
        · refine ⟨k2.c t1 d6, k2.c t2 d9, ?_, ?_, by decide, fun i hi => by omega⟩
          · rw [F2.i (by omega), hwc, hi_setI, if_pos ⟨rfl, rfl⟩]; rfl
          · rw [hw2, hi_setI, if_pos ⟨rfl, rfl⟩]; rfl
        · unfold N5
          rw [f2.ar (by omega)]
          exact Er.2.2.2.1
  · refine stay ?_ ?_
    · unfold FX8_kind
      refine E_c x8 (E_f x2n ?_)
      rw [h0]
      exact E_b rfl (E_c t1 (E_f (by rw [t3]; exact nI_ge (a := 100) (by omega) (by omega)) rfl))
    · unfold FX9_kind
      exact E_c t2 (E_f m7n (E_f (by rw [t4]; exact nI_ge (a := 100) (by omega) (by omega)) rfl))
end KCA
