/-! Class: a trial described; put into its part. -/
theorem hj_upd (w : HS) (a k i : Nat) (x : Int64) (j : Nat) : hj (setJ w a k i x) a k j = if j = i then x else hj w a k j := by
  rw [hj_setJ, if_pos ⟨rfl, rfl⟩]
  rfl
section CPD
variable {w : HS} {s r t N pc i : Nat} {L : List (Nat × Nat)} {M : Mch}
/-- class: the trial's log -/
def TLg (w : HS) (r : Nat) (L : List (Nat × Nat)) : Prop := hc w r = 7 ∧ hi w r 2 = nI L.length ∧ L.length ≤ 999 ∧ ∀ k, k < L.length → k < 60 → ha w r 5 k = nI (gt L k).1
theorem TLg.fr {P : Nat → Nat → Prop} {w' : HS} (h : TLg w r L) (F : Fr P w w') (n : ∀ k, ¬ P r k) : TLg w' r L := by
  obtain ⟨h1, h2, h3, h4⟩ := h
  exact ⟨by rw [F.c]; exact h1, by rw [F.i (n 2)]; exact h2, h3, by rw [F.ar (n 5)]; exact h4⟩
theorem desc53 (T : TLg w r L) (rs : r ≠ s) (hb : ∀ k, k < L.length → (gt L k).1 < 288) (hpc : pc < 240) : ∀ d j n w1, j + d = mn60 L.length → d < n → Fr (fun b k => b = s ∧ k = 5) w w1 → RBt w1 s pc j L → (∀ i, i < 5 * pc ∨ 5 * pc + 5 ≤ i → hj w1 s 5 i = hj w s 5 i) → ∃ w', FX5_describe_53 n w1 s r (nI (5 * pc)) (nI (mn60 L.length)) (nI j) = some ((), w') ∧ Fr (fun b k => b = s ∧ k = 5) w w' ∧ RBt w' s pc (mn60 L.length) L ∧ ∀ i, i < 5 * pc ∨ 5 * pc + 5 ≤ i → hj w' s 5 i = hj w s 5 i := by
  have n60 := mn60_le L.length
  intro d
  induction d with
  | zero =>
    intro j n w1 hj' hn F R O
    obtain ⟨n, rfl⟩ : ∃ z, n = z + 1 := ⟨n - 1, by omega⟩
    have e : j = mn60 L.length := by omega
    refine ⟨w1, ?_, F, by rw [← e]; exact R, O⟩
    rw [FX5_describe_53]
    exact E_t (nI_le (by omega) (by omega)) rfl
  | succ d ih =>
    intro j n w1 hj' hn F R O
    obtain ⟨n, rfl⟩ : ∃ z, n = z + 1 := ⟨n - 1, by omega⟩
    obtain ⟨t1, t2, t3, t4⟩ := T.fr F (fun k z => rs z.1)
    have v288 := hb j (by omega)
    obtain ⟨v, hv⟩ : ∃ v, v = (gt L j).1 := ⟨_, rfl⟩
    rw [← hv] at v288
    have e1 : FX7_numberAt w1 r (nI j) = some (nI v, w1) := by
      unfold FX7_numberAt
      rw [nI_clamp (by omega), t4 j (by omega) (by omega), t2, ← hv]
      exact E_c t1 (E_f (nI_pos (by omega)) (E_f (nI_ge (b := 60) (by omega) (by decide)) (E_f (nI_ge (by omega) (by omega)) (E_i rfl (by omega) (by decide) rfl))))
    obtain ⟨s1, s2⟩ := sh64 v (by omega)
    obtain ⟨w2, hw2⟩ : ∃ w2, w2 = setJ w1 s 5 (5 * pc + v / 64) (hj w1 s 5 (5 * pc + v / 64) ||| ((1 : Int64) <<< ((nI v &&& (63 : Int32)).toInt64 &&& 63))) := ⟨_, rfl⟩
    have F2 : Fr (fun b k => b = s ∧ k = 5) w w2 := F.trans (by rw [hw2]; exact Fr.sJ ⟨rfl, rfl⟩)
    obtain ⟨w', e', r'⟩ := ih (j + 1) n w2 (by omega) (by omega) F2 (by
      intro u hu b hb'
      rw [hw2, hj_upd, inL_succ, ← hv]
      by_cases e : 5 * pc + u = 5 * pc + v / 64
      · rw [if_pos e, Int64.toBitVec_or, BitVec.getLsbD_or, s1, BitVec.getLsbD_twoPow, ← e, R u hu b hb']
        congr 1
        rw [Bool.eq_iff_iff, Bool.and_eq_true, decide_eq_true_eq, decide_eq_true_eq, decide_eq_true_eq]
        omega
      · rw [if_neg e, R u hu b hb']
        have : ¬ v = 64 * u + b := by omega
        rw [decide_eq_false this, Bool.or_false]) (by
      intro i hi
      rw [hw2, hj_upd, if_neg (by omega)]
      exact O i hi)
    refine ⟨w', ?_, r'⟩
    rw [FX5_describe_53]
    refine E_f (nI_ge (by omega) (by omega)) (E_b e1 (E_f (nI_pos (by omega)) (E_f (nI_ge (b := 320) (by omega) (by decide)) ?_)))
    dsimp only
    rw [s2, nI_add, nI_clamp (by omega)]
    refine E_i rfl (by omega) (by decide) (E_i rfl (by omega) (by decide) (E_d ?_))
    rw [← hw2]
    unfold FX5_describe_103
    rw [nI_1]
    exact e'
theorem desc7 (hpc : pc < 240) : ∀ d u n w1, u + d = 5 → d < n → Fr (fun b k => b = s ∧ k = 5) w w1 → (∀ i, i < u → hj w1 s 5 (5 * pc + i) = 0) → (∀ i, i < 5 * pc ∨ 5 * pc + 5 ≤ i → hj w1 s 5 i = hj w s 5 i) → ∃ w' n', FX5_describe_7 n w1 s r (nI pc) (nI (5 * pc)) (nI u) = FX5_describe_7 (n' + 1) w' s r (nI pc) (nI (5 * pc)) (nI 5) ∧ Fr (fun b k => b = s ∧ k = 5) w w' ∧ (∀ i, i < 5 → hj w' s 5 (5 * pc + i) = 0) ∧ ∀ i, i < 5 * pc ∨ 5 * pc + 5 ≤ i → hj w' s 5 i = hj w s 5 i := by
  intro d
  induction d with
  | zero =>
    intro u n w1 hu hn F Z O
    obtain ⟨n, rfl⟩ : ∃ z, n = z + 1 := ⟨n - 1, by omega⟩
    have e : u = 5 := by omega
    subst e
    exact ⟨w1, n, rfl, F, Z, O⟩
  | succ d ih =>
    intro u n w1 hu hn F Z O
    obtain ⟨n, rfl⟩ : ∃ z, n = z + 1 := ⟨n - 1, by omega⟩
    obtain ⟨w', n', e', r'⟩ := ih (u + 1) n (setJ w1 s 5 (5 * pc + u) 0) (by omega) (by omega) (F.trans (Fr.sJ ⟨rfl, rfl⟩)) (by
      intro i hi
      rw [hj_upd]
      by_cases e : i = u
      · rw [if_pos (by omega)]
      · rw [if_neg (by omega)]
        exact Z i (by omega)) (by
      intro i hi
      rw [hj_upd, if_neg (by omega)]
      exact O i hi)
    refine ⟨w', n', ?_, r'⟩
    rw [FX5_describe_7, nI_add, nI_clamp (n := 5 * pc + u) (by omega)]
    refine E_f (nI_ge (b := 5) (by omega) (by decide)) (E_i rfl (by omega) (by decide) (E_d ?_))
    rw [nI_1]
    exact e'
theorem desc_c (s5 : hc w s = 5) (T : TLg w r L) (hb : ∀ k, k < L.length → (gt L k).1 < 288) (hpc : pc < 240) : ∃ w', FX5_describe w s r (nI pc) = some ((), w') ∧ Fr (fun b k => b = s ∧ (k = 4 ∨ k = 5)) w w' ∧ RBw w' s pc L ∧ (∀ i, i ≠ pc → ha w' s 4 i = ha w s 4 i) ∧ ∀ i, i < 5 * pc ∨ 5 * pc + 5 ≤ i → hj w' s 5 i = hj w s 5 i := by
  have rs : r ≠ s := by intro e; have := T.1; rw [e, s5] at this; cases this
  have l9 := T.2.2.1
  have n60 := mn60_le L.length
  obtain ⟨wa, n', ea, fa, za, oa⟩ := desc7 (w := w) (s := s) (r := r) (pc := pc) hpc 5 0 FUEL w rfl (fuel_lt (by decide)) Fr.refl (fun i hi => absurd hi (Nat.not_lt_zero _)) (fun i _ => rfl)
  obtain ⟨wb, hwb⟩ : ∃ wb, wb = setA wa s 4 pc (nI L.length) := ⟨_, rfl⟩
  have fb : Fr (fun b k => b = s ∧ k = 4) wa wb := by rw [hwb]; exact Fr.sA ⟨rfl, rfl⟩
  have Ta := T.fr fa (fun k z => rs z.1)
  have Tb := Ta.fr fb (fun k z => rs z.1)
  have jb : hj wb s 5 = hj wa s 5 := fb.j (by omega)
  obtain ⟨wc, ec, fc, Rc, Oc⟩ := desc53 (w := wb) Tb rs hb hpc (mn60 L.length) 0 FUEL wb (by omega) (fuel_lt (by omega)) Fr.refl (by
    intro u hu b hb'
    rw [jb, za u hu]
    show BitVec.getLsbD 0#64 b = _
    rw [BitVec.getLsbD_zero]
    rfl) (fun i _ => rfl)
  refine ⟨wc, ?_, ((fa.mono (fun b k z => by omega)).trans (fb.mono (fun b k z => by omega))).trans (fc.mono (fun b k z => by omega)), ⟨?_, Rc⟩, fun i hi => ?_, fun i hi => by rw [Oc i hi, jb]; exact oa i hi⟩
  · unfold FX5_describe
    rw [show nI pc * (5 : Int32) = nI (5 * pc) from by rw [l5_, nI_mul, Nat.mul_comm]]
    refine E_c s5 (Eq.trans ea ?_)
    rw [FX5_describe_7]
    refine E_t (by decide) (E_c Ta.1 (E_i rfl hpc (by decide) (E_d ?_)))
    rw [nI_clamp (by omega), Ta.2.1, ← hwb, Tb.2.1]
    have em : (if nI L.length < (60 : Int32) then nI L.length else (60 : Int32)) = nI (mn60 L.length) := by
      unfold mn60
      rw [l60_]
      by_cases h : L.length < 60
      · rw [if_pos h, if_pos (nI_lt h (by decide))]
      · rw [if_neg h, if_neg (nI_nlt (by omega) (by omega))]
    rw [em]
    exact ec
  · rw [fc.ar (by omega), hwb, ha_setA, if_pos ⟨rfl, rfl⟩, upd_s]
  · rw [fc.ar (by omega), hwb, ha_setA, if_pos ⟨rfl, rfl⟩, upd_n hi, fa.ar (by omega)]
end CPD
/-- class: the parts of the first i -/
def PTs (w : HS) (s : Nat) (D : Nat → List (Nat × Nat)) (i pc : Nat) (rp : Nat → Nat) : Prop := hc w s = 5 ∧ hi w s 1 = nI pc ∧ pc ≤ i ∧ (∀ t, t < pc → rp t < i ∧ RBw w s t (D (rp t)) ∧ ha w s 3 t = nI (asE (fun j => kyL (D j)) (kyL (D (rp t))) i)) ∧ (∀ t, t < pc → ∀ t', t' < pc → kyL (D (rp t)) = kyL (D (rp t')) → t = t') ∧ ∀ j, j < i → ∃ t, t < pc ∧ kyL (D j) = kyL (D (rp t))
section CPW
variable {w : HS} {s r N i pc : Nat} {D : Nat → List (Nat × Nat)} {M : Mch} {rp : Nat → Nat}
theorem partWith_c (P : PTs w s D i pc rp) (T : TLg w r (D i)) (Gd : ∀ j, j ≤ i → GLg M N (D j)) (i240 : i < 240) : ∃ w' pc' rp', FX5_partWith w s r = some (nI (asE (fun j => kyL (D j)) (kyL (D i)) (i + 1)), w') ∧ Fr (fun b k => b = s ∧ (k = 1 ∨ k = 3 ∨ k = 4 ∨ k = 5)) w w' ∧ PTs w' s D (i + 1) pc' rp' := by
  obtain ⟨s5, p1, pi, pt, pd, pj'⟩ := P
  obtain ⟨wa, ea, fa, Ra, a4, a5⟩ := desc_c (pc := pc) s5 T (Gd i (Nat.le_refl _)).2.2.1 (by omega)
  have sa5 : hc wa s = 5 := by rw [fa.c]; exact s5
  have i1a : hi wa s 1 = nI pc := by rw [fa.i (by omega)]; exact p1
  have Rt : ∀ t, t < pc → RBw wa s t (D (rp t)) := by
    intro t ht
    obtain ⟨_, ⟨b1, b2⟩, _⟩ := pt t ht
    refine ⟨by rw [a4 t (by omega)]; exact b1, fun u hu b hb => ?_⟩
    rw [a5 _ (by omega)]
    exact b2 u hu b hb
  have z3 : ha wa s 3 = ha w s 3 := fa.ar (by omega)
  have cle : ∀ e, asE (fun j => kyL (D j)) e i ≤ i := fun e => asE_le e i
  -- the end, at part t
  have fin74 : ∀ (wv : HS) (t c : Nat), hc wv s = 5 → t < 240 → ha wv s 3 t = nI c → FX5_partWith_74 wv s (nI t) = some (nI (c + 1), setA wv s 3 t (nI (c + 1))) := by
    intro wv t c _ ht hc'
    unfold FX5_partWith_74
    rw [nI_clamp (by omega), hc', nI_1]
    refine E_i rfl ht (by decide) (E_i rfl ht (by decide) (E_d (E_i rfl ht (by decide) ?_)))
    rw [ha_setA, if_pos ⟨rfl, rfl⟩, upd_s]
  have loop : ∀ d t n, t + d = pc → d < n → (∀ t', t' < t → ¬ kyL (D (rp t')) = kyL (D i)) → ∃ w' pc' rp', FX5_partWith_23 n wa s (nI t) = some (nI (asE (fun j => kyL (D j)) (kyL (D i)) (i + 1)), w') ∧ Fr (fun b k => b = s ∧ (k = 1 ∨ k = 3 ∨ k = 4 ∨ k = 5)) w w' ∧ PTs w' s D (i + 1) pc' rp' := by
    intro d
    induction d with
    | zero =>
      intro t n ht hn h
      obtain ⟨n, rfl⟩ : ∃ z, n = z + 1 := ⟨n - 1, by omega⟩
      have tp : t = pc := by omega
      subst tp
      obtain ⟨wb, hwb⟩ : ∃ wb, wb = setI (setA wa s 3 t 0) s 1 (nI (t + 1)) := ⟨_, rfl⟩
      obtain ⟨wc, hwc⟩ : ∃ wc, wc = setA wb s 3 t (nI (0 + 1)) := ⟨_, rfl⟩
      have fb : Fr (fun b k => b = s ∧ (k = 1 ∨ k = 3)) wa wb := by rw [hwb]; exact (Fr.sA ⟨rfl, Or.inr rfl⟩).trans (Fr.sI ⟨rfl, Or.inl rfl⟩)
      have fc : Fr (fun b k => b = s ∧ (k = 1 ∨ k = 3)) wa wc := fb.trans (by rw [hwc]; exact Fr.sA ⟨rfl, Or.inr rfl⟩)
      have e3 : ∀ j, ha wc s 3 j = if j = t then nI 1 else ha wa s 3 j := by
        intro j
        rw [hwc, ha_setA, if_pos ⟨rfl, rfl⟩]
        by_cases e : j = t
        · rw [if_pos e, e, upd_s]
        · rw [if_neg e, upd_n e, hwb, ha_setI, ha_setA, if_pos ⟨rfl, rfl⟩, upd_n e]
      have e0 : asE (fun j => kyL (D j)) (kyL (D i)) i = 0 := by
        unfold asE
        have : ∀ d' i', i' + d' = i → cntF (fun j => decide (kyL (D j) = kyL (D i))) i' d' = 0 := by
          intro d'
          induction d' with
          | zero => intro i' _; rfl
          | succ d' ih =>
            intro i' hi'
            obtain ⟨t', t1, t2⟩ := pj' i' (by omega)
            rw [cnt_f (decide_eq_false (fun z => h t' t1 (by rw [← t2]; exact z)))]
            exact ih (i' + 1) (by omega)
        exact this i 0 (by omega)
      have e1 : asE (fun j => kyL (D j)) (kyL (D i)) (i + 1) = 1 := by rw [asE_succ, e0, if_pos rfl]
      have bigRB : ∀ t', t' < t + 1 → RBw wc s t' (D (if t' = t then i else rp t')) := by
        intro t' ht'
        have key : ∀ L, RBw wa s t' L → RBw wc s t' L := fun L hL => ⟨by rw [fc.ar (by omega)]; exact hL.1, by intro u hu b hb; rw [fc.j (by omega)]; exact hL.2 u hu b hb⟩
        by_cases e : t' = t
        · rw [if_pos e]; rw [e] at key ⊢; exact key _ Ra
        · rw [if_neg e]; exact key _ (Rt t' (by omega))
      refine ⟨wc, t + 1, fun t' => if t' = t then i else rp t', ?_, (fa.mono (fun b k z => by omega)).trans (fc.mono (fun b k z => by omega)), by rw [fc.c]; exact sa5, ?_, by omega, fun t' ht' => ⟨?_, bigRB t' ht', ?_⟩, ?_, ?_⟩
      · rw [FX5_partWith_23, i1a]
        refine E_t (nI_le (by omega) (by omega)) ?_
        unfold FX5_partWith_49
        rw [i1a, nI_clamp (by omega)]
        refine E_t rfl (E_i rfl (by omega) (by decide) (E_d (E_d ?_)))
        rw [hi_setA, i1a, nI_1, ← hwb, e1, fin74 wb t 0 (by rw [fb.c]; exact sa5) (by omega) (by rw [hwb, ha_setI, ha_setA, if_pos ⟨rfl, rfl⟩, upd_s]; rfl), ← hwc]
      · rw [hwc, hi_setA, hwb, hi_setI, if_pos ⟨rfl, rfl⟩]
      · dsimp only
        split
        · omega
        · have := (pt t' (by omega)).1; omega
      · dsimp only
        rw [e3]
        by_cases e : t' = t
        · rw [if_pos e, if_pos e, e1]
        · rw [if_neg e, if_neg e, z3, (pt t' (by omega)).2.2, asE_succ, if_neg (fun z => h t' (by omega) z.symm)]
          rfl
      · intro t1 h1 t2 h2 e
        dsimp only at e
        by_cases a : t1 = t
        · by_cases b : t2 = t
          · omega
          · rw [if_pos a, if_neg b] at e
            exact absurd e.symm (h t2 (by omega))
        · by_cases b : t2 = t
          · rw [if_neg a, if_pos b] at e
            exact absurd e (h t1 (by omega))
          · rw [if_neg a, if_neg b] at e
            exact pd t1 (by omega) t2 (by omega) e
      · intro j hj'
        by_cases ji : j = i
        · exact ⟨t, by omega, by dsimp only; rw [if_pos rfl, ji]⟩
        · obtain ⟨t', t1, t2⟩ := pj' j (by omega)
          exact ⟨t', by omega, by dsimp only; rw [if_neg (by omega)]; exact t2⟩
    | succ d ih =>
      intro t n ht hn h
      obtain ⟨n, rfl⟩ : ∃ z, n = z + 1 := ⟨n - 1, by omega⟩
      obtain ⟨rt, _, st⟩ := pt t (by omega)
      have al := alike_c (t := t) (t' := pc) sa5 (by omega) (by omega) (Rt t (by omega)) Ra (Gd _ (by omega)) (Gd i (Nat.le_refl _))
      by_cases e : kyL (D (rp t)) = kyL (D i)
      · rw [if_pos e] at al
        obtain ⟨wc, hwc⟩ : ∃ wc, wc = setA wa s 3 t (nI (asE (fun j => kyL (D j)) (kyL (D i)) i + 1)) := ⟨_, rfl⟩
        have fc : Fr (fun b k => b = s ∧ k = 3) wa wc := by rw [hwc]; exact Fr.sA ⟨rfl, rfl⟩
        have e3 : ∀ j, ha wc s 3 j = if j = t then nI (asE (fun j => kyL (D j)) (kyL (D i)) i + 1) else ha wa s 3 j := by
          intro j
          rw [hwc, ha_setA, if_pos ⟨rfl, rfl⟩]
          by_cases e : j = t
          · rw [if_pos e, e, upd_s]
          · rw [if_neg e, upd_n e]
        have e1 : asE (fun j => kyL (D j)) (kyL (D i)) (i + 1) = asE (fun j => kyL (D j)) (kyL (D i)) i + 1 := by rw [asE_succ, if_pos rfl]
        refine ⟨wc, pc, rp, ?_, (fa.mono (fun b k z => by omega)).trans (fc.mono (fun b k z => by omega)), by rw [fc.c]; exact sa5, by rw [fc.i (by omega)]; exact i1a, by omega, fun t' ht' => ⟨?_, ?_, ?_⟩, pd, ?_⟩
        · rw [FX5_partWith_23, i1a]
          refine E_f (nI_ge (by omega) (by omega)) (E_b al (E_f i10 ?_))
          unfold FX5_partWith_49
          dsimp only
          rw [i1a]
          refine E_f (fun z => ?_) ?_
          · have := (nI_eq (a := t) (b := pc) (by omega) (by omega)).mp z
            omega
          · rw [e] at st
            rw [e1, fin74 wa t _ sa5 (by omega) (by rw [z3]; exact st), ← hwc]
        · have := (pt t' ht').1; omega
        · have := Rt t' ht'
          exact ⟨by rw [fc.ar (by omega)]; exact this.1, by intro u hu b hb; rw [fc.j (by omega)]; exact this.2 u hu b hb⟩
        · rw [e3]
          by_cases tt : t' = t
          · rw [if_pos tt, tt, e, e1]
          · rw [if_neg tt, z3, (pt t' ht').2.2, asE_succ, if_neg (fun z => tt (pd t' ht' t (by omega) (by rw [e]; exact z.symm)))]
            rfl
        · intro j hj'
          by_cases ji : j = i
          · exact ⟨t, by omega, by rw [ji]; exact e.symm⟩
          · exact pj' j (by omega)
      · rw [if_neg e] at al
        obtain ⟨w', pc', rp', e', r'⟩ := ih (t + 1) n (by omega) (by omega) (fun t' ht' => by
          by_cases tt : t' = t
          · rw [tt]; exact e
          · exact h t' (by omega))
        refine ⟨w', pc', rp', ?_, r'⟩
        rw [FX5_partWith_23, i1a]
        refine E_f (nI_ge (by omega) (by omega)) (E_b al (E_t rfl ?_))
        rw [nI_1]
        exact e'
  obtain ⟨w', pc', rp', e', r'⟩ := loop pc 0 FUEL (by omega) (fuel_lt (by omega)) (fun t' ht' => absurd ht' (Nat.not_lt_zero _))
  refine ⟨w', pc', rp', ?_, r'⟩
  unfold FX5_partWith
  rw [p1]
  exact E_c s5 (E_t (nI_lt (b := 240) (by omega) (by decide)) (E_b ea e'))
end CPW
