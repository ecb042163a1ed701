/-! A march read by both. -/
def Pm9 (m : Nat) : Nat → Nat → Prop := fun b k => b = m ∧ (k = 2 ∨ k = 3 ∨ k = 4 ∨ k = 8 ∨ k = 9 ∨ k = 10 ∨ k = 13 ∨ k = 14)
/-- reference: a march is read, or a fault -/
def MRe (u0 u : HS) (m mn : Nat) : Prop := Fr (Pm9 m) u0 u ∧ (∀ j, ¬ (64 * mn ≤ j ∧ j < 64 * mn + 64) → ha u m 8 j = ha u0 m 8 j) ∧ ∀ k, k ≠ mn → ha u m 9 k = ha u0 m 9 k ∧ ha u m 10 k = ha u0 m 10 k
/-- reference: march mn reads M, of e elements -/
def MRm (u : HS) (m mn e : Nat) (M : Mch) : Prop := ha u m 9 mn = nI e ∧ ha u m 10 mn = oI (sM M e) ∧ ∀ x, x < e → ha u m 8 (64 * mn + 8 * x) = nI (mW M x) ∧ ha u m 8 (64 * mn + 8 * x + 1) = nI (mC M x) ∧ ∀ k, k < mC M x → ha u m 8 (64 * mn + 8 * x + 2 + k) = nI (mO M x k)
section MB
variable {w0 w u0 u : HS} {t o m mn e n p : Nat} {β : Nat → Nat} {M : Mch}
theorem MF.stop {f : Nat} (h : MF w0 w t o β n f) (hf : f ≠ 0) {N : Nat} (hN : 0 < N) {v : Int32} : Rn (FX2_scan_11 N w o t v) (fun _ w' => MF w0 w' t o β n f) := by
  obtain ⟨h1, h2, h3, p, T⟩ := id h
  obtain ⟨N, rfl⟩ : ∃ z, N = z + 1 := ⟨N - 1, by omega⟩
  rw [FX2_scan_11]
  refine Rn.ite (fun _ => Rn.ret h) (fun _ => Rn.eq (r := 1) (w' := w) ?_ (Rn.f i10 (Rn.ret h)))
  unfold FX6_isOver
  have h8 := T.2.2.2.2.2.2.2
  exact E_c T.1 (E_f (by rw [T.2.2.2.2.2.2.1]; exact nI_ne0 (by omega) (by omega)) rfl)
theorem mRf_e {f : Nat} (R : MRf u0 u m mn f) : MRe u0 u m mn := ⟨R.2.1.mono (fun b k z => by unfold Prm at z; unfold Pm9; omega), R.2.2, fun k _ => ⟨by rw [R.2.1.ar (by unfold Prm; omega)], by rw [R.2.1.ar (by unfold Prm; omega)]⟩⟩
/-- reference: behind an element -/
def mB (N : Nat) (u : HS) (m : Nat) (e : Nat) : Option (Int32 × HS) :=
  (FX9_takes u m 59).bind fun q6 => (if q6.1 = 0 then (okb (inb (hi q6.2 m 11) 7) (bnd (setA q6.2 m 9 (hi q6.2 m 11).toNatClampNeg (nI e + (1 : Int32))) fun w14 => (okb (inb (hi w14 m 11) 7) (bnd (setA w14 m 10 (hi w14 m 11).toNatClampNeg (hi w14 m 13)) fun w19 => ((FX9_next w19 m).bind fun q21 => (if q21.1 = (-1 : Int32) then (some ((1 : Int32), q21.2)) else ((FX9_fails q21.2 m (1 : Int32) (hi q21.2 m 2)).bind fun q26 => (if q26.1 = 0 then (some ((0 : Int32), q26.2)) else (some ((1 : Int32), q26.2)))))))))) else (FX9_readsMarch_17 N q6.2 m (nI e + (1 : Int32))))
theorem mB_eq {N : Nat} {u1 : HS} (h : FX9_readsElement u m (nI e) = some (1, u1)) : FX9_readsMarch_17 (N + 1) u m (nI e) = mB N u1 m e := by
  rw [FX9_readsMarch_17]
  exact E_b h (E_f i10 rfl)
/-- reference: no semicolon -/
theorem mB_end (hb : ∀ i, β i < 256) {u3 : HS} {q : Nat} (R3 : MR u0 u3 m mn (e + 1) β n (sk β n q) M) (qn : q ≤ n) (e8 : e < 8) : ∃ u4, (okb (inb (hi u3 m 11) 7) (bnd (setA u3 m 9 (hi u3 m 11).toNatClampNeg (nI e + (1 : Int32))) fun w14 => (okb (inb (hi w14 m 11) 7) (bnd (setA w14 m 10 (hi w14 m 11).toNatClampNeg (hi w14 m 13)) fun w19 => ((FX9_next w19 m).bind fun q21 => (if q21.1 = (-1 : Int32) then (some ((1 : Int32), q21.2)) else ((FX9_fails q21.2 m (1 : Int32) (hi q21.2 m 2)).bind fun q26 => (if q26.1 = 0 then (some ((0 : Int32), q26.2)) else (some ((1 : Int32), q26.2)))))))))) = some (if sk β n q < n then 0 else 1, u4) ∧ MRe u0 u4 m mn ∧ MRm u4 m mn (e + 1) M ∧ (sk β n q < n → hi u4 m 3 = nI (8 * sk β n q + 1)) := by
  obtain ⟨r1, r2, r3, r4, r5, r6, r7, r8, r9⟩ := id R3
  obtain ⟨u4, hu4⟩ : ∃ u4, u4 = setA (setA u3 m 9 mn (nI (e + 1))) m 10 mn (oI (sM M (e + 1))) := ⟨_, rfl⟩
  have F4 : Fr (fun b k => b = m ∧ (k = 9 ∨ k = 10)) u3 u4 := by rw [hu4]; exact (Fr.sA ⟨rfl, Or.inl rfl⟩).trans (Fr.sA ⟨rfl, Or.inr rfl⟩)
  have T4 := r1.fr F4 (by omega) (by omega) (by omega)
  obtain ⟨u5, e5, f5, t5⟩ := tr_next hb T4
  rw [sk_sk qn] at e5 t5
  have six : ∀ {u6 : HS}, Fr (Pfw m) u4 u6 → MRe u0 u6 m mn ∧ MRm u6 m mn (e + 1) M := by
    intro u6 f6
    have e8' : ha u6 m 8 = ha u3 m 8 := by rw [f6.ar (by unfold Pfw; omega), F4.ar (by omega)]
    have e9' : ha u6 m 9 = upd (ha u3 m 9) mn (nI (e + 1)) := by rw [f6.ar (by unfold Pfw; omega), hu4, ha_setA, if_neg (by omega), ha_setA, if_pos ⟨rfl, rfl⟩]
    have e10' : ha u6 m 10 = upd (ha u3 m 10) mn (oI (sM M (e + 1))) := by rw [f6.ar (by unfold Pfw; omega), hu4, ha_setA, if_pos ⟨rfl, rfl⟩, ha_setA, if_neg (by omega)]
    refine ⟨⟨?_, ?_, ?_⟩, ?_, ?_, ?_⟩
    · exact ((r7.mono (fun b k z => by unfold Prm at z; unfold Pm9; omega)).trans (F4.mono (fun b k z => by unfold Pm9; omega))).trans (f6.mono (fun b k z => by unfold Pfw at z; unfold Pm9; omega))
    · rw [e8']; exact r9
    · intro k hk
      rw [e9', e10', upd_n hk, upd_n hk, r7.ar (k := 9) (by unfold Prm; omega), r7.ar (k := 10) (by unfold Prm; omega)]
      exact ⟨rfl, rfl⟩
    · rw [e9', upd_s]
    · rw [e10', upd_s]
    · rw [e8']; exact r8
  have red : ∀ z, (FX9_next u4 m).bind (fun q21 => (if q21.1 = (-1 : Int32) then (some ((1 : Int32), q21.2)) else ((FX9_fails q21.2 m (1 : Int32) (hi q21.2 m 2)).bind fun q26 => (if q26.1 = 0 then (some ((0 : Int32), q26.2)) else (some ((1 : Int32), q26.2)))))) = z → (okb (inb (hi u3 m 11) 7) (bnd (setA u3 m 9 (hi u3 m 11).toNatClampNeg (nI e + (1 : Int32))) fun w14 => (okb (inb (hi w14 m 11) 7) (bnd (setA w14 m 10 (hi w14 m 11).toNatClampNeg (hi w14 m 13)) fun w19 => ((FX9_next w19 m).bind fun q21 => (if q21.1 = (-1 : Int32) then (some ((1 : Int32), q21.2)) else ((FX9_fails q21.2 m (1 : Int32) (hi q21.2 m 2)).bind fun q26 => (if q26.1 = 0 then (some ((0 : Int32), q26.2)) else (some ((1 : Int32), q26.2)))))))))) = z := by
    intro z hz
    rw [r2]
    refine E_i rfl (by omega) (by decide) (E_d ?_)
    rw [nI_clamp (by omega), nI_1]
    rw [show hi (setA u3 m 9 mn (nI (e + 1))) m 11 = nI mn from r2, show hi (setA u3 m 9 mn (nI (e + 1))) m 13 = oI (sM M (e + 1)) from r4]
    refine E_i rfl (by omega) (by decide) (E_d ?_)
    rw [nI_clamp (by omega), ← hu4]
    exact hz
  by_cases hn : sk β n q < n
  · rw [if_pos hn]
    obtain ⟨s1, s2⟩ := six ((Pat_Pfw f5).trans (Fr.sI (p := Pfw m) (x := nI (8 * sk β n q + 1)) (k := 3) ⟨rfl, by omega⟩))
    refine ⟨setI u5 m 3 (nI (8 * sk β n q + 1)), red _ ?_, s1, s2, fun _ => by rw [hi_setI, if_pos ⟨rfl, rfl⟩]⟩
    have hbi : bI β n (sk β n q) = nI (β (sk β n q)) := by unfold bI; rw [if_pos hn]
    rw [hbi] at e5
    refine E_b e5 (E_f (nI_nM (by have := hb (sk β n q); omega)) ?_)
    dsimp only
    rw [t5.2.2.2.2.1]
    exact E_b (ref_fails t5.1 (y := 1)) (E_t rfl rfl)
  · rw [if_neg hn]
    obtain ⟨s1, s2⟩ := six (Pat_Pfw f5)
    refine ⟨u5, red _ ?_, s1, s2, fun q => absurd q hn⟩
    have hbi : bI β n (sk β n q) = -1 := by unfold bI; rw [if_neg hn]
    rw [hbi] at e5
    exact E_b e5 (E_t rfl rfl)
/-- a march is read by both, or the same fault -/
def Mgo (w0 u0 : HS) (t o m mn : Nat) (β : Nat → Nat) (n : Nat) (X : Option (Unit × HS)) (Y : Option (Int32 × HS)) : Prop :=
  (∃ j M' p', 0 < j ∧ WMi M' j ∧ Rn X (fun _ w' => MC w0 w' t o j β n p' M') ∧ ∃ u', Y = some (1, u') ∧ MRe u0 u' m mn ∧ MRm u' m mn j M') ∨
  (∃ f, f ≠ 0 ∧ Rn X (fun _ w' => MF w0 w' t o β n f) ∧ ∃ u', Y = some (0, u') ∧ MRe u0 u' m mn ∧ hi u' m 3 = nI f)
theorem Mgo.to {X X' : Option (Unit × HS)} {Y Y' : Option (Int32 × HS)} (h : Mgo w0 u0 t o m mn β n X Y) (hx : ∀ Q : Unit → HS → Prop, Rn X Q → Rn X' Q) (hy : Y' = Y) : Mgo w0 u0 t o m mn β n X' Y' := by
  subst hy
  rcases h with ⟨j, M', p', j0, V, c, r⟩ | ⟨f, fn, c, r⟩
  · exact Or.inl ⟨j, M', p', j0, V, hx _ c, r⟩
  · exact Or.inr ⟨f, fn, hx _ c, r⟩
theorem march_loop (hb : ∀ i, β i < 256) : ∀ d e p M w u N1 N2, e + d = 8 → d + 1 < N1 → d < N2 → MC w0 w t o e β n p M → MR u0 u m mn e β n p M → WMi M e →
    Mgo w0 u0 t o m mn β n ((FX2_scanElement w o t).bind fun q => FX2_scan_11 N1 q.2 o t (nI e)) (FX9_readsMarch_17 N2 u m (nI e)) := by
  have key : ∀ d e p M w u N1 N2, e + d = 8 → d + 1 < N1 → d < N2 → MC w0 w t o e β n p M → MR u0 u m mn e β n p M → WMi M e → (e < 8 → ∀ p' M' w' u' , MC w0 w' t o (e + 1) β n p' M' → MR u0 u' m mn (e + 1) β n p' M' → WMi M' (e + 1) → Mgo w0 u0 t o m mn β n (FX2_scan_11 N1 w' o t (nI e)) (mB (N2 - 1) u' m e)) →
      Mgo w0 u0 t o m mn β n ((FX2_scanElement w o t).bind fun q => FX2_scan_11 N1 q.2 o t (nI e)) (FX9_readsMarch_17 N2 u m (nI e)) := by
    intro d e p M w u N1 N2 he h1 h2 C R V cont
    obtain ⟨N2, rfl⟩ : ∃ z, N2 = z + 1 := ⟨N2 - 1, by omega⟩
    rcases el_both hb C R V with ⟨i4, p', M', V', ⟨_, w', ew', C'⟩, u', e', R'⟩ | ⟨f, fn, ⟨_, w', ew', C'⟩, u', e', R'⟩
    · exact (cont i4 p' M' w' u' C' R' V').to (fun Q hQ => Rn.eq ew' hQ) (mB_eq e')
    · refine Or.inr ⟨f, fn, Rn.eq ew' (C'.stop fn (by omega)), u', ?_, mRf_e R', R'.1⟩
      rw [FX9_readsMarch_17]
      exact E_b e' (E_t rfl rfl)
  intro d
  induction d with
  | zero =>
    intro i p b w u N1 N2 he h1 h2 C R V
    exact key 0 i p b w u N1 N2 he h1 h2 C R V (fun q => by omega)
  | succ d ih =>
    intro e p M w u N1 N2 he h1 h2 C R V
    refine key (d + 1) e p M w u N1 N2 he h1 h2 C R V (fun i4 p' M' w' u' C' R' V' => ?_)
    obtain ⟨N1, rfl⟩ : ∃ z, N1 = z + 1 := ⟨N1 - 1, by omega⟩
    have pn := C'.1.2.2.2.2.2.1
    have n200 := C'.1.2.2.1
    have sl := sk_le (β := β) (n := n) (p := p') pn
    obtain ⟨w1, e1, f1, t1⟩ := tp_next hb C'.1
    have C1 := C'.tp f1 t1
    have a2 := t1.2.1
    have a5 := t1.2.2.2.2.1
    -- is it over
    have over : FX6_isOver w' t = some (if sk β n p' < n then 0 else 1, w1) := by
      unfold FX6_isOver
      refine E_c C'.1.1 (E_t (by rw [C'.1.2.2.2.2.2.2.1]; rfl) (E_b e1 ?_))
      dsimp only
      rw [a2]
      by_cases hn : sk β n p' < n
      · rw [if_pos hn]
        exact E_t (nI_lt hn (by omega)) rfl
      · rw [if_neg hn]
        exact E_f (nI_nlt (by omega) (by omega)) rfl
    rcases tr_takes hb (c := 59) (by decide) R'.1 with ⟨q1, q2, u3, e3, f3, t3⟩ | ⟨q, u3, e3, f3, t3⟩
    · -- a semicolon
      have R3 := R'.st (Pat_Pfw f3) t3
      obtain ⟨w2, e2, f2, t2⟩ := tp_take hb (s := 14) (by decide) t1
      have tk : tkP β n 14 (sk β n p') 0 = (some 0, sk β n p' + 1, 0) := by
        rw [tk_sk pn]
        exact tk_s q1 (by rw [q2]; rfl)
      rw [tk] at e2 t2
      have C2 := C1.tp f2 t2
      refine (ih (e + 1) (sk β n p' + 1) M' w2 u3 N1 (N2 - 1) (by omega) (by omega) (by omega) C2 R3 V').to (fun Q hQ => ?_) ?_
      · rw [FX2_scan_11]
        refine Rn.f (nI_ge (b := 8) (by omega) (by decide)) (Rn.eq over ?_)
        rw [if_pos q1]
        refine Rn.t rfl (Rn.eq e2 ?_)
        dsimp only
        rw [nI_1]
        exact hQ
      · unfold mB
        refine E_b e3 (E_f i10 ?_)
        dsimp only
        rw [nI_1]
    · -- none
      have R3 := R'.st (Pat_Pfw f3) t3
      obtain ⟨u4, e4, k1, k2, k3⟩ := mB_end hb R3 pn i4
      have ey : mB (N2 - 1) u' m e = some (if sk β n p' < n then 0 else 1, u4) := by
        unfold mB
        exact E_b e3 (E_t rfl e4)
      rw [ey]
      by_cases hn : sk β n p' < n
      · rw [if_pos hn] at over ⊢
        refine Or.inr ⟨8 * sk β n p' + 1, by omega, ?_, u4, rfl, k1, k3 hn⟩
        obtain ⟨w2, e2, f2, t2⟩ := tp_take hb (s := 14) (by decide) t1
        have tk : tkP β n 14 (sk β n p') 0 = (none, sk β n p', 8 * sk β n p' + 1) := by
          rw [tk_sk pn]
          refine tk_n (Or.inr ?_)
          rw [ix_one 14 (by decide) rfl _ (hb _)]
          exact if_neg (fun z => q ⟨hn, z⟩)
        rw [tk] at e2 t2
        have C2 := C1.cf (by omega) f2 t2
        rw [FX2_scan_11]
        refine Rn.f (nI_ge (b := 8) (by omega) (by decide)) (Rn.eq over (Rn.t rfl (Rn.eq e2 ((C2.el hb (show 8 * sk β n p' + 1 ≠ 0 by omega)).call ?_))))
        intro _ w3 C3
        exact C3.stop (show 8 * sk β n p' + 1 ≠ 0 by omega) (by omega)
      · rw [if_neg hn] at over ⊢
        refine Or.inl ⟨e + 1, M', sk β n p', by omega, V', ?_, u4, rfl, k1, k2⟩
        rw [FX2_scan_11]
        exact Rn.f (nI_ge (b := 8) (by omega) (by decide)) (Rn.eq over (Rn.f i10 (Rn.ret C1)))
theorem march_read (T : TB w t u m β n) (h1 : hc w o = 2) (h0 : ∀ k, k < 4 → hi w o k = 0) (h4 : hi w o 4 = -1) (h5 : ∀ k, k < 8 → ha w o 6 k = 0 ∧ ha w o 7 k = 0) (k7 : hi u m 11 = nI mn) (mn6 : mn < 6) (wr : ha u m 12 = wrd9) :
    Mgo w u t o m mn β n (FX2_scan w o t) (FX9_readsMarch u m) := by
  obtain ⟨t1, t2, t3, t4, t5, t6, t7, hb⟩ := T
  have ne : o ≠ t := by
    intro e
    rw [← e, h1] at t1
    cases t1
  obtain ⟨w1, e1, f1, tp1⟩ := tp_rewind t1 t2 t3 t4
  have M0 : Mch := (0, fun _ => 0, fun _ => 0, fun _ _ => 0)
  have C : MC w w1 t o 0 β n 0 M0 := ⟨tp1, by rw [f1.c]; exact h1, by rw [f1.i (by unfold P6; omega)]; exact h0 0 (by decide), by rw [f1.i (by unfold P6; omega)]; exact h0 1 (by decide), by rw [f1.i (by unfold P6; omega)]; exact h0 2 (by decide), by rw [f1.i (by unfold P6; omega)]; exact h0 3 (by decide), by rw [f1.i (by unfold P6; omega)]; exact h4, f1.mono (fun b k z => Or.inl z), fun r hr => by omega, fun r _ r8 => by rw [f1.ar (by unfold P6; omega), f1.ar (by unfold P6; omega)]; exact h5 r r8⟩
  obtain ⟨u1, hu1⟩ : ∃ u1, u1 = setI (setI (setI u m 2 0) m 13 (-1)) m 14 0 := ⟨_, rfl⟩
  have F1 : Fr (Prm m) u u1 := by
    rw [hu1]
    exact ((Fr.sI (p := Prm m) ⟨rfl, by omega⟩).trans (Fr.sI ⟨rfl, by omega⟩)).trans (Fr.sI ⟨rfl, by omega⟩)
  have R : MR u u1 m mn 0 β n 0 M0 := by
    refine ⟨⟨by rw [F1.c]; exact t5, ?_, t3, ?_, ?_, Nat.zero_le _⟩, ?_, mn6, ?_, ?_, ?_, F1, fun r hr => by omega, ?_⟩
    · rw [hu1, hi_setI, if_neg (by omega), hi_setI, if_neg (by omega), hi_setI, if_neg (by omega)]; exact t6
    · rw [F1.ar (by unfold Prm; omega)]; exact t7
    · rw [hu1, hi_setI, if_neg (by omega), hi_setI, if_neg (by omega), hi_setI, if_pos ⟨rfl, rfl⟩]; rfl
    · rw [F1.i (by unfold Prm; omega)]; exact k7
    · rw [hu1, hi_setI, if_neg (by omega), hi_setI, if_pos ⟨rfl, rfl⟩]; rfl
    · rw [hu1, hi_setI, if_pos ⟨rfl, rfl⟩]; rfl
    · rw [F1.ar (by unfold Prm; omega)]; exact wr
    · intro j _
      rw [hu1]
      rfl
  have V : WMi M0 0 := ⟨by decide, Nat.zero_le _, fun r hr => by omega⟩
  refine (march_loop hb 8 0 0 M0 w1 u1 FUEL FUEL rfl (fuel_lt (by decide)) (fuel_lt (by decide)) C R V).to (fun Q hQ => ?_) ?_
  · unfold FX2_scan
    exact Rn.okc h1 (Rn.eq e1 hQ)
  · unfold FX9_readsMarch
    refine E_c t5 (E_d (E_d (E_d ?_)))
    rw [← hu1]
    rfl
end MB
