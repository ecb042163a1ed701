/-! The reference goes through a march as the pure run does. -/
def gt (L : List (Nat × Nat)) (k : Nat) : Nat × Nat := L.getD k (0, 0)
theorem gt_old {L : List (Nat × Nat)} {p : Nat × Nat} {k : Nat} (h : k < L.length) : gt (L ++ [p]) k = gt L k := by
  unfold gt
  rw [List.getD_eq_getElem?_getD, List.getD_eq_getElem?_getD, List.getElem?_append_left h]
theorem gt_new {L : List (Nat × Nat)} {p : Nat × Nat} : gt (L ++ [p]) L.length = p := by
  unfold gt
  rw [List.getD_eq_getElem?_getD, List.getElem?_append_right (Nat.le_refl _), Nat.sub_self]
  rfl
/-- reference: march mi is told by M -/
def RMa (w : HS) (m mi : Nat) (M : Mch) : Prop := ha w m 9 mi = nI (mN M) ∧ ∀ e, e < mN M → ha w m 8 (64 * mi + 8 * e) = nI (mW M e) ∧ ha w m 8 (64 * mi + 8 * e + 1) = nI (mC M e) ∧ ∀ k, k < mC M e → ha w m 8 (64 * mi + 8 * e + 2 + k) = nI (mO M e k)
def PR (m : Nat) : Nat → Nat → Prop := fun b k => b = m ∧ (k = 16 ∨ k = 20 ∨ k = 21 ∨ k = 22)
theorem RMa.fr {P : Nat → Nat → Prop} {w w' : HS} {m mi : Nat} {M : Mch} (h : RMa w m mi M) (f : Fr P w w') (n8 : ¬ P m 8) (n9 : ¬ P m 9) : RMa w' m mi M := by
  unfold RMa
  rw [f.ar n8, f.ar n9]
  exact h
theorem RK.fr {P : Nat → Nat → Prop} {w w' : HS} {m k : Nat} {b : Book} (h : RK w m k b) (f : Fr P w w') (n5 : ¬ P m 5) (n6 : ¬ P m 6) : RK w' m k b := by
  unfold RK rl
  rw [f.ar n5, f.ar n6]
  exact h
theorem RF.fr {P : Nat → Nat → Prop} {w w' : HS} {m a v : Nat} {b : Book} (h : RF w m b a v) (f : Fr P w w') (n5 : ¬ P m 5) (n6 : ¬ P m 6) (hj : ∀ j, j ≠ 0 → ha w' m 16 j = ha w m 16 j) : RF w' m b a v := by
  obtain ⟨h1, h2, h3, h4, h5⟩ := h
  refine ⟨by rw [f.c]; exact h1, by rw [hj 2 (by decide)]; exact h2, by rw [hj 3 (by decide)]; exact h3, h4, ?_⟩
  rw [hj 1 (by decide)]
  rcases h5 with h5 | ⟨k, k1, k2, k3, k4⟩
  · exact Or.inl h5
  · exact Or.inr ⟨k, k1, k2, k3.fr f n5 n6, k4⟩
/-- reference: w is reached from w0 in a run, which stands at s -/
def RS (w0 w : HS) (m B : Nat) (s : St) : Prop := Fr (PR m) w0 w ∧ (∀ j, j ≠ 0 → ha w m 16 j = ha w0 m 16 j) ∧ ha w m 16 0 = nI s.1 ∧ s.1 < 64 ∧ hi w m 20 = nI s.2.2.length ∧ hi w m 22 = nI s.2.1 ∧ s.2.2.length ≤ s.2.1 ∧ s.2.1 ≤ B ∧ ∀ k, k < s.2.2.length → k < 60 → ha w m 21 (2 * k) = nI (gt s.2.2 k).1 ∧ ha w m 21 (2 * k + 1) = nI (gt s.2.2 k).2
theorem nb_fr (w : HS) (m x : Nat) : Fr (PR m) w (nb w m x) := Fr.sA ⟨rfl, Or.inl rfl⟩
theorem ref_op {w0 w : HS} {m a v B c ad op : Nat} {b : Book} {s : St} (R : RF w0 m b a v) (S : RS w0 w m B s) (hB : B < 1000) (hm : ha w0 m 16 (4 + ad) = nI c) (had : ad < 6) (c6 : c < 6) (ho : op < 4) : Rn (FX9_opAt w m (nI ad) (nI op)) (fun _ w' => RS w0 w' m (B + 1) (stp b a v c ad op s)) := by
  obtain ⟨f, fj, hx, x6, h20, h22, hl, hb, hg⟩ := S
  have Rw : RF w m b a v := R.fr f (by unfold PR; omega) (by unfold PR; omega) fj
  have hm' : ha w m 16 (4 + ad) = nI c := by rw [fj _ (by omega)]; exact hm
  unfold FX9_opAt
  refine Rn.okc Rw.1 ?_
  by_cases h2 : op < 2
  · have est : stp b a v c ad op s = ((rAt b a v s.1 c).2, s.2.1 + 1, if (rAt b a v s.1 c).1 = op then s.2.2 else s.2.2 ++ [(s.2.1, ad)]) := by unfold stp; rw [if_pos h2]
    rw [est]
    obtain ⟨q1, q2, q3⟩ := ref_readsAt Rw hx x6 hm' had c6
    refine Rn.f (nI_ge (b := 2) h2 (by decide)) ?_
    have main : Rn (FX9_readsFor w m (nI ad) (nI op)) (fun _ w' => RS w0 w' m (B + 1) ((rAt b a v s.1 c).2, s.2.1 + 1, if (rAt b a v s.1 c).1 = op then s.2.2 else s.2.2 ++ [(s.2.1, ad)])) := by
      obtain ⟨x', hx'⟩ : ∃ x', x' = (rAt b a v s.1 c).2 := ⟨_, rfl⟩
      rw [← hx'] at q1 q2 ⊢
      have F1 := nb_fr w m x'
      have g20 : hi (nb w m x') m 20 = nI s.2.2.length := h20
      have g22 : hi (nb w m x') m 22 = nI s.2.1 := h22
      have g21 : ha (nb w m x') m 21 = ha w m 21 := nb_k _ _ _ _ (by decide)
      have gj : ∀ j, j ≠ 0 → ha (nb w m x') m 16 j = ha w0 m 16 j := fun j hj => by rw [nb_j _ _ _ hj]; exact fj j hj
      have g0 : ha (nb w m x') m 16 0 = nI x' := nb_0 _ _ _
      generalize nb w m x' = u at q1 F1 g20 g22 g21 gj g0
      unfold FX9_readsFor
      refine Rn.okc Rw.1 (Rn.eq q1 ?_)
      dsimp only
      by_cases he : (rAt b a v s.1 c).1 = op
      · refine Rn.t (by rw [he]) (Rn.bd (Rn.ret ?_))
        have F2 : Fr (PR m) u (setI u m 22 (hi u m 22 + 1)) := Fr.sI ⟨rfl, by omega⟩
        refine ⟨(f.trans F1).trans F2, gj, g0, q2, ?_, ?_, ?_, by show s.2.1 + 1 ≤ B + 1; omega, ?_⟩
        · rw [if_pos he, hi_setI, if_neg (by omega)]; exact g20
        · rw [hi_setI, if_pos ⟨rfl, rfl⟩, g22, nI_1]
        · rw [if_pos he]; show s.2.2.length ≤ s.2.1 + 1; omega
        · rw [if_pos he]
          show ∀ k, k < s.2.2.length → k < 60 → ha u m 21 (2 * k) = _ ∧ _
          rw [show ha (setI u m 22 (hi u m 22 + 1)) m 21 = ha u m 21 from rfl, g21]
          exact hg
      · refine Rn.f (fun q => he ((nI_eq (by omega) (by omega)).mp q)) ?_
        have el : (s.2.2 ++ [(s.2.1, ad)]).length = s.2.2.length + 1 := by rw [List.length_append]; rfl
        have tail : ∀ u2, Fr (PR m) u u2 → (∀ j, ha u2 m 16 j = ha u m 16 j) → hi u2 m 20 = hi u m 20 → hi u2 m 22 = hi u m 22 → (∀ k, k < s.2.2.length + 1 → k < 60 → ha u2 m 21 (2 * k) = nI (gt (s.2.2 ++ [(s.2.1, ad)]) k).1 ∧ ha u2 m 21 (2 * k + 1) = nI (gt (s.2.2 ++ [(s.2.1, ad)]) k).2) → Rn (FX9_readsFor_47 u2 m) (fun _ w' => RS w0 w' m (B + 1) (x', s.2.1 + 1, if (rAt b a v s.1 c).1 = op then s.2.2 else s.2.2 ++ [(s.2.1, ad)])) := by
          intro u2 G1 G2 G3 G4 G5
          unfold FX9_readsFor_47
          refine Rn.bd (Rn.bd (Rn.ret ?_))
          have F2 : Fr (PR m) u2 (setI u2 m 20 (hi u2 m 20 + 1)) := Fr.sI ⟨rfl, by omega⟩
          have F3 : Fr (PR m) (setI u2 m 20 (hi u2 m 20 + 1)) (setI (setI u2 m 20 (hi u2 m 20 + 1)) m 22 (hi (setI u2 m 20 (hi u2 m 20 + 1)) m 22 + 1)) := Fr.sI ⟨rfl, by omega⟩
          rw [if_neg he]
          refine ⟨(((f.trans F1).trans G1).trans F2).trans F3, fun j hj => (G2 j).trans (gj j hj), (G2 0).trans g0, q2, ?_, ?_, ?_, by show s.2.1 + 1 ≤ B + 1; omega, ?_⟩
          · rw [hi_setI, if_neg (by omega), hi_setI, if_pos ⟨rfl, rfl⟩, G3, g20, nI_1]
            show nI _ = nI (s.2.2 ++ [(s.2.1, ad)]).length
            rw [el]
          · rw [hi_setI, if_pos ⟨rfl, rfl⟩, hi_setI, if_neg (by omega), G4, g22, nI_1]
          · show (s.2.2 ++ [(s.2.1, ad)]).length ≤ s.2.1 + 1
            rw [el]; omega
          · show ∀ k, k < (s.2.2 ++ [(s.2.1, ad)]).length → k < 60 → ha u2 m 21 (2 * k) = _ ∧ ha u2 m 21 (2 * k + 1) = _
            rw [el]
            exact G5
        rw [g20]
        by_cases h60 : 60 ≤ s.2.2.length
        · refine Rn.t (nI_le h60 (by omega)) (tail u Fr.refl (fun _ => rfl) rfl rfl ?_)
          intro k k1 k2
          rw [g21, gt_old (by omega)]
          exact hg k (by omega) k2
        · have e2 : (2 : Int32) * nI s.2.2.length = nI (2 * s.2.2.length) := nI_mul 2 _
          refine Rn.f (nI_ge (b := 60) (by omega) (by decide)) ?_
          rw [e2]
          refine Rn.oki rfl (by omega) (by decide) (Rn.bd ?_)
          rw [nI_clamp (by omega)]
          obtain ⟨u1, hu1⟩ : ∃ u1, u1 = setA u m 21 (2 * s.2.2.length) (hi u m 22) := ⟨_, rfl⟩
          have i1 : hi u1 m 20 = nI s.2.2.length := by rw [hu1]; exact g20
          rw [← hu1, i1, e2, l1_, nI_add]
          refine Rn.oki rfl (by omega) (by decide) (Rn.bd ?_)
          rw [nI_clamp (by omega)]
          have F2 : Fr (PR m) u u1 := by rw [hu1]; exact Fr.sA ⟨rfl, by omega⟩
          have F3 : Fr (PR m) u1 (setA u1 m 21 (2 * s.2.2.length + 1) (nI ad)) := Fr.sA ⟨rfl, by omega⟩
          refine tail _ (F2.trans F3) ?_ ?_ ?_ ?_
          · intro j
            rw [ha_setA, if_neg (by omega), hu1, ha_setA, if_neg (by omega)]
          · rw [hi_setA, hu1, hi_setA]
          · rw [hi_setA, hu1, hi_setA]
          · intro k k1 k2
            rw [ha_setA, if_pos ⟨rfl, rfl⟩, hu1, ha_setA, if_pos ⟨rfl, rfl⟩]
            by_cases hk : k = s.2.2.length
            · subst hk
              rw [gt_new, upd_n (by omega), upd_s, upd_s, g22]
              exact ⟨rfl, rfl⟩
            · rw [upd_n (by omega), upd_n (by omega), upd_n (by omega), upd_n (by omega), gt_old (by omega), g21]
              exact hg k (by omega) k2
    exact main.call (fun _ w' h => Rn.ret h)
  · have est : stp b a v c ad op s = (wAt b a v s.1 c (op - 2), s.2.1, s.2.2) := by unfold stp; rw [if_neg h2]
    rw [est]
    obtain ⟨q1, q2⟩ := ref_writesAt (d := op - 2) Rw hx x6 hm' had c6 (by omega)
    refine Rn.t (nI_le (a := 2) (by omega) (by omega)) ?_
    rw [l2_, nI_subc (by omega)]
    refine Rn.eq q1 (Rn.ret ?_)
    refine ⟨f.trans (nb_fr w m _), fun j hj => by rw [nb_j _ _ _ hj]; exact fj j hj, nb_0 _ _ _, q2, h20, h22, hl, by show s.2.1 ≤ B + 1; omega, ?_⟩
    rw [nb_k _ _ _ _ (by decide)]
    exact hg
theorem ix_el (mi e f : Nat) : ((64 : Int32) * nI mi + (8 : Int32) * nI e) + nI f = nI (64 * mi + 8 * e + f) := by
  rw [show (64 : Int32) = nI 64 from rfl, show (8 : Int32) = nI 8 from rfl, nI_mul, nI_mul, nI_add, nI_add]
theorem ref_el {w : HS} {m mi e f : Nat} (h : hc w m = 9) (hi7 : mi < 7) (he : e < 8) (hf : f < 8) : FX9_elementAt w m (nI mi) (nI e) (nI f) = some (ha w m 8 (64 * mi + 8 * e + f), w) := by
  unfold FX9_elementAt
  rw [ix_el, nI_clamp (by omega)]
  exact E_c h (E_i rfl (by omega) (by decide) rfl)
theorem RS.mono {w0 w : HS} {m B B' : Nat} {s : St} (h : RS w0 w m B s) (hb : B ≤ B') : RS w0 w m B' s := ⟨h.1, h.2.1, h.2.2.1, h.2.2.2.1, h.2.2.2.2.1, h.2.2.2.2.2.1, h.2.2.2.2.2.2.1, Nat.le_trans h.2.2.2.2.2.2.2.1 hb, h.2.2.2.2.2.2.2.2⟩
section RG
variable {w0 : HS} {m mi a v N e kp : Nat} {b : Book} {M : Mch} {mp : Nat → Nat} {dn : Bool} {vch van vway : Int32} {k15 : HS → Nat → Int32 → Int32 → Int32 → Int32 → Option (Unit × HS)} {k55 : HS → Nat → Int32 → Int32 → Int32 → Int32 → Int32 → Int32 → Option (Unit × HS)} {Q : Unit → HS → Prop}
theorem ref_vis (R : RF w0 m b a v) (hM : WM M) (T : RMa w0 m mi M) (h7 : mi < 7) (he : e < mN M) (hN : hi w0 m 15 = nI N) (hN6 : N ≤ 6) (hmp : ∀ i, i < N → ha w0 m 16 (4 + i) = nI (mp i) ∧ mp i < 6) (hk : kp < N) (hw : vway = 0 ↔ dn = false) :
    ∀ d i n B s w, i + d = mC M e → d < n → B + d ≤ 1000 → RS w0 w m B s → (∀ w', RS w0 w' m (B + d) (itf (fun k => stp b a v (mp (adr N dn kp)) (adr N dn kp) (mO M e k)) i d s) → Rn (k55 w' m (nI mi) vch van (nI e) vway (nI (kp + 1))) Q) → Rn (FX9_goesThrough_67 k15 k55 n w m (nI mi) vch van (nI e) vway (nI kp) (nI i)) Q := by
  have hM8 := hM.2.1
  obtain ⟨_, _, C6, hop⟩ := hM.2.2.2 e he
  obtain ⟨_, tc, to⟩ := T.2 e he
  intro d
  induction d with
  | zero =>
    intro i n B s w hi0 hn hB S K
    obtain ⟨n, rfl⟩ : ∃ q, n = q + 1 := ⟨n - 1, by omega⟩
    have hc9 : hc w m = 9 := by rw [S.1.c]; exact R.1
    rw [FX9_goesThrough_67]
    refine Rn.eq (ref_el (f := 1) hc9 h7 (by omega) (by decide)) ?_
    dsimp only
    rw [S.1.ar (by unfold PR; omega), tc, nI_1 kp]
    exact Rn.t (nI_le (by omega) (by omega)) (K w S)
  | succ d ih =>
    intro i n B s w hi0 hn hB S K
    obtain ⟨n, rfl⟩ : ∃ q, n = q + 1 := ⟨n - 1, by omega⟩
    have hc9 : hc w m = 9 := by rw [S.1.c]; exact R.1
    have al : adr N dn kp < N := adr_lt hk
    obtain ⟨m1, m2⟩ := hmp _ al
    have fin : Rn (FX9_goesThrough_100 k15 k55 (FX9_goesThrough_67 k15 k55 n) w m (nI mi) vch van (nI e) vway (nI kp) (nI i) (nI (adr N dn kp)) m) Q := by
      unfold FX9_goesThrough_100
      rw [show (2 : Int32) + nI i = nI (2 + i) from nI_add 2 i, nI_1 i]
      refine Rn.eq (ref_el (f := 2 + i) hc9 h7 (by omega) (by omega)) ?_
      dsimp only
      rw [S.1.ar (by unfold PR; omega), show 64 * mi + 8 * e + (2 + i) = 64 * mi + 8 * e + 2 + i from by omega, to i (by omega)]
      refine (ref_op R S (by omega) m1 (by omega) m2 (hop i (by omega)).1).call ?_
      intro _ w1 S1
      refine ih (i + 1) n (B + 1) _ w1 (by omega) (by omega) (by omega) S1 ?_
      intro w' S'
      rw [show B + 1 + d = B + (d + 1) from by omega] at S'
      exact K w' S'
    rw [FX9_goesThrough_67]
    refine Rn.eq (ref_el (f := 1) hc9 h7 (by omega) (by decide)) ?_
    dsimp only
    rw [S.1.ar (by unfold PR; omega), tc]
    refine Rn.f (nI_ge (by omega) (by omega)) ?_
    by_cases hd : vway = 0
    · refine Rn.t hd ?_
      have e1 : adr N dn kp = kp := by unfold adr; rw [if_neg (by rw [hw.mp hd]; decide)]
      rw [e1] at fin
      exact fin
    · refine Rn.f hd ?_
      have e1 : adr N dn kp = N - 1 - kp := by unfold adr; rw [if_pos (by cases hb : dn with | true => rfl | false => exact absurd (hw.mpr hb) hd)]
      rw [e1] at fin
      rw [S.1.i (by unfold PR; omega), hN, l1_, nI_subc (by omega), nI_subc (by omega)]
      exact fin
theorem ref_elm (R : RF w0 m b a v) (hM : WM M) (T : RMa w0 m mi M) (h7 : mi < 7) (he : e < mN M) (hN : hi w0 m 15 = nI N) (hN6 : N ≤ 6) (hmp : ∀ i, i < N → ha w0 m 16 (4 + i) = nI (mp i) ∧ mp i < 6) (hw : vway = 0 ↔ dn = false) :
    ∀ d i n B s w, i + d = N → d < n → B + 6 * d ≤ 1000 → RS w0 w m B s → (∀ w', RS w0 w' m (B + 6 * d) (itf (fun i s => visS b a v M e (mp (adr N dn i)) (adr N dn i) s) i d s) → Rn (k15 w' m (nI mi) vch van (nI (e + 1))) Q) → Rn (FX9_goesThrough_55 k15 n w m (nI mi) vch van (nI e) vway (nI i)) Q := by
  have C6 := (hM.2.2.2 e he).2.2.1
  intro d
  induction d with
  | zero =>
    intro i n B s w hi0 hn hB S K
    obtain ⟨n, rfl⟩ : ∃ q, n = q + 1 := ⟨n - 1, by omega⟩
    rw [FX9_goesThrough_55, S.1.i (by unfold PR; omega), hN, nI_1 e]
    exact Rn.t (nI_le (by omega) (by omega)) (K w S)
  | succ d ih =>
    intro i n B s w hi0 hn hB S K
    obtain ⟨n, rfl⟩ : ∃ q, n = q + 1 := ⟨n - 1, by omega⟩
    rw [FX9_goesThrough_55, S.1.i (by unfold PR; omega), hN]
    refine Rn.f (nI_ge (by omega) (by omega)) ?_
    refine ref_vis (dn := dn) (kp := i) R hM T h7 he hN hN6 hmp (by omega) hw (mC M e) 0 FUEL B s w (by omega) (fuel_lt (by omega)) (by omega) S ?_
    intro w' S'
    refine ih (i + 1) n (B + 6) _ w' (by omega) (by omega) (by omega) (S'.mono (by omega)) ?_
    intro w2 S2
    exact K w2 (S2.mono (by omega))
end RG
theorem bt_ch : ∀ ch, ch < 8 → ∀ k, k < 4 → ((nI ch >>> (nI k &&& 31)) &&& (1 : Int32)) = nI (bt ch k) := by decide +kernel
theorem aM_le (M : Mch) : ∀ d e, aM M e ≤ aM M (e + d) := by
  intro d
  induction d with
  | zero => intro e; exact Nat.le_refl _
  | succ d ih =>
    intro e
    have := ih e
    show aM M e ≤ aM M (e + d) + _
    omega
theorem ref_run {w0 : HS} {m mi a v N ch : Nat} {b : Book} {M : Mch} {mp : Nat → Nat} {Q : Unit → HS → Prop} (R : RF w0 m b a v) (hM : WM M) (T : RMa w0 m mi M) (h7 : mi < 7) (hN : hi w0 m 15 = nI N) (hN6 : N ≤ 6) (hmp : ∀ i, i < N → ha w0 m 16 (4 + i) = nI (mp i) ∧ mp i < 6) (hch : ch < 8) :
    ∀ d e n B s w, e + d = mN M → d < n → B + 36 * d ≤ 1000 → RS w0 w m B s → (∀ w', RS w0 w' m (B + 36 * d) (itf (fun e s => elmS b a v N mp M e (dwn M ch e) s) e d s) → Q () w') → Rn (FX9_goesThrough_15 n w m (nI mi) (nI ch) (nI (aM M e)) (nI e)) Q := by
  have hM8 := hM.2.1
  intro d
  induction d with
  | zero =>
    intro e n B s w he hn hB S K
    obtain ⟨n, rfl⟩ : ∃ q, n = q + 1 := ⟨n - 1, by omega⟩
    rw [FX9_goesThrough_15, nI_clamp (by omega), S.1.ar (by unfold PR; omega), T.1]
    exact Rn.oki rfl h7 (by decide) (Rn.t (nI_le (by omega) (by omega)) (Rn.ret (K w S)))
  | succ d ih =>
    intro e n B s w he hn hB S K
    obtain ⟨n, rfl⟩ : ∃ q, n = q + 1 := ⟨n - 1, by omega⟩
    have hc9 : hc w m = 9 := by rw [S.1.c]; exact R.1
    obtain ⟨W3, _⟩ := hM.2.2.2 e (by omega)
    have am : aM M (e + 1) ≤ 3 := by
      have := aM_le M d (e + 1)
      rw [show e + 1 + d = mN M from by omega] at this
      exact Nat.le_trans this hM.2.2.1
    have ea : aM M (e + 1) = aM M e + if mW M e = 2 then 1 else 0 := rfl
    have nx : ∀ w', RS w0 w' m (B + 6 * N) (elmS b a v N mp M e (dwn M ch e) s) → Rn (FX9_goesThrough_15 n w' m (nI mi) (nI ch) (nI (aM M (e + 1))) (nI (e + 1))) Q := by
      intro w' S'
      refine ih (e + 1) n (B + 36) _ w' (by omega) (by omega) (by omega) (S'.mono (by omega)) ?_
      intro w2 S2
      exact K w2 (S2.mono (by omega))
    rw [FX9_goesThrough_15, nI_clamp (by omega), S.1.ar (by unfold PR; omega), T.1]
    refine Rn.oki rfl h7 (by decide) (Rn.f (nI_ge (by omega) (by omega)) ?_)
    refine Rn.eq (ref_el (f := 0) hc9 h7 (by omega) (by decide)) ?_
    dsimp only
    rw [Nat.add_zero, S.1.ar (by unfold PR; omega), (T.2 e (by omega)).1]
    unfold FX9_goesThrough_52
    by_cases h2 : mW M e = 2
    · rw [if_pos h2] at ea
      refine Rn.t (by rw [h2]; rfl) ?_
      have bl := bt_lt ch (aM M e)
      rw [bt_ch ch hch (aM M e) (by omega), nI_1 (aM M e), ← ea]
      refine ref_elm (dn := dwn M ch e) R hM T h7 (by omega) hN hN6 hmp ?_ N 0 FUEL B s w (by omega) (fuel_lt (by omega)) (by omega) S nx
      unfold dwn
      rw [if_pos h2, decide_eq_false_iff_not]
      constructor
      · intro q
        have := (nI_eq (a := bt ch (aM M e)) (b := 0) (by omega) (by omega)).mp q
        omega
      · intro q
        rw [show bt ch (aM M e) = 0 from by omega]
        rfl
    · rw [if_neg h2] at ea
      refine Rn.f (fun q => h2 ((nI_eq (a := mW M e) (b := 2) (by omega) (by omega)).mp q)) ?_
      have ea' : aM M (e + 1) = aM M e := ea
      rw [← ea']
      refine ref_elm (dn := dwn M ch e) R hM T h7 (by omega) hN hN6 hmp ?_ N 0 FUEL B s w (by omega) (fuel_lt (by omega)) (by omega) S nx
      unfold dwn
      rw [if_neg h2, decide_eq_false_iff_not]
      constructor
      · intro q
        have := (nI_eq (a := mW M e) (b := 0) (by omega) (by omega)).mp q
        omega
      · intro q
        rw [show mW M e = 0 from by omega]
        rfl
theorem ref_goes {w : HS} {m mi a v N ch x : Nat} {b : Book} {M : Mch} {mp : Nat → Nat} (R : RF w m b a v) (hx : ha w m 16 0 = nI x) (x6 : x < 64) (hM : WM M) (T : RMa w m mi M) (h7 : mi < 7) (hN : hi w m 15 = nI N) (hN6 : N ≤ 6) (hmp : ∀ i, i < N → ha w m 16 (4 + i) = nI (mp i) ∧ mp i < 6) (hch : ch < 8) : Rn (FX9_goesThrough w m (nI mi) (nI ch)) (fun _ w' => RS w w' m 999 (runS b a v N mp M ch (x, 0, []))) := by
  have hM8 := hM.2.1
  unfold FX9_goesThrough
  refine Rn.okc R.1 (Rn.bd (Rn.bd ?_))
  have F1 : Fr (PR m) w (setI w m 20 0) := Fr.sI ⟨rfl, by omega⟩
  have F2 : Fr (PR m) (setI w m 20 0) (setI (setI w m 20 0) m 22 0) := Fr.sI ⟨rfl, by omega⟩
  refine ref_run R hM T h7 hN hN6 hmp hch (mN M) 0 FUEL 0 (x, 0, []) _ (by omega) (fuel_lt (by omega)) (by omega) ⟨F1.trans F2, fun _ _ => rfl, hx, x6, ?_, ?_, Nat.le_refl _, Nat.le_refl _, fun k hk => (by cases hk)⟩ ?_
  · rw [hi_setI, if_neg (by omega), hi_setI, if_pos ⟨rfl, rfl⟩]; rfl
  · rw [hi_setI, if_pos ⟨rfl, rfl⟩]; rfl
  · intro w' S'
    exact S'.mono (by omega)
