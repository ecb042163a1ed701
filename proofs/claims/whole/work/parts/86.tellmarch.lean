/-! What is told of marches and elements. -/
/-- class: what a march counts -/
def CXt (w : HS) (x mn : Nat) (MM : Nat → Mch) : Prop := ∀ k, k < mn → ∀ p, hq w x 3 k = some p → hi w p 1 = nI (tO (MM k) (mN (MM k))) ∧ hi w p 2 = nI (tR (MM k) (mN (MM k))) ∧ hi w p 4 = oI (sM (MM k) (mN (MM k)))
def RXt (w : HS) (m mn : Nat) (MM : Nat → Mch) : Prop := ∀ k, k < mn → ha w m 10 k = oI (sM (MM k) (mN (MM k)))
section TM
variable {w : HS} {x r q m kn mn N : Nat} {B : Nat → Book} {MM : Nat → Mch} {mp ad : Nat → Nat}
/-- reference: the ops of an element are counted -/
theorem om_ops {mi e : Nat} {M : Mch} {k30 : HS → Nat → Int32 → Int32 → Int32 → Int32 → Int32 → Option (Int32 × HS)} {v2 v3 : Int32} (h9 : hc w m = 9) (T : RMa w m mi M) (h7 : mi < 7) (hM : WM M) (he : e < mN M) : ∀ d i n s, i + d = mC M e → d < n → FX9_ofMarch_55 k30 n w m (nI mi) v2 v3 (nI (s + rE M e i)) (nI e) (nI i) = k30 w m (nI mi) v2 v3 (nI (s + rdE M e)) (nI (e + 1)) := by
  have M8 := hM.2.1
  obtain ⟨_, _, C6, hop⟩ := hM.2.2.2 e he
  obtain ⟨_, tc, to⟩ := T.2 e he
  have el1 : FX9_elementAt w m (nI mi) (nI e) 1 = some (nI (mC M e), w) := by
    have := ref_el (w := w) (f := 1) h9 h7 (show e < 8 by omega) (by decide)
    rw [tc] at this
    exact this
  intro d
  induction d with
  | zero =>
    intro i n s he' hn
    obtain ⟨n, rfl⟩ : ∃ z, n = z + 1 := ⟨n - 1, by omega⟩
    rw [FX9_ofMarch_55]
    refine E_b el1 (E_t (nI_le (by omega) (by omega)) ?_)
    dsimp only
    rw [nI_1, show i = mC M e from by omega]
    rfl
  | succ d ih =>
    intro i n s he' hn
    obtain ⟨n, rfl⟩ : ∃ z, n = z + 1 := ⟨n - 1, by omega⟩
    have o4 := (hop i (by omega)).1
    have ei : FX9_elementAt w m (nI mi) (nI e) (2 + nI i) = some (nI (mO M e i), w) := by
      have := ref_el (w := w) (f := 2 + i) h9 h7 (show e < 8 by omega) (by omega)
      rw [show 64 * mi + 8 * e + (2 + i) = 64 * mi + 8 * e + 2 + i from by omega, to i (by omega)] at this
      rw [l2_, nI_add]
      exact this
    rw [FX9_ofMarch_55]
    refine E_b el1 (E_f (nI_ge (by omega) (by omega)) (E_b ei ?_))
    dsimp only
    unfold FX9_ofMarch_90
    have nx := ih (i + 1) n s (by omega) (by omega)
    have er : rE M e (i + 1) = rE M e i + if mO M e i < 2 then 1 else 0 := rfl
    by_cases h2 : mO M e i < 2
    · rw [if_pos h2] at er
      refine E_f (nI_ge (b := 2) h2 (by decide)) ?_
      rw [nI_1, nI_1, show s + rE M e i + 1 = s + rE M e (i + 1) from by omega]
      exact nx
    · rw [if_neg h2] at er
      refine E_t (nI_le (a := 2) (by omega) (by omega)) ?_
      rw [l0_, nI_add, nI_1, show s + rE M e i + 0 = s + rE M e (i + 1) from by omega]
      exact nx
theorem om_els {mi j : Nat} {M : Mch} (h9 : hc w m = 9) (T : RMa w m mi M) (t10 : ha w m 10 mi = oI (sM M (mN M))) (h7 : mi < 7) (hM : WM M) (j4 : j ≤ 4) : ∀ d e n, e + d = mN M → d < n → FX9_ofMarch_30 n w m (nI mi) (nI j) (nI (tO M e)) (nI (tR M e)) (nI e) = some (if j = 0 then nI (mN M) else if j = 1 then nI (tO M (mN M)) else if j = 2 then nI (tR M (mN M)) else if j = 3 then nI (aM M (mN M)) else oI (sM M (mN M)), w) := by
  have M8 := hM.2.1
  intro d
  induction d with
  | zero =>
    intro e n he hn
    obtain ⟨n, rfl⟩ : ∃ z, n = z + 1 := ⟨n - 1, by omega⟩
    rw [FX9_ofMarch_30, nI_clamp (by omega), T.1]
    refine E_i rfl h7 (by decide) (E_t (nI_le (by omega) (by omega)) ?_)
    rw [show e = mN M from by omega]
    have j5 : j = 0 ∨ j = 1 ∨ j = 2 ∨ j = 3 ∨ j = 4 := by omega
    rcases j5 with rfl | rfl | rfl | rfl | rfl
    · exact E_t rfl (E_i rfl h7 (by decide) rfl)
    · exact E_f (by decide) (E_t rfl rfl)
    · exact E_f (by decide) (E_f (by decide) (E_t rfl rfl))
    · exact E_f (by decide) (E_f (by decide) (E_f (by decide) (E_t rfl (E_b (ref_anys h9 T h7 hM) rfl))))
    · refine E_f (by decide) (E_f (by decide) (E_f (by decide) (E_f (by decide) (E_i rfl h7 (by decide) ?_))))
      rw [t10]
      rfl
  | succ d ih =>
    intro e n he hn
    obtain ⟨n, rfl⟩ : ∃ z, n = z + 1 := ⟨n - 1, by omega⟩
    have W := hM.2.2.2 e (by omega)
    have el1 : FX9_elementAt w m (nI mi) (nI e) 1 = some (nI (mC M e), w) := by
      have := ref_el (w := w) (f := 1) h9 h7 (show e < 8 by omega) (by decide)
      rw [(T.2 e (by omega)).2.1] at this
      exact this
    rw [FX9_ofMarch_30, nI_clamp (by omega), T.1]
    refine E_i rfl h7 (by decide) (E_f (nI_ge (by omega) (by omega)) (E_b el1 ?_))
    dsimp only
    rw [nI_add]
    have := om_ops (k30 := FX9_ofMarch_30 n) (v2 := nI j) (v3 := nI (tO M e + mC M e)) h9 T h7 hM (show e < mN M by omega) (mC M e) 0 FUEL (tR M e) (by omega) (fuel_lt (by omega))
    refine Eq.trans this ?_
    exact ih (e + 1) n (by omega) (by omega)
theorem of_march (C : CX w x r kn mn B MM) (R : RX w m kn mn B MM N mp) (Ct : CXt w x mn MM) (Rt : RXt w m mn MM) (u0 u1 : Int32) : Pur w (FX8_ofMarch w x u0 u1) (FX9_ofMarch w m u0 u1) := by
  have mn6 := C.2.2.2.2.2.2.1
  rcases idx (u := u0) (n := mn) (by omega) with h | ⟨k, hk, rfl⟩
  · refine ⟨-1, ?_, ?_⟩
    · unfold FX8_ofMarch
      exact E_c C.1 (E_b (cx_nomarch C h) rfl)
    · unfold FX9_ofMarch
      exact E_c R.1 (E_b (rx_nomarch R h) (E_t rfl rfl))
  · obtain ⟨p, e1, K, W, hq⟩ := cx_march C hk
    obtain ⟨t1, t2, t4⟩ := Ct k hk p hq
    have T := (R.2.2.2.2.2.2.1 k hk).1
    have e2 := rx_march R hk
    have c8 : ∀ z, (if u1 = 0 then (okb (hc w p == 2) (some ((hi w p 0), w))) else (if u1 = 1 then (okb (hc w p == 2) (some ((hi w p 1), w))) else (if u1 = 2 then (okb (hc w p == 2) (some ((hi w p 2), w))) else (if u1 = 3 then (okb (hc w p == 2) (some ((hi w p 3), w))) else (if u1 = 4 then (okb (hc w p == 2) (some ((hi w p 4), w))) else (some ((-1 : Int32), w))))))) = z → FX8_ofMarch w x (nI k) u1 = z := by
      intro z hz
      unfold FX8_ofMarch
      exact E_c C.1 (E_b e1 hz)
    rcases isin_c w u1 4 (a := 0) (b := 4) (by decide) (by decide) (by decide) with ⟨j, hj, rfl, ei⟩ | ⟨hu, ei⟩
    · refine ⟨(if j = 0 then nI (mN (MM k)) else if j = 1 then nI (tO (MM k) (mN (MM k))) else if j = 2 then nI (tR (MM k) (mN (MM k))) else if j = 3 then nI (aM (MM k) (mN (MM k))) else oI (sM (MM k) (mN (MM k)))), c8 _ ?_, ?_⟩
      · have j5 : j = 0 ∨ j = 1 ∨ j = 2 ∨ j = 3 ∨ j = 4 := by omega
        rcases j5 with rfl | rfl | rfl | rfl | rfl
        · exact E_t rfl (E_c K.1 (by rw [K.2.1]; rfl))
        · exact E_f (by decide) (E_t rfl (E_c K.1 (by rw [t1]; rfl)))
        · exact E_f (by decide) (E_f (by decide) (E_t rfl (E_c K.1 (by rw [t2]; rfl))))
        · exact E_f (by decide) (E_f (by decide) (E_f (by decide) (E_t rfl (E_c K.1 (by rw [K.2.2.1]; rfl)))))
        · exact E_f (by decide) (E_f (by decide) (E_f (by decide) (E_f (by decide) (E_t rfl (E_c K.1 (by rw [t4]; rfl))))))
      · unfold FX9_ofMarch
        exact E_c R.1 (E_b e2 (E_f i10 (E_b ei (E_f i10 (om_els R.1 T (Rt k hk) (by omega) W hj (mN (MM k)) 0 FUEL (by omega) (fuel_lt (by have := W.2.1; omega)))))))
    · refine ⟨-1, c8 _ (E_f (ne_c (j := 0) hu (by decide) (by decide)) (E_f (ne_c (j := 1) hu (by decide) (by decide)) (E_f (ne_c (j := 2) hu (by decide) (by decide)) (E_f (ne_c (j := 3) hu (by decide) (by decide)) (E_f (ne_c (j := 4) hu (by decide) (by decide)) rfl))))), ?_⟩
      unfold FX9_ofMarch
      exact E_c R.1 (E_b e2 (E_f i10 (E_b ei (E_t rfl rfl))))
theorem of_el (C : CX w x r kn mn B MM) (R : RX w m kn mn B MM N mp) (u0 u1 u2 : Int32) : Pur w (FX8_element w x u0 u1 u2) (FX9_element w m u0 u1 u2) := by
  have mn6 := C.2.2.2.2.2.2.1
  rcases idx (u := u0) (n := mn) (by omega) with h | ⟨k, hk, rfl⟩
  · refine ⟨-1, ?_, ?_⟩
    · unfold FX8_element
      exact E_c C.1 (E_b (cx_nomarch C h) rfl)
    · unfold FX9_element
      exact E_c R.1 (E_b (rx_nomarch R h) (E_t rfl rfl))
  · obtain ⟨p, e1, K, W, hq⟩ := cx_march C hk
    have T := (R.2.2.2.2.2.2.1 k hk).1
    have e2 := rx_march R hk
    obtain ⟨w0, w8, _, WE⟩ := id W
    have s1 : (nI (mN (MM k)) - 1 : Int32) = nI (mN (MM k) - 1) := by rw [l1_, nI_subc (by omega)]
    have c9 : ∀ z, ((FX9_isIn w u1.toInt64 (0 : Int64) (nI (mN (MM k) - 1)).toInt64).bind fun q7 => (if q7.1 = 0 then (some ((-1 : Int32), q7.2)) else ((FX9_isIn q7.2 u2.toInt64 (0 : Int64) (7 : Int64)).bind fun q12 => (if q12.1 = 0 then (some ((-1 : Int32), q12.2)) else (if u2 ≤ (1 : Int32) then (FX9_element_58 q12.2 m (nI k) u1 u2) else ((FX9_elementAt q12.2 m (nI k) u1 (1 : Int32)).bind fun q18 => (if (u2 - (2 : Int32)) < q18.1 then (FX9_element_58 q18.2 m (nI k) u1 u2) else (some ((-1 : Int32), q18.2))))))))) = z → FX9_element w m (nI k) u1 u2 = z := by
      intro z hz
      unfold FX9_element
      refine E_c R.1 (E_b e2 (E_f i10 (E_i rfl (by omega) (by decide) ?_)))
      dsimp only
      rw [nI_clamp (by omega), T.1, s1]
      exact hz
    have c8 : ∀ z, (if u1 < 0 then (some ((-1 : Int32), w)) else (okb (hc w p == 2) (if u1 < (hi w p 0) then (if u2 = 0 then ((FX2_wayOf w p u1).bind fun q11 => (some ((if (2 : Int32) < q11.1 then (2 : Int32) else q11.1), q11.2))) else (if u2 = (1 : Int32) then ((FX2_opsOf w p u1).bind fun q16 => (some (q16.1, q16.2))) else (if u2 < (2 : Int32) then (some ((-1 : Int32), w)) else ((FX2_opsOf w p u1).bind fun q21 => (if u2 < ((2 : Int32) + q21.1) then ((FX2_opAt q21.2 p u1 (u2 - (2 : Int32))).bind fun q26 => (some (q26.1, q26.2))) else (some ((-1 : Int32), q21.2))))))) else (some ((-1 : Int32), w))))) = z → FX8_element w x (nI k) u1 u2 = z := by
      intro z hz
      unfold FX8_element
      exact E_c C.1 (E_b e1 hz)
    rcases isin_c w u1 (mN (MM k) - 1) (a := 0) (by decide) rfl (by omega) with ⟨e, he, rfl, ei⟩ | ⟨hu, ei⟩
    · obtain ⟨W3, C0, C6, hop⟩ := WE e (by omega)
      obtain ⟨ta, tc, to⟩ := T.2 e (by omega)
      have ops := cm_ops K W (show e < mN (MM k) by omega)
      have way := cm_way K W (show e < mN (MM k) by omega)
      have u1p : ¬ nI e < 0 := nI_pos (by omega)
      have u1l : nI e < hi w p 0 := by rw [K.2.1]; exact nI_lt (by omega) (by omega)
      have el : ∀ f, f < 8 → FX9_element_58 w m (nI k) (nI e) (nI f) = some (ha w m 8 (64 * k + 8 * e + f), w) := by
        intro f hf
        unfold FX9_element_58
        exact E_b (ref_el R.1 (by omega) (by omega) hf) rfl
      have el1 : FX9_elementAt w m (nI k) (nI e) 1 = some (nI (mC (MM k) e), w) := by
        have := ref_el (w := w) (f := 1) R.1 (show k < 7 by omega) (show e < 8 by omega) (by decide)
        rw [tc] at this
        exact this
      rcases isin_c w u2 7 (a := 0) (b := 7) (by decide) (by decide) (by decide) with ⟨f, hf, rfl, ej⟩ | ⟨hv, ej⟩
      · by_cases f0 : f = 0
        · subst f0
          refine ⟨nI (mW (MM k) e), c8 _ (E_f u1p (E_c K.1 (E_t u1l (E_t rfl (E_b way ?_))))), c9 _ (E_b ei (E_f i10 (E_b ej (E_f i10 (E_t (by decide) ?_)))))⟩
          · dsimp only
            have a3 : wyC (MM k) e < 2 ^ 31 := by
              unfold wyC
              have := aM_le (MM k) (mN (MM k) - e) e
              rw [show e + (mN (MM k) - e) = mN (MM k) from by omega] at this
              have := W.2.2.1
              split <;> omega
            have : (if (2 : Int32) < nI (wyC (MM k) e) then (2 : Int32) else nI (wyC (MM k) e)) = nI (mW (MM k) e) := by
              unfold wyC at a3 ⊢
              by_cases v2 : mW (MM k) e = 2
              · rw [if_pos v2] at a3 ⊢
                rw [v2]
                by_cases z : aM (MM k) e = 0
                · rw [z]; rfl
                · rw [l2_, if_pos (nI_lt (a := 2) (b := 2 + aM (MM k) e) (by omega) a3)]
              · rw [if_neg v2] at a3 ⊢
                rw [l2_, if_neg (nI_nlt (b := mW (MM k) e) (a := 2) (by omega) (by decide))]
            rw [this]
          · have := el 0 (by decide)
            rw [Nat.add_zero, ta] at this
            exact this
        · by_cases f1 : f = 1
          · subst f1
            refine ⟨nI (mC (MM k) e), c8 _ (E_f u1p (E_c K.1 (E_t u1l (E_f (by decide) (E_t rfl (E_b ops rfl)))))), c9 _ (E_b ei (E_f i10 (E_b ej (E_f i10 (E_t (by decide) ?_)))))⟩
            have := el 1 (by decide)
            rw [tc] at this
            exact this
          · have nn0 : ¬ nI f = 0 := nI_ne0 (by omega) (by omega)
            have nn1 : ¬ nI f = 1 := fun z => f1 ((nI_eq (a := f) (b := 1) (by omega) (by decide)).mp z)
            have nn2 : ¬ nI f < 2 := nI_nlt (b := 2) (by omega) (by omega)
            have nn3 : ¬ nI f ≤ 1 := nI_ge (a := 1) (b := f) (by omega) (by omega)
            have s2 : (nI f - 2 : Int32) = nI (f - 2) := by rw [l2_, nI_subc (by omega)]
            by_cases fc : f < 2 + mC (MM k) e
            · refine ⟨nI (mO (MM k) e (f - 2)), c8 _ (E_f u1p (E_c K.1 (E_t u1l (E_f nn0 (E_f nn1 (E_f nn2 (E_b ops (E_t ?_ ?_)))))))), c9 _ (E_b ei (E_f i10 (E_b ej (E_f i10 (E_f nn3 (E_b el1 (E_t ?_ ?_)))))))⟩
              · show nI f < 2 + nI (mC (MM k) e)
                rw [l2_, nI_add]
                exact nI_lt fc (by omega)
              · dsimp only
                rw [s2]
                exact E_b (cm_op K W (show e < mN (MM k) by omega) (by omega)) rfl
              · show nI f - 2 < nI (mC (MM k) e)
                rw [s2]
                exact nI_lt (by omega) (by omega)
              · have := el f (by omega)
                have t2 := to (f - 2) (by omega)
                rw [show 64 * k + 8 * e + 2 + (f - 2) = 64 * k + 8 * e + f from by omega] at t2
                rw [t2] at this
                exact this
            · refine ⟨-1, c8 _ (E_f u1p (E_c K.1 (E_t u1l (E_f nn0 (E_f nn1 (E_f nn2 (E_b ops (E_f ?_ rfl)))))))), c9 _ (E_b ei (E_f i10 (E_b ej (E_f i10 (E_f nn3 (E_b el1 (E_f ?_ rfl)))))))⟩
              · show ¬ nI f < 2 + nI (mC (MM k) e)
                rw [l2_, nI_add]
                exact nI_nlt (by omega) (by omega)
              · show ¬ nI f - 2 < nI (mC (MM k) e)
                rw [s2]
                exact nI_nlt (by omega) (by omega)
      · refine ⟨-1, c8 _ (E_f u1p (E_c K.1 (E_t u1l (E_f (ne_c (j := 0) hv (by decide) (by decide)) (E_f (ne_c (j := 1) hv (by decide) (by decide)) ?_))))), c9 _ (E_b ei (E_f i10 (E_b ej (E_t rfl rfl))))⟩
        by_cases v2 : u2 < 2
        · exact E_t v2 rfl
        · refine E_f v2 (E_b ops (E_f ?_ rfl))
          show ¬ u2 < 2 + nI (mC (MM k) e)
          have v0 : ¬ u2 < 0 := fun z => v2 (Int32.lt_trans z (by decide))
          obtain ⟨j, j1, rfl⟩ := nI_of v0
          have : ¬ j < 8 := by
            intro z
            rcases hv with hv | hv
            · exact v0 hv
            · exact nI_ge z (by decide) hv
          rw [l2_, nI_add]
          exact nI_nlt (by omega) j1
    · refine ⟨-1, c8 _ ?_, c9 _ (E_b ei (E_t rfl rfl))⟩
      by_cases h0 : u1 < 0
      · exact E_t h0 rfl
      · refine E_f h0 (E_c K.1 (E_f ?_ rfl))
        rw [K.2.1]
        rw [show mN (MM k) - 1 + 1 = mN (MM k) from by omega] at hu
        obtain ⟨j, j1, rfl⟩ := nI_of h0
        refine nI_nlt ?_ j1
        have : ¬ j < mN (MM k) := fun z => nI_ge z (by omega) (hu.resolve_left h0)
        omega
end TM
