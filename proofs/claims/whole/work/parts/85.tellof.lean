/-! What is told of kinds, marches, elements. -/
/-- both answer the same and change nothing -/
def Pur (w : HS) (f8 f9 : Option (Int32 × HS)) : Prop := ∃ z, f8 = some (z, w) ∧ f9 = some (z, w)
theorem isin_c (w : HS) (u : Int32) (n : Nat) {a b : Int64} (h0 : (0 : Int32).toInt64 = a) (h : (nI n).toInt64 = b) (hn : n < 2 ^ 31 - 1) : (∃ k, k ≤ n ∧ u = nI k ∧ FX9_isIn w u.toInt64 a b = some (1, w)) ∨ ((u < 0 ∨ nI (n + 1) ≤ u) ∧ FX9_isIn w u.toInt64 a b = some (0, w)) := by
  have e := is_in w u 0 (nI n)
  rw [h0, h] at e
  rcases idx (u := u) (n := n + 1) (by omega) with q | ⟨k, hk, rfl⟩
  · refine Or.inr ⟨q, ?_⟩
    rw [e]
    have : u < 0 ∨ nI n < u := by
      rcases q with q | q
      · exact Or.inl q
      · by_cases h0 : u < 0
        · exact Or.inl h0
        · obtain ⟨j, j1, rfl⟩ := nI_of h0
          refine Or.inr (nI_lt ?_ j1)
          have : ¬ j < n + 1 := fun z => nI_ge z (by omega) q
          omega
    rw [if_pos this]
  · refine Or.inl ⟨k, by omega, rfl, ?_⟩
    rw [e, if_neg]
    intro q
    rcases q with q | q
    · exact nI_pos (by omega) q
    · exact nI_nlt (show k ≤ n by omega) (by omega) q
theorem ne_c {u : Int32} {n j : Nat} (h : u < 0 ∨ nI n ≤ u) (hj : j < n) (hn : n < 2 ^ 31) : ¬ u = nI j := by
  rintro rfl
  rcases h with h | h
  · exact nI_pos (by omega) h
  · exact nI_ge hj hn h
section TO
variable {w : HS} {x r q m kn mn N : Nat} {B : Nat → Book} {MM : Nat → Mch} {mp ad : Nat → Nat}
theorem of_kind (C : CX w x r kn mn B MM) (R : RX w m kn mn B MM N mp) (L : LVq w x q N mp ad) (u0 u1 : Int32) : Pur w (FX8_ofKind w x u0 u1) (FX9_ofKind w m u0 u1) := by
  have kn8 := C.2.2.2.2.1
  obtain ⟨l1, l2, l3, l4, l5, _⟩ := id L
  have r15 := R.2.2.2.2.2.2.2.1
  rcases idx (u := u0) (n := kn) (by omega) with h | ⟨k, hk, rfl⟩
  · refine ⟨-1, ?_, ?_⟩
    · unfold FX8_ofKind
      exact E_c C.1 (E_b (cx_nokind C h) rfl)
    · unfold FX9_ofKind
      exact E_c R.1 (E_b (rx_nokind R h) (E_t rfl rfl))
  · obtain ⟨p, e1, K, W, _⟩ := cx_kind C hk
    have RKk := (R.2.2.2.2.2.1 k hk).1
    have k1 := K.2.2.1
    have e2 := rx_kind R hk
    have pe : FX9_isPair w m (nI k) = some (if pr (B k) = true then 1 else 0, w) := ref_pair R.1 RKk W (by omega)
    have c8 : ∀ z, (if u1 = 0 then (okb (hc w p == 1) (some ((hi w p 0), w))) else (if u1 = 1 then (okb (hc w p == 1) (if (hi w p 1) = 0 then (some ((0 : Int32), w)) else (some ((1 : Int32), w)))) else (if u1 = 2 then ((hp w x 5).bind fun p13 => (okb (hc w p13 == 3) ((FX1_placements w p (hi w p13 0)).bind fun q16 => (some (q16.1, q16.2))))) else (if u1 = 3 then (okb (hc w p == 1) (if (hi w p 1) = 0 then ((hp w x 5).bind fun p23 => (okb (hc w p23 == 3) (some ((hi w p23 0), w)))) else ((hp w x 5).bind fun p26 => (okb (hc w p26 == 3) (some (((2 : Int32) * ((hi w p26 0) - (1 : Int32))), w)))))) else (some ((-1 : Int32), w)))))) = z → FX8_ofKind w x (nI k) u1 = z := by
      intro z hz
      unfold FX8_ofKind
      exact E_c C.1 (E_b e1 hz)
    rcases isin_c w u1 3 (a := 0) (b := 3) (by decide) (by decide) (by decide) with ⟨j, hj, rfl, ei⟩ | ⟨hu, ei⟩
    · have c9 : ∀ z, (if nI j = 0 then (okb (inb (nI k) 9) (some ((ha w m 6 (nI k).toNatClampNeg), w))) else (if nI j = 1 then ((FX9_isPair w m (nI k)).bind fun q14 => (if q14.1 = 0 then (some ((0 : Int32), q14.2)) else (some ((1 : Int32), q14.2)))) else (if nI j = 2 then ((FX9_placements w m (nI k)).bind fun q20 => (some (q20.1, q20.2))) else ((FX9_isPair w m (nI k)).bind fun q24 => (if q24.1 = 0 then (some ((hi q24.2 m 15), q24.2)) else (some (((2 : Int32) * ((hi q24.2 m 15) - (1 : Int32))), q24.2))))))) = z → FX9_ofKind w m (nI k) (nI j) = z := by
        intro z hz
        unfold FX9_ofKind
        exact E_c R.1 (E_b e2 (E_f i10 (E_b ei (E_f i10 hz))))
      have j4 : j = 0 ∨ j = 1 ∨ j = 2 ∨ j = 3 := by omega
      rcases j4 with rfl | rfl | rfl | rfl
      · refine ⟨nI (B k).1, c8 _ (E_t rfl (E_c K.1 (by rw [K.2.1]))), c9 _ (E_t rfl (E_i rfl (by omega) (by decide) ?_))⟩
        rw [nI_clamp (by omega), RKk.1]
      · cases hp : pr (B k) with
        | true =>
          rw [hp] at k1 pe
          exact ⟨1, c8 _ (E_f (by decide) (E_t rfl (E_c K.1 (E_f (by rw [k1]; decide) rfl)))), c9 _ (E_f (by decide) (E_t rfl (E_b pe (E_f i10 rfl))))⟩
        | false =>
          rw [hp] at k1 pe
          exact ⟨0, c8 _ (E_f (by decide) (E_t rfl (E_c K.1 (E_t (by rw [k1]; rfl) rfl)))), c9 _ (E_f (by decide) (E_t rfl (E_b pe (E_t rfl rfl))))⟩
      · refine ⟨nI (nP (B k) N), c8 _ (E_f (by decide) (E_f (by decide) (E_t rfl ?_))), c9 _ (E_f (by decide) (E_f (by decide) (E_t rfl (E_b (ref_nP R.1 RKk W (by omega) r15 l4) rfl))))⟩
        rw [l1]
        refine E_c l2 ?_
        rw [l3]
        exact E_b (ck_np K l4) rfl
      · cases hp : pr (B k) with
        | true =>
          rw [hp] at k1 pe
          refine ⟨2 * (nI N - 1), c8 _ (E_f (by decide) (E_f (by decide) (E_f (by decide) (E_t rfl (E_c K.1 (E_f (by rw [k1]; decide) ?_)))))), c9 _ (E_f (by decide) (E_f (by decide) (E_f (by decide) (E_b pe (E_f i10 ?_)))))⟩
          · rw [l1]
            exact E_c l2 (by rw [l3])
          · dsimp only
            rw [r15]
        | false =>
          rw [hp] at k1 pe
          refine ⟨nI N, c8 _ (E_f (by decide) (E_f (by decide) (E_f (by decide) (E_t rfl (E_c K.1 (E_t (by rw [k1]; rfl) ?_)))))), c9 _ (E_f (by decide) (E_f (by decide) (E_f (by decide) (E_b pe (E_t rfl ?_)))))⟩
          · rw [l1]
            exact E_c l2 (by rw [l3])
          · dsimp only
            rw [r15]
    · refine ⟨-1, c8 _ (E_f (ne_c (j := 0) hu (by decide) (by decide)) (E_f (ne_c (j := 1) hu (by decide) (by decide)) (E_f (ne_c (j := 2) hu (by decide) (by decide)) (E_f (ne_c (j := 3) hu (by decide) (by decide)) rfl)))), ?_⟩
      unfold FX9_ofKind
      exact E_c R.1 (E_b e2 (E_f i10 (E_b ei (E_t rfl rfl))))
end TO
