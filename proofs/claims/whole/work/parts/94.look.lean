/-! What is told of the memory: cell, log, count; draws. -/
/-- the log is good -/
def VL (S : Me) : Prop := (meF S = none → meN S = 0) ∧ (∀ f, meF S = some f → f ≤ 1000 ∧ meN S = mn60 f) ∧ ∀ i, i < meN S → meX S i < 1024 ∧ meY S i < 8
theorem lg_d : ∀ a, a < 32 → ∀ b, b < 32 → ∀ y, y < 8 → (nI (8 * (32 * a + b) + y) >>> ((3 : Int32) &&& 31)) = nI (32 * a + b) ∧ (nI (8 * (32 * a + b) + y) &&& (7 : Int32)) = nI y := by decide +kernel
theorem lg_x {x y : Nat} (hx : x < 1024) (hy : y < 8) : (nI (8 * x + y) >>> ((3 : Int32) &&& 31)) = nI x ∧ (nI (8 * x + y) &&& (7 : Int32)) = nI y := by
  have := lg_d (x / 32) (by omega) (x % 32) (by omega) y hy
  rw [show 32 * (x / 32) + x % 32 = x from by omega] at this
  exact this
/-- the live memory, class and reference -/
def LM (w : HS) (x q m N : Nat) (S : Me) : Prop := hc w x = 8 ∧ hp w x 5 = some q ∧ MV w q N S ∧ hc w m = 9 ∧ RV (ha w m 16) S ∧ VL S ∧ hi w m 15 = nI N ∧ 2 ≤ N ∧ N ≤ 6
section LO
variable {w : HS} {x q m N : Nat} {S : Me}
theorem log_call (L : LM w x q m N S) (u0 u1 : Int32) : Pur w (FX8_log w x u0 u1) (FX9_log w m u0 u1) := by
  obtain ⟨l1, l2, l3, l4, l5, l6, l7, l8, l9⟩ := L
  obtain ⟨m1, m2, m3, m4, m5, m6, m7, m8, m9, m10, m11, m12, m13⟩ := l3
  obtain ⟨r1, r2, r3, r4, r5, r6, r7, r8, r9, r10⟩ := l5
  by_cases h0 : u0 < 0
  · refine ⟨-1, ?_, ?_⟩
    · unfold FX8_log; exact E_c l1 (E_t h0 rfl)
    · unfold FX9_log; exact E_c l4 (E_t h0 rfl)
  obtain ⟨k, k31, rfl⟩ := nI_of h0
  rcases isin_c w u1 1 (a := 0) (b := 1) (by decide) (by decide) (by decide) with ⟨j, hj, rfl, ei⟩ | ⟨hu, ei⟩
  · have j0 : ¬ nI j < 0 := nI_pos (by omega)
    have j1 : nI j ≤ (1 : Int32) := nI_le (b := 1) hj (by decide)
    -- the reference's bound is the class's
    have bd : ∀ z, FX9_log_40 w m (nI k) (nI j) (nI (meN S)) = z ∨ (meF S = none ∧ FX9_log_40 w m (nI k) (nI j) (-1) = z) → FX9_log w m (nI k) (nI j) = z := by
      intro z hz
      unfold FX9_log
      refine E_c l4 (E_f h0 (E_b ei (E_f i10 ?_)))
      dsimp only
      rw [r8]
      cases hF : meF S with
      | none =>
        rcases hz with hz | hz
        · refine E_f (by decide) ?_
          rw [l6.1 hF] at hz
          rw [← hz]
          unfold FX9_log_40
          exact Eq.trans (if_pos (Int32.le_trans (show oI none ≤ nI 0 by decide) (nI_le (a := 0) (by omega) k31))) (if_pos (nI_le (by omega) k31)).symm
        · exact E_f (by decide) hz.2
      | some f =>
        rcases hz with hz | hz
        · obtain ⟨f1, f2⟩ := l6.2.1 f hF
          show (if (60 : Int32) ≤ nI f then _ else _) = z
          by_cases f60 : f < 60
          · rw [f2, show mn60 f = f from if_pos f60] at hz
            exact E_f (nI_ge (b := 60) f60 (by decide)) hz
          · rw [f2, show mn60 f = 60 from if_neg f60] at hz
            exact E_t (nI_le (a := 60) (by omega) (by omega)) hz
        · rw [hF] at hz; cases hz.1
    by_cases kl : k < meN S
    · obtain ⟨y1, y2⟩ := l6.2.2 k kl
      obtain ⟨g1, g2⟩ := lg_x y1 y2
      obtain ⟨s1, s2⟩ := r10 k kl
      have ref : ∀ v, ha w m 16 (13 + 2 * k + j) = v → FX9_log w m (nI k) (nI j) = some (v, w) := by
        intro v hv
        refine bd _ (Or.inl ?_)
        unfold FX9_log_40
        rw [l13_, l2_, nI_mul, nI_add, nI_add, nI_clamp (by omega), hv]
        exact E_f (nI_ge kl (by omega)) (E_i rfl (by omega) (by decide) rfl)
      have cls : ∀ z, (if nI j = 0 then ((hp w x 5).bind fun p9 => ((FX3_loggedNumber w p9 (nI k)).bind fun q11 => (some (q11.1, q11.2)))) else ((hp w x 5).bind fun p15 => ((FX3_loggedAddress w p15 (nI k)).bind fun q17 => (some (q17.1, q17.2))))) = z → FX8_log w x (nI k) (nI j) = z := by
        intro z hz
        unfold FX8_log
        refine E_c l1 (E_f h0 (E_f j0 (E_t j1 ?_)))
        rw [l2] at hz ⊢
        exact E_b rfl (E_c m1 (E_t (by rw [m10]; exact nI_lt kl (by omega)) hz))
      have j2 : j = 0 ∨ j = 1 := by omega
      rcases j2 with rfl | rfl
      · refine ⟨nI (meX S k), cls _ (E_t rfl ?_), ref _ s1⟩
        rw [l2]
        refine E_b rfl (E_b (a := (nI (meX S k), w)) ?_ rfl)
        unfold FX3_loggedNumber
        rw [nI_clamp (by omega), m13 k kl, g1]
        exact E_c m1 (E_f h0 (E_f (nI_ge (b := 60) (by omega) (by decide)) (E_i rfl (by omega) (by decide) rfl)))
      · refine ⟨nI (meY S k), cls _ (E_f (by decide) ?_), ref _ (by rw [show 13 + 2 * k + 1 = 14 + 2 * k from by omega]; exact s2)⟩
        rw [l2]
        refine E_b rfl (E_b (a := (nI (meY S k), w)) ?_ rfl)
        unfold FX3_loggedAddress
        rw [nI_clamp (by omega), m13 k kl, g2]
        exact E_c m1 (E_f h0 (E_f (nI_ge (b := 60) (by omega) (by decide)) (E_i rfl (by omega) (by decide) rfl)))
    · refine ⟨-2, ?_, bd _ (Or.inl ?_)⟩
      · unfold FX8_log
        refine E_c l1 (E_f h0 (E_f j0 (E_t j1 ?_)))
        rw [l2]
        exact E_b rfl (E_c m1 (E_f (by rw [m10]; exact nI_nlt (by omega) k31) rfl))
      · unfold FX9_log_40
        exact E_t (nI_le (by omega) k31) rfl
  · refine ⟨-1, ?_, ?_⟩
    · unfold FX8_log
      refine E_c l1 (E_f h0 ?_)
      by_cases z : u1 < 0
      · exact E_t z rfl
      · refine E_f z (E_f ?_ rfl)
        obtain ⟨i, i1, rfl⟩ := nI_of z
        have : ¬ i < 2 := fun q => nI_ge q (by decide) (hu.resolve_left z)
        exact nI_ge (a := 1) (by omega) i1
    · unfold FX9_log
      exact E_c l4 (E_f h0 (E_b ei (E_t rfl rfl)))
theorem cell_call (L : LM w x q m N S) (u0 u1 : Int32) : Pur w (FX8_cell w x u0 u1) (FX9_cell w m u0 u1) := by
  obtain ⟨l1, l2, l3, l4, l5, l6, l7, l8, l9⟩ := L
  obtain ⟨m1, m2, m3, m4, m5, m6, m7, m8, m9, m10, m11, m12, m13⟩ := l3
  obtain ⟨r1, r2, r3, r4, r5, r6, r7, r8, r9, r10⟩ := l5
  rcases idx (u := u0) (n := N) (by omega) with h | ⟨k, hk, rfl⟩
  · refine ⟨-1, ?_, ?_⟩
    · unfold FX8_cell
      refine E_c l1 ?_
      rw [l2]
      refine E_b rfl (E_b (a := ((0 : Int32), w)) ?_ (E_t rfl rfl))
      unfold FX3_hasCell
      rw [m2]
      by_cases z : u0 < 0
      · exact E_c m1 (E_t z rfl)
      · exact E_c m1 (E_f z (E_t (h.resolve_left z) rfl))
    · unfold FX9_cell
      refine E_c l4 (E_b (a := ((0 : Int32), w)) ?_ (E_t rfl rfl))
      unfold FX9_isCell
      rw [l7]
      by_cases z : u0 < 0
      · exact E_c l4 (E_t z rfl)
      · exact E_c l4 (E_f z (E_t (h.resolve_left z) rfl))
  · have e8 : FX3_hasCell w q (nI k) = some (1, w) := by
      unfold FX3_hasCell
      rw [m2]
      exact E_c m1 (E_f (nI_pos (by omega)) (E_f (nI_ge hk (by omega)) rfl))
    have e9 : FX9_isCell w m (nI k) = some (1, w) := by
      unfold FX9_isCell
      rw [l7]
      exact E_c l4 (E_f (nI_pos (by omega)) (E_f (nI_ge hk (by omega)) rfl))
    have cls : ∀ z, (if u1 = 0 then ((hp w x 5).bind fun p9 => ((FX3_cellOf w p9 (nI k)).bind fun q11 => (some (q11.1, q11.2)))) else (if u1 = 1 then ((hp w x 5).bind fun p16 => (okb (hc w p16 == 3) (some ((((hi w p16 1) >>> (nI k &&& 31)) &&& (1 : Int32)), w)))) else (some ((-1 : Int32), w)))) = z → FX8_cell w x (nI k) u1 = z := by
      intro z hz
      unfold FX8_cell
      refine E_c l1 ?_
      rw [l2] at hz ⊢
      exact E_b rfl (E_b e8 (E_f i10 (by rw [l2]; exact hz)))
    rcases isin_c w u1 1 (a := 0) (b := 1) (by decide) (by decide) (by decide) with ⟨j, hj, rfl, ei⟩ | ⟨hu, ei⟩
    · have j2 : j = 0 ∨ j = 1 := by omega
      rcases j2 with rfl | rfl
      · refine ⟨nI (meP S k), cls _ (E_t rfl ?_), ?_⟩
        · rw [l2]
          refine E_b rfl (E_b (a := (nI (meP S k), w)) ?_ rfl)
          unfold FX3_cellOf
          rw [nI_clamp (by omega), m12 k (by omega)]
          exact E_c m1 (E_f (nI_pos (by omega)) (E_f (nI_ge (b := 6) (by omega) (by decide)) (E_i rfl (by omega) (by decide) rfl)))
        · unfold FX9_cell
          refine E_c l4 (E_b e9 (E_f i10 (E_b ei (E_f i10 (E_t rfl ?_)))))
          dsimp only
          rw [l4_, nI_add, nI_clamp (by omega), r5 k (by omega)]
          exact E_i rfl (by omega) (by decide) rfl
      · refine ⟨((nI (meC S)) >>> (nI k &&& 31)) &&& (1 : Int32), cls _ (E_f (by decide) (E_t rfl ?_)), ?_⟩
        · rw [l2]
          refine E_b rfl (E_c m1 ?_)
          rw [m3]
        · unfold FX9_cell
          refine E_c l4 (E_b e9 (E_f i10 (E_b ei (E_f i10 (E_f (by decide) (E_b (bit_eq l4 (nI k)) ?_))))))
          dsimp only
          rw [r1]
    · refine ⟨-1, cls _ (E_f (ne_c (j := 0) hu (by decide) (by decide)) (E_f (ne_c (j := 1) hu (by decide) (by decide)) rfl)), ?_⟩
      unfold FX9_cell
      exact E_c l4 (E_b e9 (E_f i10 (E_b ei (E_t rfl rfl))))
end LO
