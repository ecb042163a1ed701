/-! Words; whether a number lies between two. -/
theorem lg_lt (x y : Int64) : lg_cmp x y < 0 ↔ x.toInt < y.toInt := by
  unfold lg_cmp
  by_cases h : x > y
  · rw [if_pos h]
    have : y.toInt < x.toInt := Int64.lt_iff_toInt_lt.mp h
    exact ⟨fun q => absurd q (by decide), fun q => by omega⟩
  · rw [if_neg h]
    have h' : ¬ y.toInt < x.toInt := fun q => h (Int64.lt_iff_toInt_lt.mpr q)
    by_cases e : x = y
    · rw [if_pos e, e]
      exact ⟨fun q => absurd q (by decide), fun q => by omega⟩
    · rw [if_neg e]
      have : x.toInt ≠ y.toInt := fun q => e (Int64.toInt_inj.mp q)
      exact ⟨fun _ => by omega, fun _ => by decide⟩
theorem lg_gt (x y : Int64) : 0 < lg_cmp x y ↔ y.toInt < x.toInt := by
  unfold lg_cmp
  by_cases h : x > y
  · rw [if_pos h]
    have : y.toInt < x.toInt := Int64.lt_iff_toInt_lt.mp h
    exact ⟨fun _ => this, fun _ => by decide⟩
  · rw [if_neg h]
    have h' : ¬ y.toInt < x.toInt := fun q => h (Int64.lt_iff_toInt_lt.mpr q)
    by_cases e : x = y
    · rw [if_pos e]
      exact ⟨fun q => absurd q (by decide), fun q => absurd q h'⟩
    · rw [if_neg e]
      exact ⟨fun q => absurd q (by decide), fun q => absurd q h'⟩
theorem is_in (w : HS) (x y z : Int32) : FX9_isIn w x.toInt64 y.toInt64 z.toInt64 = some (if x < y ∨ z < x then 0 else 1, w) := by
  rw [isIn_eq]
  congr 2
  have e1 : lg_cmp x.toInt64 y.toInt64 < 0 ↔ x < y := by rw [lg_lt, Int32.toInt_toInt64, Int32.toInt_toInt64, Int32.lt_iff_toInt_lt]
  have e2 : 0 < lg_cmp x.toInt64 z.toInt64 ↔ z < x := by rw [lg_gt, Int32.toInt_toInt64, Int32.toInt_toInt64, Int32.lt_iff_toInt_lt]
  by_cases h1 : x < y
  · rw [if_pos (e1.mpr h1), if_pos (Or.inl h1)]
  · rw [if_neg (fun q => h1 (e1.mp q))]
    by_cases h2 : z < x
    · rw [if_pos (e2.mpr h2), if_pos (Or.inr h2)]
    · rw [if_neg (fun q => h2 (e2.mp q)), if_neg (fun q => q.elim h1 h2)]
/-- a small letter -/
def ltr (β : Nat → Nat) (n i : Nat) : Bool := decide (i < n ∧ 97 ≤ β i ∧ β i ≤ 122)
theorem is_ltr {β : Nat → Nat} {n i : Nat} (hb : ∀ i, β i < 256) (w : HS) : FX9_isIn w (bI β n i).toInt64 (97 : Int64) (122 : Int64) = some (if ltr β n i = true then 1 else 0, w) := by
  have := is_in w (bI β n i) 97 122
  rw [show (97 : Int32).toInt64 = (97 : Int64) from by decide, show (122 : Int32).toInt64 = (122 : Int64) from by decide] at this
  rw [this]
  congr 2
  unfold bI ltr
  have b := hb i
  by_cases h : i < n
  · rw [if_pos h]
    by_cases h1 : 97 ≤ β i ∧ β i ≤ 122
    · rw [if_neg (fun q => q.elim (fun z => absurd z (nI_nlt (b := 97) h1.1 (by omega))) (fun z => absurd z (nI_nlt (a := 122) h1.2 (by decide)))), if_pos (decide_eq_true ⟨h, h1⟩)]
    · have h2 : β i < 97 ∨ 122 < β i := by omega
      rw [if_pos (show nI (β i) < 97 ∨ (122 : Int32) < nI (β i) from h2.imp (fun z => nI_lt (b := 97) z (by decide)) (fun z => nI_lt (a := 122) z (by omega))), if_neg (fun q => h1 (of_decide_eq_true q).2)]
  · rw [if_neg h, if_pos (Or.inl (by decide)), if_neg (fun q => h (of_decide_eq_true q).1)]
/-- word v (0 up, 1 down, 2 any) stands at s, and the letters end behind it -/
def mW0 (β : Nat → Nat) (n s v : Nat) : Nat → Bool
  | 0 => true
  | k + 1 => mW0 β n s v k && decide (s + k < n ∧ β (s + k) = (sgL (7 + v)).getD k 0)
def wlen (v : Nat) : Nat := (sgL (7 + v)).length
def mWd (β : Nat → Nat) (n s v : Nat) : Bool := mW0 β n s v (wlen v) && !ltr β n (s + wlen v)
def wayS (β : Nat → Nat) (n s : Nat) : Option Nat := fsN (mWd β n s) 0 3
theorem wl_b : ∀ v, v < 3 → wlen v ≤ 4 ∧ 0 < wlen v ∧ (∀ k, k < 4 → k < wlen v → (sgL (7 + v)).getD k 0 < 128 ∧ 97 ≤ (sgL (7 + v)).getD k 0 ∧ (sgL (7 + v)).getD k 0 ≤ 122) := by decide
theorem mW0_le {β : Nat → Nat} {n s v : Nat} : ∀ k, mW0 β n s v k = true → ∀ i, i < k → s + i < n ∧ β (s + i) = (sgL (7 + v)).getD i 0 := by
  intro k
  induction k with
  | zero => intro _ i hi; omega
  | succ k ih =>
    intro h i hi
    unfold mW0 at h
    rw [Bool.and_eq_true] at h
    by_cases e : i = k
    · subst e; exact of_decide_eq_true h.2
    · exact ih h.1 i (by omega)
-- class
theorem chr_at {s i : Nat} (hs : s < 15) (hi : i < (sgL s).length) (w : HS) : FJ0_charAt_5068e w s (nI i) = some (nI ((sgL s).getD i 0), w) := by
  obtain ⟨s1, s2, s3⟩ := sgL_b s hs
  have b128 := s3 i (by omega)
  have lat : FJ0_isLatin1_aae02 w s = some (1, w) := by
    unfold FJ0_isLatin1_aae02
    exact E_k (decide_eq_true hs) (E_k (decide_eq_true hs) rfl)
  have cv : ∀ g, g < 128 → ((nI g &&& (255 : Int32)).toUInt32 % 65536).toInt32 = nI g ∧ (vp_nar .char (nI g) == nI g) = true := by decide +kernel
  obtain ⟨c1, c2⟩ := cv _ b128
  unfold FJ0_charAt_5068e FJ1_charAt_3b067 FJ0_checkIndex_df160 FJ3_checkIndex_8e157
  refine E_k (decide_eq_true hs) (E_b lat (E_f i10 (E_k (decide_eq_true hs) ?_)))
  rw [nI_clamp (by omega), strB_at hs hi, c1]
  refine E_b (a := (nI ((sgL s).getD i 0), w)) (E_k (decide_eq_true hs) (E_b (a := ((), w)) (E_b (a := (nI i, w)) (E_f (nI_pos (by omega)) (E_t ?_ rfl)) rfl) (E_k (decide_eq_true hs) (E_i rfl (by rw [strB_len hs]; exact hi) (by rw [strB_len hs]; omega) (E_k c2 rfl))))) (E_k c2 rfl)
  rw [strB_len hs]
  exact nI_lt hi (by omega)
theorem len_at {s : Nat} (hs : s < 15) (w : HS) : FJ0_length_8abf5 w s = some (nI (sgL s).length, w) := by
  obtain ⟨s1, s2, s3⟩ := sgL_b s hs
  unfold FJ0_length_8abf5 FJ0_coder_7d493
  refine E_k (decide_eq_true hs) (E_k (decide_eq_true hs) (E_k (decide_eq_true hs) (E_b (E_k (decide_eq_true hs) (E_k (decide_eq_true hs) rfl)) ?_)))
  rw [strB_len hs]
  have : ∀ l, l < 8 → ((Int32.ofNat l) >>> ((0 : Int32) &&& 31)) = nI l := by decide
  rw [this _ s2]
section TW
variable {t n f : Nat} {β : Nat → Nat}
theorem tw_loop (hb : ∀ i, β i < 256) {w : HS} {p v : Nat} (hv : v < 3) (T : TP w t β n p f) : ∀ d k N, k + d = wlen v → d < N → mW0 β n p v k = true → ∃ w', FX6_takeWord_13 N w t (7 + v) (nI p) (nI (wlen v)) (nI k) = some (if mWd β n p v = true then 1 else 0, w') ∧ Fr (P6 t) w w' ∧ TP w' t β n (if mWd β n p v = true then p + wlen v else p) f := by
  obtain ⟨l4, l0, lb⟩ := wl_b v hv
  have pn := T.2.2.2.2.2.1
  have n200 := T.2.2.1
  intro d
  induction d with
  | zero =>
    intro k N he hN hm
    obtain ⟨N, rfl⟩ : ∃ z, N = z + 1 := ⟨N - 1, by omega⟩
    obtain rfl : k = wlen v := by omega
    have hbt := tp_byte (i := p + wlen v) T (by omega)
    have em : mWd β n p v = !ltr β n (p + wlen v) := by unfold mWd; rw [hm]; rfl
    have last := mW0_le _ hm (wlen v - 1) (by omega)
    have T' := T.pl (p' := p + wlen v) (by omega)
    rw [FX6_takeWord_13, nI_add]
    by_cases hl : p + wlen v < n ∧ 97 ≤ β (p + wlen v) ∧ β (p + wlen v) ≤ 122
    · have e1 : mWd β n p v = false := by rw [em, show ltr β n (p + wlen v) = true from decide_eq_true hl]; rfl
      rw [e1]
      have hbi : bI β n (p + wlen v) = nI (β (p + wlen v)) := by unfold bI; rw [if_pos hl.1]
      have b := hb (p + wlen v)
      refine ⟨w, E_t (nI_le (Nat.le_refl _) (by omega)) (E_b hbt ?_), Fr.refl, T⟩
      dsimp only
      rw [hbi]
      exact E_f (nI_nlt (b := 97) hl.2.1 (by omega)) (E_f (nI_nlt (a := 122) hl.2.2 (by decide)) rfl)
    · have e1 : mWd β n p v = true := by rw [em, show ltr β n (p + wlen v) = false from decide_eq_false hl]; rfl
      rw [e1]
      refine ⟨setI w t 2 (nI (p + wlen v)), E_t (nI_le (Nat.le_refl _) (by omega)) (E_b hbt ?_), Fr.sI ⟨rfl, Or.inl rfl⟩, T'⟩
      dsimp only
      unfold bI
      by_cases hn : p + wlen v < n
      · rw [if_pos hn]
        have b := hb (p + wlen v)
        by_cases h1 : β (p + wlen v) < 97
        · exact E_t (nI_lt (b := 97) h1 (by decide)) (E_d rfl)
        · exact E_f (nI_nlt (b := 97) (by omega) (by omega)) (E_t (nI_lt (a := 122) (by omega) (by omega)) (E_d rfl))
      · rw [if_neg hn]
        exact E_t (by decide) (E_d rfl)
  | succ d ih =>
    intro k N he hN hm
    obtain ⟨N, rfl⟩ : ∃ z, N = z + 1 := ⟨N - 1, by omega⟩
    have hbt := tp_byte (i := p + k) T (by omega)
    have hlen : k < (sgL (7 + v)).length := by have : wlen v = (sgL (7 + v)).length := rfl; omega
    have hch := chr_at (s := 7 + v) (i := k) (by omega) hlen w
    have c128 := (lb k (by omega) (by omega)).1
    rw [FX6_takeWord_13, nI_add p k]
    have ev : bI β n (p + k) = nI ((sgL (7 + v)).getD k 0) ↔ p + k < n ∧ β (p + k) = (sgL (7 + v)).getD k 0 := bI_eq hb (by omega)
    by_cases hh : p + k < n ∧ β (p + k) = (sgL (7 + v)).getD k 0
    · obtain ⟨w', e1, f1, t1⟩ := ih (k + 1) N (by omega) (by omega) (by unfold mW0; rw [hm, decide_eq_true hh]; rfl)
      refine ⟨w', E_f (nI_ge (by omega) (by omega)) (E_b hbt (E_b hch (E_t (ev.mpr hh) ?_))), f1, t1⟩
      dsimp only
      rw [nI_1]
      exact e1
    · have e1 : mWd β n p v = false := by
        cases hx : mWd β n p v with
        | false => rfl
        | true =>
          unfold mWd at hx
          rw [Bool.and_eq_true] at hx
          exact absurd (mW0_le _ hx.1 k (by omega)) hh
      rw [e1]
      exact ⟨w, E_f (nI_ge (by omega) (by omega)) (E_b hbt (E_b hch (E_f (fun q => hh (ev.mp q)) rfl))), Fr.refl, T⟩
theorem tw_word (hb : ∀ i, β i < 256) {w : HS} {p v : Nat} (hv : v < 3) (T : TP w t β n p f) : ∃ w', FX6_takeWord w t (7 + v) = some (if mWd β n (sk β n p) v = true then 1 else 0, w') ∧ Fr (P6 t) w w' ∧ TP w' t β n (if mWd β n (sk β n p) v = true then sk β n p + wlen v else sk β n p) f := by
  obtain ⟨l4, l0, lb⟩ := wl_b v hv
  obtain ⟨w1, e1, f1, t1⟩ := tp_next hb T
  obtain ⟨w2, e2, f2, t2⟩ := tw_loop hb hv t1 (wlen v) 0 FUEL (by omega) (fuel_lt (by omega)) rfl
  refine ⟨w2, ?_, f1.trans f2, t2⟩
  unfold FX6_takeWord
  exact E_c T.1 (E_b e1 (E_b (len_at (s := 7 + v) (by omega) w1) e2))
/-- class: which way, and the place behind it -/
theorem tw_way (hb : ∀ i, β i < 256) {w : HS} {o p : Nat} (ho : hc w o = 2) (T : TP w t β n p f) : ∃ w', FX2_scanWay w o t = some (oI (wayS β n (sk β n p)), w') ∧ Fr (P6 t) w w' ∧ TP w' t β n (match wayS β n (sk β n p) with | some v => sk β n p + wlen v | none => sk β n p) f := by
  have pn := T.2.2.2.2.2.1
  obtain ⟨w1, e1, f1, t1⟩ := tw_word hb (v := 0) (by decide) T
  unfold FX2_scanWay wayS
  cases h0 : mWd β n (sk β n p) 0 with
  | true =>
    rw [h0] at e1 t1
    rw [fsN_t h0]
    exact ⟨w1, E_c ho (E_b e1 (E_f i10 rfl)), f1, t1⟩
  | false =>
    rw [h0] at e1 t1
    rw [if_neg (by decide)] at t1
    rw [fsN_f (by rw [h0]; decide)]
    obtain ⟨w2, e2, f2, t2⟩ := tw_word hb (v := 1) (by decide) t1
    rw [sk_sk pn] at e2 t2
    cases h1 : mWd β n (sk β n p) 1 with
    | true =>
      rw [h1] at e2 t2
      rw [fsN_t h1]
      exact ⟨w2, E_c ho (E_b e1 (E_t rfl (E_b e2 (E_f i10 rfl)))), f1.trans f2, t2⟩
    | false =>
      rw [h1] at e2 t2
      rw [if_neg (by decide)] at t2
      rw [fsN_f (by rw [h1]; decide)]
      obtain ⟨w3, e3, f3, t3⟩ := tw_word hb (v := 2) (by decide) t2
      rw [sk_sk pn] at e3 t3
      cases h2 : mWd β n (sk β n p) 2 with
      | true =>
        rw [h2] at e3 t3
        rw [fsN_t h2]
        exact ⟨w3, E_c ho (E_b e1 (E_t rfl (E_b e2 (E_t rfl (E_b e3 (E_f i10 rfl)))))), (f1.trans f2).trans f3, t3⟩
      | false =>
        rw [h2] at e3 t3
        rw [if_neg (by decide)] at t3
        rw [fsN_f (by rw [h2]; decide)]
        exact ⟨w3, E_c ho (E_b e1 (E_t rfl (E_b e2 (E_t rfl (E_b e3 (E_t rfl rfl)))))), (f1.trans f2).trans f3, t3⟩
end TW
-- reference
theorem wd9 : ∀ v, v < 3 → (∀ k, k < 4 → k < wlen v → wrd9 (5 * v + k) = nI ((sgL (7 + v)).getD k 0) ∧ ¬ wrd9 (5 * v + k) = 0) ∧ wrd9 (5 * v + wlen v) = 0 := by decide +kernel
section RWy
variable {w : HS} {m n p : Nat} {β : Nat → Nat}
theorem rw_loop (hb : ∀ i, β i < 256) (T : TR w m β n p) (h12 : ha w m 12 = wrd9) {k7 : HS → Nat → Int32 → Option (Int32 × HS)} {v : Nat} (hv : v < 3) : ∀ d k N, k + d = wlen v → d < N → mW0 β n p v k = true → FX9_wayHere_14 k7 N w m (nI v) (nI k) = if mWd β n p v = true then some (nI v, w) else k7 w m (nI (v + 1)) := by
  obtain ⟨l4, l0, lb⟩ := wl_b v hv
  obtain ⟨wd, wz⟩ := wd9 v hv
  have ix : ∀ k, ((5 : Int32) * nI v) + nI k = nI (5 * v + k) := fun k => by rw [l5_, nI_mul, nI_add]
  have pn := T.2.2.2.2.2
  have n200 := T.2.2.1
  have w56 : ∀ k, k ≤ wlen v → (k = wlen v → mW0 β n p v k = true) → (k < wlen v → mWd β n p v = false) → FX9_wayHere_56 k7 w m (nI v) (nI k) = if mWd β n p v = true then some (nI v, w) else k7 w m (nI (v + 1)) := by
    intro k hk h1 h2
    unfold FX9_wayHere_56 FX9_wayHere_94
    rw [ix, h12, nI_clamp (by omega), nI_1]
    refine E_i rfl (by omega) (by decide) ?_
    by_cases e : k = wlen v
    · subst e
      have hm := h1 rfl
      refine E_t wz ?_
      rw [T.2.2.2.2.1, nI_add]
      refine E_b (tr_byte T (by omega)) (E_b (is_ltr hb w) ?_)
      dsimp only
      unfold mWd
      rw [hm]
      cases ltr β n (p + wlen v) with
      | true => exact E_f i10 rfl
      | false => exact E_t rfl rfl
    · rw [h2 (by omega)]
      exact E_f (wd k (by omega) (by omega)).2 rfl
  intro d
  induction d with
  | zero =>
    intro k N he hN hm
    obtain ⟨N, rfl⟩ : ∃ z, N = z + 1 := ⟨N - 1, by omega⟩
    rw [FX9_wayHere_14, ix, h12, nI_clamp (by omega), show k = wlen v from by omega]
    refine E_i rfl (by omega) (by decide) (E_t wz (w56 (wlen v) (Nat.le_refl _) (fun _ => ?_) (fun q => by omega)))
    rw [← show k = wlen v from by omega]
    exact hm
  | succ d ih =>
    intro k N he hN hm
    obtain ⟨N, rfl⟩ : ∃ z, N = z + 1 := ⟨N - 1, by omega⟩
    obtain ⟨wk, wkn⟩ := wd k (by omega) (by omega)
    have c128 := (lb k (by omega) (by omega)).1
    rw [FX9_wayHere_14, ix, h12, nI_clamp (by omega), T.2.2.2.2.1, nI_add]
    refine E_i rfl (by omega) (by decide) (E_f wkn (E_b (tr_byte T (by omega)) (E_i rfl (by omega) (by decide) ?_)))
    dsimp only
    rw [h12, wk, nI_1]
    have ev : bI β n (p + k) = nI ((sgL (7 + v)).getD k 0) ↔ p + k < n ∧ β (p + k) = (sgL (7 + v)).getD k 0 := bI_eq hb (by omega)
    by_cases hh : p + k < n ∧ β (p + k) = (sgL (7 + v)).getD k 0
    · exact E_t (ev.mpr hh) (ih (k + 1) N (by omega) (by omega) (by unfold mW0; rw [hm, decide_eq_true hh]; rfl))
    · refine E_f (fun q => hh (ev.mp q)) (w56 k (by omega) (fun q => by omega) (fun _ => ?_))
      cases hx : mWd β n p v with
      | false => rfl
      | true =>
        unfold mWd at hx
        rw [Bool.and_eq_true] at hx
        exact absurd (mW0_le _ hx.1 k (by omega)) hh
theorem rw_way (hb : ∀ i, β i < 256) (T : TR w m β n p) (h12 : ha w m 12 = wrd9) : ∃ w', FX9_wayHere w m = some (oI (wayS β n (sk β n p)), w') ∧ Fr (Pat m) w w' ∧ TR w' m β n (sk β n p) := by
  obtain ⟨w1, e1, f1, t1⟩ := tr_next hb T
  have g12 : ha w1 m 12 = wrd9 := by rw [f1.ar (by unfold Pat; omega)]; exact h12
  refine ⟨w1, ?_, f1, t1⟩
  unfold FX9_wayHere
  refine E_c T.1 (E_b e1 ?_)
  dsimp only
  have lp : ∀ d v N, v + d = 3 → d < N → FX9_wayHere_7 N w1 m (nI v) = some (oI (fsN (mWd β n (sk β n p)) v d), w1) := by
    intro d
    induction d with
    | zero =>
      intro v N he hN
      obtain ⟨N, rfl⟩ : ∃ z, N = z + 1 := ⟨N - 1, by omega⟩
      obtain rfl : v = 3 := by omega
      rw [FX9_wayHere_7]
      exact E_t (nI_le (a := 3) (b := 3) (by decide) (by decide)) rfl
    | succ d ih =>
      intro v N he hN
      obtain ⟨N, rfl⟩ : ∃ z, N = z + 1 := ⟨N - 1, by omega⟩
      have wl := wl_b v (by omega)
      rw [FX9_wayHere_7]
      refine E_f (nI_ge (b := 3) (by omega) (by decide)) ?_
      rw [show (0 : Int32) = nI 0 from rfl, rw_loop hb t1 g12 (by omega) (wlen v) 0 FUEL (by omega) (fuel_lt (by omega)) rfl]
      cases h : mWd β n (sk β n p) v with
      | true => rw [fsN_t h]; rfl
      | false =>
        rw [fsN_f (by rw [h]; decide)]
        exact ih (v + 1) N (by omega) (by omega)
  exact lp 3 0 FUEL (by omega) (fuel_lt (by omega))
end RWy
