/-! Reference: placements, trials, escapes. -/
theorem div_s : ∀ p, p < 32 → ∀ k, k < 6 → 0 < k → nI p / nI k = nI (p / k) ∧ nI p - nI p / nI k * nI k = nI (p % k) := by decide +kernel
def pA (b : Book) (N p : Nat) : Nat := if pr b = true then p / (N - 1) else 7
def pV (b : Book) (N p : Nat) : Nat := if pr b = true then (if p % (N - 1) < p / (N - 1) then p % (N - 1) else p % (N - 1) + 1) else p
def nP (b : Book) (N : Nat) : Nat := if pr b = true then N * (N - 1) else N
theorem place_ok : ∀ N, N < 7 → 2 ≤ N → ∀ p, p < N * (N - 1) → p < 32 ∧ p / (N - 1) < N ∧ (if p % (N - 1) < p / (N - 1) then p % (N - 1) else p % (N - 1) + 1) < N ∧ p / (N - 1) ≠ (if p % (N - 1) < p / (N - 1) then p % (N - 1) else p % (N - 1) + 1) := by decide +kernel
theorem nP_le : ∀ N, N < 7 → 2 ≤ N → N * (N - 1) ≤ 30 := by decide
theorem pl_of {b : Book} {N p : Nat} (W : WB b) (h2 : 2 ≤ N) (h6 : N ≤ 6) (hp : p < nP b N) : p < 32 ∧ PL b (pA b N p) (pV b N p) ∧ pV b N p < N ∧ (pr b = true → pA b N p < N) := by
  unfold nP at hp
  unfold pA pV
  by_cases h : pr b = true
  · rw [if_pos h] at hp
    obtain ⟨q1, q2, q3, q4⟩ := place_ok N (by omega) h2 p hp
    rw [if_pos h, if_pos h]
    exact ⟨q1, Or.inr ⟨W, by omega, Or.inl ⟨h, by omega, q4⟩⟩, q3, fun _ => q2⟩
  · rw [if_neg h] at hp
    rw [if_neg h, if_neg h]
    exact ⟨by omega, Or.inr ⟨W, by omega, Or.inr ⟨by simpa using h, rfl⟩⟩, hp, fun q => absurd q h⟩
section RE
variable {w : HS} {m k N : Nat} {b : Book}
theorem ref_pair_loop (h9 : hc w m = 9) (K : RK w m k b) (W : WB b) (hk : k < 9) : ∀ d i n, i + d = b.1 → d < n → FX9_isPair_2 n w m (nI k) (nI i) = some (if (fsN (isP b) i d).isSome = true then 1 else 0, w) := by
  have W1 := W.1
  intro d
  induction d with
  | zero =>
    intro i n he hn
    obtain ⟨n, rfl⟩ : ∃ z, n = z + 1 := ⟨n - 1, by omega⟩
    rw [FX9_isPair_2, nI_clamp (by omega), K.1]
    exact E_i rfl hk (by decide) (E_t (nI_le (by omega) (by omega)) rfl)
  | succ d ih =>
    intro i n he hn
    obtain ⟨n, rfl⟩ : ∃ z, n = z + 1 := ⟨n - 1, by omega⟩
    rw [FX9_isPair_2, nI_clamp (by omega), K.1]
    refine E_i rfl hk (by decide) (E_f (nI_ge (by omega) (by omega)) (E_b (ruleAt_eq (r := i) (f := 0) h9 hk (by omega) (by decide)) ?_))
    dsimp only
    rw [K.2 i (by omega) 0 (by decide)]
    have b0 := W.2.2.1 i 0
    have ld : ∀ z, z < 128 → (nI (b.2 i 0) = nI z ↔ b.2 i 0 = z) := fun z hz => nI_eq (by omega) (by omega)
    by_cases h1 : b.2 i 0 = 97
    · rw [fsN_t (show isP b i = true from decide_eq_true (Or.inl h1))]
      exact E_t ((ld 97 (by decide)).mpr h1) rfl
    · refine E_f (fun q => h1 ((ld 97 (by decide)).mp q)) ?_
      by_cases h2 : b.2 i 0 = 115
      · rw [fsN_t (show isP b i = true from decide_eq_true (Or.inr (Or.inl h2)))]
        exact E_t ((ld 115 (by decide)).mpr h2) rfl
      · refine E_f (fun q => h2 ((ld 115 (by decide)).mp q)) ?_
        by_cases h3 : b.2 i 0 = 109
        · rw [fsN_t (show isP b i = true from decide_eq_true (Or.inr (Or.inr (Or.inl h3))))]
          exact E_t ((ld 109 (by decide)).mpr h3) rfl
        · refine E_f (fun q => h3 ((ld 109 (by decide)).mp q)) ?_
          by_cases h4 : b.2 i 0 = 98
          · rw [fsN_t (show isP b i = true from decide_eq_true (Or.inr (Or.inr (Or.inr h4))))]
            exact E_t ((ld 98 (by decide)).mpr h4) rfl
          · refine E_f (fun q => h4 ((ld 98 (by decide)).mp q)) ?_
            rw [fsN_f (show ¬ isP b i = true from fun q => by have := of_decide_eq_true q; omega), nI_1]
            exact ih (i + 1) n (by omega) (by omega)
theorem ref_pair (h9 : hc w m = 9) (K : RK w m k b) (W : WB b) (hk : k < 9) : FX9_isPair w m (nI k) = some (if pr b = true then 1 else 0, w) := by
  have W1 := W.1
  unfold FX9_isPair
  exact E_c h9 (ref_pair_loop h9 K W hk b.1 0 FUEL (by omega) (fuel_lt (by omega)))
theorem ref_nP (h9 : hc w m = 9) (K : RK w m k b) (W : WB b) (hk : k < 9) (hN : hi w m 15 = nI N) (h2 : 2 ≤ N) : FX9_placements w m (nI k) = some (nI (nP b N), w) := by
  unfold FX9_placements nP
  refine E_c h9 (E_b (ref_pair h9 K W hk) ?_)
  dsimp only
  rw [hN]
  cases hp : pr b with
  | true =>
    refine E_f (by decide) ?_
    rw [l1_, nI_subc (by omega), nI_mul]
    rfl
  | false => exact E_t rfl rfl
theorem ref_lays (h9 : hc w m = 9) (K : RK w m k b) (W : WB b) (hk : k < 9) (hN : hi w m 15 = nI N) (h2 : 2 ≤ N) (h6 : N ≤ 6) {p : Nat} (hp : p < nP b N) : ∃ w', FX9_laysPlace w m (nI k) (nI p) = some ((), w') ∧ Fr (fun b k => b = m ∧ (k = 23 ∨ k = 24)) w w' ∧ hi w' m 23 = cI (pA b N p) ∧ hi w' m 24 = cI (pV b N p) := by
  obtain ⟨p32, pl, pv, pa⟩ := pl_of W h2 h6 hp
  unfold FX9_laysPlace
  cases hpr : pr b with
  | false =>
    refine ⟨_, E_c h9 (E_b (ref_pair h9 K W hk) (E_t (by rw [hpr]; rfl) (E_d (E_d rfl)))), (Fr.sI ⟨rfl, Or.inl rfl⟩).trans (Fr.sI ⟨rfl, Or.inr rfl⟩), ?_, ?_⟩
    · rw [hi_setI, if_neg (by omega), hi_setI, if_pos ⟨rfl, rfl⟩]
      unfold pA
      rw [hpr]
      rfl
    · rw [hi_setI, if_pos ⟨rfl, rfl⟩, cI_n (by omega)]
      unfold pV
      rw [hpr]
      rfl
  | true =>
    obtain ⟨d1, d2⟩ := div_s p p32 (N - 1) (by omega) (by omega)
    have n1 : nI N - (1 : Int32) = nI (N - 1) := by rw [l1_, nI_subc (by omega)]
    have z1 : ¬ nI (N - 1) = 0 := nI_ne0 (by omega) (by omega)
    have ea : pA b N p = p / (N - 1) := by unfold pA; rw [if_pos hpr]
    have ev : pV b N p = if p % (N - 1) < p / (N - 1) then p % (N - 1) else p % (N - 1) + 1 := by unfold pV; rw [if_pos hpr]
    have pa' := pa hpr
    have ml : p % (N - 1) < N - 1 := Nat.mod_lt _ (by omega)
    rw [ea] at pa'
    obtain ⟨u, hu⟩ : ∃ u, u = setI w m 23 (nI (p / (N - 1))) := ⟨_, rfl⟩
    obtain ⟨u2, hu2⟩ : ∃ u2, u2 = setI u m 24 (nI (p % (N - 1))) := ⟨_, rfl⟩
    have F1 : Fr (fun b k => b = m ∧ (k = 23 ∨ k = 24)) w u := by rw [hu]; exact Fr.sI ⟨rfl, Or.inl rfl⟩
    have F2 : Fr (fun b k => b = m ∧ (k = 23 ∨ k = 24)) u u2 := by rw [hu2]; exact Fr.sI ⟨rfl, Or.inr rfl⟩
    have uN : hi u m 15 = nI N := by rw [F1.i (by omega)]; exact hN
    have u23 : hi u2 m 23 = nI (p / (N - 1)) := by rw [hu2, hi_setI, if_neg (by omega), hu, hi_setI, if_pos ⟨rfl, rfl⟩]
    have u24 : hi u2 m 24 = nI (p % (N - 1)) := by rw [hu2, hi_setI, if_pos ⟨rfl, rfl⟩]
    have head : ∀ w' (hw : ∀ z, z = u2 → (if (hi z m 24) < (hi z m 23) then (bnd (setI z m 24 ((hi z m 24) + (0 : Int32))) fun w25 => (some ((), w25))) else (bnd (setI z m 24 ((hi z m 24) + (1 : Int32))) fun w29 => (some ((), w29)))) = some ((), w')), okb (hc w m == 9) ((FX9_isPair w m (nI k)).bind fun q1 =>
  (if q1.1 = 0 then (bnd (setI q1.2 m 23 (-1 : Int32)) fun w6 =>
  (bnd (setI w6 m 24 (nI p)) fun w10 =>
  (some ((), w10)))) else
  (okb (decide (¬ ((hi q1.2 m 15) - (1 : Int32)) = 0)) (bnd (setI q1.2 m 23 ((nI p) / ((hi q1.2 m 15) - (1 : Int32)))) fun w15 =>
  (okb (decide (¬ ((hi w15 m 15) - (1 : Int32)) = 0)) (bnd (setI w15 m 24 ((nI p) - (nI p) / ((hi w15 m 15) - (1 : Int32)) * ((hi w15 m 15) - (1 : Int32)))) fun w20 =>
  (if (hi w20 m 24) < (hi w20 m 23) then (bnd (setI w20 m 24 ((hi w20 m 24) + (0 : Int32))) fun w25 =>
  (some ((), w25))) else
  (bnd (setI w20 m 24 ((hi w20 m 24) + (1 : Int32))) fun w29 =>
  (some ((), w29)))))))))) = some ((), w') := by
      intro w' hw
      refine E_c h9 (E_b (ref_pair h9 K W hk) (E_f (by rw [hpr]; show ¬ (1 : Int32) = 0; decide) ?_))
      dsimp only
      rw [hN, n1, d1, ← hu]
      refine E_k (decide_eq_true z1) (E_d ?_)
      rw [uN, n1, d2]
      refine E_k (decide_eq_true z1) (E_d ?_)
      exact hw _ hu2.symm
    by_cases hlt : p % (N - 1) < p / (N - 1)
    · refine ⟨setI u2 m 24 (hi u2 m 24 + 0), head _ (fun z hz => ?_), (F1.trans F2).trans (Fr.sI ⟨rfl, Or.inr rfl⟩), ?_, ?_⟩
      · subst hz
        exact E_t (by rw [u23, u24]; exact nI_lt hlt (by omega)) rfl
      · rw [hi_setI, if_neg (by omega), u23, ea, cI_n (by omega)]
      · rw [hi_setI, if_pos ⟨rfl, rfl⟩, u24, ev, if_pos hlt, cI_n (by omega), l0_, nI_add]
        rfl
    · refine ⟨setI u2 m 24 (hi u2 m 24 + 1), head _ (fun z hz => ?_), (F1.trans F2).trans (Fr.sI ⟨rfl, Or.inr rfl⟩), ?_, ?_⟩
      · subst hz
        exact E_f (by rw [u23, u24]; exact nI_nlt (by omega) (by omega)) rfl
      · rw [hi_setI, if_neg (by omega), u23, ea, cI_n (by omega)]
      · rw [hi_setI, if_pos ⟨rfl, rfl⟩, u24, ev, if_neg hlt, cI_n (by omega), nI_1]
end RE
/-- reference: w is reached from w0 in trials -/
def TM (w0 w : HS) (m : Nat) : Prop := Fr (PR m) w0 w ∧ ∀ j, 4 ≤ j → ha w m 16 j = ha w0 m 16 j
theorem TM.refl {w : HS} {m : Nat} : TM w w m := ⟨Fr.refl, fun _ _ => rfl⟩
theorem ref_try {w0 w : HS} {m k a v c : Nat} {b : Book} (h9 : hc w0 m = 9) (T : TM w0 w m) (K : RK w0 m k b) (hk : k < 8) (P : PL b a v) (h0 : 0 < b.1) (c6 : c < 64) : ∃ w', FX9_tries w m (nI k) (cI a) (cI v) (nI c) = some ((), w') ∧ TM w0 w' m ∧ RF w' m b a v ∧ ha w' m 16 0 = nI (stl b a v c) := by
  obtain ⟨f, fj⟩ := T
  obtain ⟨u, hu⟩ : ∃ u, u = setA (setA (setA (setA w m 16 1 (nI k)) m 16 2 (cI a)) m 16 3 (cI v)) m 16 0 (nI c) := ⟨_, rfl⟩
  have F1 : Fr (PR m) w u := by
    rw [hu]
    exact (((Fr.sA ⟨rfl, Or.inl rfl⟩).trans (Fr.sA ⟨rfl, Or.inl rfl⟩)).trans (Fr.sA ⟨rfl, Or.inl rfl⟩)).trans (Fr.sA ⟨rfl, Or.inl rfl⟩)
  have a16 : ha u m 16 = upd (upd (upd (upd (ha w m 16) 1 (nI k)) 2 (cI a)) 3 (cI v)) 0 (nI c) := by
    rw [hu]
    simp only [ha_setA, and_self, if_true]
  have u0 : ha u m 16 0 = nI c := by rw [a16, upd_s]
  have u1 : ha u m 16 1 = nI k := by rw [a16, upd_n (by decide), upd_n (by decide), upd_n (by decide), upd_s]
  have u2 : ha u m 16 2 = cI a := by rw [a16, upd_n (by decide), upd_n (by decide), upd_s]
  have u3 : ha u m 16 3 = cI v := by rw [a16, upd_n (by decide), upd_s]
  have uj : ∀ j, 4 ≤ j → ha u m 16 j = ha w0 m 16 j := by
    intro j hj
    rw [a16, upd_n (by omega), upd_n (by omega), upd_n (by omega), upd_n (by omega)]
    exact fj j hj
  have R : RF u m b a v := ⟨by rw [F1.c, f.c]; exact h9, u2, u3, P, Or.inr ⟨k, hk, u1, K.fr (f.trans F1) (by unfold PR; omega) (by unfold PR; omega), h0⟩⟩
  refine ⟨nb u m (stl b a v c), ?_, ⟨(f.trans F1).trans (nb_fr u m _), fun j hj => by rw [nb_j _ _ _ (by omega)]; exact uj j hj⟩, R.nb, nb_0 _ _ _⟩
  unfold FX9_tries
  refine E_c (by rw [f.c]; exact h9) (E_d (E_d (E_d (E_d ?_))))
  rw [← hu]
  exact E_b (ref_settles R u0 c6) rfl
/-- reference: what stays while a kind is tried by a march -/
def RG (w0 : HS) (m k mi : Nat) (b : Book) (M : Mch) (N : Nat) (mp : Nat → Nat) : Prop := hc w0 m = 9 ∧ RK w0 m k b ∧ k < 8 ∧ WB b ∧ RMa w0 m mi M ∧ mi < 7 ∧ WM M ∧ hi w0 m 15 = nI N ∧ N ≤ 6 ∧ ∀ i, i < N → ha w0 m 16 (4 + i) = nI (mp i) ∧ mp i < 6
/-- reference: the reads that failed stand in the log -/
def LGr (w : HS) (m : Nat) (L : List (Nat × Nat)) : Prop := hi w m 20 = nI L.length ∧ L.length ≤ 999 ∧ ∀ k, k < L.length → k < 60 → ha w m 21 (2 * k) = nI (gt L k).1 ∧ ha w m 21 (2 * k + 1) = nI (gt L k).2
theorem ref_trun {w0 w : HS} {m k mi a v N ch c : Nat} {b : Book} {M : Mch} {mp : Nat → Nat} (G : RG w0 m k mi b M N mp) (T : TM w0 w m) (P : PL b a v) (c6 : c < 64) (hch : ch < 8) : ∃ w1, FX9_tries w m (nI k) (cI a) (cI v) (nI c) = some ((), w1) ∧ Rn (FX9_goesThrough w1 m (nI mi) (nI ch)) (fun _ w' => TM w0 w' m ∧ LGr w' m (rL b a v N mp M ch c)) := by
  obtain ⟨g1, g2, g3, g4, g5, g6, g7, g8, g9, g10⟩ := G
  obtain ⟨w1, e1, T1, R1, x1⟩ := ref_try g1 T g2 g3 P g4.2.1 c6
  refine ⟨w1, e1, ?_⟩
  have f := T1.1
  refine (ref_goes R1 x1 (stl_lt P c6) g7 (g5.fr f (by unfold PR; omega) (by unfold PR; omega)) g6 (by rw [f.i (by unfold PR; omega)]; exact g8) g9 (fun i hi => by rw [T1.2 _ (by omega)]; exact g10 i hi) hch).mono ?_
  intro _ w' S
  exact ⟨⟨f.trans S.1, fun j hj => by rw [S.2.1 j (by omega)]; exact T1.2 j hj⟩, S.2.2.2.2.1, Nat.le_trans S.2.2.2.2.2.2.1 S.2.2.2.2.2.2.2.1, S.2.2.2.2.2.2.2.2⟩
theorem ref_anys_loop {w : HS} {m mi : Nat} {M : Mch} (h9 : hc w m = 9) (T : RMa w m mi M) (h7 : mi < 7) (hM : WM M) : ∀ d e n, e + d = mN M → d < n → FX9_anys_4 n w m (nI mi) (nI (aM M e)) (nI e) = some (nI (aM M (mN M)), w) := by
  have M8 := hM.2.1
  intro d
  induction d with
  | zero =>
    intro e n he hn
    obtain ⟨n, rfl⟩ : ∃ z, n = z + 1 := ⟨n - 1, by omega⟩
    rw [FX9_anys_4, nI_clamp (by omega), T.1]
    refine E_i rfl h7 (by decide) (E_t (nI_le (by omega) (by omega)) ?_)
    rw [show e = mN M from by omega]
  | succ d ih =>
    intro e n he hn
    obtain ⟨n, rfl⟩ : ∃ z, n = z + 1 := ⟨n - 1, by omega⟩
    have W3 := (hM.2.2.2 e (by omega)).1
    have ea : aM M (e + 1) = aM M e + if mW M e = 2 then 1 else 0 := rfl
    rw [FX9_anys_4, nI_clamp (by omega), T.1]
    refine E_i rfl h7 (by decide) (E_f (nI_ge (by omega) (by omega)) (E_b (ref_el (f := 0) h9 h7 (by omega) (by decide)) ?_))
    dsimp only
    rw [Nat.add_zero, (T.2 e (by omega)).1]
    unfold FX9_anys_31
    have nx := ih (e + 1) n (by omega) (by omega)
    by_cases h2 : mW M e = 2
    · rw [if_pos h2] at ea
      refine E_t (by rw [h2]; rfl) ?_
      rw [nI_1, nI_1, ← ea]
      exact nx
    · rw [if_neg h2] at ea
      refine E_f (fun q => h2 ((nI_eq (a := mW M e) (b := 2) (by omega) (by omega)).mp q)) ?_
      rw [l0_, nI_add, nI_1, ← ea]
      exact nx
theorem ref_anys {w : HS} {m mi : Nat} {M : Mch} (h9 : hc w m = 9) (T : RMa w m mi M) (h7 : mi < 7) (hM : WM M) : FX9_anys w m (nI mi) = some (nI (aM M (mN M)), w) := by
  have M8 := hM.2.1
  unfold FX9_anys
  exact E_c h9 (ref_anys_loop h9 T h7 hM (mN M) 0 FUEL (by omega) (fuel_lt (by omega)))
def escF (E : Nat → Nat → Bool) (K : Nat) : Nat → Nat → Option (Nat × Nat)
  | _, 0 => none
  | c, d + 1 => match fsN (E c) 0 K with
    | some ch => some (c, ch)
    | none => escF E K (c + 1) d
def eI (o : Option (Nat × Nat)) : Int32 := match o with
  | some p => nI (8 * p.1 + p.2)
  | none => -1
section ESC
variable {w0 : HS} {m k mi a v N : Nat} {b : Book} {M : Mch} {mp : Nat → Nat}
def Ebl (b : Book) (a v N : Nat) (mp : Nat → Nat) (M : Mch) (c ch : Nat) : Bool := decide ((rL b a v N mp M ch c).length = 0)
theorem ref_esc15 (G : RG w0 m k mi b M N mp) (P : PL b a v) (hA : hi w0 m 23 = cI a) (hV : hi w0 m 24 = cI v) {c : Nat} (c6 : c < 64) {k2 : HS → Nat → Int32 → Int32 → Int32 → Option (Int32 × HS)} {Q : Int32 → HS → Prop} (K1 : ∀ w' ch, TM w0 w' m → fsN (Ebl b a v N mp M c) 0 (nCh M) = some ch → Q (nI (8 * c + ch)) w') (K2 : ∀ w', TM w0 w' m → fsN (Ebl b a v N mp M c) 0 (nCh M) = none → Rn (k2 w' m (nI mi) (nI k) (nI (c + 1))) Q) : ∀ d i n w, i + d = nCh M → d < n → TM w0 w m → fsN (Ebl b a v N mp M c) 0 (nCh M) = fsN (Ebl b a v N mp M c) i d → Rn (FX9_escapeOf_15 k2 n w m (nI mi) (nI k) (nI c) (nI i)) Q := by
  obtain ⟨g1, g2, g3, g4, g5, g6, g7, g8, g9, g10⟩ := id G
  have n8 := nCh8 g7
  have am := g7.2.2.1
  intro d
  induction d with
  | zero =>
    intro i n w he hn T hs
    obtain ⟨n, rfl⟩ : ∃ z, n = z + 1 := ⟨n - 1, by omega⟩
    rw [FX9_escapeOf_15]
    refine Rn.eq (ref_anys (by rw [T.1.c]; exact g1) (g5.fr T.1 (by unfold PR; omega) (by unfold PR; omega)) g6 g7) ?_
    dsimp only
    rw [shl1 _ (by omega), nI_1 c]
    exact Rn.t (nI_le (by unfold nCh at he; omega) (by omega)) (K2 w T hs)
  | succ d ih =>
    intro i n w he hn T hs
    obtain ⟨n, rfl⟩ : ∃ z, n = z + 1 := ⟨n - 1, by omega⟩
    obtain ⟨w1, e1, R1⟩ := ref_trun (ch := i) G T P c6 (by omega)
    rw [FX9_escapeOf_15]
    refine Rn.eq (ref_anys (by rw [T.1.c]; exact g1) (g5.fr T.1 (by unfold PR; omega) (by unfold PR; omega)) g6 g7) ?_
    dsimp only
    rw [shl1 _ (by omega), T.1.i (by unfold PR; omega), T.1.i (by unfold PR; omega), hA, hV]
    refine Rn.f (nI_ge (by unfold nCh at he; omega) (by unfold nCh at n8; omega)) (Rn.eq e1 (R1.call ?_))
    intro _ w2 ⟨T2, L2⟩
    dsimp only
    rw [L2.1]
    by_cases h0 : (rL b a v N mp M i c).length = 0
    · rw [h0]
      have e8 : ((8 : Int32) * nI c) + nI i = nI (8 * c + i) := by rw [l8_, nI_mul, nI_add]
      rw [e8]
      refine Rn.t rfl (Rn.ret (K1 w2 i T2 ?_))
      rw [hs, fsN_t (decide_eq_true h0)]
    · have := L2.2.1
      refine Rn.f (nI_ne0 (by omega) (by omega)) ?_
      rw [nI_1 i]
      refine ih (i + 1) n w2 (by omega) (by omega) T2 ?_
      rw [hs, fsN_f (fun q => h0 (of_decide_eq_true q))]
theorem ref_esc2 (G : RG w0 m k mi b M N mp) (P : PL b a v) (hA : hi w0 m 23 = cI a) (hV : hi w0 m 24 = cI v) : ∀ d c n w, c + d = 2 ^ N → d < n → TM w0 w m → Rn (FX9_escapeOf_2 n w m (nI mi) (nI k) (nI c)) (fun z w' => z = eI (escF (Ebl b a v N mp M) (nCh M) c d) ∧ TM w0 w' m) := by
  obtain ⟨g1, g2, g3, g4, g5, g6, g7, g8, g9, g10⟩ := id G
  have n8 := nCh8 g7
  have p64 : 2 ^ N ≤ 64 := by
    have : ∀ k, k < 7 → 2 ^ k ≤ 64 := by decide
    exact this N (by omega)
  intro d
  induction d with
  | zero =>
    intro c n w he hn T
    obtain ⟨n, rfl⟩ : ∃ z, n = z + 1 := ⟨n - 1, by omega⟩
    rw [FX9_escapeOf_2, T.1.i (by unfold PR; omega), g8, shl1 _ (by omega)]
    exact Rn.t (nI_le (by omega) (by omega)) (Rn.ret ⟨rfl, T⟩)
  | succ d ih =>
    intro c n w he hn T
    obtain ⟨n, rfl⟩ : ∃ z, n = z + 1 := ⟨n - 1, by omega⟩
    rw [FX9_escapeOf_2, T.1.i (by unfold PR; omega), g8, shl1 _ (by omega)]
    refine Rn.f (nI_ge (by omega) (by omega)) ?_
    refine ref_esc15 G P hA hV (by omega) ?_ ?_ (nCh M) 0 FUEL w (by omega) (fuel_lt (by omega)) T rfl
    · intro w' ch T' hs
      refine ⟨?_, T'⟩
      unfold escF
      rw [hs]
      rfl
    · intro w' T' hs
      have := ih (c + 1) n w' (by omega) (by omega) T'
      unfold escF
      rw [hs]
      exact this
theorem ref_esc (G : RG w0 m k mi b M N mp) (P : PL b a v) (hA : hi w0 m 23 = cI a) (hV : hi w0 m 24 = cI v) {w : HS} (T : TM w0 w m) : Rn (FX9_escapeOf w m (nI mi) (nI k)) (fun z w' => z = eI (escF (Ebl b a v N mp M) (nCh M) 0 (2 ^ N)) ∧ TM w0 w' m) := by
  obtain ⟨g1, g2, g3, g4, g5, g6, g7, g8, g9, g10⟩ := id G
  have p64 : 2 ^ N ≤ 64 := by
    have : ∀ k, k < 7 → 2 ^ k ≤ 64 := by decide
    exact this N (by omega)
  unfold FX9_escapeOf
  exact Rn.okc (by rw [T.1.c]; exact g1) (ref_esc2 G P hA hV (2 ^ N) 0 FUEL w (by omega) (fuel_lt (by omega)) T)
end ESC
