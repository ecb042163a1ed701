/-! The call fits. -/
theorem dec5 : ∀ k, k < 8 → ∀ p, p < 32 → (nI (32 * k + p) >>> ((5 : Int32) &&& 31)) = nI k ∧ (nI (32 * k + p) &&& (31 : Int32)) = nI p := by decide +kernel
/-- a call that may make the suspects, and changes nothing that is told -/
def SUQ (w : HS) (x r m sz : Nat) (F8 : Nat → HS → Nat → Option (Int32 × HS × Nat × Nat)) (F9 : HS → Nat → Option (Int32 × HS)) : Prop := ∃ z w1 mc ms w2, F8 sz w x = some (z, w1, mc, ms) ∧ F9 w1 m = some (z, w2) ∧ Ke (PSu w x r) w w1 ∧ Quiet m w1 w2 ∧ SUs w1 x ∧ mc ≤ 20 ∧ ((ms = 0 ∧ w1 = w) ∨ (hp w1 x 9 ≠ none ∧ ms ≤ 1926 ∧ (hp w x 9 ≠ none → ms = 0)))
section FI
variable {w : HS} {x r q m s N kn mn f ch mi sz : Nat} {ad : Nat → Nat} {S : Me} {B : Nat → Book} {MM : Nat → Mch}
theorem kindOf_c {np : Nat → Nat} {L : List (Nat × Nat)} (C : CFt w s kn np L) (kn8 : kn ≤ 8) (np32 : ∀ k, np k < 32) (l : L.length ≤ 240) {i : Nat} (hi' : i < L.length) : FX5_kindOf w s (nI i) = some (nI (gt L i).1, w) ∧ FX5_placementOf w s (nI i) = some (nI (gt L i).2, w) := by
  obtain ⟨c1, c2, c3⟩ := C
  obtain ⟨a1, a2, a3⟩ := c3 i hi'
  have := np32 (gt L i).1
  obtain ⟨d1, d2⟩ := dec5 (gt L i).1 (by omega) (gt L i).2 (by omega)
  constructor
  · unfold FX5_kindOf
    rw [c2, nI_clamp (by omega), a1, d1]
    exact E_c c1 (E_f (nI_pos (by omega)) (E_f (nI_ge hi' (by omega)) (E_f (nI_ge (b := 240) (by omega) (by decide)) (E_i rfl (by omega) (by decide) rfl))))
  · unfold FX5_placementOf
    rw [c2, nI_clamp (by omega), a1, d2]
    exact E_c c1 (E_f (nI_pos (by omega)) (E_f (nI_ge hi' (by omega)) (E_f (nI_ge (b := 240) (by omega) (by decide)) (E_i rfl (by omega) (by decide) rfl))))
/-- what the three questions share -/
theorem su_mi {w1 : HS} (h8 : hc w x = 8) (h7 : hc w r = 7) (h9 : hc w m = 9) (K : Ke (PSu w x r) w w1) : hc w1 m = 9 ∧ ∀ k, hi w1 m k = hi w m k ∧ ha w1 m k = ha w m k := by
  have n : ∀ k, ¬ PSu w x r m k := fun k z => by
    rcases z with z | z | z
    · rw [z, h7] at h9; cases h9
    · rw [h9] at z; cases z
    · rw [z.1, h8] at h9; cases h9
  exact ⟨K.c h9 (by decide), fun k => ⟨K.i h9 (by decide) (n k), K.ar h9 (by decide) (n k)⟩⟩
/-- the faults that fit -/
def fitL (B : Nat → Book) (N : Nat) (MM : Nat → Mch) (S : Me) (kn mi ch : Nat) : List (Nat × Nat) := gthK (fun k p => fitR (B k) N (meP S) (MM mi) ch S p) (fun k => nP (B k) N) 0 kn []
theorem fitL_eq {ad : Nat → Nat} (V : VS kn mn N B MM S) (A : MPok N (meP S) ad) (h2 : 2 ≤ N) (h6 : N ≤ 6) (wb : ∀ k, k < kn → WB (B k)) (wm : WM (MM mi)) (hR : meR S = some mi) (hH : meH S = ch) : gthK (fun k p => fitC (B k) N ad (MM mi) ch S p) (fun k => nP (B k) N) 0 kn [] = fitL B N MM S kn mi ch := by
  obtain ⟨v1, v2, v3, v4, v5, v6, v7, v8⟩ := V
  refine gthK_congr kn 0 [] (fun j _ hj i hi => ?_)
  exact fit_eq (wb j (by omega)) wm h2 h6 hi A v6 (by
    rw [← hH]
    exact (v8 mi hR).2.2)
theorem fits_call (G : GS w x r q N kn mn (meP S) ad S B MM) (R : RX w m kn mn B MM N (meP S)) (RVw : RV (ha w m 16) S) (V : VS kn mn N B MM S) (Su : SUs w x) (fs : ∀ b, hc w b < 10 → b < sz) (u : Int32) : SUQ w x r m sz (fun sz w x => FX8_fits sz w x u) (fun w m => FX9_fits w m u) := by
  have h8 := G.1.1
  have h7 := G.1.2.2.1
  have h9 := R.1
  have h5 := G.2.1.1
  have h3 := G.2.2.1
  have kn8 := R.2.2.1
  have l4 := G.2.1.2.2.2.1
  have l5 := G.2.1.2.2.2.2.1
  have q6 := G.2.2.2.2.2.2.2.2.1
  have r6 := RVw.2.2.2.2.2.1
  have no : ∀ (y : Int32), FX8_fits sz w x u = some (y, w, 0, 0) → FX9_fits w m u = some (y, w) → SUQ w x r m sz (fun sz w x => FX8_fits sz w x u) (fun w m => FX9_fits w m u) := fun y e8 e9 => ⟨y, w, 0, 0, w, e8, e9, Ke.refl, Quiet.refl, Su, by decide, Or.inl ⟨rfl, rfl⟩⟩
  rcases isin_c w u 3 (a := 0) (b := 3) (by decide) (by decide) (by decide) with ⟨j, hj, rfl, ei⟩ | ⟨hu, ei⟩
  · have u3 : ¬ (3 : Int32) < nI j := nI_nlt (b := j) (a := 3) hj (by decide)
    cases hR : meR S with
    | none =>
      rw [hR] at q6 r6
      refine no (-1) ?_ ?_
      · unfold FX8_fits
        refine E_c h8 (E_f (nI_pos (by omega)) (E_f u3 (E_b h5 (E_c h3 ?_))))
        rw [q6]
        exact E_b (cx_nomarch G.1 (Or.inl (by decide))) rfl
      · unfold FX9_fits
        refine E_c h9 (E_b ei (E_f i10 (E_f ?_ rfl)))
        dsimp only
        rw [r6]
        decide
    | some mi =>
      obtain ⟨v1, v2, v3, v4, v5, v6, v7, v8⟩ := id V
      obtain ⟨hmi, hch, Gd⟩ := v8 mi hR
      have mn6 := R.2.2.2.2.1
      cases hF : meF S with
      | none => have := v7.mpr hF; rw [hR] at this; cases this
      | some f =>
        obtain ⟨p, em, Mc, hM, hqm⟩ := cx_march G.1 hmi
        have q7 : hi w q 7 = nI (meH S) := G.2.2.2.2.2.2.2.2.2.1 (by rw [hR]; exact fun z => (by cases z))
        obtain ⟨s, w1, mc, ms, e1, K1, p9, G1, C1, l1, lm, ls, lz⟩ := suspects_c (mi := mi) (ch := meH S) G Su v6 hF hR q7 hch hmi hqm fs
        have A := G.2.1.2.2.2.2.2.2
        have wbs : ∀ k, k < kn → WB (B k) := fun k hk => (R.2.2.2.2.2.1 k hk).2
        have eL := fitL_eq (ch := meH S) V A l4 l5 wbs hM hR rfl
        rw [eL] at C1 l1
        obtain ⟨c9, mi1⟩ := su_mi h8 h7 h9 K1
        have R1 := R.mi c9 mi1
        obtain ⟨u2, w2, e2, Q2, C2⟩ := gathers_r (mi := mi) (f := f) (ch := meH S) R1 (by rw [(mi1 16).2]; exact RVw) v6 hR hF rfl hch hmi
        have C2' : RFt w2 m N kn B (fitL B N MM S kn mi (meH S)) := C2
        obtain ⟨L, hL⟩ : ∃ L, L = fitL B N MM S kn mi (meH S) := ⟨_, rfl⟩
        rw [← hL] at C1 l1 C2'
        have r10 : ha w1 m 16 10 = nI mi := by rw [(mi1 16).2, r6, hR]; rfl
        cases u2
        have np32 : ∀ k, (fun k => nP (B k) N) k < 32 := fun k => by have := (nP_pos (b := B k) l4 l5).2; show nP (B k) N < 32; omega
        have fin : ∀ y, (if nI j = 0 then ((some s).bind fun p27 => (okb (hc w1 p27 == 5) (some ((hi w1 p27 0), w1, 0, 0)))) else ((some s).bind fun p30 => (okb (hc w1 p30 == 5) (if (hi w1 p30 0) = 0 then (some ((-2 : Int32), w1, 0, 0)) else (if nI j = (1 : Int32) then ((FX5_kindOf w1 p30 (0 : Int32)).bind fun q35 => (some (q35.1, q35.2, 0, 0))) else ((FX5_kindOf w1 p30 (0 : Int32)).bind fun q39 => ((FX8_kindAt q39.2 x q39.1).bind fun q43 => (q43.1.elim (some ((-2 : Int32), q43.2, 0, 0)) (fun p47 => (FX5_placementOf q43.2 p30 (0 : Int32)).bind fun q49 => (if nI j = (2 : Int32) then ((hp q49.2 x 5).bind fun p54 => (okb (hc q49.2 p54 == 3) ((FX1_aggressorOf q49.2 p47 q49.1 (hi q49.2 p54 0)).bind fun q57 => (some (q57.1, q57.2, 0, 0))))) else ((hp q49.2 x 5).bind fun p61 => (okb (hc q49.2 p61 == 3) ((FX1_victimOf q49.2 p47 q49.1 (hi q49.2 p61 0)).bind fun q64 => (some (q64.1, q64.2, 0, 0))))))))))))))) = some (y, w1, 0, 0) → (if nI j = 0 then (some ((hi w2 m 36), w2)) else (if (hi w2 m 36) = 0 then (some ((-2 : Int32), w2)) else (okb (inb (nI j - (1 : Int32)) 720) (some ((ha w2 m 35 (nI j - (1 : Int32)).toNatClampNeg), w2))))) = some (y, w2) → SUQ w x r m sz (fun sz w x => FX8_fits sz w x (nI j)) (fun w m => FX9_fits w m (nI j)) := by
          intro y y8 y9
          refine ⟨y, w1, mc, ms, w2, ?_, ?_, K1, Q2, fun s' hs' => by rw [p9] at hs'; cases hs'; exact C1.1, by omega, Or.inr ⟨by rw [p9]; exact fun z => (by cases z), ls, lz⟩⟩
          · dsimp only
            unfold FX8_fits
            refine E_c h8 (E_f (nI_pos (by omega)) (E_f u3 (E_b h5 (E_c h3 ?_))))
            rw [q6, hR]
            refine E_b em ?_
            show ((FX8_gatheredSuspects sz w x).bind _) = _
            exact E_b e1 (bm0 y8)
          · dsimp only
            unfold FX9_fits
            rcases isin_c w1 (nI j) 3 (a := 0) (b := 3) (by decide) (by decide) (by decide) with ⟨j', _, _, ei'⟩ | ⟨hu, _⟩
            · refine E_c c9 (E_b ei' (E_f i10 (E_t ?_ (E_b e2 y9))))
              dsimp only
              rw [r10]
              exact nI_pos' (by omega)
            · exact absurd rfl (ne_c hu (by omega) (by decide))
        have i36 := C2'.1
        by_cases j0 : j = 0
        · subst j0
          refine fin (nI L.length) (E_t rfl (E_b rfl (E_c C1.1 ?_))) (E_t rfl ?_)
          · rw [C1.2.1]
          · rw [i36]
        · have nj0 : ¬ nI j = 0 := nI_ne0 (by omega) (by omega)
          by_cases L0 : L.length = 0
          · refine fin (-2) (E_f nj0 (E_b rfl (E_c C1.1 (E_t ?_ rfl)))) (E_f nj0 (E_t ?_ rfl))
            · rw [C1.2.1, L0]; rfl
            · rw [i36, L0]; rfl
          · have c0 : ¬ hi w1 s 0 = 0 := by rw [C1.2.1]; exact nI_ne0 (by omega) (by omega)
            have d0 : ¬ hi w2 m 36 = 0 := by rw [i36]; exact nI_ne0 (by omega) (by omega)
            obtain ⟨k1, k2⟩ := kindOf_c C1 kn8 np32 l1 (i := 0) (by omega)
            obtain ⟨t1, t2, t3⟩ := C2'.2 0 (by omega)
            obtain ⟨_, a2, a3⟩ := C1.2.2 0 (by omega)
            have ej : nI j - (1 : Int32) = nI (j - 1) := by rw [l1_, nI_subc (by omega)]
            by_cases j1 : j = 1
            · subst j1
              refine fin (nI (gt L 0).1) (E_f nj0 (E_b rfl (E_c C1.1 (E_f c0 (E_t rfl (E_b k1 rfl)))))) (E_f nj0 (E_f d0 ?_))
              rw [ej, nI_clamp (by omega)]
              refine E_i rfl (by omega) (by decide) ?_
              rw [show 1 - 1 = 3 * 0 from rfl, t1]
            · have nj1 : ¬ nI j = 1 := fun z => j1 ((nI_eq (a := j) (b := 1) (by omega) (by decide)).mp z)
              obtain ⟨kp, ek, Kk, Wk, _⟩ := cx_kind G1.1 a2
              have pA8 := ck_pA Kk Wk l4 l5 a3
              have pV8 := ck_pV Kk Wk l4 l5 a3
              obtain ⟨_, PLk, pv, _⟩ := pl_of Wk l4 l5 a3
              by_cases j2 : j = 2
              · subst j2
                refine fin (cI (pA (B (gt L 0).1) N (gt L 0).2)) (E_f nj0 (E_b rfl (E_c C1.1 (E_f c0 (E_f nj1 (E_b k1 (E_b ek ?_))))))) (E_f nj0 (E_f d0 ?_))
                · show ((FX5_placementOf w1 s (0 : Int32)).bind _) = _
                  refine E_b k2 (E_t rfl (E_b G1.2.1.1 (E_c G1.2.2.1 ?_)))
                  dsimp only
                  rw [G1.2.2.2.1]
                  exact E_b pA8 rfl
                · rw [ej, nI_clamp (by omega)]
                  refine E_i rfl (by omega) (by decide) ?_
                  rw [show 2 - 1 = 3 * 0 + 1 from rfl, t2]
              · have j3 : j = 3 := by omega
                subst j3
                refine fin (nI (pV (B (gt L 0).1) N (gt L 0).2)) (E_f nj0 (E_b rfl (E_c C1.1 (E_f c0 (E_f nj1 (E_b k1 (E_b ek ?_))))))) (E_f nj0 (E_f d0 ?_))
                · show ((FX5_placementOf w1 s (0 : Int32)).bind _) = _
                  refine E_b k2 (E_f (by decide) (E_b G1.2.1.1 (E_c G1.2.2.1 ?_)))
                  dsimp only
                  rw [G1.2.2.2.1]
                  exact E_b pV8 rfl
                · rw [ej, nI_clamp (by omega)]
                  refine E_i rfl (by omega) (by decide) ?_
                  rw [show 3 - 1 = 3 * 0 + 2 from rfl, t3, cI_n (by omega)]
  · refine no (-1) ?_ ?_
    · unfold FX8_fits
      refine E_c h8 ?_
      by_cases z : u < 0
      · exact E_t z rfl
      · refine E_f z (E_t ?_ rfl)
        obtain ⟨i, i1, rfl⟩ := nI_of z
        have : ¬ i < 4 := fun q => nI_ge q (by decide) (hu.resolve_left z)
        exact nI_lt (a := 3) (by omega) i1
    · unfold FX9_fits
      exact E_c h9 (E_b ei (E_t rfl rfl))
end FI
