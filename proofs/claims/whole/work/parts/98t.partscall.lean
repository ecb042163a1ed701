/-! The calls parts and ask. -/
section PC
variable {w : HS} {x r q m s N kn mn mi mj sz : Nat} {ad : Nat → Nat} {S : Me} {B : Nat → Book} {MM : Nat → Mch} {FL : List (Nat × Nat)}
theorem ke_su {w1 w2 : HS} (K : Ke (PSu w x r) w w1) (s5 : hc w1 s = 5) (F : Fr (PGs r s) w1 w2) : Ke (PSu w x r) w w2 := K.st F (fun b k hb z => by
  rcases z with z | z
  · exact Or.inl z
  · refine Or.inr (Or.inl ?_)
    have := (K b hb).1
    rw [z] at this
    rw [z, ← this]
    exact s5)
theorem noM (h : meR S = none) (G : GS w x r q N kn mn (meP S) ad S B MM) (RVw : RV (ha w m 16) S) : FX8_marchAt w x (hi w q 6) = some (none, w) ∧ ¬ 0 ≤ ha w m 16 10 := by
  have q6 := G.2.2.2.2.2.2.2.2.1
  have r6 := RVw.2.2.2.2.2.1
  rw [h] at q6 r6
  rw [q6, r6]
  exact ⟨cx_nomarch G.1 (Or.inl (by decide)), by decide⟩
/-- a run there was: the suspects, in both -/
theorem gath_both (G : GS w x r q N kn mn (meP S) ad S B MM) (R : RX w m kn mn B MM N (meP S)) (RVw : RV (ha w m 16) S) (V : VS kn mn N B MM S) (Su : SUs w x) (fs : ∀ b, hc w b < 10 → b < sz) (hR : meR S = some mi) : ∃ p s w1 mc ms, mi < mn ∧ FX8_marchAt w x (hi w q 6) = some (some p, w) ∧ FX8_gatheredSuspects sz w x = some (some s, w1, mc, ms) ∧ Ke (PSu w x r) w w1 ∧ hp w1 x 9 = some s ∧ GS w1 x r q N kn mn (meP S) ad S B MM ∧ CFt w1 s kn (fun k => nP (B k) N) (fitL B N MM S kn mi (meH S)) ∧ (fitL B N MM S kn mi (meH S)).length ≤ 240 ∧ mc ≤ 5 ∧ ms ≤ 1926 ∧ (hp w x 9 ≠ none → ms = 0) ∧ ∀ w2, hc w2 m = 9 → (∀ k, hi w2 m k = hi w m k ∧ ha w2 m k = ha w m k) → 0 ≤ ha w2 m 16 10 ∧ Rn (FX9_gathersFits w2 m) (fun _ w' => Quiet m w2 w' ∧ RFt w' m N kn B (fitL B N MM S kn mi (meH S)) ∧ RX w' m kn mn B MM N (meP S)) := by
  obtain ⟨v1, v2, v3, v4, v5, v6, v7, v8⟩ := id V
  obtain ⟨hmi, hch, Gd⟩ := v8 mi hR
  have mn6 := R.2.2.2.2.1
  have l4 := G.2.1.2.2.2.1
  have l5 := G.2.1.2.2.2.2.1
  have q6 := G.2.2.2.2.2.2.2.2.1
  have r6 := RVw.2.2.2.2.2.1
  cases hF : meF S with
  | none => have := v7.mpr hF; rw [hR] at this; cases this
  | some f =>
    obtain ⟨p, em, Mc, hM, hqm⟩ := cx_march G.1 hmi
    have q7 : hi w q 7 = nI (meH S) := G.2.2.2.2.2.2.2.2.2.1 (by rw [hR]; exact fun z => (by cases z))
    obtain ⟨s, w1, mc, ms, e1, K1, p9, G1, C1, l1, lm, ls, lz⟩ := suspects_c (mi := mi) (ch := meH S) G Su v6 hF hR q7 hch hmi hqm fs
    have A := G.2.1.2.2.2.2.2.2
    have eL := fitL_eq (ch := meH S) V A l4 l5 (fun k hk => (R.2.2.2.2.2.1 k hk).2) hM hR rfl
    rw [eL] at C1 l1
    refine ⟨p, s, w1, mc, ms, hmi, by rw [q6, hR]; exact em, e1, K1, p9, G1, C1, l1, lm, ls, lz, fun w2 c9 mi2 => ⟨?_, ?_⟩⟩
    · rw [(mi2 16).2, r6, hR]
      exact nI_pos' (by omega)
    · have R2 := R.mi c9 mi2
      refine (gathers_r (mi := mi) (f := f) (ch := meH S) R2 (by rw [(mi2 16).2]; exact RVw) v6 hR hF rfl hch hmi).mono ?_
      rintro _ w' ⟨z1, z2⟩
      exact ⟨z1, z2, R2.qu z1⟩
theorem CFt.ok {w1 : HS} {np : Nat → Nat} (C : CFt w1 s kn np FL) : ∀ i, i < FL.length → (gt FL i).1 < kn ∧ (gt FL i).2 < np (gt FL i).1 := fun i hi => (C.2.2 i hi).2
theorem parts_call (G : GS w x r q N kn mn (meP S) ad S B MM) (R : RX w m kn mn B MM N (meP S)) (RVw : RV (ha w m 16) S) (V : VS kn mn N B MM S) (Su : SUs w x) (fs : ∀ b, hc w b < 10 → b < sz) (u : Int32) : SUQ w x r m sz (fun sz w x => FX8_parts sz w x u) (fun w m => FX9_parts w m u) := by
  have h8 := G.1.1
  have h7 := G.1.2.2.1
  have h9 := R.1
  have h5 := G.2.1.1
  have h3 := G.2.2.1
  have mn6 := R.2.2.2.2.1
  have no : ∀ (y : Int32), FX8_parts sz w x u = some (y, w, 0, 0) → FX9_parts w m u = some (y, w) → SUQ w x r m sz (fun sz w x => FX8_parts sz w x u) (fun w m => FX9_parts w m u) := fun y e8 e9 => ⟨y, w, 0, 0, w, e8, e9, Ke.refl, Quiet.refl, Su, by decide, Or.inl ⟨rfl, rfl⟩⟩
  rcases idx (u := u) (n := mn) (by omega) with hu | ⟨mj, hmj, rfl⟩
  · refine no (-1) ?_ ?_
    · unfold FX8_parts
      exact E_c h8 (E_b (cx_nomarch G.1 hu) rfl)
    · unfold FX9_parts
      exact E_c h9 (E_b (rx_nomarch R hu) (E_t rfl rfl))
  obtain ⟨pj', ej, _, _, _⟩ := cx_march G.1 hmj
  cases hR : meR S with
  | none =>
    obtain ⟨n1, n2⟩ := noM hR G RVw
    refine no (-1) ?_ ?_
    · unfold FX8_parts
      refine E_c h8 (E_b ej ?_)
      show ((hp w x 5).bind _) = _
      exact E_b h5 (E_c h3 (E_b n1 rfl))
    · unfold FX9_parts
      exact E_c h9 (E_b (rx_march R hmj) (E_f i10 (E_f n2 rfl)))
  | some mi =>
    obtain ⟨p, s, w1, mc, ms, hmi, em, e1, K1, p9, G1, C1, l1, lm, ls, lz, Rg⟩ := gath_both G R RVw V Su fs hR
    obtain ⟨z, w2, e2, hz, F2, G2, C2⟩ := great_c G1 C1 hmj l1
    have K2 := ke_su K1 C1.1 F2
    obtain ⟨c9, mi2⟩ := su_mi h8 h7 h9 K2
    obtain ⟨p16, ⟨u3, w3, e3, Q3, C3, R3⟩⟩ := Rg w2 c9 mi2
    obtain ⟨z4, w4, e4, hz4, Q4, C4⟩ := partsOf_r R3 C3 l1 C1.ok hmj
    have R2 := R.mi c9 mi2
    have h81 := G1.1.1
    have xs : x ≠ s := by intro e; have := C1.1; rw [← e, h81] at this; cases this
    have xr : x ≠ r := by intro e; have := G1.1.2.2.1; rw [← e, h81] at this; cases this
    have p92 : hp w2 x 9 = some s := by rw [F2.o (by unfold PGs; omega)]; exact p9
    have zz : z4 = z := by rw [hz4, hz, gm_rm]
    rw [zz] at e4
    refine ⟨z, w2, mc, ms, w4, ?_, ?_, K2, Q3.trans Q4, fun s' hs' => by rw [p92] at hs'; cases hs'; exact C2.1, by omega, Or.inr ⟨by rw [p92]; exact fun z => (by cases z), ls, lz⟩⟩
    · dsimp only
      unfold FX8_parts
      refine E_c h8 (E_b ej ?_)
      show ((hp w x 5).bind _) = _
      refine E_b h5 (E_c h3 (E_b em ?_))
      show ((FX8_gatheredSuspects sz w x).bind _) = _
      refine E_b e1 (bm0 ?_)
      dsimp only
      exact E_b rfl (E_b e2 rfl)
    · dsimp only
      unfold FX9_parts
      cases u3
      exact E_c c9 (E_b (rx_march R2 hmj) (E_f i10 (E_t p16 (E_b e3 (E_b e4 rfl)))))
/-- the march with the least -/
def askF (g : Nat → Nat) : Nat → Nat → Nat → Nat → Nat
  | _, 0, b, _ => b
  | i, d + 1, b, v => if g i < v then askF g (i + 1) d i (g i) else askF g (i + 1) d b v
theorem ask_c {g : Nat → Nat} (hg : ∀ j, g j = gmD (kD B N (meP S) (MM j) FL) FL.length) (l240 : FL.length ≤ 240) {w0 : HS} {z : Nat} : ∀ d i n b v w, i + d = mn → d < n → b ≤ 6 → v ≤ 240 → Fr (PGs r s) w0 w → GS w x r q N kn mn (meP S) ad S B MM → CFt w s kn (fun k => nP (B k) N) FL → ∃ w', FX8_ask_33 n w z x s (nI b) (nI v) (nI i) = some (nI (askF g i d b v), w', 0, 0) ∧ Fr (PGs r s) w0 w' ∧ CFt w' s kn (fun k => nP (B k) N) FL := by
  intro d
  induction d with
  | zero =>
    intro i n b v w he hn _ _ F G C
    obtain ⟨n, rfl⟩ : ∃ z, n = z + 1 := ⟨n - 1, by omega⟩
    have mn6 := G.1.2.2.2.2.2.2.1
    refine ⟨w, ?_, F, C⟩
    rw [FX8_ask_33, G.1.2.2.2.2.2.1]
    exact E_t (nI_le (by omega) (by omega)) rfl
  | succ d ih =>
    intro i n b v w he hn hb hv F G C
    obtain ⟨n, rfl⟩ : ∃ z, n = z + 1 := ⟨n - 1, by omega⟩
    have mn6 := G.1.2.2.2.2.2.2.1
    obtain ⟨z1, w1, e1, hz, F1, G1, C1⟩ := great_c G C (show i < mn by omega) l240
    rw [← hg i] at hz
    have gi : g i ≤ 240 := by
      rw [hg i]
      exact Nat.le_trans (gm_n _) l240
    by_cases h : g i < v
    · obtain ⟨w', e', r'⟩ := ih (i + 1) n i (g i) w1 (by omega) (by omega) (by omega) gi (F.trans F1) G1 C1
      refine ⟨w', ?_, r'⟩
      rw [FX8_ask_33, G.1.2.2.2.2.2.1]
      refine E_f (nI_ge (by omega) (by omega)) (E_b e1 (E_f ?_ ?_))
      · dsimp only
        rw [hz]
        exact nI_ge h (by omega)
      · unfold FX8_ask_63
        dsimp only
        rw [hz, nI_1, show askF g i (d + 1) b v = askF g (i + 1) d i (g i) from if_pos h]
        exact e'
    · obtain ⟨w', e', r'⟩ := ih (i + 1) n b v w1 (by omega) (by omega) hb hv (F.trans F1) G1 C1
      refine ⟨w', ?_, r'⟩
      rw [FX8_ask_33, G.1.2.2.2.2.2.1]
      refine E_f (nI_ge (by omega) (by omega)) (E_b e1 (E_t ?_ ?_))
      · dsimp only
        rw [hz]
        exact nI_le (by omega) (by omega)
      · unfold FX8_ask_63
        dsimp only
        rw [nI_1, show askF g i (d + 1) b v = askF g (i + 1) d b v from if_neg h]
        exact e'
theorem ask_r {g : Nat → Nat} (hg : ∀ j, g j = gmD (kD B N (meP S) (MM j) FL) FL.length) (l240 : FL.length ≤ 240) (ok : ∀ i, i < FL.length → (gt FL i).1 < kn ∧ (gt FL i).2 < nP (B (gt FL i).1) N) {w0 : HS} : ∀ d i n b v w, i + d = mn → d < n → b ≤ 6 → v ≤ 240 → Quiet m w0 w → RX w m kn mn B MM N (meP S) → RFt w m N kn B FL → ∃ w', FX9_ask_26 n w m (nI b) (nI v) (nI i) = some (nI (askF g i d b v), w') ∧ Quiet m w0 w' := by
  intro d
  induction d with
  | zero =>
    intro i n b v w he hn _ _ Q R C
    obtain ⟨n, rfl⟩ : ∃ z, n = z + 1 := ⟨n - 1, by omega⟩
    have mn6 := R.2.2.2.2.1
    refine ⟨w, ?_, Q⟩
    rw [FX9_ask_26, R.2.2.2.1]
    exact E_t (nI_le (by omega) (by omega)) rfl
  | succ d ih =>
    intro i n b v w he hn hb hv Q R C
    obtain ⟨n, rfl⟩ : ∃ z, n = z + 1 := ⟨n - 1, by omega⟩
    have mn6 := R.2.2.2.2.1
    obtain ⟨z1, w1, e1, hz, Q1, C1⟩ := partsOf_r R C l240 ok (show i < mn by omega)
    rw [gm_rm, ← hg i] at hz
    have gi : g i ≤ 240 := by
      rw [hg i]
      exact Nat.le_trans (gm_n _) l240
    by_cases h : g i < v
    · obtain ⟨w', e', r'⟩ := ih (i + 1) n i (g i) w1 (by omega) (by omega) (by omega) gi (Q.trans Q1) (R.qu Q1) C1
      refine ⟨w', ?_, r'⟩
      rw [FX9_ask_26, R.2.2.2.1]
      refine E_f (nI_ge (by omega) (by omega)) (E_b e1 (E_t ?_ ?_))
      · dsimp only
        rw [hz]
        exact nI_lt h (by omega)
      · unfold FX9_ask_55
        dsimp only
        rw [hz, nI_1, show askF g i (d + 1) b v = askF g (i + 1) d i (g i) from if_pos h]
        exact e'
    · obtain ⟨w', e', r'⟩ := ih (i + 1) n b v w1 (by omega) (by omega) hb hv (Q.trans Q1) (R.qu Q1) C1
      refine ⟨w', ?_, r'⟩
      rw [FX9_ask_26, R.2.2.2.1]
      refine E_f (nI_ge (by omega) (by omega)) (E_b e1 (E_f ?_ ?_))
      · dsimp only
        rw [hz]
        exact nI_nlt (by omega) (by omega)
      · unfold FX9_ask_55
        dsimp only
        rw [nI_1, show askF g i (d + 1) b v = askF g (i + 1) d b v from if_neg h]
        exact e'
theorem ask_call (G : GS w x r q N kn mn (meP S) ad S B MM) (R : RX w m kn mn B MM N (meP S)) (RVw : RV (ha w m 16) S) (V : VS kn mn N B MM S) (Su : SUs w x) (fs : ∀ b, hc w b < 10 → b < sz) : SUQ w x r m sz (fun sz w x => FX8_ask sz w x) (fun w m => FX9_ask w m) := by
  have h8 := G.1.1
  have h7 := G.1.2.2.1
  have h9 := R.1
  have h5 := G.2.1.1
  have h3 := G.2.2.1
  have mn6 := R.2.2.2.2.1
  cases hR : meR S with
  | none =>
    obtain ⟨n1, n2⟩ := noM hR G RVw
    refine ⟨-1, w, 0, 0, w, ?_, ?_, Ke.refl, Quiet.refl, Su, by decide, Or.inl ⟨rfl, rfl⟩⟩
    · dsimp only
      unfold FX8_ask
      exact E_c h8 (E_b h5 (E_c h3 (E_b n1 rfl)))
    · dsimp only
      unfold FX9_ask
      exact E_c h9 (E_f n2 rfl)
  | some mi =>
    obtain ⟨p, s, w1, mc, ms, hmi, em, e1, K1, p9, G1, C1, l1, lm, ls, lz, Rg⟩ := gath_both G R RVw V Su fs hR
    obtain ⟨g, hg⟩ : ∃ g : Nat → Nat, ∀ j, g j = gmD (kD B N (meP S) (MM j) (fitL B N MM S kn mi (meH S))) (fitL B N MM S kn mi (meH S)).length := ⟨fun j => gmD (kD B N (meP S) (MM j) (fitL B N MM S kn mi (meH S))) (fitL B N MM S kn mi (meH S)).length, fun _ => rfl⟩
    have g0 : g 0 ≤ 240 := by
      rw [hg 0]
      exact Nat.le_trans (gm_n _) l1
    obtain ⟨z, w2, e2, hz, F2, G2, C2⟩ := great_c G1 C1 (show 0 < mn by omega) l1
    rw [← hg 0] at hz
    obtain ⟨w3, e3, F3, C3⟩ := ask_c (z := sz + mc) (w0 := w1) hg l1 (mn - 1) 1 FUEL 0 (g 0) w2 (by omega) (fuel_lt (by omega)) (by omega) g0 F2 G2 C2
    have K3 := ke_su K1 C1.1 F3
    obtain ⟨c9, mi3⟩ := su_mi h8 h7 h9 K3
    obtain ⟨p16, ⟨u4, w4, e4, Q4, C4, R4⟩⟩ := Rg w3 c9 mi3
    obtain ⟨z5, w5, e5, hz5, Q5, C5⟩ := partsOf_r R4 C4 l1 C1.ok (show 0 < mn by omega)
    rw [gm_rm, ← hg 0] at hz5
    obtain ⟨w6, e6, Q6⟩ := ask_r (w0 := w3) hg l1 C1.ok (mn - 1) 1 FUEL 0 (g 0) w5 (by omega) (fuel_lt (by omega)) (by omega) g0 (Q4.trans Q5) (R4.qu Q5) C5
    have h81 := G1.1.1
    have xs : x ≠ s := by intro e; have := C1.1; rw [← e, h81] at this; cases this
    have xr : x ≠ r := by intro e; have := G1.1.2.2.1; rw [← e, h81] at this; cases this
    have p93 : hp w3 x 9 = some s := by rw [F3.o (by unfold PGs; omega)]; exact p9
    refine ⟨nI (askF g 1 (mn - 1) 0 (g 0)), w3, mc, ms, w6, ?_, ?_, K3, Q6, fun s' hs' => by rw [p93] at hs'; cases hs'; exact C3.1, by omega, Or.inr ⟨by rw [p93]; exact fun z => (by cases z), ls, lz⟩⟩
    · dsimp only
      unfold FX8_ask
      refine E_c h8 (E_b h5 (E_c h3 (E_b em ?_)))
      show ((FX8_gatheredSuspects sz w x).bind _) = _
      refine E_b e1 (bm0 ?_)
      dsimp only
      refine E_b rfl (E_b e2 ?_)
      dsimp only
      rw [hz]
      exact e3
    · dsimp only
      unfold FX9_ask
      cases u4
      refine E_c c9 (E_t p16 (E_b e4 (E_b e5 ?_)))
      dsimp only
      rw [hz5]
      exact e6
end PC
