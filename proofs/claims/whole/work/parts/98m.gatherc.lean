/-! Class: the suspects gathered. -/
section GC
variable {w0 : HS} {x r q s N kn mn f ch mi : Nat} {mp ad : Nat → Nat} {S : Me} {B : Nat → Book} {MM : Nat → Mch}
theorem LVq.ke {P : Nat → Nat → Prop} {w w' : HS} (h : LVq w x q N mp ad) (hx : hc w x = 8) (g : Ke P w w') (n5 : ¬ P x 5) (n0 : ¬ P q 0) (n10 : ¬ P q 10) : LVq w' x q N mp ad := by
  obtain ⟨l1, l2, l3, l4, l5, l6, l7⟩ := h
  exact ⟨by rw [g.o hx (by decide) n5]; exact l1, g.c l2 (by decide), by rw [g.i l2 (by decide) n0]; exact l3, l4, l5, by rw [g.ar l2 (by decide) n10]; exact l6, l7⟩
/-- class: what the gathering reads -/
def GS (w : HS) (x r q N kn mn : Nat) (mp ad : Nat → Nat) (S : Me) (B : Nat → Book) (MM : Nat → Mch) : Prop := CX w x r kn mn B MM ∧ LVq w x q N mp ad ∧ MV w q N S
def PGs (r s : Nat) : Nat → Nat → Prop := fun b _ => b = r ∨ b = s
theorem GS.ke {P : Nat → Nat → Prop} {w w' : HS} (G : GS w x r q N kn mn mp ad S B MM) (g : Ke P w w') (nx : ∀ k, k ≠ 9 → ¬ P x k) (nq : ∀ k, ¬ P q k) (nk : ∀ p, (hc w p = 1 ∨ hc w p = 2) → ∀ k, ¬ P p k) : GS w' x r q N kn mn mp ad S B MM := by
  obtain ⟨g1, g2, g3⟩ := G
  exact ⟨g1.ks g ⟨nx _ (by decide), nx _ (by decide), nx _ (by decide), nx _ (by decide), nx _ (by decide), nx _ (by decide)⟩ nk, g2.ke g1.1 g (nx _ (by decide)) (nq _) (nq _), g3.ke g nq⟩
theorem GS.fr {w w' : HS} (G : GS w x r q N kn mn mp ad S B MM) (s5 : hc w s = 5) (F : Fr (PGs r s) w w') : GS w' x r q N kn mn mp ad S B MM := by
  have h8 := G.1.1
  have h7 := G.1.2.2.1
  have h3 := G.2.2.1
  refine G.ke (Ke.of F) (fun k _ z => ?_) (fun k z => ?_) (fun p hp k z => ?_)
  · rcases z with z | z
    · rw [z, h7] at h8; cases h8
    · rw [z, s5] at h8; cases h8
  · rcases z with z | z
    · rw [z, h7] at h3; cases h3
    · rw [z, s5] at h3; cases h3
  · rcases z with z | z
    · rw [z, h7] at hp; omega
    · rw [z, s5] at hp; omega
theorem CFt.fr {w w' : HS} {np : Nat → Nat} {L : List (Nat × Nat)} {P : Nat → Nat → Prop} (h : CFt w s kn np L) (F : Fr P w w') (n : ∀ k, ¬ P s k) : CFt w' s kn np L := by
  obtain ⟨h1, h2, h3⟩ := h
  exact ⟨by rw [F.c]; exact h1, by rw [F.i (n 0)]; exact h2, by rw [F.ar (n 2)]; exact h3⟩
theorem add_c {w : HS} {np : Nat → Nat} {L : List (Nat × Nat)} {k p : Nat} (h : CFt w s kn np L) (l : L.length < 240) (hk : k < kn) (hp : p < np k) : ∃ w', FX5_add w s (nI k) (nI p) = some ((), w') ∧ Fr (fun b _ => b = s) w w' ∧ CFt w' s kn np (L ++ [(k, p)]) := by
  obtain ⟨h1, h2, h3⟩ := h
  have el : (L ++ [(k, p)]).length = L.length + 1 := by rw [List.length_append]; rfl
  obtain ⟨w', hw⟩ : ∃ w', w' = setI (setA w s 2 L.length (nI (32 * k + p))) s 0 (nI (L.length + 1)) := ⟨_, rfl⟩
  refine ⟨w', ?_, by rw [hw]; exact Fr.trans (p := fun b _ => b = s) (Fr.sA (p := fun b _ => b = s) rfl) (Fr.sI (p := fun b _ => b = s) rfl), by rw [hw]; exact h1, by rw [hw, hi_setI, if_pos ⟨rfl, rfl⟩, el], fun i hi => ?_⟩
  · unfold FX5_add
    rw [h2, nI_clamp (by omega), l32_, nI_mul, nI_add]
    refine E_c h1 (E_f (nI_ge (b := 240) l (by decide)) (E_i rfl l (by decide) (E_d (E_d ?_))))
    rw [hi_setA, h2, nI_1, ← hw]
  · rw [el] at hi
    rw [hw, ha_setI, ha_setA, if_pos ⟨rfl, rfl⟩]
    by_cases e : i = L.length
    · rw [e, gt_new, upd_s]
      exact ⟨rfl, hk, hp⟩
    · rw [upd_n e, gt_old (by omega)]
      exact h3 i (by omega)
/-- class: one kind -/
theorem gather_k {k kp p : Nat} (G0 : GS w0 x r q N kn mn mp ad S B MM) (s5 : hc w0 s = 5) (Vl : VL S) (hF : meF S = some f) (hH : hi w0 q 7 = nI ch) (hch : ch < 8) (hk : k < kn) (hqk : hq w0 x 1 k = some kp) (hmi : mi < mn) (hqm : hq w0 x 3 mi = some p) : ∀ d i n L w, i + d = nP (B k) N → d < n → Fr (PGs r s) w0 w → CFt w s kn (fun k => nP (B k) N) L → L.length ≤ 30 * k + i → Rn (FX8_gatherOf_3 n w x s kp (nI k) p (nI i)) (fun _ w' => Fr (PGs r s) w0 w' ∧ CFt w' s kn (fun k => nP (B k) N) (gthP (fun k p => fitC (B k) N ad (MM mi) ch S p) k i d L) ∧ (gthP (fun k p => fitC (B k) N ad (MM mi) ch S p) k i d L).length ≤ 30 * k + nP (B k) N) := by
  have kn8 := G0.1.2.2.2.2.1
  have l4 := G0.2.1.2.2.2.1
  have l5 := G0.2.1.2.2.2.2.1
  have h8 := G0.1.1
  have h7 := G0.1.2.2.1
  have h3 := G0.2.2.1
  have xr : x ≠ r := by intro e; rw [e, h7] at h8; cases h8
  have xs : x ≠ s := by intro e; rw [e, s5] at h8; cases h8
  have qr : q ≠ r := by intro e; rw [e, h7] at h3; cases h3
  have qs : q ≠ s := by intro e; rw [e, s5] at h3; cases h3
  have rs : r ≠ s := by intro e; rw [e, s5] at h7; cases h7
  have np31 := (nP_pos (b := B k) l4 l5).2
  intro d
  induction d with
  | zero =>
    intro i n L w he hn F C hl
    obtain ⟨n, rfl⟩ : ∃ z, n = z + 1 := ⟨n - 1, by omega⟩
    have G := G0.fr s5 F
    obtain ⟨kp', hk1, K, W⟩ := G.1.2.2.2.2.2.2.2.1 k hk
    rw [F.qq (by unfold PGs; omega), hqk] at hk1
    cases hk1
    rw [FX8_gatherOf_3]
    refine Rn.pp G.2.1.1 (Rn.okc G.2.2.1 ?_)
    rw [G.2.2.2.1]
    refine Rn.eq (ck_np K l4) (Rn.t (nI_le (by omega) (by omega)) (Rn.ret ⟨F, C, ?_⟩))
    show L.length ≤ _
    omega
  | succ d ih =>
    intro i n L w he hn F C hl
    obtain ⟨n, rfl⟩ : ∃ z, n = z + 1 := ⟨n - 1, by omega⟩
    have G := G0.fr s5 F
    obtain ⟨kp', hk1, K, W⟩ := G.1.2.2.2.2.2.2.2.1 k hk
    rw [F.qq (by unfold PGs; omega), hqk] at hk1
    cases hk1
    obtain ⟨p', hp1, Mc, hM⟩ := G.1.2.2.2.2.2.2.2.2.1 mi hmi
    rw [F.qq (by unfold PGs; omega), hqm] at hp1
    cases hp1
    have GL : KL w x r kp p (B k) (MM mi) q N mp ad := ⟨⟨G.1.1, G.1.2.1, G.1.2.2.1, K, W, Mc, hM⟩, G.2.1⟩
    have hpl : i < nP (B k) N := by omega
    have nx : ∀ w' L', Fr (PGs r s) w0 w' → CFt w' s kn (fun k => nP (B k) N) L' → L'.length ≤ 30 * k + (i + 1) → L' = (if fitC (B k) N ad (MM mi) ch S i = true then L ++ [(k, i)] else L) → Rn (FX8_gatherOf_43 (FX8_gatherOf_3 n) w' x s kp (nI k) p (nI i)) (fun _ w' => Fr (PGs r s) w0 w' ∧ CFt w' s kn (fun k => nP (B k) N) (gthP (fun k p => fitC (B k) N ad (MM mi) ch S p) k i (d + 1) L) ∧ (gthP (fun k p => fitC (B k) N ad (MM mi) ch S p) k i (d + 1) L).length ≤ 30 * k + nP (B k) N) := by
      intro w' L' F' C' hl' eL
      unfold FX8_gatherOf_43 gthP
      rw [nI_1, ← eL]
      exact ih (i + 1) n L' w' (by omega) (by omega) F' C' hl'
    rw [FX8_gatherOf_3]
    refine Rn.pp G.2.1.1 (Rn.okc G.2.2.1 ?_)
    rw [G.2.2.2.1]
    refine Rn.eq (ck_np K l4) (Rn.f (nI_ge (by omega) (by omega)) ?_)
    refine (kl_aim GL Fr.refl hpl).call ?_
    rintro _ w1 ⟨F1, AT1⟩
    refine (could_call GL G.2.2 Vl hF (by rw [F.i (by unfold PGs; omega)]; exact hH) hch hpl F1 AT1).call ?_
    rintro z w2 ⟨hz, F2⟩
    have F2' : Fr (PGs r s) w w2 := F2.mono (fun b k z => Or.inl z)
    have C2 : CFt w2 s kn (fun k => nP (B k) N) L := C.fr F2 (fun k z => rs z.symm)
    dsimp only
    rw [hz]
    by_cases t : fitC (B k) N ad (MM mi) ch S i = true
    · rw [if_pos t]
      refine Rn.f i10 ?_
      obtain ⟨w3, e3, F3, C3⟩ := add_c C2 (k := k) (p := i) (by omega) hk hpl
      refine Rn.eq e3 (nx w3 _ ((F.trans F2').trans (F3.mono (fun b k z => Or.inr z))) C3 ?_ ?_)
      · rw [List.length_append]
        show L.length + 1 ≤ _
        omega
      · rw [if_pos t]
    · rw [if_neg t]
      exact Rn.t rfl (nx w2 L (F.trans F2') C2 (by omega) (by rw [if_neg t]))
/-- class: all kinds -/
theorem gather_all {p z : Nat} (G0 : GS w0 x r q N kn mn mp ad S B MM) (s5 : hc w0 s = 5) (Vl : VL S) (hF : meF S = some f) (hH : hi w0 q 7 = nI ch) (hch : ch < 8) (hmi : mi < mn) (hqm : hq w0 x 3 mi = some p) : ∀ d k n L w, k + d = kn → d < n → Fr (PGs r s) w0 w → CFt w s kn (fun k => nP (B k) N) L → L.length ≤ 30 * k → ∃ w', FX8_gatheredSuspects_42 n w z x s (some p) (nI k) = some (some s, w', 0, 0) ∧ Fr (PGs r s) w0 w' ∧ CFt w' s kn (fun k => nP (B k) N) (gthK (fun k p => fitC (B k) N ad (MM mi) ch S p) (fun k => nP (B k) N) k d L) ∧ (gthK (fun k p => fitC (B k) N ad (MM mi) ch S p) (fun k => nP (B k) N) k d L).length ≤ 240 := by
  have kn8 := G0.1.2.2.2.2.1
  have l4 := G0.2.1.2.2.2.1
  have l5 := G0.2.1.2.2.2.2.1
  have h8 := G0.1.1
  have h7 := G0.1.2.2.1
  have xr : x ≠ r := by intro e; rw [e, h7] at h8; cases h8
  have xs : x ≠ s := by intro e; rw [e, s5] at h8; cases h8
  intro d
  induction d with
  | zero =>
    intro k n L w he hn F C hl
    obtain ⟨n, rfl⟩ : ∃ z, n = z + 1 := ⟨n - 1, by omega⟩
    have G := G0.fr s5 F
    refine ⟨w, ?_, F, C, ?_⟩
    · rw [FX8_gatheredSuspects_42, G.1.2.2.2.1]
      exact E_t (nI_le (by omega) (by omega)) rfl
    · show L.length ≤ _
      omega
  | succ d ih =>
    intro k n L w he hn F C hl
    obtain ⟨n, rfl⟩ : ∃ z, n = z + 1 := ⟨n - 1, by omega⟩
    have G := G0.fr s5 F
    obtain ⟨kp, ek, K, W, hqk⟩ := cx_kind G.1 (show k < kn by omega)
    have hqk0 : hq w0 x 1 k = some kp := by
      rw [F.qq (by unfold PGs; omega)] at hqk
      exact hqk
    have np31 := (nP_pos (b := B k) l4 l5).2
    obtain ⟨u, w1, e1, F1, C1, hl1⟩ := gather_k (k := k) G0 s5 Vl hF hH hch (by omega) hqk0 hmi hqm (nP (B k) N) 0 FUEL L w (by omega) (fuel_lt (by omega)) F C (by omega)
    obtain ⟨w2, e2, r2⟩ := ih (k + 1) n _ w1 (by omega) (by omega) F1 C1 (by omega)
    refine ⟨w2, ?_, r2⟩
    rw [FX8_gatheredSuspects_42, G.1.2.2.2.1]
    refine E_f (nI_ge (by omega) (by omega)) (E_b ek ?_)
    show (FX8_gatherOf w x s kp (nI k) p).bind _ = _
    cases u
    refine E_b (a := ((), w1)) ?_ ?_
    · unfold FX8_gatherOf
      exact E_c G.1.1 e1
    · unfold FX8_gatheredSuspects_75
      rw [nI_1]
      exact e2
/-- what gathering may change -/
def PSu (w : HS) (x r : Nat) : Nat → Nat → Prop := fun b k => b = r ∨ hc w b = 5 ∨ (b = x ∧ k = 9)
/-- the suspects, if they are made, are suspects -/
def SUs (w : HS) (x : Nat) : Prop := ∀ s, hp w x 9 = some s → hc w s = 5
theorem suspects_c {w : HS} {p sz : Nat} (G : GS w x r q N kn mn mp ad S B MM) (Su : SUs w x) (Vl : VL S) (hF : meF S = some f) (hR : meR S = some mi) (hH : hi w q 7 = nI ch) (hch : ch < 8) (hmi : mi < mn) (hqm : hq w x 3 mi = some p) (fs : ∀ b, hc w b < 10 → b < sz) : ∃ s w1 mc ms, FX8_gatheredSuspects sz w x = some (some s, w1, mc, ms) ∧ Ke (PSu w x r) w w1 ∧ hp w1 x 9 = some s ∧ GS w1 x r q N kn mn mp ad S B MM ∧ CFt w1 s kn (fun k => nP (B k) N) (gthK (fun k p => fitC (B k) N ad (MM mi) ch S p) (fun k => nP (B k) N) 0 kn []) ∧ (gthK (fun k p => fitC (B k) N ad (MM mi) ch S p) (fun k => nP (B k) N) 0 kn []).length ≤ 240 ∧ mc ≤ 5 ∧ ms ≤ 1926 ∧ (hp w x 9 ≠ none → ms = 0) := by
  have kn8 := G.1.2.2.2.2.1
  have mn6 := G.1.2.2.2.2.2.2.1
  have h8 := G.1.1
  have h7 := G.1.2.2.1
  have h3 := G.2.2.1
  have xr : x ≠ r := by intro e; rw [e, h7] at h8; cases h8
  -- the rest, for a made object
  have rest : ∀ (wv : HS) (s z : Nat), GS wv x r q N kn mn mp ad S B MM → hc wv s = 5 → hp wv x 9 = some s → hi wv q 7 = nI ch → hq wv x 3 mi = some p → ∃ w', FX8_gatheredSuspects_18 wv z x = some (some s, w', 0, 0) ∧ Fr (PGs r s) wv w' ∧ CFt w' s kn (fun k => nP (B k) N) (gthK (fun k p => fitC (B k) N ad (MM mi) ch S p) (fun k => nP (B k) N) 0 kn []) ∧ (gthK (fun k p => fitC (B k) N ad (MM mi) ch S p) (fun k => nP (B k) N) 0 kn []).length ≤ 240 := by
    intro wv s z Gv s5 p9 v7 vqm
    have v8 := Gv.1.1
    have v3 := Gv.2.2.1
    have xs : x ≠ s := by intro e; rw [e, s5] at v8; cases v8
    have qs : q ≠ s := by intro e; rw [e, s5] at v3; cases v3
    obtain ⟨wa, hwa⟩ : ∃ wa, wa = setI wv s 0 0 := ⟨_, rfl⟩
    have fa : Fr (PGs r s) wv wa := by rw [hwa]; exact Fr.sI (Or.inr rfl)
    have fa2 : Fr (fun b k => b = s ∧ k = 0) wv wa := by rw [hwa]; exact Fr.sI ⟨rfl, rfl⟩
    have Ga := Gv.fr s5 fa
    have Ca : CFt wa s kn (fun k => nP (B k) N) [] := ⟨by rw [fa.c]; exact s5, by rw [hwa, hi_setI, if_pos ⟨rfl, rfl⟩]; rfl, fun i hi => absurd hi (Nat.not_lt_zero _)⟩
    obtain ⟨w', e', F', C', l'⟩ := gather_all (w0 := wa) (p := p) (z := z) (mi := mi) Ga (by rw [fa.c]; exact s5) Vl hF (by rw [fa2.i (fun y => qs y.1)]; exact v7) hch hmi (by rw [fa2.qq (fun y => xs y.1)]; exact vqm) kn 0 FUEL [] wa (by omega) (fuel_lt (by omega)) Fr.refl Ca (Nat.zero_le _)
    refine ⟨w', ?_, fa.trans F', C', l'⟩
    obtain ⟨p', e1, _, _, hp'⟩ := cx_march Ga.1 hmi
    rw [fa2.qq (fun y => xs y.1), vqm] at hp'
    cases hp'
    unfold FX8_gatheredSuspects_18
    refine E_b p9 (E_c s5 (E_d ?_))
    rw [← hwa]
    refine E_b Ga.2.1.1 (E_c Ga.2.2.1 ?_)
    rw [Ga.2.2.2.2.2.2.2.2.1, hR]
    exact E_b e1 e'
  cases h9 : hp w x 9 with
  | some s =>
    have s5 := Su s h9
    obtain ⟨w', e', F', C', l'⟩ := rest w s sz G s5 h9 hH hqm
    have xs : x ≠ s := by intro e; rw [e, s5] at h8; cases h8
    refine ⟨s, w', 0, 0, ?_, (Ke.of F').mono (fun b k z => ?_), by rw [F'.o (by unfold PGs; omega)]; exact h9, G.fr s5 F', C', l', by decide, by decide, fun _ => rfl⟩
    · unfold FX8_gatheredSuspects
      refine E_c h8 ?_
      rw [h9]
      exact e'
    · rcases z with z | z
      · exact Or.inl z
      · exact Or.inr (Or.inl (by rw [z]; exact s5))
  | none =>
    obtain ⟨wa, hwa⟩ : ∃ wa, wa = nwX5 w sz := ⟨_, rfl⟩
    have ka : ∀ {P : Nat → Nat → Prop}, Ke P w wa := fun {P} => by rw [hwa]; exact Ke.nw fs
    have sc : hc wa sz = 5 := by rw [hwa]; exact if_pos rfl
    obtain ⟨wb, hwb⟩ : ∃ wb, wb = setP wa x 9 (some sz) := ⟨_, rfl⟩
    have fb : Fr (fun b k => b = x ∧ k = 9) wa wb := by rw [hwb]; exact Fr.sP ⟨rfl, rfl⟩
    have kb : Ke (fun b k => b = x ∧ k = 9) w wb := ka.st fb (fun b k _ z => z)
    have sb5 : hc wb sz = 5 := by rw [fb.c]; exact sc
    have Gb : GS wb x r q N kn mn mp ad S B MM := G.ke kb (fun k hk z => hk z.2) (fun k z => by rw [z.1, h8] at h3; cases h3) (fun p hp k z => by rw [z.1, h8] at hp; omega)
    have b9 : hp wb x 9 = some sz := by rw [hwb, hp_setP, if_pos ⟨rfl, rfl⟩]
    obtain ⟨w', e', F', C', l'⟩ := rest wb sz ((sz + 1) + 4) Gb sb5 b9 (by rw [kb.i h3 (by decide) (fun z => by rw [z.1, h8] at h3; cases h3)]; exact hH) (by rw [kb.qq h8 (by decide) (by omega)]; exact hqm)
    have xsz : x < sz := fs x (by omega)
    refine ⟨sz, w', 5, 1926, ?_, ?_, by rw [F'.o (by unfold PGs; omega)]; exact b9, Gb.fr sb5 F', C', l', by decide, by decide, fun z => absurd rfl z⟩
    · unfold FX8_gatheredSuspects
      refine E_c h8 ?_
      rw [h9]
      refine bmw_e (c := 1) (s := 6) (z := (some sz, w', 4, 1920)) (bmw_e (c := 4) (s := 1920) (z := (some sz, w', 0, 0)) (E_d (E_d ?_)))
      rw [← hwa, ← hwb]
      exact e'
    · refine (Ke.mono (P' := PSu w x r) kb (fun b k z => Or.inr (Or.inr z))).st F' (fun b k hb z => ?_)
      rcases z with z | z
      · exact Or.inl z
      · have := fs b hb
        omega
end GC
