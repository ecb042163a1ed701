/-! The greatest part: class. -/
/-- the log of the i-th fault that fits, from cells 0 -/
def pD (B : Nat → Book) (N : Nat) (mp : Nat → Nat) (M : Mch) (FL : List (Nat × Nat)) (i : Nat) : List (Nat × Nat) := rL (B (gt FL i).1) (pA (B (gt FL i).1) N (gt FL i).2) (pV (B (gt FL i).1) N (gt FL i).2) N mp M 0 0
def kD (B : Nat → Book) (N : Nat) (mp : Nat → Nat) (M : Mch) (FL : List (Nat × Nat)) (i : Nat) : Nat × List (Nat × Nat) := kyL (pD B N mp M FL i)
theorem rl_len {b : Book} {a v N ch c : Nat} {mp : Nat → Nat} {M : Mch} (hM : WM M) (h6 : N ≤ 6) : (rL b a v N mp M ch c).length ≤ 288 := by
  have g := (rl_good (b := b) (a := a) (v := v) (N := N) (ch := ch) (M := M) (mp := mp) (c := c)).2
  have key : ∀ k, k < (rL b a v N mp M ch c).length → k ≤ (gt (rL b a v N mp M ch c) k).1 := by
    intro k
    induction k with
    | zero => intro _; exact Nat.zero_le _
    | succ k ih =>
      intro hk
      have h1 := ih (by omega)
      have h2 := g k (k + 1) (by omega) hk
      omega
  by_cases h : (rL b a v N mp M ch c).length ≤ 288
  · exact h
  · have h1 := key 288 (by omega)
    have h2 := (rl_bd (b := b) (a := a) (v := v) (N := N) (ch := ch) (M := M) (mp := mp) (c := c) hM h6 288 (by omega)).1
    omega
theorem rl_glg {b : Book} {a v N c : Nat} {mp : Nat → Nat} {M : Mch} (hM : WM M) (h6 : N ≤ 6) : GLg M N (rL b a v N mp M 0 c) := by
  have g := rl_good (b := b) (a := a) (v := v) (N := N) (ch := 0) (M := M) (mp := mp) (c := c)
  exact ⟨by have := rl_len (b := b) (a := a) (v := v) (N := N) (ch := 0) (M := M) (mp := mp) (c := c) hM h6; omega, g.1, fun k hk => (rl_bd hM h6 k hk).1, g.2⟩
theorem gm_n {D : Nat → Key} (n : Nat) : gmD D n ≤ n := gm_le n n (fun i _ => asE_le _ n)
section GP
variable {w0 : HS} {x r q s N kn mn mj : Nat} {mp ad : Nat → Nat} {S : Me} {B : Nat → Book} {MM : Nat → Mch} {FL : List (Nat × Nat)}
theorem PTs.fr {P : Nat → Nat → Prop} {w w' : HS} {D : Nat → List (Nat × Nat)} {i pc : Nat} {rp : Nat → Nat} (h : PTs w s D i pc rp) (F : Fr P w w') (n : ∀ k, ¬ P s k) : PTs w' s D i pc rp := by
  obtain ⟨h1, h2, h3, h4, h5, h6⟩ := h
  refine ⟨by rw [F.c]; exact h1, by rw [F.i (n 1)]; exact h2, h3, fun t ht => ?_, h5, h6⟩
  obtain ⟨a1, ⟨b1, b2⟩, a3⟩ := h4 t ht
  exact ⟨a1, ⟨by rw [F.ar (n 4)]; exact b1, by intro u hu b hb; rw [F.j (n 5)]; exact b2 u hu b hb⟩, by rw [F.ar (n 3)]; exact a3⟩
theorem great_loop {p : Nat} (G0 : GS w0 x r q N kn mn mp ad S B MM) (s5 : hc w0 s = 5) (hmj : mj < mn) (hqm : hq w0 x 3 mj = some p) (l240 : FL.length ≤ 240) : ∀ d i n w pc rp, i + d = FL.length → d < n → Fr (PGs r s) w0 w → CFt w s kn (fun k => nP (B k) N) FL → PTs w s (pD B N mp (MM mj) FL) i pc rp → Rn (FX8_greatestPart_17 n w x s (some p) (nI (gmD (kD B N mp (MM mj) FL) i)) (nI i)) (fun z w' => z = nI (gmD (kD B N mp (MM mj) FL) FL.length) ∧ Fr (PGs r s) w0 w' ∧ CFt w' s kn (fun k => nP (B k) N) FL) := by
  have kn8 := G0.1.2.2.2.2.1
  have l4 := G0.2.1.2.2.2.1
  have l5 := G0.2.1.2.2.2.2.1
  have h8 := G0.1.1
  have h7 := G0.1.2.2.1
  have h3 := G0.2.2.1
  have xr : x ≠ r := by intro e; rw [e, h7] at h8; cases h8
  have xs : x ≠ s := by intro e; rw [e, s5] at h8; cases h8
  have rs : r ≠ s := by intro e; rw [e, s5] at h7; cases h7
  have np32 : ∀ k, (fun k => nP (B k) N) k < 32 := fun k => by have := (nP_pos (b := B k) l4 l5).2; show nP (B k) N < 32; omega
  intro d
  induction d with
  | zero =>
    intro i n w pc rp he hn F C P
    obtain ⟨n, rfl⟩ : ∃ z, n = z + 1 := ⟨n - 1, by omega⟩
    have e : i = FL.length := by omega
    rw [FX8_greatestPart_17, C.2.1]
    exact Rn.okc C.1 (Rn.t (nI_le (by omega) (by omega)) (Rn.ret ⟨by rw [e], F, C⟩))
  | succ d ih =>
    intro i n w pc rp he hn F C P
    obtain ⟨n, rfl⟩ : ∃ z, n = z + 1 := ⟨n - 1, by omega⟩
    have G := G0.fr s5 F
    obtain ⟨k1, k2⟩ := kindOf_c C kn8 np32 l240 (show i < FL.length by omega)
    obtain ⟨_, a2, a3⟩ := C.2.2 i (by omega)
    obtain ⟨kp, ek, K, W, _⟩ := cx_kind G.1 a2
    obtain ⟨p', hp1, Mc, hM⟩ := G.1.2.2.2.2.2.2.2.2.1 mj hmj
    rw [F.qq (by unfold PGs; omega), hqm] at hp1
    cases hp1
    have A := G.2.1.2.2.2.2.2.2
    have GL : KL w x r kp p (B (gt FL i).1) (MM mj) q N mp ad := ⟨⟨G.1.1, G.1.2.1, G.1.2.2.1, K, W, Mc, hM⟩, G.2.1⟩
    have gi := gm_n (D := kD B N mp (MM mj) FL) i
    rw [FX8_greatestPart_17, C.2.1]
    refine Rn.okc C.1 (Rn.f (nI_ge (by omega) (by omega)) (Rn.eq k1 (Rn.eq ek ?_)))
    show Rn ((FX5_placementOf w s (nI i)).bind _) _
    refine Rn.eq k2 ((kl_aim GL Fr.refl a3).call ?_)
    rintro _ w1 ⟨F1, AT1⟩
    refine Rn.pp (show hp w1 x 7 = some r by rw [F1.o (fun z => xr z)]; exact G.1.2.1) ((kt_go (ch := 0) (c := 0) GL.1 F1 AT1 (by decide) (by decide)).call ?_)
    rintro z2 w2 ⟨_, l9, ⟨y, CT2⟩, F2, _⟩
    obtain ⟨o1, o2, o3, o4, o5⟩ := at_ok W l4 l5 a3 A
    have eg := rl_gl (ch := 0) (c := 0) (geo_of W hM l4 l5 a3 A) o1 o2 o3 o4 o5 (by decide)
    have pj0 : pj (pA (B (gt FL i).1) N (gt FL i).2) (pV (B (gt FL i).1) N (gt FL i).2) 0 = 0 := by
      unfold pj bt
      rw [Nat.zero_div, Nat.zero_div]
    rw [pj0] at eg
    rw [← eg] at CT2 l9
    have T2 : TLg w2 r (pD B N mp (MM mj) FL i) := ⟨by rw [F2.c]; exact G.1.2.2.1, CT2.2.2.2.1, l9, CT2.2.2.2.2.2⟩
    have P2 := P.fr F2 (fun k z => rs z.symm)
    have C2 := C.fr F2 (fun k z => rs z.symm)
    obtain ⟨w3, pc', rp', e3, F3, P3⟩ := partWith_c P2 T2 (M := MM mj) (N := N) (fun j _ => rl_glg hM l5) (by omega)
    refine Rn.pp (show hp w2 x 7 = some r by rw [F2.o (fun z => xr z)]; exact G.1.2.1) (Rn.eq e3 ?_)
    unfold FX8_greatestPart_87
    dsimp only
    have cle := asE_le (D := fun j => kyL (pD B N mp (MM mj) FL j)) (kyL (pD B N mp (MM mj) FL i)) (i + 1)
    have em : (if nI (gmD (kD B N mp (MM mj) FL) i) < nI (asE (fun j => kyL (pD B N mp (MM mj) FL j)) (kyL (pD B N mp (MM mj) FL i)) (i + 1)) then nI (asE (fun j => kyL (pD B N mp (MM mj) FL j)) (kyL (pD B N mp (MM mj) FL i)) (i + 1)) else nI (gmD (kD B N mp (MM mj) FL) i)) = nI (gmD (kD B N mp (MM mj) FL) (i + 1)) := by
      show _ = nI (mxN (gmD (kD B N mp (MM mj) FL) i) (asE (fun j => kyL (pD B N mp (MM mj) FL j)) (kyL (pD B N mp (MM mj) FL i)) (i + 1)))
      unfold mxN
      by_cases h : gmD (kD B N mp (MM mj) FL) i < asE (fun j => kyL (pD B N mp (MM mj) FL j)) (kyL (pD B N mp (MM mj) FL i)) (i + 1)
      · rw [if_pos h, if_pos (nI_lt h (by omega))]
      · rw [if_neg h, if_neg (nI_nlt (by omega) (by omega))]
    rw [em, nI_1]
    have C3 : CFt w3 s kn (fun k => nP (B k) N) FL := ⟨by rw [F3.c]; exact C2.1, by rw [F3.i (by omega)]; exact C2.2.1, by rw [F3.ar (by omega)]; exact C2.2.2⟩
    exact ih (i + 1) n w3 pc' rp' (by omega) (by omega) ((F.trans (F2.mono (fun b k z => Or.inl z))).trans (F3.mono (fun b k z => Or.inr z.1))) C3 P3
theorem great_c {w : HS} (G : GS w x r q N kn mn mp ad S B MM) (C : CFt w s kn (fun k => nP (B k) N) FL) (hmj : mj < mn) (l240 : FL.length ≤ 240) : Rn (FX8_greatestPart w x s (nI mj)) (fun z w' => z = nI (gmD (kD B N mp (MM mj) FL) FL.length) ∧ Fr (PGs r s) w w' ∧ GS w' x r q N kn mn mp ad S B MM ∧ CFt w' s kn (fun k => nP (B k) N) FL) := by
  obtain ⟨p, em, _, _, hqm⟩ := cx_march G.1 hmj
  have s5 := C.1
  have h8 := G.1.1
  have xs : x ≠ s := by intro e; rw [e, s5] at h8; cases h8
  obtain ⟨wa, hwa⟩ : ∃ wa, wa = setI w s 1 0 := ⟨_, rfl⟩
  have fa : Fr (fun b k => b = s ∧ k = 1) w wa := by rw [hwa]; exact Fr.sI ⟨rfl, rfl⟩
  have fa' : Fr (PGs r s) w wa := fa.mono (fun b k z => Or.inr z.1)
  have Ga := G.fr s5 fa'
  have Ca : CFt wa s kn (fun k => nP (B k) N) FL := ⟨by rw [fa.c]; exact s5, by rw [fa.i (by omega)]; exact C.2.1, by rw [fa.ar (by omega)]; exact C.2.2⟩
  have Pa : PTs wa s (pD B N mp (MM mj) FL) 0 0 (fun _ => 0) := ⟨Ca.1, by rw [hwa, hi_setI, if_pos ⟨rfl, rfl⟩]; rfl, Nat.le_refl _, fun t ht => absurd ht (Nat.not_lt_zero _), fun t ht => absurd ht (Nat.not_lt_zero _), fun j hj' => absurd hj' (Nat.not_lt_zero _)⟩
  unfold FX8_greatestPart
  refine Rn.okc h8 (Rn.eq em (Rn.okc s5 (Rn.bd ?_)))
  rw [← hwa]
  refine (great_loop (p := p) Ga Ca.1 hmj (by rw [fa.qq (fun z => xs z.1)]; exact hqm) l240 FL.length 0 FUEL wa 0 (fun _ => 0) (by omega) (fuel_lt (by omega)) Fr.refl Ca Pa).mono ?_
  rintro z w' ⟨z1, z2, z3⟩
  exact ⟨z1, fa'.trans z2, G.fr s5 (fa'.trans z2), z3⟩
end GP
