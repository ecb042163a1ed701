/-! A run in the memory fails just where the run on the fault's two cells does. -/
def rdE (M : Mch) (e : Nat) : Nat := rE M e (mC M e)
def Geo (b : Book) (a v N : Nat) (mp : Nat → Nat) (M : Mch) : Prop := PL b a v ∧ 0 < b.1 ∧ WM M ∧ 2 ≤ N ∧ N ≤ 6 ∧ (∀ i, i < N → mp i < 6) ∧ ∀ i, i < N → ∀ j, j < N → mp i = mp j → i = j
theorem Geo.pl {b : Book} {a v N : Nat} {mp : Nat → Nat} {M : Mch} (G : Geo b a v N mp M) : WB b ∧ v < 6 ∧ ((pr b = true ∧ a < 6 ∧ a ≠ v) ∨ (pr b = false ∧ a = 7)) := by
  rcases G.1 with q | q
  · have := G.2.1; omega
  · exact q
theorem adr_lt {N i : Nat} {dn : Bool} (h : i < N) : adr N dn i < N := by unfold adr; split <;> omega
theorem adr_inv {N i : Nat} {dn : Bool} (h : i < N) : adr N dn (adr N dn i) = i := by unfold adr; split <;> omega
/-- cells that are sound have what a sound memory has: those ahead of place i what is behind the element -/
def SC (a v N : Nat) (mp : Nat → Nat) (M : Mch) (e : Nat) (dn : Bool) (x i : Nat) : Prop := ∀ j, j < N → mp (adr N dn j) ≠ v → mp (adr N dn j) ≠ a → ∀ z, (if j < i then sM M (e + 1) else sM M e) = some z → bt x (mp (adr N dn j)) = z
section TR
variable {b : Book} {a v N : Nat} {mp : Nat → Nat} {M : Mch} {e : Nat} {dn : Bool}
theorem snd_step (G : Geo b a v N mp M) (he : e < mN M) {i x n : Nat} {L : List (Nat × Nat)} (hi : i < N) (h1 : mp (adr N dn i) ≠ v) (h2 : mp (adr N dn i) ≠ a) (x6 : x < 64) (sd : Sd b a v x) (sc : SC a v N mp M e dn x i) :
    ∃ x', visS b a v M e (mp (adr N dn i)) (adr N dn i) (x, n, L) = (x', n + rdE M e, L) ∧ x' < 64 ∧ pj a v x' = pj a v x ∧ Sd b a v x' ∧ SC a v N mp M e dn x' (i + 1) := by
  have WMe := G.2.2.1.2.2.2 e he
  obtain ⟨x', n', z1, z2, z3, z4, z5, z6, z7⟩ := vis_sound (ad := adr N dn i) G.1 G.2.1 WMe.2.2.2 (G.2.2.2.2.2.1 _ (adr_lt hi)) h1 h2 (mC M e) 0 x n L (by omega) x6 sd (fun z ez => sc i hi h1 h2 z (by rw [if_neg (by omega)]; exact ez))
  have en : n' = n + rdE M e := by
    have : rE M e 0 = 0 := rfl
    rw [Nat.zero_add] at z5
    unfold rdE
    omega
  rw [en] at z1
  refine ⟨x', z1, z2, z3, z4, ?_⟩
  intro j hj j1 j2 z ez
  by_cases hji : j = i
  · subst hji
    rw [if_pos (by omega)] at ez
    rw [Nat.zero_add] at z7
    exact z7 z ez
  · have hne : mp (adr N dn j) ≠ mp (adr N dn i) := by
      intro q
      have := G.2.2.2.2.2.2 _ (adr_lt hj) _ (adr_lt hi) q
      have t := congrArg (adr N dn) this
      rw [adr_inv hj, adr_inv hi] at t
      exact hji t
    rw [z6 _ (G.2.2.2.2.2.1 _ (adr_lt hj)) hne]
    refine sc j hj j1 j2 z ?_
    by_cases hlt : j < i
    · rw [if_pos hlt]
      rw [if_pos (by omega)] at ez
      exact ez
    · rw [if_neg hlt]
      rw [if_neg (by omega)] at ez
      exact ez
theorem seg (G : Geo b a v N mp M) (he : e < mN M) {L : List (Nat × Nat)} : ∀ d i x n, i + d ≤ N → (∀ j, i ≤ j → j < i + d → mp (adr N dn j) ≠ v ∧ mp (adr N dn j) ≠ a) → x < 64 → Sd b a v x → SC a v N mp M e dn x i →
    ∃ x', itf (fun i s => visS b a v M e (mp (adr N dn i)) (adr N dn i) s) i d (x, n, L) = (x', n + d * rdE M e, L) ∧ x' < 64 ∧ pj a v x' = pj a v x ∧ Sd b a v x' ∧ SC a v N mp M e dn x' (i + d) := by
  intro d
  induction d with
  | zero =>
    intro i x n _ _ x6 sd sc
    exact ⟨x, by rw [Nat.zero_mul, Nat.add_zero]; rfl, x6, rfl, sd, sc⟩
  | succ d ih =>
    intro i x n hd hs x6 sd sc
    obtain ⟨s1, s2⟩ := hs i (Nat.le_refl _) (by omega)
    obtain ⟨x1, q1, q2, q3, q4, q5⟩ := snd_step (n := n) (L := L) G he (by omega) s1 s2 x6 sd sc
    obtain ⟨x2, r1, r2, r3, r4, r5⟩ := ih (i + 1) x1 (n + rdE M e) (by omega) (fun j j1 j2 => hs j (by omega) (by omega)) q2 q4 q5
    refine ⟨x2, ?_, r2, r3.trans q3, r4, by rw [show i + (d + 1) = i + 1 + d from by omega]; exact r5⟩
    show itf _ (i + 1) d (visS b a v M e (mp (adr N dn i)) (adr N dn i) (x, n, L)) = _
    rw [q1, r1, show n + rdE M e + d * rdE M e = n + (d + 1) * rdE M e from by rw [Nat.add_mul, Nat.one_mul]; omega]
theorem flt_step (G : Geo b a v N mp M) (he : e < mN M) {a2 c2 i x y n : Nat} {L : List (Nat × Nat)} (hi : i < N) (P2 : a2 < 8 ∧ a2 ≠ 0 ∧ a2 ≠ 6) (hc : mp (adr N dn i) = v ∨ (mp (adr N dn i) = a ∧ a < 6)) (hc2 : c2 = 0 ∨ (c2 = a2 ∧ a2 < 6)) (hix : ix2 v (mp (adr N dn i)) = ix2 0 c2) (x6 : x < 64) (y6 : y < 64) (hxy : pj a v x = pj a2 0 y) (sd : Sd b a v x) (sc : SC a v N mp M e dn x i) :
    ∃ x' y' L', visS b a v M e (mp (adr N dn i)) (adr N dn i) (x, n, L) = (x', n + rdE M e, L') ∧ visS b a2 0 M e c2 (adr N dn i) (y, n, L) = (y', n + rdE M e, L') ∧ x' < 64 ∧ y' < 64 ∧ pj a v x' = pj a2 0 y' ∧ Sd b a v x' ∧ SC a v N mp M e dn x' (i + 1) ∧ (∀ f, f < 6 → f ≠ 0 → f ≠ c2 → bt y' f = bt y f) := by
  have WMe := G.2.2.1.2.2.2 e he
  obtain ⟨W, hv, hp⟩ := G.pl
  obtain ⟨x', y', n', L', z1, z2, z3, z4, z5, z6, z7, z8, z9⟩ := vis_pj (ad := adr N dn i) W (fun k hk => (WMe.2.2.2 k hk).1) (v := v) (a := a) (v2 := 0) (a2 := a2) ⟨hv, by omega, by omega, by omega⟩ ⟨by decide, P2.1, P2.2.1, P2.2.2⟩ hc hc2 hix (mC M e) 0 x y n L (by omega) x6 y6 hxy sd
  have en : n' = n + rdE M e := by
    have : rE M e 0 = 0 := rfl
    rw [Nat.zero_add] at z7
    unfold rdE
    omega
  rw [en] at z1 z2
  refine ⟨x', y', L', z1, z2, z3, z4, z5, z6, ?_, z9⟩
  intro j hj j1 j2 z ez
  have hji : j ≠ i := by
    intro q
    subst q
    omega
  rw [z8 _ (G.2.2.2.2.2.1 _ (adr_lt hj)) j1 (by omega)]
  refine sc j hj j1 j2 z ?_
  by_cases hlt : j < i
  · rw [if_pos hlt]
    rw [if_pos (by omega)] at ez
    exact ez
  · rw [if_neg hlt]
    rw [if_neg (by omega)] at ez
    exact ez
end TR
/-- the address of cell 0 (v) or 1 (a) -/
def at2 (aAt vAt f : Nat) : Nat := if f = 0 then vAt else aAt
def fst2 (aAt vAt : Nat) (dn : Bool) : Nat := if decide (aAt < vAt) = dn then 0 else 1
/-- an element on the fault's two cells: state, reads ahead of the element, reads that failed -/
def telS (b : Book) (N aAt vAt : Nat) (M : Mch) (e : Nat) (dn : Bool) (s : St) : St :=
  ((visS b 1 0 M e (1 - fst2 aAt vAt dn) (at2 aAt vAt (1 - fst2 aAt vAt dn)) ((visS b 1 0 M e (fst2 aAt vAt dn) (at2 aAt vAt (fst2 aAt vAt dn)) (s.1, s.2.1 + adr N dn (at2 aAt vAt (fst2 aAt vAt dn)) * rdE M e, s.2.2)).1, s.2.1 + adr N dn (at2 aAt vAt (1 - fst2 aAt vAt dn)) * rdE M e, (visS b 1 0 M e (fst2 aAt vAt dn) (at2 aAt vAt (fst2 aAt vAt dn)) (s.1, s.2.1 + adr N dn (at2 aAt vAt (fst2 aAt vAt dn)) * rdE M e, s.2.2)).2.2)).1,
    s.2.1 + N * rdE M e,
    (visS b 1 0 M e (1 - fst2 aAt vAt dn) (at2 aAt vAt (1 - fst2 aAt vAt dn)) ((visS b 1 0 M e (fst2 aAt vAt dn) (at2 aAt vAt (fst2 aAt vAt dn)) (s.1, s.2.1 + adr N dn (at2 aAt vAt (fst2 aAt vAt dn)) * rdE M e, s.2.2)).1, s.2.1 + adr N dn (at2 aAt vAt (1 - fst2 aAt vAt dn)) * rdE M e, (visS b 1 0 M e (fst2 aAt vAt dn) (at2 aAt vAt (fst2 aAt vAt dn)) (s.1, s.2.1 + adr N dn (at2 aAt vAt (fst2 aAt vAt dn)) * rdE M e, s.2.2)).2.2)).2.2)
def goS (b : Book) (N aAt vAt : Nat) (M : Mch) (ch : Nat) (s : St) : St := itf (fun e s => telS b N aAt vAt M e (dwn M ch e) s) 0 (mN M) s
theorem telS_eq {b : Book} {N aAt vAt : Nat} {M : Mch} {e : Nat} {dn : Bool} {y n : Nat} {L : List (Nat × Nat)} {f y1 n1 y2 n2 : Nat} {L1 L2 : List (Nat × Nat)} (hf : fst2 aAt vAt dn = f) (h1 : visS b 1 0 M e f (at2 aAt vAt f) (y, n + adr N dn (at2 aAt vAt f) * rdE M e, L) = (y1, n1, L1)) (h2 : visS b 1 0 M e (1 - f) (at2 aAt vAt (1 - f)) (y1, n + adr N dn (at2 aAt vAt (1 - f)) * rdE M e, L1) = (y2, n2, L2)) : telS b N aAt vAt M e dn (y, n, L) = (y2, n + N * rdE M e, L2) := by
  unfold telS
  rw [hf]
  dsimp only
  rw [h1]
  dsimp only
  rw [h2]
-- a kind of one cell does not know a
theorem stlL_s {b : Book} {a v : Nat} (hp : pr b = false) : ∀ d i x, i + d ≤ b.1 → stlL b a v i d x = x := by
  intro d
  induction d with
  | zero => intro i x _; rfl
  | succ d ih =>
    intro i x h
    rw [stlL_f (fun q => by
      have := pr_of (show i < b.1 by omega) (Or.inr (Or.inl q.1))
      rw [hp] at this
      cases this)]
    exact ih (i + 1) x (by omega)
theorem ru_s {b : Book} {of by_ : Option Nat} (hp : pr b = false) : ru b 97 of by_ = none := by
  cases e : ru b 97 of by_ with
  | none => rfl
  | some r =>
    obtain ⟨r1, r2, _⟩ := ru_some e
    have := pr_of r1 (Or.inl r2)
    rw [hp] at this
    cases this
theorem lt0_s {b : Book} (hp : pr b = false) : lt0 b ≠ 109 ∧ lt0 b ≠ 98 := by
  unfold lt0
  split
  · omega
  · rename_i h
    constructor
    · intro q
      have := pr_of (show 0 < b.1 by omega) (Or.inr (Or.inr (Or.inl q)))
      rw [hp] at this
      cases this
    · intro q
      have := pr_of (show 0 < b.1 by omega) (Or.inr (Or.inr (Or.inr q)))
      rw [hp] at this
      cases this
theorem stl_ind {b : Book} (hp : pr b = false) (a a' v x : Nat) : stl b a v x = stl b a' v x := by
  unfold stl
  rw [stlL_s hp _ _ _ (by omega), stlL_s hp _ _ _ (by omega)]
theorem fol_ind {b : Book} (hp : pr b = false) (a v x c of by_ : Nat) : fol b a v x c of by_ = x := by
  unfold fol
  rw [ru_s hp]
  split <;> rfl
theorem wrt_ind {b : Book} (hp : pr b = false) (a a' v x c d : Nat) : wrt b a v x c d = wrt b a' v x c d := by
  unfold wrt
  rw [fol_ind hp, fol_ind hp, stl_ind hp a a']
theorem rdd_ind {b : Book} (hp : pr b = false) (a a' v x c : Nat) : rdd b a v x c = rdd b a' v x c := by
  unfold rdd
  simp only [fol_ind hp, stl_ind hp a a']
theorem wAt_ind {b : Book} (hp : pr b = false) (a a' v x c d : Nat) : wAt b a v x c d = wAt b a' v x c d := by
  obtain ⟨l1, l2⟩ := lt0_s hp
  unfold wAt
  rw [if_neg (fun q : lt0 b = 109 ∧ c = a => l1 q.1), if_neg (fun q : lt0 b = 98 ∧ c = a => l2 q.1), if_neg (fun q : lt0 b = 109 ∧ c = a' => l1 q.1), if_neg (fun q : lt0 b = 98 ∧ c = a' => l2 q.1), wrt_ind hp a a']
theorem rAt_ind {b : Book} (hp : pr b = false) (a a' v x c : Nat) : rAt b a v x c = rAt b a' v x c := by
  obtain ⟨l1, l2⟩ := lt0_s hp
  unfold rAt
  rw [if_neg (fun q : lt0 b = 109 ∧ c = a => l1 q.1), if_neg (fun q : lt0 b = 98 ∧ c = a => l2 q.1), if_neg (fun q : lt0 b = 109 ∧ c = a' => l1 q.1), if_neg (fun q : lt0 b = 98 ∧ c = a' => l2 q.1), rdd_ind hp a a']
theorem visS_ind {b : Book} (hp : pr b = false) (a a' v : Nat) (M : Mch) (e c ad : Nat) (s : St) : visS b a v M e c ad s = visS b a' v M e c ad s := by
  unfold visS
  congr 1
  funext k s
  unfold stp
  rw [rAt_ind hp a a', wAt_ind hp a a']
theorem adr_inj {N i j : Nat} {dn : Bool} (hi : i < N) (hj : j < N) (h : adr N dn i = adr N dn j) : i = j := by
  have t := congrArg (adr N dn) h
  rw [adr_inv hi, adr_inv hj] at t
  exact t
theorem fst2_lt {N aAt vAt : Nat} {dn : Bool} (ha : aAt < N) (hv : vAt < N) (hne : aAt ≠ vAt) : adr N dn (at2 aAt vAt (fst2 aAt vAt dn)) < adr N dn (at2 aAt vAt (1 - fst2 aAt vAt dn)) := by
  unfold fst2 at2 adr
  by_cases h : aAt < vAt
  · cases dn
    · simp [h]
    · simp [h]; omega
  · cases dn
    · simp [h]; omega
    · simp [h]; omega
/-- how the two runs stand to each other ahead of element e -/
def R2 (b : Book) (a v N : Nat) (mp : Nat → Nat) (M : Mch) (e x y : Nat) : Prop := x < 64 ∧ y < 64 ∧ Sd b a v x ∧ pj a v x = pj (if pr b = true then 1 else 7) 0 y ∧ (∀ i, i < N → mp i ≠ v → mp i ≠ a → ∀ z, sM M e = some z → bt x (mp i) = z) ∧ (pr b = false → ∀ z, sM M e = some z → bt y 1 = z)
theorem SC_of {a v N : Nat} {mp : Nat → Nat} {M : Mch} {e x : Nat} {dn : Bool} (h : ∀ i, i < N → mp i ≠ v → mp i ≠ a → ∀ z, sM M e = some z → bt x (mp i) = z) : SC a v N mp M e dn x 0 := by
  intro j hj j1 j2 z ez
  rw [if_neg (by omega)] at ez
  exact h _ (adr_lt hj) j1 j2 z ez
theorem of_SC {a v N : Nat} {mp : Nat → Nat} {M : Mch} {e x : Nat} {dn : Bool} (h : SC a v N mp M e dn x N) : ∀ i, i < N → mp i ≠ v → mp i ≠ a → ∀ z, sM M (e + 1) = some z → bt x (mp i) = z := by
  intro i hi i1 i2 z ez
  have := h (adr N dn i) (adr_lt hi)
  rw [adr_inv hi, if_pos (adr_lt hi)] at this
  exact this i1 i2 z ez
theorem ix2_self (v : Nat) : ix2 v v = 0 := by unfold ix2; rw [if_pos rfl]
theorem ix2_ne {v c : Nat} (h : c ≠ v) : ix2 v c = 1 := by unfold ix2; rw [if_neg h]
theorem elm_pair {b : Book} {a v N : Nat} {mp : Nat → Nat} {M : Mch} {e aAt vAt : Nat} {dn : Bool} (G : Geo b a v N mp M) (he : e < mN M) (hp : pr b = true) (ha : aAt < N) (hv : vAt < N) (mv : mp vAt = v) (ma : mp aAt = a) {x y n : Nat} {L : List (Nat × Nat)} (R : R2 b a v N mp M e x y) :
    ∃ x' y' L', elmS b a v N mp M e dn (x, n, L) = (x', n + N * rdE M e, L') ∧ telS b N aAt vAt M e dn (y, n, L) = (y', n + N * rdE M e, L') ∧ R2 b a v N mp M (e + 1) x' y' := by
  obtain ⟨x6, y6, sd, hxy, hsc, _⟩ := R
  obtain ⟨W, hv6, hpp⟩ := G.pl
  have ha6 : a < 6 ∧ a ≠ v := by
    rcases hpp with q | q
    · exact q.2
    · rw [hp] at q; cases q.1
  rw [if_pos hp] at hxy
  have hne : aAt ≠ vAt := by
    intro q
    rw [q, mv] at ma
    exact ha6.2 ma.symm
  obtain ⟨f, hf⟩ : ∃ f, f = fst2 aAt vAt dn := ⟨_, rfl⟩
  have f2 : f < 2 := by rw [hf]; unfold fst2; split <;> decide
  have hlt := fst2_lt (N := N) (dn := dn) ha hv hne
  rw [← hf] at hlt
  have atl : ∀ g, at2 aAt vAt g < N := by intro g; unfold at2; split <;> assumption
  have mpa : ∀ g, g < 2 → mp (at2 aAt vAt g) = if g = 0 then v else a := by
    intro g hg
    unfold at2
    split
    · exact mv
    · exact ma
  have flt : ∀ g, g < 2 → (mp (at2 aAt vAt g) = v ∨ (mp (at2 aAt vAt g) = a ∧ a < 6)) ∧ ix2 v (mp (at2 aAt vAt g)) = ix2 0 g := by
    intro g hg
    rw [mpa g hg]
    by_cases h : g = 0
    · rw [if_pos h, h]
      exact ⟨Or.inl rfl, by rw [ix2_self, ix2_self]⟩
    · rw [if_neg h]
      exact ⟨Or.inr ⟨rfl, ha6.1⟩, by rw [ix2_ne ha6.2, ix2_ne h]⟩
  obtain ⟨i1, h1⟩ : ∃ i, i = adr N dn (at2 aAt vAt f) := ⟨_, rfl⟩
  obtain ⟨i2, h2⟩ : ∃ i, i = adr N dn (at2 aAt vAt (1 - f)) := ⟨_, rfl⟩
  have l1 : i1 < N := by rw [h1]; exact adr_lt (atl _)
  have l2 : i2 < N := by rw [h2]; exact adr_lt (atl _)
  have a1 : adr N dn i1 = at2 aAt vAt f := by rw [h1, adr_inv (atl _)]
  have a2 : adr N dn i2 = at2 aAt vAt (1 - f) := by rw [h2, adr_inv (atl _)]
  rw [← h1, ← h2] at hlt
  have snd : ∀ j, j < N → j ≠ i1 → j ≠ i2 → mp (adr N dn j) ≠ v ∧ mp (adr N dn j) ≠ a := by
    intro j hj j1 j2
    have cov : ∀ g, g < 2 → mp (adr N dn j) = mp (at2 aAt vAt g) → False := by
      intro g hg q
      have t := G.2.2.2.2.2.2 _ (adr_lt hj) _ (atl g) q
      have gg : g = f ∨ g = 1 - f := by omega
      rcases gg with gg | gg
      · subst gg
        rw [← a1] at t
        exact j1 (adr_inj hj l1 t)
      · subst gg
        rw [← a2] at t
        exact j2 (adr_inj hj l2 t)
    constructor
    · intro q; exact cov 0 (by decide) (by rw [mpa 0 (by decide), if_pos rfl]; exact q)
    · intro q; exact cov 1 (by decide) (by rw [mpa 1 (by decide), if_neg (by decide)]; exact q)
  -- ahead of the first
  obtain ⟨x1, p1, p2, p3, p4, p5⟩ := seg (dn := dn) (L := L) G he i1 0 x n (by omega) (fun j _ j2 => snd j (by omega) (by omega) (by omega)) x6 sd (SC_of hsc)
  rw [Nat.zero_add] at p5
  -- the first
  obtain ⟨x2, y2, L2, q1, q2, q3, q4, q5, q6, q7, _⟩ := flt_step (n := n + i1 * rdE M e) (L := L) (a2 := 1) (c2 := f) (y := y) G he l1 ⟨by decide, by decide, by decide⟩ (by rw [a1]; exact (flt f f2).1) (by omega) (by rw [a1]; exact (flt f f2).2) p2 y6 (p3.trans hxy) p4 p5
  -- between
  obtain ⟨x3, r1, r2, r3, r4, r5⟩ := seg (dn := dn) (L := L2) G he (i2 - (i1 + 1)) (i1 + 1) x2 (n + i1 * rdE M e + rdE M e) (by omega) (fun j j1 j2 => snd j (by omega) (by omega) (by omega)) q3 q6 q7
  rw [show i1 + 1 + (i2 - (i1 + 1)) = i2 from by omega] at r5
  have n3 : n + i1 * rdE M e + rdE M e + (i2 - (i1 + 1)) * rdE M e = n + i2 * rdE M e := by
    have : i2 * rdE M e = i1 * rdE M e + rdE M e + (i2 - (i1 + 1)) * rdE M e := by
      rw [show i2 = i1 + 1 + (i2 - (i1 + 1)) from by omega, Nat.add_mul, Nat.add_mul, Nat.one_mul, show i1 + 1 + (i2 - (i1 + 1)) - (i1 + 1) = i2 - (i1 + 1) from by omega]
    omega
  rw [n3] at r1
  -- the second
  obtain ⟨x4, y4, L4, t1, t2, t3, t4, t5, t6, t7, _⟩ := flt_step (n := n + i2 * rdE M e) (L := L2) (a2 := 1) (c2 := 1 - f) (y := y2) G he l2 ⟨by decide, by decide, by decide⟩ (by rw [a2]; exact (flt (1 - f) (by omega)).1) (by omega) (by rw [a2]; exact (flt (1 - f) (by omega)).2) r2 q4 (r3.trans q5) r4 r5
  -- behind
  obtain ⟨x5, u1, u2, u3, u4, u5⟩ := seg (dn := dn) (L := L4) G he (N - (i2 + 1)) (i2 + 1) x4 (n + i2 * rdE M e + rdE M e) (by omega) (fun j j1 j2 => snd j (by omega) (by omega) (by omega)) t3 t6 t7
  rw [show i2 + 1 + (N - (i2 + 1)) = N from by omega] at u5
  have n5 : n + i2 * rdE M e + rdE M e + (N - (i2 + 1)) * rdE M e = n + N * rdE M e := by
    have : N * rdE M e = i2 * rdE M e + rdE M e + (N - (i2 + 1)) * rdE M e := by
      rw [show N = i2 + 1 + (N - (i2 + 1)) from by omega, Nat.add_mul, Nat.add_mul, Nat.one_mul, show i2 + 1 + (N - (i2 + 1)) - (i2 + 1) = N - (i2 + 1) from by omega]
    omega
  rw [n5] at u1
  refine ⟨x5, y4, L4, ?_, ?_, u2, t4, u4, by rw [if_pos hp]; exact u3.trans t5, of_SC u5, fun q => by rw [hp] at q; cases q⟩
  · unfold elmS
    obtain ⟨g, hg⟩ : ∃ g : Nat → St → St, g = (fun i s => visS b a v M e (mp (adr N dn i)) (adr N dn i) s) := ⟨_, rfl⟩
    rw [← hg] at p1 r1 u1 ⊢
    have s1 : ∀ s, itf g i1 1 s = visS b a v M e (mp (adr N dn i1)) (adr N dn i1) s := by intro s; rw [hg]; rfl
    have s2 : ∀ s, itf g i2 1 s = visS b a v M e (mp (adr N dn i2)) (adr N dn i2) s := by intro s; rw [hg]; rfl
    have e1 : itf g 0 (i1 + 1) (x, n, L) = (x2, n + i1 * rdE M e + rdE M e, L2) := by rw [itf_add g i1 0 1, Nat.zero_add, p1, s1, q1]
    have e2 : itf g 0 i2 (x, n, L) = (x3, n + i2 * rdE M e, L2) := by
      rw [show i2 = (i1 + 1) + (i2 - (i1 + 1)) from by omega, itf_add g (i1 + 1) 0, e1, Nat.zero_add, r1, ← show i2 = (i1 + 1) + (i2 - (i1 + 1)) from by omega]
    have e3 : itf g 0 (i2 + 1) (x, n, L) = (x4, n + i2 * rdE M e + rdE M e, L4) := by rw [itf_add g i2 0 1, Nat.zero_add, e2, s2, t1]
    rw [show N = (i2 + 1) + (N - (i2 + 1)) from by omega, itf_add g (i2 + 1) 0, e3, Nat.zero_add, u1, ← show N = (i2 + 1) + (N - (i2 + 1)) from by omega]
  · refine telS_eq hf.symm (y1 := y2) (n1 := n + i1 * rdE M e + rdE M e) (L1 := L2) (n2 := n + i2 * rdE M e + rdE M e) ?_ ?_
    · rw [← h1, ← a1]; exact q2
    · rw [← h2, ← a2]; exact t2
