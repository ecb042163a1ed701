/-! Kinds of one cell; whole runs. -/
theorem vis1_sound {b : Book} {M : Mch} {e ad y n : Nat} {L : List (Nat × Nat)} (W : WB b) (hp : pr b = false) (hM : WM M) (he : e < mN M) (y6 : y < 64) (sd : Sd b 7 0 y) (hz : ∀ z, sM M e = some z → bt y 1 = z) : ∃ y' n', visS b 1 0 M e 1 ad (y, n, L) = (y', n', L) ∧ y' < 64 ∧ pj 7 0 y' = pj 7 0 y ∧ Sd b 7 0 y' ∧ ∀ z, sM M (e + 1) = some z → bt y' 1 = z := by
  obtain ⟨x', n', z1, z2, z3, z4, z5, z6, z7⟩ := vis_sound (a := 7) (v := 0) (c := 1) (ad := ad) (Or.inr ⟨W, by decide, Or.inr ⟨hp, rfl⟩⟩) W.2.1 (hM.2.2.2 e he).2.2.2 (by decide) (by decide) (by decide) (mC M e) 0 y n L (by omega) y6 sd hz
  refine ⟨x', n', ?_, z2, z3, z4, ?_⟩
  · rw [visS_ind hp 1 7]
    exact z1
  · rw [Nat.zero_add] at z7
    exact z7
theorem elm_single {b : Book} {a v N : Nat} {mp : Nat → Nat} {M : Mch} {e aAt vAt : Nat} {dn : Bool} (G : Geo b a v N mp M) (he : e < mN M) (hp : pr b = false) (ha : aAt < N) (hv : vAt < N) (hne : aAt ≠ vAt) (mv : mp vAt = v) {x y n : Nat} {L : List (Nat × Nat)} (R : R2 b a v N mp M e x y) :
    ∃ x' y' L', elmS b a v N mp M e dn (x, n, L) = (x', n + N * rdE M e, L') ∧ telS b N aAt vAt M e dn (y, n, L) = (y', n + N * rdE M e, L') ∧ R2 b a v N mp M (e + 1) x' y' := by
  obtain ⟨x6, y6, sd, hxy, hsc, hy1⟩ := R
  obtain ⟨W, hv6, hpp⟩ := G.pl
  have ha7 : a = 7 := by
    rcases hpp with q | q
    · rw [hp] at q; cases q.1
    · exact q.2
  subst ha7
  have hpf : ¬ pr b = true := by rw [hp]; decide
  rw [if_neg hpf] at hxy
  have hy1' := hy1 hp
  obtain ⟨iv, h1⟩ : ∃ i, i = adr N dn vAt := ⟨_, rfl⟩
  have l1 : iv < N := by rw [h1]; exact adr_lt hv
  have a1 : adr N dn iv = vAt := by rw [h1, adr_inv hv]
  have snd : ∀ j, j < N → j ≠ iv → mp (adr N dn j) ≠ v ∧ mp (adr N dn j) ≠ 7 := by
    intro j hj j1
    constructor
    · intro q
      have t := G.2.2.2.2.2.2 _ (adr_lt hj) _ hv (q.trans mv.symm)
      rw [← a1] at t
      exact j1 (adr_inj hj l1 t)
    · have := G.2.2.2.2.2.1 _ (adr_lt (dn := dn) hj)
      omega
  obtain ⟨x1, p1, p2, p3, p4, p5⟩ := seg (dn := dn) (L := L) G he iv 0 x n (by omega) (fun j _ j2 => snd j (by omega) (by omega)) x6 sd (SC_of hsc)
  rw [Nat.zero_add] at p5
  -- the visit of v out of any state of the two cells
  have vst : ∀ y0, y0 < 64 → pj 7 0 y0 = pj 7 0 y → ∃ x2 y2 L2, visS b 7 v M e (mp (adr N dn iv)) (adr N dn iv) (x1, n + iv * rdE M e, L) = (x2, n + iv * rdE M e + rdE M e, L2) ∧ visS b 1 0 M e 0 vAt (y0, n + iv * rdE M e, L) = (y2, n + iv * rdE M e + rdE M e, L2) ∧ x2 < 64 ∧ y2 < 64 ∧ pj 7 v x2 = pj 7 0 y2 ∧ Sd b 7 v x2 ∧ SC 7 v N mp M e dn x2 (iv + 1) ∧ bt y2 1 = bt y0 1 := by
    intro y0 y06 hy0
    obtain ⟨x2, y2, L2, q1, q2, q3, q4, q5, q6, q7, q8⟩ := flt_step (n := n + iv * rdE M e) (L := L) (a2 := 7) (c2 := 0) (y := y0) G he l1 ⟨by decide, by decide, by decide⟩ (by rw [a1]; exact Or.inl mv) (Or.inl rfl) (by rw [a1, mv, ix2_self, ix2_self]) p2 y06 ((p3.trans hxy).trans hy0.symm) p4 p5
    refine ⟨x2, y2, L2, q1, ?_, q3, q4, q5, q6, q7, q8 1 (by decide) (by decide) (by decide)⟩
    rw [visS_ind hp 1 7, ← a1]
    exact q2
  have sdp : ∀ (x2 y2 : Nat), Sd b 7 v x2 → pj 7 v x2 = pj 7 0 y2 → Sd b 7 0 y2 := by
    intro x2 y2 h1 h2
    unfold Sd at h1 ⊢
    rw [← h2]
    exact h1
  have fin : ∀ x2 L2, x2 < 64 → Sd b 7 v x2 → SC 7 v N mp M e dn x2 (iv + 1) → visS b 7 v M e (mp (adr N dn iv)) (adr N dn iv) (x1, n + iv * rdE M e, L) = (x2, n + iv * rdE M e + rdE M e, L2) → ∃ x3, elmS b 7 v N mp M e dn (x, n, L) = (x3, n + N * rdE M e, L2) ∧ x3 < 64 ∧ pj 7 v x3 = pj 7 v x2 ∧ Sd b 7 v x3 ∧ SC 7 v N mp M e dn x3 N := by
    intro x2 L2 q3 q6 q7 q1
    obtain ⟨x3, u1, u2, u3, u4, u5⟩ := seg (dn := dn) (L := L2) G he (N - (iv + 1)) (iv + 1) x2 (n + iv * rdE M e + rdE M e) (by omega) (fun j j1 j2 => snd j (by omega) (by omega)) q3 q6 q7
    rw [show iv + 1 + (N - (iv + 1)) = N from by omega] at u5
    have n5 : n + iv * rdE M e + rdE M e + (N - (iv + 1)) * rdE M e = n + N * rdE M e := by
      have : N * rdE M e = iv * rdE M e + rdE M e + (N - (iv + 1)) * rdE M e := by
        rw [show N = iv + 1 + (N - (iv + 1)) from by omega, Nat.add_mul, Nat.add_mul, Nat.one_mul, show iv + 1 + (N - (iv + 1)) - (iv + 1) = N - (iv + 1) from by omega]
      omega
    rw [n5] at u1
    refine ⟨x3, ?_, u2, u3, u4, u5⟩
    unfold elmS
    obtain ⟨g, hg⟩ : ∃ g : Nat → St → St, g = (fun i s => visS b 7 v M e (mp (adr N dn i)) (adr N dn i) s) := ⟨_, rfl⟩
    rw [← hg] at p1 u1 ⊢
    have s1 : ∀ s, itf g iv 1 s = visS b 7 v M e (mp (adr N dn iv)) (adr N dn iv) s := by intro s; rw [hg]; rfl
    have e1 : itf g 0 (iv + 1) (x, n, L) = (x2, n + iv * rdE M e + rdE M e, L2) := by rw [itf_add g iv 0 1, Nat.zero_add, p1, s1, q1]
    rw [show N = (iv + 1) + (N - (iv + 1)) from by omega, itf_add g (iv + 1) 0, e1, Nat.zero_add, u1, ← show N = (iv + 1) + (N - (iv + 1)) from by omega]
  by_cases hf : fst2 aAt vAt dn = 0
  · obtain ⟨x2, y2, L2, q1, q2, q3, q4, q5, q6, q7, q8⟩ := vst y y6 rfl
    obtain ⟨x3, r1, r2, r3, r4, r5⟩ := fin x2 L2 q3 q6 q7 q1
    obtain ⟨y3, n3, t1, t2, t3, t4, t5⟩ := vis1_sound (ad := aAt) (n := n + adr N dn aAt * rdE M e) (L := L2) W hp G.2.2.1 he q4 (sdp x2 y2 q6 q5) (fun z ez => by rw [q8]; exact hy1' z ez)
    refine ⟨x3, y3, L2, r1, ?_, r2, t2, r4, by rw [if_neg hpf]; exact (r3.trans q5).trans t3.symm, of_SC r5, fun _ => t5⟩
    refine telS_eq hf (y1 := y2) (n1 := n + iv * rdE M e + rdE M e) (L1 := L2) (n2 := n3) ?_ ?_
    · rw [show at2 aAt vAt 0 = vAt from rfl, ← h1]; exact q2
    · exact t1
  · have hf1 : fst2 aAt vAt dn = 1 := by unfold fst2 at hf ⊢; split <;> simp_all
    obtain ⟨y1, n1, t1, t2, t3, t4, t5⟩ := vis1_sound (ad := aAt) (n := n + adr N dn aAt * rdE M e) (L := L) W hp G.2.2.1 he y6 (sdp x y sd hxy) hy1'
    obtain ⟨x2, y2, L2, q1, q2, q3, q4, q5, q6, q7, q8⟩ := vst y1 t2 t3
    obtain ⟨x3, r1, r2, r3, r4, r5⟩ := fin x2 L2 q3 q6 q7 q1
    refine ⟨x3, y2, L2, r1, ?_, r2, q4, r4, by rw [if_neg hpf]; exact r3.trans q5, of_SC r5, fun _ z ez => by rw [q8]; exact t5 z ez⟩
    refine telS_eq hf1 (y1 := y1) (n1 := n1) (L1 := L) (n2 := n + iv * rdE M e + rdE M e) ?_ ?_
    · exact t1
    · rw [show at2 aAt vAt (1 - 1) = vAt from rfl, ← h1]; exact q2
theorem run_go_loop {b : Book} {a v N : Nat} {mp : Nat → Nat} {M : Mch} {aAt vAt ch : Nat} (G : Geo b a v N mp M) (ha : aAt < N) (hv : vAt < N) (hne : aAt ≠ vAt) (mv : mp vAt = v) (ma : pr b = true → mp aAt = a) :
    ∀ d e x y n L, e + d = mN M → R2 b a v N mp M e x y → ∃ x' y' n' L', itf (fun e s => elmS b a v N mp M e (dwn M ch e) s) e d (x, n, L) = (x', n', L') ∧ itf (fun e s => telS b N aAt vAt M e (dwn M ch e) s) e d (y, n, L) = (y', n', L') ∧ R2 b a v N mp M (mN M) x' y' := by
  intro d
  induction d with
  | zero =>
    intro e x y n L he R
    refine ⟨x, y, n, L, rfl, rfl, ?_⟩
    rw [← he]
    exact R
  | succ d ih =>
    intro e x y n L he R
    obtain ⟨x1, y1, L1, q1, q2, q3⟩ : ∃ x' y' L', elmS b a v N mp M e (dwn M ch e) (x, n, L) = (x', n + N * rdE M e, L') ∧ telS b N aAt vAt M e (dwn M ch e) (y, n, L) = (y', n + N * rdE M e, L') ∧ R2 b a v N mp M (e + 1) x' y' := by
      cases hp : pr b with
      | true => exact elm_pair G (by omega) hp ha hv mv (ma hp) R
      | false => exact elm_single G (by omega) hp ha hv hne mv R
    obtain ⟨x', y', n', L', z1, z2, z3⟩ := ih (e + 1) x1 y1 (n + N * rdE M e) L1 (by omega) q3
    refine ⟨x', y', n', L', ?_, ?_, z3⟩
    · show itf _ (e + 1) d (elmS b a v N mp M e (dwn M ch e) (x, n, L)) = _
      rw [q1]; exact z1
    · show itf _ (e + 1) d (telS b N aAt vAt M e (dwn M ch e) (y, n, L)) = _
      rw [q2]; exact z2
/-- the reads that fail are the same ones -/
theorem run_go {b : Book} {a v N : Nat} {mp : Nat → Nat} {M : Mch} {aAt vAt ch x y : Nat} (G : Geo b a v N mp M) (ha : aAt < N) (hv : vAt < N) (hne : aAt ≠ vAt) (mv : mp vAt = v) (ma : pr b = true → mp aAt = a) (x6 : x < 64) (y6 : y < 64) (sd : Sd b a v x) (hxy : pj a v x = pj (if pr b = true then 1 else 7) 0 y) :
    (runS b a v N mp M ch (x, 0, [])).2.2 = (goS b N aAt vAt M ch (y, 0, [])).2.2 := by
  obtain ⟨x', y', n', L', z1, z2, _⟩ := run_go_loop (ch := ch) G ha hv hne mv ma (mN M) 0 x y 0 [] (by omega) ⟨x6, y6, sd, hxy, fun _ _ _ _ z ez => (by cases ez), fun _ z ez => (by cases ez)⟩
  unfold runS goS
  rw [z1, z2]
-- numbers and addresses change nothing but the list's entries
theorem stp_len {b : Book} {a v c ad ad' op : Nat} {s s' : St} (h : s.1 = s'.1) (hl : s.2.2.length = s'.2.2.length) : (stp b a v c ad op s).1 = (stp b a v c ad' op s').1 ∧ (stp b a v c ad op s).2.2.length = (stp b a v c ad' op s').2.2.length := by
  unfold stp
  split
  · rw [h]
    refine ⟨rfl, ?_⟩
    dsimp only
    split
    · exact hl
    · rw [List.length_append, List.length_append, hl]
      rfl
  · rw [h]
    exact ⟨rfl, hl⟩
theorem itf_rel {σ : Type} {g g' : Nat → σ → σ} {P : σ → σ → Prop} (h : ∀ i s s', P s s' → P (g i s) (g' i s')) : ∀ d i s s', P s s' → P (itf g i d s) (itf g' i d s') := by
  intro d
  induction d with
  | zero => intro i s s' hp; exact hp
  | succ d ih => intro i s s' hp; exact ih (i + 1) _ _ (h i s s' hp)
def Eql (s s' : St) : Prop := s.1 = s'.1 ∧ s.2.2.length = s'.2.2.length
theorem vis_len {b : Book} {a v : Nat} {M : Mch} {e c ad ad' : Nat} {s s' : St} (h : Eql s s') : Eql (visS b a v M e c ad s) (visS b a v M e c ad' s') := by
  unfold visS
  exact itf_rel (P := Eql) (g := fun k => stp b a v c ad (mO M e k)) (g' := fun k => stp b a v c ad' (mO M e k)) (fun i s s' hp => stp_len hp.1 hp.2) _ _ _ _ h
theorem tel_len {b : Book} {N N' aAt vAt aAt' vAt' : Nat} {M : Mch} {e : Nat} {dn : Bool} {s s' : St} (ho : decide (aAt < vAt) = decide (aAt' < vAt')) (h : Eql s s') : Eql (telS b N aAt vAt M e dn s) (telS b N' aAt' vAt' M e dn s') := by
  have hf : fst2 aAt' vAt' dn = fst2 aAt vAt dn := by unfold fst2; rw [ho]
  unfold telS
  rw [hf]
  have h1 : Eql (visS b 1 0 M e (fst2 aAt vAt dn) (at2 aAt vAt (fst2 aAt vAt dn)) (s.1, s.2.1 + adr N dn (at2 aAt vAt (fst2 aAt vAt dn)) * rdE M e, s.2.2)) (visS b 1 0 M e (fst2 aAt vAt dn) (at2 aAt' vAt' (fst2 aAt vAt dn)) (s'.1, s'.2.1 + adr N' dn (at2 aAt' vAt' (fst2 aAt vAt dn)) * rdE M e, s'.2.2)) := vis_len ⟨h.1, h.2⟩
  have h2 := vis_len (b := b) (a := 1) (v := 0) (M := M) (e := e) (c := 1 - fst2 aAt vAt dn) (ad := at2 aAt vAt (1 - fst2 aAt vAt dn)) (ad' := at2 aAt' vAt' (1 - fst2 aAt vAt dn)) (s := ((visS b 1 0 M e (fst2 aAt vAt dn) (at2 aAt vAt (fst2 aAt vAt dn)) (s.1, s.2.1 + adr N dn (at2 aAt vAt (fst2 aAt vAt dn)) * rdE M e, s.2.2)).1, s.2.1 + adr N dn (at2 aAt vAt (1 - fst2 aAt vAt dn)) * rdE M e, (visS b 1 0 M e (fst2 aAt vAt dn) (at2 aAt vAt (fst2 aAt vAt dn)) (s.1, s.2.1 + adr N dn (at2 aAt vAt (fst2 aAt vAt dn)) * rdE M e, s.2.2)).2.2)) (s' := ((visS b 1 0 M e (fst2 aAt vAt dn) (at2 aAt' vAt' (fst2 aAt vAt dn)) (s'.1, s'.2.1 + adr N' dn (at2 aAt' vAt' (fst2 aAt vAt dn)) * rdE M e, s'.2.2)).1, s'.2.1 + adr N' dn (at2 aAt' vAt' (1 - fst2 aAt vAt dn)) * rdE M e, (visS b 1 0 M e (fst2 aAt vAt dn) (at2 aAt' vAt' (fst2 aAt vAt dn)) (s'.1, s'.2.1 + adr N' dn (at2 aAt' vAt' (fst2 aAt vAt dn)) * rdE M e, s'.2.2)).2.2)) ⟨h1.1, h1.2⟩
  exact ⟨h2.1, h2.2⟩
theorem go_len {b : Book} {N N' aAt vAt aAt' vAt' : Nat} {M : Mch} {ch y : Nat} (ho : decide (aAt < vAt) = decide (aAt' < vAt')) : (goS b N aAt vAt M ch (y, 0, [])).2.2.length = (goS b N' aAt' vAt' M ch (y, 0, [])).2.2.length := by
  have : Eql (goS b N aAt vAt M ch (y, 0, [])) (goS b N' aAt' vAt' M ch (y, 0, [])) := by
    unfold goS
    exact itf_rel (P := Eql) (g := fun e s => telS b N aAt vAt M e (dwn M ch e) s) (g' := fun e s => telS b N' aAt' vAt' M e (dwn M ch e) s) (fun e s s' hp => tel_len ho hp) _ _ _ _ ⟨rfl, rfl⟩
  exact this.2
