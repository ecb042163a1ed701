/-! What a march catches: pure. -/
/-- the reads that fail in a memory, from these contents -/
def rL (b : Book) (a v N : Nat) (mp : Nat → Nat) (M : Mch) (ch c : Nat) : List (Nat × Nat) := (runS b a v N mp M ch (stl b a v c, 0, [])).2.2
theorem gl_len {b : Book} {N N' aAt vAt aAt' vAt' : Nat} {M : Mch} {ch c : Nat} (ho : decide (aAt < vAt) = decide (aAt' < vAt')) : (gL b N aAt vAt M ch c).length = (gL b N' aAt' vAt' M ch c).length := go_len ho
theorem pj10 : ∀ y, y < 4 → pj 1 0 y = y := by decide +kernel
theorem pj70 : ∀ y, y < 64 → pj 7 0 y = bt y 0 := by decide +kernel
theorem pj7v : ∀ v, v < 6 → ∀ y, y < 64 → pj 7 v y = bt y v ∧ pj 7 v y < 2 := by decide +kernel
theorem bt0_2 : ∀ y, y < 2 → bt y 0 = y := by decide +kernel
theorem pj2 : ∀ y, y < 4 → pj 7 0 y = y % 2 := by decide +kernel
theorem stl1 {b : Book} {y : Nat} (W : WB b) (hp : pr b = false) (hy : y < 2) : stl b 1 0 y < 2 := by
  unfold stl
  rw [stlL_s hp _ _ _ (by omega)]
  cases e : ru b 107 none none with
  | none => exact hy
  | some r =>
    obtain ⟨r1, r2, _⟩ := ru_some e
    have k3 := W.k r1 r2
    have : ∀ y, y < 2 → ∀ d, d < 2 → sb y 0 d < 2 := by decide
    exact this y hy _ k3
theorem stl_sd {b : Book} {a v c : Nat} (W : WB b) (hv : v < 6) (ha : a < 8) (hav : a ≠ v) (h6 : a ≠ 6) (c6 : c < 64) : Sd b a v (stl b a v c) := by
  unfold Sd
  rw [pj_stl W hv ha hav h6 c6]
  exact stl_idem W (pj4 a v c)
theorem rl_gl {b : Book} {a v N : Nat} {mp : Nat → Nat} {M : Mch} {aAt vAt ch c : Nat} (G : Geo b a v N mp M) (ha : aAt < N) (hv : vAt < N) (hne : aAt ≠ vAt) (mv : mp vAt = v) (ma : pr b = true → mp aAt = a) (c6 : c < 64) : rL b a v N mp M ch c = gL b N aAt vAt M ch (pj a v c) := by
  obtain ⟨W, hv6, hp⟩ := G.pl
  have s4 := pj4 a v c
  have t4 := stl4 (a := 1) W s4
  refine run_go G ha hv hne mv ma (stl_ltW W hv6 c6) (by omega) (stl_sd W hv6 (by omega) (by omega) (by omega) c6) ?_
  rw [pj_stl W hv6 (by omega) (by omega) (by omega) c6]
  rcases hp with hp | hp
  · rw [if_pos hp.1, pj10 _ t4]
  · have h2 : pj a v c < 2 := by rw [hp.2]; exact (pj7v v hv6 c c6).2
    have t2 := stl1 W hp.1 h2
    rw [if_neg (by rw [hp.1]; decide), pj70 _ (by omega), bt0_2 _ t2]
/-- kinds of one cell: the other cell changes nothing -/
theorem one_bit {b : Book} {M : Mch} {ch c : Nat} {N aAt vAt : Nat} (W : WB b) (hM : WM M) (hp : pr b = false) (hN : 2 ≤ N) (hN6 : N ≤ 6) (ha : aAt < N) (hv : vAt < N) (hne : aAt ≠ vAt) (c4 : c < 4) : gL b N aAt vAt M ch c = gL b N aAt vAt M ch (c % 2) := by
  have G : Geo b 7 vAt N (fun i => i) M := ⟨Or.inr ⟨W, by omega, Or.inr ⟨hp, rfl⟩⟩, W.2.1, hM, hN, hN6, fun i hi => (show i < 6 by omega), fun i _ j _ h => h⟩
  have key : ∀ y, y < 4 → y % 2 = c % 2 → (goS b N aAt vAt M ch (stl b 1 0 y, 0, [])).2.2 = rL b 7 vAt N (fun i => i) M ch (sb 0 vAt (c % 2)) := by
    intro y y4 hy
    have x6 : sb 0 vAt (c % 2) < 64 := sb_lt 0 (by decide) vAt (by omega) _ (by omega)
    have y6 := stl4 (a := 1) W y4
    refine (run_go G ha hv hne rfl (fun q => by rw [hp] at q; cases q) (stl_ltW W (by omega) x6) (by omega) (stl_sd W (by omega) (by decide) (by omega) (by decide) x6) ?_).symm
    rw [pj_stl W (by omega) (by decide) (by omega) (by decide) x6, if_neg (by rw [hp]; decide), (pj7v vAt (by omega) _ x6).1, bt_sb 0 (by decide) vAt (by omega) _ (by omega)]
    have e1 : pj 7 0 (stl b 7 0 y) = stl b 1 0 (pj 7 0 y) := pj_stl W (by decide) (by decide) (by decide) (by decide) (by omega)
    rw [stl_ind hp 7 1, pj2 y y4, hy] at e1
    exact e1.symm
  unfold gL
  rw [key c c4 rfl, key (c % 2) (by omega) (by omega)]
theorem tel_one {b : Book} {M : Mch} {e N aAt vAt : Nat} {dn : Bool} (W : WB b) (hM : WM M) (he : e < mN M) (hp : pr b = false) {y n : Nat} {L : List (Nat × Nat)} (y6 : y < 64) (sd : Sd b 7 0 y) (hz : ∀ z, sM M e = some z → bt y 1 = z) :
    ∃ y' y1 n1 n2 L', telS b N aAt vAt M e dn (y, n, L) = (y', n2, L') ∧ visS b 1 0 M e 0 vAt (y, n + adr N dn vAt * rdE M e, L) = (y1, n1, L') ∧ y' < 64 ∧ pj 7 0 y' = pj 7 0 y1 ∧ Sd b 7 0 y' ∧ ∀ z, sM M (e + 1) = some z → bt y' 1 = z := by
  have hMe := (hM.2.2.2 e he).2.2.2
  have vst : ∀ y0 n0 ad L0, y0 < 64 → pj 7 0 y0 = pj 7 0 y → ∃ x2 y2 L2 n2, visS b 1 0 M e 0 ad (y, n0, L0) = (x2, n2, L2) ∧ visS b 1 0 M e 0 ad (y0, n0, L0) = (y2, n2, L2) ∧ x2 < 64 ∧ y2 < 64 ∧ pj 7 0 x2 = pj 7 0 y2 ∧ Sd b 7 0 x2 ∧ bt y2 1 = bt y0 1 := by
    intro y0 n0 ad L0 y06 hy0
    obtain ⟨x', y', n', L', z1, z2, z3, z4, z5, z6, z7, z8, z9⟩ := vis_pj (ad := ad) (b := b) (M := M) (e := e) W (fun k hk => (hMe k hk).1) (v := 0) (a := 7) (v2 := 0) (a2 := 7) ⟨by decide, by decide, by decide, by decide⟩ ⟨by decide, by decide, by decide, by decide⟩ (c := 0) (c2 := 0) (Or.inl rfl) (Or.inl rfl) rfl (mC M e) 0 y y0 n0 L0 (by omega) y6 y06 hy0.symm sd
    refine ⟨x', y', L', n', ?_, ?_, z3, z4, z5, z6, z9 1 (by decide) (by decide) (by decide)⟩
    · rw [visS_ind hp 1 7]; exact z1
    · rw [visS_ind hp 1 7]; exact z2
  have sdp : ∀ (x2 y2 : Nat), Sd b 7 0 x2 → pj 7 0 x2 = pj 7 0 y2 → Sd b 7 0 y2 := by
    intro x2 y2 h1 h2
    unfold Sd at h1 ⊢
    rw [← h2]
    exact h1
  by_cases hf : fst2 aAt vAt dn = 0
  · obtain ⟨x2, y2, L2, n2, q1, q2, q3, q4, q5, q6, q7⟩ := vst y (n + adr N dn vAt * rdE M e) vAt L y6 rfl
    obtain ⟨y3, n3, t1, t2, t3, t4, t5⟩ := vis1_sound (ad := aAt) (n := n + adr N dn aAt * rdE M e) (L := L2) W hp hM he q4 (sdp x2 y2 q6 q5) (fun z ez => by rw [q7]; exact hz z ez)
    exact ⟨y3, x2, n2, n + N * rdE M e, L2, telS_eq hf q2 t1, q1, t2, t3.trans q5.symm, t4, t5⟩
  · have hf1 : fst2 aAt vAt dn = 1 := by unfold fst2 at hf ⊢; split <;> simp_all
    obtain ⟨y1, n1, t1, t2, t3, t4, t5⟩ := vis1_sound (ad := aAt) (n := n + adr N dn aAt * rdE M e) (L := L) W hp hM he y6 sd hz
    obtain ⟨x2, y2, L2, n2, q1, q2, q3, q4, q5, q6, q7⟩ := vst y1 (n + adr N dn vAt * rdE M e) vAt L t2 t3
    exact ⟨y2, x2, n2, n + N * rdE M e, L2, telS_eq hf1 t1 q2, q1, q4, q5.symm, sdp x2 y2 q6 q5, fun z ez => by rw [q7]; exact t5 z ez⟩
theorem go_one_loop {b : Book} {M : Mch} {N aAt vAt N' aAt' vAt' ch : Nat} (W : WB b) (hM : WM M) (hp : pr b = false) : ∀ d e y n L y' n' L', e + d = mN M → y < 64 → y' < 64 → Sd b 7 0 y → Sd b 7 0 y' → pj 7 0 y = pj 7 0 y' → L.length = L'.length → (∀ z, sM M e = some z → bt y 1 = z) → (∀ z, sM M e = some z → bt y' 1 = z) → (itf (fun e s => telS b N aAt vAt M e (dwn M ch e) s) e d (y, n, L)).2.2.length = (itf (fun e s => telS b N' aAt' vAt' M e (dwn M ch e) s) e d (y', n', L')).2.2.length := by
  intro d
  induction d with
  | zero => intro e y n L y' n' L' _ _ _ _ _ _ hl _ _; exact hl
  | succ d ih =>
    intro e y n L y' n' L' he y6 y6' sd sd' hpj hl hz hz'
    obtain ⟨y1, u1, n1, m1, L1, a1, a2, a3, a4, a5, a6⟩ := tel_one (N := N) (aAt := aAt) (vAt := vAt) (dn := dwn M ch e) (n := n) (L := L) W hM (by omega) hp y6 sd hz
    obtain ⟨y2, u2, n2, m2, L2, b1, b2, b3, b4, b5, b6⟩ := tel_one (N := N') (aAt := aAt') (vAt := vAt') (dn := dwn M ch e) (n := n') (L := L') W hM (by omega) hp y6' sd' hz'
    have hMe := (hM.2.2.2 e (by omega)).2.2.2
    -- the second visit with the first one's numbers
    have hv : Eql (visS b 1 0 M e 0 vAt (y', n + adr N (dwn M ch e) vAt * rdE M e, L)) (visS b 1 0 M e 0 vAt' (y', n' + adr N' (dwn M ch e) vAt' * rdE M e, L')) := vis_len ⟨rfl, hl⟩
    obtain ⟨x', yy, nn, LL, z1, z2, z3, z4, z5, z6, z7, z8, z9⟩ := vis_pj (ad := vAt) (b := b) (M := M) (e := e) W (fun k hk => (hMe k hk).1) (v := 0) (a := 7) (v2 := 0) (a2 := 7) ⟨by decide, by decide, by decide, by decide⟩ ⟨by decide, by decide, by decide, by decide⟩ (c := 0) (c2 := 0) (Or.inl rfl) (Or.inl rfl) rfl (mC M e) 0 y y' (n + adr N (dwn M ch e) vAt * rdE M e) L (by omega) y6 y6' hpj sd
    have w1 : visS b 1 0 M e 0 vAt (y, n + adr N (dwn M ch e) vAt * rdE M e, L) = (x', nn, LL) := by rw [visS_ind hp 1 7]; exact z1
    have w2 : visS b 1 0 M e 0 vAt (y', n + adr N (dwn M ch e) vAt * rdE M e, L) = (yy, nn, LL) := by rw [visS_ind hp 1 7]; exact z2
    rw [w1] at a2
    rw [w2, b2] at hv
    obtain ⟨rfl, rfl, rfl⟩ : x' = u1 ∧ nn = n1 ∧ LL = L1 := by cases a2; exact ⟨rfl, rfl, rfl⟩
    have h1 : yy = u2 := hv.1
    have h2 : LL.length = L2.length := hv.2
    show (itf _ (e + 1) d (telS b N aAt vAt M e (dwn M ch e) (y, n, L))).2.2.length = (itf _ (e + 1) d (telS b N' aAt' vAt' M e (dwn M ch e) (y', n', L'))).2.2.length
    rw [a1, b1]
    refine ih (e + 1) _ _ _ _ _ _ (by omega) a3 b3 a5 b5 ?_ h2 a6 b6
    rw [a4, b4, z5, h1]
theorem one_order {b : Book} {M : Mch} {N aAt vAt N' aAt' vAt' ch c : Nat} (W : WB b) (hM : WM M) (hp : pr b = false) (c4 : c < 4) : (gL b N aAt vAt M ch c).length = (gL b N' aAt' vAt' M ch c).length := by
  have t4 := stl4 (a := 1) W c4
  have sd : Sd b 7 0 (stl b 1 0 c) := by
    rw [stl_ind hp 1 7]
    exact stl_sd W (by decide) (by decide) (by decide) (by decide) (by omega)
  exact go_one_loop W hM hp (mN M) 0 _ _ _ _ _ _ (by omega) (by omega) (by omega) sd sd rfl rfl (fun z ez => (by cases ez)) (fun z ez => (by cases ez))
/-- how many ways a march may go -/
def nCh (M : Mch) : Nat := 2 ^ aM M (mN M)
/-- it fails nowhere -/
def bl (b : Book) (o : Bool) (M : Mch) (ch c : Nat) : Bool := decide ((gL b 2 (if o = true then 0 else 1) (if o = true then 1 else 0) M ch c).length = 0)
/-- the first choice that does not see it -/
def fbc (b : Book) (o : Bool) (M : Mch) (c : Nat) : Option Nat := fsN (fun ch => bl b o M ch c) 0 (nCh M)
def seen (b : Book) (o : Bool) (M : Mch) : Bool := (fsN (fun c => (fbc b o M c).isSome) 0 4).isNone
def onT (b : Book) (M : Mch) : Nat := (if seen b true M = true then 1 else 0) + (if seen b false M = true then 2 else 0)
theorem nCh8 {M : Mch} (hM : WM M) : nCh M ≤ 8 ∧ 0 < nCh M := by
  have : ∀ k, k ≤ 3 → 2 ^ k ≤ 8 ∧ 0 < 2 ^ k := by decide
  exact this _ hM.2.2.1
theorem bl_eq {b : Book} {N aAt vAt : Nat} {M : Mch} {ch c : Nat} : bl b (decide (aAt < vAt)) M ch c = decide ((gL b N aAt vAt M ch c).length = 0) := by
  unfold bl
  rw [gl_len (b := b) (N := 2) (N' := N) (aAt' := aAt) (vAt' := vAt)]
  by_cases h : aAt < vAt
  · simp [h]
  · simp [h]
theorem bl_rl {b : Book} {a v N : Nat} {mp : Nat → Nat} {M : Mch} {aAt vAt ch c : Nat} (G : Geo b a v N mp M) (ha : aAt < N) (hv : vAt < N) (hne : aAt ≠ vAt) (mv : mp vAt = v) (ma : pr b = true → mp aAt = a) (c6 : c < 64) : bl b (decide (aAt < vAt)) M ch (pj a v c) = decide ((rL b a v N mp M ch c).length = 0) := by
  rw [bl_eq (N := N), rl_gl G ha hv hne mv ma c6]
theorem bl_one {b : Book} {M : Mch} {o : Bool} {ch c : Nat} (W : WB b) (hM : WM M) (hp : pr b = false) (c4 : c < 4) : bl b o M ch c = bl b o M ch (c % 2) := by
  unfold bl
  rw [one_bit W hM hp (by decide) (by decide) (by split <;> decide) (by split <;> decide) (by cases o <;> decide) c4]
theorem bl_ord {b : Book} {M : Mch} {o : Bool} {ch c : Nat} (W : WB b) (hM : WM M) (hp : pr b = false) (c4 : c < 4) : bl b o M ch c = bl b true M ch c := by
  unfold bl
  rw [one_order (N := 2) (N' := 2) (aAt := if o = true then 0 else 1) (vAt := if o = true then 1 else 0) (aAt' := if true = true then 0 else 1) (vAt' := if true = true then 1 else 0) W hM hp c4]
theorem seen_ord {b : Book} {M : Mch} {o : Bool} (W : WB b) (hM : WM M) (hp : pr b = false) : seen b o M = seen b true M := by
  unfold seen
  rw [fsN_congr (fun c _ c4 => ?_)]
  unfold fbc
  rw [fsN_congr (fun r _ _ => bl_ord W hM hp (by omega))]
theorem fsN_none' {p : Nat → Bool} : ∀ {d i : Nat}, (∀ r, i ≤ r → r < i + d → ¬ p r = true) → fsN p i d = none := by
  intro d
  induction d with
  | zero => intro i _; rfl
  | succ d ih =>
    intro i h
    rw [fsN_f (h i (Nat.le_refl _) (by omega))]
    exact ih (fun r h1 h2 => h r (by omega) (by omega))
theorem seen_iff {b : Book} {o : Bool} {M : Mch} : seen b o M = true ↔ ∀ c, c < 4 → fbc b o M c = none := by
  unfold seen
  rw [Option.isNone_iff_eq_none]
  constructor
  · intro h c c4
    have := fsN_none h c (Nat.zero_le _) (by omega)
    cases e : fbc b o M c with
    | none => rfl
    | some z => rw [e] at this; cases this
  · intro h
    refine fsN_none' (fun r _ hr => ?_)
    rw [h r (by omega)]
    decide
