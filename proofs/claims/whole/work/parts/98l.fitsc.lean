/-! Which faults fit: pure; class. -/
theorem fsN_isSome {p : Nat → Bool} : ∀ {d i : Nat}, (fsN p i d).isSome = true ↔ ∃ c, i ≤ c ∧ c < i + d ∧ p c = true := by
  intro d i
  constructor
  · intro h
    cases e : fsN p i d with
    | none => rw [e] at h; cases h
    | some c =>
      have := fsN_some e
      exact ⟨c, this⟩
  · rintro ⟨c, c1, c2, c3⟩
    cases e : fsN p i d with
    | none =>
      have := fsN_none e c c1 c2
      rw [c3] at this
      cases this
    | some c => rfl
/-- the numbers are the log's; number and address are -/
def lgq (L : List (Nat × Nat)) (S : Me) : Bool := decide (meF S = some L.length ∧ ∀ i, i < meN S → (gt L i).1 = meX S i)
def lgf (L : List (Nat × Nat)) (S : Me) : Bool := decide (meF S = some L.length ∧ ∀ i, i < meN S → (gt L i).1 = meX S i ∧ (gt L i).2 = meY S i)
/-- it fits: by all contents -/
def fitR (b : Book) (N : Nat) (mp : Nat → Nat) (M : Mch) (ch : Nat) (S : Me) (p : Nat) : Bool := (fsN (fun c => lgf (rL b (pA b N p) (pV b N p) N mp M ch c) S) 0 (2 ^ N)).isSome
/-- by the two cells -/
def fitC (b : Book) (N : Nat) (ad : Nat → Nat) (M : Mch) (ch : Nat) (S : Me) (p : Nat) : Bool := (fsN (fun c => lgq (gL b N (aT b N ad p) (vT b N ad p) M ch c) S) 0 (if pr b = true then 4 else 2)).isSome
theorem gl_rl {b : Book} {N p ch st : Nat} {mp ad : Nat → Nat} {M : Mch} (W : WB b) (hM : WM M) (h2 : 2 ≤ N) (h6 : N ≤ 6) (hp : p < nP b N) (A : MPok N mp ad) (hst : st < if pr b = true then 4 else 2) : ∃ c, c < 2 ^ N ∧ c < 64 ∧ pj (pA b N p) (pV b N p) c = st ∧ gL b N (aT b N ad p) (vT b N ad p) M ch st = rL b (pA b N p) (pV b N p) N mp M ch c := by
  obtain ⟨o1, o2, o3, o4, o5⟩ := at_ok W h2 h6 hp A
  obtain ⟨_, PLk, v1, v2⟩ := pl_of W h2 h6 hp
  have Ge := geo_of W hM h2 h6 hp A
  have fin : ∀ c, c < 2 ^ N → c < 64 → pj (pA b N p) (pV b N p) c = st → ∃ c, c < 2 ^ N ∧ c < 64 ∧ pj (pA b N p) (pV b N p) c = st ∧ gL b N (aT b N ad p) (vT b N ad p) M ch st = rL b (pA b N p) (pV b N p) N mp M ch c := by
    intro c c1 c2 c3
    refine ⟨c, c1, c2, c3, ?_⟩
    rw [rl_gl (ch := ch) Ge o1 o2 o3 o4 o5 c2, c3]
  cases hpr : pr b with
  | true =>
    rw [hpr, if_pos rfl] at hst
    have hav : pA b N p ≠ pV b N p := by
      rcases PLk with z | z
      · have := W.2.1; omega
      · rcases z.2.2 with y | y
        · exact y.2.2
        · rw [hpr] at y; cases y.1
    obtain ⟨c, c1, c2, c3⟩ := cov2 N (by omega) (pV b N p) v1 (pA b N p) (v2 hpr) hav st hst
    exact fin c c1 c2 c3
  | false =>
    rw [hpr] at hst
    have s1' : st < 2 := hst
    have a7 : pA b N p = 7 := by unfold pA; rw [hpr]; rfl
    obtain ⟨c1, c2, c3⟩ := cov1 N (by omega) (pV b N p) v1 st s1'
    exact fin _ c1 c2 (by rw [a7]; exact c3)
theorem rl_bd {b : Book} {a v N ch c : Nat} {mp : Nat → Nat} {M : Mch} (hM : WM M) (h6 : N ≤ 6) : ∀ k, k < (rL b a v N mp M ch c).length → (gt (rL b a v N mp M ch c) k).1 < 288 ∧ (gt (rL b a v N mp M ch c) k).2 < N := fun k hk => gad_bd hM h6 (rl_good.1 k hk)
theorem fit_eq {b : Book} {N p ch : Nat} {mp ad : Nat → Nat} {M : Mch} {S : Me} (W : WB b) (hM : WM M) (h2 : 2 ≤ N) (h6 : N ≤ 6) (hp : p < nP b N) (A : MPok N mp ad) (Vl : VL S) (Gd : ∀ i, i < meN S → GAd M N ch (meX S i) (meY S i)) : fitC b N ad M ch S p = fitR b N mp M ch S p := by
  obtain ⟨o1, o2, o3, o4, o5⟩ := at_ok W h2 h6 hp A
  obtain ⟨_, PLk, v1, v2⟩ := pl_of W h2 h6 hp
  have Ge := geo_of W hM h2 h6 hp A
  have p64 : 2 ^ N ≤ 64 := (pw_c N (by omega)).2.1
  have key : ∀ c, c < 64 → lgq (gL b N (aT b N ad p) (vT b N ad p) M ch (pj (pA b N p) (pV b N p) c)) S = lgf (rL b (pA b N p) (pV b N p) N mp M ch c) S := by
    intro c hc
    rw [← rl_gl (ch := ch) Ge o1 o2 o3 o4 o5 hc]
    unfold lgq lgf
    rw [decide_eq_decide]
    constructor
    · rintro ⟨z1, z2⟩
      refine ⟨z1, fun i hi => ⟨z2 i hi, ?_⟩⟩
      have n2 := (Vl.2.1 _ z1).2
      have n3 := (mn60_le (rL b (pA b N p) (pV b N p) N mp M ch c).length).1
      have g1 := rl_good (b := b) (a := pA b N p) (v := pV b N p) (N := N) (ch := ch) (M := M) (mp := mp) (c := c)
      have := g1.1 i (by omega)
      rw [z2 i hi] at this
      exact gad_inj this (Gd i hi)
    · rintro ⟨z1, z2⟩
      exact ⟨z1, fun i hi => (z2 i hi).1⟩
  unfold fitC fitR
  rw [Bool.eq_iff_iff, fsN_isSome, fsN_isSome]
  constructor
  · rintro ⟨s, _, s1, s2⟩
    rw [Nat.zero_add] at s1
    obtain ⟨c, c1, c2, c3, _⟩ := gl_rl (ch := ch) W hM h2 h6 hp A s1
    refine ⟨c, Nat.zero_le _, by omega, ?_⟩
    rw [← key c c2, c3]
    exact s2
  · rintro ⟨c, _, c1, c2⟩
    have c64 : c < 64 := by omega
    refine ⟨pj (pA b N p) (pV b N p) c, Nat.zero_le _, ?_, ?_⟩
    · rw [Nat.zero_add]
      cases hpr : pr b with
      | true => exact pj4 _ _ _
      | false =>
        have a7 : pA b N p = 7 := by unfold pA; rw [hpr]; rfl
        rw [a7]
        exact (pj7v (pV b N p) (by omega) c c64).2
    · rw [key c c64]
      exact c2
/-- the faults that fit, in their order -/
def gthP (fit : Nat → Nat → Bool) (k : Nat) : Nat → Nat → List (Nat × Nat) → List (Nat × Nat)
  | _, 0, L => L
  | p, d + 1, L => gthP fit k (p + 1) d (if fit k p = true then L ++ [(k, p)] else L)
def gthK (fit : Nat → Nat → Bool) (np : Nat → Nat) : Nat → Nat → List (Nat × Nat) → List (Nat × Nat)
  | _, 0, L => L
  | k, d + 1, L => gthK fit np (k + 1) d (gthP fit k 0 (np k) L)
theorem gthP_congr {f g : Nat → Nat → Bool} {k : Nat} : ∀ d p L, (∀ i, p ≤ i → i < p + d → f k i = g k i) → gthP f k p d L = gthP g k p d L := by
  intro d
  induction d with
  | zero => intro p L _; rfl
  | succ d ih =>
    intro p L h
    unfold gthP
    rw [h p (Nat.le_refl _) (by omega)]
    exact ih _ _ (fun i h1 h2 => h i (by omega) (by omega))
theorem gthK_congr {f g : Nat → Nat → Bool} {np : Nat → Nat} : ∀ d k L, (∀ j, k ≤ j → j < k + d → ∀ i, i < np j → f j i = g j i) → gthK f np k d L = gthK g np k d L := by
  intro d
  induction d with
  | zero => intro k L _; rfl
  | succ d ih =>
    intro k L h
    unfold gthK
    rw [gthP_congr (f := f) (g := g) _ _ _ (fun i _ h2 => h k (Nat.le_refl _) (by omega) i (by omega))]
    exact ih _ _ (fun j h1 h2 => h j (by omega) (by omega))
/-- class: the suspects are these -/
def CFt (w : HS) (s kn : Nat) (np : Nat → Nat) (L : List (Nat × Nat)) : Prop := hc w s = 5 ∧ hi w s 0 = nI L.length ∧ ∀ i, i < L.length → ha w s 2 i = nI (32 * (gt L i).1 + (gt L i).2) ∧ (gt L i).1 < kn ∧ (gt L i).2 < np (gt L i).1
section FC
variable {w0 : HS} {x r q s kp p N kn mn f ch mi : Nat} {b : Book} {M : Mch} {mp ad : Nat → Nat} {S : Me} {B : Nat → Book} {MM : Nat → Mch}
theorem haslog_c {w : HS} {L : List (Nat × Nat)} (Mv : MV w q N S) (Vl : VL S) (hF : meF S = some f) (r7 : hc w r = 7) (h2 : hi w r 2 = nI L.length) (l9 : L.length ≤ 999) (hg : ∀ k, k < L.length → k < 60 → ha w r 5 k = nI (gt L k).1) (hb : ∀ k, k < L.length → (gt L k).1 < 1024) : FX3_hasLogOf w q r = some (if lgq L S = true then 1 else 0, w) := by
  obtain ⟨m1, m2, m3, m4, m5, m6, m7, m8, m9, m10, m11, m12, m13⟩ := Mv
  obtain ⟨f1, f2⟩ := Vl.2.1 f hF
  have m9' : hi w q 8 = nI f := by rw [m9, hF]; rfl
  unfold FX3_hasLogOf
  rw [h2, m9']
  refine E_c m1 (E_c r7 ?_)
  by_cases e : L.length = f
  · refine E_t (by rw [e]) ?_
    have loop : ∀ d i n, i + d = meN S → d < n → (∀ j, j < i → (gt L j).1 = meX S j) → FX3_hasLogOf_15 n w q r (nI i) = some (if lgq L S = true then 1 else 0, w) := by
      intro d
      induction d with
      | zero =>
        intro i n hi hn h
        obtain ⟨n, rfl⟩ : ∃ z, n = z + 1 := ⟨n - 1, by omega⟩
        have t : lgq L S = true := by
          unfold lgq
          rw [decide_eq_true_eq]
          exact ⟨by rw [hF, e], fun j hj => h j (by omega)⟩
        rw [FX3_hasLogOf_15, m10, if_pos t]
        exact E_t (nI_le (by omega) (by omega)) rfl
      | succ d ih =>
        intro i n hi hn h
        obtain ⟨n, rfl⟩ : ∃ z, n = z + 1 := ⟨n - 1, by omega⟩
        have n60 := mn60_le f
        have e1 : FX3_loggedNumber w q (nI i) = some (nI (meX S i), w) := by
          obtain ⟨y1, y2⟩ := Vl.2.2 i (by omega)
          unfold FX3_loggedNumber
          rw [nI_clamp (by omega), m13 i (by omega), (lg_x y1 y2).1]
          exact E_c m1 (E_f (nI_pos (by omega)) (E_f (nI_ge (b := 60) (by omega) (by decide)) (E_i rfl (by omega) (by decide) rfl)))
        have e2 : FX7_numberAt w r (nI i) = some (nI (gt L i).1, w) := by
          unfold FX7_numberAt
          rw [nI_clamp (by omega), hg i (by omega) (by omega), h2]
          exact E_c r7 (E_f (nI_pos (by omega)) (E_f (nI_ge (b := 60) (by omega) (by decide)) (E_f (nI_ge (by omega) (by omega)) (E_i rfl (by omega) (by decide) rfl))))
        have y1 := (Vl.2.2 i (by omega)).1
        rw [FX3_hasLogOf_15, m10]
        refine E_f (nI_ge (by omega) (by omega)) (E_b e1 (E_b e2 ?_))
        dsimp only
        by_cases eq : (gt L i).1 = meX S i
        · refine E_t (by rw [eq]) ?_
          rw [nI_1]
          refine ih (i + 1) n (by omega) (by omega) (fun j hj => ?_)
          by_cases ji : j = i
          · rw [ji]; exact eq
          · exact h j (by omega)
        · have t : ¬ lgq L S = true := by
            unfold lgq
            rw [decide_eq_true_eq]
            exact fun z => eq (z.2 i (by omega))
          rw [if_neg t]
          refine E_f (fun z => ?_) rfl
          have := hb i (by omega)
          exact eq ((nI_eq (by omega) (by omega)).mp z).symm
    exact loop (meN S) 0 FUEL (by omega) (fuel_lt (by have := mn60_le f; omega)) (fun j hj => absurd hj (Nat.not_lt_zero _))
  · have t : ¬ lgq L S = true := by
      unfold lgq
      rw [decide_eq_true_eq, hF]
      exact fun z => e (Option.some.inj z.1).symm
    rw [if_neg t]
    exact E_f (fun z => e ((nI_eq (by omega) (by omega)).mp z)) rfl
/-- class: some contents of the two cells give the log -/
theorem could_c {w0 : HS} {pl : Nat} (G : KL w0 x r kp p b M q N mp ad) (Mv : MV w0 q N S) (Vl : VL S) (hF : meF S = some f) (hH : hi w0 q 7 = nI ch) (hch : ch < 8) (hpl : pl < nP b N) {st : Nat} (hst : st = if pr b = true then 4 else 2) : ∀ d i n w, i + d = st → d < n → Fr (PT r) w0 w → AT w r N (aT b N ad pl) (vT b N ad pl) → Rn (FX8_couldHaveLogged_16 n w x kp p (nI st) (nI i)) (fun z w' => z = (if (fsN (fun c => lgq (gL b N (aT b N ad pl) (vT b N ad pl) M ch c) S) i d).isSome = true then 1 else 0) ∧ Fr (PT r) w0 w') := by
  have st4 : st ≤ 4 := by rw [hst]; split <;> omega
  obtain ⟨W, hM⟩ : WB b ∧ WM M := ⟨G.1.2.2.2.2.1, G.1.2.2.2.2.2.2⟩
  obtain ⟨k1, k2, k3, k4, k5, k6, A⟩ := G.2
  have r7 := G.1.2.2.1
  have xr : x ≠ r := by intro e; have a := G.1.1; rw [e, r7] at a; cases a
  have qr : q ≠ r := by intro e; have a := Mv.1; rw [e, r7] at a; cases a
  intro d
  induction d with
  | zero =>
    intro i n w hi hn F AT0
    obtain ⟨n, rfl⟩ : ∃ z, n = z + 1 := ⟨n - 1, by omega⟩
    rw [FX8_couldHaveLogged_16]
    exact Rn.t (nI_le (by omega) (by omega)) (Rn.ret ⟨rfl, F⟩)
  | succ d ih =>
    intro i n w hi hn F AT0
    obtain ⟨n, rfl⟩ : ∃ z, n = z + 1 := ⟨n - 1, by omega⟩
    have c7 : hp w x 7 = some r := by rw [F.o (fun z => xr z)]; exact G.1.2.1
    have c5 : hp w x 5 = some q := by rw [F.o (fun z => xr z)]; exact k1
    have q7 : CMarchTesterLaw_law_r3697_224879.hi w q 7 = nI ch := by rw [F.i (fun z => qr z)]; exact hH
    obtain ⟨c, c1, c2, c3, c4⟩ := gl_rl (ch := ch) W hM k4 k5 hpl A (show i < if pr b = true then 4 else 2 by omega)
    rw [FX8_couldHaveLogged_16]
    refine Rn.f (nI_ge (by omega) (by omega)) (Rn.pp c7 (Rn.pp c5 (Rn.okc (by rw [F.c]; exact k2) ?_)))
    rw [q7]
    refine (kt_go (ch := ch) (c := i) G.1 F AT0 hch (by omega)).call ?_
    rintro z w1 ⟨_, l9, ⟨y, CT1⟩, F1, AT1⟩
    have d7 : hp w1 x 7 = some r := by rw [F1.o (fun z => xr z)]; exact G.1.2.1
    have d5 : hp w1 x 5 = some q := by rw [F1.o (fun z => xr z)]; exact k1
    refine Rn.pp d5 (Rn.pp d7 ?_)
    have hl := haslog_c (w := w1) (L := gL b N (aT b N ad pl) (vT b N ad pl) M ch i) (Mv.ke (Ke.of F1) (fun k z => qr z)) Vl hF (by rw [F1.c]; exact r7) CT1.2.2.2.1 l9 CT1.2.2.2.2.2 (by
      rw [c4]
      intro k hk
      have := (rl_bd hM k5 k hk).1
      omega)
    refine Rn.eq hl ?_
    dsimp only
    by_cases t : lgq (gL b N (aT b N ad pl) (vT b N ad pl) M ch i) S = true
    · rw [if_pos t, fsN_t t]
      exact Rn.f i10 (Rn.ret ⟨rfl, F1⟩)
    · rw [if_neg t, fsN_f t, nI_1]
      exact Rn.t rfl (ih (i + 1) n w1 (by omega) (by omega) F1 AT1)
theorem could_call {w0 : HS} {pl : Nat} (G : KL w0 x r kp p b M q N mp ad) (Mv : MV w0 q N S) (Vl : VL S) (hF : meF S = some f) (hH : hi w0 q 7 = nI ch) (hch : ch < 8) (hpl : pl < nP b N) {w : HS} (F : Fr (PT r) w0 w) (AT0 : AT w r N (aT b N ad pl) (vT b N ad pl)) : Rn (FX8_couldHaveLogged w x kp p) (fun z w' => z = (if fitC b N ad M ch S pl = true then 1 else 0) ∧ Fr (PT r) w0 w') := by
  have r7 := G.1.2.2.1
  have K := G.1.2.2.2.1
  have Kw : CK w kp b := (G.at F).1.2.2.2.1
  have k1 := Kw.2.2.1
  unfold FX8_couldHaveLogged fitC
  refine Rn.okc (by rw [F.c]; exact G.1.1) (Rn.okc Kw.1 ?_)
  unfold FX8_couldHaveLogged_12
  cases hpr : pr b with
  | true =>
    rw [hpr] at k1
    have := could_c (st := 4) G Mv Vl hF hH hch hpl (by rw [hpr]; rfl) 4 0 FUEL w rfl (fuel_lt (by decide)) F AT0
    exact Rn.f (by rw [k1]; decide) this
  | false =>
    rw [hpr] at k1
    have := could_c (st := 2) G Mv Vl hF hH hch hpl (by rw [hpr]; rfl) 2 0 FUEL w rfl (fuel_lt (by decide)) F AT0
    exact Rn.t (by rw [k1]; rfl) this
end FC
