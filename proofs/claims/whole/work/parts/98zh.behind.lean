/-! The search: what the reference makes of a step. -/
theorem pj_g : ∀ g, g < 2 → ∀ x, x < 4 → pj g (1 - g) x = swp g x := by decide
theorem lt4b : ∀ y, y < 64 → bt y 2 = 0 → bt y 3 = 0 → bt y 4 = 0 → bt y 5 = 0 → y < 4 := by decide +kernel
theorem bt4 : ∀ y, y < 4 → bt y 2 = 0 ∧ bt y 3 = 0 ∧ bt y 4 = 0 ∧ bt y 5 = 0 := by decide
/-- the reference's run stands where the class's state does -/
def SG (g st : Nat) (s : St) : Prop := (st = 4 ∧ s.2.2 ≠ []) ∨ (st < 4 ∧ s.2.2 = [] ∧ s.1 < 4 ∧ swp g s.1 = st)
theorem SG.le {g st : Nat} {s : St} (h : SG g st s) : st ≤ 4 := by rcases h with h | h <;> omega
section SGs
variable {b : Book} {a g c ad sd act st : Nat} {s : St}
theorem rAt_g (W : WB b) (g2 : g < 2) (c2 : c < 2) {x : Nat} (x4 : x < 4) (ha : a = g ∨ pr b = false) : (rAt b a (1 - g) x c).1 = (rAt b 1 0 (swp g x) (ix2 (1 - g) c)).1 ∧ swp g (rAt b a (1 - g) x c).2 = (rAt b 1 0 (swp g x) (ix2 (1 - g) c)).2 ∧ (rAt b a (1 - g) x c).2 < 4 := by
  have e : rAt b a (1 - g) x c = rAt b g (1 - g) x c := by
    rcases ha with rfl | h
    · rfl
    · exact rAt_ind h _ _ _ _ _
  rw [e]
  obtain ⟨p1, p2, p3⟩ := pj_rAt (a := g) (v := 1 - g) (x := x) (c := c) W (by omega) (by omega) (by omega) (by omega) (by omega) (by omega)
  rw [pj_g g g2 x x4] at p1 p2
  obtain ⟨z2, z3, z4, z5⟩ := bt4 x x4
  have ne : ∀ c', 2 ≤ c' → c' < 6 → bt (rAt b g (1 - g) x c).2 c' = bt x c' := fun c' h1 h2 => rAt_ne W (by omega) (by omega) h2 (by omega) (by omega) (by omega)
  have l4 := lt4b _ p3 (by rw [ne 2 (by omega) (by omega)]; exact z2) (by rw [ne 3 (by omega) (by omega)]; exact z3) (by rw [ne 4 (by omega) (by omega)]; exact z4) (by rw [ne 5 (by omega) (by omega)]; exact z5)
  rw [pj_g g g2 _ l4] at p2
  exact ⟨p1, p2, l4⟩
theorem wAt_g (W : WB b) (g2 : g < 2) (c2 : c < 2) {x d : Nat} (x4 : x < 4) (d2 : d < 2) (ha : a = g ∨ pr b = false) : swp g (wAt b a (1 - g) x c d) = wAt b 1 0 (swp g x) (ix2 (1 - g) c) d ∧ wAt b a (1 - g) x c d < 4 := by
  have e : wAt b a (1 - g) x c d = wAt b g (1 - g) x c d := by
    rcases ha with rfl | h
    · rfl
    · exact wAt_ind h _ _ _ _ _ _
  rw [e]
  obtain ⟨p2, p3⟩ := pj_wAt (a := g) (v := 1 - g) (x := x) (c := c) W (by omega) (by omega) (by omega) (by omega) (by omega) (by omega) d2
  rw [pj_g g g2 x x4] at p2
  obtain ⟨z2, z3, z4, z5⟩ := bt4 x x4
  have ne : ∀ c', 2 ≤ c' → c' < 6 → bt (wAt b g (1 - g) x c d) c' = bt x c' := fun c' h1 h2 => wAt_ne W (by omega) (by omega) h2 (by omega) (by omega) (by omega) d2
  have l4 := lt4b _ p3 (by rw [ne 2 (by omega) (by omega)]; exact z2) (by rw [ne 3 (by omega) (by omega)]; exact z3) (by rw [ne 4 (by omega) (by omega)]; exact z4) (by rw [ne 5 (by omega) (by omega)]; exact z5)
  rw [pj_g g g2 _ l4] at p2
  exact ⟨p2, l4⟩
theorem stl_g (W : WB b) (g2 : g < 2) {x : Nat} (x4 : x < 4) (ha : a = g ∨ pr b = false) : swp g (stl b a (1 - g) x) = stl b 1 0 (swp g x) ∧ stl b a (1 - g) x < 4 := by
  have e : stl b a (1 - g) x = stl b g (1 - g) x := by
    rcases ha with rfl | h
    · rfl
    · exact stl_ind h _ _ _ _
  rw [e]
  have p2 := pj_stl (a := g) (v := 1 - g) (x := x) W (by omega) (by omega) (by omega) (by omega) (by omega)
  have p3 : stl b g (1 - g) x < 64 := stl_ltW W (by omega) (by omega)
  rw [pj_g g g2 x x4] at p2
  obtain ⟨z2, z3, z4, z5⟩ := bt4 x x4
  have ne : ∀ c', 2 ≤ c' → c' < 6 → bt (stl b g (1 - g) x) c' = bt x c' := fun c' h1 h2 => stl_ne W (by omega) (by omega) h2 (by omega)
  have l4 := lt4b _ p3 (by rw [ne 2 (by omega) (by omega)]; exact z2) (by rw [ne 3 (by omega) (by omega)]; exact z3) (by rw [ne 4 (by omega) (by omega)]; exact z4) (by rw [ne 5 (by omega) (by omega)]; exact z5)
  rw [pj_g g g2 _ l4] at p2
  exact ⟨p2, l4⟩
theorem sg_stp (W : WB b) (g2 : g < 2) (c2 : c < 2) (a3 : act < 3) (sd3 : sd < 3) (hp : act = 0 → 0 < sd) (ha : a = g ∨ pr b = false) (h : SG g st s) : SG g (itO b (ix2 (1 - g) c) sd act st) (stp b a (1 - g) c ad (if act = 0 then sd - 1 else act + 1) s) := by
  rcases h with ⟨h1, h2⟩ | ⟨h1, h2, h3, h4⟩
  · left
    refine ⟨by unfold itO; rw [if_pos h1], ?_⟩
    generalize (if act = 0 then sd - 1 else act + 1) = op
    unfold stp
    split
    · dsimp only
      split
      · exact h2
      · exact fun z => by cases List.append_eq_nil_iff.mp z with | intro _ y => cases y
    · exact h2
  · obtain ⟨x, n, L⟩ := s
    have h2' : L = [] := h2
    have h3' : x < 4 := h3
    have h4' : swp g x = st := h4
    subst h2'
    have i2 := ix2_lt (1 - g) c
    unfold itO
    rw [if_neg (by omega)]
    by_cases e : act = 0
    · have s0 := hp e
      subst e
      obtain ⟨p1, p2, p3⟩ := rAt_g (a := a) (c := c) W g2 c2 h3' ha
      rw [h4'] at p1 p2
      obtain ⟨r1, r2⟩ := rAt4 (b := b) (x := st) (c := ix2 (1 - g) c) W h1 i2
      unfold stp
      rw [if_pos (show (0:Nat) = 0 from rfl), if_pos (show sd - 1 < 2 by omega), otB_r]
      dsimp only
      rw [p1]
      by_cases q : (rAt b 1 0 st (ix2 (1 - g) c)).1 = sd - 1
      · rw [if_pos q, if_neg (by omega)]
        right
        refine ⟨by omega, rfl, p3, ?_⟩
        show swp g (rAt b a (1 - g) x c).2 = _
        rw [p2]; omega
      · rw [if_neg q, if_pos (by omega)]
        left
        exact ⟨rfl, fun z => by cases z⟩
    · obtain ⟨p2, p3⟩ := wAt_g (a := a) (c := c) (d := act - 1) W g2 c2 h3' (by omega) ha
      rw [h4'] at p2
      have r1 := wAt4 (b := b) (x := st) (c := ix2 (1 - g) c) (d := act - 1) W h1 i2 (by omega)
      unfold stp
      rw [if_neg e, if_neg (by omega), if_neg (by omega), otB_w e]
      right
      refine ⟨by omega, rfl, ?_, ?_⟩
      · show wAt b a (1 - g) x c (act + 1 - 2) < 4
        rw [show act + 1 - 2 = act - 1 by omega]; exact p3
      · show swp g (wAt b a (1 - g) x c (act + 1 - 2)) = _
        rw [show act + 1 - 2 = act - 1 by omega, p2]; omega
end SGs
theorem code_ac : ∀ l, l < 4 → 0 < l → ∀ wy, wy < 2 → ∀ c, c < 3 ^ l → ∀ i, i < l → (wy * 3 ^ l + c) / 3 ^ (l - 1 - i) % 3 = c / 3 ^ (l - 1 - i) % 3 := by decide +kernel
theorem sRs_c : ∀ k, k < 78 → sRs k = sDn k * 3 ^ sLn k + sRs k % 3 ^ sLn k ∧ sRs k % 3 ^ sLn k < 3 ^ sLn k := by decide +kernel
theorem sAc_code {k i : Nat} (k78 : k < 78) (hi' : i < sLn k) : sAc k i = sRs k % 3 ^ sLn k / 3 ^ (sLn k - 1 - i) % 3 := by
  obtain ⟨h1, h2⟩ := sRs_c k k78
  unfold sAc
  have := code_ac (sLn k) (by have := (sLn3 k).2; omega) (sLn3 k).1 (sDn k) (sDn2 k) _ h2 i hi'
  rw [← this, ← h1]
section ST
variable {w : HS} {m k : Nat}
theorem stepop_r (h9 : hc w m = 9) (k78 : k < 78) {i : Nat} (hi' : i < sLn k) : FX9_stepOp w m (nI (sRs k % 3 ^ sLn k)) (nI (sLn k)) (nI i) = some (nI (sAc k i), w) := by
  have l3 := (sLn3 k).2
  have loop : ∀ d t c n, t = i + d → t < 3 → c < 100 → d < n → FX9_stepOp_8 n w (nI i) (nI c) (nI t) = some (nI (c / 3 ^ d % 3), w) := by
    intro d
    induction d with
    | zero =>
      intro t c n ht t3 hc' hn
      obtain ⟨n, rfl⟩ : ∃ z, n = z + 1 := ⟨n - 1, by omega⟩
      rw [FX9_stepOp_8, l3_, nI_rem (a := c) (b := 3) (by omega) (by decide), Nat.pow_zero, Nat.div_one]
      exact E_t (nI_le (by omega) (by omega)) rfl
    | succ d ih =>
      intro t c n ht t3 hc' hn
      obtain ⟨n, rfl⟩ : ∃ z, n = z + 1 := ⟨n - 1, by omega⟩
      obtain ⟨t, rfl⟩ : ∃ z, t = z + 1 := ⟨t - 1, by omega⟩
      rw [FX9_stepOp_8, l3_, nI_dv (a := c) (b := 3) (by omega) (by decide), dI_m, dI_s]
      refine E_f (nI_ge (by omega) (by omega)) ?_
      rw [ih t (c / 3) n (by omega) (by omega) (by omega) (by omega), Nat.div_div_eq_div_mul, show 3 * 3 ^ d = 3 ^ (d + 1) from by rw [Nat.pow_succ, Nat.mul_comm]]
  have c27 : sRs k % 3 ^ sLn k < 27 := Nat.lt_of_lt_of_le (sRs_c k k78).2 (Nat.pow_le_pow_right (by decide) l3)
  unfold FX9_stepOp
  rw [l1_, nI_subc (by omega), sAc_code k78 hi']
  exact E_c h9 (loop (sLn k - 1 - i) (sLn k - 1) _ FUEL (by omega) (by omega) (by omega) (fuel_lt (by omega)))
theorem rsd_s : ∀ sd, sd < 3 → 0 < sd → rsd sd = sd - 1 := by decide
theorem rsd_2 : ∀ sd, sd < 3 → (rsd sd = 2 ↔ sd = 0) := by decide
theorem rsd3 : ∀ sd, sd < 3 → rsd sd < 3 := by decide
theorem soundB_r (h9 : hc w m = 9) (k78 : k < 78) {sd : Nat} (sd3 : sd < 3) : FX9_soundBehind w m (nI (rsd sd)) (nI (sRs k % 3 ^ sLn k)) (nI (sLn k)) = some (if okS k sd = true then nI (rsd (sdI k sd (sLn k))) else -1, w) := by
  have l3 := (sLn3 k).2
  have l0 := (sLn3 k).1
  have loop : okS k sd = true → ∀ d i n, i + d = sLn k → d < n → FX9_soundBehind_6 n w m (nI (sRs k % 3 ^ sLn k)) (nI (sLn k)) (nI (rsd (sdI k sd i))) (nI i) = some (nI (rsd (sdI k sd (sLn k))), w) := by
    intro ok d
    induction d with
    | zero =>
      intro i n hi' hn
      obtain ⟨n, rfl⟩ : ∃ z, n = z + 1 := ⟨n - 1, by omega⟩
      rw [FX9_soundBehind_6]
      rw [show i = sLn k by omega]
      exact E_t (nI_le (by omega) (by omega)) rfl
    | succ d ih =>
      intro i n hi' hn
      obtain ⟨n, rfl⟩ : ∃ z, n = z + 1 := ⟨n - 1, by omega⟩
      have nx := ih (i + 1) n (by omega) (by omega)
      have s3 := sdI_le (k := k) sd3 i
      have a3 := sAc3 k i
      rw [FX9_soundBehind_6]
      refine E_f (nI_ge (by omega) (by omega)) (E_b (stepop_r h9 k78 (by omega)) ?_)
      dsimp only
      have es : sdI k sd (i + 1) = dueA (sdI k sd i) (sAc k i) := rfl
      unfold dueA at es
      by_cases q : sAc k i = 0
      · have p0 := sdI_pos ok i (Or.inl q)
        rw [if_pos q] at es
        rw [es] at nx
        have r3 := rsd3 _ s3
        have c35 : FX9_soundBehind_35 (FX9_soundBehind_6 n) w m (nI (sRs k % 3 ^ sLn k)) (nI (sLn k)) (nI (rsd (sdI k sd i))) (nI i) (nI (sAc k i)) = some (nI (rsd (sdI k sd (sLn k))), w) := by
          unfold FX9_soundBehind_35 FX9_soundBehind_49
          refine E_t (by rw [q]; rfl) ?_
          rw [nI_1]
          exact nx
        refine E_t (by rw [q]; rfl) (E_f (fun z => ?_) c35)
        have := (nI_eq (a := rsd (sdI k sd i)) (b := 2) (by omega) (by decide)).mp z
        have := (rsd_2 _ s3).mp this
        omega
      · rw [if_neg q] at es
        rw [es, rsd_s _ a3 (by omega)] at nx
        refine E_f (nI_ne0 (by omega) (by omega)) ?_
        unfold FX9_soundBehind_35 FX9_soundBehind_49
        refine E_f (nI_ne0 (by omega) (by omega)) ?_
        rw [nI_1, l1_, nI_subc (by omega)]
        exact nx
  unfold FX9_soundBehind
  refine E_c h9 ?_
  by_cases ok : okS k sd = true
  · rw [if_pos ok]
    exact loop ok (sLn k) 0 FUEL (by omega) (fuel_lt (by omega))
  · rw [if_neg ok]
    have z : sd = 0 ∧ sAc k 0 = 0 := by
      unfold okS at ok
      rw [decide_eq_true_eq] at ok
      exact Classical.not_not.mp ok
    obtain ⟨n, hn⟩ : ∃ n, FUEL = n + 1 := ⟨FUEL - 1, by have := fuel_lt (d := 5) (by decide); omega⟩
    rw [hn, FX9_soundBehind_6]
    refine E_f (nI_ge (a := 0) (by omega) (by omega)) (E_b (stepop_r (i := 0) h9 k78 (by omega)) ?_)
    dsimp only
    refine E_t (by rw [z.2]; rfl) (E_t (by rw [z.1]; rfl) rfl)
theorem RRow.fr {P : Nat → Nat → Prop} {w' : HS} {K i : Nat} {bk : Nat → Book} {a : AS} (R : RRow w m K i bk a) (F : Fr P w w') (n : ¬ P m 25) : RRow w' m K i bk a := ⟨R.1.ext (fun u _ => by rw [F.j n]), R.2⟩
/-- reference: machine v -/
def RMv (w : HS) (m v : Nat) (b : Book) : Prop := ∃ kd, kd < 8 ∧ ha w m 31 v = nI kd ∧ ha w m 32 v = nI (v / 4 % 2) ∧ RK w m kd b ∧ WB b
theorem RMv.fr {P : Nat → Nat → Prop} {w' : HS} {v : Nat} {b : Book} (R : RMv w m v b) (F : Fr P w w') (n5 : ¬ P m 5) (n6 : ¬ P m 6) (n31 : ¬ P m 31) (n32 : ¬ P m 32) : RMv w' m v b := by
  obtain ⟨kd, h1, h2, h3, h4, h5⟩ := R
  exact ⟨kd, h1, by rw [F.ar n31]; exact h2, by rw [F.ar n32]; exact h3, h4.fr F n5 n6, h5⟩
/-- the other cell of a machine's fault -/
def aV (b : Book) (g : Nat) : Nat := if pr b = true then g else 7
theorem tries_r {w0 : HS} {v c : Nat} {bk : Nat → Book} (h9 : hc w0 m = 9) (T : TM w0 w m) (R : RMv w0 m v (bk (v / 8))) (v64 : v < 64) (c4 : c < 4) : ∃ w', FX9_triesMachine w m (nI v) (nI c) = some ((), w') ∧ TM w0 w' m ∧ RF w' m (bk (v / 8)) (aV (bk (v / 8)) (gV bk v)) (1 - gV bk v) ∧ ha w' m 16 0 = nI (stl (bk (v / 8)) (aV (bk (v / 8)) (gV bk v)) (1 - gV bk v) c) := by
  obtain ⟨kd, k8, h31, h32, K, W⟩ := R
  have g2 := gV2 bk v
  obtain ⟨g, hg⟩ : ∃ g, g = gV bk v := ⟨_, rfl⟩
  obtain ⟨b, hb⟩ : ∃ b, b = bk (v / 8) := ⟨_, rfl⟩
  have e31 : ha w m 31 = ha w0 m 31 := T.1.ar (by unfold PR; omega)
  have e32 : ha w m 32 = ha w0 m 32 := T.1.ar (by unfold PR; omega)
  have h9' : hc w m = 9 := by rw [T.1.c]; exact h9
  rw [← hb] at K W
  have Kw : RK w m kd b := K.fr T.1 (by unfold PR; omega) (by unfold PR; omega)
  rw [← hg, ← hb]
  rw [← hg] at g2
  have hgv : g = if pr b = true then v / 4 % 2 else 1 - v / 4 % 2 := by rw [hg, hb]; rfl
  have s2 : v / 4 % 2 < 2 := Nat.mod_lt _ (by decide)
  obtain ⟨w', e', r⟩ := ref_try (a := aV b g) (v := 1 - g) (c := c) h9 T K k8 (by
    right
    refine ⟨W, by omega, ?_⟩
    unfold aV
    by_cases q : pr b = true
    · left; rw [if_pos q]; exact ⟨q, by omega, by omega⟩
    · right; rw [if_neg q]; exact ⟨by cases z : pr b with | false => rfl | true => exact absurd z q, rfl⟩) W.2.1 (by omega)
  refine ⟨w', ?_, r⟩
  unfold FX9_triesMachine
  rw [nI_clamp (by omega), e31, h31]
  refine E_c h9' (E_i rfl v64 (by decide) (E_b (ref_pair h9' Kw W (by omega)) ?_))
  dsimp only
  refine E_i rfl v64 (by decide) ?_
  rw [e31, h31, e32, h32]
  unfold aV at e'
  by_cases q : pr b = true
  · rw [if_pos q] at hgv e'
    rw [if_pos q, ← hgv]
    rw [cI_n (by omega), cI_n (by omega)] at e'
    refine E_f (by decide) (E_i rfl v64 (by decide) ?_)
    unfold FX9_triesMachine_32
    rw [nI_clamp (by omega), e32, h32, ← hgv, l1_, nI_subc (by omega)]
    refine E_f (by decide) (E_i rfl v64 (by decide) ?_)
    unfold FX9_triesMachine_53
    exact E_b e' rfl
  · rw [if_neg q] at hgv e'
    rw [if_neg q]
    rw [cI_n (c := 1 - g) (by omega), show 1 - g = v / 4 % 2 by omega] at e'
    refine E_t rfl ?_
    unfold FX9_triesMachine_32
    rw [nI_clamp (by omega), e32, h32]
    refine E_t rfl (E_i rfl v64 (by decide) ?_)
    unfold FX9_triesMachine_53
    exact E_b e' rfl
theorem iV_k (bk : Nat → Book) (v : Nat) : iV bk v / 8 = v / 8 ∧ iV bk v / 4 % 2 = gV bk v := by
  have g2 := gV2 bk v
  have := (sw4 (gV bk v) g2 (v % 4) (Nat.mod_lt _ (by decide))).1
  unfold iV
  omega
theorem fst_ix : ∀ g, g < 2 → ∀ wy, wy < 2 → ix2 (1 - g) wy = (if g = 0 then 1 - wy else wy) ∧ ix2 (1 - g) (1 - wy) = 1 - (if g = 0 then 1 - wy else wy) := by decide
theorem mb62 {w0 : HS} {b : Book} {ac g i j sd st c : Nat} {k45 : HS → Nat → Int32 → Int32 → Int32 → Int32 → Int32 → Option (Int32 × HS)} (h9 : hc w0 m = 9) (R : RF w0 m b ac (1 - g)) (W : WB b) (g2 : g < 2) (hac : ac = g ∨ pr b = false) (k78 : k < 78) (sd3 : sd < 3) (ok : okS k sd = true) (mp : ∀ c, c < 2 → ha w0 m 16 (4 + c) = nI c) (j2 : j < 2) (hc' : c = if sDn k = 0 then j else 1 - j) : ∀ d e n w1 s B, e + d = sLn k → d < n → B + d ≤ 900 → RS w0 w1 m B s → SG g (itI b (ix2 (1 - g) c) k sd e st) s → ∃ w' s', FX9_machineBehind_62 k45 n w1 m (nI i) (nI (sDn k)) (nI (sRs k % 3 ^ sLn k)) (nI (sLn k)) (nI j) (nI (rsd (sdI k sd e))) (nI e) = k45 w' m (nI i) (nI (sDn k)) (nI (sRs k % 3 ^ sLn k)) (nI (sLn k)) (nI (j + 1)) ∧ RS w0 w' m (B + d) s' ∧ SG g (itI b (ix2 (1 - g) c) k sd (sLn k) st) s' := by
  have l3 := (sLn3 k).2
  have d2 := sDn2 k
  have c2 : c < 2 := by rw [hc']; split <;> omega
  intro d
  induction d with
  | zero =>
    intro e n w1 s B he hn hB S G
    obtain ⟨n, rfl⟩ : ∃ z, n = z + 1 := ⟨n - 1, by omega⟩
    refine ⟨w1, s, ?_, S, by rw [show sLn k = e by omega]; exact G⟩
    rw [FX9_machineBehind_62, nI_1]
    exact E_t (nI_le (by omega) (by omega)) rfl
  | succ d ih =>
    intro e n w1 s B he hn hB S G
    obtain ⟨n, rfl⟩ : ∃ z, n = z + 1 := ⟨n - 1, by omega⟩
    have s3 := sdI_le (k := k) sd3 e
    have a3 := sAc3 k e
    have h91 : hc w1 m = 9 := by rw [S.1.c]; exact h9
    obtain ⟨op, hop⟩ : ∃ op, op = if sAc k e = 0 then sdI k sd e - 1 else sAc k e + 1 := ⟨_, rfl⟩
    have G' := sg_stp (ad := c) W g2 c2 a3 s3 (fun z => sdI_pos ok e (Or.inl z)) hac G
    rw [← hop] at G'
    obtain ⟨r2, w2, e2, S2⟩ := ref_op (ad := c) (op := op) R S (by omega) (mp c c2) (by omega) (by omega) (by rw [hop]; split <;> omega)
    obtain ⟨w', s', e', S', G''⟩ := ih (e + 1) n w2 _ (B + 1) (by omega) (by omega) (by omega) S2 G'
    refine ⟨w', s', ?_, by rw [show B + (d + 1) = B + 1 + d by omega]; exact S', G''⟩
    rw [← e', FX9_machineBehind_62]
    refine E_f (nI_ge (by omega) (by omega)) (E_b (stepop_r h91 k78 (by omega)) ?_)
    dsimp only
    have es : sdI k sd (e + 1) = dueA (sdI k sd e) (sAc k e) := rfl
    unfold dueA at es
    have c109 : ∀ y, FX9_machineBehind_62 k45 n w2 m (nI i) (nI (sDn k)) (nI (sRs k % 3 ^ sLn k)) (nI (sLn k)) (nI j) (nI (rsd (sdI k sd (e + 1)))) (nI (e + 1)) = y → FX9_machineBehind_95 k45 (FX9_machineBehind_62 k45 n) w1 m (nI i) (nI (sDn k)) (nI (sRs k % 3 ^ sLn k)) (nI (sLn k)) (nI j) (nI (rsd (sdI k sd e))) (nI e) (nI (sAc k e)) (nI c) m = y := by
      intro y hy
      unfold FX9_machineBehind_95
      by_cases q : sAc k e = 0
      · have p0 := sdI_pos ok e (Or.inl q)
        rw [if_pos q] at es hop
        rw [← rsd_s _ s3 p0] at hop
        rw [es] at hy
        rw [hop] at e2
        refine E_t (by rw [q]; rfl) ?_
        unfold FX9_machineBehind_109
        refine E_b e2 ?_
        dsimp only
        refine E_t (by rw [q]; rfl) ?_
        unfold FX9_machineBehind_126
        rw [nI_1]
        exact hy
      · rw [if_neg q] at es hop
        rw [hop] at e2
        rw [es, rsd_s _ a3 (by omega)] at hy
        refine E_f (nI_ne0 (by omega) (by omega)) ?_
        unfold FX9_machineBehind_109
        rw [nI_1]
        refine E_b e2 ?_
        dsimp only
        refine E_f (nI_ne0 (by omega) (by omega)) ?_
        unfold FX9_machineBehind_126
        rw [nI_1, l1_, nI_subc (by omega)]
        exact hy
    by_cases q : sDn k = 0
    · rw [if_pos q] at hc'
      refine E_t (by rw [q]; rfl) ?_
      rw [hc'] at c109
      exact c109 _ rfl
    · rw [if_neg q] at hc'
      refine E_f (nI_ne0 (by omega) (by omega)) ?_
      rw [l1_, nI_subc (by omega), ← hc']
      exact c109 _ rfl
theorem machine_r {K i v : Nat} {bk : Nat → Book} {a : AS} (h9 : hc w m = 9) (K8 : K ≤ 8) (i12 : i ≤ 1200) (Rr : RRow w m K i bk a) (hv : v < 8 * K) (R : RMv w m v (bk (v / 8))) (mp : ∀ c, c < 2 → ha w m 16 (4 + c) = nI c) (k78 : k < 78) (ok : okS k a.1 = true) : ∃ w', FX9_machineBehind w m (nI i) (nI v) (nI (sDn k)) (nI (sRs k % 3 ^ sLn k)) (nI (sLn k)) = some (nI (rit bk (nxA bk a k) v), w') ∧ TM w w' m := by
  have l3 := (sLn3 k).2
  have d2 := sDn2 k
  have W : WB (bk (v / 8)) := by obtain ⟨_, _, _, _, _, h⟩ := R; exact h
  have g2 := gV2 bk v
  obtain ⟨q8, q4⟩ := iV_k bk v
  obtain ⟨g, hg⟩ : ∃ g, g = gV bk v := ⟨_, rfl⟩
  obtain ⟨b, hb⟩ : ∃ b, b = bk (v / 8) := ⟨_, rfl⟩
  obtain ⟨st, hst⟩ : ∃ st, st = a.2 (iV bk v) := ⟨_, rfl⟩
  have st4 : st ≤ 4 := by rw [hst]; exact Rr.2.2 _ (iV_lt hv)
  obtain ⟨c1, hc1⟩ : ∃ c1, c1 = if g = 0 then 1 - sDn k else sDn k := ⟨_, rfl⟩
  have er : rit bk (nxA bk a k) v = rvv g (itS b c1 k a.1 st) := by
    unfold rit nxA fstG
    dsimp only
    rw [q8, q4, ← hg, ← hb, ← hst, ← hc1]
  have e1 : FX9_partOf w m (nI i) (nI v + 1) = some (nI (rvv g st), w) := by
    rw [nI_1, part_r (bk := bk) (a := a) h9 K8 i12 Rr (p := v + 1) (by omega)]
    unfold rpt rit
    rw [if_neg (by omega), show v + 1 - 1 = v by omega, ← hg, ← hst]
  rw [er]
  unfold FX9_machineBehind
  have r5 := rv5a g (by omega) st (by omega)
  by_cases z4 : st = 4
  · refine ⟨w, E_c h9 (E_b e1 (E_t (by rw [z4]; rfl) ?_)), TM.refl⟩
    have : itS b c1 k a.1 st = 4 := by unfold itS; rw [z4, itI_4, itI_4]
    rw [this]
    rfl
  · obtain ⟨u, eu, Tu, Ru, _⟩ := tries_r (w0 := w) (bk := bk) (c := 0) h9 TM.refl R (by omega) (by decide)
    rw [← hb, ← hg] at Ru
    have sw := sw4 g (by omega) st (by omega)
    have ev : rvv g st = swp g st := by unfold rvv; rw [if_neg z4]
    obtain ⟨w0, hw0⟩ : ∃ w0, w0 = setI (setI (setA u m 16 0 (nI (rvv g st))) m 20 0) m 22 0 := ⟨_, rfl⟩
    have F0 : Fr (PR m) u w0 := by
      rw [hw0]
      exact ((Fr.sA ⟨rfl, Or.inl rfl⟩).trans (Fr.sI ⟨rfl, by omega⟩)).trans (Fr.sI ⟨rfl, by omega⟩)
    have j0 : ∀ j, j ≠ 0 → ha w0 m 16 j = ha u m 16 j := fun j hj => by rw [hw0]; exact nb_j u m (rvv g st) hj
    have R0 : RF w0 m b (aV b g) (1 - g) := Ru.fr F0 (by unfold PR; omega) (by unfold PR; omega) j0
    have h90 : hc w0 m = 9 := R0.1
    have T0 : TM w w0 m := ⟨Tu.1.trans F0, fun j hj => by rw [j0 j (by omega)]; exact Tu.2 j hj⟩
    have S0 : RS w0 w0 m 0 (swp g st, 0, []) := by
      refine ⟨Fr.refl, fun _ _ => rfl, ?_, by show swp g st < 64; omega, ?_, ?_, Nat.le_refl _, Nat.le_refl _, fun k hk => absurd hk (Nat.not_lt_zero _)⟩
      · rw [hw0, ← ev]; exact nb_0 u m (rvv g st)
      · rw [hw0, hi_setI, if_neg (by omega), hi_setI, if_pos ⟨rfl, rfl⟩]; rfl
      · rw [hw0, hi_setI, if_pos ⟨rfl, rfl⟩]; rfl
    have G0 : SG g st (swp g st, 0, []) := Or.inr ⟨by omega, rfl, sw.1, sw.2⟩
    have hac : aV b g = g ∨ pr b = false := by
      unfold aV
      cases q : pr b with
      | true => left; rfl
      | false => right; rfl
    have mp0 : ∀ c, c < 2 → ha w0 m 16 (4 + c) = nI c := fun c hc' => by rw [T0.2 _ (by omega)]; exact mp c hc'
    have Wb : WB b := by rw [hb]; exact W
    have a1 := Rr.2.1
    obtain ⟨f1, f2⟩ := fst_ix g (by omega) (sDn k) d2
    rw [← hc1] at f1 f2
    have part0 : ∀ u, Fr (PR m) w0 u → FX9_partOf u m (nI i) 0 = some (nI (rsd (sdI k a.1 0)), u) := by
      intro u F
      have := part_r (w := u) (bk := bk) (a := a) (by rw [F.c]; exact h90) K8 i12 (Rr.fr (T0.1.trans F) (by unfold PR; omega)) (p := 0) (by omega)
      unfold rpt at this
      rw [if_pos rfl] at this
      exact this
    obtain ⟨n, hn⟩ : ∃ n, FUEL = n + 3 := ⟨FUEL - 3, by have := fuel_lt (d := 5) (by decide); omega⟩
    obtain ⟨w1, s1, m1, S1, G1⟩ := mb62 (i := i) (j := 0) (st := st) (k45 := FX9_machineBehind_45 (n + 2)) h90 R0 Wb (by omega) hac k78 a1 ok mp0 (by decide) (c := sDn k) (by by_cases q : sDn k = 0 <;> simp only [q, if_true, if_false] <;> omega) (sLn k) 0 FUEL w0 _ 0 (by omega) (fuel_lt (by omega)) (by omega) S0 G0
    rw [f1] at G1
    obtain ⟨w2, s2, m2, S2, G2⟩ := mb62 (i := i) (j := 1) (st := itI b c1 k a.1 (sLn k) st) (k45 := FX9_machineBehind_45 (n + 1)) h90 R0 Wb (by omega) hac k78 a1 ok mp0 (by decide) (c := 1 - sDn k) (by by_cases q : sDn k = 0 <;> simp only [q, if_true, if_false] <;> omega) (sLn k) 0 FUEL w1 _ _ (by omega) (fuel_lt (by omega)) (by omega) S1 G1
    rw [f2] at G2
    refine ⟨w2, ?_, ⟨T0.1.trans S2.1, fun j hj => by rw [S2.2.1 j (by omega)]; exact T0.2 j hj⟩⟩
    refine E_c h9 (E_b e1 ?_)
    dsimp only
    refine E_f (fun z => ?_) (E_b eu (E_d (E_d (E_d ?_))))
    · have := (nI_eq (a := rvv g st) (b := 4) (by omega) (by decide)).mp z
      have := rv5c g (by omega) st (by omega) this
      omega
    · rw [← hw0, hn, FX9_machineBehind_45]
      refine E_f (nI_ge (a := 0) (b := 2) (by decide) (by decide)) (E_b (part0 w0 Fr.refl) ?_)
      dsimp only
      refine Eq.trans m1 ?_
      rw [FX9_machineBehind_45]
      refine E_f (nI_ge (a := 1) (b := 2) (by decide) (by decide)) (E_b (part0 w1 S1.1) ?_)
      dsimp only
      refine Eq.trans m2 ?_
      rw [FX9_machineBehind_45]
      refine E_t (nI_le (a := 2) (b := 2) (by decide) (by decide)) ?_
      have eS : itS b c1 k a.1 st = itI b (1 - c1) k a.1 (sLn k) (itI b c1 k a.1 (sLn k) st) := rfl
      rw [← eS] at G2
      obtain ⟨t1, t2, t3, t4, t5, t6, t7, t8, t9⟩ := S2
      rcases G2 with ⟨y1, y2⟩ | ⟨y1, y2, y3, y4⟩
      · rw [y1]
        refine E_f ?_ rfl
        rw [t5]
        have : 0 < s2.2.2.length := List.length_pos_iff.mpr y2
        exact nI_ge (a := 0) this (by omega)
      · rw [y2] at t5
        refine E_t (by rw [t5]; exact nI_le (a := 0) (b := 0) (by decide) (by decide)) ?_
        rw [t3, ← y4]
        unfold rvv
        have := sw4 g (by omega) s2.1 y3
        rw [if_neg (by omega), this.2]
end ST
