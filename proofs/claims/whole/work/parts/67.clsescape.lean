/-! Class: the first escape. -/
def mk (a v c : Nat) : Nat := upS a v 0 (pj a v c)
def tcn (a v : Nat) : Nat := if a = 7 then 2 ^ v else 2 ^ v + 2 ^ a
theorem mk_a : ∀ v, v < 6 → ∀ a, a < 6 → a ≠ v → ∀ c, c < 64 → mk a v c ≤ c ∧ pj a v (mk a v c) = pj a v c ∧ mk a v c ≤ tcn a v := by decide +kernel
theorem mk_b : ∀ v, v < 6 → ∀ c, c < 64 → mk 7 v c ≤ c ∧ pj 7 v (mk 7 v c) = pj 7 v c ∧ mk 7 v c ≤ tcn 7 v := by decide +kernel
theorem mk_t : ∀ v, v < 6 → ∀ a, a < 6 → a ≠ v → ∀ c, c < 64 → ((nI c &&& (nI (tcn a v) ^^^ (-1 : Int32))) = 0 ↔ mk a v c = c) := by decide +kernel
theorem mk_t7 : ∀ v, v < 6 → ∀ c, c < 64 → ((nI c &&& (nI (tcn 7 v) ^^^ (-1 : Int32))) = 0 ↔ mk 7 v c = c) := by decide +kernel
theorem tc_e : ∀ v, v < 6 → ∀ a, a < 6 → a ≠ v → ((((1 : Int32) <<< (nI v &&& 31)) ||| ((1 : Int32) <<< (nI a &&& 31))) = nI (tcn a v) ∧ tcn a v < 64) := by decide +kernel
theorem tc_e7 : ∀ v, v < 6 → ((((1 : Int32) <<< (nI v &&& 31)) ||| (0 : Int32)) = nI (tcn 7 v) ∧ tcn 7 v < 64) := by decide +kernel
/-- the class's way to the first contents -/
def tcl (F : Nat → Option Nat) (T : Nat → Bool) : Nat → Nat → Option (Nat × Nat)
  | _, 0 => none
  | c, d + 1 => if T c = true then (match F c with
    | some ch => some (c, ch)
    | none => tcl F T (c + 1) d) else tcl F T (c + 1) d
theorem escF_some {E : Nat → Nat → Bool} {K : Nat} : ∀ d c c' ch, escF E K c d = some (c', ch) → c ≤ c' ∧ c' < c + d ∧ fsN (E c') 0 K = some ch ∧ ∀ i, c ≤ i → i < c' → fsN (E i) 0 K = none := by
  intro d
  induction d with
  | zero => intro c c' ch h; cases h
  | succ d ih =>
    intro c c' ch h
    unfold escF at h
    cases e : fsN (E c) 0 K with
    | some z =>
      rw [e] at h
      cases h
      exact ⟨Nat.le_refl _, by omega, e, fun i h1 h2 => by omega⟩
    | none =>
      rw [e] at h
      obtain ⟨h1, h2, h3, h4⟩ := ih (c + 1) c' ch h
      refine ⟨by omega, by omega, h3, fun i i1 i2 => ?_⟩
      by_cases q : i = c
      · subst q; exact e
      · exact h4 i (by omega) i2
theorem tcl_some {F : Nat → Option Nat} {T : Nat → Bool} {c' ch : Nat} (hT : T c' = true) (hF : F c' = some ch) : ∀ d c, c ≤ c' → c' < c + d → (∀ i, c ≤ i → i < c' → F i = none) → tcl F T c d = some (c', ch) := by
  intro d
  induction d with
  | zero => intro c h1 h2; omega
  | succ d ih =>
    intro c h1 h2 h3
    unfold tcl
    by_cases q : c = c'
    · subst q
      rw [if_pos hT, hF]
    · rw [h3 c (Nat.le_refl _) (by omega)]
      have := ih (c + 1) (by omega) (by omega) (fun i i1 i2 => h3 i (by omega) i2)
      split
      · exact this
      · exact this
theorem first_esc {b : Book} {N p : Nat} {mp ad : Nat → Nat} {M : Mch} {c ch : Nat} (W : WB b) (hM : WM M) (h2 : 2 ≤ N) (h6 : N ≤ 6) (hp : p < nP b N) (A : MPok N mp ad) (h : escF (Ebl b (pA b N p) (pV b N p) N mp M) (nCh M) 0 (2 ^ N) = some (c, ch)) : c < 64 ∧ ch < 8 ∧ tcl (fun c => fbc b (ordP b N ad p) M (pj (pA b N p) (pV b N p) c)) (fun c => decide (mk (pA b N p) (pV b N p) c = c)) 0 (tcn (pA b N p) (pV b N p) + 1) = some (c, ch) := by
  have p64 : 2 ^ N ≤ 64 := by
    have : ∀ k, k < 7 → 2 ^ k ≤ 64 := by decide
    exact this N (by omega)
  obtain ⟨_, pl, pv, pa⟩ := pl_of W h2 h6 hp
  obtain ⟨s1, s2, s3, s4⟩ := escF_some _ _ _ _ h
  have c64 : c < 64 := by omega
  rw [Ebl_bl W hM h2 h6 hp A c64] at s3
  have mkp : mk (pA b N p) (pV b N p) c ≤ c ∧ pj (pA b N p) (pV b N p) (mk (pA b N p) (pV b N p) c) = pj (pA b N p) (pV b N p) c ∧ mk (pA b N p) (pV b N p) c ≤ tcn (pA b N p) (pV b N p) := by
    rcases pl with z | z
    · have := W.2.1; omega
    · rcases z.2.2 with y | y
      · exact mk_a _ z.2.1 _ y.2.1 y.2.2 c c64
      · rw [y.2]; exact mk_b _ z.2.1 c c64
  have hmc : mk (pA b N p) (pV b N p) c = c := by
    by_cases q : mk (pA b N p) (pV b N p) c < c
    · have := s4 _ (Nat.zero_le _) q
      rw [Ebl_bl W hM h2 h6 hp A (by omega), mkp.2.1, s3] at this
      cases this
    · omega
  refine ⟨c64, fbc_lt hM s3, tcl_some (F := fun c => fbc b (ordP b N ad p) M (pj (pA b N p) (pV b N p) c)) (T := fun c => decide (mk (pA b N p) (pV b N p) c = c)) (c' := c) (decide_eq_true hmc) s3 _ 0 (Nat.zero_le _) (by omega) (fun i _ hi => ?_)⟩
  have := s4 i (Nat.zero_le _) hi
  rw [Ebl_bl W hM h2 h6 hp A (by omega)] at this
  exact this
section CE
variable {w0 : HS} {x r kp mq q N : Nat} {b : Book} {M : Mch} {mp ad : Nat → Nat}
theorem kl_stateIn (G : KL w0 x r kp mq b M q N mp ad) {w : HS} (f : Fr (PT r) w0 w) {p c : Nat} (hp : p < nP b N) (c6 : c < 64) : FX8_stateIn w x kp (nI p) (nI c) = some (nI (pj (pA b N p) (pV b N p) c), w) := by
  obtain ⟨⟨g1, g2, g3, g4, g5, g6, g7⟩, L⟩ := G.at f
  obtain ⟨l1, l2, l3, l4, l5, l6, l7⟩ := id L
  obtain ⟨p32, pl, pv, pa⟩ := pl_of g5 l4 l5 hp
  unfold FX8_stateIn
  refine E_c g1 (E_b l1 (E_c l2 ?_))
  rw [l3]
  refine E_b (ck_pV g4 g5 l4 l5 hp) (E_c g4.1 ?_)
  dsimp only
  rw [g4.2.2.1, bit_nI c c6 _ (by omega)]
  have b1 := bt_lt c (pV b N p)
  have b2 := bt_lt c (pA b N p)
  cases hpr : pr b with
  | false =>
    refine E_t rfl ?_
    have a7 : pA b N p = 7 := by unfold pA; rw [if_neg (by rw [hpr]; decide)]
    rw [a7, (pj7v _ (by omega) c c6).1]
  | true =>
    have pa' := pa hpr
    refine E_f (by decide) (E_b l1 (E_c l2 ?_))
    rw [l3]
    refine E_b (ck_pA g4 g5 l4 l5 hp) ?_
    dsimp only
    rw [cI_n (by omega), bit_nI c c6 _ (by omega), or2 _ b1 _ b2]
    rfl
def wI (wt : Nat) (z : Nat × Nat) : Int32 := if wt = 2 then nI z.1 else nI z.2
theorem kl_ofesc_loop (G : KL w0 x r kp mq b M q N mp ad) {p wt c' ch' : Nat} (hp : p < nP b N) (hw : wt = 2 ∨ wt = 3) : ∀ d c n w, c + d = tcn (pA b N p) (pV b N p) + 1 → d < n → Fr (PT r) w0 w → AT w r N (aT b N ad p) (vT b N ad p) → tcl (fun c => fbc b (ordP b N ad p) M (pj (pA b N p) (pV b N p) c)) (fun c => decide (mk (pA b N p) (pV b N p) c = c)) c d = some (c', ch') → Rn (FX8_ofEscape_76 n w x kp mq (nI p) (nI wt) (nI (tcn (pA b N p) (pV b N p))) (nI c)) (fun z w' => z = wI wt (c', ch') ∧ Fr (PT r) w0 w') := by
  have l4 := G.2.2.2.2.1
  have l5 := G.2.2.2.2.2.1
  have W := G.1.2.2.2.2.1
  have hM := G.1.2.2.2.2.2.2
  obtain ⟨p32, pl, pv, pa⟩ := pl_of W l4 l5 hp
  have hz : ((pA b N p < 6 ∧ pA b N p ≠ pV b N p) ∨ pA b N p = 7) ∧ pV b N p < 6 := by
    rcases pl with z | z
    · have := W.2.1; omega
    · rcases z.2.2 with y | y
      · exact ⟨Or.inl y.2, z.2.1⟩
      · exact ⟨Or.inr y.2, z.2.1⟩
  have t64 : tcn (pA b N p) (pV b N p) < 64 := by
    rcases hz.1 with y | y
    · exact (tc_e _ hz.2 _ y.1 y.2).2
    · rw [y]; exact (tc_e7 _ hz.2).2
  have tst : ∀ c, c < 64 → ((nI c &&& (nI (tcn (pA b N p) (pV b N p)) ^^^ (-1 : Int32))) = 0 ↔ mk (pA b N p) (pV b N p) c = c) := by
    intro c c6
    rcases hz.1 with y | y
    · exact mk_t _ hz.2 _ y.1 y.2 c c6
    · rw [y]; exact mk_t7 _ hz.2 c c6
  intro d
  induction d with
  | zero => intro c n w he hn f A h; cases h
  | succ d ih =>
    intro c n w he hn f A h
    obtain ⟨n, rfl⟩ : ∃ z, n = z + 1 := ⟨n - 1, by omega⟩
    have c6 : c < 64 := by omega
    rw [FX8_ofEscape_76]
    refine Rn.f (nI_nlt (by omega) (by omega)) ?_
    unfold tcl at h
    by_cases hm : mk (pA b N p) (pV b N p) c = c
    · rw [if_pos (decide_eq_true hm)] at h
      refine Rn.t ((tst c c6).mpr hm) (Rn.eq (kl_stateIn G f hp c6) ?_)
      refine (kt_fbc G.1 f A (pj4 _ _ _)).call ?_
      intro z w1 ⟨h1, f1, A1⟩
      dsimp only
      rw [h1]
      change (match fbc b (decide (aT b N ad p < vT b N ad p)) M (pj (pA b N p) (pV b N p) c) with | some ch => some (c, ch) | none => _) = _ at h
      cases e : fbc b (decide (aT b N ad p < vT b N ad p)) M (pj (pA b N p) (pV b N p) c) with
      | none =>
        rw [e] at h
        refine Rn.t rfl ?_
        unfold FX8_ofEscape_129
        rw [nI_1 c]
        exact ih (c + 1) n w1 (by omega) (by omega) f1 A1 h
      | some ch =>
        rw [e] at h
        have ch8 := fbc_lt hM e
        cases h
        refine Rn.f (nI_nM (show ch' < 2 ^ 31 by omega)) ?_
        unfold wI
        rcases hw with hw | hw
        · subst hw
          exact Rn.t rfl (Rn.ret ⟨rfl, f1⟩)
        · subst hw
          exact Rn.f (by decide) (Rn.ret ⟨rfl, f1⟩)
    · rw [if_neg (fun z => hm (of_decide_eq_true z))] at h
      refine Rn.f (fun z => hm ((tst c c6).mp z)) ?_
      unfold FX8_ofEscape_129
      rw [nI_1 c]
      exact ih (c + 1) n w (by omega) (by omega) f A h
/-- what is told of an escape -/
def escV (b : Book) (N : Nat) (mp : Nat → Nat) (M : Mch) (wt p : Nat) : Int32 := match escF (Ebl b (pA b N p) (pV b N p) N mp M) (nCh M) 0 (2 ^ N) with
  | some z => if wt = 0 then cI (pV b N p) else if wt = 1 then cI (pA b N p) else wI wt z
  | none => -2
theorem kl_ofesc (G : KL w0 x r kp mq b M q N mp ad) {w : HS} (f : Fr (PT r) w0 w) {p wt : Nat} (hp : p < nP b N) (hw : wt < 4) (hs : seen b (ordP b N ad p) M = false) : Rn (FX8_ofEscape w x kp mq (nI p) (nI wt)) (fun z w' => z = escV b N mp M wt p ∧ Fr (PT r) w0 w') := by
  obtain ⟨⟨g1, g2, g3, g4, g5, g6, g7⟩, L⟩ := G.at f
  obtain ⟨l1, l2, l3, l4, l5, l6, l7⟩ := id L
  obtain ⟨p32, pl, pv, pa⟩ := pl_of g5 l4 l5 hp
  have ce := catch_eq (M := M) g5 g7 l4 l5 hp l7
  rw [hs] at ce
  unfold FX8_ofEscape escV
  cases e : escF (Ebl b (pA b N p) (pV b N p) N mp M) (nCh M) 0 (2 ^ N) with
  | none => rw [e] at ce; cases ce
  | some cc =>
    obtain ⟨c, ch⟩ := cc
    obtain ⟨c64, ch8, ht⟩ := first_esc g5 g7 l4 l5 hp l7 e
    dsimp only
    refine Rn.okc g1 (Rn.pp l1 (Rn.okc l2 ?_))
    rw [l3]
    refine Rn.eq (ck_pA g4 g5 l4 l5 hp) (Rn.pp l1 (Rn.okc l2 ?_))
    dsimp only
    rw [l3]
    refine Rn.eq (ck_pV g4 g5 l4 l5 hp) ?_
    dsimp only
    by_cases w0 : wt = 0
    · subst w0
      exact Rn.t rfl (Rn.ret ⟨by rw [if_pos rfl, cI_n (by omega)], f⟩)
    · refine Rn.f (nI_ne0 (by omega) (by omega)) ?_
      rw [if_neg w0]
      by_cases w1 : wt = 1
      · subst w1
        exact Rn.t rfl (Rn.ret ⟨by rw [if_pos rfl], f⟩)
      · refine Rn.f (fun z => w1 ((nI_eq (a := wt) (b := 1) (by omega) (by omega)).mp z)) ?_
        rw [if_neg w1]
        refine (kl_aim G f hp).call ?_
        intro _ w2 ⟨f2, A2⟩
        have g4' := (G.at f2).1.2.2.2.1
        refine Rn.okc g4'.1 ?_
        rw [g4'.2.2.1]
        have lp := kl_ofesc_loop (wt := wt) (c' := c) (ch' := ch) G hp (by omega) (tcn (pA b N p) (pV b N p) + 1) 0 FUEL w2 (by omega)
        cases hpr : pr b with
        | false =>
          have a7 : pA b N p = 7 := by unfold pA; rw [if_neg (by rw [hpr]; decide)]
          obtain ⟨t1, t2⟩ := tc_e7 (pV b N p) (by omega)
          refine Rn.t rfl ?_
          unfold FX8_ofEscape_70
          rw [t1, ← a7]
          exact lp (fuel_lt (by rw [a7]; omega)) f2 A2 ht
        | true =>
          have pa' := pa hpr
          have ne : pA b N p ≠ pV b N p := by
            rcases pl with z | z
            · have := g5.2.1; omega
            · rcases z.2.2 with y | y
              · exact y.2.2
              · rw [hpr] at y; cases y.1
          obtain ⟨t1, t2⟩ := tc_e (pV b N p) (by omega) (pA b N p) (by omega) ne
          refine Rn.f (by decide) ?_
          unfold FX8_ofEscape_70
          rw [cI_n (by omega), t1]
          exact lp (fuel_lt (by omega)) f2 A2 ht
theorem kl_esc_loop (G : KL w0 x r kp mq b M q N mp ad) {nr : Bool} {vn : Int32} (hn : vn = 0 ↔ nr = false) {wt : Nat} (hw : wt < 4) : ∀ d p n w, p + d = nP b N → d < n → Fr (PT r) w0 w → Rn (FX8_escape_48 n w x vn (nI wt) kp mq (nI (onT b M)) (nI p)) (fun z w' => z = (match fsN (fun p => ask b N nr p && !seen b (ordP b N ad p) M) p d with | some p => escV b N mp M wt p | none => -2) ∧ Fr (PT r) w0 w') := by
  have l4 := G.2.2.2.2.1
  have l5 := G.2.2.2.2.2.1
  have n30 : nP b N ≤ 30 := by
    unfold nP
    have := nP_le N (by omega) l4
    split <;> omega
  intro d
  induction d with
  | zero =>
    intro p n w he hn' f
    obtain ⟨n, rfl⟩ : ∃ z, n = z + 1 := ⟨n - 1, by omega⟩
    have Gw := G.at f
    rw [FX8_escape_48]
    refine Rn.pp Gw.2.1 (Rn.okc Gw.2.2.1 ?_)
    rw [Gw.2.2.2.1]
    exact Rn.eq (ck_np Gw.1.2.2.2.1 l4) (Rn.t (nI_le (by omega) (by omega)) (Rn.ret ⟨rfl, f⟩))
  | succ d ih =>
    intro p n w he hn' f
    obtain ⟨n, rfl⟩ : ∃ z, n = z + 1 := ⟨n - 1, by omega⟩
    have Gw := G.at f
    rw [FX8_escape_48]
    refine Rn.pp Gw.2.1 (Rn.okc Gw.2.2.1 ?_)
    rw [Gw.2.2.2.1]
    refine Rn.eq (ck_np Gw.1.2.2.2.1 l4) (Rn.f (nI_ge (by omega) (by omega)) (Rn.eq (kl_asked G f (by omega) hn) ?_))
    dsimp only
    unfold FX8_escape_103
    rw [nI_1 p]
    cases ha : ask b N nr p with
    | false =>
      refine Rn.t rfl ?_
      rw [fsN_f (by rw [ha]; exact Bool.false_ne_true)]
      exact ih (p + 1) n w (by omega) (by omega) f
    | true =>
      refine Rn.f (by decide) ((kl_caught G f (by omega)).call ?_)
      intro z1 w1 ⟨h1, f1⟩
      dsimp only
      rw [h1]
      cases hs : seen b (ordP b N ad p) M with
      | true =>
        refine Rn.f (by decide) ?_
        rw [fsN_f (by rw [ha, hs]; exact Bool.false_ne_true)]
        exact ih (p + 1) n w1 (by omega) (by omega) f1
      | false =>
        refine Rn.t rfl ?_
        rw [fsN_t (by rw [ha, hs]; rfl)]
        exact (kl_ofesc G f1 (by omega) hw hs).call (fun z w2 h => Rn.ret h)
end CE
