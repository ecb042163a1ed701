/-! Class: trials by the two orders. -/
section C8
variable {w0 : HS} {x r kp mp : Nat} {b : Book} {M : Mch}
/-- class: the trial and a kind and a march -/
def KT (w : HS) (x r kp mp : Nat) (b : Book) (M : Mch) : Prop := hc w x = 8 ∧ hp w x 7 = some r ∧ hc w r = 7 ∧ CK w kp b ∧ WB b ∧ CM w mp M ∧ WM M
def PT (r : Nat) : Nat → Nat → Prop := fun b _ => b = r
theorem KT.at {w : HS} (G : KT w0 x r kp mp b M) (f : Fr (PT r) w0 w) : KT w x r kp mp b M := by
  obtain ⟨g1, g2, g3, g4, g5, g6, g7⟩ := G
  refine ⟨by rw [f.c]; exact g1, ?_, by rw [f.c]; exact g3, g4.fr f (fun k z => g4.cl g3 (by decide) z), g5, g6.fr f (fun k z => ?_), g7⟩
  · rw [f.o (fun z => by unfold PT at z; rw [z, g3] at g1; cases g1)]; exact g2
  · have := g6.1
    unfold PT at z
    rw [z, g3] at this
    cases this
/-- the trial is placed -/
def AT (w : HS) (r N aAt vAt : Nat) : Prop := hi w r 0 = nI aAt ∧ hi w r 1 = nI vAt ∧ hi w r 3 = nI N ∧ N ≤ 6 ∧ aAt < N ∧ vAt < N
theorem AT.fr {w w' : HS} {r N aAt vAt : Nat} (h : AT w r N aAt vAt) (f : Fr (P7 r) w w') : AT w' r N aAt vAt := by
  obtain ⟨h1, h2, h3, h4⟩ := h
  exact ⟨by rw [f.i (by unfold P7; omega)]; exact h1, by rw [f.i (by unfold P7; omega)]; exact h2, by rw [f.i (by unfold P7; omega)]; exact h3, h4⟩
theorem kt_place {w : HS} (h : hc w r = 7) {N aAt vAt : Nat} : ∃ w', FX7_place w r (nI N) (nI aAt) (nI vAt) = some ((), w') ∧ Fr (PT r) w w' ∧ (N ≤ 6 → aAt < N → vAt < N → AT w' r N aAt vAt) := by
  unfold FX7_place
  refine ⟨_, E_c h (E_d (E_d (E_d rfl))), ((Fr.sI (p := PT r) (show PT r r 3 from rfl)).trans (Fr.sI (show PT r r 0 from rfl))).trans (Fr.sI (show PT r r 1 from rfl)), fun h1 h2 h3 => ⟨?_, ?_, ?_, h1, h2, h3⟩⟩
  · rw [hi_setI, if_neg (by omega), hi_setI, if_pos ⟨rfl, rfl⟩]
  · rw [hi_setI, if_pos ⟨rfl, rfl⟩]
  · rw [hi_setI, if_neg (by omega), hi_setI, if_neg (by omega), hi_setI, if_pos ⟨rfl, rfl⟩]
theorem P7_PT {r : Nat} {w w' : HS} (h : Fr (P7 r) w w') : Fr (PT r) w w' := h.mono (fun _ _ z => z.1)
theorem kt_go {w : HS} (G : KT w0 x r kp mp b M) (f : Fr (PT r) w0 w) {N aAt vAt : Nat} (A : AT w r N aAt vAt) {ch c : Nat} (hch : ch < 8) (c4 : c < 4) : Rn (FX7_go w r kp mp (nI c) (nI ch)) (fun z w' => z = nI (gL b N aAt vAt M ch c).length ∧ (gL b N aAt vAt M ch c).length ≤ 999 ∧ (∃ y, CT w w' r 999 y (gL b N aAt vAt M ch c)) ∧ Fr (PT r) w0 w' ∧ AT w' r N aAt vAt) := by
  obtain ⟨g1, g2, g3, g4, g5, g6, g7⟩ := G.at f
  have T : TG w r kp mp b N aAt vAt M := ⟨g3, g4, g5, g6, g7, A.1, A.2.1, A.2.2.1, A.2.2.2.1, A.2.2.2.2.1, A.2.2.2.2.2⟩
  exact (tr_go T hch c4).mono (fun z w' ⟨h1, y, h2⟩ => ⟨h1, h2.2.2.2.2.1, ⟨y, h2⟩, f.trans (P7_PT h2.1), A.fr h2.1⟩)
theorem shl1 : ∀ k, k < 8 → ((1 : Int32) <<< (nI k &&& 31)) = nI (2 ^ k) := by decide +kernel
theorem kt_ch {w : HS} (G : KT w0 x r kp mp b M) (f : Fr (PT r) w0 w) : FX2_choices w mp = some (nI (nCh M), w) := by
  obtain ⟨g1, g2, g3, g4, g5, g6, g7⟩ := G.at f
  unfold FX2_choices
  refine E_c g6.1 ?_
  have := g7.2.2.1
  rw [g6.2.2.1, shl1 _ (by omega)]
  rfl
theorem kt_fbc_loop (G : KT w0 x r kp mp b M) {N aAt vAt c : Nat} (c4 : c < 4) : ∀ d i n w, i + d = nCh M → d < n → Fr (PT r) w0 w → AT w r N aAt vAt → Rn (FX8_firstBlindChoice_3 n w x kp mp (nI c) (nI i)) (fun z w' => z = oI (fsN (fun ch => bl b (decide (aAt < vAt)) M ch c) i d) ∧ Fr (PT r) w0 w' ∧ AT w' r N aAt vAt) := by
  have n8 := nCh8 G.2.2.2.2.2.2
  intro d
  induction d with
  | zero =>
    intro i n w he hn f A
    obtain ⟨n, rfl⟩ : ∃ z, n = z + 1 := ⟨n - 1, by omega⟩
    rw [FX8_firstBlindChoice_3]
    exact Rn.eq (kt_ch G f) (Rn.t (nI_le (by omega) (by omega)) (Rn.ret ⟨rfl, f, A⟩))
  | succ d ih =>
    intro i n w he hn f A
    obtain ⟨n, rfl⟩ : ∃ z, n = z + 1 := ⟨n - 1, by omega⟩
    rw [FX8_firstBlindChoice_3]
    refine Rn.eq (kt_ch G f) (Rn.f (nI_ge (by omega) (by omega)) (Rn.pp (G.at f).2.1 ?_))
    refine (kt_go G f A (ch := i) (c := c) (by omega) c4).call ?_
    intro z w' ⟨h1, h2, _, h4, h5⟩
    dsimp only
    rw [h1]
    by_cases h0 : (gL b N aAt vAt M i c).length = 0
    · rw [h0]
      refine Rn.t rfl (Rn.ret ⟨?_, h4, h5⟩)
      rw [fsN_t (by rw [bl_eq (N := N), h0]; rfl)]
      rfl
    · refine Rn.f (nI_ne0 (by omega) (by omega)) ?_
      rw [fsN_f (by rw [bl_eq (N := N), decide_eq_true_eq]; exact h0), nI_1 i]
      exact ih (i + 1) n w' (by omega) (by omega) h4 h5
theorem kt_fbc (G : KT w0 x r kp mp b M) {w : HS} (f : Fr (PT r) w0 w) {N aAt vAt c : Nat} (A : AT w r N aAt vAt) (c4 : c < 4) : Rn (FX8_firstBlindChoice w x kp mp (nI c)) (fun z w' => z = oI (fbc b (decide (aAt < vAt)) M c) ∧ Fr (PT r) w0 w' ∧ AT w' r N aAt vAt) := by
  have n8 := nCh8 G.2.2.2.2.2.2
  unfold FX8_firstBlindChoice
  exact Rn.okc (G.at f).1 (kt_fbc_loop G c4 (nCh M) 0 FUEL w (by omega) (fuel_lt (by omega)) f A)
theorem oI_none {o : Option Nat} (h : ∀ z, o = some z → z < 2 ^ 31) : oI o = -1 ↔ o = none := by
  cases o with
  | none => exact ⟨fun _ => rfl, fun _ => rfl⟩
  | some z => exact ⟨fun q => absurd q (nI_nM (h z rfl)), fun q => by cases q⟩
theorem fbc_lt {b : Book} {o : Bool} {M : Mch} {c z : Nat} (hM : WM M) (h : fbc b o M c = some z) : z < 8 := by
  have n8 := nCh8 hM
  have := fsN_some h
  omega
theorem kt_seen_loop (G : KT w0 x r kp mp b M) {N aAt vAt : Nat} : ∀ d i n w, i + d = 4 → d < n → Fr (PT r) w0 w → AT w r N aAt vAt → Rn (FX8_isAlwaysSeen_2 n w x kp mp (nI i)) (fun z w' => z = (if (fsN (fun c => (fbc b (decide (aAt < vAt)) M c).isSome) i d).isNone = true then 1 else 0) ∧ Fr (PT r) w0 w' ∧ AT w' r N aAt vAt) := by
  intro d
  induction d with
  | zero =>
    intro i n w he hn f A
    obtain ⟨n, rfl⟩ : ∃ z, n = z + 1 := ⟨n - 1, by omega⟩
    obtain rfl : i = 4 := by omega
    rw [FX8_isAlwaysSeen_2]
    exact Rn.t (nI_le (a := 4) (b := 4) (by decide) (by decide)) (Rn.ret ⟨rfl, f, A⟩)
  | succ d ih =>
    intro i n w he hn f A
    obtain ⟨n, rfl⟩ : ∃ z, n = z + 1 := ⟨n - 1, by omega⟩
    rw [FX8_isAlwaysSeen_2]
    refine Rn.f (nI_ge (b := 4) (by omega) (by decide)) ((kt_fbc G f A (c := i) (by omega)).call ?_)
    intro z w' ⟨h1, h4, h5⟩
    dsimp only
    rw [h1]
    cases e : fbc b (decide (aAt < vAt)) M i with
    | none =>
      refine Rn.t rfl ?_
      rw [fsN_f (by rw [e]; decide), nI_1 i]
      exact ih (i + 1) n w' (by omega) (by omega) h4 h5
    | some z =>
      have := fbc_lt G.2.2.2.2.2.2 e
      refine Rn.f (nI_nM (show z < 2 ^ 31 by omega)) (Rn.ret ⟨?_, h4, h5⟩)
      rw [fsN_t (by rw [e]; rfl)]
      rfl
theorem kt_seen (G : KT w0 x r kp mp b M) {w : HS} (f : Fr (PT r) w0 w) {N aAt vAt : Nat} (A : AT w r N aAt vAt) : Rn (FX8_isAlwaysSeen w x kp mp) (fun z w' => z = (if seen b (decide (aAt < vAt)) M = true then 1 else 0) ∧ Fr (PT r) w0 w' ∧ AT w' r N aAt vAt) := by
  unfold FX8_isAlwaysSeen
  exact Rn.okc (G.at f).1 (kt_seen_loop G 4 0 FUEL w (by omega) (fuel_lt (by omega)) f A)
end C8
theorem onT3 (b : Book) (M : Mch) : onT b M ≤ 3 := by unfold onT; split <;> split <;> omega
/-- what both orders leave: the trial, and what is known -/
def PB (x r s : Nat) : Nat → Nat → Prop := fun b k => b = r ∨ (b = x ∧ k = 8)
theorem both_eq {w : HS} {x r kp mp mi k : Nat} {b : Book} {M : Mch} (G : KT w x r kp mp b M) (hk : k < 8) (hm : mi < 6) (ek : FX8_kindAt w x (nI k) = some (some kp, w)) (em : FX8_marchAt w x (nI mi) = some (some mp, w)) (hkn : ha w x 8 (8 * mi + k) = 0 ∨ ha w x 8 (8 * mi + k) = nI (1 + onT b M)) : Rn (FX8_bothOrders w x (nI mi) (nI k)) (fun z w' => z = nI (onT b M) ∧ Fr (fun b k => b = r ∨ (b = x ∧ k = 8)) w w' ∧ ha w' x 8 (8 * mi + k) = nI (1 + onT b M) ∧ ∀ j, j ≠ 8 * mi + k → ha w' x 8 j = ha w x 8 j) := by
  have o3 := onT3 b M
  have ix : (nI mi * (8 : Int32)) + nI k = nI (8 * mi + k) := by rw [l8_, nI_mul, nI_add, Nat.mul_comm]
  have xr : x ≠ r := by
    intro q
    have := G.2.2.1
    rw [← q, G.1] at this
    cases this
  unfold FX8_bothOrders
  refine Rn.okc G.1 (Rn.eq ek (Rn.eq em ?_))
  dsimp only
  show Rn (okb _ _) _
  rw [ix]
  refine Rn.oki rfl (by omega) (by decide) ?_
  rw [nI_clamp (by omega)]
  rcases hkn with h0 | h1
  · refine Rn.t h0 (Rn.pp G.2.1 ?_)
    obtain ⟨w1, e1, f1, A1⟩ := kt_place (w := w) (N := 2) (aAt := 0) (vAt := 1) G.2.2.1
    refine Rn.eq e1 ?_
    refine (kt_seen G f1 (A1 (by decide) (by decide) (by decide))).call ?_
    intro z1 w2 ⟨hz1, f2, A2⟩
    dsimp only
    have tail : ∀ s1 : Nat, s1 = (if seen b true M = true then 1 else 0) → Rn (FX8_bothOrders_67 w2 x kp mp (nI (8 * mi + k)) (nI s1)) (fun z w' => z = nI (onT b M) ∧ Fr (fun b k => b = r ∨ (b = x ∧ k = 8)) w w' ∧ ha w' x 8 (8 * mi + k) = nI (1 + onT b M) ∧ ∀ j, j ≠ 8 * mi + k → ha w' x 8 j = ha w x 8 j) := by
      intro s1 hs1
      unfold FX8_bothOrders_67
      refine Rn.pp (G.at f2).2.1 ?_
      obtain ⟨w3, e3, f3, A3⟩ := kt_place (w := w2) (N := 2) (aAt := 1) (vAt := 0) (G.at f2).2.2.1
      refine Rn.eq e3 ?_
      refine (kt_seen G (f2.trans f3) (A3 (by decide) (by decide) (by decide))).call ?_
      intro z4 w4 ⟨hz4, f4, A4⟩
      dsimp only
      have fin : ∀ s2 : Nat, s2 = (if seen b false M = true then 2 else 0) → Rn (FX8_bothOrders_96 w4 x (nI (8 * mi + k)) (nI s2) (nI s1)) (fun z w' => z = nI (onT b M) ∧ Fr (fun b k => b = r ∨ (b = x ∧ k = 8)) w w' ∧ ha w' x 8 (8 * mi + k) = nI (1 + onT b M) ∧ ∀ j, j ≠ 8 * mi + k → ha w' x 8 j = ha w x 8 j) := by
        intro s2 hs2
        have eo : s1 + s2 = onT b M := by unfold onT; rw [hs1, hs2]
        unfold FX8_bothOrders_96
        rw [nI_clamp (by omega), nI_add, l1_, nI_add, eo]
        refine Rn.oki rfl (by omega) (by decide) (Rn.bd (Rn.oki rfl (by omega) (by decide) (Rn.ret ?_)))
        rw [ha_setA, if_pos ⟨rfl, rfl⟩, upd_s]
        refine ⟨by rw [nI_subc (by omega), show 1 + onT b M - 1 = onT b M from by omega], (f4.mono (fun b k z => Or.inl z)).trans (Fr.sA (Or.inr ⟨rfl, rfl⟩)), ?_, ?_⟩
        · rfl
        · intro j hj
          rw [upd_n hj, f4.ar (fun z => xr z)]
      rw [hz4]
      cases hs : seen b (decide (1 < 0)) M with
      | true => exact Rn.f (by decide) (fin 2 (by rw [show (decide (1 < 0)) = false from rfl] at hs; rw [hs]; rfl))
      | false => exact Rn.t rfl (fin 0 (by rw [show (decide (1 < 0)) = false from rfl] at hs; rw [hs]; rfl))
    rw [hz1]
    cases hs : seen b (decide (0 < 1)) M with
    | true => exact Rn.f (by decide) (tail 1 (by rw [show (decide (0 < 1)) = true from rfl] at hs; rw [hs]; rfl))
    | false => exact Rn.t rfl (tail 0 (by rw [show (decide (0 < 1)) = true from rfl] at hs; rw [hs]; rfl))
  · rw [h1]
    refine Rn.f (nI_ne0 (by omega) (by omega)) (Rn.oki rfl (by omega) (by decide) (Rn.ret ⟨?_, Fr.refl, h1, fun _ _ => rfl⟩))
    rw [l1_, nI_subc (by omega), show 1 + onT b M - 1 = onT b M from by omega]
