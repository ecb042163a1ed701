/-! Marches over a memory with a fault: the run in the memory and the run on the fault's two cells. -/
theorem stlL_ne {b : Book} {a v : Nat} (W : WB b) (hv : v < 6) {c : Nat} (c6 : c < 6) (hc : c ≠ v) : ∀ d i x, i + d ≤ b.1 → x < 64 → bt (stlL b a v i d x) c = bt x c := by
  intro d
  induction d with
  | zero => intro i x _ _; rfl
  | succ d ih =>
    intro i x hi hx
    unfold stlL
    split
    · rename_i h
      have s3 := (W.s (show i < b.1 by omega) h.1).2
      rw [ih _ _ (by omega) (sb_lt x hx v hv _ s3), bt_sb_ne x hx v hv _ s3 c (by omega) hc]
    · exact ih _ _ (by omega) hx
theorem stl_ne {b : Book} {a v x c : Nat} (W : WB b) (hv : v < 6) (hx : x < 64) (c6 : c < 6) (hc : c ≠ v) : bt (stl b a v x) c = bt x c := by
  unfold stl
  cases e : ru b 107 none none with
  | none => exact stlL_ne W hv c6 hc _ _ _ (by omega) hx
  | some r =>
    obtain ⟨r1, r2, _⟩ := ru_some e
    have k3 := W.k r1 r2
    dsimp only
    rw [stlL_ne W hv c6 hc _ _ _ (by omega) (sb_lt x hx v hv _ k3), bt_sb_ne x hx v hv _ k3 c (by omega) hc]
theorem fol_ne {b : Book} {a v x c c' of by_ : Nat} (W : WB b) (hv : v < 6) (hx : x < 64) (c6 : c < 6) (hc : c ≠ v) : bt (fol b a v x c' of by_) c = bt x c := by
  unfold fol
  split
  · cases e : ru b 97 (some of) (some by_) with
    | none => rfl
    | some r =>
      obtain ⟨r1, r2, _⟩ := ru_some e
      have a3 := W.a r1 r2
      dsimp only
      rw [bt_sb_ne x hx v hv _ (by split <;> omega) c (by omega) hc]
  · rfl
theorem wrt_ne {b : Book} {a v x c c' d : Nat} (W : WB b) (hv : v < 6) (hx : x < 64) (c6 : c < 6) (hc : c ≠ v) (c6' : c' < 6) (hcc : c ≠ c') (hd : d < 2) : bt (wrt b a v x c' d) c = bt x c := by
  unfold wrt
  have key : ∀ e, e < 2 → bt (stl b a v (fol b a v (sb x c' e) c' (bt x c') d)) c = bt x c := by
    intro e he
    have s6 := sb_lt x hx c' c6' e he
    rw [stl_ne W hv (fol_ltW W hv s6) c6 hc, fol_ne W hv s6 c6 hc, bt_sb_ne x hx c' c6' e he c (by omega) hcc]
  split
  · rename_i r e
    split at e
    · obtain ⟨r1, r2, _⟩ := ru_some e
      exact key _ (W.v r1 r2).1
    · cases e
  · exact key d hd
theorem rdd_ne {b : Book} {a v x c c' : Nat} (W : WB b) (hv : v < 6) (hx : x < 64) (c6 : c < 6) (hc : c ≠ v) (c6' : c' < 6) (hcc : c ≠ c') : bt (rdd b a v x c').2 c = bt x c := by
  unfold rdd
  have key : ∀ y, y < 64 → bt (stl b a v (fol b a v y c' (bt x c') 2)) c = bt y c := by
    intro y hy
    rw [stl_ne W hv (fol_ltW W hv hy) c6 hc, fol_ne W hv hy c6 hc]
  split
  · rename_i r e
    split at e
    · obtain ⟨r1, r2, _⟩ := ru_some e
      have v3 := (W.v r1 r2).1
      dsimp only
      rw [key _ (sb_lt x hx c' c6' _ v3), bt_sb_ne x hx c' c6' _ v3 c (by omega) hcc]
    · cases e
  · exact key x hx
theorem wrt_lt {b : Book} {a v x c d : Nat} (W : WB b) (hv : v < 6) (hx : x < 64) (c6 : c < 6) (hd : d < 2) : wrt b a v x c d < 64 := by
  unfold wrt
  refine stl_ltW W hv (fol_ltW W hv (sb_lt x hx c c6 _ ?_))
  split
  · rename_i r e
    split at e
    · obtain ⟨r1, r2, _⟩ := ru_some e
      exact (W.v r1 r2).1
    · cases e
  · exact hd
theorem rdd_lt {b : Book} {a v x c : Nat} (W : WB b) (hv : v < 6) (hx : x < 64) (c6 : c < 6) : (rdd b a v x c).2 < 64 := by
  unfold rdd
  split
  · rename_i r e
    split at e
    · obtain ⟨r1, r2, _⟩ := ru_some e
      exact stl_ltW W hv (fol_ltW W hv (sb_lt x hx c c6 _ (W.v r1 r2).1))
    · cases e
  · exact stl_ltW W hv (fol_ltW W hv hx)
theorem wAt_ne {b : Book} {a v x c c' d : Nat} (W : WB b) (hv : v < 6) (hx : x < 64) (c6 : c < 6) (hc : c ≠ v) (c6' : c' < 6) (hcc : c ≠ c') (hd : d < 2) : bt (wAt b a v x c' d) c = bt x c := by
  unfold wAt
  split
  · rfl
  · split
    · exact wrt_ne W hv hx c6 hc hv hc hd
    · split
      · rw [wrt_ne W hv (wrt_lt W hv hx c6' hd) c6 hc hv hc hd, wrt_ne W hv hx c6 hc c6' hcc hd]
      · exact wrt_ne W hv hx c6 hc c6' hcc hd
theorem rAt_ne {b : Book} {a v x c c' : Nat} (W : WB b) (hv : v < 6) (hx : x < 64) (c6 : c < 6) (hc : c ≠ v) (c6' : c' < 6) (hcc : c ≠ c') : bt (rAt b a v x c').2 c = bt x c := by
  unfold rAt
  split
  · rfl
  · split
    · exact rdd_ne W hv hx c6 hc hv hc
    · split
      · dsimp only
        rw [rdd_ne W hv (rdd_lt W hv hx c6') c6 hc hv hc, rdd_ne W hv hx c6 hc c6' hcc]
      · exact rdd_ne W hv hx c6 hc c6' hcc
-- settled states
theorem sb_all : ∀ x, x < 4 → ∀ u, u < 2 → bt (sb x 0 u) 1 = bt x 1 ∧ ∀ t, t < 2 → sb (sb x 0 u) 0 t = sb x 0 t := by decide +kernel
theorem stlL_form {b : Book} (W : WB b) (al : Nat) : ∀ d i, i + d ≤ b.1 → (∀ x, x < 4 → bt x 1 = al → stlL b 1 0 i d x = x) ∨ ∃ u, u < 2 ∧ ∀ x, x < 4 → bt x 1 = al → stlL b 1 0 i d x = sb x 0 u := by
  intro d
  induction d with
  | zero => intro i _; exact Or.inl (fun _ _ _ => rfl)
  | succ d ih =>
    intro i hi
    by_cases h : b.2 i 0 = 115 ∧ al = b.2 i 1
    · have s3 := (W.s (show i < b.1 by omega) h.1).2
      rcases ih (i + 1) (by omega) with q | ⟨u, hu, q⟩
      · refine Or.inr ⟨b.2 i 3, s3, fun x hx hb => ?_⟩
        unfold stlL
        rw [hb, if_pos h]
        exact q _ (sb4 x hx 0 (by decide) _ s3) (by rw [(sb_all x hx _ s3).1]; exact hb)
      · refine Or.inr ⟨u, hu, fun x hx hb => ?_⟩
        unfold stlL
        rw [hb, if_pos h, q _ (sb4 x hx 0 (by decide) _ s3) (by rw [(sb_all x hx _ s3).1]; exact hb), (sb_all x hx _ s3).2 u hu]
    · rcases ih (i + 1) (by omega) with q | ⟨u, hu, q⟩
      · refine Or.inl (fun x hx hb => ?_)
        unfold stlL
        rw [hb, if_neg h]
        exact q x hx hb
      · refine Or.inr ⟨u, hu, fun x hx hb => ?_⟩
        unfold stlL
        rw [hb, if_neg h]
        exact q x hx hb
theorem stl_idem {b : Book} {x : Nat} (W : WB b) (hx : x < 4) : stl b 1 0 (stl b 1 0 x) = stl b 1 0 x := by
  have form : ∀ al, (∀ x, x < 4 → bt x 1 = al → stl b 1 0 x = x) ∨ ∃ u, u < 2 ∧ ∀ x, x < 4 → bt x 1 = al → stl b 1 0 x = sb x 0 u := by
    intro al
    unfold stl
    cases e : ru b 107 none none with
    | none => exact stlL_form W al b.1 0 (by omega)
    | some r =>
      obtain ⟨r1, r2, _⟩ := ru_some e
      have k3 := W.k r1 r2
      dsimp only
      rcases stlL_form W al b.1 0 (by omega) with q | ⟨u, hu, q⟩
      · refine Or.inr ⟨b.2 r 3, k3, fun x hx hb => ?_⟩
        exact q _ (sb4 x hx 0 (by decide) _ k3) (by rw [(sb_all x hx _ k3).1]; exact hb)
      · refine Or.inr ⟨u, hu, fun x hx hb => ?_⟩
        rw [q _ (sb4 x hx 0 (by decide) _ k3) (by rw [(sb_all x hx _ k3).1]; exact hb), (sb_all x hx _ k3).2 u hu]
  rcases form (bt x 1) with q | ⟨u, hu, q⟩
  · rw [q x hx rfl, q x hx rfl]
  · rw [q x hx rfl, q _ (sb4 x hx 0 (by decide) _ hu) ((sb_all x hx u hu).1), (sb_all x hx u hu).2 u hu]
/-- the fault's rules of state hold -/
def Sd (b : Book) (a v x : Nat) : Prop := stl b 1 0 (pj a v x) = pj a v x
theorem wAt_sd {b : Book} {s c d : Nat} (W : WB b) (hs : s < 4) (hc : c < 2) (hd : d < 2) (h : stl b 1 0 s = s) : stl b 1 0 (wAt b 1 0 s c d) = wAt b 1 0 s c d := by
  have key : ∀ y c', y < 4 → c' < 2 → stl b 1 0 (wrt b 1 0 y c' d) = wrt b 1 0 y c' d := by
    intro y c' hy hc'
    unfold wrt
    refine stl_idem W ?_
    have f4 : ∀ z, z < 4 → fol b 1 0 z c' (bt y c') d < 4 := by
      intro z hz
      unfold fol
      split
      · cases e : ru b 97 (some (bt y c')) (some d) with
        | none => exact hz
        | some r =>
          obtain ⟨r1, r2, _⟩ := ru_some e
          have := W.a r1 r2
          refine sb4 _ hz 0 (by decide) _ ?_
          split <;> omega
      · exact hz
    refine f4 _ (sb4 y hy c' hc' _ ?_)
    split
    · rename_i r e
      split at e
      · obtain ⟨r1, r2, _⟩ := ru_some e
        exact (W.v r1 r2).1
      · cases e
    · exact hd
  unfold wAt
  split
  · exact h
  · split
    · exact key s 0 hs (by decide)
    · split
      · exact key _ 0 (wrt4 W hs hc hd) (by decide)
      · exact key s c hs hc
theorem rAt_sd {b : Book} {s c : Nat} (W : WB b) (hs : s < 4) (hc : c < 2) (h : stl b 1 0 s = s) : stl b 1 0 (rAt b 1 0 s c).2 = (rAt b 1 0 s c).2 := by
  have key : ∀ y c', y < 4 → c' < 2 → stl b 1 0 (rdd b 1 0 y c').2 = (rdd b 1 0 y c').2 := by
    intro y c' hy hc'
    have f4 : ∀ z, z < 4 → fol b 1 0 z c' (bt y c') 2 < 4 := by
      intro z hz
      unfold fol
      split
      · cases e : ru b 97 (some (bt y c')) (some 2) with
        | none => exact hz
        | some r =>
          obtain ⟨r1, r2, _⟩ := ru_some e
          have := W.a r1 r2
          refine sb4 _ hz 0 (by decide) _ ?_
          split <;> omega
      · exact hz
    unfold rdd
    split
    · rename_i r e
      split at e
      · obtain ⟨r1, r2, _⟩ := ru_some e
        exact stl_idem W (f4 _ (sb4 y hy c' hc' _ (W.v r1 r2).1))
      · cases e
    · exact stl_idem W (f4 _ hy)
  unfold rAt
  split
  · exact h
  · split
    · exact key s 0 hs (by decide)
    · split
      · exact key _ 0 (rdd4 W hs hc).1 (by decide)
      · exact key s c hs hc
-- a sound cell
theorem pj_ne {a v x c d : Nat} (hv : v < 6) (ha : a < 8) (hx : x < 64) (c6 : c < 6) (hcv : c ≠ v) (hca : c ≠ a) (hd : d < 2) : pj a v (sb x c d) = pj a v x := by
  unfold pj
  rw [bt_sb_ne x hx c c6 d hd v (by omega) (Ne.symm hcv), bt_sb_ne x hx c c6 d hd a ha (Ne.symm hca)]
theorem sd_stl {b : Book} {a v x : Nat} (W : WB b) (hv : v < 6) (ha : a < 8) (hav : a ≠ v) (h6 : a ≠ 6) (hx : x < 64) (h : Sd b a v x) : stl b a v x = x := by
  have s6 : stl b a v x < 64 := stl_ltW W hv hx
  refine eq_of_bt _ s6 _ hx (fun c hc => ?_)
  by_cases hcv : c = v
  · subst hcv
    have e := pj_stl W hv ha hav h6 hx
    rw [h] at e
    have := congrArg (fun z => bt z 0) e
    rw [(pj_all c hv a ha hav h6 _ s6).1, (pj_all c hv a ha hav h6 x hx).1] at this
    exact this
  · exact stl_ne W hv hx hc hcv
theorem sound_w {b : Book} {a v x c d : Nat} (P : PL b a v) (h0 : 0 < b.1) (hx : x < 64) (c6 : c < 6) (hcv : c ≠ v) (hca : c ≠ a) (hd : d < 2) (h : Sd b a v x) : wAt b a v x c d = sb x c d := by
  obtain ⟨W, hv, hp⟩ : WB b ∧ v < 6 ∧ ((pr b = true ∧ a < 6 ∧ a ≠ v) ∨ (pr b = false ∧ a = 7)) := by
    rcases P with q | q
    · omega
    · exact q
  have s6 := sb_lt x hx c c6 d hd
  unfold wAt
  rw [if_neg (fun q => hcv q.2), if_neg (fun q => hca q.2), if_neg (fun q => hca q.2)]
  unfold wrt fol
  rw [if_neg hcv, if_neg hca]
  refine sd_stl W hv (by omega) (by omega) (by omega) s6 ?_
  unfold Sd
  rw [pj_ne hv (by omega) hx c6 hcv hca hd]
  exact h
theorem sound_r {b : Book} {a v x c : Nat} (P : PL b a v) (h0 : 0 < b.1) (hx : x < 64) (hcv : c ≠ v) (hca : c ≠ a) (h : Sd b a v x) : rAt b a v x c = (bt x c, x) := by
  obtain ⟨W, hv, hp⟩ : WB b ∧ v < 6 ∧ ((pr b = true ∧ a < 6 ∧ a ≠ v) ∨ (pr b = false ∧ a = 7)) := by
    rcases P with q | q
    · omega
    · exact q
  unfold rAt
  rw [if_neg (fun q => hcv q.2), if_neg (fun q => hca q.2), if_neg (fun q => hca q.2)]
  unfold rdd fol
  rw [if_neg hcv]
  dsimp only
  rw [if_neg hca, sd_stl W hv (by omega) (by omega) (by omega) hx h]
-- marches
abbrev Mch : Type := Nat × (Nat → Nat) × (Nat → Nat) × (Nat → Nat → Nat)
def mN (M : Mch) : Nat := M.1
def mW (M : Mch) (e : Nat) : Nat := M.2.1 e
def mC (M : Mch) (e : Nat) : Nat := M.2.2.1 e
def mO (M : Mch) (e k : Nat) : Nat := M.2.2.2 e k
/-- what a sound memory has behind k ops of an element -/
def sE (M : Mch) (e : Nat) : Nat → Option Nat → Option Nat
  | 0, o => o
  | k + 1, o => if mO M e k < 2 then sE M e k o else some (mO M e k - 2)
/-- what it has ahead of an element -/
def sM (M : Mch) : Nat → Option Nat
  | 0 => none
  | e + 1 => sE M e (mC M e) (sM M e)
/-- how many elements ahead of it are of either way -/
def aM (M : Mch) : Nat → Nat
  | 0 => 0
  | e + 1 => aM M e + if mW M e = 2 then 1 else 0
/-- reads among the first k ops -/
def rE (M : Mch) (e : Nat) : Nat → Nat
  | 0 => 0
  | k + 1 => rE M e k + if mO M e k < 2 then 1 else 0
def WM (M : Mch) : Prop := 0 < mN M ∧ mN M ≤ 8 ∧ aM M (mN M) ≤ 3 ∧ ∀ e, e < mN M → mW M e < 3 ∧ 0 < mC M e ∧ mC M e ≤ 6 ∧ ∀ k, k < mC M e → mO M e k < 4 ∧ (mO M e k < 2 → sE M e k (sM M e) = some (mO M e k))
def dwn (M : Mch) (ch e : Nat) : Bool := if mW M e = 2 then decide (bt ch (aM M e) = 1) else decide (mW M e = 1)
def itf {σ : Type} (g : Nat → σ → σ) : Nat → Nat → σ → σ
  | _, 0, s => s
  | i, d + 1, s => itf g (i + 1) d (g i s)
theorem itf_add {σ : Type} (g : Nat → σ → σ) : ∀ d i e s, itf g i (d + e) s = itf g (i + d) e (itf g i d s) := by
  intro d
  induction d with
  | zero => intro i e s; rw [Nat.zero_add, Nat.add_zero]; rfl
  | succ d ih =>
    intro i e s
    rw [show d + 1 + e = (d + e) + 1 from by omega]
    show itf g (i + 1) (d + e) (g i s) = _
    rw [ih (i + 1) e (g i s), show i + 1 + d = i + (d + 1) from by omega]
    rfl
theorem itf_last {σ : Type} (g : Nat → σ → σ) (d : Nat) (s : σ) : itf g 0 (d + 1) s = g d (itf g 0 d s) := by
  rw [itf_add g d 0 1 s, Nat.zero_add]
  rfl
/-- bits, number of the next read, reads that failed (number, address) -/
abbrev St : Type := Nat × Nat × List (Nat × Nat)
def stp (b : Book) (a v c ad op : Nat) (s : St) : St := if op < 2 then ((rAt b a v s.1 c).2, s.2.1 + 1, if (rAt b a v s.1 c).1 = op then s.2.2 else s.2.2 ++ [(s.2.1, ad)]) else (wAt b a v s.1 c (op - 2), s.2.1, s.2.2)
def visS (b : Book) (a v : Nat) (M : Mch) (e c ad : Nat) (s : St) : St := itf (fun k => stp b a v c ad (mO M e k)) 0 (mC M e) s
def adr (N : Nat) (dn : Bool) (i : Nat) : Nat := if dn = true then N - 1 - i else i
def elmS (b : Book) (a v N : Nat) (mp : Nat → Nat) (M : Mch) (e : Nat) (dn : Bool) (s : St) : St := itf (fun i s => visS b a v M e (mp (adr N dn i)) (adr N dn i) s) 0 N s
def runS (b : Book) (a v N : Nat) (mp : Nat → Nat) (M : Mch) (ch : Nat) (s : St) : St := itf (fun e s => elmS b a v N mp M e (dwn M ch e) s) 0 (mN M) s
/-- a visit of one of the fault's cells, in two memories -/
theorem vis_pj {b : Book} {a v a2 v2 : Nat} {M : Mch} {e c c2 ad : Nat} (W : WB b) (hM : ∀ k, k < mC M e → mO M e k < 4) (P : v < 6 ∧ a < 8 ∧ a ≠ v ∧ a ≠ 6) (P2 : v2 < 6 ∧ a2 < 8 ∧ a2 ≠ v2 ∧ a2 ≠ 6) (hc : c = v ∨ (c = a ∧ a < 6)) (hc2 : c2 = v2 ∨ (c2 = a2 ∧ a2 < 6)) (hi : ix2 v c = ix2 v2 c2) :
    ∀ d k x y n L, k + d ≤ mC M e → x < 64 → y < 64 → pj a v x = pj a2 v2 y → Sd b a v x → ∃ x' y' n' L', itf (fun k => stp b a v c ad (mO M e k)) k d (x, n, L) = (x', n', L') ∧ itf (fun k => stp b a2 v2 c2 ad (mO M e k)) k d (y, n, L) = (y', n', L') ∧ x' < 64 ∧ y' < 64 ∧ pj a v x' = pj a2 v2 y' ∧ Sd b a v x' ∧ n' + rE M e k = n + rE M e (k + d) ∧ (∀ f, f < 6 → f ≠ v → f ≠ c → bt x' f = bt x f) ∧ (∀ f, f < 6 → f ≠ v2 → f ≠ c2 → bt y' f = bt y f) := by
  obtain ⟨hv, ha, hav, h6⟩ := P
  obtain ⟨hv2, ha2, hav2, h62⟩ := P2
  have c6 : c < 6 := by omega
  have c62 : c2 < 6 := by omega
  intro d
  induction d with
  | zero =>
    intro k x y n L _ hx hy hxy hs
    exact ⟨x, y, n, L, rfl, rfl, hx, hy, hxy, hs, rfl, fun _ _ _ _ => rfl, fun _ _ _ _ => rfl⟩
  | succ d ih =>
    intro k x y n L hk hx hy hxy hs
    have h4 := hM k (by omega)
    have st1 : ∀ (x1 y1 n1 : Nat) (L1 : List (Nat × Nat)), stp b a v c ad (mO M e k) (x, n, L) = (x1, n1, L1) → stp b a2 v2 c2 ad (mO M e k) (y, n, L) = (y1, n1, L1) → x1 < 64 → y1 < 64 → pj a v x1 = pj a2 v2 y1 → Sd b a v x1 → n1 = n + (if mO M e k < 2 then 1 else 0) → (∀ f, f < 6 → f ≠ v → f ≠ c → bt x1 f = bt x f) → (∀ f, f < 6 → f ≠ v2 → f ≠ c2 → bt y1 f = bt y f) → ∃ x' y' n' L', itf (fun k => stp b a v c ad (mO M e k)) k (d + 1) (x, n, L) = (x', n', L') ∧ itf (fun k => stp b a2 v2 c2 ad (mO M e k)) k (d + 1) (y, n, L) = (y', n', L') ∧ x' < 64 ∧ y' < 64 ∧ pj a v x' = pj a2 v2 y' ∧ Sd b a v x' ∧ n' + rE M e k = n + rE M e (k + (d + 1)) ∧ (∀ f, f < 6 → f ≠ v → f ≠ c → bt x' f = bt x f) ∧ (∀ f, f < 6 → f ≠ v2 → f ≠ c2 → bt y' f = bt y f) := by
      intro x1 y1 n1 L1 e1 e2 b1 b2 b3 b4 b5 b6 b7
      obtain ⟨x', y', n', L', z1, z2, z3, z4, z5, z6, z7, z8, z9⟩ := ih (k + 1) x1 y1 n1 L1 (by omega) b1 b2 b3 b4
      refine ⟨x', y', n', L', ?_, ?_, z3, z4, z5, z6, ?_, fun f f1 f2 f3 => (z8 f f1 f2 f3).trans (b6 f f1 f2 f3), fun f f1 f2 f3 => (z9 f f1 f2 f3).trans (b7 f f1 f2 f3)⟩
      · show itf _ (k + 1) d (stp b a v c ad (mO M e k) (x, n, L)) = _
        rw [e1]; exact z1
      · show itf _ (k + 1) d (stp b a2 v2 c2 ad (mO M e k) (y, n, L)) = _
        rw [e2]; exact z2
      · rw [show k + (d + 1) = k + 1 + d from by omega]
        have : rE M e (k + 1) = rE M e k + if mO M e k < 2 then 1 else 0 := rfl
        omega
    have s4 := pj4 a v x
    have i2 := ix2_lt v c
    by_cases h2 : mO M e k < 2
    · obtain ⟨p1, p2, p3⟩ := pj_rAt W hv ha hav h6 hx hc
      obtain ⟨q1, q2, q3⟩ := pj_rAt W hv2 ha2 hav2 h62 hy hc2
      rw [← hi, ← hxy] at q1 q2
      refine st1 (rAt b a v x c).2 (rAt b a2 v2 y c2).2 (n + 1) (if (rAt b a v x c).1 = mO M e k then L else L ++ [(n, ad)]) ?_ ?_ p3 q3 (p2.trans q2.symm) ?_ (by rw [if_pos h2]) ?_ ?_
      · unfold stp; rw [if_pos h2]
      · unfold stp; rw [if_pos h2, p1, q1]
      · unfold Sd
        rw [p2]
        exact rAt_sd W s4 i2 hs
      · intro f f1 f2 f3
        exact rAt_ne W hv hx f1 f2 c6 f3
      · intro f f1 f2 f3
        exact rAt_ne W hv2 hy f1 f2 c62 f3
    · obtain ⟨p2, p3⟩ := pj_wAt W hv ha hav h6 hx hc (d := mO M e k - 2) (by omega)
      obtain ⟨q2, q3⟩ := pj_wAt W hv2 ha2 hav2 h62 hy hc2 (d := mO M e k - 2) (by omega)
      rw [← hi, ← hxy] at q2
      refine st1 (wAt b a v x c (mO M e k - 2)) (wAt b a2 v2 y c2 (mO M e k - 2)) n L ?_ ?_ p3 q3 (p2.trans q2.symm) ?_ (by rw [if_neg h2]; rfl) ?_ ?_
      · unfold stp; rw [if_neg h2]
      · unfold stp; rw [if_neg h2]
      · unfold Sd
        rw [p2]
        exact wAt_sd W s4 i2 (by omega) hs
      · intro f f1 f2 f3
        exact wAt_ne W hv hx f1 f2 c6 f3 (by omega)
      · intro f f1 f2 f3
        exact wAt_ne W hv2 hy f1 f2 c62 f3 (by omega)
/-- a visit of a sound cell -/
theorem vis_sound {b : Book} {a v : Nat} {M : Mch} {e c ad : Nat} (P : PL b a v) (h0 : 0 < b.1) (hM : ∀ k, k < mC M e → mO M e k < 4 ∧ (mO M e k < 2 → sE M e k (sM M e) = some (mO M e k))) (c6 : c < 6) (hcv : c ≠ v) (hca : c ≠ a) :
    ∀ d k x n L, k + d ≤ mC M e → x < 64 → Sd b a v x → (∀ z, sE M e k (sM M e) = some z → bt x c = z) → ∃ x' n', itf (fun k => stp b a v c ad (mO M e k)) k d (x, n, L) = (x', n', L) ∧ x' < 64 ∧ pj a v x' = pj a v x ∧ Sd b a v x' ∧ n' + rE M e k = n + rE M e (k + d) ∧ (∀ f, f < 6 → f ≠ c → bt x' f = bt x f) ∧ (∀ z, sE M e (k + d) (sM M e) = some z → bt x' c = z) := by
  obtain ⟨W, hv, hp⟩ : WB b ∧ v < 6 ∧ ((pr b = true ∧ a < 6 ∧ a ≠ v) ∨ (pr b = false ∧ a = 7)) := by
    rcases P with q | q
    · omega
    · exact q
  intro d
  induction d with
  | zero =>
    intro k x n L _ hx hs hz
    exact ⟨x, n, rfl, hx, rfl, hs, rfl, fun _ _ _ => rfl, hz⟩
  | succ d ih =>
    intro k x n L hk hx hs hz
    obtain ⟨h4, hr⟩ := hM k (by omega)
    by_cases h2 : mO M e k < 2
    · have hb := hz _ (hr h2)
      obtain ⟨x', n', z1, z2, z3, z4, z5, z6, z7⟩ := ih (k + 1) x (n + 1) L (by omega) hx hs (fun z ez => by
        have e1 : sE M e (k + 1) (sM M e) = sE M e k (sM M e) := by show (if mO M e k < 2 then _ else _) = _; rw [if_pos h2]
        rw [e1] at ez
        exact hz z ez)
      refine ⟨x', n', ?_, z2, z3, z4, ?_, z6, ?_⟩
      · show itf _ (k + 1) d (stp b a v c ad (mO M e k) (x, n, L)) = _
        have e2 : stp b a v c ad (mO M e k) (x, n, L) = (x, n + 1, L) := by
          unfold stp
          rw [if_pos h2]
          dsimp only
          rw [sound_r P h0 hx hcv hca hs]
          dsimp only
          rw [if_pos hb]
        rw [e2]; exact z1
      · rw [show k + (d + 1) = k + 1 + d from by omega]
        have : rE M e (k + 1) = rE M e k + if mO M e k < 2 then 1 else 0 := rfl
        rw [if_pos h2] at this
        omega
      · rw [show k + (d + 1) = k + 1 + d from by omega]; exact z7
    · have d2 : mO M e k - 2 < 2 := by omega
      have s6 := sb_lt x hx c c6 _ d2
      have pe := pj_ne (a := a) hv (by omega) hx c6 hcv hca d2
      obtain ⟨x', n', z1, z2, z3, z4, z5, z6, z7⟩ := ih (k + 1) (sb x c (mO M e k - 2)) n L (by omega) s6 (by unfold Sd; rw [pe]; exact hs) (fun z ez => by
        have e1 : sE M e (k + 1) (sM M e) = some (mO M e k - 2) := by show (if mO M e k < 2 then _ else _) = _; rw [if_neg h2]
        rw [e1] at ez
        cases ez
        exact bt_sb x hx c c6 _ d2)
      refine ⟨x', n', ?_, z2, z3.trans pe, z4, ?_, ?_, ?_⟩
      · show itf _ (k + 1) d (stp b a v c ad (mO M e k) (x, n, L)) = _
        have e2 : stp b a v c ad (mO M e k) (x, n, L) = (sb x c (mO M e k - 2), n, L) := by
          unfold stp
          rw [if_neg h2]
          dsimp only
          rw [sound_w P h0 hx c6 hcv hca d2 hs]
        rw [e2]; exact z1
      · rw [show k + (d + 1) = k + 1 + d from by omega]
        have : rE M e (k + 1) = rE M e k + if mO M e k < 2 then 1 else 0 := rfl
        rw [if_neg h2] at this
        omega
      · intro f f1 f2
        rw [z6 f f1 f2]
        exact bt_sb_ne x hx c c6 _ d2 f (by omega) f2
      · rw [show k + (d + 1) = k + 1 + d from by omega]; exact z7
