/-! The class goes through a march as the pure run does. -/
def P3 (q : Nat) : Nat → Nat → Prop := fun b k => b = q ∧ (k = 1 ∨ k = 8 ∨ k = 9 ∨ k = 11)
def mn60 (n : Nat) : Nat := if n < 60 then n else 60
/-- class: the memory q is in a run, which stands at s -/
def CS (w0 w : HS) (q B : Nat) (s : St) : Prop := Fr (P3 q) w0 w ∧ hi w q 1 = nI s.1 ∧ s.1 < 64 ∧ hi w q 8 = nI s.2.2.length ∧ hi w q 9 = nI (mn60 s.2.2.length) ∧ s.2.2.length ≤ s.2.1 ∧ s.2.1 ≤ B ∧ ∀ k, k < s.2.2.length → k < 60 → ha w q 11 k = nI (8 * (gt s.2.2 k).1 + (gt s.2.2 k).2)
theorem CS.mono {w0 w : HS} {q B B' : Nat} {s : St} (h : CS w0 w q B s) (hb : B ≤ B') : CS w0 w q B' s := ⟨h.1, h.2.1, h.2.2.1, h.2.2.2.1, h.2.2.2.2.1, h.2.2.2.2.2.1, Nat.le_trans h.2.2.2.2.2.2.1 hb, h.2.2.2.2.2.2.2⟩
/-- the fault's rules of state hold, if there is one -/
def Sd0 (b : Book) (a v x : Nat) : Prop := 0 < b.1 → Sd b a v x
theorem opx_lt {b : Book} {a v x c act : Nat} (P : PL b a v) (x6 : x < 64) (c6 : c < 6) (ha : act < 3) : opx b a v x c act < 64 := by
  rcases P with ⟨h0, h1, h2⟩ | ⟨W, hv, _⟩
  · unfold opx
    rw [none_w h0 (by omega) (by omega), none_r h0 (by omega) (by omega)]
    split
    · exact x6
    · exact sb_lt x x6 c c6 _ (by omega)
  · unfold opx wAt rAt
    split
    · split
      · exact x6
      · split
        · exact rdd_lt W hv x6 hv
        · split
          · exact rdd_lt W hv (rdd_lt W hv x6 c6) hv
          · exact rdd_lt W hv x6 c6
    · split
      · exact x6
      · split
        · exact wrt_lt W hv x6 hv (by omega)
        · split
          · exact wrt_lt W hv (wrt_lt W hv x6 c6 (by omega)) hv (by omega)
          · exact wrt_lt W hv x6 c6 (by omega)
theorem opx_sd {b : Book} {a v x c act : Nat} (P : PL b a v) (x6 : x < 64) (c6 : c < 6) (ha : act < 3) (sd : Sd0 b a v x) : Sd0 b a v (opx b a v x c act) := by
  intro h0
  obtain ⟨W, hv, hp⟩ : WB b ∧ v < 6 ∧ ((pr b = true ∧ a < 6 ∧ a ≠ v) ∨ (pr b = false ∧ a = 7)) := by
    rcases P with z | z
    · omega
    · exact z
  have s := sd h0
  by_cases hc : c = v ∨ (c = a ∧ a < 6)
  · unfold opx Sd
    split
    · obtain ⟨_, p2, _⟩ := pj_rAt W hv (by omega) (by omega) (by omega) x6 hc
      rw [p2]
      exact rAt_sd W (pj4 a v x) (ix2_lt v c) s
    · obtain ⟨p2, _⟩ := pj_wAt W hv (by omega) (by omega) (by omega) x6 hc (d := act - 1) (by omega)
      rw [p2]
      exact wAt_sd W (pj4 a v x) (ix2_lt v c) (by omega) s
  · unfold opx
    rw [sound_r P h0 x6 (by omega) (by omega) s]
    by_cases h : act = 0
    · rw [if_pos h]; exact s
    · rw [if_neg h, sound_w P h0 x6 c6 (by omega) (by omega) (by omega) s]
      unfold Sd
      rw [pj_ne hv (by omega) x6 c6 (by omega) (by omega) (by omega)]
      exact s
theorem stp_op {b : Book} {a v c ad op : Nat} {s : St} (h4 : op < 4) : stp b a v c ad op s = (opx b a v s.1 c (if op < 2 then 0 else op - 1), s.2.1 + (if op < 2 then 1 else 0), if op < 2 then (if opt b a v s.1 c 0 = op then s.2.2 else s.2.2 ++ [(s.2.1, ad)]) else s.2.2) := by
  unfold stp opx opt
  by_cases h : op < 2
  · simp only [if_pos h, if_pos]
  · rw [if_neg h, if_neg h, if_neg h, if_neg h, if_neg (by omega), show op - 1 - 1 = op - 2 from by omega]
    rfl
section CG
variable {w0 : HS} {q p a v N e : Nat} {b : Book} {M : Mch} {mp : Nat → Nat}
/-- what stays in a class's run: the fault, the map, the march -/
def CG (w : HS) (q p : Nat) (b : Book) (a v N : Nat) (mp : Nat → Nat) (M : Mch) : Prop := CF w q b a v ∧ CM w p M ∧ WM M ∧ hi w q 0 = nI N ∧ N ≤ 6 ∧ ∀ i, i < N → ha w q 10 i = nI (mp i) ∧ mp i < 6
theorem CG.at {w : HS} (G : CG w0 q p b a v N mp M) (f : Fr (P3 q) w0 w) : CG w q p b a v N mp M := by
  obtain ⟨g1, g2, g3, g4, g5, g6⟩ := G
  have h1 := g1.1
  refine ⟨g1.fr f (by unfold P3; omega) (by unfold P3; omega) (by unfold P3; omega) (fun r hr k z => ?_), g2.fr f (fun k z => ?_), g3, ?_, g5, ?_⟩
  · unfold P3 at z
    rw [z.1, h1] at hr
    cases hr
  · unfold P3 at z
    have := g2.1
    rw [z.1, h1] at this
    cases this
  · rw [f.i (by unfold P3; omega)]; exact g4
  · rw [f.ar (by unfold P3; omega)]; exact g6
theorem cls_step (G : CG w0 q p b a v N mp M) {w : HS} {B i : Nat} {s : St} (S : CS w0 w q B s) (sd : Sd0 b a v s.1) (hB : B < 1000) (hiN : i < N) {op : Nat} (h4 : op < 4) {k7 : HS → Nat → Nat → Int32 → Int32 → Int32 → Int32 → Option (Unit × HS)} {k : Nat} {Q : Unit → HS → Prop}
    (K : ∀ w', CS w0 w' q (B + 1) (stp b a v (mp i) i op s) → Sd0 b a v (stp b a v (mp i) i op s).1 → Rn (k7 w' q p (nI e) (nI i) (nI (stp b a v (mp i) i op s).2.1) (nI (k + 1))) Q) : Rn (FX3_visit_40 k7 w q p (nI e) (nI i) (nI s.2.1) (nI k) (nI op) (nI (if op < 2 then 0 else op - 1))) Q := by
  obtain ⟨f, hx, x6, h8, h9, hl, hb, hg⟩ := S
  have Gw := G.at f
  obtain ⟨m1, m2⟩ := Gw.2.2.2.2.2 i hiN
  have N6 := G.2.2.2.2.1
  have P := G.1.2.2.2.1
  rw [stp_op h4] at K
  have ha3 : (if op < 2 then 0 else op - 1) < 3 := by split <;> omega
  obtain ⟨act, hact⟩ : ∃ act, act = if op < 2 then 0 else op - 1 := ⟨_, rfl⟩
  rw [← hact] at K ha3 ⊢
  have ho := lm_op Gw.1 hx x6 sd m1 (by omega) m2 ha3
  have x6' := opx_lt P x6 m2 ha3
  have sd' := opx_sd P x6 m2 ha3 sd
  unfold FX3_visit_40
  refine Rn.eq ho ?_
  dsimp only
  obtain ⟨x', hx'⟩ : ∃ x', x' = opx b a v s.1 (mp i) act := ⟨_, rfl⟩
  rw [← hx'] at K x6' sd' ⊢
  have F1 : Fr (P3 q) w (cb w q x') := Fr.sI ⟨rfl, Or.inl rfl⟩
  have g1 : hi (cb w q x') q 1 = nI x' := cb_1 _ _ _
  have g8 : hi (cb w q x') q 8 = nI s.2.2.length := by rw [cb_k _ _ _ (by decide)]; exact h8
  have g9 : hi (cb w q x') q 9 = nI (mn60 s.2.2.length) := by rw [cb_k _ _ _ (by decide)]; exact h9
  have g11 : ha (cb w q x') q 11 = ha w q 11 := rfl
  have gc : hc (cb w q x') q = 3 := Gw.1.1
  generalize cb w q x' = u at F1 g1 g8 g9 g11 gc
  by_cases h2 : op < 2
  · have ea : act = 0 := by rw [hact, if_pos h2]
    subst ea
    have ol : opt b a v s.1 (mp i) 0 < 2 ∨ True := Or.inr trivial
    refine Rn.t rfl ?_
    rw [if_pos h2, if_pos h2] at K
    have t2 : opt b a v s.1 (mp i) 0 < 2 := by
      unfold opt
      rw [if_pos rfl]
      rcases P with ⟨h0, z1, z2⟩ | ⟨W, hv, hp⟩
      · rw [none_r h0 (by omega) (by omega)]; exact bt_lt _ _
      · by_cases hc : mp i = v ∨ (mp i = a ∧ a < 6)
        · rw [(pj_rAt W hv (by omega) (by omega) (by omega) x6 hc).1]
          exact (rAt4 W (pj4 a v s.1) (ix2_lt v _)).2
        · rw [sound_r (Or.inr ⟨W, hv, hp⟩) W.2.1 x6 (by omega) (by omega) (sd W.2.1)]
          exact bt_lt _ _
    have n1 : nI s.2.1 + 1 = nI (s.2.1 + 1) := nI_1 _
    by_cases he : opt b a v s.1 (mp i) 0 = op
    · refine Rn.t (by rw [he]) ?_
      unfold FX3_visit_70 FX3_visit_73
      rw [n1, nI_1 k]
      rw [if_pos he] at K
      refine K u ⟨f.trans F1, g1, x6', g8, g9, ?_, ?_, ?_⟩ sd'
      · show s.2.2.length ≤ s.2.1 + 1; omega
      · show s.2.1 + 1 ≤ B + 1; omega
      · rw [g11]; exact hg
    · refine Rn.f (fun z => he ((nI_eq (by omega) (by omega)).mp z)) ?_
      rw [if_neg he] at K
      have el : (s.2.2 ++ [(s.2.1, i)]).length = s.2.2.length + 1 := by rw [List.length_append]; rfl
      have note : Rn (FX3_note u q (nI s.2.1) (nI i)) (fun _ w' => CS w0 w' q (B + 1) (x', s.2.1 + 1, s.2.2 ++ [(s.2.1, i)])) := by
        unfold FX3_note
        refine Rn.okc gc ?_
        rw [g9, g8]
        by_cases h60 : 60 ≤ s.2.2.length
        · have e60 : mn60 s.2.2.length = 60 := by unfold mn60; rw [if_neg (by omega)]
          have e61 : mn60 (s.2.2.length + 1) = 60 := by unfold mn60; rw [if_neg (by omega)]
          rw [e60]
          refine Rn.t (nI_le (a := 60) (b := 60) (by decide) (by decide)) (Rn.bd (Rn.ret ?_))
          refine ⟨(f.trans F1).trans (Fr.sI ⟨rfl, by omega⟩), ?_, x6', ?_, ?_, ?_, ?_, ?_⟩
          · rw [hi_setI, if_neg (by omega)]; exact g1
          · rw [hi_setI, if_pos ⟨rfl, rfl⟩, nI_1]
            show nI _ = nI (s.2.2 ++ [(s.2.1, i)]).length
            rw [el]
          · rw [hi_setI, if_neg (by omega), g9]
            show nI _ = nI (mn60 (s.2.2 ++ [(s.2.1, i)]).length)
            rw [el, e60, e61]
          · show (s.2.2 ++ [(s.2.1, i)]).length ≤ s.2.1 + 1; rw [el]; omega
          · show s.2.1 + 1 ≤ B + 1; omega
          · intro k k1 k2
            have k1' : k < (s.2.2 ++ [(s.2.1, i)]).length := k1
            rw [el] at k1'
            show ha u q 11 k = nI (8 * (gt (s.2.2 ++ [(s.2.1, i)]) k).1 + (gt (s.2.2 ++ [(s.2.1, i)]) k).2)
            rw [gt_old (by omega), g11]
            exact hg k (by omega) k2
        · have e60 : mn60 s.2.2.length = s.2.2.length := by unfold mn60; rw [if_pos (by omega)]
          have e61 : mn60 (s.2.2.length + 1) = s.2.2.length + 1 := by unfold mn60; split <;> omega
          rw [e60]
          refine Rn.f (nI_ge (b := 60) (by omega) (by decide)) (Rn.oki rfl (by omega) (by decide) (Rn.bd (Rn.bd (Rn.bd (Rn.ret ?_)))))
          rw [nI_clamp (by omega)]
          have n8 : (8 : Int32) * nI s.2.1 + nI i = nI (8 * s.2.1 + i) := by rw [l8_, nI_mul, nI_add]
          rw [n8]
          refine ⟨(((f.trans F1).trans (Fr.sA ⟨rfl, by omega⟩)).trans (Fr.sI ⟨rfl, by omega⟩)).trans (Fr.sI ⟨rfl, by omega⟩), ?_, x6', ?_, ?_, ?_, ?_, ?_⟩
          · rw [hi_setI, if_neg (by omega), hi_setI, if_neg (by omega), hi_setA]; exact g1
          · rw [hi_setI, if_pos ⟨rfl, rfl⟩, hi_setI, if_neg (by omega), hi_setA, g8, nI_1]
            show nI _ = nI (s.2.2 ++ [(s.2.1, i)]).length
            rw [el]
          · rw [hi_setI, if_neg (by omega), hi_setI, if_pos ⟨rfl, rfl⟩, hi_setA, g9, e60, nI_1]
            show nI _ = nI (mn60 (s.2.2 ++ [(s.2.1, i)]).length)
            rw [el, e61]
          · show (s.2.2 ++ [(s.2.1, i)]).length ≤ s.2.1 + 1; rw [el]; omega
          · show s.2.1 + 1 ≤ B + 1; omega
          · intro k k1 k2
            have k1' : k < (s.2.2 ++ [(s.2.1, i)]).length := k1
            rw [el] at k1'
            show ha (setI (setI (setA u q 11 _ _) q 9 _) q 8 _) q 11 k = nI (8 * (gt (s.2.2 ++ [(s.2.1, i)]) k).1 + (gt (s.2.2 ++ [(s.2.1, i)]) k).2)
            rw [ha_setI, ha_setI, ha_setA, if_pos ⟨rfl, rfl⟩]
            by_cases hk : k = s.2.2.length
            · subst hk
              rw [gt_new, upd_s]
            · rw [upd_n hk, gt_old (by omega), g11]
              exact hg k (by omega) k2
      refine note.call (fun _ w' S' => ?_)
      unfold FX3_visit_70 FX3_visit_73
      dsimp only
      rw [n1, nI_1 k]
      exact K w' S' sd'
  · have ea : act = op - 1 := by rw [hact, if_neg h2]
    refine Rn.f (nI_ne0 (by omega) (by omega)) ?_
    unfold FX3_visit_73
    rw [nI_1 k]
    rw [if_neg h2, if_neg h2] at K
    refine K u ⟨f.trans F1, g1, x6', g8, g9, hl, ?_, ?_⟩ sd'
    · show s.2.1 ≤ B + 1; omega
    · rw [g11]; exact hg
theorem cls_vis (G : CG w0 q p b a v N mp M) (he : e < mN M) {i : Nat} (hiN : i < N) : ∀ d k n B s w, k + d = mC M e → d < n → B + d ≤ 1000 → CS w0 w q B s → Sd0 b a v s.1 → Rn (FX3_visit_7 n w q p (nI e) (nI i) (nI s.2.1) (nI k)) (fun _ w' => CS w0 w' q (B + d) (itf (fun k => stp b a v (mp i) i (mO M e k)) k d s) ∧ Sd0 b a v (itf (fun k => stp b a v (mp i) i (mO M e k)) k d s).1) := by
  have hM := G.2.2.1
  obtain ⟨_, _, C6, hop⟩ := hM.2.2.2 e he
  intro d
  induction d with
  | zero =>
    intro k n B s w hk hn hB S sd
    obtain ⟨n, rfl⟩ : ∃ z, n = z + 1 := ⟨n - 1, by omega⟩
    have Gw := G.at S.1
    rw [FX3_visit_7]
    refine Rn.eq (cm_ops Gw.2.1 hM he) (Rn.t (nI_le (by omega) (by omega)) (Rn.ret ⟨S, sd⟩))
  | succ d ih =>
    intro k n B s w hk hn hB S sd
    obtain ⟨n, rfl⟩ : ∃ z, n = z + 1 := ⟨n - 1, by omega⟩
    have Gw := G.at S.1
    have h4 := (hop k (by omega)).1
    have fin := cls_step (e := e) (k := k) (k7 := FX3_visit_7 n) (Q := fun _ w' => CS w0 w' q (B + (d + 1)) (itf (fun k => stp b a v (mp i) i (mO M e k)) k (d + 1) s) ∧ Sd0 b a v (itf (fun k => stp b a v (mp i) i (mO M e k)) k (d + 1) s).1) G S sd (by omega) hiN h4 (fun w' S' sd' => by
      have := ih (k + 1) n (B + 1) _ w' (by omega) (by omega) (by omega) S' sd'
      rw [show B + 1 + d = B + (d + 1) from by omega] at this
      exact this)
    rw [FX3_visit_7]
    refine Rn.eq (cm_ops Gw.2.1 hM he) (Rn.f (nI_ge (by omega) (by omega)) (Rn.eq (cm_op Gw.2.1 hM he (by omega)) ?_))
    dsimp only
    by_cases h2 : mO M e k < 2
    · rw [if_pos h2] at fin
      exact Rn.f (nI_ge (b := 2) h2 (by decide)) fin
    · rw [if_neg h2] at fin
      refine Rn.t (nI_le (a := 2) (by omega) (by omega)) ?_
      rw [l1_, nI_subc (by omega)]
      exact fin
theorem vis_num {b : Book} {a v c ad : Nat} {M : Mch} {e : Nat} : ∀ d k s, (itf (fun k => stp b a v c ad (mO M e k)) k d s).2.1 + rE M e k = s.2.1 + rE M e (k + d) := by
  intro d
  induction d with
  | zero => intro k s; rfl
  | succ d ih =>
    intro k s
    have := ih (k + 1) (stp b a v c ad (mO M e k) s)
    have e1 : (stp b a v c ad (mO M e k) s).2.1 = s.2.1 + (if mO M e k < 2 then 1 else 0) := by
      unfold stp
      by_cases h : mO M e k < 2
      · rw [if_pos h, if_pos h]
      · rw [if_neg h, if_neg h]; rfl
    have e2 : rE M e (k + 1) = rE M e k + if mO M e k < 2 then 1 else 0 := rfl
    show (itf _ (k + 1) d (stp b a v c ad (mO M e k) s)).2.1 + _ = _
    rw [show k + (d + 1) = k + 1 + d from by omega]
    omega
theorem visS_num {b : Book} {a v c ad : Nat} {M : Mch} {e : Nat} {s : St} : (visS b a v M e c ad s).2.1 = s.2.1 + rdE M e := by
  have := vis_num (b := b) (a := a) (v := v) (c := c) (ad := ad) (M := M) (e := e) (mC M e) 0 s
  rw [Nat.zero_add] at this
  unfold visS rdE
  have : rE M e 0 = 0 := rfl
  omega
theorem cls_elm (G : CG w0 q p b a v N mp M) (he : e < mN M) {dn : Bool} {vd vch : Int32} (hd : vd = 0 ↔ dn = false) {k26 : HS → Nat → Nat → Int32 → Int32 → Int32 → Option (Unit × HS)} {Q : Unit → HS → Prop} : ∀ d i n B s w, i + d = N → d < n → B + 6 * d ≤ 1000 → CS w0 w q B s → Sd0 b a v s.1 → (∀ w', CS w0 w' q (B + 6 * d) (itf (fun i s => visS b a v M e (mp (adr N dn i)) (adr N dn i) s) i d s) → Sd0 b a v (itf (fun i s => visS b a v M e (mp (adr N dn i)) (adr N dn i) s) i d s).1 → Rn (k26 w' q p vch (nI (itf (fun i s => visS b a v M e (mp (adr N dn i)) (adr N dn i) s) i d s).2.1) (nI (e + 1))) Q) → Rn (FX3_goThrough_47 k26 n w q p vch (nI s.2.1) (nI e) vd (nI i)) Q := by
  have hM := G.2.2.1
  have C6 := (hM.2.2.2 e he).2.2.1
  have N6 := G.2.2.2.2.1
  intro d
  induction d with
  | zero =>
    intro i n B s w hi0 hn hB S sd K
    obtain ⟨n, rfl⟩ : ∃ z, n = z + 1 := ⟨n - 1, by omega⟩
    rw [FX3_goThrough_47, (G.at S.1).2.2.2.1, nI_1 e]
    exact Rn.t (nI_le (by omega) (by omega)) (K w S sd)
  | succ d ih =>
    intro i n B s w hi0 hn hB S sd K
    obtain ⟨n, rfl⟩ : ∃ z, n = z + 1 := ⟨n - 1, by omega⟩
    have Gw := G.at S.1
    have al : adr N dn i < N := adr_lt (by omega)
    have fin : Rn (FX3_goThrough_79 k26 (FX3_goThrough_47 k26 n) w q p vch (nI s.2.1) (nI e) vd (nI i) (nI (adr N dn i)) (nI e) p q) Q := by
      unfold FX3_goThrough_79 FX3_visit
      refine Rn.call (P := fun _ w' => CS w0 w' q (B + mC M e) (visS b a v M e (mp (adr N dn i)) (adr N dn i) s) ∧ Sd0 b a v (visS b a v M e (mp (adr N dn i)) (adr N dn i) s).1) (Rn.okc Gw.1.1 (cls_vis G he al (mC M e) 0 FUEL B s w (by omega) (fuel_lt (by omega)) (by omega) S sd)) ?_
      intro _ w' ⟨S', sd'⟩
      refine Rn.eq (cm_reads (G.at S'.1).2.1 hM he) ?_
      dsimp only
      rw [nI_add, ← visS_num (b := b) (a := a) (v := v) (c := mp (adr N dn i)) (ad := adr N dn i), nI_1 i]
      refine ih (i + 1) n (B + 6) _ w' (by omega) (by omega) (by omega) (S'.mono (by omega)) sd' ?_
      intro w2 S2 sd2
      exact K w2 (S2.mono (by omega)) sd2
    rw [FX3_goThrough_47, Gw.2.2.2.1]
    refine Rn.f (nI_ge (by omega) (by omega)) ?_
    by_cases hd0 : vd = 0
    · refine Rn.t hd0 ?_
      have e1 : adr N dn i = i := by unfold adr; rw [if_neg (by rw [hd.mp hd0]; decide)]
      rw [e1] at fin
      exact fin
    · refine Rn.f hd0 ?_
      have e1 : adr N dn i = N - 1 - i := by unfold adr; rw [if_pos (by cases hb : dn with | true => rfl | false => exact absurd (hd.mpr hb) hd0)]
      rw [e1] at fin
      rw [l1_, nI_subc (by omega), nI_subc (by omega)]
      exact fin
theorem cls_run (G : CG w0 q p b a v N mp M) {ch : Nat} (hch : ch < 8) : ∀ d e n B s w, e + d = mN M → d < n → B + 36 * d ≤ 1000 → CS w0 w q B s → Sd0 b a v s.1 → Rn (FX3_goThrough_26 n w q p (nI ch) (nI s.2.1) (nI e)) (fun _ w' => CS w0 w' q (B + 36 * d) (itf (fun e s => elmS b a v N mp M e (dwn M ch e) s) e d s) ∧ Sd0 b a v (itf (fun e s => elmS b a v N mp M e (dwn M ch e) s) e d s).1) := by
  have hM := G.2.2.1
  have M8 := hM.2.1
  have N6 := G.2.2.2.2.1
  intro d
  induction d with
  | zero =>
    intro e n B s w he hn hB S sd
    obtain ⟨n, rfl⟩ : ∃ z, n = z + 1 := ⟨n - 1, by omega⟩
    have Gw := G.at S.1
    rw [FX3_goThrough_26, Gw.2.1.2.1]
    exact Rn.okc Gw.2.1.1 (Rn.t (nI_le (by omega) (by omega)) (Rn.ret ⟨S, sd⟩))
  | succ d ih =>
    intro e n B s w he hn hB S sd
    obtain ⟨n, rfl⟩ : ∃ z, n = z + 1 := ⟨n - 1, by omega⟩
    have Gw := G.at S.1
    rw [FX3_goThrough_26, Gw.2.1.2.1]
    refine Rn.okc Gw.2.1.1 (Rn.f (nI_ge (by omega) (by omega)) (Rn.eq (cm_down Gw.2.1 hM (by omega) hch) ?_))
    dsimp only
    refine cls_elm (dn := dwn M ch e) G (by omega) ?_ N 0 FUEL B s w (by omega) (fuel_lt (by omega)) (by omega) S sd ?_
    · cases dwn M ch e
      · exact ⟨fun _ => rfl, fun _ => rfl⟩
      · exact ⟨fun z => absurd z (by decide), fun z => by cases z⟩
    · intro w' S' sd'
      have := ih (e + 1) n (B + 36) (elmS b a v N mp M e (dwn M ch e) s) w' (by omega) (by omega) (by omega) (S'.mono (by omega)) sd'
      refine this.mono (fun _ w2 h2 => ⟨h2.1.mono (by omega), h2.2⟩)
end CG
