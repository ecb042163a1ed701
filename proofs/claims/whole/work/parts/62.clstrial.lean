/-! The class's trial. -/
def P7 (t : Nat) : Nat → Nat → Prop := fun b k => b = t ∧ (k = 2 ∨ k = 4 ∨ k = 5)
/-- class: the trial t stands at this state, with these reads failed -/
def CT (w0 w : HS) (t B x : Nat) (L : List (Nat × Nat)) : Prop := Fr (P7 t) w0 w ∧ hi w t 4 = nI x ∧ x < 4 ∧ hi w t 2 = nI L.length ∧ L.length ≤ B ∧ ∀ k, k < L.length → k < 60 → ha w t 5 k = nI (gt L k).1
theorem CT.mono {w0 w : HS} {t B B' x : Nat} {L : List (Nat × Nat)} (h : CT w0 w t B x L) (hb : B ≤ B') : CT w0 w t B' x L := ⟨h.1, h.2.1, h.2.2.1, h.2.2.2.1, Nat.le_trans h.2.2.2.2.1 hb, h.2.2.2.2.2⟩
/-- what stays in a trial -/
def TG (w : HS) (t kp mp : Nat) (b : Book) (N aAt vAt : Nat) (M : Mch) : Prop := hc w t = 7 ∧ CK w kp b ∧ WB b ∧ CM w mp M ∧ WM M ∧ hi w t 0 = nI aAt ∧ hi w t 1 = nI vAt ∧ hi w t 3 = nI N ∧ N ≤ 6 ∧ aAt < N ∧ vAt < N
section TGS
variable {w0 : HS} {t kp mp N aAt vAt e : Nat} {b : Book} {M : Mch}
theorem TG.at {w : HS} (G : TG w0 t kp mp b N aAt vAt M) (f : Fr (P7 t) w0 w) : TG w t kp mp b N aAt vAt M := by
  obtain ⟨g1, g2, g3, g4, g5, g6, g7, g8, g9⟩ := G
  refine ⟨by rw [f.c]; exact g1, g2.fr f (fun k z => g2.cl g1 (by decide) z.1), g3, g4.fr f (fun k z => ?_), g5, by rw [f.i (by unfold P7; omega)]; exact g6, by rw [f.i (by unfold P7; omega)]; exact g7, by rw [f.i (by unfold P7; omega)]; exact g8, g9⟩
  have := g4.1
  unfold P7 at z
  rw [z.1, g1] at this
  cases this
theorem stp_ot {c ad op x n : Nat} {L : List (Nat × Nat)} (W : WB b) (x4 : x < 4) (c2 : c < 2) (h4 : op < 4) : stp b 1 0 c ad op (x, n, L) = (otB b c (if op < 2 then 0 else op - 1) x % 4, n + (if op < 2 then 1 else 0), if op < 2 then (if otB b c 0 x / 4 = op then L else L ++ [(n, ad)]) else L) := by
  unfold stp
  by_cases h : op < 2
  · obtain ⟨r1, r2⟩ := rAt4 W x4 c2
    rw [if_pos h, if_pos h, if_pos h, if_pos h, otB_r]
    dsimp only
    rw [show ((rAt b 1 0 x c).2 + 4 * (rAt b 1 0 x c).1) % 4 = (rAt b 1 0 x c).2 from by omega, show ((rAt b 1 0 x c).2 + 4 * (rAt b 1 0 x c).1) / 4 = (rAt b 1 0 x c).1 from by omega]
  · have r1 := wAt4 (d := op - 2) W x4 c2 (by omega)
    rw [if_neg h, if_neg h, if_neg h, if_neg h, otB_w (by omega), show op - 1 - 1 = op - 2 from by omega]
    dsimp only
    rw [Nat.mod_eq_of_lt r1]
    rfl
theorem tr_step (G : TG w0 t kp mp b N aAt vAt M) {w : HS} {B x n c ad op k : Nat} {L : List (Nat × Nat)} (S : CT w0 w t B x L) (hB : B < 1000) (c2 : c < 2) (h4 : op < 4) {k7 : HS → Nat → Nat → Nat → Int32 → Int32 → Int32 → Int32 → Option (Unit × HS)} {Q : Unit → HS → Prop}
    (K : ∀ w', CT w0 w' t (B + 1) (stp b 1 0 c ad op (x, n, L)).1 (stp b 1 0 c ad op (x, n, L)).2.2 → Rn (k7 w' t kp mp (nI e) (nI c) (nI (stp b 1 0 c ad op (x, n, L)).2.1) (nI (k + 1))) Q) : Rn (FX7_visit_40 k7 w t kp mp (nI e) (nI c) (nI n) (nI k) (nI op) (nI (if op < 2 then 0 else op - 1))) Q := by
  obtain ⟨f, hx, x4, h2, hl, hg⟩ := S
  have Gw := G.at f
  have W := G.2.2.1
  rw [stp_ot W x4 c2 h4] at K
  dsimp only at K
  have ha3 : (if op < 2 then 0 else op - 1) < 3 := by split <;> omega
  obtain ⟨act, hact⟩ : ∃ act, act = if op < 2 then 0 else op - 1 := ⟨_, rfl⟩
  rw [← hact] at K ha3 ⊢
  have o8 := otB8 (act := act) W x4 c2 ha3
  unfold FX7_visit_40
  rw [hx]
  refine Rn.eq (ck_out Gw.2.1 x4 c2 ha3) (Rn.bd ?_)
  dsimp only
  rw [fx3 _ o8, sh2 _ o8]
  obtain ⟨u, hu⟩ : ∃ u, u = setI w t 4 (nI (otB b c act x % 4)) := ⟨_, rfl⟩
  have F1 : Fr (P7 t) w u := by rw [hu]; exact Fr.sI ⟨rfl, by omega⟩
  have g4 : hi u t 4 = nI (otB b c act x % 4) := by rw [hu, hi_setI, if_pos ⟨rfl, rfl⟩]
  have g2 : hi u t 2 = nI L.length := by rw [hu, hi_setI, if_neg (by omega)]; exact h2
  have g5 : ha u t 5 = ha w t 5 := by rw [hu]; rfl
  have gc : hc u t = 7 := by rw [hu]; exact Gw.1
  rw [← hu]
  have x4' : otB b c act x % 4 < 4 := Nat.mod_lt _ (by decide)
  by_cases hop : op < 2
  · have ea : act = 0 := by rw [hact, if_pos hop]
    subst ea
    refine Rn.t rfl ?_
    rw [if_pos hop, if_pos hop] at K
    have n1 : nI n + 1 = nI (n + 1) := nI_1 _
    by_cases he : otB b c 0 x / 4 = op
    · refine Rn.t (by rw [he]) ?_
      unfold FX7_visit_84 FX7_visit_87
      rw [n1, nI_1 k]
      rw [if_pos he] at K
      exact K u ⟨f.trans F1, g4, x4', g2, by omega, by rw [g5]; exact hg⟩
    · refine Rn.f (fun z => he ((nI_eq (by omega) (by omega)).mp z)) ?_
      rw [if_neg he] at K
      have el : (L ++ [(n, ad)]).length = L.length + 1 := by rw [List.length_append]; rfl
      have note : Rn (FX7_note u t (nI n)) (fun _ w' => CT w0 w' t (B + 1) (otB b c 0 x % 4) (L ++ [(n, ad)])) := by
        unfold FX7_note
        refine Rn.okc gc ?_
        rw [g2]
        by_cases h60 : 60 ≤ L.length
        · refine Rn.t (nI_le (a := 60) h60 (by omega)) (Rn.bd (Rn.ret ?_))
          refine ⟨(f.trans F1).trans (Fr.sI ⟨rfl, by omega⟩), ?_, x4', ?_, by rw [el]; omega, ?_⟩
          · rw [hi_setI, if_neg (by omega)]; exact g4
          · rw [hi_setI, if_pos ⟨rfl, rfl⟩, nI_1, el]
          · intro k k1 k2
            rw [el] at k1
            rw [ha_setI, gt_old (by omega), g5]
            exact hg k (by omega) k2
        · refine Rn.f (nI_ge (b := 60) (by omega) (by decide)) (Rn.oki rfl (by omega) (by decide) (Rn.bd (Rn.bd (Rn.ret ?_))))
          rw [nI_clamp (by omega)]
          refine ⟨((f.trans F1).trans (Fr.sA ⟨rfl, by omega⟩)).trans (Fr.sI ⟨rfl, by omega⟩), ?_, x4', ?_, by rw [el]; omega, ?_⟩
          · rw [hi_setI, if_neg (by omega), hi_setA]; exact g4
          · rw [hi_setI, if_pos ⟨rfl, rfl⟩, hi_setA, g2, nI_1, el]
          · intro k k1 k2
            rw [el] at k1
            rw [ha_setI, ha_setA, if_pos ⟨rfl, rfl⟩]
            by_cases hk : k = L.length
            · subst hk
              rw [gt_new, upd_s]
            · rw [upd_n hk, gt_old (by omega), g5]
              exact hg k (by omega) k2
      refine note.call (fun _ w' S' => ?_)
      unfold FX7_visit_84 FX7_visit_87
      dsimp only
      rw [n1, nI_1 k]
      exact K w' S'
  · have ea : act = op - 1 := by rw [hact, if_neg hop]
    refine Rn.f (nI_ne0 (by omega) (by omega)) ?_
    unfold FX7_visit_87
    rw [nI_1 k]
    rw [if_neg hop, if_neg hop] at K
    exact K u ⟨f.trans F1, g4, x4', g2, by omega, by rw [g5]; exact hg⟩
theorem tr_vis (G : TG w0 t kp mp b N aAt vAt M) (he : e < mN M) {c ad : Nat} (c2 : c < 2) : ∀ d k n B s w, k + d = mC M e → d < n → B + d ≤ 1000 → CT w0 w t B s.1 s.2.2 → Rn (FX7_visit_7 n w t kp mp (nI e) (nI c) (nI s.2.1) (nI k)) (fun _ w' => CT w0 w' t (B + d) (itf (fun k => stp b 1 0 c ad (mO M e k)) k d s).1 (itf (fun k => stp b 1 0 c ad (mO M e k)) k d s).2.2) := by
  have hM := G.2.2.2.2.1
  obtain ⟨_, _, C6, hop⟩ := hM.2.2.2 e he
  intro d
  induction d with
  | zero =>
    intro k n B s w hk hn hB S
    obtain ⟨n, rfl⟩ : ∃ z, n = z + 1 := ⟨n - 1, by omega⟩
    have Gw := G.at S.1
    rw [FX7_visit_7]
    exact Rn.eq (cm_ops Gw.2.2.2.1 hM he) (Rn.t (nI_le (by omega) (by omega)) (Rn.ret S))
  | succ d ih =>
    intro k n B s w hk hn hB S
    obtain ⟨n, rfl⟩ : ∃ z, n = z + 1 := ⟨n - 1, by omega⟩
    have Gw := G.at S.1
    have h4 := (hop k (by omega)).1
    have fin := tr_step (e := e) (k := k) (n := s.2.1) (ad := ad) (k7 := FX7_visit_7 n) (Q := fun _ w' => CT w0 w' t (B + (d + 1)) (itf (fun k => stp b 1 0 c ad (mO M e k)) k (d + 1) s).1 (itf (fun k => stp b 1 0 c ad (mO M e k)) k (d + 1) s).2.2) G S (by omega) c2 h4 (fun w' S' => by
      have := ih (k + 1) n (B + 1) _ w' (by omega) (by omega) (by omega) S'
      rw [show B + 1 + d = B + (d + 1) from by omega] at this
      exact this)
    rw [FX7_visit_7]
    refine Rn.eq (cm_ops Gw.2.2.2.1 hM he) (Rn.f (nI_ge (by omega) (by omega)) (Rn.eq (cm_op Gw.2.2.2.1 hM he (by omega)) ?_))
    dsimp only
    by_cases h2 : mO M e k < 2
    · rw [if_pos h2] at fin
      exact Rn.f (nI_ge (b := 2) h2 (by decide)) fin
    · rw [if_neg h2] at fin
      refine Rn.t (nI_le (a := 2) (by omega) (by omega)) ?_
      rw [l1_, nI_subc (by omega)]
      exact fin
theorem tr_rank (G : TG w0 t kp mp b N aAt vAt M) {w : HS} (f : Fr (P7 t) w0 w) {c : Nat} {dn : Bool} (c2 : c < 2) : FX7_rank w t (nI c) (if dn = true then 1 else 0) = some (nI (adr N dn (at2 aAt vAt c)), w) := by
  obtain ⟨g1, g2, g3, g4, g5, g6, g7, g8, g9, g10, g11⟩ := G.at f
  have r15 : ∀ z, z < N → FX7_rank_15 w t (if dn = true then 1 else 0) (nI z) = some (nI (adr N dn z), w) := by
    intro z hz
    unfold FX7_rank_15 adr
    cases dn with
    | true =>
      refine E_f (by decide) ?_
      rw [g8, l1_, nI_subc (by omega), nI_subc (by omega)]
      rfl
    | false => exact E_t rfl rfl
  unfold FX7_rank at2
  refine E_c g1 ?_
  by_cases h : c = 0
  · rw [h, g7]
    exact E_t rfl (r15 vAt g11)
  · rw [g6]
    refine E_f (nI_ne0 (by omega) (by omega)) ?_
    rw [if_neg h]
    exact r15 aAt g10
theorem tr_el (G : TG w0 t kp mp b N aAt vAt M) (he : e < mN M) {dn : Bool} {B x n : Nat} {L : List (Nat × Nat)} {w : HS} (hB : B + 12 ≤ 1000) (S : CT w0 w t B x L) {vch : Int32} {k20 : HS → Nat → Nat → Nat → Int32 → Int32 → Int32 → Option (Int32 × HS)} {Q : Int32 → HS → Prop}
    (K : ∀ w', CT w0 w' t (B + 12) (telS b N aAt vAt M e dn (x, n, L)).1 (telS b N aAt vAt M e dn (x, n, L)).2.2 → Rn (k20 w' t kp mp vch (nI (telS b N aAt vAt M e dn (x, n, L)).2.1) (nI (e + 1))) Q) : Rn (FX7_go_65 k20 w t kp mp vch (nI n) (nI e) (if dn = true then 1 else 0) (nI (fst2 aAt vAt dn))) Q := by
  have hM := G.2.2.2.2.1
  have C6 := (hM.2.2.2 e he).2.2.1
  have f2 : fst2 aAt vAt dn < 2 := by unfold fst2; split <;> decide
  have Gw := G.at S.1
  have e1 : (1 : Int32) - nI (fst2 aAt vAt dn) = nI (1 - fst2 aAt vAt dn) := by rw [l1_, nI_subc (by omega)]
  unfold FX7_go_65
  rw [e1]
  refine Rn.eq (tr_rank G S.1 f2) (Rn.eq (cm_reads Gw.2.2.2.1 hM he) ?_)
  dsimp only
  rw [nI_mul, nI_add]
  unfold FX7_visit
  refine Rn.call (Rn.okc Gw.1 (tr_vis (ad := at2 aAt vAt (fst2 aAt vAt dn)) G he f2 (mC M e) 0 FUEL B (x, n + adr N dn (at2 aAt vAt (fst2 aAt vAt dn)) * rdE M e, L) w (by omega) (fuel_lt (by omega)) (by omega) S)) ?_
  intro _ w1 S1
  have G1 := G.at S1.1
  refine Rn.eq (tr_rank G S1.1 (show 1 - fst2 aAt vAt dn < 2 by omega)) (Rn.eq (cm_reads G1.2.2.2.1 hM he) ?_)
  dsimp only
  rw [nI_mul, nI_add]
  refine Rn.call (Rn.okc G1.1 (tr_vis (ad := at2 aAt vAt (1 - fst2 aAt vAt dn)) G he (show 1 - fst2 aAt vAt dn < 2 by omega) (mC M e) 0 FUEL (B + mC M e) ((visS b 1 0 M e (fst2 aAt vAt dn) (at2 aAt vAt (fst2 aAt vAt dn)) (x, n + adr N dn (at2 aAt vAt (fst2 aAt vAt dn)) * rdE M e, L)).1, n + adr N dn (at2 aAt vAt (1 - fst2 aAt vAt dn)) * rdE M e, (visS b 1 0 M e (fst2 aAt vAt dn) (at2 aAt vAt (fst2 aAt vAt dn)) (x, n + adr N dn (at2 aAt vAt (fst2 aAt vAt dn)) * rdE M e, L)).2.2) w1 (by omega) (fuel_lt (by omega)) (by omega) S1)) ?_
  intro _ w2 S2
  have G2 := G.at S2.1
  refine Rn.eq (cm_reads G2.2.2.2.1 hM he) ?_
  dsimp only
  rw [G2.2.2.2.2.2.2.2.1, nI_mul, nI_add, nI_1 e]
  exact K w2 (S2.mono (by omega))
theorem tr_loop (G : TG w0 t kp mp b N aAt vAt M) {ch : Nat} (hch : ch < 8) : ∀ d e n B s w, e + d = mN M → d < n → B + 12 * d ≤ 1000 → CT w0 w t B s.1 s.2.2 → Rn (FX7_go_20 n w t kp mp (nI ch) (nI s.2.1) (nI e)) (fun r w' => r = nI (itf (fun e s => telS b N aAt vAt M e (dwn M ch e) s) e d s).2.2.length ∧ CT w0 w' t (B + 12 * d) (itf (fun e s => telS b N aAt vAt M e (dwn M ch e) s) e d s).1 (itf (fun e s => telS b N aAt vAt M e (dwn M ch e) s) e d s).2.2) := by
  have hM := G.2.2.2.2.1
  have M8 := hM.2.1
  intro d
  induction d with
  | zero =>
    intro e n B s w he hn hB S
    obtain ⟨n, rfl⟩ : ∃ z, n = z + 1 := ⟨n - 1, by omega⟩
    have Gw := G.at S.1
    rw [FX7_go_20, Gw.2.2.2.1.2.1]
    exact Rn.okc Gw.2.2.2.1.1 (Rn.t (nI_le (by omega) (by omega)) (Rn.ret ⟨S.2.2.2.1, S⟩))
  | succ d ih =>
    intro e n B s w he hn hB S
    obtain ⟨n, rfl⟩ : ∃ z, n = z + 1 := ⟨n - 1, by omega⟩
    have Gw := G.at S.1
    have N6 := G.2.2.2.2.2.2.2.2.1
    have la := G.2.2.2.2.2.2.2.2.2.1
    have lv := G.2.2.2.2.2.2.2.2.2.2
    have fin := tr_el (dn := dwn M ch e) (n := s.2.1) (vch := nI ch) (k20 := FX7_go_20 n) (Q := fun r w' => r = nI (itf (fun e s => telS b N aAt vAt M e (dwn M ch e) s) e (d + 1) s).2.2.length ∧ CT w0 w' t (B + 12 * (d + 1)) (itf (fun e s => telS b N aAt vAt M e (dwn M ch e) s) e (d + 1) s).1 (itf (fun e s => telS b N aAt vAt M e (dwn M ch e) s) e (d + 1) s).2.2) G (show e < mN M by omega) (by omega) S (fun w' S' => by
      have := ih (e + 1) n (B + 12) (telS b N aAt vAt M e (dwn M ch e) s) w' (by omega) (by omega) (by omega) S'
      exact this.mono (fun r w2 h2 => ⟨h2.1, h2.2.mono (by omega)⟩))
    rw [FX7_go_20, Gw.2.2.2.1.2.1]
    refine Rn.okc Gw.2.2.2.1.1 (Rn.f (nI_ge (by omega) (by omega)) (Rn.eq (cm_down Gw.2.2.2.1 hM (by omega) hch) ?_))
    dsimp only
    rw [Gw.2.2.2.2.2.1, Gw.2.2.2.2.2.2.1]
    unfold FX7_go_55
    generalize hdn : dwn M ch e = dn at *
    unfold fst2 at fin
    by_cases hlt : aAt < vAt
    · refine Rn.f (nI_ge hlt (by omega)) ?_
      rw [decide_eq_true hlt] at fin
      cases dn with
      | true => exact Rn.t rfl fin
      | false => exact Rn.f (by decide) fin
    · refine Rn.t (nI_le (by omega) (by omega)) ?_
      rw [decide_eq_false hlt] at fin
      cases dn with
      | true => exact Rn.f (by decide) fin
      | false => exact Rn.t rfl fin
/-- the reads that fail on two cells -/
def gL (b : Book) (N aAt vAt : Nat) (M : Mch) (ch c : Nat) : List (Nat × Nat) := (goS b N aAt vAt M ch (stl b 1 0 c, 0, [])).2.2
theorem tr_go (G : TG w0 t kp mp b N aAt vAt M) {ch c : Nat} (hch : ch < 8) (c4 : c < 4) : Rn (FX7_go w0 t kp mp (nI c) (nI ch)) (fun r w' => r = nI (gL b N aAt vAt M ch c).length ∧ ∃ x, CT w0 w' t 999 x (gL b N aAt vAt M ch c)) := by
  have hM := G.2.2.2.2.1
  have M8 := hM.2.1
  unfold FX7_go
  refine Rn.okc G.1 (Rn.bd ?_)
  have F1 : Fr (P7 t) w0 (setI w0 t 2 0) := Fr.sI ⟨rfl, by omega⟩
  have F2 : Fr (P7 t) (setI w0 t 2 0) (setI (setI w0 t 2 0) t 4 (nI (stl b 1 0 c))) := Fr.sI ⟨rfl, by omega⟩
  refine Rn.eq (ck_set (G.at F1).2.1 c4) (Rn.bd ?_)
  have := tr_loop G hch (mN M) 0 FUEL 0 (stl b 1 0 c, 0, []) (setI (setI w0 t 2 0) t 4 (nI (stl b 1 0 c))) (by omega) (fuel_lt (by omega)) (by omega) ⟨F1.trans F2, by rw [hi_setI, if_pos ⟨rfl, rfl⟩], stl4 G.2.2.1 c4, by rw [hi_setI, if_neg (by omega), hi_setI, if_pos ⟨rfl, rfl⟩]; rfl, Nat.le_refl _, fun k hk => (by cases hk)⟩
  exact this.mono (fun r w2 h2 => ⟨h2.1, _, h2.2.mono (by omega)⟩)
end TGS
