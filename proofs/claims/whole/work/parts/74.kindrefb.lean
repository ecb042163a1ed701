/-! Reference: bodies of v, a and the rest. -/
/-- the same rule in both -/
def RowOK (l : Nat) (row row' r5 r5' : Nat → Int32) : Prop := r5' 0 = r5 0 ∧ ∃ of by_ to tl : Nat, of < 2 ∧ by_ < 3 ∧ to < 3 ∧ tl < 2 ∧
  (l < 2 → (l = 0 → to < 2) ∧ row' 2 = (if by_ = 2 then (if l = 0 then 7 else 8) else row 2) ∧ row' 3 = nI of ∧ row' 4 = (if by_ = 2 then row 4 else nI by_) ∧ row' 5 = nI to ∧ (by_ = 2 → l = 0 → row' 6 = nI tl) ∧ r5' 1 = nI of ∧ r5' 2 = nI by_ ∧ r5' 3 = nI to ∧ (by_ = 2 → l = 0 → r5' 4 = nI tl) ∧ (¬ (by_ = 2 ∧ l = 0) → r5' 4 = r5 4)) ∧
  (l = 2 → to < 2 ∧ row' 2 = row 2 ∧ row' 3 = nI of ∧ row' 4 = row 4 ∧ row' 5 = nI to ∧ r5' 1 = nI of ∧ r5' 3 = nI to ∧ r5' 2 = r5 2 ∧ r5' 4 = r5 4) ∧
  (l = 3 ∨ l = 4 ∨ l = 6 → to < 2 ∧ row' 2 = row 2 ∧ row' 3 = row 3 ∧ row' 4 = row 4 ∧ row' 5 = nI to ∧ r5' 3 = nI to ∧ r5' 1 = r5 1 ∧ r5' 2 = r5 2 ∧ r5' 4 = r5 4) ∧
  (l = 5 → row' 2 = row 2 ∧ row' 3 = row 3 ∧ row' 4 = row 4 ∧ r5' 1 = r5 1 ∧ r5' 2 = r5 2 ∧ r5' 3 = r5 3 ∧ r5' 4 = r5 4)
theorem i10 : ¬ (1 : Int32) = 0 := by decide
section BV
variable {w0 w : HS} {m kn i n p : Nat} {β : Nat → Nat} {r5 : Nat → Int32}
theorem br_takes (hb : ∀ i, β i < 256) (h : BR w0 w m kn i β n p r5) {c : Nat} (hc : c < 128) : (sk β n p < n ∧ β (sk β n p) = c ∧ ∃ w', FX9_takes w m (nI c) = some (1, w') ∧ BR w0 w' m kn i β n (sk β n p + 1) r5 ∧ hi w' m 4 = hi w m 4) ∨ (¬ (sk β n p < n ∧ β (sk β n p) = c) ∧ ∃ w', FX9_takes w m (nI c) = some (0, w') ∧ BR w0 w' m kn i β n (sk β n p) r5 ∧ hi w' m 4 = hi w m 4) := by
  rcases tr_takes hb (c := c) (by omega) h.1 with ⟨q1, q2, w1, e1, f1, t1⟩ | ⟨q, w1, e1, f1, t1⟩
  · exact Or.inl ⟨q1, q2, w1, e1, h.st (Pat_Pfw f1) t1, f1.i (by unfold Pat; omega)⟩
  · exact Or.inr ⟨q, w1, e1, h.st (Pat_Pfw f1) t1, f1.i (by unfold Pat; omega)⟩
theorem dig2 {j p' : Nat} (k : tkP β n 1 p 0 = (some j, p', 0)) : j < 2 := by
  have := tk1_lt (β := β) (n := n) (p := p) (f := 0) (s := 1) (j := j) (by rw [k])
  have : (sgL 1).length = 2 := rfl
  omega
theorem tk_sk {s : Nat} (h : p ≤ n) : tkP β n s (sk β n p) 0 = tkP β n s p 0 := by
  unfold tkP
  rw [sk_sk h]
/-- what is the result of a body, class and reference -/
def Res (w0 : HS) (m kn i : Nat) (β : Nat → Nat) (n l : Nat) (row r5 : Nat → Int32) (R : Nat × Nat × (Nat → Int32)) (x : Option (Int32 × HS)) : Prop := (R.2.1 = 0 ∧ ∃ w' r5', x = some (1, w') ∧ BR w0 w' m kn i β n R.1 r5' ∧ RowOK l row R.2.2 r5 r5') ∨ (R.2.1 ≠ 0 ∧ ∃ w', x = some (0, w') ∧ BF w0 w' m kn i R.2.1)
theorem ref_V (hb : ∀ i, β i < 256) (h : BR w0 w m kn i β n p r5) (row : Nat → Int32) : Res w0 m kn i β n 0 row r5 (bodyC β n 0 p 0 row) (FX9_readsV w m (nI i)) := by
  have pn := h.1.2.2.2.2.2
  have eB : bodyC β n 0 p 0 row = midC β n 0 (tkP β n 1 p 0).2.1 (tkP β n 1 p 0).2.2 (upd row 3 (oI (tkP β n 1 p 0).1)) := by
    unfold bodyC
    rw [if_neg (by decide), if_pos (by decide)]
  rw [eB]
  unfold Res
  rcases br_digit hb h false with ⟨j1, p1, k1, j13, w1, e1, B1, d1⟩ | ⟨f, p1, k1, fn, w1, e1, B1⟩
  · have k1' : tkP β n 1 p 0 = (some j1, p1, 0) := k1
    have j12 := dig2 k1'
    rw [k1']
    dsimp only
    obtain ⟨w2, e2, B2, g2⟩ := br_lays B1 (f := 1) (v := nI j1) (by decide) ⟨j1, by omega, rfl⟩
    have p1n := B2.1.2.2.2.2.2
    rw [d1.symm] at e2
    rcases br_takes hb B2 (c := 119) (by decide) with ⟨q1, q2, w3, e3, B3, g3⟩ | ⟨q, w3, e3, B3, g3⟩
    · -- w
      have kk : tkP β n 2 p1 0 = (some 0, sk β n p1 + 1, 0) := tk_s q1 (by rw [q2]; rfl)
      have eM : midC β n 0 p1 0 (upd row 3 (oI (some j1))) = endC β n 0 false (tkP β n 1 (sk β n p1 + 1) 0).2.1 (tkP β n 1 (sk β n p1 + 1) 0).2.2 (upd (upd row 3 (oI (some j1))) 4 (oI (tkP β n 1 (sk β n p1 + 1) 0).1)) := by
        unfold midC
        rw [kk]
        rfl
      rw [eM]
      rcases br_digit hb B3 false with ⟨j4, p4, k4, j43, w4, e4, B4, d4⟩ | ⟨f, p4, k4, fn, w4, e4, B4⟩
      · have k4' : tkP β n 1 (sk β n p1 + 1) 0 = (some j4, p4, 0) := k4
        have j42 := dig2 k4'
        rw [k4']
        dsimp only
        obtain ⟨w5, e5, B5, g5⟩ := br_lays B4 (f := 2) (v := nI j4) (by decide) ⟨j4, by omega, rfl⟩
        rw [d4.symm] at e5
        have tl := ref_endB hb B5 (l := 0) (row := upd (upd row 3 (oI (some j1))) 4 (oI (some j4))) (by decide)
        have es : ∀ z : Option (Int32 × HS), FX9_readsRest_85 w5 m (nI i) = z → FX9_readsV w m (nI i) = z := by
          intro z hz
          unfold FX9_readsV
          exact E_c h.1.1 (E_b e1 (E_f i10 (E_b e2 (E_b e3 (E_f i10 (E_b e4 (E_f i10 (E_b e5 hz))))))))
        rcases tl with ⟨z0, jt, jt2, zr, w6, e6, B6⟩ | ⟨zn, w6, e6, B6⟩
        · refine Or.inl ⟨z0, w6, _, es _ e6, B6, ?_⟩
          rw [zr]
          refine ⟨rfl, j1, j4, jt, 0, j12, by omega, by omega, by decide, fun _ => ⟨fun _ => jt2, ?_, rfl, ?_, rfl, fun q => by omega, rfl, rfl, rfl, fun q => by omega, fun _ => rfl⟩, fun q => by omega, fun q => by omega, fun q => by omega⟩
          · rw [if_neg (by omega)]; rfl
          · rw [if_neg (by omega)]; rfl
        · exact Or.inr ⟨zn, w6, es _ e6, B6⟩
      · have k4' : tkP β n 1 (sk β n p1 + 1) 0 = (none, p4, f) := k4
        rw [k4']
        dsimp only
        rw [endC_f fn]
        exact Or.inr ⟨fn, w4, (by unfold FX9_readsV; exact E_c h.1.1 (E_b e1 (E_f i10 (E_b e2 (E_b e3 (E_f i10 (E_b e4 (E_t rfl rfl)))))))), B4⟩
    · -- not w
      have x2 := (ix_dig _ (hb (sk β n p1))).2.2.1
      have rn := br_needs hb B3 (s := 2) (c := 114)
      rcases tr_needs hb (c := 114) (by decide) B3.1 with ⟨q1, q2, w4, e4, f4, t4, g4⟩ | ⟨qn, w4, e4, f4, g4⟩
      · rw [sk_sk p1n] at q1 q2 t4
        have B4 := B3.st f4 t4
        have kk : tkP β n 2 p1 0 = (some 1, sk β n p1 + 1, 0) := tk_s q1 (by rw [q2]; rfl)
        have eM : midC β n 0 p1 0 (upd row 3 (oI (some j1))) = endC β n 0 true (sk β n p1 + 1) 0 (upd (upd row 3 (oI (some j1))) 2 7) := by
          unfold midC
          rw [kk]
          rfl
        rw [eM]
        have eE : endC β n 0 true (sk β n p1 + 1) 0 (upd (upd row 3 (oI (some j1))) 2 7) = _ := if_pos ⟨rfl, rfl⟩
        rw [eE]
        rw [if_neg (by decide)]
        rcases br_needs hb B4 (s := 3) (c := 58) (by decide) rfl rfl (by decide) with ⟨p5, k5, w5, e5, B5, _⟩ | ⟨f, p5, k5, fn, w5, e5, B5⟩
        · rw [k5]
          dsimp only
          rcases br_digit hb B5 false with ⟨j6, p6, k6, j63, w6, e6, B6, d6⟩ | ⟨f, p6, k6, fn, w6, e6, B6⟩
          · have k6' : tkP β n 1 p5 0 = (some j6, p6, 0) := k6
            have j62 := dig2 k6'
            rw [k6']
            dsimp only
            obtain ⟨w7, e7, B7, g7⟩ := br_lays B6 (f := 2) (v := 2) (by decide) ⟨2, by decide, rfl⟩
            obtain ⟨w8, e8, B8, g8⟩ := br_lays B7 (f := 3) (v := nI j6) (by decide) ⟨j6, by omega, rfl⟩
            rw [show nI j6 = hi w7 m 4 from by rw [g7, d6]] at e8
            rcases br_needs hb B8 (s := 5) (c := 47) (by decide) rfl rfl (by decide) with ⟨p9, k9, w9, e9, B9, _⟩ | ⟨f, p9, k9, fn, w9, e9, B9⟩
            · rw [k9]
              dsimp only
              rcases br_digit hb B9 false with ⟨ja, pa, ka, ja3, wa, ea, Ba, da⟩ | ⟨f, pa, ka, fn, wa, ea, Ba⟩
              · have ka' : tkP β n 1 p9 0 = (some ja, pa, 0) := ka
                have ja2 := dig2 ka'
                rw [ka']
                dsimp only
                obtain ⟨wb, eb, Bb, gb⟩ := br_lays Ba (f := 4) (v := nI ja) (by decide) ⟨ja, by omega, rfl⟩
                rw [da.symm] at eb
                refine Or.inl ⟨rfl, wb, _, (by unfold FX9_readsV; exact E_c h.1.1 (E_b e1 (E_f i10 (E_b e2 (E_b e3 (E_t rfl (E_b e4 (E_f i10 (E_b e5 (E_f i10 (E_b e6 (E_f i10 (E_b e7 (E_b e8 (E_b e9 (E_f i10 (E_b ea (E_f i10 (E_b eb rfl))))))))))))))))))), Bb, ?_⟩
                exact ⟨rfl, j1, 2, j6, ja, j12, by decide, by omega, ja2, fun _ => ⟨fun _ => j62, rfl, rfl, rfl, rfl, fun _ _ => rfl, rfl, rfl, rfl, fun _ _ => rfl, fun q => absurd ⟨rfl, rfl⟩ q⟩, fun q => by omega, fun q => by omega, fun q => by omega⟩
              · have ka' : tkP β n 1 p9 0 = (none, pa, f) := ka
                rw [ka']
                exact Or.inr ⟨fn, wa, (by unfold FX9_readsV; exact E_c h.1.1 (E_b e1 (E_f i10 (E_b e2 (E_b e3 (E_t rfl (E_b e4 (E_f i10 (E_b e5 (E_f i10 (E_b e6 (E_f i10 (E_b e7 (E_b e8 (E_b e9 (E_f i10 (E_b ea (E_t rfl rfl)))))))))))))))))), Ba⟩
            · rw [k9]
              dsimp only
              rw [tk_f fn]
              exact Or.inr ⟨fn, w9, (by unfold FX9_readsV; exact E_c h.1.1 (E_b e1 (E_f i10 (E_b e2 (E_b e3 (E_t rfl (E_b e4 (E_f i10 (E_b e5 (E_f i10 (E_b e6 (E_f i10 (E_b e7 (E_b e8 (E_b e9 (E_t rfl rfl)))))))))))))))), B9⟩
          · have k6' : tkP β n 1 p5 0 = (none, p6, f) := k6
            rw [k6']
            dsimp only
            rw [tk_f fn, tk_f fn]
            exact Or.inr ⟨fn, w6, (by unfold FX9_readsV; exact E_c h.1.1 (E_b e1 (E_f i10 (E_b e2 (E_b e3 (E_t rfl (E_b e4 (E_f i10 (E_b e5 (E_f i10 (E_b e6 (E_t rfl rfl)))))))))))), B6⟩
        · rw [k5]
          dsimp only
          simp only [tk_f fn]
          exact Or.inr ⟨fn, w5, (by unfold FX9_readsV; exact E_c h.1.1 (E_b e1 (E_f i10 (E_b e2 (E_b e3 (E_t rfl (E_b e4 (E_f i10 (E_b e5 (E_t rfl rfl)))))))))), B5⟩
      · rw [sk_sk p1n] at qn g4
        have kk : tkP β n 2 p1 0 = (none, sk β n p1, 8 * sk β n p1 + 1) := tk_n (by
          by_cases hn : sk β n p1 < n
          · right
            rw [x2, if_neg (fun z => q ⟨hn, z⟩), if_neg (fun z => qn ⟨hn, z⟩)]
          · exact Or.inl hn)
        have eM : (midC β n 0 p1 0 (upd row 3 (oI (some j1)))).2.1 = 8 * sk β n p1 + 1 := by
          unfold midC
          rw [kk]
          rw [if_neg (fun z => by cases z)]
          dsimp only
          rw [tk_f (show 8 * sk β n p1 + 1 ≠ 0 by omega)]
          exact endC_f (show 8 * sk β n p1 + 1 ≠ 0 by omega)
        rw [eM]
        exact Or.inr ⟨by omega, w4, (by unfold FX9_readsV; exact E_c h.1.1 (E_b e1 (E_f i10 (E_b e2 (E_b e3 (E_t rfl (E_b e4 (E_t rfl rfl)))))))), B3.bf f4 g4⟩
  · have k1' : tkP β n 1 p 0 = (none, p1, f) := k1
    rw [k1']
    dsimp only
    rw [midC_f fn]
    exact Or.inr ⟨fn, w1, (by unfold FX9_readsV; exact E_c h.1.1 (E_b e1 (E_t rfl rfl))), B1⟩
theorem ref_A64 (hb : ∀ i, β i < 256) (h : BR w0 w m kn i β n p r5) {row : Nat → Int32} {rd : Bool} {v : Int32} (hv : ∃ z, z < 128 ∧ v = nI z) : ((endC β n 1 rd p 0 row).2.1 = 0 ∧ ∃ j, j < 3 ∧ (endC β n 1 rd p 0 row).2.2 = upd row 5 (nI j) ∧ ∃ w', FX9_readsA_64 w m (nI i) v = some (1, w') ∧ BR w0 w' m kn i β n (endC β n 1 rd p 0 row).1 (upd (upd r5 2 v) 3 (nI j))) ∨ ((endC β n 1 rd p 0 row).2.1 ≠ 0 ∧ ∃ w', FX9_readsA_64 w m (nI i) v = some (0, w') ∧ BF w0 w' m kn i (endC β n 1 rd p 0 row).2.1) := by
  have eE : endC β n 1 rd p 0 row = _ := if_neg (fun q : rd = true ∧ 1 = 0 => by omega)
  rw [eE, if_pos rfl]
  obtain ⟨w1, e1, B1, _⟩ := br_lays h (f := 2) (v := v) (by decide) hv
  unfold FX9_readsA_64
  rcases br_needs hb B1 (s := 3) (c := 58) (by decide) rfl rfl (by decide) with ⟨p2, k2, w2, e2, B2, _⟩ | ⟨f, p2, k2, fn, w2, e2, B2⟩
  · rw [k2]
    dsimp only
    rcases br_digit hb B2 true with ⟨j, p3, k3, j3, w3, e3, B3, d3⟩ | ⟨f, p3, k3, fn, w3, e3, B3⟩
    · rw [show tkP β n 4 p2 0 = (some j, p3, 0) from k3]
      obtain ⟨w4, e4, B4, _⟩ := br_lays B3 (f := 3) (v := nI j) (by decide) ⟨j, by omega, rfl⟩
      rw [d3.symm] at e4
      exact Or.inl ⟨rfl, j, j3, rfl, w4, E_b e1 (E_b e2 (E_f i10 (E_b e3 (E_f i10 (E_b e4 rfl))))), B4⟩
    · rw [show tkP β n 4 p2 0 = (none, p3, f) from k3]
      exact Or.inr ⟨fn, w3, E_b e1 (E_b e2 (E_f i10 (E_b e3 (E_t rfl rfl)))), B3⟩
  · rw [k2]
    dsimp only
    rw [tk_f fn]
    exact Or.inr ⟨fn, w2, E_b e1 (E_b e2 (E_t rfl rfl)), B2⟩
theorem ref_A (hb : ∀ i, β i < 256) (h : BR w0 w m kn i β n p r5) (row : Nat → Int32) : Res w0 m kn i β n 1 row r5 (bodyC β n 1 p 0 row) (FX9_readsA w m (nI i)) := by
  have pn := h.1.2.2.2.2.2
  have eB : bodyC β n 1 p 0 row = midC β n 1 (tkP β n 1 p 0).2.1 (tkP β n 1 p 0).2.2 (upd row 3 (oI (tkP β n 1 p 0).1)) := by
    unfold bodyC
    rw [if_neg (by decide), if_pos (by decide)]
  rw [eB]
  unfold Res
  rcases br_digit hb h false with ⟨j1, p1, k1, j13, w1, e1, B1, d1⟩ | ⟨f, p1, k1, fn, w1, e1, B1⟩
  · have k1' : tkP β n 1 p 0 = (some j1, p1, 0) := k1
    have j12 := dig2 k1'
    rw [k1']
    dsimp only
    obtain ⟨w2, e2, B2, g2⟩ := br_lays B1 (f := 1) (v := nI j1) (by decide) ⟨j1, by omega, rfl⟩
    have p1n := B2.1.2.2.2.2.2
    rw [d1.symm] at e2
    rcases br_takes hb B2 (c := 119) (by decide) with ⟨q1, q2, w3, e3, B3, g3⟩ | ⟨q, w3, e3, B3, g3⟩
    · have kk : tkP β n 2 p1 0 = (some 0, sk β n p1 + 1, 0) := tk_s q1 (by rw [q2]; rfl)
      have eM : midC β n 1 p1 0 (upd row 3 (oI (some j1))) = endC β n 1 false (tkP β n 1 (sk β n p1 + 1) 0).2.1 (tkP β n 1 (sk β n p1 + 1) 0).2.2 (upd (upd row 3 (oI (some j1))) 4 (oI (tkP β n 1 (sk β n p1 + 1) 0).1)) := by
        unfold midC
        rw [kk]
        rfl
      rw [eM]
      rcases br_digit hb B3 false with ⟨j4, p4, k4, j43, w4, e4, B4, d4⟩ | ⟨f, p4, k4, fn, w4, e4, B4⟩
      · have k4' : tkP β n 1 (sk β n p1 + 1) 0 = (some j4, p4, 0) := k4
        have j42 := dig2 k4'
        rw [k4']
        dsimp only
        have es : ∀ z : Option (Int32 × HS), FX9_readsA_64 w4 m (nI i) (nI j4) = z → FX9_readsA w m (nI i) = z := by
          intro z hz
          unfold FX9_readsA
          refine E_c h.1.1 (E_b e1 (E_f i10 (E_b e2 (E_b e3 (E_f i10 (E_b e4 (E_f i10 ?_)))))))
          dsimp only
          rw [d4]
          exact hz
        rcases ref_A64 hb B4 (rd := false) (v := nI j4) (row := upd (upd row 3 (oI (some j1))) 4 (oI (some j4))) ⟨j4, by omega, rfl⟩ with ⟨z0, jt, jt3, zr, w6, e6, B6⟩ | ⟨zn, w6, e6, B6⟩
        · refine Or.inl ⟨z0, w6, _, es _ e6, B6, ?_⟩
          rw [zr]
          refine ⟨rfl, j1, j4, jt, 0, j12, by omega, jt3, by decide, fun _ => ⟨fun q => by omega, ?_, rfl, ?_, rfl, fun q => by omega, rfl, rfl, rfl, fun q => by omega, fun _ => rfl⟩, fun q => by omega, fun q => by omega, fun q => by omega⟩
          · rw [if_neg (by omega)]; rfl
          · rw [if_neg (by omega)]; rfl
        · exact Or.inr ⟨zn, w6, es _ e6, B6⟩
      · have k4' : tkP β n 1 (sk β n p1 + 1) 0 = (none, p4, f) := k4
        rw [k4']
        dsimp only
        rw [endC_f fn]
        exact Or.inr ⟨fn, w4, (by unfold FX9_readsA; exact E_c h.1.1 (E_b e1 (E_f i10 (E_b e2 (E_b e3 (E_f i10 (E_b e4 (E_t rfl rfl)))))))), B4⟩
    · have x2 := (ix_dig _ (hb (sk β n p1))).2.2.1
      rcases tr_needs hb (c := 114) (by decide) B3.1 with ⟨q1, q2, w4, e4, f4, t4, g4⟩ | ⟨qn, w4, e4, f4, g4⟩
      · rw [sk_sk p1n] at q1 q2 t4
        have B4 := B3.st f4 t4
        have kk : tkP β n 2 p1 0 = (some 1, sk β n p1 + 1, 0) := tk_s q1 (by rw [q2]; rfl)
        have eM : midC β n 1 p1 0 (upd row 3 (oI (some j1))) = endC β n 1 true (sk β n p1 + 1) 0 (upd (upd row 3 (oI (some j1))) 2 8) := by
          unfold midC
          rw [kk]
          rfl
        rw [eM]
        have es : ∀ z : Option (Int32 × HS), FX9_readsA_64 w4 m (nI i) 2 = z → FX9_readsA w m (nI i) = z := by
          intro z hz
          unfold FX9_readsA
          exact E_c h.1.1 (E_b e1 (E_f i10 (E_b e2 (E_b e3 (E_t rfl (E_b e4 (E_f i10 hz)))))))
        rcases ref_A64 hb B4 (rd := true) (v := 2) (row := upd (upd row 3 (oI (some j1))) 2 8) ⟨2, by decide, rfl⟩ with ⟨z0, jt, jt3, zr, w6, e6, B6⟩ | ⟨zn, w6, e6, B6⟩
        · refine Or.inl ⟨z0, w6, _, es _ e6, B6, ?_⟩
          rw [zr]
          exact ⟨rfl, j1, 2, jt, 0, j12, by decide, jt3, by decide, fun _ => ⟨fun q => by omega, rfl, rfl, rfl, rfl, fun _ q => by omega, rfl, rfl, rfl, fun _ q => by omega, fun _ => rfl⟩, fun q => by omega, fun q => by omega, fun q => by omega⟩
        · exact Or.inr ⟨zn, w6, es _ e6, B6⟩
      · rw [sk_sk p1n] at qn g4
        have kk : tkP β n 2 p1 0 = (none, sk β n p1, 8 * sk β n p1 + 1) := tk_n (by
          by_cases hn : sk β n p1 < n
          · right
            rw [x2, if_neg (fun z => q ⟨hn, z⟩), if_neg (fun z => qn ⟨hn, z⟩)]
          · exact Or.inl hn)
        have eM : (midC β n 1 p1 0 (upd row 3 (oI (some j1)))).2.1 = 8 * sk β n p1 + 1 := by
          unfold midC
          rw [kk]
          rw [if_neg (fun z => by cases z)]
          dsimp only
          rw [tk_f (show 8 * sk β n p1 + 1 ≠ 0 by omega)]
          exact endC_f (show 8 * sk β n p1 + 1 ≠ 0 by omega)
        rw [eM]
        exact Or.inr ⟨by omega, w4, (by unfold FX9_readsA; exact E_c h.1.1 (E_b e1 (E_f i10 (E_b e2 (E_b e3 (E_t rfl (E_b e4 (E_t rfl rfl)))))))), B3.bf f4 g4⟩
  · have k1' : tkP β n 1 p 0 = (none, p1, f) := k1
    rw [k1']
    dsimp only
    rw [midC_f fn]
    exact Or.inr ⟨fn, w1, (by unfold FX9_readsA; exact E_c h.1.1 (E_b e1 (E_t rfl rfl))), B1⟩
/-- the byte of a letter -/
def lc (l : Nat) : Nat := (sgL 0).getD l 0
theorem lc_all : ∀ l, l < 7 → lc l < 128 ∧ (lc l = 97 ↔ l = 1) ∧ (lc l = 109 ↔ l = 5) ∧ (lc l = 115 ↔ l = 2) ∧ (lc l = 118 ↔ l = 0) ∧ (lc l = 107 ↔ l = 3) ∧ (lc l = 110 ↔ l = 4) ∧ (lc l = 98 ↔ l = 6) := by decide
theorem ref_rest (hb : ∀ i, β i < 256) (h : BR w0 w m kn i β n p r5) (row : Nat → Int32) {l : Nat} (hl : l < 7) : Res w0 m kn i β n l row r5 (bodyC β n l p 0 row) (FX9_readsRest w m (nI (lc l)) (nI i)) := by
  obtain ⟨c1, ca, cm, cs, cv, ck, cn, cb⟩ := lc_all l hl
  have ld : ∀ z, z < 128 → (nI (lc l) = nI z ↔ lc l = z) := fun z hz => nI_eq (by omega) (by omega)
  have fin85 : ∀ {w' : HS} {p' : Nat} {r : Nat → Int32} {rw' : Nat → Int32}, BR w0 w' m kn i β n p' r → l ≠ 1 → (∀ j, j < 2 → RowOK l row (upd rw' 5 (nI j)) r5 (upd r 3 (nI j))) → Res w0 m kn i β n l row r5 (endC β n l false p' 0 rw') (FX9_readsRest_85 w' m (nI i)) := by
    intro w' p' r rw' B hl1 hR
    rcases ref_endB hb B (l := l) (row := rw') hl1 with ⟨z0, jt, jt2, zr, w6, e6, B6⟩ | ⟨zn, w6, e6, B6⟩
    · exact Or.inl ⟨z0, w6, _, e6, B6, by rw [zr]; exact hR jt jt2⟩
    · exact Or.inr ⟨zn, w6, e6, B6⟩
  unfold FX9_readsRest
  by_cases l1 : l = 1
  · subst l1
    rcases ref_A hb h row with ⟨z0, w6, r6, e6, B6, R6⟩ | ⟨zn, w6, e6, B6⟩
    · exact Or.inl ⟨z0, w6, r6, E_c h.1.1 (E_t rfl (E_b e6 (E_k nar1 rfl))), B6, R6⟩
    · exact Or.inr ⟨zn, w6, E_c h.1.1 (E_t rfl (E_b e6 (E_k nar0 rfl))), B6⟩
  · by_cases l5 : l = 5
    · subst l5
      have eB : bodyC β n 5 p 0 row = (p, 0, row) := if_pos rfl
      rw [eB]
      exact Or.inl ⟨rfl, w, r5, E_c h.1.1 (E_f (by decide) (E_t rfl rfl)), h, rfl, 0, 0, 0, 0, by decide, by decide, by decide, by decide, fun q => by omega, fun q => by omega, fun q => by omega, fun _ => ⟨rfl, rfl, rfl, rfl, rfl, rfl, rfl⟩⟩
    · by_cases l2 : l = 2
      · subst l2
        have eB : bodyC β n 2 p 0 row = endC β n 2 false (tkP β n 1 p 0).2.1 (tkP β n 1 p 0).2.2 (upd row 3 (oI (tkP β n 1 p 0).1)) := rfl
        rw [eB]
        rcases br_digit hb h false with ⟨j1, p1, k1, j13, w1, e1, B1, d1⟩ | ⟨f, p1, k1, fn, w1, e1, B1⟩
        · have k1' : tkP β n 1 p 0 = (some j1, p1, 0) := k1
          have j12 := dig2 k1'
          rw [k1']
          dsimp only
          obtain ⟨w2, e2, B2, g2⟩ := br_lays B1 (f := 1) (v := nI j1) (by decide) ⟨j1, by omega, rfl⟩
          rw [d1.symm] at e2
          have r := fin85 (rw' := upd row 3 (oI (some j1))) B2 (by decide) (fun j hj => ⟨rfl, j1, 0, j, 0, j12, by decide, by omega, by decide, fun q => by omega, fun _ => ⟨hj, rfl, rfl, rfl, rfl, rfl, rfl, rfl, rfl⟩, fun q => by omega, fun q => by omega⟩)
          have es : ∀ z : Option (Int32 × HS), FX9_readsRest_85 w2 m (nI i) = z → okb (hc w m == 9) (if nI (lc 2) = 97 then ((FX9_readsA w m (nI i)).bind fun q2 => (okb (vp_nar .boolean q2.1 == q2.1) (some (q2.1, q2.2)))) else (if nI (lc 2) = 109 then (some ((1 : Int32), w)) else (if nI (lc 2) = 115 then ((FX9_readsDigit w m (0 : Int32)).bind fun q9 => (if q9.1 = 0 then (some ((0 : Int32), q9.2)) else ((FX9_lays q9.2 m (hi q9.2 m 7) (nI i) (1 : Int32) (hi q9.2 m 4)).bind fun q14 => (FX9_readsRest_85 q14.2 m (nI i))))) else (if nI (lc 2) = 118 then ((FX9_readsV w m (nI i)).bind fun q19 => (okb (vp_nar .boolean q19.1 == q19.1) (some (q19.1, q19.2)))) else (FX9_readsRest_85 w m (nI i)))))) = z := by
            intro z hz
            exact E_c h.1.1 (E_f (by decide) (E_f (by decide) (E_t rfl (E_b e1 (E_f i10 (E_b e2 hz))))))
          rcases r with ⟨z0, w6, r6, e6, B6, R6⟩ | ⟨zn, w6, e6, B6⟩
          · exact Or.inl ⟨z0, w6, r6, es _ e6, B6, R6⟩
          · exact Or.inr ⟨zn, w6, es _ e6, B6⟩
        · have k1' : tkP β n 1 p 0 = (none, p1, f) := k1
          rw [k1']
          dsimp only
          refine Or.inr ?_
          rw [endC_f fn]
          exact ⟨fn, w1, E_c h.1.1 (E_f (by decide) (E_f (by decide) (E_t rfl (E_b e1 (E_t rfl rfl))))), B1⟩
      · by_cases l0 : l = 0
        · subst l0
          rcases ref_V hb h row with ⟨z0, w6, r6, e6, B6, R6⟩ | ⟨zn, w6, e6, B6⟩
          · exact Or.inl ⟨z0, w6, r6, E_c h.1.1 (E_f (by decide) (E_f (by decide) (E_f (by decide) (E_t rfl (E_b e6 (E_k nar1 rfl)))))), B6, R6⟩
          · exact Or.inr ⟨zn, w6, E_c h.1.1 (E_f (by decide) (E_f (by decide) (E_f (by decide) (E_t rfl (E_b e6 (E_k nar0 rfl)))))), B6⟩
        · have eB : bodyC β n l p 0 row = endC β n l false p 0 row := by
            unfold bodyC
            rw [if_neg l5, if_neg (by omega), if_neg l2]
          rw [eB]
          have r := fin85 (rw' := row) h l1 (fun j hj => ⟨rfl, 0, 0, j, 0, by decide, by decide, by omega, by decide, fun q => by omega, fun q => by omega, fun _ => ⟨hj, rfl, rfl, rfl, rfl, rfl, rfl, rfl, rfl⟩, fun q => by omega⟩)
          have n1 : ¬ nI (lc l) = 97 := fun q => l1 (ca.mp ((ld 97 (by decide)).mp q))
          have n2 : ¬ nI (lc l) = 109 := fun q => l5 (cm.mp ((ld 109 (by decide)).mp q))
          have n3 : ¬ nI (lc l) = 115 := fun q => l2 (cs.mp ((ld 115 (by decide)).mp q))
          have n4 : ¬ nI (lc l) = 118 := fun q => l0 (cv.mp ((ld 118 (by decide)).mp q))
          rcases r with ⟨z0, w6, r6, e6, B6, R6⟩ | ⟨zn, w6, e6, B6⟩
          · exact Or.inl ⟨z0, w6, r6, E_c h.1.1 (E_f n1 (E_f n2 (E_f n3 (E_f n4 e6)))), B6, R6⟩
          · exact Or.inr ⟨zn, w6, E_c h.1.1 (E_f n1 (E_f n2 (E_f n3 (E_f n4 e6)))), B6⟩
end BV
