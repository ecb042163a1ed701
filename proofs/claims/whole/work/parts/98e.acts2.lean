/-! Acts: the frame of every call; tell, write, read. -/
/-- what stands ahead of an act -/
def COR (w : HS) (x h q m r N kn mn cnt pos : Nat) (B : Nat → Book) (MM : Nat → Mch) (S : Me) (H : Nat → Me) : Prop := LM w x q m N S ∧ HC w x h q N cnt pos H ∧ HR w m cnt H ∧ hp w q 2 = (meK S).bind (hq w x 1) ∧ CX w x r kn mn B MM ∧ RX w m kn mn B MM N (meP S) ∧ VS kn mn N B MM S ∧ ∀ i, i < cnt → VS kn mn N B MM (H i)
/-- what stands behind an act -/
def AFT (w2 : HS) (x h q m N kn mn cnt pos : Nat) (B : Nat → Book) (MM : Nat → Mch) (S : Me) (H : Nat → Me) : Prop := LM w2 x q m N S ∧ hp w2 q 2 = (meK S).bind (hq w2 x 1) ∧ HC w2 x h q N cnt pos H ∧ HR w2 m cnt H ∧ VS kn mn N B MM S ∧ ∀ i, i < cnt → VS kn mn N B MM (H i)
/-- what an act does -/
def ACT (w : HS) (x h q m N kn mn sz : Nat) (B : Nat → Book) (MM : Nat → Mch) (F8 : Nat → HS → Nat → Option (Int32 × HS × Nat × Nat)) (F9 : HS → Nat → Option (Int32 × HS)) : Prop := ∃ z w1 mc ms w2 S' cnt' pos' H', F8 sz w x = some (z, w1, mc, ms) ∧ F9 w1 m = some (z, w2) ∧ mc ≤ 20 ∧ ms ≤ 300 ∧ Ke (PAc w h m) w w2 ∧ AFT w2 x h q m N kn mn cnt' pos' B MM S' H'
theorem bm0 {c s : Nat} {y : Option (Int32 × HS × Nat × Nat)} {z : Int32} {w : HS} (h : y = some (z, w, 0, 0)) : bmw c s y = some (z, w, c, s) := by
  have := bmw_e (c := c) (s := s) h
  rw [Nat.zero_add, Nat.zero_add] at this
  exact this
section AD
variable {w : HS} {x h q m r N kn mn cnt pos sz : Nat} {S S' : Me} {H : Nat → Me} {B : Nat → Book} {MM : Nat → Mch} {F8 : Nat → HS → Nat → Option (Int32 × HS × Nat × Nat)} {F9 : HS → Nat → Option (Int32 × HS)}
theorem ACT.no (Co : COR w x h q m r N kn mn cnt pos B MM S H) {z : Int32} (e8 : F8 sz w x = some (z, w, 0, 0)) (e9 : F9 w m = some (z, w)) : ACT w x h q m N kn mn sz B MM F8 F9 := by
  obtain ⟨c1, c2, c3, c4, c5, c6, c7, c8⟩ := Co
  exact ⟨z, w, 0, 0, w, S, cnt, pos, H, e8, e9, by decide, by decide, Ke.refl, c1, c4, c2, c3, c7, c8⟩
theorem ACT.go {Q8 Q9 : HS → HS → Prop} (Co : COR w x h q m r N kn mn cnt pos B MM S H) (fs : ∀ b, hc w b < 10 → b < sz) (V' : VS kn mn N B MM S')
    (a8 : ∀ wa, Ke (PHq w h q) w wa → MV wa q N S → hp wa q 2 = (meK S).bind (hq w x 1) → ∃ wb, Q8 wa wb ∧ Fr (fun b _ => b = q) wa wb ∧ MV wb q N S' ∧ hp wb q 2 = (meK S').bind (hq w x 1))
    (a9 : ∀ wc, Ke (PAc w h m) w wc → hi wc m 15 = nI N → RV (ha wc m 16) S → ∃ wd, Q9 wc wd ∧ Fr (PR m) wc wd ∧ RV (ha wd m 16) S')
    (ev : ∀ wa mc ms wb wc wd, FX0_keep sz w h q = some ((), wa, mc, ms) → hp wa x 5 = some q → hc wa q = 3 → MV wa q N S → Q8 wa wb → hc wb m = 9 → hp wb x 5 = some q → MV wb q N S' → Ke (PAc w h m) w wb → (∀ k, hi wb m k = hi w m k ∧ ha wb m k = ha w m k) → FX9_keepsAct wb m = some ((), wc) → RV (ha wc m 16) S → Q9 wc wd → RV (ha wd m 16) S' → ∃ z, F8 sz w x = some (z, wb, mc, ms) ∧ F9 wb m = some (z, wd)) : ACT w x h q m N kn mn sz B MM F8 F9 := by
  obtain ⟨c1, c2, c3, c4, c5, c6, c7, c8⟩ := Co
  have V6 := V'.2.2.2.2.2.1
  have c3q := c1.2.2.1.1
  have qm : q ≠ m := by intro e; rw [e, c1.2.2.2.1] at c3q; cases c3q
  obtain ⟨wa, mc, ms, wb, wc, wd, e1, lm, ls, ka, a5, ac, q8, kb, b5, Mb, mi, e3, q9, Rd, kd, Ld, pd, Hd, Rr⟩ := act_call (Q8 := fun a b => Q8 a b ∧ MV a q N S) (Q9 := fun c d => Q9 c d ∧ RV (ha c m 16) S) c1 c2 c3 c4 fs V6 (fun wa k1 k2 k3 => by
    obtain ⟨wb, t1, t2⟩ := a8 wa k1 k2 k3
    exact ⟨wb, ⟨t1, k2⟩, t2⟩) (fun wc k1 k2 k3 => by
    obtain ⟨wd, t1, t2⟩ := a9 wc k1 k2 k3
    exact ⟨wd, ⟨t1, k3⟩, t2⟩)
  obtain ⟨z, z1, z2⟩ := ev wa mc ms wb wc wd e1 a5 ac q8.2 q8.1 (kb.c c1.2.2.2.1 (by decide)) b5 Mb kb mi e3 q9.2 q9.1 Rd
  refine ⟨z, wb, mc, ms, wd, S', c20 cnt, (pos + 1) % 20, hcons S H, z1, z2, by omega, by omega, kd, Ld, pd, Hd, Rr, V', fun i hi => ?_⟩
  unfold hcons
  by_cases i0 : i = 0
  · rw [if_pos i0]; exact c7
  · rw [if_neg i0]
    exact c8 (i - 1) (by unfold c20 at hi; split at hi <;> omega)
theorem rcell (h9 : hc w m = 9) (l7 : hi w m 15 = nI N) (N6 : N ≤ 6) {k : Nat} (hk : k < N) : FX9_isCell w m (nI k) = some (1, w) := by
  unfold FX9_isCell
  rw [l7]
  exact E_c h9 (E_f (nI_pos (by omega)) (E_f (nI_ge hk (by omega)) rfl))
theorem rcell_no (h9 : hc w m = 9) (l7 : hi w m 15 = nI N) {u : Int32} (h : u < 0 ∨ nI N ≤ u) : FX9_isCell w m u = some (0, w) := by
  unfold FX9_isCell
  rw [l7]
  by_cases z : u < 0
  · exact E_c h9 (E_t z rfl)
  · exact E_c h9 (E_f z (E_t (h.resolve_left z) rfl))
theorem ccell (M : MV w q N S) (N6 : N ≤ 6) {k : Nat} (hk : k < N) : FX3_hasCell w q (nI k) = some (1, w) := by
  unfold FX3_hasCell
  rw [M.2.1]
  exact E_c M.1 (E_f (nI_pos (by omega)) (E_f (nI_ge hk (by omega)) rfl))
theorem ccell_no (M : MV w q N S) {u : Int32} (h : u < 0 ∨ nI N ≤ u) : FX3_hasCell w q u = some (0, w) := by
  unfold FX3_hasCell
  rw [M.2.1]
  by_cases z : u < 0
  · exact E_c M.1 (E_t z rfl)
  · exact E_c M.1 (E_f z (E_t (h.resolve_left z) rfl))
/-- other contents -/
def meSet (S : Me) (c : Nat) : Me := (c, S.2)
theorem mv_cb {c : Nat} (M : MV w q N S) : MV (cb w q c) q N (meSet S c) := by
  obtain ⟨m1, m2, m3, m4, m5, m6, m7, m8, m9, m10, m11, m12, m13⟩ := M
  exact ⟨m1, by rw [cb_k _ _ _ (by decide)]; exact m2, cb_1 _ _ _, by rw [cb_k _ _ _ (by decide)]; exact m4, by rw [cb_k _ _ _ (by decide)]; exact m5, by rw [cb_k _ _ _ (by decide)]; exact m6, by rw [cb_k _ _ _ (by decide)]; exact m7, by rw [cb_k _ _ _ (by decide)]; exact m8, by rw [cb_k _ _ _ (by decide)]; exact m9, by rw [cb_k _ _ _ (by decide)]; exact m10, m11, m12, m13⟩
theorem rv_nb {c : Nat} (R : RV (ha w m 16) S) : RV (ha (nb w m c) m 16) (meSet S c) := by
  obtain ⟨r1, r2, r3, r4, r5, r6, r7, r8, r9, r10⟩ := R
  exact ⟨nb_0 _ _ _, by rw [nb_j _ _ _ (by decide)]; exact r2, by rw [nb_j _ _ _ (by decide)]; exact r3, by rw [nb_j _ _ _ (by decide)]; exact r4, fun i hi => by rw [nb_j _ _ _ (by omega)]; exact r5 i hi, by rw [nb_j _ _ _ (by decide)]; exact r6, by rw [nb_j _ _ _ (by decide)]; exact r7, by rw [nb_j _ _ _ (by decide)]; exact r8, r9, fun i hi => by rw [nb_j _ _ _ (by omega), nb_j _ _ _ (by omega)]; exact r10 i hi⟩
theorem VS.set {c : Nat} (V : VS kn mn N B MM S) (c6 : c < 64) (sd : Sd0 (bkS B S) (meA S) (meV S) c) : VS kn mn N B MM (meSet S c) := by
  obtain ⟨v1, v2, v3, v4, v5, v6, v7, v8⟩ := V
  exact ⟨c6, v2, v3, sd, v5, v6, v7, v8⟩
theorem COR.cf {P : Nat → Nat → Prop} {wa : HS} (Co : COR w x h q m r N kn mn cnt pos B MM S H) (ka : Ke P w wa) (nk : ∀ p, hc w p = 1 → ∀ k, ¬ P p k) (Ma : MV wa q N S) (pa : hp wa q 2 = (meK S).bind (hq w x 1)) : CF wa q (bkS B S) (meA S) (meV S) := by
  obtain ⟨c1, c2, c3, c4, c5, c6, c7, c8⟩ := Co
  exact cf_of Ma c7 pa (ck_ke c5 ka nk)
theorem COR.rf {wc : HS} (Co : COR w x h q m r N kn mn cnt pos B MM S H) (kc : Ke (PAc w h m) w wc) (Rc : RV (ha wc m 16) S) : RF wc m (bkS B S) (meA S) (meV S) := by
  obtain ⟨c1, c2, c3, c4, c5, c6, c7, c8⟩ := Co
  have l4 := c1.2.2.2.1
  have n : ∀ k, k = 5 ∨ k = 6 → ¬ PAc w h m m k := by
    intro k hk z
    rcases z with z | z | z
    · have := c2.2.1; rw [← z, l4] at this; cases this
    · rw [l4] at z; cases z
    · omega
  exact rf_of (kc.c l4 (by decide)) Rc c7 c6.2.2.1 (fun k hk => ⟨((c6.2.2.2.2.2.1 k hk).1).ke l4 kc (n 5 (Or.inl rfl)) (n 6 (Or.inr rfl)), (c6.2.2.2.2.2.1 k hk).2⟩)
theorem COR.nk (Co : COR w x h q m r N kn mn cnt pos B MM S H) : ∀ p, hc w p = 1 → ∀ k, ¬ PHq w h q p k := by
  intro p hp k z
  rcases z with z | z
  · have := Co.2.1.2.1; rw [← z, hp] at this; cases this
  · rw [hp] at z; cases z.1
theorem COR.nk2 (Co : COR w x h q m r N kn mn cnt pos B MM S H) : ∀ p, hc w p = 2 → ∀ k, ¬ PHq w h q p k := by
  intro p hp k z
  rcases z with z | z
  · have := Co.2.1.2.1; rw [← z, hp] at this; cases this
  · rw [hp] at z; cases z.1
/-- an op at an address, in both -/
theorem COR.op8 {wa : HS} {ad act : Nat} (Co : COR w x h q m r N kn mn cnt pos B MM S H) (ka : Ke (PHq w h q) w wa) (Ma : MV wa q N S) (pa : hp wa q 2 = (meK S).bind (hq w x 1)) (hd : ad < N) (hact : act < 3) : FX3_operate wa q (nI ad) (nI act) = some (nI (opt (bkS B S) (meA S) (meV S) (meC S) (meP S ad) act), cb wa q (opx (bkS B S) (meA S) (meV S) (meC S) (meP S ad) act)) := by
  have V := Co.2.2.2.2.2.2.1
  have N6 := Co.1.2.2.2.2.2.2.2.2
  obtain ⟨adf, A⟩ := V.2.2.2.2.1
  exact lm_op (Co.cf ka Co.nk Ma pa) Ma.2.2.1 V.1 V.2.2.2.1 (Ma.2.2.2.2.2.2.2.2.2.2.2.1 ad (by omega)) (by omega) (A.1 ad (by omega)) hact
theorem COR.vop {ad act : Nat} (Co : COR w x h q m r N kn mn cnt pos B MM S H) (hd : ad < N) (hact : act < 3) : VS kn mn N B MM (meSet S (opx (bkS B S) (meA S) (meV S) (meC S) (meP S ad) act)) := by
  have V := Co.2.2.2.2.2.2.1
  have N6 := Co.1.2.2.2.2.2.2.2.2
  obtain ⟨adf, A⟩ := V.2.2.2.2.1
  exact V.set (opx_lt V.2.2.1 V.1 (A.1 ad (by omega)) hact) (opx_sd V.2.2.1 V.1 (A.1 ad (by omega)) hact V.2.2.2.1)
theorem cb_frq (w : HS) (q c : Nat) : Fr (fun b _ => b = q) w (cb w q c) := (cb_fr w q c).mono (fun b k z => z.1)
theorem write_call (Co : COR w x h q m r N kn mn cnt pos B MM S H) (fs : ∀ b, hc w b < 10 → b < sz) (u0 u1 : Int32) : ACT w x h q m N kn mn sz B MM (fun sz w x => FX8_write sz w x u0 u1) (fun w m => FX9_write w m u0 u1) := by
  obtain ⟨c1, c2, c3, c4, c5, c6, V, c8⟩ := id Co
  obtain ⟨l1, l2, l3, l4, l5, l6, l7, l8, l9⟩ := id c1
  rcases idx (u := u0) (n := N) (by omega) with hu | ⟨ad, hd, rfl⟩
  · refine ACT.no (z := -1) Co ?_ ?_
    · try dsimp only
      unfold FX8_write
      refine E_c l1 (E_b l2 (E_b (ccell_no l3 hu) (E_t rfl rfl)))
    · try dsimp only
      unfold FX9_write
      exact E_c l4 (E_b (rcell_no l4 l7 hu) (E_t rfl rfl))
  · rcases idx (u := u1) (n := 2) (by decide) with hu | ⟨d, hd2, rfl⟩
    · refine ACT.no (z := -1) Co ?_ ?_
      · try dsimp only
        unfold FX8_write
        refine E_c l1 (E_b l2 (E_b (ccell l3 l9 hd) (E_f i10 ?_)))
        by_cases z : u1 < 0
        · exact E_t z rfl
        · refine E_f z (E_f ?_ rfl)
          obtain ⟨j, j1, rfl⟩ := nI_of z
          have : ¬ j < 2 := fun q => nI_ge q (by decide) (hu.resolve_left z)
          exact nI_ge (a := 1) (by omega) j1
      · try dsimp only
        unfold FX9_write
        rcases isin_c w u1 1 (a := 0) (b := 1) (by decide) (by decide) (by decide) with ⟨k, hk, e, _⟩ | ⟨_, ei⟩
        · exact absurd e (ne_c hu (by omega) (by decide))
        · exact E_c l4 (E_b (rcell l4 l7 l9 hd) (E_f i10 (E_b ei (E_t rfl rfl))))
    · have hact : 1 + d < 3 := by omega
      obtain ⟨adf, A⟩ := V.2.2.2.2.1
      refine ACT.go (Q8 := fun wa wb => FX3_operate wa q (nI ad) (nI (1 + d)) = some (nI (opt (bkS B S) (meA S) (meV S) (meC S) (meP S ad) (1 + d)), wb)) (Q9 := fun wc wd => FX9_writesAt wc m (nI ad) (nI d) = some ((), wd)) Co fs (Co.vop hd hact) (fun wa ka Ma pa => ⟨_, Co.op8 ka Ma pa hd hact, cb_frq _ _ _, mv_cb Ma, ?_⟩) (fun wc kc hN Rc => ?_) ?_
      · rw [(cb_fr wa q _).o (by omega)]; exact pa
      · have := ref_writesAt (ad := ad) (d := d) (c := meP S ad) (Co.rf kc Rc) Rc.1 V.1 (Rc.2.2.2.2.1 ad (by omega)) (by omega) (A.1 ad (by omega)) hd2
        refine ⟨_, this.1, nb_fr _ _ _, ?_⟩
        have e : opx (bkS B S) (meA S) (meV S) (meC S) (meP S ad) (1 + d) = wAt (bkS B S) (meA S) (meV S) (meC S) (meP S ad) d := by
          unfold opx
          rw [if_neg (by omega), show 1 + d - 1 = d from by omega]
        rw [e]
        exact rv_nb Rc
      · intro wa mc ms wb wc wd e1 a5 ac Ma q8 b9 b5 Mb kb mi e3 Rc q9 Rd
        refine ⟨nI (opx (bkS B S) (meA S) (meV S) (meC S) (meP S ad) (1 + d)), ?_, ?_⟩
        · try dsimp only
          unfold FX8_write
          refine E_c l1 (E_b l2 (E_b (ccell l3 l9 hd) (E_f i10 (E_f (nI_pos (by omega)) (E_t (nI_le (b := 1) (by omega) (by decide)) (E_b c2.1 (E_b l2 (E_b e1 (bm0 (E_b a5 ?_)))))))))) 
          rw [show (1 : Int32) + nI d = nI (1 + d) from nI_add 1 d]
          refine E_b q8 (E_b b5 (E_c Mb.1 ?_))
          dsimp only
          rw [Mb.2.2.1]
          rfl
        · try dsimp only
          unfold FX9_write
          have l7b : hi wb m 15 = nI N := by rw [(mi 15).1]; exact l7
          rcases isin_c wb (nI d) 1 (a := 0) (b := 1) (by decide) (by decide) (by decide) with ⟨k, hk, e, ei⟩ | ⟨hu, ei⟩
          · refine E_c b9 (E_b (rcell b9 l7b l9 hd) (E_f i10 (E_b ei (E_f i10 (E_b e3 (E_b q9 ?_))))))
            dsimp only
            rw [Rd.1]
            rfl
          · exact absurd rfl (ne_c hu (by omega) (by decide))
theorem read_call (Co : COR w x h q m r N kn mn cnt pos B MM S H) (fs : ∀ b, hc w b < 10 → b < sz) (u0 : Int32) : ACT w x h q m N kn mn sz B MM (fun sz w x => FX8_read sz w x u0) (fun w m => FX9_read w m u0) := by
  obtain ⟨c1, c2, c3, c4, c5, c6, V, c8⟩ := id Co
  obtain ⟨l1, l2, l3, l4, l5, l6, l7, l8, l9⟩ := id c1
  rcases idx (u := u0) (n := N) (by omega) with hu | ⟨ad, hd, rfl⟩
  · refine ACT.no (z := -1) Co ?_ ?_
    · try dsimp only
      unfold FX8_read
      refine E_c l1 (E_b l2 (E_b (ccell_no l3 hu) (E_t rfl rfl)))
    · try dsimp only
      unfold FX9_read
      exact E_c l4 (E_b (rcell_no l4 l7 hu) (E_t rfl rfl))
  · obtain ⟨adf, A⟩ := V.2.2.2.2.1
    refine ACT.go (Q8 := fun wa wb => FX3_operate wa q (nI ad) (nI 0) = some (nI (opt (bkS B S) (meA S) (meV S) (meC S) (meP S ad) 0), wb)) (Q9 := fun wc wd => FX9_readsAt wc m (nI ad) = some (nI (rAt (bkS B S) (meA S) (meV S) (meC S) (meP S ad)).1, wd)) Co fs (Co.vop hd (act := 0) (by decide)) (fun wa ka Ma pa => ⟨_, Co.op8 ka Ma pa hd (by decide), cb_frq _ _ _, mv_cb Ma, ?_⟩) (fun wc kc hN Rc => ?_) ?_
    · rw [(cb_fr wa q _).o (by omega)]; exact pa
    · have := ref_readsAt (ad := ad) (c := meP S ad) (Co.rf kc Rc) Rc.1 V.1 (Rc.2.2.2.2.1 ad (by omega)) (by omega) (A.1 ad (by omega))
      refine ⟨_, this.1, nb_fr _ _ _, ?_⟩
      have e : opx (bkS B S) (meA S) (meV S) (meC S) (meP S ad) 0 = (rAt (bkS B S) (meA S) (meV S) (meC S) (meP S ad)).2 := by
        unfold opx
        rw [if_pos rfl]
      rw [e]
      exact rv_nb Rc
    · intro wa mc ms wb wc wd e1 a5 ac Ma q8 b9 b5 Mb kb mi e3 Rc q9 Rd
      have eo : opt (bkS B S) (meA S) (meV S) (meC S) (meP S ad) 0 = (rAt (bkS B S) (meA S) (meV S) (meC S) (meP S ad)).1 := by
        unfold opt
        rw [if_pos rfl]
      rw [eo] at q8
      refine ⟨nI (rAt (bkS B S) (meA S) (meV S) (meC S) (meP S ad)).1, ?_, ?_⟩
      · try dsimp only
        unfold FX8_read
        exact E_c l1 (E_b l2 (E_b (ccell l3 l9 hd) (E_f i10 (E_b c2.1 (E_b l2 (E_b e1 (bm0 (E_b a5 (E_b q8 rfl)))))))))
      · try dsimp only
        unfold FX9_read
        have l7b : hi wb m 15 = nI N := by rw [(mi 15).1]; exact l7
        exact E_c b9 (E_b (rcell b9 l7b l9 hd) (E_f i10 (E_b e3 (E_b q9 rfl))))
/-- cells told, in both -/
theorem fill_c {b : Book} {a v c : Nat} (F : CF w q b a v) (c6 : c < 64) : FX3_fill w q (nI c) = some ((), cb w q (stl b a v c)) := by
  unfold FX3_fill
  refine E_c F.1 (E_d ?_)
  have F' : CF (cb w q c) q b a v := F.cb
  have p2 : hp (cb w q c) q 2 = hp w q 2 := (cb_fr w q c).o (by omega)
  show (hp (cb w q c) q 2).elim _ _ = _
  rcases F.2.2.2.2 with ⟨h5, h6⟩ | ⟨p, k1, k2, k3⟩
  · rw [p2, h5]
    show some ((), cb w q c) = _
    unfold stl
    rw [ru_0 h6, h6]
    rfl
  · obtain ⟨W, hv, hpp⟩ := F.pl k3
    have ck : CK (cb w q c) p b := k2.fr (cb_fr w q c) (fun k z => k2.cl F.1 (by decide) z.1)
    rw [p2, k1]
    show (FX3_state (cb w q c) q).bind _ = _
    refine E_b (lm_state F' k3 (cb_1 _ _ _) c6) ?_
    show ((hp (cb w q c) q 2).bind _) = _
    rw [p2, k1]
    refine E_b rfl (E_b (ck_set ck (pj4 _ _ _)) (E_b (lm_setState F' k3 (cb_1 _ _ _) c6 (stl4 W (pj4 _ _ _))) ?_))
    rw [cb_cb, ← pj_stl W hv (by omega) (by omega) (by omega) c6, up_pj hv (by omega) c6 (stl_ltW W hv c6) (fun f f1 f2 f3 => stl_ne W hv c6 f1 f2)]
theorem stl_sd0 {b : Book} {a v c : Nat} (P : PL b a v) (c6 : c < 64) : stl b a v c < 64 ∧ Sd0 b a v (stl b a v c) := by
  rcases P with ⟨h0, h1, h2⟩ | ⟨W, hv, hp⟩
  · refine ⟨?_, fun z => by omega⟩
    unfold stl
    rw [ru_0 h0, h0]
    exact c6
  · exact ⟨stl_ltW W hv c6, fun _ => stl_sd W hv (by omega) (by omega) (by omega) c6⟩
theorem pw_c : ∀ N, N < 7 → ((1 : Int32) <<< (nI N &&& 31)) = nI (2 ^ N) ∧ 2 ^ N ≤ 64 ∧ 0 < 2 ^ N ∧ (((1 : Int32) <<< (nI N &&& 31)) - (1 : Int32)).toInt64 = (nI (2 ^ N - 1)).toInt64 := by decide +kernel
theorem tell_call (Co : COR w x h q m r N kn mn cnt pos B MM S H) (fs : ∀ b, hc w b < 10 → b < sz) (u0 : Int32) : ACT w x h q m N kn mn sz B MM (fun sz w x => FX8_tell sz w x u0) (fun w m => FX9_tell w m u0) := by
  obtain ⟨c1, c2, c3, c4, c5, c6, V, c8⟩ := id Co
  obtain ⟨l1, l2, l3, l4, l5, l6, l7, l8, l9⟩ := id c1
  obtain ⟨p1, p2, p0, p3⟩ := pw_c N (by omega)
  rcases idx (u := u0) (n := 2 ^ N) (by omega) with hu | ⟨c, hc', rfl⟩
  · refine ACT.no (z := -1) Co ?_ ?_
    · try dsimp only
      unfold FX8_tell
      refine E_c l1 ?_
      by_cases z : u0 < 0
      · exact E_t z rfl
      · refine E_f z (E_b l2 (E_c l3.1 (E_f ?_ rfl)))
        rw [l3.2.1, p1]
        obtain ⟨j, j1, rfl⟩ := nI_of z
        have : ¬ j < 2 ^ N := fun q => nI_ge q (by omega) (hu.resolve_left z)
        exact nI_nlt (by omega) j1
    · try dsimp only
      unfold FX9_tell
      rw [l7, p3]
      rcases isin_c w u0 (2 ^ N - 1) (a := 0) (by decide) rfl (by omega) with ⟨k, hk, e, _⟩ | ⟨_, ei⟩
      · exact absurd e (ne_c hu (by omega) (by omega))
      · exact E_c l4 (E_b ei (E_t rfl rfl))
  · have c64 : c < 64 := by omega
    obtain ⟨s6, sd⟩ := stl_sd0 V.2.2.1 c64
    refine ACT.go (S' := meSet S (stl (bkS B S) (meA S) (meV S) c)) (Q8 := fun wa wb => FX3_fill wa q (nI c) = some ((), wb)) (Q9 := fun wc wd => FX9_settles (nb wc m c) m = some ((), wd)) Co fs (V.set s6 sd) (fun wa ka Ma pa => ⟨_, fill_c (Co.cf ka Co.nk Ma pa) c64, cb_frq _ _ _, mv_cb Ma, ?_⟩) (fun wc kc hN Rc => ?_) ?_
    · rw [(cb_fr wa q _).o (by omega)]; exact pa
    · refine ⟨_, ref_settles (x := c) (Co.rf kc Rc).nb (nb_0 _ _ _) c64, (nb_fr _ _ _).trans (nb_fr _ _ _), ?_⟩
      rw [nb_nb]
      exact rv_nb Rc
    · intro wa mc ms wb wc wd e1 a5 ac Ma q8 b9 b5 Mb kb mi e3 Rc q9 Rd
      refine ⟨nI (meC S), ?_, ?_⟩
      · try dsimp only
        unfold FX8_tell
        refine E_c l1 (E_f (nI_pos (by omega)) (E_b l2 (E_c l3.1 (E_t (by rw [l3.2.1, p1]; exact nI_lt hc' (by omega)) (E_b c2.1 (E_b l2 (E_b e1 (bm0 (E_b a5 (E_c ac (E_b a5 (E_b q8 ?_))))))))))))
        dsimp only
        rw [Ma.2.2.1]
      · try dsimp only
        unfold FX9_tell
        have l7b : hi wb m 15 = nI N := by rw [(mi 15).1]; exact l7
        rw [l7b, p3]
        rcases isin_c wb (nI c) (2 ^ N - 1) (a := 0) (by decide) rfl (by omega) with ⟨k, hk, e, ei⟩ | ⟨hu, ei⟩
        · refine E_c b9 (E_b ei (E_f i10 (E_b e3 (E_d (E_b q9 ?_)))))
          dsimp only
          rw [Rc.1]
        · exact absurd rfl (ne_c hu (by omega) (by omega))
end AD
