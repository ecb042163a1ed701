/-! put, layout, run, memory, heal. -/
section AE
variable {w : HS} {x h q m r N kn mn cnt pos sz : Nat} {S S' : Me} {H : Nat → Me} {B : Nat → Book} {MM : Nat → Mch}
theorem RX.mi {w' : HS} {mp : Nat → Nat} (R : RX w m kn mn B MM N mp) (h9 : hc w' m = 9) (mi : ∀ k, hi w' m k = hi w m k ∧ ha w' m k = ha w m k) : RX w' m kn mn B MM N mp := by
  have e1 : hi w' m = hi w m := funext (fun k => (mi k).1)
  have e2 : ha w' m = ha w m := funext (fun k => (mi k).2)
  obtain ⟨c1, c2, c3, c4, c5, c6, c7, c8, c9, c10, c11⟩ := R
  refine ⟨h9, by rw [e1]; exact c2, c3, by rw [e1]; exact c4, c5, fun k hk => ⟨?_, (c6 k hk).2⟩, fun k hk => ⟨?_, (c7 k hk).2⟩, by rw [e1]; exact c8, c9, c10, by rw [e2]; exact c11⟩
  · have := (c6 k hk).1
    unfold RK rl at this ⊢
    rw [e2]
    exact this
  · have := (c7 k hk).1
    unfold RMa at this ⊢
    rw [e2]
    exact this
-- put
def mePut (S : Me) (k a v c : Nat) : Me := (c, some k, a, v, S.2.2.2.2)
theorem VS.put {k a v : Nat} (V : VS kn mn N B MM S) (hk : k < kn) (P : PL (B k) a v) : VS kn mn N B MM (mePut S k a v (stl (B k) a v (meC S))) := by
  obtain ⟨v1, v2, v3, v4, v5, v6, v7, v8⟩ := V
  obtain ⟨s1, s2⟩ := stl_sd0 P v1
  exact ⟨s1, fun z hz => by cases hz; exact hk, P, s2, v5, v6, v7, v8⟩
theorem ins_some {p k a v c : Nat} {b : Book} (M : MV w q N S) (ck : CK w p b) (h0 : 0 < b.1) (P : PL b a v) (v6 : v < 6) (c6 : c < 64) (ec : meC S = c) : ∃ w', FX3_insert w q (some p) (nI k) (cI a) (nI v) = some ((), w') ∧ Fr (fun b _ => b = q) w w' ∧ MV w' q N (mePut S k a v (stl b a v c)) ∧ hp w' q 2 = some p := by
  obtain ⟨m1, m2, m3, m4, m5, m6, m7, m8, m9, m10, m11, m12, m13⟩ := M
  obtain ⟨wa, hwa⟩ : ∃ wa, wa = setI (setI (setI (setP w q 2 (some p)) q 3 (nI k)) q 4 (cI a)) q 5 (nI v) := ⟨_, rfl⟩
  have fa : Fr (fun b k => b = q ∧ (k = 2 ∨ k = 3 ∨ k = 4 ∨ k = 5)) w wa := by rw [hwa]; exact (((Fr.sP ⟨rfl, by omega⟩).trans (Fr.sI ⟨rfl, by omega⟩)).trans (Fr.sI ⟨rfl, by omega⟩)).trans (Fr.sI ⟨rfl, by omega⟩)
  have a2 : hp wa q 2 = some p := by rw [hwa, hp_setI, hp_setI, hp_setI, hp_setP, if_pos ⟨rfl, rfl⟩]
  have a3 : hi wa q 3 = nI k := by rw [hwa, hi_setI, if_neg (by omega), hi_setI, if_neg (by omega), hi_setI, if_pos ⟨rfl, rfl⟩]
  have a4 : hi wa q 4 = cI a := by rw [hwa, hi_setI, if_neg (by omega), hi_setI, if_pos ⟨rfl, rfl⟩]
  have a5 : hi wa q 5 = nI v := by rw [hwa, hi_setI, if_pos ⟨rfl, rfl⟩]
  have a1 : hi wa q 1 = nI c := by rw [fa.i (by omega), m3, ec]
  have cka : CK wa p b := ck.fr fa (fun k z => ck.cl m1 (by decide) z.1)
  have F : CF wa q b a v := ⟨by rw [fa.c]; exact m1, a4, by rw [a5, cI_n v6], P, Or.inr ⟨p, a2, cka, h0⟩⟩
  have e := fill_c F c6
  have fb := cb_fr wa q (stl b a v c)
  have F2 : Fr (fun b k => b = q ∧ (k = 1 ∨ k = 2 ∨ k = 3 ∨ k = 4 ∨ k = 5)) w (cb wa q (stl b a v c)) := (fa.mono (fun b k z => by omega)).trans (fb.mono (fun b k z => by omega))
  refine ⟨_, ?_, F2.mono (fun b k z => z.1), ⟨by rw [F2.c]; exact m1, by rw [F2.i (by omega)]; exact m2, cb_1 _ _ _, by rw [fb.i (by omega), a3]; rfl, by rw [fb.i (by omega), a4]; rfl, by rw [fb.i (by omega), a5, ← cI_n v6]; rfl, by rw [F2.i (by omega)]; exact m7, by rw [F2.i (by omega)]; exact m8, by rw [F2.i (by omega)]; exact m9, by rw [F2.i (by omega)]; exact m10, m11, by rw [F2.ar (by omega)]; exact m12, by rw [F2.ar (by omega)]; exact m13⟩, by rw [fb.o (by omega)]; exact a2⟩
  unfold FX3_insert
  refine E_c m1 (E_d (E_d (E_d (E_d ?_))))
  rw [← hwa, a1]
  exact E_b e rfl
theorem tries_put {k a v c : Nat} {b : Book} (h9 : hc w m = 9) (K : RK w m k b) (k8 : k < 8) (P : PL b a v) (h0 : 0 < b.1) (c6 : c < 64) (R : RV (ha w m 16) S) : ∃ w', FX9_tries w m (nI k) (cI a) (cI v) (nI c) = some ((), w') ∧ Fr (PR m) w w' ∧ RV (ha w' m 16) (mePut S k a v (stl b a v c)) := by
  obtain ⟨r1, r2, r3, r4, r5, r6, r7, r8, r9, r10⟩ := R
  obtain ⟨wa, hwa⟩ : ∃ wa, wa = setA (setA (setA (setA w m 16 1 (nI k)) m 16 2 (cI a)) m 16 3 (cI v)) m 16 0 (nI c) := ⟨_, rfl⟩
  have fa : Fr (fun b k => b = m ∧ k = 16) w wa := by rw [hwa]; exact (((Fr.sA ⟨rfl, rfl⟩).trans (Fr.sA ⟨rfl, rfl⟩)).trans (Fr.sA ⟨rfl, rfl⟩)).trans (Fr.sA ⟨rfl, rfl⟩)
  have ea : ∀ j, ha wa m 16 j = if j = 0 then nI c else if j = 3 then cI v else if j = 2 then cI a else if j = 1 then nI k else ha w m 16 j := by
    intro j
    rw [hwa, ha_setA, if_pos ⟨rfl, rfl⟩, ha_setA, if_pos ⟨rfl, rfl⟩, ha_setA, if_pos ⟨rfl, rfl⟩, ha_setA, if_pos ⟨rfl, rfl⟩]
    rfl
  have e4 : ∀ j, 4 ≤ j → ha wa m 16 j = ha w m 16 j := fun j hj => by rw [ea, if_neg (by omega), if_neg (by omega), if_neg (by omega), if_neg (by omega)]
  have RFa : RF wa m b a v := ⟨by rw [fa.c]; exact h9, by rw [ea]; rfl, by rw [ea]; rfl, P, Or.inr ⟨k, k8, by rw [ea]; rfl, K.fr fa (by omega) (by omega), h0⟩⟩
  have e := ref_settles (x := c) RFa (by rw [ea]; rfl) c6
  refine ⟨_, ?_, (fa.mono (fun b k z => ⟨z.1, Or.inl z.2⟩)).trans (nb_fr _ _ _), ⟨nb_0 _ _ _, by rw [nb_j _ _ _ (by decide), ea]; rfl, by rw [nb_j _ _ _ (by decide), ea]; rfl, by rw [nb_j _ _ _ (by decide), ea]; rfl, fun i hi => by rw [nb_j _ _ _ (by omega), e4 _ (by omega)]; exact r5 i hi, by rw [nb_j _ _ _ (by decide), e4 _ (by decide)]; exact r6, by rw [nb_j _ _ _ (by decide), e4 _ (by decide)]; exact r7, by rw [nb_j _ _ _ (by decide), e4 _ (by decide)]; exact r8, r9, fun i hi => by rw [nb_j _ _ _ (by omega), nb_j _ _ _ (by omega), e4 _ (by omega), e4 _ (by omega)]; exact r10 i hi⟩⟩
  unfold FX9_tries
  refine E_c h9 (E_d (E_d (E_d (E_d ?_))))
  rw [← hwa]
  exact E_b e rfl
theorem put_call (Co : COR w x h q m r N kn mn cnt pos B MM S H) (fs : ∀ b, hc w b < 10 → b < sz) (u0 u1 u2 : Int32) : ACT w x h q m N kn mn sz B MM (fun sz w x => FX8_put sz w x u0 u1 u2) (fun w m => FX9_put w m u0 u1 u2) := by
  obtain ⟨c1, c2, c3, c4, c5, c6, V, c8⟩ := id Co
  obtain ⟨l1, l2, l3, l4, l5, l6, l7, l8, l9⟩ := id c1
  have kn8 := c6.2.2.1
  rcases idx (u := u0) (n := kn) (by omega) with hu | ⟨k, hk, rfl⟩
  · refine ACT.no (z := 0) Co ?_ ?_
    · try dsimp only
      unfold FX8_put
      exact E_c l1 (E_b (cx_nokind c5 hu) rfl)
    · try dsimp only
      unfold FX9_put
      exact E_c l4 (E_b (rx_nokind c6 hu) (E_t rfl rfl))
  obtain ⟨p, e1, K, W, hqp⟩ := cx_kind c5 hk
  have e9 := rx_kind c6 hk
  have RKk := (c6.2.2.2.2.2.1 k hk).1
  have pe : FX9_isPair w m (nI k) = some (if pr (B k) = true then 1 else 0, w) := ref_pair l4 RKk W (by omega)
  have k1 := K.2.2.1
  have qp : q ≠ p := fun z => K.cl l3.1 (by decide) z.symm
  rcases idx (u := u2) (n := N) (by omega) with hu | ⟨v, hv, rfl⟩
  · refine ACT.no (z := 0) Co ?_ ?_
    · try dsimp only
      unfold FX8_put
      exact E_c l1 (E_b e1 (E_b l2 (E_b (ccell_no l3 hu) (E_t rfl rfl))))
    · try dsimp only
      unfold FX9_put
      exact E_c l4 (E_b e9 (E_f i10 (E_b (rcell_no l4 l7 hu) (E_t rfl rfl))))
  -- the act itself
  have go : ∀ a, (pr (B k) = true ∧ a < N ∧ a ≠ v) ∨ (pr (B k) = false ∧ a = 7) → u1 = cI a →
      (∀ mc ms wb, FX8_put_67 w sz x (nI k) u1 (nI v) p 1 = some (1, wb, mc, ms) → FX8_put sz w x (nI k) u1 (nI v) = some (1, wb, mc, ms)) →
      (∀ wb wd, hc wb m = 9 → RX wb m kn mn B MM N (meP S) → FX9_put_47 wb m (nI k) u1 (nI v) = some (1, wd) → FX9_put wb m (nI k) u1 (nI v) = some (1, wd)) → ACT w x h q m N kn mn sz B MM (fun sz w x => FX8_put sz w x (nI k) u1 (nI v)) (fun w m => FX9_put w m (nI k) u1 (nI v)) := by
    intro a ha hua g8 g9
    have P : PL (B k) a v := Or.inr ⟨W, by omega, ha.imp (fun z => ⟨z.1, by omega, z.2.2⟩) (fun z => z)⟩
    refine ACT.go (S' := mePut S k a v (stl (B k) a v (meC S))) (Q8 := fun wa wb => FX3_insert wa q (some p) (nI k) (cI a) (nI v) = some ((), wb)) (Q9 := fun wc wd => FX9_tries wc m (nI k) (cI a) (cI v) (nI (meC S)) = some ((), wd)) Co fs (V.put hk P) (fun wa ka Ma pa => ?_) (fun wc kc hN Rc => ?_) ?_
    · obtain ⟨wb, b1, b2, b3, b4⟩ := ins_some (k := k) Ma (K.ke ka (Co.nk p K.1)) W.2.1 P (by omega) V.1 rfl
      exact ⟨wb, b1, b2, b3, by rw [b4]; exact hqp.symm⟩
    · have n : ∀ j, j = 5 ∨ j = 6 → ¬ PAc w h m m j := by
        intro j hj z
        rcases z with z | z | z
        · have := c2.2.1; rw [← z, l4] at this; cases this
        · rw [l4] at z; cases z
        · omega
      exact tries_put (kc.c l4 (by decide)) (RKk.ke l4 kc (n 5 (Or.inl rfl)) (n 6 (Or.inr rfl))) (by omega) P W.2.1 V.1 Rc
    · intro wa mc ms wb wc wd f1 a5 ac Ma q8 b9 b5 Mb kb mi e3 Rc q9 Rd
      refine ⟨1, g8 mc ms wb ?_, g9 wb wd b9 (c6.mi b9 mi) ?_⟩
      · unfold FX8_put_67
        rw [hua]
        exact E_f i10 (E_b c2.1 (E_b l2 (E_b f1 (bm0 (E_b a5 (E_b q8 rfl))))))
      · unfold FX9_put_47
        refine E_b e3 (E_b (a := ((), wd)) ?_ rfl)
        dsimp only
        rw [Rc.1, hua, ← cI_n (show v < 6 by omega)]
        exact q9
  cases hp : pr (B k) with
  | true =>
    rw [hp] at k1
    rcases idx (u := u1) (n := N) (by omega) with hu | ⟨a, ha, rfl⟩
    · refine ACT.no (z := 0) Co ?_ ?_
      · try dsimp only
        unfold FX8_put
        refine E_c l1 (E_b e1 (E_b l2 (E_b (ccell l3 l9 hv) (E_f i10 (E_c K.1 (E_f (by rw [k1]; decide) (E_b l2 (E_b (ccell_no l3 hu) (E_t rfl ?_)))))))))
        unfold FX8_put_53 FX8_put_67
        exact E_t rfl rfl
      · try dsimp only
        unfold FX9_put
        rw [hp] at pe
        exact E_c l4 (E_b e9 (E_f i10 (E_b (rcell l4 l7 l9 hv) (E_f i10 (E_b pe (E_f i10 (E_b (rcell_no l4 l7 hu) (E_t rfl rfl))))))))
    · by_cases av : a = v
      · subst av
        refine ACT.no (z := 0) Co ?_ ?_
        · try dsimp only
          unfold FX8_put
          refine E_c l1 (E_b e1 (E_b l2 (E_b (ccell l3 l9 hv) (E_f i10 (E_c K.1 (E_f (by rw [k1]; decide) (E_b l2 (E_b (ccell l3 l9 ha) (E_f i10 (E_t rfl ?_))))))))))
          unfold FX8_put_53 FX8_put_67
          exact E_t rfl rfl
        · try dsimp only
          unfold FX9_put
          rw [hp] at pe
          exact E_c l4 (E_b e9 (E_f i10 (E_b (rcell l4 l7 l9 hv) (E_f i10 (E_b pe (E_f i10 (E_b (rcell l4 l7 l9 ha) (E_f i10 (E_t rfl rfl)))))))))
      · have ne : ¬ nI a = nI v := fun z => av ((nI_eq (by omega) (by omega)).mp z)
        refine go a (Or.inl ⟨hp, ha, av⟩) (cI_n (by omega)).symm (fun mc ms wb hz => ?_) (fun wb wd b9 Rb hz => ?_)
        · unfold FX8_put
          exact E_c l1 (E_b e1 (E_b l2 (E_b (ccell l3 l9 hv) (E_f i10 (E_c K.1 (E_f (by rw [k1]; decide) (E_b l2 (E_b (ccell l3 l9 ha) (E_f i10 (E_f ne hz))))))))))
        · have pb : FX9_isPair wb m (nI k) = some (if pr (B k) = true then 1 else 0, wb) := ref_pair b9 (Rb.2.2.2.2.2.1 k hk).1 W (by omega)
          rw [hp] at pb
          have l7b := Rb.2.2.2.2.2.2.2.1
          unfold FX9_put
          exact E_c b9 (E_b (rx_kind Rb hk) (E_f i10 (E_b (rcell b9 l7b l9 hv) (E_f i10 (E_b pb (E_f i10 (E_b (rcell b9 l7b l9 ha) (E_f i10 (E_f ne hz)))))))))
  | false =>
    rw [hp] at k1
    by_cases hu : u1 = -1
    · refine go 7 (Or.inr ⟨hp, rfl⟩) (by rw [hu]; rfl) (fun mc ms wb hz => ?_) (fun wb wd b9 Rb hz => ?_)
      · unfold FX8_put
        exact E_c l1 (E_b e1 (E_b l2 (E_b (ccell l3 l9 hv) (E_f i10 (E_c K.1 (E_t (by rw [k1]; rfl) (E_t hu hz)))))))
      · have pb : FX9_isPair wb m (nI k) = some (if pr (B k) = true then 1 else 0, wb) := ref_pair b9 (Rb.2.2.2.2.2.1 k hk).1 W (by omega)
        rw [hp] at pb
        have l7b := Rb.2.2.2.2.2.2.2.1
        unfold FX9_put
        exact E_c b9 (E_b (rx_kind Rb hk) (E_f i10 (E_b (rcell b9 l7b l9 hv) (E_f i10 (E_b pb (E_t rfl (E_t hu hz)))))))
    · refine ACT.no (z := 0) Co ?_ ?_
      · try dsimp only
        unfold FX8_put
        refine E_c l1 (E_b e1 (E_b l2 (E_b (ccell l3 l9 hv) (E_f i10 (E_c K.1 (E_t (by rw [k1]; rfl) (E_f hu ?_)))))))
        unfold FX8_put_67
        exact E_t rfl rfl
      · try dsimp only
        unfold FX9_put
        rw [hp] at pe
        exact E_c l4 (E_b e9 (E_f i10 (E_b (rcell l4 l7 l9 hv) (E_f i10 (E_b pe (E_t rfl (E_f hu rfl)))))))
-- layout
def meLay (S : Me) (i j : Nat) : Me := (meC S, meK S, meA S, meV S, fun k => if k = j then meP S i else if k = i then meP S j else meP S k, meR S, meH S, meF S, meN S, meX S, meY S)
theorem VS.lay {i j : Nat} (V : VS kn mn N B MM S) (hi : i < N) (hj : j < N) (N6 : N ≤ 6) : VS kn mn N B MM (meLay S i j) := by
  obtain ⟨v1, v2, v3, v4, ⟨ad, a1, a2, a3, a4⟩, v6, v7, v8⟩ := V
  refine ⟨v1, v2, v3, v4, ⟨fun c => if ad c = i then j else if ad c = j then i else ad c, ?_, ?_, ?_, ?_⟩, v6, v7, v8⟩
  · intro k hk
    show (if k = j then meP S i else if k = i then meP S j else meP S k) < 6
    have := a1 i (by omega)
    have := a1 j (by omega)
    have := a1 k hk
    split
    · assumption
    · split <;> assumption
  · intro k hk
    show (if k = j then meP S i else if k = i then meP S j else meP S k) < N
    have := a2 i (by omega)
    have := a2 j (by omega)
    have := a2 k hk
    split
    · assumption
    · split <;> assumption
  · intro k hk l hl
    show (if k = j then meP S i else if k = i then meP S j else meP S k) = (if l = j then meP S i else if l = i then meP S j else meP S l) → k = l
    intro e
    have t1 := a3 i (by omega) l hl
    have t2 := a3 j (by omega) l hl
    have t3 := a3 k hk l hl
    have t4 := a3 k hk i (by omega)
    have t5 := a3 k hk j (by omega)
    have t6 := a3 i (by omega) j (by omega)
    have t7 := a3 j (by omega) i (by omega)
    by_cases k1 : k = j
    · rw [if_pos k1] at e
      by_cases l1 : l = j
      · omega
      · rw [if_neg l1] at e
        by_cases l2 : l = i
        · rw [if_pos l2] at e; have := t6 e; omega
        · rw [if_neg l2] at e; have := t1 e; omega
    · rw [if_neg k1] at e
      by_cases k2 : k = i
      · rw [if_pos k2] at e
        by_cases l1 : l = j
        · rw [if_pos l1] at e; have := t7 e; omega
        · rw [if_neg l1] at e
          by_cases l2 : l = i
          · omega
          · rw [if_neg l2] at e; have := t2 e; omega
      · rw [if_neg k2] at e
        by_cases l1 : l = j
        · rw [if_pos l1] at e; have := t4 e; omega
        · rw [if_neg l1] at e
          by_cases l2 : l = i
          · rw [if_pos l2] at e; have := t5 e; omega
          · rw [if_neg l2] at e; exact t3 e
  · intro c hc
    obtain ⟨b1, b2⟩ := a4 c hc
    dsimp only
    show _ ∧ (if (if ad c = i then j else if ad c = j then i else ad c) = j then meP S i else if (if ad c = i then j else if ad c = j then i else ad c) = i then meP S j else meP S (if ad c = i then j else if ad c = j then i else ad c)) = c
    by_cases e1 : ad c = i
    · rw [if_pos e1]
      refine ⟨hj, ?_⟩
      rw [if_pos rfl, ← e1]
      exact b2
    · rw [if_neg e1]
      by_cases e2 : ad c = j
      · rw [if_pos e2]
        refine ⟨hi, ?_⟩
        by_cases e3 : i = j
        · omega
        · rw [if_neg e3, if_pos rfl, ← e2]
          exact b2
      · rw [if_neg e2]
        refine ⟨b1, ?_⟩
        rw [if_neg e2, if_neg e1]
        exact b2
theorem layout_call (Co : COR w x h q m r N kn mn cnt pos B MM S H) (fs : ∀ b, hc w b < 10 → b < sz) (u0 u1 : Int32) : ACT w x h q m N kn mn sz B MM (fun sz w x => FX8_layout sz w x u0 u1) (fun w m => FX9_layout w m u0 u1) := by
  obtain ⟨c1, c2, c3, c4, c5, c6, V, c8⟩ := id Co
  obtain ⟨l1, l2, l3, l4, l5, l6, l7, l8, l9⟩ := id c1
  rcases idx (u := u0) (n := N) (by omega) with hu | ⟨i, hi', rfl⟩
  · refine ACT.no (z := -1) Co ?_ ?_
    · try dsimp only
      unfold FX8_layout
      exact E_c l1 (E_b l2 (E_b (ccell_no l3 hu) (E_t rfl rfl)))
    · try dsimp only
      unfold FX9_layout
      exact E_c l4 (E_b (rcell_no l4 l7 hu) (E_t rfl rfl))
  rcases idx (u := u1) (n := N) (by omega) with hu | ⟨j, hj', rfl⟩
  · refine ACT.no (z := -1) Co ?_ ?_
    · try dsimp only
      unfold FX8_layout
      exact E_c l1 (E_b l2 (E_b (ccell l3 l9 hi') (E_f i10 (E_b l2 (E_b (ccell_no l3 hu) (E_t rfl rfl))))))
    · try dsimp only
      unfold FX9_layout
      exact E_c l4 (E_b (rcell l4 l7 l9 hi') (E_f i10 (E_b (rcell_no l4 l7 hu) (E_t rfl rfl))))
  by_cases ij : i = j
  · subst ij
    refine ACT.no (z := -1) Co ?_ ?_
    · try dsimp only
      unfold FX8_layout
      exact E_c l1 (E_b l2 (E_b (ccell l3 l9 hi') (E_f i10 (E_b l2 (E_b (ccell l3 l9 hj') (E_f i10 (E_t rfl rfl)))))))
    · try dsimp only
      unfold FX9_layout
      exact E_c l4 (E_b (rcell l4 l7 l9 hi') (E_f i10 (E_b (rcell l4 l7 l9 hj') (E_f i10 (E_t rfl rfl)))))
  have ne : ¬ nI i = nI j := fun z => ij ((nI_eq (by omega) (by omega)).mp z)
  refine ACT.go (S' := meLay S i j) (Q8 := fun wa wb => wb = setA (setA wa q 10 i (nI (meP S j))) q 10 j (nI (meP S i))) (Q9 := fun wc wd => wd = setA (setA wc m 16 (4 + i) (nI (meP S j))) m 16 (4 + j) (nI (meP S i))) Co fs (V.lay hi' hj' l9) (fun wa ka Ma pa => ?_) (fun wc kc hN Rc => ?_) ?_
  · obtain ⟨wb, hwb⟩ : ∃ wb, wb = setA (setA wa q 10 i (nI (meP S j))) q 10 j (nI (meP S i)) := ⟨_, rfl⟩
    have f : Fr (fun b k => b = q ∧ k = 10) wa wb := by rw [hwb]; exact (Fr.sA ⟨rfl, rfl⟩).trans (Fr.sA ⟨rfl, rfl⟩)
    obtain ⟨m1, m2, m3, m4, m5, m6, m7, m8, m9, m10, m11, m12, m13⟩ := Ma
    refine ⟨wb, hwb, f.mono (fun b k z => z.1), ⟨by rw [f.c]; exact m1, by rw [f.i (by omega)]; exact m2, by rw [f.i (by omega)]; exact m3, by rw [f.i (by omega)]; exact m4, by rw [f.i (by omega)]; exact m5, by rw [f.i (by omega)]; exact m6, by rw [f.i (by omega)]; exact m7, by rw [f.i (by omega)]; exact m8, by rw [f.i (by omega)]; exact m9, by rw [f.i (by omega)]; exact m10, m11, fun k hk => ?_, by rw [f.ar (by omega)]; exact m13⟩, by rw [f.o (by omega)]; exact pa⟩
    rw [hwb, ha_setA, if_pos ⟨rfl, rfl⟩, ha_setA, if_pos ⟨rfl, rfl⟩]
    show (if k = j then nI (meP S i) else if k = i then nI (meP S j) else ha wa q 10 k) = nI (if k = j then meP S i else if k = i then meP S j else meP S k)
    split
    · rfl
    · split
      · rfl
      · exact m12 k hk
  · obtain ⟨wd, hwd⟩ : ∃ wd, wd = setA (setA wc m 16 (4 + i) (nI (meP S j))) m 16 (4 + j) (nI (meP S i)) := ⟨_, rfl⟩
    have f : Fr (fun b k => b = m ∧ k = 16) wc wd := by rw [hwd]; exact (Fr.sA ⟨rfl, rfl⟩).trans (Fr.sA ⟨rfl, rfl⟩)
    have e : ∀ k, ha wd m 16 k = if k = 4 + j then nI (meP S i) else if k = 4 + i then nI (meP S j) else ha wc m 16 k := by
      intro k
      rw [hwd, ha_setA, if_pos ⟨rfl, rfl⟩, ha_setA, if_pos ⟨rfl, rfl⟩]
      rfl
    have en : ∀ k, k < 4 ∨ 10 ≤ k → ha wd m 16 k = ha wc m 16 k := fun k hk => by rw [e, if_neg (by omega), if_neg (by omega)]
    obtain ⟨r1, r2, r3, r4, r5, r6, r7, r8, r9, r10⟩ := Rc
    refine ⟨wd, hwd, f.mono (fun b k z => ⟨z.1, Or.inl z.2⟩), ⟨by rw [en _ (by omega)]; exact r1, by rw [en _ (by omega)]; exact r2, by rw [en _ (by omega)]; exact r3, by rw [en _ (by omega)]; exact r4, fun k hk => ?_, by rw [en _ (by omega)]; exact r6, by rw [en _ (by omega)]; exact r7, by rw [en _ (by omega)]; exact r8, r9, fun k hk => by rw [en _ (by omega), en _ (by omega)]; exact r10 k hk⟩⟩
    rw [e]
    show _ = nI (if k = j then meP S i else if k = i then meP S j else meP S k)
    by_cases k1 : k = j
    · rw [if_pos (by omega), if_pos k1]
    · rw [if_neg (by omega), if_neg k1]
      by_cases k2 : k = i
      · rw [if_pos (by omega), if_pos k2]
      · rw [if_neg (by omega), if_neg k2]
        exact r5 k hk
  · intro wa mc ms wb wc wd f1 a5 ac Ma q8 b9 b5 Mb kb mi e3 Rc q9 Rd
    have mji : meP (meLay S i j) i = meP S j := by
      show (if i = j then meP S i else if i = i then meP S j else meP S i) = _
      rw [if_neg ij, if_pos rfl]
    refine ⟨nI (meP S j), ?_, ?_⟩
    · try dsimp only
      unfold FX8_layout
      refine E_c l1 (E_b l2 (E_b (ccell l3 l9 hi') (E_f i10 (E_b l2 (E_b (ccell l3 l9 hj') (E_f i10 (E_f ne (E_b c2.1 (E_b l2 (E_b f1 (bm0 (E_b a5 (E_b (a := ((), wb)) ?_ (E_b b5 (E_b (a := (nI (meP S j), wb)) ?_ rfl)))))))))))))))
      · unfold FX3_exchange
        have t10 := Ma.2.2.2.2.2.2.2.2.2.2.2.1
        rw [nI_clamp (by omega), nI_clamp (by omega), q8]
        refine E_c ac (E_b (ccell Ma l9 hi') (E_f i10 (E_b (ccell Ma l9 hj') (E_f i10 (E_i rfl (by omega) (by decide) (E_i rfl (by omega) (by decide) (E_i rfl (by omega) (by decide) (E_d (E_i rfl (by omega) (by decide) (E_d ?_))))))))))
        dsimp only
        rw [t10 i (by omega), t10 j (by omega)]
      · unfold FX3_cellOf
        have t10 := Mb.2.2.2.2.2.2.2.2.2.2.2.1 i (by omega)
        dsimp only
        rw [nI_clamp (by omega), t10, mji]
        exact E_c Mb.1 (E_f (nI_pos (by omega)) (E_f (nI_ge (b := 6) (by omega) (by decide)) (E_i rfl (by omega) (by decide) rfl)))
    · try dsimp only
      unfold FX9_layout
      have l7b : hi wb m 15 = nI N := by rw [(mi 15).1]; exact l7
      rw [show (4 : Int32) + nI i = nI (4 + i) from nI_add 4 i, show (4 : Int32) + nI j = nI (4 + j) from nI_add 4 j, nI_clamp (by omega), nI_clamp (by omega)]
      refine E_c b9 (E_b (rcell b9 l7b l9 hi') (E_f i10 (E_b (rcell b9 l7b l9 hj') (E_f i10 (E_f ne (E_b e3 (E_i rfl (by omega) (by decide) (E_i rfl (by omega) (by decide) (E_i rfl (by omega) (by decide) (E_d (E_i rfl (by omega) (by decide) (E_d (E_i rfl (by omega) (by decide) ?_)))))))))))))
      dsimp only
      rw [Rc.2.2.2.2.1 i (by omega), Rc.2.2.2.2.1 j (by omega), ← q9, Rd.2.2.2.2.1 i (by omega), mji]
end AE
