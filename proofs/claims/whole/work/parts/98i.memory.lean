/-! memory. -/
section AG
variable {w : HS} {x h q m r N kn mn cnt pos : Nat} {S : Me} {H : Nat → Me} {B : Nat → Book} {MM : Nat → Mch}
theorem begin_l2 : ∀ d i n w1, i + d = 6 → d < n → Fr (fun b k => b = q ∧ k = 10) w w1 → (∀ j, j < i → ha w1 q 10 j = nI j) → ∃ w' n', FX3_begin_16 n w1 q (nI i) = FX3_begin_16 (n' + 1) w' q (nI 6) ∧ Fr (fun b k => b = q ∧ k = 10) w w' ∧ ∀ j, j < 6 → ha w' q 10 j = nI j := by
  intro d
  induction d with
  | zero =>
    intro i n w1 he hn f1 h1
    obtain ⟨n, rfl⟩ : ∃ z, n = z + 1 := ⟨n - 1, by omega⟩
    have i6 : i = 6 := by omega
    subst i6
    exact ⟨w1, n, rfl, f1, h1⟩
  | succ d ih =>
    intro i n w1 he hn f1 h1
    obtain ⟨n, rfl⟩ : ∃ z, n = z + 1 := ⟨n - 1, by omega⟩
    obtain ⟨w', n', e', r'⟩ := ih (i + 1) n (setA w1 q 10 i (nI i)) (by omega) (by omega) (f1.trans (Fr.sA ⟨rfl, rfl⟩)) (fun j hj => by
      rw [ha_setA, if_pos ⟨rfl, rfl⟩]
      by_cases e : j = i
      · rw [e, upd_s]
      · rw [upd_n e]
        exact h1 j (by omega))
    refine ⟨w', n', ?_, r'⟩
    rw [FX3_begin_16, nI_clamp (by omega)]
    refine E_f (nI_ge (b := 6) (by omega) (by decide)) (E_i rfl (by omega) (by decide) (E_d ?_))
    rw [nI_1]
    exact e'
theorem sz_c : ∀ n, n < 7 → 2 ≤ n → (if (2 : Int32) < (if nI n < (6 : Int32) then nI n else (6 : Int32)) then (if nI n < (6 : Int32) then nI n else (6 : Int32)) else (2 : Int32)) = nI n := by decide +kernel
theorem begin_c (M : MV w q N S) {n : Nat} (n2 : 2 ≤ n) (n6 : n ≤ 6) : ∃ w', FX3_begin w q (nI n) = some ((), w') ∧ Fr (fun b _ => b = q) w w' ∧ MV w' q n me0 ∧ hp w' q 2 = none := by
  obtain ⟨m1, m2, m3, m4, m5, m6, m7, m8, m9, m10, m11, m12, m13⟩ := M
  obtain ⟨wa, hwa⟩ : ∃ wa, wa = setI w q 0 (nI n) := ⟨_, rfl⟩
  have fa : Fr (fun b k => b = q ∧ k = 0) w wa := by rw [hwa]; exact Fr.sI ⟨rfl, rfl⟩
  obtain ⟨wb, n', e', fb, mb⟩ := begin_l2 (w := wa) (q := q) 6 0 FUEL wa rfl (fuel_lt (by decide)) Fr.refl (fun j hj => absurd hj (Nat.not_lt_zero _))
  have F : Fr (fun b k => b = q ∧ (k = 0 ∨ k = 10)) w wb := (fa.mono (fun b k z => by omega)).trans (fb.mono (fun b k z => by omega))
  have Mb : MV wb q n (meC S, meK S, meA S, meV S, fun i => i, meR S, meH S, meF S, meN S, meX S, meY S) := ⟨by rw [F.c]; exact m1, by rw [fb.i (by omega), hwa, hi_setI, if_pos ⟨rfl, rfl⟩], by rw [F.i (by omega)]; exact m3, by rw [F.i (by omega)]; exact m4, by rw [F.i (by omega)]; exact m5, by rw [F.i (by omega)]; exact m6, by rw [F.i (by omega)]; exact m7, by rw [F.i (by omega)]; exact m8, by rw [F.i (by omega)]; exact m9, by rw [F.i (by omega)]; exact m10, m11, mb, by rw [F.ar (by omega)]; exact m13⟩
  obtain ⟨w', e2, f2, M2, p2⟩ := begin_end Mb mb n'
  refine ⟨w', ?_, (F.mono (fun b k z => z.1)).trans f2, M2, p2⟩
  unfold FX3_begin
  rw [sz_c n (by omega) n2]
  refine E_c m1 (E_d ?_)
  rw [← hwa]
  exact Eq.trans e' e2
theorem begins_z : ∀ d i n w1, i + d = 133 → d < n → Fr (fun b k => b = m ∧ k = 16) w w1 → (∀ j, j < i → ha w1 m 16 j = 0) → ∃ w' n', FX9_begins_7 n w1 m (nI i) = FX9_begins_7 (n' + 1) w' m (nI 133) ∧ Fr (fun b k => b = m ∧ k = 16) w w' ∧ ∀ j, j < 133 → ha w' m 16 j = 0 := by
  intro d
  induction d with
  | zero =>
    intro i n w1 he hn f1 h1
    obtain ⟨n, rfl⟩ : ∃ z, n = z + 1 := ⟨n - 1, by omega⟩
    have i6 : i = 133 := by omega
    subst i6
    exact ⟨w1, n, rfl, f1, h1⟩
  | succ d ih =>
    intro i n w1 he hn f1 h1
    obtain ⟨n, rfl⟩ : ∃ z, n = z + 1 := ⟨n - 1, by omega⟩
    obtain ⟨w', n', e', r'⟩ := ih (i + 1) n (setA w1 m 16 i 0) (by omega) (by omega) (f1.trans (Fr.sA ⟨rfl, rfl⟩)) (fun j hj => by
      rw [ha_setA, if_pos ⟨rfl, rfl⟩]
      by_cases e : j = i
      · rw [e, upd_s]
      · rw [upd_n e]
        exact h1 j (by omega))
    refine ⟨w', n', ?_, r'⟩
    rw [FX9_begins_7, nI_clamp (by omega)]
    refine E_f (nI_ge (b := 133) (by omega) (by decide)) (E_i rfl (by omega) (by decide) (E_d ?_))
    rw [nI_1]
    exact e'
theorem begins_r (h9 : hc w m = 9) (n : Nat) : ∃ w', FX9_begins w m (nI n) = some ((), w') ∧ Fr (fun b k => b = m ∧ (k = 15 ∨ k = 16 ∨ k = 19)) w w' ∧ hi w' m 15 = nI n ∧ hi w' m 19 = nI 0 ∧ RV (ha w' m 16) me0 := by
  obtain ⟨wa, hwa⟩ : ∃ wa, wa = setI w m 15 (nI n) := ⟨_, rfl⟩
  have fa : Fr (fun b k => b = m ∧ k = 15) w wa := by rw [hwa]; exact Fr.sI ⟨rfl, rfl⟩
  obtain ⟨wb, n', e', fb, zb⟩ := begins_z (w := wa) (m := m) 133 0 FUEL wa rfl (fuel_lt (by decide)) Fr.refl (fun j hj => absurd hj (Nat.not_lt_zero _))
  obtain ⟨wc, hwc⟩ : ∃ wc, wc = setA (setA (setA (setA (setA wb m 16 1 (-1)) m 16 2 (-1)) m 16 3 (-1)) m 16 10 (-1)) m 16 12 (-1) := ⟨_, rfl⟩
  have fc : Fr (fun b k => b = m ∧ k = 16) wb wc := by rw [hwc]; exact ((((Fr.sA ⟨rfl, rfl⟩).trans (Fr.sA ⟨rfl, rfl⟩)).trans (Fr.sA ⟨rfl, rfl⟩)).trans (Fr.sA ⟨rfl, rfl⟩)).trans (Fr.sA ⟨rfl, rfl⟩)
  have ec : ∀ j, ha wc m 16 j = if j = 12 then -1 else if j = 10 then -1 else if j = 3 then -1 else if j = 2 then -1 else if j = 1 then -1 else ha wb m 16 j := by
    intro j
    rw [hwc, ha_setA, if_pos ⟨rfl, rfl⟩, ha_setA, if_pos ⟨rfl, rfl⟩, ha_setA, if_pos ⟨rfl, rfl⟩, ha_setA, if_pos ⟨rfl, rfl⟩, ha_setA, if_pos ⟨rfl, rfl⟩]
    rfl
  obtain ⟨wd, ed, fd, d19, dn, dm⟩ := begins_map (w := wc) (m := m) 6 0 FUEL wc rfl (fuel_lt (by decide)) Fr.refl (fun j _ => rfl) (fun j hj => absurd hj (Nat.not_lt_zero _))
  have e0 : ha wd m 16 0 = 0 := by rw [dn 0 (by omega), ec]; exact zb 0 (by decide)
  refine ⟨wd, ?_, ((fa.mono (fun b k z => by omega)).trans (fb.mono (fun b k z => by omega))).trans ((fc.mono (fun b k z => by omega)).trans (fd.mono (fun b k z => by omega))), ?_, d19, ⟨by rw [e0]; rfl, by rw [dn 1 (by omega), ec]; rfl, by rw [dn 2 (by omega), ec]; rfl, by rw [dn 3 (by omega), ec]; rfl, dm, by rw [dn 10 (by omega), ec]; rfl, fun z => absurd rfl z, by rw [dn 12 (by omega), ec]; rfl, Nat.zero_le _, fun i hi => absurd hi (Nat.not_lt_zero _)⟩⟩
  · unfold FX9_begins
    refine E_c h9 (E_d ?_)
    rw [← hwa]
    refine Eq.trans e' ?_
    rw [FX9_begins_7]
    refine E_t (by decide) (E_d (E_d (E_d (E_d (E_d ?_)))))
    rw [← hwc]
    exact ed
  · rw [fd.i (by omega), fc.i (by omega), fb.i (by omega), hwa, hi_setI, if_pos ⟨rfl, rfl⟩]
theorem vs0 (kn mn N : Nat) (B : Nat → Book) (MM : Nat → Mch) (N6 : N ≤ 6) : VS kn mn N B MM me0 := by
  refine ⟨by decide, fun k hk => (by cases hk), Or.inl ⟨rfl, rfl, rfl⟩, fun z => (by cases z), ⟨fun i => i, fun i hi => hi, fun i hi => hi, fun i _ j _ e => e, fun c hc => ⟨hc, rfl⟩⟩, ⟨fun _ => rfl, fun f hf => (by cases hf), fun i hi => absurd hi (Nat.not_lt_zero _)⟩, ⟨fun _ => rfl, fun _ => rfl⟩, fun mi hm => (by cases hm)⟩
theorem memory_call (Co : COR w x h q m r N kn mn cnt pos B MM S H) (u : Int32) : ∃ z w1 w2 N' S' cnt' pos' H', FX8_memory w x u = some (z, w1) ∧ FX9_memory w1 m u = some (z, w2) ∧ Ke (PAc w h m) w w2 ∧ AFT w2 x h q m N' kn mn cnt' pos' B MM S' H' := by
  obtain ⟨c1, c2, c3, c4, c5, c6, V, c8⟩ := id Co
  obtain ⟨l1, l2, l3, l4, l5, l6, l7, l8, l9⟩ := id c1
  have i2 := is_in w u 2 6
  rw [show (2 : Int32).toInt64 = 2 from by decide, show (6 : Int32).toInt64 = 6 from by decide] at i2
  by_cases hu : u < 2 ∨ 6 < u
  · rw [if_pos hu] at i2
    refine ⟨0, w, w, N, S, cnt, pos, H, ?_, ?_, Ke.refl, c1, c4, c2, c3, V, c8⟩
    · unfold FX8_memory
      refine E_c l1 ?_
      by_cases z : u < 2
      · exact E_t z rfl
      · refine E_f z (E_f ?_ rfl)
        have := hu.resolve_left z
        rw [lt_i] at this
        rw [le_i]
        omega
    · unfold FX9_memory
      exact E_c l4 (E_b i2 (E_t rfl rfl))
  · rw [if_neg hu] at i2
    have h2 : ¬ u < 2 := fun z => hu (Or.inl z)
    have h6 : u ≤ 6 := by
      have : ¬ 6 < u := fun z => hu (Or.inr z)
      rw [lt_i] at this
      rw [le_i]
      omega
    obtain ⟨n, hn2, hn6, rfl⟩ : ∃ n, 2 ≤ n ∧ n ≤ 6 ∧ u = nI n := by
      have h0 : ¬ u < 0 := by
        intro z
        rw [lt_i] at z h2
        have e0 : (0 : Int32).toInt = 0 := by decide
        have e2 : (2 : Int32).toInt = 2 := by decide
        omega
      obtain ⟨j, j1, rfl⟩ := nI_of h0
      refine ⟨j, ?_, ?_, rfl⟩
      · by_cases z : j < 2
        · exact absurd (nI_lt (b := 2) z (by decide)) h2
        · omega
      · by_cases z : 6 < j
        · exact absurd h6 (nI_ge (a := 6) z j1)
        · omega
    have q3 := l3.1
    have h0 := c2.2.1
    have qx : q ≠ x := by intro e; rw [e, l1] at q3; cases q3
    have qm : q ≠ m := by intro e; rw [e, l4] at q3; cases q3
    have hx : h ≠ x := by intro e; rw [e, l1] at h0; cases h0
    have hm : h ≠ m := by intro e; rw [e, l4] at h0; cases h0
    have xm : x ≠ m := by intro e; rw [e, l4] at l1; cases l1
    have hqq : h ≠ q := by intro e; rw [e, q3] at h0; cases h0
    obtain ⟨wa, ea, fa, Ma, pa⟩ := begin_c l3 hn2 hn6
    obtain ⟨wb, hwb⟩ : ∃ wb, wb = setI wa h 0 0 := ⟨_, rfl⟩
    have fb : Fr (fun b k => b = h ∧ k = 0) wa wb := by rw [hwb]; exact Fr.sI ⟨rfl, rfl⟩
    have F1 : Fr (fun b k => b = q ∨ (b = h ∧ k = 0)) w wb := (fa.mono (fun b k z => Or.inl z)).trans (fb.mono (fun b k z => Or.inr z))
    obtain ⟨wc, ec, fc, c15, c19, Rc⟩ := begins_r (w := wb) (m := m) (by rw [F1.c]; exact l4) n
    have F : Fr (fun b k => b = q ∨ (b = h ∧ k = 0) ∨ (b = m ∧ (k = 15 ∨ k = 16 ∨ k = 19))) w wc := (F1.mono (fun b k z => by omega)).trans (fc.mono (fun b k z => by omega))
    have K : Ke (PAc w h m) w wc := (Ke.of F).mono (fun b k z => by
      rcases z with z | z | z
      · exact Or.inr (Or.inl (by rw [z]; exact q3))
      · exact Or.inl z.1
      · exact Or.inr (Or.inr ⟨z.1, by omega⟩))
    have nm : ∀ {k}, ¬ (m = h ∧ k = 0) := fun z => hm z.1.symm
    have Mc : MV wc q n me0 := (Ma.ke (Ke.of fb) (fun k z => hqq z.1.symm)).ke (Ke.of fc) (fun k z => qm z.1)
    obtain ⟨v1, v2, v3, v4, v5, v6, v7, v8, v9⟩ := c2
    refine ⟨1, wb, wc, n, me0, 0, pos, H, ?_, ?_, K, ⟨by rw [F.c]; exact l1, by rw [F.o (by omega)]; exact l2, Mc, by rw [F.c]; exact l4, Rc, (vs0 kn mn n B MM hn6).2.2.2.2.2.1, c15, hn2, hn6⟩, ?_, ⟨by rw [F.o (by omega)]; exact v1, by rw [F.c]; exact v2, ?_, by rw [F.i (by omega)]; exact v4, by decide, v6, ?_, ?_, fun i hi => absurd hi (Nat.not_lt_zero _)⟩, ⟨c19, by decide, fun i hi => absurd hi (Nat.not_lt_zero _)⟩, vs0 kn mn n B MM hn6, fun i hi => absurd hi (Nat.not_lt_zero _)⟩
    · unfold FX8_memory
      refine E_c l1 (E_f h2 (E_t h6 (E_b l2 (E_b ea ?_))))
      dsimp only
      refine E_b (show hp wa x 6 = some h by rw [fa.o (fun z => qx z.symm)]; exact v1) (E_b (a := ((), wb)) ?_ rfl)
      unfold FX0_forget
      refine E_c (by rw [fa.c]; exact v2) (E_d ?_)
      rw [← hwb]
    · unfold FX9_memory
      have i2b := is_in wb (nI n) 2 6
      rw [show (2 : Int32).toInt64 = 2 from by decide, show (6 : Int32).toInt64 = 6 from by decide, if_neg hu] at i2b
      exact E_c (by rw [F1.c]; exact l4) (E_b i2b (E_f i10 (E_b ec rfl)))
    · have p2 : hp wc q 2 = none := by rw [fc.o (fun z => qm z.1), fb.o (fun z => hqq z.1.symm)]; exact pa
      rw [p2]
      rfl
    · rw [fc.i (fun z => hm z.1), hwb, hi_setI, if_pos ⟨rfl, rfl⟩]; rfl
    · intro s hs o ho
      rw [F.qq (by omega)] at ho
      rw [F.c]
      exact v7 s hs o ho
    · intro s hs s' hs' o ho ho'
      rw [F.qq (by omega)] at ho ho'
      exact v8 s hs s' hs' o ho ho'
end AG
