/-! The search: a state arrives, class, to its end. -/
/-- class: the way to the last state stands -/
def CRf (w : HS) (s : Nat) (P : PBs) : Prop := hc w s = 4 ∧ STk w s 78 ∧ hi w s 9 = nI (pN P) ∧ pN P ≤ 1200 ∧ 0 < pN P ∧ (∀ i, 0 < i → i ≤ pN P → ha w s 12 i = nI (pP P i) ∧ ha w s 13 i = nI (pB P i) ∧ pP P i < i ∧ pB P i < 78) ∧ ∀ i, i < pN P → ha w s 11 i = nI (pS P i).1 ∧ (pS P i).1 < 3
section AS2
variable {w : HS} {s K k s0 C : Nat} {ks : Nat → Nat} {bk : Nat → Book} {P : PBs}
theorem HTs.fr {w' : HS} {n : Nat} (H : HTs w s K n) (e14 : ha w' s 14 = ha w s 14) (hv : ∀ i, i < n → hvS w' s K i = hvS w s K i) : HTs w' s K n := by
  obtain ⟨h1, h2, h3⟩ := H
  refine ⟨by rw [e14]; exact h1, by rw [e14]; exact h2, fun i hi' => ?_⟩
  rw [e14, hv i hi']
  exact h3 i hi'
theorem inP_iff {K : Nat} {P : PBs} {a : AS} : inP K P a = true ↔ ∃ i, i < pN P ∧ eqS K (pS P i) a = true := by
  unfold inP
  rw [fsN_isSome]
  constructor
  · rintro ⟨c, _, c1, c2⟩
    exact ⟨c, by omega, c2⟩
  · rintro ⟨c, c1, c2⟩
    exact ⟨c, Nat.zero_le _, by omega, c2⟩
theorem arrive_c (R : CRp w s K ks bk P) (hs0 : s0 < pN P) (k78 : k < 78) : ∃ w', FX4_arrive w s (nI s0) (nI k) = some (nI (arrP K bk P s0 k C).1, w') ∧ Fr (PAr s) w w' ∧ ((arrP K bk P s0 k C).1 ≠ 1 → CRp w' s K ks bk (arrP K bk P s0 k C).2) ∧ ((arrP K bk P s0 k C).1 = 1 → CRf w' s (arrP K bk P s0 k C).2) := by
  obtain ⟨s4, T, h8, K8, K0, hk, h9, n12, n0, rows, links, ht⟩ := id R
  have r0 := rows s0 hs0
  have sd3 := r0.2.1
  unfold FX4_arrive arrP
  cases ok : okS k (pS P s0).1 with
  | false =>
    rw [if_pos rfl]
    refine ⟨w, ?_, Fr.refl, fun _ => R, fun z => absurd z (show ¬ (0 : Nat) = 1 from by decide)⟩
    refine E_c s4 ?_
    obtain ⟨k7, k8, mv⟩ := hk 0 K0
    have y1 := (mv (pS P s0).1 sd3 k k78).2 ok
    show FX4_arrive_5 (9999 + 1) w s (nI s0) (nI k) 1 (nI 0) = _
    rw [FX4_arrive_5, h8, nI_clamp (n := 0) (by omega), nI_clamp (n := s0) (by omega), k7, r0.1, show (((nI (ks 0) * (3 : Int32)) + nI (pS P s0).1) * (78 : Int32)) + nI k = nI (234 * ks 0 + 78 * (pS P s0).1 + k) from by rw [l3_, nI_mul, nI_add, l78_, nI_mul, nI_add, show (ks 0 * 3 + (pS P s0).1) * 78 + k = 234 * ks 0 + 78 * (pS P s0).1 + k from by omega], nI_clamp (n := 234 * ks 0 + 78 * (pS P s0).1 + k) (by omega), y1]
    exact E_f (nI_ge (by omega) (by omega)) (E_i rfl (by omega) (by decide) (E_i rfl (by omega) (by decide) (E_i rfl (by omega) (by decide) (E_t rfl rfl))))
  | true =>
    rw [if_neg (by decide)]
    obtain ⟨a, ha'⟩ : ∃ a, a = nxA bk (pS P s0) k := ⟨_, rfl⟩
    obtain ⟨w1, m', e1, F1, O1, E1⟩ := arr5 (s0 := s0) R hs0 k78 ok K 0 FUEL w 1 (by omega) (fuel_lt (by omega)) Fr.refl (fun i _ => rfl) (fun j' hj2 => absurd hj2 (Nat.not_lt_zero _)) (by rw [if_pos (fun i hi' => absurd hi' (by omega))])
    rw [← ha'] at e1 E1 ⊢
    have asd : a.1 = sdI k (pS P s0).1 (sLn k) := by rw [ha']; rfl
    have a3 : a.1 < 3 := by rw [asd]; exact sdI_le sd3 _
    have s41 : hc w1 s = 4 := by rw [F1.c]; exact s4
    have T1 := T.fr F1 (by omega) (by omega) (by omega)
    have sb := sb_c (k := k) s41 T1 k78 sd3
    have i9 : hi w1 s 9 = nI (pN P) := by rw [F1.i (by omega)]; exact h9
    obtain ⟨w2, hw2⟩ : ∃ w2, w2 = setA w1 s 11 (pN P) (nI a.1) := ⟨_, rfl⟩
    obtain ⟨w3, hw3⟩ : ∃ w3, w3 = setA w2 s 12 (pN P) (nI s0) := ⟨_, rfl⟩
    obtain ⟨w4, hw4⟩ : ∃ w4, w4 = setA w3 s 13 (pN P) (nI k) := ⟨_, rfl⟩
    have f2 : Fr (fun b i => b = s ∧ i = 11) w1 w2 := by rw [hw2]; exact Fr.sA ⟨rfl, rfl⟩
    have f3 : Fr (fun b i => b = s ∧ i = 12) w2 w3 := by rw [hw3]; exact Fr.sA ⟨rfl, rfl⟩
    have f4 : Fr (fun b i => b = s ∧ i = 13) w3 w4 := by rw [hw4]; exact Fr.sA ⟨rfl, rfl⟩
    have F4 : Fr (fun b i => b = s ∧ 10 ≤ i ∧ i ≤ 13) w w4 := (((F1.mono (fun b i z => by omega)).trans (f2.mono (fun b i z => by omega))).trans (f3.mono (fun b i z => by omega))).trans (f4.mono (fun b i z => by omega))
    have i92 : hi w2 s 9 = nI (pN P) := by rw [f2.i (by omega)]; exact i9
    have i93 : hi w3 s 9 = nI (pN P) := by rw [f3.i (by omega)]; exact i92
    have i94 : hi w4 s 9 = nI (pN P) := by rw [f4.i (by omega)]; exact i93
    have e11 : ∀ i, ha w4 s 11 i = if i = pN P then nI a.1 else ha w s 11 i := by
      intro i
      rw [f4.ar (by omega), f3.ar (by omega), hw2, ha_setA, if_pos ⟨rfl, rfl⟩, F1.ar (by omega)]
      rfl
    have e12 : ∀ i, ha w4 s 12 i = if i = pN P then nI s0 else ha w s 12 i := by
      intro i
      rw [f4.ar (by omega), hw3, ha_setA, if_pos ⟨rfl, rfl⟩, f2.ar (by omega), F1.ar (by omega)]
      rfl
    have e13 : ∀ i, ha w4 s 13 i = if i = pN P then nI k else ha w s 13 i := by
      intro i
      rw [hw4, ha_setA, if_pos ⟨rfl, rfl⟩, f3.ar (by omega), f2.ar (by omega), F1.ar (by omega)]
      rfl
    have e10 : ha w4 s 10 = ha w1 s 10 := by rw [f4.ar (by omega), f3.ar (by omega), f2.ar (by omega)]
    have s44 : hc w4 s = 4 := by rw [F4.c]; exact s4
    have T4 := T.fr F4 (by omega) (by omega) (by omega)
    have old : ∀ i, i < pN P → (ha w4 s 11 i = ha w s 11 i ∧ ∀ j, j < K → ha w4 s 10 (8 * i + j) = ha w s 10 (8 * i + j)) := fun i hi' => ⟨by rw [e11, if_neg (by omega)], fun j hj' => by rw [e10]; exact O1 _ (by omega)⟩
    have rows4 : ∀ i, i < pN P → CRow w4 s K i (pS P i) := fun i hi' => (rows i hi').fr (old i hi').1 (old i hi').2
    have rown : CRow w4 s K (pN P) a := ⟨by rw [e11, if_pos rfl], a3, fun j hj' => by
      obtain ⟨c, c1, c2⟩ := E1 j hj'
      exact ⟨c, by rw [e10]; exact c1, c2⟩⟩
    have ht4 : HTs w4 s K (pN P) := ht.fr (F4.ar (by omega)) (fun i hi' => hvS_fr (old i hi').1 (old i hi').2)
    have links4 : ∀ i, 0 < i → i < pN P → ha w4 s 12 i = nI (pP P i) ∧ ha w4 s 13 i = nI (pB P i) ∧ pP P i < i ∧ pB P i < 78 := fun i i0 hi' => by rw [e12, e13, if_neg (by omega), if_neg (by omega)]; exact links i i0 hi'
    have ks4 : ∀ j, j < K → ha w4 s 7 j = nI (ks j) ∧ ks j < 8 ∧ MVc w4 s (ks j) (bk j) := fun j hj' => by
      obtain ⟨x1, x2, x3⟩ := hk j hj'
      exact ⟨by rw [F4.ar (by omega)]; exact x1, x2, x3.o (fun i _ _ => by rw [F4.ar (by omega)])⟩
    have R4 : CRp w4 s K ks bk P := ⟨s44, T4, by rw [F4.i (by omega)]; exact h8, K8, K0, ks4, i94, n12, n0, rows4, links4, ht4⟩
    have FP : Fr (PAr s) w w4 := F4.mono (fun b i z => by unfold PAr; omega)
    -- the end of the row
    have pre : ∀ (ov : Int32) z, (if ov = 0 then ((FX4_slotOf w4 s (nI (pN P))).bind fun q23 => (okb (inb q23.1 4096) (if (ha q23.2 s 14 q23.1.toNatClampNeg) = 0 then (if (hi q23.2 s 9) < (1200 : Int32) then (bnd (setI q23.2 s 9 ((hi q23.2 s 9) + (1 : Int32))) fun w30 => (okb (inb q23.1 4096) (bnd (setA w30 s 14 q23.1.toNatClampNeg (hi w30 s 9)) fun w37 => (some ((0 : Int32), w37))))) else (some ((2 : Int32), q23.2))) else (some ((0 : Int32), q23.2))))) else (some ((1 : Int32), w4))) = z → FX4_arrive_5 (m' + 1) w1 s (nI s0) (nI k) ov (nI K) = z := by
      intro ov z hz
      have h81 : hi w1 s 8 = nI K := by rw [F1.i (by omega)]; exact h8
      rw [FX4_arrive_5, h81]
      refine E_t (nI_le (Nat.le_refl _) (by omega)) (E_i rfl (show s0 < 1201 by omega) (by decide) ?_)
      rw [nI_clamp (n := s0) (by omega), F1.ar (by omega), r0.1]
      refine E_b sb ?_
      dsimp only
      rw [i9, ← asd, nI_clamp (n := pN P) (by omega)]
      refine E_i rfl (show pN P < 1201 by omega) (by decide) (E_d ?_)
      rw [← hw2, i92, nI_clamp (n := pN P) (by omega)]
      refine E_i rfl (show pN P < 1201 by omega) (by decide) (E_d ?_)
      rw [← hw3, i93, nI_clamp (n := pN P) (by omega)]
      refine E_i rfl (show pN P < 1201 by omega) (by decide) (E_d ?_)
      rw [← hw4, i94]
      exact hz
    by_cases af : allF K a = true
    · rw [if_pos af] at e1 ⊢
      refine ⟨w4, E_c s4 (Eq.trans e1 (pre 1 _ (E_f i10 rfl))), FP, fun z => absurd rfl z, fun _ => ?_⟩
      show CRf w4 s (putP P a s0 k C)
      refine ⟨s44, T4, i94, n12, n0, fun i i0 hi' => ?_, fun i hi' => ?_⟩
      · show ha w4 s 12 i = nI (if i = pN P then s0 else pP P i) ∧ ha w4 s 13 i = nI (if i = pN P then k else pB P i) ∧ (if i = pN P then s0 else pP P i) < i ∧ (if i = pN P then k else pB P i) < 78
        have hi2 : i ≤ pN P := hi'
        by_cases e : i = pN P
        · rw [e12, e13, if_pos e, if_pos e, if_pos e, if_pos e]
          exact ⟨rfl, rfl, by omega, k78⟩
        · rw [if_neg e, if_neg e]
          exact links4 i i0 (by omega)
      · show ha w4 s 11 i = nI (if i = pN P then a else pS P i).1 ∧ (if i = pN P then a else pS P i).1 < 3
        have hi2 : i < pN P := hi'
        rw [if_neg (by omega)]
        exact ⟨(rows4 i hi2).1, (rows4 i hi2).2.1⟩
    · rw [if_neg af] at e1 ⊢
      obtain ⟨p, p4, es, alt⟩ := slot_c (r := pN P) (sm := fun i => eqS K (pS P i) a) s44 (by rw [F4.i (by omega)]; exact h8) K8 n12 ht4 n12 (fun i hi' => same_c s44 (by rw [F4.i (by omega)]; exact h8) K8 (by omega) n12 (rows4 i hi') rown) (fun i hi' e => (rows4 i hi').hv rown e)
      have ev : ∀ z, (okb (inb (nI p) 4096) (if (ha w4 s 14 (nI p).toNatClampNeg) = 0 then (if (hi w4 s 9) < (1200 : Int32) then (bnd (setI w4 s 9 ((hi w4 s 9) + (1 : Int32))) fun w30 => (okb (inb (nI p) 4096) (bnd (setA w30 s 14 (nI p).toNatClampNeg (hi w30 s 9)) fun w37 => (some ((0 : Int32), w37))))) else (some ((2 : Int32), w4))) else (some ((0 : Int32), w4)))) = z → okb (hc w s == 4) (FX4_arrive_5 FUEL w s (nI s0) (nI k) 1 0) = z := fun z hz => E_c s4 (Eq.trans e1 (pre 0 _ (E_t rfl (E_b es hz))))
      rcases alt with ⟨i, i1, i2, i3⟩ | ⟨z0, zs, d, d4, hp, path⟩
      · have inn : inP K P a = true := inP_iff.mpr ⟨i, i1, i2⟩
        rw [if_pos inn]
        refine ⟨w4, ev _ (E_i rfl p4 (by decide) (E_f ?_ rfl)), FP, fun _ => R4, fun z => absurd z (show ¬ (0 : Nat) = 1 from by decide)⟩
        rw [nI_clamp (by omega), i3]
        exact nI_ne0 (by omega) (by omega)
      · have inn : ¬ inP K P a = true := by
          rw [inP_iff]
          rintro ⟨i, i1, i2⟩
          have := zs i i1
          rw [i2] at this
          cases this
        rw [if_neg inn]
        have z0' : ha w4 s 14 (nI p).toNatClampNeg = 0 := by rw [nI_clamp (by omega)]; exact z0
        by_cases full : 1200 ≤ pN P
        · rw [if_pos full]
          refine ⟨w4, ev _ (E_i rfl p4 (by decide) (E_t z0' (E_f ?_ rfl))), FP, fun _ => R4, fun z => absurd z (show ¬ (2 : Nat) = 1 from by decide)⟩
          rw [i94]
          exact nI_nlt (b := 1200) full (by omega)
        · rw [if_neg full]
          obtain ⟨w5, hw5⟩ : ∃ w5, w5 = setI w4 s 9 (nI (pN P + 1)) := ⟨_, rfl⟩
          obtain ⟨w6, hw6⟩ : ∃ w6, w6 = setA w5 s 14 p (nI (pN P + 1)) := ⟨_, rfl⟩
          have f5 : Fr (fun b i => b = s ∧ i = 9) w4 w5 := by rw [hw5]; exact Fr.sI ⟨rfl, rfl⟩
          have f6 : Fr (fun b i => b = s ∧ i = 14) w5 w6 := by rw [hw6]; exact Fr.sA ⟨rfl, rfl⟩
          have f46 : Fr (fun b i => b = s ∧ (i = 9 ∨ i = 14)) w4 w6 := (f5.mono (fun b i z => by omega)).trans (f6.mono (fun b i z => by omega))
          have i95 : hi w5 s 9 = nI (pN P + 1) := by rw [hw5, hi_setI, if_pos ⟨rfl, rfl⟩]
          have e14 : ∀ q, ha w6 s 14 q = if q = p then nI (pN P + 1) else ha w4 s 14 q := by
            intro q
            rw [hw6, ha_setA, if_pos ⟨rfl, rfl⟩, f5.ar (by omega)]
            rfl
          have g11 : ha w6 s 11 = ha w4 s 11 := f46.ar (by omega)
          have g10 : ha w6 s 10 = ha w4 s 10 := f46.ar (by omega)
          have ht6 : HTs w6 s K (pN P + 1) := ht4.ins n12 p4 z0 d4 hp path e14 (fun i _ => hvS_fr (by rw [g11]) (fun j _ => by rw [g10]))
          refine ⟨w6, ev _ (E_i rfl p4 (by decide) (E_t z0' (E_t ?_ (E_d (E_i rfl p4 (by decide) (E_d ?_)))))), FP.trans (f46.mono (fun b i z => by unfold PAr; omega)), fun _ => ?_, fun z => absurd z (show ¬ (0 : Nat) = 1 from by decide)⟩
          · rw [i94]
            exact nI_lt (b := 1200) (by omega) (by decide)
          · rw [i94, nI_1, ← hw5, i95, nI_clamp (by omega), ← hw6]
            rfl
          · show CRp w6 s K ks bk (incP (putP P a s0 k C))
            have rows6 : ∀ i x, CRow w4 s K i x → CRow w6 s K i x := fun i x h => h.fr (by rw [g11]) (fun j _ => by rw [g10])
            refine ⟨by rw [f46.c]; exact s44, T4.fr f46 (by omega) (by omega) (by omega), by rw [f46.i (by omega), F4.i (by omega)]; exact h8, K8, K0, fun j hj' => ?_, ?_, ?_, ?_, fun i hi' => ?_, fun i i0 hi' => ?_, ht6⟩
            · obtain ⟨x1, x2, x3⟩ := ks4 j hj'
              exact ⟨by rw [f46.ar (by omega)]; exact x1, x2, x3.o (fun i _ _ => by rw [f46.ar (by omega)])⟩
            · rw [f6.i (by omega)]; exact i95
            · show pN P + 1 ≤ 1200
              omega
            · show 0 < pN P + 1
              omega
            · have hi2 : i < pN P + 1 := hi'
              show CRow w6 s K i (if i = pN P then a else pS P i)
              by_cases e : i = pN P
              · rw [if_pos e, e]
                exact rows6 _ _ rown
              · rw [if_neg e]
                exact rows6 _ _ (rows4 i (by omega))
            · have hi2 : i < pN P + 1 := hi'
              show ha w6 s 12 i = nI (if i = pN P then s0 else pP P i) ∧ ha w6 s 13 i = nI (if i = pN P then k else pB P i) ∧ (if i = pN P then s0 else pP P i) < i ∧ (if i = pN P then k else pB P i) < 78
              rw [f46.ar (by omega), f46.ar (by omega)]
              by_cases e : i = pN P
              · rw [e12, e13, if_pos e, if_pos e, if_pos e, if_pos e]
                exact ⟨rfl, rfl, by omega, k78⟩
              · rw [if_neg e, if_neg e]
                exact links4 i i0 (by omega)
end AS2
