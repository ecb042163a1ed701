/-! The search: the class's answers. -/
theorem w128 : ∀ f, f < 128 → (((100 : Int32) * (nI f >>> ((3 : Int32) &&& 31))) + ((10 : Int32) * ((nI f >>> ((2 : Int32) &&& 31)) &&& (1 : Int32)))) + (nI f &&& (3 : Int32)) = nI (100 * (f / 8) + 10 * (f / 4 % 2) + f % 4) := by decide +kernel
theorem su7 : ∀ k, k < 9 → ((nI (7 * k)).toInt64.toUInt64 &&& Int64.toUInt64 63) = UInt64.ofNat (7 * k) := by decide +kernel
theorem jN_7 {X k : Nat} (hX : X < 2 ^ 63) (k9 : k < 9) : ((jN X).toUInt64 >>> ((nI (7 * k)).toInt64.toUInt64 &&& Int64.toUInt64 63)).toInt64.toInt32 &&& (127 : Int32) = nI (dh X k) := by
  rw [su7 k k9]
  apply Int32.toBitVec_inj.mp
  rw [Int32.toBitVec_and]
  apply BitVec.eq_of_toNat_eq
  rw [BitVec.toNat_and]
  have e1 : (((jN X).toUInt64 >>> UInt64.ofNat (7 * k)).toInt64.toInt32).toBitVec.toNat = X / 2 ^ (7 * k) % 2 ^ 32 := by
    show (((jN X).toUInt64 >>> UInt64.ofNat (7 * k)).toBitVec.signExtend 32).toNat = _
    rw [BitVec.signExtend_eq_setWidth_of_le _ (by decide), BitVec.toNat_setWidth]
    congr 1
    show ((jN X).toUInt64 >>> UInt64.ofNat (7 * k)).toNat = _
    rw [UInt64.toNat_shiftRight, UInt64.toNat_ofNat_of_lt' (show 7 * k < UInt64.size from Nat.lt_of_lt_of_le (show 7 * k < 64 by omega) (by decide)), Nat.mod_eq_of_lt (show 7 * k < 64 by omega), Nat.shiftRight_eq_div_pow]
    congr 1
    show (BitVec.ofNat 64 X).toNat = X
    rw [BitVec.toNat_ofNat, Nat.mod_eq_of_lt (by omega)]
  rw [e1]
  show X / 2 ^ (7 * k) % 2 ^ 32 &&& 127 = (dh X k) % 2 ^ 32
  have d1 : dh X k < 128 := Nat.mod_lt _ (by decide)
  rw [Nat.mod_eq_of_lt (show dh X k < 2 ^ 32 by omega), show (127 : Nat) = 2 ^ 7 - 1 from rfl, Nat.and_two_pow_sub_one_eq_mod]
  unfold dh
  rw [e128]
  omega
/-- what is told of op k -/
def wkV (f : Nat) : Nat := 100 * (f / 8) + 10 * (f / 4 % 2) + f % 4
theorem bmw_s {α : Type} {c s a b a' b' : Nat} {y : Option (α × HS × Nat × Nat)} {z : α} {w : HS} (h : y = some (z, w, a, b)) (h1 : a + c = a') (h2 : b + s = b') : bmw c s y = some (z, w, a', b') := by
  subst h1 h2
  exact bmw_e h
section SA
variable {w : HS} {s x r kn mn z sz : Nat} {B : Nat → Book} {MM : Nat → Mch}
theorem walked_c (s4 : hc w s = 4) (z256 : z < 256) (A : ANS w s B z) (o : (srB B z).1 = 1) {k : Nat} (hk : k < (srB B z).2.1) : FX4_walkedOp w s (nI z) (nI k) = some (nI (wkV (opP (srB B z).2.2 (pN (srB B z).2.2) k)), w) := by
  obtain ⟨c0, c9, X, x1, x2, x3⟩ := A.2 o
  have d := x3 k hk
  have d1 : dh X k < 128 := Nat.mod_lt _ (by decide)
  unfold FX4_walkedOp
  rw [nI_clamp (by omega), x1, show (7 : Int32) * nI k = nI (7 * k) from by rw [l7_, nI_mul], jN_7 (by rw [show (128 : Nat) ^ 9 = 2 ^ 63 from by decide] at x2; exact x2) (by omega), w128 _ d1, d]
  exact E_c s4 (E_f (nI_pos (by omega)) (E_f (nI_ge (b := 256) z256 (by decide)) (E_f (nI_pos (by omega)) (E_t (nI_lt (b := 9) (by omega) (by decide)) (E_i rfl z256 (by decide) rfl)))))
theorem solve_c (I : SIv w s kn B) (C : CX w x r kn mn B MM) (z0 : 0 < z) (zk : z < 2 ^ kn) : ∃ w', FX4_solve w s (nI z) x = some ((), w') ∧ Fr (fun b _ => b = s) w w' ∧ SIv w' s kn B ∧ ANS w' s B z := by
  obtain ⟨s4, T, L, an⟩ := I
  have kn8 := C.2.2.2.2.1
  have z256 : z < 256 := Nat.lt_of_lt_of_le zk (by
    have : 2 ^ kn ≤ 2 ^ 8 := Nat.pow_le_pow_right (by decide) kn8
    exact this)
  have wb : ∀ j, WB (bkZ B z j) := fun j => by
    obtain ⟨b1, b2⟩ := ks_bit z256 z0 j
    obtain ⟨_, _, _, W⟩ := C.2.2.2.2.2.2.2.1 _ (bt_kn kn (by omega) z zk _ b1 b2)
    exact W
  have nle : ¬ nI z ≤ 0 := nI_nle z0 (by omega)
  have n256 : ¬ (256 : Int32) ≤ nI z := nI_ge (b := 256) z256 (by decide)
  rcases an z z256 with a | ⟨_, _, A⟩
  · obtain ⟨w1, hw1⟩ : ∃ w1, w1 = setI w s 8 0 := ⟨_, rfl⟩
    have f1 : Fr (fun b j => b = s ∧ j = 8) w w1 := by rw [hw1]; exact Fr.sI ⟨rfl, rfl⟩
    have s41 : hc w1 s = 4 := by rw [f1.c]; exact s4
    have x8 : hc w1 x = 8 := by rw [f1.c]; exact C.1
    have xs : x ≠ s := by intro e; have := C.1; rw [e, s4] at this; cases this
    have L1 : LKd w1 s kn B := by
      obtain ⟨y, y1, y2, y3⟩ := L
      exact ⟨y, y1, by rw [f1.i (by omega)]; exact y2, fun j j8 hj' => ⟨(y3 j j8 hj').1, (y3 j j8 hj').2.o (fun i _ _ => by rw [f1.ar (by omega)])⟩⟩
    obtain ⟨w2, e2, F2, T2, L2, H2⟩ := solve30 (w00 := w1) (z := z) z256 z0 zk kn8 x8 s41 (fun k hk => by
      obtain ⟨p, p1, p2, p3⟩ := C.2.2.2.2.2.2.2.1 k hk
      exact ⟨p, by rw [f1.qq (fun y => xs y.1)]; exact p1, p2.fr f1 (fun j y => p2.cl s4 (by decide) y.1), p3⟩) 8 0 FUEL w1 rfl (fuel_lt (by decide)) Fr.refl (T.fr f1 (by omega) (by omega) (by omega)) L1 ⟨by rw [hw1, hi_setI, if_pos ⟨rfl, rfl⟩]; rfl, fun j hj' => absurd hj' (Nat.not_lt_zero _)⟩
    obtain ⟨w3, e3, F3, O3, A3, m5, m6⟩ := solve106 (w0 := w2) z256 z0 (by rw [F2.c]; exact s41) T2 H2 wb
    have F13 : Fr (fun b _ => b = s) w w3 := ((f1.mono (fun b j y => y.1)).trans (F2.mono (fun b j y => y.1))).trans (F3.mono (fun b j y => y.1))
    refine ⟨w3, ?_, F13, ⟨by rw [F13.c]; exact s4, T2.fr F3 (by omega) (by omega) (by omega), ?_, fun y hy => ?_⟩, A3⟩
    · unfold FX4_solve
      rw [nI_clamp (by omega), a]
      refine E_c s4 (E_f nle (E_f n256 (E_i rfl z256 (by decide) (E_t rfl (E_d ?_)))))
      rw [← hw1]
      exact Eq.trans e2 e3
    · obtain ⟨y, y1, y2, y3⟩ := L2
      exact ⟨y, y1, by rw [m6]; exact y2, fun j j8 hj' => ⟨(y3 j j8 hj').1, (y3 j j8 hj').2.o (fun i _ _ => by rw [m5])⟩⟩
    · by_cases e : y = z
      · rw [e]
        exact Or.inr ⟨z0, zk, A3⟩
      · obtain ⟨o1, o2⟩ := O3 y e
        have g1 : ha w2 s 0 = ha w s 0 := by rw [F2.ar (by unfold PSo; omega), f1.ar (by omega)]
        have g2 : hj w2 s 1 = hj w s 1 := by rw [F2.j (by unfold PSo; omega), f1.j (by omega)]
        rcases an y hy with q | ⟨q1, q2, q3⟩
        · exact Or.inl (by rw [o1, g1]; exact q)
        · refine Or.inr ⟨q1, q2, ?_⟩
          unfold ANS
          rw [o1, o2, g1, g2]
          exact q3
  · refine ⟨w, ?_, Fr.refl, ⟨s4, T, L, an⟩, A⟩
    have ne : ¬ ha w s 0 z = 0 := by
      rw [A.1]
      exact srI_ne (fun o => ⟨(A.2 o).1, (A.2 o).2.1⟩)
    unfold FX4_solve
    rw [nI_clamp (by omega)]
    exact E_c s4 (E_f nle (E_f n256 (E_i rfl z256 (by decide) (E_f ne rfl))))
/-- the search, if it is made, is in order -/
def SEs (w : HS) (x kn : Nat) (B : Nat → Book) : Prop := ∀ s, hp w x 10 = some s → SIv w s kn B
def PSe (w : HS) (x : Nat) : Nat → Nat → Prop := fun b k => hc w b = 4 ∨ (b = x ∧ k = 10)
theorem SIv.ke {P : Nat → Nat → Prop} {w' : HS} {kn' : Nat} {B' : Nat → Book} (I : SIv w s kn B) (g : Ke P w w') (n : ∀ k, ¬ P s k) (kn8 : kn ≤ 8) (hk : kn ≤ kn') (BB : ∀ k, k < kn → B' k = B k) : SIv w' s kn' B' := by
  obtain ⟨s4, T, L, an⟩ := I
  have d : 4 < 10 := by decide
  refine ⟨g.c s4 d, by unfold STk; rw [g.ar s4 d (n 2), g.ar s4 d (n 3), g.ar s4 d (n 4)]; exact T, ?_, fun z hz => ?_⟩
  · obtain ⟨y, y1, y2, y3⟩ := L
    refine ⟨y, y1, by rw [g.i s4 d (n 6)]; exact y2, fun j j8 hj' => ?_⟩
    obtain ⟨a, b⟩ := y3 j j8 hj'
    refine ⟨by omega, ?_⟩
    rw [BB j a]
    unfold MVc
    rw [g.ar s4 d (n 5)]
    exact b
  · rw [g.ar s4 d (n 0)]
    rcases an z hz with q | ⟨q1, q2, q3⟩
    · exact Or.inl q
    · have z2 : z < 2 ^ kn' := Nat.lt_of_lt_of_le q2 (Nat.pow_le_pow_right (by decide) hk)
      refine Or.inr ⟨q1, z2, ?_⟩
      have e : bkZ B' z = bkZ B z := funext (fun j => by
        obtain ⟨b1, b2⟩ := ks_bit hz q1 j
        exact BB _ (bt_kn kn (by omega) z q2 _ b1 b2))
      have e2 : srB B' z = srB B z := by unfold srB; rw [e]
      unfold ANS
      rw [e2, g.ar s4 d (n 0), g.j s4 d (n 1)]
      exact q3
theorem search_c (C : CX w x r kn mn B MM) (Se : SEs w x kn B) (fs : ∀ b, hc w b < 10 → b < sz) (z0 : 0 < z) (zk : z < 2 ^ kn) : ∃ s w1 mc ms w2, FX8_madeSearch sz w x = some (some s, w1, mc, ms) ∧ FX4_solve w1 s (nI z) x = some ((), w2) ∧ Ke (PSe w x) w w2 ∧ hp w2 x 10 = some s ∧ SIv w2 s kn B ∧ ANS w2 s B z ∧ mc ≤ 14 ∧ ms ≤ 20115 ∧ (hp w x 10 ≠ none → ms = 0) := by
  have h8 := C.1
  have kn8 := C.2.2.2.2.1
  cases h10 : hp w x 10 with
  | some s =>
    have I := Se s h10
    obtain ⟨w2, e2, F2, I2, A2⟩ := solve_c I C z0 zk
    have xs : x ≠ s := by intro e; rw [e, I.1] at h8; cases h8
    refine ⟨s, w, 0, 0, w2, ?_, e2, (Ke.of F2).mono (fun b k y => Or.inl (by rw [y]; exact I.1)), by rw [F2.o (fun y => xs y)]; exact h10, I2, A2, by decide, by decide, fun _ => rfl⟩
    unfold FX8_madeSearch
    refine E_c h8 ?_
    rw [h10]
    rfl
  | none =>
    obtain ⟨wa, hwa⟩ : ∃ wa, wa = nwX4 w sz := ⟨_, rfl⟩
    have ka : ∀ {P : Nat → Nat → Prop}, Ke P w wa := fun {P} => by rw [hwa]; exact Ke.nw fs
    have sc : hc wa sz = 4 := by rw [hwa]; exact if_pos rfl
    have xsz : x < sz := fs x (by omega)
    obtain ⟨wb, eb, sb4, Fb, Tb⟩ := in134 (w := wa) (s := sz) (sz := sz + 1 + 13) sc
    obtain ⟨wc, hwc⟩ : ∃ wc, wc = setP wb x 10 (some sz) := ⟨_, rfl⟩
    have fc : Fr (fun b k => b = x ∧ k = 10) wb wc := by rw [hwc]; exact Fr.sP ⟨rfl, rfl⟩
    have kb : Ke (fun b k => b = x ∧ k = 10) w wb := ka.st Fb (fun b k hb y => by have := fs b hb; omega)
    have kc : Ke (fun b k => b = x ∧ k = 10) w wc := kb.st fc (fun b k _ y => y)
    have c10 : hp wc x 10 = some sz := by rw [hwc, hp_setP, if_pos ⟨rfl, rfl⟩]
    have Cc : CX wc x r kn mn B MM := C.ks kc ⟨by omega, by omega, by omega, by omega, by omega, by omega⟩ (fun p hp k y => by rw [y.1, h8] at hp; omega)
    have ai : ∀ k, hi wa sz k = 0 := fun k => by
      rw [hwa]
      show ((if sz = sz then (fun _ : Nat => (0 : Int32)) else w.2.1 sz) k) = 0
      rw [if_pos rfl]
    have aa : ∀ k, ha wa sz k = fun _ => 0 := fun k => by
      rw [hwa]
      show ((if sz = sz then (fun _ : Nat => fun _ : Nat => (0 : Int32)) else w.2.2.2.2.1 sz) k) = _
      rw [if_pos rfl]
    have Ic : SIv wc sz kn B := ⟨by rw [fc.c]; exact sb4, Tb.fr fc (by omega) (by omega) (by omega), ⟨0, by decide, by rw [fc.i (by omega), Fb.i (by omega), ai]; rfl, fun k k8 hb => by
      have : bt 0 k = 0 := by unfold bt; rw [Nat.zero_div]
      omega⟩, fun y hy => Or.inl (by rw [fc.ar (by omega), Fb.ar (by omega), aa])⟩
    obtain ⟨w2, e2, F2, I2, A2⟩ := solve_c Ic Cc z0 zk
    refine ⟨sz, wc, 14, 20115, w2, ?_, e2, (Ke.mono (P' := PSe w x) kc (fun b k y => Or.inr y)).st F2 (fun b k hb y => by have := fs b hb; omega), by rw [F2.o (by omega)]; exact c10, I2, A2, by decide, by decide, fun y => absurd rfl y⟩
    unfold FX8_madeSearch
    refine E_c h8 ?_
    rw [h10]
    refine bmw_s (a := 13) (b := 20099) ?_ (by decide) (by decide)
    have ens : nsX4 w sz = some ((), wb, 13, 20099) := by
      unfold nsX4
      rw [← hwa]
      exact bmw_s (a := 0) (b := 0) eb (Nat.zero_add _) (Nat.zero_add _)
    rw [ens]
    refine E_b rfl ?_
    dsimp only
    refine bmw_s (a := 0) (b := 0) (E_d ?_) (Nat.zero_add _) (Nat.zero_add _)
    rw [← hwc, c10]
end SA
