/-! The search: the reference's steps. -/
def PSt (m : Nat) : Nat → Nat → Prop := fun b k => b = m ∧ (k = 16 ∨ (20 ≤ k ∧ k ≤ 22) ∨ (25 ≤ k ∧ k ≤ 29) ∨ k = 33)
/-- in a search: what stays -/
def TSr (w0 w : HS) (m : Nat) : Prop := Fr (PSt m) w0 w ∧ ∀ j, 4 ≤ j → ha w m 16 j = ha w0 m 16 j
theorem TSr.refl {w : HS} {m : Nat} : TSr w w m := ⟨Fr.refl, fun _ _ => rfl⟩
theorem TSr.tr {w w1 w2 : HS} {m : Nat} (h : TSr w w1 m) (g : TSr w1 w2 m) : TSr w w2 m := ⟨h.1.trans g.1, fun j hj => by rw [g.2 j hj]; exact h.2 j hj⟩
theorem TSr.of {w w1 : HS} {m : Nat} (h : TM w w1 m) : TSr w w1 m := ⟨h.1.mono (fun b k z => by unfold PR at z; unfold PSt; omega), h.2⟩
theorem TSr.o2 {w w1 : HS} {m : Nat} (h : Fr (fun b k => b = m ∧ (k = 33 ∨ (25 ≤ k ∧ k ≤ 29))) w w1) : TSr w w1 m := ⟨h.mono (fun b k z => by unfold PSt; omega), fun j _ => by rw [h.ar (by omega)]⟩
/-- what the search leans on -/
def RBs (w : HS) (m K : Nat) (bk : Nat → Book) : Prop := hc w m = 9 ∧ hi w m 30 = nI (8 * K) ∧ 0 < K ∧ K ≤ 8 ∧ (∀ v, v < 8 * K → RMv w m v (bk (v / 8))) ∧ ∀ c, c < 2 → ha w m 16 (4 + c) = nI c
theorem RBs.ts {w w' : HS} {m K : Nat} {bk : Nat → Book} (h : RBs w m K bk) (T : TSr w w' m) : RBs w' m K bk := by
  obtain ⟨h1, h2, h3, h4, h5, h6⟩ := h
  exact ⟨by rw [T.1.c]; exact h1, by rw [T.1.i (by unfold PSt; omega)]; exact h2, h3, h4, fun v hv => (h5 v hv).fr T.1 (by unfold PSt; omega) (by unfold PSt; omega) (by unfold PSt; omega) (by unfold PSt; omega), fun c hc' => by rw [T.2 _ (by omega)]; exact h6 c hc'⟩
def cdK (k : Nat) : Nat := 100 * sLn k + 27 * sDn k + sRs k % 3 ^ sLn k
/-- the reference's rows -/
def RRi (w : HS) (m K : Nat) (bk : Nat → Book) (P : PBs) (n : Nat) : Prop := hi w m 29 = nI n ∧ ha w m 27 0 = -1 ∧ ∀ i, i < n → RRow w m K i bk (pS P i) ∧ ha w m 26 i = nI (pO P i) ∧ (0 < i → ha w m 27 i = nI (pP P i) ∧ ha w m 28 i = nI (cdK (pB P i)))
theorem RRi.fr {w w' : HS} {m K n : Nat} {bk : Nat → Book} {P : PBs} {Q : Nat → Nat → Prop} (h : RRi w m K bk P n) (F : Fr Q w w') (q : ∀ k, 25 ≤ k → k ≤ 29 → ¬ Q m k) : RRi w' m K bk P n := by
  obtain ⟨h1, h2, h3⟩ := h
  refine ⟨by rw [F.i (q 29 (by decide) (by decide))]; exact h1, by rw [F.ar (q 27 (by decide) (by decide))]; exact h2, fun i hi' => ?_⟩
  obtain ⟨r1, r2, r3⟩ := h3 i hi'
  refine ⟨r1.fr F (q 25 (by decide) (by decide)), by rw [F.ar (q 26 (by decide) (by decide))]; exact r2, fun i0 => ?_⟩
  rw [F.ar (q 27 (by decide) (by decide)), F.ar (q 28 (by decide) (by decide))]
  exact r3 i0
theorem ha_upd (w : HS) (a k i : Nat) (x : Int32) (j : Nat) : ha (setA w a k i x) a k j = if j = i then x else ha w a k j := by
  rw [ha_setA, if_pos ⟨rfl, rfl⟩]
  by_cases e : j = i
  · rw [e, upd_s, if_pos rfl]
  · rw [upd_n e, if_neg e]
section CO
variable {w : HS} {m K n : Nat} {bk : Nat → Book}
theorem comes_r {x1 x2 x3 : Int32} (h9 : hc w m = 9) (h29 : hi w m 29 = nI n) (n12 : n ≤ 1200) : ∃ w', FX9_comes w m x1 x2 x3 = some ((), w') ∧ Fr (fun b k => b = m ∧ (25 ≤ k ∧ k ≤ 29)) w w' ∧ hi w' m 29 = nI (n + 1) ∧ (∀ i, hj w' m 25 i = if 4 * n ≤ i ∧ i < 4 * n + 4 then hj w m 33 (i - 4 * n) else hj w m 25 i) ∧ (∀ i, ha w' m 26 i = if i = n then x1 else ha w m 26 i) ∧ (∀ i, ha w' m 27 i = if i = n then x2 else ha w m 27 i) ∧ ∀ i, ha w' m 28 i = if i = n then x3 else ha w m 28 i := by
  have loop : ∀ d u k w1, u + d = 4 → d < k → Fr (fun b k => b = m ∧ k = 25) w w1 → (∀ i, hj w1 m 25 i = if 4 * n ≤ i ∧ i < 4 * n + u then hj w m 33 (i - 4 * n) else hj w m 25 i) → ∃ w', FX9_comes_3 k w1 m x1 x2 x3 (nI u) = some ((), w') ∧ Fr (fun b k => b = m ∧ (25 ≤ k ∧ k ≤ 29)) w w' ∧ hi w' m 29 = nI (n + 1) ∧ (∀ i, hj w' m 25 i = if 4 * n ≤ i ∧ i < 4 * n + 4 then hj w m 33 (i - 4 * n) else hj w m 25 i) ∧ (∀ i, ha w' m 26 i = if i = n then x1 else ha w m 26 i) ∧ (∀ i, ha w' m 27 i = if i = n then x2 else ha w m 27 i) ∧ ∀ i, ha w' m 28 i = if i = n then x3 else ha w m 28 i := by
    intro d
    induction d with
    | zero =>
      intro u k w1 hu hk F Z
      obtain ⟨k, rfl⟩ : ∃ z, k = z + 1 := ⟨k - 1, by omega⟩
      have e29 : hi w1 m 29 = nI n := by rw [F.i (by omega)]; exact h29
      obtain ⟨w2, hw2⟩ : ∃ w2, w2 = setA w1 m 26 n x1 := ⟨_, rfl⟩
      have F2 : Fr (fun b k => b = m ∧ k = 26) w1 w2 := by rw [hw2]; exact Fr.sA ⟨rfl, rfl⟩
      have e292 : hi w2 m 29 = nI n := by rw [F2.i (by omega)]; exact e29
      obtain ⟨w3, hw3⟩ : ∃ w3, w3 = setA w2 m 27 n x2 := ⟨_, rfl⟩
      have F3 : Fr (fun b k => b = m ∧ k = 27) w2 w3 := by rw [hw3]; exact Fr.sA ⟨rfl, rfl⟩
      have e293 : hi w3 m 29 = nI n := by rw [F3.i (by omega)]; exact e292
      obtain ⟨w4, hw4⟩ : ∃ w4, w4 = setA w3 m 28 n x3 := ⟨_, rfl⟩
      have F4 : Fr (fun b k => b = m ∧ k = 28) w3 w4 := by rw [hw4]; exact Fr.sA ⟨rfl, rfl⟩
      have e294 : hi w4 m 29 = nI n := by rw [F4.i (by omega)]; exact e293
      obtain ⟨w5, hw5⟩ : ∃ w5, w5 = setI w4 m 29 (nI (n + 1)) := ⟨_, rfl⟩
      have F5 : Fr (fun b k => b = m ∧ k = 29) w4 w5 := by rw [hw5]; exact Fr.sI ⟨rfl, rfl⟩
      refine ⟨w5, ?_, ?_, ?_, fun i => ?_, fun i => ?_, fun i => ?_, fun i => ?_⟩
      · rw [FX9_comes_3, e29, nI_clamp (by omega)]
        refine E_t (nI_le (a := 4) (by omega) (by omega)) (E_i rfl (by omega) (by decide) (E_d ?_))
        rw [← hw2, e292, nI_clamp (by omega)]
        refine E_i rfl (by omega) (by decide) (E_d ?_)
        rw [← hw3, e293, nI_clamp (by omega)]
        refine E_i rfl (by omega) (by decide) (E_d ?_)
        rw [← hw4, e294, nI_1, ← hw5]
        rfl
      · exact ((((F.mono (fun b k z => by omega)).trans (F2.mono (fun b k z => by omega))).trans (F3.mono (fun b k z => by omega))).trans (F4.mono (fun b k z => by omega))).trans (F5.mono (fun b k z => by omega))
      · rw [hw5, hi_setI, if_pos ⟨rfl, rfl⟩]
      · rw [F5.j (by omega), F4.j (by omega), F3.j (by omega), F2.j (by omega), Z i, show u = 4 by omega]
      · rw [F5.ar (by omega), F4.ar (by omega), F3.ar (by omega), hw2, ha_upd, F.ar (by omega)]
      · rw [F5.ar (by omega), F4.ar (by omega), hw3, ha_upd, F2.ar (by omega), F.ar (by omega)]
      · rw [F5.ar (by omega), hw4, ha_upd, F3.ar (by omega), F2.ar (by omega), F.ar (by omega)]
    | succ d ih =>
      intro u k w1 hu hk F Z
      obtain ⟨k, rfl⟩ : ∃ z, k = z + 1 := ⟨k - 1, by omega⟩
      have e29 : hi w1 m 29 = nI n := by rw [F.i (by omega)]; exact h29
      obtain ⟨w', e, r⟩ := ih (u + 1) k (setJ w1 m 25 (4 * n + u) (hj w1 m 33 u)) (by omega) (by omega) (F.trans (Fr.sJ ⟨rfl, rfl⟩)) (fun i => by
        rw [hj_upd, Z i, F.j (show ¬ (m = m ∧ 33 = 25) by omega)]
        by_cases q : i = 4 * n + u
        · rw [if_pos q, if_pos (by omega), show i - 4 * n = u by omega]
        · rw [if_neg q]
          by_cases l : 4 * n ≤ i ∧ i < 4 * n + u
          · rw [if_pos l, if_pos (by omega)]
          · rw [if_neg l, if_neg (by omega)])
      refine ⟨w', ?_, r⟩
      rw [FX9_comes_3, e29, l4_, nI_mul, nI_add, nI_clamp (n := 4 * n + u) (by omega), nI_clamp (n := u) (by omega)]
      refine E_f (nI_ge (by omega) (by decide)) (E_i rfl (by omega) (by decide) (E_i rfl (by omega) (by decide) (E_d ?_)))
      rw [nI_1]
      exact e
  obtain ⟨w', e, r⟩ := loop 4 0 FUEL w rfl (fuel_lt (by decide)) Fr.refl (fun i => by rw [if_neg (by omega)])
  refine ⟨w', ?_, r⟩
  unfold FX9_comes
  exact E_c h9 e
/-- a row more -/
theorem rri_put {P : PBs} {a : AS} {s k C : Nat} (h9 : hc w m = 9) (K8 : K ≤ 8) (n12 : pN P ≤ 1200) (n0 : 0 < pN P) (R : RRi w m K bk P (pN P)) (A : Abd K a) (Bt : RWb (fun u => hj w m 33 u) bk a (8 * K + 1)) : ∃ w', FX9_comes w m (nI C) (nI s) (nI (cdK k)) = some ((), w') ∧ Fr (fun b k => b = m ∧ (25 ≤ k ∧ k ≤ 29)) w w' ∧ RRi w' m K bk (putP P a s k C) (pN P + 1) := by
  obtain ⟨r1, r2, r3⟩ := R
  obtain ⟨w', e, F, q29, q25, q26, q27, q28⟩ := comes_r (x1 := nI C) (x2 := nI s) (x3 := nI (cdK k)) h9 r1 n12
  refine ⟨w', e, F, q29, by rw [q27, if_neg (by omega)]; exact r2, fun i hi' => ?_⟩
  by_cases z : i = pN P
  · obtain ⟨t1, t2, t3⟩ := put_new (P := P) (a := a) (s := s) (k := k) (C := C)
    have t0 : pS (putP P a s k C) (pN P) = a := if_pos rfl
    subst z
    rw [t0, t1, t2, t3, q26, q27, q28, if_pos rfl, if_pos rfl, if_pos rfl]
    refine ⟨⟨Bt.ext (fun u hu => ?_), A⟩, rfl, fun _ => ⟨rfl, rfl⟩⟩
    rw [q25, if_pos (by omega), show 4 * pN P + u - 4 * pN P = u by omega]
  · have i1 : i < pN P := by omega
    obtain ⟨t1, t2, t3⟩ := put_old (P := P) (a := a) (s := s) (k := k) (C := C) i i1
    rw [put_oldS i i1, t1, t2, t3, q26, q27, q28, if_neg z, if_neg z, if_neg z]
    obtain ⟨y1, y2, y3⟩ := r3 i i1
    refine ⟨⟨y1.1.ext (fun u hu => ?_), y1.2⟩, y2, y3⟩
    rw [q25, if_neg (by omega)]
end CO
