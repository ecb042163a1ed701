/-! The search: class learns a kind; codes moved; the first code. -/
def MVc (w : HS) (s k : Nat) (b : Book) : Prop := ∀ sd, sd < 3 → ∀ st, st < 78 → (okS st sd = true → ∃ y, ha w s 5 (234 * k + 78 * sd + st) = nI y ∧ y < 8 ^ 10 ∧ ∀ t, t < 10 → dg y t = mvD b sd st t) ∧ (okS st sd = false → ha w s 5 (234 * k + 78 * sd + st) = -1)
def LKd (w : HS) (s kn : Nat) (B : Nat → Book) : Prop := ∃ z, z < 256 ∧ hi w s 6 = nI z ∧ ∀ k, k < 8 → bt z k = 1 → k < kn ∧ MVc w s k (B k)
theorem bt256 : ∀ z, z < 256 → ∀ k, k < 8 → ((nI z >>> (nI k &&& 31)) &&& (1 : Int32)) = nI (bt z k) ∧ (bt z k = 0 → (nI z ||| ((1 : Int32) <<< (nI k &&& 31))) = nI (z + 2 ^ k) ∧ z + 2 ^ k < 256) := by decide +kernel
theorem bt256s : ∀ z, z < 256 → ∀ k, k < 8 → bt z k = 0 → ∀ j, j < 8 → bt (z + 2 ^ k) j = if j = k then 1 else bt z j := by decide +kernel
section LE
variable {w : HS} {s kp k kn : Nat} {b : Book}
/-- one entry -/
def MV1 (w : HS) (s k sd st : Nat) (b : Book) : Prop := (okS st sd = true → ∃ y, ha w s 5 (234 * k + 78 * sd + st) = nI y ∧ y < 8 ^ 10 ∧ ∀ t, t < 10 → dg y t = mvD b sd st t) ∧ (okS st sd = false → ha w s 5 (234 * k + 78 * sd + st) = -1)
theorem STk.fr {w' : HS} {P : Nat → Nat → Prop} {j : Nat} (h : STk w s j) (F : Fr P w w') (n2 : ¬ P s 2) (n3 : ¬ P s 3) (n4 : ¬ P s 4) : STk w' s j := by
  unfold STk
  rw [F.ar n2, F.ar n3, F.ar n4]
  exact h
theorem learn35 {w0 : HS} {sd : Nat} {k27 : HS → Nat → Int32 → Nat → Int32 → Option (Unit × HS)} (s4 : hc w0 s = 4) (T : STk w0 s 78) (K : CK w0 kp b) (W : WB b) (k8 : k < 8) (sd3 : sd < 3) (sk : s ≠ kp) : ∀ d st n w, st + d = 78 → d < n → Fr (fun b j => b = s ∧ j = 5) w0 w → (∀ j, j < 234 * k + 78 * sd ∨ 234 * k + 78 * sd + 78 ≤ j → ha w s 5 j = ha w0 s 5 j) → (∀ j, j < st → MV1 w s k sd j b) → ∃ w', FX4_learn_35 k27 n w s (nI k) kp (nI sd) (nI st) = k27 w' s (nI k) kp (nI (sd + 1)) ∧ Fr (fun b j => b = s ∧ j = 5) w0 w' ∧ (∀ j, j < 234 * k + 78 * sd ∨ 234 * k + 78 * sd + 78 ≤ j → ha w' s 5 j = ha w0 s 5 j) ∧ ∀ j, j < 78 → MV1 w' s k sd j b := by
  intro d
  induction d with
  | zero =>
    intro st n w he hn F O E
    obtain ⟨n, rfl⟩ : ∃ z, n = z + 1 := ⟨n - 1, by omega⟩
    refine ⟨w, ?_, F, O, fun j hj => E j (by omega)⟩
    rw [FX4_learn_35, nI_1 sd]
    exact E_t (nI_le (a := 78) (by omega) (by omega)) rfl
  | succ d ih =>
    intro st n w he hn F O E
    obtain ⟨n, rfl⟩ : ∃ z, n = z + 1 := ⟨n - 1, by omega⟩
    have s4w : hc w s = 4 := by rw [F.c]; exact s4
    have Tw := T.fr F (by omega) (by omega) (by omega)
    have Kw : CK w kp b := K.fr F (fun j z => sk z.1.symm)
    obtain ⟨_, _, t4⟩ := Tw st (by omega)
    have a0 := t4 0 (sLn3 st).1
    rw [Nat.add_zero] at a0
    have ix : (((nI k * (3 : Int32)) + nI sd) * (78 : Int32)) + nI st = nI (234 * k + 78 * sd + st) := by
      rw [l3_, nI_mul, nI_add, l78_, nI_mul, nI_add, show (k * 3 + sd) * 78 + st = 234 * k + 78 * sd + st from by omega]
    have fin : ∀ v, (okS st sd = true → ∃ y, v = nI y ∧ y < 8 ^ 10 ∧ ∀ t, t < 10 → dg y t = mvD b sd st t) → (okS st sd = false → v = -1) → ∃ w', FX4_learn_97 k27 (FX4_learn_35 k27 n) w s (nI k) kp (nI sd) (nI st) v (nI (234 * k + 78 * sd + st)) s = k27 w' s (nI k) kp (nI (sd + 1)) ∧ Fr (fun b j => b = s ∧ j = 5) w0 w' ∧ (∀ j, j < 234 * k + 78 * sd ∨ 234 * k + 78 * sd + 78 ≤ j → ha w' s 5 j = ha w0 s 5 j) ∧ ∀ j, j < 78 → MV1 w' s k sd j b := by
      intro v v1 v2
      obtain ⟨w', e', r'⟩ := ih (st + 1) n (setA w s 5 (234 * k + 78 * sd + st) v) (by omega) (by omega) (F.trans (Fr.sA ⟨rfl, rfl⟩)) (fun j hj => by
        rw [ha_setA, if_pos ⟨rfl, rfl⟩, upd_n (by omega)]
        exact O j hj) (fun j hj => by
        unfold MV1
        rw [ha_setA, if_pos ⟨rfl, rfl⟩]
        by_cases e : j = st
        · rw [e, upd_s]
          exact ⟨v1, v2⟩
        · rw [upd_n (by omega)]
          exact E j (by omega))
      refine ⟨w', ?_, r'⟩
      unfold FX4_learn_97
      rw [nI_clamp (by omega)]
      refine E_c s4w (E_i rfl (by omega) (by decide) (E_d ?_))
      rw [nI_1]
      exact e'
    have nok : okS st sd = true → ∃ w', FX4_learn_62 k27 (FX4_learn_35 k27 n) w s (nI k) kp (nI sd) (nI st) = k27 w' s (nI k) kp (nI (sd + 1)) ∧ Fr (fun b j => b = s ∧ j = 5) w0 w' ∧ (∀ j, j < 234 * k + 78 * sd ∨ 234 * k + 78 * sd + 78 ≤ j → ha w' s 5 j = ha w0 s 5 j) ∧ ∀ j, j < 78 → MV1 w' s k sd j b := by
      intro ok
      obtain ⟨y, e1, y1, y2⟩ := move_c s4w Tw Kw W (show st < 78 by omega) sd3 ok
      obtain ⟨w', e', r'⟩ := fin (nI y) (fun _ => ⟨y, rfl, y1, y2⟩) (fun z => by rw [ok] at z; cases z)
      refine ⟨w', ?_, r'⟩
      unfold FX4_learn_62 FX4_learn_63
      rw [if_pos rfl, ix]
      exact E_b e1 e'
    rw [FX4_learn_35, show nI st * (3 : Int32) = nI (3 * st) from by rw [l3_, nI_mul, Nat.mul_comm], nI_clamp (n := 3 * st) (by omega), a0]
    by_cases s0 : sd = 0
    · subst s0
      by_cases r0 : sAc st 0 = 0
      · have ok : okS st 0 = false := decide_eq_false (fun z => z ⟨rfl, r0⟩)
        obtain ⟨w', e', r'⟩ := fin (-1) (fun z => by rw [ok] at z; cases z) (fun _ => rfl)
        refine ⟨w', ?_, r'⟩
        refine E_f (nI_ge (b := 78) (by omega) (by decide)) (E_t rfl (E_i rfl (by omega) (by decide) (E_t (by rw [r0]; rfl) ?_)))
        unfold FX4_learn_63
        rw [ix]
        exact E_f i10 e'
      · have ok : okS st 0 = true := decide_eq_true (fun z => r0 z.2)
        obtain ⟨w', e', r'⟩ := nok ok
        refine ⟨w', ?_, r'⟩
        have := sAc3 st 0
        exact E_f (nI_ge (b := 78) (by omega) (by decide)) (E_t rfl (E_i rfl (by omega) (by decide) (E_f (nI_ne0 (by omega) (by omega)) e')))
    · have ok : okS st sd = true := decide_eq_true (fun z => s0 z.1)
      obtain ⟨w', e', r'⟩ := nok ok
      refine ⟨w', ?_, r'⟩
      exact E_f (nI_ge (b := 78) (by omega) (by decide)) (E_f (nI_ne0 (by omega) (by omega)) e')
theorem learn27 {w0 : HS} (s4 : hc w0 s = 4) (T : STk w0 s 78) (K : CK w0 kp b) (W : WB b) (k8 : k < 8) (sk : s ≠ kp) : ∀ d sd n w, sd + d = 3 → d < n → Fr (fun b j => b = s ∧ j = 5) w0 w → (∀ j, j < 234 * k ∨ 234 * k + 234 ≤ j → ha w s 5 j = ha w0 s 5 j) → (∀ sj, sj < sd → ∀ j, j < 78 → MV1 w s k sj j b) → ∃ w', FX4_learn_27 n w s (nI k) kp (nI sd) = some ((), w') ∧ Fr (fun b j => b = s ∧ j = 5) w0 w' ∧ (∀ j, j < 234 * k ∨ 234 * k + 234 ≤ j → ha w' s 5 j = ha w0 s 5 j) ∧ MVc w' s k b := by
  intro d
  induction d with
  | zero =>
    intro sd n w he hn F O E
    obtain ⟨n, rfl⟩ : ∃ z, n = z + 1 := ⟨n - 1, by omega⟩
    refine ⟨w, ?_, F, O, fun sj hs j hj => E sj (by omega) j hj⟩
    rw [FX4_learn_27]
    exact E_t (nI_le (a := 3) (by omega) (by omega)) rfl
  | succ d ih =>
    intro sd n w he hn F O E
    obtain ⟨n, rfl⟩ : ∃ z, n = z + 1 := ⟨n - 1, by omega⟩
    obtain ⟨w1, e1, F1, O1, E1⟩ := learn35 (w0 := w) (sd := sd) (k27 := FX4_learn_27 n) (by rw [F.c]; exact s4) (T.fr F (by omega) (by omega) (by omega)) (K.fr F (fun j z => sk z.1.symm)) W k8 (by omega) sk 78 0 FUEL w rfl (fuel_lt (by decide)) Fr.refl (fun j _ => rfl) (fun j hj => absurd hj (Nat.not_lt_zero _))
    obtain ⟨w', e', r'⟩ := ih (sd + 1) n w1 (by omega) (by omega) (F.trans F1) (fun j hj => by rw [O1 j (by omega)]; exact O j hj) (fun sj hs j hj => by
      by_cases e : sj = sd
      · rw [e]; exact E1 j hj
      · have := E sj (by omega) j hj
        unfold MV1 at this ⊢
        rw [O1 _ (by omega)]
        exact this)
    refine ⟨w', ?_, r'⟩
    rw [FX4_learn_27]
    exact E_f (nI_ge (b := 3) (by omega) (by decide)) (Eq.trans e1 e')
theorem MVc.o {w' : HS} (h : MVc w s k b) (e : ∀ j, 234 * k ≤ j → j < 234 * k + 234 → ha w' s 5 j = ha w s 5 j) : MVc w' s k b := by
  intro sd hs st hst
  rw [e _ (by omega) (by omega)]
  exact h sd hs st hst
theorem learn_c {B : Nat → Book} (s4 : hc w s = 4) (T : STk w s 78) (L : LKd w s kn B) (kn8 : kn ≤ 8) (hk : k < kn) (K : CK w kp (B k)) (W : WB (B k)) : ∃ w', FX4_learn w s (nI k) kp = some ((), w') ∧ Fr (fun b j => b = s ∧ (j = 5 ∨ j = 6)) w w' ∧ LKd w' s kn B ∧ MVc w' s k (B k) ∧ ∀ k' b', k' ≠ k → MVc w s k' b' → MVc w' s k' b' := by
  obtain ⟨z, z256, hz, lk⟩ := L
  obtain ⟨b1, b2⟩ := bt256 z z256 k (by omega)
  have bl := bt_lt z k
  have sk : s ≠ kp := fun e => K.cl s4 (by decide) e.symm
  unfold FX4_learn
  rw [hz, b1]
  by_cases h : bt z k = 1
  · refine ⟨w, ?_, Fr.refl, ⟨z, z256, hz, lk⟩, (lk k (by omega) h).2, fun _ _ _ m => m⟩
    exact E_c s4 (E_t (by rw [h]; rfl) rfl)
  · have h0 : bt z k = 0 := by omega
    obtain ⟨c1, c2⟩ := b2 h0
    obtain ⟨wa, hwa⟩ : ∃ wa, wa = setI w s 6 (nI (z + 2 ^ k)) := ⟨_, rfl⟩
    have fa : Fr (fun b j => b = s ∧ j = 6) w wa := by rw [hwa]; exact Fr.sI ⟨rfl, rfl⟩
    obtain ⟨w', e', F', O', M'⟩ := learn27 (w0 := wa) (k := k) (by rw [fa.c]; exact s4) (T.fr fa (by omega) (by omega) (by omega)) (K.fr fa (fun j y => sk y.1.symm)) W (by omega) sk 3 0 FUEL wa rfl (fuel_lt (by decide)) Fr.refl (fun j _ => rfl) (fun sj hs => absurd hs (Nat.not_lt_zero _))
    have a5 : ha wa s 5 = ha w s 5 := fa.ar (by omega)
    refine ⟨w', ?_, (fa.mono (fun b j y => by omega)).trans (F'.mono (fun b j y => by omega)), ⟨z + 2 ^ k, c2, by rw [F'.i (by omega), hwa, hi_setI, if_pos ⟨rfl, rfl⟩], fun j j8 hj => ?_⟩, M', fun k' b' nk m => m.o (fun i h1 h2 => by rw [O' i (by omega), a5])⟩
    · refine E_c s4 (E_f ?_ (E_d ?_))
      · rw [h0]; decide
      · rw [c1, ← hwa]
        exact e'
    · rw [bt256s z z256 k (by omega) h0 j j8] at hj
      by_cases e : j = k
      · rw [e]; exact ⟨hk, M'⟩
      · rw [if_neg e] at hj
        obtain ⟨d1, d2⟩ := lk j j8 hj
        exact ⟨d1, d2.o (fun i h1 h2 => by rw [O' i (by omega), a5])⟩
theorem moved_c {c y : Nat} (c8 : c < 8 ^ 8) (cd : ∀ t, t < 8 → dg c t ≤ 4) (y10 : y < 8 ^ 10) : ∃ c', FX4_moved w (nI c) (nI y) = some (nI c', w) ∧ c' < 8 ^ 8 ∧ ∀ t, t < 8 → dg c' t = dg y ((if t < 4 then 0 else 5) + dg c t) := by
  obtain ⟨F, hF⟩ : ∃ F : Nat → Nat, ∀ t, F t = dg y ((if t < 4 then 0 else 5) + dg c t) := ⟨fun t => dg y ((if t < 4 then 0 else 5) + dg c t), fun _ => rfl⟩
  simp only [← hF]
  have loop : ∀ d t n v, t + d = 8 → d < n → v < 8 ^ 8 → (∀ j, j < 8 → dg v j = if j < t then F j else 0) → ∃ c', FX4_moved_4 n w (nI c) (nI y) (nI v) (nI t) = some (nI c', w) ∧ c' < 8 ^ 8 ∧ ∀ t, t < 8 → dg c' t = F t := by
    intro d
    induction d with
    | zero =>
      intro t n v ht hn v8 h
      obtain ⟨n, rfl⟩ : ∃ z, n = z + 1 := ⟨n - 1, by omega⟩
      refine ⟨v, ?_, v8, fun j hj => by rw [h j hj, if_pos (by omega)]⟩
      rw [FX4_moved_4]
      exact E_t (nI_le (a := 8) (by omega) (by omega)) rfl
    | succ d ih =>
      intro t n v ht hn v8 h
      obtain ⟨n, rfl⟩ : ∃ z, n = z + 1 := ⟨n - 1, by omega⟩
      have dt := cd t (by omega)
      obtain ⟨f, hf⟩ : ∃ f, f = (if t < 4 then 0 else 5) + dg c t := ⟨_, rfl⟩
      have f9 : f < 10 := by rw [hf]; split <;> omega
      have dy := dg_lt y f
      obtain ⟨c', e', r'⟩ := ih (t + 1) n (v ||| dg y f * 8 ^ t) (by omega) (by omega) (or_lt8 v8 (at_lt8 dy (by omega))) (fun j hj => by
        rw [dg_or, dg_at dy, h j hj]
        by_cases e : j = t
        · rw [if_neg (by omega), if_pos e, if_pos (by omega), Nat.zero_or, hf, e, hF]
        · rw [if_neg e, Nat.or_zero]
          by_cases l : j < t
          · rw [if_pos l, if_pos (by omega)]
          · rw [if_neg l, if_neg (by omega)])
      refine ⟨c', ?_, r'⟩
      have st : ∀ s0 : Int32, s0 + (3 : Int32) * nI (dg c t) = nI (3 * f) → FX4_moved_31 (FX4_moved_4 n) w (nI c) (nI y) (nI v) (nI t) (nI (dg c t)) s0 = some (nI c', w) := by
        intro s0 hs
        unfold FX4_moved_31
        rw [hs, nI_fld (by rw [show (8 : Nat) ^ 10 = 2 ^ 30 from by decide] at y10; omega) (by omega), show (3 : Int32) * nI t = nI (3 * t) from by rw [l3_, nI_mul], nI_put (by omega), nI_or, nI_1]
        exact e'
      rw [FX4_moved_4, show (3 : Int32) * nI t = nI (3 * t) from by rw [l3_, nI_mul], nI_fld (by rw [show (8 : Nat) ^ 8 = 2 ^ 24 from by decide] at c8; omega) (by omega)]
      refine E_f (nI_ge (b := 8) (by omega) (by decide)) ?_
      by_cases t4 : t < 4
      · rw [if_pos t4] at hf
        refine E_f (nI_ge (b := 4) t4 (by decide)) (st 0 ?_)
        rw [l3_, nI_mul, show (0 : Int32) = nI 0 from rfl, nI_add, hf, Nat.zero_add, Nat.zero_add]
      · rw [if_neg t4] at hf
        refine E_t (nI_le (a := 4) (by omega) (by omega)) (st 15 ?_)
        rw [l3_, nI_mul, l15_, nI_add, show 15 + 3 * dg c t = 3 * f from by omega]
  unfold FX4_moved
  exact loop 8 0 FUEL 0 rfl (fuel_lt (by decide)) (by decide) (fun j _ => by
    rw [if_neg (by omega)]
    unfold dg
    rw [Nat.zero_div])
theorem first_c (K : CK w kp b) (W : WB b) : ∃ c, FX4_firstCode w kp = some (nI c, w) ∧ c < 8 ^ 8 ∧ ∀ t, t < 8 → dg c t = stl b 1 0 (t % 4) := by
  have loop : ∀ d t n v, t + d = 8 → d < n → v < 8 ^ 8 → (∀ j, j < 8 → dg v j = if j < t then stl b 1 0 (j % 4) else 0) → ∃ c, FX4_firstCode_4 n w kp (nI v) (nI t) = some (nI c, w) ∧ c < 8 ^ 8 ∧ ∀ t, t < 8 → dg c t = stl b 1 0 (t % 4) := by
    intro d
    induction d with
    | zero =>
      intro t n v ht hn v8 h
      obtain ⟨n, rfl⟩ : ∃ z, n = z + 1 := ⟨n - 1, by omega⟩
      refine ⟨v, ?_, v8, fun j hj => by rw [h j hj, if_pos (by omega)]⟩
      rw [FX4_firstCode_4]
      exact E_t (nI_le (a := 8) (by omega) (by omega)) rfl
    | succ d ih =>
      intro t n v ht hn v8 h
      obtain ⟨n, rfl⟩ : ∃ z, n = z + 1 := ⟨n - 1, by omega⟩
      have m4 : t % 4 < 4 := Nat.mod_lt _ (by decide)
      have s4' := stl4 (a := 1) W m4
      obtain ⟨c, e', r'⟩ := ih (t + 1) n (v ||| stl b 1 0 (t % 4) * 8 ^ t) (by omega) (by omega) (or_lt8 v8 (at_lt8 (by omega) (by omega))) (fun j hj => by
        rw [dg_or, dg_at (by omega), h j hj]
        by_cases e : j = t
        · rw [if_neg (by omega), if_pos e, if_pos (by omega), Nat.zero_or, e]
        · rw [if_neg e, Nat.or_zero]
          by_cases l : j < t
          · rw [if_pos l, if_pos (by omega)]
          · rw [if_neg l, if_neg (by omega)])
      refine ⟨c, ?_, r'⟩
      rw [FX4_firstCode_4, show (3 : Int32) * nI t = nI (3 * t) from by rw [l3_, nI_mul], show nI t &&& (3 : Int32) = nI (t % 4) from nI_andm t 2]
      refine E_f (nI_ge (b := 8) (by omega) (by decide)) (E_b (ck_set K m4) ?_)
      dsimp only
      rw [nI_put (by omega), nI_or, nI_1]
      exact e'
  unfold FX4_firstCode
  exact loop 8 0 FUEL 0 rfl (fuel_lt (by decide)) (by decide) (fun j _ => by
    rw [if_neg (by omega)]
    unfold dg
    rw [Nat.zero_div])
end LE
