/-! The tape: fed, ended. -/
/-- the two tapes are one -/
def TV (w : HS) (t m n : Nat) : Prop := hc w t = 6 ∧ hc w m = 9 ∧ hi w t 1 = nI n ∧ hi w m 1 = nI n ∧ n ≤ 200 ∧ ∀ i, i < n → ha w t 0 i = ha w m 0 i
theorem and255 (x : Int32) : ∃ z, z < 256 ∧ (x &&& (255 : Int32)) = nI z := by
  have h : ∀ y : BitVec 32, ∃ z, z < 256 ∧ (y &&& 255#32) = BitVec.ofNat 32 z := by
    intro y
    refine ⟨(y &&& 255#32).toNat, ?_, by simp⟩
    have : (y &&& 255#32).toNat ≤ 255 := by
      rw [BitVec.toNat_and]
      exact Nat.and_le_right
    omega
  obtain ⟨z, z1, z2⟩ := h x.toBitVec
  refine ⟨z, z1, ?_⟩
  apply Int32.toBitVec_inj.mp
  rw [Int32.toBitVec_and]
  exact z2
theorem TV.tb {w : HS} {t m n : Nat} (h : TV w t m n) : ∃ β, TB w t w m β n := by
  obtain ⟨h1, h2, h3, h4, h5, h6⟩ := h
  refine ⟨fun i => (and255 (ha w t 0 i)).choose, h1, h3, h5, fun i _ => (and255 (ha w t 0 i)).choose_spec.2, h2, h4, fun i hi => ?_, fun i => (and255 (ha w t 0 i)).choose_spec.1⟩
  rw [← h6 i hi]
  exact (and255 (ha w t 0 i)).choose_spec.2
def P01 (t : Nat) : Nat → Nat → Prop := fun b k => b = t ∧ (k = 0 ∨ k = 1)
/-- byte i of a word -/
def byV (v : Int32) (i : Nat) : Int32 := vp_nar .byte (v >>> (nI (24 - 8 * i) &&& 31)).toInt8.toInt32
section TA
variable {w w1 : HS} {t m n j k : Nat} {F : Nat → Int32} {wd : Nat → Int32}
/-- j bytes are added -/
def AP (w w1 : HS) (t n j : Nat) (F : Nat → Int32) : Prop := Fr (P01 t) w w1 ∧ hi w1 t 1 = nI (n + j) ∧ ∀ i, ha w1 t 0 i = if n ≤ i ∧ i < n + j then F (i - n) else ha w t 0 i
theorem ap_st (h : AP w w1 t n j F) : AP w (setI (setA w1 t 0 (n + j) (F j)) t 1 (nI (n + j + 1))) t n (j + 1) F := by
  obtain ⟨h1, h2, h3⟩ := h
  refine ⟨(h1.trans (Fr.sA ⟨rfl, Or.inl rfl⟩)).trans (Fr.sI ⟨rfl, Or.inr rfl⟩), by rw [hi_setI, if_pos ⟨rfl, rfl⟩]; rfl, fun i => ?_⟩
  rw [ha_setI, ha_setA, if_pos ⟨rfl, rfl⟩]
  by_cases e : i = n + j
  · subst e
    rw [upd_s, if_pos (by omega), show n + j - n = j from by omega]
  · rw [upd_n e, h3]
    by_cases q : n ≤ i ∧ i < n + j
    · rw [if_pos q, if_pos (by omega)]
    · rw [if_neg q, if_neg (by omega)]
theorem sh_c : ∀ i, i < 4 → ¬ nI (24 - 8 * i) < 0 ∧ nI (24 - 8 * i) + (-8 : Int32) = if i < 3 then nI (24 - 8 * (i + 1)) else -8 := by decide
theorem sh_r : ∀ j, j < 20 → (24 : Int32) - (8 : Int32) * (nI j - nI j / (4 : Int32) * (4 : Int32)) = nI (24 - 8 * (j % 4)) := by decide
theorem ap_loop (h6 : hc w t = 6) (n180 : n ≤ 180) (hk : k < 5) (hF : ∀ i, i < 4 → F (4 * k + i) = byV (wd k) i) : ∀ d i N w1, i + d = 4 → d < N → AP w w1 t n (4 * k + i) F → ∃ w2, FX6_append_3 N w1 t (wd k) (if i < 4 then nI (24 - 8 * i) else -8) = some ((), w2) ∧ AP w w2 t n (4 * (k + 1)) F := by
  intro d
  induction d with
  | zero =>
    intro i N w1 he hN h
    obtain ⟨N, rfl⟩ : ∃ z, N = z + 1 := ⟨N - 1, by omega⟩
    refine ⟨w1, ?_, by rw [show 4 * (k + 1) = 4 * k + i from by omega]; exact h⟩
    rw [if_neg (show ¬ i < 4 by omega), FX6_append_3]
    exact E_t (by decide) rfl
  | succ d ih =>
    intro i N w1 he hN h
    obtain ⟨N, rfl⟩ : ∃ z, N = z + 1 := ⟨N - 1, by omega⟩
    obtain ⟨w2, e2, A2⟩ := ih (i + 1) N (setI (setA w1 t 0 (n + (4 * k + i)) (F (4 * k + i))) t 1 (nI (n + (4 * k + i) + 1))) (by omega) (by omega) (ap_st h)
    refine ⟨w2, ?_, A2⟩
    obtain ⟨s1, s2⟩ := sh_c i (by omega)
    rw [if_pos (show i < 4 by omega), FX6_append_3, h.2.1]
    refine E_f s1 (E_f (nI_ge (b := 200) (by omega) (by decide)) (E_i rfl (by omega) (by decide) (E_d (E_d ?_))))
    unfold FX6_append_40
    rw [s2, nI_clamp (by omega), ← e2, hF i (by omega)]
    have e1 : hi (setA w1 t 0 (n + (4 * k + i)) (byV (wd k) i)) t 1 = nI (n + (4 * k + i)) := h.2.1
    have e3 : (if i < 3 then nI (24 - 8 * (i + 1)) else -8) = (if i + 1 < 4 then nI (24 - 8 * (i + 1)) else (-8 : Int32)) := by
      by_cases q : i < 3
      · rw [if_pos q, if_pos (by omega)]
      · rw [if_neg q, if_neg (by omega)]
    rw [← e3]
    show FX6_append_3 N (setI (setA w1 t 0 (n + (4 * k + i)) (byV (wd k) i)) t 1 (hi (setA w1 t 0 (n + (4 * k + i)) (byV (wd k) i)) t 1 + 1)) t (wd k) _ = _
    rw [e1, nI_1]
theorem ap_word (h6 : hc w t = 6) (n180 : n ≤ 180) (hk : k < 5) (hF : ∀ i, i < 4 → F (4 * k + i) = byV (wd k) i) (h : AP w w1 t n (4 * k) F) : ∃ w2, FX6_append w1 t (wd k) = some ((), w2) ∧ AP w w2 t n (4 * (k + 1)) F := by
  obtain ⟨w2, e2, A2⟩ := ap_loop h6 n180 hk hF 4 0 FUEL w1 rfl (fuel_lt (by decide)) h
  refine ⟨w2, ?_, A2⟩
  unfold FX6_append
  exact E_c (by rw [h.1.c]; exact h6) e2
theorem rf_loop (h9 : hc w m = 9) (n180 : n ≤ 180) (hF : ∀ k, k < 5 → ∀ i, i < 4 → F (4 * k + i) = byV (wd k) i) : ∀ d j N w1, j + d = 20 → d < N → Fr (P01 m) w w1 → hi w1 m 1 = nI n → (∀ i, ha w1 m 0 i = if n ≤ i ∧ i < n + j then F (i - n) else ha w m 0 i) → ∃ w2, FX9_feed_15 N w1 m (wd 0) (wd 1) (wd 2) (wd 3) (wd 4) (nI j) = some (nI (n + 20), w2) ∧ AP w w2 m n 20 F := by
  intro d
  induction d with
  | zero =>
    intro j N w1 he hN f1 h1 h2
    obtain ⟨N, rfl⟩ : ∃ z, N = z + 1 := ⟨N - 1, by omega⟩
    have j20 : j = 20 := by omega
    subst j20
    refine ⟨setI w1 m 1 (nI (n + 20)), ?_, f1.trans (Fr.sI ⟨rfl, Or.inr rfl⟩), by rw [hi_setI, if_pos ⟨rfl, rfl⟩], fun i => by rw [ha_setI]; exact h2 i⟩
    rw [FX9_feed_15, h1, l20_, nI_add]
    refine E_t (nI_le (Nat.le_refl _) (by decide)) (E_d ?_)
    rw [hi_setI, if_pos ⟨rfl, rfl⟩]
  | succ d ih =>
    intro j N w1 he hN f1 h1 h2
    obtain ⟨N, rfl⟩ : ∃ z, N = z + 1 := ⟨N - 1, by omega⟩
    obtain ⟨w2, e2, A2⟩ := ih (j + 1) N (setA w1 m 0 (n + j) (F j)) (by omega) (by omega) (f1.trans (Fr.sA ⟨rfl, Or.inl rfl⟩)) h1 (by
      intro i
      rw [ha_setA, if_pos ⟨rfl, rfl⟩]
      by_cases e : i = n + j
      · subst e
        rw [upd_s, if_pos (by omega), show n + j - n = j from by omega]
      · rw [upd_n e, h2]
        by_cases q : n ≤ i ∧ i < n + j
        · rw [if_pos q, if_pos (by omega)]
        · rw [if_neg q, if_neg (by omega)])
    refine ⟨w2, ?_, A2⟩
    have body : ∀ k, j / 4 = k → FX9_feed_68 (FX9_feed_15 N) w1 m (wd 0) (wd 1) (wd 2) (wd 3) (wd 4) (nI j) (wd k) = some (nI (n + 20), w2) := by
      intro k hk
      unfold FX9_feed_68
      rw [h1, nI_add, sh_r j (by omega), nI_clamp (by omega)]
      refine E_i rfl (by omega) (by decide) (E_d ?_)
      have := hF k (by omega) (j % 4) (by omega)
      rw [show 4 * k + j % 4 = j from by omega] at this
      rw [nI_1, ← e2, this]
      rfl
    rw [FX9_feed_15]
    refine E_f (nI_ge (b := 20) (by omega) (by decide)) ?_
    by_cases c4 : 4 ≤ j
    · refine E_t (nI_le (a := 4) c4 (by omega)) ?_
      by_cases c8 : 8 ≤ j
      · refine E_t (nI_le (a := 8) c8 (by omega)) ?_
        by_cases c12 : 12 ≤ j
        · refine E_t (nI_le (a := 12) c12 (by omega)) ?_
          by_cases c16 : 16 ≤ j
          · exact E_t (nI_le (a := 16) c16 (by omega)) (body 4 (by omega))
          · exact E_f (nI_ge (b := 16) (by omega) (by decide)) (body 3 (by omega))
        · exact E_f (nI_ge (b := 12) (by omega) (by decide)) (body 2 (by omega))
      · exact E_f (nI_ge (b := 8) (by omega) (by decide)) (body 1 (by omega))
    · exact E_f (nI_ge (b := 4) (by omega) (by decide)) (body 0 (by omega))
/-- both answer the same, and change the tapes alone -/
def TS (w : HS) (x t m : Nat) (F8 F9 : HS → Nat → Option (Int32 × HS)) : Prop := ∃ z w1 w2 n', F8 w x = some (z, w1) ∧ F9 w1 m = some (z, w2) ∧ Fr (fun b k => P01 t b k ∨ P01 m b k) w w2 ∧ TV w2 t m n'
theorem feed_both {x : Nat} (h8 : hc w x = 8) (h0 : hp w x 0 = some t) (T : TV w t m n) (u0 u1 u2 u3 u4 : Int32) : TS w x t m (fun w x => FX8_feed w x u0 u1 u2 u3 u4) (fun w m => FX9_feed w m u0 u1 u2 u3 u4) := by
  obtain ⟨t1, t2, t3, t4, t5, t6⟩ := id T
  have tm : t ≠ m := by intro e; rw [e, t2] at t1; cases t1
  have xt : x ≠ t := by intro e; rw [e, t1] at h8; cases h8
  by_cases n180 : n ≤ 180
  · obtain ⟨wd, hwd⟩ : ∃ wd : Nat → Int32, wd = fun k => if k = 0 then u0 else if k = 1 then u1 else if k = 2 then u2 else if k = 3 then u3 else u4 := ⟨_, rfl⟩
    obtain ⟨F, hF0⟩ : ∃ F : Nat → Int32, F = fun i => byV (wd (i / 4)) (i % 4) := ⟨_, rfl⟩
    have hF : ∀ k, k < 5 → ∀ i, i < 4 → F (4 * k + i) = byV (wd k) i := by
      intro k hk i hi
      rw [hF0]
      show byV (wd ((4 * k + i) / 4)) ((4 * k + i) % 4) = _
      rw [show (4 * k + i) / 4 = k from by omega, show (4 * k + i) % 4 = i from by omega]
    have A0 : AP w w t n (4 * 0) F := ⟨Fr.refl, t3, fun i => by rw [if_neg (by omega)]⟩
    obtain ⟨a1, e1, A1⟩ := ap_word (k := 0) t1 n180 (by decide) (hF 0 (by decide)) A0
    obtain ⟨a2, e2, A2⟩ := ap_word (k := 1) t1 n180 (by decide) (hF 1 (by decide)) A1
    obtain ⟨a3, e3, A3⟩ := ap_word (k := 2) t1 n180 (by decide) (hF 2 (by decide)) A2
    obtain ⟨a4, e4, A4⟩ := ap_word (k := 3) t1 n180 (by decide) (hF 3 (by decide)) A3
    obtain ⟨a5, e5, A5⟩ := ap_word (k := 4) t1 n180 (by decide) (hF 4 (by decide)) A4
    have p : ∀ {a : HS} {j : Nat}, AP w a t n j F → hp a x 0 = some t := fun A => by rw [A.1.o (by unfold P01; omega)]; exact h0
    obtain ⟨b, eb, Ab⟩ := rf_loop (w := a5) (m := m) (n := n) (wd := wd) (F := F) (by rw [A5.1.c]; exact t2) n180 hF 20 0 FUEL a5 rfl (fuel_lt (by decide)) Fr.refl (by rw [A5.1.i (by unfold P01; omega)]; exact t4) (fun i => by rw [if_neg (by omega)])
    rw [hwd] at e1 e2 e3 e4 e5 eb
    refine ⟨nI (n + 20), a5, b, n + 20, ?_, ?_, (A5.1.mono (fun b k z => Or.inl z)).trans (Ab.1.mono (fun b k z => Or.inr z)), ?_⟩
    · dsimp only
      unfold FX8_feed
      refine E_c h8 ?_
      rw [h0]
      refine E_c t1 (E_t (by rw [t3]; exact nI_le (b := 180) n180 (by decide)) ?_)
      refine E_b rfl (E_b e1 ?_)
      dsimp only
      rw [p A1]
      refine E_b rfl (E_b e2 ?_)
      dsimp only
      rw [p A2]
      refine E_b rfl (E_b e3 ?_)
      dsimp only
      rw [p A3]
      refine E_b rfl (E_b e4 ?_)
      dsimp only
      rw [p A4]
      refine E_b rfl (E_b e5 ?_)
      dsimp only
      rw [p A5]
      refine E_c (by rw [A5.1.c]; exact t1) ?_
      rw [A5.2.1]
    · dsimp only
      unfold FX9_feed
      exact E_c (by rw [A5.1.c]; exact t2) (E_t (by rw [A5.1.i (by unfold P01; omega), t4]; exact nI_le (b := 180) n180 (by decide)) eb)
    · refine ⟨by rw [Ab.1.c, A5.1.c]; exact t1, by rw [Ab.1.c, A5.1.c]; exact t2, by rw [Ab.1.i (by unfold P01; omega)]; exact A5.2.1, Ab.2.1, by omega, fun i hi => ?_⟩
      rw [Ab.1.ar (by unfold P01; omega), A5.2.2 i, Ab.2.2 i]
      by_cases q : n ≤ i ∧ i < n + 20
      · rw [if_pos q, if_pos q]
      · rw [if_neg q, if_neg q, A5.1.ar (by unfold P01; omega)]
        exact t6 i (by omega)
  · refine ⟨-1, w, w, n, ?_, ?_, Fr.refl, T⟩
    · dsimp only
      unfold FX8_feed
      refine E_c h8 ?_
      rw [h0]
      exact E_c t1 (E_f (by rw [t3]; exact nI_ge (a := 180) (by omega) (by omega)) rfl)
    · dsimp only
      unfold FX9_feed
      exact E_c t2 (E_f (by rw [t4]; exact nI_ge (a := 180) (by omega) (by omega)) rfl)
theorem end_both {x : Nat} (h8 : hc w x = 8) (h0 : hp w x 0 = some t) (T : TV w t m n) (u0 : Int32) : TS w x t m (fun w x => FX8_end w x u0) (fun w m => FX9_end w m u0) := by
  obtain ⟨t1, t2, t3, t4, t5, t6⟩ := id T
  have tm : t ≠ m := by intro e; rw [e, t2] at t1; cases t1
  rcases idx (u := u0) (n := n + 1) (by omega) with hu | ⟨j, hj, rfl⟩
  · refine ⟨-1, w, w, n, ?_, ?_, Fr.refl, T⟩
    · dsimp only
      unfold FX8_end
      refine E_c h8 ?_
      by_cases z : u0 < 0
      · exact E_t z rfl
      · refine E_f z ?_
        rw [h0]
        refine E_c t1 (E_f ?_ rfl)
        rw [t3]
        obtain ⟨i, i1, rfl⟩ := nI_of z
        have : ¬ i < n + 1 := fun q => nI_ge q (by omega) (hu.resolve_left z)
        exact nI_ge (by omega) i1
    · dsimp only
      unfold FX9_end
      rw [t4]
      rcases isin_c w u0 n (a := 0) (by decide) rfl (by omega) with ⟨k, hk, e, _⟩ | ⟨_, ei⟩
      · exact absurd e (ne_c hu (by omega) (by omega))
      · exact E_c t2 (E_b ei (E_t rfl rfl))
  · refine ⟨nI j, setI w t 1 (nI j), setI (setI w t 1 (nI j)) m 1 (nI j), j, ?_, ?_, (Fr.sI (Or.inl ⟨rfl, Or.inr rfl⟩)).trans (Fr.sI (Or.inr ⟨rfl, Or.inr rfl⟩)), t1, t2, ?_, ?_, by omega, fun i hi => t6 i (by omega)⟩
    · dsimp only
      unfold FX8_end
      refine E_c h8 (E_f (nI_pos (by omega)) ?_)
      rw [h0]
      exact E_c t1 (E_t (by rw [t3]; exact nI_le (by omega) (by omega)) (E_c t1 (E_d rfl)))
    · dsimp only
      unfold FX9_end
      rw [hi_setI, if_neg (fun q => tm q.1.symm), t4]
      rcases isin_c (setI w t 1 (nI j)) (nI j) n (a := 0) (by decide) rfl (by omega) with ⟨k, hk, e, ei⟩ | ⟨hu, _⟩
      · exact E_c t2 (E_b ei (E_f i10 (E_d rfl)))
      · exact absurd rfl (ne_c hu (by omega) (by omega))
    · rw [hi_setI, if_neg (fun q => tm q.1), hi_setI, if_pos ⟨rfl, rfl⟩]
    · rw [hi_setI, if_pos ⟨rfl, rfl⟩]
end TA
