/-! The tape and its signs. -/
def sgL (s : Nat) : List Nat := match s with
  | 0 => [118, 97, 115, 107, 110, 109, 98]
  | 1 => [48, 49]
  | 2 => [119, 114]
  | 3 => [58]
  | 4 => [48, 49, 120]
  | 5 => [47]
  | 6 => [44]
  | 7 => [117, 112]
  | 8 => [100, 111, 119, 110]
  | 9 => [97, 110, 121]
  | 10 => [40]
  | 11 => [114, 119]
  | 12 => [48, 49]
  | 13 => [44, 41]
  | 14 => [59]
  | _ => []
theorem strB_eq : ∀ s, s < 15 → strB s = (sgL s).map nI := by decide +kernel
theorem sgL_b : ∀ s, s < 15 → 0 < (sgL s).length ∧ (sgL s).length < 8 ∧ ∀ i, i < 8 → (sgL s).getD i 0 < 128 := by decide +kernel
theorem strB_at {s i : Nat} (hs : s < 15) (hi : i < (sgL s).length) : (strB s).getD i 0 = nI ((sgL s).getD i 0) := by
  rw [strB_eq s hs, List.getD_eq_getElem?_getD, List.getD_eq_getElem?_getD, List.getElem?_map, List.getElem?_eq_getElem hi]
  rfl
theorem strB_len {s : Nat} (hs : s < 15) : (strB s).length = (sgL s).length := by rw [strB_eq s hs, List.length_map]
theorem ch_eq : ∀ k, k < 256 → ∀ g, g < 128 → (nI g = ((nI k).toUInt32 % 65536).toInt32.toInt8.toInt32 ↔ g = k) := by decide +kernel
theorem ch_rg : ∀ k, k < 256 → ¬ ((nI k).toUInt32 % 65536).toInt32 < 0 ∧ ¬ (255 : Int32) < ((nI k).toUInt32 % 65536).toInt32 := by decide +kernel
/-- which of these signs -/
def ixL (s k : Nat) : Option Nat := fsN (fun i => decide ((sgL s).getD i 0 = k)) 0 (sgL s).length
theorem ix_loop {s k : Nat} (hs : s < 15) (hk : k < 256) (w : HS) : ∀ d i n, i + d = (sgL s).length → d < n → FJ1_indexOfChar_4cfef_7 n w s (nI (sgL s).length) ((nI k).toUInt32 % 65536).toInt32.toInt8.toInt32 (nI i) = some (oI (fsN (fun i => decide ((sgL s).getD i 0 = k)) i d), w) := by
  obtain ⟨s1, s2, s3⟩ := sgL_b s hs
  intro d
  induction d with
  | zero =>
    intro i n he hn
    obtain ⟨n, rfl⟩ : ∃ z, n = z + 1 := ⟨n - 1, by omega⟩
    rw [FJ1_indexOfChar_4cfef_7]
    exact E_t (nI_le (by omega) (by omega)) rfl
  | succ d ih =>
    intro i n he hn
    obtain ⟨n, rfl⟩ : ∃ z, n = z + 1 := ⟨n - 1, by omega⟩
    rw [FJ1_indexOfChar_4cfef_7, nI_clamp (by omega), strB_at hs (by omega)]
    refine E_f (nI_ge (by omega) (by omega)) (E_k (decide_eq_true hs) (E_i rfl (by rw [strB_len hs]; omega) (by rw [strB_len hs]; omega) ?_))
    by_cases e : (sgL s).getD i 0 = k
    · rw [fsN_t (decide_eq_true e)]
      exact E_t ((ch_eq k hk _ (s3 i (by omega))).mpr e) rfl
    · rw [fsN_f (fun q => e (of_decide_eq_true q)), nI_1]
      exact E_f (fun q => e ((ch_eq k hk _ (s3 i (by omega))).mp q)) (ih (i + 1) n (by omega) (by omega))
theorem ix_eq {s k : Nat} (hs : s < 15) (hk : k < 256) (w : HS) : FJ0_indexOf_0f7a4 w s ((nI k).toUInt32 % 65536).toInt32 = some (oI (ixL s k), w) := by
  obtain ⟨s1, s2, s3⟩ := sgL_b s hs
  obtain ⟨c1, c2⟩ := ch_rg k hk
  have len : FJ0_length_8abf5 w s = some (nI (sgL s).length, w) := by
    unfold FJ0_length_8abf5 FJ0_coder_7d493
    refine E_k (decide_eq_true hs) (E_k (decide_eq_true hs) (E_k (decide_eq_true hs) (E_b (E_k (decide_eq_true hs) (E_k (decide_eq_true hs) rfl)) ?_)))
    rw [strB_len hs]
    have : ∀ l, l < 8 → ((Int32.ofNat l) >>> ((0 : Int32) &&& 31)) = nI l := by decide
    rw [this _ s2]
  have lat : FJ0_isLatin1_aae02 w s = some (1, w) := by
    unfold FJ0_isLatin1_aae02
    exact E_k (decide_eq_true hs) (E_k (decide_eq_true hs) rfl)
  have inner : FJ1_indexOf_4cfef w s ((nI k).toUInt32 % 65536).toInt32 0 (nI (sgL s).length) = some (oI (ixL s k), w) := by
    unfold FJ1_indexOf_4cfef FJ1_canEncode_9a6ad
    refine E_b (E_f c1 (E_f c2 rfl)) (E_f (show ¬ (1 : Int32) = 0 by decide) (E_k (decide_eq_true hs) ?_))
    rw [show (if (0 : Int32) < (0 : Int32) then (0 : Int32) else 0) = nI 0 from rfl, show (Int32.ofNat (strB s).length) = nI (sgL s).length from by rw [strB_len hs]; rfl, show (if nI (sgL s).length < nI (sgL s).length then nI (sgL s).length else nI (sgL s).length) = nI (sgL s).length from by split <;> rfl]
    refine E_t (nI_lt s1 (by omega)) ?_
    unfold FJ1_indexOfChar_4cfef
    exact E_b (ix_loop hs hk w (sgL s).length 0 FUEL (by omega) (fuel_lt (by omega))) rfl
  unfold FJ0_indexOf_0f7a4 FJ0_indexOf_7cf53
  exact E_k (decide_eq_true hs) (E_b (E_k (decide_eq_true hs) (E_b lat (E_f (show ¬ (1 : Int32) = 0 by decide) (E_k (decide_eq_true hs) (E_b len (E_b inner rfl)))))) rfl)
-- bytes
def bI (β : Nat → Nat) (n i : Nat) : Int32 := if i < n then nI (β i) else -1
/-- class: the tape's bytes, its place and its fault -/
def TP (w : HS) (t : Nat) (β : Nat → Nat) (n p f : Nat) : Prop := hc w t = 6 ∧ hi w t 1 = nI n ∧ n ≤ 200 ∧ (∀ i, i < n → (ha w t 0 i &&& (255 : Int32)) = nI (β i)) ∧ hi w t 2 = nI p ∧ p ≤ n ∧ hi w t 3 = nI f ∧ f < 2000
def P6 (t : Nat) : Nat → Nat → Prop := fun b k => b = t ∧ (k = 2 ∨ k = 3)
theorem TP.fr {P : Nat → Nat → Prop} {w w' : HS} {t n p f : Nat} {β : Nat → Nat} (h : TP w t β n p f) (F : Fr P w w') (hn : ∀ k, ¬ P t k) : TP w' t β n p f := by
  unfold TP
  rw [F.c, F.i (hn 1), F.ar (hn 0), F.i (hn 2), F.i (hn 3)]
  exact h
theorem TP.pl {w : HS} {t n p f p' : Nat} {β : Nat → Nat} (h : TP w t β n p f) (hp : p' ≤ n) : TP (setI w t 2 (nI p')) t β n p' f := by
  obtain ⟨h1, h2, h3, h4, h5, h6, h7, h8⟩ := h
  exact ⟨h1, by rw [hi_setI, if_neg (by omega)]; exact h2, h3, h4, by rw [hi_setI, if_pos ⟨rfl, rfl⟩], hp, by rw [hi_setI, if_neg (by omega)]; exact h7, h8⟩
theorem TP.fa {w : HS} {t n p f f' : Nat} {β : Nat → Nat} (h : TP w t β n p f) (hf : f' < 2000) : TP (setI w t 3 (nI f')) t β n p f' := by
  obtain ⟨h1, h2, h3, h4, h5, h6, h7, h8⟩ := h
  exact ⟨h1, by rw [hi_setI, if_neg (by omega)]; exact h2, h3, h4, by rw [hi_setI, if_neg (by omega)]; exact h5, h6, by rw [hi_setI, if_pos ⟨rfl, rfl⟩], hf⟩
theorem tp_byte {w : HS} {t n p f i : Nat} {β : Nat → Nat} (h : TP w t β n p f) (hi' : i < 2 ^ 31) : FX6_byteAt w t (nI i) = some (bI β n i, w) := by
  obtain ⟨h1, h2, h3, h4, h5, h6, h7, h8⟩ := h
  unfold FX6_byteAt bI
  rw [h2]
  refine E_c h1 (E_f (nI_pos hi') ?_)
  by_cases hn : i < n
  · rw [if_pos hn]
    refine E_f (nI_ge hn (by omega)) (E_f (nI_ge (b := 200) (by omega) (by decide)) (E_i rfl (by omega) (by decide) ?_))
    rw [nI_clamp hi', h4 i hn]
  · rw [if_neg hn]
    exact E_t (nI_le (by omega) hi') rfl
/-- where the next byte that is no blank stands -/
def skD (β : Nat → Nat) : Nat → Nat → Nat
  | 0, p => p
  | d + 1, p => if β p = 32 then skD β d (p + 1) else p
def sk (β : Nat → Nat) (n p : Nat) : Nat := skD β (n - p) p
theorem skD_le (β : Nat → Nat) : ∀ d p, p ≤ skD β d p ∧ skD β d p ≤ p + d := by
  intro d
  induction d with
  | zero => intro p; exact ⟨Nat.le_refl _, Nat.le_refl _⟩
  | succ d ih =>
    intro p
    unfold skD
    split
    · have := ih (p + 1); omega
    · omega
theorem sk_le {β : Nat → Nat} {n p : Nat} (h : p ≤ n) : p ≤ sk β n p ∧ sk β n p ≤ n := by
  have := skD_le β (n - p) p
  unfold sk
  omega
theorem skD_nb (β : Nat → Nat) : ∀ d p, skD β d p < p + d → β (skD β d p) ≠ 32 := by
  intro d
  induction d with
  | zero => intro p h; have := (skD_le β 0 p).1; omega
  | succ d ih =>
    intro p h
    unfold skD at h ⊢
    by_cases e : β p = 32
    · rw [if_pos e] at h ⊢
      exact ih (p + 1) (by omega)
    · rw [if_neg e]; exact e
theorem skD_id {β : Nat → Nat} {p : Nat} (h : β p ≠ 32) : ∀ d, skD β d p = p := by
  intro d
  cases d with
  | zero => rfl
  | succ d => unfold skD; rw [if_neg h]
theorem sk_sk {β : Nat → Nat} {n p : Nat} (h : p ≤ n) : sk β n (sk β n p) = sk β n p := by
  have h1 := sk_le (β := β) h
  by_cases e : sk β n p = n
  · rw [e]
    unfold sk
    rw [Nat.sub_self]
    rfl
  · have := skD_nb β (n - p) p (by have := skD_le β (n - p) p; unfold sk at e h1; omega)
    exact skD_id this _
theorem bI_32 {β : Nat → Nat} {n i : Nat} (hb : ∀ i, β i < 256) : bI β n i = (32 : Int32) ↔ i < n ∧ β i = 32 := by
  unfold bI
  have := hb i
  by_cases h : i < n
  · rw [if_pos h]
    exact ⟨fun q => ⟨h, (nI_eq (a := β i) (b := 32) (by omega) (by decide)).mp q⟩, fun q => by rw [q.2]; rfl⟩
  · rw [if_neg h]
    exact ⟨fun q => absurd q (by decide), fun q => absurd q.1 h⟩
theorem tp_next_loop {t n f : Nat} {β : Nat → Nat} (hb : ∀ i, β i < 256) : ∀ d p k w, p + d = n → d < k → TP w t β n p f → ∃ w', FX6_nextPlace_0 k w t = some (nI (skD β d p), w') ∧ Fr (P6 t) w w' ∧ TP w' t β n (skD β d p) f := by
  intro d
  induction d with
  | zero =>
    intro p k w he hk h
    obtain ⟨k, rfl⟩ : ∃ z, k = z + 1 := ⟨k - 1, by omega⟩
    obtain ⟨h1, h2, h3, h4, h5, h6, h7, h8⟩ := id h
    refine ⟨w, ?_, Fr.refl, h⟩
    rw [FX6_nextPlace_0, h2, h5]
    exact E_t (nI_le (by omega) (by omega)) rfl
  | succ d ih =>
    intro p k w he hk h
    obtain ⟨k, rfl⟩ : ∃ z, k = z + 1 := ⟨k - 1, by omega⟩
    obtain ⟨h1, h2, h3, h4, h5, h6, h7, h8⟩ := id h
    have hbt := tp_byte (i := p) h (by omega)
    by_cases e : β p = 32
    · obtain ⟨w', e1, f1, t1⟩ := ih (p + 1) k (setI w t 2 (nI (p + 1))) (by omega) (by omega) (h.pl (by omega))
      have es : skD β (d + 1) p = skD β d (p + 1) := by rw [skD, if_pos e]
      refine ⟨w', ?_, (Fr.sI (p := P6 t) ⟨rfl, Or.inl rfl⟩).trans f1, by rw [es]; exact t1⟩
      rw [es, FX6_nextPlace_0, h2, h5]
      refine E_f (nI_ge (by omega) (by omega)) (E_b hbt (E_t ((bI_32 hb).mpr ⟨by omega, e⟩) (E_d ?_)))
      dsimp only
      rw [h5, nI_1]
      exact e1
    · have es : skD β (d + 1) p = p := skD_id e _
      rw [es]
      refine ⟨w, ?_, Fr.refl, h⟩
      rw [FX6_nextPlace_0, h2, h5]
      refine E_f (nI_ge (by omega) (by omega)) (E_b hbt (E_f (fun q => e ((bI_32 hb).mp q).2) ?_))
      dsimp only
      rw [h5]
theorem tp_next {w : HS} {t n p f : Nat} {β : Nat → Nat} (hb : ∀ i, β i < 256) (h : TP w t β n p f) : ∃ w', FX6_nextPlace w t = some (nI (sk β n p), w') ∧ Fr (P6 t) w w' ∧ TP w' t β n (sk β n p) f := by
  obtain ⟨h1, h2, h3, h4, h5, h6, h7, h8⟩ := id h
  obtain ⟨w', e1, f1, t1⟩ := tp_next_loop hb (n - p) p FUEL w (by omega) (fuel_lt (by omega)) h
  refine ⟨w', ?_, f1, t1⟩
  unfold FX6_nextPlace
  exact E_c h1 e1
theorem tp_blame {w : HS} {t n p f at' y : Nat} {β : Nat → Nat} (h : TP w t β n p f) (hat : at' ≤ 200) (hy : y < 8) (hy0 : 0 < y) : ∃ w', FX6_blame w t (nI at') (nI y) = some ((), w') ∧ Fr (P6 t) w w' ∧ TP w' t β n p (if f = 0 then 8 * at' + y else f) := by
  obtain ⟨h1, h2, h3, h4, h5, h6, h7, h8⟩ := id h
  unfold FX6_blame
  rw [h7]
  by_cases e : f = 0
  · rw [if_pos e]
    refine ⟨setI w t 3 (nI (8 * at' + y)), E_c h1 (E_t (by rw [e]; rfl) (E_d ?_)), Fr.sI ⟨rfl, Or.inr rfl⟩, h.fa (by omega)⟩
    rw [show ((8 : Int32) * nI at') + nI y = nI (8 * at' + y) from by rw [l8_, nI_mul, nI_add]]
  · rw [if_neg e]
    exact ⟨w, E_c h1 (E_f (nI_ne0 (by omega) (by omega)) rfl), Fr.refl, h⟩
/-- a sign is taken: which one, the place, the fault -/
def tkP (β : Nat → Nat) (n s p f : Nat) : Option Nat × Nat × Nat := if f = 0 then (if sk β n p < n then (match ixL s (β (sk β n p)) with
    | some j => (some j, sk β n p + 1, 0)
    | none => (none, sk β n p, 8 * sk β n p + 1)) else (none, sk β n p, 8 * sk β n p + 1)) else (none, sk β n p, f)
theorem ixL_lt {s k j : Nat} (h : ixL s k = some j) : j < (sgL s).length ∧ (sgL s).getD j 0 = k := by
  have := fsN_some h
  exact ⟨by omega, of_decide_eq_true this.2.2⟩
theorem tp_take {w : HS} {t n p f s : Nat} {β : Nat → Nat} (hb : ∀ i, β i < 256) (hs : s < 15) (h : TP w t β n p f) : ∃ w', FX6_take w t s = some (oI (tkP β n s p f).1, w') ∧ Fr (P6 t) w w' ∧ TP w' t β n (tkP β n s p f).2.1 (tkP β n s p f).2.2 := by
  obtain ⟨s1, s2, s3⟩ := sgL_b s hs
  obtain ⟨w1, e1, f1, t1⟩ := tp_next hb h
  obtain ⟨g1, g2, g3, g4, g5, g6, g7, g8⟩ := id t1
  have sl := sk_le (β := β) (n := n) (p := p) h.2.2.2.2.2.1
  have hbt := tp_byte (i := sk β n p) t1 (by omega)
  have fail : ∀ q : Nat × Nat, q = (if f = 0 then (sk β n p, 8 * sk β n p + 1) else (sk β n p, f)) → ∃ w', FX6_take_31 w1 t (-1) = some (-1, w') ∧ Fr (P6 t) w1 w' ∧ TP w' t β n q.1 q.2 := by
    intro q hq
    obtain ⟨w2, e2, f2, t2⟩ := tp_blame (at' := sk β n p) (y := 1) t1 (by omega) (by decide) (by decide)
    refine ⟨w2, ?_, f2, ?_⟩
    · unfold FX6_take_31
      refine E_f (by decide) ?_
      rw [g5]
      exact E_b e2 rfl
    · subst hq
      by_cases z : f = 0
      · rw [if_pos z] at t2 ⊢; exact t2
      · rw [if_neg z] at t2 ⊢; exact t2
  unfold FX6_take tkP
  by_cases hf : f = 0
  · rw [if_pos hf]
    rw [if_pos hf] at fail
    by_cases hn : sk β n p < n
    · rw [if_pos hn]
      have eb : bI β n (sk β n p) = nI (β (sk β n p)) := by unfold bI; rw [if_pos hn]
      rw [eb] at hbt
      cases e : ixL s (β (sk β n p)) with
      | none =>
        obtain ⟨w2, e2, f2, t2⟩ := fail _ rfl
        refine ⟨w2, E_c h.1 (E_b e1 (E_b hbt (E_t (by rw [g7, hf]; rfl) (E_f (nI_nM (by have := hb (sk β n p); omega)) (E_b (ix_eq hs (hb _) w1) ?_))))), f1.trans f2, t2⟩
        dsimp only
        rw [e]
        exact e2
      | some j =>
        have jl := ixL_lt e
        refine ⟨setI w1 t 2 (nI (sk β n p + 1)), E_c h.1 (E_b e1 (E_b hbt (E_t (by rw [g7, hf]; rfl) (E_f (nI_nM (by have := hb (sk β n p); omega)) (E_b (ix_eq hs (hb _) w1) ?_))))), f1.trans (Fr.sI ⟨rfl, Or.inl rfl⟩), ?_⟩
        · dsimp only
          rw [e]
          unfold FX6_take_31
          refine E_t (nI_pos' (show j < 2 ^ 31 by omega)) (E_d ?_)
          rw [g5, nI_1]
        · rw [hf] at t1
          exact t1.pl (by omega)
    · rw [if_neg hn]
      have eb : bI β n (sk β n p) = -1 := by unfold bI; rw [if_neg hn]
      rw [eb] at hbt
      obtain ⟨w2, e2, f2, t2⟩ := fail _ rfl
      refine ⟨w2, E_c h.1 (E_b e1 (E_b hbt (E_t (by rw [g7, hf]; rfl) (E_t rfl ?_)))), f1.trans f2, t2⟩
      unfold FX6_take_30
      exact e2
  · rw [if_neg hf]
    rw [if_neg hf] at fail
    obtain ⟨w2, e2, f2, t2⟩ := fail _ rfl
    refine ⟨w2, E_c h.1 (E_b e1 (E_b hbt (E_f (by rw [g7]; exact nI_ne0 (by omega) (by omega)) ?_))), f1.trans f2, t2⟩
    unfold FX6_take_30
    exact e2
-- reference
/-- reference: the tape's bytes, and where it reads -/
def TR (w : HS) (m : Nat) (β : Nat → Nat) (n p : Nat) : Prop := hc w m = 9 ∧ hi w m 1 = nI n ∧ n ≤ 200 ∧ (∀ i, i < n → (ha w m 0 i &&& (255 : Int32)) = nI (β i)) ∧ hi w m 2 = nI p ∧ p ≤ n
theorem TR.fr {P : Nat → Nat → Prop} {w w' : HS} {m n p : Nat} {β : Nat → Nat} (h : TR w m β n p) (F : Fr P w w') (n0 : ¬ P m 0) (n1 : ¬ P m 1) (n2 : ¬ P m 2) : TR w' m β n p := by
  unfold TR
  rw [F.c, F.i n1, F.ar n0, F.i n2]
  exact h
theorem TR.pl {w : HS} {m n p p' : Nat} {β : Nat → Nat} (h : TR w m β n p) (hp : p' ≤ n) : TR (setI w m 2 (nI p')) m β n p' := by
  obtain ⟨h1, h2, h3, h4, h5, h6⟩ := h
  exact ⟨h1, by rw [hi_setI, if_neg (by omega)]; exact h2, h3, h4, by rw [hi_setI, if_pos ⟨rfl, rfl⟩], hp⟩
theorem tr_byte {w : HS} {m n p i : Nat} {β : Nat → Nat} (h : TR w m β n p) (hi' : i < 2 ^ 31) : FX9_byteAt w m (nI i) = some (bI β n i, w) := by
  obtain ⟨h1, h2, h3, h4, h5, h6⟩ := h
  unfold FX9_byteAt bI
  rw [h2]
  refine E_c h1 ?_
  by_cases hn : i < n
  · rw [if_pos hn]
    refine E_f (nI_ge hn (by omega)) (E_i rfl (by omega) (by decide) ?_)
    rw [nI_clamp hi', h4 i hn]
  · rw [if_neg hn]
    exact E_t (nI_le (by omega) hi') rfl
def Pat (m : Nat) : Nat → Nat → Prop := fun b k => b = m ∧ k = 2
theorem tr_next_loop {m n : Nat} {β : Nat → Nat} (hb : ∀ i, β i < 256) : ∀ d p k w, p + d = n → d < k → TR w m β n p → ∃ w', FX9_next_0 k w m = some (bI β n (skD β d p), w') ∧ Fr (Pat m) w w' ∧ TR w' m β n (skD β d p) := by
  intro d
  induction d with
  | zero =>
    intro p k w he hk h
    obtain ⟨k, rfl⟩ : ∃ z, k = z + 1 := ⟨k - 1, by omega⟩
    obtain ⟨h1, h2, h3, h4, h5, h6⟩ := id h
    have hbt := tr_byte (i := p) h (by omega)
    refine ⟨w, ?_, Fr.refl, h⟩
    rw [FX9_next_0, h5]
    refine E_b hbt (E_f (fun q => by have := ((bI_32 hb).mp q).1; omega) ?_)
    dsimp only
    rw [h5]
    exact E_b hbt rfl
  | succ d ih =>
    intro p k w he hk h
    obtain ⟨k, rfl⟩ : ∃ z, k = z + 1 := ⟨k - 1, by omega⟩
    obtain ⟨h1, h2, h3, h4, h5, h6⟩ := id h
    have hbt := tr_byte (i := p) h (by omega)
    by_cases e : β p = 32
    · obtain ⟨w', e1, f1, t1⟩ := ih (p + 1) k (setI w m 2 (nI (p + 1))) (by omega) (by omega) (h.pl (by omega))
      have es : skD β (d + 1) p = skD β d (p + 1) := by rw [skD, if_pos e]
      refine ⟨w', ?_, (Fr.sI (p := Pat m) ⟨rfl, rfl⟩).trans f1, by rw [es]; exact t1⟩
      rw [es, FX9_next_0, h5]
      refine E_b hbt (E_t ((bI_32 hb).mpr ⟨by omega, e⟩) (E_d ?_))
      dsimp only
      rw [h5, nI_1]
      exact e1
    · have es : skD β (d + 1) p = p := skD_id e _
      rw [es]
      refine ⟨w, ?_, Fr.refl, h⟩
      rw [FX9_next_0, h5]
      refine E_b hbt (E_f (fun q => e ((bI_32 hb).mp q).2) ?_)
      dsimp only
      rw [h5]
      exact E_b hbt rfl
theorem tr_next {w : HS} {m n p : Nat} {β : Nat → Nat} (hb : ∀ i, β i < 256) (h : TR w m β n p) : ∃ w', FX9_next w m = some (bI β n (sk β n p), w') ∧ Fr (Pat m) w w' ∧ TR w' m β n (sk β n p) := by
  obtain ⟨h1, h2, h3, h4, h5, h6⟩ := id h
  obtain ⟨w', e1, f1, t1⟩ := tr_next_loop hb (n - p) p FUEL w (by omega) (fuel_lt (by omega)) h
  refine ⟨w', ?_, f1, t1⟩
  unfold FX9_next
  exact E_c h1 e1
theorem bI_eq {β : Nat → Nat} {n i c : Nat} (hb : ∀ i, β i < 256) (hc : c < 2 ^ 31) : bI β n i = nI c ↔ i < n ∧ β i = c := by
  unfold bI
  have := hb i
  by_cases h : i < n
  · rw [if_pos h]
    exact ⟨fun q => ⟨h, (nI_eq (by omega) hc).mp q⟩, fun q => by rw [q.2]⟩
  · rw [if_neg h]
    exact ⟨fun q => absurd q.symm (nI_nM hc), fun q => absurd q.1 h⟩
/-- the next sign is this one -/
theorem tr_takes {w : HS} {m n p c : Nat} {β : Nat → Nat} (hb : ∀ i, β i < 256) (hc : c < 2 ^ 31) (h : TR w m β n p) : (sk β n p < n ∧ β (sk β n p) = c ∧ ∃ w', FX9_takes w m (nI c) = some (1, w') ∧ Fr (Pat m) w w' ∧ TR w' m β n (sk β n p + 1)) ∨ (¬ (sk β n p < n ∧ β (sk β n p) = c) ∧ ∃ w', FX9_takes w m (nI c) = some (0, w') ∧ Fr (Pat m) w w' ∧ TR w' m β n (sk β n p)) := by
  obtain ⟨w1, e1, f1, t1⟩ := tr_next hb h
  unfold FX9_takes
  by_cases q : sk β n p < n ∧ β (sk β n p) = c
  · refine Or.inl ⟨q.1, q.2, setI w1 m 2 (nI (sk β n p + 1)), E_c h.1 (E_b e1 (E_t ((bI_eq hb hc).mpr q) (E_d ?_))), f1.trans (Fr.sI ⟨rfl, rfl⟩), t1.pl (by omega)⟩
    dsimp only
    rw [t1.2.2.2.2.1, nI_1]
  · exact Or.inr ⟨q, w1, E_c h.1 (E_b e1 (E_f (fun z => q ((bI_eq hb hc).mp z)) rfl)), f1, t1⟩
def Pfw (m : Nat) : Nat → Nat → Prop := fun b k => b = m ∧ (k = 2 ∨ k = 3 ∨ k = 4)
theorem Pat_Pfw {m : Nat} {w w' : HS} (f : Fr (Pat m) w w') : Fr (Pfw m) w w' := f.mono (fun b k z => ⟨z.1, Or.inl z.2⟩)
theorem tr_needs {w : HS} {m n p c : Nat} {β : Nat → Nat} (hb : ∀ i, β i < 256) (hc : c < 2 ^ 31) (h : TR w m β n p) : (sk β n p < n ∧ β (sk β n p) = c ∧ ∃ w', FX9_needs w m (nI c) = some (1, w') ∧ Fr (Pfw m) w w' ∧ TR w' m β n (sk β n p + 1) ∧ hi w' m 4 = hi w m 4) ∨ (¬ (sk β n p < n ∧ β (sk β n p) = c) ∧ ∃ w', FX9_needs w m (nI c) = some (0, w') ∧ Fr (Pfw m) w w' ∧ hi w' m 3 = nI (8 * sk β n p + 1)) := by
  unfold FX9_needs
  rcases tr_takes hb hc h with ⟨q1, q2, w1, e1, f1, t1⟩ | ⟨q, w1, e1, f1, t1⟩
  · exact Or.inl ⟨q1, q2, w1, E_c h.1 (E_b e1 (E_f (show ¬ (1 : Int32) = 0 by decide) rfl)), Pat_Pfw f1, t1, f1.i (by unfold Pat; omega)⟩
  · refine Or.inr ⟨q, setI w1 m 3 (nI (8 * sk β n p + 1)), E_c h.1 (E_b e1 (E_t rfl (E_b (a := (0, setI w1 m 3 (nI (8 * sk β n p + 1)))) ?_ (E_t rfl rfl)))), (Pat_Pfw f1).trans (Fr.sI ⟨rfl, Or.inr (Or.inl rfl)⟩), by rw [hi_setI, if_pos ⟨rfl, rfl⟩]⟩
    unfold FX9_fails
    refine E_c (by rw [f1.c]; exact h.1) (E_d ?_)
    dsimp only
    rw [t1.2.2.2.2.1, show ((8 : Int32) * nI (sk β n p)) + 1 = nI (8 * sk β n p + 1) from by rw [l8_, l1_, nI_mul, nI_add]]
