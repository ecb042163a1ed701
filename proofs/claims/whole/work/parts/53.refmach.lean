/-! The reference's fault machine is the rule book's. -/
section EE
variable {α β : Type} {w : HS} {r : Option α}
theorem E_k {b : Bool} {x : Option α} (hb : b = true) (h : x = r) : okb b x = r := by unfold okb; rw [if_pos hb]; exact h
theorem E_c {a ci : Nat} {x : Option α} (hb : hc w a = ci) (h : x = r) : okb (hc w a == ci) x = r := E_k (by rw [hb]; exact beq_self_eq_true ci) h
theorem E_i {i n : Nat} {j : Int32} {x : Option α} (hj : j = nI i) (hb : i < n) (hn : n < 2 ^ 31) (h : x = r) : okb (inb j n) x = r := E_k (by rw [hj]; exact inb_nI hb hn) h
theorem E_t {p : Prop} [Decidable p] {x y : Option α} (hp : p) (h : x = r) : (if p then x else y) = r := by rw [if_pos hp]; exact h
theorem E_f {p : Prop} [Decidable p] {x y : Option α} (hp : ¬ p) (h : y = r) : (if p then x else y) = r := by rw [if_neg hp]; exact h
theorem E_d {a : β} {f : β → Option α} (h : f a = r) : bnd a f = r := h
theorem E_b {x : Option β} {f : β → Option α} {a : β} (e : x = some a) (h : f a = r) : x.bind f = r := by rw [e]; exact h
end EE
def cI (c : Nat) : Int32 := if c = 7 then -1 else nI c
theorem cI_n {c : Nat} (h : c < 6) : cI c = nI c := if_neg (by omega)
theorem cI_eq : ∀ c, c < 8 → ∀ d, d < 8 → (cI c = cI d ↔ c = d) := by decide +kernel
theorem bit_c : ∀ x, x < 64 → ∀ c, c < 8 → c ≠ 6 → ((nI x >>> (cI c &&& 31)) &&& 1) = nI (bt x c) := by decide +kernel
def nb (w : HS) (m x : Nat) : HS := setA w m 16 0 (nI x)
theorem upd_upd (f : Nat → Int32) (i : Nat) (x y : Int32) : upd (upd f i x) i y = upd f i y := by
  funext j
  unfold upd
  by_cases h : j = i
  · rw [if_pos h, if_pos h]
  · rw [if_neg h, if_neg h, if_neg h]
theorem setA_setA (w : HS) (a k i : Nat) (x y : Int32) : setA (setA w a k i x) a k i y = setA w a k i y := by
  unfold setA
  rw [setR_setR, ha_setR, upd_upd]
theorem nb_nb (w : HS) (m x y : Nat) : nb (nb w m x) m y = nb w m y := setA_setA _ _ _ _ _ _
theorem nb_0 (w : HS) (m x : Nat) : ha (nb w m x) m 16 0 = nI x := by
  unfold nb
  rw [ha_setA, if_pos ⟨rfl, rfl⟩, upd_s]
theorem nb_j (w : HS) (m x : Nat) {j : Nat} (h : j ≠ 0) : ha (nb w m x) m 16 j = ha w m 16 j := by
  unfold nb
  rw [ha_setA, if_pos ⟨rfl, rfl⟩, upd_n h]
theorem nb_k (w : HS) (m x b : Nat) {k : Nat} (h : k ≠ 16) : ha (nb w m x) b k = ha w b k := by
  unfold nb
  rw [ha_setA, if_neg (fun e => h e.2)]
theorem nb_id {w : HS} {m x : Nat} (h : ha w m 16 0 = nI x) : nb w m x = w := by
  unfold nb setA
  have : upd (ha w m 16) 0 (nI x) = ha w m 16 := by
    funext j
    by_cases e : j = 0
    · subst e; rw [upd_s, h]
    · rw [upd_n e]
  rw [this, setR_id]
def WB (b : Book) : Prop := b.1 ≤ 4 ∧ 0 < b.1 ∧ (∀ r f, b.2 r f < 128) ∧ ∀ r, r < b.1 →
  (b.2 r 0 = 118 ∧ b.2 r 1 < 2 ∧ b.2 r 2 < 3 ∧ b.2 r 3 < 2 ∧ (b.2 r 2 = 2 → b.2 r 4 < 2)) ∨ (b.2 r 0 = 97 ∧ b.2 r 1 < 2 ∧ b.2 r 2 < 3 ∧ b.2 r 3 < 3) ∨
  (b.2 r 0 = 115 ∧ b.2 r 1 < 2 ∧ b.2 r 3 < 2) ∨ (b.2 r 0 = 107 ∧ b.2 r 3 < 2) ∨ (b.1 = 1 ∧ (b.2 r 0 = 110 ∧ b.2 r 3 < 2 ∨ b.2 r 0 = 109 ∨ b.2 r 0 = 98 ∧ b.2 r 3 < 2))
def isP (b : Book) (r : Nat) : Bool := decide (b.2 r 0 = 97 ∨ b.2 r 0 = 115 ∨ b.2 r 0 = 109 ∨ b.2 r 0 = 98)
def pr (b : Book) : Bool := (fsN (isP b) 0 b.1).isSome
theorem fsN_none {p : Nat → Bool} : ∀ {d i : Nat}, fsN p i d = none → ∀ r, i ≤ r → r < i + d → p r = false := by
  intro d
  induction d with
  | zero => intro i h r h1 h2; omega
  | succ d ih =>
    intro i h r h1 h2
    unfold fsN at h
    by_cases hp : p i = true
    · rw [if_pos hp] at h; cases h
    · rw [if_neg hp] at h
      by_cases e : r = i
      · subst e; simpa using hp
      · exact ih h r (by omega) (by omega)
theorem pr_of {b : Book} {r : Nat} (h : r < b.1) (hl : b.2 r 0 = 97 ∨ b.2 r 0 = 115 ∨ b.2 r 0 = 109 ∨ b.2 r 0 = 98) : pr b = true := by
  unfold pr
  cases e : fsN (isP b) 0 b.1 with
  | some _ => rfl
  | none =>
    have := fsN_none e r (Nat.zero_le _) (by omega)
    unfold isP at this
    rw [decide_eq_false_iff_not] at this
    exact absurd hl this
/-- reference: kind k is told by this book -/
def RK (w : HS) (m k : Nat) (b : Book) : Prop := ha w m 6 k = nI b.1 ∧ ∀ r, r < 4 → ∀ f, f < 5 → rl w m k r f = nI (b.2 r f)
/-- where a fault may lie -/
def PL (b : Book) (a v : Nat) : Prop := (b.1 = 0 ∧ a = 7 ∧ v = 7) ∨ (WB b ∧ v < 6 ∧ ((pr b = true ∧ a < 6 ∧ a ≠ v) ∨ (pr b = false ∧ a = 7)))
/-- reference: this fault is in it -/
def RF (w : HS) (m : Nat) (b : Book) (a v : Nat) : Prop := hc w m = 9 ∧ ha w m 16 2 = cI a ∧ ha w m 16 3 = cI v ∧ PL b a v ∧ ((ha w m 16 1 = -1 ∧ b.1 = 0) ∨ ∃ k, k < 8 ∧ ha w m 16 1 = nI k ∧ RK w m k b ∧ 0 < b.1)
theorem RF.nb {w : HS} {m a v x : Nat} {b : Book} (h : RF w m b a v) : RF (nb w m x) m b a v := by
  obtain ⟨h1, h2, h3, h4, h5⟩ := h
  refine ⟨h1, by rw [nb_j _ _ _ (by decide)]; exact h2, by rw [nb_j _ _ _ (by decide)]; exact h3, h4, ?_⟩
  rcases h5 with ⟨h5, h6⟩ | ⟨k, k1, k2, k3, k4⟩
  · exact Or.inl ⟨by rw [nb_j _ _ _ (by decide)]; exact h5, h6⟩
  · refine Or.inr ⟨k, k1, by rw [nb_j _ _ _ (by decide)]; exact k2, ⟨?_, ?_⟩, k4⟩
    · rw [nb_k _ _ _ _ (by decide)]; exact k3.1
    · intro r hr f hf
      have := k3.2 r hr f hf
      unfold rl at this ⊢
      rw [nb_k _ _ _ _ (by decide)]; exact this
theorem RF.wb {w : HS} {m a v : Nat} {b : Book} (h : RF w m b a v) (h0 : 0 < b.1) : WB b ∧ v < 6 ∧ ((pr b = true ∧ a < 6 ∧ a ≠ v) ∨ (pr b = false ∧ a = 7)) := by
  rcases h.2.2.2.1 with q | q
  · omega
  · exact q
theorem PL.a8 {b : Book} {a v : Nat} (h : PL b a v) : a < 8 ∧ a ≠ 6 ∧ v < 8 ∧ v ≠ 6 := by
  rcases h with ⟨_, h1, h2⟩ | ⟨_, h2, h3⟩
  · omega
  · rcases h3 with ⟨_, h3, _⟩ | ⟨_, h3⟩ <;> omega
def oN (o : Option Nat) : Int32 := match o with
  | some z => nI z
  | none => -1
theorem nI_nM {n : Nat} (h : n < 2 ^ 31) : ¬ nI n = -1 := by
  intro e
  have := congrArg Int32.toInt e
  rw [nI_toInt h, show (-1 : Int32).toInt = -1 from by decide] at this
  omega
theorem ru_eq {w : HS} {m k l : Nat} {b : Book} {of by_ : Option Nat} (h : RK w m k b) (hb : b.1 ≤ 4) (hf : ∀ r f, b.2 r f < 128) (hl : l < 128) (ho : ∀ z, of = some z → z < 128) (hy : ∀ z, by_ = some z → z < 128) :
    fstI (rlP w m k (nI l) (oN of) (oN by_)) 0 b.1 = oI (ru b l of by_) := by
  rw [fstI_fsN]
  unfold ru
  congr 1
  apply fsN_congr
  intro r _ hr
  unfold rlP
  rw [decide_eq_decide, h.2 r (by omega) 0 (by decide), h.2 r (by omega) 1 (by decide), h.2 r (by omega) 2 (by decide)]
  have b0 := hf r 0
  have b1 := hf r 1
  have b2 := hf r 2
  refine and_congr (nI_eq (by omega) (by omega)) (and_congr ?_ ?_)
  · cases of with
    | none => exact ⟨fun _ z e => (by cases e), fun _ => Or.inl (by decide)⟩
    | some z =>
      have := ho z rfl
      constructor
      · intro q y e
        cases e
        rcases q with q | q
        · exact absurd q (nI_pos (by omega))
        · exact (nI_eq (by omega) (by omega)).mp q
      · intro q
        exact Or.inr ((nI_eq (by omega) (by omega)).mpr (q z rfl))
  · cases by_ with
    | none => exact ⟨fun _ z e => (by cases e), fun _ => Or.inl (by decide)⟩
    | some z =>
      have := hy z rfl
      constructor
      · intro q y e
        cases e
        rcases q with q | q
        · exact absurd q (nI_pos (by omega))
        · exact (nI_eq (by omega) (by omega)).mp q
      · intro q
        exact Or.inr ((nI_eq (by omega) (by omega)).mpr (q z rfl))
theorem ru_some {b : Book} {l r : Nat} {of by_ : Option Nat} (h : ru b l of by_ = some r) : r < b.1 ∧ b.2 r 0 = l ∧ (∀ z, of = some z → b.2 r 1 = z) ∧ (∀ z, by_ = some z → b.2 r 2 = z) := by
  obtain ⟨_, h2, h3⟩ := fsN_some h
  exact ⟨by omega, of_decide_eq_true h3⟩
theorem ru_0 {b : Book} {l : Nat} {of by_ : Option Nat} (h : b.1 = 0) : ru b l of by_ = none := by unfold ru; rw [h]; rfl
theorem ref_rule {w : HS} {m a v l : Nat} {b : Book} {of by_ : Option Nat} (R : RF w m b a v) (hl : l < 128) (ho : ∀ z, of = some z → z < 128) (hy : ∀ z, by_ = some z → z < 128) : FX9_ruleOf w m (nI l) (oN of) (oN by_) = some (oI (ru b l of by_), w) := by
  obtain ⟨h1, h2, h3, h4, h5⟩ := id R
  rcases h5 with ⟨h5, h6⟩ | ⟨k, k1, k2, k3, k4⟩
  · rw [ruleOf_no h1 h5, ru_0 h6]; rfl
  · have W := (R.wb k4).1
    rw [ruleOf_eq h1 (by omega) k3.1 W.1 k2, ru_eq k3 W.1 W.2.2.1 hl ho hy]
theorem ref_told {w : HS} {m a v r f : Nat} {b : Book} (R : RF w m b a v) (h0 : r < b.1) (hf : f < 5) : FX9_toldBy w m (nI r) (nI f) = some (nI (b.2 r f), w) := by
  obtain ⟨h1, h2, h3, h4, h5⟩ := id R
  rcases h5 with ⟨h5, h6⟩ | ⟨k, k1, k2, k3, k4⟩
  · omega
  · have W := (R.wb k4).1
    have := W.1
    rw [toldBy_eq h1 (by omega) (by omega) hf k2, k3.2 r (by omega) f hf]
theorem ref_sets {w : HS} {m x c d : Nat} (h : hc w m = 9) (hx : ha w m 16 0 = nI x) (x6 : x < 64) (hc6 : c < 6) (hd : d < 2) : FX9_sets w m (nI c) (nI d) = some ((), nb w m (sb x c d)) := by
  rw [sets_eq h, hx, wth_nI x x6 c hc6 d hd]
  rfl
theorem ref_bit {w : HS} {m x c : Nat} (h : hc w m = 9) (hx : ha w m 16 0 = nI x) (x6 : x < 64) (hc8 : c < 8) (h6 : c ≠ 6) : FX9_bit w m (cI c) = some (nI (bt x c), w) := by
  rw [bit_eq h, hx, bit_c x x6 c hc8 h6]
theorem stlL_lt {b : Book} {a v : Nat} (hv : v < 6) (hb : ∀ r, r < b.1 → b.2 r 0 = 115 → b.2 r 3 < 2) : ∀ d i x, i + d ≤ b.1 → x < 64 → stlL b a v i d x < 64 := by
  intro d
  induction d with
  | zero => intro i x _ h; exact h
  | succ d ih =>
    intro i x hi h
    unfold stlL
    apply ih _ _ (by omega)
    split
    · rename_i q
      exact sb_lt x h v hv _ (hb i (by omega) q.1)
    · exact h
theorem WB.s {b : Book} (W : WB b) {r : Nat} (h : r < b.1) (hl : b.2 r 0 = 115) : b.2 r 1 < 2 ∧ b.2 r 3 < 2 := by
  rcases W.2.2.2 r h with q | q | q | q | q <;> omega
theorem WB.k {b : Book} (W : WB b) {r : Nat} (h : r < b.1) (hl : b.2 r 0 = 107) : b.2 r 3 < 2 := by
  rcases W.2.2.2 r h with q | q | q | q | q <;> omega
theorem WB.v {b : Book} (W : WB b) {r : Nat} (h : r < b.1) (hl : b.2 r 0 = 118) : b.2 r 3 < 2 ∧ (b.2 r 2 = 2 → b.2 r 4 < 2) := by
  rcases W.2.2.2 r h with q | q | q | q | q <;> omega
theorem WB.a {b : Book} (W : WB b) {r : Nat} (h : r < b.1) (hl : b.2 r 0 = 97) : b.2 r 3 < 3 := by
  rcases W.2.2.2 r h with q | q | q | q | q <;> omega
theorem ref_settles_loop {w : HS} {m a v : Nat} {b : Book} (R : RF w m b a v) (h0 : 0 < b.1) : ∀ d i n x, i + d = b.1 → d < n → x < 64 → FX9_settles_31 n (nb w m x) m (nI i) = some ((), nb w m (stlL b a v i d x)) := by
  obtain ⟨W, hv, hp⟩ := R.wb h0
  have W1 := W.1
  obtain ⟨k, k1, k2, k3⟩ : ∃ k, k < 8 ∧ ha w m 16 1 = nI k ∧ ha w m 6 k = nI b.1 := by
    rcases R.2.2.2.2 with ⟨_, h6⟩ | ⟨k, k1, k2, k3, k4⟩
    · omega
    · exact ⟨k, k1, k2, k3.1⟩
  intro d
  induction d with
  | zero =>
    intro i n x e hn hx
    obtain ⟨n, rfl⟩ : ∃ q, n = q + 1 := ⟨n - 1, by omega⟩
    rw [FX9_settles_31, nb_j _ _ _ (by decide), nb_k _ _ _ _ (by decide), k2]
    refine E_f (nI_pos (by omega)) (E_i rfl (by omega) (by decide) (E_t ?_ rfl))
    rw [nI_clamp (by omega), k3]
    exact nI_le (by omega) (by omega)
  | succ d ih =>
    intro i n x e hn hx
    obtain ⟨n, rfl⟩ : ∃ q, n = q + 1 := ⟨n - 1, by omega⟩
    have Rx : RF (nb w m x) m b a v := R.nb
    have hc9 : hc (nb w m x) m = 9 := R.1
    have t0 := ref_told (r := i) (f := 0) Rx (by omega) (by decide)
    have t1 := ref_told (r := i) (f := 1) Rx (by omega) (by decide)
    have t3 := ref_told (r := i) (f := 3) Rx (by omega) (by decide)
    have f0 := W.2.2.1 i 0
    have f1 := W.2.2.1 i 1
    have nx : ∀ y, y < 64 → FX9_settles_101 (FX9_settles_31 n) (nb w m y) m (nI i) = some ((), nb w m (stlL b a v (i + 1) d y)) := by
      intro y hy
      unfold FX9_settles_101
      rw [nI_1]
      exact ih (i + 1) n y (by omega) (by omega) hy
    rw [FX9_settles_31]
    refine E_f (by rw [nb_j _ _ _ (by decide), k2]; exact nI_pos (by omega)) ?_
    refine E_i (by rw [nb_j _ _ _ (by decide), k2]) (show k < 9 by omega) (by decide) ?_
    refine E_f (by rw [nb_j _ _ _ (by decide), k2, nI_clamp (by omega), nb_k _ _ _ _ (by decide), k3]; exact nI_ge (by omega) (by omega)) ?_
    refine E_b t0 ?_
    dsimp only
    show _ = some ((), nb w m (stlL b a v (i + 1) d (if b.2 i 0 = 115 ∧ bt x a = b.2 i 1 then sb x v (b.2 i 3) else x)))
    by_cases hs : b.2 i 0 = 115
    · have pb := pr_of (show i < b.1 by omega) (Or.inr (Or.inl hs))
      obtain ⟨a6, av⟩ : a < 6 ∧ a ≠ v := by
        rcases hp with q | q
        · exact q.2
        · rw [pb] at q; cases q.1
      obtain ⟨s1, s3⟩ := W.s (show i < b.1 by omega) hs
      refine E_t (by rw [hs]; rfl) ?_
      refine E_b (show FX9_bit (nb w m x) m (ha (nb w m x) m 16 2) = _ from by rw [Rx.2.1]; exact ref_bit hc9 (nb_0 _ _ _) hx (by omega) (by omega)) ?_
      refine E_b t1 ?_
      dsimp only
      have := bt_lt x a
      by_cases hba : bt x a = b.2 i 1
      · refine E_t (by rw [hba]) ?_
        refine E_b t3 ?_
        refine E_b (show FX9_sets (nb w m x) m (ha (nb w m x) m 16 3) (nI (b.2 i 3)) = _ from by rw [Rx.2.2.1, cI_n hv]; exact ref_sets hc9 (nb_0 _ _ _) hx hv s3) ?_
        rw [if_pos ⟨hs, hba⟩, nb_nb]
        exact nx _ (sb_lt x hx v hv _ s3)
      · refine E_f (fun q => hba ((nI_eq (by omega) (by omega)).mp q)) ?_
        rw [if_neg (fun q => hba q.2)]
        exact nx x hx
    · refine E_f (fun q => hs ((nI_eq (a := b.2 i 0) (b := 115) (by omega) (by omega)).mp q)) ?_
      rw [if_neg (fun q => hs q.1)]
      exact nx x hx
theorem ref_settles {w : HS} {m a v x : Nat} {b : Book} (R : RF w m b a v) (hx : ha w m 16 0 = nI x) (x6 : x < 64) : FX9_settles w m = some ((), nb w m (stl b a v x)) := by
  have hr : FX9_ruleOf w m (107 : Int32) (-1 : Int32) (-1 : Int32) = some (oI (ru b 107 none none), w) := ref_rule (l := 107) (of := none) (by_ := none) R (by decide) (fun z e => (by cases e)) (fun z e => (by cases e))
  unfold FX9_settles
  refine E_c R.1 (E_b hr ?_)
  dsimp only
  by_cases h0 : b.1 = 0
  · rw [ru_0 h0]
    refine E_t (by decide) ?_
    unfold FX9_settles_29
    rcases R.2.2.2.2 with ⟨h5, h6⟩ | ⟨k, k1, k2, k3, k4⟩
    · rw [show FUEL = 9999 + 1 from rfl, FX9_settles_31]
      refine E_t (by rw [h5]; decide) ?_
      unfold stl
      rw [ru_0 h0, h0]
      show _ = some ((), nb w m x)
      rw [nb_id hx]
    · omega
  · obtain ⟨W, hv, hp⟩ := R.wb (by omega)
    have W1 := W.1
    unfold stl
    cases e : ru b 107 none none with
    | none =>
      refine E_t (show oI none < 0 by decide) ?_
      have := ref_settles_loop R (by omega) b.1 0 FUEL x (by omega) (fuel_lt (by omega)) x6
      rw [nb_id hx] at this
      exact this
    | some r =>
      obtain ⟨r1, r2, _⟩ := ru_some e
      have k3 := W.k r1 r2
      refine E_f (nI_pos (show r < 2 ^ 31 by omega)) ?_
      refine E_b (ref_told (r := r) (f := 3) R r1 (by decide)) ?_
      refine E_b (show FX9_sets w m (ha w m 16 3) (nI (b.2 r 3)) = _ from by rw [R.2.2.1, cI_n hv]; exact ref_sets R.1 hx x6 hv k3) ?_
      dsimp only
      exact ref_settles_loop R (by omega) b.1 0 FUEL _ (by omega) (fuel_lt (by omega)) (sb_lt x x6 v hv _ k3)
theorem stl_ltW {b : Book} {a v x : Nat} (W : WB b) (hv : v < 6) (hx : x < 64) : stl b a v x < 64 := by
  unfold stl
  refine stlL_lt hv (fun r h1 h2 => (W.s h1 h2).2) _ _ _ (by omega) ?_
  cases e : ru b 107 none none with
  | none => exact hx
  | some r =>
    obtain ⟨r1, r2, _⟩ := ru_some e
    exact sb_lt x hx v hv _ (W.k r1 r2)
theorem stl_lt {b : Book} {a v x : Nat} (P : PL b a v) (hx : x < 64) : stl b a v x < 64 := by
  rcases P with ⟨h0, _, _⟩ | ⟨W, hv, _⟩
  · unfold stl
    rw [ru_0 h0, h0]
    exact hx
  · exact stl_ltW W hv hx
theorem fol_ltW {b : Book} {a v x c of by_ : Nat} (W : WB b) (hv : v < 6) (hx : x < 64) : fol b a v x c of by_ < 64 := by
  unfold fol
  split
  · cases e : ru b 97 (some of) (some by_) with
    | none => exact hx
    | some r =>
      obtain ⟨r1, r2, _⟩ := ru_some e
      have := W.a r1 r2
      refine sb_lt x hx v hv _ ?_
      split <;> omega
  · exact hx
theorem fol_lt {b : Book} {a v x c of by_ : Nat} (P : PL b a v) (hx : x < 64) : fol b a v x c of by_ < 64 := by
  rcases P with ⟨h0, _, _⟩ | ⟨W, hv, _⟩
  · unfold fol
    split
    · rw [ru_0 h0]; exact hx
    · exact hx
  · exact fol_ltW W hv hx
theorem ref_follows {w : HS} {m a v x c of by_ : Nat} {b : Book} (R : RF w m b a v) (hx : ha w m 16 0 = nI x) (x6 : x < 64) (c6 : c < 6) (ho : of < 3) (hy : by_ < 3) : FX9_follows w m (nI c) (nI of) (nI by_) = some ((), nb w m (fol b a v x c of by_)) := by
  have A8 := R.2.2.2.1.a8
  unfold FX9_follows fol
  refine E_c R.1 ?_
  by_cases hca : c = a
  · subst hca
    rw [if_pos rfl]
    refine E_t (by rw [R.2.1, cI_n c6]) ?_
    refine E_b (ref_rule (l := 97) (of := some of) (by_ := some by_) R (by decide) (fun z e => by cases e; omega) (fun z e => by cases e; omega)) ?_
    dsimp only
    cases e : ru b 97 (some of) (some by_) with
    | none =>
      refine E_t (show oI none < 0 by decide) ?_
      dsimp only
      rw [nb_id hx]
    | some r =>
      obtain ⟨r1, r2, _⟩ := ru_some e
      obtain ⟨W, hv, hp⟩ := R.wb (by omega)
      have W1 := W.1
      have a3 := W.a r1 r2
      refine E_f (nI_pos (show r < 2 ^ 31 by omega)) ?_
      refine E_b (ref_told (r := r) (f := 3) R r1 (by decide)) ?_
      dsimp only
      by_cases h2 : b.2 r 3 = 2
      · refine E_t (by rw [h2]; rfl) ?_
        refine E_b (show FX9_bit w m (ha w m 16 3) = _ from by rw [R.2.2.1]; exact ref_bit R.1 hx x6 (by omega) (by omega)) ?_
        unfold FX9_follows_66
        have := bt_lt x v
        refine E_b (show FX9_sets w m (ha w m 16 3) ((1 : Int32) - nI (bt x v)) = _ from by rw [R.2.2.1, cI_n hv, l1_, nI_subc (by omega)]; exact ref_sets R.1 hx x6 hv (by omega)) ?_
        rw [if_pos h2]
      · refine E_f (fun q => h2 ((nI_eq (a := b.2 r 3) (b := 2) (by omega) (by omega)).mp q)) ?_
        refine E_b (ref_told (r := r) (f := 3) R r1 (by decide)) ?_
        unfold FX9_follows_66
        refine E_b (show FX9_sets w m (ha w m 16 3) (nI (b.2 r 3)) = _ from by rw [R.2.2.1, cI_n hv]; exact ref_sets R.1 hx x6 hv (by omega)) ?_
        rw [if_neg h2]
  · rw [if_neg hca]
    refine E_f (fun q => hca ?_) (by rw [nb_id hx])
    rw [R.2.1, ← cI_n c6] at q
    exact (cI_eq c (by omega) a A8.1).mp q
theorem nIcv {w : HS} {m a v c : Nat} {b : Book} (R : RF w m b a v) (c6 : c < 6) : (nI c = ha w m 16 3 ↔ c = v) ∧ (nI c = ha w m 16 2 ↔ c = a) := by
  have A8 := R.2.2.2.1.a8
  constructor
  · rw [R.2.2.1, ← cI_n c6]
    exact cI_eq c (by omega) v A8.2.2.1
  · rw [R.2.1, ← cI_n c6]
    exact cI_eq c (by omega) a A8.1
theorem ref_writes {w : HS} {m a v x c d : Nat} {b : Book} (R : RF w m b a v) (hx : ha w m 16 0 = nI x) (x6 : x < 64) (c6 : c < 6) (hd : d < 2) : FX9_writes w m (nI c) (nI d) = some ((), nb w m (wrt b a v x c d)) ∧ wrt b a v x c d < 64 := by
  have hb := ref_bit (c := c) R.1 hx x6 (by omega) (by omega)
  rw [cI_n c6] at hb
  have bl := bt_lt x c
  have tail : ∀ e, e < 2 → FX9_writes_48 w m (nI c) (nI d) (nI (bt x c)) (nI e) (nI c) m = some ((), nb w m (stl b a v (fol b a v (sb x c e) c (bt x c) d))) ∧ stl b a v (fol b a v (sb x c e) c (bt x c) d) < 64 := by
    intro e he
    have s6 := sb_lt x x6 c c6 e he
    have f6 : fol b a v (sb x c e) c (bt x c) d < 64 := fol_lt R.2.2.2.1 s6
    refine ⟨?_, stl_lt R.2.2.2.1 f6⟩
    unfold FX9_writes_48
    refine E_b (ref_sets R.1 hx x6 c6 he) ?_
    refine E_b (ref_follows (of := bt x c) (by_ := d) R.nb (nb_0 _ _ _) s6 c6 (by omega) (by omega)) ?_
    dsimp only
    rw [nb_nb]
    refine E_b (ref_settles R.nb (nb_0 _ _ _) f6) ?_
    dsimp only
    rw [nb_nb]
  unfold FX9_writes wrt
  by_cases hv : c = v
  · have hr := ref_rule (l := 118) (of := some (bt x c)) (by_ := some d) R (by decide) (fun z e => by cases e; omega) (fun z e => by cases e; omega)
    rw [if_pos hv]
    cases e : ru b 118 (some (bt x c)) (some d) with
    | none =>
      refine ⟨E_c R.1 (E_b hb (E_t ((nIcv R c6).1.mpr hv) (E_b hr ?_))), (tail d hd).2⟩
      rw [e]
      unfold FX9_writes_28
      exact E_t (show oI none < 0 by decide) (tail d hd).1
    | some r =>
      obtain ⟨r1, r2, _⟩ := ru_some e
      obtain ⟨W, hv6, hp⟩ := R.wb (by omega)
      have W1 := W.1
      have v3 := (W.v r1 r2).1
      refine ⟨E_c R.1 (E_b hb (E_t ((nIcv R c6).1.mpr hv) (E_b hr ?_))), (tail _ v3).2⟩
      rw [e]
      unfold FX9_writes_28
      exact E_f (nI_pos (show r < 2 ^ 31 by omega)) (E_b (ref_told (r := r) (f := 3) R r1 (by decide)) (tail _ v3).1)
  · rw [if_neg hv]
    refine ⟨E_c R.1 (E_b hb (E_f (fun q => hv ((nIcv R c6).1.mp q)) ?_)), (tail d hd).2⟩
    unfold FX9_writes_28
    exact E_t (by decide) (tail d hd).1
theorem ref_reads {w : HS} {m a v x c : Nat} {b : Book} (R : RF w m b a v) (hx : ha w m 16 0 = nI x) (x6 : x < 64) (c6 : c < 6) : FX9_reads w m (nI c) = some (nI (rdd b a v x c).1, nb w m (rdd b a v x c).2) ∧ (rdd b a v x c).2 < 64 ∧ (rdd b a v x c).1 < 2 := by
  have hb := ref_bit (c := c) R.1 hx x6 (by omega) (by omega)
  rw [cI_n c6] at hb
  have bl := bt_lt x c
  have tail : ∀ y t, y < 64 → FX9_reads_57 (nb w m y) m (nI c) (nI (bt x c)) (nI t) = some (nI t, nb w m (stl b a v (fol b a v y c (bt x c) 2))) ∧ stl b a v (fol b a v y c (bt x c) 2) < 64 := by
    intro y t hy
    have f6 : fol b a v y c (bt x c) 2 < 64 := fol_lt R.2.2.2.1 hy
    refine ⟨?_, stl_lt R.2.2.2.1 f6⟩
    unfold FX9_reads_57
    refine E_b (ref_follows (of := bt x c) (by_ := 2) R.nb (nb_0 _ _ _) hy c6 (by omega) (by omega)) ?_
    dsimp only
    rw [nb_nb]
    refine E_b (ref_settles R.nb (nb_0 _ _ _) f6) ?_
    dsimp only
    rw [nb_nb]
  have tx := tail x (bt x c) x6
  rw [nb_id hx] at tx
  unfold FX9_reads rdd
  by_cases hv : c = v
  · have hr := ref_rule (l := 118) (of := some (bt x c)) (by_ := some 2) R (by decide) (fun z e => by cases e; omega) (fun z e => by cases e; omega)
    rw [if_pos hv]
    cases e : ru b 118 (some (bt x c)) (some 2) with
    | none =>
      refine ⟨E_c R.1 (E_b hb (E_t ((nIcv R c6).1.mpr hv) (E_b hr ?_))), tx.2, bl⟩
      rw [e]
      unfold FX9_reads_30
      exact E_t (show oI none < 0 by decide) tx.1
    | some r =>
      obtain ⟨r1, r2, _, r4⟩ := ru_some e
      obtain ⟨W, hv6, hp⟩ := R.wb (by omega)
      have W1 := W.1
      have v3 := (W.v r1 r2)
      have v4 := v3.2 (r4 2 rfl)
      have s6 := sb_lt x x6 c c6 _ v3.1
      have ts := tail (sb x c (b.2 r 3)) (b.2 r 4) s6
      refine ⟨E_c R.1 (E_b hb (E_t ((nIcv R c6).1.mpr hv) (E_b hr ?_))), ts.2, v4⟩
      rw [e]
      unfold FX9_reads_30
      refine E_f (nI_pos (show r < 2 ^ 31 by omega)) ?_
      refine E_b (ref_told (r := r) (f := 3) R r1 (by decide)) ?_
      refine E_b (ref_sets R.1 hx x6 c6 v3.1) ?_
      refine E_b (ref_told (r := r) (f := 4) R.nb r1 (by decide)) ?_
      exact ts.1
  · rw [if_neg hv]
    refine ⟨E_c R.1 (E_b hb (E_f (fun q => hv ((nIcv R c6).1.mp q)) ?_)), tx.2, bl⟩
    unfold FX9_reads_30
    exact E_t (by decide) tx.1
theorem ref_letter {w : HS} {m a v : Nat} {b : Book} (R : RF w m b a v) : FX9_letterIn w m = some (nI (lt0 b), w) ∧ lt0 b < 128 := by
  rcases R.2.2.2.2 with ⟨h5, h6⟩ | ⟨k, k1, k2, k3, k4⟩
  · have e : lt0 b = 0 := by unfold lt0; rw [if_pos h6]
    rw [e]
    unfold FX9_letterIn
    exact ⟨E_c R.1 (E_f (by rw [h5]; decide) rfl), by decide⟩
  · have W := (R.wb k4).1
    have e : lt0 b = b.2 0 0 := by unfold lt0; rw [if_neg (by omega)]
    rw [e]
    unfold FX9_letterIn
    refine ⟨E_c R.1 (E_t (by rw [k2]; exact nI_pos' (by omega)) ?_), W.2.2.1 0 0⟩
    rw [k2]
    refine E_b (ruleAt_eq (r := 0) (f := 0) R.1 (by omega) (by decide) (by decide)) ?_
    dsimp only
    rw [k3.2 0 (by decide) 0 (by decide)]
theorem ref_writesAt {w : HS} {m a v x c d ad : Nat} {b : Book} (R : RF w m b a v) (hx : ha w m 16 0 = nI x) (x6 : x < 64) (hm : ha w m 16 (4 + ad) = nI c) (had : ad < 6) (c6 : c < 6) (hd : d < 2) : FX9_writesAt w m (nI ad) (nI d) = some ((), nb w m (wAt b a v x c d)) ∧ wAt b a v x c d < 64 := by
  obtain ⟨hl, l128⟩ := ref_letter R
  have ix : (4 : Int32) + nI ad = nI (4 + ad) := nI_add 4 ad
  have ld : ∀ z, z < 128 → (nI (lt0 b) = nI z ↔ lt0 b = z) := fun z hz => nI_eq (by omega) (by omega)
  have w57 : ∀ e, e < 6 → (lt0 b = 98 → e = c) → FX9_writesAt_57 w m (nI d) (nI e) (nI (lt0 b)) = some ((), nb w m (if lt0 b = 98 ∧ c = a then wrt b a v (wrt b a v x c d) v d else wrt b a v x e d)) ∧ (if lt0 b = 98 ∧ c = a then wrt b a v (wrt b a v x c d) v d else wrt b a v x e d) < 64 := by
    intro e he hec
    obtain ⟨q1, q2⟩ := ref_writes R hx x6 he hd
    unfold FX9_writesAt_57
    by_cases hb : lt0 b = 98
    · have := hec hb
      subst this
      by_cases hca : e = a
      · have h0 : 0 < b.1 := by
          unfold lt0 at hb
          by_cases z : b.1 = 0
          · rw [if_pos z] at hb; omega
          · omega
        obtain ⟨W, hv, _⟩ := R.wb h0
        obtain ⟨z1, z2⟩ := ref_writes (c := v) (d := d) (R.nb (x := wrt b a v x e d)) (nb_0 _ _ _) q2 hv hd
        rw [if_pos ⟨hb, hca⟩]
        refine ⟨E_b q1 (E_t (by rw [hb]; rfl) (E_t ?_ (E_b (show FX9_writes _ m (ha (nb w m (wrt b a v x e d)) m 16 3) (nI d) = _ from by rw [R.nb.2.2.1, cI_n hv]; exact z1) ?_))), z2⟩
        · exact (nIcv R.nb he).2.mpr hca
        · dsimp only
          rw [nb_nb]
      · rw [if_neg (fun q => hca q.2)]
        exact ⟨E_b q1 (E_t (by rw [hb]; rfl) (E_f (fun q => hca ((nIcv R.nb he).2.mp q)) rfl)), q2⟩
    · rw [if_neg (fun q => hb q.1)]
      exact ⟨E_b q1 (E_f (fun q => hb ((ld 98 (by decide)).mp q)) rfl), q2⟩
  have w33 : ¬ (lt0 b = 110 ∧ c = v) → FX9_writesAt_33 w m (nI d) (nI c) (nI (lt0 b)) = some ((), nb w m (wAt b a v x c d)) ∧ wAt b a v x c d < 64 := by
    intro hn
    unfold FX9_writesAt_33
    by_cases hmm : lt0 b = 109
    · by_cases hca : c = a
      · have h0 : 0 < b.1 := by
          unfold lt0 at hmm
          by_cases z : b.1 = 0
          · rw [if_pos z] at hmm; omega
          · omega
        obtain ⟨W, hv, _⟩ := R.wb h0
        have := w57 v hv (fun q => by omega)
        rw [if_neg (fun q => by omega)] at this
        have ew : wAt b a v x c d = wrt b a v x v d := by unfold wAt; rw [if_neg hn, if_pos ⟨hmm, hca⟩]
        rw [ew]
        refine ⟨E_t (by rw [hmm]; rfl) (E_t ((nIcv R c6).2.mpr hca) ?_), this.2⟩
        rw [R.2.2.1, cI_n hv]
        exact this.1
      · have ew : wAt b a v x c d = (if lt0 b = 98 ∧ c = a then wrt b a v (wrt b a v x c d) v d else wrt b a v x c d) := by unfold wAt; rw [if_neg hn, if_neg (fun q => hca q.2)]
        rw [ew]
        exact ⟨E_t (by rw [hmm]; rfl) (E_f (fun q => hca ((nIcv R c6).2.mp q)) (w57 c c6 (fun _ => rfl)).1), (w57 c c6 (fun _ => rfl)).2⟩
    · have ew : wAt b a v x c d = (if lt0 b = 98 ∧ c = a then wrt b a v (wrt b a v x c d) v d else wrt b a v x c d) := by unfold wAt; rw [if_neg hn, if_neg (fun q => hmm q.1)]
      rw [ew]
      exact ⟨E_f (fun q => hmm ((ld 109 (by decide)).mp q)) (w57 c c6 (fun _ => rfl)).1, (w57 c c6 (fun _ => rfl)).2⟩
  unfold FX9_writesAt
  rw [ix, nI_clamp (by omega), hm]
  by_cases hn : lt0 b = 110
  · by_cases hcv : c = v
    · have e1 : wAt b a v x c d = x := by unfold wAt; rw [if_pos ⟨hn, hcv⟩]
      rw [e1, nb_id hx]
      exact ⟨E_c R.1 (E_i rfl (by omega) (by decide) (E_b hl (E_t (by rw [hn]; rfl) (E_t ((nIcv R c6).1.mpr hcv) rfl)))), x6⟩
    · exact ⟨E_c R.1 (E_i rfl (by omega) (by decide) (E_b hl (E_t (by rw [hn]; rfl) (E_f (fun q => hcv ((nIcv R c6).1.mp q)) (w33 (fun q => hcv q.2)).1)))), (w33 (fun q => hcv q.2)).2⟩
  · exact ⟨E_c R.1 (E_i rfl (by omega) (by decide) (E_b hl (E_f (fun q => hn ((ld 110 (by decide)).mp q)) (w33 (fun q => hn q.1)).1))), (w33 (fun q => hn q.1)).2⟩
theorem or_nI : ∀ s, s < 2 → ∀ t, t < 2 → (nI s ||| nI t) = nI (if s = 1 ∨ t = 1 then 1 else 0) := by decide +kernel
theorem and_nI : ∀ s, s < 2 → ∀ t, t < 2 → (nI s &&& nI t) = nI (if s = 1 ∧ t = 1 then 1 else 0) := by decide +kernel
theorem ref_readsAt {w : HS} {m a v x c ad : Nat} {b : Book} (R : RF w m b a v) (hx : ha w m 16 0 = nI x) (x6 : x < 64) (hm : ha w m 16 (4 + ad) = nI c) (had : ad < 6) (c6 : c < 6) : FX9_readsAt w m (nI ad) = some (nI (rAt b a v x c).1, nb w m (rAt b a v x c).2) ∧ (rAt b a v x c).2 < 64 ∧ (rAt b a v x c).1 < 2 := by
  obtain ⟨hl, l128⟩ := ref_letter R
  have ix : (4 : Int32) + nI ad = nI (4 + ad) := nI_add 4 ad
  have ld : ∀ z, z < 128 → (nI (lt0 b) = nI z ↔ lt0 b = z) := fun z hz => nI_eq (by omega) (by omega)
  have pos : ∀ z, 0 < z → lt0 b = z → 0 < b.1 := by
    intro z hz hb
    unfold lt0 at hb
    by_cases y : b.1 = 0
    · rw [if_pos y] at hb; omega
    · omega
  have r60 : ∀ e, e < 6 → ¬ (lt0 b = 98 ∧ e = a) → FX9_readsAt_60 w m (nI e) (nI (lt0 b)) = some (nI (rdd b a v x e).1, nb w m (rdd b a v x e).2) ∧ (rdd b a v x e).2 < 64 ∧ (rdd b a v x e).1 < 2 := by
    intro e he hne
    obtain ⟨q1, q2, q3⟩ := ref_reads R hx x6 he
    refine ⟨?_, q2, q3⟩
    unfold FX9_readsAt_60
    refine E_b q1 ?_
    dsimp only
    by_cases hb : lt0 b = 98
    · exact E_t (by rw [hb]; rfl) (E_f (fun q => hne ⟨hb, (nIcv R.nb he).2.mp q⟩) rfl)
    · exact E_f (fun q => hb ((ld 98 (by decide)).mp q)) rfl
  have r37 : ¬ (lt0 b = 110 ∧ c = v) → FX9_readsAt_37 w m (nI c) (nI (lt0 b)) = some (nI (rAt b a v x c).1, nb w m (rAt b a v x c).2) ∧ (rAt b a v x c).2 < 64 ∧ (rAt b a v x c).1 < 2 := by
    intro hn
    unfold FX9_readsAt_37
    by_cases hmm : lt0 b = 109
    · by_cases hca : c = a
      · obtain ⟨W, hv, _⟩ := R.wb (pos 109 (by decide) hmm)
        have := r60 v hv (fun q => by omega)
        have ew : rAt b a v x c = rdd b a v x v := by unfold rAt; rw [if_neg hn, if_pos ⟨hmm, hca⟩]
        rw [ew]
        refine ⟨E_t (by rw [hmm]; rfl) (E_t ((nIcv R c6).2.mpr hca) ?_), this.2⟩
        rw [R.2.2.1, cI_n hv]
        exact this.1
      · have ew : rAt b a v x c = rdd b a v x c := by unfold rAt; rw [if_neg hn, if_neg (fun q => hca q.2), if_neg (fun q => hca q.2)]
        rw [ew]
        have := r60 c c6 (fun q => hca q.2)
        exact ⟨E_t (by rw [hmm]; rfl) (E_f (fun q => hca ((nIcv R c6).2.mp q)) this.1), this.2⟩
    · by_cases hb : lt0 b = 98 ∧ c = a
      · obtain ⟨W, hv, _⟩ := R.wb (pos 98 (by decide) hb.1)
        obtain ⟨q1, q2, q3⟩ := ref_reads R hx x6 c6
        obtain ⟨z1, z2, z3⟩ := ref_reads (c := v) (R.nb (x := (rdd b a v x c).2)) (nb_0 _ _ _) q2 hv
        have t3 := ref_told (r := 0) (f := 3) (R.nb (x := (rdd b a v (rdd b a v x c).2 v).2)) (pos 98 (by decide) hb.1) (by decide)
        have f3 := W.2.2.1 0 3
        have ew : rAt b a v x c = ((if b.2 0 3 = 1 then (if (rdd b a v x c).1 = 1 ∨ (rdd b a v (rdd b a v x c).2 v).1 = 1 then 1 else 0) else (if (rdd b a v x c).1 = 1 ∧ (rdd b a v (rdd b a v x c).2 v).1 = 1 then 1 else 0)), (rdd b a v (rdd b a v x c).2 v).2) := by unfold rAt; rw [if_neg hn, if_neg (fun q => hmm q.1), if_pos hb]
        rw [ew]
        refine ⟨E_f (fun q => hmm ((ld 109 (by decide)).mp q)) ?_, z2, by dsimp only; split <;> split <;> decide⟩
        unfold FX9_readsAt_60
        refine E_b q1 (E_t (by rw [hb.1]; rfl) (E_t ((nIcv R.nb c6).2.mpr hb.2) ?_))
        refine E_b (show FX9_reads _ m (ha (nb w m (rdd b a v x c).2) m 16 3) = _ from by rw [R.nb.2.2.1, cI_n hv]; exact z1) ?_
        dsimp only
        rw [nb_nb]
        refine E_b t3 ?_
        dsimp only
        by_cases h1 : b.2 0 3 = 1
        · rw [if_pos h1]
          refine E_t (by rw [h1]; rfl) ?_
          rw [or_nI _ q3 _ z3]
        · rw [if_neg h1]
          refine E_f (fun q => h1 ((nI_eq (a := b.2 0 3) (b := 1) (by omega) (by omega)).mp q)) ?_
          rw [and_nI _ q3 _ z3]
      · have ew : rAt b a v x c = rdd b a v x c := by unfold rAt; rw [if_neg hn, if_neg (fun q => hmm q.1), if_neg hb]
        rw [ew]
        have := r60 c c6 hb
        exact ⟨E_f (fun q => hmm ((ld 109 (by decide)).mp q)) this.1, this.2⟩
  unfold FX9_readsAt
  rw [ix, nI_clamp (by omega), hm]
  by_cases hn : lt0 b = 110
  · by_cases hcv : c = v
    · have e1 : rAt b a v x c = (b.2 0 3, x) := by unfold rAt; rw [if_pos ⟨hn, hcv⟩]
      have h0 := pos 110 (by decide) hn
      obtain ⟨W, hv, _⟩ := R.wb h0
      have l3 : b.2 0 3 < 2 := by
        have l0 : b.2 0 0 = 110 := by
          unfold lt0 at hn
          rw [if_neg (by omega)] at hn
          exact hn
        rcases W.2.2.2 0 h0 with q | q | q | q | q <;> omega
      rw [e1, nb_id hx]
      refine ⟨E_c R.1 (E_i rfl (by omega) (by decide) (E_b hl (E_t (by rw [hn]; rfl) (E_t ((nIcv R c6).1.mpr hcv) (E_b (ref_told (r := 0) (f := 3) R h0 (by decide)) rfl))))), x6, l3⟩
    · exact ⟨E_c R.1 (E_i rfl (by omega) (by decide) (E_b hl (E_t (by rw [hn]; rfl) (E_f (fun q => hcv ((nIcv R c6).1.mp q)) (r37 (fun q => hcv q.2)).1)))), (r37 (fun q => hcv q.2)).2⟩
  · exact ⟨E_c R.1 (E_i rfl (by omega) (by decide) (E_b hl (E_f (fun q => hn ((ld 110 (by decide)).mp q)) (r37 (fun q => hn q.1)).1))), (r37 (fun q => hn q.1)).2⟩
