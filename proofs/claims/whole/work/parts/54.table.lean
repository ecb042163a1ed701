/-! The class's table of a kind is the rule book's over two cells (v 0, a 1). -/
def cfm (b : Book) (r : Nat) : Nat := if b.2 r 0 = 118 then (if b.2 r 2 = 2 then 7 else 0) else if b.2 r 0 = 97 then (if b.2 r 2 = 2 then 8 else 1) else if b.2 r 0 = 115 then 2 else if b.2 r 0 = 107 then 3 else if b.2 r 0 = 110 then 4 else if b.2 r 0 = 109 then 5 else 6
def cfr (b : Book) (r : Nat) : Nat := if b.2 r 0 = 118 ∨ b.2 r 0 = 97 ∨ b.2 r 0 = 115 then b.2 r 1 else 0
def cwr (b : Book) (r : Nat) : Nat := if (b.2 r 0 = 118 ∨ b.2 r 0 = 97) ∧ b.2 r 2 ≠ 2 then b.2 r 2 else 0
/-- class: the rules as told -/
def RW (w : HS) (p : Nat) (b : Book) : Prop := hc w p = 1 ∧ hi w p 0 = nI b.1 ∧ ∀ r, r < b.1 → ha w p 2 r = nI (cfm b r) ∧ ha w p 3 r = nI (cfr b r) ∧ ha w p 4 r = nI (cwr b r) ∧ (b.2 r 0 ≠ 109 → ha w p 5 r = nI (b.2 r 3)) ∧ (b.2 r 0 = 118 → b.2 r 2 = 2 → ha w p 6 r = nI (b.2 r 4))
theorem RW.fr {P : Nat → Nat → Prop} {w w' : HS} {p : Nat} {b : Book} (h : RW w p b) (f : Fr P w w') (n : ∀ k, k < 7 → ¬ P p k) : RW w' p b := by
  obtain ⟨h1, h2, h3⟩ := h
  refine ⟨by rw [f.c]; exact h1, by rw [f.i (n 0 (by decide))]; exact h2, fun r hr => ?_⟩
  rw [f.ar (n 2 (by decide)), f.ar (n 3 (by decide)), f.ar (n 4 (by decide)), f.ar (n 5 (by decide)), f.ar (n 6 (by decide))]
  exact h3 r hr
theorem cfm_lt (b : Book) (r : Nat) : cfm b r < 9 := by
  unfold cfm
  repeat' split
  all_goals decide
theorem fsN_t {p : Nat → Bool} {i d : Nat} (h : p i = true) : fsN p i (d + 1) = some i := if_pos h
theorem fsN_f {p : Nat → Bool} {i d : Nat} (h : ¬ p i = true) : fsN p i (d + 1) = fsN p (i + 1) d := if_neg h
theorem stlL_t {b : Book} {a v i d x : Nat} (h : b.2 i 0 = 115 ∧ bt x a = b.2 i 1) : stlL b a v i (d + 1) x = stlL b a v (i + 1) d (sb x v (b.2 i 3)) := by rw [stlL, if_pos h]
theorem stlL_f {b : Book} {a v i d x : Nat} (h : ¬ (b.2 i 0 = 115 ∧ bt x a = b.2 i 1)) : stlL b a v i (d + 1) x = stlL b a v (i + 1) d x := by rw [stlL, if_neg h]
theorem wAt_n {b : Book} {a v x c d : Nat} (h : lt0 b = 110 ∧ c = v) : wAt b a v x c d = x := if_pos h
theorem wAt_m {b : Book} {a v x c d : Nat} (h : lt0 b = 109 ∧ c = a) : wAt b a v x c d = wrt b a v x v d := by unfold wAt; rw [if_neg (fun q => by omega), if_pos h]
theorem wAt_b {b : Book} {a v x c d : Nat} (h : lt0 b = 98 ∧ c = a) : wAt b a v x c d = wrt b a v (wrt b a v x c d) v d := by unfold wAt; rw [if_neg (fun q => by omega), if_neg (fun q => by omega), if_pos h]
theorem wAt_e {b : Book} {a v x c d : Nat} (h : ¬ (lt0 b = 110 ∧ c = v)) (h1 : ¬ (lt0 b = 109 ∧ c = a)) (h2 : ¬ (lt0 b = 98 ∧ c = a)) : wAt b a v x c d = wrt b a v x c d := by unfold wAt; rw [if_neg h, if_neg h1, if_neg h2]
theorem rAt_n {b : Book} {a v x c : Nat} (h : lt0 b = 110 ∧ c = v) : rAt b a v x c = (b.2 0 3, x) := if_pos h
theorem rAt_m {b : Book} {a v x c : Nat} (h : lt0 b = 109 ∧ c = a) : rAt b a v x c = rdd b a v x v := by unfold rAt; rw [if_neg (fun q => by omega), if_pos h]
theorem rAt_b {b : Book} {a v x c : Nat} (h : lt0 b = 98 ∧ c = a) : rAt b a v x c = ((if b.2 0 3 = 1 then (if (rdd b a v x c).1 = 1 ∨ (rdd b a v (rdd b a v x c).2 v).1 = 1 then 1 else 0) else (if (rdd b a v x c).1 = 1 ∧ (rdd b a v (rdd b a v x c).2 v).1 = 1 then 1 else 0)), (rdd b a v (rdd b a v x c).2 v).2) := by unfold rAt; rw [if_neg (fun q => by omega), if_neg (fun q => by omega), if_pos h]
theorem rAt_e {b : Book} {a v x c : Nat} (h : ¬ (lt0 b = 110 ∧ c = v)) (h1 : ¬ (lt0 b = 109 ∧ c = a)) (h2 : ¬ (lt0 b = 98 ∧ c = a)) : rAt b a v x c = rdd b a v x c := by unfold rAt; rw [if_neg h, if_neg h1, if_neg h2]
theorem fr_loop {w : HS} {p : Nat} {b : Book} (R : RW w p b) (W : WB b) {as was d : Nat} (h1 : as < 128) (h2 : was < 128) (h3 : d < 128) : ∀ e i n, i + e = b.1 → e < n → FX1_firstRule_3 n w p (nI as) (nI was) (nI d) (nI i) = some (oI (fsN (fun r => decide (cfm b r = as ∧ cfr b r = was ∧ cwr b r = d)) i e), w) := by
  obtain ⟨_, hn, hr⟩ := R
  have W1 := W.1
  intro e
  induction e with
  | zero =>
    intro i n he hlt
    obtain ⟨n, rfl⟩ : ∃ q, n = q + 1 := ⟨n - 1, by omega⟩
    rw [FX1_firstRule_3, hn]
    exact E_t (nI_le (by omega) (by omega)) rfl
  | succ e ih =>
    intro i n he hlt
    obtain ⟨n, rfl⟩ : ∃ q, n = q + 1 := ⟨n - 1, by omega⟩
    obtain ⟨q1, q2, q3, _⟩ := hr i (by omega)
    have c1 := cfm_lt b i
    have c2 : cfr b i < 128 := by
      unfold cfr
      split
      · exact W.2.2.1 i 1
      · decide
    have c3 : cwr b i < 128 := by
      unfold cwr
      split
      · exact W.2.2.1 i 2
      · decide
    have nx : FX1_firstRule_54 (FX1_firstRule_3 n) w p (nI as) (nI was) (nI d) (nI i) = some (oI (fsN (fun r => decide (cfm b r = as ∧ cfr b r = was ∧ cwr b r = d)) (i + 1) e), w) := by
      unfold FX1_firstRule_54
      rw [nI_1]
      exact ih (i + 1) n (by omega) (by omega)
    rw [FX1_firstRule_3, hn, nI_clamp (by omega), q1, q2, q3]
    refine E_f (nI_ge (by omega) (by omega)) (E_f (nI_ge (a := i) (b := 4) (by omega) (by decide)) (E_i rfl (by omega) (by decide) ?_))
    by_cases k1 : cfm b i = as
    · refine E_t (by rw [k1]) (E_i rfl (by omega) (by decide) ?_)
      by_cases k2 : cfr b i = was
      · refine E_t (by rw [k2]) (E_i rfl (by omega) (by decide) ?_)
        by_cases k3 : cwr b i = d
        · rw [fsN_t (decide_eq_true ⟨k1, k2, k3⟩)]
          exact E_t (by rw [k3]) rfl
        · rw [fsN_f (by simp [k3])]
          exact E_f (fun q => k3 ((nI_eq (by omega) (by omega)).mp q)) nx
      · rw [fsN_f (by simp [k2])]
        exact E_f (fun q => k2 ((nI_eq (by omega) (by omega)).mp q)) nx
    · rw [fsN_f (by simp [k1])]
      exact E_f (fun q => k1 ((nI_eq (by omega) (by omega)).mp q)) nx
theorem cls_rule {w : HS} {p : Nat} {b : Book} (R : RW w p b) (W : WB b) {as was d l : Nat} {of by_ : Option Nat} (h1 : as < 128) (h2 : was < 128) (h3 : d < 128) (hq : ∀ r, r < b.1 → ((cfm b r = as ∧ cfr b r = was ∧ cwr b r = d) ↔ (b.2 r 0 = l ∧ (∀ z, of = some z → b.2 r 1 = z) ∧ (∀ z, by_ = some z → b.2 r 2 = z)))) : FX1_firstRule w p (nI as) (nI was) (nI d) = some (oI (ru b l of by_), w) := by
  unfold FX1_firstRule
  have W1 := W.1
  refine E_c R.1 ?_
  have := fr_loop R W h1 h2 h3 b.1 0 FUEL (by omega) (fuel_lt (by omega))
  rw [show (0 : Int32) = nI 0 from rfl, this]
  unfold ru
  congr 3
  apply fsN_congr
  intro r _ hr
  rw [decide_eq_decide]
  exact hq r (by omega)
theorem all1 {x : Nat} {P : Nat → Prop} : (∀ z, some x = some z → P z) ↔ P x := ⟨fun h => h x rfl, fun h z e => by cases e; exact h⟩
theorem all0 {P : Nat → Prop} : (∀ z, (none : Option Nat) = some z → P z) ↔ True := ⟨fun _ => trivial, fun _ z e => by cases e⟩
theorem cls_v {w : HS} {p : Nat} {b : Book} (R : RW w p b) (W : WB b) {was d : Nat} (h2 : was < 2) (h3 : d < 2) : FX1_firstRule w p 0 (nI was) (nI d) = some (oI (ru b 118 (some was) (some d)), w) := by
  refine cls_rule (as := 0) R W (by decide) (by omega) (by omega) (fun r hr => ?_)
  rw [all1, all1]
  unfold cfm cfr cwr
  rcases W.2.2.2 r hr with q | q | q | q | q
  · by_cases h : b.2 r 2 = 2 <;> simp [q.1, h] <;> omega
  all_goals simp [show b.2 r 0 ≠ 118 by omega]
  all_goals repeat' split
  all_goals simp
theorem cls_vr {w : HS} {p : Nat} {b : Book} (R : RW w p b) (W : WB b) {was : Nat} (h2 : was < 2) : FX1_firstRule w p 7 (nI was) 0 = some (oI (ru b 118 (some was) (some 2)), w) := by
  refine cls_rule (as := 7) (d := 0) R W (by decide) (by omega) (by omega) (fun r hr => ?_)
  rw [all1, all1]
  unfold cfm cfr cwr
  rcases W.2.2.2 r hr with q | q | q | q | q
  · by_cases h : b.2 r 2 = 2 <;> simp [q.1, h]
  all_goals simp [show b.2 r 0 ≠ 118 by omega]
  all_goals repeat' split
  all_goals simp
theorem cls_a {w : HS} {p : Nat} {b : Book} (R : RW w p b) (W : WB b) {was d : Nat} (h2 : was < 2) (h3 : d < 2) : FX1_firstRule w p 1 (nI was) (nI d) = some (oI (ru b 97 (some was) (some d)), w) := by
  refine cls_rule (as := 1) R W (by decide) (by omega) (by omega) (fun r hr => ?_)
  rw [all1, all1]
  unfold cfm cfr cwr
  rcases W.2.2.2 r hr with q | q | q | q | q
  · by_cases h : b.2 r 2 = 2 <;> simp [q.1, h]
  · by_cases h : b.2 r 2 = 2 <;> simp [q.1, h] <;> omega
  all_goals simp [show b.2 r 0 ≠ 97 by omega, show b.2 r 0 ≠ 118 by omega]
  all_goals repeat' split
  all_goals simp
theorem cls_ar {w : HS} {p : Nat} {b : Book} (R : RW w p b) (W : WB b) {was : Nat} (h2 : was < 2) : FX1_firstRule w p 8 (nI was) 0 = some (oI (ru b 97 (some was) (some 2)), w) := by
  refine cls_rule (as := 8) (d := 0) R W (by decide) (by omega) (by omega) (fun r hr => ?_)
  rw [all1, all1]
  unfold cfm cfr cwr
  rcases W.2.2.2 r hr with q | q | q | q | q
  · by_cases h : b.2 r 2 = 2 <;> simp [q.1, h]
  · by_cases h : b.2 r 2 = 2 <;> simp [q.1, h]
  all_goals simp [show b.2 r 0 ≠ 97 by omega, show b.2 r 0 ≠ 118 by omega]
  all_goals repeat' split
  all_goals simp
theorem cls_k {w : HS} {p : Nat} {b : Book} (R : RW w p b) (W : WB b) : FX1_firstRule w p 3 0 0 = some (oI (ru b 107 none none), w) := by
  refine cls_rule (as := 3) (was := 0) (d := 0) R W (by decide) (by omega) (by omega) (fun r hr => ?_)
  rw [all0, all0]
  unfold cfm cfr cwr
  rcases W.2.2.2 r hr with q | q | q | q | q
  · by_cases h : b.2 r 2 = 2 <;> simp [q.1, h]
  · by_cases h : b.2 r 2 = 2 <;> simp [q.1, h]
  · simp [q.1]
  · simp [q.1]
  · rcases q.2 with q | q | q <;> simp [q]
theorem sb4 : ∀ x, x < 4 → ∀ c, c < 2 → ∀ d, d < 2 → sb x c d < 4 := by decide +kernel
theorem af_d : ∀ x, x < 4 → ∀ d, d < 2 → ((nI x &&& (2 : Int32)) ||| nI d) = nI (sb x 0 d) := by decide +kernel
theorem af_x : ∀ x, x < 4 → (nI x ^^^ (1 : Int32)) = nI (sb x 0 (1 - bt x 0)) := by decide +kernel
theorem sbsb : ∀ x, x < 4 → ∀ d, d < 2 → ∀ e, e < 2 → sb (sb x 0 d) 0 e = sb x 0 e := by decide +kernel
def afB (b : Book) (x : Nat) (o : Option Nat) : Nat := match o with
  | some r => sb x 0 (if b.2 r 3 = 2 then 1 - bt x 0 else b.2 r 3)
  | none => x
theorem afB_lt {b : Book} {x : Nat} {o : Option Nat} (hx : x < 4) (ho : ∀ r, o = some r → b.2 r 3 < 3) : afB b x o < 4 := by
  unfold afB
  cases o with
  | none => exact hx
  | some r =>
    have := ho r rfl
    have := bt_lt x 0
    refine sb4 x hx 0 (by decide) _ ?_
    split <;> omega
theorem cls_aff {w : HS} {p x : Nat} {b : Book} {o : Option Nat} (R : RW w p b) (W : WB b) (hx : x < 4) (ho : ∀ r, o = some r → r < b.1 ∧ b.2 r 0 ≠ 109 ∧ b.2 r 3 < 3) : FX1_affected w p (nI x) (oI o) = some (nI (afB b x o), w) := by
  have W1 := W.1
  unfold FX1_affected afB
  refine E_c R.1 ?_
  cases o with
  | none => exact E_t (show oI none < 0 by decide) rfl
  | some r =>
    obtain ⟨r1, r2, r3⟩ := ho r rfl
    have q5 := (R.2.2 r r1).2.2.2.1 r2
    show (if nI r < 0 then _ else _) = _
    refine E_f (nI_pos (by omega)) (E_t (nI_lt (b := 4) (by omega) (by decide)) (E_i (show oI (some r) = nI r from rfl) (by omega) (by decide) ?_))
    rw [show oI (some r) = nI r from rfl, nI_clamp (by omega), q5]
    dsimp only
    by_cases h2 : b.2 r 3 = 2
    · rw [if_pos h2]
      refine E_t (by rw [h2]; rfl) ?_
      rw [af_x x hx]
    · rw [if_neg h2]
      refine E_f (fun q => h2 ((nI_eq (a := b.2 r 3) (b := 2) (by omega) (by omega)).mp q)) (E_i rfl (by omega) (by decide) ?_)
      rw [af_d x hx _ (by omega)]
theorem sh1 : ∀ x, x < 4 → (nI x >>> ((1 : Int32) &&& 31)) = nI (bt x 1) := by decide +kernel
theorem stlL_lt4 {b : Book} {a : Nat} (hb : ∀ r, r < b.1 → b.2 r 0 = 115 → b.2 r 3 < 2) : ∀ d i x, i + d ≤ b.1 → x < 4 → stlL b a 0 i d x < 4 := by
  intro d
  induction d with
  | zero => intro i x _ h; exact h
  | succ d ih =>
    intro i x hi h
    unfold stlL
    apply ih _ _ (by omega)
    split
    · rename_i q
      exact sb4 x h 0 (by decide) _ (hb i (by omega) q.1)
    · exact h
theorem stl4 {b : Book} {a x : Nat} (W : WB b) (hx : x < 4) : stl b a 0 x < 4 := by
  unfold stl
  refine stlL_lt4 (fun r h1 h2 => (W.s h1 h2).2) _ _ _ (by omega) ?_
  cases e : ru b 107 none none with
  | none => exact hx
  | some r =>
    obtain ⟨r1, r2, _⟩ := ru_some e
    exact sb4 x hx 0 (by decide) _ (W.k r1 r2)
theorem cls_settle_loop {w : HS} {p : Nat} {b : Book} (R : RW w p b) (W : WB b) : ∀ d i n x, i + d = b.1 → d < n → x < 4 → FX1_settle_15 n w p (nI x) (nI i) = some (nI (stlL b 1 0 i d x), w) := by
  obtain ⟨_, hn, hr⟩ := id R
  have W1 := W.1
  intro d
  induction d with
  | zero =>
    intro i n x he hlt hx
    obtain ⟨n, rfl⟩ : ∃ q, n = q + 1 := ⟨n - 1, by omega⟩
    rw [FX1_settle_15, hn]
    exact E_t (nI_le (by omega) (by omega)) rfl
  | succ d ih =>
    intro i n x he hlt hx
    obtain ⟨n, rfl⟩ : ∃ q, n = q + 1 := ⟨n - 1, by omega⟩
    obtain ⟨q1, q2, q3, q4, _⟩ := hr i (by omega)
    have c1 := cfm_lt b i
    have bl := bt_lt x 1
    have f1 := W.2.2.1 i 1
    have nx : ∀ y, y < 4 → FX1_settle_57 (FX1_settle_15 n) w p (nI y) (nI i) = some (nI (stlL b 1 0 (i + 1) d y), w) := by
      intro y hy
      unfold FX1_settle_57
      rw [nI_1]
      exact ih (i + 1) n y (by omega) (by omega) hy
    have k2 : cfm b i = 2 ↔ b.2 i 0 = 115 := by
      unfold cfm
      rcases W.2.2.2 i (by omega) with q | q | q | q | q
      · by_cases h : b.2 i 2 = 2 <;> simp [q.1, h]
      · by_cases h : b.2 i 2 = 2 <;> simp [q.1, h]
      · simp [q.1]
      · simp [q.1]
      · rcases q.2 with q | q | q <;> simp [q]
    rw [FX1_settle_15, hn, nI_clamp (by omega), q1, q2, sh1 x hx]
    refine E_f (nI_ge (by omega) (by omega)) (E_f (nI_ge (a := i) (b := 4) (by omega) (by decide)) (E_i rfl (by omega) (by decide) ?_))
    by_cases hs : b.2 i 0 = 115
    · have s3 := W.s (show i < b.1 by omega) hs
      have e1 : cfr b i = b.2 i 1 := by unfold cfr; rw [if_pos (Or.inr (Or.inr hs))]
      refine E_t (by rw [k2.mpr hs]; rfl) (E_i rfl (by omega) (by decide) ?_)
      rw [e1]
      by_cases hb : bt x 1 = b.2 i 1
      · rw [stlL_t ⟨hs, hb⟩]
        refine E_t (by rw [hb]) ?_
        have := cls_aff (x := x) (o := some i) R W hx (fun r e => by cases e; exact ⟨by omega, by omega, by omega⟩)
        refine E_b this ?_
        have e2 : afB b x (some i) = sb x 0 (b.2 i 3) := by unfold afB; dsimp only; rw [if_neg (by omega)]
        dsimp only
        rw [e2]
        exact nx _ (sb4 x hx 0 (by decide) _ s3.2)
      · rw [stlL_f (fun q => hb q.2)]
        exact E_f (fun q => hb ((nI_eq (by omega) (by omega)).mp q).symm) (nx x hx)
    · rw [stlL_f (fun q => hs q.1)]
      exact E_f (fun q => hs (k2.mp ((nI_eq (a := cfm b i) (b := 2) (by omega) (by omega)).mp q))) (nx x hx)
theorem cls_settle {w : HS} {p x : Nat} {b : Book} (R : RW w p b) (W : WB b) (hx : x < 4) : FX1_settle w p (nI x) = some (nI (stl b 1 0 x), w) := by
  have W1 := W.1
  unfold FX1_settle
  refine E_c R.1 (E_b (cls_k R W) ?_)
  have ho : ∀ r, ru b 107 none none = some r → r < b.1 ∧ b.2 r 0 ≠ 109 ∧ b.2 r 3 < 3 := by
    intro r e
    obtain ⟨r1, r2, _⟩ := ru_some e
    have := W.k r1 r2
    exact ⟨r1, by omega, by omega⟩
  refine E_b (cls_aff R W hx ho) ?_
  dsimp only
  have e1 : stl b 1 0 x = stlL b 1 0 0 b.1 (afB b x (ru b 107 none none)) := by
    unfold stl afB
    cases e : ru b 107 none none with
    | none => rfl
    | some r =>
      obtain ⟨r1, r2, _⟩ := ru_some e
      have := W.k r1 r2
      dsimp only
      rw [if_neg (by omega)]
  rw [e1]
  exact cls_settle_loop R W b.1 0 FUEL _ (by omega) (fuel_lt (by omega)) (afB_lt hx (fun r e => (ho r e).2.2))
theorem wo0 : ∀ x, x < 4 → ∀ c, c < 2 → ((nI x >>> (nI c &&& 31)) &&& (1 : Int32)) = nI (bt x c) := by decide +kernel
theorem wo1 : ∀ x, x < 4 → ∀ c, c < 2 → ∀ d, d < 2 → ((nI x &&& (((1 : Int32) <<< (nI c &&& 31)) ^^^ (-1 : Int32))) ||| (nI d <<< (nI c &&& 31))) = nI (sb x c d) := by decide +kernel
theorem or4 : ∀ x, x < 4 → ∀ t, t < 2 → (nI x ||| (nI t <<< ((2 : Int32) &&& 31))) = nI (x + 4 * t) := by decide +kernel
theorem wrt4 {b : Book} {x c d : Nat} (W : WB b) (hx : x < 4) (hc : c < 2) (hd : d < 2) : wrt b 1 0 x c d < 4 := by
  unfold wrt
  refine stl4 W ?_
  have s4 : ∀ e, e < 2 → fol b 1 0 (sb x c e) c (bt x c) d < 4 := by
    intro e he
    have h4 := sb4 x hx c hc e he
    unfold fol
    split
    · cases e : ru b 97 (some (bt x c)) (some d) with
      | none => exact h4
      | some r =>
        obtain ⟨r1, r2, _⟩ := ru_some e
        have := W.a r1 r2
        refine sb4 _ h4 0 (by decide) _ ?_
        split <;> omega
    · exact h4
  refine s4 _ ?_
  split
  · rename_i r e
    split at e
    · obtain ⟨r1, r2, _⟩ := ru_some e
      exact (W.v r1 r2).1
    · cases e
  · exact hd
theorem cls_write {w : HS} {p x c d : Nat} {b : Book} (R : RW w p b) (W : WB b) (hx : x < 4) (hc : c < 2) (hd : d < 2) : FX1_writeOne w p (nI c) (nI d) (nI x) = some (nI (wrt b 1 0 x c d), w) := by
  have bl := bt_lt x c
  unfold FX1_writeOne
  refine E_c R.1 ?_
  rw [wo0 x hx c hc, wo1 x hx c hc d hd]
  have hs4 := sb4 x hx c hc d hd
  by_cases c0 : c = 0
  · subst c0
    refine E_t rfl ?_
    unfold FX1_writeOne_30
    refine E_b (cls_v R W bl hd) ?_
    have ho : ∀ r, ru b 118 (some (bt x 0)) (some d) = some r → r < b.1 ∧ b.2 r 0 ≠ 109 ∧ b.2 r 3 < 3 := by
      intro r e
      obtain ⟨r1, r2, _⟩ := ru_some e
      have := W.v r1 r2
      exact ⟨r1, by omega, by omega⟩
    refine E_b (cls_aff R W hs4 ho) ?_
    refine E_b (cls_settle R W (afB_lt hs4 (fun r e => (ho r e).2.2))) ?_
    dsimp only
    congr 3
    unfold wrt fol afB
    rw [if_neg (by decide), if_pos rfl]
    cases e : ru b 118 (some (bt x 0)) (some d) with
    | none => rfl
    | some r =>
      obtain ⟨r1, r2, _⟩ := ru_some e
      have := W.v r1 r2
      dsimp only
      rw [if_neg (by omega), sbsb x hx d hd _ this.1]
  · have c1 : c = 1 := by omega
    subst c1
    refine E_f (by decide) ?_
    unfold FX1_writeOne_30
    refine E_b (cls_a R W bl hd) ?_
    have ho : ∀ r, ru b 97 (some (bt x 1)) (some d) = some r → r < b.1 ∧ b.2 r 0 ≠ 109 ∧ b.2 r 3 < 3 := by
      intro r e
      obtain ⟨r1, r2, _⟩ := ru_some e
      have := W.a r1 r2
      exact ⟨r1, by omega, by omega⟩
    refine E_b (cls_aff R W hs4 ho) ?_
    refine E_b (cls_settle R W (afB_lt hs4 (fun r e => (ho r e).2.2))) ?_
    dsimp only
    congr 3
theorem rdd4 {b : Book} {x c : Nat} (W : WB b) (hx : x < 4) (hc : c < 2) : (rdd b 1 0 x c).2 < 4 ∧ (rdd b 1 0 x c).1 < 2 := by
  have bl := bt_lt x c
  have s4 : ∀ y, y < 4 → stl b 1 0 (fol b 1 0 y c (bt x c) 2) < 4 := by
    intro y h4
    refine stl4 W ?_
    unfold fol
    split
    · cases e : ru b 97 (some (bt x c)) (some 2) with
      | none => exact h4
      | some r =>
        obtain ⟨r1, r2, _⟩ := ru_some e
        have := W.a r1 r2
        refine sb4 _ h4 0 (by decide) _ ?_
        split <;> omega
    · exact h4
  unfold rdd
  split
  · rename_i r e
    split at e
    · obtain ⟨r1, r2, _, r4⟩ := ru_some e
      exact ⟨s4 _ (sb4 x hx c hc _ (W.v r1 r2).1), (W.v r1 r2).2 (r4 2 rfl)⟩
    · cases e
  · exact ⟨s4 x hx, bl⟩
theorem cls_read {w : HS} {p x c : Nat} {b : Book} (R : RW w p b) (W : WB b) (hx : x < 4) (hc : c < 2) : FX1_readOne w p (nI c) (nI x) = some (nI ((rdd b 1 0 x c).2 + 4 * (rdd b 1 0 x c).1), w) := by
  have bl := bt_lt x c
  have W1 := W.1
  unfold FX1_readOne
  refine E_c R.1 ?_
  rw [wo0 x hx c hc]
  have r46 : ∀ o t y, (∀ r, o = some r → r < b.1 ∧ b.2 r 0 ≠ 109 ∧ b.2 r 3 < 3) → t < 2 → y = stl b 1 0 (afB b x o) → FX1_readOne_46 w p (nI x) (oI o) (nI t) = some (nI (y + 4 * t), w) := by
    intro o t y ho ht hy
    unfold FX1_readOne_46
    refine E_b (cls_aff R W hx ho) ?_
    have a4 : afB b x o < 4 := afB_lt hx (fun r e => (ho r e).2.2)
    refine E_b (cls_settle R W a4) ?_
    dsimp only
    rw [or4 _ (stl4 W a4) t ht, hy]
  by_cases c0 : c = 0
  · subst c0
    refine E_t rfl ?_
    unfold FX1_readOne_18
    refine E_b (cls_vr R W bl) ?_
    dsimp only
    have ho : ∀ r, ru b 118 (some (bt x 0)) (some 2) = some r → r < b.1 ∧ b.2 r 0 ≠ 109 ∧ b.2 r 3 < 3 := by
      intro r e
      obtain ⟨r1, r2, _⟩ := ru_some e
      have := W.v r1 r2
      exact ⟨r1, by omega, by omega⟩
    unfold rdd fol
    rw [if_pos rfl]
    cases e : ru b 118 (some (bt x 0)) (some 2) with
    | none =>
      refine E_t rfl ?_
      unfold FX1_readOne_45
      rw [if_neg (by decide)]
      exact r46 none _ _ (fun r e => by cases e) bl rfl
    | some r =>
      obtain ⟨r1, r2, _, r4⟩ := ru_some e
      have v3 := W.v r1 r2
      have v4 := v3.2 (r4 2 rfl)
      have q6 := (R.2.2 r r1).2.2.2.2 r2 (r4 2 rfl)
      refine E_f (nI_nM (show r < 2 ^ 31 by omega)) (E_t rfl (E_i (show oI (some r) = nI r from rfl) (by omega) (by decide) ?_))
      rw [show (oI (some r)).toNatClampNeg = r from nI_clamp (by omega), q6]
      dsimp only
      rw [if_neg (by decide)]
      refine r46 (some r) _ _ (fun r' e' => ?_) v4 ?_
      · cases e'
        exact ho r e
      · unfold afB
        dsimp only
        rw [if_neg (by omega)]
  · have c1 : c = 1 := by omega
    subst c1
    refine E_f (by decide) ?_
    unfold FX1_readOne_18
    refine E_b (cls_ar R W bl) ?_
    dsimp only
    have ho : ∀ r, ru b 97 (some (bt x 1)) (some 2) = some r → r < b.1 ∧ b.2 r 0 ≠ 109 ∧ b.2 r 3 < 3 := by
      intro r e
      obtain ⟨r1, r2, _⟩ := ru_some e
      have := W.a r1 r2
      exact ⟨r1, by omega, by omega⟩
    have e1 : rdd b 1 0 x 1 = (bt x 1, stl b 1 0 (afB b x (ru b 97 (some (bt x 1)) (some 2)))) := by
      unfold rdd fol afB
      rw [if_neg (by decide), if_pos rfl]
      rfl
    rw [e1]
    dsimp only
    have fin := r46 (ru b 97 (some (bt x 1)) (some 2)) (bt x 1) _ ho bl rfl
    by_cases hm : oI (ru b 97 (some (bt x 1)) (some 2)) = -1
    · exact E_t hm fin
    · exact E_f hm (E_f (by decide) fin)
def otB (b : Book) (c act x : Nat) : Nat := if act = 0 then (rAt b 1 0 x c).2 + 4 * (rAt b 1 0 x c).1 else wAt b 1 0 x c (act - 1)
theorem otB_r {b : Book} {c x : Nat} : otB b c 0 x = (rAt b 1 0 x c).2 + 4 * (rAt b 1 0 x c).1 := if_pos rfl
theorem otB_w {b : Book} {c act x : Nat} (h : ¬ act = 0) : otB b c act x = wAt b 1 0 x c (act - 1) := if_neg h
theorem cls_one {w : HS} {p x c act : Nat} {b : Book} (R : RW w p b) (W : WB b) (hx : x < 4) (hc : c < 2) (ha : act < 3) : FX1_operateOne w p (nI c) (nI act) (nI x) = some (nI (if act = 0 then (rdd b 1 0 x c).2 + 4 * (rdd b 1 0 x c).1 else wrt b 1 0 x c (act - 1)), w) := by
  unfold FX1_operateOne
  refine E_c R.1 ?_
  by_cases h : act = 0
  · subst h
    refine E_t rfl (E_b (cls_read R W hx hc) ?_)
    rw [if_pos rfl]
  · refine E_f (nI_ne0 (by omega) (by omega)) (E_b (a := (nI (wrt b 1 0 x c (act - 1)), w)) ?_ ?_)
    · rw [l1_, nI_subc (by omega)]
      exact cls_write R W hx hc (by omega)
    · dsimp only
      rw [if_neg h]
theorem fx3 : ∀ y, y < 8 → (nI y &&& (3 : Int32)) = nI (y % 4) := by decide +kernel
theorem eo : ∀ x, x < 8 → ∀ y, y < 8 → ((nI y &&& (3 : Int32)) ||| (((nI x ||| nI y) >>> ((2 : Int32) &&& 31)) <<< ((2 : Int32) &&& 31))) = nI (y % 4 + 4 * (if x / 4 = 1 ∨ y / 4 = 1 then 1 else 0)) := by decide +kernel
theorem ea : ∀ x, x < 8 → ∀ y, y < 8 → ((nI y &&& (3 : Int32)) ||| (((nI x &&& nI y) >>> ((2 : Int32) &&& 31)) <<< ((2 : Int32) &&& 31))) = nI (y % 4 + 4 * (if x / 4 = 1 ∧ y / 4 = 1 then 1 else 0)) := by decide +kernel
theorem cls_op {w : HS} {p x c act : Nat} {b : Book} (R : RW w p b) (W : WB b) (hx : x < 4) (hc : c < 2) (ha : act < 3) : FX1_operate w p (nI c) (nI act) (nI x) = some (nI (otB b c act x), w) := by
  have h0 : 0 < b.1 := W.2.1
  have hl : lt0 b = b.2 0 0 := by unfold lt0; rw [if_neg (by omega)]
  obtain ⟨q2, _, _, q5, _⟩ := R.2.2 0 h0
  have c9 := cfm_lt b 0
  have k4 : cfm b 0 = 4 ↔ b.2 0 0 = 110 := by
    unfold cfm
    rcases W.2.2.2 0 h0 with q | q | q | q | q
    · by_cases h : b.2 0 2 = 2 <;> simp [q.1, h]
    · by_cases h : b.2 0 2 = 2 <;> simp [q.1, h]
    · simp [q.1]
    · simp [q.1]
    · rcases q.2 with q | q | q <;> simp [q]
  have k5 : cfm b 0 = 5 ↔ b.2 0 0 = 109 := by
    unfold cfm
    rcases W.2.2.2 0 h0 with q | q | q | q | q
    · by_cases h : b.2 0 2 = 2 <;> simp [q.1, h]
    · by_cases h : b.2 0 2 = 2 <;> simp [q.1, h]
    · simp [q.1]
    · simp [q.1]
    · rcases q.2 with q | q | q <;> simp [q]
  have k6 : cfm b 0 = 6 ↔ b.2 0 0 = 98 := by
    unfold cfm
    rcases W.2.2.2 0 h0 with q | q | q | q | q
    · by_cases h : b.2 0 2 = 2 <;> simp [q.1, h]
    · by_cases h : b.2 0 2 = 2 <;> simp [q.1, h]
    · simp [q.1]
    · simp [q.1]
    · rcases q.2 with q | q | q <;> simp [q]
  have kn : ∀ z, z < 9 → (nI (cfm b 0) = nI z ↔ cfm b 0 = z) := fun z hz => nI_eq (by omega) (by omega)
  have o131 : FX1_operate_131 w p (nI c) (nI act) (nI x) = some (nI (if act = 0 then (rdd b 1 0 x c).2 + 4 * (rdd b 1 0 x c).1 else wrt b 1 0 x c (act - 1)), w) := by
    unfold FX1_operate_131
    exact E_b (cls_one R W hx hc ha) rfl
  have oe : ¬ (b.2 0 0 = 110 ∧ c = 0) → ¬ (b.2 0 0 = 109 ∧ c = 1) → ¬ (b.2 0 0 = 98 ∧ c = 1) → (if act = 0 then (rdd b 1 0 x c).2 + 4 * (rdd b 1 0 x c).1 else wrt b 1 0 x c (act - 1)) = otB b c act x := by
    intro h1 h2 h3
    rw [← hl] at h1 h2 h3
    unfold otB
    rw [rAt_e h1 h2 h3, wAt_e h1 h2 h3]
  have o33 : ¬ (b.2 0 0 = 110 ∧ c = 0) → FX1_operate_33 w p (nI c) (nI act) (nI x) = some (nI (otB b c act x), w) := by
    intro hn
    unfold FX1_operate_33
    rw [q2]
    by_cases h5 : b.2 0 0 = 109
    · refine E_t (by rw [k5.mpr h5]; rfl) (E_b (cls_one (c := 0) R W hx (by decide) ha) ?_)
      dsimp only
      congr 3
      by_cases c1 : c = 1
      · subst c1
        unfold otB
        rw [rAt_m ⟨hl.trans h5, rfl⟩, wAt_m ⟨hl.trans h5, rfl⟩]
      · obtain rfl : c = 0 := by omega
        exact oe hn (fun q => c1 q.2) (fun q => c1 q.2)
    · refine E_f (fun q => h5 (k5.mp ((kn 5 (by decide)).mp q))) ?_
      by_cases h6 : b.2 0 0 = 98
      · refine E_t (by rw [k6.mpr h6]; rfl) ?_
        by_cases c1 : c = 1
        · subst c1
          refine E_t rfl (E_b (cls_one (c := 1) R W hx (by decide) ha) ?_)
          dsimp only
          have f3 := W.2.2.1 0 3
          by_cases h : act = 0
          · subst h
            rw [if_pos rfl]
            obtain ⟨a1, a2⟩ := rdd4 (c := 1) W hx (by decide)
            obtain ⟨z1, z2⟩ := rdd4 (c := 0) (x := (rdd b 1 0 x 1).2) W a1 (by decide)
            have e3 : ((rdd b 1 0 x 1).2 + 4 * (rdd b 1 0 x 1).1) % 4 = (rdd b 1 0 x 1).2 := by omega
            refine E_b (show FX1_operateOne w p 0 (nI 0) (nI ((rdd b 1 0 x 1).2 + 4 * (rdd b 1 0 x 1).1) &&& 3) = _ from by rw [fx3 _ (by omega), e3]; exact cls_one (c := 0) (act := 0) R W a1 (by decide) (by decide)) ?_
            dsimp only
            rw [if_pos rfl, q5 (by omega), eo _ (by omega) _ (by omega), ea _ (by omega) _ (by omega), otB_r, rAt_b ⟨hl.trans h6, rfl⟩]
            have d1 : ∀ y t, y < 4 → (y + 4 * t) / 4 = t := by intro y t hy; omega
            have d2 : ∀ y t, y < 4 → (y + 4 * t) % 4 = y := by intro y t hy; omega
            rw [d1 _ _ a1, d1 _ _ z1, d2 _ _ z1]
            dsimp only
            by_cases h1 : b.2 0 3 = 1
            · rw [h1]
              exact E_t rfl rfl
            · refine E_f (fun q => h1 ((nI_eq (a := b.2 0 3) (b := 1) (by omega) (by omega)).mp q)) ?_
              rw [if_neg h1]
          · rw [if_neg h]
            have a1 := wrt4 (c := 1) (d := act - 1) W hx (by decide) (by omega)
            have z1 := wrt4 (c := 0) (d := act - 1) W a1 (by decide) (by omega)
            have e3 : wrt b 1 0 x 1 (act - 1) % 4 = wrt b 1 0 x 1 (act - 1) := by omega
            refine E_b (show FX1_operateOne w p 0 (nI act) (nI (wrt b 1 0 x 1 (act - 1)) &&& 3) = _ from by rw [fx3 _ (by omega), e3]; exact cls_one (c := 0) R W a1 (by decide) ha) ?_
            dsimp only
            rw [if_neg h, eo _ (by omega) _ (by omega), ea _ (by omega) _ (by omega), otB_w h, wAt_b ⟨hl.trans h6, rfl⟩]
            have d1 : wrt b 1 0 x 1 (act - 1) / 4 = 0 := by omega
            have d2 : wrt b 1 0 (wrt b 1 0 x 1 (act - 1)) 0 (act - 1) / 4 = 0 := by omega
            have d3 : wrt b 1 0 (wrt b 1 0 x 1 (act - 1)) 0 (act - 1) % 4 = wrt b 1 0 (wrt b 1 0 x 1 (act - 1)) 0 (act - 1) := by omega
            rw [d1, d2, d3]
            by_cases h1 : w.2.2.2.2.1 p 5 0 = 1
            · exact E_t h1 rfl
            · exact E_f h1 rfl
        · refine E_f (fun q => c1 ((nI_eq (a := c) (b := 1) (by omega) (by omega)).mp q)) ?_
          rw [o131, oe hn (fun q => c1 q.2) (fun q => c1 q.2)]
      · refine E_f (fun q => h6 (k6.mp ((kn 6 (by decide)).mp q))) ?_
        rw [o131, oe hn (fun q => h5 q.1) (fun q => h6 q.1)]
  unfold FX1_operate
  refine E_c R.1 ?_
  rw [q2]
  by_cases h4 : b.2 0 0 = 110
  · refine E_t (by rw [k4.mpr h4]; rfl) ?_
    by_cases c0 : c = 0
    · subst c0
      have l3 : b.2 0 3 < 2 := by rcases W.2.2.2 0 h0 with q | q | q | q | q <;> omega
      refine E_t rfl ?_
      by_cases h : act = 0
      · subst h
        rw [otB_r, rAt_n ⟨hl.trans h4, rfl⟩]
        refine E_t rfl ?_
        rw [q5 (by omega), or4 x hx _ l3]
      · rw [otB_w h, wAt_n ⟨hl.trans h4, rfl⟩]
        exact E_f (nI_ne0 (by omega) (by omega)) rfl
    · exact E_f (nI_ne0 (by omega) (by omega)) (o33 (fun q => c0 q.2))
  · exact E_f (fun q => h4 (k4.mp ((kn 4 (by decide)).mp q))) (o33 (fun q => h4 q.1))
