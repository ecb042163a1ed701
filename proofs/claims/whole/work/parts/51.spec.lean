/-! Faults as rule books over bits: what both programs do to a memory. -/
def bt (x c : Nat) : Nat := x / 2 ^ c % 2
def sb (x c d : Nat) : Nat := if d = 1 then (if bt x c = 1 then x else x + 2 ^ c) else (if bt x c = 1 then x - 2 ^ c else x)
theorem bt_lt (x c : Nat) : bt x c < 2 := Nat.mod_lt _ (by decide)
abbrev Book : Type := Nat × (Nat → Nat → Nat)
def fsN (p : Nat → Bool) : Nat → Nat → Option Nat
  | _, 0 => none
  | i, d + 1 => if p i = true then some i else fsN p (i + 1) d
/-- a place, or none -/
def oI (o : Option Nat) : Int32 := match o with
  | some r => nI r
  | none => -1
theorem fstI_fsN (p : Nat → Bool) : ∀ d i, fstI p i d = oI (fsN p i d) := by
  intro d
  induction d with
  | zero => intro i; rfl
  | succ d ih =>
    intro i
    unfold fstI fsN
    by_cases h : p i = true
    · rw [if_pos h, if_pos h]; rfl
    · rw [if_neg h, if_neg h]; exact ih (i + 1)
theorem fsN_some {p : Nat → Bool} : ∀ {d i r : Nat}, fsN p i d = some r → i ≤ r ∧ r < i + d ∧ p r = true := by
  intro d
  induction d with
  | zero => intro i r h; cases h
  | succ d ih =>
    intro i r h
    unfold fsN at h
    by_cases hp : p i = true
    · rw [if_pos hp] at h
      cases h
      exact ⟨Nat.le_refl _, by omega, hp⟩
    · rw [if_neg hp] at h
      obtain ⟨h1, h2, h3⟩ := ih h
      exact ⟨by omega, by omega, h3⟩
theorem fsN_congr {p q : Nat → Bool} : ∀ {d i : Nat}, (∀ r, i ≤ r → r < i + d → p r = q r) → fsN p i d = fsN q i d := by
  intro d
  induction d with
  | zero => intro i h; rfl
  | succ d ih =>
    intro i h
    unfold fsN
    rw [h i (Nat.le_refl _) (by omega), ih (fun r h1 h2 => h r (by omega) (by omega))]
/-- the first rule of a letter, of what, by what -/
def ru (b : Book) (l : Nat) (of by_ : Option Nat) : Option Nat := fsN (fun r => decide (b.2 r 0 = l ∧ (∀ z, of = some z → b.2 r 1 = z) ∧ (∀ z, by_ = some z → b.2 r 2 = z))) 0 b.1
def stlL (b : Book) (a v : Nat) : Nat → Nat → Nat → Nat
  | _, 0, x => x
  | i, d + 1, x => stlL b a v (i + 1) d (if b.2 i 0 = 115 ∧ bt x a = b.2 i 1 then sb x v (b.2 i 3) else x)
def stl (b : Book) (a v x : Nat) : Nat := stlL b a v 0 b.1 (match ru b 107 none none with
  | some r => sb x v (b.2 r 3)
  | none => x)
def fol (b : Book) (a v x c of by_ : Nat) : Nat := if c = a then (match ru b 97 (some of) (some by_) with
  | some r => sb x v (if b.2 r 3 = 2 then 1 - bt x v else b.2 r 3)
  | none => x) else x
def wrt (b : Book) (a v x c d : Nat) : Nat := stl b a v (fol b a v (sb x c (match (if c = v then ru b 118 (some (bt x c)) (some d) else none) with
  | some r => b.2 r 3
  | none => d)) c (bt x c) d)
/-- what is told, what is there then -/
def rdd (b : Book) (a v x c : Nat) : Nat × Nat := match (if c = v then ru b 118 (some (bt x c)) (some 2) else none) with
  | some r => (b.2 r 4, stl b a v (fol b a v (sb x c (b.2 r 3)) c (bt x c) 2))
  | none => (bt x c, stl b a v (fol b a v x c (bt x c) 2))
def lt0 (b : Book) : Nat := if b.1 = 0 then 0 else b.2 0 0
def wAt (b : Book) (a v x c d : Nat) : Nat := if lt0 b = 110 ∧ c = v then x else
  if lt0 b = 109 ∧ c = a then wrt b a v x v d else
  if lt0 b = 98 ∧ c = a then wrt b a v (wrt b a v x c d) v d else wrt b a v x c d
def rAt (b : Book) (a v x c : Nat) : Nat × Nat := if lt0 b = 110 ∧ c = v then (b.2 0 3, x) else
  if lt0 b = 109 ∧ c = a then rdd b a v x v else
  if lt0 b = 98 ∧ c = a then ((if b.2 0 3 = 1 then (if (rdd b a v x c).1 = 1 ∨ (rdd b a v (rdd b a v x c).2 v).1 = 1 then 1 else 0) else (if (rdd b a v x c).1 = 1 ∧ (rdd b a v (rdd b a v x c).2 v).1 = 1 then 1 else 0)), (rdd b a v (rdd b a v x c).2 v).2) else rdd b a v x c
-- bits, by all cases
theorem sb_lt : ∀ x, x < 64 → ∀ c, c < 6 → ∀ d, d < 2 → sb x c d < 64 := by decide +kernel
theorem bt_sb : ∀ x, x < 64 → ∀ c, c < 6 → ∀ d, d < 2 → bt (sb x c d) c = d := by decide +kernel
theorem bt_sb_ne : ∀ x, x < 64 → ∀ c, c < 6 → ∀ d, d < 2 → ∀ e, e < 8 → e ≠ c → bt (sb x c d) e = bt x e := by decide +kernel
theorem wth_nI : ∀ x, x < 64 → ∀ c, c < 6 → ∀ d, d < 2 → wthI (nI x) (nI c) (nI d) = nI (sb x c d) := by decide +kernel
theorem bit_nI : ∀ x, x < 64 → ∀ c, c < 6 → ((nI x >>> (nI c &&& 31)) &&& 1) = nI (bt x c) := by decide +kernel
theorem bit_no : ∀ x, x < 64 → ((nI x >>> ((-1 : Int32) &&& 31)) &&& 1) = nI (bt x 7) := by decide +kernel
theorem eq_of_bt : ∀ x, x < 64 → ∀ y, y < 64 → (∀ c, c < 6 → bt x c = bt y c) → x = y := by decide +kernel
