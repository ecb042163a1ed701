/-! The machine's rows over a pure heap: one judgement V, whose world is a function from addresses to cells. -/
abbrev classes : List vw_C := [(RX0, TX0, 3), (RX1, TX1, 9), (RX2, TX2, 9), (RX3, TX3, 12), (RX4, TX4, 16), (RX5, TX5, 6), (RX6, TX6, 4), (RX7, TX7, 6), (RX8, TX8, 12), (RX9, TX9, 41)]
/-- a cell: an array of a kind (0 int, 1 byte, 2 long, 3 boolean, 4 Kind, 5 March, 6 Memory), or an object of a class -/
abbrev PC : Type := (Nat × vp_A) ⊕ (Nat × List Value)
abbrev PH : Type := Nat → Option PC
def hup (g : PH) (a : Nat) (c : PC) : PH := fun q => if q = a then some c else g q
/-- tables, array classes, the first address of ours, String constants and their bytes, the two static arrays -/
abbrev HE : Type := va_G × (Nat → ClassId) × Nat × (Nat → Nat) × (Nat → Nat) × (Nat → Nat)
def eD (E : HE) : va_G := E.1
def eC (E : HE) : Nat → ClassId := E.2.1
def eB (E : HE) : Nat := E.2.2.1
def eK (E : HE) : Nat → Nat := E.2.2.2.1
def eV (E : HE) : Nat → Nat := E.2.2.2.2.1
def eT (E : HE) : Nat → Nat := E.2.2.2.2.2
def hcn (E : HE) (c : PC) : va_E := match c with
  | .inl x => .inl (eC E x.1, x.2)
  | .inr o => .inr o
def hA (E : HE) : Nat → Prop := fun q => eB E ≤ q
abbrev hTy (E : HE) : List (ClassId × FieldType) := [(eC E 0, .int), (eC E 1, .byte), (eC E 2, .long), (eC E 3, .boolean), (eC E 4, .object RX1), (eC E 5, .object RX2), (eC E 6, .object RX3)]
def hH (E : HE) (g : PH) (H : Heap) : Prop := ∀ (a : Nat) (c : PC), g a = some c → va_at (eD E) classes (a, hcn E c) H ∧ eB E ≤ a
theorem hH.put {E : HE} {g : PH} {H H1 : Heap} {a : Nat} {c : PC} (h : hH E g H) (hb : eB E ≤ a) (hc : va_at (eD E) classes (a, hcn E c) H1) (o : ∀ q : Nat, q ≠ a → H1[q]? = H[q]?) : hH E (hup g a c) H1 := by
  intro q d hq
  unfold hup at hq
  by_cases e : q = a
  · subst e
    rw [if_pos rfl] at hq
    cases hq
    exact ⟨hc, hb⟩
  · rw [if_neg e] at hq
    exact ⟨(h q d hq).1.kept (o q e), (h q d hq).2⟩
theorem hH.lt {E : HE} {g : PH} {H : Heap} {a : Nat} {c : PC} (h : hH E g H) (ha : g a = some c) : a < H.size := (h a c ha).1.lt
theorem hH.kept {E : HE} {g : PH} {H H1 : Heap} (h : hH E g H) (o : ∀ q : Nat, q < H.size → H1[q]? = H[q]?) : hH E g H1 := fun a c ha => ⟨(h a c ha).1.kept (o a (h.lt ha)), (h a c ha).2⟩
theorem hH.push {E : HE} {g : PH} {H H1 : Heap} {a : Nat} {c : PC} (h : hH E g H) (hz : H.size = a) (hb : eB E ≤ a) (hc : va_at (eD E) classes (a, hcn E c) H1) (o : ∀ q : Nat, q < a → H1[q]? = H[q]?) : hH E (hup g a c) H1 := by
  intro q d hq
  unfold hup at hq
  by_cases e : q = a
  · subst e
    rw [if_pos rfl] at hq
    cases hq
    exact ⟨hc, hb⟩
  · rw [if_neg e] at hq
    exact ⟨(h q d hq).1.kept (o q (by rw [← hz]; exact h.lt hq)), (h q d hq).2⟩
-- reads and writes of the pure heap
def getV (g : PH) (a ci k : Nat) : Option Value := match g a with
  | some (.inr o) => if o.1 = ci then o.2[k]? else none
  | _ => none
def getI (g : PH) (a ci k : Nat) : Option Int32 := match getV g a ci k with
  | some (.int x) => some x
  | _ => none
def getL (g : PH) (a ci k : Nat) : Option Int64 := match getV g a ci k with
  | some (.long x) => some x
  | _ => none
def getQ (g : PH) (a ci k : Nat) : Option (Option Nat) := match getV g a ci k with
  | some (.ref x) => some (some x)
  | some .null => some none
  | _ => none
def isO (g : PH) (a ci : Nat) : Bool := match g a with
  | some (.inr o) => o.1 == ci
  | _ => false
def putV (g : PH) (a ci k : Nat) (v : Value) : Option PH := match g a with
  | some (.inr o) => if o.1 = ci ∧ k < o.2.length then some (hup g a (.inr (ci, o.2.set k v))) else none
  | _ => none
def inb (i : Int32) (n : Nat) : Bool := decide (¬ (i < 0 ∨ n ≤ i.toNatClampNeg))
theorem inb_spec {i : Int32} {n : Nat} (h : inb i n = true) : vp_in i n := by
  have h2 : ¬ (i < 0 ∨ n ≤ i.toNatClampNeg) := by simpa [inb] using h
  exact h2
/-- the row of an int, byte or boolean array -/
def aI (g : PH) (a kd : Nat) : Option (Nat × (Nat → Int32)) := match g a with
  | some (.inl (k, n, .inl f)) => if k = kd then some (n, f) else none
  | _ => none
def aL (g : PH) (a : Nat) : Option (Nat × (Nat → Int64)) := match g a with
  | some (.inl (k, n, .inr (.inl f))) => if k = 2 then some (n, f) else none
  | _ => none
def aQ (g : PH) (a kd : Nat) : Option (Nat × (Nat → Option Nat)) := match g a with
  | some (.inl (k, n, .inr (.inr (.inr (.inr f))))) => if k = kd then some (n, f) else none
  | _ => none
def ldI (g : PH) (a kd : Nat) (i : Int32) : Option Int32 := match aI g a kd with
  | some (n, f) => if inb i n then some (f i.toNatClampNeg) else none
  | none => none
def ldL (g : PH) (a : Nat) (i : Int32) : Option Int64 := match aL g a with
  | some (n, f) => if inb i n then some (f i.toNatClampNeg) else none
  | none => none
def ldQ (g : PH) (a kd : Nat) (i : Int32) : Option (Option Nat) := match aQ g a kd with
  | some (n, f) => if inb i n then some (f i.toNatClampNeg) else none
  | none => none
def stI (g : PH) (a kd : Nat) (i x : Int32) : Option PH := match aI g a kd with
  | some (n, f) => if inb i n then some (hup g a (.inl (kd, n, .inl (upd f i.toNatClampNeg x)))) else none
  | none => none
def stL (g : PH) (a : Nat) (i : Int32) (x : Int64) : Option PH := match aL g a with
  | some (n, f) => if inb i n then some (hup g a (.inl (2, n, .inr (.inl (vp_updL f i.toNatClampNeg x))))) else none
  | none => none
def stQ (g : PH) (a kd ci : Nat) (i : Int32) (x : Nat) : Option PH := match aQ g a kd with
  | some (n, f) => if inb i n = true ∧ isO g x ci = true then some (hup g a (.inl (kd, n, .inr (.inr (.inr (.inr (va_up f i.toNatClampNeg (some x)))))))) else none
  | none => none
def alen (g : PH) (a : Nat) : Option Int32 := match g a with
  | some (.inl x) => if x.1 < 7 then some (Int32.ofNat x.2.1) else none
  | _ => none
theorem getV_spec {g : PH} {a ci k : Nat} {v : Value} (h : getV g a ci k = some v) : ∃ fs : List Value, g a = some (.inr (ci, fs)) ∧ fs[k]? = some v := by
  unfold getV at h
  split at h
  · rename_i o ho
    obtain ⟨c, fs⟩ := o
    dsimp only at h
    by_cases e : c = ci
    · subst e
      rw [if_pos rfl] at h
      exact ⟨fs, ho, h⟩
    · rw [if_neg e] at h
      cases h
  · cases h
theorem getI_spec {g : PH} {a ci k : Nat} {x : Int32} (h : getI g a ci k = some x) : getV g a ci k = some (.int x) := by
  unfold getI at h
  split at h
  · rename_i y hy
    cases h
    exact hy
  · cases h
theorem getL_spec {g : PH} {a ci k : Nat} {x : Int64} (h : getL g a ci k = some x) : getV g a ci k = some (.long x) := by
  unfold getL at h
  split at h
  · rename_i y hy
    cases h
    exact hy
  · cases h
theorem getQ_spec {g : PH} {a ci k : Nat} {x : Option Nat} (h : getQ g a ci k = some x) : getV g a ci k = some (va_rf x) := by
  unfold getQ at h
  split at h
  · rename_i y hy
    cases h
    exact hy
  · rename_i hy
    cases h
    exact hy
  · cases h
theorem isO_spec {g : PH} {a ci : Nat} (h : isO g a ci = true) : ∃ fs : List Value, g a = some (.inr (ci, fs)) := by
  unfold isO at h
  split at h
  · rename_i o ho
    obtain ⟨c, fs⟩ := o
    have e : c = ci := by simpa using h
    subst e
    exact ⟨fs, ho⟩
  · cases h
theorem putV_spec {g g' : PH} {a ci k : Nat} {v : Value} (h : putV g a ci k v = some g') : ∃ fs : List Value, g a = some (.inr (ci, fs)) ∧ k < fs.length ∧ g' = hup g a (.inr (ci, fs.set k v)) := by
  unfold putV at h
  split at h
  · rename_i o ho
    obtain ⟨c, fs⟩ := o
    dsimp only at h
    by_cases e : c = ci ∧ k < fs.length
    · rw [if_pos e] at h
      obtain ⟨rfl, e2⟩ := e
      cases h
      exact ⟨fs, ho, e2, rfl⟩
    · rw [if_neg e] at h
      cases h
  · cases h
theorem aI_spec {g : PH} {a kd n : Nat} {f : Nat → Int32} (h : aI g a kd = some (n, f)) : g a = some (.inl (kd, n, .inl f)) := by
  unfold aI at h
  split at h
  · rename_i k n1 f1 ho
    by_cases e : k = kd
    · subst e
      rw [if_pos rfl] at h
      cases h
      exact ho
    · rw [if_neg e] at h
      cases h
  · cases h
theorem aL_spec {g : PH} {a n : Nat} {f : Nat → Int64} (h : aL g a = some (n, f)) : g a = some (.inl (2, n, .inr (.inl f))) := by
  unfold aL at h
  split at h
  · rename_i k n1 f1 ho
    by_cases e : k = 2
    · subst e
      rw [if_pos rfl] at h
      cases h
      exact ho
    · rw [if_neg e] at h
      cases h
  · cases h
theorem aQ_spec {g : PH} {a kd n : Nat} {f : Nat → Option Nat} (h : aQ g a kd = some (n, f)) : g a = some (.inl (kd, n, .inr (.inr (.inr (.inr f))))) := by
  unfold aQ at h
  split at h
  · rename_i k n1 f1 ho
    by_cases e : k = kd
    · subst e
      rw [if_pos rfl] at h
      cases h
      exact ho
    · rw [if_neg e] at h
      cases h
  · cases h
theorem ldI_spec {g : PH} {a kd : Nat} {i x : Int32} (h : ldI g a kd i = some x) : ∃ (n : Nat) (f : Nat → Int32), g a = some (.inl (kd, n, .inl f)) ∧ vp_in i n ∧ f i.toNatClampNeg = x := by
  unfold ldI at h
  split at h
  · rename_i n f ho
    by_cases e : inb i n = true
    · rw [if_pos e] at h
      cases h
      exact ⟨n, f, aI_spec ho, inb_spec e, rfl⟩
    · rw [if_neg e] at h
      cases h
  · cases h
theorem ldL_spec {g : PH} {a : Nat} {i : Int32} {x : Int64} (h : ldL g a i = some x) : ∃ (n : Nat) (f : Nat → Int64), g a = some (.inl (2, n, .inr (.inl f))) ∧ vp_in i n ∧ f i.toNatClampNeg = x := by
  unfold ldL at h
  split at h
  · rename_i n f ho
    by_cases e : inb i n = true
    · rw [if_pos e] at h
      cases h
      exact ⟨n, f, aL_spec ho, inb_spec e, rfl⟩
    · rw [if_neg e] at h
      cases h
  · cases h
theorem ldQ_spec {g : PH} {a kd : Nat} {i : Int32} {x : Option Nat} (h : ldQ g a kd i = some x) : ∃ (n : Nat) (f : Nat → Option Nat), g a = some (.inl (kd, n, .inr (.inr (.inr (.inr f))))) ∧ vp_in i n ∧ f i.toNatClampNeg = x := by
  unfold ldQ at h
  split at h
  · rename_i n f ho
    by_cases e : inb i n = true
    · rw [if_pos e] at h
      cases h
      exact ⟨n, f, aQ_spec ho, inb_spec e, rfl⟩
    · rw [if_neg e] at h
      cases h
  · cases h
theorem stI_spec {g g' : PH} {a kd : Nat} {i x : Int32} (h : stI g a kd i x = some g') : ∃ (n : Nat) (f : Nat → Int32), g a = some (.inl (kd, n, .inl f)) ∧ vp_in i n ∧ g' = hup g a (.inl (kd, n, .inl (upd f i.toNatClampNeg x))) := by
  unfold stI at h
  split at h
  · rename_i n f ho
    by_cases e : inb i n = true
    · rw [if_pos e] at h
      cases h
      exact ⟨n, f, aI_spec ho, inb_spec e, rfl⟩
    · rw [if_neg e] at h
      cases h
  · cases h
theorem stL_spec {g g' : PH} {a : Nat} {i : Int32} {x : Int64} (h : stL g a i x = some g') : ∃ (n : Nat) (f : Nat → Int64), g a = some (.inl (2, n, .inr (.inl f))) ∧ vp_in i n ∧ g' = hup g a (.inl (2, n, .inr (.inl (vp_updL f i.toNatClampNeg x)))) := by
  unfold stL at h
  split at h
  · rename_i n f ho
    by_cases e : inb i n = true
    · rw [if_pos e] at h
      cases h
      exact ⟨n, f, aL_spec ho, inb_spec e, rfl⟩
    · rw [if_neg e] at h
      cases h
  · cases h
theorem stQ_spec {g g' : PH} {a kd ci x : Nat} {i : Int32} (h : stQ g a kd ci i x = some g') : ∃ (n : Nat) (f : Nat → Option Nat) (fs : List Value), g a = some (.inl (kd, n, .inr (.inr (.inr (.inr f))))) ∧ vp_in i n ∧ g x = some (.inr (ci, fs)) ∧ g' = hup g a (.inl (kd, n, .inr (.inr (.inr (.inr (va_up f i.toNatClampNeg (some x))))))) := by
  unfold stQ at h
  split at h
  · rename_i n f ho
    by_cases e : inb i n = true ∧ isO g x ci = true
    · rw [if_pos e] at h
      cases h
      obtain ⟨fs, hx⟩ := isO_spec e.2
      exact ⟨n, f, fs, aQ_spec ho, inb_spec e.1, hx, rfl⟩
    · rw [if_neg e] at h
      cases h
  · cases h
theorem ob_some {α β : Type} {x : Option α} {f : α → Option β} {r : β} (h : x.bind f = some r) : ∃ a, x = some a ∧ f a = some r := by
  cases x with
  | none => cases h
  | some a => exact ⟨a, rfl, h⟩
theorem ite_t {α : Type} {p : Prop} [Decidable p] {a b r : α} (hp : p) (h : (if p then a else b) = r) : a = r := by rw [if_pos hp] at h; exact h
theorem ite_f {α : Type} {p : Prop} [Decidable p] {a b r : α} (hp : ¬ p) (h : (if p then a else b) = r) : b = r := by rw [if_neg hp] at h; exact h
/-- a test that must hold, or nothing is said -/
def okb {α : Type} (b : Bool) (x : Option α) : Option α := if b = true then x else none
theorem okb_some {α : Type} {b : Bool} {x : Option α} {r : α} (h : okb b x = some r) : b = true ∧ x = some r := by
  unfold okb at h
  by_cases e : b = true
  · rw [if_pos e] at h; exact ⟨e, h⟩
  · rw [if_neg e] at h; cases h
