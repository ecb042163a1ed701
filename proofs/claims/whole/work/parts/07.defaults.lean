def dfX0 : List Value := [.int 0, .int 0, .null]
theorem dfX0_ok : ∀ j, j < 3 → defaultValue (tyX0 j) = vp_V dfX0 j := by decide +kernel
def dfX1 : List Value := [.int 0, .int 0, .null, .null, .null, .null, .null, .null, .null]
theorem dfX1_ok : ∀ j, j < 9 → defaultValue (tyX1 j) = vp_V dfX1 j := by decide +kernel
def dfX2 : List Value := [.int 0, .int 0, .int 0, .int 0, .int 0, .null, .null, .null, .null]
theorem dfX2_ok : ∀ j, j < 9 → defaultValue (tyX2 j) = vp_V dfX2 j := by decide +kernel
def dfX3 : List Value := [.int 0, .int 0, .null, .int 0, .int 0, .int 0, .int 0, .int 0, .int 0, .int 0, .null, .null]
theorem dfX3_ok : ∀ j, j < 12 → defaultValue (tyX3 j) = vp_V dfX3 j := by decide +kernel
def dfX4 : List Value := [.null, .null, .null, .null, .null, .null, .int 0, .null, .int 0, .int 0, .null, .null, .null, .null, .null, .null]
theorem dfX4_ok : ∀ j, j < 16 → defaultValue (tyX4 j) = vp_V dfX4 j := by decide +kernel
def dfX5 : List Value := [.int 0, .int 0, .null, .null, .null, .null]
theorem dfX5_ok : ∀ j, j < 6 → defaultValue (tyX5 j) = vp_V dfX5 j := by decide +kernel
def dfX6 : List Value := [.null, .int 0, .int 0, .int 0]
theorem dfX6_ok : ∀ j, j < 4 → defaultValue (tyX6 j) = vp_V dfX6 j := by decide +kernel
def dfX7 : List Value := [.int 0, .int 0, .int 0, .int 0, .int 0, .null]
theorem dfX7_ok : ∀ j, j < 6 → defaultValue (tyX7 j) = vp_V dfX7 j := by decide +kernel
def dfX8 : List Value := [.null, .null, .int 0, .null, .int 0, .null, .null, .null, .null, .null, .null, .int 0]
theorem dfX8_ok : ∀ j, j < 12 → defaultValue (tyX8 j) = vp_V dfX8 j := by decide +kernel
def dfX9 : List Value := [.null, .int 0, .int 0, .int 0, .int 0, .null, .null, .int 0, .null, .null, .null, .int 0, .null, .int 0, .int 0, .int 0, .null, .null, .null, .int 0, .int 0, .null, .int 0, .int 0, .int 0, .null, .null, .null, .null, .int 0, .int 0, .null, .null, .null, .null, .null, .int 0, .null, .null, .int 0, .long 0]
theorem dfX9_ok : ∀ j, j < 41 → defaultValue (tyX9 j) = vp_V dfX9 j := by decide +kernel
theorem fin2 {α : Type} {e r : α} {g g' : PH} (h : (some (e, g) : Option (α × PH)) = some (r, g')) : e = r ∧ g = g' := by cases h; exact ⟨rfl, rfl⟩
theorem fin4 {α : Type} {e r : α} {g g' : PH} {a b c d : Nat} (h : (some (e, g, a, b) : Option (α × PH × Nat × Nat)) = some (r, g', c, d)) : e = r ∧ g = g' ∧ a = c ∧ b = d := by cases h; exact ⟨rfl, rfl, rfl, rfl⟩
/-- a field that holds an object -/
def getR (g : PH) (a ci k : Nat) : Option Nat := match getV g a ci k with
  | some (.ref x) => some x
  | _ => none
theorem getR_spec {g : PH} {a ci k : Nat} {x : Nat} (h : getR g a ci k = some x) : getV g a ci k = some (.ref x) := by
  unfold getR at h
  split at h
  · rename_i y hy
    cases h
    exact hy
  · cases h
theorem V.getR {K : HK} {E : HE} {R : Room} {nL : Nat} {Q : State → Prop} {cs sl sz : Nat} {g : PH} {pc : Nat} {L : List (Nat × Value)} {st : List Value} {cc : ByteArray} {own : String} {ret : Option FieldType} {a ci k i N : Nat} {Cn : String} {T : u_T} {ty : Nat → FieldType} (C : VC K E nL cc own ret) (kc : hCls ci Cn T N ty) {x : Nat} (hk : k < N) (w : Cond.fieldLink own i (T k).1 (T k).2.1 (T k).2.2.1 ∈ hw_tbl) (hv : getR g a ci k = some x) (d : decode cc pc = .ok (.getfield i, 3)) (kk : V K E R nL Q cs sl sz g (pc + 3) L (.ref x :: st)) : V K E R nL Q cs sl sz g pc L (.ref a :: st) := V.getV C kc hk w (getR_spec hv) d kk
