def dfX0 : List Value := [.int 0, .int 0, .null]
theorem dfX0_ok : ∀ j, j < 3 → defaultValue (tyX0 j) = vp_V dfX0 j := by decide +kernel
def dfX1 : List Value := [.int 0, .int 0, .null, .null, .null, .null, .null, .null, .null]
theorem dfX1_ok : ∀ j, j < 9 → defaultValue (tyX1 j) = vp_V dfX1 j := by decide +kernel
def dfX2 : List Value := [.int 0, .int 0, .int 0, .int 0, .int 0, .null, .null, .null, .null]
theorem dfX2_ok : ∀ j, j < 9 → defaultValue (tyX2 j) = vp_V dfX2 j := by decide +kernel
def dfX3 : List Value := [.int 0, .int 0, .null, .int 0, .int 0, .int 0, .int 0, .int 0, .int 0, .int 0, .null, .null]
theorem dfX3_ok : ∀ j, j < 12 → defaultValue (tyX3 j) = vp_V dfX3 j := by decide +kernel
def dfX4 : List Value := [.null, .null, .null, .null, .null, .null, .int 0, .null, .int 0, .int 0, .null, .null, .null, .null, .null, .null]
theorem dfX4_ok : ∀ j, j < 16 → defaultValue (tyX4 j) = vp_V dfX4 j := by decide +kernel
def dfX5 : List Value := [.int 0, .int 0, .null, .null, .null, .null]
theorem dfX5_ok : ∀ j, j < 6 → defaultValue (tyX5 j) = vp_V dfX5 j := by decide +kernel
def dfX6 : List Value := [.null, .int 0, .int 0, .int 0]
theorem dfX6_ok : ∀ j, j < 4 → defaultValue (tyX6 j) = vp_V dfX6 j := by decide +kernel
def dfX7 : List Value := [.int 0, .int 0, .int 0, .int 0, .int 0, .null]
theorem dfX7_ok : ∀ j, j < 6 → defaultValue (tyX7 j) = vp_V dfX7 j := by decide +kernel
def dfX8 : List Value := [.null, .null, .int 0, .null, .int 0, .null, .null, .null, .null, .null, .null, .int 0]
theorem dfX8_ok : ∀ j, j < 12 → defaultValue (tyX8 j) = vp_V dfX8 j := by decide +kernel
def dfX9 : List Value := [.null, .int 0, .int 0, .int 0, .int 0, .null, .null, .int 0, .null, .null, .null, .int 0, .null, .int 0, .int 0, .int 0, .null, .null, .null, .int 0, .int 0, .null, .int 0, .int 0, .int 0, .null, .null, .null, .null, .int 0, .int 0, .null, .null, .null, .null, .null, .int 0, .null, .null, .int 0, .long 0]
theorem dfX9_ok : ∀ j, j < 41 → defaultValue (tyX9 j) = vp_V dfX9 j := by decide +kernel
