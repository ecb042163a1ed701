/-! What the start gives. -/
abbrev nar_tbl : List Cond := flatC (Jvm.Cond.and given_1 narrow_1)
theorem str_of {args : Array Value} {s : State} {tm : Term} {bs : List Int32} {A : Nat → Prop} (hN : bs.length < 2 ^ 31) (hn : ∀ w ∈ nar_tbl, w.before args s = true)
    (m1 : Cond.exactly tm "java/lang/String" ∈ nar_tbl) (m2 : Cond.eq (.field tm "java/lang/String" "coder" "B") (.int 0) ∈ nar_tbl) (m3 : Cond.arrayOf (.field tm "java/lang/String" "value" "[B") .byte ∈ nar_tbl) (m4 : Cond.eq (.length (.field tm "java/lang/String" "value" "[B")) (.int (Int32.ofNat bs.length)) ∈ nar_tbl)
    (m5 : ∀ j : Nat, j < bs.length → Cond.eq (.elem (.field tm "java/lang/String" "value" "[B") (.int (Int32.ofNat j))) (.int (bs.getD j 0)) ∈ nar_tbl) (hA : ∀ a : Nat, a < s.heap.size → ¬ A a) :
    ∃ q : Nat × Nat, tm.eval args s none [] s = some (.ref q.1) ∧ va_O "java/lang/String" q.1 A s s.heap ∧ va_OF "java/lang/String" "coder" "B" (.int 0) q.1 A s s.heap ∧ va_OF "java/lang/String" "value" "[B" (.ref q.2) q.1 A s s.heap ∧ va_T .byte q.2 bs.length (fun j => .int (bs.getD j 0)) A s s.heap := by
  obtain ⟨a, c, cA, kA, q1, q2, q3, q4, q5, q6, -⟩ := Cond.exactly_spec (args := args) (first := s) (o := none) (s := s) (idx := []) (t := tm) (cls := "java/lang/String") (hn _ m1)
  obtain ⟨t, ht, hT⟩ := va_Tof (f := fun j => .int (bs.getD j 0)) (A := A) hN (hn _ m3) (va_eqt (hn _ m4)) (fun j hj => va_eqt (hn _ (m5 j hj))) hA
  exact ⟨(a, t), q1, ⟨cA, q3, q5, by rw [q6]; exact q2, hA a (Array.getElem?_eq_some_iff.mp q3).1⟩, vk_OFof q1 (va_eqt (hn _ m2)) hA, vk_OFof q1 ht hA, hT⟩
theorem sta_of {args : Array Value} {s : State} {n : String} {bs : List Int32} {A : Nat → Prop} (hN : bs.length < 2 ^ 31) (hts : ∀ w ∈ lw_tbl, w.before args s = true) (hn : ∀ w ∈ nar_tbl, w.before args s = true) (ml : Cond.laysStatic RX4 n "[I" ∈ lw_tbl)
    (m3 : Cond.arrayOf (.static RX4 n "[I") .int ∈ nar_tbl) (m4 : Cond.eq (.length (.static RX4 n "[I")) (.int (Int32.ofNat bs.length)) ∈ nar_tbl) (m5 : ∀ j : Nat, j < bs.length → Cond.eq (.elem (.static RX4 n "[I") (.int (Int32.ofNat j))) (.int (bs.getD j 0)) ∈ nar_tbl) (mi : Cond.initialized RX4 ∈ lw_tbl) (hA : ∀ a : Nat, a < s.heap.size → ¬ A a) :
    ∃ t : Nat, va_Z RX4 n "[I" (.ref t) A s s.heap ∧ va_T .int t bs.length (fun j => .int (bs.getD j 0)) A s s.heap := by
  obtain ⟨t, ht, hT⟩ := va_Tof (f := fun j => .int (bs.getD j 0)) (A := A) hN (hn _ m3) (va_eqt (hn _ m4)) (fun j hj => va_eqt (hn _ (m5 j hj))) hA
  exact ⟨t, va_Zof (hts _ ml) (hts _ mi) ht hA, hT⟩
theorem hw_lw {w : Cond} (h : w ∈ hw_tbl) : w ∈ lw_tbl := (List.mem_filter.mp h).1
set_option maxRecDepth 100000 in
theorem st_0 {args : Array Value} {s : State} {A : Nat → Prop} (hts : ∀ w ∈ lw_tbl, w.before args s = true) (hn : ∀ w ∈ nar_tbl, w.before args s = true) (hA : ∀ a : Nat, a < s.heap.size → ¬ A a) : ∃ q : Nat × Nat, vk_R RX1 64 "vasknmb" q.1 s ∧ va_O "java/lang/String" q.1 A s s.heap ∧ va_OF "java/lang/String" "coder" "B" (.int 0) q.1 A s s.heap ∧ va_OF "java/lang/String" "value" "[B" (.ref q.2) q.1 A s s.heap ∧ va_T .byte q.2 (strB 0).length (fun j => .int ((strB 0).getD j 0)) A s s.heap := by
  obtain ⟨q, h1, h2⟩ := str_of (tm := .string RX1 64) (bs := [118, 97, 115, 107, 110, 109, 98]) (A := A) (by decide) hn (by decide +kernel) (by decide +kernel) (by decide +kernel) (by decide +kernel) (by decide +kernel) hA
  exact ⟨q, vk_R.of (hts (.stringRef RX1 64 "vasknmb") (List.mem_of_getElem? (i := 413) (by decide +kernel))) h1, h2⟩
set_option maxRecDepth 100000 in
theorem st_1 {args : Array Value} {s : State} {A : Nat → Prop} (hts : ∀ w ∈ lw_tbl, w.before args s = true) (hn : ∀ w ∈ nar_tbl, w.before args s = true) (hA : ∀ a : Nat, a < s.heap.size → ¬ A a) : ∃ q : Nat × Nat, vk_R RX1 74 "01" q.1 s ∧ va_O "java/lang/String" q.1 A s s.heap ∧ va_OF "java/lang/String" "coder" "B" (.int 0) q.1 A s s.heap ∧ va_OF "java/lang/String" "value" "[B" (.ref q.2) q.1 A s s.heap ∧ va_T .byte q.2 (strB 1).length (fun j => .int ((strB 1).getD j 0)) A s s.heap := by
  obtain ⟨q, h1, h2⟩ := str_of (tm := .string RX1 74) (bs := [48, 49]) (A := A) (by decide) hn (by decide +kernel) (by decide +kernel) (by decide +kernel) (by decide +kernel) (by decide +kernel) hA
  exact ⟨q, vk_R.of (hts (.stringRef RX1 74 "01") (List.mem_of_getElem? (i := 510) (by decide +kernel))) h1, h2⟩
set_option maxRecDepth 100000 in
theorem st_2 {args : Array Value} {s : State} {A : Nat → Prop} (hts : ∀ w ∈ lw_tbl, w.before args s = true) (hn : ∀ w ∈ nar_tbl, w.before args s = true) (hA : ∀ a : Nat, a < s.heap.size → ¬ A a) : ∃ q : Nat × Nat, vk_R RX1 76 "wr" q.1 s ∧ va_O "java/lang/String" q.1 A s s.heap ∧ va_OF "java/lang/String" "coder" "B" (.int 0) q.1 A s s.heap ∧ va_OF "java/lang/String" "value" "[B" (.ref q.2) q.1 A s s.heap ∧ va_T .byte q.2 (strB 2).length (fun j => .int ((strB 2).getD j 0)) A s s.heap := by
  obtain ⟨q, h1, h2⟩ := str_of (tm := .string RX1 76) (bs := [119, 114]) (A := A) (by decide) hn (by decide +kernel) (by decide +kernel) (by decide +kernel) (by decide +kernel) (by decide +kernel) hA
  exact ⟨q, vk_R.of (hts (.stringRef RX1 76 "wr") (List.mem_of_getElem? (i := 511) (by decide +kernel))) h1, h2⟩
set_option maxRecDepth 100000 in
theorem st_3 {args : Array Value} {s : State} {A : Nat → Prop} (hts : ∀ w ∈ lw_tbl, w.before args s = true) (hn : ∀ w ∈ nar_tbl, w.before args s = true) (hA : ∀ a : Nat, a < s.heap.size → ¬ A a) : ∃ q : Nat × Nat, vk_R RX1 78 ":" q.1 s ∧ va_O "java/lang/String" q.1 A s s.heap ∧ va_OF "java/lang/String" "coder" "B" (.int 0) q.1 A s s.heap ∧ va_OF "java/lang/String" "value" "[B" (.ref q.2) q.1 A s s.heap ∧ va_T .byte q.2 (strB 3).length (fun j => .int ((strB 3).getD j 0)) A s s.heap := by
  obtain ⟨q, h1, h2⟩ := str_of (tm := .string RX1 78) (bs := [58]) (A := A) (by decide) hn (by decide +kernel) (by decide +kernel) (by decide +kernel) (by decide +kernel) (by decide +kernel) hA
  exact ⟨q, vk_R.of (hts (.stringRef RX1 78 ":") (List.mem_of_getElem? (i := 512) (by decide +kernel))) h1, h2⟩
set_option maxRecDepth 100000 in
theorem st_4 {args : Array Value} {s : State} {A : Nat → Prop} (hts : ∀ w ∈ lw_tbl, w.before args s = true) (hn : ∀ w ∈ nar_tbl, w.before args s = true) (hA : ∀ a : Nat, a < s.heap.size → ¬ A a) : ∃ q : Nat × Nat, vk_R RX1 80 "01x" q.1 s ∧ va_O "java/lang/String" q.1 A s s.heap ∧ va_OF "java/lang/String" "coder" "B" (.int 0) q.1 A s s.heap ∧ va_OF "java/lang/String" "value" "[B" (.ref q.2) q.1 A s s.heap ∧ va_T .byte q.2 (strB 4).length (fun j => .int ((strB 4).getD j 0)) A s s.heap := by
  obtain ⟨q, h1, h2⟩ := str_of (tm := .string RX1 80) (bs := [48, 49, 120]) (A := A) (by decide) hn (by decide +kernel) (by decide +kernel) (by decide +kernel) (by decide +kernel) (by decide +kernel) hA
  exact ⟨q, vk_R.of (hts (.stringRef RX1 80 "01x") (List.mem_of_getElem? (i := 513) (by decide +kernel))) h1, h2⟩
set_option maxRecDepth 100000 in
theorem st_5 {args : Array Value} {s : State} {A : Nat → Prop} (hts : ∀ w ∈ lw_tbl, w.before args s = true) (hn : ∀ w ∈ nar_tbl, w.before args s = true) (hA : ∀ a : Nat, a < s.heap.size → ¬ A a) : ∃ q : Nat × Nat, vk_R RX1 82 "/" q.1 s ∧ va_O "java/lang/String" q.1 A s s.heap ∧ va_OF "java/lang/String" "coder" "B" (.int 0) q.1 A s s.heap ∧ va_OF "java/lang/String" "value" "[B" (.ref q.2) q.1 A s s.heap ∧ va_T .byte q.2 (strB 5).length (fun j => .int ((strB 5).getD j 0)) A s s.heap := by
  obtain ⟨q, h1, h2⟩ := str_of (tm := .string RX1 82) (bs := [47]) (A := A) (by decide) hn (by decide +kernel) (by decide +kernel) (by decide +kernel) (by decide +kernel) (by decide +kernel) hA
  exact ⟨q, vk_R.of (hts (.stringRef RX1 82 "/") (List.mem_of_getElem? (i := 514) (by decide +kernel))) h1, h2⟩
set_option maxRecDepth 100000 in
theorem st_6 {args : Array Value} {s : State} {A : Nat → Prop} (hts : ∀ w ∈ lw_tbl, w.before args s = true) (hn : ∀ w ∈ nar_tbl, w.before args s = true) (hA : ∀ a : Nat, a < s.heap.size → ¬ A a) : ∃ q : Nat × Nat, vk_R RX1 54 "," q.1 s ∧ va_O "java/lang/String" q.1 A s s.heap ∧ va_OF "java/lang/String" "coder" "B" (.int 0) q.1 A s s.heap ∧ va_OF "java/lang/String" "value" "[B" (.ref q.2) q.1 A s s.heap ∧ va_T .byte q.2 (strB 6).length (fun j => .int ((strB 6).getD j 0)) A s s.heap := by
  obtain ⟨q, h1, h2⟩ := str_of (tm := .string RX1 54) (bs := [44]) (A := A) (by decide) hn (by decide +kernel) (by decide +kernel) (by decide +kernel) (by decide +kernel) (by decide +kernel) hA
  exact ⟨q, vk_R.of (hts (.stringRef RX1 54 ",") (List.mem_of_getElem? (i := 519) (by decide +kernel))) h1, h2⟩
set_option maxRecDepth 100000 in
theorem st_7 {args : Array Value} {s : State} {A : Nat → Prop} (hts : ∀ w ∈ lw_tbl, w.before args s = true) (hn : ∀ w ∈ nar_tbl, w.before args s = true) (hA : ∀ a : Nat, a < s.heap.size → ¬ A a) : ∃ q : Nat × Nat, vk_R RX2 78 "up" q.1 s ∧ va_O "java/lang/String" q.1 A s s.heap ∧ va_OF "java/lang/String" "coder" "B" (.int 0) q.1 A s s.heap ∧ va_OF "java/lang/String" "value" "[B" (.ref q.2) q.1 A s s.heap ∧ va_T .byte q.2 (strB 7).length (fun j => .int ((strB 7).getD j 0)) A s s.heap := by
  obtain ⟨q, h1, h2⟩ := str_of (tm := .string RX2 78) (bs := [117, 112]) (A := A) (by decide) hn (by decide +kernel) (by decide +kernel) (by decide +kernel) (by decide +kernel) (by decide +kernel) hA
  exact ⟨q, vk_R.of (hts (.stringRef RX2 78 "up") (List.mem_of_getElem? (i := 610) (by decide +kernel))) h1, h2⟩
set_option maxRecDepth 100000 in
theorem st_8 {args : Array Value} {s : State} {A : Nat → Prop} (hts : ∀ w ∈ lw_tbl, w.before args s = true) (hn : ∀ w ∈ nar_tbl, w.before args s = true) (hA : ∀ a : Nat, a < s.heap.size → ¬ A a) : ∃ q : Nat × Nat, vk_R RX2 84 "down" q.1 s ∧ va_O "java/lang/String" q.1 A s s.heap ∧ va_OF "java/lang/String" "coder" "B" (.int 0) q.1 A s s.heap ∧ va_OF "java/lang/String" "value" "[B" (.ref q.2) q.1 A s s.heap ∧ va_T .byte q.2 (strB 8).length (fun j => .int ((strB 8).getD j 0)) A s s.heap := by
  obtain ⟨q, h1, h2⟩ := str_of (tm := .string RX2 84) (bs := [100, 111, 119, 110]) (A := A) (by decide) hn (by decide +kernel) (by decide +kernel) (by decide +kernel) (by decide +kernel) (by decide +kernel) hA
  exact ⟨q, vk_R.of (hts (.stringRef RX2 84 "down") (List.mem_of_getElem? (i := 636) (by decide +kernel))) h1, h2⟩
set_option maxRecDepth 100000 in
theorem st_9 {args : Array Value} {s : State} {A : Nat → Prop} (hts : ∀ w ∈ lw_tbl, w.before args s = true) (hn : ∀ w ∈ nar_tbl, w.before args s = true) (hA : ∀ a : Nat, a < s.heap.size → ¬ A a) : ∃ q : Nat × Nat, vk_R RX2 86 "any" q.1 s ∧ va_O "java/lang/String" q.1 A s s.heap ∧ va_OF "java/lang/String" "coder" "B" (.int 0) q.1 A s s.heap ∧ va_OF "java/lang/String" "value" "[B" (.ref q.2) q.1 A s s.heap ∧ va_T .byte q.2 (strB 9).length (fun j => .int ((strB 9).getD j 0)) A s s.heap := by
  obtain ⟨q, h1, h2⟩ := str_of (tm := .string RX2 86) (bs := [97, 110, 121]) (A := A) (by decide) hn (by decide +kernel) (by decide +kernel) (by decide +kernel) (by decide +kernel) (by decide +kernel) hA
  exact ⟨q, vk_R.of (hts (.stringRef RX2 86 "any") (List.mem_of_getElem? (i := 637) (by decide +kernel))) h1, h2⟩
set_option maxRecDepth 100000 in
theorem st_10 {args : Array Value} {s : State} {A : Nat → Prop} (hts : ∀ w ∈ lw_tbl, w.before args s = true) (hn : ∀ w ∈ nar_tbl, w.before args s = true) (hA : ∀ a : Nat, a < s.heap.size → ¬ A a) : ∃ q : Nat × Nat, vk_R RX2 71 "(" q.1 s ∧ va_O "java/lang/String" q.1 A s s.heap ∧ va_OF "java/lang/String" "coder" "B" (.int 0) q.1 A s s.heap ∧ va_OF "java/lang/String" "value" "[B" (.ref q.2) q.1 A s s.heap ∧ va_T .byte q.2 (strB 10).length (fun j => .int ((strB 10).getD j 0)) A s s.heap := by
  obtain ⟨q, h1, h2⟩ := str_of (tm := .string RX2 71) (bs := [40]) (A := A) (by decide) hn (by decide +kernel) (by decide +kernel) (by decide +kernel) (by decide +kernel) (by decide +kernel) hA
  exact ⟨q, vk_R.of (hts (.stringRef RX2 71 "(") (List.mem_of_getElem? (i := 639) (by decide +kernel))) h1, h2⟩
set_option maxRecDepth 100000 in
theorem st_11 {args : Array Value} {s : State} {A : Nat → Prop} (hts : ∀ w ∈ lw_tbl, w.before args s = true) (hn : ∀ w ∈ nar_tbl, w.before args s = true) (hA : ∀ a : Nat, a < s.heap.size → ¬ A a) : ∃ q : Nat × Nat, vk_R RX2 88 "rw" q.1 s ∧ va_O "java/lang/String" q.1 A s s.heap ∧ va_OF "java/lang/String" "coder" "B" (.int 0) q.1 A s s.heap ∧ va_OF "java/lang/String" "value" "[B" (.ref q.2) q.1 A s s.heap ∧ va_T .byte q.2 (strB 11).length (fun j => .int ((strB 11).getD j 0)) A s s.heap := by
  obtain ⟨q, h1, h2⟩ := str_of (tm := .string RX2 88) (bs := [114, 119]) (A := A) (by decide) hn (by decide +kernel) (by decide +kernel) (by decide +kernel) (by decide +kernel) (by decide +kernel) hA
  exact ⟨q, vk_R.of (hts (.stringRef RX2 88 "rw") (List.mem_of_getElem? (i := 645) (by decide +kernel))) h1, h2⟩
set_option maxRecDepth 100000 in
theorem st_12 {args : Array Value} {s : State} {A : Nat → Prop} (hts : ∀ w ∈ lw_tbl, w.before args s = true) (hn : ∀ w ∈ nar_tbl, w.before args s = true) (hA : ∀ a : Nat, a < s.heap.size → ¬ A a) : ∃ q : Nat × Nat, vk_R RX2 90 "01" q.1 s ∧ va_O "java/lang/String" q.1 A s s.heap ∧ va_OF "java/lang/String" "coder" "B" (.int 0) q.1 A s s.heap ∧ va_OF "java/lang/String" "value" "[B" (.ref q.2) q.1 A s s.heap ∧ va_T .byte q.2 (strB 12).length (fun j => .int ((strB 12).getD j 0)) A s s.heap := by
  obtain ⟨q, h1, h2⟩ := str_of (tm := .string RX2 90) (bs := [48, 49]) (A := A) (by decide) hn (by decide +kernel) (by decide +kernel) (by decide +kernel) (by decide +kernel) (by decide +kernel) hA
  exact ⟨q, vk_R.of (hts (.stringRef RX2 90 "01") (List.mem_of_getElem? (i := 646) (by decide +kernel))) h1, h2⟩
set_option maxRecDepth 100000 in
theorem st_13 {args : Array Value} {s : State} {A : Nat → Prop} (hts : ∀ w ∈ lw_tbl, w.before args s = true) (hn : ∀ w ∈ nar_tbl, w.before args s = true) (hA : ∀ a : Nat, a < s.heap.size → ¬ A a) : ∃ q : Nat × Nat, vk_R RX2 76 ",)" q.1 s ∧ va_O "java/lang/String" q.1 A s s.heap ∧ va_OF "java/lang/String" "coder" "B" (.int 0) q.1 A s s.heap ∧ va_OF "java/lang/String" "value" "[B" (.ref q.2) q.1 A s s.heap ∧ va_T .byte q.2 (strB 13).length (fun j => .int ((strB 13).getD j 0)) A s s.heap := by
  obtain ⟨q, h1, h2⟩ := str_of (tm := .string RX2 76) (bs := [44, 41]) (A := A) (by decide) hn (by decide +kernel) (by decide +kernel) (by decide +kernel) (by decide +kernel) (by decide +kernel) hA
  exact ⟨q, vk_R.of (hts (.stringRef RX2 76 ",)") (List.mem_of_getElem? (i := 647) (by decide +kernel))) h1, h2⟩
set_option maxRecDepth 100000 in
theorem st_14 {args : Array Value} {s : State} {A : Nat → Prop} (hts : ∀ w ∈ lw_tbl, w.before args s = true) (hn : ∀ w ∈ nar_tbl, w.before args s = true) (hA : ∀ a : Nat, a < s.heap.size → ¬ A a) : ∃ q : Nat × Nat, vk_R RX2 53 ";" q.1 s ∧ va_O "java/lang/String" q.1 A s s.heap ∧ va_OF "java/lang/String" "coder" "B" (.int 0) q.1 A s s.heap ∧ va_OF "java/lang/String" "value" "[B" (.ref q.2) q.1 A s s.heap ∧ va_T .byte q.2 (strB 14).length (fun j => .int ((strB 14).getD j 0)) A s s.heap := by
  obtain ⟨q, h1, h2⟩ := str_of (tm := .string RX2 53) (bs := [59]) (A := A) (by decide) hn (by decide +kernel) (by decide +kernel) (by decide +kernel) (by decide +kernel) (by decide +kernel) hA
  exact ⟨q, vk_R.of (hts (.stringRef RX2 53 ";") (List.mem_of_getElem? (i := 649) (by decide +kernel))) h1, h2⟩
set_option maxHeartbeats 4000000 in
set_option maxRecDepth 100000 in
theorem env_of {p : Program} {s : State} {m : MethodId} {meth : Method} {c : Code} {b L : Nat} {xs : Nat → Int32} (C0 : lw_At p s m meth c b L xs) : ∃ E : HE, eB E = s.heap.size ∧ hU E s s.heap := by
  obtain ⟨hx, hb, hr, hml, hown, hts, hX, hbl, hlocks, hgv⟩ := C0
  have hn : ∀ w ∈ nar_tbl, w.before #[Value.ref b] s = true := flat_of_before _ hgv
  have hA : ∀ a : Nat, a < s.heap.size → ¬ s.heap.size ≤ a := fun a h => Nat.not_le.mpr h
  obtain ⟨c0, i0, hk0⟩ := u_known (C := RX0) (T := TX0) (N := 3) (n := 3) hts (fun w h => hw_lw (kX0.2.1 w h)) (hts (.instantiable RX0 3) (List.mem_of_getElem? (i := 225) (by decide +kernel)))
  obtain ⟨c1, i1, hk1⟩ := u_known (C := RX1) (T := TX1) (N := 9) (n := 9) hts (fun w h => hw_lw (kX1.2.1 w h)) (hts (.instantiable RX1 9) (List.mem_of_getElem? (i := 358) (by decide +kernel)))
  obtain ⟨c2, i2, hk2⟩ := u_known (C := RX2) (T := TX2) (N := 9) (n := 9) hts (fun w h => hw_lw (kX2.2.1 w h)) (hts (.instantiable RX2 9) (List.mem_of_getElem? (i := 556) (by decide +kernel)))
  obtain ⟨c3, i3, hk3⟩ := u_known (C := RX3) (T := TX3) (N := 12) (n := 12) hts (fun w h => hw_lw (kX3.2.1 w h)) (hts (.instantiable RX3 12) (List.mem_of_getElem? (i := 171) (by decide +kernel)))
  obtain ⟨c4, i4, hk4⟩ := u_known (C := RX4) (T := TX4) (N := 16) (n := 16) hts (fun w h => hw_lw (kX4.2.1 w h)) (hts (.instantiable RX4 16) (List.mem_of_getElem? (i := 801) (by decide +kernel)))
  obtain ⟨c5, i5, hk5⟩ := u_known (C := RX5) (T := TX5) (N := 6) (n := 6) hts (fun w h => hw_lw (kX5.2.1 w h)) (hts (.instantiable RX5 6) (List.mem_of_getElem? (i := 1055) (by decide +kernel)))
  obtain ⟨c6, i6, hk6⟩ := u_known (C := RX6) (T := TX6) (N := 4) (n := 4) hts (fun w h => hw_lw (kX6.2.1 w h)) (hts (.instantiable RX6 4) (List.mem_of_getElem? (i := 145) (by decide +kernel)))
  obtain ⟨c7, i7, hk7⟩ := u_known (C := RX7) (T := TX7) (N := 6) (n := 6) hts (fun w h => hw_lw (kX7.2.1 w h)) (hts (.instantiable RX7 6) (List.mem_of_getElem? (i := 244) (by decide +kernel)))
  obtain ⟨c8, i8, hk8⟩ := u_known (C := RX8) (T := TX8) (N := 12) (n := 12) hts (fun w h => hw_lw (kX8.2.1 w h)) (hts (.instantiable RX8 12) (List.mem_of_getElem? (i := 137) (by decide +kernel)))
  obtain ⟨c9, i9, hk9⟩ := u_known (C := RX9) (T := TX9) (N := 41) (n := 41) hts (fun w h => hw_lw (kX9.2.1 w h)) (hts (.instantiable RX9 41) (List.mem_of_getElem? (i := 1158) (by decide +kernel)))
  obtain ⟨d0, kd0, cm0, fa0, fb0, fc0⟩ := Cond.arrayClass_spec (hts (.arrayClass .int) (List.mem_of_getElem? (i := 223) (by decide +kernel)))
  obtain ⟨d1, kd1, cm1, fa1, fb1, fc1⟩ := Cond.arrayClass_spec (hts (.arrayClass .byte) (List.mem_of_getElem? (i := 165) (by decide +kernel)))
  obtain ⟨d2, kd2, cm2, fa2, fb2, fc2⟩ := Cond.arrayClass_spec (hts (.arrayClass .long) (List.mem_of_getElem? (i := 859) (by decide +kernel)))
  obtain ⟨d3, kd3, cm3, fa3, fb3, fc3⟩ := Cond.arrayClass_spec (hts (.arrayClass .boolean) (List.mem_of_getElem? (i := 860) (by decide +kernel)))
  have ao4 : va_AO RX1 s := va_AO.of (hts (.arrayOver (.object RX1)) (List.mem_of_getElem? (i := 167) (by decide +kernel)))
  obtain ⟨cm4, d4, kd4, ga4, gb4, gc4, gd4, ge4⟩ := Cond.arrayOver_spec ao4
  have ao5 : va_AO RX2 s := va_AO.of (hts (.arrayOver (.object RX2)) (List.mem_of_getElem? (i := 169) (by decide +kernel)))
  obtain ⟨cm5, d5, kd5, ga5, gb5, gc5, gd5, ge5⟩ := Cond.arrayOver_spec ao5
  have ao6 : va_AO RX3 s := va_AO.of (hts (.arrayOver (.object RX3)) (List.mem_of_getElem? (i := 231) (by decide +kernel)))
  obtain ⟨cm6, d6, kd6, ga6, gb6, gc6, gd6, ge6⟩ := Cond.arrayOver_spec ao6
  obtain ⟨s0, t0⟩ := st_0 (A := fun q => s.heap.size ≤ q) hts hn hA
  obtain ⟨s1, t1⟩ := st_1 (A := fun q => s.heap.size ≤ q) hts hn hA
  obtain ⟨s2, t2⟩ := st_2 (A := fun q => s.heap.size ≤ q) hts hn hA
  obtain ⟨s3, t3⟩ := st_3 (A := fun q => s.heap.size ≤ q) hts hn hA
  obtain ⟨s4, t4⟩ := st_4 (A := fun q => s.heap.size ≤ q) hts hn hA
  obtain ⟨s5, t5⟩ := st_5 (A := fun q => s.heap.size ≤ q) hts hn hA
  obtain ⟨s6, t6⟩ := st_6 (A := fun q => s.heap.size ≤ q) hts hn hA
  obtain ⟨s7, t7⟩ := st_7 (A := fun q => s.heap.size ≤ q) hts hn hA
  obtain ⟨s8, t8⟩ := st_8 (A := fun q => s.heap.size ≤ q) hts hn hA
  obtain ⟨s9, t9⟩ := st_9 (A := fun q => s.heap.size ≤ q) hts hn hA
  obtain ⟨s10, t10⟩ := st_10 (A := fun q => s.heap.size ≤ q) hts hn hA
  obtain ⟨s11, t11⟩ := st_11 (A := fun q => s.heap.size ≤ q) hts hn hA
  obtain ⟨s12, t12⟩ := st_12 (A := fun q => s.heap.size ≤ q) hts hn hA
  obtain ⟨s13, t13⟩ := st_13 (A := fun q => s.heap.size ≤ q) hts hn hA
  obtain ⟨s14, t14⟩ := st_14 (A := fun q => s.heap.size ≤ q) hts hn hA
  obtain ⟨z0, y0⟩ := sta_of (n := "FIRST_STEP") (bs := [0, 0, 6, 24, 78]) (A := fun q => s.heap.size ≤ q) (by decide) hts hn (List.mem_of_getElem? (i := 807) (by decide +kernel)) (by decide +kernel) (by decide +kernel) (by decide +kernel) (List.mem_of_getElem? (i := 132) (by decide +kernel)) hA
  obtain ⟨z1, y1⟩ := sta_of (n := "ONE_WAY") (bs := [0, 3, 9, 27]) (A := fun q => s.heap.size ≤ q) (by decide) hts hn (List.mem_of_getElem? (i := 809) (by decide +kernel)) (by decide +kernel) (by decide +kernel) (by decide +kernel) (List.mem_of_getElem? (i := 132) (by decide +kernel)) hA
  have zc := va_Zof (A := fun q => s.heap.size ≤ q) (hts (.laysStatic "java/lang/String" "COMPACT_STRINGS" "Z") (List.mem_of_getElem? (i := 432) (by decide +kernel))) (hts (.initialized "java/lang/String") (List.mem_of_getElem? (i := 126) (by decide +kernel))) (va_eqi (hn (.eq (.static "java/lang/String" "COMPACT_STRINGS" "Z") (.int 1)) (by decide +kernel))) hA
  have zf := va_Zqof (A := fun q => s.heap.size ≤ q) (hts (.laysStatic "jdk/internal/util/Preconditions" "SIOOBE_FORMATTER" "Ljava/util/function/BiFunction;") (List.mem_of_getElem? (i := 471) (by decide +kernel))) (hts (.initialized "jdk/internal/util/Preconditions") (List.mem_of_getElem? (i := 129) (by decide +kernel))) (hn (.isRef (.static "jdk/internal/util/Preconditions" "SIOOBE_FORMATTER" "Ljava/util/function/BiFunction;")) (by decide +kernel)) hA
  refine ⟨(((fun k => match k with | 0 => c0 | 1 => c1 | 2 => c2 | 3 => c3 | 4 => c4 | 5 => c5 | 6 => c6 | 7 => c7 | 8 => c8 | 9 => c9 | _ => c0), (fun k => match k with | 0 => i0 | 1 => i1 | 2 => i2 | 3 => i3 | 4 => i4 | 5 => i5 | 6 => i6 | 7 => i7 | 8 => i8 | 9 => i9 | _ => i0)), (fun k => match k with | 0 => d0 | 1 => d1 | 2 => d2 | 3 => d3 | 4 => d4 | 5 => d5 | 6 => d6 | _ => d0), s.heap.size, (fun k => match k with | 0 => s0.1 | 1 => s1.1 | 2 => s2.1 | 3 => s3.1 | 4 => s4.1 | 5 => s5.1 | 6 => s6.1 | 7 => s7.1 | 8 => s8.1 | 9 => s9.1 | 10 => s10.1 | 11 => s11.1 | 12 => s12.1 | 13 => s13.1 | 14 => s14.1 | _ => s0.1), (fun k => match k with | 0 => s0.2 | 1 => s1.2 | 2 => s2.2 | 3 => s3.2 | 4 => s4.2 | 5 => s5.2 | 6 => s6.2 | 7 => s7.2 | 8 => s8.2 | 9 => s9.2 | 10 => s10.2 | 11 => s11.2 | 12 => s12.2 | 13 => s13.2 | 14 => s14.2 | _ => s0.2), (fun k => if k = 0 then z0 else z1)), rfl, ⟨⟨?_, ?_⟩, ?_, Nat.le_refl _, ?_, ?_, ⟨y0.1, y1.1, ?_, zc, zf⟩, ao4, ao5, ao6⟩⟩
  · intro k q hq
    match k, hq with
    | 0, hq => cases hq; exact hk0
    | 1, hq => cases hq; exact hk1
    | 2, hq => cases hq; exact hk2
    | 3, hq => cases hq; exact hk3
    | 4, hq => cases hq; exact hk4
    | 5, hq => cases hq; exact hk5
    | 6, hq => cases hq; exact hk6
    | 7, hq => cases hq; exact hk7
    | 8, hq => cases hq; exact hk8
    | 9, hq => cases hq; exact hk9
    | k + 10, hq => simp [classes] at hq
  · intro k q hq
    match k, hq with
    | 0, hq => cases hq; exact ⟨fun n z => ⟨fun _ h => (by cases h), kd0, fb0, cm0, fc0⟩, fa0⟩
    | 1, hq => cases hq; exact ⟨fun n z => ⟨fun _ h => (by cases h), kd1, fb1, cm1, fc1⟩, fa1⟩
    | 2, hq => cases hq; exact ⟨fun n z => ⟨fun _ h => (by cases h), kd2, fb2, cm2, fc2⟩, fa2⟩
    | 3, hq => cases hq; exact ⟨fun n z => ⟨fun _ h => (by cases h), kd3, fb3, cm3, fc3⟩, fa3⟩
    | 4, hq => cases hq; exact ⟨fun n z => ⟨fun _ h => (by cases h), kd4, gc4, cm4, gd4⟩, kd4, cm4, gc4, gd4, ga4, ge4⟩
    | 5, hq => cases hq; exact ⟨fun n z => ⟨fun _ h => (by cases h), kd5, gc5, cm5, gd5⟩, kd5, cm5, gc5, gd5, ga5, ge5⟩
    | 6, hq => cases hq; exact ⟨fun n z => ⟨fun _ h => (by cases h), kd6, gc6, cm6, gd6⟩, kd6, cm6, gc6, gd6, ga6, ge6⟩
    | k + 7, hq => simp [hTy] at hq
  · intro q hq
    refine va_Nw.of rfl (hts _ ?_)
    revert q
    decide +kernel
  · intro i q hq
    match i, hq with
    | 0, hq => cases hq; exact t0.1
    | 1, hq => cases hq; exact t1.1
    | 2, hq => cases hq; exact t2.1
    | 3, hq => cases hq; exact t3.1
    | 4, hq => cases hq; exact t4.1
    | 5, hq => cases hq; exact t5.1
    | 6, hq => cases hq; exact t6.1
    | 7, hq => cases hq; exact t7.1
    | 8, hq => cases hq; exact t8.1
    | 9, hq => cases hq; exact t9.1
    | 10, hq => cases hq; exact t10.1
    | 11, hq => cases hq; exact t11.1
    | 12, hq => cases hq; exact t12.1
    | 13, hq => cases hq; exact t13.1
    | 14, hq => cases hq; exact t14.1
    | i + 15, hq => simp [strTab] at hq
  · intro i hi
    match i, hi with
    | 0, _ => exact t0.2
    | 1, _ => exact t1.2
    | 2, _ => exact t2.2
    | 3, _ => exact t3.2
    | 4, _ => exact t4.2
    | 5, _ => exact t5.2
    | 6, _ => exact t6.2
    | 7, _ => exact t7.2
    | 8, _ => exact t8.2
    | 9, _ => exact t9.2
    | 10, _ => exact t10.2
    | 11, _ => exact t11.2
    | 12, _ => exact t12.2
    | 13, _ => exact t13.2
    | 14, _ => exact t14.2
    | i + 15, hi => omega
  · intro i hi
    match i, hi with
    | 0, _ => exact y0.2
    | 1, _ => exact y1.2
    | i + 2, hi => omega
