/-! Rows of V for String constants, statics, switches, the library's own; what each class stands on. -/
section VS
variable {K : HK} {E : HE} {R : Room} {nL : Nat} {Q : State → Prop} {cs sl sz : Nat} {g g' : PH} {pc : Nat} {L : List (Nat × Value)} {st : List Value} {cc : ByteArray} {own : String} {ret : Option FieldType} {a i j : Nat}
abbrev kS (K : HK) : Nat := K.2.2.2.1.heap.size
theorem V.ldcS (C : VC K E nL cc own ret) {tx : String} {bs : List Int32} (hq : strTab[j]? = some (own, i, tx, bs)) (d : decode cc pc = .ok (.ldc i, 2)) (kk : V K E R nL Q cs sl sz g (pc + 2) L (.ref (eK E j) :: st)) : V K E R nL Q cs sl sz g pc L st := fun H locs ls hz hh hs hl => va_ldcS C.1 C.2.1 C.2.2.2.1 (C.2.2.2.2.2.1.2.2.2.1 j _ hq) d (kk H locs ls hz hh hs hl)
theorem V.sval (C : VC K E nL cc own ret) (hj : j < 15) (w : Cond.fieldLink own i "java/lang/String" "value" "[B" ∈ hw_tbl) (d : decode cc pc = .ok (.getfield i, 3)) (kk : V K E R nL Q cs sl sz g (pc + 3) L (.ref (eV E j) :: st)) : V K E R nL Q cs sl sz g pc L (.ref (eK E j) :: st) := fun H locs ls hz hh hs hl => vk_getf C.1 C.2.1 (C.2.2.2.2.2.1.2.2.2.2.1 j hj).2.2.1 hs C.2.2.2.1 (C.2.2.2.2.1 _ w) (fun _ h => h) d (kk H locs ls hz hh hs hl)
theorem V.scoder (C : VC K E nL cc own ret) (hj : j < 15) (w : Cond.fieldLink own i "java/lang/String" "coder" "B" ∈ hw_tbl) (d : decode cc pc = .ok (.getfield i, 3)) (kk : V K E R nL Q cs sl sz g (pc + 3) L (.int 0 :: st)) : V K E R nL Q cs sl sz g pc L (.ref (eK E j) :: st) := fun H locs ls hz hh hs hl => vk_getf C.1 C.2.1 (C.2.2.2.2.2.1.2.2.2.2.1 j hj).2.1 hs C.2.2.2.1 (C.2.2.2.2.1 _ w) (fun _ h => h) d (kk H locs ls hz hh hs hl)
theorem V.slen (C : VC K E nL cc own ret) (hj : j < 15) (d : decode cc pc = .ok (.arraylength, 1)) (kk : V K E R nL Q cs sl sz g (pc + 1) L (.int (Int32.ofNat (strB j).length) :: st)) : V K E R nL Q cs sl sz g pc L (.ref (eV E j) :: st) := fun H locs ls hz hh hs hl => va_tlen C.1 C.2.1 (C.2.2.2.2.2.1.2.2.2.2.1 j hj).2.2.2 hs rfl d (kk H locs ls hz hh hs hl)
theorem V.sbald (C : VC K E nL cc own ret) {x : Int32} (hj : j < 15) (hin : inb x (strB j).length = true) (d : decode cc pc = .ok (.baload, 1)) (kk : V K E R nL Q cs sl sz g (pc + 1) L (.int ((strB j).getD x.toNatClampNeg 0) :: st)) : V K E R nL Q cs sl sz g pc L (.int x :: .ref (eV E j) :: st) := fun H locs ls hz hh hs hl => va_tb C.1 C.2.1 (C.2.2.2.2.2.1.2.2.2.2.1 j hj).2.2.2 hs (inb_spec hin) rfl d (kk H locs ls hz hh hs hl)
theorem V.gCompact (C : VC K E nL cc own ret) (w : Cond.fieldLink own i "java/lang/String" "COMPACT_STRINGS" "Z" ∈ hw_tbl) (d : decode cc pc = .ok (.getstatic i, 3)) (kk : V K E R nL Q cs sl sz g (pc + 3) L (.int 1 :: st)) : V K E R nL Q cs sl sz g pc L st := fun H locs ls hz hh hs hl => va_gets C.1 C.2.1 C.2.2.2.2.2.1.2.2.2.2.2.1.2.2.2.1 hs C.2.2.2.1 (C.2.2.2.2.1 _ w) (fun _ h => h) d (kk H locs ls hz hh hs hl)
theorem V.gFormat (C : VC K E nL cc own ret) (w : Cond.fieldLink own i "jdk/internal/util/Preconditions" "SIOOBE_FORMATTER" "Ljava/util/function/BiFunction;" ∈ hw_tbl) (d : decode cc pc = .ok (.getstatic i, 3)) (kk : ∀ q : Option Nat, V K E R nL Q cs sl sz g (pc + 3) L (va_rf q :: st)) : V K E R nL Q cs sl sz g pc L st := by
  intro H locs ls hz hh hs hl
  rcases C.2.2.2.2.2.1.2.2.2.2.2.1.2.2.2.2 with h | ⟨t, h⟩
  · exact va_gets C.1 C.2.1 h hs C.2.2.2.1 (C.2.2.2.2.1 _ w) (fun _ h => h) d (kk none H locs ls hz hh hs hl)
  · exact va_gets C.1 C.2.1 h hs C.2.2.2.1 (C.2.2.2.2.1 _ w) (fun _ h => h) d (kk (some t) H locs ls hz hh hs hl)
theorem V.gSta0 (C : VC K E nL cc own ret) (w : Cond.fieldLink own i RX4 "FIRST_STEP" "[I" ∈ hw_tbl) (d : decode cc pc = .ok (.getstatic i, 3)) (kk : V K E R nL Q cs sl sz g (pc + 3) L (.ref (eT E 0) :: st)) : V K E R nL Q cs sl sz g pc L st := fun H locs ls hz hh hs hl => va_gets C.1 C.2.1 C.2.2.2.2.2.1.2.2.2.2.2.1.1 hs C.2.2.2.1 (C.2.2.2.2.1 _ w) (fun _ h => h) d (kk H locs ls hz hh hs hl)
theorem V.gSta1 (C : VC K E nL cc own ret) (w : Cond.fieldLink own i RX4 "ONE_WAY" "[I" ∈ hw_tbl) (d : decode cc pc = .ok (.getstatic i, 3)) (kk : V K E R nL Q cs sl sz g (pc + 3) L (.ref (eT E 1) :: st)) : V K E R nL Q cs sl sz g pc L st := fun H locs ls hz hh hs hl => va_gets C.1 C.2.1 C.2.2.2.2.2.1.2.2.2.2.2.1.2.1 hs C.2.2.2.1 (C.2.2.2.2.1 _ w) (fun _ h => h) d (kk H locs ls hz hh hs hl)
theorem V.taldT (C : VC K E nL cc own ret) {x : Int32} (hj : j < 2) (hin : inb x (staB j).length = true) (d : decode cc pc = .ok (.iaload, 1)) (kk : V K E R nL Q cs sl sz g (pc + 1) L (.int ((staB j).getD x.toNatClampNeg 0) :: st)) : V K E R nL Q cs sl sz g pc L (.int x :: .ref (eT E j) :: st) := fun H locs ls hz hh hs hl => va_ti C.1 C.2.1 (C.2.2.2.2.2.1.2.2.2.2.2.1.2.2.1 j hj) hs (inb_spec hin) rfl d (kk H locs ls hz hh hs hl)
theorem V.mmax (C : VC K E nL cc own ret) {x y : Int32} (w : Cond.methodLink own i Lib.Math.max.name ∈ hw_tbl) (w2 : Cond.static Lib.Math.max.name ∈ hw_tbl) (w3 : Cond.initialized "java/lang/Math" ∈ hw_tbl) (w4 : Cond.code Lib.Math.max.name Lib.Math.max.code 2 (some .int) ∈ hw_tbl) (hR : 1 ≤ R.frames ∧ 21 ≤ R.locals) (hst : (st.map fun v => v.category).sum ≤ 8) (hc : cs ≤ R.cells ∧ sl ≤ R.slots) (d : decode cc pc = .ok (.invokestatic i, 3)) (kk : V K E R nL Q cs sl sz g (pc + 3) L (.int (if x < y then y else x) :: st)) : V K E R nL Q cs sl sz g pc L (.int y :: .int x :: st) := fun H locs ls hz hh hs hl => va_mmax C.1 C.2.1 (by rw [C.2.2.1]; exact hl.1.symm) C.2.2.2.1 (C.2.2.2.2.1 _ w) (C.2.2.2.2.1 _ w2) (C.2.2.2.2.1 _ w3) (C.2.2.2.2.1 _ w4) hR.1 (by omega) hc.1 hc.2 d (kk H locs ls hz hh hs hl)
theorem V.mmin (C : VC K E nL cc own ret) {x y : Int32} (w : Cond.methodLink own i Lib.Math.min.name ∈ hw_tbl) (w2 : Cond.static Lib.Math.min.name ∈ hw_tbl) (w3 : Cond.initialized "java/lang/Math" ∈ hw_tbl) (w4 : Cond.code Lib.Math.min.name Lib.Math.min.code 2 (some .int) ∈ hw_tbl) (hR : 1 ≤ R.frames ∧ 21 ≤ R.locals) (hst : (st.map fun v => v.category).sum ≤ 8) (hc : cs ≤ R.cells ∧ sl ≤ R.slots) (d : decode cc pc = .ok (.invokestatic i, 3)) (kk : V K E R nL Q cs sl sz g (pc + 3) L (.int (if y < x then y else x) :: st)) : V K E R nL Q cs sl sz g pc L (.int y :: .int x :: st) := fun H locs ls hz hh hs hl => va_mmin C.1 C.2.1 (by rw [C.2.2.1]; exact hl.1.symm) C.2.2.2.1 (C.2.2.2.2.1 _ w) (C.2.2.2.2.1 _ w2) (C.2.2.2.2.1 _ w3) (C.2.2.2.2.1 _ w4) hR.1 (by omega) hc.1 hc.2 d (kk H locs ls hz hh hs hl)
/-- System.arraycopy of int arrays -/
def cpI (g : PH) (a0 : Nat) (sp : Int32) (a1 : Nat) (dp n : Int32) : Option PH := match aI g a0 0, aI g a1 0 with
  | some (n0, f), some (n1, h) => if ¬ sp < 0 ∧ ¬ dp < 0 ∧ ¬ n < 0 ∧ sp.toNatClampNeg + n.toNatClampNeg ≤ n0 ∧ dp.toNatClampNeg + n.toNatClampNeg ≤ n1 then some (hup g a1 (.inl (0, n1, .inl (va_cpy f h sp.toNatClampNeg dp.toNatClampNeg n.toNatClampNeg)))) else none
  | _, _ => none
theorem cpI_spec {g g' : PH} {a0 a1 : Nat} {sp dp n : Int32} (h : cpI g a0 sp a1 dp n = some g') : ∃ (n0 n1 : Nat) (f h : Nat → Int32), g a0 = some (.inl (0, n0, .inl f)) ∧ g a1 = some (.inl (0, n1, .inl h)) ∧ ¬ sp < 0 ∧ ¬ dp < 0 ∧ ¬ n < 0 ∧ sp.toNatClampNeg + n.toNatClampNeg ≤ n0 ∧ dp.toNatClampNeg + n.toNatClampNeg ≤ n1 ∧ g' = hup g a1 (.inl (0, n1, .inl (va_cpy f h sp.toNatClampNeg dp.toNatClampNeg n.toNatClampNeg))) := by
  unfold cpI at h
  split at h
  · rename_i n0 f n1 h1 e0 e1
    split at h
    · rename_i hc
      cases h
      exact ⟨n0, n1, f, h1, aI_spec e0, aI_spec e1, hc.1, hc.2.1, hc.2.2.1, hc.2.2.2.1, hc.2.2.2.2, rfl⟩
    · cases h
  · cases h
theorem V.copyI (C : VC K E nL cc own ret) {a0 a1 : Nat} {sp dp n : Int32} (w : Cond.methodLink own i arraycopyName ∈ hw_tbl) (w2 : Cond.native arraycopyName ∈ hw_tbl) (w3 : Cond.static arraycopyName ∈ hw_tbl) (w4 : Cond.initialized "java/lang/System" ∈ hw_tbl) (hR : 1 ≤ R.frames ∧ 8 + (nativeFrameWords "java/lang/System" "arraycopy" 5 + 11) ≤ R.locals) (hst : (st.map fun v => v.category).sum ≤ 8) (hv : cpI g a0 sp a1 dp n = some g') (d : decode cc pc = .ok (.invokestatic i, 3)) (kk : V K E R nL Q cs sl sz g' (pc + 3) L st) : V K E R nL Q cs sl sz g pc L (.int n :: .int dp :: .ref a1 :: .int sp :: .ref a0 :: st) := by
  intro H locs ls hz hh hs hl
  obtain ⟨n0, n1, f, h, e0, e1, h1, h2, h3, h4, h5, rfl⟩ := cpI_spec hv
  have nn : ∀ z : Int32, ¬ z < 0 → z.toInt = (z.toNatClampNeg : Int) := by
    intro z hz
    have hz0 : (0 : Int) ≤ z.toInt := by
      have := Int32.not_lt.mp hz
      simpa using Int32.le_iff_toInt_le.mp this
    show z.toInt = ((z.toInt.toNat : Nat) : Int)
    omega
  intro T hT X
  have hc0 : H[a0]? = some (vp_cell (eC E 0) (n0, .inl f)) := (hh a0 _ e0).1
  have hc1 : H[a1]? = some (vp_cell (eC E 0) (n1, .inl h)) := (hh a1 _ e1).1
  have hb1 := (hh a1 _ e1).2
  obtain ⟨-, k0, hk0, cm0, hkk0⟩ := (C.2.2.2.2.2.1.1.2 0 _ rfl).1 n0 (fun j => .int (f j))
  obtain ⟨vm', X', step⟩ := X.arraycopy C.1 C.2.2.2.1 (C.2.2.2.2.1 _ w) (C.2.2.2.2.1 _ w2) (C.2.2.2.2.1 _ w3) (C.2.2.2.2.1 _ w4) (src := a0) (dst := a1) (cs := vp_cell (eC E 0) (n0, .inl f)) (cd := vp_cell (eC E 0) (n1, .inl h)) (srcPos := sp) (destPos := dp) (n := n) (by rw [hT]; exact hc0) (by rw [hT]; exact hc1)
    (fun _ h => by cases h) (fun _ h => by cases h) (fun h => by cases h) (fun h => by cases h) hk0 hk0 hkk0 hkk0 (by simp [refKind]) h1 h2 h3
    (by rw [nn sp h1, nn n h3]; show ¬ _ > ((arrV (eC E 0) n0 (fun j => .int (f j))).slots.size : Int); rw [arrV_size]; omega)
    (by rw [nn dp h2, nn n h3]; show ¬ _ > ((arrV (eC E 0) n1 (fun j => .int (h j))).slots.size : Int); rw [arrV_size]; omega)
    (fun vm₁ _ i hi => by
      have e : (vp_cell (eC E 0) (n0, .inl f)).slots.getD (sp.toNatClampNeg + i) .null = .int (f (sp.toNatClampNeg + i)) := by
        rw [Array.getD_eq_getD_getElem?]
        show ((arrV (eC E 0) n0 (fun j => .int (f j))).slots[sp.toNatClampNeg + i]?).getD .null = _
        rw [arrV_read _ _ (by omega)]
        rfl
      refine ⟨?_, ?_⟩
      · rw [e]
        rfl
      · rw [e]
        exact trivial)
    (g := F0 K.2.2.2.2.1 pc ls (.int n :: .int dp :: .ref a1 :: .int sp :: .ref a0 :: st)) rfl (by rw [C.2.2.1]; exact hl.1) (rest := st) rfl (by rw [C.2.1]; exact d) hR.1 (by show 2 * 0 + _ + _ ≤ _; omega)
  have ee : copied (vp_cell (eC E 0) (n0, .inl f)) (vp_cell (eC E 0) (n1, .inl h)) sp dp n = vp_cell (eC E 0) (n1, .inl (va_cpy f h sp.toNatClampNeg dp.toNatClampNeg n.toNatClampNeg)) := va_copiedX (fun z => .int z) (vp_cell (eC E 0) (n0, .inl f)) (eC E 0) f h (fun j hj => arrV_read _ _ hj) h4
  rw [ee] at X' step
  have hl1 : a1 < H.size := (Array.getElem?_eq_some_iff.mp hc1).1
  have hheap : ((T.setVm vm').setCell a1 (vp_cell (eC E 0) (n1, .inl (va_cpy f h sp.toNatClampNeg dp.toNatClampNeg n.toNatClampNeg)))).heap = H.setIfInBounds a1 (vp_cell (eC E 0) (n1, .inl (va_cpy f h sp.toNatClampNeg dp.toNatClampNeg n.toNatClampNeg))) := by rw [← hT]; rfl
  have oq : ∀ q : Nat, q ≠ a1 → (H.setIfInBounds a1 (vp_cell (eC E 0) (n1, .inl (va_cpy f h sp.toNatClampNeg dp.toNatClampNeg n.toNatClampNeg))))[q]? = H[q]? := fun q hq => by simp [Array.getElem?_setIfInBounds, Ne.symm hq]
  obtain ⟨t, c1, c2⟩ := kk _ _ ls (by simp; exact hz) (hh.put hb1 (show (H.setIfInBounds a1 _)[a1]? = some _ by simp [Array.getElem?_setIfInBounds, hl1]) oq) ⟨by simp; exact hs.1, fun q g1 g2 => by
      rw [oq q (fun e => g2 (by rw [e]; exact hb1))]
      exact hs.2.1 q g1 g2, fun q hq => by
      rcases List.mem_append.mp hq with h | h
      · exact hs.2.2 q h
      · obtain ⟨z, -, hz⟩ := List.mem_map.mp h
        rw [← hz]
        exact hb1⟩ hl _ hheap X'
  exact ⟨t, step t c1, c2⟩
theorem V.tsIn (C : VC K E nL cc own ret) {x k : Int32} {dflt lo hi off : Int} {offs : Array Int} {len t : Nat} (d : decode cc pc = .ok (.tableswitch dflt lo hi offs, len)) (hx : x = k) (h1 : ¬ k.toInt < lo) (h2 : ¬ hi < k.toInt) (ho : offs[(k.toInt - lo).toNat]? = some off) (ht : (pc : Int) + off = (t : Int)) (kk : V K E R nL Q cs sl sz g t L st) : V K E R nL Q cs sl sz g pc L (.int x :: st) := by
  subst hx
  exact fun H locs ls hz hh hs hl => lv_tableIn C.1 C.2.1 d h1 h2 ho ht (kk H locs ls hz hh hs hl)
theorem V.tsOut (C : VC K E nL cc own ret) {x : Int32} {dflt lo hi : Int} {offs : Array Int} {len t : Nat} (d : decode cc pc = .ok (.tableswitch dflt lo hi offs, len)) (h : x.toInt < lo ∨ hi < x.toInt) (ht : (pc : Int) + dflt = (t : Int)) (kk : V K E R nL Q cs sl sz g t L st) : V K E R nL Q cs sl sz g pc L (.int x :: st) := fun H locs ls hz hh hs hl => lv_tableOut C.1 C.2.1 d h ht (kk H locs ls hz hh hs hl)
theorem V.lsw (C : VC K E nL cc own ret) {x : Int32} {dflt off : Int} {ps : Array (Int × Int)} {len t : Nat} (d : decode cc pc = .ok (.lookupswitch dflt ps, len)) (hp : (ps.toList.zip (ps.toList.drop 1)).all (fun (a, next) => a.1 < next.1) = true) (ho : Op.lookupswitch.offset ps.toList dflt x.toInt = off) (ht : (pc : Int) + off = (t : Int)) (kk : V K E R nL Q cs sl sz g t L st) : V K E R nL Q cs sl sz g pc L (.int x :: st) := fun H locs ls hz hh hs hl => lv_lookup C.1 C.2.1 d hp ho ht (kk H locs ls hz hh hs hl)
theorem V.cast {c s : Nat} (hc : cs = c) (hs : sl = s) (k : V K E R nL Q c s sz g pc L st) : V K E R nL Q cs sl sz g pc L st := by
  subst hc; subst hs; exact k
variable {y : MethodName} {cy : ByteArray} {nM n fr lo mc ms : Nat} {ry : Option FieldType} {r : Option Value} {As : List Value} {Cn : String}
theorem V.callVS {b : Nat} (C : VC K E nL cc own ret) (hb : b < 15) (hy : hMet y "java/lang/String" cy nM ry n) (w : Cond.methodLink own i y ∈ hw_tbl) (hm : hM K.2.1 E y cy nM ry fr lo 0 0 sz g (.ref (eK E b) :: As) r g') (hn : As.length = n) (hR : fr + 1 ≤ R.frames ∧ 8 + (nM + 11) + lo ≤ R.locals) (hst : (st.map fun v => v.category).sum ≤ 8) (d : decode cc pc = .ok (.invokevirtual i, 3)) (hf : cs ≤ R.cells ∧ sl ≤ R.slots) {st0 : List Value} (hs0 : As.reverse ++ .ref (eK E b) :: st = st0) (kk : V K E R nL Q cs sl sz g' (pc + 3) L (r.toList ++ st)) : V K E R nL Q cs sl sz g pc L st0 := by
  refine V.ofRun (r := r) (rest := st) (mc := 0) (ms := 0) (av := (Value.ref (eK E b) :: As).toArray) (fun H locs ls hz hh hs hl => ?_) kk
  obtain ⟨w1, w2, w3, w4, h5⟩ := hy
  have hpre := hPre (av := .ref (eK E b) :: As) C.2.2.2.2.2.1 hz hh hs
  refine va_runV (C := "java/lang/String") (n := n) (As := As) (rest := st) (Ts := hw_tbl) (bytes := cy) (maxL := nM) (ret := ry) ⟨C.1, C.2.1, C.2.2.1, C.2.2.2.1, C.2.2.2.2.1⟩ hm (cwV n C.2.2.2.2.1 ?_ rfl rfl rfl h5 hR) ⟨hpre.1, ?_, hpre.2⟩ rfl hn hl.1 hs0.symm (lv_room (rest := st0) hst) d hf
  · intro v hv
    rcases List.mem_append.mp hv with h | h
    · simp only [List.mem_cons, List.not_mem_nil, or_false] at h
      rcases h with rfl | rfl | rfl | rfl
      · exact ⟨w, hw_good w⟩
      · exact ⟨w2, hw_good w2⟩
      · exact ⟨w3, hw_good w3⟩
      · exact ⟨w4, hw_good w4⟩
    · exact hw_in w1 v h
  · obtain ⟨cell, h1, h2, h3, -⟩ := (C.2.2.2.2.2.1.2.2.2.2.1 b hb).1.kept hs.2.1
    exact ⟨cell, h1, h2, h3⟩
theorem V.callV0 {b cj : Nat} {q : vw_C} (C : VC K E nL cc own ret) (hy : hMet y Cn cy nM ry n) (w : Cond.methodLink own i y ∈ hw_tbl) (hm : hM K.2.1 E y cy nM ry fr lo 0 0 sz g (.ref b :: As) r g') (hn : As.length = n) (hq : classes[cj]? = some q) (hqn : q.1 = Cn) (ho : isO g b cj = true) (hR : fr + 1 ≤ R.frames ∧ 8 + (nM + 11) + lo ≤ R.locals) (hst : (st.map fun v => v.category).sum ≤ 8) (d : decode cc pc = .ok (.invokevirtual i, 3)) (hf : cs ≤ R.cells ∧ sl ≤ R.slots) {st0 : List Value} (hs0 : As.reverse ++ .ref b :: st = st0) (kk : V K E R nL Q cs sl sz g' (pc + 3) L (r.toList ++ st)) : V K E R nL Q cs sl sz g pc L st0 := V.callV C hy w hm hn hq hqn ho hR hst d hf hs0 kk
theorem V.callS0 (C : VC K E nL cc own ret) (hy : hMetS y cy nM ry n) (w : Cond.methodLink own i y ∈ hw_tbl) (hm : hM K.2.1 E y cy nM ry fr lo 0 0 sz g As r g') (hn : As.length = n) (hR : fr + 1 ≤ R.frames ∧ 8 + (nM + 11) + lo ≤ R.locals) (hst : (st.map fun v => v.category).sum ≤ 8) (d : decode cc pc = .ok (.invokestatic i, 3)) (hf : cs ≤ R.cells ∧ sl ≤ R.slots) {st0 : List Value} (hs0 : As.reverse ++ st = st0) (kk : V K E R nL Q cs sl sz g' (pc + 3) L (r.toList ++ st)) : V K E R nL Q cs sl sz g pc L st0 := V.callS C hy w hm hn hR hst d hf hs0 kk
end VS
theorem kU (C : String) (T : u_T) (N : Nat) (h : (u_ws C T N).all (fun w => decide (w ∈ lw_tbl) && goodWord w) = true) : ∀ w ∈ u_ws C T N, w ∈ hw_tbl := fun w hw => by
  have h1 := List.all_eq_true.mp h w hw
  rw [Bool.and_eq_true] at h1
  exact hw_sub (of_decide_eq_true h1.1) h1.2
theorem kX0 : hCls 0 RX0 TX0 3 tyX0 := ⟨rfl, kU _ _ _ (by decide +kernel), tyX0_ok, nmX0⟩
theorem kX1 : hCls 1 RX1 TX1 9 tyX1 := ⟨rfl, kU _ _ _ (by decide +kernel), tyX1_ok, nmX1⟩
theorem kX2 : hCls 2 RX2 TX2 9 tyX2 := ⟨rfl, kU _ _ _ (by decide +kernel), tyX2_ok, nmX2⟩
theorem kX3 : hCls 3 RX3 TX3 12 tyX3 := ⟨rfl, kU _ _ _ (by decide +kernel), tyX3_ok, nmX3⟩
theorem kX4 : hCls 4 RX4 TX4 16 tyX4 := ⟨rfl, kU _ _ _ (by decide +kernel), tyX4_ok, nmX4⟩
theorem kX5 : hCls 5 RX5 TX5 6 tyX5 := ⟨rfl, kU _ _ _ (by decide +kernel), tyX5_ok, nmX5⟩
theorem kX6 : hCls 6 RX6 TX6 4 tyX6 := ⟨rfl, kU _ _ _ (by decide +kernel), tyX6_ok, nmX6⟩
theorem kX7 : hCls 7 RX7 TX7 6 tyX7 := ⟨rfl, kU _ _ _ (by decide +kernel), tyX7_ok, nmX7⟩
theorem kX8 : hCls 8 RX8 TX8 12 tyX8 := ⟨rfl, kU _ _ _ (by decide +kernel), tyX8_ok, nmX8⟩
theorem kX9 : hCls 9 RX9 TX9 41 tyX9 := ⟨rfl, kU _ _ _ (by decide +kernel), tyX9_ok, nmX9⟩
theorem nar_z {v : Int32} (h : vp_nar .boolean v = v) : narrow .boolean (.int v) = .int v := congrArg Value.int h
theorem nar_b {v : Int32} (h : vp_nar .byte v = v) : narrow .byte (.int v) = .int v := congrArg Value.int h
theorem nar_c {v : Int32} (h : vp_nar .char v = v) : narrow .char (.int v) = .int v := congrArg Value.int h
/-- a rest with so many cells and slots more -/
def bmp {α : Type} (c s : Nat) (x : Option (α × PH × Nat × Nat)) : Option (α × PH × Nat × Nat) := x.bind fun q => some (q.1, q.2.1, q.2.2.1 + c, q.2.2.2 + s)
theorem bmp_some {α : Type} {c s mc ms : Nat} {x : Option (α × PH × Nat × Nat)} {r : α} {g : PH} (h : bmp c s x = some (r, g, mc, ms)) : ∃ m1 s1, x = some (r, g, m1, s1) ∧ mc = m1 + c ∧ ms = s1 + s := by
  unfold bmp at h
  cases x with
  | none => cases h
  | some q =>
    obtain ⟨r1, g1, m1, s1⟩ := q
    cases h
    exact ⟨m1, s1, rfl, rfl, rfl⟩
/-- more steps than any loop here takes -/
def FUEL : Nat := 10000
theorem cat_rf (q : Option Nat) : (va_rf q).category = 1 := by cases q <;> rfl
section VT
variable {K : HK} {E : HE} {R : Room} {nL : Nat} {Q : State → Prop} {cs sl sz : Nat} {g g' : PH} {pc : Nat} {L : List (Nat × Value)} {st : List Value} {cc : ByteArray} {own : String} {ret : Option FieldType} {a i j : Nat}
theorem V.start {L' : List (Nat × Value)} (h : L = L') (k : V K E R nL Q cs sl sz g pc L' st) : V K E R nL Q cs sl sz g pc L st := h ▸ k
end VT
section VTT
variable {K : HK} {E : HE} {R : Room} {nL : Nat} {Q : State → Prop} {cs sl sz : Nat} {g g' : PH} {pc : Nat} {L : List (Nat × Value)} {st : List Value} {cc : ByteArray} {own : String} {ret : Option FieldType} {a i j : Nat}
variable {y : MethodName} {cy : ByteArray} {nM n fr lo mc ms : Nat} {ry : Option FieldType} {As : List Value} {Cn : String}
theorem V.callVSi {x : Int32} {b : Nat} (C : VC K E nL cc own ret) (hb : b < 15) (hy : hMet y "java/lang/String" cy nM ry n) (w : Cond.methodLink own i y ∈ hw_tbl) (hm : hM K.2.1 E y cy nM ry fr lo 0 0 sz g (.ref (eK E b) :: As) (some (.int x)) g') (hn : As.length = n) (hR : fr + 1 ≤ R.frames ∧ 8 + (nM + 11) + lo ≤ R.locals) (hst : (st.map fun v => v.category).sum ≤ 8) (d : decode cc pc = .ok (.invokevirtual i, 3)) (hf : cs ≤ R.cells ∧ sl ≤ R.slots) {st0 : List Value} (hs0 : As.reverse ++ .ref (eK E b) :: st = st0) (kk : V K E R nL Q cs sl sz g' (pc + 3) L (.int x :: st)) : V K E R nL Q cs sl sz g pc L st0 := V.callVS C hb hy w hm hn hR hst d hf hs0 kk
theorem V.callVSl {x : Int64} {b : Nat} (C : VC K E nL cc own ret) (hb : b < 15) (hy : hMet y "java/lang/String" cy nM ry n) (w : Cond.methodLink own i y ∈ hw_tbl) (hm : hM K.2.1 E y cy nM ry fr lo 0 0 sz g (.ref (eK E b) :: As) (some (.long x)) g') (hn : As.length = n) (hR : fr + 1 ≤ R.frames ∧ 8 + (nM + 11) + lo ≤ R.locals) (hst : (st.map fun v => v.category).sum ≤ 8) (d : decode cc pc = .ok (.invokevirtual i, 3)) (hf : cs ≤ R.cells ∧ sl ≤ R.slots) {st0 : List Value} (hs0 : As.reverse ++ .ref (eK E b) :: st = st0) (kk : V K E R nL Q cs sl sz g' (pc + 3) L (.long x :: st)) : V K E R nL Q cs sl sz g pc L st0 := V.callVS C hb hy w hm hn hR hst d hf hs0 kk
theorem V.callVSq {x : Option Nat} {b : Nat} (C : VC K E nL cc own ret) (hb : b < 15) (hy : hMet y "java/lang/String" cy nM ry n) (w : Cond.methodLink own i y ∈ hw_tbl) (hm : hM K.2.1 E y cy nM ry fr lo 0 0 sz g (.ref (eK E b) :: As) (some (va_rf x)) g') (hn : As.length = n) (hR : fr + 1 ≤ R.frames ∧ 8 + (nM + 11) + lo ≤ R.locals) (hst : (st.map fun v => v.category).sum ≤ 8) (d : decode cc pc = .ok (.invokevirtual i, 3)) (hf : cs ≤ R.cells ∧ sl ≤ R.slots) {st0 : List Value} (hs0 : As.reverse ++ .ref (eK E b) :: st = st0) (kk : V K E R nL Q cs sl sz g' (pc + 3) L (va_rf x :: st)) : V K E R nL Q cs sl sz g pc L st0 := V.callVS C hb hy w hm hn hR hst d hf hs0 kk
theorem V.callVSv {b : Nat} (C : VC K E nL cc own ret) (hb : b < 15) (hy : hMet y "java/lang/String" cy nM ry n) (w : Cond.methodLink own i y ∈ hw_tbl) (hm : hM K.2.1 E y cy nM ry fr lo 0 0 sz g (.ref (eK E b) :: As) none g') (hn : As.length = n) (hR : fr + 1 ≤ R.frames ∧ 8 + (nM + 11) + lo ≤ R.locals) (hst : (st.map fun v => v.category).sum ≤ 8) (d : decode cc pc = .ok (.invokevirtual i, 3)) (hf : cs ≤ R.cells ∧ sl ≤ R.slots) {st0 : List Value} (hs0 : As.reverse ++ .ref (eK E b) :: st = st0) (kk : V K E R nL Q cs sl sz g' (pc + 3) L st) : V K E R nL Q cs sl sz g pc L st0 := V.callVS C hb hy w hm hn hR hst d hf hs0 kk
theorem V.callV0i {x : Int32} {b cj : Nat} {q : vw_C} (C : VC K E nL cc own ret) (hy : hMet y Cn cy nM ry n) (w : Cond.methodLink own i y ∈ hw_tbl) (hm : hM K.2.1 E y cy nM ry fr lo 0 0 sz g (.ref b :: As) (some (.int x)) g') (hn : As.length = n) (hq : classes[cj]? = some q) (hqn : q.1 = Cn) (ho : isO g b cj = true) (hR : fr + 1 ≤ R.frames ∧ 8 + (nM + 11) + lo ≤ R.locals) (hst : (st.map fun v => v.category).sum ≤ 8) (d : decode cc pc = .ok (.invokevirtual i, 3)) (hf : cs ≤ R.cells ∧ sl ≤ R.slots) {st0 : List Value} (hs0 : As.reverse ++ .ref b :: st = st0) (kk : V K E R nL Q cs sl sz g' (pc + 3) L (.int x :: st)) : V K E R nL Q cs sl sz g pc L st0 := V.callV0 C hy w hm hn hq hqn ho hR hst d hf hs0 kk
theorem V.callV0l {x : Int64} {b cj : Nat} {q : vw_C} (C : VC K E nL cc own ret) (hy : hMet y Cn cy nM ry n) (w : Cond.methodLink own i y ∈ hw_tbl) (hm : hM K.2.1 E y cy nM ry fr lo 0 0 sz g (.ref b :: As) (some (.long x)) g') (hn : As.length = n) (hq : classes[cj]? = some q) (hqn : q.1 = Cn) (ho : isO g b cj = true) (hR : fr + 1 ≤ R.frames ∧ 8 + (nM + 11) + lo ≤ R.locals) (hst : (st.map fun v => v.category).sum ≤ 8) (d : decode cc pc = .ok (.invokevirtual i, 3)) (hf : cs ≤ R.cells ∧ sl ≤ R.slots) {st0 : List Value} (hs0 : As.reverse ++ .ref b :: st = st0) (kk : V K E R nL Q cs sl sz g' (pc + 3) L (.long x :: st)) : V K E R nL Q cs sl sz g pc L st0 := V.callV0 C hy w hm hn hq hqn ho hR hst d hf hs0 kk
theorem V.callV0q {x : Option Nat} {b cj : Nat} {q : vw_C} (C : VC K E nL cc own ret) (hy : hMet y Cn cy nM ry n) (w : Cond.methodLink own i y ∈ hw_tbl) (hm : hM K.2.1 E y cy nM ry fr lo 0 0 sz g (.ref b :: As) (some (va_rf x)) g') (hn : As.length = n) (hq : classes[cj]? = some q) (hqn : q.1 = Cn) (ho : isO g b cj = true) (hR : fr + 1 ≤ R.frames ∧ 8 + (nM + 11) + lo ≤ R.locals) (hst : (st.map fun v => v.category).sum ≤ 8) (d : decode cc pc = .ok (.invokevirtual i, 3)) (hf : cs ≤ R.cells ∧ sl ≤ R.slots) {st0 : List Value} (hs0 : As.reverse ++ .ref b :: st = st0) (kk : V K E R nL Q cs sl sz g' (pc + 3) L (va_rf x :: st)) : V K E R nL Q cs sl sz g pc L st0 := V.callV0 C hy w hm hn hq hqn ho hR hst d hf hs0 kk
theorem V.callV0v {b cj : Nat} {q : vw_C} (C : VC K E nL cc own ret) (hy : hMet y Cn cy nM ry n) (w : Cond.methodLink own i y ∈ hw_tbl) (hm : hM K.2.1 E y cy nM ry fr lo 0 0 sz g (.ref b :: As) none g') (hn : As.length = n) (hq : classes[cj]? = some q) (hqn : q.1 = Cn) (ho : isO g b cj = true) (hR : fr + 1 ≤ R.frames ∧ 8 + (nM + 11) + lo ≤ R.locals) (hst : (st.map fun v => v.category).sum ≤ 8) (d : decode cc pc = .ok (.invokevirtual i, 3)) (hf : cs ≤ R.cells ∧ sl ≤ R.slots) {st0 : List Value} (hs0 : As.reverse ++ .ref b :: st = st0) (kk : V K E R nL Q cs sl sz g' (pc + 3) L st) : V K E R nL Q cs sl sz g pc L st0 := V.callV0 C hy w hm hn hq hqn ho hR hst d hf hs0 kk
theorem V.callS0i {x : Int32} (C : VC K E nL cc own ret) (hy : hMetS y cy nM ry n) (w : Cond.methodLink own i y ∈ hw_tbl) (hm : hM K.2.1 E y cy nM ry fr lo 0 0 sz g As (some (.int x)) g') (hn : As.length = n) (hR : fr + 1 ≤ R.frames ∧ 8 + (nM + 11) + lo ≤ R.locals) (hst : (st.map fun v => v.category).sum ≤ 8) (d : decode cc pc = .ok (.invokestatic i, 3)) (hf : cs ≤ R.cells ∧ sl ≤ R.slots) {st0 : List Value} (hs0 : As.reverse ++ st = st0) (kk : V K E R nL Q cs sl sz g' (pc + 3) L (.int x :: st)) : V K E R nL Q cs sl sz g pc L st0 := V.callS0 C hy w hm hn hR hst d hf hs0 kk
theorem V.callS0l {x : Int64} (C : VC K E nL cc own ret) (hy : hMetS y cy nM ry n) (w : Cond.methodLink own i y ∈ hw_tbl) (hm : hM K.2.1 E y cy nM ry fr lo 0 0 sz g As (some (.long x)) g') (hn : As.length = n) (hR : fr + 1 ≤ R.frames ∧ 8 + (nM + 11) + lo ≤ R.locals) (hst : (st.map fun v => v.category).sum ≤ 8) (d : decode cc pc = .ok (.invokestatic i, 3)) (hf : cs ≤ R.cells ∧ sl ≤ R.slots) {st0 : List Value} (hs0 : As.reverse ++ st = st0) (kk : V K E R nL Q cs sl sz g' (pc + 3) L (.long x :: st)) : V K E R nL Q cs sl sz g pc L st0 := V.callS0 C hy w hm hn hR hst d hf hs0 kk
theorem V.callS0q {x : Option Nat} (C : VC K E nL cc own ret) (hy : hMetS y cy nM ry n) (w : Cond.methodLink own i y ∈ hw_tbl) (hm : hM K.2.1 E y cy nM ry fr lo 0 0 sz g As (some (va_rf x)) g') (hn : As.length = n) (hR : fr + 1 ≤ R.frames ∧ 8 + (nM + 11) + lo ≤ R.locals) (hst : (st.map fun v => v.category).sum ≤ 8) (d : decode cc pc = .ok (.invokestatic i, 3)) (hf : cs ≤ R.cells ∧ sl ≤ R.slots) {st0 : List Value} (hs0 : As.reverse ++ st = st0) (kk : V K E R nL Q cs sl sz g' (pc + 3) L (va_rf x :: st)) : V K E R nL Q cs sl sz g pc L st0 := V.callS0 C hy w hm hn hR hst d hf hs0 kk
theorem V.callS0v (C : VC K E nL cc own ret) (hy : hMetS y cy nM ry n) (w : Cond.methodLink own i y ∈ hw_tbl) (hm : hM K.2.1 E y cy nM ry fr lo 0 0 sz g As none g') (hn : As.length = n) (hR : fr + 1 ≤ R.frames ∧ 8 + (nM + 11) + lo ≤ R.locals) (hst : (st.map fun v => v.category).sum ≤ 8) (d : decode cc pc = .ok (.invokestatic i, 3)) (hf : cs ≤ R.cells ∧ sl ≤ R.slots) {st0 : List Value} (hs0 : As.reverse ++ st = st0) (kk : V K E R nL Q cs sl sz g' (pc + 3) L st) : V K E R nL Q cs sl sz g pc L st0 := V.callS0 C hy w hm hn hR hst d hf hs0 kk
theorem V.callVi {x : Int32} {b cj : Nat} {q : vw_C} (C : VC K E nL cc own ret) (hy : hMet y Cn cy nM ry n) (w : Cond.methodLink own i y ∈ hw_tbl) (hm : hM K.2.1 E y cy nM ry fr lo mc ms sz g (.ref b :: As) (some (.int x)) g') (hn : As.length = n) (hq : classes[cj]? = some q) (hqn : q.1 = Cn) (ho : isO g b cj = true) (hR : fr + 1 ≤ R.frames ∧ 8 + (nM + 11) + lo ≤ R.locals) (hst : (st.map fun v => v.category).sum ≤ 8) (d : decode cc pc = .ok (.invokevirtual i, 3)) (hf : cs + mc ≤ R.cells ∧ sl + ms ≤ R.slots) {st0 : List Value} (hs0 : As.reverse ++ .ref b :: st = st0) (kk : V K E R nL Q (cs + mc) (sl + ms) (sz + mc) g' (pc + 3) L (.int x :: st)) : V K E R nL Q cs sl sz g pc L st0 := V.callV C hy w hm hn hq hqn ho hR hst d hf hs0 kk
theorem V.callVl {x : Int64} {b cj : Nat} {q : vw_C} (C : VC K E nL cc own ret) (hy : hMet y Cn cy nM ry n) (w : Cond.methodLink own i y ∈ hw_tbl) (hm : hM K.2.1 E y cy nM ry fr lo mc ms sz g (.ref b :: As) (some (.long x)) g') (hn : As.length = n) (hq : classes[cj]? = some q) (hqn : q.1 = Cn) (ho : isO g b cj = true) (hR : fr + 1 ≤ R.frames ∧ 8 + (nM + 11) + lo ≤ R.locals) (hst : (st.map fun v => v.category).sum ≤ 8) (d : decode cc pc = .ok (.invokevirtual i, 3)) (hf : cs + mc ≤ R.cells ∧ sl + ms ≤ R.slots) {st0 : List Value} (hs0 : As.reverse ++ .ref b :: st = st0) (kk : V K E R nL Q (cs + mc) (sl + ms) (sz + mc) g' (pc + 3) L (.long x :: st)) : V K E R nL Q cs sl sz g pc L st0 := V.callV C hy w hm hn hq hqn ho hR hst d hf hs0 kk
theorem V.callVq {x : Option Nat} {b cj : Nat} {q : vw_C} (C : VC K E nL cc own ret) (hy : hMet y Cn cy nM ry n) (w : Cond.methodLink own i y ∈ hw_tbl) (hm : hM K.2.1 E y cy nM ry fr lo mc ms sz g (.ref b :: As) (some (va_rf x)) g') (hn : As.length = n) (hq : classes[cj]? = some q) (hqn : q.1 = Cn) (ho : isO g b cj = true) (hR : fr + 1 ≤ R.frames ∧ 8 + (nM + 11) + lo ≤ R.locals) (hst : (st.map fun v => v.category).sum ≤ 8) (d : decode cc pc = .ok (.invokevirtual i, 3)) (hf : cs + mc ≤ R.cells ∧ sl + ms ≤ R.slots) {st0 : List Value} (hs0 : As.reverse ++ .ref b :: st = st0) (kk : V K E R nL Q (cs + mc) (sl + ms) (sz + mc) g' (pc + 3) L (va_rf x :: st)) : V K E R nL Q cs sl sz g pc L st0 := V.callV C hy w hm hn hq hqn ho hR hst d hf hs0 kk
theorem V.callVv {b cj : Nat} {q : vw_C} (C : VC K E nL cc own ret) (hy : hMet y Cn cy nM ry n) (w : Cond.methodLink own i y ∈ hw_tbl) (hm : hM K.2.1 E y cy nM ry fr lo mc ms sz g (.ref b :: As) none g') (hn : As.length = n) (hq : classes[cj]? = some q) (hqn : q.1 = Cn) (ho : isO g b cj = true) (hR : fr + 1 ≤ R.frames ∧ 8 + (nM + 11) + lo ≤ R.locals) (hst : (st.map fun v => v.category).sum ≤ 8) (d : decode cc pc = .ok (.invokevirtual i, 3)) (hf : cs + mc ≤ R.cells ∧ sl + ms ≤ R.slots) {st0 : List Value} (hs0 : As.reverse ++ .ref b :: st = st0) (kk : V K E R nL Q (cs + mc) (sl + ms) (sz + mc) g' (pc + 3) L st) : V K E R nL Q cs sl sz g pc L st0 := V.callV C hy w hm hn hq hqn ho hR hst d hf hs0 kk
end VTT
