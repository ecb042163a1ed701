/-! The law's rows. -/
def LQ (K : HK) (b : Nat) : State → Prop := lw_Z K.2.2.2.2.2.2.1 #[Value.ref b] K.2.2.2.1
def LC (K : HK) (E : HE) (b L : Nat) (xs : Nat → Int32) : Prop := VC K E 4 code R_law ret ∧ va_X b L xs K.2.2.2.1 K.2.2.2.1.heap ∧ b < K.2.2.2.1.heap.size ∧ eB E = K.2.2.2.1.heap.size ∧ L ≤ 3072 ∧ K.2.2.2.2.2.1 = #[Value.ref b]
section VL
variable {K : HK} {E : HE} {R : Room} {Q : State → Prop} {cs sl sz : Nat} {g : PH} {pc : Nat} {Lc : List (Nat × Value)} {st : List Value} {b L : Nat} {xs : Nat → Int32}
theorem V.sld (C : LC K E b L xs) {j : Int32} {n : Nat} (hj : j = nI n) (hn : n < L) (d : decode code pc = .ok (.iaload, 1)) (kk : V K E R 4 Q cs sl sz g (pc + 1) Lc (.int (xs n) :: st)) : V K E R 4 Q cs sl sz g pc Lc (.int j :: .ref b :: st) := by
  intro H locs ls hz hh hs hl
  have h31 : L < 2 ^ 31 := Nat.lt_of_le_of_lt C.2.2.2.2.1 (by decide)
  subst hj
  refine va_sld (A := hA E) C.1.1 C.1.2.1 C.2.1 C.2.2.1 (by unfold hA; rw [C.2.2.2.1]; exact Nat.not_le.mpr C.2.2.1) hs (vp_in_nI hn h31) d ?_
  rw [nI_clamp (by omega)]
  exact kk H locs ls hz hh hs hl
theorem V.slb (C : LC K E b L xs) (d : decode code pc = .ok (.arraylength, 1)) (kk : V K E R 4 Q cs sl sz g (pc + 1) Lc (.int (nI L) :: st)) : V K E R 4 Q cs sl sz g pc Lc (.ref b :: st) := by
  intro H locs ls hz hh hs hl
  exact va_slen (A := hA E) C.1.1 C.1.2.1 C.2.1 C.2.2.1 (by unfold hA; rw [C.2.2.2.1]; exact Nat.not_le.mpr C.2.2.1) hs d (kk H locs ls hz hh hs hl)
theorem V.lend (C : LC K E b L xs) (h1 : cs ≤ 600000) (h2 : sl ≤ 7302250) (d : decode code pc = .ok (.ireturn, 1)) : V K E room_1 4 (LQ K b) cs sl sz g pc Lc [.int 1] := by
  intro H locs ls hz hh hs hl
  obtain ⟨p, l, e, s, m, args, below, meth, c⟩ := K
  obtain ⟨⟨c1, c2, c3, c4, c5, c6, c7, c8⟩, x1, x2, x3, x4, x5⟩ := C
  dsimp only at *
  subst x5
  refine va_forget (fun q hq => by have := hs.2.2 q hq; unfold hA at this; rw [x3] at this; exact this) ?_
  refine W.widen (k := 600000) (n := 7302250) h1 h2 ?_
  exact lw_ret c1 c2 c8 c7 d
end VL
def SN (Inv : HS → Nat → Nat → Prop) (pot : HS → Nat → Nat) (F8 F9 : HS → Nat → Option (Int32 × HS)) : Prop := ∀ w x m, Inv w x m → ∃ r w1 w2, F8 w x = some (r, w1) ∧ F9 w1 m = some (r, w2) ∧ Inv w2 x m ∧ pot w2 x ≤ pot w x
def SA (Inv : HS → Nat → Nat → Prop) (pot : HS → Nat → Nat) (F8 : Nat → HS → Nat → Option (Int32 × HS × Nat × Nat)) (F9 : HS → Nat → Option (Int32 × HS)) : Prop := ∀ sz w x m, Inv w x m → (∀ b, hc w b < 10 → b < sz) → ∃ r w1 mc ms w2, F8 sz w x = some (r, w1, mc, ms) ∧ F9 w1 m = some (r, w2) ∧ Inv w2 x m ∧ mc ≤ 20 ∧ ms + pot w2 x ≤ pot w x + 300
theorem Rel.below {ar : Nat → Nat → Nat} {c0 : Nat → Nat} {sz : Nat} {g : PH} {w : HS} (P : Rel ar c0 sz g w) : ∀ b, hc w b < 10 → b < sz := fun b h => P.fresh (by rw [← P.1]; exact h)
/-- every call, class and reference side by side: the same answer, the invariant stays, the room is paid -/
def Steps (Inv : HS → Nat → Nat → Prop) (pot : HS → Nat → Nat) : Prop :=
  (∀ u0 u1 u2 u3 u4 : Int32, SN Inv pot (fun w x => FX8_feed w x u0 u1 u2 u3 u4) (fun w m => FX9_feed w m u0 u1 u2 u3 u4)) ∧
  (∀ u0 : Int32, SN Inv pot (fun w x => FX8_end w x u0) (fun w m => FX9_end w m u0)) ∧
  (SA Inv pot (fun sz w x => FX8_kind sz w x) (fun w m => FX9_kind w m)) ∧
  (SA Inv pot (fun sz w x => FX8_march sz w x) (fun w m => FX9_march w m)) ∧
  (∀ u0 u1 : Int32, SN Inv pot (fun w x => FX8_ofKind w x u0 u1) (fun w m => FX9_ofKind w m u0 u1)) ∧
  (∀ u0 u1 : Int32, SN Inv pot (fun w x => FX8_ofMarch w x u0 u1) (fun w m => FX9_ofMarch w m u0 u1)) ∧
  (∀ u0 u1 u2 : Int32, SN Inv pot (fun w x => FX8_element w x u0 u1 u2) (fun w m => FX9_element w m u0 u1 u2)) ∧
  (∀ u0 u1 u2 : Int32, (u2 = 0 ∨ u2 = 1) → SN Inv pot (fun w x => FX8_caught w x u0 u1 u2) (fun w m => FX9_caught w m u0 u1 u2)) ∧
  (∀ u0 u1 u2 u3 : Int32, (u2 = 0 ∨ u2 = 1) → SN Inv pot (fun w x => FX8_escape w x u0 u1 u2 u3) (fun w m => FX9_escape w m u0 u1 u2 u3)) ∧
  (∀ u0 u1 : Int32, SN Inv pot (fun w x => FX8_onTwo w x u0 u1) (fun w m => FX9_onTwo w m u0 u1)) ∧
  (∀ u0 : Int32, SN Inv pot (fun w x => FX8_covers w x u0) (fun w m => FX9_covers w m u0)) ∧
  (∀ u0 : Int32, SA Inv pot (fun sz w x => FX8_least sz w x u0) (fun w m => FX9_least w m u0)) ∧
  (∀ u0 u1 : Int32, SA Inv pot (fun sz w x => FX8_walk sz w x u0 u1) (fun w m => FX9_walk w m u0 u1)) ∧
  (∀ u0 : Int32, SN Inv pot (fun w x => FX8_memory w x u0) (fun w m => FX9_memory w m u0)) ∧
  (∀ u0 u1 u2 : Int32, SA Inv pot (fun sz w x => FX8_put sz w x u0 u1 u2) (fun w m => FX9_put w m u0 u1 u2)) ∧
  (SA Inv pot (fun sz w x => FX8_heal sz w x) (fun w m => FX9_heal w m)) ∧
  (∀ u0 : Int32, SA Inv pot (fun sz w x => FX8_tell sz w x u0) (fun w m => FX9_tell w m u0)) ∧
  (∀ u0 u1 : Int32, SA Inv pot (fun sz w x => FX8_write sz w x u0 u1) (fun w m => FX9_write w m u0 u1)) ∧
  (∀ u0 : Int32, SA Inv pot (fun sz w x => FX8_read sz w x u0) (fun w m => FX9_read w m u0)) ∧
  (∀ u0 u1 : Int32, SA Inv pot (fun sz w x => FX8_run sz w x u0 u1) (fun w m => FX9_run w m u0 u1)) ∧
  (∀ u0 u1 : Int32, SA Inv pot (fun sz w x => FX8_layout sz w x u0 u1) (fun w m => FX9_layout w m u0 u1)) ∧
  (SN Inv pot (fun w x => FX8_undo w x) (fun w m => FX9_undo w m)) ∧
  (∀ u0 u1 : Int32, SN Inv pot (fun w x => FX8_cell w x u0 u1) (fun w m => FX9_cell w m u0 u1)) ∧
  (∀ u0 u1 : Int32, SN Inv pot (fun w x => FX8_log w x u0 u1) (fun w m => FX9_log w m u0 u1)) ∧
  (∀ u0 : Int32, SA Inv pot (fun sz w x => FX8_fits sz w x u0) (fun w m => FX9_fits w m u0)) ∧
  (∀ u0 : Int32, SA Inv pot (fun sz w x => FX8_parts sz w x u0) (fun w m => FX9_parts w m u0)) ∧
  (SA Inv pot (fun sz w x => FX8_ask sz w x) (fun w m => FX9_ask w m)) ∧
  (∀ u0 : Int32, SN Inv pot (fun w x => FX8_draws w x u0) (fun w m => FX9_draws w m u0)) ∧
  (∀ u0 u1 : Int32, SN Inv pot (fun w x => FX8_drawn w x u0 u1) (fun w m => FX9_drawn w m u0 u1)) ∧
  (∀ u0 : Int32, SN Inv pot (fun w x => FX8_count w x u0) (fun w m => FX9_count w m u0))
set_option maxHeartbeats 4000000 in
set_option maxRecDepth 100000 in
theorem law_0 {K : HK} {E : HE} {b L : Nat} {xs : Nat → Int32} (C : LC K E b L xs) {Inv : HS → Nat → Nat → Prop} {pot : HS → Nat → Nat} (stp : ∀ u0 u1 u2 u3 u4 : Int32, SN Inv pot (fun w x => FX8_feed w x u0 u1 u2 u3 u4) (fun w m => FX9_feed w m u0 u1 u2 u3 u4)) {i : Nat} (hi6 : i + 6 ≤ L) {cs sl sz : Nat} {g : PH} {w : HS} {ar : Nat → Nat → Nat} {c0 : Nat → Nat} {x m : Nat} (P : Rel ar c0 sz g w) (I : Inv w x m) (h1 : cs + 20 ≤ 600000) (h2 : sl + pot w x + 300 ≤ 7302250) (next : ∀ (cs1 sl1 sz1 : Nat) (g1 : PH) (w1 : HS) (ar1 : Nat → Nat → Nat) (c1 : Nat → Nat), Rel ar1 c1 sz1 g1 w1 → Inv w1 x m → cs1 ≤ cs + 20 → sl1 + pot w1 x ≤ sl + pot w x + 300 → V K E room_1 4 (LQ K b) cs1 sl1 sz1 g1 1070 [(0, .ref b), (1, .ref x), (2, .ref m), (3, .int (nI i))] []) : V K E room_1 4 (LQ K b) cs sl sz g 168 [(0, .ref b), (1, .ref x), (2, .ref m), (3, .int (nI i))] [] := by
  obtain ⟨r, w1, w2, f1, f2, I2, q2⟩ := stp (xs (i + 1)) (xs (i + 2)) (xs (i + 3)) (xs (i + 4)) (xs (i + 5)) w x m I
  obtain ⟨g1, e1, P1⟩ := rX8_feed P f1
  obtain ⟨g2, e2, P2⟩ := rX9_feed P1 f2
  refine V.aload_n (pc := 168) C.1 dL_law_168 1 rfl ?_
  refine V.aload_n (pc := 169) C.1 dL_law_169 0 rfl ?_
  refine V.iload_n (pc := 170) C.1 dL_law_170 3 rfl ?_
  refine V.iconst (pc := 171) C.1 dL_law_171 (v := (1 : Int32)) (by decide) ?_
  refine V.iadd (pc := 172) C.1 dL_law_172 ?_
  refine V.sld (pc := 173) (n := i + 1) C (nI_add i 1) (by omega) dL_law_173 ?_
  refine V.aload_n (pc := 174) C.1 dL_law_174 0 rfl ?_
  refine V.iload_n (pc := 175) C.1 dL_law_175 3 rfl ?_
  refine V.iconst (pc := 176) C.1 dL_law_176 (v := (2 : Int32)) (by decide) ?_
  refine V.iadd (pc := 177) C.1 dL_law_177 ?_
  refine V.sld (pc := 178) (n := i + 2) C (nI_add i 2) (by omega) dL_law_178 ?_
  refine V.aload_n (pc := 179) C.1 dL_law_179 0 rfl ?_
  refine V.iload_n (pc := 180) C.1 dL_law_180 3 rfl ?_
  refine V.iconst (pc := 181) C.1 dL_law_181 (v := (3 : Int32)) (by decide) ?_
  refine V.iadd (pc := 182) C.1 dL_law_182 ?_
  refine V.sld (pc := 183) (n := i + 3) C (nI_add i 3) (by omega) dL_law_183 ?_
  refine V.aload_n (pc := 184) C.1 dL_law_184 0 rfl ?_
  refine V.iload_n (pc := 185) C.1 dL_law_185 3 rfl ?_
  refine V.iconst (pc := 186) C.1 dL_law_186 (v := (4 : Int32)) (by decide) ?_
  refine V.iadd (pc := 187) C.1 dL_law_187 ?_
  refine V.sld (pc := 188) (n := i + 4) C (nI_add i 4) (by omega) dL_law_188 ?_
  refine V.aload_n (pc := 189) C.1 dL_law_189 0 rfl ?_
  refine V.iload_n (pc := 190) C.1 dL_law_190 3 rfl ?_
  refine V.iconst (pc := 191) C.1 dL_law_191 (v := (5 : Int32)) (by decide) ?_
  refine V.iadd (pc := 192) C.1 dL_law_192 ?_
  refine V.sld (pc := 193) (n := i + 5) C (nI_add i 5) (by omega) dL_law_193 ?_
  refine V.callV0i (pc := 194) C.1 hyX8_feed wl_225 (mX8_feed (r := r) K.2.1 E sz e1) rfl rfl rfl (oX8_feed e1) ⟨Nat.le_of_ble_eq_true rfl, Nat.le_of_ble_eq_true rfl⟩ (Nat.le_of_ble_eq_true rfl) dL_law_194 ⟨by show _ ≤ 600000; omega, by show _ ≤ 7302250; omega⟩ rfl ?_
  refine V.aload_n (pc := 197) C.1 dL_law_197 2 rfl ?_
  refine V.aload_n (pc := 198) C.1 dL_law_198 0 rfl ?_
  refine V.iload_n (pc := 199) C.1 dL_law_199 3 rfl ?_
  refine V.iconst (pc := 200) C.1 dL_law_200 (v := (1 : Int32)) (by decide) ?_
  refine V.iadd (pc := 201) C.1 dL_law_201 ?_
  refine V.sld (pc := 202) (n := i + 1) C (nI_add i 1) (by omega) dL_law_202 ?_
  refine V.aload_n (pc := 203) C.1 dL_law_203 0 rfl ?_
  refine V.iload_n (pc := 204) C.1 dL_law_204 3 rfl ?_
  refine V.iconst (pc := 205) C.1 dL_law_205 (v := (2 : Int32)) (by decide) ?_
  refine V.iadd (pc := 206) C.1 dL_law_206 ?_
  refine V.sld (pc := 207) (n := i + 2) C (nI_add i 2) (by omega) dL_law_207 ?_
  refine V.aload_n (pc := 208) C.1 dL_law_208 0 rfl ?_
  refine V.iload_n (pc := 209) C.1 dL_law_209 3 rfl ?_
  refine V.iconst (pc := 210) C.1 dL_law_210 (v := (3 : Int32)) (by decide) ?_
  refine V.iadd (pc := 211) C.1 dL_law_211 ?_
  refine V.sld (pc := 212) (n := i + 3) C (nI_add i 3) (by omega) dL_law_212 ?_
  refine V.aload_n (pc := 213) C.1 dL_law_213 0 rfl ?_
  refine V.iload_n (pc := 214) C.1 dL_law_214 3 rfl ?_
  refine V.iconst (pc := 215) C.1 dL_law_215 (v := (4 : Int32)) (by decide) ?_
  refine V.iadd (pc := 216) C.1 dL_law_216 ?_
  refine V.sld (pc := 217) (n := i + 4) C (nI_add i 4) (by omega) dL_law_217 ?_
  refine V.aload_n (pc := 218) C.1 dL_law_218 0 rfl ?_
  refine V.iload_n (pc := 219) C.1 dL_law_219 3 rfl ?_
  refine V.iconst (pc := 220) C.1 dL_law_220 (v := (5 : Int32)) (by decide) ?_
  refine V.iadd (pc := 221) C.1 dL_law_221 ?_
  refine V.sld (pc := 222) (n := i + 5) C (nI_add i 5) (by omega) dL_law_222 ?_
  refine V.callV0i (pc := 223) C.1 hyX9_feed wl_1174 (mX9_feed (r := r) K.2.1 E _ e2) rfl rfl rfl (oX9_feed e2) ⟨Nat.le_of_ble_eq_true rfl, Nat.le_of_ble_eq_true rfl⟩ (Nat.le_of_ble_eq_true rfl) dL_law_223 ⟨by show _ ≤ 600000; omega, by show _ ≤ 7302250; omega⟩ rfl ?_
  refine V.icmp_eq (pc := 226) (t := 1070) C.1 dL_law_226 (by decide) (fun _ => ?_) (fun q => absurd rfl q)
  exact next _ _ _ _ _ _ _ P2 I2 (by omega) (by omega)
set_option maxHeartbeats 4000000 in
set_option maxRecDepth 100000 in
theorem law_1 {K : HK} {E : HE} {b L : Nat} {xs : Nat → Int32} (C : LC K E b L xs) {Inv : HS → Nat → Nat → Prop} {pot : HS → Nat → Nat} (stp : ∀ u0 : Int32, SN Inv pot (fun w x => FX8_end w x u0) (fun w m => FX9_end w m u0)) {i : Nat} (hi6 : i + 6 ≤ L) {cs sl sz : Nat} {g : PH} {w : HS} {ar : Nat → Nat → Nat} {c0 : Nat → Nat} {x m : Nat} (P : Rel ar c0 sz g w) (I : Inv w x m) (h1 : cs + 20 ≤ 600000) (h2 : sl + pot w x + 300 ≤ 7302250) (next : ∀ (cs1 sl1 sz1 : Nat) (g1 : PH) (w1 : HS) (ar1 : Nat → Nat → Nat) (c1 : Nat → Nat), Rel ar1 c1 sz1 g1 w1 → Inv w1 x m → cs1 ≤ cs + 20 → sl1 + pot w1 x ≤ sl + pot w x + 300 → V K E room_1 4 (LQ K b) cs1 sl1 sz1 g1 1070 [(0, .ref b), (1, .ref x), (2, .ref m), (3, .int (nI i))] []) : V K E room_1 4 (LQ K b) cs sl sz g 231 [(0, .ref b), (1, .ref x), (2, .ref m), (3, .int (nI i))] [] := by
  obtain ⟨r, w1, w2, f1, f2, I2, q2⟩ := stp (xs (i + 1)) w x m I
  obtain ⟨g1, e1, P1⟩ := rX8_end P f1
  obtain ⟨g2, e2, P2⟩ := rX9_end P1 f2
  refine V.aload_n (pc := 231) C.1 dL_law_231 1 rfl ?_
  refine V.aload_n (pc := 232) C.1 dL_law_232 0 rfl ?_
  refine V.iload_n (pc := 233) C.1 dL_law_233 3 rfl ?_
  refine V.iconst (pc := 234) C.1 dL_law_234 (v := (1 : Int32)) (by decide) ?_
  refine V.iadd (pc := 235) C.1 dL_law_235 ?_
  refine V.sld (pc := 236) (n := i + 1) C (nI_add i 1) (by omega) dL_law_236 ?_
  refine V.callV0i (pc := 237) C.1 hyX8_end wl_233 (mX8_end (r := r) K.2.1 E sz e1) rfl rfl rfl (oX8_end e1) ⟨Nat.le_of_ble_eq_true rfl, Nat.le_of_ble_eq_true rfl⟩ (Nat.le_of_ble_eq_true rfl) dL_law_237 ⟨by show _ ≤ 600000; omega, by show _ ≤ 7302250; omega⟩ rfl ?_
  refine V.aload_n (pc := 240) C.1 dL_law_240 2 rfl ?_
  refine V.aload_n (pc := 241) C.1 dL_law_241 0 rfl ?_
  refine V.iload_n (pc := 242) C.1 dL_law_242 3 rfl ?_
  refine V.iconst (pc := 243) C.1 dL_law_243 (v := (1 : Int32)) (by decide) ?_
  refine V.iadd (pc := 244) C.1 dL_law_244 ?_
  refine V.sld (pc := 245) (n := i + 1) C (nI_add i 1) (by omega) dL_law_245 ?_
  refine V.callV0i (pc := 246) C.1 hyX9_end wl_1178 (mX9_end (r := r) K.2.1 E _ e2) rfl rfl rfl (oX9_end e2) ⟨Nat.le_of_ble_eq_true rfl, Nat.le_of_ble_eq_true rfl⟩ (Nat.le_of_ble_eq_true rfl) dL_law_246 ⟨by show _ ≤ 600000; omega, by show _ ≤ 7302250; omega⟩ rfl ?_
  refine V.icmp_eq (pc := 249) (t := 1070) C.1 dL_law_249 (by decide) (fun _ => ?_) (fun q => absurd rfl q)
  exact next _ _ _ _ _ _ _ P2 I2 (by omega) (by omega)
set_option maxHeartbeats 4000000 in
set_option maxRecDepth 100000 in
theorem law_2 {K : HK} {E : HE} {b L : Nat} {xs : Nat → Int32} (C : LC K E b L xs) {Inv : HS → Nat → Nat → Prop} {pot : HS → Nat → Nat} (stp : SA Inv pot (fun sz w x => FX8_kind sz w x) (fun w m => FX9_kind w m)) {i : Nat} (hi6 : i + 6 ≤ L) {cs sl sz : Nat} {g : PH} {w : HS} {ar : Nat → Nat → Nat} {c0 : Nat → Nat} {x m : Nat} (P : Rel ar c0 sz g w) (I : Inv w x m) (h1 : cs + 20 ≤ 600000) (h2 : sl + pot w x + 300 ≤ 7302250) (next : ∀ (cs1 sl1 sz1 : Nat) (g1 : PH) (w1 : HS) (ar1 : Nat → Nat → Nat) (c1 : Nat → Nat), Rel ar1 c1 sz1 g1 w1 → Inv w1 x m → cs1 ≤ cs + 20 → sl1 + pot w1 x ≤ sl + pot w x + 300 → V K E room_1 4 (LQ K b) cs1 sl1 sz1 g1 1070 [(0, .ref b), (1, .ref x), (2, .ref m), (3, .int (nI i))] []) : V K E room_1 4 (LQ K b) cs sl sz g 254 [(0, .ref b), (1, .ref x), (2, .ref m), (3, .int (nI i))] [] := by
  obtain ⟨r, w1, mc, ms, w2, f1, f2, I2, q1, q2⟩ := stp sz w x m I P.below
  obtain ⟨g1, ar1, c1, e1, P1, X1⟩ := rX8_kind P f1
  obtain ⟨g2, e2, P2⟩ := rX9_kind P1 f2
  refine V.aload_n (pc := 254) C.1 dL_law_254 1 rfl ?_
  refine V.callVi (pc := 255) C.1 hyX8_kind wl_237 (mX8_kind (r := r) (mc := mc) (ms := ms) K.2.1 E sz e1) rfl rfl rfl (oX8_kind e1) ⟨Nat.le_of_ble_eq_true rfl, Nat.le_of_ble_eq_true rfl⟩ (Nat.le_of_ble_eq_true rfl) dL_law_255 ⟨by show _ ≤ 600000; omega, by show _ ≤ 7302250; omega⟩ rfl ?_
  refine V.aload_n (pc := 258) C.1 dL_law_258 2 rfl ?_
  refine V.callV0i (pc := 259) C.1 hyX9_kind wl_1185 (mX9_kind (r := r) K.2.1 E _ e2) rfl rfl rfl (oX9_kind e2) ⟨Nat.le_of_ble_eq_true rfl, Nat.le_of_ble_eq_true rfl⟩ (Nat.le_of_ble_eq_true rfl) dL_law_259 ⟨by show _ ≤ 600000; omega, by show _ ≤ 7302250; omega⟩ rfl ?_
  refine V.icmp_eq (pc := 262) (t := 1070) C.1 dL_law_262 (by decide) (fun _ => ?_) (fun q => absurd rfl q)
  exact next _ _ _ _ _ _ _ P2 I2 (by omega) (by omega)
set_option maxHeartbeats 4000000 in
set_option maxRecDepth 100000 in
theorem law_3 {K : HK} {E : HE} {b L : Nat} {xs : Nat → Int32} (C : LC K E b L xs) {Inv : HS → Nat → Nat → Prop} {pot : HS → Nat → Nat} (stp : SA Inv pot (fun sz w x => FX8_march sz w x) (fun w m => FX9_march w m)) {i : Nat} (hi6 : i + 6 ≤ L) {cs sl sz : Nat} {g : PH} {w : HS} {ar : Nat → Nat → Nat} {c0 : Nat → Nat} {x m : Nat} (P : Rel ar c0 sz g w) (I : Inv w x m) (h1 : cs + 20 ≤ 600000) (h2 : sl + pot w x + 300 ≤ 7302250) (next : ∀ (cs1 sl1 sz1 : Nat) (g1 : PH) (w1 : HS) (ar1 : Nat → Nat → Nat) (c1 : Nat → Nat), Rel ar1 c1 sz1 g1 w1 → Inv w1 x m → cs1 ≤ cs + 20 → sl1 + pot w1 x ≤ sl + pot w x + 300 → V K E room_1 4 (LQ K b) cs1 sl1 sz1 g1 1070 [(0, .ref b), (1, .ref x), (2, .ref m), (3, .int (nI i))] []) : V K E room_1 4 (LQ K b) cs sl sz g 267 [(0, .ref b), (1, .ref x), (2, .ref m), (3, .int (nI i))] [] := by
  obtain ⟨r, w1, mc, ms, w2, f1, f2, I2, q1, q2⟩ := stp sz w x m I P.below
  obtain ⟨g1, ar1, c1, e1, P1, X1⟩ := rX8_march P f1
  obtain ⟨g2, e2, P2⟩ := rX9_march P1 f2
  refine V.aload_n (pc := 267) C.1 dL_law_267 1 rfl ?_
  refine V.callVi (pc := 268) C.1 hyX8_march wl_435 (mX8_march (r := r) (mc := mc) (ms := ms) K.2.1 E sz e1) rfl rfl rfl (oX8_march e1) ⟨Nat.le_of_ble_eq_true rfl, Nat.le_of_ble_eq_true rfl⟩ (Nat.le_of_ble_eq_true rfl) dL_law_268 ⟨by show _ ≤ 600000; omega, by show _ ≤ 7302250; omega⟩ rfl ?_
  refine V.aload_n (pc := 271) C.1 dL_law_271 2 rfl ?_
  refine V.callV0i (pc := 272) C.1 hyX9_march wl_1244 (mX9_march (r := r) K.2.1 E _ e2) rfl rfl rfl (oX9_march e2) ⟨Nat.le_of_ble_eq_true rfl, Nat.le_of_ble_eq_true rfl⟩ (Nat.le_of_ble_eq_true rfl) dL_law_272 ⟨by show _ ≤ 600000; omega, by show _ ≤ 7302250; omega⟩ rfl ?_
  refine V.icmp_eq (pc := 275) (t := 1070) C.1 dL_law_275 (by decide) (fun _ => ?_) (fun q => absurd rfl q)
  exact next _ _ _ _ _ _ _ P2 I2 (by omega) (by omega)
set_option maxHeartbeats 4000000 in
set_option maxRecDepth 100000 in
theorem law_4 {K : HK} {E : HE} {b L : Nat} {xs : Nat → Int32} (C : LC K E b L xs) {Inv : HS → Nat → Nat → Prop} {pot : HS → Nat → Nat} (stp : ∀ u0 u1 : Int32, SN Inv pot (fun w x => FX8_ofKind w x u0 u1) (fun w m => FX9_ofKind w m u0 u1)) {i : Nat} (hi6 : i + 6 ≤ L) {cs sl sz : Nat} {g : PH} {w : HS} {ar : Nat → Nat → Nat} {c0 : Nat → Nat} {x m : Nat} (P : Rel ar c0 sz g w) (I : Inv w x m) (h1 : cs + 20 ≤ 600000) (h2 : sl + pot w x + 300 ≤ 7302250) (next : ∀ (cs1 sl1 sz1 : Nat) (g1 : PH) (w1 : HS) (ar1 : Nat → Nat → Nat) (c1 : Nat → Nat), Rel ar1 c1 sz1 g1 w1 → Inv w1 x m → cs1 ≤ cs + 20 → sl1 + pot w1 x ≤ sl + pot w x + 300 → V K E room_1 4 (LQ K b) cs1 sl1 sz1 g1 1070 [(0, .ref b), (1, .ref x), (2, .ref m), (3, .int (nI i))] []) : V K E room_1 4 (LQ K b) cs sl sz g 280 [(0, .ref b), (1, .ref x), (2, .ref m), (3, .int (nI i))] [] := by
  obtain ⟨r, w1, w2, f1, f2, I2, q2⟩ := stp (xs (i + 1)) (xs (i + 2)) w x m I
  obtain ⟨g1, e1, P1⟩ := rX8_ofKind P f1
  obtain ⟨g2, e2, P2⟩ := rX9_ofKind P1 f2
  refine V.aload_n (pc := 280) C.1 dL_law_280 1 rfl ?_
  refine V.aload_n (pc := 281) C.1 dL_law_281 0 rfl ?_
  refine V.iload_n (pc := 282) C.1 dL_law_282 3 rfl ?_
  refine V.iconst (pc := 283) C.1 dL_law_283 (v := (1 : Int32)) (by decide) ?_
  refine V.iadd (pc := 284) C.1 dL_law_284 ?_
  refine V.sld (pc := 285) (n := i + 1) C (nI_add i 1) (by omega) dL_law_285 ?_
  refine V.aload_n (pc := 286) C.1 dL_law_286 0 rfl ?_
  refine V.iload_n (pc := 287) C.1 dL_law_287 3 rfl ?_
  refine V.iconst (pc := 288) C.1 dL_law_288 (v := (2 : Int32)) (by decide) ?_
  refine V.iadd (pc := 289) C.1 dL_law_289 ?_
  refine V.sld (pc := 290) (n := i + 2) C (nI_add i 2) (by omega) dL_law_290 ?_
  refine V.callV0i (pc := 291) C.1 hyX8_ofKind wl_533 (mX8_ofKind (r := r) K.2.1 E sz e1) rfl rfl rfl (oX8_ofKind e1) ⟨Nat.le_of_ble_eq_true rfl, Nat.le_of_ble_eq_true rfl⟩ (Nat.le_of_ble_eq_true rfl) dL_law_291 ⟨by show _ ≤ 600000; omega, by show _ ≤ 7302250; omega⟩ rfl ?_
  refine V.aload_n (pc := 294) C.1 dL_law_294 2 rfl ?_
  refine V.aload_n (pc := 295) C.1 dL_law_295 0 rfl ?_
  refine V.iload_n (pc := 296) C.1 dL_law_296 3 rfl ?_
  refine V.iconst (pc := 297) C.1 dL_law_297 (v := (1 : Int32)) (by decide) ?_
  refine V.iadd (pc := 298) C.1 dL_law_298 ?_
  refine V.sld (pc := 299) (n := i + 1) C (nI_add i 1) (by omega) dL_law_299 ?_
  refine V.aload_n (pc := 300) C.1 dL_law_300 0 rfl ?_
  refine V.iload_n (pc := 301) C.1 dL_law_301 3 rfl ?_
  refine V.iconst (pc := 302) C.1 dL_law_302 (v := (2 : Int32)) (by decide) ?_
  refine V.iadd (pc := 303) C.1 dL_law_303 ?_
  refine V.sld (pc := 304) (n := i + 2) C (nI_add i 2) (by omega) dL_law_304 ?_
  refine V.callV0i (pc := 305) C.1 hyX9_ofKind wl_1266 (mX9_ofKind (r := r) K.2.1 E _ e2) rfl rfl rfl (oX9_ofKind e2) ⟨Nat.le_of_ble_eq_true rfl, Nat.le_of_ble_eq_true rfl⟩ (Nat.le_of_ble_eq_true rfl) dL_law_305 ⟨by show _ ≤ 600000; omega, by show _ ≤ 7302250; omega⟩ rfl ?_
  refine V.icmp_eq (pc := 308) (t := 1070) C.1 dL_law_308 (by decide) (fun _ => ?_) (fun q => absurd rfl q)
  exact next _ _ _ _ _ _ _ P2 I2 (by omega) (by omega)
set_option maxHeartbeats 4000000 in
set_option maxRecDepth 100000 in
theorem law_5 {K : HK} {E : HE} {b L : Nat} {xs : Nat → Int32} (C : LC K E b L xs) {Inv : HS → Nat → Nat → Prop} {pot : HS → Nat → Nat} (stp : ∀ u0 u1 : Int32, SN Inv pot (fun w x => FX8_ofMarch w x u0 u1) (fun w m => FX9_ofMarch w m u0 u1)) {i : Nat} (hi6 : i + 6 ≤ L) {cs sl sz : Nat} {g : PH} {w : HS} {ar : Nat → Nat → Nat} {c0 : Nat → Nat} {x m : Nat} (P : Rel ar c0 sz g w) (I : Inv w x m) (h1 : cs + 20 ≤ 600000) (h2 : sl + pot w x + 300 ≤ 7302250) (next : ∀ (cs1 sl1 sz1 : Nat) (g1 : PH) (w1 : HS) (ar1 : Nat → Nat → Nat) (c1 : Nat → Nat), Rel ar1 c1 sz1 g1 w1 → Inv w1 x m → cs1 ≤ cs + 20 → sl1 + pot w1 x ≤ sl + pot w x + 300 → V K E room_1 4 (LQ K b) cs1 sl1 sz1 g1 1070 [(0, .ref b), (1, .ref x), (2, .ref m), (3, .int (nI i))] []) : V K E room_1 4 (LQ K b) cs sl sz g 313 [(0, .ref b), (1, .ref x), (2, .ref m), (3, .int (nI i))] [] := by
  obtain ⟨r, w1, w2, f1, f2, I2, q2⟩ := stp (xs (i + 1)) (xs (i + 2)) w x m I
  obtain ⟨g1, e1, P1⟩ := rX8_ofMarch P f1
  obtain ⟨g2, e2, P2⟩ := rX9_ofMarch P1 f2
  refine V.aload_n (pc := 313) C.1 dL_law_313 1 rfl ?_
  refine V.aload_n (pc := 314) C.1 dL_law_314 0 rfl ?_
  refine V.iload_n (pc := 315) C.1 dL_law_315 3 rfl ?_
  refine V.iconst (pc := 316) C.1 dL_law_316 (v := (1 : Int32)) (by decide) ?_
  refine V.iadd (pc := 317) C.1 dL_law_317 ?_
  refine V.sld (pc := 318) (n := i + 1) C (nI_add i 1) (by omega) dL_law_318 ?_
  refine V.aload_n (pc := 319) C.1 dL_law_319 0 rfl ?_
  refine V.iload_n (pc := 320) C.1 dL_law_320 3 rfl ?_
  refine V.iconst (pc := 321) C.1 dL_law_321 (v := (2 : Int32)) (by decide) ?_
  refine V.iadd (pc := 322) C.1 dL_law_322 ?_
  refine V.sld (pc := 323) (n := i + 2) C (nI_add i 2) (by omega) dL_law_323 ?_
  refine V.callV0i (pc := 324) C.1 hyX8_ofMarch wl_545 (mX8_ofMarch (r := r) K.2.1 E sz e1) rfl rfl rfl (oX8_ofMarch e1) ⟨Nat.le_of_ble_eq_true rfl, Nat.le_of_ble_eq_true rfl⟩ (Nat.le_of_ble_eq_true rfl) dL_law_324 ⟨by show _ ≤ 600000; omega, by show _ ≤ 7302250; omega⟩ rfl ?_
  refine V.aload_n (pc := 327) C.1 dL_law_327 2 rfl ?_
  refine V.aload_n (pc := 328) C.1 dL_law_328 0 rfl ?_
  refine V.iload_n (pc := 329) C.1 dL_law_329 3 rfl ?_
  refine V.iconst (pc := 330) C.1 dL_law_330 (v := (1 : Int32)) (by decide) ?_
  refine V.iadd (pc := 331) C.1 dL_law_331 ?_
  refine V.sld (pc := 332) (n := i + 1) C (nI_add i 1) (by omega) dL_law_332 ?_
  refine V.aload_n (pc := 333) C.1 dL_law_333 0 rfl ?_
  refine V.iload_n (pc := 334) C.1 dL_law_334 3 rfl ?_
  refine V.iconst (pc := 335) C.1 dL_law_335 (v := (2 : Int32)) (by decide) ?_
  refine V.iadd (pc := 336) C.1 dL_law_336 ?_
  refine V.sld (pc := 337) (n := i + 2) C (nI_add i 2) (by omega) dL_law_337 ?_
  refine V.callV0i (pc := 338) C.1 hyX9_ofMarch wl_1283 (mX9_ofMarch (r := r) K.2.1 E _ e2) rfl rfl rfl (oX9_ofMarch e2) ⟨Nat.le_of_ble_eq_true rfl, Nat.le_of_ble_eq_true rfl⟩ (Nat.le_of_ble_eq_true rfl) dL_law_338 ⟨by show _ ≤ 600000; omega, by show _ ≤ 7302250; omega⟩ rfl ?_
  refine V.icmp_eq (pc := 341) (t := 1070) C.1 dL_law_341 (by decide) (fun _ => ?_) (fun q => absurd rfl q)
  exact next _ _ _ _ _ _ _ P2 I2 (by omega) (by omega)
set_option maxHeartbeats 4000000 in
set_option maxRecDepth 100000 in
theorem law_6 {K : HK} {E : HE} {b L : Nat} {xs : Nat → Int32} (C : LC K E b L xs) {Inv : HS → Nat → Nat → Prop} {pot : HS → Nat → Nat} (stp : ∀ u0 u1 u2 : Int32, SN Inv pot (fun w x => FX8_element w x u0 u1 u2) (fun w m => FX9_element w m u0 u1 u2)) {i : Nat} (hi6 : i + 6 ≤ L) {cs sl sz : Nat} {g : PH} {w : HS} {ar : Nat → Nat → Nat} {c0 : Nat → Nat} {x m : Nat} (P : Rel ar c0 sz g w) (I : Inv w x m) (h1 : cs + 20 ≤ 600000) (h2 : sl + pot w x + 300 ≤ 7302250) (next : ∀ (cs1 sl1 sz1 : Nat) (g1 : PH) (w1 : HS) (ar1 : Nat → Nat → Nat) (c1 : Nat → Nat), Rel ar1 c1 sz1 g1 w1 → Inv w1 x m → cs1 ≤ cs + 20 → sl1 + pot w1 x ≤ sl + pot w x + 300 → V K E room_1 4 (LQ K b) cs1 sl1 sz1 g1 1070 [(0, .ref b), (1, .ref x), (2, .ref m), (3, .int (nI i))] []) : V K E room_1 4 (LQ K b) cs sl sz g 346 [(0, .ref b), (1, .ref x), (2, .ref m), (3, .int (nI i))] [] := by
  obtain ⟨r, w1, w2, f1, f2, I2, q2⟩ := stp (xs (i + 1)) (xs (i + 2)) (xs (i + 3)) w x m I
  obtain ⟨g1, e1, P1⟩ := rX8_element P f1
  obtain ⟨g2, e2, P2⟩ := rX9_element P1 f2
  refine V.aload_n (pc := 346) C.1 dL_law_346 1 rfl ?_
  refine V.aload_n (pc := 347) C.1 dL_law_347 0 rfl ?_
  refine V.iload_n (pc := 348) C.1 dL_law_348 3 rfl ?_
  refine V.iconst (pc := 349) C.1 dL_law_349 (v := (1 : Int32)) (by decide) ?_
  refine V.iadd (pc := 350) C.1 dL_law_350 ?_
  refine V.sld (pc := 351) (n := i + 1) C (nI_add i 1) (by omega) dL_law_351 ?_
  refine V.aload_n (pc := 352) C.1 dL_law_352 0 rfl ?_
  refine V.iload_n (pc := 353) C.1 dL_law_353 3 rfl ?_
  refine V.iconst (pc := 354) C.1 dL_law_354 (v := (2 : Int32)) (by decide) ?_
  refine V.iadd (pc := 355) C.1 dL_law_355 ?_
  refine V.sld (pc := 356) (n := i + 2) C (nI_add i 2) (by omega) dL_law_356 ?_
  refine V.aload_n (pc := 357) C.1 dL_law_357 0 rfl ?_
  refine V.iload_n (pc := 358) C.1 dL_law_358 3 rfl ?_
  refine V.iconst (pc := 359) C.1 dL_law_359 (v := (3 : Int32)) (by decide) ?_
  refine V.iadd (pc := 360) C.1 dL_law_360 ?_
  refine V.sld (pc := 361) (n := i + 3) C (nI_add i 3) (by omega) dL_law_361 ?_
  refine V.callV0i (pc := 362) C.1 hyX8_element wl_553 (mX8_element (r := r) K.2.1 E sz e1) rfl rfl rfl (oX8_element e1) ⟨Nat.le_of_ble_eq_true rfl, Nat.le_of_ble_eq_true rfl⟩ (Nat.le_of_ble_eq_true rfl) dL_law_362 ⟨by show _ ≤ 600000; omega, by show _ ≤ 7302250; omega⟩ rfl ?_
  refine V.aload_n (pc := 365) C.1 dL_law_365 2 rfl ?_
  refine V.aload_n (pc := 366) C.1 dL_law_366 0 rfl ?_
  refine V.iload_n (pc := 367) C.1 dL_law_367 3 rfl ?_
  refine V.iconst (pc := 368) C.1 dL_law_368 (v := (1 : Int32)) (by decide) ?_
  refine V.iadd (pc := 369) C.1 dL_law_369 ?_
  refine V.sld (pc := 370) (n := i + 1) C (nI_add i 1) (by omega) dL_law_370 ?_
  refine V.aload_n (pc := 371) C.1 dL_law_371 0 rfl ?_
  refine V.iload_n (pc := 372) C.1 dL_law_372 3 rfl ?_
  refine V.iconst (pc := 373) C.1 dL_law_373 (v := (2 : Int32)) (by decide) ?_
  refine V.iadd (pc := 374) C.1 dL_law_374 ?_
  refine V.sld (pc := 375) (n := i + 2) C (nI_add i 2) (by omega) dL_law_375 ?_
  refine V.aload_n (pc := 376) C.1 dL_law_376 0 rfl ?_
  refine V.iload_n (pc := 377) C.1 dL_law_377 3 rfl ?_
  refine V.iconst (pc := 378) C.1 dL_law_378 (v := (3 : Int32)) (by decide) ?_
  refine V.iadd (pc := 379) C.1 dL_law_379 ?_
  refine V.sld (pc := 380) (n := i + 3) C (nI_add i 3) (by omega) dL_law_380 ?_
  refine V.callV0i (pc := 381) C.1 hyX9_element wl_1300 (mX9_element (r := r) K.2.1 E _ e2) rfl rfl rfl (oX9_element e2) ⟨Nat.le_of_ble_eq_true rfl, Nat.le_of_ble_eq_true rfl⟩ (Nat.le_of_ble_eq_true rfl) dL_law_381 ⟨by show _ ≤ 600000; omega, by show _ ≤ 7302250; omega⟩ rfl ?_
  refine V.icmp_eq (pc := 384) (t := 1070) C.1 dL_law_384 (by decide) (fun _ => ?_) (fun q => absurd rfl q)
  exact next _ _ _ _ _ _ _ P2 I2 (by omega) (by omega)
set_option maxHeartbeats 4000000 in
set_option maxRecDepth 100000 in
theorem law_7 {K : HK} {E : HE} {b L : Nat} {xs : Nat → Int32} (C : LC K E b L xs) {Inv : HS → Nat → Nat → Prop} {pot : HS → Nat → Nat} (stp : ∀ u0 u1 u2 : Int32, (u2 = 0 ∨ u2 = 1) → SN Inv pot (fun w x => FX8_caught w x u0 u1 u2) (fun w m => FX9_caught w m u0 u1 u2)) {i : Nat} (hi6 : i + 6 ≤ L) {cs sl sz : Nat} {g : PH} {w : HS} {ar : Nat → Nat → Nat} {c0 : Nat → Nat} {x m : Nat} (P : Rel ar c0 sz g w) (I : Inv w x m) (h1 : cs + 20 ≤ 600000) (h2 : sl + pot w x + 300 ≤ 7302250) (next : ∀ (cs1 sl1 sz1 : Nat) (g1 : PH) (w1 : HS) (ar1 : Nat → Nat → Nat) (c1 : Nat → Nat), Rel ar1 c1 sz1 g1 w1 → Inv w1 x m → cs1 ≤ cs + 20 → sl1 + pot w1 x ≤ sl + pot w x + 300 → V K E room_1 4 (LQ K b) cs1 sl1 sz1 g1 1070 [(0, .ref b), (1, .ref x), (2, .ref m), (3, .int (nI i))] []) : V K E room_1 4 (LQ K b) cs sl sz g 389 [(0, .ref b), (1, .ref x), (2, .ref m), (3, .int (nI i))] [] := by
  by_cases hz : (xs (i + 3)) = 0
  · obtain ⟨r, w1, w2, f1, f2, I2, q2⟩ := stp (xs (i + 1)) (xs (i + 2)) 0 (Or.inl rfl) w x m I
    obtain ⟨g1, e1, P1⟩ := rX8_caught P f1
    obtain ⟨g2, e2, P2⟩ := rX9_caught P1 f2
    refine V.aload_n (pc := 389) C.1 dL_law_389 1 rfl ?_
    refine V.aload_n (pc := 390) C.1 dL_law_390 0 rfl ?_
    refine V.iload_n (pc := 391) C.1 dL_law_391 3 rfl ?_
    refine V.iconst (pc := 392) C.1 dL_law_392 (v := (1 : Int32)) (by decide) ?_
    refine V.iadd (pc := 393) C.1 dL_law_393 ?_
    refine V.sld (pc := 394) (n := i + 1) C (nI_add i 1) (by omega) dL_law_394 ?_
    refine V.aload_n (pc := 395) C.1 dL_law_395 0 rfl ?_
    refine V.iload_n (pc := 396) C.1 dL_law_396 3 rfl ?_
    refine V.iconst (pc := 397) C.1 dL_law_397 (v := (2 : Int32)) (by decide) ?_
    refine V.iadd (pc := 398) C.1 dL_law_398 ?_
    refine V.sld (pc := 399) (n := i + 2) C (nI_add i 2) (by omega) dL_law_399 ?_
    refine V.aload_n (pc := 400) C.1 dL_law_400 0 rfl ?_
    refine V.iload_n (pc := 401) C.1 dL_law_401 3 rfl ?_
    refine V.iconst (pc := 402) C.1 dL_law_402 (v := (3 : Int32)) (by decide) ?_
    refine V.iadd (pc := 403) C.1 dL_law_403 ?_
    refine V.sld (pc := 404) (n := i + 3) C (nI_add i 3) (by omega) dL_law_404 ?_
    refine V.if_eq (pc := 405) (t := 412) C.1 dL_law_405 (by decide) (fun _ => ?_) (fun q => absurd hz q)
    refine V.iconst (pc := 412) C.1 dL_law_412 (v := (0 : Int32)) (by decide) ?_
    refine V.callV0i (pc := 413) C.1 hyX8_caught wl_570 (mX8_caught (r := r) K.2.1 E sz e1) rfl rfl rfl (oX8_caught e1) ⟨Nat.le_of_ble_eq_true rfl, Nat.le_of_ble_eq_true rfl⟩ (Nat.le_of_ble_eq_true rfl) dL_law_413 ⟨by show _ ≤ 600000; omega, by show _ ≤ 7302250; omega⟩ rfl ?_
    refine V.aload_n (pc := 416) C.1 dL_law_416 2 rfl ?_
    refine V.aload_n (pc := 417) C.1 dL_law_417 0 rfl ?_
    refine V.iload_n (pc := 418) C.1 dL_law_418 3 rfl ?_
    refine V.iconst (pc := 419) C.1 dL_law_419 (v := (1 : Int32)) (by decide) ?_
    refine V.iadd (pc := 420) C.1 dL_law_420 ?_
    refine V.sld (pc := 421) (n := i + 1) C (nI_add i 1) (by omega) dL_law_421 ?_
    refine V.aload_n (pc := 422) C.1 dL_law_422 0 rfl ?_
    refine V.iload_n (pc := 423) C.1 dL_law_423 3 rfl ?_
    refine V.iconst (pc := 424) C.1 dL_law_424 (v := (2 : Int32)) (by decide) ?_
    refine V.iadd (pc := 425) C.1 dL_law_425 ?_
    refine V.sld (pc := 426) (n := i + 2) C (nI_add i 2) (by omega) dL_law_426 ?_
    refine V.aload_n (pc := 427) C.1 dL_law_427 0 rfl ?_
    refine V.iload_n (pc := 428) C.1 dL_law_428 3 rfl ?_
    refine V.iconst (pc := 429) C.1 dL_law_429 (v := (3 : Int32)) (by decide) ?_
    refine V.iadd (pc := 430) C.1 dL_law_430 ?_
    refine V.sld (pc := 431) (n := i + 3) C (nI_add i 3) (by omega) dL_law_431 ?_
    refine V.if_eq (pc := 432) (t := 439) C.1 dL_law_432 (by decide) (fun _ => ?_) (fun q => absurd hz q)
    refine V.iconst (pc := 439) C.1 dL_law_439 (v := (0 : Int32)) (by decide) ?_
    refine V.callV0i (pc := 440) C.1 hyX9_caught wl_1305 (mX9_caught (r := r) K.2.1 E _ e2) rfl rfl rfl (oX9_caught e2) ⟨Nat.le_of_ble_eq_true rfl, Nat.le_of_ble_eq_true rfl⟩ (Nat.le_of_ble_eq_true rfl) dL_law_440 ⟨by show _ ≤ 600000; omega, by show _ ≤ 7302250; omega⟩ rfl ?_
    refine V.icmp_eq (pc := 443) (t := 1070) C.1 dL_law_443 (by decide) (fun _ => ?_) (fun q => absurd rfl q)
    exact next _ _ _ _ _ _ _ P2 I2 (by omega) (by omega)
  · obtain ⟨r, w1, w2, f1, f2, I2, q2⟩ := stp (xs (i + 1)) (xs (i + 2)) 1 (Or.inr rfl) w x m I
    obtain ⟨g1, e1, P1⟩ := rX8_caught P f1
    obtain ⟨g2, e2, P2⟩ := rX9_caught P1 f2
    refine V.aload_n (pc := 389) C.1 dL_law_389 1 rfl ?_
    refine V.aload_n (pc := 390) C.1 dL_law_390 0 rfl ?_
    refine V.iload_n (pc := 391) C.1 dL_law_391 3 rfl ?_
    refine V.iconst (pc := 392) C.1 dL_law_392 (v := (1 : Int32)) (by decide) ?_
    refine V.iadd (pc := 393) C.1 dL_law_393 ?_
    refine V.sld (pc := 394) (n := i + 1) C (nI_add i 1) (by omega) dL_law_394 ?_
    refine V.aload_n (pc := 395) C.1 dL_law_395 0 rfl ?_
    refine V.iload_n (pc := 396) C.1 dL_law_396 3 rfl ?_
    refine V.iconst (pc := 397) C.1 dL_law_397 (v := (2 : Int32)) (by decide) ?_
    refine V.iadd (pc := 398) C.1 dL_law_398 ?_
    refine V.sld (pc := 399) (n := i + 2) C (nI_add i 2) (by omega) dL_law_399 ?_
    refine V.aload_n (pc := 400) C.1 dL_law_400 0 rfl ?_
    refine V.iload_n (pc := 401) C.1 dL_law_401 3 rfl ?_
    refine V.iconst (pc := 402) C.1 dL_law_402 (v := (3 : Int32)) (by decide) ?_
    refine V.iadd (pc := 403) C.1 dL_law_403 ?_
    refine V.sld (pc := 404) (n := i + 3) C (nI_add i 3) (by omega) dL_law_404 ?_
    refine V.if_eq (pc := 405) (t := 412) C.1 dL_law_405 (by decide) (fun q => absurd q hz) (fun _ => ?_)
    refine V.iconst (pc := 408) C.1 dL_law_408 (v := (1 : Int32)) (by decide) ?_
    refine V.goto (pc := 409) (t := 413) C.1 dL_law_409 (by decide) ?_
    refine V.callV0i (pc := 413) C.1 hyX8_caught wl_570 (mX8_caught (r := r) K.2.1 E sz e1) rfl rfl rfl (oX8_caught e1) ⟨Nat.le_of_ble_eq_true rfl, Nat.le_of_ble_eq_true rfl⟩ (Nat.le_of_ble_eq_true rfl) dL_law_413 ⟨by show _ ≤ 600000; omega, by show _ ≤ 7302250; omega⟩ rfl ?_
    refine V.aload_n (pc := 416) C.1 dL_law_416 2 rfl ?_
    refine V.aload_n (pc := 417) C.1 dL_law_417 0 rfl ?_
    refine V.iload_n (pc := 418) C.1 dL_law_418 3 rfl ?_
    refine V.iconst (pc := 419) C.1 dL_law_419 (v := (1 : Int32)) (by decide) ?_
    refine V.iadd (pc := 420) C.1 dL_law_420 ?_
    refine V.sld (pc := 421) (n := i + 1) C (nI_add i 1) (by omega) dL_law_421 ?_
    refine V.aload_n (pc := 422) C.1 dL_law_422 0 rfl ?_
    refine V.iload_n (pc := 423) C.1 dL_law_423 3 rfl ?_
    refine V.iconst (pc := 424) C.1 dL_law_424 (v := (2 : Int32)) (by decide) ?_
    refine V.iadd (pc := 425) C.1 dL_law_425 ?_
    refine V.sld (pc := 426) (n := i + 2) C (nI_add i 2) (by omega) dL_law_426 ?_
    refine V.aload_n (pc := 427) C.1 dL_law_427 0 rfl ?_
    refine V.iload_n (pc := 428) C.1 dL_law_428 3 rfl ?_
    refine V.iconst (pc := 429) C.1 dL_law_429 (v := (3 : Int32)) (by decide) ?_
    refine V.iadd (pc := 430) C.1 dL_law_430 ?_
    refine V.sld (pc := 431) (n := i + 3) C (nI_add i 3) (by omega) dL_law_431 ?_
    refine V.if_eq (pc := 432) (t := 439) C.1 dL_law_432 (by decide) (fun q => absurd q hz) (fun _ => ?_)
    refine V.iconst (pc := 435) C.1 dL_law_435 (v := (1 : Int32)) (by decide) ?_
    refine V.goto (pc := 436) (t := 440) C.1 dL_law_436 (by decide) ?_
    refine V.callV0i (pc := 440) C.1 hyX9_caught wl_1305 (mX9_caught (r := r) K.2.1 E _ e2) rfl rfl rfl (oX9_caught e2) ⟨Nat.le_of_ble_eq_true rfl, Nat.le_of_ble_eq_true rfl⟩ (Nat.le_of_ble_eq_true rfl) dL_law_440 ⟨by show _ ≤ 600000; omega, by show _ ≤ 7302250; omega⟩ rfl ?_
    refine V.icmp_eq (pc := 443) (t := 1070) C.1 dL_law_443 (by decide) (fun _ => ?_) (fun q => absurd rfl q)
    exact next _ _ _ _ _ _ _ P2 I2 (by omega) (by omega)
set_option maxHeartbeats 4000000 in
set_option maxRecDepth 100000 in
theorem law_8 {K : HK} {E : HE} {b L : Nat} {xs : Nat → Int32} (C : LC K E b L xs) {Inv : HS → Nat → Nat → Prop} {pot : HS → Nat → Nat} (stp : ∀ u0 u1 u2 u3 : Int32, (u2 = 0 ∨ u2 = 1) → SN Inv pot (fun w x => FX8_escape w x u0 u1 u2 u3) (fun w m => FX9_escape w m u0 u1 u2 u3)) {i : Nat} (hi6 : i + 6 ≤ L) {cs sl sz : Nat} {g : PH} {w : HS} {ar : Nat → Nat → Nat} {c0 : Nat → Nat} {x m : Nat} (P : Rel ar c0 sz g w) (I : Inv w x m) (h1 : cs + 20 ≤ 600000) (h2 : sl + pot w x + 300 ≤ 7302250) (next : ∀ (cs1 sl1 sz1 : Nat) (g1 : PH) (w1 : HS) (ar1 : Nat → Nat → Nat) (c1 : Nat → Nat), Rel ar1 c1 sz1 g1 w1 → Inv w1 x m → cs1 ≤ cs + 20 → sl1 + pot w1 x ≤ sl + pot w x + 300 → V K E room_1 4 (LQ K b) cs1 sl1 sz1 g1 1070 [(0, .ref b), (1, .ref x), (2, .ref m), (3, .int (nI i))] []) : V K E room_1 4 (LQ K b) cs sl sz g 448 [(0, .ref b), (1, .ref x), (2, .ref m), (3, .int (nI i))] [] := by
  by_cases hz : (xs (i + 3)) = 0
  · obtain ⟨r, w1, w2, f1, f2, I2, q2⟩ := stp (xs (i + 1)) (xs (i + 2)) 0 (xs (i + 4)) (Or.inl rfl) w x m I
    obtain ⟨g1, e1, P1⟩ := rX8_escape P f1
    obtain ⟨g2, e2, P2⟩ := rX9_escape P1 f2
    refine V.aload_n (pc := 448) C.1 dL_law_448 1 rfl ?_
    refine V.aload_n (pc := 449) C.1 dL_law_449 0 rfl ?_
    refine V.iload_n (pc := 450) C.1 dL_law_450 3 rfl ?_
    refine V.iconst (pc := 451) C.1 dL_law_451 (v := (1 : Int32)) (by decide) ?_
    refine V.iadd (pc := 452) C.1 dL_law_452 ?_
    refine V.sld (pc := 453) (n := i + 1) C (nI_add i 1) (by omega) dL_law_453 ?_
    refine V.aload_n (pc := 454) C.1 dL_law_454 0 rfl ?_
    refine V.iload_n (pc := 455) C.1 dL_law_455 3 rfl ?_
    refine V.iconst (pc := 456) C.1 dL_law_456 (v := (2 : Int32)) (by decide) ?_
    refine V.iadd (pc := 457) C.1 dL_law_457 ?_
    refine V.sld (pc := 458) (n := i + 2) C (nI_add i 2) (by omega) dL_law_458 ?_
    refine V.aload_n (pc := 459) C.1 dL_law_459 0 rfl ?_
    refine V.iload_n (pc := 460) C.1 dL_law_460 3 rfl ?_
    refine V.iconst (pc := 461) C.1 dL_law_461 (v := (3 : Int32)) (by decide) ?_
    refine V.iadd (pc := 462) C.1 dL_law_462 ?_
    refine V.sld (pc := 463) (n := i + 3) C (nI_add i 3) (by omega) dL_law_463 ?_
    refine V.if_eq (pc := 464) (t := 471) C.1 dL_law_464 (by decide) (fun _ => ?_) (fun q => absurd hz q)
    refine V.iconst (pc := 471) C.1 dL_law_471 (v := (0 : Int32)) (by decide) ?_
    refine V.aload_n (pc := 472) C.1 dL_law_472 0 rfl ?_
    refine V.iload_n (pc := 473) C.1 dL_law_473 3 rfl ?_
    refine V.iconst (pc := 474) C.1 dL_law_474 (v := (4 : Int32)) (by decide) ?_
    refine V.iadd (pc := 475) C.1 dL_law_475 ?_
    refine V.sld (pc := 476) (n := i + 4) C (nI_add i 4) (by omega) dL_law_476 ?_
    refine V.callV0i (pc := 477) C.1 hyX8_escape wl_651 (mX8_escape (r := r) K.2.1 E sz e1) rfl rfl rfl (oX8_escape e1) ⟨Nat.le_of_ble_eq_true rfl, Nat.le_of_ble_eq_true rfl⟩ (Nat.le_of_ble_eq_true rfl) dL_law_477 ⟨by show _ ≤ 600000; omega, by show _ ≤ 7302250; omega⟩ rfl ?_
    refine V.aload_n (pc := 480) C.1 dL_law_480 2 rfl ?_
    refine V.aload_n (pc := 481) C.1 dL_law_481 0 rfl ?_
    refine V.iload_n (pc := 482) C.1 dL_law_482 3 rfl ?_
    refine V.iconst (pc := 483) C.1 dL_law_483 (v := (1 : Int32)) (by decide) ?_
    refine V.iadd (pc := 484) C.1 dL_law_484 ?_
    refine V.sld (pc := 485) (n := i + 1) C (nI_add i 1) (by omega) dL_law_485 ?_
    refine V.aload_n (pc := 486) C.1 dL_law_486 0 rfl ?_
    refine V.iload_n (pc := 487) C.1 dL_law_487 3 rfl ?_
    refine V.iconst (pc := 488) C.1 dL_law_488 (v := (2 : Int32)) (by decide) ?_
    refine V.iadd (pc := 489) C.1 dL_law_489 ?_
    refine V.sld (pc := 490) (n := i + 2) C (nI_add i 2) (by omega) dL_law_490 ?_
    refine V.aload_n (pc := 491) C.1 dL_law_491 0 rfl ?_
    refine V.iload_n (pc := 492) C.1 dL_law_492 3 rfl ?_
    refine V.iconst (pc := 493) C.1 dL_law_493 (v := (3 : Int32)) (by decide) ?_
    refine V.iadd (pc := 494) C.1 dL_law_494 ?_
    refine V.sld (pc := 495) (n := i + 3) C (nI_add i 3) (by omega) dL_law_495 ?_
    refine V.if_eq (pc := 496) (t := 503) C.1 dL_law_496 (by decide) (fun _ => ?_) (fun q => absurd hz q)
    refine V.iconst (pc := 503) C.1 dL_law_503 (v := (0 : Int32)) (by decide) ?_
    refine V.aload_n (pc := 504) C.1 dL_law_504 0 rfl ?_
    refine V.iload_n (pc := 505) C.1 dL_law_505 3 rfl ?_
    refine V.iconst (pc := 506) C.1 dL_law_506 (v := (4 : Int32)) (by decide) ?_
    refine V.iadd (pc := 507) C.1 dL_law_507 ?_
    refine V.sld (pc := 508) (n := i + 4) C (nI_add i 4) (by omega) dL_law_508 ?_
    refine V.callV0i (pc := 509) C.1 hyX9_escape wl_1392 (mX9_escape (r := r) K.2.1 E _ e2) rfl rfl rfl (oX9_escape e2) ⟨Nat.le_of_ble_eq_true rfl, Nat.le_of_ble_eq_true rfl⟩ (Nat.le_of_ble_eq_true rfl) dL_law_509 ⟨by show _ ≤ 600000; omega, by show _ ≤ 7302250; omega⟩ rfl ?_
    refine V.icmp_eq (pc := 512) (t := 1070) C.1 dL_law_512 (by decide) (fun _ => ?_) (fun q => absurd rfl q)
    exact next _ _ _ _ _ _ _ P2 I2 (by omega) (by omega)
  · obtain ⟨r, w1, w2, f1, f2, I2, q2⟩ := stp (xs (i + 1)) (xs (i + 2)) 1 (xs (i + 4)) (Or.inr rfl) w x m I
    obtain ⟨g1, e1, P1⟩ := rX8_escape P f1
    obtain ⟨g2, e2, P2⟩ := rX9_escape P1 f2
    refine V.aload_n (pc := 448) C.1 dL_law_448 1 rfl ?_
    refine V.aload_n (pc := 449) C.1 dL_law_449 0 rfl ?_
    refine V.iload_n (pc := 450) C.1 dL_law_450 3 rfl ?_
    refine V.iconst (pc := 451) C.1 dL_law_451 (v := (1 : Int32)) (by decide) ?_
    refine V.iadd (pc := 452) C.1 dL_law_452 ?_
    refine V.sld (pc := 453) (n := i + 1) C (nI_add i 1) (by omega) dL_law_453 ?_
    refine V.aload_n (pc := 454) C.1 dL_law_454 0 rfl ?_
    refine V.iload_n (pc := 455) C.1 dL_law_455 3 rfl ?_
    refine V.iconst (pc := 456) C.1 dL_law_456 (v := (2 : Int32)) (by decide) ?_
    refine V.iadd (pc := 457) C.1 dL_law_457 ?_
    refine V.sld (pc := 458) (n := i + 2) C (nI_add i 2) (by omega) dL_law_458 ?_
    refine V.aload_n (pc := 459) C.1 dL_law_459 0 rfl ?_
    refine V.iload_n (pc := 460) C.1 dL_law_460 3 rfl ?_
    refine V.iconst (pc := 461) C.1 dL_law_461 (v := (3 : Int32)) (by decide) ?_
    refine V.iadd (pc := 462) C.1 dL_law_462 ?_
    refine V.sld (pc := 463) (n := i + 3) C (nI_add i 3) (by omega) dL_law_463 ?_
    refine V.if_eq (pc := 464) (t := 471) C.1 dL_law_464 (by decide) (fun q => absurd q hz) (fun _ => ?_)
    refine V.iconst (pc := 467) C.1 dL_law_467 (v := (1 : Int32)) (by decide) ?_
    refine V.goto (pc := 468) (t := 472) C.1 dL_law_468 (by decide) ?_
    refine V.aload_n (pc := 472) C.1 dL_law_472 0 rfl ?_
    refine V.iload_n (pc := 473) C.1 dL_law_473 3 rfl ?_
    refine V.iconst (pc := 474) C.1 dL_law_474 (v := (4 : Int32)) (by decide) ?_
    refine V.iadd (pc := 475) C.1 dL_law_475 ?_
    refine V.sld (pc := 476) (n := i + 4) C (nI_add i 4) (by omega) dL_law_476 ?_
    refine V.callV0i (pc := 477) C.1 hyX8_escape wl_651 (mX8_escape (r := r) K.2.1 E sz e1) rfl rfl rfl (oX8_escape e1) ⟨Nat.le_of_ble_eq_true rfl, Nat.le_of_ble_eq_true rfl⟩ (Nat.le_of_ble_eq_true rfl) dL_law_477 ⟨by show _ ≤ 600000; omega, by show _ ≤ 7302250; omega⟩ rfl ?_
    refine V.aload_n (pc := 480) C.1 dL_law_480 2 rfl ?_
    refine V.aload_n (pc := 481) C.1 dL_law_481 0 rfl ?_
    refine V.iload_n (pc := 482) C.1 dL_law_482 3 rfl ?_
    refine V.iconst (pc := 483) C.1 dL_law_483 (v := (1 : Int32)) (by decide) ?_
    refine V.iadd (pc := 484) C.1 dL_law_484 ?_
    refine V.sld (pc := 485) (n := i + 1) C (nI_add i 1) (by omega) dL_law_485 ?_
    refine V.aload_n (pc := 486) C.1 dL_law_486 0 rfl ?_
    refine V.iload_n (pc := 487) C.1 dL_law_487 3 rfl ?_
    refine V.iconst (pc := 488) C.1 dL_law_488 (v := (2 : Int32)) (by decide) ?_
    refine V.iadd (pc := 489) C.1 dL_law_489 ?_
    refine V.sld (pc := 490) (n := i + 2) C (nI_add i 2) (by omega) dL_law_490 ?_
    refine V.aload_n (pc := 491) C.1 dL_law_491 0 rfl ?_
    refine V.iload_n (pc := 492) C.1 dL_law_492 3 rfl ?_
    refine V.iconst (pc := 493) C.1 dL_law_493 (v := (3 : Int32)) (by decide) ?_
    refine V.iadd (pc := 494) C.1 dL_law_494 ?_
    refine V.sld (pc := 495) (n := i + 3) C (nI_add i 3) (by omega) dL_law_495 ?_
    refine V.if_eq (pc := 496) (t := 503) C.1 dL_law_496 (by decide) (fun q => absurd q hz) (fun _ => ?_)
    refine V.iconst (pc := 499) C.1 dL_law_499 (v := (1 : Int32)) (by decide) ?_
    refine V.goto (pc := 500) (t := 504) C.1 dL_law_500 (by decide) ?_
    refine V.aload_n (pc := 504) C.1 dL_law_504 0 rfl ?_
    refine V.iload_n (pc := 505) C.1 dL_law_505 3 rfl ?_
    refine V.iconst (pc := 506) C.1 dL_law_506 (v := (4 : Int32)) (by decide) ?_
    refine V.iadd (pc := 507) C.1 dL_law_507 ?_
    refine V.sld (pc := 508) (n := i + 4) C (nI_add i 4) (by omega) dL_law_508 ?_
    refine V.callV0i (pc := 509) C.1 hyX9_escape wl_1392 (mX9_escape (r := r) K.2.1 E _ e2) rfl rfl rfl (oX9_escape e2) ⟨Nat.le_of_ble_eq_true rfl, Nat.le_of_ble_eq_true rfl⟩ (Nat.le_of_ble_eq_true rfl) dL_law_509 ⟨by show _ ≤ 600000; omega, by show _ ≤ 7302250; omega⟩ rfl ?_
    refine V.icmp_eq (pc := 512) (t := 1070) C.1 dL_law_512 (by decide) (fun _ => ?_) (fun q => absurd rfl q)
    exact next _ _ _ _ _ _ _ P2 I2 (by omega) (by omega)
set_option maxHeartbeats 4000000 in
set_option maxRecDepth 100000 in
theorem law_9 {K : HK} {E : HE} {b L : Nat} {xs : Nat → Int32} (C : LC K E b L xs) {Inv : HS → Nat → Nat → Prop} {pot : HS → Nat → Nat} (stp : ∀ u0 u1 : Int32, SN Inv pot (fun w x => FX8_onTwo w x u0 u1) (fun w m => FX9_onTwo w m u0 u1)) {i : Nat} (hi6 : i + 6 ≤ L) {cs sl sz : Nat} {g : PH} {w : HS} {ar : Nat → Nat → Nat} {c0 : Nat → Nat} {x m : Nat} (P : Rel ar c0 sz g w) (I : Inv w x m) (h1 : cs + 20 ≤ 600000) (h2 : sl + pot w x + 300 ≤ 7302250) (next : ∀ (cs1 sl1 sz1 : Nat) (g1 : PH) (w1 : HS) (ar1 : Nat → Nat → Nat) (c1 : Nat → Nat), Rel ar1 c1 sz1 g1 w1 → Inv w1 x m → cs1 ≤ cs + 20 → sl1 + pot w1 x ≤ sl + pot w x + 300 → V K E room_1 4 (LQ K b) cs1 sl1 sz1 g1 1070 [(0, .ref b), (1, .ref x), (2, .ref m), (3, .int (nI i))] []) : V K E room_1 4 (LQ K b) cs sl sz g 517 [(0, .ref b), (1, .ref x), (2, .ref m), (3, .int (nI i))] [] := by
  obtain ⟨r, w1, w2, f1, f2, I2, q2⟩ := stp (xs (i + 1)) (xs (i + 2)) w x m I
  obtain ⟨g1, e1, P1⟩ := rX8_onTwo P f1
  obtain ⟨g2, e2, P2⟩ := rX9_onTwo P1 f2
  refine V.aload_n (pc := 517) C.1 dL_law_517 1 rfl ?_
  refine V.aload_n (pc := 518) C.1 dL_law_518 0 rfl ?_
  refine V.iload_n (pc := 519) C.1 dL_law_519 3 rfl ?_
  refine V.iconst (pc := 520) C.1 dL_law_520 (v := (1 : Int32)) (by decide) ?_
  refine V.iadd (pc := 521) C.1 dL_law_521 ?_
  refine V.sld (pc := 522) (n := i + 1) C (nI_add i 1) (by omega) dL_law_522 ?_
  refine V.aload_n (pc := 523) C.1 dL_law_523 0 rfl ?_
  refine V.iload_n (pc := 524) C.1 dL_law_524 3 rfl ?_
  refine V.iconst (pc := 525) C.1 dL_law_525 (v := (2 : Int32)) (by decide) ?_
  refine V.iadd (pc := 526) C.1 dL_law_526 ?_
  refine V.sld (pc := 527) (n := i + 2) C (nI_add i 2) (by omega) dL_law_527 ?_
  refine V.callV0i (pc := 528) C.1 hyX8_onTwo wl_663 (mX8_onTwo (r := r) K.2.1 E sz e1) rfl rfl rfl (oX8_onTwo e1) ⟨Nat.le_of_ble_eq_true rfl, Nat.le_of_ble_eq_true rfl⟩ (Nat.le_of_ble_eq_true rfl) dL_law_528 ⟨by show _ ≤ 600000; omega, by show _ ≤ 7302250; omega⟩ rfl ?_
  refine V.aload_n (pc := 531) C.1 dL_law_531 2 rfl ?_
  refine V.aload_n (pc := 532) C.1 dL_law_532 0 rfl ?_
  refine V.iload_n (pc := 533) C.1 dL_law_533 3 rfl ?_
  refine V.iconst (pc := 534) C.1 dL_law_534 (v := (1 : Int32)) (by decide) ?_
  refine V.iadd (pc := 535) C.1 dL_law_535 ?_
  refine V.sld (pc := 536) (n := i + 1) C (nI_add i 1) (by omega) dL_law_536 ?_
  refine V.aload_n (pc := 537) C.1 dL_law_537 0 rfl ?_
  refine V.iload_n (pc := 538) C.1 dL_law_538 3 rfl ?_
  refine V.iconst (pc := 539) C.1 dL_law_539 (v := (2 : Int32)) (by decide) ?_
  refine V.iadd (pc := 540) C.1 dL_law_540 ?_
  refine V.sld (pc := 541) (n := i + 2) C (nI_add i 2) (by omega) dL_law_541 ?_
  refine V.callV0i (pc := 542) C.1 hyX9_onTwo wl_1396 (mX9_onTwo (r := r) K.2.1 E _ e2) rfl rfl rfl (oX9_onTwo e2) ⟨Nat.le_of_ble_eq_true rfl, Nat.le_of_ble_eq_true rfl⟩ (Nat.le_of_ble_eq_true rfl) dL_law_542 ⟨by show _ ≤ 600000; omega, by show _ ≤ 7302250; omega⟩ rfl ?_
  refine V.icmp_eq (pc := 545) (t := 1070) C.1 dL_law_545 (by decide) (fun _ => ?_) (fun q => absurd rfl q)
  exact next _ _ _ _ _ _ _ P2 I2 (by omega) (by omega)
set_option maxHeartbeats 4000000 in
set_option maxRecDepth 100000 in
theorem law_10 {K : HK} {E : HE} {b L : Nat} {xs : Nat → Int32} (C : LC K E b L xs) {Inv : HS → Nat → Nat → Prop} {pot : HS → Nat → Nat} (stp : ∀ u0 : Int32, SN Inv pot (fun w x => FX8_covers w x u0) (fun w m => FX9_covers w m u0)) {i : Nat} (hi6 : i + 6 ≤ L) {cs sl sz : Nat} {g : PH} {w : HS} {ar : Nat → Nat → Nat} {c0 : Nat → Nat} {x m : Nat} (P : Rel ar c0 sz g w) (I : Inv w x m) (h1 : cs + 20 ≤ 600000) (h2 : sl + pot w x + 300 ≤ 7302250) (next : ∀ (cs1 sl1 sz1 : Nat) (g1 : PH) (w1 : HS) (ar1 : Nat → Nat → Nat) (c1 : Nat → Nat), Rel ar1 c1 sz1 g1 w1 → Inv w1 x m → cs1 ≤ cs + 20 → sl1 + pot w1 x ≤ sl + pot w x + 300 → V K E room_1 4 (LQ K b) cs1 sl1 sz1 g1 1070 [(0, .ref b), (1, .ref x), (2, .ref m), (3, .int (nI i))] []) : V K E room_1 4 (LQ K b) cs sl sz g 550 [(0, .ref b), (1, .ref x), (2, .ref m), (3, .int (nI i))] [] := by
  obtain ⟨r, w1, w2, f1, f2, I2, q2⟩ := stp (xs (i + 1)) w x m I
  obtain ⟨g1, e1, P1⟩ := rX8_covers P f1
  obtain ⟨g2, e2, P2⟩ := rX9_covers P1 f2
  refine V.aload_n (pc := 550) C.1 dL_law_550 1 rfl ?_
  refine V.aload_n (pc := 551) C.1 dL_law_551 0 rfl ?_
  refine V.iload_n (pc := 552) C.1 dL_law_552 3 rfl ?_
  refine V.iconst (pc := 553) C.1 dL_law_553 (v := (1 : Int32)) (by decide) ?_
  refine V.iadd (pc := 554) C.1 dL_law_554 ?_
  refine V.sld (pc := 555) (n := i + 1) C (nI_add i 1) (by omega) dL_law_555 ?_
  refine V.callV0i (pc := 556) C.1 hyX8_covers wl_667 (mX8_covers (r := r) K.2.1 E sz e1) rfl rfl rfl (oX8_covers e1) ⟨Nat.le_of_ble_eq_true rfl, Nat.le_of_ble_eq_true rfl⟩ (Nat.le_of_ble_eq_true rfl) dL_law_556 ⟨by show _ ≤ 600000; omega, by show _ ≤ 7302250; omega⟩ rfl ?_
  refine V.aload_n (pc := 559) C.1 dL_law_559 2 rfl ?_
  refine V.aload_n (pc := 560) C.1 dL_law_560 0 rfl ?_
  refine V.iload_n (pc := 561) C.1 dL_law_561 3 rfl ?_
  refine V.iconst (pc := 562) C.1 dL_law_562 (v := (1 : Int32)) (by decide) ?_
  refine V.iadd (pc := 563) C.1 dL_law_563 ?_
  refine V.sld (pc := 564) (n := i + 1) C (nI_add i 1) (by omega) dL_law_564 ?_
  refine V.callV0i (pc := 565) C.1 hyX9_covers wl_1404 (mX9_covers (r := r) K.2.1 E _ e2) rfl rfl rfl (oX9_covers e2) ⟨Nat.le_of_ble_eq_true rfl, Nat.le_of_ble_eq_true rfl⟩ (Nat.le_of_ble_eq_true rfl) dL_law_565 ⟨by show _ ≤ 600000; omega, by show _ ≤ 7302250; omega⟩ rfl ?_
  refine V.icmp_eq (pc := 568) (t := 1070) C.1 dL_law_568 (by decide) (fun _ => ?_) (fun q => absurd rfl q)
  exact next _ _ _ _ _ _ _ P2 I2 (by omega) (by omega)
set_option maxHeartbeats 4000000 in
set_option maxRecDepth 100000 in
theorem law_11 {K : HK} {E : HE} {b L : Nat} {xs : Nat → Int32} (C : LC K E b L xs) {Inv : HS → Nat → Nat → Prop} {pot : HS → Nat → Nat} (stp : ∀ u0 : Int32, SA Inv pot (fun sz w x => FX8_least sz w x u0) (fun w m => FX9_least w m u0)) {i : Nat} (hi6 : i + 6 ≤ L) {cs sl sz : Nat} {g : PH} {w : HS} {ar : Nat → Nat → Nat} {c0 : Nat → Nat} {x m : Nat} (P : Rel ar c0 sz g w) (I : Inv w x m) (h1 : cs + 20 ≤ 600000) (h2 : sl + pot w x + 300 ≤ 7302250) (next : ∀ (cs1 sl1 sz1 : Nat) (g1 : PH) (w1 : HS) (ar1 : Nat → Nat → Nat) (c1 : Nat → Nat), Rel ar1 c1 sz1 g1 w1 → Inv w1 x m → cs1 ≤ cs + 20 → sl1 + pot w1 x ≤ sl + pot w x + 300 → V K E room_1 4 (LQ K b) cs1 sl1 sz1 g1 1070 [(0, .ref b), (1, .ref x), (2, .ref m), (3, .int (nI i))] []) : V K E room_1 4 (LQ K b) cs sl sz g 573 [(0, .ref b), (1, .ref x), (2, .ref m), (3, .int (nI i))] [] := by
  obtain ⟨r, w1, mc, ms, w2, f1, f2, I2, q1, q2⟩ := stp (xs (i + 1)) sz w x m I P.below
  obtain ⟨g1, ar1, c1, e1, P1, X1⟩ := rX8_least P f1
  obtain ⟨g2, e2, P2⟩ := rX9_least P1 f2
  refine V.aload_n (pc := 573) C.1 dL_law_573 1 rfl ?_
  refine V.aload_n (pc := 574) C.1 dL_law_574 0 rfl ?_
  refine V.iload_n (pc := 575) C.1 dL_law_575 3 rfl ?_
  refine V.iconst (pc := 576) C.1 dL_law_576 (v := (1 : Int32)) (by decide) ?_
  refine V.iadd (pc := 577) C.1 dL_law_577 ?_
  refine V.sld (pc := 578) (n := i + 1) C (nI_add i 1) (by omega) dL_law_578 ?_
  refine V.callVi (pc := 579) C.1 hyX8_least wl_671 (mX8_least (r := r) (mc := mc) (ms := ms) K.2.1 E sz e1) rfl rfl rfl (oX8_least e1) ⟨Nat.le_of_ble_eq_true rfl, Nat.le_of_ble_eq_true rfl⟩ (Nat.le_of_ble_eq_true rfl) dL_law_579 ⟨by show _ ≤ 600000; omega, by show _ ≤ 7302250; omega⟩ rfl ?_
  refine V.aload_n (pc := 582) C.1 dL_law_582 2 rfl ?_
  refine V.aload_n (pc := 583) C.1 dL_law_583 0 rfl ?_
  refine V.iload_n (pc := 584) C.1 dL_law_584 3 rfl ?_
  refine V.iconst (pc := 585) C.1 dL_law_585 (v := (1 : Int32)) (by decide) ?_
  refine V.iadd (pc := 586) C.1 dL_law_586 ?_
  refine V.sld (pc := 587) (n := i + 1) C (nI_add i 1) (by omega) dL_law_587 ?_
  refine V.callV0i (pc := 588) C.1 hyX9_least wl_1409 (mX9_least (r := r) K.2.1 E _ e2) rfl rfl rfl (oX9_least e2) ⟨Nat.le_of_ble_eq_true rfl, Nat.le_of_ble_eq_true rfl⟩ (Nat.le_of_ble_eq_true rfl) dL_law_588 ⟨by show _ ≤ 600000; omega, by show _ ≤ 7302250; omega⟩ rfl ?_
  refine V.icmp_eq (pc := 591) (t := 1070) C.1 dL_law_591 (by decide) (fun _ => ?_) (fun q => absurd rfl q)
  exact next _ _ _ _ _ _ _ P2 I2 (by omega) (by omega)
set_option maxHeartbeats 4000000 in
set_option maxRecDepth 100000 in
theorem law_12 {K : HK} {E : HE} {b L : Nat} {xs : Nat → Int32} (C : LC K E b L xs) {Inv : HS → Nat → Nat → Prop} {pot : HS → Nat → Nat} (stp : ∀ u0 u1 : Int32, SA Inv pot (fun sz w x => FX8_walk sz w x u0 u1) (fun w m => FX9_walk w m u0 u1)) {i : Nat} (hi6 : i + 6 ≤ L) {cs sl sz : Nat} {g : PH} {w : HS} {ar : Nat → Nat → Nat} {c0 : Nat → Nat} {x m : Nat} (P : Rel ar c0 sz g w) (I : Inv w x m) (h1 : cs + 20 ≤ 600000) (h2 : sl + pot w x + 300 ≤ 7302250) (next : ∀ (cs1 sl1 sz1 : Nat) (g1 : PH) (w1 : HS) (ar1 : Nat → Nat → Nat) (c1 : Nat → Nat), Rel ar1 c1 sz1 g1 w1 → Inv w1 x m → cs1 ≤ cs + 20 → sl1 + pot w1 x ≤ sl + pot w x + 300 → V K E room_1 4 (LQ K b) cs1 sl1 sz1 g1 1070 [(0, .ref b), (1, .ref x), (2, .ref m), (3, .int (nI i))] []) : V K E room_1 4 (LQ K b) cs sl sz g 596 [(0, .ref b), (1, .ref x), (2, .ref m), (3, .int (nI i))] [] := by
  obtain ⟨r, w1, mc, ms, w2, f1, f2, I2, q1, q2⟩ := stp (xs (i + 1)) (xs (i + 2)) sz w x m I P.below
  obtain ⟨g1, ar1, c1, e1, P1, X1⟩ := rX8_walk P f1
  obtain ⟨g2, e2, P2⟩ := rX9_walk P1 f2
  refine V.aload_n (pc := 596) C.1 dL_law_596 1 rfl ?_
  refine V.aload_n (pc := 597) C.1 dL_law_597 0 rfl ?_
  refine V.iload_n (pc := 598) C.1 dL_law_598 3 rfl ?_
  refine V.iconst (pc := 599) C.1 dL_law_599 (v := (1 : Int32)) (by decide) ?_
  refine V.iadd (pc := 600) C.1 dL_law_600 ?_
  refine V.sld (pc := 601) (n := i + 1) C (nI_add i 1) (by omega) dL_law_601 ?_
  refine V.aload_n (pc := 602) C.1 dL_law_602 0 rfl ?_
  refine V.iload_n (pc := 603) C.1 dL_law_603 3 rfl ?_
  refine V.iconst (pc := 604) C.1 dL_law_604 (v := (2 : Int32)) (by decide) ?_
  refine V.iadd (pc := 605) C.1 dL_law_605 ?_
  refine V.sld (pc := 606) (n := i + 2) C (nI_add i 2) (by omega) dL_law_606 ?_
  refine V.callVi (pc := 607) C.1 hyX8_walk wl_810 (mX8_walk (r := r) (mc := mc) (ms := ms) K.2.1 E sz e1) rfl rfl rfl (oX8_walk e1) ⟨Nat.le_of_ble_eq_true rfl, Nat.le_of_ble_eq_true rfl⟩ (Nat.le_of_ble_eq_true rfl) dL_law_607 ⟨by show _ ≤ 600000; omega, by show _ ≤ 7302250; omega⟩ rfl ?_
  refine V.aload_n (pc := 610) C.1 dL_law_610 2 rfl ?_
  refine V.aload_n (pc := 611) C.1 dL_law_611 0 rfl ?_
  refine V.iload_n (pc := 612) C.1 dL_law_612 3 rfl ?_
  refine V.iconst (pc := 613) C.1 dL_law_613 (v := (1 : Int32)) (by decide) ?_
  refine V.iadd (pc := 614) C.1 dL_law_614 ?_
  refine V.sld (pc := 615) (n := i + 1) C (nI_add i 1) (by omega) dL_law_615 ?_
  refine V.aload_n (pc := 616) C.1 dL_law_616 0 rfl ?_
  refine V.iload_n (pc := 617) C.1 dL_law_617 3 rfl ?_
  refine V.iconst (pc := 618) C.1 dL_law_618 (v := (2 : Int32)) (by decide) ?_
  refine V.iadd (pc := 619) C.1 dL_law_619 ?_
  refine V.sld (pc := 620) (n := i + 2) C (nI_add i 2) (by omega) dL_law_620 ?_
  refine V.callV0i (pc := 621) C.1 hyX9_walk wl_1476 (mX9_walk (r := r) K.2.1 E _ e2) rfl rfl rfl (oX9_walk e2) ⟨Nat.le_of_ble_eq_true rfl, Nat.le_of_ble_eq_true rfl⟩ (Nat.le_of_ble_eq_true rfl) dL_law_621 ⟨by show _ ≤ 600000; omega, by show _ ≤ 7302250; omega⟩ rfl ?_
  refine V.icmp_eq (pc := 624) (t := 1070) C.1 dL_law_624 (by decide) (fun _ => ?_) (fun q => absurd rfl q)
  exact next _ _ _ _ _ _ _ P2 I2 (by omega) (by omega)
set_option maxHeartbeats 4000000 in
set_option maxRecDepth 100000 in
theorem law_13 {K : HK} {E : HE} {b L : Nat} {xs : Nat → Int32} (C : LC K E b L xs) {Inv : HS → Nat → Nat → Prop} {pot : HS → Nat → Nat} (stp : ∀ u0 : Int32, SN Inv pot (fun w x => FX8_memory w x u0) (fun w m => FX9_memory w m u0)) {i : Nat} (hi6 : i + 6 ≤ L) {cs sl sz : Nat} {g : PH} {w : HS} {ar : Nat → Nat → Nat} {c0 : Nat → Nat} {x m : Nat} (P : Rel ar c0 sz g w) (I : Inv w x m) (h1 : cs + 20 ≤ 600000) (h2 : sl + pot w x + 300 ≤ 7302250) (next : ∀ (cs1 sl1 sz1 : Nat) (g1 : PH) (w1 : HS) (ar1 : Nat → Nat → Nat) (c1 : Nat → Nat), Rel ar1 c1 sz1 g1 w1 → Inv w1 x m → cs1 ≤ cs + 20 → sl1 + pot w1 x ≤ sl + pot w x + 300 → V K E room_1 4 (LQ K b) cs1 sl1 sz1 g1 1070 [(0, .ref b), (1, .ref x), (2, .ref m), (3, .int (nI i))] []) : V K E room_1 4 (LQ K b) cs sl sz g 629 [(0, .ref b), (1, .ref x), (2, .ref m), (3, .int (nI i))] [] := by
  obtain ⟨r, w1, w2, f1, f2, I2, q2⟩ := stp (xs (i + 1)) w x m I
  obtain ⟨g1, e1, P1⟩ := rX8_memory P f1
  obtain ⟨g2, e2, P2⟩ := rX9_memory P1 f2
  refine V.aload_n (pc := 629) C.1 dL_law_629 1 rfl ?_
  refine V.aload_n (pc := 630) C.1 dL_law_630 0 rfl ?_
  refine V.iload_n (pc := 631) C.1 dL_law_631 3 rfl ?_
  refine V.iconst (pc := 632) C.1 dL_law_632 (v := (1 : Int32)) (by decide) ?_
  refine V.iadd (pc := 633) C.1 dL_law_633 ?_
  refine V.sld (pc := 634) (n := i + 1) C (nI_add i 1) (by omega) dL_law_634 ?_
  refine V.callV0i (pc := 635) C.1 hyX8_memory wl_818 (mX8_memory (r := r) K.2.1 E sz e1) rfl rfl rfl (oX8_memory e1) ⟨Nat.le_of_ble_eq_true rfl, Nat.le_of_ble_eq_true rfl⟩ (Nat.le_of_ble_eq_true rfl) dL_law_635 ⟨by show _ ≤ 600000; omega, by show _ ≤ 7302250; omega⟩ rfl ?_
  refine V.aload_n (pc := 638) C.1 dL_law_638 2 rfl ?_
  refine V.aload_n (pc := 639) C.1 dL_law_639 0 rfl ?_
  refine V.iload_n (pc := 640) C.1 dL_law_640 3 rfl ?_
  refine V.iconst (pc := 641) C.1 dL_law_641 (v := (1 : Int32)) (by decide) ?_
  refine V.iadd (pc := 642) C.1 dL_law_642 ?_
  refine V.sld (pc := 643) (n := i + 1) C (nI_add i 1) (by omega) dL_law_643 ?_
  refine V.callV0i (pc := 644) C.1 hyX9_memory wl_1484 (mX9_memory (r := r) K.2.1 E _ e2) rfl rfl rfl (oX9_memory e2) ⟨Nat.le_of_ble_eq_true rfl, Nat.le_of_ble_eq_true rfl⟩ (Nat.le_of_ble_eq_true rfl) dL_law_644 ⟨by show _ ≤ 600000; omega, by show _ ≤ 7302250; omega⟩ rfl ?_
  refine V.icmp_eq (pc := 647) (t := 1070) C.1 dL_law_647 (by decide) (fun _ => ?_) (fun q => absurd rfl q)
  exact next _ _ _ _ _ _ _ P2 I2 (by omega) (by omega)
set_option maxHeartbeats 4000000 in
set_option maxRecDepth 100000 in
theorem law_14 {K : HK} {E : HE} {b L : Nat} {xs : Nat → Int32} (C : LC K E b L xs) {Inv : HS → Nat → Nat → Prop} {pot : HS → Nat → Nat} (stp : ∀ u0 u1 u2 : Int32, SA Inv pot (fun sz w x => FX8_put sz w x u0 u1 u2) (fun w m => FX9_put w m u0 u1 u2)) {i : Nat} (hi6 : i + 6 ≤ L) {cs sl sz : Nat} {g : PH} {w : HS} {ar : Nat → Nat → Nat} {c0 : Nat → Nat} {x m : Nat} (P : Rel ar c0 sz g w) (I : Inv w x m) (h1 : cs + 20 ≤ 600000) (h2 : sl + pot w x + 300 ≤ 7302250) (next : ∀ (cs1 sl1 sz1 : Nat) (g1 : PH) (w1 : HS) (ar1 : Nat → Nat → Nat) (c1 : Nat → Nat), Rel ar1 c1 sz1 g1 w1 → Inv w1 x m → cs1 ≤ cs + 20 → sl1 + pot w1 x ≤ sl + pot w x + 300 → V K E room_1 4 (LQ K b) cs1 sl1 sz1 g1 1070 [(0, .ref b), (1, .ref x), (2, .ref m), (3, .int (nI i))] []) : V K E room_1 4 (LQ K b) cs sl sz g 652 [(0, .ref b), (1, .ref x), (2, .ref m), (3, .int (nI i))] [] := by
  obtain ⟨r, w1, mc, ms, w2, f1, f2, I2, q1, q2⟩ := stp (xs (i + 1)) (xs (i + 2)) (xs (i + 3)) sz w x m I P.below
  obtain ⟨g1, ar1, c1, e1, P1, X1⟩ := rX8_put P f1
  obtain ⟨g2, e2, P2⟩ := rX9_put P1 f2
  refine V.aload_n (pc := 652) C.1 dL_law_652 1 rfl ?_
  refine V.aload_n (pc := 653) C.1 dL_law_653 0 rfl ?_
  refine V.iload_n (pc := 654) C.1 dL_law_654 3 rfl ?_
  refine V.iconst (pc := 655) C.1 dL_law_655 (v := (1 : Int32)) (by decide) ?_
  refine V.iadd (pc := 656) C.1 dL_law_656 ?_
  refine V.sld (pc := 657) (n := i + 1) C (nI_add i 1) (by omega) dL_law_657 ?_
  refine V.aload_n (pc := 658) C.1 dL_law_658 0 rfl ?_
  refine V.iload_n (pc := 659) C.1 dL_law_659 3 rfl ?_
  refine V.iconst (pc := 660) C.1 dL_law_660 (v := (2 : Int32)) (by decide) ?_
  refine V.iadd (pc := 661) C.1 dL_law_661 ?_
  refine V.sld (pc := 662) (n := i + 2) C (nI_add i 2) (by omega) dL_law_662 ?_
  refine V.aload_n (pc := 663) C.1 dL_law_663 0 rfl ?_
  refine V.iload_n (pc := 664) C.1 dL_law_664 3 rfl ?_
  refine V.iconst (pc := 665) C.1 dL_law_665 (v := (3 : Int32)) (by decide) ?_
  refine V.iadd (pc := 666) C.1 dL_law_666 ?_
  refine V.sld (pc := 667) (n := i + 3) C (nI_add i 3) (by omega) dL_law_667 ?_
  refine V.callVi (pc := 668) C.1 hyX8_put wl_826 (mX8_put (r := r) (mc := mc) (ms := ms) K.2.1 E sz e1) rfl rfl rfl (oX8_put e1) ⟨Nat.le_of_ble_eq_true rfl, Nat.le_of_ble_eq_true rfl⟩ (Nat.le_of_ble_eq_true rfl) dL_law_668 ⟨by show _ ≤ 600000; omega, by show _ ≤ 7302250; omega⟩ rfl ?_
  refine V.aload_n (pc := 671) C.1 dL_law_671 2 rfl ?_
  refine V.aload_n (pc := 672) C.1 dL_law_672 0 rfl ?_
  refine V.iload_n (pc := 673) C.1 dL_law_673 3 rfl ?_
  refine V.iconst (pc := 674) C.1 dL_law_674 (v := (1 : Int32)) (by decide) ?_
  refine V.iadd (pc := 675) C.1 dL_law_675 ?_
  refine V.sld (pc := 676) (n := i + 1) C (nI_add i 1) (by omega) dL_law_676 ?_
  refine V.aload_n (pc := 677) C.1 dL_law_677 0 rfl ?_
  refine V.iload_n (pc := 678) C.1 dL_law_678 3 rfl ?_
  refine V.iconst (pc := 679) C.1 dL_law_679 (v := (2 : Int32)) (by decide) ?_
  refine V.iadd (pc := 680) C.1 dL_law_680 ?_
  refine V.sld (pc := 681) (n := i + 2) C (nI_add i 2) (by omega) dL_law_681 ?_
  refine V.aload_n (pc := 682) C.1 dL_law_682 0 rfl ?_
  refine V.iload_n (pc := 683) C.1 dL_law_683 3 rfl ?_
  refine V.iconst (pc := 684) C.1 dL_law_684 (v := (3 : Int32)) (by decide) ?_
  refine V.iadd (pc := 685) C.1 dL_law_685 ?_
  refine V.sld (pc := 686) (n := i + 3) C (nI_add i 3) (by omega) dL_law_686 ?_
  refine V.callV0i (pc := 687) C.1 hyX9_put wl_1493 (mX9_put (r := r) K.2.1 E _ e2) rfl rfl rfl (oX9_put e2) ⟨Nat.le_of_ble_eq_true rfl, Nat.le_of_ble_eq_true rfl⟩ (Nat.le_of_ble_eq_true rfl) dL_law_687 ⟨by show _ ≤ 600000; omega, by show _ ≤ 7302250; omega⟩ rfl ?_
  refine V.icmp_eq (pc := 690) (t := 1070) C.1 dL_law_690 (by decide) (fun _ => ?_) (fun q => absurd rfl q)
  exact next _ _ _ _ _ _ _ P2 I2 (by omega) (by omega)
set_option maxHeartbeats 4000000 in
set_option maxRecDepth 100000 in
theorem law_15 {K : HK} {E : HE} {b L : Nat} {xs : Nat → Int32} (C : LC K E b L xs) {Inv : HS → Nat → Nat → Prop} {pot : HS → Nat → Nat} (stp : SA Inv pot (fun sz w x => FX8_heal sz w x) (fun w m => FX9_heal w m)) {i : Nat} (hi6 : i + 6 ≤ L) {cs sl sz : Nat} {g : PH} {w : HS} {ar : Nat → Nat → Nat} {c0 : Nat → Nat} {x m : Nat} (P : Rel ar c0 sz g w) (I : Inv w x m) (h1 : cs + 20 ≤ 600000) (h2 : sl + pot w x + 300 ≤ 7302250) (next : ∀ (cs1 sl1 sz1 : Nat) (g1 : PH) (w1 : HS) (ar1 : Nat → Nat → Nat) (c1 : Nat → Nat), Rel ar1 c1 sz1 g1 w1 → Inv w1 x m → cs1 ≤ cs + 20 → sl1 + pot w1 x ≤ sl + pot w x + 300 → V K E room_1 4 (LQ K b) cs1 sl1 sz1 g1 1070 [(0, .ref b), (1, .ref x), (2, .ref m), (3, .int (nI i))] []) : V K E room_1 4 (LQ K b) cs sl sz g 695 [(0, .ref b), (1, .ref x), (2, .ref m), (3, .int (nI i))] [] := by
  obtain ⟨r, w1, mc, ms, w2, f1, f2, I2, q1, q2⟩ := stp sz w x m I P.below
  obtain ⟨g1, ar1, c1, e1, P1, X1⟩ := rX8_heal P f1
  obtain ⟨g2, e2, P2⟩ := rX9_heal P1 f2
  refine V.aload_n (pc := 695) C.1 dL_law_695 1 rfl ?_
  refine V.callVi (pc := 696) C.1 hyX8_heal wl_848 (mX8_heal (r := r) (mc := mc) (ms := ms) K.2.1 E sz e1) rfl rfl rfl (oX8_heal e1) ⟨Nat.le_of_ble_eq_true rfl, Nat.le_of_ble_eq_true rfl⟩ (Nat.le_of_ble_eq_true rfl) dL_law_696 ⟨by show _ ≤ 600000; omega, by show _ ≤ 7302250; omega⟩ rfl ?_
  refine V.aload_n (pc := 699) C.1 dL_law_699 2 rfl ?_
  refine V.callV0i (pc := 700) C.1 hyX9_heal wl_1505 (mX9_heal (r := r) K.2.1 E _ e2) rfl rfl rfl (oX9_heal e2) ⟨Nat.le_of_ble_eq_true rfl, Nat.le_of_ble_eq_true rfl⟩ (Nat.le_of_ble_eq_true rfl) dL_law_700 ⟨by show _ ≤ 600000; omega, by show _ ≤ 7302250; omega⟩ rfl ?_
  refine V.icmp_eq (pc := 703) (t := 1070) C.1 dL_law_703 (by decide) (fun _ => ?_) (fun q => absurd rfl q)
  exact next _ _ _ _ _ _ _ P2 I2 (by omega) (by omega)
set_option maxHeartbeats 4000000 in
set_option maxRecDepth 100000 in
theorem law_16 {K : HK} {E : HE} {b L : Nat} {xs : Nat → Int32} (C : LC K E b L xs) {Inv : HS → Nat → Nat → Prop} {pot : HS → Nat → Nat} (stp : ∀ u0 : Int32, SA Inv pot (fun sz w x => FX8_tell sz w x u0) (fun w m => FX9_tell w m u0)) {i : Nat} (hi6 : i + 6 ≤ L) {cs sl sz : Nat} {g : PH} {w : HS} {ar : Nat → Nat → Nat} {c0 : Nat → Nat} {x m : Nat} (P : Rel ar c0 sz g w) (I : Inv w x m) (h1 : cs + 20 ≤ 600000) (h2 : sl + pot w x + 300 ≤ 7302250) (next : ∀ (cs1 sl1 sz1 : Nat) (g1 : PH) (w1 : HS) (ar1 : Nat → Nat → Nat) (c1 : Nat → Nat), Rel ar1 c1 sz1 g1 w1 → Inv w1 x m → cs1 ≤ cs + 20 → sl1 + pot w1 x ≤ sl + pot w x + 300 → V K E room_1 4 (LQ K b) cs1 sl1 sz1 g1 1070 [(0, .ref b), (1, .ref x), (2, .ref m), (3, .int (nI i))] []) : V K E room_1 4 (LQ K b) cs sl sz g 708 [(0, .ref b), (1, .ref x), (2, .ref m), (3, .int (nI i))] [] := by
  obtain ⟨r, w1, mc, ms, w2, f1, f2, I2, q1, q2⟩ := stp (xs (i + 1)) sz w x m I P.below
  obtain ⟨g1, ar1, c1, e1, P1, X1⟩ := rX8_tell P f1
  obtain ⟨g2, e2, P2⟩ := rX9_tell P1 f2
  refine V.aload_n (pc := 708) C.1 dL_law_708 1 rfl ?_
  refine V.aload_n (pc := 709) C.1 dL_law_709 0 rfl ?_
  refine V.iload_n (pc := 710) C.1 dL_law_710 3 rfl ?_
  refine V.iconst (pc := 711) C.1 dL_law_711 (v := (1 : Int32)) (by decide) ?_
  refine V.iadd (pc := 712) C.1 dL_law_712 ?_
  refine V.sld (pc := 713) (n := i + 1) C (nI_add i 1) (by omega) dL_law_713 ?_
  refine V.callVi (pc := 714) C.1 hyX8_tell wl_852 (mX8_tell (r := r) (mc := mc) (ms := ms) K.2.1 E sz e1) rfl rfl rfl (oX8_tell e1) ⟨Nat.le_of_ble_eq_true rfl, Nat.le_of_ble_eq_true rfl⟩ (Nat.le_of_ble_eq_true rfl) dL_law_714 ⟨by show _ ≤ 600000; omega, by show _ ≤ 7302250; omega⟩ rfl ?_
  refine V.aload_n (pc := 717) C.1 dL_law_717 2 rfl ?_
  refine V.aload_n (pc := 718) C.1 dL_law_718 0 rfl ?_
  refine V.iload_n (pc := 719) C.1 dL_law_719 3 rfl ?_
  refine V.iconst (pc := 720) C.1 dL_law_720 (v := (1 : Int32)) (by decide) ?_
  refine V.iadd (pc := 721) C.1 dL_law_721 ?_
  refine V.sld (pc := 722) (n := i + 1) C (nI_add i 1) (by omega) dL_law_722 ?_
  refine V.callV0i (pc := 723) C.1 hyX9_tell wl_1509 (mX9_tell (r := r) K.2.1 E _ e2) rfl rfl rfl (oX9_tell e2) ⟨Nat.le_of_ble_eq_true rfl, Nat.le_of_ble_eq_true rfl⟩ (Nat.le_of_ble_eq_true rfl) dL_law_723 ⟨by show _ ≤ 600000; omega, by show _ ≤ 7302250; omega⟩ rfl ?_
  refine V.icmp_eq (pc := 726) (t := 1070) C.1 dL_law_726 (by decide) (fun _ => ?_) (fun q => absurd rfl q)
  exact next _ _ _ _ _ _ _ P2 I2 (by omega) (by omega)
set_option maxHeartbeats 4000000 in
set_option maxRecDepth 100000 in
theorem law_17 {K : HK} {E : HE} {b L : Nat} {xs : Nat → Int32} (C : LC K E b L xs) {Inv : HS → Nat → Nat → Prop} {pot : HS → Nat → Nat} (stp : ∀ u0 u1 : Int32, SA Inv pot (fun sz w x => FX8_write sz w x u0 u1) (fun w m => FX9_write w m u0 u1)) {i : Nat} (hi6 : i + 6 ≤ L) {cs sl sz : Nat} {g : PH} {w : HS} {ar : Nat → Nat → Nat} {c0 : Nat → Nat} {x m : Nat} (P : Rel ar c0 sz g w) (I : Inv w x m) (h1 : cs + 20 ≤ 600000) (h2 : sl + pot w x + 300 ≤ 7302250) (next : ∀ (cs1 sl1 sz1 : Nat) (g1 : PH) (w1 : HS) (ar1 : Nat → Nat → Nat) (c1 : Nat → Nat), Rel ar1 c1 sz1 g1 w1 → Inv w1 x m → cs1 ≤ cs + 20 → sl1 + pot w1 x ≤ sl + pot w x + 300 → V K E room_1 4 (LQ K b) cs1 sl1 sz1 g1 1070 [(0, .ref b), (1, .ref x), (2, .ref m), (3, .int (nI i))] []) : V K E room_1 4 (LQ K b) cs sl sz g 731 [(0, .ref b), (1, .ref x), (2, .ref m), (3, .int (nI i))] [] := by
  obtain ⟨r, w1, mc, ms, w2, f1, f2, I2, q1, q2⟩ := stp (xs (i + 1)) (xs (i + 2)) sz w x m I P.below
  obtain ⟨g1, ar1, c1, e1, P1, X1⟩ := rX8_write P f1
  obtain ⟨g2, e2, P2⟩ := rX9_write P1 f2
  refine V.aload_n (pc := 731) C.1 dL_law_731 1 rfl ?_
  refine V.aload_n (pc := 732) C.1 dL_law_732 0 rfl ?_
  refine V.iload_n (pc := 733) C.1 dL_law_733 3 rfl ?_
  refine V.iconst (pc := 734) C.1 dL_law_734 (v := (1 : Int32)) (by decide) ?_
  refine V.iadd (pc := 735) C.1 dL_law_735 ?_
  refine V.sld (pc := 736) (n := i + 1) C (nI_add i 1) (by omega) dL_law_736 ?_
  refine V.aload_n (pc := 737) C.1 dL_law_737 0 rfl ?_
  refine V.iload_n (pc := 738) C.1 dL_law_738 3 rfl ?_
  refine V.iconst (pc := 739) C.1 dL_law_739 (v := (2 : Int32)) (by decide) ?_
  refine V.iadd (pc := 740) C.1 dL_law_740 ?_
  refine V.sld (pc := 741) (n := i + 2) C (nI_add i 2) (by omega) dL_law_741 ?_
  refine V.callVi (pc := 742) C.1 hyX8_write wl_857 (mX8_write (r := r) (mc := mc) (ms := ms) K.2.1 E sz e1) rfl rfl rfl (oX8_write e1) ⟨Nat.le_of_ble_eq_true rfl, Nat.le_of_ble_eq_true rfl⟩ (Nat.le_of_ble_eq_true rfl) dL_law_742 ⟨by show _ ≤ 600000; omega, by show _ ≤ 7302250; omega⟩ rfl ?_
  refine V.aload_n (pc := 745) C.1 dL_law_745 2 rfl ?_
  refine V.aload_n (pc := 746) C.1 dL_law_746 0 rfl ?_
  refine V.iload_n (pc := 747) C.1 dL_law_747 3 rfl ?_
  refine V.iconst (pc := 748) C.1 dL_law_748 (v := (1 : Int32)) (by decide) ?_
  refine V.iadd (pc := 749) C.1 dL_law_749 ?_
  refine V.sld (pc := 750) (n := i + 1) C (nI_add i 1) (by omega) dL_law_750 ?_
  refine V.aload_n (pc := 751) C.1 dL_law_751 0 rfl ?_
  refine V.iload_n (pc := 752) C.1 dL_law_752 3 rfl ?_
  refine V.iconst (pc := 753) C.1 dL_law_753 (v := (2 : Int32)) (by decide) ?_
  refine V.iadd (pc := 754) C.1 dL_law_754 ?_
  refine V.sld (pc := 755) (n := i + 2) C (nI_add i 2) (by omega) dL_law_755 ?_
  refine V.callV0i (pc := 756) C.1 hyX9_write wl_1513 (mX9_write (r := r) K.2.1 E _ e2) rfl rfl rfl (oX9_write e2) ⟨Nat.le_of_ble_eq_true rfl, Nat.le_of_ble_eq_true rfl⟩ (Nat.le_of_ble_eq_true rfl) dL_law_756 ⟨by show _ ≤ 600000; omega, by show _ ≤ 7302250; omega⟩ rfl ?_
  refine V.icmp_eq (pc := 759) (t := 1070) C.1 dL_law_759 (by decide) (fun _ => ?_) (fun q => absurd rfl q)
  exact next _ _ _ _ _ _ _ P2 I2 (by omega) (by omega)
set_option maxHeartbeats 4000000 in
set_option maxRecDepth 100000 in
theorem law_18 {K : HK} {E : HE} {b L : Nat} {xs : Nat → Int32} (C : LC K E b L xs) {Inv : HS → Nat → Nat → Prop} {pot : HS → Nat → Nat} (stp : ∀ u0 : Int32, SA Inv pot (fun sz w x => FX8_read sz w x u0) (fun w m => FX9_read w m u0)) {i : Nat} (hi6 : i + 6 ≤ L) {cs sl sz : Nat} {g : PH} {w : HS} {ar : Nat → Nat → Nat} {c0 : Nat → Nat} {x m : Nat} (P : Rel ar c0 sz g w) (I : Inv w x m) (h1 : cs + 20 ≤ 600000) (h2 : sl + pot w x + 300 ≤ 7302250) (next : ∀ (cs1 sl1 sz1 : Nat) (g1 : PH) (w1 : HS) (ar1 : Nat → Nat → Nat) (c1 : Nat → Nat), Rel ar1 c1 sz1 g1 w1 → Inv w1 x m → cs1 ≤ cs + 20 → sl1 + pot w1 x ≤ sl + pot w x + 300 → V K E room_1 4 (LQ K b) cs1 sl1 sz1 g1 1070 [(0, .ref b), (1, .ref x), (2, .ref m), (3, .int (nI i))] []) : V K E room_1 4 (LQ K b) cs sl sz g 764 [(0, .ref b), (1, .ref x), (2, .ref m), (3, .int (nI i))] [] := by
  obtain ⟨r, w1, mc, ms, w2, f1, f2, I2, q1, q2⟩ := stp (xs (i + 1)) sz w x m I P.below
  obtain ⟨g1, ar1, c1, e1, P1, X1⟩ := rX8_read P f1
  obtain ⟨g2, e2, P2⟩ := rX9_read P1 f2
  refine V.aload_n (pc := 764) C.1 dL_law_764 1 rfl ?_
  refine V.aload_n (pc := 765) C.1 dL_law_765 0 rfl ?_
  refine V.iload_n (pc := 766) C.1 dL_law_766 3 rfl ?_
  refine V.iconst (pc := 767) C.1 dL_law_767 (v := (1 : Int32)) (by decide) ?_
  refine V.iadd (pc := 768) C.1 dL_law_768 ?_
  refine V.sld (pc := 769) (n := i + 1) C (nI_add i 1) (by omega) dL_law_769 ?_
  refine V.callVi (pc := 770) C.1 hyX8_read wl_870 (mX8_read (r := r) (mc := mc) (ms := ms) K.2.1 E sz e1) rfl rfl rfl (oX8_read e1) ⟨Nat.le_of_ble_eq_true rfl, Nat.le_of_ble_eq_true rfl⟩ (Nat.le_of_ble_eq_true rfl) dL_law_770 ⟨by show _ ≤ 600000; omega, by show _ ≤ 7302250; omega⟩ rfl ?_
  refine V.aload_n (pc := 773) C.1 dL_law_773 2 rfl ?_
  refine V.aload_n (pc := 774) C.1 dL_law_774 0 rfl ?_
  refine V.iload_n (pc := 775) C.1 dL_law_775 3 rfl ?_
  refine V.iconst (pc := 776) C.1 dL_law_776 (v := (1 : Int32)) (by decide) ?_
  refine V.iadd (pc := 777) C.1 dL_law_777 ?_
  refine V.sld (pc := 778) (n := i + 1) C (nI_add i 1) (by omega) dL_law_778 ?_
  refine V.callV0i (pc := 779) C.1 hyX9_read wl_1517 (mX9_read (r := r) K.2.1 E _ e2) rfl rfl rfl (oX9_read e2) ⟨Nat.le_of_ble_eq_true rfl, Nat.le_of_ble_eq_true rfl⟩ (Nat.le_of_ble_eq_true rfl) dL_law_779 ⟨by show _ ≤ 600000; omega, by show _ ≤ 7302250; omega⟩ rfl ?_
  refine V.icmp_eq (pc := 782) (t := 1070) C.1 dL_law_782 (by decide) (fun _ => ?_) (fun q => absurd rfl q)
  exact next _ _ _ _ _ _ _ P2 I2 (by omega) (by omega)
set_option maxHeartbeats 4000000 in
set_option maxRecDepth 100000 in
theorem law_19 {K : HK} {E : HE} {b L : Nat} {xs : Nat → Int32} (C : LC K E b L xs) {Inv : HS → Nat → Nat → Prop} {pot : HS → Nat → Nat} (stp : ∀ u0 u1 : Int32, SA Inv pot (fun sz w x => FX8_run sz w x u0 u1) (fun w m => FX9_run w m u0 u1)) {i : Nat} (hi6 : i + 6 ≤ L) {cs sl sz : Nat} {g : PH} {w : HS} {ar : Nat → Nat → Nat} {c0 : Nat → Nat} {x m : Nat} (P : Rel ar c0 sz g w) (I : Inv w x m) (h1 : cs + 20 ≤ 600000) (h2 : sl + pot w x + 300 ≤ 7302250) (next : ∀ (cs1 sl1 sz1 : Nat) (g1 : PH) (w1 : HS) (ar1 : Nat → Nat → Nat) (c1 : Nat → Nat), Rel ar1 c1 sz1 g1 w1 → Inv w1 x m → cs1 ≤ cs + 20 → sl1 + pot w1 x ≤ sl + pot w x + 300 → V K E room_1 4 (LQ K b) cs1 sl1 sz1 g1 1070 [(0, .ref b), (1, .ref x), (2, .ref m), (3, .int (nI i))] []) : V K E room_1 4 (LQ K b) cs sl sz g 787 [(0, .ref b), (1, .ref x), (2, .ref m), (3, .int (nI i))] [] := by
  obtain ⟨r, w1, mc, ms, w2, f1, f2, I2, q1, q2⟩ := stp (xs (i + 1)) (xs (i + 2)) sz w x m I P.below
  obtain ⟨g1, ar1, c1, e1, P1, X1⟩ := rX8_run P f1
  obtain ⟨g2, e2, P2⟩ := rX9_run P1 f2
  refine V.aload_n (pc := 787) C.1 dL_law_787 1 rfl ?_
  refine V.aload_n (pc := 788) C.1 dL_law_788 0 rfl ?_
  refine V.iload_n (pc := 789) C.1 dL_law_789 3 rfl ?_
  refine V.iconst (pc := 790) C.1 dL_law_790 (v := (1 : Int32)) (by decide) ?_
  refine V.iadd (pc := 791) C.1 dL_law_791 ?_
  refine V.sld (pc := 792) (n := i + 1) C (nI_add i 1) (by omega) dL_law_792 ?_
  refine V.aload_n (pc := 793) C.1 dL_law_793 0 rfl ?_
  refine V.iload_n (pc := 794) C.1 dL_law_794 3 rfl ?_
  refine V.iconst (pc := 795) C.1 dL_law_795 (v := (2 : Int32)) (by decide) ?_
  refine V.iadd (pc := 796) C.1 dL_law_796 ?_
  refine V.sld (pc := 797) (n := i + 2) C (nI_add i 2) (by omega) dL_law_797 ?_
  refine V.callVi (pc := 798) C.1 hyX8_run wl_874 (mX8_run (r := r) (mc := mc) (ms := ms) K.2.1 E sz e1) rfl rfl rfl (oX8_run e1) ⟨Nat.le_of_ble_eq_true rfl, Nat.le_of_ble_eq_true rfl⟩ (Nat.le_of_ble_eq_true rfl) dL_law_798 ⟨by show _ ≤ 600000; omega, by show _ ≤ 7302250; omega⟩ rfl ?_
  refine V.aload_n (pc := 801) C.1 dL_law_801 2 rfl ?_
  refine V.aload_n (pc := 802) C.1 dL_law_802 0 rfl ?_
  refine V.iload_n (pc := 803) C.1 dL_law_803 3 rfl ?_
  refine V.iconst (pc := 804) C.1 dL_law_804 (v := (1 : Int32)) (by decide) ?_
  refine V.iadd (pc := 805) C.1 dL_law_805 ?_
  refine V.sld (pc := 806) (n := i + 1) C (nI_add i 1) (by omega) dL_law_806 ?_
  refine V.aload_n (pc := 807) C.1 dL_law_807 0 rfl ?_
  refine V.iload_n (pc := 808) C.1 dL_law_808 3 rfl ?_
  refine V.iconst (pc := 809) C.1 dL_law_809 (v := (2 : Int32)) (by decide) ?_
  refine V.iadd (pc := 810) C.1 dL_law_810 ?_
  refine V.sld (pc := 811) (n := i + 2) C (nI_add i 2) (by omega) dL_law_811 ?_
  refine V.callV0i (pc := 812) C.1 hyX9_run wl_1521 (mX9_run (r := r) K.2.1 E _ e2) rfl rfl rfl (oX9_run e2) ⟨Nat.le_of_ble_eq_true rfl, Nat.le_of_ble_eq_true rfl⟩ (Nat.le_of_ble_eq_true rfl) dL_law_812 ⟨by show _ ≤ 600000; omega, by show _ ≤ 7302250; omega⟩ rfl ?_
  refine V.icmp_eq (pc := 815) (t := 1070) C.1 dL_law_815 (by decide) (fun _ => ?_) (fun q => absurd rfl q)
  exact next _ _ _ _ _ _ _ P2 I2 (by omega) (by omega)
set_option maxHeartbeats 4000000 in
set_option maxRecDepth 100000 in
theorem law_20 {K : HK} {E : HE} {b L : Nat} {xs : Nat → Int32} (C : LC K E b L xs) {Inv : HS → Nat → Nat → Prop} {pot : HS → Nat → Nat} (stp : ∀ u0 u1 : Int32, SA Inv pot (fun sz w x => FX8_layout sz w x u0 u1) (fun w m => FX9_layout w m u0 u1)) {i : Nat} (hi6 : i + 6 ≤ L) {cs sl sz : Nat} {g : PH} {w : HS} {ar : Nat → Nat → Nat} {c0 : Nat → Nat} {x m : Nat} (P : Rel ar c0 sz g w) (I : Inv w x m) (h1 : cs + 20 ≤ 600000) (h2 : sl + pot w x + 300 ≤ 7302250) (next : ∀ (cs1 sl1 sz1 : Nat) (g1 : PH) (w1 : HS) (ar1 : Nat → Nat → Nat) (c1 : Nat → Nat), Rel ar1 c1 sz1 g1 w1 → Inv w1 x m → cs1 ≤ cs + 20 → sl1 + pot w1 x ≤ sl + pot w x + 300 → V K E room_1 4 (LQ K b) cs1 sl1 sz1 g1 1070 [(0, .ref b), (1, .ref x), (2, .ref m), (3, .int (nI i))] []) : V K E room_1 4 (LQ K b) cs sl sz g 820 [(0, .ref b), (1, .ref x), (2, .ref m), (3, .int (nI i))] [] := by
  obtain ⟨r, w1, mc, ms, w2, f1, f2, I2, q1, q2⟩ := stp (xs (i + 1)) (xs (i + 2)) sz w x m I P.below
  obtain ⟨g1, ar1, c1, e1, P1, X1⟩ := rX8_layout P f1
  obtain ⟨g2, e2, P2⟩ := rX9_layout P1 f2
  refine V.aload_n (pc := 820) C.1 dL_law_820 1 rfl ?_
  refine V.aload_n (pc := 821) C.1 dL_law_821 0 rfl ?_
  refine V.iload_n (pc := 822) C.1 dL_law_822 3 rfl ?_
  refine V.iconst (pc := 823) C.1 dL_law_823 (v := (1 : Int32)) (by decide) ?_
  refine V.iadd (pc := 824) C.1 dL_law_824 ?_
  refine V.sld (pc := 825) (n := i + 1) C (nI_add i 1) (by omega) dL_law_825 ?_
  refine V.aload_n (pc := 826) C.1 dL_law_826 0 rfl ?_
  refine V.iload_n (pc := 827) C.1 dL_law_827 3 rfl ?_
  refine V.iconst (pc := 828) C.1 dL_law_828 (v := (2 : Int32)) (by decide) ?_
  refine V.iadd (pc := 829) C.1 dL_law_829 ?_
  refine V.sld (pc := 830) (n := i + 2) C (nI_add i 2) (by omega) dL_law_830 ?_
  refine V.callVi (pc := 831) C.1 hyX8_layout wl_895 (mX8_layout (r := r) (mc := mc) (ms := ms) K.2.1 E sz e1) rfl rfl rfl (oX8_layout e1) ⟨Nat.le_of_ble_eq_true rfl, Nat.le_of_ble_eq_true rfl⟩ (Nat.le_of_ble_eq_true rfl) dL_law_831 ⟨by show _ ≤ 600000; omega, by show _ ≤ 7302250; omega⟩ rfl ?_
  refine V.aload_n (pc := 834) C.1 dL_law_834 2 rfl ?_
  refine V.aload_n (pc := 835) C.1 dL_law_835 0 rfl ?_
  refine V.iload_n (pc := 836) C.1 dL_law_836 3 rfl ?_
  refine V.iconst (pc := 837) C.1 dL_law_837 (v := (1 : Int32)) (by decide) ?_
  refine V.iadd (pc := 838) C.1 dL_law_838 ?_
  refine V.sld (pc := 839) (n := i + 1) C (nI_add i 1) (by omega) dL_law_839 ?_
  refine V.aload_n (pc := 840) C.1 dL_law_840 0 rfl ?_
  refine V.iload_n (pc := 841) C.1 dL_law_841 3 rfl ?_
  refine V.iconst (pc := 842) C.1 dL_law_842 (v := (2 : Int32)) (by decide) ?_
  refine V.iadd (pc := 843) C.1 dL_law_843 ?_
  refine V.sld (pc := 844) (n := i + 2) C (nI_add i 2) (by omega) dL_law_844 ?_
  refine V.callV0i (pc := 845) C.1 hyX9_layout wl_1525 (mX9_layout (r := r) K.2.1 E _ e2) rfl rfl rfl (oX9_layout e2) ⟨Nat.le_of_ble_eq_true rfl, Nat.le_of_ble_eq_true rfl⟩ (Nat.le_of_ble_eq_true rfl) dL_law_845 ⟨by show _ ≤ 600000; omega, by show _ ≤ 7302250; omega⟩ rfl ?_
  refine V.icmp_eq (pc := 848) (t := 1070) C.1 dL_law_848 (by decide) (fun _ => ?_) (fun q => absurd rfl q)
  exact next _ _ _ _ _ _ _ P2 I2 (by omega) (by omega)
set_option maxHeartbeats 4000000 in
set_option maxRecDepth 100000 in
theorem law_21 {K : HK} {E : HE} {b L : Nat} {xs : Nat → Int32} (C : LC K E b L xs) {Inv : HS → Nat → Nat → Prop} {pot : HS → Nat → Nat} (stp : SN Inv pot (fun w x => FX8_undo w x) (fun w m => FX9_undo w m)) {i : Nat} (hi6 : i + 6 ≤ L) {cs sl sz : Nat} {g : PH} {w : HS} {ar : Nat → Nat → Nat} {c0 : Nat → Nat} {x m : Nat} (P : Rel ar c0 sz g w) (I : Inv w x m) (h1 : cs + 20 ≤ 600000) (h2 : sl + pot w x + 300 ≤ 7302250) (next : ∀ (cs1 sl1 sz1 : Nat) (g1 : PH) (w1 : HS) (ar1 : Nat → Nat → Nat) (c1 : Nat → Nat), Rel ar1 c1 sz1 g1 w1 → Inv w1 x m → cs1 ≤ cs + 20 → sl1 + pot w1 x ≤ sl + pot w x + 300 → V K E room_1 4 (LQ K b) cs1 sl1 sz1 g1 1070 [(0, .ref b), (1, .ref x), (2, .ref m), (3, .int (nI i))] []) : V K E room_1 4 (LQ K b) cs sl sz g 853 [(0, .ref b), (1, .ref x), (2, .ref m), (3, .int (nI i))] [] := by
  obtain ⟨r, w1, w2, f1, f2, I2, q2⟩ := stp w x m I
  obtain ⟨g1, e1, P1⟩ := rX8_undo P f1
  obtain ⟨g2, e2, P2⟩ := rX9_undo P1 f2
  refine V.aload_n (pc := 853) C.1 dL_law_853 1 rfl ?_
  refine V.callV0i (pc := 854) C.1 hyX8_undo wl_905 (mX8_undo (r := r) K.2.1 E sz e1) rfl rfl rfl (oX8_undo e1) ⟨Nat.le_of_ble_eq_true rfl, Nat.le_of_ble_eq_true rfl⟩ (Nat.le_of_ble_eq_true rfl) dL_law_854 ⟨by show _ ≤ 600000; omega, by show _ ≤ 7302250; omega⟩ rfl ?_
  refine V.aload_n (pc := 857) C.1 dL_law_857 2 rfl ?_
  refine V.callV0i (pc := 858) C.1 hyX9_undo wl_1489 (mX9_undo (r := r) K.2.1 E _ e2) rfl rfl rfl (oX9_undo e2) ⟨Nat.le_of_ble_eq_true rfl, Nat.le_of_ble_eq_true rfl⟩ (Nat.le_of_ble_eq_true rfl) dL_law_858 ⟨by show _ ≤ 600000; omega, by show _ ≤ 7302250; omega⟩ rfl ?_
  refine V.icmp_eq (pc := 861) (t := 1070) C.1 dL_law_861 (by decide) (fun _ => ?_) (fun q => absurd rfl q)
  exact next _ _ _ _ _ _ _ P2 I2 (by omega) (by omega)
set_option maxHeartbeats 4000000 in
set_option maxRecDepth 100000 in
theorem law_22 {K : HK} {E : HE} {b L : Nat} {xs : Nat → Int32} (C : LC K E b L xs) {Inv : HS → Nat → Nat → Prop} {pot : HS → Nat → Nat} (stp : ∀ u0 u1 : Int32, SN Inv pot (fun w x => FX8_cell w x u0 u1) (fun w m => FX9_cell w m u0 u1)) {i : Nat} (hi6 : i + 6 ≤ L) {cs sl sz : Nat} {g : PH} {w : HS} {ar : Nat → Nat → Nat} {c0 : Nat → Nat} {x m : Nat} (P : Rel ar c0 sz g w) (I : Inv w x m) (h1 : cs + 20 ≤ 600000) (h2 : sl + pot w x + 300 ≤ 7302250) (next : ∀ (cs1 sl1 sz1 : Nat) (g1 : PH) (w1 : HS) (ar1 : Nat → Nat → Nat) (c1 : Nat → Nat), Rel ar1 c1 sz1 g1 w1 → Inv w1 x m → cs1 ≤ cs + 20 → sl1 + pot w1 x ≤ sl + pot w x + 300 → V K E room_1 4 (LQ K b) cs1 sl1 sz1 g1 1070 [(0, .ref b), (1, .ref x), (2, .ref m), (3, .int (nI i))] []) : V K E room_1 4 (LQ K b) cs sl sz g 866 [(0, .ref b), (1, .ref x), (2, .ref m), (3, .int (nI i))] [] := by
  obtain ⟨r, w1, w2, f1, f2, I2, q2⟩ := stp (xs (i + 1)) (xs (i + 2)) w x m I
  obtain ⟨g1, e1, P1⟩ := rX8_cell P f1
  obtain ⟨g2, e2, P2⟩ := rX9_cell P1 f2
  refine V.aload_n (pc := 866) C.1 dL_law_866 1 rfl ?_
  refine V.aload_n (pc := 867) C.1 dL_law_867 0 rfl ?_
  refine V.iload_n (pc := 868) C.1 dL_law_868 3 rfl ?_
  refine V.iconst (pc := 869) C.1 dL_law_869 (v := (1 : Int32)) (by decide) ?_
  refine V.iadd (pc := 870) C.1 dL_law_870 ?_
  refine V.sld (pc := 871) (n := i + 1) C (nI_add i 1) (by omega) dL_law_871 ?_
  refine V.aload_n (pc := 872) C.1 dL_law_872 0 rfl ?_
  refine V.iload_n (pc := 873) C.1 dL_law_873 3 rfl ?_
  refine V.iconst (pc := 874) C.1 dL_law_874 (v := (2 : Int32)) (by decide) ?_
  refine V.iadd (pc := 875) C.1 dL_law_875 ?_
  refine V.sld (pc := 876) (n := i + 2) C (nI_add i 2) (by omega) dL_law_876 ?_
  refine V.callV0i (pc := 877) C.1 hyX8_cell wl_913 (mX8_cell (r := r) K.2.1 E sz e1) rfl rfl rfl (oX8_cell e1) ⟨Nat.le_of_ble_eq_true rfl, Nat.le_of_ble_eq_true rfl⟩ (Nat.le_of_ble_eq_true rfl) dL_law_877 ⟨by show _ ≤ 600000; omega, by show _ ≤ 7302250; omega⟩ rfl ?_
  refine V.aload_n (pc := 880) C.1 dL_law_880 2 rfl ?_
  refine V.aload_n (pc := 881) C.1 dL_law_881 0 rfl ?_
  refine V.iload_n (pc := 882) C.1 dL_law_882 3 rfl ?_
  refine V.iconst (pc := 883) C.1 dL_law_883 (v := (1 : Int32)) (by decide) ?_
  refine V.iadd (pc := 884) C.1 dL_law_884 ?_
  refine V.sld (pc := 885) (n := i + 1) C (nI_add i 1) (by omega) dL_law_885 ?_
  refine V.aload_n (pc := 886) C.1 dL_law_886 0 rfl ?_
  refine V.iload_n (pc := 887) C.1 dL_law_887 3 rfl ?_
  refine V.iconst (pc := 888) C.1 dL_law_888 (v := (2 : Int32)) (by decide) ?_
  refine V.iadd (pc := 889) C.1 dL_law_889 ?_
  refine V.sld (pc := 890) (n := i + 2) C (nI_add i 2) (by omega) dL_law_890 ?_
  refine V.callV0i (pc := 891) C.1 hyX9_cell wl_1529 (mX9_cell (r := r) K.2.1 E _ e2) rfl rfl rfl (oX9_cell e2) ⟨Nat.le_of_ble_eq_true rfl, Nat.le_of_ble_eq_true rfl⟩ (Nat.le_of_ble_eq_true rfl) dL_law_891 ⟨by show _ ≤ 600000; omega, by show _ ≤ 7302250; omega⟩ rfl ?_
  refine V.icmp_eq (pc := 894) (t := 1070) C.1 dL_law_894 (by decide) (fun _ => ?_) (fun q => absurd rfl q)
  exact next _ _ _ _ _ _ _ P2 I2 (by omega) (by omega)
set_option maxHeartbeats 4000000 in
set_option maxRecDepth 100000 in
theorem law_23 {K : HK} {E : HE} {b L : Nat} {xs : Nat → Int32} (C : LC K E b L xs) {Inv : HS → Nat → Nat → Prop} {pot : HS → Nat → Nat} (stp : ∀ u0 u1 : Int32, SN Inv pot (fun w x => FX8_log w x u0 u1) (fun w m => FX9_log w m u0 u1)) {i : Nat} (hi6 : i + 6 ≤ L) {cs sl sz : Nat} {g : PH} {w : HS} {ar : Nat → Nat → Nat} {c0 : Nat → Nat} {x m : Nat} (P : Rel ar c0 sz g w) (I : Inv w x m) (h1 : cs + 20 ≤ 600000) (h2 : sl + pot w x + 300 ≤ 7302250) (next : ∀ (cs1 sl1 sz1 : Nat) (g1 : PH) (w1 : HS) (ar1 : Nat → Nat → Nat) (c1 : Nat → Nat), Rel ar1 c1 sz1 g1 w1 → Inv w1 x m → cs1 ≤ cs + 20 → sl1 + pot w1 x ≤ sl + pot w x + 300 → V K E room_1 4 (LQ K b) cs1 sl1 sz1 g1 1070 [(0, .ref b), (1, .ref x), (2, .ref m), (3, .int (nI i))] []) : V K E room_1 4 (LQ K b) cs sl sz g 899 [(0, .ref b), (1, .ref x), (2, .ref m), (3, .int (nI i))] [] := by
  obtain ⟨r, w1, w2, f1, f2, I2, q2⟩ := stp (xs (i + 1)) (xs (i + 2)) w x m I
  obtain ⟨g1, e1, P1⟩ := rX8_log P f1
  obtain ⟨g2, e2, P2⟩ := rX9_log P1 f2
  refine V.aload_n (pc := 899) C.1 dL_law_899 1 rfl ?_
  refine V.aload_n (pc := 900) C.1 dL_law_900 0 rfl ?_
  refine V.iload_n (pc := 901) C.1 dL_law_901 3 rfl ?_
  refine V.iconst (pc := 902) C.1 dL_law_902 (v := (1 : Int32)) (by decide) ?_
  refine V.iadd (pc := 903) C.1 dL_law_903 ?_
  refine V.sld (pc := 904) (n := i + 1) C (nI_add i 1) (by omega) dL_law_904 ?_
  refine V.aload_n (pc := 905) C.1 dL_law_905 0 rfl ?_
  refine V.iload_n (pc := 906) C.1 dL_law_906 3 rfl ?_
  refine V.iconst (pc := 907) C.1 dL_law_907 (v := (2 : Int32)) (by decide) ?_
  refine V.iadd (pc := 908) C.1 dL_law_908 ?_
  refine V.sld (pc := 909) (n := i + 2) C (nI_add i 2) (by omega) dL_law_909 ?_
  refine V.callV0i (pc := 910) C.1 hyX8_log wl_917 (mX8_log (r := r) K.2.1 E sz e1) rfl rfl rfl (oX8_log e1) ⟨Nat.le_of_ble_eq_true rfl, Nat.le_of_ble_eq_true rfl⟩ (Nat.le_of_ble_eq_true rfl) dL_law_910 ⟨by show _ ≤ 600000; omega, by show _ ≤ 7302250; omega⟩ rfl ?_
  refine V.aload_n (pc := 913) C.1 dL_law_913 2 rfl ?_
  refine V.aload_n (pc := 914) C.1 dL_law_914 0 rfl ?_
  refine V.iload_n (pc := 915) C.1 dL_law_915 3 rfl ?_
  refine V.iconst (pc := 916) C.1 dL_law_916 (v := (1 : Int32)) (by decide) ?_
  refine V.iadd (pc := 917) C.1 dL_law_917 ?_
  refine V.sld (pc := 918) (n := i + 1) C (nI_add i 1) (by omega) dL_law_918 ?_
  refine V.aload_n (pc := 919) C.1 dL_law_919 0 rfl ?_
  refine V.iload_n (pc := 920) C.1 dL_law_920 3 rfl ?_
  refine V.iconst (pc := 921) C.1 dL_law_921 (v := (2 : Int32)) (by decide) ?_
  refine V.iadd (pc := 922) C.1 dL_law_922 ?_
  refine V.sld (pc := 923) (n := i + 2) C (nI_add i 2) (by omega) dL_law_923 ?_
  refine V.callV0i (pc := 924) C.1 hyX9_log wl_1533 (mX9_log (r := r) K.2.1 E _ e2) rfl rfl rfl (oX9_log e2) ⟨Nat.le_of_ble_eq_true rfl, Nat.le_of_ble_eq_true rfl⟩ (Nat.le_of_ble_eq_true rfl) dL_law_924 ⟨by show _ ≤ 600000; omega, by show _ ≤ 7302250; omega⟩ rfl ?_
  refine V.icmp_eq (pc := 927) (t := 1070) C.1 dL_law_927 (by decide) (fun _ => ?_) (fun q => absurd rfl q)
  exact next _ _ _ _ _ _ _ P2 I2 (by omega) (by omega)
set_option maxHeartbeats 4000000 in
set_option maxRecDepth 100000 in
theorem law_24 {K : HK} {E : HE} {b L : Nat} {xs : Nat → Int32} (C : LC K E b L xs) {Inv : HS → Nat → Nat → Prop} {pot : HS → Nat → Nat} (stp : ∀ u0 : Int32, SA Inv pot (fun sz w x => FX8_fits sz w x u0) (fun w m => FX9_fits w m u0)) {i : Nat} (hi6 : i + 6 ≤ L) {cs sl sz : Nat} {g : PH} {w : HS} {ar : Nat → Nat → Nat} {c0 : Nat → Nat} {x m : Nat} (P : Rel ar c0 sz g w) (I : Inv w x m) (h1 : cs + 20 ≤ 600000) (h2 : sl + pot w x + 300 ≤ 7302250) (next : ∀ (cs1 sl1 sz1 : Nat) (g1 : PH) (w1 : HS) (ar1 : Nat → Nat → Nat) (c1 : Nat → Nat), Rel ar1 c1 sz1 g1 w1 → Inv w1 x m → cs1 ≤ cs + 20 → sl1 + pot w1 x ≤ sl + pot w x + 300 → V K E room_1 4 (LQ K b) cs1 sl1 sz1 g1 1070 [(0, .ref b), (1, .ref x), (2, .ref m), (3, .int (nI i))] []) : V K E room_1 4 (LQ K b) cs sl sz g 932 [(0, .ref b), (1, .ref x), (2, .ref m), (3, .int (nI i))] [] := by
  obtain ⟨r, w1, mc, ms, w2, f1, f2, I2, q1, q2⟩ := stp (xs (i + 1)) sz w x m I P.below
  obtain ⟨g1, ar1, c1, e1, P1, X1⟩ := rX8_fits P f1
  obtain ⟨g2, e2, P2⟩ := rX9_fits P1 f2
  refine V.aload_n (pc := 932) C.1 dL_law_932 1 rfl ?_
  refine V.aload_n (pc := 933) C.1 dL_law_933 0 rfl ?_
  refine V.iload_n (pc := 934) C.1 dL_law_934 3 rfl ?_
  refine V.iconst (pc := 935) C.1 dL_law_935 (v := (1 : Int32)) (by decide) ?_
  refine V.iadd (pc := 936) C.1 dL_law_936 ?_
  refine V.sld (pc := 937) (n := i + 1) C (nI_add i 1) (by omega) dL_law_937 ?_
  refine V.callVi (pc := 938) C.1 hyX8_fits wl_929 (mX8_fits (r := r) (mc := mc) (ms := ms) K.2.1 E sz e1) rfl rfl rfl (oX8_fits e1) ⟨Nat.le_of_ble_eq_true rfl, Nat.le_of_ble_eq_true rfl⟩ (Nat.le_of_ble_eq_true rfl) dL_law_938 ⟨by show _ ≤ 600000; omega, by show _ ≤ 7302250; omega⟩ rfl ?_
  refine V.aload_n (pc := 941) C.1 dL_law_941 2 rfl ?_
  refine V.aload_n (pc := 942) C.1 dL_law_942 0 rfl ?_
  refine V.iload_n (pc := 943) C.1 dL_law_943 3 rfl ?_
  refine V.iconst (pc := 944) C.1 dL_law_944 (v := (1 : Int32)) (by decide) ?_
  refine V.iadd (pc := 945) C.1 dL_law_945 ?_
  refine V.sld (pc := 946) (n := i + 1) C (nI_add i 1) (by omega) dL_law_946 ?_
  refine V.callV0i (pc := 947) C.1 hyX9_fits wl_1537 (mX9_fits (r := r) K.2.1 E _ e2) rfl rfl rfl (oX9_fits e2) ⟨Nat.le_of_ble_eq_true rfl, Nat.le_of_ble_eq_true rfl⟩ (Nat.le_of_ble_eq_true rfl) dL_law_947 ⟨by show _ ≤ 600000; omega, by show _ ≤ 7302250; omega⟩ rfl ?_
  refine V.icmp_eq (pc := 950) (t := 1070) C.1 dL_law_950 (by decide) (fun _ => ?_) (fun q => absurd rfl q)
  exact next _ _ _ _ _ _ _ P2 I2 (by omega) (by omega)
set_option maxHeartbeats 4000000 in
set_option maxRecDepth 100000 in
theorem law_25 {K : HK} {E : HE} {b L : Nat} {xs : Nat → Int32} (C : LC K E b L xs) {Inv : HS → Nat → Nat → Prop} {pot : HS → Nat → Nat} (stp : ∀ u0 : Int32, SA Inv pot (fun sz w x => FX8_parts sz w x u0) (fun w m => FX9_parts w m u0)) {i : Nat} (hi6 : i + 6 ≤ L) {cs sl sz : Nat} {g : PH} {w : HS} {ar : Nat → Nat → Nat} {c0 : Nat → Nat} {x m : Nat} (P : Rel ar c0 sz g w) (I : Inv w x m) (h1 : cs + 20 ≤ 600000) (h2 : sl + pot w x + 300 ≤ 7302250) (next : ∀ (cs1 sl1 sz1 : Nat) (g1 : PH) (w1 : HS) (ar1 : Nat → Nat → Nat) (c1 : Nat → Nat), Rel ar1 c1 sz1 g1 w1 → Inv w1 x m → cs1 ≤ cs + 20 → sl1 + pot w1 x ≤ sl + pot w x + 300 → V K E room_1 4 (LQ K b) cs1 sl1 sz1 g1 1070 [(0, .ref b), (1, .ref x), (2, .ref m), (3, .int (nI i))] []) : V K E room_1 4 (LQ K b) cs sl sz g 955 [(0, .ref b), (1, .ref x), (2, .ref m), (3, .int (nI i))] [] := by
  obtain ⟨r, w1, mc, ms, w2, f1, f2, I2, q1, q2⟩ := stp (xs (i + 1)) sz w x m I P.below
  obtain ⟨g1, ar1, c1, e1, P1, X1⟩ := rX8_parts P f1
  obtain ⟨g2, e2, P2⟩ := rX9_parts P1 f2
  refine V.aload_n (pc := 955) C.1 dL_law_955 1 rfl ?_
  refine V.aload_n (pc := 956) C.1 dL_law_956 0 rfl ?_
  refine V.iload_n (pc := 957) C.1 dL_law_957 3 rfl ?_
  refine V.iconst (pc := 958) C.1 dL_law_958 (v := (1 : Int32)) (by decide) ?_
  refine V.iadd (pc := 959) C.1 dL_law_959 ?_
  refine V.sld (pc := 960) (n := i + 1) C (nI_add i 1) (by omega) dL_law_960 ?_
  refine V.callVi (pc := 961) C.1 hyX8_parts wl_993 (mX8_parts (r := r) (mc := mc) (ms := ms) K.2.1 E sz e1) rfl rfl rfl (oX8_parts e1) ⟨Nat.le_of_ble_eq_true rfl, Nat.le_of_ble_eq_true rfl⟩ (Nat.le_of_ble_eq_true rfl) dL_law_961 ⟨by show _ ≤ 600000; omega, by show _ ≤ 7302250; omega⟩ rfl ?_
  refine V.aload_n (pc := 964) C.1 dL_law_964 2 rfl ?_
  refine V.aload_n (pc := 965) C.1 dL_law_965 0 rfl ?_
  refine V.iload_n (pc := 966) C.1 dL_law_966 3 rfl ?_
  refine V.iconst (pc := 967) C.1 dL_law_967 (v := (1 : Int32)) (by decide) ?_
  refine V.iadd (pc := 968) C.1 dL_law_968 ?_
  refine V.sld (pc := 969) (n := i + 1) C (nI_add i 1) (by omega) dL_law_969 ?_
  refine V.callV0i (pc := 970) C.1 hyX9_parts wl_1553 (mX9_parts (r := r) K.2.1 E _ e2) rfl rfl rfl (oX9_parts e2) ⟨Nat.le_of_ble_eq_true rfl, Nat.le_of_ble_eq_true rfl⟩ (Nat.le_of_ble_eq_true rfl) dL_law_970 ⟨by show _ ≤ 600000; omega, by show _ ≤ 7302250; omega⟩ rfl ?_
  refine V.icmp_eq (pc := 973) (t := 1070) C.1 dL_law_973 (by decide) (fun _ => ?_) (fun q => absurd rfl q)
  exact next _ _ _ _ _ _ _ P2 I2 (by omega) (by omega)
set_option maxHeartbeats 4000000 in
set_option maxRecDepth 100000 in
theorem law_26 {K : HK} {E : HE} {b L : Nat} {xs : Nat → Int32} (C : LC K E b L xs) {Inv : HS → Nat → Nat → Prop} {pot : HS → Nat → Nat} (stp : SA Inv pot (fun sz w x => FX8_ask sz w x) (fun w m => FX9_ask w m)) {i : Nat} (hi6 : i + 6 ≤ L) {cs sl sz : Nat} {g : PH} {w : HS} {ar : Nat → Nat → Nat} {c0 : Nat → Nat} {x m : Nat} (P : Rel ar c0 sz g w) (I : Inv w x m) (h1 : cs + 20 ≤ 600000) (h2 : sl + pot w x + 300 ≤ 7302250) (next : ∀ (cs1 sl1 sz1 : Nat) (g1 : PH) (w1 : HS) (ar1 : Nat → Nat → Nat) (c1 : Nat → Nat), Rel ar1 c1 sz1 g1 w1 → Inv w1 x m → cs1 ≤ cs + 20 → sl1 + pot w1 x ≤ sl + pot w x + 300 → V K E room_1 4 (LQ K b) cs1 sl1 sz1 g1 1070 [(0, .ref b), (1, .ref x), (2, .ref m), (3, .int (nI i))] []) : V K E room_1 4 (LQ K b) cs sl sz g 978 [(0, .ref b), (1, .ref x), (2, .ref m), (3, .int (nI i))] [] := by
  obtain ⟨r, w1, mc, ms, w2, f1, f2, I2, q1, q2⟩ := stp sz w x m I P.below
  obtain ⟨g1, ar1, c1, e1, P1, X1⟩ := rX8_ask P f1
  obtain ⟨g2, e2, P2⟩ := rX9_ask P1 f2
  refine V.aload_n (pc := 978) C.1 dL_law_978 1 rfl ?_
  refine V.callVi (pc := 979) C.1 hyX8_ask wl_1016 (mX8_ask (r := r) (mc := mc) (ms := ms) K.2.1 E sz e1) rfl rfl rfl (oX8_ask e1) ⟨Nat.le_of_ble_eq_true rfl, Nat.le_of_ble_eq_true rfl⟩ (Nat.le_of_ble_eq_true rfl) dL_law_979 ⟨by show _ ≤ 600000; omega, by show _ ≤ 7302250; omega⟩ rfl ?_
  refine V.aload_n (pc := 982) C.1 dL_law_982 2 rfl ?_
  refine V.callV0i (pc := 983) C.1 hyX9_ask wl_1565 (mX9_ask (r := r) K.2.1 E _ e2) rfl rfl rfl (oX9_ask e2) ⟨Nat.le_of_ble_eq_true rfl, Nat.le_of_ble_eq_true rfl⟩ (Nat.le_of_ble_eq_true rfl) dL_law_983 ⟨by show _ ≤ 600000; omega, by show _ ≤ 7302250; omega⟩ rfl ?_
  refine V.icmp_eq (pc := 986) (t := 1070) C.1 dL_law_986 (by decide) (fun _ => ?_) (fun q => absurd rfl q)
  exact next _ _ _ _ _ _ _ P2 I2 (by omega) (by omega)
set_option maxHeartbeats 4000000 in
set_option maxRecDepth 100000 in
theorem law_27 {K : HK} {E : HE} {b L : Nat} {xs : Nat → Int32} (C : LC K E b L xs) {Inv : HS → Nat → Nat → Prop} {pot : HS → Nat → Nat} (stp : ∀ u0 : Int32, SN Inv pot (fun w x => FX8_draws w x u0) (fun w m => FX9_draws w m u0)) {i : Nat} (hi6 : i + 6 ≤ L) {cs sl sz : Nat} {g : PH} {w : HS} {ar : Nat → Nat → Nat} {c0 : Nat → Nat} {x m : Nat} (P : Rel ar c0 sz g w) (I : Inv w x m) (h1 : cs + 20 ≤ 600000) (h2 : sl + pot w x + 300 ≤ 7302250) (next : ∀ (cs1 sl1 sz1 : Nat) (g1 : PH) (w1 : HS) (ar1 : Nat → Nat → Nat) (c1 : Nat → Nat), Rel ar1 c1 sz1 g1 w1 → Inv w1 x m → cs1 ≤ cs + 20 → sl1 + pot w1 x ≤ sl + pot w x + 300 → V K E room_1 4 (LQ K b) cs1 sl1 sz1 g1 1070 [(0, .ref b), (1, .ref x), (2, .ref m), (3, .int (nI i))] []) : V K E room_1 4 (LQ K b) cs sl sz g 991 [(0, .ref b), (1, .ref x), (2, .ref m), (3, .int (nI i))] [] := by
  obtain ⟨r, w1, w2, f1, f2, I2, q2⟩ := stp (xs (i + 1)) w x m I
  obtain ⟨g1, e1, P1⟩ := rX8_draws P f1
  obtain ⟨g2, e2, P2⟩ := rX9_draws P1 f2
  refine V.aload_n (pc := 991) C.1 dL_law_991 1 rfl ?_
  refine V.aload_n (pc := 992) C.1 dL_law_992 0 rfl ?_
  refine V.iload_n (pc := 993) C.1 dL_law_993 3 rfl ?_
  refine V.iconst (pc := 994) C.1 dL_law_994 (v := (1 : Int32)) (by decide) ?_
  refine V.iadd (pc := 995) C.1 dL_law_995 ?_
  refine V.sld (pc := 996) (n := i + 1) C (nI_add i 1) (by omega) dL_law_996 ?_
  refine V.callV0i (pc := 997) C.1 hyX8_draws wl_1020 (mX8_draws (r := r) K.2.1 E sz e1) rfl rfl rfl (oX8_draws e1) ⟨Nat.le_of_ble_eq_true rfl, Nat.le_of_ble_eq_true rfl⟩ (Nat.le_of_ble_eq_true rfl) dL_law_997 ⟨by show _ ≤ 600000; omega, by show _ ≤ 7302250; omega⟩ rfl ?_
  refine V.aload_n (pc := 1000) C.1 dL_law_1000 2 rfl ?_
  refine V.aload_n (pc := 1001) C.1 dL_law_1001 0 rfl ?_
  refine V.iload_n (pc := 1002) C.1 dL_law_1002 3 rfl ?_
  refine V.iconst (pc := 1003) C.1 dL_law_1003 (v := (1 : Int32)) (by decide) ?_
  refine V.iadd (pc := 1004) C.1 dL_law_1004 ?_
  refine V.sld (pc := 1005) (n := i + 1) C (nI_add i 1) (by omega) dL_law_1005 ?_
  refine V.callV0i (pc := 1006) C.1 hyX9_draws wl_1569 (mX9_draws (r := r) K.2.1 E _ e2) rfl rfl rfl (oX9_draws e2) ⟨Nat.le_of_ble_eq_true rfl, Nat.le_of_ble_eq_true rfl⟩ (Nat.le_of_ble_eq_true rfl) dL_law_1006 ⟨by show _ ≤ 600000; omega, by show _ ≤ 7302250; omega⟩ rfl ?_
  refine V.icmp_eq (pc := 1009) (t := 1070) C.1 dL_law_1009 (by decide) (fun _ => ?_) (fun q => absurd rfl q)
  exact next _ _ _ _ _ _ _ P2 I2 (by omega) (by omega)
set_option maxHeartbeats 4000000 in
set_option maxRecDepth 100000 in
theorem law_28 {K : HK} {E : HE} {b L : Nat} {xs : Nat → Int32} (C : LC K E b L xs) {Inv : HS → Nat → Nat → Prop} {pot : HS → Nat → Nat} (stp : ∀ u0 u1 : Int32, SN Inv pot (fun w x => FX8_drawn w x u0 u1) (fun w m => FX9_drawn w m u0 u1)) {i : Nat} (hi6 : i + 6 ≤ L) {cs sl sz : Nat} {g : PH} {w : HS} {ar : Nat → Nat → Nat} {c0 : Nat → Nat} {x m : Nat} (P : Rel ar c0 sz g w) (I : Inv w x m) (h1 : cs + 20 ≤ 600000) (h2 : sl + pot w x + 300 ≤ 7302250) (next : ∀ (cs1 sl1 sz1 : Nat) (g1 : PH) (w1 : HS) (ar1 : Nat → Nat → Nat) (c1 : Nat → Nat), Rel ar1 c1 sz1 g1 w1 → Inv w1 x m → cs1 ≤ cs + 20 → sl1 + pot w1 x ≤ sl + pot w x + 300 → V K E room_1 4 (LQ K b) cs1 sl1 sz1 g1 1070 [(0, .ref b), (1, .ref x), (2, .ref m), (3, .int (nI i))] []) : V K E room_1 4 (LQ K b) cs sl sz g 1014 [(0, .ref b), (1, .ref x), (2, .ref m), (3, .int (nI i))] [] := by
  obtain ⟨r, w1, w2, f1, f2, I2, q2⟩ := stp (xs (i + 1)) (xs (i + 2)) w x m I
  obtain ⟨g1, e1, P1⟩ := rX8_drawn P f1
  obtain ⟨g2, e2, P2⟩ := rX9_drawn P1 f2
  refine V.aload_n (pc := 1014) C.1 dL_law_1014 1 rfl ?_
  refine V.aload_n (pc := 1015) C.1 dL_law_1015 0 rfl ?_
  refine V.iload_n (pc := 1016) C.1 dL_law_1016 3 rfl ?_
  refine V.iconst (pc := 1017) C.1 dL_law_1017 (v := (1 : Int32)) (by decide) ?_
  refine V.iadd (pc := 1018) C.1 dL_law_1018 ?_
  refine V.sld (pc := 1019) (n := i + 1) C (nI_add i 1) (by omega) dL_law_1019 ?_
  refine V.aload_n (pc := 1020) C.1 dL_law_1020 0 rfl ?_
  refine V.iload_n (pc := 1021) C.1 dL_law_1021 3 rfl ?_
  refine V.iconst (pc := 1022) C.1 dL_law_1022 (v := (2 : Int32)) (by decide) ?_
  refine V.iadd (pc := 1023) C.1 dL_law_1023 ?_
  refine V.sld (pc := 1024) (n := i + 2) C (nI_add i 2) (by omega) dL_law_1024 ?_
  refine V.callV0i (pc := 1025) C.1 hyX8_drawn wl_1024 (mX8_drawn (r := r) K.2.1 E sz e1) rfl rfl rfl (oX8_drawn e1) ⟨Nat.le_of_ble_eq_true rfl, Nat.le_of_ble_eq_true rfl⟩ (Nat.le_of_ble_eq_true rfl) dL_law_1025 ⟨by show _ ≤ 600000; omega, by show _ ≤ 7302250; omega⟩ rfl ?_
  refine V.aload_n (pc := 1028) C.1 dL_law_1028 2 rfl ?_
  refine V.aload_n (pc := 1029) C.1 dL_law_1029 0 rfl ?_
  refine V.iload_n (pc := 1030) C.1 dL_law_1030 3 rfl ?_
  refine V.iconst (pc := 1031) C.1 dL_law_1031 (v := (1 : Int32)) (by decide) ?_
  refine V.iadd (pc := 1032) C.1 dL_law_1032 ?_
  refine V.sld (pc := 1033) (n := i + 1) C (nI_add i 1) (by omega) dL_law_1033 ?_
  refine V.aload_n (pc := 1034) C.1 dL_law_1034 0 rfl ?_
  refine V.iload_n (pc := 1035) C.1 dL_law_1035 3 rfl ?_
  refine V.iconst (pc := 1036) C.1 dL_law_1036 (v := (2 : Int32)) (by decide) ?_
  refine V.iadd (pc := 1037) C.1 dL_law_1037 ?_
  refine V.sld (pc := 1038) (n := i + 2) C (nI_add i 2) (by omega) dL_law_1038 ?_
  refine V.callV0i (pc := 1039) C.1 hyX9_drawn wl_1573 (mX9_drawn (r := r) K.2.1 E _ e2) rfl rfl rfl (oX9_drawn e2) ⟨Nat.le_of_ble_eq_true rfl, Nat.le_of_ble_eq_true rfl⟩ (Nat.le_of_ble_eq_true rfl) dL_law_1039 ⟨by show _ ≤ 600000; omega, by show _ ≤ 7302250; omega⟩ rfl ?_
  refine V.icmp_eq (pc := 1042) (t := 1070) C.1 dL_law_1042 (by decide) (fun _ => ?_) (fun q => absurd rfl q)
  exact next _ _ _ _ _ _ _ P2 I2 (by omega) (by omega)
set_option maxHeartbeats 4000000 in
set_option maxRecDepth 100000 in
theorem law_29 {K : HK} {E : HE} {b L : Nat} {xs : Nat → Int32} (C : LC K E b L xs) {Inv : HS → Nat → Nat → Prop} {pot : HS → Nat → Nat} (stp : ∀ u0 : Int32, SN Inv pot (fun w x => FX8_count w x u0) (fun w m => FX9_count w m u0)) {i : Nat} (hi6 : i + 6 ≤ L) {cs sl sz : Nat} {g : PH} {w : HS} {ar : Nat → Nat → Nat} {c0 : Nat → Nat} {x m : Nat} (P : Rel ar c0 sz g w) (I : Inv w x m) (h1 : cs + 20 ≤ 600000) (h2 : sl + pot w x + 300 ≤ 7302250) (next : ∀ (cs1 sl1 sz1 : Nat) (g1 : PH) (w1 : HS) (ar1 : Nat → Nat → Nat) (c1 : Nat → Nat), Rel ar1 c1 sz1 g1 w1 → Inv w1 x m → cs1 ≤ cs + 20 → sl1 + pot w1 x ≤ sl + pot w x + 300 → V K E room_1 4 (LQ K b) cs1 sl1 sz1 g1 1070 [(0, .ref b), (1, .ref x), (2, .ref m), (3, .int (nI i))] []) : V K E room_1 4 (LQ K b) cs sl sz g 1047 [(0, .ref b), (1, .ref x), (2, .ref m), (3, .int (nI i))] [] := by
  obtain ⟨r, w1, w2, f1, f2, I2, q2⟩ := stp (xs (i + 1)) w x m I
  obtain ⟨g1, e1, P1⟩ := rX8_count P f1
  obtain ⟨g2, e2, P2⟩ := rX9_count P1 f2
  refine V.aload_n (pc := 1047) C.1 dL_law_1047 1 rfl ?_
  refine V.aload_n (pc := 1048) C.1 dL_law_1048 0 rfl ?_
  refine V.iload_n (pc := 1049) C.1 dL_law_1049 3 rfl ?_
  refine V.iconst (pc := 1050) C.1 dL_law_1050 (v := (1 : Int32)) (by decide) ?_
  refine V.iadd (pc := 1051) C.1 dL_law_1051 ?_
  refine V.sld (pc := 1052) (n := i + 1) C (nI_add i 1) (by omega) dL_law_1052 ?_
  refine V.callV0i (pc := 1053) C.1 hyX8_count wl_1036 (mX8_count (r := r) K.2.1 E sz e1) rfl rfl rfl (oX8_count e1) ⟨Nat.le_of_ble_eq_true rfl, Nat.le_of_ble_eq_true rfl⟩ (Nat.le_of_ble_eq_true rfl) dL_law_1053 ⟨by show _ ≤ 600000; omega, by show _ ≤ 7302250; omega⟩ rfl ?_
  refine V.aload_n (pc := 1056) C.1 dL_law_1056 2 rfl ?_
  refine V.aload_n (pc := 1057) C.1 dL_law_1057 0 rfl ?_
  refine V.iload_n (pc := 1058) C.1 dL_law_1058 3 rfl ?_
  refine V.iconst (pc := 1059) C.1 dL_law_1059 (v := (1 : Int32)) (by decide) ?_
  refine V.iadd (pc := 1060) C.1 dL_law_1060 ?_
  refine V.sld (pc := 1061) (n := i + 1) C (nI_add i 1) (by omega) dL_law_1061 ?_
  refine V.callV0i (pc := 1062) C.1 hyX9_count wl_1586 (mX9_count (r := r) K.2.1 E _ e2) rfl rfl rfl (oX9_count e2) ⟨Nat.le_of_ble_eq_true rfl, Nat.le_of_ble_eq_true rfl⟩ (Nat.le_of_ble_eq_true rfl) dL_law_1062 ⟨by show _ ≤ 600000; omega, by show _ ≤ 7302250; omega⟩ rfl ?_
  refine V.icmp_eq (pc := 1065) (t := 1070) C.1 dL_law_1065 (by decide) (fun _ => ?_) (fun q => absurd rfl q)
  exact next _ _ _ _ _ _ _ P2 I2 (by omega) (by omega)
theorem sub6 {L i : Nat} (hL : L ≤ 3072) (hi : i ≤ 4000) : nI L - 6 < nI i ↔ L < i + 6 := by
  have e1 : (nI L - 6).toInt = (L : Int) - 6 := by
    rw [Int32.toInt_sub, nI_toInt (by omega)]
    have e6 : (6 : Int32).toInt = 6 := by decide
    rw [e6]
    have : Int.bmod ((L : Int) - 6) (2 ^ 32) = (L : Int) - 6 := by
      rw [Int.bmod_def]
      split <;> omega
    exact this
  rw [Int32.lt_iff_toInt_lt, e1, nI_toInt (by omega)]
  omega
set_option maxHeartbeats 4000000 in
set_option maxRecDepth 100000 in
theorem law_loop {K : HK} {E : HE} {b L : Nat} {xs : Nat → Int32} (C : LC K E b L xs) {Inv : HS → Nat → Nat → Prop} {pot : HS → Nat → Nat} (stp : Steps Inv pot) {x m : Nat} : ∀ (n i cs sl sz : Nat) (g : PH) (w : HS) (ar : Nat → Nat → Nat) (c0 : Nat → Nat), i ≤ 3100 → L < i + 6 * n + 6 → Rel ar c0 sz g w → Inv w x m → cs + 20 * n ≤ 600000 → sl + pot w x + 300 * n ≤ 7302250 → V K E room_1 4 (LQ K b) cs sl sz g 18 [(0, .ref b), (1, .ref x), (2, .ref m), (3, .int (nI i))] [] := by
  obtain ⟨t0, t1, t2, t3, t4, t5, t6, t7, t8, t9, t10, t11, t12, t13, t14, t15, t16, t17, t18, t19, t20, t21, t22, t23, t24, t25, t26, t27, t28, t29⟩ := stp
  intro n
  induction n with
  | zero =>
    intro i cs sl sz g w ar c0 hi3 hn P I h1 h2
    have hL := C.2.2.2.2.1
    refine V.iload_n (pc := 18) C.1 dL_law_18 3 rfl ?_
    refine V.aload_n (pc := 19) C.1 dL_law_19 0 rfl ?_
    refine V.slb (pc := 20) C dL_law_20 ?_
    refine V.bipush (pc := 21) C.1 dL_law_21 (v := (6 : Int32)) (by decide) ?_
    refine V.isub (pc := 23) C.1 dL_law_23 ?_
    refine V.icmp_gt (pc := 24) (t := 1076) C.1 dL_law_24 (by decide) (fun q => ?_) (fun q => ?_)
    · refine V.iconst (pc := 1076) C.1 dL_law_1076 (v := (1 : Int32)) (by decide) ?_
      exact V.lend (pc := 1077) C (by omega) (by omega) dL_law_1077
    · exact absurd ((sub6 hL (by omega)).mpr (by omega)) q
  | succ n ih =>
    intro i cs sl sz g w ar c0 hi3 hn P I h1 h2
    have hL := C.2.2.2.2.1
    refine V.iload_n (pc := 18) C.1 dL_law_18 3 rfl ?_
    refine V.aload_n (pc := 19) C.1 dL_law_19 0 rfl ?_
    refine V.slb (pc := 20) C dL_law_20 ?_
    refine V.bipush (pc := 21) C.1 dL_law_21 (v := (6 : Int32)) (by decide) ?_
    refine V.isub (pc := 23) C.1 dL_law_23 ?_
    refine V.icmp_gt (pc := 24) (t := 1076) C.1 dL_law_24 (by decide) (fun q => ?_) (fun q => ?_)
    · refine V.iconst (pc := 1076) C.1 dL_law_1076 (v := (1 : Int32)) (by decide) ?_
      exact V.lend (pc := 1077) C (by omega) (by omega) dL_law_1077
    have hi6 : i + 6 ≤ L := Nat.not_lt.mp (fun z => q ((sub6 hL (by omega)).mpr z))
    have next : ∀ (cs1 sl1 sz1 : Nat) (g1 : PH) (w1 : HS) (ar1 : Nat → Nat → Nat) (c1 : Nat → Nat), Rel ar1 c1 sz1 g1 w1 → Inv w1 x m → cs1 ≤ cs + 20 → sl1 + pot w1 x ≤ sl + pot w x + 300 → V K E room_1 4 (LQ K b) cs1 sl1 sz1 g1 1070 [(0, .ref b), (1, .ref x), (2, .ref m), (3, .int (nI i))] [] := by
      intro cs1 sl1 sz1 g1 w1 ar1 c1 P1 I1 q1 q2
      refine V.iinc (pc := 1070) (v := nI (i + 6)) (L' := [(3, .int (nI (i + 6))), (0, .ref b), (1, .ref x), (2, .ref m)]) C.1 dL_law_1070 3 rfl (nI_add i 6) (by decide) rfl ?_
      refine V.goto (pc := 1073) (t := 18) C.1 dL_law_1073 (by decide) ?_
      refine V.sub (L' := [(0, .ref b), (1, .ref x), (2, .ref m), (3, .int (nI (i + 6)))]) [1, 2, 3, 0] rfl ?_
      exact ih (i + 6) cs1 sl1 sz1 g1 w1 ar1 c1 (by omega) (by omega) P1 I1 (by omega) (by omega)
    refine V.aload_n (pc := 27) C.1 dL_law_27 0 rfl ?_
    refine V.iload_n (pc := 28) C.1 dL_law_28 3 rfl ?_
    refine V.sld (pc := 29) (n := i) C rfl (by omega) dL_law_29 ?_
    refine V.bipush (pc := 30) C.1 dL_law_30 (v := (31 : Int32)) (by decide) ?_
    refine V.iand (pc := 32) C.1 dL_law_32 ?_
    by_cases c0 : (xs i &&& 31) = 0
    · refine V.tsIn (pc := 33) (k := 0) (t := 168) C.1 dL_law_33 c0 (by decide) (by decide) rfl (by decide) ?_
      exact law_0 C t0 hi6 P I (by omega) (by omega) next
    by_cases c1 : (xs i &&& 31) = 1
    · refine V.tsIn (pc := 33) (k := 1) (t := 231) C.1 dL_law_33 c1 (by decide) (by decide) rfl (by decide) ?_
      exact law_1 C t1 hi6 P I (by omega) (by omega) next
    by_cases c2 : (xs i &&& 31) = 2
    · refine V.tsIn (pc := 33) (k := 2) (t := 254) C.1 dL_law_33 c2 (by decide) (by decide) rfl (by decide) ?_
      exact law_2 C t2 hi6 P I (by omega) (by omega) next
    by_cases c3 : (xs i &&& 31) = 3
    · refine V.tsIn (pc := 33) (k := 3) (t := 267) C.1 dL_law_33 c3 (by decide) (by decide) rfl (by decide) ?_
      exact law_3 C t3 hi6 P I (by omega) (by omega) next
    by_cases c4 : (xs i &&& 31) = 4
    · refine V.tsIn (pc := 33) (k := 4) (t := 280) C.1 dL_law_33 c4 (by decide) (by decide) rfl (by decide) ?_
      exact law_4 C t4 hi6 P I (by omega) (by omega) next
    by_cases c5 : (xs i &&& 31) = 5
    · refine V.tsIn (pc := 33) (k := 5) (t := 313) C.1 dL_law_33 c5 (by decide) (by decide) rfl (by decide) ?_
      exact law_5 C t5 hi6 P I (by omega) (by omega) next
    by_cases c6 : (xs i &&& 31) = 6
    · refine V.tsIn (pc := 33) (k := 6) (t := 346) C.1 dL_law_33 c6 (by decide) (by decide) rfl (by decide) ?_
      exact law_6 C t6 hi6 P I (by omega) (by omega) next
    by_cases c7 : (xs i &&& 31) = 7
    · refine V.tsIn (pc := 33) (k := 7) (t := 389) C.1 dL_law_33 c7 (by decide) (by decide) rfl (by decide) ?_
      exact law_7 C t7 hi6 P I (by omega) (by omega) next
    by_cases c8 : (xs i &&& 31) = 8
    · refine V.tsIn (pc := 33) (k := 8) (t := 448) C.1 dL_law_33 c8 (by decide) (by decide) rfl (by decide) ?_
      exact law_8 C t8 hi6 P I (by omega) (by omega) next
    by_cases c9 : (xs i &&& 31) = 9
    · refine V.tsIn (pc := 33) (k := 9) (t := 517) C.1 dL_law_33 c9 (by decide) (by decide) rfl (by decide) ?_
      exact law_9 C t9 hi6 P I (by omega) (by omega) next
    by_cases c10 : (xs i &&& 31) = 10
    · refine V.tsIn (pc := 33) (k := 10) (t := 550) C.1 dL_law_33 c10 (by decide) (by decide) rfl (by decide) ?_
      exact law_10 C t10 hi6 P I (by omega) (by omega) next
    by_cases c11 : (xs i &&& 31) = 11
    · refine V.tsIn (pc := 33) (k := 11) (t := 573) C.1 dL_law_33 c11 (by decide) (by decide) rfl (by decide) ?_
      exact law_11 C t11 hi6 P I (by omega) (by omega) next
    by_cases c12 : (xs i &&& 31) = 12
    · refine V.tsIn (pc := 33) (k := 12) (t := 596) C.1 dL_law_33 c12 (by decide) (by decide) rfl (by decide) ?_
      exact law_12 C t12 hi6 P I (by omega) (by omega) next
    by_cases c13 : (xs i &&& 31) = 13
    · refine V.tsIn (pc := 33) (k := 13) (t := 629) C.1 dL_law_33 c13 (by decide) (by decide) rfl (by decide) ?_
      exact law_13 C t13 hi6 P I (by omega) (by omega) next
    by_cases c14 : (xs i &&& 31) = 14
    · refine V.tsIn (pc := 33) (k := 14) (t := 652) C.1 dL_law_33 c14 (by decide) (by decide) rfl (by decide) ?_
      exact law_14 C t14 hi6 P I (by omega) (by omega) next
    by_cases c15 : (xs i &&& 31) = 15
    · refine V.tsIn (pc := 33) (k := 15) (t := 695) C.1 dL_law_33 c15 (by decide) (by decide) rfl (by decide) ?_
      exact law_15 C t15 hi6 P I (by omega) (by omega) next
    by_cases c16 : (xs i &&& 31) = 16
    · refine V.tsIn (pc := 33) (k := 16) (t := 708) C.1 dL_law_33 c16 (by decide) (by decide) rfl (by decide) ?_
      exact law_16 C t16 hi6 P I (by omega) (by omega) next
    by_cases c17 : (xs i &&& 31) = 17
    · refine V.tsIn (pc := 33) (k := 17) (t := 731) C.1 dL_law_33 c17 (by decide) (by decide) rfl (by decide) ?_
      exact law_17 C t17 hi6 P I (by omega) (by omega) next
    by_cases c18 : (xs i &&& 31) = 18
    · refine V.tsIn (pc := 33) (k := 18) (t := 764) C.1 dL_law_33 c18 (by decide) (by decide) rfl (by decide) ?_
      exact law_18 C t18 hi6 P I (by omega) (by omega) next
    by_cases c19 : (xs i &&& 31) = 19
    · refine V.tsIn (pc := 33) (k := 19) (t := 787) C.1 dL_law_33 c19 (by decide) (by decide) rfl (by decide) ?_
      exact law_19 C t19 hi6 P I (by omega) (by omega) next
    by_cases c20 : (xs i &&& 31) = 20
    · refine V.tsIn (pc := 33) (k := 20) (t := 820) C.1 dL_law_33 c20 (by decide) (by decide) rfl (by decide) ?_
      exact law_20 C t20 hi6 P I (by omega) (by omega) next
    by_cases c21 : (xs i &&& 31) = 21
    · refine V.tsIn (pc := 33) (k := 21) (t := 853) C.1 dL_law_33 c21 (by decide) (by decide) rfl (by decide) ?_
      exact law_21 C t21 hi6 P I (by omega) (by omega) next
    by_cases c22 : (xs i &&& 31) = 22
    · refine V.tsIn (pc := 33) (k := 22) (t := 866) C.1 dL_law_33 c22 (by decide) (by decide) rfl (by decide) ?_
      exact law_22 C t22 hi6 P I (by omega) (by omega) next
    by_cases c23 : (xs i &&& 31) = 23
    · refine V.tsIn (pc := 33) (k := 23) (t := 899) C.1 dL_law_33 c23 (by decide) (by decide) rfl (by decide) ?_
      exact law_23 C t23 hi6 P I (by omega) (by omega) next
    by_cases c24 : (xs i &&& 31) = 24
    · refine V.tsIn (pc := 33) (k := 24) (t := 932) C.1 dL_law_33 c24 (by decide) (by decide) rfl (by decide) ?_
      exact law_24 C t24 hi6 P I (by omega) (by omega) next
    by_cases c25 : (xs i &&& 31) = 25
    · refine V.tsIn (pc := 33) (k := 25) (t := 955) C.1 dL_law_33 c25 (by decide) (by decide) rfl (by decide) ?_
      exact law_25 C t25 hi6 P I (by omega) (by omega) next
    by_cases c26 : (xs i &&& 31) = 26
    · refine V.tsIn (pc := 33) (k := 26) (t := 978) C.1 dL_law_33 c26 (by decide) (by decide) rfl (by decide) ?_
      exact law_26 C t26 hi6 P I (by omega) (by omega) next
    by_cases c27 : (xs i &&& 31) = 27
    · refine V.tsIn (pc := 33) (k := 27) (t := 991) C.1 dL_law_33 c27 (by decide) (by decide) rfl (by decide) ?_
      exact law_27 C t27 hi6 P I (by omega) (by omega) next
    by_cases c28 : (xs i &&& 31) = 28
    · refine V.tsIn (pc := 33) (k := 28) (t := 1014) C.1 dL_law_33 c28 (by decide) (by decide) rfl (by decide) ?_
      exact law_28 C t28 hi6 P I (by omega) (by omega) next
    by_cases c29 : (xs i &&& 31) = 29
    · refine V.tsIn (pc := 33) (k := 29) (t := 1047) C.1 dL_law_33 c29 (by decide) (by decide) rfl (by decide) ?_
      exact law_29 C t29 hi6 P I (by omega) (by omega) next
    have d0 := lv_neT (a := 0) c0 (by decide)
    have d1 := lv_neT (a := 1) c1 (by decide)
    have d2 := lv_neT (a := 2) c2 (by decide)
    have d3 := lv_neT (a := 3) c3 (by decide)
    have d4 := lv_neT (a := 4) c4 (by decide)
    have d5 := lv_neT (a := 5) c5 (by decide)
    have d6 := lv_neT (a := 6) c6 (by decide)
    have d7 := lv_neT (a := 7) c7 (by decide)
    have d8 := lv_neT (a := 8) c8 (by decide)
    have d9 := lv_neT (a := 9) c9 (by decide)
    have d10 := lv_neT (a := 10) c10 (by decide)
    have d11 := lv_neT (a := 11) c11 (by decide)
    have d12 := lv_neT (a := 12) c12 (by decide)
    have d13 := lv_neT (a := 13) c13 (by decide)
    have d14 := lv_neT (a := 14) c14 (by decide)
    have d15 := lv_neT (a := 15) c15 (by decide)
    have d16 := lv_neT (a := 16) c16 (by decide)
    have d17 := lv_neT (a := 17) c17 (by decide)
    have d18 := lv_neT (a := 18) c18 (by decide)
    have d19 := lv_neT (a := 19) c19 (by decide)
    have d20 := lv_neT (a := 20) c20 (by decide)
    have d21 := lv_neT (a := 21) c21 (by decide)
    have d22 := lv_neT (a := 22) c22 (by decide)
    have d23 := lv_neT (a := 23) c23 (by decide)
    have d24 := lv_neT (a := 24) c24 (by decide)
    have d25 := lv_neT (a := 25) c25 (by decide)
    have d26 := lv_neT (a := 26) c26 (by decide)
    have d27 := lv_neT (a := 27) c27 (by decide)
    have d28 := lv_neT (a := 28) c28 (by decide)
    have d29 := lv_neT (a := 29) c29 (by decide)
    refine V.tsOut (pc := 33) (t := 1070) C.1 dL_law_33 (by omega) (by decide) ?_
    exact next _ _ _ _ _ _ _ P I (by omega) (by omega)
