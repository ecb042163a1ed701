theorem dX4_init_0 : decode cX4_init 0 = .ok (.aload_n 0, 1) := by decide +kernel
theorem dX4_init_1 : decode cX4_init 1 = .ok (.invokespecial 3, 3) := by decide +kernel
theorem dX4_init_4 : decode cX4_init 4 = .ok (.aload_n 0, 1) := by decide +kernel
theorem dX4_init_5 : decode cX4_init 5 = .ok (.sipush 256, 3) := by decide +kernel
theorem dX4_init_8 : decode cX4_init 8 = .ok (.newarray .int, 2) := by decide +kernel
theorem dX4_init_10 : decode cX4_init 10 = .ok (.putfield 9, 3) := by decide +kernel
theorem dX4_init_13 : decode cX4_init 13 = .ok (.aload_n 0, 1) := by decide +kernel
theorem dX4_init_14 : decode cX4_init 14 = .ok (.sipush 256, 3) := by decide +kernel
theorem dX4_init_17 : decode cX4_init 17 = .ok (.newarray .long, 2) := by decide +kernel
theorem dX4_init_19 : decode cX4_init 19 = .ok (.putfield 15, 3) := by decide +kernel
theorem dX4_init_22 : decode cX4_init 22 = .ok (.aload_n 0, 1) := by decide +kernel
theorem dX4_init_23 : decode cX4_init 23 = .ok (.bipush 78, 2) := by decide +kernel
theorem dX4_init_25 : decode cX4_init 25 = .ok (.newarray .int, 2) := by decide +kernel
theorem dX4_init_27 : decode cX4_init 27 = .ok (.putfield 19, 3) := by decide +kernel
theorem dX4_init_30 : decode cX4_init 30 = .ok (.aload_n 0, 1) := by decide +kernel
theorem dX4_init_31 : decode cX4_init 31 = .ok (.bipush 78, 2) := by decide +kernel
theorem dX4_init_33 : decode cX4_init 33 = .ok (.newarray .boolean, 2) := by decide +kernel
theorem dX4_init_35 : decode cX4_init 35 = .ok (.putfield 22, 3) := by decide +kernel
theorem dX4_init_38 : decode cX4_init 38 = .ok (.aload_n 0, 1) := by decide +kernel
theorem dX4_init_39 : decode cX4_init 39 = .ok (.sipush 234, 3) := by decide +kernel
theorem dX4_init_42 : decode cX4_init 42 = .ok (.newarray .int, 2) := by decide +kernel
theorem dX4_init_44 : decode cX4_init 44 = .ok (.putfield 26, 3) := by decide +kernel
theorem dX4_init_47 : decode cX4_init 47 = .ok (.aload_n 0, 1) := by decide +kernel
theorem dX4_init_48 : decode cX4_init 48 = .ok (.sipush 1872, 3) := by decide +kernel
theorem dX4_init_51 : decode cX4_init 51 = .ok (.newarray .int, 2) := by decide +kernel
theorem dX4_init_53 : decode cX4_init 53 = .ok (.putfield 29, 3) := by decide +kernel
theorem dX4_init_56 : decode cX4_init 56 = .ok (.aload_n 0, 1) := by decide +kernel
theorem dX4_init_57 : decode cX4_init 57 = .ok (.iconst 0, 1) := by decide +kernel
theorem dX4_init_58 : decode cX4_init 58 = .ok (.putfield 32, 3) := by decide +kernel
theorem dX4_init_61 : decode cX4_init 61 = .ok (.aload_n 0, 1) := by decide +kernel
theorem dX4_init_62 : decode cX4_init 62 = .ok (.bipush 8, 2) := by decide +kernel
theorem dX4_init_64 : decode cX4_init 64 = .ok (.newarray .int, 2) := by decide +kernel
theorem dX4_init_66 : decode cX4_init 66 = .ok (.putfield 36, 3) := by decide +kernel
theorem dX4_init_69 : decode cX4_init 69 = .ok (.aload_n 0, 1) := by decide +kernel
theorem dX4_init_70 : decode cX4_init 70 = .ok (.iconst 0, 1) := by decide +kernel
theorem dX4_init_71 : decode cX4_init 71 = .ok (.putfield 39, 3) := by decide +kernel
theorem dX4_init_74 : decode cX4_init 74 = .ok (.aload_n 0, 1) := by decide +kernel
theorem dX4_init_75 : decode cX4_init 75 = .ok (.iconst 0, 1) := by decide +kernel
theorem dX4_init_76 : decode cX4_init 76 = .ok (.putfield 42, 3) := by decide +kernel
theorem dX4_init_79 : decode cX4_init 79 = .ok (.aload_n 0, 1) := by decide +kernel
theorem dX4_init_80 : decode cX4_init 80 = .ok (.sipush 9608, 3) := by decide +kernel
theorem dX4_init_83 : decode cX4_init 83 = .ok (.newarray .int, 2) := by decide +kernel
theorem dX4_init_85 : decode cX4_init 85 = .ok (.putfield 45, 3) := by decide +kernel
theorem dX4_init_88 : decode cX4_init 88 = .ok (.aload_n 0, 1) := by decide +kernel
theorem dX4_init_89 : decode cX4_init 89 = .ok (.sipush 1201, 3) := by decide +kernel
theorem dX4_init_92 : decode cX4_init 92 = .ok (.newarray .int, 2) := by decide +kernel
theorem dX4_init_94 : decode cX4_init 94 = .ok (.putfield 48, 3) := by decide +kernel
theorem dX4_init_97 : decode cX4_init 97 = .ok (.aload_n 0, 1) := by decide +kernel
theorem dX4_init_98 : decode cX4_init 98 = .ok (.sipush 1201, 3) := by decide +kernel
theorem dX4_init_101 : decode cX4_init 101 = .ok (.newarray .int, 2) := by decide +kernel
theorem dX4_init_103 : decode cX4_init 103 = .ok (.putfield 51, 3) := by decide +kernel
theorem dX4_init_106 : decode cX4_init 106 = .ok (.aload_n 0, 1) := by decide +kernel
theorem dX4_init_107 : decode cX4_init 107 = .ok (.sipush 1201, 3) := by decide +kernel
theorem dX4_init_110 : decode cX4_init 110 = .ok (.newarray .int, 2) := by decide +kernel
theorem dX4_init_112 : decode cX4_init 112 = .ok (.putfield 54, 3) := by decide +kernel
theorem dX4_init_115 : decode cX4_init 115 = .ok (.aload_n 0, 1) := by decide +kernel
theorem dX4_init_116 : decode cX4_init 116 = .ok (.sipush 4096, 3) := by decide +kernel
theorem dX4_init_119 : decode cX4_init 119 = .ok (.newarray .int, 2) := by decide +kernel
theorem dX4_init_121 : decode cX4_init 121 = .ok (.putfield 57, 3) := by decide +kernel
theorem dX4_init_124 : decode cX4_init 124 = .ok (.aload_n 0, 1) := by decide +kernel
theorem dX4_init_125 : decode cX4_init 125 = .ok (.bipush 10, 2) := by decide +kernel
theorem dX4_init_127 : decode cX4_init 127 = .ok (.newarray .int, 2) := by decide +kernel
theorem dX4_init_129 : decode cX4_init 129 = .ok (.putfield 60, 3) := by decide +kernel
theorem dX4_init_132 : decode cX4_init 132 = .ok (.iconst 1, 1) := by decide +kernel
theorem dX4_init_133 : decode cX4_init 133 = .ok (.istore_n 1, 1) := by decide +kernel
theorem dX4_init_134 : decode cX4_init 134 = .ok (.iload_n 1, 1) := by decide +kernel
theorem dX4_init_135 : decode cX4_init 135 = .ok (.iconst 3, 1) := by decide +kernel
theorem dX4_init_136 : decode cX4_init 136 = .ok (.if_icmp .gt 101, 3) := by decide +kernel
theorem dX4_init_139 : decode cX4_init 139 = .ok (.getstatic 63, 3) := by decide +kernel
theorem dX4_init_142 : decode cX4_init 142 = .ok (.iload_n 1, 1) := by decide +kernel
theorem dX4_init_143 : decode cX4_init 143 = .ok (.iaload, 1) := by decide +kernel
theorem dX4_init_144 : decode cX4_init 144 = .ok (.istore_n 2, 1) := by decide +kernel
theorem dX4_init_145 : decode cX4_init 145 = .ok (.iload_n 2, 1) := by decide +kernel
theorem dX4_init_146 : decode cX4_init 146 = .ok (.getstatic 63, 3) := by decide +kernel
theorem dX4_init_149 : decode cX4_init 149 = .ok (.iload_n 1, 1) := by decide +kernel
theorem dX4_init_150 : decode cX4_init 150 = .ok (.iconst 1, 1) := by decide +kernel
theorem dX4_init_151 : decode cX4_init 151 = .ok (.iadd, 1) := by decide +kernel
theorem dX4_init_152 : decode cX4_init 152 = .ok (.iaload, 1) := by decide +kernel
theorem dX4_init_153 : decode cX4_init 153 = .ok (.if_icmp .ge 78, 3) := by decide +kernel
theorem dX4_init_156 : decode cX4_init 156 = .ok (.iload_n 2, 1) := by decide +kernel
theorem dX4_init_157 : decode cX4_init 157 = .ok (.getstatic 63, 3) := by decide +kernel
theorem dX4_init_160 : decode cX4_init 160 = .ok (.iload_n 1, 1) := by decide +kernel
theorem dX4_init_161 : decode cX4_init 161 = .ok (.iaload, 1) := by decide +kernel
theorem dX4_init_162 : decode cX4_init 162 = .ok (.isub, 1) := by decide +kernel
theorem dX4_init_163 : decode cX4_init 163 = .ok (.istore_n 3, 1) := by decide +kernel
theorem dX4_init_164 : decode cX4_init 164 = .ok (.aload_n 0, 1) := by decide +kernel
theorem dX4_init_165 : decode cX4_init 165 = .ok (.getfield 19, 3) := by decide +kernel
theorem dX4_init_168 : decode cX4_init 168 = .ok (.iload_n 2, 1) := by decide +kernel
theorem dX4_init_169 : decode cX4_init 169 = .ok (.iload_n 1, 1) := by decide +kernel
theorem dX4_init_170 : decode cX4_init 170 = .ok (.iastore, 1) := by decide +kernel
theorem dX4_init_171 : decode cX4_init 171 = .ok (.aload_n 0, 1) := by decide +kernel
theorem dX4_init_172 : decode cX4_init 172 = .ok (.getfield 22, 3) := by decide +kernel
theorem dX4_init_175 : decode cX4_init 175 = .ok (.iload_n 2, 1) := by decide +kernel
theorem dX4_init_176 : decode cX4_init 176 = .ok (.iload_n 3, 1) := by decide +kernel
theorem dX4_init_177 : decode cX4_init 177 = .ok (.getstatic 66, 3) := by decide +kernel
theorem dX4_init_180 : decode cX4_init 180 = .ok (.iload_n 1, 1) := by decide +kernel
theorem dX4_init_181 : decode cX4_init 181 = .ok (.iaload, 1) := by decide +kernel
theorem dX4_init_182 : decode cX4_init 182 = .ok (.if_icmp .lt 7, 3) := by decide +kernel
theorem dX4_init_185 : decode cX4_init 185 = .ok (.iconst 1, 1) := by decide +kernel
theorem dX4_init_186 : decode cX4_init 186 = .ok (.goto 4, 3) := by decide +kernel
theorem dX4_init_189 : decode cX4_init 189 = .ok (.iconst 0, 1) := by decide +kernel
theorem dX4_init_190 : decode cX4_init 190 = .ok (.bastore, 1) := by decide +kernel
theorem dX4_init_191 : decode cX4_init 191 = .ok (.iload_n 1, 1) := by decide +kernel
theorem dX4_init_192 : decode cX4_init 192 = .ok (.iconst 1, 1) := by decide +kernel
theorem dX4_init_193 : decode cX4_init 193 = .ok (.isub, 1) := by decide +kernel
theorem dX4_init_194 : decode cX4_init 194 = .ok (.istore 4, 2) := by decide +kernel
theorem dX4_init_196 : decode cX4_init 196 = .ok (.iload 4, 2) := by decide +kernel
theorem dX4_init_198 : decode cX4_init 198 = .ok (.ifCond .lt 27, 3) := by decide +kernel
theorem dX4_init_201 : decode cX4_init 201 = .ok (.aload_n 0, 1) := by decide +kernel
theorem dX4_init_202 : decode cX4_init 202 = .ok (.getfield 26, 3) := by decide +kernel
theorem dX4_init_205 : decode cX4_init 205 = .ok (.iload_n 2, 1) := by decide +kernel
theorem dX4_init_206 : decode cX4_init 206 = .ok (.iconst 3, 1) := by decide +kernel
theorem dX4_init_207 : decode cX4_init 207 = .ok (.imul, 1) := by decide +kernel
theorem dX4_init_208 : decode cX4_init 208 = .ok (.iload 4, 2) := by decide +kernel
theorem dX4_init_210 : decode cX4_init 210 = .ok (.iadd, 1) := by decide +kernel
theorem dX4_init_211 : decode cX4_init 211 = .ok (.iload_n 3, 1) := by decide +kernel
theorem dX4_init_212 : decode cX4_init 212 = .ok (.iconst 3, 1) := by decide +kernel
theorem dX4_init_213 : decode cX4_init 213 = .ok (.irem, 1) := by decide +kernel
theorem dX4_init_214 : decode cX4_init 214 = .ok (.iastore, 1) := by decide +kernel
theorem dX4_init_215 : decode cX4_init 215 = .ok (.iload_n 3, 1) := by decide +kernel
theorem dX4_init_216 : decode cX4_init 216 = .ok (.iconst 3, 1) := by decide +kernel
theorem dX4_init_217 : decode cX4_init 217 = .ok (.idiv, 1) := by decide +kernel
theorem dX4_init_218 : decode cX4_init 218 = .ok (.istore_n 3, 1) := by decide +kernel
theorem dX4_init_219 : decode cX4_init 219 = .ok (.iinc 4 (-1), 3) := by decide +kernel
theorem dX4_init_222 : decode cX4_init 222 = .ok (.goto (-26), 3) := by decide +kernel
theorem dX4_init_225 : decode cX4_init 225 = .ok (.iinc 2 1, 3) := by decide +kernel
theorem dX4_init_228 : decode cX4_init 228 = .ok (.goto (-83), 3) := by decide +kernel
theorem dX4_init_231 : decode cX4_init 231 = .ok (.iinc 1 1, 3) := by decide +kernel
theorem dX4_init_234 : decode cX4_init 234 = .ok (.goto (-100), 3) := by decide +kernel
theorem dX4_init_237 : decode cX4_init 237 = .ok (.return_, 1) := by decide +kernel
def fX4_init_196 (k134 : PH → Nat → Nat → Int32 → Option (Unit × PH × Nat × Nat)) (k145 : PH → Nat → Nat → Int32 → Int32 → Option (Unit × PH × Nat × Nat)) : Nat → PH → Nat → Nat → Int32 → Int32 → Int32 → Int32 → Option (Unit × PH × Nat × Nat)
  | 0, _, _, _, _, _, _, _ => none
  | n + 1, g, sz, v0, v1, v2, v3, v4 =>
  if v4 < 0 then (k145 g sz v0 v1 (v2 + (1 : Int32))) else
  ((getR g v0 4 4).bind fun p2 =>
  ((stI g p2 0 ((v2 * (3 : Int32)) + v4) (v3 - v3 / (3 : Int32) * (3 : Int32))).bind fun g4 =>
  (fX4_init_196 k134 k145 n g4 sz v0 v1 v2 (v3 / (3 : Int32)) (v4 + (-1 : Int32)))))
set_option maxHeartbeats 4000000 in
set_option maxRecDepth 100000 in
theorem bX4_init_196 {K : HK} {E : HE} {r : Unit} {g' : PH} {mc ms : Nat} {k134 : PH → Nat → Nat → Int32 → Option (Unit × PH × Nat × Nat)} {k145 : PH → Nat → Nat → Int32 → Int32 → Option (Unit × PH × Nat × Nat)} (C : VC K E 5 cX4_init RX4 none) (hin : K.2.2.2.2.2.2.2.1.name = "<init>") (hk134 : ∀ (g : PH) (sz : Nat) (v0 : Nat) (v1 : Int32) (u1 u2 cs sl : Nat), k134 g sz v0 v1 = some (r, g', u1, u2) → cs + u1 = mc → sl + u2 = ms → sz = kS K + cs → V K E (hRm 1 20 mc ms) 5 (hZ K E none g' mc ms) cs sl sz g 134 [(0, .ref v0), (1, .int v1)] []) (hk145 : ∀ (g : PH) (sz : Nat) (v0 : Nat) (v1 : Int32) (v2 : Int32) (u1 u2 cs sl : Nat), k145 g sz v0 v1 v2 = some (r, g', u1, u2) → cs + u1 = mc → sl + u2 = ms → sz = kS K + cs → V K E (hRm 1 20 mc ms) 5 (hZ K E none g' mc ms) cs sl sz g 145 [(0, .ref v0), (1, .int v1), (2, .int v2)] []) : ∀ (n : Nat) (g : PH) (sz : Nat) (v0 : Nat) (v1 : Int32) (v2 : Int32) (v3 : Int32) (v4 : Int32) (u1 u2 cs sl : Nat), fX4_init_196 k134 k145 n g sz v0 v1 v2 v3 v4 = some (r, g', u1, u2) → cs + u1 = mc → sl + u2 = ms → sz = kS K + cs → V K E (hRm 1 20 mc ms) 5 (hZ K E none g' mc ms) cs sl sz g 196 [(0, .ref v0), (1, .int v1), (2, .int v2), (3, .int v3), (4, .int v4)] [] := by
  intro n
  have hkS : K.2.2.2.1.heap.size = kS K := rfl
  induction n with
  | zero =>
    intro g sz v0 v1 v2 v3 v4 u1 u2 cs sl hf e1 e2 e3
    rw [fX4_init_196] at hf
    cases hf
  | succ n ih =>
    intro g sz v0 v1 v2 v3 v4 u1 u2 cs sl hf e1 e2 e3
    rw [fX4_init_196] at hf
    refine V.iload (pc := 196) C dX4_init_196 4 rfl ?_
    refine V.if_lt (pc := 198) (t := 225) C dX4_init_198 (by decide) (fun c1 => ?_) (fun c1 => ?_)
    · replace hf := ite_t c1 hf
      refine V.iinc (pc := 225) (v := (v2 + (1 : Int32))) (L' := [(2, .int (v2 + (1 : Int32))), (0, .ref v0), (1, .int v1), (3, .int v3), (4, .int v4)]) C dX4_init_225 2 rfl rfl (by decide) rfl ?_
      refine V.goto (pc := 228) (t := 145) C dX4_init_228 (by decide) ?_
      refine V.sub (L' := [(0, .ref v0), (1, .int v1), (2, .int (v2 + (1 : Int32)))]) [1, 2, 0] rfl ?_
      exact hk145 _ _ _ _ _ _ _ _ _ hf (by omega) (by omega) (by omega)
    replace hf := ite_f c1 hf
    refine V.aload_n (pc := 201) C dX4_init_201 0 rfl ?_
    replace hf := ob_some hf
    obtain ⟨p2, h3, hf⟩ := hf
    refine V.getR (pc := 202) C kX4 (k := 4) (by decide) wd_697 h3 dX4_init_202 ?_
    refine V.iload_n (pc := 205) C dX4_init_205 2 rfl ?_
    refine V.iconst (pc := 206) C dX4_init_206 (v := (3 : Int32)) (by decide) ?_
    refine V.imul (pc := 207) C dX4_init_207 ?_
    refine V.iload (pc := 208) C dX4_init_208 4 rfl ?_
    refine V.iadd (pc := 210) C dX4_init_210 ?_
    refine V.iload_n (pc := 211) C dX4_init_211 3 rfl ?_
    refine V.iconst (pc := 212) C dX4_init_212 (v := (3 : Int32)) (by decide) ?_
    refine V.irem (pc := 213) C dX4_init_213 (by decide) ?_
    replace hf := ob_some hf
    obtain ⟨g4, h5, hf⟩ := hf
    refine V.iast (pc := 214) C h5 dX4_init_214 ?_
    refine V.iload_n (pc := 215) C dX4_init_215 3 rfl ?_
    refine V.iconst (pc := 216) C dX4_init_216 (v := (3 : Int32)) (by decide) ?_
    refine V.idiv (pc := 217) C dX4_init_217 (by decide) ?_
    refine V.istore_n (pc := 218) (L' := [(3, .int (v3 / (3 : Int32))), (0, .ref v0), (1, .int v1), (2, .int v2), (4, .int v4)]) C dX4_init_218 (by decide) rfl ?_
    refine V.iinc (pc := 219) (v := (v4 + (-1 : Int32))) (L' := [(4, .int (v4 + (-1 : Int32))), (3, .int (v3 / (3 : Int32))), (0, .ref v0), (1, .int v1), (2, .int v2)]) C dX4_init_219 4 rfl rfl (by decide) rfl ?_
    refine V.goto (pc := 222) (t := 196) C dX4_init_222 (by decide) ?_
    refine V.sub (L' := [(0, .ref v0), (1, .int v1), (2, .int v2), (3, .int (v3 / (3 : Int32))), (4, .int (v4 + (-1 : Int32)))]) [2, 3, 4, 1, 0] rfl ?_
    exact ih _ _ _ _ _ _ _ _ _ _ _ hf (by omega) (by omega) (by omega)
def fX4_init_190 (k134 : PH → Nat → Nat → Int32 → Option (Unit × PH × Nat × Nat)) (k145 : PH → Nat → Nat → Int32 → Int32 → Option (Unit × PH × Nat × Nat)) (g : PH) (sz : Nat) (v0 : Nat) (v1 : Int32) (v2 : Int32) (v3 : Int32) (s0 : Int32) (s1 : Int32) (s2 : Nat) : Option (Unit × PH × Nat × Nat) :=
  (stI g s2 3 s1 (vp_nar .boolean s0)).bind fun g1 =>
  (fX4_init_196 (k134) (k145) FUEL g1 sz v0 v1 v2 v3 (v1 - (1 : Int32)))
set_option maxHeartbeats 4000000 in
set_option maxRecDepth 100000 in
theorem bX4_init_190 {K : HK} {E : HE} {r : Unit} {g' : PH} {mc ms : Nat} {k134 : PH → Nat → Nat → Int32 → Option (Unit × PH × Nat × Nat)} {k145 : PH → Nat → Nat → Int32 → Int32 → Option (Unit × PH × Nat × Nat)} (C : VC K E 5 cX4_init RX4 none) (hin : K.2.2.2.2.2.2.2.1.name = "<init>") (hk134 : ∀ (g : PH) (sz : Nat) (v0 : Nat) (v1 : Int32) (u1 u2 cs sl : Nat), k134 g sz v0 v1 = some (r, g', u1, u2) → cs + u1 = mc → sl + u2 = ms → sz = kS K + cs → V K E (hRm 1 20 mc ms) 5 (hZ K E none g' mc ms) cs sl sz g 134 [(0, .ref v0), (1, .int v1)] []) (hk145 : ∀ (g : PH) (sz : Nat) (v0 : Nat) (v1 : Int32) (v2 : Int32) (u1 u2 cs sl : Nat), k145 g sz v0 v1 v2 = some (r, g', u1, u2) → cs + u1 = mc → sl + u2 = ms → sz = kS K + cs → V K E (hRm 1 20 mc ms) 5 (hZ K E none g' mc ms) cs sl sz g 145 [(0, .ref v0), (1, .int v1), (2, .int v2)] []) {g : PH} {sz : Nat} {v0 : Nat} {v1 : Int32} {v2 : Int32} {v3 : Int32} {s0 : Int32} {s1 : Int32} {s2 : Nat} {u1 u2 cs sl : Nat} (hf : fX4_init_190 k134 k145 g sz v0 v1 v2 v3 s0 s1 s2 = some (r, g', u1, u2)) (e1 : cs + u1 = mc) (e2 : sl + u2 = ms) (e3 : sz = kS K + cs) : V K E (hRm 1 20 mc ms) 5 (hZ K E none g' mc ms) cs sl sz g 190 [(0, .ref v0), (1, .int v1), (2, .int v2), (3, .int v3)] [.int s0, .int s1, .ref s2] := by
  have hkS : K.2.2.2.1.heap.size = kS K := rfl
  unfold fX4_init_190 at hf
  replace hf := ob_some hf
  obtain ⟨g1, h2, hf⟩ := hf
  refine V.zast (pc := 190) C h2 dX4_init_190 ?_
  refine V.iload_n (pc := 191) C dX4_init_191 1 rfl ?_
  refine V.iconst (pc := 192) C dX4_init_192 (v := (1 : Int32)) (by decide) ?_
  refine V.isub (pc := 193) C dX4_init_193 ?_
  refine V.istore (pc := 194) (L' := [(4, .int (v1 - (1 : Int32))), (0, .ref v0), (1, .int v1), (2, .int v2), (3, .int v3)]) C dX4_init_194 (by decide) rfl ?_
  refine V.sub (L' := [(0, .ref v0), (1, .int v1), (2, .int v2), (3, .int v3), (4, .int (v1 - (1 : Int32)))]) [1, 2, 3, 4, 0] rfl ?_
  exact bX4_init_196 C hin hk134 hk145 _ _ _ _ _ _ _ _ _ _ _ _ hf (by omega) (by omega) (by omega)
def fX4_init_145 (k134 : PH → Nat → Nat → Int32 → Option (Unit × PH × Nat × Nat)) : Nat → PH → Nat → Nat → Int32 → Int32 → Option (Unit × PH × Nat × Nat)
  | 0, _, _, _, _, _ => none
  | n + 1, g, sz, v0, v1, v2 =>
  okb (inb (v1 + (1 : Int32)) (staB 0).length) (if ((staB 0).getD (v1 + (1 : Int32)).toNatClampNeg 0) ≤ v2 then (k134 g sz v0 (v1 + (1 : Int32))) else
  (okb (inb v1 (staB 0).length) ((getR g v0 4 2).bind fun p4 =>
  ((stI g p4 0 v2 v1).bind fun g6 =>
  ((getR g6 v0 4 3).bind fun p8 =>
  (okb (inb v1 (staB 1).length) (if (v2 - ((staB 0).getD v1.toNatClampNeg 0)) < ((staB 1).getD v1.toNatClampNeg 0) then (fX4_init_190 (k134) (fX4_init_145 k134 n) g6 sz v0 v1 v2 (v2 - ((staB 0).getD v1.toNatClampNeg 0)) (0 : Int32) v2 p8) else
  (fX4_init_190 (k134) (fX4_init_145 k134 n) g6 sz v0 v1 v2 (v2 - ((staB 0).getD v1.toNatClampNeg 0)) (1 : Int32) v2 p8))))))))
set_option maxHeartbeats 4000000 in
set_option maxRecDepth 100000 in
theorem bX4_init_145 {K : HK} {E : HE} {r : Unit} {g' : PH} {mc ms : Nat} {k134 : PH → Nat → Nat → Int32 → Option (Unit × PH × Nat × Nat)} (C : VC K E 5 cX4_init RX4 none) (hin : K.2.2.2.2.2.2.2.1.name = "<init>") (hk134 : ∀ (g : PH) (sz : Nat) (v0 : Nat) (v1 : Int32) (u1 u2 cs sl : Nat), k134 g sz v0 v1 = some (r, g', u1, u2) → cs + u1 = mc → sl + u2 = ms → sz = kS K + cs → V K E (hRm 1 20 mc ms) 5 (hZ K E none g' mc ms) cs sl sz g 134 [(0, .ref v0), (1, .int v1)] []) : ∀ (n : Nat) (g : PH) (sz : Nat) (v0 : Nat) (v1 : Int32) (v2 : Int32) (u1 u2 cs sl : Nat), fX4_init_145 k134 n g sz v0 v1 v2 = some (r, g', u1, u2) → cs + u1 = mc → sl + u2 = ms → sz = kS K + cs → V K E (hRm 1 20 mc ms) 5 (hZ K E none g' mc ms) cs sl sz g 145 [(0, .ref v0), (1, .int v1), (2, .int v2)] [] := by
  intro n
  have hkS : K.2.2.2.1.heap.size = kS K := rfl
  induction n with
  | zero =>
    intro g sz v0 v1 v2 u1 u2 cs sl hf e1 e2 e3
    rw [fX4_init_145] at hf
    cases hf
  | succ n ih =>
    intro g sz v0 v1 v2 u1 u2 cs sl hf e1 e2 e3
    rw [fX4_init_145] at hf
    refine V.iload_n (pc := 145) C dX4_init_145 2 rfl ?_
    refine V.gSta0 (pc := 146) C wd_689 dX4_init_146 ?_
    refine V.iload_n (pc := 149) C dX4_init_149 1 rfl ?_
    refine V.iconst (pc := 150) C dX4_init_150 (v := (1 : Int32)) (by decide) ?_
    refine V.iadd (pc := 151) C dX4_init_151 ?_
    replace hf := okb_some hf
    obtain ⟨h1, hf⟩ := hf
    refine V.taldT (pc := 152) C (by decide) h1 dX4_init_152 ?_
    refine V.icmp_ge (pc := 153) (t := 231) C dX4_init_153 (by decide) (fun c2 => ?_) (fun c2 => ?_)
    · replace hf := ite_t c2 hf
      refine V.iinc (pc := 231) (v := (v1 + (1 : Int32))) (L' := [(1, .int (v1 + (1 : Int32))), (0, .ref v0), (2, .int v2)]) C dX4_init_231 1 rfl rfl (by decide) rfl ?_
      refine V.goto (pc := 234) (t := 134) C dX4_init_234 (by decide) ?_
      refine V.sub (L' := [(0, .ref v0), (1, .int (v1 + (1 : Int32)))]) [1, 0] rfl ?_
      exact hk134 _ _ _ _ _ _ _ _ hf (by omega) (by omega) (by omega)
    replace hf := ite_f c2 hf
    refine V.iload_n (pc := 156) C dX4_init_156 2 rfl ?_
    refine V.gSta0 (pc := 157) C wd_689 dX4_init_157 ?_
    refine V.iload_n (pc := 160) C dX4_init_160 1 rfl ?_
    replace hf := okb_some hf
    obtain ⟨h3, hf⟩ := hf
    refine V.taldT (pc := 161) C (by decide) h3 dX4_init_161 ?_
    refine V.isub (pc := 162) C dX4_init_162 ?_
    refine V.istore_n (pc := 163) (L' := [(3, .int (v2 - ((staB 0).getD v1.toNatClampNeg 0))), (0, .ref v0), (1, .int v1), (2, .int v2)]) C dX4_init_163 (by decide) rfl ?_
    refine V.aload_n (pc := 164) C dX4_init_164 1 rfl ?_
    replace hf := ob_some hf
    obtain ⟨p4, h5, hf⟩ := hf
    refine V.getR (pc := 165) C kX4 (k := 2) (by decide) wd_695 h5 dX4_init_165 ?_
    refine V.iload_n (pc := 168) C dX4_init_168 3 rfl ?_
    refine V.iload_n (pc := 169) C dX4_init_169 2 rfl ?_
    replace hf := ob_some hf
    obtain ⟨g6, h7, hf⟩ := hf
    refine V.iast (pc := 170) C h7 dX4_init_170 ?_
    refine V.aload_n (pc := 171) C dX4_init_171 1 rfl ?_
    replace hf := ob_some hf
    obtain ⟨p8, h9, hf⟩ := hf
    refine V.getR (pc := 172) C kX4 (k := 3) (by decide) wd_696 h9 dX4_init_172 ?_
    refine V.iload_n (pc := 175) C dX4_init_175 3 rfl ?_
    refine V.iload_n (pc := 176) C dX4_init_176 0 rfl ?_
    refine V.gSta1 (pc := 177) C wd_691 dX4_init_177 ?_
    refine V.iload_n (pc := 180) C dX4_init_180 2 rfl ?_
    replace hf := okb_some hf
    obtain ⟨h10, hf⟩ := hf
    refine V.taldT (pc := 181) C (by decide) h10 dX4_init_181 ?_
    refine V.icmp_lt (pc := 182) (t := 189) C dX4_init_182 (by decide) (fun c11 => ?_) (fun c11 => ?_)
    · replace hf := ite_t c11 hf
      refine V.iconst (pc := 189) C dX4_init_189 (v := (0 : Int32)) (by decide) ?_
      refine V.sub (L' := [(0, .ref v0), (1, .int v1), (2, .int v2), (3, .int (v2 - ((staB 0).getD v1.toNatClampNeg 0)))]) [1, 2, 3, 0] rfl ?_
      exact bX4_init_190 C hin hk134 ih hf (by omega) (by omega) (by omega)
    replace hf := ite_f c11 hf
    refine V.iconst (pc := 185) C dX4_init_185 (v := (1 : Int32)) (by decide) ?_
    refine V.goto (pc := 186) (t := 190) C dX4_init_186 (by decide) ?_
    refine V.sub (L' := [(0, .ref v0), (1, .int v1), (2, .int v2), (3, .int (v2 - ((staB 0).getD v1.toNatClampNeg 0)))]) [1, 2, 3, 0] rfl ?_
    exact bX4_init_190 C hin hk134 ih hf (by omega) (by omega) (by omega)
def fX4_init_134  : Nat → PH → Nat → Nat → Int32 → Option (Unit × PH × Nat × Nat)
  | 0, _, _, _, _ => none
  | n + 1, g, sz, v0, v1 =>
  if (3 : Int32) < v1 then (some ((), g, 0, 0)) else
  (okb (inb v1 (staB 0).length) (fX4_init_145 (fX4_init_134 n) FUEL g sz v0 v1 ((staB 0).getD v1.toNatClampNeg 0)))
set_option maxHeartbeats 4000000 in
set_option maxRecDepth 100000 in
theorem bX4_init_134 {K : HK} {E : HE} {r : Unit} {g' : PH} {mc ms : Nat}  (C : VC K E 5 cX4_init RX4 none) (hin : K.2.2.2.2.2.2.2.1.name = "<init>")  : ∀ (n : Nat) (g : PH) (sz : Nat) (v0 : Nat) (v1 : Int32) (u1 u2 cs sl : Nat), fX4_init_134  n g sz v0 v1 = some (r, g', u1, u2) → cs + u1 = mc → sl + u2 = ms → sz = kS K + cs → V K E (hRm 1 20 mc ms) 5 (hZ K E none g' mc ms) cs sl sz g 134 [(0, .ref v0), (1, .int v1)] [] := by
  intro n
  have hkS : K.2.2.2.1.heap.size = kS K := rfl
  induction n with
  | zero =>
    intro g sz v0 v1 u1 u2 cs sl hf e1 e2 e3
    rw [fX4_init_134] at hf
    cases hf
  | succ n ih =>
    intro g sz v0 v1 u1 u2 cs sl hf e1 e2 e3
    rw [fX4_init_134] at hf
    refine V.iload_n (pc := 134) C dX4_init_134 1 rfl ?_
    refine V.iconst (pc := 135) C dX4_init_135 (v := (3 : Int32)) (by decide) ?_
    refine V.icmp_gt (pc := 136) (t := 237) C dX4_init_136 (by decide) (fun c1 => ?_) (fun c1 => ?_)
    · replace hf := ite_t c1 hf
      obtain ⟨f1, f2, f3, f4⟩ := fin4 hf
      clear hf
      subst f1
      subst f2
      refine V.cast (c := mc) (s := ms) (by omega) (by omega) ?_
      exact V.vret (pc := 237) C (by omega) dX4_init_237
    replace hf := ite_f c1 hf
    refine V.gSta0 (pc := 139) C wd_689 dX4_init_139 ?_
    refine V.iload_n (pc := 142) C dX4_init_142 1 rfl ?_
    replace hf := okb_some hf
    obtain ⟨h2, hf⟩ := hf
    refine V.taldT (pc := 143) C (by decide) h2 dX4_init_143 ?_
    refine V.istore_n (pc := 144) (L' := [(2, .int ((staB 0).getD v1.toNatClampNeg 0)), (0, .ref v0), (1, .int v1)]) C dX4_init_144 (by decide) rfl ?_
    refine V.sub (L' := [(0, .ref v0), (1, .int v1), (2, .int ((staB 0).getD v1.toNatClampNeg 0))]) [1, 2, 0] rfl ?_
    exact bX4_init_145 C hin ih _ _ _ _ _ _ _ _ _ _ hf (by omega) (by omega) (by omega)
def fX4_init (sz : Nat) (g : PH) (a0 : Nat) : Option (Unit × PH × Nat × Nat) :=
  bmp 1 256 ((putV (hup g sz (.inl (0, 256, .inl (fun _ => 0)))) a0 4 0 (.ref sz)).bind fun g6 =>
  (bmp 1 256 ((putV (hup g6 (sz + 1) (.inl (2, 256, .inr (.inl (fun _ => 0))))) a0 4 1 (.ref (sz + 1))).bind fun g13 =>
  (bmp 1 78 ((putV (hup g13 ((sz + 1) + 1) (.inl (0, 78, .inl (fun _ => 0)))) a0 4 2 (.ref ((sz + 1) + 1))).bind fun g20 =>
  (bmp 1 78 ((putV (hup g20 (((sz + 1) + 1) + 1) (.inl (3, 78, .inl (fun _ => 0)))) a0 4 3 (.ref (((sz + 1) + 1) + 1))).bind fun g27 =>
  (bmp 1 234 ((putV (hup g27 ((((sz + 1) + 1) + 1) + 1) (.inl (0, 234, .inl (fun _ => 0)))) a0 4 4 (.ref ((((sz + 1) + 1) + 1) + 1))).bind fun g34 =>
  (bmp 1 1872 ((putV (hup g34 (((((sz + 1) + 1) + 1) + 1) + 1) (.inl (0, 1872, .inl (fun _ => 0)))) a0 4 5 (.ref (((((sz + 1) + 1) + 1) + 1) + 1))).bind fun g41 =>
  ((putV g41 a0 4 6 (.int (0 : Int32))).bind fun g43 =>
  (bmp 1 8 ((putV (hup g43 ((((((sz + 1) + 1) + 1) + 1) + 1) + 1) (.inl (0, 8, .inl (fun _ => 0)))) a0 4 7 (.ref ((((((sz + 1) + 1) + 1) + 1) + 1) + 1))).bind fun g50 =>
  ((putV g50 a0 4 8 (.int (0 : Int32))).bind fun g52 =>
  ((putV g52 a0 4 9 (.int (0 : Int32))).bind fun g54 =>
  (bmp 1 9608 ((putV (hup g54 (((((((sz + 1) + 1) + 1) + 1) + 1) + 1) + 1) (.inl (0, 9608, .inl (fun _ => 0)))) a0 4 10 (.ref (((((((sz + 1) + 1) + 1) + 1) + 1) + 1) + 1))).bind fun g61 =>
  (bmp 1 1201 ((putV (hup g61 ((((((((sz + 1) + 1) + 1) + 1) + 1) + 1) + 1) + 1) (.inl (0, 1201, .inl (fun _ => 0)))) a0 4 11 (.ref ((((((((sz + 1) + 1) + 1) + 1) + 1) + 1) + 1) + 1))).bind fun g68 =>
  (bmp 1 1201 ((putV (hup g68 (((((((((sz + 1) + 1) + 1) + 1) + 1) + 1) + 1) + 1) + 1) (.inl (0, 1201, .inl (fun _ => 0)))) a0 4 12 (.ref (((((((((sz + 1) + 1) + 1) + 1) + 1) + 1) + 1) + 1) + 1))).bind fun g75 =>
  (bmp 1 1201 ((putV (hup g75 ((((((((((sz + 1) + 1) + 1) + 1) + 1) + 1) + 1) + 1) + 1) + 1) (.inl (0, 1201, .inl (fun _ => 0)))) a0 4 13 (.ref ((((((((((sz + 1) + 1) + 1) + 1) + 1) + 1) + 1) + 1) + 1) + 1))).bind fun g82 =>
  (bmp 1 4096 ((putV (hup g82 (((((((((((sz + 1) + 1) + 1) + 1) + 1) + 1) + 1) + 1) + 1) + 1) + 1) (.inl (0, 4096, .inl (fun _ => 0)))) a0 4 14 (.ref (((((((((((sz + 1) + 1) + 1) + 1) + 1) + 1) + 1) + 1) + 1) + 1) + 1))).bind fun g89 =>
  (bmp 1 10 ((putV (hup g89 ((((((((((((sz + 1) + 1) + 1) + 1) + 1) + 1) + 1) + 1) + 1) + 1) + 1) + 1) (.inl (0, 10, .inl (fun _ => 0)))) a0 4 15 (.ref ((((((((((((sz + 1) + 1) + 1) + 1) + 1) + 1) + 1) + 1) + 1) + 1) + 1) + 1))).bind fun g96 =>
  (fX4_init_134 FUEL g96 (((((((((((((sz + 1) + 1) + 1) + 1) + 1) + 1) + 1) + 1) + 1) + 1) + 1) + 1) + 1) a0 (1 : Int32))))))))))))))))))))))))))))))
theorem hyX4_init : hMetI yX4_init cX4_init 5 0 := ⟨wd_687, wd_686, wd_15, rfl, by decide +kernel, by decide +kernel, by decide +kernel⟩
set_option maxHeartbeats 4000000 in
set_option maxRecDepth 100000 in
theorem mX4_init (l : Launch) (E : HE) (sz : Nat) {g g' : PH} {a0 : Nat} {r : Unit} {mc ms : Nat} (hf : fX4_init sz g a0 = some (r, g', mc, ms)) : hM l E yX4_init cX4_init 5 none 1 20 mc ms sz g [.ref a0] none g' := by
  refine hM.of (by decide) (Nat.le_of_ble_eq_true rfl) (fun K hl C hin hsz => ?_)
  subst hl
  subst hsz
  have C : VC K E 5 cX4_init RX4 none := C
  have hin := hin rfl
  unfold fX4_init at hf
  have hkS : K.2.2.2.1.heap.size = kS K := rfl
  have e1 : 0 + mc = mc := Nat.zero_add _
  have e2 : 0 + ms = ms := Nat.zero_add _
  have e3 : kS K = kS K + 0 := rfl
  refine V.start (L' := [(0, .ref a0)]) rfl ?_
  refine V.aload_n (pc := 0) C dX4_init_0 0 rfl ?_
  refine V.objInit (pc := 1) C wd_688 wd_25 wd_26 (Nat.le_of_ble_eq_true rfl) ⟨Nat.le_of_ble_eq_true rfl, Nat.le_of_ble_eq_true rfl⟩ dX4_init_1 ?_
  refine V.aload_n (pc := 4) C dX4_init_4 0 rfl ?_
  refine V.sipush (pc := 5) C dX4_init_5 (v := (256 : Int32)) (by decide) ?_
  replace hf := bmp_some hf
  obtain ⟨b1, b2, hf, h3, h4⟩ := hf
  refine V.newI (pc := 8) (M := 256) C wd_106 (by decide) (by decide) (by decide) (by show _ ≤ mc; omega) (by show _ ≤ ms; omega) dX4_init_8 ?_
  replace hf := ob_some hf
  obtain ⟨g6, h7, hf⟩ := hf
  refine V.putF (pc := 10) C kX4 (k := 0) (by decide) wd_693 rfl hin rfl rfl rfl h7 dX4_init_10 ?_
  refine V.aload_n (pc := 13) C dX4_init_13 0 rfl ?_
  refine V.sipush (pc := 14) C dX4_init_14 (v := (256 : Int32)) (by decide) ?_
  replace hf := bmp_some hf
  obtain ⟨b8, b9, hf, h10, h11⟩ := hf
  refine V.newJ (pc := 17) (M := 256) C wd_742 (by decide) (by decide) (by decide) (by show _ ≤ mc; omega) (by show _ ≤ ms; omega) dX4_init_17 ?_
  replace hf := ob_some hf
  obtain ⟨g13, h14, hf⟩ := hf
  refine V.putF (pc := 19) C kX4 (k := 1) (by decide) wd_694 rfl hin rfl rfl rfl h14 dX4_init_19 ?_
  refine V.aload_n (pc := 22) C dX4_init_22 0 rfl ?_
  refine V.bipush (pc := 23) C dX4_init_23 (v := (78 : Int32)) (by decide) ?_
  replace hf := bmp_some hf
  obtain ⟨b15, b16, hf, h17, h18⟩ := hf
  refine V.newI (pc := 25) (M := 78) C wd_106 (by decide) (by decide) (by decide) (by show _ ≤ mc; omega) (by show _ ≤ ms; omega) dX4_init_25 ?_
  replace hf := ob_some hf
  obtain ⟨g20, h21, hf⟩ := hf
  refine V.putF (pc := 27) C kX4 (k := 2) (by decide) wd_695 rfl hin rfl rfl rfl h21 dX4_init_27 ?_
  refine V.aload_n (pc := 30) C dX4_init_30 0 rfl ?_
  refine V.bipush (pc := 31) C dX4_init_31 (v := (78 : Int32)) (by decide) ?_
  replace hf := bmp_some hf
  obtain ⟨b22, b23, hf, h24, h25⟩ := hf
  refine V.newZ (pc := 33) (M := 78) C wd_743 (by decide) (by decide) (by decide) (by show _ ≤ mc; omega) (by show _ ≤ ms; omega) dX4_init_33 ?_
  replace hf := ob_some hf
  obtain ⟨g27, h28, hf⟩ := hf
  refine V.putF (pc := 35) C kX4 (k := 3) (by decide) wd_696 rfl hin rfl rfl rfl h28 dX4_init_35 ?_
  refine V.aload_n (pc := 38) C dX4_init_38 0 rfl ?_
  refine V.sipush (pc := 39) C dX4_init_39 (v := (234 : Int32)) (by decide) ?_
  replace hf := bmp_some hf
  obtain ⟨b29, b30, hf, h31, h32⟩ := hf
  refine V.newI (pc := 42) (M := 234) C wd_106 (by decide) (by decide) (by decide) (by show _ ≤ mc; omega) (by show _ ≤ ms; omega) dX4_init_42 ?_
  replace hf := ob_some hf
  obtain ⟨g34, h35, hf⟩ := hf
  refine V.putF (pc := 44) C kX4 (k := 4) (by decide) wd_697 rfl hin rfl rfl rfl h35 dX4_init_44 ?_
  refine V.aload_n (pc := 47) C dX4_init_47 0 rfl ?_
  refine V.sipush (pc := 48) C dX4_init_48 (v := (1872 : Int32)) (by decide) ?_
  replace hf := bmp_some hf
  obtain ⟨b36, b37, hf, h38, h39⟩ := hf
  refine V.newI (pc := 51) (M := 1872) C wd_106 (by decide) (by decide) (by decide) (by show _ ≤ mc; omega) (by show _ ≤ ms; omega) dX4_init_51 ?_
  replace hf := ob_some hf
  obtain ⟨g41, h42, hf⟩ := hf
  refine V.putF (pc := 53) C kX4 (k := 5) (by decide) wd_698 rfl hin rfl rfl rfl h42 dX4_init_53 ?_
  refine V.aload_n (pc := 56) C dX4_init_56 0 rfl ?_
  refine V.iconst (pc := 57) C dX4_init_57 (v := (0 : Int32)) (by decide) ?_
  replace hf := ob_some hf
  obtain ⟨g43, h44, hf⟩ := hf
  refine V.putX (pc := 58) C kX4 (k := 6) (by decide) wd_699 rfl rfl rfl h44 dX4_init_58 ?_
  refine V.aload_n (pc := 61) C dX4_init_61 0 rfl ?_
  refine V.bipush (pc := 62) C dX4_init_62 (v := (8 : Int32)) (by decide) ?_
  replace hf := bmp_some hf
  obtain ⟨b45, b46, hf, h47, h48⟩ := hf
  refine V.newI (pc := 64) (M := 8) C wd_106 (by decide) (by decide) (by decide) (by show _ ≤ mc; omega) (by show _ ≤ ms; omega) dX4_init_64 ?_
  replace hf := ob_some hf
  obtain ⟨g50, h51, hf⟩ := hf
  refine V.putF (pc := 66) C kX4 (k := 7) (by decide) wd_700 rfl hin rfl rfl rfl h51 dX4_init_66 ?_
  refine V.aload_n (pc := 69) C dX4_init_69 0 rfl ?_
  refine V.iconst (pc := 70) C dX4_init_70 (v := (0 : Int32)) (by decide) ?_
  replace hf := ob_some hf
  obtain ⟨g52, h53, hf⟩ := hf
  refine V.putX (pc := 71) C kX4 (k := 8) (by decide) wd_701 rfl rfl rfl h53 dX4_init_71 ?_
  refine V.aload_n (pc := 74) C dX4_init_74 0 rfl ?_
  refine V.iconst (pc := 75) C dX4_init_75 (v := (0 : Int32)) (by decide) ?_
  replace hf := ob_some hf
  obtain ⟨g54, h55, hf⟩ := hf
  refine V.putX (pc := 76) C kX4 (k := 9) (by decide) wd_702 rfl rfl rfl h55 dX4_init_76 ?_
  refine V.aload_n (pc := 79) C dX4_init_79 0 rfl ?_
  refine V.sipush (pc := 80) C dX4_init_80 (v := (9608 : Int32)) (by decide) ?_
  replace hf := bmp_some hf
  obtain ⟨b56, b57, hf, h58, h59⟩ := hf
  refine V.newI (pc := 83) (M := 9608) C wd_106 (by decide) (by decide) (by decide) (by show _ ≤ mc; omega) (by show _ ≤ ms; omega) dX4_init_83 ?_
  replace hf := ob_some hf
  obtain ⟨g61, h62, hf⟩ := hf
  refine V.putF (pc := 85) C kX4 (k := 10) (by decide) wd_703 rfl hin rfl rfl rfl h62 dX4_init_85 ?_
  refine V.aload_n (pc := 88) C dX4_init_88 0 rfl ?_
  refine V.sipush (pc := 89) C dX4_init_89 (v := (1201 : Int32)) (by decide) ?_
  replace hf := bmp_some hf
  obtain ⟨b63, b64, hf, h65, h66⟩ := hf
  refine V.newI (pc := 92) (M := 1201) C wd_106 (by decide) (by decide) (by decide) (by show _ ≤ mc; omega) (by show _ ≤ ms; omega) dX4_init_92 ?_
  replace hf := ob_some hf
  obtain ⟨g68, h69, hf⟩ := hf
  refine V.putF (pc := 94) C kX4 (k := 11) (by decide) wd_704 rfl hin rfl rfl rfl h69 dX4_init_94 ?_
  refine V.aload_n (pc := 97) C dX4_init_97 0 rfl ?_
  refine V.sipush (pc := 98) C dX4_init_98 (v := (1201 : Int32)) (by decide) ?_
  replace hf := bmp_some hf
  obtain ⟨b70, b71, hf, h72, h73⟩ := hf
  refine V.newI (pc := 101) (M := 1201) C wd_106 (by decide) (by decide) (by decide) (by show _ ≤ mc; omega) (by show _ ≤ ms; omega) dX4_init_101 ?_
  replace hf := ob_some hf
  obtain ⟨g75, h76, hf⟩ := hf
  refine V.putF (pc := 103) C kX4 (k := 12) (by decide) wd_705 rfl hin rfl rfl rfl h76 dX4_init_103 ?_
  refine V.aload_n (pc := 106) C dX4_init_106 0 rfl ?_
  refine V.sipush (pc := 107) C dX4_init_107 (v := (1201 : Int32)) (by decide) ?_
  replace hf := bmp_some hf
  obtain ⟨b77, b78, hf, h79, h80⟩ := hf
  refine V.newI (pc := 110) (M := 1201) C wd_106 (by decide) (by decide) (by decide) (by show _ ≤ mc; omega) (by show _ ≤ ms; omega) dX4_init_110 ?_
  replace hf := ob_some hf
  obtain ⟨g82, h83, hf⟩ := hf
  refine V.putF (pc := 112) C kX4 (k := 13) (by decide) wd_706 rfl hin rfl rfl rfl h83 dX4_init_112 ?_
  refine V.aload_n (pc := 115) C dX4_init_115 0 rfl ?_
  refine V.sipush (pc := 116) C dX4_init_116 (v := (4096 : Int32)) (by decide) ?_
  replace hf := bmp_some hf
  obtain ⟨b84, b85, hf, h86, h87⟩ := hf
  refine V.newI (pc := 119) (M := 4096) C wd_106 (by decide) (by decide) (by decide) (by show _ ≤ mc; omega) (by show _ ≤ ms; omega) dX4_init_119 ?_
  replace hf := ob_some hf
  obtain ⟨g89, h90, hf⟩ := hf
  refine V.putF (pc := 121) C kX4 (k := 14) (by decide) wd_707 rfl hin rfl rfl rfl h90 dX4_init_121 ?_
  refine V.aload_n (pc := 124) C dX4_init_124 0 rfl ?_
  refine V.bipush (pc := 125) C dX4_init_125 (v := (10 : Int32)) (by decide) ?_
  replace hf := bmp_some hf
  obtain ⟨b91, b92, hf, h93, h94⟩ := hf
  refine V.newI (pc := 127) (M := 10) C wd_106 (by decide) (by decide) (by decide) (by show _ ≤ mc; omega) (by show _ ≤ ms; omega) dX4_init_127 ?_
  replace hf := ob_some hf
  obtain ⟨g96, h97, hf⟩ := hf
  refine V.putF (pc := 129) C kX4 (k := 15) (by decide) wd_708 rfl hin rfl rfl rfl h97 dX4_init_129 ?_
  refine V.iconst (pc := 132) C dX4_init_132 (v := (1 : Int32)) (by decide) ?_
  refine V.istore_n (pc := 133) (L' := [(1, .int (1 : Int32)), (0, .ref a0)]) C dX4_init_133 (by decide) rfl ?_
  refine V.sub (L' := [(0, .ref a0), (1, .int (1 : Int32))]) [1, 0] rfl ?_
  exact bX4_init_134 C hin  _ _ _ _ _ _ _ _ _ hf (by omega) (by omega) (by omega)
theorem dX4_answerOf_0 : decode cX4_answerOf 0 = .ok (.iload_n 1, 1) := by decide +kernel
theorem dX4_answerOf_1 : decode cX4_answerOf 1 = .ok (.ifCond .lt 21, 3) := by decide +kernel
theorem dX4_answerOf_4 : decode cX4_answerOf 4 = .ok (.iload_n 1, 1) := by decide +kernel
theorem dX4_answerOf_5 : decode cX4_answerOf 5 = .ok (.aload_n 0, 1) := by decide +kernel
theorem dX4_answerOf_6 : decode cX4_answerOf 6 = .ok (.getfield 9, 3) := by decide +kernel
theorem dX4_answerOf_9 : decode cX4_answerOf 9 = .ok (.arraylength, 1) := by decide +kernel
theorem dX4_answerOf_10 : decode cX4_answerOf 10 = .ok (.if_icmp .ge 12, 3) := by decide +kernel
theorem dX4_answerOf_13 : decode cX4_answerOf 13 = .ok (.aload_n 0, 1) := by decide +kernel
theorem dX4_answerOf_14 : decode cX4_answerOf 14 = .ok (.getfield 9, 3) := by decide +kernel
theorem dX4_answerOf_17 : decode cX4_answerOf 17 = .ok (.iload_n 1, 1) := by decide +kernel
theorem dX4_answerOf_18 : decode cX4_answerOf 18 = .ok (.iaload, 1) := by decide +kernel
theorem dX4_answerOf_19 : decode cX4_answerOf 19 = .ok (.goto 4, 3) := by decide +kernel
theorem dX4_answerOf_22 : decode cX4_answerOf 22 = .ok (.iconst (-1), 1) := by decide +kernel
theorem dX4_answerOf_23 : decode cX4_answerOf 23 = .ok (.ireturn, 1) := by decide +kernel
def fX4_answerOf (g : PH) (a0 : Nat) (a1 : Int32) : Option (Int32 × PH) :=
  okb (isO g a0 4) (if a1 < 0 then (some ((-1 : Int32), g)) else
  ((getR g a0 4 0).bind fun p2 =>
  ((alen g p2).bind fun x4 =>
  (if x4 ≤ a1 then (some ((-1 : Int32), g)) else
  ((getR g a0 4 0).bind fun p7 =>
  ((ldI g p7 0 a1).bind fun x9 =>
  (some (x9, g))))))))
theorem oX4_answerOf {g : PH} {a0 : Nat} {a1 : Int32} {q : (Int32 × PH)} (h : fX4_answerOf g a0 a1 = some q) : isO g a0 4 = true := by unfold fX4_answerOf at h; exact (okb_some h).1
theorem hyX4_answerOf : hMet yX4_answerOf RX4 cX4_answerOf 2 (some .int) 1 := ⟨wd_809, wd_807, wd_808, wd_15, rfl, by decide +kernel, by decide +kernel, by decide +kernel⟩
set_option maxHeartbeats 4000000 in
set_option maxRecDepth 100000 in
theorem mX4_answerOf (l : Launch) (E : HE) (sz : Nat) {g g' : PH} {a0 : Nat} {a1 : Int32} {r : Int32} (hf : fX4_answerOf g a0 a1 = some (r, g')) : hM l E yX4_answerOf cX4_answerOf 2 (some .int) 0 0 0 0 sz g [.ref a0, .int a1] (some (.int r)) g' := by
  refine hM.of (by decide) (Nat.le_of_ble_eq_true rfl) (fun K hl C hin hsz => ?_)
  subst hl
  subst hsz
  have C : VC K E 2 cX4_answerOf RX4 (some .int) := C
  unfold fX4_answerOf at hf
  replace hf := okb_some hf
  obtain ⟨ho, hf⟩ := hf
  refine V.start (L' := [(0, .ref a0), (1, .int a1)]) rfl ?_
  refine V.iload_n (pc := 0) C dX4_answerOf_0 1 rfl ?_
  refine V.if_lt (pc := 1) (t := 22) C dX4_answerOf_1 (by decide) (fun c1 => ?_) (fun c1 => ?_)
  · replace hf := ite_t c1 hf
    refine V.iconst (pc := 22) C dX4_answerOf_22 (v := (-1 : Int32)) (by decide) ?_
    obtain ⟨f1, f2⟩ := fin2 hf
    clear hf
    subst f1
    subst f2
    exact V.iret (pc := 23) C rfl dX4_answerOf_23
  replace hf := ite_f c1 hf
  refine V.iload_n (pc := 4) C dX4_answerOf_4 1 rfl ?_
  refine V.aload_n (pc := 5) C dX4_answerOf_5 0 rfl ?_
  replace hf := ob_some hf
  obtain ⟨p2, h3, hf⟩ := hf
  refine V.getR (pc := 6) C kX4 (k := 0) (by decide) wd_693 h3 dX4_answerOf_6 ?_
  replace hf := ob_some hf
  obtain ⟨x4, h5, hf⟩ := hf
  refine V.alen (pc := 9) C h5 dX4_answerOf_9 ?_
  refine V.icmp_ge (pc := 10) (t := 22) C dX4_answerOf_10 (by decide) (fun c6 => ?_) (fun c6 => ?_)
  · replace hf := ite_t c6 hf
    refine V.iconst (pc := 22) C dX4_answerOf_22 (v := (-1 : Int32)) (by decide) ?_
    obtain ⟨f1, f2⟩ := fin2 hf
    clear hf
    subst f1
    subst f2
    exact V.iret (pc := 23) C rfl dX4_answerOf_23
  replace hf := ite_f c6 hf
  refine V.aload_n (pc := 13) C dX4_answerOf_13 0 rfl ?_
  replace hf := ob_some hf
  obtain ⟨p7, h8, hf⟩ := hf
  refine V.getR (pc := 14) C kX4 (k := 0) (by decide) wd_693 h8 dX4_answerOf_14 ?_
  refine V.iload_n (pc := 17) C dX4_answerOf_17 1 rfl ?_
  replace hf := ob_some hf
  obtain ⟨x9, h10, hf⟩ := hf
  refine V.iald (pc := 18) C h10 dX4_answerOf_18 ?_
  refine V.goto (pc := 19) (t := 23) C dX4_answerOf_19 (by decide) ?_
  obtain ⟨f1, f2⟩ := fin2 hf
  clear hf
  subst f1
  subst f2
  exact V.iret (pc := 23) C rfl dX4_answerOf_23
theorem dX4_walkedOp_0 : decode cX4_walkedOp 0 = .ok (.iload_n 1, 1) := by decide +kernel
theorem dX4_walkedOp_1 : decode cX4_walkedOp 1 = .ok (.ifCond .lt 22, 3) := by decide +kernel
theorem dX4_walkedOp_4 : decode cX4_walkedOp 4 = .ok (.iload_n 1, 1) := by decide +kernel
theorem dX4_walkedOp_5 : decode cX4_walkedOp 5 = .ok (.aload_n 0, 1) := by decide +kernel
theorem dX4_walkedOp_6 : decode cX4_walkedOp 6 = .ok (.getfield 15, 3) := by decide +kernel
theorem dX4_walkedOp_9 : decode cX4_walkedOp 9 = .ok (.arraylength, 1) := by decide +kernel
theorem dX4_walkedOp_10 : decode cX4_walkedOp 10 = .ok (.if_icmp .ge 13, 3) := by decide +kernel
theorem dX4_walkedOp_13 : decode cX4_walkedOp 13 = .ok (.iload_n 2, 1) := by decide +kernel
theorem dX4_walkedOp_14 : decode cX4_walkedOp 14 = .ok (.ifCond .lt 9, 3) := by decide +kernel
theorem dX4_walkedOp_17 : decode cX4_walkedOp 17 = .ok (.iload_n 2, 1) := by decide +kernel
theorem dX4_walkedOp_18 : decode cX4_walkedOp 18 = .ok (.bipush 9, 2) := by decide +kernel
theorem dX4_walkedOp_20 : decode cX4_walkedOp 20 = .ok (.if_icmp .lt 5, 3) := by decide +kernel
theorem dX4_walkedOp_23 : decode cX4_walkedOp 23 = .ok (.iconst (-1), 1) := by decide +kernel
theorem dX4_walkedOp_24 : decode cX4_walkedOp 24 = .ok (.ireturn, 1) := by decide +kernel
theorem dX4_walkedOp_25 : decode cX4_walkedOp 25 = .ok (.aload_n 0, 1) := by decide +kernel
theorem dX4_walkedOp_26 : decode cX4_walkedOp 26 = .ok (.getfield 15, 3) := by decide +kernel
theorem dX4_walkedOp_29 : decode cX4_walkedOp 29 = .ok (.iload_n 1, 1) := by decide +kernel
theorem dX4_walkedOp_30 : decode cX4_walkedOp 30 = .ok (.laload, 1) := by decide +kernel
theorem dX4_walkedOp_31 : decode cX4_walkedOp 31 = .ok (.bipush 7, 2) := by decide +kernel
theorem dX4_walkedOp_33 : decode cX4_walkedOp 33 = .ok (.iload_n 2, 1) := by decide +kernel
theorem dX4_walkedOp_34 : decode cX4_walkedOp 34 = .ok (.imul, 1) := by decide +kernel
theorem dX4_walkedOp_35 : decode cX4_walkedOp 35 = .ok (.lushr, 1) := by decide +kernel
theorem dX4_walkedOp_36 : decode cX4_walkedOp 36 = .ok (.l2i, 1) := by decide +kernel
theorem dX4_walkedOp_37 : decode cX4_walkedOp 37 = .ok (.bipush 127, 2) := by decide +kernel
theorem dX4_walkedOp_39 : decode cX4_walkedOp 39 = .ok (.iand, 1) := by decide +kernel
theorem dX4_walkedOp_40 : decode cX4_walkedOp 40 = .ok (.istore_n 3, 1) := by decide +kernel
theorem dX4_walkedOp_41 : decode cX4_walkedOp 41 = .ok (.bipush 100, 2) := by decide +kernel
theorem dX4_walkedOp_43 : decode cX4_walkedOp 43 = .ok (.iload_n 3, 1) := by decide +kernel
theorem dX4_walkedOp_44 : decode cX4_walkedOp 44 = .ok (.iconst 3, 1) := by decide +kernel
theorem dX4_walkedOp_45 : decode cX4_walkedOp 45 = .ok (.ishr, 1) := by decide +kernel
theorem dX4_walkedOp_46 : decode cX4_walkedOp 46 = .ok (.imul, 1) := by decide +kernel
theorem dX4_walkedOp_47 : decode cX4_walkedOp 47 = .ok (.bipush 10, 2) := by decide +kernel
theorem dX4_walkedOp_49 : decode cX4_walkedOp 49 = .ok (.iload_n 3, 1) := by decide +kernel
theorem dX4_walkedOp_50 : decode cX4_walkedOp 50 = .ok (.iconst 2, 1) := by decide +kernel
theorem dX4_walkedOp_51 : decode cX4_walkedOp 51 = .ok (.ishr, 1) := by decide +kernel
theorem dX4_walkedOp_52 : decode cX4_walkedOp 52 = .ok (.iconst 1, 1) := by decide +kernel
theorem dX4_walkedOp_53 : decode cX4_walkedOp 53 = .ok (.iand, 1) := by decide +kernel
theorem dX4_walkedOp_54 : decode cX4_walkedOp 54 = .ok (.imul, 1) := by decide +kernel
theorem dX4_walkedOp_55 : decode cX4_walkedOp 55 = .ok (.iadd, 1) := by decide +kernel
theorem dX4_walkedOp_56 : decode cX4_walkedOp 56 = .ok (.iload_n 3, 1) := by decide +kernel
theorem dX4_walkedOp_57 : decode cX4_walkedOp 57 = .ok (.iconst 3, 1) := by decide +kernel
theorem dX4_walkedOp_58 : decode cX4_walkedOp 58 = .ok (.iand, 1) := by decide +kernel
theorem dX4_walkedOp_59 : decode cX4_walkedOp 59 = .ok (.iadd, 1) := by decide +kernel
theorem dX4_walkedOp_60 : decode cX4_walkedOp 60 = .ok (.ireturn, 1) := by decide +kernel
def fX4_walkedOp (g : PH) (a0 : Nat) (a1 : Int32) (a2 : Int32) : Option (Int32 × PH) :=
  okb (isO g a0 4) (if a1 < 0 then (some ((-1 : Int32), g)) else
  ((getR g a0 4 1).bind fun p2 =>
  ((alen g p2).bind fun x4 =>
  (if x4 ≤ a1 then (some ((-1 : Int32), g)) else
  (if a2 < 0 then (some ((-1 : Int32), g)) else
  (if a2 < (9 : Int32) then ((getR g a0 4 1).bind fun p9 =>
  ((ldL g p9 a1).bind fun x11 =>
  (some (((((100 : Int32) * (((x11.toUInt64 >>> (((7 : Int32) * a2).toInt64.toUInt64 &&& Int64.toUInt64 63)).toInt64.toInt32 &&& (127 : Int32)) >>> ((3 : Int32) &&& 31))) + ((10 : Int32) * ((((x11.toUInt64 >>> (((7 : Int32) * a2).toInt64.toUInt64 &&& Int64.toUInt64 63)).toInt64.toInt32 &&& (127 : Int32)) >>> ((2 : Int32) &&& 31)) &&& (1 : Int32)))) + (((x11.toUInt64 >>> (((7 : Int32) * a2).toInt64.toUInt64 &&& Int64.toUInt64 63)).toInt64.toInt32 &&& (127 : Int32)) &&& (3 : Int32))), g)))) else
  (some ((-1 : Int32), g))))))))
theorem oX4_walkedOp {g : PH} {a0 : Nat} {a1 : Int32} {a2 : Int32} {q : (Int32 × PH)} (h : fX4_walkedOp g a0 a1 a2 = some q) : isO g a0 4 = true := by unfold fX4_walkedOp at h; exact (okb_some h).1
theorem hyX4_walkedOp : hMet yX4_walkedOp RX4 cX4_walkedOp 4 (some .int) 2 := ⟨wd_817, wd_815, wd_816, wd_15, rfl, by decide +kernel, by decide +kernel, by decide +kernel⟩
set_option maxHeartbeats 4000000 in
set_option maxRecDepth 100000 in
theorem mX4_walkedOp (l : Launch) (E : HE) (sz : Nat) {g g' : PH} {a0 : Nat} {a1 : Int32} {a2 : Int32} {r : Int32} (hf : fX4_walkedOp g a0 a1 a2 = some (r, g')) : hM l E yX4_walkedOp cX4_walkedOp 4 (some .int) 0 0 0 0 sz g [.ref a0, .int a1, .int a2] (some (.int r)) g' := by
  refine hM.of (by decide) (Nat.le_of_ble_eq_true rfl) (fun K hl C hin hsz => ?_)
  subst hl
  subst hsz
  have C : VC K E 4 cX4_walkedOp RX4 (some .int) := C
  unfold fX4_walkedOp at hf
  replace hf := okb_some hf
  obtain ⟨ho, hf⟩ := hf
  refine V.start (L' := [(0, .ref a0), (1, .int a1), (2, .int a2)]) rfl ?_
  refine V.iload_n (pc := 0) C dX4_walkedOp_0 1 rfl ?_
  refine V.if_lt (pc := 1) (t := 23) C dX4_walkedOp_1 (by decide) (fun c1 => ?_) (fun c1 => ?_)
  · replace hf := ite_t c1 hf
    refine V.iconst (pc := 23) C dX4_walkedOp_23 (v := (-1 : Int32)) (by decide) ?_
    obtain ⟨f1, f2⟩ := fin2 hf
    clear hf
    subst f1
    subst f2
    exact V.iret (pc := 24) C rfl dX4_walkedOp_24
  replace hf := ite_f c1 hf
  refine V.iload_n (pc := 4) C dX4_walkedOp_4 1 rfl ?_
  refine V.aload_n (pc := 5) C dX4_walkedOp_5 0 rfl ?_
  replace hf := ob_some hf
  obtain ⟨p2, h3, hf⟩ := hf
  refine V.getR (pc := 6) C kX4 (k := 1) (by decide) wd_694 h3 dX4_walkedOp_6 ?_
  replace hf := ob_some hf
  obtain ⟨x4, h5, hf⟩ := hf
  refine V.alen (pc := 9) C h5 dX4_walkedOp_9 ?_
  refine V.icmp_ge (pc := 10) (t := 23) C dX4_walkedOp_10 (by decide) (fun c6 => ?_) (fun c6 => ?_)
  · replace hf := ite_t c6 hf
    refine V.iconst (pc := 23) C dX4_walkedOp_23 (v := (-1 : Int32)) (by decide) ?_
    obtain ⟨f1, f2⟩ := fin2 hf
    clear hf
    subst f1
    subst f2
    exact V.iret (pc := 24) C rfl dX4_walkedOp_24
  replace hf := ite_f c6 hf
  refine V.iload_n (pc := 13) C dX4_walkedOp_13 2 rfl ?_
  refine V.if_lt (pc := 14) (t := 23) C dX4_walkedOp_14 (by decide) (fun c7 => ?_) (fun c7 => ?_)
  · replace hf := ite_t c7 hf
    refine V.iconst (pc := 23) C dX4_walkedOp_23 (v := (-1 : Int32)) (by decide) ?_
    obtain ⟨f1, f2⟩ := fin2 hf
    clear hf
    subst f1
    subst f2
    exact V.iret (pc := 24) C rfl dX4_walkedOp_24
  replace hf := ite_f c7 hf
  refine V.iload_n (pc := 17) C dX4_walkedOp_17 2 rfl ?_
  refine V.bipush (pc := 18) C dX4_walkedOp_18 (v := (9 : Int32)) (by decide) ?_
  refine V.icmp_lt (pc := 20) (t := 25) C dX4_walkedOp_20 (by decide) (fun c8 => ?_) (fun c8 => ?_)
  · replace hf := ite_t c8 hf
    refine V.aload_n (pc := 25) C dX4_walkedOp_25 0 rfl ?_
    replace hf := ob_some hf
    obtain ⟨p9, h10, hf⟩ := hf
    refine V.getR (pc := 26) C kX4 (k := 1) (by decide) wd_694 h10 dX4_walkedOp_26 ?_
    refine V.iload_n (pc := 29) C dX4_walkedOp_29 1 rfl ?_
    replace hf := ob_some hf
    obtain ⟨x11, h12, hf⟩ := hf
    refine V.lald (pc := 30) C h12 dX4_walkedOp_30 ?_
    refine V.bipush (pc := 31) C dX4_walkedOp_31 (v := (7 : Int32)) (by decide) ?_
    refine V.iload_n (pc := 33) C dX4_walkedOp_33 2 rfl ?_
    refine V.imul (pc := 34) C dX4_walkedOp_34 ?_
    refine V.lushr (pc := 35) C dX4_walkedOp_35 ?_
    refine V.l2i (pc := 36) C dX4_walkedOp_36 ?_
    refine V.bipush (pc := 37) C dX4_walkedOp_37 (v := (127 : Int32)) (by decide) ?_
    refine V.iand (pc := 39) C dX4_walkedOp_39 ?_
    refine V.istore_n (pc := 40) (L' := [(3, .int ((x11.toUInt64 >>> (((7 : Int32) * a2).toInt64.toUInt64 &&& Int64.toUInt64 63)).toInt64.toInt32 &&& (127 : Int32))), (0, .ref a0), (1, .int a1), (2, .int a2)]) C dX4_walkedOp_40 (by decide) rfl ?_
    refine V.bipush (pc := 41) C dX4_walkedOp_41 (v := (100 : Int32)) (by decide) ?_
    refine V.iload_n (pc := 43) C dX4_walkedOp_43 0 rfl ?_
    refine V.iconst (pc := 44) C dX4_walkedOp_44 (v := (3 : Int32)) (by decide) ?_
    refine V.ishr (pc := 45) C dX4_walkedOp_45 ?_
    refine V.imul (pc := 46) C dX4_walkedOp_46 ?_
    refine V.bipush (pc := 47) C dX4_walkedOp_47 (v := (10 : Int32)) (by decide) ?_
    refine V.iload_n (pc := 49) C dX4_walkedOp_49 0 rfl ?_
    refine V.iconst (pc := 50) C dX4_walkedOp_50 (v := (2 : Int32)) (by decide) ?_
    refine V.ishr (pc := 51) C dX4_walkedOp_51 ?_
    refine V.iconst (pc := 52) C dX4_walkedOp_52 (v := (1 : Int32)) (by decide) ?_
    refine V.iand (pc := 53) C dX4_walkedOp_53 ?_
    refine V.imul (pc := 54) C dX4_walkedOp_54 ?_
    refine V.iadd (pc := 55) C dX4_walkedOp_55 ?_
    refine V.iload_n (pc := 56) C dX4_walkedOp_56 0 rfl ?_
    refine V.iconst (pc := 57) C dX4_walkedOp_57 (v := (3 : Int32)) (by decide) ?_
    refine V.iand (pc := 58) C dX4_walkedOp_58 ?_
    refine V.iadd (pc := 59) C dX4_walkedOp_59 ?_
    obtain ⟨f1, f2⟩ := fin2 hf
    clear hf
    subst f1
    subst f2
    exact V.iret (pc := 60) C rfl dX4_walkedOp_60
  replace hf := ite_f c8 hf
  refine V.iconst (pc := 23) C dX4_walkedOp_23 (v := (-1 : Int32)) (by decide) ?_
  obtain ⟨f1, f2⟩ := fin2 hf
  clear hf
  subst f1
  subst f2
  exact V.iret (pc := 24) C rfl dX4_walkedOp_24
theorem dX4_behindStep_0 : decode cX4_behindStep 0 = .ok (.aload_n 0, 1) := by decide +kernel
theorem dX4_behindStep_1 : decode cX4_behindStep 1 = .ok (.getfield 19, 3) := by decide +kernel
theorem dX4_behindStep_4 : decode cX4_behindStep 4 = .ok (.iload 4, 2) := by decide +kernel
theorem dX4_behindStep_6 : decode cX4_behindStep 6 = .ok (.iaload, 1) := by decide +kernel
theorem dX4_behindStep_7 : decode cX4_behindStep 7 = .ok (.istore 6, 2) := by decide +kernel
theorem dX4_behindStep_9 : decode cX4_behindStep 9 = .ok (.iload 5, 2) := by decide +kernel
theorem dX4_behindStep_11 : decode cX4_behindStep 11 = .ok (.istore 7, 2) := by decide +kernel
theorem dX4_behindStep_13 : decode cX4_behindStep 13 = .ok (.iload_n 3, 1) := by decide +kernel
theorem dX4_behindStep_14 : decode cX4_behindStep 14 = .ok (.iconst 1, 1) := by decide +kernel
theorem dX4_behindStep_15 : decode cX4_behindStep 15 = .ok (.isub, 1) := by decide +kernel
theorem dX4_behindStep_16 : decode cX4_behindStep 16 = .ok (.istore 8, 2) := by decide +kernel
theorem dX4_behindStep_18 : decode cX4_behindStep 18 = .ok (.iconst 0, 1) := by decide +kernel
theorem dX4_behindStep_19 : decode cX4_behindStep 19 = .ok (.istore 9, 2) := by decide +kernel
theorem dX4_behindStep_21 : decode cX4_behindStep 21 = .ok (.iload 9, 2) := by decide +kernel
theorem dX4_behindStep_23 : decode cX4_behindStep 23 = .ok (.iconst 2, 1) := by decide +kernel
theorem dX4_behindStep_24 : decode cX4_behindStep 24 = .ok (.iload 6, 2) := by decide +kernel
theorem dX4_behindStep_26 : decode cX4_behindStep 26 = .ok (.imul, 1) := by decide +kernel
theorem dX4_behindStep_27 : decode cX4_behindStep 27 = .ok (.if_icmp .ge 120, 3) := by decide +kernel
theorem dX4_behindStep_30 : decode cX4_behindStep 30 = .ok (.iload 7, 2) := by decide +kernel
theorem dX4_behindStep_32 : decode cX4_behindStep 32 = .ok (.iconst 4, 1) := by decide +kernel
theorem dX4_behindStep_33 : decode cX4_behindStep 33 = .ok (.if_icmp .eq 114, 3) := by decide +kernel
theorem dX4_behindStep_36 : decode cX4_behindStep 36 = .ok (.iload 9, 2) := by decide +kernel
theorem dX4_behindStep_38 : decode cX4_behindStep 38 = .ok (.iload 6, 2) := by decide +kernel
theorem dX4_behindStep_40 : decode cX4_behindStep 40 = .ok (.if_icmp .ne 8, 3) := by decide +kernel
theorem dX4_behindStep_43 : decode cX4_behindStep 43 = .ok (.iload_n 3, 1) := by decide +kernel
theorem dX4_behindStep_44 : decode cX4_behindStep 44 = .ok (.iconst 1, 1) := by decide +kernel
theorem dX4_behindStep_45 : decode cX4_behindStep 45 = .ok (.isub, 1) := by decide +kernel
theorem dX4_behindStep_46 : decode cX4_behindStep 46 = .ok (.istore 8, 2) := by decide +kernel
theorem dX4_behindStep_48 : decode cX4_behindStep 48 = .ok (.aload_n 0, 1) := by decide +kernel
theorem dX4_behindStep_49 : decode cX4_behindStep 49 = .ok (.getfield 26, 3) := by decide +kernel
theorem dX4_behindStep_52 : decode cX4_behindStep 52 = .ok (.iload 4, 2) := by decide +kernel
theorem dX4_behindStep_54 : decode cX4_behindStep 54 = .ok (.iconst 3, 1) := by decide +kernel
theorem dX4_behindStep_55 : decode cX4_behindStep 55 = .ok (.imul, 1) := by decide +kernel
theorem dX4_behindStep_56 : decode cX4_behindStep 56 = .ok (.iload 9, 2) := by decide +kernel
theorem dX4_behindStep_58 : decode cX4_behindStep 58 = .ok (.iload 6, 2) := by decide +kernel
theorem dX4_behindStep_60 : decode cX4_behindStep 60 = .ok (.if_icmp .ge 8, 3) := by decide +kernel
theorem dX4_behindStep_63 : decode cX4_behindStep 63 = .ok (.iload 9, 2) := by decide +kernel
theorem dX4_behindStep_65 : decode cX4_behindStep 65 = .ok (.goto 8, 3) := by decide +kernel
theorem dX4_behindStep_68 : decode cX4_behindStep 68 = .ok (.iload 9, 2) := by decide +kernel
theorem dX4_behindStep_70 : decode cX4_behindStep 70 = .ok (.iload 6, 2) := by decide +kernel
theorem dX4_behindStep_72 : decode cX4_behindStep 72 = .ok (.isub, 1) := by decide +kernel
theorem dX4_behindStep_73 : decode cX4_behindStep 73 = .ok (.iadd, 1) := by decide +kernel
theorem dX4_behindStep_74 : decode cX4_behindStep 74 = .ok (.iaload, 1) := by decide +kernel
theorem dX4_behindStep_75 : decode cX4_behindStep 75 = .ok (.istore 10, 2) := by decide +kernel
theorem dX4_behindStep_77 : decode cX4_behindStep 77 = .ok (.aload_n 1, 1) := by decide +kernel
theorem dX4_behindStep_78 : decode cX4_behindStep 78 = .ok (.iload 9, 2) := by decide +kernel
theorem dX4_behindStep_80 : decode cX4_behindStep 80 = .ok (.iload 6, 2) := by decide +kernel
theorem dX4_behindStep_82 : decode cX4_behindStep 82 = .ok (.if_icmp .ge 7, 3) := by decide +kernel
theorem dX4_behindStep_85 : decode cX4_behindStep 85 = .ok (.iload_n 2, 1) := by decide +kernel
theorem dX4_behindStep_86 : decode cX4_behindStep 86 = .ok (.goto 6, 3) := by decide +kernel
theorem dX4_behindStep_89 : decode cX4_behindStep 89 = .ok (.iconst 1, 1) := by decide +kernel
theorem dX4_behindStep_90 : decode cX4_behindStep 90 = .ok (.iload_n 2, 1) := by decide +kernel
theorem dX4_behindStep_91 : decode cX4_behindStep 91 = .ok (.isub, 1) := by decide +kernel
theorem dX4_behindStep_92 : decode cX4_behindStep 92 = .ok (.iload 10, 2) := by decide +kernel
theorem dX4_behindStep_94 : decode cX4_behindStep 94 = .ok (.iload 7, 2) := by decide +kernel
theorem dX4_behindStep_96 : decode cX4_behindStep 96 = .ok (.invokevirtual 109, 3) := by decide +kernel
theorem dX4_behindStep_99 : decode cX4_behindStep 99 = .ok (.istore 11, 2) := by decide +kernel
theorem dX4_behindStep_101 : decode cX4_behindStep 101 = .ok (.iload 10, 2) := by decide +kernel
theorem dX4_behindStep_103 : decode cX4_behindStep 103 = .ok (.ifCond .ne 16, 3) := by decide +kernel
theorem dX4_behindStep_106 : decode cX4_behindStep 106 = .ok (.iload 11, 2) := by decide +kernel
theorem dX4_behindStep_108 : decode cX4_behindStep 108 = .ok (.iconst 2, 1) := by decide +kernel
theorem dX4_behindStep_109 : decode cX4_behindStep 109 = .ok (.ishr, 1) := by decide +kernel
theorem dX4_behindStep_110 : decode cX4_behindStep 110 = .ok (.iload 8, 2) := by decide +kernel
theorem dX4_behindStep_112 : decode cX4_behindStep 112 = .ok (.if_icmp .eq 7, 3) := by decide +kernel
theorem dX4_behindStep_115 : decode cX4_behindStep 115 = .ok (.iconst 4, 1) := by decide +kernel
theorem dX4_behindStep_116 : decode cX4_behindStep 116 = .ok (.goto 7, 3) := by decide +kernel
theorem dX4_behindStep_119 : decode cX4_behindStep 119 = .ok (.iload 11, 2) := by decide +kernel
theorem dX4_behindStep_121 : decode cX4_behindStep 121 = .ok (.iconst 3, 1) := by decide +kernel
theorem dX4_behindStep_122 : decode cX4_behindStep 122 = .ok (.iand, 1) := by decide +kernel
theorem dX4_behindStep_123 : decode cX4_behindStep 123 = .ok (.istore 7, 2) := by decide +kernel
theorem dX4_behindStep_125 : decode cX4_behindStep 125 = .ok (.iload 10, 2) := by decide +kernel
theorem dX4_behindStep_127 : decode cX4_behindStep 127 = .ok (.ifCond .ne 8, 3) := by decide +kernel
theorem dX4_behindStep_130 : decode cX4_behindStep 130 = .ok (.iload 8, 2) := by decide +kernel
theorem dX4_behindStep_132 : decode cX4_behindStep 132 = .ok (.goto 7, 3) := by decide +kernel
theorem dX4_behindStep_135 : decode cX4_behindStep 135 = .ok (.iload 10, 2) := by decide +kernel
theorem dX4_behindStep_137 : decode cX4_behindStep 137 = .ok (.iconst 1, 1) := by decide +kernel
theorem dX4_behindStep_138 : decode cX4_behindStep 138 = .ok (.isub, 1) := by decide +kernel
theorem dX4_behindStep_139 : decode cX4_behindStep 139 = .ok (.istore 8, 2) := by decide +kernel
theorem dX4_behindStep_141 : decode cX4_behindStep 141 = .ok (.iinc 9 1, 3) := by decide +kernel
theorem dX4_behindStep_144 : decode cX4_behindStep 144 = .ok (.goto (-123), 3) := by decide +kernel
theorem dX4_behindStep_147 : decode cX4_behindStep 147 = .ok (.iload 7, 2) := by decide +kernel
theorem dX4_behindStep_149 : decode cX4_behindStep 149 = .ok (.ireturn, 1) := by decide +kernel
def fX4_behindStep_139 (k21 : PH → Nat → Nat → Int32 → Int32 → Int32 → Int32 → Int32 → Int32 → Int32 → Option (Int32 × PH)) (g : PH) (v0 : Nat) (v1 : Nat) (v2 : Int32) (v3 : Int32) (v4 : Int32) (v6 : Int32) (v7 : Int32) (v9 : Int32) (s0 : Int32) : Option (Int32 × PH) :=
  k21 g v0 v1 v2 v3 v4 v6 v7 s0 (v9 + (1 : Int32))
set_option maxHeartbeats 4000000 in
set_option maxRecDepth 100000 in
theorem bX4_behindStep_139 {K : HK} {E : HE} {r : Int32} {g' : PH} {k21 : PH → Nat → Nat → Int32 → Int32 → Int32 → Int32 → Int32 → Int32 → Int32 → Option (Int32 × PH)} (C : VC K E 12 cX4_behindStep RX4 (some .int)) (hk21 : ∀ (g : PH) (v0 : Nat) (v1 : Nat) (v2 : Int32) (v3 : Int32) (v4 : Int32) (v6 : Int32) (v7 : Int32) (v8 : Int32) (v9 : Int32), k21 g v0 v1 v2 v3 v4 v6 v7 v8 v9 = some (r, g') → V K E (hRm 1 24 0 0) 12 (hZ K E (some (.int r)) g' 0 0) 0 0 (kS K) g 21 [(0, .ref v0), (1, .ref v1), (2, .int v2), (3, .int v3), (4, .int v4), (6, .int v6), (7, .int v7), (8, .int v8), (9, .int v9)] []) {g : PH} {v0 : Nat} {v1 : Nat} {v2 : Int32} {v3 : Int32} {v4 : Int32} {v6 : Int32} {v7 : Int32} {v9 : Int32} {s0 : Int32} (hf : fX4_behindStep_139 k21 g v0 v1 v2 v3 v4 v6 v7 v9 s0 = some (r, g')) : V K E (hRm 1 24 0 0) 12 (hZ K E (some (.int r)) g' 0 0) 0 0 (kS K) g 139 [(0, .ref v0), (1, .ref v1), (2, .int v2), (3, .int v3), (4, .int v4), (6, .int v6), (7, .int v7), (9, .int v9)] [.int s0] := by
  unfold fX4_behindStep_139 at hf
  refine V.istore (pc := 139) (L' := [(8, .int s0), (0, .ref v0), (1, .ref v1), (2, .int v2), (3, .int v3), (4, .int v4), (6, .int v6), (7, .int v7), (9, .int v9)]) C dX4_behindStep_139 (by decide) rfl ?_
  refine V.iinc (pc := 141) (v := (v9 + (1 : Int32))) (L' := [(9, .int (v9 + (1 : Int32))), (8, .int s0), (0, .ref v0), (1, .ref v1), (2, .int v2), (3, .int v3), (4, .int v4), (6, .int v6), (7, .int v7)]) C dX4_behindStep_141 8 rfl rfl (by decide) rfl ?_
  refine V.goto (pc := 144) (t := 21) C dX4_behindStep_144 (by decide) ?_
  refine V.sub (L' := [(0, .ref v0), (1, .ref v1), (2, .int v2), (3, .int v3), (4, .int v4), (6, .int v6), (7, .int v7), (8, .int s0), (9, .int (v9 + (1 : Int32)))]) [2, 3, 4, 5, 6, 7, 8, 1, 0] rfl ?_
  exact hk21 _ _ _ _ _ _ _ _ _ _ hf
def fX4_behindStep_123 (k21 : PH → Nat → Nat → Int32 → Int32 → Int32 → Int32 → Int32 → Int32 → Int32 → Option (Int32 × PH)) (g : PH) (v0 : Nat) (v1 : Nat) (v2 : Int32) (v3 : Int32) (v4 : Int32) (v6 : Int32) (v8 : Int32) (v9 : Int32) (v10 : Int32) (s0 : Int32) : Option (Int32 × PH) :=
  if v10 = 0 then (fX4_behindStep_139 (k21) g v0 v1 v2 v3 v4 v6 s0 v9 v8) else
  (fX4_behindStep_139 (k21) g v0 v1 v2 v3 v4 v6 s0 v9 (v10 - (1 : Int32)))
set_option maxHeartbeats 4000000 in
set_option maxRecDepth 100000 in
theorem bX4_behindStep_123 {K : HK} {E : HE} {r : Int32} {g' : PH} {k21 : PH → Nat → Nat → Int32 → Int32 → Int32 → Int32 → Int32 → Int32 → Int32 → Option (Int32 × PH)} (C : VC K E 12 cX4_behindStep RX4 (some .int)) (hk21 : ∀ (g : PH) (v0 : Nat) (v1 : Nat) (v2 : Int32) (v3 : Int32) (v4 : Int32) (v6 : Int32) (v7 : Int32) (v8 : Int32) (v9 : Int32), k21 g v0 v1 v2 v3 v4 v6 v7 v8 v9 = some (r, g') → V K E (hRm 1 24 0 0) 12 (hZ K E (some (.int r)) g' 0 0) 0 0 (kS K) g 21 [(0, .ref v0), (1, .ref v1), (2, .int v2), (3, .int v3), (4, .int v4), (6, .int v6), (7, .int v7), (8, .int v8), (9, .int v9)] []) {g : PH} {v0 : Nat} {v1 : Nat} {v2 : Int32} {v3 : Int32} {v4 : Int32} {v6 : Int32} {v8 : Int32} {v9 : Int32} {v10 : Int32} {s0 : Int32} (hf : fX4_behindStep_123 k21 g v0 v1 v2 v3 v4 v6 v8 v9 v10 s0 = some (r, g')) : V K E (hRm 1 24 0 0) 12 (hZ K E (some (.int r)) g' 0 0) 0 0 (kS K) g 123 [(0, .ref v0), (1, .ref v1), (2, .int v2), (3, .int v3), (4, .int v4), (6, .int v6), (8, .int v8), (9, .int v9), (10, .int v10)] [.int s0] := by
  unfold fX4_behindStep_123 at hf
  refine V.istore (pc := 123) (L' := [(7, .int s0), (0, .ref v0), (1, .ref v1), (2, .int v2), (3, .int v3), (4, .int v4), (6, .int v6), (8, .int v8), (9, .int v9), (10, .int v10)]) C dX4_behindStep_123 (by decide) rfl ?_
  refine V.iload (pc := 125) C dX4_behindStep_125 9 rfl ?_
  refine V.if_ne (pc := 127) (t := 135) C dX4_behindStep_127 (by decide) (fun c1 => ?_) (fun c1 => ?_)
  · replace hf := ite_f c1 hf
    refine V.iload (pc := 135) C dX4_behindStep_135 9 rfl ?_
    refine V.iconst (pc := 137) C dX4_behindStep_137 (v := (1 : Int32)) (by decide) ?_
    refine V.isub (pc := 138) C dX4_behindStep_138 ?_
    refine V.sub (L' := [(0, .ref v0), (1, .ref v1), (2, .int v2), (3, .int v3), (4, .int v4), (6, .int v6), (7, .int s0), (9, .int v9)]) [1, 2, 3, 4, 5, 6, 0, 8] rfl ?_
    exact bX4_behindStep_139 C hk21 hf
  replace hf := ite_t c1 hf
  refine V.iload (pc := 130) C dX4_behindStep_130 7 rfl ?_
  refine V.goto (pc := 132) (t := 139) C dX4_behindStep_132 (by decide) ?_
  refine V.sub (L' := [(0, .ref v0), (1, .ref v1), (2, .int v2), (3, .int v3), (4, .int v4), (6, .int v6), (7, .int s0), (9, .int v9)]) [1, 2, 3, 4, 5, 6, 0, 8] rfl ?_
  exact bX4_behindStep_139 C hk21 hf
def fX4_behindStep_119 (k21 : PH → Nat → Nat → Int32 → Int32 → Int32 → Int32 → Int32 → Int32 → Int32 → Option (Int32 × PH)) (g : PH) (v0 : Nat) (v1 : Nat) (v2 : Int32) (v3 : Int32) (v4 : Int32) (v6 : Int32) (v8 : Int32) (v9 : Int32) (v10 : Int32) (v11 : Int32) : Option (Int32 × PH) :=
  fX4_behindStep_123 (k21) g v0 v1 v2 v3 v4 v6 v8 v9 v10 (v11 &&& (3 : Int32))
set_option maxHeartbeats 4000000 in
set_option maxRecDepth 100000 in
theorem bX4_behindStep_119 {K : HK} {E : HE} {r : Int32} {g' : PH} {k21 : PH → Nat → Nat → Int32 → Int32 → Int32 → Int32 → Int32 → Int32 → Int32 → Option (Int32 × PH)} (C : VC K E 12 cX4_behindStep RX4 (some .int)) (hk21 : ∀ (g : PH) (v0 : Nat) (v1 : Nat) (v2 : Int32) (v3 : Int32) (v4 : Int32) (v6 : Int32) (v7 : Int32) (v8 : Int32) (v9 : Int32), k21 g v0 v1 v2 v3 v4 v6 v7 v8 v9 = some (r, g') → V K E (hRm 1 24 0 0) 12 (hZ K E (some (.int r)) g' 0 0) 0 0 (kS K) g 21 [(0, .ref v0), (1, .ref v1), (2, .int v2), (3, .int v3), (4, .int v4), (6, .int v6), (7, .int v7), (8, .int v8), (9, .int v9)] []) {g : PH} {v0 : Nat} {v1 : Nat} {v2 : Int32} {v3 : Int32} {v4 : Int32} {v6 : Int32} {v8 : Int32} {v9 : Int32} {v10 : Int32} {v11 : Int32} (hf : fX4_behindStep_119 k21 g v0 v1 v2 v3 v4 v6 v8 v9 v10 v11 = some (r, g')) : V K E (hRm 1 24 0 0) 12 (hZ K E (some (.int r)) g' 0 0) 0 0 (kS K) g 119 [(0, .ref v0), (1, .ref v1), (2, .int v2), (3, .int v3), (4, .int v4), (6, .int v6), (8, .int v8), (9, .int v9), (10, .int v10), (11, .int v11)] [] := by
  unfold fX4_behindStep_119 at hf
  refine V.iload (pc := 119) C dX4_behindStep_119 9 rfl ?_
  refine V.iconst (pc := 121) C dX4_behindStep_121 (v := (3 : Int32)) (by decide) ?_
  refine V.iand (pc := 122) C dX4_behindStep_122 ?_
  refine V.sub (L' := [(0, .ref v0), (1, .ref v1), (2, .int v2), (3, .int v3), (4, .int v4), (6, .int v6), (8, .int v8), (9, .int v9), (10, .int v10)]) [0, 1, 2, 3, 4, 5, 6, 7, 8] rfl ?_
  exact bX4_behindStep_123 C hk21 hf
def fX4_behindStep_92 (k21 : PH → Nat → Nat → Int32 → Int32 → Int32 → Int32 → Int32 → Int32 → Int32 → Option (Int32 × PH)) (g : PH) (v0 : Nat) (v1 : Nat) (v2 : Int32) (v3 : Int32) (v4 : Int32) (v6 : Int32) (v7 : Int32) (v8 : Int32) (v9 : Int32) (v10 : Int32) (s0 : Int32) (s1 : Nat) : Option (Int32 × PH) :=
  (fX1_outcomeOf g s1 s0 v10 v7).bind fun q1 =>
  (if v10 = 0 then (if (q1.1 >>> ((2 : Int32) &&& 31)) = v8 then (fX4_behindStep_119 (k21) q1.2 v0 v1 v2 v3 v4 v6 v8 v9 v10 q1.1) else
  (fX4_behindStep_123 (k21) q1.2 v0 v1 v2 v3 v4 v6 v8 v9 v10 (4 : Int32))) else
  (fX4_behindStep_119 (k21) q1.2 v0 v1 v2 v3 v4 v6 v8 v9 v10 q1.1))
set_option maxHeartbeats 4000000 in
set_option maxRecDepth 100000 in
theorem bX4_behindStep_92 {K : HK} {E : HE} {r : Int32} {g' : PH} {k21 : PH → Nat → Nat → Int32 → Int32 → Int32 → Int32 → Int32 → Int32 → Int32 → Option (Int32 × PH)} (C : VC K E 12 cX4_behindStep RX4 (some .int)) (hk21 : ∀ (g : PH) (v0 : Nat) (v1 : Nat) (v2 : Int32) (v3 : Int32) (v4 : Int32) (v6 : Int32) (v7 : Int32) (v8 : Int32) (v9 : Int32), k21 g v0 v1 v2 v3 v4 v6 v7 v8 v9 = some (r, g') → V K E (hRm 1 24 0 0) 12 (hZ K E (some (.int r)) g' 0 0) 0 0 (kS K) g 21 [(0, .ref v0), (1, .ref v1), (2, .int v2), (3, .int v3), (4, .int v4), (6, .int v6), (7, .int v7), (8, .int v8), (9, .int v9)] []) {g : PH} {v0 : Nat} {v1 : Nat} {v2 : Int32} {v3 : Int32} {v4 : Int32} {v6 : Int32} {v7 : Int32} {v8 : Int32} {v9 : Int32} {v10 : Int32} {s0 : Int32} {s1 : Nat} (hf : fX4_behindStep_92 k21 g v0 v1 v2 v3 v4 v6 v7 v8 v9 v10 s0 s1 = some (r, g')) : V K E (hRm 1 24 0 0) 12 (hZ K E (some (.int r)) g' 0 0) 0 0 (kS K) g 92 [(0, .ref v0), (1, .ref v1), (2, .int v2), (3, .int v3), (4, .int v4), (6, .int v6), (7, .int v7), (8, .int v8), (9, .int v9), (10, .int v10)] [.int s0, .ref s1] := by
  unfold fX4_behindStep_92 at hf
  refine V.iload (pc := 92) C dX4_behindStep_92 9 rfl ?_
  refine V.iload (pc := 94) C dX4_behindStep_94 6 rfl ?_
  replace hf := ob_some hf
  obtain ⟨q1, h2, hf⟩ := hf
  refine V.callV0i (pc := 96) C hyX1_outcomeOf wd_761 (mX1_outcomeOf (r := q1.1) (g' := q1.2) K.2.1 E (kS K) h2) rfl rfl rfl (oX1_outcomeOf h2) ⟨Nat.le_of_ble_eq_true rfl, Nat.le_of_ble_eq_true rfl⟩ (Nat.le_of_ble_eq_true rfl) dX4_behindStep_96 ⟨Nat.zero_le _, Nat.zero_le _⟩ rfl ?_
  refine V.istore (pc := 99) (L' := [(11, .int q1.1), (0, .ref v0), (1, .ref v1), (2, .int v2), (3, .int v3), (4, .int v4), (6, .int v6), (7, .int v7), (8, .int v8), (9, .int v9), (10, .int v10)]) C dX4_behindStep_99 (by decide) rfl ?_
  refine V.iload (pc := 101) C dX4_behindStep_101 10 rfl ?_
  refine V.if_ne (pc := 103) (t := 119) C dX4_behindStep_103 (by decide) (fun c3 => ?_) (fun c3 => ?_)
  · replace hf := ite_f c3 hf
    refine V.sub (L' := [(0, .ref v0), (1, .ref v1), (2, .int v2), (3, .int v3), (4, .int v4), (6, .int v6), (8, .int v8), (9, .int v9), (10, .int v10), (11, .int q1.1)]) [1, 2, 3, 4, 5, 6, 8, 9, 10, 0] rfl ?_
    exact bX4_behindStep_119 C hk21 hf
  replace hf := ite_t c3 hf
  refine V.iload (pc := 106) C dX4_behindStep_106 0 rfl ?_
  refine V.iconst (pc := 108) C dX4_behindStep_108 (v := (2 : Int32)) (by decide) ?_
  refine V.ishr (pc := 109) C dX4_behindStep_109 ?_
  refine V.iload (pc := 110) C dX4_behindStep_110 8 rfl ?_
  refine V.icmp_eq (pc := 112) (t := 119) C dX4_behindStep_112 (by decide) (fun c4 => ?_) (fun c4 => ?_)
  · replace hf := ite_t c4 hf
    refine V.sub (L' := [(0, .ref v0), (1, .ref v1), (2, .int v2), (3, .int v3), (4, .int v4), (6, .int v6), (8, .int v8), (9, .int v9), (10, .int v10), (11, .int q1.1)]) [1, 2, 3, 4, 5, 6, 8, 9, 10, 0] rfl ?_
    exact bX4_behindStep_119 C hk21 hf
  replace hf := ite_f c4 hf
  refine V.iconst (pc := 115) C dX4_behindStep_115 (v := (4 : Int32)) (by decide) ?_
  refine V.goto (pc := 116) (t := 123) C dX4_behindStep_116 (by decide) ?_
  refine V.sub (L' := [(0, .ref v0), (1, .ref v1), (2, .int v2), (3, .int v3), (4, .int v4), (6, .int v6), (8, .int v8), (9, .int v9), (10, .int v10)]) [1, 2, 3, 4, 5, 6, 8, 9, 10] rfl ?_
  exact bX4_behindStep_123 C hk21 hf
def fX4_behindStep_73 (k21 : PH → Nat → Nat → Int32 → Int32 → Int32 → Int32 → Int32 → Int32 → Int32 → Option (Int32 × PH)) (g : PH) (v0 : Nat) (v1 : Nat) (v2 : Int32) (v3 : Int32) (v4 : Int32) (v6 : Int32) (v7 : Int32) (v8 : Int32) (v9 : Int32) (s0 : Int32) (s1 : Int32) (s2 : Nat) : Option (Int32 × PH) :=
  (ldI g s2 0 (s1 + s0)).bind fun x1 =>
  (if v6 ≤ v9 then (fX4_behindStep_92 (k21) g v0 v1 v2 v3 v4 v6 v7 v8 v9 x1 ((1 : Int32) - v2) v1) else
  (fX4_behindStep_92 (k21) g v0 v1 v2 v3 v4 v6 v7 v8 v9 x1 v2 v1))
set_option maxHeartbeats 4000000 in
set_option maxRecDepth 100000 in
theorem bX4_behindStep_73 {K : HK} {E : HE} {r : Int32} {g' : PH} {k21 : PH → Nat → Nat → Int32 → Int32 → Int32 → Int32 → Int32 → Int32 → Int32 → Option (Int32 × PH)} (C : VC K E 12 cX4_behindStep RX4 (some .int)) (hk21 : ∀ (g : PH) (v0 : Nat) (v1 : Nat) (v2 : Int32) (v3 : Int32) (v4 : Int32) (v6 : Int32) (v7 : Int32) (v8 : Int32) (v9 : Int32), k21 g v0 v1 v2 v3 v4 v6 v7 v8 v9 = some (r, g') → V K E (hRm 1 24 0 0) 12 (hZ K E (some (.int r)) g' 0 0) 0 0 (kS K) g 21 [(0, .ref v0), (1, .ref v1), (2, .int v2), (3, .int v3), (4, .int v4), (6, .int v6), (7, .int v7), (8, .int v8), (9, .int v9)] []) {g : PH} {v0 : Nat} {v1 : Nat} {v2 : Int32} {v3 : Int32} {v4 : Int32} {v6 : Int32} {v7 : Int32} {v8 : Int32} {v9 : Int32} {s0 : Int32} {s1 : Int32} {s2 : Nat} (hf : fX4_behindStep_73 k21 g v0 v1 v2 v3 v4 v6 v7 v8 v9 s0 s1 s2 = some (r, g')) : V K E (hRm 1 24 0 0) 12 (hZ K E (some (.int r)) g' 0 0) 0 0 (kS K) g 73 [(0, .ref v0), (1, .ref v1), (2, .int v2), (3, .int v3), (4, .int v4), (6, .int v6), (7, .int v7), (8, .int v8), (9, .int v9)] [.int s0, .int s1, .ref s2] := by
  unfold fX4_behindStep_73 at hf
  refine V.iadd (pc := 73) C dX4_behindStep_73 ?_
  replace hf := ob_some hf
  obtain ⟨x1, h2, hf⟩ := hf
  refine V.iald (pc := 74) C h2 dX4_behindStep_74 ?_
  refine V.istore (pc := 75) (L' := [(10, .int x1), (0, .ref v0), (1, .ref v1), (2, .int v2), (3, .int v3), (4, .int v4), (6, .int v6), (7, .int v7), (8, .int v8), (9, .int v9)]) C dX4_behindStep_75 (by decide) rfl ?_
  refine V.aload_n (pc := 77) C dX4_behindStep_77 2 rfl ?_
  refine V.iload (pc := 78) C dX4_behindStep_78 9 rfl ?_
  refine V.iload (pc := 80) C dX4_behindStep_80 6 rfl ?_
  refine V.icmp_ge (pc := 82) (t := 89) C dX4_behindStep_82 (by decide) (fun c3 => ?_) (fun c3 => ?_)
  · replace hf := ite_t c3 hf
    refine V.iconst (pc := 89) C dX4_behindStep_89 (v := (1 : Int32)) (by decide) ?_
    refine V.iload_n (pc := 90) C dX4_behindStep_90 3 rfl ?_
    refine V.isub (pc := 91) C dX4_behindStep_91 ?_
    refine V.sub (L' := [(0, .ref v0), (1, .ref v1), (2, .int v2), (3, .int v3), (4, .int v4), (6, .int v6), (7, .int v7), (8, .int v8), (9, .int v9), (10, .int x1)]) [1, 2, 3, 4, 5, 6, 7, 8, 9, 0] rfl ?_
    exact bX4_behindStep_92 C hk21 hf
  replace hf := ite_f c3 hf
  refine V.iload_n (pc := 85) C dX4_behindStep_85 3 rfl ?_
  refine V.goto (pc := 86) (t := 92) C dX4_behindStep_86 (by decide) ?_
  refine V.sub (L' := [(0, .ref v0), (1, .ref v1), (2, .int v2), (3, .int v3), (4, .int v4), (6, .int v6), (7, .int v7), (8, .int v8), (9, .int v9), (10, .int x1)]) [1, 2, 3, 4, 5, 6, 7, 8, 9, 0] rfl ?_
  exact bX4_behindStep_92 C hk21 hf
def fX4_behindStep_48 (k21 : PH → Nat → Nat → Int32 → Int32 → Int32 → Int32 → Int32 → Int32 → Int32 → Option (Int32 × PH)) (g : PH) (v0 : Nat) (v1 : Nat) (v2 : Int32) (v3 : Int32) (v4 : Int32) (v6 : Int32) (v7 : Int32) (v8 : Int32) (v9 : Int32) : Option (Int32 × PH) :=
  (getR g v0 4 4).bind fun p1 =>
  (if v6 ≤ v9 then (fX4_behindStep_73 (k21) g v0 v1 v2 v3 v4 v6 v7 v8 v9 (v9 - v6) (v4 * (3 : Int32)) p1) else
  (fX4_behindStep_73 (k21) g v0 v1 v2 v3 v4 v6 v7 v8 v9 v9 (v4 * (3 : Int32)) p1))
set_option maxHeartbeats 4000000 in
set_option maxRecDepth 100000 in
theorem bX4_behindStep_48 {K : HK} {E : HE} {r : Int32} {g' : PH} {k21 : PH → Nat → Nat → Int32 → Int32 → Int32 → Int32 → Int32 → Int32 → Int32 → Option (Int32 × PH)} (C : VC K E 12 cX4_behindStep RX4 (some .int)) (hk21 : ∀ (g : PH) (v0 : Nat) (v1 : Nat) (v2 : Int32) (v3 : Int32) (v4 : Int32) (v6 : Int32) (v7 : Int32) (v8 : Int32) (v9 : Int32), k21 g v0 v1 v2 v3 v4 v6 v7 v8 v9 = some (r, g') → V K E (hRm 1 24 0 0) 12 (hZ K E (some (.int r)) g' 0 0) 0 0 (kS K) g 21 [(0, .ref v0), (1, .ref v1), (2, .int v2), (3, .int v3), (4, .int v4), (6, .int v6), (7, .int v7), (8, .int v8), (9, .int v9)] []) {g : PH} {v0 : Nat} {v1 : Nat} {v2 : Int32} {v3 : Int32} {v4 : Int32} {v6 : Int32} {v7 : Int32} {v8 : Int32} {v9 : Int32} (hf : fX4_behindStep_48 k21 g v0 v1 v2 v3 v4 v6 v7 v8 v9 = some (r, g')) : V K E (hRm 1 24 0 0) 12 (hZ K E (some (.int r)) g' 0 0) 0 0 (kS K) g 48 [(0, .ref v0), (1, .ref v1), (2, .int v2), (3, .int v3), (4, .int v4), (6, .int v6), (7, .int v7), (8, .int v8), (9, .int v9)] [] := by
  unfold fX4_behindStep_48 at hf
  refine V.aload_n (pc := 48) C dX4_behindStep_48 0 rfl ?_
  replace hf := ob_some hf
  obtain ⟨p1, h2, hf⟩ := hf
  refine V.getR (pc := 49) C kX4 (k := 4) (by decide) wd_697 h2 dX4_behindStep_49 ?_
  refine V.iload (pc := 52) C dX4_behindStep_52 4 rfl ?_
  refine V.iconst (pc := 54) C dX4_behindStep_54 (v := (3 : Int32)) (by decide) ?_
  refine V.imul (pc := 55) C dX4_behindStep_55 ?_
  refine V.iload (pc := 56) C dX4_behindStep_56 8 rfl ?_
  refine V.iload (pc := 58) C dX4_behindStep_58 5 rfl ?_
  refine V.icmp_ge (pc := 60) (t := 68) C dX4_behindStep_60 (by decide) (fun c3 => ?_) (fun c3 => ?_)
  · replace hf := ite_t c3 hf
    refine V.iload (pc := 68) C dX4_behindStep_68 8 rfl ?_
    refine V.iload (pc := 70) C dX4_behindStep_70 5 rfl ?_
    refine V.isub (pc := 72) C dX4_behindStep_72 ?_
    refine V.sub (L' := [(0, .ref v0), (1, .ref v1), (2, .int v2), (3, .int v3), (4, .int v4), (6, .int v6), (7, .int v7), (8, .int v8), (9, .int v9)]) [0, 1, 2, 3, 4, 5, 6, 7, 8] rfl ?_
    exact bX4_behindStep_73 C hk21 hf
  replace hf := ite_f c3 hf
  refine V.iload (pc := 63) C dX4_behindStep_63 8 rfl ?_
  refine V.goto (pc := 65) (t := 73) C dX4_behindStep_65 (by decide) ?_
  refine V.sub (L' := [(0, .ref v0), (1, .ref v1), (2, .int v2), (3, .int v3), (4, .int v4), (6, .int v6), (7, .int v7), (8, .int v8), (9, .int v9)]) [0, 1, 2, 3, 4, 5, 6, 7, 8] rfl ?_
  exact bX4_behindStep_73 C hk21 hf
def fX4_behindStep_21  : Nat → PH → Nat → Nat → Int32 → Int32 → Int32 → Int32 → Int32 → Int32 → Int32 → Option (Int32 × PH)
  | 0, _, _, _, _, _, _, _, _, _, _ => none
  | n + 1, g, v0, v1, v2, v3, v4, v6, v7, v8, v9 =>
  if ((2 : Int32) * v6) ≤ v9 then (some (v7, g)) else
  (if v7 = (4 : Int32) then (some (v7, g)) else
  (if v9 = v6 then (fX4_behindStep_48 (fX4_behindStep_21 n) g v0 v1 v2 v3 v4 v6 v7 (v3 - (1 : Int32)) v9) else
  (fX4_behindStep_48 (fX4_behindStep_21 n) g v0 v1 v2 v3 v4 v6 v7 v8 v9)))
set_option maxHeartbeats 4000000 in
set_option maxRecDepth 100000 in
theorem bX4_behindStep_21 {K : HK} {E : HE} {r : Int32} {g' : PH}  (C : VC K E 12 cX4_behindStep RX4 (some .int))  : ∀ (n : Nat) (g : PH) (v0 : Nat) (v1 : Nat) (v2 : Int32) (v3 : Int32) (v4 : Int32) (v6 : Int32) (v7 : Int32) (v8 : Int32) (v9 : Int32), fX4_behindStep_21  n g v0 v1 v2 v3 v4 v6 v7 v8 v9 = some (r, g') → V K E (hRm 1 24 0 0) 12 (hZ K E (some (.int r)) g' 0 0) 0 0 (kS K) g 21 [(0, .ref v0), (1, .ref v1), (2, .int v2), (3, .int v3), (4, .int v4), (6, .int v6), (7, .int v7), (8, .int v8), (9, .int v9)] [] := by
  intro n
  induction n with
  | zero =>
    intro g v0 v1 v2 v3 v4 v6 v7 v8 v9 hf
    rw [fX4_behindStep_21] at hf
    cases hf
  | succ n ih =>
    intro g v0 v1 v2 v3 v4 v6 v7 v8 v9 hf
    rw [fX4_behindStep_21] at hf
    refine V.iload (pc := 21) C dX4_behindStep_21 8 rfl ?_
    refine V.iconst (pc := 23) C dX4_behindStep_23 (v := (2 : Int32)) (by decide) ?_
    refine V.iload (pc := 24) C dX4_behindStep_24 5 rfl ?_
    refine V.imul (pc := 26) C dX4_behindStep_26 ?_
    refine V.icmp_ge (pc := 27) (t := 147) C dX4_behindStep_27 (by decide) (fun c1 => ?_) (fun c1 => ?_)
    · replace hf := ite_t c1 hf
      refine V.iload (pc := 147) C dX4_behindStep_147 6 rfl ?_
      obtain ⟨f1, f2⟩ := fin2 hf
      clear hf
      subst f1
      subst f2
      exact V.iret (pc := 149) C rfl dX4_behindStep_149
    replace hf := ite_f c1 hf
    refine V.iload (pc := 30) C dX4_behindStep_30 6 rfl ?_
    refine V.iconst (pc := 32) C dX4_behindStep_32 (v := (4 : Int32)) (by decide) ?_
    refine V.icmp_eq (pc := 33) (t := 147) C dX4_behindStep_33 (by decide) (fun c2 => ?_) (fun c2 => ?_)
    · replace hf := ite_t c2 hf
      refine V.iload (pc := 147) C dX4_behindStep_147 6 rfl ?_
      obtain ⟨f1, f2⟩ := fin2 hf
      clear hf
      subst f1
      subst f2
      exact V.iret (pc := 149) C rfl dX4_behindStep_149
    replace hf := ite_f c2 hf
    refine V.iload (pc := 36) C dX4_behindStep_36 8 rfl ?_
    refine V.iload (pc := 38) C dX4_behindStep_38 5 rfl ?_
    refine V.icmp_ne (pc := 40) (t := 48) C dX4_behindStep_40 (by decide) (fun c3 => ?_) (fun c3 => ?_)
    · replace hf := ite_f c3 hf
      refine V.sub (L' := [(0, .ref v0), (1, .ref v1), (2, .int v2), (3, .int v3), (4, .int v4), (6, .int v6), (7, .int v7), (8, .int v8), (9, .int v9)]) [0, 1, 2, 3, 4, 5, 6, 7, 8] rfl ?_
      exact bX4_behindStep_48 C ih hf
    replace hf := ite_t c3 hf
    refine V.iload_n (pc := 43) C dX4_behindStep_43 3 rfl ?_
    refine V.iconst (pc := 44) C dX4_behindStep_44 (v := (1 : Int32)) (by decide) ?_
    refine V.isub (pc := 45) C dX4_behindStep_45 ?_
    refine V.istore (pc := 46) (L' := [(8, .int (v3 - (1 : Int32))), (0, .ref v0), (1, .ref v1), (2, .int v2), (3, .int v3), (4, .int v4), (6, .int v6), (7, .int v7), (9, .int v9)]) C dX4_behindStep_46 (by decide) rfl ?_
    refine V.sub (L' := [(0, .ref v0), (1, .ref v1), (2, .int v2), (3, .int v3), (4, .int v4), (6, .int v6), (7, .int v7), (8, .int (v3 - (1 : Int32))), (9, .int v9)]) [1, 2, 3, 4, 5, 6, 7, 0, 8] rfl ?_
    exact bX4_behindStep_48 C ih hf
def fX4_behindStep (g : PH) (a0 : Nat) (a1 : Nat) (a2 : Int32) (a3 : Int32) (a4 : Int32) (a5 : Int32) : Option (Int32 × PH) :=
  okb (isO g a0 4) ((getR g a0 4 2).bind fun p1 =>
  ((ldI g p1 0 a4).bind fun x3 =>
  (fX4_behindStep_21 FUEL g a0 a1 a2 a3 a4 x3 a5 (a3 - (1 : Int32)) (0 : Int32))))
theorem oX4_behindStep {g : PH} {a0 : Nat} {a1 : Nat} {a2 : Int32} {a3 : Int32} {a4 : Int32} {a5 : Int32} {q : (Int32 × PH)} (h : fX4_behindStep g a0 a1 a2 a3 a4 a5 = some q) : isO g a0 4 = true := by unfold fX4_behindStep at h; exact (okb_some h).1
theorem hyX4_behindStep : hMet yX4_behindStep RX4 cX4_behindStep 12 (some .int) 5 := ⟨wd_760, wd_759, ws_31, wd_15, rfl, by decide +kernel, by decide +kernel, by decide +kernel⟩
set_option maxHeartbeats 4000000 in
set_option maxRecDepth 100000 in
theorem mX4_behindStep (l : Launch) (E : HE) (sz : Nat) {g g' : PH} {a0 : Nat} {a1 : Nat} {a2 : Int32} {a3 : Int32} {a4 : Int32} {a5 : Int32} {r : Int32} (hf : fX4_behindStep g a0 a1 a2 a3 a4 a5 = some (r, g')) : hM l E yX4_behindStep cX4_behindStep 12 (some .int) 1 24 0 0 sz g [.ref a0, .ref a1, .int a2, .int a3, .int a4, .int a5] (some (.int r)) g' := by
  refine hM.of (by decide) (Nat.le_of_ble_eq_true rfl) (fun K hl C hin hsz => ?_)
  subst hl
  subst hsz
  have C : VC K E 12 cX4_behindStep RX4 (some .int) := C
  unfold fX4_behindStep at hf
  replace hf := okb_some hf
  obtain ⟨ho, hf⟩ := hf
  refine V.start (L' := [(0, .ref a0), (1, .ref a1), (2, .int a2), (3, .int a3), (4, .int a4), (5, .int a5)]) rfl ?_
  refine V.aload_n (pc := 0) C dX4_behindStep_0 0 rfl ?_
  replace hf := ob_some hf
  obtain ⟨p1, h2, hf⟩ := hf
  refine V.getR (pc := 1) C kX4 (k := 2) (by decide) wd_695 h2 dX4_behindStep_1 ?_
  refine V.iload (pc := 4) C dX4_behindStep_4 4 rfl ?_
  replace hf := ob_some hf
  obtain ⟨x3, h4, hf⟩ := hf
  refine V.iald (pc := 6) C h4 dX4_behindStep_6 ?_
  refine V.istore (pc := 7) (L' := [(6, .int x3), (0, .ref a0), (1, .ref a1), (2, .int a2), (3, .int a3), (4, .int a4), (5, .int a5)]) C dX4_behindStep_7 (by decide) rfl ?_
  refine V.iload (pc := 9) C dX4_behindStep_9 6 rfl ?_
  refine V.istore (pc := 11) (L' := [(7, .int a5), (6, .int x3), (0, .ref a0), (1, .ref a1), (2, .int a2), (3, .int a3), (4, .int a4), (5, .int a5)]) C dX4_behindStep_11 (by decide) rfl ?_
  refine V.iload_n (pc := 13) C dX4_behindStep_13 5 rfl ?_
  refine V.iconst (pc := 14) C dX4_behindStep_14 (v := (1 : Int32)) (by decide) ?_
  refine V.isub (pc := 15) C dX4_behindStep_15 ?_
  refine V.istore (pc := 16) (L' := [(8, .int (a3 - (1 : Int32))), (7, .int a5), (6, .int x3), (0, .ref a0), (1, .ref a1), (2, .int a2), (3, .int a3), (4, .int a4), (5, .int a5)]) C dX4_behindStep_16 (by decide) rfl ?_
  refine V.iconst (pc := 18) C dX4_behindStep_18 (v := (0 : Int32)) (by decide) ?_
  refine V.istore (pc := 19) (L' := [(9, .int (0 : Int32)), (8, .int (a3 - (1 : Int32))), (7, .int a5), (6, .int x3), (0, .ref a0), (1, .ref a1), (2, .int a2), (3, .int a3), (4, .int a4), (5, .int a5)]) C dX4_behindStep_19 (by decide) rfl ?_
  refine V.sub (L' := [(0, .ref a0), (1, .ref a1), (2, .int a2), (3, .int a3), (4, .int a4), (6, .int x3), (7, .int a5), (8, .int (a3 - (1 : Int32))), (9, .int (0 : Int32))]) [4, 5, 6, 7, 8, 3, 2, 1, 0] rfl ?_
  exact bX4_behindStep_21 C  _ _ _ _ _ _ _ _ _ _ _ hf
theorem dX4_moveOf_0 : decode cX4_moveOf 0 = .ok (.ldc 104, 2) := by decide +kernel
theorem dX4_moveOf_2 : decode cX4_moveOf 2 = .ok (.istore 4, 2) := by decide +kernel
theorem dX4_moveOf_4 : decode cX4_moveOf 4 = .ok (.aload_n 0, 1) := by decide +kernel
theorem dX4_moveOf_5 : decode cX4_moveOf 5 = .ok (.getfield 22, 3) := by decide +kernel
theorem dX4_moveOf_8 : decode cX4_moveOf 8 = .ok (.iload_n 3, 1) := by decide +kernel
theorem dX4_moveOf_9 : decode cX4_moveOf 9 = .ok (.baload, 1) := by decide +kernel
theorem dX4_moveOf_10 : decode cX4_moveOf 10 = .ok (.ifCond .eq 7, 3) := by decide +kernel
theorem dX4_moveOf_13 : decode cX4_moveOf 13 = .ok (.iconst 0, 1) := by decide +kernel
theorem dX4_moveOf_14 : decode cX4_moveOf 14 = .ok (.goto 4, 3) := by decide +kernel
theorem dX4_moveOf_17 : decode cX4_moveOf 17 = .ok (.iconst 1, 1) := by decide +kernel
theorem dX4_moveOf_18 : decode cX4_moveOf 18 = .ok (.istore 5, 2) := by decide +kernel
theorem dX4_moveOf_20 : decode cX4_moveOf 20 = .ok (.iconst 0, 1) := by decide +kernel
theorem dX4_moveOf_21 : decode cX4_moveOf 21 = .ok (.istore 6, 2) := by decide +kernel
theorem dX4_moveOf_23 : decode cX4_moveOf 23 = .ok (.iload 6, 2) := by decide +kernel
theorem dX4_moveOf_25 : decode cX4_moveOf 25 = .ok (.iconst 4, 1) := by decide +kernel
theorem dX4_moveOf_26 : decode cX4_moveOf 26 = .ok (.if_icmp .ge 56, 3) := by decide +kernel
theorem dX4_moveOf_29 : decode cX4_moveOf 29 = .ok (.iload 4, 2) := by decide +kernel
theorem dX4_moveOf_31 : decode cX4_moveOf 31 = .ok (.aload_n 0, 1) := by decide +kernel
theorem dX4_moveOf_32 : decode cX4_moveOf 32 = .ok (.aload_n 1, 1) := by decide +kernel
theorem dX4_moveOf_33 : decode cX4_moveOf 33 = .ok (.iload 5, 2) := by decide +kernel
theorem dX4_moveOf_35 : decode cX4_moveOf 35 = .ok (.iload_n 2, 1) := by decide +kernel
theorem dX4_moveOf_36 : decode cX4_moveOf 36 = .ok (.iload_n 3, 1) := by decide +kernel
theorem dX4_moveOf_37 : decode cX4_moveOf 37 = .ok (.iload 6, 2) := by decide +kernel
theorem dX4_moveOf_39 : decode cX4_moveOf 39 = .ok (.invokevirtual 105, 3) := by decide +kernel
theorem dX4_moveOf_42 : decode cX4_moveOf 42 = .ok (.iconst 3, 1) := by decide +kernel
theorem dX4_moveOf_43 : decode cX4_moveOf 43 = .ok (.iload 6, 2) := by decide +kernel
theorem dX4_moveOf_45 : decode cX4_moveOf 45 = .ok (.imul, 1) := by decide +kernel
theorem dX4_moveOf_46 : decode cX4_moveOf 46 = .ok (.ishl, 1) := by decide +kernel
theorem dX4_moveOf_47 : decode cX4_moveOf 47 = .ok (.ior, 1) := by decide +kernel
theorem dX4_moveOf_48 : decode cX4_moveOf 48 = .ok (.istore 4, 2) := by decide +kernel
theorem dX4_moveOf_50 : decode cX4_moveOf 50 = .ok (.iload 4, 2) := by decide +kernel
theorem dX4_moveOf_52 : decode cX4_moveOf 52 = .ok (.aload_n 0, 1) := by decide +kernel
theorem dX4_moveOf_53 : decode cX4_moveOf 53 = .ok (.aload_n 1, 1) := by decide +kernel
theorem dX4_moveOf_54 : decode cX4_moveOf 54 = .ok (.iconst 1, 1) := by decide +kernel
theorem dX4_moveOf_55 : decode cX4_moveOf 55 = .ok (.iload 5, 2) := by decide +kernel
theorem dX4_moveOf_57 : decode cX4_moveOf 57 = .ok (.isub, 1) := by decide +kernel
theorem dX4_moveOf_58 : decode cX4_moveOf 58 = .ok (.iload_n 2, 1) := by decide +kernel
theorem dX4_moveOf_59 : decode cX4_moveOf 59 = .ok (.iload_n 3, 1) := by decide +kernel
theorem dX4_moveOf_60 : decode cX4_moveOf 60 = .ok (.iload 6, 2) := by decide +kernel
theorem dX4_moveOf_62 : decode cX4_moveOf 62 = .ok (.invokevirtual 105, 3) := by decide +kernel
theorem dX4_moveOf_65 : decode cX4_moveOf 65 = .ok (.bipush 15, 2) := by decide +kernel
theorem dX4_moveOf_67 : decode cX4_moveOf 67 = .ok (.iconst 3, 1) := by decide +kernel
theorem dX4_moveOf_68 : decode cX4_moveOf 68 = .ok (.iload 6, 2) := by decide +kernel
theorem dX4_moveOf_70 : decode cX4_moveOf 70 = .ok (.imul, 1) := by decide +kernel
theorem dX4_moveOf_71 : decode cX4_moveOf 71 = .ok (.iadd, 1) := by decide +kernel
theorem dX4_moveOf_72 : decode cX4_moveOf 72 = .ok (.ishl, 1) := by decide +kernel
theorem dX4_moveOf_73 : decode cX4_moveOf 73 = .ok (.ior, 1) := by decide +kernel
theorem dX4_moveOf_74 : decode cX4_moveOf 74 = .ok (.istore 4, 2) := by decide +kernel
theorem dX4_moveOf_76 : decode cX4_moveOf 76 = .ok (.iinc 6 1, 3) := by decide +kernel
theorem dX4_moveOf_79 : decode cX4_moveOf 79 = .ok (.goto (-56), 3) := by decide +kernel
theorem dX4_moveOf_82 : decode cX4_moveOf 82 = .ok (.iload 4, 2) := by decide +kernel
theorem dX4_moveOf_84 : decode cX4_moveOf 84 = .ok (.ireturn, 1) := by decide +kernel
def fX4_moveOf_23  : Nat → PH → Nat → Nat → Int32 → Int32 → Int32 → Int32 → Int32 → Option (Int32 × PH)
  | 0, _, _, _, _, _, _, _, _ => none
  | n + 1, g, v0, v1, v2, v3, v4, v5, v6 =>
  if (4 : Int32) ≤ v6 then (some (v4, g)) else
  ((fX4_behindStep g v0 v1 v5 v2 v3 v6).bind fun q2 =>
  ((fX4_behindStep q2.2 v0 v1 ((1 : Int32) - v5) v2 v3 v6).bind fun q4 =>
  (fX4_moveOf_23 n q4.2 v0 v1 v2 v3 ((v4 ||| (q2.1 <<< (((3 : Int32) * v6) &&& 31))) ||| (q4.1 <<< (((15 : Int32) + ((3 : Int32) * v6)) &&& 31))) v5 (v6 + (1 : Int32)))))
set_option maxHeartbeats 4000000 in
set_option maxRecDepth 100000 in
theorem bX4_moveOf_23 {K : HK} {E : HE} {r : Int32} {g' : PH}  (C : VC K E 7 cX4_moveOf RX4 (some .int))  : ∀ (n : Nat) (g : PH) (v0 : Nat) (v1 : Nat) (v2 : Int32) (v3 : Int32) (v4 : Int32) (v5 : Int32) (v6 : Int32), fX4_moveOf_23  n g v0 v1 v2 v3 v4 v5 v6 = some (r, g') → V K E (hRm 2 55 0 0) 7 (hZ K E (some (.int r)) g' 0 0) 0 0 (kS K) g 23 [(0, .ref v0), (1, .ref v1), (2, .int v2), (3, .int v3), (4, .int v4), (5, .int v5), (6, .int v6)] [] := by
  intro n
  induction n with
  | zero =>
    intro g v0 v1 v2 v3 v4 v5 v6 hf
    rw [fX4_moveOf_23] at hf
    cases hf
  | succ n ih =>
    intro g v0 v1 v2 v3 v4 v5 v6 hf
    rw [fX4_moveOf_23] at hf
    refine V.iload (pc := 23) C dX4_moveOf_23 6 rfl ?_
    refine V.iconst (pc := 25) C dX4_moveOf_25 (v := (4 : Int32)) (by decide) ?_
    refine V.icmp_ge (pc := 26) (t := 82) C dX4_moveOf_26 (by decide) (fun c1 => ?_) (fun c1 => ?_)
    · replace hf := ite_t c1 hf
      refine V.iload (pc := 82) C dX4_moveOf_82 4 rfl ?_
      obtain ⟨f1, f2⟩ := fin2 hf
      clear hf
      subst f1
      subst f2
      exact V.iret (pc := 84) C rfl dX4_moveOf_84
    replace hf := ite_f c1 hf
    refine V.iload (pc := 29) C dX4_moveOf_29 4 rfl ?_
    refine V.aload_n (pc := 31) C dX4_moveOf_31 0 rfl ?_
    refine V.aload_n (pc := 32) C dX4_moveOf_32 1 rfl ?_
    refine V.iload (pc := 33) C dX4_moveOf_33 5 rfl ?_
    refine V.iload_n (pc := 35) C dX4_moveOf_35 2 rfl ?_
    refine V.iload_n (pc := 36) C dX4_moveOf_36 3 rfl ?_
    refine V.iload (pc := 37) C dX4_moveOf_37 6 rfl ?_
    replace hf := ob_some hf
    obtain ⟨q2, h3, hf⟩ := hf
    refine V.callV0i (pc := 39) C hyX4_behindStep wd_757 (mX4_behindStep (r := q2.1) (g' := q2.2) K.2.1 E (kS K) h3) rfl rfl rfl (oX4_behindStep h3) ⟨Nat.le_of_ble_eq_true rfl, Nat.le_of_ble_eq_true rfl⟩ (Nat.le_of_ble_eq_true rfl) dX4_moveOf_39 ⟨Nat.zero_le _, Nat.zero_le _⟩ rfl ?_
    refine V.iconst (pc := 42) C dX4_moveOf_42 (v := (3 : Int32)) (by decide) ?_
    refine V.iload (pc := 43) C dX4_moveOf_43 6 rfl ?_
    refine V.imul (pc := 45) C dX4_moveOf_45 ?_
    refine V.ishl (pc := 46) C dX4_moveOf_46 ?_
    refine V.ior (pc := 47) C dX4_moveOf_47 ?_
    refine V.istore (pc := 48) (L' := [(4, .int (v4 ||| (q2.1 <<< (((3 : Int32) * v6) &&& 31)))), (0, .ref v0), (1, .ref v1), (2, .int v2), (3, .int v3), (5, .int v5), (6, .int v6)]) C dX4_moveOf_48 (by decide) rfl ?_
    refine V.iload (pc := 50) C dX4_moveOf_50 0 rfl ?_
    refine V.aload_n (pc := 52) C dX4_moveOf_52 1 rfl ?_
    refine V.aload_n (pc := 53) C dX4_moveOf_53 2 rfl ?_
    refine V.iconst (pc := 54) C dX4_moveOf_54 (v := (1 : Int32)) (by decide) ?_
    refine V.iload (pc := 55) C dX4_moveOf_55 5 rfl ?_
    refine V.isub (pc := 57) C dX4_moveOf_57 ?_
    refine V.iload_n (pc := 58) C dX4_moveOf_58 3 rfl ?_
    refine V.iload_n (pc := 59) C dX4_moveOf_59 4 rfl ?_
    refine V.iload (pc := 60) C dX4_moveOf_60 6 rfl ?_
    replace hf := ob_some hf
    obtain ⟨q4, h5, hf⟩ := hf
    refine V.callV0i (pc := 62) C hyX4_behindStep wd_757 (mX4_behindStep (r := q4.1) (g' := q4.2) K.2.1 E (kS K) h5) rfl rfl rfl (oX4_behindStep h5) ⟨Nat.le_of_ble_eq_true rfl, Nat.le_of_ble_eq_true rfl⟩ (Nat.le_of_ble_eq_true rfl) dX4_moveOf_62 ⟨Nat.zero_le _, Nat.zero_le _⟩ rfl ?_
    refine V.bipush (pc := 65) C dX4_moveOf_65 (v := (15 : Int32)) (by decide) ?_
    refine V.iconst (pc := 67) C dX4_moveOf_67 (v := (3 : Int32)) (by decide) ?_
    refine V.iload (pc := 68) C dX4_moveOf_68 6 rfl ?_
    refine V.imul (pc := 70) C dX4_moveOf_70 ?_
    refine V.iadd (pc := 71) C dX4_moveOf_71 ?_
    refine V.ishl (pc := 72) C dX4_moveOf_72 ?_
    refine V.ior (pc := 73) C dX4_moveOf_73 ?_
    refine V.istore (pc := 74) (L' := [(4, .int ((v4 ||| (q2.1 <<< (((3 : Int32) * v6) &&& 31))) ||| (q4.1 <<< (((15 : Int32) + ((3 : Int32) * v6)) &&& 31)))), (0, .ref v0), (1, .ref v1), (2, .int v2), (3, .int v3), (5, .int v5), (6, .int v6)]) C dX4_moveOf_74 (by decide) rfl ?_
    refine V.iinc (pc := 76) (v := (v6 + (1 : Int32))) (L' := [(6, .int (v6 + (1 : Int32))), (4, .int ((v4 ||| (q2.1 <<< (((3 : Int32) * v6) &&& 31))) ||| (q4.1 <<< (((15 : Int32) + ((3 : Int32) * v6)) &&& 31)))), (0, .ref v0), (1, .ref v1), (2, .int v2), (3, .int v3), (5, .int v5)]) C dX4_moveOf_76 6 rfl rfl (by decide) rfl ?_
    refine V.goto (pc := 79) (t := 23) C dX4_moveOf_79 (by decide) ?_
    refine V.sub (L' := [(0, .ref v0), (1, .ref v1), (2, .int v2), (3, .int v3), (4, .int ((v4 ||| (q2.1 <<< (((3 : Int32) * v6) &&& 31))) ||| (q4.1 <<< (((15 : Int32) + ((3 : Int32) * v6)) &&& 31)))), (5, .int v5), (6, .int (v6 + (1 : Int32)))]) [2, 3, 4, 5, 1, 6, 0] rfl ?_
    exact ih _ _ _ _ _ _ _ _ hf
def fX4_moveOf_18  (g : PH) (v0 : Nat) (v1 : Nat) (v2 : Int32) (v3 : Int32) (v4 : Int32) (s0 : Int32) : Option (Int32 × PH) :=
  fX4_moveOf_23 FUEL g v0 v1 v2 v3 v4 s0 (0 : Int32)
set_option maxHeartbeats 4000000 in
set_option maxRecDepth 100000 in
theorem bX4_moveOf_18 {K : HK} {E : HE} {r : Int32} {g' : PH}  (C : VC K E 7 cX4_moveOf RX4 (some .int))  {g : PH} {v0 : Nat} {v1 : Nat} {v2 : Int32} {v3 : Int32} {v4 : Int32} {s0 : Int32} (hf : fX4_moveOf_18  g v0 v1 v2 v3 v4 s0 = some (r, g')) : V K E (hRm 2 55 0 0) 7 (hZ K E (some (.int r)) g' 0 0) 0 0 (kS K) g 18 [(0, .ref v0), (1, .ref v1), (2, .int v2), (3, .int v3), (4, .int v4)] [.int s0] := by
  unfold fX4_moveOf_18 at hf
  refine V.istore (pc := 18) (L' := [(5, .int s0), (0, .ref v0), (1, .ref v1), (2, .int v2), (3, .int v3), (4, .int v4)]) C dX4_moveOf_18 (by decide) rfl ?_
  refine V.iconst (pc := 20) C dX4_moveOf_20 (v := (0 : Int32)) (by decide) ?_
  refine V.istore (pc := 21) (L' := [(6, .int (0 : Int32)), (5, .int s0), (0, .ref v0), (1, .ref v1), (2, .int v2), (3, .int v3), (4, .int v4)]) C dX4_moveOf_21 (by decide) rfl ?_
  refine V.sub (L' := [(0, .ref v0), (1, .ref v1), (2, .int v2), (3, .int v3), (4, .int v4), (5, .int s0), (6, .int (0 : Int32))]) [2, 3, 4, 5, 6, 1, 0] rfl ?_
  exact bX4_moveOf_23 C  _ _ _ _ _ _ _ _ _ hf
def fX4_moveOf (g : PH) (a0 : Nat) (a1 : Nat) (a2 : Int32) (a3 : Int32) : Option (Int32 × PH) :=
  okb (isO g a0 4) ((getR g a0 4 3).bind fun p1 =>
  ((ldI g p1 3 a3).bind fun x3 =>
  (if x3 = 0 then (fX4_moveOf_18 g a0 a1 a2 a3 (536887296 : Int32) (1 : Int32)) else
  (fX4_moveOf_18 g a0 a1 a2 a3 (536887296 : Int32) (0 : Int32)))))
theorem oX4_moveOf {g : PH} {a0 : Nat} {a1 : Nat} {a2 : Int32} {a3 : Int32} {q : (Int32 × PH)} (h : fX4_moveOf g a0 a1 a2 a3 = some q) : isO g a0 4 = true := by unfold fX4_moveOf at h; exact (okb_some h).1
theorem hyX4_moveOf : hMet yX4_moveOf RX4 cX4_moveOf 7 (some .int) 3 := ⟨wd_755, wd_754, ws_30, wd_15, rfl, by decide +kernel, by decide +kernel, by decide +kernel⟩
set_option maxHeartbeats 4000000 in
set_option maxRecDepth 100000 in
theorem mX4_moveOf (l : Launch) (E : HE) (sz : Nat) {g g' : PH} {a0 : Nat} {a1 : Nat} {a2 : Int32} {a3 : Int32} {r : Int32} (hf : fX4_moveOf g a0 a1 a2 a3 = some (r, g')) : hM l E yX4_moveOf cX4_moveOf 7 (some .int) 2 55 0 0 sz g [.ref a0, .ref a1, .int a2, .int a3] (some (.int r)) g' := by
  refine hM.of (by decide) (Nat.le_of_ble_eq_true rfl) (fun K hl C hin hsz => ?_)
  subst hl
  subst hsz
  have C : VC K E 7 cX4_moveOf RX4 (some .int) := C
  unfold fX4_moveOf at hf
  replace hf := okb_some hf
  obtain ⟨ho, hf⟩ := hf
  refine V.start (L' := [(0, .ref a0), (1, .ref a1), (2, .int a2), (3, .int a3)]) rfl ?_
  refine V.ldc (pc := 0) C wd_756 dX4_moveOf_0 ?_
  refine V.istore (pc := 2) (L' := [(4, .int (536887296 : Int32)), (0, .ref a0), (1, .ref a1), (2, .int a2), (3, .int a3)]) C dX4_moveOf_2 (by decide) rfl ?_
  refine V.aload_n (pc := 4) C dX4_moveOf_4 1 rfl ?_
  replace hf := ob_some hf
  obtain ⟨p1, h2, hf⟩ := hf
  refine V.getR (pc := 5) C kX4 (k := 3) (by decide) wd_696 h2 dX4_moveOf_5 ?_
  refine V.iload_n (pc := 8) C dX4_moveOf_8 4 rfl ?_
  replace hf := ob_some hf
  obtain ⟨x3, h4, hf⟩ := hf
  refine V.zald (pc := 9) C h4 dX4_moveOf_9 ?_
  refine V.if_eq (pc := 10) (t := 17) C dX4_moveOf_10 (by decide) (fun c5 => ?_) (fun c5 => ?_)
  · replace hf := ite_t c5 hf
    refine V.iconst (pc := 17) C dX4_moveOf_17 (v := (1 : Int32)) (by decide) ?_
    refine V.sub (L' := [(0, .ref a0), (1, .ref a1), (2, .int a2), (3, .int a3), (4, .int (536887296 : Int32))]) [1, 2, 3, 4, 0] rfl ?_
    exact bX4_moveOf_18 C  hf
  replace hf := ite_f c5 hf
  refine V.iconst (pc := 13) C dX4_moveOf_13 (v := (0 : Int32)) (by decide) ?_
  refine V.goto (pc := 14) (t := 18) C dX4_moveOf_14 (by decide) ?_
  refine V.sub (L' := [(0, .ref a0), (1, .ref a1), (2, .int a2), (3, .int a3), (4, .int (536887296 : Int32))]) [1, 2, 3, 4, 0] rfl ?_
  exact bX4_moveOf_18 C  hf
theorem dX4_learn_0 : decode cX4_learn 0 = .ok (.aload_n 0, 1) := by decide +kernel
theorem dX4_learn_1 : decode cX4_learn 1 = .ok (.getfield 32, 3) := by decide +kernel
theorem dX4_learn_4 : decode cX4_learn 4 = .ok (.iload_n 1, 1) := by decide +kernel
theorem dX4_learn_5 : decode cX4_learn 5 = .ok (.ishr, 1) := by decide +kernel
theorem dX4_learn_6 : decode cX4_learn 6 = .ok (.iconst 1, 1) := by decide +kernel
theorem dX4_learn_7 : decode cX4_learn 7 = .ok (.iand, 1) := by decide +kernel
theorem dX4_learn_8 : decode cX4_learn 8 = .ok (.iconst 1, 1) := by decide +kernel
theorem dX4_learn_9 : decode cX4_learn 9 = .ok (.if_icmp .ne 4, 3) := by decide +kernel
theorem dX4_learn_12 : decode cX4_learn 12 = .ok (.return_, 1) := by decide +kernel
theorem dX4_learn_13 : decode cX4_learn 13 = .ok (.aload_n 0, 1) := by decide +kernel
theorem dX4_learn_14 : decode cX4_learn 14 = .ok (.dup, 1) := by decide +kernel
theorem dX4_learn_15 : decode cX4_learn 15 = .ok (.getfield 32, 3) := by decide +kernel
theorem dX4_learn_18 : decode cX4_learn 18 = .ok (.iconst 1, 1) := by decide +kernel
theorem dX4_learn_19 : decode cX4_learn 19 = .ok (.iload_n 1, 1) := by decide +kernel
theorem dX4_learn_20 : decode cX4_learn 20 = .ok (.ishl, 1) := by decide +kernel
theorem dX4_learn_21 : decode cX4_learn 21 = .ok (.ior, 1) := by decide +kernel
theorem dX4_learn_22 : decode cX4_learn 22 = .ok (.putfield 32, 3) := by decide +kernel
theorem dX4_learn_25 : decode cX4_learn 25 = .ok (.iconst 0, 1) := by decide +kernel
theorem dX4_learn_26 : decode cX4_learn 26 = .ok (.istore_n 3, 1) := by decide +kernel
theorem dX4_learn_27 : decode cX4_learn 27 = .ok (.iload_n 3, 1) := by decide +kernel
theorem dX4_learn_28 : decode cX4_learn 28 = .ok (.iconst 3, 1) := by decide +kernel
theorem dX4_learn_29 : decode cX4_learn 29 = .ok (.if_icmp .ge 81, 3) := by decide +kernel
theorem dX4_learn_32 : decode cX4_learn 32 = .ok (.iconst 0, 1) := by decide +kernel
theorem dX4_learn_33 : decode cX4_learn 33 = .ok (.istore 4, 2) := by decide +kernel
theorem dX4_learn_35 : decode cX4_learn 35 = .ok (.iload 4, 2) := by decide +kernel
theorem dX4_learn_37 : decode cX4_learn 37 = .ok (.bipush 78, 2) := by decide +kernel
theorem dX4_learn_39 : decode cX4_learn 39 = .ok (.if_icmp .ge 65, 3) := by decide +kernel
theorem dX4_learn_42 : decode cX4_learn 42 = .ok (.iload_n 3, 1) := by decide +kernel
theorem dX4_learn_43 : decode cX4_learn 43 = .ok (.ifCond .ne 19, 3) := by decide +kernel
theorem dX4_learn_46 : decode cX4_learn 46 = .ok (.aload_n 0, 1) := by decide +kernel
theorem dX4_learn_47 : decode cX4_learn 47 = .ok (.getfield 26, 3) := by decide +kernel
theorem dX4_learn_50 : decode cX4_learn 50 = .ok (.iload 4, 2) := by decide +kernel
theorem dX4_learn_52 : decode cX4_learn 52 = .ok (.iconst 3, 1) := by decide +kernel
theorem dX4_learn_53 : decode cX4_learn 53 = .ok (.imul, 1) := by decide +kernel
theorem dX4_learn_54 : decode cX4_learn 54 = .ok (.iaload, 1) := by decide +kernel
theorem dX4_learn_55 : decode cX4_learn 55 = .ok (.ifCond .ne 7, 3) := by decide +kernel
theorem dX4_learn_58 : decode cX4_learn 58 = .ok (.iconst 1, 1) := by decide +kernel
theorem dX4_learn_59 : decode cX4_learn 59 = .ok (.goto 4, 3) := by decide +kernel
theorem dX4_learn_62 : decode cX4_learn 62 = .ok (.iconst 0, 1) := by decide +kernel
theorem dX4_learn_63 : decode cX4_learn 63 = .ok (.istore 5, 2) := by decide +kernel
theorem dX4_learn_65 : decode cX4_learn 65 = .ok (.aload_n 0, 1) := by decide +kernel
theorem dX4_learn_66 : decode cX4_learn 66 = .ok (.getfield 29, 3) := by decide +kernel
theorem dX4_learn_69 : decode cX4_learn 69 = .ok (.iload_n 1, 1) := by decide +kernel
theorem dX4_learn_70 : decode cX4_learn 70 = .ok (.iconst 3, 1) := by decide +kernel
theorem dX4_learn_71 : decode cX4_learn 71 = .ok (.imul, 1) := by decide +kernel
theorem dX4_learn_72 : decode cX4_learn 72 = .ok (.iload_n 3, 1) := by decide +kernel
theorem dX4_learn_73 : decode cX4_learn 73 = .ok (.iadd, 1) := by decide +kernel
theorem dX4_learn_74 : decode cX4_learn 74 = .ok (.bipush 78, 2) := by decide +kernel
theorem dX4_learn_76 : decode cX4_learn 76 = .ok (.imul, 1) := by decide +kernel
theorem dX4_learn_77 : decode cX4_learn 77 = .ok (.iload 4, 2) := by decide +kernel
theorem dX4_learn_79 : decode cX4_learn 79 = .ok (.iadd, 1) := by decide +kernel
theorem dX4_learn_80 : decode cX4_learn 80 = .ok (.iload 5, 2) := by decide +kernel
theorem dX4_learn_82 : decode cX4_learn 82 = .ok (.ifCond .eq 7, 3) := by decide +kernel
theorem dX4_learn_85 : decode cX4_learn 85 = .ok (.iconst (-1), 1) := by decide +kernel
theorem dX4_learn_86 : decode cX4_learn 86 = .ok (.goto 11, 3) := by decide +kernel
theorem dX4_learn_89 : decode cX4_learn 89 = .ok (.aload_n 0, 1) := by decide +kernel
theorem dX4_learn_90 : decode cX4_learn 90 = .ok (.aload_n 2, 1) := by decide +kernel
theorem dX4_learn_91 : decode cX4_learn 91 = .ok (.iload_n 3, 1) := by decide +kernel
theorem dX4_learn_92 : decode cX4_learn 92 = .ok (.iload 4, 2) := by decide +kernel
theorem dX4_learn_94 : decode cX4_learn 94 = .ok (.invokevirtual 100, 3) := by decide +kernel
theorem dX4_learn_97 : decode cX4_learn 97 = .ok (.iastore, 1) := by decide +kernel
theorem dX4_learn_98 : decode cX4_learn 98 = .ok (.iinc 4 1, 3) := by decide +kernel
theorem dX4_learn_101 : decode cX4_learn 101 = .ok (.goto (-66), 3) := by decide +kernel
theorem dX4_learn_104 : decode cX4_learn 104 = .ok (.iinc 3 1, 3) := by decide +kernel
theorem dX4_learn_107 : decode cX4_learn 107 = .ok (.goto (-80), 3) := by decide +kernel
theorem dX4_learn_110 : decode cX4_learn 110 = .ok (.return_, 1) := by decide +kernel
def fX4_learn_97 (k27 : PH → Nat → Int32 → Nat → Int32 → Option (Unit × PH)) (k35 : PH → Nat → Int32 → Nat → Int32 → Int32 → Option (Unit × PH)) (g : PH) (v0 : Nat) (v1 : Int32) (v2 : Nat) (v3 : Int32) (v4 : Int32) (s0 : Int32) (s1 : Int32) (s2 : Nat) : Option (Unit × PH) :=
  (stI g s2 0 s1 s0).bind fun g1 =>
  (k35 g1 v0 v1 v2 v3 (v4 + (1 : Int32)))
set_option maxHeartbeats 4000000 in
set_option maxRecDepth 100000 in
theorem bX4_learn_97 {K : HK} {E : HE} {r : Unit} {g' : PH} {k27 : PH → Nat → Int32 → Nat → Int32 → Option (Unit × PH)} {k35 : PH → Nat → Int32 → Nat → Int32 → Int32 → Option (Unit × PH)} (C : VC K E 6 cX4_learn RX4 none) (hk27 : ∀ (g : PH) (v0 : Nat) (v1 : Int32) (v2 : Nat) (v3 : Int32), k27 g v0 v1 v2 v3 = some (r, g') → V K E (hRm 3 81 0 0) 6 (hZ K E none g' 0 0) 0 0 (kS K) g 27 [(0, .ref v0), (1, .int v1), (2, .ref v2), (3, .int v3)] []) (hk35 : ∀ (g : PH) (v0 : Nat) (v1 : Int32) (v2 : Nat) (v3 : Int32) (v4 : Int32), k35 g v0 v1 v2 v3 v4 = some (r, g') → V K E (hRm 3 81 0 0) 6 (hZ K E none g' 0 0) 0 0 (kS K) g 35 [(0, .ref v0), (1, .int v1), (2, .ref v2), (3, .int v3), (4, .int v4)] []) {g : PH} {v0 : Nat} {v1 : Int32} {v2 : Nat} {v3 : Int32} {v4 : Int32} {s0 : Int32} {s1 : Int32} {s2 : Nat} (hf : fX4_learn_97 k27 k35 g v0 v1 v2 v3 v4 s0 s1 s2 = some (r, g')) : V K E (hRm 3 81 0 0) 6 (hZ K E none g' 0 0) 0 0 (kS K) g 97 [(0, .ref v0), (1, .int v1), (2, .ref v2), (3, .int v3), (4, .int v4)] [.int s0, .int s1, .ref s2] := by
  unfold fX4_learn_97 at hf
  replace hf := ob_some hf
  obtain ⟨g1, h2, hf⟩ := hf
  refine V.iast (pc := 97) C h2 dX4_learn_97 ?_
  refine V.iinc (pc := 98) (v := (v4 + (1 : Int32))) (L' := [(4, .int (v4 + (1 : Int32))), (0, .ref v0), (1, .int v1), (2, .ref v2), (3, .int v3)]) C dX4_learn_98 4 rfl rfl (by decide) rfl ?_
  refine V.goto (pc := 101) (t := 35) C dX4_learn_101 (by decide) ?_
  refine V.sub (L' := [(0, .ref v0), (1, .int v1), (2, .ref v2), (3, .int v3), (4, .int (v4 + (1 : Int32)))]) [1, 2, 3, 4, 0] rfl ?_
  exact hk35 _ _ _ _ _ _ hf
def fX4_learn_63 (k27 : PH → Nat → Int32 → Nat → Int32 → Option (Unit × PH)) (k35 : PH → Nat → Int32 → Nat → Int32 → Int32 → Option (Unit × PH)) (g : PH) (v0 : Nat) (v1 : Int32) (v2 : Nat) (v3 : Int32) (v4 : Int32) (s0 : Int32) : Option (Unit × PH) :=
  (getR g v0 4 5).bind fun p1 =>
  (if s0 = 0 then ((fX4_moveOf g v0 v2 v3 v4).bind fun q4 =>
  (fX4_learn_97 (k27) (k35) q4.2 v0 v1 v2 v3 v4 q4.1 ((((v1 * (3 : Int32)) + v3) * (78 : Int32)) + v4) p1)) else
  (fX4_learn_97 (k27) (k35) g v0 v1 v2 v3 v4 (-1 : Int32) ((((v1 * (3 : Int32)) + v3) * (78 : Int32)) + v4) p1))
set_option maxHeartbeats 4000000 in
set_option maxRecDepth 100000 in
theorem bX4_learn_63 {K : HK} {E : HE} {r : Unit} {g' : PH} {k27 : PH → Nat → Int32 → Nat → Int32 → Option (Unit × PH)} {k35 : PH → Nat → Int32 → Nat → Int32 → Int32 → Option (Unit × PH)} (C : VC K E 6 cX4_learn RX4 none) (hk27 : ∀ (g : PH) (v0 : Nat) (v1 : Int32) (v2 : Nat) (v3 : Int32), k27 g v0 v1 v2 v3 = some (r, g') → V K E (hRm 3 81 0 0) 6 (hZ K E none g' 0 0) 0 0 (kS K) g 27 [(0, .ref v0), (1, .int v1), (2, .ref v2), (3, .int v3)] []) (hk35 : ∀ (g : PH) (v0 : Nat) (v1 : Int32) (v2 : Nat) (v3 : Int32) (v4 : Int32), k35 g v0 v1 v2 v3 v4 = some (r, g') → V K E (hRm 3 81 0 0) 6 (hZ K E none g' 0 0) 0 0 (kS K) g 35 [(0, .ref v0), (1, .int v1), (2, .ref v2), (3, .int v3), (4, .int v4)] []) {g : PH} {v0 : Nat} {v1 : Int32} {v2 : Nat} {v3 : Int32} {v4 : Int32} {s0 : Int32} (hf : fX4_learn_63 k27 k35 g v0 v1 v2 v3 v4 s0 = some (r, g')) : V K E (hRm 3 81 0 0) 6 (hZ K E none g' 0 0) 0 0 (kS K) g 63 [(0, .ref v0), (1, .int v1), (2, .ref v2), (3, .int v3), (4, .int v4)] [.int s0] := by
  unfold fX4_learn_63 at hf
  refine V.istore (pc := 63) (L' := [(5, .int s0), (0, .ref v0), (1, .int v1), (2, .ref v2), (3, .int v3), (4, .int v4)]) C dX4_learn_63 (by decide) rfl ?_
  refine V.aload_n (pc := 65) C dX4_learn_65 1 rfl ?_
  replace hf := ob_some hf
  obtain ⟨p1, h2, hf⟩ := hf
  refine V.getR (pc := 66) C kX4 (k := 5) (by decide) wd_698 h2 dX4_learn_66 ?_
  refine V.iload_n (pc := 69) C dX4_learn_69 2 rfl ?_
  refine V.iconst (pc := 70) C dX4_learn_70 (v := (3 : Int32)) (by decide) ?_
  refine V.imul (pc := 71) C dX4_learn_71 ?_
  refine V.iload_n (pc := 72) C dX4_learn_72 4 rfl ?_
  refine V.iadd (pc := 73) C dX4_learn_73 ?_
  refine V.bipush (pc := 74) C dX4_learn_74 (v := (78 : Int32)) (by decide) ?_
  refine V.imul (pc := 76) C dX4_learn_76 ?_
  refine V.iload (pc := 77) C dX4_learn_77 5 rfl ?_
  refine V.iadd (pc := 79) C dX4_learn_79 ?_
  refine V.iload (pc := 80) C dX4_learn_80 0 rfl ?_
  refine V.if_eq (pc := 82) (t := 89) C dX4_learn_82 (by decide) (fun c3 => ?_) (fun c3 => ?_)
  · replace hf := ite_t c3 hf
    refine V.aload_n (pc := 89) C dX4_learn_89 1 rfl ?_
    refine V.aload_n (pc := 90) C dX4_learn_90 3 rfl ?_
    refine V.iload_n (pc := 91) C dX4_learn_91 4 rfl ?_
    refine V.iload (pc := 92) C dX4_learn_92 5 rfl ?_
    replace hf := ob_some hf
    obtain ⟨q4, h5, hf⟩ := hf
    refine V.callV0i (pc := 94) C hyX4_moveOf wd_752 (mX4_moveOf (r := q4.1) (g' := q4.2) K.2.1 E (kS K) h5) rfl rfl rfl (oX4_moveOf h5) ⟨Nat.le_of_ble_eq_true rfl, Nat.le_of_ble_eq_true rfl⟩ (Nat.le_of_ble_eq_true rfl) dX4_learn_94 ⟨Nat.zero_le _, Nat.zero_le _⟩ rfl ?_
    refine V.sub (L' := [(0, .ref v0), (1, .int v1), (2, .ref v2), (3, .int v3), (4, .int v4)]) [1, 2, 3, 4, 5] rfl ?_
    exact bX4_learn_97 C hk27 hk35 hf
  replace hf := ite_f c3 hf
  refine V.iconst (pc := 85) C dX4_learn_85 (v := (-1 : Int32)) (by decide) ?_
  refine V.goto (pc := 86) (t := 97) C dX4_learn_86 (by decide) ?_
  refine V.sub (L' := [(0, .ref v0), (1, .int v1), (2, .ref v2), (3, .int v3), (4, .int v4)]) [1, 2, 3, 4, 5] rfl ?_
  exact bX4_learn_97 C hk27 hk35 hf
def fX4_learn_62 (k27 : PH → Nat → Int32 → Nat → Int32 → Option (Unit × PH)) (k35 : PH → Nat → Int32 → Nat → Int32 → Int32 → Option (Unit × PH)) (g : PH) (v0 : Nat) (v1 : Int32) (v2 : Nat) (v3 : Int32) (v4 : Int32) : Option (Unit × PH) :=
  fX4_learn_63 (k27) (k35) g v0 v1 v2 v3 v4 (0 : Int32)
set_option maxHeartbeats 4000000 in
set_option maxRecDepth 100000 in
theorem bX4_learn_62 {K : HK} {E : HE} {r : Unit} {g' : PH} {k27 : PH → Nat → Int32 → Nat → Int32 → Option (Unit × PH)} {k35 : PH → Nat → Int32 → Nat → Int32 → Int32 → Option (Unit × PH)} (C : VC K E 6 cX4_learn RX4 none) (hk27 : ∀ (g : PH) (v0 : Nat) (v1 : Int32) (v2 : Nat) (v3 : Int32), k27 g v0 v1 v2 v3 = some (r, g') → V K E (hRm 3 81 0 0) 6 (hZ K E none g' 0 0) 0 0 (kS K) g 27 [(0, .ref v0), (1, .int v1), (2, .ref v2), (3, .int v3)] []) (hk35 : ∀ (g : PH) (v0 : Nat) (v1 : Int32) (v2 : Nat) (v3 : Int32) (v4 : Int32), k35 g v0 v1 v2 v3 v4 = some (r, g') → V K E (hRm 3 81 0 0) 6 (hZ K E none g' 0 0) 0 0 (kS K) g 35 [(0, .ref v0), (1, .int v1), (2, .ref v2), (3, .int v3), (4, .int v4)] []) {g : PH} {v0 : Nat} {v1 : Int32} {v2 : Nat} {v3 : Int32} {v4 : Int32} (hf : fX4_learn_62 k27 k35 g v0 v1 v2 v3 v4 = some (r, g')) : V K E (hRm 3 81 0 0) 6 (hZ K E none g' 0 0) 0 0 (kS K) g 62 [(0, .ref v0), (1, .int v1), (2, .ref v2), (3, .int v3), (4, .int v4)] [] := by
  unfold fX4_learn_62 at hf
  refine V.iconst (pc := 62) C dX4_learn_62 (v := (0 : Int32)) (by decide) ?_
  refine V.sub (L' := [(0, .ref v0), (1, .int v1), (2, .ref v2), (3, .int v3), (4, .int v4)]) [0, 1, 2, 3, 4] rfl ?_
  exact bX4_learn_63 C hk27 hk35 hf
def fX4_learn_35 (k27 : PH → Nat → Int32 → Nat → Int32 → Option (Unit × PH)) : Nat → PH → Nat → Int32 → Nat → Int32 → Int32 → Option (Unit × PH)
  | 0, _, _, _, _, _, _ => none
  | n + 1, g, v0, v1, v2, v3, v4 =>
  if (78 : Int32) ≤ v4 then (k27 g v0 v1 v2 (v3 + (1 : Int32))) else
  (if v3 = 0 then ((getR g v0 4 4).bind fun p3 =>
  ((ldI g p3 0 (v4 * (3 : Int32))).bind fun x5 =>
  (if x5 = 0 then (fX4_learn_63 (k27) (fX4_learn_35 k27 n) g v0 v1 v2 v3 v4 (1 : Int32)) else
  (fX4_learn_62 (k27) (fX4_learn_35 k27 n) g v0 v1 v2 v3 v4)))) else
  (fX4_learn_62 (k27) (fX4_learn_35 k27 n) g v0 v1 v2 v3 v4))
set_option maxHeartbeats 4000000 in
set_option maxRecDepth 100000 in
theorem bX4_learn_35 {K : HK} {E : HE} {r : Unit} {g' : PH} {k27 : PH → Nat → Int32 → Nat → Int32 → Option (Unit × PH)} (C : VC K E 6 cX4_learn RX4 none) (hk27 : ∀ (g : PH) (v0 : Nat) (v1 : Int32) (v2 : Nat) (v3 : Int32), k27 g v0 v1 v2 v3 = some (r, g') → V K E (hRm 3 81 0 0) 6 (hZ K E none g' 0 0) 0 0 (kS K) g 27 [(0, .ref v0), (1, .int v1), (2, .ref v2), (3, .int v3)] []) : ∀ (n : Nat) (g : PH) (v0 : Nat) (v1 : Int32) (v2 : Nat) (v3 : Int32) (v4 : Int32), fX4_learn_35 k27 n g v0 v1 v2 v3 v4 = some (r, g') → V K E (hRm 3 81 0 0) 6 (hZ K E none g' 0 0) 0 0 (kS K) g 35 [(0, .ref v0), (1, .int v1), (2, .ref v2), (3, .int v3), (4, .int v4)] [] := by
  intro n
  induction n with
  | zero =>
    intro g v0 v1 v2 v3 v4 hf
    rw [fX4_learn_35] at hf
    cases hf
  | succ n ih =>
    intro g v0 v1 v2 v3 v4 hf
    rw [fX4_learn_35] at hf
    refine V.iload (pc := 35) C dX4_learn_35 4 rfl ?_
    refine V.bipush (pc := 37) C dX4_learn_37 (v := (78 : Int32)) (by decide) ?_
    refine V.icmp_ge (pc := 39) (t := 104) C dX4_learn_39 (by decide) (fun c1 => ?_) (fun c1 => ?_)
    · replace hf := ite_t c1 hf
      refine V.iinc (pc := 104) (v := (v3 + (1 : Int32))) (L' := [(3, .int (v3 + (1 : Int32))), (0, .ref v0), (1, .int v1), (2, .ref v2), (4, .int v4)]) C dX4_learn_104 3 rfl rfl (by decide) rfl ?_
      refine V.goto (pc := 107) (t := 27) C dX4_learn_107 (by decide) ?_
      refine V.sub (L' := [(0, .ref v0), (1, .int v1), (2, .ref v2), (3, .int (v3 + (1 : Int32)))]) [1, 2, 3, 0] rfl ?_
      exact hk27 _ _ _ _ _ hf
    replace hf := ite_f c1 hf
    refine V.iload_n (pc := 42) C dX4_learn_42 3 rfl ?_
    refine V.if_ne (pc := 43) (t := 62) C dX4_learn_43 (by decide) (fun c2 => ?_) (fun c2 => ?_)
    · replace hf := ite_f c2 hf
      refine V.sub (L' := [(0, .ref v0), (1, .int v1), (2, .ref v2), (3, .int v3), (4, .int v4)]) [0, 1, 2, 3, 4] rfl ?_
      exact bX4_learn_62 C hk27 ih hf
    replace hf := ite_t c2 hf
    refine V.aload_n (pc := 46) C dX4_learn_46 0 rfl ?_
    replace hf := ob_some hf
    obtain ⟨p3, h4, hf⟩ := hf
    refine V.getR (pc := 47) C kX4 (k := 4) (by decide) wd_697 h4 dX4_learn_47 ?_
    refine V.iload (pc := 50) C dX4_learn_50 4 rfl ?_
    refine V.iconst (pc := 52) C dX4_learn_52 (v := (3 : Int32)) (by decide) ?_
    refine V.imul (pc := 53) C dX4_learn_53 ?_
    replace hf := ob_some hf
    obtain ⟨x5, h6, hf⟩ := hf
    refine V.iald (pc := 54) C h6 dX4_learn_54 ?_
    refine V.if_ne (pc := 55) (t := 62) C dX4_learn_55 (by decide) (fun c7 => ?_) (fun c7 => ?_)
    · replace hf := ite_f c7 hf
      refine V.sub (L' := [(0, .ref v0), (1, .int v1), (2, .ref v2), (3, .int v3), (4, .int v4)]) [0, 1, 2, 3, 4] rfl ?_
      exact bX4_learn_62 C hk27 ih hf
    replace hf := ite_t c7 hf
    refine V.iconst (pc := 58) C dX4_learn_58 (v := (1 : Int32)) (by decide) ?_
    refine V.goto (pc := 59) (t := 63) C dX4_learn_59 (by decide) ?_
    refine V.sub (L' := [(0, .ref v0), (1, .int v1), (2, .ref v2), (3, .int v3), (4, .int v4)]) [0, 1, 2, 3, 4] rfl ?_
    exact bX4_learn_63 C hk27 ih hf
def fX4_learn_27  : Nat → PH → Nat → Int32 → Nat → Int32 → Option (Unit × PH)
  | 0, _, _, _, _, _ => none
  | n + 1, g, v0, v1, v2, v3 =>
  if (3 : Int32) ≤ v3 then (some ((), g)) else
  (fX4_learn_35 (fX4_learn_27 n) FUEL g v0 v1 v2 v3 (0 : Int32))
set_option maxHeartbeats 4000000 in
set_option maxRecDepth 100000 in
theorem bX4_learn_27 {K : HK} {E : HE} {r : Unit} {g' : PH}  (C : VC K E 6 cX4_learn RX4 none)  : ∀ (n : Nat) (g : PH) (v0 : Nat) (v1 : Int32) (v2 : Nat) (v3 : Int32), fX4_learn_27  n g v0 v1 v2 v3 = some (r, g') → V K E (hRm 3 81 0 0) 6 (hZ K E none g' 0 0) 0 0 (kS K) g 27 [(0, .ref v0), (1, .int v1), (2, .ref v2), (3, .int v3)] [] := by
  intro n
  induction n with
  | zero =>
    intro g v0 v1 v2 v3 hf
    rw [fX4_learn_27] at hf
    cases hf
  | succ n ih =>
    intro g v0 v1 v2 v3 hf
    rw [fX4_learn_27] at hf
    refine V.iload_n (pc := 27) C dX4_learn_27 3 rfl ?_
    refine V.iconst (pc := 28) C dX4_learn_28 (v := (3 : Int32)) (by decide) ?_
    refine V.icmp_ge (pc := 29) (t := 110) C dX4_learn_29 (by decide) (fun c1 => ?_) (fun c1 => ?_)
    · replace hf := ite_t c1 hf
      obtain ⟨f1, f2⟩ := fin2 hf
      clear hf
      subst f1
      subst f2
      exact V.vret (pc := 110) C rfl dX4_learn_110
    replace hf := ite_f c1 hf
    refine V.iconst (pc := 32) C dX4_learn_32 (v := (0 : Int32)) (by decide) ?_
    refine V.istore (pc := 33) (L' := [(4, .int (0 : Int32)), (0, .ref v0), (1, .int v1), (2, .ref v2), (3, .int v3)]) C dX4_learn_33 (by decide) rfl ?_
    refine V.sub (L' := [(0, .ref v0), (1, .int v1), (2, .ref v2), (3, .int v3), (4, .int (0 : Int32))]) [1, 2, 3, 4, 0] rfl ?_
    exact bX4_learn_35 C ih _ _ _ _ _ _ _ hf
def fX4_learn (g : PH) (a0 : Nat) (a1 : Int32) (a2 : Nat) : Option (Unit × PH) :=
  okb (isO g a0 4) ((getI g a0 4 6).bind fun x1 =>
  (if ((x1 >>> (a1 &&& 31)) &&& (1 : Int32)) = (1 : Int32) then (some ((), g)) else
  ((getI g a0 4 6).bind fun x4 =>
  ((putV g a0 4 6 (.int (x4 ||| ((1 : Int32) <<< (a1 &&& 31))))).bind fun g6 =>
  (fX4_learn_27 FUEL g6 a0 a1 a2 (0 : Int32))))))
theorem oX4_learn {g : PH} {a0 : Nat} {a1 : Int32} {a2 : Nat} {q : (Unit × PH)} (h : fX4_learn g a0 a1 a2 = some q) : isO g a0 4 = true := by unfold fX4_learn at h; exact (okb_some h).1
theorem hyX4_learn : hMet yX4_learn RX4 cX4_learn 6 none 2 := ⟨wd_751, wd_750, ws_29, wd_15, rfl, by decide +kernel, by decide +kernel, by decide +kernel⟩
set_option maxHeartbeats 4000000 in
set_option maxRecDepth 100000 in
theorem mX4_learn (l : Launch) (E : HE) (sz : Nat) {g g' : PH} {a0 : Nat} {a1 : Int32} {a2 : Nat} {r : Unit} (hf : fX4_learn g a0 a1 a2 = some (r, g')) : hM l E yX4_learn cX4_learn 6 none 3 81 0 0 sz g [.ref a0, .int a1, .ref a2] none g' := by
  refine hM.of (by decide) (Nat.le_of_ble_eq_true rfl) (fun K hl C hin hsz => ?_)
  subst hl
  subst hsz
  have C : VC K E 6 cX4_learn RX4 none := C
  unfold fX4_learn at hf
  replace hf := okb_some hf
  obtain ⟨ho, hf⟩ := hf
  refine V.start (L' := [(0, .ref a0), (1, .int a1), (2, .ref a2)]) rfl ?_
  refine V.aload_n (pc := 0) C dX4_learn_0 0 rfl ?_
  replace hf := ob_some hf
  obtain ⟨x1, h2, hf⟩ := hf
  refine V.getI (pc := 1) C kX4 (k := 6) (by decide) wd_699 h2 dX4_learn_1 ?_
  refine V.iload_n (pc := 4) C dX4_learn_4 1 rfl ?_
  refine V.ishr (pc := 5) C dX4_learn_5 ?_
  refine V.iconst (pc := 6) C dX4_learn_6 (v := (1 : Int32)) (by decide) ?_
  refine V.iand (pc := 7) C dX4_learn_7 ?_
  refine V.iconst (pc := 8) C dX4_learn_8 (v := (1 : Int32)) (by decide) ?_
  refine V.icmp_ne (pc := 9) (t := 13) C dX4_learn_9 (by decide) (fun c3 => ?_) (fun c3 => ?_)
  · replace hf := ite_f c3 hf
    refine V.aload_n (pc := 13) C dX4_learn_13 0 rfl ?_
    refine V.dup (pc := 14) C dX4_learn_14 rfl ?_
    replace hf := ob_some hf
    obtain ⟨x4, h5, hf⟩ := hf
    refine V.getI (pc := 15) C kX4 (k := 6) (by decide) wd_699 h5 dX4_learn_15 ?_
    refine V.iconst (pc := 18) C dX4_learn_18 (v := (1 : Int32)) (by decide) ?_
    refine V.iload_n (pc := 19) C dX4_learn_19 1 rfl ?_
    refine V.ishl (pc := 20) C dX4_learn_20 ?_
    refine V.ior (pc := 21) C dX4_learn_21 ?_
    replace hf := ob_some hf
    obtain ⟨g6, h7, hf⟩ := hf
    refine V.putX (pc := 22) C kX4 (k := 6) (by decide) wd_699 rfl rfl rfl h7 dX4_learn_22 ?_
    refine V.iconst (pc := 25) C dX4_learn_25 (v := (0 : Int32)) (by decide) ?_
    refine V.istore_n (pc := 26) (L' := [(3, .int (0 : Int32)), (0, .ref a0), (1, .int a1), (2, .ref a2)]) C dX4_learn_26 (by decide) rfl ?_
    refine V.sub (L' := [(0, .ref a0), (1, .int a1), (2, .ref a2), (3, .int (0 : Int32))]) [1, 2, 3, 0] rfl ?_
    exact bX4_learn_27 C  _ _ _ _ _ _ hf
  replace hf := ite_t c3 hf
  obtain ⟨f1, f2⟩ := fin2 hf
  clear hf
  subst f1
  subst f2
  exact V.vret (pc := 12) C rfl dX4_learn_12
