/-! The ops of an element, read by both. -/
def VO (op : Nat → Nat) (c : Nat) (so : Option Nat) : Prop := ∀ k, k < c → op k < 4 ∧ (op k < 2 → sEo op k so = some (op k))
theorem VO.s2 {op : Nat → Nat} {so : Option Nat} (h0 : ∀ z, so = some z → z < 2) : ∀ {c : Nat}, VO op c so → ∀ z, sEo op c so = some z → z < 2 := by
  intro c
  induction c with
  | zero => intro _ z hz; exact h0 z hz
  | succ c ih =>
    intro V z hz
    have := V c (by omega)
    unfold sEo at hz
    by_cases h : op c < 2
    · rw [if_pos h] at hz
      exact ih (fun k hk => V k (by omega)) z hz
    · rw [if_neg h] at hz
      cases hz
      omega
theorem VO.ext {op : Nat → Nat} {so : Option Nat} {i c : Nat} (V : VO op i so) (hc : c < 4) (h : c < 2 → sEo op i so = some c) : VO (opu op i c) (i + 1) so := by
  intro k hk
  by_cases e : k = i
  · subst e
    rw [show opu op k c k = c from if_pos rfl, (sEo_c (op := opu op k c) (op' := op) (k := k) (o := so) (fun j hj => if_neg (by omega))).1]
    exact ⟨hc, h⟩
  · rw [show opu op i c k = op k from if_neg e, (sEo_c (op := opu op i c) (op' := op) (k := k) (o := so) (fun j hj => if_neg (by omega))).1]
    exact V k (by omega)
/-- reference: an element's ops, way and number are read -/
def OE (u1 u : HS) (m mn e c wy : Nat) (β : Nat → Nat) (n p : Nat) (so : Option Nat) (op : Nat → Nat) : Prop := TR u m β n p ∧ hi u m 13 = oI (sEo op c so) ∧ Fr (Pro m) u1 u ∧ ha u m 8 (64 * mn + 8 * e) = nI wy ∧ ha u m 8 (64 * mn + 8 * e + 1) = nI c ∧ (∀ k, k < c → ha u m 8 (64 * mn + 8 * e + 2 + k) = nI (op k)) ∧ ∀ j, ¬ (64 * mn + 8 * e ≤ j ∧ j < 64 * mn + 8 * e + 8) → ha u m 8 j = ha u1 m 8 j
def OEf (u1 u : HS) (m mn e f : Nat) : Prop := hi u m 3 = nI f ∧ Fr (Pro m) u1 u ∧ ∀ j, ¬ (64 * mn + 8 * e ≤ j ∧ j < 64 * mn + 8 * e + 8) → ha u m 8 j = ha u1 m 8 j
theorem ix_13 : ∀ k, k < 256 → ixL 13 k = (if k = 44 then some 0 else if k = 41 then some 1 else none) := by decide +kernel
section OL
variable {w1 u1 : HS} {t o m mn e n : Nat} {β : Nat → Nat} {so : Option Nat}
theorem ORf.toE {u : HS} {f : Nat} (h : ORf u1 u m mn e f) : OEf u1 u m mn e f := ⟨h.1, h.2.1, fun j hj => h.2.2 j (by omega)⟩
theorem ops_loop (hb : ∀ i, β i < 256) {wy : Nat} (h0 : ∀ z, so = some z → z < 2) : ∀ d i p op w u N1 N2, i + d = 6 → d + 1 < N1 → d < N2 → OC w1 w t o e i β n p so op → OR u1 u m mn e i β n p so op → VO op i so →
    (∃ c op' p' w5, 0 < c ∧ c ≤ 6 ∧ VO op' c so ∧ OC w1 w5 t o e c β n p' so op' ∧ (∀ Q : Unit → HS → Prop, Rn (FX2_scanElement_137 w5 o) Q → Rn ((FX2_scanOp w o t).bind fun q => FX2_scanElement_110 N1 q.2 o t (nI i)) Q) ∧ ∃ u', FX9_readsElement_114 N2 u m (nI e) (nI wy) (nI i) = some (1, u') ∧ OE u1 u' m mn e c wy β n p' so op') ∨
    (∃ f w5, f ≠ 0 ∧ OF w1 w5 t o e β n f ∧ (∀ Q : Unit → HS → Prop, Rn (FX2_scanElement_137 w5 o) Q → Rn ((FX2_scanOp w o t).bind fun q => FX2_scanElement_110 N1 q.2 o t (nI i)) Q) ∧ ∃ u', FX9_readsElement_114 N2 u m (nI e) (nI wy) (nI i) = some (0, u') ∧ OEf u1 u' m mn e f) := by
  have fstop : ∀ {w' : HS} {f N : Nat} {v : Int32} {Q : Unit → HS → Prop}, f ≠ 0 → 0 < N → OF w1 w' t o e β n f → ∃ w5, OF w1 w5 t o e β n f ∧ ∀ Q : Unit → HS → Prop, Rn (FX2_scanElement_137 w5 o) Q → Rn (FX2_scanElement_110 N w' o t v) Q := by
    intro w' f N v Q fn hN h
    obtain ⟨h1, h2, h3, p, T⟩ := id h
    have ne : o ≠ t := by
      intro q
      have := T.1
      rw [← q, h2] at this
      cases this
    obtain ⟨N, rfl⟩ : ∃ z, N = z + 1 := ⟨N - 1, by omega⟩
    obtain ⟨w6, e6, f6, t6⟩ := tp_take hb (s := 13) (by decide) T
    rw [tk_f fn] at e6 t6
    by_cases h6 : (6 : Int32) ≤ v
    · exact ⟨w', h, fun Q hQ => by rw [FX2_scanElement_110]; exact Rn.t h6 hQ⟩
    · refine ⟨w6, ⟨h1.trans (f6.mono (fun b k z => Or.inl z)), by rw [f6.c]; exact h2, by rw [f6.i (by unfold P6; omega)]; exact h3, _, t6⟩, fun Q hQ => ?_⟩
      rw [FX2_scanElement_110]
      exact Rn.f h6 (Rn.eq e6 (Rn.f (show ¬ (oI none = 0) by decide) hQ))
  have ixw : ∀ f, (((64 : Int32) * nI mn) + ((8 : Int32) * nI e)) + nI f = nI (64 * mn + 8 * e + f) := fun f => ix_el mn e f
  have ixw0 : (((64 : Int32) * nI mn) + ((8 : Int32) * nI e)) = nI (64 * mn + 8 * e) := by
    rw [show (64 : Int32) = nI 64 from rfl, l8_, nI_mul, nI_mul, nI_add]
  intro d
  induction d with
  | zero =>
    intro i p op w u N1 N2 he h1 h2 C R V
    obtain ⟨N2, rfl⟩ : ∃ z, N2 = z + 1 := ⟨N2 - 1, by omega⟩
    rcases op_both hb C R (V.s2 h0) with ⟨i6, _⟩ | ⟨f, fn, ⟨_, w', ew', C'⟩, u', e', R'⟩
    · omega
    · obtain ⟨w5, k5, s5⟩ := fstop (Q := fun _ _ => True) (v := nI i) fn (show 0 < N1 by omega) C'
      refine Or.inr ⟨f, w5, fn, k5, fun Q hQ => Rn.eq ew' (s5 Q hQ), u', ?_, R'.toE⟩
      rw [FX9_readsElement_114]
      exact E_b e' (E_t rfl rfl)
  | succ d ih =>
    intro i p op w u N1 N2 he h1 h2 C R V
    obtain ⟨N2, rfl⟩ : ∃ z, N2 = z + 1 := ⟨N2 - 1, by omega⟩
    rcases op_both hb C R (V.s2 h0) with ⟨i6, p', c, c4, cs, ⟨_, w', ew', C'⟩, u', e', R'⟩ | ⟨f, fn, ⟨_, w', ew', C'⟩, u', e', R'⟩
    · have V' := V.ext c4 cs
      have pn := C'.1.2.2.2.2.2.1
      have x := ix_13 _ (hb (sk β n p'))
      obtain ⟨N1, rfl⟩ : ∃ z, N1 = z + 1 := ⟨N1 - 1, by omega⟩
      obtain ⟨w6, e6, f6, t6⟩ := tp_take hb (s := 13) (by decide) C'.1
      rcases tr_takes hb (c := 44) (by decide) R'.1 with ⟨q1, q2, u3, e3, f3, t3⟩ | ⟨q, u3, e3, f3, t3⟩
      · have tk : tkP β n 13 p' 0 = (some 0, sk β n p' + 1, 0) := tk_s q1 (by rw [q2]; rfl)
        rw [tk] at e6 t6
        have go := ih (i + 1) (sk β n p' + 1) (opu op i c) w6 u3 N1 N2 (by omega) (by omega) (by omega) (C'.tp f6 t6) (R'.st (Pat_Pfw f3) t3) V'
        have cls : ∀ Q : Unit → HS → Prop, Rn ((FX2_scanOp w6 o t).bind fun q => FX2_scanElement_110 N1 q.2 o t (nI (i + 1))) Q → Rn ((FX2_scanOp w o t).bind fun q => FX2_scanElement_110 (N1 + 1) q.2 o t (nI i)) Q := by
          intro Q hQ
          refine Rn.eq ew' ?_
          dsimp only
          rw [FX2_scanElement_110]
          refine Rn.f (nI_ge (b := 6) i6 (by decide)) (Rn.eq e6 (Rn.t rfl ?_))
          dsimp only
          rw [nI_1]
          exact hQ
        have rf : ∀ z, FX9_readsElement_114 N2 u3 m (nI e) (nI wy) (nI (i + 1)) = z → FX9_readsElement_114 (N2 + 1) u m (nI e) (nI wy) (nI i) = z := by
          intro z hz
          rw [FX9_readsElement_114]
          refine E_b e' (E_f i10 (E_b e3 (E_f i10 ?_)))
          dsimp only
          rw [nI_1]
          exact hz
        rcases go with ⟨c2, op', p2, w5, c0, c6, V2, O5, s5, u5, e5, E5⟩ | ⟨f, w5, fn, O5, s5, u5, e5, E5⟩
        · exact Or.inl ⟨c2, op', p2, w5, c0, c6, V2, O5, fun Q hQ => cls Q (s5 Q hQ), u5, rf _ e5, E5⟩
        · exact Or.inr ⟨f, w5, fn, O5, fun Q hQ => cls Q (s5 Q hQ), u5, rf _ e5, E5⟩
      · have R3 := R'.st (Pat_Pfw f3) t3
        obtain ⟨r1, r2, r3, r4, r5, r6, r7, r8⟩ := id R3
        -- way and number
        obtain ⟨u4, hu4⟩ : ∃ u4, u4 = setA (setA u3 m 8 (64 * mn + 8 * e) (nI wy)) m 8 (64 * mn + 8 * e + 1) (nI (i + 1)) := ⟨_, rfl⟩
        have F4 : Fr (fun b k => b = m ∧ k = 8) u3 u4 := by rw [hu4]; exact (Fr.sA ⟨rfl, rfl⟩).trans (Fr.sA ⟨rfl, rfl⟩)
        have T4 := r1.fr F4 (by omega) (by omega) (by omega)
        have a8 : ha u4 m 8 = upd (upd (ha u3 m 8) (64 * mn + 8 * e) (nI wy)) (64 * mn + 8 * e + 1) (nI (i + 1)) := by
          rw [hu4]
          simp only [ha_setA, and_self, if_true]
        have rf : ∀ z, (FX9_needs u4 m 41).bind (fun q21 => (okb (vp_nar .boolean q21.1 == q21.1) (some (q21.1, q21.2)))) = z → FX9_readsElement_114 (N2 + 1) u m (nI e) (nI wy) (nI i) = z := by
          intro z hz
          rw [FX9_readsElement_114]
          refine E_b e' (E_f i10 (E_b e3 (E_t rfl ?_)))
          dsimp only
          rw [r2, ixw0, nI_clamp (by omega), nI_1]
          refine E_i rfl (by omega) (by decide) (E_d ?_)
          rw [show hi (setA u3 m 8 (64 * mn + 8 * e) (nI wy)) m 11 = nI mn from r2, show (((64 : Int32) * nI mn) + ((8 : Int32) * nI e)) + (1 : Int32) = nI (64 * mn + 8 * e + 1) from ixw 1, nI_clamp (by omega)]
          refine E_i rfl (by omega) (by decide) (E_d ?_)
          rw [← hu4]
          exact hz
        have en : ∀ {u5 : HS} {p5 : Nat}, Fr (Pfw m) u4 u5 → TR u5 m β n p5 → OE u1 u5 m mn e (i + 1) wy β n p5 so (opu op i c) := by
          intro u5 p5 f5 t5
          have b8 : ha u5 m 8 = ha u4 m 8 := f5.ar (by unfold Pfw; omega)
          refine ⟨t5, ?_, (r6.trans (F4.mono (fun b k z => by unfold Pro; omega))).trans (f5.mono (fun b k z => by unfold Pfw at z; unfold Pro; omega)), ?_, ?_, ?_, ?_⟩
          · rw [f5.i (by unfold Pfw; omega), F4.i (by omega)]; exact r5
          · rw [b8, a8, upd_n (by omega), upd_s]
          · rw [b8, a8, upd_s]
          · intro k hk
            rw [b8, a8, upd_n (by omega), upd_n (by omega)]
            exact r7 k hk
          · intro j hj
            rw [b8, a8, upd_n (by omega), upd_n (by omega)]
            exact r8 j (by omega)
        have enf : ∀ {u5 : HS} {f5' : Nat}, Fr (Pfw m) u4 u5 → hi u5 m 3 = nI f5' → OEf u1 u5 m mn e f5' := by
          intro u5 f5' f5 t5
          have b8 : ha u5 m 8 = ha u4 m 8 := f5.ar (by unfold Pfw; omega)
          refine ⟨t5, (r6.trans (F4.mono (fun b k z => by unfold Pro; omega))).trans (f5.mono (fun b k z => by unfold Pfw at z; unfold Pro; omega)), ?_⟩
          intro j hj
          rw [b8, a8, upd_n (by omega), upd_n (by omega)]
          exact r8 j (by omega)
        have cls : ∀ Q : Unit → HS → Prop, (tkP β n 13 p' 0).1 ≠ some 0 → Rn (FX2_scanElement_137 w6 o) Q → Rn ((FX2_scanOp w o t).bind fun q => FX2_scanElement_110 (N1 + 1) q.2 o t (nI i)) Q := by
          intro Q hne hQ
          refine Rn.eq ew' ?_
          dsimp only
          rw [FX2_scanElement_110]
          refine Rn.f (nI_ge (b := 6) i6 (by decide)) (Rn.eq e6 (Rn.f (fun q => hne ?_) hQ))
          refine (oI_1 (c := 0) (fun z hz => ?_) (by decide)).mp q
          have := tk1_lt hz
          have : (sgL 13).length = 2 := rfl
          omega
        rcases tr_needs hb (c := 41) (by decide) T4 with ⟨q1, q2, u5, e5, f5, t5, _⟩ | ⟨qn, u5, e5, f5, g5⟩
        · rw [sk_sk pn] at q1 q2 t5
          have tk : tkP β n 13 p' 0 = (some 1, sk β n p' + 1, 0) := tk_s q1 (by rw [q2]; rfl)
          have hne : (tkP β n 13 p' 0).1 ≠ some 0 := by rw [tk]; exact fun z => by cases z
          rw [tk] at t6
          exact Or.inl ⟨i + 1, opu op i c, sk β n p' + 1, w6, by omega, by omega, V', C'.tp f6 t6, fun Q hQ => cls Q hne hQ, u5, rf _ (E_b e5 (E_k nar1 rfl)), en f5 t5⟩
        · rw [sk_sk pn] at qn g5
          have tk : tkP β n 13 p' 0 = (none, sk β n p', 8 * sk β n p' + 1) := tk_n (by
            by_cases hn : sk β n p' < n
            · right
              rw [x, if_neg (fun z => q ⟨hn, z⟩), if_neg (fun z => qn ⟨hn, z⟩)]
            · exact Or.inl hn)
          have hne : (tkP β n 13 p' 0).1 ≠ some 0 := by rw [tk]; exact fun z => by cases z
          rw [tk] at t6
          exact Or.inr ⟨8 * sk β n p' + 1, w6, by omega, C'.cf f6 t6, fun Q hQ => cls Q hne hQ, u5, rf _ (E_b e5 (E_k nar0 rfl)), enf f5 g5⟩
    · obtain ⟨w5, k5, s5⟩ := fstop (Q := fun _ _ => True) (v := nI i) fn (show 0 < N1 by omega) C'
      refine Or.inr ⟨f, w5, fn, k5, fun Q hQ => Rn.eq ew' (s5 Q hQ), u', ?_, R'.toE⟩
      rw [FX9_readsElement_114]
      exact E_b e' (E_t rfl rfl)
end OL
