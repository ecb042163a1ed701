/-! heal. -/
def meHeal (S : Me) : Me := (meC S, none, 7, 7, meP S, meR S, meH S, meF S, meN S, meX S, meY S)
/-- what an act may change -/
def PAq (w : HS) (h m : Nat) : Nat → Nat → Prop := fun b k => b = h ∨ hc w b = 3 ∨ (b = m ∧ (k = 16 ∨ k = 18 ∨ k = 19))
section HL
variable {w : HS} {x h q m N cnt pos sz : Nat} {S : Me} {H : Nat → Me}
theorem ins_none (M : MV w q N S) : ∃ w', FX3_insert w q none (-1) (-1) (-1) = some ((), w') ∧ Fr (fun b _ => b = q) w w' ∧ MV w' q N (meHeal S) ∧ hp w' q 2 = none := by
  obtain ⟨m1, m2, m3, m4, m5, m6, m7, m8, m9, m10, m11, m12, m13⟩ := M
  obtain ⟨wa, hwa⟩ : ∃ wa, wa = setI (setI (setI (setP w q 2 none) q 3 (-1)) q 4 (-1)) q 5 (-1) := ⟨_, rfl⟩
  have fa : Fr (fun b k => b = q ∧ (k = 2 ∨ k = 3 ∨ k = 4 ∨ k = 5)) w wa := by rw [hwa]; exact (((Fr.sP ⟨rfl, by omega⟩).trans (Fr.sI ⟨rfl, by omega⟩)).trans (Fr.sI ⟨rfl, by omega⟩)).trans (Fr.sI ⟨rfl, by omega⟩)
  have a2 : hp wa q 2 = none := by rw [hwa, hp_setI, hp_setI, hp_setI, hp_setP, if_pos ⟨rfl, rfl⟩]
  have a3 : hi wa q 3 = -1 := by rw [hwa, hi_setI, if_neg (by omega), hi_setI, if_neg (by omega), hi_setI, if_pos ⟨rfl, rfl⟩]
  have a4 : hi wa q 4 = -1 := by rw [hwa, hi_setI, if_neg (by omega), hi_setI, if_pos ⟨rfl, rfl⟩]
  have a5 : hi wa q 5 = -1 := by rw [hwa, hi_setI, if_pos ⟨rfl, rfl⟩]
  have a1 : hi wa q 1 = nI (meC S) := by rw [fa.i (by omega)]; exact m3
  obtain ⟨wb, hwb⟩ : ∃ wb, wb = setI wa q 1 (nI (meC S)) := ⟨_, rfl⟩
  have fb : Fr (fun b k => b = q ∧ k = 1) wa wb := by rw [hwb]; exact Fr.sI ⟨rfl, rfl⟩
  have F : Fr (fun b k => b = q ∧ (k = 1 ∨ k = 2 ∨ k = 3 ∨ k = 4 ∨ k = 5)) w wb := (fa.mono (fun b k z => by omega)).trans (fb.mono (fun b k z => by omega))
  have b2 : hp wb q 2 = none := by rw [fb.o (by omega)]; exact a2
  refine ⟨wb, ?_, F.mono (fun b k z => z.1), ⟨by rw [F.c]; exact m1, by rw [F.i (by omega)]; exact m2, by rw [hwb, hi_setI, if_pos ⟨rfl, rfl⟩]; rfl, by rw [fb.i (by omega), a3]; rfl, by rw [fb.i (by omega), a4]; rfl, by rw [fb.i (by omega), a5]; rfl, by rw [F.i (by omega)]; exact m7, by rw [F.i (by omega)]; exact m8, by rw [F.i (by omega)]; exact m9, by rw [F.i (by omega)]; exact m10, m11, by rw [F.ar (by omega)]; exact m12, by rw [F.ar (by omega)]; exact m13⟩, b2⟩
  unfold FX3_insert
  refine E_c m1 (E_d (E_d (E_d (E_d ?_))))
  rw [← hwa, a1]
  refine E_b (a := ((), wb)) ?_ rfl
  unfold FX3_fill
  refine E_c (by rw [fa.c]; exact m1) (E_d ?_)
  rw [← hwb, b2]
  rfl
theorem heal_row (h9 : hc w m = 9) (R : RV (ha w m 16) S) : ∃ w', w' = setA (setA (setA w m 16 1 (-1)) m 16 2 (-1)) m 16 3 (-1) ∧ Fr (fun b k => b = m ∧ k = 16) w w' ∧ RV (ha w' m 16) (meHeal S) := by
  obtain ⟨r1, r2, r3, r4, r5, r6, r7, r8, r9, r10⟩ := R
  refine ⟨_, rfl, ((Fr.sA ⟨rfl, rfl⟩).trans (Fr.sA ⟨rfl, rfl⟩)).trans (Fr.sA ⟨rfl, rfl⟩), ?_⟩
  have e : ∀ j, ha (setA (setA (setA w m 16 1 (-1)) m 16 2 (-1)) m 16 3 (-1)) m 16 j = if j = 3 then -1 else if j = 2 then -1 else if j = 1 then -1 else ha w m 16 j := by
    intro j
    rw [ha_setA, if_pos ⟨rfl, rfl⟩, ha_setA, if_pos ⟨rfl, rfl⟩, ha_setA, if_pos ⟨rfl, rfl⟩]
    rfl
  have n : ∀ j, j ≠ 1 → j ≠ 2 → j ≠ 3 → ha (setA (setA (setA w m 16 1 (-1)) m 16 2 (-1)) m 16 3 (-1)) m 16 j = ha w m 16 j := fun j h1 h2 h3 => by rw [e, if_neg h3, if_neg h2, if_neg h1]
  refine ⟨by rw [n 0 (by decide) (by decide) (by decide)]; exact r1, by rw [e]; rfl, by rw [e]; rfl, by rw [e]; rfl, fun i hi => by rw [n _ (by omega) (by omega) (by omega)]; exact r5 i hi, by rw [n _ (by decide) (by decide) (by decide)]; exact r6, fun q => by rw [n _ (by decide) (by decide) (by decide)]; exact r7 q, by rw [n _ (by decide) (by decide) (by decide)]; exact r8, r9, fun i hi => by rw [n _ (by omega) (by omega) (by omega), n _ (by omega) (by omega) (by omega)]; exact r10 i hi⟩
end HL
