/-! A memory begun, class. -/
def me0 : Me := (0, none, 7, 7, fun i => i, none, 0, none, 0, fun _ => 0, fun _ => 0)
section BG
variable {w : HS} {q N N0 : Nat} {S : Me}
theorem begin_loop {Q : Option (Unit × HS)} : ∀ d i n w1, i + d = 6 → d < n → Fr (fun b k => b = q ∧ k = 10) w w1 → (∀ j, j < i → ha w1 q 10 j = nI j) → (∀ w', Fr (fun b k => b = q ∧ k = 10) w w' → (∀ j, j < 6 → ha w' q 10 j = nI j) → ∀ n', FX3_begin_16 (n' + 1) w' q (nI 6) = Q) → FX3_begin_16 n w1 q (nI i) = Q := by
  intro d
  induction d with
  | zero =>
    intro i n w1 he hn f1 h1 K
    obtain ⟨n, rfl⟩ : ∃ z, n = z + 1 := ⟨n - 1, by omega⟩
    have i6 : i = 6 := by omega
    subst i6
    exact K w1 f1 h1 n
  | succ d ih =>
    intro i n w1 he hn f1 h1 K
    obtain ⟨n, rfl⟩ : ∃ z, n = z + 1 := ⟨n - 1, by omega⟩
    rw [FX3_begin_16, nI_clamp (by omega)]
    refine E_f (nI_ge (b := 6) (by omega) (by decide)) (E_i rfl (by omega) (by decide) (E_d ?_))
    rw [nI_1]
    refine ih (i + 1) n _ (by omega) (by omega) (f1.trans (Fr.sA ⟨rfl, rfl⟩)) (fun j hj => ?_) K
    rw [ha_setA, if_pos ⟨rfl, rfl⟩]
    by_cases e : j = i
    · rw [e, upd_s]
    · rw [upd_n e]
      exact h1 j (by omega)
theorem begin_end (M : MV w q N S) (hm : ∀ j, j < 6 → ha w q 10 j = nI j) (n : Nat) : ∃ w', FX3_begin_16 (n + 1) w q (nI 6) = some ((), w') ∧ Fr (fun b _ => b = q) w w' ∧ MV w' q N me0 ∧ hp w' q 2 = none := by
  obtain ⟨m1, m2, m3, m4, m5, m6, m7, m8, m9, m10, m11, m12, m13⟩ := M
  obtain ⟨wa, hwa⟩ : ∃ wa, wa = setI (setI (setI (setI w q 1 0) q 6 (-1)) q 8 (-1)) q 9 0 := ⟨_, rfl⟩
  have fa : Fr (fun b k => b = q ∧ (k = 1 ∨ k = 6 ∨ k = 8 ∨ k = 9)) w wa := by rw [hwa]; exact (((Fr.sI ⟨rfl, by omega⟩).trans (Fr.sI ⟨rfl, by omega⟩)).trans (Fr.sI ⟨rfl, by omega⟩)).trans (Fr.sI ⟨rfl, by omega⟩)
  have Ma : MV wa q N (0, meK S, meA S, meV S, fun i => i, none, 0, none, 0, fun _ => 0, fun _ => 0) := by
    refine ⟨by rw [fa.c]; exact m1, by rw [fa.i (by omega)]; exact m2, ?_, by rw [fa.i (by omega)]; exact m4, by rw [fa.i (by omega)]; exact m5, by rw [fa.i (by omega)]; exact m6, ?_, fun z => absurd rfl z, ?_, ?_, Nat.zero_le _, by rw [fa.ar (by omega)]; exact hm, fun i hi => absurd hi (Nat.not_lt_zero _)⟩
    · rw [hwa, hi_setI, if_neg (by omega), hi_setI, if_neg (by omega), hi_setI, if_neg (by omega), hi_setI, if_pos ⟨rfl, rfl⟩]; rfl
    · rw [hwa, hi_setI, if_neg (by omega), hi_setI, if_neg (by omega), hi_setI, if_pos ⟨rfl, rfl⟩]; rfl
    · rw [hwa, hi_setI, if_neg (by omega), hi_setI, if_pos ⟨rfl, rfl⟩]; rfl
    · rw [hwa, hi_setI, if_pos ⟨rfl, rfl⟩]; rfl
  obtain ⟨w', e, f, M', p⟩ := ins_none Ma
  refine ⟨w', ?_, (fa.mono (fun b k z => z.1)).trans f, M', p⟩
  rw [FX3_begin_16]
  refine E_t (by decide) (E_d (E_d (E_d (E_d ?_))))
  rw [← hwa]
  exact E_b e rfl
end BG
