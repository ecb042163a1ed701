/-! A memory begun, reference. -/
section BR
variable {w : HS} {m : Nat}
theorem begins_map : ∀ d i n w1, i + d = 6 → d < n → Fr (fun b k => b = m ∧ (k = 16 ∨ k = 19)) w w1 → (∀ j, ¬ (4 ≤ j ∧ j < 4 + i) → ha w1 m 16 j = ha w m 16 j) → (∀ j, j < i → ha w1 m 16 (4 + j) = nI j) → ∃ w', FX9_begins_66 n w1 m (nI i) = some ((), w') ∧ Fr (fun b k => b = m ∧ (k = 16 ∨ k = 19)) w w' ∧ hi w' m 19 = nI 0 ∧ (∀ j, ¬ (4 ≤ j ∧ j < 10) → ha w' m 16 j = ha w m 16 j) ∧ ∀ j, j < 6 → ha w' m 16 (4 + j) = nI j := by
  intro d
  induction d with
  | zero =>
    intro i n w1 he hn f1 h1 h2
    obtain ⟨n, rfl⟩ : ∃ z, n = z + 1 := ⟨n - 1, by omega⟩
    have i6 : i = 6 := by omega
    subst i6
    refine ⟨setI w1 m 19 0, ?_, f1.trans (Fr.sI ⟨rfl, Or.inr rfl⟩), by rw [hi_setI, if_pos ⟨rfl, rfl⟩]; rfl, fun j hj => by rw [ha_setI]; exact h1 j hj, fun j hj => by rw [ha_setI]; exact h2 j hj⟩
    rw [FX9_begins_66]
    exact E_t (by decide) (E_d rfl)
  | succ d ih =>
    intro i n w1 he hn f1 h1 h2
    obtain ⟨n, rfl⟩ : ∃ z, n = z + 1 := ⟨n - 1, by omega⟩
    obtain ⟨w', e', r'⟩ := ih (i + 1) n (setA w1 m 16 (4 + i) (nI i)) (by omega) (by omega) (f1.trans (Fr.sA ⟨rfl, Or.inl rfl⟩)) (fun j hj => by
      rw [ha_setA, if_pos ⟨rfl, rfl⟩, upd_n (by omega)]
      exact h1 j (by omega)) (fun j hj => by
      rw [ha_setA, if_pos ⟨rfl, rfl⟩]
      by_cases e : j = i
      · rw [e, upd_s]
      · rw [upd_n (by omega)]
        exact h2 j (by omega))
    refine ⟨w', ?_, r'⟩
    rw [FX9_begins_66, l4_, nI_add, nI_clamp (by omega)]
    refine E_f (nI_ge (b := 6) (by omega) (by decide)) (E_i rfl (by omega) (by decide) (E_d ?_))
    rw [nI_1]
    exact e'
end BR
