/-! The views where little changes. -/
section SY
variable {P : Nat → Nat → Prop} {w w' : HS} {x h q t m N n cnt pos : Nat} {H : Nat → Me}
theorem HC.ke (V : HC w x h q N cnt pos H) (hx : hc w x = 8) (f : Ke P w w') (n6 : ¬ P x 6) (nh : ∀ k, ¬ P h k) (n3 : ∀ b, hc w b = 3 → b ≠ q → ∀ k, ¬ P b k) (old : ∀ i, i < cnt → (meK (H i)).bind (hq w' x 1) = (meK (H i)).bind (hq w x 1)) : HC w' x h q N cnt pos H := by
  obtain ⟨v1, v2, v3, v4, v5, v6, v7, v8, v9⟩ := V
  have d0 : 0 < 10 := by decide
  have d3 : 3 < 10 := by decide
  have d8 : 8 < 10 := by decide
  have sl : hq w' h 2 = hq w h 2 := f.qq v2 d0 (nh 2)
  refine ⟨by rw [f.o hx d8 n6]; exact v1, f.c v2 d0, by rw [f.i v2 d0 (nh 0)]; exact v3, by rw [f.i v2 d0 (nh 1)]; exact v4, v5, v6, ?_, ?_, fun i hi => ?_⟩
  · intro s hs o ho
    rw [sl] at ho
    obtain ⟨a, b⟩ := v7 s hs o ho
    exact ⟨f.c a d3, b⟩
  · rw [sl]
    exact v8
  · obtain ⟨o, a1, a2, a3⟩ := v9 i hi
    have oq := (v7 _ (slt_lt _ _) o a1).2
    refine ⟨o, by rw [sl]; exact a1, a2.ke f (n3 o a2.1 oq), ?_⟩
    rw [f.o a2.1 d3 (n3 o a2.1 oq 2), old i hi]
    exact a3
theorem HR.ke (V : HR w m cnt H) (h9 : hc w m = 9) (f : Ke P w w') (n18 : ¬ P m 18) (n19 : ¬ P m 19) : HR w' m cnt H := by
  obtain ⟨v1, v2, v3⟩ := V
  have d9 : 9 < 10 := by decide
  refine ⟨by rw [f.i h9 d9 n19]; exact v1, v2, fun i hi => ?_⟩
  rw [f.ar h9 d9 n18]
  exact v3 i hi
theorem TV.ke (V : TV w t m n) (f : Ke P w w') (t0 : ¬ P t 0) (t1 : ¬ P t 1) (m0 : ¬ P m 0) (m1 : ¬ P m 1) : TV w' t m n := by
  obtain ⟨v1, v2, v3, v4, v5, v6⟩ := V
  have d6 : 6 < 10 := by decide
  have d9 : 9 < 10 := by decide
  exact ⟨f.c v1 d6, f.c v2 d9, by rw [f.i v1 d6 t1]; exact v3, by rw [f.i v2 d9 m1]; exact v4, v5, by rw [f.ar v1 d6 t0, f.ar v2 d9 m0]; exact v6⟩
theorem N5.ke (V : N5 w m) (h9 : hc w m = 9) (f : Ke P w w') (n5 : ¬ P m 5) : N5 w' m := by
  unfold N5
  rw [f.ar h9 (by decide) n5]
  exact V
theorem RXt.ke {mn : Nat} {MM : Nat → Mch} (V : RXt w m mn MM) (h9 : hc w m = 9) (f : Ke P w w') (n10 : ¬ P m 10) : RXt w' m mn MM := by
  unfold RXt
  rw [f.ar h9 (by decide) n10]
  exact V
theorem LM.ke {S : Me} (V : LM w x q m N S) (f : Ke P w w') (n5 : ¬ P x 5) (nq : ∀ k, ¬ P q k) (n15 : ¬ P m 15) (n16 : ¬ P m 16) : LM w' x q m N S := by
  obtain ⟨l1, l2, l3, l4, l5, l6, l7, l8, l9⟩ := V
  have d8 : 8 < 10 := by decide
  have d9 : 9 < 10 := by decide
  exact ⟨f.c l1 d8, by rw [f.o l1 d8 n5]; exact l2, l3.ke f nq, f.c l4 d9, by rw [f.ar l4 d9 n16]; exact l5, l6, by rw [f.i l4 d9 n15]; exact l7, l8, l9⟩
/-- kinds and marches stay -/
theorem CX.ks {r kn mn : Nat} {B : Nat → Book} {MM : Nat → Mch} (C : CX w x r kn mn B MM) (f : Ke P w w') (nx : ¬ P x 1 ∧ ¬ P x 2 ∧ ¬ P x 3 ∧ ¬ P x 4 ∧ ¬ P x 7 ∧ ¬ P x 8) (nk : ∀ p, (hc w p = 1 ∨ hc w p = 2) → ∀ k, ¬ P p k) : CX w' x r kn mn B MM := by
  obtain ⟨n1, n2, n3, n4, n7, n8⟩ := nx
  have d8 : 8 < 10 := by decide
  exact C.ke f n7 n8 nk (by rw [f.i C.1 d8 n2]; exact C.2.2.2.1) C.2.2.2.2.1 (by rw [f.i C.1 d8 n4]; exact C.2.2.2.2.2.1) C.2.2.2.2.2.2.1 (Nat.le_refl _) (Nat.le_refl _) (fun _ _ => rfl) (fun _ _ => rfl) (fun k _ => by rw [f.qq C.1 d8 n1]) (fun k _ => by rw [f.qq C.1 d8 n3]) (fun k h1 h2 => by omega) (fun k h1 h2 => by omega)
end SY
