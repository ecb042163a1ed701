/-! What stays where new objects come. -/
/-- the objects that there were keep what P does not name -/
def Ke (P : Nat → Nat → Prop) (w w' : HS) : Prop := ∀ b, hc w b < 10 → hc w' b = hc w b ∧ ∀ k, ¬ P b k → hi w' b k = hi w b k ∧ hl w' b k = hl w b k ∧ hp w' b k = hp w b k ∧ ha w' b k = ha w b k ∧ hj w' b k = hj w b k ∧ hq w' b k = hq w b k
section KES
variable {P P' : Nat → Nat → Prop} {w w1 w2 w' : HS} {a k ci : Nat}
theorem Ke.refl : Ke P w w := fun _ _ => ⟨rfl, fun _ _ => ⟨rfl, rfl, rfl, rfl, rfl, rfl⟩⟩
theorem Ke.st (h : Ke P w w1) (f : Fr P' w1 w2) (i : ∀ b k, hc w b < 10 → P' b k → P b k) : Ke P w w2 := by
  intro b hb
  obtain ⟨h1, h2⟩ := h b hb
  refine ⟨by rw [f.c]; exact h1, fun k n => ?_⟩
  obtain ⟨a1, a2, a3, a4, a5, a6⟩ := h2 k n
  have n' : ¬ P' b k := fun z => n (i b k hb z)
  exact ⟨by rw [f.i n']; exact a1, by rw [f.l n']; exact a2, by rw [f.o n']; exact a3, by rw [f.ar n']; exact a4, by rw [f.j n']; exact a5, by rw [f.qq n']; exact a6⟩
theorem Ke.of (f : Fr P w w') : Ke P w w' := Ke.refl.st f (fun _ _ _ z => z)
theorem Ke.nw {sz ci : Nat} {fi : Nat → Int32} {fl : Nat → Int64} {fp : Nat → Option Nat} {fa : Nat → Nat → Int32} {fj : Nat → Nat → Int64} {fq : Nat → Nat → Option Nat} (h : ∀ b, hc w b < 10 → b < sz) : Ke P w (nObj w sz ci fi fl fp fa fj fq) := by
  intro b hb
  have n : ¬ b = sz := by have := h b hb; omega
  refine ⟨if_neg n, fun k _ => ⟨?_, ?_, ?_, ?_, ?_, ?_⟩⟩
  · show (if b = sz then fi else w.2.1 b) k = w.2.1 b k; rw [if_neg n]
  · show (if b = sz then fl else w.2.2.1 b) k = w.2.2.1 b k; rw [if_neg n]
  · show (if b = sz then fp else w.2.2.2.1 b) k = w.2.2.2.1 b k; rw [if_neg n]
  · show (if b = sz then fa else w.2.2.2.2.1 b) k = w.2.2.2.2.1 b k; rw [if_neg n]
  · show (if b = sz then fj else w.2.2.2.2.2.1 b) k = w.2.2.2.2.2.1 b k; rw [if_neg n]
  · show (if b = sz then fq else w.2.2.2.2.2.2 b) k = w.2.2.2.2.2.2 b k; rw [if_neg n]
theorem Ke.tr (h : Ke P w w1) (g : Ke P w1 w2) : Ke P w w2 := by
  intro b hb
  obtain ⟨h1, h2⟩ := h b hb
  obtain ⟨g1, g2⟩ := g b (by rw [h1]; exact hb)
  refine ⟨g1.trans h1, fun k n => ?_⟩
  obtain ⟨a1, a2, a3, a4, a5, a6⟩ := h2 k n
  obtain ⟨b1, b2, b3, b4, b5, b6⟩ := g2 k n
  exact ⟨b1.trans a1, b2.trans a2, b3.trans a3, b4.trans a4, b5.trans a5, b6.trans a6⟩
theorem Ke.mono (h : Ke P w w') (i : ∀ b k, P b k → P' b k) : Ke P' w w' := fun b hb => ⟨(h b hb).1, fun k n => (h b hb).2 k (fun z => n (i b k z))⟩
theorem Ke.c (h : Ke P w w') (q : hc w a = ci) (q10 : ci < 10) : hc w' a = ci := by rw [(h a (by omega)).1]; exact q
theorem Ke.i (h : Ke P w w') (q : hc w a = ci) (q10 : ci < 10) (n : ¬ P a k) : hi w' a k = hi w a k := ((h a (by omega)).2 k n).1
theorem Ke.l (h : Ke P w w') (q : hc w a = ci) (q10 : ci < 10) (n : ¬ P a k) : hl w' a k = hl w a k := ((h a (by omega)).2 k n).2.1
theorem Ke.o (h : Ke P w w') (q : hc w a = ci) (q10 : ci < 10) (n : ¬ P a k) : hp w' a k = hp w a k := ((h a (by omega)).2 k n).2.2.1
theorem Ke.ar (h : Ke P w w') (q : hc w a = ci) (q10 : ci < 10) (n : ¬ P a k) : ha w' a k = ha w a k := ((h a (by omega)).2 k n).2.2.2.1
theorem Ke.j (h : Ke P w w') (q : hc w a = ci) (q10 : ci < 10) (n : ¬ P a k) : hj w' a k = hj w a k := ((h a (by omega)).2 k n).2.2.2.2.1
theorem Ke.qq (h : Ke P w w') (q : hc w a = ci) (q10 : ci < 10) (n : ¬ P a k) : hq w' a k = hq w a k := ((h a (by omega)).2 k n).2.2.2.2.2
theorem CK.ke {p : Nat} {b : Book} (h : CK w p b) (f : Ke P w w') (n : ∀ k, ¬ P p k) : CK w' p b := by
  obtain ⟨h1, h2, h3, h4, h5⟩ := h
  have d : 1 < 10 := by decide
  exact ⟨f.c h1 d, by rw [f.i h1 d (n 0)]; exact h2, by rw [f.i h1 d (n 1)]; exact h3, by rw [f.ar h1 d (n 8)]; exact h4, by rw [f.ar h1 d (n 7)]; exact h5⟩
theorem CM.ke {p : Nat} {M : Mch} (h : CM w p M) (f : Ke P w w') (n : ∀ k, ¬ P p k) : CM w' p M := by
  obtain ⟨h1, h2, h3, h4⟩ := h
  have d : 2 < 10 := by decide
  exact ⟨f.c h1 d, by rw [f.i h1 d (n 0)]; exact h2, by rw [f.i h1 d (n 3)]; exact h3, by rw [f.ar h1 d (n 5), f.ar h1 d (n 6), f.ar h1 d (n 7), f.ar h1 d (n 8)]; exact h4⟩
theorem CX.ke {x r kn mn kn' mn' : Nat} {B B' : Nat → Book} {MM MM' : Nat → Mch} (h : CX w x r kn mn B MM) (f : Ke P w w') (n7 : ¬ P x 7) (n8 : ¬ P x 8) (nk : ∀ p, (hc w p = 1 ∨ hc w p = 2) → ∀ k, ¬ P p k) (h2 : hi w' x 2 = nI kn') (k8 : kn' ≤ 8) (h4 : hi w' x 4 = nI mn') (m6 : mn' ≤ 6) (hk : kn ≤ kn') (hm : mn ≤ mn') (BB : ∀ k, k < kn → B' k = B k) (MB : ∀ k, k < mn → MM' k = MM k) (ok : ∀ k, k < kn → hq w' x 1 k = hq w x 1 k) (om : ∀ k, k < mn → hq w' x 3 k = hq w x 3 k) (nwk : ∀ k, kn ≤ k → k < kn' → ∃ p, hq w' x 1 k = some p ∧ CK w' p (B' k) ∧ WB (B' k)) (nwm : ∀ k, mn ≤ k → k < mn' → ∃ p, hq w' x 3 k = some p ∧ CM w' p (MM' k) ∧ WM (MM' k)) : CX w' x r kn' mn' B' MM' := by
  obtain ⟨c1, c2, c3, c4, c5, c6, c7, c8, c9, c10⟩ := h
  have d8 : 8 < 10 := by decide
  refine ⟨f.c c1 d8, by rw [f.o c1 d8 n7]; exact c2, f.c c3 (by decide), h2, k8, h4, m6, fun k hk' => ?_, fun k hk' => ?_, ?_⟩
  · by_cases q : k < kn
    · obtain ⟨p, p1, p2, p3⟩ := c8 k q
      rw [BB k q, ok k q]
      exact ⟨p, p1, p2.ke f (nk p (Or.inl p2.1)), p3⟩
    · exact nwk k (by omega) hk'
  · by_cases q : k < mn
    · obtain ⟨p, p1, p2, p3⟩ := c9 k q
      rw [MB k q, om k q]
      exact ⟨p, p1, p2.ke f (nk p (Or.inr p2.1)), p3⟩
    · exact nwm k (by omega) hk'
  · intro mi hmi k hk'
    rw [f.ar c1 d8 n8]
    rcases c10 mi hmi k hk' with q | ⟨q1, q2, q3⟩
    · exact Or.inl q
    · exact Or.inr ⟨by omega, by omega, by rw [BB k q2, MB mi q1]; exact q3⟩
theorem RX.ke {m kn mn kn' mn' N : Nat} {B B' : Nat → Book} {MM MM' : Nat → Mch} {mp : Nat → Nat} (h : RX w m kn mn B MM N mp) (f : Ke P w w') (h7 : hi w' m 7 = nI kn') (k8 : kn' ≤ 8) (h11 : hi w' m 11 = nI mn') (m6 : mn' ≤ 6) (n15 : ¬ P m 15) (n16 : ¬ P m 16) (BB : ∀ k, k < kn → B' k = B k) (MB : ∀ k, k < mn → MM' k = MM k) (ok : ∀ k, k < kn → RK w' m k (B k)) (om : ∀ k, k < mn → RMa w' m k (MM k)) (nwk : ∀ k, kn ≤ k → k < kn' → RK w' m k (B' k) ∧ WB (B' k)) (nwm : ∀ k, mn ≤ k → k < mn' → RMa w' m k (MM' k) ∧ WM (MM' k)) : RX w' m kn' mn' B' MM' N mp := by
  obtain ⟨c1, c2, c3, c4, c5, c6, c7, c8, c9, c10, c11⟩ := h
  have d : 9 < 10 := by decide
  refine ⟨f.c c1 d, h7, k8, h11, m6, fun k hk => ?_, fun k hk => ?_, by rw [f.i c1 d n15]; exact c8, c9, c10, by rw [f.ar c1 d n16]; exact c11⟩
  · by_cases q : k < kn
    · rw [BB k q]
      exact ⟨ok k q, (c6 k q).2⟩
    · exact nwk k (by omega) hk
  · by_cases q : k < mn
    · rw [MB k q]
      exact ⟨om k q, (c7 k q).2⟩
    · exact nwm k (by omega) hk
end KES
