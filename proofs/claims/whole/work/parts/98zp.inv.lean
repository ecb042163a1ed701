/-! What holds between any two calls. -/
def IVc (w : HS) (x m q h t r N n kn mn cnt pos : Nat) (B : Nat → Book) (MM : Nat → Mch) (S : Me) (H : Nat → Me) : Prop := COR w x h q m r N kn mn cnt pos B MM S H ∧ CXt w x mn MM ∧ RXt w m mn MM ∧ N5 w m ∧ ha w m 12 = wrd9 ∧ hp w x 0 = some t ∧ TV w t m n ∧ hi w x 11 = hi w m 39 ∧ (∃ X, hi w x 11 = nI X ∧ X < 2 ^ 31) ∧ SUs w x ∧ SEs w x kn B
def IV (w : HS) (x m : Nat) : Prop := ∃ q h t r N n kn mn cnt pos B MM S H, IVc w x m q h t r N n kn mn cnt pos B MM S H
def pot (w : HS) (x : Nat) : Nat := (if hp w x 9 = none then 2000 else 0) + (if hp w x 10 = none then 21000 else 0)
theorem pot_eq {w w2 : HS} {x : Nat} (h9 : hp w2 x 9 = hp w x 9) (h10 : hp w2 x 10 = hp w x 10) : pot w2 x = pot w x := by
  unfold pot
  rw [h9, h10]
section IVs
variable {w w2 : HS} {x m q h t r N n kn mn cnt pos : Nat} {B : Nat → Book} {MM : Nat → Mch} {S : Me} {H : Nat → Me}
theorem iv_keep {P : Nat → Nat → Prop} (I : IVc w x m q h t r N n kn mn cnt pos B MM S H) (f : Ke P w w2) (C2 : CX w2 x r kn mn B MM) (nx : ¬ P x 0 ∧ ¬ P x 1 ∧ ¬ P x 3 ∧ ¬ P x 5 ∧ ¬ P x 6) (x11 : hi w2 x 11 = hi w x 11) (no : ∀ b, hc w b = 0 ∨ hc w b = 1 ∨ hc w b = 2 ∨ hc w b = 3 ∨ hc w b = 6 ∨ hc w b = 9 → ∀ k, ¬ P b k) (Su : SUs w2 x) (Se : SEs w2 x kn B) : IVc w2 x m q h t r N n kn mn cnt pos B MM S H := by
  obtain ⟨⟨L, hC, hR, pq, C, R, V, VH⟩, Ct, Rt, n5, w12, h0, T, D, X, _, _⟩ := I
  have h8 := C.1
  have h9 := R.1
  have q3 : hc w q = 3 := L.2.2.1.1
  have h00 : hc w h = 0 := hC.2.1
  have t6 := T.1
  have nm : ∀ k, ¬ P m k := no m (by omega)
  have nq : ∀ k, ¬ P q k := no q (by omega)
  have nh : ∀ k, ¬ P h k := no h (by omega)
  have nt : ∀ k, ¬ P t k := no t (by omega)
  have q1 : hq w2 x 1 = hq w x 1 := f.qq h8 (by decide) nx.2.1
  have R2 : RX w2 m kn mn B MM N (meP S) := R.mi (f.c h9 (by decide)) (fun k => ⟨f.i h9 (by decide) (nm k), f.ar h9 (by decide) (nm k)⟩)
  refine ⟨⟨L.ke f nx.2.2.2.1 nq (nm _) (nm _), hC.ke h8 f nx.2.2.2.2 nh (fun b hb _ => no b (by omega)) (fun i _ => by rw [q1]), hR.ke h9 f (nm _) (nm _), ?_, C2, R2, V, VH⟩, Ct.ke C f nx.2.2.1 (fun p hp => no p (by omega)), Rt.ke h9 f (nm _), n5.ke h9 f (nm _), ?_, ?_, T.ke f (nt _) (nt _) (nm _) (nm _), ?_, ?_, Su, Se⟩
  · rw [f.o q3 (by decide) (nq 2), q1]; exact pq
  · rw [f.ar h9 (by decide) (nm _)]; exact w12
  · rw [f.o h8 (by decide) nx.1]; exact h0
  · rw [x11, f.i h9 (by decide) (nm _)]; exact D
  · rw [x11]; exact X
theorem se_ke {P : Nat → Nat → Prop} {kn' : Nat} {B' : Nat → Book} (Se : SEs w x kn B) (h8 : hc w x = 8) (f : Ke P w w2) (n10 : ¬ P x 10) (n4 : ∀ b, hc w b = 4 → ∀ k, ¬ P b k) (kn8 : kn ≤ 8) (hk : kn ≤ kn') (BB : ∀ k, k < kn → B' k = B k) : SEs w2 x kn' B' := by
  intro s hs
  rw [f.o h8 (by decide) n10] at hs
  have I := Se s hs
  exact I.ke f (n4 s I.1) kn8 hk BB
theorem su_ke {P : Nat → Nat → Prop} (Su : SUs w x) (h8 : hc w x = 8) (f : Ke P w w2) (n9 : ¬ P x 9) : SUs w2 x := by
  intro s hs
  rw [f.o h8 (by decide) n9] at hs
  exact f.c (Su s hs) (by decide)
theorem iv_quiet (I : IVc w x m q h t r N n kn mn cnt pos B MM S H) (Q : Quiet m w w2) : IVc w2 x m q h t r N n kn mn cnt pos B MM S H := by
  obtain ⟨⟨L, hC, hR, pq, C, R, V, VH⟩, Ct, Rt, n5, w12, h0, T, D, X, Su, Se⟩ := I
  have f : Ke (PX m) w w2 := Ke.of Q.1
  have h8 := C.1
  have h9 := R.1
  have q3 : hc w q = 3 := L.2.2.1.1
  have h00 : hc w h = 0 := hC.2.1
  have t6 := T.1
  have nb : ∀ b, hc w b ≠ 9 → ∀ k, ¬ PX m b k := fun b hb k z => hb (by rw [z.1]; exact h9)
  have q1 : hq w2 x 1 = hq w x 1 := f.qq h8 (by decide) (nb x (by omega) 1)
  have nxx := nb x (by omega)
  refine ⟨⟨?_, hC.ke h8 f (nxx _) (nb h (by omega)) (fun b hb _ => nb b (by omega)) (fun i _ => by rw [q1]), hR.ke h9 f (by unfold PX; omega) (by unfold PX; omega), ?_, C.ks f ⟨nxx _, nxx _, nxx _, nxx _, nxx _, nxx _⟩ (fun p hp => nb p (by omega)), R.qu Q, V, VH⟩, Ct.ke C f (nxx _) (fun p hp => nb p (by omega)), Rt.ke h9 f (by unfold PX; omega), n5.ke h9 f (by unfold PX; omega), ?_, ?_, T.ke f (nb t (by omega) _) (nb t (by omega) _) (by unfold PX; omega) (by unfold PX; omega), ?_, ?_, su_ke Su h8 f (nxx _), se_ke Se h8 f (nxx _) (fun b hb => nb b (by omega)) R.2.2.1 (Nat.le_refl _) (fun _ _ => rfl)⟩
  · obtain ⟨l1, l2, l3, l4, l5, l6, l7, l8, l9⟩ := L
    exact ⟨f.c h8 (by decide), by rw [f.o h8 (by decide) (nxx _)]; exact l2, l3.ke f (nb q (by omega)), f.c h9 (by decide), by rw [Q.2.1]; exact l5, l6, by rw [Q.2.2]; exact l7, l8, l9⟩
  · rw [f.o q3 (by decide) (nb q (by omega) 2), q1]; exact pq
  · rw [f.ar h9 (by decide) (by unfold PX; omega)]; exact w12
  · rw [f.o h8 (by decide) (nxx _)]; exact h0
  · rw [f.i h8 (by decide) (nxx _), f.i h9 (by decide) (by unfold PX; omega)]; exact D
  · rw [f.i h8 (by decide) (nxx _)]; exact X
theorem iv_act {N' cnt' pos' : Nat} {S' : Me} {H' : Nat → Me} (I : IVc w x m q h t r N n kn mn cnt pos B MM S H) (f : Ke (PAc w h m) w w2) (A : AFT w2 x h q m N' kn mn cnt' pos' B MM S' H') : IVc w2 x m q h t r N' n kn mn cnt' pos' B MM S' H' ∧ hp w2 x 9 = hp w x 9 ∧ hp w2 x 10 = hp w x 10 := by
  obtain ⟨⟨L, hC, hR, pq, C, R, V, VH⟩, Ct, Rt, n5, w12, h0, T, D, X, Su, Se⟩ := I
  obtain ⟨L2, pq2, hC2, hR2, V2, VH2⟩ := A
  have h8 := C.1
  have h9 := R.1
  have h00 : hc w h = 0 := hC.2.1
  have t6 := T.1
  have nb : ∀ b, hc w b ≠ 9 → hc w b ≠ 0 → hc w b ≠ 3 → ∀ k, ¬ PAc w h m b k := fun b b9 b0 b3 k z => by
    rcases z with z | z | z
    · rw [z] at b0; exact b0 h00
    · exact b3 z
    · rw [z.1] at b9; exact b9 h9
  have hm : m ≠ h := by intro e; rw [e, h00] at h9; cases h9
  have m3 : hc w m ≠ 3 := by omega
  have nm : ∀ k, k ≠ 15 → k ≠ 16 → k ≠ 18 → k ≠ 19 → k ≠ 20 → k ≠ 21 → k ≠ 22 → ¬ PAc w h m m k := fun k a1 a2 a3 a4 a5 a6 a7 z => by
    rcases z with z | z | z
    · exact hm z
    · exact m3 z
    · omega
  have nxx := nb x (by omega) (by omega) (by omega)
  have R2 : RX w2 m kn mn B MM N' (meP S') := by
    obtain ⟨r1, r2, r3, r4, r5, r6, r7, r8, r9, r10, r11⟩ := R
    obtain ⟨l1, l2, l3, l4, l5, l6, l7, l8, l9⟩ := L2
    obtain ⟨ad, A2⟩ := V2.2.2.2.2.1
    refine ⟨f.c h9 (by decide), by rw [f.i h9 (by decide) (nm 7 (by decide) (by decide) (by decide) (by decide) (by decide) (by decide) (by decide))]; exact r2, r3, by rw [f.i h9 (by decide) (nm 11 (by decide) (by decide) (by decide) (by decide) (by decide) (by decide) (by decide))]; exact r4, r5, fun k hk => ⟨(r6 k hk).1.ke h9 f (nm 5 (by decide) (by decide) (by decide) (by decide) (by decide) (by decide) (by decide)) (nm 6 (by decide) (by decide) (by decide) (by decide) (by decide) (by decide) (by decide)), (r6 k hk).2⟩, fun k hk => ⟨?_, (r7 k hk).2⟩, l7, l8, l9, fun i hi' => ⟨l5.2.2.2.2.1 i hi', A2.1 i hi'⟩⟩
    have := (r7 k hk).1
    unfold RMa at this ⊢
    rw [f.ar h9 (by decide) (nm 8 (by decide) (by decide) (by decide) (by decide) (by decide) (by decide) (by decide)), f.ar h9 (by decide) (nm 9 (by decide) (by decide) (by decide) (by decide) (by decide) (by decide) (by decide))]
    exact this
  refine ⟨⟨⟨L2, hC2, hR2, pq2, C.ks f ⟨nxx _, nxx _, nxx _, nxx _, nxx _, nxx _⟩ (fun p hp => nb p (by omega) (by omega) (by omega)), R2, V2, VH2⟩, Ct.ke C f (nxx _) (fun p hp => nb p (by omega) (by omega) (by omega)), Rt.ke h9 f (nm 10 (by decide) (by decide) (by decide) (by decide) (by decide) (by decide) (by decide)), n5.ke h9 f (nm 5 (by decide) (by decide) (by decide) (by decide) (by decide) (by decide) (by decide)), ?_, ?_, T.ke f (nb t (by omega) (by omega) (by omega) _) (nb t (by omega) (by omega) (by omega) _) (nm 0 (by decide) (by decide) (by decide) (by decide) (by decide) (by decide) (by decide)) (nm 1 (by decide) (by decide) (by decide) (by decide) (by decide) (by decide) (by decide)), ?_, ?_, su_ke Su h8 f (nxx _), se_ke Se h8 f (nxx _) (fun b hb => nb b (by omega) (by omega) (by omega)) R.2.2.1 (Nat.le_refl _) (fun _ _ => rfl)⟩, f.o h8 (by decide) (nxx _), f.o h8 (by decide) (nxx _)⟩
  · rw [f.ar h9 (by decide) (nm 12 (by decide) (by decide) (by decide) (by decide) (by decide) (by decide) (by decide))]; exact w12
  · rw [f.o h8 (by decide) (nxx _)]; exact h0
  · rw [f.i h8 (by decide) (nxx _), f.i h9 (by decide) (nm 39 (by decide) (by decide) (by decide) (by decide) (by decide) (by decide) (by decide))]; exact D
  · rw [f.i h8 (by decide) (nxx _)]; exact X
end IVs
