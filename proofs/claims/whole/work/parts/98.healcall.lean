/-! The call heal. -/
section HQ
variable {w : HS} {x h q m N cnt pos sz : Nat} {S : Me} {H : Nat → Me}
theorem heal_call (L : LM w x q m N S) (hC : HC w x h q N cnt pos H) (hR : HR w m cnt H) (pq : hp w q 2 = (meK S).bind (hq w x 1)) (kk : ∀ k, meK S = some k → k < 8 ∧ ∃ p, hq w x 1 k = some p) (fs : ∀ b, hc w b < 10 → b < sz) :
    ∃ z w1 mc ms w2 S' cnt' pos' H', FX8_heal sz w x = some (z, w1, mc, ms) ∧ FX9_heal w1 m = some (z, w2) ∧ mc ≤ 20 ∧ ms ≤ 300 ∧ Ke (PAq w h m) w w2 ∧ LM w2 x q m N S' ∧ hp w2 q 2 = (meK S').bind (hq w2 x 1) ∧ HC w2 x h q N cnt' pos' H' ∧ HR w2 m cnt' H' ∧ ((meK S = none ∧ S' = S ∧ cnt' = cnt ∧ H' = H) ∨ (S' = meHeal S ∧ cnt' = c20 cnt ∧ H' = hcons S H)) := by
  obtain ⟨l1, l2, l3, l4, l5, l6, l7, l8, l9⟩ := id L
  have q3 := l3.1
  have h0 := hC.2.1
  have d3 : 3 < 10 := by decide
  have d8 : 8 < 10 := by decide
  have d9 : 9 < 10 := by decide
  have qx : q ≠ x := by intro e; rw [e, l1] at q3; cases q3
  have qm : q ≠ m := by intro e; rw [e, l4] at q3; cases q3
  have hx : h ≠ x := by intro e; rw [e, l1] at h0; cases h0
  have hm : h ≠ m := by intro e; rw [e, l4] at h0; cases h0
  have xm : x ≠ m := by intro e; rw [e, l4] at l1; cases l1
  have hqq : h ≠ q := by intro e; rw [e, q3] at h0; cases h0
  cases hk : meK S with
  | none =>
    refine ⟨0, w, 0, 0, w, S, cnt, pos, H, ?_, ?_, by decide, by decide, Ke.refl, L, pq, hC, hR, Or.inl ⟨rfl, rfl, rfl, rfl⟩⟩
    · unfold FX8_heal
      refine E_c l1 ?_
      rw [l2]
      refine E_b rfl (E_c q3 ?_)
      rw [pq, hk]
      rfl
    · unfold FX9_heal
      refine E_c l4 (E_f ?_ rfl)
      rw [l5.2.1, hk]
      decide
  | some k =>
    obtain ⟨k8, p, hp⟩ := kk k hk
    have pq' : CMarchTesterLaw_law_r3697_224879.hp w q 2 = some p := by rw [pq, hk]; exact hp
    obtain ⟨wa, mc, ms, e1, lm, ls, ka, Ha⟩ := keep_c hC l3 l1 pq fs
    have nq : ∀ k, ¬ PHq w h q q k := fun k z => by
      rcases z with z | z
      · exact hqq z.symm
      · exact z.2 rfl
    have nx : ∀ k, ¬ PHq w h q x k := fun k z => by
      rcases z with z | z
      · exact hx z.symm
      · have := z.1; rw [l1] at this; cases this
    have nm : ∀ k, ¬ PHq w h q m k := fun k z => by
      rcases z with z | z
      · exact hm z.symm
      · have := z.1; rw [l4] at this; cases this
    have Ma := l3.ke ka nq
    obtain ⟨wb, e2, f2, Mb, pb⟩ := ins_none Ma
    have kb : Ke (PAq w h m) w wb := (Ke.mono (P' := PAq w h m) ka (fun b k z => by
      rcases z with z | z
      · exact Or.inl z
      · exact Or.inr (Or.inl z.1))).st f2 (fun b k _ z => Or.inr (Or.inl (by rw [z]; exact q3)))
    have m16 : ha wb m 16 = ha w m 16 := by rw [f2.ar (fun z => qm z.symm), ka.ar l4 d9 (nm 16)]
    have c9 : hc wb m = 9 := kb.c l4 d9
    have Rb : HR wb m cnt H := ⟨by rw [f2.i (fun z => qm z.symm), ka.i l4 d9 (nm 19)]; exact hR.1, hR.2.1, fun i hi => by rw [f2.ar (fun z => qm z.symm), ka.ar l4 d9 (nm 18)]; exact hR.2.2 i hi⟩
    obtain ⟨wc, e3, f3, Rc⟩ := keep_r Rb c9 (S := S) (by rw [m16]; exact l5)
    obtain ⟨wd, hwd, f4, Rd⟩ := heal_row (w := wc) (m := m) (S := S) (by rw [f3.c]; exact c9) (by rw [f3.ar (by unfold P89; omega), m16]; exact l5)
    have F34 : Fr (fun b k => b = m ∧ (k = 16 ∨ k = 18 ∨ k = 19)) wb wd := (f3.mono (fun b k z => by unfold P89 at z; omega)).trans (f4.mono (fun b k z => by omega))
    have kd : Ke (PAq w h m) w wd := kb.st F34 (fun b k _ z => Or.inr (Or.inr z))
    have a5 : CMarchTesterLaw_law_r3697_224879.hp wa x 5 = some q := by rw [ka.o l1 d8 (nx 5)]; exact l2
    have Hb : HC wb x h q N (c20 cnt) ((pos + 1) % 20) (hcons S H) := Ha.ke (ka.c l1 d8) (Ke.of f2) (fun z => qx z.symm) (fun k z => hqq z) (fun b _ nb k z => nb z) (fun i _ => by rw [f2.qq (fun z => qx z.symm)])
    have Hd : HC wd x h q N (c20 cnt) ((pos + 1) % 20) (hcons S H) := Hb.ke (kb.c l1 d8) (Ke.of F34) (fun z => xm z.1) (fun k z => hm z.1) (fun b b3 _ k z => by rw [z.1, c9] at b3; cases b3) (fun i _ => by rw [F34.qq (fun z => xm z.1)])
    refine ⟨1, wb, mc, ms, wd, meHeal S, c20 cnt, (pos + 1) % 20, hcons S H, ?_, ?_, by omega, by omega, kd, ⟨kd.c l1 d8, ?_, Mb.ke (Ke.of F34) (fun k z => qm z.1), kd.c l4 d9, Rd, l6, ?_, l8, l9⟩, ?_, Hd, ?_, Or.inr ⟨rfl, rfl, rfl⟩⟩
    · unfold FX8_heal
      refine E_c l1 ?_
      rw [l2]
      refine E_b rfl (E_c q3 ?_)
      rw [pq', hC.1]
      refine E_b e1 ?_
      have := bmw_e (c := mc) (s := ms) (z := ((1 : Int32), wb, 0, 0)) (y := ((CMarchTesterLaw_law_r3697_224879.hp wa x 5).bind fun p24 => ((FX3_insert wa p24 none (-1 : Int32) (-1 : Int32) (-1 : Int32)).bind fun q26 => (some ((1 : Int32), q26.2, 0, 0))))) (by
        rw [a5]
        exact E_b rfl (E_b e2 rfl))
      rw [Nat.zero_add, Nat.zero_add] at this
      exact this
    · unfold FX9_heal
      refine E_c c9 (E_t ?_ (E_b e3 (E_d (E_d (E_d ?_)))))
      · rw [m16, l5.2.1, hk]
        exact nI_le (a := 0) (by omega) (by omega)
      · dsimp only
        rw [← hwd]
    · rw [F34.o (fun z => xm z.1), f2.o (fun z => qx z.symm)]; exact a5
    · rw [F34.i (by omega), f2.i (fun z => qm z.symm), ka.i l4 d9 (nm 15)]; exact l7
    · rw [F34.o (fun z => qm z.1), pb]; rfl
    · exact ⟨by rw [f4.i (by omega)]; exact Rc.1, Rc.2.1, fun i hi => by rw [f4.ar (by omega)]; exact Rc.2.2 i hi⟩
end HQ
