/-! Behind the two constructors. -/
section NO
variable (w : HS) (a ci : Nat) (fi : Nat → Int32) (fl : Nat → Int64) (fp : Nat → Option Nat) (fa : Nat → Nat → Int32) (fj : Nat → Nat → Int64) (fq : Nat → Nat → Option Nat)
theorem no_y {b : Nat} (h : b = a) : hc (nObj w a ci fi fl fp fa fj fq) b = ci ∧ hi (nObj w a ci fi fl fp fa fj fq) b = fi ∧ hp (nObj w a ci fi fl fp fa fj fq) b = fp ∧ ha (nObj w a ci fi fl fp fa fj fq) b = fa ∧ hq (nObj w a ci fi fl fp fa fj fq) b = fq := ⟨if_pos h, if_pos h, if_pos h, if_pos h, if_pos h⟩
theorem no_n {b : Nat} (h : ¬ b = a) : hc (nObj w a ci fi fl fp fa fj fq) b = hc w b ∧ hi (nObj w a ci fi fl fp fa fj fq) b = hi w b ∧ hp (nObj w a ci fi fl fp fa fj fq) b = hp w b ∧ ha (nObj w a ci fi fl fp fa fj fq) b = ha w b ∧ hq (nObj w a ci fi fl fp fa fj fq) b = hq w b := ⟨if_neg h, if_neg h, if_neg h, if_neg h, if_neg h⟩
end NO
/-- what an object is -/
def OB (w : HS) (b ci : Nat) (fi : Nat → Int32) (fp : Nat → Option Nat) (fa : Nat → Nat → Int32) (fq : Nat → Nat → Option Nat) : Prop := hc w b = ci ∧ hi w b = fi ∧ hp w b = fp ∧ ha w b = fa ∧ hq w b = fq
theorem ob_st {w w' : HS} {b ci : Nat} {fi : Nat → Int32} {fp : Nat → Option Nat} {fa : Nat → Nat → Int32} {fq : Nat → Nat → Option Nat} (h : OB w b ci fi fp fa fq) (e : hc w' b = hc w b ∧ hi w' b = hi w b ∧ hp w' b = hp w b ∧ ha w' b = ha w b ∧ hq w' b = hq w b) : OB w' b ci fi fp fa fq := by
  obtain ⟨e1, e2, e3, e4, e5⟩ := e
  unfold OB
  rw [e1, e2, e3, e4, e5]
  exact h
theorem ob_8 (S : Nat) : OB (w8 S) S 8 (fun _ => 0) (fp8 S) (fun _ _ => 0) (fun _ _ => none) ∧ OB (w8 S) (S + 1) 6 (fun _ => 0) (fun _ => none) (fun _ _ => 0) (fun _ _ => none) ∧ (hc (w8 S) (S + 5) = 3 ∧ hi (w8 S) (S + 5) 0 = 2 ∧ hi (w8 S) (S + 5) 1 = 0 ∧ hi (w8 S) (S + 5) 3 = -1 ∧ hi (w8 S) (S + 5) 4 = -1 ∧ hi (w8 S) (S + 5) 5 = -1 ∧ hi (w8 S) (S + 5) 6 = -1 ∧ hi (w8 S) (S + 5) 8 = -1 ∧ hi (w8 S) (S + 5) 9 = 0 ∧ ha (w8 S) (S + 5) = fun _ _ => 0) ∧ OB (w8 S) (S + 8) 0 (fun _ => 0) (fun _ => none) (fun _ _ => 0) (fun _ _ => none) ∧ hc (w8 S) (S + 10) = 7 ∧ ∀ b, hc (w8 S) b < 10 → b < S + 13 := by
  unfold w8
  obtain ⟨u7, h7⟩ : ∃ u, u = nwX7 (nwX0 (nwX3 (nwX6 w0 (S + 1)) (S + 5)) (S + 8)) (S + 10) := ⟨_, rfl⟩
  obtain ⟨u0, h0⟩ : ∃ u, u = nwX0 (nwX3 (nwX6 w0 (S + 1)) (S + 5)) (S + 8) := ⟨_, rfl⟩
  obtain ⟨u3, h3⟩ : ∃ u, u = nwX3 (nwX6 w0 (S + 1)) (S + 5) := ⟨_, rfl⟩
  obtain ⟨u6, h6⟩ : ∃ u, u = nwX6 w0 (S + 1) := ⟨_, rfl⟩
  rw [← h6] at h3
  rw [← h6, ← h3] at h0
  rw [← h6, ← h3, ← h0] at h7
  rw [← h6, ← h3, ← h0, ← h7]
  have o6 : OB u6 (S + 1) 6 (fun _ => 0) (fun _ => none) (fun _ _ => 0) (fun _ _ => none) := by rw [h6]; exact no_y _ _ _ _ _ _ _ _ _ rfl
  have s6 : ∀ b, hc u6 b < 10 → b = S + 1 := fun b hb => Classical.byContradiction (fun e => by
    rw [h6] at hb
    rw [show hc (nwX6 w0 (S + 1)) b = hc w0 b from (no_n _ _ _ _ _ _ _ _ _ e).1] at hb
    exact absurd hb (by show ¬ 10 < 10; decide))
  have o3 : hc u3 (S + 5) = 3 ∧ hi u3 (S + 5) 0 = 2 ∧ hi u3 (S + 5) 1 = 0 ∧ hi u3 (S + 5) 3 = -1 ∧ hi u3 (S + 5) 4 = -1 ∧ hi u3 (S + 5) 5 = -1 ∧ hi u3 (S + 5) 6 = -1 ∧ hi u3 (S + 5) 8 = -1 ∧ hi u3 (S + 5) 9 = 0 ∧ ha u3 (S + 5) = fun _ _ => 0 := by
    obtain ⟨fi, hfi, f0, f1, f3, f4, f5, f6, f8, f9⟩ : ∃ fi : Nat → Int32, nwX3 u6 (S + 5) = nObj u6 (S + 5) 3 fi (fun _ => 0) (fun _ => none) (fun _ _ => 0) (fun _ _ => 0) (fun _ _ => none) ∧ fi 0 = 2 ∧ fi 1 = 0 ∧ fi 3 = -1 ∧ fi 4 = -1 ∧ fi 5 = -1 ∧ fi 6 = -1 ∧ fi 8 = -1 ∧ fi 9 = 0 := ⟨_, rfl, rfl, rfl, rfl, rfl, rfl, rfl, rfl, rfl⟩
    rw [h3, hfi]
    obtain ⟨y1, y2, y3, y4, y5⟩ := no_y u6 (S + 5) 3 fi (fun _ => 0) (fun _ => none) (fun _ _ => 0) (fun _ _ => 0) (fun _ _ => none) (b := S + 5) rfl
    rw [y1, y2, y4]
    exact ⟨rfl, f0, f1, f3, f4, f5, f6, f8, f9, rfl⟩
  have n3 : ∀ b, ¬ b = S + 5 → hc u3 b = hc u6 b ∧ hi u3 b = hi u6 b ∧ hp u3 b = hp u6 b ∧ ha u3 b = ha u6 b ∧ hq u3 b = hq u6 b := fun b e => by rw [h3]; exact no_n _ _ _ _ _ _ _ _ _ e
  have o0 : OB u0 (S + 8) 0 (fun _ => 0) (fun _ => none) (fun _ _ => 0) (fun _ _ => none) := by rw [h0]; exact no_y _ _ _ _ _ _ _ _ _ rfl
  have n0 : ∀ b, ¬ b = S + 8 → hc u0 b = hc u3 b ∧ hi u0 b = hi u3 b ∧ hp u0 b = hp u3 b ∧ ha u0 b = ha u3 b ∧ hq u0 b = hq u3 b := fun b e => by rw [h0]; exact no_n _ _ _ _ _ _ _ _ _ e
  have o7 : hc u7 (S + 10) = 7 := by rw [h7]; exact if_pos rfl
  have n7 : ∀ b, ¬ b = S + 10 → hc u7 b = hc u0 b ∧ hi u7 b = hi u0 b ∧ hp u7 b = hp u0 b ∧ ha u7 b = ha u0 b ∧ hq u7 b = hq u0 b := fun b e => by rw [h7]; exact no_n _ _ _ _ _ _ _ _ _ e
  obtain ⟨u8, h8⟩ : ∃ u, u = nObj u7 S 8 (fun _ => 0) (fun _ => 0) (fp8 S) (fun _ _ => 0) (fun _ _ => 0) (fun _ _ => none) := ⟨_, rfl⟩
  have o8 : OB u8 S 8 (fun _ => 0) (fp8 S) (fun _ _ => 0) (fun _ _ => none) := by rw [h8]; exact no_y _ _ _ _ _ _ _ _ _ rfl
  have n8 : ∀ b, ¬ b = S → hc u8 b = hc u7 b ∧ hi u8 b = hi u7 b ∧ hp u8 b = hp u7 b ∧ ha u8 b = ha u7 b ∧ hq u8 b = hq u7 b := fun b e => by rw [h8]; exact no_n _ _ _ _ _ _ _ _ _ e
  rw [← h8]
  refine ⟨o8, ob_st (ob_st (ob_st (ob_st o6 (n3 _ (by omega))) (n0 _ (by omega))) (n7 _ (by omega))) (n8 _ (by omega)), ?_, ob_st (ob_st o0 (n7 _ (by omega))) (n8 _ (by omega)), by rw [(n8 _ (by omega)).1]; exact o7, fun b hb => ?_⟩
  · obtain ⟨a1, a2, _, a4, _⟩ := n8 (S + 5) (by omega)
    obtain ⟨b1, b2, _, b4, _⟩ := n7 (S + 5) (by omega)
    obtain ⟨c1, c2, _, c4, _⟩ := n0 (S + 5) (by omega)
    rw [a1, a2, a4, b1, b2, b4, c1, c2, c4]
    exact o3
  · refine Classical.byContradiction (fun e => ?_)
    rw [(n8 b (by omega)).1, (n7 b (by omega)).1, (n0 b (by omega)).1, (n3 b (by omega)).1] at hb
    have := s6 b hb
    omega
theorem start_all : Start IV pot := by
  intro S
  obtain ⟨o8, o6, o3, o0, o7, fs⟩ := ob_8 S
  obtain ⟨c1, c2, c3, c4, c5, c6, c7, c8, c9, c10⟩ := o3
  have M0 : MV (w8 S) (S + 5) 2 (0, none, 7, 7, fun _ => 0, none, 0, none, 0, fun _ => 0, fun _ => 0) := by
    refine ⟨c1, c2, c3, c4, c5, c6, c7, fun y => absurd rfl y, c8, c9, Nat.zero_le _, fun i _ => ?_, fun i hi' => absurd hi' (Nat.not_lt_zero _)⟩
    rw [c10]
    rfl
  obtain ⟨w1, e1, F1, M1, p1⟩ := begin_c M0 (n := 4) (by decide) (by decide)
  obtain ⟨wa, hwa⟩ : ∃ wa, wa = nwX9 w1 (S + 13) := ⟨_, rfl⟩
  have fs1 : ∀ b, hc w1 b < 10 → b < S + 13 := fun b hb => fs b (by rw [F1.c] at hb; exact hb)
  have kn : ∀ b, ¬ b = S + 13 → hc wa b = hc w1 b ∧ hi wa b = hi w1 b ∧ hp wa b = hp w1 b ∧ ha wa b = ha w1 b ∧ hq wa b = hq w1 b := fun b e => by rw [hwa]; exact no_n _ _ _ _ _ _ _ _ _ e
  have o9 : OB wa (S + 13) 9 (fun _ => 0) (fun _ => none) (fun k => if k = 12 then wrd9 else fun _ => 0) (fun _ _ => none) := by rw [hwa]; exact no_y _ _ _ _ _ _ _ _ _ rfl
  obtain ⟨w2, e2, F2, i15, i19, R2⟩ := begins_r (w := wa) (m := S + 13) o9.1 4
  have k1 : ∀ b, ¬ b = S + 5 → hc w1 b = hc (w8 S) b ∧ hi w1 b = hi (w8 S) b ∧ hp w1 b = hp (w8 S) b ∧ ha w1 b = ha (w8 S) b ∧ hq w1 b = hq (w8 S) b := fun b e => ⟨F1.c b, funext (fun k => F1.i e), funext (fun k => F1.o e), funext (fun k => F1.ar e), funext (fun k => F1.qq e)⟩
  have k2 : ∀ b, ¬ b = S + 13 → hc w2 b = hc wa b ∧ hi w2 b = hi wa b ∧ hp w2 b = hp wa b ∧ ha w2 b = ha wa b ∧ hq w2 b = hq wa b := fun b e => ⟨F2.c b, funext (fun k => F2.i (by omega)), funext (fun k => F2.o (by omega)), funext (fun k => F2.ar (by omega)), funext (fun k => F2.qq (by omega))⟩
  have X8 : OB w2 S 8 (fun _ => 0) (fp8 S) (fun _ _ => 0) (fun _ _ => none) := ob_st (ob_st (ob_st o8 (k1 _ (by omega))) (kn _ (by omega))) (k2 _ (by omega))
  have X6 : OB w2 (S + 1) 6 (fun _ => 0) (fun _ => none) (fun _ _ => 0) (fun _ _ => none) := ob_st (ob_st (ob_st o6 (k1 _ (by omega))) (kn _ (by omega))) (k2 _ (by omega))
  have X0 : OB w2 (S + 8) 0 (fun _ => 0) (fun _ => none) (fun _ _ => 0) (fun _ _ => none) := ob_st (ob_st (ob_st o0 (k1 _ (by omega))) (kn _ (by omega))) (k2 _ (by omega))
  have X7 : hc w2 (S + 10) = 7 := by rw [(k2 _ (by omega)).1, (kn _ (by omega)).1, (k1 _ (by omega)).1]; exact o7
  have h9 : hc w2 (S + 13) = 9 := by rw [F2.c]; exact o9.1
  have m9 : ∀ k, ¬ (k = 15 ∨ k = 16 ∨ k = 19) → hi w2 (S + 13) k = 0 := fun k e => by rw [F2.i (by omega), o9.2.1]
  have a9 : ∀ k, ¬ (k = 15 ∨ k = 16 ∨ k = 19) → ¬ k = 12 → ha w2 (S + 13) k = fun _ => 0 := fun k e e' => by rw [F2.ar (by omega), o9.2.2.2.1]; exact if_neg e'
  have a12 : ha w2 (S + 13) 12 = wrd9 := by rw [F2.ar (by omega), o9.2.2.2.1]; exact if_pos rfl
  obtain ⟨x1, x2, x3, x4, x5⟩ := X8
  obtain ⟨t1, t2, t3, t4, t5⟩ := X6
  obtain ⟨y1, y2, y3, y4, y5⟩ := X0
  obtain ⟨B, hB⟩ : ∃ B : Nat → Book, B = fun _ => (0, fun _ _ => 0) := ⟨_, rfl⟩
  obtain ⟨MM, hMM⟩ : ∃ MM : Nat → Mch, MM = fun _ => (0, fun _ => 0, fun _ => 0, fun _ _ => 0) := ⟨_, rfl⟩
  have V := vs0 0 0 4 B MM (by decide)
  obtain ⟨ad, A⟩ := V.2.2.2.2.1
  have Mq : MV w2 (S + 5) 4 me0 := by
    obtain ⟨z1, z2, z3, z4, z5⟩ := kn (S + 5) (by omega)
    obtain ⟨v1, v2, v3, v4, v5⟩ := k2 (S + 5) (by omega)
    unfold MV
    rw [v1, v2, v4, z1, z2, z4]
    exact M1
  have pq : hp w2 (S + 5) 2 = none := by rw [(k2 _ (by omega)).2.2.1, (kn _ (by omega)).2.2.1]; exact p1
  have I : IVc w2 S (S + 13) (S + 5) (S + 8) (S + 1) (S + 10) 4 0 0 0 0 0 B MM me0 (fun _ => me0) := by
    refine ⟨⟨⟨x1, by rw [x3]; rfl, Mq, h9, R2, V.2.2.2.2.2.1, i15, by decide, by decide⟩, ⟨by rw [x3]; rfl, y1, by rw [y2]; rfl, by rw [y2]; rfl, by decide, by decide, ?_, ?_, fun i hi' => absurd hi' (Nat.not_lt_zero _)⟩, ⟨i19, by decide, fun i hi' => absurd hi' (Nat.not_lt_zero _)⟩, pq, ?_, ?_, V, fun i hi' => absurd hi' (Nat.not_lt_zero _)⟩, fun k hk => absurd hk (Nat.not_lt_zero _), fun k hk => absurd hk (Nat.not_lt_zero _), ?_, a12, by rw [x3]; rfl, ⟨t1, h9, by rw [t2]; rfl, m9 1 (by decide), by decide, fun i hi' => absurd hi' (Nat.not_lt_zero _)⟩, ?_, ⟨0, by rw [x2]; rfl, by decide⟩, ?_, ?_⟩
    · intro s _ o ho
      rw [y5] at ho
      cases ho
    · intro s _ s' _ o ho
      rw [y5] at ho
      cases ho
    · refine ⟨x1, by rw [x3]; rfl, X7, by rw [x2]; rfl, by decide, by rw [x2]; rfl, by decide, fun k hk => absurd hk (Nat.not_lt_zero _), fun k hk => absurd hk (Nat.not_lt_zero _), fun mi _ k _ => Or.inl ?_⟩
      rw [x4]
    · exact ⟨h9, m9 7 (by decide), by decide, m9 11 (by decide), by decide, fun k hk => absurd hk (Nat.not_lt_zero _), fun k hk => absurd hk (Nat.not_lt_zero _), i15, by decide, by decide, fun i hi' => ⟨R2.2.2.2.2.1 i hi', A.1 i hi'⟩⟩
    · intro j _
      exact ⟨0, by decide, by rw [a9 5 (by decide) (by decide)]; rfl⟩
    · rw [x2, m9 39 (by decide)]
    · intro s hs
      rw [x3] at hs
      cases hs
    · intro s hs
      rw [x3] at hs
      cases hs
  refine ⟨(), (), w1, w2, e1, ?_, ⟨_, _, _, _, _, _, _, _, _, _, _, _, _, _, I⟩, ?_⟩
  · rw [← hwa]
    exact e2
  · unfold pot
    split <;> split <;> decide
