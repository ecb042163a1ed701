/-! Acts: what all of them share. -/
/-- the book of the fault in it -/
def bkS (B : Nat → Book) (S : Me) : Book := match meK S with
  | some k => B k
  | none => (0, fun _ _ => 0)
/-- reads ahead of element e, of one address -/
def preR (M : Mch) : Nat → Nat
  | 0 => 0
  | e + 1 => preR M e + rdE M e
/-- a read of this number is at this address -/
def GAd (M : Mch) (N ch n ad : Nat) : Prop := ∃ e i k, e < mN M ∧ i < N ∧ k < mC M e ∧ mO M e k < 2 ∧ n = N * preR M e + i * rdE M e + rE M e k ∧ ad = adr N (dwn M ch e) i
/-- a memory's state is good -/
def VS (kn mn N : Nat) (B : Nat → Book) (MM : Nat → Mch) (S : Me) : Prop := meC S < 64 ∧ (∀ k, meK S = some k → k < kn) ∧ PL (bkS B S) (meA S) (meV S) ∧ Sd0 (bkS B S) (meA S) (meV S) (meC S) ∧ (∃ ad, MPok N (meP S) ad) ∧ VL S ∧ (meR S = none ↔ meF S = none) ∧ ∀ mi, meR S = some mi → mi < mn ∧ meH S < 8 ∧ ∀ i, i < meN S → GAd (MM mi) N (meH S) (meX S i) (meY S i)
theorem bkS_none {B : Nat → Book} {S : Me} (h : meK S = none) : bkS B S = (0, fun _ _ => 0) := by unfold bkS; rw [h]
theorem bkS_some {B : Nat → Book} {S : Me} {k : Nat} (h : meK S = some k) : bkS B S = B k := by unfold bkS; rw [h]
theorem VS.ext {kn mn kn' mn' N : Nat} {B B' : Nat → Book} {MM MM' : Nat → Mch} {S : Me} (V : VS kn mn N B MM S) (hk : kn ≤ kn') (hm : mn ≤ mn') (BB : ∀ k, k < kn → B' k = B k) (MB : ∀ k, k < mn → MM' k = MM k) : VS kn' mn' N B' MM' S := by
  obtain ⟨v1, v2, v3, v4, v5, v6, v7, v8⟩ := V
  have e : bkS B' S = bkS B S := by
    cases h : meK S with
    | none => rw [bkS_none h, bkS_none h]
    | some k => rw [bkS_some h, bkS_some h, BB k (v2 k h)]
  refine ⟨v1, fun k h => Nat.lt_of_lt_of_le (v2 k h) hk, by rw [e]; exact v3, by rw [e]; exact v4, v5, v6, v7, fun mi h => ?_⟩
  obtain ⟨a1, a2, a3⟩ := v8 mi h
  exact ⟨by omega, a2, by rw [MB mi a1]; exact a3⟩
section AC
variable {w : HS} {x h q m r N kn mn cnt pos sz : Nat} {S S' : Me} {H : Nat → Me} {B : Nat → Book} {MM : Nat → Mch} {mp : Nat → Nat}
theorem cf_of {K1 : Nat → Option Nat} (M : MV w q N S) (V : VS kn mn N B MM S) (pq : hp w q 2 = (meK S).bind K1) (ck : ∀ k, k < kn → ∃ p, K1 k = some p ∧ CK w p (B k) ∧ WB (B k)) : CF w q (bkS B S) (meA S) (meV S) := by
  refine ⟨M.1, M.2.2.2.2.1, M.2.2.2.2.2.1, V.2.2.1, ?_⟩
  cases hk : meK S with
  | none =>
    rw [bkS_none hk]
    exact Or.inl ⟨by rw [pq, hk]; rfl, rfl⟩
  | some k =>
    obtain ⟨p, p1, p2, p3⟩ := ck k (V.2.1 k hk)
    rw [bkS_some hk]
    exact Or.inr ⟨p, by rw [pq, hk]; exact p1, p2, p3.2.1⟩
theorem rf_of (h9 : hc w m = 9) (R : RV (ha w m 16) S) (V : VS kn mn N B MM S) (k8 : kn ≤ 8) (rk : ∀ k, k < kn → RK w m k (B k) ∧ WB (B k)) : RF w m (bkS B S) (meA S) (meV S) := by
  refine ⟨h9, R.2.2.1, R.2.2.2.1, V.2.2.1, ?_⟩
  cases hk : meK S with
  | none =>
    rw [bkS_none hk]
    exact Or.inl ⟨by rw [R.2.1, hk]; rfl, rfl⟩
  | some k =>
    have kl := V.2.1 k hk
    obtain ⟨p1, p2⟩ := rk k kl
    rw [bkS_some hk]
    exact Or.inr ⟨k, by omega, by rw [R.2.1, hk]; rfl, p1, p2.2.1⟩
/-- what an act may change -/
def PAc (w : HS) (h m : Nat) : Nat → Nat → Prop := fun b k => b = h ∨ hc w b = 3 ∨ (b = m ∧ (k = 15 ∨ k = 16 ∨ k = 18 ∨ k = 19 ∨ k = 20 ∨ k = 21 ∨ k = 22))
/-- kinds of the class stay -/
theorem ck_ke {P : Nat → Nat → Prop} {w' : HS} (C : CX w x r kn mn B MM) (f : Ke P w w') (nk : ∀ p, hc w p = 1 → ∀ k, ¬ P p k) : ∀ k, k < kn → ∃ p, hq w x 1 k = some p ∧ CK w' p (B k) ∧ WB (B k) := by
  intro k hk
  obtain ⟨p, p1, p2, p3⟩ := C.2.2.2.2.2.2.2.1 k hk
  exact ⟨p, p1, p2.ke f (nk p p2.1), p3⟩
theorem RK.ke {P : Nat → Nat → Prop} {w' : HS} {k : Nat} {b : Book} (R : RK w m k b) (h9 : hc w m = 9) (f : Ke P w w') (n5 : ¬ P m 5) (n6 : ¬ P m 6) : RK w' m k b := by
  unfold RK rl
  rw [f.ar h9 (by decide) n5, f.ar h9 (by decide) n6]
  exact R
theorem act_call {Q8 Q9 : HS → HS → Prop} (L : LM w x q m N S) (hC : HC w x h q N cnt pos H) (hR : HR w m cnt H) (pq : hp w q 2 = (meK S).bind (hq w x 1)) (fs : ∀ b, hc w b < 10 → b < sz) (VL' : VL S')
    (a8 : ∀ wa, Ke (PHq w h q) w wa → MV wa q N S → hp wa q 2 = (meK S).bind (hq w x 1) → ∃ wb, Q8 wa wb ∧ Fr (fun b _ => b = q) wa wb ∧ MV wb q N S' ∧ hp wb q 2 = (meK S').bind (hq w x 1))
    (a9 : ∀ wc, Ke (PAc w h m) w wc → hi wc m 15 = nI N → RV (ha wc m 16) S → ∃ wd, Q9 wc wd ∧ Fr (PR m) wc wd ∧ RV (ha wd m 16) S') :
    ∃ wa mc ms wb wc wd, FX0_keep sz w h q = some ((), wa, mc, ms) ∧ mc ≤ 3 ∧ ms ≤ 78 ∧ Ke (PHq w h q) w wa ∧ hp wa x 5 = some q ∧ hc wa q = 3 ∧ Q8 wa wb ∧ Ke (PAc w h m) w wb ∧ hp wb x 5 = some q ∧ MV wb q N S' ∧ (∀ k, hi wb m k = hi w m k ∧ ha wb m k = ha w m k) ∧ FX9_keepsAct wb m = some ((), wc) ∧ Q9 wc wd ∧ RV (ha wd m 16) S' ∧ Ke (PAc w h m) w wd ∧ LM wd x q m N S' ∧ hp wd q 2 = (meK S').bind (hq wd x 1) ∧ HC wd x h q N (c20 cnt) ((pos + 1) % 20) (hcons S H) ∧ HR wd m (c20 cnt) (hcons S H) := by
  obtain ⟨l1, l2, l3, l4, l5, l6, l7, l8, l9⟩ := id L
  have q3 := l3.1
  have h0 := hC.2.1
  have d3 : 3 < 10 := by decide
  have d8 : 8 < 10 := by decide
  have d9 : 9 < 10 := by decide
  have qx : q ≠ x := by intro e; rw [e, l1] at q3; cases q3
  have qm : q ≠ m := by intro e; rw [e, l4] at q3; cases q3
  have hx : h ≠ x := by intro e; rw [e, l1] at h0; cases h0
  have hm : h ≠ m := by intro e; rw [e, l4] at h0; cases h0
  have xm : x ≠ m := by intro e; rw [e, l4] at l1; cases l1
  have hqq : h ≠ q := by intro e; rw [e, q3] at h0; cases h0
  obtain ⟨wa, mc, ms, e1, lm, ls, ka, Ha⟩ := keep_c hC l3 l1 pq fs
  have nq : ∀ k, ¬ PHq w h q q k := fun k z => by
    rcases z with z | z
    · exact hqq z.symm
    · exact z.2 rfl
  have nx : ∀ k, ¬ PHq w h q x k := fun k z => by
    rcases z with z | z
    · exact hx z.symm
    · have := z.1; rw [l1] at this; cases this
  have nm : ∀ k, ¬ PHq w h q m k := fun k z => by
    rcases z with z | z
    · exact hm z.symm
    · have := z.1; rw [l4] at this; cases this
  have Ma := l3.ke ka nq
  have x1a : hq wa x 1 = hq w x 1 := ka.qq l1 d8 (nx 1)
  obtain ⟨wb, q8, f2, Mb, pb⟩ := a8 wa ka Ma (by rw [ka.o q3 d3 (nq 2)]; exact pq)
  have kb : Ke (PAc w h m) w wb := (Ke.mono (P' := PAc w h m) ka (fun b k z => by
    rcases z with z | z
    · exact Or.inl z
    · exact Or.inr (Or.inl z.1))).st f2 (fun b k _ z => Or.inr (Or.inl (by rw [z]; exact q3)))
  have mi : ∀ k, hi wb m k = hi w m k ∧ ha wb m k = ha w m k := fun k => ⟨by rw [f2.i (fun z => qm z.symm), ka.i l4 d9 (nm k)], by rw [f2.ar (fun z => qm z.symm), ka.ar l4 d9 (nm k)]⟩
  have c9 : hc wb m = 9 := kb.c l4 d9
  have Rb : HR wb m cnt H := ⟨by rw [(mi 19).1]; exact hR.1, hR.2.1, fun i hi => by rw [(mi 18).2]; exact hR.2.2 i hi⟩
  obtain ⟨wc, e3, f3, Rc⟩ := keep_r Rb c9 (S := S) (by rw [(mi 16).2]; exact l5)
  have kc : Ke (PAc w h m) w wc := kb.st f3 (fun b k _ z => by unfold P89 at z; unfold PAc; omega)
  obtain ⟨wd, q9, f4, Rd⟩ := a9 wc kc (by rw [f3.i (by unfold P89; omega), (mi 15).1]; exact l7) (by rw [f3.ar (by unfold P89; omega), (mi 16).2]; exact l5)
  have F34 : Fr (fun b k => b = m ∧ (k = 16 ∨ k = 18 ∨ k = 19 ∨ k = 20 ∨ k = 21 ∨ k = 22)) wb wd := (f3.mono (fun b k z => by unfold P89 at z; omega)).trans (f4.mono (fun b k z => by unfold PR at z; omega))
  have kd : Ke (PAc w h m) w wd := kb.st F34 (fun b k _ z => Or.inr (Or.inr (by omega)))
  have a5 : hp wa x 5 = some q := by rw [ka.o l1 d8 (nx 5)]; exact l2
  have b5 : hp wb x 5 = some q := by rw [f2.o (fun z => qx z.symm)]; exact a5
  have x1b : hq wb x 1 = hq w x 1 := by rw [f2.qq (fun z => qx z.symm)]; exact x1a
  have x1d : hq wd x 1 = hq w x 1 := by rw [F34.qq (fun z => xm z.1)]; exact x1b
  have Hb : HC wb x h q N (c20 cnt) ((pos + 1) % 20) (hcons S H) := Ha.ke (ka.c l1 d8) (Ke.of f2) (fun z => qx z.symm) (fun k z => hqq z) (fun b _ nb k z => nb z) (fun i _ => by rw [x1b, x1a])
  have Hd : HC wd x h q N (c20 cnt) ((pos + 1) % 20) (hcons S H) := Hb.ke (kb.c l1 d8) (Ke.of F34) (fun z => xm z.1) (fun k z => hm z.1) (fun b b3 _ k z => by rw [z.1, c9] at b3; cases b3) (fun i _ => by rw [x1b, x1d])
  refine ⟨wa, mc, ms, wb, wc, wd, e1, lm, ls, ka, a5, ka.c q3 d3, q8, kb, b5, Mb, mi, e3, q9, Rd, kd, ⟨kd.c l1 d8, ?_, Mb.ke (Ke.of F34) (fun k z => qm z.1), kd.c l4 d9, Rd, VL', ?_, l8, l9⟩, ?_, Hd, ?_⟩
  · rw [F34.o (fun z => xm z.1)]; exact b5
  · rw [F34.i (by omega), (mi 15).1]; exact l7
  · rw [F34.o (fun z => qm z.1), pb, x1d]
  · exact ⟨by rw [f4.i (by unfold PR; omega)]; exact Rc.1, Rc.2.1, fun i hi => by rw [f4.ar (by unfold PR; omega)]; exact Rc.2.2 i hi⟩
end AC
