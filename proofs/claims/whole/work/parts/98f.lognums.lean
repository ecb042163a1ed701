/-! The numbers of the reads: each tells its address; they grow. -/
theorem rE_mono (M : Mch) (e : Nat) : ∀ d k, rE M e k ≤ rE M e (k + d) := by
  intro d
  induction d with
  | zero => intro k; exact Nat.le_refl _
  | succ d ih =>
    intro k
    have := ih k
    show rE M e k ≤ rE M e (k + d) + _
    omega
theorem rE_lt {M : Mch} {e k : Nat} (hk : k < mC M e) (ho : mO M e k < 2) : rE M e k < rdE M e := by
  have h1 : rE M e (k + 1) = rE M e k + 1 := by
    show rE M e k + (if mO M e k < 2 then 1 else 0) = _
    rw [if_pos ho]
  have h2 := rE_mono M e (mC M e - (k + 1)) (k + 1)
  rw [show k + 1 + (mC M e - (k + 1)) = mC M e from by omega] at h2
  unfold rdE
  omega
theorem preR_mono (M : Mch) : ∀ d e, preR M e ≤ preR M (e + d) := by
  intro d
  induction d with
  | zero => intro e; exact Nat.le_refl _
  | succ d ih =>
    intro e
    have := ih e
    show preR M e ≤ preR M (e + d) + _
    omega
theorem preR_le {M : Mch} (hM : WM M) : ∀ e, e ≤ mN M → preR M e ≤ 6 * e := by
  intro e
  induction e with
  | zero => intro _; exact Nat.le_refl _
  | succ e ih =>
    intro h
    have h1 := ih (by omega)
    have h2 := (hM.2.2.2 e (by omega)).2.2.1
    have h3 := rE_le M e (mC M e)
    show preR M e + rdE M e ≤ _
    unfold rdE
    omega
theorem mul_split {N a r i : Nat} (hi : i < N) : i * r + r ≤ N * r := by
  have : (i + 1) * r ≤ N * r := Nat.mul_le_mul_right r hi
  rw [Nat.add_mul, Nat.one_mul] at this
  exact this
theorem gad_in {M : Mch} {N e i k : Nat} (hi : i < N) (hk : k < mC M e) (ho : mO M e k < 2) : N * preR M e ≤ N * preR M e + i * rdE M e + rE M e k ∧ N * preR M e + i * rdE M e + rE M e k < N * preR M (e + 1) := by
  have h1 := rE_lt hk ho
  have h2 := mul_split (a := 0) (r := rdE M e) hi
  have h3 : N * preR M (e + 1) = N * preR M e + N * rdE M e := by
    show N * (preR M e + rdE M e) = _
    rw [Nat.mul_add]
  omega
theorem gad_bd {M : Mch} {N ch n ad : Nat} (hM : WM M) (h6 : N ≤ 6) (h : GAd M N ch n ad) : n < 288 ∧ ad < N := by
  obtain ⟨e, i, k, he, hi, hk, ho, rfl, rfl⟩ := h
  have h1 := (gad_in (e := e) hi hk ho).2
  have h2 := preR_le hM (e + 1) (by omega)
  have h3 := hM.2.1
  have h4 : N * preR M (e + 1) ≤ 6 * 48 := Nat.mul_le_mul h6 (by omega)
  exact ⟨by omega, adr_lt hi⟩
theorem gad_inj {M : Mch} {N ch n ad ad' : Nat} (h : GAd M N ch n ad) (h' : GAd M N ch n ad') : ad = ad' := by
  obtain ⟨e, i, k, he, hi, hk, ho, hn, rfl⟩ := h
  obtain ⟨e', i', k', he', hi', hk', ho', hn', rfl⟩ := h'
  have a1 := gad_in (e := e) hi hk ho
  have a2 := gad_in (e := e') hi' hk' ho'
  rw [← hn] at a1
  rw [← hn'] at a2
  have ee : e = e' := by
    rcases Nat.lt_trichotomy e e' with q | q | q
    · have := preR_mono M (e' - (e + 1)) (e + 1)
      rw [show e + 1 + (e' - (e + 1)) = e' from by omega] at this
      have := Nat.mul_le_mul_left N this
      omega
    · exact q
    · have := preR_mono M (e - (e' + 1)) (e' + 1)
      rw [show e' + 1 + (e - (e' + 1)) = e from by omega] at this
      have := Nat.mul_le_mul_left N this
      omega
  subst ee
  have r1 := rE_lt hk ho
  have r2 := rE_lt hk' ho'
  have ii : i = i' := by
    rcases Nat.lt_trichotomy i i' with q | q | q
    · have := mul_split (a := 0) (r := rdE M e) q
      omega
    · exact q
    · have := mul_split (a := 0) (r := rdE M e) q
      omega
  rw [ii]
/-- a run's log is good as it stands -/
def LGo (M : Mch) (N ch : Nat) (s : St) : Prop := (∀ k, k < s.2.2.length → GAd M N ch (gt s.2.2 k).1 (gt s.2.2 k).2 ∧ (gt s.2.2 k).1 < s.2.1) ∧ ∀ j k, j < k → k < s.2.2.length → (gt s.2.2 j).1 < (gt s.2.2 k).1
section LGS
variable {b : Book} {a v N ch : Nat} {M : Mch} {mp : Nat → Nat}
theorem lgo_stp {e i k c : Nat} {s : St} (he : e < mN M) (hi : i < N) (hk : k < mC M e) (hn : s.2.1 = N * preR M e + i * rdE M e + rE M e k) (G : LGo M N ch s) : LGo M N ch (stp b a v c (adr N (dwn M ch e) i) (mO M e k) s) := by
  obtain ⟨g1, g2⟩ := G
  unfold stp
  by_cases ho : mO M e k < 2
  · rw [if_pos ho]
    by_cases hr : (rAt b a v s.1 c).1 = mO M e k
    · rw [if_pos hr]
      exact ⟨fun j hj => ⟨(g1 j hj).1, Nat.lt_succ_of_lt (g1 j hj).2⟩, g2⟩
    · rw [if_neg hr]
      have el : (s.2.2 ++ [(s.2.1, adr N (dwn M ch e) i)]).length = s.2.2.length + 1 := by rw [List.length_append]; rfl
      refine ⟨fun j hj => ?_, fun j l hjl hl => ?_⟩
      · dsimp only at hj ⊢
        rw [el] at hj
        by_cases e1 : j = s.2.2.length
        · rw [e1, gt_new]
          exact ⟨⟨e, i, k, he, hi, hk, ho, hn, rfl⟩, Nat.lt_succ_self _⟩
        · rw [gt_old (by omega)]
          exact ⟨(g1 j (by omega)).1, Nat.lt_succ_of_lt (g1 j (by omega)).2⟩
      · dsimp only at hl ⊢
        rw [el] at hl
        rw [gt_old (by omega)]
        by_cases e1 : l = s.2.2.length
        · rw [e1, gt_new]
          exact (g1 j (by omega)).2
        · rw [gt_old (by omega)]
          exact g2 j l hjl (by omega)
  · rw [if_neg ho]
    exact ⟨g1, g2⟩
theorem stp_n {c ad op : Nat} {s : St} : (stp b a v c ad op s).2.1 = s.2.1 + if op < 2 then 1 else 0 := by
  unfold stp
  by_cases h : op < 2
  · rw [if_pos h, if_pos h]
  · rw [if_neg h, if_neg h]; rfl
theorem lgo_vis {e i c : Nat} (he : e < mN M) (hi : i < N) : ∀ d k s, k + d ≤ mC M e → s.2.1 = N * preR M e + i * rdE M e + rE M e k → LGo M N ch s → LGo M N ch (itf (fun k => stp b a v c (adr N (dwn M ch e) i) (mO M e k)) k d s) ∧ (itf (fun k => stp b a v c (adr N (dwn M ch e) i) (mO M e k)) k d s).2.1 = N * preR M e + i * rdE M e + rE M e (k + d) := by
  intro d
  induction d with
  | zero => intro k s _ hn G; exact ⟨G, hn⟩
  | succ d ih =>
    intro k s hk hn G
    have := ih (k + 1) (stp b a v c (adr N (dwn M ch e) i) (mO M e k) s) (by omega) (by
      rw [stp_n, hn]
      show _ = _ + (rE M e k + _)
      omega) (lgo_stp he hi (by omega) hn G)
    rw [show k + (d + 1) = k + 1 + d from by omega]
    exact this
theorem lgo_elm {e : Nat} (he : e < mN M) : ∀ d i s, i + d ≤ N → s.2.1 = N * preR M e + i * rdE M e → LGo M N ch s → LGo M N ch (itf (fun i s => visS b a v M e (mp (adr N (dwn M ch e) i)) (adr N (dwn M ch e) i) s) i d s) ∧ (itf (fun i s => visS b a v M e (mp (adr N (dwn M ch e) i)) (adr N (dwn M ch e) i) s) i d s).2.1 = N * preR M e + (i + d) * rdE M e := by
  intro d
  induction d with
  | zero => intro i s _ hn G; exact ⟨G, hn⟩
  | succ d ih =>
    intro i s hi hn G
    have V := lgo_vis (b := b) (a := a) (v := v) (c := mp (adr N (dwn M ch e) i)) he (show i < N by omega) (mC M e) 0 s (by omega) (by rw [hn]; rfl) G
    rw [Nat.zero_add] at V
    have := ih (i + 1) (visS b a v M e (mp (adr N (dwn M ch e) i)) (adr N (dwn M ch e) i) s) (by omega) (by
      refine Eq.trans V.2 ?_
      show _ + rdE M e = _
      rw [Nat.add_mul, Nat.one_mul]
      omega) V.1
    rw [show i + (d + 1) = i + 1 + d from by omega]
    exact this
theorem lgo_run : ∀ d e s, e + d ≤ mN M → s.2.1 = N * preR M e → LGo M N ch s → LGo M N ch (itf (fun e s => elmS b a v N mp M e (dwn M ch e) s) e d s) := by
  intro d
  induction d with
  | zero => intro e s _ _ G; exact G
  | succ d ih =>
    intro e s he hn G
    have V := lgo_elm (b := b) (a := a) (v := v) (mp := mp) (show e < mN M by omega) N 0 s (by omega) (by rw [hn, Nat.zero_mul]; rfl) G
    rw [Nat.zero_add] at V
    refine ih (e + 1) (elmS b a v N mp M e (dwn M ch e) s) (by omega) (Eq.trans V.2 ?_) V.1
    show _ = N * (preR M e + rdE M e)
    rw [Nat.mul_add]
theorem run_good (x : Nat) : LGo M N ch (runS b a v N mp M ch (x, 0, [])) := by
  unfold runS
  exact lgo_run (mN M) 0 (x, 0, []) (by omega) rfl ⟨fun k hk => absurd hk (Nat.not_lt_zero _), fun j k _ hk => absurd hk (Nat.not_lt_zero _)⟩
/-- the log of a run in a memory -/
theorem rl_good {c : Nat} : (∀ k, k < (rL b a v N mp M ch c).length → GAd M N ch (gt (rL b a v N mp M ch c) k).1 (gt (rL b a v N mp M ch c) k).2) ∧ ∀ j k, j < k → k < (rL b a v N mp M ch c).length → (gt (rL b a v N mp M ch c) j).1 < (gt (rL b a v N mp M ch c) k).1 := by
  have := run_good (b := b) (a := a) (v := v) (N := N) (ch := ch) (M := M) (mp := mp) (stl b a v c)
  exact ⟨fun k hk => (this.1 k hk).1, this.2⟩
end LGS
