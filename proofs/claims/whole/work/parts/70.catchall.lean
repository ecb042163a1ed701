/-! The four questions on what is caught: the same answers. -/
theorem cnt_all {f : Nat → Bool} : ∀ {d i : Nat}, cntF f i d = d ↔ ∀ r, i ≤ r → r < i + d → f r = true := by
  intro d
  induction d with
  | zero => intro i; exact ⟨fun _ r h1 h2 => by omega, fun _ => rfl⟩
  | succ d ih =>
    intro i
    have le := cntF_le (f := f) (d := d) (i := i + 1)
    cases h : f i with
    | true =>
      rw [cnt_t h]
      constructor
      · intro q r h1 h2
        by_cases e : r = i
        · subst e; exact h
        · exact (ih (i := i + 1)).mp (by omega) r (by omega) (by omega)
      · intro q
        have := (ih (i := i + 1)).mpr (fun r h1 h2 => q r (by omega) (by omega))
        omega
    | false =>
      rw [cnt_f h]
      constructor
      · intro q; omega
      · intro q
        have := q i (Nat.le_refl _) (by omega)
        rw [h] at this
        cases this
theorem pla_a : ∀ N, N < 7 → ∀ a, a < N → ∀ v, v < N → a ≠ v → a * (N - 1) + (if v < a then v else v - 1) < N * (N - 1) ∧ (a * (N - 1) + (if v < a then v else v - 1)) / (N - 1) = a ∧ (if (a * (N - 1) + (if v < a then v else v - 1)) % (N - 1) < a then (a * (N - 1) + (if v < a then v else v - 1)) % (N - 1) else (a * (N - 1) + (if v < a then v else v - 1)) % (N - 1) + 1) = v := by decide +kernel
theorem place_of {b : Book} {N a v : Nat} (hp : pr b = true) (h6 : N ≤ 6) (ha : a < N) (hv : v < N) (hav : a ≠ v) : ∃ p, p < nP b N ∧ pA b N p = a ∧ pV b N p = v := by
  obtain ⟨q1, q2, q3⟩ := pla_a N (by omega) a ha v hv hav
  refine ⟨a * (N - 1) + (if v < a then v else v - 1), ?_, ?_, ?_⟩
  · unfold nP; rw [if_pos hp]; exact q1
  · unfold pA; rw [if_pos hp]; exact q2
  · unfold pV; rw [if_pos hp, q2]; exact q3
theorem onT_3 (b : Book) (M : Mch) : onT b M = 3 ↔ seen b true M = true ∧ seen b false M = true := by
  unfold onT
  cases seen b true M <;> cases seen b false M <;> simp
theorem caF_eq {b : Book} {N p : Nat} {mp ad : Nat → Nat} {M : Mch} {nr : Bool} (W : WB b) (hM : WM M) (h2 : 2 ≤ N) (h6 : N ≤ 6) (hp : p < nP b N) (A : MPok N mp ad) : caF b N mp M nr p = (ask b N nr p && seen b (ordP b N ad p) M) := by
  unfold caF
  rw [catch_eq W hM h2 h6 hp A]
theorem cov_eq {b : Book} {N : Nat} {mp ad : Nat → Nat} {M : Mch} (W : WB b) (hM : WM M) (h2 : 2 ≤ N) (h6 : N ≤ 6) (A : MPok N mp ad) : cntF (caF b N mp M false) 0 (nP b N) = nP b N ↔ onT b M = 3 := by
  rw [cnt_all, onT_3]
  constructor
  · intro h
    have key : ∀ p, p < nP b N → seen b (ordP b N ad p) M = true := by
      intro p hp
      have := h p (Nat.zero_le _) (by omega)
      rw [caF_eq W hM h2 h6 hp A, ask_f] at this
      simpa using this
    cases hpr : pr b with
    | false =>
      have n0 : 0 < nP b N := by unfold nP; rw [if_neg (by rw [hpr]; decide)]; omega
      have := key 0 n0
      rw [seen_ord W hM hpr] at this
      exact ⟨this, by rw [seen_ord W hM hpr]; exact this⟩
    | true =>
      have adm : ∀ i, i < N → ad (mp i) = i := by
        intro i hi
        obtain ⟨a1, a2⟩ := A.2.2.2 _ (A.2.1 i hi)
        exact A.2.2.1 _ (by omega) _ (by omega) a2
      have ne : mp 0 ≠ mp 1 := by
        intro q
        have := A.2.2.1 0 (by decide) 1 (by decide) q
        omega
      constructor
      · obtain ⟨p, p1, p2, p3⟩ := place_of (N := N) hpr h6 (A.2.1 0 (by omega)) (A.2.1 1 (by omega)) ne
        have := key p p1
        rw [show ordP b N ad p = true from by
          unfold ordP aT vT
          rw [if_pos hpr, p2, p3, adm 0 (by omega), adm 1 (by omega)]
          rfl] at this
        exact this
      · obtain ⟨p, p1, p2, p3⟩ := place_of (N := N) hpr h6 (A.2.1 1 (by omega)) (A.2.1 0 (by omega)) (Ne.symm ne)
        have := key p p1
        rw [show ordP b N ad p = false from by
          unfold ordP aT vT
          rw [if_pos hpr, p2, p3, adm 0 (by omega), adm 1 (by omega)]
          rfl] at this
        exact this
  · intro ⟨h1, h3⟩ p _ hp
    rw [caF_eq W hM h2 h6 (by omega) A, ask_f]
    cases ordP b N ad p with
    | true => rw [h1]; rfl
    | false => rw [h3]; rfl
section RXs
variable {w : HS} {m kn mn N : Nat} {B : Nat → Book} {MM : Nat → Mch} {mp ad : Nat → Nat}
/-- reference: kinds, marches, the memory's size and layout -/
def RX (w : HS) (m kn mn : Nat) (B : Nat → Book) (MM : Nat → Mch) (N : Nat) (mp : Nat → Nat) : Prop := hc w m = 9 ∧ hi w m 7 = nI kn ∧ kn ≤ 8 ∧ hi w m 11 = nI mn ∧ mn ≤ 6 ∧ (∀ k, k < kn → RK w m k (B k) ∧ WB (B k)) ∧ (∀ k, k < mn → RMa w m k (MM k) ∧ WM (MM k)) ∧ hi w m 15 = nI N ∧ 2 ≤ N ∧ N ≤ 6 ∧ ∀ i, i < 6 → ha w m 16 (4 + i) = nI (mp i) ∧ mp i < 6
theorem RX.qu {w' : HS} (h : RX w m kn mn B MM N mp) (q : Quiet m w w') : RX w' m kn mn B MM N mp := by
  obtain ⟨h1, h2, h3, h4, h5, h6, h7, h8, h9, h10, h11⟩ := h
  refine ⟨by rw [q.1.c]; exact h1, by rw [q.1.i (by unfold PX; omega)]; exact h2, h3, by rw [q.1.i (by unfold PX; omega)]; exact h4, h5, fun k hk => ⟨(h6 k hk).1.fr q.1 (by unfold PX; omega) (by unfold PX; omega), (h6 k hk).2⟩, fun k hk => ⟨(h7 k hk).1.fr q.1 (by unfold PX; omega) (by unfold PX; omega), (h7 k hk).2⟩, by rw [q.2.2]; exact h8, h9, h10, by rw [q.2.1]; exact h11⟩
theorem rx_kind (h : RX w m kn mn B MM N mp) {k : Nat} (hk : k < kn) : FX9_isKind w m (nI k) = some (1, w) := by
  have := h.2.2.1
  unfold FX9_isKind
  exact E_c h.1 (E_f (nI_pos (by omega)) (E_f (by rw [h.2.1]; exact nI_ge hk (by omega)) rfl))
theorem rx_nokind (h : RX w m kn mn B MM N mp) {u : Int32} (hu : u < 0 ∨ nI kn ≤ u) : FX9_isKind w m u = some (0, w) := by
  unfold FX9_isKind
  refine E_c h.1 ?_
  by_cases h0 : u < 0
  · exact E_t h0 rfl
  · exact E_f h0 (E_t (by rw [h.2.1]; exact hu.resolve_left h0) rfl)
theorem rx_march (h : RX w m kn mn B MM N mp) {k : Nat} (hk : k < mn) : FX9_isMarch w m (nI k) = some (1, w) := by
  have := h.2.2.2.2.1
  unfold FX9_isMarch
  exact E_c h.1 (E_f (nI_pos (by omega)) (E_f (by rw [h.2.2.2.1]; exact nI_ge hk (by omega)) rfl))
theorem rx_nomarch (h : RX w m kn mn B MM N mp) {u : Int32} (hu : u < 0 ∨ nI mn ≤ u) : FX9_isMarch w m u = some (0, w) := by
  unfold FX9_isMarch
  refine E_c h.1 ?_
  by_cases h0 : u < 0
  · exact E_t h0 rfl
  · exact E_f h0 (E_t (by rw [h.2.2.2.1]; exact hu.resolve_left h0) rfl)
theorem RX.rg (h : RX w m kn mn B MM N mp) {k mi : Nat} (hk : k < kn) (hm : mi < mn) : RG w m k mi (B k) (MM mi) N mp := by
  obtain ⟨h1, h2, h3, h4, h5, h6, h7, h8, h9, h10, h11⟩ := h
  exact ⟨h1, (h6 k hk).1, by omega, (h6 k hk).2, (h7 mi hm).1, by omega, (h7 mi hm).2, h8, h10, fun i hi => h11 i (by omega)⟩
theorem RG.ka {k mi : Nat} {b : Book} {M : Mch} (h : RG w m k mi b M N mp) : RG (kA w m) m k mi b M N mp := by
  obtain ⟨g1, g2, g3, g4, g5, g6, g7, g8, g9, g10⟩ := h
  have f := kA_fr w m
  exact ⟨by rw [f.c]; exact g1, g2.fr f (by omega) (by omega), g3, g4, g5.fr f (by omega) (by omega), g6, g7, by rw [f.i (by omega)]; exact g8, g9, fun i hi => by rw [f.ar (by omega)]; exact g10 i hi⟩
theorem rx_caught (h : RX w m kn mn B MM N mp) {k mi : Nat} (hk : k < kn) (hm : mi < mn) {nr : Bool} {vn : Int32} (hn : vn = 0 ↔ nr = false) : Rn (FX9_caught w m (nI mi) (nI k) vn) (fun z w' => z = nI (cntF (caF (B k) N mp (MM mi) nr) 0 (nP (B k) N)) ∧ Quiet m w w') := by
  have G := h.rg hk hm
  have n30 : nP (B k) N ≤ 30 := by
    unfold nP
    have := nP_le N (by have := h.2.2.2.2.2.2.2.2.2.1; omega) h.2.2.2.2.2.2.2.2.1
    have := h.2.2.2.2.2.2.2.2.2.1
    split <;> omega
  unfold FX9_caught
  refine Rn.okc h.1 (Rn.eq (rx_march h hm) (Rn.f (show ¬ (1 : Int32) = 0 by decide) (Rn.eq (rx_kind h hk) (Rn.f (show ¬ (1 : Int32) = 0 by decide) (Rn.eq (ref_keeps h.1) ?_)))))
  refine (ref_caught_loop (w0 := w) G.ka h.2.2.2.2.2.2.2.2.1 hn (nP (B k) N) 0 FUEL 0 (kA w m) (by omega) (fuel_lt (by omega)) TC.refl).mono ?_
  intro z w' hh
  exact ⟨by rw [hh.1, Nat.zero_add], hh.2⟩
theorem or_0 (s : Int32) : s ||| (0 : Int32) = s := by
  apply Int32.toBitVec_inj.mp
  rw [Int32.toBitVec_or]
  simp
theorem rx_covers_loop (A : MPok N mp ad) {mi : Nat} {w0 : HS} (hm : mi < mn) : ∀ d i n s w, i + d = kn → d < n → Quiet m w0 w → RX w m kn mn B MM N mp → Rn (FX9_covers_14 n w m (nI mi) s (nI i)) (fun z w' => z = covI (fun k => decide (onT (B k) (MM mi) = 3)) i d s ∧ Quiet m w0 w') := by
  intro d
  induction d with
  | zero =>
    intro i n s w he hn q h
    obtain ⟨n, rfl⟩ : ∃ z, n = z + 1 := ⟨n - 1, by omega⟩
    have k8 := h.2.2.1
    rw [FX9_covers_14, h.2.1]
    exact Rn.t (nI_le (by omega) (by omega)) (Rn.ret ⟨rfl, q⟩)
  | succ d ih =>
    intro i n s w he hn q h
    obtain ⟨n, rfl⟩ : ∃ z, n = z + 1 := ⟨n - 1, by omega⟩
    have k8 := h.2.2.1
    have h2 := h.2.2.2.2.2.2.2.2.1
    have h6 := h.2.2.2.2.2.2.2.2.2.1
    have hi : i < kn := by omega
    have W := (h.2.2.2.2.2.1 i hi).2
    have hM := (h.2.2.2.2.2.2.1 mi hm).2
    have n30 : nP (B i) N ≤ 30 := by
      unfold nP
      have := nP_le N (by omega) h2
      split <;> omega
    have cl := cntF_le (f := caF (B i) N mp (MM mi) false) (d := nP (B i) N) (i := 0)
    rw [FX9_covers_14, h.2.1]
    refine Rn.f (nI_ge (by omega) (by omega)) ((rx_caught h hi hm (nr := false) (vn := 0) ⟨fun _ => rfl, fun _ => rfl⟩).call ?_)
    intro z w' ⟨h1, q1⟩
    have h' := h.qu q1
    refine Rn.eq (ref_nP h'.1 (h'.2.2.2.2.2.1 i hi).1 W (by omega) h'.2.2.2.2.2.2.2.1 h2) ?_
    dsimp only
    rw [h1]
    unfold FX9_covers_45
    rw [nI_1 i, or_0]
    have ce := cov_eq W hM h2 h6 A
    by_cases hc : cntF (caF (B i) N mp (MM mi) false) 0 (nP (B i) N) = nP (B i) N
    · refine Rn.t (by rw [hc]) ?_
      refine (ih (i + 1) n _ w' (by omega) (by omega) (q.trans q1) h').mono (fun z w2 hh => ⟨?_, hh.2⟩)
      rw [hh.1]
      unfold covI
      rw [if_pos (decide_eq_true (ce.mp hc))]
      cases d <;> rfl
    · refine Rn.f (fun y => hc ((nI_eq (by omega) (by omega)).mp y)) ?_
      refine (ih (i + 1) n _ w' (by omega) (by omega) (q.trans q1) h').mono (fun z w2 hh => ⟨?_, hh.2⟩)
      rw [hh.1]
      unfold covI
      rw [if_neg (fun y => hc (ce.mpr (of_decide_eq_true y)))]
      cases d <;> rfl
end RXs
