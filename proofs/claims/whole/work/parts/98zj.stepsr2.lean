/-! The search: the reference tries the steps. -/
def QRr (w : HS) (m K : Nat) (bk : Nat → Book) (P : PBs) : Prop := RRi w m K bk P (pN P) ∧ pN P ≤ 1200 ∧ 0 < pN P ∧ ∀ i, i < pN P → allF K (pS P i) = false
def QFr (w : HS) (m K : Nat) (bk : Nat → Book) (P : PBs) : Prop := RRi w m K bk P (pN P + 1) ∧ pN P ≤ 1200
def PMb (m : Nat) : Nat → Nat → Prop := fun b k => b = m ∧ (k = 16 ∨ k = 20 ∨ k = 21 ∨ k = 22 ∨ k = 33)
def TMb (w0 w : HS) (m : Nat) : Prop := Fr (PMb m) w0 w ∧ ∀ j, 4 ≤ j → ha w m 16 j = ha w0 m 16 j
theorem TMb.ts {w0 w : HS} {m : Nat} (h : TMb w0 w m) : TSr w0 w m := ⟨h.1.mono (fun b k z => by unfold PMb at z; unfold PSt; omega), h.2⟩
theorem pow_r {w : HS} : ∀ l, l < 4 → 0 < l → FX9_pow w (nI l) = some (nI (3 ^ l), w) := by
  intro l l4 l0
  have : l = 1 ∨ l = 2 ∨ l = 3 := by omega
  unfold FX9_pow
  rcases this with rfl | rfl | rfl
  · exact E_t rfl rfl
  · exact E_f (by decide) (E_t rfl rfl)
  · exact E_f (by decide) (E_f (by decide) rfl)
theorem sRs_d : ∀ k, k < 78 → sRs k / 3 ^ sLn k = sDn k ∧ sRs k < 2 * 3 ^ sLn k ∧ 3 ^ sLn k ≤ 27 := by decide +kernel
theorem nxA_bd {K k : Nat} {bk : Nat → Book} {a : AS} (A : Abd K a) : Abd K (nxA bk a k) := ⟨sdI_le A.1 _, fun i hi' => itS_le (A.2 i hi')⟩
section SF
variable {m K i k : Nat} {bk : Nat → Book} {a : AS} {C v4 : Int32}
theorem sf66 {w0 : HS} {k3 : HS → Nat → Int32 → Int32 → Int32 → Int32 → Option (Int32 × HS)} (Bs : RBs w0 m K bk) (i12 : i ≤ 1200) (Rr : RRow w0 m K i bk a) (k78 : k < 78) (ok : okS k a.1 = true) : ∀ d v n w, v + d = 8 * K → d < n → TMb w0 w m → RWb (fun u => hj w m 33 u) bk (nxA bk a k) (v + 1) → ∃ w' n', FX9_stepsFrom_66 k3 n w m (nI i) (nI (sLn k)) C v4 (nI (sDn k)) (nI (sRs k % 3 ^ sLn k)) (nI v) = FX9_stepsFrom_66 k3 (n' + 1) w' m (nI i) (nI (sLn k)) C v4 (nI (sDn k)) (nI (sRs k % 3 ^ sLn k)) (nI (8 * K)) ∧ TMb w0 w' m ∧ RWb (fun u => hj w' m 33 u) bk (nxA bk a k) (8 * K + 1) := by
  have A' : Abd K (nxA bk a k) := nxA_bd Rr.2
  intro d
  induction d with
  | zero =>
    intro v n w hv hn T Bt
    obtain ⟨n, rfl⟩ : ∃ z, n = z + 1 := ⟨n - 1, by omega⟩
    obtain rfl : v = 8 * K := by omega
    exact ⟨w, n, rfl, T, Bt⟩
  | succ d ih =>
    intro v n w hv hn T Bt
    obtain ⟨n, rfl⟩ : ∃ z, n = z + 1 := ⟨n - 1, by omega⟩
    obtain ⟨h1, h2, h3, h4, h5, h6⟩ := Bs.ts T.ts
    obtain ⟨w1, e1, T1⟩ := machine_r h1 h4 i12 (Rr.fr T.1 (by unfold PMb; omega)) (v := v) (by omega) (h5 v (by omega)) h6 k78 ok
    have r5 := rpt_lt (bk := bk) A' (show v + 1 < 8 * K + 1 by omega)
    have ep : rpt bk (nxA bk a k) (v + 1) = rit bk (nxA bk a k) v := by unfold rpt; rw [if_neg (by omega), show v + 1 - 1 = v by omega]
    obtain ⟨w2, e2, F2, B2⟩ := builds_s (w := w1) (m := m) (bk := bk) (a := nxA bk a k) (c := v + 1) (by rw [T1.1.c]; exact h1) (by omega) (by omega) (Bt.ext (fun u _ => by rw [T1.1.j (by unfold PR; omega)])) (by omega)
    obtain ⟨w', n', e', r⟩ := ih (v + 1) n w2 (by omega) (by omega) ⟨(T.1.trans (T1.1.mono (fun b k z => by unfold PR at z; unfold PMb; omega))).trans (F2.mono (fun b k z => by unfold PMb; omega)), fun j hj => by rw [F2.ar (by omega), T1.2 j hj]; exact T.2 j hj⟩ B2
    refine ⟨w', n', ?_, r⟩
    rw [← e', FX9_stepsFrom_66, h2]
    refine E_f (nI_ge (by omega) (by omega)) (E_b e1 ?_)
    dsimp only
    rw [ep] at e2 r5
    rw [nI_1, nI_j (by omega)]
    exact E_b e2 rfl
end SF
section ON
variable {w : HS} {m K s k C n : Nat} {bk : Nat → Book} {P : PBs}
theorem one_r (Bs : RBs w m K bk) (Q : QRr w m K bk P) (hs : s < pN P) (k78 : k < 78) : ∃ w', TSr w w' m ∧ ((arrP K bk P s k C).1 = 0 → FX9_stepsFrom_3 (n + 1) w m (nI s) (nI (sLn k)) (nI C) (nI (sRs k)) = FX9_stepsFrom_3 n w' m (nI s) (nI (sLn k)) (nI C) (nI (sRs k + 1)) ∧ QRr w' m K bk (arrP K bk P s k C).2) ∧ ((arrP K bk P s k C).1 = 1 → FX9_stepsFrom_3 (n + 1) w m (nI s) (nI (sLn k)) (nI C) (nI (sRs k)) = some (1, w') ∧ QFr w' m K bk (arrP K bk P s k C).2) ∧ ((arrP K bk P s k C).1 ≠ 0 → (arrP K bk P s k C).1 ≠ 1 → FX9_stepsFrom_3 (n + 1) w m (nI s) (nI (sLn k)) (nI C) (nI (sRs k)) = some (-3, w')) := by
  obtain ⟨R, n12, n0, nf⟩ := Q
  obtain ⟨h9, h30, K0, K8, mv, mp⟩ := Bs
  have l0 := (sLn3 k).1
  have l3 := (sLn3 k).2
  obtain ⟨d1, d2, d3⟩ := sRs_d k k78
  have p0 : 0 < 3 ^ sLn k := Nat.pow_pos (by decide)
  obtain ⟨a, ha'⟩ : ∃ a, a = pS P s := ⟨_, rfl⟩
  have Rr : RRow w m K s bk a := by rw [ha']; exact (R.2.2 s hs).1
  have part0 : FX9_partOf w m (nI s) 0 = some (nI (rsd a.1), w) := by
    have := part_r (bk := bk) (a := a) h9 K8 (by omega) Rr (p := 0) (by omega)
    unfold rpt at this
    rw [if_pos rfl] at this
    exact this
  have head : ∀ y, (∀ z, z = (if okS k a.1 = true then nI (rsd (sdI k a.1 (sLn k))) else -1) → (if 0 ≤ z then ((FX9_builds w m (0 : Int32) z.toInt64).bind fun q25 => (FX9_stepsFrom_66 (FX9_stepsFrom_3 n) FUEL q25.2 m (nI s) (nI (sLn k)) (nI C) (nI (sRs k)) (nI (sDn k)) (nI (sRs k % 3 ^ sLn k)) (0 : Int32))) else (FX9_stepsFrom_162 (FX9_stepsFrom_3 n) w m (nI s) (nI (sLn k)) (nI C) (nI (sRs k)))) = y) → FX9_stepsFrom_3 (n + 1) w m (nI s) (nI (sLn k)) (nI C) (nI (sRs k)) = y := by
    intro y hy
    have pw := pow_r (w := w) (sLn k) (by omega) l0
    rw [FX9_stepsFrom_3]
    refine E_b pw ?_
    dsimp only
    rw [l2_, nI_mul]
    refine E_f (nI_ge (by omega) (by omega)) (E_b pw ?_)
    dsimp only
    refine E_k (decide_eq_true (nI_ne0 p0 (by omega))) (E_b pw ?_)
    dsimp only
    refine E_k (decide_eq_true (nI_ne0 p0 (by omega))) (E_b part0 ?_)
    dsimp only
    rw [nI_rem (a := sRs k) (b := 3 ^ sLn k) (by omega) (by omega), nI_dv (a := sRs k) (b := 3 ^ sLn k) (by omega) (by omega), d1]
    refine E_b (soundB_r h9 k78 Rr.2.1) ?_
    exact hy _ rfl
  have skip : FX9_stepsFrom_162 (FX9_stepsFrom_3 n) w m (nI s) (nI (sLn k)) (nI C) (nI (sRs k)) = FX9_stepsFrom_3 n w m (nI s) (nI (sLn k)) (nI C) (nI (sRs k + 1)) := by
    unfold FX9_stepsFrom_162
    rw [nI_1]
  unfold arrP
  rw [← ha']
  cases ok : okS k a.1 with
  | false =>
    refine ⟨w, TSr.refl, ?_⟩
    rw [if_pos rfl]
    refine ⟨fun _ => ⟨?_, R, n12, n0, nf⟩, fun z => absurd z (show ¬ (0:Nat) = 1 by decide), fun z => absurd rfl z⟩
    refine head _ (fun z hz => ?_)
    rw [ok, if_neg (by decide)] at hz
    rw [hz, ← skip]
    exact E_f (by decide) rfl
  | true =>
    rw [if_neg (by decide)]
    have A' : Abd K (nxA bk a k) := nxA_bd Rr.2
    have r3 := rsd3 _ (sdI_le (k := k) Rr.2.1 (sLn k))
    have ep : rpt bk (nxA bk a k) 0 = rsd (sdI k a.1 (sLn k)) := rfl
    obtain ⟨w1, e1, F1, B1⟩ := builds_0 (w := w) (m := m) (bk := bk) (a := nxA bk a k) h9 (by rw [ep]; omega)
    have T1 : TMb w w1 m := ⟨F1.mono (fun b k z => by unfold PMb; omega), fun j _ => by rw [F1.ar (by omega)]⟩
    obtain ⟨w2, n', e2, T2, B2⟩ := sf66 (k3 := FX9_stepsFrom_3 n) (C := nI C) (v4 := nI (sRs k)) ⟨h9, h30, K0, K8, mv, mp⟩ (by omega) Rr k78 ok (8 * K) 0 FUEL w1 (by omega) (fuel_lt (by omega)) T1 B1
    have head2 : ∀ y, FX9_stepsFrom_66 (FX9_stepsFrom_3 n) (n' + 1) w2 m (nI s) (nI (sLn k)) (nI C) (nI (sRs k)) (nI (sDn k)) (nI (sRs k % 3 ^ sLn k)) (nI (8 * K)) = y → FX9_stepsFrom_3 (n + 1) w m (nI s) (nI (sLn k)) (nI C) (nI (sRs k)) = y := by
      intro y hy
      refine head y (fun z hz => ?_)
      rw [ok, if_pos rfl] at hz
      rw [hz, nI_j (by omega)]
      rw [ep] at e1
      refine E_t (nI_le (a := 0) (by omega) (by omega)) (E_b e1 ?_)
      dsimp only
      exact e2.trans hy
    have B2s := RBs.ts ⟨h9, h30, K0, K8, mv, mp⟩ T2.ts
    have R2 : RRi w2 m K bk P (pN P) := R.fr T2.1 (fun k h1 h2 => by unfold PMb; omega)
    obtain ⟨g9, g30, _⟩ := B2s
    obtain ⟨v, ev, hv⟩ := built_r (st := pS P) g9 K8 n12 R2.1 (fun i hi' => (R2.2.2 i hi').1) A' B2
    have eaf := allf_r g9 K8 g30 A' B2
    have skip2 : FX9_stepsFrom_162 (FX9_stepsFrom_3 n) w2 m (nI s) (nI (sLn k)) (nI C) (nI (sRs k)) = FX9_stepsFrom_3 n w2 m (nI s) (nI (sLn k)) (nI C) (nI (sRs k + 1)) := by
      unfold FX9_stepsFrom_162
      rw [nI_1]
    have inn : inP K P (nxA bk a k) = (fsN (fun i => eqS K (pS P i) (nxA bk a k)) 0 (pN P)).isSome := rfl
    rw [← inn] at hv
    obtain ⟨w3, e3, F3, R3⟩ := rri_put (a := nxA bk a k) (s := s) (k := k) (C := C) g9 K8 n12 n0 R2 A' B2
    have cd : (((100 : Int32) * nI (sLn k)) + ((27 : Int32) * nI (sDn k))) + nI (sRs k % 3 ^ sLn k) = nI (cdK k) := by
      rw [show (100 : Int32) = nI 100 from rfl, show (27 : Int32) = nI 27 from rfl, nI_mul, nI_mul, nI_add, nI_add]
      rfl
    have T3 : TSr w w3 m := T2.ts.tr (TSr.o2 (F3.mono (fun b k z => by omega)))
    have nf1 : allF K (nxA bk a k) = true → inP K P (nxA bk a k) = false := by
      intro t
      cases q : inP K P (nxA bk a k) with
      | false => rfl
      | true =>
        rw [inn] at q
        obtain ⟨i, hi'⟩ := Option.isSome_iff_exists.mp q
        obtain ⟨i1, i2, i3⟩ := fsN_some hi'
        have z := nf i (by omega)
        unfold eqS at i3
        have i4 := of_decide_eq_true i3
        unfold allF at t z
        have t' := of_decide_eq_true t
        exact absurd (fun j hj => by rw [i4.2 j hj]; exact t' j hj) (of_decide_eq_false z)
    cases af : allF K (nxA bk a k) with
    | true =>
      rw [if_pos rfl]
      rw [af, if_pos rfl] at eaf
      refine ⟨w3, T3, fun z => absurd z (show ¬ (1:Nat) = 0 by decide), fun _ => ⟨head2 _ ?_, R3, n12⟩, fun _ z => absurd rfl z⟩
      rw [FX9_stepsFrom_66, g30]
      refine E_t (nI_le (by omega) (by omega)) (E_b ev ?_)
      dsimp only
      refine E_t (hv.mpr (nf1 af)) (E_b eaf ?_)
      dsimp only
      refine E_f (by decide) ?_
      unfold FX9_stepsFrom_136
      rw [cd]
      exact E_b e3 (E_f (by decide) rfl)
    | false =>
      rw [if_neg (by decide)]
      rw [af, if_neg (by decide)] at eaf
      cases q : inP K P (nxA bk a k) with
      | true =>
        rw [if_pos rfl]
        refine ⟨w2, T2.ts, fun _ => ⟨head2 _ ?_, R2, n12, n0, nf⟩, fun z => absurd z (show ¬ (0:Nat) = 1 by decide), fun z => absurd rfl z⟩
        rw [FX9_stepsFrom_66, g30, ← skip2]
        refine E_t (nI_le (by omega) (by omega)) (E_b ev ?_)
        exact E_f (fun z => by rw [hv.mp z] at q; cases q) rfl
      | false =>
        rw [if_neg (by decide)]
        by_cases full : 1200 ≤ pN P
        · rw [if_pos full]
          refine ⟨w2, T2.ts, fun z => absurd z (show ¬ (2:Nat) = 0 by decide), fun z => absurd z (show ¬ (2:Nat) = 1 by decide), fun _ _ => head2 _ ?_⟩
          rw [FX9_stepsFrom_66, g30]
          refine E_t (nI_le (by omega) (by omega)) (E_b ev ?_)
          dsimp only
          refine E_t (hv.mpr q) (E_b eaf ?_)
          dsimp only
          refine E_t rfl (E_t ?_ rfl)
          rw [R2.1, show pN P = 1200 by omega]
          rfl
        · rw [if_neg full]
          refine ⟨w3, T3, fun _ => ⟨head2 _ ?_, R3, by show pN P + 1 ≤ 1200; omega, Nat.succ_pos _, fun i hi' => ?_⟩, fun z => absurd z (show ¬ (0:Nat) = 1 by decide), fun z => absurd rfl z⟩
          · rw [FX9_stepsFrom_66, g30]
            refine E_t (nI_le (by omega) (by omega)) (E_b ev ?_)
            dsimp only
            refine E_t (hv.mpr q) (E_b eaf ?_)
            dsimp only
            refine E_t rfl (E_f ?_ ?_)
            · rw [R2.1]
              exact fun z => full (by rw [(nI_eq (a := pN P) (b := 1200) (by omega) (by decide)).mp z]; exact Nat.le_refl _)
            · unfold FX9_stepsFrom_136
              rw [cd]
              refine E_b e3 (E_t rfl ?_)
              unfold FX9_stepsFrom_162
              rw [nI_1]
          · have hi'' : i < pN P + 1 := hi'
            by_cases e : i = pN P
            · have t0 : pS (putP P (nxA bk a k) s k C) (pN P) = nxA bk a k := if_pos rfl
              show allF K (pS (putP P (nxA bk a k) s k C) i) = false
              rw [e, t0]
              exact af
            · show allF K (pS (putP P (nxA bk a k) s k C) i) = false
              rw [put_oldS i (by omega)]
              exact nf i (by omega)
end ON
