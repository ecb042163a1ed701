/-! The calls least and walk. -/
def SEQ (w : HS) (x m kn : Nat) (B : Nat → Book) (sz : Nat) (F8 : Nat → HS → Nat → Option (Int32 × HS × Nat × Nat)) (F9 : HS → Nat → Option (Int32 × HS)) : Prop := ∃ z w1 mc ms w2, F8 sz w x = some (z, w1, mc, ms) ∧ F9 w1 m = some (z, w2) ∧ Ke (PSe w x) w w1 ∧ Quiet m w1 w2 ∧ SEs w1 x kn B ∧ mc ≤ 20 ∧ ((ms = 0 ∧ w1 = w) ∨ (hp w1 x 10 ≠ none ∧ ms ≤ 20115 ∧ (hp w x 10 ≠ none → ms = 0)))
theorem shl9 : ∀ k, k < 9 → ((1 : Int32) <<< ((nI k) &&& 31)) = nI (2 ^ k) ∧ 2 ^ k ≤ 256 ∧ 0 < 2 ^ k ∧ ((1 : Int32) <<< ((nI k) &&& 31)) - (1 : Int32) = nI (2 ^ k - 1) := by decide +kernel
theorem ge_m1 {v : Int32} (h : (-1 : Int32) ≤ v) (n : ¬ v = -1) : ¬ v < 0 := by
  intro z
  have a := Int32.le_iff_toInt_le.mp h
  have b := Int32.lt_iff_toInt_lt.mp z
  refine n (Int32.toInt_inj.mp ?_)
  have c : (-1 : Int32).toInt = -1 := by decide
  have d : (0 : Int32).toInt = 0 := by decide
  omega
section LC
variable {w : HS} {x r m kn mn N sz : Nat} {mp : Nat → Nat} {B : Nat → Book} {MM : Nat → Mch}
theorem are_kinds (C : CX w x r kn mn B MM) (R : RX w m kn mn B MM N mp) (u : Int32) : (∃ z, z < 2 ^ kn ∧ u = nI z ∧ FX8_areKinds w x u = some (1, w) ∧ ∀ w', hc w' m = 9 → hi w' m 7 = hi w m 7 → FX9_areKinds w' m u = some (1, w')) ∨ (FX8_areKinds w x u = some (0, w) ∧ FX9_areKinds w m u = some (0, w)) := by
  have h8 := C.1
  have h9 := R.1
  have h7 := R.2.1
  have kn8 := R.2.2.1
  have h2 : hi w x 2 = nI kn := by obtain ⟨_, _, _, c, _⟩ := id C; first | exact c | (obtain ⟨_, _, _, _, c, _⟩ := id C; exact c)
  obtain ⟨s1, s2, s3, s4⟩ := shl9 kn (by omega)
  have ei := fun w' => isin_c w' u (2 ^ kn - 1) (a := 0) (b := (nI (2 ^ kn - 1)).toInt64) (by decide) rfl (by omega)
  rcases ei w with ⟨k, k1, k2, k3⟩ | ⟨k1, k2⟩
  · left
    refine ⟨k, by omega, k2, ?_, fun w' g9 g7 => ?_⟩
    · unfold FX8_areKinds
      rw [h2, s1, k2]
      exact E_c h8 (E_f (nI_pos (by omega)) (E_f (nI_ge (by omega) (by omega)) rfl))
    · unfold FX9_areKinds
      rw [g7, h7, s4]
      rcases ei w' with ⟨j, j1, j2, j3⟩ | ⟨j1, j2⟩
      · exact E_c g9 (E_b j3 (E_k nar1 rfl))
      · rcases j1 with j1 | j1
        · rw [k2] at j1; exact absurd j1 (nI_pos (by omega))
        · rw [k2] at j1; exact absurd j1 (nI_ge (by omega) (by omega))
  · right
    constructor
    · unfold FX8_areKinds
      rw [h2, s1]
      refine E_c h8 ?_
      by_cases q : u < 0
      · exact E_t q rfl
      · refine E_f q (E_t ?_ rfl)
        have := k1.resolve_left q
        rw [show 2 ^ kn - 1 + 1 = 2 ^ kn by omega] at this
        exact this
    · unfold FX9_areKinds
      rw [h7, s4]
      exact E_c h9 (E_b k2 (E_k nar0 rfl))
theorem se_mi {w1 : HS} (h8 : hc w x = 8) (h9 : hc w m = 9) (K : Ke (PSe w x) w w1) : hc w1 m = 9 ∧ ∀ k, hi w1 m k = hi w m k ∧ ha w1 m k = ha w m k := by
  have n : ∀ k, ¬ PSe w x m k := fun k z => by
    rcases z with z | z
    · rw [h9] at z; cases z
    · rw [z.1, h8] at h9; cases h9
  exact ⟨K.c h9 (by decide), fun k => ⟨K.i h9 (by decide) (n k), K.ar h9 (by decide) (n k)⟩⟩
theorem ans_c {s z : Nat} (I : SIv w s kn B) (A : ANS w s B z) (z256 : z < 256) : FX4_answerOf w s (nI z) = some (srI (srB B z), w) := by
  unfold FX4_answerOf
  rw [nI_clamp (by omega), A.1]
  exact E_c I.1 (E_f (nI_pos (by omega)) (E_f (nI_ge (b := 256) (by omega) (by decide)) (E_i rfl (by omega) (by decide) rfl)))
theorem least_call (C : CX w x r kn mn B MM) (R : RX w m kn mn B MM N mp) (Se : SEs w x kn B) (fs : ∀ b, hc w b < 10 → b < sz) (u : Int32) : SEQ w x m kn B sz (fun sz w x => FX8_least sz w x u) (fun w m => FX9_least w m u) := by
  have h8 := C.1
  have h9 := R.1
  have kn8 := R.2.2.1
  rcases are_kinds C R u with ⟨z, zk, rfl, a8, a9⟩ | ⟨a8, a9⟩
  · have z256 : z < 256 := Nat.lt_of_lt_of_le zk (shl9 kn (by omega)).2.1
    by_cases z0 : z = 0
    · subst z0
      refine ⟨0, w, 0, 0, w, ?_, ?_, Ke.refl, Quiet.refl, Se, by decide, Or.inl ⟨rfl, rfl⟩⟩
      · dsimp only
        unfold FX8_least
        exact E_c h8 (E_b a8 (E_f (show ¬ (1:Int32) = 0 by decide) (E_t rfl rfl)))
      · dsimp only
        unfold FX9_least
        refine E_c h9 (E_b (a9 w h9 rfl) (E_f (show ¬ (1:Int32) = 0 by decide) (E_b (a := (0, w)) ?_ rfl)))
        unfold FX9_leastOf
        exact E_c h9 (E_t rfl rfl)
    · obtain ⟨s, w1, mc, ms, w2, e1, e2, K2, p2, I2, A2, lm, ls, lz⟩ := search_c (z := z) C Se fs (by omega) zk
      obtain ⟨c9, mi⟩ := se_mi h8 h9 K2
      have R2 := R.mi c9 mi
      obtain ⟨w3, e3, Q3, _⟩ := leastOf_r (B := B) (z := z) c9 R2.2.1 kn8 R2.2.2.2.2.2.1 (by omega) zk
      have ea := ans_c I2 A2 z256
      obtain ⟨an, han⟩ : ∃ an, an = srI (srB B z) := ⟨_, rfl⟩
      rw [← han] at ea e3
      refine ⟨an, w2, mc, ms, w3, ?_, ?_, K2, Q3, fun s' hs' => by rw [p2] at hs'; cases hs'; exact I2, by omega, Or.inr ⟨by rw [p2]; exact fun z => (by cases z), ls, lz⟩⟩
      · dsimp only
        unfold FX8_least
        refine E_c h8 (E_b a8 (E_f (show ¬ (1:Int32) = 0 by decide) (E_f (nI_ne0 (by omega) (by omega)) (E_b e1 (bm0 ?_)))))
        dsimp only
        exact E_b rfl (E_b e2 (E_b ea rfl))
      · dsimp only
        unfold FX9_least
        exact E_c c9 (E_b (a9 w2 c9 (mi 7).1) (E_f (show ¬ (1:Int32) = 0 by decide) (E_b e3 rfl)))
  · refine ⟨-1, w, 0, 0, w, ?_, ?_, Ke.refl, Quiet.refl, Se, by decide, Or.inl ⟨rfl, rfl⟩⟩
    · dsimp only
      unfold FX8_least
      exact E_c h8 (E_b a8 (E_t rfl rfl))
    · dsimp only
      unfold FX9_least
      exact E_c h9 (E_b a9 (E_t rfl rfl))
theorem walk_call (C : CX w x r kn mn B MM) (R : RX w m kn mn B MM N mp) (Se : SEs w x kn B) (fs : ∀ b, hc w b < 10 → b < sz) (u v : Int32) : SEQ w x m kn B sz (fun sz w x => FX8_walk sz w x u v) (fun w m => FX9_walk w m u v) := by
  have h8 := C.1
  have h9 := R.1
  have kn8 := R.2.2.1
  have no : FX8_walk sz w x u v = some (-1, w, 0, 0) → FX9_walk w m u v = some (-1, w) → SEQ w x m kn B sz (fun sz w x => FX8_walk sz w x u v) (fun w m => FX9_walk w m u v) := fun e8 e9 => ⟨-1, w, 0, 0, w, e8, e9, Ke.refl, Quiet.refl, Se, by decide, Or.inl ⟨rfl, rfl⟩⟩
  rcases are_kinds C R u with ⟨z, zk, rfl, a8, a9⟩ | ⟨a8, a9⟩
  · have z256 : z < 256 := Nat.lt_of_lt_of_le zk (shl9 kn (by omega)).2.1
    by_cases z0 : z = 0
    · subst z0
      refine no ?_ ?_
      · unfold FX8_walk
        exact E_c h8 (E_b a8 (E_f (show ¬ (1:Int32) = 0 by decide) (E_t rfl rfl)))
      · unfold FX9_walk
        refine E_c h9 ?_
        by_cases q : v < -1
        · exact E_t q rfl
        · refine E_f q (E_b (a9 w h9 rfl) (E_f (show ¬ (1:Int32) = 0 by decide) (E_b (a := (0, w)) ?_ (E_f (show ¬ (0:Int32) < 0 by decide) rfl))))
          unfold FX9_leastOf
          exact E_c h9 (E_t rfl rfl)
    · have nz : ¬ nI z = 0 := nI_ne0 (by omega) (by omega)
      by_cases q : v < -1
      · have q' : ¬ (-1 : Int32) ≤ v := fun y => by
          have a := Int32.le_iff_toInt_le.mp y
          have b := Int32.lt_iff_toInt_lt.mp q
          omega
        refine no ?_ ?_
        · unfold FX8_walk
          exact E_c h8 (E_b a8 (E_f (show ¬ (1:Int32) = 0 by decide) (E_f nz (E_f q' rfl))))
        · unfold FX9_walk
          exact E_c h9 (E_t q rfl)
      · have q' : (-1 : Int32) ≤ v := by
          refine Int32.le_iff_toInt_le.mpr ?_
          by_cases y : v.toInt < (-1 : Int32).toInt
          · exact absurd (Int32.lt_iff_toInt_lt.mpr y) q
          · omega
        obtain ⟨s, w1, mc, ms, w2, e1, e2, K2, p2, I2, A2, lm, ls, lz⟩ := search_c (z := z) C Se fs (by omega) zk
        obtain ⟨c9, mi⟩ := se_mi h8 h9 K2
        have R2 := R.mi c9 mi
        obtain ⟨w3, e3, Q3, Qf⟩ := leastOf_r (B := B) (z := z) c9 R2.2.1 kn8 R2.2.2.2.2.2.1 (by omega) zk
        have ea := ans_c I2 A2 z256
        obtain ⟨an, han⟩ : ∃ an, an = srI (srB B z) := ⟨_, rfl⟩
        rw [← han] at ea e3
        have fin : ∀ y w4, (if 0 < an then (if v = (-1 : Int32) then ((FX4_walkedOp w2 s (nI z) (an - (1 : Int32))).bind fun q33 => (some (((1 : Int32) + (q33.1 / (100 : Int32))), q33.2, 0, 0))) else (if an ≤ v then (some ((-2 : Int32), w2, 0, 0)) else ((FX4_walkedOp w2 s (nI z) v).bind fun q38 => (some (q38.1, q38.2, 0, 0))))) else (some ((-1 : Int32), w2, 0, 0))) = some (y, w2, 0, 0) → (if 0 < an then (FX9_walk_33 FUEL w3 m v (0 : Int32) ((hi w3 m 29) - (1 : Int32))) else (some ((-1 : Int32), w3))) = some (y, w4) → Quiet m w2 w4 → SEQ w x m kn B sz (fun sz w x => FX8_walk sz w x (nI z) v) (fun w m => FX9_walk w m (nI z) v) := by
          intro y w4 y8 y9 Q4
          refine ⟨y, w2, mc, ms, w4, ?_, ?_, K2, Q4, fun s' hs' => by rw [p2] at hs'; cases hs'; exact I2, by omega, Or.inr ⟨by rw [p2]; exact fun z => (by cases z), ls, lz⟩⟩
          · dsimp only
            unfold FX8_walk
            refine E_c h8 (E_b a8 (E_f (show ¬ (1:Int32) = 0 by decide) (E_f nz (E_t q' (E_b e1 (bm0 ?_))))))
            dsimp only
            exact E_b rfl (E_b e2 (E_b ea y8))
          · dsimp only
            unfold FX9_walk
            exact E_c c9 (E_f q (E_b (a9 w2 c9 (mi 7).1) (E_f (show ¬ (1:Int32) = 0 by decide) (E_b e3 y9))))
        by_cases o : (srB B z).1 = 1
        · obtain ⟨C0, C9, _⟩ := A2.2 o
          have F := srB_fd o
          obtain ⟨Rr, n12⟩ := Qf o
          have wk := fun k hk => walked_c (w := w2) (s := s) I2.1 z256 A2 o (k := k) hk
          have eI : srI (srB B z) = nI (srB B z).2.1 := by unfold srI; rw [if_neg (by omega), if_pos o]
          rw [han, eI] at fin
          obtain ⟨Cc, hCc⟩ : ∃ Cc, Cc = (srB B z).2.1 := ⟨_, rfl⟩
          obtain ⟨P, hP⟩ : ∃ P, P = (srB B z).2.2 := ⟨_, rfl⟩
          rw [← hCc] at fin C0 C9 F wk
          rw [← hP] at F Rr n12 wk
          have g9 : hc w3 m = 9 := by rw [Q3.1.c]; exact c9
          have E9 := elP_le F.2.2.1 F.2.1 (pN P) (by omega)
          rw [F.2.2.2] at E9
          have hv : v = -1 ∨ ∃ t, v = nI t ∧ t < 2 ^ 31 := by
            by_cases y : v = -1
            · exact Or.inl y
            · obtain ⟨t, t1, t2⟩ := nI_of (ge_m1 q' y)
              exact Or.inr ⟨t, t2, t1⟩
          obtain ⟨w4, e4, F4⟩ := walk33 (v := v) (E := elP P (pN P)) F C9 g9 (kK_pos z z256 (by omega)).2 n12 Rr rfl (by omega) hv (elP P (pN P)) 0 FUEL w3 (by omega) (fuel_lt (by omega)) Fr.refl (fun i hi' => absurd hi' (Nat.not_lt_zero _))
          have i29 : hi w3 m 29 - (1 : Int32) = nI (chn P 0) := by
            rw [Rr.1, l1_, nI_subc (by omega)]
            rfl
          have Q4 : Quiet m w2 w4 := Q3.trans ⟨F4.mono (fun b k z => by unfold PX; omega), by rw [F4.ar (by omega)], by rw [F4.i (by omega)]⟩
          have pos : (0 : Int32) < nI Cc := nI_lt (a := 0) C0 (by omega)
          refine fin (wAn P (elP P (pN P)) Cc v) w4 (E_t pos ?_) (E_t pos ?_) Q4
          · by_cases y : v = -1
            · have eA : wAn P (elP P (pN P)) Cc v = nI (elP P (pN P)) := if_pos y
              rw [eA, l1_, nI_subc (by omega)]
              refine E_t y (E_b (wk (Cc - 1) (by omega)) ?_)
              dsimp only
              have n0 := F.1
              have mo := pO_mono F.2.2.1 n0 (show pN P < pN P + 1 by omega)
              rw [F.2.2.2] at mo
              have es := elP_s F.2.2.1 n0 (show pN P < pN P + 1 by omega)
              have lk := F.2.2.1 (pN P) n0 (by omega)
              have eo := opP_s (t := Cc - 1) F.2.2.1 n0 (show pN P < pN P + 1 by omega)
              rw [if_neg (by omega)] at eo
              have o4 := opc4 (k := pB P (pN P)) (u := Cc - 1 - pO P (pP P (pN P))) ((Rr.2.2 (pP P (pN P)) (by omega)).1.2.1)
              have dd := sDn2 (pB P (pN P))
              unfold fldV at eo
              rw [eo, wk_f dd o4, l100_, nI_dv (a := 100 * elP P (pP P (pN P)) + (10 * sDn (pB P (pN P)) + opc (pB P (pN P)) (pS P (pP P (pN P))).1 (Cc - 1 - pO P (pP P (pN P))))) (b := 100) (by omega) (by decide), show (100 * elP P (pP P (pN P)) + (10 * sDn (pB P (pN P)) + opc (pB P (pN P)) (pS P (pP P (pN P))).1 (Cc - 1 - pO P (pP P (pN P))))) / 100 = elP P (pP P (pN P)) by omega, nI_add, es, Nat.add_comm]
            · obtain ⟨t, t2, t1⟩ := hv.resolve_left y
              by_cases l : t < Cc
              · have eA : wAn P (elP P (pN P)) Cc v = nI (wkV (opP P (pN P) t)) := by
                  unfold wAn
                  rw [if_neg y, t2, if_pos (nI_lt l (by omega)), nI_clamp t1]
                rw [eA]
                refine E_f y (E_f (by rw [t2]; exact nI_ge l (by omega)) ?_)
                rw [t2]
                exact E_b (wk t l) rfl
              · have eA : wAn P (elP P (pN P)) Cc v = -2 := by
                  unfold wAn
                  rw [if_neg y, t2, if_neg (nI_nlt (by omega) (by omega))]
                rw [eA]
                exact E_f y (E_t (by rw [t2]; exact nI_le (by omega) (by omega)) rfl)
          · rw [i29]
            exact e4
        · have np : ¬ 0 < an := by
            rw [han]
            have := (srI_pos (r := srB B z) (fun o' => absurd o' o)).mpr o
            intro y
            have a := Int32.le_iff_toInt_le.mp this
            have b := Int32.lt_iff_toInt_lt.mp y
            omega
          exact fin (-1) w3 (E_f np rfl) (E_f np rfl) Q3
  · refine no ?_ ?_
    · unfold FX8_walk
      exact E_c h8 (E_b a8 (E_t rfl rfl))
    · unfold FX9_walk
      refine E_c h9 ?_
      by_cases q : v < -1
      · exact E_t q rfl
      · exact E_f q (E_b a9 (E_t rfl rfl))
end LC
