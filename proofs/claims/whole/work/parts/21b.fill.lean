/-! Arrays.fill over the state. -/
def filR (w : HS) (a ci k : Nat) (x : Int32) : HS := setR w a k (fun j => if j < fln ci k then x else ha w a k j)
theorem up2_id {α : Type} (f : Nat → Nat → α) (a k : Nat) : up2 f a k (f a k) = f := by
  funext b m
  unfold up2
  split
  · rename_i h; rw [h.1, h.2]
  · rfl
theorem up2_up2 {α : Type} (f : Nat → Nat → α) (a k : Nat) (x y : α) : up2 (up2 f a k x) a k y = up2 f a k y := by
  funext b m
  unfold up2
  split <;> rfl
theorem setR_id (w : HS) (a k : Nat) : setR w a k (ha w a k) = w := by
  unfold setR
  have : up2 w.2.2.2.2.1 a k (ha w a k) = w.2.2.2.2.1 := up2_id _ _ _
  rw [this]
theorem setR_setR (w : HS) (a k : Nat) (f h : Nat → Int32) : setR (setR w a k f) a k h = setR w a k h := by
  unfold setR
  dsimp only
  rw [up2_up2]
theorem ha_setR (w : HS) (a k : Nat) (f : Nat → Int32) : ha (setR w a k f) a k = f := up2_same _ _ _ _
theorem inb_nI {i n : Nat} (h : i < n) (hn : n < 2 ^ 31) : inb (nI i) n = true := by
  unfold inb
  exact decide_eq_true (vp_in_nI h hn)
theorem fil_loop {ar : Nat → Nat → Nat} {c0 : Nat → Nat} {sz a k ci : Nat} {x : Int32} (h : c0 a = ci) (h10 : ci < 10) (hk : k < nfl ci) (hf : fk ci k = 3) (hd : fkd ci k = 0) (hL : fln ci k < 2 ^ 31) :
    ∀ (d i n : Nat) (g : PH) (w : HS), Rel ar c0 sz g w → i + d = fln ci k → d < n → ∃ g', fJ7_fill_53178_5 n g (ar a k) x (nI i) (nI (fln ci k)) = some ((), g') ∧ Rel ar c0 sz g' (setR w a k (fun j => if i ≤ j ∧ j < fln ci k then x else ha w a k j)) := by
  intro d
  induction d with
  | zero =>
    intro i n g w P e hn
    obtain ⟨m, rfl⟩ : ∃ m, n = m + 1 := ⟨n - 1, by omega⟩
    refine ⟨g, ?_, ?_⟩
    · rw [fJ7_fill_53178_5, if_pos (nI_le (by omega) (by omega))]
    · have e2 : (fun j => if i ≤ j ∧ j < fln ci k then x else ha w a k j) = ha w a k := by
        funext j
        rw [if_neg (by omega)]
      rw [e2, setR_id]
      exact P
  | succ d ih =>
    intro i n g w P e hn
    obtain ⟨m, rfl⟩ : ∃ m, n = m + 1 := ⟨n - 1, by omega⟩
    obtain ⟨g1, e1, P1⟩ := P.sI (kd := 0) (j := nI i) (n := i) (x := x) h h10 hk hf hd (inb_nI (by omega) hL) (nI_clamp (by omega)) rfl
    obtain ⟨g2, e2, P2⟩ := ih (i + 1) m g1 _ P1 (by omega) (by omega)
    refine ⟨g2, ?_, ?_⟩
    · rw [fJ7_fill_53178_5, if_neg (nI_ge (by omega) hL), e1, Option.bind_some, nI_1]
      exact e2
    · have e3 : setR (setA w a k i x) a k (fun j => if i + 1 ≤ j ∧ j < fln ci k then x else ha (setA w a k i x) a k j) = setR w a k (fun j => if i ≤ j ∧ j < fln ci k then x else ha w a k j) := by
        unfold setA
        rw [setR_setR, ha_setR]
        congr 1
        funext j
        by_cases hj : j = i
        · subst hj
          rw [if_neg (by omega), if_pos ⟨Nat.le_refl _, by omega⟩]
          unfold upd
          rw [if_pos rfl]
        · by_cases hc : i ≤ j ∧ j < fln ci k
          · rw [if_pos (by omega), if_pos hc]
          · rw [if_neg (by omega), if_neg hc]
            unfold upd
            rw [if_neg hj]
      rw [← e3]
      exact P2
theorem Rel.fil {ar : Nat → Nat → Nat} {c0 : Nat → Nat} {sz a k ci : Nat} {g : PH} {w w' : HS} {x : Int32} (P : Rel ar c0 sz g w) (h : c0 a = ci) (h10 : ci < 10) (hk : k < nfl ci) (hf : fk ci k = 3) (hd : fkd ci k = 0) (hL : fln ci k < 9999) (e : w' = filR w a ci k x) : ∃ g', fJ7_fill_53178 g (ar a k) x = some ((), g') ∧ Rel ar c0 sz g' w' := by
  obtain ⟨g1, e1, P1⟩ := fil_loop (x := x) h h10 hk hf hd (by omega) (fln ci k) 0 FUEL g w P (by omega) (Nat.lt_of_lt_of_le hL (Nat.le_of_ble_eq_true rfl))
  refine ⟨g1, ?_, ?_⟩
  · unfold fJ7_fill_53178
    rw [P.dN (j := nI (fln ci k)) h h10 hk (by omega) (by omega) rfl, Option.bind_some]
    exact e1
  · rw [e]
    unfold filR
    have e2 : (fun j => if j < fln ci k then x else ha w a k j) = (fun j => if 0 ≤ j ∧ j < fln ci k then x else ha w a k j) := by
      funext j
      by_cases hj : j < fln ci k
      · rw [if_pos hj, if_pos ⟨Nat.zero_le _, hj⟩]
      · rw [if_neg hj, if_neg (by omega)]
    rw [e2]
    exact P1
