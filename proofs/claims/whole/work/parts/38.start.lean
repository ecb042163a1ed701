/-! The state behind the two outer constructors. -/
def Rg (ar : Nat → Nat → Nat) (c0 : Nat → Nat) (S : Nat → Prop) : Prop := ∀ b m, c0 b < 10 → m < nfl (c0 b) → 3 ≤ fk (c0 b) m → S (ar b m)
theorem Rel.adopt {ar : Nat → Nat → Nat} {c0 : Nat → Nat} {sz : Nat} {g : PH} {w : HS} {S : Nat → Prop} (P : Rel ar c0 sz g w) (hS : Rg ar c0 S) {a ci : Nat} {arn : Nat → Nat} {fi : Nat → Int32} {fl : Nat → Int64} {fp : Nat → Option Nat} {fa : Nat → Nat → Int32} {fj : Nat → Nat → Int64} {fq : Nat → Nat → Option Nat} (S' : Nat → Prop) (hci : ci < 10) (hfree : ¬ c0 a < 10) (haz : a < sz)
    (hO : g a = some (.inr (ci, objN ci fi fl fp arn))) (hA : ∀ k, k < nfl ci → 3 ≤ fk ci k → g (arn k) = some (arrN ci k fa fj fq) ∧ arn k < sz ∧ ¬ S (arn k) ∧ S' (arn k)) (hI : ∀ k m, k < nfl ci → 3 ≤ fk ci k → m < nfl ci → 3 ≤ fk ci m → arn k = arn m → k = m) (hSS : ∀ q, S q → S' q) :
    Rel (fun b k => if b = a then arn k else ar b k) (fun b => if b = a then ci else c0 b) sz g (nObj w a ci fi fl fp fa fj fq) ∧ Rg (fun b k => if b = a then arn k else ar b k) (fun b => if b = a then ci else c0 b) S' := by
  have hf : ∀ b, b ≠ a → ∀ cj k, fieldV (nObj w a ci fi fl fp fa fj fq) (fun b k => if b = a then arn k else ar b k) cj b k = fieldV w ar cj b k := by
    intro b h cj k
    unfold fieldV nObj hi hl hp
    simp only [if_neg h]
  have hr : ∀ b, b ≠ a → ∀ cj k, arrC (nObj w a ci fi fl fp fa fj fq) cj b k = arrC w cj b k := by
    intro b h cj k
    unfold arrC nObj ha hj hq
    simp only [if_neg h]
  obtain ⟨p1, p2, p3, p4⟩ := P
  refine ⟨⟨?_, ?_, ?_, ?_⟩, ?_⟩
  · unfold nObj
    dsimp only
    rw [p1]
  · intro b hb
    by_cases e : b = a
    · subst e
      simp only [if_pos]
      refine ⟨hO.trans ?_, haz⟩
      have eo : objN ci fi fl fp arn = objF (nObj w b ci fi fl fp fa fj fq) (fun b' k => if b' = b then arn k else ar b' k) ci b := by
        unfold objN objF
        apply List.map_congr_left
        intro m _
        unfold fieldV nObj hi hl hp
        simp only [if_pos]
      rw [eo]
    · simp only [if_neg e] at hb ⊢
      obtain ⟨q1, q2⟩ := p2 b hb
      refine ⟨?_, q2⟩
      rw [q1]
      have eo : objF w ar (c0 b) b = objF (nObj w a ci fi fl fp fa fj fq) (fun b k => if b = a then arn k else ar b k) (c0 b) b := by
        unfold objF
        apply List.map_congr_left
        intro m _
        exact (hf b e _ m).symm
      rw [eo]
  · intro b k hx hk hf3
    by_cases e : b = a
    · subst e
      simp only [if_pos] at hx hk hf3 ⊢
      obtain ⟨q1, q2, q3, q4⟩ := hA k hk hf3
      refine ⟨q1.trans ?_, q2⟩
      have eo : arrN ci k fa fj fq = arrC (nObj w b ci fi fl fp fa fj fq) ci b k := by
        unfold arrN arrC nObj ha hj hq
        simp only [if_pos]
      rw [eo]
    · simp only [if_neg e] at hx hk hf3 ⊢
      obtain ⟨q1, q2⟩ := p3 b k hx hk hf3
      refine ⟨?_, q2⟩
      rw [q1, hr b e]
  · intro b k d m hb hk hfb hd hm hfd heq
    by_cases e : b = a
    · subst e
      simp only [if_pos] at hb hk hfb heq
      by_cases e2 : d = b
      · subst e2
        simp only [if_pos] at hd hm hfd heq
        exact ⟨rfl, hI k m hk hfb hm hfd heq⟩
      · simp only [if_neg e2] at hd hm hfd heq
        exact absurd (hS d m hd hm hfd) (by rw [← heq]; exact (hA k hk hfb).2.2.1)
    · simp only [if_neg e] at hb hk hfb heq
      by_cases e2 : d = a
      · subst e2
        simp only [if_pos] at hd hm hfd heq
        exact absurd (hS b k hb hk hfb) (by rw [heq]; exact (hA m hm hfd).2.2.1)
      · simp only [if_neg e2] at hd hm hfd heq
        exact p4 b k d m hb hk hfb hd hm hfd heq
  · intro b m hb hm hfb
    by_cases e : b = a
    · subst e
      simp only [if_pos] at hb hm hfb ⊢
      exact (hA m hm hfb).2.2.2
    · simp only [if_neg e] at hb hm hfb ⊢
      exact hSS _ (hS b m hb hm hfb)
/-- no object at all -/
def w0 : HS := (fun _ => 10, fun _ _ => 0, fun _ _ => 0, fun _ _ => none, fun _ _ _ => 0, fun _ _ _ => 0, fun _ _ _ => none)
theorem ten_no (h : (10 : Nat) < 10) : False := absurd h (by decide)
theorem Rel.zero (sz : Nat) (g : PH) : Rel (fun _ _ => 0) (fun _ => 10) sz g w0 := ⟨rfl, fun _ h => (ten_no h).elim, fun _ _ h => (ten_no h).elim, fun _ _ _ _ h => (ten_no h).elim⟩
def fp8 (S : Nat) : Nat → Option Nat := fun k => match k with
  | 0 => some (S + 1)
  | 5 => some (S + 5)
  | 6 => some (S + 8)
  | 7 => some (S + 10)
  | _ => none
def w8 (S : Nat) : HS := nObj (nwX7 (nwX0 (nwX3 (nwX6 w0 (S + 1)) (S + 5)) (S + 8)) (S + 10)) S 8 (fun _ => 0) (fun _ => 0) (fp8 S) (fun _ _ => 0) (fun _ _ => 0) (fun _ _ => none)
def an8 (S : Nat) : Nat → Nat := fun k => match k with
  | 1 => S + 3
  | 3 => S + 4
  | 8 => S + 12
  | _ => 0
set_option maxHeartbeats 4000000 in
set_option maxRecDepth 100000 in
theorem rel8 {S : Nat} {g : PH} (o : g S = some (.inr (8, [.ref (S + 1), .ref (S + 3), .int 0, .ref (S + 4), .int 0, .ref (S + 5), .ref (S + 8), .ref (S + 10), .ref (S + 12), .null, .null, .int 0]))) (a1 : g (S + 1) = some (.inr (6, [.ref (S + 2), .int 0, .int 0, .int 0]))) (a2 : g (S + 2) = some (.inl (1, 200, .inl (fun _ => 0)))) (a3 : g (S + 3) = some (.inl (4, 8, .inr (.inr (.inr (.inr (fun _ => none))))))) (a4 : g (S + 4) = some (.inl (5, 6, .inr (.inr (.inr (.inr (fun _ => none))))))) (a5 : g (S + 5) = some (.inr (3, [.int 2, .int 0, .null, .int (-1), .int (-1), .int (-1), .int (-1), .int 0, .int (-1), .int 0, .ref (S + 6), .ref (S + 7)]))) (a6 : g (S + 6) = some (.inl (0, 6, .inl (fun _ => 0)))) (a7 : g (S + 7) = some (.inl (0, 60, .inl (fun _ => 0)))) (a8 : g (S + 8) = some (.inr (0, [.int 0, .int 0, .ref (S + 9)]))) (a9 : g (S + 9) = some (.inl (6, 20, .inr (.inr (.inr (.inr (fun _ => none))))))) (a10 : g (S + 10) = some (.inr (7, [.int 0, .int 1, .int 0, .int 2, .int 0, .ref (S + 11)]))) (a11 : g (S + 11) = some (.inl (0, 60, .inl (fun _ => 0)))) (a12 : g (S + 12) = some (.inl (0, 48, .inl (fun _ => 0)))) : ∃ ar c0, Rel ar c0 (S + 13) g (w8 S) ∧ c0 S = 8 := by
  have P0 := Rel.zero (S + 13) g
  have R0 : Rg (fun _ _ => 0) (fun _ => 10) (fun _ => False) := fun _ _ h => (ten_no h).elim
  obtain ⟨P1, R1⟩ := P0.adopt (a := (S + 1)) (ci := 6) (arn := anX6 (S + 1)) (fi := (fun _ => 0)) (fl := fun _ => 0) (fp := (fun _ => none)) (fa := fun _ _ => 0) (fj := fun _ _ => 0) (fq := fun _ _ => none) R0 (fun q => q = S + 2) (by decide) (by decide) (by omega) (a1.trans rfl) (fun k hk hf => by
    rcases (show k = 0 ∨ k = 1 ∨ k = 2 ∨ k = 3 by have : k < 4 := hk; omega) with rfl | rfl | rfl | rfl
    · exact ⟨a2, by show S + 2 < S + 13; omega, by exact fun h => h, by show S + 2 = S + 2; omega⟩
    · exact absurd hf (by decide)
    · exact absurd hf (by decide)
    · exact absurd hf (by decide)
    ) (fun k m hk hf hm hfm e => by
    rcases (show k = 0 ∨ k = 1 ∨ k = 2 ∨ k = 3 by have : k < 4 := hk; omega) with rfl | rfl | rfl | rfl <;>
    first | exact absurd hf (by decide) | (rcases (show m = 0 ∨ m = 1 ∨ m = 2 ∨ m = 3 by have : m < 4 := hm; omega) with rfl | rfl | rfl | rfl <;> first | rfl | exact absurd hfm (by decide) | (simp only [anX6] at e; omega)))
    (fun q h => by exact absurd h id)
  obtain ⟨P2, R2⟩ := P1.adopt (a := (S + 5)) (ci := 3) (arn := anX3 (S + 5)) (fi := (fun k => match k with | 0 => 2 | 3 => (-1) | 4 => (-1) | 5 => (-1) | 6 => (-1) | 8 => (-1) | _ => 0)) (fl := fun _ => 0) (fp := (fun _ => none)) (fa := fun _ _ => 0) (fj := fun _ _ => 0) (fq := fun _ _ => none) R1 (fun q => q = S + 2 ∨ q = S + 6 ∨ q = S + 7) (by decide) (by show ¬ (if (S + 5) = (S + 1) then 6 else 10) < 10; rw [if_neg (by omega)]; decide) (by omega) (a5.trans rfl) (fun k hk hf => by
    rcases (show k = 0 ∨ k = 1 ∨ k = 2 ∨ k = 3 ∨ k = 4 ∨ k = 5 ∨ k = 6 ∨ k = 7 ∨ k = 8 ∨ k = 9 ∨ k = 10 ∨ k = 11 by have : k < 12 := hk; omega) with rfl | rfl | rfl | rfl | rfl | rfl | rfl | rfl | rfl | rfl | rfl | rfl
    · exact absurd hf (by decide)
    · exact absurd hf (by decide)
    · exact absurd hf (by decide)
    · exact absurd hf (by decide)
    · exact absurd hf (by decide)
    · exact absurd hf (by decide)
    · exact absurd hf (by decide)
    · exact absurd hf (by decide)
    · exact absurd hf (by decide)
    · exact absurd hf (by decide)
    · exact ⟨a6, by show S + 6 < S + 13; omega, by show ¬ (S + 6 = S + 2); omega, by show S + 6 = S + 2 ∨ S + 6 = S + 6 ∨ S + 6 = S + 7; omega⟩
    · exact ⟨a7, by show S + 7 < S + 13; omega, by show ¬ (S + 7 = S + 2); omega, by show S + 7 = S + 2 ∨ S + 7 = S + 6 ∨ S + 7 = S + 7; omega⟩
    ) (fun k m hk hf hm hfm e => by
    rcases (show k = 0 ∨ k = 1 ∨ k = 2 ∨ k = 3 ∨ k = 4 ∨ k = 5 ∨ k = 6 ∨ k = 7 ∨ k = 8 ∨ k = 9 ∨ k = 10 ∨ k = 11 by have : k < 12 := hk; omega) with rfl | rfl | rfl | rfl | rfl | rfl | rfl | rfl | rfl | rfl | rfl | rfl <;>
    first | exact absurd hf (by decide) | (rcases (show m = 0 ∨ m = 1 ∨ m = 2 ∨ m = 3 ∨ m = 4 ∨ m = 5 ∨ m = 6 ∨ m = 7 ∨ m = 8 ∨ m = 9 ∨ m = 10 ∨ m = 11 by have : m < 12 := hm; omega) with rfl | rfl | rfl | rfl | rfl | rfl | rfl | rfl | rfl | rfl | rfl | rfl <;> first | rfl | exact absurd hfm (by decide) | (simp only [anX3] at e; omega)))
    (fun q h => by have h : q = S + 2 := h; show q = S + 2 ∨ q = S + 6 ∨ q = S + 7; omega)
  obtain ⟨P3, R3⟩ := P2.adopt (a := (S + 8)) (ci := 0) (arn := anX0 (S + 8)) (fi := (fun _ => 0)) (fl := fun _ => 0) (fp := (fun _ => none)) (fa := fun _ _ => 0) (fj := fun _ _ => 0) (fq := fun _ _ => none) R2 (fun q => q = S + 2 ∨ q = S + 6 ∨ q = S + 7 ∨ q = S + 9) (by decide) (by show ¬ (if (S + 8) = (S + 5) then 3 else (if (S + 8) = (S + 1) then 6 else 10)) < 10; rw [if_neg (by omega)]; rw [if_neg (by omega)]; decide) (by omega) (a8.trans rfl) (fun k hk hf => by
    rcases (show k = 0 ∨ k = 1 ∨ k = 2 by have : k < 3 := hk; omega) with rfl | rfl | rfl
    · exact absurd hf (by decide)
    · exact absurd hf (by decide)
    · exact ⟨a9, by show S + 9 < S + 13; omega, by show ¬ (S + 9 = S + 2 ∨ S + 9 = S + 6 ∨ S + 9 = S + 7); omega, by show S + 9 = S + 2 ∨ S + 9 = S + 6 ∨ S + 9 = S + 7 ∨ S + 9 = S + 9; omega⟩
    ) (fun k m hk hf hm hfm e => by
    rcases (show k = 0 ∨ k = 1 ∨ k = 2 by have : k < 3 := hk; omega) with rfl | rfl | rfl <;>
    first | exact absurd hf (by decide) | (rcases (show m = 0 ∨ m = 1 ∨ m = 2 by have : m < 3 := hm; omega) with rfl | rfl | rfl <;> first | rfl | exact absurd hfm (by decide) | (simp only [anX0] at e; omega)))
    (fun q h => by have h : q = S + 2 ∨ q = S + 6 ∨ q = S + 7 := h; show q = S + 2 ∨ q = S + 6 ∨ q = S + 7 ∨ q = S + 9; omega)
  obtain ⟨P4, R4⟩ := P3.adopt (a := (S + 10)) (ci := 7) (arn := anX7 (S + 10)) (fi := (fun k => match k with | 1 => 1 | 3 => 2 | _ => 0)) (fl := fun _ => 0) (fp := (fun _ => none)) (fa := fun _ _ => 0) (fj := fun _ _ => 0) (fq := fun _ _ => none) R3 (fun q => q = S + 2 ∨ q = S + 6 ∨ q = S + 7 ∨ q = S + 9 ∨ q = S + 11) (by decide) (by show ¬ (if (S + 10) = (S + 8) then 0 else (if (S + 10) = (S + 5) then 3 else (if (S + 10) = (S + 1) then 6 else 10))) < 10; rw [if_neg (by omega)]; rw [if_neg (by omega)]; rw [if_neg (by omega)]; decide) (by omega) (a10.trans rfl) (fun k hk hf => by
    rcases (show k = 0 ∨ k = 1 ∨ k = 2 ∨ k = 3 ∨ k = 4 ∨ k = 5 by have : k < 6 := hk; omega) with rfl | rfl | rfl | rfl | rfl | rfl
    · exact absurd hf (by decide)
    · exact absurd hf (by decide)
    · exact absurd hf (by decide)
    · exact absurd hf (by decide)
    · exact absurd hf (by decide)
    · exact ⟨a11, by show S + 11 < S + 13; omega, by show ¬ (S + 11 = S + 2 ∨ S + 11 = S + 6 ∨ S + 11 = S + 7 ∨ S + 11 = S + 9); omega, by show S + 11 = S + 2 ∨ S + 11 = S + 6 ∨ S + 11 = S + 7 ∨ S + 11 = S + 9 ∨ S + 11 = S + 11; omega⟩
    ) (fun k m hk hf hm hfm e => by
    rcases (show k = 0 ∨ k = 1 ∨ k = 2 ∨ k = 3 ∨ k = 4 ∨ k = 5 by have : k < 6 := hk; omega) with rfl | rfl | rfl | rfl | rfl | rfl <;>
    first | exact absurd hf (by decide) | (rcases (show m = 0 ∨ m = 1 ∨ m = 2 ∨ m = 3 ∨ m = 4 ∨ m = 5 by have : m < 6 := hm; omega) with rfl | rfl | rfl | rfl | rfl | rfl <;> first | rfl | exact absurd hfm (by decide) | (simp only [anX7] at e; omega)))
    (fun q h => by have h : q = S + 2 ∨ q = S + 6 ∨ q = S + 7 ∨ q = S + 9 := h; show q = S + 2 ∨ q = S + 6 ∨ q = S + 7 ∨ q = S + 9 ∨ q = S + 11; omega)
  obtain ⟨P5, R5⟩ := P4.adopt (a := S) (ci := 8) (arn := an8 S) (fi := (fun _ => 0)) (fl := fun _ => 0) (fp := (fp8 S)) (fa := fun _ _ => 0) (fj := fun _ _ => 0) (fq := fun _ _ => none) R4 (fun q => q = S + 2 ∨ q = S + 6 ∨ q = S + 7 ∨ q = S + 9 ∨ q = S + 11 ∨ q = S + 3 ∨ q = S + 4 ∨ q = S + 12) (by decide) (by show ¬ (if S = (S + 10) then 7 else (if S = (S + 8) then 0 else (if S = (S + 5) then 3 else (if S = (S + 1) then 6 else 10)))) < 10; rw [if_neg (by omega)]; rw [if_neg (by omega)]; rw [if_neg (by omega)]; rw [if_neg (by omega)]; decide) (by omega) (o.trans rfl) (fun k hk hf => by
    rcases (show k = 0 ∨ k = 1 ∨ k = 2 ∨ k = 3 ∨ k = 4 ∨ k = 5 ∨ k = 6 ∨ k = 7 ∨ k = 8 ∨ k = 9 ∨ k = 10 ∨ k = 11 by have : k < 12 := hk; omega) with rfl | rfl | rfl | rfl | rfl | rfl | rfl | rfl | rfl | rfl | rfl | rfl
    · exact absurd hf (by decide)
    · exact ⟨a3, by show S + 3 < S + 13; omega, by show ¬ (S + 3 = S + 2 ∨ S + 3 = S + 6 ∨ S + 3 = S + 7 ∨ S + 3 = S + 9 ∨ S + 3 = S + 11); omega, by show S + 3 = S + 2 ∨ S + 3 = S + 6 ∨ S + 3 = S + 7 ∨ S + 3 = S + 9 ∨ S + 3 = S + 11 ∨ S + 3 = S + 3 ∨ S + 3 = S + 4 ∨ S + 3 = S + 12; omega⟩
    · exact absurd hf (by decide)
    · exact ⟨a4, by show S + 4 < S + 13; omega, by show ¬ (S + 4 = S + 2 ∨ S + 4 = S + 6 ∨ S + 4 = S + 7 ∨ S + 4 = S + 9 ∨ S + 4 = S + 11); omega, by show S + 4 = S + 2 ∨ S + 4 = S + 6 ∨ S + 4 = S + 7 ∨ S + 4 = S + 9 ∨ S + 4 = S + 11 ∨ S + 4 = S + 3 ∨ S + 4 = S + 4 ∨ S + 4 = S + 12; omega⟩
    · exact absurd hf (by decide)
    · exact absurd hf (by decide)
    · exact absurd hf (by decide)
    · exact absurd hf (by decide)
    · exact ⟨a12, by show S + 12 < S + 13; omega, by show ¬ (S + 12 = S + 2 ∨ S + 12 = S + 6 ∨ S + 12 = S + 7 ∨ S + 12 = S + 9 ∨ S + 12 = S + 11); omega, by show S + 12 = S + 2 ∨ S + 12 = S + 6 ∨ S + 12 = S + 7 ∨ S + 12 = S + 9 ∨ S + 12 = S + 11 ∨ S + 12 = S + 3 ∨ S + 12 = S + 4 ∨ S + 12 = S + 12; omega⟩
    · exact absurd hf (by decide)
    · exact absurd hf (by decide)
    · exact absurd hf (by decide)
    ) (fun k m hk hf hm hfm e => by
    rcases (show k = 0 ∨ k = 1 ∨ k = 2 ∨ k = 3 ∨ k = 4 ∨ k = 5 ∨ k = 6 ∨ k = 7 ∨ k = 8 ∨ k = 9 ∨ k = 10 ∨ k = 11 by have : k < 12 := hk; omega) with rfl | rfl | rfl | rfl | rfl | rfl | rfl | rfl | rfl | rfl | rfl | rfl <;>
    first | exact absurd hf (by decide) | (rcases (show m = 0 ∨ m = 1 ∨ m = 2 ∨ m = 3 ∨ m = 4 ∨ m = 5 ∨ m = 6 ∨ m = 7 ∨ m = 8 ∨ m = 9 ∨ m = 10 ∨ m = 11 by have : m < 12 := hm; omega) with rfl | rfl | rfl | rfl | rfl | rfl | rfl | rfl | rfl | rfl | rfl | rfl <;> first | rfl | exact absurd hfm (by decide) | (simp only [an8] at e; omega)))
    (fun q h => by have h : q = S + 2 ∨ q = S + 6 ∨ q = S + 7 ∨ q = S + 9 ∨ q = S + 11 := h; show q = S + 2 ∨ q = S + 6 ∨ q = S + 7 ∨ q = S + 9 ∨ q = S + 11 ∨ q = S + 3 ∨ q = S + 4 ∨ q = S + 12; omega)
  exact ⟨_, _, P5, if_pos rfl⟩
