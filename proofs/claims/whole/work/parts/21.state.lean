/-! The state of all objects: fields and arrays by object and field; no address of an array stands in it. -/
def fk : Nat → Nat → Nat
  | 0, 2 => 5
  | 1, 2 => 3
  | 1, 3 => 3
  | 1, 4 => 3
  | 1, 5 => 3
  | 1, 6 => 3
  | 1, 7 => 3
  | 1, 8 => 3
  | 2, 5 => 3
  | 2, 6 => 3
  | 2, 7 => 3
  | 2, 8 => 3
  | 3, 2 => 2
  | 3, 10 => 3
  | 3, 11 => 3
  | 4, 0 => 3
  | 4, 1 => 4
  | 4, 2 => 3
  | 4, 3 => 3
  | 4, 4 => 3
  | 4, 5 => 3
  | 4, 7 => 3
  | 4, 10 => 3
  | 4, 11 => 3
  | 4, 12 => 3
  | 4, 13 => 3
  | 4, 14 => 3
  | 4, 15 => 3
  | 5, 2 => 3
  | 5, 3 => 3
  | 5, 4 => 3
  | 5, 5 => 4
  | 6, 0 => 3
  | 7, 5 => 3
  | 8, 0 => 2
  | 8, 1 => 5
  | 8, 3 => 5
  | 8, 5 => 2
  | 8, 6 => 2
  | 8, 7 => 2
  | 8, 8 => 3
  | 8, 9 => 2
  | 8, 10 => 2
  | 9, 0 => 3
  | 9, 5 => 3
  | 9, 6 => 3
  | 9, 8 => 3
  | 9, 9 => 3
  | 9, 10 => 3
  | 9, 12 => 3
  | 9, 16 => 3
  | 9, 17 => 3
  | 9, 18 => 3
  | 9, 21 => 3
  | 9, 25 => 4
  | 9, 26 => 3
  | 9, 27 => 3
  | 9, 28 => 3
  | 9, 31 => 3
  | 9, 32 => 3
  | 9, 33 => 4
  | 9, 34 => 3
  | 9, 35 => 3
  | 9, 37 => 3
  | 9, 38 => 3
  | 9, 40 => 1
  | _, _ => 0
def fkd : Nat → Nat → Nat
  | 0, 2 => 6
  | 4, 1 => 2
  | 4, 3 => 3
  | 5, 5 => 2
  | 6, 0 => 1
  | 8, 1 => 4
  | 8, 3 => 5
  | 9, 0 => 1
  | 9, 12 => 1
  | 9, 25 => 2
  | 9, 33 => 2
  | _, _ => 0
def fln : Nat → Nat → Nat
  | 0, 2 => 20
  | 1, 2 => 4
  | 1, 3 => 4
  | 1, 4 => 4
  | 1, 5 => 4
  | 1, 6 => 4
  | 1, 7 => 24
  | 1, 8 => 4
  | 2, 5 => 8
  | 2, 6 => 8
  | 2, 7 => 8
  | 2, 8 => 48
  | 3, 10 => 6
  | 3, 11 => 60
  | 4, 0 => 256
  | 4, 1 => 256
  | 4, 2 => 78
  | 4, 3 => 78
  | 4, 4 => 234
  | 4, 5 => 1872
  | 4, 7 => 8
  | 4, 10 => 9608
  | 4, 11 => 1201
  | 4, 12 => 1201
  | 4, 13 => 1201
  | 4, 14 => 4096
  | 4, 15 => 10
  | 5, 2 => 240
  | 5, 3 => 240
  | 5, 4 => 240
  | 5, 5 => 1200
  | 6, 0 => 200
  | 7, 5 => 60
  | 8, 1 => 8
  | 8, 3 => 6
  | 8, 8 => 48
  | 9, 0 => 200
  | 9, 5 => 180
  | 9, 6 => 9
  | 9, 8 => 448
  | 9, 9 => 7
  | 9, 10 => 7
  | 9, 12 => 15
  | 9, 16 => 133
  | 9, 17 => 133
  | 9, 18 => 2660
  | 9, 21 => 120
  | 9, 25 => 4804
  | 9, 26 => 1201
  | 9, 27 => 1201
  | 9, 28 => 1201
  | 9, 31 => 64
  | 9, 32 => 64
  | 9, 33 => 4
  | 9, 34 => 10
  | 9, 35 => 720
  | 9, 37 => 240
  | 9, 38 => 28800
  | _, _ => 0
def nfl : Nat → Nat
  | 0 => 3
  | 1 => 9
  | 2 => 9
  | 3 => 12
  | 4 => 16
  | 5 => 6
  | 6 => 4
  | 7 => 6
  | 8 => 12
  | 9 => 41
  | _ => 0
abbrev HS : Type := (Nat → Nat) × (Nat → Nat → Int32) × (Nat → Nat → Int64) × (Nat → Nat → Option Nat) × (Nat → Nat → Nat → Int32) × (Nat → Nat → Nat → Int64) × (Nat → Nat → Nat → Option Nat)
def hc (w : HS) : Nat → Nat := w.1
def hi (w : HS) : Nat → Nat → Int32 := w.2.1
def hl (w : HS) : Nat → Nat → Int64 := w.2.2.1
def hp (w : HS) : Nat → Nat → Option Nat := w.2.2.2.1
def ha (w : HS) : Nat → Nat → Nat → Int32 := w.2.2.2.2.1
def hj (w : HS) : Nat → Nat → Nat → Int64 := w.2.2.2.2.2.1
def hq (w : HS) : Nat → Nat → Nat → Option Nat := w.2.2.2.2.2.2
def up2 {α : Type} (f : Nat → Nat → α) (a k : Nat) (x : α) : Nat → Nat → α := fun b m => if b = a ∧ m = k then x else f b m
def setI (w : HS) (a k : Nat) (x : Int32) : HS := (w.1, up2 w.2.1 a k x, w.2.2)
def setL (w : HS) (a k : Nat) (x : Int64) : HS := (w.1, w.2.1, up2 w.2.2.1 a k x, w.2.2.2)
def setP (w : HS) (a k : Nat) (x : Option Nat) : HS := (w.1, w.2.1, w.2.2.1, up2 w.2.2.2.1 a k x, w.2.2.2.2)
def setR (w : HS) (a k : Nat) (f : Nat → Int32) : HS := (w.1, w.2.1, w.2.2.1, w.2.2.2.1, up2 w.2.2.2.2.1 a k f, w.2.2.2.2.2)
def setA (w : HS) (a k i : Nat) (x : Int32) : HS := setR w a k (upd (ha w a k) i x)
def setJ (w : HS) (a k i : Nat) (x : Int64) : HS := (w.1, w.2.1, w.2.2.1, w.2.2.2.1, w.2.2.2.2.1, up2 w.2.2.2.2.2.1 a k (vp_updL (w.2.2.2.2.2.1 a k) i x), w.2.2.2.2.2.2)
def setQ (w : HS) (a k i : Nat) (x : Option Nat) : HS := (w.1, w.2.1, w.2.2.1, w.2.2.2.1, w.2.2.2.2.1, w.2.2.2.2.2.1, up2 w.2.2.2.2.2.2 a k (va_up (w.2.2.2.2.2.2 a k) i x))
theorem up2_same {α : Type} (f : Nat → Nat → α) (a k : Nat) (x : α) : up2 f a k x a k = x := by unfold up2; rw [if_pos ⟨rfl, rfl⟩]
theorem up2_ne {α : Type} {f : Nat → Nat → α} {a k b m : Nat} {x : α} (h : ¬ (b = a ∧ m = k)) : up2 f a k x b m = f b m := by unfold up2; rw [if_neg h]
def fieldV (w : HS) (ar : Nat → Nat → Nat) (ci a k : Nat) : Value := if fk ci k = 0 then .int (hi w a k) else if fk ci k = 1 then .long (hl w a k) else if fk ci k = 2 then va_rf (hp w a k) else .ref (ar a k)
def objF (w : HS) (ar : Nat → Nat → Nat) (ci a : Nat) : List Value := (List.range (nfl ci)).map (fieldV w ar ci a)
def arrC (w : HS) (ci a k : Nat) : PC := if fk ci k = 3 then .inl (fkd ci k, fln ci k, .inl (ha w a k)) else if fk ci k = 4 then .inl (2, fln ci k, .inr (.inl (hj w a k))) else .inl (fkd ci k, fln ci k, .inr (.inr (.inr (.inr (hq w a k)))))
/-- the heap holds the state: c0 the classes of objects (10 and more: none), ar where the arrays of objects lie -/
def Rel (ar : Nat → Nat → Nat) (c0 : Nat → Nat) (sz : Nat) (g : PH) (w : HS) : Prop :=
  w.1 = c0 ∧ (∀ a, c0 a < 10 → g a = some (.inr (c0 a, objF w ar (c0 a) a)) ∧ a < sz) ∧ (∀ a k, c0 a < 10 → k < nfl (c0 a) → 3 ≤ fk (c0 a) k → g (ar a k) = some (arrC w (c0 a) a k) ∧ ar a k < sz) ∧
    ∀ a k b m, c0 a < 10 → k < nfl (c0 a) → 3 ≤ fk (c0 a) k → c0 b < 10 → m < nfl (c0 b) → 3 ≤ fk (c0 b) m → ar a k = ar b m → a = b ∧ k = m
section RR
variable {ar : Nat → Nat → Nat} {c0 : Nat → Nat} {sz : Nat} {g : PH} {w : HS} {a k ci : Nat}
theorem Rel.cls (P : Rel ar c0 sz g w) (h : (hc w a == ci) = true) : c0 a = ci := by
  have h1 : hc w a = ci := eq_of_beq h
  rw [← h1, ← P.1]; rfl
theorem objF_get (w : HS) (ar : Nat → Nat → Nat) (ci a : Nat) {k : Nat} (h : k < nfl ci) : (objF w ar ci a)[k]? = some (fieldV w ar ci a k) := by
  unfold objF
  rw [List.getElem?_map, List.getElem?_range h]; rfl
theorem Rel.rV (P : Rel ar c0 sz g w) (h : c0 a = ci) (h10 : ci < 10) (hk : k < nfl ci) : getV g a ci k = some (fieldV w ar ci a k) := by
  have h1 := (P.2.1 a (by omega)).1
  unfold getV
  rw [h1, h]
  dsimp only
  rw [if_pos rfl]
  exact objF_get w ar ci a hk
theorem Rel.rI (P : Rel ar c0 sz g w) (h : c0 a = ci) (h10 : ci < 10) (hk : k < nfl ci) (hf : fk ci k = 0) : getI g a ci k = some (hi w a k) := by
  unfold getI
  rw [P.rV h h10 hk]
  unfold fieldV
  rw [if_pos hf]
theorem Rel.rL (P : Rel ar c0 sz g w) (h : c0 a = ci) (h10 : ci < 10) (hk : k < nfl ci) (hf : fk ci k = 1) : getL g a ci k = some (hl w a k) := by
  unfold getL
  rw [P.rV h h10 hk]
  unfold fieldV
  rw [if_neg (by omega), if_pos hf]
theorem Rel.rQ (P : Rel ar c0 sz g w) (h : c0 a = ci) (h10 : ci < 10) (hk : k < nfl ci) (hf : fk ci k = 2) : getQ g a ci k = some (hp w a k) := by
  unfold getQ
  rw [P.rV h h10 hk]
  unfold fieldV
  rw [if_neg (by omega), if_neg (by omega), if_pos hf]
  cases hp w a k <;> rfl
theorem Rel.getRo (P : Rel ar c0 sz g w) (h : c0 a = ci) (h10 : ci < 10) (hk : k < nfl ci) (hf : fk ci k = 2) {p : Nat} (hpp : hp w a k = some p) : getR g a ci k = some p := by
  unfold getR
  rw [P.rV h h10 hk]
  unfold fieldV
  rw [if_neg (by omega), if_neg (by omega), if_pos hf, hpp]
  rfl
theorem Rel.getRa (P : Rel ar c0 sz g w) (h : c0 a = ci) (h10 : ci < 10) (hk : k < nfl ci) (hf : 3 ≤ fk ci k) : getR g a ci k = some (ar a k) := by
  unfold getR
  rw [P.rV h h10 hk]
  unfold fieldV
  rw [if_neg (by omega), if_neg (by omega), if_neg (by omega)]
theorem Rel.rO (P : Rel ar c0 sz g w) (h : c0 a = ci) (h10 : ci < 10) : isO g a ci = true := by
  have h1 := (P.2.1 a (by omega)).1
  unfold isO
  rw [h1, h]
  simp
theorem objF_set {w' : HS} (ar : Nat → Nat → Nat) (hk : k < nfl ci) (v : Value) (h1 : fieldV w' ar ci a k = v) (h2 : ∀ m, m ≠ k → fieldV w' ar ci a m = fieldV w ar ci a m) : (objF w ar ci a).set k v = objF w' ar ci a := by
  apply List.ext_getElem?
  intro m
  by_cases hm : m = k
  · subst hm
    rw [List.getElem?_set_self (by unfold objF; simpa using hk), objF_get w' ar ci a hk, h1]
  · rw [List.getElem?_set_ne (Ne.symm hm)]
    by_cases hl : m < nfl ci
    · rw [objF_get w ar ci a hl, objF_get w' ar ci a hl, h2 m hm]
    · unfold objF
      simp [Nat.not_lt.mp hl]
theorem Rel.put {w' : HS} {v : Value} (P : Rel ar c0 sz g w) (h : c0 a = ci) (h10 : ci < 10) (hk : k < nfl ci) (e1 : w'.1 = w.1) (ha : ∀ b m, ha w' b m = ha w b m) (hj : ∀ b m, hj w' b m = hj w b m) (hq : ∀ b m, hq w' b m = hq w b m)
    (h1 : fieldV w' ar ci a k = v) (h2 : ∀ b m cj, ¬ (b = a ∧ m = k) → fieldV w' ar cj b m = fieldV w ar cj b m) : ∃ g', putV g a ci k v = some g' ∧ Rel ar c0 sz g' w' := by
  obtain ⟨p1, p2, p3, p4⟩ := P
  have g1 := (p2 a (by omega)).1
  rw [h] at g1
  have hlen : k < (objF w ar ci a).length := by unfold objF; simpa using hk
  refine ⟨hup g a (.inr (ci, (objF w ar ci a).set k v)), ?_, e1.trans p1, ?_, ?_, p4⟩
  · unfold putV
    rw [g1]
    dsimp only
    rw [if_pos ⟨rfl, hlen⟩]
  · intro b hb
    refine ⟨?_, (p2 b hb).2⟩
    by_cases e : b = a
    · subst e
      unfold hup
      rw [if_pos rfl, h, objF_set ar hk v h1 (fun m hm => h2 b m ci (fun q => hm q.2))]
    · unfold hup
      rw [if_neg e, (p2 b hb).1]
      have eo : objF w ar (c0 b) b = objF w' ar (c0 b) b := by
        unfold objF
        apply List.map_congr_left
        intro m _
        exact (h2 b m (c0 b) (fun q => e q.1)).symm
      rw [eo]
  · intro b m hb hm hf
    obtain ⟨q1, q2⟩ := p3 b m hb hm hf
    refine ⟨?_, q2⟩
    have hne : ar b m ≠ a := by
      intro e
      rw [e, g1] at q1
      unfold arrC at q1
      repeat' split at q1
      all_goals cases q1
    unfold hup
    rw [if_neg hne, q1]
    unfold arrC
    rw [ha b m, hj b m, hq b m]
theorem Rel.putI {w' : HS} {x : Int32} (P : Rel ar c0 sz g w) (h : c0 a = ci) (h10 : ci < 10) (hk : k < nfl ci) (hf : fk ci k = 0) (e : w' = setI w a k x) : ∃ g', putV g a ci k (.int x) = some g' ∧ Rel ar c0 sz g' w' := by
  subst e
  refine P.put h h10 hk rfl (fun _ _ => rfl) (fun _ _ => rfl) (fun _ _ => rfl) ?_ ?_
  · unfold fieldV
    rw [if_pos hf]
    show Value.int (up2 w.2.1 a k x a k) = _
    rw [up2_same]
  · intro b m cj hne
    unfold fieldV
    have : hi (setI w a k x) b m = hi w b m := up2_ne hne
    rw [this]
    rfl
theorem Rel.putL {w' : HS} {x : Int64} (P : Rel ar c0 sz g w) (h : c0 a = ci) (h10 : ci < 10) (hk : k < nfl ci) (hf : fk ci k = 1) (e : w' = setL w a k x) : ∃ g', putV g a ci k (.long x) = some g' ∧ Rel ar c0 sz g' w' := by
  subst e
  refine P.put h h10 hk rfl (fun _ _ => rfl) (fun _ _ => rfl) (fun _ _ => rfl) ?_ ?_
  · unfold fieldV
    rw [if_neg (by omega), if_pos hf]
    show Value.long (up2 w.2.2.1 a k x a k) = _
    rw [up2_same]
  · intro b m cj hne
    unfold fieldV
    have : hl (setL w a k x) b m = hl w b m := up2_ne hne
    rw [this]
    rfl
theorem Rel.putP {w' : HS} {x : Option Nat} (P : Rel ar c0 sz g w) (h : c0 a = ci) (h10 : ci < 10) (hk : k < nfl ci) (hf : fk ci k = 2) (e : w' = setP w a k x) : ∃ g', putV g a ci k (va_rf x) = some g' ∧ Rel ar c0 sz g' w' := by
  subst e
  refine P.put h h10 hk rfl (fun _ _ => rfl) (fun _ _ => rfl) (fun _ _ => rfl) ?_ ?_
  · unfold fieldV
    rw [if_neg (by omega), if_neg (by omega), if_pos hf]
    show va_rf (up2 w.2.2.2.1 a k x a k) = _
    rw [up2_same]
  · intro b m cj hne
    unfold fieldV
    have : hp (setP w a k x) b m = hp w b m := up2_ne hne
    rw [this]
    rfl
theorem Rel.arr (P : Rel ar c0 sz g w) (h : c0 a = ci) (h10 : ci < 10) (hk : k < nfl ci) (hf : 3 ≤ fk ci k) : g (ar a k) = some (arrC w ci a k) := by
  have := (P.2.2.1 a k (by omega) (by rw [h]; exact hk) (by rw [h]; exact hf)).1
  rw [h] at this
  exact this
theorem Rel.rA (P : Rel ar c0 sz g w) (h : c0 a = ci) (h10 : ci < 10) (hk : k < nfl ci) (hf : fk ci k = 3) : aI g (ar a k) (fkd ci k) = some (fln ci k, ha w a k) := by
  have h1 := P.arr h h10 hk (by omega)
  unfold arrC at h1
  rw [if_pos hf] at h1
  unfold aI
  rw [h1]
  dsimp only
  rw [if_pos rfl]
theorem Rel.rJ (P : Rel ar c0 sz g w) (h : c0 a = ci) (h10 : ci < 10) (hk : k < nfl ci) (hf : fk ci k = 4) : aL g (ar a k) = some (fln ci k, hj w a k) := by
  have h1 := P.arr h h10 hk (by omega)
  unfold arrC at h1
  rw [if_neg (by omega), if_pos hf] at h1
  unfold aL
  rw [h1]
  dsimp only
  rw [if_pos rfl]
theorem Rel.rK (P : Rel ar c0 sz g w) (h : c0 a = ci) (h10 : ci < 10) (hk : k < nfl ci) (hf : fk ci k = 5) : aQ g (ar a k) (fkd ci k) = some (fln ci k, hq w a k) := by
  have h1 := P.arr h h10 hk (by omega)
  unfold arrC at h1
  rw [if_neg (by omega), if_neg (by omega)] at h1
  unfold aQ
  rw [h1]
  dsimp only
  rw [if_pos rfl]
variable {kd n : Nat} {j : Int32}
theorem Rel.dI (P : Rel ar c0 sz g w) (h : c0 a = ci) (h10 : ci < 10) (hk : k < nfl ci) (hf : fk ci k = 3) (hd : fkd ci k = kd) (hin : inb j (fln ci k) = true) (hn : j.toNatClampNeg = n) : ldI g (ar a k) kd j = some (ha w a k n) := by
  subst hd; subst hn
  unfold ldI
  rw [P.rA h h10 hk hf]
  dsimp only
  rw [if_pos hin]
theorem Rel.dL (P : Rel ar c0 sz g w) (h : c0 a = ci) (h10 : ci < 10) (hk : k < nfl ci) (hf : fk ci k = 4) (hin : inb j (fln ci k) = true) (hn : j.toNatClampNeg = n) : ldL g (ar a k) j = some (hj w a k n) := by
  subst hn
  unfold ldL
  rw [P.rJ h h10 hk hf]
  dsimp only
  rw [if_pos hin]
theorem Rel.dQ (P : Rel ar c0 sz g w) (h : c0 a = ci) (h10 : ci < 10) (hk : k < nfl ci) (hf : fk ci k = 5) (hd : fkd ci k = kd) (hin : inb j (fln ci k) = true) (hn : j.toNatClampNeg = n) : ldQ g (ar a k) kd j = some (hq w a k n) := by
  subst hd; subst hn
  unfold ldQ
  rw [P.rK h h10 hk hf]
  dsimp only
  rw [if_pos hin]
theorem Rel.dN (P : Rel ar c0 sz g w) (h : c0 a = ci) (h10 : ci < 10) (hk : k < nfl ci) (hf : 3 ≤ fk ci k) (hd : fkd ci k < 7) (hn : Int32.ofNat (fln ci k) = j) : alen g (ar a k) = some j := by
  have h1 := P.arr h h10 hk hf
  unfold alen
  rw [h1]
  unfold arrC
  by_cases e3 : fk ci k = 3
  · rw [if_pos e3]
    dsimp only
    rw [if_pos hd, hn]
  · rw [if_neg e3]
    by_cases e4 : fk ci k = 4
    · rw [if_pos e4]
      dsimp only
      rw [if_pos (by decide), hn]
    · rw [if_neg e4]
      dsimp only
      rw [if_pos hd, hn]
/-- an array's row is another one then -/
theorem Rel.store {w' : HS} {c : PC} (P : Rel ar c0 sz g w) (h : c0 a = ci) (h10 : ci < 10) (hk : k < nfl ci) (hf : 3 ≤ fk ci k) (e1 : w'.1 = w.1) (e2 : hi w' = hi w) (e3 : hl w' = hl w) (e4 : hp w' = hp w) (hc : c = arrC w' ci a k) (ho : ∀ b m cj, ¬ (b = a ∧ m = k) → arrC w' cj b m = arrC w cj b m) : Rel ar c0 sz (hup g (ar a k) c) w' := by
  obtain ⟨p1, p2, p3, p4⟩ := id P
  have g1 := P.arr h h10 hk hf
  refine ⟨e1.trans p1, ?_, ?_, p4⟩
  · intro b hb
    refine ⟨?_, (p2 b hb).2⟩
    have hne : b ≠ ar a k := by
      intro e
      have q1 := (p2 b hb).1
      rw [e, g1] at q1
      unfold arrC at q1
      repeat' split at q1
      all_goals cases q1
    unfold hup
    rw [if_neg hne, (p2 b hb).1]
    have eo : objF w ar (c0 b) b = objF w' ar (c0 b) b := by
      unfold objF
      apply List.map_congr_left
      intro m _
      unfold fieldV
      rw [e2, e3, e4]
    rw [eo]
  · intro b m hb hm hfm
    obtain ⟨q1, q2⟩ := p3 b m hb hm hfm
    refine ⟨?_, q2⟩
    by_cases e : b = a ∧ m = k
    · obtain ⟨rfl, rfl⟩ := e
      unfold hup
      rw [if_pos rfl, hc, h]
    · have hne : ar b m ≠ ar a k := fun q => e (by
        have := p4 b m a k hb hm hfm (by omega) (by rw [h]; exact hk) (by rw [h]; exact hf) q
        exact this)
      unfold hup
      rw [if_neg hne, q1, ho b m _ e]
theorem arrC_R {f : Nat → Int32} {b m cj : Nat} (h : ¬ (b = a ∧ m = k)) : arrC (setR w a k f) cj b m = arrC w cj b m := by
  unfold arrC
  have e1 : ha (setR w a k f) b m = ha w b m := up2_ne h
  rw [e1]
  rfl
theorem Rel.stR {w' : HS} {f : Nat → Int32} (P : Rel ar c0 sz g w) (h : c0 a = ci) (h10 : ci < 10) (hk : k < nfl ci) (hf : fk ci k = 3) (e : w' = setR w a k f) : Rel ar c0 sz (hup g (ar a k) (.inl (fkd ci k, fln ci k, .inl f))) w' := by
  subst e
  refine P.store h h10 hk (by omega) rfl rfl rfl rfl ?_ (fun b m cj hn => arrC_R hn)
  unfold arrC
  rw [if_pos hf]
  have : ha (setR w a k f) a k = f := up2_same _ _ _ _
  rw [this]
theorem Rel.sI {w' : HS} {x : Int32} (P : Rel ar c0 sz g w) (h : c0 a = ci) (h10 : ci < 10) (hk : k < nfl ci) (hf : fk ci k = 3) (hd : fkd ci k = kd) (hin : inb j (fln ci k) = true) (hn : j.toNatClampNeg = n) (e : w' = setA w a k n x) : ∃ g', stI g (ar a k) kd j x = some g' ∧ Rel ar c0 sz g' w' := by
  subst hd; subst hn
  refine ⟨_, ?_, P.stR (f := upd (ha w a k) j.toNatClampNeg x) h h10 hk hf e⟩
  unfold stI
  rw [P.rA h h10 hk hf]
  dsimp only
  rw [if_pos hin]
theorem Rel.sL {w' : HS} {x : Int64} (P : Rel ar c0 sz g w) (h : c0 a = ci) (h10 : ci < 10) (hk : k < nfl ci) (hf : fk ci k = 4) (hin : inb j (fln ci k) = true) (hn : j.toNatClampNeg = n) (e : w' = setJ w a k n x) : ∃ g', stL g (ar a k) j x = some g' ∧ Rel ar c0 sz g' w' := by
  subst hn; subst e
  refine ⟨_, ?_, P.store (w' := setJ w a k j.toNatClampNeg x) (c := .inl (2, fln ci k, .inr (.inl (vp_updL (hj w a k) j.toNatClampNeg x)))) h h10 hk (by omega) rfl rfl rfl rfl ?_ ?_⟩
  · unfold stL
    rw [P.rJ h h10 hk hf]
    dsimp only
    rw [if_pos hin]
  · unfold arrC
    rw [if_neg (by omega), if_pos hf]
    have : hj (setJ w a k j.toNatClampNeg x) a k = vp_updL (hj w a k) j.toNatClampNeg x := up2_same _ _ _ _
    rw [this]
  · intro b m cj hne
    unfold arrC
    have e1 : hj (setJ w a k j.toNatClampNeg x) b m = hj w b m := up2_ne hne
    rw [e1]
    rfl
theorem Rel.sQ {w' : HS} {x cx : Nat} (P : Rel ar c0 sz g w) (h : c0 a = ci) (h10 : ci < 10) (hk : k < nfl ci) (hf : fk ci k = 5) (hd : fkd ci k = kd) (hin : inb j (fln ci k) = true) (hn : j.toNatClampNeg = n) (hx : c0 x = cx) (hx10 : cx < 10) (e : w' = setQ w a k n (some x)) : ∃ g', stQ g (ar a k) kd cx j x = some g' ∧ Rel ar c0 sz g' w' := by
  subst hd; subst hn; subst e
  refine ⟨_, ?_, P.store (w' := setQ w a k j.toNatClampNeg (some x)) (c := .inl (fkd ci k, fln ci k, .inr (.inr (.inr (.inr (va_up (hq w a k) j.toNatClampNeg (some x))))))) h h10 hk (by omega) rfl rfl rfl rfl ?_ ?_⟩
  · unfold stQ
    rw [P.rK h h10 hk hf]
    dsimp only
    rw [if_pos ⟨hin, P.rO hx hx10⟩]
  · unfold arrC
    rw [if_neg (by omega), if_neg (by omega)]
    have : hq (setQ w a k j.toNatClampNeg (some x)) a k = va_up (hq w a k) j.toNatClampNeg (some x) := up2_same _ _ _ _
    rw [this]
  · intro b m cj hne
    unfold arrC
    have e1 : hq (setQ w a k j.toNatClampNeg (some x)) b m = hq w b m := up2_ne hne
    rw [e1]
    rfl
theorem Rel.sC {w' : HS} {b m cj : Nat} {sp dp nn : Int32} (P : Rel ar c0 sz g w) (h : c0 a = ci) (h10 : ci < 10) (hk : k < nfl ci) (hf : fk ci k = 3) (hd : fkd ci k = 0) (h' : c0 b = cj) (h10' : cj < 10) (hk' : m < nfl cj) (hf' : fk cj m = 3) (hd' : fkd cj m = 0) (h1 : ¬ sp < 0 ∧ ¬ dp < 0 ∧ ¬ nn < 0 ∧ sp.toNatClampNeg + nn.toNatClampNeg ≤ fln ci k ∧ dp.toNatClampNeg + nn.toNatClampNeg ≤ fln cj m) (e : w' = setR w b m (va_cpy (ha w a k) (ha w b m) sp.toNatClampNeg dp.toNatClampNeg nn.toNatClampNeg)) : ∃ g', cpI g (ar a k) sp (ar b m) dp nn = some g' ∧ Rel ar c0 sz g' w' := by
  have q := P.stR (f := va_cpy (ha w a k) (ha w b m) sp.toNatClampNeg dp.toNatClampNeg nn.toNatClampNeg) h' h10' hk' hf' e
  rw [hd'] at q
  have e1 := P.rA h h10 hk hf
  have e2 := P.rA h' h10' hk' hf'
  rw [hd] at e1
  rw [hd'] at e2
  refine ⟨_, ?_, q⟩
  unfold cpI
  rw [e1, e2]
  dsimp only
  rw [if_pos h1]
end RR
/-- a value bound to a name -/
def bnd {α β : Type} (a : α) (f : α → β) : β := f a
theorem bnd_e {α β : Type} {a : α} {f : α → β} {r : β} (h : bnd a f = r) : ∃ b, b = a ∧ f b = r := ⟨a, rfl, h⟩
theorem el_n {α β : Type} {o : Option α} {a r : β} {f : α → β} (h : o = none) (e : o.elim a f = r) : a = r := by subst h; exact e
theorem el_s {α β : Type} {o : Option α} {a r : β} {f : α → β} {p : α} (h : o = some p) (e : o.elim a f = r) : f p = r := by subst h; exact e
theorem finW {α : Type} {e r : α} {w w' : HS} (h : (some (e, w) : Option (α × HS)) = some (r, w')) : e = r ∧ w = w' := by cases h; exact ⟨rfl, rfl⟩
/-- the heap's function answers as the state's does -/
def GR {α : Type} (ar : Nat → Nat → Nat) (c0 : Nat → Nat) (sz : Nat) (r : α) (w' : HS) (x : Option (α × PH)) : Prop := ∃ g', x = some (r, g') ∧ Rel ar c0 sz g' w'
section GG
variable {α β : Type} {ar : Nat → Nat → Nat} {c0 : Nat → Nat} {sz : Nat} {r : α} {w' : HS}
theorem GR.bind {x : Option β} {a : β} {f : β → Option (α × PH)} (e : x = some a) (h : GR ar c0 sz r w' (f a)) : GR ar c0 sz r w' (x.bind f) := by subst e; exact h
theorem GR.t {p : Prop} [Decidable p] {x y : Option (α × PH)} (hp : p) (h : GR ar c0 sz r w' x) : GR ar c0 sz r w' (if p then x else y) := by rw [if_pos hp]; exact h
theorem GR.f {p : Prop} [Decidable p] {x y : Option (α × PH)} (hp : ¬ p) (h : GR ar c0 sz r w' y) : GR ar c0 sz r w' (if p then x else y) := by rw [if_neg hp]; exact h
theorem GR.ok {b : Bool} {x : Option (α × PH)} (hb : b = true) (h : GR ar c0 sz r w' x) : GR ar c0 sz r w' (okb b x) := by unfold okb; rw [if_pos hb]; exact h
theorem GR.ret {g : PH} (P : Rel ar c0 sz g w') : GR ar c0 sz r w' (some (r, g)) := ⟨g, rfl, P⟩
theorem GR.en {o : Option β} {x : Option (α × PH)} {f : β → Option (α × PH)} (ho : o = none) (h : GR ar c0 sz r w' x) : GR ar c0 sz r w' (o.elim x f) := by subst ho; exact h
theorem GR.es {o : Option β} {x : Option (α × PH)} {f : β → Option (α × PH)} {p : β} (ho : o = some p) (h : GR ar c0 sz r w' (f p)) : GR ar c0 sz r w' (o.elim x f) := by subst ho; exact h
end GG
