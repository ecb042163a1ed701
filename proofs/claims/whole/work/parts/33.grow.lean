/-! New objects in the state. -/
def nObj (w : HS) (a ci : Nat) (fi : Nat → Int32) (fl : Nat → Int64) (fp : Nat → Option Nat) (fa : Nat → Nat → Int32) (fj : Nat → Nat → Int64) (fq : Nat → Nat → Option Nat) : HS :=
  (fun b => if b = a then ci else w.1 b, fun b => if b = a then fi else w.2.1 b, fun b => if b = a then fl else w.2.2.1 b, fun b => if b = a then fp else w.2.2.2.1 b, fun b => if b = a then fa else w.2.2.2.2.1 b, fun b => if b = a then fj else w.2.2.2.2.2.1 b, fun b => if b = a then fq else w.2.2.2.2.2.2 b)
def Ext (ar : Nat → Nat → Nat) (c0 : Nat → Nat) (ar1 : Nat → Nat → Nat) (c1 : Nat → Nat) : Prop := ∀ a, c0 a < 10 → c1 a = c0 a ∧ ∀ k, ar1 a k = ar a k
theorem Ext.rf (ar : Nat → Nat → Nat) (c0 : Nat → Nat) : Ext ar c0 ar c0 := fun _ _ => ⟨rfl, fun _ => rfl⟩
theorem Ext.tr {ar ar1 ar2 : Nat → Nat → Nat} {c0 c1 c2 : Nat → Nat} (h1 : Ext ar c0 ar1 c1) (h2 : Ext ar1 c1 ar2 c2) : Ext ar c0 ar2 c2 := fun a h => by
  have q := h1 a h
  have q2 := h2 a (by rw [q.1]; exact h)
  exact ⟨q2.1.trans q.1, fun k => (q2.2 k).trans (q.2 k)⟩
theorem Rel.fresh {ar : Nat → Nat → Nat} {c0 : Nat → Nat} {sz : Nat} {g : PH} {w : HS} (P : Rel ar c0 sz g w) {a : Nat} (h : c0 a < 10) : a < sz := (P.2.1 a h).2
def objN (ci : Nat) (fi : Nat → Int32) (fl : Nat → Int64) (fp : Nat → Option Nat) (arn : Nat → Nat) : List Value := (List.range (nfl ci)).map (fun k => if fk ci k = 0 then .int (fi k) else if fk ci k = 1 then .long (fl k) else if fk ci k = 2 then va_rf (fp k) else .ref (arn k))
def arrN (ci k : Nat) (fa : Nat → Nat → Int32) (fj : Nat → Nat → Int64) (fq : Nat → Nat → Option Nat) : PC := if fk ci k = 3 then .inl (fkd ci k, fln ci k, .inl (fa k)) else if fk ci k = 4 then .inl (2, fln ci k, .inr (.inl (fj k))) else .inl (fkd ci k, fln ci k, .inr (.inr (.inr (.inr (fq k)))))
theorem Rel.grow {ar : Nat → Nat → Nat} {c0 : Nat → Nat} {sz : Nat} {g : PH} {w : HS} (P : Rel ar c0 sz g w) {ci sz' : Nat} {g' : PH} {arn : Nat → Nat} {fi : Nat → Int32} {fl : Nat → Int64} {fp : Nat → Option Nat} {fa : Nat → Nat → Int32} {fj : Nat → Nat → Int64} {fq : Nat → Nat → Option Nat} (hci : ci < 10) (hz : sz < sz') (hB : ∀ b, b < sz → g' b = g b)
    (hO : g' sz = some (.inr (ci, objN ci fi fl fp arn))) (hA : ∀ k, k < nfl ci → 3 ≤ fk ci k → g' (arn k) = some (arrN ci k fa fj fq) ∧ sz < arn k ∧ arn k < sz') (hI : ∀ k m, k < nfl ci → 3 ≤ fk ci k → m < nfl ci → 3 ≤ fk ci m → arn k = arn m → k = m) :
    Rel (fun b k => if b = sz then arn k else ar b k) (fun b => if b = sz then ci else c0 b) sz' g' (nObj w sz ci fi fl fp fa fj fq) ∧ Ext ar c0 (fun b k => if b = sz then arn k else ar b k) (fun b => if b = sz then ci else c0 b) := by
  have hne : ∀ a, c0 a < 10 → a ≠ sz := fun a h e => absurd (P.fresh h) (by omega)
  have hf : ∀ a, a ≠ sz → ∀ cj k, fieldV (nObj w sz ci fi fl fp fa fj fq) (fun b k => if b = sz then arn k else ar b k) cj a k = fieldV w ar cj a k := by
    intro a h cj k
    unfold fieldV nObj hi hl hp
    simp only [if_neg h]
  have hr : ∀ a, a ≠ sz → ∀ cj k, arrC (nObj w sz ci fi fl fp fa fj fq) cj a k = arrC w cj a k := by
    intro a h cj k
    unfold arrC nObj ha hj hq
    simp only [if_neg h]
  obtain ⟨p1, p2, p3, p4⟩ := P
  refine ⟨⟨?_, ?_, ?_, ?_⟩, fun a h => ⟨by simp only [if_neg (hne a h)], fun k => by simp only [if_neg (hne a h)]⟩⟩
  · unfold nObj
    dsimp only
    rw [p1]
  · intro a ha
    by_cases e : a = sz
    · subst e
      simp only [if_pos]
      refine ⟨hO.trans ?_, hz⟩
      have eo : objN ci fi fl fp arn = objF (nObj w a ci fi fl fp fa fj fq) (fun b k => if b = a then arn k else ar b k) ci a := by
        unfold objN objF
        apply List.map_congr_left
        intro m _
        unfold fieldV nObj hi hl hp
        simp only [if_pos]
      rw [eo]
    · simp only [if_neg e] at ha ⊢
      obtain ⟨q1, q2⟩ := p2 a ha
      refine ⟨?_, by omega⟩
      rw [hB a q2, q1]
      have eo : objF w ar (c0 a) a = objF (nObj w sz ci fi fl fp fa fj fq) (fun b k => if b = sz then arn k else ar b k) (c0 a) a := by
        unfold objF
        apply List.map_congr_left
        intro m _
        exact (hf a e _ m).symm
      rw [eo]
  · intro a k hx hk hf3
    by_cases e : a = sz
    · subst e
      simp only [if_pos] at hx hk hf3 ⊢
      obtain ⟨q1, q2, q3⟩ := hA k hk hf3
      refine ⟨q1.trans ?_, q3⟩
      have eo : arrN ci k fa fj fq = arrC (nObj w a ci fi fl fp fa fj fq) ci a k := by
        unfold arrN arrC nObj ha hj hq
        simp only [if_pos]
      rw [eo]
    · simp only [if_neg e] at hx hk hf3 ⊢
      obtain ⟨q1, q2⟩ := p3 a k hx hk hf3
      refine ⟨?_, by omega⟩
      rw [hB _ q2, q1, hr a e]
  · intro a k b m ha hk hfa hb hm hfb heq
    by_cases e : a = sz
    · subst e
      simp only [if_pos] at ha hk hfa heq
      by_cases e2 : b = a
      · subst e2
        simp only [if_pos] at hb hm hfb heq
        exact ⟨rfl, hI k m hk hfa hm hfb heq⟩
      · simp only [if_neg e2] at hb hm hfb heq
        have q := (p3 b m hb hm hfb).2
        have q2 := (hA k hk hfa).2.1
        omega
    · simp only [if_neg e] at ha hk hfa heq
      by_cases e2 : b = sz
      · subst e2
        simp only [if_pos] at hb hm hfb heq
        have q := (p3 a k ha hk hfa).2
        have q2 := (hA m hm hfb).2.1
        omega
      · simp only [if_neg e2] at hb hm hfb heq
        exact p4 a k b m ha hk hfa hb hm hfb heq
theorem put_step {g : PH} {a ci k : Nat} {fs fs' : List Value} {v : Value} (h : g a = some (.inr (ci, fs))) (hk : k < fs.length) (hs : fs.set k v = fs') : ∃ g', putV g a ci k v = some g' ∧ g' a = some (.inr (ci, fs')) ∧ ∀ b, b ≠ a → g' b = g b := by
  subst hs
  refine ⟨hup g a (.inr (ci, fs.set k v)), ?_, ?_, ?_⟩
  · unfold putV
    rw [h]
    dsimp only
    rw [if_pos ⟨rfl, hk⟩]
  · unfold hup; rw [if_pos rfl]
  · intro b hb; unfold hup; rw [if_neg hb]
theorem ob_of {α β : Type} {x : Option α} {a : α} {f : α → Option β} {r : Option β} (e : x = some a) (h : f a = r) : x.bind f = r := by subst e; exact h
theorem bmp_of {α : Type} {c s m1 s1 mc ms : Nat} {x : Option (α × PH × Nat × Nat)} {r : α} {g : PH} (h : x = some (r, g, m1, s1)) (e1 : m1 + c = mc) (e2 : s1 + s = ms) : bmp c s x = some (r, g, mc, ms) := by subst h; subst e1; subst e2; rfl
theorem hup_eq {g : PH} {a : Nat} {c : PC} : hup g a c a = some c := by unfold hup; rw [if_pos rfl]
theorem hup_ne {g : PH} {a b : Nat} {c : PC} (h : b ≠ a) : hup g a c b = g b := by unfold hup; rw [if_neg h]
/-- the heap's function that makes cells answers as the state's does -/
def GA {α : Type} (ar : Nat → Nat → Nat) (c0 : Nat → Nat) (sz : Nat) (r : α) (w' : HS) (mc ms : Nat) (x : Option (α × PH × Nat × Nat)) : Prop := ∃ g' ar' c', x = some (r, g', mc, ms) ∧ Rel ar' c' (sz + mc) g' w' ∧ Ext ar c0 ar' c'
def bmw {α : Type} (c s : Nat) (x : Option (α × HS × Nat × Nat)) : Option (α × HS × Nat × Nat) := x.bind fun q => some (q.1, q.2.1, q.2.2.1 + c, q.2.2.2 + s)
theorem bmw_some {α : Type} {c s mc ms : Nat} {x : Option (α × HS × Nat × Nat)} {r : α} {g : HS} (h : bmw c s x = some (r, g, mc, ms)) : ∃ m1 s1, x = some (r, g, m1, s1) ∧ mc = m1 + c ∧ ms = s1 + s := by
  unfold bmw at h
  cases x with
  | none => cases h
  | some q =>
    obtain ⟨r1, g1, m1, s1⟩ := q
    cases h
    exact ⟨m1, s1, rfl, rfl, rfl⟩
theorem fnW4 {α : Type} {e r : α} {w w' : HS} {a b c d : Nat} (h : (some (e, w, a, b) : Option (α × HS × Nat × Nat)) = some (r, w', c, d)) : e = r ∧ w = w' ∧ a = c ∧ b = d := by cases h; exact ⟨rfl, rfl, rfl, rfl⟩
section GAS
variable {α β : Type} {ar : Nat → Nat → Nat} {c0 : Nat → Nat} {sz mc ms : Nat} {r : α} {w' : HS}
theorem GA.bind {x : Option β} {a : β} {f : β → Option (α × PH × Nat × Nat)} (e : x = some a) (h : GA ar c0 sz r w' mc ms (f a)) : GA ar c0 sz r w' mc ms (x.bind f) := by subst e; exact h
theorem GA.t {p : Prop} [Decidable p] {x y : Option (α × PH × Nat × Nat)} (hp : p) (h : GA ar c0 sz r w' mc ms x) : GA ar c0 sz r w' mc ms (if p then x else y) := by rw [if_pos hp]; exact h
theorem GA.f {p : Prop} [Decidable p] {x y : Option (α × PH × Nat × Nat)} (hp : ¬ p) (h : GA ar c0 sz r w' mc ms y) : GA ar c0 sz r w' mc ms (if p then x else y) := by rw [if_neg hp]; exact h
theorem GA.ok {b : Bool} {x : Option (α × PH × Nat × Nat)} (hb : b = true) (h : GA ar c0 sz r w' mc ms x) : GA ar c0 sz r w' mc ms (okb b x) := by unfold okb; rw [if_pos hb]; exact h
theorem GA.ret {g : PH} (P : Rel ar c0 sz g w') : GA ar c0 sz r w' 0 0 (some (r, g, 0, 0)) := ⟨g, ar, c0, rfl, P, Ext.rf ar c0⟩
theorem GA.en {o : Option β} {x : Option (α × PH × Nat × Nat)} {f : β → Option (α × PH × Nat × Nat)} (ho : o = none) (h : GA ar c0 sz r w' mc ms x) : GA ar c0 sz r w' mc ms (o.elim x f) := by subst ho; exact h
theorem GA.es {o : Option β} {x : Option (α × PH × Nat × Nat)} {f : β → Option (α × PH × Nat × Nat)} {p : β} (ho : o = some p) (h : GA ar c0 sz r w' mc ms (f p)) : GA ar c0 sz r w' mc ms (o.elim x f) := by subst ho; exact h
theorem GA.bmp {x : Option (α × PH × Nat × Nat)} {ar1 : Nat → Nat → Nat} {c1 : Nat → Nat} {c s : Nat} (X : Ext ar c0 ar1 c1) (h : GA ar1 c1 (sz + c) r w' mc ms x) : GA ar c0 sz r w' (mc + c) (ms + s) (bmp c s x) := by
  obtain ⟨g', ar', c', e, P, Y⟩ := h
  subst e
  refine ⟨g', ar', c', rfl, ?_, X.tr Y⟩
  rw [show sz + (mc + c) = sz + c + mc by omega]
  exact P
theorem GA.of {x : Option (α × PH × Nat × Nat)} {m1 s1 : Nat} (e1 : mc = m1) (e2 : ms = s1) (h : GA ar c0 sz r w' m1 s1 x) : GA ar c0 sz r w' mc ms x := by subst e1; subst e2; exact h
end GAS
