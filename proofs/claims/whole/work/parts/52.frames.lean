/-! Numbers, getters and setters, frames, runs. -/
theorem l0_ : (0 : Int32) = nI 0 := rfl
theorem l1_ : (1 : Int32) = nI 1 := rfl
theorem l2_ : (2 : Int32) = nI 2 := rfl
theorem l3_ : (3 : Int32) = nI 3 := rfl
theorem l4_ : (4 : Int32) = nI 4 := rfl
theorem l5_ : (5 : Int32) = nI 5 := rfl
theorem l6_ : (6 : Int32) = nI 6 := rfl
theorem l7_ : (7 : Int32) = nI 7 := rfl
theorem l8_ : (8 : Int32) = nI 8 := rfl
theorem l9_ : (9 : Int32) = nI 9 := rfl
theorem l10_ : (10 : Int32) = nI 10 := rfl
theorem l12_ : (12 : Int32) = nI 12 := rfl
theorem l13_ : (13 : Int32) = nI 13 := rfl
theorem l15_ : (15 : Int32) = nI 15 := rfl
theorem l16_ : (16 : Int32) = nI 16 := rfl
theorem l19_ : (19 : Int32) = nI 19 := rfl
theorem l20_ : (20 : Int32) = nI 20 := rfl
theorem l24_ : (24 : Int32) = nI 24 := rfl
theorem l26_ : (26 : Int32) = nI 26 := rfl
theorem l27_ : (27 : Int32) = nI 27 := rfl
theorem l28_ : (28 : Int32) = nI 28 := rfl
theorem l30_ : (30 : Int32) = nI 30 := rfl
theorem l31_ : (31 : Int32) = nI 31 := rfl
theorem l32_ : (32 : Int32) = nI 32 := rfl
theorem l34_ : (34 : Int32) = nI 34 := rfl
theorem l40_ : (40 : Int32) = nI 40 := rfl
theorem l41_ : (41 : Int32) = nI 41 := rfl
theorem l44_ : (44 : Int32) = nI 44 := rfl
theorem l47_ : (47 : Int32) = nI 47 := rfl
theorem l48_ : (48 : Int32) = nI 48 := rfl
theorem l49_ : (49 : Int32) = nI 49 := rfl
theorem l50_ : (50 : Int32) = nI 50 := rfl
theorem l58_ : (58 : Int32) = nI 58 := rfl
theorem l59_ : (59 : Int32) = nI 59 := rfl
theorem l60_ : (60 : Int32) = nI 60 := rfl
theorem l61_ : (61 : Int32) = nI 61 := rfl
theorem l64_ : (64 : Int32) = nI 64 := rfl
theorem l65_ : (65 : Int32) = nI 65 := rfl
theorem l78_ : (78 : Int32) = nI 78 := rfl
theorem l97_ : (97 : Int32) = nI 97 := rfl
theorem l98_ : (98 : Int32) = nI 98 := rfl
theorem l99_ : (99 : Int32) = nI 99 := rfl
theorem l100_ : (100 : Int32) = nI 100 := rfl
theorem l107_ : (107 : Int32) = nI 107 := rfl
theorem l109_ : (109 : Int32) = nI 109 := rfl
theorem l110_ : (110 : Int32) = nI 110 := rfl
theorem l112_ : (112 : Int32) = nI 112 := rfl
theorem l114_ : (114 : Int32) = nI 114 := rfl
theorem l115_ : (115 : Int32) = nI 115 := rfl
theorem l118_ : (118 : Int32) = nI 118 := rfl
theorem l119_ : (119 : Int32) = nI 119 := rfl
theorem l120_ : (120 : Int32) = nI 120 := rfl
theorem l127_ : (127 : Int32) = nI 127 := rfl
theorem l133_ : (133 : Int32) = nI 133 := rfl
theorem l180_ : (180 : Int32) = nI 180 := rfl
theorem l200_ : (200 : Int32) = nI 200 := rfl
theorem l240_ : (240 : Int32) = nI 240 := rfl
theorem l255_ : (255 : Int32) = nI 255 := rfl
theorem l320_ : (320 : Int32) = nI 320 := rfl
theorem l1200_ : (1200 : Int32) = nI 1200 := rfl
theorem l4095_ : (4095 : Int32) = nI 4095 := rfl
theorem l4096_ : (4096 : Int32) = nI 4096 := rfl
def nM : Int32 := -1
def nM2 : Int32 := -2
def nM3 : Int32 := -3
theorem m1_ : (-1 : Int32) = nM := rfl
theorem m2_ : (-2 : Int32) = nM2 := rfl
theorem m3_ : (-3 : Int32) = nM3 := rfl
theorem nM_t : nM.toInt = -1 := by decide
theorem nM2_t : nM2.toInt = -2 := by decide
theorem nM3_t : nM3.toInt = -3 := by decide
theorem le_i {a b : Int32} : a ≤ b ↔ a.toInt ≤ b.toInt := Int32.le_iff_toInt_le
theorem lt_i {a b : Int32} : a < b ↔ a.toInt < b.toInt := Int32.lt_iff_toInt_lt
theorem eq_i {a b : Int32} : a = b ↔ a.toInt = b.toInt := Int32.toInt_inj.symm
theorem nI_subc {a b : Nat} (h : b ≤ a) : nI a - nI b = nI (a - b) := by
  have e : nI a = nI (a - b) + nI b := by rw [nI_add, Nat.sub_add_cancel h]
  rw [e]
  exact Int32.add_sub_cancel _ _
theorem hc_setI (w : HS) (a k : Nat) (x : Int32) (b : Nat) : hc (setI w a k x) b = hc w b := rfl
theorem hi_setI (w : HS) (a k : Nat) (x : Int32) (b j : Nat) : hi (setI w a k x) b j = if b = a ∧ j = k then x else hi w b j := rfl
theorem hl_setI (w : HS) (a k : Nat) (x : Int32) (b j : Nat) : hl (setI w a k x) b j = hl w b j := rfl
theorem hp_setI (w : HS) (a k : Nat) (x : Int32) (b j : Nat) : hp (setI w a k x) b j = hp w b j := rfl
theorem ha_setI (w : HS) (a k : Nat) (x : Int32) (b j : Nat) : ha (setI w a k x) b j = ha w b j := rfl
theorem hj_setI (w : HS) (a k : Nat) (x : Int32) (b j : Nat) : hj (setI w a k x) b j = hj w b j := rfl
theorem hq_setI (w : HS) (a k : Nat) (x : Int32) (b j : Nat) : hq (setI w a k x) b j = hq w b j := rfl
theorem hc_setL (w : HS) (a k : Nat) (x : Int64) (b : Nat) : hc (setL w a k x) b = hc w b := rfl
theorem hi_setL (w : HS) (a k : Nat) (x : Int64) (b j : Nat) : hi (setL w a k x) b j = hi w b j := rfl
theorem hl_setL (w : HS) (a k : Nat) (x : Int64) (b j : Nat) : hl (setL w a k x) b j = if b = a ∧ j = k then x else hl w b j := rfl
theorem hp_setL (w : HS) (a k : Nat) (x : Int64) (b j : Nat) : hp (setL w a k x) b j = hp w b j := rfl
theorem ha_setL (w : HS) (a k : Nat) (x : Int64) (b j : Nat) : ha (setL w a k x) b j = ha w b j := rfl
theorem hj_setL (w : HS) (a k : Nat) (x : Int64) (b j : Nat) : hj (setL w a k x) b j = hj w b j := rfl
theorem hq_setL (w : HS) (a k : Nat) (x : Int64) (b j : Nat) : hq (setL w a k x) b j = hq w b j := rfl
theorem hc_setP (w : HS) (a k : Nat) (x : Option Nat) (b : Nat) : hc (setP w a k x) b = hc w b := rfl
theorem hi_setP (w : HS) (a k : Nat) (x : Option Nat) (b j : Nat) : hi (setP w a k x) b j = hi w b j := rfl
theorem hl_setP (w : HS) (a k : Nat) (x : Option Nat) (b j : Nat) : hl (setP w a k x) b j = hl w b j := rfl
theorem hp_setP (w : HS) (a k : Nat) (x : Option Nat) (b j : Nat) : hp (setP w a k x) b j = if b = a ∧ j = k then x else hp w b j := rfl
theorem ha_setP (w : HS) (a k : Nat) (x : Option Nat) (b j : Nat) : ha (setP w a k x) b j = ha w b j := rfl
theorem hj_setP (w : HS) (a k : Nat) (x : Option Nat) (b j : Nat) : hj (setP w a k x) b j = hj w b j := rfl
theorem hq_setP (w : HS) (a k : Nat) (x : Option Nat) (b j : Nat) : hq (setP w a k x) b j = hq w b j := rfl
theorem hc_setR (w : HS) (a k : Nat) (f : Nat → Int32) (b : Nat) : hc (setR w a k f) b = hc w b := rfl
theorem hi_setR (w : HS) (a k : Nat) (f : Nat → Int32) (b j : Nat) : hi (setR w a k f) b j = hi w b j := rfl
theorem hl_setR (w : HS) (a k : Nat) (f : Nat → Int32) (b j : Nat) : hl (setR w a k f) b j = hl w b j := rfl
theorem hp_setR (w : HS) (a k : Nat) (f : Nat → Int32) (b j : Nat) : hp (setR w a k f) b j = hp w b j := rfl
theorem ha_setRR (w : HS) (a k : Nat) (f : Nat → Int32) (b j : Nat) : ha (setR w a k f) b j = if b = a ∧ j = k then f else ha w b j := rfl
theorem hj_setR (w : HS) (a k : Nat) (f : Nat → Int32) (b j : Nat) : hj (setR w a k f) b j = hj w b j := rfl
theorem hq_setR (w : HS) (a k : Nat) (f : Nat → Int32) (b j : Nat) : hq (setR w a k f) b j = hq w b j := rfl
theorem hc_setA (w : HS) (a k : Nat) (i : Nat) (x : Int32) (b : Nat) : hc (setA w a k i x) b = hc w b := rfl
theorem hi_setA (w : HS) (a k : Nat) (i : Nat) (x : Int32) (b j : Nat) : hi (setA w a k i x) b j = hi w b j := rfl
theorem hl_setA (w : HS) (a k : Nat) (i : Nat) (x : Int32) (b j : Nat) : hl (setA w a k i x) b j = hl w b j := rfl
theorem hp_setA (w : HS) (a k : Nat) (i : Nat) (x : Int32) (b j : Nat) : hp (setA w a k i x) b j = hp w b j := rfl
theorem ha_setA (w : HS) (a k : Nat) (i : Nat) (x : Int32) (b j : Nat) : ha (setA w a k i x) b j = if b = a ∧ j = k then upd (ha w a k) i x else ha w b j := rfl
theorem hj_setA (w : HS) (a k : Nat) (i : Nat) (x : Int32) (b j : Nat) : hj (setA w a k i x) b j = hj w b j := rfl
theorem hq_setA (w : HS) (a k : Nat) (i : Nat) (x : Int32) (b j : Nat) : hq (setA w a k i x) b j = hq w b j := rfl
theorem hc_setJ (w : HS) (a k : Nat) (i : Nat) (x : Int64) (b : Nat) : hc (setJ w a k i x) b = hc w b := rfl
theorem hi_setJ (w : HS) (a k : Nat) (i : Nat) (x : Int64) (b j : Nat) : hi (setJ w a k i x) b j = hi w b j := rfl
theorem hl_setJ (w : HS) (a k : Nat) (i : Nat) (x : Int64) (b j : Nat) : hl (setJ w a k i x) b j = hl w b j := rfl
theorem hp_setJ (w : HS) (a k : Nat) (i : Nat) (x : Int64) (b j : Nat) : hp (setJ w a k i x) b j = hp w b j := rfl
theorem ha_setJ (w : HS) (a k : Nat) (i : Nat) (x : Int64) (b j : Nat) : ha (setJ w a k i x) b j = ha w b j := rfl
theorem hj_setJ (w : HS) (a k : Nat) (i : Nat) (x : Int64) (b j : Nat) : hj (setJ w a k i x) b j = if b = a ∧ j = k then vp_updL (hj w a k) i x else hj w b j := rfl
theorem hq_setJ (w : HS) (a k : Nat) (i : Nat) (x : Int64) (b j : Nat) : hq (setJ w a k i x) b j = hq w b j := rfl
theorem hc_setQ (w : HS) (a k : Nat) (i : Nat) (x : Option Nat) (b : Nat) : hc (setQ w a k i x) b = hc w b := rfl
theorem hi_setQ (w : HS) (a k : Nat) (i : Nat) (x : Option Nat) (b j : Nat) : hi (setQ w a k i x) b j = hi w b j := rfl
theorem hl_setQ (w : HS) (a k : Nat) (i : Nat) (x : Option Nat) (b j : Nat) : hl (setQ w a k i x) b j = hl w b j := rfl
theorem hp_setQ (w : HS) (a k : Nat) (i : Nat) (x : Option Nat) (b j : Nat) : hp (setQ w a k i x) b j = hp w b j := rfl
theorem ha_setQ (w : HS) (a k : Nat) (i : Nat) (x : Option Nat) (b j : Nat) : ha (setQ w a k i x) b j = ha w b j := rfl
theorem hj_setQ (w : HS) (a k : Nat) (i : Nat) (x : Option Nat) (b j : Nat) : hj (setQ w a k i x) b j = hj w b j := rfl
theorem hq_setQ (w : HS) (a k : Nat) (i : Nat) (x : Option Nat) (b j : Nat) : hq (setQ w a k i x) b j = if b = a ∧ j = k then va_up (hq w a k) i x else hq w b j := rfl
theorem upd_s (f : Nat → Int32) (i : Nat) (x : Int32) : upd f i x i = x := if_pos rfl
theorem upd_n {f : Nat → Int32} {i j : Nat} {x : Int32} (h : j ≠ i) : upd f i x j = f j := if_neg h
theorem updL_s (f : Nat → Int64) (i : Nat) (x : Int64) : vp_updL f i x i = x := if_pos rfl
theorem updL_n {f : Nat → Int64} {i j : Nat} {x : Int64} (h : j ≠ i) : vp_updL f i x j = f j := if_neg h
theorem vup_s {α : Type} (f : Nat → α) (i : Nat) (x : α) : va_up f i x i = x := if_pos rfl
theorem vup_n {α : Type} {f : Nat → α} {i j : Nat} {x : α} (h : j ≠ i) : va_up f i x j = f j := if_neg h
/-- what a function leaves as it was -/
def Fr (p : Nat → Nat → Prop) (w w' : HS) : Prop := hc w' = hc w ∧ ∀ b k, ¬ p b k → hi w' b k = hi w b k ∧ hl w' b k = hl w b k ∧ hp w' b k = hp w b k ∧ ha w' b k = ha w b k ∧ hj w' b k = hj w b k ∧ hq w' b k = hq w b k
section FR
variable {p q : Nat → Nat → Prop} {w w' w'' : HS} {a k : Nat}
theorem Fr.refl : Fr p w w := ⟨rfl, fun _ _ _ => ⟨rfl, rfl, rfl, rfl, rfl, rfl⟩⟩
theorem Fr.trans (h : Fr p w w') (g : Fr p w' w'') : Fr p w w'' := ⟨g.1.trans h.1, fun b k n => ⟨((g.2 b k n).1).trans (h.2 b k n).1, ((g.2 b k n).2.1).trans (h.2 b k n).2.1, ((g.2 b k n).2.2.1).trans (h.2 b k n).2.2.1, ((g.2 b k n).2.2.2.1).trans (h.2 b k n).2.2.2.1, ((g.2 b k n).2.2.2.2.1).trans (h.2 b k n).2.2.2.2.1, ((g.2 b k n).2.2.2.2.2).trans (h.2 b k n).2.2.2.2.2⟩⟩
theorem Fr.mono (h : Fr p w w') (i : ∀ b k, p b k → q b k) : Fr q w w' := ⟨h.1, fun b k n => h.2 b k (fun x => n (i b k x))⟩
theorem Fr.c (h : Fr p w w') (a : Nat) : hc w' a = hc w a := by rw [h.1]
theorem Fr.i (h : Fr p w w') (n : ¬ p a k) : hi w' a k = hi w a k := (h.2 a k n).1
theorem Fr.l (h : Fr p w w') (n : ¬ p a k) : hl w' a k = hl w a k := (h.2 a k n).2.1
theorem Fr.o (h : Fr p w w') (n : ¬ p a k) : hp w' a k = hp w a k := (h.2 a k n).2.2.1
theorem Fr.ar (h : Fr p w w') (n : ¬ p a k) : ha w' a k = ha w a k := (h.2 a k n).2.2.2.1
theorem Fr.j (h : Fr p w w') (n : ¬ p a k) : hj w' a k = hj w a k := (h.2 a k n).2.2.2.2.1
theorem Fr.qq (h : Fr p w w') (n : ¬ p a k) : hq w' a k = hq w a k := (h.2 a k n).2.2.2.2.2
theorem up2_p {α : Type} {f : Nat → Nat → α} {x : α} {b j : Nat} (n : ¬ p b j) (h : p a k) : up2 f a k x b j = f b j := up2_ne (fun e => n (by rw [e.1, e.2]; exact h))
theorem Fr.sI {x : Int32} (h : p a k) : Fr p w (setI w a k x) := ⟨rfl, fun _ _ n => ⟨up2_p n h, rfl, rfl, rfl, rfl, rfl⟩⟩
theorem Fr.sL {x : Int64} (h : p a k) : Fr p w (setL w a k x) := ⟨rfl, fun _ _ n => ⟨rfl, up2_p n h, rfl, rfl, rfl, rfl⟩⟩
theorem Fr.sP {x : Option Nat} (h : p a k) : Fr p w (setP w a k x) := ⟨rfl, fun _ _ n => ⟨rfl, rfl, up2_p n h, rfl, rfl, rfl⟩⟩
theorem Fr.sR {f : Nat → Int32} (h : p a k) : Fr p w (setR w a k f) := ⟨rfl, fun _ _ n => ⟨rfl, rfl, rfl, up2_p n h, rfl, rfl⟩⟩
theorem Fr.sA {i : Nat} {x : Int32} (h : p a k) : Fr p w (setA w a k i x) := Fr.sR h
theorem Fr.sJ {i : Nat} {x : Int64} (h : p a k) : Fr p w (setJ w a k i x) := ⟨rfl, fun _ _ n => ⟨rfl, rfl, rfl, rfl, up2_p n h, rfl⟩⟩
theorem Fr.sQ {i : Nat} {x : Option Nat} (h : p a k) : Fr p w (setQ w a k i x) := ⟨rfl, fun _ _ n => ⟨rfl, rfl, rfl, rfl, rfl, up2_p n h⟩⟩
end FR
/-- a function answers, and what it answers is so -/
def Rn {α : Type} (x : Option (α × HS)) (Q : α → HS → Prop) : Prop := ∃ r w', x = some (r, w') ∧ Q r w'
section RN
variable {α β : Type} {Q : α → HS → Prop} {w : HS}
theorem Rn.ret {r : α} (h : Q r w) : Rn (some (r, w)) Q := ⟨r, w, rfl, h⟩
theorem Rn.ok {b : Bool} {x : Option (α × HS)} (hb : b = true) (h : Rn x Q) : Rn (okb b x) Q := by unfold okb; rw [if_pos hb]; exact h
theorem Rn.okc {a ci : Nat} {x : Option (α × HS)} (hb : hc w a = ci) (h : Rn x Q) : Rn (okb (hc w a == ci) x) Q := Rn.ok (by rw [hb]; exact beq_self_eq_true ci) h
theorem Rn.oki {i n : Nat} {j : Int32} {x : Option (α × HS)} (hj : j = nI i) (hb : i < n) (hn : n < 2 ^ 31) (h : Rn x Q) : Rn (okb (inb j n) x) Q := Rn.ok (by rw [hj]; exact inb_nI hb hn) h
theorem Rn.t {p : Prop} [Decidable p] {x y : Option (α × HS)} (hp : p) (h : Rn x Q) : Rn (if p then x else y) Q := by rw [if_pos hp]; exact h
theorem Rn.f {p : Prop} [Decidable p] {x y : Option (α × HS)} (hp : ¬ p) (h : Rn y Q) : Rn (if p then x else y) Q := by rw [if_neg hp]; exact h
theorem Rn.ite {p : Prop} [Decidable p] {x y : Option (α × HS)} (h1 : p → Rn x Q) (h2 : ¬ p → Rn y Q) : Rn (if p then x else y) Q := by
  by_cases hp : p
  · exact Rn.t hp (h1 hp)
  · exact Rn.f hp (h2 hp)
theorem Rn.bd {a : β} {f : β → Option (α × HS)} (h : Rn (f a) Q) : Rn (bnd a f) Q := h
theorem Rn.call {x : Option (β × HS)} {f : β × HS → Option (α × HS)} {P : β → HS → Prop} (e : Rn x P) (h : ∀ r w', P r w' → Rn (f (r, w')) Q) : Rn (x.bind f) Q := by
  obtain ⟨r, w', e1, p1⟩ := e
  rw [e1]
  exact h r w' p1
theorem Rn.eq {x : Option (β × HS)} {f : β × HS → Option (α × HS)} {r : β} {w' : HS} (e : x = some (r, w')) (h : Rn (f (r, w')) Q) : Rn (x.bind f) Q := by rw [e]; exact h
theorem Rn.pp {o : Option β} {f : β → Option (α × HS)} {a : β} (e : o = some a) (h : Rn (f a) Q) : Rn (o.bind f) Q := by rw [e]; exact h
theorem Rn.en {o : Option β} {x : Option (α × HS)} {f : β → Option (α × HS)} (e : o = none) (h : Rn x Q) : Rn (o.elim x f) Q := by rw [e]; exact h
theorem Rn.es {o : Option β} {x : Option (α × HS)} {f : β → Option (α × HS)} {a : β} (e : o = some a) (h : Rn (f a) Q) : Rn (o.elim x f) Q := by rw [e]; exact h
theorem Rn.mono {x : Option (α × HS)} {P : α → HS → Prop} (e : Rn x P) (h : ∀ r w', P r w' → Q r w') : Rn x Q := by
  obtain ⟨r, w', e1, p1⟩ := e
  exact ⟨r, w', e1, h r w' p1⟩
theorem Rn.of {x : Option (α × HS)} {r : α} {w' : HS} (e : x = some (r, w')) (h : Q r w') : Rn x Q := ⟨r, w', e, h⟩
end RN
theorem nI_mod8 : True := trivial
