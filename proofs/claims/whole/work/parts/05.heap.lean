/-! Rows of V that read or change the heap, return, and call. -/
theorem hw_sub {w : Cond} (h : w ∈ lw_tbl) (hg : goodWord w = true) : w ∈ hw_tbl := List.mem_filter.mpr ⟨h, hg⟩
theorem hw_good {w : Cond} (h : w ∈ hw_tbl) : (w.onTables && w.keeps) = true ∨ ∃ ty, w = .arrayClass ty := good_of_word (List.mem_filter.mp h).2
theorem va_P1 {D : va_G} {cl : List vw_C} {q : Nat × va_E} {H : Heap} (h : va_at D cl q H) : va_P D cl [q] H := by
  intro k x hx
  cases k with
  | zero => cases hx; exact h
  | succ k => simp at hx
def hCls (ci : Nat) (Cn : String) (T : u_T) (N : Nat) (ty : Nat → FieldType) : Prop := classes[ci]? = some (Cn, T, N) ∧ (∀ w ∈ u_ws Cn T N, w ∈ hw_tbl) ∧ (∀ k, k < N → parseFieldDescriptor (T k).2.2.1 = some (ty k)) ∧ ∀ a, a < N → ∀ b, b < N → a ≠ b → (T a).2.1 ≠ (T b).2.1
theorem hU.same {E : HE} {u U : State} {H : Heap} (hv : U.vm = u.vm) (h : hU E u H) : hU E U H := by
  obtain ⟨h1, h2, h3, h4, h5, ⟨h6, h7, h8, h9, h10⟩, h11, h12, h13⟩ := h
  have hA : u.vm.Alike U.vm := by rw [hv]; exact Vm.Alike.refl u.vm
  refine ⟨h1.moved hA, fun q m => va_Nw.same rfl hv.symm (h2 q m), h3, fun i q m => (h4 i q m).same hv, fun i hi => ?_, ⟨h6.moved hA, h7.moved hA, fun i hi => (h8 i hi).moved hA, h9.moved hA, h10.moved hA⟩, h11.moved hA, h12.moved hA, h13.moved hA⟩
  obtain ⟨q1, q2, q3, q4⟩ := h5 i hi
  exact ⟨q1.moved hA, q2.moved hA, q3.moved hA, q4.moved hA⟩
section VH
variable {K : HK} {E : HE} {R : Room} {nL : Nat} {Q : State → Prop} {cs sl sz : Nat} {g g' : PH} {pc : Nat} {L : List (Nat × Value)} {st : List Value} {cc : ByteArray} {own : String} {ret : Option FieldType} {a ci k i N : Nat} {Cn : String} {T : u_T} {ty : Nat → FieldType}
theorem V.getV (C : VC K E nL cc own ret) (kc : hCls ci Cn T N ty) {v : Value} (hk : k < N) (w : Cond.fieldLink own i (T k).1 (T k).2.1 (T k).2.2.1 ∈ hw_tbl) (hv : getV g a ci k = some v) (d : decode cc pc = .ok (.getfield i, 3)) (kk : V K E R nL Q cs sl sz g (pc + 3) L (v :: st)) : V K E R nL Q cs sl sz g pc L (.ref a :: st) := by
  intro H locs ls hz hh hs hl
  obtain ⟨fs, hga, hfk⟩ := getV_spec hv
  exact va_get (D := eD E) (cl := classes) (ws := [(a, .inr (ci, fs))]) (tys := hTy E) C.1 C.2.1 C.2.2.2.2.1 kc.2.1 C.2.2.2.1 C.2.2.2.2.2.1.1 (va_P1 (hh a _ hga).1) 0 rfl kc.1 k hk (C.2.2.2.2.1 _ w) (fun _ h => h) hfk d (kk H locs ls hz hh hs hl)
theorem V.getI (C : VC K E nL cc own ret) (kc : hCls ci Cn T N ty) {x : Int32} (hk : k < N) (w : Cond.fieldLink own i (T k).1 (T k).2.1 (T k).2.2.1 ∈ hw_tbl) (hv : getI g a ci k = some x) (d : decode cc pc = .ok (.getfield i, 3)) (kk : V K E R nL Q cs sl sz g (pc + 3) L (.int x :: st)) : V K E R nL Q cs sl sz g pc L (.ref a :: st) := V.getV C kc hk w (getI_spec hv) d kk
theorem V.getL (C : VC K E nL cc own ret) (kc : hCls ci Cn T N ty) {x : Int64} (hk : k < N) (w : Cond.fieldLink own i (T k).1 (T k).2.1 (T k).2.2.1 ∈ hw_tbl) (hv : getL g a ci k = some x) (d : decode cc pc = .ok (.getfield i, 3)) (kk : V K E R nL Q cs sl sz g (pc + 3) L (.long x :: st)) : V K E R nL Q cs sl sz g pc L (.ref a :: st) := V.getV C kc hk w (getL_spec hv) d kk
theorem V.getQ (C : VC K E nL cc own ret) (kc : hCls ci Cn T N ty) {x : Option Nat} (hk : k < N) (w : Cond.fieldLink own i (T k).1 (T k).2.1 (T k).2.2.1 ∈ hw_tbl) (hv : getQ g a ci k = some x) (d : decode cc pc = .ok (.getfield i, 3)) (kk : V K E R nL Q cs sl sz g (pc + 3) L (va_rf x :: st)) : V K E R nL Q cs sl sz g pc L (.ref a :: st) := V.getV C kc hk w (getQ_spec hv) d kk
theorem V.putX (C : VC K E nL cc own ret) (kc : hCls ci Cn T N ty) {v : Value} (hk : k < N) (w : Cond.fieldLink own i (T k).1 (T k).2.1 (T k).2.2.1 ∈ hw_tbl) (hfin : (T k).2.2.2 = false) (hn : narrow (ty k) v = v) (hfit : fits (ty k) v = true) (hv : putV g a ci k v = some g') (d : decode cc pc = .ok (.putfield i, 3)) (kk : V K E R nL Q cs sl sz g' (pc + 3) L st) : V K E R nL Q cs sl sz g pc L (v :: .ref a :: st) := by
  intro H locs ls hz hh hs hl
  obtain ⟨fs, hga, hlen, rfl⟩ := putV_spec hv
  have hK := C.2.2.2.2.2.1.1
  have hts := C.2.2.2.2.1
  have hap := va_apart (own := own) hts kc.2.1 ty kc.2.2.1 kc.2.2.2 hK kc.1
  obtain ⟨hat, hba⟩ := hh a _ hga
  obtain ⟨r, h1, cell, q1, q2, q3, q4⟩ := hat
  have hr : r = (Cn, T, N) := Option.some.inj (h1.symm.trans kc.1)
  subst hr
  obtain ⟨hS, hfc, kC, hkC, hkind⟩ := hK.1 ci _ kc.1
  obtain ⟨cf, kf, fi, f, hi, hsl⟩ := hS k hk
  have hlay := hts _ (kc.2.1 _ (u_in_lay hk))
  unfold u_lay at hlay
  rw [if_neg (by rw [hfin]; decide)] at hlay
  have hst := (u_facts hfc hkC (u_lays hts kc.2.1 hk) hi).1
  have h6 := u_store hfc hkC hkind hlay hi (kc.2.2.1 k hk) hn hfit
  refine W.putK C.1 C.2.1 (f := f) ⟨C.2.2.2.1, hts _ w, ⟨_, _, _, hi⟩, hst⟩ (by rw [q2]; exact h6) q1 q3 (by rw [hsl]; exact k2_hasslot (q4 k hk)) rfl rfl d fun H' e1 e2 e3 => ?_
  rw [hsl] at e1 ⊢
  exact kk H' _ ls (e2.trans hz) (hh.put hba ⟨_, kc.1, t_OB.to (V := updV (vp_V fs) k v) ⟨_, e1, q2, q3, t_set q4 hap hk v⟩ (fun j _ => vp_updV_set hlen v j)⟩ e3) (hs.put e2 e3 hba) hl
theorem V.putF (C : VC K E nL cc own ret) (kc : hCls ci Cn T N ty) {v : Value} (hk : k < N) (w : Cond.fieldLink own i (T k).1 (T k).2.1 (T k).2.2.1 ∈ hw_tbl) (hfin : (T k).2.2.2 = true) (hin : K.2.2.2.2.2.2.2.1.name = "<init>") (hdecl : (T k).1 = own) (hn : narrow (ty k) v = v) (hfit : fits (ty k) v = true) (hv : putV g a ci k v = some g') (d : decode cc pc = .ok (.putfield i, 3)) (kk : V K E R nL Q cs sl sz g' (pc + 3) L st) : V K E R nL Q cs sl sz g pc L (v :: .ref a :: st) := by
  intro H locs ls hz hh hs hl
  obtain ⟨fs, hga, hlen, rfl⟩ := putV_spec hv
  have hK := C.2.2.2.2.2.1.1
  have hts := C.2.2.2.2.1
  have hap := va_apart (own := own) hts kc.2.1 ty kc.2.2.1 kc.2.2.2 hK kc.1
  obtain ⟨hat, hba⟩ := hh a _ hga
  obtain ⟨r, h1, cell, q1, q2, q3, q4⟩ := hat
  have hr : r = (Cn, T, N) := Option.some.inj (h1.symm.trans kc.1)
  subst hr
  obtain ⟨hS, hfc, kC, hkC, hkind⟩ := hK.1 ci _ kc.1
  obtain ⟨cf, kf, fi, f, hi, hsl⟩ := hS k hk
  have hlay := hts _ (kc.2.1 _ (u_in_lay hk))
  unfold u_lay at hlay
  rw [if_pos hfin] at hlay
  have hst := (u_facts hfc hkC (u_lays hts kc.2.1 hk) hi).1
  have hcf : K.2.2.2.2.1.cls = cf := by
    obtain ⟨_, _, c', _, _, _, -, -, hf', -, -, -, hown2, -⟩ := Cond.laysFinal_spec hlay
    have e1 : c' = cf := by have := hi.symm.trans hf'; simp at this; exact this.1.symm
    rw [hdecl] at hown2
    rw [← e1]; exact Option.some.inj (C.2.2.2.1.symm.trans hown2)
  have h6 := u_fits hfc hkC hkind (Or.inr hlay) hi (kc.2.2.1 k hk) hn hfit
  refine W.putFinK C.1 C.2.1 C.2.2.2.1 (hts _ w) hi hst hcf hin (by rw [q2]; exact h6) q1 q3 (by rw [hsl]; exact k2_hasslot (q4 k hk)) rfl rfl d fun H' e1 e2 e3 => ?_
  rw [hsl] at e1 ⊢
  exact kk H' _ ls (e2.trans hz) (hh.put hba ⟨_, kc.1, t_OB.to (V := updV (vp_V fs) k v) ⟨_, e1, q2, q3, t_set q4 hap hk v⟩ (fun j _ => vp_updV_set hlen v j)⟩ e3) (hs.put e2 e3 hba) hl

theorem V.iald (C : VC K E nL cc own ret) {j x : Int32} (hv : ldI g a 0 j = some x) (d : decode cc pc = .ok (.iaload, 1)) (kk : V K E R nL Q cs sl sz g (pc + 1) L (.int x :: st)) : V K E R nL Q cs sl sz g pc L (.int j :: .ref a :: st) := by
  intro H locs ls hz hh hs hl
  obtain ⟨n, f, hga, hin, rfl⟩ := ldI_spec hv
  exact va_iald (D := eD E) (cl := classes) (ws := [(a, hcn E (.inl (0, n, .inl f)))]) (tys := hTy E) C.1 C.2.1 C.2.2.2.2.2.1.1 (va_P1 (hh a _ hga).1) 0 0 rfl rfl hin d (kk H locs ls hz hh hs hl)
theorem V.bald (C : VC K E nL cc own ret) {j x : Int32} (hv : ldI g a 1 j = some x) (d : decode cc pc = .ok (.baload, 1)) (kk : V K E R nL Q cs sl sz g (pc + 1) L (.int x :: st)) : V K E R nL Q cs sl sz g pc L (.int j :: .ref a :: st) := by
  intro H locs ls hz hh hs hl
  obtain ⟨n, f, hga, hin, rfl⟩ := ldI_spec hv
  exact va_bald (D := eD E) (cl := classes) (ws := [(a, hcn E (.inl (1, n, .inl f)))]) (tys := hTy E) C.1 C.2.1 C.2.2.2.2.2.1.1 (va_P1 (hh a _ hga).1) 0 1 rfl rfl hin d (kk H locs ls hz hh hs hl)
theorem V.zald (C : VC K E nL cc own ret) {j x : Int32} (hv : ldI g a 3 j = some x) (d : decode cc pc = .ok (.baload, 1)) (kk : V K E R nL Q cs sl sz g (pc + 1) L (.int x :: st)) : V K E R nL Q cs sl sz g pc L (.int j :: .ref a :: st) := by
  intro H locs ls hz hh hs hl
  obtain ⟨n, f, hga, hin, rfl⟩ := ldI_spec hv
  exact va_zald (D := eD E) (cl := classes) (ws := [(a, hcn E (.inl (3, n, .inl f)))]) (tys := hTy E) C.1 C.2.1 C.2.2.2.2.2.1.1 (va_P1 (hh a _ hga).1) 0 3 rfl rfl hin d (kk H locs ls hz hh hs hl)
theorem V.lald (C : VC K E nL cc own ret) {j : Int32} {x : Int64} (hv : ldL g a j = some x) (d : decode cc pc = .ok (.laload, 1)) (kk : V K E R nL Q cs sl sz g (pc + 1) L (.long x :: st)) : V K E R nL Q cs sl sz g pc L (.int j :: .ref a :: st) := by
  intro H locs ls hz hh hs hl
  obtain ⟨n, f, hga, hin, rfl⟩ := ldL_spec hv
  exact va_lald (D := eD E) (cl := classes) (ws := [(a, hcn E (.inl (2, n, .inr (.inl f))))]) (tys := hTy E) C.1 C.2.1 C.2.2.2.2.2.1.1 (va_P1 (hh a _ hga).1) 0 2 rfl rfl hin d (kk H locs ls hz hh hs hl)
theorem V.aald4 (C : VC K E nL cc own ret) {j : Int32} {x : Option Nat} (hv : ldQ g a 4 j = some x) (d : decode cc pc = .ok (.aaload, 1)) (kk : V K E R nL Q cs sl sz g (pc + 1) L (va_rf x :: st)) : V K E R nL Q cs sl sz g pc L (.int j :: .ref a :: st) := by
  intro H locs ls hz hh hs hl
  obtain ⟨n, f, hga, hin, rfl⟩ := ldQ_spec hv
  exact va_aldq (D := eD E) (cl := classes) (ws := [(a, hcn E (.inl (4, n, .inr (.inr (.inr (.inr f))))))]) (tys := hTy E) C.1 C.2.1 C.2.2.2.2.2.1.1 (va_P1 (hh a _ hga).1) 0 4 rfl rfl hin d (kk H locs ls hz hh hs hl)
theorem V.aald5 (C : VC K E nL cc own ret) {j : Int32} {x : Option Nat} (hv : ldQ g a 5 j = some x) (d : decode cc pc = .ok (.aaload, 1)) (kk : V K E R nL Q cs sl sz g (pc + 1) L (va_rf x :: st)) : V K E R nL Q cs sl sz g pc L (.int j :: .ref a :: st) := by
  intro H locs ls hz hh hs hl
  obtain ⟨n, f, hga, hin, rfl⟩ := ldQ_spec hv
  exact va_aldq (D := eD E) (cl := classes) (ws := [(a, hcn E (.inl (5, n, .inr (.inr (.inr (.inr f))))))]) (tys := hTy E) C.1 C.2.1 C.2.2.2.2.2.1.1 (va_P1 (hh a _ hga).1) 0 5 rfl rfl hin d (kk H locs ls hz hh hs hl)
theorem V.aald6 (C : VC K E nL cc own ret) {j : Int32} {x : Option Nat} (hv : ldQ g a 6 j = some x) (d : decode cc pc = .ok (.aaload, 1)) (kk : V K E R nL Q cs sl sz g (pc + 1) L (va_rf x :: st)) : V K E R nL Q cs sl sz g pc L (.int j :: .ref a :: st) := by
  intro H locs ls hz hh hs hl
  obtain ⟨n, f, hga, hin, rfl⟩ := ldQ_spec hv
  exact va_aldq (D := eD E) (cl := classes) (ws := [(a, hcn E (.inl (6, n, .inr (.inr (.inr (.inr f))))))]) (tys := hTy E) C.1 C.2.1 C.2.2.2.2.2.1.1 (va_P1 (hh a _ hga).1) 0 6 rfl rfl hin d (kk H locs ls hz hh hs hl)
theorem V.iast (C : VC K E nL cc own ret) {j x : Int32} (hv : stI g a 0 j x = some g') (d : decode cc pc = .ok (.iastore, 1)) (kk : V K E R nL Q cs sl sz g' (pc + 1) L st) : V K E R nL Q cs sl sz g pc L (.int x :: .int j :: .ref a :: st) := by
  intro H locs ls hz hh hs hl
  obtain ⟨n, f, hga, hin, rfl⟩ := stI_spec hv
  obtain ⟨hat, hba⟩ := hh a _ hga
  refine W.iast C.1 C.2.1 hat ((C.2.2.2.2.2.1.1.2 0 _ rfl).1 n (fun j => .int (f j))) (fun q => by cases q) (by show ¬ (j < 0 ∨ (arrV _ _ _).slots.size ≤ _); rw [arrV_size]; exact hin) rfl rfl d fun H1 e z oq => ?_
  refine kk H1 _ ls (z.trans hz) (hh.put hba ?_ oq) (hs.put z oq hba) hl
  show H1[a]? = some (vp_cell _ _)
  rw [e, vp_cell_i, vp_cell_i, arrV_store]
  congr 2
  funext q
  by_cases hq : q = j.toNatClampNeg
  · subst hq
    simp [updV, upd, vp_nar]
    try rfl
  · simp [updV, upd, hq]
theorem V.bast (C : VC K E nL cc own ret) {j x : Int32} (hv : stI g a 1 j (vp_nar .byte x) = some g') (d : decode cc pc = .ok (.bastore, 1)) (kk : V K E R nL Q cs sl sz g' (pc + 1) L st) : V K E R nL Q cs sl sz g pc L (.int x :: .int j :: .ref a :: st) := by
  intro H locs ls hz hh hs hl
  obtain ⟨n, f, hga, hin, rfl⟩ := stI_spec hv
  obtain ⟨hat, hba⟩ := hh a _ hga
  refine W.bast C.1 C.2.1 hat ((C.2.2.2.2.2.1.1.2 1 _ rfl).1 n (fun j => .int (f j))) (fun q => by cases q) (by show ¬ (j < 0 ∨ (arrV _ _ _).slots.size ≤ _); rw [arrV_size]; exact hin) rfl rfl d fun H1 e z oq => ?_
  refine kk H1 _ ls (z.trans hz) (hh.put hba ?_ oq) (hs.put z oq hba) hl
  show H1[a]? = some (vp_cell _ _)
  rw [e, vp_cell_i, vp_cell_i, arrV_store]
  congr 2
  funext q
  by_cases hq : q = j.toNatClampNeg
  · subst hq
    simp [updV, upd, vp_nar]
    try rfl
  · simp [updV, upd, hq]
theorem V.zast (C : VC K E nL cc own ret) {j x : Int32} (hv : stI g a 3 j (vp_nar .boolean x) = some g') (d : decode cc pc = .ok (.bastore, 1)) (kk : V K E R nL Q cs sl sz g' (pc + 1) L st) : V K E R nL Q cs sl sz g pc L (.int x :: .int j :: .ref a :: st) := by
  intro H locs ls hz hh hs hl
  obtain ⟨n, f, hga, hin, rfl⟩ := stI_spec hv
  obtain ⟨hat, hba⟩ := hh a _ hga
  refine W.zast C.1 C.2.1 hat ((C.2.2.2.2.2.1.1.2 3 _ rfl).1 n (fun j => .int (f j))) (fun q => by cases q) (by show ¬ (j < 0 ∨ (arrV _ _ _).slots.size ≤ _); rw [arrV_size]; exact hin) rfl rfl d fun H1 e z oq => ?_
  refine kk H1 _ ls (z.trans hz) (hh.put hba ?_ oq) (hs.put z oq hba) hl
  show H1[a]? = some (vp_cell _ _)
  rw [e, vp_cell_i, vp_cell_i, arrV_store]
  congr 2
  funext q
  by_cases hq : q = j.toNatClampNeg
  · subst hq
    simp [updV, upd, vp_nar]
    try rfl
  · simp [updV, upd, hq]
theorem V.last (C : VC K E nL cc own ret) {j : Int32} {x : Int64} (hv : stL g a j x = some g') (d : decode cc pc = .ok (.lastore, 1)) (kk : V K E R nL Q cs sl sz g' (pc + 1) L st) : V K E R nL Q cs sl sz g pc L (.long x :: .int j :: .ref a :: st) := by
  intro H locs ls hz hh hs hl
  obtain ⟨n, f, hga, hin, rfl⟩ := stL_spec hv
  obtain ⟨hat, hba⟩ := hh a _ hga
  refine W.last C.1 C.2.1 hat ((C.2.2.2.2.2.1.1.2 2 _ rfl).1 n (fun j => .long (f j))) (fun q => by cases q) (by show ¬ (j < 0 ∨ (arrV _ _ _).slots.size ≤ _); rw [arrV_size]; exact hin) rfl rfl d fun H1 e z oq => ?_
  refine kk H1 _ ls (z.trans hz) (hh.put hba ?_ oq) (hs.put z oq hba) hl
  show H1[a]? = some (vp_cell _ _)
  rw [e, vp_cell_l, vp_cell_l, arrV_store]
  congr 2
  funext q
  by_cases hq : q = j.toNatClampNeg
  · subst hq
    simp [updV, vp_updL]
  · simp [updV, vp_updL, hq]
theorem V.aast4 (C : VC K E nL cc own ret) {j : Int32} {x : Nat} (hv : stQ g a 4 1 j x = some g') (d : decode cc pc = .ok (.aastore, 1)) (kk : V K E R nL Q cs sl sz g' (pc + 1) L st) : V K E R nL Q cs sl sz g pc L (.ref x :: .int j :: .ref a :: st) := by
  intro H locs ls hz hh hs hl
  obtain ⟨n, f, fs, hga, hin, hgx, rfl⟩ := stQ_spec hv
  obtain ⟨hat, hba⟩ := hh a _ hga
  have hK := C.2.2.2.2.2.1.1
  have hlt : j.toNatClampNeg < n := Nat.not_le.mp fun q => hin (Or.inr q)
  have h0 : ¬ j < 0 := fun q => hin (Or.inl q)
  obtain ⟨r', hr', cellV, g1, g2, g3, -⟩ := (hh x _ hgx).1
  have hcls := (hK.1 1 _ rfl).2
  obtain ⟨kA, comp, k1, k2, k3, -⟩ := (hK.2 4 _ rfl).2
  have hcomp : comp = (eD E).1 1 := Option.some.inj (k3.symm.trans hcls.1)
  subst hcomp
  obtain ⟨kC, hkC, -⟩ := hcls.2
  refine W.aast C.1 C.2.1 hat (fun q h => by cases h) (fun h => by cases h) k1 k2 rfl hkC ⟨h0, by show _ < (arrV _ _ _).slots.size; rw [arrV_size]; exact hlt⟩ g1 (fun q h => by rw [g3] at h; cases h) (by rw [g2]; exact hkC) (by rw [g2]; exact va_assign hcls) rfl rfl d fun H1 e z oq => ?_
  refine kk H1 _ ls (z.trans hz) (hh.put hba ?_ oq) (hs.put z oq hba) hl
  show H1[a]? = some (vp_cell _ _)
  rw [e, vp_cell_q, vp_cell_q, arrV_store]
  congr 2
  funext q
  by_cases hq : q = j.toNatClampNeg
  · subst hq
    simp [updV, va_up, va_rf]
  · simp [updV, va_up, hq]
theorem V.aast5 (C : VC K E nL cc own ret) {j : Int32} {x : Nat} (hv : stQ g a 5 2 j x = some g') (d : decode cc pc = .ok (.aastore, 1)) (kk : V K E R nL Q cs sl sz g' (pc + 1) L st) : V K E R nL Q cs sl sz g pc L (.ref x :: .int j :: .ref a :: st) := by
  intro H locs ls hz hh hs hl
  obtain ⟨n, f, fs, hga, hin, hgx, rfl⟩ := stQ_spec hv
  obtain ⟨hat, hba⟩ := hh a _ hga
  have hK := C.2.2.2.2.2.1.1
  have hlt : j.toNatClampNeg < n := Nat.not_le.mp fun q => hin (Or.inr q)
  have h0 : ¬ j < 0 := fun q => hin (Or.inl q)
  obtain ⟨r', hr', cellV, g1, g2, g3, -⟩ := (hh x _ hgx).1
  have hcls := (hK.1 2 _ rfl).2
  obtain ⟨kA, comp, k1, k2, k3, -⟩ := (hK.2 5 _ rfl).2
  have hcomp : comp = (eD E).1 2 := Option.some.inj (k3.symm.trans hcls.1)
  subst hcomp
  obtain ⟨kC, hkC, -⟩ := hcls.2
  refine W.aast C.1 C.2.1 hat (fun q h => by cases h) (fun h => by cases h) k1 k2 rfl hkC ⟨h0, by show _ < (arrV _ _ _).slots.size; rw [arrV_size]; exact hlt⟩ g1 (fun q h => by rw [g3] at h; cases h) (by rw [g2]; exact hkC) (by rw [g2]; exact va_assign hcls) rfl rfl d fun H1 e z oq => ?_
  refine kk H1 _ ls (z.trans hz) (hh.put hba ?_ oq) (hs.put z oq hba) hl
  show H1[a]? = some (vp_cell _ _)
  rw [e, vp_cell_q, vp_cell_q, arrV_store]
  congr 2
  funext q
  by_cases hq : q = j.toNatClampNeg
  · subst hq
    simp [updV, va_up, va_rf]
  · simp [updV, va_up, hq]
theorem V.aast6 (C : VC K E nL cc own ret) {j : Int32} {x : Nat} (hv : stQ g a 6 3 j x = some g') (d : decode cc pc = .ok (.aastore, 1)) (kk : V K E R nL Q cs sl sz g' (pc + 1) L st) : V K E R nL Q cs sl sz g pc L (.ref x :: .int j :: .ref a :: st) := by
  intro H locs ls hz hh hs hl
  obtain ⟨n, f, fs, hga, hin, hgx, rfl⟩ := stQ_spec hv
  obtain ⟨hat, hba⟩ := hh a _ hga
  have hK := C.2.2.2.2.2.1.1
  have hlt : j.toNatClampNeg < n := Nat.not_le.mp fun q => hin (Or.inr q)
  have h0 : ¬ j < 0 := fun q => hin (Or.inl q)
  obtain ⟨r', hr', cellV, g1, g2, g3, -⟩ := (hh x _ hgx).1
  have hcls := (hK.1 3 _ rfl).2
  obtain ⟨kA, comp, k1, k2, k3, -⟩ := (hK.2 6 _ rfl).2
  have hcomp : comp = (eD E).1 3 := Option.some.inj (k3.symm.trans hcls.1)
  subst hcomp
  obtain ⟨kC, hkC, -⟩ := hcls.2
  refine W.aast C.1 C.2.1 hat (fun q h => by cases h) (fun h => by cases h) k1 k2 rfl hkC ⟨h0, by show _ < (arrV _ _ _).slots.size; rw [arrV_size]; exact hlt⟩ g1 (fun q h => by rw [g3] at h; cases h) (by rw [g2]; exact hkC) (by rw [g2]; exact va_assign hcls) rfl rfl d fun H1 e z oq => ?_
  refine kk H1 _ ls (z.trans hz) (hh.put hba ?_ oq) (hs.put z oq hba) hl
  show H1[a]? = some (vp_cell _ _)
  rw [e, vp_cell_q, vp_cell_q, arrV_store]
  congr 2
  funext q
  by_cases hq : q = j.toNatClampNeg
  · subst hq
    simp [updV, va_up, va_rf]
  · simp [updV, va_up, hq]
theorem alen_spec {g : PH} {a : Nat} {n : Int32} (h : alen g a = some n) : ∃ (kd : Nat) (x : vp_A), g a = some (.inl (kd, x)) ∧ kd < 7 ∧ n = Int32.ofNat x.1 := by
  unfold alen at h
  split at h
  · rename_i x hx
    by_cases e : x.1 < 7
    · rw [if_pos e] at h
      cases h
      exact ⟨x.1, x.2, hx, e, rfl⟩
    · rw [if_neg e] at h
      cases h
  · cases h
theorem V.alen (C : VC K E nL cc own ret) {n : Int32} (hv : alen g a = some n) (d : decode cc pc = .ok (.arraylength, 1)) (kk : V K E R nL Q cs sl sz g (pc + 1) L (.int n :: st)) : V K E R nL Q cs sl sz g pc L (.ref a :: st) := by
  intro H locs ls hz hh hs hl
  obtain ⟨kd, x, hga, hk, rfl⟩ := alen_spec hv
  obtain ⟨ty, ht⟩ : ∃ ty, (hTy E)[kd]? = some (eC E kd, ty) := by
    rcases (show kd = 0 ∨ kd = 1 ∨ kd = 2 ∨ kd = 3 ∨ kd = 4 ∨ kd = 5 ∨ kd = 6 by omega) with rfl | rfl | rfl | rfl | rfl | rfl | rfl <;> exact ⟨_, rfl⟩
  exact va_alen (D := eD E) (cl := classes) (ws := [(a, hcn E (.inl (kd, x)))]) (tys := hTy E) C.1 C.2.1 C.2.2.2.2.2.1.1 (va_P1 (hh a _ hga).1) 0 kd rfl ht rfl d (kk H locs ls hz hh hs hl)
theorem V.newI (C : VC K E nL cc own ret) {n : Int32} {M : Nat} (w : Cond.arrayClass .int ∈ hw_tbl) (hn : ¬ n < 0) (hN : n.toNatClampNeg = M) (hb : M * 8 ≤ 536870912) (hc : cs + 1 ≤ R.cells) (hsl : sl + M ≤ R.slots) (d : decode cc pc = .ok (.newarray .int, 2)) (kk : V K E R nL Q (cs + 1) (sl + M) (sz + 1) (hup g sz (.inl (0, M, .inl (fun _ => 0)))) (pc + 2) L (.ref sz :: st)) : V K E R nL Q cs sl sz g pc L (.int n :: st) := by
  intro H locs ls hz hh hs hl
  subst hz
  refine va_newaK C.1 C.2.1 (atype := .int) (C.2.2.2.2.1 _ w) rfl d rfl hn hN (Nat.le_trans (Nat.mul_le_mul_left M (by decide)) hb) hc hsl rfl fun H1 cA e1 z1 o1 hAr hNm => ?_
  have hca : cA = eC E 0 := by
    have h1 : K.2.2.2.1.vm.findClass ("[" ++ (FieldType.int).toString) = some (eC E 0) := (C.2.2.2.2.2.1.1.2 0 _ rfl).2
    exact Option.some.inj (hNm.symm.trans h1)
  subst hca
  have hbs : eB E ≤ H.size := Nat.le_trans C.2.2.2.2.2.1.2.2.1 hs.1
  refine kk H1 _ ls z1 (hh.push rfl hbs ?_ o1) ⟨Nat.le_trans hs.1 (by omega), fun x h1 h2 => (o1 x (Nat.lt_of_lt_of_le h1 hs.1)).trans (hs.2.1 x h1 h2), hs.2.2⟩ hl
  exact e1
theorem V.newB (C : VC K E nL cc own ret) {n : Int32} {M : Nat} (w : Cond.arrayClass .byte ∈ hw_tbl) (hn : ¬ n < 0) (hN : n.toNatClampNeg = M) (hb : M * 8 ≤ 536870912) (hc : cs + 1 ≤ R.cells) (hsl : sl + M ≤ R.slots) (d : decode cc pc = .ok (.newarray .byte, 2)) (kk : V K E R nL Q (cs + 1) (sl + M) (sz + 1) (hup g sz (.inl (1, M, .inl (fun _ => 0)))) (pc + 2) L (.ref sz :: st)) : V K E R nL Q cs sl sz g pc L (.int n :: st) := by
  intro H locs ls hz hh hs hl
  subst hz
  refine va_newaK C.1 C.2.1 (atype := .byte) (C.2.2.2.2.1 _ w) rfl d rfl hn hN (Nat.le_trans (Nat.mul_le_mul_left M (by decide)) hb) hc hsl rfl fun H1 cA e1 z1 o1 hAr hNm => ?_
  have hca : cA = eC E 1 := by
    have h1 : K.2.2.2.1.vm.findClass ("[" ++ (FieldType.byte).toString) = some (eC E 1) := (C.2.2.2.2.2.1.1.2 1 _ rfl).2
    exact Option.some.inj (hNm.symm.trans h1)
  subst hca
  have hbs : eB E ≤ H.size := Nat.le_trans C.2.2.2.2.2.1.2.2.1 hs.1
  refine kk H1 _ ls z1 (hh.push rfl hbs ?_ o1) ⟨Nat.le_trans hs.1 (by omega), fun x h1 h2 => (o1 x (Nat.lt_of_lt_of_le h1 hs.1)).trans (hs.2.1 x h1 h2), hs.2.2⟩ hl
  exact e1
theorem V.newJ (C : VC K E nL cc own ret) {n : Int32} {M : Nat} (w : Cond.arrayClass .long ∈ hw_tbl) (hn : ¬ n < 0) (hN : n.toNatClampNeg = M) (hb : M * 8 ≤ 536870912) (hc : cs + 1 ≤ R.cells) (hsl : sl + M ≤ R.slots) (d : decode cc pc = .ok (.newarray .long, 2)) (kk : V K E R nL Q (cs + 1) (sl + M) (sz + 1) (hup g sz (.inl (2, M, .inr (.inl (fun _ => 0))))) (pc + 2) L (.ref sz :: st)) : V K E R nL Q cs sl sz g pc L (.int n :: st) := by
  intro H locs ls hz hh hs hl
  subst hz
  refine va_newaK C.1 C.2.1 (atype := .long) (C.2.2.2.2.1 _ w) rfl d rfl hn hN (Nat.le_trans (Nat.mul_le_mul_left M (by decide)) hb) hc hsl rfl fun H1 cA e1 z1 o1 hAr hNm => ?_
  have hca : cA = eC E 2 := by
    have h1 : K.2.2.2.1.vm.findClass ("[" ++ (FieldType.long).toString) = some (eC E 2) := (C.2.2.2.2.2.1.1.2 2 _ rfl).2
    exact Option.some.inj (hNm.symm.trans h1)
  subst hca
  have hbs : eB E ≤ H.size := Nat.le_trans C.2.2.2.2.2.1.2.2.1 hs.1
  refine kk H1 _ ls z1 (hh.push rfl hbs ?_ o1) ⟨Nat.le_trans hs.1 (by omega), fun x h1 h2 => (o1 x (Nat.lt_of_lt_of_le h1 hs.1)).trans (hs.2.1 x h1 h2), hs.2.2⟩ hl
  exact e1
theorem V.newZ (C : VC K E nL cc own ret) {n : Int32} {M : Nat} (w : Cond.arrayClass .boolean ∈ hw_tbl) (hn : ¬ n < 0) (hN : n.toNatClampNeg = M) (hb : M * 8 ≤ 536870912) (hc : cs + 1 ≤ R.cells) (hsl : sl + M ≤ R.slots) (d : decode cc pc = .ok (.newarray .boolean, 2)) (kk : V K E R nL Q (cs + 1) (sl + M) (sz + 1) (hup g sz (.inl (3, M, .inl (fun _ => 0)))) (pc + 2) L (.ref sz :: st)) : V K E R nL Q cs sl sz g pc L (.int n :: st) := by
  intro H locs ls hz hh hs hl
  subst hz
  refine va_newaK C.1 C.2.1 (atype := .boolean) (C.2.2.2.2.1 _ w) rfl d rfl hn hN (Nat.le_trans (Nat.mul_le_mul_left M (by decide)) hb) hc hsl rfl fun H1 cA e1 z1 o1 hAr hNm => ?_
  have hca : cA = eC E 3 := by
    have h1 : K.2.2.2.1.vm.findClass ("[" ++ (FieldType.boolean).toString) = some (eC E 3) := (C.2.2.2.2.2.1.1.2 3 _ rfl).2
    exact Option.some.inj (hNm.symm.trans h1)
  subst hca
  have hbs : eB E ≤ H.size := Nat.le_trans C.2.2.2.2.2.1.2.2.1 hs.1
  refine kk H1 _ ls z1 (hh.push rfl hbs ?_ o1) ⟨Nat.le_trans hs.1 (by omega), fun x h1 h2 => (o1 x (Nat.lt_of_lt_of_le h1 hs.1)).trans (hs.2.1 x h1 h2), hs.2.2⟩ hl
  exact e1
theorem V.anew4 (C : VC K E nL cc own ret) {n : Int32} {M : Nat} (w : Cond.classLink own i RX1 ∈ hw_tbl) (hn : ¬ n < 0) (hN : n.toNatClampNeg = M) (hb : M * 4 ≤ 536870912) (hc : cs + 1 ≤ R.cells) (hsl : sl + M ≤ R.slots) (d : decode cc pc = .ok (.anewarray i, 3)) (kk : V K E R nL Q (cs + 1) (sl + M) (sz + 1) (hup g sz (.inl (4, M, .inr (.inr (.inr (.inr (fun _ => none))))))) (pc + 3) L (.ref sz :: st)) : V K E R nL Q cs sl sz g pc L (.int n :: st) := by
  intro H locs ls hz hh hs hl
  subst hz
  subst hN
  refine W.anew C.1 C.2.1 C.2.2.2.1 (C.2.2.2.2.1 _ w) (va_AO.use C.2.2.2.2.2.1.2.2.2.2.2.2.1) rfl d rfl hn hb hc hsl fun cA kA comp f1 f2 f3 f4 => ?_
  have hca : cA = eC E 4 := by
    obtain ⟨_, _, _, _, _, h1⟩ := (C.2.2.2.2.2.1.1.2 4 _ rfl).2
    exact Option.some.inj (f1.symm.trans h1)
  subst hca
  generalize hH1 : H.push ({ cls := eC E 4, slots := Array.replicate n.toNatClampNeg .null, vm := .none } : Cell) = H1
  have z1 : H1.size = H.size + 1 := by rw [← hH1, Array.size_push]
  have e1 : H1[H.size]? = some (arrV (eC E 4) n.toNatClampNeg (fun _ => .null)) := by rw [← hH1, Array.getElem?_push_size, ← arrV_new]
  have o1 : ∀ q : Nat, q < H.size → H1[q]? = H[q]? := fun q hq => by rw [← hH1, Array.getElem?_push, if_neg (Nat.ne_of_lt hq)]
  have hbs : eB E ≤ H.size := Nat.le_trans C.2.2.2.2.2.1.2.2.1 hs.1
  refine kk H1 _ ls z1 (hh.push rfl hbs ?_ o1) ⟨Nat.le_trans hs.1 (by omega), fun x h1 h2 => (o1 x (Nat.lt_of_lt_of_le h1 hs.1)).trans (hs.2.1 x h1 h2), hs.2.2⟩ hl
  show H1[H.size]? = some (vp_cell _ _)
  rw [vp_cell_q]
  exact e1
theorem V.anew5 (C : VC K E nL cc own ret) {n : Int32} {M : Nat} (w : Cond.classLink own i RX2 ∈ hw_tbl) (hn : ¬ n < 0) (hN : n.toNatClampNeg = M) (hb : M * 4 ≤ 536870912) (hc : cs + 1 ≤ R.cells) (hsl : sl + M ≤ R.slots) (d : decode cc pc = .ok (.anewarray i, 3)) (kk : V K E R nL Q (cs + 1) (sl + M) (sz + 1) (hup g sz (.inl (5, M, .inr (.inr (.inr (.inr (fun _ => none))))))) (pc + 3) L (.ref sz :: st)) : V K E R nL Q cs sl sz g pc L (.int n :: st) := by
  intro H locs ls hz hh hs hl
  subst hz
  subst hN
  refine W.anew C.1 C.2.1 C.2.2.2.1 (C.2.2.2.2.1 _ w) (va_AO.use C.2.2.2.2.2.1.2.2.2.2.2.2.2.1) rfl d rfl hn hb hc hsl fun cA kA comp f1 f2 f3 f4 => ?_
  have hca : cA = eC E 5 := by
    obtain ⟨_, _, _, _, _, h1⟩ := (C.2.2.2.2.2.1.1.2 5 _ rfl).2
    exact Option.some.inj (f1.symm.trans h1)
  subst hca
  generalize hH1 : H.push ({ cls := eC E 5, slots := Array.replicate n.toNatClampNeg .null, vm := .none } : Cell) = H1
  have z1 : H1.size = H.size + 1 := by rw [← hH1, Array.size_push]
  have e1 : H1[H.size]? = some (arrV (eC E 5) n.toNatClampNeg (fun _ => .null)) := by rw [← hH1, Array.getElem?_push_size, ← arrV_new]
  have o1 : ∀ q : Nat, q < H.size → H1[q]? = H[q]? := fun q hq => by rw [← hH1, Array.getElem?_push, if_neg (Nat.ne_of_lt hq)]
  have hbs : eB E ≤ H.size := Nat.le_trans C.2.2.2.2.2.1.2.2.1 hs.1
  refine kk H1 _ ls z1 (hh.push rfl hbs ?_ o1) ⟨Nat.le_trans hs.1 (by omega), fun x h1 h2 => (o1 x (Nat.lt_of_lt_of_le h1 hs.1)).trans (hs.2.1 x h1 h2), hs.2.2⟩ hl
  show H1[H.size]? = some (vp_cell _ _)
  rw [vp_cell_q]
  exact e1
theorem V.anew6 (C : VC K E nL cc own ret) {n : Int32} {M : Nat} (w : Cond.classLink own i RX3 ∈ hw_tbl) (hn : ¬ n < 0) (hN : n.toNatClampNeg = M) (hb : M * 4 ≤ 536870912) (hc : cs + 1 ≤ R.cells) (hsl : sl + M ≤ R.slots) (d : decode cc pc = .ok (.anewarray i, 3)) (kk : V K E R nL Q (cs + 1) (sl + M) (sz + 1) (hup g sz (.inl (6, M, .inr (.inr (.inr (.inr (fun _ => none))))))) (pc + 3) L (.ref sz :: st)) : V K E R nL Q cs sl sz g pc L (.int n :: st) := by
  intro H locs ls hz hh hs hl
  subst hz
  subst hN
  refine W.anew C.1 C.2.1 C.2.2.2.1 (C.2.2.2.2.1 _ w) (va_AO.use C.2.2.2.2.2.1.2.2.2.2.2.2.2.2) rfl d rfl hn hb hc hsl fun cA kA comp f1 f2 f3 f4 => ?_
  have hca : cA = eC E 6 := by
    obtain ⟨_, _, _, _, _, h1⟩ := (C.2.2.2.2.2.1.1.2 6 _ rfl).2
    exact Option.some.inj (f1.symm.trans h1)
  subst hca
  generalize hH1 : H.push ({ cls := eC E 6, slots := Array.replicate n.toNatClampNeg .null, vm := .none } : Cell) = H1
  have z1 : H1.size = H.size + 1 := by rw [← hH1, Array.size_push]
  have e1 : H1[H.size]? = some (arrV (eC E 6) n.toNatClampNeg (fun _ => .null)) := by rw [← hH1, Array.getElem?_push_size, ← arrV_new]
  have o1 : ∀ q : Nat, q < H.size → H1[q]? = H[q]? := fun q hq => by rw [← hH1, Array.getElem?_push, if_neg (Nat.ne_of_lt hq)]
  have hbs : eB E ≤ H.size := Nat.le_trans C.2.2.2.2.2.1.2.2.1 hs.1
  refine kk H1 _ ls z1 (hh.push rfl hbs ?_ o1) ⟨Nat.le_trans hs.1 (by omega), fun x h1 h2 => (o1 x (Nat.lt_of_lt_of_le h1 hs.1)).trans (hs.2.1 x h1 h2), hs.2.2⟩ hl
  show H1[H.size]? = some (vp_cell _ _)
  rw [vp_cell_q]
  exact e1
theorem V.new (C : VC K E nL cc own ret) (kc : hCls ci Cn T N ty) {fs : List Value} (w : Cond.classLink own i Cn ∈ hw_tbl) (w2 : Cond.instantiable Cn N ∈ hw_tbl) (w3 : Cond.initialized Cn ∈ hw_tbl) (hfs : ∀ j, j < N → defaultValue (ty j) = vp_V fs j) (hc : cs + 1 ≤ R.cells) (hsl : sl + N ≤ R.slots) (d : decode cc pc = .ok (.new i, 3)) (kk : V K E R nL Q (cs + 1) (sl + N) (sz + 1) (hup g sz (.inr (ci, fs))) (pc + 3) L (.ref sz :: st)) : V K E R nL Q cs sl sz g pc L st := by
  intro H locs ls hz hh hs hl
  subst hz
  have hK := C.2.2.2.2.2.1.1
  have hts := C.2.2.2.2.1
  have hKn := hK.1 ci _ kc.1
  refine W.newcK C.1 C.2.1 C.2.2.2.1 (hts _ w) (hts _ w2) (hts _ w3) rfl d hc hsl hKn.2.1 rfl fun H1 kC hkC e1 z1 o1 => ?_
  have hbs : eB E ≤ H.size := Nat.le_trans C.2.2.2.2.2.1.2.2.1 hs.1
  refine kk H1 _ ls z1 (hh.push rfl hbs ?_ o1) ⟨Nat.le_trans hs.1 (by omega), fun x h1 h2 => (o1 x (Nat.lt_of_lt_of_le h1 hs.1)).trans (hs.2.1 x h1 h2), hs.2.2⟩ hl
  exact ⟨_, kc.1, (u_born ty hts kc.2.1 hKn hkC e1 kc.2.2.1).to hfs⟩
theorem V.objInit (C : VC K E nL cc own ret) (w : Cond.methodLink own i Lib.objectInit ∈ hw_tbl) (w2 : Cond.instanceMethod Lib.objectInit ∈ hw_tbl) (w3 : Cond.code Lib.objectInit ⟨#[0xb1]⟩ 1 none ∈ hw_tbl) (hst : (st.map fun v => v.category).sum ≤ 8) (hR : 1 ≤ R.frames ∧ 20 ≤ R.locals) (d : decode cc pc = .ok (.invokespecial i, 3)) (kk : V K E R nL Q cs sl sz g (pc + 3) L st) : V K E R nL Q cs sl sz g pc L (.ref a :: st) := by
  intro H locs ls hz hh hs hl
  refine W.objInit C.1 C.2.1 C.2.2.2.1 (C.2.2.2.2.1 _ w) (C.2.2.2.2.1 _ w2) (C.2.2.2.2.1 _ w3) rfl (by rw [C.2.2.1]; exact hl.1) rfl d hR.1 (by have := lv_room (m := K.2.2.2.2.1) (pc := pc) (ls := ls) (rest := .ref a :: st) hst; omega) ?_
  exact kk H locs ls hz hh hs hl
theorem V.iret (C : VC K E nL cc own (some .int)) {v : Int32} (hz0 : sz = K.2.2.2.1.heap.size + cs) (d : decode cc pc = .ok (.ireturn, 1)) : V K E R nL (hZ K E (some (.int v)) g cs sl) cs sl sz g pc L [.int v] := by
  intro H locs ls hz hh hs hl
  exact W.iret (v := v) C.1 C.2.1 C.2.2.2.2.2.2.2 (fun t ht hW => ⟨rfl, by rw [ht, hz, hz0], by rw [ht]; exact hh, hs.F ht⟩) hs.2.2 d C.2.2.2.2.2.2.1
theorem V.zret {ft : FieldType} (C : VC K E nL cc own (some ft)) {v : Int32} (hn : narrow ft (.int v) = .int v) (hz0 : sz = K.2.2.2.1.heap.size + cs) (d : decode cc pc = .ok (.ireturn, 1)) : V K E R nL (hZ K E (some (.int v)) g cs sl) cs sl sz g pc L [.int v] := by
  intro H locs ls hz hh hs hl
  exact W.zret (v := v) C.1 C.2.1 C.2.2.2.2.2.2.2 hn (fun t ht hW => ⟨rfl, by rw [ht, hz, hz0], by rw [ht]; exact hh, hs.F ht⟩) hs.2.2 d C.2.2.2.2.2.2.1
theorem V.lret (C : VC K E nL cc own (some .long)) {v : Int64} (hz0 : sz = K.2.2.2.1.heap.size + cs) (d : decode cc pc = .ok (.lreturn, 1)) : V K E R nL (hZ K E (some (.long v)) g cs sl) cs sl sz g pc L [.long v] := by
  intro H locs ls hz hh hs hl
  exact W.lret (v := v) C.1 C.2.1 C.2.2.2.2.2.2.2 (fun t ht hW => ⟨rfl, by rw [ht, hz, hz0], by rw [ht]; exact hh, hs.F ht⟩) hs.2.2 d C.2.2.2.2.2.2.1
theorem V.vret (C : VC K E nL cc own none) (hz0 : sz = K.2.2.2.1.heap.size + cs) (d : decode cc pc = .ok (.return_, 1)) : V K E R nL (hZ K E none g cs sl) cs sl sz g pc L [] := by
  intro H locs ls hz hh hs hl
  exact W.vret C.1 C.2.1 C.2.2.2.2.2.2.2 (fun t ht hW => ⟨rfl, by rw [ht, hz, hz0], by rw [ht]; exact hh, hs.F ht⟩) hs.2.2 d C.2.2.2.2.2.2.1
theorem V.aret {nm : String} (C : VC K E nL cc own (some (.object nm))) {v : Option Nat} (hz0 : sz = K.2.2.2.1.heap.size + cs) (d : decode cc pc = .ok (.areturn, 1)) : V K E R nL (hZ K E (some (va_rf v)) g cs sl) cs sl sz g pc L [va_rf v] := by
  intro H locs ls hz hh hs hl
  exact W.aret (v := va_rf v) C.1 C.2.1 C.2.2.2.2.2.2.2 (Or.inl ⟨_, rfl⟩) (by cases v with | none => exact Or.inl rfl | some q => exact Or.inr ⟨q, rfl⟩) (fun t ht hW => ⟨rfl, by rw [ht, hz, hz0], by rw [ht]; exact hh, hs.F ht⟩) hs.2.2 d C.2.2.2.2.2.2.1
/-- behind a call that met its contract -/
theorem V.ofRun {mc ms : Nat} {r : Option Value} {rest st0 : List Value} {av : Array Value} (hr : ∀ (H : Heap) (locs : List Loc) (ls : Array Slot), H.size = sz → hH E g H → va_S (hA E) K.2.2.2.1.heap H locs → lv_has ls nL L → va_Run K.1 K.2.1 K.2.2.1 R K.2.2.2.1 K.2.2.2.2.1 K.2.2.2.2.2.1 K.2.2.2.2.2.2.1 K.2.2.2.2.2.2.2.1 K.2.2.2.2.2.2.2.2 H locs cs sl mc ms (F0 K.2.2.2.2.1 pc ls st0) rest (hQ E sz r g' mc av) (hA E))
    (kk : V K E R nL Q (cs + mc) (sl + ms) (sz + mc) g' (pc + 3) L (r.toList ++ rest)) : V K E R nL Q cs sl sz g pc L st0 := by
  intro H locs ls hz hh hs hl T hT X
  obtain ⟨v, st₀, t, T', L', h0, X', hL, e1, e2, ⟨hv, hsz, hH, hz2, hk⟩, stp⟩ := hr H locs ls hz hh hs hl T hT X
  have hvr : v = r := by injection hv
  subst hvr
  rw [h0] at hz2 hk
  obtain ⟨t2, a1, b1⟩ := kk T'.heap (locs ++ L') ls (by rw [e1]; exact hsz) (by rw [e1]; exact hH)
    ⟨Nat.le_trans hs.1 (by rw [e1]; exact hz2), fun q h1 h2 => by rw [e1, hk q (Nat.lt_of_lt_of_le h1 hs.1) h2]; exact hs.2.1 q h1 h2, fun q hq => by
      rcases List.mem_append.mp hq with h | h
      · exact hs.2.2 q h
      · exact hL q h⟩ hl T' rfl X'
  exact ⟨t2, stp t2 a1, b1⟩
def hMet (y : MethodName) (Cn : String) (cy : ByteArray) (nM : Nat) (ry : Option FieldType) (n : Nat) : Prop := Cond.code y cy nM ry ∈ hw_tbl ∧ Cond.instanceMethod y ∈ hw_tbl ∧ Cond.selects Cn y y ∈ hw_tbl ∧ Cond.initialized Cn ∈ hw_tbl ∧ y.cls = Cn ∧ y.cls ≠ "java/lang/invoke/MethodHandle" ∧ y.cls ≠ "java/lang/invoke/VarHandle" ∧ (parseMethodDescriptor y.desc).map (fun d => d.parameters.length) = some n
def hMetS (y : MethodName) (cy : ByteArray) (nM : Nat) (ry : Option FieldType) (n : Nat) : Prop := Cond.code y cy nM ry ∈ hw_tbl ∧ Cond.static y ∈ hw_tbl ∧ Cond.initialized y.cls ∈ hw_tbl ∧ y.cls ≠ "java/lang/invoke/MethodHandle" ∧ y.cls ≠ "java/lang/invoke/VarHandle" ∧ (parseMethodDescriptor y.desc).map (fun d => d.parameters.length) = some n
def hMetI (y : MethodName) (cy : ByteArray) (nM : Nat) (n : Nat) : Prop := Cond.code y cy nM none ∈ hw_tbl ∧ Cond.instanceMethod y ∈ hw_tbl ∧ Cond.initialized y.cls ∈ hw_tbl ∧ y.name = "<init>" ∧ y.cls ≠ "java/lang/invoke/MethodHandle" ∧ y.cls ≠ "java/lang/invoke/VarHandle" ∧ (parseMethodDescriptor y.desc).map (fun d => d.parameters.length) = some n
theorem hw_in {w : Cond} (h : w ∈ hw_tbl) : GoodIn hw_tbl (w :: hw_tbl) := fun v hv => by
  rcases List.mem_cons.mp hv with rfl | hv
  · exact ⟨h, hw_good h⟩
  · exact ⟨hv, hw_good hv⟩
theorem hPre {av : List Value} {H : Heap} {locs : List Loc} (hu : hU E K.2.2.2.1 K.2.2.2.1.heap) (hz : H.size = sz) (hh : hH E g H) (hs : va_S (hA E) K.2.2.2.1.heap H locs) : PreS K.2.2.2.1 H (va_Pc av (fun U => U.heap.size = sz ∧ hH E g U.heap ∧ hU E U U.heap)) av :=
  ⟨fun a U g mk q => by obtain ⟨q0, q1, qH, qU⟩ := q; exact ⟨q0, q1, qH, hU.same (u := U) rfl qU⟩, fun U hU hW => ⟨rfl, by rw [hU]; exact hz, by rw [hU]; exact hh, by rw [hU]; exact hu.on hs hW⟩⟩
variable {y : MethodName} {cy : ByteArray} {nM n fr lo mc ms : Nat} {ry : Option FieldType} {r : Option Value} {As : List Value}
theorem V.callV {b cj : Nat} {q : vw_C} (C : VC K E nL cc own ret) (hy : hMet y Cn cy nM ry n) (w : Cond.methodLink own i y ∈ hw_tbl) (hm : hM K.2.1 E y cy nM ry fr lo mc ms sz g (.ref b :: As) r g') (hn : As.length = n) (hq : classes[cj]? = some q) (hqn : q.1 = Cn) (ho : isO g b cj = true) (hR : fr + 1 ≤ R.frames ∧ 8 + (nM + 11) + lo ≤ R.locals) (hst : (st.map fun v => v.category).sum ≤ 8) (d : decode cc pc = .ok (.invokevirtual i, 3)) (hf : cs + mc ≤ R.cells ∧ sl + ms ≤ R.slots) {st0 : List Value} (hs0 : As.reverse ++ .ref b :: st = st0) (kk : V K E R nL Q (cs + mc) (sl + ms) (sz + mc) g' (pc + 3) L (r.toList ++ st)) : V K E R nL Q cs sl sz g pc L st0 := by
  refine V.ofRun (r := r) (rest := st) (av := (Value.ref b :: As).toArray) (fun H locs ls hz hh hs hl => ?_) kk
  obtain ⟨fs, hfs⟩ := isO_spec ho
  obtain ⟨w1, w2, w3, w4, h5⟩ := hy
  have hpre := hPre (av := .ref b :: As) C.2.2.2.2.2.1 hz hh hs
  refine va_runV (C := Cn) (n := n) (As := As) (rest := st) (Ts := hw_tbl) (bytes := cy) (maxL := nM) (ret := ry) ⟨C.1, C.2.1, C.2.2.1, C.2.2.2.1, C.2.2.2.2.1⟩ hm (cwV n C.2.2.2.2.1 ?_ rfl rfl rfl h5 hR) ⟨hpre.1, ?_, hpre.2⟩ rfl hn hl.1 hs0.symm (lv_room (rest := st0) hst) d hf
  · intro v hv
    rcases List.mem_append.mp hv with h | h
    · simp only [List.mem_cons, List.not_mem_nil, or_false] at h
      rcases h with rfl | rfl | rfl | rfl
      · exact ⟨w, hw_good w⟩
      · exact ⟨w2, hw_good w2⟩
      · exact ⟨w3, hw_good w3⟩
      · exact ⟨w4, hw_good w4⟩
    · exact hw_in w1 v h
  · rw [← hqn]
    exact va_recv (ws := [(b, hcn E (.inr (cj, fs)))]) (q0 := 0) C.2.2.2.2.2.1.1 (va_P1 (hh b _ hfs).1) hq rfl
theorem V.callS (C : VC K E nL cc own ret) (hy : hMetS y cy nM ry n) (w : Cond.methodLink own i y ∈ hw_tbl) (hm : hM K.2.1 E y cy nM ry fr lo mc ms sz g As r g') (hn : As.length = n) (hR : fr + 1 ≤ R.frames ∧ 8 + (nM + 11) + lo ≤ R.locals) (hst : (st.map fun v => v.category).sum ≤ 8) (d : decode cc pc = .ok (.invokestatic i, 3)) (hf : cs + mc ≤ R.cells ∧ sl + ms ≤ R.slots) {st0 : List Value} (hs0 : As.reverse ++ st = st0) (kk : V K E R nL Q (cs + mc) (sl + ms) (sz + mc) g' (pc + 3) L (r.toList ++ st)) : V K E R nL Q cs sl sz g pc L st0 := by
  refine V.ofRun (r := r) (rest := st) (av := As.toArray) (fun H locs ls hz hh hs hl => ?_) kk
  obtain ⟨w1, w2, w3, h5⟩ := hy
  exact va_runS (n := n) (As := As) (rest := st) (Ts := hw_tbl) (bytes := cy) (maxL := nM) (ret := ry) ⟨C.1, C.2.1, C.2.2.1, C.2.2.2.1, C.2.2.2.2.1⟩ hm ⟨callB_of n C.2.2.2.2.1 (hw_in w1) rfl rfl rfl (C.2.2.2.2.1 _ w3) (C.2.2.2.2.1 _ w) h5 hR, C.2.2.2.2.1 _ w2⟩ (hPre (av := As) C.2.2.2.2.2.1 hz hh hs) rfl hn hl.1 hs0.symm (lv_room (rest := st0) hst) d hf
theorem V.callI {b : Nat} (C : VC K E nL cc own ret) (hy : hMetI y cy nM n) (w : Cond.methodLink own i y ∈ hw_tbl) (hm : hM K.2.1 E y cy nM none fr lo mc ms sz g (.ref b :: As) none g') (hn : As.length = n) (hR : fr + 1 ≤ R.frames ∧ 8 + (nM + 11) + lo ≤ R.locals) (hst : (st.map fun v => v.category).sum ≤ 8) (d : decode cc pc = .ok (.invokespecial i, 3)) (hf : cs + mc ≤ R.cells ∧ sl + ms ≤ R.slots) {st0 : List Value} (hs0 : As.reverse ++ .ref b :: st = st0) (kk : V K E R nL Q (cs + mc) (sl + ms) (sz + mc) g' (pc + 3) L st) : V K E R nL Q cs sl sz g pc L st0 := by
  refine V.ofRun (r := none) (rest := st) (av := (Value.ref b :: As).toArray) (fun H locs ls hz hh hs hl => ?_) kk
  obtain ⟨w1, w2, w3, h4, h5⟩ := hy
  exact va_runI (n := n) (As := As) (rest := st) (Ts := hw_tbl) (bytes := cy) (maxL := nM) ⟨C.1, C.2.1, C.2.2.1, C.2.2.2.1, C.2.2.2.2.1⟩ hm (cwI n C.2.2.2.2.1 (hw_in w1) rfl rfl rfl (C.2.2.2.2.1 _ w3) (C.2.2.2.2.1 _ w) (C.2.2.2.2.1 _ w2) h4 h5 hR) (hPre (av := .ref b :: As) C.2.2.2.2.2.1 hz hh hs) rfl hn hl.1 hs0.symm (lv_room (rest := st0) hst) d hf
theorem V.callIN {b : Nat} {host : String} (C : VC K E nL cc own ret) (hy : hMetI y cy nM n) (w : (own, i, y, host) ∈ hNest) (hm : hM K.2.1 E y cy nM none fr lo mc ms sz g (.ref b :: As) none g') (hn : As.length = n) (hR : fr + 1 ≤ R.frames ∧ 8 + (nM + 11) + lo ≤ R.locals) (hst : (st.map fun v => v.category).sum ≤ 8) (d : decode cc pc = .ok (.invokespecial i, 3)) (hf : cs + mc ≤ R.cells ∧ sl + ms ≤ R.slots) {st0 : List Value} (hs0 : As.reverse ++ .ref b :: st = st0) (kk : V K E R nL Q (cs + mc) (sl + ms) (sz + mc) g' (pc + 3) L st) : V K E R nL Q cs sl sz g pc L st0 := by
  refine V.ofRun (r := none) (rest := st) (av := (Value.ref b :: As).toArray) (fun H locs ls hz hh hs hl => ?_) kk
  obtain ⟨w1, w2, w3, h4, h5⟩ := hy
  exact va_runIN (n := n) (As := As) (rest := st) (Ts := hw_tbl) (bytes := cy) (maxL := nM) ⟨C.1, C.2.1, C.2.2.1, C.2.2.2.1, C.2.2.2.2.1⟩ hm ⟨va_cnB n C.2.2.2.2.1 (hw_in w1) rfl rfl rfl (C.2.2.2.2.2.1.2.1 _ w) (C.2.2.2.2.1 _ w3) h5 hR, h4, C.2.2.2.2.1 _ w2⟩ (hPre (av := .ref b :: As) C.2.2.2.2.2.1 hz hh hs) rfl hn hl.1 hs0.symm (lv_room (rest := st0) hst) d hf
end VH
