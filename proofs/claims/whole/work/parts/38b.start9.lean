/-! The reference behind its constructor. -/
def wrd9 : Nat → Int32 := (upd (upd (upd (upd (upd (upd (upd (upd (upd (upd (upd (upd (upd (upd (upd (fun _ => 0) 0 (vp_nar .byte 117)) 1 (vp_nar .byte 112)) 2 (vp_nar .byte 0)) 3 (vp_nar .byte 0)) 4 (vp_nar .byte 0)) 5 (vp_nar .byte 100)) 6 (vp_nar .byte 111)) 7 (vp_nar .byte 119)) 8 (vp_nar .byte 110)) 9 (vp_nar .byte 0)) 10 (vp_nar .byte 97)) 11 (vp_nar .byte 110)) 12 (vp_nar .byte 121)) 13 (vp_nar .byte 0)) 14 (vp_nar .byte 0))
def nwX9 (w : HS) (a : Nat) : HS := nObj w a 9 (fun _ => 0) (fun _ => 0) (fun _ => none) (fun k => if k = 12 then wrd9 else fun _ => 0) (fun _ _ => 0) (fun _ _ => none)
def an9 (sz : Nat) : Nat → Nat := fun k => match k with | 0 => sz + 1 | 5 => sz + 2 | 6 => sz + 3 | 8 => sz + 4 | 9 => sz + 5 | 10 => sz + 6 | 12 => sz + 7 | 16 => sz + 8 | 17 => sz + 9 | 18 => sz + 10 | 21 => sz + 11 | 25 => sz + 12 | 26 => sz + 13 | 27 => sz + 14 | 28 => sz + 15 | 31 => sz + 16 | 32 => sz + 17 | 33 => sz + 18 | 34 => sz + 19 | 35 => sz + 20 | 37 => sz + 21 | 38 => sz + 22 | _ => 0
set_option maxHeartbeats 4000000 in
set_option maxRecDepth 100000 in
theorem rel9 {ar : Nat → Nat → Nat} {c0 : Nat → Nat} {sz : Nat} {g g' : PH} {w : HS} (P : Rel ar c0 sz g w) (hB : ∀ b, b < sz → g' b = g b) (o : g' sz = some (.inr (9, [.ref (sz + 1), .int 0, .int 0, .int 0, .int 0, .ref (sz + 2), .ref (sz + 3), .int 0, .ref (sz + 4), .ref (sz + 5), .ref (sz + 6), .int 0, .ref (sz + 7), .int 0, .int 0, .int 0, .ref (sz + 8), .ref (sz + 9), .ref (sz + 10), .int 0, .int 0, .ref (sz + 11), .int 0, .int 0, .int 0, .ref (sz + 12), .ref (sz + 13), .ref (sz + 14), .ref (sz + 15), .int 0, .int 0, .ref (sz + 16), .ref (sz + 17), .ref (sz + 18), .ref (sz + 19), .ref (sz + 20), .int 0, .ref (sz + 21), .ref (sz + 22), .int 0, .long 0]))) (a1 : g' (sz + 1) = some (.inl (1, 200, .inl (fun _ => 0)))) (a2 : g' (sz + 2) = some (.inl (0, 180, .inl (fun _ => 0)))) (a3 : g' (sz + 3) = some (.inl (0, 9, .inl (fun _ => 0)))) (a4 : g' (sz + 4) = some (.inl (0, 448, .inl (fun _ => 0)))) (a5 : g' (sz + 5) = some (.inl (0, 7, .inl (fun _ => 0)))) (a6 : g' (sz + 6) = some (.inl (0, 7, .inl (fun _ => 0)))) (a7 : g' (sz + 7) = some (.inl (1, 15, .inl (upd (upd (upd (upd (upd (upd (upd (upd (upd (upd (upd (upd (upd (upd (upd (fun _ => 0) 0 (vp_nar .byte 117)) 1 (vp_nar .byte 112)) 2 (vp_nar .byte 0)) 3 (vp_nar .byte 0)) 4 (vp_nar .byte 0)) 5 (vp_nar .byte 100)) 6 (vp_nar .byte 111)) 7 (vp_nar .byte 119)) 8 (vp_nar .byte 110)) 9 (vp_nar .byte 0)) 10 (vp_nar .byte 97)) 11 (vp_nar .byte 110)) 12 (vp_nar .byte 121)) 13 (vp_nar .byte 0)) 14 (vp_nar .byte 0))))) (a8 : g' (sz + 8) = some (.inl (0, 133, .inl (fun _ => 0)))) (a9 : g' (sz + 9) = some (.inl (0, 133, .inl (fun _ => 0)))) (a10 : g' (sz + 10) = some (.inl (0, 2660, .inl (fun _ => 0)))) (a11 : g' (sz + 11) = some (.inl (0, 120, .inl (fun _ => 0)))) (a12 : g' (sz + 12) = some (.inl (2, 4804, .inr (.inl (fun _ => 0))))) (a13 : g' (sz + 13) = some (.inl (0, 1201, .inl (fun _ => 0)))) (a14 : g' (sz + 14) = some (.inl (0, 1201, .inl (fun _ => 0)))) (a15 : g' (sz + 15) = some (.inl (0, 1201, .inl (fun _ => 0)))) (a16 : g' (sz + 16) = some (.inl (0, 64, .inl (fun _ => 0)))) (a17 : g' (sz + 17) = some (.inl (0, 64, .inl (fun _ => 0)))) (a18 : g' (sz + 18) = some (.inl (2, 4, .inr (.inl (fun _ => 0))))) (a19 : g' (sz + 19) = some (.inl (0, 10, .inl (fun _ => 0)))) (a20 : g' (sz + 20) = some (.inl (0, 720, .inl (fun _ => 0)))) (a21 : g' (sz + 21) = some (.inl (0, 240, .inl (fun _ => 0)))) (a22 : g' (sz + 22) = some (.inl (0, 28800, .inl (fun _ => 0)))) : ∃ ar' c', Rel ar' c' (sz + 23) g' (nwX9 w sz) ∧ Ext ar c0 ar' c' ∧ c' sz = 9 := by
  have gr := P.grow (ci := 9) (sz' := sz + 23) (g' := g') (arn := an9 sz) (fi := fun _ => 0) (fl := fun _ => 0) (fp := fun _ => none) (fa := fun k => if k = 12 then wrd9 else fun _ => 0) (fj := fun _ _ => 0) (fq := fun _ _ => none) (by decide) (by omega) hB (o.trans rfl) (fun k hk hf => by
    rcases (show k = 0 ∨ k = 1 ∨ k = 2 ∨ k = 3 ∨ k = 4 ∨ k = 5 ∨ k = 6 ∨ k = 7 ∨ k = 8 ∨ k = 9 ∨ k = 10 ∨ k = 11 ∨ k = 12 ∨ k = 13 ∨ k = 14 ∨ k = 15 ∨ k = 16 ∨ k = 17 ∨ k = 18 ∨ k = 19 ∨ k = 20 ∨ k = 21 ∨ k = 22 ∨ k = 23 ∨ k = 24 ∨ k = 25 ∨ k = 26 ∨ k = 27 ∨ k = 28 ∨ k = 29 ∨ k = 30 ∨ k = 31 ∨ k = 32 ∨ k = 33 ∨ k = 34 ∨ k = 35 ∨ k = 36 ∨ k = 37 ∨ k = 38 ∨ k = 39 ∨ k = 40 by have : k < 41 := hk; omega) with rfl | rfl | rfl | rfl | rfl | rfl | rfl | rfl | rfl | rfl | rfl | rfl | rfl | rfl | rfl | rfl | rfl | rfl | rfl | rfl | rfl | rfl | rfl | rfl | rfl | rfl | rfl | rfl | rfl | rfl | rfl | rfl | rfl | rfl | rfl | rfl | rfl | rfl | rfl | rfl | rfl
    · exact ⟨a1, by show sz < sz + 1; omega, by show sz + 1 < sz + 23; omega⟩
    · exact absurd hf (by decide)
    · exact absurd hf (by decide)
    · exact absurd hf (by decide)
    · exact absurd hf (by decide)
    · exact ⟨a2, by show sz < sz + 2; omega, by show sz + 2 < sz + 23; omega⟩
    · exact ⟨a3, by show sz < sz + 3; omega, by show sz + 3 < sz + 23; omega⟩
    · exact absurd hf (by decide)
    · exact ⟨a4, by show sz < sz + 4; omega, by show sz + 4 < sz + 23; omega⟩
    · exact ⟨a5, by show sz < sz + 5; omega, by show sz + 5 < sz + 23; omega⟩
    · exact ⟨a6, by show sz < sz + 6; omega, by show sz + 6 < sz + 23; omega⟩
    · exact absurd hf (by decide)
    · exact ⟨a7, by show sz < sz + 7; omega, by show sz + 7 < sz + 23; omega⟩
    · exact absurd hf (by decide)
    · exact absurd hf (by decide)
    · exact absurd hf (by decide)
    · exact ⟨a8, by show sz < sz + 8; omega, by show sz + 8 < sz + 23; omega⟩
    · exact ⟨a9, by show sz < sz + 9; omega, by show sz + 9 < sz + 23; omega⟩
    · exact ⟨a10, by show sz < sz + 10; omega, by show sz + 10 < sz + 23; omega⟩
    · exact absurd hf (by decide)
    · exact absurd hf (by decide)
    · exact ⟨a11, by show sz < sz + 11; omega, by show sz + 11 < sz + 23; omega⟩
    · exact absurd hf (by decide)
    · exact absurd hf (by decide)
    · exact absurd hf (by decide)
    · exact ⟨a12, by show sz < sz + 12; omega, by show sz + 12 < sz + 23; omega⟩
    · exact ⟨a13, by show sz < sz + 13; omega, by show sz + 13 < sz + 23; omega⟩
    · exact ⟨a14, by show sz < sz + 14; omega, by show sz + 14 < sz + 23; omega⟩
    · exact ⟨a15, by show sz < sz + 15; omega, by show sz + 15 < sz + 23; omega⟩
    · exact absurd hf (by decide)
    · exact absurd hf (by decide)
    · exact ⟨a16, by show sz < sz + 16; omega, by show sz + 16 < sz + 23; omega⟩
    · exact ⟨a17, by show sz < sz + 17; omega, by show sz + 17 < sz + 23; omega⟩
    · exact ⟨a18, by show sz < sz + 18; omega, by show sz + 18 < sz + 23; omega⟩
    · exact ⟨a19, by show sz < sz + 19; omega, by show sz + 19 < sz + 23; omega⟩
    · exact ⟨a20, by show sz < sz + 20; omega, by show sz + 20 < sz + 23; omega⟩
    · exact absurd hf (by decide)
    · exact ⟨a21, by show sz < sz + 21; omega, by show sz + 21 < sz + 23; omega⟩
    · exact ⟨a22, by show sz < sz + 22; omega, by show sz + 22 < sz + 23; omega⟩
    · exact absurd hf (by decide)
    · exact absurd hf (by decide)
    ) (fun k m hk hf hm hfm e => by
    have inv : ∀ j, j < 41 → 3 ≤ fk 9 j → (match an9 sz j - sz with | 1 => 0 | 2 => 5 | 3 => 6 | 4 => 8 | 5 => 9 | 6 => 10 | 7 => 12 | 8 => 16 | 9 => 17 | 10 => 18 | 11 => 21 | 12 => 25 | 13 => 26 | 14 => 27 | 15 => 28 | 16 => 31 | 17 => 32 | 18 => 33 | 19 => 34 | 20 => 35 | 21 => 37 | 22 => 38 | _ => 99) = j := by
      intro j hj hfj
      rcases (show j = 0 ∨ j = 1 ∨ j = 2 ∨ j = 3 ∨ j = 4 ∨ j = 5 ∨ j = 6 ∨ j = 7 ∨ j = 8 ∨ j = 9 ∨ j = 10 ∨ j = 11 ∨ j = 12 ∨ j = 13 ∨ j = 14 ∨ j = 15 ∨ j = 16 ∨ j = 17 ∨ j = 18 ∨ j = 19 ∨ j = 20 ∨ j = 21 ∨ j = 22 ∨ j = 23 ∨ j = 24 ∨ j = 25 ∨ j = 26 ∨ j = 27 ∨ j = 28 ∨ j = 29 ∨ j = 30 ∨ j = 31 ∨ j = 32 ∨ j = 33 ∨ j = 34 ∨ j = 35 ∨ j = 36 ∨ j = 37 ∨ j = 38 ∨ j = 39 ∨ j = 40 by omega) with rfl | rfl | rfl | rfl | rfl | rfl | rfl | rfl | rfl | rfl | rfl | rfl | rfl | rfl | rfl | rfl | rfl | rfl | rfl | rfl | rfl | rfl | rfl | rfl | rfl | rfl | rfl | rfl | rfl | rfl | rfl | rfl | rfl | rfl | rfl | rfl | rfl | rfl | rfl | rfl | rfl
      · show (match sz + 1 - sz with | 1 => 0 | 2 => 5 | 3 => 6 | 4 => 8 | 5 => 9 | 6 => 10 | 7 => 12 | 8 => 16 | 9 => 17 | 10 => 18 | 11 => 21 | 12 => 25 | 13 => 26 | 14 => 27 | 15 => 28 | 16 => 31 | 17 => 32 | 18 => 33 | 19 => 34 | 20 => 35 | 21 => 37 | 22 => 38 | _ => 99) = 0; rw [Nat.add_sub_cancel_left]; rfl
      · exact absurd hfj (by decide)
      · exact absurd hfj (by decide)
      · exact absurd hfj (by decide)
      · exact absurd hfj (by decide)
      · show (match sz + 2 - sz with | 1 => 0 | 2 => 5 | 3 => 6 | 4 => 8 | 5 => 9 | 6 => 10 | 7 => 12 | 8 => 16 | 9 => 17 | 10 => 18 | 11 => 21 | 12 => 25 | 13 => 26 | 14 => 27 | 15 => 28 | 16 => 31 | 17 => 32 | 18 => 33 | 19 => 34 | 20 => 35 | 21 => 37 | 22 => 38 | _ => 99) = 5; rw [Nat.add_sub_cancel_left]; rfl
      · show (match sz + 3 - sz with | 1 => 0 | 2 => 5 | 3 => 6 | 4 => 8 | 5 => 9 | 6 => 10 | 7 => 12 | 8 => 16 | 9 => 17 | 10 => 18 | 11 => 21 | 12 => 25 | 13 => 26 | 14 => 27 | 15 => 28 | 16 => 31 | 17 => 32 | 18 => 33 | 19 => 34 | 20 => 35 | 21 => 37 | 22 => 38 | _ => 99) = 6; rw [Nat.add_sub_cancel_left]; rfl
      · exact absurd hfj (by decide)
      · show (match sz + 4 - sz with | 1 => 0 | 2 => 5 | 3 => 6 | 4 => 8 | 5 => 9 | 6 => 10 | 7 => 12 | 8 => 16 | 9 => 17 | 10 => 18 | 11 => 21 | 12 => 25 | 13 => 26 | 14 => 27 | 15 => 28 | 16 => 31 | 17 => 32 | 18 => 33 | 19 => 34 | 20 => 35 | 21 => 37 | 22 => 38 | _ => 99) = 8; rw [Nat.add_sub_cancel_left]; rfl
      · show (match sz + 5 - sz with | 1 => 0 | 2 => 5 | 3 => 6 | 4 => 8 | 5 => 9 | 6 => 10 | 7 => 12 | 8 => 16 | 9 => 17 | 10 => 18 | 11 => 21 | 12 => 25 | 13 => 26 | 14 => 27 | 15 => 28 | 16 => 31 | 17 => 32 | 18 => 33 | 19 => 34 | 20 => 35 | 21 => 37 | 22 => 38 | _ => 99) = 9; rw [Nat.add_sub_cancel_left]; rfl
      · show (match sz + 6 - sz with | 1 => 0 | 2 => 5 | 3 => 6 | 4 => 8 | 5 => 9 | 6 => 10 | 7 => 12 | 8 => 16 | 9 => 17 | 10 => 18 | 11 => 21 | 12 => 25 | 13 => 26 | 14 => 27 | 15 => 28 | 16 => 31 | 17 => 32 | 18 => 33 | 19 => 34 | 20 => 35 | 21 => 37 | 22 => 38 | _ => 99) = 10; rw [Nat.add_sub_cancel_left]; rfl
      · exact absurd hfj (by decide)
      · show (match sz + 7 - sz with | 1 => 0 | 2 => 5 | 3 => 6 | 4 => 8 | 5 => 9 | 6 => 10 | 7 => 12 | 8 => 16 | 9 => 17 | 10 => 18 | 11 => 21 | 12 => 25 | 13 => 26 | 14 => 27 | 15 => 28 | 16 => 31 | 17 => 32 | 18 => 33 | 19 => 34 | 20 => 35 | 21 => 37 | 22 => 38 | _ => 99) = 12; rw [Nat.add_sub_cancel_left]; rfl
      · exact absurd hfj (by decide)
      · exact absurd hfj (by decide)
      · exact absurd hfj (by decide)
      · show (match sz + 8 - sz with | 1 => 0 | 2 => 5 | 3 => 6 | 4 => 8 | 5 => 9 | 6 => 10 | 7 => 12 | 8 => 16 | 9 => 17 | 10 => 18 | 11 => 21 | 12 => 25 | 13 => 26 | 14 => 27 | 15 => 28 | 16 => 31 | 17 => 32 | 18 => 33 | 19 => 34 | 20 => 35 | 21 => 37 | 22 => 38 | _ => 99) = 16; rw [Nat.add_sub_cancel_left]; rfl
      · show (match sz + 9 - sz with | 1 => 0 | 2 => 5 | 3 => 6 | 4 => 8 | 5 => 9 | 6 => 10 | 7 => 12 | 8 => 16 | 9 => 17 | 10 => 18 | 11 => 21 | 12 => 25 | 13 => 26 | 14 => 27 | 15 => 28 | 16 => 31 | 17 => 32 | 18 => 33 | 19 => 34 | 20 => 35 | 21 => 37 | 22 => 38 | _ => 99) = 17; rw [Nat.add_sub_cancel_left]; rfl
      · show (match sz + 10 - sz with | 1 => 0 | 2 => 5 | 3 => 6 | 4 => 8 | 5 => 9 | 6 => 10 | 7 => 12 | 8 => 16 | 9 => 17 | 10 => 18 | 11 => 21 | 12 => 25 | 13 => 26 | 14 => 27 | 15 => 28 | 16 => 31 | 17 => 32 | 18 => 33 | 19 => 34 | 20 => 35 | 21 => 37 | 22 => 38 | _ => 99) = 18; rw [Nat.add_sub_cancel_left]; rfl
      · exact absurd hfj (by decide)
      · exact absurd hfj (by decide)
      · show (match sz + 11 - sz with | 1 => 0 | 2 => 5 | 3 => 6 | 4 => 8 | 5 => 9 | 6 => 10 | 7 => 12 | 8 => 16 | 9 => 17 | 10 => 18 | 11 => 21 | 12 => 25 | 13 => 26 | 14 => 27 | 15 => 28 | 16 => 31 | 17 => 32 | 18 => 33 | 19 => 34 | 20 => 35 | 21 => 37 | 22 => 38 | _ => 99) = 21; rw [Nat.add_sub_cancel_left]; rfl
      · exact absurd hfj (by decide)
      · exact absurd hfj (by decide)
      · exact absurd hfj (by decide)
      · show (match sz + 12 - sz with | 1 => 0 | 2 => 5 | 3 => 6 | 4 => 8 | 5 => 9 | 6 => 10 | 7 => 12 | 8 => 16 | 9 => 17 | 10 => 18 | 11 => 21 | 12 => 25 | 13 => 26 | 14 => 27 | 15 => 28 | 16 => 31 | 17 => 32 | 18 => 33 | 19 => 34 | 20 => 35 | 21 => 37 | 22 => 38 | _ => 99) = 25; rw [Nat.add_sub_cancel_left]; rfl
      · show (match sz + 13 - sz with | 1 => 0 | 2 => 5 | 3 => 6 | 4 => 8 | 5 => 9 | 6 => 10 | 7 => 12 | 8 => 16 | 9 => 17 | 10 => 18 | 11 => 21 | 12 => 25 | 13 => 26 | 14 => 27 | 15 => 28 | 16 => 31 | 17 => 32 | 18 => 33 | 19 => 34 | 20 => 35 | 21 => 37 | 22 => 38 | _ => 99) = 26; rw [Nat.add_sub_cancel_left]; rfl
      · show (match sz + 14 - sz with | 1 => 0 | 2 => 5 | 3 => 6 | 4 => 8 | 5 => 9 | 6 => 10 | 7 => 12 | 8 => 16 | 9 => 17 | 10 => 18 | 11 => 21 | 12 => 25 | 13 => 26 | 14 => 27 | 15 => 28 | 16 => 31 | 17 => 32 | 18 => 33 | 19 => 34 | 20 => 35 | 21 => 37 | 22 => 38 | _ => 99) = 27; rw [Nat.add_sub_cancel_left]; rfl
      · show (match sz + 15 - sz with | 1 => 0 | 2 => 5 | 3 => 6 | 4 => 8 | 5 => 9 | 6 => 10 | 7 => 12 | 8 => 16 | 9 => 17 | 10 => 18 | 11 => 21 | 12 => 25 | 13 => 26 | 14 => 27 | 15 => 28 | 16 => 31 | 17 => 32 | 18 => 33 | 19 => 34 | 20 => 35 | 21 => 37 | 22 => 38 | _ => 99) = 28; rw [Nat.add_sub_cancel_left]; rfl
      · exact absurd hfj (by decide)
      · exact absurd hfj (by decide)
      · show (match sz + 16 - sz with | 1 => 0 | 2 => 5 | 3 => 6 | 4 => 8 | 5 => 9 | 6 => 10 | 7 => 12 | 8 => 16 | 9 => 17 | 10 => 18 | 11 => 21 | 12 => 25 | 13 => 26 | 14 => 27 | 15 => 28 | 16 => 31 | 17 => 32 | 18 => 33 | 19 => 34 | 20 => 35 | 21 => 37 | 22 => 38 | _ => 99) = 31; rw [Nat.add_sub_cancel_left]; rfl
      · show (match sz + 17 - sz with | 1 => 0 | 2 => 5 | 3 => 6 | 4 => 8 | 5 => 9 | 6 => 10 | 7 => 12 | 8 => 16 | 9 => 17 | 10 => 18 | 11 => 21 | 12 => 25 | 13 => 26 | 14 => 27 | 15 => 28 | 16 => 31 | 17 => 32 | 18 => 33 | 19 => 34 | 20 => 35 | 21 => 37 | 22 => 38 | _ => 99) = 32; rw [Nat.add_sub_cancel_left]; rfl
      · show (match sz + 18 - sz with | 1 => 0 | 2 => 5 | 3 => 6 | 4 => 8 | 5 => 9 | 6 => 10 | 7 => 12 | 8 => 16 | 9 => 17 | 10 => 18 | 11 => 21 | 12 => 25 | 13 => 26 | 14 => 27 | 15 => 28 | 16 => 31 | 17 => 32 | 18 => 33 | 19 => 34 | 20 => 35 | 21 => 37 | 22 => 38 | _ => 99) = 33; rw [Nat.add_sub_cancel_left]; rfl
      · show (match sz + 19 - sz with | 1 => 0 | 2 => 5 | 3 => 6 | 4 => 8 | 5 => 9 | 6 => 10 | 7 => 12 | 8 => 16 | 9 => 17 | 10 => 18 | 11 => 21 | 12 => 25 | 13 => 26 | 14 => 27 | 15 => 28 | 16 => 31 | 17 => 32 | 18 => 33 | 19 => 34 | 20 => 35 | 21 => 37 | 22 => 38 | _ => 99) = 34; rw [Nat.add_sub_cancel_left]; rfl
      · show (match sz + 20 - sz with | 1 => 0 | 2 => 5 | 3 => 6 | 4 => 8 | 5 => 9 | 6 => 10 | 7 => 12 | 8 => 16 | 9 => 17 | 10 => 18 | 11 => 21 | 12 => 25 | 13 => 26 | 14 => 27 | 15 => 28 | 16 => 31 | 17 => 32 | 18 => 33 | 19 => 34 | 20 => 35 | 21 => 37 | 22 => 38 | _ => 99) = 35; rw [Nat.add_sub_cancel_left]; rfl
      · exact absurd hfj (by decide)
      · show (match sz + 21 - sz with | 1 => 0 | 2 => 5 | 3 => 6 | 4 => 8 | 5 => 9 | 6 => 10 | 7 => 12 | 8 => 16 | 9 => 17 | 10 => 18 | 11 => 21 | 12 => 25 | 13 => 26 | 14 => 27 | 15 => 28 | 16 => 31 | 17 => 32 | 18 => 33 | 19 => 34 | 20 => 35 | 21 => 37 | 22 => 38 | _ => 99) = 37; rw [Nat.add_sub_cancel_left]; rfl
      · show (match sz + 22 - sz with | 1 => 0 | 2 => 5 | 3 => 6 | 4 => 8 | 5 => 9 | 6 => 10 | 7 => 12 | 8 => 16 | 9 => 17 | 10 => 18 | 11 => 21 | 12 => 25 | 13 => 26 | 14 => 27 | 15 => 28 | 16 => 31 | 17 => 32 | 18 => 33 | 19 => 34 | 20 => 35 | 21 => 37 | 22 => 38 | _ => 99) = 38; rw [Nat.add_sub_cancel_left]; rfl
      · exact absurd hfj (by decide)
      · exact absurd hfj (by decide)
    have e1 := inv k hk hf
    have e2 := inv m hm hfm
    rw [← e1, ← e2, e])
  exact ⟨_, _, gr.1, gr.2, if_pos rfl⟩
