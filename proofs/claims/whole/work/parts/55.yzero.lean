/-! the numbers behind the constructors, and that both sides agree there -/
def zu0 : ZSt := (fun i => if i = 106 then 1 else if i = 107 then 1 else if i = 3911 then 1 else if i = 3912 then 1 else if i = 3916 then -1 else 0, fun k => if k = 3 then yst 100 else if k = 28 then ymin 6 else if k = 58 then ymin 6 else fun _ => 0, fun _ _ => 0)
theorem yw39 (ad : Nat → Nat) : ([.ref 40, .ref 41, .ref 42, .ref 43, .int 0, .int 0, .int 0, .int 0, .ref 44, .int 0, .ref 45, .int 1, .int 1, .ref 46, .int 0, .ref 47, .int (-1), .int 0, .int 0, .int 0, .int 0, .int 0, .ref 48, .ref 49, .ref 50, .int 0, .ref 51, .ref 52, .ref 53, .ref 54, .ref 55, .int 0, .int 0, .ref 56, .ref 57, .int 0, .int 0, .int 0, .ref 58, .ref 59, .ref 60, .ref 61] : List Value).map (zcv ad) = ([some 40, some 41, some 42, some 43, none, none, none, none, some 44, none, some 45, none, none, some 46, none, some 47, none, none, none, none, none, none, some 48, some 49, some 50, none, some 51, some 52, some 53, some 54, some 55, none, none, some 56, some 57, none, none, none, some 58, some 59, some 60, some 61] : List (Option Nat)).mapIdx (fun j f => zfv ad zu0 39 j f) := by
  apply List.ext_getElem?
  intro j
  rw [List.getElem?_map, List.getElem?_mapIdx]
  match j with
  | 0 => rfl
  | 1 => rfl
  | 2 => rfl
  | 3 => rfl
  | 4 => rfl
  | 5 => rfl
  | 6 => rfl
  | 7 => rfl
  | 8 => rfl
  | 9 => rfl
  | 10 => rfl
  | 11 => rfl
  | 12 => rfl
  | 13 => rfl
  | 14 => rfl
  | 15 => rfl
  | 16 => rfl
  | 17 => rfl
  | 18 => rfl
  | 19 => rfl
  | 20 => rfl
  | 21 => rfl
  | 22 => rfl
  | 23 => rfl
  | 24 => rfl
  | 25 => rfl
  | 26 => rfl
  | 27 => rfl
  | 28 => rfl
  | 29 => rfl
  | 30 => rfl
  | 31 => rfl
  | 32 => rfl
  | 33 => rfl
  | 34 => rfl
  | 35 => rfl
  | 36 => rfl
  | 37 => rfl
  | 38 => rfl
  | 39 => rfl
  | 40 => rfl
  | 41 => rfl
  | n + 42 => rfl
theorem yw_zw (ad : Nat → Nat) (ca : Nat → ClassId) : yw ad ca yS102 = zw ad ca zu0 := by
  apply List.ext_getElem?
  intro k
  rw [yw_at, zw_at]
  match k with
  | 0 => rfl
  | 1 => rfl
  | 2 => rfl
  | 3 => rfl
  | 4 => rfl
  | 5 => rfl
  | 6 => rfl
  | 7 => rfl
  | 8 => rfl
  | 9 => rfl
  | 10 => rfl
  | 11 => rfl
  | 12 => rfl
  | 13 => rfl
  | 14 => rfl
  | 15 => rfl
  | 16 => rfl
  | 17 => rfl
  | 18 => rfl
  | 19 => rfl
  | 20 => rfl
  | 21 => rfl
  | 22 => rfl
  | 23 => rfl
  | 24 => rfl
  | 25 => rfl
  | 26 => rfl
  | 27 => rfl
  | 28 => rfl
  | 29 => rfl
  | 30 => rfl
  | 31 => rfl
  | 32 => rfl
  | 33 => rfl
  | 34 => rfl
  | 35 => rfl
  | 36 => rfl
  | 37 => rfl
  | 38 => rfl
  | 39 => exact congrArg (fun l => some (ad 39, (Sum.inr (11, l) : va_E))) (yw39 ad)
  | 40 => rfl
  | 41 => rfl
  | 42 => rfl
  | 43 => rfl
  | 44 => rfl
  | 45 => rfl
  | 46 => rfl
  | 47 => rfl
  | 48 => rfl
  | 49 => rfl
  | 50 => rfl
  | 51 => rfl
  | 52 => rfl
  | 53 => rfl
  | 54 => rfl
  | 55 => rfl
  | 56 => rfl
  | 57 => rfl
  | 58 => rfl
  | 59 => rfl
  | 60 => rfl
  | 61 => rfl
  | n + 62 => rfl
theorem zu0_a {k : Nat} (h3 : k ≠ 3) (h28 : k ≠ 28) (h58 : k ≠ 58) (j : Nat) : zu0.2.1 k j = 0 := by
  simp only [zu0, h3, h28, h58, if_false]
theorem zwk_zero {p q : Nat} : ∀ k, zwk (zEd (fun _ => 0)) k p q ↔ p = q
  | 0 => Iff.rfl
  | k + 1 => by
    show zwk (zEd (fun _ => 0)) k p q ∨ (∃ r, zwk (zEd (fun _ => 0)) k p r ∧ zEd (fun _ => 0) r q) ↔ _
    rw [zwk_zero k]
    refine ⟨fun h => ?_, Or.inl⟩
    rcases h with h | ⟨r, -, h⟩
    · exact h
    · exact absurd h (by simp [zEd])
theorem zu0_I : zINV zu0 := by
  refine ⟨0, 0, 0, fun _ => 0, ⟨by omega, rfl, rfl, fun p hp => by omega⟩, ⟨by omega, rfl, rfl⟩, fun j hj => ⟨rfl, ?_⟩, ⟨0, 0, by omega, by omega, rfl, rfl, rfl, rfl, fun k hk => by omega⟩, ⟨?_, ⟨0, by omega, rfl, rfl⟩, fun p hp => rfl, fun j hj => ?_⟩, ⟨1, 1, by omega, by omega, rfl, rfl, rfl, rfl⟩, ⟨0, by omega, rfl, rfl, fun k hk => by omega⟩, Or.inl ⟨rfl, rfl⟩, ⟨fun k hk => rfl, fun k hk => rfl, Iff.rfl, Iff.rfl, rfl, Or.inl rfl⟩, ⟨by omega, rfl, rfl, fun k hk => by omega, 0, by omega, rfl, rfl, fun k h1 h2 => rfl⟩, fun d hd => Or.inl ⟨?_, ?_⟩⟩
  · show zokv j 0
    have h0 : (0 : Int32).toInt = 0 := rfl
    unfold zokv
    rw [h0]
    split <;> (try split) <;> omega
  · exact fun p => ⟨by show (0 : Nat) < 1024; omega, fun q hq => by simp at hq⟩
  · refine ⟨if j / 10 = j % 10 then 0 else 9, ?_, ?_, fun k hk => ?_⟩
    · show yst 100 j = _
      unfold yst ystep
      rw [if_pos hj]
      split <;> rfl
    · split <;> omega
    · rw [zwk_zero]
      split <;> omega
  · show ymin 6 d = -1
    unfold ymin
    rw [if_pos hd]
  · show ymin 6 d = -1
    unfold ymin
    rw [if_pos hd]
