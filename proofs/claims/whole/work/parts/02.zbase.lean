/-! THE STATE OF BOTH SIDES IN NUMBERS: scalars by 100 * place + slot, int rows by place, long rows by place. -/
abbrev ZSt : Type := (Nat → Int32) × (Nat → Nat → Int32) × (Nat → Nat → Int64)
def zs (u : ZSt) (i : Nat) (v : Int32) : ZSt := (fun j => if j = i then v else u.1 j, u.2.1, u.2.2)
def za (u : ZSt) (k i : Nat) (v : Int32) : ZSt := (u.1, fun j => if j = k then upd (u.2.1 k) i v else u.2.1 j, u.2.2)
def zl (u : ZSt) (k i : Nat) (v : Int64) : ZSt := (u.1, u.2.1, fun j => if j = k then vp_updL (u.2.2 k) i v else u.2.2 j)
def zcp (u : ZSt) (k k' sp dp n : Nat) : ZSt := (u.1, fun j => if j = k' then va_cpy (u.2.1 k) (u.2.1 k') sp dp n else u.2.1 j, u.2.2)
def zcpl (u : ZSt) (k k' sp dp n : Nat) : ZSt := (u.1, u.2.1, fun j => if j = k' then va_cpy (u.2.2 k) (u.2.2 k') sp dp n else u.2.2 j)
/-- a place: an object (its class, its fields: a place, or a number), or a row (0 ints, 1 longs, 2 booleans; its length) -/
abbrev ZSE : Type := (Nat × List (Option Nat)) ⊕ (Nat × Nat)
def zsch : List ZSE := [
  .inl (10, [some 1, some 5, some 9, some 15, some 19, some 22, some 27, some 32, some 33, some 36]),
  .inl (3, [some 2, some 3, some 4, none, none, none, none, none]), .inr (0, 10), .inr (0, 100), .inr (0, 206),
  .inl (1, [some 1, some 6, some 7, some 8, none, none]), .inr (0, 40), .inr (0, 40), .inr (0, 40),
  .inl (6, [some 10, some 11, none, none]), .inr (0, 120),
  .inl (2, [some 12, some 13, some 14, none]), .inr (0, 128), .inr (0, 128), .inr (0, 128),
  .inl (2, [some 16, some 17, some 18, none]), .inr (0, 128), .inr (0, 128), .inr (0, 128),
  .inl (0, [some 1, some 15, some 20, some 21, none]), .inr (0, 10), .inr (0, 6),
  .inl (5, [some 1, some 19, some 23, some 24, some 25, some 26]), .inr (0, 10), .inr (0, 64), .inr (0, 64), .inr (0, 64),
  .inl (7, [some 28, some 29, some 30, some 31]), .inr (0, 6), .inr (0, 6), .inr (0, 6), .inr (1, 360),
  .inl (9, [some 1, some 19, some 27]),
  .inl (4, [some 34, some 35, none]), .inr (0, 6), .inr (0, 6),
  .inl (8, [some 37, some 38, none, none]), .inr (0, 50), .inr (0, 24),
  .inl (11, [some 40, some 41, some 42, some 43, none, none, none, none, some 44, none, some 45, none, none, some 46, none, some 47, none, none, none, none, none, none, some 48, some 49, some 50, none, some 51, some 52, some 53, some 54, some 55, none, none, some 56, some 57, none, none, none, some 58, some 59, some 60, some 61]),
  .inr (0, 126), .inr (0, 40), .inr (0, 40), .inr (0, 40), .inr (0, 10), .inr (0, 10), .inr (0, 120), .inr (0, 120), .inr (0, 6), .inr (0, 10), .inr (0, 10), .inr (2, 64), .inr (0, 64), .inr (0, 64), .inr (0, 5), .inr (0, 5), .inr (0, 50), .inr (0, 24), .inr (0, 6), .inr (0, 6), .inr (1, 360), .inr (1, 60)]
abbrev zcl : List vw_C := [(RX0, TX0, 5), (RX1, TX1, 6), (RX2, TX2, 4), (RX3, TX3, 8), (RX4, TX4, 3), (RX5, TX5, 6), (RX6, TX6, 4), (RX7, TX7, 4), (RX8, TX8, 4), (RX9, TX9, 3), (RX10, TX10, 10), (RX11, TX11, 42)]
def zcv (ad : Nat → Nat) : Value → Value
  | .ref k => .ref (ad k)
  | v => v
theorem zcv_cat (ad : Nat → Nat) (v : Value) : (zcv ad v).category = v.category := by cases v <;> rfl
def zfv (ad : Nat → Nat) (u : ZSt) (k j : Nat) : Option Nat → Value
  | some q => .ref (ad q)
  | none => .int (u.1 (100 * k + j))
def zE (ad : Nat → Nat) (ca : Nat → ClassId) (u : ZSt) (k : Nat) : ZSE → va_E
  | .inl o => .inr (o.1, o.2.mapIdx (fun j f => zfv ad u k j f))
  | .inr a => match a.1 with
    | 0 => .inl (ca 0, (a.2, .inl (u.2.1 k)))
    | 1 => .inl (ca 1, (a.2, .inr (.inl (u.2.2 k))))
    | _ => .inl (ca 2, (a.2, .inl (u.2.1 k)))
def zw (ad : Nat → Nat) (ca : Nat → ClassId) (u : ZSt) : va_W := zsch.mapIdx (fun k e => (ad k, zE ad ca u k e))
def ztys (ca : Nat → ClassId) : List (ClassId × FieldType) := [(ca 0, .int), (ca 1, .long), (ca 2, .boolean)]
theorem zw_at (ad : Nat → Nat) (ca : Nat → ClassId) (u : ZSt) (k : Nat) : (zw ad ca u)[k]? = (zsch[k]?).map (fun e => (ad k, zE ad ca u k e)) := by
  simp [zw, List.getElem?_mapIdx]
theorem zw_set {ad : Nat → Nat} {ca : Nat → ClassId} {u u' : ZSt} {k : Nat} {e : ZSE} {x : va_E} (hk : zsch[k]? = some e) (hx : zE ad ca u' k e = x) (ho : ∀ j e', j ≠ k → zsch[j]? = some e' → zE ad ca u' j e' = zE ad ca u j e') : (zw ad ca u).set k (ad k, x) = zw ad ca u' := by
  apply List.ext_getElem?
  intro j
  rw [zw_at]
  by_cases hj : k = j
  · subst hj
    have hl : k < (zw ad ca u).length := by
      have := (List.getElem?_eq_some_iff.mp hk).1
      simpa [zw] using this
    rw [List.getElem?_set_self hl, hk, ← hx]
    rfl
  · rw [List.getElem?_set_ne hj, zw_at]
    cases h : zsch[j]? with
    | none => rfl
    | some e' => simp only [Option.map_some]; rw [ho j e' (Ne.symm hj) h]
theorem zw_mapIdx_set {ad : Nat → Nat} {u : ZSt} {k j : Nat} {v : Int32} {fs : List (Option Nat)} (hj : fs[j]? = some none) : fs.mapIdx (fun i f => zfv ad (zs u (100 * k + j) v) k i f) = (fs.mapIdx (fun i f => zfv ad u k i f)).set j (.int v) := by
  apply List.ext_getElem?
  intro i
  rw [List.getElem?_mapIdx]
  by_cases h : j = i
  · subst h
    have hl : j < (fs.mapIdx (fun i f => zfv ad u k i f)).length := by
      have := (List.getElem?_eq_some_iff.mp hj).1
      simpa using this
    rw [List.getElem?_set_self hl, hj]
    simp [zfv, zs]
  · rw [List.getElem?_set_ne h, List.getElem?_mapIdx]
    cases fs[i]? with
    | none => rfl
    | some f =>
      cases f with
      | some q => rfl
      | none =>
        simp only [Option.map_some, zfv, zs]
        rw [if_neg (by omega)]
theorem zw_put {ad : Nat → Nat} {ca : Nat → ClassId} {u : ZSt} {k j ci : Nat} {v : Int32} {fs : List (Option Nat)} (hlen : ∀ (k' : Nat) (o : Nat × List (Option Nat)), zsch[k']? = some (.inl o) → o.2.length ≤ 100) (hk : zsch[k]? = some (.inl (ci, fs))) (hj : fs[j]? = some none) :
    (zw ad ca u).set k (ad k, .inr (ci, (fs.mapIdx (fun i f => zfv ad u k i f)).set j (.int v))) = zw ad ca (zs u (100 * k + j) v) := by
  refine zw_set hk ?_ ?_
  · show (Sum.inr (ci, fs.mapIdx _) : va_E) = _
    rw [zw_mapIdx_set hj]
  · intro k' e' hne he
    cases e' with
    | inr a => rfl
    | inl o =>
      show (Sum.inr (o.1, o.2.mapIdx _) : va_E) = Sum.inr (o.1, o.2.mapIdx _)
      congr 2
      apply List.ext_getElem?
      intro i
      rw [List.getElem?_mapIdx, List.getElem?_mapIdx]
      cases hf : o.2[i]? with
      | none => rfl
      | some f =>
        cases f with
        | some q => rfl
        | none =>
          have h1 := (List.getElem?_eq_some_iff.mp hf).1
          have h2 := hlen k' o he
          have h3 := (List.getElem?_eq_some_iff.mp hj).1
          have h4 := hlen k (ci, fs) hk
          simp only [Option.map_some, zfv, zs]
          rw [if_neg (by simp only at h4; omega)]
theorem zw_putA {ad : Nat → Nat} {ca : Nat → ClassId} {u u' : ZSt} {k : Nat} {a : Nat × Nat} {x : va_E} (hk : zsch[k]? = some (.inr a)) (hx : zE ad ca u' k (.inr a) = x) (h1 : u'.1 = u.1) (h2 : ∀ j, j ≠ k → u'.2.1 j = u.2.1 j ∧ u'.2.2 j = u.2.2 j) : (zw ad ca u).set k (ad k, x) = zw ad ca u' := by
  refine zw_set hk hx ?_
  intro j e' hne he
  cases e' with
  | inl o =>
    show (Sum.inr (o.1, o.2.mapIdx _) : va_E) = Sum.inr (o.1, o.2.mapIdx _)
    have e : (fun (i : Nat) (f : Option Nat) => zfv ad u' j i f) = (fun i f => zfv ad u j i f) := by
      funext i f
      cases f with
      | some q => rfl
      | none => simp only [zfv, h1]
    rw [e]
  | inr b =>
    obtain ⟨e1, e2⟩ := h2 j hne
    obtain ⟨t, n⟩ := b
    match t with
    | 0 => simp only [zE, e1]
    | 1 => simp only [zE, e2]
    | t + 2 => simp only [zE, e1]
theorem zsch_len : ∀ (k : Nat) (o : Nat × List (Option Nat)), zsch[k]? = some (.inl o) → o.2.length ≤ 100 := by
  have h : zsch.all (fun e => match e with | .inl o => decide (o.2.length ≤ 100) | .inr _ => true) = true := by decide +kernel
  intro k o hk
  have h1 := List.all_eq_true.mp h _ (List.mem_of_getElem? hk)
  simpa using h1
/-! the fixed things of a run: launch, class ids, addresses, array classes, the script -/
abbrev ZG : Type := Launch × va_G × (Nat → Nat) × (Nat → ClassId) × Nat × (Nat → Int32)
abbrev zgl (G : ZG) : Launch := G.1
abbrev zgD (G : ZG) : va_G := G.2.1
abbrev zga (G : ZG) : Nat → Nat := G.2.2.1
abbrev zgc (G : ZG) : Nat → ClassId := G.2.2.2.1
abbrev zgL (G : ZG) : Nat := G.2.2.2.2.1
abbrev zgx (G : ZG) : Nat → Int32 := G.2.2.2.2.2
def zBOD (i : Nat) : Int32 := ([1, 10, 11, 2, 20, 0, 0, 0, 0, 30, 0, 0, 0, 41, 40, 0, 0, 0, 50, 0, 0, 0, 0, 60, 70, 0, 0, 0, 0, 80, 0, 81] : List Int32).getD i 0
def zABV (i : Nat) : Int32 := ([-1, 0, 0, 2, 1, 3, 0, 4] : List Int32).getD i 0
def zok (w : Cond) : Bool := w.onTables && (w.keeps || match w with | .fieldLinkNest .. => true | .methodLinkNest .. => true | _ => false)
def zAW (U : State) : Prop := ∀ w ∈ lw_tbl, zok w = true → w.before #[] U = true
theorem zok_on {w : Cond} (h : zok w = true) : w.onTables = true := by
  simp only [zok, Bool.and_eq_true] at h
  exact h.1
theorem zAW.at {U : State} (h : zAW U) {w : Cond} (hw : w ∈ lw_tbl) (hk : zok w = true) {A : Array Value} : w.before A U = true := va_Nw.use (zok_on hk) (h w hw hk)
theorem zAW.warm {s U : State} (hW : s.WarmedH U.vm) (h : zAW s) : zAW U := by
  intro w hw hk
  have h1 := h w hw hk
  have h2 := zok_on hk
  by_cases h3 : w.keeps = true
  · exact word_at hW (Or.inl (by rw [h2, h3]; rfl)) h1
  · have h3 : w.keeps = false := by simpa using h3
    simp only [zok, h2, h3, Bool.true_and, Bool.false_or] at hk
    cases w <;> first | exact va_Nw.warmF hW h1 | exact va_Nw.warmM hW h1 | (exact absurd hk (by simp))
theorem zAW.same {u U : State} (hu : u.vm = U.vm) (h : zAW u) : zAW U := fun w hw hk => va_Nw.same (zok_on hk) hu (h w hw hk)
def zA (G : ZG) (sz : Nat) : Nat → Prop := fun q => (∃ k, k < zsch.length ∧ q = zga G k) ∨ sz ≤ q
def zSt (G : ZG) (A : Nat → Prop) (U : State) (H : Heap) : Prop :=
  va_T .int (zga G 100) 32 (fun j => .int (zBOD j)) A U H ∧ va_T .int (zga G 101) 8 (fun j => .int (zABV j)) A U H ∧ (va_X (zga G 102) (zgL G) (zgx G) U H ∧ zga G 102 < H.size ∧ ¬ A (zga G 102)) ∧
  va_Z RX8 "BODIES" "[I" (.ref (zga G 100)) A U H ∧ va_Z RX8 "ABOVE" "[I" (.ref (zga G 101)) A U H
theorem zSt.go {G : ZG} {A B : Nat → Prop} {s U : State} {H : Heap} {locs : List Loc} (h : zSt G A s s.heap) (hvm : s.vm.Alike U.vm) (hS : va_S A s.heap H locs) (hB : ∀ q, B q → A q) : zSt G B U H := by
  obtain ⟨a1, b1, ⟨c1, c2, c3⟩, d1, d2⟩ := h
  have kp : ∀ q, q < s.heap.size → ¬ A q → H[q]? = s.heap[q]? := hS.2.1
  refine ⟨((a1.kept kp).narrow hB).moved hvm, ((b1.kept kp).narrow hB).moved hvm, ⟨(c1.kept (kp _ c2 c3)).moved hvm, Nat.lt_of_lt_of_le c2 hS.1, fun h => c3 (hB _ h)⟩, ?_, ?_⟩
  · exact ((d1.kept kp).narrow hB).moved hvm
  · exact ((d2.kept kp).narrow hB).moved hvm
theorem zw_len (ad : Nat → Nat) (ca : Nat → ClassId) (u : ZSt) : (zw ad ca u).length = zsch.length := by simp [zw]
theorem zw_addr {ad : Nat → Nat} {ca : Nat → ClassId} {u : ZSt} {k : Nat} {q : Nat × va_E} (h : (zw ad ca u)[k]? = some q) : k < zsch.length ∧ q.1 = ad k := by
  rw [zw_at] at h
  cases he : zsch[k]? with
  | none => rw [he] at h; cases h
  | some e =>
    rw [he] at h
    cases h
    exact ⟨(List.getElem?_eq_some_iff.mp he).1, rfl⟩
theorem zw_D {A : Nat → Prop} {ad : Nat → Nat} {ca : Nat → ClassId} {u u' : ZSt} (h : va_D A (zw ad ca u)) : va_D A (zw ad ca u') := by
  have key : ∀ (k : Nat) (q : Nat × va_E), (zw ad ca u')[k]? = some q → ∃ q0, (zw ad ca u)[k]? = some q0 ∧ q0.1 = q.1 := by
    intro k q hk
    obtain ⟨h1, h2⟩ := zw_addr hk
    refine ⟨(ad k, zE ad ca u k zsch[k]), ?_, h2.symm⟩
    rw [zw_at, List.getElem?_eq_getElem h1]
    rfl
  refine ⟨fun i j p q hi hj hpq => ?_, fun k q hk => ?_⟩
  · obtain ⟨p0, a1, a2⟩ := key i p hi
    obtain ⟨q0, b1, b2⟩ := key j q hj
    exact h.1 i j p0 q0 a1 b1 (a2.trans (hpq.trans b2.symm))
  · obtain ⟨q0, a1, a2⟩ := key k q hk
    rw [← a2]
    exact h.2 k q0 a1
theorem zA_in {G : ZG} {A : Nat → Prop} {u : ZSt} {H0 H : Heap} {locs : List Loc} (hD : va_D A (zw (zga G) (zgc G) u)) (hS : va_S A H0 H locs) (hA : ∀ q, H0.size ≤ q → A q) : ∀ q, zA G H.size q → A q := by
  intro q h
  rcases h with ⟨k, hk, rfl⟩ | h
  · have := hD.2 k (zga G k, zE (zga G) (zgc G) u k zsch[k]) (by rw [zw_at, List.getElem?_eq_getElem hk]; rfl)
    exact this
  · exact hA q (Nat.le_trans hS.1 h)
theorem zA_D {G : ZG} {B : Nat → Prop} {u : ZSt} {sz : Nat} (hD : va_D B (zw (zga G) (zgc G) u)) : va_D (zA G sz) (zw (zga G) (zgc G) u) := hD.weaken fun k q hk _ => by
  obtain ⟨h1, h2⟩ := zw_addr hk
  exact Or.inl ⟨k, h1, h2⟩
/-! a method: its name, code, locals, answer, its instructions (pc, instruction, length, the place of a branch's target) -/
abbrev ZI : Type := Nat × Instr × Nat × Nat
abbrev ZM : Type := MethodName × ByteArray × Nat × Option FieldType × List ZI
abbrev zy (M : ZM) : MethodName := M.1
abbrev zcc (M : ZM) : ByteArray := M.2.1
abbrev znL (M : ZM) : Nat := M.2.2.1
abbrev zrt (M : ZM) : Option FieldType := M.2.2.2.1
abbrev ztb (M : ZM) : List ZI := M.2.2.2.2
def zpc (M : ZM) (i : Nat) : Nat := (((ztb M)[i]?).map (fun e => e.1)).getD 0
def zjump : Instr → Option Int
  | .goto off => some off
  | .ifCond _ off => some off
  | .if_icmp _ off => some off
  | _ => none
def zends : Instr → Bool
  | .goto _ | .ireturn | .lreturn | .return_ | .tableswitch .. | .lookupswitch .. => true
  | _ => false
def zchk1 (M : ZM) : List ZI → Bool
  | [] => true
  | e :: r => decide (decode (zcc M) e.1 = .ok (e.2.1, e.2.2.1)) && (zends e.2.1 || (match r with | e2 :: _ => e2.1 == e.1 + e.2.2.1 | [] => false)) && (match zjump e.2.1 with | some off => decide ((e.1 : Int) + off = (zpc M e.2.2.2 : Int)) | none => true) && zchk1 M r
def zchk (M : ZM) : Bool := zchk1 M (ztb M) && (zpc M 0 == 0) && plainName (zy M).cls && (match zrt M with | none => true | some .int => true | some .boolean => true | some .long => true | _ => false)
theorem zchk1_at {M : ZM} : ∀ (l : List ZI), zchk1 M l = true → ∀ (i : Nat) (e : ZI), l[i]? = some e → decode (zcc M) e.1 = .ok (e.2.1, e.2.2.1) ∧ (zends e.2.1 = false → ∃ e2, l[i + 1]? = some e2 ∧ e2.1 = e.1 + e.2.2.1) ∧ (∀ off, zjump e.2.1 = some off → (e.1 : Int) + off = (zpc M e.2.2.2 : Int))
  | [], _, i, e, h => by simp at h
  | e0 :: r, hc, i, e, h => by
    simp only [zchk1, Bool.and_eq_true, decide_eq_true_eq, Bool.or_eq_true] at hc
    obtain ⟨⟨⟨c1, c2⟩, c3⟩, c4⟩ := hc
    cases i with
    | zero =>
      simp only [List.getElem?_cons_zero, Option.some.injEq] at h
      subst h
      refine ⟨c1, fun hz => ?_, fun off ho => ?_⟩
      · rcases c2 with c2 | c2
        · rw [hz] at c2; cases c2
        · cases r with
          | nil => cases c2
          | cons e2 r => exact ⟨e2, by simp, by simpa using c2⟩
      · rw [ho] at c3
        simpa using c3
    | succ i =>
      rw [List.getElem?_cons_succ] at h
      obtain ⟨h1, h2, h3⟩ := zchk1_at r c4 i e h
      exact ⟨h1, fun hz => by obtain ⟨e2, q1, q2⟩ := h2 hz; exact ⟨e2, by rw [List.getElem?_cons_succ]; exact q1, q2⟩, h3⟩
theorem zchk_at {M : ZM} (hc : zchk M = true) {i pc len a : Nat} {ins : Instr} (h : (ztb M)[i]? = some (pc, ins, len, a)) : decode (zcc M) pc = .ok (ins, len) ∧ zpc M i = pc ∧ (zends ins = false → zpc M (i + 1) = pc + len) ∧ (∀ off, zjump ins = some off → (pc : Int) + off = (zpc M a : Int)) := by
  simp only [zchk, Bool.and_eq_true] at hc
  obtain ⟨h1, h2, h3⟩ := zchk1_at (ztb M) hc.1.1.1 i _ h
  refine ⟨h1, by simp [zpc, h], fun hz => ?_, h3⟩
  obtain ⟨e2, q1, q2⟩ := h2 hz
  simp [zpc, q1, q2]
