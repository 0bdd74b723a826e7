/-! THE JUDGEMENT: from instruction i, with the locals lv, the stack st and the numbers u (references are places), the method ends with tgt: its answer, the numbers then. -/
def zretAt (M : ZM) (pc : Nat) : Value → Prop
  | .int r => decode (zcc M) pc = .ok (.ireturn, 1) ∧ (zrt M = some .int ∨ (zrt M = some .boolean ∧ (r = 0 ∨ r = 1)))
  | .long _ => decode (zcc M) pc = .ok (.lreturn, 1) ∧ zrt M = some .long
  | .null => decode (zcc M) pc = .ok (.return_, 1) ∧ zrt M = none
  | _ => False
def zrst : Value → List Value
  | .null => []
  | v => [v]
abbrev zwg (G : ZG) (u : ZSt) : va_W := zw (zga G) (zgc G) u
def zCx (G : ZG) (M : ZM) (d : Nat) (tgt : Value × ZSt) (p : Program) (e : Env) (R : Room) (s : State) (m : MethodId) (args : Array Value) (below : List Frame) (meth : Method) (c : Code) (A : Nat → Prop) (cells slots : Nat) (Qf : State → Prop) : Prop :=
  p.tables.exec = Jvm.exec ∧ c.code = zcc M ∧ c.maxLocals = znL M ∧ s.vm.findClass (zy M).cls = some m.cls ∧ zAW s ∧ va_K (zgD G) zcl (ztys (zgc G)) s ∧ zSt G A s s.heap ∧ (∀ q, s.heap.size ≤ q → A q) ∧ (d ≤ R.frames ∧ 64 * d ≤ R.locals ∧ cells ≤ R.cells ∧ slots ≤ R.slots) ∧
  ∀ (pc : Nat) (H : Heap) (locs : List Loc) (ls : Array Slot), zretAt M pc tgt.1 → va_P (zgD G) zcl (zwg G tgt.2) H → va_D A (zwg G tgt.2) → va_S A s.heap H locs → W p (zgl G) e R s m args below meth c H locs cells slots Qf (F0 m pc ls (zrst tgt.1))
def zlv (G : ZG) (lv : List (Nat × Value)) : List (Nat × Value) := lv.map (fun q => (q.1, zcv (zga G) q.2))
abbrev zst (G : ZG) (st : List Value) : List Value := st.map (zcv (zga G))
def ZW (G : ZG) (M : ZM) (d : Nat) (tgt : Value × ZSt) (i : Nat) (lv : List (Nat × Value)) (st : List Value) (u : ZSt) : Prop :=
  zchk M = true → ∀ (p : Program) (e : Env) (R : Room) (s : State) (m : MethodId) (args : Array Value) (below : List Frame) (meth : Method) (c : Code) (A : Nat → Prop) (cells slots : Nat) (Qf : State → Prop), zCx G M d tgt p e R s m args below meth c A cells slots Qf →
    ∀ (H : Heap) (locs : List Loc) (ls : Array Slot), va_P (zgD G) zcl (zwg G u) H → va_D A (zwg G u) → va_S A s.heap H locs → lv_has ls (znL M) (zlv G lv) → W p (zgl G) e R s m args below meth c H locs cells slots Qf (F0 m (zpc M i) ls (zst G st))
/-- the same, where the end is told by a tree: t, and what is made of its leaves -/
def ZGo (G : ZG) (M : ZM) (d : Nat) {β : Type} (t : Option β) (K : β → Option (Value × ZSt)) (i : Nat) (lv : List (Nat × Value)) (st : List Value) (u : ZSt) : Prop :=
  ∀ tgt, t.bind K = some tgt → ZW G M d tgt i lv st u
def zlk (lv : List (Nat × Value)) (k : Nat) : Option Value := (lv.find? (fun q => q.1 == k)).map (fun q => q.2)
def zset (lv : List (Nat × Value)) (k : Nat) (v : Value) : List (Nat × Value) := lv.map (fun q => if q.1 = k then (k, v) else q) ++ (if lv.any (fun q => q.1 == k) then [] else [(k, v)])
def zfree (lv : List (Nat × Value)) (k : Nat) : Bool := lv.all (fun q => !(q.1 + 1 == k && q.2.category == 2))
theorem zlk_mem {lv : List (Nat × Value)} {k : Nat} {v : Value} (h : zlk lv k = some v) : (k, v) ∈ lv := by
  unfold zlk at h
  cases hf : lv.find? (fun q => q.1 == k) with
  | none => rw [hf] at h; cases h
  | some q =>
    rw [hf] at h
    have h1 := List.mem_of_find?_eq_some hf
    have h2 := List.find?_some hf
    have h3 : q.1 = k := by simpa using h2
    have h4 : q.2 = v := by simpa using h
    rw [← h3, ← h4]
    exact h1
theorem zlk_has {G : ZG} {lv : List (Nat × Value)} {ls : Array Slot} {n k : Nat} {v : Value} (hl : lv_has ls n (zlv G lv)) (h : zlk lv k = some v) : ls[k]? = some (.val (zcv (zga G) v)) :=
  hl.2.2 (k, zcv (zga G) v) (List.mem_map.mpr ⟨(k, v), zlk_mem h, rfl⟩)
theorem zset_has {G : ZG} {lv lv' : List (Nat × Value)} {ls : Array Slot} {n k : Nat} {v : Value} (hs : zset lv k v = lv') (hf : zfree lv k = true)
    (hl : lv_has ls n ((k, zcv (zga G) v) :: (zlv G lv).filter (fun q => !(q.1 == k) && !(q.1 + 1 == k && q.2.category == 2)))) : lv_has ls n (zlv G lv') := by
  subst hs
  refine ⟨hl.1, hl.2.1, fun q hq => ?_⟩
  obtain ⟨q0, hq0, rfl⟩ := List.mem_map.mp hq
  refine hl.2.2 _ ?_
  unfold zset at hq0
  rcases List.mem_append.mp hq0 with h | h
  · obtain ⟨q1, h1, rfl⟩ := List.mem_map.mp h
    by_cases hk : q1.1 = k
    · rw [if_pos hk]
      exact List.mem_cons_self
    · rw [if_neg hk]
      refine List.mem_cons_of_mem _ (List.mem_filter.mpr ⟨List.mem_map.mpr ⟨q1, h1, rfl⟩, ?_⟩)
      have h2 := List.all_eq_true.mp hf q1 h1
      simp only [zcv_cat]
      rw [h2]
      simp [hk]
  · split at h
    · cases h
    · have h5 : q0 = (k, v) := by simpa using h
      subst h5
      exact List.mem_cons_self
theorem zsub_has {G : ZG} {lv lv' : List (Nat × Value)} {ls : Array Slot} {n : Nat} (hs : ∀ q ∈ lv', q ∈ lv) (hl : lv_has ls n (zlv G lv)) : lv_has ls n (zlv G lv') :=
  ⟨hl.1, hl.2.1, fun q hq => by
    obtain ⟨q0, h1, rfl⟩ := List.mem_map.mp hq
    exact hl.2.2 _ (List.mem_map.mpr ⟨q0, hs q0 h1, rfl⟩)⟩
theorem zE_int {ad : Nat → Nat} {ca : Nat → ClassId} {u : ZSt} {k n : Nat} : zE ad ca u k (.inr (0, n)) = .inl (ca 0, (n, .inl (u.2.1 k))) := rfl
theorem zw_int {ad : Nat → Nat} {ca : Nat → ClassId} {u : ZSt} {k n : Nat} (h : zsch[k]? = some (.inr (0, n))) : (zw ad ca u)[k]? = some (ad k, .inl (ca 0, (n, .inl (u.2.1 k)))) := by rw [zw_at, h]; rfl
theorem zw_long {ad : Nat → Nat} {ca : Nat → ClassId} {u : ZSt} {k n : Nat} (h : zsch[k]? = some (.inr (1, n))) : (zw ad ca u)[k]? = some (ad k, .inl (ca 1, (n, .inr (.inl (u.2.2 k))))) := by rw [zw_at, h]; rfl
theorem zw_bool {ad : Nat → Nat} {ca : Nat → ClassId} {u : ZSt} {k n : Nat} (h : zsch[k]? = some (.inr (2, n))) : (zw ad ca u)[k]? = some (ad k, .inl (ca 2, (n, .inl (u.2.1 k)))) := by rw [zw_at, h]; rfl
theorem zw_obj {ad : Nat → Nat} {ca : Nat → ClassId} {u : ZSt} {k ci : Nat} {fs : List (Option Nat)} (h : zsch[k]? = some (.inl (ci, fs))) : (zw ad ca u)[k]? = some (ad k, .inr (ci, fs.mapIdx (fun j f => zfv ad u k j f))) := by rw [zw_at, h]; rfl
abbrev zin (i : Int32) (n : Nat) : Prop := ¬ (i < 0 ∨ n ≤ i.toNatClampNeg)
abbrev zushr (x y : Int32) : Int32 := (x.toUInt32 >>> (y.toUInt32 &&& Int32.toUInt32 31)).toInt32
abbrev zrem (x y : Int32) : Int32 := x - x / y * y
/-- the words of the fields: which fields a class' links name -/
def zcls (ci : Nat) : String × u_T × Nat := (zcl[ci]?).getD ("", TX0, 0)
theorem zcl_in : ∀ ci, ci < 12 → ∀ w ∈ u_ws (zcls ci).1 (zcls ci).2.1 (zcls ci).2.2, w ∈ lw_tbl ∧ zok w = true := by
  have h : (List.range 12).all (fun ci => (u_ws (zcls ci).1 (zcls ci).2.1 (zcls ci).2.2).all (fun w => decide (w ∈ lw_tbl) && zok w)) = true := by decide +kernel
  intro ci hci w hw
  have h1 := List.all_eq_true.mp (List.all_eq_true.mp h ci (List.mem_range.mpr hci)) w hw
  simpa using h1
def zty (ci k : Nat) : FieldType := (parseFieldDescriptor ((zcls ci).2.1 k).2.2.1).getD .int
theorem zcl_ty : ∀ ci, ci < 12 → ∀ k, k < (zcls ci).2.2 → parseFieldDescriptor ((zcls ci).2.1 k).2.2.1 = some (zty ci k) := by decide +kernel
theorem zcl_nm : ∀ ci, ci < 12 → ∀ a, a < (zcls ci).2.2 → ∀ b, b < (zcls ci).2.2 → a ≠ b → ((zcls ci).2.1 a).2.1 ≠ ((zcls ci).2.1 b).2.1 := by decide +kernel
theorem zcl_at : ∀ ci, ci < 12 → zcl[ci]? = some (zcls ci) := by
  intro ci h
  have : ∃ x, zcl[ci]? = some x := ⟨zcl[ci], List.getElem?_eq_getElem h⟩
  obtain ⟨x, hx⟩ := this
  simp only [zcls, hx, Option.getD_some]
theorem zAW.cls {s : State} (h : zAW s) {ci : Nat} (hci : ci < 12) {args : Array Value} : ∀ w ∈ u_ws (zcls ci).1 (zcls ci).2.1 (zcls ci).2.2, w.before args s = true := fun w hw => h.at (zcl_in ci hci w hw).1 (zcl_in ci hci w hw).2
/-- the link at 'idx' of the class 'own' names field k of the class ci -/
def zFL (own : String) (idx ci k : Nat) : Prop := ci < 12 ∧ k < (zcls ci).2.2 ∧ ((zcls ci).2.1 k).1 = (zcls ci).1 ∧ ((Cond.fieldLink own idx (zcls ci).1 ((zcls ci).2.1 k).2.1 ((zcls ci).2.1 k).2.2.1 ∈ lw_tbl) ∨ ∃ host, Cond.fieldLinkNest own idx (zcls ci).1 ((zcls ci).2.1 k).2.1 ((zcls ci).2.1 k).2.2.1 host ∈ lw_tbl)
section ZROWS
variable {G : ZG} {M : ZM} {d i pc len a : Nat} {tgt : Value × ZSt} {lv lv' : List (Nat × Value)} {st st' rest : List Value} {u : ZSt} {ins : Instr} {β : Type} {t tA tB : Option β} {K : β → Option (Value × ZSt)}
theorem z_bs {α : Type} (x : Option α) : x.bind some = x := by cases x <;> rfl
theorem zgo_op (ht : (ztb M)[i]? = some (pc, ins, len, a)) (hz : zends ins = false)
    (hrow : ∀ (p : Program) (e : Env) (R : Room) (s : State) (m : MethodId) (args : Array Value) (below : List Frame) (meth : Method) (c : Code) (H : Heap) (locs : List Loc) (cells slots : Nat) (Qf : State → Prop) (ls : Array Slot), p.tables.exec = Jvm.exec → c.code = zcc M → s.vm.findClass (zy M).cls = some m.cls → zAW s → decode (zcc M) pc = .ok (ins, len) → lv_has ls (znL M) (zlv G lv) → W p (zgl G) e R s m args below meth c H locs cells slots Qf (F0 m (pc + len) ls (zst G st')) → W p (zgl G) e R s m args below meth c H locs cells slots Qf (F0 m pc ls (zst G st)))
    (h : ZGo G M d t K (i + 1) lv st' u) : ZGo G M d t K i lv st u := by
  intro tgt htg hc p e R s m args below meth c A cells slots Qf cx H locs ls hP hD hS hl
  obtain ⟨h1, h2, h3, h4⟩ := zchk_at hc ht
  rw [h2]
  refine hrow p e R s m args below meth c H locs cells slots Qf ls cx.1 cx.2.1 cx.2.2.2.1 cx.2.2.2.2.1 h1 hl ?_
  have := h tgt htg hc p e R s m args below meth c A cells slots Qf cx H locs ls hP hD hS hl
  rw [h3 hz] at this
  exact this
theorem zgo_sub (hs : ∀ q ∈ lv', q ∈ lv) (h : ZGo G M d t K i lv' st u) : ZGo G M d t K i lv st u := by
  intro tgt htg hc p e R s m args below meth c A cells slots Qf cx H locs ls hP hD hS hl
  exact h tgt htg hc p e R s m args below meth c A cells slots Qf cx H locs ls hP hD hS (zsub_has hs hl)
theorem zgo_leaf {x : β} (h : ZGo G M d (K x) some i lv st u) : ZGo G M d (some x) K i lv st u := by
  intro tgt htg
  exact h tgt ((z_bs (K x)).trans htg)
theorem zgo_unleaf (h : ZGo G M d t K i lv st u) : ZGo G M d (t.bind K) some i lv st u := by
  intro tgt htg
  rw [z_bs] at htg
  exact h tgt htg
theorem zgo_none : ZGo G M d (none : Option β) K i lv st u := by
  intro tgt htg
  cases htg
theorem g_aload_n {k : Fin 4} {x : Nat} (ht : (ztb M)[i]? = some (pc, .aload_n k, 1, a)) (hv : zlk lv k.val = some (.ref x)) (h : ZGo G M d t K (i + 1) lv (.ref x :: st) u) : ZGo G M d t K i lv (st) u :=
  zgo_op (st := st) (st' := .ref x :: st) ht rfl (fun p e R s m args below meth c H locs cells slots Qf ls hx hb hown hAW hd hl k => lv_aload_n hx hb hd rfl (zlk_has hl hv) k) h
theorem g_iload_n {k : Fin 4} {x : Int32} (ht : (ztb M)[i]? = some (pc, .iload_n k, 1, a)) (hv : zlk lv k.val = some (.int x)) (h : ZGo G M d t K (i + 1) lv (.int x :: st) u) : ZGo G M d t K i lv (st) u :=
  zgo_op (st := st) (st' := .int x :: st) ht rfl (fun p e R s m args below meth c H locs cells slots Qf ls hx hb hown hAW hd hl k => lv_iload_n hx hb hd rfl (zlk_has hl hv) k) h
theorem g_iload {k : Nat} {x : Int32} (ht : (ztb M)[i]? = some (pc, .iload k, 2, a)) (hv : zlk lv k = some (.int x)) (h : ZGo G M d t K (i + 1) lv (.int x :: st) u) : ZGo G M d t K i lv (st) u :=
  zgo_op (st := st) (st' := .int x :: st) ht rfl (fun p e R s m args below meth c H locs cells slots Qf ls hx hb hown hAW hd hl k => lv_iload hx hb hd (zlk_has hl hv) k) h
theorem g_lload_n {k : Fin 4} {x : Int64} (ht : (ztb M)[i]? = some (pc, .lload_n k, 1, a)) (hv : zlk lv k.val = some (.long x)) (h : ZGo G M d t K (i + 1) lv (.long x :: st) u) : ZGo G M d t K i lv (st) u :=
  zgo_op (st := st) (st' := .long x :: st) ht rfl (fun p e R s m args below meth c H locs cells slots Qf ls hx hb hown hAW hd hl k => lv_lload_n hx hb hd rfl (zlk_has hl hv) k) h
theorem g_lload {k : Nat} {x : Int64} (ht : (ztb M)[i]? = some (pc, .lload k, 2, a)) (hv : zlk lv k = some (.long x)) (h : ZGo G M d t K (i + 1) lv (.long x :: st) u) : ZGo G M d t K i lv (st) u :=
  zgo_op (st := st) (st' := .long x :: st) ht rfl (fun p e R s m args below meth c H locs cells slots Qf ls hx hb hown hAW hd hl k => lv_lload hx hb hd (zlk_has hl hv) k) h
theorem g_iconst {n : Int} {v : Int32} (ht : (ztb M)[i]? = some (pc, .iconst n, 1, a)) (hv : Int32.ofInt n = v) (h : ZGo G M d t K (i + 1) lv (.int v :: st) u) : ZGo G M d t K i lv (st) u :=
  zgo_op (st := st) (st' := .int v :: st) ht rfl (fun p e R s m args below meth c H locs cells slots Qf ls hx hb hown hAW hd hl k => lv_iconst hx hb hd hv k) h
theorem g_bipush {n : Int} {v : Int32} (ht : (ztb M)[i]? = some (pc, .bipush n, 2, a)) (hv : (Int8.ofInt n).toInt32 = v) (h : ZGo G M d t K (i + 1) lv (.int v :: st) u) : ZGo G M d t K i lv (st) u :=
  zgo_op (st := st) (st' := .int v :: st) ht rfl (fun p e R s m args below meth c H locs cells slots Qf ls hx hb hown hAW hd hl k => lv_bipush hx hb hd hv k) h
theorem g_sipush {n : Int} {v : Int32} (ht : (ztb M)[i]? = some (pc, .sipush n, 3, a)) (hv : (Int16.ofInt n).toInt32 = v) (h : ZGo G M d t K (i + 1) lv (.int v :: st) u) : ZGo G M d t K i lv (st) u :=
  zgo_op (st := st) (st' := .int v :: st) ht rfl (fun p e R s m args below meth c H locs cells slots Qf ls hx hb hown hAW hd hl k => lv_sipush hx hb hd hv k) h
theorem g_lconst {n : Fin 2} {v : Int64} (ht : (ztb M)[i]? = some (pc, .lconst n, 1, a)) (hv : Int64.ofNat (n : Nat) = v) (h : ZGo G M d t K (i + 1) lv (.long v :: st) u) : ZGo G M d t K i lv (st) u :=
  zgo_op (st := st) (st' := .long v :: st) ht rfl (fun p e R s m args below meth c H locs cells slots Qf ls hx hb hown hAW hd hl k => lv_lconst hx hb hd hv k) h
theorem g_ldc {idx : Nat} {v : Int32} (ht : (ztb M)[i]? = some (pc, .ldc idx, 2, a)) (hv : Cond.constant (zy M).cls idx v ∈ lw_tbl) (h : ZGo G M d t K (i + 1) lv (.int v :: st) u) : ZGo G M d t K i lv (st) u :=
  zgo_op (st := st) (st' := .int v :: st) ht rfl (fun p e R s m args below meth c H locs cells slots Qf ls hx hb hown hAW hd hl k => lv_ldc hx hb hown (hAW.at hv rfl) hd k) h
theorem g_ldc_w {idx : Nat} {v : Int32} (ht : (ztb M)[i]? = some (pc, .ldc_w idx, 3, a)) (hv : Cond.constant (zy M).cls idx v ∈ lw_tbl) (h : ZGo G M d t K (i + 1) lv (.int v :: st) u) : ZGo G M d t K i lv (st) u :=
  zgo_op (st := st) (st' := .int v :: st) ht rfl (fun p e R s m args below meth c H locs cells slots Qf ls hx hb hown hAW hd hl k => lv_ldcw hx hb hown (hAW.at hv rfl) hd k) h
theorem g_ldc2 {idx : Nat} {v : Int64} (ht : (ztb M)[i]? = some (pc, .ldc2_w idx, 3, a)) (hv : Cond.constantLong (zy M).cls idx v ∈ lw_tbl) (h : ZGo G M d t K (i + 1) lv (.long v :: st) u) : ZGo G M d t K i lv (st) u :=
  zgo_op (st := st) (st' := .long v :: st) ht rfl (fun p e R s m args below meth c H locs cells slots Qf ls hx hb hown hAW hd hl k => lv_ldc2 hx hb hown (hAW.at hv rfl) hd k) h
theorem g_iadd {x y : Int32} (ht : (ztb M)[i]? = some (pc, .iadd, 1, a)) (h : ZGo G M d t K (i + 1) lv (.int (x + y) :: st) u) : ZGo G M d t K i lv (.int y :: .int x :: st) u :=
  zgo_op (st := .int y :: .int x :: st) (st' := .int (x + y) :: st) ht rfl (fun p e R s m args below meth c H locs cells slots Qf ls hx hb hown hAW hd hl k => lv_iadd hx hb hd k) h
theorem g_isub {x y : Int32} (ht : (ztb M)[i]? = some (pc, .isub, 1, a)) (h : ZGo G M d t K (i + 1) lv (.int (x - y) :: st) u) : ZGo G M d t K i lv (.int y :: .int x :: st) u :=
  zgo_op (st := .int y :: .int x :: st) (st' := .int (x - y) :: st) ht rfl (fun p e R s m args below meth c H locs cells slots Qf ls hx hb hown hAW hd hl k => lv_isub hx hb hd k) h
theorem g_imul {x y : Int32} (ht : (ztb M)[i]? = some (pc, .imul, 1, a)) (h : ZGo G M d t K (i + 1) lv (.int (x * y) :: st) u) : ZGo G M d t K i lv (.int y :: .int x :: st) u :=
  zgo_op (st := .int y :: .int x :: st) (st' := .int (x * y) :: st) ht rfl (fun p e R s m args below meth c H locs cells slots Qf ls hx hb hown hAW hd hl k => lv_imul hx hb hd k) h
theorem g_iand {x y : Int32} (ht : (ztb M)[i]? = some (pc, .iand, 1, a)) (h : ZGo G M d t K (i + 1) lv (.int (x &&& y) :: st) u) : ZGo G M d t K i lv (.int y :: .int x :: st) u :=
  zgo_op (st := .int y :: .int x :: st) (st' := .int (x &&& y) :: st) ht rfl (fun p e R s m args below meth c H locs cells slots Qf ls hx hb hown hAW hd hl k => lv_iand hx hb hd k) h
theorem g_ior {x y : Int32} (ht : (ztb M)[i]? = some (pc, .ior, 1, a)) (h : ZGo G M d t K (i + 1) lv (.int (x ||| y) :: st) u) : ZGo G M d t K i lv (.int y :: .int x :: st) u :=
  zgo_op (st := .int y :: .int x :: st) (st' := .int (x ||| y) :: st) ht rfl (fun p e R s m args below meth c H locs cells slots Qf ls hx hb hown hAW hd hl k => lv_ior hx hb hd k) h
theorem g_ixor {x y : Int32} (ht : (ztb M)[i]? = some (pc, .ixor, 1, a)) (h : ZGo G M d t K (i + 1) lv (.int (x ^^^ y) :: st) u) : ZGo G M d t K i lv (.int y :: .int x :: st) u :=
  zgo_op (st := .int y :: .int x :: st) (st' := .int (x ^^^ y) :: st) ht rfl (fun p e R s m args below meth c H locs cells slots Qf ls hx hb hown hAW hd hl k => lv_ixor hx hb hd k) h
theorem g_ishl {x y : Int32} (ht : (ztb M)[i]? = some (pc, .ishl, 1, a)) (h : ZGo G M d t K (i + 1) lv (.int (x <<< (y &&& 31)) :: st) u) : ZGo G M d t K i lv (.int y :: .int x :: st) u :=
  zgo_op (st := .int y :: .int x :: st) (st' := .int (x <<< (y &&& 31)) :: st) ht rfl (fun p e R s m args below meth c H locs cells slots Qf ls hx hb hown hAW hd hl k => lv_ishl hx hb hd k) h
theorem g_ishr {x y : Int32} (ht : (ztb M)[i]? = some (pc, .ishr, 1, a)) (h : ZGo G M d t K (i + 1) lv (.int (x >>> (y &&& 31)) :: st) u) : ZGo G M d t K i lv (.int y :: .int x :: st) u :=
  zgo_op (st := .int y :: .int x :: st) (st' := .int (x >>> (y &&& 31)) :: st) ht rfl (fun p e R s m args below meth c H locs cells slots Qf ls hx hb hown hAW hd hl k => lv_ishr hx hb hd k) h
theorem g_iushr {x y : Int32} (ht : (ztb M)[i]? = some (pc, .iushr, 1, a)) (h : ZGo G M d t K (i + 1) lv (.int (zushr x y) :: st) u) : ZGo G M d t K i lv (.int y :: .int x :: st) u :=
  zgo_op (st := .int y :: .int x :: st) (st' := .int (zushr x y) :: st) ht rfl (fun p e R s m args below meth c H locs cells slots Qf ls hx hb hown hAW hd hl k => lv_iushr hx hb hd rfl k) h
theorem g_idiv {x y : Int32} (ht : (ztb M)[i]? = some (pc, .idiv, 1, a)) (hne : ¬ y = 0) (h : ZGo G M d t K (i + 1) lv (.int (x / y) :: st) u) : ZGo G M d t K i lv (.int y :: .int x :: st) u :=
  zgo_op (st := .int y :: .int x :: st) (st' := .int (x / y) :: st) ht rfl (fun p e R s m args below meth c H locs cells slots Qf ls hx hb hown hAW hd hl k => lv_idiv hx hb hd hne k) h
theorem g_irem {x y : Int32} (ht : (ztb M)[i]? = some (pc, .irem, 1, a)) (hne : ¬ y = 0) (h : ZGo G M d t K (i + 1) lv (.int (zrem x y) :: st) u) : ZGo G M d t K i lv (.int y :: .int x :: st) u :=
  zgo_op (st := .int y :: .int x :: st) (st' := .int (zrem x y) :: st) ht rfl (fun p e R s m args below meth c H locs cells slots Qf ls hx hb hown hAW hd hl k => lv_irem hx hb hd hne k) h
theorem g_ineg {x : Int32} (ht : (ztb M)[i]? = some (pc, .ineg, 1, a)) (h : ZGo G M d t K (i + 1) lv (.int (-x) :: st) u) : ZGo G M d t K i lv (.int x :: st) u :=
  zgo_op (st := .int x :: st) (st' := .int (-x) :: st) ht rfl (fun p e R s m args below meth c H locs cells slots Qf ls hx hb hown hAW hd hl k => lv_ineg hx hb hd k) h
theorem g_i2l {x : Int32} (ht : (ztb M)[i]? = some (pc, .i2l, 1, a)) (h : ZGo G M d t K (i + 1) lv (.long x.toInt64 :: st) u) : ZGo G M d t K i lv (.int x :: st) u :=
  zgo_op (st := .int x :: st) (st' := .long x.toInt64 :: st) ht rfl (fun p e R s m args below meth c H locs cells slots Qf ls hx hb hown hAW hd hl k => lv_i2l hx hb hd rfl k) h
theorem g_l2i {x : Int64} (ht : (ztb M)[i]? = some (pc, .l2i, 1, a)) (h : ZGo G M d t K (i + 1) lv (.int x.toInt32 :: st) u) : ZGo G M d t K i lv (.long x :: st) u :=
  zgo_op (st := .long x :: st) (st' := .int x.toInt32 :: st) ht rfl (fun p e R s m args below meth c H locs cells slots Qf ls hx hb hown hAW hd hl k => lv_l2i hx hb hd rfl k) h
theorem g_i2b {x : Int32} (ht : (ztb M)[i]? = some (pc, .i2b, 1, a)) (h : ZGo G M d t K (i + 1) lv (.int x.toInt8.toInt32 :: st) u) : ZGo G M d t K i lv (.int x :: st) u :=
  zgo_op (st := .int x :: st) (st' := .int x.toInt8.toInt32 :: st) ht rfl (fun p e R s m args below meth c H locs cells slots Qf ls hx hb hown hAW hd hl k => lv_i2b hx hb hd rfl k) h
theorem g_i2s {x : Int32} (ht : (ztb M)[i]? = some (pc, .i2s, 1, a)) (h : ZGo G M d t K (i + 1) lv (.int x.toInt16.toInt32 :: st) u) : ZGo G M d t K i lv (.int x :: st) u :=
  zgo_op (st := .int x :: st) (st' := .int x.toInt16.toInt32 :: st) ht rfl (fun p e R s m args below meth c H locs cells slots Qf ls hx hb hown hAW hd hl k => lv_i2s hx hb hd rfl k) h
theorem g_land {x y : Int64} (ht : (ztb M)[i]? = some (pc, .land, 1, a)) (h : ZGo G M d t K (i + 1) lv (.long (x &&& y) :: st) u) : ZGo G M d t K i lv (.long y :: .long x :: st) u :=
  zgo_op (st := .long y :: .long x :: st) (st' := .long (x &&& y) :: st) ht rfl (fun p e R s m args below meth c H locs cells slots Qf ls hx hb hown hAW hd hl k => lv_land hx hb hd k) h
theorem g_lor {x y : Int64} (ht : (ztb M)[i]? = some (pc, .lor, 1, a)) (h : ZGo G M d t K (i + 1) lv (.long (x ||| y) :: st) u) : ZGo G M d t K i lv (.long y :: .long x :: st) u :=
  zgo_op (st := .long y :: .long x :: st) (st' := .long (x ||| y) :: st) ht rfl (fun p e R s m args below meth c H locs cells slots Qf ls hx hb hown hAW hd hl k => lv_lor hx hb hd k) h
theorem g_lshl {x : Int64} {y : Int32} (ht : (ztb M)[i]? = some (pc, .lshl, 1, a)) (h : ZGo G M d t K (i + 1) lv (.long (x <<< (y.toInt64 &&& 63)) :: st) u) : ZGo G M d t K i lv (.int y :: .long x :: st) u :=
  zgo_op (st := .int y :: .long x :: st) (st' := .long (x <<< (y.toInt64 &&& 63)) :: st) ht rfl (fun p e R s m args below meth c H locs cells slots Qf ls hx hb hown hAW hd hl k => lv_lshl hx hb hd rfl k) h
theorem g_dup {v : Value} (ht : (ztb M)[i]? = some (pc, .dup, 1, a)) (hv : v.category = 1) (h : ZGo G M d t K (i + 1) lv (v :: v :: st) u) : ZGo G M d t K i lv (v :: st) u :=
  zgo_op (st := v :: st) (st' := v :: v :: st) ht rfl (fun p e R s m args below meth c H locs cells slots Qf ls hx hb hown hAW hd hl k => lv_dup hx hb hd (by rw [zcv_cat]; exact hv) k) h
theorem g_dup2 {v w : Value} (ht : (ztb M)[i]? = some (pc, .dup2, 1, a)) (hv : v.category = 1) (hw : w.category = 1) (h : ZGo G M d t K (i + 1) lv (v :: w :: v :: w :: st) u) : ZGo G M d t K i lv (v :: w :: st) u :=
  zgo_op (st := v :: w :: st) (st' := v :: w :: v :: w :: st) ht rfl (fun p e R s m args below meth c H locs cells slots Qf ls hx hb hown hAW hd hl k => lv_dup2_11 hx hb hd (by rw [zcv_cat]; exact hv) (by rw [zcv_cat]; exact hw) k) h

theorem g_istore_n {k : Fin 4} {x : Int32} (ht : (ztb M)[i]? = some (pc, .istore_n k, 1, a)) (hn : k.val < znL M) (hf : zfree lv k.val = true) (hl' : zset lv k.val (.int x) = lv') (h : ZGo G M d t K (i + 1) lv' st u) : ZGo G M d t K i lv (.int x :: st) u := by
  intro tgt htg hc p e R s m args below meth c A cells slots Qf cx H locs ls hP hD hS hl
  obtain ⟨h1, h2, h3, h4⟩ := zchk_at hc ht
  rw [h2]
  refine lv_istore_n cx.1 cx.2.1 h1 rfl hl hn rfl (fun ls' hl2 => ?_)
  have := h tgt htg hc p e R s m args below meth c A cells slots Qf cx H locs ls' hP hD hS (zset_has hl' hf hl2)
  rw [h3 rfl] at this
  exact this
theorem g_istore {k : Nat} {x : Int32} (ht : (ztb M)[i]? = some (pc, .istore k, 2, a)) (hn : k < znL M) (hf : zfree lv k = true) (hl' : zset lv k (.int x) = lv') (h : ZGo G M d t K (i + 1) lv' st u) : ZGo G M d t K i lv (.int x :: st) u := by
  intro tgt htg hc p e R s m args below meth c A cells slots Qf cx H locs ls hP hD hS hl
  obtain ⟨h1, h2, h3, h4⟩ := zchk_at hc ht
  rw [h2]
  refine lv_istore cx.1 cx.2.1 h1 hl hn rfl (fun ls' hl2 => ?_)
  have := h tgt htg hc p e R s m args below meth c A cells slots Qf cx H locs ls' hP hD hS (zset_has hl' hf hl2)
  rw [h3 rfl] at this
  exact this
theorem g_iinc {k : Nat} {n : Int} {x v : Int32} (ht : (ztb M)[i]? = some (pc, .iinc k n, 3, a)) (hk : zlk lv k = some (.int x)) (hv : Int32.ofInt n = v) (hn : k < znL M) (hf : zfree lv k = true) (hl' : zset lv k (.int (x + v)) = lv') (h : ZGo G M d t K (i + 1) lv' st u) : ZGo G M d t K i lv st u := by
  intro tgt htg hc p e R s m args below meth c A cells slots Qf cx H locs ls hP hD hS hl
  obtain ⟨h1, h2, h3, h4⟩ := zchk_at hc ht
  rw [h2]
  subst hv
  have hm : (k, Value.int x) ∈ zlv G lv := List.mem_map.mpr ⟨(k, .int x), zlk_mem hk, rfl⟩
  obtain ⟨j, hj⟩ := List.getElem?_of_mem hm
  refine lv_iinc cx.1 cx.2.1 h1 hl hj rfl hn rfl (fun ls' hl2 => ?_)
  have := h tgt htg hc p e R s m args below meth c A cells slots Qf cx H locs ls' hP hD hS (zset_has (G := G) (v := .int (x + Int32.ofInt n)) hl' hf hl2)
  rw [h3 rfl] at this
  exact this
theorem zgo_pc (htg0 : True) (h : ZGo G M d t K i lv st u) : ZGo G M d t K i lv st u := h
theorem g_goto {off : Int} (ht : (ztb M)[i]? = some (pc, .goto off, 3, a)) (h : ZGo G M d t K a lv st u) : ZGo G M d t K i lv st u := by
  intro tgt htg hc p e R s m args below meth c A cells slots Qf cx H locs ls hP hD hS hl
  obtain ⟨h1, h2, h3, h4⟩ := zchk_at hc ht
  rw [h2]
  exact lv_goto cx.1 cx.2.1 h1 (h4 off rfl) (h tgt htg hc p e R s m args below meth c A cells slots Qf cx H locs ls hP hD hS hl)
theorem g_ifeq {x : Int32} {off : Int} (ht : (ztb M)[i]? = some (pc, .ifCond .eq off, 3, a)) (hT : x = 0 → ZGo G M d tA K a lv st u) (hF : ¬ x = 0 → ZGo G M d tB K (i + 1) lv st u) : ZGo G M d (if x = 0 then tA else tB) K i lv (.int x :: st) u := by
  intro tgt htg hc p e R s m args below meth c A cells slots Qf cx H locs ls hP hD hS hl
  obtain ⟨h1, h2, h3, h4⟩ := zchk_at hc ht
  rw [h2]
  refine lv_if_eq cx.1 cx.2.1 h1 (h4 off rfl) (fun hq => ?_) (fun hq => ?_)
  · rw [if_pos hq] at htg
    exact hT hq tgt htg hc p e R s m args below meth c A cells slots Qf cx H locs ls hP hD hS hl
  · rw [if_neg hq] at htg
    have := hF hq tgt htg hc p e R s m args below meth c A cells slots Qf cx H locs ls hP hD hS hl
    rw [h3 rfl] at this
    exact this
theorem g_ifne {x : Int32} {off : Int} (ht : (ztb M)[i]? = some (pc, .ifCond .ne off, 3, a)) (hT : ¬ x = 0 → ZGo G M d tB K a lv st u) (hF : x = 0 → ZGo G M d tA K (i + 1) lv st u) : ZGo G M d (if x = 0 then tA else tB) K i lv (.int x :: st) u := by
  intro tgt htg hc p e R s m args below meth c A cells slots Qf cx H locs ls hP hD hS hl
  obtain ⟨h1, h2, h3, h4⟩ := zchk_at hc ht
  rw [h2]
  refine lv_if_ne cx.1 cx.2.1 h1 (h4 off rfl) (fun hq => ?_) (fun hq => ?_)
  · rw [if_neg hq] at htg
    exact hT hq tgt htg hc p e R s m args below meth c A cells slots Qf cx H locs ls hP hD hS hl
  · rw [if_pos hq] at htg
    have := hF hq tgt htg hc p e R s m args below meth c A cells slots Qf cx H locs ls hP hD hS hl
    rw [h3 rfl] at this
    exact this
theorem g_iflt {x : Int32} {off : Int} (ht : (ztb M)[i]? = some (pc, .ifCond .lt off, 3, a)) (hT : x < 0 → ZGo G M d tA K a lv st u) (hF : ¬ x < 0 → ZGo G M d tB K (i + 1) lv st u) : ZGo G M d (if x < 0 then tA else tB) K i lv (.int x :: st) u := by
  intro tgt htg hc p e R s m args below meth c A cells slots Qf cx H locs ls hP hD hS hl
  obtain ⟨h1, h2, h3, h4⟩ := zchk_at hc ht
  rw [h2]
  refine lv_if_lt cx.1 cx.2.1 h1 (h4 off rfl) (fun hq => ?_) (fun hq => ?_)
  · rw [if_pos hq] at htg
    exact hT hq tgt htg hc p e R s m args below meth c A cells slots Qf cx H locs ls hP hD hS hl
  · rw [if_neg hq] at htg
    have := hF hq tgt htg hc p e R s m args below meth c A cells slots Qf cx H locs ls hP hD hS hl
    rw [h3 rfl] at this
    exact this
theorem g_ifge {x : Int32} {off : Int} (ht : (ztb M)[i]? = some (pc, .ifCond .ge off, 3, a)) (hT : 0 ≤ x → ZGo G M d tA K a lv st u) (hF : ¬ 0 ≤ x → ZGo G M d tB K (i + 1) lv st u) : ZGo G M d (if 0 ≤ x then tA else tB) K i lv (.int x :: st) u := by
  intro tgt htg hc p e R s m args below meth c A cells slots Qf cx H locs ls hP hD hS hl
  obtain ⟨h1, h2, h3, h4⟩ := zchk_at hc ht
  rw [h2]
  refine lv_if_ge cx.1 cx.2.1 h1 (h4 off rfl) (fun hq => ?_) (fun hq => ?_)
  · rw [if_pos hq] at htg
    exact hT hq tgt htg hc p e R s m args below meth c A cells slots Qf cx H locs ls hP hD hS hl
  · rw [if_neg hq] at htg
    have := hF hq tgt htg hc p e R s m args below meth c A cells slots Qf cx H locs ls hP hD hS hl
    rw [h3 rfl] at this
    exact this
theorem g_ifgt {x : Int32} {off : Int} (ht : (ztb M)[i]? = some (pc, .ifCond .gt off, 3, a)) (hT : 0 < x → ZGo G M d tA K a lv st u) (hF : ¬ 0 < x → ZGo G M d tB K (i + 1) lv st u) : ZGo G M d (if 0 < x then tA else tB) K i lv (.int x :: st) u := by
  intro tgt htg hc p e R s m args below meth c A cells slots Qf cx H locs ls hP hD hS hl
  obtain ⟨h1, h2, h3, h4⟩ := zchk_at hc ht
  rw [h2]
  refine lv_if_gt cx.1 cx.2.1 h1 (h4 off rfl) (fun hq => ?_) (fun hq => ?_)
  · rw [if_pos hq] at htg
    exact hT hq tgt htg hc p e R s m args below meth c A cells slots Qf cx H locs ls hP hD hS hl
  · rw [if_neg hq] at htg
    have := hF hq tgt htg hc p e R s m args below meth c A cells slots Qf cx H locs ls hP hD hS hl
    rw [h3 rfl] at this
    exact this
theorem g_ifle {x : Int32} {off : Int} (ht : (ztb M)[i]? = some (pc, .ifCond .le off, 3, a)) (hT : x ≤ 0 → ZGo G M d tA K a lv st u) (hF : ¬ x ≤ 0 → ZGo G M d tB K (i + 1) lv st u) : ZGo G M d (if x ≤ 0 then tA else tB) K i lv (.int x :: st) u := by
  intro tgt htg hc p e R s m args below meth c A cells slots Qf cx H locs ls hP hD hS hl
  obtain ⟨h1, h2, h3, h4⟩ := zchk_at hc ht
  rw [h2]
  refine lv_if_le cx.1 cx.2.1 h1 (h4 off rfl) (fun hq => ?_) (fun hq => ?_)
  · rw [if_pos hq] at htg
    exact hT hq tgt htg hc p e R s m args below meth c A cells slots Qf cx H locs ls hP hD hS hl
  · rw [if_neg hq] at htg
    have := hF hq tgt htg hc p e R s m args below meth c A cells slots Qf cx H locs ls hP hD hS hl
    rw [h3 rfl] at this
    exact this
theorem g_icmpeq {x y : Int32} {off : Int} (ht : (ztb M)[i]? = some (pc, .if_icmp .eq off, 3, a)) (hT : x = y → ZGo G M d tA K a lv st u) (hF : ¬ x = y → ZGo G M d tB K (i + 1) lv st u) : ZGo G M d (if x = y then tA else tB) K i lv (.int y :: .int x :: st) u := by
  intro tgt htg hc p e R s m args below meth c A cells slots Qf cx H locs ls hP hD hS hl
  obtain ⟨h1, h2, h3, h4⟩ := zchk_at hc ht
  rw [h2]
  refine lv_icmp_eq cx.1 cx.2.1 h1 (h4 off rfl) (fun hq => ?_) (fun hq => ?_)
  · rw [if_pos hq] at htg
    exact hT hq tgt htg hc p e R s m args below meth c A cells slots Qf cx H locs ls hP hD hS hl
  · rw [if_neg hq] at htg
    have := hF hq tgt htg hc p e R s m args below meth c A cells slots Qf cx H locs ls hP hD hS hl
    rw [h3 rfl] at this
    exact this
theorem g_icmpne {x y : Int32} {off : Int} (ht : (ztb M)[i]? = some (pc, .if_icmp .ne off, 3, a)) (hT : ¬ x = y → ZGo G M d tB K a lv st u) (hF : x = y → ZGo G M d tA K (i + 1) lv st u) : ZGo G M d (if x = y then tA else tB) K i lv (.int y :: .int x :: st) u := by
  intro tgt htg hc p e R s m args below meth c A cells slots Qf cx H locs ls hP hD hS hl
  obtain ⟨h1, h2, h3, h4⟩ := zchk_at hc ht
  rw [h2]
  refine lv_icmp_ne cx.1 cx.2.1 h1 (h4 off rfl) (fun hq => ?_) (fun hq => ?_)
  · rw [if_neg hq] at htg
    exact hT hq tgt htg hc p e R s m args below meth c A cells slots Qf cx H locs ls hP hD hS hl
  · rw [if_pos hq] at htg
    have := hF hq tgt htg hc p e R s m args below meth c A cells slots Qf cx H locs ls hP hD hS hl
    rw [h3 rfl] at this
    exact this
theorem g_icmplt {x y : Int32} {off : Int} (ht : (ztb M)[i]? = some (pc, .if_icmp .lt off, 3, a)) (hT : x < y → ZGo G M d tA K a lv st u) (hF : ¬ x < y → ZGo G M d tB K (i + 1) lv st u) : ZGo G M d (if x < y then tA else tB) K i lv (.int y :: .int x :: st) u := by
  intro tgt htg hc p e R s m args below meth c A cells slots Qf cx H locs ls hP hD hS hl
  obtain ⟨h1, h2, h3, h4⟩ := zchk_at hc ht
  rw [h2]
  refine lv_icmp_lt cx.1 cx.2.1 h1 (h4 off rfl) (fun hq => ?_) (fun hq => ?_)
  · rw [if_pos hq] at htg
    exact hT hq tgt htg hc p e R s m args below meth c A cells slots Qf cx H locs ls hP hD hS hl
  · rw [if_neg hq] at htg
    have := hF hq tgt htg hc p e R s m args below meth c A cells slots Qf cx H locs ls hP hD hS hl
    rw [h3 rfl] at this
    exact this
theorem g_icmpge {x y : Int32} {off : Int} (ht : (ztb M)[i]? = some (pc, .if_icmp .ge off, 3, a)) (hT : y ≤ x → ZGo G M d tA K a lv st u) (hF : ¬ y ≤ x → ZGo G M d tB K (i + 1) lv st u) : ZGo G M d (if y ≤ x then tA else tB) K i lv (.int y :: .int x :: st) u := by
  intro tgt htg hc p e R s m args below meth c A cells slots Qf cx H locs ls hP hD hS hl
  obtain ⟨h1, h2, h3, h4⟩ := zchk_at hc ht
  rw [h2]
  refine lv_icmp_ge cx.1 cx.2.1 h1 (h4 off rfl) (fun hq => ?_) (fun hq => ?_)
  · rw [if_pos hq] at htg
    exact hT hq tgt htg hc p e R s m args below meth c A cells slots Qf cx H locs ls hP hD hS hl
  · rw [if_neg hq] at htg
    have := hF hq tgt htg hc p e R s m args below meth c A cells slots Qf cx H locs ls hP hD hS hl
    rw [h3 rfl] at this
    exact this
theorem g_icmpgt {x y : Int32} {off : Int} (ht : (ztb M)[i]? = some (pc, .if_icmp .gt off, 3, a)) (hT : y < x → ZGo G M d tA K a lv st u) (hF : ¬ y < x → ZGo G M d tB K (i + 1) lv st u) : ZGo G M d (if y < x then tA else tB) K i lv (.int y :: .int x :: st) u := by
  intro tgt htg hc p e R s m args below meth c A cells slots Qf cx H locs ls hP hD hS hl
  obtain ⟨h1, h2, h3, h4⟩ := zchk_at hc ht
  rw [h2]
  refine lv_icmp_gt cx.1 cx.2.1 h1 (h4 off rfl) (fun hq => ?_) (fun hq => ?_)
  · rw [if_pos hq] at htg
    exact hT hq tgt htg hc p e R s m args below meth c A cells slots Qf cx H locs ls hP hD hS hl
  · rw [if_neg hq] at htg
    have := hF hq tgt htg hc p e R s m args below meth c A cells slots Qf cx H locs ls hP hD hS hl
    rw [h3 rfl] at this
    exact this
theorem g_icmple {x y : Int32} {off : Int} (ht : (ztb M)[i]? = some (pc, .if_icmp .le off, 3, a)) (hT : x ≤ y → ZGo G M d tA K a lv st u) (hF : ¬ x ≤ y → ZGo G M d tB K (i + 1) lv st u) : ZGo G M d (if x ≤ y then tA else tB) K i lv (.int y :: .int x :: st) u := by
  intro tgt htg hc p e R s m args below meth c A cells slots Qf cx H locs ls hP hD hS hl
  obtain ⟨h1, h2, h3, h4⟩ := zchk_at hc ht
  rw [h2]
  refine lv_icmp_le cx.1 cx.2.1 h1 (h4 off rfl) (fun hq => ?_) (fun hq => ?_)
  · rw [if_pos hq] at htg
    exact hT hq tgt htg hc p e R s m args below meth c A cells slots Qf cx H locs ls hP hD hS hl
  · rw [if_neg hq] at htg
    have := hF hq tgt htg hc p e R s m args below meth c A cells slots Qf cx H locs ls hP hD hS hl
    rw [h3 rfl] at this
    exact this
theorem g_tswIn {dflt lo hi : Int} {offs : Array Int} {x v : Int32} {off : Int} (ht : (ztb M)[i]? = some (pc, .tableswitch dflt lo hi offs, len, a)) (hv : x = v) (h1 : ¬ v.toInt < lo) (h2 : ¬ hi < v.toInt) (ho : offs[(v.toInt - lo).toNat]? = some off) (b : Nat) (hb : (pc : Int) + off = (zpc M b : Int)) (h : ZGo G M d t K b lv st u) : ZGo G M d t K i lv (.int x :: st) u := by
  intro tgt htg hc p e R s m args below meth c A cells slots Qf cx H locs ls hP hD hS hl
  obtain ⟨g1, g2, g3, g4⟩ := zchk_at hc ht
  rw [g2]
  subst hv
  exact lv_tableIn cx.1 cx.2.1 g1 h1 h2 ho hb (h tgt htg hc p e R s m args below meth c A cells slots Qf cx H locs ls hP hD hS hl)
theorem g_tswOut {dflt lo hi : Int} {offs : Array Int} {x : Int32} (ht : (ztb M)[i]? = some (pc, .tableswitch dflt lo hi offs, len, a)) (hx : x.toInt < lo ∨ hi < x.toInt) (b : Nat) (hb : (pc : Int) + dflt = (zpc M b : Int)) (h : ZGo G M d t K b lv st u) : ZGo G M d t K i lv (.int x :: st) u := by
  intro tgt htg hc p e R s m args below meth c A cells slots Qf cx H locs ls hP hD hS hl
  obtain ⟨g1, g2, g3, g4⟩ := zchk_at hc ht
  rw [g2]
  exact lv_tableOut cx.1 cx.2.1 g1 hx hb (h tgt htg hc p e R s m args below meth c A cells slots Qf cx H locs ls hP hD hS hl)
theorem g_lsw {dflt : Int} {ps : Array (Int × Int)} {x : Int32} {off : Int} (ht : (ztb M)[i]? = some (pc, .lookupswitch dflt ps, len, a)) (hp : (ps.toList.zip (ps.toList.drop 1)).all (fun (a, next) => a.1 < next.1) = true) (ho : Op.lookupswitch.offset ps.toList dflt x.toInt = off) (b : Nat) (hb : (pc : Int) + off = (zpc M b : Int)) (h : ZGo G M d t K b lv st u) : ZGo G M d t K i lv (.int x :: st) u := by
  intro tgt htg hc p e R s m args below meth c A cells slots Qf cx H locs ls hP hD hS hl
  obtain ⟨g1, g2, g3, g4⟩ := zchk_at hc ht
  rw [g2]
  exact lv_lookup cx.1 cx.2.1 g1 hp ho hb (h tgt htg hc p e R s m args below meth c A cells slots Qf cx H locs ls hP hD hS hl)
theorem g_lcmp {x y : Int64} (ht : (ztb M)[i]? = some (pc, .lcmp, 1, a)) (h : ZGo G M d t K (i + 1) lv (.int (lg_cmp x y) :: st) u) : ZGo G M d t K i lv (.long y :: .long x :: st) u := by
  refine zgo_op (st := .long y :: .long x :: st) (st' := .int (lg_cmp x y) :: st) ht rfl (fun p e R s m args below meth c H locs cells slots Qf ls hx hb hown hAW hd hl k => ?_) h
  exact W.lcmp hx hb hd k
/-! fields and rows -/
def zfa (u : ZSt) (o k : Nat) : Option Nat → Value
  | some q => .ref q
  | none => .int (u.1 (100 * o + k))
theorem g_get {o ci k idx : Nat} {fs : List (Option Nat)} {f : Option Nat} (ht : (ztb M)[i]? = some (pc, .getfield idx, 3, a)) (hw : zFL (zy M).cls idx ci k) (ho : zsch[o]? = some (.inl (ci, fs))) (hf : fs[k]? = some f) (h : ZGo G M d t K (i + 1) lv (zfa u o k f :: st) u) : ZGo G M d t K i lv (.ref o :: st) u := by
  intro tgt htg hc p e R s m args below meth c A cells slots Qf cx H locs ls hP hD hS hl
  obtain ⟨g1, g2, g3, g4⟩ := zchk_at hc ht
  rw [g2]
  obtain ⟨c1, c2, c3, c4, c5, c6, c7, c8, c9, c10⟩ := id cx
  obtain ⟨w1, w2, w3, w4⟩ := hw
  have hv : (fs.mapIdx (fun j f => zfv (zga G) u o j f))[k]? = some (zcv (zga G) (zfa u o k f)) := by
    rw [List.getElem?_mapIdx, hf]
    cases f <;> rfl
  have kk := h tgt htg hc p e R s m args below meth c A cells slots Qf cx H locs ls hP hD hS hl
  rw [g3 rfl] at kk
  rcases w4 with w4 | ⟨host, w4⟩
  · exact va_get (D := zgD G) (ws := zwg G u) (ci := ci) (C := (zcls ci).1) (T := (zcls ci).2.1) (N := (zcls ci).2.2) c1 c2 (c5.cls w1) (fun _ h => h) c4 c6 hP o (zw_obj ho) (zcl_at ci w1) k w2 (c5.at w4 rfl) (fun x h => by rw [w3] at h; exact h) hv g1 kk
  · exact va_getN (D := zgD G) (ws := zwg G u) (ci := ci) (C := (zcls ci).1) (T := (zcls ci).2.1) (N := (zcls ci).2.2) c1 c2 (c5.cls w1) (fun _ h => h) c4 c6 hP o (zw_obj ho) (zcl_at ci w1) k w2 (c5.at w4 rfl) (fun x h => by rw [w3] at h; exact h) hv g1 kk
theorem g_getR {o ci k idx q : Nat} {fs : List (Option Nat)} (ht : (ztb M)[i]? = some (pc, .getfield idx, 3, a)) (hw : zFL (zy M).cls idx ci k) (ho : zsch[o]? = some (.inl (ci, fs))) (hf : fs[k]? = some (some q)) (h : ZGo G M d t K (i + 1) lv (.ref q :: st) u) : ZGo G M d t K i lv (.ref o :: st) u := g_get ht hw ho hf h
theorem g_getI {o ci k idx j : Nat} {fs : List (Option Nat)} (ht : (ztb M)[i]? = some (pc, .getfield idx, 3, a)) (hw : zFL (zy M).cls idx ci k) (ho : zsch[o]? = some (.inl (ci, fs))) (hf : fs[k]? = some none) (hj : 100 * o + k = j) (h : ZGo G M d t K (i + 1) lv (.int (u.1 j) :: st) u) : ZGo G M d t K i lv (.ref o :: st) u := by
  subst hj
  exact g_get ht hw ho hf h
theorem g_put {o ci k idx : Nat} {fs : List (Option Nat)} {x : Int32} (ht : (ztb M)[i]? = some (pc, .putfield idx, 3, a)) (hw : zFL (zy M).cls idx ci k) (ho : zsch[o]? = some (.inl (ci, fs))) (hf : fs[k]? = some none) (hfin : ((zcls ci).2.1 k).2.2.2 = false) (hty : zty ci k = .int ∨ (zty ci k = .boolean ∧ (x = 0 ∨ x = 1))) {j : Nat} (hj : 100 * o + k = j) (h : ZGo G M d t K (i + 1) lv st (zs u j x)) : ZGo G M d t K i lv (.int x :: .ref o :: st) u := by
  subst hj
  intro tgt htg hc p e R s m args below meth c A cells slots Qf cx H locs ls hP hD hS hl
  obtain ⟨g1, g2, g3, g4⟩ := zchk_at hc ht
  rw [g2]
  obtain ⟨c1, c2, c3, c4, c5, c6, c7, c8, c9, c10⟩ := id cx
  obtain ⟨w1, w2, w3, w4⟩ := hw
  have hl2 : k < (fs.mapIdx (fun j f => zfv (zga G) u o j f)).length := by
    have := (List.getElem?_eq_some_iff.mp hf).1
    simpa using this
  have hd := zcl_ty ci w1 k w2
  have hnar : narrow (zty ci k) (.int x) = .int x ∧ fits (zty ci k) (.int x) = true := by
    rcases hty with hty | ⟨hty, rfl | rfl⟩ <;> rw [hty] <;> exact ⟨rfl, rfl⟩
  have kk : ∀ (H1 : Heap) (locs1 : List Loc), va_P (zgD G) zcl ((zwg G u).set o (zga G o, .inr (ci, (fs.mapIdx (fun j f => zfv (zga G) u o j f)).set k (.int x)))) H1 → va_D A ((zwg G u).set o (zga G o, .inr (ci, (fs.mapIdx (fun j f => zfv (zga G) u o j f)).set k (.int x)))) → va_S A s.heap H1 locs1 → W p (zgl G) e R s m args below meth c H1 locs1 cells slots Qf (F0 m (pc + 3) ls (zst G st)) := by
    intro H1 locs1 hP1 hD1 hS1
    rw [zwg, zw_put zsch_len ho hf] at hP1 hD1
    have kk := h tgt htg hc p e R s m args below meth c A cells slots Qf cx H1 locs1 ls hP1 hD1 hS1 hl
    rw [g3 rfl] at kk
    exact kk
  rcases w4 with w4 | ⟨host, w4⟩
  · exact va_put (D := zgD G) (ws := zwg G u) (ci := ci) (C := (zcls ci).1) (T := (zcls ci).2.1) (N := (zcls ci).2.2) c1 c2 (c5.cls w1) (fun _ h => h) (zty ci) (zcl_ty ci w1) (zcl_nm ci w1) c4 c6 hP hD hS o (zw_obj ho) (zcl_at ci w1) k w2 (c5.at w4 rfl) (fun x h => by rw [w3] at h; exact h) hfin hd hnar.1 hnar.2 hl2 g1 kk
  · exact va_putN (D := zgD G) (ws := zwg G u) (ci := ci) (C := (zcls ci).1) (T := (zcls ci).2.1) (N := (zcls ci).2.2) c1 c2 (c5.cls w1) (fun _ h => h) (zty ci) (zcl_ty ci w1) (zcl_nm ci w1) c4 c6 hP hD hS o (zw_obj ho) (zcl_at ci w1) k w2 (c5.at w4 rfl) (fun x h => by rw [w3] at h; exact h) hfin hd hnar.1 hnar.2 hl2 g1 kk
theorem g_iald {k n : Nat} {x : Int32} (ht : (ztb M)[i]? = some (pc, .iaload, 1, a)) (hk : zsch[k]? = some (.inr (0, n))) (h : zin x n → ZGo G M d t K (i + 1) lv (.int (u.2.1 k x.toNatClampNeg) :: st) u) : ZGo G M d (if zin x n then t else none) K i lv (.int x :: .ref k :: st) u := by
  intro tgt htg hc p e R s m args below meth c A cells slots Qf cx H locs ls hP hD hS hl
  by_cases hq : zin x n
  · rw [if_pos hq] at htg
    obtain ⟨g1, g2, g3, g4⟩ := zchk_at hc ht
    rw [g2]
    obtain ⟨c1, c2, c3, c4, c5, c6, c7, c8, c9, c10⟩ := id cx
    have kk := h hq tgt htg hc p e R s m args below meth c A cells slots Qf cx H locs ls hP hD hS hl
    rw [g3 rfl] at kk
    exact va_iald c1 c2 c6 hP k 0 (zw_int hk) rfl hq g1 kk
  · rw [if_neg hq] at htg
    cases htg
theorem g_lald {k n : Nat} {x : Int32} (ht : (ztb M)[i]? = some (pc, .laload, 1, a)) (hk : zsch[k]? = some (.inr (1, n))) (h : zin x n → ZGo G M d t K (i + 1) lv (.long (u.2.2 k x.toNatClampNeg) :: st) u) : ZGo G M d (if zin x n then t else none) K i lv (.int x :: .ref k :: st) u := by
  intro tgt htg hc p e R s m args below meth c A cells slots Qf cx H locs ls hP hD hS hl
  by_cases hq : zin x n
  · rw [if_pos hq] at htg
    obtain ⟨g1, g2, g3, g4⟩ := zchk_at hc ht
    rw [g2]
    obtain ⟨c1, c2, c3, c4, c5, c6, c7, c8, c9, c10⟩ := id cx
    have kk := h hq tgt htg hc p e R s m args below meth c A cells slots Qf cx H locs ls hP hD hS hl
    rw [g3 rfl] at kk
    exact va_lald c1 c2 c6 hP k 1 (zw_long hk) rfl hq g1 kk
  · rw [if_neg hq] at htg
    cases htg
theorem g_bald {k n : Nat} {x : Int32} (ht : (ztb M)[i]? = some (pc, .baload, 1, a)) (hk : zsch[k]? = some (.inr (2, n))) (h : zin x n → ZGo G M d t K (i + 1) lv (.int (u.2.1 k x.toNatClampNeg) :: st) u) : ZGo G M d (if zin x n then t else none) K i lv (.int x :: .ref k :: st) u := by
  intro tgt htg hc p e R s m args below meth c A cells slots Qf cx H locs ls hP hD hS hl
  by_cases hq : zin x n
  · rw [if_pos hq] at htg
    obtain ⟨g1, g2, g3, g4⟩ := zchk_at hc ht
    rw [g2]
    obtain ⟨c1, c2, c3, c4, c5, c6, c7, c8, c9, c10⟩ := id cx
    have kk := h hq tgt htg hc p e R s m args below meth c A cells slots Qf cx H locs ls hP hD hS hl
    rw [g3 rfl] at kk
    exact va_zald c1 c2 c6 hP k 2 (zw_bool hk) rfl hq g1 kk
  · rw [if_neg hq] at htg
    cases htg
theorem g_iast {k n : Nat} {x : Int32} {y : Int32} (ht : (ztb M)[i]? = some (pc, .iastore, 1, a)) (hk : zsch[k]? = some (.inr (0, n))) (h : zin x n → ZGo G M d t K (i + 1) lv st (za u k x.toNatClampNeg y)) : ZGo G M d (if zin x n then t else none) K i lv (.int y :: .int x :: .ref k :: st) u := by
  intro tgt htg hc p e0 R s m args below meth c A cells slots Qf cx H locs ls hP hD hS hl
  by_cases hq : zin x n
  · rw [if_pos hq] at htg
    obtain ⟨g1, g2, g3, g4⟩ := zchk_at hc ht
    rw [g2]
    obtain ⟨c1, c2, c3, c4, c5, c6, c7, c8, c9, c10⟩ := id cx
    refine va_iast c1 c2 c6 hP hD hS k 0 (zw_int hk) rfl hq g1 (fun H1 locs1 hP1 hD1 hS1 => ?_)
    have e : (zwg G u).set k (zga G k, .inl (zgc G 0, n, .inl (upd (u.2.1 k) x.toNatClampNeg y))) = zwg G (za u k x.toNatClampNeg y) := by
      refine zw_putA hk ?_ rfl ?_
      · simp [zE, za, zl]
      · intro j hj
        simp [za, zl, hj]
    rw [e] at hP1 hD1
    have kk := h hq tgt htg hc p e0 R s m args below meth c A cells slots Qf cx H1 locs1 ls hP1 hD1 hS1 hl
    rw [g3 rfl] at kk
    exact kk
  · rw [if_neg hq] at htg
    cases htg
theorem g_last {k n : Nat} {x : Int32} {y : Int64} (ht : (ztb M)[i]? = some (pc, .lastore, 1, a)) (hk : zsch[k]? = some (.inr (1, n))) (h : zin x n → ZGo G M d t K (i + 1) lv st (zl u k x.toNatClampNeg y)) : ZGo G M d (if zin x n then t else none) K i lv (.long y :: .int x :: .ref k :: st) u := by
  intro tgt htg hc p e0 R s m args below meth c A cells slots Qf cx H locs ls hP hD hS hl
  by_cases hq : zin x n
  · rw [if_pos hq] at htg
    obtain ⟨g1, g2, g3, g4⟩ := zchk_at hc ht
    rw [g2]
    obtain ⟨c1, c2, c3, c4, c5, c6, c7, c8, c9, c10⟩ := id cx
    refine va_last c1 c2 c6 hP hD hS k 1 (zw_long hk) rfl hq g1 (fun H1 locs1 hP1 hD1 hS1 => ?_)
    have e : (zwg G u).set k (zga G k, .inl (zgc G 1, n, .inr (.inl (vp_updL (u.2.2 k) x.toNatClampNeg y)))) = zwg G (zl u k x.toNatClampNeg y) := by
      refine zw_putA hk ?_ rfl ?_
      · simp [zE, za, zl]
      · intro j hj
        simp [za, zl, hj]
    rw [e] at hP1 hD1
    have kk := h hq tgt htg hc p e0 R s m args below meth c A cells slots Qf cx H1 locs1 ls hP1 hD1 hS1 hl
    rw [g3 rfl] at kk
    exact kk
  · rw [if_neg hq] at htg
    cases htg
theorem g_bast {k n : Nat} {x : Int32} {y : Int32} (ht : (ztb M)[i]? = some (pc, .bastore, 1, a)) (hk : zsch[k]? = some (.inr (2, n))) (hy : y = 0 ∨ y = 1) (h : zin x n → ZGo G M d t K (i + 1) lv st (za u k x.toNatClampNeg y)) : ZGo G M d (if zin x n then t else none) K i lv (.int y :: .int x :: .ref k :: st) u := by
  intro tgt htg hc p e0 R s m args below meth c A cells slots Qf cx H locs ls hP hD hS hl
  by_cases hq : zin x n
  · rw [if_pos hq] at htg
    obtain ⟨g1, g2, g3, g4⟩ := zchk_at hc ht
    rw [g2]
    obtain ⟨c1, c2, c3, c4, c5, c6, c7, c8, c9, c10⟩ := id cx
    refine va_zast c1 c2 c6 hP hD hS k 2 (zw_bool hk) rfl hq g1 (fun H1 locs1 hP1 hD1 hS1 => ?_)
    rw [show vp_nar .boolean y = y by rcases hy with rfl | rfl <;> rfl] at hP1 hD1
    have e : (zwg G u).set k (zga G k, .inl (zgc G 2, n, .inl (upd (u.2.1 k) x.toNatClampNeg y))) = zwg G (za u k x.toNatClampNeg y) := by
      refine zw_putA hk ?_ rfl ?_
      · simp [zE, za, zl]
      · intro j hj
        simp [za, zl, hj]
    rw [e] at hP1 hD1
    have kk := h hq tgt htg hc p e0 R s m args below meth c A cells slots Qf cx H1 locs1 ls hP1 hD1 hS1 hl
    rw [g3 rfl] at kk
    exact kk
  · rw [if_neg hq] at htg
    cases htg
theorem g_sldB {x : Int32} (ht : (ztb M)[i]? = some (pc, .iaload, 1, a)) (h : zin x 32 → ZGo G M d t K (i + 1) lv (.int (zBOD x.toNatClampNeg) :: st) u) : ZGo G M d (if zin x 32 then t else none) K i lv (.int x :: .ref 100 :: st) u := by
  intro tgt htg hc p e R s m args below meth c A cells slots Qf cx H locs ls hP hD hS hl
  by_cases hq : zin x 32
  · rw [if_pos hq] at htg
    obtain ⟨g1, g2, g3, g4⟩ := zchk_at hc ht
    rw [g2]
    obtain ⟨c1, c2, c3, c4, c5, c6, c7, c8, c9, c10⟩ := id cx
    have kk := h hq tgt htg hc p e R s m args below meth c A cells slots Qf cx H locs ls hP hD hS hl
    rw [g3 rfl] at kk
    exact va_ti c1 c2 c7.1 hS hq rfl g1 kk
  · rw [if_neg hq] at htg
    cases htg
theorem g_sldA {x : Int32} (ht : (ztb M)[i]? = some (pc, .iaload, 1, a)) (h : zin x 8 → ZGo G M d t K (i + 1) lv (.int (zABV x.toNatClampNeg) :: st) u) : ZGo G M d (if zin x 8 then t else none) K i lv (.int x :: .ref 101 :: st) u := by
  intro tgt htg hc p e R s m args below meth c A cells slots Qf cx H locs ls hP hD hS hl
  by_cases hq : zin x 8
  · rw [if_pos hq] at htg
    obtain ⟨g1, g2, g3, g4⟩ := zchk_at hc ht
    rw [g2]
    obtain ⟨c1, c2, c3, c4, c5, c6, c7, c8, c9, c10⟩ := id cx
    have kk := h hq tgt htg hc p e R s m args below meth c A cells slots Qf cx H locs ls hP hD hS hl
    rw [g3 rfl] at kk
    exact va_ti c1 c2 c7.2.1 hS hq rfl g1 kk
  · rw [if_neg hq] at htg
    cases htg
theorem g_sldX {x : Int32} (ht : (ztb M)[i]? = some (pc, .iaload, 1, a)) (h : zin x (zgL G) → ZGo G M d t K (i + 1) lv (.int (zgx G x.toNatClampNeg) :: st) u) : ZGo G M d (if zin x (zgL G) then t else none) K i lv (.int x :: .ref 102 :: st) u := by
  intro tgt htg hc p e R s m args below meth c A cells slots Qf cx H locs ls hP hD hS hl
  by_cases hq : zin x (zgL G)
  · rw [if_pos hq] at htg
    obtain ⟨g1, g2, g3, g4⟩ := zchk_at hc ht
    rw [g2]
    obtain ⟨c1, c2, c3, c4, c5, c6, c7, c8, c9, c10⟩ := id cx
    have kk := h hq tgt htg hc p e R s m args below meth c A cells slots Qf cx H locs ls hP hD hS hl
    rw [g3 rfl] at kk
    exact va_sld c1 c2 c7.2.2.1.1 c7.2.2.1.2.1 c7.2.2.1.2.2 hS hq g1 kk
  · rw [if_neg hq] at htg
    cases htg
theorem g_slenX (ht : (ztb M)[i]? = some (pc, .arraylength, 1, a)) (h : ZGo G M d t K (i + 1) lv (.int (Int32.ofNat (zgL G)) :: st) u) : ZGo G M d t K i lv (.ref 102 :: st) u := by
  intro tgt htg hc p e R s m args below meth c A cells slots Qf cx H locs ls hP hD hS hl
  obtain ⟨g1, g2, g3, g4⟩ := zchk_at hc ht
  rw [g2]
  obtain ⟨c1, c2, c3, c4, c5, c6, c7, c8, c9, c10⟩ := id cx
  have kk := h tgt htg hc p e R s m args below meth c A cells slots Qf cx H locs ls hP hD hS hl
  rw [g3 rfl] at kk
  exact va_slen c1 c2 c7.2.2.1.1 c7.2.2.1.2.1 c7.2.2.1.2.2 hS g1 kk
theorem g_slenB (ht : (ztb M)[i]? = some (pc, .arraylength, 1, a)) (h : ZGo G M d t K (i + 1) lv (.int (Int32.ofNat 32) :: st) u) : ZGo G M d t K i lv (.ref 100 :: st) u := by
  intro tgt htg hc p e R s m args below meth c A cells slots Qf cx H locs ls hP hD hS hl
  obtain ⟨g1, g2, g3, g4⟩ := zchk_at hc ht
  rw [g2]
  obtain ⟨c1, c2, c3, c4, c5, c6, c7, c8, c9, c10⟩ := id cx
  have kk := h tgt htg hc p e R s m args below meth c A cells slots Qf cx H locs ls hP hD hS hl
  rw [g3 rfl] at kk
  exact va_tlen c1 c2 c7.1 hS rfl g1 kk
theorem g_slenA (ht : (ztb M)[i]? = some (pc, .arraylength, 1, a)) (h : ZGo G M d t K (i + 1) lv (.int (Int32.ofNat 8) :: st) u) : ZGo G M d t K i lv (.ref 101 :: st) u := by
  intro tgt htg hc p e R s m args below meth c A cells slots Qf cx H locs ls hP hD hS hl
  obtain ⟨g1, g2, g3, g4⟩ := zchk_at hc ht
  rw [g2]
  obtain ⟨c1, c2, c3, c4, c5, c6, c7, c8, c9, c10⟩ := id cx
  have kk := h tgt htg hc p e R s m args below meth c A cells slots Qf cx H locs ls hP hD hS hl
  rw [g3 rfl] at kk
  exact va_tlen c1 c2 c7.2.1 hS rfl g1 kk
theorem g_alen {k n : Nat} {v : Int32} (ht : (ztb M)[i]? = some (pc, .arraylength, 1, a)) (hk : zsch[k]? = some (.inr (0, n))) (hv : Int32.ofNat n = v) (h : ZGo G M d t K (i + 1) lv (.int v :: st) u) : ZGo G M d t K i lv (.ref k :: st) u := by
  intro tgt htg hc p e R s m args below meth c A cells slots Qf cx H locs ls hP hD hS hl
  obtain ⟨g1, g2, g3, g4⟩ := zchk_at hc ht
  rw [g2]
  obtain ⟨c1, c2, c3, c4, c5, c6, c7, c8, c9, c10⟩ := id cx
  have kk := h tgt htg hc p e R s m args below meth c A cells slots Qf cx H locs ls hP hD hS hl
  rw [g3 rfl] at kk
  exact va_alen c1 c2 c6 hP k 0 (zw_int hk) rfl hv g1 kk
theorem g_getsB {idx : Nat} (ht : (ztb M)[i]? = some (pc, .getstatic idx, 3, a)) (hw : Cond.fieldLink (zy M).cls idx RX8 "BODIES" "[I" ∈ lw_tbl) (h : ZGo G M d t K (i + 1) lv (.ref 100 :: st) u) : ZGo G M d t K i lv st u := by
  intro tgt htg hc p e R s m args below meth c A cells slots Qf cx H locs ls hP hD hS hl
  obtain ⟨g1, g2, g3, g4⟩ := zchk_at hc ht
  rw [g2]
  obtain ⟨c1, c2, c3, c4, c5, c6, c7, c8, c9, c10⟩ := id cx
  have kk := h tgt htg hc p e R s m args below meth c A cells slots Qf cx H locs ls hP hD hS hl
  rw [g3 rfl] at kk
  exact va_gets c1 c2 c7.2.2.2.1 hS c4 (c5.at hw rfl) (fun _ h => h) g1 kk
theorem g_getsA {idx : Nat} (ht : (ztb M)[i]? = some (pc, .getstatic idx, 3, a)) (hw : Cond.fieldLink (zy M).cls idx RX8 "ABOVE" "[I" ∈ lw_tbl) (h : ZGo G M d t K (i + 1) lv (.ref 101 :: st) u) : ZGo G M d t K i lv st u := by
  intro tgt htg hc p e R s m args below meth c A cells slots Qf cx H locs ls hP hD hS hl
  obtain ⟨g1, g2, g3, g4⟩ := zchk_at hc ht
  rw [g2]
  obtain ⟨c1, c2, c3, c4, c5, c6, c7, c8, c9, c10⟩ := id cx
  have kk := h tgt htg hc p e R s m args below meth c A cells slots Qf cx H locs ls hP hD hS hl
  rw [g3 rfl] at kk
  exact va_gets c1 c2 c7.2.2.2.2 hS c4 (c5.at hw rfl) (fun _ h => h) g1 kk
/-! ends -/
theorem g_iret {r : Int32} {x : β} (ht : (ztb M)[i]? = some (pc, .ireturn, 1, a)) (hr : zrt M = some .int ∨ (zrt M = some .boolean ∧ (r = 0 ∨ r = 1))) (hK : K x = some (.int r, u)) : ZGo G M d (some x) K i lv [.int r] u := by
  intro tgt htg hc p e R s m args below meth c A cells slots Qf cx H locs ls hP hD hS hl
  rw [Option.bind_some, hK] at htg
  cases htg
  obtain ⟨g1, g2, g3, g4⟩ := zchk_at hc ht
  rw [g2]
  exact cx.2.2.2.2.2.2.2.2.2 pc H locs ls ⟨g1, hr⟩ hP hD hS
theorem g_lret {r : Int64} {x : β} (ht : (ztb M)[i]? = some (pc, .lreturn, 1, a)) (hr : zrt M = some .long) (hK : K x = some (.long r, u)) : ZGo G M d (some x) K i lv [.long r] u := by
  intro tgt htg hc p e R s m args below meth c A cells slots Qf cx H locs ls hP hD hS hl
  rw [Option.bind_some, hK] at htg
  cases htg
  obtain ⟨g1, g2, g3, g4⟩ := zchk_at hc ht
  rw [g2]
  exact cx.2.2.2.2.2.2.2.2.2 pc H locs ls ⟨g1, hr⟩ hP hD hS
theorem g_vret {x : β} (ht : (ztb M)[i]? = some (pc, .return_, 1, a)) (hr : zrt M = none) (hK : K x = some (.null, u)) : ZGo G M d (some x) K i lv [] u := by
  intro tgt htg hc p e R s m args below meth c A cells slots Qf cx H locs ls hP hD hS hl
  rw [Option.bind_some, hK] at htg
  cases htg
  obtain ⟨g1, g2, g3, g4⟩ := zchk_at hc ht
  rw [g2]
  exact cx.2.2.2.2.2.2.2.2.2 pc H locs ls ⟨g1, hr⟩ hP hD hS
end ZROWS
