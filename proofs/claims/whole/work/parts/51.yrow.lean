/-! THE CONSTRUCTORS: worlds that grow; a place is an object with its values (references are places) or a row; addresses are found as the cells come. -/
abbrev YE : Type := (Nat × List Value) ⊕ (Nat × Nat × (Nat → Int32))
def yE (ad : Nat → Nat) (ca : Nat → ClassId) : YE → va_E
  | .inl o => .inr (o.1, o.2.map (zcv ad))
  | .inr (0, n, f) => .inl (ca 0, (n, .inl f))
  | .inr (1, n, _) => .inl (ca 1, (n, .inr (.inl (fun _ => 0))))
  | .inr (_, n, f) => .inl (ca 2, (n, .inl f))
def yw (ad : Nat → Nat) (ca : Nat → ClassId) (es : List YE) : va_W := es.mapIdx (fun k e => (ad k, yE ad ca e))
abbrev YC : Type := Launch × va_G × (Nat → ClassId)
abbrev yG (Y : YC) (ad : Nat → Nat) : ZG := (Y.1, Y.2.1, ad, Y.2.2, 0, fun _ => 0)
def yag (n : Nat) (ad ad' : Nat → Nat) : Prop := ∀ j, j < n ∨ 100 ≤ j → ad' j = ad j
/-- an end: instruction, locals, stack, world, cells, slots -/
abbrev YF : Type := Nat × List (Nat × Value) × List Value × List YE × Nat × Nat
def yltV (n : Nat) : Value → Bool
  | .ref k => decide (k < n) || decide (100 ≤ k)
  | _ => true
def yltE (n : Nat) : YE → Bool
  | .inl o => o.2.all (yltV n)
  | .inr _ => true
def ylt (n : Nat) (es : List YE) (lv : List (Nat × Value)) (st : List Value) : Bool := es.all (yltE n) && lv.all (fun q => yltV n q.2) && st.all (yltV n) && decide (n < 100)
theorem yag.rf (n : Nat) (ad : Nat → Nat) : yag n ad ad := fun _ _ => rfl
theorem yag.tr {n m : Nat} {a b c : Nat → Nat} (hnm : n ≤ m) (h1 : yag n a b) (h2 : yag m b c) : yag n a c := fun j hj => (h2 j (hj.imp (fun h => Nat.lt_of_lt_of_le h hnm) id)).trans (h1 j hj)
theorem yltV_ag {n : Nat} {ad ad' : Nat → Nat} (h : yag n ad ad') {v : Value} (hv : yltV n v = true) : zcv ad' v = zcv ad v := by
  cases v with
  | ref k =>
    simp only [yltV, Bool.or_eq_true, decide_eq_true_eq] at hv
    simp only [zcv, h k hv]
  | _ => rfl
theorem yltE_ag {n : Nat} {ad ad' : Nat → Nat} {ca : Nat → ClassId} (h : yag n ad ad') {x : YE} (hx : yltE n x = true) : yE ad' ca x = yE ad ca x := by
  cases x with
  | inl o =>
    have hx' : o.2.all (yltV n) = true := hx
    have : o.2.map (zcv ad') = o.2.map (zcv ad) := List.map_congr_left (fun v hv => yltV_ag h (List.all_eq_true.mp hx' v hv))
    simp only [yE, this]
  | inr b =>
    obtain ⟨t, m, f⟩ := b
    match t with
    | 0 => rfl
    | 1 => rfl
    | t + 2 => rfl
theorem yw_at (ad : Nat → Nat) (ca : Nat → ClassId) (es : List YE) (k : Nat) : (yw ad ca es)[k]? = (es[k]?).map (fun e => (ad k, yE ad ca e)) := by
  simp [yw, List.getElem?_mapIdx]
theorem yw_len (ad : Nat → Nat) (ca : Nat → ClassId) (es : List YE) : (yw ad ca es).length = es.length := by simp [yw]
theorem yw_ag {n : Nat} {ad ad' : Nat → Nat} {ca : Nat → ClassId} {es : List YE} (h : yag n ad ad') (hl : es.length ≤ n) (he : es.all (yltE n) = true) : yw ad' ca es = yw ad ca es := by
  apply List.ext_getElem?
  intro k
  rw [yw_at, yw_at]
  cases hk : es[k]? with
  | none => rfl
  | some x =>
    have h1 := (List.getElem?_eq_some_iff.mp hk).1
    simp only [Option.map_some, h k (Or.inl (Nat.lt_of_lt_of_le h1 hl)), yltE_ag h (List.all_eq_true.mp he x (List.mem_of_getElem? hk))]
theorem yw_app (ad : Nat → Nat) (ca : Nat → ClassId) (es : List YE) (x : YE) : yw ad ca (es ++ [x]) = yw ad ca es ++ [(ad es.length, yE ad ca x)] := by
  simp [yw, List.mapIdx_append]
theorem yw_set (ad : Nat → Nat) (ca : Nat → ClassId) (es : List YE) (k : Nat) (x : YE) : (yw ad ca es).set k (ad k, yE ad ca x) = yw ad ca (es.set k x) := by
  apply List.ext_getElem?
  intro j
  rw [yw_at]
  by_cases hj : k = j
  · subst hj
    by_cases hl : k < es.length
    · rw [List.getElem?_set_self (by rw [yw_len]; exact hl), List.getElem?_set_self hl]
      rfl
    · rw [List.getElem?_eq_none (by rw [List.length_set, yw_len]; omega), List.getElem?_eq_none (by rw [List.length_set]; omega)]
      rfl
  · rw [List.getElem?_set_ne hj, yw_at, List.getElem?_set_ne hj]
theorem ylv_ag {n : Nat} {Y : YC} {ad ad' : Nat → Nat} {lv : List (Nat × Value)} (h : yag n ad ad') (hl : lv.all (fun q => yltV n q.2) = true) : zlv (yG Y ad') lv = zlv (yG Y ad) lv :=
  List.map_congr_left (fun q hq => by rw [show zcv (zga (yG Y ad')) q.2 = zcv (zga (yG Y ad)) q.2 from yltV_ag h (List.all_eq_true.mp hl q hq)])
theorem yst_ag {n : Nat} {Y : YC} {ad ad' : Nat → Nat} {st : List Value} (h : yag n ad ad') (hl : st.all (yltV n) = true) : zst (yG Y ad') st = zst (yG Y ad) st :=
  List.map_congr_left (fun v hv => yltV_ag h (List.all_eq_true.mp hl v hv))
def yCx (Y : YC) (M : ZM) (d n0 : Nat) (ad0 : Nat → Nat) (F : YF) (p : Program) (e : Env) (R : Room) (s : State) (m : MethodId) (args : Array Value) (below : List Frame) (meth : Method) (c : Code) (A : Nat → Prop) (Qf : State → Prop) : Prop :=
  p.tables.exec = Jvm.exec ∧ c.code = zcc M ∧ c.maxLocals = znL M ∧ s.vm.findClass (zy M).cls = some m.cls ∧ zAW s ∧ va_K Y.2.1 zcl (ztys Y.2.2) s ∧ ((zy M).name = "<init>" → meth.name = "<init>") ∧ (∀ q, s.heap.size ≤ q → A q) ∧ (d ≤ R.frames ∧ 64 * d ≤ R.locals ∧ F.2.2.2.2.1 ≤ R.cells ∧ F.2.2.2.2.2 ≤ R.slots) ∧
  ∀ (ad : Nat → Nat) (H : Heap) (locs : List Loc) (ls : Array Slot), yag n0 ad0 ad → va_P Y.2.1 zcl (yw ad Y.2.2 F.2.2.2.1) H → va_D A (yw ad Y.2.2 F.2.2.2.1) → va_S A s.heap H locs → lv_has ls (znL M) (zlv (yG Y ad) F.2.1) → W p Y.1 e R s m args below meth c H locs F.2.2.2.2.1 F.2.2.2.2.2 Qf (F0 m (zpc M F.1) ls (zst (yG Y ad) F.2.2.1))
def YW (Y : YC) (M : ZM) (d n0 : Nat) (F : YF) (i : Nat) (lv : List (Nat × Value)) (st : List Value) (es : List YE) (nc ns : Nat) : Prop :=
  zchk M = true → ∀ (p : Program) (e : Env) (R : Room) (s : State) (m : MethodId) (args : Array Value) (below : List Frame) (meth : Method) (c : Code) (A : Nat → Prop) (Qf : State → Prop) (ad0 : Nat → Nat), yCx Y M d n0 ad0 F p e R s m args below meth c A Qf →
    ∀ (ad : Nat → Nat) (H : Heap) (locs : List Loc) (ls : Array Slot), yag n0 ad0 ad → va_P Y.2.1 zcl (yw ad Y.2.2 es) H → va_D A (yw ad Y.2.2 es) → va_S A s.heap H locs → lv_has ls (znL M) (zlv (yG Y ad) lv) → W p Y.1 e R s m args below meth c H locs nc ns Qf (F0 m (zpc M i) ls (zst (yG Y ad) st))
section YROWS
variable {Y : YC} {M : ZM} {d n0 i pc len a nc ns : Nat} {F : YF} {lv lv' : List (Nat × Value)} {st st' rest : List Value} {es : List YE} {ins : Instr}
theorem y_end (h : ∀ q ∈ F.2.1, q ∈ lv) (he : es = F.2.2.2.1) (hs : st = F.2.2.1) (hi : i = F.1) (hc : nc = F.2.2.2.2.1) (hn : ns = F.2.2.2.2.2) : YW Y M d n0 F i lv st es nc ns := by
  subst he hs hi hc hn
  intro hc p e R s m args below meth c A Qf ad0 cx ad H locs ls hag hP hD hS hl
  obtain ⟨c1, c2, c3, c4, c5, c6, c7, c8, c9, c10⟩ := cx
  exact c10 ad H locs ls hag hP hD hS (zsub_has h hl)
theorem y_op (ht : (ztb M)[i]? = some (pc, ins, len, a)) (hz : zends ins = false)
    (hrow : ∀ (G : ZG) (p : Program) (e : Env) (R : Room) (s : State) (m : MethodId) (args : Array Value) (below : List Frame) (meth : Method) (c : Code) (H : Heap) (locs : List Loc) (cells slots : Nat) (Qf : State → Prop) (ls : Array Slot), p.tables.exec = Jvm.exec → c.code = zcc M → decode (zcc M) pc = .ok (ins, len) → lv_has ls (znL M) (zlv G lv) → W p (zgl G) e R s m args below meth c H locs cells slots Qf (F0 m (pc + len) ls (zst G st')) → W p (zgl G) e R s m args below meth c H locs cells slots Qf (F0 m pc ls (zst G st)))
    (h : YW Y M d n0 F (i + 1) lv st' es nc ns) : YW Y M d n0 F i lv st es nc ns := by
  intro hc p e R s m args below meth c A Qf ad0 cx ad H locs ls hag hP hD hS hl
  obtain ⟨h1, h2, h3, h4⟩ := zchk_at hc ht
  rw [h2]
  refine hrow (yG Y ad) p e R s m args below meth c H locs nc ns Qf ls cx.1 cx.2.1 h1 hl ?_
  have := h hc p e R s m args below meth c A Qf ad0 cx ad H locs ls hag hP hD hS hl
  rw [h3 hz] at this
  exact this
theorem y_aload_n {k : Fin 4} {x : Nat} (ht : (ztb M)[i]? = some (pc, .aload_n k, 1, a)) (hv : zlk lv k.val = some (.ref x)) (h : YW Y M d n0 F (i + 1) lv (.ref x :: st) es nc ns) : YW Y M d n0 F i lv st es nc ns :=
  y_op (st := st) (st' := .ref x :: st) ht rfl (fun G p e R s m args below meth c H locs cells slots Qf ls hx hb hd hl k => lv_aload_n hx hb hd rfl (zlk_has hl hv) k) h
theorem y_iload_n {k : Fin 4} {x : Int32} (ht : (ztb M)[i]? = some (pc, .iload_n k, 1, a)) (hv : zlk lv k.val = some (.int x)) (h : YW Y M d n0 F (i + 1) lv (.int x :: st) es nc ns) : YW Y M d n0 F i lv st es nc ns :=
  y_op (st := st) (st' := .int x :: st) ht rfl (fun G p e R s m args below meth c H locs cells slots Qf ls hx hb hd hl k => lv_iload_n hx hb hd rfl (zlk_has hl hv) k) h
theorem y_iconst {n : Int} {v : Int32} (ht : (ztb M)[i]? = some (pc, .iconst n, 1, a)) (hv : Int32.ofInt n = v) (h : YW Y M d n0 F (i + 1) lv (.int v :: st) es nc ns) : YW Y M d n0 F i lv st es nc ns :=
  y_op (st := st) (st' := .int v :: st) ht rfl (fun G p e R s m args below meth c H locs cells slots Qf ls hx hb hd hl k => lv_iconst hx hb hd hv k) h
theorem y_bipush {n : Int} {v : Int32} (ht : (ztb M)[i]? = some (pc, .bipush n, 2, a)) (hv : (Int8.ofInt n).toInt32 = v) (h : YW Y M d n0 F (i + 1) lv (.int v :: st) es nc ns) : YW Y M d n0 F i lv st es nc ns :=
  y_op (st := st) (st' := .int v :: st) ht rfl (fun G p e R s m args below meth c H locs cells slots Qf ls hx hb hd hl k => lv_bipush hx hb hd hv k) h
theorem y_sipush {n : Int} {v : Int32} (ht : (ztb M)[i]? = some (pc, .sipush n, 3, a)) (hv : (Int16.ofInt n).toInt32 = v) (h : YW Y M d n0 F (i + 1) lv (.int v :: st) es nc ns) : YW Y M d n0 F i lv st es nc ns :=
  y_op (st := st) (st' := .int v :: st) ht rfl (fun G p e R s m args below meth c H locs cells slots Qf ls hx hb hd hl k => lv_sipush hx hb hd hv k) h
theorem y_idiv {x y : Int32} (ht : (ztb M)[i]? = some (pc, .idiv, 1, a)) (hne : ¬ y = 0) (h : YW Y M d n0 F (i + 1) lv (.int (x / y) :: st) es nc ns) : YW Y M d n0 F i lv (.int y :: .int x :: st) es nc ns :=
  y_op (st := .int y :: .int x :: st) (st' := .int (x / y) :: st) ht rfl (fun G p e R s m args below meth c H locs cells slots Qf ls hx hb hd hl k => lv_idiv hx hb hd hne k) h
theorem y_irem {x y : Int32} (ht : (ztb M)[i]? = some (pc, .irem, 1, a)) (hne : ¬ y = 0) (h : YW Y M d n0 F (i + 1) lv (.int (zrem x y) :: st) es nc ns) : YW Y M d n0 F i lv (.int y :: .int x :: st) es nc ns :=
  y_op (st := .int y :: .int x :: st) (st' := .int (zrem x y) :: st) ht rfl (fun G p e R s m args below meth c H locs cells slots Qf ls hx hb hd hl k => lv_irem hx hb hd hne k) h
theorem y_dup {x : Nat} (ht : (ztb M)[i]? = some (pc, .dup, 1, a)) (h : YW Y M d n0 F (i + 1) lv (.ref x :: .ref x :: st) es nc ns) : YW Y M d n0 F i lv (.ref x :: st) es nc ns :=
  y_op (st := .ref x :: st) (st' := .ref x :: .ref x :: st) ht rfl (fun G p e R s m args below meth c H locs cells slots Qf ls hx hb hd hl k => lv_dup hx hb hd rfl k) h
theorem y_istore_n {k : Fin 4} {x : Int32} (ht : (ztb M)[i]? = some (pc, .istore_n k, 1, a)) (hn : k.val < znL M) (hf : zfree lv k.val = true) (hl' : zset lv k.val (.int x) = lv') (h : YW Y M d n0 F (i + 1) lv' st es nc ns) : YW Y M d n0 F i lv (.int x :: st) es nc ns := by
  intro hc p e R s m args below meth c A Qf ad0 cx ad H locs ls hag hP hD hS hl
  obtain ⟨h1, h2, h3, h4⟩ := zchk_at hc ht
  rw [h2]
  refine lv_istore_n cx.1 cx.2.1 h1 rfl hl hn rfl (fun ls' hl2 => ?_)
  have := h hc p e R s m args below meth c A Qf ad0 cx ad H locs ls' hag hP hD hS (zset_has hl' hf hl2)
  rw [h3 rfl] at this
  exact this
theorem y_astore_n {k : Fin 4} {x : Nat} (ht : (ztb M)[i]? = some (pc, .astore_n k, 1, a)) (hn : k.val < znL M) (hf : zfree lv k.val = true) (hl' : zset lv k.val (.ref x) = lv') (h : YW Y M d n0 F (i + 1) lv' st es nc ns) : YW Y M d n0 F i lv (.ref x :: st) es nc ns := by
  intro hc p e R s m args below meth c A Qf ad0 cx ad H locs ls hag hP hD hS hl
  obtain ⟨h1, h2, h3, h4⟩ := zchk_at hc ht
  rw [h2]
  refine lv_astore_n cx.1 cx.2.1 h1 rfl hl hn rfl (fun ls' hl2 => ?_)
  have := h hc p e R s m args below meth c A Qf ad0 cx ad H locs ls' hag hP hD hS (zset_has (G := yG Y ad) (v := .ref x) hl' hf hl2)
  rw [h3 rfl] at this
  exact this
theorem y_iinc {k : Nat} {n : Int} {x v : Int32} (ht : (ztb M)[i]? = some (pc, .iinc k n, 3, a)) (hk : zlk lv k = some (.int x)) (hv : Int32.ofInt n = v) (hn : k < znL M) (hf : zfree lv k = true) (hl' : zset lv k (.int (x + v)) = lv') (h : YW Y M d n0 F (i + 1) lv' st es nc ns) : YW Y M d n0 F i lv st es nc ns := by
  intro hc p e R s m args below meth c A Qf ad0 cx ad H locs ls hag hP hD hS hl
  obtain ⟨h1, h2, h3, h4⟩ := zchk_at hc ht
  rw [h2]
  subst hv
  have hm : (k, Value.int x) ∈ zlv (yG Y ad) lv := List.mem_map.mpr ⟨(k, .int x), zlk_mem hk, rfl⟩
  obtain ⟨j, hj⟩ := List.getElem?_of_mem hm
  refine lv_iinc cx.1 cx.2.1 h1 hl hj rfl hn rfl (fun ls' hl2 => ?_)
  have := h hc p e R s m args below meth c A Qf ad0 cx ad H locs ls' hag hP hD hS (zset_has (G := yG Y ad) (v := .int (x + Int32.ofInt n)) hl' hf hl2)
  rw [h3 rfl] at this
  exact this
theorem y_goto {off : Int} (ht : (ztb M)[i]? = some (pc, .goto off, 3, a)) (h : YW Y M d n0 F a lv st es nc ns) : YW Y M d n0 F i lv st es nc ns := by
  intro hc p e R s m args below meth c A Qf ad0 cx ad H locs ls hag hP hD hS hl
  obtain ⟨h1, h2, h3, h4⟩ := zchk_at hc ht
  rw [h2]
  exact lv_goto cx.1 cx.2.1 h1 (h4 off rfl) (h hc p e R s m args below meth c A Qf ad0 cx ad H locs ls hag hP hD hS hl)
theorem y_icmpge {x y : Int32} {off : Int} (ht : (ztb M)[i]? = some (pc, .if_icmp .ge off, 3, a)) (hT : y ≤ x → YW Y M d n0 F a lv st es nc ns) (hF : ¬ y ≤ x → YW Y M d n0 F (i + 1) lv st es nc ns) : YW Y M d n0 F i lv (.int y :: .int x :: st) es nc ns := by
  intro hc p e R s m args below meth c A Qf ad0 cx ad H locs ls hag hP hD hS hl
  obtain ⟨h1, h2, h3, h4⟩ := zchk_at hc ht
  rw [h2]
  refine lv_icmp_ge cx.1 cx.2.1 h1 (h4 off rfl) (fun hq => ?_) (fun hq => ?_)
  · exact hT hq hc p e R s m args below meth c A Qf ad0 cx ad H locs ls hag hP hD hS hl
  · have := hF hq hc p e R s m args below meth c A Qf ad0 cx ad H locs ls hag hP hD hS hl
    rw [h3 rfl] at this
    exact this
theorem y_icmpne {x y : Int32} {off : Int} (ht : (ztb M)[i]? = some (pc, .if_icmp .ne off, 3, a)) (hT : ¬ x = y → YW Y M d n0 F a lv st es nc ns) (hF : x = y → YW Y M d n0 F (i + 1) lv st es nc ns) : YW Y M d n0 F i lv (.int y :: .int x :: st) es nc ns := by
  intro hc p e R s m args below meth c A Qf ad0 cx ad H locs ls hag hP hD hS hl
  obtain ⟨h1, h2, h3, h4⟩ := zchk_at hc ht
  rw [h2]
  refine lv_icmp_ne cx.1 cx.2.1 h1 (h4 off rfl) (fun hq => ?_) (fun hq => ?_)
  · exact hT hq hc p e R s m args below meth c A Qf ad0 cx ad H locs ls hag hP hD hS hl
  · have := hF hq hc p e R s m args below meth c A Qf ad0 cx ad H locs ls hag hP hD hS hl
    rw [h3 rfl] at this
    exact this
theorem yw_obj {ad : Nat → Nat} {ca : Nat → ClassId} {o ci : Nat} {fs : List Value} (h : es[o]? = some (.inl (ci, fs))) : (yw ad ca es)[o]? = some (ad o, .inr (ci, fs.map (zcv ad))) := by rw [yw_at, h]; rfl
theorem yw_int {ad : Nat → Nat} {ca : Nat → ClassId} {k n : Nat} {f : Nat → Int32} (h : es[k]? = some (.inr (0, n, f))) : (yw ad ca es)[k]? = some (ad k, .inl (ca 0, (n, .inl f))) := by rw [yw_at, h]; rfl
theorem y_get {o ci k idx : Nat} {fs : List Value} {v : Value} (ht : (ztb M)[i]? = some (pc, .getfield idx, 3, a)) (hw : zFL (zy M).cls idx ci k) (ho : es[o]? = some (.inl (ci, fs))) (hf : fs[k]? = some v) (h : YW Y M d n0 F (i + 1) lv (v :: st) es nc ns) : YW Y M d n0 F i lv (.ref o :: st) es nc ns := by
  intro hc p e R s m args below meth c A Qf ad0 cx ad H locs ls hag hP hD hS hl
  obtain ⟨g1, g2, g3, g4⟩ := zchk_at hc ht
  rw [g2]
  obtain ⟨c1, c2, c3, c4, c5, c6, c7, c8, c9, c10⟩ := id cx
  obtain ⟨w1, w2, w3, w4⟩ := hw
  have hv : (fs.map (zcv ad))[k]? = some (zcv ad v) := by rw [List.getElem?_map, hf]; rfl
  have kk := h hc p e R s m args below meth c A Qf ad0 cx ad H locs ls hag hP hD hS hl
  rw [g3 rfl] at kk
  rcases w4 with w4 | ⟨host, w4⟩
  · exact va_get (D := Y.2.1) (ws := yw ad Y.2.2 es) (ci := ci) (C := (zcls ci).1) (T := (zcls ci).2.1) (N := (zcls ci).2.2) c1 c2 (c5.cls w1) (fun _ h => h) c4 c6 hP o (yw_obj ho) (zcl_at ci w1) k w2 (c5.at w4 rfl) (fun x h => by rw [w3] at h; exact h) hv g1 kk
  · exact va_getN (D := Y.2.1) (ws := yw ad Y.2.2 es) (ci := ci) (C := (zcls ci).1) (T := (zcls ci).2.1) (N := (zcls ci).2.2) c1 c2 (c5.cls w1) (fun _ h => h) c4 c6 hP o (yw_obj ho) (zcl_at ci w1) k w2 (c5.at w4 rfl) (fun x h => by rw [w3] at h; exact h) hv g1 kk
def ynf (ty : FieldType) : Value → Bool
  | .int _ => decide (ty = .int)
  | .ref _ => match ty with | .object _ => true | .array _ => true | _ => false
  | _ => false
theorem ynf_ok {ty : FieldType} {v : Value} (ad : Nat → Nat) (h : ynf ty v = true) : narrow ty (zcv ad v) = zcv ad v ∧ fits ty (zcv ad v) = true := by
  cases v with
  | int x =>
    have : ty = .int := by simpa [ynf] using h
    subst this
    exact ⟨rfl, rfl⟩
  | ref k => cases ty <;> first | exact ⟨rfl, rfl⟩ | (exact absurd h (by simp [ynf]))
  | _ => exact absurd h (by simp [ynf])
theorem yw_put (ad : Nat → Nat) (ca : Nat → ClassId) {o ci k : Nat} {fs : List Value} {v : Value} : (yw ad ca es).set o (ad o, .inr (ci, (fs.map (zcv ad)).set k (zcv ad v))) = yw ad ca (es.set o (.inl (ci, fs.set k v))) := by
  rw [← List.map_set, ← yw_set]
  rfl
/-- a field of the object that is being made: final or not -/
theorem y_put {o ci k idx : Nat} {fs fs' : List Value} {v : Value} {es' : List YE} (ht : (ztb M)[i]? = some (pc, .putfield idx, 3, a)) (hlk : Cond.fieldLink (zy M).cls idx (zcls ci).1 ((zcls ci).2.1 k).2.1 ((zcls ci).2.1 k).2.2.1 ∈ lw_tbl) (hk : (decide (ci < 12) && decide (k < (zcls ci).2.2) && ((zcls ci).2.1 k).1 == (zcls ci).1 && (zy M).cls == (zcls ci).1 && ynf (zty ci k) v && (zy M).name == "<init>") = true) (ho : es[o]? = some (.inl (ci, fs))) (hl2 : k < fs.length) (hfs : fs.set k v = fs') (hes : es.set o (.inl (ci, fs')) = es')
    (h : YW Y M d n0 F (i + 1) lv st es' nc ns) : YW Y M d n0 F i lv (v :: .ref o :: st) es nc ns := by
  subst hfs hes
  intro hc p e R s m args below meth c A Qf ad0 cx ad H locs ls hag hP hD hS hl
  obtain ⟨g1, g2, g3, g4⟩ := zchk_at hc ht
  rw [g2]
  obtain ⟨c1, c2, c3, c4, c5, c6, c7, c8, c9, c10⟩ := id cx
  simp only [Bool.and_eq_true, decide_eq_true_eq, beq_iff_eq] at hk
  obtain ⟨⟨⟨⟨⟨w1, w2⟩, w3⟩, w4⟩, w5⟩, w6⟩ := hk
  have hd := zcl_ty ci w1 k w2
  have hnar := ynf_ok ad w5
  have hl3 : k < (fs.map (zcv ad)).length := by rw [List.length_map]; exact hl2
  have kk : ∀ (H1 : Heap) (locs1 : List Loc), va_P Y.2.1 zcl ((yw ad Y.2.2 es).set o (ad o, .inr (ci, (fs.map (zcv ad)).set k (zcv ad v)))) H1 → va_D A ((yw ad Y.2.2 es).set o (ad o, .inr (ci, (fs.map (zcv ad)).set k (zcv ad v)))) → va_S A s.heap H1 locs1 → W p Y.1 e R s m args below meth c H1 locs1 nc ns Qf (F0 m (pc + 3) ls (zst (yG Y ad) st)) := by
    intro H1 locs1 hP1 hD1 hS1
    rw [yw_put] at hP1 hD1
    have kk := h hc p e R s m args below meth c A Qf ad0 cx ad H1 locs1 ls hag hP1 hD1 hS1 hl
    rw [g3 rfl] at kk
    exact kk
  by_cases hfin : ((zcls ci).2.1 k).2.2.2 = true
  · exact va_putF (D := Y.2.1) (ws := yw ad Y.2.2 es) (ci := ci) (C := (zcls ci).1) (T := (zcls ci).2.1) (N := (zcls ci).2.2) c1 c2 (c5.cls w1) (fun _ h => h) (zty ci) (zcl_ty ci w1) (zcl_nm ci w1) c4 c6 hP hD hS o (yw_obj ho) (zcl_at ci w1) k w2 (c5.at hlk rfl) (fun x h => by rw [w3] at h; exact h) hfin (c7 w6) (by rw [w3, w4]) hd hnar.1 hnar.2 hl3 g1 kk
  · exact va_put (D := Y.2.1) (ws := yw ad Y.2.2 es) (ci := ci) (C := (zcls ci).1) (T := (zcls ci).2.1) (N := (zcls ci).2.2) c1 c2 (c5.cls w1) (fun _ h => h) (zty ci) (zcl_ty ci w1) (zcl_nm ci w1) c4 c6 hP hD hS o (yw_obj ho) (zcl_at ci w1) k w2 (c5.at hlk rfl) (fun x h => by rw [w3] at h; exact h) (by simpa using hfin) hd hnar.1 hnar.2 hl3 g1 kk
theorem y_iast {k n : Nat} {x y : Int32} {f : Nat → Int32} {es' : List YE} (ht : (ztb M)[i]? = some (pc, .iastore, 1, a)) (hk : es[k]? = some (.inr (0, n, f))) (hin : zin x n) (hes : es.set k (.inr (0, n, upd f x.toNatClampNeg y)) = es') (h : YW Y M d n0 F (i + 1) lv st es' nc ns) : YW Y M d n0 F i lv (.int y :: .int x :: .ref k :: st) es nc ns := by
  subst hes
  intro hc p e0 R s m args below meth c A Qf ad0 cx ad H locs ls hag hP hD hS hl
  obtain ⟨g1, g2, g3, g4⟩ := zchk_at hc ht
  rw [g2]
  obtain ⟨c1, c2, c3, c4, c5, c6, c7, c8, c9, c10⟩ := id cx
  refine va_iast c1 c2 c6 hP hD hS k 0 (yw_int hk) rfl hin g1 (fun H1 locs1 hP1 hD1 hS1 => ?_)
  have e : (yw ad Y.2.2 es).set k (ad k, .inl (Y.2.2 0, n, .inl (upd f x.toNatClampNeg y))) = yw ad Y.2.2 (es.set k (.inr (0, n, upd f x.toNatClampNeg y))) := by
    rw [← yw_set]
    rfl
  rw [e] at hP1 hD1
  have kk := h hc p e0 R s m args below meth c A Qf ad0 cx ad H1 locs1 ls hag hP1 hD1 hS1 hl
  rw [g3 rfl] at kk
  exact kk
end YROWS
