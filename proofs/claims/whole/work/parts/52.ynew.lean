/-! cells that come, calls of constructors, their contracts -/
theorem ylt_ok {n : Nat} {es : List YE} {lv : List (Nat × Value)} {st : List Value} (h : ylt n es lv st = true) : es.all (yltE n) = true ∧ lv.all (fun q => yltV n q.2) = true ∧ st.all (yltV n) = true ∧ n < 100 := by
  simp only [ylt, Bool.and_eq_true, decide_eq_true_eq] at h
  exact ⟨h.1.1.1, h.1.1.2, h.1.2, h.2⟩
def yput (ad : Nat → Nat) (n q : Nat) : Nat → Nat := fun j => if j = n then q else ad j
theorem yput_ag {ad : Nat → Nat} {n q : Nat} (h : n < 100) : yag n ad (yput ad n q) := fun j hj => by
  unfold yput
  rw [if_neg (by omega)]
theorem yput_at (ad : Nat → Nat) (n q : Nat) : yput ad n q n = q := by simp [yput]
section YROWS2
variable {Y : YC} {M M' : ZM} {d d' n0 i pc len a nc ns : Nat} {F : YF} {lv lv' : List (Nat × Value)} {st st' rest : List Value} {es : List YE} {ins : Instr}
/-- behind an allocation: the new address is the new place's -/
theorem y_grow {x : YE} (hn0 : n0 ≤ es.length) (hlt : ylt es.length es lv st = true) (hx : ∀ ad ad' : Nat → Nat, yE ad' Y.2.2 x = yE ad Y.2.2 x) {ad0 ad : Nat → Nat} (hag : yag n0 ad0 ad) (q : Nat) :
    yag n0 ad0 (yput ad es.length q) ∧ yw (yput ad es.length q) Y.2.2 (es ++ [x]) = yw ad Y.2.2 es ++ [(q, yE ad Y.2.2 x)] ∧ zlv (yG Y (yput ad es.length q)) lv = zlv (yG Y ad) lv ∧ zst (yG Y (yput ad es.length q)) (.ref es.length :: st) = .ref q :: zst (yG Y ad) st := by
  obtain ⟨h1, h2, h3, h4⟩ := ylt_ok hlt
  have hg := yput_ag (ad := ad) (q := q) h4
  refine ⟨hag.tr hn0 hg, ?_, ylv_ag hg h2, ?_⟩
  · rw [yw_app, yw_ag hg (Nat.le_refl _) h1, yput_at, hx ad]
  · show zcv _ (.ref es.length) :: zst (yG Y (yput ad es.length q)) st = _
    rw [yst_ag hg h3]
    show Value.ref (yput ad es.length q es.length) :: _ = _
    rw [yput_at]
theorem y_ac {s : State} {args : Array Value} {c : ClassId} {ty : FieldType} (h1 : s.vm.findClass ("[" ++ ty.toString) = some c) (h2 : ArrOfT s c ty) : (Cond.arrayClass ty).before args s = true := by
  obtain ⟨-, kA, h3, comp, h4⟩ := h2 0 (fun _ => .null)
  have h3' : s.vm.classes[c]? = some kA := h3
  simp [Cond.before, Cond.holds, Cond.value, h1, h3', h4]
theorem y_newa (t : Nat) {atype : ArrayType} {ty : FieldType} {N : Nat} {n : Int32} (ht : (ztb M)[i]? = some (pc, .newarray atype, 2, a)) (hty : newarray.typeOf atype = ty) (htt : (t = 0 ∧ ty = .int) ∨ (t = 1 ∧ ty = .long) ∨ (t = 2 ∧ ty = .boolean)) (hn : ¬ n < 0) (hN : n.toNatClampNeg = N) (hNs : N ≤ 1000) (hn0 : n0 ≤ es.length) (hlt : ylt es.length es lv st = true) (hcells : nc + 1 ≤ F.2.2.2.2.1) (hslots : ns + N ≤ F.2.2.2.2.2)
    (h : YW Y M d n0 F (i + 1) lv (.ref es.length :: st) (es ++ [.inr (t, N, fun _ => 0)]) (nc + 1) (ns + N)) : YW Y M d n0 F i lv (.int n :: st) es nc ns := by
  intro hc p e R s m args below meth c A Qf ad0 cx ad H locs ls hag hP hD hS hl
  obtain ⟨g1, g2, g3, g4⟩ := zchk_at hc ht
  rw [g2]
  obtain ⟨c1, c2, c3, c4, c5, c6, c7, c8, c9, c10⟩ := id cx
  have fin : ∀ (x : YE) (a0 : vp_A), (∀ ad : Nat → Nat, yE ad Y.2.2 x = .inl (Y.2.2 t, a0)) → YW Y M d n0 F (i + 1) lv (.ref es.length :: st) (es ++ [x]) (nc + 1) (ns + N) → (∀ cA : ClassId, vp_cell cA a0 = arrV cA N (fun _ => defaultValue ty)) → N * componentBytes ty ≤ 536870912 → (ztys Y.2.2)[t]? = some (Y.2.2 t, ty) → (∀ cA : ClassId, va_RA s cA ty → s.vm.findClass ("[" ++ ty.toString) = some cA) → W p Y.1 e R s m args below meth c H locs nc ns Qf (F0 m pc ls (zst (yG Y ad) (.int n :: st))) := by
    intro x a0 hx h ha hbytes hct hRA
    refine va_newa (a0 := a0) (N' := N) c1 c2 (by rw [hty]; exact y_ac (hRA _ (c6.2 t _ hct).2) (c6.2 t _ hct).1) hty c6 hP hD hS c8 ha hn hN hbytes (Nat.le_trans hcells c9.2.2.1) (Nat.le_trans hslots c9.2.2.2) g1 (fun q cA H1 hK1 hP1 hD1 hS1 => ?_)
    have e1 : cA = Y.2.2 t := by
      have f1 := hRA _ (hK1.2 (ztys Y.2.2).length (cA, ty) (by simp)).2
      have f2 := hRA _ (c6.2 t _ hct).2
      exact Option.some.inj (f1.symm.trans f2)
    subst e1
    obtain ⟨k1, k2, k3, k4⟩ := y_grow (Y := Y) (x := x) (lv := lv) (st := st) hn0 hlt (fun ad ad' => by rw [hx, hx]) hag q
    rw [hx ad] at k2
    have kk := h hc p e R s m args below meth c A Qf ad0 cx (yput ad es.length q) H1 locs ls k1 (by rw [k2]; exact hP1) (by rw [k2]; exact hD1) hS1 (by rw [k3]; exact hl)
    rw [g3 rfl, k4] at kk
    exact kk
  rcases htt with ⟨rfl, rfl⟩ | ⟨rfl, rfl⟩ | ⟨rfl, rfl⟩
  · exact fin _ (N, .inl (fun _ => 0)) (fun _ => rfl) h (fun _ => rfl) (Nat.le_trans (Nat.mul_le_mul_right _ hNs) (by decide)) rfl (fun _ h => h)
  · exact fin _ (N, .inr (.inl (fun _ => 0))) (fun _ => rfl) h (fun _ => rfl) (Nat.le_trans (Nat.mul_le_mul_right _ hNs) (by decide)) rfl (fun _ h => h)
  · exact fin _ (N, .inl (fun _ => 0)) (fun _ => rfl) h (fun _ => rfl) (Nat.le_trans (Nat.mul_le_mul_right _ hNs) (by decide)) rfl (fun _ h => h)
def yblank (ci : Nat) : List Value := (List.range (zcls ci).2.2).map (fun j => defaultValue (zty ci j))
def yplain (fs : List Value) : Bool := fs.all (fun v => match v with | .ref _ => false | _ => true)
theorem yplain_cv {fs : List Value} (h : yplain fs = true) (ad : Nat → Nat) : fs.map (zcv ad) = fs := by
  have : ∀ v ∈ fs, zcv ad v = v := fun v hv => by
    have := List.all_eq_true.mp h v hv
    cases v <;> first | rfl | (cases this)
  rw [List.map_congr_left this, List.map_id']
theorem y_new {ci idx N : Nat} {fs : List Value} (ht : (ztb M)[i]? = some (pc, .new idx, 3, a)) (hci : ci < 12) (hfs : yblank ci = fs) (hpl : yplain fs = true) (hNn : (zcls ci).2.2 = N) (hw : Cond.classLink (zy M).cls idx (zcls ci).1 ∈ lw_tbl ∧ Cond.instantiable (zcls ci).1 N ∈ lw_tbl ∧ Cond.initialized (zcls ci).1 ∈ lw_tbl) (hn0 : n0 ≤ es.length) (hlt : ylt es.length es lv st = true) (hcells : nc + 1 ≤ F.2.2.2.2.1) (hslots : ns + N ≤ F.2.2.2.2.2)
    (h : YW Y M d n0 F (i + 1) lv (.ref es.length :: st) (es ++ [.inl (ci, fs)]) (nc + 1) (ns + N)) : YW Y M d n0 F i lv st es nc ns := by
  intro hc p e R s m args below meth c A Qf ad0 cx ad H locs ls hag hP hD hS hl
  obtain ⟨g1, g2, g3, g4⟩ := zchk_at hc ht
  rw [g2]
  obtain ⟨c1, c2, c3, c4, c5, c6, c7, c8, c9, c10⟩ := id cx
  subst hNn
  refine va_new (D := Y.2.1) (ci := ci) (fs := fs) (C := (zcls ci).1) (T := (zcls ci).2.1) (N := (zcls ci).2.2) c1 c2 (c5.cls hci) (fun _ h => h) (zty ci) (zcl_ty ci hci) c4 (c5.at hw.1 rfl) (c5.at hw.2.1 rfl) (c5.at hw.2.2 rfl) c6 hP hD hS c8 (zcl_at ci hci) (fun j hj => ?_) (Nat.le_trans hcells c9.2.2.1) (Nat.le_trans hslots c9.2.2.2) g1 (fun q H1 hP1 hD1 hS1 => ?_)
  · rw [← hfs]
    simp [vp_V, yblank, hj]
  obtain ⟨k1, k2, k3, k4⟩ := y_grow (Y := Y) (x := .inl (ci, fs)) (lv := lv) (st := st) hn0 hlt (fun ad ad' => by simp only [yE, yplain_cv hpl]) hag q
  have e2 : yE ad Y.2.2 (.inl (ci, fs)) = .inr (ci, fs) := by simp only [yE, yplain_cv hpl]
  rw [e2] at k2
  have kk := h hc p e R s m args below meth c A Qf ad0 cx (yput ad es.length q) H1 locs ls k1 (by rw [k2]; exact hP1) (by rw [k2]; exact hD1) hS1 (by rw [k3]; exact hl)
  rw [g3 rfl, k4] at kk
  exact kk
theorem y_objInit {idx x : Nat} (ht : (ztb M)[i]? = some (pc, .invokespecial idx, 3, a)) (hw : Cond.methodLink (zy M).cls idx objectInit ∈ lw_tbl) (hi : Cond.instanceMethod objectInit ∈ lw_tbl) (hcd : Cond.code objectInit ⟨#[0xb1]⟩ 1 none ∈ lw_tbl) (hd : 1 ≤ d) (hcat : (st.map fun v => v.category).sum ≤ 8) (h : YW Y M d n0 F (i + 1) lv st es nc ns) : YW Y M d n0 F i lv (.ref x :: st) es nc ns := by
  intro hc p e R s m args below meth c A Qf ad0 cx ad H locs ls hag hP hD hS hl
  obtain ⟨g1, g2, g3, g4⟩ := zchk_at hc ht
  rw [g2]
  obtain ⟨c1, c2, c3, c4, c5, c6, c7, c8, c9, c10⟩ := id cx
  refine W.objInit (g := F0 m pc ls (zst (yG Y ad) (.ref x :: st))) (a := ad x) (rest := zst (yG Y ad) st) c1 c2 c4 (c5.at hw rfl) (c5.at hi rfl) (c5.at hcd rfl) rfl (by rw [c3]; exact hl.1) rfl g1 (by omega) (by
    rw [zcat_eq]
    have : (F0 m pc ls (zst (yG Y ad) (.ref x :: st))).monitorRoom = 0 := rfl
    rw [this]
    omega) ?_
  have kk := h hc p e R s m args below meth c A Qf ad0 cx ad H locs ls hag hP hD hS hl
  rw [g3 rfl] at kk
  exact W.eq rfl kk
end YROWS2
def yA (ad : Nat → Nat) (n sz : Nat) : Nat → Prop := fun q => (∃ k, k < n ∧ q = ad k) ∨ sz ≤ q
def yEnt (Y : YC) (ad : Nat → Nat) (es : List YE) (sz : Nat) (U : State) : Prop := U.heap.size = sz ∧ va_P Y.2.1 zcl (yw ad Y.2.2 es) U.heap ∧ va_K Y.2.1 zcl (ztys Y.2.2) U ∧ va_D (fun _ => True) (yw ad Y.2.2 es) ∧ zAW U
def yroom (d mc ms : Nat) : Room := { frames := d, cells := mc, slots := ms, locals := 64 * d }
def yQ (Y : YC) (ad : Nat → Nat) (n sz : Nat) (es' : List YE) : Array Value → State → Outcome → State → Prop := va_Qv (fun ad' : Nat → Nat => yag n ad ad') (fun ad' t => va_P Y.2.1 zcl (yw ad' Y.2.2 es') t.heap ∧ va_D (yA ad n sz) (yw ad' Y.2.2 es')) (yA ad n sz)
def YSpec (Y : YC) (M : ZM) (d mc ms : Nat) (as : List Value) (es es' : List YE) : Prop :=
  ∀ (ad : Nat → Nat) (sz : Nat), Met Y.1 (zy M) [Cond.code (zy M) (zcc M) (znL M) (zrt M)] (yroom d mc ms) (va_Pc (zst (yG Y ad) as) (yEnt Y ad es sz)) (yQ Y ad es.length sz es') mc ms (yA ad es.length sz)
theorem yA_D {ad : Nat → Nat} {ca : Nat → ClassId} {es : List YE} {B : Nat → Prop} {sz : Nat} (hD : va_D B (yw ad ca es)) : va_D (yA ad es.length sz) (yw ad ca es) := hD.weaken fun k q hk _ => by
  rw [yw_at] at hk
  cases he : es[k]? with
  | none => rw [he] at hk; cases hk
  | some x =>
    rw [he] at hk
    cases hk
    exact Or.inl ⟨k, (List.getElem?_eq_some_iff.mp he).1, rfl⟩
theorem yA_in {A : Nat → Prop} {ad : Nat → Nat} {ca : Nat → ClassId} {es : List YE} {H0 H : Heap} {locs : List Loc} (hD : va_D A (yw ad ca es)) (hS : va_S A H0 H locs) (hA : ∀ q, H0.size ≤ q → A q) : ∀ q, yA ad es.length H.size q → A q := by
  intro q h
  rcases h with ⟨k, hk, rfl⟩ | h
  · exact hD.2 k (ad k, yE ad ca es[k]) (by rw [yw_at, List.getElem?_eq_getElem hk]; rfl)
  · exact hA q (Nat.le_trans hS.1 h)
theorem yEnt.blind {Y : YC} {ad : Nat → Nat} {es : List YE} {sz : Nat} {as : List Value} : FrameBlind (va_Pc as (yEnt Y ad es sz)) := by
  intro a U g mk h
  obtain ⟨h0, h1, h2, h3, h4, h5⟩ := h
  exact ⟨h0, h1, h2, va_K.moved (u := U) (U := U.calling g mk a) (Vm.Alike.refl U.vm) h3, h4, zAW.same (u := U) (U := U.calling g mk a) rfl h5⟩
set_option maxHeartbeats 1000000 in
theorem YSpec.of {Y : YC} {M : ZM} {d mc ms iF pcF aF : Nat} {as : List Value} {es es' : List YE} (hc : zchk M = true) (hret : zrt M = none) (hn : (lg_sl as).length ≤ znL M) (hF : (ztb M)[iF]? = some (pcF, .return_, 1, aF)) (h : YW Y M d es.length (iF, [], [], es', mc, ms) 0 (lv_args 0 as) [] es 0 0) : YSpec Y M d mc ms as es es' := by
  intro ad sz
  have hc' := hc
  simp only [zchk, Bool.and_eq_true, beq_iff_eq] at hc'
  obtain ⟨⟨⟨-, hpc0⟩, hpl⟩, -⟩ := hc'
  refine Met.ofW (cc := zcc M) (maxL := znL M) (ret := zrt M) hpl rfl ?_
  intro p e s m args below meth c s₁ B hml hv
  obtain ⟨rfl, hsz, hP, hK, hD0, hAW⟩ := hv
  subst hsz
  have hx := B.exec
  have hb := B.bytes
  have hr := B.returns
  rw [hret] at hr
  have hown : s.vm.findClass (zy M).cls = some m.cls := findClass_of_methodNamed B.named
  have hlocks := B.notSynchronized
  have hin : meth.name = (zy M).name := (name_of_methodNamed B.named B.method).1
  have hD : va_D (yA ad es.length s.heap.size) (yw ad Y.2.2 es) := yA_D hD0
  have hA : ∀ q : Nat, s.heap.size ≤ q → yA ad es.length s.heap.size q := fun q h => Or.inr h
  have hS : va_S (yA ad es.length s.heap.size) s.heap s.heap [] := va_S.rf
  have hl := lv_entry (zst (yG Y ad) as) (n := znL M) (by rw [lg_sl_cv]; exact hn)
  rw [lg_entry_eq]
  generalize (lg_sl (zst (yG Y ad) as) ++ List.replicate (znL M - (lg_sl (zst (yG Y ad) as)).length) Slot.unset).toArray = ls at hl ⊢
  rw [lv_args_cv] at hl
  obtain ⟨g1, g2, g3, g4⟩ := zchk_at hc hF
  have key := h hc p e (yroom d mc ms) s m (zst (yG Y ad) as).toArray below meth c (yA ad es.length s.heap.size) (MQ below (yQ Y ad es.length s.heap.size es') (zst (yG Y ad) as).toArray s mc ms (yA ad es.length s.heap.size)) ad ⟨hx, hb, hml, hown, hAW, hK, fun h => hin.trans h, hA, ⟨Nat.le_refl _, Nat.le_refl _, Nat.le_refl _, Nat.le_refl _⟩, fun ad' H locs ls hag hP hD hS hl => by
    show W p Y.1 e (yroom d mc ms) s m _ below meth c H locs mc ms _ (F0 m (zpc M iF) ls [])
    rw [g2]
    exact W.vret hx hb hr (fun t ht hW => ⟨⟨ad', rfl, hag, by rw [ht]; exact hP, hD⟩, hS.F ht⟩) hS.2.2 g1⟩ ad s.heap [] ls (yag.rf _ _) hP hD hS hl
  rw [hpc0] at key
  exact key
