/-! a method's contract over numbers, and calls -/
def zroom (d : Nat) : Room := { frames := d, cells := 0, slots := 0, locals := 64 * d }
def zEnt (G : ZG) (u : ZSt) (sz : Nat) (U : State) : Prop := U.heap.size = sz ∧ va_P (zgD G) zcl (zwg G u) U.heap ∧ va_K (zgD G) zcl (ztys (zgc G)) U ∧ va_D (fun _ => True) (zwg G u) ∧ zAW U ∧ zSt G (zA G sz) U U.heap
def zQ (G : ZG) (ret : Option FieldType) (tgt : Value × ZSt) (sz : Nat) : Array Value → State → Outcome → State → Prop := match ret with
  | none => va_Qv (fun u' : ZSt => tgt = (.null, u')) (fun u' t => va_P (zgD G) zcl (zwg G u') t.heap) (zA G sz)
  | some .long => va_Ql (fun (r : Int64) (u' : ZSt) => tgt = (.long r, u')) (fun u' t => va_P (zgD G) zcl (zwg G u') t.heap) (zA G sz)
  | some ty => va_Qi (fun (r : Int32) (u' : ZSt) => tgt = (.int r, u') ∧ (ty = .boolean → r = 0 ∨ r = 1)) (fun u' t => va_P (zgD G) zcl (zwg G u') t.heap) (zA G sz)
def ZSpec (G : ZG) (M : ZM) (d : Nat) (as : List Value) (u : ZSt) (tgt : Value × ZSt) : Prop :=
  ∀ sz : Nat, Met (zgl G) (zy M) [Cond.code (zy M) (zcc M) (znL M) (zrt M)] (zroom d) (va_Pc (zst G as) (zEnt G u sz)) (zQ G (zrt M) tgt sz) 0 0 (zA G sz)
theorem lg_sl_cv (G : ZG) (as : List Value) : (lg_sl (zst G as)).length = (lg_sl as).length := by
  induction as with
  | nil => rfl
  | cons v vs ih =>
    simp only [lg_sl, zst, List.map_cons, List.flatMap_cons, List.length_append, zcv_cat] at ih ⊢
    rw [ih]
    split <;> rfl
theorem lv_args_cv (G : ZG) : ∀ (as : List Value) (i : Nat), lv_args i (zst G as) = zlv G (lv_args i as)
  | [], _ => rfl
  | v :: vs, i => by
    simp only [zst, List.map_cons, lv_args, zcv_cat, zlv]
    rw [show List.map (zcv (zga G)) vs = zst G vs from rfl, lv_args_cv G vs]
    rfl
theorem zroom_eq (ws : List Cond) (d : Nat) : (headSpec ws (zroom d)).room = zroom d := rfl
set_option maxHeartbeats 1000000 in
theorem ZSpec.of {G : ZG} {M : ZM} {d : Nat} {as : List Value} {u : ZSt} {tgt : Value × ZSt} (hc : zchk M = true) (hn : (lg_sl as).length ≤ znL M) (h : ZW G M d tgt 0 (lv_args 0 as) [] u) : ZSpec G M d as u tgt := by
  intro sz
  have hc' := hc
  simp only [zchk, Bool.and_eq_true, beq_iff_eq] at hc'
  obtain ⟨⟨⟨-, hpc0⟩, hpl⟩, -⟩ := hc'
  refine Met.ofW (cc := zcc M) (maxL := znL M) (ret := zrt M) hpl rfl ?_
  intro p e s m args below meth c s₁ B hml hv
  obtain ⟨rfl, hsz, hP, hK, hD0, hAW, hSt⟩ := hv
  subst hsz
  have hx := B.exec
  have hb := B.bytes
  have hr := B.returns
  have hown : s.vm.findClass (zy M).cls = some m.cls := findClass_of_methodNamed B.named
  have hlocks := B.notSynchronized
  have hD : va_D (zA G s.heap.size) (zwg G u) := zA_D hD0
  have hA : ∀ q : Nat, s.heap.size ≤ q → zA G s.heap.size q := fun q h => Or.inr h
  have hS : va_S (zA G s.heap.size) s.heap s.heap [] := va_S.rf
  have hl := lv_entry (zst G as) (n := znL M) (by rw [lg_sl_cv]; exact hn)
  rw [lg_entry_eq]
  generalize (lg_sl (zst G as) ++ List.replicate (znL M - (lg_sl (zst G as)).length) Slot.unset).toArray = ls at hl ⊢
  rw [lv_args_cv] at hl
  have hex : ∀ (pc : Nat) (H : Heap) (locs : List Loc) (ls : Array Slot), zretAt M pc tgt.1 → va_P (zgD G) zcl (zwg G tgt.2) H → va_D (zA G s.heap.size) (zwg G tgt.2) → va_S (zA G s.heap.size) s.heap H locs → W p (zgl G) e (zroom d) s m (zst G as).toArray below meth c H locs 0 0 (MQ below (zQ G (zrt M) tgt s.heap.size) (zst G as).toArray s 0 0 (zA G s.heap.size)) (F0 m pc ls (zrst tgt.1)) := by
    intro pc H locs ls hra hP hD hS
    obtain ⟨v, u'⟩ := tgt
    cases v with
    | int r =>
      obtain ⟨hdg, hre⟩ := hra
      rcases hre with hre | ⟨hre, h01⟩
      · rw [hre] at hr ⊢
        exact W.iret (v := r) hx hb hr (fun t ht hW => ⟨⟨r, u', rfl, ⟨rfl, fun h => by cases h⟩, by show va_P _ _ _ t.heap; rw [ht]; exact hP⟩, hS.F ht⟩) hS.2.2 hdg
      · rw [hre] at hr ⊢
        exact W.zret (v := r) hx hb hr (by rcases h01 with rfl | rfl <;> rfl) (fun t ht hW => ⟨⟨r, u', rfl, ⟨rfl, fun _ => h01⟩, by show va_P _ _ _ t.heap; rw [ht]; exact hP⟩, hS.F ht⟩) hS.2.2 hdg
    | long r =>
      obtain ⟨hdg, hre⟩ := hra
      rw [hre] at hr ⊢
      exact W.lret (v := r) hx hb hr (fun t ht hW => ⟨⟨r, u', rfl, rfl, by show va_P _ _ _ t.heap; rw [ht]; exact hP⟩, hS.F ht⟩) hS.2.2 hdg
    | null =>
      obtain ⟨hdg, hre⟩ := hra
      rw [hre] at hr ⊢
      exact W.vret hx hb hr (fun t ht hW => ⟨⟨u', rfl, rfl, by show va_P _ _ _ t.heap; rw [ht]; exact hP⟩, hS.F ht⟩) hS.2.2 hdg
    | _ => exact absurd hra (fun h => h)
  have key := h hc p e (zroom d) s m (zst G as).toArray below meth c (zA G s.heap.size) 0 0 (MQ below (zQ G (zrt M) tgt s.heap.size) (zst G as).toArray s 0 0 (zA G s.heap.size)) ⟨hx, hb, hml, hown, hAW, hK, hSt, hA, ⟨Nat.le_refl _, Nat.le_refl _, Nat.zero_le _, Nat.zero_le _⟩, hex⟩ s.heap [] ls hP hD hS hl
  rw [hpc0] at key
  exact key
theorem ZSpec.go {G : ZG} {M : ZM} {d : Nat} {as : List Value} {u : ZSt} {β : Type} {t : Option β} {K : β → Option (Value × ZSt)} (hc : zchk M = true) (hn : (lg_sl as).length ≤ znL M) (h : ZGo G M d t K 0 (lv_args 0 as) [] u) {tgt : Value × ZSt} (ht : t.bind K = some tgt) : ZSpec G M d as u tgt := ZSpec.of hc hn (h tgt ht)
def zbo (ret : Option FieldType) (v : Value) : Prop := ret = some .boolean → v = .int 0 ∨ v = .int 1
section ZCALL
variable {p : Program} {e : Env} {R : Room} {s : State} {m : MethodId} {args : Array Value} {below : List Frame} {meth : Method} {c : Code} {H : Heap} {locs : List Loc} {cells slots : Nat} {Qf : State → Prop} {A : Nat → Prop} {G : ZG} {pc : Nat} {ls : Array Slot} {st0 rest : List Value} {a : Array Value}
theorem z_ret (ret : Option FieldType) {tgt : Value × ZSt} (hr : va_Run p (zgl G) e R s m args below meth c H locs cells slots 0 0 (F0 m pc ls st0) rest (zQ G ret tgt H.size a) (zA G H.size)) (hS : va_S A s.heap H locs) (hsub : ∀ q, zA G H.size q → A q)
    (kk : ∀ (H1 : Heap) (locs1 : List Loc), zbo ret tgt.1 → va_P (zgD G) zcl (zwg G tgt.2) H1 → va_S A s.heap H1 locs1 → W p (zgl G) e R s m args below meth c H1 locs1 cells slots Qf (F0 m (pc + 3) ls (zrst tgt.1 ++ rest))) : W p (zgl G) e R s m args below meth c H locs cells slots Qf (F0 m pc ls st0) := by
  match ret, hr, kk with
  | none, hr, kk =>
    refine va_callv (a := a) hr hS (fun q _ h => hsub q h) hsub (fun u t H1 locs1 ht hvm hp hB hz hk hS1 => ?_)
    have h := kk H1 locs1 (fun h => by cases h) (by rw [hp]; have hB : va_P _ _ _ t.heap := hB; rw [ht] at hB; exact hB) hS1
    rw [hp] at h
    exact h
  | some .long, hr, kk =>
    refine va_calll (a := a) hr hS (fun q _ h => hsub q h) hsub (fun r u t H1 locs1 ht hvm hp hB hz hk hS1 => ?_)
    have h := kk H1 locs1 (fun h => by cases h) (by rw [hp]; have hB : va_P _ _ _ t.heap := hB; rw [ht] at hB; exact hB) hS1
    rw [hp] at h
    exact h
  | some .boolean, hr, kk =>
    refine va_calli (a := a) hr hS (fun q _ h => hsub q h) hsub (fun r u t H1 locs1 ht hvm hp hB hz hk hS1 => ?_)
    have h := kk H1 locs1 (fun _ => by rw [hp.1]; rcases hp.2 rfl with h | h <;> rw [h] <;> simp) (by rw [hp.1]; have hB : va_P _ _ _ t.heap := hB; rw [ht] at hB; exact hB) hS1
    rw [hp.1] at h
    exact h
  | some .int, hr, kk | some .byte, hr, kk | some .char, hr, kk | some .short, hr, kk | some .float, hr, kk | some .double, hr, kk | some (.object _), hr, kk | some (.array _), hr, kk =>
    refine va_calli (a := a) hr hS (fun q _ h => hsub q h) hsub (fun r u t H1 locs1 ht hvm hp hB hz hk hS1 => ?_)
    have h := kk H1 locs1 (fun h => by cases h) (by rw [hp.1]; have hB : va_P _ _ _ t.heap := hB; rw [ht] at hB; exact hB) hS1
    rw [hp.1] at h
    exact h
end ZCALL
theorem zEnt.blind {G : ZG} {u : ZSt} {sz : Nat} {as : List Value} : FrameBlind (va_Pc as (zEnt G u sz)) := by
  intro a U g mk h
  obtain ⟨h0, h1, h2, h3, h4, h5, h6⟩ := h
  exact ⟨h0, h1, h2, va_K.moved (u := U) (U := U.calling g mk a) (Vm.Alike.refl U.vm) h3, h4, zAW.same (u := U) (U := U.calling g mk a) rfl h5, zSt.go (A := zA G sz) (s := U) (U := U.calling g mk a) (locs := []) h6 (Vm.Alike.refl U.vm) va_S.rf (fun _ h => h)⟩
def zCW (M : ZM) (n : Nat) : Prop := Cond.code (zy M) (zcc M) (znL M) (zrt M) ∈ lw_tbl ∧ Cond.initialized (zy M).cls ∈ lw_tbl ∧ ((zy M).cls ≠ "java/lang/invoke/MethodHandle" ∧ (zy M).cls ≠ "java/lang/invoke/VarHandle") ∧ (parseMethodDescriptor (zy M).desc).map (fun d => d.parameters.length) = some n ∧ znL M ≤ 45
def zCV (M : ZM) (n : Nat) : Prop := zCW M n ∧ Cond.instanceMethod (zy M) ∈ lw_tbl ∧ Cond.selects (zy M).cls (zy M) (zy M) ∈ lw_tbl
def zCS (M : ZM) (n : Nat) : Prop := zCW M n ∧ Cond.static (zy M) ∈ lw_tbl
section ZCALL2
variable {p : Program} {e : Env} {R : Room} {s : State} {m : MethodId} {args : Array Value} {below : List Frame} {meth : Method} {c : Code} {H : Heap} {locs : List Loc} {cells slots : Nat} {Qf : State → Prop} {A : Nat → Prop} {G : ZG} {M M' : ZM} {d d' n idx : Nat} {tgt : Value × ZSt} {u : ZSt}
theorem z_callB (cx : zCx G M d tgt p e R s m args below meth c A cells slots Qf) (hw : zCW M' n) (hl : Cond.methodLink (zy M).cls idx (zy M') ∈ lw_tbl) (hd : d' + 1 ≤ d) : CallB R s args (zy M).cls idx (zy M') (zcc M') (znL M') (zrt M') [Cond.code (zy M') (zcc M') (znL M') (zrt M')] (zroom d') 0 0 n := by
  obtain ⟨c1, c2, c3, c4, c5, c6, c7, c8, ⟨r1, r2, r3, r4⟩, c10⟩ := cx
  obtain ⟨w1, w2, w3, w4, w5⟩ := hw
  refine ⟨rfl, rfl, ?_, ?_, ?_, List.mem_cons_self, c5.at w1 rfl, c5.at w2 rfl, w3, ?_, c5.at hl rfl⟩
  · show d' + 1 ≤ R.frames
    omega
  · show 8 + (znL M' + 11) + 64 * d' ≤ R.locals
    omega
  · intro w hw a' U hW
    have hw' : w = Cond.code (zy M') (zcc M') (znL M') (zrt M') := by simpa using hw
    subst hw'
    exact word_at hW (Or.inl rfl) (c5.at w1 rfl (A := #[]))
  · intro sig h
    rw [h] at w4
    exact (Option.some.inj w4).symm
theorem zEnt.at (cx : zCx G M d tgt p e R s m args below meth c A cells slots Qf) (hP : va_P (zgD G) zcl (zwg G u) H) (hD : va_D A (zwg G u)) (hS : va_S A s.heap H locs) {U : State} (hU : U.heap = H) (hW : s.WarmedH U.vm) : zEnt G u H.size U := by
  obtain ⟨c1, c2, c3, c4, c5, c6, c7, c8, c9, c10⟩ := cx
  subst hU
  exact ⟨rfl, hP, va_K.moved hW.alike c6, hD.weaken (fun _ _ _ _ => trivial), c5.warm hW, c7.go hW.alike hS (zA_in hD hS c8)⟩
end ZCALL2
section ZCALL3
variable {G : ZG} {M M' : ZM} {d d' i pc n a idx o ci : Nat} {lv : List (Nat × Value)} {as rest st : List Value} {u : ZSt} {β γ : Type} {tc : Option γ} {f : γ → Option β} {K : β → Option (Value × ZSt)}
theorem zst_split (G : ZG) (as rest : List Value) (v : Value) : zst G (as.reverse ++ v :: rest) = (zst G as).reverse ++ zcv (zga G) v :: zst G rest := by simp [zst]
theorem zst_splitS (G : ZG) (as rest : List Value) : zst G (as.reverse ++ rest) = (zst G as).reverse ++ zst G rest := by simp [zst]
theorem zcat_eq (G : ZG) (l : List Value) : ((zst G l).map fun v => v.category).sum = (l.map fun v => v.category).sum := by
  simp only [zst, List.map_map]
  congr 2
  funext v
  exact zcv_cat _ v
theorem zst_app (G : ZG) {v : Value} (h : ∀ x, v ≠ .ref x) (rest : List Value) : zst G (zrst v ++ rest) = zrst v ++ zst G rest := by
  cases v <;> simp [zst, zrst, zcv]
  exact absurd rfl (h _)
theorem g_callV (em : γ → Value × ZSt) (hem : ∀ x y, (em x).1 ≠ .ref y) (ht : (ztb M)[i]? = some (pc, .invokevirtual idx, 3, a)) (hl : Cond.methodLink (zy M).cls idx (zy M') ∈ lw_tbl) (hw : zCV M' n) (hd : d' + 1 ≤ d) {fs : List (Option Nat)} (ho : zsch[o]? = some (.inl (ci, fs))) (hci : ci < 12) (hC : (zcls ci).1 = (zy M').cls) (hst : st = as.reverse ++ .ref o :: rest) (hn : as.length = n) (hcat : (rest.map fun v => v.category).sum ≤ 8)
    (hs : ∀ x, tc = some x → ZSpec G M' d' (.ref o :: as) u (em x)) (hk : ∀ x, tc = some x → zbo (zrt M') (em x).1 → ZGo G M d (f x) K (i + 1) lv (zrst (em x).1 ++ rest) (em x).2) : ZGo G M d (tc.bind f) K i lv st u := by
  intro tgt htg hc p e R s m args below meth c A cells slots Qf cx H locs ls hP hD hS hlv
  cases htc : tc with
  | none => rw [htc] at htg; cases htg
  | some x =>
    rw [htc, Option.bind_some] at htg
    obtain ⟨g1, g2, g3, g4⟩ := zchk_at hc ht
    obtain ⟨c1, c2, c3, c4, c5, c6, c7, c8, c9, c10⟩ := id cx
    rw [g2]
    have hrun := va_runV (e := e) (R := R) (below := below) (meth := meth) (Ts := []) (As := zst G as) (rest := zst G rest) (g := F0 m pc ls (zst G st)) (b := zga G o) (C := (zy M').cls) (cells := cells) (slots := slots) (n := n) (nL := znL M) (locs := locs) ⟨c1, c2, c3, c4, fun w h => by cases h⟩ (hs x htc H.size) ⟨z_callB cx hw.1 hl hd, c5.at hw.2.1 rfl, c5.at hw.2.2 rfl⟩ ⟨zEnt.blind, by
        have := va_recv c6 hP (zcl_at ci hci) (zw_obj (ad := zga G) (ca := zgc G) (u := u) ho)
        rw [hC] at this
        exact this, fun U hU hW => ⟨rfl, zEnt.at cx hP hD hS hU hW⟩⟩ rfl (by rw [← hn]; simp [zst]) hlv.1 (by rw [hst]; exact zst_split G as rest (.ref o)) (lv_room (by rw [zcat_eq]; exact hcat)) g1 ⟨c9.2.2.1, c9.2.2.2⟩
    refine z_ret (zrt M') hrun hS (zA_in hD hS c8) (fun H1 locs1 hbo hP1 hS1 => ?_)
    have key := hk x htc hbo tgt htg hc p e R s m args below meth c A cells slots Qf cx H1 locs1 ls hP1 (zw_D hD) hS1 hlv
    rw [g3 rfl, zst_app G (hem x)] at key
    exact key
theorem g_callS (em : γ → Value × ZSt) (hem : ∀ x y, (em x).1 ≠ .ref y) (ht : (ztb M)[i]? = some (pc, .invokestatic idx, 3, a)) (hl : Cond.methodLink (zy M).cls idx (zy M') ∈ lw_tbl) (hw : zCS M' n) (hd : d' + 1 ≤ d) (hst : st = as.reverse ++ rest) (hn : as.length = n) (hcat : (rest.map fun v => v.category).sum ≤ 8)
    (hs : ∀ x, tc = some x → ZSpec G M' d' as u (em x)) (hk : ∀ x, tc = some x → zbo (zrt M') (em x).1 → ZGo G M d (f x) K (i + 1) lv (zrst (em x).1 ++ rest) (em x).2) : ZGo G M d (tc.bind f) K i lv st u := by
  intro tgt htg hc p e R s m args below meth c A cells slots Qf cx H locs ls hP hD hS hlv
  cases htc : tc with
  | none => rw [htc] at htg; cases htg
  | some x =>
    rw [htc, Option.bind_some] at htg
    obtain ⟨g1, g2, g3, g4⟩ := zchk_at hc ht
    obtain ⟨c1, c2, c3, c4, c5, c6, c7, c8, c9, c10⟩ := id cx
    rw [g2]
    have hrun := va_runS (e := e) (R := R) (below := below) (meth := meth) (Ts := []) (As := zst G as) (rest := zst G rest) (g := F0 m pc ls (zst G st)) (cells := cells) (slots := slots) (n := n) (nL := znL M) (locs := locs) ⟨c1, c2, c3, c4, fun w h => by cases h⟩ (hs x htc H.size) ⟨z_callB cx hw.1 hl hd, c5.at hw.2 rfl⟩ ⟨zEnt.blind, fun U hU hW => ⟨rfl, zEnt.at cx hP hD hS hU hW⟩⟩ rfl (by rw [← hn]; simp [zst]) hlv.1 (by rw [hst]; exact zst_splitS G as rest) (lv_room (by rw [zcat_eq]; exact hcat)) g1 ⟨c9.2.2.1, c9.2.2.2⟩
    refine z_ret (zrt M') hrun hS (zA_in hD hS c8) (fun H1 locs1 hbo hP1 hS1 => ?_)
    have key := hk x htc hbo tgt htg hc p e R s m args below meth c A cells slots Qf cx H1 locs1 ls hP1 (zw_D hD) hS1 hlv
    rw [g3 rfl, zst_app G (hem x)] at key
    exact key
end ZCALL3
/-! what a call's answer is, by kinds: numbers with the state, numbers alone, the state alone -/
abbrev zemI : Int32 × ZSt → Value × ZSt := fun x => (.int x.1, x.2)
abbrev zemP (u : ZSt) : Int32 → Value × ZSt := fun x => (.int x, u)
abbrev zemV : ZSt → Value × ZSt := fun x => (.null, x)
abbrev zemL (u : ZSt) : Int64 → Value × ZSt := fun x => (.long x, u)
theorem zemI_r : ∀ x y, (zemI x).1 ≠ .ref y := fun _ _ h => by cases h
theorem zemP_r (u : ZSt) : ∀ x y, (zemP u x).1 ≠ .ref y := fun _ _ h => by cases h
theorem zemV_r : ∀ x y, (zemV x).1 ≠ .ref y := fun _ _ h => by cases h
theorem zemL_r (u : ZSt) : ∀ x y, (zemL u x).1 ≠ .ref y := fun _ _ h => by cases h
theorem zbo_i {r : Int32} (h : zbo (some .boolean) (.int r)) : r = 0 ∨ r = 1 := by
  rcases h rfl with h | h <;> cases h <;> simp
abbrev zkI : Int32 × ZSt → Option (Value × ZSt) := fun x => some (zemI x)
abbrev zkP (u : ZSt) : Int32 → Option (Value × ZSt) := fun x => some (zemP u x)
abbrev zkV : ZSt → Option (Value × ZSt) := fun x => some (zemV x)
abbrev zkL (u : ZSt) : Int64 → Option (Value × ZSt) := fun x => some (zemL u x)
/-! loops: a body answers .inl (round again), .inr (.inl (out)), .inr (.inr (the method's end)) -/
def ziter {σ ρ : Type} (B : σ → Option (σ ⊕ ρ)) : Nat → σ → Option ρ
  | 0, _ => none
  | n + 1, s => (B s).bind fun x => match x with
    | .inl s' => ziter B n s'
    | .inr r => some r
def zik {σ ρ α : Type} (B : σ → Option (σ ⊕ ρ)) (n : Nat) (rest : ρ → Option α) : σ ⊕ ρ → Option α
  | .inl s' => (ziter B n s').bind rest
  | .inr r => rest r
theorem ziter_bind {σ ρ α : Type} (B : σ → Option (σ ⊕ ρ)) (n : Nat) (s : σ) (rest : ρ → Option α) : (ziter B (n + 1) s).bind rest = (B s).bind (zik B n rest) := by
  show ((B s).bind _).bind rest = _
  cases B s with
  | none => rfl
  | some x => cases x <;> rfl
/-- a loop at its head: the body's own walk, for whatever its leaves are made into -/
theorem zgo_loop {G : ZG} {M : ZM} {d i : Nat} {σ ρ β : Type} {B : σ → Option (σ ⊕ ρ)} {lvf : σ → List (Nat × Value)} {uf : σ → ZSt} {rest : ρ → Option β} {K : β → Option (Value × ZSt)}
    (hbody : ∀ (s : σ) (K' : σ ⊕ ρ → Option (Value × ZSt)), (∀ s', ZGo G M d (K' (.inl s')) some i (lvf s') [] (uf s')) → (∀ r, K' (.inr r) = (rest r).bind K) → ZGo G M d (B s) K' i (lvf s) [] (uf s)) :
    ∀ (n : Nat) (s : σ), ZGo G M d ((ziter B n s).bind rest) K i (lvf s) [] (uf s)
  | 0, s => zgo_none
  | n + 1, s => by
    have h := hbody s (fun x => (zik B n rest x).bind K) (fun s' => by
      have ih := zgo_loop hbody n s'
      exact zgo_unleaf ih) (fun r => rfl)
    intro tgt htg
    rw [ziter_bind] at htg
    refine h tgt ?_
    rw [← htg]
    cases B s with
    | none => rfl
    | some x => rfl
/-- Integer.bitCount, System.arraycopy -/
def zfuel : Nat := 1048576
