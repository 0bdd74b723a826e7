/-! from the law's entry: the constructors, then the law over numbers -/
theorem yz_inst : ∀ ci, ci < 12 → Cond.instantiable (zcls ci).1 (zcls ci).2.2 ∈ lw_tbl := by decide +kernel
theorem yz_D {s : State} (h : zAW s) : ∃ D : va_G, ∀ (ci : Nat) (q : vw_C), zcl[ci]? = some q → u_Kn s q.1 q.2.1 q.2.2 (D.1 ci) (D.2 ci) := by
  have key : ∀ ci : Nat, ∃ x : ClassId × (Nat → Nat), ci < 12 → u_Kn s (zcls ci).1 (zcls ci).2.1 (zcls ci).2.2 x.1 x.2 := by
    intro ci
    by_cases hc : ci < 12
    · obtain ⟨cC, iS, hk⟩ := u_known (args := #[]) (h.cls hc) (fun _ h => h) (h.at (yz_inst ci hc) rfl)
      exact ⟨(cC, iS), fun _ => hk⟩
    · exact ⟨(0, fun _ => 0), fun h => absurd h hc⟩
  refine ⟨(fun ci => (Classical.choose (key ci)).1, fun ci => (Classical.choose (key ci)).2), fun ci q hq => ?_⟩
  have hl : ci < 12 := (List.getElem?_eq_some_iff.mp hq).1
  have e := zcl_at ci hl
  rw [hq] at e
  cases e
  exact Classical.choose_spec (key ci) hl
theorem yz_arr {s : State} {args : Array Value} {ty : FieldType} (h : (Cond.arrayClass ty).before args s = true) : ∃ c : ClassId, s.vm.findClass ("[" ++ ty.toString) = some c ∧ ArrOfT s c ty := by
  obtain ⟨c, k, comp, h1, h2, h3⟩ := Cond.arrayClass_spec h
  exact ⟨c, h1, fun n z => ⟨fun q w => (by cases w), k, h2, comp, h3⟩⟩
theorem yz_ca {s : State} {args : Array Value} (h0 : (Cond.arrayClass .int).before args s = true) (h1 : (Cond.arrayClass .long).before args s = true) (h2 : (Cond.arrayClass .boolean).before args s = true) : ∃ ca : Nat → ClassId, ∀ (k : Nat) (q : ClassId × FieldType), (ztys ca)[k]? = some q → ArrOfT s q.1 q.2 ∧ va_RA s q.1 q.2 := by
  obtain ⟨c0, a0, b0⟩ := yz_arr h0
  obtain ⟨c1, a1, b1⟩ := yz_arr h1
  obtain ⟨c2, a2, b2⟩ := yz_arr h2
  refine ⟨fun k => match k with | 0 => c0 | 1 => c1 | _ => c2, fun k q hq => ?_⟩
  match k with
  | 0 => cases hq; exact ⟨b0, a0⟩
  | 1 => cases hq; exact ⟨b1, a1⟩
  | 2 => cases hq; exact ⟨b2, a2⟩
  | n + 3 => cases hq
set_option maxHeartbeats 4000000 in
theorem yz_run {l : Launch} {D : va_G} {ca : Nat → ClassId} {ad0 : Nat → Nat} {L : Nat} {xs : Nat → Int32} {p : Program} {e : Env} {R : Room} {s : State} {m : MethodId} {args : Array Value} {below : List Frame} {meth : Method} {c : Code} {Qf : State → Prop} {ls0 : Array Slot}
    (hL : L ≤ 3072) (hx : p.tables.exec = Jvm.exec) (hb : c.code = code) (hml : c.maxLocals = 4) (hown : s.vm.findClass RL = some m.cls) (hAW : zAW s) (hK : va_K D zcl (ztys ca) s) (hSt : zSt (l, D, ad0, ca, L, xs) (fun q => s.heap.size ≤ q) s s.heap) (hR : 407 ≤ R.frames ∧ 64 * 407 ≤ R.locals ∧ 62 ≤ R.cells ∧ 3349 ≤ R.slots) (hl : lv_has ls0 4 [(0, .ref (ad0 102))])
    (hex : ∀ (pc : Nat) (H : Heap) (locs : List Loc) (ls : Array Slot), decode code pc = .ok (.ireturn, 1) → va_S (fun q => s.heap.size ≤ q) s.heap H locs → W p l e R s m args below meth c H locs 62 3349 Qf (F0 m pc ls [.int 1])) : W p l e R s m args below meth c s.heap [] 0 0 Qf (F0 m 0 ls0 []) := by
  have hz := yw_law (l, D, ca) k_L_law p e R s m args below meth c (fun q => s.heap.size ≤ q) Qf ad0
  refine hz ⟨hx, hb, hml, hown, hAW, hK, fun h => absurd h (by decide), fun q h => h, hR, fun ad H locs ls hag hP hD hS hl => ?_⟩ ad0 s.heap [] ls0 (yag.rf 0 ad0) (fun k q h => by simp [yw] at h) ⟨fun i j p q h => by simp [yw] at h, fun k q h => by simp [yw] at h⟩ va_S.rf hl
  have e100 : zga (l, D, ad, ca, L, xs) 100 = zga (l, D, ad0, ca, L, xs) 100 := hag 100 (Or.inr (Nat.le_refl _))
  have e101 : zga (l, D, ad, ca, L, xs) 101 = zga (l, D, ad0, ca, L, xs) 101 := hag 101 (Or.inr (by omega))
  have e102 : zga (l, D, ad, ca, L, xs) 102 = zga (l, D, ad0, ca, L, xs) 102 := hag 102 (Or.inr (by omega))
  have hP : va_P D zcl (zw ad ca zu0) H := by rw [← yw_zw]; exact hP
  have hD : va_D (fun q => s.heap.size ≤ q) (zw ad ca zu0) := by rw [← yw_zw]; exact hD
  have hSt' : zSt (l, D, ad, ca, L, xs) (fun q => s.heap.size ≤ q) s s.heap := by
    unfold zSt at hSt ⊢
    rw [e100, e101, e102]
    exact hSt
  obtain ⟨v, hv⟩ := z_law (xs := xs) hL zu0_I
  have hgo := w_L_law (l, D, ad, ca, L, xs) zu0 (.int 1, v) (by show (f_L_law L xs zu0).bind zkI = _; rw [hv]; rfl)
  exact hgo k_L_law p e R s m args below meth c (fun q => s.heap.size ≤ q) 62 3349 Qf ⟨hx, hb, hml, hown, hAW, hK, hSt', fun q h => h, hR, fun pc H locs ls hra _ _ hS => hex pc H locs ls hra.1 hS⟩ H locs ls hP hD hS hl
/-! the two tables of the class, by the Statement's own words -/
abbrev yB : Jvm.Term := .static RX8 "BODIES" "[I"
abbrev yV : Jvm.Term := .static RX8 "ABOVE" "[I"
abbrev yfl : List Cond := flatC (Jvm.Cond.and given_1 narrow_1)
theorem yf_B : ∀ j, j < 32 → Cond.eq (.elem yB (.int (Int32.ofNat j))) (.int (zBOD j)) ∈ yfl := by decide +kernel
theorem yf_V : ∀ j, j < 8 → Cond.eq (.elem yV (.int (Int32.ofNat j))) (.int (zABV j)) ∈ yfl := by decide +kernel
theorem yf_B2 : Cond.arrayOf yB .int ∈ yfl ∧ Cond.eq (.length yB) (.int (Int32.ofNat 32)) ∈ yfl := by decide +kernel
theorem yf_V2 : Cond.arrayOf yV .int ∈ yfl ∧ Cond.eq (.length yV) (.int (Int32.ofNat 8)) ∈ yfl := by decide +kernel
theorem yf_w : (Cond.laysStatic RX8 "BODIES" "[I" ∈ lw_tbl ∧ Cond.laysStatic RX8 "ABOVE" "[I" ∈ lw_tbl) ∧ Cond.initialized RX8 ∈ lw_tbl := ⟨⟨List.mem_of_getElem? (i := 949) (by decide +kernel), List.mem_of_getElem? (i := 954) (by decide +kernel)⟩, List.mem_of_getElem? (i := 80) (by decide +kernel)⟩
theorem yf_a : Cond.arrayClass .int ∈ lw_tbl ∧ Cond.arrayClass .long ∈ lw_tbl ∧ Cond.arrayClass .boolean ∈ lw_tbl := ⟨List.mem_of_getElem? (i := 134) (by decide +kernel), List.mem_of_getElem? (i := 268) (by decide +kernel), List.mem_of_getElem? (i := 1184) (by decide +kernel)⟩
theorem yz_S {args : Array Value} {s : State} {A : Nat → Prop} (hts : ∀ w ∈ lw_tbl, w.before args s = true) (h : (Jvm.Cond.and given_1 narrow_1).before args s = true) (hA : ∀ a : Nat, a < s.heap.size → ¬ A a) :
    ∃ t u : Nat, va_T .int t 32 (fun j => .int (zBOD j)) A s s.heap ∧ va_T .int u 8 (fun j => .int (zABV j)) A s s.heap ∧ va_Z RX8 "BODIES" "[I" (.ref t) A s s.heap ∧ va_Z RX8 "ABOVE" "[I" (.ref u) A s s.heap := by
  have hf := flat_of_before _ h
  obtain ⟨t, t1, t2⟩ := va_Tof (A := A) (tm := yB) (N := 32) (f := fun j => .int (zBOD j)) (by decide) (hf _ yf_B2.1) (va_eqt (hf _ yf_B2.2)) (fun j hj => va_eqt (hf _ (yf_B j hj))) hA
  obtain ⟨u, u1, u2⟩ := va_Tof (A := A) (tm := yV) (N := 8) (f := fun j => .int (zABV j)) (by decide) (hf _ yf_V2.1) (va_eqt (hf _ yf_V2.2)) (fun j hj => va_eqt (hf _ (yf_V j hj))) hA
  exact ⟨t, u, t2, u2, va_Zref (hts _ yf_w.1.1) (hts _ yf_w.2) t1 hA, va_Zref (hts _ yf_w.1.2) (hts _ yf_w.2) u1 hA⟩
/-- the start, with all that the Statement gives -/
theorem yz_all {l : Launch} {L b : Nat} {xs : Nat → Int32} {p : Program} {e : Env} {R : Room} {s : State} {m : MethodId} {below : List Frame} {meth : Method} {c : Code} {Qf : State → Prop} {ls0 : Array Slot}
    (hL : L ≤ 3072) (hx : p.tables.exec = Jvm.exec) (hb : c.code = code) (hml : c.maxLocals = 4) (hown : s.vm.findClass RL = some m.cls) (hts : ∀ w ∈ lw_tbl, w.before #[Value.ref b] s = true) (hX : va_X b L xs s s.heap) (hbl : b < s.heap.size) (hgv : (Jvm.Cond.and given_1 narrow_1).before #[Value.ref b] s = true) (hR : 407 ≤ R.frames ∧ 64 * 407 ≤ R.locals ∧ 62 ≤ R.cells ∧ 3349 ≤ R.slots) (hl : lv_has ls0 4 [(0, .ref b)])
    (hex : ∀ (pc : Nat) (H : Heap) (locs : List Loc) (ls : Array Slot), decode code pc = .ok (.ireturn, 1) → va_S (fun q => s.heap.size ≤ q) s.heap H locs → W p l e R s m #[Value.ref b] below meth c H locs 62 3349 Qf (F0 m pc ls [.int 1])) : W p l e R s m #[Value.ref b] below meth c s.heap [] 0 0 Qf (F0 m 0 ls0 []) := by
  have hAW : zAW s := fun w hw hk => va_Nw.of (zok_on hk) (hts w hw)
  obtain ⟨D, hD⟩ := yz_D hAW
  obtain ⟨ca, hca⟩ := yz_ca (hts _ yf_a.1) (hts _ yf_a.2.1) (hts _ yf_a.2.2)
  have hA : ∀ a : Nat, a < s.heap.size → ¬ (fun q => s.heap.size ≤ q) a := fun a h q => by
    have q' : s.heap.size ≤ a := q
    omega
  obtain ⟨t, u, k1, k2, k3, k4⟩ := yz_S (A := fun q => s.heap.size ≤ q) hts hgv hA
  exact yz_run (D := D) (ca := ca) (ad0 := fun j => if j = 100 then t else if j = 101 then u else b) hL hx hb hml hown hAW ⟨hD, hca⟩ ⟨k1, k2, ⟨hX, hbl, hA b hbl⟩, k3, k4⟩ hR hl hex
