/-! calls of constructors: ordinary, and of a nest mate -/
section YCALL
variable {Y : YC} {M M' : ZM} {d d' n0 i pc len a nc ns mc ms n idx o : Nat} {F : YF} {lv : List (Nat × Value)} {st rest as : List Value} {es es' : List YE}
def yCW (M' : ZM) (n : Nat) : Prop := zCW M' n ∧ zrt M' = none ∧ (zy M').name = "<init>" ∧ Cond.instanceMethod (zy M') ∈ lw_tbl
theorem yEnt.at {p : Program} {e : Env} {R : Room} {s : State} {m : MethodId} {args : Array Value} {below : List Frame} {meth : Method} {c : Code} {A : Nat → Prop} {Qf : State → Prop} {ad0 ad : Nat → Nat} {H : Heap} (cx : yCx Y M d n0 ad0 F p e R s m args below meth c A Qf) (hP : va_P Y.2.1 zcl (yw ad Y.2.2 es) H) (hD : va_D A (yw ad Y.2.2 es)) {U : State} (hU : U.heap = H) (hW : s.WarmedH U.vm) : yEnt Y ad es H.size U := by
  obtain ⟨c1, c2, c3, c4, c5, c6, c7, c8, c9, c10⟩ := cx
  subst hU
  exact ⟨rfl, hP, va_K.moved hW.alike c6, hD.weaken (fun _ _ _ _ => trivial), c5.warm hW⟩
theorem y_ret {p : Program} {e : Env} {R : Room} {s : State} {m : MethodId} {args : Array Value} {below : List Frame} {meth : Method} {c : Code} {A : Nat → Prop} {Qf : State → Prop} {ad0 ad : Nat → Nat} {H : Heap} {locs : List Loc} {ls : Array Slot} {x : Array Value} (cx : yCx Y M d n0 ad0 F p e R s m args below meth c A Qf) (hc : zchk M = true) (hpc : zpc M (i + 1) = pc + 3) (hag : yag n0 ad0 ad) (hD : va_D A (yw ad Y.2.2 es)) (hS : va_S A s.heap H locs) (hl : lv_has ls (znL M) (zlv (yG Y ad) lv)) (hn0 : n0 ≤ es.length) (hlt : ylt es.length [] lv rest = true)
    (hrun : va_Run p Y.1 e R s m args below meth c H locs nc ns mc ms (F0 m pc ls (zst (yG Y ad) st)) (zst (yG Y ad) rest) (yQ Y ad es.length H.size es' x) (yA ad es.length H.size))
    (h : YW Y M d n0 F (i + 1) lv rest es' (nc + mc) (ns + ms)) : W p Y.1 e R s m args below meth c H locs nc ns Qf (F0 m pc ls (zst (yG Y ad) st)) := by
  have hsub := yA_in hD hS cx.2.2.2.2.2.2.2.1
  refine va_callv hrun hS (fun q _ h => hsub q h) hsub (fun ad' t H1 locs1 ht hvm hp hB hz hk hS1 => ?_)
  obtain ⟨hP1, hD1⟩ := hB
  rw [ht] at hP1
  obtain ⟨h1, h2, h3, h4⟩ := ylt_ok hlt
  have kk := h hc p e R s m args below meth c A Qf ad0 cx ad' H1 locs1 ls (hag.tr hn0 hp) hP1 (hD1.weaken (fun _ q _ h => hsub q.1 h)) hS1 (by rw [ylv_ag hp h2]; exact hl)
  rw [hpc, yst_ag hp h3] at kk
  exact kk
theorem y_callI (ht : (ztb M)[i]? = some (pc, .invokespecial idx, 3, a)) (hlk : Cond.methodLink (zy M).cls idx (zy M') ∈ lw_tbl) (hw : yCW M' n) (hd : d' + 1 ≤ d) (hst : st = as.reverse ++ .ref o :: rest) (hn : as.length = n) (hcat : (rest.map fun v => v.category).sum ≤ 8) (hn0 : n0 ≤ es.length) (hlt : ylt es.length [] lv rest = true) (hcells : nc + mc ≤ F.2.2.2.2.1) (hslots : ns + ms ≤ F.2.2.2.2.2)
    (hs : YSpec Y M' d' mc ms (.ref o :: as) es es') (h : YW Y M d n0 F (i + 1) lv rest es' (nc + mc) (ns + ms)) : YW Y M d n0 F i lv st es nc ns := by
  intro hc p e R s m args below meth c A Qf ad0 cx ad H locs ls hag hP hD hS hl
  obtain ⟨g1, g2, g3, g4⟩ := zchk_at hc ht
  rw [g2]
  obtain ⟨c1, c2, c3, c4, c5, c6, c7, c8, c9, c10⟩ := id cx
  obtain ⟨⟨w1, w2, w3, w4, w5⟩, w6, w7, w8⟩ := hw
  have cw : CallB R s args (zy M).cls idx (zy M') (zcc M') (znL M') none [Cond.code (zy M') (zcc M') (znL M') (zrt M')] (yroom d' mc ms) mc ms n := by
    refine ⟨rfl, rfl, ?_, ?_, ?_, by rw [w6]; exact List.mem_cons_self, by rw [← w6]; exact c5.at w1 rfl, c5.at w2 rfl, w3, ?_, c5.at hlk rfl⟩
    · show d' + 1 ≤ R.frames
      omega
    · show 8 + (znL M' + 11) + 64 * d' ≤ R.locals
      omega
    · intro w hw a' U hW
      have hw' : w = Cond.code (zy M') (zcc M') (znL M') (zrt M') := by simpa using hw
      subst hw'
      exact word_at hW (Or.inl rfl) (c5.at w1 rfl (A := #[]))
    · intro sig h
      rw [h] at w4
      exact (Option.some.inj w4).symm
  have hrun := va_runI (e := e) (R := R) (below := below) (meth := meth) (Ts := []) (As := zst (yG Y ad) as) (rest := zst (yG Y ad) rest) (g := F0 m pc ls (zst (yG Y ad) st)) (b := ad o) (cells := nc) (slots := ns) (n := n) (nL := znL M) (locs := locs) ⟨c1, c2, c3, c4, fun w h => by cases h⟩ (hs ad H.size) ⟨cw, w7, c5.at w8 rfl⟩ ⟨yEnt.blind, fun U hU hW => ⟨rfl, yEnt.at cx hP hD hU hW⟩⟩ rfl (by rw [← hn]; simp [zst]) hl.1 (by rw [hst]; exact zst_split (yG Y ad) as rest (.ref o)) (lv_room (by rw [zcat_eq]; exact hcat)) g1 ⟨Nat.le_trans hcells c9.2.2.1, Nat.le_trans hslots c9.2.2.2⟩
  exact y_ret cx hc (g3 rfl) hag hD hS hl hn0 hlt hrun h
theorem y_callN {host : String} (ht : (ztb M)[i]? = some (pc, .invokespecial idx, 3, a)) (hlk : Cond.methodLinkNest (zy M).cls idx (zy M') host ∈ lw_tbl) (hw : yCW M' n) (hd : d' + 1 ≤ d) (hst : st = as.reverse ++ .ref o :: rest) (hn : as.length = n) (hcat : (rest.map fun v => v.category).sum ≤ 8) (hn0 : n0 ≤ es.length) (hlt : ylt es.length [] lv rest = true) (hcells : nc + mc ≤ F.2.2.2.2.1) (hslots : ns + ms ≤ F.2.2.2.2.2)
    (hs : YSpec Y M' d' mc ms (.ref o :: as) es es') (h : YW Y M d n0 F (i + 1) lv rest es' (nc + mc) (ns + ms)) : YW Y M d n0 F i lv st es nc ns := by
  intro hc p e R s m args below meth c A Qf ad0 cx ad H locs ls hag hP hD hS hl
  obtain ⟨g1, g2, g3, g4⟩ := zchk_at hc ht
  rw [g2]
  obtain ⟨c1, c2, c3, c4, c5, c6, c7, c8, c9, c10⟩ := id cx
  obtain ⟨⟨w1, w2, w3, w4, w5⟩, w6, w7, w8⟩ := hw
  have cw : va_CN R s args (zy M).cls idx (zy M') host (zcc M') (znL M') none [Cond.code (zy M') (zcc M') (znL M') (zrt M')] (yroom d' mc ms) mc ms n := by
    refine ⟨⟨rfl, rfl, ?_, ?_, ?_, by rw [w6]; exact List.mem_cons_self⟩, by rw [← w6]; exact c5.at w1 rfl, c5.at w2 rfl, w3, ?_, c5.at hlk rfl (A := #[])⟩
    · show d' + 1 ≤ R.frames
      omega
    · show 8 + (znL M' + 11) + 64 * d' ≤ R.locals
      omega
    · intro w hw a' U hW
      have hw' : w = Cond.code (zy M') (zcc M') (znL M') (zrt M') := by simpa using hw
      subst hw'
      exact word_at hW (Or.inl rfl) (c5.at w1 rfl (A := #[]))
    · intro sig h
      rw [h] at w4
      exact (Option.some.inj w4).symm
  have hrun := va_runIN (e := e) (R := R) (below := below) (meth := meth) (Ts := []) (As := zst (yG Y ad) as) (rest := zst (yG Y ad) rest) (g := F0 m pc ls (zst (yG Y ad) st)) (b := ad o) (cells := nc) (slots := ns) (n := n) (nL := znL M) (locs := locs) ⟨c1, c2, c3, c4, fun w h => by cases h⟩ (hs ad H.size) ⟨cw, w7, c5.at w8 rfl⟩ ⟨yEnt.blind, fun U hU hW => ⟨rfl, yEnt.at cx hP hD hU hW⟩⟩ rfl (by rw [← hn]; simp [zst]) hl.1 (by rw [hst]; exact zst_split (yG Y ad) as rest (.ref o)) (lv_room (by rw [zcat_eq]; exact hcat)) g1 ⟨Nat.le_trans hcells c9.2.2.1, Nat.le_trans hslots c9.2.2.2⟩
  exact y_ret cx hc (g3 rfl) hag hD hS hl hn0 hlt hrun h
end YCALL
