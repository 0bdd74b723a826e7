/-! more rows over numbers: copies, switches, calls by kinds, subsets of locals -/
theorem zsubk {lv lv' : List (Nat × Value)} (ks : List Nat) (h : ks.filterMap (fun k => lv[k]?) = lv') : ∀ q ∈ lv', q ∈ lv := by
  intro q hq
  rw [← h] at hq
  obtain ⟨k, -, hk⟩ := List.mem_filterMap.mp hq
  exact List.mem_of_getElem? hk
abbrev zcpok (sp dp n : Int32) (n0 n1 : Nat) : Prop := ¬ sp < 0 ∧ ¬ dp < 0 ∧ ¬ n < 0 ∧ sp.toNatClampNeg + n.toNatClampNeg ≤ n0 ∧ dp.toNatClampNeg + n.toNatClampNeg ≤ n1
theorem z_ne {x v : Int32} (h : ¬ x = v) {k : Int} (hk : v.toInt = k) : x.toInt ≠ k := by
  subst hk
  intro h2
  exact h (Int32.toInt_inj.mp h2)
theorem z_off {ps : List (Int × Int)} {d y : Int} (h : ∀ v ∈ ps.map (fun q => q.1), y ≠ v) : Op.lookupswitch.offset ps d y = d := by
  induction ps with
  | nil => rfl
  | cons q r ih =>
    obtain ⟨a, o⟩ := q
    have h1 : y ≠ a := h a (by simp)
    have h2 := ih (fun v hv => h v (by simp only [List.map_cons]; exact List.mem_cons_of_mem _ hv))
    rw [Op.lookupswitch.offset_cons, if_neg (fun q => h1 q.symm)]
    exact h2
section ZMORE
variable {G : ZG} {M M' : ZM} {d d' i pc len n a idx o ci : Nat} {lv lv' : List (Nat × Value)} {as rest st : List Value} {u : ZSt} {β γ : Type} {t tA tB : Option β} {K : β → Option (Value × ZSt)}
theorem zgo_ite {c : Prop} [Decidable c] (hT : c → ZGo G M d tA K i lv st u) (hF : ¬ c → ZGo G M d tB K i lv st u) : ZGo G M d (if c then tA else tB) K i lv st u := by
  by_cases hc : c
  · rw [if_pos hc]; exact hT hc
  · rw [if_neg hc]; exact hF hc
theorem zgo_of_ck {c : Prop} [Decidable c] (hc : c) (h : ZGo G M d (if c then t else none) K i lv st u) : ZGo G M d t K i lv st u := by
  rw [if_pos hc] at h
  exact h
theorem zgo_ck {c : Prop} [Decidable c] (hT : c → ZGo G M d t K i lv st u) : ZGo G M d (if c then t else none) K i lv st u := zgo_ite hT (fun _ => zgo_none)
theorem zgo_nck {c : Prop} [Decidable c] (hT : ¬ c → ZGo G M d t K i lv st u) : ZGo G M d (if c then none else t) K i lv st u := zgo_ite (fun _ => zgo_none) hT
theorem g_idivo {x y : Int32} (ht : (ztb M)[i]? = some (pc, .idiv, 1, a)) (h : ¬ y = 0 → ZGo G M d t K (i + 1) lv (.int (x / y) :: st) u) : ZGo G M d (if y = 0 then none else t) K i lv (.int y :: .int x :: st) u := zgo_nck (fun hy => g_idiv ht hy (h hy))
theorem g_iremo {x y : Int32} (ht : (ztb M)[i]? = some (pc, .irem, 1, a)) (h : ¬ y = 0 → ZGo G M d t K (i + 1) lv (.int (zrem x y) :: st) u) : ZGo G M d (if y = 0 then none else t) K i lv (.int y :: .int x :: st) u := zgo_nck (fun hy => g_irem ht hy (h hy))
theorem g_tswD {dflt lo hi : Int} {offs : Array Int} {x : Int32} (ht : (ztb M)[i]? = some (pc, .tableswitch dflt lo hi offs, len, a)) (keys : List Int) (n : Nat) (hn : hi - lo < n) (hk : ∀ k, k < n → (lo + (k : Int)) ∈ keys ∨ offs[k]? = some dflt) (hne : ∀ v ∈ keys, x.toInt ≠ v) (b : Nat) (hb : (pc : Int) + dflt = (zpc M b : Int)) (h : ZGo G M d t K b lv st u) : ZGo G M d t K i lv (.int x :: st) u := by
  by_cases h1 : x.toInt < lo
  · exact g_tswOut ht (Or.inl h1) b hb h
  · by_cases h2 : hi < x.toInt
    · exact g_tswOut ht (Or.inr h2) b hb h
    · have e : lo + ((x.toInt - lo).toNat : Int) = x.toInt := by omega
      have h3 := hk (x.toInt - lo).toNat (by omega)
      rw [e] at h3
      rcases h3 with h3 | h3
      · exact absurd rfl (hne _ h3)
      · exact g_tswIn ht rfl h1 h2 h3 b hb h
theorem g_lswD {dflt : Int} {ps : Array (Int × Int)} {x : Int32} (ht : (ztb M)[i]? = some (pc, .lookupswitch dflt ps, len, a)) (hp : (ps.toList.zip (ps.toList.drop 1)).all (fun (a, next) => a.1 < next.1) = true) (hne : ∀ v ∈ ps.toList.map (fun q => q.1), x.toInt ≠ v) (b : Nat) (hb : (pc : Int) + dflt = (zpc M b : Int)) (h : ZGo G M d t K b lv st u) : ZGo G M d t K i lv (.int x :: st) u :=
  g_lsw ht hp (z_off hne) b hb h
theorem g_lswI {dflt off : Int} {ps : Array (Int × Int)} {x v : Int32} (ht : (ztb M)[i]? = some (pc, .lookupswitch dflt ps, len, a)) (hp : (ps.toList.zip (ps.toList.drop 1)).all (fun (a, next) => a.1 < next.1) = true) (hv : x = v) (ho : Op.lookupswitch.offset ps.toList dflt v.toInt = off) (b : Nat) (hb : (pc : Int) + off = (zpc M b : Int)) (h : ZGo G M d t K b lv st u) : ZGo G M d t K i lv (.int x :: st) u := by
  subst hv
  exact g_lsw ht hp ho b hb h
theorem g_callVI {tc : Option (Int32 × ZSt)} {f : Int32 × ZSt → Option β} (ht : (ztb M)[i]? = some (pc, .invokevirtual idx, 3, a)) (hl : Cond.methodLink (zy M).cls idx (zy M') ∈ lw_tbl) (hw : zCV M' n) (hd : d' + 1 ≤ d) {fs : List (Option Nat)} (ho : zsch[o]? = some (.inl (ci, fs))) (hci : ci < 12) (hC : (zcls ci).1 = (zy M').cls) (hst : st = as.reverse ++ .ref o :: rest) (hn : as.length = n) (hcat : (rest.map fun v => v.category).sum ≤ 8)
    (hs : ∀ x, tc = some x → ZSpec G M' d' (.ref o :: as) u (zemI x)) (hk : ∀ r u1, tc = some (r, u1) → zbo (zrt M') (.int r) → ZGo G M d (f (r, u1)) K (i + 1) lv (.int r :: rest) u1) : ZGo G M d (tc.bind f) K i lv st u :=
  g_callV zemI zemI_r ht hl hw hd ho hci hC hst hn hcat hs (fun x e b => hk x.1 x.2 e b)
theorem g_callVP {tc : Option Int32} {f : Int32 → Option β} (ht : (ztb M)[i]? = some (pc, .invokevirtual idx, 3, a)) (hl : Cond.methodLink (zy M).cls idx (zy M') ∈ lw_tbl) (hw : zCV M' n) (hd : d' + 1 ≤ d) {fs : List (Option Nat)} (ho : zsch[o]? = some (.inl (ci, fs))) (hci : ci < 12) (hC : (zcls ci).1 = (zy M').cls) (hst : st = as.reverse ++ .ref o :: rest) (hn : as.length = n) (hcat : (rest.map fun v => v.category).sum ≤ 8)
    (hs : ∀ x, tc = some x → ZSpec G M' d' (.ref o :: as) u (zemP u x)) (hk : ∀ r, tc = some r → zbo (zrt M') (.int r) → ZGo G M d (f r) K (i + 1) lv (.int r :: rest) u) : ZGo G M d (tc.bind f) K i lv st u :=
  g_callV (zemP u) (zemP_r u) ht hl hw hd ho hci hC hst hn hcat hs hk
theorem g_callVV {tc : Option ZSt} {f : ZSt → Option β} (ht : (ztb M)[i]? = some (pc, .invokevirtual idx, 3, a)) (hl : Cond.methodLink (zy M).cls idx (zy M') ∈ lw_tbl) (hw : zCV M' n) (hd : d' + 1 ≤ d) {fs : List (Option Nat)} (ho : zsch[o]? = some (.inl (ci, fs))) (hci : ci < 12) (hC : (zcls ci).1 = (zy M').cls) (hst : st = as.reverse ++ .ref o :: rest) (hn : as.length = n) (hcat : (rest.map fun v => v.category).sum ≤ 8)
    (hs : ∀ x, tc = some x → ZSpec G M' d' (.ref o :: as) u (zemV x)) (hk : ∀ u1, tc = some u1 → zbo (zrt M') .null → ZGo G M d (f u1) K (i + 1) lv rest u1) : ZGo G M d (tc.bind f) K i lv st u :=
  g_callV zemV zemV_r ht hl hw hd ho hci hC hst hn hcat hs hk
theorem g_callVL {tc : Option Int64} {f : Int64 → Option β} (ht : (ztb M)[i]? = some (pc, .invokevirtual idx, 3, a)) (hl : Cond.methodLink (zy M).cls idx (zy M') ∈ lw_tbl) (hw : zCV M' n) (hd : d' + 1 ≤ d) {fs : List (Option Nat)} (ho : zsch[o]? = some (.inl (ci, fs))) (hci : ci < 12) (hC : (zcls ci).1 = (zy M').cls) (hst : st = as.reverse ++ .ref o :: rest) (hn : as.length = n) (hcat : (rest.map fun v => v.category).sum ≤ 8)
    (hs : ∀ x, tc = some x → ZSpec G M' d' (.ref o :: as) u (zemL u x)) (hk : ∀ r, tc = some r → zbo (zrt M') (.long r) → ZGo G M d (f r) K (i + 1) lv (.long r :: rest) u) : ZGo G M d (tc.bind f) K i lv st u :=
  g_callV (zemL u) (zemL_r u) ht hl hw hd ho hci hC hst hn hcat hs hk
theorem g_callSI {tc : Option (Int32 × ZSt)} {f : Int32 × ZSt → Option β} (ht : (ztb M)[i]? = some (pc, .invokestatic idx, 3, a)) (hl : Cond.methodLink (zy M).cls idx (zy M') ∈ lw_tbl) (hw : zCS M' n) (hd : d' + 1 ≤ d) (hst : st = as.reverse ++ rest) (hn : as.length = n) (hcat : (rest.map fun v => v.category).sum ≤ 8)
    (hs : ∀ x, tc = some x → ZSpec G M' d' as u (zemI x)) (hk : ∀ r u1, tc = some (r, u1) → zbo (zrt M') (.int r) → ZGo G M d (f (r, u1)) K (i + 1) lv (.int r :: rest) u1) : ZGo G M d (tc.bind f) K i lv st u :=
  g_callS zemI zemI_r ht hl hw hd hst hn hcat hs (fun x e b => hk x.1 x.2 e b)
theorem g_callSP {tc : Option Int32} {f : Int32 → Option β} (ht : (ztb M)[i]? = some (pc, .invokestatic idx, 3, a)) (hl : Cond.methodLink (zy M).cls idx (zy M') ∈ lw_tbl) (hw : zCS M' n) (hd : d' + 1 ≤ d) (hst : st = as.reverse ++ rest) (hn : as.length = n) (hcat : (rest.map fun v => v.category).sum ≤ 8)
    (hs : ∀ x, tc = some x → ZSpec G M' d' as u (zemP u x)) (hk : ∀ r, tc = some r → zbo (zrt M') (.int r) → ZGo G M d (f r) K (i + 1) lv (.int r :: rest) u) : ZGo G M d (tc.bind f) K i lv st u :=
  g_callS (zemP u) (zemP_r u) ht hl hw hd hst hn hcat hs hk
theorem g_callSL {tc : Option Int64} {f : Int64 → Option β} (ht : (ztb M)[i]? = some (pc, .invokestatic idx, 3, a)) (hl : Cond.methodLink (zy M).cls idx (zy M') ∈ lw_tbl) (hw : zCS M' n) (hd : d' + 1 ≤ d) (hst : st = as.reverse ++ rest) (hn : as.length = n) (hcat : (rest.map fun v => v.category).sum ≤ 8)
    (hs : ∀ x, tc = some x → ZSpec G M' d' as u (zemL u x)) (hk : ∀ r, tc = some r → zbo (zrt M') (.long r) → ZGo G M d (f r) K (i + 1) lv (.long r :: rest) u) : ZGo G M d (tc.bind f) K i lv st u :=
  g_callS (zemL u) (zemL_r u) ht hl hw hd hst hn hcat hs hk
theorem zcopyw : Cond.native arraycopyName ∈ lw_tbl ∧ Cond.static arraycopyName ∈ lw_tbl ∧ Cond.initialized "java/lang/System" ∈ lw_tbl := by decide +kernel
theorem znfw : nativeFrameWords "java/lang/System" "arraycopy" 5 + 11 ≤ 60 := by decide +kernel
theorem g_copyI {k k' n0 n1 : Nat} {sp dp m : Int32} (ht : (ztb M)[i]? = some (pc, .invokestatic idx, 3, a)) (hl : Cond.methodLink (zy M).cls idx arraycopyName ∈ lw_tbl) (h0 : zsch[k]? = some (.inr (0, n0))) (h1 : zsch[k']? = some (.inr (0, n1))) (hd : 1 ≤ d) (h : zcpok sp dp m n0 n1 → ZGo G M d t K (i + 1) lv [] (zcp u k k' sp.toNatClampNeg dp.toNatClampNeg m.toNatClampNeg)) : ZGo G M d (if zcpok sp dp m n0 n1 then t else none) K i lv [.int m, .int dp, .ref k', .int sp, .ref k] u := by
  refine zgo_ck (fun hq => ?_)
  intro tgt htg hc p e0 R s m' args below meth c A cells slots Qf cx H locs ls hP hD hS hlv
  obtain ⟨g1, g2, g3, g4⟩ := zchk_at hc ht
  rw [g2]
  obtain ⟨c1, c2, c3, c4, c5, c6, c7, c8, ⟨r1, r2, r3, r4⟩, c10⟩ := id cx
  obtain ⟨w1, w2, w3⟩ := zcopyw
  have hz := znfw
  refine va_copyi (rest := []) c1 c2 (c3.trans hlv.1.symm) c4 (c5.at hl rfl) (c5.at w1 rfl) (c5.at w2 rfl) (c5.at w3 rfl) c6 hP hD hS k k' 0 0 (zw_int h0) (zw_int h1) rfl rfl rfl hq.1 hq.2.1 hq.2.2.1 hq.2.2.2.1 hq.2.2.2.2 (fun _ _ => rfl) (by omega) (by simp only [List.map_nil, List.sum_nil]; omega) g1 (fun H1 locs1 hP1 hD1 hS1 => ?_)
  have e : (zwg G u).set k' (zga G k', .inl (zgc G 0, n1, .inl (va_cpy (u.2.1 k) (u.2.1 k') sp.toNatClampNeg dp.toNatClampNeg m.toNatClampNeg))) = zwg G (zcp u k k' sp.toNatClampNeg dp.toNatClampNeg m.toNatClampNeg) := by
    refine zw_putA h1 ?_ rfl ?_
    · simp [zE, zcp]
    · intro j hj
      simp [zcp, hj]
  rw [e] at hP1 hD1
  have kk := h hq tgt htg hc p e0 R s m' args below meth c A cells slots Qf cx H1 locs1 ls hP1 hD1 hS1 hlv
  rw [g3 rfl] at kk
  exact kk
theorem g_copyL {k k' n0 n1 : Nat} {sp dp m : Int32} (ht : (ztb M)[i]? = some (pc, .invokestatic idx, 3, a)) (hl : Cond.methodLink (zy M).cls idx arraycopyName ∈ lw_tbl) (h0 : zsch[k]? = some (.inr (1, n0))) (h1 : zsch[k']? = some (.inr (1, n1))) (hd : 1 ≤ d) (h : zcpok sp dp m n0 n1 → ZGo G M d t K (i + 1) lv [] (zcpl u k k' sp.toNatClampNeg dp.toNatClampNeg m.toNatClampNeg)) : ZGo G M d (if zcpok sp dp m n0 n1 then t else none) K i lv [.int m, .int dp, .ref k', .int sp, .ref k] u := by
  refine zgo_ck (fun hq => ?_)
  intro tgt htg hc p e0 R s m' args below meth c A cells slots Qf cx H locs ls hP hD hS hlv
  obtain ⟨g1, g2, g3, g4⟩ := zchk_at hc ht
  rw [g2]
  obtain ⟨c1, c2, c3, c4, c5, c6, c7, c8, ⟨r1, r2, r3, r4⟩, c10⟩ := id cx
  obtain ⟨w1, w2, w3⟩ := zcopyw
  have hz := znfw
  refine va_copyl (rest := []) c1 c2 (c3.trans hlv.1.symm) c4 (c5.at hl rfl) (c5.at w1 rfl) (c5.at w2 rfl) (c5.at w3 rfl) c6 hP hD hS k k' 1 1 (zw_long h0) (zw_long h1) rfl rfl rfl hq.1 hq.2.1 hq.2.2.1 hq.2.2.2.1 hq.2.2.2.2 (fun _ _ => rfl) (by omega) (by simp only [List.map_nil, List.sum_nil]; omega) g1 (fun H1 locs1 hP1 hD1 hS1 => ?_)
  have e : (zwg G u).set k' (zga G k', .inl (zgc G 1, n1, .inr (.inl (va_cpy (u.2.2 k) (u.2.2 k') sp.toNatClampNeg dp.toNatClampNeg m.toNatClampNeg)))) = zwg G (zcpl u k k' sp.toNatClampNeg dp.toNatClampNeg m.toNatClampNeg) := by
    refine zw_putA h1 ?_ rfl ?_
    · simp [zE, zcpl]
    · intro j hj
      simp [zcpl, hj]
  rw [e] at hP1 hD1
  have kk := h hq tgt htg hc p e0 R s m' args below meth c A cells slots Qf cx H1 locs1 ls hP1 hD1 hS1 hlv
  rw [g3 rfl] at kk
  exact kk
abbrev zmin (x y : Int32) : Int32 := if y < x then y else x
theorem zminw : Cond.static Lib.Math.min.name ∈ lw_tbl ∧ Cond.initialized "java/lang/Math" ∈ lw_tbl ∧ Cond.code Lib.Math.min.name Lib.Math.min.code 2 (some .int) ∈ lw_tbl := by decide +kernel
theorem g_mmin {x y : Int32} (ht : (ztb M)[i]? = some (pc, .invokestatic idx, 3, a)) (hl : Cond.methodLink (zy M).cls idx Lib.Math.min.name ∈ lw_tbl) (hd : 1 ≤ d) (hcat : (st.map fun v => v.category).sum ≤ 8) (h : ZGo G M d t K (i + 1) lv (.int (zmin x y) :: st) u) : ZGo G M d t K i lv (.int y :: .int x :: st) u := by
  intro tgt htg hc p e0 R s m' args below meth c A cells slots Qf cx H locs ls hP hD hS hlv
  obtain ⟨g1, g2, g3, g4⟩ := zchk_at hc ht
  rw [g2]
  obtain ⟨c1, c2, c3, c4, c5, c6, c7, c8, ⟨r1, r2, r3, r4⟩, c10⟩ := id cx
  obtain ⟨w1, w2, w3⟩ := zminw
  have kk := h tgt htg hc p e0 R s m' args below meth c A cells slots Qf cx H locs ls hP hD hS hlv
  rw [g3 rfl] at kk
  exact va_mmin (rest := zst G st) c1 c2 (c3.trans hlv.1.symm) c4 (c5.at hl rfl) (c5.at w1 rfl) (c5.at w2 rfl) (c5.at w3 rfl) (by omega) (by rw [zcat_eq]; omega) r3 r4 g1 kk
theorem g_getIx {k idx j : Nat} {fs : List (Option Nat)} {x : Int32} (ht : (ztb M)[i]? = some (pc, .getfield idx, 3, a)) (hw : zFL (zy M).cls idx ci k) (ho : zsch[o]? = some (.inl (ci, fs))) (hf : fs[k]? = some none) (hj : 100 * o + k = j) (hx : u.1 j = x) (h : ZGo G M d t K (i + 1) lv (.int x :: st) u) : ZGo G M d t K i lv (.ref o :: st) u := by
  subst hx
  exact g_getI ht hw ho hf hj h
theorem zgo_iald {k n : Nat} {x y : Int32} (ht : (ztb M)[i]? = some (pc, .iaload, 1, a)) (hk : zsch[k]? = some (.inr (0, n))) (hy : u.2.1 k x.toNatClampNeg = y) (h : zin x n → ZGo G M d t K (i + 1) lv (.int y :: st) u) : ZGo G M d (if zin x n then t else none) K i lv (.int x :: .ref k :: st) u := by
  subst hy
  exact g_iald ht hk h
theorem zgo_lald {k n : Nat} {x : Int32} {y : Int64} (ht : (ztb M)[i]? = some (pc, .laload, 1, a)) (hk : zsch[k]? = some (.inr (1, n))) (hy : u.2.2 k x.toNatClampNeg = y) (h : zin x n → ZGo G M d t K (i + 1) lv (.long y :: st) u) : ZGo G M d (if zin x n then t else none) K i lv (.int x :: .ref k :: st) u := by
  subst hy
  exact g_lald ht hk h
theorem zgo_bald {k n : Nat} {x y : Int32} (ht : (ztb M)[i]? = some (pc, .baload, 1, a)) (hk : zsch[k]? = some (.inr (2, n))) (hy : u.2.1 k x.toNatClampNeg = y) (h : zin x n → ZGo G M d t K (i + 1) lv (.int y :: st) u) : ZGo G M d (if zin x n then t else none) K i lv (.int x :: .ref k :: st) u := by
  subst hy
  exact g_bald ht hk h
end ZMORE
