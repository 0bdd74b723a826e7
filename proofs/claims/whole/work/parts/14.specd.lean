/-! by program (gen3.py): each method does what its function says -/
set_option maxRecDepth 100000 in
set_option maxHeartbeats 4000000 in
theorem wb_Ballot_whoLeans_4 (G : ZG) (l1 : Int32) (l2 : Int32) (l3 : Int32) (l4 : Int32) (u : ZSt) (K : ((Int32 × Int32) ⊕ (Int32 × Int32)) → Option (Value × ZSt)) (hb : ∀ (l3 : Int32) (l4 : Int32), ZGo G m_Ballot_whoLeans 3 (K (.inl (l3, l4))) some 4 [(0, .ref 19), (1, .int l1), (2, .int l2), (3, .int l3), (4, .int l4)] [] u) (hx : ∀ (l3 : Int32) (l4 : Int32), ZGo G m_Ballot_whoLeans 3 (K (.inr (l3, l4))) some 28 [(3, .int l3)] [] u) : ZGo G m_Ballot_whoLeans 3 (b_Ballot_whoLeans_4 l1 l2 l3 l4 u) K 4 [(0, .ref 19), (1, .int l1), (2, .int l2), (3, .int l3), (4, .int l4)] [] u := by
  unfold b_Ballot_whoLeans_4
  refine g_iload rfl rfl ?_
  refine g_aload_n rfl rfl ?_
  refine g_getR rfl zf_Ballot_18 rfl rfl ?_
  refine g_getI rfl zf_Ballot_30 rfl rfl rfl ?_
  refine g_icmpge rfl (fun c1332 => ?_) (fun c1332 => ?_)
  · exact zgo_sub (zsubk [3] rfl) (zgo_leaf (hx l3 l4))
  · refine g_iload_n rfl rfl ?_
    refine g_iload_n rfl rfl ?_
    refine g_aload_n rfl rfl ?_
    refine g_getR rfl zf_Ballot_18 rfl rfl ?_
    refine g_iload rfl rfl ?_
    refine g_iload_n rfl rfl ?_
    refine g_iconst (v := (1 : Int32)) rfl zic_1 ?_
    refine g_callVP (M' := m_Council_sumOf) (d' := 2) (as := [.int l4, .int l1, .int (1 : Int32)]) (rest := [.int l2, .int l3]) (ci := 3) (o := 1) rfl ml_Ballot_56 v_Council_sumOf (by decide) rfl (by decide) rfl rfl rfl (Nat.le_of_ble_eq_true rfl) (fun x_ e_ => s_Council_sumOf G l4 l1 (1 : Int32) u x_ e_) (fun q1333 e1334 b1335 => ?_)
    refine g_imul rfl ?_
    refine g_ifle rfl (fun c1336 => ?_) (fun c1336 => ?_)
    · refine g_iconst (v := (0 : Int32)) rfl zic_0 ?_
      refine g_ior rfl ?_
      refine g_istore_n (lv' := [(0, .ref 19), (1, .int l1), (2, .int l2), (3, .int (l3 ||| (0 : Int32))), (4, .int l4)]) rfl (Nat.le_of_ble_eq_true rfl) rfl rfl ?_
      refine g_iinc (v := (1 : Int32)) (lv' := [(0, .ref 19), (1, .int l1), (2, .int l2), (3, .int (l3 ||| (0 : Int32))), (4, .int (l4 + (1 : Int32)))]) rfl rfl zic_1 (Nat.le_of_ble_eq_true rfl) rfl rfl ?_
      refine g_goto rfl ?_
      exact zgo_sub (zsubk [0, 1, 2, 3, 4] rfl) (zgo_leaf (hb (l3 ||| (0 : Int32)) (l4 + (1 : Int32))))
    · refine g_iconst (v := (1 : Int32)) rfl zic_1 ?_
      refine g_iload rfl rfl ?_
      refine g_ishl rfl ?_
      refine g_goto rfl ?_
      refine g_ior rfl ?_
      refine g_istore_n (lv' := [(0, .ref 19), (1, .int l1), (2, .int l2), (3, .int (l3 ||| ((1 : Int32) <<< (l4 &&& 31)))), (4, .int l4)]) rfl (Nat.le_of_ble_eq_true rfl) rfl rfl ?_
      refine g_iinc (v := (1 : Int32)) (lv' := [(0, .ref 19), (1, .int l1), (2, .int l2), (3, .int (l3 ||| ((1 : Int32) <<< (l4 &&& 31)))), (4, .int (l4 + (1 : Int32)))]) rfl rfl zic_1 (Nat.le_of_ble_eq_true rfl) rfl rfl ?_
      refine g_goto rfl ?_
      exact zgo_sub (zsubk [0, 1, 2, 3, 4] rfl) (zgo_leaf (hb (l3 ||| ((1 : Int32) <<< (l4 &&& 31))) (l4 + (1 : Int32))))
set_option maxRecDepth 100000 in
set_option maxHeartbeats 4000000 in
theorem wa_Ballot_whoLeans_4 (G : ZG) (l3 : Int32) (u : ZSt) : ZGo G m_Ballot_whoLeans 3 (a_Ballot_whoLeans_4 l3 u) (zkP u) 28 [(3, .int l3)] [] u := by
  unfold a_Ballot_whoLeans_4
  refine g_iload_n rfl rfl ?_
  exact g_iret rfl (Or.inl rfl) rfl
set_option maxRecDepth 100000 in
set_option maxHeartbeats 4000000 in
theorem w_Ballot_whoLeans (G : ZG) (a : Int32) (b : Int32) (u : ZSt) : ZGo G m_Ballot_whoLeans 3 (f_Ballot_whoLeans a b u) (zkP u) 0 [(0, .ref 19), (1, .int a), (2, .int b)] [] u := by
  unfold f_Ballot_whoLeans
  refine g_iconst (v := (0 : Int32)) rfl zic_0 ?_
  refine g_istore_n (lv' := [(0, .ref 19), (1, .int a), (2, .int b), (3, .int (0 : Int32))]) rfl (Nat.le_of_ble_eq_true rfl) rfl rfl ?_
  refine g_iconst (v := (0 : Int32)) rfl zic_0 ?_
  refine g_istore (lv' := [(0, .ref 19), (1, .int a), (2, .int b), (3, .int (0 : Int32)), (4, .int (0 : Int32))]) rfl (Nat.le_of_ble_eq_true rfl) rfl rfl ?_
  refine zgo_sub (lv' := [(0, .ref 19), (1, .int a), (2, .int b), (3, .int (0 : Int32)), (4, .int (0 : Int32))]) (zsubk [0, 1, 2, 3, 4] rfl) ?_
  refine zgo_loop (σ := Int32 × Int32) (lvf := fun s => [(0, .ref 19), (1, .int a), (2, .int b), (3, .int s.1), (4, .int s.2)]) (uf := (fun _ => u)) ?_ zfu _
  intro s K' ih he
  refine wb_Ballot_whoLeans_4 G a b s.1 s.2 u K' ?_ ?_
  · intro c0 c1
    exact ih (c0, c1)
  · intro c0 c1
    rw [he]
    exact zgo_unleaf (wa_Ballot_whoLeans_4 G c0 u)
theorem s_Ballot_whoLeans (G : ZG) (a : Int32) (b : Int32) (u : ZSt) (x : Int32) (hx : f_Ballot_whoLeans a b u = some x) : ZSpec G m_Ballot_whoLeans 3 [.ref 19, .int a, .int b] u ((zemP u) x) :=
  ZSpec.go k_Ballot_whoLeans (Nat.le_of_ble_eq_true rfl) (w_Ballot_whoLeans G a b u) (tgt := (zemP u) x) (by rw [hx]; rfl)
set_option maxRecDepth 100000 in
set_option maxHeartbeats 4000000 in
theorem w_Ballot_fans (G : ZG) (a : Int32) (u : ZSt) : ZGo G m_Ballot_fans 4 (f_Ballot_fans a u) (zkP u) 0 [(0, .ref 19), (1, .int a)] [] u := by
  unfold f_Ballot_fans
  refine g_aload_n rfl rfl ?_
  refine g_iload_n rfl rfl ?_
  refine g_iconst (v := (1 : Int32)) rfl zic_1 ?_
  refine g_callVP (M' := m_Ballot_whoLeans) (d' := 3) (as := [.int a, .int (1 : Int32)]) (rest := []) (ci := 0) (o := 19) rfl ml_Ballot_82 v_Ballot_whoLeans (by decide) rfl (by decide) rfl rfl rfl (Nat.le_of_ble_eq_true rfl) (fun x_ e_ => s_Ballot_whoLeans G a (1 : Int32) u x_ e_) (fun q1337 e1338 b1339 => ?_)
  exact g_iret rfl (Or.inl rfl) rfl
theorem s_Ballot_fans (G : ZG) (a : Int32) (u : ZSt) (x : Int32) (hx : f_Ballot_fans a u = some x) : ZSpec G m_Ballot_fans 4 [.ref 19, .int a] u ((zemP u) x) :=
  ZSpec.go k_Ballot_fans (Nat.le_of_ble_eq_true rfl) (w_Ballot_fans G a u) (tgt := (zemP u) x) (by rw [hx]; rfl)
set_option maxRecDepth 100000 in
set_option maxHeartbeats 4000000 in
theorem w_Ballot_foes (G : ZG) (a : Int32) (u : ZSt) : ZGo G m_Ballot_foes 4 (f_Ballot_foes a u) (zkP u) 0 [(0, .ref 19), (1, .int a)] [] u := by
  unfold f_Ballot_foes
  refine g_aload_n rfl rfl ?_
  refine g_iload_n rfl rfl ?_
  refine g_iconst (v := (-1 : Int32)) rfl zic_m1 ?_
  refine g_callVP (M' := m_Ballot_whoLeans) (d' := 3) (as := [.int a, .int (-1 : Int32)]) (rest := []) (ci := 0) (o := 19) rfl ml_Ballot_82 v_Ballot_whoLeans (by decide) rfl (by decide) rfl rfl rfl (Nat.le_of_ble_eq_true rfl) (fun x_ e_ => s_Ballot_whoLeans G a (-1 : Int32) u x_ e_) (fun q1340 e1341 b1342 => ?_)
  exact g_iret rfl (Or.inl rfl) rfl
theorem s_Ballot_foes (G : ZG) (a : Int32) (u : ZSt) (x : Int32) (hx : f_Ballot_foes a u = some x) : ZSpec G m_Ballot_foes 4 [.ref 19, .int a] u ((zemP u) x) :=
  ZSpec.go k_Ballot_foes (Nat.le_of_ble_eq_true rfl) (w_Ballot_foes G a u) (tgt := (zemP u) x) (by rw [hx]; rfl)
set_option maxRecDepth 100000 in
set_option maxHeartbeats 4000000 in
theorem w_Ballot_isMore (G : ZG) (a : Int32) (b : Int32) (u : ZSt) : ZGo G m_Ballot_isMore 2 (f_Ballot_isMore a b) (zkP u) 0 [(0, .int a), (1, .int b)] [] u := by
  unfold f_Ballot_isMore
  refine g_iload_n rfl rfl ?_
  refine g_callSP (M' := m_Int_bitCount) (d' := 1) (as := [.int a]) (rest := []) rfl ml_Ballot_64 v_Int_bitCount (by decide) rfl rfl (Nat.le_of_ble_eq_true rfl) (fun x_ e_ => s_Int_bitCount G a u x_ e_) (fun q1343 e1344 b1345 => ?_)
  refine g_iload_n rfl rfl ?_
  refine g_callSP (M' := m_Int_bitCount) (d' := 1) (as := [.int b]) (rest := [.int q1343]) rfl ml_Ballot_64 v_Int_bitCount (by decide) rfl rfl (Nat.le_of_ble_eq_true rfl) (fun x_ e_ => s_Int_bitCount G b u x_ e_) (fun q1346 e1347 b1348 => ?_)
  refine g_icmple rfl (fun c1349 => ?_) (fun c1349 => ?_)
  · refine g_iconst (v := (0 : Int32)) rfl zic_0 ?_
    exact g_iret rfl (Or.inr ⟨rfl, Or.inl rfl⟩) rfl
  · refine g_iconst (v := (1 : Int32)) rfl zic_1 ?_
    refine g_goto rfl ?_
    exact g_iret rfl (Or.inr ⟨rfl, Or.inr rfl⟩) rfl
theorem s_Ballot_isMore (G : ZG) (a : Int32) (b : Int32) (u : ZSt) (x : Int32) (hx : f_Ballot_isMore a b = some x) : ZSpec G m_Ballot_isMore 2 [.int a, .int b] u ((zemP u) x) :=
  ZSpec.go k_Ballot_isMore (Nat.le_of_ble_eq_true rfl) (w_Ballot_isMore G a b u) (tgt := (zemP u) x) (by rw [hx]; rfl)
set_option maxRecDepth 100000 in
set_option maxHeartbeats 4000000 in
theorem w_Ballot_isCarriedBy (G : ZG) (a : Int32) (b : Int32) (c : Int32) (u : ZSt) : ZGo G m_Ballot_isCarriedBy 3 (f_Ballot_isCarriedBy a b c u) (zkP u) 0 [(0, .ref 19), (1, .int a), (2, .int b), (3, .int c)] [] u := by
  unfold f_Ballot_isCarriedBy
  refine g_iload_n rfl rfl ?_
  refine g_callSP (M' := m_Int_bitCount) (d' := 1) (as := [.int a]) (rest := []) rfl ml_Ballot_64 v_Int_bitCount (by decide) rfl rfl (Nat.le_of_ble_eq_true rfl) (fun x_ e_ => s_Int_bitCount G a u x_ e_) (fun q1350 e1351 b1352 => ?_)
  refine g_aload_n rfl rfl ?_
  refine g_getR rfl zf_Ballot_18 rfl rfl ?_
  refine g_getI rfl zf_Ballot_97 rfl rfl rfl ?_
  refine g_icmplt rfl (fun c1353 => ?_) (fun c1353 => ?_)
  · refine g_iconst (v := (0 : Int32)) rfl zic_0 ?_
    exact g_iret rfl (Or.inr ⟨rfl, Or.inl rfl⟩) rfl
  · refine g_iload_n rfl rfl ?_
    refine g_iload_n rfl rfl ?_
    refine g_iand rfl ?_
    refine g_iload_n rfl rfl ?_
    refine g_iload_n rfl rfl ?_
    refine g_iand rfl ?_
    refine g_callSP (M' := m_Ballot_isMore) (d' := 2) (as := [.int (a &&& b), .int (a &&& c)]) (rest := []) rfl ml_Ballot_100 v_Ballot_isMore (by decide) rfl rfl (Nat.le_of_ble_eq_true rfl) (fun x_ e_ => s_Ballot_isMore G (a &&& b) (a &&& c) u x_ e_) (fun q1354 e1355 b1356 => ?_)
    refine g_ifeq rfl (fun c1357 => ?_) (fun c1357 => ?_)
    · refine g_iconst (v := (0 : Int32)) rfl zic_0 ?_
      exact g_iret rfl (Or.inr ⟨rfl, Or.inl rfl⟩) rfl
    · refine g_iconst (v := (1 : Int32)) rfl zic_1 ?_
      refine g_goto rfl ?_
      exact g_iret rfl (Or.inr ⟨rfl, Or.inr rfl⟩) rfl
theorem s_Ballot_isCarriedBy (G : ZG) (a : Int32) (b : Int32) (c : Int32) (u : ZSt) (x : Int32) (hx : f_Ballot_isCarriedBy a b c u = some x) : ZSpec G m_Ballot_isCarriedBy 3 [.ref 19, .int a, .int b, .int c] u ((zemP u) x) :=
  ZSpec.go k_Ballot_isCarriedBy (Nat.le_of_ble_eq_true rfl) (w_Ballot_isCarriedBy G a b c u) (tgt := (zemP u) x) (by rw [hx]; rfl)
set_option maxRecDepth 100000 in
set_option maxHeartbeats 4000000 in
theorem w_Ballot_isCarried (G : ZG) (a : Int32) (b : Int32) (u : ZSt) : ZGo G m_Ballot_isCarried 5 (f_Ballot_isCarried a b u) zkI 0 [(0, .ref 19), (1, .int a), (2, .int b)] [] u := by
  unfold f_Ballot_isCarried
  refine g_aload_n rfl rfl ?_
  refine g_aload_n rfl rfl ?_
  refine g_iload_n rfl rfl ?_
  refine g_iload_n rfl rfl ?_
  refine g_iload_n rfl rfl ?_
  refine g_callVI (M' := m_Ballot_whoMay) (d' := 4) (as := [.int a, .int a, .int b]) (rest := [.ref 19]) (ci := 0) (o := 19) rfl ml_Ballot_85 v_Ballot_whoMay (by decide) rfl (by decide) rfl rfl rfl (Nat.le_of_ble_eq_true rfl) (fun x_ e_ => s_Ballot_whoMay G a a b u x_ e_) (fun q1358r q1358u e1359 b1360 => ?_)
  refine g_aload_n rfl rfl ?_
  refine g_iload_n rfl rfl ?_
  refine g_callVP (M' := m_Ballot_fans) (d' := 4) (as := [.int a]) (rest := [.int q1358r, .ref 19]) (ci := 0) (o := 19) rfl ml_Ballot_88 v_Ballot_fans (by decide) rfl (by decide) rfl rfl rfl (Nat.le_of_ble_eq_true rfl) (fun x_ e_ => s_Ballot_fans G a q1358u x_ e_) (fun q1361 e1362 b1363 => ?_)
  refine g_aload_n rfl rfl ?_
  refine g_iload_n rfl rfl ?_
  refine g_callVP (M' := m_Ballot_foes) (d' := 4) (as := [.int a]) (rest := [.int q1361, .int q1358r, .ref 19]) (ci := 0) (o := 19) rfl ml_Ballot_91 v_Ballot_foes (by decide) rfl (by decide) rfl rfl rfl (Nat.le_of_ble_eq_true rfl) (fun x_ e_ => s_Ballot_foes G a q1358u x_ e_) (fun q1364 e1365 b1366 => ?_)
  refine g_callVP (M' := m_Ballot_isCarriedBy) (d' := 3) (as := [.int q1358r, .int q1361, .int q1364]) (rest := []) (ci := 0) (o := 19) rfl ml_Ballot_94 v_Ballot_isCarriedBy (by decide) rfl (by decide) rfl rfl rfl (Nat.le_of_ble_eq_true rfl) (fun x_ e_ => s_Ballot_isCarriedBy G q1358r q1361 q1364 q1358u x_ e_) (fun q1367 e1368 b1369 => ?_)
  exact g_iret rfl (Or.inr ⟨rfl, (zbo_i b1369)⟩) rfl
theorem s_Ballot_isCarried (G : ZG) (a : Int32) (b : Int32) (u : ZSt) (x : Int32 × ZSt) (hx : f_Ballot_isCarried a b u = some x) : ZSpec G m_Ballot_isCarried 5 [.ref 19, .int a, .int b] u (zemI x) :=
  ZSpec.go k_Ballot_isCarried (Nat.le_of_ble_eq_true rfl) (w_Ballot_isCarried G a b u) (tgt := zemI x) (by rw [hx]; rfl)
set_option maxRecDepth 100000 in
set_option maxHeartbeats 4000000 in
theorem w_X_vote (G : ZG) (a : Int32) (b : Int32) (c : Int32) (u : ZSt) : ZGo G m_X_vote 6 (f_X_vote a b c u) zkI 0 [(0, .ref 0), (1, .int a), (2, .int b), (3, .int c)] [] u := by
  unfold f_X_vote
  refine g_aload_n rfl rfl ?_
  refine g_iload_n rfl rfl ?_
  refine g_iload_n rfl rfl ?_
  refine g_callVP (M' := m_X_isPut) (d' := 3) (as := [.int a, .int b]) (rest := []) (ci := 10) (o := 0) rfl ml_X_171 v_X_isPut (by decide) rfl (by decide) rfl rfl rfl (Nat.le_of_ble_eq_true rfl) (fun x_ e_ => s_X_isPut G a b u x_ e_) (fun q1370 e1371 b1372 => ?_)
  refine g_ifne rfl (fun c1373 => ?_) (fun c1373 => ?_)
  · refine g_iload_n rfl rfl ?_
    refine zgo_ite (fun c1374 => ?_) (fun c1374 => ?_)
    · refine g_tswIn rfl c1374 (by decide) (by decide) (off := 32) (by decide +kernel) 9 rfl ?_
      refine g_aload_n rfl rfl ?_
      refine g_getR rfl zf_X_44 rfl rfl ?_
      refine g_iload_n rfl rfl ?_
      refine g_iload_n rfl rfl ?_
      refine g_iload_n rfl rfl ?_
      refine g_callVI (M' := m_Ballot_whoMay) (d' := 4) (as := [.int a, .int a, .int b]) (rest := []) (ci := 0) (o := 19) rfl ml_X_174 v_Ballot_whoMay (by decide) rfl (by decide) rfl rfl rfl (Nat.le_of_ble_eq_true rfl) (fun x_ e_ => s_Ballot_whoMay G a a b u x_ e_) (fun q1375r q1375u e1376 b1377 => ?_)
      exact g_iret rfl (Or.inl rfl) rfl
    · refine zgo_ite (fun c1378 => ?_) (fun c1378 => ?_)
      · refine g_tswIn rfl c1378 (by decide) (by decide) (off := 43) (by decide +kernel) 16 rfl ?_
        refine g_aload_n rfl rfl ?_
        refine g_getR rfl zf_X_44 rfl rfl ?_
        refine g_iload_n rfl rfl ?_
        refine g_iload_n rfl rfl ?_
        refine g_iload_n rfl rfl ?_
        refine g_callVI (M' := m_Ballot_whoMay) (d' := 4) (as := [.int a, .int a, .int b]) (rest := []) (ci := 0) (o := 19) rfl ml_X_174 v_Ballot_whoMay (by decide) rfl (by decide) rfl rfl rfl (Nat.le_of_ble_eq_true rfl) (fun x_ e_ => s_Ballot_whoMay G a a b u x_ e_) (fun q1379r q1379u e1380 b1381 => ?_)
        refine g_aload_n rfl rfl ?_
        refine g_getR rfl zf_X_44 rfl rfl ?_
        refine g_iload_n rfl rfl ?_
        refine g_callVP (M' := m_Ballot_fans) (d' := 4) (as := [.int a]) (rest := [.int q1379r]) (ci := 0) (o := 19) rfl ml_X_178 v_Ballot_fans (by decide) rfl (by decide) rfl rfl rfl (Nat.le_of_ble_eq_true rfl) (fun x_ e_ => s_Ballot_fans G a q1379u x_ e_) (fun q1382 e1383 b1384 => ?_)
        refine g_iand rfl ?_
        exact g_iret rfl (Or.inl rfl) rfl
      · refine zgo_ite (fun c1385 => ?_) (fun c1385 => ?_)
        · refine g_tswIn rfl c1385 (by decide) (by decide) (off := 63) (by decide +kernel) 28 rfl ?_
          refine g_aload_n rfl rfl ?_
          refine g_getR rfl zf_X_44 rfl rfl ?_
          refine g_iload_n rfl rfl ?_
          refine g_iload_n rfl rfl ?_
          refine g_iload_n rfl rfl ?_
          refine g_callVI (M' := m_Ballot_whoMay) (d' := 4) (as := [.int a, .int a, .int b]) (rest := []) (ci := 0) (o := 19) rfl ml_X_174 v_Ballot_whoMay (by decide) rfl (by decide) rfl rfl rfl (Nat.le_of_ble_eq_true rfl) (fun x_ e_ => s_Ballot_whoMay G a a b u x_ e_) (fun q1386r q1386u e1387 b1388 => ?_)
          refine g_aload_n rfl rfl ?_
          refine g_getR rfl zf_X_44 rfl rfl ?_
          refine g_iload_n rfl rfl ?_
          refine g_callVP (M' := m_Ballot_foes) (d' := 4) (as := [.int a]) (rest := [.int q1386r]) (ci := 0) (o := 19) rfl ml_X_181 v_Ballot_foes (by decide) rfl (by decide) rfl rfl rfl (Nat.le_of_ble_eq_true rfl) (fun x_ e_ => s_Ballot_foes G a q1386u x_ e_) (fun q1389 e1390 b1391 => ?_)
          refine g_iand rfl ?_
          exact g_iret rfl (Or.inl rfl) rfl
        · refine zgo_ite (fun c1392 => ?_) (fun c1392 => ?_)
          · refine g_tswIn rfl c1392 (by decide) (by decide) (off := 83) (by decide +kernel) 40 rfl ?_
            refine g_aload_n rfl rfl ?_
            refine g_getR rfl zf_X_44 rfl rfl ?_
            refine g_iload_n rfl rfl ?_
            refine g_iload_n rfl rfl ?_
            refine g_callVI (M' := m_Ballot_isCarried) (d' := 5) (as := [.int a, .int b]) (rest := []) (ci := 0) (o := 19) rfl ml_X_184 v_Ballot_isCarried (by decide) rfl (by decide) rfl rfl rfl (Nat.le_of_ble_eq_true rfl) (fun x_ e_ => s_Ballot_isCarried G a b u x_ e_) (fun q1393r q1393u e1394 b1395 => ?_)
            refine g_ifeq rfl (fun c1396 => ?_) (fun c1396 => ?_)
            · refine g_iconst (v := (0 : Int32)) rfl zic_0 ?_
              exact g_iret rfl (Or.inl rfl) rfl
            · refine g_iconst (v := (1 : Int32)) rfl zic_1 ?_
              refine g_goto rfl ?_
              exact g_iret rfl (Or.inl rfl) rfl
          · refine g_tswD rfl [0, 1, 2, 3] 4 (by decide) (by decide +kernel) (List.forall_mem_cons.mpr ⟨z_ne c1374 rfl, (List.forall_mem_cons.mpr ⟨z_ne c1378 rfl, (List.forall_mem_cons.mpr ⟨z_ne c1385 rfl, (List.forall_mem_cons.mpr ⟨z_ne c1392 rfl, (fun _ h => absurd h List.not_mem_nil)⟩)⟩)⟩)⟩) 50 rfl ?_
            refine g_iconst (v := (-1 : Int32)) rfl zic_m1 ?_
            exact g_iret rfl (Or.inl rfl) rfl
  · refine g_iconst (v := (-1 : Int32)) rfl zic_m1 ?_
    exact g_iret rfl (Or.inl rfl) rfl
theorem s_X_vote (G : ZG) (a : Int32) (b : Int32) (c : Int32) (u : ZSt) (x : Int32 × ZSt) (hx : f_X_vote a b c u = some x) : ZSpec G m_X_vote 6 [.ref 0, .int a, .int b, .int c] u (zemI x) :=
  ZSpec.go k_X_vote (Nat.le_of_ble_eq_true rfl) (w_X_vote G a b c u) (tgt := zemI x) (by rw [hx]; rfl)
set_option maxRecDepth 100000 in
set_option maxHeartbeats 4000000 in
theorem wb_M_sideOf_4 (G : ZG) (l1 : Int32) (l2 : Int32) (l3 : Int32) (l4 : Int32) (u : ZSt) (K : ((Int32 × Int32) ⊕ (Int32 × Int32)) → Option (Value × ZSt)) (hb : ∀ (l3 : Int32) (l4 : Int32), ZGo G m_M_sideOf 2 (K (.inl (l3, l4))) some 4 [(0, .ref 39), (1, .int l1), (2, .int l2), (3, .int l3), (4, .int l4)] [] u) (hx : ∀ (l3 : Int32) (l4 : Int32), ZGo G m_M_sideOf 2 (K (.inr (l3, l4))) some 35 [(3, .int l3)] [] u) : ZGo G m_M_sideOf 2 (b_M_sideOf_4 l1 l2 l3 l4 u) K 4 [(0, .ref 39), (1, .int l1), (2, .int l2), (3, .int l3), (4, .int l4)] [] u := by
  unfold b_M_sideOf_4
  refine g_iload rfl rfl ?_
  refine g_aload_n rfl rfl ?_
  refine g_getI rfl zf_M_94 rfl rfl rfl ?_
  refine g_icmpge rfl (fun c1397 => ?_) (fun c1397 => ?_)
  · exact zgo_sub (zsubk [3] rfl) (zgo_leaf (hx l3 l4))
  · refine g_iload_n rfl rfl ?_
    refine g_iload_n rfl rfl ?_
    refine g_iload rfl rfl ?_
    refine g_callSP (M' := m_M_isIn) (d' := 1) (as := [.int l1, .int l4]) (rest := [.int l3]) rfl ml_M_118 v_M_isIn (by decide) rfl rfl (Nat.le_of_ble_eq_true rfl) (fun x_ e_ => s_M_isIn G l1 l4 u x_ e_) (fun q1398 e1399 b1400 => ?_)
    refine g_ifeq rfl (fun c1401 => ?_) (fun c1401 => ?_)
    · refine g_iconst (v := (0 : Int32)) rfl zic_0 ?_
      refine g_ior rfl ?_
      refine g_istore_n (lv' := [(0, .ref 39), (1, .int l1), (2, .int l2), (3, .int (l3 ||| (0 : Int32))), (4, .int l4)]) rfl (Nat.le_of_ble_eq_true rfl) rfl rfl ?_
      refine g_iinc (v := (1 : Int32)) (lv' := [(0, .ref 39), (1, .int l1), (2, .int l2), (3, .int (l3 ||| (0 : Int32))), (4, .int (l4 + (1 : Int32)))]) rfl rfl zic_1 (Nat.le_of_ble_eq_true rfl) rfl rfl ?_
      refine g_goto rfl ?_
      exact zgo_sub (zsubk [0, 1, 2, 3, 4] rfl) (zgo_leaf (hb (l3 ||| (0 : Int32)) (l4 + (1 : Int32))))
    · refine g_iload_n rfl rfl ?_
      refine g_ifeq rfl (fun c1402 => ?_) (fun c1402 => ?_)
      · refine g_aload_n rfl rfl ?_
        refine g_getR rfl zf_M_40 rfl rfl ?_
        refine g_iload rfl rfl ?_
        refine g_iald rfl rfl (fun o1404 => ?_)
        refine g_ifge rfl (fun c1403 => ?_) (fun c1403 => ?_)
        · refine g_iconst (v := (0 : Int32)) rfl zic_0 ?_
          refine g_ior rfl ?_
          refine g_istore_n (lv' := [(0, .ref 39), (1, .int l1), (2, .int l2), (3, .int (l3 ||| (0 : Int32))), (4, .int l4)]) rfl (Nat.le_of_ble_eq_true rfl) rfl rfl ?_
          refine g_iinc (v := (1 : Int32)) (lv' := [(0, .ref 39), (1, .int l1), (2, .int l2), (3, .int (l3 ||| (0 : Int32))), (4, .int (l4 + (1 : Int32)))]) rfl rfl zic_1 (Nat.le_of_ble_eq_true rfl) rfl rfl ?_
          refine g_goto rfl ?_
          exact zgo_sub (zsubk [0, 1, 2, 3, 4] rfl) (zgo_leaf (hb (l3 ||| (0 : Int32)) (l4 + (1 : Int32))))
        · refine g_iconst (v := (1 : Int32)) rfl zic_1 ?_
          refine g_iload rfl rfl ?_
          refine g_ishl rfl ?_
          refine g_goto rfl ?_
          refine g_ior rfl ?_
          refine g_istore_n (lv' := [(0, .ref 39), (1, .int l1), (2, .int l2), (3, .int (l3 ||| ((1 : Int32) <<< (l4 &&& 31)))), (4, .int l4)]) rfl (Nat.le_of_ble_eq_true rfl) rfl rfl ?_
          refine g_iinc (v := (1 : Int32)) (lv' := [(0, .ref 39), (1, .int l1), (2, .int l2), (3, .int (l3 ||| ((1 : Int32) <<< (l4 &&& 31)))), (4, .int (l4 + (1 : Int32)))]) rfl rfl zic_1 (Nat.le_of_ble_eq_true rfl) rfl rfl ?_
          refine g_goto rfl ?_
          exact zgo_sub (zsubk [0, 1, 2, 3, 4] rfl) (zgo_leaf (hb (l3 ||| ((1 : Int32) <<< (l4 &&& 31))) (l4 + (1 : Int32))))
      · refine g_aload_n rfl rfl ?_
        refine g_getR rfl zf_M_40 rfl rfl ?_
        refine g_iload rfl rfl ?_
        refine g_iald rfl rfl (fun o1406 => ?_)
        refine g_ifle rfl (fun c1405 => ?_) (fun c1405 => ?_)
        · refine g_iconst (v := (0 : Int32)) rfl zic_0 ?_
          refine g_ior rfl ?_
          refine g_istore_n (lv' := [(0, .ref 39), (1, .int l1), (2, .int l2), (3, .int (l3 ||| (0 : Int32))), (4, .int l4)]) rfl (Nat.le_of_ble_eq_true rfl) rfl rfl ?_
          refine g_iinc (v := (1 : Int32)) (lv' := [(0, .ref 39), (1, .int l1), (2, .int l2), (3, .int (l3 ||| (0 : Int32))), (4, .int (l4 + (1 : Int32)))]) rfl rfl zic_1 (Nat.le_of_ble_eq_true rfl) rfl rfl ?_
          refine g_goto rfl ?_
          exact zgo_sub (zsubk [0, 1, 2, 3, 4] rfl) (zgo_leaf (hb (l3 ||| (0 : Int32)) (l4 + (1 : Int32))))
        · refine g_goto rfl ?_
          refine g_iconst (v := (1 : Int32)) rfl zic_1 ?_
          refine g_iload rfl rfl ?_
          refine g_ishl rfl ?_
          refine g_goto rfl ?_
          refine g_ior rfl ?_
          refine g_istore_n (lv' := [(0, .ref 39), (1, .int l1), (2, .int l2), (3, .int (l3 ||| ((1 : Int32) <<< (l4 &&& 31)))), (4, .int l4)]) rfl (Nat.le_of_ble_eq_true rfl) rfl rfl ?_
          refine g_iinc (v := (1 : Int32)) (lv' := [(0, .ref 39), (1, .int l1), (2, .int l2), (3, .int (l3 ||| ((1 : Int32) <<< (l4 &&& 31)))), (4, .int (l4 + (1 : Int32)))]) rfl rfl zic_1 (Nat.le_of_ble_eq_true rfl) rfl rfl ?_
          refine g_goto rfl ?_
          exact zgo_sub (zsubk [0, 1, 2, 3, 4] rfl) (zgo_leaf (hb (l3 ||| ((1 : Int32) <<< (l4 &&& 31))) (l4 + (1 : Int32))))
set_option maxRecDepth 100000 in
set_option maxHeartbeats 4000000 in
theorem wa_M_sideOf_4 (G : ZG) (l3 : Int32) (u : ZSt) : ZGo G m_M_sideOf 2 (a_M_sideOf_4 l3 u) (zkP u) 35 [(3, .int l3)] [] u := by
  unfold a_M_sideOf_4
  refine g_iload_n rfl rfl ?_
  exact g_iret rfl (Or.inl rfl) rfl
set_option maxRecDepth 100000 in
set_option maxHeartbeats 4000000 in
theorem w_M_sideOf (G : ZG) (a : Int32) (b : Int32) (u : ZSt) : ZGo G m_M_sideOf 2 (f_M_sideOf a b u) (zkP u) 0 [(0, .ref 39), (1, .int a), (2, .int b)] [] u := by
  unfold f_M_sideOf
  refine g_iconst (v := (0 : Int32)) rfl zic_0 ?_
  refine g_istore_n (lv' := [(0, .ref 39), (1, .int a), (2, .int b), (3, .int (0 : Int32))]) rfl (Nat.le_of_ble_eq_true rfl) rfl rfl ?_
  refine g_iconst (v := (0 : Int32)) rfl zic_0 ?_
  refine g_istore (lv' := [(0, .ref 39), (1, .int a), (2, .int b), (3, .int (0 : Int32)), (4, .int (0 : Int32))]) rfl (Nat.le_of_ble_eq_true rfl) rfl rfl ?_
  refine zgo_sub (lv' := [(0, .ref 39), (1, .int a), (2, .int b), (3, .int (0 : Int32)), (4, .int (0 : Int32))]) (zsubk [0, 1, 2, 3, 4] rfl) ?_
  refine zgo_loop (σ := Int32 × Int32) (lvf := fun s => [(0, .ref 39), (1, .int a), (2, .int b), (3, .int s.1), (4, .int s.2)]) (uf := (fun _ => u)) ?_ zfu _
  intro s K' ih he
  refine wb_M_sideOf_4 G a b s.1 s.2 u K' ?_ ?_
  · intro c0 c1
    exact ih (c0, c1)
  · intro c0 c1
    rw [he]
    exact zgo_unleaf (wa_M_sideOf_4 G c0 u)
theorem s_M_sideOf (G : ZG) (a : Int32) (b : Int32) (u : ZSt) (x : Int32) (hx : f_M_sideOf a b u = some x) : ZSpec G m_M_sideOf 2 [.ref 39, .int a, .int b] u ((zemP u) x) :=
  ZSpec.go k_M_sideOf (Nat.le_of_ble_eq_true rfl) (w_M_sideOf G a b u) (tgt := (zemP u) x) (by rw [hx]; rfl)
set_option maxRecDepth 100000 in
set_option maxHeartbeats 4000000 in
theorem w_M_isMore (G : ZG) (a : Int32) (u : ZSt) : ZGo G m_M_isMore 3 (f_M_isMore a u) (zkP u) 0 [(0, .ref 39), (1, .int a)] [] u := by
  unfold f_M_isMore
  refine g_aload_n rfl rfl ?_
  refine g_iload_n rfl rfl ?_
  refine g_iconst (v := (1 : Int32)) rfl zic_1 ?_
  refine g_callVP (M' := m_M_sideOf) (d' := 2) (as := [.int a, .int (1 : Int32)]) (rest := []) (ci := 11) (o := 39) rfl ml_M_219 v_M_sideOf (by decide) rfl (by decide) rfl rfl rfl (Nat.le_of_ble_eq_true rfl) (fun x_ e_ => s_M_sideOf G a (1 : Int32) u x_ e_) (fun q1407 e1408 b1409 => ?_)
  refine g_callSP (M' := m_M_bitsOf) (d' := 1) (as := [.int q1407]) (rest := []) rfl ml_M_205 v_M_bitsOf (by decide) rfl rfl (Nat.le_of_ble_eq_true rfl) (fun x_ e_ => s_M_bitsOf G q1407 u x_ e_) (fun q1410 e1411 b1412 => ?_)
  refine g_aload_n rfl rfl ?_
  refine g_iload_n rfl rfl ?_
  refine g_iconst (v := (0 : Int32)) rfl zic_0 ?_
  refine g_callVP (M' := m_M_sideOf) (d' := 2) (as := [.int a, .int (0 : Int32)]) (rest := [.int q1410]) (ci := 11) (o := 39) rfl ml_M_219 v_M_sideOf (by decide) rfl (by decide) rfl rfl rfl (Nat.le_of_ble_eq_true rfl) (fun x_ e_ => s_M_sideOf G a (0 : Int32) u x_ e_) (fun q1413 e1414 b1415 => ?_)
  refine g_callSP (M' := m_M_bitsOf) (d' := 1) (as := [.int q1413]) (rest := [.int q1410]) rfl ml_M_205 v_M_bitsOf (by decide) rfl rfl (Nat.le_of_ble_eq_true rfl) (fun x_ e_ => s_M_bitsOf G q1413 u x_ e_) (fun q1416 e1417 b1418 => ?_)
  refine g_icmple rfl (fun c1419 => ?_) (fun c1419 => ?_)
  · refine g_iconst (v := (0 : Int32)) rfl zic_0 ?_
    exact g_iret rfl (Or.inr ⟨rfl, Or.inl rfl⟩) rfl
  · refine g_iconst (v := (1 : Int32)) rfl zic_1 ?_
    refine g_goto rfl ?_
    exact g_iret rfl (Or.inr ⟨rfl, Or.inr rfl⟩) rfl
theorem s_M_isMore (G : ZG) (a : Int32) (u : ZSt) (x : Int32) (hx : f_M_isMore a u = some x) : ZSpec G m_M_isMore 3 [.ref 39, .int a] u ((zemP u) x) :=
  ZSpec.go k_M_isMore (Nat.le_of_ble_eq_true rfl) (w_M_isMore G a u) (tgt := (zemP u) x) (by rw [hx]; rfl)
set_option maxRecDepth 100000 in
set_option maxHeartbeats 4000000 in
theorem w_M_isCarriedBy (G : ZG) (a : Int32) (u : ZSt) : ZGo G m_M_isCarriedBy 4 (f_M_isCarriedBy a u) (zkP u) 0 [(0, .ref 39), (1, .int a)] [] u := by
  unfold f_M_isCarriedBy
  refine g_iload_n rfl rfl ?_
  refine g_callSP (M' := m_M_bitsOf) (d' := 1) (as := [.int a]) (rest := []) rfl ml_M_205 v_M_bitsOf (by decide) rfl rfl (Nat.le_of_ble_eq_true rfl) (fun x_ e_ => s_M_bitsOf G a u x_ e_) (fun q1420 e1421 b1422 => ?_)
  refine g_aload_n rfl rfl ?_
  refine g_getI rfl zf_M_85 rfl rfl rfl ?_
  refine g_icmplt rfl (fun c1423 => ?_) (fun c1423 => ?_)
  · refine g_iconst (v := (0 : Int32)) rfl zic_0 ?_
    exact g_iret rfl (Or.inr ⟨rfl, Or.inl rfl⟩) rfl
  · refine g_aload_n rfl rfl ?_
    refine g_iload_n rfl rfl ?_
    refine g_callVP (M' := m_M_isMore) (d' := 3) (as := [.int a]) (rest := []) (ci := 11) (o := 39) rfl ml_M_223 v_M_isMore (by decide) rfl (by decide) rfl rfl rfl (Nat.le_of_ble_eq_true rfl) (fun x_ e_ => s_M_isMore G a u x_ e_) (fun q1424 e1425 b1426 => ?_)
    refine g_ifeq rfl (fun c1427 => ?_) (fun c1427 => ?_)
    · refine g_iconst (v := (0 : Int32)) rfl zic_0 ?_
      exact g_iret rfl (Or.inr ⟨rfl, Or.inl rfl⟩) rfl
    · refine g_iconst (v := (1 : Int32)) rfl zic_1 ?_
      refine g_goto rfl ?_
      exact g_iret rfl (Or.inr ⟨rfl, Or.inr rfl⟩) rfl
theorem s_M_isCarriedBy (G : ZG) (a : Int32) (u : ZSt) (x : Int32) (hx : f_M_isCarriedBy a u = some x) : ZSpec G m_M_isCarriedBy 4 [.ref 39, .int a] u ((zemP u) x) :=
  ZSpec.go k_M_isCarriedBy (Nat.le_of_ble_eq_true rfl) (w_M_isCarriedBy G a u) (tgt := (zemP u) x) (by rw [hx]; rfl)
set_option maxRecDepth 100000 in
set_option maxHeartbeats 4000000 in
theorem w_M_isCarried (G : ZG) (a : Int32) (b : Int32) (u : ZSt) : ZGo G m_M_isCarried 107 (f_M_isCarried a b u) zkI 0 [(0, .ref 39), (1, .int a), (2, .int b)] [] u := by
  unfold f_M_isCarried
  refine g_aload_n rfl rfl ?_
  refine g_iload_n rfl rfl ?_
  refine g_iload_n rfl rfl ?_
  refine g_iload_n rfl rfl ?_
  refine g_callVV (M' := m_M_asks) (d' := 106) (as := [.int a, .int a, .int b]) (rest := []) (ci := 11) (o := 39) rfl ml_M_226 v_M_asks (by decide) rfl (by decide) rfl rfl rfl (Nat.le_of_ble_eq_true rfl) (fun x_ e_ => s_M_asks G a a b u x_ e_) (fun q1428 e1429 b1430 => ?_)
  refine g_aload_n rfl rfl ?_
  refine g_aload_n rfl rfl ?_
  refine g_getI rfl zf_M_212 rfl rfl rfl ?_
  refine g_callVP (M' := m_M_isCarriedBy) (d' := 4) (as := [.int (q1428.1 3925)]) (rest := []) (ci := 11) (o := 39) rfl ml_M_229 v_M_isCarriedBy (by decide) rfl (by decide) rfl rfl rfl (Nat.le_of_ble_eq_true rfl) (fun x_ e_ => s_M_isCarriedBy G (q1428.1 3925) q1428 x_ e_) (fun q1431 e1432 b1433 => ?_)
  exact g_iret rfl (Or.inr ⟨rfl, (zbo_i b1433)⟩) rfl
theorem s_M_isCarried (G : ZG) (a : Int32) (b : Int32) (u : ZSt) (x : Int32 × ZSt) (hx : f_M_isCarried a b u = some x) : ZSpec G m_M_isCarried 107 [.ref 39, .int a, .int b] u (zemI x) :=
  ZSpec.go k_M_isCarried (Nat.le_of_ble_eq_true rfl) (w_M_isCarried G a b u) (tgt := zemI x) (by rw [hx]; rfl)
set_option maxRecDepth 100000 in
set_option maxHeartbeats 4000000 in
theorem w_M_vote (G : ZG) (a : Int32) (b : Int32) (c : Int32) (u : ZSt) : ZGo G m_M_vote 108 (f_M_vote a b c u) zkI 0 [(0, .ref 39), (1, .int a), (2, .int b), (3, .int c)] [] u := by
  unfold f_M_vote
  refine g_aload_n rfl rfl ?_
  refine g_iload_n rfl rfl ?_
  refine g_callVP (M' := m_M_isBundle) (d' := 2) (as := [.int a]) (rest := []) (ci := 11) (o := 39) rfl ml_M_232 v_M_isBundle (by decide) rfl (by decide) rfl rfl rfl (Nat.le_of_ble_eq_true rfl) (fun x_ e_ => s_M_isBundle G a u x_ e_) (fun q1434 e1435 b1436 => ?_)
  refine g_ifeq rfl (fun c1437 => ?_) (fun c1437 => ?_)
  · refine g_iconst (v := (-1 : Int32)) rfl zic_m1 ?_
    exact g_iret rfl (Or.inl rfl) rfl
  · refine g_aload_n rfl rfl ?_
    refine g_iload_n rfl rfl ?_
    refine g_callVP (M' := m_M_areGifts) (d' := 2) (as := [.int b]) (rest := []) (ci := 11) (o := 39) rfl ml_M_235 v_M_areGifts (by decide) rfl (by decide) rfl rfl rfl (Nat.le_of_ble_eq_true rfl) (fun x_ e_ => s_M_areGifts G b u x_ e_) (fun q1438 e1439 b1440 => ?_)
    refine g_ifeq rfl (fun c1441 => ?_) (fun c1441 => ?_)
    · refine g_iconst (v := (-1 : Int32)) rfl zic_m1 ?_
      exact g_iret rfl (Or.inl rfl) rfl
    · refine g_iload_n rfl rfl ?_
      refine g_i2l rfl ?_
      refine g_lconst (v := (0 : Int64)) rfl rfl ?_
      refine g_ldc2 rfl zk_M_238 ?_
      refine g_callSP (M' := m_M_within) (d' := 1) (as := [.long c.toInt64, .long (0 : Int64), .long (3 : Int64)]) (rest := []) rfl ml_M_97 v_M_within (by decide) rfl rfl (Nat.le_of_ble_eq_true rfl) (fun x_ e_ => s_M_within G c.toInt64 (0 : Int64) (3 : Int64) u x_ e_) (fun q1442 e1443 b1444 => ?_)
      refine g_ifne rfl (fun c1445 => ?_) (fun c1445 => ?_)
      · refine g_aload_n rfl rfl ?_
        refine g_iload_n rfl rfl ?_
        refine g_iload_n rfl rfl ?_
        refine g_callVI (M' := m_M_isCarried) (d' := 107) (as := [.int a, .int b]) (rest := []) (ci := 11) (o := 39) rfl ml_M_240 v_M_isCarried (by decide) rfl (by decide) rfl rfl rfl (Nat.le_of_ble_eq_true rfl) (fun x_ e_ => s_M_isCarried G a b u x_ e_) (fun q1446r q1446u e1447 b1448 => ?_)
        refine g_istore (lv' := [(0, .ref 39), (1, .int a), (2, .int b), (3, .int c), (4, .int q1446r)]) rfl (Nat.le_of_ble_eq_true rfl) rfl rfl ?_
        refine g_iload_n rfl rfl ?_
        refine g_ifne rfl (fun c1449 => ?_) (fun c1449 => ?_)
        · refine g_iload_n rfl rfl ?_
          refine g_iconst (v := (3 : Int32)) rfl zic_3 ?_
          refine g_icmpge rfl (fun c1450 => ?_) (fun c1450 => ?_)
          · refine g_iload rfl rfl ?_
            refine g_ifeq rfl (fun c1451 => ?_) (fun c1451 => ?_)
            · refine g_iconst (v := (0 : Int32)) rfl zic_0 ?_
              exact g_iret rfl (Or.inl rfl) rfl
            · refine g_iconst (v := (1 : Int32)) rfl zic_1 ?_
              refine g_goto rfl ?_
              exact g_iret rfl (Or.inl rfl) rfl
          · refine g_aload_n rfl rfl ?_
            refine g_aload_n rfl rfl ?_
            refine g_getI rfl zf_M_212 rfl rfl rfl ?_
            refine g_iload_n rfl rfl ?_
            refine g_iconst (v := (1 : Int32)) rfl zic_1 ?_
            refine g_icmpne rfl (fun c1452 => ?_) (fun c1452 => ?_)
            · refine g_iconst (v := (0 : Int32)) rfl zic_0 ?_
              refine g_callVP (M' := m_M_sideOf) (d' := 2) (as := [.int (q1446u.1 3925), .int (0 : Int32)]) (rest := []) (ci := 11) (o := 39) rfl ml_M_219 v_M_sideOf (by decide) rfl (by decide) rfl rfl rfl (Nat.le_of_ble_eq_true rfl) (fun x_ e_ => s_M_sideOf G (q1446u.1 3925) (0 : Int32) q1446u x_ e_) (fun q1453 e1454 b1455 => ?_)
              refine g_goto rfl ?_
              exact g_iret rfl (Or.inl rfl) rfl
            · refine g_iconst (v := (1 : Int32)) rfl zic_1 ?_
              refine g_goto rfl ?_
              refine g_callVP (M' := m_M_sideOf) (d' := 2) (as := [.int (q1446u.1 3925), .int (1 : Int32)]) (rest := []) (ci := 11) (o := 39) rfl ml_M_219 v_M_sideOf (by decide) rfl (by decide) rfl rfl rfl (Nat.le_of_ble_eq_true rfl) (fun x_ e_ => s_M_sideOf G (q1446u.1 3925) (1 : Int32) q1446u x_ e_) (fun q1456 e1457 b1458 => ?_)
              refine g_goto rfl ?_
              exact g_iret rfl (Or.inl rfl) rfl
        · refine g_aload_n rfl rfl ?_
          refine g_getI rfl zf_M_212 rfl rfl rfl ?_
          refine g_goto rfl ?_
          exact g_iret rfl (Or.inl rfl) rfl
      · refine g_iconst (v := (-1 : Int32)) rfl zic_m1 ?_
        exact g_iret rfl (Or.inl rfl) rfl
theorem s_M_vote (G : ZG) (a : Int32) (b : Int32) (c : Int32) (u : ZSt) (x : Int32 × ZSt) (hx : f_M_vote a b c u = some x) : ZSpec G m_M_vote 108 [.ref 39, .int a, .int b, .int c] u (zemI x) :=
  ZSpec.go k_M_vote (Nat.le_of_ble_eq_true rfl) (w_M_vote G a b c u) (tgt := zemI x) (by rw [hx]; rfl)
set_option maxRecDepth 100000 in
set_option maxHeartbeats 4000000 in
theorem w_Finder_isFewer (G : ZG) (a : Int32) (b : Int32) (u : ZSt) : ZGo G m_Finder_isFewer 2 (f_Finder_isFewer a b) (zkP u) 0 [(0, .int a), (1, .int b)] [] u := by
  unfold f_Finder_isFewer
  refine g_iload_n rfl rfl ?_
  refine g_iflt rfl (fun c1459 => ?_) (fun c1459 => ?_)
  · refine g_iconst (v := (1 : Int32)) rfl zic_1 ?_
    refine g_goto rfl ?_
    exact g_iret rfl (Or.inr ⟨rfl, Or.inr rfl⟩) rfl
  · refine g_iload_n rfl rfl ?_
    refine g_callSP (M' := m_Int_bitCount) (d' := 1) (as := [.int a]) (rest := []) rfl ml_Finder_47 v_Int_bitCount (by decide) rfl rfl (Nat.le_of_ble_eq_true rfl) (fun x_ e_ => s_Int_bitCount G a u x_ e_) (fun q1460 e1461 b1462 => ?_)
    refine g_iload_n rfl rfl ?_
    refine g_callSP (M' := m_Int_bitCount) (d' := 1) (as := [.int b]) (rest := [.int q1460]) rfl ml_Finder_47 v_Int_bitCount (by decide) rfl rfl (Nat.le_of_ble_eq_true rfl) (fun x_ e_ => s_Int_bitCount G b u x_ e_) (fun q1463 e1464 b1465 => ?_)
    refine g_icmpge rfl (fun c1466 => ?_) (fun c1466 => ?_)
    · refine g_iconst (v := (0 : Int32)) rfl zic_0 ?_
      exact g_iret rfl (Or.inr ⟨rfl, Or.inl rfl⟩) rfl
    · refine g_iconst (v := (1 : Int32)) rfl zic_1 ?_
      refine g_goto rfl ?_
      exact g_iret rfl (Or.inr ⟨rfl, Or.inr rfl⟩) rfl
theorem s_Finder_isFewer (G : ZG) (a : Int32) (b : Int32) (u : ZSt) (x : Int32) (hx : f_Finder_isFewer a b = some x) : ZSpec G m_Finder_isFewer 2 [.int a, .int b] u ((zemP u) x) :=
  ZSpec.go k_Finder_isFewer (Nat.le_of_ble_eq_true rfl) (w_Finder_isFewer G a b u) (tgt := (zemP u) x) (by rw [hx]; rfl)
set_option maxRecDepth 100000 in
set_option maxHeartbeats 4000000 in
theorem wb_Finder_smallestCarriedWith_8 (G : ZG) (l1 : Int32) (l3 : Int32) (l2 : Int32) (l4 : Int32) (u : ZSt) (K : ((Int32 × Int32 × ZSt) ⊕ (Int32 × Int32 × ZSt)) → Option (Value × ZSt)) (hb : ∀ (l2 : Int32) (l4 : Int32) (u : ZSt), ZGo G m_Finder_smallestCarriedWith 6 (K (.inl (l2, l4, u))) some 8 [(0, .ref 22), (1, .int l1), (2, .int l2), (3, .int l3), (4, .int l4)] [] u) (hx : ∀ (l2 : Int32) (l4 : Int32) (u : ZSt), ZGo G m_Finder_smallestCarriedWith 6 (K (.inr (l2, l4, u))) some 31 [(2, .int l2)] [] u) : ZGo G m_Finder_smallestCarriedWith 6 (b_Finder_smallestCarriedWith_8 l1 l3 l2 l4 u) K 8 [(0, .ref 22), (1, .int l1), (2, .int l2), (3, .int l3), (4, .int l4)] [] u := by
  unfold b_Finder_smallestCarriedWith_8
  refine g_iload rfl rfl ?_
  refine g_iload_n rfl rfl ?_
  refine g_icmpgt rfl (fun c1470 => ?_) (fun c1470 => ?_)
  · exact zgo_sub (zsubk [2] rfl) (zgo_leaf (hx l2 l4 u))
  · refine g_iload rfl rfl ?_
    refine g_iload_n rfl rfl ?_
    refine g_iushr rfl ?_
    refine g_iconst (v := (1 : Int32)) rfl zic_1 ?_
    refine g_iand rfl ?_
    refine g_ifeq rfl (fun c1471 => ?_) (fun c1471 => ?_)
    · refine g_iinc (v := (1 : Int32)) (lv' := [(0, .ref 22), (1, .int l1), (2, .int l2), (3, .int l3), (4, .int (l4 + (1 : Int32)))]) rfl rfl zic_1 (Nat.le_of_ble_eq_true rfl) rfl rfl ?_
      refine g_goto rfl ?_
      exact zgo_sub (zsubk [0, 1, 2, 3, 4] rfl) (zgo_leaf (hb l2 (l4 + (1 : Int32)) u))
    · refine g_iload rfl rfl ?_
      refine g_iload_n rfl rfl ?_
      refine g_callSP (M' := m_Finder_isFewer) (d' := 2) (as := [.int l4, .int l2]) (rest := []) rfl ml_Finder_38 v_Finder_isFewer (by decide) rfl rfl (Nat.le_of_ble_eq_true rfl) (fun x_ e_ => s_Finder_isFewer G l4 l2 u x_ e_) (fun q1472 e1473 b1474 => ?_)
      refine g_ifeq rfl (fun c1475 => ?_) (fun c1475 => ?_)
      · refine g_iinc (v := (1 : Int32)) (lv' := [(0, .ref 22), (1, .int l1), (2, .int l2), (3, .int l3), (4, .int (l4 + (1 : Int32)))]) rfl rfl zic_1 (Nat.le_of_ble_eq_true rfl) rfl rfl ?_
        refine g_goto rfl ?_
        exact zgo_sub (zsubk [0, 1, 2, 3, 4] rfl) (zgo_leaf (hb l2 (l4 + (1 : Int32)) u))
      · refine g_aload_n rfl rfl ?_
        refine g_getR rfl zf_Finder_28 rfl rfl ?_
        refine g_iload rfl rfl ?_
        refine g_iconst (v := (0 : Int32)) rfl zic_0 ?_
        refine g_callVI (M' := m_Ballot_isCarried) (d' := 5) (as := [.int l4, .int (0 : Int32)]) (rest := []) (ci := 0) (o := 19) rfl ml_Finder_42 v_Ballot_isCarried (by decide) rfl (by decide) rfl rfl rfl (Nat.le_of_ble_eq_true rfl) (fun x_ e_ => s_Ballot_isCarried G l4 (0 : Int32) u x_ e_) (fun q1476r q1476u e1477 b1478 => ?_)
        refine g_ifeq rfl (fun c1479 => ?_) (fun c1479 => ?_)
        · refine g_iinc (v := (1 : Int32)) (lv' := [(0, .ref 22), (1, .int l1), (2, .int l2), (3, .int l3), (4, .int (l4 + (1 : Int32)))]) rfl rfl zic_1 (Nat.le_of_ble_eq_true rfl) rfl rfl ?_
          refine g_goto rfl ?_
          exact zgo_sub (zsubk [0, 1, 2, 3, 4] rfl) (zgo_leaf (hb l2 (l4 + (1 : Int32)) q1476u))
        · refine g_iload rfl rfl ?_
          refine g_istore_n (lv' := [(0, .ref 22), (1, .int l1), (2, .int l4), (3, .int l3), (4, .int l4)]) rfl (Nat.le_of_ble_eq_true rfl) rfl rfl ?_
          refine g_iinc (v := (1 : Int32)) (lv' := [(0, .ref 22), (1, .int l1), (2, .int l4), (3, .int l3), (4, .int (l4 + (1 : Int32)))]) rfl rfl zic_1 (Nat.le_of_ble_eq_true rfl) rfl rfl ?_
          refine g_goto rfl ?_
          exact zgo_sub (zsubk [0, 1, 2, 3, 4] rfl) (zgo_leaf (hb l4 (l4 + (1 : Int32)) q1476u))
set_option maxRecDepth 100000 in
set_option maxHeartbeats 4000000 in
theorem wa_Finder_smallestCarriedWith_8 (G : ZG) (l2 : Int32) (u : ZSt) : ZGo G m_Finder_smallestCarriedWith 6 (a_Finder_smallestCarriedWith_8 l2 u) zkI 31 [(2, .int l2)] [] u := by
  unfold a_Finder_smallestCarriedWith_8
  refine g_iload_n rfl rfl ?_
  exact g_iret rfl (Or.inl rfl) rfl
set_option maxRecDepth 100000 in
set_option maxHeartbeats 4000000 in
theorem w_Finder_smallestCarriedWith (G : ZG) (a : Int32) (u : ZSt) : ZGo G m_Finder_smallestCarriedWith 6 (f_Finder_smallestCarriedWith a u) zkI 0 [(0, .ref 22), (1, .int a)] [] u := by
  unfold f_Finder_smallestCarriedWith
  refine g_bipush (v := (-2 : Int32)) rfl zib_m2 ?_
  refine g_istore_n (lv' := [(0, .ref 22), (1, .int a), (2, .int (-2 : Int32))]) rfl (Nat.le_of_ble_eq_true rfl) rfl rfl ?_
  refine g_aload_n rfl rfl ?_
  refine g_getR rfl zf_Finder_24 rfl rfl ?_
  refine g_callVP (M' := m_Council_everything) (d' := 1) (as := []) (rest := []) (ci := 3) (o := 1) rfl ml_Finder_32 v_Council_everything (by decide) rfl (by decide) rfl rfl rfl (Nat.le_of_ble_eq_true rfl) (fun x_ e_ => s_Council_everything G  u x_ e_) (fun q1467 e1468 b1469 => ?_)
  refine g_istore_n (lv' := [(0, .ref 22), (1, .int a), (2, .int (-2 : Int32)), (3, .int q1467)]) rfl (Nat.le_of_ble_eq_true rfl) rfl rfl ?_
  refine g_iconst (v := (1 : Int32)) rfl zic_1 ?_
  refine g_istore (lv' := [(0, .ref 22), (1, .int a), (2, .int (-2 : Int32)), (3, .int q1467), (4, .int (1 : Int32))]) rfl (Nat.le_of_ble_eq_true rfl) rfl rfl ?_
  refine zgo_sub (lv' := [(0, .ref 22), (1, .int a), (2, .int (-2 : Int32)), (3, .int q1467), (4, .int (1 : Int32))]) (zsubk [0, 1, 2, 3, 4] rfl) ?_
  refine zgo_loop (σ := Int32 × Int32 × ZSt) (lvf := fun s => [(0, .ref 22), (1, .int a), (2, .int s.1), (3, .int q1467), (4, .int s.2.1)]) (uf := (fun s => s.2.2)) ?_ zfu _
  intro s K' ih he
  refine wb_Finder_smallestCarriedWith_8 G a q1467 s.1 s.2.1 s.2.2 K' ?_ ?_
  · intro c0 c1 v
    exact ih (c0, c1, v)
  · intro c0 c1 v
    rw [he]
    exact zgo_unleaf (wa_Finder_smallestCarriedWith_8 G c0 v)
theorem s_Finder_smallestCarriedWith (G : ZG) (a : Int32) (u : ZSt) (x : Int32 × ZSt) (hx : f_Finder_smallestCarriedWith a u = some x) : ZSpec G m_Finder_smallestCarriedWith 6 [.ref 22, .int a] u (zemI x) :=
  ZSpec.go k_Finder_smallestCarriedWith (Nat.le_of_ble_eq_true rfl) (w_Finder_smallestCarriedWith G a u) (tgt := zemI x) (by rw [hx]; rfl)
set_option maxRecDepth 100000 in
set_option maxHeartbeats 4000000 in
theorem w_X_together (G : ZG) (a : Int32) (u : ZSt) : ZGo G m_X_together 7 (f_X_together a u) zkI 0 [(0, .ref 0), (1, .int a)] [] u := by
  unfold f_X_together
  refine g_aload_n rfl rfl ?_
  refine g_getR rfl zf_X_10 rfl rfl ?_
  refine g_iload_n rfl rfl ?_
  refine g_callVP (M' := m_Council_isMatter) (d' := 1) (as := [.int a]) (rest := []) (ci := 3) (o := 1) rfl ml_X_193 v_Council_isMatter (by decide) rfl (by decide) rfl rfl rfl (Nat.le_of_ble_eq_true rfl) (fun x_ e_ => s_Council_isMatter G a u x_ e_) (fun q1480 e1481 b1482 => ?_)
  refine g_ifne rfl (fun c1483 => ?_) (fun c1483 => ?_)
  · refine g_aload_n rfl rfl ?_
    refine g_getR rfl zf_X_53 rfl rfl ?_
    refine g_iload_n rfl rfl ?_
    refine g_callVI (M' := m_Finder_smallestCarriedWith) (d' := 6) (as := [.int a]) (rest := []) (ci := 5) (o := 22) rfl ml_X_196 v_Finder_smallestCarriedWith (by decide) rfl (by decide) rfl rfl rfl (Nat.le_of_ble_eq_true rfl) (fun x_ e_ => s_Finder_smallestCarriedWith G a u x_ e_) (fun q1484r q1484u e1485 b1486 => ?_)
    exact g_iret rfl (Or.inl rfl) rfl
  · refine g_iconst (v := (-1 : Int32)) rfl zic_m1 ?_
    exact g_iret rfl (Or.inl rfl) rfl
theorem s_X_together (G : ZG) (a : Int32) (u : ZSt) (x : Int32 × ZSt) (hx : f_X_together a u = some x) : ZSpec G m_X_together 7 [.ref 0, .int a] u (zemI x) :=
  ZSpec.go k_X_together (Nat.le_of_ble_eq_true rfl) (w_X_together G a u) (tgt := zemI x) (by rw [hx]; rfl)
set_option maxRecDepth 100000 in
set_option maxHeartbeats 4000000 in
theorem wb_M_together_10 (G : ZG) (l1 : Int32) (l2 : Int32) (l3 : Int32) (u : ZSt) (K : ((Int32 × Int32 × ZSt) ⊕ (Int32 × Int32 × ZSt)) → Option (Value × ZSt)) (hb : ∀ (l2 : Int32) (l3 : Int32) (u : ZSt), ZGo G m_M_together 108 (K (.inl (l2, l3, u))) some 10 [(0, .ref 39), (1, .int l1), (2, .int l2), (3, .int l3)] [] u) (hx : ∀ (l2 : Int32) (l3 : Int32) (u : ZSt), ZGo G m_M_together 108 (K (.inr (l2, l3, u))) some 36 [(2, .int l2)] [] u) : ZGo G m_M_together 108 (b_M_together_10 l1 l2 l3 u) K 10 [(0, .ref 39), (1, .int l1), (2, .int l2), (3, .int l3)] [] u := by
  unfold b_M_together_10
  refine g_iload_n rfl rfl ?_
  refine g_iconst (v := (1 : Int32)) rfl zic_1 ?_
  refine g_aload_n rfl rfl ?_
  refine g_getI rfl zf_M_101 rfl rfl rfl ?_
  refine g_ishl rfl ?_
  refine g_icmpge rfl (fun c1491 => ?_) (fun c1491 => ?_)
  · exact zgo_sub (zsubk [2] rfl) (zgo_leaf (hx l2 l3 u))
  · refine g_iload_n rfl rfl ?_
    refine g_iload_n rfl rfl ?_
    refine g_callSP (M' := m_M_isIn) (d' := 1) (as := [.int l3, .int l1]) (rest := []) rfl ml_M_118 v_M_isIn (by decide) rfl rfl (Nat.le_of_ble_eq_true rfl) (fun x_ e_ => s_M_isIn G l3 l1 u x_ e_) (fun q1492 e1493 b1494 => ?_)
    refine g_ifeq rfl (fun c1495 => ?_) (fun c1495 => ?_)
    · refine g_iinc (v := (1 : Int32)) (lv' := [(0, .ref 39), (1, .int l1), (2, .int l2), (3, .int (l3 + (1 : Int32)))]) rfl rfl zic_1 (Nat.le_of_ble_eq_true rfl) rfl rfl ?_
      refine g_goto rfl ?_
      exact zgo_sub (zsubk [0, 1, 2, 3] rfl) (zgo_leaf (hb l2 (l3 + (1 : Int32)) u))
    · refine g_iload_n rfl rfl ?_
      refine g_iflt rfl (fun c1496 => ?_) (fun c1496 => ?_)
      · refine g_aload_n rfl rfl ?_
        refine g_iload_n rfl rfl ?_
        refine g_iconst (v := (0 : Int32)) rfl zic_0 ?_
        refine g_callVI (M' := m_M_isCarried) (d' := 107) (as := [.int l3, .int (0 : Int32)]) (rest := []) (ci := 11) (o := 39) rfl ml_M_240 v_M_isCarried (by decide) rfl (by decide) rfl rfl rfl (Nat.le_of_ble_eq_true rfl) (fun x_ e_ => s_M_isCarried G l3 (0 : Int32) u x_ e_) (fun q1497r q1497u e1498 b1499 => ?_)
        refine g_ifeq rfl (fun c1500 => ?_) (fun c1500 => ?_)
        · refine g_iinc (v := (1 : Int32)) (lv' := [(0, .ref 39), (1, .int l1), (2, .int l2), (3, .int (l3 + (1 : Int32)))]) rfl rfl zic_1 (Nat.le_of_ble_eq_true rfl) rfl rfl ?_
          refine g_goto rfl ?_
          exact zgo_sub (zsubk [0, 1, 2, 3] rfl) (zgo_leaf (hb l2 (l3 + (1 : Int32)) q1497u))
        · refine g_iload_n rfl rfl ?_
          refine g_istore_n (lv' := [(0, .ref 39), (1, .int l1), (2, .int l3), (3, .int l3)]) rfl (Nat.le_of_ble_eq_true rfl) rfl rfl ?_
          refine g_iinc (v := (1 : Int32)) (lv' := [(0, .ref 39), (1, .int l1), (2, .int l3), (3, .int (l3 + (1 : Int32)))]) rfl rfl zic_1 (Nat.le_of_ble_eq_true rfl) rfl rfl ?_
          refine g_goto rfl ?_
          exact zgo_sub (zsubk [0, 1, 2, 3] rfl) (zgo_leaf (hb l3 (l3 + (1 : Int32)) q1497u))
      · refine g_iload_n rfl rfl ?_
        refine g_callSP (M' := m_M_bitsOf) (d' := 1) (as := [.int l3]) (rest := []) rfl ml_M_205 v_M_bitsOf (by decide) rfl rfl (Nat.le_of_ble_eq_true rfl) (fun x_ e_ => s_M_bitsOf G l3 u x_ e_) (fun q1501 e1502 b1503 => ?_)
        refine g_iload_n rfl rfl ?_
        refine g_callSP (M' := m_M_bitsOf) (d' := 1) (as := [.int l2]) (rest := [.int q1501]) rfl ml_M_205 v_M_bitsOf (by decide) rfl rfl (Nat.le_of_ble_eq_true rfl) (fun x_ e_ => s_M_bitsOf G l2 u x_ e_) (fun q1504 e1505 b1506 => ?_)
        refine g_icmpge rfl (fun c1507 => ?_) (fun c1507 => ?_)
        · refine g_iinc (v := (1 : Int32)) (lv' := [(0, .ref 39), (1, .int l1), (2, .int l2), (3, .int (l3 + (1 : Int32)))]) rfl rfl zic_1 (Nat.le_of_ble_eq_true rfl) rfl rfl ?_
          refine g_goto rfl ?_
          exact zgo_sub (zsubk [0, 1, 2, 3] rfl) (zgo_leaf (hb l2 (l3 + (1 : Int32)) u))
        · refine g_aload_n rfl rfl ?_
          refine g_iload_n rfl rfl ?_
          refine g_iconst (v := (0 : Int32)) rfl zic_0 ?_
          refine g_callVI (M' := m_M_isCarried) (d' := 107) (as := [.int l3, .int (0 : Int32)]) (rest := []) (ci := 11) (o := 39) rfl ml_M_240 v_M_isCarried (by decide) rfl (by decide) rfl rfl rfl (Nat.le_of_ble_eq_true rfl) (fun x_ e_ => s_M_isCarried G l3 (0 : Int32) u x_ e_) (fun q1508r q1508u e1509 b1510 => ?_)
          refine g_ifeq rfl (fun c1511 => ?_) (fun c1511 => ?_)
          · refine g_iinc (v := (1 : Int32)) (lv' := [(0, .ref 39), (1, .int l1), (2, .int l2), (3, .int (l3 + (1 : Int32)))]) rfl rfl zic_1 (Nat.le_of_ble_eq_true rfl) rfl rfl ?_
            refine g_goto rfl ?_
            exact zgo_sub (zsubk [0, 1, 2, 3] rfl) (zgo_leaf (hb l2 (l3 + (1 : Int32)) q1508u))
          · refine g_iload_n rfl rfl ?_
            refine g_istore_n (lv' := [(0, .ref 39), (1, .int l1), (2, .int l3), (3, .int l3)]) rfl (Nat.le_of_ble_eq_true rfl) rfl rfl ?_
            refine g_iinc (v := (1 : Int32)) (lv' := [(0, .ref 39), (1, .int l1), (2, .int l3), (3, .int (l3 + (1 : Int32)))]) rfl rfl zic_1 (Nat.le_of_ble_eq_true rfl) rfl rfl ?_
            refine g_goto rfl ?_
            exact zgo_sub (zsubk [0, 1, 2, 3] rfl) (zgo_leaf (hb l3 (l3 + (1 : Int32)) q1508u))
set_option maxRecDepth 100000 in
set_option maxHeartbeats 4000000 in
theorem wa_M_together_10 (G : ZG) (l2 : Int32) (u : ZSt) : ZGo G m_M_together 108 (a_M_together_10 l2 u) zkI 36 [(2, .int l2)] [] u := by
  unfold a_M_together_10
  refine g_iload_n rfl rfl ?_
  exact g_iret rfl (Or.inl rfl) rfl
set_option maxRecDepth 100000 in
set_option maxHeartbeats 4000000 in
theorem w_M_together (G : ZG) (a : Int32) (u : ZSt) : ZGo G m_M_together 108 (f_M_together a u) zkI 0 [(0, .ref 39), (1, .int a)] [] u := by
  unfold f_M_together
  refine g_aload_n rfl rfl ?_
  refine g_iload_n rfl rfl ?_
  refine g_callVP (M' := m_M_isMatter) (d' := 2) (as := [.int a]) (rest := []) (ci := 11) (o := 39) rfl ml_M_108 v_M_isMatter (by decide) rfl (by decide) rfl rfl rfl (Nat.le_of_ble_eq_true rfl) (fun x_ e_ => s_M_isMatter G a u x_ e_) (fun q1487 e1488 b1489 => ?_)
  refine g_ifne rfl (fun c1490 => ?_) (fun c1490 => ?_)
  · refine g_bipush (v := (-2 : Int32)) rfl zib_m2 ?_
    refine g_istore_n (lv' := [(0, .ref 39), (1, .int a), (2, .int (-2 : Int32))]) rfl (Nat.le_of_ble_eq_true rfl) rfl rfl ?_
    refine g_iconst (v := (1 : Int32)) rfl zic_1 ?_
    refine g_istore_n (lv' := [(0, .ref 39), (1, .int a), (2, .int (-2 : Int32)), (3, .int (1 : Int32))]) rfl (Nat.le_of_ble_eq_true rfl) rfl rfl ?_
    refine zgo_sub (lv' := [(0, .ref 39), (1, .int a), (2, .int (-2 : Int32)), (3, .int (1 : Int32))]) (zsubk [0, 1, 2, 3] rfl) ?_
    refine zgo_loop (σ := Int32 × Int32 × ZSt) (lvf := fun s => [(0, .ref 39), (1, .int a), (2, .int s.1), (3, .int s.2.1)]) (uf := (fun s => s.2.2)) ?_ zfu _
    intro s K' ih he
    refine wb_M_together_10 G a s.1 s.2.1 s.2.2 K' ?_ ?_
    · intro c0 c1 v
      exact ih (c0, c1, v)
    · intro c0 c1 v
      rw [he]
      exact zgo_unleaf (wa_M_together_10 G c0 v)
  · refine g_iconst (v := (-1 : Int32)) rfl zic_m1 ?_
    exact g_iret rfl (Or.inl rfl) rfl
theorem s_M_together (G : ZG) (a : Int32) (u : ZSt) (x : Int32 × ZSt) (hx : f_M_together a u = some x) : ZSpec G m_M_together 108 [.ref 39, .int a] u (zemI x) :=
  ZSpec.go k_M_together (Nat.le_of_ble_eq_true rfl) (w_M_together G a u) (tgt := zemI x) (by rw [hx]; rfl)
set_option maxRecDepth 100000 in
set_option maxHeartbeats 4000000 in
theorem wb_Council_feesOf_4 (G : ZG) (l1 : Int32) (l2 : Int32) (l3 : Int32) (u : ZSt) (K : ((Int32 × Int32) ⊕ (Int32 × Int32)) → Option (Value × ZSt)) (hb : ∀ (l2 : Int32) (l3 : Int32), ZGo G m_Council_feesOf 1 (K (.inl (l2, l3))) some 4 [(0, .ref 1), (1, .int l1), (2, .int l2), (3, .int l3)] [] u) (hx : ∀ (l2 : Int32) (l3 : Int32), ZGo G m_Council_feesOf 1 (K (.inr (l2, l3))) some 22 [(2, .int l2)] [] u) : ZGo G m_Council_feesOf 1 (b_Council_feesOf_4 l1 l2 l3 u) K 4 [(0, .ref 1), (1, .int l1), (2, .int l2), (3, .int l3)] [] u := by
  unfold b_Council_feesOf_4
  refine g_iload_n rfl rfl ?_
  refine g_bipush (v := (10 : Int32)) rfl zib_10 ?_
  refine g_icmpge rfl (fun c1512 => ?_) (fun c1512 => ?_)
  · exact zgo_sub (zsubk [2] rfl) (zgo_leaf (hx l2 l3))
  · refine g_iload_n rfl rfl ?_
    refine g_iload_n rfl rfl ?_
    refine g_iushr rfl ?_
    refine g_iconst (v := (1 : Int32)) rfl zic_1 ?_
    refine g_iand rfl ?_
    refine g_ifeq rfl (fun c1513 => ?_) (fun c1513 => ?_)
    · refine g_iinc (v := (1 : Int32)) (lv' := [(0, .ref 1), (1, .int l1), (2, .int l2), (3, .int (l3 + (1 : Int32)))]) rfl rfl zic_1 (Nat.le_of_ble_eq_true rfl) rfl rfl ?_
      refine g_goto rfl ?_
      exact zgo_sub (zsubk [0, 1, 2, 3] rfl) (zgo_leaf (hb l2 (l3 + (1 : Int32))))
    · refine g_iload_n rfl rfl ?_
      refine g_aload_n rfl rfl ?_
      refine g_getR rfl zf_Council_9 rfl rfl ?_
      refine g_iload_n rfl rfl ?_
      refine g_iald rfl rfl (fun o1514 => ?_)
      refine g_iadd rfl ?_
      refine g_istore_n (lv' := [(0, .ref 1), (1, .int l1), (2, .int (l2 + (u.2.1 2 l3.toNatClampNeg))), (3, .int l3)]) rfl (Nat.le_of_ble_eq_true rfl) rfl rfl ?_
      refine g_iinc (v := (1 : Int32)) (lv' := [(0, .ref 1), (1, .int l1), (2, .int (l2 + (u.2.1 2 l3.toNatClampNeg))), (3, .int (l3 + (1 : Int32)))]) rfl rfl zic_1 (Nat.le_of_ble_eq_true rfl) rfl rfl ?_
      refine g_goto rfl ?_
      exact zgo_sub (zsubk [0, 1, 2, 3] rfl) (zgo_leaf (hb (l2 + (u.2.1 2 l3.toNatClampNeg)) (l3 + (1 : Int32))))
set_option maxRecDepth 100000 in
set_option maxHeartbeats 4000000 in
theorem wa_Council_feesOf_4 (G : ZG) (l2 : Int32) (u : ZSt) : ZGo G m_Council_feesOf 1 (a_Council_feesOf_4 l2 u) (zkP u) 22 [(2, .int l2)] [] u := by
  unfold a_Council_feesOf_4
  refine g_iload_n rfl rfl ?_
  exact g_iret rfl (Or.inl rfl) rfl
set_option maxRecDepth 100000 in
set_option maxHeartbeats 4000000 in
theorem w_Council_feesOf (G : ZG) (a : Int32) (u : ZSt) : ZGo G m_Council_feesOf 1 (f_Council_feesOf a u) (zkP u) 0 [(0, .ref 1), (1, .int a)] [] u := by
  unfold f_Council_feesOf
  refine g_iconst (v := (0 : Int32)) rfl zic_0 ?_
  refine g_istore_n (lv' := [(0, .ref 1), (1, .int a), (2, .int (0 : Int32))]) rfl (Nat.le_of_ble_eq_true rfl) rfl rfl ?_
  refine g_iconst (v := (0 : Int32)) rfl zic_0 ?_
  refine g_istore_n (lv' := [(0, .ref 1), (1, .int a), (2, .int (0 : Int32)), (3, .int (0 : Int32))]) rfl (Nat.le_of_ble_eq_true rfl) rfl rfl ?_
  refine zgo_sub (lv' := [(0, .ref 1), (1, .int a), (2, .int (0 : Int32)), (3, .int (0 : Int32))]) (zsubk [0, 1, 2, 3] rfl) ?_
  refine zgo_loop (σ := Int32 × Int32) (lvf := fun s => [(0, .ref 1), (1, .int a), (2, .int s.1), (3, .int s.2)]) (uf := (fun _ => u)) ?_ zfu _
  intro s K' ih he
  refine wb_Council_feesOf_4 G a s.1 s.2 u K' ?_ ?_
  · intro c0 c1
    exact ih (c0, c1)
  · intro c0 c1
    rw [he]
    exact zgo_unleaf (wa_Council_feesOf_4 G c0 u)
theorem s_Council_feesOf (G : ZG) (a : Int32) (u : ZSt) (x : Int32) (hx : f_Council_feesOf a u = some x) : ZSpec G m_Council_feesOf 1 [.ref 1, .int a] u ((zemP u) x) :=
  ZSpec.go k_Council_feesOf (Nat.le_of_ble_eq_true rfl) (w_Council_feesOf G a u) (tgt := (zemP u) x) (by rw [hx]; rfl)
set_option maxRecDepth 100000 in
set_option maxHeartbeats 4000000 in
theorem w_Finder_isCheaper (G : ZG) (a : Int32) (b : Int32) (u : ZSt) : ZGo G m_Finder_isCheaper 3 (f_Finder_isCheaper a b u) (zkP u) 0 [(0, .ref 22), (1, .int a), (2, .int b)] [] u := by
  unfold f_Finder_isCheaper
  refine g_iload_n rfl rfl ?_
  refine g_ifge rfl (fun c1515 => ?_) (fun c1515 => ?_)
  · refine g_aload_n rfl rfl ?_
    refine g_getR rfl zf_Finder_24 rfl rfl ?_
    refine g_iload_n rfl rfl ?_
    refine g_callVP (M' := m_Council_feesOf) (d' := 1) (as := [.int a]) (rest := []) (ci := 3) (o := 1) rfl ml_Finder_59 v_Council_feesOf (by decide) rfl (by decide) rfl rfl rfl (Nat.le_of_ble_eq_true rfl) (fun x_ e_ => s_Council_feesOf G a u x_ e_) (fun q1516 e1517 b1518 => ?_)
    refine g_aload_n rfl rfl ?_
    refine g_getR rfl zf_Finder_24 rfl rfl ?_
    refine g_iload_n rfl rfl ?_
    refine g_callVP (M' := m_Council_feesOf) (d' := 1) (as := [.int b]) (rest := [.int q1516]) (ci := 3) (o := 1) rfl ml_Finder_59 v_Council_feesOf (by decide) rfl (by decide) rfl rfl rfl (Nat.le_of_ble_eq_true rfl) (fun x_ e_ => s_Council_feesOf G b u x_ e_) (fun q1519 e1520 b1521 => ?_)
    refine g_isub rfl ?_
    refine g_istore_n (lv' := [(0, .ref 22), (1, .int a), (2, .int b), (3, .int (q1516 - q1519))]) rfl (Nat.le_of_ble_eq_true rfl) rfl rfl ?_
    refine g_iload_n rfl rfl ?_
    refine g_iflt rfl (fun c1522 => ?_) (fun c1522 => ?_)
    · refine g_iconst (v := (1 : Int32)) rfl zic_1 ?_
      refine g_goto rfl ?_
      exact g_iret rfl (Or.inr ⟨rfl, Or.inr rfl⟩) rfl
    · refine g_iload_n rfl rfl ?_
      refine g_ifne rfl (fun c1523 => ?_) (fun c1523 => ?_)
      · refine g_iconst (v := (0 : Int32)) rfl zic_0 ?_
        exact g_iret rfl (Or.inr ⟨rfl, Or.inl rfl⟩) rfl
      · refine g_iload_n rfl rfl ?_
        refine g_iload_n rfl rfl ?_
        refine g_callSP (M' := m_Finder_isFewer) (d' := 2) (as := [.int a, .int b]) (rest := []) rfl ml_Finder_38 v_Finder_isFewer (by decide) rfl rfl (Nat.le_of_ble_eq_true rfl) (fun x_ e_ => s_Finder_isFewer G a b u x_ e_) (fun q1524 e1525 b1526 => ?_)
        refine g_ifeq rfl (fun c1527 => ?_) (fun c1527 => ?_)
        · refine g_iconst (v := (0 : Int32)) rfl zic_0 ?_
          exact g_iret rfl (Or.inr ⟨rfl, Or.inl rfl⟩) rfl
        · refine g_iconst (v := (1 : Int32)) rfl zic_1 ?_
          refine g_goto rfl ?_
          exact g_iret rfl (Or.inr ⟨rfl, Or.inr rfl⟩) rfl
  · refine g_iconst (v := (1 : Int32)) rfl zic_1 ?_
    exact g_iret rfl (Or.inr ⟨rfl, Or.inr rfl⟩) rfl
theorem s_Finder_isCheaper (G : ZG) (a : Int32) (b : Int32) (u : ZSt) (x : Int32) (hx : f_Finder_isCheaper a b u = some x) : ZSpec G m_Finder_isCheaper 3 [.ref 22, .int a, .int b] u ((zemP u) x) :=
  ZSpec.go k_Finder_isCheaper (Nat.le_of_ble_eq_true rfl) (w_Finder_isCheaper G a b u) (tgt := (zemP u) x) (by rw [hx]; rfl)
set_option maxRecDepth 100000 in
set_option maxHeartbeats 4000000 in
theorem wb_Finder_cheapestGifts_8 (G : ZG) (l1 : Int32) (l3 : Int32) (l2 : Int32) (l4 : Int32) (u : ZSt) (K : ((Int32 × Int32 × ZSt) ⊕ (Int32 × Int32 × ZSt)) → Option (Value × ZSt)) (hb : ∀ (l2 : Int32) (l4 : Int32) (u : ZSt), ZGo G m_Finder_cheapestGifts 6 (K (.inl (l2, l4, u))) some 8 [(0, .ref 22), (1, .int l1), (2, .int l2), (3, .int l3), (4, .int l4)] [] u) (hx : ∀ (l2 : Int32) (l4 : Int32) (u : ZSt), ZGo G m_Finder_cheapestGifts 6 (K (.inr (l2, l4, u))) some 26 [(2, .int l2)] [] u) : ZGo G m_Finder_cheapestGifts 6 (b_Finder_cheapestGifts_8 l1 l3 l2 l4 u) K 8 [(0, .ref 22), (1, .int l1), (2, .int l2), (3, .int l3), (4, .int l4)] [] u := by
  unfold b_Finder_cheapestGifts_8
  refine g_iload rfl rfl ?_
  refine g_iload_n rfl rfl ?_
  refine g_icmpgt rfl (fun c1531 => ?_) (fun c1531 => ?_)
  · exact zgo_sub (zsubk [2] rfl) (zgo_leaf (hx l2 l4 u))
  · refine g_aload_n rfl rfl ?_
    refine g_iload rfl rfl ?_
    refine g_iload_n rfl rfl ?_
    refine g_callVP (M' := m_Finder_isCheaper) (d' := 3) (as := [.int l4, .int l2]) (rest := []) (ci := 5) (o := 22) rfl ml_Finder_56 v_Finder_isCheaper (by decide) rfl (by decide) rfl rfl rfl (Nat.le_of_ble_eq_true rfl) (fun x_ e_ => s_Finder_isCheaper G l4 l2 u x_ e_) (fun q1532 e1533 b1534 => ?_)
    refine g_ifeq rfl (fun c1535 => ?_) (fun c1535 => ?_)
    · refine g_iinc (v := (1 : Int32)) (lv' := [(0, .ref 22), (1, .int l1), (2, .int l2), (3, .int l3), (4, .int (l4 + (1 : Int32)))]) rfl rfl zic_1 (Nat.le_of_ble_eq_true rfl) rfl rfl ?_
      refine g_goto rfl ?_
      exact zgo_sub (zsubk [0, 1, 2, 3, 4] rfl) (zgo_leaf (hb l2 (l4 + (1 : Int32)) u))
    · refine g_aload_n rfl rfl ?_
      refine g_getR rfl zf_Finder_28 rfl rfl ?_
      refine g_iload_n rfl rfl ?_
      refine g_iload rfl rfl ?_
      refine g_callVI (M' := m_Ballot_isCarried) (d' := 5) (as := [.int l1, .int l4]) (rest := []) (ci := 0) (o := 19) rfl ml_Finder_42 v_Ballot_isCarried (by decide) rfl (by decide) rfl rfl rfl (Nat.le_of_ble_eq_true rfl) (fun x_ e_ => s_Ballot_isCarried G l1 l4 u x_ e_) (fun q1536r q1536u e1537 b1538 => ?_)
      refine g_ifeq rfl (fun c1539 => ?_) (fun c1539 => ?_)
      · refine g_iinc (v := (1 : Int32)) (lv' := [(0, .ref 22), (1, .int l1), (2, .int l2), (3, .int l3), (4, .int (l4 + (1 : Int32)))]) rfl rfl zic_1 (Nat.le_of_ble_eq_true rfl) rfl rfl ?_
        refine g_goto rfl ?_
        exact zgo_sub (zsubk [0, 1, 2, 3, 4] rfl) (zgo_leaf (hb l2 (l4 + (1 : Int32)) q1536u))
      · refine g_iload rfl rfl ?_
        refine g_istore_n (lv' := [(0, .ref 22), (1, .int l1), (2, .int l4), (3, .int l3), (4, .int l4)]) rfl (Nat.le_of_ble_eq_true rfl) rfl rfl ?_
        refine g_iinc (v := (1 : Int32)) (lv' := [(0, .ref 22), (1, .int l1), (2, .int l4), (3, .int l3), (4, .int (l4 + (1 : Int32)))]) rfl rfl zic_1 (Nat.le_of_ble_eq_true rfl) rfl rfl ?_
        refine g_goto rfl ?_
        exact zgo_sub (zsubk [0, 1, 2, 3, 4] rfl) (zgo_leaf (hb l4 (l4 + (1 : Int32)) q1536u))
set_option maxRecDepth 100000 in
set_option maxHeartbeats 4000000 in
theorem wa_Finder_cheapestGifts_8 (G : ZG) (l2 : Int32) (u : ZSt) : ZGo G m_Finder_cheapestGifts 6 (a_Finder_cheapestGifts_8 l2 u) zkI 26 [(2, .int l2)] [] u := by
  unfold a_Finder_cheapestGifts_8
  refine g_iload_n rfl rfl ?_
  exact g_iret rfl (Or.inl rfl) rfl
set_option maxRecDepth 100000 in
set_option maxHeartbeats 4000000 in
theorem w_Finder_cheapestGifts (G : ZG) (a : Int32) (u : ZSt) : ZGo G m_Finder_cheapestGifts 6 (f_Finder_cheapestGifts a u) zkI 0 [(0, .ref 22), (1, .int a)] [] u := by
  unfold f_Finder_cheapestGifts
  refine g_bipush (v := (-2 : Int32)) rfl zib_m2 ?_
  refine g_istore_n (lv' := [(0, .ref 22), (1, .int a), (2, .int (-2 : Int32))]) rfl (Nat.le_of_ble_eq_true rfl) rfl rfl ?_
  refine g_aload_n rfl rfl ?_
  refine g_getR rfl zf_Finder_24 rfl rfl ?_
  refine g_callVP (M' := m_Council_everybody) (d' := 1) (as := []) (rest := []) (ci := 3) (o := 1) rfl ml_Finder_53 v_Council_everybody (by decide) rfl (by decide) rfl rfl rfl (Nat.le_of_ble_eq_true rfl) (fun x_ e_ => s_Council_everybody G  u x_ e_) (fun q1528 e1529 b1530 => ?_)
  refine g_istore_n (lv' := [(0, .ref 22), (1, .int a), (2, .int (-2 : Int32)), (3, .int q1528)]) rfl (Nat.le_of_ble_eq_true rfl) rfl rfl ?_
  refine g_iconst (v := (0 : Int32)) rfl zic_0 ?_
  refine g_istore (lv' := [(0, .ref 22), (1, .int a), (2, .int (-2 : Int32)), (3, .int q1528), (4, .int (0 : Int32))]) rfl (Nat.le_of_ble_eq_true rfl) rfl rfl ?_
  refine zgo_sub (lv' := [(0, .ref 22), (1, .int a), (2, .int (-2 : Int32)), (3, .int q1528), (4, .int (0 : Int32))]) (zsubk [0, 1, 2, 3, 4] rfl) ?_
  refine zgo_loop (σ := Int32 × Int32 × ZSt) (lvf := fun s => [(0, .ref 22), (1, .int a), (2, .int s.1), (3, .int q1528), (4, .int s.2.1)]) (uf := (fun s => s.2.2)) ?_ zfu _
  intro s K' ih he
  refine wb_Finder_cheapestGifts_8 G a q1528 s.1 s.2.1 s.2.2 K' ?_ ?_
  · intro c0 c1 v
    exact ih (c0, c1, v)
  · intro c0 c1 v
    rw [he]
    exact zgo_unleaf (wa_Finder_cheapestGifts_8 G c0 v)
theorem s_Finder_cheapestGifts (G : ZG) (a : Int32) (u : ZSt) (x : Int32 × ZSt) (hx : f_Finder_cheapestGifts a u = some x) : ZSpec G m_Finder_cheapestGifts 6 [.ref 22, .int a] u (zemI x) :=
  ZSpec.go k_Finder_cheapestGifts (Nat.le_of_ble_eq_true rfl) (w_Finder_cheapestGifts G a u) (tgt := zemI x) (by rw [hx]; rfl)
set_option maxRecDepth 100000 in
set_option maxHeartbeats 4000000 in
theorem w_X_silenced (G : ZG) (a : Int32) (b : Int32) (u : ZSt) : ZGo G m_X_silenced 7 (f_X_silenced a b u) zkI 0 [(0, .ref 0), (1, .int a), (2, .int b)] [] u := by
  unfold f_X_silenced
  refine g_aload_n rfl rfl ?_
  refine g_getR rfl zf_X_10 rfl rfl ?_
  refine g_iload_n rfl rfl ?_
  refine g_callVP (M' := m_Council_isBundle) (d' := 2) (as := [.int a]) (rest := []) (ci := 3) (o := 1) rfl ml_X_187 v_Council_isBundle (by decide) rfl (by decide) rfl rfl rfl (Nat.le_of_ble_eq_true rfl) (fun x_ e_ => s_Council_isBundle G a u x_ e_) (fun q1540 e1541 b1542 => ?_)
  refine g_ifeq rfl (fun c1543 => ?_) (fun c1543 => ?_)
  · refine g_iconst (v := (-1 : Int32)) rfl zic_m1 ?_
    exact g_iret rfl (Or.inl rfl) rfl
  · refine g_iload_n rfl rfl ?_
    refine g_iflt rfl (fun c1544 => ?_) (fun c1544 => ?_)
    · refine g_iconst (v := (-1 : Int32)) rfl zic_m1 ?_
      exact g_iret rfl (Or.inl rfl) rfl
    · refine g_iload_n rfl rfl ?_
      refine g_iconst (v := (1 : Int32)) rfl zic_1 ?_
      refine g_icmple rfl (fun c1545 => ?_) (fun c1545 => ?_)
      · refine g_aload_n rfl rfl ?_
        refine g_getR rfl zf_X_53 rfl rfl ?_
        refine g_iload_n rfl rfl ?_
        refine g_callVI (M' := m_Finder_cheapestGifts) (d' := 6) (as := [.int a]) (rest := []) (ci := 5) (o := 22) rfl ml_X_199 v_Finder_cheapestGifts (by decide) rfl (by decide) rfl rfl rfl (Nat.le_of_ble_eq_true rfl) (fun x_ e_ => s_Finder_cheapestGifts G a u x_ e_) (fun q1546r q1546u e1547 b1548 => ?_)
        refine g_istore_n (lv' := [(0, .ref 0), (1, .int a), (2, .int b), (3, .int q1546r)]) rfl (Nat.le_of_ble_eq_true rfl) rfl rfl ?_
        refine g_iload_n rfl rfl ?_
        refine g_iflt rfl (fun c1549 => ?_) (fun c1549 => ?_)
        · refine g_iload_n rfl rfl ?_
          refine g_goto rfl ?_
          exact g_iret rfl (Or.inl rfl) rfl
        · refine g_iload_n rfl rfl ?_
          refine g_ifne rfl (fun c1550 => ?_) (fun c1550 => ?_)
          · refine g_aload_n rfl rfl ?_
            refine g_getR rfl zf_X_10 rfl rfl ?_
            refine g_iload_n rfl rfl ?_
            refine g_callVP (M' := m_Council_feesOf) (d' := 1) (as := [.int q1546r]) (rest := []) (ci := 3) (o := 1) rfl ml_X_202 v_Council_feesOf (by decide) rfl (by decide) rfl rfl rfl (Nat.le_of_ble_eq_true rfl) (fun x_ e_ => s_Council_feesOf G q1546r q1546u x_ e_) (fun q1551 e1552 b1553 => ?_)
            exact g_iret rfl (Or.inl rfl) rfl
          · refine g_iload_n rfl rfl ?_
            refine g_goto rfl ?_
            exact g_iret rfl (Or.inl rfl) rfl
      · refine g_iconst (v := (-1 : Int32)) rfl zic_m1 ?_
        exact g_iret rfl (Or.inl rfl) rfl
theorem s_X_silenced (G : ZG) (a : Int32) (b : Int32) (u : ZSt) (x : Int32 × ZSt) (hx : f_X_silenced a b u = some x) : ZSpec G m_X_silenced 7 [.ref 0, .int a, .int b] u (zemI x) :=
  ZSpec.go k_X_silenced (Nat.le_of_ble_eq_true rfl) (w_X_silenced G a b u) (tgt := zemI x) (by rw [hx]; rfl)
set_option maxRecDepth 100000 in
set_option maxHeartbeats 4000000 in
theorem wb_M_feesOf_4 (G : ZG) (l1 : Int32) (l2 : Int32) (l3 : Int32) (u : ZSt) (K : ((Int32 × Int32) ⊕ (Int32 × Int32)) → Option (Value × ZSt)) (hb : ∀ (l2 : Int32) (l3 : Int32), ZGo G m_M_feesOf 2 (K (.inl (l2, l3))) some 4 [(0, .ref 39), (1, .int l1), (2, .int l2), (3, .int l3)] [] u) (hx : ∀ (l2 : Int32) (l3 : Int32), ZGo G m_M_feesOf 2 (K (.inr (l2, l3))) some 23 [(2, .int l2)] [] u) : ZGo G m_M_feesOf 2 (b_M_feesOf_4 l1 l2 l3 u) K 4 [(0, .ref 39), (1, .int l1), (2, .int l2), (3, .int l3)] [] u := by
  unfold b_M_feesOf_4
  refine g_iload_n rfl rfl ?_
  refine g_aload_n rfl rfl ?_
  refine g_getI rfl zf_M_94 rfl rfl rfl ?_
  refine g_icmpge rfl (fun c1554 => ?_) (fun c1554 => ?_)
  · exact zgo_sub (zsubk [2] rfl) (zgo_leaf (hx l2 l3))
  · refine g_iload_n rfl rfl ?_
    refine g_iload_n rfl rfl ?_
    refine g_iload_n rfl rfl ?_
    refine g_callSP (M' := m_M_isIn) (d' := 1) (as := [.int l1, .int l3]) (rest := [.int l2]) rfl ml_M_118 v_M_isIn (by decide) rfl rfl (Nat.le_of_ble_eq_true rfl) (fun x_ e_ => s_M_isIn G l1 l3 u x_ e_) (fun q1555 e1556 b1557 => ?_)
    refine g_ifeq rfl (fun c1558 => ?_) (fun c1558 => ?_)
    · refine g_iconst (v := (0 : Int32)) rfl zic_0 ?_
      refine g_iadd rfl ?_
      refine g_istore_n (lv' := [(0, .ref 39), (1, .int l1), (2, .int (l2 + (0 : Int32))), (3, .int l3)]) rfl (Nat.le_of_ble_eq_true rfl) rfl rfl ?_
      refine g_iinc (v := (1 : Int32)) (lv' := [(0, .ref 39), (1, .int l1), (2, .int (l2 + (0 : Int32))), (3, .int (l3 + (1 : Int32)))]) rfl rfl zic_1 (Nat.le_of_ble_eq_true rfl) rfl rfl ?_
      refine g_goto rfl ?_
      exact zgo_sub (zsubk [0, 1, 2, 3] rfl) (zgo_leaf (hb (l2 + (0 : Int32)) (l3 + (1 : Int32))))
    · refine g_aload_n rfl rfl ?_
      refine g_getR rfl zf_M_22 rfl rfl ?_
      refine g_iload_n rfl rfl ?_
      refine g_iald rfl rfl (fun o1559 => ?_)
      refine g_goto rfl ?_
      refine g_iadd rfl ?_
      refine g_istore_n (lv' := [(0, .ref 39), (1, .int l1), (2, .int (l2 + (u.2.1 44 l3.toNatClampNeg))), (3, .int l3)]) rfl (Nat.le_of_ble_eq_true rfl) rfl rfl ?_
      refine g_iinc (v := (1 : Int32)) (lv' := [(0, .ref 39), (1, .int l1), (2, .int (l2 + (u.2.1 44 l3.toNatClampNeg))), (3, .int (l3 + (1 : Int32)))]) rfl rfl zic_1 (Nat.le_of_ble_eq_true rfl) rfl rfl ?_
      refine g_goto rfl ?_
      exact zgo_sub (zsubk [0, 1, 2, 3] rfl) (zgo_leaf (hb (l2 + (u.2.1 44 l3.toNatClampNeg)) (l3 + (1 : Int32))))
set_option maxRecDepth 100000 in
set_option maxHeartbeats 4000000 in
theorem wa_M_feesOf_4 (G : ZG) (l2 : Int32) (u : ZSt) : ZGo G m_M_feesOf 2 (a_M_feesOf_4 l2 u) (zkP u) 23 [(2, .int l2)] [] u := by
  unfold a_M_feesOf_4
  refine g_iload_n rfl rfl ?_
  exact g_iret rfl (Or.inl rfl) rfl
set_option maxRecDepth 100000 in
set_option maxHeartbeats 4000000 in
theorem w_M_feesOf (G : ZG) (a : Int32) (u : ZSt) : ZGo G m_M_feesOf 2 (f_M_feesOf a u) (zkP u) 0 [(0, .ref 39), (1, .int a)] [] u := by
  unfold f_M_feesOf
  refine g_iconst (v := (0 : Int32)) rfl zic_0 ?_
  refine g_istore_n (lv' := [(0, .ref 39), (1, .int a), (2, .int (0 : Int32))]) rfl (Nat.le_of_ble_eq_true rfl) rfl rfl ?_
  refine g_iconst (v := (0 : Int32)) rfl zic_0 ?_
  refine g_istore_n (lv' := [(0, .ref 39), (1, .int a), (2, .int (0 : Int32)), (3, .int (0 : Int32))]) rfl (Nat.le_of_ble_eq_true rfl) rfl rfl ?_
  refine zgo_sub (lv' := [(0, .ref 39), (1, .int a), (2, .int (0 : Int32)), (3, .int (0 : Int32))]) (zsubk [0, 1, 2, 3] rfl) ?_
  refine zgo_loop (σ := Int32 × Int32) (lvf := fun s => [(0, .ref 39), (1, .int a), (2, .int s.1), (3, .int s.2)]) (uf := (fun _ => u)) ?_ zfu _
  intro s K' ih he
  refine wb_M_feesOf_4 G a s.1 s.2 u K' ?_ ?_
  · intro c0 c1
    exact ih (c0, c1)
  · intro c0 c1
    rw [he]
    exact zgo_unleaf (wa_M_feesOf_4 G c0 u)
theorem s_M_feesOf (G : ZG) (a : Int32) (u : ZSt) (x : Int32) (hx : f_M_feesOf a u = some x) : ZSpec G m_M_feesOf 2 [.ref 39, .int a] u ((zemP u) x) :=
  ZSpec.go k_M_feesOf (Nat.le_of_ble_eq_true rfl) (w_M_feesOf G a u) (tgt := (zemP u) x) (by rw [hx]; rfl)
set_option maxRecDepth 100000 in
set_option maxHeartbeats 4000000 in
theorem wb_M_silenced_16 (G : ZG) (l1 : Int32) (l2 : Int32) (l3 : Int32) (l4 : Int32) (u : ZSt) (K : ((Int32 × Int32 × ZSt) ⊕ (Int32 × Int32 × ZSt)) → Option (Value × ZSt)) (hb : ∀ (l3 : Int32) (l4 : Int32) (u : ZSt), ZGo G m_M_silenced 108 (K (.inl (l3, l4, u))) some 16 [(0, .ref 39), (1, .int l1), (2, .int l2), (3, .int l3), (4, .int l4)] [] u) (hx : ∀ (l3 : Int32) (l4 : Int32) (u : ZSt), ZGo G m_M_silenced 108 (K (.inr (l3, l4, u))) some 58 [(0, .ref 39), (2, .int l2), (3, .int l3)] [] u) : ZGo G m_M_silenced 108 (b_M_silenced_16 l1 l2 l3 l4 u) K 16 [(0, .ref 39), (1, .int l1), (2, .int l2), (3, .int l3), (4, .int l4)] [] u := by
  unfold b_M_silenced_16
  refine g_iload rfl rfl ?_
  refine g_iconst (v := (1 : Int32)) rfl zic_1 ?_
  refine g_aload_n rfl rfl ?_
  refine g_getI rfl zf_M_94 rfl rfl rfl ?_
  refine g_ishl rfl ?_
  refine g_icmpge rfl (fun c1568 => ?_) (fun c1568 => ?_)
  · exact zgo_sub (zsubk [0, 2, 3] rfl) (zgo_leaf (hx l3 l4 u))
  · refine g_iload_n rfl rfl ?_
    refine g_iflt rfl (fun c1569 => ?_) (fun c1569 => ?_)
    · refine g_iconst (v := (1 : Int32)) rfl zic_1 ?_
      refine g_goto rfl ?_
      refine g_istore (lv' := [(0, .ref 39), (1, .int l1), (2, .int l2), (3, .int l3), (4, .int l4), (5, .int (1 : Int32))]) rfl (Nat.le_of_ble_eq_true rfl) rfl rfl ?_
      refine g_iload rfl rfl ?_
      refine g_ifeq rfl (fun c1570 => ?_) (fun c1570 => ?_)
      · refine g_iinc (v := (1 : Int32)) (lv' := [(0, .ref 39), (1, .int l1), (2, .int l2), (3, .int l3), (4, .int (l4 + (1 : Int32))), (5, .int (1 : Int32))]) rfl rfl zic_1 (Nat.le_of_ble_eq_true rfl) rfl rfl ?_
        refine g_goto rfl ?_
        exact zgo_sub (zsubk [0, 1, 2, 3, 4] rfl) (zgo_leaf (hb l3 (l4 + (1 : Int32)) u))
      · refine g_aload_n rfl rfl ?_
        refine g_iload_n rfl rfl ?_
        refine g_iload rfl rfl ?_
        refine g_callVI (M' := m_M_isCarried) (d' := 107) (as := [.int l1, .int l4]) (rest := []) (ci := 11) (o := 39) rfl ml_M_240 v_M_isCarried (by decide) rfl (by decide) rfl rfl rfl (Nat.le_of_ble_eq_true rfl) (fun x_ e_ => s_M_isCarried G l1 l4 u x_ e_) (fun q1571r q1571u e1572 b1573 => ?_)
        refine g_ifeq rfl (fun c1574 => ?_) (fun c1574 => ?_)
        · refine g_iinc (v := (1 : Int32)) (lv' := [(0, .ref 39), (1, .int l1), (2, .int l2), (3, .int l3), (4, .int (l4 + (1 : Int32))), (5, .int (1 : Int32))]) rfl rfl zic_1 (Nat.le_of_ble_eq_true rfl) rfl rfl ?_
          refine g_goto rfl ?_
          exact zgo_sub (zsubk [0, 1, 2, 3, 4] rfl) (zgo_leaf (hb l3 (l4 + (1 : Int32)) q1571u))
        · refine g_iload rfl rfl ?_
          refine g_istore_n (lv' := [(0, .ref 39), (1, .int l1), (2, .int l2), (3, .int l4), (4, .int l4), (5, .int (1 : Int32))]) rfl (Nat.le_of_ble_eq_true rfl) rfl rfl ?_
          refine g_iinc (v := (1 : Int32)) (lv' := [(0, .ref 39), (1, .int l1), (2, .int l2), (3, .int l4), (4, .int (l4 + (1 : Int32))), (5, .int (1 : Int32))]) rfl rfl zic_1 (Nat.le_of_ble_eq_true rfl) rfl rfl ?_
          refine g_goto rfl ?_
          exact zgo_sub (zsubk [0, 1, 2, 3, 4] rfl) (zgo_leaf (hb l4 (l4 + (1 : Int32)) q1571u))
    · refine g_aload_n rfl rfl ?_
      refine g_iload rfl rfl ?_
      refine g_callVP (M' := m_M_feesOf) (d' := 2) (as := [.int l4]) (rest := []) (ci := 11) (o := 39) rfl ml_M_243 v_M_feesOf (by decide) rfl (by decide) rfl rfl rfl (Nat.le_of_ble_eq_true rfl) (fun x_ e_ => s_M_feesOf G l4 u x_ e_) (fun q1575 e1576 b1577 => ?_)
      refine g_aload_n rfl rfl ?_
      refine g_iload_n rfl rfl ?_
      refine g_callVP (M' := m_M_feesOf) (d' := 2) (as := [.int l3]) (rest := [.int q1575]) (ci := 11) (o := 39) rfl ml_M_243 v_M_feesOf (by decide) rfl (by decide) rfl rfl rfl (Nat.le_of_ble_eq_true rfl) (fun x_ e_ => s_M_feesOf G l3 u x_ e_) (fun q1578 e1579 b1580 => ?_)
      refine g_icmplt rfl (fun c1581 => ?_) (fun c1581 => ?_)
      · refine g_iconst (v := (1 : Int32)) rfl zic_1 ?_
        refine g_goto rfl ?_
        refine g_istore (lv' := [(0, .ref 39), (1, .int l1), (2, .int l2), (3, .int l3), (4, .int l4), (5, .int (1 : Int32))]) rfl (Nat.le_of_ble_eq_true rfl) rfl rfl ?_
        refine g_iload rfl rfl ?_
        refine g_ifeq rfl (fun c1582 => ?_) (fun c1582 => ?_)
        · refine g_iinc (v := (1 : Int32)) (lv' := [(0, .ref 39), (1, .int l1), (2, .int l2), (3, .int l3), (4, .int (l4 + (1 : Int32))), (5, .int (1 : Int32))]) rfl rfl zic_1 (Nat.le_of_ble_eq_true rfl) rfl rfl ?_
          refine g_goto rfl ?_
          exact zgo_sub (zsubk [0, 1, 2, 3, 4] rfl) (zgo_leaf (hb l3 (l4 + (1 : Int32)) u))
        · refine g_aload_n rfl rfl ?_
          refine g_iload_n rfl rfl ?_
          refine g_iload rfl rfl ?_
          refine g_callVI (M' := m_M_isCarried) (d' := 107) (as := [.int l1, .int l4]) (rest := []) (ci := 11) (o := 39) rfl ml_M_240 v_M_isCarried (by decide) rfl (by decide) rfl rfl rfl (Nat.le_of_ble_eq_true rfl) (fun x_ e_ => s_M_isCarried G l1 l4 u x_ e_) (fun q1583r q1583u e1584 b1585 => ?_)
          refine g_ifeq rfl (fun c1586 => ?_) (fun c1586 => ?_)
          · refine g_iinc (v := (1 : Int32)) (lv' := [(0, .ref 39), (1, .int l1), (2, .int l2), (3, .int l3), (4, .int (l4 + (1 : Int32))), (5, .int (1 : Int32))]) rfl rfl zic_1 (Nat.le_of_ble_eq_true rfl) rfl rfl ?_
            refine g_goto rfl ?_
            exact zgo_sub (zsubk [0, 1, 2, 3, 4] rfl) (zgo_leaf (hb l3 (l4 + (1 : Int32)) q1583u))
          · refine g_iload rfl rfl ?_
            refine g_istore_n (lv' := [(0, .ref 39), (1, .int l1), (2, .int l2), (3, .int l4), (4, .int l4), (5, .int (1 : Int32))]) rfl (Nat.le_of_ble_eq_true rfl) rfl rfl ?_
            refine g_iinc (v := (1 : Int32)) (lv' := [(0, .ref 39), (1, .int l1), (2, .int l2), (3, .int l4), (4, .int (l4 + (1 : Int32))), (5, .int (1 : Int32))]) rfl rfl zic_1 (Nat.le_of_ble_eq_true rfl) rfl rfl ?_
            refine g_goto rfl ?_
            exact zgo_sub (zsubk [0, 1, 2, 3, 4] rfl) (zgo_leaf (hb l4 (l4 + (1 : Int32)) q1583u))
      · refine g_aload_n rfl rfl ?_
        refine g_iload rfl rfl ?_
        refine g_callVP (M' := m_M_feesOf) (d' := 2) (as := [.int l4]) (rest := []) (ci := 11) (o := 39) rfl ml_M_243 v_M_feesOf (by decide) rfl (by decide) rfl rfl rfl (Nat.le_of_ble_eq_true rfl) (fun x_ e_ => s_M_feesOf G l4 u x_ e_) (fun q1587 e1588 b1589 => ?_)
        refine g_aload_n rfl rfl ?_
        refine g_iload_n rfl rfl ?_
        refine g_callVP (M' := m_M_feesOf) (d' := 2) (as := [.int l3]) (rest := [.int q1587]) (ci := 11) (o := 39) rfl ml_M_243 v_M_feesOf (by decide) rfl (by decide) rfl rfl rfl (Nat.le_of_ble_eq_true rfl) (fun x_ e_ => s_M_feesOf G l3 u x_ e_) (fun q1590 e1591 b1592 => ?_)
        refine g_icmpne rfl (fun c1593 => ?_) (fun c1593 => ?_)
        · refine g_iconst (v := (0 : Int32)) rfl zic_0 ?_
          refine g_istore (lv' := [(0, .ref 39), (1, .int l1), (2, .int l2), (3, .int l3), (4, .int l4), (5, .int (0 : Int32))]) rfl (Nat.le_of_ble_eq_true rfl) rfl rfl ?_
          refine g_iload rfl rfl ?_
          refine g_ifeq rfl (fun c1594 => ?_) (fun c1594 => ?_)
          · refine g_iinc (v := (1 : Int32)) (lv' := [(0, .ref 39), (1, .int l1), (2, .int l2), (3, .int l3), (4, .int (l4 + (1 : Int32))), (5, .int (0 : Int32))]) rfl rfl zic_1 (Nat.le_of_ble_eq_true rfl) rfl rfl ?_
            refine g_goto rfl ?_
            exact zgo_sub (zsubk [0, 1, 2, 3, 4] rfl) (zgo_leaf (hb l3 (l4 + (1 : Int32)) u))
          · refine g_aload_n rfl rfl ?_
            refine g_iload_n rfl rfl ?_
            refine g_iload rfl rfl ?_
            refine g_callVI (M' := m_M_isCarried) (d' := 107) (as := [.int l1, .int l4]) (rest := []) (ci := 11) (o := 39) rfl ml_M_240 v_M_isCarried (by decide) rfl (by decide) rfl rfl rfl (Nat.le_of_ble_eq_true rfl) (fun x_ e_ => s_M_isCarried G l1 l4 u x_ e_) (fun q1595r q1595u e1596 b1597 => ?_)
            refine g_ifeq rfl (fun c1598 => ?_) (fun c1598 => ?_)
            · refine g_iinc (v := (1 : Int32)) (lv' := [(0, .ref 39), (1, .int l1), (2, .int l2), (3, .int l3), (4, .int (l4 + (1 : Int32))), (5, .int (0 : Int32))]) rfl rfl zic_1 (Nat.le_of_ble_eq_true rfl) rfl rfl ?_
              refine g_goto rfl ?_
              exact zgo_sub (zsubk [0, 1, 2, 3, 4] rfl) (zgo_leaf (hb l3 (l4 + (1 : Int32)) q1595u))
            · refine g_iload rfl rfl ?_
              refine g_istore_n (lv' := [(0, .ref 39), (1, .int l1), (2, .int l2), (3, .int l4), (4, .int l4), (5, .int (0 : Int32))]) rfl (Nat.le_of_ble_eq_true rfl) rfl rfl ?_
              refine g_iinc (v := (1 : Int32)) (lv' := [(0, .ref 39), (1, .int l1), (2, .int l2), (3, .int l4), (4, .int (l4 + (1 : Int32))), (5, .int (0 : Int32))]) rfl rfl zic_1 (Nat.le_of_ble_eq_true rfl) rfl rfl ?_
              refine g_goto rfl ?_
              exact zgo_sub (zsubk [0, 1, 2, 3, 4] rfl) (zgo_leaf (hb l4 (l4 + (1 : Int32)) q1595u))
        · refine g_iload rfl rfl ?_
          refine g_callSP (M' := m_M_bitsOf) (d' := 1) (as := [.int l4]) (rest := []) rfl ml_M_205 v_M_bitsOf (by decide) rfl rfl (Nat.le_of_ble_eq_true rfl) (fun x_ e_ => s_M_bitsOf G l4 u x_ e_) (fun q1599 e1600 b1601 => ?_)
          refine g_iload_n rfl rfl ?_
          refine g_callSP (M' := m_M_bitsOf) (d' := 1) (as := [.int l3]) (rest := [.int q1599]) rfl ml_M_205 v_M_bitsOf (by decide) rfl rfl (Nat.le_of_ble_eq_true rfl) (fun x_ e_ => s_M_bitsOf G l3 u x_ e_) (fun q1602 e1603 b1604 => ?_)
          refine g_icmpge rfl (fun c1605 => ?_) (fun c1605 => ?_)
          · refine g_iconst (v := (0 : Int32)) rfl zic_0 ?_
            refine g_istore (lv' := [(0, .ref 39), (1, .int l1), (2, .int l2), (3, .int l3), (4, .int l4), (5, .int (0 : Int32))]) rfl (Nat.le_of_ble_eq_true rfl) rfl rfl ?_
            refine g_iload rfl rfl ?_
            refine g_ifeq rfl (fun c1606 => ?_) (fun c1606 => ?_)
            · refine g_iinc (v := (1 : Int32)) (lv' := [(0, .ref 39), (1, .int l1), (2, .int l2), (3, .int l3), (4, .int (l4 + (1 : Int32))), (5, .int (0 : Int32))]) rfl rfl zic_1 (Nat.le_of_ble_eq_true rfl) rfl rfl ?_
              refine g_goto rfl ?_
              exact zgo_sub (zsubk [0, 1, 2, 3, 4] rfl) (zgo_leaf (hb l3 (l4 + (1 : Int32)) u))
            · refine g_aload_n rfl rfl ?_
              refine g_iload_n rfl rfl ?_
              refine g_iload rfl rfl ?_
              refine g_callVI (M' := m_M_isCarried) (d' := 107) (as := [.int l1, .int l4]) (rest := []) (ci := 11) (o := 39) rfl ml_M_240 v_M_isCarried (by decide) rfl (by decide) rfl rfl rfl (Nat.le_of_ble_eq_true rfl) (fun x_ e_ => s_M_isCarried G l1 l4 u x_ e_) (fun q1607r q1607u e1608 b1609 => ?_)
              refine g_ifeq rfl (fun c1610 => ?_) (fun c1610 => ?_)
              · refine g_iinc (v := (1 : Int32)) (lv' := [(0, .ref 39), (1, .int l1), (2, .int l2), (3, .int l3), (4, .int (l4 + (1 : Int32))), (5, .int (0 : Int32))]) rfl rfl zic_1 (Nat.le_of_ble_eq_true rfl) rfl rfl ?_
                refine g_goto rfl ?_
                exact zgo_sub (zsubk [0, 1, 2, 3, 4] rfl) (zgo_leaf (hb l3 (l4 + (1 : Int32)) q1607u))
              · refine g_iload rfl rfl ?_
                refine g_istore_n (lv' := [(0, .ref 39), (1, .int l1), (2, .int l2), (3, .int l4), (4, .int l4), (5, .int (0 : Int32))]) rfl (Nat.le_of_ble_eq_true rfl) rfl rfl ?_
                refine g_iinc (v := (1 : Int32)) (lv' := [(0, .ref 39), (1, .int l1), (2, .int l2), (3, .int l4), (4, .int (l4 + (1 : Int32))), (5, .int (0 : Int32))]) rfl rfl zic_1 (Nat.le_of_ble_eq_true rfl) rfl rfl ?_
                refine g_goto rfl ?_
                exact zgo_sub (zsubk [0, 1, 2, 3, 4] rfl) (zgo_leaf (hb l4 (l4 + (1 : Int32)) q1607u))
          · refine g_iconst (v := (1 : Int32)) rfl zic_1 ?_
            refine g_goto rfl ?_
            refine g_istore (lv' := [(0, .ref 39), (1, .int l1), (2, .int l2), (3, .int l3), (4, .int l4), (5, .int (1 : Int32))]) rfl (Nat.le_of_ble_eq_true rfl) rfl rfl ?_
            refine g_iload rfl rfl ?_
            refine g_ifeq rfl (fun c1611 => ?_) (fun c1611 => ?_)
            · refine g_iinc (v := (1 : Int32)) (lv' := [(0, .ref 39), (1, .int l1), (2, .int l2), (3, .int l3), (4, .int (l4 + (1 : Int32))), (5, .int (1 : Int32))]) rfl rfl zic_1 (Nat.le_of_ble_eq_true rfl) rfl rfl ?_
              refine g_goto rfl ?_
              exact zgo_sub (zsubk [0, 1, 2, 3, 4] rfl) (zgo_leaf (hb l3 (l4 + (1 : Int32)) u))
            · refine g_aload_n rfl rfl ?_
              refine g_iload_n rfl rfl ?_
              refine g_iload rfl rfl ?_
              refine g_callVI (M' := m_M_isCarried) (d' := 107) (as := [.int l1, .int l4]) (rest := []) (ci := 11) (o := 39) rfl ml_M_240 v_M_isCarried (by decide) rfl (by decide) rfl rfl rfl (Nat.le_of_ble_eq_true rfl) (fun x_ e_ => s_M_isCarried G l1 l4 u x_ e_) (fun q1612r q1612u e1613 b1614 => ?_)
              refine g_ifeq rfl (fun c1615 => ?_) (fun c1615 => ?_)
              · refine g_iinc (v := (1 : Int32)) (lv' := [(0, .ref 39), (1, .int l1), (2, .int l2), (3, .int l3), (4, .int (l4 + (1 : Int32))), (5, .int (1 : Int32))]) rfl rfl zic_1 (Nat.le_of_ble_eq_true rfl) rfl rfl ?_
                refine g_goto rfl ?_
                exact zgo_sub (zsubk [0, 1, 2, 3, 4] rfl) (zgo_leaf (hb l3 (l4 + (1 : Int32)) q1612u))
              · refine g_iload rfl rfl ?_
                refine g_istore_n (lv' := [(0, .ref 39), (1, .int l1), (2, .int l2), (3, .int l4), (4, .int l4), (5, .int (1 : Int32))]) rfl (Nat.le_of_ble_eq_true rfl) rfl rfl ?_
                refine g_iinc (v := (1 : Int32)) (lv' := [(0, .ref 39), (1, .int l1), (2, .int l2), (3, .int l4), (4, .int (l4 + (1 : Int32))), (5, .int (1 : Int32))]) rfl rfl zic_1 (Nat.le_of_ble_eq_true rfl) rfl rfl ?_
                refine g_goto rfl ?_
                exact zgo_sub (zsubk [0, 1, 2, 3, 4] rfl) (zgo_leaf (hb l4 (l4 + (1 : Int32)) q1612u))
set_option maxRecDepth 100000 in
set_option maxHeartbeats 4000000 in
theorem wa_M_silenced_16 (G : ZG) (l2 : Int32) (l3 : Int32) (u : ZSt) : ZGo G m_M_silenced 108 (a_M_silenced_16 l2 l3 u) zkI 58 [(0, .ref 39), (2, .int l2), (3, .int l3)] [] u := by
  unfold a_M_silenced_16
  refine g_iload_n rfl rfl ?_
  refine g_iflt rfl (fun c1616 => ?_) (fun c1616 => ?_)
  · refine g_iload_n rfl rfl ?_
    refine g_goto rfl ?_
    exact g_iret rfl (Or.inl rfl) rfl
  · refine g_iload_n rfl rfl ?_
    refine g_ifne rfl (fun c1617 => ?_) (fun c1617 => ?_)
    · refine g_aload_n rfl rfl ?_
      refine g_iload_n rfl rfl ?_
      refine g_callVP (M' := m_M_feesOf) (d' := 2) (as := [.int l3]) (rest := []) (ci := 11) (o := 39) rfl ml_M_243 v_M_feesOf (by decide) rfl (by decide) rfl rfl rfl (Nat.le_of_ble_eq_true rfl) (fun x_ e_ => s_M_feesOf G l3 u x_ e_) (fun q1618 e1619 b1620 => ?_)
      exact g_iret rfl (Or.inl rfl) rfl
    · refine g_iload_n rfl rfl ?_
      refine g_goto rfl ?_
      exact g_iret rfl (Or.inl rfl) rfl
set_option maxRecDepth 100000 in
set_option maxHeartbeats 4000000 in
theorem w_M_silenced (G : ZG) (a : Int32) (b : Int32) (u : ZSt) : ZGo G m_M_silenced 108 (f_M_silenced a b u) zkI 0 [(0, .ref 39), (1, .int a), (2, .int b)] [] u := by
  unfold f_M_silenced
  refine g_aload_n rfl rfl ?_
  refine g_iload_n rfl rfl ?_
  refine g_callVP (M' := m_M_isBundle) (d' := 2) (as := [.int a]) (rest := []) (ci := 11) (o := 39) rfl ml_M_232 v_M_isBundle (by decide) rfl (by decide) rfl rfl rfl (Nat.le_of_ble_eq_true rfl) (fun x_ e_ => s_M_isBundle G a u x_ e_) (fun q1560 e1561 b1562 => ?_)
  refine g_ifeq rfl (fun c1563 => ?_) (fun c1563 => ?_)
  · refine g_iconst (v := (-1 : Int32)) rfl zic_m1 ?_
    exact g_iret rfl (Or.inl rfl) rfl
  · refine g_iload_n rfl rfl ?_
    refine g_i2l rfl ?_
    refine g_lconst (v := (0 : Int64)) rfl rfl ?_
    refine g_lconst (v := (1 : Int64)) rfl rfl ?_
    refine g_callSP (M' := m_M_within) (d' := 1) (as := [.long b.toInt64, .long (0 : Int64), .long (1 : Int64)]) (rest := []) rfl ml_M_97 v_M_within (by decide) rfl rfl (Nat.le_of_ble_eq_true rfl) (fun x_ e_ => s_M_within G b.toInt64 (0 : Int64) (1 : Int64) u x_ e_) (fun q1564 e1565 b1566 => ?_)
    refine g_ifne rfl (fun c1567 => ?_) (fun c1567 => ?_)
    · refine g_bipush (v := (-2 : Int32)) rfl zib_m2 ?_
      refine g_istore_n (lv' := [(0, .ref 39), (1, .int a), (2, .int b), (3, .int (-2 : Int32))]) rfl (Nat.le_of_ble_eq_true rfl) rfl rfl ?_
      refine g_iconst (v := (0 : Int32)) rfl zic_0 ?_
      refine g_istore (lv' := [(0, .ref 39), (1, .int a), (2, .int b), (3, .int (-2 : Int32)), (4, .int (0 : Int32))]) rfl (Nat.le_of_ble_eq_true rfl) rfl rfl ?_
      refine zgo_sub (lv' := [(0, .ref 39), (1, .int a), (2, .int b), (3, .int (-2 : Int32)), (4, .int (0 : Int32))]) (zsubk [0, 1, 2, 3, 4] rfl) ?_
      refine zgo_loop (σ := Int32 × Int32 × ZSt) (lvf := fun s => [(0, .ref 39), (1, .int a), (2, .int b), (3, .int s.1), (4, .int s.2.1)]) (uf := (fun s => s.2.2)) ?_ zfu _
      intro s K' ih he
      refine wb_M_silenced_16 G a b s.1 s.2.1 s.2.2 K' ?_ ?_
      · intro c0 c1 v
        exact ih (c0, c1, v)
      · intro c0 c1 v
        rw [he]
        exact zgo_unleaf (wa_M_silenced_16 G b c0 v)
    · refine g_iconst (v := (-1 : Int32)) rfl zic_m1 ?_
      exact g_iret rfl (Or.inl rfl) rfl
theorem s_M_silenced (G : ZG) (a : Int32) (b : Int32) (u : ZSt) (x : Int32 × ZSt) (hx : f_M_silenced a b u = some x) : ZSpec G m_M_silenced 108 [.ref 39, .int a, .int b] u (zemI x) :=
  ZSpec.go k_M_silenced (Nat.le_of_ble_eq_true rfl) (w_M_silenced G a b u) (tgt := zemI x) (by rw [hx]; rfl)
set_option maxRecDepth 100000 in
set_option maxHeartbeats 4000000 in
theorem wb_Finder_fewestLeftOut_4 (G : ZG) (l1 : Int32) (l2 : Int32) (l3 : Int32) (l4 : Int32) (u : ZSt) (K : ((Int32 × Int32 × ZSt) ⊕ (Int32 × Int32 × ZSt)) → Option (Value × ZSt)) (hb : ∀ (l3 : Int32) (l4 : Int32) (u : ZSt), ZGo G m_Finder_fewestLeftOut 5 (K (.inl (l3, l4, u))) some 4 [(0, .ref 22), (1, .int l1), (2, .int l2), (3, .int l3), (4, .int l4)] [] u) (hx : ∀ (l3 : Int32) (l4 : Int32) (u : ZSt), ZGo G m_Finder_fewestLeftOut 5 (K (.inr (l3, l4, u))) some 40 [(3, .int l3)] [] u) : ZGo G m_Finder_fewestLeftOut 5 (b_Finder_fewestLeftOut_4 l1 l2 l3 l4 u) K 4 [(0, .ref 22), (1, .int l1), (2, .int l2), (3, .int l3), (4, .int l4)] [] u := by
  unfold b_Finder_fewestLeftOut_4
  refine g_iload rfl rfl ?_
  refine g_iload_n rfl rfl ?_
  refine g_icmpge rfl (fun c1621 => ?_) (fun c1621 => ?_)
  · exact zgo_sub (zsubk [3] rfl) (zgo_leaf (hx l3 l4 u))
  · refine g_iload rfl rfl ?_
    refine g_iload_n rfl rfl ?_
    refine g_iconst (v := (-1 : Int32)) rfl zic_m1 ?_
    refine g_ixor rfl ?_
    refine g_iand rfl ?_
    refine g_ifne rfl (fun c1622 => ?_) (fun c1622 => ?_)
    · refine g_iinc (v := (1 : Int32)) (lv' := [(0, .ref 22), (1, .int l1), (2, .int l2), (3, .int l3), (4, .int (l4 + (1 : Int32)))]) rfl rfl zic_1 (Nat.le_of_ble_eq_true rfl) rfl rfl ?_
      refine g_goto rfl ?_
      exact zgo_sub (zsubk [0, 1, 2, 3, 4] rfl) (zgo_leaf (hb l3 (l4 + (1 : Int32)) u))
    · refine g_iload rfl rfl ?_
      refine g_iload_n rfl rfl ?_
      refine g_callSP (M' := m_Finder_isFewer) (d' := 2) (as := [.int l4, .int l3]) (rest := []) rfl ml_Finder_38 v_Finder_isFewer (by decide) rfl rfl (Nat.le_of_ble_eq_true rfl) (fun x_ e_ => s_Finder_isFewer G l4 l3 u x_ e_) (fun q1623 e1624 b1625 => ?_)
      refine g_ifeq rfl (fun c1626 => ?_) (fun c1626 => ?_)
      · refine g_iinc (v := (1 : Int32)) (lv' := [(0, .ref 22), (1, .int l1), (2, .int l2), (3, .int l3), (4, .int (l4 + (1 : Int32)))]) rfl rfl zic_1 (Nat.le_of_ble_eq_true rfl) rfl rfl ?_
        refine g_goto rfl ?_
        exact zgo_sub (zsubk [0, 1, 2, 3, 4] rfl) (zgo_leaf (hb l3 (l4 + (1 : Int32)) u))
      · refine g_aload_n rfl rfl ?_
        refine g_getR rfl zf_Finder_28 rfl rfl ?_
        refine g_iload_n rfl rfl ?_
        refine g_iload rfl rfl ?_
        refine g_iconst (v := (-1 : Int32)) rfl zic_m1 ?_
        refine g_ixor rfl ?_
        refine g_iand rfl ?_
        refine g_iload_n rfl rfl ?_
        refine g_iload rfl rfl ?_
        refine g_iconst (v := (-1 : Int32)) rfl zic_m1 ?_
        refine g_ixor rfl ?_
        refine g_iand rfl ?_
        refine g_iconst (v := (0 : Int32)) rfl zic_0 ?_
        refine g_callVI (M' := m_Ballot_whoMay) (d' := 4) (as := [.int (l2 &&& (l4 ^^^ (-1 : Int32))), .int (l2 &&& (l4 ^^^ (-1 : Int32))), .int (0 : Int32)]) (rest := []) (ci := 0) (o := 19) rfl ml_Finder_62 v_Ballot_whoMay (by decide) rfl (by decide) rfl rfl rfl (Nat.le_of_ble_eq_true rfl) (fun x_ e_ => s_Ballot_whoMay G (l2 &&& (l4 ^^^ (-1 : Int32))) (l2 &&& (l4 ^^^ (-1 : Int32))) (0 : Int32) u x_ e_) (fun q1627r q1627u e1628 b1629 => ?_)
        refine g_iload_n rfl rfl ?_
        refine g_iushr rfl ?_
        refine g_iconst (v := (1 : Int32)) rfl zic_1 ?_
        refine g_iand rfl ?_
        refine g_ifeq rfl (fun c1630 => ?_) (fun c1630 => ?_)
        · refine g_iinc (v := (1 : Int32)) (lv' := [(0, .ref 22), (1, .int l1), (2, .int l2), (3, .int l3), (4, .int (l4 + (1 : Int32)))]) rfl rfl zic_1 (Nat.le_of_ble_eq_true rfl) rfl rfl ?_
          refine g_goto rfl ?_
          exact zgo_sub (zsubk [0, 1, 2, 3, 4] rfl) (zgo_leaf (hb l3 (l4 + (1 : Int32)) q1627u))
        · refine g_iload rfl rfl ?_
          refine g_istore_n (lv' := [(0, .ref 22), (1, .int l1), (2, .int l2), (3, .int l4), (4, .int l4)]) rfl (Nat.le_of_ble_eq_true rfl) rfl rfl ?_
          refine g_iinc (v := (1 : Int32)) (lv' := [(0, .ref 22), (1, .int l1), (2, .int l2), (3, .int l4), (4, .int (l4 + (1 : Int32)))]) rfl rfl zic_1 (Nat.le_of_ble_eq_true rfl) rfl rfl ?_
          refine g_goto rfl ?_
          exact zgo_sub (zsubk [0, 1, 2, 3, 4] rfl) (zgo_leaf (hb l4 (l4 + (1 : Int32)) q1627u))
set_option maxRecDepth 100000 in
set_option maxHeartbeats 4000000 in
theorem wa_Finder_fewestLeftOut_4 (G : ZG) (l3 : Int32) (u : ZSt) : ZGo G m_Finder_fewestLeftOut 5 (a_Finder_fewestLeftOut_4 l3 u) zkI 40 [(3, .int l3)] [] u := by
  unfold a_Finder_fewestLeftOut_4
  refine g_iload_n rfl rfl ?_
  exact g_iret rfl (Or.inl rfl) rfl
set_option maxRecDepth 100000 in
set_option maxHeartbeats 4000000 in
theorem w_Finder_fewestLeftOut (G : ZG) (a : Int32) (b : Int32) (u : ZSt) : ZGo G m_Finder_fewestLeftOut 5 (f_Finder_fewestLeftOut a b u) zkI 0 [(0, .ref 22), (1, .int a), (2, .int b)] [] u := by
  unfold f_Finder_fewestLeftOut
  refine g_bipush (v := (-2 : Int32)) rfl zib_m2 ?_
  refine g_istore_n (lv' := [(0, .ref 22), (1, .int a), (2, .int b), (3, .int (-2 : Int32))]) rfl (Nat.le_of_ble_eq_true rfl) rfl rfl ?_
  refine g_iconst (v := (0 : Int32)) rfl zic_0 ?_
  refine g_istore (lv' := [(0, .ref 22), (1, .int a), (2, .int b), (3, .int (-2 : Int32)), (4, .int (0 : Int32))]) rfl (Nat.le_of_ble_eq_true rfl) rfl rfl ?_
  refine zgo_sub (lv' := [(0, .ref 22), (1, .int a), (2, .int b), (3, .int (-2 : Int32)), (4, .int (0 : Int32))]) (zsubk [0, 1, 2, 3, 4] rfl) ?_
  refine zgo_loop (σ := Int32 × Int32 × ZSt) (lvf := fun s => [(0, .ref 22), (1, .int a), (2, .int b), (3, .int s.1), (4, .int s.2.1)]) (uf := (fun s => s.2.2)) ?_ zfu _
  intro s K' ih he
  refine wb_Finder_fewestLeftOut_4 G a b s.1 s.2.1 s.2.2 K' ?_ ?_
  · intro c0 c1 v
    exact ih (c0, c1, v)
  · intro c0 c1 v
    rw [he]
    exact zgo_unleaf (wa_Finder_fewestLeftOut_4 G c0 v)
theorem s_Finder_fewestLeftOut (G : ZG) (a : Int32) (b : Int32) (u : ZSt) (x : Int32 × ZSt) (hx : f_Finder_fewestLeftOut a b u = some x) : ZSpec G m_Finder_fewestLeftOut 5 [.ref 22, .int a, .int b] u (zemI x) :=
  ZSpec.go k_Finder_fewestLeftOut (Nat.le_of_ble_eq_true rfl) (w_Finder_fewestLeftOut G a b u) (tgt := zemI x) (by rw [hx]; rfl)
set_option maxRecDepth 100000 in
set_option maxHeartbeats 4000000 in
theorem w_X_leaveOut (G : ZG) (a : Int32) (b : Int32) (u : ZSt) : ZGo G m_X_leaveOut 6 (f_X_leaveOut a b u) zkI 0 [(0, .ref 0), (1, .int a), (2, .int b)] [] u := by
  unfold f_X_leaveOut
  refine g_aload_n rfl rfl ?_
  refine g_getR rfl zf_X_10 rfl rfl ?_
  refine g_iload_n rfl rfl ?_
  refine g_callVP (M' := m_Council_isPerson) (d' := 1) (as := [.int a]) (rest := []) (ci := 3) (o := 1) rfl ml_X_146 v_Council_isPerson (by decide) rfl (by decide) rfl rfl rfl (Nat.le_of_ble_eq_true rfl) (fun x_ e_ => s_Council_isPerson G a u x_ e_) (fun q1631 e1632 b1633 => ?_)
  refine g_ifeq rfl (fun c1634 => ?_) (fun c1634 => ?_)
  · refine g_iconst (v := (-1 : Int32)) rfl zic_m1 ?_
    exact g_iret rfl (Or.inl rfl) rfl
  · refine g_aload_n rfl rfl ?_
    refine g_getR rfl zf_X_10 rfl rfl ?_
    refine g_iload_n rfl rfl ?_
    refine g_callVP (M' := m_Council_isBundle) (d' := 2) (as := [.int b]) (rest := []) (ci := 3) (o := 1) rfl ml_X_187 v_Council_isBundle (by decide) rfl (by decide) rfl rfl rfl (Nat.le_of_ble_eq_true rfl) (fun x_ e_ => s_Council_isBundle G b u x_ e_) (fun q1635 e1636 b1637 => ?_)
    refine g_ifne rfl (fun c1638 => ?_) (fun c1638 => ?_)
    · refine g_aload_n rfl rfl ?_
      refine g_getR rfl zf_X_53 rfl rfl ?_
      refine g_iload_n rfl rfl ?_
      refine g_iload_n rfl rfl ?_
      refine g_callVI (M' := m_Finder_fewestLeftOut) (d' := 5) (as := [.int a, .int b]) (rest := []) (ci := 5) (o := 22) rfl ml_X_205 v_Finder_fewestLeftOut (by decide) rfl (by decide) rfl rfl rfl (Nat.le_of_ble_eq_true rfl) (fun x_ e_ => s_Finder_fewestLeftOut G a b u x_ e_) (fun q1639r q1639u e1640 b1641 => ?_)
      exact g_iret rfl (Or.inl rfl) rfl
    · refine g_iconst (v := (-1 : Int32)) rfl zic_m1 ?_
      exact g_iret rfl (Or.inl rfl) rfl
theorem s_X_leaveOut (G : ZG) (a : Int32) (b : Int32) (u : ZSt) (x : Int32 × ZSt) (hx : f_X_leaveOut a b u = some x) : ZSpec G m_X_leaveOut 6 [.ref 0, .int a, .int b] u (zemI x) :=
  ZSpec.go k_X_leaveOut (Nat.le_of_ble_eq_true rfl) (w_X_leaveOut G a b u) (tgt := zemI x) (by rw [hx]; rfl)
set_option maxRecDepth 100000 in
set_option maxHeartbeats 4000000 in
theorem wb_M_leaveOut_14 (G : ZG) (l1 : Int32) (l2 : Int32) (l3 : Int32) (l4 : Int32) (u : ZSt) (K : ((Int32 × Int32 × ZSt) ⊕ (Int32 × Int32 × ZSt)) → Option (Value × ZSt)) (hb : ∀ (l3 : Int32) (l4 : Int32) (u : ZSt), ZGo G m_M_leaveOut 107 (K (.inl (l3, l4, u))) some 14 [(0, .ref 39), (1, .int l1), (2, .int l2), (3, .int l3), (4, .int l4)] [] u) (hx : ∀ (l3 : Int32) (l4 : Int32) (u : ZSt), ZGo G m_M_leaveOut 107 (K (.inr (l3, l4, u))) some 55 [(3, .int l3)] [] u) : ZGo G m_M_leaveOut 107 (b_M_leaveOut_14 l1 l2 l3 l4 u) K 14 [(0, .ref 39), (1, .int l1), (2, .int l2), (3, .int l3), (4, .int l4)] [] u := by
  unfold b_M_leaveOut_14
  refine g_iload rfl rfl ?_
  refine g_iload_n rfl rfl ?_
  refine g_icmpge rfl (fun c1650 => ?_) (fun c1650 => ?_)
  · exact zgo_sub (zsubk [3] rfl) (zgo_leaf (hx l3 l4 u))
  · refine g_iload rfl rfl ?_
    refine g_iload_n rfl rfl ?_
    refine g_iconst (v := (-1 : Int32)) rfl zic_m1 ?_
    refine g_ixor rfl ?_
    refine g_iand rfl ?_
    refine g_ifne rfl (fun c1651 => ?_) (fun c1651 => ?_)
    · refine g_iinc (v := (1 : Int32)) (lv' := [(0, .ref 39), (1, .int l1), (2, .int l2), (3, .int l3), (4, .int (l4 + (1 : Int32)))]) rfl rfl zic_1 (Nat.le_of_ble_eq_true rfl) rfl rfl ?_
      refine g_goto rfl ?_
      exact zgo_sub (zsubk [0, 1, 2, 3, 4] rfl) (zgo_leaf (hb l3 (l4 + (1 : Int32)) u))
    · refine g_iload_n rfl rfl ?_
      refine g_iflt rfl (fun c1652 => ?_) (fun c1652 => ?_)
      · refine g_aload_n rfl rfl ?_
        refine g_iload_n rfl rfl ?_
        refine g_iload rfl rfl ?_
        refine g_iconst (v := (-1 : Int32)) rfl zic_m1 ?_
        refine g_ixor rfl ?_
        refine g_iand rfl ?_
        refine g_iload_n rfl rfl ?_
        refine g_iload rfl rfl ?_
        refine g_iconst (v := (-1 : Int32)) rfl zic_m1 ?_
        refine g_ixor rfl ?_
        refine g_iand rfl ?_
        refine g_iconst (v := (0 : Int32)) rfl zic_0 ?_
        refine g_callVV (M' := m_M_asks) (d' := 106) (as := [.int (l2 &&& (l4 ^^^ (-1 : Int32))), .int (l2 &&& (l4 ^^^ (-1 : Int32))), .int (0 : Int32)]) (rest := []) (ci := 11) (o := 39) rfl ml_M_226 v_M_asks (by decide) rfl (by decide) rfl rfl rfl (Nat.le_of_ble_eq_true rfl) (fun x_ e_ => s_M_asks G (l2 &&& (l4 ^^^ (-1 : Int32))) (l2 &&& (l4 ^^^ (-1 : Int32))) (0 : Int32) u x_ e_) (fun q1653 e1654 b1655 => ?_)
        refine g_aload_n rfl rfl ?_
        refine g_getI rfl zf_M_212 rfl rfl rfl ?_
        refine g_iload_n rfl rfl ?_
        refine g_callSP (M' := m_M_isIn) (d' := 1) (as := [.int (q1653.1 3925), .int l1]) (rest := []) rfl ml_M_118 v_M_isIn (by decide) rfl rfl (Nat.le_of_ble_eq_true rfl) (fun x_ e_ => s_M_isIn G (q1653.1 3925) l1 q1653 x_ e_) (fun q1656 e1657 b1658 => ?_)
        refine g_ifeq rfl (fun c1659 => ?_) (fun c1659 => ?_)
        · refine g_iload_n rfl rfl ?_
          refine g_istore_n (lv' := [(0, .ref 39), (1, .int l1), (2, .int l2), (3, .int l3), (4, .int l4)]) rfl (Nat.le_of_ble_eq_true rfl) rfl rfl ?_
          refine g_iinc (v := (1 : Int32)) (lv' := [(0, .ref 39), (1, .int l1), (2, .int l2), (3, .int l3), (4, .int (l4 + (1 : Int32)))]) rfl rfl zic_1 (Nat.le_of_ble_eq_true rfl) rfl rfl ?_
          refine g_goto rfl ?_
          exact zgo_sub (zsubk [0, 1, 2, 3, 4] rfl) (zgo_leaf (hb l3 (l4 + (1 : Int32)) q1653))
        · refine g_iload rfl rfl ?_
          refine g_goto rfl ?_
          refine g_istore_n (lv' := [(0, .ref 39), (1, .int l1), (2, .int l2), (3, .int l4), (4, .int l4)]) rfl (Nat.le_of_ble_eq_true rfl) rfl rfl ?_
          refine g_iinc (v := (1 : Int32)) (lv' := [(0, .ref 39), (1, .int l1), (2, .int l2), (3, .int l4), (4, .int (l4 + (1 : Int32)))]) rfl rfl zic_1 (Nat.le_of_ble_eq_true rfl) rfl rfl ?_
          refine g_goto rfl ?_
          exact zgo_sub (zsubk [0, 1, 2, 3, 4] rfl) (zgo_leaf (hb l4 (l4 + (1 : Int32)) q1653))
      · refine g_iload rfl rfl ?_
        refine g_callSP (M' := m_M_bitsOf) (d' := 1) (as := [.int l4]) (rest := []) rfl ml_M_205 v_M_bitsOf (by decide) rfl rfl (Nat.le_of_ble_eq_true rfl) (fun x_ e_ => s_M_bitsOf G l4 u x_ e_) (fun q1660 e1661 b1662 => ?_)
        refine g_iload_n rfl rfl ?_
        refine g_callSP (M' := m_M_bitsOf) (d' := 1) (as := [.int l3]) (rest := [.int q1660]) rfl ml_M_205 v_M_bitsOf (by decide) rfl rfl (Nat.le_of_ble_eq_true rfl) (fun x_ e_ => s_M_bitsOf G l3 u x_ e_) (fun q1663 e1664 b1665 => ?_)
        refine g_icmplt rfl (fun c1666 => ?_) (fun c1666 => ?_)
        · refine g_aload_n rfl rfl ?_
          refine g_iload_n rfl rfl ?_
          refine g_iload rfl rfl ?_
          refine g_iconst (v := (-1 : Int32)) rfl zic_m1 ?_
          refine g_ixor rfl ?_
          refine g_iand rfl ?_
          refine g_iload_n rfl rfl ?_
          refine g_iload rfl rfl ?_
          refine g_iconst (v := (-1 : Int32)) rfl zic_m1 ?_
          refine g_ixor rfl ?_
          refine g_iand rfl ?_
          refine g_iconst (v := (0 : Int32)) rfl zic_0 ?_
          refine g_callVV (M' := m_M_asks) (d' := 106) (as := [.int (l2 &&& (l4 ^^^ (-1 : Int32))), .int (l2 &&& (l4 ^^^ (-1 : Int32))), .int (0 : Int32)]) (rest := []) (ci := 11) (o := 39) rfl ml_M_226 v_M_asks (by decide) rfl (by decide) rfl rfl rfl (Nat.le_of_ble_eq_true rfl) (fun x_ e_ => s_M_asks G (l2 &&& (l4 ^^^ (-1 : Int32))) (l2 &&& (l4 ^^^ (-1 : Int32))) (0 : Int32) u x_ e_) (fun q1667 e1668 b1669 => ?_)
          refine g_aload_n rfl rfl ?_
          refine g_getI rfl zf_M_212 rfl rfl rfl ?_
          refine g_iload_n rfl rfl ?_
          refine g_callSP (M' := m_M_isIn) (d' := 1) (as := [.int (q1667.1 3925), .int l1]) (rest := []) rfl ml_M_118 v_M_isIn (by decide) rfl rfl (Nat.le_of_ble_eq_true rfl) (fun x_ e_ => s_M_isIn G (q1667.1 3925) l1 q1667 x_ e_) (fun q1670 e1671 b1672 => ?_)
          refine g_ifeq rfl (fun c1673 => ?_) (fun c1673 => ?_)
          · refine g_iload_n rfl rfl ?_
            refine g_istore_n (lv' := [(0, .ref 39), (1, .int l1), (2, .int l2), (3, .int l3), (4, .int l4)]) rfl (Nat.le_of_ble_eq_true rfl) rfl rfl ?_
            refine g_iinc (v := (1 : Int32)) (lv' := [(0, .ref 39), (1, .int l1), (2, .int l2), (3, .int l3), (4, .int (l4 + (1 : Int32)))]) rfl rfl zic_1 (Nat.le_of_ble_eq_true rfl) rfl rfl ?_
            refine g_goto rfl ?_
            exact zgo_sub (zsubk [0, 1, 2, 3, 4] rfl) (zgo_leaf (hb l3 (l4 + (1 : Int32)) q1667))
          · refine g_iload rfl rfl ?_
            refine g_goto rfl ?_
            refine g_istore_n (lv' := [(0, .ref 39), (1, .int l1), (2, .int l2), (3, .int l4), (4, .int l4)]) rfl (Nat.le_of_ble_eq_true rfl) rfl rfl ?_
            refine g_iinc (v := (1 : Int32)) (lv' := [(0, .ref 39), (1, .int l1), (2, .int l2), (3, .int l4), (4, .int (l4 + (1 : Int32)))]) rfl rfl zic_1 (Nat.le_of_ble_eq_true rfl) rfl rfl ?_
            refine g_goto rfl ?_
            exact zgo_sub (zsubk [0, 1, 2, 3, 4] rfl) (zgo_leaf (hb l4 (l4 + (1 : Int32)) q1667))
        · refine g_goto rfl ?_
          refine g_iinc (v := (1 : Int32)) (lv' := [(0, .ref 39), (1, .int l1), (2, .int l2), (3, .int l3), (4, .int (l4 + (1 : Int32)))]) rfl rfl zic_1 (Nat.le_of_ble_eq_true rfl) rfl rfl ?_
          refine g_goto rfl ?_
          exact zgo_sub (zsubk [0, 1, 2, 3, 4] rfl) (zgo_leaf (hb l3 (l4 + (1 : Int32)) u))
set_option maxRecDepth 100000 in
set_option maxHeartbeats 4000000 in
theorem wa_M_leaveOut_14 (G : ZG) (l3 : Int32) (u : ZSt) : ZGo G m_M_leaveOut 107 (a_M_leaveOut_14 l3 u) zkI 55 [(3, .int l3)] [] u := by
  unfold a_M_leaveOut_14
  refine g_iload_n rfl rfl ?_
  exact g_iret rfl (Or.inl rfl) rfl
set_option maxRecDepth 100000 in
set_option maxHeartbeats 4000000 in
theorem w_M_leaveOut (G : ZG) (a : Int32) (b : Int32) (u : ZSt) : ZGo G m_M_leaveOut 107 (f_M_leaveOut a b u) zkI 0 [(0, .ref 39), (1, .int a), (2, .int b)] [] u := by
  unfold f_M_leaveOut
  refine g_aload_n rfl rfl ?_
  refine g_iload_n rfl rfl ?_
  refine g_callVP (M' := m_M_isPerson) (d' := 2) (as := [.int a]) (rest := []) (ci := 11) (o := 39) rfl ml_M_104 v_M_isPerson (by decide) rfl (by decide) rfl rfl rfl (Nat.le_of_ble_eq_true rfl) (fun x_ e_ => s_M_isPerson G a u x_ e_) (fun q1642 e1643 b1644 => ?_)
  refine g_ifeq rfl (fun c1645 => ?_) (fun c1645 => ?_)
  · refine g_iconst (v := (-1 : Int32)) rfl zic_m1 ?_
    exact g_iret rfl (Or.inl rfl) rfl
  · refine g_aload_n rfl rfl ?_
    refine g_iload_n rfl rfl ?_
    refine g_callVP (M' := m_M_isBundle) (d' := 2) (as := [.int b]) (rest := []) (ci := 11) (o := 39) rfl ml_M_232 v_M_isBundle (by decide) rfl (by decide) rfl rfl rfl (Nat.le_of_ble_eq_true rfl) (fun x_ e_ => s_M_isBundle G b u x_ e_) (fun q1646 e1647 b1648 => ?_)
    refine g_ifne rfl (fun c1649 => ?_) (fun c1649 => ?_)
    · refine g_bipush (v := (-2 : Int32)) rfl zib_m2 ?_
      refine g_istore_n (lv' := [(0, .ref 39), (1, .int a), (2, .int b), (3, .int (-2 : Int32))]) rfl (Nat.le_of_ble_eq_true rfl) rfl rfl ?_
      refine g_iconst (v := (0 : Int32)) rfl zic_0 ?_
      refine g_istore (lv' := [(0, .ref 39), (1, .int a), (2, .int b), (3, .int (-2 : Int32)), (4, .int (0 : Int32))]) rfl (Nat.le_of_ble_eq_true rfl) rfl rfl ?_
      refine zgo_sub (lv' := [(0, .ref 39), (1, .int a), (2, .int b), (3, .int (-2 : Int32)), (4, .int (0 : Int32))]) (zsubk [0, 1, 2, 3, 4] rfl) ?_
      refine zgo_loop (σ := Int32 × Int32 × ZSt) (lvf := fun s => [(0, .ref 39), (1, .int a), (2, .int b), (3, .int s.1), (4, .int s.2.1)]) (uf := (fun s => s.2.2)) ?_ zfu _
      intro s K' ih he
      refine wb_M_leaveOut_14 G a b s.1 s.2.1 s.2.2 K' ?_ ?_
      · intro c0 c1 v
        exact ih (c0, c1, v)
      · intro c0 c1 v
        rw [he]
        exact zgo_unleaf (wa_M_leaveOut_14 G c0 v)
    · refine g_iconst (v := (-1 : Int32)) rfl zic_m1 ?_
      exact g_iret rfl (Or.inl rfl) rfl
theorem s_M_leaveOut (G : ZG) (a : Int32) (b : Int32) (u : ZSt) (x : Int32 × ZSt) (hx : f_M_leaveOut a b u = some x) : ZSpec G m_M_leaveOut 107 [.ref 39, .int a, .int b] u (zemI x) :=
  ZSpec.go k_M_leaveOut (Nat.le_of_ble_eq_true rfl) (w_M_leaveOut G a b u) (tgt := zemI x) (by rw [hx]; rfl)
set_option maxRecDepth 100000 in
set_option maxHeartbeats 4000000 in
theorem wb_Finder_carriedAlone_4 (G : ZG) (l1 : Int32) (l2 : Int32) (u : ZSt) (K : ((Int32 × Int32 × ZSt) ⊕ (Int32 × Int32 × ZSt)) → Option (Value × ZSt)) (hb : ∀ (l1 : Int32) (l2 : Int32) (u : ZSt), ZGo G m_Finder_carriedAlone 6 (K (.inl (l1, l2, u))) some 4 [(0, .ref 22), (1, .int l1), (2, .int l2)] [] u) (hx : ∀ (l1 : Int32) (l2 : Int32) (u : ZSt), ZGo G m_Finder_carriedAlone 6 (K (.inr (l1, l2, u))) some 27 [(1, .int l1)] [] u) : ZGo G m_Finder_carriedAlone 6 (b_Finder_carriedAlone_4 l1 l2 u) K 4 [(0, .ref 22), (1, .int l1), (2, .int l2)] [] u := by
  unfold b_Finder_carriedAlone_4
  refine g_iload_n rfl rfl ?_
  refine g_aload_n rfl rfl ?_
  refine g_getR rfl zf_Finder_24 rfl rfl ?_
  refine g_getI rfl zf_Finder_66 rfl rfl rfl ?_
  refine g_icmpge rfl (fun c1674 => ?_) (fun c1674 => ?_)
  · exact zgo_sub (zsubk [1] rfl) (zgo_leaf (hx l1 l2 u))
  · refine g_iload_n rfl rfl ?_
    refine g_aload_n rfl rfl ?_
    refine g_getR rfl zf_Finder_28 rfl rfl ?_
    refine g_iconst (v := (1 : Int32)) rfl zic_1 ?_
    refine g_iload_n rfl rfl ?_
    refine g_ishl rfl ?_
    refine g_iconst (v := (0 : Int32)) rfl zic_0 ?_
    refine g_callVI (M' := m_Ballot_isCarried) (d' := 5) (as := [.int ((1 : Int32) <<< (l2 &&& 31)), .int (0 : Int32)]) (rest := [.int l1]) (ci := 0) (o := 19) rfl ml_Finder_42 v_Ballot_isCarried (by decide) rfl (by decide) rfl rfl rfl (Nat.le_of_ble_eq_true rfl) (fun x_ e_ => s_Ballot_isCarried G ((1 : Int32) <<< (l2 &&& 31)) (0 : Int32) u x_ e_) (fun q1675r q1675u e1676 b1677 => ?_)
    refine g_ifeq rfl (fun c1678 => ?_) (fun c1678 => ?_)
    · refine g_iconst (v := (0 : Int32)) rfl zic_0 ?_
      refine g_ior rfl ?_
      refine g_istore_n (lv' := [(0, .ref 22), (1, .int (l1 ||| (0 : Int32))), (2, .int l2)]) rfl (Nat.le_of_ble_eq_true rfl) rfl rfl ?_
      refine g_iinc (v := (1 : Int32)) (lv' := [(0, .ref 22), (1, .int (l1 ||| (0 : Int32))), (2, .int (l2 + (1 : Int32)))]) rfl rfl zic_1 (Nat.le_of_ble_eq_true rfl) rfl rfl ?_
      refine g_goto rfl ?_
      exact zgo_sub (zsubk [0, 1, 2] rfl) (zgo_leaf (hb (l1 ||| (0 : Int32)) (l2 + (1 : Int32)) q1675u))
    · refine g_iconst (v := (1 : Int32)) rfl zic_1 ?_
      refine g_iload_n rfl rfl ?_
      refine g_ishl rfl ?_
      refine g_goto rfl ?_
      refine g_ior rfl ?_
      refine g_istore_n (lv' := [(0, .ref 22), (1, .int (l1 ||| ((1 : Int32) <<< (l2 &&& 31)))), (2, .int l2)]) rfl (Nat.le_of_ble_eq_true rfl) rfl rfl ?_
      refine g_iinc (v := (1 : Int32)) (lv' := [(0, .ref 22), (1, .int (l1 ||| ((1 : Int32) <<< (l2 &&& 31)))), (2, .int (l2 + (1 : Int32)))]) rfl rfl zic_1 (Nat.le_of_ble_eq_true rfl) rfl rfl ?_
      refine g_goto rfl ?_
      exact zgo_sub (zsubk [0, 1, 2] rfl) (zgo_leaf (hb (l1 ||| ((1 : Int32) <<< (l2 &&& 31))) (l2 + (1 : Int32)) q1675u))
set_option maxRecDepth 100000 in
set_option maxHeartbeats 4000000 in
theorem wa_Finder_carriedAlone_4 (G : ZG) (l1 : Int32) (u : ZSt) : ZGo G m_Finder_carriedAlone 6 (a_Finder_carriedAlone_4 l1 u) zkI 27 [(1, .int l1)] [] u := by
  unfold a_Finder_carriedAlone_4
  refine g_iload_n rfl rfl ?_
  exact g_iret rfl (Or.inl rfl) rfl
set_option maxRecDepth 100000 in
set_option maxHeartbeats 4000000 in
theorem w_Finder_carriedAlone (G : ZG) (u : ZSt) : ZGo G m_Finder_carriedAlone 6 (f_Finder_carriedAlone u) zkI 0 [(0, .ref 22)] [] u := by
  unfold f_Finder_carriedAlone
  refine g_iconst (v := (0 : Int32)) rfl zic_0 ?_
  refine g_istore_n (lv' := [(0, .ref 22), (1, .int (0 : Int32))]) rfl (Nat.le_of_ble_eq_true rfl) rfl rfl ?_
  refine g_iconst (v := (0 : Int32)) rfl zic_0 ?_
  refine g_istore_n (lv' := [(0, .ref 22), (1, .int (0 : Int32)), (2, .int (0 : Int32))]) rfl (Nat.le_of_ble_eq_true rfl) rfl rfl ?_
  refine zgo_sub (lv' := [(0, .ref 22), (1, .int (0 : Int32)), (2, .int (0 : Int32))]) (zsubk [0, 1, 2] rfl) ?_
  refine zgo_loop (σ := Int32 × Int32 × ZSt) (lvf := fun s => [(0, .ref 22), (1, .int s.1), (2, .int s.2.1)]) (uf := (fun s => s.2.2)) ?_ zfu _
  intro s K' ih he
  refine wb_Finder_carriedAlone_4 G s.1 s.2.1 s.2.2 K' ?_ ?_
  · intro c0 c1 v
    exact ih (c0, c1, v)
  · intro c0 c1 v
    rw [he]
    exact zgo_unleaf (wa_Finder_carriedAlone_4 G c0 v)
theorem s_Finder_carriedAlone (G : ZG) (u : ZSt) (x : Int32 × ZSt) (hx : f_Finder_carriedAlone u = some x) : ZSpec G m_Finder_carriedAlone 6 [.ref 22] u (zemI x) :=
  ZSpec.go k_Finder_carriedAlone (Nat.le_of_ble_eq_true rfl) (w_Finder_carriedAlone G u) (tgt := zemI x) (by rw [hx]; rfl)
set_option maxRecDepth 100000 in
set_option maxHeartbeats 4000000 in
theorem w_X_alone (G : ZG) (u : ZSt) : ZGo G m_X_alone 7 (f_X_alone u) zkI 0 [(0, .ref 0)] [] u := by
  unfold f_X_alone
  refine g_aload_n rfl rfl ?_
  refine g_getR rfl zf_X_53 rfl rfl ?_
  refine g_callVI (M' := m_Finder_carriedAlone) (d' := 6) (as := []) (rest := []) (ci := 5) (o := 22) rfl ml_X_208 v_Finder_carriedAlone (by decide) rfl (by decide) rfl rfl rfl (Nat.le_of_ble_eq_true rfl) (fun x_ e_ => s_Finder_carriedAlone G  u x_ e_) (fun q1679r q1679u e1680 b1681 => ?_)
  exact g_iret rfl (Or.inl rfl) rfl
theorem s_X_alone (G : ZG) (u : ZSt) (x : Int32 × ZSt) (hx : f_X_alone u = some x) : ZSpec G m_X_alone 7 [.ref 0] u (zemI x) :=
  ZSpec.go k_X_alone (Nat.le_of_ble_eq_true rfl) (w_X_alone G u) (tgt := zemI x) (by rw [hx]; rfl)
set_option maxRecDepth 100000 in
set_option maxHeartbeats 4000000 in
theorem wb_M_alone_4 (G : ZG) (l1 : Int32) (l2 : Int32) (u : ZSt) (K : ((Int32 × Int32 × ZSt) ⊕ (Int32 × Int32 × ZSt)) → Option (Value × ZSt)) (hb : ∀ (l1 : Int32) (l2 : Int32) (u : ZSt), ZGo G m_M_alone 108 (K (.inl (l1, l2, u))) some 4 [(0, .ref 39), (1, .int l1), (2, .int l2)] [] u) (hx : ∀ (l1 : Int32) (l2 : Int32) (u : ZSt), ZGo G m_M_alone 108 (K (.inr (l1, l2, u))) some 25 [(1, .int l1)] [] u) : ZGo G m_M_alone 108 (b_M_alone_4 l1 l2 u) K 4 [(0, .ref 39), (1, .int l1), (2, .int l2)] [] u := by
  unfold b_M_alone_4
  refine g_iload_n rfl rfl ?_
  refine g_aload_n rfl rfl ?_
  refine g_getI rfl zf_M_101 rfl rfl rfl ?_
  refine g_icmpge rfl (fun c1682 => ?_) (fun c1682 => ?_)
  · exact zgo_sub (zsubk [1] rfl) (zgo_leaf (hx l1 l2 u))
  · refine g_iload_n rfl rfl ?_
    refine g_aload_n rfl rfl ?_
    refine g_iconst (v := (1 : Int32)) rfl zic_1 ?_
    refine g_iload_n rfl rfl ?_
    refine g_ishl rfl ?_
    refine g_iconst (v := (0 : Int32)) rfl zic_0 ?_
    refine g_callVI (M' := m_M_isCarried) (d' := 107) (as := [.int ((1 : Int32) <<< (l2 &&& 31)), .int (0 : Int32)]) (rest := [.int l1]) (ci := 11) (o := 39) rfl ml_M_240 v_M_isCarried (by decide) rfl (by decide) rfl rfl rfl (Nat.le_of_ble_eq_true rfl) (fun x_ e_ => s_M_isCarried G ((1 : Int32) <<< (l2 &&& 31)) (0 : Int32) u x_ e_) (fun q1683r q1683u e1684 b1685 => ?_)
    refine g_ifeq rfl (fun c1686 => ?_) (fun c1686 => ?_)
    · refine g_iconst (v := (0 : Int32)) rfl zic_0 ?_
      refine g_ior rfl ?_
      refine g_istore_n (lv' := [(0, .ref 39), (1, .int (l1 ||| (0 : Int32))), (2, .int l2)]) rfl (Nat.le_of_ble_eq_true rfl) rfl rfl ?_
      refine g_iinc (v := (1 : Int32)) (lv' := [(0, .ref 39), (1, .int (l1 ||| (0 : Int32))), (2, .int (l2 + (1 : Int32)))]) rfl rfl zic_1 (Nat.le_of_ble_eq_true rfl) rfl rfl ?_
      refine g_goto rfl ?_
      exact zgo_sub (zsubk [0, 1, 2] rfl) (zgo_leaf (hb (l1 ||| (0 : Int32)) (l2 + (1 : Int32)) q1683u))
    · refine g_iconst (v := (1 : Int32)) rfl zic_1 ?_
      refine g_iload_n rfl rfl ?_
      refine g_ishl rfl ?_
      refine g_goto rfl ?_
      refine g_ior rfl ?_
      refine g_istore_n (lv' := [(0, .ref 39), (1, .int (l1 ||| ((1 : Int32) <<< (l2 &&& 31)))), (2, .int l2)]) rfl (Nat.le_of_ble_eq_true rfl) rfl rfl ?_
      refine g_iinc (v := (1 : Int32)) (lv' := [(0, .ref 39), (1, .int (l1 ||| ((1 : Int32) <<< (l2 &&& 31)))), (2, .int (l2 + (1 : Int32)))]) rfl rfl zic_1 (Nat.le_of_ble_eq_true rfl) rfl rfl ?_
      refine g_goto rfl ?_
      exact zgo_sub (zsubk [0, 1, 2] rfl) (zgo_leaf (hb (l1 ||| ((1 : Int32) <<< (l2 &&& 31))) (l2 + (1 : Int32)) q1683u))
set_option maxRecDepth 100000 in
set_option maxHeartbeats 4000000 in
theorem wa_M_alone_4 (G : ZG) (l1 : Int32) (u : ZSt) : ZGo G m_M_alone 108 (a_M_alone_4 l1 u) zkI 25 [(1, .int l1)] [] u := by
  unfold a_M_alone_4
  refine g_iload_n rfl rfl ?_
  exact g_iret rfl (Or.inl rfl) rfl
set_option maxRecDepth 100000 in
set_option maxHeartbeats 4000000 in
theorem w_M_alone (G : ZG) (u : ZSt) : ZGo G m_M_alone 108 (f_M_alone u) zkI 0 [(0, .ref 39)] [] u := by
  unfold f_M_alone
  refine g_iconst (v := (0 : Int32)) rfl zic_0 ?_
  refine g_istore_n (lv' := [(0, .ref 39), (1, .int (0 : Int32))]) rfl (Nat.le_of_ble_eq_true rfl) rfl rfl ?_
  refine g_iconst (v := (0 : Int32)) rfl zic_0 ?_
  refine g_istore_n (lv' := [(0, .ref 39), (1, .int (0 : Int32)), (2, .int (0 : Int32))]) rfl (Nat.le_of_ble_eq_true rfl) rfl rfl ?_
  refine zgo_sub (lv' := [(0, .ref 39), (1, .int (0 : Int32)), (2, .int (0 : Int32))]) (zsubk [0, 1, 2] rfl) ?_
  refine zgo_loop (σ := Int32 × Int32 × ZSt) (lvf := fun s => [(0, .ref 39), (1, .int s.1), (2, .int s.2.1)]) (uf := (fun s => s.2.2)) ?_ zfu _
  intro s K' ih he
  refine wb_M_alone_4 G s.1 s.2.1 s.2.2 K' ?_ ?_
  · intro c0 c1 v
    exact ih (c0, c1, v)
  · intro c0 c1 v
    rw [he]
    exact zgo_unleaf (wa_M_alone_4 G c0 v)
theorem s_M_alone (G : ZG) (u : ZSt) (x : Int32 × ZSt) (hx : f_M_alone u = some x) : ZSpec G m_M_alone 108 [.ref 39] u (zemI x) :=
  ZSpec.go k_M_alone (Nat.le_of_ble_eq_true rfl) (w_M_alone G u) (tgt := zemI x) (by rw [hx]; rfl)
set_option maxRecDepth 100000 in
set_option maxHeartbeats 4000000 in
theorem wb_Finder_part_43 (G : ZG) (l1 : Int32) (l2 : Int32) (l3 : Int32) (l4 : Int32) (u : ZSt) (K : ((Int32 × ZSt) ⊕ (Int32 × ZSt)) → Option (Value × ZSt)) (hb : ∀ (l4 : Int32) (u : ZSt), ZGo G m_Finder_part 6 (K (.inl (l4, u))) some 43 [(0, .ref 22), (1, .int l1), (2, .int l2), (3, .int l3), (4, .int l4)] [] u) (hx : ∀ (l4 : Int32) (u : ZSt), ZGo G m_Finder_part 6 (K (.inr (l4, u))) some 88 [(0, .ref 22), (1, .int l1), (2, .int l2)] [] u) : ZGo G m_Finder_part 6 (b_Finder_part_43 l1 l2 l3 l4 u) K 43 [(0, .ref 22), (1, .int l1), (2, .int l2), (3, .int l3), (4, .int l4)] [] u := by
  unfold b_Finder_part_43
  refine g_iload rfl rfl ?_
  refine g_iload_n rfl rfl ?_
  refine g_icmpgt rfl (fun c1696 => ?_) (fun c1696 => ?_)
  · exact zgo_sub (zsubk [0, 1, 2] rfl) (zgo_leaf (hx l4 u))
  · refine g_iload rfl rfl ?_
    refine g_iload_n rfl rfl ?_
    refine g_iconst (v := (-1 : Int32)) rfl zic_m1 ?_
    refine g_ixor rfl ?_
    refine g_iand rfl ?_
    refine g_ifne rfl (fun c1697 => ?_) (fun c1697 => ?_)
    · refine g_iinc (v := (1 : Int32)) (lv' := [(0, .ref 22), (1, .int l1), (2, .int l2), (3, .int l3), (4, .int (l4 + (1 : Int32)))]) rfl rfl zic_1 (Nat.le_of_ble_eq_true rfl) rfl rfl ?_
      refine g_goto rfl ?_
      exact zgo_sub (zsubk [0, 1, 2, 3, 4] rfl) (zgo_leaf (hb (l4 + (1 : Int32)) u))
    · refine g_iload rfl rfl ?_
      refine g_iload_n rfl rfl ?_
      refine g_iand rfl ?_
      refine g_ifeq rfl (fun c1698 => ?_) (fun c1698 => ?_)
      · refine g_iinc (v := (1 : Int32)) (lv' := [(0, .ref 22), (1, .int l1), (2, .int l2), (3, .int l3), (4, .int (l4 + (1 : Int32)))]) rfl rfl zic_1 (Nat.le_of_ble_eq_true rfl) rfl rfl ?_
        refine g_goto rfl ?_
        exact zgo_sub (zsubk [0, 1, 2, 3, 4] rfl) (zgo_leaf (hb (l4 + (1 : Int32)) u))
      · refine g_aload_n rfl rfl ?_
        refine g_getR rfl zf_Finder_21 rfl rfl ?_
        refine g_iload rfl rfl ?_
        refine g_iald rfl rfl (fun o1704 => ?_)
        refine g_aload_n rfl rfl ?_
        refine g_getR rfl zf_Finder_15 rfl rfl ?_
        refine g_iload_n rfl rfl ?_
        refine g_iload rfl rfl ?_
        refine g_iconst (v := (-1 : Int32)) rfl zic_m1 ?_
        refine g_ixor rfl ?_
        refine g_iand rfl ?_
        refine g_iald rfl rfl (fun o1703 => ?_)
        refine g_iadd rfl ?_
        refine g_istore (lv' := [(0, .ref 22), (1, .int l1), (2, .int l2), (3, .int l3), (4, .int l4), (5, .int ((u.2.1 26 l4.toNatClampNeg) + (u.2.1 24 (l2 &&& (l4 ^^^ (-1 : Int32))).toNatClampNeg)))]) rfl (Nat.le_of_ble_eq_true rfl) rfl rfl ?_
        refine g_iload rfl rfl ?_
        refine g_aload_n rfl rfl ?_
        refine g_getR rfl zf_Finder_15 rfl rfl ?_
        refine g_iload_n rfl rfl ?_
        refine g_iald rfl rfl (fun o1702 => ?_)
        refine g_icmple rfl (fun c1699 => ?_) (fun c1699 => ?_)
        · refine g_iinc (v := (1 : Int32)) (lv' := [(0, .ref 22), (1, .int l1), (2, .int l2), (3, .int l3), (4, .int (l4 + (1 : Int32))), (5, .int ((u.2.1 26 l4.toNatClampNeg) + (u.2.1 24 (l2 &&& (l4 ^^^ (-1 : Int32))).toNatClampNeg)))]) rfl rfl zic_1 (Nat.le_of_ble_eq_true rfl) rfl rfl ?_
          refine g_goto rfl ?_
          exact zgo_sub (zsubk [0, 1, 2, 3, 4] rfl) (zgo_leaf (hb (l4 + (1 : Int32)) u))
        · refine g_aload_n rfl rfl ?_
          refine g_getR rfl zf_Finder_15 rfl rfl ?_
          refine g_iload_n rfl rfl ?_
          refine g_iload rfl rfl ?_
          refine g_iast rfl rfl (fun o1701 => ?_)
          refine g_aload_n rfl rfl ?_
          refine g_getR rfl zf_Finder_18 rfl rfl ?_
          refine g_iload_n rfl rfl ?_
          refine g_iload rfl rfl ?_
          refine g_iast rfl rfl (fun o1700 => ?_)
          refine g_iinc (v := (1 : Int32)) (lv' := [(0, .ref 22), (1, .int l1), (2, .int l2), (3, .int l3), (4, .int (l4 + (1 : Int32))), (5, .int ((u.2.1 26 l4.toNatClampNeg) + (u.2.1 24 (l2 &&& (l4 ^^^ (-1 : Int32))).toNatClampNeg)))]) rfl rfl zic_1 (Nat.le_of_ble_eq_true rfl) rfl rfl ?_
          refine g_goto rfl ?_
          exact zgo_sub (zsubk [0, 1, 2, 3, 4] rfl) (zgo_leaf (hb (l4 + (1 : Int32)) (za (za u 24 l2.toNatClampNeg ((u.2.1 26 l4.toNatClampNeg) + (u.2.1 24 (l2 &&& (l4 ^^^ (-1 : Int32))).toNatClampNeg))) 25 l2.toNatClampNeg l4)))
set_option maxRecDepth 100000 in
set_option maxHeartbeats 4000000 in
theorem wa_Finder_part_43 (G : ZG) (l1 : Int32) (l2 : Int32) (u : ZSt) (K : ((Int32 × ZSt) ⊕ (Int32 × ZSt)) → Option (Value × ZSt)) (hb : ∀ (l2 : Int32) (u : ZSt), ZGo G m_Finder_part 6 (K (.inl (l2, u))) some 11 [(0, .ref 22), (1, .int l1), (2, .int l2)] [] u) (hx : ∀ (l2 : Int32) (u : ZSt), ZGo G m_Finder_part 6 (K (.inr (l2, u))) some 90 [] [] u) : ZGo G m_Finder_part 6 (a_Finder_part_43 l1 l2 u) K 88 [(0, .ref 22), (1, .int l1), (2, .int l2)] [] u := by
  unfold a_Finder_part_43
  refine g_iinc (v := (1 : Int32)) (lv' := [(0, .ref 22), (1, .int l1), (2, .int (l2 + (1 : Int32)))]) rfl rfl zic_1 (Nat.le_of_ble_eq_true rfl) rfl rfl ?_
  refine g_goto rfl ?_
  exact zgo_sub (zsubk [0, 1, 2] rfl) (zgo_leaf (hb (l2 + (1 : Int32)) u))
set_option maxRecDepth 100000 in
set_option maxHeartbeats 4000000 in
theorem wb_Finder_part_11 (G : ZG) (l1 : Int32) (l2 : Int32) (u : ZSt) (K : ((Int32 × ZSt) ⊕ (Int32 × ZSt)) → Option (Value × ZSt)) (hb : ∀ (l2 : Int32) (u : ZSt), ZGo G m_Finder_part 6 (K (.inl (l2, u))) some 11 [(0, .ref 22), (1, .int l1), (2, .int l2)] [] u) (hx : ∀ (l2 : Int32) (u : ZSt), ZGo G m_Finder_part 6 (K (.inr (l2, u))) some 90 [] [] u) : ZGo G m_Finder_part 6 (b_Finder_part_11 l1 l2 u) K 11 [(0, .ref 22), (1, .int l1), (2, .int l2)] [] u := by
  unfold b_Finder_part_11
  refine g_iload_n rfl rfl ?_
  refine g_iload_n rfl rfl ?_
  refine g_icmpgt rfl (fun c1690 => ?_) (fun c1690 => ?_)
  · exact zgo_sub (zsubk [] rfl) (zgo_leaf (hx l2 u))
  · refine g_iload_n rfl rfl ?_
    refine g_bipush (v := (64 : Int32)) rfl zib_64 ?_
    refine g_icmpge rfl (fun c1691 => ?_) (fun c1691 => ?_)
    · exact zgo_sub (zsubk [] rfl) (zgo_leaf (hx l2 u))
    · refine g_aload_n rfl rfl ?_
      refine g_getR rfl zf_Finder_21 rfl rfl ?_
      refine g_iload_n rfl rfl ?_
      refine g_aload_n rfl rfl ?_
      refine g_getR rfl zf_Finder_28 rfl rfl ?_
      refine g_iload_n rfl rfl ?_
      refine g_iconst (v := (0 : Int32)) rfl zic_0 ?_
      refine g_callVI (M' := m_Ballot_isCarried) (d' := 5) (as := [.int l2, .int (0 : Int32)]) (rest := [.int l2, .ref 26]) (ci := 0) (o := 19) rfl ml_Finder_42 v_Ballot_isCarried (by decide) rfl (by decide) rfl rfl rfl (Nat.le_of_ble_eq_true rfl) (fun x_ e_ => s_Ballot_isCarried G l2 (0 : Int32) u x_ e_) (fun q1692r q1692u e1693 b1694 => ?_)
      refine g_ifeq rfl (fun c1695 => ?_) (fun c1695 => ?_)
      · refine g_iconst (v := (0 : Int32)) rfl zic_0 ?_
        refine g_iast rfl rfl (fun o1706 => ?_)
        refine g_aload_n rfl rfl ?_
        refine g_getR rfl zf_Finder_15 rfl rfl ?_
        refine g_iload_n rfl rfl ?_
        refine g_iconst (v := (-1 : Int32)) rfl zic_m1 ?_
        refine g_iast rfl rfl (fun o1705 => ?_)
        refine g_iload_n rfl rfl ?_
        refine g_iload_n rfl rfl ?_
        refine g_ineg rfl ?_
        refine g_iand rfl ?_
        refine g_istore_n (lv' := [(0, .ref 22), (1, .int l1), (2, .int l2), (3, .int (l2 &&& (-l2)))]) rfl (Nat.le_of_ble_eq_true rfl) rfl rfl ?_
        refine g_iload_n rfl rfl ?_
        refine g_istore (lv' := [(0, .ref 22), (1, .int l1), (2, .int l2), (3, .int (l2 &&& (-l2))), (4, .int (l2 &&& (-l2)))]) rfl (Nat.le_of_ble_eq_true rfl) rfl rfl ?_
        refine zgo_sub (lv' := [(0, .ref 22), (1, .int l1), (2, .int l2), (3, .int (l2 &&& (-l2))), (4, .int (l2 &&& (-l2)))]) (zsubk [0, 1, 2, 3, 4] rfl) ?_
        refine zgo_loop (σ := Int32 × ZSt) (lvf := fun s => [(0, .ref 22), (1, .int l1), (2, .int l2), (3, .int (l2 &&& (-l2))), (4, .int s.1)]) (uf := (fun s => s.2)) ?_ zfu _
        intro s K' ih he
        refine wb_Finder_part_43 G l1 l2 (l2 &&& (-l2)) s.1 s.2 K' ?_ ?_
        · intro c0 v
          exact ih (c0, v)
        · intro c0 v
          rw [he]
          exact zgo_unleaf (wa_Finder_part_43 G l1 l2 v K hb hx)
      · refine g_iload_n rfl rfl ?_
        refine g_callSP (M' := m_Int_bitCount) (d' := 1) (as := [.int l2]) (rest := [.int l2, .ref 26]) rfl ml_Finder_47 v_Int_bitCount (by decide) rfl rfl (Nat.le_of_ble_eq_true rfl) (fun x_ e_ => s_Int_bitCount G l2 q1692u x_ e_) (fun q1707 e1708 b1709 => ?_)
        refine g_goto rfl ?_
        refine g_iast rfl rfl (fun o1711 => ?_)
        refine g_aload_n rfl rfl ?_
        refine g_getR rfl zf_Finder_15 rfl rfl ?_
        refine g_iload_n rfl rfl ?_
        refine g_iconst (v := (-1 : Int32)) rfl zic_m1 ?_
        refine g_iast rfl rfl (fun o1710 => ?_)
        refine g_iload_n rfl rfl ?_
        refine g_iload_n rfl rfl ?_
        refine g_ineg rfl ?_
        refine g_iand rfl ?_
        refine g_istore_n (lv' := [(0, .ref 22), (1, .int l1), (2, .int l2), (3, .int (l2 &&& (-l2)))]) rfl (Nat.le_of_ble_eq_true rfl) rfl rfl ?_
        refine g_iload_n rfl rfl ?_
        refine g_istore (lv' := [(0, .ref 22), (1, .int l1), (2, .int l2), (3, .int (l2 &&& (-l2))), (4, .int (l2 &&& (-l2)))]) rfl (Nat.le_of_ble_eq_true rfl) rfl rfl ?_
        refine zgo_sub (lv' := [(0, .ref 22), (1, .int l1), (2, .int l2), (3, .int (l2 &&& (-l2))), (4, .int (l2 &&& (-l2)))]) (zsubk [0, 1, 2, 3, 4] rfl) ?_
        refine zgo_loop (σ := Int32 × ZSt) (lvf := fun s => [(0, .ref 22), (1, .int l1), (2, .int l2), (3, .int (l2 &&& (-l2))), (4, .int s.1)]) (uf := (fun s => s.2)) ?_ zfu _
        intro s K' ih he
        refine wb_Finder_part_43 G l1 l2 (l2 &&& (-l2)) s.1 s.2 K' ?_ ?_
        · intro c0 v
          exact ih (c0, v)
        · intro c0 v
          rw [he]
          exact zgo_unleaf (wa_Finder_part_43 G l1 l2 v K hb hx)
set_option maxRecDepth 100000 in
set_option maxHeartbeats 4000000 in
theorem wa_Finder_part_11 (G : ZG) (u : ZSt) : ZGo G m_Finder_part 6 (a_Finder_part_11 u) zkV 90 [] [] u := by
  unfold a_Finder_part_11
  exact g_vret rfl rfl rfl
set_option maxRecDepth 100000 in
set_option maxHeartbeats 4000000 in
theorem w_Finder_part (G : ZG) (u : ZSt) : ZGo G m_Finder_part 6 (f_Finder_part u) zkV 0 [(0, .ref 22)] [] u := by
  unfold f_Finder_part
  refine g_aload_n rfl rfl ?_
  refine g_getR rfl zf_Finder_24 rfl rfl ?_
  refine g_callVP (M' := m_Council_everything) (d' := 1) (as := []) (rest := []) (ci := 3) (o := 1) rfl ml_Finder_32 v_Council_everything (by decide) rfl (by decide) rfl rfl rfl (Nat.le_of_ble_eq_true rfl) (fun x_ e_ => s_Council_everything G  u x_ e_) (fun q1687 e1688 b1689 => ?_)
  refine g_istore_n (lv' := [(0, .ref 22), (1, .int q1687)]) rfl (Nat.le_of_ble_eq_true rfl) rfl rfl ?_
  refine g_aload_n rfl rfl ?_
  refine g_getR rfl zf_Finder_15 rfl rfl ?_
  refine g_iconst (v := (0 : Int32)) rfl zic_0 ?_
  refine g_iconst (v := (0 : Int32)) rfl zic_0 ?_
  refine zgo_of_ck (c := zin (0 : Int32) 64) (by decide) (g_iast rfl rfl (fun _ => ?_))
  refine g_iconst (v := (1 : Int32)) rfl zic_1 ?_
  refine g_istore_n (lv' := [(0, .ref 22), (1, .int q1687), (2, .int (1 : Int32))]) rfl (Nat.le_of_ble_eq_true rfl) rfl rfl ?_
  refine zgo_sub (lv' := [(0, .ref 22), (1, .int q1687), (2, .int (1 : Int32))]) (zsubk [0, 1, 2] rfl) ?_
  refine zgo_loop (σ := Int32 × ZSt) (lvf := fun s => [(0, .ref 22), (1, .int q1687), (2, .int s.1)]) (uf := (fun s => s.2)) ?_ zfu _
  intro s K' ih he
  refine wb_Finder_part_11 G q1687 s.1 s.2 K' ?_ ?_
  · intro c0 v
    exact ih (c0, v)
  · intro c0 v
    rw [he]
    exact zgo_unleaf (wa_Finder_part_11 G  v)
theorem s_Finder_part (G : ZG) (u : ZSt) (x : ZSt) (hx : f_Finder_part u = some x) : ZSpec G m_Finder_part 6 [.ref 22] u (zemV x) :=
  ZSpec.go k_Finder_part (Nat.le_of_ble_eq_true rfl) (w_Finder_part G u) (tgt := zemV x) (by rw [hx]; rfl)
set_option maxRecDepth 100000 in
set_option maxHeartbeats 4000000 in
theorem w_Finder_mostCarried (G : ZG) (u : ZSt) : ZGo G m_Finder_mostCarried 2 (f_Finder_mostCarried u) (zkP u) 0 [(0, .ref 22)] [] u := by
  unfold f_Finder_mostCarried
  refine g_aload_n rfl rfl ?_
  refine g_getR rfl zf_Finder_24 rfl rfl ?_
  refine g_callVP (M' := m_Council_everything) (d' := 1) (as := []) (rest := []) (ci := 3) (o := 1) rfl ml_Finder_32 v_Council_everything (by decide) rfl (by decide) rfl rfl rfl (Nat.le_of_ble_eq_true rfl) (fun x_ e_ => s_Council_everything G  u x_ e_) (fun q1712 e1713 b1714 => ?_)
  refine g_istore_n (lv' := [(0, .ref 22), (1, .int q1712)]) rfl (Nat.le_of_ble_eq_true rfl) rfl rfl ?_
  refine g_iload_n rfl rfl ?_
  refine g_bipush (v := (64 : Int32)) rfl zib_64 ?_
  refine g_icmpge rfl (fun c1715 => ?_) (fun c1715 => ?_)
  · refine g_iconst (v := (-1 : Int32)) rfl zic_m1 ?_
    exact g_iret rfl (Or.inl rfl) rfl
  · refine g_aload_n rfl rfl ?_
    refine g_getR rfl zf_Finder_15 rfl rfl ?_
    refine g_iload_n rfl rfl ?_
    refine g_iald rfl rfl (fun o1716 => ?_)
    refine g_goto rfl ?_
    exact g_iret rfl (Or.inl rfl) rfl
theorem s_Finder_mostCarried (G : ZG) (u : ZSt) (x : Int32) (hx : f_Finder_mostCarried u = some x) : ZSpec G m_Finder_mostCarried 2 [.ref 22] u ((zemP u) x) :=
  ZSpec.go k_Finder_mostCarried (Nat.le_of_ble_eq_true rfl) (w_Finder_mostCarried G u) (tgt := (zemP u) x) (by rw [hx]; rfl)
set_option maxRecDepth 100000 in
set_option maxHeartbeats 4000000 in
theorem wb_Finder_partOf_6 (G : ZG) (l1 : Int32) (l2 : Int32) (l3 : Int32) (u : ZSt) (K : ((Int32 × Int32) ⊕ ((Int32 × Int32) ⊕ (Int32))) → Option (Value × ZSt)) (hb : ∀ (l2 : Int32) (l3 : Int32), ZGo G m_Finder_partOf 2 (K (.inl (l2, l3))) some 6 [(0, .ref 22), (1, .int l1), (2, .int l2), (3, .int l3)] [] u) (hx : ∀ (l2 : Int32) (l3 : Int32), ZGo G m_Finder_partOf 2 (K (.inr (.inl (l2, l3)))) some 39 [] [] u) (hr : ∀ x, K (.inr (.inr x)) = some ((zemP u) x)) : ZGo G m_Finder_partOf 2 (b_Finder_partOf_6 l1 l2 l3 u) K 6 [(0, .ref 22), (1, .int l1), (2, .int l2), (3, .int l3)] [] u := by
  unfold b_Finder_partOf_6
  refine g_iload_n rfl rfl ?_
  refine g_bipush (v := (6 : Int32)) rfl zib_6 ?_
  refine g_icmpge rfl (fun c1720 => ?_) (fun c1720 => ?_)
  · exact zgo_sub (zsubk [] rfl) (zgo_leaf (hx l2 l3))
  · refine g_iload_n rfl rfl ?_
    refine g_ifle rfl (fun c1721 => ?_) (fun c1721 => ?_)
    · exact zgo_sub (zsubk [] rfl) (zgo_leaf (hx l2 l3))
    · refine g_iload_n rfl rfl ?_
      refine g_bipush (v := (64 : Int32)) rfl zib_64 ?_
      refine g_icmpge rfl (fun c1722 => ?_) (fun c1722 => ?_)
      · exact zgo_sub (zsubk [] rfl) (zgo_leaf (hx l2 l3))
      · refine g_aload_n rfl rfl ?_
        refine g_getR rfl zf_Finder_18 rfl rfl ?_
        refine g_iload_n rfl rfl ?_
        refine g_iald rfl rfl (fun o1726 => ?_)
        refine g_iload_n rfl rfl ?_
        refine g_iushr rfl ?_
        refine g_iconst (v := (1 : Int32)) rfl zic_1 ?_
        refine g_iand rfl ?_
        refine g_ifeq rfl (fun c1723 => ?_) (fun c1723 => ?_)
        · refine g_iload_n rfl rfl ?_
          refine g_aload_n rfl rfl ?_
          refine g_getR rfl zf_Finder_18 rfl rfl ?_
          refine g_iload_n rfl rfl ?_
          refine g_iald rfl rfl (fun o1724 => ?_)
          refine g_iconst (v := (-1 : Int32)) rfl zic_m1 ?_
          refine g_ixor rfl ?_
          refine g_iand rfl ?_
          refine g_istore_n (lv' := [(0, .ref 22), (1, .int l1), (2, .int (l2 &&& ((u.2.1 25 l2.toNatClampNeg) ^^^ (-1 : Int32)))), (3, .int l3)]) rfl (Nat.le_of_ble_eq_true rfl) rfl rfl ?_
          refine g_iinc (v := (1 : Int32)) (lv' := [(0, .ref 22), (1, .int l1), (2, .int (l2 &&& ((u.2.1 25 l2.toNatClampNeg) ^^^ (-1 : Int32)))), (3, .int (l3 + (1 : Int32)))]) rfl rfl zic_1 (Nat.le_of_ble_eq_true rfl) rfl rfl ?_
          refine g_goto rfl ?_
          exact zgo_sub (zsubk [0, 1, 2, 3] rfl) (zgo_leaf (hb (l2 &&& ((u.2.1 25 l2.toNatClampNeg) ^^^ (-1 : Int32))) (l3 + (1 : Int32))))
        · refine g_aload_n rfl rfl ?_
          refine g_getR rfl zf_Finder_18 rfl rfl ?_
          refine g_iload_n rfl rfl ?_
          refine g_iald rfl rfl (fun o1725 => ?_)
          exact g_iret rfl (Or.inl rfl) (hr _)
set_option maxRecDepth 100000 in
set_option maxHeartbeats 4000000 in
theorem wa_Finder_partOf_6 (G : ZG) (u : ZSt) : ZGo G m_Finder_partOf 2 (a_Finder_partOf_6 u) (zkP u) 39 [] [] u := by
  unfold a_Finder_partOf_6
  refine g_iconst (v := (-1 : Int32)) rfl zic_m1 ?_
  exact g_iret rfl (Or.inl rfl) rfl
set_option maxRecDepth 100000 in
set_option maxHeartbeats 4000000 in
theorem w_Finder_partOf (G : ZG) (a : Int32) (u : ZSt) : ZGo G m_Finder_partOf 2 (f_Finder_partOf a u) (zkP u) 0 [(0, .ref 22), (1, .int a)] [] u := by
  unfold f_Finder_partOf
  refine g_aload_n rfl rfl ?_
  refine g_getR rfl zf_Finder_24 rfl rfl ?_
  refine g_callVP (M' := m_Council_everything) (d' := 1) (as := []) (rest := []) (ci := 3) (o := 1) rfl ml_Finder_32 v_Council_everything (by decide) rfl (by decide) rfl rfl rfl (Nat.le_of_ble_eq_true rfl) (fun x_ e_ => s_Council_everything G  u x_ e_) (fun q1717 e1718 b1719 => ?_)
  refine g_istore_n (lv' := [(0, .ref 22), (1, .int a), (2, .int q1717)]) rfl (Nat.le_of_ble_eq_true rfl) rfl rfl ?_
  refine g_iconst (v := (0 : Int32)) rfl zic_0 ?_
  refine g_istore_n (lv' := [(0, .ref 22), (1, .int a), (2, .int q1717), (3, .int (0 : Int32))]) rfl (Nat.le_of_ble_eq_true rfl) rfl rfl ?_
  refine zgo_sub (lv' := [(0, .ref 22), (1, .int a), (2, .int q1717), (3, .int (0 : Int32))]) (zsubk [0, 1, 2, 3] rfl) ?_
  refine zgo_loop (σ := Int32 × Int32) (lvf := fun s => [(0, .ref 22), (1, .int a), (2, .int s.1), (3, .int s.2)]) (uf := (fun _ => u)) ?_ zfu _
  intro s K' ih he
  refine wb_Finder_partOf_6 G a s.1 s.2 u K' ?_ ?_ ?_
  · intro c0 c1
    exact ih (c0, c1)
  · intro c0 c1
    rw [he]
    exact zgo_unleaf (wa_Finder_partOf_6 G  u)
  · intro x
    exact (he _).trans rfl
theorem s_Finder_partOf (G : ZG) (a : Int32) (u : ZSt) (x : Int32) (hx : f_Finder_partOf a u = some x) : ZSpec G m_Finder_partOf 2 [.ref 22, .int a] u ((zemP u) x) :=
  ZSpec.go k_Finder_partOf (Nat.le_of_ble_eq_true rfl) (w_Finder_partOf G a u) (tgt := (zemP u) x) (by rw [hx]; rfl)
set_option maxRecDepth 100000 in
set_option maxHeartbeats 4000000 in
theorem w_X_parted (G : ZG) (a : Int32) (u : ZSt) : ZGo G m_X_parted 7 (f_X_parted a u) zkI 0 [(0, .ref 0), (1, .int a)] [] u := by
  unfold f_X_parted
  refine g_iload_n rfl rfl ?_
  refine g_iconst (v := (-1 : Int32)) rfl zic_m1 ?_
  refine g_icmpeq rfl (fun c1727 => ?_) (fun c1727 => ?_)
  · refine g_aload_n rfl rfl ?_
    refine g_getR rfl zf_X_53 rfl rfl ?_
    refine g_callVV (M' := m_Finder_part) (d' := 6) (as := []) (rest := []) (ci := 5) (o := 22) rfl ml_X_211 v_Finder_part (by decide) rfl (by decide) rfl rfl rfl (Nat.le_of_ble_eq_true rfl) (fun x_ e_ => s_Finder_part G  u x_ e_) (fun q1728 e1729 b1730 => ?_)
    refine g_iload_n rfl rfl ?_
    refine g_iconst (v := (-1 : Int32)) rfl zic_m1 ?_
    refine g_icmpne rfl (fun c1731 => ?_) (fun c1731 => ?_)
    · refine g_aload_n rfl rfl ?_
      refine g_getR rfl zf_X_53 rfl rfl ?_
      refine g_iload_n rfl rfl ?_
      refine g_callVP (M' := m_Finder_partOf) (d' := 2) (as := [.int a]) (rest := []) (ci := 5) (o := 22) rfl ml_X_217 v_Finder_partOf (by decide) rfl (by decide) rfl rfl rfl (Nat.le_of_ble_eq_true rfl) (fun x_ e_ => s_Finder_partOf G a q1728 x_ e_) (fun q1732 e1733 b1734 => ?_)
      exact g_iret rfl (Or.inl rfl) rfl
    · refine g_aload_n rfl rfl ?_
      refine g_getR rfl zf_X_53 rfl rfl ?_
      refine g_callVP (M' := m_Finder_mostCarried) (d' := 2) (as := []) (rest := []) (ci := 5) (o := 22) rfl ml_X_214 v_Finder_mostCarried (by decide) rfl (by decide) rfl rfl rfl (Nat.le_of_ble_eq_true rfl) (fun x_ e_ => s_Finder_mostCarried G  q1728 x_ e_) (fun q1735 e1736 b1737 => ?_)
      refine g_goto rfl ?_
      exact g_iret rfl (Or.inl rfl) rfl
  · refine g_aload_n rfl rfl ?_
    refine g_getR rfl zf_X_10 rfl rfl ?_
    refine g_iload_n rfl rfl ?_
    refine g_callVP (M' := m_Council_isMatter) (d' := 1) (as := [.int a]) (rest := []) (ci := 3) (o := 1) rfl ml_X_193 v_Council_isMatter (by decide) rfl (by decide) rfl rfl rfl (Nat.le_of_ble_eq_true rfl) (fun x_ e_ => s_Council_isMatter G a u x_ e_) (fun q1738 e1739 b1740 => ?_)
    refine g_ifne rfl (fun c1741 => ?_) (fun c1741 => ?_)
    · refine g_aload_n rfl rfl ?_
      refine g_getR rfl zf_X_53 rfl rfl ?_
      refine g_callVV (M' := m_Finder_part) (d' := 6) (as := []) (rest := []) (ci := 5) (o := 22) rfl ml_X_211 v_Finder_part (by decide) rfl (by decide) rfl rfl rfl (Nat.le_of_ble_eq_true rfl) (fun x_ e_ => s_Finder_part G  u x_ e_) (fun q1742 e1743 b1744 => ?_)
      refine g_iload_n rfl rfl ?_
      refine g_iconst (v := (-1 : Int32)) rfl zic_m1 ?_
      refine g_icmpne rfl (fun c1745 => ?_) (fun c1745 => ?_)
      · refine g_aload_n rfl rfl ?_
        refine g_getR rfl zf_X_53 rfl rfl ?_
        refine g_iload_n rfl rfl ?_
        refine g_callVP (M' := m_Finder_partOf) (d' := 2) (as := [.int a]) (rest := []) (ci := 5) (o := 22) rfl ml_X_217 v_Finder_partOf (by decide) rfl (by decide) rfl rfl rfl (Nat.le_of_ble_eq_true rfl) (fun x_ e_ => s_Finder_partOf G a q1742 x_ e_) (fun q1746 e1747 b1748 => ?_)
        exact g_iret rfl (Or.inl rfl) rfl
      · refine g_aload_n rfl rfl ?_
        refine g_getR rfl zf_X_53 rfl rfl ?_
        refine g_callVP (M' := m_Finder_mostCarried) (d' := 2) (as := []) (rest := []) (ci := 5) (o := 22) rfl ml_X_214 v_Finder_mostCarried (by decide) rfl (by decide) rfl rfl rfl (Nat.le_of_ble_eq_true rfl) (fun x_ e_ => s_Finder_mostCarried G  q1742 x_ e_) (fun q1749 e1750 b1751 => ?_)
        refine g_goto rfl ?_
        exact g_iret rfl (Or.inl rfl) rfl
    · refine g_iconst (v := (-1 : Int32)) rfl zic_m1 ?_
      exact g_iret rfl (Or.inl rfl) rfl
theorem s_X_parted (G : ZG) (a : Int32) (u : ZSt) (x : Int32 × ZSt) (hx : f_X_parted a u = some x) : ZSpec G m_X_parted 7 [.ref 0, .int a] u (zemI x) :=
  ZSpec.go k_X_parted (Nat.le_of_ble_eq_true rfl) (w_X_parted G a u) (tgt := zemI x) (by rw [hx]; rfl)
set_option maxRecDepth 100000 in
set_option maxHeartbeats 4000000 in
theorem wb_M_parts_7 (G : ZG) (l1 : Int32) (u : ZSt) (K : ((Int32 × ZSt) ⊕ (Int32 × ZSt)) → Option (Value × ZSt)) (hb : ∀ (l1 : Int32) (u : ZSt), ZGo G m_M_parts 108 (K (.inl (l1, u))) some 7 [(0, .ref 39), (1, .int l1)] [] u) (hx : ∀ (l1 : Int32) (u : ZSt), ZGo G m_M_parts 108 (K (.inr (l1, u))) some 23 [(0, .ref 39)] [] u) : ZGo G m_M_parts 108 (b_M_parts_7 l1 u) K 7 [(0, .ref 39), (1, .int l1)] [] u := by
  unfold b_M_parts_7
  refine g_iload_n rfl rfl ?_
  refine g_iconst (v := (1 : Int32)) rfl zic_1 ?_
  refine g_aload_n rfl rfl ?_
  refine g_getI rfl zf_M_101 rfl rfl rfl ?_
  refine g_ishl rfl ?_
  refine g_icmpge rfl (fun c1752 => ?_) (fun c1752 => ?_)
  · exact zgo_sub (zsubk [0] rfl) (zgo_leaf (hx l1 u))
  · refine g_aload_n rfl rfl ?_
    refine g_getR rfl zf_M_43 rfl rfl ?_
    refine g_iload_n rfl rfl ?_
    refine g_aload_n rfl rfl ?_
    refine g_iload_n rfl rfl ?_
    refine g_iconst (v := (0 : Int32)) rfl zic_0 ?_
    refine g_callVI (M' := m_M_isCarried) (d' := 107) (as := [.int l1, .int (0 : Int32)]) (rest := [.int l1, .ref 51]) (ci := 11) (o := 39) rfl ml_M_240 v_M_isCarried (by decide) rfl (by decide) rfl rfl rfl (Nat.le_of_ble_eq_true rfl) (fun x_ e_ => s_M_isCarried G l1 (0 : Int32) u x_ e_) (fun q1753r q1753u e1754 b1755 => ?_)
    refine g_bast rfl rfl (zbo_i b1755) (fun o1756 => ?_)
    refine g_iinc (v := (1 : Int32)) (lv' := [(0, .ref 39), (1, .int (l1 + (1 : Int32)))]) rfl rfl zic_1 (Nat.le_of_ble_eq_true rfl) rfl rfl ?_
    refine g_goto rfl ?_
    exact zgo_sub (zsubk [0, 1] rfl) (zgo_leaf (hb (l1 + (1 : Int32)) (za q1753u 51 l1.toNatClampNeg q1753r)))
set_option maxRecDepth 100000 in
set_option maxHeartbeats 4000000 in
theorem wb_M_parts_43 (G : ZG) (l1 : Int32) (l2 : Int32) (l3 : Int32) (u : ZSt) (K : ((Int32 × ZSt) ⊕ (Int32 × ZSt)) → Option (Value × ZSt)) (hb : ∀ (l3 : Int32) (u : ZSt), ZGo G m_M_parts 108 (K (.inl (l3, u))) some 43 [(0, .ref 39), (1, .int l1), (2, .int l2), (3, .int l3)] [] u) (hx : ∀ (l3 : Int32) (u : ZSt), ZGo G m_M_parts 108 (K (.inr (l3, u))) some 94 [(0, .ref 39), (1, .int l1)] [] u) : ZGo G m_M_parts 108 (b_M_parts_43 l1 l2 l3 u) K 43 [(0, .ref 39), (1, .int l1), (2, .int l2), (3, .int l3)] [] u := by
  unfold b_M_parts_43
  refine g_iload_n rfl rfl ?_
  refine g_iload_n rfl rfl ?_
  refine g_icmpgt rfl (fun c1758 => ?_) (fun c1758 => ?_)
  · exact zgo_sub (zsubk [0, 1] rfl) (zgo_leaf (hx l3 u))
  · refine g_iload_n rfl rfl ?_
    refine g_iload_n rfl rfl ?_
    refine g_iconst (v := (-1 : Int32)) rfl zic_m1 ?_
    refine g_ixor rfl ?_
    refine g_iand rfl ?_
    refine g_ifne rfl (fun c1759 => ?_) (fun c1759 => ?_)
    · refine g_iinc (v := (1 : Int32)) (lv' := [(0, .ref 39), (1, .int l1), (2, .int l2), (3, .int (l3 + (1 : Int32)))]) rfl rfl zic_1 (Nat.le_of_ble_eq_true rfl) rfl rfl ?_
      refine g_goto rfl ?_
      exact zgo_sub (zsubk [0, 1, 2, 3] rfl) (zgo_leaf (hb (l3 + (1 : Int32)) u))
    · refine g_iload_n rfl rfl ?_
      refine g_iload_n rfl rfl ?_
      refine g_iand rfl ?_
      refine g_ifne rfl (fun c1760 => ?_) (fun c1760 => ?_)
      · refine g_aload_n rfl rfl ?_
        refine g_getR rfl zf_M_43 rfl rfl ?_
        refine g_iload_n rfl rfl ?_
        refine g_bald rfl rfl (fun o1775 => ?_)
        refine g_ifeq rfl (fun c1761 => ?_) (fun c1761 => ?_)
        · refine g_iconst (v := (0 : Int32)) rfl zic_0 ?_
          refine g_aload_n rfl rfl ?_
          refine g_getR rfl zf_M_47 rfl rfl ?_
          refine g_iload_n rfl rfl ?_
          refine g_iload_n rfl rfl ?_
          refine g_iconst (v := (-1 : Int32)) rfl zic_m1 ?_
          refine g_ixor rfl ?_
          refine g_iand rfl ?_
          refine g_iald rfl rfl (fun o1766 => ?_)
          refine g_iadd rfl ?_
          refine g_istore (lv' := [(0, .ref 39), (1, .int l1), (2, .int l2), (3, .int l3), (4, .int ((0 : Int32) + (u.2.1 52 (l1 &&& (l3 ^^^ (-1 : Int32))).toNatClampNeg)))]) rfl (Nat.le_of_ble_eq_true rfl) rfl rfl ?_
          refine g_iload rfl rfl ?_
          refine g_aload_n rfl rfl ?_
          refine g_getR rfl zf_M_47 rfl rfl ?_
          refine g_iload_n rfl rfl ?_
          refine g_iald rfl rfl (fun o1765 => ?_)
          refine g_icmple rfl (fun c1762 => ?_) (fun c1762 => ?_)
          · refine g_iinc (v := (1 : Int32)) (lv' := [(0, .ref 39), (1, .int l1), (2, .int l2), (3, .int (l3 + (1 : Int32))), (4, .int ((0 : Int32) + (u.2.1 52 (l1 &&& (l3 ^^^ (-1 : Int32))).toNatClampNeg)))]) rfl rfl zic_1 (Nat.le_of_ble_eq_true rfl) rfl rfl ?_
            refine g_goto rfl ?_
            exact zgo_sub (zsubk [0, 1, 2, 3] rfl) (zgo_leaf (hb (l3 + (1 : Int32)) u))
          · refine g_aload_n rfl rfl ?_
            refine g_getR rfl zf_M_47 rfl rfl ?_
            refine g_iload_n rfl rfl ?_
            refine g_iload rfl rfl ?_
            refine g_iast rfl rfl (fun o1764 => ?_)
            refine g_aload_n rfl rfl ?_
            refine g_getR rfl zf_M_50 rfl rfl ?_
            refine g_iload_n rfl rfl ?_
            refine g_iload_n rfl rfl ?_
            refine g_iast rfl rfl (fun o1763 => ?_)
            refine g_iinc (v := (1 : Int32)) (lv' := [(0, .ref 39), (1, .int l1), (2, .int l2), (3, .int (l3 + (1 : Int32))), (4, .int ((0 : Int32) + (u.2.1 52 (l1 &&& (l3 ^^^ (-1 : Int32))).toNatClampNeg)))]) rfl rfl zic_1 (Nat.le_of_ble_eq_true rfl) rfl rfl ?_
            refine g_goto rfl ?_
            exact zgo_sub (zsubk [0, 1, 2, 3] rfl) (zgo_leaf (hb (l3 + (1 : Int32)) (za (za u 52 l1.toNatClampNeg ((0 : Int32) + (u.2.1 52 (l1 &&& (l3 ^^^ (-1 : Int32))).toNatClampNeg))) 53 l1.toNatClampNeg l3)))
        · refine g_iload_n rfl rfl ?_
          refine g_callSP (M' := m_M_bitsOf) (d' := 1) (as := [.int l3]) (rest := []) rfl ml_M_205 v_M_bitsOf (by decide) rfl rfl (Nat.le_of_ble_eq_true rfl) (fun x_ e_ => s_M_bitsOf G l3 u x_ e_) (fun q1767 e1768 b1769 => ?_)
          refine g_goto rfl ?_
          refine g_aload_n rfl rfl ?_
          refine g_getR rfl zf_M_47 rfl rfl ?_
          refine g_iload_n rfl rfl ?_
          refine g_iload_n rfl rfl ?_
          refine g_iconst (v := (-1 : Int32)) rfl zic_m1 ?_
          refine g_ixor rfl ?_
          refine g_iand rfl ?_
          refine g_iald rfl rfl (fun o1774 => ?_)
          refine g_iadd rfl ?_
          refine g_istore (lv' := [(0, .ref 39), (1, .int l1), (2, .int l2), (3, .int l3), (4, .int (q1767 + (u.2.1 52 (l1 &&& (l3 ^^^ (-1 : Int32))).toNatClampNeg)))]) rfl (Nat.le_of_ble_eq_true rfl) rfl rfl ?_
          refine g_iload rfl rfl ?_
          refine g_aload_n rfl rfl ?_
          refine g_getR rfl zf_M_47 rfl rfl ?_
          refine g_iload_n rfl rfl ?_
          refine g_iald rfl rfl (fun o1773 => ?_)
          refine g_icmple rfl (fun c1770 => ?_) (fun c1770 => ?_)
          · refine g_iinc (v := (1 : Int32)) (lv' := [(0, .ref 39), (1, .int l1), (2, .int l2), (3, .int (l3 + (1 : Int32))), (4, .int (q1767 + (u.2.1 52 (l1 &&& (l3 ^^^ (-1 : Int32))).toNatClampNeg)))]) rfl rfl zic_1 (Nat.le_of_ble_eq_true rfl) rfl rfl ?_
            refine g_goto rfl ?_
            exact zgo_sub (zsubk [0, 1, 2, 3] rfl) (zgo_leaf (hb (l3 + (1 : Int32)) u))
          · refine g_aload_n rfl rfl ?_
            refine g_getR rfl zf_M_47 rfl rfl ?_
            refine g_iload_n rfl rfl ?_
            refine g_iload rfl rfl ?_
            refine g_iast rfl rfl (fun o1772 => ?_)
            refine g_aload_n rfl rfl ?_
            refine g_getR rfl zf_M_50 rfl rfl ?_
            refine g_iload_n rfl rfl ?_
            refine g_iload_n rfl rfl ?_
            refine g_iast rfl rfl (fun o1771 => ?_)
            refine g_iinc (v := (1 : Int32)) (lv' := [(0, .ref 39), (1, .int l1), (2, .int l2), (3, .int (l3 + (1 : Int32))), (4, .int (q1767 + (u.2.1 52 (l1 &&& (l3 ^^^ (-1 : Int32))).toNatClampNeg)))]) rfl rfl zic_1 (Nat.le_of_ble_eq_true rfl) rfl rfl ?_
            refine g_goto rfl ?_
            exact zgo_sub (zsubk [0, 1, 2, 3] rfl) (zgo_leaf (hb (l3 + (1 : Int32)) (za (za u 52 l1.toNatClampNeg (q1767 + (u.2.1 52 (l1 &&& (l3 ^^^ (-1 : Int32))).toNatClampNeg))) 53 l1.toNatClampNeg l3)))
      · refine g_goto rfl ?_
        refine g_iinc (v := (1 : Int32)) (lv' := [(0, .ref 39), (1, .int l1), (2, .int l2), (3, .int (l3 + (1 : Int32)))]) rfl rfl zic_1 (Nat.le_of_ble_eq_true rfl) rfl rfl ?_
        refine g_goto rfl ?_
        exact zgo_sub (zsubk [0, 1, 2, 3] rfl) (zgo_leaf (hb (l3 + (1 : Int32)) u))
set_option maxRecDepth 100000 in
set_option maxHeartbeats 4000000 in
theorem wa_M_parts_43 (G : ZG) (l1 : Int32) (u : ZSt) (K : ((Int32 × ZSt) ⊕ (Int32 × ZSt)) → Option (Value × ZSt)) (hb : ∀ (l1 : Int32) (u : ZSt), ZGo G m_M_parts 108 (K (.inl (l1, u))) some 25 [(0, .ref 39), (1, .int l1)] [] u) (hx : ∀ (l1 : Int32) (u : ZSt), ZGo G m_M_parts 108 (K (.inr (l1, u))) some 96 [] [] u) : ZGo G m_M_parts 108 (a_M_parts_43 l1 u) K 94 [(0, .ref 39), (1, .int l1)] [] u := by
  unfold a_M_parts_43
  refine g_iinc (v := (1 : Int32)) (lv' := [(0, .ref 39), (1, .int (l1 + (1 : Int32)))]) rfl rfl zic_1 (Nat.le_of_ble_eq_true rfl) rfl rfl ?_
  refine g_goto rfl ?_
  exact zgo_sub (zsubk [0, 1] rfl) (zgo_leaf (hb (l1 + (1 : Int32)) u))
set_option maxRecDepth 100000 in
set_option maxHeartbeats 4000000 in
theorem wb_M_parts_25 (G : ZG) (l1 : Int32) (u : ZSt) (K : ((Int32 × ZSt) ⊕ (Int32 × ZSt)) → Option (Value × ZSt)) (hb : ∀ (l1 : Int32) (u : ZSt), ZGo G m_M_parts 108 (K (.inl (l1, u))) some 25 [(0, .ref 39), (1, .int l1)] [] u) (hx : ∀ (l1 : Int32) (u : ZSt), ZGo G m_M_parts 108 (K (.inr (l1, u))) some 96 [] [] u) : ZGo G m_M_parts 108 (b_M_parts_25 l1 u) K 25 [(0, .ref 39), (1, .int l1)] [] u := by
  unfold b_M_parts_25
  refine g_iload_n rfl rfl ?_
  refine g_iconst (v := (1 : Int32)) rfl zic_1 ?_
  refine g_aload_n rfl rfl ?_
  refine g_getI rfl zf_M_101 rfl rfl rfl ?_
  refine g_ishl rfl ?_
  refine g_icmpge rfl (fun c1757 => ?_) (fun c1757 => ?_)
  · exact zgo_sub (zsubk [] rfl) (zgo_leaf (hx l1 u))
  · refine g_iload_n rfl rfl ?_
    refine g_iload_n rfl rfl ?_
    refine g_ineg rfl ?_
    refine g_iand rfl ?_
    refine g_istore_n (lv' := [(0, .ref 39), (1, .int l1), (2, .int (l1 &&& (-l1)))]) rfl (Nat.le_of_ble_eq_true rfl) rfl rfl ?_
    refine g_aload_n rfl rfl ?_
    refine g_getR rfl zf_M_47 rfl rfl ?_
    refine g_iload_n rfl rfl ?_
    refine g_iconst (v := (-1 : Int32)) rfl zic_m1 ?_
    refine g_iast rfl rfl (fun o1776 => ?_)
    refine g_iconst (v := (1 : Int32)) rfl zic_1 ?_
    refine g_istore_n (lv' := [(0, .ref 39), (1, .int l1), (2, .int (l1 &&& (-l1))), (3, .int (1 : Int32))]) rfl (Nat.le_of_ble_eq_true rfl) rfl rfl ?_
    refine zgo_sub (lv' := [(0, .ref 39), (1, .int l1), (2, .int (l1 &&& (-l1))), (3, .int (1 : Int32))]) (zsubk [0, 1, 2, 3] rfl) ?_
    refine zgo_loop (σ := Int32 × ZSt) (lvf := fun s => [(0, .ref 39), (1, .int l1), (2, .int (l1 &&& (-l1))), (3, .int s.1)]) (uf := (fun s => s.2)) ?_ zfu _
    intro s K' ih he
    refine wb_M_parts_43 G l1 (l1 &&& (-l1)) s.1 s.2 K' ?_ ?_
    · intro c0 v
      exact ih (c0, v)
    · intro c0 v
      rw [he]
      exact zgo_unleaf (wa_M_parts_43 G l1 v K hb hx)
set_option maxRecDepth 100000 in
set_option maxHeartbeats 4000000 in
theorem wa_M_parts_25 (G : ZG) (u : ZSt) : ZGo G m_M_parts 108 (a_M_parts_25 u) zkV 96 [] [] u := by
  unfold a_M_parts_25
  exact g_vret rfl rfl rfl
set_option maxRecDepth 100000 in
set_option maxHeartbeats 4000000 in
theorem wa_M_parts_7 (G : ZG) (u : ZSt) : ZGo G m_M_parts 108 (a_M_parts_7 u) zkV 23 [(0, .ref 39)] [] u := by
  unfold a_M_parts_7
  refine g_iconst (v := (1 : Int32)) rfl zic_1 ?_
  refine g_istore_n (lv' := [(0, .ref 39), (1, .int (1 : Int32))]) rfl (Nat.le_of_ble_eq_true rfl) rfl rfl ?_
  refine zgo_sub (lv' := [(0, .ref 39), (1, .int (1 : Int32))]) (zsubk [0, 1] rfl) ?_
  refine zgo_loop (σ := Int32 × ZSt) (lvf := fun s => [(0, .ref 39), (1, .int s.1)]) (uf := (fun s => s.2)) ?_ zfu _
  intro s K' ih he
  refine wb_M_parts_25 G s.1 s.2 K' ?_ ?_
  · intro c0 v
    exact ih (c0, v)
  · intro c0 v
    rw [he]
    exact zgo_unleaf (wa_M_parts_25 G  v)
set_option maxRecDepth 100000 in
set_option maxHeartbeats 4000000 in
theorem w_M_parts (G : ZG) (u : ZSt) : ZGo G m_M_parts 108 (f_M_parts u) zkV 0 [(0, .ref 39)] [] u := by
  unfold f_M_parts
  refine g_aload_n rfl rfl ?_
  refine g_getR rfl zf_M_47 rfl rfl ?_
  refine g_iconst (v := (0 : Int32)) rfl zic_0 ?_
  refine g_iconst (v := (0 : Int32)) rfl zic_0 ?_
  refine zgo_of_ck (c := zin (0 : Int32) 64) (by decide) (g_iast rfl rfl (fun _ => ?_))
  refine g_iconst (v := (1 : Int32)) rfl zic_1 ?_
  refine g_istore_n (lv' := [(0, .ref 39), (1, .int (1 : Int32))]) rfl (Nat.le_of_ble_eq_true rfl) rfl rfl ?_
  refine zgo_sub (lv' := [(0, .ref 39), (1, .int (1 : Int32))]) (zsubk [0, 1] rfl) ?_
  refine zgo_loop (σ := Int32 × ZSt) (lvf := fun s => [(0, .ref 39), (1, .int s.1)]) (uf := (fun s => s.2)) ?_ zfu _
  intro s K' ih he
  refine wb_M_parts_7 G s.1 s.2 K' ?_ ?_
  · intro c0 v
    exact ih (c0, v)
  · intro c0 v
    rw [he]
    exact zgo_unleaf (wa_M_parts_7 G  v)
theorem s_M_parts (G : ZG) (u : ZSt) (x : ZSt) (hx : f_M_parts u = some x) : ZSpec G m_M_parts 108 [.ref 39] u (zemV x) :=
  ZSpec.go k_M_parts (Nat.le_of_ble_eq_true rfl) (w_M_parts G u) (tgt := zemV x) (by rw [hx]; rfl)
set_option maxRecDepth 100000 in
set_option maxHeartbeats 4000000 in
theorem wb_M_parted_26 (G : ZG) (l1 : Int32) (l2 : Int32) (u : ZSt) (K : ((Int32) ⊕ (Int32)) → Option (Value × ZSt)) (hb : ∀ (l2 : Int32), ZGo G m_M_parted 109 (K (.inl l2)) some 26 [(0, .ref 39), (1, .int l1), (2, .int l2)] [] u) (hx : ∀ (l2 : Int32), ZGo G m_M_parted 109 (K (.inr l2)) some 43 [(0, .ref 39), (2, .int l2)] [] u) : ZGo G m_M_parted 109 (b_M_parted_26 l1 l2 u) K 26 [(0, .ref 39), (1, .int l1), (2, .int l2)] [] u := by
  unfold b_M_parted_26
  refine g_aload_n rfl rfl ?_
  refine g_getR rfl zf_M_50 rfl rfl ?_
  refine g_iload_n rfl rfl ?_
  refine g_iald rfl rfl (fun o1787 => ?_)
  refine g_iload_n rfl rfl ?_
  refine g_callSP (M' := m_M_isIn) (d' := 1) (as := [.int (u.2.1 53 l2.toNatClampNeg), .int l1]) (rest := []) rfl ml_M_118 v_M_isIn (by decide) rfl rfl (Nat.le_of_ble_eq_true rfl) (fun x_ e_ => s_M_isIn G (u.2.1 53 l2.toNatClampNeg) l1 u x_ e_) (fun q1782 e1783 b1784 => ?_)
  refine g_ifne rfl (fun c1785 => ?_) (fun c1785 => ?_)
  · exact zgo_sub (zsubk [0, 2] rfl) (zgo_leaf (hx l2))
  · refine g_iload_n rfl rfl ?_
    refine g_aload_n rfl rfl ?_
    refine g_getR rfl zf_M_50 rfl rfl ?_
    refine g_iload_n rfl rfl ?_
    refine g_iald rfl rfl (fun o1786 => ?_)
    refine g_iconst (v := (-1 : Int32)) rfl zic_m1 ?_
    refine g_ixor rfl ?_
    refine g_iand rfl ?_
    refine g_istore_n (lv' := [(0, .ref 39), (1, .int l1), (2, .int (l2 &&& ((u.2.1 53 l2.toNatClampNeg) ^^^ (-1 : Int32))))]) rfl (Nat.le_of_ble_eq_true rfl) rfl rfl ?_
    refine g_goto rfl ?_
    exact zgo_sub (zsubk [0, 1, 2] rfl) (zgo_leaf (hb (l2 &&& ((u.2.1 53 l2.toNatClampNeg) ^^^ (-1 : Int32)))))
set_option maxRecDepth 100000 in
set_option maxHeartbeats 4000000 in
theorem wa_M_parted_26 (G : ZG) (l2 : Int32) (u : ZSt) : ZGo G m_M_parted 109 (a_M_parted_26 l2 u) zkI 43 [(0, .ref 39), (2, .int l2)] [] u := by
  unfold a_M_parted_26
  refine g_aload_n rfl rfl ?_
  refine g_getR rfl zf_M_50 rfl rfl ?_
  refine g_iload_n rfl rfl ?_
  refine g_iald rfl rfl (fun o1788 => ?_)
  exact g_iret rfl (Or.inl rfl) rfl
set_option maxRecDepth 100000 in
set_option maxHeartbeats 4000000 in
theorem w_M_parted (G : ZG) (a : Int32) (u : ZSt) : ZGo G m_M_parted 109 (f_M_parted a u) zkI 0 [(0, .ref 39), (1, .int a)] [] u := by
  unfold f_M_parted
  refine g_iload_n rfl rfl ?_
  refine g_iconst (v := (-1 : Int32)) rfl zic_m1 ?_
  refine g_icmpeq rfl (fun c1777 => ?_) (fun c1777 => ?_)
  · refine g_aload_n rfl rfl ?_
    refine g_callVV (M' := m_M_parts) (d' := 108) (as := []) (rest := []) (ci := 11) (o := 39) rfl ml_M_246 v_M_parts (by decide) rfl (by decide) rfl rfl rfl (Nat.le_of_ble_eq_true rfl) (fun x_ e_ => s_M_parts G  u x_ e_) (fun q1778 e1779 b1780 => ?_)
    refine g_iconst (v := (1 : Int32)) rfl zic_1 ?_
    refine g_aload_n rfl rfl ?_
    refine g_getI rfl zf_M_101 rfl rfl rfl ?_
    refine g_ishl rfl ?_
    refine g_iconst (v := (1 : Int32)) rfl zic_1 ?_
    refine g_isub rfl ?_
    refine g_istore_n (lv' := [(0, .ref 39), (1, .int a), (2, .int (((1 : Int32) <<< ((q1778.1 3907) &&& 31)) - (1 : Int32)))]) rfl (Nat.le_of_ble_eq_true rfl) rfl rfl ?_
    refine g_iload_n rfl rfl ?_
    refine g_iconst (v := (-1 : Int32)) rfl zic_m1 ?_
    refine g_icmpne rfl (fun c1781 => ?_) (fun c1781 => ?_)
    · refine zgo_sub (lv' := [(0, .ref 39), (1, .int a), (2, .int (((1 : Int32) <<< ((q1778.1 3907) &&& 31)) - (1 : Int32)))]) (zsubk [0, 1, 2] rfl) ?_
      refine zgo_loop (σ := Int32) (lvf := fun s => [(0, .ref 39), (1, .int a), (2, .int s)]) (uf := (fun _ => q1778)) ?_ zfu _
      intro s K' ih he
      refine wb_M_parted_26 G a s q1778 K' ?_ ?_
      · intro c0
        exact ih c0
      · intro c0
        rw [he]
        exact zgo_unleaf (wa_M_parted_26 G c0 q1778)
    · refine g_aload_n rfl rfl ?_
      refine g_getR rfl zf_M_47 rfl rfl ?_
      refine g_iload_n rfl rfl ?_
      refine g_iald rfl rfl (fun o1789 => ?_)
      exact g_iret rfl (Or.inl rfl) rfl
  · refine g_aload_n rfl rfl ?_
    refine g_iload_n rfl rfl ?_
    refine g_callVP (M' := m_M_isMatter) (d' := 2) (as := [.int a]) (rest := []) (ci := 11) (o := 39) rfl ml_M_108 v_M_isMatter (by decide) rfl (by decide) rfl rfl rfl (Nat.le_of_ble_eq_true rfl) (fun x_ e_ => s_M_isMatter G a u x_ e_) (fun q1790 e1791 b1792 => ?_)
    refine g_ifne rfl (fun c1793 => ?_) (fun c1793 => ?_)
    · refine g_aload_n rfl rfl ?_
      refine g_callVV (M' := m_M_parts) (d' := 108) (as := []) (rest := []) (ci := 11) (o := 39) rfl ml_M_246 v_M_parts (by decide) rfl (by decide) rfl rfl rfl (Nat.le_of_ble_eq_true rfl) (fun x_ e_ => s_M_parts G  u x_ e_) (fun q1794 e1795 b1796 => ?_)
      refine g_iconst (v := (1 : Int32)) rfl zic_1 ?_
      refine g_aload_n rfl rfl ?_
      refine g_getI rfl zf_M_101 rfl rfl rfl ?_
      refine g_ishl rfl ?_
      refine g_iconst (v := (1 : Int32)) rfl zic_1 ?_
      refine g_isub rfl ?_
      refine g_istore_n (lv' := [(0, .ref 39), (1, .int a), (2, .int (((1 : Int32) <<< ((q1794.1 3907) &&& 31)) - (1 : Int32)))]) rfl (Nat.le_of_ble_eq_true rfl) rfl rfl ?_
      refine g_iload_n rfl rfl ?_
      refine g_iconst (v := (-1 : Int32)) rfl zic_m1 ?_
      refine g_icmpne rfl (fun c1797 => ?_) (fun c1797 => ?_)
      · refine zgo_sub (lv' := [(0, .ref 39), (1, .int a), (2, .int (((1 : Int32) <<< ((q1794.1 3907) &&& 31)) - (1 : Int32)))]) (zsubk [0, 1, 2] rfl) ?_
        refine zgo_loop (σ := Int32) (lvf := fun s => [(0, .ref 39), (1, .int a), (2, .int s)]) (uf := (fun _ => q1794)) ?_ zfu _
        intro s K' ih he
        refine wb_M_parted_26 G a s q1794 K' ?_ ?_
        · intro c0
          exact ih c0
        · intro c0
          rw [he]
          exact zgo_unleaf (wa_M_parted_26 G c0 q1794)
      · refine g_aload_n rfl rfl ?_
        refine g_getR rfl zf_M_47 rfl rfl ?_
        refine g_iload_n rfl rfl ?_
        refine g_iald rfl rfl (fun o1798 => ?_)
        exact g_iret rfl (Or.inl rfl) rfl
    · refine g_iconst (v := (-1 : Int32)) rfl zic_m1 ?_
      exact g_iret rfl (Or.inl rfl) rfl
