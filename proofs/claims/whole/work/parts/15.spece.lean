/-! by program (gen3.py): each method does what its function says -/
theorem s_M_parted (G : ZG) (a : Int32) (u : ZSt) (x : Int32 × ZSt) (hx : f_M_parted a u = some x) : ZSpec G m_M_parted 109 [.ref 39, .int a] u (zemI x) :=
  ZSpec.go k_M_parted (Nat.le_of_ble_eq_true rfl) (w_M_parted G a u) (tgt := zemI x) (by rw [hx]; rfl)
set_option maxRecDepth 100000 in
set_option maxHeartbeats 4000000 in
theorem wb_Finder_countSays_2 (G : ZG) (l1 : Int32) (u : ZSt) (K : ((Int32 × ZSt) ⊕ (Int32 × ZSt)) → Option (Value × ZSt)) (hb : ∀ (l1 : Int32) (u : ZSt), ZGo G m_Finder_countSays 5 (K (.inl (l1, u))) some 2 [(0, .ref 22), (1, .int l1)] [] u) (hx : ∀ (l1 : Int32) (u : ZSt), ZGo G m_Finder_countSays 5 (K (.inr (l1, u))) some 12 [(0, .ref 22)] [] u) : ZGo G m_Finder_countSays 5 (b_Finder_countSays_2 l1 u) K 2 [(0, .ref 22), (1, .int l1)] [] u := by
  unfold b_Finder_countSays_2
  refine g_iload_n rfl rfl ?_
  refine g_bipush (v := (10 : Int32)) rfl zib_10 ?_
  refine g_icmpge rfl (fun c1799 => ?_) (fun c1799 => ?_)
  · exact zgo_sub (zsubk [0] rfl) (zgo_leaf (hx l1 u))
  · refine g_aload_n rfl rfl ?_
    refine g_getR rfl zf_Finder_9 rfl rfl ?_
    refine g_iload_n rfl rfl ?_
    refine g_iconst (v := (0 : Int32)) rfl zic_0 ?_
    refine g_iast rfl rfl (fun o1800 => ?_)
    refine g_iinc (v := (1 : Int32)) (lv' := [(0, .ref 22), (1, .int (l1 + (1 : Int32)))]) rfl rfl zic_1 (Nat.le_of_ble_eq_true rfl) rfl rfl ?_
    refine g_goto rfl ?_
    exact zgo_sub (zsubk [0, 1] rfl) (zgo_leaf (hb (l1 + (1 : Int32)) (za u 23 l1.toNatClampNeg (0 : Int32))))
set_option maxRecDepth 100000 in
set_option maxHeartbeats 4000000 in
theorem wb_Finder_countSays_30 (G : ZG) (l1 : Int32) (l2 : Int32) (l3 : Int32) (l4 : Int32) (u : ZSt) (K : ((Int32 × ZSt) ⊕ (Int32 × ZSt)) → Option (Value × ZSt)) (hb : ∀ (l4 : Int32) (u : ZSt), ZGo G m_Finder_countSays 5 (K (.inl (l4, u))) some 30 [(0, .ref 22), (1, .int l1), (2, .int l2), (3, .int l3), (4, .int l4)] [] u) (hx : ∀ (l4 : Int32) (u : ZSt), ZGo G m_Finder_countSays 5 (K (.inr (l4, u))) some 47 [(0, .ref 22), (1, .int l1), (2, .int l2)] [] u) : ZGo G m_Finder_countSays 5 (b_Finder_countSays_30 l1 l2 l3 l4 u) K 30 [(0, .ref 22), (1, .int l1), (2, .int l2), (3, .int l3), (4, .int l4)] [] u := by
  unfold b_Finder_countSays_30
  refine g_iload rfl rfl ?_
  refine g_bipush (v := (10 : Int32)) rfl zib_10 ?_
  refine g_icmpge rfl (fun c1808 => ?_) (fun c1808 => ?_)
  · exact zgo_sub (zsubk [0, 1, 2] rfl) (zgo_leaf (hx l4 u))
  · refine g_aload_n rfl rfl ?_
    refine g_getR rfl zf_Finder_9 rfl rfl ?_
    refine g_iload rfl rfl ?_
    refine g_dup2 rfl rfl rfl ?_
    refine g_iald rfl rfl (fun o1810 => ?_)
    refine g_iload_n rfl rfl ?_
    refine g_iload rfl rfl ?_
    refine g_iushr rfl ?_
    refine g_iconst (v := (1 : Int32)) rfl zic_1 ?_
    refine g_iand rfl ?_
    refine g_iadd rfl ?_
    refine g_iast rfl rfl (fun o1809 => ?_)
    refine g_iinc (v := (1 : Int32)) (lv' := [(0, .ref 22), (1, .int l1), (2, .int l2), (3, .int l3), (4, .int (l4 + (1 : Int32)))]) rfl rfl zic_1 (Nat.le_of_ble_eq_true rfl) rfl rfl ?_
    refine g_goto rfl ?_
    exact zgo_sub (zsubk [0, 1, 2, 3, 4] rfl) (zgo_leaf (hb (l4 + (1 : Int32)) (za u 23 l4.toNatClampNeg ((u.2.1 23 l4.toNatClampNeg) + ((zushr l3 l4) &&& (1 : Int32))))))
set_option maxRecDepth 100000 in
set_option maxHeartbeats 4000000 in
theorem wa_Finder_countSays_30 (G : ZG) (l1 : Int32) (l2 : Int32) (u : ZSt) (K : ((Int32 × ZSt) ⊕ (Int32 × ZSt)) → Option (Value × ZSt)) (hb : ∀ (l2 : Int32) (u : ZSt), ZGo G m_Finder_countSays 5 (K (.inl (l2, u))) some 18 [(0, .ref 22), (1, .int l1), (2, .int l2)] [] u) (hx : ∀ (l2 : Int32) (u : ZSt), ZGo G m_Finder_countSays 5 (K (.inr (l2, u))) some 49 [] [] u) : ZGo G m_Finder_countSays 5 (a_Finder_countSays_30 l1 l2 u) K 47 [(0, .ref 22), (1, .int l1), (2, .int l2)] [] u := by
  unfold a_Finder_countSays_30
  refine g_iinc (v := (1 : Int32)) (lv' := [(0, .ref 22), (1, .int l1), (2, .int (l2 + (1 : Int32)))]) rfl rfl zic_1 (Nat.le_of_ble_eq_true rfl) rfl rfl ?_
  refine g_goto rfl ?_
  exact zgo_sub (zsubk [0, 1, 2] rfl) (zgo_leaf (hb (l2 + (1 : Int32)) u))
set_option maxRecDepth 100000 in
set_option maxHeartbeats 4000000 in
theorem wb_Finder_countSays_18 (G : ZG) (l1 : Int32) (l2 : Int32) (u : ZSt) (K : ((Int32 × ZSt) ⊕ (Int32 × ZSt)) → Option (Value × ZSt)) (hb : ∀ (l2 : Int32) (u : ZSt), ZGo G m_Finder_countSays 5 (K (.inl (l2, u))) some 18 [(0, .ref 22), (1, .int l1), (2, .int l2)] [] u) (hx : ∀ (l2 : Int32) (u : ZSt), ZGo G m_Finder_countSays 5 (K (.inr (l2, u))) some 49 [] [] u) : ZGo G m_Finder_countSays 5 (b_Finder_countSays_18 l1 l2 u) K 18 [(0, .ref 22), (1, .int l1), (2, .int l2)] [] u := by
  unfold b_Finder_countSays_18
  refine g_iload_n rfl rfl ?_
  refine g_iload_n rfl rfl ?_
  refine g_icmpgt rfl (fun c1804 => ?_) (fun c1804 => ?_)
  · exact zgo_sub (zsubk [] rfl) (zgo_leaf (hx l2 u))
  · refine g_aload_n rfl rfl ?_
    refine g_getR rfl zf_Finder_28 rfl rfl ?_
    refine g_iload_n rfl rfl ?_
    refine g_iload_n rfl rfl ?_
    refine g_iconst (v := (0 : Int32)) rfl zic_0 ?_
    refine g_callVI (M' := m_Ballot_whoMay) (d' := 4) (as := [.int l2, .int l2, .int (0 : Int32)]) (rest := []) (ci := 0) (o := 19) rfl ml_Finder_62 v_Ballot_whoMay (by decide) rfl (by decide) rfl rfl rfl (Nat.le_of_ble_eq_true rfl) (fun x_ e_ => s_Ballot_whoMay G l2 l2 (0 : Int32) u x_ e_) (fun q1805r q1805u e1806 b1807 => ?_)
    refine g_istore_n (lv' := [(0, .ref 22), (1, .int l1), (2, .int l2), (3, .int q1805r)]) rfl (Nat.le_of_ble_eq_true rfl) rfl rfl ?_
    refine g_iconst (v := (0 : Int32)) rfl zic_0 ?_
    refine g_istore (lv' := [(0, .ref 22), (1, .int l1), (2, .int l2), (3, .int q1805r), (4, .int (0 : Int32))]) rfl (Nat.le_of_ble_eq_true rfl) rfl rfl ?_
    refine zgo_sub (lv' := [(0, .ref 22), (1, .int l1), (2, .int l2), (3, .int q1805r), (4, .int (0 : Int32))]) (zsubk [0, 1, 2, 3, 4] rfl) ?_
    refine zgo_loop (σ := Int32 × ZSt) (lvf := fun s => [(0, .ref 22), (1, .int l1), (2, .int l2), (3, .int q1805r), (4, .int s.1)]) (uf := (fun s => s.2)) ?_ zfu _
    intro s K' ih he
    refine wb_Finder_countSays_30 G l1 l2 q1805r s.1 s.2 K' ?_ ?_
    · intro c0 v
      exact ih (c0, v)
    · intro c0 v
      rw [he]
      exact zgo_unleaf (wa_Finder_countSays_30 G l1 l2 v K hb hx)
set_option maxRecDepth 100000 in
set_option maxHeartbeats 4000000 in
theorem wa_Finder_countSays_18 (G : ZG) (u : ZSt) : ZGo G m_Finder_countSays 5 (a_Finder_countSays_18 u) zkV 49 [] [] u := by
  unfold a_Finder_countSays_18
  exact g_vret rfl rfl rfl
set_option maxRecDepth 100000 in
set_option maxHeartbeats 4000000 in
theorem wa_Finder_countSays_2 (G : ZG) (u : ZSt) : ZGo G m_Finder_countSays 5 (a_Finder_countSays_2 u) zkV 12 [(0, .ref 22)] [] u := by
  unfold a_Finder_countSays_2
  refine g_aload_n rfl rfl ?_
  refine g_getR rfl zf_Finder_24 rfl rfl ?_
  refine g_callVP (M' := m_Council_everything) (d' := 1) (as := []) (rest := []) (ci := 3) (o := 1) rfl ml_Finder_32 v_Council_everything (by decide) rfl (by decide) rfl rfl rfl (Nat.le_of_ble_eq_true rfl) (fun x_ e_ => s_Council_everything G  u x_ e_) (fun q1801 e1802 b1803 => ?_)
  refine g_istore_n (lv' := [(0, .ref 22), (1, .int q1801)]) rfl (Nat.le_of_ble_eq_true rfl) rfl rfl ?_
  refine g_iconst (v := (1 : Int32)) rfl zic_1 ?_
  refine g_istore_n (lv' := [(0, .ref 22), (1, .int q1801), (2, .int (1 : Int32))]) rfl (Nat.le_of_ble_eq_true rfl) rfl rfl ?_
  refine zgo_sub (lv' := [(0, .ref 22), (1, .int q1801), (2, .int (1 : Int32))]) (zsubk [0, 1, 2] rfl) ?_
  refine zgo_loop (σ := Int32 × ZSt) (lvf := fun s => [(0, .ref 22), (1, .int q1801), (2, .int s.1)]) (uf := (fun s => s.2)) ?_ zfu _
  intro s K' ih he
  refine wb_Finder_countSays_18 G q1801 s.1 s.2 K' ?_ ?_
  · intro c0 v
    exact ih (c0, v)
  · intro c0 v
    rw [he]
    exact zgo_unleaf (wa_Finder_countSays_18 G  v)
set_option maxRecDepth 100000 in
set_option maxHeartbeats 4000000 in
theorem w_Finder_countSays (G : ZG) (u : ZSt) : ZGo G m_Finder_countSays 5 (f_Finder_countSays u) zkV 0 [(0, .ref 22)] [] u := by
  unfold f_Finder_countSays
  refine g_iconst (v := (0 : Int32)) rfl zic_0 ?_
  refine g_istore_n (lv' := [(0, .ref 22), (1, .int (0 : Int32))]) rfl (Nat.le_of_ble_eq_true rfl) rfl rfl ?_
  refine zgo_sub (lv' := [(0, .ref 22), (1, .int (0 : Int32))]) (zsubk [0, 1] rfl) ?_
  refine zgo_loop (σ := Int32 × ZSt) (lvf := fun s => [(0, .ref 22), (1, .int s.1)]) (uf := (fun s => s.2)) ?_ zfu _
  intro s K' ih he
  refine wb_Finder_countSays_2 G s.1 s.2 K' ?_ ?_
  · intro c0 v
    exact ih (c0, v)
  · intro c0 v
    rw [he]
    exact zgo_unleaf (wa_Finder_countSays_2 G  v)
theorem s_Finder_countSays (G : ZG) (u : ZSt) (x : ZSt) (hx : f_Finder_countSays u = some x) : ZSpec G m_Finder_countSays 5 [.ref 22] u (zemV x) :=
  ZSpec.go k_Finder_countSays (Nat.le_of_ble_eq_true rfl) (w_Finder_countSays G u) (tgt := zemV x) (by rw [hx]; rfl)
set_option maxRecDepth 100000 in
set_option maxHeartbeats 4000000 in
theorem w_Finder_sayOf (G : ZG) (a : Int32) (u : ZSt) : ZGo G m_Finder_sayOf 6 (f_Finder_sayOf a u) zkI 0 [(0, .ref 22), (1, .int a)] [] u := by
  unfold f_Finder_sayOf
  refine g_aload_n rfl rfl ?_
  refine g_callVV (M' := m_Finder_countSays) (d' := 5) (as := []) (rest := []) (ci := 5) (o := 22) rfl ml_Finder_70 v_Finder_countSays (by decide) rfl (by decide) rfl rfl rfl (Nat.le_of_ble_eq_true rfl) (fun x_ e_ => s_Finder_countSays G  u x_ e_) (fun q1811 e1812 b1813 => ?_)
  refine g_iload_n rfl rfl ?_
  refine g_iflt rfl (fun c1814 => ?_) (fun c1814 => ?_)
  · refine g_iconst (v := (-1 : Int32)) rfl zic_m1 ?_
    exact g_iret rfl (Or.inl rfl) rfl
  · refine g_iload_n rfl rfl ?_
    refine g_bipush (v := (10 : Int32)) rfl zib_10 ?_
    refine g_icmpge rfl (fun c1815 => ?_) (fun c1815 => ?_)
    · refine g_iconst (v := (-1 : Int32)) rfl zic_m1 ?_
      exact g_iret rfl (Or.inl rfl) rfl
    · refine g_aload_n rfl rfl ?_
      refine g_getR rfl zf_Finder_9 rfl rfl ?_
      refine g_iload_n rfl rfl ?_
      refine g_iald rfl rfl (fun o1816 => ?_)
      refine g_goto rfl ?_
      exact g_iret rfl (Or.inl rfl) rfl
theorem s_Finder_sayOf (G : ZG) (a : Int32) (u : ZSt) (x : Int32 × ZSt) (hx : f_Finder_sayOf a u = some x) : ZSpec G m_Finder_sayOf 6 [.ref 22, .int a] u (zemI x) :=
  ZSpec.go k_Finder_sayOf (Nat.le_of_ble_eq_true rfl) (w_Finder_sayOf G a u) (tgt := zemI x) (by rw [hx]; rfl)
set_option maxRecDepth 100000 in
set_option maxHeartbeats 4000000 in
theorem wb_Finder_powerOf_8 (G : ZG) (l1 : Int32) (l3 : Int32) (l2 : Int32) (l4 : Int32) (u : ZSt) (K : ((Int32 × Int32 × ZSt) ⊕ (Int32 × Int32 × ZSt)) → Option (Value × ZSt)) (hb : ∀ (l2 : Int32) (l4 : Int32) (u : ZSt), ZGo G m_Finder_powerOf 5 (K (.inl (l2, l4, u))) some 8 [(0, .ref 22), (1, .int l1), (2, .int l2), (3, .int l3), (4, .int l4)] [] u) (hx : ∀ (l2 : Int32) (l4 : Int32) (u : ZSt), ZGo G m_Finder_powerOf 5 (K (.inr (l2, l4, u))) some 55 [(2, .int l2)] [] u) : ZGo G m_Finder_powerOf 5 (b_Finder_powerOf_8 l1 l3 l2 l4 u) K 8 [(0, .ref 22), (1, .int l1), (2, .int l2), (3, .int l3), (4, .int l4)] [] u := by
  unfold b_Finder_powerOf_8
  refine g_iload rfl rfl ?_
  refine g_iload_n rfl rfl ?_
  refine g_icmpgt rfl (fun c1820 => ?_) (fun c1820 => ?_)
  · exact zgo_sub (zsubk [2] rfl) (zgo_leaf (hx l2 l4 u))
  · refine g_aload_n rfl rfl ?_
    refine g_getR rfl zf_Finder_28 rfl rfl ?_
    refine g_iload rfl rfl ?_
    refine g_iload rfl rfl ?_
    refine g_iconst (v := (0 : Int32)) rfl zic_0 ?_
    refine g_callVI (M' := m_Ballot_whoMay) (d' := 4) (as := [.int l4, .int l4, .int (0 : Int32)]) (rest := []) (ci := 0) (o := 19) rfl ml_Finder_62 v_Ballot_whoMay (by decide) rfl (by decide) rfl rfl rfl (Nat.le_of_ble_eq_true rfl) (fun x_ e_ => s_Ballot_whoMay G l4 l4 (0 : Int32) u x_ e_) (fun q1821r q1821u e1822 b1823 => ?_)
    refine g_istore (lv' := [(0, .ref 22), (1, .int l1), (2, .int l2), (3, .int l3), (4, .int l4), (5, .int q1821r)]) rfl (Nat.le_of_ble_eq_true rfl) rfl rfl ?_
    refine g_iload rfl rfl ?_
    refine g_iconst (v := (1 : Int32)) rfl zic_1 ?_
    refine g_iload_n rfl rfl ?_
    refine g_ishl rfl ?_
    refine g_iconst (v := (-1 : Int32)) rfl zic_m1 ?_
    refine g_ixor rfl ?_
    refine g_iand rfl ?_
    refine g_istore (lv' := [(0, .ref 22), (1, .int l1), (2, .int l2), (3, .int l3), (4, .int l4), (5, .int q1821r), (6, .int (q1821r &&& (((1 : Int32) <<< (l1 &&& 31)) ^^^ (-1 : Int32))))]) rfl (Nat.le_of_ble_eq_true rfl) rfl rfl ?_
    refine g_aload_n rfl rfl ?_
    refine g_getR rfl zf_Finder_28 rfl rfl ?_
    refine g_iload rfl rfl ?_
    refine g_callVP (M' := m_Ballot_fans) (d' := 4) (as := [.int l4]) (rest := []) (ci := 0) (o := 19) rfl ml_Finder_73 v_Ballot_fans (by decide) rfl (by decide) rfl rfl rfl (Nat.le_of_ble_eq_true rfl) (fun x_ e_ => s_Ballot_fans G l4 q1821u x_ e_) (fun q1824 e1825 b1826 => ?_)
    refine g_istore (lv' := [(0, .ref 22), (1, .int l1), (2, .int l2), (3, .int l3), (4, .int l4), (5, .int q1821r), (6, .int (q1821r &&& (((1 : Int32) <<< (l1 &&& 31)) ^^^ (-1 : Int32)))), (7, .int q1824)]) rfl (Nat.le_of_ble_eq_true rfl) rfl rfl ?_
    refine g_aload_n rfl rfl ?_
    refine g_getR rfl zf_Finder_28 rfl rfl ?_
    refine g_iload rfl rfl ?_
    refine g_callVP (M' := m_Ballot_foes) (d' := 4) (as := [.int l4]) (rest := []) (ci := 0) (o := 19) rfl ml_Finder_76 v_Ballot_foes (by decide) rfl (by decide) rfl rfl rfl (Nat.le_of_ble_eq_true rfl) (fun x_ e_ => s_Ballot_foes G l4 q1821u x_ e_) (fun q1827 e1828 b1829 => ?_)
    refine g_istore (lv' := [(0, .ref 22), (1, .int l1), (2, .int l2), (3, .int l3), (4, .int l4), (5, .int q1821r), (6, .int (q1821r &&& (((1 : Int32) <<< (l1 &&& 31)) ^^^ (-1 : Int32)))), (7, .int q1824), (8, .int q1827)]) rfl (Nat.le_of_ble_eq_true rfl) rfl rfl ?_
    refine g_iload rfl rfl ?_
    refine g_iload rfl rfl ?_
    refine g_icmpeq rfl (fun c1830 => ?_) (fun c1830 => ?_)
    · refine g_iinc (v := (1 : Int32)) (lv' := [(0, .ref 22), (1, .int l1), (2, .int l2), (3, .int l3), (4, .int (l4 + (1 : Int32))), (5, .int q1821r), (6, .int (q1821r &&& (((1 : Int32) <<< (l1 &&& 31)) ^^^ (-1 : Int32)))), (7, .int q1824), (8, .int q1827)]) rfl rfl zic_1 (Nat.le_of_ble_eq_true rfl) rfl rfl ?_
      refine g_goto rfl ?_
      exact zgo_sub (zsubk [0, 1, 2, 3, 4] rfl) (zgo_leaf (hb l2 (l4 + (1 : Int32)) q1821u))
    · refine g_aload_n rfl rfl ?_
      refine g_getR rfl zf_Finder_28 rfl rfl ?_
      refine g_iload rfl rfl ?_
      refine g_iload rfl rfl ?_
      refine g_iload rfl rfl ?_
      refine g_callVP (M' := m_Ballot_isCarriedBy) (d' := 3) (as := [.int q1821r, .int q1824, .int q1827]) (rest := []) (ci := 0) (o := 19) rfl ml_Finder_79 v_Ballot_isCarriedBy (by decide) rfl (by decide) rfl rfl rfl (Nat.le_of_ble_eq_true rfl) (fun x_ e_ => s_Ballot_isCarriedBy G q1821r q1824 q1827 q1821u x_ e_) (fun q1831 e1832 b1833 => ?_)
      refine g_aload_n rfl rfl ?_
      refine g_getR rfl zf_Finder_28 rfl rfl ?_
      refine g_iload rfl rfl ?_
      refine g_iload rfl rfl ?_
      refine g_iload rfl rfl ?_
      refine g_callVP (M' := m_Ballot_isCarriedBy) (d' := 3) (as := [.int (q1821r &&& (((1 : Int32) <<< (l1 &&& 31)) ^^^ (-1 : Int32))), .int q1824, .int q1827]) (rest := [.int q1831]) (ci := 0) (o := 19) rfl ml_Finder_79 v_Ballot_isCarriedBy (by decide) rfl (by decide) rfl rfl rfl (Nat.le_of_ble_eq_true rfl) (fun x_ e_ => s_Ballot_isCarriedBy G (q1821r &&& (((1 : Int32) <<< (l1 &&& 31)) ^^^ (-1 : Int32))) q1824 q1827 q1821u x_ e_) (fun q1834 e1835 b1836 => ?_)
      refine g_icmpeq rfl (fun c1837 => ?_) (fun c1837 => ?_)
      · refine g_iinc (v := (1 : Int32)) (lv' := [(0, .ref 22), (1, .int l1), (2, .int l2), (3, .int l3), (4, .int (l4 + (1 : Int32))), (5, .int q1821r), (6, .int (q1821r &&& (((1 : Int32) <<< (l1 &&& 31)) ^^^ (-1 : Int32)))), (7, .int q1824), (8, .int q1827)]) rfl rfl zic_1 (Nat.le_of_ble_eq_true rfl) rfl rfl ?_
        refine g_goto rfl ?_
        exact zgo_sub (zsubk [0, 1, 2, 3, 4] rfl) (zgo_leaf (hb l2 (l4 + (1 : Int32)) q1821u))
      · refine g_iinc (v := (1 : Int32)) (lv' := [(0, .ref 22), (1, .int l1), (2, .int (l2 + (1 : Int32))), (3, .int l3), (4, .int l4), (5, .int q1821r), (6, .int (q1821r &&& (((1 : Int32) <<< (l1 &&& 31)) ^^^ (-1 : Int32)))), (7, .int q1824), (8, .int q1827)]) rfl rfl zic_1 (Nat.le_of_ble_eq_true rfl) rfl rfl ?_
        refine g_iinc (v := (1 : Int32)) (lv' := [(0, .ref 22), (1, .int l1), (2, .int (l2 + (1 : Int32))), (3, .int l3), (4, .int (l4 + (1 : Int32))), (5, .int q1821r), (6, .int (q1821r &&& (((1 : Int32) <<< (l1 &&& 31)) ^^^ (-1 : Int32)))), (7, .int q1824), (8, .int q1827)]) rfl rfl zic_1 (Nat.le_of_ble_eq_true rfl) rfl rfl ?_
        refine g_goto rfl ?_
        exact zgo_sub (zsubk [0, 1, 2, 3, 4] rfl) (zgo_leaf (hb (l2 + (1 : Int32)) (l4 + (1 : Int32)) q1821u))
set_option maxRecDepth 100000 in
set_option maxHeartbeats 4000000 in
theorem wa_Finder_powerOf_8 (G : ZG) (l2 : Int32) (u : ZSt) : ZGo G m_Finder_powerOf 5 (a_Finder_powerOf_8 l2 u) zkI 55 [(2, .int l2)] [] u := by
  unfold a_Finder_powerOf_8
  refine g_iload_n rfl rfl ?_
  exact g_iret rfl (Or.inl rfl) rfl
set_option maxRecDepth 100000 in
set_option maxHeartbeats 4000000 in
theorem w_Finder_powerOf (G : ZG) (a : Int32) (u : ZSt) : ZGo G m_Finder_powerOf 5 (f_Finder_powerOf a u) zkI 0 [(0, .ref 22), (1, .int a)] [] u := by
  unfold f_Finder_powerOf
  refine g_iconst (v := (0 : Int32)) rfl zic_0 ?_
  refine g_istore_n (lv' := [(0, .ref 22), (1, .int a), (2, .int (0 : Int32))]) rfl (Nat.le_of_ble_eq_true rfl) rfl rfl ?_
  refine g_aload_n rfl rfl ?_
  refine g_getR rfl zf_Finder_24 rfl rfl ?_
  refine g_callVP (M' := m_Council_everything) (d' := 1) (as := []) (rest := []) (ci := 3) (o := 1) rfl ml_Finder_32 v_Council_everything (by decide) rfl (by decide) rfl rfl rfl (Nat.le_of_ble_eq_true rfl) (fun x_ e_ => s_Council_everything G  u x_ e_) (fun q1817 e1818 b1819 => ?_)
  refine g_istore_n (lv' := [(0, .ref 22), (1, .int a), (2, .int (0 : Int32)), (3, .int q1817)]) rfl (Nat.le_of_ble_eq_true rfl) rfl rfl ?_
  refine g_iconst (v := (1 : Int32)) rfl zic_1 ?_
  refine g_istore (lv' := [(0, .ref 22), (1, .int a), (2, .int (0 : Int32)), (3, .int q1817), (4, .int (1 : Int32))]) rfl (Nat.le_of_ble_eq_true rfl) rfl rfl ?_
  refine zgo_sub (lv' := [(0, .ref 22), (1, .int a), (2, .int (0 : Int32)), (3, .int q1817), (4, .int (1 : Int32))]) (zsubk [0, 1, 2, 3, 4] rfl) ?_
  refine zgo_loop (σ := Int32 × Int32 × ZSt) (lvf := fun s => [(0, .ref 22), (1, .int a), (2, .int s.1), (3, .int q1817), (4, .int s.2.1)]) (uf := (fun s => s.2.2)) ?_ zfu _
  intro s K' ih he
  refine wb_Finder_powerOf_8 G a q1817 s.1 s.2.1 s.2.2 K' ?_ ?_
  · intro c0 c1 v
    exact ih (c0, c1, v)
  · intro c0 c1 v
    rw [he]
    exact zgo_unleaf (wa_Finder_powerOf_8 G c0 v)
theorem s_Finder_powerOf (G : ZG) (a : Int32) (u : ZSt) (x : Int32 × ZSt) (hx : f_Finder_powerOf a u = some x) : ZSpec G m_Finder_powerOf 5 [.ref 22, .int a] u (zemI x) :=
  ZSpec.go k_Finder_powerOf (Nat.le_of_ble_eq_true rfl) (w_Finder_powerOf G a u) (tgt := zemI x) (by rw [hx]; rfl)
set_option maxRecDepth 100000 in
set_option maxHeartbeats 4000000 in
theorem w_X_say (G : ZG) (a : Int32) (b : Int32) (u : ZSt) : ZGo G m_X_say 7 (f_X_say a b u) zkI 0 [(0, .ref 0), (1, .int a), (2, .int b)] [] u := by
  unfold f_X_say
  refine g_aload_n rfl rfl ?_
  refine g_getR rfl zf_X_10 rfl rfl ?_
  refine g_iload_n rfl rfl ?_
  refine g_callVP (M' := m_Council_isPerson) (d' := 1) (as := [.int a]) (rest := []) (ci := 3) (o := 1) rfl ml_X_146 v_Council_isPerson (by decide) rfl (by decide) rfl rfl rfl (Nat.le_of_ble_eq_true rfl) (fun x_ e_ => s_Council_isPerson G a u x_ e_) (fun q1838 e1839 b1840 => ?_)
  refine g_ifne rfl (fun c1841 => ?_) (fun c1841 => ?_)
  · refine g_iload_n rfl rfl ?_
    refine zgo_ite (fun c1842 => ?_) (fun c1842 => ?_)
    · refine g_lswI rfl (by decide +kernel) c1842 (off := 26) (by decide +kernel) 9 rfl ?_
      refine g_aload_n rfl rfl ?_
      refine g_getR rfl zf_X_53 rfl rfl ?_
      refine g_iload_n rfl rfl ?_
      refine g_callVI (M' := m_Finder_sayOf) (d' := 6) (as := [.int a]) (rest := []) (ci := 5) (o := 22) rfl ml_X_220 v_Finder_sayOf (by decide) rfl (by decide) rfl rfl rfl (Nat.le_of_ble_eq_true rfl) (fun x_ e_ => s_Finder_sayOf G a u x_ e_) (fun q1843r q1843u e1844 b1845 => ?_)
      exact g_iret rfl (Or.inl rfl) rfl
    · refine zgo_ite (fun c1846 => ?_) (fun c1846 => ?_)
      · refine g_lswI rfl (by decide +kernel) c1846 (off := 35) (by decide +kernel) 14 rfl ?_
        refine g_aload_n rfl rfl ?_
        refine g_getR rfl zf_X_53 rfl rfl ?_
        refine g_iload_n rfl rfl ?_
        refine g_callVI (M' := m_Finder_powerOf) (d' := 5) (as := [.int a]) (rest := []) (ci := 5) (o := 22) rfl ml_X_223 v_Finder_powerOf (by decide) rfl (by decide) rfl rfl rfl (Nat.le_of_ble_eq_true rfl) (fun x_ e_ => s_Finder_powerOf G a u x_ e_) (fun q1847r q1847u e1848 b1849 => ?_)
        exact g_iret rfl (Or.inl rfl) rfl
      · refine g_lswD rfl (by decide +kernel) (List.forall_mem_cons.mpr ⟨z_ne c1842 rfl, (List.forall_mem_cons.mpr ⟨z_ne c1846 rfl, (fun _ h => absurd h List.not_mem_nil)⟩)⟩) 19 rfl ?_
        refine g_iconst (v := (-1 : Int32)) rfl zic_m1 ?_
        exact g_iret rfl (Or.inl rfl) rfl
  · refine g_iconst (v := (-1 : Int32)) rfl zic_m1 ?_
    exact g_iret rfl (Or.inl rfl) rfl
theorem s_X_say (G : ZG) (a : Int32) (b : Int32) (u : ZSt) (x : Int32 × ZSt) (hx : f_X_say a b u = some x) : ZSpec G m_X_say 7 [.ref 0, .int a, .int b] u (zemI x) :=
  ZSpec.go k_X_say (Nat.le_of_ble_eq_true rfl) (w_X_say G a b u) (tgt := zemI x) (by rw [hx]; rfl)
set_option maxRecDepth 100000 in
set_option maxHeartbeats 4000000 in
theorem wb_M_sayOf_4 (G : ZG) (l1 : Int32) (l2 : Int32) (l3 : Int32) (l4 : Int32) (u : ZSt) (K : ((Int32 × Int32 × ZSt) ⊕ (Int32 × Int32 × ZSt)) → Option (Value × ZSt)) (hb : ∀ (l3 : Int32) (l4 : Int32) (u : ZSt), ZGo G m_M_sayOf 108 (K (.inl (l3, l4, u))) some 4 [(0, .ref 39), (1, .int l1), (2, .int l2), (3, .int l3), (4, .int l4)] [] u) (hx : ∀ (l3 : Int32) (l4 : Int32) (u : ZSt), ZGo G m_M_sayOf 108 (K (.inr (l3, l4, u))) some 44 [(3, .int l3)] [] u) : ZGo G m_M_sayOf 108 (b_M_sayOf_4 l1 l2 l3 l4 u) K 4 [(0, .ref 39), (1, .int l1), (2, .int l2), (3, .int l3), (4, .int l4)] [] u := by
  unfold b_M_sayOf_4
  refine g_iload rfl rfl ?_
  refine g_iconst (v := (1 : Int32)) rfl zic_1 ?_
  refine g_aload_n rfl rfl ?_
  refine g_getI rfl zf_M_101 rfl rfl rfl ?_
  refine g_ishl rfl ?_
  refine g_icmpge rfl (fun c1850 => ?_) (fun c1850 => ?_)
  · exact zgo_sub (zsubk [3] rfl) (zgo_leaf (hx l3 l4 u))
  · refine g_aload_n rfl rfl ?_
    refine g_iload rfl rfl ?_
    refine g_iconst (v := (0 : Int32)) rfl zic_0 ?_
    refine g_callVI (M' := m_M_isCarried) (d' := 107) (as := [.int l4, .int (0 : Int32)]) (rest := []) (ci := 11) (o := 39) rfl ml_M_240 v_M_isCarried (by decide) rfl (by decide) rfl rfl rfl (Nat.le_of_ble_eq_true rfl) (fun x_ e_ => s_M_isCarried G l4 (0 : Int32) u x_ e_) (fun q1851r q1851u e1852 b1853 => ?_)
    refine g_istore (lv' := [(0, .ref 39), (1, .int l1), (2, .int l2), (3, .int l3), (4, .int l4), (5, .int q1851r)]) rfl (Nat.le_of_ble_eq_true rfl) rfl rfl ?_
    refine g_aload_n rfl rfl ?_
    refine g_getI rfl zf_M_212 rfl rfl rfl ?_
    refine g_iload_n rfl rfl ?_
    refine g_callSP (M' := m_M_isIn) (d' := 1) (as := [.int (q1851u.1 3925), .int l1]) (rest := []) rfl ml_M_118 v_M_isIn (by decide) rfl rfl (Nat.le_of_ble_eq_true rfl) (fun x_ e_ => s_M_isIn G (q1851u.1 3925) l1 q1851u x_ e_) (fun q1854 e1855 b1856 => ?_)
    refine g_istore (lv' := [(0, .ref 39), (1, .int l1), (2, .int l2), (3, .int l3), (4, .int l4), (5, .int q1851r), (6, .int q1854)]) rfl (Nat.le_of_ble_eq_true rfl) rfl rfl ?_
    refine g_iload_n rfl rfl ?_
    refine g_iload rfl rfl ?_
    refine g_ifeq rfl (fun c1857 => ?_) (fun c1857 => ?_)
    · refine g_iconst (v := (0 : Int32)) rfl zic_0 ?_
      refine g_iadd rfl ?_
      refine g_istore_n (lv' := [(0, .ref 39), (1, .int l1), (2, .int l2), (3, .int (l3 + (0 : Int32))), (4, .int l4), (5, .int q1851r), (6, .int q1854)]) rfl (Nat.le_of_ble_eq_true rfl) rfl rfl ?_
      refine g_iinc (v := (1 : Int32)) (lv' := [(0, .ref 39), (1, .int l1), (2, .int l2), (3, .int (l3 + (0 : Int32))), (4, .int (l4 + (1 : Int32))), (5, .int q1851r), (6, .int q1854)]) rfl rfl zic_1 (Nat.le_of_ble_eq_true rfl) rfl rfl ?_
      refine g_goto rfl ?_
      exact zgo_sub (zsubk [0, 1, 2, 3, 4] rfl) (zgo_leaf (hb (l3 + (0 : Int32)) (l4 + (1 : Int32)) q1851u))
    · refine g_iload_n rfl rfl ?_
      refine g_ifeq rfl (fun c1858 => ?_) (fun c1858 => ?_)
      · refine g_iconst (v := (1 : Int32)) rfl zic_1 ?_
        refine g_goto rfl ?_
        refine g_iadd rfl ?_
        refine g_istore_n (lv' := [(0, .ref 39), (1, .int l1), (2, .int l2), (3, .int (l3 + (1 : Int32))), (4, .int l4), (5, .int q1851r), (6, .int q1854)]) rfl (Nat.le_of_ble_eq_true rfl) rfl rfl ?_
        refine g_iinc (v := (1 : Int32)) (lv' := [(0, .ref 39), (1, .int l1), (2, .int l2), (3, .int (l3 + (1 : Int32))), (4, .int (l4 + (1 : Int32))), (5, .int q1851r), (6, .int q1854)]) rfl rfl zic_1 (Nat.le_of_ble_eq_true rfl) rfl rfl ?_
        refine g_goto rfl ?_
        exact zgo_sub (zsubk [0, 1, 2, 3, 4] rfl) (zgo_leaf (hb (l3 + (1 : Int32)) (l4 + (1 : Int32)) q1851u))
      · refine g_iload rfl rfl ?_
        refine g_aload_n rfl rfl ?_
        refine g_aload_n rfl rfl ?_
        refine g_getI rfl zf_M_212 rfl rfl rfl ?_
        refine g_iconst (v := (1 : Int32)) rfl zic_1 ?_
        refine g_iload_n rfl rfl ?_
        refine g_ishl rfl ?_
        refine g_iconst (v := (-1 : Int32)) rfl zic_m1 ?_
        refine g_ixor rfl ?_
        refine g_iand rfl ?_
        refine g_callVP (M' := m_M_isCarriedBy) (d' := 4) (as := [.int ((q1851u.1 3925) &&& (((1 : Int32) <<< (l1 &&& 31)) ^^^ (-1 : Int32)))]) (rest := [.int q1851r, .int l3]) (ci := 11) (o := 39) rfl ml_M_229 v_M_isCarriedBy (by decide) rfl (by decide) rfl rfl rfl (Nat.le_of_ble_eq_true rfl) (fun x_ e_ => s_M_isCarriedBy G ((q1851u.1 3925) &&& (((1 : Int32) <<< (l1 &&& 31)) ^^^ (-1 : Int32))) q1851u x_ e_) (fun q1859 e1860 b1861 => ?_)
        refine g_icmpeq rfl (fun c1862 => ?_) (fun c1862 => ?_)
        · refine g_iconst (v := (0 : Int32)) rfl zic_0 ?_
          refine g_iadd rfl ?_
          refine g_istore_n (lv' := [(0, .ref 39), (1, .int l1), (2, .int l2), (3, .int (l3 + (0 : Int32))), (4, .int l4), (5, .int q1851r), (6, .int q1854)]) rfl (Nat.le_of_ble_eq_true rfl) rfl rfl ?_
          refine g_iinc (v := (1 : Int32)) (lv' := [(0, .ref 39), (1, .int l1), (2, .int l2), (3, .int (l3 + (0 : Int32))), (4, .int (l4 + (1 : Int32))), (5, .int q1851r), (6, .int q1854)]) rfl rfl zic_1 (Nat.le_of_ble_eq_true rfl) rfl rfl ?_
          refine g_goto rfl ?_
          exact zgo_sub (zsubk [0, 1, 2, 3, 4] rfl) (zgo_leaf (hb (l3 + (0 : Int32)) (l4 + (1 : Int32)) q1851u))
        · refine g_iconst (v := (1 : Int32)) rfl zic_1 ?_
          refine g_goto rfl ?_
          refine g_iadd rfl ?_
          refine g_istore_n (lv' := [(0, .ref 39), (1, .int l1), (2, .int l2), (3, .int (l3 + (1 : Int32))), (4, .int l4), (5, .int q1851r), (6, .int q1854)]) rfl (Nat.le_of_ble_eq_true rfl) rfl rfl ?_
          refine g_iinc (v := (1 : Int32)) (lv' := [(0, .ref 39), (1, .int l1), (2, .int l2), (3, .int (l3 + (1 : Int32))), (4, .int (l4 + (1 : Int32))), (5, .int q1851r), (6, .int q1854)]) rfl rfl zic_1 (Nat.le_of_ble_eq_true rfl) rfl rfl ?_
          refine g_goto rfl ?_
          exact zgo_sub (zsubk [0, 1, 2, 3, 4] rfl) (zgo_leaf (hb (l3 + (1 : Int32)) (l4 + (1 : Int32)) q1851u))
set_option maxRecDepth 100000 in
set_option maxHeartbeats 4000000 in
theorem wa_M_sayOf_4 (G : ZG) (l3 : Int32) (u : ZSt) : ZGo G m_M_sayOf 108 (a_M_sayOf_4 l3 u) zkI 44 [(3, .int l3)] [] u := by
  unfold a_M_sayOf_4
  refine g_iload_n rfl rfl ?_
  exact g_iret rfl (Or.inl rfl) rfl
set_option maxRecDepth 100000 in
set_option maxHeartbeats 4000000 in
theorem w_M_sayOf (G : ZG) (a : Int32) (b : Int32) (u : ZSt) : ZGo G m_M_sayOf 108 (f_M_sayOf a b u) zkI 0 [(0, .ref 39), (1, .int a), (2, .int b)] [] u := by
  unfold f_M_sayOf
  refine g_iconst (v := (0 : Int32)) rfl zic_0 ?_
  refine g_istore_n (lv' := [(0, .ref 39), (1, .int a), (2, .int b), (3, .int (0 : Int32))]) rfl (Nat.le_of_ble_eq_true rfl) rfl rfl ?_
  refine g_iconst (v := (1 : Int32)) rfl zic_1 ?_
  refine g_istore (lv' := [(0, .ref 39), (1, .int a), (2, .int b), (3, .int (0 : Int32)), (4, .int (1 : Int32))]) rfl (Nat.le_of_ble_eq_true rfl) rfl rfl ?_
  refine zgo_sub (lv' := [(0, .ref 39), (1, .int a), (2, .int b), (3, .int (0 : Int32)), (4, .int (1 : Int32))]) (zsubk [0, 1, 2, 3, 4] rfl) ?_
  refine zgo_loop (σ := Int32 × Int32 × ZSt) (lvf := fun s => [(0, .ref 39), (1, .int a), (2, .int b), (3, .int s.1), (4, .int s.2.1)]) (uf := (fun s => s.2.2)) ?_ zfu _
  intro s K' ih he
  refine wb_M_sayOf_4 G a b s.1 s.2.1 s.2.2 K' ?_ ?_
  · intro c0 c1 v
    exact ih (c0, c1, v)
  · intro c0 c1 v
    rw [he]
    exact zgo_unleaf (wa_M_sayOf_4 G c0 v)
theorem s_M_sayOf (G : ZG) (a : Int32) (b : Int32) (u : ZSt) (x : Int32 × ZSt) (hx : f_M_sayOf a b u = some x) : ZSpec G m_M_sayOf 108 [.ref 39, .int a, .int b] u (zemI x) :=
  ZSpec.go k_M_sayOf (Nat.le_of_ble_eq_true rfl) (w_M_sayOf G a b u) (tgt := zemI x) (by rw [hx]; rfl)
set_option maxRecDepth 100000 in
set_option maxHeartbeats 4000000 in
theorem w_M_say (G : ZG) (a : Int32) (b : Int32) (u : ZSt) : ZGo G m_M_say 109 (f_M_say a b u) zkI 0 [(0, .ref 39), (1, .int a), (2, .int b)] [] u := by
  unfold f_M_say
  refine g_aload_n rfl rfl ?_
  refine g_iload_n rfl rfl ?_
  refine g_callVP (M' := m_M_isPerson) (d' := 2) (as := [.int a]) (rest := []) (ci := 11) (o := 39) rfl ml_M_104 v_M_isPerson (by decide) rfl (by decide) rfl rfl rfl (Nat.le_of_ble_eq_true rfl) (fun x_ e_ => s_M_isPerson G a u x_ e_) (fun q1863 e1864 b1865 => ?_)
  refine g_ifeq rfl (fun c1866 => ?_) (fun c1866 => ?_)
  · refine g_iconst (v := (-1 : Int32)) rfl zic_m1 ?_
    exact g_iret rfl (Or.inl rfl) rfl
  · refine g_iload_n rfl rfl ?_
    refine g_i2l rfl ?_
    refine g_lconst (v := (0 : Int64)) rfl rfl ?_
    refine g_lconst (v := (1 : Int64)) rfl rfl ?_
    refine g_callSP (M' := m_M_within) (d' := 1) (as := [.long b.toInt64, .long (0 : Int64), .long (1 : Int64)]) (rest := []) rfl ml_M_97 v_M_within (by decide) rfl rfl (Nat.le_of_ble_eq_true rfl) (fun x_ e_ => s_M_within G b.toInt64 (0 : Int64) (1 : Int64) u x_ e_) (fun q1867 e1868 b1869 => ?_)
    refine g_ifeq rfl (fun c1870 => ?_) (fun c1870 => ?_)
    · refine g_iconst (v := (-1 : Int32)) rfl zic_m1 ?_
      exact g_iret rfl (Or.inl rfl) rfl
    · refine g_aload_n rfl rfl ?_
      refine g_iload_n rfl rfl ?_
      refine g_iload_n rfl rfl ?_
      refine g_callVI (M' := m_M_sayOf) (d' := 108) (as := [.int a, .int b]) (rest := []) (ci := 11) (o := 39) rfl ml_M_249 v_M_sayOf (by decide) rfl (by decide) rfl rfl rfl (Nat.le_of_ble_eq_true rfl) (fun x_ e_ => s_M_sayOf G a b u x_ e_) (fun q1871r q1871u e1872 b1873 => ?_)
      refine g_goto rfl ?_
      exact g_iret rfl (Or.inl rfl) rfl
theorem s_M_say (G : ZG) (a : Int32) (b : Int32) (u : ZSt) (x : Int32 × ZSt) (hx : f_M_say a b u = some x) : ZSpec G m_M_say 109 [.ref 39, .int a, .int b] u (zemI x) :=
  ZSpec.go k_M_say (Nat.le_of_ble_eq_true rfl) (w_M_say G a b u) (tgt := zemI x) (by rw [hx]; rfl)
set_option maxRecDepth 100000 in
set_option maxHeartbeats 4000000 in
theorem wb_Finder_mostSaying_6 (G : ZG) (l1 : Int32) (l2 : Int32) (u : ZSt) (K : ((Int32 × Int32) ⊕ (Int32 × Int32)) → Option (Value × ZSt)) (hb : ∀ (l1 : Int32) (l2 : Int32), ZGo G m_Finder_mostSaying 6 (K (.inl (l1, l2))) some 6 [(0, .ref 22), (1, .int l1), (2, .int l2)] [] u) (hx : ∀ (l1 : Int32) (l2 : Int32), ZGo G m_Finder_mostSaying 6 (K (.inr (l1, l2))) some 27 [(1, .int l1)] [] u) : ZGo G m_Finder_mostSaying 6 (b_Finder_mostSaying_6 l1 l2 u) K 6 [(0, .ref 22), (1, .int l1), (2, .int l2)] [] u := by
  unfold b_Finder_mostSaying_6
  refine g_iload_n rfl rfl ?_
  refine g_aload_n rfl rfl ?_
  refine g_getR rfl zf_Finder_24 rfl rfl ?_
  refine g_getI rfl zf_Finder_83 rfl rfl rfl ?_
  refine g_icmpge rfl (fun c1877 => ?_) (fun c1877 => ?_)
  · exact zgo_sub (zsubk [1] rfl) (zgo_leaf (hx l1 l2))
  · refine g_iload_n rfl rfl ?_
    refine g_bipush (v := (10 : Int32)) rfl zib_10 ?_
    refine g_icmpge rfl (fun c1878 => ?_) (fun c1878 => ?_)
    · exact zgo_sub (zsubk [1] rfl) (zgo_leaf (hx l1 l2))
    · refine g_aload_n rfl rfl ?_
      refine g_getR rfl zf_Finder_9 rfl rfl ?_
      refine g_iload_n rfl rfl ?_
      refine g_iald rfl rfl (fun o1881 => ?_)
      refine g_aload_n rfl rfl ?_
      refine g_getR rfl zf_Finder_9 rfl rfl ?_
      refine g_iload_n rfl rfl ?_
      refine g_iald rfl rfl (fun o1880 => ?_)
      refine g_icmple rfl (fun c1879 => ?_) (fun c1879 => ?_)
      · refine g_iinc (v := (1 : Int32)) (lv' := [(0, .ref 22), (1, .int l1), (2, .int (l2 + (1 : Int32)))]) rfl rfl zic_1 (Nat.le_of_ble_eq_true rfl) rfl rfl ?_
        refine g_goto rfl ?_
        exact zgo_sub (zsubk [0, 1, 2] rfl) (zgo_leaf (hb l1 (l2 + (1 : Int32))))
      · refine g_iload_n rfl rfl ?_
        refine g_istore_n (lv' := [(0, .ref 22), (1, .int l2), (2, .int l2)]) rfl (Nat.le_of_ble_eq_true rfl) rfl rfl ?_
        refine g_iinc (v := (1 : Int32)) (lv' := [(0, .ref 22), (1, .int l2), (2, .int (l2 + (1 : Int32)))]) rfl rfl zic_1 (Nat.le_of_ble_eq_true rfl) rfl rfl ?_
        refine g_goto rfl ?_
        exact zgo_sub (zsubk [0, 1, 2] rfl) (zgo_leaf (hb l2 (l2 + (1 : Int32))))
set_option maxRecDepth 100000 in
set_option maxHeartbeats 4000000 in
theorem wa_Finder_mostSaying_6 (G : ZG) (l1 : Int32) (u : ZSt) : ZGo G m_Finder_mostSaying 6 (a_Finder_mostSaying_6 l1 u) zkI 27 [(1, .int l1)] [] u := by
  unfold a_Finder_mostSaying_6
  refine g_iload_n rfl rfl ?_
  exact g_iret rfl (Or.inl rfl) rfl
set_option maxRecDepth 100000 in
set_option maxHeartbeats 4000000 in
theorem w_Finder_mostSaying (G : ZG) (u : ZSt) : ZGo G m_Finder_mostSaying 6 (f_Finder_mostSaying u) zkI 0 [(0, .ref 22)] [] u := by
  unfold f_Finder_mostSaying
  refine g_aload_n rfl rfl ?_
  refine g_callVV (M' := m_Finder_countSays) (d' := 5) (as := []) (rest := []) (ci := 5) (o := 22) rfl ml_Finder_70 v_Finder_countSays (by decide) rfl (by decide) rfl rfl rfl (Nat.le_of_ble_eq_true rfl) (fun x_ e_ => s_Finder_countSays G  u x_ e_) (fun q1874 e1875 b1876 => ?_)
  refine g_iconst (v := (0 : Int32)) rfl zic_0 ?_
  refine g_istore_n (lv' := [(0, .ref 22), (1, .int (0 : Int32))]) rfl (Nat.le_of_ble_eq_true rfl) rfl rfl ?_
  refine g_iconst (v := (1 : Int32)) rfl zic_1 ?_
  refine g_istore_n (lv' := [(0, .ref 22), (1, .int (0 : Int32)), (2, .int (1 : Int32))]) rfl (Nat.le_of_ble_eq_true rfl) rfl rfl ?_
  refine zgo_sub (lv' := [(0, .ref 22), (1, .int (0 : Int32)), (2, .int (1 : Int32))]) (zsubk [0, 1, 2] rfl) ?_
  refine zgo_loop (σ := Int32 × Int32) (lvf := fun s => [(0, .ref 22), (1, .int s.1), (2, .int s.2)]) (uf := (fun _ => q1874)) ?_ zfu _
  intro s K' ih he
  refine wb_Finder_mostSaying_6 G s.1 s.2 q1874 K' ?_ ?_
  · intro c0 c1
    exact ih (c0, c1)
  · intro c0 c1
    rw [he]
    exact zgo_unleaf (wa_Finder_mostSaying_6 G c0 q1874)
theorem s_Finder_mostSaying (G : ZG) (u : ZSt) (x : Int32 × ZSt) (hx : f_Finder_mostSaying u = some x) : ZSpec G m_Finder_mostSaying 6 [.ref 22] u (zemI x) :=
  ZSpec.go k_Finder_mostSaying (Nat.le_of_ble_eq_true rfl) (w_Finder_mostSaying G u) (tgt := zemI x) (by rw [hx]; rfl)
set_option maxRecDepth 100000 in
set_option maxHeartbeats 4000000 in
theorem w_X_hermit (G : ZG) (u : ZSt) : ZGo G m_X_hermit 7 (f_X_hermit u) zkI 0 [(0, .ref 0)] [] u := by
  unfold f_X_hermit
  refine g_aload_n rfl rfl ?_
  refine g_getR rfl zf_X_10 rfl rfl ?_
  refine g_getI rfl zf_X_226 rfl rfl rfl ?_
  refine g_ifne rfl (fun c1882 => ?_) (fun c1882 => ?_)
  · refine g_aload_n rfl rfl ?_
    refine g_getR rfl zf_X_53 rfl rfl ?_
    refine g_callVI (M' := m_Finder_mostSaying) (d' := 6) (as := []) (rest := []) (ci := 5) (o := 22) rfl ml_X_229 v_Finder_mostSaying (by decide) rfl (by decide) rfl rfl rfl (Nat.le_of_ble_eq_true rfl) (fun x_ e_ => s_Finder_mostSaying G  u x_ e_) (fun q1883r q1883u e1884 b1885 => ?_)
    exact g_iret rfl (Or.inl rfl) rfl
  · refine g_bipush (v := (-5 : Int32)) rfl zib_m5 ?_
    refine g_goto rfl ?_
    exact g_iret rfl (Or.inl rfl) rfl
theorem s_X_hermit (G : ZG) (u : ZSt) (x : Int32 × ZSt) (hx : f_X_hermit u = some x) : ZSpec G m_X_hermit 7 [.ref 0] u (zemI x) :=
  ZSpec.go k_X_hermit (Nat.le_of_ble_eq_true rfl) (w_X_hermit G u) (tgt := zemI x) (by rw [hx]; rfl)
set_option maxRecDepth 100000 in
set_option maxHeartbeats 4000000 in
theorem wb_M_hermit_6 (G : ZG) (l1 : Int32) (l2 : Int32) (l3 : Int32) (u : ZSt) (K : ((Int32 × Int32 × Int32 × ZSt) ⊕ (Int32 × Int32 × Int32 × ZSt)) → Option (Value × ZSt)) (hb : ∀ (l1 : Int32) (l2 : Int32) (l3 : Int32) (u : ZSt), ZGo G m_M_hermit 109 (K (.inl (l1, l2, l3, u))) some 6 [(0, .ref 39), (1, .int l1), (2, .int l2), (3, .int l3)] [] u) (hx : ∀ (l1 : Int32) (l2 : Int32) (l3 : Int32) (u : ZSt), ZGo G m_M_hermit 109 (K (.inr (l1, l2, l3, u))) some 31 [(1, .int l1)] [] u) : ZGo G m_M_hermit 109 (b_M_hermit_6 l1 l2 l3 u) K 6 [(0, .ref 39), (1, .int l1), (2, .int l2), (3, .int l3)] [] u := by
  unfold b_M_hermit_6
  refine g_iload_n rfl rfl ?_
  refine g_aload_n rfl rfl ?_
  refine g_getI rfl zf_M_94 rfl rfl rfl ?_
  refine g_icmpge rfl (fun c1886 => ?_) (fun c1886 => ?_)
  · exact zgo_sub (zsubk [1] rfl) (zgo_leaf (hx l1 l2 l3 u))
  · refine g_aload_n rfl rfl ?_
    refine g_iload_n rfl rfl ?_
    refine g_iconst (v := (0 : Int32)) rfl zic_0 ?_
    refine g_callVI (M' := m_M_sayOf) (d' := 108) (as := [.int l3, .int (0 : Int32)]) (rest := []) (ci := 11) (o := 39) rfl ml_M_249 v_M_sayOf (by decide) rfl (by decide) rfl rfl rfl (Nat.le_of_ble_eq_true rfl) (fun x_ e_ => s_M_sayOf G l3 (0 : Int32) u x_ e_) (fun q1887r q1887u e1888 b1889 => ?_)
    refine g_istore (lv' := [(0, .ref 39), (1, .int l1), (2, .int l2), (3, .int l3), (4, .int q1887r)]) rfl (Nat.le_of_ble_eq_true rfl) rfl rfl ?_
    refine g_iload rfl rfl ?_
    refine g_iload_n rfl rfl ?_
    refine g_icmple rfl (fun c1890 => ?_) (fun c1890 => ?_)
    · refine g_iload_n rfl rfl ?_
      refine g_istore_n (lv' := [(0, .ref 39), (1, .int l1), (2, .int l2), (3, .int l3), (4, .int q1887r)]) rfl (Nat.le_of_ble_eq_true rfl) rfl rfl ?_
      refine g_iload rfl rfl ?_
      refine g_iload_n rfl rfl ?_
      refine g_icmple rfl (fun c1891 => ?_) (fun c1891 => ?_)
      · refine g_iload_n rfl rfl ?_
        refine g_istore_n (lv' := [(0, .ref 39), (1, .int l1), (2, .int l2), (3, .int l3), (4, .int q1887r)]) rfl (Nat.le_of_ble_eq_true rfl) rfl rfl ?_
        refine g_iinc (v := (1 : Int32)) (lv' := [(0, .ref 39), (1, .int l1), (2, .int l2), (3, .int (l3 + (1 : Int32))), (4, .int q1887r)]) rfl rfl zic_1 (Nat.le_of_ble_eq_true rfl) rfl rfl ?_
        refine g_goto rfl ?_
        exact zgo_sub (zsubk [0, 1, 2, 3] rfl) (zgo_leaf (hb l1 l2 (l3 + (1 : Int32)) q1887u))
      · refine g_iload rfl rfl ?_
        refine g_goto rfl ?_
        refine g_istore_n (lv' := [(0, .ref 39), (1, .int l1), (2, .int q1887r), (3, .int l3), (4, .int q1887r)]) rfl (Nat.le_of_ble_eq_true rfl) rfl rfl ?_
        refine g_iinc (v := (1 : Int32)) (lv' := [(0, .ref 39), (1, .int l1), (2, .int q1887r), (3, .int (l3 + (1 : Int32))), (4, .int q1887r)]) rfl rfl zic_1 (Nat.le_of_ble_eq_true rfl) rfl rfl ?_
        refine g_goto rfl ?_
        exact zgo_sub (zsubk [0, 1, 2, 3] rfl) (zgo_leaf (hb l1 q1887r (l3 + (1 : Int32)) q1887u))
    · refine g_iload_n rfl rfl ?_
      refine g_goto rfl ?_
      refine g_istore_n (lv' := [(0, .ref 39), (1, .int l3), (2, .int l2), (3, .int l3), (4, .int q1887r)]) rfl (Nat.le_of_ble_eq_true rfl) rfl rfl ?_
      refine g_iload rfl rfl ?_
      refine g_iload_n rfl rfl ?_
      refine g_icmple rfl (fun c1892 => ?_) (fun c1892 => ?_)
      · refine g_iload_n rfl rfl ?_
        refine g_istore_n (lv' := [(0, .ref 39), (1, .int l3), (2, .int l2), (3, .int l3), (4, .int q1887r)]) rfl (Nat.le_of_ble_eq_true rfl) rfl rfl ?_
        refine g_iinc (v := (1 : Int32)) (lv' := [(0, .ref 39), (1, .int l3), (2, .int l2), (3, .int (l3 + (1 : Int32))), (4, .int q1887r)]) rfl rfl zic_1 (Nat.le_of_ble_eq_true rfl) rfl rfl ?_
        refine g_goto rfl ?_
        exact zgo_sub (zsubk [0, 1, 2, 3] rfl) (zgo_leaf (hb l3 l2 (l3 + (1 : Int32)) q1887u))
      · refine g_iload rfl rfl ?_
        refine g_goto rfl ?_
        refine g_istore_n (lv' := [(0, .ref 39), (1, .int l3), (2, .int q1887r), (3, .int l3), (4, .int q1887r)]) rfl (Nat.le_of_ble_eq_true rfl) rfl rfl ?_
        refine g_iinc (v := (1 : Int32)) (lv' := [(0, .ref 39), (1, .int l3), (2, .int q1887r), (3, .int (l3 + (1 : Int32))), (4, .int q1887r)]) rfl rfl zic_1 (Nat.le_of_ble_eq_true rfl) rfl rfl ?_
        refine g_goto rfl ?_
        exact zgo_sub (zsubk [0, 1, 2, 3] rfl) (zgo_leaf (hb l3 q1887r (l3 + (1 : Int32)) q1887u))
set_option maxRecDepth 100000 in
set_option maxHeartbeats 4000000 in
theorem wa_M_hermit_6 (G : ZG) (l1 : Int32) (u : ZSt) : ZGo G m_M_hermit 109 (a_M_hermit_6 l1 u) zkI 31 [(1, .int l1)] [] u := by
  unfold a_M_hermit_6
  refine g_iload_n rfl rfl ?_
  exact g_iret rfl (Or.inl rfl) rfl
set_option maxRecDepth 100000 in
set_option maxHeartbeats 4000000 in
theorem w_M_hermit (G : ZG) (u : ZSt) : ZGo G m_M_hermit 109 (f_M_hermit u) zkI 0 [(0, .ref 39)] [] u := by
  unfold f_M_hermit
  refine g_bipush (v := (-5 : Int32)) rfl zib_m5 ?_
  refine g_istore_n (lv' := [(0, .ref 39), (1, .int (-5 : Int32))]) rfl (Nat.le_of_ble_eq_true rfl) rfl rfl ?_
  refine g_iconst (v := (-1 : Int32)) rfl zic_m1 ?_
  refine g_istore_n (lv' := [(0, .ref 39), (1, .int (-5 : Int32)), (2, .int (-1 : Int32))]) rfl (Nat.le_of_ble_eq_true rfl) rfl rfl ?_
  refine g_iconst (v := (0 : Int32)) rfl zic_0 ?_
  refine g_istore_n (lv' := [(0, .ref 39), (1, .int (-5 : Int32)), (2, .int (-1 : Int32)), (3, .int (0 : Int32))]) rfl (Nat.le_of_ble_eq_true rfl) rfl rfl ?_
  refine zgo_sub (lv' := [(0, .ref 39), (1, .int (-5 : Int32)), (2, .int (-1 : Int32)), (3, .int (0 : Int32))]) (zsubk [0, 1, 2, 3] rfl) ?_
  refine zgo_loop (σ := Int32 × Int32 × Int32 × ZSt) (lvf := fun s => [(0, .ref 39), (1, .int s.1), (2, .int s.2.1), (3, .int s.2.2.1)]) (uf := (fun s => s.2.2.2)) ?_ zfu _
  intro s K' ih he
  refine wb_M_hermit_6 G s.1 s.2.1 s.2.2.1 s.2.2.2 K' ?_ ?_
  · intro c0 c1 c2 v
    exact ih (c0, c1, c2, v)
  · intro c0 c1 c2 v
    rw [he]
    exact zgo_unleaf (wa_M_hermit_6 G c0 v)
theorem s_M_hermit (G : ZG) (u : ZSt) (x : Int32 × ZSt) (hx : f_M_hermit u = some x) : ZSpec G m_M_hermit 109 [.ref 39] u (zemI x) :=
  ZSpec.go k_M_hermit (Nat.le_of_ble_eq_true rfl) (w_M_hermit G u) (tgt := zemI x) (by rw [hx]; rfl)
set_option maxRecDepth 100000 in
set_option maxHeartbeats 4000000 in
theorem w_Council_rumourOf (G : ZG) (a : Int32) (u : ZSt) : ZGo G m_Council_rumourOf 2 (f_Council_rumourOf a u) (zkP u) 0 [(0, .ref 1), (1, .int a)] [] u := by
  unfold f_Council_rumourOf
  refine g_aload_n rfl rfl ?_
  refine g_sipush (v := (200 : Int32)) rfl zis_200 ?_
  refine g_iload_n rfl rfl ?_
  refine g_iadd rfl ?_
  refine g_callVP (M' := m_Council_toldAt) (d' := 1) (as := [.int ((200 : Int32) + a)]) (rest := []) (ci := 3) (o := 1) rfl ml_Council_64 v_Council_toldAt (by decide) rfl (by decide) rfl rfl rfl (Nat.le_of_ble_eq_true rfl) (fun x_ e_ => s_Council_toldAt G ((200 : Int32) + a) u x_ e_) (fun q1893 e1894 b1895 => ?_)
  exact g_iret rfl (Or.inl rfl) rfl
theorem s_Council_rumourOf (G : ZG) (a : Int32) (u : ZSt) (x : Int32) (hx : f_Council_rumourOf a u = some x) : ZSpec G m_Council_rumourOf 2 [.ref 1, .int a] u ((zemP u) x) :=
  ZSpec.go k_Council_rumourOf (Nat.le_of_ble_eq_true rfl) (w_Council_rumourOf G a u) (tgt := (zemP u) x) (by rw [hx]; rfl)
set_option maxRecDepth 100000 in
set_option maxHeartbeats 4000000 in
theorem wb_Finder_weightOf_4 (G : ZG) (l1 : Int32) (l2 : Int32) (l3 : Int32) (l4 : Int32) (u : ZSt) (K : ((Int32 × Int32) ⊕ (Int32 × Int32)) → Option (Value × ZSt)) (hb : ∀ (l3 : Int32) (l4 : Int32), ZGo G m_Finder_weightOf 3 (K (.inl (l3, l4))) some 4 [(0, .ref 22), (1, .int l1), (2, .int l2), (3, .int l3), (4, .int l4)] [] u) (hx : ∀ (l3 : Int32) (l4 : Int32), ZGo G m_Finder_weightOf 3 (K (.inr (l3, l4))) some 36 [(3, .int l3)] [] u) : ZGo G m_Finder_weightOf 3 (b_Finder_weightOf_4 l1 l2 l3 l4 u) K 4 [(0, .ref 22), (1, .int l1), (2, .int l2), (3, .int l3), (4, .int l4)] [] u := by
  unfold b_Finder_weightOf_4
  refine g_iload rfl rfl ?_
  refine g_aload_n rfl rfl ?_
  refine g_getR rfl zf_Finder_24 rfl rfl ?_
  refine g_getI rfl zf_Finder_66 rfl rfl rfl ?_
  refine g_icmpge rfl (fun c1896 => ?_) (fun c1896 => ?_)
  · exact zgo_sub (zsubk [3] rfl) (zgo_leaf (hx l3 l4))
  · refine g_iload_n rfl rfl ?_
    refine g_iload rfl rfl ?_
    refine g_iushr rfl ?_
    refine g_iconst (v := (1 : Int32)) rfl zic_1 ?_
    refine g_iand rfl ?_
    refine g_ifeq rfl (fun c1897 => ?_) (fun c1897 => ?_)
    · refine g_iinc (v := (1 : Int32)) (lv' := [(0, .ref 22), (1, .int l1), (2, .int l2), (3, .int l3), (4, .int (l4 + (1 : Int32)))]) rfl rfl zic_1 (Nat.le_of_ble_eq_true rfl) rfl rfl ?_
      refine g_goto rfl ?_
      exact zgo_sub (zsubk [0, 1, 2, 3, 4] rfl) (zgo_leaf (hb l3 (l4 + (1 : Int32))))
    · refine g_aload_n rfl rfl ?_
      refine g_getR rfl zf_Finder_24 rfl rfl ?_
      refine g_iload rfl rfl ?_
      refine g_callVP (M' := m_Council_rumourOf) (d' := 2) (as := [.int l4]) (rest := []) (ci := 3) (o := 1) rfl ml_Finder_90 v_Council_rumourOf (by decide) rfl (by decide) rfl rfl rfl (Nat.le_of_ble_eq_true rfl) (fun x_ e_ => s_Council_rumourOf G l4 u x_ e_) (fun q1898 e1899 b1900 => ?_)
      refine g_istore (lv' := [(0, .ref 22), (1, .int l1), (2, .int l2), (3, .int l3), (4, .int l4), (5, .int q1898)]) rfl (Nat.le_of_ble_eq_true rfl) rfl rfl ?_
      refine g_iload_n rfl rfl ?_
      refine g_iload_n rfl rfl ?_
      refine g_iload rfl rfl ?_
      refine g_iushr rfl ?_
      refine g_iconst (v := (1 : Int32)) rfl zic_1 ?_
      refine g_iand rfl ?_
      refine g_ifeq rfl (fun c1901 => ?_) (fun c1901 => ?_)
      · refine g_bipush (v := (12 : Int32)) rfl zib_12 ?_
        refine g_iload rfl rfl ?_
        refine g_isub rfl ?_
        refine g_imul rfl ?_
        refine g_istore_n (lv' := [(0, .ref 22), (1, .int l1), (2, .int l2), (3, .int (l3 * ((12 : Int32) - q1898))), (4, .int l4), (5, .int q1898)]) rfl (Nat.le_of_ble_eq_true rfl) rfl rfl ?_
        refine g_iinc (v := (1 : Int32)) (lv' := [(0, .ref 22), (1, .int l1), (2, .int l2), (3, .int (l3 * ((12 : Int32) - q1898))), (4, .int (l4 + (1 : Int32))), (5, .int q1898)]) rfl rfl zic_1 (Nat.le_of_ble_eq_true rfl) rfl rfl ?_
        refine g_goto rfl ?_
        exact zgo_sub (zsubk [0, 1, 2, 3, 4] rfl) (zgo_leaf (hb (l3 * ((12 : Int32) - q1898)) (l4 + (1 : Int32))))
      · refine g_iload rfl rfl ?_
        refine g_goto rfl ?_
        refine g_imul rfl ?_
        refine g_istore_n (lv' := [(0, .ref 22), (1, .int l1), (2, .int l2), (3, .int (l3 * q1898)), (4, .int l4), (5, .int q1898)]) rfl (Nat.le_of_ble_eq_true rfl) rfl rfl ?_
        refine g_iinc (v := (1 : Int32)) (lv' := [(0, .ref 22), (1, .int l1), (2, .int l2), (3, .int (l3 * q1898)), (4, .int (l4 + (1 : Int32))), (5, .int q1898)]) rfl rfl zic_1 (Nat.le_of_ble_eq_true rfl) rfl rfl ?_
        refine g_goto rfl ?_
        exact zgo_sub (zsubk [0, 1, 2, 3, 4] rfl) (zgo_leaf (hb (l3 * q1898) (l4 + (1 : Int32))))
set_option maxRecDepth 100000 in
set_option maxHeartbeats 4000000 in
theorem wa_Finder_weightOf_4 (G : ZG) (l3 : Int32) (u : ZSt) : ZGo G m_Finder_weightOf 3 (a_Finder_weightOf_4 l3 u) (zkP u) 36 [(3, .int l3)] [] u := by
  unfold a_Finder_weightOf_4
  refine g_iload_n rfl rfl ?_
  exact g_iret rfl (Or.inl rfl) rfl
set_option maxRecDepth 100000 in
set_option maxHeartbeats 4000000 in
theorem w_Finder_weightOf (G : ZG) (a : Int32) (b : Int32) (u : ZSt) : ZGo G m_Finder_weightOf 3 (f_Finder_weightOf a b u) (zkP u) 0 [(0, .ref 22), (1, .int a), (2, .int b)] [] u := by
  unfold f_Finder_weightOf
  refine g_iconst (v := (1 : Int32)) rfl zic_1 ?_
  refine g_istore_n (lv' := [(0, .ref 22), (1, .int a), (2, .int b), (3, .int (1 : Int32))]) rfl (Nat.le_of_ble_eq_true rfl) rfl rfl ?_
  refine g_iconst (v := (0 : Int32)) rfl zic_0 ?_
  refine g_istore (lv' := [(0, .ref 22), (1, .int a), (2, .int b), (3, .int (1 : Int32)), (4, .int (0 : Int32))]) rfl (Nat.le_of_ble_eq_true rfl) rfl rfl ?_
  refine zgo_sub (lv' := [(0, .ref 22), (1, .int a), (2, .int b), (3, .int (1 : Int32)), (4, .int (0 : Int32))]) (zsubk [0, 1, 2, 3, 4] rfl) ?_
  refine zgo_loop (σ := Int32 × Int32) (lvf := fun s => [(0, .ref 22), (1, .int a), (2, .int b), (3, .int s.1), (4, .int s.2)]) (uf := (fun _ => u)) ?_ zfu _
  intro s K' ih he
  refine wb_Finder_weightOf_4 G a b s.1 s.2 u K' ?_ ?_
  · intro c0 c1
    exact ih (c0, c1)
  · intro c0 c1
    rw [he]
    exact zgo_unleaf (wa_Finder_weightOf_4 G c0 u)
theorem s_Finder_weightOf (G : ZG) (a : Int32) (b : Int32) (u : ZSt) (x : Int32) (hx : f_Finder_weightOf a b u = some x) : ZSpec G m_Finder_weightOf 3 [.ref 22, .int a, .int b] u ((zemP u) x) :=
  ZSpec.go k_Finder_weightOf (Nat.le_of_ble_eq_true rfl) (w_Finder_weightOf G a b u) (tgt := (zemP u) x) (by rw [hx]; rfl)
set_option maxRecDepth 100000 in
set_option maxHeartbeats 4000000 in
theorem wb_Finder_twelfthsCarried_14 (G : ZG) (l1 : Int32) (l2 : Int32) (l3 : Int32) (l4 : Int32) (l5 : Int32) (u : ZSt) (K : ((Int32 × Int32 × ZSt) ⊕ (Int32 × Int32 × ZSt)) → Option (Value × ZSt)) (hb : ∀ (l4 : Int32) (l5 : Int32) (u : ZSt), ZGo G m_Finder_twelfthsCarried 5 (K (.inl (l4, l5, u))) some 14 [(0, .ref 22), (1, .int l1), (2, .int l2), (3, .int l3), (4, .int l4), (5, .int l5)] [] u) (hx : ∀ (l4 : Int32) (l5 : Int32) (u : ZSt), ZGo G m_Finder_twelfthsCarried 5 (K (.inr (l4, l5, u))) some 48 [(4, .int l4)] [] u) : ZGo G m_Finder_twelfthsCarried 5 (b_Finder_twelfthsCarried_14 l1 l2 l3 l4 l5 u) K 14 [(0, .ref 22), (1, .int l1), (2, .int l2), (3, .int l3), (4, .int l4), (5, .int l5)] [] u := by
  unfold b_Finder_twelfthsCarried_14
  refine g_iload rfl rfl ?_
  refine g_iload_n rfl rfl ?_
  refine g_icmpgt rfl (fun c1908 => ?_) (fun c1908 => ?_)
  · exact zgo_sub (zsubk [4] rfl) (zgo_leaf (hx l4 l5 u))
  · refine g_iload rfl rfl ?_
    refine g_iload_n rfl rfl ?_
    refine g_iconst (v := (-1 : Int32)) rfl zic_m1 ?_
    refine g_ixor rfl ?_
    refine g_iand rfl ?_
    refine g_ifne rfl (fun c1909 => ?_) (fun c1909 => ?_)
    · refine g_iinc (v := (1 : Int32)) (lv' := [(0, .ref 22), (1, .int l1), (2, .int l2), (3, .int l3), (4, .int l4), (5, .int (l5 + (1 : Int32)))]) rfl rfl zic_1 (Nat.le_of_ble_eq_true rfl) rfl rfl ?_
      refine g_goto rfl ?_
      exact zgo_sub (zsubk [0, 1, 2, 3, 4, 5] rfl) (zgo_leaf (hb l4 (l5 + (1 : Int32)) u))
    · refine g_aload_n rfl rfl ?_
      refine g_iload_n rfl rfl ?_
      refine g_iload rfl rfl ?_
      refine g_callVP (M' := m_Finder_weightOf) (d' := 3) (as := [.int l1, .int l5]) (rest := []) (ci := 5) (o := 22) rfl ml_Finder_86 v_Finder_weightOf (by decide) rfl (by decide) rfl rfl rfl (Nat.le_of_ble_eq_true rfl) (fun x_ e_ => s_Finder_weightOf G l1 l5 u x_ e_) (fun q1910 e1911 b1912 => ?_)
      refine g_istore (lv' := [(0, .ref 22), (1, .int l1), (2, .int l2), (3, .int l3), (4, .int l4), (5, .int l5), (6, .int q1910)]) rfl (Nat.le_of_ble_eq_true rfl) rfl rfl ?_
      refine g_iload rfl rfl ?_
      refine g_ifle rfl (fun c1913 => ?_) (fun c1913 => ?_)
      · refine g_iinc (v := (1 : Int32)) (lv' := [(0, .ref 22), (1, .int l1), (2, .int l2), (3, .int l3), (4, .int l4), (5, .int (l5 + (1 : Int32))), (6, .int q1910)]) rfl rfl zic_1 (Nat.le_of_ble_eq_true rfl) rfl rfl ?_
        refine g_goto rfl ?_
        exact zgo_sub (zsubk [0, 1, 2, 3, 4, 5] rfl) (zgo_leaf (hb l4 (l5 + (1 : Int32)) u))
      · refine g_aload_n rfl rfl ?_
        refine g_getR rfl zf_Finder_28 rfl rfl ?_
        refine g_aload_n rfl rfl ?_
        refine g_getR rfl zf_Finder_28 rfl rfl ?_
        refine g_iload_n rfl rfl ?_
        refine g_iload rfl rfl ?_
        refine g_iconst (v := (0 : Int32)) rfl zic_0 ?_
        refine g_callVI (M' := m_Ballot_whoMay) (d' := 4) (as := [.int l1, .int l5, .int (0 : Int32)]) (rest := [.ref 19]) (ci := 0) (o := 19) rfl ml_Finder_62 v_Ballot_whoMay (by decide) rfl (by decide) rfl rfl rfl (Nat.le_of_ble_eq_true rfl) (fun x_ e_ => s_Ballot_whoMay G l1 l5 (0 : Int32) u x_ e_) (fun q1914r q1914u e1915 b1916 => ?_)
        refine g_iload_n rfl rfl ?_
        refine g_iload_n rfl rfl ?_
        refine g_callVP (M' := m_Ballot_isCarriedBy) (d' := 3) (as := [.int q1914r, .int l2, .int l3]) (rest := []) (ci := 0) (o := 19) rfl ml_Finder_79 v_Ballot_isCarriedBy (by decide) rfl (by decide) rfl rfl rfl (Nat.le_of_ble_eq_true rfl) (fun x_ e_ => s_Ballot_isCarriedBy G q1914r l2 l3 q1914u x_ e_) (fun q1917 e1918 b1919 => ?_)
        refine g_ifeq rfl (fun c1920 => ?_) (fun c1920 => ?_)
        · refine g_iinc (v := (1 : Int32)) (lv' := [(0, .ref 22), (1, .int l1), (2, .int l2), (3, .int l3), (4, .int l4), (5, .int (l5 + (1 : Int32))), (6, .int q1910)]) rfl rfl zic_1 (Nat.le_of_ble_eq_true rfl) rfl rfl ?_
          refine g_goto rfl ?_
          exact zgo_sub (zsubk [0, 1, 2, 3, 4, 5] rfl) (zgo_leaf (hb l4 (l5 + (1 : Int32)) q1914u))
        · refine g_iload rfl rfl ?_
          refine g_iload rfl rfl ?_
          refine g_iadd rfl ?_
          refine g_istore (lv' := [(0, .ref 22), (1, .int l1), (2, .int l2), (3, .int l3), (4, .int (l4 + q1910)), (5, .int l5), (6, .int q1910)]) rfl (Nat.le_of_ble_eq_true rfl) rfl rfl ?_
          refine g_iinc (v := (1 : Int32)) (lv' := [(0, .ref 22), (1, .int l1), (2, .int l2), (3, .int l3), (4, .int (l4 + q1910)), (5, .int (l5 + (1 : Int32))), (6, .int q1910)]) rfl rfl zic_1 (Nat.le_of_ble_eq_true rfl) rfl rfl ?_
          refine g_goto rfl ?_
          exact zgo_sub (zsubk [0, 1, 2, 3, 4, 5] rfl) (zgo_leaf (hb (l4 + q1910) (l5 + (1 : Int32)) q1914u))
set_option maxRecDepth 100000 in
set_option maxHeartbeats 4000000 in
theorem wa_Finder_twelfthsCarried_14 (G : ZG) (l4 : Int32) (u : ZSt) : ZGo G m_Finder_twelfthsCarried 5 (a_Finder_twelfthsCarried_14 l4 u) zkI 48 [(4, .int l4)] [] u := by
  unfold a_Finder_twelfthsCarried_14
  refine g_iload rfl rfl ?_
  exact g_iret rfl (Or.inl rfl) rfl
set_option maxRecDepth 100000 in
set_option maxHeartbeats 4000000 in
theorem w_Finder_twelfthsCarried (G : ZG) (a : Int32) (u : ZSt) : ZGo G m_Finder_twelfthsCarried 5 (f_Finder_twelfthsCarried a u) zkI 0 [(0, .ref 22), (1, .int a)] [] u := by
  unfold f_Finder_twelfthsCarried
  refine g_aload_n rfl rfl ?_
  refine g_getR rfl zf_Finder_28 rfl rfl ?_
  refine g_iload_n rfl rfl ?_
  refine g_callVP (M' := m_Ballot_fans) (d' := 4) (as := [.int a]) (rest := []) (ci := 0) (o := 19) rfl ml_Finder_73 v_Ballot_fans (by decide) rfl (by decide) rfl rfl rfl (Nat.le_of_ble_eq_true rfl) (fun x_ e_ => s_Ballot_fans G a u x_ e_) (fun q1902 e1903 b1904 => ?_)
  refine g_istore_n (lv' := [(0, .ref 22), (1, .int a), (2, .int q1902)]) rfl (Nat.le_of_ble_eq_true rfl) rfl rfl ?_
  refine g_aload_n rfl rfl ?_
  refine g_getR rfl zf_Finder_28 rfl rfl ?_
  refine g_iload_n rfl rfl ?_
  refine g_callVP (M' := m_Ballot_foes) (d' := 4) (as := [.int a]) (rest := []) (ci := 0) (o := 19) rfl ml_Finder_76 v_Ballot_foes (by decide) rfl (by decide) rfl rfl rfl (Nat.le_of_ble_eq_true rfl) (fun x_ e_ => s_Ballot_foes G a u x_ e_) (fun q1905 e1906 b1907 => ?_)
  refine g_istore_n (lv' := [(0, .ref 22), (1, .int a), (2, .int q1902), (3, .int q1905)]) rfl (Nat.le_of_ble_eq_true rfl) rfl rfl ?_
  refine g_iconst (v := (0 : Int32)) rfl zic_0 ?_
  refine g_istore (lv' := [(0, .ref 22), (1, .int a), (2, .int q1902), (3, .int q1905), (4, .int (0 : Int32))]) rfl (Nat.le_of_ble_eq_true rfl) rfl rfl ?_
  refine g_iconst (v := (0 : Int32)) rfl zic_0 ?_
  refine g_istore (lv' := [(0, .ref 22), (1, .int a), (2, .int q1902), (3, .int q1905), (4, .int (0 : Int32)), (5, .int (0 : Int32))]) rfl (Nat.le_of_ble_eq_true rfl) rfl rfl ?_
  refine zgo_sub (lv' := [(0, .ref 22), (1, .int a), (2, .int q1902), (3, .int q1905), (4, .int (0 : Int32)), (5, .int (0 : Int32))]) (zsubk [0, 1, 2, 3, 4, 5] rfl) ?_
  refine zgo_loop (σ := Int32 × Int32 × ZSt) (lvf := fun s => [(0, .ref 22), (1, .int a), (2, .int q1902), (3, .int q1905), (4, .int s.1), (5, .int s.2.1)]) (uf := (fun s => s.2.2)) ?_ zfu _
  intro s K' ih he
  refine wb_Finder_twelfthsCarried_14 G a q1902 q1905 s.1 s.2.1 s.2.2 K' ?_ ?_
  · intro c0 c1 v
    exact ih (c0, c1, v)
  · intro c0 c1 v
    rw [he]
    exact zgo_unleaf (wa_Finder_twelfthsCarried_14 G c0 v)
theorem s_Finder_twelfthsCarried (G : ZG) (a : Int32) (u : ZSt) (x : Int32 × ZSt) (hx : f_Finder_twelfthsCarried a u = some x) : ZSpec G m_Finder_twelfthsCarried 5 [.ref 22, .int a] u (zemI x) :=
  ZSpec.go k_Finder_twelfthsCarried (Nat.le_of_ble_eq_true rfl) (w_Finder_twelfthsCarried G a u) (tgt := zemI x) (by rw [hx]; rfl)
set_option maxRecDepth 100000 in
set_option maxHeartbeats 4000000 in
theorem wb_Finder_twelfths_4 (G : ZG) (l0 : Int32) (l1 : Int32) (l2 : Int32) (u : ZSt) (K : ((Int32 × Int32) ⊕ (Int32 × Int32)) → Option (Value × ZSt)) (hb : ∀ (l1 : Int32) (l2 : Int32), ZGo G m_Finder_twelfths 1 (K (.inl (l1, l2))) some 4 [(0, .int l0), (1, .int l1), (2, .int l2)] [] u) (hx : ∀ (l1 : Int32) (l2 : Int32), ZGo G m_Finder_twelfths 1 (K (.inr (l1, l2))) some 19 [(1, .int l1)] [] u) : ZGo G m_Finder_twelfths 1 (b_Finder_twelfths_4 l0 l1 l2 ) K 4 [(0, .int l0), (1, .int l1), (2, .int l2)] [] u := by
  unfold b_Finder_twelfths_4
  refine g_iload_n rfl rfl ?_
  refine g_bipush (v := (6 : Int32)) rfl zib_6 ?_
  refine g_icmpge rfl (fun c1921 => ?_) (fun c1921 => ?_)
  · exact zgo_sub (zsubk [1] rfl) (zgo_leaf (hx l1 l2))
  · refine g_iload_n rfl rfl ?_
    refine g_iload_n rfl rfl ?_
    refine g_iushr rfl ?_
    refine g_iconst (v := (1 : Int32)) rfl zic_1 ?_
    refine g_iand rfl ?_
    refine g_ifeq rfl (fun c1922 => ?_) (fun c1922 => ?_)
    · refine g_iinc (v := (1 : Int32)) (lv' := [(0, .int l0), (1, .int l1), (2, .int (l2 + (1 : Int32)))]) rfl rfl zic_1 (Nat.le_of_ble_eq_true rfl) rfl rfl ?_
      refine g_goto rfl ?_
      exact zgo_sub (zsubk [0, 1, 2] rfl) (zgo_leaf (hb l1 (l2 + (1 : Int32))))
    · refine g_iload_n rfl rfl ?_
      refine g_bipush (v := (12 : Int32)) rfl zib_12 ?_
      refine g_imul rfl ?_
      refine g_istore_n (lv' := [(0, .int l0), (1, .int (l1 * (12 : Int32))), (2, .int l2)]) rfl (Nat.le_of_ble_eq_true rfl) rfl rfl ?_
      refine g_iinc (v := (1 : Int32)) (lv' := [(0, .int l0), (1, .int (l1 * (12 : Int32))), (2, .int (l2 + (1 : Int32)))]) rfl rfl zic_1 (Nat.le_of_ble_eq_true rfl) rfl rfl ?_
      refine g_goto rfl ?_
      exact zgo_sub (zsubk [0, 1, 2] rfl) (zgo_leaf (hb (l1 * (12 : Int32)) (l2 + (1 : Int32))))
set_option maxRecDepth 100000 in
set_option maxHeartbeats 4000000 in
theorem wa_Finder_twelfths_4 (G : ZG) (l1 : Int32) (u : ZSt) : ZGo G m_Finder_twelfths 1 (a_Finder_twelfths_4 l1 ) (zkP u) 19 [(1, .int l1)] [] u := by
  unfold a_Finder_twelfths_4
  refine g_iload_n rfl rfl ?_
  exact g_iret rfl (Or.inl rfl) rfl
set_option maxRecDepth 100000 in
set_option maxHeartbeats 4000000 in
theorem w_Finder_twelfths (G : ZG) (a : Int32) (u : ZSt) : ZGo G m_Finder_twelfths 1 (f_Finder_twelfths a) (zkP u) 0 [(0, .int a)] [] u := by
  unfold f_Finder_twelfths
  refine g_iconst (v := (1 : Int32)) rfl zic_1 ?_
  refine g_istore_n (lv' := [(0, .int a), (1, .int (1 : Int32))]) rfl (Nat.le_of_ble_eq_true rfl) rfl rfl ?_
  refine g_iconst (v := (0 : Int32)) rfl zic_0 ?_
  refine g_istore_n (lv' := [(0, .int a), (1, .int (1 : Int32)), (2, .int (0 : Int32))]) rfl (Nat.le_of_ble_eq_true rfl) rfl rfl ?_
  refine zgo_sub (lv' := [(0, .int a), (1, .int (1 : Int32)), (2, .int (0 : Int32))]) (zsubk [0, 1, 2] rfl) ?_
  refine zgo_loop (σ := Int32 × Int32) (lvf := fun s => [(0, .int a), (1, .int s.1), (2, .int s.2)]) (uf := (fun _ => u)) ?_ zfu _
  intro s K' ih he
  refine wb_Finder_twelfths_4 G a s.1 s.2 u K' ?_ ?_
  · intro c0 c1
    exact ih (c0, c1)
  · intro c0 c1
    rw [he]
    exact zgo_unleaf (wa_Finder_twelfths_4 G c0 u)
theorem s_Finder_twelfths (G : ZG) (a : Int32) (u : ZSt) (x : Int32) (hx : f_Finder_twelfths a = some x) : ZSpec G m_Finder_twelfths 1 [.int a] u ((zemP u) x) :=
  ZSpec.go k_Finder_twelfths (Nat.le_of_ble_eq_true rfl) (w_Finder_twelfths G a u) (tgt := (zemP u) x) (by rw [hx]; rfl)
set_option maxRecDepth 100000 in
set_option maxHeartbeats 4000000 in
theorem wb_Finder_commonDivisor_6 (G : ZG) (l2 : Int32) (l3 : Int32) (l4 : Int32) (u : ZSt) (K : ((Int32 × Int32 × Int32) ⊕ (Int32 × Int32 × Int32)) → Option (Value × ZSt)) (hb : ∀ (l2 : Int32) (l3 : Int32) (l4 : Int32), ZGo G m_Finder_commonDivisor 1 (K (.inl (l2, l3, l4))) some 6 [(2, .int l2), (3, .int l3), (4, .int l4)] [] u) (hx : ∀ (l2 : Int32) (l3 : Int32) (l4 : Int32), ZGo G m_Finder_commonDivisor 1 (K (.inr (l2, l3, l4))) some 21 [(2, .int l2)] [] u) : ZGo G m_Finder_commonDivisor 1 (b_Finder_commonDivisor_6 l2 l3 l4 ) K 6 [(2, .int l2), (3, .int l3), (4, .int l4)] [] u := by
  unfold b_Finder_commonDivisor_6
  refine g_iload rfl rfl ?_
  refine g_bipush (v := (100 : Int32)) rfl zib_100 ?_
  refine g_icmpge rfl (fun c1923 => ?_) (fun c1923 => ?_)
  · exact zgo_sub (zsubk [0] rfl) (zgo_leaf (hx l2 l3 l4))
  · refine g_iload_n rfl rfl ?_
    refine g_ifeq rfl (fun c1924 => ?_) (fun c1924 => ?_)
    · exact zgo_sub (zsubk [0] rfl) (zgo_leaf (hx l2 l3 l4))
    · refine g_iload_n rfl rfl ?_
      refine g_iload_n rfl rfl ?_
      refine g_irem rfl c1924 ?_
      refine g_istore (lv' := [(2, .int l2), (3, .int l3), (4, .int l4), (5, .int (zrem l2 l3))]) rfl (Nat.le_of_ble_eq_true rfl) rfl rfl ?_
      refine g_iload_n rfl rfl ?_
      refine g_istore_n (lv' := [(2, .int l3), (3, .int l3), (4, .int l4), (5, .int (zrem l2 l3))]) rfl (Nat.le_of_ble_eq_true rfl) rfl rfl ?_
      refine g_iload rfl rfl ?_
      refine g_istore_n (lv' := [(2, .int l3), (3, .int (zrem l2 l3)), (4, .int l4), (5, .int (zrem l2 l3))]) rfl (Nat.le_of_ble_eq_true rfl) rfl rfl ?_
      refine g_iinc (v := (1 : Int32)) (lv' := [(2, .int l3), (3, .int (zrem l2 l3)), (4, .int (l4 + (1 : Int32))), (5, .int (zrem l2 l3))]) rfl rfl zic_1 (Nat.le_of_ble_eq_true rfl) rfl rfl ?_
      refine g_goto rfl ?_
      exact zgo_sub (zsubk [0, 1, 2] rfl) (zgo_leaf (hb l3 (zrem l2 l3) (l4 + (1 : Int32))))
set_option maxRecDepth 100000 in
set_option maxHeartbeats 4000000 in
theorem wa_Finder_commonDivisor_6 (G : ZG) (l2 : Int32) (u : ZSt) : ZGo G m_Finder_commonDivisor 1 (a_Finder_commonDivisor_6 l2 ) (zkP u) 21 [(2, .int l2)] [] u := by
  unfold a_Finder_commonDivisor_6
  refine g_iload_n rfl rfl ?_
  exact g_iret rfl (Or.inl rfl) rfl
set_option maxRecDepth 100000 in
set_option maxHeartbeats 4000000 in
theorem w_Finder_commonDivisor (G : ZG) (a : Int32) (b : Int32) (u : ZSt) : ZGo G m_Finder_commonDivisor 1 (f_Finder_commonDivisor a b) (zkP u) 0 [(0, .int a), (1, .int b)] [] u := by
  unfold f_Finder_commonDivisor
  refine g_iload_n rfl rfl ?_
  refine g_istore_n (lv' := [(0, .int a), (1, .int b), (2, .int a)]) rfl (Nat.le_of_ble_eq_true rfl) rfl rfl ?_
  refine g_iload_n rfl rfl ?_
  refine g_istore_n (lv' := [(0, .int a), (1, .int b), (2, .int a), (3, .int b)]) rfl (Nat.le_of_ble_eq_true rfl) rfl rfl ?_
  refine g_iconst (v := (0 : Int32)) rfl zic_0 ?_
  refine g_istore (lv' := [(0, .int a), (1, .int b), (2, .int a), (3, .int b), (4, .int (0 : Int32))]) rfl (Nat.le_of_ble_eq_true rfl) rfl rfl ?_
  refine zgo_sub (lv' := [(2, .int a), (3, .int b), (4, .int (0 : Int32))]) (zsubk [2, 3, 4] rfl) ?_
  refine zgo_loop (σ := Int32 × Int32 × Int32) (lvf := fun s => [(2, .int s.1), (3, .int s.2.1), (4, .int s.2.2)]) (uf := (fun _ => u)) ?_ zfu _
  intro s K' ih he
  refine wb_Finder_commonDivisor_6 G s.1 s.2.1 s.2.2 u K' ?_ ?_
  · intro c0 c1 c2
    exact ih (c0, c1, c2)
  · intro c0 c1 c2
    rw [he]
    exact zgo_unleaf (wa_Finder_commonDivisor_6 G c0 u)
theorem s_Finder_commonDivisor (G : ZG) (a : Int32) (b : Int32) (u : ZSt) (x : Int32) (hx : f_Finder_commonDivisor a b = some x) : ZSpec G m_Finder_commonDivisor 1 [.int a, .int b] u ((zemP u) x) :=
  ZSpec.go k_Finder_commonDivisor (Nat.le_of_ble_eq_true rfl) (w_Finder_commonDivisor G a b u) (tgt := (zemP u) x) (by rw [hx]; rfl)
set_option maxRecDepth 100000 in
set_option maxHeartbeats 4000000 in
theorem w_X_chance (G : ZG) (a : Int32) (b : Int32) (u : ZSt) : ZGo G m_X_chance 6 (f_X_chance a b u) zkI 0 [(0, .ref 0), (1, .int a), (2, .int b)] [] u := by
  unfold f_X_chance
  refine g_aload_n rfl rfl ?_
  refine g_getR rfl zf_X_10 rfl rfl ?_
  refine g_iload_n rfl rfl ?_
  refine g_callVP (M' := m_Council_isBundle) (d' := 2) (as := [.int a]) (rest := []) (ci := 3) (o := 1) rfl ml_X_187 v_Council_isBundle (by decide) rfl (by decide) rfl rfl rfl (Nat.le_of_ble_eq_true rfl) (fun x_ e_ => s_Council_isBundle G a u x_ e_) (fun q1925 e1926 b1927 => ?_)
  refine g_ifeq rfl (fun c1928 => ?_) (fun c1928 => ?_)
  · refine g_iconst (v := (-1 : Int32)) rfl zic_m1 ?_
    exact g_iret rfl (Or.inl rfl) rfl
  · refine g_iload_n rfl rfl ?_
    refine g_iflt rfl (fun c1929 => ?_) (fun c1929 => ?_)
    · refine g_iconst (v := (-1 : Int32)) rfl zic_m1 ?_
      exact g_iret rfl (Or.inl rfl) rfl
    · refine g_iload_n rfl rfl ?_
      refine g_iconst (v := (1 : Int32)) rfl zic_1 ?_
      refine g_icmple rfl (fun c1930 => ?_) (fun c1930 => ?_)
      · refine g_aload_n rfl rfl ?_
        refine g_getR rfl zf_X_53 rfl rfl ?_
        refine g_iload_n rfl rfl ?_
        refine g_callVI (M' := m_Finder_twelfthsCarried) (d' := 5) (as := [.int a]) (rest := []) (ci := 5) (o := 22) rfl ml_X_232 v_Finder_twelfthsCarried (by decide) rfl (by decide) rfl rfl rfl (Nat.le_of_ble_eq_true rfl) (fun x_ e_ => s_Finder_twelfthsCarried G a u x_ e_) (fun q1931r q1931u e1932 b1933 => ?_)
        refine g_istore_n (lv' := [(0, .ref 0), (1, .int a), (2, .int b), (3, .int q1931r)]) rfl (Nat.le_of_ble_eq_true rfl) rfl rfl ?_
        refine g_iload_n rfl rfl ?_
        refine g_callSP (M' := m_Finder_twelfths) (d' := 1) (as := [.int a]) (rest := []) rfl ml_X_235 v_Finder_twelfths (by decide) rfl rfl (Nat.le_of_ble_eq_true rfl) (fun x_ e_ => s_Finder_twelfths G a q1931u x_ e_) (fun q1934 e1935 b1936 => ?_)
        refine g_istore (lv' := [(0, .ref 0), (1, .int a), (2, .int b), (3, .int q1931r), (4, .int q1934)]) rfl (Nat.le_of_ble_eq_true rfl) rfl rfl ?_
        refine g_iload_n rfl rfl ?_
        refine g_iload rfl rfl ?_
        refine g_callSP (M' := m_Finder_commonDivisor) (d' := 1) (as := [.int q1931r, .int q1934]) (rest := []) rfl ml_X_238 v_Finder_commonDivisor (by decide) rfl rfl (Nat.le_of_ble_eq_true rfl) (fun x_ e_ => s_Finder_commonDivisor G q1931r q1934 q1931u x_ e_) (fun q1937 e1938 b1939 => ?_)
        refine g_istore (lv' := [(0, .ref 0), (1, .int a), (2, .int b), (3, .int q1931r), (4, .int q1934), (5, .int q1937)]) rfl (Nat.le_of_ble_eq_true rfl) rfl rfl ?_
        refine g_iload rfl rfl ?_
        refine g_iconst (v := (1 : Int32)) rfl zic_1 ?_
        refine g_icmpge rfl (fun c1940 => ?_) (fun c1940 => ?_)
        · refine g_iload_n rfl rfl ?_
          refine g_ifne rfl (fun c1941 => ?_) (fun c1941 => ?_)
          · refine g_iload rfl rfl ?_
            refine g_iload rfl rfl ?_
            refine g_idivo rfl (fun c1942 => ?_)
            exact g_iret rfl (Or.inl rfl) rfl
          · refine g_iload_n rfl rfl ?_
            refine g_goto rfl ?_
            refine g_iload rfl rfl ?_
            refine g_idivo rfl (fun c1943 => ?_)
            exact g_iret rfl (Or.inl rfl) rfl
        · refine g_iconst (v := (-1 : Int32)) rfl zic_m1 ?_
          exact g_iret rfl (Or.inl rfl) rfl
      · refine g_iconst (v := (-1 : Int32)) rfl zic_m1 ?_
        exact g_iret rfl (Or.inl rfl) rfl
theorem s_X_chance (G : ZG) (a : Int32) (b : Int32) (u : ZSt) (x : Int32 × ZSt) (hx : f_X_chance a b u = some x) : ZSpec G m_X_chance 6 [.ref 0, .int a, .int b] u (zemI x) :=
  ZSpec.go k_X_chance (Nat.le_of_ble_eq_true rfl) (w_X_chance G a b u) (tgt := zemI x) (by rw [hx]; rfl)
set_option maxRecDepth 100000 in
set_option maxHeartbeats 4000000 in
theorem wb_M_common_4 (G : ZG) (l2 : Int32) (l3 : Int32) (u : ZSt) (K : ((Int32 × Int32) ⊕ (Int32 × Int32)) → Option (Value × ZSt)) (hb : ∀ (l2 : Int32) (l3 : Int32), ZGo G m_M_common 1 (K (.inl (l2, l3))) some 4 [(2, .int l2), (3, .int l3)] [] u) (hx : ∀ (l2 : Int32) (l3 : Int32), ZGo G m_M_common 1 (K (.inr (l2, l3))) some 15 [(2, .int l2)] [] u) : ZGo G m_M_common 1 (b_M_common_4 l2 l3 ) K 4 [(2, .int l2), (3, .int l3)] [] u := by
  unfold b_M_common_4
  refine g_iload_n rfl rfl ?_
  refine g_ifeq rfl (fun c1944 => ?_) (fun c1944 => ?_)
  · exact zgo_sub (zsubk [0] rfl) (zgo_leaf (hx l2 l3))
  · refine g_iload_n rfl rfl ?_
    refine g_iload_n rfl rfl ?_
    refine g_irem rfl c1944 ?_
    refine g_istore (lv' := [(2, .int l2), (3, .int l3), (4, .int (zrem l2 l3))]) rfl (Nat.le_of_ble_eq_true rfl) rfl rfl ?_
    refine g_iload_n rfl rfl ?_
    refine g_istore_n (lv' := [(2, .int l3), (3, .int l3), (4, .int (zrem l2 l3))]) rfl (Nat.le_of_ble_eq_true rfl) rfl rfl ?_
    refine g_iload rfl rfl ?_
    refine g_istore_n (lv' := [(2, .int l3), (3, .int (zrem l2 l3)), (4, .int (zrem l2 l3))]) rfl (Nat.le_of_ble_eq_true rfl) rfl rfl ?_
    refine g_goto rfl ?_
    exact zgo_sub (zsubk [0, 1] rfl) (zgo_leaf (hb l3 (zrem l2 l3)))
set_option maxRecDepth 100000 in
set_option maxHeartbeats 4000000 in
theorem wa_M_common_4 (G : ZG) (l2 : Int32) (u : ZSt) : ZGo G m_M_common 1 (a_M_common_4 l2 ) (zkP u) 15 [(2, .int l2)] [] u := by
  unfold a_M_common_4
  refine g_iload_n rfl rfl ?_
  exact g_iret rfl (Or.inl rfl) rfl
set_option maxRecDepth 100000 in
set_option maxHeartbeats 4000000 in
theorem w_M_common (G : ZG) (a : Int32) (b : Int32) (u : ZSt) : ZGo G m_M_common 1 (f_M_common a b) (zkP u) 0 [(0, .int a), (1, .int b)] [] u := by
  unfold f_M_common
  refine g_iload_n rfl rfl ?_
  refine g_istore_n (lv' := [(0, .int a), (1, .int b), (2, .int a)]) rfl (Nat.le_of_ble_eq_true rfl) rfl rfl ?_
  refine g_iload_n rfl rfl ?_
  refine g_istore_n (lv' := [(0, .int a), (1, .int b), (2, .int a), (3, .int b)]) rfl (Nat.le_of_ble_eq_true rfl) rfl rfl ?_
  refine zgo_sub (lv' := [(2, .int a), (3, .int b)]) (zsubk [2, 3] rfl) ?_
  refine zgo_loop (σ := Int32 × Int32) (lvf := fun s => [(2, .int s.1), (3, .int s.2)]) (uf := (fun _ => u)) ?_ zfu _
  intro s K' ih he
  refine wb_M_common_4 G s.1 s.2 u K' ?_ ?_
  · intro c0 c1
    exact ih (c0, c1)
  · intro c0 c1
    rw [he]
    exact zgo_unleaf (wa_M_common_4 G c0 u)
theorem s_M_common (G : ZG) (a : Int32) (b : Int32) (u : ZSt) (x : Int32) (hx : f_M_common a b = some x) : ZSpec G m_M_common 1 [.int a, .int b] u ((zemP u) x) :=
  ZSpec.go k_M_common (Nat.le_of_ble_eq_true rfl) (w_M_common G a b u) (tgt := (zemP u) x) (by rw [hx]; rfl)
set_option maxRecDepth 100000 in
set_option maxHeartbeats 4000000 in
theorem wb_M_chance_18 (G : ZG) (l1 : Int32) (l2 : Int32) (l3 : Int32) (l4 : Int32) (l5 : Int32) (u : ZSt) (K : ((Int32 × Int32) ⊕ (Int32 × Int32)) → Option (Value × ZSt)) (hb : ∀ (l4 : Int32) (l5 : Int32), ZGo G m_M_chance 107 (K (.inl (l4, l5))) some 18 [(0, .ref 39), (1, .int l1), (2, .int l2), (3, .int l3), (4, .int l4), (5, .int l5)] [] u) (hx : ∀ (l4 : Int32) (l5 : Int32), ZGo G m_M_chance 107 (K (.inr (l4, l5))) some 34 [(0, .ref 39), (1, .int l1), (2, .int l2), (3, .int l3), (4, .int l4)] [] u) : ZGo G m_M_chance 107 (b_M_chance_18 l1 l2 l3 l4 l5 u) K 18 [(0, .ref 39), (1, .int l1), (2, .int l2), (3, .int l3), (4, .int l4), (5, .int l5)] [] u := by
  unfold b_M_chance_18
  refine g_iload rfl rfl ?_
  refine g_aload_n rfl rfl ?_
  refine g_getI rfl zf_M_101 rfl rfl rfl ?_
  refine g_icmpge rfl (fun c1953 => ?_) (fun c1953 => ?_)
  · exact zgo_sub (zsubk [0, 1, 2, 3, 4] rfl) (zgo_leaf (hx l4 l5))
  · refine g_iload rfl rfl ?_
    refine g_iload_n rfl rfl ?_
    refine g_iload rfl rfl ?_
    refine g_callSP (M' := m_M_isIn) (d' := 1) (as := [.int l1, .int l5]) (rest := [.int l4]) rfl ml_M_118 v_M_isIn (by decide) rfl rfl (Nat.le_of_ble_eq_true rfl) (fun x_ e_ => s_M_isIn G l1 l5 u x_ e_) (fun q1954 e1955 b1956 => ?_)
    refine g_ifeq rfl (fun c1957 => ?_) (fun c1957 => ?_)
    · refine g_iconst (v := (1 : Int32)) rfl zic_1 ?_
      refine g_imul rfl ?_
      refine g_istore (lv' := [(0, .ref 39), (1, .int l1), (2, .int l2), (3, .int l3), (4, .int (l4 * (1 : Int32))), (5, .int l5)]) rfl (Nat.le_of_ble_eq_true rfl) rfl rfl ?_
      refine g_iinc (v := (1 : Int32)) (lv' := [(0, .ref 39), (1, .int l1), (2, .int l2), (3, .int l3), (4, .int (l4 * (1 : Int32))), (5, .int (l5 + (1 : Int32)))]) rfl rfl zic_1 (Nat.le_of_ble_eq_true rfl) rfl rfl ?_
      refine g_goto rfl ?_
      exact zgo_sub (zsubk [0, 1, 2, 3, 4, 5] rfl) (zgo_leaf (hb (l4 * (1 : Int32)) (l5 + (1 : Int32))))
    · refine g_bipush (v := (12 : Int32)) rfl zib_12 ?_
      refine g_goto rfl ?_
      refine g_imul rfl ?_
      refine g_istore (lv' := [(0, .ref 39), (1, .int l1), (2, .int l2), (3, .int l3), (4, .int (l4 * (12 : Int32))), (5, .int l5)]) rfl (Nat.le_of_ble_eq_true rfl) rfl rfl ?_
      refine g_iinc (v := (1 : Int32)) (lv' := [(0, .ref 39), (1, .int l1), (2, .int l2), (3, .int l3), (4, .int (l4 * (12 : Int32))), (5, .int (l5 + (1 : Int32)))]) rfl rfl zic_1 (Nat.le_of_ble_eq_true rfl) rfl rfl ?_
      refine g_goto rfl ?_
      exact zgo_sub (zsubk [0, 1, 2, 3, 4, 5] rfl) (zgo_leaf (hb (l4 * (12 : Int32)) (l5 + (1 : Int32))))
set_option maxRecDepth 100000 in
set_option maxHeartbeats 4000000 in
theorem wb_M_chance_50 (G : ZG) (l1 : Int32) (l2 : Int32) (l3 : Int32) (l4 : Int32) (l5 : Int32) (l6 : Int32) (l7 : Int32) (u : ZSt) (K : ((Int32 × Int32) ⊕ (Int32 × Int32)) → Option (Value × ZSt)) (hb : ∀ (l6 : Int32) (l7 : Int32), ZGo G m_M_chance 107 (K (.inl (l6, l7))) some 50 [(0, .ref 39), (1, .int l1), (2, .int l2), (3, .int l3), (4, .int l4), (5, .int l5), (6, .int l6), (7, .int l7)] [] u) (hx : ∀ (l6 : Int32) (l7 : Int32), ZGo G m_M_chance 107 (K (.inr (l6, l7))) some 81 [(0, .ref 39), (1, .int l1), (2, .int l2), (3, .int l3), (4, .int l4), (5, .int l5), (6, .int l6)] [] u) : ZGo G m_M_chance 107 (b_M_chance_50 l1 l2 l3 l4 l5 l6 l7 u) K 50 [(0, .ref 39), (1, .int l1), (2, .int l2), (3, .int l3), (4, .int l4), (5, .int l5), (6, .int l6), (7, .int l7)] [] u := by
  unfold b_M_chance_50
  refine g_iload rfl rfl ?_
  refine g_aload_n rfl rfl ?_
  refine g_getI rfl zf_M_101 rfl rfl rfl ?_
  refine g_icmpge rfl (fun c1960 => ?_) (fun c1960 => ?_)
  · exact zgo_sub (zsubk [0, 1, 2, 3, 4, 5, 6] rfl) (zgo_leaf (hx l6 l7))
  · refine g_aload_n rfl rfl ?_
    refine g_getR rfl zf_M_9 rfl rfl ?_
    refine g_bipush (v := (120 : Int32)) rfl zib_120 ?_
    refine g_iload rfl rfl ?_
    refine g_iadd rfl ?_
    refine g_iald rfl rfl (fun o1969 => ?_)
    refine g_istore (lv' := [(0, .ref 39), (1, .int l1), (2, .int l2), (3, .int l3), (4, .int l4), (5, .int l5), (6, .int l6), (7, .int l7), (8, .int (u.2.1 40 ((120 : Int32) + l7).toNatClampNeg))]) rfl (Nat.le_of_ble_eq_true rfl) rfl rfl ?_
    refine g_iload rfl rfl ?_
    refine g_iload_n rfl rfl ?_
    refine g_iload rfl rfl ?_
    refine g_callSP (M' := m_M_isIn) (d' := 1) (as := [.int l1, .int l7]) (rest := [.int l6]) rfl ml_M_118 v_M_isIn (by decide) rfl rfl (Nat.le_of_ble_eq_true rfl) (fun x_ e_ => s_M_isIn G l1 l7 u x_ e_) (fun q1961 e1962 b1963 => ?_)
    refine g_ifne rfl (fun c1964 => ?_) (fun c1964 => ?_)
    · refine g_iload rfl rfl ?_
      refine g_iload rfl rfl ?_
      refine g_callSP (M' := m_M_isIn) (d' := 1) (as := [.int l5, .int l7]) (rest := [.int l6]) rfl ml_M_118 v_M_isIn (by decide) rfl rfl (Nat.le_of_ble_eq_true rfl) (fun x_ e_ => s_M_isIn G l5 l7 u x_ e_) (fun q1965 e1966 b1967 => ?_)
      refine g_ifeq rfl (fun c1968 => ?_) (fun c1968 => ?_)
      · refine g_bipush (v := (12 : Int32)) rfl zib_12 ?_
        refine g_iload rfl rfl ?_
        refine g_isub rfl ?_
        refine g_imul rfl ?_
        refine g_istore (lv' := [(0, .ref 39), (1, .int l1), (2, .int l2), (3, .int l3), (4, .int l4), (5, .int l5), (6, .int (l6 * ((12 : Int32) - (u.2.1 40 ((120 : Int32) + l7).toNatClampNeg)))), (7, .int l7), (8, .int (u.2.1 40 ((120 : Int32) + l7).toNatClampNeg))]) rfl (Nat.le_of_ble_eq_true rfl) rfl rfl ?_
        refine g_iinc (v := (1 : Int32)) (lv' := [(0, .ref 39), (1, .int l1), (2, .int l2), (3, .int l3), (4, .int l4), (5, .int l5), (6, .int (l6 * ((12 : Int32) - (u.2.1 40 ((120 : Int32) + l7).toNatClampNeg)))), (7, .int (l7 + (1 : Int32))), (8, .int (u.2.1 40 ((120 : Int32) + l7).toNatClampNeg))]) rfl rfl zic_1 (Nat.le_of_ble_eq_true rfl) rfl rfl ?_
        refine g_goto rfl ?_
        exact zgo_sub (zsubk [0, 1, 2, 3, 4, 5, 6, 7] rfl) (zgo_leaf (hb (l6 * ((12 : Int32) - (u.2.1 40 ((120 : Int32) + l7).toNatClampNeg))) (l7 + (1 : Int32))))
      · refine g_iload rfl rfl ?_
        refine g_goto rfl ?_
        refine g_imul rfl ?_
        refine g_istore (lv' := [(0, .ref 39), (1, .int l1), (2, .int l2), (3, .int l3), (4, .int l4), (5, .int l5), (6, .int (l6 * (u.2.1 40 ((120 : Int32) + l7).toNatClampNeg))), (7, .int l7), (8, .int (u.2.1 40 ((120 : Int32) + l7).toNatClampNeg))]) rfl (Nat.le_of_ble_eq_true rfl) rfl rfl ?_
        refine g_iinc (v := (1 : Int32)) (lv' := [(0, .ref 39), (1, .int l1), (2, .int l2), (3, .int l3), (4, .int l4), (5, .int l5), (6, .int (l6 * (u.2.1 40 ((120 : Int32) + l7).toNatClampNeg))), (7, .int (l7 + (1 : Int32))), (8, .int (u.2.1 40 ((120 : Int32) + l7).toNatClampNeg))]) rfl rfl zic_1 (Nat.le_of_ble_eq_true rfl) rfl rfl ?_
        refine g_goto rfl ?_
        exact zgo_sub (zsubk [0, 1, 2, 3, 4, 5, 6, 7] rfl) (zgo_leaf (hb (l6 * (u.2.1 40 ((120 : Int32) + l7).toNatClampNeg)) (l7 + (1 : Int32))))
    · refine g_iconst (v := (1 : Int32)) rfl zic_1 ?_
      refine g_goto rfl ?_
      refine g_imul rfl ?_
      refine g_istore (lv' := [(0, .ref 39), (1, .int l1), (2, .int l2), (3, .int l3), (4, .int l4), (5, .int l5), (6, .int (l6 * (1 : Int32))), (7, .int l7), (8, .int (u.2.1 40 ((120 : Int32) + l7).toNatClampNeg))]) rfl (Nat.le_of_ble_eq_true rfl) rfl rfl ?_
      refine g_iinc (v := (1 : Int32)) (lv' := [(0, .ref 39), (1, .int l1), (2, .int l2), (3, .int l3), (4, .int l4), (5, .int l5), (6, .int (l6 * (1 : Int32))), (7, .int (l7 + (1 : Int32))), (8, .int (u.2.1 40 ((120 : Int32) + l7).toNatClampNeg))]) rfl rfl zic_1 (Nat.le_of_ble_eq_true rfl) rfl rfl ?_
      refine g_goto rfl ?_
      exact zgo_sub (zsubk [0, 1, 2, 3, 4, 5, 6, 7] rfl) (zgo_leaf (hb (l6 * (1 : Int32)) (l7 + (1 : Int32))))
set_option maxRecDepth 100000 in
set_option maxHeartbeats 4000000 in
theorem wa_M_chance_50 (G : ZG) (l1 : Int32) (l2 : Int32) (l3 : Int32) (l4 : Int32) (l5 : Int32) (l6 : Int32) (u : ZSt) (K : ((Int32 × Int32 × ZSt) ⊕ (Int32 × Int32 × ZSt)) → Option (Value × ZSt)) (hb : ∀ (l3 : Int32) (l5 : Int32) (u : ZSt), ZGo G m_M_chance 107 (K (.inl (l3, l5, u))) some 36 [(0, .ref 39), (1, .int l1), (2, .int l2), (3, .int l3), (4, .int l4), (5, .int l5)] [] u) (hx : ∀ (l3 : Int32) (l5 : Int32) (u : ZSt), ZGo G m_M_chance 107 (K (.inr (l3, l5, u))) some 101 [(2, .int l2), (3, .int l3), (4, .int l4)] [] u) : ZGo G m_M_chance 107 (a_M_chance_50 l1 l2 l3 l4 l5 l6 u) K 81 [(0, .ref 39), (1, .int l1), (2, .int l2), (3, .int l3), (4, .int l4), (5, .int l5), (6, .int l6)] [] u := by
  unfold a_M_chance_50
  refine g_iload rfl rfl ?_
  refine g_ifle rfl (fun c1970 => ?_) (fun c1970 => ?_)
  · refine g_iinc (v := (1 : Int32)) (lv' := [(0, .ref 39), (1, .int l1), (2, .int l2), (3, .int l3), (4, .int l4), (5, .int (l5 + (1 : Int32))), (6, .int l6)]) rfl rfl zic_1 (Nat.le_of_ble_eq_true rfl) rfl rfl ?_
    refine g_goto rfl ?_
    exact zgo_sub (zsubk [0, 1, 2, 3, 4, 5] rfl) (zgo_leaf (hb l3 (l5 + (1 : Int32)) u))
  · refine g_aload_n rfl rfl ?_
    refine g_iload_n rfl rfl ?_
    refine g_iload rfl rfl ?_
    refine g_iconst (v := (0 : Int32)) rfl zic_0 ?_
    refine g_callVV (M' := m_M_asks) (d' := 106) (as := [.int l1, .int l5, .int (0 : Int32)]) (rest := []) (ci := 11) (o := 39) rfl ml_M_226 v_M_asks (by decide) rfl (by decide) rfl rfl rfl (Nat.le_of_ble_eq_true rfl) (fun x_ e_ => s_M_asks G l1 l5 (0 : Int32) u x_ e_) (fun q1971 e1972 b1973 => ?_)
    refine g_iload_n rfl rfl ?_
    refine g_aload_n rfl rfl ?_
    refine g_aload_n rfl rfl ?_
    refine g_getI rfl zf_M_212 rfl rfl rfl ?_
    refine g_callVP (M' := m_M_isCarriedBy) (d' := 4) (as := [.int (q1971.1 3925)]) (rest := [.int l3]) (ci := 11) (o := 39) rfl ml_M_229 v_M_isCarriedBy (by decide) rfl (by decide) rfl rfl rfl (Nat.le_of_ble_eq_true rfl) (fun x_ e_ => s_M_isCarriedBy G (q1971.1 3925) q1971 x_ e_) (fun q1974 e1975 b1976 => ?_)
    refine g_ifeq rfl (fun c1977 => ?_) (fun c1977 => ?_)
    · refine g_iconst (v := (0 : Int32)) rfl zic_0 ?_
      refine g_iadd rfl ?_
      refine g_istore_n (lv' := [(0, .ref 39), (1, .int l1), (2, .int l2), (3, .int (l3 + (0 : Int32))), (4, .int l4), (5, .int l5), (6, .int l6)]) rfl (Nat.le_of_ble_eq_true rfl) rfl rfl ?_
      refine g_iinc (v := (1 : Int32)) (lv' := [(0, .ref 39), (1, .int l1), (2, .int l2), (3, .int (l3 + (0 : Int32))), (4, .int l4), (5, .int (l5 + (1 : Int32))), (6, .int l6)]) rfl rfl zic_1 (Nat.le_of_ble_eq_true rfl) rfl rfl ?_
      refine g_goto rfl ?_
      exact zgo_sub (zsubk [0, 1, 2, 3, 4, 5] rfl) (zgo_leaf (hb (l3 + (0 : Int32)) (l5 + (1 : Int32)) q1971))
    · refine g_iload rfl rfl ?_
      refine g_goto rfl ?_
      refine g_iadd rfl ?_
      refine g_istore_n (lv' := [(0, .ref 39), (1, .int l1), (2, .int l2), (3, .int (l3 + l6)), (4, .int l4), (5, .int l5), (6, .int l6)]) rfl (Nat.le_of_ble_eq_true rfl) rfl rfl ?_
      refine g_iinc (v := (1 : Int32)) (lv' := [(0, .ref 39), (1, .int l1), (2, .int l2), (3, .int (l3 + l6)), (4, .int l4), (5, .int (l5 + (1 : Int32))), (6, .int l6)]) rfl rfl zic_1 (Nat.le_of_ble_eq_true rfl) rfl rfl ?_
      refine g_goto rfl ?_
      exact zgo_sub (zsubk [0, 1, 2, 3, 4, 5] rfl) (zgo_leaf (hb (l3 + l6) (l5 + (1 : Int32)) q1971))
set_option maxRecDepth 100000 in
set_option maxHeartbeats 4000000 in
theorem wb_M_chance_36 (G : ZG) (l1 : Int32) (l2 : Int32) (l4 : Int32) (l3 : Int32) (l5 : Int32) (u : ZSt) (K : ((Int32 × Int32 × ZSt) ⊕ (Int32 × Int32 × ZSt)) → Option (Value × ZSt)) (hb : ∀ (l3 : Int32) (l5 : Int32) (u : ZSt), ZGo G m_M_chance 107 (K (.inl (l3, l5, u))) some 36 [(0, .ref 39), (1, .int l1), (2, .int l2), (3, .int l3), (4, .int l4), (5, .int l5)] [] u) (hx : ∀ (l3 : Int32) (l5 : Int32) (u : ZSt), ZGo G m_M_chance 107 (K (.inr (l3, l5, u))) some 101 [(2, .int l2), (3, .int l3), (4, .int l4)] [] u) : ZGo G m_M_chance 107 (b_M_chance_36 l1 l2 l4 l3 l5 u) K 36 [(0, .ref 39), (1, .int l1), (2, .int l2), (3, .int l3), (4, .int l4), (5, .int l5)] [] u := by
  unfold b_M_chance_36
  refine g_iload rfl rfl ?_
  refine g_iload_n rfl rfl ?_
  refine g_icmpgt rfl (fun c1958 => ?_) (fun c1958 => ?_)
  · exact zgo_sub (zsubk [2, 3, 4] rfl) (zgo_leaf (hx l3 l5 u))
  · refine g_iload rfl rfl ?_
    refine g_iload_n rfl rfl ?_
    refine g_iconst (v := (-1 : Int32)) rfl zic_m1 ?_
    refine g_ixor rfl ?_
    refine g_iand rfl ?_
    refine g_ifeq rfl (fun c1959 => ?_) (fun c1959 => ?_)
    · refine g_iconst (v := (1 : Int32)) rfl zic_1 ?_
      refine g_istore (lv' := [(0, .ref 39), (1, .int l1), (2, .int l2), (3, .int l3), (4, .int l4), (5, .int l5), (6, .int (1 : Int32))]) rfl (Nat.le_of_ble_eq_true rfl) rfl rfl ?_
      refine g_iconst (v := (0 : Int32)) rfl zic_0 ?_
      refine g_istore (lv' := [(0, .ref 39), (1, .int l1), (2, .int l2), (3, .int l3), (4, .int l4), (5, .int l5), (6, .int (1 : Int32)), (7, .int (0 : Int32))]) rfl (Nat.le_of_ble_eq_true rfl) rfl rfl ?_
      refine zgo_sub (lv' := [(0, .ref 39), (1, .int l1), (2, .int l2), (3, .int l3), (4, .int l4), (5, .int l5), (6, .int (1 : Int32)), (7, .int (0 : Int32))]) (zsubk [0, 1, 2, 3, 4, 5, 6, 7] rfl) ?_
      refine zgo_loop (σ := Int32 × Int32) (lvf := fun s => [(0, .ref 39), (1, .int l1), (2, .int l2), (3, .int l3), (4, .int l4), (5, .int l5), (6, .int s.1), (7, .int s.2)]) (uf := (fun _ => u)) ?_ zfu _
      intro s K' ih he
      refine wb_M_chance_50 G l1 l2 l3 l4 l5 s.1 s.2 u K' ?_ ?_
      · intro c0 c1
        exact ih (c0, c1)
      · intro c0 c1
        rw [he]
        exact zgo_unleaf (wa_M_chance_50 G l1 l2 l3 l4 l5 c0 u K hb hx)
    · refine g_goto rfl ?_
      refine g_iinc (v := (1 : Int32)) (lv' := [(0, .ref 39), (1, .int l1), (2, .int l2), (3, .int l3), (4, .int l4), (5, .int (l5 + (1 : Int32)))]) rfl rfl zic_1 (Nat.le_of_ble_eq_true rfl) rfl rfl ?_
      refine g_goto rfl ?_
      exact zgo_sub (zsubk [0, 1, 2, 3, 4, 5] rfl) (zgo_leaf (hb l3 (l5 + (1 : Int32)) u))
set_option maxRecDepth 100000 in
set_option maxHeartbeats 4000000 in
theorem wa_M_chance_36 (G : ZG) (l2 : Int32) (l3 : Int32) (l4 : Int32) (u : ZSt) : ZGo G m_M_chance 107 (a_M_chance_36 l2 l3 l4 u) zkI 101 [(2, .int l2), (3, .int l3), (4, .int l4)] [] u := by
  unfold a_M_chance_36
  refine g_iload_n rfl rfl ?_
  refine g_ifne rfl (fun c1978 => ?_) (fun c1978 => ?_)
  · refine g_iload_n rfl rfl ?_
    refine g_iload rfl rfl ?_
    refine g_callSP (M' := m_M_common) (d' := 1) (as := [.int l3, .int l4]) (rest := []) rfl ml_M_252 v_M_common (by decide) rfl rfl (Nat.le_of_ble_eq_true rfl) (fun x_ e_ => s_M_common G l3 l4 u x_ e_) (fun q1979 e1980 b1981 => ?_)
    refine g_istore (lv' := [(2, .int l2), (3, .int l3), (4, .int l4), (5, .int q1979)]) rfl (Nat.le_of_ble_eq_true rfl) rfl rfl ?_
    refine g_iload_n rfl rfl ?_
    refine g_ifne rfl (fun c1982 => ?_) (fun c1982 => ?_)
    · refine g_iload rfl rfl ?_
      refine g_iload rfl rfl ?_
      refine g_idivo rfl (fun c1983 => ?_)
      exact g_iret rfl (Or.inl rfl) rfl
    · refine g_iload_n rfl rfl ?_
      refine g_iload rfl rfl ?_
      refine g_idivo rfl (fun c1984 => ?_)
      refine g_goto rfl ?_
      exact g_iret rfl (Or.inl rfl) rfl
  · refine g_iload_n rfl rfl ?_
    exact g_iret rfl (Or.inl rfl) rfl
set_option maxRecDepth 100000 in
set_option maxHeartbeats 4000000 in
theorem wa_M_chance_18 (G : ZG) (l1 : Int32) (l2 : Int32) (l3 : Int32) (l4 : Int32) (u : ZSt) : ZGo G m_M_chance 107 (a_M_chance_18 l1 l2 l3 l4 u) zkI 34 [(0, .ref 39), (1, .int l1), (2, .int l2), (3, .int l3), (4, .int l4)] [] u := by
  unfold a_M_chance_18
  refine g_iconst (v := (0 : Int32)) rfl zic_0 ?_
  refine g_istore (lv' := [(0, .ref 39), (1, .int l1), (2, .int l2), (3, .int l3), (4, .int l4), (5, .int (0 : Int32))]) rfl (Nat.le_of_ble_eq_true rfl) rfl rfl ?_
  refine zgo_sub (lv' := [(0, .ref 39), (1, .int l1), (2, .int l2), (3, .int l3), (4, .int l4), (5, .int (0 : Int32))]) (zsubk [0, 1, 2, 3, 4, 5] rfl) ?_
  refine zgo_loop (σ := Int32 × Int32 × ZSt) (lvf := fun s => [(0, .ref 39), (1, .int l1), (2, .int l2), (3, .int s.1), (4, .int l4), (5, .int s.2.1)]) (uf := (fun s => s.2.2)) ?_ zfu _
  intro s K' ih he
  refine wb_M_chance_36 G l1 l2 l4 s.1 s.2.1 s.2.2 K' ?_ ?_
  · intro c0 c1 v
    exact ih (c0, c1, v)
  · intro c0 c1 v
    rw [he]
    exact zgo_unleaf (wa_M_chance_36 G l2 c0 l4 v)
set_option maxRecDepth 100000 in
set_option maxHeartbeats 4000000 in
theorem w_M_chance (G : ZG) (a : Int32) (b : Int32) (u : ZSt) : ZGo G m_M_chance 107 (f_M_chance a b u) zkI 0 [(0, .ref 39), (1, .int a), (2, .int b)] [] u := by
  unfold f_M_chance
  refine g_aload_n rfl rfl ?_
  refine g_iload_n rfl rfl ?_
  refine g_callVP (M' := m_M_isBundle) (d' := 2) (as := [.int a]) (rest := []) (ci := 11) (o := 39) rfl ml_M_232 v_M_isBundle (by decide) rfl (by decide) rfl rfl rfl (Nat.le_of_ble_eq_true rfl) (fun x_ e_ => s_M_isBundle G a u x_ e_) (fun q1945 e1946 b1947 => ?_)
  refine g_ifeq rfl (fun c1948 => ?_) (fun c1948 => ?_)
  · refine g_iconst (v := (-1 : Int32)) rfl zic_m1 ?_
    exact g_iret rfl (Or.inl rfl) rfl
  · refine g_iload_n rfl rfl ?_
    refine g_i2l rfl ?_
    refine g_lconst (v := (0 : Int64)) rfl rfl ?_
    refine g_lconst (v := (1 : Int64)) rfl rfl ?_
    refine g_callSP (M' := m_M_within) (d' := 1) (as := [.long b.toInt64, .long (0 : Int64), .long (1 : Int64)]) (rest := []) rfl ml_M_97 v_M_within (by decide) rfl rfl (Nat.le_of_ble_eq_true rfl) (fun x_ e_ => s_M_within G b.toInt64 (0 : Int64) (1 : Int64) u x_ e_) (fun q1949 e1950 b1951 => ?_)
    refine g_ifne rfl (fun c1952 => ?_) (fun c1952 => ?_)
    · refine g_iconst (v := (0 : Int32)) rfl zic_0 ?_
      refine g_istore_n (lv' := [(0, .ref 39), (1, .int a), (2, .int b), (3, .int (0 : Int32))]) rfl (Nat.le_of_ble_eq_true rfl) rfl rfl ?_
      refine g_iconst (v := (1 : Int32)) rfl zic_1 ?_
      refine g_istore (lv' := [(0, .ref 39), (1, .int a), (2, .int b), (3, .int (0 : Int32)), (4, .int (1 : Int32))]) rfl (Nat.le_of_ble_eq_true rfl) rfl rfl ?_
      refine g_iconst (v := (0 : Int32)) rfl zic_0 ?_
      refine g_istore (lv' := [(0, .ref 39), (1, .int a), (2, .int b), (3, .int (0 : Int32)), (4, .int (1 : Int32)), (5, .int (0 : Int32))]) rfl (Nat.le_of_ble_eq_true rfl) rfl rfl ?_
      refine zgo_sub (lv' := [(0, .ref 39), (1, .int a), (2, .int b), (3, .int (0 : Int32)), (4, .int (1 : Int32)), (5, .int (0 : Int32))]) (zsubk [0, 1, 2, 3, 4, 5] rfl) ?_
      refine zgo_loop (σ := Int32 × Int32) (lvf := fun s => [(0, .ref 39), (1, .int a), (2, .int b), (3, .int (0 : Int32)), (4, .int s.1), (5, .int s.2)]) (uf := (fun _ => u)) ?_ zfu _
      intro s K' ih he
      refine wb_M_chance_18 G a b (0 : Int32) s.1 s.2 u K' ?_ ?_
      · intro c0 c1
        exact ih (c0, c1)
      · intro c0 c1
        rw [he]
        exact zgo_unleaf (wa_M_chance_18 G a b (0 : Int32) c0 u)
    · refine g_iconst (v := (-1 : Int32)) rfl zic_m1 ?_
      exact g_iret rfl (Or.inl rfl) rfl
theorem s_M_chance (G : ZG) (a : Int32) (b : Int32) (u : ZSt) (x : Int32 × ZSt) (hx : f_M_chance a b u = some x) : ZSpec G m_M_chance 107 [.ref 39, .int a, .int b] u (zemI x) :=
  ZSpec.go k_M_chance (Nat.le_of_ble_eq_true rfl) (w_M_chance G a b u) (tgt := zemI x) (by rw [hx]; rfl)
set_option maxRecDepth 100000 in
set_option maxHeartbeats 4000000 in
theorem wb_Finder_fewestLies_32 (G : ZG) (l2 : Int32) (l3 : Int32) (l4 : Int32) (l5 : Int32) (l7 : Int32) (l6 : Int32) (l8 : Int32) (u : ZSt) (K : ((Int32 × Int32) ⊕ (Int32 × Int32)) → Option (Value × ZSt)) (hb : ∀ (l6 : Int32) (l8 : Int32), ZGo G m_Finder_fewestLies 5 (K (.inl (l6, l8))) some 32 [(0, .ref 22), (2, .int l2), (3, .int l3), (4, .int l4), (5, .int l5), (6, .int l6), (7, .int l7), (8, .int l8)] [] u) (hx : ∀ (l6 : Int32) (l8 : Int32), ZGo G m_Finder_fewestLies 5 (K (.inr (l6, l8))) some 53 [(6, .int l6)] [] u) : ZGo G m_Finder_fewestLies 5 (b_Finder_fewestLies_32 l2 l3 l4 l5 l7 l6 l8 u) K 32 [(0, .ref 22), (2, .int l2), (3, .int l3), (4, .int l4), (5, .int l5), (6, .int l6), (7, .int l7), (8, .int l8)] [] u := by
  unfold b_Finder_fewestLies_32
  refine g_iload rfl rfl ?_
  refine g_iload rfl rfl ?_
  refine g_icmpgt rfl (fun c2000 => ?_) (fun c2000 => ?_)
  · exact zgo_sub (zsubk [5] rfl) (zgo_leaf (hx l6 l8))
  · refine g_iload rfl rfl ?_
    refine g_iload rfl rfl ?_
    refine g_callSP (M' := m_Finder_isFewer) (d' := 2) (as := [.int l8, .int l6]) (rest := []) rfl ml_Finder_38 v_Finder_isFewer (by decide) rfl rfl (Nat.le_of_ble_eq_true rfl) (fun x_ e_ => s_Finder_isFewer G l8 l6 u x_ e_) (fun q2001 e2002 b2003 => ?_)
    refine g_ifeq rfl (fun c2004 => ?_) (fun c2004 => ?_)
    · refine g_iinc (v := (1 : Int32)) (lv' := [(0, .ref 22), (2, .int l2), (3, .int l3), (4, .int l4), (5, .int l5), (6, .int l6), (7, .int l7), (8, .int (l8 + (1 : Int32)))]) rfl rfl zic_1 (Nat.le_of_ble_eq_true rfl) rfl rfl ?_
      refine g_goto rfl ?_
      exact zgo_sub (zsubk [0, 1, 2, 3, 4, 5, 6, 7] rfl) (zgo_leaf (hb l6 (l8 + (1 : Int32))))
    · refine g_aload_n rfl rfl ?_
      refine g_getR rfl zf_Finder_28 rfl rfl ?_
      refine g_iload_n rfl rfl ?_
      refine g_iload rfl rfl ?_
      refine g_ixor rfl ?_
      refine g_iload_n rfl rfl ?_
      refine g_iload rfl rfl ?_
      refine g_callVP (M' := m_Ballot_isCarriedBy) (d' := 3) (as := [.int (l2 ^^^ l8), .int l3, .int l4]) (rest := []) (ci := 0) (o := 19) rfl ml_Finder_79 v_Ballot_isCarriedBy (by decide) rfl (by decide) rfl rfl rfl (Nat.le_of_ble_eq_true rfl) (fun x_ e_ => s_Ballot_isCarriedBy G (l2 ^^^ l8) l3 l4 u x_ e_) (fun q2005 e2006 b2007 => ?_)
      refine g_iload rfl rfl ?_
      refine g_icmpeq rfl (fun c2008 => ?_) (fun c2008 => ?_)
      · refine g_iinc (v := (1 : Int32)) (lv' := [(0, .ref 22), (2, .int l2), (3, .int l3), (4, .int l4), (5, .int l5), (6, .int l6), (7, .int l7), (8, .int (l8 + (1 : Int32)))]) rfl rfl zic_1 (Nat.le_of_ble_eq_true rfl) rfl rfl ?_
        refine g_goto rfl ?_
        exact zgo_sub (zsubk [0, 1, 2, 3, 4, 5, 6, 7] rfl) (zgo_leaf (hb l6 (l8 + (1 : Int32))))
      · refine g_iload rfl rfl ?_
        refine g_istore (lv' := [(0, .ref 22), (2, .int l2), (3, .int l3), (4, .int l4), (5, .int l5), (6, .int l8), (7, .int l7), (8, .int l8)]) rfl (Nat.le_of_ble_eq_true rfl) rfl rfl ?_
        refine g_iinc (v := (1 : Int32)) (lv' := [(0, .ref 22), (2, .int l2), (3, .int l3), (4, .int l4), (5, .int l5), (6, .int l8), (7, .int l7), (8, .int (l8 + (1 : Int32)))]) rfl rfl zic_1 (Nat.le_of_ble_eq_true rfl) rfl rfl ?_
        refine g_goto rfl ?_
        exact zgo_sub (zsubk [0, 1, 2, 3, 4, 5, 6, 7] rfl) (zgo_leaf (hb l8 (l8 + (1 : Int32))))
set_option maxRecDepth 100000 in
set_option maxHeartbeats 4000000 in
theorem wa_Finder_fewestLies_32 (G : ZG) (l6 : Int32) (u : ZSt) : ZGo G m_Finder_fewestLies 5 (a_Finder_fewestLies_32 l6 u) zkI 53 [(6, .int l6)] [] u := by
  unfold a_Finder_fewestLies_32
  refine g_iload rfl rfl ?_
  exact g_iret rfl (Or.inl rfl) rfl
set_option maxRecDepth 100000 in
set_option maxHeartbeats 4000000 in
theorem w_Finder_fewestLies (G : ZG) (a : Int32) (u : ZSt) : ZGo G m_Finder_fewestLies 5 (f_Finder_fewestLies a u) zkI 0 [(0, .ref 22), (1, .int a)] [] u := by
  unfold f_Finder_fewestLies
  refine g_aload_n rfl rfl ?_
  refine g_getR rfl zf_Finder_28 rfl rfl ?_
  refine g_iload_n rfl rfl ?_
  refine g_iload_n rfl rfl ?_
  refine g_iconst (v := (0 : Int32)) rfl zic_0 ?_
  refine g_callVI (M' := m_Ballot_whoMay) (d' := 4) (as := [.int a, .int a, .int (0 : Int32)]) (rest := []) (ci := 0) (o := 19) rfl ml_Finder_62 v_Ballot_whoMay (by decide) rfl (by decide) rfl rfl rfl (Nat.le_of_ble_eq_true rfl) (fun x_ e_ => s_Ballot_whoMay G a a (0 : Int32) u x_ e_) (fun q1985r q1985u e1986 b1987 => ?_)
  refine g_istore_n (lv' := [(0, .ref 22), (1, .int a), (2, .int q1985r)]) rfl (Nat.le_of_ble_eq_true rfl) rfl rfl ?_
  refine g_aload_n rfl rfl ?_
  refine g_getR rfl zf_Finder_28 rfl rfl ?_
  refine g_iload_n rfl rfl ?_
  refine g_callVP (M' := m_Ballot_fans) (d' := 4) (as := [.int a]) (rest := []) (ci := 0) (o := 19) rfl ml_Finder_73 v_Ballot_fans (by decide) rfl (by decide) rfl rfl rfl (Nat.le_of_ble_eq_true rfl) (fun x_ e_ => s_Ballot_fans G a q1985u x_ e_) (fun q1988 e1989 b1990 => ?_)
  refine g_istore_n (lv' := [(0, .ref 22), (1, .int a), (2, .int q1985r), (3, .int q1988)]) rfl (Nat.le_of_ble_eq_true rfl) rfl rfl ?_
  refine g_aload_n rfl rfl ?_
  refine g_getR rfl zf_Finder_28 rfl rfl ?_
  refine g_iload_n rfl rfl ?_
  refine g_callVP (M' := m_Ballot_foes) (d' := 4) (as := [.int a]) (rest := []) (ci := 0) (o := 19) rfl ml_Finder_76 v_Ballot_foes (by decide) rfl (by decide) rfl rfl rfl (Nat.le_of_ble_eq_true rfl) (fun x_ e_ => s_Ballot_foes G a q1985u x_ e_) (fun q1991 e1992 b1993 => ?_)
  refine g_istore (lv' := [(0, .ref 22), (1, .int a), (2, .int q1985r), (3, .int q1988), (4, .int q1991)]) rfl (Nat.le_of_ble_eq_true rfl) rfl rfl ?_
  refine g_aload_n rfl rfl ?_
  refine g_getR rfl zf_Finder_28 rfl rfl ?_
  refine g_iload_n rfl rfl ?_
  refine g_iload_n rfl rfl ?_
  refine g_iload rfl rfl ?_
  refine g_callVP (M' := m_Ballot_isCarriedBy) (d' := 3) (as := [.int q1985r, .int q1988, .int q1991]) (rest := []) (ci := 0) (o := 19) rfl ml_Finder_79 v_Ballot_isCarriedBy (by decide) rfl (by decide) rfl rfl rfl (Nat.le_of_ble_eq_true rfl) (fun x_ e_ => s_Ballot_isCarriedBy G q1985r q1988 q1991 q1985u x_ e_) (fun q1994 e1995 b1996 => ?_)
  refine g_istore (lv' := [(0, .ref 22), (1, .int a), (2, .int q1985r), (3, .int q1988), (4, .int q1991), (5, .int q1994)]) rfl (Nat.le_of_ble_eq_true rfl) rfl rfl ?_
  refine g_bipush (v := (-2 : Int32)) rfl zib_m2 ?_
  refine g_istore (lv' := [(0, .ref 22), (1, .int a), (2, .int q1985r), (3, .int q1988), (4, .int q1991), (5, .int q1994), (6, .int (-2 : Int32))]) rfl (Nat.le_of_ble_eq_true rfl) rfl rfl ?_
  refine g_aload_n rfl rfl ?_
  refine g_getR rfl zf_Finder_24 rfl rfl ?_
  refine g_callVP (M' := m_Council_everybody) (d' := 1) (as := []) (rest := []) (ci := 3) (o := 1) rfl ml_Finder_53 v_Council_everybody (by decide) rfl (by decide) rfl rfl rfl (Nat.le_of_ble_eq_true rfl) (fun x_ e_ => s_Council_everybody G  q1985u x_ e_) (fun q1997 e1998 b1999 => ?_)
  refine g_istore (lv' := [(0, .ref 22), (1, .int a), (2, .int q1985r), (3, .int q1988), (4, .int q1991), (5, .int q1994), (6, .int (-2 : Int32)), (7, .int q1997)]) rfl (Nat.le_of_ble_eq_true rfl) rfl rfl ?_
  refine g_iconst (v := (1 : Int32)) rfl zic_1 ?_
  refine g_istore (lv' := [(0, .ref 22), (1, .int a), (2, .int q1985r), (3, .int q1988), (4, .int q1991), (5, .int q1994), (6, .int (-2 : Int32)), (7, .int q1997), (8, .int (1 : Int32))]) rfl (Nat.le_of_ble_eq_true rfl) rfl rfl ?_
  refine zgo_sub (lv' := [(0, .ref 22), (2, .int q1985r), (3, .int q1988), (4, .int q1991), (5, .int q1994), (6, .int (-2 : Int32)), (7, .int q1997), (8, .int (1 : Int32))]) (zsubk [0, 2, 3, 4, 5, 6, 7, 8] rfl) ?_
  refine zgo_loop (σ := Int32 × Int32) (lvf := fun s => [(0, .ref 22), (2, .int q1985r), (3, .int q1988), (4, .int q1991), (5, .int q1994), (6, .int s.1), (7, .int q1997), (8, .int s.2)]) (uf := (fun _ => q1985u)) ?_ zfu _
  intro s K' ih he
  refine wb_Finder_fewestLies_32 G q1985r q1988 q1991 q1994 q1997 s.1 s.2 q1985u K' ?_ ?_
  · intro c0 c1
    exact ih (c0, c1)
  · intro c0 c1
    rw [he]
    exact zgo_unleaf (wa_Finder_fewestLies_32 G c0 q1985u)
theorem s_Finder_fewestLies (G : ZG) (a : Int32) (u : ZSt) (x : Int32 × ZSt) (hx : f_Finder_fewestLies a u = some x) : ZSpec G m_Finder_fewestLies 5 [.ref 22, .int a] u (zemI x) :=
  ZSpec.go k_Finder_fewestLies (Nat.le_of_ble_eq_true rfl) (w_Finder_fewestLies G a u) (tgt := zemI x) (by rw [hx]; rfl)
set_option maxRecDepth 100000 in
set_option maxHeartbeats 4000000 in
theorem w_X_lies (G : ZG) (a : Int32) (u : ZSt) : ZGo G m_X_lies 6 (f_X_lies a u) zkI 0 [(0, .ref 0), (1, .int a)] [] u := by
  unfold f_X_lies
  refine g_aload_n rfl rfl ?_
  refine g_getR rfl zf_X_10 rfl rfl ?_
  refine g_iload_n rfl rfl ?_
  refine g_callVP (M' := m_Council_isBundle) (d' := 2) (as := [.int a]) (rest := []) (ci := 3) (o := 1) rfl ml_X_187 v_Council_isBundle (by decide) rfl (by decide) rfl rfl rfl (Nat.le_of_ble_eq_true rfl) (fun x_ e_ => s_Council_isBundle G a u x_ e_) (fun q2009 e2010 b2011 => ?_)
  refine g_ifeq rfl (fun c2012 => ?_) (fun c2012 => ?_)
  · refine g_iconst (v := (-1 : Int32)) rfl zic_m1 ?_
    exact g_iret rfl (Or.inl rfl) rfl
  · refine g_aload_n rfl rfl ?_
    refine g_getR rfl zf_X_53 rfl rfl ?_
    refine g_iload_n rfl rfl ?_
    refine g_callVI (M' := m_Finder_fewestLies) (d' := 5) (as := [.int a]) (rest := []) (ci := 5) (o := 22) rfl ml_X_241 v_Finder_fewestLies (by decide) rfl (by decide) rfl rfl rfl (Nat.le_of_ble_eq_true rfl) (fun x_ e_ => s_Finder_fewestLies G a u x_ e_) (fun q2013r q2013u e2014 b2015 => ?_)
    refine g_goto rfl ?_
    exact g_iret rfl (Or.inl rfl) rfl
theorem s_X_lies (G : ZG) (a : Int32) (u : ZSt) (x : Int32 × ZSt) (hx : f_X_lies a u = some x) : ZSpec G m_X_lies 6 [.ref 0, .int a] u (zemI x) :=
  ZSpec.go k_X_lies (Nat.le_of_ble_eq_true rfl) (w_X_lies G a u) (tgt := zemI x) (by rw [hx]; rfl)
set_option maxRecDepth 100000 in
set_option maxHeartbeats 4000000 in
theorem wb_M_lies_15 (G : ZG) (l2 : Int32) (l3 : Int32) (l4 : Int32) (u : ZSt) (K : ((Int32 × Int32) ⊕ (Int32 × Int32)) → Option (Value × ZSt)) (hb : ∀ (l3 : Int32) (l4 : Int32), ZGo G m_M_lies 108 (K (.inl (l3, l4))) some 15 [(0, .ref 39), (2, .int l2), (3, .int l3), (4, .int l4)] [] u) (hx : ∀ (l3 : Int32) (l4 : Int32), ZGo G m_M_lies 108 (K (.inr (l3, l4))) some 40 [(3, .int l3)] [] u) : ZGo G m_M_lies 108 (b_M_lies_15 l2 l3 l4 u) K 15 [(0, .ref 39), (2, .int l2), (3, .int l3), (4, .int l4)] [] u := by
  unfold b_M_lies_15
  refine g_iload rfl rfl ?_
  refine g_iconst (v := (1 : Int32)) rfl zic_1 ?_
  refine g_aload_n rfl rfl ?_
  refine g_getI rfl zf_M_94 rfl rfl rfl ?_
  refine g_ishl rfl ?_
  refine g_icmpge rfl (fun c2023 => ?_) (fun c2023 => ?_)
  · exact zgo_sub (zsubk [2] rfl) (zgo_leaf (hx l3 l4))
  · refine g_iload_n rfl rfl ?_
    refine g_iflt rfl (fun c2024 => ?_) (fun c2024 => ?_)
    · refine g_aload_n rfl rfl ?_
      refine g_aload_n rfl rfl ?_
      refine g_getI rfl zf_M_212 rfl rfl rfl ?_
      refine g_iload rfl rfl ?_
      refine g_ixor rfl ?_
      refine g_callVP (M' := m_M_isCarriedBy) (d' := 4) (as := [.int ((u.1 3925) ^^^ l4)]) (rest := []) (ci := 11) (o := 39) rfl ml_M_229 v_M_isCarriedBy (by decide) rfl (by decide) rfl rfl rfl (Nat.le_of_ble_eq_true rfl) (fun x_ e_ => s_M_isCarriedBy G ((u.1 3925) ^^^ l4) u x_ e_) (fun q2025 e2026 b2027 => ?_)
      refine g_iload_n rfl rfl ?_
      refine g_icmpeq rfl (fun c2028 => ?_) (fun c2028 => ?_)
      · refine g_iinc (v := (1 : Int32)) (lv' := [(0, .ref 39), (2, .int l2), (3, .int l3), (4, .int (l4 + (1 : Int32)))]) rfl rfl zic_1 (Nat.le_of_ble_eq_true rfl) rfl rfl ?_
        refine g_goto rfl ?_
        exact zgo_sub (zsubk [0, 1, 2, 3] rfl) (zgo_leaf (hb l3 (l4 + (1 : Int32))))
      · refine g_iload rfl rfl ?_
        refine g_istore_n (lv' := [(0, .ref 39), (2, .int l2), (3, .int l4), (4, .int l4)]) rfl (Nat.le_of_ble_eq_true rfl) rfl rfl ?_
        refine g_iinc (v := (1 : Int32)) (lv' := [(0, .ref 39), (2, .int l2), (3, .int l4), (4, .int (l4 + (1 : Int32)))]) rfl rfl zic_1 (Nat.le_of_ble_eq_true rfl) rfl rfl ?_
        refine g_goto rfl ?_
        exact zgo_sub (zsubk [0, 1, 2, 3] rfl) (zgo_leaf (hb l4 (l4 + (1 : Int32))))
    · refine g_iload rfl rfl ?_
      refine g_callSP (M' := m_M_bitsOf) (d' := 1) (as := [.int l4]) (rest := []) rfl ml_M_205 v_M_bitsOf (by decide) rfl rfl (Nat.le_of_ble_eq_true rfl) (fun x_ e_ => s_M_bitsOf G l4 u x_ e_) (fun q2029 e2030 b2031 => ?_)
      refine g_iload_n rfl rfl ?_
      refine g_callSP (M' := m_M_bitsOf) (d' := 1) (as := [.int l3]) (rest := [.int q2029]) rfl ml_M_205 v_M_bitsOf (by decide) rfl rfl (Nat.le_of_ble_eq_true rfl) (fun x_ e_ => s_M_bitsOf G l3 u x_ e_) (fun q2032 e2033 b2034 => ?_)
      refine g_icmpge rfl (fun c2035 => ?_) (fun c2035 => ?_)
      · refine g_iinc (v := (1 : Int32)) (lv' := [(0, .ref 39), (2, .int l2), (3, .int l3), (4, .int (l4 + (1 : Int32)))]) rfl rfl zic_1 (Nat.le_of_ble_eq_true rfl) rfl rfl ?_
        refine g_goto rfl ?_
        exact zgo_sub (zsubk [0, 1, 2, 3] rfl) (zgo_leaf (hb l3 (l4 + (1 : Int32))))
      · refine g_aload_n rfl rfl ?_
        refine g_aload_n rfl rfl ?_
        refine g_getI rfl zf_M_212 rfl rfl rfl ?_
        refine g_iload rfl rfl ?_
        refine g_ixor rfl ?_
        refine g_callVP (M' := m_M_isCarriedBy) (d' := 4) (as := [.int ((u.1 3925) ^^^ l4)]) (rest := []) (ci := 11) (o := 39) rfl ml_M_229 v_M_isCarriedBy (by decide) rfl (by decide) rfl rfl rfl (Nat.le_of_ble_eq_true rfl) (fun x_ e_ => s_M_isCarriedBy G ((u.1 3925) ^^^ l4) u x_ e_) (fun q2036 e2037 b2038 => ?_)
        refine g_iload_n rfl rfl ?_
        refine g_icmpeq rfl (fun c2039 => ?_) (fun c2039 => ?_)
        · refine g_iinc (v := (1 : Int32)) (lv' := [(0, .ref 39), (2, .int l2), (3, .int l3), (4, .int (l4 + (1 : Int32)))]) rfl rfl zic_1 (Nat.le_of_ble_eq_true rfl) rfl rfl ?_
          refine g_goto rfl ?_
          exact zgo_sub (zsubk [0, 1, 2, 3] rfl) (zgo_leaf (hb l3 (l4 + (1 : Int32))))
        · refine g_iload rfl rfl ?_
          refine g_istore_n (lv' := [(0, .ref 39), (2, .int l2), (3, .int l4), (4, .int l4)]) rfl (Nat.le_of_ble_eq_true rfl) rfl rfl ?_
          refine g_iinc (v := (1 : Int32)) (lv' := [(0, .ref 39), (2, .int l2), (3, .int l4), (4, .int (l4 + (1 : Int32)))]) rfl rfl zic_1 (Nat.le_of_ble_eq_true rfl) rfl rfl ?_
          refine g_goto rfl ?_
          exact zgo_sub (zsubk [0, 1, 2, 3] rfl) (zgo_leaf (hb l4 (l4 + (1 : Int32))))
set_option maxRecDepth 100000 in
set_option maxHeartbeats 4000000 in
theorem wa_M_lies_15 (G : ZG) (l3 : Int32) (u : ZSt) : ZGo G m_M_lies 108 (a_M_lies_15 l3 u) zkI 40 [(3, .int l3)] [] u := by
  unfold a_M_lies_15
  refine g_iload_n rfl rfl ?_
  exact g_iret rfl (Or.inl rfl) rfl
set_option maxRecDepth 100000 in
set_option maxHeartbeats 4000000 in
theorem w_M_lies (G : ZG) (a : Int32) (u : ZSt) : ZGo G m_M_lies 108 (f_M_lies a u) zkI 0 [(0, .ref 39), (1, .int a)] [] u := by
  unfold f_M_lies
  refine g_aload_n rfl rfl ?_
  refine g_iload_n rfl rfl ?_
  refine g_callVP (M' := m_M_isBundle) (d' := 2) (as := [.int a]) (rest := []) (ci := 11) (o := 39) rfl ml_M_232 v_M_isBundle (by decide) rfl (by decide) rfl rfl rfl (Nat.le_of_ble_eq_true rfl) (fun x_ e_ => s_M_isBundle G a u x_ e_) (fun q2016 e2017 b2018 => ?_)
  refine g_ifne rfl (fun c2019 => ?_) (fun c2019 => ?_)
  · refine g_aload_n rfl rfl ?_
    refine g_iload_n rfl rfl ?_
    refine g_iconst (v := (0 : Int32)) rfl zic_0 ?_
    refine g_callVI (M' := m_M_isCarried) (d' := 107) (as := [.int a, .int (0 : Int32)]) (rest := []) (ci := 11) (o := 39) rfl ml_M_240 v_M_isCarried (by decide) rfl (by decide) rfl rfl rfl (Nat.le_of_ble_eq_true rfl) (fun x_ e_ => s_M_isCarried G a (0 : Int32) u x_ e_) (fun q2020r q2020u e2021 b2022 => ?_)
    refine g_istore_n (lv' := [(0, .ref 39), (1, .int a), (2, .int q2020r)]) rfl (Nat.le_of_ble_eq_true rfl) rfl rfl ?_
    refine g_bipush (v := (-2 : Int32)) rfl zib_m2 ?_
    refine g_istore_n (lv' := [(0, .ref 39), (1, .int a), (2, .int q2020r), (3, .int (-2 : Int32))]) rfl (Nat.le_of_ble_eq_true rfl) rfl rfl ?_
    refine g_iconst (v := (1 : Int32)) rfl zic_1 ?_
    refine g_istore (lv' := [(0, .ref 39), (1, .int a), (2, .int q2020r), (3, .int (-2 : Int32)), (4, .int (1 : Int32))]) rfl (Nat.le_of_ble_eq_true rfl) rfl rfl ?_
    refine zgo_sub (lv' := [(0, .ref 39), (2, .int q2020r), (3, .int (-2 : Int32)), (4, .int (1 : Int32))]) (zsubk [0, 2, 3, 4] rfl) ?_
    refine zgo_loop (σ := Int32 × Int32) (lvf := fun s => [(0, .ref 39), (2, .int q2020r), (3, .int s.1), (4, .int s.2)]) (uf := (fun _ => q2020u)) ?_ zfu _
    intro s K' ih he
    refine wb_M_lies_15 G q2020r s.1 s.2 q2020u K' ?_ ?_
    · intro c0 c1
      exact ih (c0, c1)
    · intro c0 c1
      rw [he]
      exact zgo_unleaf (wa_M_lies_15 G c0 q2020u)
  · refine g_iconst (v := (-1 : Int32)) rfl zic_m1 ?_
    exact g_iret rfl (Or.inl rfl) rfl
theorem s_M_lies (G : ZG) (a : Int32) (u : ZSt) (x : Int32 × ZSt) (hx : f_M_lies a u = some x) : ZSpec G m_M_lies 108 [.ref 39, .int a] u (zemI x) :=
  ZSpec.go k_M_lies (Nat.le_of_ble_eq_true rfl) (w_M_lies G a u) (tgt := zemI x) (by rw [hx]; rfl)
set_option maxRecDepth 100000 in
set_option maxHeartbeats 4000000 in
theorem wb_Ballot_whoIsFree_8 (G : ZG) (l2 : Int32) (l3 : Int32) (l4 : Int32) (u : ZSt) (K : ((Int32 × Int32) ⊕ (Int32 × Int32)) → Option (Value × ZSt)) (hb : ∀ (l3 : Int32) (l4 : Int32), ZGo G m_Ballot_whoIsFree 4 (K (.inl (l3, l4))) some 8 [(0, .ref 19), (2, .int l2), (3, .int l3), (4, .int l4)] [] u) (hx : ∀ (l3 : Int32) (l4 : Int32), ZGo G m_Ballot_whoIsFree 4 (K (.inr (l3, l4))) some 28 [(3, .int l3)] [] u) : ZGo G m_Ballot_whoIsFree 4 (b_Ballot_whoIsFree_8 l2 l3 l4 u) K 8 [(0, .ref 19), (2, .int l2), (3, .int l3), (4, .int l4)] [] u := by
  unfold b_Ballot_whoIsFree_8
  refine g_iload rfl rfl ?_
  refine g_aload_n rfl rfl ?_
  refine g_getR rfl zf_Ballot_18 rfl rfl ?_
  refine g_getI rfl zf_Ballot_30 rfl rfl rfl ?_
  refine g_icmpge rfl (fun c2043 => ?_) (fun c2043 => ?_)
  · exact zgo_sub (zsubk [2] rfl) (zgo_leaf (hx l3 l4))
  · refine g_iload_n rfl rfl ?_
    refine g_aload_n rfl rfl ?_
    refine g_iload rfl rfl ?_
    refine g_iload_n rfl rfl ?_
    refine g_callVP (M' := m_Ballot_isFree) (d' := 3) (as := [.int l4, .int l2]) (rest := [.int l3]) (ci := 0) (o := 19) rfl ml_Ballot_45 v_Ballot_isFree (by decide) rfl (by decide) rfl rfl rfl (Nat.le_of_ble_eq_true rfl) (fun x_ e_ => s_Ballot_isFree G l4 l2 u x_ e_) (fun q2044 e2045 b2046 => ?_)
    refine g_ifeq rfl (fun c2047 => ?_) (fun c2047 => ?_)
    · refine g_iconst (v := (0 : Int32)) rfl zic_0 ?_
      refine g_ior rfl ?_
      refine g_istore_n (lv' := [(0, .ref 19), (2, .int l2), (3, .int (l3 ||| (0 : Int32))), (4, .int l4)]) rfl (Nat.le_of_ble_eq_true rfl) rfl rfl ?_
      refine g_iinc (v := (1 : Int32)) (lv' := [(0, .ref 19), (2, .int l2), (3, .int (l3 ||| (0 : Int32))), (4, .int (l4 + (1 : Int32)))]) rfl rfl zic_1 (Nat.le_of_ble_eq_true rfl) rfl rfl ?_
      refine g_goto rfl ?_
      exact zgo_sub (zsubk [0, 1, 2, 3] rfl) (zgo_leaf (hb (l3 ||| (0 : Int32)) (l4 + (1 : Int32))))
    · refine g_iconst (v := (1 : Int32)) rfl zic_1 ?_
      refine g_iload rfl rfl ?_
      refine g_ishl rfl ?_
      refine g_goto rfl ?_
      refine g_ior rfl ?_
      refine g_istore_n (lv' := [(0, .ref 19), (2, .int l2), (3, .int (l3 ||| ((1 : Int32) <<< (l4 &&& 31)))), (4, .int l4)]) rfl (Nat.le_of_ble_eq_true rfl) rfl rfl ?_
      refine g_iinc (v := (1 : Int32)) (lv' := [(0, .ref 19), (2, .int l2), (3, .int (l3 ||| ((1 : Int32) <<< (l4 &&& 31)))), (4, .int (l4 + (1 : Int32)))]) rfl rfl zic_1 (Nat.le_of_ble_eq_true rfl) rfl rfl ?_
      refine g_goto rfl ?_
      exact zgo_sub (zsubk [0, 1, 2, 3] rfl) (zgo_leaf (hb (l3 ||| ((1 : Int32) <<< (l4 &&& 31))) (l4 + (1 : Int32))))
set_option maxRecDepth 100000 in
set_option maxHeartbeats 4000000 in
theorem wa_Ballot_whoIsFree_8 (G : ZG) (l3 : Int32) (u : ZSt) : ZGo G m_Ballot_whoIsFree 4 (a_Ballot_whoIsFree_8 l3 u) zkI 28 [(3, .int l3)] [] u := by
  unfold a_Ballot_whoIsFree_8
  refine g_iload_n rfl rfl ?_
  exact g_iret rfl (Or.inl rfl) rfl
set_option maxRecDepth 100000 in
set_option maxHeartbeats 4000000 in
theorem w_Ballot_whoIsFree (G : ZG) (a : Int32) (b : Int32) (u : ZSt) : ZGo G m_Ballot_whoIsFree 4 (f_Ballot_whoIsFree a b u) zkI 0 [(0, .ref 19), (1, .int a), (2, .int b)] [] u := by
  unfold f_Ballot_whoIsFree
  refine g_aload_n rfl rfl ?_
  refine g_iload_n rfl rfl ?_
  refine g_iconst (v := (0 : Int32)) rfl zic_0 ?_
  refine g_callVV (M' := m_Ballot_weigh) (d' := 3) (as := [.int a, .int (0 : Int32)]) (rest := []) (ci := 0) (o := 19) rfl ml_Ballot_26 v_Ballot_weigh (by decide) rfl (by decide) rfl rfl rfl (Nat.le_of_ble_eq_true rfl) (fun x_ e_ => s_Ballot_weigh G a (0 : Int32) u x_ e_) (fun q2040 e2041 b2042 => ?_)
  refine g_iconst (v := (0 : Int32)) rfl zic_0 ?_
  refine g_istore_n (lv' := [(0, .ref 19), (1, .int a), (2, .int b), (3, .int (0 : Int32))]) rfl (Nat.le_of_ble_eq_true rfl) rfl rfl ?_
  refine g_iconst (v := (0 : Int32)) rfl zic_0 ?_
  refine g_istore (lv' := [(0, .ref 19), (1, .int a), (2, .int b), (3, .int (0 : Int32)), (4, .int (0 : Int32))]) rfl (Nat.le_of_ble_eq_true rfl) rfl rfl ?_
  refine zgo_sub (lv' := [(0, .ref 19), (2, .int b), (3, .int (0 : Int32)), (4, .int (0 : Int32))]) (zsubk [0, 2, 3, 4] rfl) ?_
  refine zgo_loop (σ := Int32 × Int32) (lvf := fun s => [(0, .ref 19), (2, .int b), (3, .int s.1), (4, .int s.2)]) (uf := (fun _ => q2040)) ?_ zfu _
  intro s K' ih he
  refine wb_Ballot_whoIsFree_8 G b s.1 s.2 q2040 K' ?_ ?_
  · intro c0 c1
    exact ih (c0, c1)
  · intro c0 c1
    rw [he]
    exact zgo_unleaf (wa_Ballot_whoIsFree_8 G c0 q2040)
theorem s_Ballot_whoIsFree (G : ZG) (a : Int32) (b : Int32) (u : ZSt) (x : Int32 × ZSt) (hx : f_Ballot_whoIsFree a b u = some x) : ZSpec G m_Ballot_whoIsFree 4 [.ref 19, .int a, .int b] u (zemI x) :=
  ZSpec.go k_Ballot_whoIsFree (Nat.le_of_ble_eq_true rfl) (w_Ballot_whoIsFree G a b u) (tgt := zemI x) (by rw [hx]; rfl)
set_option maxRecDepth 100000 in
set_option maxHeartbeats 4000000 in
theorem wb_Finder_stepWithFewer_2 (G : ZG) (l1 : Int32) (l2 : Int32) (l3 : Int32) (u : ZSt) (K : ((Int32 × ZSt) ⊕ ((Int32 × ZSt) ⊕ (Int32 × ZSt))) → Option (Value × ZSt)) (hb : ∀ (l3 : Int32) (u : ZSt), ZGo G m_Finder_stepWithFewer 5 (K (.inl (l3, u))) some 2 [(0, .ref 22), (1, .int l1), (2, .int l2), (3, .int l3)] [] u) (hx : ∀ (l3 : Int32) (u : ZSt), ZGo G m_Finder_stepWithFewer 5 (K (.inr (.inl (l3, u)))) some 17 [] [] u) (hr : ∀ x, K (.inr (.inr x)) = some (zemI x)) : ZGo G m_Finder_stepWithFewer 5 (b_Finder_stepWithFewer_2 l1 l2 l3 u) K 2 [(0, .ref 22), (1, .int l1), (2, .int l2), (3, .int l3)] [] u := by
  unfold b_Finder_stepWithFewer_2
  refine g_iload_n rfl rfl ?_
  refine g_iconst (v := (4 : Int32)) rfl zic_4 ?_
  refine g_icmpgt rfl (fun c2048 => ?_) (fun c2048 => ?_)
  · exact zgo_sub (zsubk [] rfl) (zgo_leaf (hx l3 u))
  · refine g_aload_n rfl rfl ?_
    refine g_getR rfl zf_Finder_28 rfl rfl ?_
    refine g_iload_n rfl rfl ?_
    refine g_iload_n rfl rfl ?_
    refine g_callVI (M' := m_Ballot_whoIsFree) (d' := 4) (as := [.int l1, .int l3]) (rest := []) (ci := 0) (o := 19) rfl ml_Finder_93 v_Ballot_whoIsFree (by decide) rfl (by decide) rfl rfl rfl (Nat.le_of_ble_eq_true rfl) (fun x_ e_ => s_Ballot_whoIsFree G l1 l3 u x_ e_) (fun q2049r q2049u e2050 b2051 => ?_)
    refine g_callSP (M' := m_Int_bitCount) (d' := 1) (as := [.int q2049r]) (rest := []) rfl ml_Finder_47 v_Int_bitCount (by decide) rfl rfl (Nat.le_of_ble_eq_true rfl) (fun x_ e_ => s_Int_bitCount G q2049r q2049u x_ e_) (fun q2052 e2053 b2054 => ?_)
    refine g_iload_n rfl rfl ?_
    refine g_icmpge rfl (fun c2055 => ?_) (fun c2055 => ?_)
    · refine g_iinc (v := (1 : Int32)) (lv' := [(0, .ref 22), (1, .int l1), (2, .int l2), (3, .int (l3 + (1 : Int32)))]) rfl rfl zic_1 (Nat.le_of_ble_eq_true rfl) rfl rfl ?_
      refine g_goto rfl ?_
      exact zgo_sub (zsubk [0, 1, 2, 3] rfl) (zgo_leaf (hb (l3 + (1 : Int32)) q2049u))
    · refine g_iload_n rfl rfl ?_
      exact g_iret rfl (Or.inl rfl) (hr _)
set_option maxRecDepth 100000 in
set_option maxHeartbeats 4000000 in
theorem wa_Finder_stepWithFewer_2 (G : ZG) (u : ZSt) : ZGo G m_Finder_stepWithFewer 5 (a_Finder_stepWithFewer_2 u) zkI 17 [] [] u := by
  unfold a_Finder_stepWithFewer_2
  refine g_bipush (v := (-2 : Int32)) rfl zib_m2 ?_
  exact g_iret rfl (Or.inl rfl) rfl
set_option maxRecDepth 100000 in
set_option maxHeartbeats 4000000 in
theorem w_Finder_stepWithFewer (G : ZG) (a : Int32) (b : Int32) (u : ZSt) : ZGo G m_Finder_stepWithFewer 5 (f_Finder_stepWithFewer a b u) zkI 0 [(0, .ref 22), (1, .int a), (2, .int b)] [] u := by
  unfold f_Finder_stepWithFewer
  refine g_iconst (v := (0 : Int32)) rfl zic_0 ?_
  refine g_istore_n (lv' := [(0, .ref 22), (1, .int a), (2, .int b), (3, .int (0 : Int32))]) rfl (Nat.le_of_ble_eq_true rfl) rfl rfl ?_
  refine zgo_sub (lv' := [(0, .ref 22), (1, .int a), (2, .int b), (3, .int (0 : Int32))]) (zsubk [0, 1, 2, 3] rfl) ?_
  refine zgo_loop (σ := Int32 × ZSt) (lvf := fun s => [(0, .ref 22), (1, .int a), (2, .int b), (3, .int s.1)]) (uf := (fun s => s.2)) ?_ zfu _
  intro s K' ih he
  refine wb_Finder_stepWithFewer_2 G a b s.1 s.2 K' ?_ ?_ ?_
  · intro c0 v
    exact ih (c0, v)
  · intro c0 v
    rw [he]
    exact zgo_unleaf (wa_Finder_stepWithFewer_2 G  v)
  · intro x
    exact (he _).trans rfl
theorem s_Finder_stepWithFewer (G : ZG) (a : Int32) (b : Int32) (u : ZSt) (x : Int32 × ZSt) (hx : f_Finder_stepWithFewer a b u = some x) : ZSpec G m_Finder_stepWithFewer 5 [.ref 22, .int a, .int b] u (zemI x) :=
  ZSpec.go k_Finder_stepWithFewer (Nat.le_of_ble_eq_true rfl) (w_Finder_stepWithFewer G a b u) (tgt := zemI x) (by rw [hx]; rfl)
set_option maxRecDepth 100000 in
set_option maxHeartbeats 4000000 in
theorem w_X_step (G : ZG) (a : Int32) (b : Int32) (u : ZSt) : ZGo G m_X_step 6 (f_X_step a b u) zkI 0 [(0, .ref 0), (1, .int a), (2, .int b)] [] u := by
  unfold f_X_step
  refine g_aload_n rfl rfl ?_
  refine g_getR rfl zf_X_10 rfl rfl ?_
  refine g_iload_n rfl rfl ?_
  refine g_callVP (M' := m_Council_isBundle) (d' := 2) (as := [.int a]) (rest := []) (ci := 3) (o := 1) rfl ml_X_187 v_Council_isBundle (by decide) rfl (by decide) rfl rfl rfl (Nat.le_of_ble_eq_true rfl) (fun x_ e_ => s_Council_isBundle G a u x_ e_) (fun q2056 e2057 b2058 => ?_)
  refine g_ifeq rfl (fun c2059 => ?_) (fun c2059 => ?_)
  · refine g_iconst (v := (-1 : Int32)) rfl zic_m1 ?_
    exact g_iret rfl (Or.inl rfl) rfl
  · refine g_iload_n rfl rfl ?_
    refine g_iconst (v := (1 : Int32)) rfl zic_1 ?_
    refine g_icmplt rfl (fun c2060 => ?_) (fun c2060 => ?_)
    · refine g_iconst (v := (-1 : Int32)) rfl zic_m1 ?_
      exact g_iret rfl (Or.inl rfl) rfl
    · refine g_iload_n rfl rfl ?_
      refine g_bipush (v := (10 : Int32)) rfl zib_10 ?_
      refine g_icmple rfl (fun c2061 => ?_) (fun c2061 => ?_)
      · refine g_aload_n rfl rfl ?_
        refine g_getR rfl zf_X_53 rfl rfl ?_
        refine g_iload_n rfl rfl ?_
        refine g_iload_n rfl rfl ?_
        refine g_callVI (M' := m_Finder_stepWithFewer) (d' := 5) (as := [.int a, .int b]) (rest := []) (ci := 5) (o := 22) rfl ml_X_244 v_Finder_stepWithFewer (by decide) rfl (by decide) rfl rfl rfl (Nat.le_of_ble_eq_true rfl) (fun x_ e_ => s_Finder_stepWithFewer G a b u x_ e_) (fun q2062r q2062u e2063 b2064 => ?_)
        exact g_iret rfl (Or.inl rfl) rfl
      · refine g_iconst (v := (-1 : Int32)) rfl zic_m1 ?_
        exact g_iret rfl (Or.inl rfl) rfl
theorem s_X_step (G : ZG) (a : Int32) (b : Int32) (u : ZSt) (x : Int32 × ZSt) (hx : f_X_step a b u = some x) : ZSpec G m_X_step 6 [.ref 0, .int a, .int b] u (zemI x) :=
  ZSpec.go k_X_step (Nat.le_of_ble_eq_true rfl) (w_X_step G a b u) (tgt := zemI x) (by rw [hx]; rfl)
set_option maxRecDepth 100000 in
set_option maxHeartbeats 4000000 in
theorem wb_M_step_26 (G : ZG) (l2 : Int32) (l3 : Int32) (l4 : Int32) (l5 : Int32) (u : ZSt) (K : ((Int32 × Int32) ⊕ (Int32 × Int32)) → Option (Value × ZSt)) (hb : ∀ (l4 : Int32) (l5 : Int32), ZGo G m_M_step 4 (K (.inl (l4, l5))) some 26 [(0, .ref 39), (2, .int l2), (3, .int l3), (4, .int l4), (5, .int l5)] [] u) (hx : ∀ (l4 : Int32) (l5 : Int32), ZGo G m_M_step 4 (K (.inr (l4, l5))) some 48 [(0, .ref 39), (2, .int l2), (3, .int l3), (4, .int l4)] [] u) : ZGo G m_M_step 4 (b_M_step_26 l2 l3 l4 l5 u) K 26 [(0, .ref 39), (2, .int l2), (3, .int l3), (4, .int l4), (5, .int l5)] [] u := by
  unfold b_M_step_26
  refine g_iload rfl rfl ?_
  refine g_aload_n rfl rfl ?_
  refine g_getI rfl zf_M_94 rfl rfl rfl ?_
  refine g_icmpge rfl (fun c2077 => ?_) (fun c2077 => ?_)
  · exact zgo_sub (zsubk [0, 1, 2, 3] rfl) (zgo_leaf (hx l4 l5))
  · refine g_iload rfl rfl ?_
    refine g_aload_n rfl rfl ?_
    refine g_getR rfl zf_M_37 rfl rfl ?_
    refine g_iload rfl rfl ?_
    refine g_iald rfl rfl (fun o2083 => ?_)
    refine g_ifne rfl (fun c2078 => ?_) (fun c2078 => ?_)
    · refine g_iconst (v := (0 : Int32)) rfl zic_0 ?_
      refine g_iadd rfl ?_
      refine g_istore (lv' := [(0, .ref 39), (2, .int l2), (3, .int l3), (4, .int (l4 + (0 : Int32))), (5, .int l5)]) rfl (Nat.le_of_ble_eq_true rfl) rfl rfl ?_
      refine g_iinc (v := (1 : Int32)) (lv' := [(0, .ref 39), (2, .int l2), (3, .int l3), (4, .int (l4 + (0 : Int32))), (5, .int (l5 + (1 : Int32)))]) rfl rfl zic_1 (Nat.le_of_ble_eq_true rfl) rfl rfl ?_
      refine g_goto rfl ?_
      exact zgo_sub (zsubk [0, 1, 2, 3, 4] rfl) (zgo_leaf (hb (l4 + (0 : Int32)) (l5 + (1 : Int32))))
    · refine g_aload_n rfl rfl ?_
      refine g_iload rfl rfl ?_
      refine g_callVP (M' := m_M_nearOf) (d' := 3) (as := [.int l5]) (rest := [.int l4]) (ci := 11) (o := 39) rfl ml_M_202 v_M_nearOf (by decide) rfl (by decide) rfl rfl rfl (Nat.le_of_ble_eq_true rfl) (fun x_ e_ => s_M_nearOf G l5 u x_ e_) (fun q2079 e2080 b2081 => ?_)
      refine g_iload_n rfl rfl ?_
      refine g_icmple rfl (fun c2082 => ?_) (fun c2082 => ?_)
      · refine g_iconst (v := (0 : Int32)) rfl zic_0 ?_
        refine g_iadd rfl ?_
        refine g_istore (lv' := [(0, .ref 39), (2, .int l2), (3, .int l3), (4, .int (l4 + (0 : Int32))), (5, .int l5)]) rfl (Nat.le_of_ble_eq_true rfl) rfl rfl ?_
        refine g_iinc (v := (1 : Int32)) (lv' := [(0, .ref 39), (2, .int l2), (3, .int l3), (4, .int (l4 + (0 : Int32))), (5, .int (l5 + (1 : Int32)))]) rfl rfl zic_1 (Nat.le_of_ble_eq_true rfl) rfl rfl ?_
        refine g_goto rfl ?_
        exact zgo_sub (zsubk [0, 1, 2, 3, 4] rfl) (zgo_leaf (hb (l4 + (0 : Int32)) (l5 + (1 : Int32))))
      · refine g_iconst (v := (1 : Int32)) rfl zic_1 ?_
        refine g_goto rfl ?_
        refine g_iadd rfl ?_
        refine g_istore (lv' := [(0, .ref 39), (2, .int l2), (3, .int l3), (4, .int (l4 + (1 : Int32))), (5, .int l5)]) rfl (Nat.le_of_ble_eq_true rfl) rfl rfl ?_
        refine g_iinc (v := (1 : Int32)) (lv' := [(0, .ref 39), (2, .int l2), (3, .int l3), (4, .int (l4 + (1 : Int32))), (5, .int (l5 + (1 : Int32)))]) rfl rfl zic_1 (Nat.le_of_ble_eq_true rfl) rfl rfl ?_
        refine g_goto rfl ?_
        exact zgo_sub (zsubk [0, 1, 2, 3, 4] rfl) (zgo_leaf (hb (l4 + (1 : Int32)) (l5 + (1 : Int32))))
set_option maxRecDepth 100000 in
set_option maxHeartbeats 4000000 in
theorem wa_M_step_26 (G : ZG) (l2 : Int32) (l3 : Int32) (l4 : Int32) (u : ZSt) (K : ((Int32) ⊕ ((Int32) ⊕ (Int32 × ZSt))) → Option (Value × ZSt)) (hb : ∀ (l3 : Int32), ZGo G m_M_step 4 (K (.inl l3)) some 19 [(0, .ref 39), (2, .int l2), (3, .int l3)] [] u) (hx : ∀ (l3 : Int32), ZGo G m_M_step 4 (K (.inr (.inl l3))) some 55 [] [] u) (hr : ∀ x, K (.inr (.inr x)) = some (zemI x)) : ZGo G m_M_step 4 (a_M_step_26 l2 l3 l4 u) K 48 [(0, .ref 39), (2, .int l2), (3, .int l3), (4, .int l4)] [] u := by
  unfold a_M_step_26
  refine g_iload rfl rfl ?_
  refine g_iload_n rfl rfl ?_
  refine g_icmpge rfl (fun c2084 => ?_) (fun c2084 => ?_)
  · refine g_iinc (v := (1 : Int32)) (lv' := [(0, .ref 39), (2, .int l2), (3, .int (l3 + (1 : Int32))), (4, .int l4)]) rfl rfl zic_1 (Nat.le_of_ble_eq_true rfl) rfl rfl ?_
    refine g_goto rfl ?_
    exact zgo_sub (zsubk [0, 1, 2] rfl) (zgo_leaf (hb (l3 + (1 : Int32))))
  · refine g_iload_n rfl rfl ?_
    exact g_iret rfl (Or.inl rfl) (hr _)
set_option maxRecDepth 100000 in
set_option maxHeartbeats 4000000 in
theorem wb_M_step_19 (G : ZG) (l2 : Int32) (l3 : Int32) (u : ZSt) (K : ((Int32) ⊕ ((Int32) ⊕ (Int32 × ZSt))) → Option (Value × ZSt)) (hb : ∀ (l3 : Int32), ZGo G m_M_step 4 (K (.inl l3)) some 19 [(0, .ref 39), (2, .int l2), (3, .int l3)] [] u) (hx : ∀ (l3 : Int32), ZGo G m_M_step 4 (K (.inr (.inl l3))) some 55 [] [] u) (hr : ∀ x, K (.inr (.inr x)) = some (zemI x)) : ZGo G m_M_step 4 (b_M_step_19 l2 l3 u) K 19 [(0, .ref 39), (2, .int l2), (3, .int l3)] [] u := by
  unfold b_M_step_19
  refine g_iload_n rfl rfl ?_
  refine g_iconst (v := (5 : Int32)) rfl zic_5 ?_
  refine g_icmpge rfl (fun c2076 => ?_) (fun c2076 => ?_)
  · exact zgo_sub (zsubk [] rfl) (zgo_leaf (hx l3))
  · refine g_iconst (v := (0 : Int32)) rfl zic_0 ?_
    refine g_istore (lv' := [(0, .ref 39), (2, .int l2), (3, .int l3), (4, .int (0 : Int32))]) rfl (Nat.le_of_ble_eq_true rfl) rfl rfl ?_
    refine g_iconst (v := (0 : Int32)) rfl zic_0 ?_
    refine g_istore (lv' := [(0, .ref 39), (2, .int l2), (3, .int l3), (4, .int (0 : Int32)), (5, .int (0 : Int32))]) rfl (Nat.le_of_ble_eq_true rfl) rfl rfl ?_
    refine zgo_sub (lv' := [(0, .ref 39), (2, .int l2), (3, .int l3), (4, .int (0 : Int32)), (5, .int (0 : Int32))]) (zsubk [0, 1, 2, 3, 4] rfl) ?_
    refine zgo_loop (σ := Int32 × Int32) (lvf := fun s => [(0, .ref 39), (2, .int l2), (3, .int l3), (4, .int s.1), (5, .int s.2)]) (uf := (fun _ => u)) ?_ zfu _
    intro s K' ih he
    refine wb_M_step_26 G l2 l3 s.1 s.2 u K' ?_ ?_
    · intro c0 c1
      exact ih (c0, c1)
    · intro c0 c1
      rw [he]
      exact zgo_unleaf (wa_M_step_26 G l2 l3 c0 u K hb hx hr)
set_option maxRecDepth 100000 in
set_option maxHeartbeats 4000000 in
theorem wa_M_step_19 (G : ZG) (u : ZSt) : ZGo G m_M_step 4 (a_M_step_19 u) zkI 55 [] [] u := by
  unfold a_M_step_19
  refine g_bipush (v := (-2 : Int32)) rfl zib_m2 ?_
  exact g_iret rfl (Or.inl rfl) rfl
set_option maxRecDepth 100000 in
set_option maxHeartbeats 4000000 in
theorem w_M_step (G : ZG) (a : Int32) (b : Int32) (u : ZSt) : ZGo G m_M_step 4 (f_M_step a b u) zkI 0 [(0, .ref 39), (1, .int a), (2, .int b)] [] u := by
  unfold f_M_step
  refine g_aload_n rfl rfl ?_
  refine g_iload_n rfl rfl ?_
  refine g_callVP (M' := m_M_isBundle) (d' := 2) (as := [.int a]) (rest := []) (ci := 11) (o := 39) rfl ml_M_232 v_M_isBundle (by decide) rfl (by decide) rfl rfl rfl (Nat.le_of_ble_eq_true rfl) (fun x_ e_ => s_M_isBundle G a u x_ e_) (fun q2065 e2066 b2067 => ?_)
  refine g_ifeq rfl (fun c2068 => ?_) (fun c2068 => ?_)
  · refine g_iconst (v := (-1 : Int32)) rfl zic_m1 ?_
    exact g_iret rfl (Or.inl rfl) rfl
  · refine g_iload_n rfl rfl ?_
    refine g_i2l rfl ?_
    refine g_lconst (v := (1 : Int64)) rfl rfl ?_
    refine g_ldc2 rfl zk_M_116 ?_
    refine g_callSP (M' := m_M_within) (d' := 1) (as := [.long b.toInt64, .long (1 : Int64), .long (10 : Int64)]) (rest := []) rfl ml_M_97 v_M_within (by decide) rfl rfl (Nat.le_of_ble_eq_true rfl) (fun x_ e_ => s_M_within G b.toInt64 (1 : Int64) (10 : Int64) u x_ e_) (fun q2069 e2070 b2071 => ?_)
    refine g_ifne rfl (fun c2072 => ?_) (fun c2072 => ?_)
    · refine g_aload_n rfl rfl ?_
      refine g_iload_n rfl rfl ?_
      refine g_iload_n rfl rfl ?_
      refine g_iconst (v := (0 : Int32)) rfl zic_0 ?_
      refine g_callVV (M' := m_M_touches) (d' := 2) (as := [.int a, .int a, .int (0 : Int32)]) (rest := []) (ci := 11) (o := 39) rfl ml_M_208 v_M_touches (by decide) rfl (by decide) rfl rfl rfl (Nat.le_of_ble_eq_true rfl) (fun x_ e_ => s_M_touches G a a (0 : Int32) u x_ e_) (fun q2073 e2074 b2075 => ?_)
      refine g_iconst (v := (0 : Int32)) rfl zic_0 ?_
      refine g_istore_n (lv' := [(0, .ref 39), (1, .int a), (2, .int b), (3, .int (0 : Int32))]) rfl (Nat.le_of_ble_eq_true rfl) rfl rfl ?_
      refine zgo_sub (lv' := [(0, .ref 39), (2, .int b), (3, .int (0 : Int32))]) (zsubk [0, 2, 3] rfl) ?_
      refine zgo_loop (σ := Int32) (lvf := fun s => [(0, .ref 39), (2, .int b), (3, .int s)]) (uf := (fun _ => q2073)) ?_ zfu _
      intro s K' ih he
      refine wb_M_step_19 G b s q2073 K' ?_ ?_ ?_
      · intro c0
        exact ih c0
      · intro c0
        rw [he]
        exact zgo_unleaf (wa_M_step_19 G  q2073)
      · intro x
        exact (he _).trans rfl
    · refine g_iconst (v := (-1 : Int32)) rfl zic_m1 ?_
      exact g_iret rfl (Or.inl rfl) rfl
theorem s_M_step (G : ZG) (a : Int32) (b : Int32) (u : ZSt) (x : Int32 × ZSt) (hx : f_M_step a b u = some x) : ZSpec G m_M_step 4 [.ref 39, .int a, .int b] u (zemI x) :=
  ZSpec.go k_M_step (Nat.le_of_ble_eq_true rfl) (w_M_step G a b u) (tgt := zemI x) (by rw [hx]; rfl)
set_option maxRecDepth 100000 in
set_option maxHeartbeats 4000000 in
theorem wb_Finder_bitAt_4 (G : ZG) (l1 : Int32) (l2 : Int32) (l3 : Int32) (u : ZSt) (K : ((Int32 × Int32) ⊕ (Int32 × Int32)) → Option (Value × ZSt)) (hb : ∀ (l2 : Int32) (l3 : Int32), ZGo G m_Finder_bitAt 1 (K (.inl (l2, l3))) some 4 [(1, .int l1), (2, .int l2), (3, .int l3)] [] u) (hx : ∀ (l2 : Int32) (l3 : Int32), ZGo G m_Finder_bitAt 1 (K (.inr (l2, l3))) some 18 [(2, .int l2)] [] u) : ZGo G m_Finder_bitAt 1 (b_Finder_bitAt_4 l1 l2 l3 ) K 4 [(1, .int l1), (2, .int l2), (3, .int l3)] [] u := by
  unfold b_Finder_bitAt_4
  refine g_iload_n rfl rfl ?_
  refine g_iload_n rfl rfl ?_
  refine g_icmpge rfl (fun c2085 => ?_) (fun c2085 => ?_)
  · exact zgo_sub (zsubk [1] rfl) (zgo_leaf (hx l2 l3))
  · refine g_iload_n rfl rfl ?_
    refine g_bipush (v := (10 : Int32)) rfl zib_10 ?_
    refine g_icmpge rfl (fun c2086 => ?_) (fun c2086 => ?_)
    · exact zgo_sub (zsubk [1] rfl) (zgo_leaf (hx l2 l3))
    · refine g_iload_n rfl rfl ?_
      refine g_iload_n rfl rfl ?_
      refine g_iconst (v := (1 : Int32)) rfl zic_1 ?_
      refine g_isub rfl ?_
      refine g_iand rfl ?_
      refine g_istore_n (lv' := [(1, .int l1), (2, .int (l2 &&& (l2 - (1 : Int32)))), (3, .int l3)]) rfl (Nat.le_of_ble_eq_true rfl) rfl rfl ?_
      refine g_iinc (v := (1 : Int32)) (lv' := [(1, .int l1), (2, .int (l2 &&& (l2 - (1 : Int32)))), (3, .int (l3 + (1 : Int32)))]) rfl rfl zic_1 (Nat.le_of_ble_eq_true rfl) rfl rfl ?_
      refine g_goto rfl ?_
      exact zgo_sub (zsubk [0, 1, 2] rfl) (zgo_leaf (hb (l2 &&& (l2 - (1 : Int32))) (l3 + (1 : Int32))))
set_option maxRecDepth 100000 in
set_option maxHeartbeats 4000000 in
theorem wa_Finder_bitAt_4 (G : ZG) (l2 : Int32) (u : ZSt) : ZGo G m_Finder_bitAt 1 (a_Finder_bitAt_4 l2 ) (zkP u) 18 [(2, .int l2)] [] u := by
  unfold a_Finder_bitAt_4
  refine g_iload_n rfl rfl ?_
  refine g_iload_n rfl rfl ?_
  refine g_ineg rfl ?_
  refine g_iand rfl ?_
  exact g_iret rfl (Or.inl rfl) rfl
set_option maxRecDepth 100000 in
set_option maxHeartbeats 4000000 in
theorem w_Finder_bitAt (G : ZG) (a : Int32) (b : Int32) (u : ZSt) : ZGo G m_Finder_bitAt 1 (f_Finder_bitAt a b) (zkP u) 0 [(0, .int a), (1, .int b)] [] u := by
  unfold f_Finder_bitAt
  refine g_iload_n rfl rfl ?_
  refine g_istore_n (lv' := [(0, .int a), (1, .int b), (2, .int a)]) rfl (Nat.le_of_ble_eq_true rfl) rfl rfl ?_
  refine g_iconst (v := (0 : Int32)) rfl zic_0 ?_
  refine g_istore_n (lv' := [(0, .int a), (1, .int b), (2, .int a), (3, .int (0 : Int32))]) rfl (Nat.le_of_ble_eq_true rfl) rfl rfl ?_
  refine zgo_sub (lv' := [(1, .int b), (2, .int a), (3, .int (0 : Int32))]) (zsubk [1, 2, 3] rfl) ?_
  refine zgo_loop (σ := Int32 × Int32) (lvf := fun s => [(1, .int b), (2, .int s.1), (3, .int s.2)]) (uf := (fun _ => u)) ?_ zfu _
  intro s K' ih he
  refine wb_Finder_bitAt_4 G b s.1 s.2 u K' ?_ ?_
  · intro c0 c1
    exact ih (c0, c1)
  · intro c0 c1
    rw [he]
    exact zgo_unleaf (wa_Finder_bitAt_4 G c0 u)
theorem s_Finder_bitAt (G : ZG) (a : Int32) (b : Int32) (u : ZSt) (x : Int32) (hx : f_Finder_bitAt a b = some x) : ZSpec G m_Finder_bitAt 1 [.int a, .int b] u ((zemP u) x) :=
  ZSpec.go k_Finder_bitAt (Nat.le_of_ble_eq_true rfl) (w_Finder_bitAt G a b u) (tgt := (zemP u) x) (by rw [hx]; rfl)
set_option maxRecDepth 100000 in
set_option maxHeartbeats 4000000 in
theorem wb_Finder_oftenCarriedByLot_25 (G : ZG) (l2 : Int32) (l3 : Int32) (l5 : Int32) (l6 : Int32) (l7 : Int32) (l9 : Int32) (l8 : Int32) (l10 : Int32) (l11 : Int32) (u : ZSt) (K : ((Int32 × Int32 × Int32) ⊕ (Int32 × Int32 × Int32)) → Option (Value × ZSt)) (hb : ∀ (l8 : Int32) (l10 : Int32) (l11 : Int32), ZGo G m_Finder_oftenCarriedByLot 5 (K (.inl (l8, l10, l11))) some 25 [(0, .ref 22), (2, .int l2), (3, .int l3), (5, .int l5), (6, .int l6), (7, .int l7), (8, .int l8), (9, .int l9), (10, .int l10), (11, .int l11)] [] u) (hx : ∀ (l8 : Int32) (l10 : Int32) (l11 : Int32), ZGo G m_Finder_oftenCarriedByLot 5 (K (.inr (l8, l10, l11))) some 58 [(0, .ref 22), (2, .int l2), (3, .int l3), (5, .int l5), (6, .int l6), (7, .int l7), (8, .int l8), (9, .int l9), (10, .int l10)] [] u) : ZGo G m_Finder_oftenCarriedByLot 5 (b_Finder_oftenCarriedByLot_25 l2 l3 l5 l6 l7 l9 l8 l10 l11 u) K 25 [(0, .ref 22), (2, .int l2), (3, .int l3), (5, .int l5), (6, .int l6), (7, .int l7), (8, .int l8), (9, .int l9), (10, .int l10), (11, .int l11)] [] u := by
  unfold b_Finder_oftenCarriedByLot_25
  refine g_iload rfl rfl ?_
  refine g_ifle rfl (fun c2094 => ?_) (fun c2094 => ?_)
  · exact zgo_sub (zsubk [0, 1, 2, 3, 4, 5, 6, 7, 8] rfl) (zgo_leaf (hx l8 l10 l11))
  · refine g_iload rfl rfl ?_
    refine g_aload_n rfl rfl ?_
    refine g_getR rfl zf_Finder_24 rfl rfl ?_
    refine g_getI rfl zf_Finder_83 rfl rfl rfl ?_
    refine g_iload_n rfl rfl ?_
    refine g_isub rfl ?_
    refine g_icmple rfl (fun c2095 => ?_) (fun c2095 => ?_)
    · exact zgo_sub (zsubk [0, 1, 2, 3, 4, 5, 6, 7, 8] rfl) (zgo_leaf (hx l8 l10 l11))
    · refine g_iload rfl rfl ?_
      refine g_ldc rfl zk_Finder_96 ?_
      refine g_imul rfl ?_
      refine g_sipush (v := (12345 : Int32)) rfl zis_12345 ?_
      refine g_iadd rfl ?_
      refine g_istore (lv' := [(0, .ref 22), (2, .int l2), (3, .int l3), (5, .int l5), (6, .int l6), (7, .int l7), (8, .int ((l8 * (1103515245 : Int32)) + (12345 : Int32))), (9, .int l9), (10, .int l10), (11, .int l11)]) rfl (Nat.le_of_ble_eq_true rfl) rfl rfl ?_
      refine g_iload rfl rfl ?_
      refine g_aload_n rfl rfl ?_
      refine g_getR rfl zf_Finder_24 rfl rfl ?_
      refine g_callVP (M' := m_Council_everybody) (d' := 1) (as := []) (rest := [.int l10]) (ci := 3) (o := 1) rfl ml_Finder_53 v_Council_everybody (by decide) rfl (by decide) rfl rfl rfl (Nat.le_of_ble_eq_true rfl) (fun x_ e_ => s_Council_everybody G  u x_ e_) (fun q2096 e2097 b2098 => ?_)
      refine g_iload rfl rfl ?_
      refine g_iconst (v := (-1 : Int32)) rfl zic_m1 ?_
      refine g_ixor rfl ?_
      refine g_iand rfl ?_
      refine g_iload rfl rfl ?_
      refine g_bipush (v := (8 : Int32)) rfl zib_8 ?_
      refine g_iushr rfl ?_
      refine g_iload rfl rfl ?_
      refine g_iremo rfl (fun c2099 => ?_)
      refine g_callSP (M' := m_Finder_bitAt) (d' := 1) (as := [.int (q2096 &&& (l10 ^^^ (-1 : Int32))), .int (zrem (zushr ((l8 * (1103515245 : Int32)) + (12345 : Int32)) (8 : Int32)) l11)]) (rest := [.int l10]) rfl ml_Finder_97 v_Finder_bitAt (by decide) rfl rfl (Nat.le_of_ble_eq_true rfl) (fun x_ e_ => s_Finder_bitAt G (q2096 &&& (l10 ^^^ (-1 : Int32))) (zrem (zushr ((l8 * (1103515245 : Int32)) + (12345 : Int32)) (8 : Int32)) l11) u x_ e_) (fun q2100 e2101 b2102 => ?_)
      refine g_ior rfl ?_
      refine g_istore (lv' := [(0, .ref 22), (2, .int l2), (3, .int l3), (5, .int l5), (6, .int l6), (7, .int l7), (8, .int ((l8 * (1103515245 : Int32)) + (12345 : Int32))), (9, .int l9), (10, .int (l10 ||| q2100)), (11, .int l11)]) rfl (Nat.le_of_ble_eq_true rfl) rfl rfl ?_
      refine g_iinc (v := (-1 : Int32)) (lv' := [(0, .ref 22), (2, .int l2), (3, .int l3), (5, .int l5), (6, .int l6), (7, .int l7), (8, .int ((l8 * (1103515245 : Int32)) + (12345 : Int32))), (9, .int l9), (10, .int (l10 ||| q2100)), (11, .int (l11 + (-1 : Int32)))]) rfl rfl zic_m1 (Nat.le_of_ble_eq_true rfl) rfl rfl ?_
      refine g_goto rfl ?_
      exact zgo_sub (zsubk [0, 1, 2, 3, 4, 5, 6, 7, 8, 9] rfl) (zgo_leaf (hb ((l8 * (1103515245 : Int32)) + (12345 : Int32)) (l10 ||| q2100) (l11 + (-1 : Int32))))
set_option maxRecDepth 100000 in
set_option maxHeartbeats 4000000 in
theorem wa_Finder_oftenCarriedByLot_25 (G : ZG) (l2 : Int32) (l3 : Int32) (l5 : Int32) (l6 : Int32) (l7 : Int32) (l8 : Int32) (l9 : Int32) (l10 : Int32) (u : ZSt) (K : ((Int32 × Int32 × Int32) ⊕ (Int32 × Int32 × Int32)) → Option (Value × ZSt)) (hb : ∀ (l7 : Int32) (l8 : Int32) (l9 : Int32), ZGo G m_Finder_oftenCarriedByLot 5 (K (.inl (l7, l8, l9))) some 16 [(0, .ref 22), (2, .int l2), (3, .int l3), (5, .int l5), (6, .int l6), (7, .int l7), (8, .int l8), (9, .int l9)] [] u) (hx : ∀ (l7 : Int32) (l8 : Int32) (l9 : Int32), ZGo G m_Finder_oftenCarriedByLot 5 (K (.inr (l7, l8, l9))) some 69 [(7, .int l7)] [] u) : ZGo G m_Finder_oftenCarriedByLot 5 (a_Finder_oftenCarriedByLot_25 l2 l3 l5 l6 l7 l8 l9 l10 u) K 58 [(0, .ref 22), (2, .int l2), (3, .int l3), (5, .int l5), (6, .int l6), (7, .int l7), (8, .int l8), (9, .int l9), (10, .int l10)] [] u := by
  unfold a_Finder_oftenCarriedByLot_25
  refine g_iload rfl rfl ?_
  refine g_iload rfl rfl ?_
  refine g_iand rfl ?_
  refine g_iload rfl rfl ?_
  refine g_iload rfl rfl ?_
  refine g_iand rfl ?_
  refine g_callSP (M' := m_Ballot_isMore) (d' := 2) (as := [.int (l10 &&& l5), .int (l10 &&& l6)]) (rest := []) rfl ml_Finder_100 v_Ballot_isMore (by decide) rfl rfl (Nat.le_of_ble_eq_true rfl) (fun x_ e_ => s_Ballot_isMore G (l10 &&& l5) (l10 &&& l6) u x_ e_) (fun q2103 e2104 b2105 => ?_)
  refine g_ifeq rfl (fun c2106 => ?_) (fun c2106 => ?_)
  · refine g_iinc (v := (1 : Int32)) (lv' := [(0, .ref 22), (2, .int l2), (3, .int l3), (5, .int l5), (6, .int l6), (7, .int l7), (8, .int l8), (9, .int (l9 + (1 : Int32))), (10, .int l10)]) rfl rfl zic_1 (Nat.le_of_ble_eq_true rfl) rfl rfl ?_
    refine g_goto rfl ?_
    exact zgo_sub (zsubk [0, 1, 2, 3, 4, 5, 6, 7] rfl) (zgo_leaf (hb l7 l8 (l9 + (1 : Int32))))
  · refine g_iinc (v := (1 : Int32)) (lv' := [(0, .ref 22), (2, .int l2), (3, .int l3), (5, .int l5), (6, .int l6), (7, .int (l7 + (1 : Int32))), (8, .int l8), (9, .int l9), (10, .int l10)]) rfl rfl zic_1 (Nat.le_of_ble_eq_true rfl) rfl rfl ?_
    refine g_iinc (v := (1 : Int32)) (lv' := [(0, .ref 22), (2, .int l2), (3, .int l3), (5, .int l5), (6, .int l6), (7, .int (l7 + (1 : Int32))), (8, .int l8), (9, .int (l9 + (1 : Int32))), (10, .int l10)]) rfl rfl zic_1 (Nat.le_of_ble_eq_true rfl) rfl rfl ?_
    refine g_goto rfl ?_
    exact zgo_sub (zsubk [0, 1, 2, 3, 4, 5, 6, 7] rfl) (zgo_leaf (hb (l7 + (1 : Int32)) l8 (l9 + (1 : Int32))))
set_option maxRecDepth 100000 in
set_option maxHeartbeats 4000000 in
theorem wb_Finder_oftenCarriedByLot_16 (G : ZG) (l2 : Int32) (l3 : Int32) (l5 : Int32) (l6 : Int32) (l7 : Int32) (l8 : Int32) (l9 : Int32) (u : ZSt) (K : ((Int32 × Int32 × Int32) ⊕ (Int32 × Int32 × Int32)) → Option (Value × ZSt)) (hb : ∀ (l7 : Int32) (l8 : Int32) (l9 : Int32), ZGo G m_Finder_oftenCarriedByLot 5 (K (.inl (l7, l8, l9))) some 16 [(0, .ref 22), (2, .int l2), (3, .int l3), (5, .int l5), (6, .int l6), (7, .int l7), (8, .int l8), (9, .int l9)] [] u) (hx : ∀ (l7 : Int32) (l8 : Int32) (l9 : Int32), ZGo G m_Finder_oftenCarriedByLot 5 (K (.inr (l7, l8, l9))) some 69 [(7, .int l7)] [] u) : ZGo G m_Finder_oftenCarriedByLot 5 (b_Finder_oftenCarriedByLot_16 l2 l3 l5 l6 l7 l8 l9 u) K 16 [(0, .ref 22), (2, .int l2), (3, .int l3), (5, .int l5), (6, .int l6), (7, .int l7), (8, .int l8), (9, .int l9)] [] u := by
  unfold b_Finder_oftenCarriedByLot_16
  refine g_iload rfl rfl ?_
  refine g_iload_n rfl rfl ?_
  refine g_icmpge rfl (fun c2093 => ?_) (fun c2093 => ?_)
  · exact zgo_sub (zsubk [5] rfl) (zgo_leaf (hx l7 l8 l9))
  · refine g_iconst (v := (0 : Int32)) rfl zic_0 ?_
    refine g_istore (lv' := [(0, .ref 22), (2, .int l2), (3, .int l3), (5, .int l5), (6, .int l6), (7, .int l7), (8, .int l8), (9, .int l9), (10, .int (0 : Int32))]) rfl (Nat.le_of_ble_eq_true rfl) rfl rfl ?_
    refine g_aload_n rfl rfl ?_
    refine g_getR rfl zf_Finder_24 rfl rfl ?_
    refine g_getI rfl zf_Finder_83 rfl rfl rfl ?_
    refine g_istore (lv' := [(0, .ref 22), (2, .int l2), (3, .int l3), (5, .int l5), (6, .int l6), (7, .int l7), (8, .int l8), (9, .int l9), (10, .int (0 : Int32)), (11, .int (u.1 103))]) rfl (Nat.le_of_ble_eq_true rfl) rfl rfl ?_
    refine zgo_sub (lv' := [(0, .ref 22), (2, .int l2), (3, .int l3), (5, .int l5), (6, .int l6), (7, .int l7), (8, .int l8), (9, .int l9), (10, .int (0 : Int32)), (11, .int (u.1 103))]) (zsubk [0, 1, 2, 3, 4, 5, 6, 7, 8, 9] rfl) ?_
    refine zgo_loop (σ := Int32 × Int32 × Int32) (lvf := fun s => [(0, .ref 22), (2, .int l2), (3, .int l3), (5, .int l5), (6, .int l6), (7, .int l7), (8, .int s.1), (9, .int l9), (10, .int s.2.1), (11, .int s.2.2)]) (uf := (fun _ => u)) ?_ zfu _
    intro s K' ih he
    refine wb_Finder_oftenCarriedByLot_25 G l2 l3 l5 l6 l7 l9 s.1 s.2.1 s.2.2 u K' ?_ ?_
    · intro c0 c1 c2
      exact ih (c0, c1, c2)
    · intro c0 c1 c2
      rw [he]
      exact zgo_unleaf (wa_Finder_oftenCarriedByLot_25 G l2 l3 l5 l6 l7 c0 l9 c1 u K hb hx)
set_option maxRecDepth 100000 in
set_option maxHeartbeats 4000000 in
theorem wa_Finder_oftenCarriedByLot_16 (G : ZG) (l7 : Int32) (u : ZSt) : ZGo G m_Finder_oftenCarriedByLot 5 (a_Finder_oftenCarriedByLot_16 l7 u) (zkP u) 69 [(7, .int l7)] [] u := by
  unfold a_Finder_oftenCarriedByLot_16
  refine g_iload rfl rfl ?_
  exact g_iret rfl (Or.inl rfl) rfl
set_option maxRecDepth 100000 in
set_option maxHeartbeats 4000000 in
theorem w_Finder_oftenCarriedByLot (G : ZG) (a : Int32) (b : Int32) (c : Int32) (e : Int32) (u : ZSt) : ZGo G m_Finder_oftenCarriedByLot 5 (f_Finder_oftenCarriedByLot a b c e u) (zkP u) 0 [(0, .ref 22), (1, .int a), (2, .int b), (3, .int c), (4, .int e)] [] u := by
  unfold f_Finder_oftenCarriedByLot
  refine g_aload_n rfl rfl ?_
  refine g_getR rfl zf_Finder_28 rfl rfl ?_
  refine g_iload rfl rfl ?_
  refine g_callVP (M' := m_Ballot_fans) (d' := 4) (as := [.int e]) (rest := []) (ci := 0) (o := 19) rfl ml_Finder_73 v_Ballot_fans (by decide) rfl (by decide) rfl rfl rfl (Nat.le_of_ble_eq_true rfl) (fun x_ e_ => s_Ballot_fans G e u x_ e_) (fun q2087 e2088 b2089 => ?_)
  refine g_istore (lv' := [(0, .ref 22), (1, .int a), (2, .int b), (3, .int c), (4, .int e), (5, .int q2087)]) rfl (Nat.le_of_ble_eq_true rfl) rfl rfl ?_
  refine g_aload_n rfl rfl ?_
  refine g_getR rfl zf_Finder_28 rfl rfl ?_
  refine g_iload rfl rfl ?_
  refine g_callVP (M' := m_Ballot_foes) (d' := 4) (as := [.int e]) (rest := []) (ci := 0) (o := 19) rfl ml_Finder_76 v_Ballot_foes (by decide) rfl (by decide) rfl rfl rfl (Nat.le_of_ble_eq_true rfl) (fun x_ e_ => s_Ballot_foes G e u x_ e_) (fun q2090 e2091 b2092 => ?_)
  refine g_istore (lv' := [(0, .ref 22), (1, .int a), (2, .int b), (3, .int c), (4, .int e), (5, .int q2087), (6, .int q2090)]) rfl (Nat.le_of_ble_eq_true rfl) rfl rfl ?_
  refine g_iconst (v := (0 : Int32)) rfl zic_0 ?_
  refine g_istore (lv' := [(0, .ref 22), (1, .int a), (2, .int b), (3, .int c), (4, .int e), (5, .int q2087), (6, .int q2090), (7, .int (0 : Int32))]) rfl (Nat.le_of_ble_eq_true rfl) rfl rfl ?_
  refine g_iload_n rfl rfl ?_
  refine g_istore (lv' := [(0, .ref 22), (1, .int a), (2, .int b), (3, .int c), (4, .int e), (5, .int q2087), (6, .int q2090), (7, .int (0 : Int32)), (8, .int a)]) rfl (Nat.le_of_ble_eq_true rfl) rfl rfl ?_
  refine g_iconst (v := (0 : Int32)) rfl zic_0 ?_
  refine g_istore (lv' := [(0, .ref 22), (1, .int a), (2, .int b), (3, .int c), (4, .int e), (5, .int q2087), (6, .int q2090), (7, .int (0 : Int32)), (8, .int a), (9, .int (0 : Int32))]) rfl (Nat.le_of_ble_eq_true rfl) rfl rfl ?_
  refine zgo_sub (lv' := [(0, .ref 22), (2, .int b), (3, .int c), (5, .int q2087), (6, .int q2090), (7, .int (0 : Int32)), (8, .int a), (9, .int (0 : Int32))]) (zsubk [0, 2, 3, 5, 6, 7, 8, 9] rfl) ?_
  refine zgo_loop (σ := Int32 × Int32 × Int32) (lvf := fun s => [(0, .ref 22), (2, .int b), (3, .int c), (5, .int q2087), (6, .int q2090), (7, .int s.1), (8, .int s.2.1), (9, .int s.2.2)]) (uf := (fun _ => u)) ?_ zfu _
  intro s K' ih he
  refine wb_Finder_oftenCarriedByLot_16 G b c q2087 q2090 s.1 s.2.1 s.2.2 u K' ?_ ?_
  · intro c0 c1 c2
    exact ih (c0, c1, c2)
  · intro c0 c1 c2
    rw [he]
    exact zgo_unleaf (wa_Finder_oftenCarriedByLot_16 G c0 u)
theorem s_Finder_oftenCarriedByLot (G : ZG) (a : Int32) (b : Int32) (c : Int32) (e : Int32) (u : ZSt) (x : Int32) (hx : f_Finder_oftenCarriedByLot a b c e u = some x) : ZSpec G m_Finder_oftenCarriedByLot 5 [.ref 22, .int a, .int b, .int c, .int e] u ((zemP u) x) :=
  ZSpec.go k_Finder_oftenCarriedByLot (Nat.le_of_ble_eq_true rfl) (w_Finder_oftenCarriedByLot G a b c e u) (tgt := (zemP u) x) (by rw [hx]; rfl)
set_option maxRecDepth 100000 in
set_option maxHeartbeats 4000000 in
theorem w_X_lots (G : ZG) (a : Int32) (b : Int32) (c : Int32) (u : ZSt) : ZGo G m_X_lots 6 (f_X_lots a b c u) (zkP u) 0 [(0, .ref 0), (1, .int a), (2, .int b), (3, .int c)] [] u := by
  unfold f_X_lots
  refine g_iload_n rfl rfl ?_
  refine g_iflt rfl (fun c2107 => ?_) (fun c2107 => ?_)
  · refine g_iconst (v := (-1 : Int32)) rfl zic_m1 ?_
    exact g_iret rfl (Or.inl rfl) rfl
  · refine g_aload_n rfl rfl ?_
    refine g_getR rfl zf_X_10 rfl rfl ?_
    refine g_iload_n rfl rfl ?_
    refine g_callVP (M' := m_Council_isBundle) (d' := 2) (as := [.int c]) (rest := []) (ci := 3) (o := 1) rfl ml_X_187 v_Council_isBundle (by decide) rfl (by decide) rfl rfl rfl (Nat.le_of_ble_eq_true rfl) (fun x_ e_ => s_Council_isBundle G c u x_ e_) (fun q2108 e2109 b2110 => ?_)
    refine g_ifne rfl (fun c2111 => ?_) (fun c2111 => ?_)
    · refine g_iload_n rfl rfl ?_
      refine g_bipush (v := (100 : Int32)) rfl zib_100 ?_
      refine g_idiv rfl (by decide) ?_
      refine g_istore (lv' := [(0, .ref 0), (1, .int a), (2, .int b), (3, .int c), (4, .int (b / (100 : Int32)))]) rfl (Nat.le_of_ble_eq_true rfl) rfl rfl ?_
      refine g_iload_n rfl rfl ?_
      refine g_bipush (v := (100 : Int32)) rfl zib_100 ?_
      refine g_irem rfl (by decide) ?_
      refine g_istore (lv' := [(0, .ref 0), (1, .int a), (2, .int b), (3, .int c), (4, .int (b / (100 : Int32))), (5, .int (zrem b (100 : Int32)))]) rfl (Nat.le_of_ble_eq_true rfl) rfl rfl ?_
      refine g_iload rfl rfl ?_
      refine g_iconst (v := (1 : Int32)) rfl zic_1 ?_
      refine g_icmplt rfl (fun c2112 => ?_) (fun c2112 => ?_)
      · refine g_iconst (v := (-1 : Int32)) rfl zic_m1 ?_
        exact g_iret rfl (Or.inl rfl) rfl
      · refine g_iload rfl rfl ?_
        refine g_bipush (v := (30 : Int32)) rfl zib_30 ?_
        refine g_icmpgt rfl (fun c2113 => ?_) (fun c2113 => ?_)
        · refine g_iconst (v := (-1 : Int32)) rfl zic_m1 ?_
          exact g_iret rfl (Or.inl rfl) rfl
        · refine g_iload rfl rfl ?_
          refine g_iconst (v := (1 : Int32)) rfl zic_1 ?_
          refine g_icmplt rfl (fun c2114 => ?_) (fun c2114 => ?_)
          · refine g_iconst (v := (-1 : Int32)) rfl zic_m1 ?_
            exact g_iret rfl (Or.inl rfl) rfl
          · refine g_iload rfl rfl ?_
            refine g_aload_n rfl rfl ?_
            refine g_getR rfl zf_X_10 rfl rfl ?_
            refine g_getI rfl zf_X_226 rfl rfl rfl ?_
            refine g_icmple rfl (fun c2115 => ?_) (fun c2115 => ?_)
            · refine g_aload_n rfl rfl ?_
              refine g_getR rfl zf_X_53 rfl rfl ?_
              refine g_iload_n rfl rfl ?_
              refine g_iload rfl rfl ?_
              refine g_iload rfl rfl ?_
              refine g_iload_n rfl rfl ?_
              refine g_callVP (M' := m_Finder_oftenCarriedByLot) (d' := 5) (as := [.int a, .int (b / (100 : Int32)), .int (zrem b (100 : Int32)), .int c]) (rest := []) (ci := 5) (o := 22) rfl ml_X_247 v_Finder_oftenCarriedByLot (by decide) rfl (by decide) rfl rfl rfl (Nat.le_of_ble_eq_true rfl) (fun x_ e_ => s_Finder_oftenCarriedByLot G a (b / (100 : Int32)) (zrem b (100 : Int32)) c u x_ e_) (fun q2116 e2117 b2118 => ?_)
              exact g_iret rfl (Or.inl rfl) rfl
            · refine g_iconst (v := (-1 : Int32)) rfl zic_m1 ?_
              exact g_iret rfl (Or.inl rfl) rfl
    · refine g_iconst (v := (-1 : Int32)) rfl zic_m1 ?_
      exact g_iret rfl (Or.inl rfl) rfl
theorem s_X_lots (G : ZG) (a : Int32) (b : Int32) (c : Int32) (u : ZSt) (x : Int32) (hx : f_X_lots a b c u = some x) : ZSpec G m_X_lots 6 [.ref 0, .int a, .int b, .int c] u ((zemP u) x) :=
  ZSpec.go k_X_lots (Nat.le_of_ble_eq_true rfl) (w_X_lots G a b c u) (tgt := (zemP u) x) (by rw [hx]; rfl)
set_option maxRecDepth 100000 in
set_option maxHeartbeats 4000000 in
theorem wb_M_drawnOf_4 (G : ZG) (l1 : Int32) (l3 : Int32) (l4 : Int32) (u : ZSt) (K : ((Int32 × Int32) ⊕ ((Int32 × Int32) ⊕ (Int32))) → Option (Value × ZSt)) (hb : ∀ (l3 : Int32) (l4 : Int32), ZGo G m_M_drawnOf 2 (K (.inl (l3, l4))) some 4 [(0, .ref 39), (1, .int l1), (3, .int l3), (4, .int l4)] [] u) (hx : ∀ (l3 : Int32) (l4 : Int32), ZGo G m_M_drawnOf 2 (K (.inr (.inl (l3, l4)))) some 19 [] [] u) (hr : ∀ x, K (.inr (.inr x)) = some ((zemP u) x)) : ZGo G m_M_drawnOf 2 (b_M_drawnOf_4 l1 l3 l4 u) K 4 [(0, .ref 39), (1, .int l1), (3, .int l3), (4, .int l4)] [] u := by
  unfold b_M_drawnOf_4
  refine g_iload rfl rfl ?_
  refine g_aload_n rfl rfl ?_
  refine g_getI rfl zf_M_94 rfl rfl rfl ?_
  refine g_icmpge rfl (fun c2119 => ?_) (fun c2119 => ?_)
  · exact zgo_sub (zsubk [] rfl) (zgo_leaf (hx l3 l4))
  · refine g_iload_n rfl rfl ?_
    refine g_iload rfl rfl ?_
    refine g_callSP (M' := m_M_isIn) (d' := 1) (as := [.int l1, .int l4]) (rest := []) rfl ml_M_118 v_M_isIn (by decide) rfl rfl (Nat.le_of_ble_eq_true rfl) (fun x_ e_ => s_M_isIn G l1 l4 u x_ e_) (fun q2120 e2121 b2122 => ?_)
    refine g_ifeq rfl (fun c2123 => ?_) (fun c2123 => ?_)
    · refine g_iinc (v := (1 : Int32)) (lv' := [(0, .ref 39), (1, .int l1), (3, .int l3), (4, .int (l4 + (1 : Int32)))]) rfl rfl zic_1 (Nat.le_of_ble_eq_true rfl) rfl rfl ?_
      refine g_goto rfl ?_
      exact zgo_sub (zsubk [0, 1, 2, 3] rfl) (zgo_leaf (hb l3 (l4 + (1 : Int32))))
    · refine g_iload_n rfl rfl ?_
      refine g_ifne rfl (fun c2124 => ?_) (fun c2124 => ?_)
      · refine g_iinc (v := (-1 : Int32)) (lv' := [(0, .ref 39), (1, .int l1), (3, .int (l3 + (-1 : Int32))), (4, .int l4)]) rfl rfl zic_m1 (Nat.le_of_ble_eq_true rfl) rfl rfl ?_
        refine g_iinc (v := (1 : Int32)) (lv' := [(0, .ref 39), (1, .int l1), (3, .int (l3 + (-1 : Int32))), (4, .int (l4 + (1 : Int32)))]) rfl rfl zic_1 (Nat.le_of_ble_eq_true rfl) rfl rfl ?_
        refine g_goto rfl ?_
        exact zgo_sub (zsubk [0, 1, 2, 3] rfl) (zgo_leaf (hb (l3 + (-1 : Int32)) (l4 + (1 : Int32))))
      · refine g_iload rfl rfl ?_
        exact g_iret rfl (Or.inl rfl) (hr _)
set_option maxRecDepth 100000 in
set_option maxHeartbeats 4000000 in
theorem wa_M_drawnOf_4 (G : ZG) (u : ZSt) : ZGo G m_M_drawnOf 2 (a_M_drawnOf_4 u) (zkP u) 19 [] [] u := by
  unfold a_M_drawnOf_4
  refine g_iconst (v := (0 : Int32)) rfl zic_0 ?_
  exact g_iret rfl (Or.inl rfl) rfl
set_option maxRecDepth 100000 in
set_option maxHeartbeats 4000000 in
theorem w_M_drawnOf (G : ZG) (a : Int32) (b : Int32) (u : ZSt) : ZGo G m_M_drawnOf 2 (f_M_drawnOf a b u) (zkP u) 0 [(0, .ref 39), (1, .int a), (2, .int b)] [] u := by
  unfold f_M_drawnOf
  refine g_iload_n rfl rfl ?_
  refine g_istore_n (lv' := [(0, .ref 39), (1, .int a), (2, .int b), (3, .int b)]) rfl (Nat.le_of_ble_eq_true rfl) rfl rfl ?_
  refine g_iconst (v := (0 : Int32)) rfl zic_0 ?_
  refine g_istore (lv' := [(0, .ref 39), (1, .int a), (2, .int b), (3, .int b), (4, .int (0 : Int32))]) rfl (Nat.le_of_ble_eq_true rfl) rfl rfl ?_
  refine zgo_sub (lv' := [(0, .ref 39), (1, .int a), (3, .int b), (4, .int (0 : Int32))]) (zsubk [0, 1, 3, 4] rfl) ?_
  refine zgo_loop (σ := Int32 × Int32) (lvf := fun s => [(0, .ref 39), (1, .int a), (3, .int s.1), (4, .int s.2)]) (uf := (fun _ => u)) ?_ zfu _
  intro s K' ih he
  refine wb_M_drawnOf_4 G a s.1 s.2 u K' ?_ ?_ ?_
  · intro c0 c1
    exact ih (c0, c1)
  · intro c0 c1
    rw [he]
    exact zgo_unleaf (wa_M_drawnOf_4 G  u)
  · intro x
    exact (he _).trans rfl
theorem s_M_drawnOf (G : ZG) (a : Int32) (b : Int32) (u : ZSt) (x : Int32) (hx : f_M_drawnOf a b u = some x) : ZSpec G m_M_drawnOf 2 [.ref 39, .int a, .int b] u ((zemP u) x) :=
  ZSpec.go k_M_drawnOf (Nat.le_of_ble_eq_true rfl) (w_M_drawnOf G a b u) (tgt := (zemP u) x) (by rw [hx]; rfl)
set_option maxRecDepth 100000 in
set_option maxHeartbeats 4000000 in
theorem wb_M_lots_51 (G : ZG) (l2 : Int32) (l5 : Int32) (l6 : Int32) (l4 : Int32) (l7 : Int32) (l8 : Int32) (u : ZSt) (K : ((Int32 × Int32 × Int32) ⊕ (Int32 × Int32 × Int32)) → Option (Value × ZSt)) (hb : ∀ (l4 : Int32) (l7 : Int32) (l8 : Int32), ZGo G m_M_lots 4 (K (.inl (l4, l7, l8))) some 51 [(0, .ref 39), (2, .int l2), (4, .int l4), (5, .int l5), (6, .int l6), (7, .int l7), (8, .int l8)] [] u) (hx : ∀ (l4 : Int32) (l7 : Int32) (l8 : Int32), ZGo G m_M_lots 4 (K (.inr (l4, l7, l8))) some 80 [(0, .ref 39), (2, .int l2), (4, .int l4), (5, .int l5), (6, .int l6), (7, .int l7)] [] u) : ZGo G m_M_lots 4 (b_M_lots_51 l2 l5 l6 l4 l7 l8 u) K 51 [(0, .ref 39), (2, .int l2), (4, .int l4), (5, .int l5), (6, .int l6), (7, .int l7), (8, .int l8)] [] u := by
  unfold b_M_lots_51
  refine g_iload rfl rfl ?_
  refine g_iload_n rfl rfl ?_
  refine g_bipush (v := (100 : Int32)) rfl zib_100 ?_
  refine g_irem rfl (by decide) ?_
  refine g_icmpge rfl (fun c2142 => ?_) (fun c2142 => ?_)
  · exact zgo_sub (zsubk [0, 1, 2, 3, 4, 5] rfl) (zgo_leaf (hx l4 l7 l8))
  · refine g_iload rfl rfl ?_
    refine g_ldc_w rfl zk_M_257 ?_
    refine g_imul rfl ?_
    refine g_sipush (v := (12345 : Int32)) rfl zis_12345 ?_
    refine g_iadd rfl ?_
    refine g_istore (lv' := [(0, .ref 39), (2, .int l2), (4, .int ((l4 * (1103515245 : Int32)) + (12345 : Int32))), (5, .int l5), (6, .int l6), (7, .int l7), (8, .int l8)]) rfl (Nat.le_of_ble_eq_true rfl) rfl rfl ?_
    refine g_iload rfl rfl ?_
    refine g_iconst (v := (1 : Int32)) rfl zic_1 ?_
    refine g_aload_n rfl rfl ?_
    refine g_iload rfl rfl ?_
    refine g_iload rfl rfl ?_
    refine g_bipush (v := (8 : Int32)) rfl zib_8 ?_
    refine g_iushr rfl ?_
    refine g_iload rfl rfl ?_
    refine g_callSP (M' := m_M_bitsOf) (d' := 1) (as := [.int l7]) (rest := [.int (zushr ((l4 * (1103515245 : Int32)) + (12345 : Int32)) (8 : Int32)), .int l7, .ref 39, .int (1 : Int32), .int l7]) rfl ml_M_205 v_M_bitsOf (by decide) rfl rfl (Nat.le_of_ble_eq_true rfl) (fun x_ e_ => s_M_bitsOf G l7 u x_ e_) (fun q2143 e2144 b2145 => ?_)
    refine g_iremo rfl (fun c2146 => ?_)
    refine g_callVP (M' := m_M_drawnOf) (d' := 2) (as := [.int l7, .int (zrem (zushr ((l4 * (1103515245 : Int32)) + (12345 : Int32)) (8 : Int32)) q2143)]) (rest := [.int (1 : Int32), .int l7]) (ci := 11) (o := 39) rfl ml_M_258 v_M_drawnOf (by decide) rfl (by decide) rfl rfl rfl (Nat.le_of_ble_eq_true rfl) (fun x_ e_ => s_M_drawnOf G l7 (zrem (zushr ((l4 * (1103515245 : Int32)) + (12345 : Int32)) (8 : Int32)) q2143) u x_ e_) (fun q2147 e2148 b2149 => ?_)
    refine g_ishl rfl ?_
    refine g_iconst (v := (-1 : Int32)) rfl zic_m1 ?_
    refine g_ixor rfl ?_
    refine g_iand rfl ?_
    refine g_istore (lv' := [(0, .ref 39), (2, .int l2), (4, .int ((l4 * (1103515245 : Int32)) + (12345 : Int32))), (5, .int l5), (6, .int l6), (7, .int (l7 &&& (((1 : Int32) <<< (q2147 &&& 31)) ^^^ (-1 : Int32)))), (8, .int l8)]) rfl (Nat.le_of_ble_eq_true rfl) rfl rfl ?_
    refine g_iinc (v := (1 : Int32)) (lv' := [(0, .ref 39), (2, .int l2), (4, .int ((l4 * (1103515245 : Int32)) + (12345 : Int32))), (5, .int l5), (6, .int l6), (7, .int (l7 &&& (((1 : Int32) <<< (q2147 &&& 31)) ^^^ (-1 : Int32)))), (8, .int (l8 + (1 : Int32)))]) rfl rfl zic_1 (Nat.le_of_ble_eq_true rfl) rfl rfl ?_
    refine g_goto rfl ?_
    exact zgo_sub (zsubk [0, 1, 2, 3, 4, 5, 6] rfl) (zgo_leaf (hb ((l4 * (1103515245 : Int32)) + (12345 : Int32)) (l7 &&& (((1 : Int32) <<< (q2147 &&& 31)) ^^^ (-1 : Int32))) (l8 + (1 : Int32))))
set_option maxRecDepth 100000 in
set_option maxHeartbeats 4000000 in
theorem wa_M_lots_51 (G : ZG) (l2 : Int32) (l4 : Int32) (l5 : Int32) (l6 : Int32) (l7 : Int32) (u : ZSt) (K : ((Int32 × Int32 × Int32) ⊕ (Int32 × Int32 × Int32)) → Option (Value × ZSt)) (hb : ∀ (l4 : Int32) (l5 : Int32) (l6 : Int32), ZGo G m_M_lots 4 (K (.inl (l4, l5, l6))) some 37 [(0, .ref 39), (2, .int l2), (4, .int l4), (5, .int l5), (6, .int l6)] [] u) (hx : ∀ (l4 : Int32) (l5 : Int32) (l6 : Int32), ZGo G m_M_lots 4 (K (.inr (l4, l5, l6))) some 101 [(5, .int l5)] [] u) : ZGo G m_M_lots 4 (a_M_lots_51 l2 l4 l5 l6 l7 u) K 80 [(0, .ref 39), (2, .int l2), (4, .int l4), (5, .int l5), (6, .int l6), (7, .int l7)] [] u := by
  unfold a_M_lots_51
  refine g_iload rfl rfl ?_
  refine g_aload_n rfl rfl ?_
  refine g_iconst (v := (1 : Int32)) rfl zic_1 ?_
  refine g_aload_n rfl rfl ?_
  refine g_getI rfl zf_M_94 rfl rfl rfl ?_
  refine g_ishl rfl ?_
  refine g_iconst (v := (1 : Int32)) rfl zic_1 ?_
  refine g_isub rfl ?_
  refine g_iload rfl rfl ?_
  refine g_iconst (v := (-1 : Int32)) rfl zic_m1 ?_
  refine g_ixor rfl ?_
  refine g_iand rfl ?_
  refine g_callVP (M' := m_M_isMore) (d' := 3) (as := [.int ((((1 : Int32) <<< ((u.1 3906) &&& 31)) - (1 : Int32)) &&& (l7 ^^^ (-1 : Int32)))]) (rest := [.int l5]) (ci := 11) (o := 39) rfl ml_M_223 v_M_isMore (by decide) rfl (by decide) rfl rfl rfl (Nat.le_of_ble_eq_true rfl) (fun x_ e_ => s_M_isMore G ((((1 : Int32) <<< ((u.1 3906) &&& 31)) - (1 : Int32)) &&& (l7 ^^^ (-1 : Int32))) u x_ e_) (fun q2150 e2151 b2152 => ?_)
  refine g_ifeq rfl (fun c2153 => ?_) (fun c2153 => ?_)
  · refine g_iconst (v := (0 : Int32)) rfl zic_0 ?_
    refine g_iadd rfl ?_
    refine g_istore (lv' := [(0, .ref 39), (2, .int l2), (4, .int l4), (5, .int (l5 + (0 : Int32))), (6, .int l6), (7, .int l7)]) rfl (Nat.le_of_ble_eq_true rfl) rfl rfl ?_
    refine g_iinc (v := (1 : Int32)) (lv' := [(0, .ref 39), (2, .int l2), (4, .int l4), (5, .int (l5 + (0 : Int32))), (6, .int (l6 + (1 : Int32))), (7, .int l7)]) rfl rfl zic_1 (Nat.le_of_ble_eq_true rfl) rfl rfl ?_
    refine g_goto rfl ?_
    exact zgo_sub (zsubk [0, 1, 2, 3, 4] rfl) (zgo_leaf (hb l4 (l5 + (0 : Int32)) (l6 + (1 : Int32))))
  · refine g_iconst (v := (1 : Int32)) rfl zic_1 ?_
    refine g_goto rfl ?_
    refine g_iadd rfl ?_
    refine g_istore (lv' := [(0, .ref 39), (2, .int l2), (4, .int l4), (5, .int (l5 + (1 : Int32))), (6, .int l6), (7, .int l7)]) rfl (Nat.le_of_ble_eq_true rfl) rfl rfl ?_
    refine g_iinc (v := (1 : Int32)) (lv' := [(0, .ref 39), (2, .int l2), (4, .int l4), (5, .int (l5 + (1 : Int32))), (6, .int (l6 + (1 : Int32))), (7, .int l7)]) rfl rfl zic_1 (Nat.le_of_ble_eq_true rfl) rfl rfl ?_
    refine g_goto rfl ?_
    exact zgo_sub (zsubk [0, 1, 2, 3, 4] rfl) (zgo_leaf (hb l4 (l5 + (1 : Int32)) (l6 + (1 : Int32))))
