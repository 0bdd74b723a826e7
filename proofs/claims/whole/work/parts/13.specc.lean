/-! by program (gen3.py): each method does what its function says -/
set_option maxRecDepth 100000 in
set_option maxHeartbeats 4000000 in
theorem wa_M_product_6 (G : ZG) (rc : Nat → ZSt → Option (Int32 × ZSt)) (d : Nat) (hd : 3 ≤ d) (h0 : ∀ (u : ZSt) x, rc 0  u = some x → ZSpec G m_M_both d [.ref 39] u (zemI x)) (h1 : ∀ (u : ZSt) x, rc 1  u = some x → ZSpec G m_M_compared d [.ref 39] u (zemI x)) (h2 : ∀ (u : ZSt) x, rc 2  u = some x → ZSpec G m_M_either d [.ref 39] u (zemI x)) (h3 : ∀ (u : ZSt) x, rc 3  u = some x → ZSpec G m_M_one d [.ref 39] u (zemI x)) (h4 : ∀ (u : ZSt) x, rc 4  u = some x → ZSpec G m_M_product d [.ref 39] u (zemI x)) (h5 : ∀ (u : ZSt) x, rc 5  u = some x → ZSpec G m_M_sums d [.ref 39] u (zemI x)) (l1 : Int32) (u : ZSt) : ZGo G m_M_product (d + 1) (a_M_product_6 rc l1 u) zkI 53 [(1, .int l1)] [] u := by
  unfold a_M_product_6
  refine g_iload_n rfl rfl ?_
  exact g_iret rfl (Or.inl rfl) rfl
set_option maxRecDepth 100000 in
set_option maxHeartbeats 4000000 in
theorem w_M_product (G : ZG) (rc : Nat → ZSt → Option (Int32 × ZSt)) (d : Nat) (hd : 3 ≤ d) (h0 : ∀ (u : ZSt) x, rc 0  u = some x → ZSpec G m_M_both d [.ref 39] u (zemI x)) (h1 : ∀ (u : ZSt) x, rc 1  u = some x → ZSpec G m_M_compared d [.ref 39] u (zemI x)) (h2 : ∀ (u : ZSt) x, rc 2  u = some x → ZSpec G m_M_either d [.ref 39] u (zemI x)) (h3 : ∀ (u : ZSt) x, rc 3  u = some x → ZSpec G m_M_one d [.ref 39] u (zemI x)) (h4 : ∀ (u : ZSt) x, rc 4  u = some x → ZSpec G m_M_product d [.ref 39] u (zemI x)) (h5 : ∀ (u : ZSt) x, rc 5  u = some x → ZSpec G m_M_sums d [.ref 39] u (zemI x)) (u : ZSt) : ZGo G m_M_product (d + 1) (t_M_product rc u) zkI 0 [(0, .ref 39)] [] u := by
  unfold t_M_product
  refine g_aload_n rfl rfl ?_
  refine g_callVI (M' := m_M_one) (d' := d) (as := []) (rest := []) (ci := 11) (o := 39) rfl ml_M_183 v_M_one (by omega) rfl (by decide) rfl rfl rfl (Nat.le_of_ble_eq_true rfl) (fun x_ e_ => h3  u x_ e_) (fun q886r q886u e887 b888 => ?_)
  refine g_istore_n (lv' := [(0, .ref 39), (1, .int q886r)]) rfl (Nat.le_of_ble_eq_true rfl) rfl rfl ?_
  refine g_aload_n rfl rfl ?_
  refine g_callVP (M' := m_M_byteAt) (d' := 1) (as := []) (rest := []) (ci := 11) (o := 39) rfl ml_M_164 v_M_byteAt (by omega) rfl (by decide) rfl rfl rfl (Nat.le_of_ble_eq_true rfl) (fun x_ e_ => s_M_byteAt G  q886u x_ e_) (fun q889 e890 b891 => ?_)
  refine g_istore_n (lv' := [(0, .ref 39), (1, .int q886r), (2, .int q889)]) rfl (Nat.le_of_ble_eq_true rfl) rfl rfl ?_
  refine zgo_sub (lv' := [(0, .ref 39), (1, .int q886r), (2, .int q889)]) (zsubk [0, 1, 2] rfl) ?_
  refine zgo_loop (σ := Int32 × Int32 × ZSt) (lvf := fun s => [(0, .ref 39), (1, .int s.1), (2, .int s.2.1)]) (uf := (fun s => s.2.2)) ?_ zfu _
  intro s K' ih he
  refine wb_M_product_6 G rc d hd h0 h1 h2 h3 h4 h5 s.1 s.2.1 s.2.2 K' ?_ ?_
  · intro c0 c1 v
    exact ih (c0, c1, v)
  · intro c0 c1 v
    rw [he]
    exact zgo_unleaf (wa_M_product_6 G rc d hd h0 h1 h2 h3 h4 h5 c0 v)
set_option maxRecDepth 100000 in
set_option maxHeartbeats 4000000 in
theorem ts_M_product (G : ZG) (rc : Nat → ZSt → Option (Int32 × ZSt)) (d : Nat) (hd : 3 ≤ d) (h0 : ∀ (u : ZSt) x, rc 0  u = some x → ZSpec G m_M_both d [.ref 39] u (zemI x)) (h1 : ∀ (u : ZSt) x, rc 1  u = some x → ZSpec G m_M_compared d [.ref 39] u (zemI x)) (h2 : ∀ (u : ZSt) x, rc 2  u = some x → ZSpec G m_M_either d [.ref 39] u (zemI x)) (h3 : ∀ (u : ZSt) x, rc 3  u = some x → ZSpec G m_M_one d [.ref 39] u (zemI x)) (h4 : ∀ (u : ZSt) x, rc 4  u = some x → ZSpec G m_M_product d [.ref 39] u (zemI x)) (h5 : ∀ (u : ZSt) x, rc 5  u = some x → ZSpec G m_M_sums d [.ref 39] u (zemI x)) (u : ZSt) (x : Int32 × ZSt) (hx : t_M_product rc u = some x) : ZSpec G m_M_product (d + 1) [.ref 39] u (zemI x) :=
  ZSpec.go k_M_product (Nat.le_of_ble_eq_true rfl) (w_M_product G rc d hd h0 h1 h2 h3 h4 h5 u) (tgt := zemI x) (by rw [hx]; rfl)
set_option maxRecDepth 100000 in
set_option maxHeartbeats 4000000 in
theorem wb_M_sums_3 (G : ZG) (rc : Nat → ZSt → Option (Int32 × ZSt)) (d : Nat) (hd : 3 ≤ d) (h0 : ∀ (u : ZSt) x, rc 0  u = some x → ZSpec G m_M_both d [.ref 39] u (zemI x)) (h1 : ∀ (u : ZSt) x, rc 1  u = some x → ZSpec G m_M_compared d [.ref 39] u (zemI x)) (h2 : ∀ (u : ZSt) x, rc 2  u = some x → ZSpec G m_M_either d [.ref 39] u (zemI x)) (h3 : ∀ (u : ZSt) x, rc 3  u = some x → ZSpec G m_M_one d [.ref 39] u (zemI x)) (h4 : ∀ (u : ZSt) x, rc 4  u = some x → ZSpec G m_M_product d [.ref 39] u (zemI x)) (h5 : ∀ (u : ZSt) x, rc 5  u = some x → ZSpec G m_M_sums d [.ref 39] u (zemI x)) (l1 : Int32) (u : ZSt) (K : ((Int32 × ZSt) ⊕ (Int32 × ZSt)) → Option (Value × ZSt)) (hb : ∀ (l1 : Int32) (u : ZSt), ZGo G m_M_sums (d + 1) (K (.inl (l1, u))) some 3 [(0, .ref 39), (1, .int l1)] [] u) (hx : ∀ (l1 : Int32) (u : ZSt), ZGo G m_M_sums (d + 1) (K (.inr (l1, u))) some 42 [(1, .int l1)] [] u) : ZGo G m_M_sums (d + 1) (b_M_sums_3 rc l1 u) K 3 [(0, .ref 39), (1, .int l1)] [] u := by
  unfold b_M_sums_3
  refine g_aload_n rfl rfl ?_
  refine g_getI rfl zf_M_161 rfl rfl rfl ?_
  refine g_ifge rfl (fun c953 => ?_) (fun c953 => ?_)
  · exact zgo_sub (zsubk [1] rfl) (zgo_leaf (hx l1 u))
  · refine g_aload_n rfl rfl ?_
    refine g_callVP (M' := m_M_byteAt) (d' := 1) (as := []) (rest := []) (ci := 11) (o := 39) rfl ml_M_164 v_M_byteAt (by omega) rfl (by decide) rfl rfl rfl (Nat.le_of_ble_eq_true rfl) (fun x_ e_ => s_M_byteAt G  u x_ e_) (fun q954 e955 b956 => ?_)
    refine g_bipush (v := (43 : Int32)) rfl zib_43 ?_
    refine g_icmpeq rfl (fun c957 => ?_) (fun c957 => ?_)
    · refine g_aload_n rfl rfl ?_
      refine g_callVP (M' := m_M_byteAt) (d' := 1) (as := []) (rest := []) (ci := 11) (o := 39) rfl ml_M_164 v_M_byteAt (by omega) rfl (by decide) rfl rfl rfl (Nat.le_of_ble_eq_true rfl) (fun x_ e_ => s_M_byteAt G  u x_ e_) (fun q958 e959 b960 => ?_)
      refine g_bipush (v := (43 : Int32)) rfl zib_43 ?_
      refine g_icmpne rfl (fun c961 => ?_) (fun c961 => ?_)
      · refine g_iconst (v := (0 : Int32)) rfl zic_0 ?_
        refine g_istore_n (lv' := [(0, .ref 39), (1, .int l1), (2, .int (0 : Int32))]) rfl (Nat.le_of_ble_eq_true rfl) rfl rfl ?_
        refine g_aload_n rfl rfl ?_
        refine g_dup rfl rfl ?_
        refine g_getI rfl zf_M_152 rfl rfl rfl ?_
        refine g_iconst (v := (1 : Int32)) rfl zic_1 ?_
        refine g_iadd rfl ?_
        refine g_put (j := 3918) rfl zf_M_152 rfl rfl zp_11_18.1 (Or.inl zp_11_18.2) rfl ?_
        refine g_aload_n rfl rfl ?_
        refine g_callVI (M' := m_M_product) (d' := d) (as := []) (rest := []) (ci := 11) (o := 39) rfl ml_M_180 v_M_product (by omega) rfl (by decide) rfl rfl rfl (Nat.le_of_ble_eq_true rfl) (fun x_ e_ => h4  (zs u 3918 ((u.1 3918) + (1 : Int32))) x_ e_) (fun q962r q962u e963 b964 => ?_)
        refine g_istore_n (lv' := [(0, .ref 39), (1, .int l1), (2, .int (0 : Int32)), (3, .int q962r)]) rfl (Nat.le_of_ble_eq_true rfl) rfl rfl ?_
        refine g_iload_n rfl rfl ?_
        refine g_ifeq rfl (fun c965 => ?_) (fun c965 => ?_)
        · refine g_iload_n rfl rfl ?_
          refine g_iload_n rfl rfl ?_
          refine g_isub rfl ?_
          refine g_istore_n (lv' := [(0, .ref 39), (1, .int (l1 - q962r)), (2, .int (0 : Int32)), (3, .int q962r)]) rfl (Nat.le_of_ble_eq_true rfl) rfl rfl ?_
          refine g_goto rfl ?_
          exact zgo_sub (zsubk [0, 1] rfl) (zgo_leaf (hb (l1 - q962r) q962u))
        · refine g_iload_n rfl rfl ?_
          refine g_iload_n rfl rfl ?_
          refine g_iadd rfl ?_
          refine g_goto rfl ?_
          refine g_istore_n (lv' := [(0, .ref 39), (1, .int (l1 + q962r)), (2, .int (0 : Int32)), (3, .int q962r)]) rfl (Nat.le_of_ble_eq_true rfl) rfl rfl ?_
          refine g_goto rfl ?_
          exact zgo_sub (zsubk [0, 1] rfl) (zgo_leaf (hb (l1 + q962r) q962u))
      · refine g_iconst (v := (1 : Int32)) rfl zic_1 ?_
        refine g_goto rfl ?_
        refine g_istore_n (lv' := [(0, .ref 39), (1, .int l1), (2, .int (1 : Int32))]) rfl (Nat.le_of_ble_eq_true rfl) rfl rfl ?_
        refine g_aload_n rfl rfl ?_
        refine g_dup rfl rfl ?_
        refine g_getI rfl zf_M_152 rfl rfl rfl ?_
        refine g_iconst (v := (1 : Int32)) rfl zic_1 ?_
        refine g_iadd rfl ?_
        refine g_put (j := 3918) rfl zf_M_152 rfl rfl zp_11_18.1 (Or.inl zp_11_18.2) rfl ?_
        refine g_aload_n rfl rfl ?_
        refine g_callVI (M' := m_M_product) (d' := d) (as := []) (rest := []) (ci := 11) (o := 39) rfl ml_M_180 v_M_product (by omega) rfl (by decide) rfl rfl rfl (Nat.le_of_ble_eq_true rfl) (fun x_ e_ => h4  (zs u 3918 ((u.1 3918) + (1 : Int32))) x_ e_) (fun q966r q966u e967 b968 => ?_)
        refine g_istore_n (lv' := [(0, .ref 39), (1, .int l1), (2, .int (1 : Int32)), (3, .int q966r)]) rfl (Nat.le_of_ble_eq_true rfl) rfl rfl ?_
        refine g_iload_n rfl rfl ?_
        refine g_ifeq rfl (fun c969 => ?_) (fun c969 => ?_)
        · refine g_iload_n rfl rfl ?_
          refine g_iload_n rfl rfl ?_
          refine g_isub rfl ?_
          refine g_istore_n (lv' := [(0, .ref 39), (1, .int (l1 - q966r)), (2, .int (1 : Int32)), (3, .int q966r)]) rfl (Nat.le_of_ble_eq_true rfl) rfl rfl ?_
          refine g_goto rfl ?_
          exact zgo_sub (zsubk [0, 1] rfl) (zgo_leaf (hb (l1 - q966r) q966u))
        · refine g_iload_n rfl rfl ?_
          refine g_iload_n rfl rfl ?_
          refine g_iadd rfl ?_
          refine g_goto rfl ?_
          refine g_istore_n (lv' := [(0, .ref 39), (1, .int (l1 + q966r)), (2, .int (1 : Int32)), (3, .int q966r)]) rfl (Nat.le_of_ble_eq_true rfl) rfl rfl ?_
          refine g_goto rfl ?_
          exact zgo_sub (zsubk [0, 1] rfl) (zgo_leaf (hb (l1 + q966r) q966u))
    · refine g_aload_n rfl rfl ?_
      refine g_callVP (M' := m_M_byteAt) (d' := 1) (as := []) (rest := []) (ci := 11) (o := 39) rfl ml_M_164 v_M_byteAt (by omega) rfl (by decide) rfl rfl rfl (Nat.le_of_ble_eq_true rfl) (fun x_ e_ => s_M_byteAt G  u x_ e_) (fun q970 e971 b972 => ?_)
      refine g_bipush (v := (45 : Int32)) rfl zib_45 ?_
      refine g_icmpne rfl (fun c973 => ?_) (fun c973 => ?_)
      · exact zgo_sub (zsubk [1] rfl) (zgo_leaf (hx l1 u))
      · refine g_aload_n rfl rfl ?_
        refine g_callVP (M' := m_M_byteAt) (d' := 1) (as := []) (rest := []) (ci := 11) (o := 39) rfl ml_M_164 v_M_byteAt (by omega) rfl (by decide) rfl rfl rfl (Nat.le_of_ble_eq_true rfl) (fun x_ e_ => s_M_byteAt G  u x_ e_) (fun q974 e975 b976 => ?_)
        refine g_bipush (v := (43 : Int32)) rfl zib_43 ?_
        refine g_icmpne rfl (fun c977 => ?_) (fun c977 => ?_)
        · refine g_iconst (v := (0 : Int32)) rfl zic_0 ?_
          refine g_istore_n (lv' := [(0, .ref 39), (1, .int l1), (2, .int (0 : Int32))]) rfl (Nat.le_of_ble_eq_true rfl) rfl rfl ?_
          refine g_aload_n rfl rfl ?_
          refine g_dup rfl rfl ?_
          refine g_getI rfl zf_M_152 rfl rfl rfl ?_
          refine g_iconst (v := (1 : Int32)) rfl zic_1 ?_
          refine g_iadd rfl ?_
          refine g_put (j := 3918) rfl zf_M_152 rfl rfl zp_11_18.1 (Or.inl zp_11_18.2) rfl ?_
          refine g_aload_n rfl rfl ?_
          refine g_callVI (M' := m_M_product) (d' := d) (as := []) (rest := []) (ci := 11) (o := 39) rfl ml_M_180 v_M_product (by omega) rfl (by decide) rfl rfl rfl (Nat.le_of_ble_eq_true rfl) (fun x_ e_ => h4  (zs u 3918 ((u.1 3918) + (1 : Int32))) x_ e_) (fun q978r q978u e979 b980 => ?_)
          refine g_istore_n (lv' := [(0, .ref 39), (1, .int l1), (2, .int (0 : Int32)), (3, .int q978r)]) rfl (Nat.le_of_ble_eq_true rfl) rfl rfl ?_
          refine g_iload_n rfl rfl ?_
          refine g_ifeq rfl (fun c981 => ?_) (fun c981 => ?_)
          · refine g_iload_n rfl rfl ?_
            refine g_iload_n rfl rfl ?_
            refine g_isub rfl ?_
            refine g_istore_n (lv' := [(0, .ref 39), (1, .int (l1 - q978r)), (2, .int (0 : Int32)), (3, .int q978r)]) rfl (Nat.le_of_ble_eq_true rfl) rfl rfl ?_
            refine g_goto rfl ?_
            exact zgo_sub (zsubk [0, 1] rfl) (zgo_leaf (hb (l1 - q978r) q978u))
          · refine g_iload_n rfl rfl ?_
            refine g_iload_n rfl rfl ?_
            refine g_iadd rfl ?_
            refine g_goto rfl ?_
            refine g_istore_n (lv' := [(0, .ref 39), (1, .int (l1 + q978r)), (2, .int (0 : Int32)), (3, .int q978r)]) rfl (Nat.le_of_ble_eq_true rfl) rfl rfl ?_
            refine g_goto rfl ?_
            exact zgo_sub (zsubk [0, 1] rfl) (zgo_leaf (hb (l1 + q978r) q978u))
        · refine g_iconst (v := (1 : Int32)) rfl zic_1 ?_
          refine g_goto rfl ?_
          refine g_istore_n (lv' := [(0, .ref 39), (1, .int l1), (2, .int (1 : Int32))]) rfl (Nat.le_of_ble_eq_true rfl) rfl rfl ?_
          refine g_aload_n rfl rfl ?_
          refine g_dup rfl rfl ?_
          refine g_getI rfl zf_M_152 rfl rfl rfl ?_
          refine g_iconst (v := (1 : Int32)) rfl zic_1 ?_
          refine g_iadd rfl ?_
          refine g_put (j := 3918) rfl zf_M_152 rfl rfl zp_11_18.1 (Or.inl zp_11_18.2) rfl ?_
          refine g_aload_n rfl rfl ?_
          refine g_callVI (M' := m_M_product) (d' := d) (as := []) (rest := []) (ci := 11) (o := 39) rfl ml_M_180 v_M_product (by omega) rfl (by decide) rfl rfl rfl (Nat.le_of_ble_eq_true rfl) (fun x_ e_ => h4  (zs u 3918 ((u.1 3918) + (1 : Int32))) x_ e_) (fun q982r q982u e983 b984 => ?_)
          refine g_istore_n (lv' := [(0, .ref 39), (1, .int l1), (2, .int (1 : Int32)), (3, .int q982r)]) rfl (Nat.le_of_ble_eq_true rfl) rfl rfl ?_
          refine g_iload_n rfl rfl ?_
          refine g_ifeq rfl (fun c985 => ?_) (fun c985 => ?_)
          · refine g_iload_n rfl rfl ?_
            refine g_iload_n rfl rfl ?_
            refine g_isub rfl ?_
            refine g_istore_n (lv' := [(0, .ref 39), (1, .int (l1 - q982r)), (2, .int (1 : Int32)), (3, .int q982r)]) rfl (Nat.le_of_ble_eq_true rfl) rfl rfl ?_
            refine g_goto rfl ?_
            exact zgo_sub (zsubk [0, 1] rfl) (zgo_leaf (hb (l1 - q982r) q982u))
          · refine g_iload_n rfl rfl ?_
            refine g_iload_n rfl rfl ?_
            refine g_iadd rfl ?_
            refine g_goto rfl ?_
            refine g_istore_n (lv' := [(0, .ref 39), (1, .int (l1 + q982r)), (2, .int (1 : Int32)), (3, .int q982r)]) rfl (Nat.le_of_ble_eq_true rfl) rfl rfl ?_
            refine g_goto rfl ?_
            exact zgo_sub (zsubk [0, 1] rfl) (zgo_leaf (hb (l1 + q982r) q982u))
set_option maxRecDepth 100000 in
set_option maxHeartbeats 4000000 in
theorem wa_M_sums_3 (G : ZG) (rc : Nat → ZSt → Option (Int32 × ZSt)) (d : Nat) (hd : 3 ≤ d) (h0 : ∀ (u : ZSt) x, rc 0  u = some x → ZSpec G m_M_both d [.ref 39] u (zemI x)) (h1 : ∀ (u : ZSt) x, rc 1  u = some x → ZSpec G m_M_compared d [.ref 39] u (zemI x)) (h2 : ∀ (u : ZSt) x, rc 2  u = some x → ZSpec G m_M_either d [.ref 39] u (zemI x)) (h3 : ∀ (u : ZSt) x, rc 3  u = some x → ZSpec G m_M_one d [.ref 39] u (zemI x)) (h4 : ∀ (u : ZSt) x, rc 4  u = some x → ZSpec G m_M_product d [.ref 39] u (zemI x)) (h5 : ∀ (u : ZSt) x, rc 5  u = some x → ZSpec G m_M_sums d [.ref 39] u (zemI x)) (l1 : Int32) (u : ZSt) : ZGo G m_M_sums (d + 1) (a_M_sums_3 rc l1 u) zkI 42 [(1, .int l1)] [] u := by
  unfold a_M_sums_3
  refine g_iload_n rfl rfl ?_
  exact g_iret rfl (Or.inl rfl) rfl
set_option maxRecDepth 100000 in
set_option maxHeartbeats 4000000 in
theorem w_M_sums (G : ZG) (rc : Nat → ZSt → Option (Int32 × ZSt)) (d : Nat) (hd : 3 ≤ d) (h0 : ∀ (u : ZSt) x, rc 0  u = some x → ZSpec G m_M_both d [.ref 39] u (zemI x)) (h1 : ∀ (u : ZSt) x, rc 1  u = some x → ZSpec G m_M_compared d [.ref 39] u (zemI x)) (h2 : ∀ (u : ZSt) x, rc 2  u = some x → ZSpec G m_M_either d [.ref 39] u (zemI x)) (h3 : ∀ (u : ZSt) x, rc 3  u = some x → ZSpec G m_M_one d [.ref 39] u (zemI x)) (h4 : ∀ (u : ZSt) x, rc 4  u = some x → ZSpec G m_M_product d [.ref 39] u (zemI x)) (h5 : ∀ (u : ZSt) x, rc 5  u = some x → ZSpec G m_M_sums d [.ref 39] u (zemI x)) (u : ZSt) : ZGo G m_M_sums (d + 1) (t_M_sums rc u) zkI 0 [(0, .ref 39)] [] u := by
  unfold t_M_sums
  refine g_aload_n rfl rfl ?_
  refine g_callVI (M' := m_M_product) (d' := d) (as := []) (rest := []) (ci := 11) (o := 39) rfl ml_M_180 v_M_product (by omega) rfl (by decide) rfl rfl rfl (Nat.le_of_ble_eq_true rfl) (fun x_ e_ => h4  u x_ e_) (fun q950r q950u e951 b952 => ?_)
  refine g_istore_n (lv' := [(0, .ref 39), (1, .int q950r)]) rfl (Nat.le_of_ble_eq_true rfl) rfl rfl ?_
  refine zgo_sub (lv' := [(0, .ref 39), (1, .int q950r)]) (zsubk [0, 1] rfl) ?_
  refine zgo_loop (σ := Int32 × ZSt) (lvf := fun s => [(0, .ref 39), (1, .int s.1)]) (uf := (fun s => s.2)) ?_ zfu _
  intro s K' ih he
  refine wb_M_sums_3 G rc d hd h0 h1 h2 h3 h4 h5 s.1 s.2 K' ?_ ?_
  · intro c0 v
    exact ih (c0, v)
  · intro c0 v
    rw [he]
    exact zgo_unleaf (wa_M_sums_3 G rc d hd h0 h1 h2 h3 h4 h5 c0 v)
set_option maxRecDepth 100000 in
set_option maxHeartbeats 4000000 in
theorem ts_M_sums (G : ZG) (rc : Nat → ZSt → Option (Int32 × ZSt)) (d : Nat) (hd : 3 ≤ d) (h0 : ∀ (u : ZSt) x, rc 0  u = some x → ZSpec G m_M_both d [.ref 39] u (zemI x)) (h1 : ∀ (u : ZSt) x, rc 1  u = some x → ZSpec G m_M_compared d [.ref 39] u (zemI x)) (h2 : ∀ (u : ZSt) x, rc 2  u = some x → ZSpec G m_M_either d [.ref 39] u (zemI x)) (h3 : ∀ (u : ZSt) x, rc 3  u = some x → ZSpec G m_M_one d [.ref 39] u (zemI x)) (h4 : ∀ (u : ZSt) x, rc 4  u = some x → ZSpec G m_M_product d [.ref 39] u (zemI x)) (h5 : ∀ (u : ZSt) x, rc 5  u = some x → ZSpec G m_M_sums d [.ref 39] u (zemI x)) (u : ZSt) (x : Int32 × ZSt) (hx : t_M_sums rc u = some x) : ZSpec G m_M_sums (d + 1) [.ref 39] u (zemI x) :=
  ZSpec.go k_M_sums (Nat.le_of_ble_eq_true rfl) (w_M_sums G rc d hd h0 h1 h2 h3 h4 h5 u) (tgt := zemI x) (by rw [hx]; rfl)
set_option maxRecDepth 100000 in
set_option maxHeartbeats 4000000 in
theorem sr_M_both (G : ZG) : ∀ n, (∀ (u : ZSt) x, r_M_both n 0  u = some x → ZSpec G m_M_both (n + 3) [.ref 39] u (zemI x)) ∧ (∀ (u : ZSt) x, r_M_both n 1  u = some x → ZSpec G m_M_compared (n + 3) [.ref 39] u (zemI x)) ∧ (∀ (u : ZSt) x, r_M_both n 2  u = some x → ZSpec G m_M_either (n + 3) [.ref 39] u (zemI x)) ∧ (∀ (u : ZSt) x, r_M_both n 3  u = some x → ZSpec G m_M_one (n + 3) [.ref 39] u (zemI x)) ∧ (∀ (u : ZSt) x, r_M_both n 4  u = some x → ZSpec G m_M_product (n + 3) [.ref 39] u (zemI x)) ∧ (∀ (u : ZSt) x, r_M_both n 5  u = some x → ZSpec G m_M_sums (n + 3) [.ref 39] u (zemI x))
  | 0 => ⟨(fun _ _ h => by cases h), (fun _ _ h => by cases h), (fun _ _ h => by cases h), (fun _ _ h => by cases h), (fun _ _ h => by cases h), (fun _ _ h => by cases h)⟩
  | n + 1 => by
    obtain ⟨g0, g1, g2, g3, g4, g5⟩ := sr_M_both G n
    have e : n + 1 + 3 = (n + 3) + 1 := by omega
    rw [e]
    exact ⟨(fun  u x h => ts_M_both G (r_M_both n) (n + 3) (by omega) g0 g1 g2 g3 g4 g5  u x h), (fun  u x h => ts_M_compared G (r_M_both n) (n + 3) (by omega) g0 g1 g2 g3 g4 g5  u x h), (fun  u x h => ts_M_either G (r_M_both n) (n + 3) (by omega) g0 g1 g2 g3 g4 g5  u x h), (fun  u x h => ts_M_one G (r_M_both n) (n + 3) (by omega) g0 g1 g2 g3 g4 g5  u x h), (fun  u x h => ts_M_product G (r_M_both n) (n + 3) (by omega) g0 g1 g2 g3 g4 g5  u x h), (fun  u x h => ts_M_sums G (r_M_both n) (n + 3) (by omega) g0 g1 g2 g3 g4 g5  u x h)⟩
theorem s_M_both (G : ZG) (u : ZSt) (x : Int32 × ZSt) (hx : f_M_both  u = some x) : ZSpec G m_M_both 103 [.ref 39] u (zemI x) := (sr_M_both G 100).1  u x hx
theorem s_M_compared (G : ZG) (u : ZSt) (x : Int32 × ZSt) (hx : f_M_compared  u = some x) : ZSpec G m_M_compared 103 [.ref 39] u (zemI x) := (sr_M_both G 100).2.1  u x hx
theorem s_M_either (G : ZG) (u : ZSt) (x : Int32 × ZSt) (hx : f_M_either  u = some x) : ZSpec G m_M_either 103 [.ref 39] u (zemI x) := (sr_M_both G 100).2.2.1  u x hx
theorem s_M_one (G : ZG) (u : ZSt) (x : Int32 × ZSt) (hx : f_M_one  u = some x) : ZSpec G m_M_one 103 [.ref 39] u (zemI x) := (sr_M_both G 100).2.2.2.1  u x hx
theorem s_M_product (G : ZG) (u : ZSt) (x : Int32 × ZSt) (hx : f_M_product  u = some x) : ZSpec G m_M_product 103 [.ref 39] u (zemI x) := (sr_M_both G 100).2.2.2.2.1  u x hx
theorem s_M_sums (G : ZG) (u : ZSt) (x : Int32 × ZSt) (hx : f_M_sums  u = some x) : ZSpec G m_M_sums 103 [.ref 39] u (zemI x) := (sr_M_both G 100).2.2.2.2.2  u x hx
set_option maxRecDepth 100000 in
set_option maxHeartbeats 4000000 in
theorem wb_M_workOut_21 (G : ZG) (l3 : Int32) (l4 : Int32) (l5 : Int32) (u : ZSt) (K : ((Int32 × Int32 × Int32 × ZSt) ⊕ (Int32 × Int32 × Int32 × ZSt)) → Option (Value × ZSt)) (hb : ∀ (l3 : Int32) (l4 : Int32) (l5 : Int32) (u : ZSt), ZGo G m_M_workOut 104 (K (.inl (l3, l4, l5, u))) some 21 [(0, .ref 39), (3, .int l3), (4, .int l4), (5, .int l5)] [] u) (hx : ∀ (l3 : Int32) (l4 : Int32) (l5 : Int32) (u : ZSt), ZGo G m_M_workOut 104 (K (.inr (l3, l4, l5, u))) some 57 [(0, .ref 39), (4, .int l4)] [] u) : ZGo G m_M_workOut 104 (b_M_workOut_21 l3 l4 l5 u) K 21 [(0, .ref 39), (3, .int l3), (4, .int l4), (5, .int l5)] [] u := by
  unfold b_M_workOut_21
  refine g_iload rfl rfl ?_
  refine g_ifeq rfl (fun c986 => ?_) (fun c986 => ?_)
  · exact zgo_sub (zsubk [0, 2] rfl) (zgo_leaf (hx l3 l4 l5 u))
  · refine g_aload_n rfl rfl ?_
    refine g_callVI (M' := m_M_either) (d' := 103) (as := []) (rest := []) (ci := 11) (o := 39) rfl ml_M_192 v_M_either (by decide) rfl (by decide) rfl rfl rfl (Nat.le_of_ble_eq_true rfl) (fun x_ e_ => s_M_either G  u x_ e_) (fun q987r q987u e988 b989 => ?_)
    refine g_istore (lv' := [(0, .ref 39), (3, .int l3), (4, .int l4), (5, .int l5), (6, .int q987r)]) rfl (Nat.le_of_ble_eq_true rfl) rfl rfl ?_
    refine g_iconst (v := (1 : Int32)) rfl zic_1 ?_
    refine g_istore (lv' := [(0, .ref 39), (3, .int l3), (4, .int l4), (5, .int l5), (6, .int q987r), (7, .int (1 : Int32))]) rfl (Nat.le_of_ble_eq_true rfl) rfl rfl ?_
    refine g_aload_n rfl rfl ?_
    refine g_bipush (v := (63 : Int32)) rfl zib_63 ?_
    refine g_callVI (M' := m_M_takes) (d' := 2) (as := [.int (63 : Int32)]) (rest := []) (ci := 11) (o := 39) rfl ml_M_171 v_M_takes (by decide) rfl (by decide) rfl rfl rfl (Nat.le_of_ble_eq_true rfl) (fun x_ e_ => s_M_takes G (63 : Int32) q987u x_ e_) (fun q990r q990u e991 b992 => ?_)
    refine g_ifeq rfl (fun c993 => ?_) (fun c993 => ?_)
    · refine g_aload_n rfl rfl ?_
      refine g_getI rfl zf_M_161 rfl rfl rfl ?_
      refine g_ifge rfl (fun c994 => ?_) (fun c994 => ?_)
      · refine g_aload_n rfl rfl ?_
        refine g_bipush (v := (59 : Int32)) rfl zib_59 ?_
        refine g_callVI (M' := m_M_takes) (d' := 2) (as := [.int (59 : Int32)]) (rest := []) (ci := 11) (o := 39) rfl ml_M_171 v_M_takes (by decide) rfl (by decide) rfl rfl rfl (Nat.le_of_ble_eq_true rfl) (fun x_ e_ => s_M_takes G (59 : Int32) q990u x_ e_) (fun q995r q995u e996 b997 => ?_)
        refine g_istore (lv' := [(0, .ref 39), (3, .int l3), (4, .int l4), (5, .int q995r), (6, .int q987r), (7, .int (1 : Int32))]) rfl (Nat.le_of_ble_eq_true rfl) rfl rfl ?_
        refine g_goto rfl ?_
        exact zgo_sub (zsubk [0, 1, 2, 3] rfl) (zgo_leaf (hb l3 l4 q995r q995u))
      · refine g_iload rfl rfl ?_
        refine g_ifeq rfl (fun c998 => ?_) (fun c998 => ?_)
        · refine g_aload_n rfl rfl ?_
          refine g_bipush (v := (59 : Int32)) rfl zib_59 ?_
          refine g_callVI (M' := m_M_takes) (d' := 2) (as := [.int (59 : Int32)]) (rest := []) (ci := 11) (o := 39) rfl ml_M_171 v_M_takes (by decide) rfl (by decide) rfl rfl rfl (Nat.le_of_ble_eq_true rfl) (fun x_ e_ => s_M_takes G (59 : Int32) q990u x_ e_) (fun q999r q999u e1000 b1001 => ?_)
          refine g_istore (lv' := [(0, .ref 39), (3, .int l3), (4, .int l4), (5, .int q999r), (6, .int q987r), (7, .int (1 : Int32))]) rfl (Nat.le_of_ble_eq_true rfl) rfl rfl ?_
          refine g_goto rfl ?_
          exact zgo_sub (zsubk [0, 1, 2, 3] rfl) (zgo_leaf (hb l3 l4 q999r q999u))
        · refine g_iload_n rfl rfl ?_
          refine g_ifne rfl (fun c1002 => ?_) (fun c1002 => ?_)
          · refine g_aload_n rfl rfl ?_
            refine g_bipush (v := (59 : Int32)) rfl zib_59 ?_
            refine g_callVI (M' := m_M_takes) (d' := 2) (as := [.int (59 : Int32)]) (rest := []) (ci := 11) (o := 39) rfl ml_M_171 v_M_takes (by decide) rfl (by decide) rfl rfl rfl (Nat.le_of_ble_eq_true rfl) (fun x_ e_ => s_M_takes G (59 : Int32) q990u x_ e_) (fun q1003r q1003u e1004 b1005 => ?_)
            refine g_istore (lv' := [(0, .ref 39), (3, .int l3), (4, .int l4), (5, .int q1003r), (6, .int q987r), (7, .int (1 : Int32))]) rfl (Nat.le_of_ble_eq_true rfl) rfl rfl ?_
            refine g_goto rfl ?_
            exact zgo_sub (zsubk [0, 1, 2, 3] rfl) (zgo_leaf (hb l3 l4 q1003r q1003u))
          · refine g_iconst (v := (1 : Int32)) rfl zic_1 ?_
            refine g_istore_n (lv' := [(0, .ref 39), (3, .int (1 : Int32)), (4, .int l4), (5, .int l5), (6, .int q987r), (7, .int (1 : Int32))]) rfl (Nat.le_of_ble_eq_true rfl) rfl rfl ?_
            refine g_iload rfl rfl ?_
            refine g_istore (lv' := [(0, .ref 39), (3, .int (1 : Int32)), (4, .int q987r), (5, .int l5), (6, .int q987r), (7, .int (1 : Int32))]) rfl (Nat.le_of_ble_eq_true rfl) rfl rfl ?_
            refine g_aload_n rfl rfl ?_
            refine g_bipush (v := (59 : Int32)) rfl zib_59 ?_
            refine g_callVI (M' := m_M_takes) (d' := 2) (as := [.int (59 : Int32)]) (rest := []) (ci := 11) (o := 39) rfl ml_M_171 v_M_takes (by decide) rfl (by decide) rfl rfl rfl (Nat.le_of_ble_eq_true rfl) (fun x_ e_ => s_M_takes G (59 : Int32) q990u x_ e_) (fun q1006r q1006u e1007 b1008 => ?_)
            refine g_istore (lv' := [(0, .ref 39), (3, .int (1 : Int32)), (4, .int q987r), (5, .int q1006r), (6, .int q987r), (7, .int (1 : Int32))]) rfl (Nat.le_of_ble_eq_true rfl) rfl rfl ?_
            refine g_goto rfl ?_
            exact zgo_sub (zsubk [0, 1, 2, 3] rfl) (zgo_leaf (hb (1 : Int32) q987r q1006r q1006u))
    · refine g_iload rfl rfl ?_
      refine g_ifeq rfl (fun c1009 => ?_) (fun c1009 => ?_)
      · refine g_iconst (v := (0 : Int32)) rfl zic_0 ?_
        refine g_istore (lv' := [(0, .ref 39), (3, .int l3), (4, .int l4), (5, .int l5), (6, .int q987r), (7, .int (0 : Int32))]) rfl (Nat.le_of_ble_eq_true rfl) rfl rfl ?_
        refine g_aload_n rfl rfl ?_
        refine g_callVI (M' := m_M_either) (d' := 103) (as := []) (rest := []) (ci := 11) (o := 39) rfl ml_M_192 v_M_either (by decide) rfl (by decide) rfl rfl rfl (Nat.le_of_ble_eq_true rfl) (fun x_ e_ => s_M_either G  q990u x_ e_) (fun q1010r q1010u e1011 b1012 => ?_)
        refine g_istore (lv' := [(0, .ref 39), (3, .int l3), (4, .int l4), (5, .int l5), (6, .int q1010r), (7, .int (0 : Int32))]) rfl (Nat.le_of_ble_eq_true rfl) rfl rfl ?_
        refine g_aload_n rfl rfl ?_
        refine g_getI rfl zf_M_161 rfl rfl rfl ?_
        refine g_ifge rfl (fun c1013 => ?_) (fun c1013 => ?_)
        · refine g_aload_n rfl rfl ?_
          refine g_bipush (v := (59 : Int32)) rfl zib_59 ?_
          refine g_callVI (M' := m_M_takes) (d' := 2) (as := [.int (59 : Int32)]) (rest := []) (ci := 11) (o := 39) rfl ml_M_171 v_M_takes (by decide) rfl (by decide) rfl rfl rfl (Nat.le_of_ble_eq_true rfl) (fun x_ e_ => s_M_takes G (59 : Int32) q1010u x_ e_) (fun q1014r q1014u e1015 b1016 => ?_)
          refine g_istore (lv' := [(0, .ref 39), (3, .int l3), (4, .int l4), (5, .int q1014r), (6, .int q1010r), (7, .int (0 : Int32))]) rfl (Nat.le_of_ble_eq_true rfl) rfl rfl ?_
          refine g_goto rfl ?_
          exact zgo_sub (zsubk [0, 1, 2, 3] rfl) (zgo_leaf (hb l3 l4 q1014r q1014u))
        · refine g_iload rfl rfl ?_
          refine g_ifeq rfl (fun c1017 => ?_) (fun c1017 => ?_)
          · refine g_aload_n rfl rfl ?_
            refine g_bipush (v := (59 : Int32)) rfl zib_59 ?_
            refine g_callVI (M' := m_M_takes) (d' := 2) (as := [.int (59 : Int32)]) (rest := []) (ci := 11) (o := 39) rfl ml_M_171 v_M_takes (by decide) rfl (by decide) rfl rfl rfl (Nat.le_of_ble_eq_true rfl) (fun x_ e_ => s_M_takes G (59 : Int32) q1010u x_ e_) (fun q1018r q1018u e1019 b1020 => ?_)
            refine g_istore (lv' := [(0, .ref 39), (3, .int l3), (4, .int l4), (5, .int q1018r), (6, .int q1010r), (7, .int (0 : Int32))]) rfl (Nat.le_of_ble_eq_true rfl) rfl rfl ?_
            refine g_goto rfl ?_
            exact zgo_sub (zsubk [0, 1, 2, 3] rfl) (zgo_leaf (hb l3 l4 q1018r q1018u))
          · refine g_iload_n rfl rfl ?_
            refine g_ifne rfl (fun c1021 => ?_) (fun c1021 => ?_)
            · refine g_aload_n rfl rfl ?_
              refine g_bipush (v := (59 : Int32)) rfl zib_59 ?_
              refine g_callVI (M' := m_M_takes) (d' := 2) (as := [.int (59 : Int32)]) (rest := []) (ci := 11) (o := 39) rfl ml_M_171 v_M_takes (by decide) rfl (by decide) rfl rfl rfl (Nat.le_of_ble_eq_true rfl) (fun x_ e_ => s_M_takes G (59 : Int32) q1010u x_ e_) (fun q1022r q1022u e1023 b1024 => ?_)
              refine g_istore (lv' := [(0, .ref 39), (3, .int l3), (4, .int l4), (5, .int q1022r), (6, .int q1010r), (7, .int (0 : Int32))]) rfl (Nat.le_of_ble_eq_true rfl) rfl rfl ?_
              refine g_goto rfl ?_
              exact zgo_sub (zsubk [0, 1, 2, 3] rfl) (zgo_leaf (hb l3 l4 q1022r q1022u))
            · refine g_iconst (v := (1 : Int32)) rfl zic_1 ?_
              refine g_istore_n (lv' := [(0, .ref 39), (3, .int (1 : Int32)), (4, .int l4), (5, .int l5), (6, .int q1010r), (7, .int (0 : Int32))]) rfl (Nat.le_of_ble_eq_true rfl) rfl rfl ?_
              refine g_iload rfl rfl ?_
              refine g_istore (lv' := [(0, .ref 39), (3, .int (1 : Int32)), (4, .int q1010r), (5, .int l5), (6, .int q1010r), (7, .int (0 : Int32))]) rfl (Nat.le_of_ble_eq_true rfl) rfl rfl ?_
              refine g_aload_n rfl rfl ?_
              refine g_bipush (v := (59 : Int32)) rfl zib_59 ?_
              refine g_callVI (M' := m_M_takes) (d' := 2) (as := [.int (59 : Int32)]) (rest := []) (ci := 11) (o := 39) rfl ml_M_171 v_M_takes (by decide) rfl (by decide) rfl rfl rfl (Nat.le_of_ble_eq_true rfl) (fun x_ e_ => s_M_takes G (59 : Int32) q1010u x_ e_) (fun q1025r q1025u e1026 b1027 => ?_)
              refine g_istore (lv' := [(0, .ref 39), (3, .int (1 : Int32)), (4, .int q1010r), (5, .int q1025r), (6, .int q1010r), (7, .int (0 : Int32))]) rfl (Nat.le_of_ble_eq_true rfl) rfl rfl ?_
              refine g_goto rfl ?_
              exact zgo_sub (zsubk [0, 1, 2, 3] rfl) (zgo_leaf (hb (1 : Int32) q1010r q1025r q1025u))
      · refine g_iconst (v := (1 : Int32)) rfl zic_1 ?_
        refine g_goto rfl ?_
        refine g_istore (lv' := [(0, .ref 39), (3, .int l3), (4, .int l4), (5, .int l5), (6, .int q987r), (7, .int (1 : Int32))]) rfl (Nat.le_of_ble_eq_true rfl) rfl rfl ?_
        refine g_aload_n rfl rfl ?_
        refine g_callVI (M' := m_M_either) (d' := 103) (as := []) (rest := []) (ci := 11) (o := 39) rfl ml_M_192 v_M_either (by decide) rfl (by decide) rfl rfl rfl (Nat.le_of_ble_eq_true rfl) (fun x_ e_ => s_M_either G  q990u x_ e_) (fun q1028r q1028u e1029 b1030 => ?_)
        refine g_istore (lv' := [(0, .ref 39), (3, .int l3), (4, .int l4), (5, .int l5), (6, .int q1028r), (7, .int (1 : Int32))]) rfl (Nat.le_of_ble_eq_true rfl) rfl rfl ?_
        refine g_aload_n rfl rfl ?_
        refine g_getI rfl zf_M_161 rfl rfl rfl ?_
        refine g_ifge rfl (fun c1031 => ?_) (fun c1031 => ?_)
        · refine g_aload_n rfl rfl ?_
          refine g_bipush (v := (59 : Int32)) rfl zib_59 ?_
          refine g_callVI (M' := m_M_takes) (d' := 2) (as := [.int (59 : Int32)]) (rest := []) (ci := 11) (o := 39) rfl ml_M_171 v_M_takes (by decide) rfl (by decide) rfl rfl rfl (Nat.le_of_ble_eq_true rfl) (fun x_ e_ => s_M_takes G (59 : Int32) q1028u x_ e_) (fun q1032r q1032u e1033 b1034 => ?_)
          refine g_istore (lv' := [(0, .ref 39), (3, .int l3), (4, .int l4), (5, .int q1032r), (6, .int q1028r), (7, .int (1 : Int32))]) rfl (Nat.le_of_ble_eq_true rfl) rfl rfl ?_
          refine g_goto rfl ?_
          exact zgo_sub (zsubk [0, 1, 2, 3] rfl) (zgo_leaf (hb l3 l4 q1032r q1032u))
        · refine g_iload rfl rfl ?_
          refine g_ifeq rfl (fun c1035 => ?_) (fun c1035 => ?_)
          · refine g_aload_n rfl rfl ?_
            refine g_bipush (v := (59 : Int32)) rfl zib_59 ?_
            refine g_callVI (M' := m_M_takes) (d' := 2) (as := [.int (59 : Int32)]) (rest := []) (ci := 11) (o := 39) rfl ml_M_171 v_M_takes (by decide) rfl (by decide) rfl rfl rfl (Nat.le_of_ble_eq_true rfl) (fun x_ e_ => s_M_takes G (59 : Int32) q1028u x_ e_) (fun q1036r q1036u e1037 b1038 => ?_)
            refine g_istore (lv' := [(0, .ref 39), (3, .int l3), (4, .int l4), (5, .int q1036r), (6, .int q1028r), (7, .int (1 : Int32))]) rfl (Nat.le_of_ble_eq_true rfl) rfl rfl ?_
            refine g_goto rfl ?_
            exact zgo_sub (zsubk [0, 1, 2, 3] rfl) (zgo_leaf (hb l3 l4 q1036r q1036u))
          · refine g_iload_n rfl rfl ?_
            refine g_ifne rfl (fun c1039 => ?_) (fun c1039 => ?_)
            · refine g_aload_n rfl rfl ?_
              refine g_bipush (v := (59 : Int32)) rfl zib_59 ?_
              refine g_callVI (M' := m_M_takes) (d' := 2) (as := [.int (59 : Int32)]) (rest := []) (ci := 11) (o := 39) rfl ml_M_171 v_M_takes (by decide) rfl (by decide) rfl rfl rfl (Nat.le_of_ble_eq_true rfl) (fun x_ e_ => s_M_takes G (59 : Int32) q1028u x_ e_) (fun q1040r q1040u e1041 b1042 => ?_)
              refine g_istore (lv' := [(0, .ref 39), (3, .int l3), (4, .int l4), (5, .int q1040r), (6, .int q1028r), (7, .int (1 : Int32))]) rfl (Nat.le_of_ble_eq_true rfl) rfl rfl ?_
              refine g_goto rfl ?_
              exact zgo_sub (zsubk [0, 1, 2, 3] rfl) (zgo_leaf (hb l3 l4 q1040r q1040u))
            · refine g_iconst (v := (1 : Int32)) rfl zic_1 ?_
              refine g_istore_n (lv' := [(0, .ref 39), (3, .int (1 : Int32)), (4, .int l4), (5, .int l5), (6, .int q1028r), (7, .int (1 : Int32))]) rfl (Nat.le_of_ble_eq_true rfl) rfl rfl ?_
              refine g_iload rfl rfl ?_
              refine g_istore (lv' := [(0, .ref 39), (3, .int (1 : Int32)), (4, .int q1028r), (5, .int l5), (6, .int q1028r), (7, .int (1 : Int32))]) rfl (Nat.le_of_ble_eq_true rfl) rfl rfl ?_
              refine g_aload_n rfl rfl ?_
              refine g_bipush (v := (59 : Int32)) rfl zib_59 ?_
              refine g_callVI (M' := m_M_takes) (d' := 2) (as := [.int (59 : Int32)]) (rest := []) (ci := 11) (o := 39) rfl ml_M_171 v_M_takes (by decide) rfl (by decide) rfl rfl rfl (Nat.le_of_ble_eq_true rfl) (fun x_ e_ => s_M_takes G (59 : Int32) q1028u x_ e_) (fun q1043r q1043u e1044 b1045 => ?_)
              refine g_istore (lv' := [(0, .ref 39), (3, .int (1 : Int32)), (4, .int q1028r), (5, .int q1043r), (6, .int q1028r), (7, .int (1 : Int32))]) rfl (Nat.le_of_ble_eq_true rfl) rfl rfl ?_
              refine g_goto rfl ?_
              exact zgo_sub (zsubk [0, 1, 2, 3] rfl) (zgo_leaf (hb (1 : Int32) q1028r q1043r q1043u))
set_option maxRecDepth 100000 in
set_option maxHeartbeats 4000000 in
theorem wa_M_workOut_21 (G : ZG) (l4 : Int32) (u : ZSt) : ZGo G m_M_workOut 104 (a_M_workOut_21 l4 u) zkI 57 [(0, .ref 39), (4, .int l4)] [] u := by
  unfold a_M_workOut_21
  refine g_aload_n rfl rfl ?_
  refine g_getI rfl zf_M_161 rfl rfl rfl ?_
  refine g_ifge rfl (fun c1046 => ?_) (fun c1046 => ?_)
  · refine g_iload rfl rfl ?_
    exact g_iret rfl (Or.inl rfl) rfl
  · refine g_aload_n rfl rfl ?_
    refine g_getI rfl zf_M_152 rfl rfl rfl ?_
    refine g_aload_n rfl rfl ?_
    refine g_getI rfl zf_M_155 rfl rfl rfl ?_
    refine g_icmpge rfl (fun c1047 => ?_) (fun c1047 => ?_)
    · refine g_iload rfl rfl ?_
      exact g_iret rfl (Or.inl rfl) rfl
    · refine g_aload_n rfl rfl ?_
      refine g_callVI (M' := m_M_wrong) (d' := 1) (as := []) (rest := []) (ci := 11) (o := 39) rfl ml_M_189 v_M_wrong (by decide) rfl (by decide) rfl rfl rfl (Nat.le_of_ble_eq_true rfl) (fun x_ e_ => s_M_wrong G  u x_ e_) (fun q1048r q1048u e1049 b1050 => ?_)
      exact g_iret rfl (Or.inl rfl) rfl
set_option maxRecDepth 100000 in
set_option maxHeartbeats 4000000 in
theorem w_M_workOut (G : ZG) (a : Int32) (b : Int32) (u : ZSt) : ZGo G m_M_workOut 104 (f_M_workOut a b u) zkI 0 [(0, .ref 39), (1, .int a), (2, .int b)] [] u := by
  unfold f_M_workOut
  refine g_aload_n rfl rfl ?_
  refine g_iload_n rfl rfl ?_
  refine g_put (j := 3917) rfl zf_M_158 rfl rfl zp_11_17.1 (Or.inl zp_11_17.2) rfl ?_
  refine g_aload_n rfl rfl ?_
  refine g_iconst (v := (0 : Int32)) rfl zic_0 ?_
  refine g_put (j := 3918) rfl zf_M_152 rfl rfl zp_11_18.1 (Or.inl zp_11_18.2) rfl ?_
  refine g_aload_n rfl rfl ?_
  refine g_iload_n rfl rfl ?_
  refine g_put (j := 3919) rfl zf_M_155 rfl rfl zp_11_19.1 (Or.inl zp_11_19.2) rfl ?_
  refine g_aload_n rfl rfl ?_
  refine g_iconst (v := (-1 : Int32)) rfl zic_m1 ?_
  refine g_put (j := 3920) rfl zf_M_161 rfl rfl zp_11_20.1 (Or.inl zp_11_20.2) rfl ?_
  refine g_aload_n rfl rfl ?_
  refine g_iconst (v := (0 : Int32)) rfl zic_0 ?_
  refine g_put (j := 3921) rfl zf_M_186 rfl rfl zp_11_21.1 (Or.inl zp_11_21.2) rfl ?_
  refine g_iconst (v := (0 : Int32)) rfl zic_0 ?_
  refine g_istore_n (lv' := [(0, .ref 39), (1, .int a), (2, .int b), (3, .int (0 : Int32))]) rfl (Nat.le_of_ble_eq_true rfl) rfl rfl ?_
  refine g_iconst (v := (0 : Int32)) rfl zic_0 ?_
  refine g_istore (lv' := [(0, .ref 39), (1, .int a), (2, .int b), (3, .int (0 : Int32)), (4, .int (0 : Int32))]) rfl (Nat.le_of_ble_eq_true rfl) rfl rfl ?_
  refine g_iconst (v := (1 : Int32)) rfl zic_1 ?_
  refine g_istore (lv' := [(0, .ref 39), (1, .int a), (2, .int b), (3, .int (0 : Int32)), (4, .int (0 : Int32)), (5, .int (1 : Int32))]) rfl (Nat.le_of_ble_eq_true rfl) rfl rfl ?_
  refine zgo_sub (lv' := [(0, .ref 39), (3, .int (0 : Int32)), (4, .int (0 : Int32)), (5, .int (1 : Int32))]) (zsubk [0, 3, 4, 5] rfl) ?_
  refine zgo_loop (σ := Int32 × Int32 × Int32 × ZSt) (lvf := fun s => [(0, .ref 39), (3, .int s.1), (4, .int s.2.1), (5, .int s.2.2.1)]) (uf := (fun s => s.2.2.2)) ?_ zfu _
  intro s K' ih he
  refine wb_M_workOut_21 G s.1 s.2.1 s.2.2.1 s.2.2.2 K' ?_ ?_
  · intro c0 c1 c2 v
    exact ih (c0, c1, c2, v)
  · intro c0 c1 c2 v
    rw [he]
    exact zgo_unleaf (wa_M_workOut_21 G c1 v)
theorem s_M_workOut (G : ZG) (a : Int32) (b : Int32) (u : ZSt) (x : Int32 × ZSt) (hx : f_M_workOut a b u = some x) : ZSpec G m_M_workOut 104 [.ref 39, .int a, .int b] u (zemI x) :=
  ZSpec.go k_M_workOut (Nat.le_of_ble_eq_true rfl) (w_M_workOut G a b u) (tgt := zemI x) (by rw [hx]; rfl)
set_option maxRecDepth 100000 in
set_option maxHeartbeats 4000000 in
theorem wb_M_law_22 (G : ZG) (l2 : Int32) (l3 : Int32) (u : ZSt) (K : ((Int32 × ZSt) ⊕ (Int32 × ZSt)) → Option (Value × ZSt)) (hb : ∀ (l3 : Int32) (u : ZSt), ZGo G m_M_law 105 (K (.inl (l3, u))) some 22 [(0, .ref 39), (2, .int l2), (3, .int l3)] [] u) (hx : ∀ (l3 : Int32) (u : ZSt), ZGo G m_M_law 105 (K (.inr (l3, u))) some 35 [(0, .ref 39), (2, .int l2)] [] u) : ZGo G m_M_law 105 (b_M_law_22 l2 l3 u) K 22 [(0, .ref 39), (2, .int l2), (3, .int l3)] [] u := by
  unfold b_M_law_22
  refine g_iload_n rfl rfl ?_
  refine g_iload_n rfl rfl ?_
  refine g_icmpge rfl (fun c1055 => ?_) (fun c1055 => ?_)
  · exact zgo_sub (zsubk [0, 1] rfl) (zgo_leaf (hx l3 u))
  · refine g_aload_n rfl rfl ?_
    refine g_getR rfl zf_M_31 rfl rfl ?_
    refine g_iload_n rfl rfl ?_
    refine g_aload_n rfl rfl ?_
    refine g_getR rfl zf_M_28 rfl rfl ?_
    refine g_iload_n rfl rfl ?_
    refine g_iald rfl rfl (fun o1057 => ?_)
    refine g_iast rfl rfl (fun o1056 => ?_)
    refine g_iinc (v := (1 : Int32)) (lv' := [(0, .ref 39), (2, .int l2), (3, .int (l3 + (1 : Int32)))]) rfl rfl zic_1 (Nat.le_of_ble_eq_true rfl) rfl rfl ?_
    refine g_goto rfl ?_
    exact zgo_sub (zsubk [0, 1, 2] rfl) (zgo_leaf (hb (l3 + (1 : Int32)) (za u 47 l3.toNatClampNeg (u.2.1 46 l3.toNatClampNeg))))
set_option maxRecDepth 100000 in
set_option maxHeartbeats 4000000 in
theorem wa_M_law_22 (G : ZG) (l2 : Int32) (u : ZSt) : ZGo G m_M_law 105 (a_M_law_22 l2 u) zkI 35 [(0, .ref 39), (2, .int l2)] [] u := by
  unfold a_M_law_22
  refine g_aload_n rfl rfl ?_
  refine g_iload_n rfl rfl ?_
  refine g_put (j := 3916) rfl zf_M_78 rfl rfl zp_11_16.1 (Or.inl zp_11_16.2) rfl ?_
  refine g_iconst (v := (1 : Int32)) rfl zic_1 ?_
  exact g_iret rfl (Or.inl rfl) rfl
set_option maxRecDepth 100000 in
set_option maxHeartbeats 4000000 in
theorem w_M_law (G : ZG) (u : ZSt) : ZGo G m_M_law 105 (f_M_law u) zkI 0 [(0, .ref 39)] [] u := by
  unfold f_M_law
  refine g_aload_n rfl rfl ?_
  refine g_iconst (v := (-1 : Int32)) rfl zic_m1 ?_
  refine g_aload_n rfl rfl ?_
  refine g_getI rfl zf_M_149 rfl rfl rfl ?_
  refine g_callVI (M' := m_M_workOut) (d' := 104) (as := [.int (-1 : Int32), .int (u.1 3914)]) (rest := []) (ci := 11) (o := 39) rfl ml_M_199 v_M_workOut (by decide) rfl (by decide) rfl rfl rfl (Nat.le_of_ble_eq_true rfl) (fun x_ e_ => s_M_workOut G (-1 : Int32) (u.1 3914) u x_ e_) (fun q1051r q1051u e1052 b1053 => ?_)
  refine g_istore_n (lv' := [(0, .ref 39), (1, .int q1051r)]) rfl (Nat.le_of_ble_eq_true rfl) rfl rfl ?_
  refine g_aload_n rfl rfl ?_
  refine g_getI rfl zf_M_149 rfl rfl rfl ?_
  refine g_istore_n (lv' := [(0, .ref 39), (1, .int q1051r), (2, .int (q1051u.1 3914))]) rfl (Nat.le_of_ble_eq_true rfl) rfl rfl ?_
  refine g_aload_n rfl rfl ?_
  refine g_iconst (v := (0 : Int32)) rfl zic_0 ?_
  refine g_put (j := 3914) rfl zf_M_149 rfl rfl zp_11_14.1 (Or.inl zp_11_14.2) rfl ?_
  refine g_aload_n rfl rfl ?_
  refine g_getIx (x := q1051u.1 3920) rfl zf_M_161 rfl rfl rfl rfl ?_
  refine g_iflt rfl (fun c1054 => ?_) (fun c1054 => ?_)
  · refine g_iconst (v := (0 : Int32)) rfl zic_0 ?_
    refine g_istore_n (lv' := [(0, .ref 39), (1, .int q1051r), (2, .int (q1051u.1 3914)), (3, .int (0 : Int32))]) rfl (Nat.le_of_ble_eq_true rfl) rfl rfl ?_
    refine zgo_sub (lv' := [(0, .ref 39), (2, .int (q1051u.1 3914)), (3, .int (0 : Int32))]) (zsubk [0, 2, 3] rfl) ?_
    refine zgo_loop (σ := Int32 × ZSt) (lvf := fun s => [(0, .ref 39), (2, .int (q1051u.1 3914)), (3, .int s.1)]) (uf := (fun s => s.2)) ?_ zfu _
    intro s K' ih he
    refine wb_M_law_22 G (q1051u.1 3914) s.1 s.2 K' ?_ ?_
    · intro c0 v
      exact ih (c0, v)
    · intro c0 v
      rw [he]
      exact zgo_unleaf (wa_M_law_22 G (q1051u.1 3914) v)
  · refine g_bipush (v := (-100 : Int32)) rfl zib_m100 ?_
    refine g_aload_n rfl rfl ?_
    refine g_getIx (x := q1051u.1 3920) rfl zf_M_161 rfl rfl rfl rfl ?_
    refine g_isub rfl ?_
    exact g_iret rfl (Or.inl rfl) rfl
theorem s_M_law (G : ZG) (u : ZSt) (x : Int32 × ZSt) (hx : f_M_law u = some x) : ZSpec G m_M_law 105 [.ref 39] u (zemI x) :=
  ZSpec.go k_M_law (Nat.le_of_ble_eq_true rfl) (w_M_law G u) (tgt := zemI x) (by rw [hx]; rfl)
set_option maxRecDepth 100000 in
set_option maxHeartbeats 4000000 in
theorem w_Council_everything (G : ZG) (u : ZSt) : ZGo G m_Council_everything 1 (f_Council_everything u) (zkP u) 0 [(0, .ref 1)] [] u := by
  unfold f_Council_everything
  refine g_iconst (v := (1 : Int32)) rfl zic_1 ?_
  refine g_aload_n rfl rfl ?_
  refine g_getI rfl zf_Council_31 rfl rfl rfl ?_
  refine g_ishl rfl ?_
  refine g_iconst (v := (1 : Int32)) rfl zic_1 ?_
  refine g_isub rfl ?_
  exact g_iret rfl (Or.inl rfl) rfl
theorem s_Council_everything (G : ZG) (u : ZSt) (x : Int32) (hx : f_Council_everything u = some x) : ZSpec G m_Council_everything 1 [.ref 1] u ((zemP u) x) :=
  ZSpec.go k_Council_everything (Nat.le_of_ble_eq_true rfl) (w_Council_everything G u) (tgt := (zemP u) x) (by rw [hx]; rfl)
set_option maxRecDepth 100000 in
set_option maxHeartbeats 4000000 in
theorem w_Council_isBundle (G : ZG) (a : Int32) (u : ZSt) : ZGo G m_Council_isBundle 2 (f_Council_isBundle a u) (zkP u) 0 [(0, .ref 1), (1, .int a)] [] u := by
  unfold f_Council_isBundle
  refine g_iload_n rfl rfl ?_
  refine g_ifle rfl (fun c1058 => ?_) (fun c1058 => ?_)
  · refine g_iconst (v := (0 : Int32)) rfl zic_0 ?_
    exact g_iret rfl (Or.inr ⟨rfl, Or.inl rfl⟩) rfl
  · refine g_iload_n rfl rfl ?_
    refine g_aload_n rfl rfl ?_
    refine g_callVP (M' := m_Council_everything) (d' := 1) (as := []) (rest := [.int a]) (ci := 3) (o := 1) rfl ml_Council_38 v_Council_everything (by decide) rfl (by decide) rfl rfl rfl (Nat.le_of_ble_eq_true rfl) (fun x_ e_ => s_Council_everything G  u x_ e_) (fun q1059 e1060 b1061 => ?_)
    refine g_icmpgt rfl (fun c1062 => ?_) (fun c1062 => ?_)
    · refine g_iconst (v := (0 : Int32)) rfl zic_0 ?_
      exact g_iret rfl (Or.inr ⟨rfl, Or.inl rfl⟩) rfl
    · refine g_iconst (v := (1 : Int32)) rfl zic_1 ?_
      refine g_goto rfl ?_
      exact g_iret rfl (Or.inr ⟨rfl, Or.inr rfl⟩) rfl
theorem s_Council_isBundle (G : ZG) (a : Int32) (u : ZSt) (x : Int32) (hx : f_Council_isBundle a u = some x) : ZSpec G m_Council_isBundle 2 [.ref 1, .int a] u ((zemP u) x) :=
  ZSpec.go k_Council_isBundle (Nat.le_of_ble_eq_true rfl) (w_Council_isBundle G a u) (tgt := (zemP u) x) (by rw [hx]; rfl)
set_option maxRecDepth 100000 in
set_option maxHeartbeats 4000000 in
theorem w_Council_everybody (G : ZG) (u : ZSt) : ZGo G m_Council_everybody 1 (f_Council_everybody u) (zkP u) 0 [(0, .ref 1)] [] u := by
  unfold f_Council_everybody
  refine g_iconst (v := (1 : Int32)) rfl zic_1 ?_
  refine g_aload_n rfl rfl ?_
  refine g_getI rfl zf_Council_28 rfl rfl rfl ?_
  refine g_ishl rfl ?_
  refine g_iconst (v := (1 : Int32)) rfl zic_1 ?_
  refine g_isub rfl ?_
  exact g_iret rfl (Or.inl rfl) rfl
theorem s_Council_everybody (G : ZG) (u : ZSt) (x : Int32) (hx : f_Council_everybody u = some x) : ZSpec G m_Council_everybody 1 [.ref 1] u ((zemP u) x) :=
  ZSpec.go k_Council_everybody (Nat.le_of_ble_eq_true rfl) (w_Council_everybody G u) (tgt := (zemP u) x) (by rw [hx]; rfl)
set_option maxRecDepth 100000 in
set_option maxHeartbeats 4000000 in
theorem w_Council_isGifts (G : ZG) (a : Int32) (u : ZSt) : ZGo G m_Council_isGifts 2 (f_Council_isGifts a u) (zkP u) 0 [(0, .ref 1), (1, .int a)] [] u := by
  unfold f_Council_isGifts
  refine g_iload_n rfl rfl ?_
  refine g_iflt rfl (fun c1063 => ?_) (fun c1063 => ?_)
  · refine g_iconst (v := (0 : Int32)) rfl zic_0 ?_
    exact g_iret rfl (Or.inr ⟨rfl, Or.inl rfl⟩) rfl
  · refine g_iload_n rfl rfl ?_
    refine g_aload_n rfl rfl ?_
    refine g_callVP (M' := m_Council_everybody) (d' := 1) (as := []) (rest := [.int a]) (ci := 3) (o := 1) rfl ml_Council_42 v_Council_everybody (by decide) rfl (by decide) rfl rfl rfl (Nat.le_of_ble_eq_true rfl) (fun x_ e_ => s_Council_everybody G  u x_ e_) (fun q1064 e1065 b1066 => ?_)
    refine g_icmpgt rfl (fun c1067 => ?_) (fun c1067 => ?_)
    · refine g_iconst (v := (0 : Int32)) rfl zic_0 ?_
      exact g_iret rfl (Or.inr ⟨rfl, Or.inl rfl⟩) rfl
    · refine g_iconst (v := (1 : Int32)) rfl zic_1 ?_
      refine g_goto rfl ?_
      exact g_iret rfl (Or.inr ⟨rfl, Or.inr rfl⟩) rfl
theorem s_Council_isGifts (G : ZG) (a : Int32) (u : ZSt) (x : Int32) (hx : f_Council_isGifts a u = some x) : ZSpec G m_Council_isGifts 2 [.ref 1, .int a] u ((zemP u) x) :=
  ZSpec.go k_Council_isGifts (Nat.le_of_ble_eq_true rfl) (w_Council_isGifts G a u) (tgt := (zemP u) x) (by rw [hx]; rfl)
set_option maxRecDepth 100000 in
set_option maxHeartbeats 4000000 in
theorem w_X_isPut (G : ZG) (a : Int32) (b : Int32) (u : ZSt) : ZGo G m_X_isPut 3 (f_X_isPut a b u) (zkP u) 0 [(0, .ref 0), (1, .int a), (2, .int b)] [] u := by
  unfold f_X_isPut
  refine g_aload_n rfl rfl ?_
  refine g_getR rfl zf_X_10 rfl rfl ?_
  refine g_iload_n rfl rfl ?_
  refine g_callVP (M' := m_Council_isBundle) (d' := 2) (as := [.int a]) (rest := []) (ci := 3) (o := 1) rfl ml_X_187 v_Council_isBundle (by decide) rfl (by decide) rfl rfl rfl (Nat.le_of_ble_eq_true rfl) (fun x_ e_ => s_Council_isBundle G a u x_ e_) (fun q1068 e1069 b1070 => ?_)
  refine g_ifeq rfl (fun c1071 => ?_) (fun c1071 => ?_)
  · refine g_iconst (v := (0 : Int32)) rfl zic_0 ?_
    exact g_iret rfl (Or.inr ⟨rfl, Or.inl rfl⟩) rfl
  · refine g_aload_n rfl rfl ?_
    refine g_getR rfl zf_X_10 rfl rfl ?_
    refine g_iload_n rfl rfl ?_
    refine g_callVP (M' := m_Council_isGifts) (d' := 2) (as := [.int b]) (rest := []) (ci := 3) (o := 1) rfl ml_X_190 v_Council_isGifts (by decide) rfl (by decide) rfl rfl rfl (Nat.le_of_ble_eq_true rfl) (fun x_ e_ => s_Council_isGifts G b u x_ e_) (fun q1072 e1073 b1074 => ?_)
    refine g_ifeq rfl (fun c1075 => ?_) (fun c1075 => ?_)
    · refine g_iconst (v := (0 : Int32)) rfl zic_0 ?_
      exact g_iret rfl (Or.inr ⟨rfl, Or.inl rfl⟩) rfl
    · refine g_iconst (v := (1 : Int32)) rfl zic_1 ?_
      refine g_goto rfl ?_
      exact g_iret rfl (Or.inr ⟨rfl, Or.inr rfl⟩) rfl
theorem s_X_isPut (G : ZG) (a : Int32) (b : Int32) (u : ZSt) (x : Int32) (hx : f_X_isPut a b u = some x) : ZSpec G m_X_isPut 3 [.ref 0, .int a, .int b] u ((zemP u) x) :=
  ZSpec.go k_X_isPut (Nat.le_of_ble_eq_true rfl) (w_X_isPut G a b u) (tgt := (zemP u) x) (by rw [hx]; rfl)
set_option maxRecDepth 100000 in
set_option maxHeartbeats 4000000 in
theorem wb_Council_sumOf_4 (G : ZG) (l1 : Int32) (l2 : Int32) (l3 : Int32) (l4 : Int32) (l5 : Int32) (u : ZSt) (K : ((Int32 × Int32) ⊕ (Int32 × Int32)) → Option (Value × ZSt)) (hb : ∀ (l4 : Int32) (l5 : Int32), ZGo G m_Council_sumOf 2 (K (.inl (l4, l5))) some 4 [(0, .ref 1), (1, .int l1), (2, .int l2), (3, .int l3), (4, .int l4), (5, .int l5)] [] u) (hx : ∀ (l4 : Int32) (l5 : Int32), ZGo G m_Council_sumOf 2 (K (.inr (l4, l5))) some 30 [(4, .int l4)] [] u) : ZGo G m_Council_sumOf 2 (b_Council_sumOf_4 l1 l2 l3 l4 l5 u) K 4 [(0, .ref 1), (1, .int l1), (2, .int l2), (3, .int l3), (4, .int l4), (5, .int l5)] [] u := by
  unfold b_Council_sumOf_4
  refine g_iload rfl rfl ?_
  refine g_aload_n rfl rfl ?_
  refine g_getI rfl zf_Council_31 rfl rfl rfl ?_
  refine g_icmpge rfl (fun c1076 => ?_) (fun c1076 => ?_)
  · exact zgo_sub (zsubk [4] rfl) (zgo_leaf (hx l4 l5))
  · refine g_iload_n rfl rfl ?_
    refine g_iload rfl rfl ?_
    refine g_iushr rfl ?_
    refine g_iconst (v := (1 : Int32)) rfl zic_1 ?_
    refine g_iand rfl ?_
    refine g_ifeq rfl (fun c1077 => ?_) (fun c1077 => ?_)
    · refine g_iinc (v := (1 : Int32)) (lv' := [(0, .ref 1), (1, .int l1), (2, .int l2), (3, .int l3), (4, .int l4), (5, .int (l5 + (1 : Int32)))]) rfl rfl zic_1 (Nat.le_of_ble_eq_true rfl) rfl rfl ?_
      refine g_goto rfl ?_
      exact zgo_sub (zsubk [0, 1, 2, 3, 4, 5] rfl) (zgo_leaf (hb l4 (l5 + (1 : Int32))))
    · refine g_iload rfl rfl ?_
      refine g_aload_n rfl rfl ?_
      refine g_iload_n rfl rfl ?_
      refine g_bipush (v := (100 : Int32)) rfl zib_100 ?_
      refine g_imul rfl ?_
      refine g_bipush (v := (10 : Int32)) rfl zib_10 ?_
      refine g_iload_n rfl rfl ?_
      refine g_imul rfl ?_
      refine g_iadd rfl ?_
      refine g_iload rfl rfl ?_
      refine g_iadd rfl ?_
      refine g_callVP (M' := m_Council_toldAt) (d' := 1) (as := [.int (((l3 * (100 : Int32)) + ((10 : Int32) * l1)) + l5)]) (rest := [.int l4]) (ci := 3) (o := 1) rfl ml_Council_64 v_Council_toldAt (by decide) rfl (by decide) rfl rfl rfl (Nat.le_of_ble_eq_true rfl) (fun x_ e_ => s_Council_toldAt G (((l3 * (100 : Int32)) + ((10 : Int32) * l1)) + l5) u x_ e_) (fun q1078 e1079 b1080 => ?_)
      refine g_iadd rfl ?_
      refine g_istore (lv' := [(0, .ref 1), (1, .int l1), (2, .int l2), (3, .int l3), (4, .int (l4 + q1078)), (5, .int l5)]) rfl (Nat.le_of_ble_eq_true rfl) rfl rfl ?_
      refine g_iinc (v := (1 : Int32)) (lv' := [(0, .ref 1), (1, .int l1), (2, .int l2), (3, .int l3), (4, .int (l4 + q1078)), (5, .int (l5 + (1 : Int32)))]) rfl rfl zic_1 (Nat.le_of_ble_eq_true rfl) rfl rfl ?_
      refine g_goto rfl ?_
      exact zgo_sub (zsubk [0, 1, 2, 3, 4, 5] rfl) (zgo_leaf (hb (l4 + q1078) (l5 + (1 : Int32))))
set_option maxRecDepth 100000 in
set_option maxHeartbeats 4000000 in
theorem wa_Council_sumOf_4 (G : ZG) (l4 : Int32) (u : ZSt) : ZGo G m_Council_sumOf 2 (a_Council_sumOf_4 l4 u) (zkP u) 30 [(4, .int l4)] [] u := by
  unfold a_Council_sumOf_4
  refine g_iload rfl rfl ?_
  exact g_iret rfl (Or.inl rfl) rfl
set_option maxRecDepth 100000 in
set_option maxHeartbeats 4000000 in
theorem w_Council_sumOf (G : ZG) (a : Int32) (b : Int32) (c : Int32) (u : ZSt) : ZGo G m_Council_sumOf 2 (f_Council_sumOf a b c u) (zkP u) 0 [(0, .ref 1), (1, .int a), (2, .int b), (3, .int c)] [] u := by
  unfold f_Council_sumOf
  refine g_iconst (v := (0 : Int32)) rfl zic_0 ?_
  refine g_istore (lv' := [(0, .ref 1), (1, .int a), (2, .int b), (3, .int c), (4, .int (0 : Int32))]) rfl (Nat.le_of_ble_eq_true rfl) rfl rfl ?_
  refine g_iconst (v := (0 : Int32)) rfl zic_0 ?_
  refine g_istore (lv' := [(0, .ref 1), (1, .int a), (2, .int b), (3, .int c), (4, .int (0 : Int32)), (5, .int (0 : Int32))]) rfl (Nat.le_of_ble_eq_true rfl) rfl rfl ?_
  refine zgo_sub (lv' := [(0, .ref 1), (1, .int a), (2, .int b), (3, .int c), (4, .int (0 : Int32)), (5, .int (0 : Int32))]) (zsubk [0, 1, 2, 3, 4, 5] rfl) ?_
  refine zgo_loop (σ := Int32 × Int32) (lvf := fun s => [(0, .ref 1), (1, .int a), (2, .int b), (3, .int c), (4, .int s.1), (5, .int s.2)]) (uf := (fun _ => u)) ?_ zfu _
  intro s K' ih he
  refine wb_Council_sumOf_4 G a b c s.1 s.2 u K' ?_ ?_
  · intro c0 c1
    exact ih (c0, c1)
  · intro c0 c1
    rw [he]
    exact zgo_unleaf (wa_Council_sumOf_4 G c0 u)
theorem s_Council_sumOf (G : ZG) (a : Int32) (b : Int32) (c : Int32) (u : ZSt) (x : Int32) (hx : f_Council_sumOf a b c u = some x) : ZSpec G m_Council_sumOf 2 [.ref 1, .int a, .int b, .int c] u ((zemP u) x) :=
  ZSpec.go k_Council_sumOf (Nat.le_of_ble_eq_true rfl) (w_Council_sumOf G a b c u) (tgt := (zemP u) x) (by rw [hx]; rfl)
set_option maxRecDepth 100000 in
set_option maxHeartbeats 4000000 in
theorem wb_Ballot_weigh_5 (G : ZG) (l1 : Int32) (l2 : Int32) (l3 : Int32) (u : ZSt) (K : ((Int32 × ZSt) ⊕ (Int32 × ZSt)) → Option (Value × ZSt)) (hb : ∀ (l3 : Int32) (u : ZSt), ZGo G m_Ballot_weigh 3 (K (.inl (l3, u))) some 5 [(0, .ref 19), (1, .int l1), (2, .int l2), (3, .int l3)] [] u) (hx : ∀ (l3 : Int32) (u : ZSt), ZGo G m_Ballot_weigh 3 (K (.inr (l3, u))) some 46 [] [] u) : ZGo G m_Ballot_weigh 3 (b_Ballot_weigh_5 l1 l2 l3 u) K 5 [(0, .ref 19), (1, .int l1), (2, .int l2), (3, .int l3)] [] u := by
  unfold b_Ballot_weigh_5
  refine g_iload_n rfl rfl ?_
  refine g_aload_n rfl rfl ?_
  refine g_getR rfl zf_Ballot_18 rfl rfl ?_
  refine g_getI rfl zf_Ballot_30 rfl rfl rfl ?_
  refine g_icmpge rfl (fun c1081 => ?_) (fun c1081 => ?_)
  · exact zgo_sub (zsubk [] rfl) (zgo_leaf (hx l3 u))
  · refine g_iload_n rfl rfl ?_
    refine g_bipush (v := (10 : Int32)) rfl zib_10 ?_
    refine g_icmpge rfl (fun c1082 => ?_) (fun c1082 => ?_)
    · exact zgo_sub (zsubk [] rfl) (zgo_leaf (hx l3 u))
    · refine g_aload_n rfl rfl ?_
      refine g_getR rfl zf_Ballot_9 rfl rfl ?_
      refine g_iload_n rfl rfl ?_
      refine g_aload_n rfl rfl ?_
      refine g_getR rfl zf_Ballot_18 rfl rfl ?_
      refine g_iload_n rfl rfl ?_
      refine g_iload_n rfl rfl ?_
      refine g_iconst (v := (0 : Int32)) rfl zic_0 ?_
      refine g_callVP (M' := m_Council_sumOf) (d' := 2) (as := [.int l3, .int l1, .int (0 : Int32)]) (rest := [.int l3, .ref 20]) (ci := 3) (o := 1) rfl ml_Ballot_56 v_Council_sumOf (by decide) rfl (by decide) rfl rfl rfl (Nat.le_of_ble_eq_true rfl) (fun x_ e_ => s_Council_sumOf G l3 l1 (0 : Int32) u x_ e_) (fun q1083 e1084 b1085 => ?_)
      refine g_iload_n rfl rfl ?_
      refine g_iload_n rfl rfl ?_
      refine g_iushr rfl ?_
      refine g_iconst (v := (1 : Int32)) rfl zic_1 ?_
      refine g_iand rfl ?_
      refine g_iadd rfl ?_
      refine g_iast rfl rfl (fun o1088 => ?_)
      refine g_aload_n rfl rfl ?_
      refine g_dup rfl rfl ?_
      refine g_getIx (x := u.1 1904) rfl zf_Ballot_53 rfl rfl rfl rfl ?_
      refine g_aload_n rfl rfl ?_
      refine g_getR rfl zf_Ballot_9 rfl rfl ?_
      refine g_iload_n rfl rfl ?_
      refine zgo_iald (y := (za u 20 l3.toNatClampNeg (q1083 + ((zushr l2 l3) &&& (1 : Int32)))).2.1 20 l3.toNatClampNeg) rfl rfl rfl (fun o1087 => ?_)
      refine g_ifle rfl (fun c1086 => ?_) (fun c1086 => ?_)
      · refine g_iconst (v := (0 : Int32)) rfl zic_0 ?_
        refine g_ior rfl ?_
        refine g_put (j := 1904) rfl zf_Ballot_53 rfl rfl zp_0_4.1 (Or.inl zp_0_4.2) rfl ?_
        refine g_iinc (v := (1 : Int32)) (lv' := [(0, .ref 19), (1, .int l1), (2, .int l2), (3, .int (l3 + (1 : Int32)))]) rfl rfl zic_1 (Nat.le_of_ble_eq_true rfl) rfl rfl ?_
        refine g_goto rfl ?_
        exact zgo_sub (zsubk [0, 1, 2, 3] rfl) (zgo_leaf (hb (l3 + (1 : Int32)) (zs (za u 20 l3.toNatClampNeg (q1083 + ((zushr l2 l3) &&& (1 : Int32)))) 1904 ((u.1 1904) ||| (0 : Int32)))))
      · refine g_iconst (v := (1 : Int32)) rfl zic_1 ?_
        refine g_iload_n rfl rfl ?_
        refine g_ishl rfl ?_
        refine g_goto rfl ?_
        refine g_ior rfl ?_
        refine g_put (j := 1904) rfl zf_Ballot_53 rfl rfl zp_0_4.1 (Or.inl zp_0_4.2) rfl ?_
        refine g_iinc (v := (1 : Int32)) (lv' := [(0, .ref 19), (1, .int l1), (2, .int l2), (3, .int (l3 + (1 : Int32)))]) rfl rfl zic_1 (Nat.le_of_ble_eq_true rfl) rfl rfl ?_
        refine g_goto rfl ?_
        exact zgo_sub (zsubk [0, 1, 2, 3] rfl) (zgo_leaf (hb (l3 + (1 : Int32)) (zs (za u 20 l3.toNatClampNeg (q1083 + ((zushr l2 l3) &&& (1 : Int32)))) 1904 ((u.1 1904) ||| ((1 : Int32) <<< (l3 &&& 31))))))
set_option maxRecDepth 100000 in
set_option maxHeartbeats 4000000 in
theorem wa_Ballot_weigh_5 (G : ZG) (u : ZSt) : ZGo G m_Ballot_weigh 3 (a_Ballot_weigh_5 u) zkV 46 [] [] u := by
  unfold a_Ballot_weigh_5
  exact g_vret rfl rfl rfl
set_option maxRecDepth 100000 in
set_option maxHeartbeats 4000000 in
theorem w_Ballot_weigh (G : ZG) (a : Int32) (b : Int32) (u : ZSt) : ZGo G m_Ballot_weigh 3 (f_Ballot_weigh a b u) zkV 0 [(0, .ref 19), (1, .int a), (2, .int b)] [] u := by
  unfold f_Ballot_weigh
  refine g_aload_n rfl rfl ?_
  refine g_iconst (v := (0 : Int32)) rfl zic_0 ?_
  refine g_put (j := 1904) rfl zf_Ballot_53 rfl rfl zp_0_4.1 (Or.inl zp_0_4.2) rfl ?_
  refine g_iconst (v := (0 : Int32)) rfl zic_0 ?_
  refine g_istore_n (lv' := [(0, .ref 19), (1, .int a), (2, .int b), (3, .int (0 : Int32))]) rfl (Nat.le_of_ble_eq_true rfl) rfl rfl ?_
  refine zgo_sub (lv' := [(0, .ref 19), (1, .int a), (2, .int b), (3, .int (0 : Int32))]) (zsubk [0, 1, 2, 3] rfl) ?_
  refine zgo_loop (σ := Int32 × ZSt) (lvf := fun s => [(0, .ref 19), (1, .int a), (2, .int b), (3, .int s.1)]) (uf := (fun s => s.2)) ?_ zfu _
  intro s K' ih he
  refine wb_Ballot_weigh_5 G a b s.1 s.2 K' ?_ ?_
  · intro c0 v
    exact ih (c0, v)
  · intro c0 v
    rw [he]
    exact zgo_unleaf (wa_Ballot_weigh_5 G  v)
theorem s_Ballot_weigh (G : ZG) (a : Int32) (b : Int32) (u : ZSt) (x : ZSt) (hx : f_Ballot_weigh a b u = some x) : ZSpec G m_Ballot_weigh 3 [.ref 19, .int a, .int b] u (zemV x) :=
  ZSpec.go k_Ballot_weigh (Nat.le_of_ble_eq_true rfl) (w_Ballot_weigh G a b u) (tgt := zemV x) (by rw [hx]; rfl)
set_option maxRecDepth 100000 in
set_option maxHeartbeats 4000000 in
theorem w_Code_isEmptyT (G : ZG) (u : ZSt) : ZGo G m_Code_isEmpty 1 (f_Code_isEmptyT u) (zkP u) 0 [(0, .ref 15)] [] u := by
  unfold f_Code_isEmptyT
  refine g_aload_n rfl rfl ?_
  refine g_getI rfl zf_Code_19 rfl rfl rfl ?_
  refine g_ifne rfl (fun c1089 => ?_) (fun c1089 => ?_)
  · refine g_iconst (v := (0 : Int32)) rfl zic_0 ?_
    exact g_iret rfl (Or.inr ⟨rfl, Or.inl rfl⟩) rfl
  · refine g_iconst (v := (1 : Int32)) rfl zic_1 ?_
    refine g_goto rfl ?_
    exact g_iret rfl (Or.inr ⟨rfl, Or.inr rfl⟩) rfl
theorem s_Code_isEmptyT (G : ZG) (u : ZSt) (x : Int32) (hx : f_Code_isEmptyT u = some x) : ZSpec G m_Code_isEmpty 1 [.ref 15] u ((zemP u) x) :=
  ZSpec.go k_Code_isEmpty (Nat.le_of_ble_eq_true rfl) (w_Code_isEmptyT G u) (tgt := (zemP u) x) (by rw [hx]; rfl)
set_option maxRecDepth 100000 in
set_option maxHeartbeats 4000000 in
theorem wb_Ballot_nearOf_4 (G : ZG) (l1 : Int32) (l2 : Int32) (l3 : Int32) (u : ZSt) (K : ((Int32 × Int32) ⊕ (Int32 × Int32)) → Option (Value × ZSt)) (hb : ∀ (l2 : Int32) (l3 : Int32), ZGo G m_Ballot_nearOf 2 (K (.inl (l2, l3))) some 4 [(0, .ref 19), (1, .int l1), (2, .int l2), (3, .int l3)] [] u) (hx : ∀ (l2 : Int32) (l3 : Int32), ZGo G m_Ballot_nearOf 2 (K (.inr (l2, l3))) some 29 [(2, .int l2)] [] u) : ZGo G m_Ballot_nearOf 2 (b_Ballot_nearOf_4 l1 l2 l3 u) K 4 [(0, .ref 19), (1, .int l1), (2, .int l2), (3, .int l3)] [] u := by
  unfold b_Ballot_nearOf_4
  refine g_iload_n rfl rfl ?_
  refine g_aload_n rfl rfl ?_
  refine g_getR rfl zf_Ballot_18 rfl rfl ?_
  refine g_getI rfl zf_Ballot_30 rfl rfl rfl ?_
  refine g_icmpge rfl (fun c1090 => ?_) (fun c1090 => ?_)
  · exact zgo_sub (zsubk [2] rfl) (zgo_leaf (hx l2 l3))
  · refine g_iload_n rfl rfl ?_
    refine g_iload_n rfl rfl ?_
    refine g_icmpeq rfl (fun c1091 => ?_) (fun c1091 => ?_)
    · refine g_iinc (v := (1 : Int32)) (lv' := [(0, .ref 19), (1, .int l1), (2, .int l2), (3, .int (l3 + (1 : Int32)))]) rfl rfl zic_1 (Nat.le_of_ble_eq_true rfl) rfl rfl ?_
      refine g_goto rfl ?_
      exact zgo_sub (zsubk [0, 1, 2, 3] rfl) (zgo_leaf (hb l2 (l3 + (1 : Int32))))
    · refine g_aload_n rfl rfl ?_
      refine g_getI rfl zf_Ballot_53 rfl rfl rfl ?_
      refine g_iload_n rfl rfl ?_
      refine g_iushr rfl ?_
      refine g_iconst (v := (1 : Int32)) rfl zic_1 ?_
      refine g_iand rfl ?_
      refine g_ifeq rfl (fun c1092 => ?_) (fun c1092 => ?_)
      · refine g_iinc (v := (1 : Int32)) (lv' := [(0, .ref 19), (1, .int l1), (2, .int l2), (3, .int (l3 + (1 : Int32)))]) rfl rfl zic_1 (Nat.le_of_ble_eq_true rfl) rfl rfl ?_
        refine g_goto rfl ?_
        exact zgo_sub (zsubk [0, 1, 2, 3] rfl) (zgo_leaf (hb l2 (l3 + (1 : Int32))))
      · refine g_iload_n rfl rfl ?_
        refine g_aload_n rfl rfl ?_
        refine g_getR rfl zf_Ballot_18 rfl rfl ?_
        refine g_iload_n rfl rfl ?_
        refine g_iload_n rfl rfl ?_
        refine g_callVP (M' := m_Council_stepsOf) (d' := 1) (as := [.int l1, .int l3]) (rest := [.int l2]) (ci := 3) (o := 1) rfl ml_Ballot_73 v_Council_stepsOf (by decide) rfl (by decide) rfl rfl rfl (Nat.le_of_ble_eq_true rfl) (fun x_ e_ => s_Council_stepsOf G l1 l3 u x_ e_) (fun q1093 e1094 b1095 => ?_)
        refine g_mmin rfl ml_Ballot_77 (by decide) (Nat.le_of_ble_eq_true rfl) ?_
        refine g_istore_n (lv' := [(0, .ref 19), (1, .int l1), (2, .int (zmin l2 q1093)), (3, .int l3)]) rfl (Nat.le_of_ble_eq_true rfl) rfl rfl ?_
        refine g_iinc (v := (1 : Int32)) (lv' := [(0, .ref 19), (1, .int l1), (2, .int (zmin l2 q1093)), (3, .int (l3 + (1 : Int32)))]) rfl rfl zic_1 (Nat.le_of_ble_eq_true rfl) rfl rfl ?_
        refine g_goto rfl ?_
        exact zgo_sub (zsubk [0, 1, 2, 3] rfl) (zgo_leaf (hb (zmin l2 q1093) (l3 + (1 : Int32))))
set_option maxRecDepth 100000 in
set_option maxHeartbeats 4000000 in
theorem wa_Ballot_nearOf_4 (G : ZG) (l2 : Int32) (u : ZSt) : ZGo G m_Ballot_nearOf 2 (a_Ballot_nearOf_4 l2 u) (zkP u) 29 [(2, .int l2)] [] u := by
  unfold a_Ballot_nearOf_4
  refine g_iload_n rfl rfl ?_
  exact g_iret rfl (Or.inl rfl) rfl
set_option maxRecDepth 100000 in
set_option maxHeartbeats 4000000 in
theorem w_Ballot_nearOf (G : ZG) (a : Int32) (u : ZSt) : ZGo G m_Ballot_nearOf 2 (f_Ballot_nearOf a u) (zkP u) 0 [(0, .ref 19), (1, .int a)] [] u := by
  unfold f_Ballot_nearOf
  refine g_bipush (v := (9 : Int32)) rfl zib_9 ?_
  refine g_istore_n (lv' := [(0, .ref 19), (1, .int a), (2, .int (9 : Int32))]) rfl (Nat.le_of_ble_eq_true rfl) rfl rfl ?_
  refine g_iconst (v := (0 : Int32)) rfl zic_0 ?_
  refine g_istore_n (lv' := [(0, .ref 19), (1, .int a), (2, .int (9 : Int32)), (3, .int (0 : Int32))]) rfl (Nat.le_of_ble_eq_true rfl) rfl rfl ?_
  refine zgo_sub (lv' := [(0, .ref 19), (1, .int a), (2, .int (9 : Int32)), (3, .int (0 : Int32))]) (zsubk [0, 1, 2, 3] rfl) ?_
  refine zgo_loop (σ := Int32 × Int32) (lvf := fun s => [(0, .ref 19), (1, .int a), (2, .int s.1), (3, .int s.2)]) (uf := (fun _ => u)) ?_ zfu _
  intro s K' ih he
  refine wb_Ballot_nearOf_4 G a s.1 s.2 u K' ?_ ?_
  · intro c0 c1
    exact ih (c0, c1)
  · intro c0 c1
    rw [he]
    exact zgo_unleaf (wa_Ballot_nearOf_4 G c0 u)
theorem s_Ballot_nearOf (G : ZG) (a : Int32) (u : ZSt) (x : Int32) (hx : f_Ballot_nearOf a u = some x) : ZSpec G m_Ballot_nearOf 2 [.ref 19, .int a] u ((zemP u) x) :=
  ZSpec.go k_Ballot_nearOf (Nat.le_of_ble_eq_true rfl) (w_Ballot_nearOf G a u) (tgt := (zemP u) x) (by rw [hx]; rfl)
set_option maxRecDepth 100000 in
set_option maxHeartbeats 4000000 in
theorem w_Ballot_isFree (G : ZG) (a : Int32) (b : Int32) (u : ZSt) : ZGo G m_Ballot_isFree 3 (f_Ballot_isFree a b u) (zkP u) 0 [(0, .ref 19), (1, .int a), (2, .int b)] [] u := by
  unfold f_Ballot_isFree
  refine g_aload_n rfl rfl ?_
  refine g_getI rfl zf_Ballot_53 rfl rfl rfl ?_
  refine g_iload_n rfl rfl ?_
  refine g_iushr rfl ?_
  refine g_iconst (v := (1 : Int32)) rfl zic_1 ?_
  refine g_iand rfl ?_
  refine g_ifne rfl (fun c1096 => ?_) (fun c1096 => ?_)
  · refine g_iconst (v := (0 : Int32)) rfl zic_0 ?_
    exact g_iret rfl (Or.inr ⟨rfl, Or.inl rfl⟩) rfl
  · refine g_aload_n rfl rfl ?_
    refine g_iload_n rfl rfl ?_
    refine g_callVP (M' := m_Ballot_nearOf) (d' := 2) (as := [.int a]) (rest := []) (ci := 0) (o := 19) rfl ml_Ballot_60 v_Ballot_nearOf (by decide) rfl (by decide) rfl rfl rfl (Nat.le_of_ble_eq_true rfl) (fun x_ e_ => s_Ballot_nearOf G a u x_ e_) (fun q1097 e1098 b1099 => ?_)
    refine g_iload_n rfl rfl ?_
    refine g_icmple rfl (fun c1100 => ?_) (fun c1100 => ?_)
    · refine g_iconst (v := (0 : Int32)) rfl zic_0 ?_
      exact g_iret rfl (Or.inr ⟨rfl, Or.inl rfl⟩) rfl
    · refine g_iconst (v := (1 : Int32)) rfl zic_1 ?_
      refine g_goto rfl ?_
      exact g_iret rfl (Or.inr ⟨rfl, Or.inr rfl⟩) rfl
theorem s_Ballot_isFree (G : ZG) (a : Int32) (b : Int32) (u : ZSt) (x : Int32) (hx : f_Ballot_isFree a b u = some x) : ZSpec G m_Ballot_isFree 3 [.ref 19, .int a, .int b] u ((zemP u) x) :=
  ZSpec.go k_Ballot_isFree (Nat.le_of_ble_eq_true rfl) (w_Ballot_isFree G a b u) (tgt := (zemP u) x) (by rw [hx]; rfl)
set_option maxRecDepth 100000 in
set_option maxHeartbeats 4000000 in
theorem w_Int_bitCount (G : ZG) (a : Int32) (u : ZSt) : ZGo G m_Int_bitCount 1 (f_Int_bitCount a) (zkP u) 0 [(0, .int a)] [] u := by
  unfold f_Int_bitCount
  refine g_iload_n rfl rfl ?_
  refine g_iload_n rfl rfl ?_
  refine g_iconst (v := (1 : Int32)) rfl zic_1 ?_
  refine g_iushr rfl ?_
  refine g_ldc_w rfl zk_Int_265 ?_
  refine g_iand rfl ?_
  refine g_isub rfl ?_
  refine g_istore_n (lv' := [(0, .int (a - ((zushr a (1 : Int32)) &&& (1431655765 : Int32))))]) rfl (Nat.le_of_ble_eq_true rfl) rfl rfl ?_
  refine g_iload_n rfl rfl ?_
  refine g_ldc_w rfl zk_Int_266 ?_
  refine g_iand rfl ?_
  refine g_iload_n rfl rfl ?_
  refine g_iconst (v := (2 : Int32)) rfl zic_2 ?_
  refine g_iushr rfl ?_
  refine g_ldc_w rfl zk_Int_266 ?_
  refine g_iand rfl ?_
  refine g_iadd rfl ?_
  refine g_istore_n (lv' := [(0, .int (((a - ((zushr a (1 : Int32)) &&& (1431655765 : Int32))) &&& (858993459 : Int32)) + ((zushr (a - ((zushr a (1 : Int32)) &&& (1431655765 : Int32))) (2 : Int32)) &&& (858993459 : Int32))))]) rfl (Nat.le_of_ble_eq_true rfl) rfl rfl ?_
  refine g_iload_n rfl rfl ?_
  refine g_iload_n rfl rfl ?_
  refine g_iconst (v := (4 : Int32)) rfl zic_4 ?_
  refine g_iushr rfl ?_
  refine g_iadd rfl ?_
  refine g_ldc_w rfl zk_Int_267 ?_
  refine g_iand rfl ?_
  refine g_istore_n (lv' := [(0, .int (((((a - ((zushr a (1 : Int32)) &&& (1431655765 : Int32))) &&& (858993459 : Int32)) + ((zushr (a - ((zushr a (1 : Int32)) &&& (1431655765 : Int32))) (2 : Int32)) &&& (858993459 : Int32))) + (zushr (((a - ((zushr a (1 : Int32)) &&& (1431655765 : Int32))) &&& (858993459 : Int32)) + ((zushr (a - ((zushr a (1 : Int32)) &&& (1431655765 : Int32))) (2 : Int32)) &&& (858993459 : Int32))) (4 : Int32))) &&& (252645135 : Int32)))]) rfl (Nat.le_of_ble_eq_true rfl) rfl rfl ?_
  refine g_iload_n rfl rfl ?_
  refine g_iload_n rfl rfl ?_
  refine g_bipush (v := (8 : Int32)) rfl zib_8 ?_
  refine g_iushr rfl ?_
  refine g_iadd rfl ?_
  refine g_istore_n (lv' := [(0, .int ((((((a - ((zushr a (1 : Int32)) &&& (1431655765 : Int32))) &&& (858993459 : Int32)) + ((zushr (a - ((zushr a (1 : Int32)) &&& (1431655765 : Int32))) (2 : Int32)) &&& (858993459 : Int32))) + (zushr (((a - ((zushr a (1 : Int32)) &&& (1431655765 : Int32))) &&& (858993459 : Int32)) + ((zushr (a - ((zushr a (1 : Int32)) &&& (1431655765 : Int32))) (2 : Int32)) &&& (858993459 : Int32))) (4 : Int32))) &&& (252645135 : Int32)) + (zushr (((((a - ((zushr a (1 : Int32)) &&& (1431655765 : Int32))) &&& (858993459 : Int32)) + ((zushr (a - ((zushr a (1 : Int32)) &&& (1431655765 : Int32))) (2 : Int32)) &&& (858993459 : Int32))) + (zushr (((a - ((zushr a (1 : Int32)) &&& (1431655765 : Int32))) &&& (858993459 : Int32)) + ((zushr (a - ((zushr a (1 : Int32)) &&& (1431655765 : Int32))) (2 : Int32)) &&& (858993459 : Int32))) (4 : Int32))) &&& (252645135 : Int32)) (8 : Int32))))]) rfl (Nat.le_of_ble_eq_true rfl) rfl rfl ?_
  refine g_iload_n rfl rfl ?_
  refine g_iload_n rfl rfl ?_
  refine g_bipush (v := (16 : Int32)) rfl zib_16 ?_
  refine g_iushr rfl ?_
  refine g_iadd rfl ?_
  refine g_istore_n (lv' := [(0, .int (((((((a - ((zushr a (1 : Int32)) &&& (1431655765 : Int32))) &&& (858993459 : Int32)) + ((zushr (a - ((zushr a (1 : Int32)) &&& (1431655765 : Int32))) (2 : Int32)) &&& (858993459 : Int32))) + (zushr (((a - ((zushr a (1 : Int32)) &&& (1431655765 : Int32))) &&& (858993459 : Int32)) + ((zushr (a - ((zushr a (1 : Int32)) &&& (1431655765 : Int32))) (2 : Int32)) &&& (858993459 : Int32))) (4 : Int32))) &&& (252645135 : Int32)) + (zushr (((((a - ((zushr a (1 : Int32)) &&& (1431655765 : Int32))) &&& (858993459 : Int32)) + ((zushr (a - ((zushr a (1 : Int32)) &&& (1431655765 : Int32))) (2 : Int32)) &&& (858993459 : Int32))) + (zushr (((a - ((zushr a (1 : Int32)) &&& (1431655765 : Int32))) &&& (858993459 : Int32)) + ((zushr (a - ((zushr a (1 : Int32)) &&& (1431655765 : Int32))) (2 : Int32)) &&& (858993459 : Int32))) (4 : Int32))) &&& (252645135 : Int32)) (8 : Int32))) + (zushr ((((((a - ((zushr a (1 : Int32)) &&& (1431655765 : Int32))) &&& (858993459 : Int32)) + ((zushr (a - ((zushr a (1 : Int32)) &&& (1431655765 : Int32))) (2 : Int32)) &&& (858993459 : Int32))) + (zushr (((a - ((zushr a (1 : Int32)) &&& (1431655765 : Int32))) &&& (858993459 : Int32)) + ((zushr (a - ((zushr a (1 : Int32)) &&& (1431655765 : Int32))) (2 : Int32)) &&& (858993459 : Int32))) (4 : Int32))) &&& (252645135 : Int32)) + (zushr (((((a - ((zushr a (1 : Int32)) &&& (1431655765 : Int32))) &&& (858993459 : Int32)) + ((zushr (a - ((zushr a (1 : Int32)) &&& (1431655765 : Int32))) (2 : Int32)) &&& (858993459 : Int32))) + (zushr (((a - ((zushr a (1 : Int32)) &&& (1431655765 : Int32))) &&& (858993459 : Int32)) + ((zushr (a - ((zushr a (1 : Int32)) &&& (1431655765 : Int32))) (2 : Int32)) &&& (858993459 : Int32))) (4 : Int32))) &&& (252645135 : Int32)) (8 : Int32))) (16 : Int32))))]) rfl (Nat.le_of_ble_eq_true rfl) rfl rfl ?_
  refine g_iload_n rfl rfl ?_
  refine g_bipush (v := (63 : Int32)) rfl zib_63 ?_
  refine g_iand rfl ?_
  exact g_iret rfl (Or.inl rfl) rfl
theorem s_Int_bitCount (G : ZG) (a : Int32) (u : ZSt) (x : Int32) (hx : f_Int_bitCount a = some x) : ZSpec G m_Int_bitCount 1 [.int a] u ((zemP u) x) :=
  ZSpec.go k_Int_bitCount (Nat.le_of_ble_eq_true rfl) (w_Int_bitCount G a u) (tgt := (zemP u) x) (by rw [hx]; rfl)
set_option maxRecDepth 100000 in
set_option maxHeartbeats 4000000 in
theorem w_Code_named (G : ZG) (a : Int32) (u : ZSt) : ZGo G m_Code_named 1 (f_Code_named a u) (zkP u) 0 [(0, .ref 21), (1, .int a)] [] u := by
  unfold f_Code_named
  refine g_iload_n rfl rfl ?_
  refine g_iflt rfl (fun c1101 => ?_) (fun c1101 => ?_)
  · refine g_iconst (v := (0 : Int32)) rfl zic_0 ?_
    exact g_iret rfl (Or.inl rfl) rfl
  · refine g_iload_n rfl rfl ?_
    refine g_aload_n rfl rfl ?_
    refine g_alen (v := (6 : Int32)) rfl rfl rfl ?_
    refine g_icmpge rfl (fun c1102 => ?_) (fun c1102 => ?_)
    · refine g_iconst (v := (0 : Int32)) rfl zic_0 ?_
      exact g_iret rfl (Or.inl rfl) rfl
    · refine g_aload_n rfl rfl ?_
      refine g_iload_n rfl rfl ?_
      refine g_iald rfl rfl (fun o1103 => ?_)
      refine g_goto rfl ?_
      exact g_iret rfl (Or.inl rfl) rfl
theorem s_Code_named (G : ZG) (a : Int32) (u : ZSt) (x : Int32) (hx : f_Code_named a u = some x) : ZSpec G m_Code_named 1 [.ref 21, .int a] u ((zemP u) x) :=
  ZSpec.go k_Code_named (Nat.le_of_ble_eq_true rfl) (w_Code_named G a u) (tgt := (zemP u) x) (by rw [hx]; rfl)
set_option maxRecDepth 100000 in
set_option maxHeartbeats 4000000 in
theorem w_Code_needOf (G : ZG) (a : Int32) (u : ZSt) : ZGo G m_Code_needOf 1 (f_Code_needOf a) (zkP u) 0 [(0, .int a)] [] u := by
  unfold f_Code_needOf
  refine g_iload_n rfl rfl ?_
  refine g_bipush (v := (59 : Int32)) rfl zib_59 ?_
  refine g_icmpeq rfl (fun c1104 => ?_) (fun c1104 => ?_)
  · refine g_iconst (v := (1 : Int32)) rfl zic_1 ?_
    refine g_goto rfl ?_
    exact g_iret rfl (Or.inl rfl) rfl
  · refine g_iload_n rfl rfl ?_
    refine g_bipush (v := (33 : Int32)) rfl zib_33 ?_
    refine g_icmpeq rfl (fun c1105 => ?_) (fun c1105 => ?_)
    · refine g_iconst (v := (1 : Int32)) rfl zic_1 ?_
      refine g_goto rfl ?_
      exact g_iret rfl (Or.inl rfl) rfl
    · refine g_iload_n rfl rfl ?_
      refine g_bipush (v := (126 : Int32)) rfl zib_126 ?_
      refine g_icmpne rfl (fun c1106 => ?_) (fun c1106 => ?_)
      · refine g_iconst (v := (2 : Int32)) rfl zic_2 ?_
        exact g_iret rfl (Or.inl rfl) rfl
      · refine g_iconst (v := (1 : Int32)) rfl zic_1 ?_
        refine g_goto rfl ?_
        exact g_iret rfl (Or.inl rfl) rfl
theorem s_Code_needOf (G : ZG) (a : Int32) (u : ZSt) (x : Int32) (hx : f_Code_needOf a = some x) : ZSpec G m_Code_needOf 1 [.int a] u ((zemP u) x) :=
  ZSpec.go k_Code_needOf (Nat.le_of_ble_eq_true rfl) (w_Code_needOf G a u) (tgt := (zemP u) x) (by rw [hx]; rfl)
set_option maxRecDepth 100000 in
set_option maxHeartbeats 4000000 in
theorem w_Code_joined (G : ZG) (a : Int32) (b : Int32) (c : Int32) (u : ZSt) : ZGo G m_Code_joined 1 (f_Code_joined a b c) (zkP u) 0 [(0, .int a), (1, .int b), (2, .int c)] [] u := by
  unfold f_Code_joined
  refine g_iload_n rfl rfl ?_
  refine zgo_ite (fun c1107 => ?_) (fun c1107 => ?_)
  · refine g_lswI rfl (by decide +kernel) c1107 (off := 176) (by decide +kernel) 59 rfl ?_
    refine g_iload_n rfl rfl ?_
    refine g_ifne rfl (fun c1108 => ?_) (fun c1108 => ?_)
    · refine g_iload_n rfl rfl ?_
      refine g_iload_n rfl rfl ?_
      refine g_irem rfl c1108 ?_
      exact g_iret rfl (Or.inl rfl) rfl
    · refine g_iconst (v := (0 : Int32)) rfl zic_0 ?_
      refine g_goto rfl ?_
      exact g_iret rfl (Or.inl rfl) rfl
  · refine zgo_ite (fun c1109 => ?_) (fun c1109 => ?_)
    · refine g_lswI rfl (by decide +kernel) c1109 (off := 105) (by decide +kernel) 10 rfl ?_
      refine g_iload_n rfl rfl ?_
      refine g_ifeq rfl (fun c1110 => ?_) (fun c1110 => ?_)
      · refine g_iconst (v := (0 : Int32)) rfl zic_0 ?_
        exact g_iret rfl (Or.inl rfl) rfl
      · refine g_iload_n rfl rfl ?_
        refine g_ifeq rfl (fun c1111 => ?_) (fun c1111 => ?_)
        · refine g_iconst (v := (0 : Int32)) rfl zic_0 ?_
          exact g_iret rfl (Or.inl rfl) rfl
        · refine g_iconst (v := (1 : Int32)) rfl zic_1 ?_
          refine g_goto rfl ?_
          exact g_iret rfl (Or.inl rfl) rfl
    · refine zgo_ite (fun c1112 => ?_) (fun c1112 => ?_)
      · refine g_lswI rfl (by decide +kernel) c1112 (off := 160) (by decide +kernel) 47 rfl ?_
        refine g_iload_n rfl rfl ?_
        refine g_iload_n rfl rfl ?_
        refine g_imul rfl ?_
        exact g_iret rfl (Or.inl rfl) rfl
      · refine zgo_ite (fun c1113 => ?_) (fun c1113 => ?_)
        · refine g_lswI rfl (by decide +kernel) c1113 (off := 152) (by decide +kernel) 39 rfl ?_
          refine g_iload_n rfl rfl ?_
          refine g_iload_n rfl rfl ?_
          refine g_iadd rfl ?_
          exact g_iret rfl (Or.inl rfl) rfl
        · refine zgo_ite (fun c1114 => ?_) (fun c1114 => ?_)
          · refine g_lswI rfl (by decide +kernel) c1114 (off := 156) (by decide +kernel) 43 rfl ?_
            refine g_iload_n rfl rfl ?_
            refine g_iload_n rfl rfl ?_
            refine g_isub rfl ?_
            exact g_iret rfl (Or.inl rfl) rfl
          · refine zgo_ite (fun c1115 => ?_) (fun c1115 => ?_)
            · refine g_lswI rfl (by decide +kernel) c1115 (off := 164) (by decide +kernel) 51 rfl ?_
              refine g_iload_n rfl rfl ?_
              refine g_ifne rfl (fun c1116 => ?_) (fun c1116 => ?_)
              · refine g_iload_n rfl rfl ?_
                refine g_iload_n rfl rfl ?_
                refine g_idiv rfl c1116 ?_
                exact g_iret rfl (Or.inl rfl) rfl
              · refine g_iconst (v := (0 : Int32)) rfl zic_0 ?_
                refine g_goto rfl ?_
                exact g_iret rfl (Or.inl rfl) rfl
            · refine zgo_ite (fun c1117 => ?_) (fun c1117 => ?_)
              · refine g_lswI rfl (by decide +kernel) c1117 (off := 119) (by decide +kernel) 18 rfl ?_
                refine g_iload_n rfl rfl ?_
                refine g_iload_n rfl rfl ?_
                refine g_icmpge rfl (fun c1118 => ?_) (fun c1118 => ?_)
                · refine g_iconst (v := (0 : Int32)) rfl zic_0 ?_
                  exact g_iret rfl (Or.inl rfl) rfl
                · refine g_iconst (v := (1 : Int32)) rfl zic_1 ?_
                  refine g_goto rfl ?_
                  exact g_iret rfl (Or.inl rfl) rfl
              · refine zgo_ite (fun c1119 => ?_) (fun c1119 => ?_)
                · refine g_lswI rfl (by decide +kernel) c1119 (off := 130) (by decide +kernel) 25 rfl ?_
                  refine g_iload_n rfl rfl ?_
                  refine g_iload_n rfl rfl ?_
                  refine g_icmpne rfl (fun c1120 => ?_) (fun c1120 => ?_)
                  · refine g_iconst (v := (0 : Int32)) rfl zic_0 ?_
                    exact g_iret rfl (Or.inl rfl) rfl
                  · refine g_iconst (v := (1 : Int32)) rfl zic_1 ?_
                    refine g_goto rfl ?_
                    exact g_iret rfl (Or.inl rfl) rfl
                · refine zgo_ite (fun c1121 => ?_) (fun c1121 => ?_)
                  · refine g_lswI rfl (by decide +kernel) c1121 (off := 141) (by decide +kernel) 32 rfl ?_
                    refine g_iload_n rfl rfl ?_
                    refine g_iload_n rfl rfl ?_
                    refine g_icmple rfl (fun c1122 => ?_) (fun c1122 => ?_)
                    · refine g_iconst (v := (0 : Int32)) rfl zic_0 ?_
                      exact g_iret rfl (Or.inl rfl) rfl
                    · refine g_iconst (v := (1 : Int32)) rfl zic_1 ?_
                      refine g_goto rfl ?_
                      exact g_iret rfl (Or.inl rfl) rfl
                  · refine zgo_ite (fun c1123 => ?_) (fun c1123 => ?_)
                    · refine g_lswI rfl (by decide +kernel) c1123 (off := 91) (by decide +kernel) 2 rfl ?_
                      refine g_iload_n rfl rfl ?_
                      refine g_ifne rfl (fun c1124 => ?_) (fun c1124 => ?_)
                      · refine g_iconst (v := (1 : Int32)) rfl zic_1 ?_
                        refine g_goto rfl ?_
                        exact g_iret rfl (Or.inl rfl) rfl
                      · refine g_iload_n rfl rfl ?_
                        refine g_ifeq rfl (fun c1125 => ?_) (fun c1125 => ?_)
                        · refine g_iconst (v := (0 : Int32)) rfl zic_0 ?_
                          exact g_iret rfl (Or.inl rfl) rfl
                        · refine g_iconst (v := (1 : Int32)) rfl zic_1 ?_
                          refine g_goto rfl ?_
                          exact g_iret rfl (Or.inl rfl) rfl
                    · refine g_lswD rfl (by decide +kernel) (List.forall_mem_cons.mpr ⟨z_ne c1107 rfl, (List.forall_mem_cons.mpr ⟨z_ne c1109 rfl, (List.forall_mem_cons.mpr ⟨z_ne c1112 rfl, (List.forall_mem_cons.mpr ⟨z_ne c1113 rfl, (List.forall_mem_cons.mpr ⟨z_ne c1114 rfl, (List.forall_mem_cons.mpr ⟨z_ne c1115 rfl, (List.forall_mem_cons.mpr ⟨z_ne c1117 rfl, (List.forall_mem_cons.mpr ⟨z_ne c1119 rfl, (List.forall_mem_cons.mpr ⟨z_ne c1121 rfl, (List.forall_mem_cons.mpr ⟨z_ne c1123 rfl, (fun _ h => absurd h List.not_mem_nil)⟩)⟩)⟩)⟩)⟩)⟩)⟩)⟩)⟩)⟩) 67 rfl ?_
                      refine g_iconst (v := (0 : Int32)) rfl zic_0 ?_
                      exact g_iret rfl (Or.inl rfl) rfl
theorem s_Code_joined (G : ZG) (a : Int32) (b : Int32) (c : Int32) (u : ZSt) (x : Int32) (hx : f_Code_joined a b c = some x) : ZSpec G m_Code_joined 1 [.int a, .int b, .int c] u ((zemP u) x) :=
  ZSpec.go k_Code_joined (Nat.le_of_ble_eq_true rfl) (w_Code_joined G a b c u) (tgt := (zemP u) x) (by rw [hx]; rfl)
set_option maxRecDepth 100000 in
set_option maxHeartbeats 4000000 in
theorem wb_Code_worthT_4 (G : ZG) (l2 : Int32) (l3 : Int32) (u : ZSt) (K : ((Int32 × Int32 × ZSt) ⊕ ((Int32 × Int32 × ZSt) ⊕ (Int32 × ZSt))) → Option (Value × ZSt)) (hb : ∀ (l2 : Int32) (l3 : Int32) (u : ZSt), ZGo G m_Code_worth 2 (K (.inl (l2, l3, u))) some 4 [(0, .ref 15), (1, .ref 21), (2, .int l2), (3, .int l3)] [] u) (hx : ∀ (l2 : Int32) (l3 : Int32) (u : ZSt), ZGo G m_Code_worth 2 (K (.inr (.inl (l2, l3, u)))) some 134 [] [] u) (hr : ∀ x, K (.inr (.inr x)) = some (zemI x)) : ZGo G m_Code_worth 2 (b_Code_worthT_4 l2 l3 u) K 4 [(0, .ref 15), (1, .ref 21), (2, .int l2), (3, .int l3)] [] u := by
  unfold b_Code_worthT_4
  refine g_iload_n rfl rfl ?_
  refine g_aload_n rfl rfl ?_
  refine g_getI rfl zf_Code_19 rfl rfl rfl ?_
  refine g_icmpge rfl (fun c1126 => ?_) (fun c1126 => ?_)
  · exact zgo_sub (zsubk [] rfl) (zgo_leaf (hx l2 l3 u))
  · refine g_iload_n rfl rfl ?_
    refine g_sipush (v := (128 : Int32)) rfl zis_128 ?_
    refine g_icmpge rfl (fun c1127 => ?_) (fun c1127 => ?_)
    · exact zgo_sub (zsubk [] rfl) (zgo_leaf (hx l2 l3 u))
    · refine g_aload_n rfl rfl ?_
      refine g_getR rfl zf_Code_9 rfl rfl ?_
      refine g_iload_n rfl rfl ?_
      refine g_iald rfl rfl (fun o1180 => ?_)
      refine g_istore (lv' := [(0, .ref 15), (1, .ref 21), (2, .int l2), (3, .int l3), (4, .int (u.2.1 16 l3.toNatClampNeg))]) rfl (Nat.le_of_ble_eq_true rfl) rfl rfl ?_
      refine g_iload rfl rfl ?_
      refine g_bipush (v := (48 : Int32)) rfl zib_48 ?_
      refine g_icmpeq rfl (fun c1128 => ?_) (fun c1128 => ?_)
      · refine g_iload_n rfl rfl ?_
        refine g_sipush (v := (128 : Int32)) rfl zis_128 ?_
        refine g_icmplt rfl (fun c1129 => ?_) (fun c1129 => ?_)
        · refine g_aload_n rfl rfl ?_
          refine g_getR rfl zf_Code_16 rfl rfl ?_
          refine g_iload_n rfl rfl ?_
          refine g_iload rfl rfl ?_
          refine g_bipush (v := (48 : Int32)) rfl zib_48 ?_
          refine g_icmpne rfl (fun c1130 => ?_) (fun c1130 => ?_)
          · refine g_aload_n rfl rfl ?_
            refine g_aload_n rfl rfl ?_
            refine g_getR rfl zf_Code_13 rfl rfl ?_
            refine g_iload_n rfl rfl ?_
            refine g_iald rfl rfl (fun o1135 => ?_)
            refine g_callSP (M' := m_Code_named) (d' := 1) (as := [.ref 21, .int (u.2.1 17 l3.toNatClampNeg)]) (rest := [.int l2, .ref 18]) rfl ml_Code_29 v_Code_named (by decide) rfl rfl (Nat.le_of_ble_eq_true rfl) (fun x_ e_ => s_Code_named G (u.2.1 17 l3.toNatClampNeg) u x_ e_) (fun q1131 e1132 b1133 => ?_)
            refine g_iast rfl rfl (fun o1134 => ?_)
            refine g_iinc (v := (1 : Int32)) (lv' := [(0, .ref 15), (1, .ref 21), (2, .int (l2 + (1 : Int32))), (3, .int l3), (4, .int (u.2.1 16 l3.toNatClampNeg))]) rfl rfl zic_1 (Nat.le_of_ble_eq_true rfl) rfl rfl ?_
            refine g_goto rfl ?_
            refine g_iinc (v := (1 : Int32)) (lv' := [(0, .ref 15), (1, .ref 21), (2, .int (l2 + (1 : Int32))), (3, .int (l3 + (1 : Int32))), (4, .int (u.2.1 16 l3.toNatClampNeg))]) rfl rfl zic_1 (Nat.le_of_ble_eq_true rfl) rfl rfl ?_
            refine g_goto rfl ?_
            exact zgo_sub (zsubk [0, 1, 2, 3] rfl) (zgo_leaf (hb (l2 + (1 : Int32)) (l3 + (1 : Int32)) (za u 18 l2.toNatClampNeg q1131)))
          · refine g_aload_n rfl rfl ?_
            refine g_getR rfl zf_Code_13 rfl rfl ?_
            refine g_iload_n rfl rfl ?_
            refine g_iald rfl rfl (fun o1137 => ?_)
            refine g_goto rfl ?_
            refine g_iast rfl rfl (fun o1136 => ?_)
            refine g_iinc (v := (1 : Int32)) (lv' := [(0, .ref 15), (1, .ref 21), (2, .int (l2 + (1 : Int32))), (3, .int l3), (4, .int (u.2.1 16 l3.toNatClampNeg))]) rfl rfl zic_1 (Nat.le_of_ble_eq_true rfl) rfl rfl ?_
            refine g_goto rfl ?_
            refine g_iinc (v := (1 : Int32)) (lv' := [(0, .ref 15), (1, .ref 21), (2, .int (l2 + (1 : Int32))), (3, .int (l3 + (1 : Int32))), (4, .int (u.2.1 16 l3.toNatClampNeg))]) rfl rfl zic_1 (Nat.le_of_ble_eq_true rfl) rfl rfl ?_
            refine g_goto rfl ?_
            exact zgo_sub (zsubk [0, 1, 2, 3] rfl) (zgo_leaf (hb (l2 + (1 : Int32)) (l3 + (1 : Int32)) (za u 18 l2.toNatClampNeg (u.2.1 17 l3.toNatClampNeg))))
        · refine g_iconst (v := (0 : Int32)) rfl zic_0 ?_
          exact g_iret rfl (Or.inl rfl) (hr _)
      · refine g_iload rfl rfl ?_
        refine g_bipush (v := (97 : Int32)) rfl zib_97 ?_
        refine g_icmpne rfl (fun c1138 => ?_) (fun c1138 => ?_)
        · refine g_iload_n rfl rfl ?_
          refine g_iload rfl rfl ?_
          refine g_callSP (M' := m_Code_needOf) (d' := 1) (as := [.int (u.2.1 16 l3.toNatClampNeg)]) (rest := [.int l2]) rfl ml_Code_33 v_Code_needOf (by decide) rfl rfl (Nat.le_of_ble_eq_true rfl) (fun x_ e_ => s_Code_needOf G (u.2.1 16 l3.toNatClampNeg) u x_ e_) (fun q1139 e1140 b1141 => ?_)
          refine g_icmpge rfl (fun c1142 => ?_) (fun c1142 => ?_)
          · refine g_iload rfl rfl ?_
            refine g_bipush (v := (59 : Int32)) rfl zib_59 ?_
            refine g_icmpne rfl (fun c1143 => ?_) (fun c1143 => ?_)
            · refine g_iload rfl rfl ?_
              refine g_bipush (v := (33 : Int32)) rfl zib_33 ?_
              refine g_icmpeq rfl (fun c1144 => ?_) (fun c1144 => ?_)
              · refine g_aload_n rfl rfl ?_
                refine g_getR rfl zf_Code_16 rfl rfl ?_
                refine g_iload_n rfl rfl ?_
                refine g_iconst (v := (1 : Int32)) rfl zic_1 ?_
                refine g_isub rfl ?_
                refine g_iload rfl rfl ?_
                refine g_bipush (v := (126 : Int32)) rfl zib_126 ?_
                refine g_icmpne rfl (fun c1145 => ?_) (fun c1145 => ?_)
                · refine g_aload_n rfl rfl ?_
                  refine g_getR rfl zf_Code_16 rfl rfl ?_
                  refine g_iload_n rfl rfl ?_
                  refine g_iconst (v := (1 : Int32)) rfl zic_1 ?_
                  refine g_isub rfl ?_
                  refine g_iald rfl rfl (fun o1149 => ?_)
                  refine g_ifne rfl (fun c1146 => ?_) (fun c1146 => ?_)
                  · refine g_iconst (v := (0 : Int32)) rfl zic_0 ?_
                    refine g_iast rfl rfl (fun o1147 => ?_)
                    refine g_goto rfl ?_
                    refine g_iinc (v := (1 : Int32)) (lv' := [(0, .ref 15), (1, .ref 21), (2, .int l2), (3, .int (l3 + (1 : Int32))), (4, .int (u.2.1 16 l3.toNatClampNeg))]) rfl rfl zic_1 (Nat.le_of_ble_eq_true rfl) rfl rfl ?_
                    refine g_goto rfl ?_
                    exact zgo_sub (zsubk [0, 1, 2, 3] rfl) (zgo_leaf (hb l2 (l3 + (1 : Int32)) (za u 18 ((l2 - (1 : Int32)).toNatClampNeg) (0 : Int32))))
                  · refine g_iconst (v := (1 : Int32)) rfl zic_1 ?_
                    refine g_goto rfl ?_
                    refine g_iast rfl rfl (fun o1148 => ?_)
                    refine g_goto rfl ?_
                    refine g_iinc (v := (1 : Int32)) (lv' := [(0, .ref 15), (1, .ref 21), (2, .int l2), (3, .int (l3 + (1 : Int32))), (4, .int (u.2.1 16 l3.toNatClampNeg))]) rfl rfl zic_1 (Nat.le_of_ble_eq_true rfl) rfl rfl ?_
                    refine g_goto rfl ?_
                    exact zgo_sub (zsubk [0, 1, 2, 3] rfl) (zgo_leaf (hb l2 (l3 + (1 : Int32)) (za u 18 ((l2 - (1 : Int32)).toNatClampNeg) (1 : Int32))))
                · refine g_aload_n rfl rfl ?_
                  refine g_getR rfl zf_Code_16 rfl rfl ?_
                  refine g_iload_n rfl rfl ?_
                  refine g_iconst (v := (1 : Int32)) rfl zic_1 ?_
                  refine g_isub rfl ?_
                  refine g_iald rfl rfl (fun o1151 => ?_)
                  refine g_ineg rfl ?_
                  refine g_goto rfl ?_
                  refine g_iast rfl rfl (fun o1150 => ?_)
                  refine g_goto rfl ?_
                  refine g_iinc (v := (1 : Int32)) (lv' := [(0, .ref 15), (1, .ref 21), (2, .int l2), (3, .int (l3 + (1 : Int32))), (4, .int (u.2.1 16 l3.toNatClampNeg))]) rfl rfl zic_1 (Nat.le_of_ble_eq_true rfl) rfl rfl ?_
                  refine g_goto rfl ?_
                  exact zgo_sub (zsubk [0, 1, 2, 3] rfl) (zgo_leaf (hb l2 (l3 + (1 : Int32)) (za u 18 ((l2 - (1 : Int32)).toNatClampNeg) (-(u.2.1 18 (l2 - (1 : Int32)).toNatClampNeg)))))
              · refine g_iload rfl rfl ?_
                refine g_bipush (v := (126 : Int32)) rfl zib_126 ?_
                refine g_icmpne rfl (fun c1152 => ?_) (fun c1152 => ?_)
                · refine g_iload rfl rfl ?_
                  refine g_bipush (v := (63 : Int32)) rfl zib_63 ?_
                  refine g_icmpne rfl (fun c1153 => ?_) (fun c1153 => ?_)
                  · refine g_iinc (v := (-1 : Int32)) (lv' := [(0, .ref 15), (1, .ref 21), (2, .int (l2 + (-1 : Int32))), (3, .int l3), (4, .int (u.2.1 16 l3.toNatClampNeg))]) rfl rfl zic_m1 (Nat.le_of_ble_eq_true rfl) rfl rfl ?_
                    refine g_aload_n rfl rfl ?_
                    refine g_getR rfl zf_Code_16 rfl rfl ?_
                    refine g_iload_n rfl rfl ?_
                    refine g_iconst (v := (1 : Int32)) rfl zic_1 ?_
                    refine g_isub rfl ?_
                    refine g_iload rfl rfl ?_
                    refine g_aload_n rfl rfl ?_
                    refine g_getR rfl zf_Code_16 rfl rfl ?_
                    refine g_iload_n rfl rfl ?_
                    refine g_iconst (v := (1 : Int32)) rfl zic_1 ?_
                    refine g_isub rfl ?_
                    refine g_iald rfl rfl (fun o1159 => ?_)
                    refine g_aload_n rfl rfl ?_
                    refine g_getR rfl zf_Code_16 rfl rfl ?_
                    refine g_iload_n rfl rfl ?_
                    refine g_iald rfl rfl (fun o1158 => ?_)
                    refine g_callSP (M' := m_Code_joined) (d' := 1) (as := [.int (u.2.1 16 l3.toNatClampNeg), .int (u.2.1 18 ((l2 + (-1 : Int32)) - (1 : Int32)).toNatClampNeg), .int (u.2.1 18 (l2 + (-1 : Int32)).toNatClampNeg)]) (rest := [.int ((l2 + (-1 : Int32)) - (1 : Int32)), .ref 18]) rfl ml_Code_37 v_Code_joined (by decide) rfl rfl (Nat.le_of_ble_eq_true rfl) (fun x_ e_ => s_Code_joined G (u.2.1 16 l3.toNatClampNeg) (u.2.1 18 ((l2 + (-1 : Int32)) - (1 : Int32)).toNatClampNeg) (u.2.1 18 (l2 + (-1 : Int32)).toNatClampNeg) u x_ e_) (fun q1154 e1155 b1156 => ?_)
                    refine g_iast rfl rfl (fun o1157 => ?_)
                    refine g_iinc (v := (1 : Int32)) (lv' := [(0, .ref 15), (1, .ref 21), (2, .int (l2 + (-1 : Int32))), (3, .int (l3 + (1 : Int32))), (4, .int (u.2.1 16 l3.toNatClampNeg))]) rfl rfl zic_1 (Nat.le_of_ble_eq_true rfl) rfl rfl ?_
                    refine g_goto rfl ?_
                    exact zgo_sub (zsubk [0, 1, 2, 3] rfl) (zgo_leaf (hb (l2 + (-1 : Int32)) (l3 + (1 : Int32)) (za u 18 (((l2 + (-1 : Int32)) - (1 : Int32)).toNatClampNeg) q1154)))
                  · refine g_iinc (v := (-2 : Int32)) (lv' := [(0, .ref 15), (1, .ref 21), (2, .int (l2 + (-2 : Int32))), (3, .int l3), (4, .int (u.2.1 16 l3.toNatClampNeg))]) rfl rfl zic_m2 (Nat.le_of_ble_eq_true rfl) rfl rfl ?_
                    refine g_aload_n rfl rfl ?_
                    refine g_getR rfl zf_Code_16 rfl rfl ?_
                    refine g_iload_n rfl rfl ?_
                    refine g_iald rfl rfl (fun o1162 => ?_)
                    refine g_ifeq rfl (fun c1160 => ?_) (fun c1160 => ?_)
                    · refine g_iinc (v := (1 : Int32)) (lv' := [(0, .ref 15), (1, .ref 21), (2, .int (l2 + (-2 : Int32))), (3, .int (l3 + (1 : Int32))), (4, .int (u.2.1 16 l3.toNatClampNeg))]) rfl rfl zic_1 (Nat.le_of_ble_eq_true rfl) rfl rfl ?_
                      refine g_goto rfl ?_
                      exact zgo_sub (zsubk [0, 1, 2, 3] rfl) (zgo_leaf (hb (l2 + (-2 : Int32)) (l3 + (1 : Int32)) u))
                    · refine g_aload_n rfl rfl ?_
                      refine g_getR rfl zf_Code_16 rfl rfl ?_
                      refine g_iload_n rfl rfl ?_
                      refine g_iconst (v := (1 : Int32)) rfl zic_1 ?_
                      refine g_iadd rfl ?_
                      refine g_iald rfl rfl (fun o1161 => ?_)
                      exact g_iret rfl (Or.inl rfl) (hr _)
                · refine g_aload_n rfl rfl ?_
                  refine g_getR rfl zf_Code_16 rfl rfl ?_
                  refine g_iload_n rfl rfl ?_
                  refine g_iconst (v := (1 : Int32)) rfl zic_1 ?_
                  refine g_isub rfl ?_
                  refine g_iload rfl rfl ?_
                  refine g_bipush (v := (126 : Int32)) rfl zib_126 ?_
                  refine g_icmpne rfl (fun c1163 => ?_) (fun c1163 => ?_)
                  · refine g_aload_n rfl rfl ?_
                    refine g_getR rfl zf_Code_16 rfl rfl ?_
                    refine g_iload_n rfl rfl ?_
                    refine g_iconst (v := (1 : Int32)) rfl zic_1 ?_
                    refine g_isub rfl ?_
                    refine g_iald rfl rfl (fun o1167 => ?_)
                    refine g_ifne rfl (fun c1164 => ?_) (fun c1164 => ?_)
                    · refine g_iconst (v := (0 : Int32)) rfl zic_0 ?_
                      refine g_iast rfl rfl (fun o1165 => ?_)
                      refine g_goto rfl ?_
                      refine g_iinc (v := (1 : Int32)) (lv' := [(0, .ref 15), (1, .ref 21), (2, .int l2), (3, .int (l3 + (1 : Int32))), (4, .int (u.2.1 16 l3.toNatClampNeg))]) rfl rfl zic_1 (Nat.le_of_ble_eq_true rfl) rfl rfl ?_
                      refine g_goto rfl ?_
                      exact zgo_sub (zsubk [0, 1, 2, 3] rfl) (zgo_leaf (hb l2 (l3 + (1 : Int32)) (za u 18 ((l2 - (1 : Int32)).toNatClampNeg) (0 : Int32))))
                    · refine g_iconst (v := (1 : Int32)) rfl zic_1 ?_
                      refine g_goto rfl ?_
                      refine g_iast rfl rfl (fun o1166 => ?_)
                      refine g_goto rfl ?_
                      refine g_iinc (v := (1 : Int32)) (lv' := [(0, .ref 15), (1, .ref 21), (2, .int l2), (3, .int (l3 + (1 : Int32))), (4, .int (u.2.1 16 l3.toNatClampNeg))]) rfl rfl zic_1 (Nat.le_of_ble_eq_true rfl) rfl rfl ?_
                      refine g_goto rfl ?_
                      exact zgo_sub (zsubk [0, 1, 2, 3] rfl) (zgo_leaf (hb l2 (l3 + (1 : Int32)) (za u 18 ((l2 - (1 : Int32)).toNatClampNeg) (1 : Int32))))
                  · refine g_aload_n rfl rfl ?_
                    refine g_getR rfl zf_Code_16 rfl rfl ?_
                    refine g_iload_n rfl rfl ?_
                    refine g_iconst (v := (1 : Int32)) rfl zic_1 ?_
                    refine g_isub rfl ?_
                    refine g_iald rfl rfl (fun o1169 => ?_)
                    refine g_ineg rfl ?_
                    refine g_goto rfl ?_
                    refine g_iast rfl rfl (fun o1168 => ?_)
                    refine g_goto rfl ?_
                    refine g_iinc (v := (1 : Int32)) (lv' := [(0, .ref 15), (1, .ref 21), (2, .int l2), (3, .int (l3 + (1 : Int32))), (4, .int (u.2.1 16 l3.toNatClampNeg))]) rfl rfl zic_1 (Nat.le_of_ble_eq_true rfl) rfl rfl ?_
                    refine g_goto rfl ?_
                    exact zgo_sub (zsubk [0, 1, 2, 3] rfl) (zgo_leaf (hb l2 (l3 + (1 : Int32)) (za u 18 ((l2 - (1 : Int32)).toNatClampNeg) (-(u.2.1 18 (l2 - (1 : Int32)).toNatClampNeg)))))
            · refine g_aload_n rfl rfl ?_
              refine g_getR rfl zf_Code_16 rfl rfl ?_
              refine g_iload_n rfl rfl ?_
              refine g_iconst (v := (1 : Int32)) rfl zic_1 ?_
              refine g_isub rfl ?_
              refine g_iald rfl rfl (fun o1170 => ?_)
              exact g_iret rfl (Or.inl rfl) (hr _)
          · refine g_iconst (v := (0 : Int32)) rfl zic_0 ?_
            exact g_iret rfl (Or.inl rfl) (hr _)
        · refine g_iload_n rfl rfl ?_
          refine g_sipush (v := (128 : Int32)) rfl zis_128 ?_
          refine g_icmplt rfl (fun c1171 => ?_) (fun c1171 => ?_)
          · refine g_aload_n rfl rfl ?_
            refine g_getR rfl zf_Code_16 rfl rfl ?_
            refine g_iload_n rfl rfl ?_
            refine g_iload rfl rfl ?_
            refine g_bipush (v := (48 : Int32)) rfl zib_48 ?_
            refine g_icmpne rfl (fun c1172 => ?_) (fun c1172 => ?_)
            · refine g_aload_n rfl rfl ?_
              refine g_aload_n rfl rfl ?_
              refine g_getR rfl zf_Code_13 rfl rfl ?_
              refine g_iload_n rfl rfl ?_
              refine g_iald rfl rfl (fun o1177 => ?_)
              refine g_callSP (M' := m_Code_named) (d' := 1) (as := [.ref 21, .int (u.2.1 17 l3.toNatClampNeg)]) (rest := [.int l2, .ref 18]) rfl ml_Code_29 v_Code_named (by decide) rfl rfl (Nat.le_of_ble_eq_true rfl) (fun x_ e_ => s_Code_named G (u.2.1 17 l3.toNatClampNeg) u x_ e_) (fun q1173 e1174 b1175 => ?_)
              refine g_iast rfl rfl (fun o1176 => ?_)
              refine g_iinc (v := (1 : Int32)) (lv' := [(0, .ref 15), (1, .ref 21), (2, .int (l2 + (1 : Int32))), (3, .int l3), (4, .int (u.2.1 16 l3.toNatClampNeg))]) rfl rfl zic_1 (Nat.le_of_ble_eq_true rfl) rfl rfl ?_
              refine g_goto rfl ?_
              refine g_iinc (v := (1 : Int32)) (lv' := [(0, .ref 15), (1, .ref 21), (2, .int (l2 + (1 : Int32))), (3, .int (l3 + (1 : Int32))), (4, .int (u.2.1 16 l3.toNatClampNeg))]) rfl rfl zic_1 (Nat.le_of_ble_eq_true rfl) rfl rfl ?_
              refine g_goto rfl ?_
              exact zgo_sub (zsubk [0, 1, 2, 3] rfl) (zgo_leaf (hb (l2 + (1 : Int32)) (l3 + (1 : Int32)) (za u 18 l2.toNatClampNeg q1173)))
            · refine g_aload_n rfl rfl ?_
              refine g_getR rfl zf_Code_13 rfl rfl ?_
              refine g_iload_n rfl rfl ?_
              refine g_iald rfl rfl (fun o1179 => ?_)
              refine g_goto rfl ?_
              refine g_iast rfl rfl (fun o1178 => ?_)
              refine g_iinc (v := (1 : Int32)) (lv' := [(0, .ref 15), (1, .ref 21), (2, .int (l2 + (1 : Int32))), (3, .int l3), (4, .int (u.2.1 16 l3.toNatClampNeg))]) rfl rfl zic_1 (Nat.le_of_ble_eq_true rfl) rfl rfl ?_
              refine g_goto rfl ?_
              refine g_iinc (v := (1 : Int32)) (lv' := [(0, .ref 15), (1, .ref 21), (2, .int (l2 + (1 : Int32))), (3, .int (l3 + (1 : Int32))), (4, .int (u.2.1 16 l3.toNatClampNeg))]) rfl rfl zic_1 (Nat.le_of_ble_eq_true rfl) rfl rfl ?_
              refine g_goto rfl ?_
              exact zgo_sub (zsubk [0, 1, 2, 3] rfl) (zgo_leaf (hb (l2 + (1 : Int32)) (l3 + (1 : Int32)) (za u 18 l2.toNatClampNeg (u.2.1 17 l3.toNatClampNeg))))
          · refine g_iconst (v := (0 : Int32)) rfl zic_0 ?_
            exact g_iret rfl (Or.inl rfl) (hr _)
set_option maxRecDepth 100000 in
set_option maxHeartbeats 4000000 in
theorem wa_Code_worthT_4 (G : ZG) (u : ZSt) : ZGo G m_Code_worth 2 (a_Code_worthT_4 u) zkI 134 [] [] u := by
  unfold a_Code_worthT_4
  refine g_iconst (v := (0 : Int32)) rfl zic_0 ?_
  exact g_iret rfl (Or.inl rfl) rfl
set_option maxRecDepth 100000 in
set_option maxHeartbeats 4000000 in
theorem w_Code_worthT (G : ZG) (u : ZSt) : ZGo G m_Code_worth 2 (f_Code_worthT u) zkI 0 [(0, .ref 15), (1, .ref 21)] [] u := by
  unfold f_Code_worthT
  refine g_iconst (v := (0 : Int32)) rfl zic_0 ?_
  refine g_istore_n (lv' := [(0, .ref 15), (1, .ref 21), (2, .int (0 : Int32))]) rfl (Nat.le_of_ble_eq_true rfl) rfl rfl ?_
  refine g_iconst (v := (0 : Int32)) rfl zic_0 ?_
  refine g_istore_n (lv' := [(0, .ref 15), (1, .ref 21), (2, .int (0 : Int32)), (3, .int (0 : Int32))]) rfl (Nat.le_of_ble_eq_true rfl) rfl rfl ?_
  refine zgo_sub (lv' := [(0, .ref 15), (1, .ref 21), (2, .int (0 : Int32)), (3, .int (0 : Int32))]) (zsubk [0, 1, 2, 3] rfl) ?_
  refine zgo_loop (σ := Int32 × Int32 × ZSt) (lvf := fun s => [(0, .ref 15), (1, .ref 21), (2, .int s.1), (3, .int s.2.1)]) (uf := (fun s => s.2.2)) ?_ zfu _
  intro s K' ih he
  refine wb_Code_worthT_4 G s.1 s.2.1 s.2.2 K' ?_ ?_ ?_
  · intro c0 c1 v
    exact ih (c0, c1, v)
  · intro c0 c1 v
    rw [he]
    exact zgo_unleaf (wa_Code_worthT_4 G  v)
  · intro x
    exact (he _).trans rfl
theorem s_Code_worthT (G : ZG) (u : ZSt) (x : Int32 × ZSt) (hx : f_Code_worthT u = some x) : ZSpec G m_Code_worth 2 [.ref 15, .ref 21] u (zemI x) :=
  ZSpec.go k_Code_worth (Nat.le_of_ble_eq_true rfl) (w_Code_worthT G u) (tgt := zemI x) (by rw [hx]; rfl)
set_option maxRecDepth 100000 in
set_option maxHeartbeats 4000000 in
theorem w_Ballot_isAllowed (G : ZG) (a : Int32) (b : Int32) (c : Int32) (u : ZSt) : ZGo G m_Ballot_isAllowed 3 (f_Ballot_isAllowed a b c u) zkI 0 [(0, .ref 19), (1, .int a), (2, .int b), (3, .int c)] [] u := by
  unfold f_Ballot_isAllowed
  refine g_iload_n rfl rfl ?_
  refine g_iflt rfl (fun c1181 => ?_) (fun c1181 => ?_)
  · refine g_iconst (v := (0 : Int32)) rfl zic_0 ?_
    exact g_iret rfl (Or.inr ⟨rfl, Or.inl rfl⟩) rfl
  · refine g_iload_n rfl rfl ?_
    refine g_bipush (v := (10 : Int32)) rfl zib_10 ?_
    refine g_icmplt rfl (fun c1182 => ?_) (fun c1182 => ?_)
    · refine g_aload_n rfl rfl ?_
      refine g_getR rfl zf_Ballot_15 rfl rfl ?_
      refine g_iconst (v := (0 : Int32)) rfl zic_0 ?_
      refine g_aload_n rfl rfl ?_
      refine g_getR rfl zf_Ballot_9 rfl rfl ?_
      refine g_iload_n rfl rfl ?_
      refine g_iald rfl rfl (fun o1196 => ?_)
      refine zgo_of_ck (c := zin (0 : Int32) 6) (by decide) (g_iast rfl rfl (fun _ => ?_))
      refine g_aload_n rfl rfl ?_
      refine g_getR rfl zf_Ballot_15 rfl rfl ?_
      refine g_iconst (v := (1 : Int32)) rfl zic_1 ?_
      refine g_aload_n rfl rfl ?_
      refine g_iload_n rfl rfl ?_
      refine g_callVP (M' := m_Ballot_nearOf) (d' := 2) (as := [.int a]) (rest := [.int (1 : Int32), .ref 21]) (ci := 0) (o := 19) rfl ml_Ballot_60 v_Ballot_nearOf (by decide) rfl (by decide) rfl rfl rfl (Nat.le_of_ble_eq_true rfl) (fun x_ e_ => s_Ballot_nearOf G a (za u 21 ((0 : Int32).toNatClampNeg) (u.2.1 20 a.toNatClampNeg)) x_ e_) (fun q1183 e1184 b1185 => ?_)
      refine zgo_of_ck (c := zin (1 : Int32) 6) (by decide) (g_iast rfl rfl (fun _ => ?_))
      refine g_aload_n rfl rfl ?_
      refine g_getR rfl zf_Ballot_15 rfl rfl ?_
      refine g_iconst (v := (2 : Int32)) rfl zic_2 ?_
      refine g_aload_n rfl rfl ?_
      refine g_getR rfl zf_Ballot_18 rfl rfl ?_
      refine g_iload_n rfl rfl ?_
      refine g_iload_n rfl rfl ?_
      refine g_iconst (v := (1 : Int32)) rfl zic_1 ?_
      refine g_callVP (M' := m_Council_sumOf) (d' := 2) (as := [.int a, .int b, .int (1 : Int32)]) (rest := [.int (2 : Int32), .ref 21]) (ci := 3) (o := 1) rfl ml_Ballot_56 v_Council_sumOf (by decide) rfl (by decide) rfl rfl rfl (Nat.le_of_ble_eq_true rfl) (fun x_ e_ => s_Council_sumOf G a b (1 : Int32) (za (za u 21 ((0 : Int32).toNatClampNeg) (u.2.1 20 a.toNatClampNeg)) 21 ((1 : Int32).toNatClampNeg) q1183) x_ e_) (fun q1186 e1187 b1188 => ?_)
      refine zgo_of_ck (c := zin (2 : Int32) 6) (by decide) (g_iast rfl rfl (fun _ => ?_))
      refine g_aload_n rfl rfl ?_
      refine g_getR rfl zf_Ballot_15 rfl rfl ?_
      refine g_iconst (v := (3 : Int32)) rfl zic_3 ?_
      refine g_iload_n rfl rfl ?_
      refine zgo_of_ck (c := zin (3 : Int32) 6) (by decide) (g_iast rfl rfl (fun _ => ?_))
      refine g_aload_n rfl rfl ?_
      refine g_getR rfl zf_Ballot_15 rfl rfl ?_
      refine g_iconst (v := (4 : Int32)) rfl zic_4 ?_
      refine g_iload_n rfl rfl ?_
      refine g_callSP (M' := m_Int_bitCount) (d' := 1) (as := [.int b]) (rest := [.int (4 : Int32), .ref 21]) rfl ml_Ballot_64 v_Int_bitCount (by decide) rfl rfl (Nat.le_of_ble_eq_true rfl) (fun x_ e_ => s_Int_bitCount G b (za (za (za (za u 21 ((0 : Int32).toNatClampNeg) (u.2.1 20 a.toNatClampNeg)) 21 ((1 : Int32).toNatClampNeg) q1183) 21 ((2 : Int32).toNatClampNeg) q1186) 21 ((3 : Int32).toNatClampNeg) a) x_ e_) (fun q1189 e1190 b1191 => ?_)
      refine zgo_of_ck (c := zin (4 : Int32) 6) (by decide) (g_iast rfl rfl (fun _ => ?_))
      refine g_aload_n rfl rfl ?_
      refine g_getR rfl zf_Ballot_15 rfl rfl ?_
      refine g_iconst (v := (5 : Int32)) rfl zic_5 ?_
      refine g_iload_n rfl rfl ?_
      refine g_iload_n rfl rfl ?_
      refine g_iushr rfl ?_
      refine g_iconst (v := (1 : Int32)) rfl zic_1 ?_
      refine g_iand rfl ?_
      refine zgo_of_ck (c := zin (5 : Int32) 6) (by decide) (g_iast rfl rfl (fun _ => ?_))
      refine g_aload_n rfl rfl ?_
      refine g_getR rfl zf_Ballot_22 rfl rfl ?_
      refine g_aload_n rfl rfl ?_
      refine g_getR rfl zf_Ballot_15 rfl rfl ?_
      refine g_callVI (M' := m_Code_worth) (d' := 2) (as := [.ref 21]) (rest := []) (ci := 2) (o := 15) rfl ml_Ballot_69 v_Code_worth (by decide) rfl (by decide) rfl rfl rfl (Nat.le_of_ble_eq_true rfl) (fun x_ e_ => s_Code_worthT G  (za (za (za (za (za (za u 21 ((0 : Int32).toNatClampNeg) (u.2.1 20 a.toNatClampNeg)) 21 ((1 : Int32).toNatClampNeg) q1183) 21 ((2 : Int32).toNatClampNeg) q1186) 21 ((3 : Int32).toNatClampNeg) a) 21 ((4 : Int32).toNatClampNeg) q1189) 21 ((5 : Int32).toNatClampNeg) ((zushr c a) &&& (1 : Int32))) x_ e_) (fun q1192r q1192u e1193 b1194 => ?_)
      refine g_ifeq rfl (fun c1195 => ?_) (fun c1195 => ?_)
      · refine g_iconst (v := (0 : Int32)) rfl zic_0 ?_
        exact g_iret rfl (Or.inr ⟨rfl, Or.inl rfl⟩) rfl
      · refine g_iconst (v := (1 : Int32)) rfl zic_1 ?_
        refine g_goto rfl ?_
        exact g_iret rfl (Or.inr ⟨rfl, Or.inr rfl⟩) rfl
    · refine g_iconst (v := (0 : Int32)) rfl zic_0 ?_
      exact g_iret rfl (Or.inr ⟨rfl, Or.inl rfl⟩) rfl
theorem s_Ballot_isAllowed (G : ZG) (a : Int32) (b : Int32) (c : Int32) (u : ZSt) (x : Int32 × ZSt) (hx : f_Ballot_isAllowed a b c u = some x) : ZSpec G m_Ballot_isAllowed 3 [.ref 19, .int a, .int b, .int c] u (zemI x) :=
  ZSpec.go k_Ballot_isAllowed (Nat.le_of_ble_eq_true rfl) (w_Ballot_isAllowed G a b c u) (tgt := zemI x) (by rw [hx]; rfl)
set_option maxRecDepth 100000 in
set_option maxHeartbeats 4000000 in
theorem wb_Ballot_whoMay_8 (G : ZG) (l1 : Int32) (l3 : Int32) (l4 : Int32) (l5 : Int32) (u : ZSt) (K : ((Int32 × Int32 × ZSt) ⊕ (Int32 × Int32 × ZSt)) → Option (Value × ZSt)) (hb : ∀ (l4 : Int32) (l5 : Int32) (u : ZSt), ZGo G m_Ballot_whoMay 4 (K (.inl (l4, l5, u))) some 8 [(0, .ref 19), (1, .int l1), (3, .int l3), (4, .int l4), (5, .int l5)] [] u) (hx : ∀ (l4 : Int32) (l5 : Int32) (u : ZSt), ZGo G m_Ballot_whoMay 4 (K (.inr (l4, l5, u))) some 42 [(4, .int l4)] [] u) : ZGo G m_Ballot_whoMay 4 (b_Ballot_whoMay_8 l1 l3 l4 l5 u) K 8 [(0, .ref 19), (1, .int l1), (3, .int l3), (4, .int l4), (5, .int l5)] [] u := by
  unfold b_Ballot_whoMay_8
  refine g_iload rfl rfl ?_
  refine g_aload_n rfl rfl ?_
  refine g_getR rfl zf_Ballot_18 rfl rfl ?_
  refine g_getI rfl zf_Ballot_30 rfl rfl rfl ?_
  refine g_icmpge rfl (fun c1200 => ?_) (fun c1200 => ?_)
  · exact zgo_sub (zsubk [3] rfl) (zgo_leaf (hx l4 l5 u))
  · refine g_aload_n rfl rfl ?_
    refine g_getR rfl zf_Ballot_22 rfl rfl ?_
    refine g_callVP (M' := m_Code_isEmpty) (d' := 1) (as := []) (rest := []) (ci := 2) (o := 15) rfl ml_Ballot_36 v_Code_isEmpty (by decide) rfl (by decide) rfl rfl rfl (Nat.le_of_ble_eq_true rfl) (fun x_ e_ => s_Code_isEmptyT G  u x_ e_) (fun q1201 e1202 b1203 => ?_)
    refine g_ifeq rfl (fun c1204 => ?_) (fun c1204 => ?_)
    · refine g_aload_n rfl rfl ?_
      refine g_iload rfl rfl ?_
      refine g_iload_n rfl rfl ?_
      refine g_iload_n rfl rfl ?_
      refine g_callVI (M' := m_Ballot_isAllowed) (d' := 3) (as := [.int l5, .int l1, .int l3]) (rest := []) (ci := 0) (o := 19) rfl ml_Ballot_49 v_Ballot_isAllowed (by decide) rfl (by decide) rfl rfl rfl (Nat.le_of_ble_eq_true rfl) (fun x_ e_ => s_Ballot_isAllowed G l5 l1 l3 u x_ e_) (fun q1205r q1205u e1206 b1207 => ?_)
      refine g_istore (lv' := [(0, .ref 19), (1, .int l1), (3, .int l3), (4, .int l4), (5, .int l5), (6, .int q1205r)]) rfl (Nat.le_of_ble_eq_true rfl) rfl rfl ?_
      refine g_iload rfl rfl ?_
      refine g_iload rfl rfl ?_
      refine g_ifeq rfl (fun c1208 => ?_) (fun c1208 => ?_)
      · refine g_iconst (v := (0 : Int32)) rfl zic_0 ?_
        refine g_ior rfl ?_
        refine g_istore (lv' := [(0, .ref 19), (1, .int l1), (3, .int l3), (4, .int (l4 ||| (0 : Int32))), (5, .int l5), (6, .int q1205r)]) rfl (Nat.le_of_ble_eq_true rfl) rfl rfl ?_
        refine g_iinc (v := (1 : Int32)) (lv' := [(0, .ref 19), (1, .int l1), (3, .int l3), (4, .int (l4 ||| (0 : Int32))), (5, .int (l5 + (1 : Int32))), (6, .int q1205r)]) rfl rfl zic_1 (Nat.le_of_ble_eq_true rfl) rfl rfl ?_
        refine g_goto rfl ?_
        exact zgo_sub (zsubk [0, 1, 2, 3, 4] rfl) (zgo_leaf (hb (l4 ||| (0 : Int32)) (l5 + (1 : Int32)) q1205u))
      · refine g_iconst (v := (1 : Int32)) rfl zic_1 ?_
        refine g_iload rfl rfl ?_
        refine g_ishl rfl ?_
        refine g_goto rfl ?_
        refine g_ior rfl ?_
        refine g_istore (lv' := [(0, .ref 19), (1, .int l1), (3, .int l3), (4, .int (l4 ||| ((1 : Int32) <<< (l5 &&& 31)))), (5, .int l5), (6, .int q1205r)]) rfl (Nat.le_of_ble_eq_true rfl) rfl rfl ?_
        refine g_iinc (v := (1 : Int32)) (lv' := [(0, .ref 19), (1, .int l1), (3, .int l3), (4, .int (l4 ||| ((1 : Int32) <<< (l5 &&& 31)))), (5, .int (l5 + (1 : Int32))), (6, .int q1205r)]) rfl rfl zic_1 (Nat.le_of_ble_eq_true rfl) rfl rfl ?_
        refine g_goto rfl ?_
        exact zgo_sub (zsubk [0, 1, 2, 3, 4] rfl) (zgo_leaf (hb (l4 ||| ((1 : Int32) <<< (l5 &&& 31))) (l5 + (1 : Int32)) q1205u))
    · refine g_aload_n rfl rfl ?_
      refine g_iload rfl rfl ?_
      refine g_aload_n rfl rfl ?_
      refine g_getR rfl zf_Ballot_18 rfl rfl ?_
      refine g_getI rfl zf_Ballot_42 rfl rfl rfl ?_
      refine g_callVP (M' := m_Ballot_isFree) (d' := 3) (as := [.int l5, .int (u.1 106)]) (rest := []) (ci := 0) (o := 19) rfl ml_Ballot_45 v_Ballot_isFree (by decide) rfl (by decide) rfl rfl rfl (Nat.le_of_ble_eq_true rfl) (fun x_ e_ => s_Ballot_isFree G l5 (u.1 106) u x_ e_) (fun q1209 e1210 b1211 => ?_)
      refine g_goto rfl ?_
      refine g_istore (lv' := [(0, .ref 19), (1, .int l1), (3, .int l3), (4, .int l4), (5, .int l5), (6, .int q1209)]) rfl (Nat.le_of_ble_eq_true rfl) rfl rfl ?_
      refine g_iload rfl rfl ?_
      refine g_iload rfl rfl ?_
      refine g_ifeq rfl (fun c1212 => ?_) (fun c1212 => ?_)
      · refine g_iconst (v := (0 : Int32)) rfl zic_0 ?_
        refine g_ior rfl ?_
        refine g_istore (lv' := [(0, .ref 19), (1, .int l1), (3, .int l3), (4, .int (l4 ||| (0 : Int32))), (5, .int l5), (6, .int q1209)]) rfl (Nat.le_of_ble_eq_true rfl) rfl rfl ?_
        refine g_iinc (v := (1 : Int32)) (lv' := [(0, .ref 19), (1, .int l1), (3, .int l3), (4, .int (l4 ||| (0 : Int32))), (5, .int (l5 + (1 : Int32))), (6, .int q1209)]) rfl rfl zic_1 (Nat.le_of_ble_eq_true rfl) rfl rfl ?_
        refine g_goto rfl ?_
        exact zgo_sub (zsubk [0, 1, 2, 3, 4] rfl) (zgo_leaf (hb (l4 ||| (0 : Int32)) (l5 + (1 : Int32)) u))
      · refine g_iconst (v := (1 : Int32)) rfl zic_1 ?_
        refine g_iload rfl rfl ?_
        refine g_ishl rfl ?_
        refine g_goto rfl ?_
        refine g_ior rfl ?_
        refine g_istore (lv' := [(0, .ref 19), (1, .int l1), (3, .int l3), (4, .int (l4 ||| ((1 : Int32) <<< (l5 &&& 31)))), (5, .int l5), (6, .int q1209)]) rfl (Nat.le_of_ble_eq_true rfl) rfl rfl ?_
        refine g_iinc (v := (1 : Int32)) (lv' := [(0, .ref 19), (1, .int l1), (3, .int l3), (4, .int (l4 ||| ((1 : Int32) <<< (l5 &&& 31)))), (5, .int (l5 + (1 : Int32))), (6, .int q1209)]) rfl rfl zic_1 (Nat.le_of_ble_eq_true rfl) rfl rfl ?_
        refine g_goto rfl ?_
        exact zgo_sub (zsubk [0, 1, 2, 3, 4] rfl) (zgo_leaf (hb (l4 ||| ((1 : Int32) <<< (l5 &&& 31))) (l5 + (1 : Int32)) u))
set_option maxRecDepth 100000 in
set_option maxHeartbeats 4000000 in
theorem wa_Ballot_whoMay_8 (G : ZG) (l4 : Int32) (u : ZSt) : ZGo G m_Ballot_whoMay 4 (a_Ballot_whoMay_8 l4 u) zkI 42 [(4, .int l4)] [] u := by
  unfold a_Ballot_whoMay_8
  refine g_iload rfl rfl ?_
  exact g_iret rfl (Or.inl rfl) rfl
set_option maxRecDepth 100000 in
set_option maxHeartbeats 4000000 in
theorem w_Ballot_whoMay (G : ZG) (a : Int32) (b : Int32) (c : Int32) (u : ZSt) : ZGo G m_Ballot_whoMay 4 (f_Ballot_whoMay a b c u) zkI 0 [(0, .ref 19), (1, .int a), (2, .int b), (3, .int c)] [] u := by
  unfold f_Ballot_whoMay
  refine g_aload_n rfl rfl ?_
  refine g_iload_n rfl rfl ?_
  refine g_iload_n rfl rfl ?_
  refine g_callVV (M' := m_Ballot_weigh) (d' := 3) (as := [.int b, .int c]) (rest := []) (ci := 0) (o := 19) rfl ml_Ballot_26 v_Ballot_weigh (by decide) rfl (by decide) rfl rfl rfl (Nat.le_of_ble_eq_true rfl) (fun x_ e_ => s_Ballot_weigh G b c u x_ e_) (fun q1197 e1198 b1199 => ?_)
  refine g_iconst (v := (0 : Int32)) rfl zic_0 ?_
  refine g_istore (lv' := [(0, .ref 19), (1, .int a), (2, .int b), (3, .int c), (4, .int (0 : Int32))]) rfl (Nat.le_of_ble_eq_true rfl) rfl rfl ?_
  refine g_iconst (v := (0 : Int32)) rfl zic_0 ?_
  refine g_istore (lv' := [(0, .ref 19), (1, .int a), (2, .int b), (3, .int c), (4, .int (0 : Int32)), (5, .int (0 : Int32))]) rfl (Nat.le_of_ble_eq_true rfl) rfl rfl ?_
  refine zgo_sub (lv' := [(0, .ref 19), (1, .int a), (3, .int c), (4, .int (0 : Int32)), (5, .int (0 : Int32))]) (zsubk [0, 1, 3, 4, 5] rfl) ?_
  refine zgo_loop (σ := Int32 × Int32 × ZSt) (lvf := fun s => [(0, .ref 19), (1, .int a), (3, .int c), (4, .int s.1), (5, .int s.2.1)]) (uf := (fun s => s.2.2)) ?_ zfu _
  intro s K' ih he
  refine wb_Ballot_whoMay_8 G a c s.1 s.2.1 s.2.2 K' ?_ ?_
  · intro c0 c1 v
    exact ih (c0, c1, v)
  · intro c0 c1 v
    rw [he]
    exact zgo_unleaf (wa_Ballot_whoMay_8 G c0 v)
theorem s_Ballot_whoMay (G : ZG) (a : Int32) (b : Int32) (c : Int32) (u : ZSt) (x : Int32 × ZSt) (hx : f_Ballot_whoMay a b c u = some x) : ZSpec G m_Ballot_whoMay 4 [.ref 19, .int a, .int b, .int c] u (zemI x) :=
  ZSpec.go k_Ballot_whoMay (Nat.le_of_ble_eq_true rfl) (w_Ballot_whoMay G a b c u) (tgt := zemI x) (by rw [hx]; rfl)
set_option maxRecDepth 100000 in
set_option maxHeartbeats 4000000 in
theorem w_X_may (G : ZG) (a : Int32) (b : Int32) (c : Int32) (u : ZSt) : ZGo G m_X_may 5 (f_X_may a b c u) zkI 0 [(0, .ref 0), (1, .int a), (2, .int b), (3, .int c)] [] u := by
  unfold f_X_may
  refine g_aload_n rfl rfl ?_
  refine g_getR rfl zf_X_10 rfl rfl ?_
  refine g_iload_n rfl rfl ?_
  refine g_callVP (M' := m_Council_isPerson) (d' := 1) (as := [.int a]) (rest := []) (ci := 3) (o := 1) rfl ml_X_146 v_Council_isPerson (by decide) rfl (by decide) rfl rfl rfl (Nat.le_of_ble_eq_true rfl) (fun x_ e_ => s_Council_isPerson G a u x_ e_) (fun q1213 e1214 b1215 => ?_)
  refine g_ifeq rfl (fun c1216 => ?_) (fun c1216 => ?_)
  · refine g_iconst (v := (-1 : Int32)) rfl zic_m1 ?_
    exact g_iret rfl (Or.inl rfl) rfl
  · refine g_aload_n rfl rfl ?_
    refine g_iload_n rfl rfl ?_
    refine g_iload_n rfl rfl ?_
    refine g_callVP (M' := m_X_isPut) (d' := 3) (as := [.int b, .int c]) (rest := []) (ci := 10) (o := 0) rfl ml_X_171 v_X_isPut (by decide) rfl (by decide) rfl rfl rfl (Nat.le_of_ble_eq_true rfl) (fun x_ e_ => s_X_isPut G b c u x_ e_) (fun q1217 e1218 b1219 => ?_)
    refine g_ifne rfl (fun c1220 => ?_) (fun c1220 => ?_)
    · refine g_aload_n rfl rfl ?_
      refine g_getR rfl zf_X_44 rfl rfl ?_
      refine g_iload_n rfl rfl ?_
      refine g_iload_n rfl rfl ?_
      refine g_iload_n rfl rfl ?_
      refine g_callVI (M' := m_Ballot_whoMay) (d' := 4) (as := [.int b, .int b, .int c]) (rest := []) (ci := 0) (o := 19) rfl ml_X_174 v_Ballot_whoMay (by decide) rfl (by decide) rfl rfl rfl (Nat.le_of_ble_eq_true rfl) (fun x_ e_ => s_Ballot_whoMay G b b c u x_ e_) (fun q1221r q1221u e1222 b1223 => ?_)
      refine g_iload_n rfl rfl ?_
      refine g_iushr rfl ?_
      refine g_iconst (v := (1 : Int32)) rfl zic_1 ?_
      refine g_iand rfl ?_
      exact g_iret rfl (Or.inl rfl) rfl
    · refine g_iconst (v := (-1 : Int32)) rfl zic_m1 ?_
      exact g_iret rfl (Or.inl rfl) rfl
theorem s_X_may (G : ZG) (a : Int32) (b : Int32) (c : Int32) (u : ZSt) (x : Int32 × ZSt) (hx : f_X_may a b c u = some x) : ZSpec G m_X_may 5 [.ref 0, .int a, .int b, .int c] u (zemI x) :=
  ZSpec.go k_X_may (Nat.le_of_ble_eq_true rfl) (w_X_may G a b c u) (tgt := zemI x) (by rw [hx]; rfl)
set_option maxRecDepth 100000 in
set_option maxHeartbeats 4000000 in
theorem w_M_isBundle (G : ZG) (a : Int32) (u : ZSt) : ZGo G m_M_isBundle 2 (f_M_isBundle a u) (zkP u) 0 [(0, .ref 39), (1, .int a)] [] u := by
  unfold f_M_isBundle
  refine g_iload_n rfl rfl ?_
  refine g_i2l rfl ?_
  refine g_lconst (v := (1 : Int64)) rfl rfl ?_
  refine g_iconst (v := (1 : Int32)) rfl zic_1 ?_
  refine g_aload_n rfl rfl ?_
  refine g_getI rfl zf_M_101 rfl rfl rfl ?_
  refine g_ishl rfl ?_
  refine g_iconst (v := (1 : Int32)) rfl zic_1 ?_
  refine g_isub rfl ?_
  refine g_i2l rfl ?_
  refine g_callSP (M' := m_M_within) (d' := 1) (as := [.long a.toInt64, .long (1 : Int64), .long ((((1 : Int32) <<< ((u.1 3907) &&& 31)) - (1 : Int32)).toInt64)]) (rest := []) rfl ml_M_97 v_M_within (by decide) rfl rfl (Nat.le_of_ble_eq_true rfl) (fun x_ e_ => s_M_within G a.toInt64 (1 : Int64) ((((1 : Int32) <<< ((u.1 3907) &&& 31)) - (1 : Int32)).toInt64) u x_ e_) (fun q1224 e1225 b1226 => ?_)
  exact g_iret rfl (Or.inr ⟨rfl, (zbo_i b1226)⟩) rfl
theorem s_M_isBundle (G : ZG) (a : Int32) (u : ZSt) (x : Int32) (hx : f_M_isBundle a u = some x) : ZSpec G m_M_isBundle 2 [.ref 39, .int a] u ((zemP u) x) :=
  ZSpec.go k_M_isBundle (Nat.le_of_ble_eq_true rfl) (w_M_isBundle G a u) (tgt := (zemP u) x) (by rw [hx]; rfl)
set_option maxRecDepth 100000 in
set_option maxHeartbeats 4000000 in
theorem w_M_areGifts (G : ZG) (a : Int32) (u : ZSt) : ZGo G m_M_areGifts 2 (f_M_areGifts a u) (zkP u) 0 [(0, .ref 39), (1, .int a)] [] u := by
  unfold f_M_areGifts
  refine g_iload_n rfl rfl ?_
  refine g_i2l rfl ?_
  refine g_lconst (v := (0 : Int64)) rfl rfl ?_
  refine g_iconst (v := (1 : Int32)) rfl zic_1 ?_
  refine g_aload_n rfl rfl ?_
  refine g_getI rfl zf_M_94 rfl rfl rfl ?_
  refine g_ishl rfl ?_
  refine g_iconst (v := (1 : Int32)) rfl zic_1 ?_
  refine g_isub rfl ?_
  refine g_i2l rfl ?_
  refine g_callSP (M' := m_M_within) (d' := 1) (as := [.long a.toInt64, .long (0 : Int64), .long ((((1 : Int32) <<< ((u.1 3906) &&& 31)) - (1 : Int32)).toInt64)]) (rest := []) rfl ml_M_97 v_M_within (by decide) rfl rfl (Nat.le_of_ble_eq_true rfl) (fun x_ e_ => s_M_within G a.toInt64 (0 : Int64) ((((1 : Int32) <<< ((u.1 3906) &&& 31)) - (1 : Int32)).toInt64) u x_ e_) (fun q1227 e1228 b1229 => ?_)
  exact g_iret rfl (Or.inr ⟨rfl, (zbo_i b1229)⟩) rfl
theorem s_M_areGifts (G : ZG) (a : Int32) (u : ZSt) (x : Int32) (hx : f_M_areGifts a u = some x) : ZSpec G m_M_areGifts 2 [.ref 39, .int a] u ((zemP u) x) :=
  ZSpec.go k_M_areGifts (Nat.le_of_ble_eq_true rfl) (w_M_areGifts G a u) (tgt := (zemP u) x) (by rw [hx]; rfl)
set_option maxRecDepth 100000 in
set_option maxHeartbeats 4000000 in
theorem wb_M_touches_24 (G : ZG) (l1 : Int32) (l2 : Int32) (l3 : Int32) (l4 : Int32) (l5 : Int32) (u : ZSt) (K : ((Int32 × ZSt) ⊕ (Int32 × ZSt)) → Option (Value × ZSt)) (hb : ∀ (l5 : Int32) (u : ZSt), ZGo G m_M_touches 2 (K (.inl (l5, u))) some 24 [(0, .ref 39), (1, .int l1), (2, .int l2), (3, .int l3), (4, .int l4), (5, .int l5)] [] u) (hx : ∀ (l5 : Int32) (u : ZSt), ZGo G m_M_touches 2 (K (.inr (l5, u))) some 70 [(0, .ref 39), (1, .int l1), (2, .int l2), (3, .int l3), (4, .int l4)] [] u) : ZGo G m_M_touches 2 (b_M_touches_24 l1 l2 l3 l4 l5 u) K 24 [(0, .ref 39), (1, .int l1), (2, .int l2), (3, .int l3), (4, .int l4), (5, .int l5)] [] u := by
  unfold b_M_touches_24
  refine g_iload rfl rfl ?_
  refine g_aload_n rfl rfl ?_
  refine g_getI rfl zf_M_101 rfl rfl rfl ?_
  refine g_icmpge rfl (fun c1235 => ?_) (fun c1235 => ?_)
  · exact zgo_sub (zsubk [0, 1, 2, 3, 4] rfl) (zgo_leaf (hx l5 u))
  · refine g_aload_n rfl rfl ?_
    refine g_getR rfl zf_M_37 rfl rfl ?_
    refine g_iload rfl rfl ?_
    refine g_dup2 rfl rfl rfl ?_
    refine g_iald rfl rfl (fun o1268 => ?_)
    refine g_iload_n rfl rfl ?_
    refine g_iload rfl rfl ?_
    refine g_callSP (M' := m_M_isIn) (d' := 1) (as := [.int l2, .int l5]) (rest := [.int (u.2.1 49 l4.toNatClampNeg), .int l4, .ref 49]) rfl ml_M_118 v_M_isIn (by decide) rfl rfl (Nat.le_of_ble_eq_true rfl) (fun x_ e_ => s_M_isIn G l2 l5 u x_ e_) (fun q1236 e1237 b1238 => ?_)
    refine g_ifeq rfl (fun c1239 => ?_) (fun c1239 => ?_)
    · refine g_iconst (v := (0 : Int32)) rfl zic_0 ?_
      refine g_iadd rfl ?_
      refine g_iast rfl rfl (fun o1251 => ?_)
      refine g_aload_n rfl rfl ?_
      refine g_getR rfl zf_M_40 rfl rfl ?_
      refine g_iload rfl rfl ?_
      refine g_dup2 rfl rfl rfl ?_
      refine zgo_iald (y := u.2.1 50 l4.toNatClampNeg) rfl rfl rfl (fun o1250 => ?_)
      refine g_iload_n rfl rfl ?_
      refine g_iload rfl rfl ?_
      refine g_callSP (M' := m_M_isIn) (d' := 1) (as := [.int l1, .int l5]) (rest := [.int (u.2.1 50 l4.toNatClampNeg), .int l4, .ref 50]) rfl ml_M_118 v_M_isIn (by decide) rfl rfl (Nat.le_of_ble_eq_true rfl) (fun x_ e_ => s_M_isIn G l1 l5 (za u 49 l4.toNatClampNeg ((u.2.1 49 l4.toNatClampNeg) + (0 : Int32))) x_ e_) (fun q1240 e1241 b1242 => ?_)
      refine g_ifeq rfl (fun c1243 => ?_) (fun c1243 => ?_)
      · refine g_iconst (v := (0 : Int32)) rfl zic_0 ?_
        refine g_iadd rfl ?_
        refine g_iast rfl rfl (fun o1244 => ?_)
        refine g_iinc (v := (1 : Int32)) (lv' := [(0, .ref 39), (1, .int l1), (2, .int l2), (3, .int l3), (4, .int l4), (5, .int (l5 + (1 : Int32)))]) rfl rfl zic_1 (Nat.le_of_ble_eq_true rfl) rfl rfl ?_
        refine g_goto rfl ?_
        exact zgo_sub (zsubk [0, 1, 2, 3, 4, 5] rfl) (zgo_leaf (hb (l5 + (1 : Int32)) (za (za u 49 l4.toNatClampNeg ((u.2.1 49 l4.toNatClampNeg) + (0 : Int32))) 50 l4.toNatClampNeg ((u.2.1 50 l4.toNatClampNeg) + (0 : Int32)))))
      · refine g_aload_n rfl rfl ?_
        refine g_getR rfl zf_M_9 rfl rfl ?_
        refine g_bipush (v := (60 : Int32)) rfl zib_60 ?_
        refine g_iload rfl rfl ?_
        refine g_iload rfl rfl ?_
        refine g_callSP (M' := m_M_placeOf) (d' := 1) (as := [.int l4, .int l5]) (rest := [.int (60 : Int32), .ref 40, .int (u.2.1 50 l4.toNatClampNeg), .int l4, .ref 50]) rfl ml_M_128 v_M_placeOf (by decide) rfl rfl (Nat.le_of_ble_eq_true rfl) (fun x_ e_ => s_M_placeOf G l4 l5 (za u 49 l4.toNatClampNeg ((u.2.1 49 l4.toNatClampNeg) + (0 : Int32))) x_ e_) (fun q1245 e1246 b1247 => ?_)
        refine g_iadd rfl ?_
        refine zgo_iald (y := u.2.1 40 ((60 : Int32) + q1245).toNatClampNeg) rfl rfl rfl (fun o1249 => ?_)
        refine g_goto rfl ?_
        refine g_iadd rfl ?_
        refine g_iast rfl rfl (fun o1248 => ?_)
        refine g_iinc (v := (1 : Int32)) (lv' := [(0, .ref 39), (1, .int l1), (2, .int l2), (3, .int l3), (4, .int l4), (5, .int (l5 + (1 : Int32)))]) rfl rfl zic_1 (Nat.le_of_ble_eq_true rfl) rfl rfl ?_
        refine g_goto rfl ?_
        exact zgo_sub (zsubk [0, 1, 2, 3, 4, 5] rfl) (zgo_leaf (hb (l5 + (1 : Int32)) (za (za u 49 l4.toNatClampNeg ((u.2.1 49 l4.toNatClampNeg) + (0 : Int32))) 50 l4.toNatClampNeg ((u.2.1 50 l4.toNatClampNeg) + (u.2.1 40 ((60 : Int32) + q1245).toNatClampNeg)))))
    · refine g_aload_n rfl rfl ?_
      refine g_getR rfl zf_M_9 rfl rfl ?_
      refine g_iload rfl rfl ?_
      refine g_iload rfl rfl ?_
      refine g_callSP (M' := m_M_placeOf) (d' := 1) (as := [.int l4, .int l5]) (rest := [.ref 40, .int (u.2.1 49 l4.toNatClampNeg), .int l4, .ref 49]) rfl ml_M_128 v_M_placeOf (by decide) rfl rfl (Nat.le_of_ble_eq_true rfl) (fun x_ e_ => s_M_placeOf G l4 l5 u x_ e_) (fun q1252 e1253 b1254 => ?_)
      refine g_iald rfl rfl (fun o1267 => ?_)
      refine g_goto rfl ?_
      refine g_iadd rfl ?_
      refine g_iast rfl rfl (fun o1266 => ?_)
      refine g_aload_n rfl rfl ?_
      refine g_getR rfl zf_M_40 rfl rfl ?_
      refine g_iload rfl rfl ?_
      refine g_dup2 rfl rfl rfl ?_
      refine zgo_iald (y := u.2.1 50 l4.toNatClampNeg) rfl rfl rfl (fun o1265 => ?_)
      refine g_iload_n rfl rfl ?_
      refine g_iload rfl rfl ?_
      refine g_callSP (M' := m_M_isIn) (d' := 1) (as := [.int l1, .int l5]) (rest := [.int (u.2.1 50 l4.toNatClampNeg), .int l4, .ref 50]) rfl ml_M_118 v_M_isIn (by decide) rfl rfl (Nat.le_of_ble_eq_true rfl) (fun x_ e_ => s_M_isIn G l1 l5 (za u 49 l4.toNatClampNeg ((u.2.1 49 l4.toNatClampNeg) + (u.2.1 40 q1252.toNatClampNeg))) x_ e_) (fun q1255 e1256 b1257 => ?_)
      refine g_ifeq rfl (fun c1258 => ?_) (fun c1258 => ?_)
      · refine g_iconst (v := (0 : Int32)) rfl zic_0 ?_
        refine g_iadd rfl ?_
        refine g_iast rfl rfl (fun o1259 => ?_)
        refine g_iinc (v := (1 : Int32)) (lv' := [(0, .ref 39), (1, .int l1), (2, .int l2), (3, .int l3), (4, .int l4), (5, .int (l5 + (1 : Int32)))]) rfl rfl zic_1 (Nat.le_of_ble_eq_true rfl) rfl rfl ?_
        refine g_goto rfl ?_
        exact zgo_sub (zsubk [0, 1, 2, 3, 4, 5] rfl) (zgo_leaf (hb (l5 + (1 : Int32)) (za (za u 49 l4.toNatClampNeg ((u.2.1 49 l4.toNatClampNeg) + (u.2.1 40 q1252.toNatClampNeg))) 50 l4.toNatClampNeg ((u.2.1 50 l4.toNatClampNeg) + (0 : Int32)))))
      · refine g_aload_n rfl rfl ?_
        refine g_getR rfl zf_M_9 rfl rfl ?_
        refine g_bipush (v := (60 : Int32)) rfl zib_60 ?_
        refine g_iload rfl rfl ?_
        refine g_iload rfl rfl ?_
        refine g_callSP (M' := m_M_placeOf) (d' := 1) (as := [.int l4, .int l5]) (rest := [.int (60 : Int32), .ref 40, .int (u.2.1 50 l4.toNatClampNeg), .int l4, .ref 50]) rfl ml_M_128 v_M_placeOf (by decide) rfl rfl (Nat.le_of_ble_eq_true rfl) (fun x_ e_ => s_M_placeOf G l4 l5 (za u 49 l4.toNatClampNeg ((u.2.1 49 l4.toNatClampNeg) + (u.2.1 40 q1252.toNatClampNeg))) x_ e_) (fun q1260 e1261 b1262 => ?_)
        refine g_iadd rfl ?_
        refine zgo_iald (y := u.2.1 40 ((60 : Int32) + q1260).toNatClampNeg) rfl rfl rfl (fun o1264 => ?_)
        refine g_goto rfl ?_
        refine g_iadd rfl ?_
        refine g_iast rfl rfl (fun o1263 => ?_)
        refine g_iinc (v := (1 : Int32)) (lv' := [(0, .ref 39), (1, .int l1), (2, .int l2), (3, .int l3), (4, .int l4), (5, .int (l5 + (1 : Int32)))]) rfl rfl zic_1 (Nat.le_of_ble_eq_true rfl) rfl rfl ?_
        refine g_goto rfl ?_
        exact zgo_sub (zsubk [0, 1, 2, 3, 4, 5] rfl) (zgo_leaf (hb (l5 + (1 : Int32)) (za (za u 49 l4.toNatClampNeg ((u.2.1 49 l4.toNatClampNeg) + (u.2.1 40 q1252.toNatClampNeg))) 50 l4.toNatClampNeg ((u.2.1 50 l4.toNatClampNeg) + (u.2.1 40 ((60 : Int32) + q1260).toNatClampNeg)))))
set_option maxRecDepth 100000 in
set_option maxHeartbeats 4000000 in
theorem wa_M_touches_24 (G : ZG) (l1 : Int32) (l2 : Int32) (l3 : Int32) (l4 : Int32) (u : ZSt) (K : ((Int32 × ZSt) ⊕ (Int32 × ZSt)) → Option (Value × ZSt)) (hb : ∀ (l4 : Int32) (u : ZSt), ZGo G m_M_touches 2 (K (.inl (l4, u))) some 2 [(0, .ref 39), (1, .int l1), (2, .int l2), (3, .int l3), (4, .int l4)] [] u) (hx : ∀ (l4 : Int32) (u : ZSt), ZGo G m_M_touches 2 (K (.inr (l4, u))) some 72 [] [] u) : ZGo G m_M_touches 2 (a_M_touches_24 l1 l2 l3 l4 u) K 70 [(0, .ref 39), (1, .int l1), (2, .int l2), (3, .int l3), (4, .int l4)] [] u := by
  unfold a_M_touches_24
  refine g_iinc (v := (1 : Int32)) (lv' := [(0, .ref 39), (1, .int l1), (2, .int l2), (3, .int l3), (4, .int (l4 + (1 : Int32)))]) rfl rfl zic_1 (Nat.le_of_ble_eq_true rfl) rfl rfl ?_
  refine g_goto rfl ?_
  exact zgo_sub (zsubk [0, 1, 2, 3, 4] rfl) (zgo_leaf (hb (l4 + (1 : Int32)) u))
set_option maxRecDepth 100000 in
set_option maxHeartbeats 4000000 in
theorem wb_M_touches_2 (G : ZG) (l1 : Int32) (l2 : Int32) (l3 : Int32) (l4 : Int32) (u : ZSt) (K : ((Int32 × ZSt) ⊕ (Int32 × ZSt)) → Option (Value × ZSt)) (hb : ∀ (l4 : Int32) (u : ZSt), ZGo G m_M_touches 2 (K (.inl (l4, u))) some 2 [(0, .ref 39), (1, .int l1), (2, .int l2), (3, .int l3), (4, .int l4)] [] u) (hx : ∀ (l4 : Int32) (u : ZSt), ZGo G m_M_touches 2 (K (.inr (l4, u))) some 72 [] [] u) : ZGo G m_M_touches 2 (b_M_touches_2 l1 l2 l3 l4 u) K 2 [(0, .ref 39), (1, .int l1), (2, .int l2), (3, .int l3), (4, .int l4)] [] u := by
  unfold b_M_touches_2
  refine g_iload rfl rfl ?_
  refine g_aload_n rfl rfl ?_
  refine g_getI rfl zf_M_94 rfl rfl rfl ?_
  refine g_icmpge rfl (fun c1230 => ?_) (fun c1230 => ?_)
  · exact zgo_sub (zsubk [] rfl) (zgo_leaf (hx l4 u))
  · refine g_aload_n rfl rfl ?_
    refine g_getR rfl zf_M_37 rfl rfl ?_
    refine g_iload rfl rfl ?_
    refine g_iload_n rfl rfl ?_
    refine g_iload rfl rfl ?_
    refine g_callSP (M' := m_M_isIn) (d' := 1) (as := [.int l3, .int l4]) (rest := [.int l4, .ref 49]) rfl ml_M_118 v_M_isIn (by decide) rfl rfl (Nat.le_of_ble_eq_true rfl) (fun x_ e_ => s_M_isIn G l3 l4 u x_ e_) (fun q1231 e1232 b1233 => ?_)
    refine g_ifeq rfl (fun c1234 => ?_) (fun c1234 => ?_)
    · refine g_iconst (v := (0 : Int32)) rfl zic_0 ?_
      refine g_iast rfl rfl (fun o1270 => ?_)
      refine g_aload_n rfl rfl ?_
      refine g_getR rfl zf_M_40 rfl rfl ?_
      refine g_iload rfl rfl ?_
      refine g_iconst (v := (0 : Int32)) rfl zic_0 ?_
      refine g_iast rfl rfl (fun o1269 => ?_)
      refine g_iconst (v := (0 : Int32)) rfl zic_0 ?_
      refine g_istore (lv' := [(0, .ref 39), (1, .int l1), (2, .int l2), (3, .int l3), (4, .int l4), (5, .int (0 : Int32))]) rfl (Nat.le_of_ble_eq_true rfl) rfl rfl ?_
      refine zgo_sub (lv' := [(0, .ref 39), (1, .int l1), (2, .int l2), (3, .int l3), (4, .int l4), (5, .int (0 : Int32))]) (zsubk [0, 1, 2, 3, 4, 5] rfl) ?_
      refine zgo_loop (σ := Int32 × ZSt) (lvf := fun s => [(0, .ref 39), (1, .int l1), (2, .int l2), (3, .int l3), (4, .int l4), (5, .int s.1)]) (uf := (fun s => s.2)) ?_ zfu _
      intro s K' ih he
      refine wb_M_touches_24 G l1 l2 l3 l4 s.1 s.2 K' ?_ ?_
      · intro c0 v
        exact ih (c0, v)
      · intro c0 v
        rw [he]
        exact zgo_unleaf (wa_M_touches_24 G l1 l2 l3 l4 v K hb hx)
    · refine g_iconst (v := (1 : Int32)) rfl zic_1 ?_
      refine g_goto rfl ?_
      refine g_iast rfl rfl (fun o1272 => ?_)
      refine g_aload_n rfl rfl ?_
      refine g_getR rfl zf_M_40 rfl rfl ?_
      refine g_iload rfl rfl ?_
      refine g_iconst (v := (0 : Int32)) rfl zic_0 ?_
      refine g_iast rfl rfl (fun o1271 => ?_)
      refine g_iconst (v := (0 : Int32)) rfl zic_0 ?_
      refine g_istore (lv' := [(0, .ref 39), (1, .int l1), (2, .int l2), (3, .int l3), (4, .int l4), (5, .int (0 : Int32))]) rfl (Nat.le_of_ble_eq_true rfl) rfl rfl ?_
      refine zgo_sub (lv' := [(0, .ref 39), (1, .int l1), (2, .int l2), (3, .int l3), (4, .int l4), (5, .int (0 : Int32))]) (zsubk [0, 1, 2, 3, 4, 5] rfl) ?_
      refine zgo_loop (σ := Int32 × ZSt) (lvf := fun s => [(0, .ref 39), (1, .int l1), (2, .int l2), (3, .int l3), (4, .int l4), (5, .int s.1)]) (uf := (fun s => s.2)) ?_ zfu _
      intro s K' ih he
      refine wb_M_touches_24 G l1 l2 l3 l4 s.1 s.2 K' ?_ ?_
      · intro c0 v
        exact ih (c0, v)
      · intro c0 v
        rw [he]
        exact zgo_unleaf (wa_M_touches_24 G l1 l2 l3 l4 v K hb hx)
set_option maxRecDepth 100000 in
set_option maxHeartbeats 4000000 in
theorem wa_M_touches_2 (G : ZG) (u : ZSt) : ZGo G m_M_touches 2 (a_M_touches_2 u) zkV 72 [] [] u := by
  unfold a_M_touches_2
  exact g_vret rfl rfl rfl
set_option maxRecDepth 100000 in
set_option maxHeartbeats 4000000 in
theorem w_M_touches (G : ZG) (a : Int32) (b : Int32) (c : Int32) (u : ZSt) : ZGo G m_M_touches 2 (f_M_touches a b c u) zkV 0 [(0, .ref 39), (1, .int a), (2, .int b), (3, .int c)] [] u := by
  unfold f_M_touches
  refine g_iconst (v := (0 : Int32)) rfl zic_0 ?_
  refine g_istore (lv' := [(0, .ref 39), (1, .int a), (2, .int b), (3, .int c), (4, .int (0 : Int32))]) rfl (Nat.le_of_ble_eq_true rfl) rfl rfl ?_
  refine zgo_sub (lv' := [(0, .ref 39), (1, .int a), (2, .int b), (3, .int c), (4, .int (0 : Int32))]) (zsubk [0, 1, 2, 3, 4] rfl) ?_
  refine zgo_loop (σ := Int32 × ZSt) (lvf := fun s => [(0, .ref 39), (1, .int a), (2, .int b), (3, .int c), (4, .int s.1)]) (uf := (fun s => s.2)) ?_ zfu _
  intro s K' ih he
  refine wb_M_touches_2 G a b c s.1 s.2 K' ?_ ?_
  · intro c0 v
    exact ih (c0, v)
  · intro c0 v
    rw [he]
    exact zgo_unleaf (wa_M_touches_2 G  v)
theorem s_M_touches (G : ZG) (a : Int32) (b : Int32) (c : Int32) (u : ZSt) (x : ZSt) (hx : f_M_touches a b c u = some x) : ZSpec G m_M_touches 2 [.ref 39, .int a, .int b, .int c] u (zemV x) :=
  ZSpec.go k_M_touches (Nat.le_of_ble_eq_true rfl) (w_M_touches G a b c u) (tgt := zemV x) (by rw [hx]; rfl)
set_option maxRecDepth 100000 in
set_option maxHeartbeats 4000000 in
theorem wb_M_nearOf_4 (G : ZG) (l1 : Int32) (l2 : Int32) (l3 : Int32) (u : ZSt) (K : ((Int32 × Int32) ⊕ (Int32 × Int32)) → Option (Value × ZSt)) (hb : ∀ (l2 : Int32) (l3 : Int32), ZGo G m_M_nearOf 3 (K (.inl (l2, l3))) some 4 [(0, .ref 39), (1, .int l1), (2, .int l2), (3, .int l3)] [] u) (hx : ∀ (l2 : Int32) (l3 : Int32), ZGo G m_M_nearOf 3 (K (.inr (l2, l3))) some 26 [(0, .ref 39), (1, .int l1), (2, .int l2)] [] u) : ZGo G m_M_nearOf 3 (b_M_nearOf_4 l1 l2 l3 u) K 4 [(0, .ref 39), (1, .int l1), (2, .int l2), (3, .int l3)] [] u := by
  unfold b_M_nearOf_4
  refine g_iload_n rfl rfl ?_
  refine g_aload_n rfl rfl ?_
  refine g_getI rfl zf_M_94 rfl rfl rfl ?_
  refine g_icmpge rfl (fun c1273 => ?_) (fun c1273 => ?_)
  · exact zgo_sub (zsubk [0, 1, 2] rfl) (zgo_leaf (hx l2 l3))
  · refine g_iload_n rfl rfl ?_
    refine g_iload_n rfl rfl ?_
    refine g_iload_n rfl rfl ?_
    refine g_icmpeq rfl (fun c1274 => ?_) (fun c1274 => ?_)
    · refine g_iconst (v := (0 : Int32)) rfl zic_0 ?_
      refine g_ior rfl ?_
      refine g_istore_n (lv' := [(0, .ref 39), (1, .int l1), (2, .int (l2 ||| (0 : Int32))), (3, .int l3)]) rfl (Nat.le_of_ble_eq_true rfl) rfl rfl ?_
      refine g_iinc (v := (1 : Int32)) (lv' := [(0, .ref 39), (1, .int l1), (2, .int (l2 ||| (0 : Int32))), (3, .int (l3 + (1 : Int32)))]) rfl rfl zic_1 (Nat.le_of_ble_eq_true rfl) rfl rfl ?_
      refine g_goto rfl ?_
      exact zgo_sub (zsubk [0, 1, 2, 3] rfl) (zgo_leaf (hb (l2 ||| (0 : Int32)) (l3 + (1 : Int32))))
    · refine g_aload_n rfl rfl ?_
      refine g_getR rfl zf_M_37 rfl rfl ?_
      refine g_iload_n rfl rfl ?_
      refine g_iald rfl rfl (fun o1276 => ?_)
      refine g_ifle rfl (fun c1275 => ?_) (fun c1275 => ?_)
      · refine g_iconst (v := (0 : Int32)) rfl zic_0 ?_
        refine g_ior rfl ?_
        refine g_istore_n (lv' := [(0, .ref 39), (1, .int l1), (2, .int (l2 ||| (0 : Int32))), (3, .int l3)]) rfl (Nat.le_of_ble_eq_true rfl) rfl rfl ?_
        refine g_iinc (v := (1 : Int32)) (lv' := [(0, .ref 39), (1, .int l1), (2, .int (l2 ||| (0 : Int32))), (3, .int (l3 + (1 : Int32)))]) rfl rfl zic_1 (Nat.le_of_ble_eq_true rfl) rfl rfl ?_
        refine g_goto rfl ?_
        exact zgo_sub (zsubk [0, 1, 2, 3] rfl) (zgo_leaf (hb (l2 ||| (0 : Int32)) (l3 + (1 : Int32))))
      · refine g_iconst (v := (1 : Int32)) rfl zic_1 ?_
        refine g_iload_n rfl rfl ?_
        refine g_ishl rfl ?_
        refine g_goto rfl ?_
        refine g_ior rfl ?_
        refine g_istore_n (lv' := [(0, .ref 39), (1, .int l1), (2, .int (l2 ||| ((1 : Int32) <<< (l3 &&& 31)))), (3, .int l3)]) rfl (Nat.le_of_ble_eq_true rfl) rfl rfl ?_
        refine g_iinc (v := (1 : Int32)) (lv' := [(0, .ref 39), (1, .int l1), (2, .int (l2 ||| ((1 : Int32) <<< (l3 &&& 31)))), (3, .int (l3 + (1 : Int32)))]) rfl rfl zic_1 (Nat.le_of_ble_eq_true rfl) rfl rfl ?_
        refine g_goto rfl ?_
        exact zgo_sub (zsubk [0, 1, 2, 3] rfl) (zgo_leaf (hb (l2 ||| ((1 : Int32) <<< (l3 &&& 31))) (l3 + (1 : Int32))))
set_option maxRecDepth 100000 in
set_option maxHeartbeats 4000000 in
theorem wa_M_nearOf_4 (G : ZG) (l1 : Int32) (l2 : Int32) (u : ZSt) : ZGo G m_M_nearOf 3 (a_M_nearOf_4 l1 l2 u) (zkP u) 26 [(0, .ref 39), (1, .int l1), (2, .int l2)] [] u := by
  unfold a_M_nearOf_4
  refine g_aload_n rfl rfl ?_
  refine g_iload_n rfl rfl ?_
  refine g_iload_n rfl rfl ?_
  refine g_callVP (M' := m_M_stepsTo) (d' := 2) (as := [.int l1, .int l2]) (rest := []) (ci := 11) (o := 39) rfl ml_M_144 v_M_stepsTo (by decide) rfl (by decide) rfl rfl rfl (Nat.le_of_ble_eq_true rfl) (fun x_ e_ => s_M_stepsTo G l1 l2 u x_ e_) (fun q1277 e1278 b1279 => ?_)
  exact g_iret rfl (Or.inl rfl) rfl
set_option maxRecDepth 100000 in
set_option maxHeartbeats 4000000 in
theorem w_M_nearOf (G : ZG) (a : Int32) (u : ZSt) : ZGo G m_M_nearOf 3 (f_M_nearOf a u) (zkP u) 0 [(0, .ref 39), (1, .int a)] [] u := by
  unfold f_M_nearOf
  refine g_iconst (v := (0 : Int32)) rfl zic_0 ?_
  refine g_istore_n (lv' := [(0, .ref 39), (1, .int a), (2, .int (0 : Int32))]) rfl (Nat.le_of_ble_eq_true rfl) rfl rfl ?_
  refine g_iconst (v := (0 : Int32)) rfl zic_0 ?_
  refine g_istore_n (lv' := [(0, .ref 39), (1, .int a), (2, .int (0 : Int32)), (3, .int (0 : Int32))]) rfl (Nat.le_of_ble_eq_true rfl) rfl rfl ?_
  refine zgo_sub (lv' := [(0, .ref 39), (1, .int a), (2, .int (0 : Int32)), (3, .int (0 : Int32))]) (zsubk [0, 1, 2, 3] rfl) ?_
  refine zgo_loop (σ := Int32 × Int32) (lvf := fun s => [(0, .ref 39), (1, .int a), (2, .int s.1), (3, .int s.2)]) (uf := (fun _ => u)) ?_ zfu _
  intro s K' ih he
  refine wb_M_nearOf_4 G a s.1 s.2 u K' ?_ ?_
  · intro c0 c1
    exact ih (c0, c1)
  · intro c0 c1
    rw [he]
    exact zgo_unleaf (wa_M_nearOf_4 G a c0 u)
theorem s_M_nearOf (G : ZG) (a : Int32) (u : ZSt) (x : Int32) (hx : f_M_nearOf a u = some x) : ZSpec G m_M_nearOf 3 [.ref 39, .int a] u ((zemP u) x) :=
  ZSpec.go k_M_nearOf (Nat.le_of_ble_eq_true rfl) (w_M_nearOf G a u) (tgt := (zemP u) x) (by rw [hx]; rfl)
set_option maxRecDepth 100000 in
set_option maxHeartbeats 4000000 in
theorem wb_M_bitsOf_4 (G : ZG) (l1 : Int32) (l2 : Int32) (u : ZSt) (K : ((Int32 × Int32) ⊕ (Int32 × Int32)) → Option (Value × ZSt)) (hb : ∀ (l1 : Int32) (l2 : Int32), ZGo G m_M_bitsOf 1 (K (.inl (l1, l2))) some 4 [(1, .int l1), (2, .int l2)] [] u) (hx : ∀ (l1 : Int32) (l2 : Int32), ZGo G m_M_bitsOf 1 (K (.inr (l1, l2))) some 14 [(1, .int l1)] [] u) : ZGo G m_M_bitsOf 1 (b_M_bitsOf_4 l1 l2 ) K 4 [(1, .int l1), (2, .int l2)] [] u := by
  unfold b_M_bitsOf_4
  refine g_iload_n rfl rfl ?_
  refine g_ifeq rfl (fun c1280 => ?_) (fun c1280 => ?_)
  · exact zgo_sub (zsubk [0] rfl) (zgo_leaf (hx l1 l2))
  · refine g_iinc (v := (1 : Int32)) (lv' := [(1, .int (l1 + (1 : Int32))), (2, .int l2)]) rfl rfl zic_1 (Nat.le_of_ble_eq_true rfl) rfl rfl ?_
    refine g_iload_n rfl rfl ?_
    refine g_iload_n rfl rfl ?_
    refine g_iconst (v := (1 : Int32)) rfl zic_1 ?_
    refine g_isub rfl ?_
    refine g_iand rfl ?_
    refine g_istore_n (lv' := [(1, .int (l1 + (1 : Int32))), (2, .int (l2 &&& (l2 - (1 : Int32))))]) rfl (Nat.le_of_ble_eq_true rfl) rfl rfl ?_
    refine g_goto rfl ?_
    exact zgo_sub (zsubk [0, 1] rfl) (zgo_leaf (hb (l1 + (1 : Int32)) (l2 &&& (l2 - (1 : Int32)))))
set_option maxRecDepth 100000 in
set_option maxHeartbeats 4000000 in
theorem wa_M_bitsOf_4 (G : ZG) (l1 : Int32) (u : ZSt) : ZGo G m_M_bitsOf 1 (a_M_bitsOf_4 l1 ) (zkP u) 14 [(1, .int l1)] [] u := by
  unfold a_M_bitsOf_4
  refine g_iload_n rfl rfl ?_
  exact g_iret rfl (Or.inl rfl) rfl
set_option maxRecDepth 100000 in
set_option maxHeartbeats 4000000 in
theorem w_M_bitsOf (G : ZG) (a : Int32) (u : ZSt) : ZGo G m_M_bitsOf 1 (f_M_bitsOf a) (zkP u) 0 [(0, .int a)] [] u := by
  unfold f_M_bitsOf
  refine g_iconst (v := (0 : Int32)) rfl zic_0 ?_
  refine g_istore_n (lv' := [(0, .int a), (1, .int (0 : Int32))]) rfl (Nat.le_of_ble_eq_true rfl) rfl rfl ?_
  refine g_iload_n rfl rfl ?_
  refine g_istore_n (lv' := [(0, .int a), (1, .int (0 : Int32)), (2, .int a)]) rfl (Nat.le_of_ble_eq_true rfl) rfl rfl ?_
  refine zgo_sub (lv' := [(1, .int (0 : Int32)), (2, .int a)]) (zsubk [1, 2] rfl) ?_
  refine zgo_loop (σ := Int32 × Int32) (lvf := fun s => [(1, .int s.1), (2, .int s.2)]) (uf := (fun _ => u)) ?_ zfu _
  intro s K' ih he
  refine wb_M_bitsOf_4 G s.1 s.2 u K' ?_ ?_
  · intro c0 c1
    exact ih (c0, c1)
  · intro c0 c1
    rw [he]
    exact zgo_unleaf (wa_M_bitsOf_4 G c0 u)
theorem s_M_bitsOf (G : ZG) (a : Int32) (u : ZSt) (x : Int32) (hx : f_M_bitsOf a = some x) : ZSpec G m_M_bitsOf 1 [.int a] u ((zemP u) x) :=
  ZSpec.go k_M_bitsOf (Nat.le_of_ble_eq_true rfl) (w_M_bitsOf G a u) (tgt := (zemP u) x) (by rw [hx]; rfl)
set_option maxRecDepth 100000 in
set_option maxHeartbeats 4000000 in
theorem w_M_mayVote (G : ZG) (a : Int32) (b : Int32) (c : Int32) (u : ZSt) : ZGo G m_M_mayVote 105 (f_M_mayVote a b c u) zkI 0 [(0, .ref 39), (1, .int a), (2, .int b), (3, .int c)] [] u := by
  unfold f_M_mayVote
  refine g_aload_n rfl rfl ?_
  refine g_iload_n rfl rfl ?_
  refine g_callVP (M' := m_M_nearOf) (d' := 3) (as := [.int a]) (rest := []) (ci := 11) (o := 39) rfl ml_M_202 v_M_nearOf (by decide) rfl (by decide) rfl rfl rfl (Nat.le_of_ble_eq_true rfl) (fun x_ e_ => s_M_nearOf G a u x_ e_) (fun q1281 e1282 b1283 => ?_)
  refine g_istore (lv' := [(0, .ref 39), (1, .int a), (2, .int b), (3, .int c), (4, .int q1281)]) rfl (Nat.le_of_ble_eq_true rfl) rfl rfl ?_
  refine g_aload_n rfl rfl ?_
  refine g_getI rfl zf_M_78 rfl rfl rfl ?_
  refine g_ifge rfl (fun c1284 => ?_) (fun c1284 => ?_)
  · refine g_aload_n rfl rfl ?_
    refine g_getR rfl zf_M_34 rfl rfl ?_
    refine g_iconst (v := (0 : Int32)) rfl zic_0 ?_
    refine g_aload_n rfl rfl ?_
    refine g_getR rfl zf_M_37 rfl rfl ?_
    refine g_iload_n rfl rfl ?_
    refine g_iald rfl rfl (fun o1301 => ?_)
    refine zgo_of_ck (c := zin (0 : Int32) 6) (by decide) (g_iast rfl rfl (fun _ => ?_))
    refine g_aload_n rfl rfl ?_
    refine g_getR rfl zf_M_34 rfl rfl ?_
    refine g_iconst (v := (1 : Int32)) rfl zic_1 ?_
    refine g_iload rfl rfl ?_
    refine zgo_of_ck (c := zin (1 : Int32) 6) (by decide) (g_iast rfl rfl (fun _ => ?_))
    refine g_aload_n rfl rfl ?_
    refine g_getR rfl zf_M_34 rfl rfl ?_
    refine g_iconst (v := (2 : Int32)) rfl zic_2 ?_
    refine g_aload_n rfl rfl ?_
    refine g_getR rfl zf_M_40 rfl rfl ?_
    refine g_iload_n rfl rfl ?_
    refine zgo_iald (y := u.2.1 50 a.toNatClampNeg) rfl rfl rfl (fun o1300 => ?_)
    refine zgo_of_ck (c := zin (2 : Int32) 6) (by decide) (g_iast rfl rfl (fun _ => ?_))
    refine g_aload_n rfl rfl ?_
    refine g_getR rfl zf_M_34 rfl rfl ?_
    refine g_iconst (v := (3 : Int32)) rfl zic_3 ?_
    refine g_iload_n rfl rfl ?_
    refine zgo_of_ck (c := zin (3 : Int32) 6) (by decide) (g_iast rfl rfl (fun _ => ?_))
    refine g_aload_n rfl rfl ?_
    refine g_getR rfl zf_M_34 rfl rfl ?_
    refine g_iconst (v := (4 : Int32)) rfl zic_4 ?_
    refine g_iload_n rfl rfl ?_
    refine g_callSP (M' := m_M_bitsOf) (d' := 1) (as := [.int b]) (rest := [.int (4 : Int32), .ref 48]) rfl ml_M_205 v_M_bitsOf (by decide) rfl rfl (Nat.le_of_ble_eq_true rfl) (fun x_ e_ => s_M_bitsOf G b (za (za (za (za u 48 ((0 : Int32).toNatClampNeg) (u.2.1 49 a.toNatClampNeg)) 48 ((1 : Int32).toNatClampNeg) q1281) 48 ((2 : Int32).toNatClampNeg) (u.2.1 50 a.toNatClampNeg)) 48 ((3 : Int32).toNatClampNeg) a) x_ e_) (fun q1285 e1286 b1287 => ?_)
    refine zgo_of_ck (c := zin (4 : Int32) 6) (by decide) (g_iast rfl rfl (fun _ => ?_))
    refine g_aload_n rfl rfl ?_
    refine g_getR rfl zf_M_34 rfl rfl ?_
    refine g_iconst (v := (5 : Int32)) rfl zic_5 ?_
    refine g_iload_n rfl rfl ?_
    refine g_iload_n rfl rfl ?_
    refine g_callSP (M' := m_M_isIn) (d' := 1) (as := [.int c, .int a]) (rest := [.int (5 : Int32), .ref 48]) rfl ml_M_118 v_M_isIn (by decide) rfl rfl (Nat.le_of_ble_eq_true rfl) (fun x_ e_ => s_M_isIn G c a (za (za (za (za (za u 48 ((0 : Int32).toNatClampNeg) (u.2.1 49 a.toNatClampNeg)) 48 ((1 : Int32).toNatClampNeg) q1281) 48 ((2 : Int32).toNatClampNeg) (u.2.1 50 a.toNatClampNeg)) 48 ((3 : Int32).toNatClampNeg) a) 48 ((4 : Int32).toNatClampNeg) q1285) x_ e_) (fun q1288 e1289 b1290 => ?_)
    refine g_ifeq rfl (fun c1291 => ?_) (fun c1291 => ?_)
    · refine g_iconst (v := (0 : Int32)) rfl zic_0 ?_
      refine zgo_of_ck (c := zin (5 : Int32) 6) (by decide) (g_iast rfl rfl (fun _ => ?_))
      refine g_aload_n rfl rfl ?_
      refine g_iconst (v := (0 : Int32)) rfl zic_0 ?_
      refine g_aload_n rfl rfl ?_
      refine g_getIx (x := u.1 3916) rfl zf_M_78 rfl rfl rfl rfl ?_
      refine g_callVI (M' := m_M_workOut) (d' := 104) (as := [.int (0 : Int32), .int (u.1 3916)]) (rest := []) (ci := 11) (o := 39) rfl ml_M_199 v_M_workOut (by decide) rfl (by decide) rfl rfl rfl (Nat.le_of_ble_eq_true rfl) (fun x_ e_ => s_M_workOut G (0 : Int32) (u.1 3916) (za (za (za (za (za (za u 48 ((0 : Int32).toNatClampNeg) (u.2.1 49 a.toNatClampNeg)) 48 ((1 : Int32).toNatClampNeg) q1281) 48 ((2 : Int32).toNatClampNeg) (u.2.1 50 a.toNatClampNeg)) 48 ((3 : Int32).toNatClampNeg) a) 48 ((4 : Int32).toNatClampNeg) q1285) 48 ((5 : Int32).toNatClampNeg) (0 : Int32)) x_ e_) (fun q1292r q1292u e1293 b1294 => ?_)
      refine g_ifeq rfl (fun c1295 => ?_) (fun c1295 => ?_)
      · refine g_iconst (v := (0 : Int32)) rfl zic_0 ?_
        exact g_iret rfl (Or.inr ⟨rfl, Or.inl rfl⟩) rfl
      · refine g_iconst (v := (1 : Int32)) rfl zic_1 ?_
        refine g_goto rfl ?_
        exact g_iret rfl (Or.inr ⟨rfl, Or.inr rfl⟩) rfl
    · refine g_iconst (v := (1 : Int32)) rfl zic_1 ?_
      refine g_goto rfl ?_
      refine zgo_of_ck (c := zin (5 : Int32) 6) (by decide) (g_iast rfl rfl (fun _ => ?_))
      refine g_aload_n rfl rfl ?_
      refine g_iconst (v := (0 : Int32)) rfl zic_0 ?_
      refine g_aload_n rfl rfl ?_
      refine g_getIx (x := u.1 3916) rfl zf_M_78 rfl rfl rfl rfl ?_
      refine g_callVI (M' := m_M_workOut) (d' := 104) (as := [.int (0 : Int32), .int (u.1 3916)]) (rest := []) (ci := 11) (o := 39) rfl ml_M_199 v_M_workOut (by decide) rfl (by decide) rfl rfl rfl (Nat.le_of_ble_eq_true rfl) (fun x_ e_ => s_M_workOut G (0 : Int32) (u.1 3916) (za (za (za (za (za (za u 48 ((0 : Int32).toNatClampNeg) (u.2.1 49 a.toNatClampNeg)) 48 ((1 : Int32).toNatClampNeg) q1281) 48 ((2 : Int32).toNatClampNeg) (u.2.1 50 a.toNatClampNeg)) 48 ((3 : Int32).toNatClampNeg) a) 48 ((4 : Int32).toNatClampNeg) q1285) 48 ((5 : Int32).toNatClampNeg) (1 : Int32)) x_ e_) (fun q1296r q1296u e1297 b1298 => ?_)
      refine g_ifeq rfl (fun c1299 => ?_) (fun c1299 => ?_)
      · refine g_iconst (v := (0 : Int32)) rfl zic_0 ?_
        exact g_iret rfl (Or.inr ⟨rfl, Or.inl rfl⟩) rfl
      · refine g_iconst (v := (1 : Int32)) rfl zic_1 ?_
        refine g_goto rfl ?_
        exact g_iret rfl (Or.inr ⟨rfl, Or.inr rfl⟩) rfl
  · refine g_aload_n rfl rfl ?_
    refine g_getR rfl zf_M_37 rfl rfl ?_
    refine g_iload_n rfl rfl ?_
    refine g_iald rfl rfl (fun o1304 => ?_)
    refine g_ifne rfl (fun c1302 => ?_) (fun c1302 => ?_)
    · refine g_iconst (v := (0 : Int32)) rfl zic_0 ?_
      exact g_iret rfl (Or.inr ⟨rfl, Or.inl rfl⟩) rfl
    · refine g_iload rfl rfl ?_
      refine g_aload_n rfl rfl ?_
      refine g_getI rfl zf_M_82 rfl rfl rfl ?_
      refine g_icmple rfl (fun c1303 => ?_) (fun c1303 => ?_)
      · refine g_iconst (v := (0 : Int32)) rfl zic_0 ?_
        exact g_iret rfl (Or.inr ⟨rfl, Or.inl rfl⟩) rfl
      · refine g_iconst (v := (1 : Int32)) rfl zic_1 ?_
        refine g_goto rfl ?_
        exact g_iret rfl (Or.inr ⟨rfl, Or.inr rfl⟩) rfl
theorem s_M_mayVote (G : ZG) (a : Int32) (b : Int32) (c : Int32) (u : ZSt) (x : Int32 × ZSt) (hx : f_M_mayVote a b c u = some x) : ZSpec G m_M_mayVote 105 [.ref 39, .int a, .int b, .int c] u (zemI x) :=
  ZSpec.go k_M_mayVote (Nat.le_of_ble_eq_true rfl) (w_M_mayVote G a b c u) (tgt := zemI x) (by rw [hx]; rfl)
set_option maxRecDepth 100000 in
set_option maxHeartbeats 4000000 in
theorem wb_M_asks_10 (G : ZG) (l1 : Int32) (l3 : Int32) (l4 : Int32) (u : ZSt) (K : ((Int32 × ZSt) ⊕ (Int32 × ZSt)) → Option (Value × ZSt)) (hb : ∀ (l4 : Int32) (u : ZSt), ZGo G m_M_asks 106 (K (.inl (l4, u))) some 10 [(0, .ref 39), (1, .int l1), (3, .int l3), (4, .int l4)] [] u) (hx : ∀ (l4 : Int32) (u : ZSt), ZGo G m_M_asks 106 (K (.inr (l4, u))) some 32 [] [] u) : ZGo G m_M_asks 106 (b_M_asks_10 l1 l3 l4 u) K 10 [(0, .ref 39), (1, .int l1), (3, .int l3), (4, .int l4)] [] u := by
  unfold b_M_asks_10
  refine g_iload rfl rfl ?_
  refine g_aload_n rfl rfl ?_
  refine g_getI rfl zf_M_94 rfl rfl rfl ?_
  refine g_icmpge rfl (fun c1308 => ?_) (fun c1308 => ?_)
  · exact zgo_sub (zsubk [] rfl) (zgo_leaf (hx l4 u))
  · refine g_aload_n rfl rfl ?_
    refine g_dup rfl rfl ?_
    refine g_getI rfl zf_M_212 rfl rfl rfl ?_
    refine g_aload_n rfl rfl ?_
    refine g_iload rfl rfl ?_
    refine g_iload_n rfl rfl ?_
    refine g_iload_n rfl rfl ?_
    refine g_callVI (M' := m_M_mayVote) (d' := 105) (as := [.int l4, .int l1, .int l3]) (rest := [.int (u.1 3925), .ref 39]) (ci := 11) (o := 39) rfl ml_M_215 v_M_mayVote (by decide) rfl (by decide) rfl rfl rfl (Nat.le_of_ble_eq_true rfl) (fun x_ e_ => s_M_mayVote G l4 l1 l3 u x_ e_) (fun q1309r q1309u e1310 b1311 => ?_)
    refine g_ifeq rfl (fun c1312 => ?_) (fun c1312 => ?_)
    · refine g_iconst (v := (0 : Int32)) rfl zic_0 ?_
      refine g_ior rfl ?_
      refine g_put (j := 3925) rfl zf_M_212 rfl rfl zp_11_25.1 (Or.inl zp_11_25.2) rfl ?_
      refine g_iinc (v := (1 : Int32)) (lv' := [(0, .ref 39), (1, .int l1), (3, .int l3), (4, .int (l4 + (1 : Int32)))]) rfl rfl zic_1 (Nat.le_of_ble_eq_true rfl) rfl rfl ?_
      refine g_goto rfl ?_
      exact zgo_sub (zsubk [0, 1, 2, 3] rfl) (zgo_leaf (hb (l4 + (1 : Int32)) (zs q1309u 3925 ((u.1 3925) ||| (0 : Int32)))))
    · refine g_iconst (v := (1 : Int32)) rfl zic_1 ?_
      refine g_iload rfl rfl ?_
      refine g_ishl rfl ?_
      refine g_goto rfl ?_
      refine g_ior rfl ?_
      refine g_put (j := 3925) rfl zf_M_212 rfl rfl zp_11_25.1 (Or.inl zp_11_25.2) rfl ?_
      refine g_iinc (v := (1 : Int32)) (lv' := [(0, .ref 39), (1, .int l1), (3, .int l3), (4, .int (l4 + (1 : Int32)))]) rfl rfl zic_1 (Nat.le_of_ble_eq_true rfl) rfl rfl ?_
      refine g_goto rfl ?_
      exact zgo_sub (zsubk [0, 1, 2, 3] rfl) (zgo_leaf (hb (l4 + (1 : Int32)) (zs q1309u 3925 ((u.1 3925) ||| ((1 : Int32) <<< (l4 &&& 31))))))
set_option maxRecDepth 100000 in
set_option maxHeartbeats 4000000 in
theorem wa_M_asks_10 (G : ZG) (u : ZSt) : ZGo G m_M_asks 106 (a_M_asks_10 u) zkV 32 [] [] u := by
  unfold a_M_asks_10
  exact g_vret rfl rfl rfl
set_option maxRecDepth 100000 in
set_option maxHeartbeats 4000000 in
theorem w_M_asks (G : ZG) (a : Int32) (b : Int32) (c : Int32) (u : ZSt) : ZGo G m_M_asks 106 (f_M_asks a b c u) zkV 0 [(0, .ref 39), (1, .int a), (2, .int b), (3, .int c)] [] u := by
  unfold f_M_asks
  refine g_aload_n rfl rfl ?_
  refine g_iload_n rfl rfl ?_
  refine g_iload_n rfl rfl ?_
  refine g_iload_n rfl rfl ?_
  refine g_callVV (M' := m_M_touches) (d' := 2) (as := [.int a, .int b, .int c]) (rest := []) (ci := 11) (o := 39) rfl ml_M_208 v_M_touches (by decide) rfl (by decide) rfl rfl rfl (Nat.le_of_ble_eq_true rfl) (fun x_ e_ => s_M_touches G a b c u x_ e_) (fun q1305 e1306 b1307 => ?_)
  refine g_aload_n rfl rfl ?_
  refine g_iconst (v := (0 : Int32)) rfl zic_0 ?_
  refine g_put (j := 3925) rfl zf_M_212 rfl rfl zp_11_25.1 (Or.inl zp_11_25.2) rfl ?_
  refine g_iconst (v := (0 : Int32)) rfl zic_0 ?_
  refine g_istore (lv' := [(0, .ref 39), (1, .int a), (2, .int b), (3, .int c), (4, .int (0 : Int32))]) rfl (Nat.le_of_ble_eq_true rfl) rfl rfl ?_
  refine zgo_sub (lv' := [(0, .ref 39), (1, .int a), (3, .int c), (4, .int (0 : Int32))]) (zsubk [0, 1, 3, 4] rfl) ?_
  refine zgo_loop (σ := Int32 × ZSt) (lvf := fun s => [(0, .ref 39), (1, .int a), (3, .int c), (4, .int s.1)]) (uf := (fun s => s.2)) ?_ zfu _
  intro s K' ih he
  refine wb_M_asks_10 G a c s.1 s.2 K' ?_ ?_
  · intro c0 v
    exact ih (c0, v)
  · intro c0 v
    rw [he]
    exact zgo_unleaf (wa_M_asks_10 G  v)
theorem s_M_asks (G : ZG) (a : Int32) (b : Int32) (c : Int32) (u : ZSt) (x : ZSt) (hx : f_M_asks a b c u = some x) : ZSpec G m_M_asks 106 [.ref 39, .int a, .int b, .int c] u (zemV x) :=
  ZSpec.go k_M_asks (Nat.le_of_ble_eq_true rfl) (w_M_asks G a b c u) (tgt := zemV x) (by rw [hx]; rfl)
set_option maxRecDepth 100000 in
set_option maxHeartbeats 4000000 in
theorem w_M_may (G : ZG) (a : Int32) (b : Int32) (c : Int32) (u : ZSt) : ZGo G m_M_may 107 (f_M_may a b c u) zkI 0 [(0, .ref 39), (1, .int a), (2, .int b), (3, .int c)] [] u := by
  unfold f_M_may
  refine g_aload_n rfl rfl ?_
  refine g_iload_n rfl rfl ?_
  refine g_callVP (M' := m_M_isPerson) (d' := 2) (as := [.int a]) (rest := []) (ci := 11) (o := 39) rfl ml_M_104 v_M_isPerson (by decide) rfl (by decide) rfl rfl rfl (Nat.le_of_ble_eq_true rfl) (fun x_ e_ => s_M_isPerson G a u x_ e_) (fun q1313 e1314 b1315 => ?_)
  refine g_ifeq rfl (fun c1316 => ?_) (fun c1316 => ?_)
  · refine g_iconst (v := (-1 : Int32)) rfl zic_m1 ?_
    exact g_iret rfl (Or.inl rfl) rfl
  · refine g_aload_n rfl rfl ?_
    refine g_iload_n rfl rfl ?_
    refine g_callVP (M' := m_M_isBundle) (d' := 2) (as := [.int b]) (rest := []) (ci := 11) (o := 39) rfl ml_M_232 v_M_isBundle (by decide) rfl (by decide) rfl rfl rfl (Nat.le_of_ble_eq_true rfl) (fun x_ e_ => s_M_isBundle G b u x_ e_) (fun q1317 e1318 b1319 => ?_)
    refine g_ifeq rfl (fun c1320 => ?_) (fun c1320 => ?_)
    · refine g_iconst (v := (-1 : Int32)) rfl zic_m1 ?_
      exact g_iret rfl (Or.inl rfl) rfl
    · refine g_aload_n rfl rfl ?_
      refine g_iload_n rfl rfl ?_
      refine g_callVP (M' := m_M_areGifts) (d' := 2) (as := [.int c]) (rest := []) (ci := 11) (o := 39) rfl ml_M_235 v_M_areGifts (by decide) rfl (by decide) rfl rfl rfl (Nat.le_of_ble_eq_true rfl) (fun x_ e_ => s_M_areGifts G c u x_ e_) (fun q1321 e1322 b1323 => ?_)
      refine g_ifne rfl (fun c1324 => ?_) (fun c1324 => ?_)
      · refine g_aload_n rfl rfl ?_
        refine g_iload_n rfl rfl ?_
        refine g_iload_n rfl rfl ?_
        refine g_iload_n rfl rfl ?_
        refine g_callVV (M' := m_M_asks) (d' := 106) (as := [.int b, .int b, .int c]) (rest := []) (ci := 11) (o := 39) rfl ml_M_226 v_M_asks (by decide) rfl (by decide) rfl rfl rfl (Nat.le_of_ble_eq_true rfl) (fun x_ e_ => s_M_asks G b b c u x_ e_) (fun q1325 e1326 b1327 => ?_)
        refine g_aload_n rfl rfl ?_
        refine g_getI rfl zf_M_212 rfl rfl rfl ?_
        refine g_iload_n rfl rfl ?_
        refine g_callSP (M' := m_M_isIn) (d' := 1) (as := [.int (q1325.1 3925), .int a]) (rest := []) rfl ml_M_118 v_M_isIn (by decide) rfl rfl (Nat.le_of_ble_eq_true rfl) (fun x_ e_ => s_M_isIn G (q1325.1 3925) a q1325 x_ e_) (fun q1328 e1329 b1330 => ?_)
        refine g_ifeq rfl (fun c1331 => ?_) (fun c1331 => ?_)
        · refine g_iconst (v := (0 : Int32)) rfl zic_0 ?_
          exact g_iret rfl (Or.inl rfl) rfl
        · refine g_iconst (v := (1 : Int32)) rfl zic_1 ?_
          refine g_goto rfl ?_
          exact g_iret rfl (Or.inl rfl) rfl
      · refine g_iconst (v := (-1 : Int32)) rfl zic_m1 ?_
        exact g_iret rfl (Or.inl rfl) rfl
theorem s_M_may (G : ZG) (a : Int32) (b : Int32) (c : Int32) (u : ZSt) (x : Int32 × ZSt) (hx : f_M_may a b c u = some x) : ZSpec G m_M_may 107 [.ref 39, .int a, .int b, .int c] u (zemI x) :=
  ZSpec.go k_M_may (Nat.le_of_ble_eq_true rfl) (w_M_may G a b c u) (tgt := zemI x) (by rw [hx]; rfl)
