/-! by program (gen3.py): each method does what its function says -/
set_option maxRecDepth 100000 in
set_option maxHeartbeats 4000000 in
theorem w_X_isFee (G : ZG) (a : Int32) (u : ZSt) : ZGo G m_X_isFee 1 (f_X_isFee a) (zkP u) 0 [(0, .int a)] [] u := by
  unfold f_X_isFee
  refine g_iload_n rfl rfl ?_
  refine g_iflt rfl (fun c1 => ?_) (fun c1 => ?_)
  · refine g_iconst (v := (0 : Int32)) rfl zic_0 ?_
    exact g_iret rfl (Or.inr ⟨rfl, Or.inl rfl⟩) rfl
  · refine g_iload_n rfl rfl ?_
    refine g_bipush (v := (99 : Int32)) rfl zib_99 ?_
    refine g_icmpgt rfl (fun c2 => ?_) (fun c2 => ?_)
    · refine g_iconst (v := (0 : Int32)) rfl zic_0 ?_
      exact g_iret rfl (Or.inr ⟨rfl, Or.inl rfl⟩) rfl
    · refine g_iconst (v := (1 : Int32)) rfl zic_1 ?_
      refine g_goto rfl ?_
      exact g_iret rfl (Or.inr ⟨rfl, Or.inr rfl⟩) rfl
theorem s_X_isFee (G : ZG) (a : Int32) (u : ZSt) (x : Int32) (hx : f_X_isFee a = some x) : ZSpec G m_X_isFee 1 [.int a] u ((zemP u) x) :=
  ZSpec.go k_X_isFee (Nat.le_of_ble_eq_true rfl) (w_X_isFee G a u) (tgt := (zemP u) x) (by rw [hx]; rfl)
set_option maxRecDepth 100000 in
set_option maxHeartbeats 4000000 in
theorem w_Council_addPerson (G : ZG) (a : Int32) (u : ZSt) : ZGo G m_Council_addPerson 1 (f_Council_addPerson a u) zkI 0 [(0, .ref 1), (1, .int a)] [] u := by
  unfold f_Council_addPerson
  refine g_aload_n rfl rfl ?_
  refine g_getI rfl zf_Council_28 rfl rfl rfl ?_
  refine g_bipush (v := (10 : Int32)) rfl zib_10 ?_
  refine g_icmplt rfl (fun c3 => ?_) (fun c3 => ?_)
  · refine g_aload_n rfl rfl ?_
    refine g_getR rfl zf_Council_9 rfl rfl ?_
    refine g_aload_n rfl rfl ?_
    refine g_getI rfl zf_Council_28 rfl rfl rfl ?_
    refine g_iload_n rfl rfl ?_
    refine g_iast rfl rfl (fun o4 => ?_)
    refine g_aload_n rfl rfl ?_
    refine g_dup rfl rfl ?_
    refine g_getIx (x := u.1 103) rfl zf_Council_28 rfl rfl rfl rfl ?_
    refine g_iconst (v := (1 : Int32)) rfl zic_1 ?_
    refine g_iadd rfl ?_
    refine g_put (j := 103) rfl zf_Council_28 rfl rfl zp_3_3.1 (Or.inl zp_3_3.2) rfl ?_
    refine g_aload_n rfl rfl ?_
    refine g_getIx (x := ((u.1 103) + (1 : Int32))) rfl zf_Council_28 rfl rfl rfl rfl ?_
    refine g_iconst (v := (1 : Int32)) rfl zic_1 ?_
    refine g_isub rfl ?_
    exact g_iret rfl (Or.inl rfl) rfl
  · refine g_bipush (v := (-3 : Int32)) rfl zib_m3 ?_
    exact g_iret rfl (Or.inl rfl) rfl
theorem s_Council_addPerson (G : ZG) (a : Int32) (u : ZSt) (x : Int32 × ZSt) (hx : f_Council_addPerson a u = some x) : ZSpec G m_Council_addPerson 1 [.ref 1, .int a] u (zemI x) :=
  ZSpec.go k_Council_addPerson (Nat.le_of_ble_eq_true rfl) (w_Council_addPerson G a u) (tgt := zemI x) (by rw [hx]; rfl)
set_option maxRecDepth 100000 in
set_option maxHeartbeats 4000000 in
theorem w_X_person (G : ZG) (a : Int32) (u : ZSt) : ZGo G m_X_person 2 (f_X_person a u) zkI 0 [(0, .ref 0), (1, .int a)] [] u := by
  unfold f_X_person
  refine g_iload_n rfl rfl ?_
  refine g_callSP (M' := m_X_isFee) (d' := 1) (as := [.int a]) (rest := []) rfl ml_X_87 v_X_isFee (by decide) rfl rfl (Nat.le_of_ble_eq_true rfl) (fun x_ e_ => s_X_isFee G a u x_ e_) (fun q5 e6 b7 => ?_)
  refine g_ifne rfl (fun c8 => ?_) (fun c8 => ?_)
  · refine g_aload_n rfl rfl ?_
    refine g_getR rfl zf_X_10 rfl rfl ?_
    refine g_iload_n rfl rfl ?_
    refine g_callVI (M' := m_Council_addPerson) (d' := 1) (as := [.int a]) (rest := []) (ci := 3) (o := 1) rfl ml_X_91 v_Council_addPerson (by decide) rfl (by decide) rfl rfl rfl (Nat.le_of_ble_eq_true rfl) (fun x_ e_ => s_Council_addPerson G a u x_ e_) (fun q9r q9u e10 b11 => ?_)
    exact g_iret rfl (Or.inl rfl) rfl
  · refine g_iconst (v := (-1 : Int32)) rfl zic_m1 ?_
    exact g_iret rfl (Or.inl rfl) rfl
theorem s_X_person (G : ZG) (a : Int32) (u : ZSt) (x : Int32 × ZSt) (hx : f_X_person a u = some x) : ZSpec G m_X_person 2 [.ref 0, .int a] u (zemI x) :=
  ZSpec.go k_X_person (Nat.le_of_ble_eq_true rfl) (w_X_person G a u) (tgt := zemI x) (by rw [hx]; rfl)
set_option maxRecDepth 100000 in
set_option maxHeartbeats 4000000 in
theorem w_M_within (G : ZG) (a : Int64) (b : Int64) (c : Int64) (u : ZSt) : ZGo G m_M_within 1 (f_M_within a b c) (zkP u) 0 [(0, .long a), (2, .long b), (4, .long c)] [] u := by
  unfold f_M_within
  refine g_lload_n rfl rfl ?_
  refine g_lload_n rfl rfl ?_
  refine g_lcmp rfl ?_
  refine g_iflt rfl (fun c12 => ?_) (fun c12 => ?_)
  · refine g_iconst (v := (0 : Int32)) rfl zic_0 ?_
    exact g_iret rfl (Or.inr ⟨rfl, Or.inl rfl⟩) rfl
  · refine g_lload_n rfl rfl ?_
    refine g_lload rfl rfl ?_
    refine g_lcmp rfl ?_
    refine g_ifgt rfl (fun c13 => ?_) (fun c13 => ?_)
    · refine g_iconst (v := (0 : Int32)) rfl zic_0 ?_
      exact g_iret rfl (Or.inr ⟨rfl, Or.inl rfl⟩) rfl
    · refine g_iconst (v := (1 : Int32)) rfl zic_1 ?_
      refine g_goto rfl ?_
      exact g_iret rfl (Or.inr ⟨rfl, Or.inr rfl⟩) rfl
theorem s_M_within (G : ZG) (a : Int64) (b : Int64) (c : Int64) (u : ZSt) (x : Int32) (hx : f_M_within a b c = some x) : ZSpec G m_M_within 1 [.long a, .long b, .long c] u ((zemP u) x) :=
  ZSpec.go k_M_within (Nat.le_of_ble_eq_true rfl) (w_M_within G a b c u) (tgt := (zemP u) x) (by rw [hx]; rfl)
set_option maxRecDepth 100000 in
set_option maxHeartbeats 4000000 in
theorem w_M_person (G : ZG) (a : Int32) (u : ZSt) : ZGo G m_M_person 2 (f_M_person a u) zkI 0 [(0, .ref 39), (1, .int a)] [] u := by
  unfold f_M_person
  refine g_iload_n rfl rfl ?_
  refine g_i2l rfl ?_
  refine g_lconst (v := (0 : Int64)) rfl rfl ?_
  refine g_ldc2 rfl zk_M_111 ?_
  refine g_callSP (M' := m_M_within) (d' := 1) (as := [.long a.toInt64, .long (0 : Int64), .long (99 : Int64)]) (rest := []) rfl ml_M_97 v_M_within (by decide) rfl rfl (Nat.le_of_ble_eq_true rfl) (fun x_ e_ => s_M_within G a.toInt64 (0 : Int64) (99 : Int64) u x_ e_) (fun q14 e15 b16 => ?_)
  refine g_ifne rfl (fun c17 => ?_) (fun c17 => ?_)
  · refine g_aload_n rfl rfl ?_
    refine g_getI rfl zf_M_94 rfl rfl rfl ?_
    refine g_bipush (v := (10 : Int32)) rfl zib_10 ?_
    refine g_icmpne rfl (fun c18 => ?_) (fun c18 => ?_)
    · refine g_aload_n rfl rfl ?_
      refine g_getR rfl zf_M_22 rfl rfl ?_
      refine g_aload_n rfl rfl ?_
      refine g_getI rfl zf_M_94 rfl rfl rfl ?_
      refine g_iload_n rfl rfl ?_
      refine g_iast rfl rfl (fun o19 => ?_)
      refine g_aload_n rfl rfl ?_
      refine g_dup rfl rfl ?_
      refine g_getIx (x := u.1 3906) rfl zf_M_94 rfl rfl rfl rfl ?_
      refine g_iconst (v := (1 : Int32)) rfl zic_1 ?_
      refine g_iadd rfl ?_
      refine g_put (j := 3906) rfl zf_M_94 rfl rfl zp_11_6.1 (Or.inl zp_11_6.2) rfl ?_
      refine g_aload_n rfl rfl ?_
      refine g_getIx (x := ((u.1 3906) + (1 : Int32))) rfl zf_M_94 rfl rfl rfl rfl ?_
      refine g_iconst (v := (1 : Int32)) rfl zic_1 ?_
      refine g_isub rfl ?_
      exact g_iret rfl (Or.inl rfl) rfl
    · refine g_bipush (v := (-3 : Int32)) rfl zib_m3 ?_
      exact g_iret rfl (Or.inl rfl) rfl
  · refine g_iconst (v := (-1 : Int32)) rfl zic_m1 ?_
    exact g_iret rfl (Or.inl rfl) rfl
theorem s_M_person (G : ZG) (a : Int32) (u : ZSt) (x : Int32 × ZSt) (hx : f_M_person a u = some x) : ZSpec G m_M_person 2 [.ref 39, .int a] u (zemI x) :=
  ZSpec.go k_M_person (Nat.le_of_ble_eq_true rfl) (w_M_person G a u) (tgt := zemI x) (by rw [hx]; rfl)
set_option maxRecDepth 100000 in
set_option maxHeartbeats 4000000 in
theorem w_Shelves_isShelf (G : ZG) (a : Int32) (u : ZSt) : ZGo G m_Shelves_isShelf 1 (f_Shelves_isShelf a) (zkP u) 0 [(0, .ref 27), (1, .int a)] [] u := by
  unfold f_Shelves_isShelf
  refine g_iload_n rfl rfl ?_
  refine g_iflt rfl (fun c20 => ?_) (fun c20 => ?_)
  · refine g_iconst (v := (0 : Int32)) rfl zic_0 ?_
    exact g_iret rfl (Or.inr ⟨rfl, Or.inl rfl⟩) rfl
  · refine g_iload_n rfl rfl ?_
    refine g_bipush (v := (6 : Int32)) rfl zib_6 ?_
    refine g_icmpge rfl (fun c21 => ?_) (fun c21 => ?_)
    · refine g_iconst (v := (0 : Int32)) rfl zic_0 ?_
      exact g_iret rfl (Or.inr ⟨rfl, Or.inl rfl⟩) rfl
    · refine g_iconst (v := (1 : Int32)) rfl zic_1 ?_
      refine g_goto rfl ?_
      exact g_iret rfl (Or.inr ⟨rfl, Or.inr rfl⟩) rfl
theorem s_Shelves_isShelf (G : ZG) (a : Int32) (u : ZSt) (x : Int32) (hx : f_Shelves_isShelf a = some x) : ZSpec G m_Shelves_isShelf 1 [.ref 27, .int a] u ((zemP u) x) :=
  ZSpec.go k_Shelves_isShelf (Nat.le_of_ble_eq_true rfl) (w_Shelves_isShelf G a u) (tgt := (zemP u) x) (by rw [hx]; rfl)
set_option maxRecDepth 100000 in
set_option maxHeartbeats 4000000 in
theorem w_Shelves_held (G : ZG) (a : Int32) (u : ZSt) : ZGo G m_Shelves_held 2 (f_Shelves_held a u) (zkP u) 0 [(0, .ref 27), (1, .int a)] [] u := by
  unfold f_Shelves_held
  refine g_aload_n rfl rfl ?_
  refine g_iload_n rfl rfl ?_
  refine g_callVP (M' := m_Shelves_isShelf) (d' := 1) (as := [.int a]) (rest := []) (ci := 7) (o := 27) rfl ml_Shelves_25 v_Shelves_isShelf (by decide) rfl (by decide) rfl rfl rfl (Nat.le_of_ble_eq_true rfl) (fun x_ e_ => s_Shelves_isShelf G a u x_ e_) (fun q22 e23 b24 => ?_)
  refine g_ifeq rfl (fun c25 => ?_) (fun c25 => ?_)
  · refine g_iconst (v := (-1 : Int32)) rfl zic_m1 ?_
    exact g_iret rfl (Or.inl rfl) rfl
  · refine g_aload_n rfl rfl ?_
    refine g_getR rfl zf_Shelves_11 rfl rfl ?_
    refine g_iload_n rfl rfl ?_
    refine g_iald rfl rfl (fun o26 => ?_)
    refine g_goto rfl ?_
    exact g_iret rfl (Or.inl rfl) rfl
theorem s_Shelves_held (G : ZG) (a : Int32) (u : ZSt) (x : Int32) (hx : f_Shelves_held a u = some x) : ZSpec G m_Shelves_held 2 [.ref 27, .int a] u ((zemP u) x) :=
  ZSpec.go k_Shelves_held (Nat.le_of_ble_eq_true rfl) (w_Shelves_held G a u) (tgt := (zemP u) x) (by rw [hx]; rfl)
set_option maxRecDepth 100000 in
set_option maxHeartbeats 4000000 in
theorem w_Shelves_hasPlace (G : ZG) (a : Int32) (b : Int32) (u : ZSt) : ZGo G m_Shelves_hasPlace 1 (f_Shelves_hasPlace a b u) (zkP u) 0 [(0, .ref 27), (1, .int a), (2, .int b)] [] u := by
  unfold f_Shelves_hasPlace
  refine g_iload_n rfl rfl ?_
  refine g_iflt rfl (fun c27 => ?_) (fun c27 => ?_)
  · refine g_iconst (v := (0 : Int32)) rfl zic_0 ?_
    exact g_iret rfl (Or.inr ⟨rfl, Or.inl rfl⟩) rfl
  · refine g_iload_n rfl rfl ?_
    refine g_bipush (v := (6 : Int32)) rfl zib_6 ?_
    refine g_icmpge rfl (fun c28 => ?_) (fun c28 => ?_)
    · refine g_iconst (v := (0 : Int32)) rfl zic_0 ?_
      exact g_iret rfl (Or.inr ⟨rfl, Or.inl rfl⟩) rfl
    · refine g_iload_n rfl rfl ?_
      refine g_iflt rfl (fun c29 => ?_) (fun c29 => ?_)
      · refine g_iconst (v := (0 : Int32)) rfl zic_0 ?_
        exact g_iret rfl (Or.inr ⟨rfl, Or.inl rfl⟩) rfl
      · refine g_iload_n rfl rfl ?_
        refine g_aload_n rfl rfl ?_
        refine g_getR rfl zf_Shelves_15 rfl rfl ?_
        refine g_iload_n rfl rfl ?_
        refine g_iald rfl rfl (fun o31 => ?_)
        refine g_icmpge rfl (fun c30 => ?_) (fun c30 => ?_)
        · refine g_iconst (v := (0 : Int32)) rfl zic_0 ?_
          exact g_iret rfl (Or.inr ⟨rfl, Or.inl rfl⟩) rfl
        · refine g_iconst (v := (1 : Int32)) rfl zic_1 ?_
          refine g_goto rfl ?_
          exact g_iret rfl (Or.inr ⟨rfl, Or.inr rfl⟩) rfl
theorem s_Shelves_hasPlace (G : ZG) (a : Int32) (b : Int32) (u : ZSt) (x : Int32) (hx : f_Shelves_hasPlace a b u = some x) : ZSpec G m_Shelves_hasPlace 1 [.ref 27, .int a, .int b] u ((zemP u) x) :=
  ZSpec.go k_Shelves_hasPlace (Nat.le_of_ble_eq_true rfl) (w_Shelves_hasPlace G a b u) (tgt := (zemP u) x) (by rw [hx]; rfl)
set_option maxRecDepth 100000 in
set_option maxHeartbeats 4000000 in
theorem w_Shelves_valueAt (G : ZG) (a : Int32) (b : Int32) (u : ZSt) : ZGo G m_Shelves_valueAt 2 (f_Shelves_valueAt a b u) (zkL u) 0 [(0, .ref 27), (1, .int a), (2, .int b)] [] u := by
  unfold f_Shelves_valueAt
  refine g_aload_n rfl rfl ?_
  refine g_iload_n rfl rfl ?_
  refine g_iload_n rfl rfl ?_
  refine g_callVP (M' := m_Shelves_hasPlace) (d' := 1) (as := [.int a, .int b]) (rest := []) (ci := 7) (o := 27) rfl ml_Shelves_32 v_Shelves_hasPlace (by decide) rfl (by decide) rfl rfl rfl (Nat.le_of_ble_eq_true rfl) (fun x_ e_ => s_Shelves_hasPlace G a b u x_ e_) (fun q32 e33 b34 => ?_)
  refine g_ifeq rfl (fun c35 => ?_) (fun c35 => ?_)
  · refine g_lconst (v := (0 : Int64)) rfl rfl ?_
    exact g_lret rfl rfl rfl
  · refine g_aload_n rfl rfl ?_
    refine g_getR rfl zf_Shelves_21 rfl rfl ?_
    refine g_bipush (v := (60 : Int32)) rfl zib_60 ?_
    refine g_iload_n rfl rfl ?_
    refine g_imul rfl ?_
    refine g_iload_n rfl rfl ?_
    refine g_iadd rfl ?_
    refine g_lald rfl rfl (fun o36 => ?_)
    refine g_goto rfl ?_
    exact g_lret rfl rfl rfl
theorem s_Shelves_valueAt (G : ZG) (a : Int32) (b : Int32) (u : ZSt) (x : Int64) (hx : f_Shelves_valueAt a b u = some x) : ZSpec G m_Shelves_valueAt 2 [.ref 27, .int a, .int b] u ((zemL u) x) :=
  ZSpec.go k_Shelves_valueAt (Nat.le_of_ble_eq_true rfl) (w_Shelves_valueAt G a b u) (tgt := (zemL u) x) (by rw [hx]; rfl)
set_option maxRecDepth 100000 in
set_option maxHeartbeats 4000000 in
theorem w_X_comesFrom (G : ZG) (a : Int32) (b : Int32) (u : ZSt) : ZGo G m_X_comesFrom 3 (f_X_comesFrom a b u) zkI 0 [(0, .ref 0), (1, .int a), (2, .int b)] [] u := by
  unfold f_X_comesFrom
  refine g_aload_n rfl rfl ?_
  refine g_getR rfl zf_X_60 rfl rfl ?_
  refine g_iload_n rfl rfl ?_
  refine g_iload_n rfl rfl ?_
  refine g_callVP (M' := m_Shelves_hasPlace) (d' := 1) (as := [.int a, .int b]) (rest := []) (ci := 7) (o := 27) rfl ml_X_105 v_Shelves_hasPlace (by decide) rfl (by decide) rfl rfl rfl (Nat.le_of_ble_eq_true rfl) (fun x_ e_ => s_Shelves_hasPlace G a b u x_ e_) (fun q37 e38 b39 => ?_)
  refine g_ifne rfl (fun c40 => ?_) (fun c40 => ?_)
  · refine g_aload_n rfl rfl ?_
    refine g_getR rfl zf_X_60 rfl rfl ?_
    refine g_iload_n rfl rfl ?_
    refine g_iload_n rfl rfl ?_
    refine g_callVL (M' := m_Shelves_valueAt) (d' := 2) (as := [.int a, .int b]) (rest := []) (ci := 7) (o := 27) rfl ml_X_108 v_Shelves_valueAt (by decide) rfl (by decide) rfl rfl rfl (Nat.le_of_ble_eq_true rfl) (fun x_ e_ => s_Shelves_valueAt G a b u x_ e_) (fun q41 e42 b43 => ?_)
    refine g_l2i rfl ?_
    refine g_istore_n (lv' := [(0, .ref 0), (1, .int a), (2, .int b), (3, .int q41.toInt32)]) rfl (Nat.le_of_ble_eq_true rfl) rfl rfl ?_
    refine g_iload_n rfl rfl ?_
    refine g_callSP (M' := m_X_isFee) (d' := 1) (as := [.int q41.toInt32]) (rest := []) rfl ml_X_87 v_X_isFee (by decide) rfl rfl (Nat.le_of_ble_eq_true rfl) (fun x_ e_ => s_X_isFee G q41.toInt32 u x_ e_) (fun q44 e45 b46 => ?_)
    refine g_ifeq rfl (fun c47 => ?_) (fun c47 => ?_)
    · refine g_iconst (v := (0 : Int32)) rfl zic_0 ?_
      exact g_iret rfl (Or.inr ⟨rfl, Or.inl rfl⟩) rfl
    · refine g_aload_n rfl rfl ?_
      refine g_getR rfl zf_X_10 rfl rfl ?_
      refine g_iload_n rfl rfl ?_
      refine g_callVI (M' := m_Council_addPerson) (d' := 1) (as := [.int q41.toInt32]) (rest := []) (ci := 3) (o := 1) rfl ml_X_91 v_Council_addPerson (by decide) rfl (by decide) rfl rfl rfl (Nat.le_of_ble_eq_true rfl) (fun x_ e_ => s_Council_addPerson G q41.toInt32 u x_ e_) (fun q48r q48u e49 b50 => ?_)
      refine g_iflt rfl (fun c51 => ?_) (fun c51 => ?_)
      · refine g_iconst (v := (0 : Int32)) rfl zic_0 ?_
        exact g_iret rfl (Or.inr ⟨rfl, Or.inl rfl⟩) rfl
      · refine g_iconst (v := (1 : Int32)) rfl zic_1 ?_
        refine g_goto rfl ?_
        exact g_iret rfl (Or.inr ⟨rfl, Or.inr rfl⟩) rfl
  · refine g_iconst (v := (0 : Int32)) rfl zic_0 ?_
    exact g_iret rfl (Or.inr ⟨rfl, Or.inl rfl⟩) rfl
theorem s_X_comesFrom (G : ZG) (a : Int32) (b : Int32) (u : ZSt) (x : Int32 × ZSt) (hx : f_X_comesFrom a b u = some x) : ZSpec G m_X_comesFrom 3 [.ref 0, .int a, .int b] u (zemI x) :=
  ZSpec.go k_X_comesFrom (Nat.le_of_ble_eq_true rfl) (w_X_comesFrom G a b u) (tgt := zemI x) (by rw [hx]; rfl)
set_option maxRecDepth 100000 in
set_option maxHeartbeats 4000000 in
theorem wb_X_people_30 (G : ZG) (l1 : Int32) (l2 : Int32) (l3 : Int32) (l4 : Int32) (u : ZSt) (K : ((Int32 × ZSt) ⊕ (Int32 × ZSt)) → Option (Value × ZSt)) (hb : ∀ (l4 : Int32) (u : ZSt), ZGo G m_X_people 4 (K (.inl (l4, u))) some 30 [(0, .ref 0), (1, .int l1), (2, .int l2), (3, .int l3), (4, .int l4)] [] u) (hx : ∀ (l4 : Int32) (u : ZSt), ZGo G m_X_people 4 (K (.inr (l4, u))) some 42 [(4, .int l4)] [] u) : ZGo G m_X_people 4 (b_X_people_30 l1 l2 l3 l4 u) K 30 [(0, .ref 0), (1, .int l1), (2, .int l2), (3, .int l3), (4, .int l4)] [] u := by
  unfold b_X_people_30
  refine g_iload rfl rfl ?_
  refine g_iload_n rfl rfl ?_
  refine g_icmpge rfl (fun c66 => ?_) (fun c66 => ?_)
  · exact zgo_sub (zsubk [4] rfl) (zgo_leaf (hx l4 u))
  · refine g_aload_n rfl rfl ?_
    refine g_iload_n rfl rfl ?_
    refine g_iload_n rfl rfl ?_
    refine g_iload rfl rfl ?_
    refine g_iadd rfl ?_
    refine g_callVI (M' := m_X_comesFrom) (d' := 3) (as := [.int l1, .int (l2 + l4)]) (rest := []) (ci := 10) (o := 0) rfl ml_X_101 v_X_comesFrom (by decide) rfl (by decide) rfl rfl rfl (Nat.le_of_ble_eq_true rfl) (fun x_ e_ => s_X_comesFrom G l1 (l2 + l4) u x_ e_) (fun q67r q67u e68 b69 => ?_)
    refine g_ifeq rfl (fun c70 => ?_) (fun c70 => ?_)
    · exact zgo_sub (zsubk [4] rfl) (zgo_leaf (hx l4 q67u))
    · refine g_iinc (v := (1 : Int32)) (lv' := [(0, .ref 0), (1, .int l1), (2, .int l2), (3, .int l3), (4, .int (l4 + (1 : Int32)))]) rfl rfl zic_1 (Nat.le_of_ble_eq_true rfl) rfl rfl ?_
      refine g_goto rfl ?_
      exact zgo_sub (zsubk [0, 1, 2, 3, 4] rfl) (zgo_leaf (hb (l4 + (1 : Int32)) q67u))
set_option maxRecDepth 100000 in
set_option maxHeartbeats 4000000 in
theorem wa_X_people_30 (G : ZG) (l4 : Int32) (u : ZSt) : ZGo G m_X_people 4 (a_X_people_30 l4 u) zkI 42 [(4, .int l4)] [] u := by
  unfold a_X_people_30
  refine g_iload rfl rfl ?_
  exact g_iret rfl (Or.inl rfl) rfl
set_option maxRecDepth 100000 in
set_option maxHeartbeats 4000000 in
theorem w_X_people (G : ZG) (a : Int32) (b : Int32) (c : Int32) (u : ZSt) : ZGo G m_X_people 4 (f_X_people a b c u) zkI 0 [(0, .ref 0), (1, .int a), (2, .int b), (3, .int c)] [] u := by
  unfold f_X_people
  refine g_aload_n rfl rfl ?_
  refine g_getR rfl zf_X_60 rfl rfl ?_
  refine g_iload_n rfl rfl ?_
  refine g_callVP (M' := m_Shelves_isShelf) (d' := 1) (as := [.int a]) (rest := []) (ci := 7) (o := 27) rfl ml_X_95 v_Shelves_isShelf (by decide) rfl (by decide) rfl rfl rfl (Nat.le_of_ble_eq_true rfl) (fun x_ e_ => s_Shelves_isShelf G a u x_ e_) (fun q52 e53 b54 => ?_)
  refine g_ifeq rfl (fun c55 => ?_) (fun c55 => ?_)
  · refine g_iconst (v := (-1 : Int32)) rfl zic_m1 ?_
    exact g_iret rfl (Or.inl rfl) rfl
  · refine g_iload_n rfl rfl ?_
    refine g_iconst (v := (1 : Int32)) rfl zic_1 ?_
    refine g_icmplt rfl (fun c56 => ?_) (fun c56 => ?_)
    · refine g_iconst (v := (-1 : Int32)) rfl zic_m1 ?_
      exact g_iret rfl (Or.inl rfl) rfl
    · refine g_iload_n rfl rfl ?_
      refine g_bipush (v := (10 : Int32)) rfl zib_10 ?_
      refine g_icmple rfl (fun c57 => ?_) (fun c57 => ?_)
      · refine g_aload_n rfl rfl ?_
        refine g_getR rfl zf_X_60 rfl rfl ?_
        refine g_iload_n rfl rfl ?_
        refine g_callVP (M' := m_Shelves_held) (d' := 2) (as := [.int a]) (rest := []) (ci := 7) (o := 27) rfl ml_X_98 v_Shelves_held (by decide) rfl (by decide) rfl rfl rfl (Nat.le_of_ble_eq_true rfl) (fun x_ e_ => s_Shelves_held G a u x_ e_) (fun q58 e59 b60 => ?_)
        refine g_iconst (v := (-1 : Int32)) rfl zic_m1 ?_
        refine g_icmpne rfl (fun c61 => ?_) (fun c61 => ?_)
        · refine g_aload_n rfl rfl ?_
          refine g_getR rfl zf_X_60 rfl rfl ?_
          refine g_iload_n rfl rfl ?_
          refine g_callVP (M' := m_Shelves_held) (d' := 2) (as := [.int a]) (rest := []) (ci := 7) (o := 27) rfl ml_X_98 v_Shelves_held (by decide) rfl (by decide) rfl rfl rfl (Nat.le_of_ble_eq_true rfl) (fun x_ e_ => s_Shelves_held G a u x_ e_) (fun q62 e63 b64 => ?_)
          refine g_ifeq rfl (fun c65 => ?_) (fun c65 => ?_)
          · refine g_iconst (v := (0 : Int32)) rfl zic_0 ?_
            refine g_istore (lv' := [(0, .ref 0), (1, .int a), (2, .int b), (3, .int c), (4, .int (0 : Int32))]) rfl (Nat.le_of_ble_eq_true rfl) rfl rfl ?_
            refine zgo_sub (lv' := [(0, .ref 0), (1, .int a), (2, .int b), (3, .int c), (4, .int (0 : Int32))]) (zsubk [0, 1, 2, 3, 4] rfl) ?_
            refine zgo_loop (σ := Int32 × ZSt) (lvf := fun s => [(0, .ref 0), (1, .int a), (2, .int b), (3, .int c), (4, .int s.1)]) (uf := (fun s => s.2)) ?_ zfu _
            intro s K' ih he
            refine wb_X_people_30 G a b c s.1 s.2 K' ?_ ?_
            · intro c0 v
              exact ih (c0, v)
            · intro c0 v
              rw [he]
              exact zgo_unleaf (wa_X_people_30 G c0 v)
          · refine g_bipush (v := (-12 : Int32)) rfl zib_m12 ?_
            exact g_iret rfl (Or.inl rfl) rfl
        · refine g_iconst (v := (0 : Int32)) rfl zic_0 ?_
          exact g_iret rfl (Or.inl rfl) rfl
      · refine g_iconst (v := (-1 : Int32)) rfl zic_m1 ?_
        exact g_iret rfl (Or.inl rfl) rfl
theorem s_X_people (G : ZG) (a : Int32) (b : Int32) (c : Int32) (u : ZSt) (x : Int32 × ZSt) (hx : f_X_people a b c u = some x) : ZSpec G m_X_people 4 [.ref 0, .int a, .int b, .int c] u (zemI x) :=
  ZSpec.go k_X_people (Nat.le_of_ble_eq_true rfl) (w_X_people G a b c u) (tgt := zemI x) (by rw [hx]; rfl)
set_option maxRecDepth 100000 in
set_option maxHeartbeats 4000000 in
theorem w_M_isShelf (G : ZG) (a : Int32) (u : ZSt) : ZGo G m_M_isShelf 2 (f_M_isShelf a) (zkP u) 0 [(0, .int a)] [] u := by
  unfold f_M_isShelf
  refine g_iload_n rfl rfl ?_
  refine g_i2l rfl ?_
  refine g_lconst (v := (0 : Int64)) rfl rfl ?_
  refine g_ldc2 rfl zk_M_311 ?_
  refine g_callSP (M' := m_M_within) (d' := 1) (as := [.long a.toInt64, .long (0 : Int64), .long (5 : Int64)]) (rest := []) rfl ml_M_97 v_M_within (by decide) rfl rfl (Nat.le_of_ble_eq_true rfl) (fun x_ e_ => s_M_within G a.toInt64 (0 : Int64) (5 : Int64) u x_ e_) (fun q71 e72 b73 => ?_)
  exact g_iret rfl (Or.inr ⟨rfl, (zbo_i b73)⟩) rfl
theorem s_M_isShelf (G : ZG) (a : Int32) (u : ZSt) (x : Int32) (hx : f_M_isShelf a = some x) : ZSpec G m_M_isShelf 2 [.int a] u ((zemP u) x) :=
  ZSpec.go k_M_isShelf (Nat.le_of_ble_eq_true rfl) (w_M_isShelf G a u) (tgt := (zemP u) x) (by rw [hx]; rfl)
set_option maxRecDepth 100000 in
set_option maxHeartbeats 4000000 in
theorem wb_M_people_38 (G : ZG) (l1 : Int32) (l2 : Int32) (l3 : Int32) (l4 : Int32) (l5 : Int32) (u : ZSt) (K : ((Int32 × Int32 × ZSt) ⊕ (Int32 × Int32 × ZSt)) → Option (Value × ZSt)) (hb : ∀ (l4 : Int32) (l5 : Int32) (u : ZSt), ZGo G m_M_people 3 (K (.inl (l4, l5, u))) some 38 [(0, .ref 39), (1, .int l1), (2, .int l2), (3, .int l3), (4, .int l4), (5, .int l5)] [] u) (hx : ∀ (l4 : Int32) (l5 : Int32) (u : ZSt), ZGo G m_M_people 3 (K (.inr (l4, l5, u))) some 107 [(4, .int l4)] [] u) : ZGo G m_M_people 3 (b_M_people_38 l1 l2 l3 l4 l5 u) K 38 [(0, .ref 39), (1, .int l1), (2, .int l2), (3, .int l3), (4, .int l4), (5, .int l5)] [] u := by
  unfold b_M_people_38
  refine g_iload rfl rfl ?_
  refine g_ifeq rfl (fun c84 => ?_) (fun c84 => ?_)
  · exact zgo_sub (zsubk [4] rfl) (zgo_leaf (hx l4 l5 u))
  · refine g_iload rfl rfl ?_
    refine g_iload_n rfl rfl ?_
    refine g_icmpge rfl (fun c85 => ?_) (fun c85 => ?_)
    · exact zgo_sub (zsubk [4] rfl) (zgo_leaf (hx l4 l5 u))
    · refine g_iload_n rfl rfl ?_
      refine g_aload_n rfl rfl ?_
      refine g_getR rfl zf_M_68 rfl rfl ?_
      refine g_iload_n rfl rfl ?_
      refine g_iald rfl rfl (fun o133 => ?_)
      refine g_iconst (v := (1 : Int32)) rfl zic_1 ?_
      refine g_isub rfl ?_
      refine g_iload rfl rfl ?_
      refine g_isub rfl ?_
      refine g_icmpgt rfl (fun c86 => ?_) (fun c86 => ?_)
      · refine g_iconst (v := (0 : Int32)) rfl zic_0 ?_
        refine g_istore (lv' := [(0, .ref 39), (1, .int l1), (2, .int l2), (3, .int l3), (4, .int l4), (5, .int (0 : Int32))]) rfl (Nat.le_of_ble_eq_true rfl) rfl rfl ?_
        refine g_iload rfl rfl ?_
        refine g_ifeq rfl (fun c87 => ?_) (fun c87 => ?_)
        · refine g_iconst (v := (0 : Int32)) rfl zic_0 ?_
          refine g_istore (lv' := [(0, .ref 39), (1, .int l1), (2, .int l2), (3, .int l3), (4, .int l4), (5, .int (0 : Int32))]) rfl (Nat.le_of_ble_eq_true rfl) rfl rfl ?_
          refine g_iload rfl rfl ?_
          refine g_ifeq rfl (fun c88 => ?_) (fun c88 => ?_)
          · exact zgo_sub (zsubk [0, 1, 2, 3, 4, 5] rfl) (zgo_leaf (hb l4 (0 : Int32) u))
          · refine g_aload_n rfl rfl ?_
            refine g_getR rfl zf_M_22 rfl rfl ?_
            refine g_aload_n rfl rfl ?_
            refine g_getI rfl zf_M_94 rfl rfl rfl ?_
            refine g_aload_n rfl rfl ?_
            refine g_getR rfl zf_M_71 rfl rfl ?_
            refine g_bipush (v := (60 : Int32)) rfl zib_60 ?_
            refine g_iload_n rfl rfl ?_
            refine g_imul rfl ?_
            refine g_iload_n rfl rfl ?_
            refine g_iadd rfl ?_
            refine g_iload rfl rfl ?_
            refine g_iadd rfl ?_
            refine g_lald rfl rfl (fun o90 => ?_)
            refine g_l2i rfl ?_
            refine g_iast rfl rfl (fun o89 => ?_)
            refine g_aload_n rfl rfl ?_
            refine g_dup rfl rfl ?_
            refine g_getIx (x := u.1 3906) rfl zf_M_94 rfl rfl rfl rfl ?_
            refine g_iconst (v := (1 : Int32)) rfl zic_1 ?_
            refine g_iadd rfl ?_
            refine g_put (j := 3906) rfl zf_M_94 rfl rfl zp_11_6.1 (Or.inl zp_11_6.2) rfl ?_
            refine g_iinc (v := (1 : Int32)) (lv' := [(0, .ref 39), (1, .int l1), (2, .int l2), (3, .int l3), (4, .int (l4 + (1 : Int32))), (5, .int (0 : Int32))]) rfl rfl zic_1 (Nat.le_of_ble_eq_true rfl) rfl rfl ?_
            refine g_goto rfl ?_
            exact zgo_sub (zsubk [0, 1, 2, 3, 4, 5] rfl) (zgo_leaf (hb (l4 + (1 : Int32)) (0 : Int32) (zs (za u 44 ((u.1 3906).toNatClampNeg) ((u.2.2 60 ((((60 : Int32) * l1) + l2) + l4).toNatClampNeg).toInt32)) 3906 ((u.1 3906) + (1 : Int32)))))
        · refine g_aload_n rfl rfl ?_
          refine g_getR rfl zf_M_71 rfl rfl ?_
          refine g_bipush (v := (60 : Int32)) rfl zib_60 ?_
          refine g_iload_n rfl rfl ?_
          refine g_imul rfl ?_
          refine g_iload_n rfl rfl ?_
          refine g_iadd rfl ?_
          refine g_iload rfl rfl ?_
          refine g_iadd rfl ?_
          refine g_lald rfl rfl (fun o101 => ?_)
          refine g_lconst (v := (0 : Int64)) rfl rfl ?_
          refine g_ldc2 rfl zk_M_111 ?_
          refine g_callSP (M' := m_M_within) (d' := 1) (as := [.long (u.2.2 60 ((((60 : Int32) * l1) + l2) + l4).toNatClampNeg), .long (0 : Int64), .long (99 : Int64)]) (rest := []) rfl ml_M_97 v_M_within (by decide) rfl rfl (Nat.le_of_ble_eq_true rfl) (fun x_ e_ => s_M_within G (u.2.2 60 ((((60 : Int32) * l1) + l2) + l4).toNatClampNeg) (0 : Int64) (99 : Int64) u x_ e_) (fun q91 e92 b93 => ?_)
          refine g_ifeq rfl (fun c94 => ?_) (fun c94 => ?_)
          · refine g_iconst (v := (0 : Int32)) rfl zic_0 ?_
            refine g_istore (lv' := [(0, .ref 39), (1, .int l1), (2, .int l2), (3, .int l3), (4, .int l4), (5, .int (0 : Int32))]) rfl (Nat.le_of_ble_eq_true rfl) rfl rfl ?_
            refine g_iload rfl rfl ?_
            refine g_ifeq rfl (fun c95 => ?_) (fun c95 => ?_)
            · exact zgo_sub (zsubk [0, 1, 2, 3, 4, 5] rfl) (zgo_leaf (hb l4 (0 : Int32) u))
            · refine g_aload_n rfl rfl ?_
              refine g_getR rfl zf_M_22 rfl rfl ?_
              refine g_aload_n rfl rfl ?_
              refine g_getI rfl zf_M_94 rfl rfl rfl ?_
              refine g_aload_n rfl rfl ?_
              refine g_getR rfl zf_M_71 rfl rfl ?_
              refine g_bipush (v := (60 : Int32)) rfl zib_60 ?_
              refine g_iload_n rfl rfl ?_
              refine g_imul rfl ?_
              refine g_iload_n rfl rfl ?_
              refine g_iadd rfl ?_
              refine g_iload rfl rfl ?_
              refine g_iadd rfl ?_
              refine g_lald rfl rfl (fun o97 => ?_)
              refine g_l2i rfl ?_
              refine g_iast rfl rfl (fun o96 => ?_)
              refine g_aload_n rfl rfl ?_
              refine g_dup rfl rfl ?_
              refine g_getIx (x := u.1 3906) rfl zf_M_94 rfl rfl rfl rfl ?_
              refine g_iconst (v := (1 : Int32)) rfl zic_1 ?_
              refine g_iadd rfl ?_
              refine g_put (j := 3906) rfl zf_M_94 rfl rfl zp_11_6.1 (Or.inl zp_11_6.2) rfl ?_
              refine g_iinc (v := (1 : Int32)) (lv' := [(0, .ref 39), (1, .int l1), (2, .int l2), (3, .int l3), (4, .int (l4 + (1 : Int32))), (5, .int (0 : Int32))]) rfl rfl zic_1 (Nat.le_of_ble_eq_true rfl) rfl rfl ?_
              refine g_goto rfl ?_
              exact zgo_sub (zsubk [0, 1, 2, 3, 4, 5] rfl) (zgo_leaf (hb (l4 + (1 : Int32)) (0 : Int32) (zs (za u 44 ((u.1 3906).toNatClampNeg) ((u.2.2 60 ((((60 : Int32) * l1) + l2) + l4).toNatClampNeg).toInt32)) 3906 ((u.1 3906) + (1 : Int32)))))
          · refine g_iconst (v := (1 : Int32)) rfl zic_1 ?_
            refine g_goto rfl ?_
            refine g_istore (lv' := [(0, .ref 39), (1, .int l1), (2, .int l2), (3, .int l3), (4, .int l4), (5, .int (1 : Int32))]) rfl (Nat.le_of_ble_eq_true rfl) rfl rfl ?_
            refine g_iload rfl rfl ?_
            refine g_ifeq rfl (fun c98 => ?_) (fun c98 => ?_)
            · exact zgo_sub (zsubk [0, 1, 2, 3, 4, 5] rfl) (zgo_leaf (hb l4 (1 : Int32) u))
            · refine g_aload_n rfl rfl ?_
              refine g_getR rfl zf_M_22 rfl rfl ?_
              refine g_aload_n rfl rfl ?_
              refine g_getI rfl zf_M_94 rfl rfl rfl ?_
              refine g_aload_n rfl rfl ?_
              refine g_getR rfl zf_M_71 rfl rfl ?_
              refine g_bipush (v := (60 : Int32)) rfl zib_60 ?_
              refine g_iload_n rfl rfl ?_
              refine g_imul rfl ?_
              refine g_iload_n rfl rfl ?_
              refine g_iadd rfl ?_
              refine g_iload rfl rfl ?_
              refine g_iadd rfl ?_
              refine g_lald rfl rfl (fun o100 => ?_)
              refine g_l2i rfl ?_
              refine g_iast rfl rfl (fun o99 => ?_)
              refine g_aload_n rfl rfl ?_
              refine g_dup rfl rfl ?_
              refine g_getIx (x := u.1 3906) rfl zf_M_94 rfl rfl rfl rfl ?_
              refine g_iconst (v := (1 : Int32)) rfl zic_1 ?_
              refine g_iadd rfl ?_
              refine g_put (j := 3906) rfl zf_M_94 rfl rfl zp_11_6.1 (Or.inl zp_11_6.2) rfl ?_
              refine g_iinc (v := (1 : Int32)) (lv' := [(0, .ref 39), (1, .int l1), (2, .int l2), (3, .int l3), (4, .int (l4 + (1 : Int32))), (5, .int (1 : Int32))]) rfl rfl zic_1 (Nat.le_of_ble_eq_true rfl) rfl rfl ?_
              refine g_goto rfl ?_
              exact zgo_sub (zsubk [0, 1, 2, 3, 4, 5] rfl) (zgo_leaf (hb (l4 + (1 : Int32)) (1 : Int32) (zs (za u 44 ((u.1 3906).toNatClampNeg) ((u.2.2 60 ((((60 : Int32) * l1) + l2) + l4).toNatClampNeg).toInt32)) 3906 ((u.1 3906) + (1 : Int32)))))
      · refine g_aload_n rfl rfl ?_
        refine g_getI rfl zf_M_94 rfl rfl rfl ?_
        refine g_bipush (v := (10 : Int32)) rfl zib_10 ?_
        refine g_icmpge rfl (fun c102 => ?_) (fun c102 => ?_)
        · refine g_iconst (v := (0 : Int32)) rfl zic_0 ?_
          refine g_istore (lv' := [(0, .ref 39), (1, .int l1), (2, .int l2), (3, .int l3), (4, .int l4), (5, .int (0 : Int32))]) rfl (Nat.le_of_ble_eq_true rfl) rfl rfl ?_
          refine g_iload rfl rfl ?_
          refine g_ifeq rfl (fun c103 => ?_) (fun c103 => ?_)
          · refine g_iconst (v := (0 : Int32)) rfl zic_0 ?_
            refine g_istore (lv' := [(0, .ref 39), (1, .int l1), (2, .int l2), (3, .int l3), (4, .int l4), (5, .int (0 : Int32))]) rfl (Nat.le_of_ble_eq_true rfl) rfl rfl ?_
            refine g_iload rfl rfl ?_
            refine g_ifeq rfl (fun c104 => ?_) (fun c104 => ?_)
            · exact zgo_sub (zsubk [0, 1, 2, 3, 4, 5] rfl) (zgo_leaf (hb l4 (0 : Int32) u))
            · refine g_aload_n rfl rfl ?_
              refine g_getR rfl zf_M_22 rfl rfl ?_
              refine g_aload_n rfl rfl ?_
              refine g_getI rfl zf_M_94 rfl rfl rfl ?_
              refine g_aload_n rfl rfl ?_
              refine g_getR rfl zf_M_71 rfl rfl ?_
              refine g_bipush (v := (60 : Int32)) rfl zib_60 ?_
              refine g_iload_n rfl rfl ?_
              refine g_imul rfl ?_
              refine g_iload_n rfl rfl ?_
              refine g_iadd rfl ?_
              refine g_iload rfl rfl ?_
              refine g_iadd rfl ?_
              refine g_lald rfl rfl (fun o106 => ?_)
              refine g_l2i rfl ?_
              refine g_iast rfl rfl (fun o105 => ?_)
              refine g_aload_n rfl rfl ?_
              refine g_dup rfl rfl ?_
              refine g_getIx (x := u.1 3906) rfl zf_M_94 rfl rfl rfl rfl ?_
              refine g_iconst (v := (1 : Int32)) rfl zic_1 ?_
              refine g_iadd rfl ?_
              refine g_put (j := 3906) rfl zf_M_94 rfl rfl zp_11_6.1 (Or.inl zp_11_6.2) rfl ?_
              refine g_iinc (v := (1 : Int32)) (lv' := [(0, .ref 39), (1, .int l1), (2, .int l2), (3, .int l3), (4, .int (l4 + (1 : Int32))), (5, .int (0 : Int32))]) rfl rfl zic_1 (Nat.le_of_ble_eq_true rfl) rfl rfl ?_
              refine g_goto rfl ?_
              exact zgo_sub (zsubk [0, 1, 2, 3, 4, 5] rfl) (zgo_leaf (hb (l4 + (1 : Int32)) (0 : Int32) (zs (za u 44 ((u.1 3906).toNatClampNeg) ((u.2.2 60 ((((60 : Int32) * l1) + l2) + l4).toNatClampNeg).toInt32)) 3906 ((u.1 3906) + (1 : Int32)))))
          · refine g_aload_n rfl rfl ?_
            refine g_getR rfl zf_M_71 rfl rfl ?_
            refine g_bipush (v := (60 : Int32)) rfl zib_60 ?_
            refine g_iload_n rfl rfl ?_
            refine g_imul rfl ?_
            refine g_iload_n rfl rfl ?_
            refine g_iadd rfl ?_
            refine g_iload rfl rfl ?_
            refine g_iadd rfl ?_
            refine g_lald rfl rfl (fun o117 => ?_)
            refine g_lconst (v := (0 : Int64)) rfl rfl ?_
            refine g_ldc2 rfl zk_M_111 ?_
            refine g_callSP (M' := m_M_within) (d' := 1) (as := [.long (u.2.2 60 ((((60 : Int32) * l1) + l2) + l4).toNatClampNeg), .long (0 : Int64), .long (99 : Int64)]) (rest := []) rfl ml_M_97 v_M_within (by decide) rfl rfl (Nat.le_of_ble_eq_true rfl) (fun x_ e_ => s_M_within G (u.2.2 60 ((((60 : Int32) * l1) + l2) + l4).toNatClampNeg) (0 : Int64) (99 : Int64) u x_ e_) (fun q107 e108 b109 => ?_)
            refine g_ifeq rfl (fun c110 => ?_) (fun c110 => ?_)
            · refine g_iconst (v := (0 : Int32)) rfl zic_0 ?_
              refine g_istore (lv' := [(0, .ref 39), (1, .int l1), (2, .int l2), (3, .int l3), (4, .int l4), (5, .int (0 : Int32))]) rfl (Nat.le_of_ble_eq_true rfl) rfl rfl ?_
              refine g_iload rfl rfl ?_
              refine g_ifeq rfl (fun c111 => ?_) (fun c111 => ?_)
              · exact zgo_sub (zsubk [0, 1, 2, 3, 4, 5] rfl) (zgo_leaf (hb l4 (0 : Int32) u))
              · refine g_aload_n rfl rfl ?_
                refine g_getR rfl zf_M_22 rfl rfl ?_
                refine g_aload_n rfl rfl ?_
                refine g_getI rfl zf_M_94 rfl rfl rfl ?_
                refine g_aload_n rfl rfl ?_
                refine g_getR rfl zf_M_71 rfl rfl ?_
                refine g_bipush (v := (60 : Int32)) rfl zib_60 ?_
                refine g_iload_n rfl rfl ?_
                refine g_imul rfl ?_
                refine g_iload_n rfl rfl ?_
                refine g_iadd rfl ?_
                refine g_iload rfl rfl ?_
                refine g_iadd rfl ?_
                refine g_lald rfl rfl (fun o113 => ?_)
                refine g_l2i rfl ?_
                refine g_iast rfl rfl (fun o112 => ?_)
                refine g_aload_n rfl rfl ?_
                refine g_dup rfl rfl ?_
                refine g_getIx (x := u.1 3906) rfl zf_M_94 rfl rfl rfl rfl ?_
                refine g_iconst (v := (1 : Int32)) rfl zic_1 ?_
                refine g_iadd rfl ?_
                refine g_put (j := 3906) rfl zf_M_94 rfl rfl zp_11_6.1 (Or.inl zp_11_6.2) rfl ?_
                refine g_iinc (v := (1 : Int32)) (lv' := [(0, .ref 39), (1, .int l1), (2, .int l2), (3, .int l3), (4, .int (l4 + (1 : Int32))), (5, .int (0 : Int32))]) rfl rfl zic_1 (Nat.le_of_ble_eq_true rfl) rfl rfl ?_
                refine g_goto rfl ?_
                exact zgo_sub (zsubk [0, 1, 2, 3, 4, 5] rfl) (zgo_leaf (hb (l4 + (1 : Int32)) (0 : Int32) (zs (za u 44 ((u.1 3906).toNatClampNeg) ((u.2.2 60 ((((60 : Int32) * l1) + l2) + l4).toNatClampNeg).toInt32)) 3906 ((u.1 3906) + (1 : Int32)))))
            · refine g_iconst (v := (1 : Int32)) rfl zic_1 ?_
              refine g_goto rfl ?_
              refine g_istore (lv' := [(0, .ref 39), (1, .int l1), (2, .int l2), (3, .int l3), (4, .int l4), (5, .int (1 : Int32))]) rfl (Nat.le_of_ble_eq_true rfl) rfl rfl ?_
              refine g_iload rfl rfl ?_
              refine g_ifeq rfl (fun c114 => ?_) (fun c114 => ?_)
              · exact zgo_sub (zsubk [0, 1, 2, 3, 4, 5] rfl) (zgo_leaf (hb l4 (1 : Int32) u))
              · refine g_aload_n rfl rfl ?_
                refine g_getR rfl zf_M_22 rfl rfl ?_
                refine g_aload_n rfl rfl ?_
                refine g_getI rfl zf_M_94 rfl rfl rfl ?_
                refine g_aload_n rfl rfl ?_
                refine g_getR rfl zf_M_71 rfl rfl ?_
                refine g_bipush (v := (60 : Int32)) rfl zib_60 ?_
                refine g_iload_n rfl rfl ?_
                refine g_imul rfl ?_
                refine g_iload_n rfl rfl ?_
                refine g_iadd rfl ?_
                refine g_iload rfl rfl ?_
                refine g_iadd rfl ?_
                refine g_lald rfl rfl (fun o116 => ?_)
                refine g_l2i rfl ?_
                refine g_iast rfl rfl (fun o115 => ?_)
                refine g_aload_n rfl rfl ?_
                refine g_dup rfl rfl ?_
                refine g_getIx (x := u.1 3906) rfl zf_M_94 rfl rfl rfl rfl ?_
                refine g_iconst (v := (1 : Int32)) rfl zic_1 ?_
                refine g_iadd rfl ?_
                refine g_put (j := 3906) rfl zf_M_94 rfl rfl zp_11_6.1 (Or.inl zp_11_6.2) rfl ?_
                refine g_iinc (v := (1 : Int32)) (lv' := [(0, .ref 39), (1, .int l1), (2, .int l2), (3, .int l3), (4, .int (l4 + (1 : Int32))), (5, .int (1 : Int32))]) rfl rfl zic_1 (Nat.le_of_ble_eq_true rfl) rfl rfl ?_
                refine g_goto rfl ?_
                exact zgo_sub (zsubk [0, 1, 2, 3, 4, 5] rfl) (zgo_leaf (hb (l4 + (1 : Int32)) (1 : Int32) (zs (za u 44 ((u.1 3906).toNatClampNeg) ((u.2.2 60 ((((60 : Int32) * l1) + l2) + l4).toNatClampNeg).toInt32)) 3906 ((u.1 3906) + (1 : Int32)))))
        · refine g_iconst (v := (1 : Int32)) rfl zic_1 ?_
          refine g_goto rfl ?_
          refine g_istore (lv' := [(0, .ref 39), (1, .int l1), (2, .int l2), (3, .int l3), (4, .int l4), (5, .int (1 : Int32))]) rfl (Nat.le_of_ble_eq_true rfl) rfl rfl ?_
          refine g_iload rfl rfl ?_
          refine g_ifeq rfl (fun c118 => ?_) (fun c118 => ?_)
          · refine g_iconst (v := (0 : Int32)) rfl zic_0 ?_
            refine g_istore (lv' := [(0, .ref 39), (1, .int l1), (2, .int l2), (3, .int l3), (4, .int l4), (5, .int (0 : Int32))]) rfl (Nat.le_of_ble_eq_true rfl) rfl rfl ?_
            refine g_iload rfl rfl ?_
            refine g_ifeq rfl (fun c119 => ?_) (fun c119 => ?_)
            · exact zgo_sub (zsubk [0, 1, 2, 3, 4, 5] rfl) (zgo_leaf (hb l4 (0 : Int32) u))
            · refine g_aload_n rfl rfl ?_
              refine g_getR rfl zf_M_22 rfl rfl ?_
              refine g_aload_n rfl rfl ?_
              refine g_getI rfl zf_M_94 rfl rfl rfl ?_
              refine g_aload_n rfl rfl ?_
              refine g_getR rfl zf_M_71 rfl rfl ?_
              refine g_bipush (v := (60 : Int32)) rfl zib_60 ?_
              refine g_iload_n rfl rfl ?_
              refine g_imul rfl ?_
              refine g_iload_n rfl rfl ?_
              refine g_iadd rfl ?_
              refine g_iload rfl rfl ?_
              refine g_iadd rfl ?_
              refine g_lald rfl rfl (fun o121 => ?_)
              refine g_l2i rfl ?_
              refine g_iast rfl rfl (fun o120 => ?_)
              refine g_aload_n rfl rfl ?_
              refine g_dup rfl rfl ?_
              refine g_getIx (x := u.1 3906) rfl zf_M_94 rfl rfl rfl rfl ?_
              refine g_iconst (v := (1 : Int32)) rfl zic_1 ?_
              refine g_iadd rfl ?_
              refine g_put (j := 3906) rfl zf_M_94 rfl rfl zp_11_6.1 (Or.inl zp_11_6.2) rfl ?_
              refine g_iinc (v := (1 : Int32)) (lv' := [(0, .ref 39), (1, .int l1), (2, .int l2), (3, .int l3), (4, .int (l4 + (1 : Int32))), (5, .int (0 : Int32))]) rfl rfl zic_1 (Nat.le_of_ble_eq_true rfl) rfl rfl ?_
              refine g_goto rfl ?_
              exact zgo_sub (zsubk [0, 1, 2, 3, 4, 5] rfl) (zgo_leaf (hb (l4 + (1 : Int32)) (0 : Int32) (zs (za u 44 ((u.1 3906).toNatClampNeg) ((u.2.2 60 ((((60 : Int32) * l1) + l2) + l4).toNatClampNeg).toInt32)) 3906 ((u.1 3906) + (1 : Int32)))))
          · refine g_aload_n rfl rfl ?_
            refine g_getR rfl zf_M_71 rfl rfl ?_
            refine g_bipush (v := (60 : Int32)) rfl zib_60 ?_
            refine g_iload_n rfl rfl ?_
            refine g_imul rfl ?_
            refine g_iload_n rfl rfl ?_
            refine g_iadd rfl ?_
            refine g_iload rfl rfl ?_
            refine g_iadd rfl ?_
            refine g_lald rfl rfl (fun o132 => ?_)
            refine g_lconst (v := (0 : Int64)) rfl rfl ?_
            refine g_ldc2 rfl zk_M_111 ?_
            refine g_callSP (M' := m_M_within) (d' := 1) (as := [.long (u.2.2 60 ((((60 : Int32) * l1) + l2) + l4).toNatClampNeg), .long (0 : Int64), .long (99 : Int64)]) (rest := []) rfl ml_M_97 v_M_within (by decide) rfl rfl (Nat.le_of_ble_eq_true rfl) (fun x_ e_ => s_M_within G (u.2.2 60 ((((60 : Int32) * l1) + l2) + l4).toNatClampNeg) (0 : Int64) (99 : Int64) u x_ e_) (fun q122 e123 b124 => ?_)
            refine g_ifeq rfl (fun c125 => ?_) (fun c125 => ?_)
            · refine g_iconst (v := (0 : Int32)) rfl zic_0 ?_
              refine g_istore (lv' := [(0, .ref 39), (1, .int l1), (2, .int l2), (3, .int l3), (4, .int l4), (5, .int (0 : Int32))]) rfl (Nat.le_of_ble_eq_true rfl) rfl rfl ?_
              refine g_iload rfl rfl ?_
              refine g_ifeq rfl (fun c126 => ?_) (fun c126 => ?_)
              · exact zgo_sub (zsubk [0, 1, 2, 3, 4, 5] rfl) (zgo_leaf (hb l4 (0 : Int32) u))
              · refine g_aload_n rfl rfl ?_
                refine g_getR rfl zf_M_22 rfl rfl ?_
                refine g_aload_n rfl rfl ?_
                refine g_getI rfl zf_M_94 rfl rfl rfl ?_
                refine g_aload_n rfl rfl ?_
                refine g_getR rfl zf_M_71 rfl rfl ?_
                refine g_bipush (v := (60 : Int32)) rfl zib_60 ?_
                refine g_iload_n rfl rfl ?_
                refine g_imul rfl ?_
                refine g_iload_n rfl rfl ?_
                refine g_iadd rfl ?_
                refine g_iload rfl rfl ?_
                refine g_iadd rfl ?_
                refine g_lald rfl rfl (fun o128 => ?_)
                refine g_l2i rfl ?_
                refine g_iast rfl rfl (fun o127 => ?_)
                refine g_aload_n rfl rfl ?_
                refine g_dup rfl rfl ?_
                refine g_getIx (x := u.1 3906) rfl zf_M_94 rfl rfl rfl rfl ?_
                refine g_iconst (v := (1 : Int32)) rfl zic_1 ?_
                refine g_iadd rfl ?_
                refine g_put (j := 3906) rfl zf_M_94 rfl rfl zp_11_6.1 (Or.inl zp_11_6.2) rfl ?_
                refine g_iinc (v := (1 : Int32)) (lv' := [(0, .ref 39), (1, .int l1), (2, .int l2), (3, .int l3), (4, .int (l4 + (1 : Int32))), (5, .int (0 : Int32))]) rfl rfl zic_1 (Nat.le_of_ble_eq_true rfl) rfl rfl ?_
                refine g_goto rfl ?_
                exact zgo_sub (zsubk [0, 1, 2, 3, 4, 5] rfl) (zgo_leaf (hb (l4 + (1 : Int32)) (0 : Int32) (zs (za u 44 ((u.1 3906).toNatClampNeg) ((u.2.2 60 ((((60 : Int32) * l1) + l2) + l4).toNatClampNeg).toInt32)) 3906 ((u.1 3906) + (1 : Int32)))))
            · refine g_iconst (v := (1 : Int32)) rfl zic_1 ?_
              refine g_goto rfl ?_
              refine g_istore (lv' := [(0, .ref 39), (1, .int l1), (2, .int l2), (3, .int l3), (4, .int l4), (5, .int (1 : Int32))]) rfl (Nat.le_of_ble_eq_true rfl) rfl rfl ?_
              refine g_iload rfl rfl ?_
              refine g_ifeq rfl (fun c129 => ?_) (fun c129 => ?_)
              · exact zgo_sub (zsubk [0, 1, 2, 3, 4, 5] rfl) (zgo_leaf (hb l4 (1 : Int32) u))
              · refine g_aload_n rfl rfl ?_
                refine g_getR rfl zf_M_22 rfl rfl ?_
                refine g_aload_n rfl rfl ?_
                refine g_getI rfl zf_M_94 rfl rfl rfl ?_
                refine g_aload_n rfl rfl ?_
                refine g_getR rfl zf_M_71 rfl rfl ?_
                refine g_bipush (v := (60 : Int32)) rfl zib_60 ?_
                refine g_iload_n rfl rfl ?_
                refine g_imul rfl ?_
                refine g_iload_n rfl rfl ?_
                refine g_iadd rfl ?_
                refine g_iload rfl rfl ?_
                refine g_iadd rfl ?_
                refine g_lald rfl rfl (fun o131 => ?_)
                refine g_l2i rfl ?_
                refine g_iast rfl rfl (fun o130 => ?_)
                refine g_aload_n rfl rfl ?_
                refine g_dup rfl rfl ?_
                refine g_getIx (x := u.1 3906) rfl zf_M_94 rfl rfl rfl rfl ?_
                refine g_iconst (v := (1 : Int32)) rfl zic_1 ?_
                refine g_iadd rfl ?_
                refine g_put (j := 3906) rfl zf_M_94 rfl rfl zp_11_6.1 (Or.inl zp_11_6.2) rfl ?_
                refine g_iinc (v := (1 : Int32)) (lv' := [(0, .ref 39), (1, .int l1), (2, .int l2), (3, .int l3), (4, .int (l4 + (1 : Int32))), (5, .int (1 : Int32))]) rfl rfl zic_1 (Nat.le_of_ble_eq_true rfl) rfl rfl ?_
                refine g_goto rfl ?_
                exact zgo_sub (zsubk [0, 1, 2, 3, 4, 5] rfl) (zgo_leaf (hb (l4 + (1 : Int32)) (1 : Int32) (zs (za u 44 ((u.1 3906).toNatClampNeg) ((u.2.2 60 ((((60 : Int32) * l1) + l2) + l4).toNatClampNeg).toInt32)) 3906 ((u.1 3906) + (1 : Int32)))))
set_option maxRecDepth 100000 in
set_option maxHeartbeats 4000000 in
theorem wa_M_people_38 (G : ZG) (l4 : Int32) (u : ZSt) : ZGo G m_M_people 3 (a_M_people_38 l4 u) zkI 107 [(4, .int l4)] [] u := by
  unfold a_M_people_38
  refine g_iload rfl rfl ?_
  exact g_iret rfl (Or.inl rfl) rfl
set_option maxRecDepth 100000 in
set_option maxHeartbeats 4000000 in
theorem w_M_people (G : ZG) (a : Int32) (b : Int32) (c : Int32) (u : ZSt) : ZGo G m_M_people 3 (f_M_people a b c u) zkI 0 [(0, .ref 39), (1, .int a), (2, .int b), (3, .int c)] [] u := by
  unfold f_M_people
  refine g_iload_n rfl rfl ?_
  refine g_callSP (M' := m_M_isShelf) (d' := 2) (as := [.int a]) (rest := []) rfl ml_M_113 v_M_isShelf (by decide) rfl rfl (Nat.le_of_ble_eq_true rfl) (fun x_ e_ => s_M_isShelf G a u x_ e_) (fun q74 e75 b76 => ?_)
  refine g_ifeq rfl (fun c77 => ?_) (fun c77 => ?_)
  · refine g_iconst (v := (-1 : Int32)) rfl zic_m1 ?_
    exact g_iret rfl (Or.inl rfl) rfl
  · refine g_iload_n rfl rfl ?_
    refine g_i2l rfl ?_
    refine g_lconst (v := (1 : Int64)) rfl rfl ?_
    refine g_ldc2 rfl zk_M_116 ?_
    refine g_callSP (M' := m_M_within) (d' := 1) (as := [.long c.toInt64, .long (1 : Int64), .long (10 : Int64)]) (rest := []) rfl ml_M_97 v_M_within (by decide) rfl rfl (Nat.le_of_ble_eq_true rfl) (fun x_ e_ => s_M_within G c.toInt64 (1 : Int64) (10 : Int64) u x_ e_) (fun q78 e79 b80 => ?_)
    refine g_ifne rfl (fun c81 => ?_) (fun c81 => ?_)
    · refine g_aload_n rfl rfl ?_
      refine g_getR rfl zf_M_65 rfl rfl ?_
      refine g_iload_n rfl rfl ?_
      refine g_iald rfl rfl (fun o141 => ?_)
      refine g_iflt rfl (fun c82 => ?_) (fun c82 => ?_)
      · refine g_iconst (v := (0 : Int32)) rfl zic_0 ?_
        refine g_istore (lv' := [(0, .ref 39), (1, .int a), (2, .int b), (3, .int c), (4, .int (0 : Int32))]) rfl (Nat.le_of_ble_eq_true rfl) rfl rfl ?_
        refine g_aload_n rfl rfl ?_
        refine g_getR rfl zf_M_65 rfl rfl ?_
        refine g_iload_n rfl rfl ?_
        refine g_iald rfl rfl (fun o135 => ?_)
        refine g_bipush (v := (50 : Int32)) rfl zib_50 ?_
        refine g_icmpne rfl (fun c83 => ?_) (fun c83 => ?_)
        · refine g_iconst (v := (0 : Int32)) rfl zic_0 ?_
          refine g_istore (lv' := [(0, .ref 39), (1, .int a), (2, .int b), (3, .int c), (4, .int (0 : Int32)), (5, .int (0 : Int32))]) rfl (Nat.le_of_ble_eq_true rfl) rfl rfl ?_
          refine zgo_sub (lv' := [(0, .ref 39), (1, .int a), (2, .int b), (3, .int c), (4, .int (0 : Int32)), (5, .int (0 : Int32))]) (zsubk [0, 1, 2, 3, 4, 5] rfl) ?_
          refine zgo_loop (σ := Int32 × Int32 × ZSt) (lvf := fun s => [(0, .ref 39), (1, .int a), (2, .int b), (3, .int c), (4, .int s.1), (5, .int s.2.1)]) (uf := (fun s => s.2.2)) ?_ zfu _
          intro s K' ih he
          refine wb_M_people_38 G a b c s.1 s.2.1 s.2.2 K' ?_ ?_
          · intro c0 c1 v
            exact ih (c0, c1, v)
          · intro c0 c1 v
            rw [he]
            exact zgo_unleaf (wa_M_people_38 G c0 v)
        · refine g_iload_n rfl rfl ?_
          refine g_iflt rfl (fun c134 => ?_) (fun c134 => ?_)
          · refine g_iconst (v := (0 : Int32)) rfl zic_0 ?_
            refine g_istore (lv' := [(0, .ref 39), (1, .int a), (2, .int b), (3, .int c), (4, .int (0 : Int32)), (5, .int (0 : Int32))]) rfl (Nat.le_of_ble_eq_true rfl) rfl rfl ?_
            refine zgo_sub (lv' := [(0, .ref 39), (1, .int a), (2, .int b), (3, .int c), (4, .int (0 : Int32)), (5, .int (0 : Int32))]) (zsubk [0, 1, 2, 3, 4, 5] rfl) ?_
            refine zgo_loop (σ := Int32 × Int32 × ZSt) (lvf := fun s => [(0, .ref 39), (1, .int a), (2, .int b), (3, .int c), (4, .int s.1), (5, .int s.2.1)]) (uf := (fun s => s.2.2)) ?_ zfu _
            intro s K' ih he
            refine wb_M_people_38 G a b c s.1 s.2.1 s.2.2 K' ?_ ?_
            · intro c0 c1 v
              exact ih (c0, c1, v)
            · intro c0 c1 v
              rw [he]
              exact zgo_unleaf (wa_M_people_38 G c0 v)
          · refine g_iconst (v := (1 : Int32)) rfl zic_1 ?_
            refine g_goto rfl ?_
            refine g_istore (lv' := [(0, .ref 39), (1, .int a), (2, .int b), (3, .int c), (4, .int (0 : Int32)), (5, .int (1 : Int32))]) rfl (Nat.le_of_ble_eq_true rfl) rfl rfl ?_
            refine zgo_sub (lv' := [(0, .ref 39), (1, .int a), (2, .int b), (3, .int c), (4, .int (0 : Int32)), (5, .int (1 : Int32))]) (zsubk [0, 1, 2, 3, 4, 5] rfl) ?_
            refine zgo_loop (σ := Int32 × Int32 × ZSt) (lvf := fun s => [(0, .ref 39), (1, .int a), (2, .int b), (3, .int c), (4, .int s.1), (5, .int s.2.1)]) (uf := (fun s => s.2.2)) ?_ zfu _
            intro s K' ih he
            refine wb_M_people_38 G a b c s.1 s.2.1 s.2.2 K' ?_ ?_
            · intro c0 c1 v
              exact ih (c0, c1, v)
            · intro c0 c1 v
              rw [he]
              exact zgo_unleaf (wa_M_people_38 G c0 v)
      · refine g_aload_n rfl rfl ?_
        refine g_getR rfl zf_M_65 rfl rfl ?_
        refine g_iload_n rfl rfl ?_
        refine g_iald rfl rfl (fun o140 => ?_)
        refine g_bipush (v := (50 : Int32)) rfl zib_50 ?_
        refine g_icmpeq rfl (fun c136 => ?_) (fun c136 => ?_)
        · refine g_iconst (v := (0 : Int32)) rfl zic_0 ?_
          refine g_istore (lv' := [(0, .ref 39), (1, .int a), (2, .int b), (3, .int c), (4, .int (0 : Int32))]) rfl (Nat.le_of_ble_eq_true rfl) rfl rfl ?_
          refine g_aload_n rfl rfl ?_
          refine g_getR rfl zf_M_65 rfl rfl ?_
          refine g_iload_n rfl rfl ?_
          refine g_iald rfl rfl (fun o139 => ?_)
          refine g_bipush (v := (50 : Int32)) rfl zib_50 ?_
          refine g_icmpne rfl (fun c137 => ?_) (fun c137 => ?_)
          · refine g_iconst (v := (0 : Int32)) rfl zic_0 ?_
            refine g_istore (lv' := [(0, .ref 39), (1, .int a), (2, .int b), (3, .int c), (4, .int (0 : Int32)), (5, .int (0 : Int32))]) rfl (Nat.le_of_ble_eq_true rfl) rfl rfl ?_
            refine zgo_sub (lv' := [(0, .ref 39), (1, .int a), (2, .int b), (3, .int c), (4, .int (0 : Int32)), (5, .int (0 : Int32))]) (zsubk [0, 1, 2, 3, 4, 5] rfl) ?_
            refine zgo_loop (σ := Int32 × Int32 × ZSt) (lvf := fun s => [(0, .ref 39), (1, .int a), (2, .int b), (3, .int c), (4, .int s.1), (5, .int s.2.1)]) (uf := (fun s => s.2.2)) ?_ zfu _
            intro s K' ih he
            refine wb_M_people_38 G a b c s.1 s.2.1 s.2.2 K' ?_ ?_
            · intro c0 c1 v
              exact ih (c0, c1, v)
            · intro c0 c1 v
              rw [he]
              exact zgo_unleaf (wa_M_people_38 G c0 v)
          · refine g_iload_n rfl rfl ?_
            refine g_iflt rfl (fun c138 => ?_) (fun c138 => ?_)
            · refine g_iconst (v := (0 : Int32)) rfl zic_0 ?_
              refine g_istore (lv' := [(0, .ref 39), (1, .int a), (2, .int b), (3, .int c), (4, .int (0 : Int32)), (5, .int (0 : Int32))]) rfl (Nat.le_of_ble_eq_true rfl) rfl rfl ?_
              refine zgo_sub (lv' := [(0, .ref 39), (1, .int a), (2, .int b), (3, .int c), (4, .int (0 : Int32)), (5, .int (0 : Int32))]) (zsubk [0, 1, 2, 3, 4, 5] rfl) ?_
              refine zgo_loop (σ := Int32 × Int32 × ZSt) (lvf := fun s => [(0, .ref 39), (1, .int a), (2, .int b), (3, .int c), (4, .int s.1), (5, .int s.2.1)]) (uf := (fun s => s.2.2)) ?_ zfu _
              intro s K' ih he
              refine wb_M_people_38 G a b c s.1 s.2.1 s.2.2 K' ?_ ?_
              · intro c0 c1 v
                exact ih (c0, c1, v)
              · intro c0 c1 v
                rw [he]
                exact zgo_unleaf (wa_M_people_38 G c0 v)
            · refine g_iconst (v := (1 : Int32)) rfl zic_1 ?_
              refine g_goto rfl ?_
              refine g_istore (lv' := [(0, .ref 39), (1, .int a), (2, .int b), (3, .int c), (4, .int (0 : Int32)), (5, .int (1 : Int32))]) rfl (Nat.le_of_ble_eq_true rfl) rfl rfl ?_
              refine zgo_sub (lv' := [(0, .ref 39), (1, .int a), (2, .int b), (3, .int c), (4, .int (0 : Int32)), (5, .int (1 : Int32))]) (zsubk [0, 1, 2, 3, 4, 5] rfl) ?_
              refine zgo_loop (σ := Int32 × Int32 × ZSt) (lvf := fun s => [(0, .ref 39), (1, .int a), (2, .int b), (3, .int c), (4, .int s.1), (5, .int s.2.1)]) (uf := (fun s => s.2.2)) ?_ zfu _
              intro s K' ih he
              refine wb_M_people_38 G a b c s.1 s.2.1 s.2.2 K' ?_ ?_
              · intro c0 c1 v
                exact ih (c0, c1, v)
              · intro c0 c1 v
                rw [he]
                exact zgo_unleaf (wa_M_people_38 G c0 v)
        · refine g_bipush (v := (-12 : Int32)) rfl zib_m12 ?_
          exact g_iret rfl (Or.inl rfl) rfl
    · refine g_iconst (v := (-1 : Int32)) rfl zic_m1 ?_
      exact g_iret rfl (Or.inl rfl) rfl
theorem s_M_people (G : ZG) (a : Int32) (b : Int32) (c : Int32) (u : ZSt) (x : Int32 × ZSt) (hx : f_M_people a b c u = some x) : ZSpec G m_M_people 3 [.ref 39, .int a, .int b, .int c] u (zemI x) :=
  ZSpec.go k_M_people (Nat.le_of_ble_eq_true rfl) (w_M_people G a b c u) (tgt := zemI x) (by rw [hx]; rfl)
set_option maxRecDepth 100000 in
set_option maxHeartbeats 4000000 in
theorem w_Council_isPerson (G : ZG) (a : Int32) (u : ZSt) : ZGo G m_Council_isPerson 1 (f_Council_isPerson a u) (zkP u) 0 [(0, .ref 1), (1, .int a)] [] u := by
  unfold f_Council_isPerson
  refine g_iload_n rfl rfl ?_
  refine g_iflt rfl (fun c142 => ?_) (fun c142 => ?_)
  · refine g_iconst (v := (0 : Int32)) rfl zic_0 ?_
    exact g_iret rfl (Or.inr ⟨rfl, Or.inl rfl⟩) rfl
  · refine g_iload_n rfl rfl ?_
    refine g_aload_n rfl rfl ?_
    refine g_getI rfl zf_Council_28 rfl rfl rfl ?_
    refine g_icmpge rfl (fun c143 => ?_) (fun c143 => ?_)
    · refine g_iconst (v := (0 : Int32)) rfl zic_0 ?_
      exact g_iret rfl (Or.inr ⟨rfl, Or.inl rfl⟩) rfl
    · refine g_iconst (v := (1 : Int32)) rfl zic_1 ?_
      refine g_goto rfl ?_
      exact g_iret rfl (Or.inr ⟨rfl, Or.inr rfl⟩) rfl
theorem s_Council_isPerson (G : ZG) (a : Int32) (u : ZSt) (x : Int32) (hx : f_Council_isPerson a u = some x) : ZSpec G m_Council_isPerson 1 [.ref 1, .int a] u ((zemP u) x) :=
  ZSpec.go k_Council_isPerson (Nat.le_of_ble_eq_true rfl) (w_Council_isPerson G a u) (tgt := (zemP u) x) (by rw [hx]; rfl)
set_option maxRecDepth 100000 in
set_option maxHeartbeats 4000000 in
theorem w_Council_isTwo (G : ZG) (a : Int32) (u : ZSt) : ZGo G m_Council_isTwo 2 (f_Council_isTwo a u) (zkP u) 0 [(0, .ref 1), (1, .int a)] [] u := by
  unfold f_Council_isTwo
  refine g_iload_n rfl rfl ?_
  refine g_iflt rfl (fun c144 => ?_) (fun c144 => ?_)
  · refine g_iconst (v := (0 : Int32)) rfl zic_0 ?_
    exact g_iret rfl (Or.inr ⟨rfl, Or.inl rfl⟩) rfl
  · refine g_aload_n rfl rfl ?_
    refine g_iload_n rfl rfl ?_
    refine g_bipush (v := (10 : Int32)) rfl zib_10 ?_
    refine g_idiv rfl (by decide) ?_
    refine g_callVP (M' := m_Council_isPerson) (d' := 1) (as := [.int (a / (10 : Int32))]) (rest := []) (ci := 3) (o := 1) rfl ml_Council_34 v_Council_isPerson (by decide) rfl (by decide) rfl rfl rfl (Nat.le_of_ble_eq_true rfl) (fun x_ e_ => s_Council_isPerson G (a / (10 : Int32)) u x_ e_) (fun q145 e146 b147 => ?_)
    refine g_ifeq rfl (fun c148 => ?_) (fun c148 => ?_)
    · refine g_iconst (v := (0 : Int32)) rfl zic_0 ?_
      exact g_iret rfl (Or.inr ⟨rfl, Or.inl rfl⟩) rfl
    · refine g_aload_n rfl rfl ?_
      refine g_iload_n rfl rfl ?_
      refine g_bipush (v := (10 : Int32)) rfl zib_10 ?_
      refine g_irem rfl (by decide) ?_
      refine g_callVP (M' := m_Council_isPerson) (d' := 1) (as := [.int (zrem a (10 : Int32))]) (rest := []) (ci := 3) (o := 1) rfl ml_Council_34 v_Council_isPerson (by decide) rfl (by decide) rfl rfl rfl (Nat.le_of_ble_eq_true rfl) (fun x_ e_ => s_Council_isPerson G (zrem a (10 : Int32)) u x_ e_) (fun q149 e150 b151 => ?_)
      refine g_ifeq rfl (fun c152 => ?_) (fun c152 => ?_)
      · refine g_iconst (v := (0 : Int32)) rfl zic_0 ?_
        exact g_iret rfl (Or.inr ⟨rfl, Or.inl rfl⟩) rfl
      · refine g_iconst (v := (1 : Int32)) rfl zic_1 ?_
        refine g_goto rfl ?_
        exact g_iret rfl (Or.inr ⟨rfl, Or.inr rfl⟩) rfl
theorem s_Council_isTwo (G : ZG) (a : Int32) (u : ZSt) (x : Int32) (hx : f_Council_isTwo a u = some x) : ZSpec G m_Council_isTwo 2 [.ref 1, .int a] u ((zemP u) x) :=
  ZSpec.go k_Council_isTwo (Nat.le_of_ble_eq_true rfl) (w_Council_isTwo G a u) (tgt := (zemP u) x) (by rw [hx]; rfl)
set_option maxRecDepth 100000 in
set_option maxHeartbeats 4000000 in
theorem w_Council_stepsOf (G : ZG) (a : Int32) (b : Int32) (u : ZSt) : ZGo G m_Council_stepsOf 1 (f_Council_stepsOf a b u) (zkP u) 0 [(0, .ref 1), (1, .int a), (2, .int b)] [] u := by
  unfold f_Council_stepsOf
  refine g_bipush (v := (10 : Int32)) rfl zib_10 ?_
  refine g_iload_n rfl rfl ?_
  refine g_imul rfl ?_
  refine g_iload_n rfl rfl ?_
  refine g_iadd rfl ?_
  refine g_istore_n (lv' := [(0, .ref 1), (1, .int a), (2, .int b), (3, .int (((10 : Int32) * a) + b))]) rfl (Nat.le_of_ble_eq_true rfl) rfl rfl ?_
  refine g_iload_n rfl rfl ?_
  refine g_iflt rfl (fun c153 => ?_) (fun c153 => ?_)
  · refine g_bipush (v := (9 : Int32)) rfl zib_9 ?_
    exact g_iret rfl (Or.inl rfl) rfl
  · refine g_iload_n rfl rfl ?_
    refine g_bipush (v := (100 : Int32)) rfl zib_100 ?_
    refine g_icmpge rfl (fun c154 => ?_) (fun c154 => ?_)
    · refine g_bipush (v := (9 : Int32)) rfl zib_9 ?_
      exact g_iret rfl (Or.inl rfl) rfl
    · refine g_aload_n rfl rfl ?_
      refine g_getR rfl zf_Council_15 rfl rfl ?_
      refine g_iload_n rfl rfl ?_
      refine g_iald rfl rfl (fun o155 => ?_)
      refine g_goto rfl ?_
      exact g_iret rfl (Or.inl rfl) rfl
theorem s_Council_stepsOf (G : ZG) (a : Int32) (b : Int32) (u : ZSt) (x : Int32) (hx : f_Council_stepsOf a b u = some x) : ZSpec G m_Council_stepsOf 1 [.ref 1, .int a, .int b] u ((zemP u) x) :=
  ZSpec.go k_Council_stepsOf (Nat.le_of_ble_eq_true rfl) (w_Council_stepsOf G a b u) (tgt := (zemP u) x) (by rw [hx]; rfl)
set_option maxRecDepth 100000 in
set_option maxHeartbeats 4000000 in
theorem wb_Council_addPair_22 (G : ZG) (l1 : Int32) (l2 : Int32) (l3 : Int32) (u : ZSt) (K : ((Int32 × ZSt) ⊕ (Int32 × ZSt)) → Option (Value × ZSt)) (hb : ∀ (l3 : Int32) (u : ZSt), ZGo G m_Council_addPair 2 (K (.inl (l3, u))) some 22 [(0, .ref 1), (1, .int l1), (2, .int l2), (3, .int l3)] [] u) (hx : ∀ (l3 : Int32) (u : ZSt), ZGo G m_Council_addPair 2 (K (.inr (l3, u))) some 71 [(0, .ref 1)] [] u) : ZGo G m_Council_addPair 2 (b_Council_addPair_22 l1 l2 l3 u) K 22 [(0, .ref 1), (1, .int l1), (2, .int l2), (3, .int l3)] [] u := by
  unfold b_Council_addPair_22
  refine g_iload_n rfl rfl ?_
  refine g_bipush (v := (100 : Int32)) rfl zib_100 ?_
  refine g_icmpge rfl (fun c161 => ?_) (fun c161 => ?_)
  · exact zgo_sub (zsubk [0] rfl) (zgo_leaf (hx l3 u))
  · refine g_iload_n rfl rfl ?_
    refine g_bipush (v := (10 : Int32)) rfl zib_10 ?_
    refine g_idiv rfl (by decide) ?_
    refine g_istore (lv' := [(0, .ref 1), (1, .int l1), (2, .int l2), (3, .int l3), (4, .int (l3 / (10 : Int32)))]) rfl (Nat.le_of_ble_eq_true rfl) rfl rfl ?_
    refine g_iload_n rfl rfl ?_
    refine g_bipush (v := (10 : Int32)) rfl zib_10 ?_
    refine g_irem rfl (by decide) ?_
    refine g_istore (lv' := [(0, .ref 1), (1, .int l1), (2, .int l2), (3, .int l3), (4, .int (l3 / (10 : Int32))), (5, .int (zrem l3 (10 : Int32)))]) rfl (Nat.le_of_ble_eq_true rfl) rfl rfl ?_
    refine g_aload_n rfl rfl ?_
    refine g_iload rfl rfl ?_
    refine g_iload_n rfl rfl ?_
    refine g_callVP (M' := m_Council_stepsOf) (d' := 1) (as := [.int (l3 / (10 : Int32)), .int l1]) (rest := []) (ci := 3) (o := 1) rfl ml_Council_45 v_Council_stepsOf (by decide) rfl (by decide) rfl rfl rfl (Nat.le_of_ble_eq_true rfl) (fun x_ e_ => s_Council_stepsOf G (l3 / (10 : Int32)) l1 u x_ e_) (fun q162 e163 b164 => ?_)
    refine g_iconst (v := (1 : Int32)) rfl zic_1 ?_
    refine g_iadd rfl ?_
    refine g_aload_n rfl rfl ?_
    refine g_iload_n rfl rfl ?_
    refine g_iload rfl rfl ?_
    refine g_callVP (M' := m_Council_stepsOf) (d' := 1) (as := [.int l2, .int (zrem l3 (10 : Int32))]) (rest := [.int (q162 + (1 : Int32))]) (ci := 3) (o := 1) rfl ml_Council_45 v_Council_stepsOf (by decide) rfl (by decide) rfl rfl rfl (Nat.le_of_ble_eq_true rfl) (fun x_ e_ => s_Council_stepsOf G l2 (zrem l3 (10 : Int32)) u x_ e_) (fun q165 e166 b167 => ?_)
    refine g_iadd rfl ?_
    refine g_istore (lv' := [(0, .ref 1), (1, .int l1), (2, .int l2), (3, .int l3), (4, .int (l3 / (10 : Int32))), (5, .int (zrem l3 (10 : Int32))), (6, .int ((q162 + (1 : Int32)) + q165))]) rfl (Nat.le_of_ble_eq_true rfl) rfl rfl ?_
    refine g_aload_n rfl rfl ?_
    refine g_iload rfl rfl ?_
    refine g_iload_n rfl rfl ?_
    refine g_callVP (M' := m_Council_stepsOf) (d' := 1) (as := [.int (l3 / (10 : Int32)), .int l2]) (rest := []) (ci := 3) (o := 1) rfl ml_Council_45 v_Council_stepsOf (by decide) rfl (by decide) rfl rfl rfl (Nat.le_of_ble_eq_true rfl) (fun x_ e_ => s_Council_stepsOf G (l3 / (10 : Int32)) l2 u x_ e_) (fun q168 e169 b170 => ?_)
    refine g_iconst (v := (1 : Int32)) rfl zic_1 ?_
    refine g_iadd rfl ?_
    refine g_aload_n rfl rfl ?_
    refine g_iload_n rfl rfl ?_
    refine g_iload rfl rfl ?_
    refine g_callVP (M' := m_Council_stepsOf) (d' := 1) (as := [.int l1, .int (zrem l3 (10 : Int32))]) (rest := [.int (q168 + (1 : Int32))]) (ci := 3) (o := 1) rfl ml_Council_45 v_Council_stepsOf (by decide) rfl (by decide) rfl rfl rfl (Nat.le_of_ble_eq_true rfl) (fun x_ e_ => s_Council_stepsOf G l1 (zrem l3 (10 : Int32)) u x_ e_) (fun q171 e172 b173 => ?_)
    refine g_iadd rfl ?_
    refine g_istore (lv' := [(0, .ref 1), (1, .int l1), (2, .int l2), (3, .int l3), (4, .int (l3 / (10 : Int32))), (5, .int (zrem l3 (10 : Int32))), (6, .int ((q162 + (1 : Int32)) + q165)), (7, .int ((q168 + (1 : Int32)) + q171))]) rfl (Nat.le_of_ble_eq_true rfl) rfl rfl ?_
    refine g_aload_n rfl rfl ?_
    refine g_getR rfl zf_Council_15 rfl rfl ?_
    refine g_iload_n rfl rfl ?_
    refine g_aload_n rfl rfl ?_
    refine g_getR rfl zf_Council_15 rfl rfl ?_
    refine g_iload_n rfl rfl ?_
    refine g_iald rfl rfl (fun o175 => ?_)
    refine g_iload rfl rfl ?_
    refine g_iload rfl rfl ?_
    refine g_mmin rfl ml_Council_52 (by decide) (Nat.le_of_ble_eq_true rfl) ?_
    refine g_mmin rfl ml_Council_52 (by decide) (Nat.le_of_ble_eq_true rfl) ?_
    refine g_iast rfl rfl (fun o174 => ?_)
    refine g_iinc (v := (1 : Int32)) (lv' := [(0, .ref 1), (1, .int l1), (2, .int l2), (3, .int (l3 + (1 : Int32))), (4, .int (l3 / (10 : Int32))), (5, .int (zrem l3 (10 : Int32))), (6, .int ((q162 + (1 : Int32)) + q165)), (7, .int ((q168 + (1 : Int32)) + q171))]) rfl rfl zic_1 (Nat.le_of_ble_eq_true rfl) rfl rfl ?_
    refine g_goto rfl ?_
    exact zgo_sub (zsubk [0, 1, 2, 3] rfl) (zgo_leaf (hb (l3 + (1 : Int32)) (za u 3 l3.toNatClampNeg (zmin (u.2.1 3 l3.toNatClampNeg) (zmin ((q162 + (1 : Int32)) + q165) ((q168 + (1 : Int32)) + q171))))))
set_option maxRecDepth 100000 in
set_option maxHeartbeats 4000000 in
theorem wa_Council_addPair_22 (G : ZG) (u : ZSt) : ZGo G m_Council_addPair 2 (a_Council_addPair_22 u) zkI 71 [(0, .ref 1)] [] u := by
  unfold a_Council_addPair_22
  refine g_aload_n rfl rfl ?_
  refine g_getI rfl zf_Council_49 rfl rfl rfl ?_
  exact g_iret rfl (Or.inl rfl) rfl
set_option maxRecDepth 100000 in
set_option maxHeartbeats 4000000 in
theorem w_Council_addPair (G : ZG) (a : Int32) (b : Int32) (u : ZSt) : ZGo G m_Council_addPair 2 (f_Council_addPair a b u) zkI 0 [(0, .ref 1), (1, .int a), (2, .int b)] [] u := by
  unfold f_Council_addPair
  refine g_aload_n rfl rfl ?_
  refine g_iload_n rfl rfl ?_
  refine g_iload_n rfl rfl ?_
  refine g_callVP (M' := m_Council_stepsOf) (d' := 1) (as := [.int a, .int b]) (rest := []) (ci := 3) (o := 1) rfl ml_Council_45 v_Council_stepsOf (by decide) rfl (by decide) rfl rfl rfl (Nat.le_of_ble_eq_true rfl) (fun x_ e_ => s_Council_stepsOf G a b u x_ e_) (fun q156 e157 b158 => ?_)
  refine g_iconst (v := (2 : Int32)) rfl zic_2 ?_
  refine g_icmpge rfl (fun c159 => ?_) (fun c159 => ?_)
  · refine g_aload_n rfl rfl ?_
    refine g_getI rfl zf_Council_49 rfl rfl rfl ?_
    refine g_bipush (v := (12 : Int32)) rfl zib_12 ?_
    refine g_icmplt rfl (fun c160 => ?_) (fun c160 => ?_)
    · refine g_aload_n rfl rfl ?_
      refine g_dup rfl rfl ?_
      refine g_getI rfl zf_Council_49 rfl rfl rfl ?_
      refine g_iconst (v := (1 : Int32)) rfl zic_1 ?_
      refine g_iadd rfl ?_
      refine g_put (j := 104) rfl zf_Council_49 rfl rfl zp_3_4.1 (Or.inl zp_3_4.2) rfl ?_
      refine g_iconst (v := (0 : Int32)) rfl zic_0 ?_
      refine g_istore_n (lv' := [(0, .ref 1), (1, .int a), (2, .int b), (3, .int (0 : Int32))]) rfl (Nat.le_of_ble_eq_true rfl) rfl rfl ?_
      refine zgo_sub (lv' := [(0, .ref 1), (1, .int a), (2, .int b), (3, .int (0 : Int32))]) (zsubk [0, 1, 2, 3] rfl) ?_
      refine zgo_loop (σ := Int32 × ZSt) (lvf := fun s => [(0, .ref 1), (1, .int a), (2, .int b), (3, .int s.1)]) (uf := (fun s => s.2)) ?_ zfu _
      intro s K' ih he
      refine wb_Council_addPair_22 G a b s.1 s.2 K' ?_ ?_
      · intro c0 v
        exact ih (c0, v)
      · intro c0 v
        rw [he]
        exact zgo_unleaf (wa_Council_addPair_22 G  v)
    · refine g_bipush (v := (-3 : Int32)) rfl zib_m3 ?_
      exact g_iret rfl (Or.inl rfl) rfl
  · refine g_iconst (v := (-1 : Int32)) rfl zic_m1 ?_
    exact g_iret rfl (Or.inl rfl) rfl
theorem s_Council_addPair (G : ZG) (a : Int32) (b : Int32) (u : ZSt) (x : Int32 × ZSt) (hx : f_Council_addPair a b u = some x) : ZSpec G m_Council_addPair 2 [.ref 1, .int a, .int b] u (zemI x) :=
  ZSpec.go k_Council_addPair (Nat.le_of_ble_eq_true rfl) (w_Council_addPair G a b u) (tgt := zemI x) (by rw [hx]; rfl)
set_option maxRecDepth 100000 in
set_option maxHeartbeats 4000000 in
theorem w_X_cousins (G : ZG) (a : Int32) (u : ZSt) : ZGo G m_X_cousins 3 (f_X_cousins a u) zkI 0 [(0, .ref 0), (1, .int a)] [] u := by
  unfold f_X_cousins
  refine g_aload_n rfl rfl ?_
  refine g_getR rfl zf_X_10 rfl rfl ?_
  refine g_iload_n rfl rfl ?_
  refine g_callVP (M' := m_Council_isTwo) (d' := 2) (as := [.int a]) (rest := []) (ci := 3) (o := 1) rfl ml_X_112 v_Council_isTwo (by decide) rfl (by decide) rfl rfl rfl (Nat.le_of_ble_eq_true rfl) (fun x_ e_ => s_Council_isTwo G a u x_ e_) (fun q176 e177 b178 => ?_)
  refine g_ifne rfl (fun c179 => ?_) (fun c179 => ?_)
  · refine g_aload_n rfl rfl ?_
    refine g_getR rfl zf_X_10 rfl rfl ?_
    refine g_iload_n rfl rfl ?_
    refine g_bipush (v := (10 : Int32)) rfl zib_10 ?_
    refine g_idiv rfl (by decide) ?_
    refine g_iload_n rfl rfl ?_
    refine g_bipush (v := (10 : Int32)) rfl zib_10 ?_
    refine g_irem rfl (by decide) ?_
    refine g_callVI (M' := m_Council_addPair) (d' := 2) (as := [.int (a / (10 : Int32)), .int (zrem a (10 : Int32))]) (rest := []) (ci := 3) (o := 1) rfl ml_X_115 v_Council_addPair (by decide) rfl (by decide) rfl rfl rfl (Nat.le_of_ble_eq_true rfl) (fun x_ e_ => s_Council_addPair G (a / (10 : Int32)) (zrem a (10 : Int32)) u x_ e_) (fun q180r q180u e181 b182 => ?_)
    exact g_iret rfl (Or.inl rfl) rfl
  · refine g_iconst (v := (-1 : Int32)) rfl zic_m1 ?_
    exact g_iret rfl (Or.inl rfl) rfl
theorem s_X_cousins (G : ZG) (a : Int32) (u : ZSt) (x : Int32 × ZSt) (hx : f_X_cousins a u = some x) : ZSpec G m_X_cousins 3 [.ref 0, .int a] u (zemI x) :=
  ZSpec.go k_X_cousins (Nat.le_of_ble_eq_true rfl) (w_X_cousins G a u) (tgt := zemI x) (by rw [hx]; rfl)
set_option maxRecDepth 100000 in
set_option maxHeartbeats 4000000 in
theorem w_M_isPerson (G : ZG) (a : Int32) (u : ZSt) : ZGo G m_M_isPerson 2 (f_M_isPerson a u) (zkP u) 0 [(0, .ref 39), (1, .int a)] [] u := by
  unfold f_M_isPerson
  refine g_iload_n rfl rfl ?_
  refine g_i2l rfl ?_
  refine g_lconst (v := (0 : Int64)) rfl rfl ?_
  refine g_aload_n rfl rfl ?_
  refine g_getI rfl zf_M_94 rfl rfl rfl ?_
  refine g_iconst (v := (1 : Int32)) rfl zic_1 ?_
  refine g_isub rfl ?_
  refine g_i2l rfl ?_
  refine g_callSP (M' := m_M_within) (d' := 1) (as := [.long a.toInt64, .long (0 : Int64), .long (((u.1 3906) - (1 : Int32)).toInt64)]) (rest := []) rfl ml_M_97 v_M_within (by decide) rfl rfl (Nat.le_of_ble_eq_true rfl) (fun x_ e_ => s_M_within G a.toInt64 (0 : Int64) (((u.1 3906) - (1 : Int32)).toInt64) u x_ e_) (fun q183 e184 b185 => ?_)
  exact g_iret rfl (Or.inr ⟨rfl, (zbo_i b185)⟩) rfl
theorem s_M_isPerson (G : ZG) (a : Int32) (u : ZSt) (x : Int32) (hx : f_M_isPerson a u = some x) : ZSpec G m_M_isPerson 2 [.ref 39, .int a] u ((zemP u) x) :=
  ZSpec.go k_M_isPerson (Nat.le_of_ble_eq_true rfl) (w_M_isPerson G a u) (tgt := (zemP u) x) (by rw [hx]; rfl)
set_option maxRecDepth 100000 in
set_option maxHeartbeats 4000000 in
theorem w_M_isIn (G : ZG) (a : Int32) (b : Int32) (u : ZSt) : ZGo G m_M_isIn 1 (f_M_isIn a b) (zkP u) 0 [(0, .int a), (1, .int b)] [] u := by
  unfold f_M_isIn
  refine g_iload_n rfl rfl ?_
  refine g_iload_n rfl rfl ?_
  refine g_ishr rfl ?_
  refine g_iconst (v := (1 : Int32)) rfl zic_1 ?_
  refine g_iand rfl ?_
  refine g_iconst (v := (1 : Int32)) rfl zic_1 ?_
  refine g_icmpne rfl (fun c186 => ?_) (fun c186 => ?_)
  · refine g_iconst (v := (0 : Int32)) rfl zic_0 ?_
    exact g_iret rfl (Or.inr ⟨rfl, Or.inl rfl⟩) rfl
  · refine g_iconst (v := (1 : Int32)) rfl zic_1 ?_
    refine g_goto rfl ?_
    exact g_iret rfl (Or.inr ⟨rfl, Or.inr rfl⟩) rfl
theorem s_M_isIn (G : ZG) (a : Int32) (b : Int32) (u : ZSt) (x : Int32) (hx : f_M_isIn a b = some x) : ZSpec G m_M_isIn 1 [.int a, .int b] u ((zemP u) x) :=
  ZSpec.go k_M_isIn (Nat.le_of_ble_eq_true rfl) (w_M_isIn G a b u) (tgt := (zemP u) x) (by rw [hx]; rfl)
set_option maxRecDepth 100000 in
set_option maxHeartbeats 4000000 in
theorem w_M_cousins (G : ZG) (a : Int32) (u : ZSt) : ZGo G m_M_cousins 3 (f_M_cousins a u) zkI 0 [(0, .ref 39), (1, .int a)] [] u := by
  unfold f_M_cousins
  refine g_iload_n rfl rfl ?_
  refine g_iflt rfl (fun c187 => ?_) (fun c187 => ?_)
  · refine g_iconst (v := (-1 : Int32)) rfl zic_m1 ?_
    exact g_iret rfl (Or.inl rfl) rfl
  · refine g_aload_n rfl rfl ?_
    refine g_iload_n rfl rfl ?_
    refine g_bipush (v := (10 : Int32)) rfl zib_10 ?_
    refine g_idiv rfl (by decide) ?_
    refine g_callVP (M' := m_M_isPerson) (d' := 2) (as := [.int (a / (10 : Int32))]) (rest := []) (ci := 11) (o := 39) rfl ml_M_104 v_M_isPerson (by decide) rfl (by decide) rfl rfl rfl (Nat.le_of_ble_eq_true rfl) (fun x_ e_ => s_M_isPerson G (a / (10 : Int32)) u x_ e_) (fun q188 e189 b190 => ?_)
    refine g_ifeq rfl (fun c191 => ?_) (fun c191 => ?_)
    · refine g_iconst (v := (-1 : Int32)) rfl zic_m1 ?_
      exact g_iret rfl (Or.inl rfl) rfl
    · refine g_aload_n rfl rfl ?_
      refine g_iload_n rfl rfl ?_
      refine g_bipush (v := (10 : Int32)) rfl zib_10 ?_
      refine g_irem rfl (by decide) ?_
      refine g_callVP (M' := m_M_isPerson) (d' := 2) (as := [.int (zrem a (10 : Int32))]) (rest := []) (ci := 11) (o := 39) rfl ml_M_104 v_M_isPerson (by decide) rfl (by decide) rfl rfl rfl (Nat.le_of_ble_eq_true rfl) (fun x_ e_ => s_M_isPerson G (zrem a (10 : Int32)) u x_ e_) (fun q192 e193 b194 => ?_)
      refine g_ifeq rfl (fun c195 => ?_) (fun c195 => ?_)
      · refine g_iconst (v := (-1 : Int32)) rfl zic_m1 ?_
        exact g_iret rfl (Or.inl rfl) rfl
      · refine g_iload_n rfl rfl ?_
        refine g_bipush (v := (10 : Int32)) rfl zib_10 ?_
        refine g_idiv rfl (by decide) ?_
        refine g_iload_n rfl rfl ?_
        refine g_bipush (v := (10 : Int32)) rfl zib_10 ?_
        refine g_irem rfl (by decide) ?_
        refine g_icmpeq rfl (fun c196 => ?_) (fun c196 => ?_)
        · refine g_iconst (v := (-1 : Int32)) rfl zic_m1 ?_
          exact g_iret rfl (Or.inl rfl) rfl
        · refine g_aload_n rfl rfl ?_
          refine g_getR rfl zf_M_25 rfl rfl ?_
          refine g_iload_n rfl rfl ?_
          refine g_bipush (v := (10 : Int32)) rfl zib_10 ?_
          refine g_idiv rfl (by decide) ?_
          refine g_iald rfl rfl (fun o206 => ?_)
          refine g_iload_n rfl rfl ?_
          refine g_bipush (v := (10 : Int32)) rfl zib_10 ?_
          refine g_irem rfl (by decide) ?_
          refine g_callSP (M' := m_M_isIn) (d' := 1) (as := [.int (u.2.1 45 (a / (10 : Int32)).toNatClampNeg), .int (zrem a (10 : Int32))]) (rest := []) rfl ml_M_118 v_M_isIn (by decide) rfl rfl (Nat.le_of_ble_eq_true rfl) (fun x_ e_ => s_M_isIn G (u.2.1 45 (a / (10 : Int32)).toNatClampNeg) (zrem a (10 : Int32)) u x_ e_) (fun q197 e198 b199 => ?_)
          refine g_ifeq rfl (fun c200 => ?_) (fun c200 => ?_)
          · refine g_aload_n rfl rfl ?_
            refine g_getI rfl zf_M_122 rfl rfl rfl ?_
            refine g_bipush (v := (12 : Int32)) rfl zib_12 ?_
            refine g_icmpne rfl (fun c201 => ?_) (fun c201 => ?_)
            · refine g_aload_n rfl rfl ?_
              refine g_getR rfl zf_M_25 rfl rfl ?_
              refine g_iload_n rfl rfl ?_
              refine g_bipush (v := (10 : Int32)) rfl zib_10 ?_
              refine g_idiv rfl (by decide) ?_
              refine g_dup2 rfl rfl rfl ?_
              refine g_iald rfl rfl (fun o205 => ?_)
              refine g_iconst (v := (1 : Int32)) rfl zic_1 ?_
              refine g_iload_n rfl rfl ?_
              refine g_bipush (v := (10 : Int32)) rfl zib_10 ?_
              refine g_irem rfl (by decide) ?_
              refine g_ishl rfl ?_
              refine g_ior rfl ?_
              refine g_iast rfl rfl (fun o204 => ?_)
              refine g_aload_n rfl rfl ?_
              refine g_getR rfl zf_M_25 rfl rfl ?_
              refine g_iload_n rfl rfl ?_
              refine g_bipush (v := (10 : Int32)) rfl zib_10 ?_
              refine g_irem rfl (by decide) ?_
              refine g_dup2 rfl rfl rfl ?_
              refine zgo_iald (y := (za u 45 ((a / (10 : Int32)).toNatClampNeg) ((u.2.1 45 (a / (10 : Int32)).toNatClampNeg) ||| ((1 : Int32) <<< ((zrem a (10 : Int32)) &&& 31)))).2.1 45 (zrem a (10 : Int32)).toNatClampNeg) rfl rfl rfl (fun o203 => ?_)
              refine g_iconst (v := (1 : Int32)) rfl zic_1 ?_
              refine g_iload_n rfl rfl ?_
              refine g_bipush (v := (10 : Int32)) rfl zib_10 ?_
              refine g_idiv rfl (by decide) ?_
              refine g_ishl rfl ?_
              refine g_ior rfl ?_
              refine g_iast rfl rfl (fun o202 => ?_)
              refine g_aload_n rfl rfl ?_
              refine g_dup rfl rfl ?_
              refine g_getIx (x := u.1 3909) rfl zf_M_122 rfl rfl rfl rfl ?_
              refine g_iconst (v := (1 : Int32)) rfl zic_1 ?_
              refine g_iadd rfl ?_
              refine g_put (j := 3909) rfl zf_M_122 rfl rfl zp_11_9.1 (Or.inl zp_11_9.2) rfl ?_
              refine g_aload_n rfl rfl ?_
              refine g_getIx (x := ((u.1 3909) + (1 : Int32))) rfl zf_M_122 rfl rfl rfl rfl ?_
              exact g_iret rfl (Or.inl rfl) rfl
            · refine g_bipush (v := (-3 : Int32)) rfl zib_m3 ?_
              exact g_iret rfl (Or.inl rfl) rfl
          · refine g_iconst (v := (-1 : Int32)) rfl zic_m1 ?_
            exact g_iret rfl (Or.inl rfl) rfl
theorem s_M_cousins (G : ZG) (a : Int32) (u : ZSt) (x : Int32 × ZSt) (hx : f_M_cousins a u = some x) : ZSpec G m_M_cousins 3 [.ref 39, .int a] u (zemI x) :=
  ZSpec.go k_M_cousins (Nat.le_of_ble_eq_true rfl) (w_M_cousins G a u) (tgt := zemI x) (by rw [hx]; rfl)
set_option maxRecDepth 100000 in
set_option maxHeartbeats 4000000 in
theorem w_Council_tell (G : ZG) (a : Int32) (b : Int32) (u : ZSt) : ZGo G m_Council_tell 1 (f_Council_tell a b u) zkV 0 [(0, .ref 1), (1, .int a), (2, .int b)] [] u := by
  unfold f_Council_tell
  refine g_iload_n rfl rfl ?_
  refine g_iflt rfl (fun c207 => ?_) (fun c207 => ?_)
  · exact g_vret rfl rfl rfl
  · refine g_iload_n rfl rfl ?_
    refine g_aload_n rfl rfl ?_
    refine g_getR rfl zf_Council_18 rfl rfl ?_
    refine g_alen (v := (206 : Int32)) rfl rfl rfl ?_
    refine g_icmpge rfl (fun c208 => ?_) (fun c208 => ?_)
    · exact g_vret rfl rfl rfl
    · refine g_aload_n rfl rfl ?_
      refine g_getR rfl zf_Council_18 rfl rfl ?_
      refine g_iload_n rfl rfl ?_
      refine g_iload_n rfl rfl ?_
      refine g_iast rfl rfl (fun o209 => ?_)
      exact g_vret rfl rfl rfl
theorem s_Council_tell (G : ZG) (a : Int32) (b : Int32) (u : ZSt) (x : ZSt) (hx : f_Council_tell a b u = some x) : ZSpec G m_Council_tell 1 [.ref 1, .int a, .int b] u (zemV x) :=
  ZSpec.go k_Council_tell (Nat.le_of_ble_eq_true rfl) (w_Council_tell G a b u) (tgt := zemV x) (by rw [hx]; rfl)
set_option maxRecDepth 100000 in
set_option maxHeartbeats 4000000 in
theorem w_Council_addMatter (G : ZG) (u : ZSt) : ZGo G m_Council_addMatter 2 (f_Council_addMatter u) zkI 0 [(0, .ref 1)] [] u := by
  unfold f_Council_addMatter
  refine g_aload_n rfl rfl ?_
  refine g_getI rfl zf_Council_31 rfl rfl rfl ?_
  refine g_bipush (v := (6 : Int32)) rfl zib_6 ?_
  refine g_icmplt rfl (fun c210 => ?_) (fun c210 => ?_)
  · refine g_aload_n rfl rfl ?_
    refine g_sipush (v := (200 : Int32)) rfl zis_200 ?_
    refine g_aload_n rfl rfl ?_
    refine g_getI rfl zf_Council_31 rfl rfl rfl ?_
    refine g_iadd rfl ?_
    refine g_bipush (v := (12 : Int32)) rfl zib_12 ?_
    refine g_callVV (M' := m_Council_tell) (d' := 1) (as := [.int ((200 : Int32) + (u.1 105)), .int (12 : Int32)]) (rest := []) (ci := 3) (o := 1) rfl ml_Council_57 v_Council_tell (by decide) rfl (by decide) rfl rfl rfl (Nat.le_of_ble_eq_true rfl) (fun x_ e_ => s_Council_tell G ((200 : Int32) + (u.1 105)) (12 : Int32) u x_ e_) (fun q211 e212 b213 => ?_)
    refine g_aload_n rfl rfl ?_
    refine g_dup rfl rfl ?_
    refine g_getI rfl zf_Council_31 rfl rfl rfl ?_
    refine g_iconst (v := (1 : Int32)) rfl zic_1 ?_
    refine g_iadd rfl ?_
    refine g_put (j := 105) rfl zf_Council_31 rfl rfl zp_3_5.1 (Or.inl zp_3_5.2) rfl ?_
    refine g_aload_n rfl rfl ?_
    refine g_getIx (x := ((q211.1 105) + (1 : Int32))) rfl zf_Council_31 rfl rfl rfl rfl ?_
    refine g_iconst (v := (1 : Int32)) rfl zic_1 ?_
    refine g_isub rfl ?_
    exact g_iret rfl (Or.inl rfl) rfl
  · refine g_bipush (v := (-3 : Int32)) rfl zib_m3 ?_
    exact g_iret rfl (Or.inl rfl) rfl
theorem s_Council_addMatter (G : ZG) (u : ZSt) (x : Int32 × ZSt) (hx : f_Council_addMatter u = some x) : ZSpec G m_Council_addMatter 2 [.ref 1] u (zemI x) :=
  ZSpec.go k_Council_addMatter (Nat.le_of_ble_eq_true rfl) (w_Council_addMatter G u) (tgt := zemI x) (by rw [hx]; rfl)
set_option maxRecDepth 100000 in
set_option maxHeartbeats 4000000 in
theorem w_X_matter (G : ZG) (u : ZSt) : ZGo G m_X_matter 3 (f_X_matter u) zkI 0 [(0, .ref 0)] [] u := by
  unfold f_X_matter
  refine g_aload_n rfl rfl ?_
  refine g_getR rfl zf_X_10 rfl rfl ?_
  refine g_callVI (M' := m_Council_addMatter) (d' := 2) (as := []) (rest := []) (ci := 3) (o := 1) rfl ml_X_119 v_Council_addMatter (by decide) rfl (by decide) rfl rfl rfl (Nat.le_of_ble_eq_true rfl) (fun x_ e_ => s_Council_addMatter G  u x_ e_) (fun q214r q214u e215 b216 => ?_)
  exact g_iret rfl (Or.inl rfl) rfl
theorem s_X_matter (G : ZG) (u : ZSt) (x : Int32 × ZSt) (hx : f_X_matter u = some x) : ZSpec G m_X_matter 3 [.ref 0] u (zemI x) :=
  ZSpec.go k_X_matter (Nat.le_of_ble_eq_true rfl) (w_X_matter G u) (tgt := zemI x) (by rw [hx]; rfl)
set_option maxRecDepth 100000 in
set_option maxHeartbeats 4000000 in
theorem w_M_matter (G : ZG) (u : ZSt) : ZGo G m_M_matter 1 (f_M_matter u) zkI 0 [(0, .ref 39)] [] u := by
  unfold f_M_matter
  refine g_aload_n rfl rfl ?_
  refine g_getI rfl zf_M_101 rfl rfl rfl ?_
  refine g_bipush (v := (6 : Int32)) rfl zib_6 ?_
  refine g_icmpne rfl (fun c217 => ?_) (fun c217 => ?_)
  · refine g_aload_n rfl rfl ?_
    refine g_getR rfl zf_M_9 rfl rfl ?_
    refine g_bipush (v := (120 : Int32)) rfl zib_120 ?_
    refine g_aload_n rfl rfl ?_
    refine g_getI rfl zf_M_101 rfl rfl rfl ?_
    refine g_iadd rfl ?_
    refine g_bipush (v := (12 : Int32)) rfl zib_12 ?_
    refine g_iast rfl rfl (fun o218 => ?_)
    refine g_aload_n rfl rfl ?_
    refine g_dup rfl rfl ?_
    refine g_getIx (x := u.1 3907) rfl zf_M_101 rfl rfl rfl rfl ?_
    refine g_iconst (v := (1 : Int32)) rfl zic_1 ?_
    refine g_iadd rfl ?_
    refine g_put (j := 3907) rfl zf_M_101 rfl rfl zp_11_7.1 (Or.inl zp_11_7.2) rfl ?_
    refine g_aload_n rfl rfl ?_
    refine g_getIx (x := ((u.1 3907) + (1 : Int32))) rfl zf_M_101 rfl rfl rfl rfl ?_
    refine g_iconst (v := (1 : Int32)) rfl zic_1 ?_
    refine g_isub rfl ?_
    exact g_iret rfl (Or.inl rfl) rfl
  · refine g_bipush (v := (-3 : Int32)) rfl zib_m3 ?_
    exact g_iret rfl (Or.inl rfl) rfl
theorem s_M_matter (G : ZG) (u : ZSt) (x : Int32 × ZSt) (hx : f_M_matter u = some x) : ZSpec G m_M_matter 1 [.ref 39] u (zemI x) :=
  ZSpec.go k_M_matter (Nat.le_of_ble_eq_true rfl) (w_M_matter G u) (tgt := zemI x) (by rw [hx]; rfl)
set_option maxRecDepth 100000 in
set_option maxHeartbeats 4000000 in
theorem w_Council_isMatter (G : ZG) (a : Int32) (u : ZSt) : ZGo G m_Council_isMatter 1 (f_Council_isMatter a u) (zkP u) 0 [(0, .ref 1), (1, .int a)] [] u := by
  unfold f_Council_isMatter
  refine g_iload_n rfl rfl ?_
  refine g_iflt rfl (fun c219 => ?_) (fun c219 => ?_)
  · refine g_iconst (v := (0 : Int32)) rfl zic_0 ?_
    exact g_iret rfl (Or.inr ⟨rfl, Or.inl rfl⟩) rfl
  · refine g_iload_n rfl rfl ?_
    refine g_aload_n rfl rfl ?_
    refine g_getI rfl zf_Council_31 rfl rfl rfl ?_
    refine g_icmpge rfl (fun c220 => ?_) (fun c220 => ?_)
    · refine g_iconst (v := (0 : Int32)) rfl zic_0 ?_
      exact g_iret rfl (Or.inr ⟨rfl, Or.inl rfl⟩) rfl
    · refine g_iconst (v := (1 : Int32)) rfl zic_1 ?_
      refine g_goto rfl ?_
      exact g_iret rfl (Or.inr ⟨rfl, Or.inr rfl⟩) rfl
theorem s_Council_isMatter (G : ZG) (a : Int32) (u : ZSt) (x : Int32) (hx : f_Council_isMatter a u = some x) : ZSpec G m_Council_isMatter 1 [.ref 1, .int a] u ((zemP u) x) :=
  ZSpec.go k_Council_isMatter (Nat.le_of_ble_eq_true rfl) (w_Council_isMatter G a u) (tgt := (zemP u) x) (by rw [hx]; rfl)
set_option maxRecDepth 100000 in
set_option maxHeartbeats 4000000 in
theorem w_Council_slotOf (G : ZG) (a : Int32) (b : Int32) (u : ZSt) : ZGo G m_Council_slotOf 2 (f_Council_slotOf a b u) (zkP u) 0 [(0, .ref 1), (1, .int a), (2, .int b)] [] u := by
  unfold f_Council_slotOf
  refine g_iload_n rfl rfl ?_
  refine g_iconst (v := (2 : Int32)) rfl zic_2 ?_
  refine g_icmpne rfl (fun c221 => ?_) (fun c221 => ?_)
  · refine g_iload_n rfl rfl ?_
    refine g_iflt rfl (fun c222 => ?_) (fun c222 => ?_)
    · refine g_iconst (v := (0 : Int32)) rfl zic_0 ?_
      refine g_istore_n (lv' := [(0, .ref 1), (1, .int a), (2, .int b), (3, .int (0 : Int32))]) rfl (Nat.le_of_ble_eq_true rfl) rfl rfl ?_
      refine g_iload_n rfl rfl ?_
      refine g_ifeq rfl (fun c223 => ?_) (fun c223 => ?_)
      · refine g_iconst (v := (-1 : Int32)) rfl zic_m1 ?_
        exact g_iret rfl (Or.inl rfl) rfl
      · refine g_iload_n rfl rfl ?_
        refine g_ifeq rfl (fun c224 => ?_) (fun c224 => ?_)
        · refine g_iload_n rfl rfl ?_
          refine g_bipush (v := (100 : Int32)) rfl zib_100 ?_
          refine g_imul rfl ?_
          refine g_iload_n rfl rfl ?_
          refine g_iadd rfl ?_
          refine g_goto rfl ?_
          exact g_iret rfl (Or.inl rfl) rfl
        · refine g_iload_n rfl rfl ?_
          refine g_iconst (v := (1 : Int32)) rfl zic_1 ?_
          refine g_icmpne rfl (fun c225 => ?_) (fun c225 => ?_)
          · refine g_iconst (v := (-1 : Int32)) rfl zic_m1 ?_
            exact g_iret rfl (Or.inl rfl) rfl
          · refine g_iload_n rfl rfl ?_
            refine g_bipush (v := (100 : Int32)) rfl zib_100 ?_
            refine g_imul rfl ?_
            refine g_iload_n rfl rfl ?_
            refine g_iadd rfl ?_
            refine g_goto rfl ?_
            exact g_iret rfl (Or.inl rfl) rfl
    · refine g_aload_n rfl rfl ?_
      refine g_iload_n rfl rfl ?_
      refine g_bipush (v := (10 : Int32)) rfl zib_10 ?_
      refine g_idiv rfl (by decide) ?_
      refine g_callVP (M' := m_Council_isPerson) (d' := 1) (as := [.int (a / (10 : Int32))]) (rest := []) (ci := 3) (o := 1) rfl ml_Council_34 v_Council_isPerson (by decide) rfl (by decide) rfl rfl rfl (Nat.le_of_ble_eq_true rfl) (fun x_ e_ => s_Council_isPerson G (a / (10 : Int32)) u x_ e_) (fun q226 e227 b228 => ?_)
      refine g_ifeq rfl (fun c229 => ?_) (fun c229 => ?_)
      · refine g_iconst (v := (0 : Int32)) rfl zic_0 ?_
        refine g_istore_n (lv' := [(0, .ref 1), (1, .int a), (2, .int b), (3, .int (0 : Int32))]) rfl (Nat.le_of_ble_eq_true rfl) rfl rfl ?_
        refine g_iload_n rfl rfl ?_
        refine g_ifeq rfl (fun c230 => ?_) (fun c230 => ?_)
        · refine g_iconst (v := (-1 : Int32)) rfl zic_m1 ?_
          exact g_iret rfl (Or.inl rfl) rfl
        · refine g_iload_n rfl rfl ?_
          refine g_ifeq rfl (fun c231 => ?_) (fun c231 => ?_)
          · refine g_iload_n rfl rfl ?_
            refine g_bipush (v := (100 : Int32)) rfl zib_100 ?_
            refine g_imul rfl ?_
            refine g_iload_n rfl rfl ?_
            refine g_iadd rfl ?_
            refine g_goto rfl ?_
            exact g_iret rfl (Or.inl rfl) rfl
          · refine g_iload_n rfl rfl ?_
            refine g_iconst (v := (1 : Int32)) rfl zic_1 ?_
            refine g_icmpne rfl (fun c232 => ?_) (fun c232 => ?_)
            · refine g_iconst (v := (-1 : Int32)) rfl zic_m1 ?_
              exact g_iret rfl (Or.inl rfl) rfl
            · refine g_iload_n rfl rfl ?_
              refine g_bipush (v := (100 : Int32)) rfl zib_100 ?_
              refine g_imul rfl ?_
              refine g_iload_n rfl rfl ?_
              refine g_iadd rfl ?_
              refine g_goto rfl ?_
              exact g_iret rfl (Or.inl rfl) rfl
      · refine g_aload_n rfl rfl ?_
        refine g_iload_n rfl rfl ?_
        refine g_bipush (v := (10 : Int32)) rfl zib_10 ?_
        refine g_irem rfl (by decide) ?_
        refine g_callVP (M' := m_Council_isMatter) (d' := 1) (as := [.int (zrem a (10 : Int32))]) (rest := []) (ci := 3) (o := 1) rfl ml_Council_61 v_Council_isMatter (by decide) rfl (by decide) rfl rfl rfl (Nat.le_of_ble_eq_true rfl) (fun x_ e_ => s_Council_isMatter G (zrem a (10 : Int32)) u x_ e_) (fun q233 e234 b235 => ?_)
        refine g_ifeq rfl (fun c236 => ?_) (fun c236 => ?_)
        · refine g_iconst (v := (0 : Int32)) rfl zic_0 ?_
          refine g_istore_n (lv' := [(0, .ref 1), (1, .int a), (2, .int b), (3, .int (0 : Int32))]) rfl (Nat.le_of_ble_eq_true rfl) rfl rfl ?_
          refine g_iload_n rfl rfl ?_
          refine g_ifeq rfl (fun c237 => ?_) (fun c237 => ?_)
          · refine g_iconst (v := (-1 : Int32)) rfl zic_m1 ?_
            exact g_iret rfl (Or.inl rfl) rfl
          · refine g_iload_n rfl rfl ?_
            refine g_ifeq rfl (fun c238 => ?_) (fun c238 => ?_)
            · refine g_iload_n rfl rfl ?_
              refine g_bipush (v := (100 : Int32)) rfl zib_100 ?_
              refine g_imul rfl ?_
              refine g_iload_n rfl rfl ?_
              refine g_iadd rfl ?_
              refine g_goto rfl ?_
              exact g_iret rfl (Or.inl rfl) rfl
            · refine g_iload_n rfl rfl ?_
              refine g_iconst (v := (1 : Int32)) rfl zic_1 ?_
              refine g_icmpne rfl (fun c239 => ?_) (fun c239 => ?_)
              · refine g_iconst (v := (-1 : Int32)) rfl zic_m1 ?_
                exact g_iret rfl (Or.inl rfl) rfl
              · refine g_iload_n rfl rfl ?_
                refine g_bipush (v := (100 : Int32)) rfl zib_100 ?_
                refine g_imul rfl ?_
                refine g_iload_n rfl rfl ?_
                refine g_iadd rfl ?_
                refine g_goto rfl ?_
                exact g_iret rfl (Or.inl rfl) rfl
        · refine g_iconst (v := (1 : Int32)) rfl zic_1 ?_
          refine g_goto rfl ?_
          refine g_istore_n (lv' := [(0, .ref 1), (1, .int a), (2, .int b), (3, .int (1 : Int32))]) rfl (Nat.le_of_ble_eq_true rfl) rfl rfl ?_
          refine g_iload_n rfl rfl ?_
          refine g_ifeq rfl (fun c240 => ?_) (fun c240 => ?_)
          · refine g_iconst (v := (-1 : Int32)) rfl zic_m1 ?_
            exact g_iret rfl (Or.inl rfl) rfl
          · refine g_iload_n rfl rfl ?_
            refine g_ifeq rfl (fun c241 => ?_) (fun c241 => ?_)
            · refine g_iload_n rfl rfl ?_
              refine g_bipush (v := (100 : Int32)) rfl zib_100 ?_
              refine g_imul rfl ?_
              refine g_iload_n rfl rfl ?_
              refine g_iadd rfl ?_
              refine g_goto rfl ?_
              exact g_iret rfl (Or.inl rfl) rfl
            · refine g_iload_n rfl rfl ?_
              refine g_iconst (v := (1 : Int32)) rfl zic_1 ?_
              refine g_icmpne rfl (fun c242 => ?_) (fun c242 => ?_)
              · refine g_iconst (v := (-1 : Int32)) rfl zic_m1 ?_
                exact g_iret rfl (Or.inl rfl) rfl
              · refine g_iload_n rfl rfl ?_
                refine g_bipush (v := (100 : Int32)) rfl zib_100 ?_
                refine g_imul rfl ?_
                refine g_iload_n rfl rfl ?_
                refine g_iadd rfl ?_
                refine g_goto rfl ?_
                exact g_iret rfl (Or.inl rfl) rfl
  · refine g_aload_n rfl rfl ?_
    refine g_iload_n rfl rfl ?_
    refine g_callVP (M' := m_Council_isMatter) (d' := 1) (as := [.int a]) (rest := []) (ci := 3) (o := 1) rfl ml_Council_61 v_Council_isMatter (by decide) rfl (by decide) rfl rfl rfl (Nat.le_of_ble_eq_true rfl) (fun x_ e_ => s_Council_isMatter G a u x_ e_) (fun q243 e244 b245 => ?_)
    refine g_ifeq rfl (fun c246 => ?_) (fun c246 => ?_)
    · refine g_iconst (v := (-1 : Int32)) rfl zic_m1 ?_
      exact g_iret rfl (Or.inl rfl) rfl
    · refine g_sipush (v := (200 : Int32)) rfl zis_200 ?_
      refine g_iload_n rfl rfl ?_
      refine g_iadd rfl ?_
      refine g_goto rfl ?_
      exact g_iret rfl (Or.inl rfl) rfl
theorem s_Council_slotOf (G : ZG) (a : Int32) (b : Int32) (u : ZSt) (x : Int32) (hx : f_Council_slotOf a b u = some x) : ZSpec G m_Council_slotOf 2 [.ref 1, .int a, .int b] u ((zemP u) x) :=
  ZSpec.go k_Council_slotOf (Nat.le_of_ble_eq_true rfl) (w_Council_slotOf G a b u) (tgt := (zemP u) x) (by rw [hx]; rfl)
set_option maxRecDepth 100000 in
set_option maxHeartbeats 4000000 in
theorem w_Council_leastOf (G : ZG) (a : Int32) (u : ZSt) : ZGo G m_Council_leastOf 1 (f_Council_leastOf a) (zkP u) 0 [(0, .int a)] [] u := by
  unfold f_Council_leastOf
  refine g_iload_n rfl rfl ?_
  refine g_iconst (v := (1 : Int32)) rfl zic_1 ?_
  refine g_icmpne rfl (fun c247 => ?_) (fun c247 => ?_)
  · refine g_iconst (v := (0 : Int32)) rfl zic_0 ?_
    exact g_iret rfl (Or.inl rfl) rfl
  · refine g_bipush (v := (-9 : Int32)) rfl zib_m9 ?_
    refine g_goto rfl ?_
    exact g_iret rfl (Or.inl rfl) rfl
theorem s_Council_leastOf (G : ZG) (a : Int32) (u : ZSt) (x : Int32) (hx : f_Council_leastOf a = some x) : ZSpec G m_Council_leastOf 1 [.int a] u ((zemP u) x) :=
  ZSpec.go k_Council_leastOf (Nat.le_of_ble_eq_true rfl) (w_Council_leastOf G a u) (tgt := (zemP u) x) (by rw [hx]; rfl)
set_option maxRecDepth 100000 in
set_option maxHeartbeats 4000000 in
theorem w_Council_mostOf (G : ZG) (a : Int32) (u : ZSt) : ZGo G m_Council_mostOf 1 (f_Council_mostOf a) (zkP u) 0 [(0, .int a)] [] u := by
  unfold f_Council_mostOf
  refine g_iload_n rfl rfl ?_
  refine zgo_ite (fun c248 => ?_) (fun c248 => ?_)
  · refine g_lswI rfl (by decide +kernel) c248 (off := 27) (by decide +kernel) 2 rfl ?_
    refine g_bipush (v := (99 : Int32)) rfl zib_99 ?_
    exact g_iret rfl (Or.inl rfl) rfl
  · refine zgo_ite (fun c249 => ?_) (fun c249 => ?_)
    · refine g_lswI rfl (by decide +kernel) c249 (off := 30) (by decide +kernel) 4 rfl ?_
      refine g_bipush (v := (9 : Int32)) rfl zib_9 ?_
      exact g_iret rfl (Or.inl rfl) rfl
    · refine g_lswD rfl (by decide +kernel) (List.forall_mem_cons.mpr ⟨z_ne c248 rfl, (List.forall_mem_cons.mpr ⟨z_ne c249 rfl, (fun _ h => absurd h List.not_mem_nil)⟩)⟩) 6 rfl ?_
      refine g_bipush (v := (12 : Int32)) rfl zib_12 ?_
      exact g_iret rfl (Or.inl rfl) rfl
theorem s_Council_mostOf (G : ZG) (a : Int32) (u : ZSt) (x : Int32) (hx : f_Council_mostOf a = some x) : ZSpec G m_Council_mostOf 1 [.int a] u ((zemP u) x) :=
  ZSpec.go k_Council_mostOf (Nat.le_of_ble_eq_true rfl) (w_Council_mostOf G a u) (tgt := (zemP u) x) (by rw [hx]; rfl)
set_option maxRecDepth 100000 in
set_option maxHeartbeats 4000000 in
theorem w_Council_toldAt (G : ZG) (a : Int32) (u : ZSt) : ZGo G m_Council_toldAt 1 (f_Council_toldAt a u) (zkP u) 0 [(0, .ref 1), (1, .int a)] [] u := by
  unfold f_Council_toldAt
  refine g_iload_n rfl rfl ?_
  refine g_iflt rfl (fun c250 => ?_) (fun c250 => ?_)
  · refine g_iconst (v := (0 : Int32)) rfl zic_0 ?_
    exact g_iret rfl (Or.inl rfl) rfl
  · refine g_iload_n rfl rfl ?_
    refine g_aload_n rfl rfl ?_
    refine g_getR rfl zf_Council_18 rfl rfl ?_
    refine g_alen (v := (206 : Int32)) rfl rfl rfl ?_
    refine g_icmpge rfl (fun c251 => ?_) (fun c251 => ?_)
    · refine g_iconst (v := (0 : Int32)) rfl zic_0 ?_
      exact g_iret rfl (Or.inl rfl) rfl
    · refine g_aload_n rfl rfl ?_
      refine g_getR rfl zf_Council_18 rfl rfl ?_
      refine g_iload_n rfl rfl ?_
      refine g_iald rfl rfl (fun o252 => ?_)
      refine g_goto rfl ?_
      exact g_iret rfl (Or.inl rfl) rfl
theorem s_Council_toldAt (G : ZG) (a : Int32) (u : ZSt) (x : Int32) (hx : f_Council_toldAt a u = some x) : ZSpec G m_Council_toldAt 1 [.ref 1, .int a] u ((zemP u) x) :=
  ZSpec.go k_Council_toldAt (Nat.le_of_ble_eq_true rfl) (w_Council_toldAt G a u) (tgt := (zemP u) x) (by rw [hx]; rfl)
set_option maxRecDepth 100000 in
set_option maxHeartbeats 4000000 in
theorem w_Changes_forgetOldest (G : ZG) (u : ZSt) : ZGo G m_Changes_forgetOldest 1 (f_Changes_forgetOldest u) zkV 0 [(0, .ref 5)] [] u := by
  unfold f_Changes_forgetOldest
  refine g_aload_n rfl rfl ?_
  refine g_getR rfl zf_Changes_9 rfl rfl ?_
  refine g_iconst (v := (1 : Int32)) rfl zic_1 ?_
  refine g_aload_n rfl rfl ?_
  refine g_getR rfl zf_Changes_9 rfl rfl ?_
  refine g_iconst (v := (0 : Int32)) rfl zic_0 ?_
  refine g_bipush (v := (39 : Int32)) rfl zib_39 ?_
  refine zgo_of_ck (c := zcpok (1 : Int32) (0 : Int32) (39 : Int32) 40 40) (by decide) (g_copyI rfl ml_Changes_43 rfl rfl (by decide) (fun _ => ?_))
  refine g_aload_n rfl rfl ?_
  refine g_getR rfl zf_Changes_13 rfl rfl ?_
  refine g_iconst (v := (1 : Int32)) rfl zic_1 ?_
  refine g_aload_n rfl rfl ?_
  refine g_getR rfl zf_Changes_13 rfl rfl ?_
  refine g_iconst (v := (0 : Int32)) rfl zic_0 ?_
  refine g_bipush (v := (39 : Int32)) rfl zib_39 ?_
  refine zgo_of_ck (c := zcpok (1 : Int32) (0 : Int32) (39 : Int32) 40 40) (by decide) (g_copyI rfl ml_Changes_43 rfl rfl (by decide) (fun _ => ?_))
  refine g_aload_n rfl rfl ?_
  refine g_getR rfl zf_Changes_16 rfl rfl ?_
  refine g_iconst (v := (1 : Int32)) rfl zic_1 ?_
  refine g_aload_n rfl rfl ?_
  refine g_getR rfl zf_Changes_16 rfl rfl ?_
  refine g_iconst (v := (0 : Int32)) rfl zic_0 ?_
  refine g_bipush (v := (39 : Int32)) rfl zib_39 ?_
  refine zgo_of_ck (c := zcpok (1 : Int32) (0 : Int32) (39 : Int32) 40 40) (by decide) (g_copyI rfl ml_Changes_43 rfl rfl (by decide) (fun _ => ?_))
  refine g_aload_n rfl rfl ?_
  refine g_bipush (v := (39 : Int32)) rfl zib_39 ?_
  refine g_put (j := 504) rfl zf_Changes_33 rfl rfl zp_1_4.1 (Or.inl zp_1_4.2) rfl ?_
  exact g_vret rfl rfl rfl
theorem s_Changes_forgetOldest (G : ZG) (u : ZSt) (x : ZSt) (hx : f_Changes_forgetOldest u = some x) : ZSpec G m_Changes_forgetOldest 1 [.ref 5] u (zemV x) :=
  ZSpec.go k_Changes_forgetOldest (Nat.le_of_ble_eq_true rfl) (w_Changes_forgetOldest G u) (tgt := zemV x) (by rw [hx]; rfl)
set_option maxRecDepth 100000 in
set_option maxHeartbeats 4000000 in
theorem w_Changes_make (G : ZG) (a : Int32) (b : Int32) (u : ZSt) : ZGo G m_Changes_make 2 (f_Changes_make a b u) zkI 0 [(0, .ref 5), (1, .int a), (2, .int b)] [] u := by
  unfold f_Changes_make
  refine g_aload_n rfl rfl ?_
  refine g_getR rfl zf_Changes_19 rfl rfl ?_
  refine g_iload_n rfl rfl ?_
  refine g_callVP (M' := m_Council_toldAt) (d' := 1) (as := [.int a]) (rest := []) (ci := 3) (o := 1) rfl ml_Changes_23 v_Council_toldAt (by decide) rfl (by decide) rfl rfl rfl (Nat.le_of_ble_eq_true rfl) (fun x_ e_ => s_Council_toldAt G a u x_ e_) (fun q253 e254 b255 => ?_)
  refine g_istore_n (lv' := [(0, .ref 5), (1, .int a), (2, .int b), (3, .int q253)]) rfl (Nat.le_of_ble_eq_true rfl) rfl rfl ?_
  refine g_iload_n rfl rfl ?_
  refine g_iload_n rfl rfl ?_
  refine g_icmpne rfl (fun c256 => ?_) (fun c256 => ?_)
  · refine g_aload_n rfl rfl ?_
    refine g_getR rfl zf_Changes_19 rfl rfl ?_
    refine g_iload_n rfl rfl ?_
    refine g_iload_n rfl rfl ?_
    refine g_callVV (M' := m_Council_tell) (d' := 1) (as := [.int a, .int b]) (rest := []) (ci := 3) (o := 1) rfl ml_Changes_29 v_Council_tell (by decide) rfl (by decide) rfl rfl rfl (Nat.le_of_ble_eq_true rfl) (fun x_ e_ => s_Council_tell G a b u x_ e_) (fun q257 e258 b259 => ?_)
    refine g_aload_n rfl rfl ?_
    refine g_getI rfl zf_Changes_33 rfl rfl rfl ?_
    refine g_bipush (v := (40 : Int32)) rfl zib_40 ?_
    refine g_icmplt rfl (fun c260 => ?_) (fun c260 => ?_)
    · refine g_aload_n rfl rfl ?_
      refine g_getR rfl zf_Changes_9 rfl rfl ?_
      refine g_aload_n rfl rfl ?_
      refine g_getI rfl zf_Changes_33 rfl rfl rfl ?_
      refine g_iload_n rfl rfl ?_
      refine g_iast rfl rfl (fun o263 => ?_)
      refine g_aload_n rfl rfl ?_
      refine g_getR rfl zf_Changes_13 rfl rfl ?_
      refine g_aload_n rfl rfl ?_
      refine g_getIx (x := q257.1 504) rfl zf_Changes_33 rfl rfl rfl rfl ?_
      refine g_iload_n rfl rfl ?_
      refine g_iast rfl rfl (fun o262 => ?_)
      refine g_aload_n rfl rfl ?_
      refine g_getR rfl zf_Changes_16 rfl rfl ?_
      refine g_aload_n rfl rfl ?_
      refine g_getIx (x := q257.1 504) rfl zf_Changes_33 rfl rfl rfl rfl ?_
      refine g_iload_n rfl rfl ?_
      refine g_iast rfl rfl (fun o261 => ?_)
      refine g_aload_n rfl rfl ?_
      refine g_dup rfl rfl ?_
      refine g_getIx (x := q257.1 504) rfl zf_Changes_33 rfl rfl rfl rfl ?_
      refine g_iconst (v := (1 : Int32)) rfl zic_1 ?_
      refine g_iadd rfl ?_
      refine g_put (j := 504) rfl zf_Changes_33 rfl rfl zp_1_4.1 (Or.inl zp_1_4.2) rfl ?_
      refine g_aload_n rfl rfl ?_
      refine g_aload_n rfl rfl ?_
      refine g_getIx (x := ((q257.1 504) + (1 : Int32))) rfl zf_Changes_33 rfl rfl rfl rfl ?_
      refine g_put (j := 505) rfl zf_Changes_40 rfl rfl zp_1_5.1 (Or.inl zp_1_5.2) rfl ?_
      refine g_iload_n rfl rfl ?_
      exact g_iret rfl (Or.inl rfl) rfl
    · refine g_aload_n rfl rfl ?_
      refine g_callVV (M' := m_Changes_forgetOldest) (d' := 1) (as := []) (rest := []) (ci := 1) (o := 5) rfl ml_Changes_37 v_Changes_forgetOldest (by decide) rfl (by decide) rfl rfl rfl (Nat.le_of_ble_eq_true rfl) (fun x_ e_ => s_Changes_forgetOldest G  q257 x_ e_) (fun q264 e265 b266 => ?_)
      refine g_aload_n rfl rfl ?_
      refine g_getR rfl zf_Changes_9 rfl rfl ?_
      refine g_aload_n rfl rfl ?_
      refine g_getI rfl zf_Changes_33 rfl rfl rfl ?_
      refine g_iload_n rfl rfl ?_
      refine g_iast rfl rfl (fun o269 => ?_)
      refine g_aload_n rfl rfl ?_
      refine g_getR rfl zf_Changes_13 rfl rfl ?_
      refine g_aload_n rfl rfl ?_
      refine g_getIx (x := q264.1 504) rfl zf_Changes_33 rfl rfl rfl rfl ?_
      refine g_iload_n rfl rfl ?_
      refine g_iast rfl rfl (fun o268 => ?_)
      refine g_aload_n rfl rfl ?_
      refine g_getR rfl zf_Changes_16 rfl rfl ?_
      refine g_aload_n rfl rfl ?_
      refine g_getIx (x := q264.1 504) rfl zf_Changes_33 rfl rfl rfl rfl ?_
      refine g_iload_n rfl rfl ?_
      refine g_iast rfl rfl (fun o267 => ?_)
      refine g_aload_n rfl rfl ?_
      refine g_dup rfl rfl ?_
      refine g_getIx (x := q264.1 504) rfl zf_Changes_33 rfl rfl rfl rfl ?_
      refine g_iconst (v := (1 : Int32)) rfl zic_1 ?_
      refine g_iadd rfl ?_
      refine g_put (j := 504) rfl zf_Changes_33 rfl rfl zp_1_4.1 (Or.inl zp_1_4.2) rfl ?_
      refine g_aload_n rfl rfl ?_
      refine g_aload_n rfl rfl ?_
      refine g_getIx (x := ((q264.1 504) + (1 : Int32))) rfl zf_Changes_33 rfl rfl rfl rfl ?_
      refine g_put (j := 505) rfl zf_Changes_40 rfl rfl zp_1_5.1 (Or.inl zp_1_5.2) rfl ?_
      refine g_iload_n rfl rfl ?_
      exact g_iret rfl (Or.inl rfl) rfl
  · refine g_iload_n rfl rfl ?_
    exact g_iret rfl (Or.inl rfl) rfl
theorem s_Changes_make (G : ZG) (a : Int32) (b : Int32) (u : ZSt) (x : Int32 × ZSt) (hx : f_Changes_make a b u = some x) : ZSpec G m_Changes_make 2 [.ref 5, .int a, .int b] u (zemI x) :=
  ZSpec.go k_Changes_make (Nat.le_of_ble_eq_true rfl) (w_Changes_make G a b u) (tgt := zemI x) (by rw [hx]; rfl)
set_option maxRecDepth 100000 in
set_option maxHeartbeats 4000000 in
theorem w_X_mend (G : ZG) (a : Int32) (b : Int32) (c : Int32) (u : ZSt) : ZGo G m_X_mend 3 (f_X_mend a b c u) zkI 0 [(0, .ref 0), (1, .int a), (2, .int b), (3, .int c)] [] u := by
  unfold f_X_mend
  refine g_aload_n rfl rfl ?_
  refine g_getR rfl zf_X_10 rfl rfl ?_
  refine g_iload_n rfl rfl ?_
  refine g_iload_n rfl rfl ?_
  refine g_callVP (M' := m_Council_slotOf) (d' := 2) (as := [.int a, .int b]) (rest := []) (ci := 3) (o := 1) rfl ml_X_123 v_Council_slotOf (by decide) rfl (by decide) rfl rfl rfl (Nat.le_of_ble_eq_true rfl) (fun x_ e_ => s_Council_slotOf G a b u x_ e_) (fun q270 e271 b272 => ?_)
  refine g_istore (lv' := [(0, .ref 0), (1, .int a), (2, .int b), (3, .int c), (4, .int q270)]) rfl (Nat.le_of_ble_eq_true rfl) rfl rfl ?_
  refine g_iload rfl rfl ?_
  refine g_iflt rfl (fun c273 => ?_) (fun c273 => ?_)
  · refine g_ldc rfl zk_X_132 ?_
    exact g_iret rfl (Or.inl rfl) rfl
  · refine g_iload_n rfl rfl ?_
    refine g_iload_n rfl rfl ?_
    refine g_callSP (M' := m_Council_leastOf) (d' := 1) (as := [.int b]) (rest := [.int c]) rfl ml_X_126 v_Council_leastOf (by decide) rfl rfl (Nat.le_of_ble_eq_true rfl) (fun x_ e_ => s_Council_leastOf G b u x_ e_) (fun q274 e275 b276 => ?_)
    refine g_icmplt rfl (fun c277 => ?_) (fun c277 => ?_)
    · refine g_ldc rfl zk_X_132 ?_
      exact g_iret rfl (Or.inl rfl) rfl
    · refine g_iload_n rfl rfl ?_
      refine g_iload_n rfl rfl ?_
      refine g_callSP (M' := m_Council_mostOf) (d' := 1) (as := [.int b]) (rest := [.int c]) rfl ml_X_129 v_Council_mostOf (by decide) rfl rfl (Nat.le_of_ble_eq_true rfl) (fun x_ e_ => s_Council_mostOf G b u x_ e_) (fun q278 e279 b280 => ?_)
      refine g_icmple rfl (fun c281 => ?_) (fun c281 => ?_)
      · refine g_aload_n rfl rfl ?_
        refine g_getR rfl zf_X_21 rfl rfl ?_
        refine g_iload rfl rfl ?_
        refine g_iload_n rfl rfl ?_
        refine g_callVI (M' := m_Changes_make) (d' := 2) (as := [.int q270, .int c]) (rest := []) (ci := 1) (o := 5) rfl ml_X_133 v_Changes_make (by decide) rfl (by decide) rfl rfl rfl (Nat.le_of_ble_eq_true rfl) (fun x_ e_ => s_Changes_make G q270 c u x_ e_) (fun q282r q282u e283 b284 => ?_)
        exact g_iret rfl (Or.inl rfl) rfl
      · refine g_ldc rfl zk_X_132 ?_
        exact g_iret rfl (Or.inl rfl) rfl
theorem s_X_mend (G : ZG) (a : Int32) (b : Int32) (c : Int32) (u : ZSt) (x : Int32 × ZSt) (hx : f_X_mend a b c u = some x) : ZSpec G m_X_mend 3 [.ref 0, .int a, .int b, .int c] u (zemI x) :=
  ZSpec.go k_X_mend (Nat.le_of_ble_eq_true rfl) (w_X_mend G a b c u) (tgt := zemI x) (by rw [hx]; rfl)
set_option maxRecDepth 100000 in
set_option maxHeartbeats 4000000 in
theorem w_M_isMatter (G : ZG) (a : Int32) (u : ZSt) : ZGo G m_M_isMatter 2 (f_M_isMatter a u) (zkP u) 0 [(0, .ref 39), (1, .int a)] [] u := by
  unfold f_M_isMatter
  refine g_iload_n rfl rfl ?_
  refine g_i2l rfl ?_
  refine g_lconst (v := (0 : Int64)) rfl rfl ?_
  refine g_aload_n rfl rfl ?_
  refine g_getI rfl zf_M_101 rfl rfl rfl ?_
  refine g_iconst (v := (1 : Int32)) rfl zic_1 ?_
  refine g_isub rfl ?_
  refine g_i2l rfl ?_
  refine g_callSP (M' := m_M_within) (d' := 1) (as := [.long a.toInt64, .long (0 : Int64), .long (((u.1 3907) - (1 : Int32)).toInt64)]) (rest := []) rfl ml_M_97 v_M_within (by decide) rfl rfl (Nat.le_of_ble_eq_true rfl) (fun x_ e_ => s_M_within G a.toInt64 (0 : Int64) (((u.1 3907) - (1 : Int32)).toInt64) u x_ e_) (fun q285 e286 b287 => ?_)
  exact g_iret rfl (Or.inr ⟨rfl, (zbo_i b287)⟩) rfl
theorem s_M_isMatter (G : ZG) (a : Int32) (u : ZSt) (x : Int32) (hx : f_M_isMatter a u = some x) : ZSpec G m_M_isMatter 2 [.ref 39, .int a] u ((zemP u) x) :=
  ZSpec.go k_M_isMatter (Nat.le_of_ble_eq_true rfl) (w_M_isMatter G a u) (tgt := (zemP u) x) (by rw [hx]; rfl)
set_option maxRecDepth 100000 in
set_option maxHeartbeats 4000000 in
theorem w_M_isPm (G : ZG) (a : Int32) (u : ZSt) : ZGo G m_M_isPm 3 (f_M_isPm a u) (zkP u) 0 [(0, .ref 39), (1, .int a)] [] u := by
  unfold f_M_isPm
  refine g_iload_n rfl rfl ?_
  refine g_iflt rfl (fun c288 => ?_) (fun c288 => ?_)
  · refine g_iconst (v := (0 : Int32)) rfl zic_0 ?_
    exact g_iret rfl (Or.inr ⟨rfl, Or.inl rfl⟩) rfl
  · refine g_aload_n rfl rfl ?_
    refine g_iload_n rfl rfl ?_
    refine g_bipush (v := (10 : Int32)) rfl zib_10 ?_
    refine g_idiv rfl (by decide) ?_
    refine g_callVP (M' := m_M_isPerson) (d' := 2) (as := [.int (a / (10 : Int32))]) (rest := []) (ci := 11) (o := 39) rfl ml_M_104 v_M_isPerson (by decide) rfl (by decide) rfl rfl rfl (Nat.le_of_ble_eq_true rfl) (fun x_ e_ => s_M_isPerson G (a / (10 : Int32)) u x_ e_) (fun q289 e290 b291 => ?_)
    refine g_ifeq rfl (fun c292 => ?_) (fun c292 => ?_)
    · refine g_iconst (v := (0 : Int32)) rfl zic_0 ?_
      exact g_iret rfl (Or.inr ⟨rfl, Or.inl rfl⟩) rfl
    · refine g_aload_n rfl rfl ?_
      refine g_iload_n rfl rfl ?_
      refine g_bipush (v := (10 : Int32)) rfl zib_10 ?_
      refine g_irem rfl (by decide) ?_
      refine g_callVP (M' := m_M_isMatter) (d' := 2) (as := [.int (zrem a (10 : Int32))]) (rest := []) (ci := 11) (o := 39) rfl ml_M_108 v_M_isMatter (by decide) rfl (by decide) rfl rfl rfl (Nat.le_of_ble_eq_true rfl) (fun x_ e_ => s_M_isMatter G (zrem a (10 : Int32)) u x_ e_) (fun q293 e294 b295 => ?_)
      refine g_ifeq rfl (fun c296 => ?_) (fun c296 => ?_)
      · refine g_iconst (v := (0 : Int32)) rfl zic_0 ?_
        exact g_iret rfl (Or.inr ⟨rfl, Or.inl rfl⟩) rfl
      · refine g_iconst (v := (1 : Int32)) rfl zic_1 ?_
        refine g_goto rfl ?_
        exact g_iret rfl (Or.inr ⟨rfl, Or.inr rfl⟩) rfl
theorem s_M_isPm (G : ZG) (a : Int32) (u : ZSt) (x : Int32) (hx : f_M_isPm a u = some x) : ZSpec G m_M_isPm 3 [.ref 39, .int a] u ((zemP u) x) :=
  ZSpec.go k_M_isPm (Nat.le_of_ble_eq_true rfl) (w_M_isPm G a u) (tgt := (zemP u) x) (by rw [hx]; rfl)
set_option maxRecDepth 100000 in
set_option maxHeartbeats 4000000 in
theorem w_M_placeOf (G : ZG) (a : Int32) (b : Int32) (u : ZSt) : ZGo G m_M_placeOf 1 (f_M_placeOf a b) (zkP u) 0 [(0, .int a), (1, .int b)] [] u := by
  unfold f_M_placeOf
  refine g_bipush (v := (6 : Int32)) rfl zib_6 ?_
  refine g_iload_n rfl rfl ?_
  refine g_imul rfl ?_
  refine g_iload_n rfl rfl ?_
  refine g_iadd rfl ?_
  exact g_iret rfl (Or.inl rfl) rfl
theorem s_M_placeOf (G : ZG) (a : Int32) (b : Int32) (u : ZSt) (x : Int32) (hx : f_M_placeOf a b = some x) : ZSpec G m_M_placeOf 1 [.int a, .int b] u ((zemP u) x) :=
  ZSpec.go k_M_placeOf (Nat.le_of_ble_eq_true rfl) (w_M_placeOf G a b u) (tgt := (zemP u) x) (by rw [hx]; rfl)
set_option maxRecDepth 100000 in
set_option maxHeartbeats 4000000 in
theorem wb_M_becomes_16 (G : ZG) (l1 : Int32) (l2 : Int32) (l3 : Int32) (l4 : Int32) (u : ZSt) (K : ((Int32 × ZSt) ⊕ (Int32 × ZSt)) → Option (Value × ZSt)) (hb : ∀ (l4 : Int32) (u : ZSt), ZGo G m_M_becomes 1 (K (.inl (l4, u))) some 16 [(0, .ref 39), (1, .int l1), (2, .int l2), (3, .int l3), (4, .int l4)] [] u) (hx : ∀ (l4 : Int32) (u : ZSt), ZGo G m_M_becomes 1 (K (.inr (l4, u))) some 51 [(0, .ref 39), (1, .int l1), (2, .int l2), (3, .int l3)] [] u) : ZGo G m_M_becomes 1 (b_M_becomes_16 l1 l2 l3 l4 u) K 16 [(0, .ref 39), (1, .int l1), (2, .int l2), (3, .int l3), (4, .int l4)] [] u := by
  unfold b_M_becomes_16
  refine g_iload rfl rfl ?_
  refine g_bipush (v := (40 : Int32)) rfl zib_40 ?_
  refine g_icmpge rfl (fun c303 => ?_) (fun c303 => ?_)
  · exact zgo_sub (zsubk [0, 1, 2, 3] rfl) (zgo_leaf (hx l4 u))
  · refine g_aload_n rfl rfl ?_
    refine g_getR rfl zf_M_13 rfl rfl ?_
    refine g_iload rfl rfl ?_
    refine g_iconst (v := (1 : Int32)) rfl zic_1 ?_
    refine g_isub rfl ?_
    refine g_aload_n rfl rfl ?_
    refine g_getR rfl zf_M_13 rfl rfl ?_
    refine g_iload rfl rfl ?_
    refine g_iald rfl rfl (fun o309 => ?_)
    refine g_iast rfl rfl (fun o308 => ?_)
    refine g_aload_n rfl rfl ?_
    refine g_getR rfl zf_M_16 rfl rfl ?_
    refine g_iload rfl rfl ?_
    refine g_iconst (v := (1 : Int32)) rfl zic_1 ?_
    refine g_isub rfl ?_
    refine g_aload_n rfl rfl ?_
    refine g_getR rfl zf_M_16 rfl rfl ?_
    refine g_iload rfl rfl ?_
    refine zgo_iald (y := u.2.1 42 l4.toNatClampNeg) rfl rfl rfl (fun o307 => ?_)
    refine g_iast rfl rfl (fun o306 => ?_)
    refine g_aload_n rfl rfl ?_
    refine g_getR rfl zf_M_19 rfl rfl ?_
    refine g_iload rfl rfl ?_
    refine g_iconst (v := (1 : Int32)) rfl zic_1 ?_
    refine g_isub rfl ?_
    refine g_aload_n rfl rfl ?_
    refine g_getR rfl zf_M_19 rfl rfl ?_
    refine g_iload rfl rfl ?_
    refine zgo_iald (y := u.2.1 43 l4.toNatClampNeg) rfl rfl rfl (fun o305 => ?_)
    refine g_iast rfl rfl (fun o304 => ?_)
    refine g_iinc (v := (1 : Int32)) (lv' := [(0, .ref 39), (1, .int l1), (2, .int l2), (3, .int l3), (4, .int (l4 + (1 : Int32)))]) rfl rfl zic_1 (Nat.le_of_ble_eq_true rfl) rfl rfl ?_
    refine g_goto rfl ?_
    exact zgo_sub (zsubk [0, 1, 2, 3, 4] rfl) (zgo_leaf (hb (l4 + (1 : Int32)) (za (za (za u 41 ((l4 - (1 : Int32)).toNatClampNeg) (u.2.1 41 l4.toNatClampNeg)) 42 ((l4 - (1 : Int32)).toNatClampNeg) (u.2.1 42 l4.toNatClampNeg)) 43 ((l4 - (1 : Int32)).toNatClampNeg) (u.2.1 43 l4.toNatClampNeg))))
set_option maxRecDepth 100000 in
set_option maxHeartbeats 4000000 in
theorem wa_M_becomes_16 (G : ZG) (l1 : Int32) (l2 : Int32) (l3 : Int32) (u : ZSt) : ZGo G m_M_becomes 1 (a_M_becomes_16 l1 l2 l3 u) zkI 51 [(0, .ref 39), (1, .int l1), (2, .int l2), (3, .int l3)] [] u := by
  unfold a_M_becomes_16
  refine g_aload_n rfl rfl ?_
  refine g_dup rfl rfl ?_
  refine g_getI rfl zf_M_88 rfl rfl rfl ?_
  refine g_iconst (v := (1 : Int32)) rfl zic_1 ?_
  refine g_isub rfl ?_
  refine g_put (j := 3905) rfl zf_M_88 rfl rfl zp_11_5.1 (Or.inl zp_11_5.2) rfl ?_
  refine g_aload_n rfl rfl ?_
  refine g_getR rfl zf_M_13 rfl rfl ?_
  refine g_aload_n rfl rfl ?_
  refine g_getIx (x := ((u.1 3905) - (1 : Int32))) rfl zf_M_88 rfl rfl rfl rfl ?_
  refine g_iload_n rfl rfl ?_
  refine g_iast rfl rfl (fun o313 => ?_)
  refine g_aload_n rfl rfl ?_
  refine g_getR rfl zf_M_16 rfl rfl ?_
  refine g_aload_n rfl rfl ?_
  refine g_getIx (x := ((u.1 3905) - (1 : Int32))) rfl zf_M_88 rfl rfl rfl rfl ?_
  refine g_iload_n rfl rfl ?_
  refine g_iast rfl rfl (fun o312 => ?_)
  refine g_aload_n rfl rfl ?_
  refine g_getR rfl zf_M_19 rfl rfl ?_
  refine g_aload_n rfl rfl ?_
  refine g_getIx (x := ((u.1 3905) - (1 : Int32))) rfl zf_M_88 rfl rfl rfl rfl ?_
  refine g_iload_n rfl rfl ?_
  refine g_iast rfl rfl (fun o311 => ?_)
  refine g_aload_n rfl rfl ?_
  refine g_dup rfl rfl ?_
  refine g_getIx (x := ((u.1 3905) - (1 : Int32))) rfl zf_M_88 rfl rfl rfl rfl ?_
  refine g_iconst (v := (1 : Int32)) rfl zic_1 ?_
  refine g_iadd rfl ?_
  refine g_put (j := 3905) rfl zf_M_88 rfl rfl zp_11_5.1 (Or.inl zp_11_5.2) rfl ?_
  refine g_aload_n rfl rfl ?_
  refine g_aload_n rfl rfl ?_
  refine g_getIx (x := (((u.1 3905) - (1 : Int32)) + (1 : Int32))) rfl zf_M_88 rfl rfl rfl rfl ?_
  refine g_put (j := 3904) rfl zf_M_91 rfl rfl zp_11_4.1 (Or.inl zp_11_4.2) rfl ?_
  refine g_aload_n rfl rfl ?_
  refine g_getR rfl zf_M_9 rfl rfl ?_
  refine g_iload_n rfl rfl ?_
  refine g_iload_n rfl rfl ?_
  refine g_iast rfl rfl (fun o310 => ?_)
  refine g_iload_n rfl rfl ?_
  exact g_iret rfl (Or.inl rfl) rfl
set_option maxRecDepth 100000 in
set_option maxHeartbeats 4000000 in
theorem w_M_becomes (G : ZG) (a : Int32) (b : Int32) (u : ZSt) : ZGo G m_M_becomes 1 (f_M_becomes a b u) zkI 0 [(0, .ref 39), (1, .int a), (2, .int b)] [] u := by
  unfold f_M_becomes
  refine g_aload_n rfl rfl ?_
  refine g_getR rfl zf_M_9 rfl rfl ?_
  refine g_iload_n rfl rfl ?_
  refine g_iald rfl rfl (fun o314 => ?_)
  refine g_istore_n (lv' := [(0, .ref 39), (1, .int a), (2, .int b), (3, .int (u.2.1 40 a.toNatClampNeg))]) rfl (Nat.le_of_ble_eq_true rfl) rfl rfl ?_
  refine g_iload_n rfl rfl ?_
  refine g_iload_n rfl rfl ?_
  refine g_icmpne rfl (fun c297 => ?_) (fun c297 => ?_)
  · refine g_aload_n rfl rfl ?_
    refine g_getI rfl zf_M_88 rfl rfl rfl ?_
    refine g_bipush (v := (40 : Int32)) rfl zib_40 ?_
    refine g_icmpne rfl (fun c298 => ?_) (fun c298 => ?_)
    · refine g_aload_n rfl rfl ?_
      refine g_getR rfl zf_M_13 rfl rfl ?_
      refine g_aload_n rfl rfl ?_
      refine g_getI rfl zf_M_88 rfl rfl rfl ?_
      refine g_iload_n rfl rfl ?_
      refine g_iast rfl rfl (fun o302 => ?_)
      refine g_aload_n rfl rfl ?_
      refine g_getR rfl zf_M_16 rfl rfl ?_
      refine g_aload_n rfl rfl ?_
      refine g_getIx (x := u.1 3905) rfl zf_M_88 rfl rfl rfl rfl ?_
      refine g_iload_n rfl rfl ?_
      refine g_iast rfl rfl (fun o301 => ?_)
      refine g_aload_n rfl rfl ?_
      refine g_getR rfl zf_M_19 rfl rfl ?_
      refine g_aload_n rfl rfl ?_
      refine g_getIx (x := u.1 3905) rfl zf_M_88 rfl rfl rfl rfl ?_
      refine g_iload_n rfl rfl ?_
      refine g_iast rfl rfl (fun o300 => ?_)
      refine g_aload_n rfl rfl ?_
      refine g_dup rfl rfl ?_
      refine g_getIx (x := u.1 3905) rfl zf_M_88 rfl rfl rfl rfl ?_
      refine g_iconst (v := (1 : Int32)) rfl zic_1 ?_
      refine g_iadd rfl ?_
      refine g_put (j := 3905) rfl zf_M_88 rfl rfl zp_11_5.1 (Or.inl zp_11_5.2) rfl ?_
      refine g_aload_n rfl rfl ?_
      refine g_aload_n rfl rfl ?_
      refine g_getIx (x := ((u.1 3905) + (1 : Int32))) rfl zf_M_88 rfl rfl rfl rfl ?_
      refine g_put (j := 3904) rfl zf_M_91 rfl rfl zp_11_4.1 (Or.inl zp_11_4.2) rfl ?_
      refine g_aload_n rfl rfl ?_
      refine g_getR rfl zf_M_9 rfl rfl ?_
      refine g_iload_n rfl rfl ?_
      refine g_iload_n rfl rfl ?_
      refine g_iast rfl rfl (fun o299 => ?_)
      refine g_iload_n rfl rfl ?_
      exact g_iret rfl (Or.inl rfl) rfl
    · refine g_iconst (v := (1 : Int32)) rfl zic_1 ?_
      refine g_istore (lv' := [(0, .ref 39), (1, .int a), (2, .int b), (3, .int (u.2.1 40 a.toNatClampNeg)), (4, .int (1 : Int32))]) rfl (Nat.le_of_ble_eq_true rfl) rfl rfl ?_
      refine zgo_sub (lv' := [(0, .ref 39), (1, .int a), (2, .int b), (3, .int (u.2.1 40 a.toNatClampNeg)), (4, .int (1 : Int32))]) (zsubk [0, 1, 2, 3, 4] rfl) ?_
      refine zgo_loop (σ := Int32 × ZSt) (lvf := fun s => [(0, .ref 39), (1, .int a), (2, .int b), (3, .int (u.2.1 40 a.toNatClampNeg)), (4, .int s.1)]) (uf := (fun s => s.2)) ?_ zfu _
      intro s K' ih he
      refine wb_M_becomes_16 G a b (u.2.1 40 a.toNatClampNeg) s.1 s.2 K' ?_ ?_
      · intro c0 v
        exact ih (c0, v)
      · intro c0 v
        rw [he]
        exact zgo_unleaf (wa_M_becomes_16 G a b (u.2.1 40 a.toNatClampNeg) v)
  · refine g_iload_n rfl rfl ?_
    exact g_iret rfl (Or.inl rfl) rfl
theorem s_M_becomes (G : ZG) (a : Int32) (b : Int32) (u : ZSt) (x : Int32 × ZSt) (hx : f_M_becomes a b u = some x) : ZSpec G m_M_becomes 1 [.ref 39, .int a, .int b] u (zemI x) :=
  ZSpec.go k_M_becomes (Nat.le_of_ble_eq_true rfl) (w_M_becomes G a b u) (tgt := zemI x) (by rw [hx]; rfl)
set_option maxRecDepth 100000 in
set_option maxHeartbeats 4000000 in
theorem w_M_mend (G : ZG) (a : Int32) (b : Int32) (c : Int32) (u : ZSt) : ZGo G m_M_mend 4 (f_M_mend a b c u) zkI 0 [(0, .ref 39), (1, .int a), (2, .int b), (3, .int c)] [] u := by
  unfold f_M_mend
  refine g_iload_n rfl rfl ?_
  refine zgo_ite (fun c315 => ?_) (fun c315 => ?_)
  · refine g_tswIn rfl c315 (by decide) (by decide) (off := 27) (by decide +kernel) 2 rfl ?_
    refine g_aload_n rfl rfl ?_
    refine g_iload_n rfl rfl ?_
    refine g_callVP (M' := m_M_isPm) (d' := 3) (as := [.int a]) (rest := []) (ci := 11) (o := 39) rfl ml_M_125 v_M_isPm (by decide) rfl (by decide) rfl rfl rfl (Nat.le_of_ble_eq_true rfl) (fun x_ e_ => s_M_isPm G a u x_ e_) (fun q316 e317 b318 => ?_)
    refine g_ifeq rfl (fun c319 => ?_) (fun c319 => ?_)
    · refine g_ldc rfl zk_M_135 ?_
      exact g_iret rfl (Or.inl rfl) rfl
    · refine g_iload_n rfl rfl ?_
      refine g_i2l rfl ?_
      refine g_lconst (v := (0 : Int64)) rfl rfl ?_
      refine g_ldc2 rfl zk_M_111 ?_
      refine g_callSP (M' := m_M_within) (d' := 1) (as := [.long c.toInt64, .long (0 : Int64), .long (99 : Int64)]) (rest := []) rfl ml_M_97 v_M_within (by decide) rfl rfl (Nat.le_of_ble_eq_true rfl) (fun x_ e_ => s_M_within G c.toInt64 (0 : Int64) (99 : Int64) u x_ e_) (fun q320 e321 b322 => ?_)
      refine g_ifeq rfl (fun c323 => ?_) (fun c323 => ?_)
      · refine g_ldc rfl zk_M_135 ?_
        exact g_iret rfl (Or.inl rfl) rfl
      · refine g_aload_n rfl rfl ?_
        refine g_iload_n rfl rfl ?_
        refine g_bipush (v := (10 : Int32)) rfl zib_10 ?_
        refine g_idiv rfl (by decide) ?_
        refine g_iload_n rfl rfl ?_
        refine g_bipush (v := (10 : Int32)) rfl zib_10 ?_
        refine g_irem rfl (by decide) ?_
        refine g_callSP (M' := m_M_placeOf) (d' := 1) (as := [.int (a / (10 : Int32)), .int (zrem a (10 : Int32))]) (rest := [.ref 39]) rfl ml_M_128 v_M_placeOf (by decide) rfl rfl (Nat.le_of_ble_eq_true rfl) (fun x_ e_ => s_M_placeOf G (a / (10 : Int32)) (zrem a (10 : Int32)) u x_ e_) (fun q324 e325 b326 => ?_)
        refine g_iload_n rfl rfl ?_
        refine g_callVI (M' := m_M_becomes) (d' := 1) (as := [.int q324, .int c]) (rest := []) (ci := 11) (o := 39) rfl ml_M_132 v_M_becomes (by decide) rfl (by decide) rfl rfl rfl (Nat.le_of_ble_eq_true rfl) (fun x_ e_ => s_M_becomes G q324 c u x_ e_) (fun q327r q327u e328 b329 => ?_)
        refine g_goto rfl ?_
        exact g_iret rfl (Or.inl rfl) rfl
  · refine zgo_ite (fun c330 => ?_) (fun c330 => ?_)
    · refine g_tswIn rfl c330 (by decide) (by decide) (off := 69) (by decide +kernel) 25 rfl ?_
      refine g_aload_n rfl rfl ?_
      refine g_iload_n rfl rfl ?_
      refine g_callVP (M' := m_M_isPm) (d' := 3) (as := [.int a]) (rest := []) (ci := 11) (o := 39) rfl ml_M_125 v_M_isPm (by decide) rfl (by decide) rfl rfl rfl (Nat.le_of_ble_eq_true rfl) (fun x_ e_ => s_M_isPm G a u x_ e_) (fun q331 e332 b333 => ?_)
      refine g_ifeq rfl (fun c334 => ?_) (fun c334 => ?_)
      · refine g_ldc rfl zk_M_135 ?_
        exact g_iret rfl (Or.inl rfl) rfl
      · refine g_iload_n rfl rfl ?_
        refine g_i2l rfl ?_
        refine g_ldc2 rfl zk_M_136 ?_
        refine g_ldc2 rfl zk_M_138 ?_
        refine g_callSP (M' := m_M_within) (d' := 1) (as := [.long c.toInt64, .long (-9 : Int64), .long (9 : Int64)]) (rest := []) rfl ml_M_97 v_M_within (by decide) rfl rfl (Nat.le_of_ble_eq_true rfl) (fun x_ e_ => s_M_within G c.toInt64 (-9 : Int64) (9 : Int64) u x_ e_) (fun q335 e336 b337 => ?_)
        refine g_ifeq rfl (fun c338 => ?_) (fun c338 => ?_)
        · refine g_ldc rfl zk_M_135 ?_
          exact g_iret rfl (Or.inl rfl) rfl
        · refine g_aload_n rfl rfl ?_
          refine g_bipush (v := (60 : Int32)) rfl zib_60 ?_
          refine g_iload_n rfl rfl ?_
          refine g_bipush (v := (10 : Int32)) rfl zib_10 ?_
          refine g_idiv rfl (by decide) ?_
          refine g_iload_n rfl rfl ?_
          refine g_bipush (v := (10 : Int32)) rfl zib_10 ?_
          refine g_irem rfl (by decide) ?_
          refine g_callSP (M' := m_M_placeOf) (d' := 1) (as := [.int (a / (10 : Int32)), .int (zrem a (10 : Int32))]) (rest := [.int (60 : Int32), .ref 39]) rfl ml_M_128 v_M_placeOf (by decide) rfl rfl (Nat.le_of_ble_eq_true rfl) (fun x_ e_ => s_M_placeOf G (a / (10 : Int32)) (zrem a (10 : Int32)) u x_ e_) (fun q339 e340 b341 => ?_)
          refine g_iadd rfl ?_
          refine g_iload_n rfl rfl ?_
          refine g_callVI (M' := m_M_becomes) (d' := 1) (as := [.int ((60 : Int32) + q339), .int c]) (rest := []) (ci := 11) (o := 39) rfl ml_M_132 v_M_becomes (by decide) rfl (by decide) rfl rfl rfl (Nat.le_of_ble_eq_true rfl) (fun x_ e_ => s_M_becomes G ((60 : Int32) + q339) c u x_ e_) (fun q342r q342u e343 b344 => ?_)
          refine g_goto rfl ?_
          exact g_iret rfl (Or.inl rfl) rfl
    · refine zgo_ite (fun c345 => ?_) (fun c345 => ?_)
      · refine g_tswIn rfl c345 (by decide) (by decide) (off := 116) (by decide +kernel) 50 rfl ?_
        refine g_aload_n rfl rfl ?_
        refine g_iload_n rfl rfl ?_
        refine g_callVP (M' := m_M_isMatter) (d' := 2) (as := [.int a]) (rest := []) (ci := 11) (o := 39) rfl ml_M_108 v_M_isMatter (by decide) rfl (by decide) rfl rfl rfl (Nat.le_of_ble_eq_true rfl) (fun x_ e_ => s_M_isMatter G a u x_ e_) (fun q346 e347 b348 => ?_)
        refine g_ifeq rfl (fun c349 => ?_) (fun c349 => ?_)
        · refine g_ldc rfl zk_M_135 ?_
          exact g_iret rfl (Or.inl rfl) rfl
        · refine g_iload_n rfl rfl ?_
          refine g_i2l rfl ?_
          refine g_lconst (v := (0 : Int64)) rfl rfl ?_
          refine g_ldc2 rfl zk_M_140 ?_
          refine g_callSP (M' := m_M_within) (d' := 1) (as := [.long c.toInt64, .long (0 : Int64), .long (12 : Int64)]) (rest := []) rfl ml_M_97 v_M_within (by decide) rfl rfl (Nat.le_of_ble_eq_true rfl) (fun x_ e_ => s_M_within G c.toInt64 (0 : Int64) (12 : Int64) u x_ e_) (fun q350 e351 b352 => ?_)
          refine g_ifeq rfl (fun c353 => ?_) (fun c353 => ?_)
          · refine g_ldc rfl zk_M_135 ?_
            exact g_iret rfl (Or.inl rfl) rfl
          · refine g_aload_n rfl rfl ?_
            refine g_bipush (v := (120 : Int32)) rfl zib_120 ?_
            refine g_iload_n rfl rfl ?_
            refine g_iadd rfl ?_
            refine g_iload_n rfl rfl ?_
            refine g_callVI (M' := m_M_becomes) (d' := 1) (as := [.int ((120 : Int32) + a), .int c]) (rest := []) (ci := 11) (o := 39) rfl ml_M_132 v_M_becomes (by decide) rfl (by decide) rfl rfl rfl (Nat.le_of_ble_eq_true rfl) (fun x_ e_ => s_M_becomes G ((120 : Int32) + a) c u x_ e_) (fun q354r q354u e355 b356 => ?_)
            refine g_goto rfl ?_
            exact g_iret rfl (Or.inl rfl) rfl
      · refine g_tswD rfl [0, 1, 2] 3 (by decide) (by decide +kernel) (List.forall_mem_cons.mpr ⟨z_ne c315 rfl, (List.forall_mem_cons.mpr ⟨z_ne c330 rfl, (List.forall_mem_cons.mpr ⟨z_ne c345 rfl, (fun _ h => absurd h List.not_mem_nil)⟩)⟩)⟩) 69 rfl ?_
        refine g_ldc rfl zk_M_135 ?_
        exact g_iret rfl (Or.inl rfl) rfl
theorem s_M_mend (G : ZG) (a : Int32) (b : Int32) (c : Int32) (u : ZSt) (x : Int32 × ZSt) (hx : f_M_mend a b c u = some x) : ZSpec G m_M_mend 4 [.ref 39, .int a, .int b, .int c] u (zemI x) :=
  ZSpec.go k_M_mend (Nat.le_of_ble_eq_true rfl) (w_M_mend G a b c u) (tgt := zemI x) (by rw [hx]; rfl)
set_option maxRecDepth 100000 in
set_option maxHeartbeats 4000000 in
theorem w_X_rule (G : ZG) (a : Int32) (b : Int32) (u : ZSt) : ZGo G m_X_rule 1 (f_X_rule a b u) zkI 0 [(0, .ref 0), (1, .int a), (2, .int b)] [] u := by
  unfold f_X_rule
  refine g_iload_n rfl rfl ?_
  refine g_ifge rfl (fun c357 => ?_) (fun c357 => ?_)
  · refine g_iload_n rfl rfl ?_
    refine g_ifne rfl (fun c358 => ?_) (fun c358 => ?_)
    · refine g_iload_n rfl rfl ?_
      refine g_iconst (v := (1 : Int32)) rfl zic_1 ?_
      refine g_icmpne rfl (fun c359 => ?_) (fun c359 => ?_)
      · refine g_iconst (v := (-1 : Int32)) rfl zic_m1 ?_
        exact g_iret rfl (Or.inl rfl) rfl
      · refine g_iload_n rfl rfl ?_
        refine g_bipush (v := (10 : Int32)) rfl zib_10 ?_
        refine g_icmpgt rfl (fun c360 => ?_) (fun c360 => ?_)
        · refine g_iconst (v := (-1 : Int32)) rfl zic_m1 ?_
          exact g_iret rfl (Or.inl rfl) rfl
        · refine g_aload_n rfl rfl ?_
          refine g_getR rfl zf_X_10 rfl rfl ?_
          refine g_getI rfl zf_X_140 rfl rfl rfl ?_
          refine g_istore_n (lv' := [(0, .ref 0), (1, .int a), (2, .int b), (3, .int (u.1 107))]) rfl (Nat.le_of_ble_eq_true rfl) rfl rfl ?_
          refine g_aload_n rfl rfl ?_
          refine g_getR rfl zf_X_10 rfl rfl ?_
          refine g_iload_n rfl rfl ?_
          refine g_put (j := 107) rfl zf_X_140 rfl rfl zp_3_7.1 (Or.inl zp_3_7.2) rfl ?_
          refine g_iload_n rfl rfl ?_
          exact g_iret rfl (Or.inl rfl) rfl
    · refine g_iload_n rfl rfl ?_
      refine g_iconst (v := (4 : Int32)) rfl zic_4 ?_
      refine g_icmpgt rfl (fun c361 => ?_) (fun c361 => ?_)
      · refine g_iload_n rfl rfl ?_
        refine g_iconst (v := (1 : Int32)) rfl zic_1 ?_
        refine g_icmpne rfl (fun c362 => ?_) (fun c362 => ?_)
        · refine g_iconst (v := (-1 : Int32)) rfl zic_m1 ?_
          exact g_iret rfl (Or.inl rfl) rfl
        · refine g_iload_n rfl rfl ?_
          refine g_bipush (v := (10 : Int32)) rfl zib_10 ?_
          refine g_icmpgt rfl (fun c363 => ?_) (fun c363 => ?_)
          · refine g_iconst (v := (-1 : Int32)) rfl zic_m1 ?_
            exact g_iret rfl (Or.inl rfl) rfl
          · refine g_aload_n rfl rfl ?_
            refine g_getR rfl zf_X_10 rfl rfl ?_
            refine g_getI rfl zf_X_140 rfl rfl rfl ?_
            refine g_istore_n (lv' := [(0, .ref 0), (1, .int a), (2, .int b), (3, .int (u.1 107))]) rfl (Nat.le_of_ble_eq_true rfl) rfl rfl ?_
            refine g_aload_n rfl rfl ?_
            refine g_getR rfl zf_X_10 rfl rfl ?_
            refine g_iload_n rfl rfl ?_
            refine g_put (j := 107) rfl zf_X_140 rfl rfl zp_3_7.1 (Or.inl zp_3_7.2) rfl ?_
            refine g_iload_n rfl rfl ?_
            exact g_iret rfl (Or.inl rfl) rfl
      · refine g_aload_n rfl rfl ?_
        refine g_getR rfl zf_X_10 rfl rfl ?_
        refine g_getI rfl zf_X_136 rfl rfl rfl ?_
        refine g_istore_n (lv' := [(0, .ref 0), (1, .int a), (2, .int b), (3, .int (u.1 106))]) rfl (Nat.le_of_ble_eq_true rfl) rfl rfl ?_
        refine g_aload_n rfl rfl ?_
        refine g_getR rfl zf_X_10 rfl rfl ?_
        refine g_iload_n rfl rfl ?_
        refine g_put (j := 106) rfl zf_X_136 rfl rfl zp_3_6.1 (Or.inl zp_3_6.2) rfl ?_
        refine g_iload_n rfl rfl ?_
        exact g_iret rfl (Or.inl rfl) rfl
  · refine g_iconst (v := (-1 : Int32)) rfl zic_m1 ?_
    exact g_iret rfl (Or.inl rfl) rfl
theorem s_X_rule (G : ZG) (a : Int32) (b : Int32) (u : ZSt) (x : Int32 × ZSt) (hx : f_X_rule a b u = some x) : ZSpec G m_X_rule 1 [.ref 0, .int a, .int b] u (zemI x) :=
  ZSpec.go k_X_rule (Nat.le_of_ble_eq_true rfl) (w_X_rule G a b u) (tgt := zemI x) (by rw [hx]; rfl)
set_option maxRecDepth 100000 in
set_option maxHeartbeats 4000000 in
theorem w_M_rule (G : ZG) (a : Int32) (b : Int32) (u : ZSt) : ZGo G m_M_rule 2 (f_M_rule a b u) zkI 0 [(0, .ref 39), (1, .int a), (2, .int b)] [] u := by
  unfold f_M_rule
  refine g_iload_n rfl rfl ?_
  refine g_i2l rfl ?_
  refine g_lconst (v := (0 : Int64)) rfl rfl ?_
  refine g_lconst (v := (1 : Int64)) rfl rfl ?_
  refine g_callSP (M' := m_M_within) (d' := 1) (as := [.long a.toInt64, .long (0 : Int64), .long (1 : Int64)]) (rest := []) rfl ml_M_97 v_M_within (by decide) rfl rfl (Nat.le_of_ble_eq_true rfl) (fun x_ e_ => s_M_within G a.toInt64 (0 : Int64) (1 : Int64) u x_ e_) (fun q364 e365 b366 => ?_)
  refine g_ifeq rfl (fun c367 => ?_) (fun c367 => ?_)
  · refine g_iconst (v := (-1 : Int32)) rfl zic_m1 ?_
    exact g_iret rfl (Or.inl rfl) rfl
  · refine g_iload_n rfl rfl ?_
    refine g_i2l rfl ?_
    refine g_lconst (v := (0 : Int64)) rfl rfl ?_
    refine g_iload_n rfl rfl ?_
    refine g_ifne rfl (fun c368 => ?_) (fun c368 => ?_)
    · refine g_ldc2 rfl zk_M_116 ?_
      refine g_callSP (M' := m_M_within) (d' := 1) (as := [.long b.toInt64, .long (0 : Int64), .long (10 : Int64)]) (rest := []) rfl ml_M_97 v_M_within (by decide) rfl rfl (Nat.le_of_ble_eq_true rfl) (fun x_ e_ => s_M_within G b.toInt64 (0 : Int64) (10 : Int64) u x_ e_) (fun q369 e370 b371 => ?_)
      refine g_ifne rfl (fun c372 => ?_) (fun c372 => ?_)
      · refine g_iload_n rfl rfl ?_
        refine g_ifne rfl (fun c373 => ?_) (fun c373 => ?_)
        · refine g_aload_n rfl rfl ?_
          refine g_getI rfl zf_M_85 rfl rfl rfl ?_
          refine g_istore_n (lv' := [(0, .ref 39), (1, .int a), (2, .int b), (3, .int (u.1 3912))]) rfl (Nat.le_of_ble_eq_true rfl) rfl rfl ?_
          refine g_aload_n rfl rfl ?_
          refine g_iload_n rfl rfl ?_
          refine g_ifne rfl (fun c374 => ?_) (fun c374 => ?_)
          · refine g_aload_n rfl rfl ?_
            refine g_getI rfl zf_M_82 rfl rfl rfl ?_
            refine g_put (j := 3911) rfl zf_M_82 rfl rfl zp_11_11.1 (Or.inl zp_11_11.2) rfl ?_
            refine g_aload_n rfl rfl ?_
            refine g_iload_n rfl rfl ?_
            refine g_iconst (v := (1 : Int32)) rfl zic_1 ?_
            refine g_icmpne rfl (fun c375 => ?_) (fun c375 => ?_)
            · refine g_aload_n rfl rfl ?_
              refine g_getIx (x := u.1 3912) rfl zf_M_85 rfl rfl rfl rfl ?_
              refine g_put (j := 3912) rfl zf_M_85 rfl rfl zp_11_12.1 (Or.inl zp_11_12.2) rfl ?_
              refine g_iload_n rfl rfl ?_
              exact g_iret rfl (Or.inl rfl) rfl
            · refine g_iload_n rfl rfl ?_
              refine g_goto rfl ?_
              refine g_put (j := 3912) rfl zf_M_85 rfl rfl zp_11_12.1 (Or.inl zp_11_12.2) rfl ?_
              refine g_iload_n rfl rfl ?_
              exact g_iret rfl (Or.inl rfl) rfl
          · refine g_iload_n rfl rfl ?_
            refine g_goto rfl ?_
            refine g_put (j := 3911) rfl zf_M_82 rfl rfl zp_11_11.1 (Or.inl zp_11_11.2) rfl ?_
            refine g_aload_n rfl rfl ?_
            refine g_iload_n rfl rfl ?_
            refine g_iconst (v := (1 : Int32)) rfl zic_1 ?_
            refine g_icmpne rfl (fun c376 => ?_) (fun c376 => ?_)
            · refine g_aload_n rfl rfl ?_
              refine g_getIx (x := u.1 3912) rfl zf_M_85 rfl rfl rfl rfl ?_
              refine g_put (j := 3912) rfl zf_M_85 rfl rfl zp_11_12.1 (Or.inl zp_11_12.2) rfl ?_
              refine g_iload_n rfl rfl ?_
              exact g_iret rfl (Or.inl rfl) rfl
            · refine g_iload_n rfl rfl ?_
              refine g_goto rfl ?_
              refine g_put (j := 3912) rfl zf_M_85 rfl rfl zp_11_12.1 (Or.inl zp_11_12.2) rfl ?_
              refine g_iload_n rfl rfl ?_
              exact g_iret rfl (Or.inl rfl) rfl
        · refine g_aload_n rfl rfl ?_
          refine g_getI rfl zf_M_82 rfl rfl rfl ?_
          refine g_goto rfl ?_
          refine g_istore_n (lv' := [(0, .ref 39), (1, .int a), (2, .int b), (3, .int (u.1 3911))]) rfl (Nat.le_of_ble_eq_true rfl) rfl rfl ?_
          refine g_aload_n rfl rfl ?_
          refine g_iload_n rfl rfl ?_
          refine g_ifne rfl (fun c377 => ?_) (fun c377 => ?_)
          · refine g_aload_n rfl rfl ?_
            refine g_getI rfl zf_M_82 rfl rfl rfl ?_
            refine g_put (j := 3911) rfl zf_M_82 rfl rfl zp_11_11.1 (Or.inl zp_11_11.2) rfl ?_
            refine g_aload_n rfl rfl ?_
            refine g_iload_n rfl rfl ?_
            refine g_iconst (v := (1 : Int32)) rfl zic_1 ?_
            refine g_icmpne rfl (fun c378 => ?_) (fun c378 => ?_)
            · refine g_aload_n rfl rfl ?_
              refine g_getIx (x := u.1 3912) rfl zf_M_85 rfl rfl rfl rfl ?_
              refine g_put (j := 3912) rfl zf_M_85 rfl rfl zp_11_12.1 (Or.inl zp_11_12.2) rfl ?_
              refine g_iload_n rfl rfl ?_
              exact g_iret rfl (Or.inl rfl) rfl
            · refine g_iload_n rfl rfl ?_
              refine g_goto rfl ?_
              refine g_put (j := 3912) rfl zf_M_85 rfl rfl zp_11_12.1 (Or.inl zp_11_12.2) rfl ?_
              refine g_iload_n rfl rfl ?_
              exact g_iret rfl (Or.inl rfl) rfl
          · refine g_iload_n rfl rfl ?_
            refine g_goto rfl ?_
            refine g_put (j := 3911) rfl zf_M_82 rfl rfl zp_11_11.1 (Or.inl zp_11_11.2) rfl ?_
            refine g_aload_n rfl rfl ?_
            refine g_iload_n rfl rfl ?_
            refine g_iconst (v := (1 : Int32)) rfl zic_1 ?_
            refine g_icmpne rfl (fun c379 => ?_) (fun c379 => ?_)
            · refine g_aload_n rfl rfl ?_
              refine g_getIx (x := u.1 3912) rfl zf_M_85 rfl rfl rfl rfl ?_
              refine g_put (j := 3912) rfl zf_M_85 rfl rfl zp_11_12.1 (Or.inl zp_11_12.2) rfl ?_
              refine g_iload_n rfl rfl ?_
              exact g_iret rfl (Or.inl rfl) rfl
            · refine g_iload_n rfl rfl ?_
              refine g_goto rfl ?_
              refine g_put (j := 3912) rfl zf_M_85 rfl rfl zp_11_12.1 (Or.inl zp_11_12.2) rfl ?_
              refine g_iload_n rfl rfl ?_
              exact g_iret rfl (Or.inl rfl) rfl
      · refine g_iconst (v := (-1 : Int32)) rfl zic_m1 ?_
        exact g_iret rfl (Or.inl rfl) rfl
    · refine g_ldc2 rfl zk_M_142 ?_
      refine g_goto rfl ?_
      refine g_callSP (M' := m_M_within) (d' := 1) (as := [.long b.toInt64, .long (0 : Int64), .long (4 : Int64)]) (rest := []) rfl ml_M_97 v_M_within (by decide) rfl rfl (Nat.le_of_ble_eq_true rfl) (fun x_ e_ => s_M_within G b.toInt64 (0 : Int64) (4 : Int64) u x_ e_) (fun q380 e381 b382 => ?_)
      refine g_ifne rfl (fun c383 => ?_) (fun c383 => ?_)
      · refine g_iload_n rfl rfl ?_
        refine g_ifne rfl (fun c384 => ?_) (fun c384 => ?_)
        · refine g_aload_n rfl rfl ?_
          refine g_getI rfl zf_M_85 rfl rfl rfl ?_
          refine g_istore_n (lv' := [(0, .ref 39), (1, .int a), (2, .int b), (3, .int (u.1 3912))]) rfl (Nat.le_of_ble_eq_true rfl) rfl rfl ?_
          refine g_aload_n rfl rfl ?_
          refine g_iload_n rfl rfl ?_
          refine g_ifne rfl (fun c385 => ?_) (fun c385 => ?_)
          · refine g_aload_n rfl rfl ?_
            refine g_getI rfl zf_M_82 rfl rfl rfl ?_
            refine g_put (j := 3911) rfl zf_M_82 rfl rfl zp_11_11.1 (Or.inl zp_11_11.2) rfl ?_
            refine g_aload_n rfl rfl ?_
            refine g_iload_n rfl rfl ?_
            refine g_iconst (v := (1 : Int32)) rfl zic_1 ?_
            refine g_icmpne rfl (fun c386 => ?_) (fun c386 => ?_)
            · refine g_aload_n rfl rfl ?_
              refine g_getIx (x := u.1 3912) rfl zf_M_85 rfl rfl rfl rfl ?_
              refine g_put (j := 3912) rfl zf_M_85 rfl rfl zp_11_12.1 (Or.inl zp_11_12.2) rfl ?_
              refine g_iload_n rfl rfl ?_
              exact g_iret rfl (Or.inl rfl) rfl
            · refine g_iload_n rfl rfl ?_
              refine g_goto rfl ?_
              refine g_put (j := 3912) rfl zf_M_85 rfl rfl zp_11_12.1 (Or.inl zp_11_12.2) rfl ?_
              refine g_iload_n rfl rfl ?_
              exact g_iret rfl (Or.inl rfl) rfl
          · refine g_iload_n rfl rfl ?_
            refine g_goto rfl ?_
            refine g_put (j := 3911) rfl zf_M_82 rfl rfl zp_11_11.1 (Or.inl zp_11_11.2) rfl ?_
            refine g_aload_n rfl rfl ?_
            refine g_iload_n rfl rfl ?_
            refine g_iconst (v := (1 : Int32)) rfl zic_1 ?_
            refine g_icmpne rfl (fun c387 => ?_) (fun c387 => ?_)
            · refine g_aload_n rfl rfl ?_
              refine g_getIx (x := u.1 3912) rfl zf_M_85 rfl rfl rfl rfl ?_
              refine g_put (j := 3912) rfl zf_M_85 rfl rfl zp_11_12.1 (Or.inl zp_11_12.2) rfl ?_
              refine g_iload_n rfl rfl ?_
              exact g_iret rfl (Or.inl rfl) rfl
            · refine g_iload_n rfl rfl ?_
              refine g_goto rfl ?_
              refine g_put (j := 3912) rfl zf_M_85 rfl rfl zp_11_12.1 (Or.inl zp_11_12.2) rfl ?_
              refine g_iload_n rfl rfl ?_
              exact g_iret rfl (Or.inl rfl) rfl
        · refine g_aload_n rfl rfl ?_
          refine g_getI rfl zf_M_82 rfl rfl rfl ?_
          refine g_goto rfl ?_
          refine g_istore_n (lv' := [(0, .ref 39), (1, .int a), (2, .int b), (3, .int (u.1 3911))]) rfl (Nat.le_of_ble_eq_true rfl) rfl rfl ?_
          refine g_aload_n rfl rfl ?_
          refine g_iload_n rfl rfl ?_
          refine g_ifne rfl (fun c388 => ?_) (fun c388 => ?_)
          · refine g_aload_n rfl rfl ?_
            refine g_getI rfl zf_M_82 rfl rfl rfl ?_
            refine g_put (j := 3911) rfl zf_M_82 rfl rfl zp_11_11.1 (Or.inl zp_11_11.2) rfl ?_
            refine g_aload_n rfl rfl ?_
            refine g_iload_n rfl rfl ?_
            refine g_iconst (v := (1 : Int32)) rfl zic_1 ?_
            refine g_icmpne rfl (fun c389 => ?_) (fun c389 => ?_)
            · refine g_aload_n rfl rfl ?_
              refine g_getIx (x := u.1 3912) rfl zf_M_85 rfl rfl rfl rfl ?_
              refine g_put (j := 3912) rfl zf_M_85 rfl rfl zp_11_12.1 (Or.inl zp_11_12.2) rfl ?_
              refine g_iload_n rfl rfl ?_
              exact g_iret rfl (Or.inl rfl) rfl
            · refine g_iload_n rfl rfl ?_
              refine g_goto rfl ?_
              refine g_put (j := 3912) rfl zf_M_85 rfl rfl zp_11_12.1 (Or.inl zp_11_12.2) rfl ?_
              refine g_iload_n rfl rfl ?_
              exact g_iret rfl (Or.inl rfl) rfl
          · refine g_iload_n rfl rfl ?_
            refine g_goto rfl ?_
            refine g_put (j := 3911) rfl zf_M_82 rfl rfl zp_11_11.1 (Or.inl zp_11_11.2) rfl ?_
            refine g_aload_n rfl rfl ?_
            refine g_iload_n rfl rfl ?_
            refine g_iconst (v := (1 : Int32)) rfl zic_1 ?_
            refine g_icmpne rfl (fun c390 => ?_) (fun c390 => ?_)
            · refine g_aload_n rfl rfl ?_
              refine g_getIx (x := u.1 3912) rfl zf_M_85 rfl rfl rfl rfl ?_
              refine g_put (j := 3912) rfl zf_M_85 rfl rfl zp_11_12.1 (Or.inl zp_11_12.2) rfl ?_
              refine g_iload_n rfl rfl ?_
              exact g_iret rfl (Or.inl rfl) rfl
            · refine g_iload_n rfl rfl ?_
              refine g_goto rfl ?_
              refine g_put (j := 3912) rfl zf_M_85 rfl rfl zp_11_12.1 (Or.inl zp_11_12.2) rfl ?_
              refine g_iload_n rfl rfl ?_
              exact g_iret rfl (Or.inl rfl) rfl
      · refine g_iconst (v := (-1 : Int32)) rfl zic_m1 ?_
        exact g_iret rfl (Or.inl rfl) rfl
theorem s_M_rule (G : ZG) (a : Int32) (b : Int32) (u : ZSt) (x : Int32 × ZSt) (hx : f_M_rule a b u = some x) : ZSpec G m_M_rule 2 [.ref 39, .int a, .int b] u (zemI x) :=
  ZSpec.go k_M_rule (Nat.le_of_ble_eq_true rfl) (w_M_rule G a b u) (tgt := zemI x) (by rw [hx]; rfl)
set_option maxRecDepth 100000 in
set_option maxHeartbeats 4000000 in
theorem w_X_toldOrVoid (G : ZG) (a : Int32) (u : ZSt) : ZGo G m_X_toldOrVoid 2 (f_X_toldOrVoid a u) (zkP u) 0 [(0, .ref 0), (1, .int a)] [] u := by
  unfold f_X_toldOrVoid
  refine g_iload_n rfl rfl ?_
  refine g_ifge rfl (fun c391 => ?_) (fun c391 => ?_)
  · refine g_aload_n rfl rfl ?_
    refine g_getR rfl zf_X_10 rfl rfl ?_
    refine g_iload_n rfl rfl ?_
    refine g_callVP (M' := m_Council_toldAt) (d' := 1) (as := [.int a]) (rest := []) (ci := 3) (o := 1) rfl ml_X_155 v_Council_toldAt (by decide) rfl (by decide) rfl rfl rfl (Nat.le_of_ble_eq_true rfl) (fun x_ e_ => s_Council_toldAt G a u x_ e_) (fun q392 e393 b394 => ?_)
    exact g_iret rfl (Or.inl rfl) rfl
  · refine g_ldc rfl zk_X_132 ?_
    refine g_goto rfl ?_
    exact g_iret rfl (Or.inl rfl) rfl
theorem s_X_toldOrVoid (G : ZG) (a : Int32) (u : ZSt) (x : Int32) (hx : f_X_toldOrVoid a u = some x) : ZSpec G m_X_toldOrVoid 2 [.ref 0, .int a] u ((zemP u) x) :=
  ZSpec.go k_X_toldOrVoid (Nat.le_of_ble_eq_true rfl) (w_X_toldOrVoid G a u) (tgt := (zemP u) x) (by rw [hx]; rfl)
set_option maxRecDepth 100000 in
set_option maxHeartbeats 4000000 in
theorem w_Council_feeOf (G : ZG) (a : Int32) (u : ZSt) : ZGo G m_Council_feeOf 2 (f_Council_feeOf a u) (zkP u) 0 [(0, .ref 1), (1, .int a)] [] u := by
  unfold f_Council_feeOf
  refine g_aload_n rfl rfl ?_
  refine g_iload_n rfl rfl ?_
  refine g_callVP (M' := m_Council_isPerson) (d' := 1) (as := [.int a]) (rest := []) (ci := 3) (o := 1) rfl ml_Council_34 v_Council_isPerson (by decide) rfl (by decide) rfl rfl rfl (Nat.le_of_ble_eq_true rfl) (fun x_ e_ => s_Council_isPerson G a u x_ e_) (fun q395 e396 b397 => ?_)
  refine g_ifeq rfl (fun c398 => ?_) (fun c398 => ?_)
  · refine g_iconst (v := (0 : Int32)) rfl zic_0 ?_
    exact g_iret rfl (Or.inl rfl) rfl
  · refine g_aload_n rfl rfl ?_
    refine g_getR rfl zf_Council_9 rfl rfl ?_
    refine g_iload_n rfl rfl ?_
    refine g_iald rfl rfl (fun o399 => ?_)
    refine g_goto rfl ?_
    exact g_iret rfl (Or.inl rfl) rfl
theorem s_Council_feeOf (G : ZG) (a : Int32) (u : ZSt) (x : Int32) (hx : f_Council_feeOf a u = some x) : ZSpec G m_Council_feeOf 2 [.ref 1, .int a] u ((zemP u) x) :=
  ZSpec.go k_Council_feeOf (Nat.le_of_ble_eq_true rfl) (w_Council_feeOf G a u) (tgt := (zemP u) x) (by rw [hx]; rfl)
set_option maxRecDepth 100000 in
set_option maxHeartbeats 4000000 in
theorem w_X_of (G : ZG) (a : Int32) (b : Int32) (u : ZSt) : ZGo G m_X_of 3 (f_X_of a b u) (zkP u) 0 [(0, .ref 0), (1, .int a), (2, .int b)] [] u := by
  unfold f_X_of
  refine g_iload_n rfl rfl ?_
  refine zgo_ite (fun c400 => ?_) (fun c400 => ?_)
  · refine g_lswI rfl (by decide +kernel) c400 (off := 51) (by decide +kernel) 2 rfl ?_
    refine g_aload_n rfl rfl ?_
    refine g_aload_n rfl rfl ?_
    refine g_getR rfl zf_X_10 rfl rfl ?_
    refine g_iload_n rfl rfl ?_
    refine g_iload_n rfl rfl ?_
    refine g_callVP (M' := m_Council_slotOf) (d' := 2) (as := [.int a, .int b]) (rest := [.ref 0]) (ci := 3) (o := 1) rfl ml_X_123 v_Council_slotOf (by decide) rfl (by decide) rfl rfl rfl (Nat.le_of_ble_eq_true rfl) (fun x_ e_ => s_Council_slotOf G a b u x_ e_) (fun q401 e402 b403 => ?_)
    refine g_callVP (M' := m_X_toldOrVoid) (d' := 2) (as := [.int q401]) (rest := []) (ci := 10) (o := 0) rfl ml_X_143 v_X_toldOrVoid (by decide) rfl (by decide) rfl rfl rfl (Nat.le_of_ble_eq_true rfl) (fun x_ e_ => s_X_toldOrVoid G q401 u x_ e_) (fun q404 e405 b406 => ?_)
    exact g_iret rfl (Or.inl rfl) rfl
  · refine zgo_ite (fun c407 => ?_) (fun c407 => ?_)
    · refine g_lswI rfl (by decide +kernel) c407 (off := 51) (by decide +kernel) 2 rfl ?_
      refine g_aload_n rfl rfl ?_
      refine g_aload_n rfl rfl ?_
      refine g_getR rfl zf_X_10 rfl rfl ?_
      refine g_iload_n rfl rfl ?_
      refine g_iload_n rfl rfl ?_
      refine g_callVP (M' := m_Council_slotOf) (d' := 2) (as := [.int a, .int b]) (rest := [.ref 0]) (ci := 3) (o := 1) rfl ml_X_123 v_Council_slotOf (by decide) rfl (by decide) rfl rfl rfl (Nat.le_of_ble_eq_true rfl) (fun x_ e_ => s_Council_slotOf G a b u x_ e_) (fun q408 e409 b410 => ?_)
      refine g_callVP (M' := m_X_toldOrVoid) (d' := 2) (as := [.int q408]) (rest := []) (ci := 10) (o := 0) rfl ml_X_143 v_X_toldOrVoid (by decide) rfl (by decide) rfl rfl rfl (Nat.le_of_ble_eq_true rfl) (fun x_ e_ => s_X_toldOrVoid G q408 u x_ e_) (fun q411 e412 b413 => ?_)
      exact g_iret rfl (Or.inl rfl) rfl
    · refine zgo_ite (fun c414 => ?_) (fun c414 => ?_)
      · refine g_lswI rfl (by decide +kernel) c414 (off := 65) (by decide +kernel) 10 rfl ?_
        refine g_aload_n rfl rfl ?_
        refine g_getR rfl zf_X_10 rfl rfl ?_
        refine g_iload_n rfl rfl ?_
        refine g_callVP (M' := m_Council_isPerson) (d' := 1) (as := [.int a]) (rest := []) (ci := 3) (o := 1) rfl ml_X_146 v_Council_isPerson (by decide) rfl (by decide) rfl rfl rfl (Nat.le_of_ble_eq_true rfl) (fun x_ e_ => s_Council_isPerson G a u x_ e_) (fun q415 e416 b417 => ?_)
        refine g_ifeq rfl (fun c418 => ?_) (fun c418 => ?_)
        · refine g_ldc rfl zk_X_132 ?_
          exact g_iret rfl (Or.inl rfl) rfl
        · refine g_aload_n rfl rfl ?_
          refine g_getR rfl zf_X_10 rfl rfl ?_
          refine g_iload_n rfl rfl ?_
          refine g_callVP (M' := m_Council_feeOf) (d' := 2) (as := [.int a]) (rest := []) (ci := 3) (o := 1) rfl ml_X_149 v_Council_feeOf (by decide) rfl (by decide) rfl rfl rfl (Nat.le_of_ble_eq_true rfl) (fun x_ e_ => s_Council_feeOf G a u x_ e_) (fun q419 e420 b421 => ?_)
          refine g_goto rfl ?_
          exact g_iret rfl (Or.inl rfl) rfl
      · refine zgo_ite (fun c422 => ?_) (fun c422 => ?_)
        · refine g_lswI rfl (by decide +kernel) c422 (off := 90) (by decide +kernel) 22 rfl ?_
          refine g_aload_n rfl rfl ?_
          refine g_aload_n rfl rfl ?_
          refine g_getR rfl zf_X_10 rfl rfl ?_
          refine g_iload_n rfl rfl ?_
          refine g_iconst (v := (2 : Int32)) rfl zic_2 ?_
          refine g_callVP (M' := m_Council_slotOf) (d' := 2) (as := [.int a, .int (2 : Int32)]) (rest := [.ref 0]) (ci := 3) (o := 1) rfl ml_X_123 v_Council_slotOf (by decide) rfl (by decide) rfl rfl rfl (Nat.le_of_ble_eq_true rfl) (fun x_ e_ => s_Council_slotOf G a (2 : Int32) u x_ e_) (fun q423 e424 b425 => ?_)
          refine g_callVP (M' := m_X_toldOrVoid) (d' := 2) (as := [.int q423]) (rest := []) (ci := 10) (o := 0) rfl ml_X_143 v_X_toldOrVoid (by decide) rfl (by decide) rfl rfl rfl (Nat.le_of_ble_eq_true rfl) (fun x_ e_ => s_X_toldOrVoid G q423 u x_ e_) (fun q426 e427 b428 => ?_)
          exact g_iret rfl (Or.inl rfl) rfl
        · refine zgo_ite (fun c429 => ?_) (fun c429 => ?_)
          · refine g_lswI rfl (by decide +kernel) c429 (off := 104) (by decide +kernel) 30 rfl ?_
            refine g_aload_n rfl rfl ?_
            refine g_getR rfl zf_X_10 rfl rfl ?_
            refine g_iload_n rfl rfl ?_
            refine g_callVP (M' := m_Council_isTwo) (d' := 2) (as := [.int a]) (rest := []) (ci := 3) (o := 1) rfl ml_X_112 v_Council_isTwo (by decide) rfl (by decide) rfl rfl rfl (Nat.le_of_ble_eq_true rfl) (fun x_ e_ => s_Council_isTwo G a u x_ e_) (fun q430 e431 b432 => ?_)
            refine g_ifeq rfl (fun c433 => ?_) (fun c433 => ?_)
            · refine g_ldc rfl zk_X_132 ?_
              exact g_iret rfl (Or.inl rfl) rfl
            · refine g_aload_n rfl rfl ?_
              refine g_getR rfl zf_X_10 rfl rfl ?_
              refine g_iload_n rfl rfl ?_
              refine g_bipush (v := (10 : Int32)) rfl zib_10 ?_
              refine g_idiv rfl (by decide) ?_
              refine g_iload_n rfl rfl ?_
              refine g_bipush (v := (10 : Int32)) rfl zib_10 ?_
              refine g_irem rfl (by decide) ?_
              refine g_callVP (M' := m_Council_stepsOf) (d' := 1) (as := [.int (a / (10 : Int32)), .int (zrem a (10 : Int32))]) (rest := []) (ci := 3) (o := 1) rfl ml_X_152 v_Council_stepsOf (by decide) rfl (by decide) rfl rfl rfl (Nat.le_of_ble_eq_true rfl) (fun x_ e_ => s_Council_stepsOf G (a / (10 : Int32)) (zrem a (10 : Int32)) u x_ e_) (fun q434 e435 b436 => ?_)
              refine g_goto rfl ?_
              exact g_iret rfl (Or.inl rfl) rfl
          · refine g_lswD rfl (by decide +kernel) (List.forall_mem_cons.mpr ⟨z_ne c400 rfl, (List.forall_mem_cons.mpr ⟨z_ne c407 rfl, (List.forall_mem_cons.mpr ⟨z_ne c414 rfl, (List.forall_mem_cons.mpr ⟨z_ne c422 rfl, (List.forall_mem_cons.mpr ⟨z_ne c429 rfl, (fun _ h => absurd h List.not_mem_nil)⟩)⟩)⟩)⟩)⟩) 47 rfl ?_
            refine g_ldc rfl zk_X_132 ?_
            exact g_iret rfl (Or.inl rfl) rfl
theorem s_X_of (G : ZG) (a : Int32) (b : Int32) (u : ZSt) (x : Int32) (hx : f_X_of a b u = some x) : ZSpec G m_X_of 3 [.ref 0, .int a, .int b] u ((zemP u) x) :=
  ZSpec.go k_X_of (Nat.le_of_ble_eq_true rfl) (w_X_of G a b u) (tgt := (zemP u) x) (by rw [hx]; rfl)
set_option maxRecDepth 100000 in
set_option maxHeartbeats 4000000 in
theorem wb_M_stepsTo_19 (G : ZG) (l2 : Int32) (l3 : Int32) (l4 : Int32) (l5 : Int32) (l6 : Int32) (u : ZSt) (K : ((Int32 × Int32) ⊕ (Int32 × Int32)) → Option (Value × ZSt)) (hb : ∀ (l5 : Int32) (l6 : Int32), ZGo G m_M_stepsTo 2 (K (.inl (l5, l6))) some 19 [(0, .ref 39), (2, .int l2), (3, .int l3), (4, .int l4), (5, .int l5), (6, .int l6)] [] u) (hx : ∀ (l5 : Int32) (l6 : Int32), ZGo G m_M_stepsTo 2 (K (.inr (l5, l6))) some 38 [(0, .ref 39), (2, .int l2), (4, .int l4), (5, .int l5)] [] u) : ZGo G m_M_stepsTo 2 (b_M_stepsTo_19 l2 l3 l4 l5 l6 u) K 19 [(0, .ref 39), (2, .int l2), (3, .int l3), (4, .int l4), (5, .int l5), (6, .int l6)] [] u := by
  unfold b_M_stepsTo_19
  refine g_iload rfl rfl ?_
  refine g_aload_n rfl rfl ?_
  refine g_getI rfl zf_M_94 rfl rfl rfl ?_
  refine g_icmpge rfl (fun c439 => ?_) (fun c439 => ?_)
  · exact zgo_sub (zsubk [0, 1, 3, 4] rfl) (zgo_leaf (hx l5 l6))
  · refine g_iload rfl rfl ?_
    refine g_iload_n rfl rfl ?_
    refine g_iload rfl rfl ?_
    refine g_callSP (M' := m_M_isIn) (d' := 1) (as := [.int l3, .int l6]) (rest := [.int l5]) rfl ml_M_118 v_M_isIn (by decide) rfl rfl (Nat.le_of_ble_eq_true rfl) (fun x_ e_ => s_M_isIn G l3 l6 u x_ e_) (fun q440 e441 b442 => ?_)
    refine g_ifeq rfl (fun c443 => ?_) (fun c443 => ?_)
    · refine g_iconst (v := (0 : Int32)) rfl zic_0 ?_
      refine g_ior rfl ?_
      refine g_istore (lv' := [(0, .ref 39), (2, .int l2), (3, .int l3), (4, .int l4), (5, .int (l5 ||| (0 : Int32))), (6, .int l6)]) rfl (Nat.le_of_ble_eq_true rfl) rfl rfl ?_
      refine g_iinc (v := (1 : Int32)) (lv' := [(0, .ref 39), (2, .int l2), (3, .int l3), (4, .int l4), (5, .int (l5 ||| (0 : Int32))), (6, .int (l6 + (1 : Int32)))]) rfl rfl zic_1 (Nat.le_of_ble_eq_true rfl) rfl rfl ?_
      refine g_goto rfl ?_
      exact zgo_sub (zsubk [0, 1, 2, 3, 4, 5] rfl) (zgo_leaf (hb (l5 ||| (0 : Int32)) (l6 + (1 : Int32))))
    · refine g_aload_n rfl rfl ?_
      refine g_getR rfl zf_M_25 rfl rfl ?_
      refine g_iload rfl rfl ?_
      refine g_iald rfl rfl (fun o444 => ?_)
      refine g_goto rfl ?_
      refine g_ior rfl ?_
      refine g_istore (lv' := [(0, .ref 39), (2, .int l2), (3, .int l3), (4, .int l4), (5, .int (l5 ||| (u.2.1 45 l6.toNatClampNeg))), (6, .int l6)]) rfl (Nat.le_of_ble_eq_true rfl) rfl rfl ?_
      refine g_iinc (v := (1 : Int32)) (lv' := [(0, .ref 39), (2, .int l2), (3, .int l3), (4, .int l4), (5, .int (l5 ||| (u.2.1 45 l6.toNatClampNeg))), (6, .int (l6 + (1 : Int32)))]) rfl rfl zic_1 (Nat.le_of_ble_eq_true rfl) rfl rfl ?_
      refine g_goto rfl ?_
      exact zgo_sub (zsubk [0, 1, 2, 3, 4, 5] rfl) (zgo_leaf (hb (l5 ||| (u.2.1 45 l6.toNatClampNeg)) (l6 + (1 : Int32))))
set_option maxRecDepth 100000 in
set_option maxHeartbeats 4000000 in
theorem wa_M_stepsTo_19 (G : ZG) (l2 : Int32) (l4 : Int32) (l5 : Int32) (u : ZSt) (K : ((Int32 × Int32) ⊕ ((Int32 × Int32) ⊕ (Int32))) → Option (Value × ZSt)) (hb : ∀ (l3 : Int32) (l4 : Int32), ZGo G m_M_stepsTo 2 (K (.inl (l3, l4))) some 6 [(0, .ref 39), (2, .int l2), (3, .int l3), (4, .int l4)] [] u) (hx : ∀ (l3 : Int32) (l4 : Int32), ZGo G m_M_stepsTo 2 (K (.inr (.inl (l3, l4)))) some 42 [] [] u) (hr : ∀ x, K (.inr (.inr x)) = some ((zemP u) x)) : ZGo G m_M_stepsTo 2 (a_M_stepsTo_19 l2 l4 l5 u) K 38 [(0, .ref 39), (2, .int l2), (4, .int l4), (5, .int l5)] [] u := by
  unfold a_M_stepsTo_19
  refine g_iload rfl rfl ?_
  refine g_istore_n (lv' := [(0, .ref 39), (2, .int l2), (4, .int l4), (5, .int l5), (3, .int l5)]) rfl (Nat.le_of_ble_eq_true rfl) rfl rfl ?_
  refine g_iinc (v := (1 : Int32)) (lv' := [(0, .ref 39), (2, .int l2), (4, .int (l4 + (1 : Int32))), (5, .int l5), (3, .int l5)]) rfl rfl zic_1 (Nat.le_of_ble_eq_true rfl) rfl rfl ?_
  refine g_goto rfl ?_
  exact zgo_sub (zsubk [0, 1, 4, 2] rfl) (zgo_leaf (hb l5 (l4 + (1 : Int32))))
set_option maxRecDepth 100000 in
set_option maxHeartbeats 4000000 in
theorem wb_M_stepsTo_6 (G : ZG) (l2 : Int32) (l3 : Int32) (l4 : Int32) (u : ZSt) (K : ((Int32 × Int32) ⊕ ((Int32 × Int32) ⊕ (Int32))) → Option (Value × ZSt)) (hb : ∀ (l3 : Int32) (l4 : Int32), ZGo G m_M_stepsTo 2 (K (.inl (l3, l4))) some 6 [(0, .ref 39), (2, .int l2), (3, .int l3), (4, .int l4)] [] u) (hx : ∀ (l3 : Int32) (l4 : Int32), ZGo G m_M_stepsTo 2 (K (.inr (.inl (l3, l4)))) some 42 [] [] u) (hr : ∀ x, K (.inr (.inr x)) = some ((zemP u) x)) : ZGo G m_M_stepsTo 2 (b_M_stepsTo_6 l2 l3 l4 u) K 6 [(0, .ref 39), (2, .int l2), (3, .int l3), (4, .int l4)] [] u := by
  unfold b_M_stepsTo_6
  refine g_iload rfl rfl ?_
  refine g_bipush (v := (9 : Int32)) rfl zib_9 ?_
  refine g_icmpge rfl (fun c437 => ?_) (fun c437 => ?_)
  · exact zgo_sub (zsubk [] rfl) (zgo_leaf (hx l3 l4))
  · refine g_iload_n rfl rfl ?_
    refine g_iload_n rfl rfl ?_
    refine g_iand rfl ?_
    refine g_ifeq rfl (fun c438 => ?_) (fun c438 => ?_)
    · refine g_iload_n rfl rfl ?_
      refine g_istore (lv' := [(0, .ref 39), (2, .int l2), (3, .int l3), (4, .int l4), (5, .int l3)]) rfl (Nat.le_of_ble_eq_true rfl) rfl rfl ?_
      refine g_iconst (v := (0 : Int32)) rfl zic_0 ?_
      refine g_istore (lv' := [(0, .ref 39), (2, .int l2), (3, .int l3), (4, .int l4), (5, .int l3), (6, .int (0 : Int32))]) rfl (Nat.le_of_ble_eq_true rfl) rfl rfl ?_
      refine zgo_sub (lv' := [(0, .ref 39), (2, .int l2), (3, .int l3), (4, .int l4), (5, .int l3), (6, .int (0 : Int32))]) (zsubk [0, 1, 2, 3, 4, 5] rfl) ?_
      refine zgo_loop (σ := Int32 × Int32) (lvf := fun s => [(0, .ref 39), (2, .int l2), (3, .int l3), (4, .int l4), (5, .int s.1), (6, .int s.2)]) (uf := (fun _ => u)) ?_ zfu _
      intro s K' ih he
      refine wb_M_stepsTo_19 G l2 l3 l4 s.1 s.2 u K' ?_ ?_
      · intro c0 c1
        exact ih (c0, c1)
      · intro c0 c1
        rw [he]
        exact zgo_unleaf (wa_M_stepsTo_19 G l2 l4 c0 u K hb hx hr)
    · refine g_iload rfl rfl ?_
      exact g_iret rfl (Or.inl rfl) (hr _)
