/-! by program (gen3.py): each method does what its function says -/
set_option maxRecDepth 100000 in
set_option maxHeartbeats 4000000 in
theorem wa_M_stepsTo_6 (G : ZG) (u : ZSt) : ZGo G m_M_stepsTo 2 (a_M_stepsTo_6 u) (zkP u) 42 [] [] u := by
  unfold a_M_stepsTo_6
  refine g_bipush (v := (9 : Int32)) rfl zib_9 ?_
  exact g_iret rfl (Or.inl rfl) rfl
set_option maxRecDepth 100000 in
set_option maxHeartbeats 4000000 in
theorem w_M_stepsTo (G : ZG) (a : Int32) (b : Int32) (u : ZSt) : ZGo G m_M_stepsTo 2 (f_M_stepsTo a b u) (zkP u) 0 [(0, .ref 39), (1, .int a), (2, .int b)] [] u := by
  unfold f_M_stepsTo
  refine g_iconst (v := (1 : Int32)) rfl zic_1 ?_
  refine g_iload_n rfl rfl ?_
  refine g_ishl rfl ?_
  refine g_istore_n (lv' := [(0, .ref 39), (1, .int a), (2, .int b), (3, .int ((1 : Int32) <<< (a &&& 31)))]) rfl (Nat.le_of_ble_eq_true rfl) rfl rfl ?_
  refine g_iconst (v := (0 : Int32)) rfl zic_0 ?_
  refine g_istore (lv' := [(0, .ref 39), (1, .int a), (2, .int b), (3, .int ((1 : Int32) <<< (a &&& 31))), (4, .int (0 : Int32))]) rfl (Nat.le_of_ble_eq_true rfl) rfl rfl ?_
  refine zgo_sub (lv' := [(0, .ref 39), (2, .int b), (3, .int ((1 : Int32) <<< (a &&& 31))), (4, .int (0 : Int32))]) (zsubk [0, 2, 3, 4] rfl) ?_
  refine zgo_loop (σ := Int32 × Int32) (lvf := fun s => [(0, .ref 39), (2, .int b), (3, .int s.1), (4, .int s.2)]) (uf := (fun _ => u)) ?_ zfu _
  intro s K' ih he
  refine wb_M_stepsTo_6 G b s.1 s.2 u K' ?_ ?_ ?_
  · intro c0 c1
    exact ih (c0, c1)
  · intro c0 c1
    rw [he]
    exact zgo_unleaf (wa_M_stepsTo_6 G  u)
  · intro x
    exact (he _).trans rfl
theorem s_M_stepsTo (G : ZG) (a : Int32) (b : Int32) (u : ZSt) (x : Int32) (hx : f_M_stepsTo a b u = some x) : ZSpec G m_M_stepsTo 2 [.ref 39, .int a, .int b] u ((zemP u) x) :=
  ZSpec.go k_M_stepsTo (Nat.le_of_ble_eq_true rfl) (w_M_stepsTo G a b u) (tgt := (zemP u) x) (by rw [hx]; rfl)
set_option maxRecDepth 100000 in
set_option maxHeartbeats 4000000 in
theorem w_M_of (G : ZG) (a : Int32) (b : Int32) (u : ZSt) : ZGo G m_M_of 4 (f_M_of a b u) (zkP u) 0 [(0, .ref 39), (1, .int a), (2, .int b)] [] u := by
  unfold f_M_of
  refine g_iload_n rfl rfl ?_
  refine zgo_ite (fun c445 => ?_) (fun c445 => ?_)
  · refine g_lswI rfl (by decide +kernel) c445 (off := 51) (by decide +kernel) 2 rfl ?_
    refine g_aload_n rfl rfl ?_
    refine g_iload_n rfl rfl ?_
    refine g_callVP (M' := m_M_isPm) (d' := 3) (as := [.int a]) (rest := []) (ci := 11) (o := 39) rfl ml_M_125 v_M_isPm (by decide) rfl (by decide) rfl rfl rfl (Nat.le_of_ble_eq_true rfl) (fun x_ e_ => s_M_isPm G a u x_ e_) (fun q446 e447 b448 => ?_)
    refine g_ifeq rfl (fun c449 => ?_) (fun c449 => ?_)
    · refine g_ldc rfl zk_M_135 ?_
      exact g_iret rfl (Or.inl rfl) rfl
    · refine g_aload_n rfl rfl ?_
      refine g_getR rfl zf_M_9 rfl rfl ?_
      refine g_iload_n rfl rfl ?_
      refine g_bipush (v := (10 : Int32)) rfl zib_10 ?_
      refine g_idiv rfl (by decide) ?_
      refine g_iload_n rfl rfl ?_
      refine g_bipush (v := (10 : Int32)) rfl zib_10 ?_
      refine g_irem rfl (by decide) ?_
      refine g_callSP (M' := m_M_placeOf) (d' := 1) (as := [.int (a / (10 : Int32)), .int (zrem a (10 : Int32))]) (rest := [.ref 40]) rfl ml_M_128 v_M_placeOf (by decide) rfl rfl (Nat.le_of_ble_eq_true rfl) (fun x_ e_ => s_M_placeOf G (a / (10 : Int32)) (zrem a (10 : Int32)) u x_ e_) (fun q450 e451 b452 => ?_)
      refine g_iald rfl rfl (fun o453 => ?_)
      refine g_goto rfl ?_
      exact g_iret rfl (Or.inl rfl) rfl
  · refine zgo_ite (fun c454 => ?_) (fun c454 => ?_)
    · refine g_lswI rfl (by decide +kernel) c454 (off := 81) (by decide +kernel) 19 rfl ?_
      refine g_aload_n rfl rfl ?_
      refine g_iload_n rfl rfl ?_
      refine g_callVP (M' := m_M_isPm) (d' := 3) (as := [.int a]) (rest := []) (ci := 11) (o := 39) rfl ml_M_125 v_M_isPm (by decide) rfl (by decide) rfl rfl rfl (Nat.le_of_ble_eq_true rfl) (fun x_ e_ => s_M_isPm G a u x_ e_) (fun q455 e456 b457 => ?_)
      refine g_ifeq rfl (fun c458 => ?_) (fun c458 => ?_)
      · refine g_ldc rfl zk_M_135 ?_
        exact g_iret rfl (Or.inl rfl) rfl
      · refine g_aload_n rfl rfl ?_
        refine g_getR rfl zf_M_9 rfl rfl ?_
        refine g_bipush (v := (60 : Int32)) rfl zib_60 ?_
        refine g_iload_n rfl rfl ?_
        refine g_bipush (v := (10 : Int32)) rfl zib_10 ?_
        refine g_idiv rfl (by decide) ?_
        refine g_iload_n rfl rfl ?_
        refine g_bipush (v := (10 : Int32)) rfl zib_10 ?_
        refine g_irem rfl (by decide) ?_
        refine g_callSP (M' := m_M_placeOf) (d' := 1) (as := [.int (a / (10 : Int32)), .int (zrem a (10 : Int32))]) (rest := [.int (60 : Int32), .ref 40]) rfl ml_M_128 v_M_placeOf (by decide) rfl rfl (Nat.le_of_ble_eq_true rfl) (fun x_ e_ => s_M_placeOf G (a / (10 : Int32)) (zrem a (10 : Int32)) u x_ e_) (fun q459 e460 b461 => ?_)
        refine g_iadd rfl ?_
        refine g_iald rfl rfl (fun o462 => ?_)
        refine g_goto rfl ?_
        exact g_iret rfl (Or.inl rfl) rfl
    · refine zgo_ite (fun c463 => ?_) (fun c463 => ?_)
      · refine g_lswI rfl (by decide +kernel) c463 (off := 114) (by decide +kernel) 38 rfl ?_
        refine g_aload_n rfl rfl ?_
        refine g_iload_n rfl rfl ?_
        refine g_callVP (M' := m_M_isPerson) (d' := 2) (as := [.int a]) (rest := []) (ci := 11) (o := 39) rfl ml_M_104 v_M_isPerson (by decide) rfl (by decide) rfl rfl rfl (Nat.le_of_ble_eq_true rfl) (fun x_ e_ => s_M_isPerson G a u x_ e_) (fun q464 e465 b466 => ?_)
        refine g_ifeq rfl (fun c467 => ?_) (fun c467 => ?_)
        · refine g_ldc rfl zk_M_135 ?_
          exact g_iret rfl (Or.inl rfl) rfl
        · refine g_aload_n rfl rfl ?_
          refine g_getR rfl zf_M_22 rfl rfl ?_
          refine g_iload_n rfl rfl ?_
          refine g_iald rfl rfl (fun o468 => ?_)
          refine g_goto rfl ?_
          exact g_iret rfl (Or.inl rfl) rfl
      · refine zgo_ite (fun c469 => ?_) (fun c469 => ?_)
        · refine g_lswI rfl (by decide +kernel) c469 (off := 134) (by decide +kernel) 49 rfl ?_
          refine g_aload_n rfl rfl ?_
          refine g_iload_n rfl rfl ?_
          refine g_callVP (M' := m_M_isMatter) (d' := 2) (as := [.int a]) (rest := []) (ci := 11) (o := 39) rfl ml_M_108 v_M_isMatter (by decide) rfl (by decide) rfl rfl rfl (Nat.le_of_ble_eq_true rfl) (fun x_ e_ => s_M_isMatter G a u x_ e_) (fun q470 e471 b472 => ?_)
          refine g_ifeq rfl (fun c473 => ?_) (fun c473 => ?_)
          · refine g_ldc rfl zk_M_135 ?_
            exact g_iret rfl (Or.inl rfl) rfl
          · refine g_aload_n rfl rfl ?_
            refine g_getR rfl zf_M_9 rfl rfl ?_
            refine g_bipush (v := (120 : Int32)) rfl zib_120 ?_
            refine g_iload_n rfl rfl ?_
            refine g_iadd rfl ?_
            refine g_iald rfl rfl (fun o474 => ?_)
            refine g_goto rfl ?_
            exact g_iret rfl (Or.inl rfl) rfl
        · refine zgo_ite (fun c475 => ?_) (fun c475 => ?_)
          · refine g_lswI rfl (by decide +kernel) c475 (off := 157) (by decide +kernel) 62 rfl ?_
            refine g_iload_n rfl rfl ?_
            refine g_iflt rfl (fun c476 => ?_) (fun c476 => ?_)
            · refine g_ldc rfl zk_M_135 ?_
              exact g_iret rfl (Or.inl rfl) rfl
            · refine g_aload_n rfl rfl ?_
              refine g_iload_n rfl rfl ?_
              refine g_bipush (v := (10 : Int32)) rfl zib_10 ?_
              refine g_idiv rfl (by decide) ?_
              refine g_callVP (M' := m_M_isPerson) (d' := 2) (as := [.int (a / (10 : Int32))]) (rest := []) (ci := 11) (o := 39) rfl ml_M_104 v_M_isPerson (by decide) rfl (by decide) rfl rfl rfl (Nat.le_of_ble_eq_true rfl) (fun x_ e_ => s_M_isPerson G (a / (10 : Int32)) u x_ e_) (fun q477 e478 b479 => ?_)
              refine g_ifeq rfl (fun c480 => ?_) (fun c480 => ?_)
              · refine g_ldc rfl zk_M_135 ?_
                exact g_iret rfl (Or.inl rfl) rfl
              · refine g_aload_n rfl rfl ?_
                refine g_iload_n rfl rfl ?_
                refine g_bipush (v := (10 : Int32)) rfl zib_10 ?_
                refine g_irem rfl (by decide) ?_
                refine g_callVP (M' := m_M_isPerson) (d' := 2) (as := [.int (zrem a (10 : Int32))]) (rest := []) (ci := 11) (o := 39) rfl ml_M_104 v_M_isPerson (by decide) rfl (by decide) rfl rfl rfl (Nat.le_of_ble_eq_true rfl) (fun x_ e_ => s_M_isPerson G (zrem a (10 : Int32)) u x_ e_) (fun q481 e482 b483 => ?_)
                refine g_ifeq rfl (fun c484 => ?_) (fun c484 => ?_)
                · refine g_ldc rfl zk_M_135 ?_
                  exact g_iret rfl (Or.inl rfl) rfl
                · refine g_aload_n rfl rfl ?_
                  refine g_iload_n rfl rfl ?_
                  refine g_bipush (v := (10 : Int32)) rfl zib_10 ?_
                  refine g_idiv rfl (by decide) ?_
                  refine g_iconst (v := (1 : Int32)) rfl zic_1 ?_
                  refine g_iload_n rfl rfl ?_
                  refine g_bipush (v := (10 : Int32)) rfl zib_10 ?_
                  refine g_irem rfl (by decide) ?_
                  refine g_ishl rfl ?_
                  refine g_callVP (M' := m_M_stepsTo) (d' := 2) (as := [.int (a / (10 : Int32)), .int ((1 : Int32) <<< ((zrem a (10 : Int32)) &&& 31))]) (rest := []) (ci := 11) (o := 39) rfl ml_M_144 v_M_stepsTo (by decide) rfl (by decide) rfl rfl rfl (Nat.le_of_ble_eq_true rfl) (fun x_ e_ => s_M_stepsTo G (a / (10 : Int32)) ((1 : Int32) <<< ((zrem a (10 : Int32)) &&& 31)) u x_ e_) (fun q485 e486 b487 => ?_)
                  refine g_goto rfl ?_
                  exact g_iret rfl (Or.inl rfl) rfl
          · refine g_lswD rfl (by decide +kernel) (List.forall_mem_cons.mpr ⟨z_ne c445 rfl, (List.forall_mem_cons.mpr ⟨z_ne c454 rfl, (List.forall_mem_cons.mpr ⟨z_ne c463 rfl, (List.forall_mem_cons.mpr ⟨z_ne c469 rfl, (List.forall_mem_cons.mpr ⟨z_ne c475 rfl, (fun _ h => absurd h List.not_mem_nil)⟩)⟩)⟩)⟩)⟩) 89 rfl ?_
            refine g_ldc rfl zk_M_135 ?_
            exact g_iret rfl (Or.inl rfl) rfl
theorem s_M_of (G : ZG) (a : Int32) (b : Int32) (u : ZSt) (x : Int32) (hx : f_M_of a b u = some x) : ZSpec G m_M_of 4 [.ref 39, .int a, .int b] u ((zemP u) x) :=
  ZSpec.go k_M_of (Nat.le_of_ble_eq_true rfl) (w_M_of G a b u) (tgt := (zemP u) x) (by rw [hx]; rfl)
set_option maxRecDepth 100000 in
set_option maxHeartbeats 4000000 in
theorem w_Reader_take (G : ZG) (a : Int32) (u : ZSt) : ZGo G m_Reader_take 1 (f_Reader_take a u) zkI 0 [(0, .ref 9), (1, .int a)] [] u := by
  unfold f_Reader_take
  refine g_aload_n rfl rfl ?_
  refine g_getI rfl zf_Reader_22 rfl rfl rfl ?_
  refine g_bipush (v := (120 : Int32)) rfl zib_120 ?_
  refine g_icmplt rfl (fun c488 => ?_) (fun c488 => ?_)
  · refine g_aload_n rfl rfl ?_
    refine g_getR rfl zf_Reader_11 rfl rfl ?_
    refine g_aload_n rfl rfl ?_
    refine g_getI rfl zf_Reader_22 rfl rfl rfl ?_
    refine g_iload_n rfl rfl ?_
    refine g_iast rfl rfl (fun o489 => ?_)
    refine g_aload_n rfl rfl ?_
    refine g_dup rfl rfl ?_
    refine g_getIx (x := u.1 902) rfl zf_Reader_22 rfl rfl rfl rfl ?_
    refine g_iconst (v := (1 : Int32)) rfl zic_1 ?_
    refine g_iadd rfl ?_
    refine g_put (j := 902) rfl zf_Reader_22 rfl rfl zp_6_2.1 (Or.inl zp_6_2.2) rfl ?_
    refine g_aload_n rfl rfl ?_
    refine g_getIx (x := ((u.1 902) + (1 : Int32))) rfl zf_Reader_22 rfl rfl rfl rfl ?_
    exact g_iret rfl (Or.inl rfl) rfl
  · refine g_bipush (v := (-3 : Int32)) rfl zib_m3 ?_
    exact g_iret rfl (Or.inl rfl) rfl
theorem s_Reader_take (G : ZG) (a : Int32) (u : ZSt) (x : Int32 × ZSt) (hx : f_Reader_take a u = some x) : ZSpec G m_Reader_take 1 [.ref 9, .int a] u (zemI x) :=
  ZSpec.go k_Reader_take (Nat.le_of_ble_eq_true rfl) (w_Reader_take G a u) (tgt := zemI x) (by rw [hx]; rfl)
set_option maxRecDepth 100000 in
set_option maxHeartbeats 4000000 in
theorem w_X_feed (G : ZG) (a : Int32) (u : ZSt) : ZGo G m_X_feed 2 (f_X_feed a u) zkI 0 [(0, .ref 0), (1, .int a)] [] u := by
  unfold f_X_feed
  refine g_iload_n rfl rfl ?_
  refine g_iflt rfl (fun c490 => ?_) (fun c490 => ?_)
  · refine g_iconst (v := (-1 : Int32)) rfl zic_m1 ?_
    exact g_iret rfl (Or.inl rfl) rfl
  · refine g_iload_n rfl rfl ?_
    refine g_sipush (v := (255 : Int32)) rfl zis_255 ?_
    refine g_icmple rfl (fun c491 => ?_) (fun c491 => ?_)
    · refine g_aload_n rfl rfl ?_
      refine g_getR rfl zf_X_28 rfl rfl ?_
      refine g_iload_n rfl rfl ?_
      refine g_callVI (M' := m_Reader_take) (d' := 1) (as := [.int a]) (rest := []) (ci := 6) (o := 9) rfl ml_X_158 v_Reader_take (by decide) rfl (by decide) rfl rfl rfl (Nat.le_of_ble_eq_true rfl) (fun x_ e_ => s_Reader_take G a u x_ e_) (fun q492r q492u e493 b494 => ?_)
      exact g_iret rfl (Or.inl rfl) rfl
    · refine g_iconst (v := (-1 : Int32)) rfl zic_m1 ?_
      exact g_iret rfl (Or.inl rfl) rfl
theorem s_X_feed (G : ZG) (a : Int32) (u : ZSt) (x : Int32 × ZSt) (hx : f_X_feed a u = some x) : ZSpec G m_X_feed 2 [.ref 0, .int a] u (zemI x) :=
  ZSpec.go k_X_feed (Nat.le_of_ble_eq_true rfl) (w_X_feed G a u) (tgt := zemI x) (by rw [hx]; rfl)
set_option maxRecDepth 100000 in
set_option maxHeartbeats 4000000 in
theorem w_M_feed (G : ZG) (a : Int32) (u : ZSt) : ZGo G m_M_feed 2 (f_M_feed a u) zkI 0 [(0, .ref 39), (1, .int a)] [] u := by
  unfold f_M_feed
  refine g_iload_n rfl rfl ?_
  refine g_i2l rfl ?_
  refine g_lconst (v := (0 : Int64)) rfl rfl ?_
  refine g_ldc2 rfl zk_M_147 ?_
  refine g_callSP (M' := m_M_within) (d' := 1) (as := [.long a.toInt64, .long (0 : Int64), .long (255 : Int64)]) (rest := []) rfl ml_M_97 v_M_within (by decide) rfl rfl (Nat.le_of_ble_eq_true rfl) (fun x_ e_ => s_M_within G a.toInt64 (0 : Int64) (255 : Int64) u x_ e_) (fun q495 e496 b497 => ?_)
  refine g_ifne rfl (fun c498 => ?_) (fun c498 => ?_)
  · refine g_aload_n rfl rfl ?_
    refine g_getI rfl zf_M_149 rfl rfl rfl ?_
    refine g_bipush (v := (120 : Int32)) rfl zib_120 ?_
    refine g_icmpne rfl (fun c499 => ?_) (fun c499 => ?_)
    · refine g_aload_n rfl rfl ?_
      refine g_getR rfl zf_M_28 rfl rfl ?_
      refine g_aload_n rfl rfl ?_
      refine g_getI rfl zf_M_149 rfl rfl rfl ?_
      refine g_iload_n rfl rfl ?_
      refine g_iast rfl rfl (fun o500 => ?_)
      refine g_aload_n rfl rfl ?_
      refine g_dup rfl rfl ?_
      refine g_getIx (x := u.1 3914) rfl zf_M_149 rfl rfl rfl rfl ?_
      refine g_iconst (v := (1 : Int32)) rfl zic_1 ?_
      refine g_iadd rfl ?_
      refine g_put (j := 3914) rfl zf_M_149 rfl rfl zp_11_14.1 (Or.inl zp_11_14.2) rfl ?_
      refine g_aload_n rfl rfl ?_
      refine g_getIx (x := ((u.1 3914) + (1 : Int32))) rfl zf_M_149 rfl rfl rfl rfl ?_
      exact g_iret rfl (Or.inl rfl) rfl
    · refine g_bipush (v := (-3 : Int32)) rfl zib_m3 ?_
      exact g_iret rfl (Or.inl rfl) rfl
  · refine g_iconst (v := (-1 : Int32)) rfl zic_m1 ?_
    exact g_iret rfl (Or.inl rfl) rfl
theorem s_M_feed (G : ZG) (a : Int32) (u : ZSt) (x : Int32 × ZSt) (hx : f_M_feed a u = some x) : ZSpec G m_M_feed 2 [.ref 39, .int a] u (zemI x) :=
  ZSpec.go k_M_feed (Nat.le_of_ble_eq_true rfl) (w_M_feed G a u) (tgt := zemI x) (by rw [hx]; rfl)
set_option maxRecDepth 100000 in
set_option maxHeartbeats 4000000 in
theorem w_Code_emptyD (G : ZG) (u : ZSt) : ZGo G m_Code_empty 1 (f_Code_emptyD u) zkV 0 [(0, .ref 11)] [] u := by
  unfold f_Code_emptyD
  refine g_aload_n rfl rfl ?_
  refine g_iconst (v := (0 : Int32)) rfl zic_0 ?_
  refine g_put (j := 1103) rfl zf_Code_19 rfl rfl zp_2_3.1 (Or.inl zp_2_3.2) rfl ?_
  exact g_vret rfl rfl rfl
theorem s_Code_emptyD (G : ZG) (u : ZSt) (x : ZSt) (hx : f_Code_emptyD u = some x) : ZSpec G m_Code_empty 1 [.ref 11] u (zemV x) :=
  ZSpec.go k_Code_empty (Nat.le_of_ble_eq_true rfl) (w_Code_emptyD G u) (tgt := zemV x) (by rw [hx]; rfl)
set_option maxRecDepth 100000 in
set_option maxHeartbeats 4000000 in
theorem w_Reader_next (G : ZG) (u : ZSt) : ZGo G m_Reader_next 1 (f_Reader_next u) (zkP u) 0 [(0, .ref 9)] [] u := by
  unfold f_Reader_next
  refine g_aload_n rfl rfl ?_
  refine g_getI rfl zf_Reader_26 rfl rfl rfl ?_
  refine g_iflt rfl (fun c501 => ?_) (fun c501 => ?_)
  · refine g_iconst (v := (-1 : Int32)) rfl zic_m1 ?_
    exact g_iret rfl (Or.inl rfl) rfl
  · refine g_aload_n rfl rfl ?_
    refine g_getI rfl zf_Reader_26 rfl rfl rfl ?_
    refine g_aload_n rfl rfl ?_
    refine g_getI rfl zf_Reader_22 rfl rfl rfl ?_
    refine g_icmpge rfl (fun c502 => ?_) (fun c502 => ?_)
    · refine g_iconst (v := (-1 : Int32)) rfl zic_m1 ?_
      exact g_iret rfl (Or.inl rfl) rfl
    · refine g_aload_n rfl rfl ?_
      refine g_getI rfl zf_Reader_26 rfl rfl rfl ?_
      refine g_bipush (v := (120 : Int32)) rfl zib_120 ?_
      refine g_icmpge rfl (fun c503 => ?_) (fun c503 => ?_)
      · refine g_iconst (v := (-1 : Int32)) rfl zic_m1 ?_
        exact g_iret rfl (Or.inl rfl) rfl
      · refine g_aload_n rfl rfl ?_
        refine g_getR rfl zf_Reader_11 rfl rfl ?_
        refine g_aload_n rfl rfl ?_
        refine g_getI rfl zf_Reader_26 rfl rfl rfl ?_
        refine g_iald rfl rfl (fun o504 => ?_)
        refine g_goto rfl ?_
        exact g_iret rfl (Or.inl rfl) rfl
theorem s_Reader_next (G : ZG) (u : ZSt) (x : Int32) (hx : f_Reader_next u = some x) : ZSpec G m_Reader_next 1 [.ref 9] u ((zemP u) x) :=
  ZSpec.go k_Reader_next (Nat.le_of_ble_eq_true rfl) (w_Reader_next G u) (tgt := (zemP u) x) (by rw [hx]; rfl)
set_option maxRecDepth 100000 in
set_option maxHeartbeats 4000000 in
theorem w_Code_addD (G : ZG) (a : Int32) (b : Int32) (u : ZSt) : ZGo G m_Code_add 1 (f_Code_addD a b u) zkV 0 [(0, .ref 11), (1, .int a), (2, .int b)] [] u := by
  unfold f_Code_addD
  refine g_aload_n rfl rfl ?_
  refine g_getI rfl zf_Code_19 rfl rfl rfl ?_
  refine g_sipush (v := (128 : Int32)) rfl zis_128 ?_
  refine g_icmpge rfl (fun c505 => ?_) (fun c505 => ?_)
  · exact g_vret rfl rfl rfl
  · refine g_aload_n rfl rfl ?_
    refine g_getR rfl zf_Code_9 rfl rfl ?_
    refine g_aload_n rfl rfl ?_
    refine g_getI rfl zf_Code_19 rfl rfl rfl ?_
    refine g_iload_n rfl rfl ?_
    refine g_iast rfl rfl (fun o507 => ?_)
    refine g_aload_n rfl rfl ?_
    refine g_getR rfl zf_Code_13 rfl rfl ?_
    refine g_aload_n rfl rfl ?_
    refine g_getIx (x := u.1 1103) rfl zf_Code_19 rfl rfl rfl rfl ?_
    refine g_iload_n rfl rfl ?_
    refine g_iast rfl rfl (fun o506 => ?_)
    refine g_aload_n rfl rfl ?_
    refine g_dup rfl rfl ?_
    refine g_getIx (x := u.1 1103) rfl zf_Code_19 rfl rfl rfl rfl ?_
    refine g_iconst (v := (1 : Int32)) rfl zic_1 ?_
    refine g_iadd rfl ?_
    refine g_put (j := 1103) rfl zf_Code_19 rfl rfl zp_2_3.1 (Or.inl zp_2_3.2) rfl ?_
    exact g_vret rfl rfl rfl
theorem s_Code_addD (G : ZG) (a : Int32) (b : Int32) (u : ZSt) (x : ZSt) (hx : f_Code_addD a b u = some x) : ZSpec G m_Code_add 1 [.ref 11, .int a, .int b] u (zemV x) :=
  ZSpec.go k_Code_add (Nat.le_of_ble_eq_true rfl) (w_Code_addD G a b u) (tgt := zemV x) (by rw [hx]; rfl)
set_option maxRecDepth 100000 in
set_option maxHeartbeats 4000000 in
theorem w_Reader_isDigit (G : ZG) (a : Int32) (u : ZSt) : ZGo G m_Reader_isDigit 1 (f_Reader_isDigit a) (zkP u) 0 [(0, .int a)] [] u := by
  unfold f_Reader_isDigit
  refine g_iload_n rfl rfl ?_
  refine g_bipush (v := (48 : Int32)) rfl zib_48 ?_
  refine g_icmplt rfl (fun c508 => ?_) (fun c508 => ?_)
  · refine g_iconst (v := (0 : Int32)) rfl zic_0 ?_
    exact g_iret rfl (Or.inr ⟨rfl, Or.inl rfl⟩) rfl
  · refine g_iload_n rfl rfl ?_
    refine g_bipush (v := (57 : Int32)) rfl zib_57 ?_
    refine g_icmpgt rfl (fun c509 => ?_) (fun c509 => ?_)
    · refine g_iconst (v := (0 : Int32)) rfl zic_0 ?_
      exact g_iret rfl (Or.inr ⟨rfl, Or.inl rfl⟩) rfl
    · refine g_iconst (v := (1 : Int32)) rfl zic_1 ?_
      refine g_goto rfl ?_
      exact g_iret rfl (Or.inr ⟨rfl, Or.inr rfl⟩) rfl
theorem s_Reader_isDigit (G : ZG) (a : Int32) (u : ZSt) (x : Int32) (hx : f_Reader_isDigit a = some x) : ZSpec G m_Reader_isDigit 1 [.int a] u ((zemP u) x) :=
  ZSpec.go k_Reader_isDigit (Nat.le_of_ble_eq_true rfl) (w_Reader_isDigit G a u) (tgt := (zemP u) x) (by rw [hx]; rfl)
set_option maxRecDepth 100000 in
set_option maxHeartbeats 4000000 in
theorem wb_Reader_readNumber_4 (G : ZG) (l1 : Int32) (l2 : Int32) (u : ZSt) (K : ((Int32 × Int32 × ZSt) ⊕ (Int32 × Int32 × ZSt)) → Option (Value × ZSt)) (hb : ∀ (l1 : Int32) (l2 : Int32) (u : ZSt), ZGo G m_Reader_readNumber 2 (K (.inl (l1, l2, u))) some 4 [(0, .ref 9), (1, .int l1), (2, .int l2)] [] u) (hx : ∀ (l1 : Int32) (l2 : Int32) (u : ZSt), ZGo G m_Reader_readNumber 2 (K (.inr (l1, l2, u))) some 28 [(0, .ref 9), (1, .int l1)] [] u) : ZGo G m_Reader_readNumber 2 (b_Reader_readNumber_4 l1 l2 u) K 4 [(0, .ref 9), (1, .int l1), (2, .int l2)] [] u := by
  unfold b_Reader_readNumber_4
  refine g_iload_n rfl rfl ?_
  refine g_iconst (v := (4 : Int32)) rfl zic_4 ?_
  refine g_icmpge rfl (fun c510 => ?_) (fun c510 => ?_)
  · exact zgo_sub (zsubk [0, 1] rfl) (zgo_leaf (hx l1 l2 u))
  · refine g_aload_n rfl rfl ?_
    refine g_callVP (M' := m_Reader_next) (d' := 1) (as := []) (rest := []) (ci := 6) (o := 9) rfl ml_Reader_36 v_Reader_next (by decide) rfl (by decide) rfl rfl rfl (Nat.le_of_ble_eq_true rfl) (fun x_ e_ => s_Reader_next G  u x_ e_) (fun q511 e512 b513 => ?_)
    refine g_callSP (M' := m_Reader_isDigit) (d' := 1) (as := [.int q511]) (rest := []) rfl ml_Reader_59 v_Reader_isDigit (by decide) rfl rfl (Nat.le_of_ble_eq_true rfl) (fun x_ e_ => s_Reader_isDigit G q511 u x_ e_) (fun q514 e515 b516 => ?_)
    refine g_ifeq rfl (fun c517 => ?_) (fun c517 => ?_)
    · exact zgo_sub (zsubk [0, 1] rfl) (zgo_leaf (hx l1 l2 u))
    · refine g_bipush (v := (10 : Int32)) rfl zib_10 ?_
      refine g_iload_n rfl rfl ?_
      refine g_imul rfl ?_
      refine g_aload_n rfl rfl ?_
      refine g_callVP (M' := m_Reader_next) (d' := 1) (as := []) (rest := [.int ((10 : Int32) * l1)]) (ci := 6) (o := 9) rfl ml_Reader_36 v_Reader_next (by decide) rfl (by decide) rfl rfl rfl (Nat.le_of_ble_eq_true rfl) (fun x_ e_ => s_Reader_next G  u x_ e_) (fun q518 e519 b520 => ?_)
      refine g_iadd rfl ?_
      refine g_bipush (v := (48 : Int32)) rfl zib_48 ?_
      refine g_isub rfl ?_
      refine g_istore_n (lv' := [(0, .ref 9), (1, .int ((((10 : Int32) * l1) + q518) - (48 : Int32))), (2, .int l2)]) rfl (Nat.le_of_ble_eq_true rfl) rfl rfl ?_
      refine g_aload_n rfl rfl ?_
      refine g_dup rfl rfl ?_
      refine g_getI rfl zf_Reader_26 rfl rfl rfl ?_
      refine g_iconst (v := (1 : Int32)) rfl zic_1 ?_
      refine g_iadd rfl ?_
      refine g_put (j := 903) rfl zf_Reader_26 rfl rfl zp_6_3.1 (Or.inl zp_6_3.2) rfl ?_
      refine g_iinc (v := (1 : Int32)) (lv' := [(0, .ref 9), (1, .int ((((10 : Int32) * l1) + q518) - (48 : Int32))), (2, .int (l2 + (1 : Int32)))]) rfl rfl zic_1 (Nat.le_of_ble_eq_true rfl) rfl rfl ?_
      refine g_goto rfl ?_
      exact zgo_sub (zsubk [0, 1, 2] rfl) (zgo_leaf (hb ((((10 : Int32) * l1) + q518) - (48 : Int32)) (l2 + (1 : Int32)) (zs u 903 ((u.1 903) + (1 : Int32)))))
set_option maxRecDepth 100000 in
set_option maxHeartbeats 4000000 in
theorem wa_Reader_readNumber_4 (G : ZG) (l1 : Int32) (u : ZSt) : ZGo G m_Reader_readNumber 2 (a_Reader_readNumber_4 l1 u) zkV 28 [(0, .ref 9), (1, .int l1)] [] u := by
  unfold a_Reader_readNumber_4
  refine g_aload_n rfl rfl ?_
  refine g_getR rfl zf_Reader_18 rfl rfl ?_
  refine g_bipush (v := (48 : Int32)) rfl zib_48 ?_
  refine g_iload_n rfl rfl ?_
  refine g_callVV (M' := m_Code_add) (d' := 1) (as := [.int (48 : Int32), .int l1]) (rest := []) (ci := 2) (o := 11) rfl ml_Reader_44 v_Code_add (by decide) rfl (by decide) rfl rfl rfl (Nat.le_of_ble_eq_true rfl) (fun x_ e_ => s_Code_addD G (48 : Int32) l1 u x_ e_) (fun q521 e522 b523 => ?_)
  exact g_vret rfl rfl rfl
set_option maxRecDepth 100000 in
set_option maxHeartbeats 4000000 in
theorem w_Reader_readNumber (G : ZG) (u : ZSt) : ZGo G m_Reader_readNumber 2 (f_Reader_readNumber u) zkV 0 [(0, .ref 9)] [] u := by
  unfold f_Reader_readNumber
  refine g_iconst (v := (0 : Int32)) rfl zic_0 ?_
  refine g_istore_n (lv' := [(0, .ref 9), (1, .int (0 : Int32))]) rfl (Nat.le_of_ble_eq_true rfl) rfl rfl ?_
  refine g_iconst (v := (0 : Int32)) rfl zic_0 ?_
  refine g_istore_n (lv' := [(0, .ref 9), (1, .int (0 : Int32)), (2, .int (0 : Int32))]) rfl (Nat.le_of_ble_eq_true rfl) rfl rfl ?_
  refine zgo_sub (lv' := [(0, .ref 9), (1, .int (0 : Int32)), (2, .int (0 : Int32))]) (zsubk [0, 1, 2] rfl) ?_
  refine zgo_loop (σ := Int32 × Int32 × ZSt) (lvf := fun s => [(0, .ref 9), (1, .int s.1), (2, .int s.2.1)]) (uf := (fun s => s.2.2)) ?_ zfu _
  intro s K' ih he
  refine wb_Reader_readNumber_4 G s.1 s.2.1 s.2.2 K' ?_ ?_
  · intro c0 c1 v
    exact ih (c0, c1, v)
  · intro c0 c1 v
    rw [he]
    exact zgo_unleaf (wa_Reader_readNumber_4 G c0 v)
theorem s_Reader_readNumber (G : ZG) (u : ZSt) (x : ZSt) (hx : f_Reader_readNumber u = some x) : ZSpec G m_Reader_readNumber 2 [.ref 9] u (zemV x) :=
  ZSpec.go k_Reader_readNumber (Nat.le_of_ble_eq_true rfl) (w_Reader_readNumber G u) (tgt := zemV x) (by rw [hx]; rfl)
set_option maxRecDepth 100000 in
set_option maxHeartbeats 4000000 in
theorem w_Reader_nameOf (G : ZG) (a : Int32) (u : ZSt) : ZGo G m_Reader_nameOf 1 (f_Reader_nameOf a) (zkP u) 0 [(0, .int a)] [] u := by
  unfold f_Reader_nameOf
  refine g_iload_n rfl rfl ?_
  refine zgo_ite (fun c524 => ?_) (fun c524 => ?_)
  · refine g_tswIn rfl c524 (by decide) (by decide) (off := 81) (by decide +kernel) 12 rfl ?_
    refine g_iconst (v := (5 : Int32)) rfl zic_5 ?_
    exact g_iret rfl (Or.inl rfl) rfl
  · refine zgo_ite (fun c525 => ?_) (fun c525 => ?_)
    · refine g_tswIn rfl c525 (by decide) (by decide) (off := 73) (by decide +kernel) 4 rfl ?_
      refine g_iconst (v := (1 : Int32)) rfl zic_1 ?_
      exact g_iret rfl (Or.inl rfl) rfl
    · refine zgo_ite (fun c526 => ?_) (fun c526 => ?_)
      · refine g_tswIn rfl c526 (by decide) (by decide) (off := 75) (by decide +kernel) 6 rfl ?_
        refine g_iconst (v := (2 : Int32)) rfl zic_2 ?_
        exact g_iret rfl (Or.inl rfl) rfl
      · refine zgo_ite (fun c527 => ?_) (fun c527 => ?_)
        · refine g_tswIn rfl c527 (by decide) (by decide) (off := 79) (by decide +kernel) 10 rfl ?_
          refine g_iconst (v := (4 : Int32)) rfl zic_4 ?_
          exact g_iret rfl (Or.inl rfl) rfl
        · refine zgo_ite (fun c528 => ?_) (fun c528 => ?_)
          · refine g_tswIn rfl c528 (by decide) (by decide) (off := 77) (by decide +kernel) 8 rfl ?_
            refine g_iconst (v := (3 : Int32)) rfl zic_3 ?_
            exact g_iret rfl (Or.inl rfl) rfl
          · refine zgo_ite (fun c529 => ?_) (fun c529 => ?_)
            · refine g_tswIn rfl c529 (by decide) (by decide) (off := 71) (by decide +kernel) 2 rfl ?_
              refine g_iconst (v := (0 : Int32)) rfl zic_0 ?_
              exact g_iret rfl (Or.inl rfl) rfl
            · refine g_tswD rfl [103, 107, 108, 110, 112, 116] 14 (by decide) (by decide +kernel) (List.forall_mem_cons.mpr ⟨z_ne c524 rfl, (List.forall_mem_cons.mpr ⟨z_ne c525 rfl, (List.forall_mem_cons.mpr ⟨z_ne c526 rfl, (List.forall_mem_cons.mpr ⟨z_ne c527 rfl, (List.forall_mem_cons.mpr ⟨z_ne c528 rfl, (List.forall_mem_cons.mpr ⟨z_ne c529 rfl, (fun _ h => absurd h List.not_mem_nil)⟩)⟩)⟩)⟩)⟩)⟩) 14 rfl ?_
              refine g_iconst (v := (-1 : Int32)) rfl zic_m1 ?_
              exact g_iret rfl (Or.inl rfl) rfl
theorem s_Reader_nameOf (G : ZG) (a : Int32) (u : ZSt) (x : Int32) (hx : f_Reader_nameOf a = some x) : ZSpec G m_Reader_nameOf 1 [.int a] u ((zemP u) x) :=
  ZSpec.go k_Reader_nameOf (Nat.le_of_ble_eq_true rfl) (w_Reader_nameOf G a u) (tgt := (zemP u) x) (by rw [hx]; rfl)
set_option maxRecDepth 100000 in
set_option maxHeartbeats 4000000 in
theorem w_Reader_levelOf (G : ZG) (a : Int32) (u : ZSt) : ZGo G m_Reader_levelOf 1 (f_Reader_levelOf a) (zkP u) 0 [(0, .int a)] [] u := by
  unfold f_Reader_levelOf
  refine g_iload_n rfl rfl ?_
  refine zgo_ite (fun c530 => ?_) (fun c530 => ?_)
  · refine g_lswI rfl (by decide +kernel) c530 (off := 99) (by decide +kernel) 10 rfl ?_
    refine g_iconst (v := (4 : Int32)) rfl zic_4 ?_
    exact g_iret rfl (Or.inl rfl) rfl
  · refine zgo_ite (fun c531 => ?_) (fun c531 => ?_)
    · refine g_lswI rfl (by decide +kernel) c531 (off := 93) (by decide +kernel) 4 rfl ?_
      refine g_iconst (v := (1 : Int32)) rfl zic_1 ?_
      exact g_iret rfl (Or.inl rfl) rfl
    · refine zgo_ite (fun c532 => ?_) (fun c532 => ?_)
      · refine g_lswI rfl (by decide +kernel) c532 (off := 99) (by decide +kernel) 10 rfl ?_
        refine g_iconst (v := (4 : Int32)) rfl zic_4 ?_
        exact g_iret rfl (Or.inl rfl) rfl
      · refine zgo_ite (fun c533 => ?_) (fun c533 => ?_)
        · refine g_lswI rfl (by decide +kernel) c533 (off := 97) (by decide +kernel) 8 rfl ?_
          refine g_iconst (v := (3 : Int32)) rfl zic_3 ?_
          exact g_iret rfl (Or.inl rfl) rfl
        · refine zgo_ite (fun c534 => ?_) (fun c534 => ?_)
          · refine g_lswI rfl (by decide +kernel) c534 (off := 97) (by decide +kernel) 8 rfl ?_
            refine g_iconst (v := (3 : Int32)) rfl zic_3 ?_
            exact g_iret rfl (Or.inl rfl) rfl
          · refine zgo_ite (fun c535 => ?_) (fun c535 => ?_)
            · refine g_lswI rfl (by decide +kernel) c535 (off := 99) (by decide +kernel) 10 rfl ?_
              refine g_iconst (v := (4 : Int32)) rfl zic_4 ?_
              exact g_iret rfl (Or.inl rfl) rfl
            · refine zgo_ite (fun c536 => ?_) (fun c536 => ?_)
              · refine g_lswI rfl (by decide +kernel) c536 (off := 95) (by decide +kernel) 6 rfl ?_
                refine g_iconst (v := (2 : Int32)) rfl zic_2 ?_
                exact g_iret rfl (Or.inl rfl) rfl
              · refine zgo_ite (fun c537 => ?_) (fun c537 => ?_)
                · refine g_lswI rfl (by decide +kernel) c537 (off := 95) (by decide +kernel) 6 rfl ?_
                  refine g_iconst (v := (2 : Int32)) rfl zic_2 ?_
                  exact g_iret rfl (Or.inl rfl) rfl
                · refine zgo_ite (fun c538 => ?_) (fun c538 => ?_)
                  · refine g_lswI rfl (by decide +kernel) c538 (off := 95) (by decide +kernel) 6 rfl ?_
                    refine g_iconst (v := (2 : Int32)) rfl zic_2 ?_
                    exact g_iret rfl (Or.inl rfl) rfl
                  · refine zgo_ite (fun c539 => ?_) (fun c539 => ?_)
                    · refine g_lswI rfl (by decide +kernel) c539 (off := 91) (by decide +kernel) 2 rfl ?_
                      refine g_iconst (v := (0 : Int32)) rfl zic_0 ?_
                      exact g_iret rfl (Or.inl rfl) rfl
                    · refine g_lswD rfl (by decide +kernel) (List.forall_mem_cons.mpr ⟨z_ne c530 rfl, (List.forall_mem_cons.mpr ⟨z_ne c531 rfl, (List.forall_mem_cons.mpr ⟨z_ne c532 rfl, (List.forall_mem_cons.mpr ⟨z_ne c533 rfl, (List.forall_mem_cons.mpr ⟨z_ne c534 rfl, (List.forall_mem_cons.mpr ⟨z_ne c535 rfl, (List.forall_mem_cons.mpr ⟨z_ne c536 rfl, (List.forall_mem_cons.mpr ⟨z_ne c537 rfl, (List.forall_mem_cons.mpr ⟨z_ne c538 rfl, (List.forall_mem_cons.mpr ⟨z_ne c539 rfl, (fun _ h => absurd h List.not_mem_nil)⟩)⟩)⟩)⟩)⟩)⟩)⟩)⟩)⟩)⟩) 12 rfl ?_
                      refine g_iconst (v := (-1 : Int32)) rfl zic_m1 ?_
                      exact g_iret rfl (Or.inl rfl) rfl
theorem s_Reader_levelOf (G : ZG) (a : Int32) (u : ZSt) (x : Int32) (hx : f_Reader_levelOf a = some x) : ZSpec G m_Reader_levelOf 1 [.int a] u ((zemP u) x) :=
  ZSpec.go k_Reader_levelOf (Nat.le_of_ble_eq_true rfl) (w_Reader_levelOf G a u) (tgt := (zemP u) x) (by rw [hx]; rfl)
set_option maxRecDepth 100000 in
set_option maxHeartbeats 4000000 in
theorem wb_Reader_readChain_25 (G : ZG) (rc : Nat → Int32 → Int32 → ZSt → Option (Int32 × ZSt)) (d : Nat) (hd : 3 ≤ d) (h0 : ∀ (a : Int32) (b : Int32) (u : ZSt) x, rc 0 a b u = some x → ZSpec G m_Reader_readChain d [.ref 9, .int a, .int b] u (zemI x)) (h1 : ∀ (a : Int32) (b : Int32) (u : ZSt) x, rc 1 a b u = some x → ZSpec G m_Reader_readOpened d [.ref 9, .int a, .int b] u (zemI x)) (h2 : ∀ (a : Int32) (u : ZSt) x, rc 2 a 0 u = some x → ZSpec G m_Reader_readOperand d [.ref 9, .int a] u (zemI x)) (l1 : Int32) (l2 : Int32) (l3 : Int32) (l4 : Int32) (u : ZSt) (K : ((Int32 × ZSt) ⊕ ((Int32 × ZSt) ⊕ (Int32 × ZSt))) → Option (Value × ZSt)) (hb : ∀ (l4 : Int32) (u : ZSt), ZGo G m_Reader_readChain (d + 1) (K (.inl (l4, u))) some 25 [(0, .ref 9), (1, .int l1), (2, .int l2), (3, .int l3), (4, .int l4)] [] u) (hx : ∀ (l4 : Int32) (u : ZSt), ZGo G m_Reader_readChain (d + 1) (K (.inr (.inl (l4, u)))) some 58 [] [] u) (hr : ∀ x, K (.inr (.inr x)) = some (zemI x)) : ZGo G m_Reader_readChain (d + 1) (b_Reader_readChain_25 rc l1 l2 l3 l4 u) K 25 [(0, .ref 9), (1, .int l1), (2, .int l2), (3, .int l3), (4, .int l4)] [] u := by
  unfold b_Reader_readChain_25
  refine g_iload rfl rfl ?_
  refine g_iload_n rfl rfl ?_
  refine g_icmpge rfl (fun c546 => ?_) (fun c546 => ?_)
  · exact zgo_sub (zsubk [] rfl) (zgo_leaf (hx l4 u))
  · refine g_aload_n rfl rfl ?_
    refine g_callVP (M' := m_Reader_next) (d' := 1) (as := []) (rest := []) (ci := 6) (o := 9) rfl ml_Reader_36 v_Reader_next (by omega) rfl (by decide) rfl rfl rfl (Nat.le_of_ble_eq_true rfl) (fun x_ e_ => s_Reader_next G  u x_ e_) (fun q547 e548 b549 => ?_)
    refine g_callSP (M' := m_Reader_levelOf) (d' := 1) (as := [.int q547]) (rest := []) rfl ml_Reader_52 v_Reader_levelOf (by omega) rfl rfl (Nat.le_of_ble_eq_true rfl) (fun x_ e_ => s_Reader_levelOf G q547 u x_ e_) (fun q550 e551 b552 => ?_)
    refine g_iload_n rfl rfl ?_
    refine g_icmpne rfl (fun c553 => ?_) (fun c553 => ?_)
    · exact zgo_sub (zsubk [] rfl) (zgo_leaf (hx l4 u))
    · refine g_aload_n rfl rfl ?_
      refine g_callVP (M' := m_Reader_next) (d' := 1) (as := []) (rest := []) (ci := 6) (o := 9) rfl ml_Reader_36 v_Reader_next (by omega) rfl (by decide) rfl rfl rfl (Nat.le_of_ble_eq_true rfl) (fun x_ e_ => s_Reader_next G  u x_ e_) (fun q554 e555 b556 => ?_)
      refine g_istore (lv' := [(0, .ref 9), (1, .int l1), (2, .int l2), (3, .int l3), (4, .int l4), (5, .int q554)]) rfl (Nat.le_of_ble_eq_true rfl) rfl rfl ?_
      refine g_aload_n rfl rfl ?_
      refine g_dup rfl rfl ?_
      refine g_getI rfl zf_Reader_26 rfl rfl rfl ?_
      refine g_iconst (v := (1 : Int32)) rfl zic_1 ?_
      refine g_iadd rfl ?_
      refine g_put (j := 903) rfl zf_Reader_26 rfl rfl zp_6_3.1 (Or.inl zp_6_3.2) rfl ?_
      refine g_aload_n rfl rfl ?_
      refine g_iload_n rfl rfl ?_
      refine g_iconst (v := (1 : Int32)) rfl zic_1 ?_
      refine g_iadd rfl ?_
      refine g_iload_n rfl rfl ?_
      refine g_callVI (M' := m_Reader_readChain) (d' := d) (as := [.int (l1 + (1 : Int32)), .int l2]) (rest := []) (ci := 6) (o := 9) rfl ml_Reader_40 v_Reader_readChain (by omega) rfl (by decide) rfl rfl rfl (Nat.le_of_ble_eq_true rfl) (fun x_ e_ => h0 (l1 + (1 : Int32)) l2 (zs u 903 ((u.1 903) + (1 : Int32))) x_ e_) (fun q557r q557u e558 b559 => ?_)
      refine g_ifne rfl (fun c560 => ?_) (fun c560 => ?_)
      · refine g_aload_n rfl rfl ?_
        refine g_getR rfl zf_Reader_18 rfl rfl ?_
        refine g_iload rfl rfl ?_
        refine g_iconst (v := (0 : Int32)) rfl zic_0 ?_
        refine g_callVV (M' := m_Code_add) (d' := 1) (as := [.int q554, .int (0 : Int32)]) (rest := []) (ci := 2) (o := 11) rfl ml_Reader_44 v_Code_add (by omega) rfl (by decide) rfl rfl rfl (Nat.le_of_ble_eq_true rfl) (fun x_ e_ => s_Code_addD G q554 (0 : Int32) q557u x_ e_) (fun q561 e562 b563 => ?_)
        refine g_iinc (v := (1 : Int32)) (lv' := [(0, .ref 9), (1, .int l1), (2, .int l2), (3, .int l3), (4, .int (l4 + (1 : Int32))), (5, .int q554)]) rfl rfl zic_1 (Nat.le_of_ble_eq_true rfl) rfl rfl ?_
        refine g_goto rfl ?_
        exact zgo_sub (zsubk [0, 1, 2, 3, 4] rfl) (zgo_leaf (hb (l4 + (1 : Int32)) q561))
      · refine g_iconst (v := (0 : Int32)) rfl zic_0 ?_
        exact g_iret rfl (Or.inr ⟨rfl, Or.inl rfl⟩) (hr _)
set_option maxRecDepth 100000 in
set_option maxHeartbeats 4000000 in
theorem wa_Reader_readChain_25 (G : ZG) (rc : Nat → Int32 → Int32 → ZSt → Option (Int32 × ZSt)) (d : Nat) (hd : 3 ≤ d) (h0 : ∀ (a : Int32) (b : Int32) (u : ZSt) x, rc 0 a b u = some x → ZSpec G m_Reader_readChain d [.ref 9, .int a, .int b] u (zemI x)) (h1 : ∀ (a : Int32) (b : Int32) (u : ZSt) x, rc 1 a b u = some x → ZSpec G m_Reader_readOpened d [.ref 9, .int a, .int b] u (zemI x)) (h2 : ∀ (a : Int32) (u : ZSt) x, rc 2 a 0 u = some x → ZSpec G m_Reader_readOperand d [.ref 9, .int a] u (zemI x)) (u : ZSt) : ZGo G m_Reader_readChain (d + 1) (a_Reader_readChain_25 rc u) zkI 58 [] [] u := by
  unfold a_Reader_readChain_25
  refine g_iconst (v := (1 : Int32)) rfl zic_1 ?_
  exact g_iret rfl (Or.inr ⟨rfl, Or.inr rfl⟩) rfl
set_option maxRecDepth 100000 in
set_option maxHeartbeats 4000000 in
theorem w_Reader_readChain (G : ZG) (rc : Nat → Int32 → Int32 → ZSt → Option (Int32 × ZSt)) (d : Nat) (hd : 3 ≤ d) (h0 : ∀ (a : Int32) (b : Int32) (u : ZSt) x, rc 0 a b u = some x → ZSpec G m_Reader_readChain d [.ref 9, .int a, .int b] u (zemI x)) (h1 : ∀ (a : Int32) (b : Int32) (u : ZSt) x, rc 1 a b u = some x → ZSpec G m_Reader_readOpened d [.ref 9, .int a, .int b] u (zemI x)) (h2 : ∀ (a : Int32) (u : ZSt) x, rc 2 a 0 u = some x → ZSpec G m_Reader_readOperand d [.ref 9, .int a] u (zemI x)) (a : Int32) (b : Int32) (u : ZSt) : ZGo G m_Reader_readChain (d + 1) (t_Reader_readChain rc a b u) zkI 0 [(0, .ref 9), (1, .int a), (2, .int b)] [] u := by
  unfold t_Reader_readChain
  refine g_iload_n rfl rfl ?_
  refine g_iconst (v := (5 : Int32)) rfl zic_5 ?_
  refine g_icmplt rfl (fun c540 => ?_) (fun c540 => ?_)
  · refine g_aload_n rfl rfl ?_
    refine g_iload_n rfl rfl ?_
    refine g_iconst (v := (1 : Int32)) rfl zic_1 ?_
    refine g_iadd rfl ?_
    refine g_iload_n rfl rfl ?_
    refine g_callVI (M' := m_Reader_readChain) (d' := d) (as := [.int (a + (1 : Int32)), .int b]) (rest := []) (ci := 6) (o := 9) rfl ml_Reader_40 v_Reader_readChain (by omega) rfl (by decide) rfl rfl rfl (Nat.le_of_ble_eq_true rfl) (fun x_ e_ => h0 (a + (1 : Int32)) b u x_ e_) (fun q541r q541u e542 b543 => ?_)
    refine g_ifne rfl (fun c544 => ?_) (fun c544 => ?_)
    · refine g_iload_n rfl rfl ?_
      refine g_iconst (v := (2 : Int32)) rfl zic_2 ?_
      refine g_icmpne rfl (fun c545 => ?_) (fun c545 => ?_)
      · refine g_bipush (v := (120 : Int32)) rfl zib_120 ?_
        refine g_istore_n (lv' := [(0, .ref 9), (1, .int a), (2, .int b), (3, .int (120 : Int32))]) rfl (Nat.le_of_ble_eq_true rfl) rfl rfl ?_
        refine g_iconst (v := (0 : Int32)) rfl zic_0 ?_
        refine g_istore (lv' := [(0, .ref 9), (1, .int a), (2, .int b), (3, .int (120 : Int32)), (4, .int (0 : Int32))]) rfl (Nat.le_of_ble_eq_true rfl) rfl rfl ?_
        refine zgo_sub (lv' := [(0, .ref 9), (1, .int a), (2, .int b), (3, .int (120 : Int32)), (4, .int (0 : Int32))]) (zsubk [0, 1, 2, 3, 4] rfl) ?_
        refine zgo_loop (σ := Int32 × ZSt) (lvf := fun s => [(0, .ref 9), (1, .int a), (2, .int b), (3, .int (120 : Int32)), (4, .int s.1)]) (uf := (fun s => s.2)) ?_ zfu _
        intro s K' ih he
        refine wb_Reader_readChain_25 G rc d hd h0 h1 h2 a b (120 : Int32) s.1 s.2 K' ?_ ?_ ?_
        · intro c0 v
          exact ih (c0, v)
        · intro c0 v
          rw [he]
          exact zgo_unleaf (wa_Reader_readChain_25 G rc d hd h0 h1 h2  v)
        · intro x
          exact (he _).trans rfl
      · refine g_iconst (v := (1 : Int32)) rfl zic_1 ?_
        refine g_goto rfl ?_
        refine g_istore_n (lv' := [(0, .ref 9), (1, .int a), (2, .int b), (3, .int (1 : Int32))]) rfl (Nat.le_of_ble_eq_true rfl) rfl rfl ?_
        refine g_iconst (v := (0 : Int32)) rfl zic_0 ?_
        refine g_istore (lv' := [(0, .ref 9), (1, .int a), (2, .int b), (3, .int (1 : Int32)), (4, .int (0 : Int32))]) rfl (Nat.le_of_ble_eq_true rfl) rfl rfl ?_
        refine zgo_sub (lv' := [(0, .ref 9), (1, .int a), (2, .int b), (3, .int (1 : Int32)), (4, .int (0 : Int32))]) (zsubk [0, 1, 2, 3, 4] rfl) ?_
        refine zgo_loop (σ := Int32 × ZSt) (lvf := fun s => [(0, .ref 9), (1, .int a), (2, .int b), (3, .int (1 : Int32)), (4, .int s.1)]) (uf := (fun s => s.2)) ?_ zfu _
        intro s K' ih he
        refine wb_Reader_readChain_25 G rc d hd h0 h1 h2 a b (1 : Int32) s.1 s.2 K' ?_ ?_ ?_
        · intro c0 v
          exact ih (c0, v)
        · intro c0 v
          rw [he]
          exact zgo_unleaf (wa_Reader_readChain_25 G rc d hd h0 h1 h2  v)
        · intro x
          exact (he _).trans rfl
    · refine g_iconst (v := (0 : Int32)) rfl zic_0 ?_
      exact g_iret rfl (Or.inr ⟨rfl, Or.inl rfl⟩) rfl
  · refine g_aload_n rfl rfl ?_
    refine g_iload_n rfl rfl ?_
    refine g_callVI (M' := m_Reader_readOperand) (d' := d) (as := [.int b]) (rest := []) (ci := 6) (o := 9) rfl ml_Reader_48 v_Reader_readOperand (by omega) rfl (by decide) rfl rfl rfl (Nat.le_of_ble_eq_true rfl) (fun x_ e_ => h2 b u x_ e_) (fun q564r q564u e565 b566 => ?_)
    exact g_iret rfl (Or.inr ⟨rfl, (zbo_i b566)⟩) rfl
set_option maxRecDepth 100000 in
set_option maxHeartbeats 4000000 in
theorem ts_Reader_readChain (G : ZG) (rc : Nat → Int32 → Int32 → ZSt → Option (Int32 × ZSt)) (d : Nat) (hd : 3 ≤ d) (h0 : ∀ (a : Int32) (b : Int32) (u : ZSt) x, rc 0 a b u = some x → ZSpec G m_Reader_readChain d [.ref 9, .int a, .int b] u (zemI x)) (h1 : ∀ (a : Int32) (b : Int32) (u : ZSt) x, rc 1 a b u = some x → ZSpec G m_Reader_readOpened d [.ref 9, .int a, .int b] u (zemI x)) (h2 : ∀ (a : Int32) (u : ZSt) x, rc 2 a 0 u = some x → ZSpec G m_Reader_readOperand d [.ref 9, .int a] u (zemI x)) (a : Int32) (b : Int32) (u : ZSt) (x : Int32 × ZSt) (hx : t_Reader_readChain rc a b u = some x) : ZSpec G m_Reader_readChain (d + 1) [.ref 9, .int a, .int b] u (zemI x) :=
  ZSpec.go k_Reader_readChain (Nat.le_of_ble_eq_true rfl) (w_Reader_readChain G rc d hd h0 h1 h2 a b u) (tgt := zemI x) (by rw [hx]; rfl)
set_option maxRecDepth 100000 in
set_option maxHeartbeats 4000000 in
theorem w_Reader_readOpened (G : ZG) (rc : Nat → Int32 → Int32 → ZSt → Option (Int32 × ZSt)) (d : Nat) (hd : 3 ≤ d) (h0 : ∀ (a : Int32) (b : Int32) (u : ZSt) x, rc 0 a b u = some x → ZSpec G m_Reader_readChain d [.ref 9, .int a, .int b] u (zemI x)) (h1 : ∀ (a : Int32) (b : Int32) (u : ZSt) x, rc 1 a b u = some x → ZSpec G m_Reader_readOpened d [.ref 9, .int a, .int b] u (zemI x)) (h2 : ∀ (a : Int32) (u : ZSt) x, rc 2 a 0 u = some x → ZSpec G m_Reader_readOperand d [.ref 9, .int a] u (zemI x)) (a : Int32) (b : Int32) (u : ZSt) : ZGo G m_Reader_readOpened (d + 1) (t_Reader_readOpened rc a b u) zkI 0 [(0, .ref 9), (1, .int a), (2, .int b)] [] u := by
  unfold t_Reader_readOpened
  refine g_aload_n rfl rfl ?_
  refine g_dup rfl rfl ?_
  refine g_getI rfl zf_Reader_26 rfl rfl rfl ?_
  refine g_iconst (v := (1 : Int32)) rfl zic_1 ?_
  refine g_iadd rfl ?_
  refine g_put (j := 903) rfl zf_Reader_26 rfl rfl zp_6_3.1 (Or.inl zp_6_3.2) rfl ?_
  refine g_iload_n rfl rfl ?_
  refine g_bipush (v := (40 : Int32)) rfl zib_40 ?_
  refine g_icmpne rfl (fun c567 => ?_) (fun c567 => ?_)
  · refine g_aload_n rfl rfl ?_
    refine g_iload_n rfl rfl ?_
    refine g_callVI (M' := m_Reader_readOperand) (d' := d) (as := [.int b]) (rest := []) (ci := 6) (o := 9) rfl ml_Reader_48 v_Reader_readOperand (by omega) rfl (by decide) rfl rfl rfl (Nat.le_of_ble_eq_true rfl) (fun x_ e_ => h2 b (zs u 903 ((u.1 903) + (1 : Int32))) x_ e_) (fun q568r q568u e569 b570 => ?_)
    refine g_ifne rfl (fun c571 => ?_) (fun c571 => ?_)
    · refine g_aload_n rfl rfl ?_
      refine g_getR rfl zf_Reader_18 rfl rfl ?_
      refine g_iload_n rfl rfl ?_
      refine g_bipush (v := (33 : Int32)) rfl zib_33 ?_
      refine g_icmpne rfl (fun c572 => ?_) (fun c572 => ?_)
      · refine g_bipush (v := (126 : Int32)) rfl zib_126 ?_
        refine g_iconst (v := (0 : Int32)) rfl zic_0 ?_
        refine g_callVV (M' := m_Code_add) (d' := 1) (as := [.int (126 : Int32), .int (0 : Int32)]) (rest := []) (ci := 2) (o := 11) rfl ml_Reader_44 v_Code_add (by omega) rfl (by decide) rfl rfl rfl (Nat.le_of_ble_eq_true rfl) (fun x_ e_ => s_Code_addD G (126 : Int32) (0 : Int32) q568u x_ e_) (fun q573 e574 b575 => ?_)
        refine g_iconst (v := (1 : Int32)) rfl zic_1 ?_
        exact g_iret rfl (Or.inr ⟨rfl, Or.inr rfl⟩) rfl
      · refine g_bipush (v := (33 : Int32)) rfl zib_33 ?_
        refine g_goto rfl ?_
        refine g_iconst (v := (0 : Int32)) rfl zic_0 ?_
        refine g_callVV (M' := m_Code_add) (d' := 1) (as := [.int (33 : Int32), .int (0 : Int32)]) (rest := []) (ci := 2) (o := 11) rfl ml_Reader_44 v_Code_add (by omega) rfl (by decide) rfl rfl rfl (Nat.le_of_ble_eq_true rfl) (fun x_ e_ => s_Code_addD G (33 : Int32) (0 : Int32) q568u x_ e_) (fun q576 e577 b578 => ?_)
        refine g_iconst (v := (1 : Int32)) rfl zic_1 ?_
        exact g_iret rfl (Or.inr ⟨rfl, Or.inr rfl⟩) rfl
    · refine g_iconst (v := (0 : Int32)) rfl zic_0 ?_
      exact g_iret rfl (Or.inr ⟨rfl, Or.inl rfl⟩) rfl
  · refine g_aload_n rfl rfl ?_
    refine g_iconst (v := (0 : Int32)) rfl zic_0 ?_
    refine g_iload_n rfl rfl ?_
    refine g_callVI (M' := m_Reader_readChain) (d' := d) (as := [.int (0 : Int32), .int b]) (rest := []) (ci := 6) (o := 9) rfl ml_Reader_40 v_Reader_readChain (by omega) rfl (by decide) rfl rfl rfl (Nat.le_of_ble_eq_true rfl) (fun x_ e_ => h0 (0 : Int32) b (zs u 903 ((u.1 903) + (1 : Int32))) x_ e_) (fun q579r q579u e580 b581 => ?_)
    refine g_ifeq rfl (fun c582 => ?_) (fun c582 => ?_)
    · refine g_iconst (v := (0 : Int32)) rfl zic_0 ?_
      exact g_iret rfl (Or.inr ⟨rfl, Or.inl rfl⟩) rfl
    · refine g_aload_n rfl rfl ?_
      refine g_callVP (M' := m_Reader_next) (d' := 1) (as := []) (rest := []) (ci := 6) (o := 9) rfl ml_Reader_36 v_Reader_next (by omega) rfl (by decide) rfl rfl rfl (Nat.le_of_ble_eq_true rfl) (fun x_ e_ => s_Reader_next G  q579u x_ e_) (fun q583 e584 b585 => ?_)
      refine g_bipush (v := (41 : Int32)) rfl zib_41 ?_
      refine g_icmpeq rfl (fun c586 => ?_) (fun c586 => ?_)
      · refine g_aload_n rfl rfl ?_
        refine g_dup rfl rfl ?_
        refine g_getI rfl zf_Reader_26 rfl rfl rfl ?_
        refine g_iconst (v := (1 : Int32)) rfl zic_1 ?_
        refine g_iadd rfl ?_
        refine g_put (j := 903) rfl zf_Reader_26 rfl rfl zp_6_3.1 (Or.inl zp_6_3.2) rfl ?_
        refine g_iconst (v := (1 : Int32)) rfl zic_1 ?_
        exact g_iret rfl (Or.inr ⟨rfl, Or.inr rfl⟩) rfl
      · refine g_iconst (v := (0 : Int32)) rfl zic_0 ?_
        exact g_iret rfl (Or.inr ⟨rfl, Or.inl rfl⟩) rfl
set_option maxRecDepth 100000 in
set_option maxHeartbeats 4000000 in
theorem ts_Reader_readOpened (G : ZG) (rc : Nat → Int32 → Int32 → ZSt → Option (Int32 × ZSt)) (d : Nat) (hd : 3 ≤ d) (h0 : ∀ (a : Int32) (b : Int32) (u : ZSt) x, rc 0 a b u = some x → ZSpec G m_Reader_readChain d [.ref 9, .int a, .int b] u (zemI x)) (h1 : ∀ (a : Int32) (b : Int32) (u : ZSt) x, rc 1 a b u = some x → ZSpec G m_Reader_readOpened d [.ref 9, .int a, .int b] u (zemI x)) (h2 : ∀ (a : Int32) (u : ZSt) x, rc 2 a 0 u = some x → ZSpec G m_Reader_readOperand d [.ref 9, .int a] u (zemI x)) (a : Int32) (b : Int32) (u : ZSt) (x : Int32 × ZSt) (hx : t_Reader_readOpened rc a b u = some x) : ZSpec G m_Reader_readOpened (d + 1) [.ref 9, .int a, .int b] u (zemI x) :=
  ZSpec.go k_Reader_readOpened (Nat.le_of_ble_eq_true rfl) (w_Reader_readOpened G rc d hd h0 h1 h2 a b u) (tgt := zemI x) (by rw [hx]; rfl)
set_option maxRecDepth 100000 in
set_option maxHeartbeats 4000000 in
theorem w_Reader_readOperand (G : ZG) (rc : Nat → Int32 → Int32 → ZSt → Option (Int32 × ZSt)) (d : Nat) (hd : 3 ≤ d) (h0 : ∀ (a : Int32) (b : Int32) (u : ZSt) x, rc 0 a b u = some x → ZSpec G m_Reader_readChain d [.ref 9, .int a, .int b] u (zemI x)) (h1 : ∀ (a : Int32) (b : Int32) (u : ZSt) x, rc 1 a b u = some x → ZSpec G m_Reader_readOpened d [.ref 9, .int a, .int b] u (zemI x)) (h2 : ∀ (a : Int32) (u : ZSt) x, rc 2 a 0 u = some x → ZSpec G m_Reader_readOperand d [.ref 9, .int a] u (zemI x)) (a : Int32) (u : ZSt) : ZGo G m_Reader_readOperand (d + 1) (t_Reader_readOperand rc a u) zkI 0 [(0, .ref 9), (1, .int a)] [] u := by
  unfold t_Reader_readOperand
  refine g_aload_n rfl rfl ?_
  refine g_callVP (M' := m_Reader_next) (d' := 1) (as := []) (rest := []) (ci := 6) (o := 9) rfl ml_Reader_36 v_Reader_next (by omega) rfl (by decide) rfl rfl rfl (Nat.le_of_ble_eq_true rfl) (fun x_ e_ => s_Reader_next G  u x_ e_) (fun q587 e588 b589 => ?_)
  refine g_istore_n (lv' := [(0, .ref 9), (1, .int a), (2, .int q587)]) rfl (Nat.le_of_ble_eq_true rfl) rfl rfl ?_
  refine g_iload_n rfl rfl ?_
  refine g_bipush (v := (40 : Int32)) rfl zib_40 ?_
  refine g_icmpeq rfl (fun c590 => ?_) (fun c590 => ?_)
  · refine g_iload_n rfl rfl ?_
    refine g_bipush (v := (6 : Int32)) rfl zib_6 ?_
    refine g_icmpge rfl (fun c591 => ?_) (fun c591 => ?_)
    · refine g_iconst (v := (0 : Int32)) rfl zic_0 ?_
      exact g_iret rfl (Or.inr ⟨rfl, Or.inl rfl⟩) rfl
    · refine g_aload_n rfl rfl ?_
      refine g_iload_n rfl rfl ?_
      refine g_iload_n rfl rfl ?_
      refine g_iconst (v := (1 : Int32)) rfl zic_1 ?_
      refine g_iadd rfl ?_
      refine g_callVI (M' := m_Reader_readOpened) (d' := d) (as := [.int q587, .int (a + (1 : Int32))]) (rest := []) (ci := 6) (o := 9) rfl ml_Reader_56 v_Reader_readOpened (by omega) rfl (by decide) rfl rfl rfl (Nat.le_of_ble_eq_true rfl) (fun x_ e_ => h1 q587 (a + (1 : Int32)) u x_ e_) (fun q592r q592u e593 b594 => ?_)
      refine g_ifeq rfl (fun c595 => ?_) (fun c595 => ?_)
      · refine g_iconst (v := (0 : Int32)) rfl zic_0 ?_
        exact g_iret rfl (Or.inr ⟨rfl, Or.inl rfl⟩) rfl
      · refine g_iconst (v := (1 : Int32)) rfl zic_1 ?_
        refine g_goto rfl ?_
        exact g_iret rfl (Or.inr ⟨rfl, Or.inr rfl⟩) rfl
  · refine g_iload_n rfl rfl ?_
    refine g_bipush (v := (33 : Int32)) rfl zib_33 ?_
    refine g_icmpeq rfl (fun c596 => ?_) (fun c596 => ?_)
    · refine g_iload_n rfl rfl ?_
      refine g_bipush (v := (6 : Int32)) rfl zib_6 ?_
      refine g_icmpge rfl (fun c597 => ?_) (fun c597 => ?_)
      · refine g_iconst (v := (0 : Int32)) rfl zic_0 ?_
        exact g_iret rfl (Or.inr ⟨rfl, Or.inl rfl⟩) rfl
      · refine g_aload_n rfl rfl ?_
        refine g_iload_n rfl rfl ?_
        refine g_iload_n rfl rfl ?_
        refine g_iconst (v := (1 : Int32)) rfl zic_1 ?_
        refine g_iadd rfl ?_
        refine g_callVI (M' := m_Reader_readOpened) (d' := d) (as := [.int q587, .int (a + (1 : Int32))]) (rest := []) (ci := 6) (o := 9) rfl ml_Reader_56 v_Reader_readOpened (by omega) rfl (by decide) rfl rfl rfl (Nat.le_of_ble_eq_true rfl) (fun x_ e_ => h1 q587 (a + (1 : Int32)) u x_ e_) (fun q598r q598u e599 b600 => ?_)
        refine g_ifeq rfl (fun c601 => ?_) (fun c601 => ?_)
        · refine g_iconst (v := (0 : Int32)) rfl zic_0 ?_
          exact g_iret rfl (Or.inr ⟨rfl, Or.inl rfl⟩) rfl
        · refine g_iconst (v := (1 : Int32)) rfl zic_1 ?_
          refine g_goto rfl ?_
          exact g_iret rfl (Or.inr ⟨rfl, Or.inr rfl⟩) rfl
    · refine g_iload_n rfl rfl ?_
      refine g_bipush (v := (45 : Int32)) rfl zib_45 ?_
      refine g_icmpne rfl (fun c602 => ?_) (fun c602 => ?_)
      · refine g_iload_n rfl rfl ?_
        refine g_callSP (M' := m_Reader_isDigit) (d' := 1) (as := [.int q587]) (rest := []) rfl ml_Reader_59 v_Reader_isDigit (by omega) rfl rfl (Nat.le_of_ble_eq_true rfl) (fun x_ e_ => s_Reader_isDigit G q587 u x_ e_) (fun q603 e604 b605 => ?_)
        refine g_ifeq rfl (fun c606 => ?_) (fun c606 => ?_)
        · refine g_iload_n rfl rfl ?_
          refine g_callSP (M' := m_Reader_nameOf) (d' := 1) (as := [.int q587]) (rest := []) rfl ml_Reader_65 v_Reader_nameOf (by omega) rfl rfl (Nat.le_of_ble_eq_true rfl) (fun x_ e_ => s_Reader_nameOf G q587 u x_ e_) (fun q607 e608 b609 => ?_)
          refine g_istore_n (lv' := [(0, .ref 9), (1, .int a), (2, .int q587), (3, .int q607)]) rfl (Nat.le_of_ble_eq_true rfl) rfl rfl ?_
          refine g_iload_n rfl rfl ?_
          refine g_ifge rfl (fun c610 => ?_) (fun c610 => ?_)
          · refine g_aload_n rfl rfl ?_
            refine g_dup rfl rfl ?_
            refine g_getI rfl zf_Reader_26 rfl rfl rfl ?_
            refine g_iconst (v := (1 : Int32)) rfl zic_1 ?_
            refine g_iadd rfl ?_
            refine g_put (j := 903) rfl zf_Reader_26 rfl rfl zp_6_3.1 (Or.inl zp_6_3.2) rfl ?_
            refine g_aload_n rfl rfl ?_
            refine g_getR rfl zf_Reader_18 rfl rfl ?_
            refine g_bipush (v := (97 : Int32)) rfl zib_97 ?_
            refine g_iload_n rfl rfl ?_
            refine g_callVV (M' := m_Code_add) (d' := 1) (as := [.int (97 : Int32), .int q607]) (rest := []) (ci := 2) (o := 11) rfl ml_Reader_44 v_Code_add (by omega) rfl (by decide) rfl rfl rfl (Nat.le_of_ble_eq_true rfl) (fun x_ e_ => s_Code_addD G (97 : Int32) q607 (zs u 903 ((u.1 903) + (1 : Int32))) x_ e_) (fun q611 e612 b613 => ?_)
            refine g_iconst (v := (1 : Int32)) rfl zic_1 ?_
            exact g_iret rfl (Or.inr ⟨rfl, Or.inr rfl⟩) rfl
          · refine g_iconst (v := (0 : Int32)) rfl zic_0 ?_
            exact g_iret rfl (Or.inr ⟨rfl, Or.inl rfl⟩) rfl
        · refine g_aload_n rfl rfl ?_
          refine g_callVV (M' := m_Reader_readNumber) (d' := 2) (as := []) (rest := []) (ci := 6) (o := 9) rfl ml_Reader_62 v_Reader_readNumber (by omega) rfl (by decide) rfl rfl rfl (Nat.le_of_ble_eq_true rfl) (fun x_ e_ => s_Reader_readNumber G  u x_ e_) (fun q614 e615 b616 => ?_)
          refine g_iconst (v := (1 : Int32)) rfl zic_1 ?_
          exact g_iret rfl (Or.inr ⟨rfl, Or.inr rfl⟩) rfl
      · refine g_iload_n rfl rfl ?_
        refine g_bipush (v := (6 : Int32)) rfl zib_6 ?_
        refine g_icmpge rfl (fun c617 => ?_) (fun c617 => ?_)
        · refine g_iconst (v := (0 : Int32)) rfl zic_0 ?_
          exact g_iret rfl (Or.inr ⟨rfl, Or.inl rfl⟩) rfl
        · refine g_aload_n rfl rfl ?_
          refine g_iload_n rfl rfl ?_
          refine g_iload_n rfl rfl ?_
          refine g_iconst (v := (1 : Int32)) rfl zic_1 ?_
          refine g_iadd rfl ?_
          refine g_callVI (M' := m_Reader_readOpened) (d' := d) (as := [.int q587, .int (a + (1 : Int32))]) (rest := []) (ci := 6) (o := 9) rfl ml_Reader_56 v_Reader_readOpened (by omega) rfl (by decide) rfl rfl rfl (Nat.le_of_ble_eq_true rfl) (fun x_ e_ => h1 q587 (a + (1 : Int32)) u x_ e_) (fun q618r q618u e619 b620 => ?_)
          refine g_ifeq rfl (fun c621 => ?_) (fun c621 => ?_)
          · refine g_iconst (v := (0 : Int32)) rfl zic_0 ?_
            exact g_iret rfl (Or.inr ⟨rfl, Or.inl rfl⟩) rfl
          · refine g_iconst (v := (1 : Int32)) rfl zic_1 ?_
            refine g_goto rfl ?_
            exact g_iret rfl (Or.inr ⟨rfl, Or.inr rfl⟩) rfl
set_option maxRecDepth 100000 in
set_option maxHeartbeats 4000000 in
theorem ts_Reader_readOperand (G : ZG) (rc : Nat → Int32 → Int32 → ZSt → Option (Int32 × ZSt)) (d : Nat) (hd : 3 ≤ d) (h0 : ∀ (a : Int32) (b : Int32) (u : ZSt) x, rc 0 a b u = some x → ZSpec G m_Reader_readChain d [.ref 9, .int a, .int b] u (zemI x)) (h1 : ∀ (a : Int32) (b : Int32) (u : ZSt) x, rc 1 a b u = some x → ZSpec G m_Reader_readOpened d [.ref 9, .int a, .int b] u (zemI x)) (h2 : ∀ (a : Int32) (u : ZSt) x, rc 2 a 0 u = some x → ZSpec G m_Reader_readOperand d [.ref 9, .int a] u (zemI x)) (a : Int32) (u : ZSt) (x : Int32 × ZSt) (hx : t_Reader_readOperand rc a u = some x) : ZSpec G m_Reader_readOperand (d + 1) [.ref 9, .int a] u (zemI x) :=
  ZSpec.go k_Reader_readOperand (Nat.le_of_ble_eq_true rfl) (w_Reader_readOperand G rc d hd h0 h1 h2 a u) (tgt := zemI x) (by rw [hx]; rfl)
set_option maxRecDepth 100000 in
set_option maxHeartbeats 4000000 in
theorem sr_Reader_readChain (G : ZG) : ∀ n, (∀ (a : Int32) (b : Int32) (u : ZSt) x, r_Reader_readChain n 0 a b u = some x → ZSpec G m_Reader_readChain (n + 3) [.ref 9, .int a, .int b] u (zemI x)) ∧ (∀ (a : Int32) (b : Int32) (u : ZSt) x, r_Reader_readChain n 1 a b u = some x → ZSpec G m_Reader_readOpened (n + 3) [.ref 9, .int a, .int b] u (zemI x)) ∧ (∀ (a : Int32) (u : ZSt) x, r_Reader_readChain n 2 a 0 u = some x → ZSpec G m_Reader_readOperand (n + 3) [.ref 9, .int a] u (zemI x))
  | 0 => ⟨(fun _ _ _ _ h => by cases h), (fun _ _ _ _ h => by cases h), (fun _ _ _ h => by cases h)⟩
  | n + 1 => by
    obtain ⟨g0, g1, g2⟩ := sr_Reader_readChain G n
    have e : n + 1 + 3 = (n + 3) + 1 := by omega
    rw [e]
    exact ⟨(fun a b u x h => ts_Reader_readChain G (r_Reader_readChain n) (n + 3) (by omega) g0 g1 g2 a b u x h), (fun a b u x h => ts_Reader_readOpened G (r_Reader_readChain n) (n + 3) (by omega) g0 g1 g2 a b u x h), (fun a u x h => ts_Reader_readOperand G (r_Reader_readChain n) (n + 3) (by omega) g0 g1 g2 a u x h)⟩
theorem s_Reader_readChain (G : ZG) (a : Int32) (b : Int32) (u : ZSt) (x : Int32 × ZSt) (hx : f_Reader_readChain a b u = some x) : ZSpec G m_Reader_readChain 103 [.ref 9, .int a, .int b] u (zemI x) := (sr_Reader_readChain G 100).1 a b u x hx
theorem s_Reader_readOpened (G : ZG) (a : Int32) (b : Int32) (u : ZSt) (x : Int32 × ZSt) (hx : f_Reader_readOpened a b u = some x) : ZSpec G m_Reader_readOpened 103 [.ref 9, .int a, .int b] u (zemI x) := (sr_Reader_readChain G 100).2.1 a b u x hx
theorem s_Reader_readOperand (G : ZG) (a : Int32) (u : ZSt) (x : Int32 × ZSt) (hx : f_Reader_readOperand a u = some x) : ZSpec G m_Reader_readOperand 103 [.ref 9, .int a] u (zemI x) := (sr_Reader_readChain G 100).2.2 a u x hx
set_option maxRecDepth 100000 in
set_option maxHeartbeats 4000000 in
theorem w_Reader_readLine (G : ZG) (u : ZSt) : ZGo G m_Reader_readLine 104 (f_Reader_readLine u) zkI 0 [(0, .ref 9)] [] u := by
  unfold f_Reader_readLine
  refine g_aload_n rfl rfl ?_
  refine g_iconst (v := (0 : Int32)) rfl zic_0 ?_
  refine g_iconst (v := (0 : Int32)) rfl zic_0 ?_
  refine g_callVI (M' := m_Reader_readChain) (d' := 103) (as := [.int (0 : Int32), .int (0 : Int32)]) (rest := []) (ci := 6) (o := 9) rfl ml_Reader_40 v_Reader_readChain (by decide) rfl (by decide) rfl rfl rfl (Nat.le_of_ble_eq_true rfl) (fun x_ e_ => s_Reader_readChain G (0 : Int32) (0 : Int32) u x_ e_) (fun q622r q622u e623 b624 => ?_)
  refine g_ifne rfl (fun c625 => ?_) (fun c625 => ?_)
  · refine g_aload_n rfl rfl ?_
    refine g_callVP (M' := m_Reader_next) (d' := 1) (as := []) (rest := []) (ci := 6) (o := 9) rfl ml_Reader_36 v_Reader_next (by decide) rfl (by decide) rfl rfl rfl (Nat.le_of_ble_eq_true rfl) (fun x_ e_ => s_Reader_next G  q622u x_ e_) (fun q626 e627 b628 => ?_)
    refine g_bipush (v := (63 : Int32)) rfl zib_63 ?_
    refine g_icmpeq rfl (fun c629 => ?_) (fun c629 => ?_)
    · refine g_aload_n rfl rfl ?_
      refine g_dup rfl rfl ?_
      refine g_getI rfl zf_Reader_26 rfl rfl rfl ?_
      refine g_iconst (v := (1 : Int32)) rfl zic_1 ?_
      refine g_iadd rfl ?_
      refine g_put (j := 903) rfl zf_Reader_26 rfl rfl zp_6_3.1 (Or.inl zp_6_3.2) rfl ?_
      refine g_aload_n rfl rfl ?_
      refine g_iconst (v := (0 : Int32)) rfl zic_0 ?_
      refine g_iconst (v := (0 : Int32)) rfl zic_0 ?_
      refine g_callVI (M' := m_Reader_readChain) (d' := 103) (as := [.int (0 : Int32), .int (0 : Int32)]) (rest := []) (ci := 6) (o := 9) rfl ml_Reader_40 v_Reader_readChain (by decide) rfl (by decide) rfl rfl rfl (Nat.le_of_ble_eq_true rfl) (fun x_ e_ => s_Reader_readChain G (0 : Int32) (0 : Int32) (zs q622u 903 ((q622u.1 903) + (1 : Int32))) x_ e_) (fun q630r q630u e631 b632 => ?_)
      refine g_ifne rfl (fun c633 => ?_) (fun c633 => ?_)
      · refine g_aload_n rfl rfl ?_
        refine g_getR rfl zf_Reader_18 rfl rfl ?_
        refine g_bipush (v := (63 : Int32)) rfl zib_63 ?_
        refine g_iconst (v := (0 : Int32)) rfl zic_0 ?_
        refine g_callVV (M' := m_Code_add) (d' := 1) (as := [.int (63 : Int32), .int (0 : Int32)]) (rest := []) (ci := 2) (o := 11) rfl ml_Reader_44 v_Code_add (by decide) rfl (by decide) rfl rfl rfl (Nat.le_of_ble_eq_true rfl) (fun x_ e_ => s_Code_addD G (63 : Int32) (0 : Int32) q630u x_ e_) (fun q634 e635 b636 => ?_)
        refine g_iconst (v := (1 : Int32)) rfl zic_1 ?_
        exact g_iret rfl (Or.inr ⟨rfl, Or.inr rfl⟩) rfl
      · refine g_iconst (v := (0 : Int32)) rfl zic_0 ?_
        exact g_iret rfl (Or.inr ⟨rfl, Or.inl rfl⟩) rfl
    · refine g_aload_n rfl rfl ?_
      refine g_getR rfl zf_Reader_18 rfl rfl ?_
      refine g_bipush (v := (59 : Int32)) rfl zib_59 ?_
      refine g_iconst (v := (0 : Int32)) rfl zic_0 ?_
      refine g_callVV (M' := m_Code_add) (d' := 1) (as := [.int (59 : Int32), .int (0 : Int32)]) (rest := []) (ci := 2) (o := 11) rfl ml_Reader_44 v_Code_add (by decide) rfl (by decide) rfl rfl rfl (Nat.le_of_ble_eq_true rfl) (fun x_ e_ => s_Code_addD G (59 : Int32) (0 : Int32) q622u x_ e_) (fun q637 e638 b639 => ?_)
      refine g_iconst (v := (1 : Int32)) rfl zic_1 ?_
      exact g_iret rfl (Or.inr ⟨rfl, Or.inr rfl⟩) rfl
  · refine g_iconst (v := (0 : Int32)) rfl zic_0 ?_
    exact g_iret rfl (Or.inr ⟨rfl, Or.inl rfl⟩) rfl
theorem s_Reader_readLine (G : ZG) (u : ZSt) (x : Int32 × ZSt) (hx : f_Reader_readLine u = some x) : ZSpec G m_Reader_readLine 104 [.ref 9] u (zemI x) :=
  ZSpec.go k_Reader_readLine (Nat.le_of_ble_eq_true rfl) (w_Reader_readLine G u) (tgt := zemI x) (by rw [hx]; rfl)
set_option maxRecDepth 100000 in
set_option maxHeartbeats 4000000 in
theorem wb_Reader_read_11 (G : ZG) (l1 : Int32) (l2 : Int32) (u : ZSt) (K : ((Int32 × Int32 × ZSt) ⊕ (Int32 × Int32 × ZSt)) → Option (Value × ZSt)) (hb : ∀ (l1 : Int32) (l2 : Int32) (u : ZSt), ZGo G m_Reader_read 105 (K (.inl (l1, l2, u))) some 11 [(0, .ref 9), (1, .int l1), (2, .int l2)] [] u) (hx : ∀ (l1 : Int32) (l2 : Int32) (u : ZSt), ZGo G m_Reader_read 105 (K (.inr (l1, l2, u))) some 31 [(0, .ref 9), (1, .int l1)] [] u) : ZGo G m_Reader_read 105 (b_Reader_read_11 l1 l2 u) K 11 [(0, .ref 9), (1, .int l1), (2, .int l2)] [] u := by
  unfold b_Reader_read_11
  refine g_iload_n rfl rfl ?_
  refine g_bipush (v := (120 : Int32)) rfl zib_120 ?_
  refine g_icmpge rfl (fun c646 => ?_) (fun c646 => ?_)
  · exact zgo_sub (zsubk [0, 1] rfl) (zgo_leaf (hx l1 l2 u))
  · refine g_iload_n rfl rfl ?_
    refine g_ifeq rfl (fun c647 => ?_) (fun c647 => ?_)
    · exact zgo_sub (zsubk [0, 1] rfl) (zgo_leaf (hx l1 l2 u))
    · refine g_aload_n rfl rfl ?_
      refine g_callVP (M' := m_Reader_next) (d' := 1) (as := []) (rest := []) (ci := 6) (o := 9) rfl ml_Reader_36 v_Reader_next (by decide) rfl (by decide) rfl rfl rfl (Nat.le_of_ble_eq_true rfl) (fun x_ e_ => s_Reader_next G  u x_ e_) (fun q648 e649 b650 => ?_)
      refine g_bipush (v := (59 : Int32)) rfl zib_59 ?_
      refine g_icmpne rfl (fun c651 => ?_) (fun c651 => ?_)
      · exact zgo_sub (zsubk [0, 1] rfl) (zgo_leaf (hx l1 l2 u))
      · refine g_aload_n rfl rfl ?_
        refine g_dup rfl rfl ?_
        refine g_getI rfl zf_Reader_26 rfl rfl rfl ?_
        refine g_iconst (v := (1 : Int32)) rfl zic_1 ?_
        refine g_iadd rfl ?_
        refine g_put (j := 903) rfl zf_Reader_26 rfl rfl zp_6_3.1 (Or.inl zp_6_3.2) rfl ?_
        refine g_aload_n rfl rfl ?_
        refine g_callVI (M' := m_Reader_readLine) (d' := 104) (as := []) (rest := []) (ci := 6) (o := 9) rfl ml_Reader_32 v_Reader_readLine (by decide) rfl (by decide) rfl rfl rfl (Nat.le_of_ble_eq_true rfl) (fun x_ e_ => s_Reader_readLine G  (zs u 903 ((u.1 903) + (1 : Int32))) x_ e_) (fun q652r q652u e653 b654 => ?_)
        refine g_istore_n (lv' := [(0, .ref 9), (1, .int q652r), (2, .int l2)]) rfl (Nat.le_of_ble_eq_true rfl) rfl rfl ?_
        refine g_iinc (v := (1 : Int32)) (lv' := [(0, .ref 9), (1, .int q652r), (2, .int (l2 + (1 : Int32)))]) rfl rfl zic_1 (Nat.le_of_ble_eq_true rfl) rfl rfl ?_
        refine g_goto rfl ?_
        exact zgo_sub (zsubk [0, 1, 2] rfl) (zgo_leaf (hb q652r (l2 + (1 : Int32)) q652u))
set_option maxRecDepth 100000 in
set_option maxHeartbeats 4000000 in
theorem wa_Reader_read_11 (G : ZG) (l1 : Int32) (u : ZSt) : ZGo G m_Reader_read 105 (a_Reader_read_11 l1 u) zkI 31 [(0, .ref 9), (1, .int l1)] [] u := by
  unfold a_Reader_read_11
  refine g_iload_n rfl rfl ?_
  refine g_ifeq rfl (fun c655 => ?_) (fun c655 => ?_)
  · refine g_aload_n rfl rfl ?_
    refine g_getI rfl zf_Reader_26 rfl rfl rfl ?_
    refine g_istore_n (lv' := [(0, .ref 9), (1, .int l1), (2, .int (u.1 903))]) rfl (Nat.le_of_ble_eq_true rfl) rfl rfl ?_
    refine g_aload_n rfl rfl ?_
    refine g_iconst (v := (0 : Int32)) rfl zic_0 ?_
    refine g_put (j := 902) rfl zf_Reader_22 rfl rfl zp_6_2.1 (Or.inl zp_6_2.2) rfl ?_
    refine g_iload_n rfl rfl ?_
    exact g_iret rfl (Or.inl rfl) rfl
  · refine g_aload_n rfl rfl ?_
    refine g_callVP (M' := m_Reader_next) (d' := 1) (as := []) (rest := []) (ci := 6) (o := 9) rfl ml_Reader_36 v_Reader_next (by decide) rfl (by decide) rfl rfl rfl (Nat.le_of_ble_eq_true rfl) (fun x_ e_ => s_Reader_next G  u x_ e_) (fun q656 e657 b658 => ?_)
    refine g_iconst (v := (-1 : Int32)) rfl zic_m1 ?_
    refine g_icmpne rfl (fun c659 => ?_) (fun c659 => ?_)
    · refine g_aload_n rfl rfl ?_
      refine g_getI rfl zf_Reader_26 rfl rfl rfl ?_
      refine g_istore_n (lv' := [(0, .ref 9), (1, .int l1), (2, .int (u.1 903))]) rfl (Nat.le_of_ble_eq_true rfl) rfl rfl ?_
      refine g_aload_n rfl rfl ?_
      refine g_iconst (v := (0 : Int32)) rfl zic_0 ?_
      refine g_put (j := 902) rfl zf_Reader_22 rfl rfl zp_6_2.1 (Or.inl zp_6_2.2) rfl ?_
      refine g_iload_n rfl rfl ?_
      exact g_iret rfl (Or.inl rfl) rfl
    · refine g_iconst (v := (-1 : Int32)) rfl zic_m1 ?_
      refine g_goto rfl ?_
      refine g_istore_n (lv' := [(0, .ref 9), (1, .int l1), (2, .int (-1 : Int32))]) rfl (Nat.le_of_ble_eq_true rfl) rfl rfl ?_
      refine g_aload_n rfl rfl ?_
      refine g_iconst (v := (0 : Int32)) rfl zic_0 ?_
      refine g_put (j := 902) rfl zf_Reader_22 rfl rfl zp_6_2.1 (Or.inl zp_6_2.2) rfl ?_
      refine g_iload_n rfl rfl ?_
      exact g_iret rfl (Or.inl rfl) rfl
set_option maxRecDepth 100000 in
set_option maxHeartbeats 4000000 in
theorem w_Reader_read (G : ZG) (u : ZSt) : ZGo G m_Reader_read 105 (f_Reader_read u) zkI 0 [(0, .ref 9)] [] u := by
  unfold f_Reader_read
  refine g_aload_n rfl rfl ?_
  refine g_iconst (v := (0 : Int32)) rfl zic_0 ?_
  refine g_put (j := 903) rfl zf_Reader_26 rfl rfl zp_6_3.1 (Or.inl zp_6_3.2) rfl ?_
  refine g_aload_n rfl rfl ?_
  refine g_getR rfl zf_Reader_18 rfl rfl ?_
  refine g_callVV (M' := m_Code_empty) (d' := 1) (as := []) (rest := []) (ci := 2) (o := 11) rfl ml_Reader_29 v_Code_empty (by decide) rfl (by decide) rfl rfl rfl (Nat.le_of_ble_eq_true rfl) (fun x_ e_ => s_Code_emptyD G  (zs u 903 (0 : Int32)) x_ e_) (fun q640 e641 b642 => ?_)
  refine g_aload_n rfl rfl ?_
  refine g_callVI (M' := m_Reader_readLine) (d' := 104) (as := []) (rest := []) (ci := 6) (o := 9) rfl ml_Reader_32 v_Reader_readLine (by decide) rfl (by decide) rfl rfl rfl (Nat.le_of_ble_eq_true rfl) (fun x_ e_ => s_Reader_readLine G  q640 x_ e_) (fun q643r q643u e644 b645 => ?_)
  refine g_istore_n (lv' := [(0, .ref 9), (1, .int q643r)]) rfl (Nat.le_of_ble_eq_true rfl) rfl rfl ?_
  refine g_iconst (v := (0 : Int32)) rfl zic_0 ?_
  refine g_istore_n (lv' := [(0, .ref 9), (1, .int q643r), (2, .int (0 : Int32))]) rfl (Nat.le_of_ble_eq_true rfl) rfl rfl ?_
  refine zgo_sub (lv' := [(0, .ref 9), (1, .int q643r), (2, .int (0 : Int32))]) (zsubk [0, 1, 2] rfl) ?_
  refine zgo_loop (σ := Int32 × Int32 × ZSt) (lvf := fun s => [(0, .ref 9), (1, .int s.1), (2, .int s.2.1)]) (uf := (fun s => s.2.2)) ?_ zfu _
  intro s K' ih he
  refine wb_Reader_read_11 G s.1 s.2.1 s.2.2 K' ?_ ?_
  · intro c0 c1 v
    exact ih (c0, c1, v)
  · intro c0 c1 v
    rw [he]
    exact zgo_unleaf (wa_Reader_read_11 G c0 v)
theorem s_Reader_read (G : ZG) (u : ZSt) (x : Int32 × ZSt) (hx : f_Reader_read u = some x) : ZSpec G m_Reader_read 105 [.ref 9] u (zemI x) :=
  ZSpec.go k_Reader_read (Nat.le_of_ble_eq_true rfl) (w_Reader_read G u) (tgt := zemI x) (by rw [hx]; rfl)
set_option maxRecDepth 100000 in
set_option maxHeartbeats 4000000 in
theorem w_Code_becomesT (G : ZG) (u : ZSt) : ZGo G m_Code_becomes 1 (f_Code_becomesT u) zkV 0 [(0, .ref 15), (1, .ref 11)] [] u := by
  unfold f_Code_becomesT
  refine g_aload_n rfl rfl ?_
  refine g_aload_n rfl rfl ?_
  refine g_getI rfl zf_Code_19 rfl rfl rfl ?_
  refine g_put (j := 1503) rfl zf_Code_19 rfl rfl zp_2_3.1 (Or.inl zp_2_3.2) rfl ?_
  refine g_aload_n rfl rfl ?_
  refine g_getR rfl zf_Code_9 rfl rfl ?_
  refine g_iconst (v := (0 : Int32)) rfl zic_0 ?_
  refine g_aload_n rfl rfl ?_
  refine g_getR rfl zf_Code_9 rfl rfl ?_
  refine g_iconst (v := (0 : Int32)) rfl zic_0 ?_
  refine g_sipush (v := (128 : Int32)) rfl zis_128 ?_
  refine zgo_of_ck (c := zcpok (0 : Int32) (0 : Int32) (128 : Int32) 128 128) (by decide) (g_copyI rfl ml_Code_23 rfl rfl (by decide) (fun _ => ?_))
  refine g_aload_n rfl rfl ?_
  refine g_getR rfl zf_Code_13 rfl rfl ?_
  refine g_iconst (v := (0 : Int32)) rfl zic_0 ?_
  refine g_aload_n rfl rfl ?_
  refine g_getR rfl zf_Code_13 rfl rfl ?_
  refine g_iconst (v := (0 : Int32)) rfl zic_0 ?_
  refine g_sipush (v := (128 : Int32)) rfl zis_128 ?_
  refine zgo_of_ck (c := zcpok (0 : Int32) (0 : Int32) (128 : Int32) 128 128) (by decide) (g_copyI rfl ml_Code_23 rfl rfl (by decide) (fun _ => ?_))
  exact g_vret rfl rfl rfl
theorem s_Code_becomesT (G : ZG) (u : ZSt) (x : ZSt) (hx : f_Code_becomesT u = some x) : ZSpec G m_Code_becomes 1 [.ref 15, .ref 11] u (zemV x) :=
  ZSpec.go k_Code_becomes (Nat.le_of_ble_eq_true rfl) (w_Code_becomesT G u) (tgt := zemV x) (by rw [hx]; rfl)
set_option maxRecDepth 100000 in
set_option maxHeartbeats 4000000 in
theorem w_X_law (G : ZG) (u : ZSt) : ZGo G m_X_law 106 (f_X_law u) zkI 0 [(0, .ref 0)] [] u := by
  unfold f_X_law
  refine g_aload_n rfl rfl ?_
  refine g_getR rfl zf_X_28 rfl rfl ?_
  refine g_callVI (M' := m_Reader_read) (d' := 105) (as := []) (rest := []) (ci := 6) (o := 9) rfl ml_X_161 v_Reader_read (by decide) rfl (by decide) rfl rfl rfl (Nat.le_of_ble_eq_true rfl) (fun x_ e_ => s_Reader_read G  u x_ e_) (fun q660r q660u e661 b662 => ?_)
  refine g_istore_n (lv' := [(0, .ref 0), (1, .int q660r)]) rfl (Nat.le_of_ble_eq_true rfl) rfl rfl ?_
  refine g_iload_n rfl rfl ?_
  refine g_iflt rfl (fun c663 => ?_) (fun c663 => ?_)
  · refine g_aload_n rfl rfl ?_
    refine g_getR rfl zf_X_35 rfl rfl ?_
    refine g_aload_n rfl rfl ?_
    refine g_getR rfl zf_X_28 rfl rfl ?_
    refine g_getR rfl zf_X_164 rfl rfl ?_
    refine g_callVV (M' := m_Code_becomes) (d' := 1) (as := [.ref 11]) (rest := []) (ci := 2) (o := 15) rfl ml_X_167 v_Code_becomes (by decide) rfl (by decide) rfl rfl rfl (Nat.le_of_ble_eq_true rfl) (fun x_ e_ => s_Code_becomesT G  q660u x_ e_) (fun q664 e665 b666 => ?_)
    refine g_iconst (v := (1 : Int32)) rfl zic_1 ?_
    exact g_iret rfl (Or.inl rfl) rfl
  · refine g_bipush (v := (-100 : Int32)) rfl zib_m100 ?_
    refine g_iload_n rfl rfl ?_
    refine g_isub rfl ?_
    exact g_iret rfl (Or.inl rfl) rfl
theorem s_X_law (G : ZG) (u : ZSt) (x : Int32 × ZSt) (hx : f_X_law u = some x) : ZSpec G m_X_law 106 [.ref 0] u (zemI x) :=
  ZSpec.go k_X_law (Nat.le_of_ble_eq_true rfl) (w_X_law G u) (tgt := zemI x) (by rw [hx]; rfl)
set_option maxRecDepth 100000 in
set_option maxHeartbeats 4000000 in
theorem w_M_byteAt (G : ZG) (u : ZSt) : ZGo G m_M_byteAt 1 (f_M_byteAt u) (zkP u) 0 [(0, .ref 39)] [] u := by
  unfold f_M_byteAt
  refine g_aload_n rfl rfl ?_
  refine g_getI rfl zf_M_152 rfl rfl rfl ?_
  refine g_aload_n rfl rfl ?_
  refine g_getI rfl zf_M_155 rfl rfl rfl ?_
  refine g_icmpge rfl (fun c667 => ?_) (fun c667 => ?_)
  · refine g_iconst (v := (0 : Int32)) rfl zic_0 ?_
    exact g_iret rfl (Or.inl rfl) rfl
  · refine g_aload_n rfl rfl ?_
    refine g_getI rfl zf_M_158 rfl rfl rfl ?_
    refine g_ifge rfl (fun c668 => ?_) (fun c668 => ?_)
    · refine g_aload_n rfl rfl ?_
      refine g_getR rfl zf_M_31 rfl rfl ?_
      refine g_aload_n rfl rfl ?_
      refine g_getI rfl zf_M_158 rfl rfl rfl ?_
      refine g_aload_n rfl rfl ?_
      refine g_getI rfl zf_M_152 rfl rfl rfl ?_
      refine g_iadd rfl ?_
      refine g_iald rfl rfl (fun o669 => ?_)
      refine g_goto rfl ?_
      exact g_iret rfl (Or.inl rfl) rfl
    · refine g_aload_n rfl rfl ?_
      refine g_getR rfl zf_M_28 rfl rfl ?_
      refine g_aload_n rfl rfl ?_
      refine g_getI rfl zf_M_152 rfl rfl rfl ?_
      refine g_iald rfl rfl (fun o670 => ?_)
      refine g_goto rfl ?_
      exact g_iret rfl (Or.inl rfl) rfl
theorem s_M_byteAt (G : ZG) (u : ZSt) (x : Int32) (hx : f_M_byteAt u = some x) : ZSpec G m_M_byteAt 1 [.ref 39] u ((zemP u) x) :=
  ZSpec.go k_M_byteAt (Nat.le_of_ble_eq_true rfl) (w_M_byteAt G u) (tgt := (zemP u) x) (by rw [hx]; rfl)
set_option maxRecDepth 100000 in
set_option maxHeartbeats 4000000 in
theorem w_M_wrong (G : ZG) (u : ZSt) : ZGo G m_M_wrong 1 (f_M_wrong u) zkI 0 [(0, .ref 39)] [] u := by
  unfold f_M_wrong
  refine g_aload_n rfl rfl ?_
  refine g_aload_n rfl rfl ?_
  refine g_getI rfl zf_M_161 rfl rfl rfl ?_
  refine g_ifge rfl (fun c671 => ?_) (fun c671 => ?_)
  · refine g_aload_n rfl rfl ?_
    refine g_getI rfl zf_M_161 rfl rfl rfl ?_
    refine g_put (j := 3920) rfl zf_M_161 rfl rfl zp_11_20.1 (Or.inl zp_11_20.2) rfl ?_
    refine g_iconst (v := (0 : Int32)) rfl zic_0 ?_
    exact g_iret rfl (Or.inl rfl) rfl
  · refine g_aload_n rfl rfl ?_
    refine g_getI rfl zf_M_152 rfl rfl rfl ?_
    refine g_goto rfl ?_
    refine g_put (j := 3920) rfl zf_M_161 rfl rfl zp_11_20.1 (Or.inl zp_11_20.2) rfl ?_
    refine g_iconst (v := (0 : Int32)) rfl zic_0 ?_
    exact g_iret rfl (Or.inl rfl) rfl
theorem s_M_wrong (G : ZG) (u : ZSt) (x : Int32 × ZSt) (hx : f_M_wrong u = some x) : ZSpec G m_M_wrong 1 [.ref 39] u (zemI x) :=
  ZSpec.go k_M_wrong (Nat.le_of_ble_eq_true rfl) (w_M_wrong G u) (tgt := zemI x) (by rw [hx]; rfl)
set_option maxRecDepth 100000 in
set_option maxHeartbeats 4000000 in
theorem w_M_takes (G : ZG) (a : Int32) (u : ZSt) : ZGo G m_M_takes 2 (f_M_takes a u) zkI 0 [(0, .ref 39), (1, .int a)] [] u := by
  unfold f_M_takes
  refine g_aload_n rfl rfl ?_
  refine g_getI rfl zf_M_161 rfl rfl rfl ?_
  refine g_ifge rfl (fun c672 => ?_) (fun c672 => ?_)
  · refine g_iconst (v := (0 : Int32)) rfl zic_0 ?_
    exact g_iret rfl (Or.inr ⟨rfl, Or.inl rfl⟩) rfl
  · refine g_aload_n rfl rfl ?_
    refine g_callVP (M' := m_M_byteAt) (d' := 1) (as := []) (rest := []) (ci := 11) (o := 39) rfl ml_M_164 v_M_byteAt (by decide) rfl (by decide) rfl rfl rfl (Nat.le_of_ble_eq_true rfl) (fun x_ e_ => s_M_byteAt G  u x_ e_) (fun q673 e674 b675 => ?_)
    refine g_iload_n rfl rfl ?_
    refine g_icmpeq rfl (fun c676 => ?_) (fun c676 => ?_)
    · refine g_aload_n rfl rfl ?_
      refine g_dup rfl rfl ?_
      refine g_getI rfl zf_M_152 rfl rfl rfl ?_
      refine g_iconst (v := (1 : Int32)) rfl zic_1 ?_
      refine g_iadd rfl ?_
      refine g_put (j := 3918) rfl zf_M_152 rfl rfl zp_11_18.1 (Or.inl zp_11_18.2) rfl ?_
      refine g_iconst (v := (1 : Int32)) rfl zic_1 ?_
      exact g_iret rfl (Or.inr ⟨rfl, Or.inr rfl⟩) rfl
    · refine g_iconst (v := (0 : Int32)) rfl zic_0 ?_
      exact g_iret rfl (Or.inr ⟨rfl, Or.inl rfl⟩) rfl
theorem s_M_takes (G : ZG) (a : Int32) (u : ZSt) (x : Int32 × ZSt) (hx : f_M_takes a u = some x) : ZSpec G m_M_takes 2 [.ref 39, .int a] u (zemI x) :=
  ZSpec.go k_M_takes (Nat.le_of_ble_eq_true rfl) (w_M_takes G a u) (tgt := zemI x) (by rw [hx]; rfl)
set_option maxRecDepth 100000 in
set_option maxHeartbeats 4000000 in
theorem w_M_nameOf (G : ZG) (a : Int32) (u : ZSt) : ZGo G m_M_nameOf 1 (f_M_nameOf a) (zkP u) 0 [(0, .int a)] [] u := by
  unfold f_M_nameOf
  refine g_iload_n rfl rfl ?_
  refine zgo_ite (fun c677 => ?_) (fun c677 => ?_)
  · refine g_tswIn rfl c677 (by decide) (by decide) (off := 81) (by decide +kernel) 12 rfl ?_
    refine g_iconst (v := (5 : Int32)) rfl zic_5 ?_
    exact g_iret rfl (Or.inl rfl) rfl
  · refine zgo_ite (fun c678 => ?_) (fun c678 => ?_)
    · refine g_tswIn rfl c678 (by decide) (by decide) (off := 73) (by decide +kernel) 4 rfl ?_
      refine g_iconst (v := (1 : Int32)) rfl zic_1 ?_
      exact g_iret rfl (Or.inl rfl) rfl
    · refine zgo_ite (fun c679 => ?_) (fun c679 => ?_)
      · refine g_tswIn rfl c679 (by decide) (by decide) (off := 75) (by decide +kernel) 6 rfl ?_
        refine g_iconst (v := (2 : Int32)) rfl zic_2 ?_
        exact g_iret rfl (Or.inl rfl) rfl
      · refine zgo_ite (fun c680 => ?_) (fun c680 => ?_)
        · refine g_tswIn rfl c680 (by decide) (by decide) (off := 79) (by decide +kernel) 10 rfl ?_
          refine g_iconst (v := (4 : Int32)) rfl zic_4 ?_
          exact g_iret rfl (Or.inl rfl) rfl
        · refine zgo_ite (fun c681 => ?_) (fun c681 => ?_)
          · refine g_tswIn rfl c681 (by decide) (by decide) (off := 77) (by decide +kernel) 8 rfl ?_
            refine g_iconst (v := (3 : Int32)) rfl zic_3 ?_
            exact g_iret rfl (Or.inl rfl) rfl
          · refine zgo_ite (fun c682 => ?_) (fun c682 => ?_)
            · refine g_tswIn rfl c682 (by decide) (by decide) (off := 71) (by decide +kernel) 2 rfl ?_
              refine g_iconst (v := (0 : Int32)) rfl zic_0 ?_
              exact g_iret rfl (Or.inl rfl) rfl
            · refine g_tswD rfl [103, 107, 108, 110, 112, 116] 14 (by decide) (by decide +kernel) (List.forall_mem_cons.mpr ⟨z_ne c677 rfl, (List.forall_mem_cons.mpr ⟨z_ne c678 rfl, (List.forall_mem_cons.mpr ⟨z_ne c679 rfl, (List.forall_mem_cons.mpr ⟨z_ne c680 rfl, (List.forall_mem_cons.mpr ⟨z_ne c681 rfl, (List.forall_mem_cons.mpr ⟨z_ne c682 rfl, (fun _ h => absurd h List.not_mem_nil)⟩)⟩)⟩)⟩)⟩)⟩) 14 rfl ?_
              refine g_iconst (v := (-1 : Int32)) rfl zic_m1 ?_
              exact g_iret rfl (Or.inl rfl) rfl
theorem s_M_nameOf (G : ZG) (a : Int32) (u : ZSt) (x : Int32) (hx : f_M_nameOf a = some x) : ZSpec G m_M_nameOf 1 [.int a] u ((zemP u) x) :=
  ZSpec.go k_M_nameOf (Nat.le_of_ble_eq_true rfl) (w_M_nameOf G a u) (tgt := (zemP u) x) (by rw [hx]; rfl)
set_option maxRecDepth 100000 in
set_option maxHeartbeats 4000000 in
theorem wb_M_both_3 (G : ZG) (rc : Nat → ZSt → Option (Int32 × ZSt)) (d : Nat) (hd : 3 ≤ d) (h0 : ∀ (u : ZSt) x, rc 0  u = some x → ZSpec G m_M_both d [.ref 39] u (zemI x)) (h1 : ∀ (u : ZSt) x, rc 1  u = some x → ZSpec G m_M_compared d [.ref 39] u (zemI x)) (h2 : ∀ (u : ZSt) x, rc 2  u = some x → ZSpec G m_M_either d [.ref 39] u (zemI x)) (h3 : ∀ (u : ZSt) x, rc 3  u = some x → ZSpec G m_M_one d [.ref 39] u (zemI x)) (h4 : ∀ (u : ZSt) x, rc 4  u = some x → ZSpec G m_M_product d [.ref 39] u (zemI x)) (h5 : ∀ (u : ZSt) x, rc 5  u = some x → ZSpec G m_M_sums d [.ref 39] u (zemI x)) (l1 : Int32) (u : ZSt) (K : ((Int32 × ZSt) ⊕ (Int32 × ZSt)) → Option (Value × ZSt)) (hb : ∀ (l1 : Int32) (u : ZSt), ZGo G m_M_both (d + 1) (K (.inl (l1, u))) some 3 [(0, .ref 39), (1, .int l1)] [] u) (hx : ∀ (l1 : Int32) (u : ZSt), ZGo G m_M_both (d + 1) (K (.inr (l1, u))) some 19 [(1, .int l1)] [] u) : ZGo G m_M_both (d + 1) (b_M_both_3 rc l1 u) K 3 [(0, .ref 39), (1, .int l1)] [] u := by
  unfold b_M_both_3
  refine g_aload_n rfl rfl ?_
  refine g_bipush (v := (38 : Int32)) rfl zib_38 ?_
  refine g_callVI (M' := m_M_takes) (d' := 2) (as := [.int (38 : Int32)]) (rest := []) (ci := 11) (o := 39) rfl ml_M_171 v_M_takes (by omega) rfl (by decide) rfl rfl rfl (Nat.le_of_ble_eq_true rfl) (fun x_ e_ => s_M_takes G (38 : Int32) u x_ e_) (fun q686r q686u e687 b688 => ?_)
  refine g_ifeq rfl (fun c689 => ?_) (fun c689 => ?_)
  · exact zgo_sub (zsubk [1] rfl) (zgo_leaf (hx l1 q686u))
  · refine g_aload_n rfl rfl ?_
    refine g_callVI (M' := m_M_compared) (d' := d) (as := []) (rest := []) (ci := 11) (o := 39) rfl ml_M_174 v_M_compared (by omega) rfl (by decide) rfl rfl rfl (Nat.le_of_ble_eq_true rfl) (fun x_ e_ => h1  q686u x_ e_) (fun q690r q690u e691 b692 => ?_)
    refine g_istore_n (lv' := [(0, .ref 39), (1, .int l1), (2, .int q690r)]) rfl (Nat.le_of_ble_eq_true rfl) rfl rfl ?_
    refine g_iload_n rfl rfl ?_
    refine g_ifeq rfl (fun c693 => ?_) (fun c693 => ?_)
    · refine g_iconst (v := (0 : Int32)) rfl zic_0 ?_
      refine g_istore_n (lv' := [(0, .ref 39), (1, .int (0 : Int32)), (2, .int q690r)]) rfl (Nat.le_of_ble_eq_true rfl) rfl rfl ?_
      refine g_goto rfl ?_
      exact zgo_sub (zsubk [0, 1] rfl) (zgo_leaf (hb (0 : Int32) q690u))
    · refine g_iload_n rfl rfl ?_
      refine g_ifeq rfl (fun c694 => ?_) (fun c694 => ?_)
      · refine g_iconst (v := (0 : Int32)) rfl zic_0 ?_
        refine g_istore_n (lv' := [(0, .ref 39), (1, .int (0 : Int32)), (2, .int q690r)]) rfl (Nat.le_of_ble_eq_true rfl) rfl rfl ?_
        refine g_goto rfl ?_
        exact zgo_sub (zsubk [0, 1] rfl) (zgo_leaf (hb (0 : Int32) q690u))
      · refine g_iconst (v := (1 : Int32)) rfl zic_1 ?_
        refine g_goto rfl ?_
        refine g_istore_n (lv' := [(0, .ref 39), (1, .int (1 : Int32)), (2, .int q690r)]) rfl (Nat.le_of_ble_eq_true rfl) rfl rfl ?_
        refine g_goto rfl ?_
        exact zgo_sub (zsubk [0, 1] rfl) (zgo_leaf (hb (1 : Int32) q690u))
set_option maxRecDepth 100000 in
set_option maxHeartbeats 4000000 in
theorem wa_M_both_3 (G : ZG) (rc : Nat → ZSt → Option (Int32 × ZSt)) (d : Nat) (hd : 3 ≤ d) (h0 : ∀ (u : ZSt) x, rc 0  u = some x → ZSpec G m_M_both d [.ref 39] u (zemI x)) (h1 : ∀ (u : ZSt) x, rc 1  u = some x → ZSpec G m_M_compared d [.ref 39] u (zemI x)) (h2 : ∀ (u : ZSt) x, rc 2  u = some x → ZSpec G m_M_either d [.ref 39] u (zemI x)) (h3 : ∀ (u : ZSt) x, rc 3  u = some x → ZSpec G m_M_one d [.ref 39] u (zemI x)) (h4 : ∀ (u : ZSt) x, rc 4  u = some x → ZSpec G m_M_product d [.ref 39] u (zemI x)) (h5 : ∀ (u : ZSt) x, rc 5  u = some x → ZSpec G m_M_sums d [.ref 39] u (zemI x)) (l1 : Int32) (u : ZSt) : ZGo G m_M_both (d + 1) (a_M_both_3 rc l1 u) zkI 19 [(1, .int l1)] [] u := by
  unfold a_M_both_3
  refine g_iload_n rfl rfl ?_
  exact g_iret rfl (Or.inl rfl) rfl
set_option maxRecDepth 100000 in
set_option maxHeartbeats 4000000 in
theorem w_M_both (G : ZG) (rc : Nat → ZSt → Option (Int32 × ZSt)) (d : Nat) (hd : 3 ≤ d) (h0 : ∀ (u : ZSt) x, rc 0  u = some x → ZSpec G m_M_both d [.ref 39] u (zemI x)) (h1 : ∀ (u : ZSt) x, rc 1  u = some x → ZSpec G m_M_compared d [.ref 39] u (zemI x)) (h2 : ∀ (u : ZSt) x, rc 2  u = some x → ZSpec G m_M_either d [.ref 39] u (zemI x)) (h3 : ∀ (u : ZSt) x, rc 3  u = some x → ZSpec G m_M_one d [.ref 39] u (zemI x)) (h4 : ∀ (u : ZSt) x, rc 4  u = some x → ZSpec G m_M_product d [.ref 39] u (zemI x)) (h5 : ∀ (u : ZSt) x, rc 5  u = some x → ZSpec G m_M_sums d [.ref 39] u (zemI x)) (u : ZSt) : ZGo G m_M_both (d + 1) (t_M_both rc u) zkI 0 [(0, .ref 39)] [] u := by
  unfold t_M_both
  refine g_aload_n rfl rfl ?_
  refine g_callVI (M' := m_M_compared) (d' := d) (as := []) (rest := []) (ci := 11) (o := 39) rfl ml_M_174 v_M_compared (by omega) rfl (by decide) rfl rfl rfl (Nat.le_of_ble_eq_true rfl) (fun x_ e_ => h1  u x_ e_) (fun q683r q683u e684 b685 => ?_)
  refine g_istore_n (lv' := [(0, .ref 39), (1, .int q683r)]) rfl (Nat.le_of_ble_eq_true rfl) rfl rfl ?_
  refine zgo_sub (lv' := [(0, .ref 39), (1, .int q683r)]) (zsubk [0, 1] rfl) ?_
  refine zgo_loop (σ := Int32 × ZSt) (lvf := fun s => [(0, .ref 39), (1, .int s.1)]) (uf := (fun s => s.2)) ?_ zfu _
  intro s K' ih he
  refine wb_M_both_3 G rc d hd h0 h1 h2 h3 h4 h5 s.1 s.2 K' ?_ ?_
  · intro c0 v
    exact ih (c0, v)
  · intro c0 v
    rw [he]
    exact zgo_unleaf (wa_M_both_3 G rc d hd h0 h1 h2 h3 h4 h5 c0 v)
set_option maxRecDepth 100000 in
set_option maxHeartbeats 4000000 in
theorem ts_M_both (G : ZG) (rc : Nat → ZSt → Option (Int32 × ZSt)) (d : Nat) (hd : 3 ≤ d) (h0 : ∀ (u : ZSt) x, rc 0  u = some x → ZSpec G m_M_both d [.ref 39] u (zemI x)) (h1 : ∀ (u : ZSt) x, rc 1  u = some x → ZSpec G m_M_compared d [.ref 39] u (zemI x)) (h2 : ∀ (u : ZSt) x, rc 2  u = some x → ZSpec G m_M_either d [.ref 39] u (zemI x)) (h3 : ∀ (u : ZSt) x, rc 3  u = some x → ZSpec G m_M_one d [.ref 39] u (zemI x)) (h4 : ∀ (u : ZSt) x, rc 4  u = some x → ZSpec G m_M_product d [.ref 39] u (zemI x)) (h5 : ∀ (u : ZSt) x, rc 5  u = some x → ZSpec G m_M_sums d [.ref 39] u (zemI x)) (u : ZSt) (x : Int32 × ZSt) (hx : t_M_both rc u = some x) : ZSpec G m_M_both (d + 1) [.ref 39] u (zemI x) :=
  ZSpec.go k_M_both (Nat.le_of_ble_eq_true rfl) (w_M_both G rc d hd h0 h1 h2 h3 h4 h5 u) (tgt := zemI x) (by rw [hx]; rfl)
set_option maxRecDepth 100000 in
set_option maxHeartbeats 4000000 in
theorem w_M_compared (G : ZG) (rc : Nat → ZSt → Option (Int32 × ZSt)) (d : Nat) (hd : 3 ≤ d) (h0 : ∀ (u : ZSt) x, rc 0  u = some x → ZSpec G m_M_both d [.ref 39] u (zemI x)) (h1 : ∀ (u : ZSt) x, rc 1  u = some x → ZSpec G m_M_compared d [.ref 39] u (zemI x)) (h2 : ∀ (u : ZSt) x, rc 2  u = some x → ZSpec G m_M_either d [.ref 39] u (zemI x)) (h3 : ∀ (u : ZSt) x, rc 3  u = some x → ZSpec G m_M_one d [.ref 39] u (zemI x)) (h4 : ∀ (u : ZSt) x, rc 4  u = some x → ZSpec G m_M_product d [.ref 39] u (zemI x)) (h5 : ∀ (u : ZSt) x, rc 5  u = some x → ZSpec G m_M_sums d [.ref 39] u (zemI x)) (u : ZSt) : ZGo G m_M_compared (d + 1) (t_M_compared rc u) zkI 0 [(0, .ref 39)] [] u := by
  unfold t_M_compared
  refine g_aload_n rfl rfl ?_
  refine g_callVI (M' := m_M_sums) (d' := d) (as := []) (rest := []) (ci := 11) (o := 39) rfl ml_M_177 v_M_sums (by omega) rfl (by decide) rfl rfl rfl (Nat.le_of_ble_eq_true rfl) (fun x_ e_ => h5  u x_ e_) (fun q695r q695u e696 b697 => ?_)
  refine g_istore_n (lv' := [(0, .ref 39), (1, .int q695r)]) rfl (Nat.le_of_ble_eq_true rfl) rfl rfl ?_
  refine g_aload_n rfl rfl ?_
  refine g_callVP (M' := m_M_byteAt) (d' := 1) (as := []) (rest := []) (ci := 11) (o := 39) rfl ml_M_164 v_M_byteAt (by omega) rfl (by decide) rfl rfl rfl (Nat.le_of_ble_eq_true rfl) (fun x_ e_ => s_M_byteAt G  q695u x_ e_) (fun q698 e699 b700 => ?_)
  refine g_istore_n (lv' := [(0, .ref 39), (1, .int q695r), (2, .int q698)]) rfl (Nat.le_of_ble_eq_true rfl) rfl rfl ?_
  refine g_aload_n rfl rfl ?_
  refine g_getI rfl zf_M_161 rfl rfl rfl ?_
  refine g_ifge rfl (fun c701 => ?_) (fun c701 => ?_)
  · refine g_iload_n rfl rfl ?_
    exact g_iret rfl (Or.inl rfl) rfl
  · refine g_iload_n rfl rfl ?_
    refine g_bipush (v := (60 : Int32)) rfl zib_60 ?_
    refine g_icmpeq rfl (fun c702 => ?_) (fun c702 => ?_)
    · refine g_aload_n rfl rfl ?_
      refine g_dup rfl rfl ?_
      refine g_getI rfl zf_M_152 rfl rfl rfl ?_
      refine g_iconst (v := (1 : Int32)) rfl zic_1 ?_
      refine g_iadd rfl ?_
      refine g_put (j := 3918) rfl zf_M_152 rfl rfl zp_11_18.1 (Or.inl zp_11_18.2) rfl ?_
      refine g_aload_n rfl rfl ?_
      refine g_callVI (M' := m_M_sums) (d' := d) (as := []) (rest := []) (ci := 11) (o := 39) rfl ml_M_177 v_M_sums (by omega) rfl (by decide) rfl rfl rfl (Nat.le_of_ble_eq_true rfl) (fun x_ e_ => h5  (zs q695u 3918 ((q695u.1 3918) + (1 : Int32))) x_ e_) (fun q703r q703u e704 b705 => ?_)
      refine g_istore_n (lv' := [(0, .ref 39), (1, .int q695r), (2, .int q698), (3, .int q703r)]) rfl (Nat.le_of_ble_eq_true rfl) rfl rfl ?_
      refine g_iload_n rfl rfl ?_
      refine g_bipush (v := (60 : Int32)) rfl zib_60 ?_
      refine g_icmpne rfl (fun c706 => ?_) (fun c706 => ?_)
      · refine g_iload_n rfl rfl ?_
        refine g_bipush (v := (61 : Int32)) rfl zib_61 ?_
        refine g_icmpne rfl (fun c707 => ?_) (fun c707 => ?_)
        · refine g_iload_n rfl rfl ?_
          refine g_iload_n rfl rfl ?_
          refine g_icmple rfl (fun c708 => ?_) (fun c708 => ?_)
          · refine g_iconst (v := (0 : Int32)) rfl zic_0 ?_
            exact g_iret rfl (Or.inl rfl) rfl
          · refine g_iconst (v := (1 : Int32)) rfl zic_1 ?_
            refine g_goto rfl ?_
            exact g_iret rfl (Or.inl rfl) rfl
        · refine g_iload_n rfl rfl ?_
          refine g_iload_n rfl rfl ?_
          refine g_icmpne rfl (fun c709 => ?_) (fun c709 => ?_)
          · refine g_iconst (v := (0 : Int32)) rfl zic_0 ?_
            exact g_iret rfl (Or.inl rfl) rfl
          · refine g_goto rfl ?_
            refine g_iconst (v := (1 : Int32)) rfl zic_1 ?_
            refine g_goto rfl ?_
            exact g_iret rfl (Or.inl rfl) rfl
      · refine g_iload_n rfl rfl ?_
        refine g_iload_n rfl rfl ?_
        refine g_icmpge rfl (fun c710 => ?_) (fun c710 => ?_)
        · refine g_iconst (v := (0 : Int32)) rfl zic_0 ?_
          exact g_iret rfl (Or.inl rfl) rfl
        · refine g_goto rfl ?_
          refine g_iconst (v := (1 : Int32)) rfl zic_1 ?_
          refine g_goto rfl ?_
          exact g_iret rfl (Or.inl rfl) rfl
    · refine g_iload_n rfl rfl ?_
      refine g_bipush (v := (61 : Int32)) rfl zib_61 ?_
      refine g_icmpeq rfl (fun c711 => ?_) (fun c711 => ?_)
      · refine g_aload_n rfl rfl ?_
        refine g_dup rfl rfl ?_
        refine g_getI rfl zf_M_152 rfl rfl rfl ?_
        refine g_iconst (v := (1 : Int32)) rfl zic_1 ?_
        refine g_iadd rfl ?_
        refine g_put (j := 3918) rfl zf_M_152 rfl rfl zp_11_18.1 (Or.inl zp_11_18.2) rfl ?_
        refine g_aload_n rfl rfl ?_
        refine g_callVI (M' := m_M_sums) (d' := d) (as := []) (rest := []) (ci := 11) (o := 39) rfl ml_M_177 v_M_sums (by omega) rfl (by decide) rfl rfl rfl (Nat.le_of_ble_eq_true rfl) (fun x_ e_ => h5  (zs q695u 3918 ((q695u.1 3918) + (1 : Int32))) x_ e_) (fun q712r q712u e713 b714 => ?_)
        refine g_istore_n (lv' := [(0, .ref 39), (1, .int q695r), (2, .int q698), (3, .int q712r)]) rfl (Nat.le_of_ble_eq_true rfl) rfl rfl ?_
        refine g_iload_n rfl rfl ?_
        refine g_bipush (v := (60 : Int32)) rfl zib_60 ?_
        refine g_icmpne rfl (fun c715 => ?_) (fun c715 => ?_)
        · refine g_iload_n rfl rfl ?_
          refine g_bipush (v := (61 : Int32)) rfl zib_61 ?_
          refine g_icmpne rfl (fun c716 => ?_) (fun c716 => ?_)
          · refine g_iload_n rfl rfl ?_
            refine g_iload_n rfl rfl ?_
            refine g_icmple rfl (fun c717 => ?_) (fun c717 => ?_)
            · refine g_iconst (v := (0 : Int32)) rfl zic_0 ?_
              exact g_iret rfl (Or.inl rfl) rfl
            · refine g_iconst (v := (1 : Int32)) rfl zic_1 ?_
              refine g_goto rfl ?_
              exact g_iret rfl (Or.inl rfl) rfl
          · refine g_iload_n rfl rfl ?_
            refine g_iload_n rfl rfl ?_
            refine g_icmpne rfl (fun c718 => ?_) (fun c718 => ?_)
            · refine g_iconst (v := (0 : Int32)) rfl zic_0 ?_
              exact g_iret rfl (Or.inl rfl) rfl
            · refine g_goto rfl ?_
              refine g_iconst (v := (1 : Int32)) rfl zic_1 ?_
              refine g_goto rfl ?_
              exact g_iret rfl (Or.inl rfl) rfl
        · refine g_iload_n rfl rfl ?_
          refine g_iload_n rfl rfl ?_
          refine g_icmpge rfl (fun c719 => ?_) (fun c719 => ?_)
          · refine g_iconst (v := (0 : Int32)) rfl zic_0 ?_
            exact g_iret rfl (Or.inl rfl) rfl
          · refine g_goto rfl ?_
            refine g_iconst (v := (1 : Int32)) rfl zic_1 ?_
            refine g_goto rfl ?_
            exact g_iret rfl (Or.inl rfl) rfl
      · refine g_iload_n rfl rfl ?_
        refine g_bipush (v := (62 : Int32)) rfl zib_62 ?_
        refine g_icmpeq rfl (fun c720 => ?_) (fun c720 => ?_)
        · refine g_aload_n rfl rfl ?_
          refine g_dup rfl rfl ?_
          refine g_getI rfl zf_M_152 rfl rfl rfl ?_
          refine g_iconst (v := (1 : Int32)) rfl zic_1 ?_
          refine g_iadd rfl ?_
          refine g_put (j := 3918) rfl zf_M_152 rfl rfl zp_11_18.1 (Or.inl zp_11_18.2) rfl ?_
          refine g_aload_n rfl rfl ?_
          refine g_callVI (M' := m_M_sums) (d' := d) (as := []) (rest := []) (ci := 11) (o := 39) rfl ml_M_177 v_M_sums (by omega) rfl (by decide) rfl rfl rfl (Nat.le_of_ble_eq_true rfl) (fun x_ e_ => h5  (zs q695u 3918 ((q695u.1 3918) + (1 : Int32))) x_ e_) (fun q721r q721u e722 b723 => ?_)
          refine g_istore_n (lv' := [(0, .ref 39), (1, .int q695r), (2, .int q698), (3, .int q721r)]) rfl (Nat.le_of_ble_eq_true rfl) rfl rfl ?_
          refine g_iload_n rfl rfl ?_
          refine g_bipush (v := (60 : Int32)) rfl zib_60 ?_
          refine g_icmpne rfl (fun c724 => ?_) (fun c724 => ?_)
          · refine g_iload_n rfl rfl ?_
            refine g_bipush (v := (61 : Int32)) rfl zib_61 ?_
            refine g_icmpne rfl (fun c725 => ?_) (fun c725 => ?_)
            · refine g_iload_n rfl rfl ?_
              refine g_iload_n rfl rfl ?_
              refine g_icmple rfl (fun c726 => ?_) (fun c726 => ?_)
              · refine g_iconst (v := (0 : Int32)) rfl zic_0 ?_
                exact g_iret rfl (Or.inl rfl) rfl
              · refine g_iconst (v := (1 : Int32)) rfl zic_1 ?_
                refine g_goto rfl ?_
                exact g_iret rfl (Or.inl rfl) rfl
            · refine g_iload_n rfl rfl ?_
              refine g_iload_n rfl rfl ?_
              refine g_icmpne rfl (fun c727 => ?_) (fun c727 => ?_)
              · refine g_iconst (v := (0 : Int32)) rfl zic_0 ?_
                exact g_iret rfl (Or.inl rfl) rfl
              · refine g_goto rfl ?_
                refine g_iconst (v := (1 : Int32)) rfl zic_1 ?_
                refine g_goto rfl ?_
                exact g_iret rfl (Or.inl rfl) rfl
          · refine g_iload_n rfl rfl ?_
            refine g_iload_n rfl rfl ?_
            refine g_icmpge rfl (fun c728 => ?_) (fun c728 => ?_)
            · refine g_iconst (v := (0 : Int32)) rfl zic_0 ?_
              exact g_iret rfl (Or.inl rfl) rfl
            · refine g_goto rfl ?_
              refine g_iconst (v := (1 : Int32)) rfl zic_1 ?_
              refine g_goto rfl ?_
              exact g_iret rfl (Or.inl rfl) rfl
        · refine g_iload_n rfl rfl ?_
          exact g_iret rfl (Or.inl rfl) rfl
set_option maxRecDepth 100000 in
set_option maxHeartbeats 4000000 in
theorem ts_M_compared (G : ZG) (rc : Nat → ZSt → Option (Int32 × ZSt)) (d : Nat) (hd : 3 ≤ d) (h0 : ∀ (u : ZSt) x, rc 0  u = some x → ZSpec G m_M_both d [.ref 39] u (zemI x)) (h1 : ∀ (u : ZSt) x, rc 1  u = some x → ZSpec G m_M_compared d [.ref 39] u (zemI x)) (h2 : ∀ (u : ZSt) x, rc 2  u = some x → ZSpec G m_M_either d [.ref 39] u (zemI x)) (h3 : ∀ (u : ZSt) x, rc 3  u = some x → ZSpec G m_M_one d [.ref 39] u (zemI x)) (h4 : ∀ (u : ZSt) x, rc 4  u = some x → ZSpec G m_M_product d [.ref 39] u (zemI x)) (h5 : ∀ (u : ZSt) x, rc 5  u = some x → ZSpec G m_M_sums d [.ref 39] u (zemI x)) (u : ZSt) (x : Int32 × ZSt) (hx : t_M_compared rc u = some x) : ZSpec G m_M_compared (d + 1) [.ref 39] u (zemI x) :=
  ZSpec.go k_M_compared (Nat.le_of_ble_eq_true rfl) (w_M_compared G rc d hd h0 h1 h2 h3 h4 h5 u) (tgt := zemI x) (by rw [hx]; rfl)
set_option maxRecDepth 100000 in
set_option maxHeartbeats 4000000 in
theorem wb_M_either_3 (G : ZG) (rc : Nat → ZSt → Option (Int32 × ZSt)) (d : Nat) (hd : 3 ≤ d) (h0 : ∀ (u : ZSt) x, rc 0  u = some x → ZSpec G m_M_both d [.ref 39] u (zemI x)) (h1 : ∀ (u : ZSt) x, rc 1  u = some x → ZSpec G m_M_compared d [.ref 39] u (zemI x)) (h2 : ∀ (u : ZSt) x, rc 2  u = some x → ZSpec G m_M_either d [.ref 39] u (zemI x)) (h3 : ∀ (u : ZSt) x, rc 3  u = some x → ZSpec G m_M_one d [.ref 39] u (zemI x)) (h4 : ∀ (u : ZSt) x, rc 4  u = some x → ZSpec G m_M_product d [.ref 39] u (zemI x)) (h5 : ∀ (u : ZSt) x, rc 5  u = some x → ZSpec G m_M_sums d [.ref 39] u (zemI x)) (l1 : Int32) (u : ZSt) (K : ((Int32 × ZSt) ⊕ (Int32 × ZSt)) → Option (Value × ZSt)) (hb : ∀ (l1 : Int32) (u : ZSt), ZGo G m_M_either (d + 1) (K (.inl (l1, u))) some 3 [(0, .ref 39), (1, .int l1)] [] u) (hx : ∀ (l1 : Int32) (u : ZSt), ZGo G m_M_either (d + 1) (K (.inr (l1, u))) some 19 [(1, .int l1)] [] u) : ZGo G m_M_either (d + 1) (b_M_either_3 rc l1 u) K 3 [(0, .ref 39), (1, .int l1)] [] u := by
  unfold b_M_either_3
  refine g_aload_n rfl rfl ?_
  refine g_bipush (v := (124 : Int32)) rfl zib_124 ?_
  refine g_callVI (M' := m_M_takes) (d' := 2) (as := [.int (124 : Int32)]) (rest := []) (ci := 11) (o := 39) rfl ml_M_171 v_M_takes (by omega) rfl (by decide) rfl rfl rfl (Nat.le_of_ble_eq_true rfl) (fun x_ e_ => s_M_takes G (124 : Int32) u x_ e_) (fun q732r q732u e733 b734 => ?_)
  refine g_ifeq rfl (fun c735 => ?_) (fun c735 => ?_)
  · exact zgo_sub (zsubk [1] rfl) (zgo_leaf (hx l1 q732u))
  · refine g_aload_n rfl rfl ?_
    refine g_callVI (M' := m_M_both) (d' := d) (as := []) (rest := []) (ci := 11) (o := 39) rfl ml_M_168 v_M_both (by omega) rfl (by decide) rfl rfl rfl (Nat.le_of_ble_eq_true rfl) (fun x_ e_ => h0  q732u x_ e_) (fun q736r q736u e737 b738 => ?_)
    refine g_istore_n (lv' := [(0, .ref 39), (1, .int l1), (2, .int q736r)]) rfl (Nat.le_of_ble_eq_true rfl) rfl rfl ?_
    refine g_iload_n rfl rfl ?_
    refine g_ifne rfl (fun c739 => ?_) (fun c739 => ?_)
    · refine g_iconst (v := (1 : Int32)) rfl zic_1 ?_
      refine g_goto rfl ?_
      refine g_istore_n (lv' := [(0, .ref 39), (1, .int (1 : Int32)), (2, .int q736r)]) rfl (Nat.le_of_ble_eq_true rfl) rfl rfl ?_
      refine g_goto rfl ?_
      exact zgo_sub (zsubk [0, 1] rfl) (zgo_leaf (hb (1 : Int32) q736u))
    · refine g_iload_n rfl rfl ?_
      refine g_ifeq rfl (fun c740 => ?_) (fun c740 => ?_)
      · refine g_iconst (v := (0 : Int32)) rfl zic_0 ?_
        refine g_istore_n (lv' := [(0, .ref 39), (1, .int (0 : Int32)), (2, .int q736r)]) rfl (Nat.le_of_ble_eq_true rfl) rfl rfl ?_
        refine g_goto rfl ?_
        exact zgo_sub (zsubk [0, 1] rfl) (zgo_leaf (hb (0 : Int32) q736u))
      · refine g_iconst (v := (1 : Int32)) rfl zic_1 ?_
        refine g_goto rfl ?_
        refine g_istore_n (lv' := [(0, .ref 39), (1, .int (1 : Int32)), (2, .int q736r)]) rfl (Nat.le_of_ble_eq_true rfl) rfl rfl ?_
        refine g_goto rfl ?_
        exact zgo_sub (zsubk [0, 1] rfl) (zgo_leaf (hb (1 : Int32) q736u))
set_option maxRecDepth 100000 in
set_option maxHeartbeats 4000000 in
theorem wa_M_either_3 (G : ZG) (rc : Nat → ZSt → Option (Int32 × ZSt)) (d : Nat) (hd : 3 ≤ d) (h0 : ∀ (u : ZSt) x, rc 0  u = some x → ZSpec G m_M_both d [.ref 39] u (zemI x)) (h1 : ∀ (u : ZSt) x, rc 1  u = some x → ZSpec G m_M_compared d [.ref 39] u (zemI x)) (h2 : ∀ (u : ZSt) x, rc 2  u = some x → ZSpec G m_M_either d [.ref 39] u (zemI x)) (h3 : ∀ (u : ZSt) x, rc 3  u = some x → ZSpec G m_M_one d [.ref 39] u (zemI x)) (h4 : ∀ (u : ZSt) x, rc 4  u = some x → ZSpec G m_M_product d [.ref 39] u (zemI x)) (h5 : ∀ (u : ZSt) x, rc 5  u = some x → ZSpec G m_M_sums d [.ref 39] u (zemI x)) (l1 : Int32) (u : ZSt) : ZGo G m_M_either (d + 1) (a_M_either_3 rc l1 u) zkI 19 [(1, .int l1)] [] u := by
  unfold a_M_either_3
  refine g_iload_n rfl rfl ?_
  exact g_iret rfl (Or.inl rfl) rfl
set_option maxRecDepth 100000 in
set_option maxHeartbeats 4000000 in
theorem w_M_either (G : ZG) (rc : Nat → ZSt → Option (Int32 × ZSt)) (d : Nat) (hd : 3 ≤ d) (h0 : ∀ (u : ZSt) x, rc 0  u = some x → ZSpec G m_M_both d [.ref 39] u (zemI x)) (h1 : ∀ (u : ZSt) x, rc 1  u = some x → ZSpec G m_M_compared d [.ref 39] u (zemI x)) (h2 : ∀ (u : ZSt) x, rc 2  u = some x → ZSpec G m_M_either d [.ref 39] u (zemI x)) (h3 : ∀ (u : ZSt) x, rc 3  u = some x → ZSpec G m_M_one d [.ref 39] u (zemI x)) (h4 : ∀ (u : ZSt) x, rc 4  u = some x → ZSpec G m_M_product d [.ref 39] u (zemI x)) (h5 : ∀ (u : ZSt) x, rc 5  u = some x → ZSpec G m_M_sums d [.ref 39] u (zemI x)) (u : ZSt) : ZGo G m_M_either (d + 1) (t_M_either rc u) zkI 0 [(0, .ref 39)] [] u := by
  unfold t_M_either
  refine g_aload_n rfl rfl ?_
  refine g_callVI (M' := m_M_both) (d' := d) (as := []) (rest := []) (ci := 11) (o := 39) rfl ml_M_168 v_M_both (by omega) rfl (by decide) rfl rfl rfl (Nat.le_of_ble_eq_true rfl) (fun x_ e_ => h0  u x_ e_) (fun q729r q729u e730 b731 => ?_)
  refine g_istore_n (lv' := [(0, .ref 39), (1, .int q729r)]) rfl (Nat.le_of_ble_eq_true rfl) rfl rfl ?_
  refine zgo_sub (lv' := [(0, .ref 39), (1, .int q729r)]) (zsubk [0, 1] rfl) ?_
  refine zgo_loop (σ := Int32 × ZSt) (lvf := fun s => [(0, .ref 39), (1, .int s.1)]) (uf := (fun s => s.2)) ?_ zfu _
  intro s K' ih he
  refine wb_M_either_3 G rc d hd h0 h1 h2 h3 h4 h5 s.1 s.2 K' ?_ ?_
  · intro c0 v
    exact ih (c0, v)
  · intro c0 v
    rw [he]
    exact zgo_unleaf (wa_M_either_3 G rc d hd h0 h1 h2 h3 h4 h5 c0 v)
set_option maxRecDepth 100000 in
set_option maxHeartbeats 4000000 in
theorem ts_M_either (G : ZG) (rc : Nat → ZSt → Option (Int32 × ZSt)) (d : Nat) (hd : 3 ≤ d) (h0 : ∀ (u : ZSt) x, rc 0  u = some x → ZSpec G m_M_both d [.ref 39] u (zemI x)) (h1 : ∀ (u : ZSt) x, rc 1  u = some x → ZSpec G m_M_compared d [.ref 39] u (zemI x)) (h2 : ∀ (u : ZSt) x, rc 2  u = some x → ZSpec G m_M_either d [.ref 39] u (zemI x)) (h3 : ∀ (u : ZSt) x, rc 3  u = some x → ZSpec G m_M_one d [.ref 39] u (zemI x)) (h4 : ∀ (u : ZSt) x, rc 4  u = some x → ZSpec G m_M_product d [.ref 39] u (zemI x)) (h5 : ∀ (u : ZSt) x, rc 5  u = some x → ZSpec G m_M_sums d [.ref 39] u (zemI x)) (u : ZSt) (x : Int32 × ZSt) (hx : t_M_either rc u = some x) : ZSpec G m_M_either (d + 1) [.ref 39] u (zemI x) :=
  ZSpec.go k_M_either (Nat.le_of_ble_eq_true rfl) (w_M_either G rc d hd h0 h1 h2 h3 h4 h5 u) (tgt := zemI x) (by rw [hx]; rfl)
set_option maxRecDepth 100000 in
set_option maxHeartbeats 4000000 in
theorem wb_M_one_98 (G : ZG) (rc : Nat → ZSt → Option (Int32 × ZSt)) (d : Nat) (hd : 3 ≤ d) (h0 : ∀ (u : ZSt) x, rc 0  u = some x → ZSpec G m_M_both d [.ref 39] u (zemI x)) (h1 : ∀ (u : ZSt) x, rc 1  u = some x → ZSpec G m_M_compared d [.ref 39] u (zemI x)) (h2 : ∀ (u : ZSt) x, rc 2  u = some x → ZSpec G m_M_either d [.ref 39] u (zemI x)) (h3 : ∀ (u : ZSt) x, rc 3  u = some x → ZSpec G m_M_one d [.ref 39] u (zemI x)) (h4 : ∀ (u : ZSt) x, rc 4  u = some x → ZSpec G m_M_product d [.ref 39] u (zemI x)) (h5 : ∀ (u : ZSt) x, rc 5  u = some x → ZSpec G m_M_sums d [.ref 39] u (zemI x)) (l3 : Int32) (l4 : Int32) (u : ZSt) (K : ((Int32 × Int32 × ZSt) ⊕ (Int32 × Int32 × ZSt)) → Option (Value × ZSt)) (hb : ∀ (l3 : Int32) (l4 : Int32) (u : ZSt), ZGo G m_M_one (d + 1) (K (.inl (l3, l4, u))) some 98 [(0, .ref 39), (3, .int l3), (4, .int l4)] [] u) (hx : ∀ (l3 : Int32) (l4 : Int32) (u : ZSt), ZGo G m_M_one (d + 1) (K (.inr (l3, l4, u))) some 126 [(0, .ref 39), (3, .int l3), (4, .int l4)] [] u) : ZGo G m_M_one (d + 1) (b_M_one_98 rc l3 l4 u) K 98 [(0, .ref 39), (3, .int l3), (4, .int l4)] [] u := by
  unfold b_M_one_98
  refine g_iload rfl rfl ?_
  refine g_iconst (v := (4 : Int32)) rfl zic_4 ?_
  refine g_icmpge rfl (fun c830 => ?_) (fun c830 => ?_)
  · exact zgo_sub (zsubk [0, 1, 2] rfl) (zgo_leaf (hx l3 l4 u))
  · refine g_aload_n rfl rfl ?_
    refine g_callVP (M' := m_M_byteAt) (d' := 1) (as := []) (rest := []) (ci := 11) (o := 39) rfl ml_M_164 v_M_byteAt (by omega) rfl (by decide) rfl rfl rfl (Nat.le_of_ble_eq_true rfl) (fun x_ e_ => s_M_byteAt G  u x_ e_) (fun q831 e832 b833 => ?_)
    refine g_bipush (v := (48 : Int32)) rfl zib_48 ?_
    refine g_icmplt rfl (fun c834 => ?_) (fun c834 => ?_)
    · exact zgo_sub (zsubk [0, 1, 2] rfl) (zgo_leaf (hx l3 l4 u))
    · refine g_aload_n rfl rfl ?_
      refine g_callVP (M' := m_M_byteAt) (d' := 1) (as := []) (rest := []) (ci := 11) (o := 39) rfl ml_M_164 v_M_byteAt (by omega) rfl (by decide) rfl rfl rfl (Nat.le_of_ble_eq_true rfl) (fun x_ e_ => s_M_byteAt G  u x_ e_) (fun q835 e836 b837 => ?_)
      refine g_bipush (v := (57 : Int32)) rfl zib_57 ?_
      refine g_icmpgt rfl (fun c838 => ?_) (fun c838 => ?_)
      · exact zgo_sub (zsubk [0, 1, 2] rfl) (zgo_leaf (hx l3 l4 u))
      · refine g_bipush (v := (10 : Int32)) rfl zib_10 ?_
        refine g_iload_n rfl rfl ?_
        refine g_imul rfl ?_
        refine g_aload_n rfl rfl ?_
        refine g_callVP (M' := m_M_byteAt) (d' := 1) (as := []) (rest := [.int ((10 : Int32) * l3)]) (ci := 11) (o := 39) rfl ml_M_164 v_M_byteAt (by omega) rfl (by decide) rfl rfl rfl (Nat.le_of_ble_eq_true rfl) (fun x_ e_ => s_M_byteAt G  u x_ e_) (fun q839 e840 b841 => ?_)
        refine g_iadd rfl ?_
        refine g_bipush (v := (48 : Int32)) rfl zib_48 ?_
        refine g_isub rfl ?_
        refine g_istore_n (lv' := [(0, .ref 39), (3, .int ((((10 : Int32) * l3) + q839) - (48 : Int32))), (4, .int l4)]) rfl (Nat.le_of_ble_eq_true rfl) rfl rfl ?_
        refine g_iinc (v := (1 : Int32)) (lv' := [(0, .ref 39), (3, .int ((((10 : Int32) * l3) + q839) - (48 : Int32))), (4, .int (l4 + (1 : Int32)))]) rfl rfl zic_1 (Nat.le_of_ble_eq_true rfl) rfl rfl ?_
        refine g_aload_n rfl rfl ?_
        refine g_dup rfl rfl ?_
        refine g_getI rfl zf_M_152 rfl rfl rfl ?_
        refine g_iconst (v := (1 : Int32)) rfl zic_1 ?_
        refine g_iadd rfl ?_
        refine g_put (j := 3918) rfl zf_M_152 rfl rfl zp_11_18.1 (Or.inl zp_11_18.2) rfl ?_
        refine g_goto rfl ?_
        exact zgo_sub (zsubk [0, 1, 2] rfl) (zgo_leaf (hb ((((10 : Int32) * l3) + q839) - (48 : Int32)) (l4 + (1 : Int32)) (zs u 3918 ((u.1 3918) + (1 : Int32)))))
set_option maxRecDepth 100000 in
set_option maxHeartbeats 4000000 in
theorem wa_M_one_98 (G : ZG) (rc : Nat → ZSt → Option (Int32 × ZSt)) (d : Nat) (hd : 3 ≤ d) (h0 : ∀ (u : ZSt) x, rc 0  u = some x → ZSpec G m_M_both d [.ref 39] u (zemI x)) (h1 : ∀ (u : ZSt) x, rc 1  u = some x → ZSpec G m_M_compared d [.ref 39] u (zemI x)) (h2 : ∀ (u : ZSt) x, rc 2  u = some x → ZSpec G m_M_either d [.ref 39] u (zemI x)) (h3 : ∀ (u : ZSt) x, rc 3  u = some x → ZSpec G m_M_one d [.ref 39] u (zemI x)) (h4 : ∀ (u : ZSt) x, rc 4  u = some x → ZSpec G m_M_product d [.ref 39] u (zemI x)) (h5 : ∀ (u : ZSt) x, rc 5  u = some x → ZSpec G m_M_sums d [.ref 39] u (zemI x)) (l3 : Int32) (l4 : Int32) (u : ZSt) : ZGo G m_M_one (d + 1) (a_M_one_98 rc l3 l4 u) zkI 126 [(0, .ref 39), (3, .int l3), (4, .int l4)] [] u := by
  unfold a_M_one_98
  refine g_iload rfl rfl ?_
  refine g_ifne rfl (fun c842 => ?_) (fun c842 => ?_)
  · refine g_iload_n rfl rfl ?_
    exact g_iret rfl (Or.inl rfl) rfl
  · refine g_aload_n rfl rfl ?_
    refine g_callVI (M' := m_M_wrong) (d' := 1) (as := []) (rest := []) (ci := 11) (o := 39) rfl ml_M_189 v_M_wrong (by omega) rfl (by decide) rfl rfl rfl (Nat.le_of_ble_eq_true rfl) (fun x_ e_ => s_M_wrong G  u x_ e_) (fun q843r q843u e844 b845 => ?_)
    refine g_goto rfl ?_
    exact g_iret rfl (Or.inl rfl) rfl
set_option maxRecDepth 100000 in
set_option maxHeartbeats 4000000 in
theorem w_M_one (G : ZG) (rc : Nat → ZSt → Option (Int32 × ZSt)) (d : Nat) (hd : 3 ≤ d) (h0 : ∀ (u : ZSt) x, rc 0  u = some x → ZSpec G m_M_both d [.ref 39] u (zemI x)) (h1 : ∀ (u : ZSt) x, rc 1  u = some x → ZSpec G m_M_compared d [.ref 39] u (zemI x)) (h2 : ∀ (u : ZSt) x, rc 2  u = some x → ZSpec G m_M_either d [.ref 39] u (zemI x)) (h3 : ∀ (u : ZSt) x, rc 3  u = some x → ZSpec G m_M_one d [.ref 39] u (zemI x)) (h4 : ∀ (u : ZSt) x, rc 4  u = some x → ZSpec G m_M_product d [.ref 39] u (zemI x)) (h5 : ∀ (u : ZSt) x, rc 5  u = some x → ZSpec G m_M_sums d [.ref 39] u (zemI x)) (u : ZSt) : ZGo G m_M_one (d + 1) (t_M_one rc u) zkI 0 [(0, .ref 39)] [] u := by
  unfold t_M_one
  refine g_aload_n rfl rfl ?_
  refine g_getI rfl zf_M_161 rfl rfl rfl ?_
  refine g_iflt rfl (fun c741 => ?_) (fun c741 => ?_)
  · refine g_aload_n rfl rfl ?_
    refine g_callVP (M' := m_M_byteAt) (d' := 1) (as := []) (rest := []) (ci := 11) (o := 39) rfl ml_M_164 v_M_byteAt (by omega) rfl (by decide) rfl rfl rfl (Nat.le_of_ble_eq_true rfl) (fun x_ e_ => s_M_byteAt G  u x_ e_) (fun q742 e743 b744 => ?_)
    refine g_istore_n (lv' := [(0, .ref 39), (1, .int q742)]) rfl (Nat.le_of_ble_eq_true rfl) rfl rfl ?_
    refine g_iload_n rfl rfl ?_
    refine g_bipush (v := (33 : Int32)) rfl zib_33 ?_
    refine g_icmpeq rfl (fun c745 => ?_) (fun c745 => ?_)
    · refine g_aload_n rfl rfl ?_
      refine g_getI rfl zf_M_186 rfl rfl rfl ?_
      refine g_bipush (v := (6 : Int32)) rfl zib_6 ?_
      refine g_icmpne rfl (fun c746 => ?_) (fun c746 => ?_)
      · refine g_aload_n rfl rfl ?_
        refine g_dup rfl rfl ?_
        refine g_getI rfl zf_M_186 rfl rfl rfl ?_
        refine g_iconst (v := (1 : Int32)) rfl zic_1 ?_
        refine g_iadd rfl ?_
        refine g_put (j := 3921) rfl zf_M_186 rfl rfl zp_11_21.1 (Or.inl zp_11_21.2) rfl ?_
        refine g_aload_n rfl rfl ?_
        refine g_dup rfl rfl ?_
        refine g_getIx (x := u.1 3918) rfl zf_M_152 rfl rfl rfl rfl ?_
        refine g_iconst (v := (1 : Int32)) rfl zic_1 ?_
        refine g_iadd rfl ?_
        refine g_put (j := 3918) rfl zf_M_152 rfl rfl zp_11_18.1 (Or.inl zp_11_18.2) rfl ?_
        refine g_iload_n rfl rfl ?_
        refine g_bipush (v := (40 : Int32)) rfl zib_40 ?_
        refine g_icmpne rfl (fun c747 => ?_) (fun c747 => ?_)
        · refine g_aload_n rfl rfl ?_
          refine g_callVI (M' := m_M_one) (d' := d) (as := []) (rest := []) (ci := 11) (o := 39) rfl ml_M_183 v_M_one (by omega) rfl (by decide) rfl rfl rfl (Nat.le_of_ble_eq_true rfl) (fun x_ e_ => h3  (zs (zs u 3921 ((u.1 3921) + (1 : Int32))) 3918 ((u.1 3918) + (1 : Int32))) x_ e_) (fun q748r q748u e749 b750 => ?_)
          refine g_istore_n (lv' := [(0, .ref 39), (1, .int q742), (2, .int q748r)]) rfl (Nat.le_of_ble_eq_true rfl) rfl rfl ?_
          refine g_iload_n rfl rfl ?_
          refine g_bipush (v := (40 : Int32)) rfl zib_40 ?_
          refine g_icmpne rfl (fun c751 => ?_) (fun c751 => ?_)
          · refine g_aload_n rfl rfl ?_
            refine g_dup rfl rfl ?_
            refine g_getI rfl zf_M_186 rfl rfl rfl ?_
            refine g_iconst (v := (1 : Int32)) rfl zic_1 ?_
            refine g_isub rfl ?_
            refine g_put (j := 3921) rfl zf_M_186 rfl rfl zp_11_21.1 (Or.inl zp_11_21.2) rfl ?_
            refine g_iload_n rfl rfl ?_
            refine g_bipush (v := (40 : Int32)) rfl zib_40 ?_
            refine g_icmpne rfl (fun c752 => ?_) (fun c752 => ?_)
            · refine g_iload_n rfl rfl ?_
              refine g_bipush (v := (45 : Int32)) rfl zib_45 ?_
              refine g_icmpne rfl (fun c753 => ?_) (fun c753 => ?_)
              · refine g_iload_n rfl rfl ?_
                refine g_ifne rfl (fun c754 => ?_) (fun c754 => ?_)
                · refine g_iconst (v := (0 : Int32)) rfl zic_0 ?_
                  exact g_iret rfl (Or.inl rfl) rfl
                · refine g_iconst (v := (1 : Int32)) rfl zic_1 ?_
                  refine g_goto rfl ?_
                  exact g_iret rfl (Or.inl rfl) rfl
              · refine g_iload_n rfl rfl ?_
                refine g_ineg rfl ?_
                refine g_goto rfl ?_
                exact g_iret rfl (Or.inl rfl) rfl
            · refine g_iload_n rfl rfl ?_
              refine g_goto rfl ?_
              exact g_iret rfl (Or.inl rfl) rfl
          · refine g_aload_n rfl rfl ?_
            refine g_bipush (v := (41 : Int32)) rfl zib_41 ?_
            refine g_callVI (M' := m_M_takes) (d' := 2) (as := [.int (41 : Int32)]) (rest := []) (ci := 11) (o := 39) rfl ml_M_171 v_M_takes (by omega) rfl (by decide) rfl rfl rfl (Nat.le_of_ble_eq_true rfl) (fun x_ e_ => s_M_takes G (41 : Int32) q748u x_ e_) (fun q755r q755u e756 b757 => ?_)
            refine g_ifne rfl (fun c758 => ?_) (fun c758 => ?_)
            · refine g_aload_n rfl rfl ?_
              refine g_dup rfl rfl ?_
              refine g_getI rfl zf_M_186 rfl rfl rfl ?_
              refine g_iconst (v := (1 : Int32)) rfl zic_1 ?_
              refine g_isub rfl ?_
              refine g_put (j := 3921) rfl zf_M_186 rfl rfl zp_11_21.1 (Or.inl zp_11_21.2) rfl ?_
              refine g_iload_n rfl rfl ?_
              refine g_bipush (v := (40 : Int32)) rfl zib_40 ?_
              refine g_icmpne rfl (fun c759 => ?_) (fun c759 => ?_)
              · refine g_iload_n rfl rfl ?_
                refine g_bipush (v := (45 : Int32)) rfl zib_45 ?_
                refine g_icmpne rfl (fun c760 => ?_) (fun c760 => ?_)
                · refine g_iload_n rfl rfl ?_
                  refine g_ifne rfl (fun c761 => ?_) (fun c761 => ?_)
                  · refine g_iconst (v := (0 : Int32)) rfl zic_0 ?_
                    exact g_iret rfl (Or.inl rfl) rfl
                  · refine g_iconst (v := (1 : Int32)) rfl zic_1 ?_
                    refine g_goto rfl ?_
                    exact g_iret rfl (Or.inl rfl) rfl
                · refine g_iload_n rfl rfl ?_
                  refine g_ineg rfl ?_
                  refine g_goto rfl ?_
                  exact g_iret rfl (Or.inl rfl) rfl
              · refine g_iload_n rfl rfl ?_
                refine g_goto rfl ?_
                exact g_iret rfl (Or.inl rfl) rfl
            · refine g_aload_n rfl rfl ?_
              refine g_callVI (M' := m_M_wrong) (d' := 1) (as := []) (rest := []) (ci := 11) (o := 39) rfl ml_M_189 v_M_wrong (by omega) rfl (by decide) rfl rfl rfl (Nat.le_of_ble_eq_true rfl) (fun x_ e_ => s_M_wrong G  q755u x_ e_) (fun q762r q762u e763 b764 => ?_)
              exact g_iret rfl (Or.inl rfl) rfl
        · refine g_aload_n rfl rfl ?_
          refine g_callVI (M' := m_M_either) (d' := d) (as := []) (rest := []) (ci := 11) (o := 39) rfl ml_M_192 v_M_either (by omega) rfl (by decide) rfl rfl rfl (Nat.le_of_ble_eq_true rfl) (fun x_ e_ => h2  (zs (zs u 3921 ((u.1 3921) + (1 : Int32))) 3918 ((u.1 3918) + (1 : Int32))) x_ e_) (fun q765r q765u e766 b767 => ?_)
          refine g_goto rfl ?_
          refine g_istore_n (lv' := [(0, .ref 39), (1, .int q742), (2, .int q765r)]) rfl (Nat.le_of_ble_eq_true rfl) rfl rfl ?_
          refine g_iload_n rfl rfl ?_
          refine g_bipush (v := (40 : Int32)) rfl zib_40 ?_
          refine g_icmpne rfl (fun c768 => ?_) (fun c768 => ?_)
          · refine g_aload_n rfl rfl ?_
            refine g_dup rfl rfl ?_
            refine g_getI rfl zf_M_186 rfl rfl rfl ?_
            refine g_iconst (v := (1 : Int32)) rfl zic_1 ?_
            refine g_isub rfl ?_
            refine g_put (j := 3921) rfl zf_M_186 rfl rfl zp_11_21.1 (Or.inl zp_11_21.2) rfl ?_
            refine g_iload_n rfl rfl ?_
            refine g_bipush (v := (40 : Int32)) rfl zib_40 ?_
            refine g_icmpne rfl (fun c769 => ?_) (fun c769 => ?_)
            · refine g_iload_n rfl rfl ?_
              refine g_bipush (v := (45 : Int32)) rfl zib_45 ?_
              refine g_icmpne rfl (fun c770 => ?_) (fun c770 => ?_)
              · refine g_iload_n rfl rfl ?_
                refine g_ifne rfl (fun c771 => ?_) (fun c771 => ?_)
                · refine g_iconst (v := (0 : Int32)) rfl zic_0 ?_
                  exact g_iret rfl (Or.inl rfl) rfl
                · refine g_iconst (v := (1 : Int32)) rfl zic_1 ?_
                  refine g_goto rfl ?_
                  exact g_iret rfl (Or.inl rfl) rfl
              · refine g_iload_n rfl rfl ?_
                refine g_ineg rfl ?_
                refine g_goto rfl ?_
                exact g_iret rfl (Or.inl rfl) rfl
            · refine g_iload_n rfl rfl ?_
              refine g_goto rfl ?_
              exact g_iret rfl (Or.inl rfl) rfl
          · refine g_aload_n rfl rfl ?_
            refine g_bipush (v := (41 : Int32)) rfl zib_41 ?_
            refine g_callVI (M' := m_M_takes) (d' := 2) (as := [.int (41 : Int32)]) (rest := []) (ci := 11) (o := 39) rfl ml_M_171 v_M_takes (by omega) rfl (by decide) rfl rfl rfl (Nat.le_of_ble_eq_true rfl) (fun x_ e_ => s_M_takes G (41 : Int32) q765u x_ e_) (fun q772r q772u e773 b774 => ?_)
            refine g_ifne rfl (fun c775 => ?_) (fun c775 => ?_)
            · refine g_aload_n rfl rfl ?_
              refine g_dup rfl rfl ?_
              refine g_getI rfl zf_M_186 rfl rfl rfl ?_
              refine g_iconst (v := (1 : Int32)) rfl zic_1 ?_
              refine g_isub rfl ?_
              refine g_put (j := 3921) rfl zf_M_186 rfl rfl zp_11_21.1 (Or.inl zp_11_21.2) rfl ?_
              refine g_iload_n rfl rfl ?_
              refine g_bipush (v := (40 : Int32)) rfl zib_40 ?_
              refine g_icmpne rfl (fun c776 => ?_) (fun c776 => ?_)
              · refine g_iload_n rfl rfl ?_
                refine g_bipush (v := (45 : Int32)) rfl zib_45 ?_
                refine g_icmpne rfl (fun c777 => ?_) (fun c777 => ?_)
                · refine g_iload_n rfl rfl ?_
                  refine g_ifne rfl (fun c778 => ?_) (fun c778 => ?_)
                  · refine g_iconst (v := (0 : Int32)) rfl zic_0 ?_
                    exact g_iret rfl (Or.inl rfl) rfl
                  · refine g_iconst (v := (1 : Int32)) rfl zic_1 ?_
                    refine g_goto rfl ?_
                    exact g_iret rfl (Or.inl rfl) rfl
                · refine g_iload_n rfl rfl ?_
                  refine g_ineg rfl ?_
                  refine g_goto rfl ?_
                  exact g_iret rfl (Or.inl rfl) rfl
              · refine g_iload_n rfl rfl ?_
                refine g_goto rfl ?_
                exact g_iret rfl (Or.inl rfl) rfl
            · refine g_aload_n rfl rfl ?_
              refine g_callVI (M' := m_M_wrong) (d' := 1) (as := []) (rest := []) (ci := 11) (o := 39) rfl ml_M_189 v_M_wrong (by omega) rfl (by decide) rfl rfl rfl (Nat.le_of_ble_eq_true rfl) (fun x_ e_ => s_M_wrong G  q772u x_ e_) (fun q779r q779u e780 b781 => ?_)
              exact g_iret rfl (Or.inl rfl) rfl
      · refine g_aload_n rfl rfl ?_
        refine g_callVI (M' := m_M_wrong) (d' := 1) (as := []) (rest := []) (ci := 11) (o := 39) rfl ml_M_189 v_M_wrong (by omega) rfl (by decide) rfl rfl rfl (Nat.le_of_ble_eq_true rfl) (fun x_ e_ => s_M_wrong G  u x_ e_) (fun q782r q782u e783 b784 => ?_)
        exact g_iret rfl (Or.inl rfl) rfl
    · refine g_iload_n rfl rfl ?_
      refine g_bipush (v := (45 : Int32)) rfl zib_45 ?_
      refine g_icmpeq rfl (fun c785 => ?_) (fun c785 => ?_)
      · refine g_aload_n rfl rfl ?_
        refine g_getI rfl zf_M_186 rfl rfl rfl ?_
        refine g_bipush (v := (6 : Int32)) rfl zib_6 ?_
        refine g_icmpne rfl (fun c786 => ?_) (fun c786 => ?_)
        · refine g_aload_n rfl rfl ?_
          refine g_dup rfl rfl ?_
          refine g_getI rfl zf_M_186 rfl rfl rfl ?_
          refine g_iconst (v := (1 : Int32)) rfl zic_1 ?_
          refine g_iadd rfl ?_
          refine g_put (j := 3921) rfl zf_M_186 rfl rfl zp_11_21.1 (Or.inl zp_11_21.2) rfl ?_
          refine g_aload_n rfl rfl ?_
          refine g_dup rfl rfl ?_
          refine g_getIx (x := u.1 3918) rfl zf_M_152 rfl rfl rfl rfl ?_
          refine g_iconst (v := (1 : Int32)) rfl zic_1 ?_
          refine g_iadd rfl ?_
          refine g_put (j := 3918) rfl zf_M_152 rfl rfl zp_11_18.1 (Or.inl zp_11_18.2) rfl ?_
          refine g_iload_n rfl rfl ?_
          refine g_bipush (v := (40 : Int32)) rfl zib_40 ?_
          refine g_icmpne rfl (fun c787 => ?_) (fun c787 => ?_)
          · refine g_aload_n rfl rfl ?_
            refine g_callVI (M' := m_M_one) (d' := d) (as := []) (rest := []) (ci := 11) (o := 39) rfl ml_M_183 v_M_one (by omega) rfl (by decide) rfl rfl rfl (Nat.le_of_ble_eq_true rfl) (fun x_ e_ => h3  (zs (zs u 3921 ((u.1 3921) + (1 : Int32))) 3918 ((u.1 3918) + (1 : Int32))) x_ e_) (fun q788r q788u e789 b790 => ?_)
            refine g_istore_n (lv' := [(0, .ref 39), (1, .int q742), (2, .int q788r)]) rfl (Nat.le_of_ble_eq_true rfl) rfl rfl ?_
            refine g_iload_n rfl rfl ?_
            refine g_bipush (v := (40 : Int32)) rfl zib_40 ?_
            refine g_icmpne rfl (fun c791 => ?_) (fun c791 => ?_)
            · refine g_aload_n rfl rfl ?_
              refine g_dup rfl rfl ?_
              refine g_getI rfl zf_M_186 rfl rfl rfl ?_
              refine g_iconst (v := (1 : Int32)) rfl zic_1 ?_
              refine g_isub rfl ?_
              refine g_put (j := 3921) rfl zf_M_186 rfl rfl zp_11_21.1 (Or.inl zp_11_21.2) rfl ?_
              refine g_iload_n rfl rfl ?_
              refine g_bipush (v := (40 : Int32)) rfl zib_40 ?_
              refine g_icmpne rfl (fun c792 => ?_) (fun c792 => ?_)
              · refine g_iload_n rfl rfl ?_
                refine g_bipush (v := (45 : Int32)) rfl zib_45 ?_
                refine g_icmpne rfl (fun c793 => ?_) (fun c793 => ?_)
                · refine g_iload_n rfl rfl ?_
                  refine g_ifne rfl (fun c794 => ?_) (fun c794 => ?_)
                  · refine g_iconst (v := (0 : Int32)) rfl zic_0 ?_
                    exact g_iret rfl (Or.inl rfl) rfl
                  · refine g_iconst (v := (1 : Int32)) rfl zic_1 ?_
                    refine g_goto rfl ?_
                    exact g_iret rfl (Or.inl rfl) rfl
                · refine g_iload_n rfl rfl ?_
                  refine g_ineg rfl ?_
                  refine g_goto rfl ?_
                  exact g_iret rfl (Or.inl rfl) rfl
              · refine g_iload_n rfl rfl ?_
                refine g_goto rfl ?_
                exact g_iret rfl (Or.inl rfl) rfl
            · refine g_aload_n rfl rfl ?_
              refine g_bipush (v := (41 : Int32)) rfl zib_41 ?_
              refine g_callVI (M' := m_M_takes) (d' := 2) (as := [.int (41 : Int32)]) (rest := []) (ci := 11) (o := 39) rfl ml_M_171 v_M_takes (by omega) rfl (by decide) rfl rfl rfl (Nat.le_of_ble_eq_true rfl) (fun x_ e_ => s_M_takes G (41 : Int32) q788u x_ e_) (fun q795r q795u e796 b797 => ?_)
              refine g_ifne rfl (fun c798 => ?_) (fun c798 => ?_)
              · refine g_aload_n rfl rfl ?_
                refine g_dup rfl rfl ?_
                refine g_getI rfl zf_M_186 rfl rfl rfl ?_
                refine g_iconst (v := (1 : Int32)) rfl zic_1 ?_
                refine g_isub rfl ?_
                refine g_put (j := 3921) rfl zf_M_186 rfl rfl zp_11_21.1 (Or.inl zp_11_21.2) rfl ?_
                refine g_iload_n rfl rfl ?_
                refine g_bipush (v := (40 : Int32)) rfl zib_40 ?_
                refine g_icmpne rfl (fun c799 => ?_) (fun c799 => ?_)
                · refine g_iload_n rfl rfl ?_
                  refine g_bipush (v := (45 : Int32)) rfl zib_45 ?_
                  refine g_icmpne rfl (fun c800 => ?_) (fun c800 => ?_)
                  · refine g_iload_n rfl rfl ?_
                    refine g_ifne rfl (fun c801 => ?_) (fun c801 => ?_)
                    · refine g_iconst (v := (0 : Int32)) rfl zic_0 ?_
                      exact g_iret rfl (Or.inl rfl) rfl
                    · refine g_iconst (v := (1 : Int32)) rfl zic_1 ?_
                      refine g_goto rfl ?_
                      exact g_iret rfl (Or.inl rfl) rfl
                  · refine g_iload_n rfl rfl ?_
                    refine g_ineg rfl ?_
                    refine g_goto rfl ?_
                    exact g_iret rfl (Or.inl rfl) rfl
                · refine g_iload_n rfl rfl ?_
                  refine g_goto rfl ?_
                  exact g_iret rfl (Or.inl rfl) rfl
              · refine g_aload_n rfl rfl ?_
                refine g_callVI (M' := m_M_wrong) (d' := 1) (as := []) (rest := []) (ci := 11) (o := 39) rfl ml_M_189 v_M_wrong (by omega) rfl (by decide) rfl rfl rfl (Nat.le_of_ble_eq_true rfl) (fun x_ e_ => s_M_wrong G  q795u x_ e_) (fun q802r q802u e803 b804 => ?_)
                exact g_iret rfl (Or.inl rfl) rfl
          · refine g_aload_n rfl rfl ?_
            refine g_callVI (M' := m_M_either) (d' := d) (as := []) (rest := []) (ci := 11) (o := 39) rfl ml_M_192 v_M_either (by omega) rfl (by decide) rfl rfl rfl (Nat.le_of_ble_eq_true rfl) (fun x_ e_ => h2  (zs (zs u 3921 ((u.1 3921) + (1 : Int32))) 3918 ((u.1 3918) + (1 : Int32))) x_ e_) (fun q805r q805u e806 b807 => ?_)
            refine g_goto rfl ?_
            refine g_istore_n (lv' := [(0, .ref 39), (1, .int q742), (2, .int q805r)]) rfl (Nat.le_of_ble_eq_true rfl) rfl rfl ?_
            refine g_iload_n rfl rfl ?_
            refine g_bipush (v := (40 : Int32)) rfl zib_40 ?_
            refine g_icmpne rfl (fun c808 => ?_) (fun c808 => ?_)
            · refine g_aload_n rfl rfl ?_
              refine g_dup rfl rfl ?_
              refine g_getI rfl zf_M_186 rfl rfl rfl ?_
              refine g_iconst (v := (1 : Int32)) rfl zic_1 ?_
              refine g_isub rfl ?_
              refine g_put (j := 3921) rfl zf_M_186 rfl rfl zp_11_21.1 (Or.inl zp_11_21.2) rfl ?_
              refine g_iload_n rfl rfl ?_
              refine g_bipush (v := (40 : Int32)) rfl zib_40 ?_
              refine g_icmpne rfl (fun c809 => ?_) (fun c809 => ?_)
              · refine g_iload_n rfl rfl ?_
                refine g_bipush (v := (45 : Int32)) rfl zib_45 ?_
                refine g_icmpne rfl (fun c810 => ?_) (fun c810 => ?_)
                · refine g_iload_n rfl rfl ?_
                  refine g_ifne rfl (fun c811 => ?_) (fun c811 => ?_)
                  · refine g_iconst (v := (0 : Int32)) rfl zic_0 ?_
                    exact g_iret rfl (Or.inl rfl) rfl
                  · refine g_iconst (v := (1 : Int32)) rfl zic_1 ?_
                    refine g_goto rfl ?_
                    exact g_iret rfl (Or.inl rfl) rfl
                · refine g_iload_n rfl rfl ?_
                  refine g_ineg rfl ?_
                  refine g_goto rfl ?_
                  exact g_iret rfl (Or.inl rfl) rfl
              · refine g_iload_n rfl rfl ?_
                refine g_goto rfl ?_
                exact g_iret rfl (Or.inl rfl) rfl
            · refine g_aload_n rfl rfl ?_
              refine g_bipush (v := (41 : Int32)) rfl zib_41 ?_
              refine g_callVI (M' := m_M_takes) (d' := 2) (as := [.int (41 : Int32)]) (rest := []) (ci := 11) (o := 39) rfl ml_M_171 v_M_takes (by omega) rfl (by decide) rfl rfl rfl (Nat.le_of_ble_eq_true rfl) (fun x_ e_ => s_M_takes G (41 : Int32) q805u x_ e_) (fun q812r q812u e813 b814 => ?_)
              refine g_ifne rfl (fun c815 => ?_) (fun c815 => ?_)
              · refine g_aload_n rfl rfl ?_
                refine g_dup rfl rfl ?_
                refine g_getI rfl zf_M_186 rfl rfl rfl ?_
                refine g_iconst (v := (1 : Int32)) rfl zic_1 ?_
                refine g_isub rfl ?_
                refine g_put (j := 3921) rfl zf_M_186 rfl rfl zp_11_21.1 (Or.inl zp_11_21.2) rfl ?_
                refine g_iload_n rfl rfl ?_
                refine g_bipush (v := (40 : Int32)) rfl zib_40 ?_
                refine g_icmpne rfl (fun c816 => ?_) (fun c816 => ?_)
                · refine g_iload_n rfl rfl ?_
                  refine g_bipush (v := (45 : Int32)) rfl zib_45 ?_
                  refine g_icmpne rfl (fun c817 => ?_) (fun c817 => ?_)
                  · refine g_iload_n rfl rfl ?_
                    refine g_ifne rfl (fun c818 => ?_) (fun c818 => ?_)
                    · refine g_iconst (v := (0 : Int32)) rfl zic_0 ?_
                      exact g_iret rfl (Or.inl rfl) rfl
                    · refine g_iconst (v := (1 : Int32)) rfl zic_1 ?_
                      refine g_goto rfl ?_
                      exact g_iret rfl (Or.inl rfl) rfl
                  · refine g_iload_n rfl rfl ?_
                    refine g_ineg rfl ?_
                    refine g_goto rfl ?_
                    exact g_iret rfl (Or.inl rfl) rfl
                · refine g_iload_n rfl rfl ?_
                  refine g_goto rfl ?_
                  exact g_iret rfl (Or.inl rfl) rfl
              · refine g_aload_n rfl rfl ?_
                refine g_callVI (M' := m_M_wrong) (d' := 1) (as := []) (rest := []) (ci := 11) (o := 39) rfl ml_M_189 v_M_wrong (by omega) rfl (by decide) rfl rfl rfl (Nat.le_of_ble_eq_true rfl) (fun x_ e_ => s_M_wrong G  q812u x_ e_) (fun q819r q819u e820 b821 => ?_)
                exact g_iret rfl (Or.inl rfl) rfl
        · refine g_aload_n rfl rfl ?_
          refine g_callVI (M' := m_M_wrong) (d' := 1) (as := []) (rest := []) (ci := 11) (o := 39) rfl ml_M_189 v_M_wrong (by omega) rfl (by decide) rfl rfl rfl (Nat.le_of_ble_eq_true rfl) (fun x_ e_ => s_M_wrong G  u x_ e_) (fun q822r q822u e823 b824 => ?_)
          exact g_iret rfl (Or.inl rfl) rfl
      · refine g_iload_n rfl rfl ?_
        refine g_bipush (v := (40 : Int32)) rfl zib_40 ?_
        refine g_icmpne rfl (fun c825 => ?_) (fun c825 => ?_)
        · refine g_iload_n rfl rfl ?_
          refine g_callSP (M' := m_M_nameOf) (d' := 1) (as := [.int q742]) (rest := []) rfl ml_M_195 v_M_nameOf (by omega) rfl rfl (Nat.le_of_ble_eq_true rfl) (fun x_ e_ => s_M_nameOf G q742 u x_ e_) (fun q826 e827 b828 => ?_)
          refine g_istore_n (lv' := [(0, .ref 39), (1, .int q742), (2, .int q826)]) rfl (Nat.le_of_ble_eq_true rfl) rfl rfl ?_
          refine g_iload_n rfl rfl ?_
          refine g_iflt rfl (fun c829 => ?_) (fun c829 => ?_)
          · refine g_iconst (v := (0 : Int32)) rfl zic_0 ?_
            refine g_istore_n (lv' := [(0, .ref 39), (1, .int q742), (2, .int q826), (3, .int (0 : Int32))]) rfl (Nat.le_of_ble_eq_true rfl) rfl rfl ?_
            refine g_iconst (v := (0 : Int32)) rfl zic_0 ?_
            refine g_istore (lv' := [(0, .ref 39), (1, .int q742), (2, .int q826), (3, .int (0 : Int32)), (4, .int (0 : Int32))]) rfl (Nat.le_of_ble_eq_true rfl) rfl rfl ?_
            refine zgo_sub (lv' := [(0, .ref 39), (3, .int (0 : Int32)), (4, .int (0 : Int32))]) (zsubk [0, 3, 4] rfl) ?_
            refine zgo_loop (σ := Int32 × Int32 × ZSt) (lvf := fun s => [(0, .ref 39), (3, .int s.1), (4, .int s.2.1)]) (uf := (fun s => s.2.2)) ?_ zfu _
            intro s K' ih he
            refine wb_M_one_98 G rc d hd h0 h1 h2 h3 h4 h5 s.1 s.2.1 s.2.2 K' ?_ ?_
            · intro c0 c1 v
              exact ih (c0, c1, v)
            · intro c0 c1 v
              rw [he]
              exact zgo_unleaf (wa_M_one_98 G rc d hd h0 h1 h2 h3 h4 h5 c0 c1 v)
          · refine g_aload_n rfl rfl ?_
            refine g_dup rfl rfl ?_
            refine g_getI rfl zf_M_152 rfl rfl rfl ?_
            refine g_iconst (v := (1 : Int32)) rfl zic_1 ?_
            refine g_iadd rfl ?_
            refine g_put (j := 3918) rfl zf_M_152 rfl rfl zp_11_18.1 (Or.inl zp_11_18.2) rfl ?_
            refine g_aload_n rfl rfl ?_
            refine g_getR rfl zf_M_34 rfl rfl ?_
            refine g_iload_n rfl rfl ?_
            refine zgo_iald (y := u.2.1 48 q826.toNatClampNeg) rfl rfl rfl (fun o846 => ?_)
            exact g_iret rfl (Or.inl rfl) rfl
        · refine g_aload_n rfl rfl ?_
          refine g_getI rfl zf_M_186 rfl rfl rfl ?_
          refine g_bipush (v := (6 : Int32)) rfl zib_6 ?_
          refine g_icmpne rfl (fun c847 => ?_) (fun c847 => ?_)
          · refine g_aload_n rfl rfl ?_
            refine g_dup rfl rfl ?_
            refine g_getI rfl zf_M_186 rfl rfl rfl ?_
            refine g_iconst (v := (1 : Int32)) rfl zic_1 ?_
            refine g_iadd rfl ?_
            refine g_put (j := 3921) rfl zf_M_186 rfl rfl zp_11_21.1 (Or.inl zp_11_21.2) rfl ?_
            refine g_aload_n rfl rfl ?_
            refine g_dup rfl rfl ?_
            refine g_getIx (x := u.1 3918) rfl zf_M_152 rfl rfl rfl rfl ?_
            refine g_iconst (v := (1 : Int32)) rfl zic_1 ?_
            refine g_iadd rfl ?_
            refine g_put (j := 3918) rfl zf_M_152 rfl rfl zp_11_18.1 (Or.inl zp_11_18.2) rfl ?_
            refine g_iload_n rfl rfl ?_
            refine g_bipush (v := (40 : Int32)) rfl zib_40 ?_
            refine g_icmpne rfl (fun c848 => ?_) (fun c848 => ?_)
            · refine g_aload_n rfl rfl ?_
              refine g_callVI (M' := m_M_one) (d' := d) (as := []) (rest := []) (ci := 11) (o := 39) rfl ml_M_183 v_M_one (by omega) rfl (by decide) rfl rfl rfl (Nat.le_of_ble_eq_true rfl) (fun x_ e_ => h3  (zs (zs u 3921 ((u.1 3921) + (1 : Int32))) 3918 ((u.1 3918) + (1 : Int32))) x_ e_) (fun q849r q849u e850 b851 => ?_)
              refine g_istore_n (lv' := [(0, .ref 39), (1, .int q742), (2, .int q849r)]) rfl (Nat.le_of_ble_eq_true rfl) rfl rfl ?_
              refine g_iload_n rfl rfl ?_
              refine g_bipush (v := (40 : Int32)) rfl zib_40 ?_
              refine g_icmpne rfl (fun c852 => ?_) (fun c852 => ?_)
              · refine g_aload_n rfl rfl ?_
                refine g_dup rfl rfl ?_
                refine g_getI rfl zf_M_186 rfl rfl rfl ?_
                refine g_iconst (v := (1 : Int32)) rfl zic_1 ?_
                refine g_isub rfl ?_
                refine g_put (j := 3921) rfl zf_M_186 rfl rfl zp_11_21.1 (Or.inl zp_11_21.2) rfl ?_
                refine g_iload_n rfl rfl ?_
                refine g_bipush (v := (40 : Int32)) rfl zib_40 ?_
                refine g_icmpne rfl (fun c853 => ?_) (fun c853 => ?_)
                · refine g_iload_n rfl rfl ?_
                  refine g_bipush (v := (45 : Int32)) rfl zib_45 ?_
                  refine g_icmpne rfl (fun c854 => ?_) (fun c854 => ?_)
                  · refine g_iload_n rfl rfl ?_
                    refine g_ifne rfl (fun c855 => ?_) (fun c855 => ?_)
                    · refine g_iconst (v := (0 : Int32)) rfl zic_0 ?_
                      exact g_iret rfl (Or.inl rfl) rfl
                    · refine g_iconst (v := (1 : Int32)) rfl zic_1 ?_
                      refine g_goto rfl ?_
                      exact g_iret rfl (Or.inl rfl) rfl
                  · refine g_iload_n rfl rfl ?_
                    refine g_ineg rfl ?_
                    refine g_goto rfl ?_
                    exact g_iret rfl (Or.inl rfl) rfl
                · refine g_iload_n rfl rfl ?_
                  refine g_goto rfl ?_
                  exact g_iret rfl (Or.inl rfl) rfl
              · refine g_aload_n rfl rfl ?_
                refine g_bipush (v := (41 : Int32)) rfl zib_41 ?_
                refine g_callVI (M' := m_M_takes) (d' := 2) (as := [.int (41 : Int32)]) (rest := []) (ci := 11) (o := 39) rfl ml_M_171 v_M_takes (by omega) rfl (by decide) rfl rfl rfl (Nat.le_of_ble_eq_true rfl) (fun x_ e_ => s_M_takes G (41 : Int32) q849u x_ e_) (fun q856r q856u e857 b858 => ?_)
                refine g_ifne rfl (fun c859 => ?_) (fun c859 => ?_)
                · refine g_aload_n rfl rfl ?_
                  refine g_dup rfl rfl ?_
                  refine g_getI rfl zf_M_186 rfl rfl rfl ?_
                  refine g_iconst (v := (1 : Int32)) rfl zic_1 ?_
                  refine g_isub rfl ?_
                  refine g_put (j := 3921) rfl zf_M_186 rfl rfl zp_11_21.1 (Or.inl zp_11_21.2) rfl ?_
                  refine g_iload_n rfl rfl ?_
                  refine g_bipush (v := (40 : Int32)) rfl zib_40 ?_
                  refine g_icmpne rfl (fun c860 => ?_) (fun c860 => ?_)
                  · refine g_iload_n rfl rfl ?_
                    refine g_bipush (v := (45 : Int32)) rfl zib_45 ?_
                    refine g_icmpne rfl (fun c861 => ?_) (fun c861 => ?_)
                    · refine g_iload_n rfl rfl ?_
                      refine g_ifne rfl (fun c862 => ?_) (fun c862 => ?_)
                      · refine g_iconst (v := (0 : Int32)) rfl zic_0 ?_
                        exact g_iret rfl (Or.inl rfl) rfl
                      · refine g_iconst (v := (1 : Int32)) rfl zic_1 ?_
                        refine g_goto rfl ?_
                        exact g_iret rfl (Or.inl rfl) rfl
                    · refine g_iload_n rfl rfl ?_
                      refine g_ineg rfl ?_
                      refine g_goto rfl ?_
                      exact g_iret rfl (Or.inl rfl) rfl
                  · refine g_iload_n rfl rfl ?_
                    refine g_goto rfl ?_
                    exact g_iret rfl (Or.inl rfl) rfl
                · refine g_aload_n rfl rfl ?_
                  refine g_callVI (M' := m_M_wrong) (d' := 1) (as := []) (rest := []) (ci := 11) (o := 39) rfl ml_M_189 v_M_wrong (by omega) rfl (by decide) rfl rfl rfl (Nat.le_of_ble_eq_true rfl) (fun x_ e_ => s_M_wrong G  q856u x_ e_) (fun q863r q863u e864 b865 => ?_)
                  exact g_iret rfl (Or.inl rfl) rfl
            · refine g_aload_n rfl rfl ?_
              refine g_callVI (M' := m_M_either) (d' := d) (as := []) (rest := []) (ci := 11) (o := 39) rfl ml_M_192 v_M_either (by omega) rfl (by decide) rfl rfl rfl (Nat.le_of_ble_eq_true rfl) (fun x_ e_ => h2  (zs (zs u 3921 ((u.1 3921) + (1 : Int32))) 3918 ((u.1 3918) + (1 : Int32))) x_ e_) (fun q866r q866u e867 b868 => ?_)
              refine g_goto rfl ?_
              refine g_istore_n (lv' := [(0, .ref 39), (1, .int q742), (2, .int q866r)]) rfl (Nat.le_of_ble_eq_true rfl) rfl rfl ?_
              refine g_iload_n rfl rfl ?_
              refine g_bipush (v := (40 : Int32)) rfl zib_40 ?_
              refine g_icmpne rfl (fun c869 => ?_) (fun c869 => ?_)
              · refine g_aload_n rfl rfl ?_
                refine g_dup rfl rfl ?_
                refine g_getI rfl zf_M_186 rfl rfl rfl ?_
                refine g_iconst (v := (1 : Int32)) rfl zic_1 ?_
                refine g_isub rfl ?_
                refine g_put (j := 3921) rfl zf_M_186 rfl rfl zp_11_21.1 (Or.inl zp_11_21.2) rfl ?_
                refine g_iload_n rfl rfl ?_
                refine g_bipush (v := (40 : Int32)) rfl zib_40 ?_
                refine g_icmpne rfl (fun c870 => ?_) (fun c870 => ?_)
                · refine g_iload_n rfl rfl ?_
                  refine g_bipush (v := (45 : Int32)) rfl zib_45 ?_
                  refine g_icmpne rfl (fun c871 => ?_) (fun c871 => ?_)
                  · refine g_iload_n rfl rfl ?_
                    refine g_ifne rfl (fun c872 => ?_) (fun c872 => ?_)
                    · refine g_iconst (v := (0 : Int32)) rfl zic_0 ?_
                      exact g_iret rfl (Or.inl rfl) rfl
                    · refine g_iconst (v := (1 : Int32)) rfl zic_1 ?_
                      refine g_goto rfl ?_
                      exact g_iret rfl (Or.inl rfl) rfl
                  · refine g_iload_n rfl rfl ?_
                    refine g_ineg rfl ?_
                    refine g_goto rfl ?_
                    exact g_iret rfl (Or.inl rfl) rfl
                · refine g_iload_n rfl rfl ?_
                  refine g_goto rfl ?_
                  exact g_iret rfl (Or.inl rfl) rfl
              · refine g_aload_n rfl rfl ?_
                refine g_bipush (v := (41 : Int32)) rfl zib_41 ?_
                refine g_callVI (M' := m_M_takes) (d' := 2) (as := [.int (41 : Int32)]) (rest := []) (ci := 11) (o := 39) rfl ml_M_171 v_M_takes (by omega) rfl (by decide) rfl rfl rfl (Nat.le_of_ble_eq_true rfl) (fun x_ e_ => s_M_takes G (41 : Int32) q866u x_ e_) (fun q873r q873u e874 b875 => ?_)
                refine g_ifne rfl (fun c876 => ?_) (fun c876 => ?_)
                · refine g_aload_n rfl rfl ?_
                  refine g_dup rfl rfl ?_
                  refine g_getI rfl zf_M_186 rfl rfl rfl ?_
                  refine g_iconst (v := (1 : Int32)) rfl zic_1 ?_
                  refine g_isub rfl ?_
                  refine g_put (j := 3921) rfl zf_M_186 rfl rfl zp_11_21.1 (Or.inl zp_11_21.2) rfl ?_
                  refine g_iload_n rfl rfl ?_
                  refine g_bipush (v := (40 : Int32)) rfl zib_40 ?_
                  refine g_icmpne rfl (fun c877 => ?_) (fun c877 => ?_)
                  · refine g_iload_n rfl rfl ?_
                    refine g_bipush (v := (45 : Int32)) rfl zib_45 ?_
                    refine g_icmpne rfl (fun c878 => ?_) (fun c878 => ?_)
                    · refine g_iload_n rfl rfl ?_
                      refine g_ifne rfl (fun c879 => ?_) (fun c879 => ?_)
                      · refine g_iconst (v := (0 : Int32)) rfl zic_0 ?_
                        exact g_iret rfl (Or.inl rfl) rfl
                      · refine g_iconst (v := (1 : Int32)) rfl zic_1 ?_
                        refine g_goto rfl ?_
                        exact g_iret rfl (Or.inl rfl) rfl
                    · refine g_iload_n rfl rfl ?_
                      refine g_ineg rfl ?_
                      refine g_goto rfl ?_
                      exact g_iret rfl (Or.inl rfl) rfl
                  · refine g_iload_n rfl rfl ?_
                    refine g_goto rfl ?_
                    exact g_iret rfl (Or.inl rfl) rfl
                · refine g_aload_n rfl rfl ?_
                  refine g_callVI (M' := m_M_wrong) (d' := 1) (as := []) (rest := []) (ci := 11) (o := 39) rfl ml_M_189 v_M_wrong (by omega) rfl (by decide) rfl rfl rfl (Nat.le_of_ble_eq_true rfl) (fun x_ e_ => s_M_wrong G  q873u x_ e_) (fun q880r q880u e881 b882 => ?_)
                  exact g_iret rfl (Or.inl rfl) rfl
          · refine g_aload_n rfl rfl ?_
            refine g_callVI (M' := m_M_wrong) (d' := 1) (as := []) (rest := []) (ci := 11) (o := 39) rfl ml_M_189 v_M_wrong (by omega) rfl (by decide) rfl rfl rfl (Nat.le_of_ble_eq_true rfl) (fun x_ e_ => s_M_wrong G  u x_ e_) (fun q883r q883u e884 b885 => ?_)
            exact g_iret rfl (Or.inl rfl) rfl
  · refine g_iconst (v := (0 : Int32)) rfl zic_0 ?_
    exact g_iret rfl (Or.inl rfl) rfl
set_option maxRecDepth 100000 in
set_option maxHeartbeats 4000000 in
theorem ts_M_one (G : ZG) (rc : Nat → ZSt → Option (Int32 × ZSt)) (d : Nat) (hd : 3 ≤ d) (h0 : ∀ (u : ZSt) x, rc 0  u = some x → ZSpec G m_M_both d [.ref 39] u (zemI x)) (h1 : ∀ (u : ZSt) x, rc 1  u = some x → ZSpec G m_M_compared d [.ref 39] u (zemI x)) (h2 : ∀ (u : ZSt) x, rc 2  u = some x → ZSpec G m_M_either d [.ref 39] u (zemI x)) (h3 : ∀ (u : ZSt) x, rc 3  u = some x → ZSpec G m_M_one d [.ref 39] u (zemI x)) (h4 : ∀ (u : ZSt) x, rc 4  u = some x → ZSpec G m_M_product d [.ref 39] u (zemI x)) (h5 : ∀ (u : ZSt) x, rc 5  u = some x → ZSpec G m_M_sums d [.ref 39] u (zemI x)) (u : ZSt) (x : Int32 × ZSt) (hx : t_M_one rc u = some x) : ZSpec G m_M_one (d + 1) [.ref 39] u (zemI x) :=
  ZSpec.go k_M_one (Nat.le_of_ble_eq_true rfl) (w_M_one G rc d hd h0 h1 h2 h3 h4 h5 u) (tgt := zemI x) (by rw [hx]; rfl)
set_option maxRecDepth 100000 in
set_option maxHeartbeats 4000000 in
theorem wb_M_product_6 (G : ZG) (rc : Nat → ZSt → Option (Int32 × ZSt)) (d : Nat) (hd : 3 ≤ d) (h0 : ∀ (u : ZSt) x, rc 0  u = some x → ZSpec G m_M_both d [.ref 39] u (zemI x)) (h1 : ∀ (u : ZSt) x, rc 1  u = some x → ZSpec G m_M_compared d [.ref 39] u (zemI x)) (h2 : ∀ (u : ZSt) x, rc 2  u = some x → ZSpec G m_M_either d [.ref 39] u (zemI x)) (h3 : ∀ (u : ZSt) x, rc 3  u = some x → ZSpec G m_M_one d [.ref 39] u (zemI x)) (h4 : ∀ (u : ZSt) x, rc 4  u = some x → ZSpec G m_M_product d [.ref 39] u (zemI x)) (h5 : ∀ (u : ZSt) x, rc 5  u = some x → ZSpec G m_M_sums d [.ref 39] u (zemI x)) (l1 : Int32) (l2 : Int32) (u : ZSt) (K : ((Int32 × Int32 × ZSt) ⊕ (Int32 × Int32 × ZSt)) → Option (Value × ZSt)) (hb : ∀ (l1 : Int32) (l2 : Int32) (u : ZSt), ZGo G m_M_product (d + 1) (K (.inl (l1, l2, u))) some 6 [(0, .ref 39), (1, .int l1), (2, .int l2)] [] u) (hx : ∀ (l1 : Int32) (l2 : Int32) (u : ZSt), ZGo G m_M_product (d + 1) (K (.inr (l1, l2, u))) some 53 [(1, .int l1)] [] u) : ZGo G m_M_product (d + 1) (b_M_product_6 rc l1 l2 u) K 6 [(0, .ref 39), (1, .int l1), (2, .int l2)] [] u := by
  unfold b_M_product_6
  refine g_aload_n rfl rfl ?_
  refine g_getI rfl zf_M_161 rfl rfl rfl ?_
  refine g_ifge rfl (fun c892 => ?_) (fun c892 => ?_)
  · exact zgo_sub (zsubk [1] rfl) (zgo_leaf (hx l1 l2 u))
  · refine g_iload_n rfl rfl ?_
    refine g_bipush (v := (42 : Int32)) rfl zib_42 ?_
    refine g_icmpeq rfl (fun c893 => ?_) (fun c893 => ?_)
    · refine g_aload_n rfl rfl ?_
      refine g_dup rfl rfl ?_
      refine g_getI rfl zf_M_152 rfl rfl rfl ?_
      refine g_iconst (v := (1 : Int32)) rfl zic_1 ?_
      refine g_iadd rfl ?_
      refine g_put (j := 3918) rfl zf_M_152 rfl rfl zp_11_18.1 (Or.inl zp_11_18.2) rfl ?_
      refine g_aload_n rfl rfl ?_
      refine g_callVI (M' := m_M_one) (d' := d) (as := []) (rest := []) (ci := 11) (o := 39) rfl ml_M_183 v_M_one (by omega) rfl (by decide) rfl rfl rfl (Nat.le_of_ble_eq_true rfl) (fun x_ e_ => h3  (zs u 3918 ((u.1 3918) + (1 : Int32))) x_ e_) (fun q894r q894u e895 b896 => ?_)
      refine g_istore_n (lv' := [(0, .ref 39), (1, .int l1), (2, .int l2), (3, .int q894r)]) rfl (Nat.le_of_ble_eq_true rfl) rfl rfl ?_
      refine g_iload_n rfl rfl ?_
      refine g_bipush (v := (42 : Int32)) rfl zib_42 ?_
      refine g_icmpne rfl (fun c897 => ?_) (fun c897 => ?_)
      · refine g_iload_n rfl rfl ?_
        refine g_ifne rfl (fun c898 => ?_) (fun c898 => ?_)
        · refine g_iload_n rfl rfl ?_
          refine g_bipush (v := (47 : Int32)) rfl zib_47 ?_
          refine g_icmpne rfl (fun c899 => ?_) (fun c899 => ?_)
          · refine g_iload_n rfl rfl ?_
            refine g_iload_n rfl rfl ?_
            refine g_irem rfl c898 ?_
            refine g_istore_n (lv' := [(0, .ref 39), (1, .int (zrem l1 q894r)), (2, .int l2), (3, .int q894r)]) rfl (Nat.le_of_ble_eq_true rfl) rfl rfl ?_
            refine g_aload_n rfl rfl ?_
            refine g_callVP (M' := m_M_byteAt) (d' := 1) (as := []) (rest := []) (ci := 11) (o := 39) rfl ml_M_164 v_M_byteAt (by omega) rfl (by decide) rfl rfl rfl (Nat.le_of_ble_eq_true rfl) (fun x_ e_ => s_M_byteAt G  q894u x_ e_) (fun q900 e901 b902 => ?_)
            refine g_istore_n (lv' := [(0, .ref 39), (1, .int (zrem l1 q894r)), (2, .int q900), (3, .int q894r)]) rfl (Nat.le_of_ble_eq_true rfl) rfl rfl ?_
            refine g_goto rfl ?_
            exact zgo_sub (zsubk [0, 1, 2] rfl) (zgo_leaf (hb (zrem l1 q894r) q900 q894u))
          · refine g_iload_n rfl rfl ?_
            refine g_iload_n rfl rfl ?_
            refine g_idiv rfl c898 ?_
            refine g_goto rfl ?_
            refine g_istore_n (lv' := [(0, .ref 39), (1, .int (l1 / q894r)), (2, .int l2), (3, .int q894r)]) rfl (Nat.le_of_ble_eq_true rfl) rfl rfl ?_
            refine g_aload_n rfl rfl ?_
            refine g_callVP (M' := m_M_byteAt) (d' := 1) (as := []) (rest := []) (ci := 11) (o := 39) rfl ml_M_164 v_M_byteAt (by omega) rfl (by decide) rfl rfl rfl (Nat.le_of_ble_eq_true rfl) (fun x_ e_ => s_M_byteAt G  q894u x_ e_) (fun q903 e904 b905 => ?_)
            refine g_istore_n (lv' := [(0, .ref 39), (1, .int (l1 / q894r)), (2, .int q903), (3, .int q894r)]) rfl (Nat.le_of_ble_eq_true rfl) rfl rfl ?_
            refine g_goto rfl ?_
            exact zgo_sub (zsubk [0, 1, 2] rfl) (zgo_leaf (hb (l1 / q894r) q903 q894u))
        · refine g_iconst (v := (0 : Int32)) rfl zic_0 ?_
          refine g_goto rfl ?_
          refine g_istore_n (lv' := [(0, .ref 39), (1, .int (0 : Int32)), (2, .int l2), (3, .int q894r)]) rfl (Nat.le_of_ble_eq_true rfl) rfl rfl ?_
          refine g_aload_n rfl rfl ?_
          refine g_callVP (M' := m_M_byteAt) (d' := 1) (as := []) (rest := []) (ci := 11) (o := 39) rfl ml_M_164 v_M_byteAt (by omega) rfl (by decide) rfl rfl rfl (Nat.le_of_ble_eq_true rfl) (fun x_ e_ => s_M_byteAt G  q894u x_ e_) (fun q906 e907 b908 => ?_)
          refine g_istore_n (lv' := [(0, .ref 39), (1, .int (0 : Int32)), (2, .int q906), (3, .int q894r)]) rfl (Nat.le_of_ble_eq_true rfl) rfl rfl ?_
          refine g_goto rfl ?_
          exact zgo_sub (zsubk [0, 1, 2] rfl) (zgo_leaf (hb (0 : Int32) q906 q894u))
      · refine g_iload_n rfl rfl ?_
        refine g_iload_n rfl rfl ?_
        refine g_imul rfl ?_
        refine g_goto rfl ?_
        refine g_istore_n (lv' := [(0, .ref 39), (1, .int (l1 * q894r)), (2, .int l2), (3, .int q894r)]) rfl (Nat.le_of_ble_eq_true rfl) rfl rfl ?_
        refine g_aload_n rfl rfl ?_
        refine g_callVP (M' := m_M_byteAt) (d' := 1) (as := []) (rest := []) (ci := 11) (o := 39) rfl ml_M_164 v_M_byteAt (by omega) rfl (by decide) rfl rfl rfl (Nat.le_of_ble_eq_true rfl) (fun x_ e_ => s_M_byteAt G  q894u x_ e_) (fun q909 e910 b911 => ?_)
        refine g_istore_n (lv' := [(0, .ref 39), (1, .int (l1 * q894r)), (2, .int q909), (3, .int q894r)]) rfl (Nat.le_of_ble_eq_true rfl) rfl rfl ?_
        refine g_goto rfl ?_
        exact zgo_sub (zsubk [0, 1, 2] rfl) (zgo_leaf (hb (l1 * q894r) q909 q894u))
    · refine g_iload_n rfl rfl ?_
      refine g_bipush (v := (47 : Int32)) rfl zib_47 ?_
      refine g_icmpeq rfl (fun c912 => ?_) (fun c912 => ?_)
      · refine g_aload_n rfl rfl ?_
        refine g_dup rfl rfl ?_
        refine g_getI rfl zf_M_152 rfl rfl rfl ?_
        refine g_iconst (v := (1 : Int32)) rfl zic_1 ?_
        refine g_iadd rfl ?_
        refine g_put (j := 3918) rfl zf_M_152 rfl rfl zp_11_18.1 (Or.inl zp_11_18.2) rfl ?_
        refine g_aload_n rfl rfl ?_
        refine g_callVI (M' := m_M_one) (d' := d) (as := []) (rest := []) (ci := 11) (o := 39) rfl ml_M_183 v_M_one (by omega) rfl (by decide) rfl rfl rfl (Nat.le_of_ble_eq_true rfl) (fun x_ e_ => h3  (zs u 3918 ((u.1 3918) + (1 : Int32))) x_ e_) (fun q913r q913u e914 b915 => ?_)
        refine g_istore_n (lv' := [(0, .ref 39), (1, .int l1), (2, .int l2), (3, .int q913r)]) rfl (Nat.le_of_ble_eq_true rfl) rfl rfl ?_
        refine g_iload_n rfl rfl ?_
        refine g_bipush (v := (42 : Int32)) rfl zib_42 ?_
        refine g_icmpne rfl (fun c916 => ?_) (fun c916 => ?_)
        · refine g_iload_n rfl rfl ?_
          refine g_ifne rfl (fun c917 => ?_) (fun c917 => ?_)
          · refine g_iload_n rfl rfl ?_
            refine g_bipush (v := (47 : Int32)) rfl zib_47 ?_
            refine g_icmpne rfl (fun c918 => ?_) (fun c918 => ?_)
            · refine g_iload_n rfl rfl ?_
              refine g_iload_n rfl rfl ?_
              refine g_irem rfl c917 ?_
              refine g_istore_n (lv' := [(0, .ref 39), (1, .int (zrem l1 q913r)), (2, .int l2), (3, .int q913r)]) rfl (Nat.le_of_ble_eq_true rfl) rfl rfl ?_
              refine g_aload_n rfl rfl ?_
              refine g_callVP (M' := m_M_byteAt) (d' := 1) (as := []) (rest := []) (ci := 11) (o := 39) rfl ml_M_164 v_M_byteAt (by omega) rfl (by decide) rfl rfl rfl (Nat.le_of_ble_eq_true rfl) (fun x_ e_ => s_M_byteAt G  q913u x_ e_) (fun q919 e920 b921 => ?_)
              refine g_istore_n (lv' := [(0, .ref 39), (1, .int (zrem l1 q913r)), (2, .int q919), (3, .int q913r)]) rfl (Nat.le_of_ble_eq_true rfl) rfl rfl ?_
              refine g_goto rfl ?_
              exact zgo_sub (zsubk [0, 1, 2] rfl) (zgo_leaf (hb (zrem l1 q913r) q919 q913u))
            · refine g_iload_n rfl rfl ?_
              refine g_iload_n rfl rfl ?_
              refine g_idiv rfl c917 ?_
              refine g_goto rfl ?_
              refine g_istore_n (lv' := [(0, .ref 39), (1, .int (l1 / q913r)), (2, .int l2), (3, .int q913r)]) rfl (Nat.le_of_ble_eq_true rfl) rfl rfl ?_
              refine g_aload_n rfl rfl ?_
              refine g_callVP (M' := m_M_byteAt) (d' := 1) (as := []) (rest := []) (ci := 11) (o := 39) rfl ml_M_164 v_M_byteAt (by omega) rfl (by decide) rfl rfl rfl (Nat.le_of_ble_eq_true rfl) (fun x_ e_ => s_M_byteAt G  q913u x_ e_) (fun q922 e923 b924 => ?_)
              refine g_istore_n (lv' := [(0, .ref 39), (1, .int (l1 / q913r)), (2, .int q922), (3, .int q913r)]) rfl (Nat.le_of_ble_eq_true rfl) rfl rfl ?_
              refine g_goto rfl ?_
              exact zgo_sub (zsubk [0, 1, 2] rfl) (zgo_leaf (hb (l1 / q913r) q922 q913u))
          · refine g_iconst (v := (0 : Int32)) rfl zic_0 ?_
            refine g_goto rfl ?_
            refine g_istore_n (lv' := [(0, .ref 39), (1, .int (0 : Int32)), (2, .int l2), (3, .int q913r)]) rfl (Nat.le_of_ble_eq_true rfl) rfl rfl ?_
            refine g_aload_n rfl rfl ?_
            refine g_callVP (M' := m_M_byteAt) (d' := 1) (as := []) (rest := []) (ci := 11) (o := 39) rfl ml_M_164 v_M_byteAt (by omega) rfl (by decide) rfl rfl rfl (Nat.le_of_ble_eq_true rfl) (fun x_ e_ => s_M_byteAt G  q913u x_ e_) (fun q925 e926 b927 => ?_)
            refine g_istore_n (lv' := [(0, .ref 39), (1, .int (0 : Int32)), (2, .int q925), (3, .int q913r)]) rfl (Nat.le_of_ble_eq_true rfl) rfl rfl ?_
            refine g_goto rfl ?_
            exact zgo_sub (zsubk [0, 1, 2] rfl) (zgo_leaf (hb (0 : Int32) q925 q913u))
        · refine g_iload_n rfl rfl ?_
          refine g_iload_n rfl rfl ?_
          refine g_imul rfl ?_
          refine g_goto rfl ?_
          refine g_istore_n (lv' := [(0, .ref 39), (1, .int (l1 * q913r)), (2, .int l2), (3, .int q913r)]) rfl (Nat.le_of_ble_eq_true rfl) rfl rfl ?_
          refine g_aload_n rfl rfl ?_
          refine g_callVP (M' := m_M_byteAt) (d' := 1) (as := []) (rest := []) (ci := 11) (o := 39) rfl ml_M_164 v_M_byteAt (by omega) rfl (by decide) rfl rfl rfl (Nat.le_of_ble_eq_true rfl) (fun x_ e_ => s_M_byteAt G  q913u x_ e_) (fun q928 e929 b930 => ?_)
          refine g_istore_n (lv' := [(0, .ref 39), (1, .int (l1 * q913r)), (2, .int q928), (3, .int q913r)]) rfl (Nat.le_of_ble_eq_true rfl) rfl rfl ?_
          refine g_goto rfl ?_
          exact zgo_sub (zsubk [0, 1, 2] rfl) (zgo_leaf (hb (l1 * q913r) q928 q913u))
      · refine g_iload_n rfl rfl ?_
        refine g_bipush (v := (37 : Int32)) rfl zib_37 ?_
        refine g_icmpne rfl (fun c931 => ?_) (fun c931 => ?_)
        · exact zgo_sub (zsubk [1] rfl) (zgo_leaf (hx l1 l2 u))
        · refine g_aload_n rfl rfl ?_
          refine g_dup rfl rfl ?_
          refine g_getI rfl zf_M_152 rfl rfl rfl ?_
          refine g_iconst (v := (1 : Int32)) rfl zic_1 ?_
          refine g_iadd rfl ?_
          refine g_put (j := 3918) rfl zf_M_152 rfl rfl zp_11_18.1 (Or.inl zp_11_18.2) rfl ?_
          refine g_aload_n rfl rfl ?_
          refine g_callVI (M' := m_M_one) (d' := d) (as := []) (rest := []) (ci := 11) (o := 39) rfl ml_M_183 v_M_one (by omega) rfl (by decide) rfl rfl rfl (Nat.le_of_ble_eq_true rfl) (fun x_ e_ => h3  (zs u 3918 ((u.1 3918) + (1 : Int32))) x_ e_) (fun q932r q932u e933 b934 => ?_)
          refine g_istore_n (lv' := [(0, .ref 39), (1, .int l1), (2, .int l2), (3, .int q932r)]) rfl (Nat.le_of_ble_eq_true rfl) rfl rfl ?_
          refine g_iload_n rfl rfl ?_
          refine g_bipush (v := (42 : Int32)) rfl zib_42 ?_
          refine g_icmpne rfl (fun c935 => ?_) (fun c935 => ?_)
          · refine g_iload_n rfl rfl ?_
            refine g_ifne rfl (fun c936 => ?_) (fun c936 => ?_)
            · refine g_iload_n rfl rfl ?_
              refine g_bipush (v := (47 : Int32)) rfl zib_47 ?_
              refine g_icmpne rfl (fun c937 => ?_) (fun c937 => ?_)
              · refine g_iload_n rfl rfl ?_
                refine g_iload_n rfl rfl ?_
                refine g_irem rfl c936 ?_
                refine g_istore_n (lv' := [(0, .ref 39), (1, .int (zrem l1 q932r)), (2, .int l2), (3, .int q932r)]) rfl (Nat.le_of_ble_eq_true rfl) rfl rfl ?_
                refine g_aload_n rfl rfl ?_
                refine g_callVP (M' := m_M_byteAt) (d' := 1) (as := []) (rest := []) (ci := 11) (o := 39) rfl ml_M_164 v_M_byteAt (by omega) rfl (by decide) rfl rfl rfl (Nat.le_of_ble_eq_true rfl) (fun x_ e_ => s_M_byteAt G  q932u x_ e_) (fun q938 e939 b940 => ?_)
                refine g_istore_n (lv' := [(0, .ref 39), (1, .int (zrem l1 q932r)), (2, .int q938), (3, .int q932r)]) rfl (Nat.le_of_ble_eq_true rfl) rfl rfl ?_
                refine g_goto rfl ?_
                exact zgo_sub (zsubk [0, 1, 2] rfl) (zgo_leaf (hb (zrem l1 q932r) q938 q932u))
              · refine g_iload_n rfl rfl ?_
                refine g_iload_n rfl rfl ?_
                refine g_idiv rfl c936 ?_
                refine g_goto rfl ?_
                refine g_istore_n (lv' := [(0, .ref 39), (1, .int (l1 / q932r)), (2, .int l2), (3, .int q932r)]) rfl (Nat.le_of_ble_eq_true rfl) rfl rfl ?_
                refine g_aload_n rfl rfl ?_
                refine g_callVP (M' := m_M_byteAt) (d' := 1) (as := []) (rest := []) (ci := 11) (o := 39) rfl ml_M_164 v_M_byteAt (by omega) rfl (by decide) rfl rfl rfl (Nat.le_of_ble_eq_true rfl) (fun x_ e_ => s_M_byteAt G  q932u x_ e_) (fun q941 e942 b943 => ?_)
                refine g_istore_n (lv' := [(0, .ref 39), (1, .int (l1 / q932r)), (2, .int q941), (3, .int q932r)]) rfl (Nat.le_of_ble_eq_true rfl) rfl rfl ?_
                refine g_goto rfl ?_
                exact zgo_sub (zsubk [0, 1, 2] rfl) (zgo_leaf (hb (l1 / q932r) q941 q932u))
            · refine g_iconst (v := (0 : Int32)) rfl zic_0 ?_
              refine g_goto rfl ?_
              refine g_istore_n (lv' := [(0, .ref 39), (1, .int (0 : Int32)), (2, .int l2), (3, .int q932r)]) rfl (Nat.le_of_ble_eq_true rfl) rfl rfl ?_
              refine g_aload_n rfl rfl ?_
              refine g_callVP (M' := m_M_byteAt) (d' := 1) (as := []) (rest := []) (ci := 11) (o := 39) rfl ml_M_164 v_M_byteAt (by omega) rfl (by decide) rfl rfl rfl (Nat.le_of_ble_eq_true rfl) (fun x_ e_ => s_M_byteAt G  q932u x_ e_) (fun q944 e945 b946 => ?_)
              refine g_istore_n (lv' := [(0, .ref 39), (1, .int (0 : Int32)), (2, .int q944), (3, .int q932r)]) rfl (Nat.le_of_ble_eq_true rfl) rfl rfl ?_
              refine g_goto rfl ?_
              exact zgo_sub (zsubk [0, 1, 2] rfl) (zgo_leaf (hb (0 : Int32) q944 q932u))
          · refine g_iload_n rfl rfl ?_
            refine g_iload_n rfl rfl ?_
            refine g_imul rfl ?_
            refine g_goto rfl ?_
            refine g_istore_n (lv' := [(0, .ref 39), (1, .int (l1 * q932r)), (2, .int l2), (3, .int q932r)]) rfl (Nat.le_of_ble_eq_true rfl) rfl rfl ?_
            refine g_aload_n rfl rfl ?_
            refine g_callVP (M' := m_M_byteAt) (d' := 1) (as := []) (rest := []) (ci := 11) (o := 39) rfl ml_M_164 v_M_byteAt (by omega) rfl (by decide) rfl rfl rfl (Nat.le_of_ble_eq_true rfl) (fun x_ e_ => s_M_byteAt G  q932u x_ e_) (fun q947 e948 b949 => ?_)
            refine g_istore_n (lv' := [(0, .ref 39), (1, .int (l1 * q932r)), (2, .int q947), (3, .int q932r)]) rfl (Nat.le_of_ble_eq_true rfl) rfl rfl ?_
            refine g_goto rfl ?_
            exact zgo_sub (zsubk [0, 1, 2] rfl) (zgo_leaf (hb (l1 * q932r) q947 q932u))
