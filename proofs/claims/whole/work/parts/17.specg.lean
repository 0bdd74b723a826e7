/-! by program (gen3.py): each method does what its function says -/
set_option maxRecDepth 100000 in
set_option maxHeartbeats 4000000 in
theorem ts_Voters_run (G : ZG) (rc : Nat → Int32 → Int32 → Int32 → Int32 → Int32 → ZSt → Option (Int32 × ZSt)) (d : Nat) (hd : 3 ≤ d) (h0 : ∀ (a : Int32) (b : Int32) (c : Int32) (e : Int32) (u : ZSt) x, rc 0 a b c e 0 u = some x → ZSpec G m_Voters_own d [.ref 36, .int a, .int b, .int c, .int e] u (zemI x)) (h1 : ∀ (a : Int32) (b : Int32) (c : Int32) (e : Int32) (f : Int32) (u : ZSt) x, rc 1 a b c e f u = some x → ZSpec G m_Voters_run d [.ref 36, .int a, .int b, .int c, .int e, .int f] u (zemI x)) (h2 : ∀ (a : Int32) (b : Int32) (c : Int32) (e : Int32) (f : Int32) (u : ZSt) x, rc 2 a b c e f u = some x → ZSpec G m_Voters_runFrom d [.ref 36, .int a, .int b, .int c, .int e, .int f] u (zemI x)) (a : Int32) (b : Int32) (c : Int32) (e : Int32) (f : Int32) (u : ZSt) (x : Int32 × ZSt) (hx : t_Voters_run rc a b c e f u = some x) : ZSpec G m_Voters_run (d + 1) [.ref 36, .int a, .int b, .int c, .int e, .int f] u (zemI x) :=
  ZSpec.go k_Voters_run (Nat.le_of_ble_eq_true rfl) (w_Voters_run G rc d hd h0 h1 h2 a b c e f u) (tgt := zemI x) (by rw [hx]; rfl)
set_option maxRecDepth 100000 in
set_option maxHeartbeats 4000000 in
theorem wb_Voters_runFrom_4 (G : ZG) (rc : Nat → Int32 → Int32 → Int32 → Int32 → Int32 → ZSt → Option (Int32 × ZSt)) (d : Nat) (hd : 3 ≤ d) (h0 : ∀ (a : Int32) (b : Int32) (c : Int32) (e : Int32) (u : ZSt) x, rc 0 a b c e 0 u = some x → ZSpec G m_Voters_own d [.ref 36, .int a, .int b, .int c, .int e] u (zemI x)) (h1 : ∀ (a : Int32) (b : Int32) (c : Int32) (e : Int32) (f : Int32) (u : ZSt) x, rc 1 a b c e f u = some x → ZSpec G m_Voters_run d [.ref 36, .int a, .int b, .int c, .int e, .int f] u (zemI x)) (h2 : ∀ (a : Int32) (b : Int32) (c : Int32) (e : Int32) (f : Int32) (u : ZSt) x, rc 2 a b c e f u = some x → ZSpec G m_Voters_runFrom d [.ref 36, .int a, .int b, .int c, .int e, .int f] u (zemI x)) (l2 : Int32) (l3 : Int32) (l4 : Int32) (l5 : Int32) (l6 : Int32) (l7 : Int32) (u : ZSt) (K : ((Int32 × Int32) ⊕ (Int32 × Int32)) → Option (Value × ZSt)) (hb : ∀ (l6 : Int32) (l7 : Int32), ZGo G m_Voters_runFrom (d + 1) (K (.inl (l6, l7))) some 4 [(0, .ref 36), (2, .int l2), (3, .int l3), (4, .int l4), (5, .int l5), (6, .int l6), (7, .int l7)] [] u) (hx : ∀ (l6 : Int32) (l7 : Int32), ZGo G m_Voters_runFrom (d + 1) (K (.inr (l6, l7))) some 16 [(0, .ref 36), (2, .int l2), (3, .int l3), (4, .int l4), (5, .int l5), (6, .int l6)] [] u) : ZGo G m_Voters_runFrom (d + 1) (b_Voters_runFrom_4 rc l2 l3 l4 l5 l6 l7 u) K 4 [(0, .ref 36), (2, .int l2), (3, .int l3), (4, .int l4), (5, .int l5), (6, .int l6), (7, .int l7)] [] u := by
  unfold b_Voters_runFrom_4
  refine g_iload rfl rfl ?_
  refine g_bipush (v := (8 : Int32)) rfl zib_8 ?_
  refine g_icmpge rfl (fun c2625 => ?_) (fun c2625 => ?_)
  · exact zgo_sub (zsubk [0, 1, 2, 3, 4, 5] rfl) (zgo_leaf (hx l6 l7))
  · refine g_iload rfl rfl ?_
    refine g_iload_n rfl rfl ?_
    refine g_callSP (M' := m_Voters_bodyAt) (d' := 2) (as := [.int l6, .int l3]) (rest := []) rfl ml_Voters_47 v_Voters_bodyAt (by omega) rfl rfl (Nat.le_of_ble_eq_true rfl) (fun x_ e_ => s_Voters_bodyAt G l6 l3 u x_ e_) (fun q2626 e2627 b2628 => ?_)
    refine g_ifne rfl (fun c2629 => ?_) (fun c2629 => ?_)
    · exact zgo_sub (zsubk [0, 1, 2, 3, 4, 5] rfl) (zgo_leaf (hx l6 l7))
    · refine g_iload rfl rfl ?_
      refine g_callSP (M' := m_Voters_aboveOf) (d' := 1) (as := [.int l6]) (rest := []) rfl ml_Voters_22 v_Voters_aboveOf (by omega) rfl rfl (Nat.le_of_ble_eq_true rfl) (fun x_ e_ => s_Voters_aboveOf G l6 u x_ e_) (fun q2630 e2631 b2632 => ?_)
      refine g_istore (lv' := [(0, .ref 36), (2, .int l2), (3, .int l3), (4, .int l4), (5, .int l5), (6, .int q2630), (7, .int l7)]) rfl (Nat.le_of_ble_eq_true rfl) rfl rfl ?_
      refine g_iinc (v := (1 : Int32)) (lv' := [(0, .ref 36), (2, .int l2), (3, .int l3), (4, .int l4), (5, .int l5), (6, .int q2630), (7, .int (l7 + (1 : Int32)))]) rfl rfl zic_1 (Nat.le_of_ble_eq_true rfl) rfl rfl ?_
      refine g_goto rfl ?_
      exact zgo_sub (zsubk [0, 1, 2, 3, 4, 5, 6] rfl) (zgo_leaf (hb q2630 (l7 + (1 : Int32))))
set_option maxRecDepth 100000 in
set_option maxHeartbeats 4000000 in
theorem wa_Voters_runFrom_4 (G : ZG) (rc : Nat → Int32 → Int32 → Int32 → Int32 → Int32 → ZSt → Option (Int32 × ZSt)) (d : Nat) (hd : 3 ≤ d) (h0 : ∀ (a : Int32) (b : Int32) (c : Int32) (e : Int32) (u : ZSt) x, rc 0 a b c e 0 u = some x → ZSpec G m_Voters_own d [.ref 36, .int a, .int b, .int c, .int e] u (zemI x)) (h1 : ∀ (a : Int32) (b : Int32) (c : Int32) (e : Int32) (f : Int32) (u : ZSt) x, rc 1 a b c e f u = some x → ZSpec G m_Voters_run d [.ref 36, .int a, .int b, .int c, .int e, .int f] u (zemI x)) (h2 : ∀ (a : Int32) (b : Int32) (c : Int32) (e : Int32) (f : Int32) (u : ZSt) x, rc 2 a b c e f u = some x → ZSpec G m_Voters_runFrom d [.ref 36, .int a, .int b, .int c, .int e, .int f] u (zemI x)) (l2 : Int32) (l3 : Int32) (l4 : Int32) (l5 : Int32) (l6 : Int32) (u : ZSt) : ZGo G m_Voters_runFrom (d + 1) (a_Voters_runFrom_4 rc l2 l3 l4 l5 l6 u) zkI 16 [(0, .ref 36), (2, .int l2), (3, .int l3), (4, .int l4), (5, .int l5), (6, .int l6)] [] u := by
  unfold a_Voters_runFrom_4
  refine g_iload rfl rfl ?_
  refine g_iload_n rfl rfl ?_
  refine g_callSP (M' := m_Voters_bodyAt) (d' := 2) (as := [.int l6, .int l3]) (rest := []) rfl ml_Voters_47 v_Voters_bodyAt (by omega) rfl rfl (Nat.le_of_ble_eq_true rfl) (fun x_ e_ => s_Voters_bodyAt G l6 l3 u x_ e_) (fun q2633 e2634 b2635 => ?_)
  refine g_istore (lv' := [(0, .ref 36), (2, .int l2), (3, .int l3), (4, .int l4), (5, .int l5), (6, .int l6), (7, .int q2633)]) rfl (Nat.le_of_ble_eq_true rfl) rfl rfl ?_
  refine g_iload rfl rfl ?_
  refine g_ifle rfl (fun c2636 => ?_) (fun c2636 => ?_)
  · refine g_iconst (v := (0 : Int32)) rfl zic_0 ?_
    exact g_iret rfl (Or.inl rfl) rfl
  · refine g_iload rfl rfl ?_
    refine g_bipush (v := (30 : Int32)) rfl zib_30 ?_
    refine g_icmple rfl (fun c2637 => ?_) (fun c2637 => ?_)
    · refine g_aload_n rfl rfl ?_
      refine g_iload rfl rfl ?_
      refine g_callVV (M' := m_Voters_begin) (d' := 1) (as := [.int q2633]) (rest := []) (ci := 8) (o := 36) rfl ml_Voters_51 v_Voters_begin (by omega) rfl (by decide) rfl rfl rfl (Nat.le_of_ble_eq_true rfl) (fun x_ e_ => s_Voters_begin G q2633 u x_ e_) (fun q2638 e2639 b2640 => ?_)
      refine g_aload_n rfl rfl ?_
      refine g_iload rfl rfl ?_
      refine g_iload rfl rfl ?_
      refine g_callSP (M' := m_Voters_aboveOf) (d' := 1) (as := [.int l6]) (rest := [.int q2633, .ref 36]) rfl ml_Voters_22 v_Voters_aboveOf (by omega) rfl rfl (Nat.le_of_ble_eq_true rfl) (fun x_ e_ => s_Voters_aboveOf G l6 q2638 x_ e_) (fun q2641 e2642 b2643 => ?_)
      refine g_iload_n rfl rfl ?_
      refine g_iload rfl rfl ?_
      refine g_iload rfl rfl ?_
      refine g_iconst (v := (1 : Int32)) rfl zic_1 ?_
      refine g_iadd rfl ?_
      refine g_callVI (M' := m_Voters_run) (d' := d) (as := [.int q2633, .int q2641, .int l2, .int l4, .int (l5 + (1 : Int32))]) (rest := []) (ci := 8) (o := 36) rfl ml_Voters_55 v_Voters_run (by omega) rfl (by decide) rfl rfl rfl (Nat.le_of_ble_eq_true rfl) (fun x_ e_ => h1 q2633 q2641 l2 l4 (l5 + (1 : Int32)) q2638 x_ e_) (fun q2644r q2644u e2645 b2646 => ?_)
      exact g_iret rfl (Or.inl rfl) rfl
    · refine g_iconst (v := (0 : Int32)) rfl zic_0 ?_
      exact g_iret rfl (Or.inl rfl) rfl
set_option maxRecDepth 100000 in
set_option maxHeartbeats 4000000 in
theorem w_Voters_runFrom (G : ZG) (rc : Nat → Int32 → Int32 → Int32 → Int32 → Int32 → ZSt → Option (Int32 × ZSt)) (d : Nat) (hd : 3 ≤ d) (h0 : ∀ (a : Int32) (b : Int32) (c : Int32) (e : Int32) (u : ZSt) x, rc 0 a b c e 0 u = some x → ZSpec G m_Voters_own d [.ref 36, .int a, .int b, .int c, .int e] u (zemI x)) (h1 : ∀ (a : Int32) (b : Int32) (c : Int32) (e : Int32) (f : Int32) (u : ZSt) x, rc 1 a b c e f u = some x → ZSpec G m_Voters_run d [.ref 36, .int a, .int b, .int c, .int e, .int f] u (zemI x)) (h2 : ∀ (a : Int32) (b : Int32) (c : Int32) (e : Int32) (f : Int32) (u : ZSt) x, rc 2 a b c e f u = some x → ZSpec G m_Voters_runFrom d [.ref 36, .int a, .int b, .int c, .int e, .int f] u (zemI x)) (a : Int32) (b : Int32) (c : Int32) (e : Int32) (f : Int32) (u : ZSt) : ZGo G m_Voters_runFrom (d + 1) (t_Voters_runFrom rc a b c e f u) zkI 0 [(0, .ref 36), (1, .int a), (2, .int b), (3, .int c), (4, .int e), (5, .int f)] [] u := by
  unfold t_Voters_runFrom
  refine g_iload_n rfl rfl ?_
  refine g_istore (lv' := [(0, .ref 36), (1, .int a), (2, .int b), (3, .int c), (4, .int e), (5, .int f), (6, .int a)]) rfl (Nat.le_of_ble_eq_true rfl) rfl rfl ?_
  refine g_iconst (v := (0 : Int32)) rfl zic_0 ?_
  refine g_istore (lv' := [(0, .ref 36), (1, .int a), (2, .int b), (3, .int c), (4, .int e), (5, .int f), (6, .int a), (7, .int (0 : Int32))]) rfl (Nat.le_of_ble_eq_true rfl) rfl rfl ?_
  refine zgo_sub (lv' := [(0, .ref 36), (2, .int b), (3, .int c), (4, .int e), (5, .int f), (6, .int a), (7, .int (0 : Int32))]) (zsubk [0, 2, 3, 4, 5, 6, 7] rfl) ?_
  refine zgo_loop (σ := Int32 × Int32) (lvf := fun s => [(0, .ref 36), (2, .int b), (3, .int c), (4, .int e), (5, .int f), (6, .int s.1), (7, .int s.2)]) (uf := (fun _ => u)) ?_ zfu _
  intro s K' ih he
  refine wb_Voters_runFrom_4 G rc d hd h0 h1 h2 b c e f s.1 s.2 u K' ?_ ?_
  · intro c0 c1
    exact ih (c0, c1)
  · intro c0 c1
    rw [he]
    exact zgo_unleaf (wa_Voters_runFrom_4 G rc d hd h0 h1 h2 b c e f c0 u)
set_option maxRecDepth 100000 in
set_option maxHeartbeats 4000000 in
theorem ts_Voters_runFrom (G : ZG) (rc : Nat → Int32 → Int32 → Int32 → Int32 → Int32 → ZSt → Option (Int32 × ZSt)) (d : Nat) (hd : 3 ≤ d) (h0 : ∀ (a : Int32) (b : Int32) (c : Int32) (e : Int32) (u : ZSt) x, rc 0 a b c e 0 u = some x → ZSpec G m_Voters_own d [.ref 36, .int a, .int b, .int c, .int e] u (zemI x)) (h1 : ∀ (a : Int32) (b : Int32) (c : Int32) (e : Int32) (f : Int32) (u : ZSt) x, rc 1 a b c e f u = some x → ZSpec G m_Voters_run d [.ref 36, .int a, .int b, .int c, .int e, .int f] u (zemI x)) (h2 : ∀ (a : Int32) (b : Int32) (c : Int32) (e : Int32) (f : Int32) (u : ZSt) x, rc 2 a b c e f u = some x → ZSpec G m_Voters_runFrom d [.ref 36, .int a, .int b, .int c, .int e, .int f] u (zemI x)) (a : Int32) (b : Int32) (c : Int32) (e : Int32) (f : Int32) (u : ZSt) (x : Int32 × ZSt) (hx : t_Voters_runFrom rc a b c e f u = some x) : ZSpec G m_Voters_runFrom (d + 1) [.ref 36, .int a, .int b, .int c, .int e, .int f] u (zemI x) :=
  ZSpec.go k_Voters_runFrom (Nat.le_of_ble_eq_true rfl) (w_Voters_runFrom G rc d hd h0 h1 h2 a b c e f u) (tgt := zemI x) (by rw [hx]; rfl)
set_option maxRecDepth 100000 in
set_option maxHeartbeats 4000000 in
theorem sr_Voters_own (G : ZG) : ∀ n, (∀ (a : Int32) (b : Int32) (c : Int32) (e : Int32) (u : ZSt) x, r_Voters_own n 0 a b c e 0 u = some x → ZSpec G m_Voters_own (n + 3) [.ref 36, .int a, .int b, .int c, .int e] u (zemI x)) ∧ (∀ (a : Int32) (b : Int32) (c : Int32) (e : Int32) (f : Int32) (u : ZSt) x, r_Voters_own n 1 a b c e f u = some x → ZSpec G m_Voters_run (n + 3) [.ref 36, .int a, .int b, .int c, .int e, .int f] u (zemI x)) ∧ (∀ (a : Int32) (b : Int32) (c : Int32) (e : Int32) (f : Int32) (u : ZSt) x, r_Voters_own n 2 a b c e f u = some x → ZSpec G m_Voters_runFrom (n + 3) [.ref 36, .int a, .int b, .int c, .int e, .int f] u (zemI x))
  | 0 => ⟨(fun _ _ _ _ _ _ h => by cases h), (fun _ _ _ _ _ _ _ h => by cases h), (fun _ _ _ _ _ _ _ h => by cases h)⟩
  | n + 1 => by
    obtain ⟨g0, g1, g2⟩ := sr_Voters_own G n
    have e : n + 1 + 3 = (n + 3) + 1 := by omega
    rw [e]
    exact ⟨(fun a b c e u x h => ts_Voters_own G (r_Voters_own n) (n + 3) (by omega) g0 g1 g2 a b c e u x h), (fun a b c e f u x h => ts_Voters_run G (r_Voters_own n) (n + 3) (by omega) g0 g1 g2 a b c e f u x h), (fun a b c e f u x h => ts_Voters_runFrom G (r_Voters_own n) (n + 3) (by omega) g0 g1 g2 a b c e f u x h)⟩
theorem s_Voters_own (G : ZG) (a : Int32) (b : Int32) (c : Int32) (e : Int32) (u : ZSt) (x : Int32 × ZSt) (hx : f_Voters_own a b c e u = some x) : ZSpec G m_Voters_own 103 [.ref 36, .int a, .int b, .int c, .int e] u (zemI x) := (sr_Voters_own G 100).1 a b c e u x hx
theorem s_Voters_run (G : ZG) (a : Int32) (b : Int32) (c : Int32) (e : Int32) (f : Int32) (u : ZSt) (x : Int32 × ZSt) (hx : f_Voters_run a b c e f u = some x) : ZSpec G m_Voters_run 103 [.ref 36, .int a, .int b, .int c, .int e, .int f] u (zemI x) := (sr_Voters_own G 100).2.1 a b c e f u x hx
theorem s_Voters_runFrom (G : ZG) (a : Int32) (b : Int32) (c : Int32) (e : Int32) (f : Int32) (u : ZSt) (x : Int32 × ZSt) (hx : f_Voters_runFrom a b c e f u = some x) : ZSpec G m_Voters_runFrom 103 [.ref 36, .int a, .int b, .int c, .int e, .int f] u (zemI x) := (sr_Voters_own G 100).2.2 a b c e f u x hx
set_option maxRecDepth 100000 in
set_option maxHeartbeats 4000000 in
theorem w_Voters_perform (G : ZG) (a : Int32) (b : Int32) (c : Int32) (u : ZSt) : ZGo G m_Voters_perform 104 (f_Voters_perform a b c u) zkI 0 [(0, .ref 36), (1, .int a), (2, .int b), (3, .int c)] [] u := by
  unfold f_Voters_perform
  refine g_aload_n rfl rfl ?_
  refine g_iconst (v := (0 : Int32)) rfl zic_0 ?_
  refine g_put (j := 3603) rfl zf_Voters_33 rfl rfl zp_8_3.1 (Or.inl zp_8_3.2) rfl ?_
  refine g_aload_n rfl rfl ?_
  refine g_iload_n rfl rfl ?_
  refine g_callVP (M' := m_Voters_isVoter) (d' := 1) (as := [.int a]) (rest := []) (ci := 8) (o := 36) rfl ml_Voters_30 v_Voters_isVoter (by decide) rfl (by decide) rfl rfl rfl (Nat.le_of_ble_eq_true rfl) (fun x_ e_ => s_Voters_isVoter G a (zs u 3603 (0 : Int32)) x_ e_) (fun q2647 e2648 b2649 => ?_)
  refine g_ifeq rfl (fun c2650 => ?_) (fun c2650 => ?_)
  · refine g_iconst (v := (0 : Int32)) rfl zic_0 ?_
    exact g_iret rfl (Or.inl rfl) rfl
  · refine g_iload_n rfl rfl ?_
    refine g_iflt rfl (fun c2651 => ?_) (fun c2651 => ?_)
    · refine g_iconst (v := (0 : Int32)) rfl zic_0 ?_
      exact g_iret rfl (Or.inl rfl) rfl
    · refine g_iload_n rfl rfl ?_
      refine g_iconst (v := (4 : Int32)) rfl zic_4 ?_
      refine g_icmplt rfl (fun c2652 => ?_) (fun c2652 => ?_)
      · refine g_aload_n rfl rfl ?_
        refine g_iload_n rfl rfl ?_
        refine g_iload_n rfl rfl ?_
        refine g_iload_n rfl rfl ?_
        refine g_iconst (v := (0 : Int32)) rfl zic_0 ?_
        refine g_callVI (M' := m_Voters_own) (d' := 103) (as := [.int a, .int b, .int c, .int (0 : Int32)]) (rest := []) (ci := 8) (o := 36) rfl ml_Voters_36 v_Voters_own (by decide) rfl (by decide) rfl rfl rfl (Nat.le_of_ble_eq_true rfl) (fun x_ e_ => s_Voters_own G a b c (0 : Int32) (zs u 3603 (0 : Int32)) x_ e_) (fun q2653r q2653u e2654 b2655 => ?_)
        exact g_iret rfl (Or.inl rfl) rfl
      · refine g_iconst (v := (0 : Int32)) rfl zic_0 ?_
        exact g_iret rfl (Or.inl rfl) rfl
theorem s_Voters_perform (G : ZG) (a : Int32) (b : Int32) (c : Int32) (u : ZSt) (x : Int32 × ZSt) (hx : f_Voters_perform a b c u = some x) : ZSpec G m_Voters_perform 104 [.ref 36, .int a, .int b, .int c] u (zemI x) :=
  ZSpec.go k_Voters_perform (Nat.le_of_ble_eq_true rfl) (w_Voters_perform G a b c u) (tgt := zemI x) (by rw [hx]; rfl)
set_option maxRecDepth 100000 in
set_option maxHeartbeats 4000000 in
theorem w_X_act (G : ZG) (a : Int32) (b : Int32) (c : Int32) (u : ZSt) : ZGo G m_X_act 105 (f_X_act a b c u) zkI 0 [(0, .ref 0), (1, .int a), (2, .int b), (3, .int c)] [] u := by
  unfold f_X_act
  refine g_aload_n rfl rfl ?_
  refine g_getR rfl zf_X_83 rfl rfl ?_
  refine g_iload_n rfl rfl ?_
  refine g_iload_n rfl rfl ?_
  refine g_iload_n rfl rfl ?_
  refine g_callVI (M' := m_Voters_perform) (d' := 104) (as := [.int a, .int b, .int c]) (rest := []) (ci := 8) (o := 36) rfl ml_X_299 v_Voters_perform (by decide) rfl (by decide) rfl rfl rfl (Nat.le_of_ble_eq_true rfl) (fun x_ e_ => s_Voters_perform G a b c u x_ e_) (fun q2656r q2656u e2657 b2658 => ?_)
  exact g_iret rfl (Or.inl rfl) rfl
theorem s_X_act (G : ZG) (a : Int32) (b : Int32) (c : Int32) (u : ZSt) (x : Int32 × ZSt) (hx : f_X_act a b c u = some x) : ZSpec G m_X_act 105 [.ref 0, .int a, .int b, .int c] u (zemI x) :=
  ZSpec.go k_X_act (Nat.le_of_ble_eq_true rfl) (w_X_act G a b c u) (tgt := zemI x) (by rw [hx]; rfl)
set_option maxRecDepth 100000 in
set_option maxHeartbeats 4000000 in
theorem w_M_isBody (G : ZG) (a : Int32) (u : ZSt) : ZGo G m_M_isBody 2 (f_M_isBody a u) (zkP u) 0 [(0, .ref 39), (1, .int a)] [] u := by
  unfold f_M_isBody
  refine g_iload_n rfl rfl ?_
  refine g_i2l rfl ?_
  refine g_lconst (v := (0 : Int64)) rfl rfl ?_
  refine g_aload_n rfl rfl ?_
  refine g_getI rfl zf_M_278 rfl rfl rfl ?_
  refine g_iconst (v := (1 : Int32)) rfl zic_1 ?_
  refine g_isub rfl ?_
  refine g_i2l rfl ?_
  refine g_callSP (M' := m_M_within) (d' := 1) (as := [.long a.toInt64, .long (0 : Int64), .long (((u.1 3932) - (1 : Int32)).toInt64)]) (rest := []) rfl ml_M_97 v_M_within (by decide) rfl rfl (Nat.le_of_ble_eq_true rfl) (fun x_ e_ => s_M_within G a.toInt64 (0 : Int64) (((u.1 3932) - (1 : Int32)).toInt64) u x_ e_) (fun q2659 e2660 b2661 => ?_)
  exact g_iret rfl (Or.inr ⟨rfl, (zbo_i b2661)⟩) rfl
theorem s_M_isBody (G : ZG) (a : Int32) (u : ZSt) (x : Int32) (hx : f_M_isBody a u = some x) : ZSpec G m_M_isBody 2 [.ref 39, .int a] u ((zemP u) x) :=
  ZSpec.go k_M_isBody (Nat.le_of_ble_eq_true rfl) (w_M_isBody G a u) (tgt := (zemP u) x) (by rw [hx]; rfl)
set_option maxRecDepth 100000 in
set_option maxHeartbeats 4000000 in
theorem w_M_begins (G : ZG) (a : Int32) (u : ZSt) : ZGo G m_M_begins 1 (f_M_begins a u) zkV 0 [(0, .ref 39), (1, .int a)] [] u := by
  unfold f_M_begins
  refine g_aload_n rfl rfl ?_
  refine g_getI rfl zf_M_283 rfl rfl rfl ?_
  refine g_bipush (v := (24 : Int32)) rfl zib_24 ?_
  refine g_icmpge rfl (fun c2662 => ?_) (fun c2662 => ?_)
  · refine g_aload_n rfl rfl ?_
    refine g_dup rfl rfl ?_
    refine g_getI rfl zf_M_283 rfl rfl rfl ?_
    refine g_iconst (v := (1 : Int32)) rfl zic_1 ?_
    refine g_iadd rfl ?_
    refine g_put (j := 3935) rfl zf_M_283 rfl rfl zp_11_35.1 (Or.inl zp_11_35.2) rfl ?_
    exact g_vret rfl rfl rfl
  · refine g_aload_n rfl rfl ?_
    refine g_getR rfl zf_M_62 rfl rfl ?_
    refine g_aload_n rfl rfl ?_
    refine g_getI rfl zf_M_283 rfl rfl rfl ?_
    refine g_iload_n rfl rfl ?_
    refine g_iast rfl rfl (fun o2663 => ?_)
    refine g_aload_n rfl rfl ?_
    refine g_dup rfl rfl ?_
    refine g_getIx (x := u.1 3935) rfl zf_M_283 rfl rfl rfl rfl ?_
    refine g_iconst (v := (1 : Int32)) rfl zic_1 ?_
    refine g_iadd rfl ?_
    refine g_put (j := 3935) rfl zf_M_283 rfl rfl zp_11_35.1 (Or.inl zp_11_35.2) rfl ?_
    exact g_vret rfl rfl rfl
theorem s_M_begins (G : ZG) (a : Int32) (u : ZSt) (x : ZSt) (hx : f_M_begins a u = some x) : ZSpec G m_M_begins 1 [.ref 39, .int a] u (zemV x) :=
  ZSpec.go k_M_begins (Nat.le_of_ble_eq_true rfl) (w_M_begins G a u) (tgt := zemV x) (by rw [hx]; rfl)
set_option maxRecDepth 100000 in
set_option maxHeartbeats 4000000 in
theorem w_M_votesAs (G : ZG) (rc : Nat → Int32 → Int32 → ZSt → Option (Int32 × ZSt)) (d : Nat) (hd : 2 ≤ d) (h0 : ∀ (a : Int32) (b : Int32) (u : ZSt) x, rc 0 a b u = some x → ZSpec G m_M_votesAs d [.ref 39, .int a, .int b] u (zemI x)) (a : Int32) (b : Int32) (u : ZSt) : ZGo G m_M_votesAs (d + 1) (t_M_votesAs rc a b u) zkI 0 [(0, .ref 39), (1, .int a), (2, .int b)] [] u := by
  unfold t_M_votesAs
  refine g_iload_n rfl rfl ?_
  refine g_iconst (v := (1 : Int32)) rfl zic_1 ?_
  refine g_icmpeq rfl (fun c2664 => ?_) (fun c2664 => ?_)
  · refine g_aload_n rfl rfl ?_
    refine g_bipush (v := (20 : Int32)) rfl zib_20 ?_
    refine g_callVV (M' := m_M_begins) (d' := 1) (as := [.int (20 : Int32)]) (rest := []) (ci := 11) (o := 39) rfl ml_M_286 v_M_begins (by omega) rfl (by decide) rfl rfl rfl (Nat.le_of_ble_eq_true rfl) (fun x_ e_ => s_M_begins G (20 : Int32) u x_ e_) (fun q2665 e2666 b2667 => ?_)
    refine g_aload_n rfl rfl ?_
    refine g_iconst (v := (0 : Int32)) rfl zic_0 ?_
    refine g_iload_n rfl rfl ?_
    refine g_callVI (M' := m_M_votesAs) (d' := d) (as := [.int (0 : Int32), .int b]) (rest := []) (ci := 11) (o := 39) rfl ml_M_290 v_M_votesAs (by omega) rfl (by decide) rfl rfl rfl (Nat.le_of_ble_eq_true rfl) (fun x_ e_ => h0 (0 : Int32) b q2665 x_ e_) (fun q2668r q2668u e2669 b2670 => ?_)
    refine g_iconst (v := (3 : Int32)) rfl zic_3 ?_
    refine g_iadd rfl ?_
    exact g_iret rfl (Or.inl rfl) rfl
  · refine g_iload_n rfl rfl ?_
    refine g_iconst (v := (4 : Int32)) rfl zic_4 ?_
    refine g_icmpeq rfl (fun c2671 => ?_) (fun c2671 => ?_)
    · refine g_aload_n rfl rfl ?_
      refine g_bipush (v := (20 : Int32)) rfl zib_20 ?_
      refine g_callVV (M' := m_M_begins) (d' := 1) (as := [.int (20 : Int32)]) (rest := []) (ci := 11) (o := 39) rfl ml_M_286 v_M_begins (by omega) rfl (by decide) rfl rfl rfl (Nat.le_of_ble_eq_true rfl) (fun x_ e_ => s_M_begins G (20 : Int32) u x_ e_) (fun q2672 e2673 b2674 => ?_)
      refine g_aload_n rfl rfl ?_
      refine g_iconst (v := (0 : Int32)) rfl zic_0 ?_
      refine g_iload_n rfl rfl ?_
      refine g_callVI (M' := m_M_votesAs) (d' := d) (as := [.int (0 : Int32), .int b]) (rest := []) (ci := 11) (o := 39) rfl ml_M_290 v_M_votesAs (by omega) rfl (by decide) rfl rfl rfl (Nat.le_of_ble_eq_true rfl) (fun x_ e_ => h0 (0 : Int32) b q2672 x_ e_) (fun q2675r q2675u e2676 b2677 => ?_)
      refine g_iconst (v := (3 : Int32)) rfl zic_3 ?_
      refine g_iadd rfl ?_
      exact g_iret rfl (Or.inl rfl) rfl
    · refine g_iload_n rfl rfl ?_
      refine g_bipush (v := (7 : Int32)) rfl zib_7 ?_
      refine g_icmpne rfl (fun c2678 => ?_) (fun c2678 => ?_)
      · refine g_iload_n rfl rfl ?_
        refine g_bipush (v := (6 : Int32)) rfl zib_6 ?_
        refine g_icmpne rfl (fun c2679 => ?_) (fun c2679 => ?_)
        · refine g_aload_n rfl rfl ?_
          refine g_iconst (v := (1 : Int32)) rfl zic_1 ?_
          refine g_callVV (M' := m_M_begins) (d' := 1) (as := [.int (1 : Int32)]) (rest := []) (ci := 11) (o := 39) rfl ml_M_286 v_M_begins (by omega) rfl (by decide) rfl rfl rfl (Nat.le_of_ble_eq_true rfl) (fun x_ e_ => s_M_begins G (1 : Int32) u x_ e_) (fun q2680 e2681 b2682 => ?_)
          refine g_iload_n rfl rfl ?_
          refine g_aload_n rfl rfl ?_
          refine g_getI rfl zf_M_293 rfl rfl rfl ?_
          refine g_iadd rfl ?_
          exact g_iret rfl (Or.inl rfl) rfl
        · refine g_aload_n rfl rfl ?_
          refine g_bipush (v := (70 : Int32)) rfl zib_70 ?_
          refine g_callVV (M' := m_M_begins) (d' := 1) (as := [.int (70 : Int32)]) (rest := []) (ci := 11) (o := 39) rfl ml_M_286 v_M_begins (by omega) rfl (by decide) rfl rfl rfl (Nat.le_of_ble_eq_true rfl) (fun x_ e_ => s_M_begins G (70 : Int32) u x_ e_) (fun q2683 e2684 b2685 => ?_)
          refine g_aload_n rfl rfl ?_
          refine g_iconst (v := (0 : Int32)) rfl zic_0 ?_
          refine g_iload_n rfl rfl ?_
          refine g_callVI (M' := m_M_votesAs) (d' := d) (as := [.int (0 : Int32), .int b]) (rest := []) (ci := 11) (o := 39) rfl ml_M_290 v_M_votesAs (by omega) rfl (by decide) rfl rfl rfl (Nat.le_of_ble_eq_true rfl) (fun x_ e_ => h0 (0 : Int32) b q2683 x_ e_) (fun q2686r q2686u e2687 b2688 => ?_)
          refine g_iconst (v := (2 : Int32)) rfl zic_2 ?_
          refine g_imul rfl ?_
          exact g_iret rfl (Or.inl rfl) rfl
      · refine g_aload_n rfl rfl ?_
        refine g_bipush (v := (20 : Int32)) rfl zib_20 ?_
        refine g_callVV (M' := m_M_begins) (d' := 1) (as := [.int (20 : Int32)]) (rest := []) (ci := 11) (o := 39) rfl ml_M_286 v_M_begins (by omega) rfl (by decide) rfl rfl rfl (Nat.le_of_ble_eq_true rfl) (fun x_ e_ => s_M_begins G (20 : Int32) u x_ e_) (fun q2689 e2690 b2691 => ?_)
        refine g_aload_n rfl rfl ?_
        refine g_iconst (v := (0 : Int32)) rfl zic_0 ?_
        refine g_iload_n rfl rfl ?_
        refine g_callVI (M' := m_M_votesAs) (d' := d) (as := [.int (0 : Int32), .int b]) (rest := []) (ci := 11) (o := 39) rfl ml_M_290 v_M_votesAs (by omega) rfl (by decide) rfl rfl rfl (Nat.le_of_ble_eq_true rfl) (fun x_ e_ => h0 (0 : Int32) b q2689 x_ e_) (fun q2692r q2692u e2693 b2694 => ?_)
        refine g_iconst (v := (3 : Int32)) rfl zic_3 ?_
        refine g_iadd rfl ?_
        exact g_iret rfl (Or.inl rfl) rfl
set_option maxRecDepth 100000 in
set_option maxHeartbeats 4000000 in
theorem ts_M_votesAs (G : ZG) (rc : Nat → Int32 → Int32 → ZSt → Option (Int32 × ZSt)) (d : Nat) (hd : 2 ≤ d) (h0 : ∀ (a : Int32) (b : Int32) (u : ZSt) x, rc 0 a b u = some x → ZSpec G m_M_votesAs d [.ref 39, .int a, .int b] u (zemI x)) (a : Int32) (b : Int32) (u : ZSt) (x : Int32 × ZSt) (hx : t_M_votesAs rc a b u = some x) : ZSpec G m_M_votesAs (d + 1) [.ref 39, .int a, .int b] u (zemI x) :=
  ZSpec.go k_M_votesAs (Nat.le_of_ble_eq_true rfl) (w_M_votesAs G rc d hd h0 a b u) (tgt := zemI x) (by rw [hx]; rfl)
set_option maxRecDepth 100000 in
set_option maxHeartbeats 4000000 in
theorem sr_M_votesAs (G : ZG) : ∀ n, (∀ (a : Int32) (b : Int32) (u : ZSt) x, r_M_votesAs n 0 a b u = some x → ZSpec G m_M_votesAs (n + 2) [.ref 39, .int a, .int b] u (zemI x))
  | 0 => fun _ _ _ _ h => by cases h
  | n + 1 => by
    have g0 := sr_M_votesAs G n
    have e : n + 1 + 2 = (n + 2) + 1 := by omega
    rw [e]
    exact (fun a b u x h => ts_M_votesAs G (r_M_votesAs n) (n + 2) (by omega) g0 a b u x h)
theorem s_M_votesAs (G : ZG) (a : Int32) (b : Int32) (u : ZSt) (x : Int32 × ZSt) (hx : f_M_votesAs a b u = some x) : ZSpec G m_M_votesAs 102 [.ref 39, .int a, .int b] u (zemI x) := (sr_M_votesAs G 100) a b u x hx
set_option maxRecDepth 100000 in
set_option maxHeartbeats 4000000 in
theorem w_M_givesAs (G : ZG) (rc : Nat → Int32 → Int32 → ZSt → Option (Int32 × ZSt)) (d : Nat) (hd : 103 ≤ d) (h0 : ∀ (a : Int32) (b : Int32) (u : ZSt) x, rc 0 a b u = some x → ZSpec G m_M_givesAs d [.ref 39, .int a, .int b] u (zemI x)) (a : Int32) (b : Int32) (u : ZSt) : ZGo G m_M_givesAs (d + 1) (t_M_givesAs rc a b u) zkI 0 [(0, .ref 39), (1, .int a), (2, .int b)] [] u := by
  unfold t_M_givesAs
  refine g_iload_n rfl rfl ?_
  refine g_iconst (v := (3 : Int32)) rfl zic_3 ?_
  refine g_icmpeq rfl (fun c2695 => ?_) (fun c2695 => ?_)
  · refine g_aload_n rfl rfl ?_
    refine g_bipush (v := (40 : Int32)) rfl zib_40 ?_
    refine g_callVV (M' := m_M_begins) (d' := 1) (as := [.int (40 : Int32)]) (rest := []) (ci := 11) (o := 39) rfl ml_M_286 v_M_begins (by omega) rfl (by decide) rfl rfl rfl (Nat.le_of_ble_eq_true rfl) (fun x_ e_ => s_M_begins G (40 : Int32) u x_ e_) (fun q2696 e2697 b2698 => ?_)
    refine g_aload_n rfl rfl ?_
    refine g_iconst (v := (2 : Int32)) rfl zic_2 ?_
    refine g_iload_n rfl rfl ?_
    refine g_callVI (M' := m_M_givesAs) (d' := d) (as := [.int (2 : Int32), .int b]) (rest := []) (ci := 11) (o := 39) rfl ml_M_302 v_M_givesAs (by omega) rfl (by decide) rfl rfl rfl (Nat.le_of_ble_eq_true rfl) (fun x_ e_ => h0 (2 : Int32) b q2696 x_ e_) (fun q2699r q2699u e2700 b2701 => ?_)
    refine g_iconst (v := (3 : Int32)) rfl zic_3 ?_
    refine g_imul rfl ?_
    exact g_iret rfl (Or.inl rfl) rfl
  · refine g_iload_n rfl rfl ?_
    refine g_iconst (v := (5 : Int32)) rfl zic_5 ?_
    refine g_icmpne rfl (fun c2702 => ?_) (fun c2702 => ?_)
    · refine g_iload_n rfl rfl ?_
      refine g_iconst (v := (4 : Int32)) rfl zic_4 ?_
      refine g_icmpeq rfl (fun c2703 => ?_) (fun c2703 => ?_)
      · refine g_aload_n rfl rfl ?_
        refine g_bipush (v := (50 : Int32)) rfl zib_50 ?_
        refine g_callVV (M' := m_M_begins) (d' := 1) (as := [.int (50 : Int32)]) (rest := []) (ci := 11) (o := 39) rfl ml_M_286 v_M_begins (by omega) rfl (by decide) rfl rfl rfl (Nat.le_of_ble_eq_true rfl) (fun x_ e_ => s_M_begins G (50 : Int32) u x_ e_) (fun q2704 e2705 b2706 => ?_)
        refine g_aload_n rfl rfl ?_
        refine g_iconst (v := (1 : Int32)) rfl zic_1 ?_
        refine g_iload_n rfl rfl ?_
        refine g_callVI (M' := m_M_givesAs) (d' := d) (as := [.int (1 : Int32), .int b]) (rest := []) (ci := 11) (o := 39) rfl ml_M_302 v_M_givesAs (by omega) rfl (by decide) rfl rfl rfl (Nat.le_of_ble_eq_true rfl) (fun x_ e_ => h0 (1 : Int32) b q2704 x_ e_) (fun q2707r q2707u e2708 b2709 => ?_)
        refine g_istore_n (lv' := [(0, .ref 39), (1, .int a), (2, .int b), (3, .int q2707r)]) rfl (Nat.le_of_ble_eq_true rfl) rfl rfl ?_
        refine g_iload_n rfl rfl ?_
        refine g_aload_n rfl rfl ?_
        refine g_aload_n rfl rfl ?_
        refine g_getI rfl zf_M_299 rfl rfl rfl ?_
        refine g_iconst (v := (2 : Int32)) rfl zic_2 ?_
        refine g_callVI (M' := m_M_votesAs) (d' := 102) (as := [.int (q2707u.1 3936), .int (2 : Int32)]) (rest := [.int q2707r]) (ci := 11) (o := 39) rfl ml_M_290 v_M_votesAs (by omega) rfl (by decide) rfl rfl rfl (Nat.le_of_ble_eq_true rfl) (fun x_ e_ => s_M_votesAs G (q2707u.1 3936) (2 : Int32) q2707u x_ e_) (fun q2710r q2710u e2711 b2712 => ?_)
        refine g_isub rfl ?_
        exact g_iret rfl (Or.inl rfl) rfl
      · refine g_iload_n rfl rfl ?_
        refine g_bipush (v := (7 : Int32)) rfl zib_7 ?_
        refine g_icmpne rfl (fun c2713 => ?_) (fun c2713 => ?_)
        · refine g_aload_n rfl rfl ?_
          refine g_bipush (v := (11 : Int32)) rfl zib_11 ?_
          refine g_callVV (M' := m_M_begins) (d' := 1) (as := [.int (11 : Int32)]) (rest := []) (ci := 11) (o := 39) rfl ml_M_286 v_M_begins (by omega) rfl (by decide) rfl rfl rfl (Nat.le_of_ble_eq_true rfl) (fun x_ e_ => s_M_begins G (11 : Int32) u x_ e_) (fun q2714 e2715 b2716 => ?_)
          refine g_iload_n rfl rfl ?_
          refine g_aload_n rfl rfl ?_
          refine g_getI rfl zf_M_293 rfl rfl rfl ?_
          refine g_ixor rfl ?_
          exact g_iret rfl (Or.inl rfl) rfl
        · refine g_aload_n rfl rfl ?_
          refine g_bipush (v := (50 : Int32)) rfl zib_50 ?_
          refine g_callVV (M' := m_M_begins) (d' := 1) (as := [.int (50 : Int32)]) (rest := []) (ci := 11) (o := 39) rfl ml_M_286 v_M_begins (by omega) rfl (by decide) rfl rfl rfl (Nat.le_of_ble_eq_true rfl) (fun x_ e_ => s_M_begins G (50 : Int32) u x_ e_) (fun q2717 e2718 b2719 => ?_)
          refine g_aload_n rfl rfl ?_
          refine g_iconst (v := (1 : Int32)) rfl zic_1 ?_
          refine g_iload_n rfl rfl ?_
          refine g_callVI (M' := m_M_givesAs) (d' := d) (as := [.int (1 : Int32), .int b]) (rest := []) (ci := 11) (o := 39) rfl ml_M_302 v_M_givesAs (by omega) rfl (by decide) rfl rfl rfl (Nat.le_of_ble_eq_true rfl) (fun x_ e_ => h0 (1 : Int32) b q2717 x_ e_) (fun q2720r q2720u e2721 b2722 => ?_)
          refine g_istore_n (lv' := [(0, .ref 39), (1, .int a), (2, .int b), (3, .int q2720r)]) rfl (Nat.le_of_ble_eq_true rfl) rfl rfl ?_
          refine g_iload_n rfl rfl ?_
          refine g_aload_n rfl rfl ?_
          refine g_aload_n rfl rfl ?_
          refine g_getI rfl zf_M_299 rfl rfl rfl ?_
          refine g_iconst (v := (2 : Int32)) rfl zic_2 ?_
          refine g_callVI (M' := m_M_votesAs) (d' := 102) (as := [.int (q2720u.1 3936), .int (2 : Int32)]) (rest := [.int q2720r]) (ci := 11) (o := 39) rfl ml_M_290 v_M_votesAs (by omega) rfl (by decide) rfl rfl rfl (Nat.le_of_ble_eq_true rfl) (fun x_ e_ => s_M_votesAs G (q2720u.1 3936) (2 : Int32) q2720u x_ e_) (fun q2723r q2723u e2724 b2725 => ?_)
          refine g_isub rfl ?_
          exact g_iret rfl (Or.inl rfl) rfl
    · refine g_aload_n rfl rfl ?_
      refine g_bipush (v := (40 : Int32)) rfl zib_40 ?_
      refine g_callVV (M' := m_M_begins) (d' := 1) (as := [.int (40 : Int32)]) (rest := []) (ci := 11) (o := 39) rfl ml_M_286 v_M_begins (by omega) rfl (by decide) rfl rfl rfl (Nat.le_of_ble_eq_true rfl) (fun x_ e_ => s_M_begins G (40 : Int32) u x_ e_) (fun q2726 e2727 b2728 => ?_)
      refine g_aload_n rfl rfl ?_
      refine g_iconst (v := (2 : Int32)) rfl zic_2 ?_
      refine g_iload_n rfl rfl ?_
      refine g_callVI (M' := m_M_givesAs) (d' := d) (as := [.int (2 : Int32), .int b]) (rest := []) (ci := 11) (o := 39) rfl ml_M_302 v_M_givesAs (by omega) rfl (by decide) rfl rfl rfl (Nat.le_of_ble_eq_true rfl) (fun x_ e_ => h0 (2 : Int32) b q2726 x_ e_) (fun q2729r q2729u e2730 b2731 => ?_)
      refine g_iconst (v := (3 : Int32)) rfl zic_3 ?_
      refine g_imul rfl ?_
      exact g_iret rfl (Or.inl rfl) rfl
set_option maxRecDepth 100000 in
set_option maxHeartbeats 4000000 in
theorem ts_M_givesAs (G : ZG) (rc : Nat → Int32 → Int32 → ZSt → Option (Int32 × ZSt)) (d : Nat) (hd : 103 ≤ d) (h0 : ∀ (a : Int32) (b : Int32) (u : ZSt) x, rc 0 a b u = some x → ZSpec G m_M_givesAs d [.ref 39, .int a, .int b] u (zemI x)) (a : Int32) (b : Int32) (u : ZSt) (x : Int32 × ZSt) (hx : t_M_givesAs rc a b u = some x) : ZSpec G m_M_givesAs (d + 1) [.ref 39, .int a, .int b] u (zemI x) :=
  ZSpec.go k_M_givesAs (Nat.le_of_ble_eq_true rfl) (w_M_givesAs G rc d hd h0 a b u) (tgt := zemI x) (by rw [hx]; rfl)
set_option maxRecDepth 100000 in
set_option maxHeartbeats 4000000 in
theorem sr_M_givesAs (G : ZG) : ∀ n, (∀ (a : Int32) (b : Int32) (u : ZSt) x, r_M_givesAs n 0 a b u = some x → ZSpec G m_M_givesAs (n + 103) [.ref 39, .int a, .int b] u (zemI x))
  | 0 => fun _ _ _ _ h => by cases h
  | n + 1 => by
    have g0 := sr_M_givesAs G n
    have e : n + 1 + 103 = (n + 103) + 1 := by omega
    rw [e]
    exact (fun a b u x h => ts_M_givesAs G (r_M_givesAs n) (n + 103) (by omega) g0 a b u x h)
theorem s_M_givesAs (G : ZG) (a : Int32) (b : Int32) (u : ZSt) (x : Int32 × ZSt) (hx : f_M_givesAs a b u = some x) : ZSpec G m_M_givesAs 203 [.ref 39, .int a, .int b] u (zemI x) := (sr_M_givesAs G 100) a b u x hx
set_option maxRecDepth 100000 in
set_option maxHeartbeats 4000000 in
theorem w_M_ownsAs (G : ZG) (rc : Nat → Int32 → Int32 → ZSt → Option (Int32 × ZSt)) (d : Nat) (hd : 204 ≤ d) (h0 : ∀ (a : Int32) (b : Int32) (u : ZSt) x, rc 0 a b u = some x → ZSpec G m_M_ownsAs d [.ref 39, .int a, .int b] u (zemI x)) (a : Int32) (b : Int32) (u : ZSt) : ZGo G m_M_ownsAs (d + 1) (t_M_ownsAs rc a b u) zkI 0 [(0, .ref 39), (1, .int a), (2, .int b)] [] u := by
  unfold t_M_ownsAs
  refine g_iload_n rfl rfl ?_
  refine g_iconst (v := (3 : Int32)) rfl zic_3 ?_
  refine g_icmpeq rfl (fun c2732 => ?_) (fun c2732 => ?_)
  · refine g_aload_n rfl rfl ?_
    refine g_bipush (v := (41 : Int32)) rfl zib_41 ?_
    refine g_callVV (M' := m_M_begins) (d' := 1) (as := [.int (41 : Int32)]) (rest := []) (ci := 11) (o := 39) rfl ml_M_286 v_M_begins (by omega) rfl (by decide) rfl rfl rfl (Nat.le_of_ble_eq_true rfl) (fun x_ e_ => s_M_begins G (41 : Int32) u x_ e_) (fun q2733 e2734 b2735 => ?_)
    refine g_aload_n rfl rfl ?_
    refine g_iconst (v := (2 : Int32)) rfl zic_2 ?_
    refine g_iload_n rfl rfl ?_
    refine g_iconst (v := (1 : Int32)) rfl zic_1 ?_
    refine g_iadd rfl ?_
    refine g_callVI (M' := m_M_ownsAs) (d' := d) (as := [.int (2 : Int32), .int (b + (1 : Int32))]) (rest := []) (ci := 11) (o := 39) rfl ml_M_296 v_M_ownsAs (by omega) rfl (by decide) rfl rfl rfl (Nat.le_of_ble_eq_true rfl) (fun x_ e_ => h0 (2 : Int32) (b + (1 : Int32)) q2733 x_ e_) (fun q2736r q2736u e2737 b2738 => ?_)
    exact g_iret rfl (Or.inl rfl) rfl
  · refine g_iload_n rfl rfl ?_
    refine g_iconst (v := (5 : Int32)) rfl zic_5 ?_
    refine g_icmpne rfl (fun c2739 => ?_) (fun c2739 => ?_)
    · refine g_iload_n rfl rfl ?_
      refine g_iconst (v := (2 : Int32)) rfl zic_2 ?_
      refine g_icmpne rfl (fun c2740 => ?_) (fun c2740 => ?_)
      · refine g_iload_n rfl rfl ?_
        refine g_bipush (v := (7 : Int32)) rfl zib_7 ?_
        refine g_icmpne rfl (fun c2741 => ?_) (fun c2741 => ?_)
        · refine g_aload_n rfl rfl ?_
          refine g_bipush (v := (10 : Int32)) rfl zib_10 ?_
          refine g_callVV (M' := m_M_begins) (d' := 1) (as := [.int (10 : Int32)]) (rest := []) (ci := 11) (o := 39) rfl ml_M_286 v_M_begins (by omega) rfl (by decide) rfl rfl rfl (Nat.le_of_ble_eq_true rfl) (fun x_ e_ => s_M_begins G (10 : Int32) u x_ e_) (fun q2742 e2743 b2744 => ?_)
          refine g_aload_n rfl rfl ?_
          refine g_aload_n rfl rfl ?_
          refine g_getI rfl zf_M_299 rfl rfl rfl ?_
          refine g_iload_n rfl rfl ?_
          refine g_callVI (M' := m_M_votesAs) (d' := 102) (as := [.int (q2742.1 3936), .int b]) (rest := []) (ci := 11) (o := 39) rfl ml_M_290 v_M_votesAs (by omega) rfl (by decide) rfl rfl rfl (Nat.le_of_ble_eq_true rfl) (fun x_ e_ => s_M_votesAs G (q2742.1 3936) b q2742 x_ e_) (fun q2745r q2745u e2746 b2747 => ?_)
          refine g_iconst (v := (2 : Int32)) rfl zic_2 ?_
          refine g_imul rfl ?_
          exact g_iret rfl (Or.inl rfl) rfl
        · refine g_aload_n rfl rfl ?_
          refine g_bipush (v := (80 : Int32)) rfl zib_80 ?_
          refine g_callVV (M' := m_M_begins) (d' := 1) (as := [.int (80 : Int32)]) (rest := []) (ci := 11) (o := 39) rfl ml_M_286 v_M_begins (by omega) rfl (by decide) rfl rfl rfl (Nat.le_of_ble_eq_true rfl) (fun x_ e_ => s_M_begins G (80 : Int32) u x_ e_) (fun q2748 e2749 b2750 => ?_)
          refine g_aload_n rfl rfl ?_
          refine g_iconst (v := (4 : Int32)) rfl zic_4 ?_
          refine g_iload_n rfl rfl ?_
          refine g_callVI (M' := m_M_ownsAs) (d' := d) (as := [.int (4 : Int32), .int b]) (rest := []) (ci := 11) (o := 39) rfl ml_M_296 v_M_ownsAs (by omega) rfl (by decide) rfl rfl rfl (Nat.le_of_ble_eq_true rfl) (fun x_ e_ => h0 (4 : Int32) b q2748 x_ e_) (fun q2751r q2751u e2752 b2753 => ?_)
          refine g_istore_n (lv' := [(0, .ref 39), (1, .int a), (2, .int b), (3, .int q2751r)]) rfl (Nat.le_of_ble_eq_true rfl) rfl rfl ?_
          refine g_iload_n rfl rfl ?_
          refine g_aload_n rfl rfl ?_
          refine g_aload_n rfl rfl ?_
          refine g_getI rfl zf_M_299 rfl rfl rfl ?_
          refine g_iconst (v := (2 : Int32)) rfl zic_2 ?_
          refine g_callVI (M' := m_M_givesAs) (d' := 203) (as := [.int (q2751u.1 3936), .int (2 : Int32)]) (rest := [.int q2751r]) (ci := 11) (o := 39) rfl ml_M_302 v_M_givesAs (by omega) rfl (by decide) rfl rfl rfl (Nat.le_of_ble_eq_true rfl) (fun x_ e_ => s_M_givesAs G (q2751u.1 3936) (2 : Int32) q2751u x_ e_) (fun q2754r q2754u e2755 b2756 => ?_)
          refine g_iadd rfl ?_
          exact g_iret rfl (Or.inl rfl) rfl
      · refine g_aload_n rfl rfl ?_
        refine g_bipush (v := (30 : Int32)) rfl zib_30 ?_
        refine g_callVV (M' := m_M_begins) (d' := 1) (as := [.int (30 : Int32)]) (rest := []) (ci := 11) (o := 39) rfl ml_M_286 v_M_begins (by omega) rfl (by decide) rfl rfl rfl (Nat.le_of_ble_eq_true rfl) (fun x_ e_ => s_M_begins G (30 : Int32) u x_ e_) (fun q2757 e2758 b2759 => ?_)
        refine g_aload_n rfl rfl ?_
        refine g_iconst (v := (0 : Int32)) rfl zic_0 ?_
        refine g_iload_n rfl rfl ?_
        refine g_callVI (M' := m_M_ownsAs) (d' := d) (as := [.int (0 : Int32), .int b]) (rest := []) (ci := 11) (o := 39) rfl ml_M_296 v_M_ownsAs (by omega) rfl (by decide) rfl rfl rfl (Nat.le_of_ble_eq_true rfl) (fun x_ e_ => h0 (0 : Int32) b q2757 x_ e_) (fun q2760r q2760u e2761 b2762 => ?_)
        refine g_ineg rfl ?_
        exact g_iret rfl (Or.inl rfl) rfl
    · refine g_aload_n rfl rfl ?_
      refine g_bipush (v := (41 : Int32)) rfl zib_41 ?_
      refine g_callVV (M' := m_M_begins) (d' := 1) (as := [.int (41 : Int32)]) (rest := []) (ci := 11) (o := 39) rfl ml_M_286 v_M_begins (by omega) rfl (by decide) rfl rfl rfl (Nat.le_of_ble_eq_true rfl) (fun x_ e_ => s_M_begins G (41 : Int32) u x_ e_) (fun q2763 e2764 b2765 => ?_)
      refine g_aload_n rfl rfl ?_
      refine g_iconst (v := (2 : Int32)) rfl zic_2 ?_
      refine g_iload_n rfl rfl ?_
      refine g_iconst (v := (1 : Int32)) rfl zic_1 ?_
      refine g_iadd rfl ?_
      refine g_callVI (M' := m_M_ownsAs) (d' := d) (as := [.int (2 : Int32), .int (b + (1 : Int32))]) (rest := []) (ci := 11) (o := 39) rfl ml_M_296 v_M_ownsAs (by omega) rfl (by decide) rfl rfl rfl (Nat.le_of_ble_eq_true rfl) (fun x_ e_ => h0 (2 : Int32) (b + (1 : Int32)) q2763 x_ e_) (fun q2766r q2766u e2767 b2768 => ?_)
      exact g_iret rfl (Or.inl rfl) rfl
set_option maxRecDepth 100000 in
set_option maxHeartbeats 4000000 in
theorem ts_M_ownsAs (G : ZG) (rc : Nat → Int32 → Int32 → ZSt → Option (Int32 × ZSt)) (d : Nat) (hd : 204 ≤ d) (h0 : ∀ (a : Int32) (b : Int32) (u : ZSt) x, rc 0 a b u = some x → ZSpec G m_M_ownsAs d [.ref 39, .int a, .int b] u (zemI x)) (a : Int32) (b : Int32) (u : ZSt) (x : Int32 × ZSt) (hx : t_M_ownsAs rc a b u = some x) : ZSpec G m_M_ownsAs (d + 1) [.ref 39, .int a, .int b] u (zemI x) :=
  ZSpec.go k_M_ownsAs (Nat.le_of_ble_eq_true rfl) (w_M_ownsAs G rc d hd h0 a b u) (tgt := zemI x) (by rw [hx]; rfl)
set_option maxRecDepth 100000 in
set_option maxHeartbeats 4000000 in
theorem sr_M_ownsAs (G : ZG) : ∀ n, (∀ (a : Int32) (b : Int32) (u : ZSt) x, r_M_ownsAs n 0 a b u = some x → ZSpec G m_M_ownsAs (n + 204) [.ref 39, .int a, .int b] u (zemI x))
  | 0 => fun _ _ _ _ h => by cases h
  | n + 1 => by
    have g0 := sr_M_ownsAs G n
    have e : n + 1 + 204 = (n + 204) + 1 := by omega
    rw [e]
    exact (fun a b u x h => ts_M_ownsAs G (r_M_ownsAs n) (n + 204) (by omega) g0 a b u x h)
theorem s_M_ownsAs (G : ZG) (a : Int32) (b : Int32) (u : ZSt) (x : Int32 × ZSt) (hx : f_M_ownsAs a b u = some x) : ZSpec G m_M_ownsAs 304 [.ref 39, .int a, .int b] u (zemI x) := (sr_M_ownsAs G 100) a b u x hx
set_option maxRecDepth 100000 in
set_option maxHeartbeats 4000000 in
theorem w_M_tellsAs (G : ZG) (rc : Nat → Int32 → Int32 → ZSt → Option (Int32 × ZSt)) (d : Nat) (hd : 305 ≤ d) (h0 : ∀ (a : Int32) (b : Int32) (u : ZSt) x, rc 0 a b u = some x → ZSpec G m_M_tellsAs d [.ref 39, .int a, .int b] u (zemI x)) (a : Int32) (b : Int32) (u : ZSt) : ZGo G m_M_tellsAs (d + 1) (t_M_tellsAs rc a b u) zkI 0 [(0, .ref 39), (1, .int a), (2, .int b)] [] u := by
  unfold t_M_tellsAs
  refine g_iload_n rfl rfl ?_
  refine g_iconst (v := (5 : Int32)) rfl zic_5 ?_
  refine g_icmpne rfl (fun c2769 => ?_) (fun c2769 => ?_)
  · refine g_iload_n rfl rfl ?_
    refine g_bipush (v := (7 : Int32)) rfl zib_7 ?_
    refine g_icmpne rfl (fun c2770 => ?_) (fun c2770 => ?_)
    · refine g_aload_n rfl rfl ?_
      refine g_iconst (v := (2 : Int32)) rfl zic_2 ?_
      refine g_callVV (M' := m_M_begins) (d' := 1) (as := [.int (2 : Int32)]) (rest := []) (ci := 11) (o := 39) rfl ml_M_286 v_M_begins (by omega) rfl (by decide) rfl rfl rfl (Nat.le_of_ble_eq_true rfl) (fun x_ e_ => s_M_begins G (2 : Int32) u x_ e_) (fun q2771 e2772 b2773 => ?_)
      refine g_aload_n rfl rfl ?_
      refine g_aload_n rfl rfl ?_
      refine g_getI rfl zf_M_299 rfl rfl rfl ?_
      refine g_iload_n rfl rfl ?_
      refine g_callVI (M' := m_M_ownsAs) (d' := 304) (as := [.int (q2771.1 3936), .int b]) (rest := []) (ci := 11) (o := 39) rfl ml_M_296 v_M_ownsAs (by omega) rfl (by decide) rfl rfl rfl (Nat.le_of_ble_eq_true rfl) (fun x_ e_ => s_M_ownsAs G (q2771.1 3936) b q2771 x_ e_) (fun q2774r q2774u e2775 b2776 => ?_)
      refine g_istore_n (lv' := [(0, .ref 39), (1, .int a), (2, .int b), (3, .int q2774r)]) rfl (Nat.le_of_ble_eq_true rfl) rfl rfl ?_
      refine g_iload_n rfl rfl ?_
      refine g_aload_n rfl rfl ?_
      refine g_aload_n rfl rfl ?_
      refine g_getI rfl zf_M_299 rfl rfl rfl ?_
      refine g_iconst (v := (1 : Int32)) rfl zic_1 ?_
      refine g_callVI (M' := m_M_givesAs) (d' := 203) (as := [.int (q2774u.1 3936), .int (1 : Int32)]) (rest := [.int q2774r]) (ci := 11) (o := 39) rfl ml_M_302 v_M_givesAs (by omega) rfl (by decide) rfl rfl rfl (Nat.le_of_ble_eq_true rfl) (fun x_ e_ => s_M_givesAs G (q2774u.1 3936) (1 : Int32) q2774u x_ e_) (fun q2777r q2777u e2778 b2779 => ?_)
      refine g_isub rfl ?_
      exact g_iret rfl (Or.inl rfl) rfl
    · refine g_aload_n rfl rfl ?_
      refine g_bipush (v := (81 : Int32)) rfl zib_81 ?_
      refine g_callVV (M' := m_M_begins) (d' := 1) (as := [.int (81 : Int32)]) (rest := []) (ci := 11) (o := 39) rfl ml_M_286 v_M_begins (by omega) rfl (by decide) rfl rfl rfl (Nat.le_of_ble_eq_true rfl) (fun x_ e_ => s_M_begins G (81 : Int32) u x_ e_) (fun q2780 e2781 b2782 => ?_)
      refine g_aload_n rfl rfl ?_
      refine g_iconst (v := (4 : Int32)) rfl zic_4 ?_
      refine g_iload_n rfl rfl ?_
      refine g_callVI (M' := m_M_tellsAs) (d' := d) (as := [.int (4 : Int32), .int b]) (rest := []) (ci := 11) (o := 39) rfl ml_M_305 v_M_tellsAs (by omega) rfl (by decide) rfl rfl rfl (Nat.le_of_ble_eq_true rfl) (fun x_ e_ => h0 (4 : Int32) b q2780 x_ e_) (fun q2783r q2783u e2784 b2785 => ?_)
      refine g_iconst (v := (1 : Int32)) rfl zic_1 ?_
      refine g_isub rfl ?_
      exact g_iret rfl (Or.inl rfl) rfl
  · refine g_aload_n rfl rfl ?_
    refine g_bipush (v := (60 : Int32)) rfl zib_60 ?_
    refine g_callVV (M' := m_M_begins) (d' := 1) (as := [.int (60 : Int32)]) (rest := []) (ci := 11) (o := 39) rfl ml_M_286 v_M_begins (by omega) rfl (by decide) rfl rfl rfl (Nat.le_of_ble_eq_true rfl) (fun x_ e_ => s_M_begins G (60 : Int32) u x_ e_) (fun q2786 e2787 b2788 => ?_)
    refine g_aload_n rfl rfl ?_
    refine g_iconst (v := (3 : Int32)) rfl zic_3 ?_
    refine g_iload_n rfl rfl ?_
    refine g_callVI (M' := m_M_tellsAs) (d' := d) (as := [.int (3 : Int32), .int b]) (rest := []) (ci := 11) (o := 39) rfl ml_M_305 v_M_tellsAs (by omega) rfl (by decide) rfl rfl rfl (Nat.le_of_ble_eq_true rfl) (fun x_ e_ => h0 (3 : Int32) b q2786 x_ e_) (fun q2789r q2789u e2790 b2791 => ?_)
    refine g_iconst (v := (5 : Int32)) rfl zic_5 ?_
    refine g_ixor rfl ?_
    exact g_iret rfl (Or.inl rfl) rfl
set_option maxRecDepth 100000 in
set_option maxHeartbeats 4000000 in
theorem ts_M_tellsAs (G : ZG) (rc : Nat → Int32 → Int32 → ZSt → Option (Int32 × ZSt)) (d : Nat) (hd : 305 ≤ d) (h0 : ∀ (a : Int32) (b : Int32) (u : ZSt) x, rc 0 a b u = some x → ZSpec G m_M_tellsAs d [.ref 39, .int a, .int b] u (zemI x)) (a : Int32) (b : Int32) (u : ZSt) (x : Int32 × ZSt) (hx : t_M_tellsAs rc a b u = some x) : ZSpec G m_M_tellsAs (d + 1) [.ref 39, .int a, .int b] u (zemI x) :=
  ZSpec.go k_M_tellsAs (Nat.le_of_ble_eq_true rfl) (w_M_tellsAs G rc d hd h0 a b u) (tgt := zemI x) (by rw [hx]; rfl)
set_option maxRecDepth 100000 in
set_option maxHeartbeats 4000000 in
theorem sr_M_tellsAs (G : ZG) : ∀ n, (∀ (a : Int32) (b : Int32) (u : ZSt) x, r_M_tellsAs n 0 a b u = some x → ZSpec G m_M_tellsAs (n + 305) [.ref 39, .int a, .int b] u (zemI x))
  | 0 => fun _ _ _ _ h => by cases h
  | n + 1 => by
    have g0 := sr_M_tellsAs G n
    have e : n + 1 + 305 = (n + 305) + 1 := by omega
    rw [e]
    exact (fun a b u x h => ts_M_tellsAs G (r_M_tellsAs n) (n + 305) (by omega) g0 a b u x h)
theorem s_M_tellsAs (G : ZG) (a : Int32) (b : Int32) (u : ZSt) (x : Int32 × ZSt) (hx : f_M_tellsAs a b u = some x) : ZSpec G m_M_tellsAs 405 [.ref 39, .int a, .int b] u (zemI x) := (sr_M_tellsAs G 100) a b u x hx
set_option maxRecDepth 100000 in
set_option maxHeartbeats 4000000 in
theorem w_M_act (G : ZG) (a : Int32) (b : Int32) (c : Int32) (u : ZSt) : ZGo G m_M_act 406 (f_M_act a b c u) zkI 0 [(0, .ref 39), (1, .int a), (2, .int b), (3, .int c)] [] u := by
  unfold f_M_act
  refine g_aload_n rfl rfl ?_
  refine g_iconst (v := (0 : Int32)) rfl zic_0 ?_
  refine g_put (j := 3935) rfl zf_M_283 rfl rfl zp_11_35.1 (Or.inl zp_11_35.2) rfl ?_
  refine g_aload_n rfl rfl ?_
  refine g_iload_n rfl rfl ?_
  refine g_callVP (M' := m_M_isBody) (d' := 2) (as := [.int a]) (rest := []) (ci := 11) (o := 39) rfl ml_M_308 v_M_isBody (by decide) rfl (by decide) rfl rfl rfl (Nat.le_of_ble_eq_true rfl) (fun x_ e_ => s_M_isBody G a (zs u 3935 (0 : Int32)) x_ e_) (fun q2792 e2793 b2794 => ?_)
  refine g_ifne rfl (fun c2795 => ?_) (fun c2795 => ?_)
  · refine g_aload_n rfl rfl ?_
    refine g_aload_n rfl rfl ?_
    refine g_getR rfl zf_M_59 rfl rfl ?_
    refine g_iload_n rfl rfl ?_
    refine zgo_iald (y := u.2.1 56 a.toNatClampNeg) rfl rfl rfl (fun o2812 => ?_)
    refine g_put (j := 3936) rfl zf_M_299 rfl rfl zp_11_36.1 (Or.inl zp_11_36.2) rfl ?_
    refine g_aload_n rfl rfl ?_
    refine g_iload_n rfl rfl ?_
    refine g_put (j := 3937) rfl zf_M_293 rfl rfl zp_11_37.1 (Or.inl zp_11_37.2) rfl ?_
    refine g_iload_n rfl rfl ?_
    refine zgo_ite (fun c2796 => ?_) (fun c2796 => ?_)
    · refine g_tswIn rfl c2796 (by decide) (by decide) (off := 29) (by decide +kernel) 20 rfl ?_
      refine g_aload_n rfl rfl ?_
      refine g_aload_n rfl rfl ?_
      refine g_getIx (x := (u.2.1 56 a.toNatClampNeg)) rfl zf_M_299 rfl rfl rfl rfl ?_
      refine g_iload_n rfl rfl ?_
      refine g_callVI (M' := m_M_votesAs) (d' := 102) (as := [.int (u.2.1 56 a.toNatClampNeg), .int c]) (rest := []) (ci := 11) (o := 39) rfl ml_M_290 v_M_votesAs (by decide) rfl (by decide) rfl rfl rfl (Nat.le_of_ble_eq_true rfl) (fun x_ e_ => s_M_votesAs G (u.2.1 56 a.toNatClampNeg) c (zs (zs (zs u 3935 (0 : Int32)) 3936 (u.2.1 56 a.toNatClampNeg)) 3937 a) x_ e_) (fun q2797r q2797u e2798 b2799 => ?_)
      exact g_iret rfl (Or.inl rfl) rfl
    · refine zgo_ite (fun c2800 => ?_) (fun c2800 => ?_)
      · refine g_tswIn rfl c2800 (by decide) (by decide) (off := 39) (by decide +kernel) 26 rfl ?_
        refine g_aload_n rfl rfl ?_
        refine g_aload_n rfl rfl ?_
        refine g_getIx (x := (u.2.1 56 a.toNatClampNeg)) rfl zf_M_299 rfl rfl rfl rfl ?_
        refine g_iload_n rfl rfl ?_
        refine g_callVI (M' := m_M_ownsAs) (d' := 304) (as := [.int (u.2.1 56 a.toNatClampNeg), .int c]) (rest := []) (ci := 11) (o := 39) rfl ml_M_296 v_M_ownsAs (by decide) rfl (by decide) rfl rfl rfl (Nat.le_of_ble_eq_true rfl) (fun x_ e_ => s_M_ownsAs G (u.2.1 56 a.toNatClampNeg) c (zs (zs (zs u 3935 (0 : Int32)) 3936 (u.2.1 56 a.toNatClampNeg)) 3937 a) x_ e_) (fun q2801r q2801u e2802 b2803 => ?_)
        exact g_iret rfl (Or.inl rfl) rfl
      · refine zgo_ite (fun c2804 => ?_) (fun c2804 => ?_)
        · refine g_tswIn rfl c2804 (by decide) (by decide) (off := 49) (by decide +kernel) 32 rfl ?_
          refine g_aload_n rfl rfl ?_
          refine g_aload_n rfl rfl ?_
          refine g_getIx (x := (u.2.1 56 a.toNatClampNeg)) rfl zf_M_299 rfl rfl rfl rfl ?_
          refine g_iload_n rfl rfl ?_
          refine g_callVI (M' := m_M_givesAs) (d' := 203) (as := [.int (u.2.1 56 a.toNatClampNeg), .int c]) (rest := []) (ci := 11) (o := 39) rfl ml_M_302 v_M_givesAs (by decide) rfl (by decide) rfl rfl rfl (Nat.le_of_ble_eq_true rfl) (fun x_ e_ => s_M_givesAs G (u.2.1 56 a.toNatClampNeg) c (zs (zs (zs u 3935 (0 : Int32)) 3936 (u.2.1 56 a.toNatClampNeg)) 3937 a) x_ e_) (fun q2805r q2805u e2806 b2807 => ?_)
          exact g_iret rfl (Or.inl rfl) rfl
        · refine zgo_ite (fun c2808 => ?_) (fun c2808 => ?_)
          · refine g_tswIn rfl c2808 (by decide) (by decide) (off := 59) (by decide +kernel) 38 rfl ?_
            refine g_aload_n rfl rfl ?_
            refine g_aload_n rfl rfl ?_
            refine g_getIx (x := (u.2.1 56 a.toNatClampNeg)) rfl zf_M_299 rfl rfl rfl rfl ?_
            refine g_iload_n rfl rfl ?_
            refine g_callVI (M' := m_M_tellsAs) (d' := 405) (as := [.int (u.2.1 56 a.toNatClampNeg), .int c]) (rest := []) (ci := 11) (o := 39) rfl ml_M_305 v_M_tellsAs (by decide) rfl (by decide) rfl rfl rfl (Nat.le_of_ble_eq_true rfl) (fun x_ e_ => s_M_tellsAs G (u.2.1 56 a.toNatClampNeg) c (zs (zs (zs u 3935 (0 : Int32)) 3936 (u.2.1 56 a.toNatClampNeg)) 3937 a) x_ e_) (fun q2809r q2809u e2810 b2811 => ?_)
            exact g_iret rfl (Or.inl rfl) rfl
          · refine g_tswD rfl [0, 1, 2, 3] 4 (by decide) (by decide +kernel) (List.forall_mem_cons.mpr ⟨z_ne c2796 rfl, (List.forall_mem_cons.mpr ⟨z_ne c2800 rfl, (List.forall_mem_cons.mpr ⟨z_ne c2804 rfl, (List.forall_mem_cons.mpr ⟨z_ne c2808 rfl, (fun _ h => absurd h List.not_mem_nil)⟩)⟩)⟩)⟩) 44 rfl ?_
            refine g_iconst (v := (0 : Int32)) rfl zic_0 ?_
            exact g_iret rfl (Or.inl rfl) rfl
  · refine g_iconst (v := (0 : Int32)) rfl zic_0 ?_
    exact g_iret rfl (Or.inl rfl) rfl
theorem s_M_act (G : ZG) (a : Int32) (b : Int32) (c : Int32) (u : ZSt) (x : Int32 × ZSt) (hx : f_M_act a b c u = some x) : ZSpec G m_M_act 406 [.ref 39, .int a, .int b, .int c] u (zemI x) :=
  ZSpec.go k_M_act (Nat.le_of_ble_eq_true rfl) (w_M_act G a b c u) (tgt := zemI x) (by rw [hx]; rfl)
set_option maxRecDepth 100000 in
set_option maxHeartbeats 4000000 in
theorem w_Voters_ranAt (G : ZG) (a : Int32) (u : ZSt) : ZGo G m_Voters_ranAt 1 (f_Voters_ranAt a u) (zkP u) 0 [(0, .ref 36), (1, .int a)] [] u := by
  unfold f_Voters_ranAt
  refine g_iload_n rfl rfl ?_
  refine g_iflt rfl (fun c2813 => ?_) (fun c2813 => ?_)
  · refine g_iconst (v := (-1 : Int32)) rfl zic_m1 ?_
    exact g_iret rfl (Or.inl rfl) rfl
  · refine g_iload_n rfl rfl ?_
    refine g_aload_n rfl rfl ?_
    refine g_getI rfl zf_Voters_33 rfl rfl rfl ?_
    refine g_icmpge rfl (fun c2814 => ?_) (fun c2814 => ?_)
    · refine g_iconst (v := (-1 : Int32)) rfl zic_m1 ?_
      exact g_iret rfl (Or.inl rfl) rfl
    · refine g_iload_n rfl rfl ?_
      refine g_bipush (v := (24 : Int32)) rfl zib_24 ?_
      refine g_icmpge rfl (fun c2815 => ?_) (fun c2815 => ?_)
      · refine g_iconst (v := (-1 : Int32)) rfl zic_m1 ?_
        exact g_iret rfl (Or.inl rfl) rfl
      · refine g_aload_n rfl rfl ?_
        refine g_getR rfl zf_Voters_15 rfl rfl ?_
        refine g_iload_n rfl rfl ?_
        refine g_iald rfl rfl (fun o2816 => ?_)
        refine g_goto rfl ?_
        exact g_iret rfl (Or.inl rfl) rfl
theorem s_Voters_ranAt (G : ZG) (a : Int32) (u : ZSt) (x : Int32) (hx : f_Voters_ranAt a u = some x) : ZSpec G m_Voters_ranAt 1 [.ref 36, .int a] u ((zemP u) x) :=
  ZSpec.go k_Voters_ranAt (Nat.le_of_ble_eq_true rfl) (w_Voters_ranAt G a u) (tgt := (zemP u) x) (by rw [hx]; rfl)
set_option maxRecDepth 100000 in
set_option maxHeartbeats 4000000 in
theorem w_X_trace (G : ZG) (a : Int32) (u : ZSt) : ZGo G m_X_trace 2 (f_X_trace a u) (zkP u) 0 [(0, .ref 0), (1, .int a)] [] u := by
  unfold f_X_trace
  refine g_aload_n rfl rfl ?_
  refine g_getR rfl zf_X_83 rfl rfl ?_
  refine g_iload_n rfl rfl ?_
  refine g_callVP (M' := m_Voters_ranAt) (d' := 1) (as := [.int a]) (rest := []) (ci := 8) (o := 36) rfl ml_X_302 v_Voters_ranAt (by decide) rfl (by decide) rfl rfl rfl (Nat.le_of_ble_eq_true rfl) (fun x_ e_ => s_Voters_ranAt G a u x_ e_) (fun q2817 e2818 b2819 => ?_)
  exact g_iret rfl (Or.inl rfl) rfl
theorem s_X_trace (G : ZG) (a : Int32) (u : ZSt) (x : Int32) (hx : f_X_trace a u = some x) : ZSpec G m_X_trace 2 [.ref 0, .int a] u ((zemP u) x) :=
  ZSpec.go k_X_trace (Nat.le_of_ble_eq_true rfl) (w_X_trace G a u) (tgt := (zemP u) x) (by rw [hx]; rfl)
set_option maxRecDepth 100000 in
set_option maxHeartbeats 4000000 in
theorem w_M_trace (G : ZG) (a : Int32) (u : ZSt) : ZGo G m_M_trace 1 (f_M_trace a u) (zkP u) 0 [(0, .ref 39), (1, .int a)] [] u := by
  unfold f_M_trace
  refine g_iload_n rfl rfl ?_
  refine g_iflt rfl (fun c2820 => ?_) (fun c2820 => ?_)
  · refine g_iconst (v := (-1 : Int32)) rfl zic_m1 ?_
    exact g_iret rfl (Or.inl rfl) rfl
  · refine g_iload_n rfl rfl ?_
    refine g_aload_n rfl rfl ?_
    refine g_getI rfl zf_M_283 rfl rfl rfl ?_
    refine g_icmpge rfl (fun c2821 => ?_) (fun c2821 => ?_)
    · refine g_iconst (v := (-1 : Int32)) rfl zic_m1 ?_
      exact g_iret rfl (Or.inl rfl) rfl
    · refine g_iload_n rfl rfl ?_
      refine g_bipush (v := (24 : Int32)) rfl zib_24 ?_
      refine g_icmpge rfl (fun c2822 => ?_) (fun c2822 => ?_)
      · refine g_iconst (v := (-1 : Int32)) rfl zic_m1 ?_
        exact g_iret rfl (Or.inl rfl) rfl
      · refine g_aload_n rfl rfl ?_
        refine g_getR rfl zf_M_62 rfl rfl ?_
        refine g_iload_n rfl rfl ?_
        refine g_iald rfl rfl (fun o2823 => ?_)
        refine g_goto rfl ?_
        exact g_iret rfl (Or.inl rfl) rfl
theorem s_M_trace (G : ZG) (a : Int32) (u : ZSt) (x : Int32) (hx : f_M_trace a u = some x) : ZSpec G m_M_trace 1 [.ref 39, .int a] u ((zemP u) x) :=
  ZSpec.go k_M_trace (Nat.le_of_ble_eq_true rfl) (w_M_trace G a u) (tgt := (zemP u) x) (by rw [hx]; rfl)
set_option maxRecDepth 100000 in
set_option maxHeartbeats 4000000 in
theorem w_Shelves_holdVoter (G : ZG) (a : Int32) (b : Int32) (u : ZSt) : ZGo G m_Shelves_holdVoter 2 (f_Shelves_holdVoter a b u) zkV 0 [(0, .ref 27), (1, .int a), (2, .int b)] [] u := by
  unfold f_Shelves_holdVoter
  refine g_aload_n rfl rfl ?_
  refine g_iload_n rfl rfl ?_
  refine g_callVP (M' := m_Shelves_isShelf) (d' := 1) (as := [.int a]) (rest := []) (ci := 7) (o := 27) rfl ml_Shelves_25 v_Shelves_isShelf (by decide) rfl (by decide) rfl rfl rfl (Nat.le_of_ble_eq_true rfl) (fun x_ e_ => s_Shelves_isShelf G a u x_ e_) (fun q2824 e2825 b2826 => ?_)
  refine g_ifeq rfl (fun c2827 => ?_) (fun c2827 => ?_)
  · exact g_vret rfl rfl rfl
  · refine g_aload_n rfl rfl ?_
    refine g_getR rfl zf_Shelves_11 rfl rfl ?_
    refine g_iload_n rfl rfl ?_
    refine g_iload_n rfl rfl ?_
    refine g_ifge rfl (fun c2828 => ?_) (fun c2828 => ?_)
    · refine g_iconst (v := (5 : Int32)) rfl zic_5 ?_
      refine g_iast rfl rfl (fun o2831 => ?_)
      refine g_aload_n rfl rfl ?_
      refine g_getR rfl zf_Shelves_18 rfl rfl ?_
      refine g_iload_n rfl rfl ?_
      refine g_iload_n rfl rfl ?_
      refine g_iast rfl rfl (fun o2830 => ?_)
      refine g_aload_n rfl rfl ?_
      refine g_getR rfl zf_Shelves_15 rfl rfl ?_
      refine g_iload_n rfl rfl ?_
      refine g_iconst (v := (0 : Int32)) rfl zic_0 ?_
      refine g_iast rfl rfl (fun o2829 => ?_)
      exact g_vret rfl rfl rfl
    · refine g_iconst (v := (-1 : Int32)) rfl zic_m1 ?_
      refine g_goto rfl ?_
      refine g_iast rfl rfl (fun o2834 => ?_)
      refine g_aload_n rfl rfl ?_
      refine g_getR rfl zf_Shelves_18 rfl rfl ?_
      refine g_iload_n rfl rfl ?_
      refine g_iload_n rfl rfl ?_
      refine g_iast rfl rfl (fun o2833 => ?_)
      refine g_aload_n rfl rfl ?_
      refine g_getR rfl zf_Shelves_15 rfl rfl ?_
      refine g_iload_n rfl rfl ?_
      refine g_iconst (v := (0 : Int32)) rfl zic_0 ?_
      refine g_iast rfl rfl (fun o2832 => ?_)
      exact g_vret rfl rfl rfl
theorem s_Shelves_holdVoter (G : ZG) (a : Int32) (b : Int32) (u : ZSt) (x : ZSt) (hx : f_Shelves_holdVoter a b u = some x) : ZSpec G m_Shelves_holdVoter 2 [.ref 27, .int a, .int b] u (zemV x) :=
  ZSpec.go k_Shelves_holdVoter (Nat.le_of_ble_eq_true rfl) (w_Shelves_holdVoter G a b u) (tgt := zemV x) (by rw [hx]; rfl)
set_option maxRecDepth 100000 in
set_option maxHeartbeats 4000000 in
theorem w_X_keep (G : ZG) (a : Int32) (b : Int32) (u : ZSt) : ZGo G m_X_keep 3 (f_X_keep a b u) zkI 0 [(0, .ref 0), (1, .int a), (2, .int b)] [] u := by
  unfold f_X_keep
  refine g_aload_n rfl rfl ?_
  refine g_getR rfl zf_X_60 rfl rfl ?_
  refine g_iload_n rfl rfl ?_
  refine g_callVP (M' := m_Shelves_isShelf) (d' := 1) (as := [.int a]) (rest := []) (ci := 7) (o := 27) rfl ml_X_95 v_Shelves_isShelf (by decide) rfl (by decide) rfl rfl rfl (Nat.le_of_ble_eq_true rfl) (fun x_ e_ => s_Shelves_isShelf G a u x_ e_) (fun q2835 e2836 b2837 => ?_)
  refine g_ifeq rfl (fun c2838 => ?_) (fun c2838 => ?_)
  · refine g_iconst (v := (-1 : Int32)) rfl zic_m1 ?_
    exact g_iret rfl (Or.inl rfl) rfl
  · refine g_iload_n rfl rfl ?_
    refine g_iconst (v := (-1 : Int32)) rfl zic_m1 ?_
    refine g_icmpeq rfl (fun c2839 => ?_) (fun c2839 => ?_)
    · refine g_aload_n rfl rfl ?_
      refine g_getR rfl zf_X_60 rfl rfl ?_
      refine g_iload_n rfl rfl ?_
      refine g_iload_n rfl rfl ?_
      refine g_callVV (M' := m_Shelves_holdVoter) (d' := 2) (as := [.int a, .int b]) (rest := []) (ci := 7) (o := 27) rfl ml_X_308 v_Shelves_holdVoter (by decide) rfl (by decide) rfl rfl rfl (Nat.le_of_ble_eq_true rfl) (fun x_ e_ => s_Shelves_holdVoter G a b u x_ e_) (fun q2840 e2841 b2842 => ?_)
      refine g_iconst (v := (1 : Int32)) rfl zic_1 ?_
      exact g_iret rfl (Or.inl rfl) rfl
    · refine g_aload_n rfl rfl ?_
      refine g_getR rfl zf_X_83 rfl rfl ?_
      refine g_iload_n rfl rfl ?_
      refine g_callVP (M' := m_Voters_isVoter) (d' := 1) (as := [.int b]) (rest := []) (ci := 8) (o := 36) rfl ml_X_305 v_Voters_isVoter (by decide) rfl (by decide) rfl rfl rfl (Nat.le_of_ble_eq_true rfl) (fun x_ e_ => s_Voters_isVoter G b u x_ e_) (fun q2843 e2844 b2845 => ?_)
      refine g_ifne rfl (fun c2846 => ?_) (fun c2846 => ?_)
      · refine g_aload_n rfl rfl ?_
        refine g_getR rfl zf_X_60 rfl rfl ?_
        refine g_iload_n rfl rfl ?_
        refine g_iload_n rfl rfl ?_
        refine g_callVV (M' := m_Shelves_holdVoter) (d' := 2) (as := [.int a, .int b]) (rest := []) (ci := 7) (o := 27) rfl ml_X_308 v_Shelves_holdVoter (by decide) rfl (by decide) rfl rfl rfl (Nat.le_of_ble_eq_true rfl) (fun x_ e_ => s_Shelves_holdVoter G a b u x_ e_) (fun q2847 e2848 b2849 => ?_)
        refine g_iconst (v := (1 : Int32)) rfl zic_1 ?_
        exact g_iret rfl (Or.inl rfl) rfl
      · refine g_iconst (v := (-1 : Int32)) rfl zic_m1 ?_
        exact g_iret rfl (Or.inl rfl) rfl
theorem s_X_keep (G : ZG) (a : Int32) (b : Int32) (u : ZSt) (x : Int32 × ZSt) (hx : f_X_keep a b u = some x) : ZSpec G m_X_keep 3 [.ref 0, .int a, .int b] u (zemI x) :=
  ZSpec.go k_X_keep (Nat.le_of_ble_eq_true rfl) (w_X_keep G a b u) (tgt := zemI x) (by rw [hx]; rfl)
set_option maxRecDepth 100000 in
set_option maxHeartbeats 4000000 in
theorem w_M_keep (G : ZG) (a : Int32) (b : Int32) (u : ZSt) : ZGo G m_M_keep 3 (f_M_keep a b u) zkI 0 [(0, .ref 39), (1, .int a), (2, .int b)] [] u := by
  unfold f_M_keep
  refine g_iload_n rfl rfl ?_
  refine g_callSP (M' := m_M_isShelf) (d' := 2) (as := [.int a]) (rest := []) rfl ml_M_113 v_M_isShelf (by decide) rfl rfl (Nat.le_of_ble_eq_true rfl) (fun x_ e_ => s_M_isShelf G a u x_ e_) (fun q2850 e2851 b2852 => ?_)
  refine g_ifeq rfl (fun c2853 => ?_) (fun c2853 => ?_)
  · refine g_iconst (v := (-1 : Int32)) rfl zic_m1 ?_
    exact g_iret rfl (Or.inl rfl) rfl
  · refine g_iload_n rfl rfl ?_
    refine g_iconst (v := (-1 : Int32)) rfl zic_m1 ?_
    refine g_icmpeq rfl (fun c2854 => ?_) (fun c2854 => ?_)
    · refine g_aload_n rfl rfl ?_
      refine g_getR rfl zf_M_65 rfl rfl ?_
      refine g_iload_n rfl rfl ?_
      refine g_iload_n rfl rfl ?_
      refine g_iast rfl rfl (fun o2856 => ?_)
      refine g_aload_n rfl rfl ?_
      refine g_getR rfl zf_M_68 rfl rfl ?_
      refine g_iload_n rfl rfl ?_
      refine g_iconst (v := (0 : Int32)) rfl zic_0 ?_
      refine g_iast rfl rfl (fun o2855 => ?_)
      refine g_iconst (v := (1 : Int32)) rfl zic_1 ?_
      exact g_iret rfl (Or.inl rfl) rfl
    · refine g_aload_n rfl rfl ?_
      refine g_iload_n rfl rfl ?_
      refine g_callVP (M' := m_M_isBody) (d' := 2) (as := [.int b]) (rest := []) (ci := 11) (o := 39) rfl ml_M_308 v_M_isBody (by decide) rfl (by decide) rfl rfl rfl (Nat.le_of_ble_eq_true rfl) (fun x_ e_ => s_M_isBody G b u x_ e_) (fun q2857 e2858 b2859 => ?_)
      refine g_ifne rfl (fun c2860 => ?_) (fun c2860 => ?_)
      · refine g_aload_n rfl rfl ?_
        refine g_getR rfl zf_M_65 rfl rfl ?_
        refine g_iload_n rfl rfl ?_
        refine g_iload_n rfl rfl ?_
        refine g_iast rfl rfl (fun o2862 => ?_)
        refine g_aload_n rfl rfl ?_
        refine g_getR rfl zf_M_68 rfl rfl ?_
        refine g_iload_n rfl rfl ?_
        refine g_iconst (v := (0 : Int32)) rfl zic_0 ?_
        refine g_iast rfl rfl (fun o2861 => ?_)
        refine g_iconst (v := (1 : Int32)) rfl zic_1 ?_
        exact g_iret rfl (Or.inl rfl) rfl
      · refine g_iconst (v := (-1 : Int32)) rfl zic_m1 ?_
        exact g_iret rfl (Or.inl rfl) rfl
theorem s_M_keep (G : ZG) (a : Int32) (b : Int32) (u : ZSt) (x : Int32 × ZSt) (hx : f_M_keep a b u = some x) : ZSpec G m_M_keep 3 [.ref 39, .int a, .int b] u (zemI x) :=
  ZSpec.go k_M_keep (Nat.le_of_ble_eq_true rfl) (w_M_keep G a b u) (tgt := zemI x) (by rw [hx]; rfl)
set_option maxRecDepth 100000 in
set_option maxHeartbeats 4000000 in
theorem w_Shelves_isSort (G : ZG) (a : Int32) (u : ZSt) : ZGo G m_Shelves_isSort 1 (f_Shelves_isSort a) (zkP u) 0 [(0, .int a)] [] u := by
  unfold f_Shelves_isSort
  refine g_iload_n rfl rfl ?_
  refine g_iflt rfl (fun c2863 => ?_) (fun c2863 => ?_)
  · refine g_iconst (v := (0 : Int32)) rfl zic_0 ?_
    exact g_iret rfl (Or.inr ⟨rfl, Or.inl rfl⟩) rfl
  · refine g_iload_n rfl rfl ?_
    refine g_iconst (v := (4 : Int32)) rfl zic_4 ?_
    refine g_icmpgt rfl (fun c2864 => ?_) (fun c2864 => ?_)
    · refine g_iconst (v := (0 : Int32)) rfl zic_0 ?_
      exact g_iret rfl (Or.inr ⟨rfl, Or.inl rfl⟩) rfl
    · refine g_iconst (v := (1 : Int32)) rfl zic_1 ?_
      refine g_goto rfl ?_
      exact g_iret rfl (Or.inr ⟨rfl, Or.inr rfl⟩) rfl
theorem s_Shelves_isSort (G : ZG) (a : Int32) (u : ZSt) (x : Int32) (hx : f_Shelves_isSort a = some x) : ZSpec G m_Shelves_isSort 1 [.int a] u ((zemP u) x) :=
  ZSpec.go k_Shelves_isSort (Nat.le_of_ble_eq_true rfl) (w_Shelves_isSort G a u) (tgt := (zemP u) x) (by rw [hx]; rfl)
set_option maxRecDepth 100000 in
set_option maxHeartbeats 4000000 in
theorem wb_Shelves_holdRow_21 (G : ZG) (l1 : Int32) (l3 : Int32) (l4 : Int32) (u : ZSt) (K : ((Int32 × ZSt) ⊕ (Int32 × ZSt)) → Option (Value × ZSt)) (hb : ∀ (l4 : Int32) (u : ZSt), ZGo G m_Shelves_holdRow 2 (K (.inl (l4, u))) some 21 [(0, .ref 27), (1, .int l1), (3, .int l3), (4, .int l4)] [] u) (hx : ∀ (l4 : Int32) (u : ZSt), ZGo G m_Shelves_holdRow 2 (K (.inr (l4, u))) some 35 [] [] u) : ZGo G m_Shelves_holdRow 2 (b_Shelves_holdRow_21 l1 l3 l4 u) K 21 [(0, .ref 27), (1, .int l1), (3, .int l3), (4, .int l4)] [] u := by
  unfold b_Shelves_holdRow_21
  refine g_iload rfl rfl ?_
  refine g_iload_n rfl rfl ?_
  refine g_icmpge rfl (fun c2871 => ?_) (fun c2871 => ?_)
  · exact zgo_sub (zsubk [] rfl) (zgo_leaf (hx l4 u))
  · refine g_aload_n rfl rfl ?_
    refine g_getR rfl zf_Shelves_21 rfl rfl ?_
    refine g_bipush (v := (60 : Int32)) rfl zib_60 ?_
    refine g_iload_n rfl rfl ?_
    refine g_imul rfl ?_
    refine g_iload rfl rfl ?_
    refine g_iadd rfl ?_
    refine g_lconst (v := (0 : Int64)) rfl rfl ?_
    refine g_last rfl rfl (fun o2872 => ?_)
    refine g_iinc (v := (1 : Int32)) (lv' := [(0, .ref 27), (1, .int l1), (3, .int l3), (4, .int (l4 + (1 : Int32)))]) rfl rfl zic_1 (Nat.le_of_ble_eq_true rfl) rfl rfl ?_
    refine g_goto rfl ?_
    exact zgo_sub (zsubk [0, 1, 2, 3] rfl) (zgo_leaf (hb (l4 + (1 : Int32)) (zl u 31 ((((60 : Int32) * l1) + l4).toNatClampNeg) (0 : Int64))))
set_option maxRecDepth 100000 in
set_option maxHeartbeats 4000000 in
theorem wa_Shelves_holdRow_21 (G : ZG) (u : ZSt) : ZGo G m_Shelves_holdRow 2 (a_Shelves_holdRow_21 u) zkV 35 [] [] u := by
  unfold a_Shelves_holdRow_21
  exact g_vret rfl rfl rfl
set_option maxRecDepth 100000 in
set_option maxHeartbeats 4000000 in
theorem w_Shelves_holdRow (G : ZG) (a : Int32) (b : Int32) (c : Int32) (u : ZSt) : ZGo G m_Shelves_holdRow 2 (f_Shelves_holdRow a b c u) zkV 0 [(0, .ref 27), (1, .int a), (2, .int b), (3, .int c)] [] u := by
  unfold f_Shelves_holdRow
  refine g_aload_n rfl rfl ?_
  refine g_iload_n rfl rfl ?_
  refine g_callVP (M' := m_Shelves_isShelf) (d' := 1) (as := [.int a]) (rest := []) (ci := 7) (o := 27) rfl ml_Shelves_25 v_Shelves_isShelf (by decide) rfl (by decide) rfl rfl rfl (Nat.le_of_ble_eq_true rfl) (fun x_ e_ => s_Shelves_isShelf G a u x_ e_) (fun q2865 e2866 b2867 => ?_)
  refine g_ifeq rfl (fun c2868 => ?_) (fun c2868 => ?_)
  · exact g_vret rfl rfl rfl
  · refine g_iload_n rfl rfl ?_
    refine g_iflt rfl (fun c2869 => ?_) (fun c2869 => ?_)
    · exact g_vret rfl rfl rfl
    · refine g_iload_n rfl rfl ?_
      refine g_bipush (v := (60 : Int32)) rfl zib_60 ?_
      refine g_icmpgt rfl (fun c2870 => ?_) (fun c2870 => ?_)
      · exact g_vret rfl rfl rfl
      · refine g_aload_n rfl rfl ?_
        refine g_getR rfl zf_Shelves_11 rfl rfl ?_
        refine g_iload_n rfl rfl ?_
        refine g_iload_n rfl rfl ?_
        refine g_iast rfl rfl (fun o2874 => ?_)
        refine g_aload_n rfl rfl ?_
        refine g_getR rfl zf_Shelves_15 rfl rfl ?_
        refine g_iload_n rfl rfl ?_
        refine g_iload_n rfl rfl ?_
        refine g_iast rfl rfl (fun o2873 => ?_)
        refine g_iconst (v := (0 : Int32)) rfl zic_0 ?_
        refine g_istore (lv' := [(0, .ref 27), (1, .int a), (2, .int b), (3, .int c), (4, .int (0 : Int32))]) rfl (Nat.le_of_ble_eq_true rfl) rfl rfl ?_
        refine zgo_sub (lv' := [(0, .ref 27), (1, .int a), (3, .int c), (4, .int (0 : Int32))]) (zsubk [0, 1, 3, 4] rfl) ?_
        refine zgo_loop (σ := Int32 × ZSt) (lvf := fun s => [(0, .ref 27), (1, .int a), (3, .int c), (4, .int s.1)]) (uf := (fun s => s.2)) ?_ zfu _
        intro s K' ih he
        refine wb_Shelves_holdRow_21 G a c s.1 s.2 K' ?_ ?_
        · intro c0 v
          exact ih (c0, v)
        · intro c0 v
          rw [he]
          exact zgo_unleaf (wa_Shelves_holdRow_21 G  v)
theorem s_Shelves_holdRow (G : ZG) (a : Int32) (b : Int32) (c : Int32) (u : ZSt) (x : ZSt) (hx : f_Shelves_holdRow a b c u = some x) : ZSpec G m_Shelves_holdRow 2 [.ref 27, .int a, .int b, .int c] u (zemV x) :=
  ZSpec.go k_Shelves_holdRow (Nat.le_of_ble_eq_true rfl) (w_Shelves_holdRow G a b c u) (tgt := zemV x) (by rw [hx]; rfl)
set_option maxRecDepth 100000 in
set_option maxHeartbeats 4000000 in
theorem w_X_row (G : ZG) (a : Int32) (b : Int32) (c : Int32) (u : ZSt) : ZGo G m_X_row 3 (f_X_row a b c u) zkI 0 [(0, .ref 0), (1, .int a), (2, .int b), (3, .int c)] [] u := by
  unfold f_X_row
  refine g_aload_n rfl rfl ?_
  refine g_getR rfl zf_X_60 rfl rfl ?_
  refine g_iload_n rfl rfl ?_
  refine g_callVP (M' := m_Shelves_isShelf) (d' := 1) (as := [.int a]) (rest := []) (ci := 7) (o := 27) rfl ml_X_95 v_Shelves_isShelf (by decide) rfl (by decide) rfl rfl rfl (Nat.le_of_ble_eq_true rfl) (fun x_ e_ => s_Shelves_isShelf G a u x_ e_) (fun q2875 e2876 b2877 => ?_)
  refine g_ifeq rfl (fun c2878 => ?_) (fun c2878 => ?_)
  · refine g_iconst (v := (-1 : Int32)) rfl zic_m1 ?_
    exact g_iret rfl (Or.inl rfl) rfl
  · refine g_iload_n rfl rfl ?_
    refine g_callSP (M' := m_Shelves_isSort) (d' := 1) (as := [.int b]) (rest := []) rfl ml_X_312 v_Shelves_isSort (by decide) rfl rfl (Nat.le_of_ble_eq_true rfl) (fun x_ e_ => s_Shelves_isSort G b u x_ e_) (fun q2879 e2880 b2881 => ?_)
    refine g_ifeq rfl (fun c2882 => ?_) (fun c2882 => ?_)
    · refine g_iconst (v := (-1 : Int32)) rfl zic_m1 ?_
      exact g_iret rfl (Or.inl rfl) rfl
    · refine g_iload_n rfl rfl ?_
      refine g_bipush (v := (60 : Int32)) rfl zib_60 ?_
      refine g_icmple rfl (fun c2883 => ?_) (fun c2883 => ?_)
      · refine g_iload_n rfl rfl ?_
        refine g_ifge rfl (fun c2884 => ?_) (fun c2884 => ?_)
        · refine g_aload_n rfl rfl ?_
          refine g_getR rfl zf_X_60 rfl rfl ?_
          refine g_iload_n rfl rfl ?_
          refine g_iload_n rfl rfl ?_
          refine g_iload_n rfl rfl ?_
          refine g_callVV (M' := m_Shelves_holdRow) (d' := 2) (as := [.int a, .int b, .int c]) (rest := []) (ci := 7) (o := 27) rfl ml_X_315 v_Shelves_holdRow (by decide) rfl (by decide) rfl rfl rfl (Nat.le_of_ble_eq_true rfl) (fun x_ e_ => s_Shelves_holdRow G a b c u x_ e_) (fun q2885 e2886 b2887 => ?_)
          refine g_iconst (v := (1 : Int32)) rfl zic_1 ?_
          exact g_iret rfl (Or.inl rfl) rfl
        · refine g_bipush (v := (-14 : Int32)) rfl zib_m14 ?_
          exact g_iret rfl (Or.inl rfl) rfl
      · refine g_iconst (v := (-1 : Int32)) rfl zic_m1 ?_
        exact g_iret rfl (Or.inl rfl) rfl
theorem s_X_row (G : ZG) (a : Int32) (b : Int32) (c : Int32) (u : ZSt) (x : Int32 × ZSt) (hx : f_X_row a b c u = some x) : ZSpec G m_X_row 3 [.ref 0, .int a, .int b, .int c] u (zemI x) :=
  ZSpec.go k_X_row (Nat.le_of_ble_eq_true rfl) (w_X_row G a b c u) (tgt := zemI x) (by rw [hx]; rfl)
set_option maxRecDepth 100000 in
set_option maxHeartbeats 4000000 in
theorem wb_M_row_34 (G : ZG) (l1 : Int32) (l4 : Int32) (u : ZSt) (K : ((Int32 × ZSt) ⊕ (Int32 × ZSt)) → Option (Value × ZSt)) (hb : ∀ (l4 : Int32) (u : ZSt), ZGo G m_M_row 3 (K (.inl (l4, u))) some 34 [(0, .ref 39), (1, .int l1), (4, .int l4)] [] u) (hx : ∀ (l4 : Int32) (u : ZSt), ZGo G m_M_row 3 (K (.inr (l4, u))) some 48 [] [] u) : ZGo G m_M_row 3 (b_M_row_34 l1 l4 u) K 34 [(0, .ref 39), (1, .int l1), (4, .int l4)] [] u := by
  unfold b_M_row_34
  refine g_iload rfl rfl ?_
  refine g_bipush (v := (60 : Int32)) rfl zib_60 ?_
  refine g_iload_n rfl rfl ?_
  refine g_imul rfl ?_
  refine g_bipush (v := (60 : Int32)) rfl zib_60 ?_
  refine g_iadd rfl ?_
  refine g_icmpge rfl (fun c2898 => ?_) (fun c2898 => ?_)
  · exact zgo_sub (zsubk [] rfl) (zgo_leaf (hx l4 u))
  · refine g_aload_n rfl rfl ?_
    refine g_getR rfl zf_M_71 rfl rfl ?_
    refine g_iload rfl rfl ?_
    refine g_lconst (v := (0 : Int64)) rfl rfl ?_
    refine g_last rfl rfl (fun o2899 => ?_)
    refine g_iinc (v := (1 : Int32)) (lv' := [(0, .ref 39), (1, .int l1), (4, .int (l4 + (1 : Int32)))]) rfl rfl zic_1 (Nat.le_of_ble_eq_true rfl) rfl rfl ?_
    refine g_goto rfl ?_
    exact zgo_sub (zsubk [0, 1, 2] rfl) (zgo_leaf (hb (l4 + (1 : Int32)) (zl u 60 l4.toNatClampNeg (0 : Int64))))
set_option maxRecDepth 100000 in
set_option maxHeartbeats 4000000 in
theorem wa_M_row_34 (G : ZG) (u : ZSt) : ZGo G m_M_row 3 (a_M_row_34 u) zkI 48 [] [] u := by
  unfold a_M_row_34
  refine g_iconst (v := (1 : Int32)) rfl zic_1 ?_
  exact g_iret rfl (Or.inl rfl) rfl
set_option maxRecDepth 100000 in
set_option maxHeartbeats 4000000 in
theorem w_M_row (G : ZG) (a : Int32) (b : Int32) (c : Int32) (u : ZSt) : ZGo G m_M_row 3 (f_M_row a b c u) zkI 0 [(0, .ref 39), (1, .int a), (2, .int b), (3, .int c)] [] u := by
  unfold f_M_row
  refine g_iload_n rfl rfl ?_
  refine g_callSP (M' := m_M_isShelf) (d' := 2) (as := [.int a]) (rest := []) rfl ml_M_113 v_M_isShelf (by decide) rfl rfl (Nat.le_of_ble_eq_true rfl) (fun x_ e_ => s_M_isShelf G a u x_ e_) (fun q2888 e2889 b2890 => ?_)
  refine g_ifeq rfl (fun c2891 => ?_) (fun c2891 => ?_)
  · refine g_iconst (v := (-1 : Int32)) rfl zic_m1 ?_
    exact g_iret rfl (Or.inl rfl) rfl
  · refine g_iload_n rfl rfl ?_
    refine g_i2l rfl ?_
    refine g_lconst (v := (0 : Int64)) rfl rfl ?_
    refine g_ldc2 rfl zk_M_142 ?_
    refine g_callSP (M' := m_M_within) (d' := 1) (as := [.long b.toInt64, .long (0 : Int64), .long (4 : Int64)]) (rest := []) rfl ml_M_97 v_M_within (by decide) rfl rfl (Nat.le_of_ble_eq_true rfl) (fun x_ e_ => s_M_within G b.toInt64 (0 : Int64) (4 : Int64) u x_ e_) (fun q2892 e2893 b2894 => ?_)
    refine g_ifeq rfl (fun c2895 => ?_) (fun c2895 => ?_)
    · refine g_iconst (v := (-1 : Int32)) rfl zic_m1 ?_
      exact g_iret rfl (Or.inl rfl) rfl
    · refine g_iload_n rfl rfl ?_
      refine g_bipush (v := (60 : Int32)) rfl zib_60 ?_
      refine g_icmple rfl (fun c2896 => ?_) (fun c2896 => ?_)
      · refine g_iload_n rfl rfl ?_
        refine g_ifge rfl (fun c2897 => ?_) (fun c2897 => ?_)
        · refine g_aload_n rfl rfl ?_
          refine g_getR rfl zf_M_65 rfl rfl ?_
          refine g_iload_n rfl rfl ?_
          refine g_bipush (v := (50 : Int32)) rfl zib_50 ?_
          refine g_iload_n rfl rfl ?_
          refine g_iadd rfl ?_
          refine g_iast rfl rfl (fun o2901 => ?_)
          refine g_aload_n rfl rfl ?_
          refine g_getR rfl zf_M_68 rfl rfl ?_
          refine g_iload_n rfl rfl ?_
          refine g_iload_n rfl rfl ?_
          refine g_iast rfl rfl (fun o2900 => ?_)
          refine g_bipush (v := (60 : Int32)) rfl zib_60 ?_
          refine g_iload_n rfl rfl ?_
          refine g_imul rfl ?_
          refine g_istore (lv' := [(0, .ref 39), (1, .int a), (2, .int b), (3, .int c), (4, .int ((60 : Int32) * a))]) rfl (Nat.le_of_ble_eq_true rfl) rfl rfl ?_
          refine zgo_sub (lv' := [(0, .ref 39), (1, .int a), (4, .int ((60 : Int32) * a))]) (zsubk [0, 1, 4] rfl) ?_
          refine zgo_loop (σ := Int32 × ZSt) (lvf := fun s => [(0, .ref 39), (1, .int a), (4, .int s.1)]) (uf := (fun s => s.2)) ?_ zfu _
          intro s K' ih he
          refine wb_M_row_34 G a s.1 s.2 K' ?_ ?_
          · intro c0 v
            exact ih (c0, v)
          · intro c0 v
            rw [he]
            exact zgo_unleaf (wa_M_row_34 G  v)
        · refine g_bipush (v := (-14 : Int32)) rfl zib_m14 ?_
          exact g_iret rfl (Or.inl rfl) rfl
      · refine g_iconst (v := (-1 : Int32)) rfl zic_m1 ?_
        exact g_iret rfl (Or.inl rfl) rfl
theorem s_M_row (G : ZG) (a : Int32) (b : Int32) (c : Int32) (u : ZSt) (x : Int32 × ZSt) (hx : f_M_row a b c u = some x) : ZSpec G m_M_row 3 [.ref 39, .int a, .int b, .int c] u (zemI x) :=
  ZSpec.go k_M_row (Nat.le_of_ble_eq_true rfl) (w_M_row G a b c u) (tgt := zemI x) (by rw [hx]; rfl)
set_option maxRecDepth 100000 in
set_option maxHeartbeats 4000000 in
theorem w_Shelves_refusedAt (G : ZG) (a : Int32) (b : Int32) (u : ZSt) : ZGo G m_Shelves_refusedAt 2 (f_Shelves_refusedAt a b u) (zkP u) 0 [(0, .ref 27), (1, .int a), (2, .int b)] [] u := by
  unfold f_Shelves_refusedAt
  refine g_aload_n rfl rfl ?_
  refine g_iload_n rfl rfl ?_
  refine g_callVP (M' := m_Shelves_isShelf) (d' := 1) (as := [.int a]) (rest := []) (ci := 7) (o := 27) rfl ml_Shelves_25 v_Shelves_isShelf (by decide) rfl (by decide) rfl rfl rfl (Nat.le_of_ble_eq_true rfl) (fun x_ e_ => s_Shelves_isShelf G a u x_ e_) (fun q2902 e2903 b2904 => ?_)
  refine g_ifne rfl (fun c2905 => ?_) (fun c2905 => ?_)
  · refine g_aload_n rfl rfl ?_
    refine g_getR rfl zf_Shelves_11 rfl rfl ?_
    refine g_iload_n rfl rfl ?_
    refine g_iald rfl rfl (fun o2916 => ?_)
    refine g_iconst (v := (-1 : Int32)) rfl zic_m1 ?_
    refine g_icmpne rfl (fun c2906 => ?_) (fun c2906 => ?_)
    · refine g_aload_n rfl rfl ?_
      refine g_getR rfl zf_Shelves_11 rfl rfl ?_
      refine g_iload_n rfl rfl ?_
      refine g_iald rfl rfl (fun o2915 => ?_)
      refine g_callSP (M' := m_Shelves_isSort) (d' := 1) (as := [.int (u.2.1 28 a.toNatClampNeg)]) (rest := []) rfl ml_Shelves_29 v_Shelves_isSort (by decide) rfl rfl (Nat.le_of_ble_eq_true rfl) (fun x_ e_ => s_Shelves_isSort G (u.2.1 28 a.toNatClampNeg) u x_ e_) (fun q2907 e2908 b2909 => ?_)
      refine g_ifne rfl (fun c2910 => ?_) (fun c2910 => ?_)
      · refine g_aload_n rfl rfl ?_
        refine g_iload_n rfl rfl ?_
        refine g_iload_n rfl rfl ?_
        refine g_callVP (M' := m_Shelves_hasPlace) (d' := 1) (as := [.int a, .int b]) (rest := []) (ci := 7) (o := 27) rfl ml_Shelves_32 v_Shelves_hasPlace (by decide) rfl (by decide) rfl rfl rfl (Nat.le_of_ble_eq_true rfl) (fun x_ e_ => s_Shelves_hasPlace G a b u x_ e_) (fun q2911 e2912 b2913 => ?_)
        refine g_ifeq rfl (fun c2914 => ?_) (fun c2914 => ?_)
        · refine g_bipush (v := (-13 : Int32)) rfl zib_m13 ?_
          exact g_iret rfl (Or.inl rfl) rfl
        · refine g_iconst (v := (0 : Int32)) rfl zic_0 ?_
          refine g_goto rfl ?_
          exact g_iret rfl (Or.inl rfl) rfl
      · refine g_bipush (v := (-12 : Int32)) rfl zib_m12 ?_
        exact g_iret rfl (Or.inl rfl) rfl
    · refine g_bipush (v := (-11 : Int32)) rfl zib_m11 ?_
      exact g_iret rfl (Or.inl rfl) rfl
  · refine g_iconst (v := (-1 : Int32)) rfl zic_m1 ?_
    exact g_iret rfl (Or.inl rfl) rfl
theorem s_Shelves_refusedAt (G : ZG) (a : Int32) (b : Int32) (u : ZSt) (x : Int32) (hx : f_Shelves_refusedAt a b u = some x) : ZSpec G m_Shelves_refusedAt 2 [.ref 27, .int a, .int b] u ((zemP u) x) :=
  ZSpec.go k_Shelves_refusedAt (Nat.le_of_ble_eq_true rfl) (w_Shelves_refusedAt G a b u) (tgt := (zemP u) x) (by rw [hx]; rfl)
set_option maxRecDepth 100000 in
set_option maxHeartbeats 4000000 in
theorem w_Shelves_lowestBits (G : ZG) (a : Int32) (b : Int64) (u : ZSt) : ZGo G m_Shelves_lowestBits 1 (f_Shelves_lowestBits a b) (zkL u) 0 [(0, .int a), (1, .long b)] [] u := by
  unfold f_Shelves_lowestBits
  refine g_iload_n rfl rfl ?_
  refine zgo_ite (fun c2917 => ?_) (fun c2917 => ?_)
  · refine g_tswIn rfl c2917 (by decide) (by decide) (off := 35) (by decide +kernel) 2 rfl ?_
    refine g_lload_n rfl rfl ?_
    refine g_l2i rfl ?_
    refine g_i2b rfl ?_
    refine g_i2l rfl ?_
    exact g_lret rfl rfl rfl
  · refine zgo_ite (fun c2918 => ?_) (fun c2918 => ?_)
    · refine g_tswIn rfl c2918 (by decide) (by decide) (off := 40) (by decide +kernel) 7 rfl ?_
      refine g_lload_n rfl rfl ?_
      refine g_l2i rfl ?_
      refine g_i2s rfl ?_
      refine g_i2l rfl ?_
      exact g_lret rfl rfl rfl
    · refine zgo_ite (fun c2919 => ?_) (fun c2919 => ?_)
      · refine g_tswIn rfl c2919 (by decide) (by decide) (off := 45) (by decide +kernel) 12 rfl ?_
        refine g_lload_n rfl rfl ?_
        refine g_l2i rfl ?_
        refine g_i2l rfl ?_
        exact g_lret rfl rfl rfl
      · refine zgo_ite (fun c2920 => ?_) (fun c2920 => ?_)
        · refine g_tswIn rfl c2920 (by decide) (by decide) (off := 49) (by decide +kernel) 16 rfl ?_
          refine g_lload_n rfl rfl ?_
          refine g_lconst (v := (0 : Int64)) rfl rfl ?_
          refine g_lcmp rfl ?_
          refine g_ifeq rfl (fun c2921 => ?_) (fun c2921 => ?_)
          · refine g_lconst (v := (0 : Int64)) rfl rfl ?_
            exact g_lret rfl rfl rfl
          · refine g_lconst (v := (1 : Int64)) rfl rfl ?_
            refine g_goto rfl ?_
            exact g_lret rfl rfl rfl
        · refine g_tswD rfl [0, 1, 2, 4] 5 (by decide) (by decide +kernel) (List.forall_mem_cons.mpr ⟨z_ne c2917 rfl, (List.forall_mem_cons.mpr ⟨z_ne c2918 rfl, (List.forall_mem_cons.mpr ⟨z_ne c2919 rfl, (List.forall_mem_cons.mpr ⟨z_ne c2920 rfl, (fun _ h => absurd h List.not_mem_nil)⟩)⟩)⟩)⟩) 24 rfl ?_
          refine g_lload_n rfl rfl ?_
          exact g_lret rfl rfl rfl
theorem s_Shelves_lowestBits (G : ZG) (a : Int32) (b : Int64) (u : ZSt) (x : Int64) (hx : f_Shelves_lowestBits a b = some x) : ZSpec G m_Shelves_lowestBits 1 [.int a, .long b] u ((zemL u) x) :=
  ZSpec.go k_Shelves_lowestBits (Nat.le_of_ble_eq_true rfl) (w_Shelves_lowestBits G a b u) (tgt := (zemL u) x) (by rw [hx]; rfl)
set_option maxRecDepth 100000 in
set_option maxHeartbeats 4000000 in
theorem w_Shelves_set (G : ZG) (a : Int32) (b : Int32) (c : Int64) (u : ZSt) : ZGo G m_Shelves_set 2 (f_Shelves_set a b c u) zkV 0 [(0, .ref 27), (1, .int a), (2, .int b), (3, .long c)] [] u := by
  unfold f_Shelves_set
  refine g_aload_n rfl rfl ?_
  refine g_iload_n rfl rfl ?_
  refine g_iload_n rfl rfl ?_
  refine g_callVP (M' := m_Shelves_hasPlace) (d' := 1) (as := [.int a, .int b]) (rest := []) (ci := 7) (o := 27) rfl ml_Shelves_32 v_Shelves_hasPlace (by decide) rfl (by decide) rfl rfl rfl (Nat.le_of_ble_eq_true rfl) (fun x_ e_ => s_Shelves_hasPlace G a b u x_ e_) (fun q2922 e2923 b2924 => ?_)
  refine g_ifeq rfl (fun c2925 => ?_) (fun c2925 => ?_)
  · exact g_vret rfl rfl rfl
  · refine g_aload_n rfl rfl ?_
    refine g_getR rfl zf_Shelves_21 rfl rfl ?_
    refine g_bipush (v := (60 : Int32)) rfl zib_60 ?_
    refine g_iload_n rfl rfl ?_
    refine g_imul rfl ?_
    refine g_iload_n rfl rfl ?_
    refine g_iadd rfl ?_
    refine g_aload_n rfl rfl ?_
    refine g_getR rfl zf_Shelves_11 rfl rfl ?_
    refine g_iload_n rfl rfl ?_
    refine g_iald rfl rfl (fun o2930 => ?_)
    refine g_lload_n rfl rfl ?_
    refine g_callSL (M' := m_Shelves_lowestBits) (d' := 1) (as := [.int (u.2.1 28 a.toNatClampNeg), .long c]) (rest := [.int (((60 : Int32) * a) + b), .ref 31]) rfl ml_Shelves_40 v_Shelves_lowestBits (by decide) rfl rfl (Nat.le_of_ble_eq_true rfl) (fun x_ e_ => s_Shelves_lowestBits G (u.2.1 28 a.toNatClampNeg) c u x_ e_) (fun q2926 e2927 b2928 => ?_)
    refine g_last rfl rfl (fun o2929 => ?_)
    exact g_vret rfl rfl rfl
theorem s_Shelves_set (G : ZG) (a : Int32) (b : Int32) (c : Int64) (u : ZSt) (x : ZSt) (hx : f_Shelves_set a b c u = some x) : ZSpec G m_Shelves_set 2 [.ref 27, .int a, .int b, .long c] u (zemV x) :=
  ZSpec.go k_Shelves_set (Nat.le_of_ble_eq_true rfl) (w_Shelves_set G a b c u) (tgt := zemV x) (by rw [hx]; rfl)
set_option maxRecDepth 100000 in
set_option maxHeartbeats 4000000 in
theorem w_X_put (G : ZG) (a : Int32) (b : Int32) (c : Int64) (u : ZSt) : ZGo G m_X_put 3 (f_X_put a b c u) zkI 0 [(0, .ref 0), (1, .int a), (2, .int b), (3, .long c)] [] u := by
  unfold f_X_put
  refine g_aload_n rfl rfl ?_
  refine g_getR rfl zf_X_60 rfl rfl ?_
  refine g_iload_n rfl rfl ?_
  refine g_iload_n rfl rfl ?_
  refine g_callVP (M' := m_Shelves_refusedAt) (d' := 2) (as := [.int a, .int b]) (rest := []) (ci := 7) (o := 27) rfl ml_X_319 v_Shelves_refusedAt (by decide) rfl (by decide) rfl rfl rfl (Nat.le_of_ble_eq_true rfl) (fun x_ e_ => s_Shelves_refusedAt G a b u x_ e_) (fun q2931 e2932 b2933 => ?_)
  refine g_istore (lv' := [(0, .ref 0), (1, .int a), (2, .int b), (3, .long c), (5, .int q2931)]) rfl (Nat.le_of_ble_eq_true rfl) rfl rfl ?_
  refine g_iload rfl rfl ?_
  refine g_ifeq rfl (fun c2934 => ?_) (fun c2934 => ?_)
  · refine g_aload_n rfl rfl ?_
    refine g_getR rfl zf_X_60 rfl rfl ?_
    refine g_iload_n rfl rfl ?_
    refine g_iload_n rfl rfl ?_
    refine g_lload_n rfl rfl ?_
    refine g_callVV (M' := m_Shelves_set) (d' := 2) (as := [.int a, .int b, .long c]) (rest := []) (ci := 7) (o := 27) rfl ml_X_322 v_Shelves_set (by decide) rfl (by decide) rfl rfl rfl (Nat.le_of_ble_eq_true rfl) (fun x_ e_ => s_Shelves_set G a b c u x_ e_) (fun q2935 e2936 b2937 => ?_)
    refine g_iconst (v := (1 : Int32)) rfl zic_1 ?_
    exact g_iret rfl (Or.inl rfl) rfl
  · refine g_iload rfl rfl ?_
    exact g_iret rfl (Or.inl rfl) rfl
theorem s_X_put (G : ZG) (a : Int32) (b : Int32) (c : Int64) (u : ZSt) (x : Int32 × ZSt) (hx : f_X_put a b c u = some x) : ZSpec G m_X_put 3 [.ref 0, .int a, .int b, .long c] u (zemI x) :=
  ZSpec.go k_X_put (Nat.le_of_ble_eq_true rfl) (w_X_put G a b c u) (tgt := zemI x) (by rw [hx]; rfl)
set_option maxRecDepth 100000 in
set_option maxHeartbeats 4000000 in
theorem w_M_refusal (G : ZG) (a : Int32) (b : Int32) (u : ZSt) : ZGo G m_M_refusal 3 (f_M_refusal a b u) (zkP u) 0 [(0, .ref 39), (1, .int a), (2, .int b)] [] u := by
  unfold f_M_refusal
  refine g_iload_n rfl rfl ?_
  refine g_callSP (M' := m_M_isShelf) (d' := 2) (as := [.int a]) (rest := []) rfl ml_M_113 v_M_isShelf (by decide) rfl rfl (Nat.le_of_ble_eq_true rfl) (fun x_ e_ => s_M_isShelf G a u x_ e_) (fun q2938 e2939 b2940 => ?_)
  refine g_ifne rfl (fun c2941 => ?_) (fun c2941 => ?_)
  · refine g_aload_n rfl rfl ?_
    refine g_getR rfl zf_M_65 rfl rfl ?_
    refine g_iload_n rfl rfl ?_
    refine g_iald rfl rfl (fun o2948 => ?_)
    refine g_ifge rfl (fun c2942 => ?_) (fun c2942 => ?_)
    · refine g_aload_n rfl rfl ?_
      refine g_getR rfl zf_M_65 rfl rfl ?_
      refine g_iload_n rfl rfl ?_
      refine g_iald rfl rfl (fun o2947 => ?_)
      refine g_bipush (v := (50 : Int32)) rfl zib_50 ?_
      refine g_icmpge rfl (fun c2943 => ?_) (fun c2943 => ?_)
      · refine g_iload_n rfl rfl ?_
        refine g_iflt rfl (fun c2944 => ?_) (fun c2944 => ?_)
        · refine g_bipush (v := (-13 : Int32)) rfl zib_m13 ?_
          exact g_iret rfl (Or.inl rfl) rfl
        · refine g_iload_n rfl rfl ?_
          refine g_aload_n rfl rfl ?_
          refine g_getR rfl zf_M_68 rfl rfl ?_
          refine g_iload_n rfl rfl ?_
          refine g_iald rfl rfl (fun o2946 => ?_)
          refine g_icmpge rfl (fun c2945 => ?_) (fun c2945 => ?_)
          · refine g_bipush (v := (-13 : Int32)) rfl zib_m13 ?_
            exact g_iret rfl (Or.inl rfl) rfl
          · refine g_iconst (v := (0 : Int32)) rfl zic_0 ?_
            refine g_goto rfl ?_
            exact g_iret rfl (Or.inl rfl) rfl
      · refine g_bipush (v := (-12 : Int32)) rfl zib_m12 ?_
        exact g_iret rfl (Or.inl rfl) rfl
    · refine g_bipush (v := (-11 : Int32)) rfl zib_m11 ?_
      exact g_iret rfl (Or.inl rfl) rfl
  · refine g_iconst (v := (-1 : Int32)) rfl zic_m1 ?_
    exact g_iret rfl (Or.inl rfl) rfl
theorem s_M_refusal (G : ZG) (a : Int32) (b : Int32) (u : ZSt) (x : Int32) (hx : f_M_refusal a b u = some x) : ZSpec G m_M_refusal 3 [.ref 39, .int a, .int b] u ((zemP u) x) :=
  ZSpec.go k_M_refusal (Nat.le_of_ble_eq_true rfl) (w_M_refusal G a b u) (tgt := (zemP u) x) (by rw [hx]; rfl)
set_option maxRecDepth 100000 in
set_option maxHeartbeats 4000000 in
theorem w_M_asSort (G : ZG) (a : Int32) (b : Int64) (u : ZSt) : ZGo G m_M_asSort 1 (f_M_asSort a b) (zkL u) 0 [(0, .int a), (1, .long b)] [] u := by
  unfold f_M_asSort
  refine g_iload_n rfl rfl ?_
  refine g_ifne rfl (fun c2949 => ?_) (fun c2949 => ?_)
  · refine g_iload_n rfl rfl ?_
    refine g_iconst (v := (1 : Int32)) rfl zic_1 ?_
    refine g_icmpne rfl (fun c2950 => ?_) (fun c2950 => ?_)
    · refine g_iload_n rfl rfl ?_
      refine g_iconst (v := (2 : Int32)) rfl zic_2 ?_
      refine g_icmpne rfl (fun c2951 => ?_) (fun c2951 => ?_)
      · refine g_iload_n rfl rfl ?_
        refine g_iconst (v := (4 : Int32)) rfl zic_4 ?_
        refine g_icmpne rfl (fun c2952 => ?_) (fun c2952 => ?_)
        · refine g_lload_n rfl rfl ?_
          exact g_lret rfl rfl rfl
        · refine g_lload_n rfl rfl ?_
          refine g_lconst (v := (0 : Int64)) rfl rfl ?_
          refine g_lcmp rfl ?_
          refine g_ifeq rfl (fun c2953 => ?_) (fun c2953 => ?_)
          · refine g_lconst (v := (0 : Int64)) rfl rfl ?_
            refine g_goto rfl ?_
            exact g_lret rfl rfl rfl
          · refine g_lconst (v := (1 : Int64)) rfl rfl ?_
            refine g_goto rfl ?_
            exact g_lret rfl rfl rfl
      · refine g_lload_n rfl rfl ?_
        refine g_l2i rfl ?_
        refine g_i2l rfl ?_
        refine g_goto rfl ?_
        exact g_lret rfl rfl rfl
    · refine g_lload_n rfl rfl ?_
      refine g_l2i rfl ?_
      refine g_i2s rfl ?_
      refine g_i2l rfl ?_
      refine g_goto rfl ?_
      exact g_lret rfl rfl rfl
  · refine g_lload_n rfl rfl ?_
    refine g_l2i rfl ?_
    refine g_i2b rfl ?_
    refine g_i2l rfl ?_
    refine g_goto rfl ?_
    exact g_lret rfl rfl rfl
theorem s_M_asSort (G : ZG) (a : Int32) (b : Int64) (u : ZSt) (x : Int64) (hx : f_M_asSort a b = some x) : ZSpec G m_M_asSort 1 [.int a, .long b] u ((zemL u) x) :=
  ZSpec.go k_M_asSort (Nat.le_of_ble_eq_true rfl) (w_M_asSort G a b u) (tgt := (zemL u) x) (by rw [hx]; rfl)
set_option maxRecDepth 100000 in
set_option maxHeartbeats 4000000 in
theorem w_M_put (G : ZG) (a : Int32) (b : Int32) (c : Int64) (u : ZSt) : ZGo G m_M_put 4 (f_M_put a b c u) zkI 0 [(0, .ref 39), (1, .int a), (2, .int b), (3, .long c)] [] u := by
  unfold f_M_put
  refine g_aload_n rfl rfl ?_
  refine g_iload_n rfl rfl ?_
  refine g_iload_n rfl rfl ?_
  refine g_callVP (M' := m_M_refusal) (d' := 3) (as := [.int a, .int b]) (rest := []) (ci := 11) (o := 39) rfl ml_M_313 v_M_refusal (by decide) rfl (by decide) rfl rfl rfl (Nat.le_of_ble_eq_true rfl) (fun x_ e_ => s_M_refusal G a b u x_ e_) (fun q2954 e2955 b2956 => ?_)
  refine g_istore (lv' := [(0, .ref 39), (1, .int a), (2, .int b), (3, .long c), (5, .int q2954)]) rfl (Nat.le_of_ble_eq_true rfl) rfl rfl ?_
  refine g_iload rfl rfl ?_
  refine g_ifne rfl (fun c2957 => ?_) (fun c2957 => ?_)
  · refine g_iload rfl rfl ?_
    refine g_ifne rfl (fun c2958 => ?_) (fun c2958 => ?_)
    · refine g_iload rfl rfl ?_
      exact g_iret rfl (Or.inl rfl) rfl
    · refine g_iconst (v := (1 : Int32)) rfl zic_1 ?_
      refine g_goto rfl ?_
      exact g_iret rfl (Or.inl rfl) rfl
  · refine g_aload_n rfl rfl ?_
    refine g_getR rfl zf_M_71 rfl rfl ?_
    refine g_bipush (v := (60 : Int32)) rfl zib_60 ?_
    refine g_iload_n rfl rfl ?_
    refine g_imul rfl ?_
    refine g_iload_n rfl rfl ?_
    refine g_iadd rfl ?_
    refine g_aload_n rfl rfl ?_
    refine g_getR rfl zf_M_65 rfl rfl ?_
    refine g_iload_n rfl rfl ?_
    refine g_iald rfl rfl (fun o2964 => ?_)
    refine g_bipush (v := (50 : Int32)) rfl zib_50 ?_
    refine g_isub rfl ?_
    refine g_lload_n rfl rfl ?_
    refine g_callSL (M' := m_M_asSort) (d' := 1) (as := [.int ((u.2.1 58 a.toNatClampNeg) - (50 : Int32)), .long c]) (rest := [.int (((60 : Int32) * a) + b), .ref 60]) rfl ml_M_316 v_M_asSort (by decide) rfl rfl (Nat.le_of_ble_eq_true rfl) (fun x_ e_ => s_M_asSort G ((u.2.1 58 a.toNatClampNeg) - (50 : Int32)) c u x_ e_) (fun q2959 e2960 b2961 => ?_)
    refine g_last rfl rfl (fun o2963 => ?_)
    refine g_iload rfl rfl ?_
    refine g_ifne rfl (fun c2962 => ?_) (fun c2962 => ?_)
    · refine g_iload rfl rfl ?_
      exact g_iret rfl (Or.inl rfl) rfl
    · refine g_iconst (v := (1 : Int32)) rfl zic_1 ?_
      refine g_goto rfl ?_
      exact g_iret rfl (Or.inl rfl) rfl
theorem s_M_put (G : ZG) (a : Int32) (b : Int32) (c : Int64) (u : ZSt) (x : Int32 × ZSt) (hx : f_M_put a b c u = some x) : ZSpec G m_M_put 4 [.ref 39, .int a, .int b, .long c] u (zemI x) :=
  ZSpec.go k_M_put (Nat.le_of_ble_eq_true rfl) (w_M_put G a b c u) (tgt := zemI x) (by rw [hx]; rfl)
set_option maxRecDepth 100000 in
set_option maxHeartbeats 4000000 in
theorem w_X_element (G : ZG) (a : Int32) (b : Int32) (u : ZSt) : ZGo G m_X_element 3 (f_X_element a b u) (zkL u) 0 [(0, .ref 0), (1, .int a), (2, .int b)] [] u := by
  unfold f_X_element
  refine g_aload_n rfl rfl ?_
  refine g_getR rfl zf_X_60 rfl rfl ?_
  refine g_iload_n rfl rfl ?_
  refine g_iload_n rfl rfl ?_
  refine g_callVP (M' := m_Shelves_refusedAt) (d' := 2) (as := [.int a, .int b]) (rest := []) (ci := 7) (o := 27) rfl ml_X_319 v_Shelves_refusedAt (by decide) rfl (by decide) rfl rfl rfl (Nat.le_of_ble_eq_true rfl) (fun x_ e_ => s_Shelves_refusedAt G a b u x_ e_) (fun q2965 e2966 b2967 => ?_)
  refine g_ifeq rfl (fun c2968 => ?_) (fun c2968 => ?_)
  · refine g_aload_n rfl rfl ?_
    refine g_getR rfl zf_X_60 rfl rfl ?_
    refine g_iload_n rfl rfl ?_
    refine g_iload_n rfl rfl ?_
    refine g_callVL (M' := m_Shelves_valueAt) (d' := 2) (as := [.int a, .int b]) (rest := []) (ci := 7) (o := 27) rfl ml_X_108 v_Shelves_valueAt (by decide) rfl (by decide) rfl rfl rfl (Nat.le_of_ble_eq_true rfl) (fun x_ e_ => s_Shelves_valueAt G a b u x_ e_) (fun q2969 e2970 b2971 => ?_)
    exact g_lret rfl rfl rfl
  · refine g_ldc2 rfl zk_X_326 ?_
    refine g_goto rfl ?_
    exact g_lret rfl rfl rfl
theorem s_X_element (G : ZG) (a : Int32) (b : Int32) (u : ZSt) (x : Int64) (hx : f_X_element a b u = some x) : ZSpec G m_X_element 3 [.ref 0, .int a, .int b] u ((zemL u) x) :=
  ZSpec.go k_X_element (Nat.le_of_ble_eq_true rfl) (w_X_element G a b u) (tgt := (zemL u) x) (by rw [hx]; rfl)
set_option maxRecDepth 100000 in
set_option maxHeartbeats 4000000 in
theorem w_M_element (G : ZG) (a : Int32) (b : Int32) (u : ZSt) : ZGo G m_M_element 4 (f_M_element a b u) (zkL u) 0 [(0, .ref 39), (1, .int a), (2, .int b)] [] u := by
  unfold f_M_element
  refine g_aload_n rfl rfl ?_
  refine g_iload_n rfl rfl ?_
  refine g_iload_n rfl rfl ?_
  refine g_callVP (M' := m_M_refusal) (d' := 3) (as := [.int a, .int b]) (rest := []) (ci := 11) (o := 39) rfl ml_M_313 v_M_refusal (by decide) rfl (by decide) rfl rfl rfl (Nat.le_of_ble_eq_true rfl) (fun x_ e_ => s_M_refusal G a b u x_ e_) (fun q2972 e2973 b2974 => ?_)
  refine g_ifeq rfl (fun c2975 => ?_) (fun c2975 => ?_)
  · refine g_aload_n rfl rfl ?_
    refine g_getR rfl zf_M_71 rfl rfl ?_
    refine g_bipush (v := (60 : Int32)) rfl zib_60 ?_
    refine g_iload_n rfl rfl ?_
    refine g_imul rfl ?_
    refine g_iload_n rfl rfl ?_
    refine g_iadd rfl ?_
    refine g_lald rfl rfl (fun o2976 => ?_)
    exact g_lret rfl rfl rfl
  · refine g_ldc2 rfl zk_M_322 ?_
    refine g_goto rfl ?_
    exact g_lret rfl rfl rfl
theorem s_M_element (G : ZG) (a : Int32) (b : Int32) (u : ZSt) (x : Int64) (hx : f_M_element a b u = some x) : ZSpec G m_M_element 4 [.ref 39, .int a, .int b] u ((zemL u) x) :=
  ZSpec.go k_M_element (Nat.le_of_ble_eq_true rfl) (w_M_element G a b u) (tgt := (zemL u) x) (by rw [hx]; rfl)
set_option maxRecDepth 100000 in
set_option maxHeartbeats 4000000 in
theorem w_Shelves_hasPlaces (G : ZG) (a : Int32) (b : Int32) (c : Int32) (u : ZSt) : ZGo G m_Shelves_hasPlaces 3 (f_Shelves_hasPlaces a b c u) (zkP u) 0 [(0, .ref 27), (1, .int a), (2, .int b), (3, .int c)] [] u := by
  unfold f_Shelves_hasPlaces
  refine g_iload_n rfl rfl ?_
  refine g_iflt rfl (fun c2977 => ?_) (fun c2977 => ?_)
  · refine g_iconst (v := (0 : Int32)) rfl zic_0 ?_
    exact g_iret rfl (Or.inr ⟨rfl, Or.inl rfl⟩) rfl
  · refine g_iload_n rfl rfl ?_
    refine g_iflt rfl (fun c2978 => ?_) (fun c2978 => ?_)
    · refine g_iconst (v := (0 : Int32)) rfl zic_0 ?_
      exact g_iret rfl (Or.inr ⟨rfl, Or.inl rfl⟩) rfl
    · refine g_iload_n rfl rfl ?_
      refine g_aload_n rfl rfl ?_
      refine g_iload_n rfl rfl ?_
      refine g_callVP (M' := m_Shelves_sizeOf) (d' := 2) (as := [.int a]) (rest := [.int c]) (ci := 7) (o := 27) rfl ml_Shelves_36 v_Shelves_sizeOf (by decide) rfl (by decide) rfl rfl rfl (Nat.le_of_ble_eq_true rfl) (fun x_ e_ => s_Shelves_sizeOf G a u x_ e_) (fun q2979 e2980 b2981 => ?_)
      refine g_icmpgt rfl (fun c2982 => ?_) (fun c2982 => ?_)
      · refine g_iconst (v := (0 : Int32)) rfl zic_0 ?_
        exact g_iret rfl (Or.inr ⟨rfl, Or.inl rfl⟩) rfl
      · refine g_iload_n rfl rfl ?_
        refine g_aload_n rfl rfl ?_
        refine g_iload_n rfl rfl ?_
        refine g_callVP (M' := m_Shelves_sizeOf) (d' := 2) (as := [.int a]) (rest := [.int b]) (ci := 7) (o := 27) rfl ml_Shelves_36 v_Shelves_sizeOf (by decide) rfl (by decide) rfl rfl rfl (Nat.le_of_ble_eq_true rfl) (fun x_ e_ => s_Shelves_sizeOf G a u x_ e_) (fun q2983 e2984 b2985 => ?_)
        refine g_iload_n rfl rfl ?_
        refine g_isub rfl ?_
        refine g_icmpgt rfl (fun c2986 => ?_) (fun c2986 => ?_)
        · refine g_iconst (v := (0 : Int32)) rfl zic_0 ?_
          exact g_iret rfl (Or.inr ⟨rfl, Or.inl rfl⟩) rfl
        · refine g_iconst (v := (1 : Int32)) rfl zic_1 ?_
          refine g_goto rfl ?_
          exact g_iret rfl (Or.inr ⟨rfl, Or.inr rfl⟩) rfl
theorem s_Shelves_hasPlaces (G : ZG) (a : Int32) (b : Int32) (c : Int32) (u : ZSt) (x : Int32) (hx : f_Shelves_hasPlaces a b c u = some x) : ZSpec G m_Shelves_hasPlaces 3 [.ref 27, .int a, .int b, .int c] u ((zemP u) x) :=
  ZSpec.go k_Shelves_hasPlaces (Nat.le_of_ble_eq_true rfl) (w_Shelves_hasPlaces G a b c u) (tgt := (zemP u) x) (by rw [hx]; rfl)
set_option maxRecDepth 100000 in
set_option maxHeartbeats 4000000 in
theorem w_Shelves_copy (G : ZG) (a : Int32) (b : Int32) (c : Int32) (e : Int32) (f : Int32) (u : ZSt) : ZGo G m_Shelves_copy 4 (f_Shelves_copy a b c e f u) zkV 0 [(0, .ref 27), (1, .int a), (2, .int b), (3, .int c), (4, .int e), (5, .int f)] [] u := by
  unfold f_Shelves_copy
  refine g_aload_n rfl rfl ?_
  refine g_iload_n rfl rfl ?_
  refine g_iload_n rfl rfl ?_
  refine g_iload rfl rfl ?_
  refine g_callVP (M' := m_Shelves_hasPlaces) (d' := 3) (as := [.int a, .int b, .int f]) (rest := []) (ci := 7) (o := 27) rfl ml_Shelves_44 v_Shelves_hasPlaces (by decide) rfl (by decide) rfl rfl rfl (Nat.le_of_ble_eq_true rfl) (fun x_ e_ => s_Shelves_hasPlaces G a b f u x_ e_) (fun q2987 e2988 b2989 => ?_)
  refine g_ifeq rfl (fun c2990 => ?_) (fun c2990 => ?_)
  · exact g_vret rfl rfl rfl
  · refine g_aload_n rfl rfl ?_
    refine g_iload_n rfl rfl ?_
    refine g_iload rfl rfl ?_
    refine g_iload rfl rfl ?_
    refine g_callVP (M' := m_Shelves_hasPlaces) (d' := 3) (as := [.int c, .int e, .int f]) (rest := []) (ci := 7) (o := 27) rfl ml_Shelves_44 v_Shelves_hasPlaces (by decide) rfl (by decide) rfl rfl rfl (Nat.le_of_ble_eq_true rfl) (fun x_ e_ => s_Shelves_hasPlaces G c e f u x_ e_) (fun q2991 e2992 b2993 => ?_)
    refine g_ifeq rfl (fun c2994 => ?_) (fun c2994 => ?_)
    · exact g_vret rfl rfl rfl
    · refine g_aload_n rfl rfl ?_
      refine g_getR rfl zf_Shelves_21 rfl rfl ?_
      refine g_bipush (v := (60 : Int32)) rfl zib_60 ?_
      refine g_iload_n rfl rfl ?_
      refine g_imul rfl ?_
      refine g_iload_n rfl rfl ?_
      refine g_iadd rfl ?_
      refine g_aload_n rfl rfl ?_
      refine g_getR rfl zf_Shelves_21 rfl rfl ?_
      refine g_bipush (v := (60 : Int32)) rfl zib_60 ?_
      refine g_iload_n rfl rfl ?_
      refine g_imul rfl ?_
      refine g_iload rfl rfl ?_
      refine g_iadd rfl ?_
      refine g_iload rfl rfl ?_
      refine g_copyL rfl ml_Shelves_48 rfl rfl (by decide) (fun o2995 => ?_)
      exact g_vret rfl rfl rfl
theorem s_Shelves_copy (G : ZG) (a : Int32) (b : Int32) (c : Int32) (e : Int32) (f : Int32) (u : ZSt) (x : ZSt) (hx : f_Shelves_copy a b c e f u = some x) : ZSpec G m_Shelves_copy 4 [.ref 27, .int a, .int b, .int c, .int e, .int f] u (zemV x) :=
  ZSpec.go k_Shelves_copy (Nat.le_of_ble_eq_true rfl) (w_Shelves_copy G a b c e f u) (tgt := zemV x) (by rw [hx]; rfl)
set_option maxRecDepth 100000 in
set_option maxHeartbeats 4000000 in
theorem w_X_shift (G : ZG) (a : Int32) (b : Int32) (c : Int32) (e : Int32) (f : Int32) (u : ZSt) : ZGo G m_X_shift 5 (f_X_shift a b c e f u) zkI 0 [(0, .ref 0), (1, .int a), (2, .int b), (3, .int c), (4, .int e), (5, .int f)] [] u := by
  unfold f_X_shift
  refine g_aload_n rfl rfl ?_
  refine g_getR rfl zf_X_60 rfl rfl ?_
  refine g_iload_n rfl rfl ?_
  refine g_callVP (M' := m_Shelves_isShelf) (d' := 1) (as := [.int a]) (rest := []) (ci := 7) (o := 27) rfl ml_X_95 v_Shelves_isShelf (by decide) rfl (by decide) rfl rfl rfl (Nat.le_of_ble_eq_true rfl) (fun x_ e_ => s_Shelves_isShelf G a u x_ e_) (fun q2996 e2997 b2998 => ?_)
  refine g_ifeq rfl (fun c2999 => ?_) (fun c2999 => ?_)
  · refine g_iconst (v := (-1 : Int32)) rfl zic_m1 ?_
    exact g_iret rfl (Or.inl rfl) rfl
  · refine g_aload_n rfl rfl ?_
    refine g_getR rfl zf_X_60 rfl rfl ?_
    refine g_iload_n rfl rfl ?_
    refine g_callVP (M' := m_Shelves_isShelf) (d' := 1) (as := [.int c]) (rest := []) (ci := 7) (o := 27) rfl ml_X_95 v_Shelves_isShelf (by decide) rfl (by decide) rfl rfl rfl (Nat.le_of_ble_eq_true rfl) (fun x_ e_ => s_Shelves_isShelf G c u x_ e_) (fun q3000 e3001 b3002 => ?_)
    refine g_ifne rfl (fun c3003 => ?_) (fun c3003 => ?_)
    · refine g_aload_n rfl rfl ?_
      refine g_getR rfl zf_X_60 rfl rfl ?_
      refine g_iload_n rfl rfl ?_
      refine g_callVP (M' := m_Shelves_held) (d' := 2) (as := [.int a]) (rest := []) (ci := 7) (o := 27) rfl ml_X_98 v_Shelves_held (by decide) rfl (by decide) rfl rfl rfl (Nat.le_of_ble_eq_true rfl) (fun x_ e_ => s_Shelves_held G a u x_ e_) (fun q3004 e3005 b3006 => ?_)
      refine g_istore (lv' := [(0, .ref 0), (1, .int a), (2, .int b), (3, .int c), (4, .int e), (5, .int f), (6, .int q3004)]) rfl (Nat.le_of_ble_eq_true rfl) rfl rfl ?_
      refine g_aload_n rfl rfl ?_
      refine g_getR rfl zf_X_60 rfl rfl ?_
      refine g_iload_n rfl rfl ?_
      refine g_callVP (M' := m_Shelves_held) (d' := 2) (as := [.int c]) (rest := []) (ci := 7) (o := 27) rfl ml_X_98 v_Shelves_held (by decide) rfl (by decide) rfl rfl rfl (Nat.le_of_ble_eq_true rfl) (fun x_ e_ => s_Shelves_held G c u x_ e_) (fun q3007 e3008 b3009 => ?_)
      refine g_istore (lv' := [(0, .ref 0), (1, .int a), (2, .int b), (3, .int c), (4, .int e), (5, .int f), (6, .int q3004), (7, .int q3007)]) rfl (Nat.le_of_ble_eq_true rfl) rfl rfl ?_
      refine g_iload rfl rfl ?_
      refine g_iconst (v := (-1 : Int32)) rfl zic_m1 ?_
      refine g_icmpeq rfl (fun c3010 => ?_) (fun c3010 => ?_)
      · refine g_bipush (v := (-11 : Int32)) rfl zib_m11 ?_
        exact g_iret rfl (Or.inl rfl) rfl
      · refine g_iload rfl rfl ?_
        refine g_iconst (v := (-1 : Int32)) rfl zic_m1 ?_
        refine g_icmpne rfl (fun c3011 => ?_) (fun c3011 => ?_)
        · refine g_iload rfl rfl ?_
          refine g_callSP (M' := m_Shelves_isSort) (d' := 1) (as := [.int q3004]) (rest := []) rfl ml_X_312 v_Shelves_isSort (by decide) rfl rfl (Nat.le_of_ble_eq_true rfl) (fun x_ e_ => s_Shelves_isSort G q3004 u x_ e_) (fun q3012 e3013 b3014 => ?_)
          refine g_ifeq rfl (fun c3015 => ?_) (fun c3015 => ?_)
          · refine g_bipush (v := (-12 : Int32)) rfl zib_m12 ?_
            exact g_iret rfl (Or.inl rfl) rfl
          · refine g_iload rfl rfl ?_
            refine g_iload rfl rfl ?_
            refine g_icmpeq rfl (fun c3016 => ?_) (fun c3016 => ?_)
            · refine g_aload_n rfl rfl ?_
              refine g_getR rfl zf_X_60 rfl rfl ?_
              refine g_iload_n rfl rfl ?_
              refine g_iload_n rfl rfl ?_
              refine g_iload rfl rfl ?_
              refine g_callVP (M' := m_Shelves_hasPlaces) (d' := 3) (as := [.int a, .int b, .int f]) (rest := []) (ci := 7) (o := 27) rfl ml_X_328 v_Shelves_hasPlaces (by decide) rfl (by decide) rfl rfl rfl (Nat.le_of_ble_eq_true rfl) (fun x_ e_ => s_Shelves_hasPlaces G a b f u x_ e_) (fun q3017 e3018 b3019 => ?_)
              refine g_ifeq rfl (fun c3020 => ?_) (fun c3020 => ?_)
              · refine g_bipush (v := (-13 : Int32)) rfl zib_m13 ?_
                exact g_iret rfl (Or.inl rfl) rfl
              · refine g_aload_n rfl rfl ?_
                refine g_getR rfl zf_X_60 rfl rfl ?_
                refine g_iload_n rfl rfl ?_
                refine g_iload rfl rfl ?_
                refine g_iload rfl rfl ?_
                refine g_callVP (M' := m_Shelves_hasPlaces) (d' := 3) (as := [.int c, .int e, .int f]) (rest := []) (ci := 7) (o := 27) rfl ml_X_328 v_Shelves_hasPlaces (by decide) rfl (by decide) rfl rfl rfl (Nat.le_of_ble_eq_true rfl) (fun x_ e_ => s_Shelves_hasPlaces G c e f u x_ e_) (fun q3021 e3022 b3023 => ?_)
                refine g_ifne rfl (fun c3024 => ?_) (fun c3024 => ?_)
                · refine g_aload_n rfl rfl ?_
                  refine g_getR rfl zf_X_60 rfl rfl ?_
                  refine g_iload_n rfl rfl ?_
                  refine g_iload_n rfl rfl ?_
                  refine g_iload_n rfl rfl ?_
                  refine g_iload rfl rfl ?_
                  refine g_iload rfl rfl ?_
                  refine g_callVV (M' := m_Shelves_copy) (d' := 4) (as := [.int a, .int b, .int c, .int e, .int f]) (rest := []) (ci := 7) (o := 27) rfl ml_X_331 v_Shelves_copy (by decide) rfl (by decide) rfl rfl rfl (Nat.le_of_ble_eq_true rfl) (fun x_ e_ => s_Shelves_copy G a b c e f u x_ e_) (fun q3025 e3026 b3027 => ?_)
                  refine g_iload rfl rfl ?_
                  exact g_iret rfl (Or.inl rfl) rfl
                · refine g_bipush (v := (-13 : Int32)) rfl zib_m13 ?_
                  exact g_iret rfl (Or.inl rfl) rfl
            · refine g_bipush (v := (-12 : Int32)) rfl zib_m12 ?_
              exact g_iret rfl (Or.inl rfl) rfl
        · refine g_bipush (v := (-11 : Int32)) rfl zib_m11 ?_
          exact g_iret rfl (Or.inl rfl) rfl
    · refine g_iconst (v := (-1 : Int32)) rfl zic_m1 ?_
      exact g_iret rfl (Or.inl rfl) rfl
theorem s_X_shift (G : ZG) (a : Int32) (b : Int32) (c : Int32) (e : Int32) (f : Int32) (u : ZSt) (x : Int32 × ZSt) (hx : f_X_shift a b c e f u = some x) : ZSpec G m_X_shift 5 [.ref 0, .int a, .int b, .int c, .int e, .int f] u (zemI x) :=
  ZSpec.go k_X_shift (Nat.le_of_ble_eq_true rfl) (w_X_shift G a b c e f u) (tgt := zemI x) (by rw [hx]; rfl)
set_option maxRecDepth 100000 in
set_option maxHeartbeats 4000000 in
theorem wb_M_shift_63 (G : ZG) (l1 : Int32) (l2 : Int32) (l3 : Int32) (l4 : Int32) (l5 : Int32) (l6 : Int32) (u : ZSt) (K : ((Int32 × ZSt) ⊕ (Int32 × ZSt)) → Option (Value × ZSt)) (hb : ∀ (l6 : Int32) (u : ZSt), ZGo G m_M_shift 3 (K (.inl (l6, u))) some 63 [(0, .ref 39), (1, .int l1), (2, .int l2), (3, .int l3), (4, .int l4), (5, .int l5), (6, .int l6)] [] u) (hx : ∀ (l6 : Int32) (u : ZSt), ZGo G m_M_shift 3 (K (.inr (l6, u))) some 82 [(0, .ref 39), (3, .int l3), (4, .int l4), (5, .int l5)] [] u) : ZGo G m_M_shift 3 (b_M_shift_63 l1 l2 l3 l4 l5 l6 u) K 63 [(0, .ref 39), (1, .int l1), (2, .int l2), (3, .int l3), (4, .int l4), (5, .int l5), (6, .int l6)] [] u := by
  unfold b_M_shift_63
  refine g_iload rfl rfl ?_
  refine g_iload rfl rfl ?_
  refine g_icmpge rfl (fun c3045 => ?_) (fun c3045 => ?_)
  · exact zgo_sub (zsubk [0, 3, 4, 5] rfl) (zgo_leaf (hx l6 u))
  · refine g_aload_n rfl rfl ?_
    refine g_getR rfl zf_M_75 rfl rfl ?_
    refine g_iload rfl rfl ?_
    refine g_aload_n rfl rfl ?_
    refine g_getR rfl zf_M_71 rfl rfl ?_
    refine g_bipush (v := (60 : Int32)) rfl zib_60 ?_
    refine g_iload_n rfl rfl ?_
    refine g_imul rfl ?_
    refine g_iload_n rfl rfl ?_
    refine g_iadd rfl ?_
    refine g_iload rfl rfl ?_
    refine g_iadd rfl ?_
    refine g_lald rfl rfl (fun o3047 => ?_)
    refine g_last rfl rfl (fun o3046 => ?_)
    refine g_iinc (v := (1 : Int32)) (lv' := [(0, .ref 39), (1, .int l1), (2, .int l2), (3, .int l3), (4, .int l4), (5, .int l5), (6, .int (l6 + (1 : Int32)))]) rfl rfl zic_1 (Nat.le_of_ble_eq_true rfl) rfl rfl ?_
    refine g_goto rfl ?_
    exact zgo_sub (zsubk [0, 1, 2, 3, 4, 5, 6] rfl) (zgo_leaf (hb (l6 + (1 : Int32)) (zl u 61 l6.toNatClampNeg (u.2.2 60 ((((60 : Int32) * l1) + l2) + l6).toNatClampNeg))))
set_option maxRecDepth 100000 in
set_option maxHeartbeats 4000000 in
theorem wb_M_shift_84 (G : ZG) (l3 : Int32) (l4 : Int32) (l5 : Int32) (l6 : Int32) (u : ZSt) (K : ((Int32 × ZSt) ⊕ (Int32 × ZSt)) → Option (Value × ZSt)) (hb : ∀ (l6 : Int32) (u : ZSt), ZGo G m_M_shift 3 (K (.inl (l6, u))) some 84 [(0, .ref 39), (3, .int l3), (4, .int l4), (5, .int l5), (6, .int l6)] [] u) (hx : ∀ (l6 : Int32) (u : ZSt), ZGo G m_M_shift 3 (K (.inr (l6, u))) some 103 [(5, .int l5)] [] u) : ZGo G m_M_shift 3 (b_M_shift_84 l3 l4 l5 l6 u) K 84 [(0, .ref 39), (3, .int l3), (4, .int l4), (5, .int l5), (6, .int l6)] [] u := by
  unfold b_M_shift_84
  refine g_iload rfl rfl ?_
  refine g_iload rfl rfl ?_
  refine g_icmpge rfl (fun c3048 => ?_) (fun c3048 => ?_)
  · exact zgo_sub (zsubk [3] rfl) (zgo_leaf (hx l6 u))
  · refine g_aload_n rfl rfl ?_
    refine g_getR rfl zf_M_71 rfl rfl ?_
    refine g_bipush (v := (60 : Int32)) rfl zib_60 ?_
    refine g_iload_n rfl rfl ?_
    refine g_imul rfl ?_
    refine g_iload rfl rfl ?_
    refine g_iadd rfl ?_
    refine g_iload rfl rfl ?_
    refine g_iadd rfl ?_
    refine g_aload_n rfl rfl ?_
    refine g_getR rfl zf_M_75 rfl rfl ?_
    refine g_iload rfl rfl ?_
    refine g_lald rfl rfl (fun o3050 => ?_)
    refine g_last rfl rfl (fun o3049 => ?_)
    refine g_iinc (v := (1 : Int32)) (lv' := [(0, .ref 39), (3, .int l3), (4, .int l4), (5, .int l5), (6, .int (l6 + (1 : Int32)))]) rfl rfl zic_1 (Nat.le_of_ble_eq_true rfl) rfl rfl ?_
    refine g_goto rfl ?_
    exact zgo_sub (zsubk [0, 1, 2, 3, 4] rfl) (zgo_leaf (hb (l6 + (1 : Int32)) (zl u 60 (((((60 : Int32) * l3) + l4) + l6).toNatClampNeg) (u.2.2 61 l6.toNatClampNeg))))
set_option maxRecDepth 100000 in
set_option maxHeartbeats 4000000 in
theorem wa_M_shift_84 (G : ZG) (l5 : Int32) (u : ZSt) : ZGo G m_M_shift 3 (a_M_shift_84 l5 u) zkI 103 [(5, .int l5)] [] u := by
  unfold a_M_shift_84
  refine g_iload rfl rfl ?_
  exact g_iret rfl (Or.inl rfl) rfl
set_option maxRecDepth 100000 in
set_option maxHeartbeats 4000000 in
theorem wa_M_shift_63 (G : ZG) (l3 : Int32) (l4 : Int32) (l5 : Int32) (u : ZSt) : ZGo G m_M_shift 3 (a_M_shift_63 l3 l4 l5 u) zkI 82 [(0, .ref 39), (3, .int l3), (4, .int l4), (5, .int l5)] [] u := by
  unfold a_M_shift_63
  refine g_iconst (v := (0 : Int32)) rfl zic_0 ?_
  refine g_istore (lv' := [(0, .ref 39), (3, .int l3), (4, .int l4), (5, .int l5), (6, .int (0 : Int32))]) rfl (Nat.le_of_ble_eq_true rfl) rfl rfl ?_
  refine zgo_sub (lv' := [(0, .ref 39), (3, .int l3), (4, .int l4), (5, .int l5), (6, .int (0 : Int32))]) (zsubk [0, 1, 2, 3, 4] rfl) ?_
  refine zgo_loop (σ := Int32 × ZSt) (lvf := fun s => [(0, .ref 39), (3, .int l3), (4, .int l4), (5, .int l5), (6, .int s.1)]) (uf := (fun s => s.2)) ?_ zfu _
  intro s K' ih he
  refine wb_M_shift_84 G l3 l4 l5 s.1 s.2 K' ?_ ?_
  · intro c0 v
    exact ih (c0, v)
  · intro c0 v
    rw [he]
    exact zgo_unleaf (wa_M_shift_84 G l5 v)
set_option maxRecDepth 100000 in
set_option maxHeartbeats 4000000 in
theorem w_M_shift (G : ZG) (a : Int32) (b : Int32) (c : Int32) (e : Int32) (f : Int32) (u : ZSt) : ZGo G m_M_shift 3 (f_M_shift a b c e f u) zkI 0 [(0, .ref 39), (1, .int a), (2, .int b), (3, .int c), (4, .int e), (5, .int f)] [] u := by
  unfold f_M_shift
  refine g_iload_n rfl rfl ?_
  refine g_callSP (M' := m_M_isShelf) (d' := 2) (as := [.int a]) (rest := []) rfl ml_M_113 v_M_isShelf (by decide) rfl rfl (Nat.le_of_ble_eq_true rfl) (fun x_ e_ => s_M_isShelf G a u x_ e_) (fun q3028 e3029 b3030 => ?_)
  refine g_ifeq rfl (fun c3031 => ?_) (fun c3031 => ?_)
  · refine g_iconst (v := (-1 : Int32)) rfl zic_m1 ?_
    exact g_iret rfl (Or.inl rfl) rfl
  · refine g_iload_n rfl rfl ?_
    refine g_callSP (M' := m_M_isShelf) (d' := 2) (as := [.int c]) (rest := []) rfl ml_M_113 v_M_isShelf (by decide) rfl rfl (Nat.le_of_ble_eq_true rfl) (fun x_ e_ => s_M_isShelf G c u x_ e_) (fun q3032 e3033 b3034 => ?_)
    refine g_ifne rfl (fun c3035 => ?_) (fun c3035 => ?_)
    · refine g_aload_n rfl rfl ?_
      refine g_getR rfl zf_M_65 rfl rfl ?_
      refine g_iload_n rfl rfl ?_
      refine g_iald rfl rfl (fun o3057 => ?_)
      refine g_iflt rfl (fun c3036 => ?_) (fun c3036 => ?_)
      · refine g_bipush (v := (-11 : Int32)) rfl zib_m11 ?_
        exact g_iret rfl (Or.inl rfl) rfl
      · refine g_aload_n rfl rfl ?_
        refine g_getR rfl zf_M_65 rfl rfl ?_
        refine g_iload_n rfl rfl ?_
        refine g_iald rfl rfl (fun o3056 => ?_)
        refine g_ifge rfl (fun c3037 => ?_) (fun c3037 => ?_)
        · refine g_aload_n rfl rfl ?_
          refine g_getR rfl zf_M_65 rfl rfl ?_
          refine g_iload_n rfl rfl ?_
          refine g_iald rfl rfl (fun o3055 => ?_)
          refine g_bipush (v := (50 : Int32)) rfl zib_50 ?_
          refine g_icmplt rfl (fun c3038 => ?_) (fun c3038 => ?_)
          · refine g_bipush (v := (-12 : Int32)) rfl zib_m12 ?_
            exact g_iret rfl (Or.inl rfl) rfl
          · refine g_aload_n rfl rfl ?_
            refine g_getR rfl zf_M_65 rfl rfl ?_
            refine g_iload_n rfl rfl ?_
            refine g_iald rfl rfl (fun o3054 => ?_)
            refine g_aload_n rfl rfl ?_
            refine g_getR rfl zf_M_65 rfl rfl ?_
            refine g_iload_n rfl rfl ?_
            refine g_iald rfl rfl (fun o3053 => ?_)
            refine g_icmpeq rfl (fun c3039 => ?_) (fun c3039 => ?_)
            · refine g_iload rfl rfl ?_
              refine g_iflt rfl (fun c3040 => ?_) (fun c3040 => ?_)
              · refine g_bipush (v := (-13 : Int32)) rfl zib_m13 ?_
                exact g_iret rfl (Or.inl rfl) rfl
              · refine g_iload_n rfl rfl ?_
                refine g_iflt rfl (fun c3041 => ?_) (fun c3041 => ?_)
                · refine g_bipush (v := (-13 : Int32)) rfl zib_m13 ?_
                  exact g_iret rfl (Or.inl rfl) rfl
                · refine g_iload rfl rfl ?_
                  refine g_iflt rfl (fun c3042 => ?_) (fun c3042 => ?_)
                  · refine g_bipush (v := (-13 : Int32)) rfl zib_m13 ?_
                    exact g_iret rfl (Or.inl rfl) rfl
                  · refine g_iload_n rfl rfl ?_
                    refine g_aload_n rfl rfl ?_
                    refine g_getR rfl zf_M_68 rfl rfl ?_
                    refine g_iload_n rfl rfl ?_
                    refine g_iald rfl rfl (fun o3052 => ?_)
                    refine g_iload rfl rfl ?_
                    refine g_isub rfl ?_
                    refine g_icmpgt rfl (fun c3043 => ?_) (fun c3043 => ?_)
                    · refine g_bipush (v := (-13 : Int32)) rfl zib_m13 ?_
                      exact g_iret rfl (Or.inl rfl) rfl
                    · refine g_iload rfl rfl ?_
                      refine g_aload_n rfl rfl ?_
                      refine g_getR rfl zf_M_68 rfl rfl ?_
                      refine g_iload_n rfl rfl ?_
                      refine g_iald rfl rfl (fun o3051 => ?_)
                      refine g_iload rfl rfl ?_
                      refine g_isub rfl ?_
                      refine g_icmple rfl (fun c3044 => ?_) (fun c3044 => ?_)
                      · refine g_iconst (v := (0 : Int32)) rfl zic_0 ?_
                        refine g_istore (lv' := [(0, .ref 39), (1, .int a), (2, .int b), (3, .int c), (4, .int e), (5, .int f), (6, .int (0 : Int32))]) rfl (Nat.le_of_ble_eq_true rfl) rfl rfl ?_
                        refine zgo_sub (lv' := [(0, .ref 39), (1, .int a), (2, .int b), (3, .int c), (4, .int e), (5, .int f), (6, .int (0 : Int32))]) (zsubk [0, 1, 2, 3, 4, 5, 6] rfl) ?_
                        refine zgo_loop (σ := Int32 × ZSt) (lvf := fun s => [(0, .ref 39), (1, .int a), (2, .int b), (3, .int c), (4, .int e), (5, .int f), (6, .int s.1)]) (uf := (fun s => s.2)) ?_ zfu _
                        intro s K' ih he
                        refine wb_M_shift_63 G a b c e f s.1 s.2 K' ?_ ?_
                        · intro c0 v
                          exact ih (c0, v)
                        · intro c0 v
                          rw [he]
                          exact zgo_unleaf (wa_M_shift_63 G c e f v)
                      · refine g_bipush (v := (-13 : Int32)) rfl zib_m13 ?_
                        exact g_iret rfl (Or.inl rfl) rfl
            · refine g_bipush (v := (-12 : Int32)) rfl zib_m12 ?_
              exact g_iret rfl (Or.inl rfl) rfl
        · refine g_bipush (v := (-11 : Int32)) rfl zib_m11 ?_
          exact g_iret rfl (Or.inl rfl) rfl
    · refine g_iconst (v := (-1 : Int32)) rfl zic_m1 ?_
      exact g_iret rfl (Or.inl rfl) rfl
theorem s_M_shift (G : ZG) (a : Int32) (b : Int32) (c : Int32) (e : Int32) (f : Int32) (u : ZSt) (x : Int32 × ZSt) (hx : f_M_shift a b c e f u = some x) : ZSpec G m_M_shift 3 [.ref 39, .int a, .int b, .int c, .int e, .int f] u (zemI x) :=
  ZSpec.go k_M_shift (Nat.le_of_ble_eq_true rfl) (w_M_shift G a b c e f u) (tgt := zemI x) (by rw [hx]; rfl)
set_option maxRecDepth 100000 in
set_option maxHeartbeats 4000000 in
theorem w_Shelves_voterOn (G : ZG) (a : Int32) (u : ZSt) : ZGo G m_Shelves_voterOn 2 (f_Shelves_voterOn a u) (zkP u) 0 [(0, .ref 27), (1, .int a)] [] u := by
  unfold f_Shelves_voterOn
  refine g_aload_n rfl rfl ?_
  refine g_iload_n rfl rfl ?_
  refine g_callVP (M' := m_Shelves_isShelf) (d' := 1) (as := [.int a]) (rest := []) (ci := 7) (o := 27) rfl ml_Shelves_25 v_Shelves_isShelf (by decide) rfl (by decide) rfl rfl rfl (Nat.le_of_ble_eq_true rfl) (fun x_ e_ => s_Shelves_isShelf G a u x_ e_) (fun q3058 e3059 b3060 => ?_)
  refine g_ifeq rfl (fun c3061 => ?_) (fun c3061 => ?_)
  · refine g_iconst (v := (-1 : Int32)) rfl zic_m1 ?_
    exact g_iret rfl (Or.inl rfl) rfl
  · refine g_aload_n rfl rfl ?_
    refine g_getR rfl zf_Shelves_18 rfl rfl ?_
    refine g_iload_n rfl rfl ?_
    refine g_iald rfl rfl (fun o3062 => ?_)
    refine g_goto rfl ?_
    exact g_iret rfl (Or.inl rfl) rfl
theorem s_Shelves_voterOn (G : ZG) (a : Int32) (u : ZSt) (x : Int32) (hx : f_Shelves_voterOn a u = some x) : ZSpec G m_Shelves_voterOn 2 [.ref 27, .int a] u ((zemP u) x) :=
  ZSpec.go k_Shelves_voterOn (Nat.le_of_ble_eq_true rfl) (w_Shelves_voterOn G a u) (tgt := (zemP u) x) (by rw [hx]; rfl)
set_option maxRecDepth 100000 in
set_option maxHeartbeats 4000000 in
theorem wb_Voters_isUnder_4 (G : ZG) (l1 : Int32) (l2 : Int32) (l3 : Int32) (u : ZSt) (K : ((Int32 × Int32) ⊕ ((Int32 × Int32) ⊕ (Int32))) → Option (Value × ZSt)) (hb : ∀ (l2 : Int32) (l3 : Int32), ZGo G m_Voters_isUnder 2 (K (.inl (l2, l3))) some 4 [(1, .int l1), (2, .int l2), (3, .int l3)] [] u) (hx : ∀ (l2 : Int32) (l3 : Int32), ZGo G m_Voters_isUnder 2 (K (.inr (.inl (l2, l3)))) some 20 [] [] u) (hr : ∀ x, K (.inr (.inr x)) = some ((zemP u) x)) : ZGo G m_Voters_isUnder 2 (b_Voters_isUnder_4 l1 l2 l3 ) K 4 [(1, .int l1), (2, .int l2), (3, .int l3)] [] u := by
  unfold b_Voters_isUnder_4
  refine g_iload_n rfl rfl ?_
  refine g_bipush (v := (8 : Int32)) rfl zib_8 ?_
  refine g_icmpge rfl (fun c3063 => ?_) (fun c3063 => ?_)
  · exact zgo_sub (zsubk [] rfl) (zgo_leaf (hx l2 l3))
  · refine g_iload_n rfl rfl ?_
    refine g_callSP (M' := m_Voters_isKind) (d' := 1) (as := [.int l2]) (rest := []) rfl ml_Voters_18 v_Voters_isKind (by decide) rfl rfl (Nat.le_of_ble_eq_true rfl) (fun x_ e_ => s_Voters_isKind G l2 u x_ e_) (fun q3064 e3065 b3066 => ?_)
    refine g_ifeq rfl (fun c3067 => ?_) (fun c3067 => ?_)
    · exact zgo_sub (zsubk [] rfl) (zgo_leaf (hx l2 l3))
    · refine g_iload_n rfl rfl ?_
      refine g_iload_n rfl rfl ?_
      refine g_icmpne rfl (fun c3068 => ?_) (fun c3068 => ?_)
      · refine g_iload_n rfl rfl ?_
        refine g_callSP (M' := m_Voters_aboveOf) (d' := 1) (as := [.int l2]) (rest := []) rfl ml_Voters_22 v_Voters_aboveOf (by decide) rfl rfl (Nat.le_of_ble_eq_true rfl) (fun x_ e_ => s_Voters_aboveOf G l2 u x_ e_) (fun q3069 e3070 b3071 => ?_)
        refine g_istore_n (lv' := [(1, .int l1), (2, .int q3069), (3, .int l3)]) rfl (Nat.le_of_ble_eq_true rfl) rfl rfl ?_
        refine g_iinc (v := (1 : Int32)) (lv' := [(1, .int l1), (2, .int q3069), (3, .int (l3 + (1 : Int32)))]) rfl rfl zic_1 (Nat.le_of_ble_eq_true rfl) rfl rfl ?_
        refine g_goto rfl ?_
        exact zgo_sub (zsubk [0, 1, 2] rfl) (zgo_leaf (hb q3069 (l3 + (1 : Int32))))
      · refine g_iconst (v := (1 : Int32)) rfl zic_1 ?_
        exact g_iret rfl (Or.inr ⟨rfl, Or.inr rfl⟩) (hr _)
set_option maxRecDepth 100000 in
set_option maxHeartbeats 4000000 in
theorem wa_Voters_isUnder_4 (G : ZG) (u : ZSt) : ZGo G m_Voters_isUnder 2 (a_Voters_isUnder_4 ) (zkP u) 20 [] [] u := by
  unfold a_Voters_isUnder_4
  refine g_iconst (v := (0 : Int32)) rfl zic_0 ?_
  exact g_iret rfl (Or.inr ⟨rfl, Or.inl rfl⟩) rfl
set_option maxRecDepth 100000 in
set_option maxHeartbeats 4000000 in
theorem w_Voters_isUnder (G : ZG) (a : Int32) (b : Int32) (u : ZSt) : ZGo G m_Voters_isUnder 2 (f_Voters_isUnder a b) (zkP u) 0 [(0, .int a), (1, .int b)] [] u := by
  unfold f_Voters_isUnder
  refine g_iload_n rfl rfl ?_
  refine g_istore_n (lv' := [(0, .int a), (1, .int b), (2, .int a)]) rfl (Nat.le_of_ble_eq_true rfl) rfl rfl ?_
  refine g_iconst (v := (0 : Int32)) rfl zic_0 ?_
  refine g_istore_n (lv' := [(0, .int a), (1, .int b), (2, .int a), (3, .int (0 : Int32))]) rfl (Nat.le_of_ble_eq_true rfl) rfl rfl ?_
  refine zgo_sub (lv' := [(1, .int b), (2, .int a), (3, .int (0 : Int32))]) (zsubk [1, 2, 3] rfl) ?_
  refine zgo_loop (σ := Int32 × Int32) (lvf := fun s => [(1, .int b), (2, .int s.1), (3, .int s.2)]) (uf := (fun _ => u)) ?_ zfu _
  intro s K' ih he
  refine wb_Voters_isUnder_4 G b s.1 s.2 u K' ?_ ?_ ?_
  · intro c0 c1
    exact ih (c0, c1)
  · intro c0 c1
    rw [he]
    exact zgo_unleaf (wa_Voters_isUnder_4 G  u)
  · intro x
    exact (he _).trans rfl
theorem s_Voters_isUnder (G : ZG) (a : Int32) (b : Int32) (u : ZSt) (x : Int32) (hx : f_Voters_isUnder a b = some x) : ZSpec G m_Voters_isUnder 2 [.int a, .int b] u ((zemP u) x) :=
  ZSpec.go k_Voters_isUnder (Nat.le_of_ble_eq_true rfl) (w_Voters_isUnder G a b u) (tgt := (zemP u) x) (by rw [hx]; rfl)
set_option maxRecDepth 100000 in
set_option maxHeartbeats 4000000 in
theorem w_X_taken (G : ZG) (a : Int32) (b : Int32) (u : ZSt) : ZGo G m_X_taken 3 (f_X_taken a b u) (zkP u) 0 [(0, .ref 0), (1, .int a), (2, .int b)] [] u := by
  unfold f_X_taken
  refine g_aload_n rfl rfl ?_
  refine g_getR rfl zf_X_60 rfl rfl ?_
  refine g_iload_n rfl rfl ?_
  refine g_callVP (M' := m_Shelves_isShelf) (d' := 1) (as := [.int a]) (rest := []) (ci := 7) (o := 27) rfl ml_X_95 v_Shelves_isShelf (by decide) rfl (by decide) rfl rfl rfl (Nat.le_of_ble_eq_true rfl) (fun x_ e_ => s_Shelves_isShelf G a u x_ e_) (fun q3072 e3073 b3074 => ?_)
  refine g_ifeq rfl (fun c3075 => ?_) (fun c3075 => ?_)
  · refine g_iconst (v := (-1 : Int32)) rfl zic_m1 ?_
    exact g_iret rfl (Or.inl rfl) rfl
  · refine g_iload_n rfl rfl ?_
    refine g_callSP (M' := m_Voters_isKind) (d' := 1) (as := [.int b]) (rest := []) rfl ml_X_293 v_Voters_isKind (by decide) rfl rfl (Nat.le_of_ble_eq_true rfl) (fun x_ e_ => s_Voters_isKind G b u x_ e_) (fun q3076 e3077 b3078 => ?_)
    refine g_ifne rfl (fun c3079 => ?_) (fun c3079 => ?_)
    · refine g_aload_n rfl rfl ?_
      refine g_getR rfl zf_X_60 rfl rfl ?_
      refine g_iload_n rfl rfl ?_
      refine g_callVP (M' := m_Shelves_held) (d' := 2) (as := [.int a]) (rest := []) (ci := 7) (o := 27) rfl ml_X_98 v_Shelves_held (by decide) rfl (by decide) rfl rfl rfl (Nat.le_of_ble_eq_true rfl) (fun x_ e_ => s_Shelves_held G a u x_ e_) (fun q3080 e3081 b3082 => ?_)
      refine g_iconst (v := (-1 : Int32)) rfl zic_m1 ?_
      refine g_icmpne rfl (fun c3083 => ?_) (fun c3083 => ?_)
      · refine g_aload_n rfl rfl ?_
        refine g_getR rfl zf_X_60 rfl rfl ?_
        refine g_iload_n rfl rfl ?_
        refine g_callVP (M' := m_Shelves_held) (d' := 2) (as := [.int a]) (rest := []) (ci := 7) (o := 27) rfl ml_X_98 v_Shelves_held (by decide) rfl (by decide) rfl rfl rfl (Nat.le_of_ble_eq_true rfl) (fun x_ e_ => s_Shelves_held G a u x_ e_) (fun q3084 e3085 b3086 => ?_)
        refine g_iconst (v := (5 : Int32)) rfl zic_5 ?_
        refine g_icmpeq rfl (fun c3087 => ?_) (fun c3087 => ?_)
        · refine g_aload_n rfl rfl ?_
          refine g_getR rfl zf_X_83 rfl rfl ?_
          refine g_aload_n rfl rfl ?_
          refine g_getR rfl zf_X_60 rfl rfl ?_
          refine g_iload_n rfl rfl ?_
          refine g_callVP (M' := m_Shelves_voterOn) (d' := 2) (as := [.int a]) (rest := [.ref 36]) (ci := 7) (o := 27) rfl ml_X_335 v_Shelves_voterOn (by decide) rfl (by decide) rfl rfl rfl (Nat.le_of_ble_eq_true rfl) (fun x_ e_ => s_Shelves_voterOn G a u x_ e_) (fun q3088 e3089 b3090 => ?_)
          refine g_callVP (M' := m_Voters_kindOf) (d' := 2) (as := [.int q3088]) (rest := []) (ci := 8) (o := 36) rfl ml_X_338 v_Voters_kindOf (by decide) rfl (by decide) rfl rfl rfl (Nat.le_of_ble_eq_true rfl) (fun x_ e_ => s_Voters_kindOf G q3088 u x_ e_) (fun q3091 e3092 b3093 => ?_)
          refine g_istore_n (lv' := [(0, .ref 0), (1, .int a), (2, .int b), (3, .int q3091)]) rfl (Nat.le_of_ble_eq_true rfl) rfl rfl ?_
          refine g_iload_n rfl rfl ?_
          refine g_iload_n rfl rfl ?_
          refine g_callSP (M' := m_Voters_isUnder) (d' := 2) (as := [.int q3091, .int b]) (rest := []) rfl ml_X_341 v_Voters_isUnder (by decide) rfl rfl (Nat.le_of_ble_eq_true rfl) (fun x_ e_ => s_Voters_isUnder G q3091 b u x_ e_) (fun q3094 e3095 b3096 => ?_)
          refine g_ifeq rfl (fun c3097 => ?_) (fun c3097 => ?_)
          · refine g_bipush (v := (-12 : Int32)) rfl zib_m12 ?_
            exact g_iret rfl (Or.inl rfl) rfl
          · refine g_iload_n rfl rfl ?_
            refine g_goto rfl ?_
            exact g_iret rfl (Or.inl rfl) rfl
        · refine g_bipush (v := (-12 : Int32)) rfl zib_m12 ?_
          exact g_iret rfl (Or.inl rfl) rfl
      · refine g_bipush (v := (-11 : Int32)) rfl zib_m11 ?_
        exact g_iret rfl (Or.inl rfl) rfl
    · refine g_iconst (v := (-1 : Int32)) rfl zic_m1 ?_
      exact g_iret rfl (Or.inl rfl) rfl
theorem s_X_taken (G : ZG) (a : Int32) (b : Int32) (u : ZSt) (x : Int32) (hx : f_X_taken a b u = some x) : ZSpec G m_X_taken 3 [.ref 0, .int a, .int b] u ((zemP u) x) :=
  ZSpec.go k_X_taken (Nat.le_of_ble_eq_true rfl) (w_X_taken G a b u) (tgt := (zemP u) x) (by rw [hx]; rfl)
set_option maxRecDepth 100000 in
set_option maxHeartbeats 4000000 in
theorem w_M_kindOf (G : ZG) (a : Int32) (u : ZSt) : ZGo G m_M_kindOf 1 (f_M_kindOf a u) (zkP u) 0 [(0, .ref 39), (1, .int a)] [] u := by
  unfold f_M_kindOf
  refine g_aload_n rfl rfl ?_
  refine g_getR rfl zf_M_59 rfl rfl ?_
  refine g_iload_n rfl rfl ?_
  refine g_iald rfl rfl (fun o3098 => ?_)
  exact g_iret rfl (Or.inl rfl) rfl
theorem s_M_kindOf (G : ZG) (a : Int32) (u : ZSt) (x : Int32) (hx : f_M_kindOf a u = some x) : ZSpec G m_M_kindOf 1 [.ref 39, .int a] u ((zemP u) x) :=
  ZSpec.go k_M_kindOf (Nat.le_of_ble_eq_true rfl) (w_M_kindOf G a u) (tgt := (zemP u) x) (by rw [hx]; rfl)
set_option maxRecDepth 100000 in
set_option maxHeartbeats 4000000 in
theorem w_M_above (G : ZG) (a : Int32) (u : ZSt) : ZGo G m_M_above 1 (f_M_above a) (zkP u) 0 [(0, .int a)] [] u := by
  unfold f_M_above
  refine g_iload_n rfl rfl ?_
  refine g_iconst (v := (3 : Int32)) rfl zic_3 ?_
  refine g_icmpne rfl (fun c3099 => ?_) (fun c3099 => ?_)
  · refine g_iload_n rfl rfl ?_
    refine g_iconst (v := (4 : Int32)) rfl zic_4 ?_
    refine g_icmpne rfl (fun c3100 => ?_) (fun c3100 => ?_)
    · refine g_iload_n rfl rfl ?_
      refine g_iconst (v := (5 : Int32)) rfl zic_5 ?_
      refine g_icmpne rfl (fun c3101 => ?_) (fun c3101 => ?_)
      · refine g_iload_n rfl rfl ?_
        refine g_bipush (v := (7 : Int32)) rfl zib_7 ?_
        refine g_icmpne rfl (fun c3102 => ?_) (fun c3102 => ?_)
        · refine g_iconst (v := (0 : Int32)) rfl zic_0 ?_
          exact g_iret rfl (Or.inl rfl) rfl
        · refine g_iconst (v := (4 : Int32)) rfl zic_4 ?_
          refine g_goto rfl ?_
          exact g_iret rfl (Or.inl rfl) rfl
      · refine g_iconst (v := (3 : Int32)) rfl zic_3 ?_
        refine g_goto rfl ?_
        exact g_iret rfl (Or.inl rfl) rfl
    · refine g_iconst (v := (1 : Int32)) rfl zic_1 ?_
      refine g_goto rfl ?_
      exact g_iret rfl (Or.inl rfl) rfl
  · refine g_iconst (v := (2 : Int32)) rfl zic_2 ?_
    refine g_goto rfl ?_
    exact g_iret rfl (Or.inl rfl) rfl
theorem s_M_above (G : ZG) (a : Int32) (u : ZSt) (x : Int32) (hx : f_M_above a = some x) : ZSpec G m_M_above 1 [.int a] u ((zemP u) x) :=
  ZSpec.go k_M_above (Nat.le_of_ble_eq_true rfl) (w_M_above G a u) (tgt := (zemP u) x) (by rw [hx]; rfl)
set_option maxRecDepth 100000 in
set_option maxHeartbeats 4000000 in
theorem wb_M_taken_33 (G : ZG) (l1 : Int32) (l2 : Int32) (l3 : Int32) (u : ZSt) (K : ((Int32) ⊕ (Int32)) → Option (Value × ZSt)) (hb : ∀ (l3 : Int32), ZGo G m_M_taken 3 (K (.inl l3)) some 33 [(0, .ref 39), (1, .int l1), (2, .int l2), (3, .int l3)] [] u) (hx : ∀ (l3 : Int32), ZGo G m_M_taken 3 (K (.inr l3)) some 42 [(0, .ref 39), (1, .int l1), (2, .int l2), (3, .int l3)] [] u) : ZGo G m_M_taken 3 (b_M_taken_33 l1 l2 l3 u) K 33 [(0, .ref 39), (1, .int l1), (2, .int l2), (3, .int l3)] [] u := by
  unfold b_M_taken_33
  refine g_iload_n rfl rfl ?_
  refine g_iload_n rfl rfl ?_
  refine g_icmpeq rfl (fun c3116 => ?_) (fun c3116 => ?_)
  · exact zgo_sub (zsubk [0, 1, 2, 3] rfl) (zgo_leaf (hx l3))
  · refine g_iload_n rfl rfl ?_
    refine g_ifle rfl (fun c3117 => ?_) (fun c3117 => ?_)
    · exact zgo_sub (zsubk [0, 1, 2, 3] rfl) (zgo_leaf (hx l3))
    · refine g_iload_n rfl rfl ?_
      refine g_callSP (M' := m_M_above) (d' := 1) (as := [.int l3]) (rest := []) rfl ml_M_327 v_M_above (by decide) rfl rfl (Nat.le_of_ble_eq_true rfl) (fun x_ e_ => s_M_above G l3 u x_ e_) (fun q3118 e3119 b3120 => ?_)
      refine g_istore_n (lv' := [(0, .ref 39), (1, .int l1), (2, .int l2), (3, .int q3118)]) rfl (Nat.le_of_ble_eq_true rfl) rfl rfl ?_
      refine g_goto rfl ?_
      exact zgo_sub (zsubk [0, 1, 2, 3] rfl) (zgo_leaf (hb q3118))
set_option maxRecDepth 100000 in
set_option maxHeartbeats 4000000 in
theorem wa_M_taken_33 (G : ZG) (l1 : Int32) (l2 : Int32) (l3 : Int32) (u : ZSt) : ZGo G m_M_taken 3 (a_M_taken_33 l1 l2 l3 u) (zkP u) 42 [(0, .ref 39), (1, .int l1), (2, .int l2), (3, .int l3)] [] u := by
  unfold a_M_taken_33
  refine g_iload_n rfl rfl ?_
  refine g_iload_n rfl rfl ?_
  refine g_icmpne rfl (fun c3121 => ?_) (fun c3121 => ?_)
  · refine g_bipush (v := (-12 : Int32)) rfl zib_m12 ?_
    exact g_iret rfl (Or.inl rfl) rfl
  · refine g_aload_n rfl rfl ?_
    refine g_aload_n rfl rfl ?_
    refine g_getR rfl zf_M_65 rfl rfl ?_
    refine g_iload_n rfl rfl ?_
    refine g_iald rfl rfl (fun o3125 => ?_)
    refine g_callVP (M' := m_M_kindOf) (d' := 1) (as := [.int (u.2.1 58 l1.toNatClampNeg)]) (rest := []) (ci := 11) (o := 39) rfl ml_M_324 v_M_kindOf (by decide) rfl (by decide) rfl rfl rfl (Nat.le_of_ble_eq_true rfl) (fun x_ e_ => s_M_kindOf G (u.2.1 58 l1.toNatClampNeg) u x_ e_) (fun q3122 e3123 b3124 => ?_)
    refine g_goto rfl ?_
    exact g_iret rfl (Or.inl rfl) rfl
set_option maxRecDepth 100000 in
set_option maxHeartbeats 4000000 in
theorem w_M_taken (G : ZG) (a : Int32) (b : Int32) (u : ZSt) : ZGo G m_M_taken 3 (f_M_taken a b u) (zkP u) 0 [(0, .ref 39), (1, .int a), (2, .int b)] [] u := by
  unfold f_M_taken
  refine g_iload_n rfl rfl ?_
  refine g_callSP (M' := m_M_isShelf) (d' := 2) (as := [.int a]) (rest := []) rfl ml_M_113 v_M_isShelf (by decide) rfl rfl (Nat.le_of_ble_eq_true rfl) (fun x_ e_ => s_M_isShelf G a u x_ e_) (fun q3103 e3104 b3105 => ?_)
  refine g_ifeq rfl (fun c3106 => ?_) (fun c3106 => ?_)
  · refine g_iconst (v := (-1 : Int32)) rfl zic_m1 ?_
    exact g_iret rfl (Or.inl rfl) rfl
  · refine g_iload_n rfl rfl ?_
    refine g_i2l rfl ?_
    refine g_lconst (v := (0 : Int64)) rfl rfl ?_
    refine g_ldc2 rfl zk_M_281 ?_
    refine g_callSP (M' := m_M_within) (d' := 1) (as := [.long b.toInt64, .long (0 : Int64), .long (7 : Int64)]) (rest := []) rfl ml_M_97 v_M_within (by decide) rfl rfl (Nat.le_of_ble_eq_true rfl) (fun x_ e_ => s_M_within G b.toInt64 (0 : Int64) (7 : Int64) u x_ e_) (fun q3107 e3108 b3109 => ?_)
    refine g_ifne rfl (fun c3110 => ?_) (fun c3110 => ?_)
    · refine g_aload_n rfl rfl ?_
      refine g_getR rfl zf_M_65 rfl rfl ?_
      refine g_iload_n rfl rfl ?_
      refine g_iald rfl rfl (fun o3128 => ?_)
      refine g_ifge rfl (fun c3111 => ?_) (fun c3111 => ?_)
      · refine g_aload_n rfl rfl ?_
        refine g_getR rfl zf_M_65 rfl rfl ?_
        refine g_iload_n rfl rfl ?_
        refine g_iald rfl rfl (fun o3127 => ?_)
        refine g_bipush (v := (50 : Int32)) rfl zib_50 ?_
        refine g_icmplt rfl (fun c3112 => ?_) (fun c3112 => ?_)
        · refine g_aload_n rfl rfl ?_
          refine g_aload_n rfl rfl ?_
          refine g_getR rfl zf_M_65 rfl rfl ?_
          refine g_iload_n rfl rfl ?_
          refine g_iald rfl rfl (fun o3126 => ?_)
          refine g_callVP (M' := m_M_kindOf) (d' := 1) (as := [.int (u.2.1 58 a.toNatClampNeg)]) (rest := []) (ci := 11) (o := 39) rfl ml_M_324 v_M_kindOf (by decide) rfl (by decide) rfl rfl rfl (Nat.le_of_ble_eq_true rfl) (fun x_ e_ => s_M_kindOf G (u.2.1 58 a.toNatClampNeg) u x_ e_) (fun q3113 e3114 b3115 => ?_)
          refine g_istore_n (lv' := [(0, .ref 39), (1, .int a), (2, .int b), (3, .int q3113)]) rfl (Nat.le_of_ble_eq_true rfl) rfl rfl ?_
          refine zgo_sub (lv' := [(0, .ref 39), (1, .int a), (2, .int b), (3, .int q3113)]) (zsubk [0, 1, 2, 3] rfl) ?_
          refine zgo_loop (σ := Int32) (lvf := fun s => [(0, .ref 39), (1, .int a), (2, .int b), (3, .int s)]) (uf := (fun _ => u)) ?_ zfu _
          intro s K' ih he
          refine wb_M_taken_33 G a b s u K' ?_ ?_
          · intro c0
            exact ih c0
          · intro c0
            rw [he]
            exact zgo_unleaf (wa_M_taken_33 G a b c0 u)
        · refine g_bipush (v := (-12 : Int32)) rfl zib_m12 ?_
          exact g_iret rfl (Or.inl rfl) rfl
      · refine g_bipush (v := (-11 : Int32)) rfl zib_m11 ?_
        exact g_iret rfl (Or.inl rfl) rfl
    · refine g_iconst (v := (-1 : Int32)) rfl zic_m1 ?_
      exact g_iret rfl (Or.inl rfl) rfl
theorem s_M_taken (G : ZG) (a : Int32) (b : Int32) (u : ZSt) (x : Int32) (hx : f_M_taken a b u = some x) : ZSpec G m_M_taken 3 [.ref 39, .int a, .int b] u ((zemP u) x) :=
  ZSpec.go k_M_taken (Nat.le_of_ble_eq_true rfl) (w_M_taken G a b u) (tgt := (zemP u) x) (by rw [hx]; rfl)
set_option maxRecDepth 100000 in
set_option maxHeartbeats 4000000 in
theorem w_Voters_size (G : ZG) (u : ZSt) : ZGo G m_Voters_size 1 (f_Voters_size u) (zkP u) 0 [(0, .ref 36)] [] u := by
  unfold f_Voters_size
  refine g_aload_n rfl rfl ?_
  refine g_getI rfl zf_Voters_26 rfl rfl rfl ?_
  exact g_iret rfl (Or.inl rfl) rfl
theorem s_Voters_size (G : ZG) (u : ZSt) (x : Int32) (hx : f_Voters_size u = some x) : ZSpec G m_Voters_size 1 [.ref 36] u ((zemP u) x) :=
  ZSpec.go k_Voters_size (Nat.le_of_ble_eq_true rfl) (w_Voters_size G u) (tgt := (zemP u) x) (by rw [hx]; rfl)
set_option maxRecDepth 100000 in
set_option maxHeartbeats 4000000 in
theorem w_Voters_ranInAll (G : ZG) (u : ZSt) : ZGo G m_Voters_ranInAll 1 (f_Voters_ranInAll u) (zkP u) 0 [(0, .ref 36)] [] u := by
  unfold f_Voters_ranInAll
  refine g_aload_n rfl rfl ?_
  refine g_getI rfl zf_Voters_33 rfl rfl rfl ?_
  exact g_iret rfl (Or.inl rfl) rfl
theorem s_Voters_ranInAll (G : ZG) (u : ZSt) (x : Int32) (hx : f_Voters_ranInAll u = some x) : ZSpec G m_Voters_ranInAll 1 [.ref 36] u ((zemP u) x) :=
  ZSpec.go k_Voters_ranInAll (Nat.le_of_ble_eq_true rfl) (w_Voters_ranInAll G u) (tgt := (zemP u) x) (by rw [hx]; rfl)
set_option maxRecDepth 100000 in
set_option maxHeartbeats 4000000 in
theorem w_X_count (G : ZG) (a : Int32) (u : ZSt) : ZGo G m_X_count 2 (f_X_count a u) (zkP u) 0 [(0, .ref 0), (1, .int a)] [] u := by
  unfold f_X_count
  refine g_iload_n rfl rfl ?_
  refine zgo_ite (fun c3129 => ?_) (fun c3129 => ?_)
  · refine g_tswIn rfl c3129 (by decide) (by decide) (off := 43) (by decide +kernel) 2 rfl ?_
    refine g_aload_n rfl rfl ?_
    refine g_getR rfl zf_X_10 rfl rfl ?_
    refine g_getI rfl zf_X_226 rfl rfl rfl ?_
    exact g_iret rfl (Or.inl rfl) rfl
  · refine zgo_ite (fun c3130 => ?_) (fun c3130 => ?_)
    · refine g_tswIn rfl c3130 (by decide) (by decide) (off := 51) (by decide +kernel) 6 rfl ?_
      refine g_aload_n rfl rfl ?_
      refine g_getR rfl zf_X_10 rfl rfl ?_
      refine g_getI rfl zf_X_344 rfl rfl rfl ?_
      exact g_iret rfl (Or.inl rfl) rfl
    · refine zgo_ite (fun c3131 => ?_) (fun c3131 => ?_)
      · refine g_tswIn rfl c3131 (by decide) (by decide) (off := 59) (by decide +kernel) 10 rfl ?_
        refine g_aload_n rfl rfl ?_
        refine g_getR rfl zf_X_10 rfl rfl ?_
        refine g_getI rfl zf_X_347 rfl rfl rfl ?_
        exact g_iret rfl (Or.inl rfl) rfl
      · refine zgo_ite (fun c3132 => ?_) (fun c3132 => ?_)
        · refine g_tswIn rfl c3132 (by decide) (by decide) (off := 67) (by decide +kernel) 14 rfl ?_
          refine g_aload_n rfl rfl ?_
          refine g_getR rfl zf_X_28 rfl rfl ?_
          refine g_getI rfl zf_X_350 rfl rfl rfl ?_
          exact g_iret rfl (Or.inl rfl) rfl
        · refine zgo_ite (fun c3133 => ?_) (fun c3133 => ?_)
          · refine g_tswIn rfl c3133 (by decide) (by decide) (off := 75) (by decide +kernel) 18 rfl ?_
            refine g_aload_n rfl rfl ?_
            refine g_getR rfl zf_X_21 rfl rfl ?_
            refine g_callVP (M' := m_Changes_undoable) (d' := 1) (as := []) (rest := []) (ci := 1) (o := 5) rfl ml_X_284 v_Changes_undoable (by decide) rfl (by decide) rfl rfl rfl (Nat.le_of_ble_eq_true rfl) (fun x_ e_ => s_Changes_undoable G  u x_ e_) (fun q3134 e3135 b3136 => ?_)
            exact g_iret rfl (Or.inl rfl) rfl
          · refine zgo_ite (fun c3137 => ?_) (fun c3137 => ?_)
            · refine g_tswIn rfl c3137 (by decide) (by decide) (off := 83) (by decide +kernel) 22 rfl ?_
              refine g_aload_n rfl rfl ?_
              refine g_getR rfl zf_X_83 rfl rfl ?_
              refine g_callVP (M' := m_Voters_size) (d' := 1) (as := []) (rest := []) (ci := 8) (o := 36) rfl ml_X_353 v_Voters_size (by decide) rfl (by decide) rfl rfl rfl (Nat.le_of_ble_eq_true rfl) (fun x_ e_ => s_Voters_size G  u x_ e_) (fun q3138 e3139 b3140 => ?_)
              exact g_iret rfl (Or.inl rfl) rfl
            · refine zgo_ite (fun c3141 => ?_) (fun c3141 => ?_)
              · refine g_tswIn rfl c3141 (by decide) (by decide) (off := 91) (by decide +kernel) 26 rfl ?_
                refine g_aload_n rfl rfl ?_
                refine g_getR rfl zf_X_83 rfl rfl ?_
                refine g_callVP (M' := m_Voters_ranInAll) (d' := 1) (as := []) (rest := []) (ci := 8) (o := 36) rfl ml_X_356 v_Voters_ranInAll (by decide) rfl (by decide) rfl rfl rfl (Nat.le_of_ble_eq_true rfl) (fun x_ e_ => s_Voters_ranInAll G  u x_ e_) (fun q3142 e3143 b3144 => ?_)
                exact g_iret rfl (Or.inl rfl) rfl
              · refine g_tswD rfl [0, 1, 2, 3, 4, 5, 6] 7 (by decide) (by decide +kernel) (List.forall_mem_cons.mpr ⟨z_ne c3129 rfl, (List.forall_mem_cons.mpr ⟨z_ne c3130 rfl, (List.forall_mem_cons.mpr ⟨z_ne c3131 rfl, (List.forall_mem_cons.mpr ⟨z_ne c3132 rfl, (List.forall_mem_cons.mpr ⟨z_ne c3133 rfl, (List.forall_mem_cons.mpr ⟨z_ne c3137 rfl, (List.forall_mem_cons.mpr ⟨z_ne c3141 rfl, (fun _ h => absurd h List.not_mem_nil)⟩)⟩)⟩)⟩)⟩)⟩)⟩) 30 rfl ?_
                refine g_iconst (v := (-1 : Int32)) rfl zic_m1 ?_
                exact g_iret rfl (Or.inl rfl) rfl
theorem s_X_count (G : ZG) (a : Int32) (u : ZSt) (x : Int32) (hx : f_X_count a u = some x) : ZSpec G m_X_count 2 [.ref 0, .int a] u ((zemP u) x) :=
  ZSpec.go k_X_count (Nat.le_of_ble_eq_true rfl) (w_X_count G a u) (tgt := (zemP u) x) (by rw [hx]; rfl)
set_option maxRecDepth 100000 in
set_option maxHeartbeats 4000000 in
theorem w_M_count (G : ZG) (a : Int32) (u : ZSt) : ZGo G m_M_count 1 (f_M_count a u) (zkP u) 0 [(0, .ref 39), (1, .int a)] [] u := by
  unfold f_M_count
  refine g_iload_n rfl rfl ?_
  refine zgo_ite (fun c3145 => ?_) (fun c3145 => ?_)
  · refine g_tswIn rfl c3145 (by decide) (by decide) (off := 43) (by decide +kernel) 2 rfl ?_
    refine g_aload_n rfl rfl ?_
    refine g_getI rfl zf_M_94 rfl rfl rfl ?_
    exact g_iret rfl (Or.inl rfl) rfl
  · refine zgo_ite (fun c3146 => ?_) (fun c3146 => ?_)
    · refine g_tswIn rfl c3146 (by decide) (by decide) (off := 48) (by decide +kernel) 5 rfl ?_
      refine g_aload_n rfl rfl ?_
      refine g_getI rfl zf_M_101 rfl rfl rfl ?_
      exact g_iret rfl (Or.inl rfl) rfl
    · refine zgo_ite (fun c3147 => ?_) (fun c3147 => ?_)
      · refine g_tswIn rfl c3147 (by decide) (by decide) (off := 53) (by decide +kernel) 8 rfl ?_
        refine g_aload_n rfl rfl ?_
        refine g_getI rfl zf_M_122 rfl rfl rfl ?_
        exact g_iret rfl (Or.inl rfl) rfl
      · refine zgo_ite (fun c3148 => ?_) (fun c3148 => ?_)
        · refine g_tswIn rfl c3148 (by decide) (by decide) (off := 58) (by decide +kernel) 11 rfl ?_
          refine g_aload_n rfl rfl ?_
          refine g_getI rfl zf_M_149 rfl rfl rfl ?_
          exact g_iret rfl (Or.inl rfl) rfl
        · refine zgo_ite (fun c3149 => ?_) (fun c3149 => ?_)
          · refine g_tswIn rfl c3149 (by decide) (by decide) (off := 63) (by decide +kernel) 14 rfl ?_
            refine g_aload_n rfl rfl ?_
            refine g_getI rfl zf_M_88 rfl rfl rfl ?_
            exact g_iret rfl (Or.inl rfl) rfl
          · refine zgo_ite (fun c3150 => ?_) (fun c3150 => ?_)
            · refine g_tswIn rfl c3150 (by decide) (by decide) (off := 68) (by decide +kernel) 17 rfl ?_
              refine g_aload_n rfl rfl ?_
              refine g_getI rfl zf_M_278 rfl rfl rfl ?_
              exact g_iret rfl (Or.inl rfl) rfl
            · refine zgo_ite (fun c3151 => ?_) (fun c3151 => ?_)
              · refine g_tswIn rfl c3151 (by decide) (by decide) (off := 73) (by decide +kernel) 20 rfl ?_
                refine g_aload_n rfl rfl ?_
                refine g_getI rfl zf_M_283 rfl rfl rfl ?_
                exact g_iret rfl (Or.inl rfl) rfl
              · refine g_tswD rfl [0, 1, 2, 3, 4, 5, 6] 7 (by decide) (by decide +kernel) (List.forall_mem_cons.mpr ⟨z_ne c3145 rfl, (List.forall_mem_cons.mpr ⟨z_ne c3146 rfl, (List.forall_mem_cons.mpr ⟨z_ne c3147 rfl, (List.forall_mem_cons.mpr ⟨z_ne c3148 rfl, (List.forall_mem_cons.mpr ⟨z_ne c3149 rfl, (List.forall_mem_cons.mpr ⟨z_ne c3150 rfl, (List.forall_mem_cons.mpr ⟨z_ne c3151 rfl, (fun _ h => absurd h List.not_mem_nil)⟩)⟩)⟩)⟩)⟩)⟩)⟩) 23 rfl ?_
                refine g_iconst (v := (-1 : Int32)) rfl zic_m1 ?_
                exact g_iret rfl (Or.inl rfl) rfl
theorem s_M_count (G : ZG) (a : Int32) (u : ZSt) (x : Int32) (hx : f_M_count a u = some x) : ZSpec G m_M_count 1 [.ref 39, .int a] u ((zemP u) x) :=
  ZSpec.go k_M_count (Nat.le_of_ble_eq_true rfl) (w_M_count G a u) (tgt := (zemP u) x) (by rw [hx]; rfl)
set_option maxRecDepth 100000 in
set_option maxHeartbeats 4000000 in
theorem wb_L_law_10 (G : ZG) (l3 : Int32) (u : ZSt) (K : ((Int32 × ZSt) ⊕ ((Int32 × ZSt) ⊕ (Int32 × ZSt))) → Option (Value × ZSt)) (hb : ∀ (l3 : Int32) (u : ZSt), ZGo G m_L_law 407 (K (.inl (l3, u))) some 10 [(0, .ref 102), (1, .ref 0), (2, .ref 39), (3, .int l3)] [] u) (hx : ∀ (l3 : Int32) (u : ZSt), ZGo G m_L_law 407 (K (.inr (.inl (l3, u)))) some 969 [] [] u) (hr : ∀ x, K (.inr (.inr x)) = some (zemI x)) : ZGo G m_L_law 407 (b_L_law_10 (zgL G) (zgx G) l3 u) K 10 [(0, .ref 102), (1, .ref 0), (2, .ref 39), (3, .int l3)] [] u := by
  unfold b_L_law_10
  refine g_iload_n rfl rfl ?_
  refine g_aload_n rfl rfl ?_
  refine g_slenX rfl ?_
  refine g_bipush (v := (6 : Int32)) rfl zib_6 ?_
  refine g_isub rfl ?_
  refine g_icmpgt rfl (fun c3152 => ?_) (fun c3152 => ?_)
  · exact zgo_sub (zsubk [] rfl) (zgo_leaf (hx l3 u))
  · refine g_aload_n rfl rfl ?_
    refine g_iload_n rfl rfl ?_
    refine g_sldX rfl (fun o3153 => ?_)
    refine g_bipush (v := (63 : Int32)) rfl zib_63 ?_
    refine g_iand rfl ?_
    refine zgo_ite (fun c3154 => ?_) (fun c3154 => ?_)
    · refine g_tswIn rfl c3154 (by decide) (by decide) (off := 175) (by decide +kernel) 22 rfl ?_
      refine g_aload_n rfl rfl ?_
      refine g_aload_n rfl rfl ?_
      refine g_iload_n rfl rfl ?_
      refine g_iconst (v := (1 : Int32)) rfl zic_1 ?_
      refine g_iadd rfl ?_
      refine g_sldX rfl (fun o3155 => ?_)
      refine g_callVI (M' := m_X_person) (d' := 2) (as := [.int ((zgx G) (l3 + (1 : Int32)).toNatClampNeg)]) (rest := []) (ci := 10) (o := 0) rfl ml_L_13 v_X_person (by decide) rfl (by decide) rfl rfl rfl (Nat.le_of_ble_eq_true rfl) (fun x_ e_ => s_X_person G ((zgx G) (l3 + (1 : Int32)).toNatClampNeg) u x_ e_) (fun q3156r q3156u e3157 b3158 => ?_)
      refine g_aload_n rfl rfl ?_
      refine g_aload_n rfl rfl ?_
      refine g_iload_n rfl rfl ?_
      refine g_iconst (v := (1 : Int32)) rfl zic_1 ?_
      refine g_iadd rfl ?_
      refine g_sldX rfl (fun o3159 => ?_)
      refine g_callVI (M' := m_M_person) (d' := 2) (as := [.int ((zgx G) (l3 + (1 : Int32)).toNatClampNeg)]) (rest := [.int q3156r]) (ci := 11) (o := 39) rfl ml_L_17 v_M_person (by decide) rfl (by decide) rfl rfl rfl (Nat.le_of_ble_eq_true rfl) (fun x_ e_ => s_M_person G ((zgx G) (l3 + (1 : Int32)).toNatClampNeg) q3156u x_ e_) (fun q3160r q3160u e3161 b3162 => ?_)
      refine g_icmpeq rfl (fun c3163 => ?_) (fun c3163 => ?_)
      · refine g_iinc (v := (6 : Int32)) (lv' := [(0, .ref 102), (1, .ref 0), (2, .ref 39), (3, .int (l3 + (6 : Int32)))]) rfl rfl zic_6 (Nat.le_of_ble_eq_true rfl) rfl rfl ?_
        refine g_goto rfl ?_
        exact zgo_sub (zsubk [0, 1, 2, 3] rfl) (zgo_leaf (hb (l3 + (6 : Int32)) q3160u))
      · refine g_iconst (v := (0 : Int32)) rfl zic_0 ?_
        exact g_iret rfl (Or.inr ⟨rfl, Or.inl rfl⟩) (hr _)
    · refine zgo_ite (fun c3164 => ?_) (fun c3164 => ?_)
      · refine g_tswIn rfl c3164 (by decide) (by decide) (off := 198) (by decide +kernel) 39 rfl ?_
        refine g_aload_n rfl rfl ?_
        refine g_aload_n rfl rfl ?_
        refine g_iload_n rfl rfl ?_
        refine g_iconst (v := (1 : Int32)) rfl zic_1 ?_
        refine g_iadd rfl ?_
        refine g_sldX rfl (fun o3165 => ?_)
        refine g_aload_n rfl rfl ?_
        refine g_iload_n rfl rfl ?_
        refine g_iconst (v := (2 : Int32)) rfl zic_2 ?_
        refine g_iadd rfl ?_
        refine g_sldX rfl (fun o3166 => ?_)
        refine g_aload_n rfl rfl ?_
        refine g_iload_n rfl rfl ?_
        refine g_iconst (v := (3 : Int32)) rfl zic_3 ?_
        refine g_iadd rfl ?_
        refine g_sldX rfl (fun o3167 => ?_)
        refine g_callVI (M' := m_X_people) (d' := 4) (as := [.int ((zgx G) (l3 + (1 : Int32)).toNatClampNeg), .int ((zgx G) (l3 + (2 : Int32)).toNatClampNeg), .int ((zgx G) (l3 + (3 : Int32)).toNatClampNeg)]) (rest := []) (ci := 10) (o := 0) rfl ml_L_18 v_X_people (by decide) rfl (by decide) rfl rfl rfl (Nat.le_of_ble_eq_true rfl) (fun x_ e_ => s_X_people G ((zgx G) (l3 + (1 : Int32)).toNatClampNeg) ((zgx G) (l3 + (2 : Int32)).toNatClampNeg) ((zgx G) (l3 + (3 : Int32)).toNatClampNeg) u x_ e_) (fun q3168r q3168u e3169 b3170 => ?_)
        refine g_aload_n rfl rfl ?_
        refine g_aload_n rfl rfl ?_
        refine g_iload_n rfl rfl ?_
        refine g_iconst (v := (1 : Int32)) rfl zic_1 ?_
        refine g_iadd rfl ?_
        refine g_sldX rfl (fun o3171 => ?_)
        refine g_aload_n rfl rfl ?_
        refine g_iload_n rfl rfl ?_
        refine g_iconst (v := (2 : Int32)) rfl zic_2 ?_
        refine g_iadd rfl ?_
        refine g_sldX rfl (fun o3172 => ?_)
        refine g_aload_n rfl rfl ?_
        refine g_iload_n rfl rfl ?_
        refine g_iconst (v := (3 : Int32)) rfl zic_3 ?_
        refine g_iadd rfl ?_
        refine g_sldX rfl (fun o3173 => ?_)
        refine g_callVI (M' := m_M_people) (d' := 3) (as := [.int ((zgx G) (l3 + (1 : Int32)).toNatClampNeg), .int ((zgx G) (l3 + (2 : Int32)).toNatClampNeg), .int ((zgx G) (l3 + (3 : Int32)).toNatClampNeg)]) (rest := [.int q3168r]) (ci := 11) (o := 39) rfl ml_L_22 v_M_people (by decide) rfl (by decide) rfl rfl rfl (Nat.le_of_ble_eq_true rfl) (fun x_ e_ => s_M_people G ((zgx G) (l3 + (1 : Int32)).toNatClampNeg) ((zgx G) (l3 + (2 : Int32)).toNatClampNeg) ((zgx G) (l3 + (3 : Int32)).toNatClampNeg) q3168u x_ e_) (fun q3174r q3174u e3175 b3176 => ?_)
        refine g_icmpeq rfl (fun c3177 => ?_) (fun c3177 => ?_)
        · refine g_iinc (v := (6 : Int32)) (lv' := [(0, .ref 102), (1, .ref 0), (2, .ref 39), (3, .int (l3 + (6 : Int32)))]) rfl rfl zic_6 (Nat.le_of_ble_eq_true rfl) rfl rfl ?_
          refine g_goto rfl ?_
          exact zgo_sub (zsubk [0, 1, 2, 3] rfl) (zgo_leaf (hb (l3 + (6 : Int32)) q3174u))
        · refine g_iconst (v := (0 : Int32)) rfl zic_0 ?_
          exact g_iret rfl (Or.inr ⟨rfl, Or.inl rfl⟩) (hr _)
      · refine zgo_ite (fun c3178 => ?_) (fun c3178 => ?_)
        · refine g_tswIn rfl c3178 (by decide) (by decide) (off := 241) (by decide +kernel) 76 rfl ?_
          refine g_aload_n rfl rfl ?_
          refine g_aload_n rfl rfl ?_
          refine g_iload_n rfl rfl ?_
          refine g_iconst (v := (1 : Int32)) rfl zic_1 ?_
          refine g_iadd rfl ?_
          refine g_sldX rfl (fun o3179 => ?_)
          refine g_callVI (M' := m_X_cousins) (d' := 3) (as := [.int ((zgx G) (l3 + (1 : Int32)).toNatClampNeg)]) (rest := []) (ci := 10) (o := 0) rfl ml_L_23 v_X_cousins (by decide) rfl (by decide) rfl rfl rfl (Nat.le_of_ble_eq_true rfl) (fun x_ e_ => s_X_cousins G ((zgx G) (l3 + (1 : Int32)).toNatClampNeg) u x_ e_) (fun q3180r q3180u e3181 b3182 => ?_)
          refine g_aload_n rfl rfl ?_
          refine g_aload_n rfl rfl ?_
          refine g_iload_n rfl rfl ?_
          refine g_iconst (v := (1 : Int32)) rfl zic_1 ?_
          refine g_iadd rfl ?_
          refine g_sldX rfl (fun o3183 => ?_)
          refine g_callVI (M' := m_M_cousins) (d' := 3) (as := [.int ((zgx G) (l3 + (1 : Int32)).toNatClampNeg)]) (rest := [.int q3180r]) (ci := 11) (o := 39) rfl ml_L_26 v_M_cousins (by decide) rfl (by decide) rfl rfl rfl (Nat.le_of_ble_eq_true rfl) (fun x_ e_ => s_M_cousins G ((zgx G) (l3 + (1 : Int32)).toNatClampNeg) q3180u x_ e_) (fun q3184r q3184u e3185 b3186 => ?_)
          refine g_icmpeq rfl (fun c3187 => ?_) (fun c3187 => ?_)
          · refine g_iinc (v := (6 : Int32)) (lv' := [(0, .ref 102), (1, .ref 0), (2, .ref 39), (3, .int (l3 + (6 : Int32)))]) rfl rfl zic_6 (Nat.le_of_ble_eq_true rfl) rfl rfl ?_
            refine g_goto rfl ?_
            exact zgo_sub (zsubk [0, 1, 2, 3] rfl) (zgo_leaf (hb (l3 + (6 : Int32)) q3184u))
          · refine g_iconst (v := (0 : Int32)) rfl zic_0 ?_
            exact g_iret rfl (Or.inr ⟨rfl, Or.inl rfl⟩) (hr _)
        · refine zgo_ite (fun c3188 => ?_) (fun c3188 => ?_)
          · refine g_tswIn rfl c3188 (by decide) (by decide) (off := 264) (by decide +kernel) 93 rfl ?_
            refine g_aload_n rfl rfl ?_
            refine g_callVI (M' := m_X_matter) (d' := 3) (as := []) (rest := []) (ci := 10) (o := 0) rfl ml_L_27 v_X_matter (by decide) rfl (by decide) rfl rfl rfl (Nat.le_of_ble_eq_true rfl) (fun x_ e_ => s_X_matter G  u x_ e_) (fun q3189r q3189u e3190 b3191 => ?_)
            refine g_aload_n rfl rfl ?_
            refine g_callVI (M' := m_M_matter) (d' := 1) (as := []) (rest := [.int q3189r]) (ci := 11) (o := 39) rfl ml_L_31 v_M_matter (by decide) rfl (by decide) rfl rfl rfl (Nat.le_of_ble_eq_true rfl) (fun x_ e_ => s_M_matter G  q3189u x_ e_) (fun q3192r q3192u e3193 b3194 => ?_)
            refine g_icmpeq rfl (fun c3195 => ?_) (fun c3195 => ?_)
            · refine g_iinc (v := (6 : Int32)) (lv' := [(0, .ref 102), (1, .ref 0), (2, .ref 39), (3, .int (l3 + (6 : Int32)))]) rfl rfl zic_6 (Nat.le_of_ble_eq_true rfl) rfl rfl ?_
              refine g_goto rfl ?_
              exact zgo_sub (zsubk [0, 1, 2, 3] rfl) (zgo_leaf (hb (l3 + (6 : Int32)) q3192u))
            · refine g_iconst (v := (0 : Int32)) rfl zic_0 ?_
              exact g_iret rfl (Or.inr ⟨rfl, Or.inl rfl⟩) (hr _)
          · refine zgo_ite (fun c3196 => ?_) (fun c3196 => ?_)
            · refine g_tswIn rfl c3196 (by decide) (by decide) (off := 277) (by decide +kernel) 100 rfl ?_
              refine g_aload_n rfl rfl ?_
              refine g_aload_n rfl rfl ?_
              refine g_iload_n rfl rfl ?_
              refine g_iconst (v := (1 : Int32)) rfl zic_1 ?_
              refine g_iadd rfl ?_
              refine g_sldX rfl (fun o3197 => ?_)
              refine g_aload_n rfl rfl ?_
              refine g_iload_n rfl rfl ?_
              refine g_iconst (v := (2 : Int32)) rfl zic_2 ?_
              refine g_iadd rfl ?_
              refine g_sldX rfl (fun o3198 => ?_)
              refine g_aload_n rfl rfl ?_
              refine g_iload_n rfl rfl ?_
              refine g_iconst (v := (3 : Int32)) rfl zic_3 ?_
              refine g_iadd rfl ?_
              refine g_sldX rfl (fun o3199 => ?_)
              refine g_callVI (M' := m_X_mend) (d' := 3) (as := [.int ((zgx G) (l3 + (1 : Int32)).toNatClampNeg), .int ((zgx G) (l3 + (2 : Int32)).toNatClampNeg), .int ((zgx G) (l3 + (3 : Int32)).toNatClampNeg)]) (rest := []) (ci := 10) (o := 0) rfl ml_L_32 v_X_mend (by decide) rfl (by decide) rfl rfl rfl (Nat.le_of_ble_eq_true rfl) (fun x_ e_ => s_X_mend G ((zgx G) (l3 + (1 : Int32)).toNatClampNeg) ((zgx G) (l3 + (2 : Int32)).toNatClampNeg) ((zgx G) (l3 + (3 : Int32)).toNatClampNeg) u x_ e_) (fun q3200r q3200u e3201 b3202 => ?_)
              refine g_aload_n rfl rfl ?_
              refine g_aload_n rfl rfl ?_
              refine g_iload_n rfl rfl ?_
              refine g_iconst (v := (1 : Int32)) rfl zic_1 ?_
              refine g_iadd rfl ?_
              refine g_sldX rfl (fun o3203 => ?_)
              refine g_aload_n rfl rfl ?_
              refine g_iload_n rfl rfl ?_
              refine g_iconst (v := (2 : Int32)) rfl zic_2 ?_
              refine g_iadd rfl ?_
              refine g_sldX rfl (fun o3204 => ?_)
              refine g_aload_n rfl rfl ?_
              refine g_iload_n rfl rfl ?_
              refine g_iconst (v := (3 : Int32)) rfl zic_3 ?_
              refine g_iadd rfl ?_
              refine g_sldX rfl (fun o3205 => ?_)
              refine g_callVI (M' := m_M_mend) (d' := 4) (as := [.int ((zgx G) (l3 + (1 : Int32)).toNatClampNeg), .int ((zgx G) (l3 + (2 : Int32)).toNatClampNeg), .int ((zgx G) (l3 + (3 : Int32)).toNatClampNeg)]) (rest := [.int q3200r]) (ci := 11) (o := 39) rfl ml_L_35 v_M_mend (by decide) rfl (by decide) rfl rfl rfl (Nat.le_of_ble_eq_true rfl) (fun x_ e_ => s_M_mend G ((zgx G) (l3 + (1 : Int32)).toNatClampNeg) ((zgx G) (l3 + (2 : Int32)).toNatClampNeg) ((zgx G) (l3 + (3 : Int32)).toNatClampNeg) q3200u x_ e_) (fun q3206r q3206u e3207 b3208 => ?_)
              refine g_icmpeq rfl (fun c3209 => ?_) (fun c3209 => ?_)
              · refine g_iinc (v := (6 : Int32)) (lv' := [(0, .ref 102), (1, .ref 0), (2, .ref 39), (3, .int (l3 + (6 : Int32)))]) rfl rfl zic_6 (Nat.le_of_ble_eq_true rfl) rfl rfl ?_
                refine g_goto rfl ?_
                exact zgo_sub (zsubk [0, 1, 2, 3] rfl) (zgo_leaf (hb (l3 + (6 : Int32)) q3206u))
              · refine g_iconst (v := (0 : Int32)) rfl zic_0 ?_
                exact g_iret rfl (Or.inr ⟨rfl, Or.inl rfl⟩) (hr _)
            · refine zgo_ite (fun c3210 => ?_) (fun c3210 => ?_)
              · refine g_tswIn rfl c3210 (by decide) (by decide) (off := 320) (by decide +kernel) 137 rfl ?_
                refine g_aload_n rfl rfl ?_
                refine g_aload_n rfl rfl ?_
                refine g_iload_n rfl rfl ?_
                refine g_iconst (v := (1 : Int32)) rfl zic_1 ?_
                refine g_iadd rfl ?_
                refine g_sldX rfl (fun o3211 => ?_)
                refine g_aload_n rfl rfl ?_
                refine g_iload_n rfl rfl ?_
                refine g_iconst (v := (2 : Int32)) rfl zic_2 ?_
                refine g_iadd rfl ?_
                refine g_sldX rfl (fun o3212 => ?_)
                refine g_callVI (M' := m_X_rule) (d' := 1) (as := [.int ((zgx G) (l3 + (1 : Int32)).toNatClampNeg), .int ((zgx G) (l3 + (2 : Int32)).toNatClampNeg)]) (rest := []) (ci := 10) (o := 0) rfl ml_L_36 v_X_rule (by decide) rfl (by decide) rfl rfl rfl (Nat.le_of_ble_eq_true rfl) (fun x_ e_ => s_X_rule G ((zgx G) (l3 + (1 : Int32)).toNatClampNeg) ((zgx G) (l3 + (2 : Int32)).toNatClampNeg) u x_ e_) (fun q3213r q3213u e3214 b3215 => ?_)
                refine g_aload_n rfl rfl ?_
                refine g_aload_n rfl rfl ?_
                refine g_iload_n rfl rfl ?_
                refine g_iconst (v := (1 : Int32)) rfl zic_1 ?_
                refine g_iadd rfl ?_
                refine g_sldX rfl (fun o3216 => ?_)
                refine g_aload_n rfl rfl ?_
                refine g_iload_n rfl rfl ?_
                refine g_iconst (v := (2 : Int32)) rfl zic_2 ?_
                refine g_iadd rfl ?_
                refine g_sldX rfl (fun o3217 => ?_)
                refine g_callVI (M' := m_M_rule) (d' := 2) (as := [.int ((zgx G) (l3 + (1 : Int32)).toNatClampNeg), .int ((zgx G) (l3 + (2 : Int32)).toNatClampNeg)]) (rest := [.int q3213r]) (ci := 11) (o := 39) rfl ml_L_40 v_M_rule (by decide) rfl (by decide) rfl rfl rfl (Nat.le_of_ble_eq_true rfl) (fun x_ e_ => s_M_rule G ((zgx G) (l3 + (1 : Int32)).toNatClampNeg) ((zgx G) (l3 + (2 : Int32)).toNatClampNeg) q3213u x_ e_) (fun q3218r q3218u e3219 b3220 => ?_)
                refine g_icmpeq rfl (fun c3221 => ?_) (fun c3221 => ?_)
                · refine g_iinc (v := (6 : Int32)) (lv' := [(0, .ref 102), (1, .ref 0), (2, .ref 39), (3, .int (l3 + (6 : Int32)))]) rfl rfl zic_6 (Nat.le_of_ble_eq_true rfl) rfl rfl ?_
                  refine g_goto rfl ?_
                  exact zgo_sub (zsubk [0, 1, 2, 3] rfl) (zgo_leaf (hb (l3 + (6 : Int32)) q3218u))
                · refine g_iconst (v := (0 : Int32)) rfl zic_0 ?_
                  exact g_iret rfl (Or.inr ⟨rfl, Or.inl rfl⟩) (hr _)
              · refine zgo_ite (fun c3222 => ?_) (fun c3222 => ?_)
                · refine g_tswIn rfl c3222 (by decide) (by decide) (off := 353) (by decide +kernel) 164 rfl ?_
                  refine g_aload_n rfl rfl ?_
                  refine g_aload_n rfl rfl ?_
                  refine g_iload_n rfl rfl ?_
                  refine g_iconst (v := (1 : Int32)) rfl zic_1 ?_
                  refine g_iadd rfl ?_
                  refine g_sldX rfl (fun o3223 => ?_)
                  refine g_aload_n rfl rfl ?_
                  refine g_iload_n rfl rfl ?_
                  refine g_iconst (v := (2 : Int32)) rfl zic_2 ?_
                  refine g_iadd rfl ?_
                  refine g_sldX rfl (fun o3224 => ?_)
                  refine g_callVP (M' := m_X_of) (d' := 3) (as := [.int ((zgx G) (l3 + (1 : Int32)).toNatClampNeg), .int ((zgx G) (l3 + (2 : Int32)).toNatClampNeg)]) (rest := []) (ci := 10) (o := 0) rfl ml_L_41 v_X_of (by decide) rfl (by decide) rfl rfl rfl (Nat.le_of_ble_eq_true rfl) (fun x_ e_ => s_X_of G ((zgx G) (l3 + (1 : Int32)).toNatClampNeg) ((zgx G) (l3 + (2 : Int32)).toNatClampNeg) u x_ e_) (fun q3225 e3226 b3227 => ?_)
                  refine g_aload_n rfl rfl ?_
                  refine g_aload_n rfl rfl ?_
                  refine g_iload_n rfl rfl ?_
                  refine g_iconst (v := (1 : Int32)) rfl zic_1 ?_
                  refine g_iadd rfl ?_
                  refine g_sldX rfl (fun o3228 => ?_)
                  refine g_aload_n rfl rfl ?_
                  refine g_iload_n rfl rfl ?_
                  refine g_iconst (v := (2 : Int32)) rfl zic_2 ?_
                  refine g_iadd rfl ?_
                  refine g_sldX rfl (fun o3229 => ?_)
                  refine g_callVP (M' := m_M_of) (d' := 4) (as := [.int ((zgx G) (l3 + (1 : Int32)).toNatClampNeg), .int ((zgx G) (l3 + (2 : Int32)).toNatClampNeg)]) (rest := [.int q3225]) (ci := 11) (o := 39) rfl ml_L_44 v_M_of (by decide) rfl (by decide) rfl rfl rfl (Nat.le_of_ble_eq_true rfl) (fun x_ e_ => s_M_of G ((zgx G) (l3 + (1 : Int32)).toNatClampNeg) ((zgx G) (l3 + (2 : Int32)).toNatClampNeg) u x_ e_) (fun q3230 e3231 b3232 => ?_)
                  refine g_icmpeq rfl (fun c3233 => ?_) (fun c3233 => ?_)
                  · refine g_iinc (v := (6 : Int32)) (lv' := [(0, .ref 102), (1, .ref 0), (2, .ref 39), (3, .int (l3 + (6 : Int32)))]) rfl rfl zic_6 (Nat.le_of_ble_eq_true rfl) rfl rfl ?_
                    refine g_goto rfl ?_
                    exact zgo_sub (zsubk [0, 1, 2, 3] rfl) (zgo_leaf (hb (l3 + (6 : Int32)) u))
                  · refine g_iconst (v := (0 : Int32)) rfl zic_0 ?_
                    exact g_iret rfl (Or.inr ⟨rfl, Or.inl rfl⟩) (hr _)
                · refine zgo_ite (fun c3234 => ?_) (fun c3234 => ?_)
                  · refine g_tswIn rfl c3234 (by decide) (by decide) (off := 386) (by decide +kernel) 191 rfl ?_
                    refine g_aload_n rfl rfl ?_
                    refine g_aload_n rfl rfl ?_
                    refine g_iload_n rfl rfl ?_
                    refine g_iconst (v := (1 : Int32)) rfl zic_1 ?_
                    refine g_iadd rfl ?_
                    refine g_sldX rfl (fun o3235 => ?_)
                    refine g_callVI (M' := m_X_feed) (d' := 2) (as := [.int ((zgx G) (l3 + (1 : Int32)).toNatClampNeg)]) (rest := []) (ci := 10) (o := 0) rfl ml_L_45 v_X_feed (by decide) rfl (by decide) rfl rfl rfl (Nat.le_of_ble_eq_true rfl) (fun x_ e_ => s_X_feed G ((zgx G) (l3 + (1 : Int32)).toNatClampNeg) u x_ e_) (fun q3236r q3236u e3237 b3238 => ?_)
                    refine g_aload_n rfl rfl ?_
                    refine g_aload_n rfl rfl ?_
                    refine g_iload_n rfl rfl ?_
                    refine g_iconst (v := (1 : Int32)) rfl zic_1 ?_
                    refine g_iadd rfl ?_
                    refine g_sldX rfl (fun o3239 => ?_)
                    refine g_callVI (M' := m_M_feed) (d' := 2) (as := [.int ((zgx G) (l3 + (1 : Int32)).toNatClampNeg)]) (rest := [.int q3236r]) (ci := 11) (o := 39) rfl ml_L_48 v_M_feed (by decide) rfl (by decide) rfl rfl rfl (Nat.le_of_ble_eq_true rfl) (fun x_ e_ => s_M_feed G ((zgx G) (l3 + (1 : Int32)).toNatClampNeg) q3236u x_ e_) (fun q3240r q3240u e3241 b3242 => ?_)
                    refine g_icmpeq rfl (fun c3243 => ?_) (fun c3243 => ?_)
                    · refine g_iinc (v := (6 : Int32)) (lv' := [(0, .ref 102), (1, .ref 0), (2, .ref 39), (3, .int (l3 + (6 : Int32)))]) rfl rfl zic_6 (Nat.le_of_ble_eq_true rfl) rfl rfl ?_
                      refine g_goto rfl ?_
                      exact zgo_sub (zsubk [0, 1, 2, 3] rfl) (zgo_leaf (hb (l3 + (6 : Int32)) q3240u))
                    · refine g_iconst (v := (0 : Int32)) rfl zic_0 ?_
                      exact g_iret rfl (Or.inr ⟨rfl, Or.inl rfl⟩) (hr _)
                  · refine zgo_ite (fun c3244 => ?_) (fun c3244 => ?_)
                    · refine g_tswIn rfl c3244 (by decide) (by decide) (off := 409) (by decide +kernel) 208 rfl ?_
                      refine g_aload_n rfl rfl ?_
                      refine g_callVI (M' := m_X_law) (d' := 106) (as := []) (rest := []) (ci := 10) (o := 0) rfl ml_L_49 v_X_law (by decide) rfl (by decide) rfl rfl rfl (Nat.le_of_ble_eq_true rfl) (fun x_ e_ => s_X_law G  u x_ e_) (fun q3245r q3245u e3246 b3247 => ?_)
                      refine g_aload_n rfl rfl ?_
                      refine g_callVI (M' := m_M_law) (d' := 105) (as := []) (rest := [.int q3245r]) (ci := 11) (o := 39) rfl ml_L_52 v_M_law (by decide) rfl (by decide) rfl rfl rfl (Nat.le_of_ble_eq_true rfl) (fun x_ e_ => s_M_law G  q3245u x_ e_) (fun q3248r q3248u e3249 b3250 => ?_)
                      refine g_icmpeq rfl (fun c3251 => ?_) (fun c3251 => ?_)
                      · refine g_iinc (v := (6 : Int32)) (lv' := [(0, .ref 102), (1, .ref 0), (2, .ref 39), (3, .int (l3 + (6 : Int32)))]) rfl rfl zic_6 (Nat.le_of_ble_eq_true rfl) rfl rfl ?_
                        refine g_goto rfl ?_
                        exact zgo_sub (zsubk [0, 1, 2, 3] rfl) (zgo_leaf (hb (l3 + (6 : Int32)) q3248u))
                      · refine g_iconst (v := (0 : Int32)) rfl zic_0 ?_
                        exact g_iret rfl (Or.inr ⟨rfl, Or.inl rfl⟩) (hr _)
                    · refine zgo_ite (fun c3252 => ?_) (fun c3252 => ?_)
                      · refine g_tswIn rfl c3252 (by decide) (by decide) (off := 422) (by decide +kernel) 215 rfl ?_
                        refine g_aload_n rfl rfl ?_
                        refine g_aload_n rfl rfl ?_
                        refine g_iload_n rfl rfl ?_
                        refine g_iconst (v := (1 : Int32)) rfl zic_1 ?_
                        refine g_iadd rfl ?_
                        refine g_sldX rfl (fun o3253 => ?_)
                        refine g_aload_n rfl rfl ?_
                        refine g_iload_n rfl rfl ?_
                        refine g_iconst (v := (2 : Int32)) rfl zic_2 ?_
                        refine g_iadd rfl ?_
                        refine g_sldX rfl (fun o3254 => ?_)
                        refine g_aload_n rfl rfl ?_
                        refine g_iload_n rfl rfl ?_
                        refine g_iconst (v := (3 : Int32)) rfl zic_3 ?_
                        refine g_iadd rfl ?_
                        refine g_sldX rfl (fun o3255 => ?_)
                        refine g_callVI (M' := m_X_may) (d' := 5) (as := [.int ((zgx G) (l3 + (1 : Int32)).toNatClampNeg), .int ((zgx G) (l3 + (2 : Int32)).toNatClampNeg), .int ((zgx G) (l3 + (3 : Int32)).toNatClampNeg)]) (rest := []) (ci := 10) (o := 0) rfl ml_L_53 v_X_may (by decide) rfl (by decide) rfl rfl rfl (Nat.le_of_ble_eq_true rfl) (fun x_ e_ => s_X_may G ((zgx G) (l3 + (1 : Int32)).toNatClampNeg) ((zgx G) (l3 + (2 : Int32)).toNatClampNeg) ((zgx G) (l3 + (3 : Int32)).toNatClampNeg) u x_ e_) (fun q3256r q3256u e3257 b3258 => ?_)
                        refine g_aload_n rfl rfl ?_
                        refine g_aload_n rfl rfl ?_
                        refine g_iload_n rfl rfl ?_
                        refine g_iconst (v := (1 : Int32)) rfl zic_1 ?_
                        refine g_iadd rfl ?_
                        refine g_sldX rfl (fun o3259 => ?_)
                        refine g_aload_n rfl rfl ?_
                        refine g_iload_n rfl rfl ?_
                        refine g_iconst (v := (2 : Int32)) rfl zic_2 ?_
                        refine g_iadd rfl ?_
                        refine g_sldX rfl (fun o3260 => ?_)
                        refine g_aload_n rfl rfl ?_
                        refine g_iload_n rfl rfl ?_
                        refine g_iconst (v := (3 : Int32)) rfl zic_3 ?_
                        refine g_iadd rfl ?_
                        refine g_sldX rfl (fun o3261 => ?_)
                        refine g_callVI (M' := m_M_may) (d' := 107) (as := [.int ((zgx G) (l3 + (1 : Int32)).toNatClampNeg), .int ((zgx G) (l3 + (2 : Int32)).toNatClampNeg), .int ((zgx G) (l3 + (3 : Int32)).toNatClampNeg)]) (rest := [.int q3256r]) (ci := 11) (o := 39) rfl ml_L_56 v_M_may (by decide) rfl (by decide) rfl rfl rfl (Nat.le_of_ble_eq_true rfl) (fun x_ e_ => s_M_may G ((zgx G) (l3 + (1 : Int32)).toNatClampNeg) ((zgx G) (l3 + (2 : Int32)).toNatClampNeg) ((zgx G) (l3 + (3 : Int32)).toNatClampNeg) q3256u x_ e_) (fun q3262r q3262u e3263 b3264 => ?_)
                        refine g_icmpeq rfl (fun c3265 => ?_) (fun c3265 => ?_)
                        · refine g_iinc (v := (6 : Int32)) (lv' := [(0, .ref 102), (1, .ref 0), (2, .ref 39), (3, .int (l3 + (6 : Int32)))]) rfl rfl zic_6 (Nat.le_of_ble_eq_true rfl) rfl rfl ?_
                          refine g_goto rfl ?_
                          exact zgo_sub (zsubk [0, 1, 2, 3] rfl) (zgo_leaf (hb (l3 + (6 : Int32)) q3262u))
                        · refine g_iconst (v := (0 : Int32)) rfl zic_0 ?_
                          exact g_iret rfl (Or.inr ⟨rfl, Or.inl rfl⟩) (hr _)
                      · refine zgo_ite (fun c3266 => ?_) (fun c3266 => ?_)
                        · refine g_tswIn rfl c3266 (by decide) (by decide) (off := 465) (by decide +kernel) 252 rfl ?_
                          refine g_aload_n rfl rfl ?_
                          refine g_aload_n rfl rfl ?_
                          refine g_iload_n rfl rfl ?_
                          refine g_iconst (v := (1 : Int32)) rfl zic_1 ?_
                          refine g_iadd rfl ?_
                          refine g_sldX rfl (fun o3267 => ?_)
                          refine g_aload_n rfl rfl ?_
                          refine g_iload_n rfl rfl ?_
                          refine g_iconst (v := (2 : Int32)) rfl zic_2 ?_
                          refine g_iadd rfl ?_
                          refine g_sldX rfl (fun o3268 => ?_)
                          refine g_aload_n rfl rfl ?_
                          refine g_iload_n rfl rfl ?_
                          refine g_iconst (v := (3 : Int32)) rfl zic_3 ?_
                          refine g_iadd rfl ?_
                          refine g_sldX rfl (fun o3269 => ?_)
                          refine g_callVI (M' := m_X_vote) (d' := 6) (as := [.int ((zgx G) (l3 + (1 : Int32)).toNatClampNeg), .int ((zgx G) (l3 + (2 : Int32)).toNatClampNeg), .int ((zgx G) (l3 + (3 : Int32)).toNatClampNeg)]) (rest := []) (ci := 10) (o := 0) rfl ml_L_57 v_X_vote (by decide) rfl (by decide) rfl rfl rfl (Nat.le_of_ble_eq_true rfl) (fun x_ e_ => s_X_vote G ((zgx G) (l3 + (1 : Int32)).toNatClampNeg) ((zgx G) (l3 + (2 : Int32)).toNatClampNeg) ((zgx G) (l3 + (3 : Int32)).toNatClampNeg) u x_ e_) (fun q3270r q3270u e3271 b3272 => ?_)
                          refine g_aload_n rfl rfl ?_
                          refine g_aload_n rfl rfl ?_
                          refine g_iload_n rfl rfl ?_
                          refine g_iconst (v := (1 : Int32)) rfl zic_1 ?_
                          refine g_iadd rfl ?_
                          refine g_sldX rfl (fun o3273 => ?_)
                          refine g_aload_n rfl rfl ?_
                          refine g_iload_n rfl rfl ?_
                          refine g_iconst (v := (2 : Int32)) rfl zic_2 ?_
                          refine g_iadd rfl ?_
                          refine g_sldX rfl (fun o3274 => ?_)
                          refine g_aload_n rfl rfl ?_
                          refine g_iload_n rfl rfl ?_
                          refine g_iconst (v := (3 : Int32)) rfl zic_3 ?_
                          refine g_iadd rfl ?_
                          refine g_sldX rfl (fun o3275 => ?_)
                          refine g_callVI (M' := m_M_vote) (d' := 108) (as := [.int ((zgx G) (l3 + (1 : Int32)).toNatClampNeg), .int ((zgx G) (l3 + (2 : Int32)).toNatClampNeg), .int ((zgx G) (l3 + (3 : Int32)).toNatClampNeg)]) (rest := [.int q3270r]) (ci := 11) (o := 39) rfl ml_L_60 v_M_vote (by decide) rfl (by decide) rfl rfl rfl (Nat.le_of_ble_eq_true rfl) (fun x_ e_ => s_M_vote G ((zgx G) (l3 + (1 : Int32)).toNatClampNeg) ((zgx G) (l3 + (2 : Int32)).toNatClampNeg) ((zgx G) (l3 + (3 : Int32)).toNatClampNeg) q3270u x_ e_) (fun q3276r q3276u e3277 b3278 => ?_)
                          refine g_icmpeq rfl (fun c3279 => ?_) (fun c3279 => ?_)
                          · refine g_iinc (v := (6 : Int32)) (lv' := [(0, .ref 102), (1, .ref 0), (2, .ref 39), (3, .int (l3 + (6 : Int32)))]) rfl rfl zic_6 (Nat.le_of_ble_eq_true rfl) rfl rfl ?_
                            refine g_goto rfl ?_
                            exact zgo_sub (zsubk [0, 1, 2, 3] rfl) (zgo_leaf (hb (l3 + (6 : Int32)) q3276u))
                          · refine g_iconst (v := (0 : Int32)) rfl zic_0 ?_
                            exact g_iret rfl (Or.inr ⟨rfl, Or.inl rfl⟩) (hr _)
                        · refine zgo_ite (fun c3280 => ?_) (fun c3280 => ?_)
                          · refine g_tswIn rfl c3280 (by decide) (by decide) (off := 508) (by decide +kernel) 289 rfl ?_
                            refine g_aload_n rfl rfl ?_
                            refine g_aload_n rfl rfl ?_
                            refine g_iload_n rfl rfl ?_
                            refine g_iconst (v := (1 : Int32)) rfl zic_1 ?_
                            refine g_iadd rfl ?_
                            refine g_sldX rfl (fun o3281 => ?_)
                            refine g_callVI (M' := m_X_together) (d' := 7) (as := [.int ((zgx G) (l3 + (1 : Int32)).toNatClampNeg)]) (rest := []) (ci := 10) (o := 0) rfl ml_L_61 v_X_together (by decide) rfl (by decide) rfl rfl rfl (Nat.le_of_ble_eq_true rfl) (fun x_ e_ => s_X_together G ((zgx G) (l3 + (1 : Int32)).toNatClampNeg) u x_ e_) (fun q3282r q3282u e3283 b3284 => ?_)
                            refine g_aload_n rfl rfl ?_
                            refine g_aload_n rfl rfl ?_
                            refine g_iload_n rfl rfl ?_
                            refine g_iconst (v := (1 : Int32)) rfl zic_1 ?_
                            refine g_iadd rfl ?_
                            refine g_sldX rfl (fun o3285 => ?_)
                            refine g_callVI (M' := m_M_together) (d' := 108) (as := [.int ((zgx G) (l3 + (1 : Int32)).toNatClampNeg)]) (rest := [.int q3282r]) (ci := 11) (o := 39) rfl ml_L_64 v_M_together (by decide) rfl (by decide) rfl rfl rfl (Nat.le_of_ble_eq_true rfl) (fun x_ e_ => s_M_together G ((zgx G) (l3 + (1 : Int32)).toNatClampNeg) q3282u x_ e_) (fun q3286r q3286u e3287 b3288 => ?_)
                            refine g_icmpeq rfl (fun c3289 => ?_) (fun c3289 => ?_)
                            · refine g_iinc (v := (6 : Int32)) (lv' := [(0, .ref 102), (1, .ref 0), (2, .ref 39), (3, .int (l3 + (6 : Int32)))]) rfl rfl zic_6 (Nat.le_of_ble_eq_true rfl) rfl rfl ?_
                              refine g_goto rfl ?_
                              exact zgo_sub (zsubk [0, 1, 2, 3] rfl) (zgo_leaf (hb (l3 + (6 : Int32)) q3286u))
                            · refine g_iconst (v := (0 : Int32)) rfl zic_0 ?_
                              exact g_iret rfl (Or.inr ⟨rfl, Or.inl rfl⟩) (hr _)
                          · refine zgo_ite (fun c3290 => ?_) (fun c3290 => ?_)
                            · refine g_tswIn rfl c3290 (by decide) (by decide) (off := 531) (by decide +kernel) 306 rfl ?_
                              refine g_aload_n rfl rfl ?_
                              refine g_aload_n rfl rfl ?_
                              refine g_iload_n rfl rfl ?_
                              refine g_iconst (v := (1 : Int32)) rfl zic_1 ?_
                              refine g_iadd rfl ?_
                              refine g_sldX rfl (fun o3291 => ?_)
                              refine g_aload_n rfl rfl ?_
                              refine g_iload_n rfl rfl ?_
                              refine g_iconst (v := (2 : Int32)) rfl zic_2 ?_
                              refine g_iadd rfl ?_
                              refine g_sldX rfl (fun o3292 => ?_)
                              refine g_callVI (M' := m_X_silenced) (d' := 7) (as := [.int ((zgx G) (l3 + (1 : Int32)).toNatClampNeg), .int ((zgx G) (l3 + (2 : Int32)).toNatClampNeg)]) (rest := []) (ci := 10) (o := 0) rfl ml_L_65 v_X_silenced (by decide) rfl (by decide) rfl rfl rfl (Nat.le_of_ble_eq_true rfl) (fun x_ e_ => s_X_silenced G ((zgx G) (l3 + (1 : Int32)).toNatClampNeg) ((zgx G) (l3 + (2 : Int32)).toNatClampNeg) u x_ e_) (fun q3293r q3293u e3294 b3295 => ?_)
                              refine g_aload_n rfl rfl ?_
                              refine g_aload_n rfl rfl ?_
                              refine g_iload_n rfl rfl ?_
                              refine g_iconst (v := (1 : Int32)) rfl zic_1 ?_
                              refine g_iadd rfl ?_
                              refine g_sldX rfl (fun o3296 => ?_)
                              refine g_aload_n rfl rfl ?_
                              refine g_iload_n rfl rfl ?_
                              refine g_iconst (v := (2 : Int32)) rfl zic_2 ?_
                              refine g_iadd rfl ?_
                              refine g_sldX rfl (fun o3297 => ?_)
                              refine g_callVI (M' := m_M_silenced) (d' := 108) (as := [.int ((zgx G) (l3 + (1 : Int32)).toNatClampNeg), .int ((zgx G) (l3 + (2 : Int32)).toNatClampNeg)]) (rest := [.int q3293r]) (ci := 11) (o := 39) rfl ml_L_68 v_M_silenced (by decide) rfl (by decide) rfl rfl rfl (Nat.le_of_ble_eq_true rfl) (fun x_ e_ => s_M_silenced G ((zgx G) (l3 + (1 : Int32)).toNatClampNeg) ((zgx G) (l3 + (2 : Int32)).toNatClampNeg) q3293u x_ e_) (fun q3298r q3298u e3299 b3300 => ?_)
                              refine g_icmpeq rfl (fun c3301 => ?_) (fun c3301 => ?_)
                              · refine g_iinc (v := (6 : Int32)) (lv' := [(0, .ref 102), (1, .ref 0), (2, .ref 39), (3, .int (l3 + (6 : Int32)))]) rfl rfl zic_6 (Nat.le_of_ble_eq_true rfl) rfl rfl ?_
                                refine g_goto rfl ?_
                                exact zgo_sub (zsubk [0, 1, 2, 3] rfl) (zgo_leaf (hb (l3 + (6 : Int32)) q3298u))
                              · refine g_iconst (v := (0 : Int32)) rfl zic_0 ?_
                                exact g_iret rfl (Or.inr ⟨rfl, Or.inl rfl⟩) (hr _)
                            · refine zgo_ite (fun c3302 => ?_) (fun c3302 => ?_)
                              · refine g_tswIn rfl c3302 (by decide) (by decide) (off := 564) (by decide +kernel) 333 rfl ?_
                                refine g_aload_n rfl rfl ?_
                                refine g_aload_n rfl rfl ?_
                                refine g_iload_n rfl rfl ?_
                                refine g_iconst (v := (1 : Int32)) rfl zic_1 ?_
                                refine g_iadd rfl ?_
                                refine g_sldX rfl (fun o3303 => ?_)
                                refine g_aload_n rfl rfl ?_
                                refine g_iload_n rfl rfl ?_
                                refine g_iconst (v := (2 : Int32)) rfl zic_2 ?_
                                refine g_iadd rfl ?_
                                refine g_sldX rfl (fun o3304 => ?_)
                                refine g_callVI (M' := m_X_leaveOut) (d' := 6) (as := [.int ((zgx G) (l3 + (1 : Int32)).toNatClampNeg), .int ((zgx G) (l3 + (2 : Int32)).toNatClampNeg)]) (rest := []) (ci := 10) (o := 0) rfl ml_L_69 v_X_leaveOut (by decide) rfl (by decide) rfl rfl rfl (Nat.le_of_ble_eq_true rfl) (fun x_ e_ => s_X_leaveOut G ((zgx G) (l3 + (1 : Int32)).toNatClampNeg) ((zgx G) (l3 + (2 : Int32)).toNatClampNeg) u x_ e_) (fun q3305r q3305u e3306 b3307 => ?_)
                                refine g_aload_n rfl rfl ?_
                                refine g_aload_n rfl rfl ?_
                                refine g_iload_n rfl rfl ?_
                                refine g_iconst (v := (1 : Int32)) rfl zic_1 ?_
                                refine g_iadd rfl ?_
                                refine g_sldX rfl (fun o3308 => ?_)
                                refine g_aload_n rfl rfl ?_
                                refine g_iload_n rfl rfl ?_
                                refine g_iconst (v := (2 : Int32)) rfl zic_2 ?_
                                refine g_iadd rfl ?_
                                refine g_sldX rfl (fun o3309 => ?_)
                                refine g_callVI (M' := m_M_leaveOut) (d' := 107) (as := [.int ((zgx G) (l3 + (1 : Int32)).toNatClampNeg), .int ((zgx G) (l3 + (2 : Int32)).toNatClampNeg)]) (rest := [.int q3305r]) (ci := 11) (o := 39) rfl ml_L_72 v_M_leaveOut (by decide) rfl (by decide) rfl rfl rfl (Nat.le_of_ble_eq_true rfl) (fun x_ e_ => s_M_leaveOut G ((zgx G) (l3 + (1 : Int32)).toNatClampNeg) ((zgx G) (l3 + (2 : Int32)).toNatClampNeg) q3305u x_ e_) (fun q3310r q3310u e3311 b3312 => ?_)
                                refine g_icmpeq rfl (fun c3313 => ?_) (fun c3313 => ?_)
                                · refine g_iinc (v := (6 : Int32)) (lv' := [(0, .ref 102), (1, .ref 0), (2, .ref 39), (3, .int (l3 + (6 : Int32)))]) rfl rfl zic_6 (Nat.le_of_ble_eq_true rfl) rfl rfl ?_
                                  refine g_goto rfl ?_
                                  exact zgo_sub (zsubk [0, 1, 2, 3] rfl) (zgo_leaf (hb (l3 + (6 : Int32)) q3310u))
                                · refine g_iconst (v := (0 : Int32)) rfl zic_0 ?_
                                  exact g_iret rfl (Or.inr ⟨rfl, Or.inl rfl⟩) (hr _)
                              · refine zgo_ite (fun c3314 => ?_) (fun c3314 => ?_)
                                · refine g_tswIn rfl c3314 (by decide) (by decide) (off := 597) (by decide +kernel) 360 rfl ?_
                                  refine g_aload_n rfl rfl ?_
                                  refine g_callVI (M' := m_X_alone) (d' := 7) (as := []) (rest := []) (ci := 10) (o := 0) rfl ml_L_73 v_X_alone (by decide) rfl (by decide) rfl rfl rfl (Nat.le_of_ble_eq_true rfl) (fun x_ e_ => s_X_alone G  u x_ e_) (fun q3315r q3315u e3316 b3317 => ?_)
                                  refine g_aload_n rfl rfl ?_
                                  refine g_callVI (M' := m_M_alone) (d' := 108) (as := []) (rest := [.int q3315r]) (ci := 11) (o := 39) rfl ml_L_76 v_M_alone (by decide) rfl (by decide) rfl rfl rfl (Nat.le_of_ble_eq_true rfl) (fun x_ e_ => s_M_alone G  q3315u x_ e_) (fun q3318r q3318u e3319 b3320 => ?_)
                                  refine g_icmpeq rfl (fun c3321 => ?_) (fun c3321 => ?_)
                                  · refine g_iinc (v := (6 : Int32)) (lv' := [(0, .ref 102), (1, .ref 0), (2, .ref 39), (3, .int (l3 + (6 : Int32)))]) rfl rfl zic_6 (Nat.le_of_ble_eq_true rfl) rfl rfl ?_
                                    refine g_goto rfl ?_
                                    exact zgo_sub (zsubk [0, 1, 2, 3] rfl) (zgo_leaf (hb (l3 + (6 : Int32)) q3318u))
                                  · refine g_iconst (v := (0 : Int32)) rfl zic_0 ?_
                                    exact g_iret rfl (Or.inr ⟨rfl, Or.inl rfl⟩) (hr _)
                                · refine zgo_ite (fun c3322 => ?_) (fun c3322 => ?_)
                                  · refine g_tswIn rfl c3322 (by decide) (by decide) (off := 610) (by decide +kernel) 367 rfl ?_
                                    refine g_aload_n rfl rfl ?_
                                    refine g_aload_n rfl rfl ?_
                                    refine g_iload_n rfl rfl ?_
                                    refine g_iconst (v := (1 : Int32)) rfl zic_1 ?_
                                    refine g_iadd rfl ?_
                                    refine g_sldX rfl (fun o3323 => ?_)
                                    refine g_callVI (M' := m_X_parted) (d' := 7) (as := [.int ((zgx G) (l3 + (1 : Int32)).toNatClampNeg)]) (rest := []) (ci := 10) (o := 0) rfl ml_L_77 v_X_parted (by decide) rfl (by decide) rfl rfl rfl (Nat.le_of_ble_eq_true rfl) (fun x_ e_ => s_X_parted G ((zgx G) (l3 + (1 : Int32)).toNatClampNeg) u x_ e_) (fun q3324r q3324u e3325 b3326 => ?_)
                                    refine g_aload_n rfl rfl ?_
                                    refine g_aload_n rfl rfl ?_
                                    refine g_iload_n rfl rfl ?_
                                    refine g_iconst (v := (1 : Int32)) rfl zic_1 ?_
                                    refine g_iadd rfl ?_
                                    refine g_sldX rfl (fun o3327 => ?_)
                                    refine g_callVI (M' := m_M_parted) (d' := 109) (as := [.int ((zgx G) (l3 + (1 : Int32)).toNatClampNeg)]) (rest := [.int q3324r]) (ci := 11) (o := 39) rfl ml_L_80 v_M_parted (by decide) rfl (by decide) rfl rfl rfl (Nat.le_of_ble_eq_true rfl) (fun x_ e_ => s_M_parted G ((zgx G) (l3 + (1 : Int32)).toNatClampNeg) q3324u x_ e_) (fun q3328r q3328u e3329 b3330 => ?_)
                                    refine g_icmpeq rfl (fun c3331 => ?_) (fun c3331 => ?_)
                                    · refine g_iinc (v := (6 : Int32)) (lv' := [(0, .ref 102), (1, .ref 0), (2, .ref 39), (3, .int (l3 + (6 : Int32)))]) rfl rfl zic_6 (Nat.le_of_ble_eq_true rfl) rfl rfl ?_
                                      refine g_goto rfl ?_
                                      exact zgo_sub (zsubk [0, 1, 2, 3] rfl) (zgo_leaf (hb (l3 + (6 : Int32)) q3328u))
                                    · refine g_iconst (v := (0 : Int32)) rfl zic_0 ?_
                                      exact g_iret rfl (Or.inr ⟨rfl, Or.inl rfl⟩) (hr _)
                                  · refine zgo_ite (fun c3332 => ?_) (fun c3332 => ?_)
                                    · refine g_tswIn rfl c3332 (by decide) (by decide) (off := 633) (by decide +kernel) 384 rfl ?_
                                      refine g_aload_n rfl rfl ?_
                                      refine g_aload_n rfl rfl ?_
                                      refine g_iload_n rfl rfl ?_
                                      refine g_iconst (v := (1 : Int32)) rfl zic_1 ?_
                                      refine g_iadd rfl ?_
                                      refine g_sldX rfl (fun o3333 => ?_)
                                      refine g_aload_n rfl rfl ?_
                                      refine g_iload_n rfl rfl ?_
                                      refine g_iconst (v := (2 : Int32)) rfl zic_2 ?_
                                      refine g_iadd rfl ?_
                                      refine g_sldX rfl (fun o3334 => ?_)
                                      refine g_callVI (M' := m_X_say) (d' := 7) (as := [.int ((zgx G) (l3 + (1 : Int32)).toNatClampNeg), .int ((zgx G) (l3 + (2 : Int32)).toNatClampNeg)]) (rest := []) (ci := 10) (o := 0) rfl ml_L_81 v_X_say (by decide) rfl (by decide) rfl rfl rfl (Nat.le_of_ble_eq_true rfl) (fun x_ e_ => s_X_say G ((zgx G) (l3 + (1 : Int32)).toNatClampNeg) ((zgx G) (l3 + (2 : Int32)).toNatClampNeg) u x_ e_) (fun q3335r q3335u e3336 b3337 => ?_)
                                      refine g_aload_n rfl rfl ?_
                                      refine g_aload_n rfl rfl ?_
                                      refine g_iload_n rfl rfl ?_
                                      refine g_iconst (v := (1 : Int32)) rfl zic_1 ?_
                                      refine g_iadd rfl ?_
                                      refine g_sldX rfl (fun o3338 => ?_)
                                      refine g_aload_n rfl rfl ?_
                                      refine g_iload_n rfl rfl ?_
                                      refine g_iconst (v := (2 : Int32)) rfl zic_2 ?_
                                      refine g_iadd rfl ?_
                                      refine g_sldX rfl (fun o3339 => ?_)
                                      refine g_callVI (M' := m_M_say) (d' := 109) (as := [.int ((zgx G) (l3 + (1 : Int32)).toNatClampNeg), .int ((zgx G) (l3 + (2 : Int32)).toNatClampNeg)]) (rest := [.int q3335r]) (ci := 11) (o := 39) rfl ml_L_84 v_M_say (by decide) rfl (by decide) rfl rfl rfl (Nat.le_of_ble_eq_true rfl) (fun x_ e_ => s_M_say G ((zgx G) (l3 + (1 : Int32)).toNatClampNeg) ((zgx G) (l3 + (2 : Int32)).toNatClampNeg) q3335u x_ e_) (fun q3340r q3340u e3341 b3342 => ?_)
                                      refine g_icmpeq rfl (fun c3343 => ?_) (fun c3343 => ?_)
                                      · refine g_iinc (v := (6 : Int32)) (lv' := [(0, .ref 102), (1, .ref 0), (2, .ref 39), (3, .int (l3 + (6 : Int32)))]) rfl rfl zic_6 (Nat.le_of_ble_eq_true rfl) rfl rfl ?_
                                        refine g_goto rfl ?_
                                        exact zgo_sub (zsubk [0, 1, 2, 3] rfl) (zgo_leaf (hb (l3 + (6 : Int32)) q3340u))
                                      · refine g_iconst (v := (0 : Int32)) rfl zic_0 ?_
                                        exact g_iret rfl (Or.inr ⟨rfl, Or.inl rfl⟩) (hr _)
                                    · refine zgo_ite (fun c3344 => ?_) (fun c3344 => ?_)
                                      · refine g_tswIn rfl c3344 (by decide) (by decide) (off := 666) (by decide +kernel) 411 rfl ?_
                                        refine g_aload_n rfl rfl ?_
                                        refine g_callVI (M' := m_X_hermit) (d' := 7) (as := []) (rest := []) (ci := 10) (o := 0) rfl ml_L_85 v_X_hermit (by decide) rfl (by decide) rfl rfl rfl (Nat.le_of_ble_eq_true rfl) (fun x_ e_ => s_X_hermit G  u x_ e_) (fun q3345r q3345u e3346 b3347 => ?_)
                                        refine g_aload_n rfl rfl ?_
                                        refine g_callVI (M' := m_M_hermit) (d' := 109) (as := []) (rest := [.int q3345r]) (ci := 11) (o := 39) rfl ml_L_88 v_M_hermit (by decide) rfl (by decide) rfl rfl rfl (Nat.le_of_ble_eq_true rfl) (fun x_ e_ => s_M_hermit G  q3345u x_ e_) (fun q3348r q3348u e3349 b3350 => ?_)
                                        refine g_icmpeq rfl (fun c3351 => ?_) (fun c3351 => ?_)
                                        · refine g_iinc (v := (6 : Int32)) (lv' := [(0, .ref 102), (1, .ref 0), (2, .ref 39), (3, .int (l3 + (6 : Int32)))]) rfl rfl zic_6 (Nat.le_of_ble_eq_true rfl) rfl rfl ?_
                                          refine g_goto rfl ?_
                                          exact zgo_sub (zsubk [0, 1, 2, 3] rfl) (zgo_leaf (hb (l3 + (6 : Int32)) q3348u))
                                        · refine g_iconst (v := (0 : Int32)) rfl zic_0 ?_
                                          exact g_iret rfl (Or.inr ⟨rfl, Or.inl rfl⟩) (hr _)
                                      · refine zgo_ite (fun c3352 => ?_) (fun c3352 => ?_)
                                        · refine g_tswIn rfl c3352 (by decide) (by decide) (off := 679) (by decide +kernel) 418 rfl ?_
                                          refine g_aload_n rfl rfl ?_
                                          refine g_aload_n rfl rfl ?_
                                          refine g_iload_n rfl rfl ?_
                                          refine g_iconst (v := (1 : Int32)) rfl zic_1 ?_
                                          refine g_iadd rfl ?_
                                          refine g_sldX rfl (fun o3353 => ?_)
                                          refine g_aload_n rfl rfl ?_
                                          refine g_iload_n rfl rfl ?_
                                          refine g_iconst (v := (2 : Int32)) rfl zic_2 ?_
                                          refine g_iadd rfl ?_
                                          refine g_sldX rfl (fun o3354 => ?_)
                                          refine g_callVI (M' := m_X_chance) (d' := 6) (as := [.int ((zgx G) (l3 + (1 : Int32)).toNatClampNeg), .int ((zgx G) (l3 + (2 : Int32)).toNatClampNeg)]) (rest := []) (ci := 10) (o := 0) rfl ml_L_89 v_X_chance (by decide) rfl (by decide) rfl rfl rfl (Nat.le_of_ble_eq_true rfl) (fun x_ e_ => s_X_chance G ((zgx G) (l3 + (1 : Int32)).toNatClampNeg) ((zgx G) (l3 + (2 : Int32)).toNatClampNeg) u x_ e_) (fun q3355r q3355u e3356 b3357 => ?_)
                                          refine g_aload_n rfl rfl ?_
                                          refine g_aload_n rfl rfl ?_
                                          refine g_iload_n rfl rfl ?_
                                          refine g_iconst (v := (1 : Int32)) rfl zic_1 ?_
                                          refine g_iadd rfl ?_
                                          refine g_sldX rfl (fun o3358 => ?_)
                                          refine g_aload_n rfl rfl ?_
                                          refine g_iload_n rfl rfl ?_
                                          refine g_iconst (v := (2 : Int32)) rfl zic_2 ?_
                                          refine g_iadd rfl ?_
                                          refine g_sldX rfl (fun o3359 => ?_)
                                          refine g_callVI (M' := m_M_chance) (d' := 107) (as := [.int ((zgx G) (l3 + (1 : Int32)).toNatClampNeg), .int ((zgx G) (l3 + (2 : Int32)).toNatClampNeg)]) (rest := [.int q3355r]) (ci := 11) (o := 39) rfl ml_L_92 v_M_chance (by decide) rfl (by decide) rfl rfl rfl (Nat.le_of_ble_eq_true rfl) (fun x_ e_ => s_M_chance G ((zgx G) (l3 + (1 : Int32)).toNatClampNeg) ((zgx G) (l3 + (2 : Int32)).toNatClampNeg) q3355u x_ e_) (fun q3360r q3360u e3361 b3362 => ?_)
                                          refine g_icmpeq rfl (fun c3363 => ?_) (fun c3363 => ?_)
                                          · refine g_iinc (v := (6 : Int32)) (lv' := [(0, .ref 102), (1, .ref 0), (2, .ref 39), (3, .int (l3 + (6 : Int32)))]) rfl rfl zic_6 (Nat.le_of_ble_eq_true rfl) rfl rfl ?_
                                            refine g_goto rfl ?_
                                            exact zgo_sub (zsubk [0, 1, 2, 3] rfl) (zgo_leaf (hb (l3 + (6 : Int32)) q3360u))
                                          · refine g_iconst (v := (0 : Int32)) rfl zic_0 ?_
                                            exact g_iret rfl (Or.inr ⟨rfl, Or.inl rfl⟩) (hr _)
                                        · refine zgo_ite (fun c3364 => ?_) (fun c3364 => ?_)
                                          · refine g_tswIn rfl c3364 (by decide) (by decide) (off := 712) (by decide +kernel) 445 rfl ?_
                                            refine g_aload_n rfl rfl ?_
                                            refine g_aload_n rfl rfl ?_
                                            refine g_iload_n rfl rfl ?_
                                            refine g_iconst (v := (1 : Int32)) rfl zic_1 ?_
                                            refine g_iadd rfl ?_
                                            refine g_sldX rfl (fun o3365 => ?_)
                                            refine g_callVI (M' := m_X_lies) (d' := 6) (as := [.int ((zgx G) (l3 + (1 : Int32)).toNatClampNeg)]) (rest := []) (ci := 10) (o := 0) rfl ml_L_93 v_X_lies (by decide) rfl (by decide) rfl rfl rfl (Nat.le_of_ble_eq_true rfl) (fun x_ e_ => s_X_lies G ((zgx G) (l3 + (1 : Int32)).toNatClampNeg) u x_ e_) (fun q3366r q3366u e3367 b3368 => ?_)
                                            refine g_aload_n rfl rfl ?_
                                            refine g_aload_n rfl rfl ?_
                                            refine g_iload_n rfl rfl ?_
                                            refine g_iconst (v := (1 : Int32)) rfl zic_1 ?_
                                            refine g_iadd rfl ?_
                                            refine g_sldX rfl (fun o3369 => ?_)
                                            refine g_callVI (M' := m_M_lies) (d' := 108) (as := [.int ((zgx G) (l3 + (1 : Int32)).toNatClampNeg)]) (rest := [.int q3366r]) (ci := 11) (o := 39) rfl ml_L_96 v_M_lies (by decide) rfl (by decide) rfl rfl rfl (Nat.le_of_ble_eq_true rfl) (fun x_ e_ => s_M_lies G ((zgx G) (l3 + (1 : Int32)).toNatClampNeg) q3366u x_ e_) (fun q3370r q3370u e3371 b3372 => ?_)
                                            refine g_icmpeq rfl (fun c3373 => ?_) (fun c3373 => ?_)
                                            · refine g_iinc (v := (6 : Int32)) (lv' := [(0, .ref 102), (1, .ref 0), (2, .ref 39), (3, .int (l3 + (6 : Int32)))]) rfl rfl zic_6 (Nat.le_of_ble_eq_true rfl) rfl rfl ?_
                                              refine g_goto rfl ?_
                                              exact zgo_sub (zsubk [0, 1, 2, 3] rfl) (zgo_leaf (hb (l3 + (6 : Int32)) q3370u))
                                            · refine g_iconst (v := (0 : Int32)) rfl zic_0 ?_
                                              exact g_iret rfl (Or.inr ⟨rfl, Or.inl rfl⟩) (hr _)
                                          · refine zgo_ite (fun c3374 => ?_) (fun c3374 => ?_)
                                            · refine g_tswIn rfl c3374 (by decide) (by decide) (off := 735) (by decide +kernel) 462 rfl ?_
                                              refine g_aload_n rfl rfl ?_
                                              refine g_aload_n rfl rfl ?_
                                              refine g_iload_n rfl rfl ?_
                                              refine g_iconst (v := (1 : Int32)) rfl zic_1 ?_
                                              refine g_iadd rfl ?_
                                              refine g_sldX rfl (fun o3375 => ?_)
                                              refine g_aload_n rfl rfl ?_
                                              refine g_iload_n rfl rfl ?_
                                              refine g_iconst (v := (2 : Int32)) rfl zic_2 ?_
                                              refine g_iadd rfl ?_
                                              refine g_sldX rfl (fun o3376 => ?_)
                                              refine g_callVI (M' := m_X_step) (d' := 6) (as := [.int ((zgx G) (l3 + (1 : Int32)).toNatClampNeg), .int ((zgx G) (l3 + (2 : Int32)).toNatClampNeg)]) (rest := []) (ci := 10) (o := 0) rfl ml_L_97 v_X_step (by decide) rfl (by decide) rfl rfl rfl (Nat.le_of_ble_eq_true rfl) (fun x_ e_ => s_X_step G ((zgx G) (l3 + (1 : Int32)).toNatClampNeg) ((zgx G) (l3 + (2 : Int32)).toNatClampNeg) u x_ e_) (fun q3377r q3377u e3378 b3379 => ?_)
                                              refine g_aload_n rfl rfl ?_
                                              refine g_aload_n rfl rfl ?_
                                              refine g_iload_n rfl rfl ?_
                                              refine g_iconst (v := (1 : Int32)) rfl zic_1 ?_
                                              refine g_iadd rfl ?_
                                              refine g_sldX rfl (fun o3380 => ?_)
                                              refine g_aload_n rfl rfl ?_
                                              refine g_iload_n rfl rfl ?_
                                              refine g_iconst (v := (2 : Int32)) rfl zic_2 ?_
                                              refine g_iadd rfl ?_
                                              refine g_sldX rfl (fun o3381 => ?_)
                                              refine g_callVI (M' := m_M_step) (d' := 4) (as := [.int ((zgx G) (l3 + (1 : Int32)).toNatClampNeg), .int ((zgx G) (l3 + (2 : Int32)).toNatClampNeg)]) (rest := [.int q3377r]) (ci := 11) (o := 39) rfl ml_L_100 v_M_step (by decide) rfl (by decide) rfl rfl rfl (Nat.le_of_ble_eq_true rfl) (fun x_ e_ => s_M_step G ((zgx G) (l3 + (1 : Int32)).toNatClampNeg) ((zgx G) (l3 + (2 : Int32)).toNatClampNeg) q3377u x_ e_) (fun q3382r q3382u e3383 b3384 => ?_)
                                              refine g_icmpeq rfl (fun c3385 => ?_) (fun c3385 => ?_)
                                              · refine g_iinc (v := (6 : Int32)) (lv' := [(0, .ref 102), (1, .ref 0), (2, .ref 39), (3, .int (l3 + (6 : Int32)))]) rfl rfl zic_6 (Nat.le_of_ble_eq_true rfl) rfl rfl ?_
                                                refine g_goto rfl ?_
                                                exact zgo_sub (zsubk [0, 1, 2, 3] rfl) (zgo_leaf (hb (l3 + (6 : Int32)) q3382u))
                                              · refine g_iconst (v := (0 : Int32)) rfl zic_0 ?_
                                                exact g_iret rfl (Or.inr ⟨rfl, Or.inl rfl⟩) (hr _)
                                            · refine zgo_ite (fun c3386 => ?_) (fun c3386 => ?_)
                                              · refine g_tswIn rfl c3386 (by decide) (by decide) (off := 768) (by decide +kernel) 489 rfl ?_
                                                refine g_aload_n rfl rfl ?_
                                                refine g_aload_n rfl rfl ?_
                                                refine g_iload_n rfl rfl ?_
                                                refine g_iconst (v := (1 : Int32)) rfl zic_1 ?_
                                                refine g_iadd rfl ?_
                                                refine g_sldX rfl (fun o3387 => ?_)
                                                refine g_aload_n rfl rfl ?_
                                                refine g_iload_n rfl rfl ?_
                                                refine g_iconst (v := (2 : Int32)) rfl zic_2 ?_
                                                refine g_iadd rfl ?_
                                                refine g_sldX rfl (fun o3388 => ?_)
                                                refine g_aload_n rfl rfl ?_
                                                refine g_iload_n rfl rfl ?_
                                                refine g_iconst (v := (3 : Int32)) rfl zic_3 ?_
                                                refine g_iadd rfl ?_
                                                refine g_sldX rfl (fun o3389 => ?_)
                                                refine g_callVP (M' := m_X_lots) (d' := 6) (as := [.int ((zgx G) (l3 + (1 : Int32)).toNatClampNeg), .int ((zgx G) (l3 + (2 : Int32)).toNatClampNeg), .int ((zgx G) (l3 + (3 : Int32)).toNatClampNeg)]) (rest := []) (ci := 10) (o := 0) rfl ml_L_101 v_X_lots (by decide) rfl (by decide) rfl rfl rfl (Nat.le_of_ble_eq_true rfl) (fun x_ e_ => s_X_lots G ((zgx G) (l3 + (1 : Int32)).toNatClampNeg) ((zgx G) (l3 + (2 : Int32)).toNatClampNeg) ((zgx G) (l3 + (3 : Int32)).toNatClampNeg) u x_ e_) (fun q3390 e3391 b3392 => ?_)
                                                refine g_aload_n rfl rfl ?_
                                                refine g_aload_n rfl rfl ?_
                                                refine g_iload_n rfl rfl ?_
                                                refine g_iconst (v := (1 : Int32)) rfl zic_1 ?_
                                                refine g_iadd rfl ?_
                                                refine g_sldX rfl (fun o3393 => ?_)
                                                refine g_aload_n rfl rfl ?_
                                                refine g_iload_n rfl rfl ?_
                                                refine g_iconst (v := (2 : Int32)) rfl zic_2 ?_
                                                refine g_iadd rfl ?_
                                                refine g_sldX rfl (fun o3394 => ?_)
                                                refine g_aload_n rfl rfl ?_
                                                refine g_iload_n rfl rfl ?_
                                                refine g_iconst (v := (3 : Int32)) rfl zic_3 ?_
                                                refine g_iadd rfl ?_
                                                refine g_sldX rfl (fun o3395 => ?_)
                                                refine g_callVI (M' := m_M_lots) (d' := 4) (as := [.int ((zgx G) (l3 + (1 : Int32)).toNatClampNeg), .int ((zgx G) (l3 + (2 : Int32)).toNatClampNeg), .int ((zgx G) (l3 + (3 : Int32)).toNatClampNeg)]) (rest := [.int q3390]) (ci := 11) (o := 39) rfl ml_L_104 v_M_lots (by decide) rfl (by decide) rfl rfl rfl (Nat.le_of_ble_eq_true rfl) (fun x_ e_ => s_M_lots G ((zgx G) (l3 + (1 : Int32)).toNatClampNeg) ((zgx G) (l3 + (2 : Int32)).toNatClampNeg) ((zgx G) (l3 + (3 : Int32)).toNatClampNeg) u x_ e_) (fun q3396r q3396u e3397 b3398 => ?_)
                                                refine g_icmpeq rfl (fun c3399 => ?_) (fun c3399 => ?_)
                                                · refine g_iinc (v := (6 : Int32)) (lv' := [(0, .ref 102), (1, .ref 0), (2, .ref 39), (3, .int (l3 + (6 : Int32)))]) rfl rfl zic_6 (Nat.le_of_ble_eq_true rfl) rfl rfl ?_
                                                  refine g_goto rfl ?_
                                                  exact zgo_sub (zsubk [0, 1, 2, 3] rfl) (zgo_leaf (hb (l3 + (6 : Int32)) q3396u))
                                                · refine g_iconst (v := (0 : Int32)) rfl zic_0 ?_
                                                  exact g_iret rfl (Or.inr ⟨rfl, Or.inl rfl⟩) (hr _)
                                              · refine zgo_ite (fun c3400 => ?_) (fun c3400 => ?_)
                                                · refine g_tswIn rfl c3400 (by decide) (by decide) (off := 811) (by decide +kernel) 526 rfl ?_
                                                  refine g_aload_n rfl rfl ?_
                                                  refine g_aload_n rfl rfl ?_
                                                  refine g_iload_n rfl rfl ?_
                                                  refine g_iconst (v := (1 : Int32)) rfl zic_1 ?_
                                                  refine g_iadd rfl ?_
                                                  refine g_sldX rfl (fun o3401 => ?_)
                                                  refine g_callVI (M' := m_X_judge) (d' := 7) (as := [.int ((zgx G) (l3 + (1 : Int32)).toNatClampNeg)]) (rest := []) (ci := 10) (o := 0) rfl ml_L_105 v_X_judge (by decide) rfl (by decide) rfl rfl rfl (Nat.le_of_ble_eq_true rfl) (fun x_ e_ => s_X_judge G ((zgx G) (l3 + (1 : Int32)).toNatClampNeg) u x_ e_) (fun q3402r q3402u e3403 b3404 => ?_)
                                                  refine g_aload_n rfl rfl ?_
                                                  refine g_aload_n rfl rfl ?_
                                                  refine g_iload_n rfl rfl ?_
                                                  refine g_iconst (v := (1 : Int32)) rfl zic_1 ?_
                                                  refine g_iadd rfl ?_
                                                  refine g_sldX rfl (fun o3405 => ?_)
                                                  refine g_callVI (M' := m_M_judge) (d' := 107) (as := [.int ((zgx G) (l3 + (1 : Int32)).toNatClampNeg)]) (rest := [.int q3402r]) (ci := 11) (o := 39) rfl ml_L_108 v_M_judge (by decide) rfl (by decide) rfl rfl rfl (Nat.le_of_ble_eq_true rfl) (fun x_ e_ => s_M_judge G ((zgx G) (l3 + (1 : Int32)).toNatClampNeg) q3402u x_ e_) (fun q3406r q3406u e3407 b3408 => ?_)
                                                  refine g_icmpeq rfl (fun c3409 => ?_) (fun c3409 => ?_)
                                                  · refine g_iinc (v := (6 : Int32)) (lv' := [(0, .ref 102), (1, .ref 0), (2, .ref 39), (3, .int (l3 + (6 : Int32)))]) rfl rfl zic_6 (Nat.le_of_ble_eq_true rfl) rfl rfl ?_
                                                    refine g_goto rfl ?_
                                                    exact zgo_sub (zsubk [0, 1, 2, 3] rfl) (zgo_leaf (hb (l3 + (6 : Int32)) q3406u))
                                                  · refine g_iconst (v := (0 : Int32)) rfl zic_0 ?_
                                                    exact g_iret rfl (Or.inr ⟨rfl, Or.inl rfl⟩) (hr _)
                                                · refine zgo_ite (fun c3410 => ?_) (fun c3410 => ?_)
                                                  · refine g_tswIn rfl c3410 (by decide) (by decide) (off := 834) (by decide +kernel) 543 rfl ?_
                                                    refine g_aload_n rfl rfl ?_
                                                    refine g_aload_n rfl rfl ?_
                                                    refine g_iload_n rfl rfl ?_
                                                    refine g_iconst (v := (1 : Int32)) rfl zic_1 ?_
                                                    refine g_iadd rfl ?_
                                                    refine g_sldX rfl (fun o3411 => ?_)
                                                    refine g_aload_n rfl rfl ?_
                                                    refine g_iload_n rfl rfl ?_
                                                    refine g_iconst (v := (2 : Int32)) rfl zic_2 ?_
                                                    refine g_iadd rfl ?_
                                                    refine g_sldX rfl (fun o3412 => ?_)
                                                    refine g_callVP (M' := m_X_must) (d' := 7) (as := [.int ((zgx G) (l3 + (1 : Int32)).toNatClampNeg), .int ((zgx G) (l3 + (2 : Int32)).toNatClampNeg)]) (rest := []) (ci := 10) (o := 0) rfl ml_L_109 v_X_must (by decide) rfl (by decide) rfl rfl rfl (Nat.le_of_ble_eq_true rfl) (fun x_ e_ => s_X_must G ((zgx G) (l3 + (1 : Int32)).toNatClampNeg) ((zgx G) (l3 + (2 : Int32)).toNatClampNeg) u x_ e_) (fun q3413 e3414 b3415 => ?_)
                                                    refine g_aload_n rfl rfl ?_
                                                    refine g_aload_n rfl rfl ?_
                                                    refine g_iload_n rfl rfl ?_
                                                    refine g_iconst (v := (1 : Int32)) rfl zic_1 ?_
                                                    refine g_iadd rfl ?_
                                                    refine g_sldX rfl (fun o3416 => ?_)
                                                    refine g_aload_n rfl rfl ?_
                                                    refine g_iload_n rfl rfl ?_
                                                    refine g_iconst (v := (2 : Int32)) rfl zic_2 ?_
                                                    refine g_iadd rfl ?_
                                                    refine g_sldX rfl (fun o3417 => ?_)
                                                    refine g_callVP (M' := m_M_must) (d' := 4) (as := [.int ((zgx G) (l3 + (1 : Int32)).toNatClampNeg), .int ((zgx G) (l3 + (2 : Int32)).toNatClampNeg)]) (rest := [.int q3413]) (ci := 11) (o := 39) rfl ml_L_112 v_M_must (by decide) rfl (by decide) rfl rfl rfl (Nat.le_of_ble_eq_true rfl) (fun x_ e_ => s_M_must G ((zgx G) (l3 + (1 : Int32)).toNatClampNeg) ((zgx G) (l3 + (2 : Int32)).toNatClampNeg) u x_ e_) (fun q3418 e3419 b3420 => ?_)
                                                    refine g_icmpeq rfl (fun c3421 => ?_) (fun c3421 => ?_)
                                                    · refine g_iinc (v := (6 : Int32)) (lv' := [(0, .ref 102), (1, .ref 0), (2, .ref 39), (3, .int (l3 + (6 : Int32)))]) rfl rfl zic_6 (Nat.le_of_ble_eq_true rfl) rfl rfl ?_
                                                      refine g_goto rfl ?_
                                                      exact zgo_sub (zsubk [0, 1, 2, 3] rfl) (zgo_leaf (hb (l3 + (6 : Int32)) u))
                                                    · refine g_iconst (v := (0 : Int32)) rfl zic_0 ?_
                                                      exact g_iret rfl (Or.inr ⟨rfl, Or.inl rfl⟩) (hr _)
                                                  · refine zgo_ite (fun c3422 => ?_) (fun c3422 => ?_)
                                                    · refine g_tswIn rfl c3422 (by decide) (by decide) (off := 867) (by decide +kernel) 570 rfl ?_
                                                      refine g_aload_n rfl rfl ?_
                                                      refine g_aload_n rfl rfl ?_
                                                      refine g_iload_n rfl rfl ?_
                                                      refine g_iconst (v := (1 : Int32)) rfl zic_1 ?_
                                                      refine g_iadd rfl ?_
                                                      refine g_sldX rfl (fun o3423 => ?_)
                                                      refine g_aload_n rfl rfl ?_
                                                      refine g_iload_n rfl rfl ?_
                                                      refine g_iconst (v := (2 : Int32)) rfl zic_2 ?_
                                                      refine g_iadd rfl ?_
                                                      refine g_sldX rfl (fun o3424 => ?_)
                                                      refine g_callVI (M' := m_X_decide) (d' := 6) (as := [.int ((zgx G) (l3 + (1 : Int32)).toNatClampNeg), .int ((zgx G) (l3 + (2 : Int32)).toNatClampNeg)]) (rest := []) (ci := 10) (o := 0) rfl ml_L_113 v_X_decide (by decide) rfl (by decide) rfl rfl rfl (Nat.le_of_ble_eq_true rfl) (fun x_ e_ => s_X_decide G ((zgx G) (l3 + (1 : Int32)).toNatClampNeg) ((zgx G) (l3 + (2 : Int32)).toNatClampNeg) u x_ e_) (fun q3425r q3425u e3426 b3427 => ?_)
                                                      refine g_aload_n rfl rfl ?_
                                                      refine g_aload_n rfl rfl ?_
                                                      refine g_iload_n rfl rfl ?_
                                                      refine g_iconst (v := (1 : Int32)) rfl zic_1 ?_
                                                      refine g_iadd rfl ?_
                                                      refine g_sldX rfl (fun o3428 => ?_)
                                                      refine g_aload_n rfl rfl ?_
                                                      refine g_iload_n rfl rfl ?_
                                                      refine g_iconst (v := (2 : Int32)) rfl zic_2 ?_
                                                      refine g_iadd rfl ?_
                                                      refine g_sldX rfl (fun o3429 => ?_)
                                                      refine g_callVI (M' := m_M_decide) (d' := 108) (as := [.int ((zgx G) (l3 + (1 : Int32)).toNatClampNeg), .int ((zgx G) (l3 + (2 : Int32)).toNatClampNeg)]) (rest := [.int q3425r]) (ci := 11) (o := 39) rfl ml_L_116 v_M_decide (by decide) rfl (by decide) rfl rfl rfl (Nat.le_of_ble_eq_true rfl) (fun x_ e_ => s_M_decide G ((zgx G) (l3 + (1 : Int32)).toNatClampNeg) ((zgx G) (l3 + (2 : Int32)).toNatClampNeg) q3425u x_ e_) (fun q3430r q3430u e3431 b3432 => ?_)
                                                      refine g_icmpeq rfl (fun c3433 => ?_) (fun c3433 => ?_)
                                                      · refine g_iinc (v := (6 : Int32)) (lv' := [(0, .ref 102), (1, .ref 0), (2, .ref 39), (3, .int (l3 + (6 : Int32)))]) rfl rfl zic_6 (Nat.le_of_ble_eq_true rfl) rfl rfl ?_
                                                        refine g_goto rfl ?_
                                                        exact zgo_sub (zsubk [0, 1, 2, 3] rfl) (zgo_leaf (hb (l3 + (6 : Int32)) q3430u))
                                                      · refine g_iconst (v := (0 : Int32)) rfl zic_0 ?_
                                                        exact g_iret rfl (Or.inr ⟨rfl, Or.inl rfl⟩) (hr _)
                                                    · refine zgo_ite (fun c3434 => ?_) (fun c3434 => ?_)
                                                      · refine g_tswIn rfl c3434 (by decide) (by decide) (off := 900) (by decide +kernel) 597 rfl ?_
                                                        refine g_aload_n rfl rfl ?_
                                                        refine g_aload_n rfl rfl ?_
                                                        refine g_iload_n rfl rfl ?_
                                                        refine g_iconst (v := (1 : Int32)) rfl zic_1 ?_
                                                        refine g_iadd rfl ?_
                                                        refine g_sldX rfl (fun o3435 => ?_)
                                                        refine g_callVP (M' := m_X_led) (d' := 2) (as := [.int ((zgx G) (l3 + (1 : Int32)).toNatClampNeg)]) (rest := []) (ci := 10) (o := 0) rfl ml_L_117 v_X_led (by decide) rfl (by decide) rfl rfl rfl (Nat.le_of_ble_eq_true rfl) (fun x_ e_ => s_X_led G ((zgx G) (l3 + (1 : Int32)).toNatClampNeg) u x_ e_) (fun q3436 e3437 b3438 => ?_)
                                                        refine g_aload_n rfl rfl ?_
                                                        refine g_aload_n rfl rfl ?_
                                                        refine g_iload_n rfl rfl ?_
                                                        refine g_iconst (v := (1 : Int32)) rfl zic_1 ?_
                                                        refine g_iadd rfl ?_
                                                        refine g_sldX rfl (fun o3439 => ?_)
                                                        refine g_callVP (M' := m_M_led) (d' := 2) (as := [.int ((zgx G) (l3 + (1 : Int32)).toNatClampNeg)]) (rest := [.int q3436]) (ci := 11) (o := 39) rfl ml_L_120 v_M_led (by decide) rfl (by decide) rfl rfl rfl (Nat.le_of_ble_eq_true rfl) (fun x_ e_ => s_M_led G ((zgx G) (l3 + (1 : Int32)).toNatClampNeg) u x_ e_) (fun q3440 e3441 b3442 => ?_)
                                                        refine g_icmpeq rfl (fun c3443 => ?_) (fun c3443 => ?_)
                                                        · refine g_iinc (v := (6 : Int32)) (lv' := [(0, .ref 102), (1, .ref 0), (2, .ref 39), (3, .int (l3 + (6 : Int32)))]) rfl rfl zic_6 (Nat.le_of_ble_eq_true rfl) rfl rfl ?_
                                                          refine g_goto rfl ?_
                                                          exact zgo_sub (zsubk [0, 1, 2, 3] rfl) (zgo_leaf (hb (l3 + (6 : Int32)) u))
                                                        · refine g_iconst (v := (0 : Int32)) rfl zic_0 ?_
                                                          exact g_iret rfl (Or.inr ⟨rfl, Or.inl rfl⟩) (hr _)
                                                      · refine zgo_ite (fun c3444 => ?_) (fun c3444 => ?_)
                                                        · refine g_tswIn rfl c3444 (by decide) (by decide) (off := 923) (by decide +kernel) 614 rfl ?_
                                                          refine g_aload_n rfl rfl ?_
                                                          refine g_callVI (M' := m_X_image) (d' := 2) (as := []) (rest := []) (ci := 10) (o := 0) rfl ml_L_121 v_X_image (by decide) rfl (by decide) rfl rfl rfl (Nat.le_of_ble_eq_true rfl) (fun x_ e_ => s_X_image G  u x_ e_) (fun q3445r q3445u e3446 b3447 => ?_)
                                                          refine g_aload_n rfl rfl ?_
                                                          refine g_callVI (M' := m_M_image) (d' := 1) (as := []) (rest := [.int q3445r]) (ci := 11) (o := 39) rfl ml_L_124 v_M_image (by decide) rfl (by decide) rfl rfl rfl (Nat.le_of_ble_eq_true rfl) (fun x_ e_ => s_M_image G  q3445u x_ e_) (fun q3448r q3448u e3449 b3450 => ?_)
                                                          refine g_icmpeq rfl (fun c3451 => ?_) (fun c3451 => ?_)
                                                          · refine g_iinc (v := (6 : Int32)) (lv' := [(0, .ref 102), (1, .ref 0), (2, .ref 39), (3, .int (l3 + (6 : Int32)))]) rfl rfl zic_6 (Nat.le_of_ble_eq_true rfl) rfl rfl ?_
                                                            refine g_goto rfl ?_
                                                            exact zgo_sub (zsubk [0, 1, 2, 3] rfl) (zgo_leaf (hb (l3 + (6 : Int32)) q3448u))
                                                          · refine g_iconst (v := (0 : Int32)) rfl zic_0 ?_
                                                            exact g_iret rfl (Or.inr ⟨rfl, Or.inl rfl⟩) (hr _)
                                                        · refine zgo_ite (fun c3452 => ?_) (fun c3452 => ?_)
                                                          · refine g_tswIn rfl c3452 (by decide) (by decide) (off := 936) (by decide +kernel) 621 rfl ?_
                                                            refine g_aload_n rfl rfl ?_
                                                            refine g_callVI (M' := m_X_back) (d' := 2) (as := []) (rest := []) (ci := 10) (o := 0) rfl ml_L_125 v_X_back (by decide) rfl (by decide) rfl rfl rfl (Nat.le_of_ble_eq_true rfl) (fun x_ e_ => s_X_back G  u x_ e_) (fun q3453r q3453u e3454 b3455 => ?_)
                                                            refine g_aload_n rfl rfl ?_
                                                            refine g_callVI (M' := m_M_back) (d' := 1) (as := []) (rest := [.int q3453r]) (ci := 11) (o := 39) rfl ml_L_128 v_M_back (by decide) rfl (by decide) rfl rfl rfl (Nat.le_of_ble_eq_true rfl) (fun x_ e_ => s_M_back G  q3453u x_ e_) (fun q3456r q3456u e3457 b3458 => ?_)
                                                            refine g_icmpeq rfl (fun c3459 => ?_) (fun c3459 => ?_)
                                                            · refine g_iinc (v := (6 : Int32)) (lv' := [(0, .ref 102), (1, .ref 0), (2, .ref 39), (3, .int (l3 + (6 : Int32)))]) rfl rfl zic_6 (Nat.le_of_ble_eq_true rfl) rfl rfl ?_
                                                              refine g_goto rfl ?_
                                                              exact zgo_sub (zsubk [0, 1, 2, 3] rfl) (zgo_leaf (hb (l3 + (6 : Int32)) q3456u))
                                                            · refine g_iconst (v := (0 : Int32)) rfl zic_0 ?_
                                                              exact g_iret rfl (Or.inr ⟨rfl, Or.inl rfl⟩) (hr _)
                                                          · refine zgo_ite (fun c3460 => ?_) (fun c3460 => ?_)
                                                            · refine g_tswIn rfl c3460 (by decide) (by decide) (off := 949) (by decide +kernel) 628 rfl ?_
                                                              refine g_aload_n rfl rfl ?_
                                                              refine g_callVI (M' := m_X_undo) (d' := 3) (as := []) (rest := []) (ci := 10) (o := 0) rfl ml_L_129 v_X_undo (by decide) rfl (by decide) rfl rfl rfl (Nat.le_of_ble_eq_true rfl) (fun x_ e_ => s_X_undo G  u x_ e_) (fun q3461r q3461u e3462 b3463 => ?_)
                                                              refine g_aload_n rfl rfl ?_
                                                              refine g_callVI (M' := m_M_undo) (d' := 1) (as := []) (rest := [.int q3461r]) (ci := 11) (o := 39) rfl ml_L_132 v_M_undo (by decide) rfl (by decide) rfl rfl rfl (Nat.le_of_ble_eq_true rfl) (fun x_ e_ => s_M_undo G  q3461u x_ e_) (fun q3464r q3464u e3465 b3466 => ?_)
                                                              refine g_icmpeq rfl (fun c3467 => ?_) (fun c3467 => ?_)
                                                              · refine g_iinc (v := (6 : Int32)) (lv' := [(0, .ref 102), (1, .ref 0), (2, .ref 39), (3, .int (l3 + (6 : Int32)))]) rfl rfl zic_6 (Nat.le_of_ble_eq_true rfl) rfl rfl ?_
                                                                refine g_goto rfl ?_
                                                                exact zgo_sub (zsubk [0, 1, 2, 3] rfl) (zgo_leaf (hb (l3 + (6 : Int32)) q3464u))
                                                              · refine g_iconst (v := (0 : Int32)) rfl zic_0 ?_
                                                                exact g_iret rfl (Or.inr ⟨rfl, Or.inl rfl⟩) (hr _)
                                                            · refine zgo_ite (fun c3468 => ?_) (fun c3468 => ?_)
                                                              · refine g_tswIn rfl c3468 (by decide) (by decide) (off := 962) (by decide +kernel) 635 rfl ?_
                                                                refine g_aload_n rfl rfl ?_
                                                                refine g_callVI (M' := m_X_redo) (d' := 3) (as := []) (rest := []) (ci := 10) (o := 0) rfl ml_L_133 v_X_redo (by decide) rfl (by decide) rfl rfl rfl (Nat.le_of_ble_eq_true rfl) (fun x_ e_ => s_X_redo G  u x_ e_) (fun q3469r q3469u e3470 b3471 => ?_)
                                                                refine g_aload_n rfl rfl ?_
                                                                refine g_callVI (M' := m_M_redo) (d' := 1) (as := []) (rest := [.int q3469r]) (ci := 11) (o := 39) rfl ml_L_136 v_M_redo (by decide) rfl (by decide) rfl rfl rfl (Nat.le_of_ble_eq_true rfl) (fun x_ e_ => s_M_redo G  q3469u x_ e_) (fun q3472r q3472u e3473 b3474 => ?_)
                                                                refine g_icmpeq rfl (fun c3475 => ?_) (fun c3475 => ?_)
                                                                · refine g_iinc (v := (6 : Int32)) (lv' := [(0, .ref 102), (1, .ref 0), (2, .ref 39), (3, .int (l3 + (6 : Int32)))]) rfl rfl zic_6 (Nat.le_of_ble_eq_true rfl) rfl rfl ?_
                                                                  refine g_goto rfl ?_
                                                                  exact zgo_sub (zsubk [0, 1, 2, 3] rfl) (zgo_leaf (hb (l3 + (6 : Int32)) q3472u))
                                                                · refine g_iconst (v := (0 : Int32)) rfl zic_0 ?_
                                                                  exact g_iret rfl (Or.inr ⟨rfl, Or.inl rfl⟩) (hr _)
                                                              · refine zgo_ite (fun c3476 => ?_) (fun c3476 => ?_)
                                                                · refine g_tswIn rfl c3476 (by decide) (by decide) (off := 975) (by decide +kernel) 642 rfl ?_
                                                                  refine g_aload_n rfl rfl ?_
                                                                  refine g_aload_n rfl rfl ?_
                                                                  refine g_iload_n rfl rfl ?_
                                                                  refine g_iconst (v := (1 : Int32)) rfl zic_1 ?_
                                                                  refine g_iadd rfl ?_
                                                                  refine g_sldX rfl (fun o3477 => ?_)
                                                                  refine g_callVI (M' := m_X_body) (d' := 2) (as := [.int ((zgx G) (l3 + (1 : Int32)).toNatClampNeg)]) (rest := []) (ci := 10) (o := 0) rfl ml_L_137 v_X_body (by decide) rfl (by decide) rfl rfl rfl (Nat.le_of_ble_eq_true rfl) (fun x_ e_ => s_X_body G ((zgx G) (l3 + (1 : Int32)).toNatClampNeg) u x_ e_) (fun q3478r q3478u e3479 b3480 => ?_)
                                                                  refine g_aload_n rfl rfl ?_
                                                                  refine g_aload_n rfl rfl ?_
                                                                  refine g_iload_n rfl rfl ?_
                                                                  refine g_iconst (v := (1 : Int32)) rfl zic_1 ?_
                                                                  refine g_iadd rfl ?_
                                                                  refine g_sldX rfl (fun o3481 => ?_)
                                                                  refine g_callVI (M' := m_M_body) (d' := 2) (as := [.int ((zgx G) (l3 + (1 : Int32)).toNatClampNeg)]) (rest := [.int q3478r]) (ci := 11) (o := 39) rfl ml_L_140 v_M_body (by decide) rfl (by decide) rfl rfl rfl (Nat.le_of_ble_eq_true rfl) (fun x_ e_ => s_M_body G ((zgx G) (l3 + (1 : Int32)).toNatClampNeg) q3478u x_ e_) (fun q3482r q3482u e3483 b3484 => ?_)
                                                                  refine g_icmpeq rfl (fun c3485 => ?_) (fun c3485 => ?_)
                                                                  · refine g_iinc (v := (6 : Int32)) (lv' := [(0, .ref 102), (1, .ref 0), (2, .ref 39), (3, .int (l3 + (6 : Int32)))]) rfl rfl zic_6 (Nat.le_of_ble_eq_true rfl) rfl rfl ?_
                                                                    refine g_goto rfl ?_
                                                                    exact zgo_sub (zsubk [0, 1, 2, 3] rfl) (zgo_leaf (hb (l3 + (6 : Int32)) q3482u))
                                                                  · refine g_iconst (v := (0 : Int32)) rfl zic_0 ?_
                                                                    exact g_iret rfl (Or.inr ⟨rfl, Or.inl rfl⟩) (hr _)
                                                                · refine zgo_ite (fun c3486 => ?_) (fun c3486 => ?_)
                                                                  · refine g_tswIn rfl c3486 (by decide) (by decide) (off := 998) (by decide +kernel) 659 rfl ?_
                                                                    refine g_aload_n rfl rfl ?_
                                                                    refine g_aload_n rfl rfl ?_
                                                                    refine g_iload_n rfl rfl ?_
                                                                    refine g_iconst (v := (1 : Int32)) rfl zic_1 ?_
                                                                    refine g_iadd rfl ?_
                                                                    refine g_sldX rfl (fun o3487 => ?_)
                                                                    refine g_aload_n rfl rfl ?_
                                                                    refine g_iload_n rfl rfl ?_
                                                                    refine g_iconst (v := (2 : Int32)) rfl zic_2 ?_
                                                                    refine g_iadd rfl ?_
                                                                    refine g_sldX rfl (fun o3488 => ?_)
                                                                    refine g_aload_n rfl rfl ?_
                                                                    refine g_iload_n rfl rfl ?_
                                                                    refine g_iconst (v := (3 : Int32)) rfl zic_3 ?_
                                                                    refine g_iadd rfl ?_
                                                                    refine g_sldX rfl (fun o3489 => ?_)
                                                                    refine g_callVI (M' := m_X_act) (d' := 105) (as := [.int ((zgx G) (l3 + (1 : Int32)).toNatClampNeg), .int ((zgx G) (l3 + (2 : Int32)).toNatClampNeg), .int ((zgx G) (l3 + (3 : Int32)).toNatClampNeg)]) (rest := []) (ci := 10) (o := 0) rfl ml_L_141 v_X_act (by decide) rfl (by decide) rfl rfl rfl (Nat.le_of_ble_eq_true rfl) (fun x_ e_ => s_X_act G ((zgx G) (l3 + (1 : Int32)).toNatClampNeg) ((zgx G) (l3 + (2 : Int32)).toNatClampNeg) ((zgx G) (l3 + (3 : Int32)).toNatClampNeg) u x_ e_) (fun q3490r q3490u e3491 b3492 => ?_)
                                                                    refine g_aload_n rfl rfl ?_
                                                                    refine g_aload_n rfl rfl ?_
                                                                    refine g_iload_n rfl rfl ?_
                                                                    refine g_iconst (v := (1 : Int32)) rfl zic_1 ?_
                                                                    refine g_iadd rfl ?_
                                                                    refine g_sldX rfl (fun o3493 => ?_)
                                                                    refine g_aload_n rfl rfl ?_
                                                                    refine g_iload_n rfl rfl ?_
                                                                    refine g_iconst (v := (2 : Int32)) rfl zic_2 ?_
                                                                    refine g_iadd rfl ?_
                                                                    refine g_sldX rfl (fun o3494 => ?_)
                                                                    refine g_aload_n rfl rfl ?_
                                                                    refine g_iload_n rfl rfl ?_
                                                                    refine g_iconst (v := (3 : Int32)) rfl zic_3 ?_
                                                                    refine g_iadd rfl ?_
                                                                    refine g_sldX rfl (fun o3495 => ?_)
                                                                    refine g_callVI (M' := m_M_act) (d' := 406) (as := [.int ((zgx G) (l3 + (1 : Int32)).toNatClampNeg), .int ((zgx G) (l3 + (2 : Int32)).toNatClampNeg), .int ((zgx G) (l3 + (3 : Int32)).toNatClampNeg)]) (rest := [.int q3490r]) (ci := 11) (o := 39) rfl ml_L_144 v_M_act (by decide) rfl (by decide) rfl rfl rfl (Nat.le_of_ble_eq_true rfl) (fun x_ e_ => s_M_act G ((zgx G) (l3 + (1 : Int32)).toNatClampNeg) ((zgx G) (l3 + (2 : Int32)).toNatClampNeg) ((zgx G) (l3 + (3 : Int32)).toNatClampNeg) q3490u x_ e_) (fun q3496r q3496u e3497 b3498 => ?_)
                                                                    refine g_icmpeq rfl (fun c3499 => ?_) (fun c3499 => ?_)
                                                                    · refine g_iinc (v := (6 : Int32)) (lv' := [(0, .ref 102), (1, .ref 0), (2, .ref 39), (3, .int (l3 + (6 : Int32)))]) rfl rfl zic_6 (Nat.le_of_ble_eq_true rfl) rfl rfl ?_
                                                                      refine g_goto rfl ?_
                                                                      exact zgo_sub (zsubk [0, 1, 2, 3] rfl) (zgo_leaf (hb (l3 + (6 : Int32)) q3496u))
                                                                    · refine g_iconst (v := (0 : Int32)) rfl zic_0 ?_
                                                                      exact g_iret rfl (Or.inr ⟨rfl, Or.inl rfl⟩) (hr _)
                                                                  · refine zgo_ite (fun c3500 => ?_) (fun c3500 => ?_)
                                                                    · refine g_tswIn rfl c3500 (by decide) (by decide) (off := 1041) (by decide +kernel) 696 rfl ?_
                                                                      refine g_aload_n rfl rfl ?_
                                                                      refine g_aload_n rfl rfl ?_
                                                                      refine g_iload_n rfl rfl ?_
                                                                      refine g_iconst (v := (1 : Int32)) rfl zic_1 ?_
                                                                      refine g_iadd rfl ?_
                                                                      refine g_sldX rfl (fun o3501 => ?_)
                                                                      refine g_callVP (M' := m_X_trace) (d' := 2) (as := [.int ((zgx G) (l3 + (1 : Int32)).toNatClampNeg)]) (rest := []) (ci := 10) (o := 0) rfl ml_L_145 v_X_trace (by decide) rfl (by decide) rfl rfl rfl (Nat.le_of_ble_eq_true rfl) (fun x_ e_ => s_X_trace G ((zgx G) (l3 + (1 : Int32)).toNatClampNeg) u x_ e_) (fun q3502 e3503 b3504 => ?_)
                                                                      refine g_aload_n rfl rfl ?_
                                                                      refine g_aload_n rfl rfl ?_
                                                                      refine g_iload_n rfl rfl ?_
                                                                      refine g_iconst (v := (1 : Int32)) rfl zic_1 ?_
                                                                      refine g_iadd rfl ?_
                                                                      refine g_sldX rfl (fun o3505 => ?_)
                                                                      refine g_callVP (M' := m_M_trace) (d' := 1) (as := [.int ((zgx G) (l3 + (1 : Int32)).toNatClampNeg)]) (rest := [.int q3502]) (ci := 11) (o := 39) rfl ml_L_148 v_M_trace (by decide) rfl (by decide) rfl rfl rfl (Nat.le_of_ble_eq_true rfl) (fun x_ e_ => s_M_trace G ((zgx G) (l3 + (1 : Int32)).toNatClampNeg) u x_ e_) (fun q3506 e3507 b3508 => ?_)
                                                                      refine g_icmpeq rfl (fun c3509 => ?_) (fun c3509 => ?_)
                                                                      · refine g_iinc (v := (6 : Int32)) (lv' := [(0, .ref 102), (1, .ref 0), (2, .ref 39), (3, .int (l3 + (6 : Int32)))]) rfl rfl zic_6 (Nat.le_of_ble_eq_true rfl) rfl rfl ?_
                                                                        refine g_goto rfl ?_
                                                                        exact zgo_sub (zsubk [0, 1, 2, 3] rfl) (zgo_leaf (hb (l3 + (6 : Int32)) u))
                                                                      · refine g_iconst (v := (0 : Int32)) rfl zic_0 ?_
                                                                        exact g_iret rfl (Or.inr ⟨rfl, Or.inl rfl⟩) (hr _)
                                                                    · refine zgo_ite (fun c3510 => ?_) (fun c3510 => ?_)
                                                                      · refine g_tswIn rfl c3510 (by decide) (by decide) (off := 1064) (by decide +kernel) 713 rfl ?_
                                                                        refine g_aload_n rfl rfl ?_
                                                                        refine g_aload_n rfl rfl ?_
                                                                        refine g_iload_n rfl rfl ?_
                                                                        refine g_iconst (v := (1 : Int32)) rfl zic_1 ?_
                                                                        refine g_iadd rfl ?_
                                                                        refine g_sldX rfl (fun o3511 => ?_)
                                                                        refine g_aload_n rfl rfl ?_
                                                                        refine g_iload_n rfl rfl ?_
                                                                        refine g_iconst (v := (2 : Int32)) rfl zic_2 ?_
                                                                        refine g_iadd rfl ?_
                                                                        refine g_sldX rfl (fun o3512 => ?_)
                                                                        refine g_callVI (M' := m_X_keep) (d' := 3) (as := [.int ((zgx G) (l3 + (1 : Int32)).toNatClampNeg), .int ((zgx G) (l3 + (2 : Int32)).toNatClampNeg)]) (rest := []) (ci := 10) (o := 0) rfl ml_L_149 v_X_keep (by decide) rfl (by decide) rfl rfl rfl (Nat.le_of_ble_eq_true rfl) (fun x_ e_ => s_X_keep G ((zgx G) (l3 + (1 : Int32)).toNatClampNeg) ((zgx G) (l3 + (2 : Int32)).toNatClampNeg) u x_ e_) (fun q3513r q3513u e3514 b3515 => ?_)
                                                                        refine g_aload_n rfl rfl ?_
                                                                        refine g_aload_n rfl rfl ?_
                                                                        refine g_iload_n rfl rfl ?_
                                                                        refine g_iconst (v := (1 : Int32)) rfl zic_1 ?_
                                                                        refine g_iadd rfl ?_
                                                                        refine g_sldX rfl (fun o3516 => ?_)
                                                                        refine g_aload_n rfl rfl ?_
                                                                        refine g_iload_n rfl rfl ?_
                                                                        refine g_iconst (v := (2 : Int32)) rfl zic_2 ?_
                                                                        refine g_iadd rfl ?_
                                                                        refine g_sldX rfl (fun o3517 => ?_)
                                                                        refine g_callVI (M' := m_M_keep) (d' := 3) (as := [.int ((zgx G) (l3 + (1 : Int32)).toNatClampNeg), .int ((zgx G) (l3 + (2 : Int32)).toNatClampNeg)]) (rest := [.int q3513r]) (ci := 11) (o := 39) rfl ml_L_152 v_M_keep (by decide) rfl (by decide) rfl rfl rfl (Nat.le_of_ble_eq_true rfl) (fun x_ e_ => s_M_keep G ((zgx G) (l3 + (1 : Int32)).toNatClampNeg) ((zgx G) (l3 + (2 : Int32)).toNatClampNeg) q3513u x_ e_) (fun q3518r q3518u e3519 b3520 => ?_)
                                                                        refine g_icmpeq rfl (fun c3521 => ?_) (fun c3521 => ?_)
                                                                        · refine g_iinc (v := (6 : Int32)) (lv' := [(0, .ref 102), (1, .ref 0), (2, .ref 39), (3, .int (l3 + (6 : Int32)))]) rfl rfl zic_6 (Nat.le_of_ble_eq_true rfl) rfl rfl ?_
                                                                          refine g_goto rfl ?_
                                                                          exact zgo_sub (zsubk [0, 1, 2, 3] rfl) (zgo_leaf (hb (l3 + (6 : Int32)) q3518u))
                                                                        · refine g_iconst (v := (0 : Int32)) rfl zic_0 ?_
                                                                          exact g_iret rfl (Or.inr ⟨rfl, Or.inl rfl⟩) (hr _)
                                                                      · refine zgo_ite (fun c3522 => ?_) (fun c3522 => ?_)
                                                                        · refine g_tswIn rfl c3522 (by decide) (by decide) (off := 1097) (by decide +kernel) 740 rfl ?_
                                                                          refine g_aload_n rfl rfl ?_
                                                                          refine g_aload_n rfl rfl ?_
                                                                          refine g_iload_n rfl rfl ?_
                                                                          refine g_iconst (v := (1 : Int32)) rfl zic_1 ?_
                                                                          refine g_iadd rfl ?_
                                                                          refine g_sldX rfl (fun o3523 => ?_)
                                                                          refine g_aload_n rfl rfl ?_
                                                                          refine g_iload_n rfl rfl ?_
                                                                          refine g_iconst (v := (2 : Int32)) rfl zic_2 ?_
                                                                          refine g_iadd rfl ?_
                                                                          refine g_sldX rfl (fun o3524 => ?_)
                                                                          refine g_aload_n rfl rfl ?_
                                                                          refine g_iload_n rfl rfl ?_
                                                                          refine g_iconst (v := (3 : Int32)) rfl zic_3 ?_
                                                                          refine g_iadd rfl ?_
                                                                          refine g_sldX rfl (fun o3525 => ?_)
                                                                          refine g_callVI (M' := m_X_row) (d' := 3) (as := [.int ((zgx G) (l3 + (1 : Int32)).toNatClampNeg), .int ((zgx G) (l3 + (2 : Int32)).toNatClampNeg), .int ((zgx G) (l3 + (3 : Int32)).toNatClampNeg)]) (rest := []) (ci := 10) (o := 0) rfl ml_L_153 v_X_row (by decide) rfl (by decide) rfl rfl rfl (Nat.le_of_ble_eq_true rfl) (fun x_ e_ => s_X_row G ((zgx G) (l3 + (1 : Int32)).toNatClampNeg) ((zgx G) (l3 + (2 : Int32)).toNatClampNeg) ((zgx G) (l3 + (3 : Int32)).toNatClampNeg) u x_ e_) (fun q3526r q3526u e3527 b3528 => ?_)
                                                                          refine g_aload_n rfl rfl ?_
                                                                          refine g_aload_n rfl rfl ?_
                                                                          refine g_iload_n rfl rfl ?_
                                                                          refine g_iconst (v := (1 : Int32)) rfl zic_1 ?_
                                                                          refine g_iadd rfl ?_
                                                                          refine g_sldX rfl (fun o3529 => ?_)
                                                                          refine g_aload_n rfl rfl ?_
                                                                          refine g_iload_n rfl rfl ?_
                                                                          refine g_iconst (v := (2 : Int32)) rfl zic_2 ?_
                                                                          refine g_iadd rfl ?_
                                                                          refine g_sldX rfl (fun o3530 => ?_)
                                                                          refine g_aload_n rfl rfl ?_
                                                                          refine g_iload_n rfl rfl ?_
                                                                          refine g_iconst (v := (3 : Int32)) rfl zic_3 ?_
                                                                          refine g_iadd rfl ?_
                                                                          refine g_sldX rfl (fun o3531 => ?_)
                                                                          refine g_callVI (M' := m_M_row) (d' := 3) (as := [.int ((zgx G) (l3 + (1 : Int32)).toNatClampNeg), .int ((zgx G) (l3 + (2 : Int32)).toNatClampNeg), .int ((zgx G) (l3 + (3 : Int32)).toNatClampNeg)]) (rest := [.int q3526r]) (ci := 11) (o := 39) rfl ml_L_156 v_M_row (by decide) rfl (by decide) rfl rfl rfl (Nat.le_of_ble_eq_true rfl) (fun x_ e_ => s_M_row G ((zgx G) (l3 + (1 : Int32)).toNatClampNeg) ((zgx G) (l3 + (2 : Int32)).toNatClampNeg) ((zgx G) (l3 + (3 : Int32)).toNatClampNeg) q3526u x_ e_) (fun q3532r q3532u e3533 b3534 => ?_)
                                                                          refine g_icmpeq rfl (fun c3535 => ?_) (fun c3535 => ?_)
                                                                          · refine g_iinc (v := (6 : Int32)) (lv' := [(0, .ref 102), (1, .ref 0), (2, .ref 39), (3, .int (l3 + (6 : Int32)))]) rfl rfl zic_6 (Nat.le_of_ble_eq_true rfl) rfl rfl ?_
                                                                            refine g_goto rfl ?_
                                                                            exact zgo_sub (zsubk [0, 1, 2, 3] rfl) (zgo_leaf (hb (l3 + (6 : Int32)) q3532u))
                                                                          · refine g_iconst (v := (0 : Int32)) rfl zic_0 ?_
                                                                            exact g_iret rfl (Or.inr ⟨rfl, Or.inl rfl⟩) (hr _)
                                                                        · refine zgo_ite (fun c3536 => ?_) (fun c3536 => ?_)
                                                                          · refine g_tswIn rfl c3536 (by decide) (by decide) (off := 1140) (by decide +kernel) 777 rfl ?_
                                                                            refine g_aload_n rfl rfl ?_
                                                                            refine g_aload_n rfl rfl ?_
                                                                            refine g_iload_n rfl rfl ?_
                                                                            refine g_iconst (v := (1 : Int32)) rfl zic_1 ?_
                                                                            refine g_iadd rfl ?_
                                                                            refine g_sldX rfl (fun o3537 => ?_)
                                                                            refine g_aload_n rfl rfl ?_
                                                                            refine g_iload_n rfl rfl ?_
                                                                            refine g_iconst (v := (2 : Int32)) rfl zic_2 ?_
                                                                            refine g_iadd rfl ?_
                                                                            refine g_sldX rfl (fun o3538 => ?_)
                                                                            refine g_aload_n rfl rfl ?_
                                                                            refine g_iload_n rfl rfl ?_
                                                                            refine g_iconst (v := (3 : Int32)) rfl zic_3 ?_
                                                                            refine g_iadd rfl ?_
                                                                            refine g_sldX rfl (fun o3539 => ?_)
                                                                            refine g_i2l rfl ?_
                                                                            refine g_bipush (v := (32 : Int32)) rfl zib_32 ?_
                                                                            refine g_lshl rfl ?_
                                                                            refine g_aload_n rfl rfl ?_
                                                                            refine g_iload_n rfl rfl ?_
                                                                            refine g_iconst (v := (4 : Int32)) rfl zic_4 ?_
                                                                            refine g_iadd rfl ?_
                                                                            refine g_sldX rfl (fun o3540 => ?_)
                                                                            refine g_i2l rfl ?_
                                                                            refine g_ldc2 rfl zk_L_157 ?_
                                                                            refine g_land rfl ?_
                                                                            refine g_lor rfl ?_
                                                                            refine g_callVI (M' := m_X_put) (d' := 3) (as := [.int ((zgx G) (l3 + (1 : Int32)).toNatClampNeg), .int ((zgx G) (l3 + (2 : Int32)).toNatClampNeg), .long (((((zgx G) (l3 + (3 : Int32)).toNatClampNeg).toInt64) <<< ((32 : Int32).toInt64 &&& 63)) ||| ((((zgx G) (l3 + (4 : Int32)).toNatClampNeg).toInt64) &&& (4294967295 : Int64)))]) (rest := []) (ci := 10) (o := 0) rfl ml_L_159 v_X_put (by decide) rfl (by decide) rfl rfl rfl (Nat.le_of_ble_eq_true rfl) (fun x_ e_ => s_X_put G ((zgx G) (l3 + (1 : Int32)).toNatClampNeg) ((zgx G) (l3 + (2 : Int32)).toNatClampNeg) (((((zgx G) (l3 + (3 : Int32)).toNatClampNeg).toInt64) <<< ((32 : Int32).toInt64 &&& 63)) ||| ((((zgx G) (l3 + (4 : Int32)).toNatClampNeg).toInt64) &&& (4294967295 : Int64))) u x_ e_) (fun q3541r q3541u e3542 b3543 => ?_)
                                                                            refine g_aload_n rfl rfl ?_
                                                                            refine g_aload_n rfl rfl ?_
                                                                            refine g_iload_n rfl rfl ?_
                                                                            refine g_iconst (v := (1 : Int32)) rfl zic_1 ?_
                                                                            refine g_iadd rfl ?_
                                                                            refine g_sldX rfl (fun o3544 => ?_)
                                                                            refine g_aload_n rfl rfl ?_
                                                                            refine g_iload_n rfl rfl ?_
                                                                            refine g_iconst (v := (2 : Int32)) rfl zic_2 ?_
                                                                            refine g_iadd rfl ?_
                                                                            refine g_sldX rfl (fun o3545 => ?_)
                                                                            refine g_aload_n rfl rfl ?_
                                                                            refine g_iload_n rfl rfl ?_
                                                                            refine g_iconst (v := (3 : Int32)) rfl zic_3 ?_
                                                                            refine g_iadd rfl ?_
                                                                            refine g_sldX rfl (fun o3546 => ?_)
                                                                            refine g_i2l rfl ?_
                                                                            refine g_bipush (v := (32 : Int32)) rfl zib_32 ?_
                                                                            refine g_lshl rfl ?_
                                                                            refine g_aload_n rfl rfl ?_
                                                                            refine g_iload_n rfl rfl ?_
                                                                            refine g_iconst (v := (4 : Int32)) rfl zic_4 ?_
                                                                            refine g_iadd rfl ?_
                                                                            refine g_sldX rfl (fun o3547 => ?_)
                                                                            refine g_i2l rfl ?_
                                                                            refine g_ldc2 rfl zk_L_157 ?_
                                                                            refine g_land rfl ?_
                                                                            refine g_lor rfl ?_
                                                                            refine g_callVI (M' := m_M_put) (d' := 4) (as := [.int ((zgx G) (l3 + (1 : Int32)).toNatClampNeg), .int ((zgx G) (l3 + (2 : Int32)).toNatClampNeg), .long (((((zgx G) (l3 + (3 : Int32)).toNatClampNeg).toInt64) <<< ((32 : Int32).toInt64 &&& 63)) ||| ((((zgx G) (l3 + (4 : Int32)).toNatClampNeg).toInt64) &&& (4294967295 : Int64)))]) (rest := [.int q3541r]) (ci := 11) (o := 39) rfl ml_L_163 v_M_put (by decide) rfl (by decide) rfl rfl rfl (Nat.le_of_ble_eq_true rfl) (fun x_ e_ => s_M_put G ((zgx G) (l3 + (1 : Int32)).toNatClampNeg) ((zgx G) (l3 + (2 : Int32)).toNatClampNeg) (((((zgx G) (l3 + (3 : Int32)).toNatClampNeg).toInt64) <<< ((32 : Int32).toInt64 &&& 63)) ||| ((((zgx G) (l3 + (4 : Int32)).toNatClampNeg).toInt64) &&& (4294967295 : Int64))) q3541u x_ e_) (fun q3548r q3548u e3549 b3550 => ?_)
                                                                            refine g_icmpeq rfl (fun c3551 => ?_) (fun c3551 => ?_)
                                                                            · refine g_iinc (v := (6 : Int32)) (lv' := [(0, .ref 102), (1, .ref 0), (2, .ref 39), (3, .int (l3 + (6 : Int32)))]) rfl rfl zic_6 (Nat.le_of_ble_eq_true rfl) rfl rfl ?_
                                                                              refine g_goto rfl ?_
                                                                              exact zgo_sub (zsubk [0, 1, 2, 3] rfl) (zgo_leaf (hb (l3 + (6 : Int32)) q3548u))
                                                                            · refine g_iconst (v := (0 : Int32)) rfl zic_0 ?_
                                                                              exact g_iret rfl (Or.inr ⟨rfl, Or.inl rfl⟩) (hr _)
                                                                          · refine zgo_ite (fun c3552 => ?_) (fun c3552 => ?_)
                                                                            · refine g_tswIn rfl c3552 (by decide) (by decide) (off := 1213) (by decide +kernel) 838 rfl ?_
                                                                              refine g_aload_n rfl rfl ?_
                                                                              refine g_aload_n rfl rfl ?_
                                                                              refine g_iload_n rfl rfl ?_
                                                                              refine g_iconst (v := (1 : Int32)) rfl zic_1 ?_
                                                                              refine g_iadd rfl ?_
                                                                              refine g_sldX rfl (fun o3553 => ?_)
                                                                              refine g_aload_n rfl rfl ?_
                                                                              refine g_iload_n rfl rfl ?_
                                                                              refine g_iconst (v := (2 : Int32)) rfl zic_2 ?_
                                                                              refine g_iadd rfl ?_
                                                                              refine g_sldX rfl (fun o3554 => ?_)
                                                                              refine g_callVL (M' := m_X_element) (d' := 3) (as := [.int ((zgx G) (l3 + (1 : Int32)).toNatClampNeg), .int ((zgx G) (l3 + (2 : Int32)).toNatClampNeg)]) (rest := []) (ci := 10) (o := 0) rfl ml_L_164 v_X_element (by decide) rfl (by decide) rfl rfl rfl (Nat.le_of_ble_eq_true rfl) (fun x_ e_ => s_X_element G ((zgx G) (l3 + (1 : Int32)).toNatClampNeg) ((zgx G) (l3 + (2 : Int32)).toNatClampNeg) u x_ e_) (fun q3555 e3556 b3557 => ?_)
                                                                              refine g_aload_n rfl rfl ?_
                                                                              refine g_aload_n rfl rfl ?_
                                                                              refine g_iload_n rfl rfl ?_
                                                                              refine g_iconst (v := (1 : Int32)) rfl zic_1 ?_
                                                                              refine g_iadd rfl ?_
                                                                              refine g_sldX rfl (fun o3558 => ?_)
                                                                              refine g_aload_n rfl rfl ?_
                                                                              refine g_iload_n rfl rfl ?_
                                                                              refine g_iconst (v := (2 : Int32)) rfl zic_2 ?_
                                                                              refine g_iadd rfl ?_
                                                                              refine g_sldX rfl (fun o3559 => ?_)
                                                                              refine g_callVL (M' := m_M_element) (d' := 4) (as := [.int ((zgx G) (l3 + (1 : Int32)).toNatClampNeg), .int ((zgx G) (l3 + (2 : Int32)).toNatClampNeg)]) (rest := [.long q3555]) (ci := 11) (o := 39) rfl ml_L_168 v_M_element (by decide) rfl (by decide) rfl rfl rfl (Nat.le_of_ble_eq_true rfl) (fun x_ e_ => s_M_element G ((zgx G) (l3 + (1 : Int32)).toNatClampNeg) ((zgx G) (l3 + (2 : Int32)).toNatClampNeg) u x_ e_) (fun q3560 e3561 b3562 => ?_)
                                                                              refine g_lcmp rfl ?_
                                                                              refine g_ifeq rfl (fun c3563 => ?_) (fun c3563 => ?_)
                                                                              · refine g_iinc (v := (6 : Int32)) (lv' := [(0, .ref 102), (1, .ref 0), (2, .ref 39), (3, .int (l3 + (6 : Int32)))]) rfl rfl zic_6 (Nat.le_of_ble_eq_true rfl) rfl rfl ?_
                                                                                refine g_goto rfl ?_
                                                                                exact zgo_sub (zsubk [0, 1, 2, 3] rfl) (zgo_leaf (hb (l3 + (6 : Int32)) u))
                                                                              · refine g_iconst (v := (0 : Int32)) rfl zic_0 ?_
                                                                                exact g_iret rfl (Or.inr ⟨rfl, Or.inl rfl⟩) (hr _)
                                                                            · refine zgo_ite (fun c3564 => ?_) (fun c3564 => ?_)
                                                                              · refine g_tswIn rfl c3564 (by decide) (by decide) (off := 1247) (by decide +kernel) 866 rfl ?_
                                                                                refine g_aload_n rfl rfl ?_
                                                                                refine g_aload_n rfl rfl ?_
                                                                                refine g_iload_n rfl rfl ?_
                                                                                refine g_iconst (v := (1 : Int32)) rfl zic_1 ?_
                                                                                refine g_iadd rfl ?_
                                                                                refine g_sldX rfl (fun o3565 => ?_)
                                                                                refine g_aload_n rfl rfl ?_
                                                                                refine g_iload_n rfl rfl ?_
                                                                                refine g_iconst (v := (2 : Int32)) rfl zic_2 ?_
                                                                                refine g_iadd rfl ?_
                                                                                refine g_sldX rfl (fun o3566 => ?_)
                                                                                refine g_aload_n rfl rfl ?_
                                                                                refine g_iload_n rfl rfl ?_
                                                                                refine g_iconst (v := (3 : Int32)) rfl zic_3 ?_
                                                                                refine g_iadd rfl ?_
                                                                                refine g_sldX rfl (fun o3567 => ?_)
                                                                                refine g_aload_n rfl rfl ?_
                                                                                refine g_iload_n rfl rfl ?_
                                                                                refine g_iconst (v := (4 : Int32)) rfl zic_4 ?_
                                                                                refine g_iadd rfl ?_
                                                                                refine g_sldX rfl (fun o3568 => ?_)
                                                                                refine g_aload_n rfl rfl ?_
                                                                                refine g_iload_n rfl rfl ?_
                                                                                refine g_iconst (v := (5 : Int32)) rfl zic_5 ?_
                                                                                refine g_iadd rfl ?_
                                                                                refine g_sldX rfl (fun o3569 => ?_)
                                                                                refine g_callVI (M' := m_X_shift) (d' := 5) (as := [.int ((zgx G) (l3 + (1 : Int32)).toNatClampNeg), .int ((zgx G) (l3 + (2 : Int32)).toNatClampNeg), .int ((zgx G) (l3 + (3 : Int32)).toNatClampNeg), .int ((zgx G) (l3 + (4 : Int32)).toNatClampNeg), .int ((zgx G) (l3 + (5 : Int32)).toNatClampNeg)]) (rest := []) (ci := 10) (o := 0) rfl ml_L_169 v_X_shift (by decide) rfl (by decide) rfl rfl rfl (Nat.le_of_ble_eq_true rfl) (fun x_ e_ => s_X_shift G ((zgx G) (l3 + (1 : Int32)).toNatClampNeg) ((zgx G) (l3 + (2 : Int32)).toNatClampNeg) ((zgx G) (l3 + (3 : Int32)).toNatClampNeg) ((zgx G) (l3 + (4 : Int32)).toNatClampNeg) ((zgx G) (l3 + (5 : Int32)).toNatClampNeg) u x_ e_) (fun q3570r q3570u e3571 b3572 => ?_)
                                                                                refine g_aload_n rfl rfl ?_
                                                                                refine g_aload_n rfl rfl ?_
                                                                                refine g_iload_n rfl rfl ?_
                                                                                refine g_iconst (v := (1 : Int32)) rfl zic_1 ?_
                                                                                refine g_iadd rfl ?_
                                                                                refine g_sldX rfl (fun o3573 => ?_)
                                                                                refine g_aload_n rfl rfl ?_
                                                                                refine g_iload_n rfl rfl ?_
                                                                                refine g_iconst (v := (2 : Int32)) rfl zic_2 ?_
                                                                                refine g_iadd rfl ?_
                                                                                refine g_sldX rfl (fun o3574 => ?_)
                                                                                refine g_aload_n rfl rfl ?_
                                                                                refine g_iload_n rfl rfl ?_
                                                                                refine g_iconst (v := (3 : Int32)) rfl zic_3 ?_
                                                                                refine g_iadd rfl ?_
                                                                                refine g_sldX rfl (fun o3575 => ?_)
                                                                                refine g_aload_n rfl rfl ?_
                                                                                refine g_iload_n rfl rfl ?_
                                                                                refine g_iconst (v := (4 : Int32)) rfl zic_4 ?_
                                                                                refine g_iadd rfl ?_
                                                                                refine g_sldX rfl (fun o3576 => ?_)
                                                                                refine g_aload_n rfl rfl ?_
                                                                                refine g_iload_n rfl rfl ?_
                                                                                refine g_iconst (v := (5 : Int32)) rfl zic_5 ?_
                                                                                refine g_iadd rfl ?_
                                                                                refine g_sldX rfl (fun o3577 => ?_)
                                                                                refine g_callVI (M' := m_M_shift) (d' := 3) (as := [.int ((zgx G) (l3 + (1 : Int32)).toNatClampNeg), .int ((zgx G) (l3 + (2 : Int32)).toNatClampNeg), .int ((zgx G) (l3 + (3 : Int32)).toNatClampNeg), .int ((zgx G) (l3 + (4 : Int32)).toNatClampNeg), .int ((zgx G) (l3 + (5 : Int32)).toNatClampNeg)]) (rest := [.int q3570r]) (ci := 11) (o := 39) rfl ml_L_173 v_M_shift (by decide) rfl (by decide) rfl rfl rfl (Nat.le_of_ble_eq_true rfl) (fun x_ e_ => s_M_shift G ((zgx G) (l3 + (1 : Int32)).toNatClampNeg) ((zgx G) (l3 + (2 : Int32)).toNatClampNeg) ((zgx G) (l3 + (3 : Int32)).toNatClampNeg) ((zgx G) (l3 + (4 : Int32)).toNatClampNeg) ((zgx G) (l3 + (5 : Int32)).toNatClampNeg) q3570u x_ e_) (fun q3578r q3578u e3579 b3580 => ?_)
                                                                                refine g_icmpeq rfl (fun c3581 => ?_) (fun c3581 => ?_)
                                                                                · refine g_iinc (v := (6 : Int32)) (lv' := [(0, .ref 102), (1, .ref 0), (2, .ref 39), (3, .int (l3 + (6 : Int32)))]) rfl rfl zic_6 (Nat.le_of_ble_eq_true rfl) rfl rfl ?_
                                                                                  refine g_goto rfl ?_
                                                                                  exact zgo_sub (zsubk [0, 1, 2, 3] rfl) (zgo_leaf (hb (l3 + (6 : Int32)) q3578u))
                                                                                · refine g_iconst (v := (0 : Int32)) rfl zic_0 ?_
                                                                                  exact g_iret rfl (Or.inr ⟨rfl, Or.inl rfl⟩) (hr _)
                                                                              · refine zgo_ite (fun c3582 => ?_) (fun c3582 => ?_)
                                                                                · refine g_tswIn rfl c3582 (by decide) (by decide) (off := 1310) (by decide +kernel) 923 rfl ?_
                                                                                  refine g_aload_n rfl rfl ?_
                                                                                  refine g_aload_n rfl rfl ?_
                                                                                  refine g_iload_n rfl rfl ?_
                                                                                  refine g_iconst (v := (1 : Int32)) rfl zic_1 ?_
                                                                                  refine g_iadd rfl ?_
                                                                                  refine g_sldX rfl (fun o3583 => ?_)
                                                                                  refine g_aload_n rfl rfl ?_
                                                                                  refine g_iload_n rfl rfl ?_
                                                                                  refine g_iconst (v := (2 : Int32)) rfl zic_2 ?_
                                                                                  refine g_iadd rfl ?_
                                                                                  refine g_sldX rfl (fun o3584 => ?_)
                                                                                  refine g_callVP (M' := m_X_taken) (d' := 3) (as := [.int ((zgx G) (l3 + (1 : Int32)).toNatClampNeg), .int ((zgx G) (l3 + (2 : Int32)).toNatClampNeg)]) (rest := []) (ci := 10) (o := 0) rfl ml_L_174 v_X_taken (by decide) rfl (by decide) rfl rfl rfl (Nat.le_of_ble_eq_true rfl) (fun x_ e_ => s_X_taken G ((zgx G) (l3 + (1 : Int32)).toNatClampNeg) ((zgx G) (l3 + (2 : Int32)).toNatClampNeg) u x_ e_) (fun q3585 e3586 b3587 => ?_)
                                                                                  refine g_aload_n rfl rfl ?_
                                                                                  refine g_aload_n rfl rfl ?_
                                                                                  refine g_iload_n rfl rfl ?_
                                                                                  refine g_iconst (v := (1 : Int32)) rfl zic_1 ?_
                                                                                  refine g_iadd rfl ?_
                                                                                  refine g_sldX rfl (fun o3588 => ?_)
                                                                                  refine g_aload_n rfl rfl ?_
                                                                                  refine g_iload_n rfl rfl ?_
                                                                                  refine g_iconst (v := (2 : Int32)) rfl zic_2 ?_
                                                                                  refine g_iadd rfl ?_
                                                                                  refine g_sldX rfl (fun o3589 => ?_)
                                                                                  refine g_callVP (M' := m_M_taken) (d' := 3) (as := [.int ((zgx G) (l3 + (1 : Int32)).toNatClampNeg), .int ((zgx G) (l3 + (2 : Int32)).toNatClampNeg)]) (rest := [.int q3585]) (ci := 11) (o := 39) rfl ml_L_177 v_M_taken (by decide) rfl (by decide) rfl rfl rfl (Nat.le_of_ble_eq_true rfl) (fun x_ e_ => s_M_taken G ((zgx G) (l3 + (1 : Int32)).toNatClampNeg) ((zgx G) (l3 + (2 : Int32)).toNatClampNeg) u x_ e_) (fun q3590 e3591 b3592 => ?_)
                                                                                  refine g_icmpeq rfl (fun c3593 => ?_) (fun c3593 => ?_)
                                                                                  · refine g_iinc (v := (6 : Int32)) (lv' := [(0, .ref 102), (1, .ref 0), (2, .ref 39), (3, .int (l3 + (6 : Int32)))]) rfl rfl zic_6 (Nat.le_of_ble_eq_true rfl) rfl rfl ?_
                                                                                    refine g_goto rfl ?_
                                                                                    exact zgo_sub (zsubk [0, 1, 2, 3] rfl) (zgo_leaf (hb (l3 + (6 : Int32)) u))
                                                                                  · refine g_iconst (v := (0 : Int32)) rfl zic_0 ?_
                                                                                    exact g_iret rfl (Or.inr ⟨rfl, Or.inl rfl⟩) (hr _)
                                                                                · refine zgo_ite (fun c3594 => ?_) (fun c3594 => ?_)
                                                                                  · refine g_tswIn rfl c3594 (by decide) (by decide) (off := 1343) (by decide +kernel) 950 rfl ?_
                                                                                    refine g_aload_n rfl rfl ?_
                                                                                    refine g_aload_n rfl rfl ?_
                                                                                    refine g_iload_n rfl rfl ?_
                                                                                    refine g_iconst (v := (1 : Int32)) rfl zic_1 ?_
                                                                                    refine g_iadd rfl ?_
                                                                                    refine g_sldX rfl (fun o3595 => ?_)
                                                                                    refine g_callVP (M' := m_X_count) (d' := 2) (as := [.int ((zgx G) (l3 + (1 : Int32)).toNatClampNeg)]) (rest := []) (ci := 10) (o := 0) rfl ml_L_178 v_X_count (by decide) rfl (by decide) rfl rfl rfl (Nat.le_of_ble_eq_true rfl) (fun x_ e_ => s_X_count G ((zgx G) (l3 + (1 : Int32)).toNatClampNeg) u x_ e_) (fun q3596 e3597 b3598 => ?_)
                                                                                    refine g_aload_n rfl rfl ?_
                                                                                    refine g_aload_n rfl rfl ?_
                                                                                    refine g_iload_n rfl rfl ?_
                                                                                    refine g_iconst (v := (1 : Int32)) rfl zic_1 ?_
                                                                                    refine g_iadd rfl ?_
                                                                                    refine g_sldX rfl (fun o3599 => ?_)
                                                                                    refine g_callVP (M' := m_M_count) (d' := 1) (as := [.int ((zgx G) (l3 + (1 : Int32)).toNatClampNeg)]) (rest := [.int q3596]) (ci := 11) (o := 39) rfl ml_L_181 v_M_count (by decide) rfl (by decide) rfl rfl rfl (Nat.le_of_ble_eq_true rfl) (fun x_ e_ => s_M_count G ((zgx G) (l3 + (1 : Int32)).toNatClampNeg) u x_ e_) (fun q3600 e3601 b3602 => ?_)
                                                                                    refine g_icmpeq rfl (fun c3603 => ?_) (fun c3603 => ?_)
                                                                                    · refine g_iinc (v := (6 : Int32)) (lv' := [(0, .ref 102), (1, .ref 0), (2, .ref 39), (3, .int (l3 + (6 : Int32)))]) rfl rfl zic_6 (Nat.le_of_ble_eq_true rfl) rfl rfl ?_
                                                                                      refine g_goto rfl ?_
                                                                                      exact zgo_sub (zsubk [0, 1, 2, 3] rfl) (zgo_leaf (hb (l3 + (6 : Int32)) u))
                                                                                    · refine g_iconst (v := (0 : Int32)) rfl zic_0 ?_
                                                                                      exact g_iret rfl (Or.inr ⟨rfl, Or.inl rfl⟩) (hr _)
                                                                                  · refine g_tswD rfl [0, 1, 2, 3, 4, 5, 6, 7, 8, 9, 10, 11, 12, 13, 14, 15, 16, 17, 18, 19, 20, 21, 22, 23, 24, 25, 26, 27, 28, 29, 30, 31, 32, 33, 34, 35, 36, 37, 38, 39] 40 (by decide) (by decide +kernel) (List.forall_mem_cons.mpr ⟨z_ne c3154 rfl, (List.forall_mem_cons.mpr ⟨z_ne c3164 rfl, (List.forall_mem_cons.mpr ⟨z_ne c3178 rfl, (List.forall_mem_cons.mpr ⟨z_ne c3188 rfl, (List.forall_mem_cons.mpr ⟨z_ne c3196 rfl, (List.forall_mem_cons.mpr ⟨z_ne c3210 rfl, (List.forall_mem_cons.mpr ⟨z_ne c3222 rfl, (List.forall_mem_cons.mpr ⟨z_ne c3234 rfl, (List.forall_mem_cons.mpr ⟨z_ne c3244 rfl, (List.forall_mem_cons.mpr ⟨z_ne c3252 rfl, (List.forall_mem_cons.mpr ⟨z_ne c3266 rfl, (List.forall_mem_cons.mpr ⟨z_ne c3280 rfl, (List.forall_mem_cons.mpr ⟨z_ne c3290 rfl, (List.forall_mem_cons.mpr ⟨z_ne c3302 rfl, (List.forall_mem_cons.mpr ⟨z_ne c3314 rfl, (List.forall_mem_cons.mpr ⟨z_ne c3322 rfl, (List.forall_mem_cons.mpr ⟨z_ne c3332 rfl, (List.forall_mem_cons.mpr ⟨z_ne c3344 rfl, (List.forall_mem_cons.mpr ⟨z_ne c3352 rfl, (List.forall_mem_cons.mpr ⟨z_ne c3364 rfl, (List.forall_mem_cons.mpr ⟨z_ne c3374 rfl, (List.forall_mem_cons.mpr ⟨z_ne c3386 rfl, (List.forall_mem_cons.mpr ⟨z_ne c3400 rfl, (List.forall_mem_cons.mpr ⟨z_ne c3410 rfl, (List.forall_mem_cons.mpr ⟨z_ne c3422 rfl, (List.forall_mem_cons.mpr ⟨z_ne c3434 rfl, (List.forall_mem_cons.mpr ⟨z_ne c3444 rfl, (List.forall_mem_cons.mpr ⟨z_ne c3452 rfl, (List.forall_mem_cons.mpr ⟨z_ne c3460 rfl, (List.forall_mem_cons.mpr ⟨z_ne c3468 rfl, (List.forall_mem_cons.mpr ⟨z_ne c3476 rfl, (List.forall_mem_cons.mpr ⟨z_ne c3486 rfl, (List.forall_mem_cons.mpr ⟨z_ne c3500 rfl, (List.forall_mem_cons.mpr ⟨z_ne c3510 rfl, (List.forall_mem_cons.mpr ⟨z_ne c3522 rfl, (List.forall_mem_cons.mpr ⟨z_ne c3536 rfl, (List.forall_mem_cons.mpr ⟨z_ne c3552 rfl, (List.forall_mem_cons.mpr ⟨z_ne c3564 rfl, (List.forall_mem_cons.mpr ⟨z_ne c3582 rfl, (List.forall_mem_cons.mpr ⟨z_ne c3594 rfl, (fun _ h => absurd h List.not_mem_nil)⟩)⟩)⟩)⟩)⟩)⟩)⟩)⟩)⟩)⟩)⟩)⟩)⟩)⟩)⟩)⟩)⟩)⟩)⟩)⟩)⟩)⟩)⟩)⟩)⟩)⟩)⟩)⟩)⟩)⟩)⟩)⟩)⟩)⟩)⟩)⟩)⟩)⟩)⟩)⟩) 967 rfl ?_
                                                                                    refine g_iinc (v := (6 : Int32)) (lv' := [(0, .ref 102), (1, .ref 0), (2, .ref 39), (3, .int (l3 + (6 : Int32)))]) rfl rfl zic_6 (Nat.le_of_ble_eq_true rfl) rfl rfl ?_
                                                                                    refine g_goto rfl ?_
                                                                                    exact zgo_sub (zsubk [0, 1, 2, 3] rfl) (zgo_leaf (hb (l3 + (6 : Int32)) u))
