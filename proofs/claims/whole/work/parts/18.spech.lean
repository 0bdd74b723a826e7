/-! by program (gen3.py): each method does what its function says -/
set_option maxRecDepth 100000 in
set_option maxHeartbeats 4000000 in
theorem wa_L_law_10 (G : ZG) (u : ZSt) : ZGo G m_L_law 407 (a_L_law_10 (zgL G) (zgx G) u) zkI 969 [] [] u := by
  unfold a_L_law_10
  refine g_iconst (v := (1 : Int32)) rfl zic_1 ?_
  exact g_iret rfl (Or.inr ⟨rfl, Or.inr rfl⟩) rfl
set_option maxRecDepth 100000 in
set_option maxHeartbeats 4000000 in
theorem w_L_law (G : ZG) (u : ZSt) : ZGo G m_L_law 407 (f_L_law (zgL G) (zgx G) u) zkI 8 [(0, .ref 102), (1, .ref 0), (2, .ref 39)] [] u := by
  unfold f_L_law
  refine g_iconst (v := (0 : Int32)) rfl zic_0 ?_
  refine g_istore_n (lv' := [(0, .ref 102), (1, .ref 0), (2, .ref 39), (3, .int (0 : Int32))]) rfl (Nat.le_of_ble_eq_true rfl) rfl rfl ?_
  refine zgo_sub (lv' := [(0, .ref 102), (1, .ref 0), (2, .ref 39), (3, .int (0 : Int32))]) (zsubk [0, 1, 2, 3] rfl) ?_
  refine zgo_loop (σ := Int32 × ZSt) (lvf := fun s => [(0, .ref 102), (1, .ref 0), (2, .ref 39), (3, .int s.1)]) (uf := (fun s => s.2)) ?_ zfu _
  intro s K' ih he
  refine wb_L_law_10 G s.1 s.2 K' ?_ ?_ ?_
  · intro c0 v
    exact ih (c0, v)
  · intro c0 v
    rw [he]
    exact zgo_unleaf (wa_L_law_10 G  v)
  · intro x
    exact (he _).trans rfl
