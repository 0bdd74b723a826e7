/-! by program (gen3.py): each method does what its function says -/
set_option maxRecDepth 100000 in
set_option maxHeartbeats 4000000 in
theorem wb_M_lots_37 (G : ZG) (l2 : Int32) (l4 : Int32) (l5 : Int32) (l6 : Int32) (u : ZSt) (K : ((Int32 × Int32 × Int32) ⊕ (Int32 × Int32 × Int32)) → Option (Value × ZSt)) (hb : ∀ (l4 : Int32) (l5 : Int32) (l6 : Int32), ZGo G m_M_lots 4 (K (.inl (l4, l5, l6))) some 37 [(0, .ref 39), (2, .int l2), (4, .int l4), (5, .int l5), (6, .int l6)] [] u) (hx : ∀ (l4 : Int32) (l5 : Int32) (l6 : Int32), ZGo G m_M_lots 4 (K (.inr (l4, l5, l6))) some 101 [(5, .int l5)] [] u) : ZGo G m_M_lots 4 (b_M_lots_37 l2 l4 l5 l6 u) K 37 [(0, .ref 39), (2, .int l2), (4, .int l4), (5, .int l5), (6, .int l6)] [] u := by
  unfold b_M_lots_37
  refine g_iload rfl rfl ?_
  refine g_iload_n rfl rfl ?_
  refine g_bipush (v := (100 : Int32)) rfl zib_100 ?_
  refine g_idiv rfl (by decide) ?_
  refine g_icmpge rfl (fun c2141 => ?_) (fun c2141 => ?_)
  · exact zgo_sub (zsubk [3] rfl) (zgo_leaf (hx l4 l5 l6))
  · refine g_iconst (v := (1 : Int32)) rfl zic_1 ?_
    refine g_aload_n rfl rfl ?_
    refine g_getI rfl zf_M_94 rfl rfl rfl ?_
    refine g_ishl rfl ?_
    refine g_iconst (v := (1 : Int32)) rfl zic_1 ?_
    refine g_isub rfl ?_
    refine g_istore (lv' := [(0, .ref 39), (2, .int l2), (4, .int l4), (5, .int l5), (6, .int l6), (7, .int (((1 : Int32) <<< ((u.1 3906) &&& 31)) - (1 : Int32)))]) rfl (Nat.le_of_ble_eq_true rfl) rfl rfl ?_
    refine g_iconst (v := (0 : Int32)) rfl zic_0 ?_
    refine g_istore (lv' := [(0, .ref 39), (2, .int l2), (4, .int l4), (5, .int l5), (6, .int l6), (7, .int (((1 : Int32) <<< ((u.1 3906) &&& 31)) - (1 : Int32))), (8, .int (0 : Int32))]) rfl (Nat.le_of_ble_eq_true rfl) rfl rfl ?_
    refine zgo_sub (lv' := [(0, .ref 39), (2, .int l2), (4, .int l4), (5, .int l5), (6, .int l6), (7, .int (((1 : Int32) <<< ((u.1 3906) &&& 31)) - (1 : Int32))), (8, .int (0 : Int32))]) (zsubk [0, 1, 2, 3, 4, 5, 6] rfl) ?_
    refine zgo_loop (σ := Int32 × Int32 × Int32) (lvf := fun s => [(0, .ref 39), (2, .int l2), (4, .int s.1), (5, .int l5), (6, .int l6), (7, .int s.2.1), (8, .int s.2.2)]) (uf := (fun _ => u)) ?_ zfu _
    intro s K' ih he
    refine wb_M_lots_51 G l2 l5 l6 s.1 s.2.1 s.2.2 u K' ?_ ?_
    · intro c0 c1 c2
      exact ih (c0, c1, c2)
    · intro c0 c1 c2
      rw [he]
      exact zgo_unleaf (wa_M_lots_51 G l2 c0 l5 l6 c1 u K hb hx)
set_option maxRecDepth 100000 in
set_option maxHeartbeats 4000000 in
theorem wa_M_lots_37 (G : ZG) (l5 : Int32) (u : ZSt) : ZGo G m_M_lots 4 (a_M_lots_37 l5 u) zkI 101 [(5, .int l5)] [] u := by
  unfold a_M_lots_37
  refine g_iload rfl rfl ?_
  exact g_iret rfl (Or.inl rfl) rfl
set_option maxRecDepth 100000 in
set_option maxHeartbeats 4000000 in
theorem w_M_lots (G : ZG) (a : Int32) (b : Int32) (c : Int32) (u : ZSt) : ZGo G m_M_lots 4 (f_M_lots a b c u) zkI 0 [(0, .ref 39), (1, .int a), (2, .int b), (3, .int c)] [] u := by
  unfold f_M_lots
  refine g_iload_n rfl rfl ?_
  refine g_iflt rfl (fun c2125 => ?_) (fun c2125 => ?_)
  · refine g_iconst (v := (-1 : Int32)) rfl zic_m1 ?_
    exact g_iret rfl (Or.inl rfl) rfl
  · refine g_iload_n rfl rfl ?_
    refine g_bipush (v := (100 : Int32)) rfl zib_100 ?_
    refine g_idiv rfl (by decide) ?_
    refine g_i2l rfl ?_
    refine g_lconst (v := (1 : Int64)) rfl rfl ?_
    refine g_ldc2 rfl zk_M_255 ?_
    refine g_callSP (M' := m_M_within) (d' := 1) (as := [.long ((b / (100 : Int32)).toInt64), .long (1 : Int64), .long (30 : Int64)]) (rest := []) rfl ml_M_97 v_M_within (by decide) rfl rfl (Nat.le_of_ble_eq_true rfl) (fun x_ e_ => s_M_within G ((b / (100 : Int32)).toInt64) (1 : Int64) (30 : Int64) u x_ e_) (fun q2126 e2127 b2128 => ?_)
    refine g_ifeq rfl (fun c2129 => ?_) (fun c2129 => ?_)
    · refine g_iconst (v := (-1 : Int32)) rfl zic_m1 ?_
      exact g_iret rfl (Or.inl rfl) rfl
    · refine g_iload_n rfl rfl ?_
      refine g_bipush (v := (100 : Int32)) rfl zib_100 ?_
      refine g_irem rfl (by decide) ?_
      refine g_i2l rfl ?_
      refine g_lconst (v := (1 : Int64)) rfl rfl ?_
      refine g_aload_n rfl rfl ?_
      refine g_getI rfl zf_M_94 rfl rfl rfl ?_
      refine g_i2l rfl ?_
      refine g_callSP (M' := m_M_within) (d' := 1) (as := [.long ((zrem b (100 : Int32)).toInt64), .long (1 : Int64), .long ((u.1 3906).toInt64)]) (rest := []) rfl ml_M_97 v_M_within (by decide) rfl rfl (Nat.le_of_ble_eq_true rfl) (fun x_ e_ => s_M_within G ((zrem b (100 : Int32)).toInt64) (1 : Int64) ((u.1 3906).toInt64) u x_ e_) (fun q2130 e2131 b2132 => ?_)
      refine g_ifeq rfl (fun c2133 => ?_) (fun c2133 => ?_)
      · refine g_iconst (v := (-1 : Int32)) rfl zic_m1 ?_
        exact g_iret rfl (Or.inl rfl) rfl
      · refine g_aload_n rfl rfl ?_
        refine g_iload_n rfl rfl ?_
        refine g_callVP (M' := m_M_isBundle) (d' := 2) (as := [.int c]) (rest := []) (ci := 11) (o := 39) rfl ml_M_232 v_M_isBundle (by decide) rfl (by decide) rfl rfl rfl (Nat.le_of_ble_eq_true rfl) (fun x_ e_ => s_M_isBundle G c u x_ e_) (fun q2134 e2135 b2136 => ?_)
        refine g_ifne rfl (fun c2137 => ?_) (fun c2137 => ?_)
        · refine g_aload_n rfl rfl ?_
          refine g_iload_n rfl rfl ?_
          refine g_iload_n rfl rfl ?_
          refine g_iconst (v := (0 : Int32)) rfl zic_0 ?_
          refine g_callVV (M' := m_M_touches) (d' := 2) (as := [.int c, .int c, .int (0 : Int32)]) (rest := []) (ci := 11) (o := 39) rfl ml_M_208 v_M_touches (by decide) rfl (by decide) rfl rfl rfl (Nat.le_of_ble_eq_true rfl) (fun x_ e_ => s_M_touches G c c (0 : Int32) u x_ e_) (fun q2138 e2139 b2140 => ?_)
          refine g_iload_n rfl rfl ?_
          refine g_istore (lv' := [(0, .ref 39), (1, .int a), (2, .int b), (3, .int c), (4, .int a)]) rfl (Nat.le_of_ble_eq_true rfl) rfl rfl ?_
          refine g_iconst (v := (0 : Int32)) rfl zic_0 ?_
          refine g_istore (lv' := [(0, .ref 39), (1, .int a), (2, .int b), (3, .int c), (4, .int a), (5, .int (0 : Int32))]) rfl (Nat.le_of_ble_eq_true rfl) rfl rfl ?_
          refine g_iconst (v := (0 : Int32)) rfl zic_0 ?_
          refine g_istore (lv' := [(0, .ref 39), (1, .int a), (2, .int b), (3, .int c), (4, .int a), (5, .int (0 : Int32)), (6, .int (0 : Int32))]) rfl (Nat.le_of_ble_eq_true rfl) rfl rfl ?_
          refine zgo_sub (lv' := [(0, .ref 39), (2, .int b), (4, .int a), (5, .int (0 : Int32)), (6, .int (0 : Int32))]) (zsubk [0, 2, 4, 5, 6] rfl) ?_
          refine zgo_loop (σ := Int32 × Int32 × Int32) (lvf := fun s => [(0, .ref 39), (2, .int b), (4, .int s.1), (5, .int s.2.1), (6, .int s.2.2)]) (uf := (fun _ => q2138)) ?_ zfu _
          intro s K' ih he
          refine wb_M_lots_37 G b s.1 s.2.1 s.2.2 q2138 K' ?_ ?_
          · intro c0 c1 c2
            exact ih (c0, c1, c2)
          · intro c0 c1 c2
            rw [he]
            exact zgo_unleaf (wa_M_lots_37 G c1 q2138)
        · refine g_iconst (v := (-1 : Int32)) rfl zic_m1 ?_
          exact g_iret rfl (Or.inl rfl) rfl
theorem s_M_lots (G : ZG) (a : Int32) (b : Int32) (c : Int32) (u : ZSt) (x : Int32 × ZSt) (hx : f_M_lots a b c u = some x) : ZSpec G m_M_lots 4 [.ref 39, .int a, .int b, .int c] u (zemI x) :=
  ZSpec.go k_M_lots (Nat.le_of_ble_eq_true rfl) (w_M_lots G a b c u) (tgt := zemI x) (by rw [hx]; rfl)
set_option maxRecDepth 100000 in
set_option maxHeartbeats 4000000 in
theorem w_Shelves_refusedAsRow (G : ZG) (a : Int32) (b : Int32) (u : ZSt) : ZGo G m_Shelves_refusedAsRow 2 (f_Shelves_refusedAsRow a b u) (zkP u) 0 [(0, .ref 27), (1, .int a), (2, .int b)] [] u := by
  unfold f_Shelves_refusedAsRow
  refine g_aload_n rfl rfl ?_
  refine g_iload_n rfl rfl ?_
  refine g_callVP (M' := m_Shelves_isShelf) (d' := 1) (as := [.int a]) (rest := []) (ci := 7) (o := 27) rfl ml_Shelves_25 v_Shelves_isShelf (by decide) rfl (by decide) rfl rfl rfl (Nat.le_of_ble_eq_true rfl) (fun x_ e_ => s_Shelves_isShelf G a u x_ e_) (fun q2154 e2155 b2156 => ?_)
  refine g_ifne rfl (fun c2157 => ?_) (fun c2157 => ?_)
  · refine g_aload_n rfl rfl ?_
    refine g_getR rfl zf_Shelves_11 rfl rfl ?_
    refine g_iload_n rfl rfl ?_
    refine g_iald rfl rfl (fun o2161 => ?_)
    refine g_iconst (v := (-1 : Int32)) rfl zic_m1 ?_
    refine g_icmpne rfl (fun c2158 => ?_) (fun c2158 => ?_)
    · refine g_aload_n rfl rfl ?_
      refine g_getR rfl zf_Shelves_11 rfl rfl ?_
      refine g_iload_n rfl rfl ?_
      refine g_iald rfl rfl (fun o2160 => ?_)
      refine g_iload_n rfl rfl ?_
      refine g_icmpne rfl (fun c2159 => ?_) (fun c2159 => ?_)
      · refine g_bipush (v := (-12 : Int32)) rfl zib_m12 ?_
        exact g_iret rfl (Or.inl rfl) rfl
      · refine g_iconst (v := (0 : Int32)) rfl zic_0 ?_
        refine g_goto rfl ?_
        exact g_iret rfl (Or.inl rfl) rfl
    · refine g_bipush (v := (-11 : Int32)) rfl zib_m11 ?_
      exact g_iret rfl (Or.inl rfl) rfl
  · refine g_iconst (v := (-1 : Int32)) rfl zic_m1 ?_
    exact g_iret rfl (Or.inl rfl) rfl
theorem s_Shelves_refusedAsRow (G : ZG) (a : Int32) (b : Int32) (u : ZSt) (x : Int32) (hx : f_Shelves_refusedAsRow a b u = some x) : ZSpec G m_Shelves_refusedAsRow 2 [.ref 27, .int a, .int b] u ((zemP u) x) :=
  ZSpec.go k_Shelves_refusedAsRow (Nat.le_of_ble_eq_true rfl) (w_Shelves_refusedAsRow G a b u) (tgt := (zemP u) x) (by rw [hx]; rfl)
set_option maxRecDepth 100000 in
set_option maxHeartbeats 4000000 in
theorem w_Shelves_sizeOf (G : ZG) (a : Int32) (u : ZSt) : ZGo G m_Shelves_sizeOf 2 (f_Shelves_sizeOf a u) (zkP u) 0 [(0, .ref 27), (1, .int a)] [] u := by
  unfold f_Shelves_sizeOf
  refine g_aload_n rfl rfl ?_
  refine g_iload_n rfl rfl ?_
  refine g_callVP (M' := m_Shelves_isShelf) (d' := 1) (as := [.int a]) (rest := []) (ci := 7) (o := 27) rfl ml_Shelves_25 v_Shelves_isShelf (by decide) rfl (by decide) rfl rfl rfl (Nat.le_of_ble_eq_true rfl) (fun x_ e_ => s_Shelves_isShelf G a u x_ e_) (fun q2162 e2163 b2164 => ?_)
  refine g_ifeq rfl (fun c2165 => ?_) (fun c2165 => ?_)
  · refine g_iconst (v := (0 : Int32)) rfl zic_0 ?_
    exact g_iret rfl (Or.inl rfl) rfl
  · refine g_aload_n rfl rfl ?_
    refine g_getR rfl zf_Shelves_15 rfl rfl ?_
    refine g_iload_n rfl rfl ?_
    refine g_iald rfl rfl (fun o2166 => ?_)
    refine g_goto rfl ?_
    exact g_iret rfl (Or.inl rfl) rfl
theorem s_Shelves_sizeOf (G : ZG) (a : Int32) (u : ZSt) (x : Int32) (hx : f_Shelves_sizeOf a u = some x) : ZSpec G m_Shelves_sizeOf 2 [.ref 27, .int a] u ((zemP u) x) :=
  ZSpec.go k_Shelves_sizeOf (Nat.le_of_ble_eq_true rfl) (w_Shelves_sizeOf G a u) (tgt := (zemP u) x) (by rw [hx]; rfl)
set_option maxRecDepth 100000 in
set_option maxHeartbeats 4000000 in
theorem w_Years_bundleAt (G : ZG) (a : Int32) (b : Int32) (u : ZSt) : ZGo G m_Years_bundleAt 3 (f_Years_bundleAt a b u) (zkP u) 0 [(0, .ref 32), (1, .int a), (2, .int b)] [] u := by
  unfold f_Years_bundleAt
  refine g_aload_n rfl rfl ?_
  refine g_getR rfl zf_Years_19 rfl rfl ?_
  refine g_iload_n rfl rfl ?_
  refine g_iload_n rfl rfl ?_
  refine g_callVL (M' := m_Shelves_valueAt) (d' := 2) (as := [.int a, .int b]) (rest := []) (ci := 7) (o := 27) rfl ml_Years_62 v_Shelves_valueAt (by decide) rfl (by decide) rfl rfl rfl (Nat.le_of_ble_eq_true rfl) (fun x_ e_ => s_Shelves_valueAt G a b u x_ e_) (fun q2167 e2168 b2169 => ?_)
  refine g_l2i rfl ?_
  exact g_iret rfl (Or.inl rfl) rfl
theorem s_Years_bundleAt (G : ZG) (a : Int32) (b : Int32) (u : ZSt) (x : Int32) (hx : f_Years_bundleAt a b u = some x) : ZSpec G m_Years_bundleAt 3 [.ref 32, .int a, .int b] u ((zemP u) x) :=
  ZSpec.go k_Years_bundleAt (Nat.le_of_ble_eq_true rfl) (w_Years_bundleAt G a b u) (tgt := (zemP u) x) (by rw [hx]; rfl)
set_option maxRecDepth 100000 in
set_option maxHeartbeats 4000000 in
theorem w_Years_isWhole (G : ZG) (a : Int32) (b : Int32) (u : ZSt) : ZGo G m_Years_isWhole 4 (f_Years_isWhole a b u) (zkP u) 0 [(0, .ref 32), (1, .int a), (2, .int b)] [] u := by
  unfold f_Years_isWhole
  refine g_aload_n rfl rfl ?_
  refine g_getR rfl zf_Years_19 rfl rfl ?_
  refine g_iload_n rfl rfl ?_
  refine g_iload_n rfl rfl ?_
  refine g_iconst (v := (1 : Int32)) rfl zic_1 ?_
  refine g_iadd rfl ?_
  refine g_callVP (M' := m_Shelves_hasPlace) (d' := 1) (as := [.int a, .int (b + (1 : Int32))]) (rest := []) (ci := 7) (o := 27) rfl ml_Years_55 v_Shelves_hasPlace (by decide) rfl (by decide) rfl rfl rfl (Nat.le_of_ble_eq_true rfl) (fun x_ e_ => s_Shelves_hasPlace G a (b + (1 : Int32)) u x_ e_) (fun q2170 e2171 b2172 => ?_)
  refine g_ifeq rfl (fun c2173 => ?_) (fun c2173 => ?_)
  · refine g_iconst (v := (0 : Int32)) rfl zic_0 ?_
    exact g_iret rfl (Or.inr ⟨rfl, Or.inl rfl⟩) rfl
  · refine g_aload_n rfl rfl ?_
    refine g_getR rfl zf_Years_9 rfl rfl ?_
    refine g_aload_n rfl rfl ?_
    refine g_iload_n rfl rfl ?_
    refine g_iload_n rfl rfl ?_
    refine g_callVP (M' := m_Years_bundleAt) (d' := 3) (as := [.int a, .int b]) (rest := [.ref 1]) (ci := 9) (o := 32) rfl ml_Years_37 v_Years_bundleAt (by decide) rfl (by decide) rfl rfl rfl (Nat.le_of_ble_eq_true rfl) (fun x_ e_ => s_Years_bundleAt G a b u x_ e_) (fun q2174 e2175 b2176 => ?_)
    refine g_callVP (M' := m_Council_isBundle) (d' := 2) (as := [.int q2174]) (rest := []) (ci := 3) (o := 1) rfl ml_Years_58 v_Council_isBundle (by decide) rfl (by decide) rfl rfl rfl (Nat.le_of_ble_eq_true rfl) (fun x_ e_ => s_Council_isBundle G q2174 u x_ e_) (fun q2177 e2178 b2179 => ?_)
    refine g_ifeq rfl (fun c2180 => ?_) (fun c2180 => ?_)
    · refine g_iconst (v := (0 : Int32)) rfl zic_0 ?_
      exact g_iret rfl (Or.inr ⟨rfl, Or.inl rfl⟩) rfl
    · refine g_iconst (v := (1 : Int32)) rfl zic_1 ?_
      refine g_goto rfl ?_
      exact g_iret rfl (Or.inr ⟨rfl, Or.inr rfl⟩) rfl
theorem s_Years_isWhole (G : ZG) (a : Int32) (b : Int32) (u : ZSt) (x : Int32) (hx : f_Years_isWhole a b u = some x) : ZSpec G m_Years_isWhole 4 [.ref 32, .int a, .int b] u ((zemP u) x) :=
  ZSpec.go k_Years_isWhole (Nat.le_of_ble_eq_true rfl) (w_Years_isWhole G a b u) (tgt := (zemP u) x) (by rw [hx]; rfl)
set_option maxRecDepth 100000 in
set_option maxHeartbeats 4000000 in
theorem w_Years_silentAt (G : ZG) (a : Int32) (b : Int32) (u : ZSt) : ZGo G m_Years_silentAt 3 (f_Years_silentAt a b u) (zkP u) 0 [(0, .ref 32), (1, .int a), (2, .int b)] [] u := by
  unfold f_Years_silentAt
  refine g_aload_n rfl rfl ?_
  refine g_getR rfl zf_Years_19 rfl rfl ?_
  refine g_iload_n rfl rfl ?_
  refine g_iload_n rfl rfl ?_
  refine g_iconst (v := (1 : Int32)) rfl zic_1 ?_
  refine g_iadd rfl ?_
  refine g_callVL (M' := m_Shelves_valueAt) (d' := 2) (as := [.int a, .int (b + (1 : Int32))]) (rest := []) (ci := 7) (o := 27) rfl ml_Years_62 v_Shelves_valueAt (by decide) rfl (by decide) rfl rfl rfl (Nat.le_of_ble_eq_true rfl) (fun x_ e_ => s_Shelves_valueAt G a (b + (1 : Int32)) u x_ e_) (fun q2181 e2182 b2183 => ?_)
  refine g_l2i rfl ?_
  exact g_iret rfl (Or.inl rfl) rfl
theorem s_Years_silentAt (G : ZG) (a : Int32) (b : Int32) (u : ZSt) (x : Int32) (hx : f_Years_silentAt a b u = some x) : ZSpec G m_Years_silentAt 3 [.ref 32, .int a, .int b] u ((zemP u) x) :=
  ZSpec.go k_Years_silentAt (Nat.le_of_ble_eq_true rfl) (w_Years_silentAt G a b u) (tgt := (zemP u) x) (by rw [hx]; rfl)
set_option maxRecDepth 100000 in
set_option maxHeartbeats 4000000 in
theorem w_Years_mustBeSilent (G : ZG) (a : Int32) (u : ZSt) : ZGo G m_Years_mustBeSilent 5 (f_Years_mustBeSilent a u) zkI 0 [(0, .ref 32), (1, .int a)] [] u := by
  unfold f_Years_mustBeSilent
  refine g_aload_n rfl rfl ?_
  refine g_getR rfl zf_Years_9 rfl rfl ?_
  refine g_callVP (M' := m_Council_everybody) (d' := 1) (as := []) (rest := []) (ci := 3) (o := 1) rfl ml_Years_43 v_Council_everybody (by decide) rfl (by decide) rfl rfl rfl (Nat.le_of_ble_eq_true rfl) (fun x_ e_ => s_Council_everybody G  u x_ e_) (fun q2184 e2185 b2186 => ?_)
  refine g_aload_n rfl rfl ?_
  refine g_getR rfl zf_Years_15 rfl rfl ?_
  refine g_iload_n rfl rfl ?_
  refine g_iload_n rfl rfl ?_
  refine g_iconst (v := (0 : Int32)) rfl zic_0 ?_
  refine g_callVI (M' := m_Ballot_whoMay) (d' := 4) (as := [.int a, .int a, .int (0 : Int32)]) (rest := [.int q2184]) (ci := 0) (o := 19) rfl ml_Years_49 v_Ballot_whoMay (by decide) rfl (by decide) rfl rfl rfl (Nat.le_of_ble_eq_true rfl) (fun x_ e_ => s_Ballot_whoMay G a a (0 : Int32) u x_ e_) (fun q2187r q2187u e2188 b2189 => ?_)
  refine g_iconst (v := (-1 : Int32)) rfl zic_m1 ?_
  refine g_ixor rfl ?_
  refine g_iand rfl ?_
  exact g_iret rfl (Or.inl rfl) rfl
theorem s_Years_mustBeSilent (G : ZG) (a : Int32) (u : ZSt) (x : Int32 × ZSt) (hx : f_Years_mustBeSilent a u = some x) : ZSpec G m_Years_mustBeSilent 5 [.ref 32, .int a] u (zemI x) :=
  ZSpec.go k_Years_mustBeSilent (Nat.le_of_ble_eq_true rfl) (w_Years_mustBeSilent G a u) (tgt := zemI x) (by rw [hx]; rfl)
set_option maxRecDepth 100000 in
set_option maxHeartbeats 4000000 in
theorem wb_Years_firstWrong_7 (G : ZG) (l1 : Int32) (l2 : Int32) (l3 : Int32) (u : ZSt) (K : ((Int32 × ZSt) ⊕ ((Int32 × ZSt) ⊕ (Int32 × ZSt))) → Option (Value × ZSt)) (hb : ∀ (l3 : Int32) (u : ZSt), ZGo G m_Years_firstWrong 6 (K (.inl (l3, u))) some 7 [(0, .ref 32), (1, .int l1), (2, .int l2), (3, .int l3)] [] u) (hx : ∀ (l3 : Int32) (u : ZSt), ZGo G m_Years_firstWrong 6 (K (.inr (.inl (l3, u)))) some 32 [] [] u) (hr : ∀ x, K (.inr (.inr x)) = some (zemI x)) : ZGo G m_Years_firstWrong 6 (b_Years_firstWrong_7 l1 l2 l3 u) K 7 [(0, .ref 32), (1, .int l1), (2, .int l2), (3, .int l3)] [] u := by
  unfold b_Years_firstWrong_7
  refine g_iload_n rfl rfl ?_
  refine g_iload_n rfl rfl ?_
  refine g_icmpge rfl (fun c2193 => ?_) (fun c2193 => ?_)
  · exact zgo_sub (zsubk [] rfl) (zgo_leaf (hx l3 u))
  · refine g_aload_n rfl rfl ?_
    refine g_iload_n rfl rfl ?_
    refine g_iload_n rfl rfl ?_
    refine g_callVP (M' := m_Years_isWhole) (d' := 4) (as := [.int l1, .int l3]) (rest := []) (ci := 9) (o := 32) rfl ml_Years_29 v_Years_isWhole (by decide) rfl (by decide) rfl rfl rfl (Nat.le_of_ble_eq_true rfl) (fun x_ e_ => s_Years_isWhole G l1 l3 u x_ e_) (fun q2194 e2195 b2196 => ?_)
    refine g_ifeq rfl (fun c2197 => ?_) (fun c2197 => ?_)
    · refine g_iload_n rfl rfl ?_
      refine g_iconst (v := (2 : Int32)) rfl zic_2 ?_
      refine g_idiv rfl (by decide) ?_
      exact g_iret rfl (Or.inl rfl) (hr _)
    · refine g_aload_n rfl rfl ?_
      refine g_iload_n rfl rfl ?_
      refine g_iload_n rfl rfl ?_
      refine g_callVP (M' := m_Years_silentAt) (d' := 3) (as := [.int l1, .int l3]) (rest := []) (ci := 9) (o := 32) rfl ml_Years_33 v_Years_silentAt (by decide) rfl (by decide) rfl rfl rfl (Nat.le_of_ble_eq_true rfl) (fun x_ e_ => s_Years_silentAt G l1 l3 u x_ e_) (fun q2198 e2199 b2200 => ?_)
      refine g_aload_n rfl rfl ?_
      refine g_aload_n rfl rfl ?_
      refine g_iload_n rfl rfl ?_
      refine g_iload_n rfl rfl ?_
      refine g_callVP (M' := m_Years_bundleAt) (d' := 3) (as := [.int l1, .int l3]) (rest := [.ref 32, .int q2198]) (ci := 9) (o := 32) rfl ml_Years_37 v_Years_bundleAt (by decide) rfl (by decide) rfl rfl rfl (Nat.le_of_ble_eq_true rfl) (fun x_ e_ => s_Years_bundleAt G l1 l3 u x_ e_) (fun q2201 e2202 b2203 => ?_)
      refine g_callVI (M' := m_Years_mustBeSilent) (d' := 5) (as := [.int q2201]) (rest := [.int q2198]) (ci := 9) (o := 32) rfl ml_Years_40 v_Years_mustBeSilent (by decide) rfl (by decide) rfl rfl rfl (Nat.le_of_ble_eq_true rfl) (fun x_ e_ => s_Years_mustBeSilent G q2201 u x_ e_) (fun q2204r q2204u e2205 b2206 => ?_)
      refine g_icmpeq rfl (fun c2207 => ?_) (fun c2207 => ?_)
      · refine g_iinc (v := (2 : Int32)) (lv' := [(0, .ref 32), (1, .int l1), (2, .int l2), (3, .int (l3 + (2 : Int32)))]) rfl rfl zic_2 (Nat.le_of_ble_eq_true rfl) rfl rfl ?_
        refine g_goto rfl ?_
        exact zgo_sub (zsubk [0, 1, 2, 3] rfl) (zgo_leaf (hb (l3 + (2 : Int32)) q2204u))
      · refine g_iload_n rfl rfl ?_
        refine g_iconst (v := (2 : Int32)) rfl zic_2 ?_
        refine g_idiv rfl (by decide) ?_
        exact g_iret rfl (Or.inl rfl) (hr _)
set_option maxRecDepth 100000 in
set_option maxHeartbeats 4000000 in
theorem wa_Years_firstWrong_7 (G : ZG) (u : ZSt) : ZGo G m_Years_firstWrong 6 (a_Years_firstWrong_7 u) zkI 32 [] [] u := by
  unfold a_Years_firstWrong_7
  refine g_bipush (v := (-2 : Int32)) rfl zib_m2 ?_
  exact g_iret rfl (Or.inl rfl) rfl
set_option maxRecDepth 100000 in
set_option maxHeartbeats 4000000 in
theorem w_Years_firstWrong (G : ZG) (a : Int32) (u : ZSt) : ZGo G m_Years_firstWrong 6 (f_Years_firstWrong a u) zkI 0 [(0, .ref 32), (1, .int a)] [] u := by
  unfold f_Years_firstWrong
  refine g_aload_n rfl rfl ?_
  refine g_getR rfl zf_Years_19 rfl rfl ?_
  refine g_iload_n rfl rfl ?_
  refine g_callVP (M' := m_Shelves_sizeOf) (d' := 2) (as := [.int a]) (rest := []) (ci := 7) (o := 27) rfl ml_Years_23 v_Shelves_sizeOf (by decide) rfl (by decide) rfl rfl rfl (Nat.le_of_ble_eq_true rfl) (fun x_ e_ => s_Shelves_sizeOf G a u x_ e_) (fun q2190 e2191 b2192 => ?_)
  refine g_istore_n (lv' := [(0, .ref 32), (1, .int a), (2, .int q2190)]) rfl (Nat.le_of_ble_eq_true rfl) rfl rfl ?_
  refine g_iconst (v := (0 : Int32)) rfl zic_0 ?_
  refine g_istore_n (lv' := [(0, .ref 32), (1, .int a), (2, .int q2190), (3, .int (0 : Int32))]) rfl (Nat.le_of_ble_eq_true rfl) rfl rfl ?_
  refine zgo_sub (lv' := [(0, .ref 32), (1, .int a), (2, .int q2190), (3, .int (0 : Int32))]) (zsubk [0, 1, 2, 3] rfl) ?_
  refine zgo_loop (σ := Int32 × ZSt) (lvf := fun s => [(0, .ref 32), (1, .int a), (2, .int q2190), (3, .int s.1)]) (uf := (fun s => s.2)) ?_ zfu _
  intro s K' ih he
  refine wb_Years_firstWrong_7 G a q2190 s.1 s.2 K' ?_ ?_ ?_
  · intro c0 v
    exact ih (c0, v)
  · intro c0 v
    rw [he]
    exact zgo_unleaf (wa_Years_firstWrong_7 G  v)
  · intro x
    exact (he _).trans rfl
theorem s_Years_firstWrong (G : ZG) (a : Int32) (u : ZSt) (x : Int32 × ZSt) (hx : f_Years_firstWrong a u = some x) : ZSpec G m_Years_firstWrong 6 [.ref 32, .int a] u (zemI x) :=
  ZSpec.go k_Years_firstWrong (Nat.le_of_ble_eq_true rfl) (w_Years_firstWrong G a u) (tgt := zemI x) (by rw [hx]; rfl)
set_option maxRecDepth 100000 in
set_option maxHeartbeats 4000000 in
theorem w_X_judge (G : ZG) (a : Int32) (u : ZSt) : ZGo G m_X_judge 7 (f_X_judge a u) zkI 0 [(0, .ref 0), (1, .int a)] [] u := by
  unfold f_X_judge
  refine g_aload_n rfl rfl ?_
  refine g_getR rfl zf_X_60 rfl rfl ?_
  refine g_iload_n rfl rfl ?_
  refine g_iconst (v := (1 : Int32)) rfl zic_1 ?_
  refine g_callVP (M' := m_Shelves_refusedAsRow) (d' := 2) (as := [.int a, .int (1 : Int32)]) (rest := []) (ci := 7) (o := 27) rfl ml_X_251 v_Shelves_refusedAsRow (by decide) rfl (by decide) rfl rfl rfl (Nat.le_of_ble_eq_true rfl) (fun x_ e_ => s_Shelves_refusedAsRow G a (1 : Int32) u x_ e_) (fun q2208 e2209 b2210 => ?_)
  refine g_istore_n (lv' := [(0, .ref 0), (1, .int a), (2, .int q2208)]) rfl (Nat.le_of_ble_eq_true rfl) rfl rfl ?_
  refine g_iload_n rfl rfl ?_
  refine g_ifeq rfl (fun c2211 => ?_) (fun c2211 => ?_)
  · refine g_aload_n rfl rfl ?_
    refine g_getR rfl zf_X_69 rfl rfl ?_
    refine g_iload_n rfl rfl ?_
    refine g_callVI (M' := m_Years_firstWrong) (d' := 6) (as := [.int a]) (rest := []) (ci := 9) (o := 32) rfl ml_X_254 v_Years_firstWrong (by decide) rfl (by decide) rfl rfl rfl (Nat.le_of_ble_eq_true rfl) (fun x_ e_ => s_Years_firstWrong G a u x_ e_) (fun q2212r q2212u e2213 b2214 => ?_)
    exact g_iret rfl (Or.inl rfl) rfl
  · refine g_iload_n rfl rfl ?_
    exact g_iret rfl (Or.inl rfl) rfl
theorem s_X_judge (G : ZG) (a : Int32) (u : ZSt) (x : Int32 × ZSt) (hx : f_X_judge a u = some x) : ZSpec G m_X_judge 7 [.ref 0, .int a] u (zemI x) :=
  ZSpec.go k_X_judge (Nat.le_of_ble_eq_true rfl) (w_X_judge G a u) (tgt := zemI x) (by rw [hx]; rfl)
set_option maxRecDepth 100000 in
set_option maxHeartbeats 4000000 in
theorem w_M_yearIs (G : ZG) (a : Int32) (u : ZSt) : ZGo G m_M_yearIs 3 (f_M_yearIs a u) (zkP u) 0 [(0, .ref 39), (1, .int a)] [] u := by
  unfold f_M_yearIs
  refine g_iload_n rfl rfl ?_
  refine g_callSP (M' := m_M_isShelf) (d' := 2) (as := [.int a]) (rest := []) rfl ml_M_113 v_M_isShelf (by decide) rfl rfl (Nat.le_of_ble_eq_true rfl) (fun x_ e_ => s_M_isShelf G a u x_ e_) (fun q2215 e2216 b2217 => ?_)
  refine g_ifne rfl (fun c2218 => ?_) (fun c2218 => ?_)
  · refine g_aload_n rfl rfl ?_
    refine g_getR rfl zf_M_65 rfl rfl ?_
    refine g_iload_n rfl rfl ?_
    refine g_iald rfl rfl (fun o2222 => ?_)
    refine g_ifge rfl (fun c2219 => ?_) (fun c2219 => ?_)
    · refine g_aload_n rfl rfl ?_
      refine g_getR rfl zf_M_65 rfl rfl ?_
      refine g_iload_n rfl rfl ?_
      refine g_iald rfl rfl (fun o2221 => ?_)
      refine g_bipush (v := (51 : Int32)) rfl zib_51 ?_
      refine g_icmpne rfl (fun c2220 => ?_) (fun c2220 => ?_)
      · refine g_bipush (v := (-12 : Int32)) rfl zib_m12 ?_
        exact g_iret rfl (Or.inl rfl) rfl
      · refine g_iconst (v := (1 : Int32)) rfl zic_1 ?_
        refine g_goto rfl ?_
        exact g_iret rfl (Or.inl rfl) rfl
    · refine g_bipush (v := (-11 : Int32)) rfl zib_m11 ?_
      refine g_goto rfl ?_
      exact g_iret rfl (Or.inl rfl) rfl
  · refine g_iconst (v := (-1 : Int32)) rfl zic_m1 ?_
    refine g_goto rfl ?_
    exact g_iret rfl (Or.inl rfl) rfl
theorem s_M_yearIs (G : ZG) (a : Int32) (u : ZSt) (x : Int32) (hx : f_M_yearIs a u = some x) : ZSpec G m_M_yearIs 3 [.ref 39, .int a] u ((zemP u) x) :=
  ZSpec.go k_M_yearIs (Nat.le_of_ble_eq_true rfl) (w_M_yearIs G a u) (tgt := (zemP u) x) (by rw [hx]; rfl)
set_option maxRecDepth 100000 in
set_option maxHeartbeats 4000000 in
theorem w_M_bundleAt (G : ZG) (a : Int32) (b : Int32) (u : ZSt) : ZGo G m_M_bundleAt 1 (f_M_bundleAt a b u) (zkP u) 0 [(0, .ref 39), (1, .int a), (2, .int b)] [] u := by
  unfold f_M_bundleAt
  refine g_aload_n rfl rfl ?_
  refine g_getR rfl zf_M_71 rfl rfl ?_
  refine g_bipush (v := (60 : Int32)) rfl zib_60 ?_
  refine g_iload_n rfl rfl ?_
  refine g_imul rfl ?_
  refine g_iconst (v := (2 : Int32)) rfl zic_2 ?_
  refine g_iload_n rfl rfl ?_
  refine g_imul rfl ?_
  refine g_iadd rfl ?_
  refine g_lald rfl rfl (fun o2223 => ?_)
  refine g_l2i rfl ?_
  exact g_iret rfl (Or.inl rfl) rfl
theorem s_M_bundleAt (G : ZG) (a : Int32) (b : Int32) (u : ZSt) (x : Int32) (hx : f_M_bundleAt a b u = some x) : ZSpec G m_M_bundleAt 1 [.ref 39, .int a, .int b] u ((zemP u) x) :=
  ZSpec.go k_M_bundleAt (Nat.le_of_ble_eq_true rfl) (w_M_bundleAt G a b u) (tgt := (zemP u) x) (by rw [hx]; rfl)
set_option maxRecDepth 100000 in
set_option maxHeartbeats 4000000 in
theorem w_M_silentAt (G : ZG) (a : Int32) (b : Int32) (u : ZSt) : ZGo G m_M_silentAt 1 (f_M_silentAt a b u) (zkP u) 0 [(0, .ref 39), (1, .int a), (2, .int b)] [] u := by
  unfold f_M_silentAt
  refine g_aload_n rfl rfl ?_
  refine g_getR rfl zf_M_71 rfl rfl ?_
  refine g_bipush (v := (60 : Int32)) rfl zib_60 ?_
  refine g_iload_n rfl rfl ?_
  refine g_imul rfl ?_
  refine g_iconst (v := (2 : Int32)) rfl zic_2 ?_
  refine g_iload_n rfl rfl ?_
  refine g_imul rfl ?_
  refine g_iadd rfl ?_
  refine g_iconst (v := (1 : Int32)) rfl zic_1 ?_
  refine g_iadd rfl ?_
  refine g_lald rfl rfl (fun o2224 => ?_)
  refine g_l2i rfl ?_
  exact g_iret rfl (Or.inl rfl) rfl
theorem s_M_silentAt (G : ZG) (a : Int32) (b : Int32) (u : ZSt) (x : Int32) (hx : f_M_silentAt a b u = some x) : ZSpec G m_M_silentAt 1 [.ref 39, .int a, .int b] u ((zemP u) x) :=
  ZSpec.go k_M_silentAt (Nat.le_of_ble_eq_true rfl) (w_M_silentAt G a b u) (tgt := (zemP u) x) (by rw [hx]; rfl)
set_option maxRecDepth 100000 in
set_option maxHeartbeats 4000000 in
theorem wb_M_judge_10 (G : ZG) (l1 : Int32) (l2 : Int32) (u : ZSt) (K : ((Int32 × ZSt) ⊕ ((Int32 × ZSt) ⊕ (Int32 × ZSt))) → Option (Value × ZSt)) (hb : ∀ (l2 : Int32) (u : ZSt), ZGo G m_M_judge 107 (K (.inl (l2, u))) some 10 [(0, .ref 39), (1, .int l1), (2, .int l2)] [] u) (hx : ∀ (l2 : Int32) (u : ZSt), ZGo G m_M_judge 107 (K (.inr (.inl (l2, u)))) some 68 [] [] u) (hr : ∀ x, K (.inr (.inr x)) = some (zemI x)) : ZGo G m_M_judge 107 (b_M_judge_10 l1 l2 u) K 10 [(0, .ref 39), (1, .int l1), (2, .int l2)] [] u := by
  unfold b_M_judge_10
  refine g_iconst (v := (2 : Int32)) rfl zic_2 ?_
  refine g_iload_n rfl rfl ?_
  refine g_imul rfl ?_
  refine g_aload_n rfl rfl ?_
  refine g_getR rfl zf_M_68 rfl rfl ?_
  refine g_iload_n rfl rfl ?_
  refine g_iald rfl rfl (fun o2252 => ?_)
  refine g_icmpge rfl (fun c2229 => ?_) (fun c2229 => ?_)
  · exact zgo_sub (zsubk [] rfl) (zgo_leaf (hx l2 u))
  · refine g_iconst (v := (2 : Int32)) rfl zic_2 ?_
    refine g_iload_n rfl rfl ?_
    refine g_imul rfl ?_
    refine g_iconst (v := (1 : Int32)) rfl zic_1 ?_
    refine g_iadd rfl ?_
    refine g_aload_n rfl rfl ?_
    refine g_getR rfl zf_M_68 rfl rfl ?_
    refine g_iload_n rfl rfl ?_
    refine g_iald rfl rfl (fun o2251 => ?_)
    refine g_icmpeq rfl (fun c2230 => ?_) (fun c2230 => ?_)
    · refine g_iload_n rfl rfl ?_
      exact g_iret rfl (Or.inl rfl) (hr _)
    · refine g_aload_n rfl rfl ?_
      refine g_aload_n rfl rfl ?_
      refine g_iload_n rfl rfl ?_
      refine g_iload_n rfl rfl ?_
      refine g_callVP (M' := m_M_bundleAt) (d' := 1) (as := [.int l1, .int l2]) (rest := [.ref 39]) (ci := 11) (o := 39) rfl ml_M_264 v_M_bundleAt (by decide) rfl (by decide) rfl rfl rfl (Nat.le_of_ble_eq_true rfl) (fun x_ e_ => s_M_bundleAt G l1 l2 u x_ e_) (fun q2231 e2232 b2233 => ?_)
      refine g_callVP (M' := m_M_isBundle) (d' := 2) (as := [.int q2231]) (rest := []) (ci := 11) (o := 39) rfl ml_M_232 v_M_isBundle (by decide) rfl (by decide) rfl rfl rfl (Nat.le_of_ble_eq_true rfl) (fun x_ e_ => s_M_isBundle G q2231 u x_ e_) (fun q2234 e2235 b2236 => ?_)
      refine g_ifne rfl (fun c2237 => ?_) (fun c2237 => ?_)
      · refine g_aload_n rfl rfl ?_
        refine g_aload_n rfl rfl ?_
        refine g_iload_n rfl rfl ?_
        refine g_iload_n rfl rfl ?_
        refine g_callVP (M' := m_M_bundleAt) (d' := 1) (as := [.int l1, .int l2]) (rest := [.ref 39]) (ci := 11) (o := 39) rfl ml_M_264 v_M_bundleAt (by decide) rfl (by decide) rfl rfl rfl (Nat.le_of_ble_eq_true rfl) (fun x_ e_ => s_M_bundleAt G l1 l2 u x_ e_) (fun q2238 e2239 b2240 => ?_)
        refine g_aload_n rfl rfl ?_
        refine g_iload_n rfl rfl ?_
        refine g_iload_n rfl rfl ?_
        refine g_callVP (M' := m_M_bundleAt) (d' := 1) (as := [.int l1, .int l2]) (rest := [.int q2238, .ref 39]) (ci := 11) (o := 39) rfl ml_M_264 v_M_bundleAt (by decide) rfl (by decide) rfl rfl rfl (Nat.le_of_ble_eq_true rfl) (fun x_ e_ => s_M_bundleAt G l1 l2 u x_ e_) (fun q2241 e2242 b2243 => ?_)
        refine g_iconst (v := (0 : Int32)) rfl zic_0 ?_
        refine g_callVV (M' := m_M_asks) (d' := 106) (as := [.int q2238, .int q2241, .int (0 : Int32)]) (rest := []) (ci := 11) (o := 39) rfl ml_M_226 v_M_asks (by decide) rfl (by decide) rfl rfl rfl (Nat.le_of_ble_eq_true rfl) (fun x_ e_ => s_M_asks G q2238 q2241 (0 : Int32) u x_ e_) (fun q2244 e2245 b2246 => ?_)
        refine g_aload_n rfl rfl ?_
        refine g_iload_n rfl rfl ?_
        refine g_iload_n rfl rfl ?_
        refine g_callVP (M' := m_M_silentAt) (d' := 1) (as := [.int l1, .int l2]) (rest := []) (ci := 11) (o := 39) rfl ml_M_267 v_M_silentAt (by decide) rfl (by decide) rfl rfl rfl (Nat.le_of_ble_eq_true rfl) (fun x_ e_ => s_M_silentAt G l1 l2 q2244 x_ e_) (fun q2247 e2248 b2249 => ?_)
        refine g_iconst (v := (1 : Int32)) rfl zic_1 ?_
        refine g_aload_n rfl rfl ?_
        refine g_getI rfl zf_M_94 rfl rfl rfl ?_
        refine g_ishl rfl ?_
        refine g_iconst (v := (1 : Int32)) rfl zic_1 ?_
        refine g_isub rfl ?_
        refine g_aload_n rfl rfl ?_
        refine g_getI rfl zf_M_212 rfl rfl rfl ?_
        refine g_iconst (v := (-1 : Int32)) rfl zic_m1 ?_
        refine g_ixor rfl ?_
        refine g_iand rfl ?_
        refine g_icmpeq rfl (fun c2250 => ?_) (fun c2250 => ?_)
        · refine g_iinc (v := (1 : Int32)) (lv' := [(0, .ref 39), (1, .int l1), (2, .int (l2 + (1 : Int32)))]) rfl rfl zic_1 (Nat.le_of_ble_eq_true rfl) rfl rfl ?_
          refine g_goto rfl ?_
          exact zgo_sub (zsubk [0, 1, 2] rfl) (zgo_leaf (hb (l2 + (1 : Int32)) q2244))
        · refine g_iload_n rfl rfl ?_
          exact g_iret rfl (Or.inl rfl) (hr _)
      · refine g_iload_n rfl rfl ?_
        exact g_iret rfl (Or.inl rfl) (hr _)
set_option maxRecDepth 100000 in
set_option maxHeartbeats 4000000 in
theorem wa_M_judge_10 (G : ZG) (u : ZSt) : ZGo G m_M_judge 107 (a_M_judge_10 u) zkI 68 [] [] u := by
  unfold a_M_judge_10
  refine g_bipush (v := (-2 : Int32)) rfl zib_m2 ?_
  exact g_iret rfl (Or.inl rfl) rfl
set_option maxRecDepth 100000 in
set_option maxHeartbeats 4000000 in
theorem w_M_judge (G : ZG) (a : Int32) (u : ZSt) : ZGo G m_M_judge 107 (f_M_judge a u) zkI 0 [(0, .ref 39), (1, .int a)] [] u := by
  unfold f_M_judge
  refine g_aload_n rfl rfl ?_
  refine g_iload_n rfl rfl ?_
  refine g_callVP (M' := m_M_yearIs) (d' := 3) (as := [.int a]) (rest := []) (ci := 11) (o := 39) rfl ml_M_261 v_M_yearIs (by decide) rfl (by decide) rfl rfl rfl (Nat.le_of_ble_eq_true rfl) (fun x_ e_ => s_M_yearIs G a u x_ e_) (fun q2225 e2226 b2227 => ?_)
  refine g_ifge rfl (fun c2228 => ?_) (fun c2228 => ?_)
  · refine g_iconst (v := (0 : Int32)) rfl zic_0 ?_
    refine g_istore_n (lv' := [(0, .ref 39), (1, .int a), (2, .int (0 : Int32))]) rfl (Nat.le_of_ble_eq_true rfl) rfl rfl ?_
    refine zgo_sub (lv' := [(0, .ref 39), (1, .int a), (2, .int (0 : Int32))]) (zsubk [0, 1, 2] rfl) ?_
    refine zgo_loop (σ := Int32 × ZSt) (lvf := fun s => [(0, .ref 39), (1, .int a), (2, .int s.1)]) (uf := (fun s => s.2)) ?_ zfu _
    intro s K' ih he
    refine wb_M_judge_10 G a s.1 s.2 K' ?_ ?_ ?_
    · intro c0 v
      exact ih (c0, v)
    · intro c0 v
      rw [he]
      exact zgo_unleaf (wa_M_judge_10 G  v)
    · intro x
      exact (he _).trans rfl
  · refine g_aload_n rfl rfl ?_
    refine g_iload_n rfl rfl ?_
    refine g_callVP (M' := m_M_yearIs) (d' := 3) (as := [.int a]) (rest := []) (ci := 11) (o := 39) rfl ml_M_261 v_M_yearIs (by decide) rfl (by decide) rfl rfl rfl (Nat.le_of_ble_eq_true rfl) (fun x_ e_ => s_M_yearIs G a u x_ e_) (fun q2253 e2254 b2255 => ?_)
    exact g_iret rfl (Or.inl rfl) rfl
theorem s_M_judge (G : ZG) (a : Int32) (u : ZSt) (x : Int32 × ZSt) (hx : f_M_judge a u = some x) : ZSpec G m_M_judge 107 [.ref 39, .int a] u (zemI x) :=
  ZSpec.go k_M_judge (Nat.le_of_ble_eq_true rfl) (w_M_judge G a u) (tgt := zemI x) (by rw [hx]; rfl)
set_option maxRecDepth 100000 in
set_option maxHeartbeats 4000000 in
theorem w_Years_isSilentFor (G : ZG) (a : Int32) (b : Int32) (c : Int32) (e : Int32) (u : ZSt) : ZGo G m_Years_isSilentFor 4 (f_Years_isSilentFor a b c e u) (zkP u) 0 [(0, .ref 32), (1, .int a), (2, .int b), (3, .int c), (4, .int e)] [] u := by
  unfold f_Years_isSilentFor
  refine g_aload_n rfl rfl ?_
  refine g_iload_n rfl rfl ?_
  refine g_iload_n rfl rfl ?_
  refine g_callVP (M' := m_Years_bundleAt) (d' := 3) (as := [.int a, .int b]) (rest := []) (ci := 9) (o := 32) rfl ml_Years_37 v_Years_bundleAt (by decide) rfl (by decide) rfl rfl rfl (Nat.le_of_ble_eq_true rfl) (fun x_ e_ => s_Years_bundleAt G a b u x_ e_) (fun q2256 e2257 b2258 => ?_)
  refine g_iload rfl rfl ?_
  refine g_iushr rfl ?_
  refine g_aload_n rfl rfl ?_
  refine g_iload_n rfl rfl ?_
  refine g_iload_n rfl rfl ?_
  refine g_callVP (M' := m_Years_silentAt) (d' := 3) (as := [.int a, .int b]) (rest := [.int (zushr q2256 e)]) (ci := 9) (o := 32) rfl ml_Years_33 v_Years_silentAt (by decide) rfl (by decide) rfl rfl rfl (Nat.le_of_ble_eq_true rfl) (fun x_ e_ => s_Years_silentAt G a b u x_ e_) (fun q2259 e2260 b2261 => ?_)
  refine g_iload_n rfl rfl ?_
  refine g_iushr rfl ?_
  refine g_iand rfl ?_
  refine g_iconst (v := (1 : Int32)) rfl zic_1 ?_
  refine g_iand rfl ?_
  refine g_ifeq rfl (fun c2262 => ?_) (fun c2262 => ?_)
  · refine g_iconst (v := (0 : Int32)) rfl zic_0 ?_
    exact g_iret rfl (Or.inr ⟨rfl, Or.inl rfl⟩) rfl
  · refine g_iconst (v := (1 : Int32)) rfl zic_1 ?_
    refine g_goto rfl ?_
    exact g_iret rfl (Or.inr ⟨rfl, Or.inr rfl⟩) rfl
theorem s_Years_isSilentFor (G : ZG) (a : Int32) (b : Int32) (c : Int32) (e : Int32) (u : ZSt) (x : Int32) (hx : f_Years_isSilentFor a b c e u = some x) : ZSpec G m_Years_isSilentFor 4 [.ref 32, .int a, .int b, .int c, .int e] u ((zemP u) x) :=
  ZSpec.go k_Years_isSilentFor (Nat.le_of_ble_eq_true rfl) (w_Years_isSilentFor G a b c e u) (tgt := (zemP u) x) (by rw [hx]; rfl)
set_option maxRecDepth 100000 in
set_option maxHeartbeats 4000000 in
theorem wb_Years_hasVotedOn_7 (G : ZG) (l1 : Int32) (l2 : Int32) (l3 : Int32) (l4 : Int32) (l5 : Int32) (l6 : Int32) (u : ZSt) (K : ((Int32) ⊕ ((Int32) ⊕ (Int32))) → Option (Value × ZSt)) (hb : ∀ (l6 : Int32), ZGo G m_Years_hasVotedOn 5 (K (.inl l6)) some 7 [(0, .ref 32), (1, .int l1), (2, .int l2), (3, .int l3), (4, .int l4), (5, .int l5), (6, .int l6)] [] u) (hx : ∀ (l6 : Int32), ZGo G m_Years_hasVotedOn 5 (K (.inr (.inl l6))) some 50 [] [] u) (hr : ∀ x, K (.inr (.inr x)) = some ((zemP u) x)) : ZGo G m_Years_hasVotedOn 5 (b_Years_hasVotedOn_7 l1 l2 l3 l4 l5 l6 u) K 7 [(0, .ref 32), (1, .int l1), (2, .int l2), (3, .int l3), (4, .int l4), (5, .int l5), (6, .int l6)] [] u := by
  unfold b_Years_hasVotedOn_7
  refine g_iload rfl rfl ?_
  refine g_iload rfl rfl ?_
  refine g_icmpge rfl (fun c2266 => ?_) (fun c2266 => ?_)
  · exact zgo_sub (zsubk [] rfl) (zgo_leaf (hx l6))
  · refine g_aload_n rfl rfl ?_
    refine g_iload_n rfl rfl ?_
    refine g_iload rfl rfl ?_
    refine g_callVP (M' := m_Years_bundleAt) (d' := 3) (as := [.int l2, .int l6]) (rest := []) (ci := 9) (o := 32) rfl ml_Years_37 v_Years_bundleAt (by decide) rfl (by decide) rfl rfl rfl (Nat.le_of_ble_eq_true rfl) (fun x_ e_ => s_Years_bundleAt G l2 l6 u x_ e_) (fun q2267 e2268 b2269 => ?_)
    refine g_istore (lv' := [(0, .ref 32), (1, .int l1), (2, .int l2), (3, .int l3), (4, .int l4), (5, .int l5), (6, .int l6), (7, .int q2267)]) rfl (Nat.le_of_ble_eq_true rfl) rfl rfl ?_
    refine g_iload rfl rfl ?_
    refine g_iload_n rfl rfl ?_
    refine g_iand rfl ?_
    refine g_iload_n rfl rfl ?_
    refine g_icmpne rfl (fun c2270 => ?_) (fun c2270 => ?_)
    · refine g_iconst (v := (0 : Int32)) rfl zic_0 ?_
      refine g_istore (lv' := [(0, .ref 32), (1, .int l1), (2, .int l2), (3, .int l3), (4, .int l4), (5, .int l5), (6, .int l6), (7, .int q2267), (8, .int (0 : Int32))]) rfl (Nat.le_of_ble_eq_true rfl) rfl rfl ?_
      refine g_iload rfl rfl ?_
      refine g_ifeq rfl (fun c2271 => ?_) (fun c2271 => ?_)
      · refine g_iinc (v := (2 : Int32)) (lv' := [(0, .ref 32), (1, .int l1), (2, .int l2), (3, .int l3), (4, .int l4), (5, .int l5), (6, .int (l6 + (2 : Int32))), (7, .int q2267), (8, .int (0 : Int32))]) rfl rfl zic_2 (Nat.le_of_ble_eq_true rfl) rfl rfl ?_
        refine g_goto rfl ?_
        exact zgo_sub (zsubk [0, 1, 2, 3, 4, 5, 6] rfl) (zgo_leaf (hb (l6 + (2 : Int32))))
      · refine g_aload_n rfl rfl ?_
        refine g_iload_n rfl rfl ?_
        refine g_iload rfl rfl ?_
        refine g_callVP (M' := m_Years_isWhole) (d' := 4) (as := [.int l2, .int l6]) (rest := []) (ci := 9) (o := 32) rfl ml_Years_29 v_Years_isWhole (by decide) rfl (by decide) rfl rfl rfl (Nat.le_of_ble_eq_true rfl) (fun x_ e_ => s_Years_isWhole G l2 l6 u x_ e_) (fun q2272 e2273 b2274 => ?_)
        refine g_ifeq rfl (fun c2275 => ?_) (fun c2275 => ?_)
        · refine g_iinc (v := (2 : Int32)) (lv' := [(0, .ref 32), (1, .int l1), (2, .int l2), (3, .int l3), (4, .int l4), (5, .int l5), (6, .int (l6 + (2 : Int32))), (7, .int q2267), (8, .int (0 : Int32))]) rfl rfl zic_2 (Nat.le_of_ble_eq_true rfl) rfl rfl ?_
          refine g_goto rfl ?_
          exact zgo_sub (zsubk [0, 1, 2, 3, 4, 5, 6] rfl) (zgo_leaf (hb (l6 + (2 : Int32))))
        · refine g_aload_n rfl rfl ?_
          refine g_iload_n rfl rfl ?_
          refine g_iload rfl rfl ?_
          refine g_callVP (M' := m_Years_silentAt) (d' := 3) (as := [.int l2, .int l6]) (rest := []) (ci := 9) (o := 32) rfl ml_Years_33 v_Years_silentAt (by decide) rfl (by decide) rfl rfl rfl (Nat.le_of_ble_eq_true rfl) (fun x_ e_ => s_Years_silentAt G l2 l6 u x_ e_) (fun q2276 e2277 b2278 => ?_)
          refine g_iload_n rfl rfl ?_
          refine g_iushr rfl ?_
          refine g_iconst (v := (1 : Int32)) rfl zic_1 ?_
          refine g_iand rfl ?_
          refine g_ifne rfl (fun c2279 => ?_) (fun c2279 => ?_)
          · refine g_iinc (v := (2 : Int32)) (lv' := [(0, .ref 32), (1, .int l1), (2, .int l2), (3, .int l3), (4, .int l4), (5, .int l5), (6, .int (l6 + (2 : Int32))), (7, .int q2267), (8, .int (0 : Int32))]) rfl rfl zic_2 (Nat.le_of_ble_eq_true rfl) rfl rfl ?_
            refine g_goto rfl ?_
            exact zgo_sub (zsubk [0, 1, 2, 3, 4, 5, 6] rfl) (zgo_leaf (hb (l6 + (2 : Int32))))
          · refine g_iconst (v := (1 : Int32)) rfl zic_1 ?_
            exact g_iret rfl (Or.inr ⟨rfl, Or.inr rfl⟩) (hr _)
    · refine g_iload rfl rfl ?_
      refine g_iload rfl rfl ?_
      refine g_iushr rfl ?_
      refine g_iconst (v := (1 : Int32)) rfl zic_1 ?_
      refine g_iand rfl ?_
      refine g_ifne rfl (fun c2280 => ?_) (fun c2280 => ?_)
      · refine g_iconst (v := (0 : Int32)) rfl zic_0 ?_
        refine g_istore (lv' := [(0, .ref 32), (1, .int l1), (2, .int l2), (3, .int l3), (4, .int l4), (5, .int l5), (6, .int l6), (7, .int q2267), (8, .int (0 : Int32))]) rfl (Nat.le_of_ble_eq_true rfl) rfl rfl ?_
        refine g_iload rfl rfl ?_
        refine g_ifeq rfl (fun c2281 => ?_) (fun c2281 => ?_)
        · refine g_iinc (v := (2 : Int32)) (lv' := [(0, .ref 32), (1, .int l1), (2, .int l2), (3, .int l3), (4, .int l4), (5, .int l5), (6, .int (l6 + (2 : Int32))), (7, .int q2267), (8, .int (0 : Int32))]) rfl rfl zic_2 (Nat.le_of_ble_eq_true rfl) rfl rfl ?_
          refine g_goto rfl ?_
          exact zgo_sub (zsubk [0, 1, 2, 3, 4, 5, 6] rfl) (zgo_leaf (hb (l6 + (2 : Int32))))
        · refine g_aload_n rfl rfl ?_
          refine g_iload_n rfl rfl ?_
          refine g_iload rfl rfl ?_
          refine g_callVP (M' := m_Years_isWhole) (d' := 4) (as := [.int l2, .int l6]) (rest := []) (ci := 9) (o := 32) rfl ml_Years_29 v_Years_isWhole (by decide) rfl (by decide) rfl rfl rfl (Nat.le_of_ble_eq_true rfl) (fun x_ e_ => s_Years_isWhole G l2 l6 u x_ e_) (fun q2282 e2283 b2284 => ?_)
          refine g_ifeq rfl (fun c2285 => ?_) (fun c2285 => ?_)
          · refine g_iinc (v := (2 : Int32)) (lv' := [(0, .ref 32), (1, .int l1), (2, .int l2), (3, .int l3), (4, .int l4), (5, .int l5), (6, .int (l6 + (2 : Int32))), (7, .int q2267), (8, .int (0 : Int32))]) rfl rfl zic_2 (Nat.le_of_ble_eq_true rfl) rfl rfl ?_
            refine g_goto rfl ?_
            exact zgo_sub (zsubk [0, 1, 2, 3, 4, 5, 6] rfl) (zgo_leaf (hb (l6 + (2 : Int32))))
          · refine g_aload_n rfl rfl ?_
            refine g_iload_n rfl rfl ?_
            refine g_iload rfl rfl ?_
            refine g_callVP (M' := m_Years_silentAt) (d' := 3) (as := [.int l2, .int l6]) (rest := []) (ci := 9) (o := 32) rfl ml_Years_33 v_Years_silentAt (by decide) rfl (by decide) rfl rfl rfl (Nat.le_of_ble_eq_true rfl) (fun x_ e_ => s_Years_silentAt G l2 l6 u x_ e_) (fun q2286 e2287 b2288 => ?_)
            refine g_iload_n rfl rfl ?_
            refine g_iushr rfl ?_
            refine g_iconst (v := (1 : Int32)) rfl zic_1 ?_
            refine g_iand rfl ?_
            refine g_ifne rfl (fun c2289 => ?_) (fun c2289 => ?_)
            · refine g_iinc (v := (2 : Int32)) (lv' := [(0, .ref 32), (1, .int l1), (2, .int l2), (3, .int l3), (4, .int l4), (5, .int l5), (6, .int (l6 + (2 : Int32))), (7, .int q2267), (8, .int (0 : Int32))]) rfl rfl zic_2 (Nat.le_of_ble_eq_true rfl) rfl rfl ?_
              refine g_goto rfl ?_
              exact zgo_sub (zsubk [0, 1, 2, 3, 4, 5, 6] rfl) (zgo_leaf (hb (l6 + (2 : Int32))))
            · refine g_iconst (v := (1 : Int32)) rfl zic_1 ?_
              exact g_iret rfl (Or.inr ⟨rfl, Or.inr rfl⟩) (hr _)
      · refine g_iconst (v := (1 : Int32)) rfl zic_1 ?_
        refine g_goto rfl ?_
        refine g_istore (lv' := [(0, .ref 32), (1, .int l1), (2, .int l2), (3, .int l3), (4, .int l4), (5, .int l5), (6, .int l6), (7, .int q2267), (8, .int (1 : Int32))]) rfl (Nat.le_of_ble_eq_true rfl) rfl rfl ?_
        refine g_iload rfl rfl ?_
        refine g_ifeq rfl (fun c2290 => ?_) (fun c2290 => ?_)
        · refine g_iinc (v := (2 : Int32)) (lv' := [(0, .ref 32), (1, .int l1), (2, .int l2), (3, .int l3), (4, .int l4), (5, .int l5), (6, .int (l6 + (2 : Int32))), (7, .int q2267), (8, .int (1 : Int32))]) rfl rfl zic_2 (Nat.le_of_ble_eq_true rfl) rfl rfl ?_
          refine g_goto rfl ?_
          exact zgo_sub (zsubk [0, 1, 2, 3, 4, 5, 6] rfl) (zgo_leaf (hb (l6 + (2 : Int32))))
        · refine g_aload_n rfl rfl ?_
          refine g_iload_n rfl rfl ?_
          refine g_iload rfl rfl ?_
          refine g_callVP (M' := m_Years_isWhole) (d' := 4) (as := [.int l2, .int l6]) (rest := []) (ci := 9) (o := 32) rfl ml_Years_29 v_Years_isWhole (by decide) rfl (by decide) rfl rfl rfl (Nat.le_of_ble_eq_true rfl) (fun x_ e_ => s_Years_isWhole G l2 l6 u x_ e_) (fun q2291 e2292 b2293 => ?_)
          refine g_ifeq rfl (fun c2294 => ?_) (fun c2294 => ?_)
          · refine g_iinc (v := (2 : Int32)) (lv' := [(0, .ref 32), (1, .int l1), (2, .int l2), (3, .int l3), (4, .int l4), (5, .int l5), (6, .int (l6 + (2 : Int32))), (7, .int q2267), (8, .int (1 : Int32))]) rfl rfl zic_2 (Nat.le_of_ble_eq_true rfl) rfl rfl ?_
            refine g_goto rfl ?_
            exact zgo_sub (zsubk [0, 1, 2, 3, 4, 5, 6] rfl) (zgo_leaf (hb (l6 + (2 : Int32))))
          · refine g_aload_n rfl rfl ?_
            refine g_iload_n rfl rfl ?_
            refine g_iload rfl rfl ?_
            refine g_callVP (M' := m_Years_silentAt) (d' := 3) (as := [.int l2, .int l6]) (rest := []) (ci := 9) (o := 32) rfl ml_Years_33 v_Years_silentAt (by decide) rfl (by decide) rfl rfl rfl (Nat.le_of_ble_eq_true rfl) (fun x_ e_ => s_Years_silentAt G l2 l6 u x_ e_) (fun q2295 e2296 b2297 => ?_)
            refine g_iload_n rfl rfl ?_
            refine g_iushr rfl ?_
            refine g_iconst (v := (1 : Int32)) rfl zic_1 ?_
            refine g_iand rfl ?_
            refine g_ifne rfl (fun c2298 => ?_) (fun c2298 => ?_)
            · refine g_iinc (v := (2 : Int32)) (lv' := [(0, .ref 32), (1, .int l1), (2, .int l2), (3, .int l3), (4, .int l4), (5, .int l5), (6, .int (l6 + (2 : Int32))), (7, .int q2267), (8, .int (1 : Int32))]) rfl rfl zic_2 (Nat.le_of_ble_eq_true rfl) rfl rfl ?_
              refine g_goto rfl ?_
              exact zgo_sub (zsubk [0, 1, 2, 3, 4, 5, 6] rfl) (zgo_leaf (hb (l6 + (2 : Int32))))
            · refine g_iconst (v := (1 : Int32)) rfl zic_1 ?_
              exact g_iret rfl (Or.inr ⟨rfl, Or.inr rfl⟩) (hr _)
set_option maxRecDepth 100000 in
set_option maxHeartbeats 4000000 in
theorem wa_Years_hasVotedOn_7 (G : ZG) (u : ZSt) : ZGo G m_Years_hasVotedOn 5 (a_Years_hasVotedOn_7 u) (zkP u) 50 [] [] u := by
  unfold a_Years_hasVotedOn_7
  refine g_iconst (v := (0 : Int32)) rfl zic_0 ?_
  exact g_iret rfl (Or.inr ⟨rfl, Or.inl rfl⟩) rfl
set_option maxRecDepth 100000 in
set_option maxHeartbeats 4000000 in
theorem w_Years_hasVotedOn (G : ZG) (a : Int32) (b : Int32) (c : Int32) (e : Int32) (u : ZSt) : ZGo G m_Years_hasVotedOn 5 (f_Years_hasVotedOn a b c e u) (zkP u) 0 [(0, .ref 32), (1, .int a), (2, .int b), (3, .int c), (4, .int e)] [] u := by
  unfold f_Years_hasVotedOn
  refine g_aload_n rfl rfl ?_
  refine g_getR rfl zf_Years_19 rfl rfl ?_
  refine g_iload_n rfl rfl ?_
  refine g_callVP (M' := m_Shelves_sizeOf) (d' := 2) (as := [.int b]) (rest := []) (ci := 7) (o := 27) rfl ml_Years_23 v_Shelves_sizeOf (by decide) rfl (by decide) rfl rfl rfl (Nat.le_of_ble_eq_true rfl) (fun x_ e_ => s_Shelves_sizeOf G b u x_ e_) (fun q2263 e2264 b2265 => ?_)
  refine g_istore (lv' := [(0, .ref 32), (1, .int a), (2, .int b), (3, .int c), (4, .int e), (5, .int q2263)]) rfl (Nat.le_of_ble_eq_true rfl) rfl rfl ?_
  refine g_iconst (v := (0 : Int32)) rfl zic_0 ?_
  refine g_istore (lv' := [(0, .ref 32), (1, .int a), (2, .int b), (3, .int c), (4, .int e), (5, .int q2263), (6, .int (0 : Int32))]) rfl (Nat.le_of_ble_eq_true rfl) rfl rfl ?_
  refine zgo_sub (lv' := [(0, .ref 32), (1, .int a), (2, .int b), (3, .int c), (4, .int e), (5, .int q2263), (6, .int (0 : Int32))]) (zsubk [0, 1, 2, 3, 4, 5, 6] rfl) ?_
  refine zgo_loop (σ := Int32) (lvf := fun s => [(0, .ref 32), (1, .int a), (2, .int b), (3, .int c), (4, .int e), (5, .int q2263), (6, .int s)]) (uf := (fun _ => u)) ?_ zfu _
  intro s K' ih he
  refine wb_Years_hasVotedOn_7 G a b c e q2263 s u K' ?_ ?_ ?_
  · intro c0
    exact ih c0
  · intro c0
    rw [he]
    exact zgo_unleaf (wa_Years_hasVotedOn_7 G  u)
  · intro x
    exact (he _).trans rfl
theorem s_Years_hasVotedOn (G : ZG) (a : Int32) (b : Int32) (c : Int32) (e : Int32) (u : ZSt) (x : Int32) (hx : f_Years_hasVotedOn a b c e u = some x) : ZSpec G m_Years_hasVotedOn 5 [.ref 32, .int a, .int b, .int c, .int e] u ((zemP u) x) :=
  ZSpec.go k_Years_hasVotedOn (Nat.le_of_ble_eq_true rfl) (w_Years_hasVotedOn G a b c e u) (tgt := (zemP u) x) (by rw [hx]; rfl)
set_option maxRecDepth 100000 in
set_option maxHeartbeats 4000000 in
theorem wb_Years_isShown_7 (G : ZG) (l1 : Int32) (l2 : Int32) (l3 : Int32) (l4 : Int32) (l5 : Int32) (u : ZSt) (K : ((Int32) ⊕ ((Int32) ⊕ (Int32))) → Option (Value × ZSt)) (hb : ∀ (l5 : Int32), ZGo G m_Years_isShown 6 (K (.inl l5)) some 7 [(0, .ref 32), (1, .int l1), (2, .int l2), (3, .int l3), (4, .int l4), (5, .int l5)] [] u) (hx : ∀ (l5 : Int32), ZGo G m_Years_isShown 6 (K (.inr (.inl l5))) some 46 [] [] u) (hr : ∀ x, K (.inr (.inr x)) = some ((zemP u) x)) : ZGo G m_Years_isShown 6 (b_Years_isShown_7 l1 l2 l3 l4 l5 u) K 7 [(0, .ref 32), (1, .int l1), (2, .int l2), (3, .int l3), (4, .int l4), (5, .int l5)] [] u := by
  unfold b_Years_isShown_7
  refine g_iload rfl rfl ?_
  refine g_iload rfl rfl ?_
  refine g_icmpge rfl (fun c2302 => ?_) (fun c2302 => ?_)
  · exact zgo_sub (zsubk [] rfl) (zgo_leaf (hx l5))
  · refine g_aload_n rfl rfl ?_
    refine g_iload_n rfl rfl ?_
    refine g_iload rfl rfl ?_
    refine g_callVP (M' := m_Years_isWhole) (d' := 4) (as := [.int l1, .int l5]) (rest := []) (ci := 9) (o := 32) rfl ml_Years_29 v_Years_isWhole (by decide) rfl (by decide) rfl rfl rfl (Nat.le_of_ble_eq_true rfl) (fun x_ e_ => s_Years_isWhole G l1 l5 u x_ e_) (fun q2303 e2304 b2305 => ?_)
    refine g_ifeq rfl (fun c2306 => ?_) (fun c2306 => ?_)
    · refine g_iinc (v := (2 : Int32)) (lv' := [(0, .ref 32), (1, .int l1), (2, .int l2), (3, .int l3), (4, .int l4), (5, .int (l5 + (2 : Int32)))]) rfl rfl zic_2 (Nat.le_of_ble_eq_true rfl) rfl rfl ?_
      refine g_goto rfl ?_
      exact zgo_sub (zsubk [0, 1, 2, 3, 4, 5] rfl) (zgo_leaf (hb (l5 + (2 : Int32))))
    · refine g_aload_n rfl rfl ?_
      refine g_iload_n rfl rfl ?_
      refine g_iload rfl rfl ?_
      refine g_iload_n rfl rfl ?_
      refine g_iload_n rfl rfl ?_
      refine g_callVP (M' := m_Years_isSilentFor) (d' := 4) (as := [.int l1, .int l5, .int l2, .int l3]) (rest := []) (ci := 9) (o := 32) rfl ml_Years_66 v_Years_isSilentFor (by decide) rfl (by decide) rfl rfl rfl (Nat.le_of_ble_eq_true rfl) (fun x_ e_ => s_Years_isSilentFor G l1 l5 l2 l3 u x_ e_) (fun q2307 e2308 b2309 => ?_)
      refine g_ifeq rfl (fun c2310 => ?_) (fun c2310 => ?_)
      · refine g_iinc (v := (2 : Int32)) (lv' := [(0, .ref 32), (1, .int l1), (2, .int l2), (3, .int l3), (4, .int l4), (5, .int (l5 + (2 : Int32)))]) rfl rfl zic_2 (Nat.le_of_ble_eq_true rfl) rfl rfl ?_
        refine g_goto rfl ?_
        exact zgo_sub (zsubk [0, 1, 2, 3, 4, 5] rfl) (zgo_leaf (hb (l5 + (2 : Int32))))
      · refine g_aload_n rfl rfl ?_
        refine g_iload_n rfl rfl ?_
        refine g_iload rfl rfl ?_
        refine g_callVP (M' := m_Years_bundleAt) (d' := 3) (as := [.int l1, .int l5]) (rest := []) (ci := 9) (o := 32) rfl ml_Years_37 v_Years_bundleAt (by decide) rfl (by decide) rfl rfl rfl (Nat.le_of_ble_eq_true rfl) (fun x_ e_ => s_Years_bundleAt G l1 l5 u x_ e_) (fun q2311 e2312 b2313 => ?_)
        refine g_iconst (v := (1 : Int32)) rfl zic_1 ?_
        refine g_iload_n rfl rfl ?_
        refine g_ishl rfl ?_
        refine g_iconst (v := (-1 : Int32)) rfl zic_m1 ?_
        refine g_ixor rfl ?_
        refine g_iand rfl ?_
        refine g_istore (lv' := [(0, .ref 32), (1, .int l1), (2, .int l2), (3, .int l3), (4, .int l4), (5, .int l5), (6, .int (q2311 &&& (((1 : Int32) <<< (l3 &&& 31)) ^^^ (-1 : Int32))))]) rfl (Nat.le_of_ble_eq_true rfl) rfl rfl ?_
        refine g_iload rfl rfl ?_
        refine g_ifeq rfl (fun c2314 => ?_) (fun c2314 => ?_)
        · refine g_iconst (v := (1 : Int32)) rfl zic_1 ?_
          exact g_iret rfl (Or.inr ⟨rfl, Or.inr rfl⟩) (hr _)
        · refine g_aload_n rfl rfl ?_
          refine g_iload rfl rfl ?_
          refine g_iload_n rfl rfl ?_
          refine g_iload_n rfl rfl ?_
          refine g_iload_n rfl rfl ?_
          refine g_callVP (M' := m_Years_hasVotedOn) (d' := 5) (as := [.int (q2311 &&& (((1 : Int32) <<< (l3 &&& 31)) ^^^ (-1 : Int32))), .int l1, .int l2, .int l3]) (rest := []) (ci := 9) (o := 32) rfl ml_Years_70 v_Years_hasVotedOn (by decide) rfl (by decide) rfl rfl rfl (Nat.le_of_ble_eq_true rfl) (fun x_ e_ => s_Years_hasVotedOn G (q2311 &&& (((1 : Int32) <<< (l3 &&& 31)) ^^^ (-1 : Int32))) l1 l2 l3 u x_ e_) (fun q2315 e2316 b2317 => ?_)
          refine g_ifeq rfl (fun c2318 => ?_) (fun c2318 => ?_)
          · refine g_iinc (v := (2 : Int32)) (lv' := [(0, .ref 32), (1, .int l1), (2, .int l2), (3, .int l3), (4, .int l4), (5, .int (l5 + (2 : Int32))), (6, .int (q2311 &&& (((1 : Int32) <<< (l3 &&& 31)) ^^^ (-1 : Int32))))]) rfl rfl zic_2 (Nat.le_of_ble_eq_true rfl) rfl rfl ?_
            refine g_goto rfl ?_
            exact zgo_sub (zsubk [0, 1, 2, 3, 4, 5] rfl) (zgo_leaf (hb (l5 + (2 : Int32))))
          · refine g_iconst (v := (1 : Int32)) rfl zic_1 ?_
            exact g_iret rfl (Or.inr ⟨rfl, Or.inr rfl⟩) (hr _)
set_option maxRecDepth 100000 in
set_option maxHeartbeats 4000000 in
theorem wa_Years_isShown_7 (G : ZG) (u : ZSt) : ZGo G m_Years_isShown 6 (a_Years_isShown_7 u) (zkP u) 46 [] [] u := by
  unfold a_Years_isShown_7
  refine g_iconst (v := (0 : Int32)) rfl zic_0 ?_
  exact g_iret rfl (Or.inr ⟨rfl, Or.inl rfl⟩) rfl
set_option maxRecDepth 100000 in
set_option maxHeartbeats 4000000 in
theorem w_Years_isShown (G : ZG) (a : Int32) (b : Int32) (c : Int32) (u : ZSt) : ZGo G m_Years_isShown 6 (f_Years_isShown a b c u) (zkP u) 0 [(0, .ref 32), (1, .int a), (2, .int b), (3, .int c)] [] u := by
  unfold f_Years_isShown
  refine g_aload_n rfl rfl ?_
  refine g_getR rfl zf_Years_19 rfl rfl ?_
  refine g_iload_n rfl rfl ?_
  refine g_callVP (M' := m_Shelves_sizeOf) (d' := 2) (as := [.int a]) (rest := []) (ci := 7) (o := 27) rfl ml_Years_23 v_Shelves_sizeOf (by decide) rfl (by decide) rfl rfl rfl (Nat.le_of_ble_eq_true rfl) (fun x_ e_ => s_Shelves_sizeOf G a u x_ e_) (fun q2299 e2300 b2301 => ?_)
  refine g_istore (lv' := [(0, .ref 32), (1, .int a), (2, .int b), (3, .int c), (4, .int q2299)]) rfl (Nat.le_of_ble_eq_true rfl) rfl rfl ?_
  refine g_iconst (v := (0 : Int32)) rfl zic_0 ?_
  refine g_istore (lv' := [(0, .ref 32), (1, .int a), (2, .int b), (3, .int c), (4, .int q2299), (5, .int (0 : Int32))]) rfl (Nat.le_of_ble_eq_true rfl) rfl rfl ?_
  refine zgo_sub (lv' := [(0, .ref 32), (1, .int a), (2, .int b), (3, .int c), (4, .int q2299), (5, .int (0 : Int32))]) (zsubk [0, 1, 2, 3, 4, 5] rfl) ?_
  refine zgo_loop (σ := Int32) (lvf := fun s => [(0, .ref 32), (1, .int a), (2, .int b), (3, .int c), (4, .int q2299), (5, .int s)]) (uf := (fun _ => u)) ?_ zfu _
  intro s K' ih he
  refine wb_Years_isShown_7 G a b c q2299 s u K' ?_ ?_ ?_
  · intro c0
    exact ih c0
  · intro c0
    rw [he]
    exact zgo_unleaf (wa_Years_isShown_7 G  u)
  · intro x
    exact (he _).trans rfl
theorem s_Years_isShown (G : ZG) (a : Int32) (b : Int32) (c : Int32) (u : ZSt) (x : Int32) (hx : f_Years_isShown a b c u = some x) : ZSpec G m_Years_isShown 6 [.ref 32, .int a, .int b, .int c] u ((zemP u) x) :=
  ZSpec.go k_Years_isShown (Nat.le_of_ble_eq_true rfl) (w_Years_isShown G a b c u) (tgt := (zemP u) x) (by rw [hx]; rfl)
set_option maxRecDepth 100000 in
set_option maxHeartbeats 4000000 in
theorem w_X_must (G : ZG) (a : Int32) (b : Int32) (u : ZSt) : ZGo G m_X_must 7 (f_X_must a b u) (zkP u) 0 [(0, .ref 0), (1, .int a), (2, .int b)] [] u := by
  unfold f_X_must
  refine g_aload_n rfl rfl ?_
  refine g_getR rfl zf_X_10 rfl rfl ?_
  refine g_iload_n rfl rfl ?_
  refine g_iconst (v := (0 : Int32)) rfl zic_0 ?_
  refine g_callVP (M' := m_Council_slotOf) (d' := 2) (as := [.int b, .int (0 : Int32)]) (rest := []) (ci := 3) (o := 1) rfl ml_X_123 v_Council_slotOf (by decide) rfl (by decide) rfl rfl rfl (Nat.le_of_ble_eq_true rfl) (fun x_ e_ => s_Council_slotOf G b (0 : Int32) u x_ e_) (fun q2319 e2320 b2321 => ?_)
  refine g_ifge rfl (fun c2322 => ?_) (fun c2322 => ?_)
  · refine g_aload_n rfl rfl ?_
    refine g_getR rfl zf_X_60 rfl rfl ?_
    refine g_iload_n rfl rfl ?_
    refine g_iconst (v := (1 : Int32)) rfl zic_1 ?_
    refine g_callVP (M' := m_Shelves_refusedAsRow) (d' := 2) (as := [.int a, .int (1 : Int32)]) (rest := []) (ci := 7) (o := 27) rfl ml_X_251 v_Shelves_refusedAsRow (by decide) rfl (by decide) rfl rfl rfl (Nat.le_of_ble_eq_true rfl) (fun x_ e_ => s_Shelves_refusedAsRow G a (1 : Int32) u x_ e_) (fun q2323 e2324 b2325 => ?_)
    refine g_istore_n (lv' := [(0, .ref 0), (1, .int a), (2, .int b), (3, .int q2323)]) rfl (Nat.le_of_ble_eq_true rfl) rfl rfl ?_
    refine g_iload_n rfl rfl ?_
    refine g_ifeq rfl (fun c2326 => ?_) (fun c2326 => ?_)
    · refine g_aload_n rfl rfl ?_
      refine g_getR rfl zf_X_69 rfl rfl ?_
      refine g_iload_n rfl rfl ?_
      refine g_iload_n rfl rfl ?_
      refine g_bipush (v := (10 : Int32)) rfl zib_10 ?_
      refine g_idiv rfl (by decide) ?_
      refine g_iload_n rfl rfl ?_
      refine g_bipush (v := (10 : Int32)) rfl zib_10 ?_
      refine g_irem rfl (by decide) ?_
      refine g_callVP (M' := m_Years_isShown) (d' := 6) (as := [.int a, .int (b / (10 : Int32)), .int (zrem b (10 : Int32))]) (rest := []) (ci := 9) (o := 32) rfl ml_X_257 v_Years_isShown (by decide) rfl (by decide) rfl rfl rfl (Nat.le_of_ble_eq_true rfl) (fun x_ e_ => s_Years_isShown G a (b / (10 : Int32)) (zrem b (10 : Int32)) u x_ e_) (fun q2327 e2328 b2329 => ?_)
      refine g_ifeq rfl (fun c2330 => ?_) (fun c2330 => ?_)
      · refine g_iconst (v := (0 : Int32)) rfl zic_0 ?_
        exact g_iret rfl (Or.inl rfl) rfl
      · refine g_iconst (v := (1 : Int32)) rfl zic_1 ?_
        refine g_goto rfl ?_
        exact g_iret rfl (Or.inl rfl) rfl
    · refine g_iload_n rfl rfl ?_
      exact g_iret rfl (Or.inl rfl) rfl
  · refine g_iconst (v := (-1 : Int32)) rfl zic_m1 ?_
    exact g_iret rfl (Or.inl rfl) rfl
theorem s_X_must (G : ZG) (a : Int32) (b : Int32) (u : ZSt) (x : Int32) (hx : f_X_must a b u = some x) : ZSpec G m_X_must 7 [.ref 0, .int a, .int b] u ((zemP u) x) :=
  ZSpec.go k_X_must (Nat.le_of_ble_eq_true rfl) (w_X_must G a b u) (tgt := (zemP u) x) (by rw [hx]; rfl)
set_option maxRecDepth 100000 in
set_option maxHeartbeats 4000000 in
theorem wb_M_isVotedBeside_2 (G : ZG) (l1 : Int32) (l2 : Int32) (l3 : Int32) (l4 : Int32) (l5 : Int32) (u : ZSt) (K : ((Int32) ⊕ ((Int32) ⊕ (Int32))) → Option (Value × ZSt)) (hb : ∀ (l5 : Int32), ZGo G m_M_isVotedBeside 3 (K (.inl l5)) some 2 [(0, .ref 39), (1, .int l1), (2, .int l2), (3, .int l3), (4, .int l4), (5, .int l5)] [] u) (hx : ∀ (l5 : Int32), ZGo G m_M_isVotedBeside 3 (K (.inr (.inl l5))) some 42 [] [] u) (hr : ∀ x, K (.inr (.inr x)) = some ((zemP u) x)) : ZGo G m_M_isVotedBeside 3 (b_M_isVotedBeside_2 l1 l2 l3 l4 l5 u) K 2 [(0, .ref 39), (1, .int l1), (2, .int l2), (3, .int l3), (4, .int l4), (5, .int l5)] [] u := by
  unfold b_M_isVotedBeside_2
  refine g_iconst (v := (2 : Int32)) rfl zic_2 ?_
  refine g_iload rfl rfl ?_
  refine g_imul rfl ?_
  refine g_iconst (v := (1 : Int32)) rfl zic_1 ?_
  refine g_iadd rfl ?_
  refine g_aload_n rfl rfl ?_
  refine g_getR rfl zf_M_68 rfl rfl ?_
  refine g_iload_n rfl rfl ?_
  refine g_iald rfl rfl (fun o2351 => ?_)
  refine g_icmpge rfl (fun c2331 => ?_) (fun c2331 => ?_)
  · exact zgo_sub (zsubk [] rfl) (zgo_leaf (hx l5))
  · refine g_aload_n rfl rfl ?_
    refine g_iload_n rfl rfl ?_
    refine g_iload rfl rfl ?_
    refine g_callVP (M' := m_M_bundleAt) (d' := 1) (as := [.int l1, .int l5]) (rest := []) (ci := 11) (o := 39) rfl ml_M_264 v_M_bundleAt (by decide) rfl (by decide) rfl rfl rfl (Nat.le_of_ble_eq_true rfl) (fun x_ e_ => s_M_bundleAt G l1 l5 u x_ e_) (fun q2332 e2333 b2334 => ?_)
    refine g_istore (lv' := [(0, .ref 39), (1, .int l1), (2, .int l2), (3, .int l3), (4, .int l4), (5, .int l5), (6, .int q2332)]) rfl (Nat.le_of_ble_eq_true rfl) rfl rfl ?_
    refine g_aload_n rfl rfl ?_
    refine g_iload rfl rfl ?_
    refine g_callVP (M' := m_M_isBundle) (d' := 2) (as := [.int q2332]) (rest := []) (ci := 11) (o := 39) rfl ml_M_232 v_M_isBundle (by decide) rfl (by decide) rfl rfl rfl (Nat.le_of_ble_eq_true rfl) (fun x_ e_ => s_M_isBundle G q2332 u x_ e_) (fun q2335 e2336 b2337 => ?_)
    refine g_ifeq rfl (fun c2338 => ?_) (fun c2338 => ?_)
    · refine g_iinc (v := (1 : Int32)) (lv' := [(0, .ref 39), (1, .int l1), (2, .int l2), (3, .int l3), (4, .int l4), (5, .int (l5 + (1 : Int32))), (6, .int q2332)]) rfl rfl zic_1 (Nat.le_of_ble_eq_true rfl) rfl rfl ?_
      refine g_goto rfl ?_
      exact zgo_sub (zsubk [0, 1, 2, 3, 4, 5] rfl) (zgo_leaf (hb (l5 + (1 : Int32))))
    · refine g_iload rfl rfl ?_
      refine g_iload_n rfl rfl ?_
      refine g_callSP (M' := m_M_isIn) (d' := 1) (as := [.int q2332, .int l3]) (rest := []) rfl ml_M_118 v_M_isIn (by decide) rfl rfl (Nat.le_of_ble_eq_true rfl) (fun x_ e_ => s_M_isIn G q2332 l3 u x_ e_) (fun q2339 e2340 b2341 => ?_)
      refine g_ifne rfl (fun c2342 => ?_) (fun c2342 => ?_)
      · refine g_iinc (v := (1 : Int32)) (lv' := [(0, .ref 39), (1, .int l1), (2, .int l2), (3, .int l3), (4, .int l4), (5, .int (l5 + (1 : Int32))), (6, .int q2332)]) rfl rfl zic_1 (Nat.le_of_ble_eq_true rfl) rfl rfl ?_
        refine g_goto rfl ?_
        exact zgo_sub (zsubk [0, 1, 2, 3, 4, 5] rfl) (zgo_leaf (hb (l5 + (1 : Int32))))
      · refine g_iload rfl rfl ?_
        refine g_iload rfl rfl ?_
        refine g_iconst (v := (-1 : Int32)) rfl zic_m1 ?_
        refine g_ixor rfl ?_
        refine g_iand rfl ?_
        refine g_ifne rfl (fun c2343 => ?_) (fun c2343 => ?_)
        · refine g_iinc (v := (1 : Int32)) (lv' := [(0, .ref 39), (1, .int l1), (2, .int l2), (3, .int l3), (4, .int l4), (5, .int (l5 + (1 : Int32))), (6, .int q2332)]) rfl rfl zic_1 (Nat.le_of_ble_eq_true rfl) rfl rfl ?_
          refine g_goto rfl ?_
          exact zgo_sub (zsubk [0, 1, 2, 3, 4, 5] rfl) (zgo_leaf (hb (l5 + (1 : Int32))))
        · refine g_aload_n rfl rfl ?_
          refine g_iload_n rfl rfl ?_
          refine g_iload rfl rfl ?_
          refine g_callVP (M' := m_M_silentAt) (d' := 1) (as := [.int l1, .int l5]) (rest := []) (ci := 11) (o := 39) rfl ml_M_267 v_M_silentAt (by decide) rfl (by decide) rfl rfl rfl (Nat.le_of_ble_eq_true rfl) (fun x_ e_ => s_M_silentAt G l1 l5 u x_ e_) (fun q2344 e2345 b2346 => ?_)
          refine g_iload_n rfl rfl ?_
          refine g_callSP (M' := m_M_isIn) (d' := 1) (as := [.int q2344, .int l2]) (rest := []) rfl ml_M_118 v_M_isIn (by decide) rfl rfl (Nat.le_of_ble_eq_true rfl) (fun x_ e_ => s_M_isIn G q2344 l2 u x_ e_) (fun q2347 e2348 b2349 => ?_)
          refine g_ifne rfl (fun c2350 => ?_) (fun c2350 => ?_)
          · refine g_iinc (v := (1 : Int32)) (lv' := [(0, .ref 39), (1, .int l1), (2, .int l2), (3, .int l3), (4, .int l4), (5, .int (l5 + (1 : Int32))), (6, .int q2332)]) rfl rfl zic_1 (Nat.le_of_ble_eq_true rfl) rfl rfl ?_
            refine g_goto rfl ?_
            exact zgo_sub (zsubk [0, 1, 2, 3, 4, 5] rfl) (zgo_leaf (hb (l5 + (1 : Int32))))
          · refine g_iconst (v := (1 : Int32)) rfl zic_1 ?_
            exact g_iret rfl (Or.inr ⟨rfl, Or.inr rfl⟩) (hr _)
set_option maxRecDepth 100000 in
set_option maxHeartbeats 4000000 in
theorem wa_M_isVotedBeside_2 (G : ZG) (u : ZSt) : ZGo G m_M_isVotedBeside 3 (a_M_isVotedBeside_2 u) (zkP u) 42 [] [] u := by
  unfold a_M_isVotedBeside_2
  refine g_iconst (v := (0 : Int32)) rfl zic_0 ?_
  exact g_iret rfl (Or.inr ⟨rfl, Or.inl rfl⟩) rfl
set_option maxRecDepth 100000 in
set_option maxHeartbeats 4000000 in
theorem w_M_isVotedBeside (G : ZG) (a : Int32) (b : Int32) (c : Int32) (e : Int32) (u : ZSt) : ZGo G m_M_isVotedBeside 3 (f_M_isVotedBeside a b c e u) (zkP u) 0 [(0, .ref 39), (1, .int a), (2, .int b), (3, .int c), (4, .int e)] [] u := by
  unfold f_M_isVotedBeside
  refine g_iconst (v := (0 : Int32)) rfl zic_0 ?_
  refine g_istore (lv' := [(0, .ref 39), (1, .int a), (2, .int b), (3, .int c), (4, .int e), (5, .int (0 : Int32))]) rfl (Nat.le_of_ble_eq_true rfl) rfl rfl ?_
  refine zgo_sub (lv' := [(0, .ref 39), (1, .int a), (2, .int b), (3, .int c), (4, .int e), (5, .int (0 : Int32))]) (zsubk [0, 1, 2, 3, 4, 5] rfl) ?_
  refine zgo_loop (σ := Int32) (lvf := fun s => [(0, .ref 39), (1, .int a), (2, .int b), (3, .int c), (4, .int e), (5, .int s)]) (uf := (fun _ => u)) ?_ zfu _
  intro s K' ih he
  refine wb_M_isVotedBeside_2 G a b c e s u K' ?_ ?_ ?_
  · intro c0
    exact ih c0
  · intro c0
    rw [he]
    exact zgo_unleaf (wa_M_isVotedBeside_2 G  u)
  · intro x
    exact (he _).trans rfl
theorem s_M_isVotedBeside (G : ZG) (a : Int32) (b : Int32) (c : Int32) (e : Int32) (u : ZSt) (x : Int32) (hx : f_M_isVotedBeside a b c e u = some x) : ZSpec G m_M_isVotedBeside 3 [.ref 39, .int a, .int b, .int c, .int e] u ((zemP u) x) :=
  ZSpec.go k_M_isVotedBeside (Nat.le_of_ble_eq_true rfl) (w_M_isVotedBeside G a b c e u) (tgt := (zemP u) x) (by rw [hx]; rfl)
set_option maxRecDepth 100000 in
set_option maxHeartbeats 4000000 in
theorem wb_M_must_29 (G : ZG) (l1 : Int32) (l3 : Int32) (l4 : Int32) (l5 : Int32) (u : ZSt) (K : ((Int32) ⊕ ((Int32) ⊕ (Int32))) → Option (Value × ZSt)) (hb : ∀ (l5 : Int32), ZGo G m_M_must 4 (K (.inl l5)) some 29 [(0, .ref 39), (1, .int l1), (3, .int l3), (4, .int l4), (5, .int l5)] [] u) (hx : ∀ (l5 : Int32), ZGo G m_M_must 4 (K (.inr (.inl l5))) some 81 [] [] u) (hr : ∀ x, K (.inr (.inr x)) = some ((zemP u) x)) : ZGo G m_M_must 4 (b_M_must_29 l1 l3 l4 l5 u) K 29 [(0, .ref 39), (1, .int l1), (3, .int l3), (4, .int l4), (5, .int l5)] [] u := by
  unfold b_M_must_29
  refine g_iconst (v := (2 : Int32)) rfl zic_2 ?_
  refine g_iload rfl rfl ?_
  refine g_imul rfl ?_
  refine g_iconst (v := (1 : Int32)) rfl zic_1 ?_
  refine g_iadd rfl ?_
  refine g_aload_n rfl rfl ?_
  refine g_getR rfl zf_M_68 rfl rfl ?_
  refine g_iload_n rfl rfl ?_
  refine g_iald rfl rfl (fun o2388 => ?_)
  refine g_icmpge rfl (fun c2364 => ?_) (fun c2364 => ?_)
  · exact zgo_sub (zsubk [] rfl) (zgo_leaf (hx l5))
  · refine g_aload_n rfl rfl ?_
    refine g_iload_n rfl rfl ?_
    refine g_iload rfl rfl ?_
    refine g_callVP (M' := m_M_bundleAt) (d' := 1) (as := [.int l1, .int l5]) (rest := []) (ci := 11) (o := 39) rfl ml_M_264 v_M_bundleAt (by decide) rfl (by decide) rfl rfl rfl (Nat.le_of_ble_eq_true rfl) (fun x_ e_ => s_M_bundleAt G l1 l5 u x_ e_) (fun q2365 e2366 b2367 => ?_)
    refine g_istore (lv' := [(0, .ref 39), (1, .int l1), (3, .int l3), (4, .int l4), (5, .int l5), (6, .int q2365)]) rfl (Nat.le_of_ble_eq_true rfl) rfl rfl ?_
    refine g_aload_n rfl rfl ?_
    refine g_iload rfl rfl ?_
    refine g_callVP (M' := m_M_isBundle) (d' := 2) (as := [.int q2365]) (rest := []) (ci := 11) (o := 39) rfl ml_M_232 v_M_isBundle (by decide) rfl (by decide) rfl rfl rfl (Nat.le_of_ble_eq_true rfl) (fun x_ e_ => s_M_isBundle G q2365 u x_ e_) (fun q2368 e2369 b2370 => ?_)
    refine g_ifeq rfl (fun c2371 => ?_) (fun c2371 => ?_)
    · refine g_iinc (v := (1 : Int32)) (lv' := [(0, .ref 39), (1, .int l1), (3, .int l3), (4, .int l4), (5, .int (l5 + (1 : Int32))), (6, .int q2365)]) rfl rfl zic_1 (Nat.le_of_ble_eq_true rfl) rfl rfl ?_
      refine g_goto rfl ?_
      exact zgo_sub (zsubk [0, 1, 2, 3, 4] rfl) (zgo_leaf (hb (l5 + (1 : Int32))))
    · refine g_iload rfl rfl ?_
      refine g_iload rfl rfl ?_
      refine g_callSP (M' := m_M_isIn) (d' := 1) (as := [.int q2365, .int l4]) (rest := []) rfl ml_M_118 v_M_isIn (by decide) rfl rfl (Nat.le_of_ble_eq_true rfl) (fun x_ e_ => s_M_isIn G q2365 l4 u x_ e_) (fun q2372 e2373 b2374 => ?_)
      refine g_ifeq rfl (fun c2375 => ?_) (fun c2375 => ?_)
      · refine g_iinc (v := (1 : Int32)) (lv' := [(0, .ref 39), (1, .int l1), (3, .int l3), (4, .int l4), (5, .int (l5 + (1 : Int32))), (6, .int q2365)]) rfl rfl zic_1 (Nat.le_of_ble_eq_true rfl) rfl rfl ?_
        refine g_goto rfl ?_
        exact zgo_sub (zsubk [0, 1, 2, 3, 4] rfl) (zgo_leaf (hb (l5 + (1 : Int32))))
      · refine g_aload_n rfl rfl ?_
        refine g_iload_n rfl rfl ?_
        refine g_iload rfl rfl ?_
        refine g_callVP (M' := m_M_silentAt) (d' := 1) (as := [.int l1, .int l5]) (rest := []) (ci := 11) (o := 39) rfl ml_M_267 v_M_silentAt (by decide) rfl (by decide) rfl rfl rfl (Nat.le_of_ble_eq_true rfl) (fun x_ e_ => s_M_silentAt G l1 l5 u x_ e_) (fun q2376 e2377 b2378 => ?_)
        refine g_iload_n rfl rfl ?_
        refine g_callSP (M' := m_M_isIn) (d' := 1) (as := [.int q2376, .int l3]) (rest := []) rfl ml_M_118 v_M_isIn (by decide) rfl rfl (Nat.le_of_ble_eq_true rfl) (fun x_ e_ => s_M_isIn G q2376 l3 u x_ e_) (fun q2379 e2380 b2381 => ?_)
        refine g_ifne rfl (fun c2382 => ?_) (fun c2382 => ?_)
        · refine g_iload rfl rfl ?_
          refine g_iconst (v := (1 : Int32)) rfl zic_1 ?_
          refine g_iload rfl rfl ?_
          refine g_ishl rfl ?_
          refine g_iconst (v := (-1 : Int32)) rfl zic_m1 ?_
          refine g_ixor rfl ?_
          refine g_iand rfl ?_
          refine g_istore (lv' := [(0, .ref 39), (1, .int l1), (3, .int l3), (4, .int l4), (5, .int l5), (6, .int q2365), (7, .int (q2365 &&& (((1 : Int32) <<< (l4 &&& 31)) ^^^ (-1 : Int32))))]) rfl (Nat.le_of_ble_eq_true rfl) rfl rfl ?_
          refine g_iload rfl rfl ?_
          refine g_ifeq rfl (fun c2383 => ?_) (fun c2383 => ?_)
          · refine g_iconst (v := (1 : Int32)) rfl zic_1 ?_
            exact g_iret rfl (Or.inl rfl) (hr _)
          · refine g_aload_n rfl rfl ?_
            refine g_iload_n rfl rfl ?_
            refine g_iload_n rfl rfl ?_
            refine g_iload rfl rfl ?_
            refine g_iload rfl rfl ?_
            refine g_callVP (M' := m_M_isVotedBeside) (d' := 3) (as := [.int l1, .int l3, .int l4, .int (q2365 &&& (((1 : Int32) <<< (l4 &&& 31)) ^^^ (-1 : Int32)))]) (rest := []) (ci := 11) (o := 39) rfl ml_M_270 v_M_isVotedBeside (by decide) rfl (by decide) rfl rfl rfl (Nat.le_of_ble_eq_true rfl) (fun x_ e_ => s_M_isVotedBeside G l1 l3 l4 (q2365 &&& (((1 : Int32) <<< (l4 &&& 31)) ^^^ (-1 : Int32))) u x_ e_) (fun q2384 e2385 b2386 => ?_)
            refine g_ifeq rfl (fun c2387 => ?_) (fun c2387 => ?_)
            · refine g_iinc (v := (1 : Int32)) (lv' := [(0, .ref 39), (1, .int l1), (3, .int l3), (4, .int l4), (5, .int (l5 + (1 : Int32))), (6, .int q2365), (7, .int (q2365 &&& (((1 : Int32) <<< (l4 &&& 31)) ^^^ (-1 : Int32))))]) rfl rfl zic_1 (Nat.le_of_ble_eq_true rfl) rfl rfl ?_
              refine g_goto rfl ?_
              exact zgo_sub (zsubk [0, 1, 2, 3, 4] rfl) (zgo_leaf (hb (l5 + (1 : Int32))))
            · refine g_iconst (v := (1 : Int32)) rfl zic_1 ?_
              exact g_iret rfl (Or.inl rfl) (hr _)
        · refine g_goto rfl ?_
          refine g_iinc (v := (1 : Int32)) (lv' := [(0, .ref 39), (1, .int l1), (3, .int l3), (4, .int l4), (5, .int (l5 + (1 : Int32))), (6, .int q2365)]) rfl rfl zic_1 (Nat.le_of_ble_eq_true rfl) rfl rfl ?_
          refine g_goto rfl ?_
          exact zgo_sub (zsubk [0, 1, 2, 3, 4] rfl) (zgo_leaf (hb (l5 + (1 : Int32))))
set_option maxRecDepth 100000 in
set_option maxHeartbeats 4000000 in
theorem wa_M_must_29 (G : ZG) (u : ZSt) : ZGo G m_M_must 4 (a_M_must_29 u) (zkP u) 81 [] [] u := by
  unfold a_M_must_29
  refine g_iconst (v := (0 : Int32)) rfl zic_0 ?_
  exact g_iret rfl (Or.inl rfl) rfl
set_option maxRecDepth 100000 in
set_option maxHeartbeats 4000000 in
theorem w_M_must (G : ZG) (a : Int32) (b : Int32) (u : ZSt) : ZGo G m_M_must 4 (f_M_must a b u) (zkP u) 0 [(0, .ref 39), (1, .int a), (2, .int b)] [] u := by
  unfold f_M_must
  refine g_aload_n rfl rfl ?_
  refine g_iload_n rfl rfl ?_
  refine g_callVP (M' := m_M_yearIs) (d' := 3) (as := [.int a]) (rest := []) (ci := 11) (o := 39) rfl ml_M_261 v_M_yearIs (by decide) rfl (by decide) rfl rfl rfl (Nat.le_of_ble_eq_true rfl) (fun x_ e_ => s_M_yearIs G a u x_ e_) (fun q2352 e2353 b2354 => ?_)
  refine g_iconst (v := (-1 : Int32)) rfl zic_m1 ?_
  refine g_icmpeq rfl (fun c2355 => ?_) (fun c2355 => ?_)
  · refine g_iconst (v := (-1 : Int32)) rfl zic_m1 ?_
    exact g_iret rfl (Or.inl rfl) rfl
  · refine g_aload_n rfl rfl ?_
    refine g_iload_n rfl rfl ?_
    refine g_callVP (M' := m_M_isPm) (d' := 3) (as := [.int b]) (rest := []) (ci := 11) (o := 39) rfl ml_M_125 v_M_isPm (by decide) rfl (by decide) rfl rfl rfl (Nat.le_of_ble_eq_true rfl) (fun x_ e_ => s_M_isPm G b u x_ e_) (fun q2356 e2357 b2358 => ?_)
    refine g_ifne rfl (fun c2359 => ?_) (fun c2359 => ?_)
    · refine g_aload_n rfl rfl ?_
      refine g_iload_n rfl rfl ?_
      refine g_callVP (M' := m_M_yearIs) (d' := 3) (as := [.int a]) (rest := []) (ci := 11) (o := 39) rfl ml_M_261 v_M_yearIs (by decide) rfl (by decide) rfl rfl rfl (Nat.le_of_ble_eq_true rfl) (fun x_ e_ => s_M_yearIs G a u x_ e_) (fun q2360 e2361 b2362 => ?_)
      refine g_ifge rfl (fun c2363 => ?_) (fun c2363 => ?_)
      · refine g_iload_n rfl rfl ?_
        refine g_bipush (v := (10 : Int32)) rfl zib_10 ?_
        refine g_idiv rfl (by decide) ?_
        refine g_istore_n (lv' := [(0, .ref 39), (1, .int a), (2, .int b), (3, .int (b / (10 : Int32)))]) rfl (Nat.le_of_ble_eq_true rfl) rfl rfl ?_
        refine g_iload_n rfl rfl ?_
        refine g_bipush (v := (10 : Int32)) rfl zib_10 ?_
        refine g_irem rfl (by decide) ?_
        refine g_istore (lv' := [(0, .ref 39), (1, .int a), (2, .int b), (3, .int (b / (10 : Int32))), (4, .int (zrem b (10 : Int32)))]) rfl (Nat.le_of_ble_eq_true rfl) rfl rfl ?_
        refine g_iconst (v := (0 : Int32)) rfl zic_0 ?_
        refine g_istore (lv' := [(0, .ref 39), (1, .int a), (2, .int b), (3, .int (b / (10 : Int32))), (4, .int (zrem b (10 : Int32))), (5, .int (0 : Int32))]) rfl (Nat.le_of_ble_eq_true rfl) rfl rfl ?_
        refine zgo_sub (lv' := [(0, .ref 39), (1, .int a), (3, .int (b / (10 : Int32))), (4, .int (zrem b (10 : Int32))), (5, .int (0 : Int32))]) (zsubk [0, 1, 3, 4, 5] rfl) ?_
        refine zgo_loop (σ := Int32) (lvf := fun s => [(0, .ref 39), (1, .int a), (3, .int (b / (10 : Int32))), (4, .int (zrem b (10 : Int32))), (5, .int s)]) (uf := (fun _ => u)) ?_ zfu _
        intro s K' ih he
        refine wb_M_must_29 G a (b / (10 : Int32)) (zrem b (10 : Int32)) s u K' ?_ ?_ ?_
        · intro c0
          exact ih c0
        · intro c0
          rw [he]
          exact zgo_unleaf (wa_M_must_29 G  u)
        · intro x
          exact (he _).trans rfl
      · refine g_aload_n rfl rfl ?_
        refine g_iload_n rfl rfl ?_
        refine g_callVP (M' := m_M_yearIs) (d' := 3) (as := [.int a]) (rest := []) (ci := 11) (o := 39) rfl ml_M_261 v_M_yearIs (by decide) rfl (by decide) rfl rfl rfl (Nat.le_of_ble_eq_true rfl) (fun x_ e_ => s_M_yearIs G a u x_ e_) (fun q2389 e2390 b2391 => ?_)
        exact g_iret rfl (Or.inl rfl) rfl
    · refine g_iconst (v := (-1 : Int32)) rfl zic_m1 ?_
      exact g_iret rfl (Or.inl rfl) rfl
theorem s_M_must (G : ZG) (a : Int32) (b : Int32) (u : ZSt) (x : Int32) (hx : f_M_must a b u = some x) : ZSpec G m_M_must 4 [.ref 39, .int a, .int b] u ((zemP u) x) :=
  ZSpec.go k_M_must (Nat.le_of_ble_eq_true rfl) (w_M_must G a b u) (tgt := (zemP u) x) (by rw [hx]; rfl)
set_option maxRecDepth 100000 in
set_option maxHeartbeats 4000000 in
theorem w_Deeds_decided (G : ZG) (u : ZSt) : ZGo G m_Deeds_decided 1 (f_Deeds_decided u) (zkP u) 0 [(0, .ref 33)] [] u := by
  unfold f_Deeds_decided
  refine g_aload_n rfl rfl ?_
  refine g_getR rfl zf_Deeds_11 rfl rfl ?_
  refine g_iconst (v := (3 : Int32)) rfl zic_3 ?_
  refine zgo_of_ck (c := zin (3 : Int32) 6) (by decide) (g_iald rfl rfl (fun _ => ?_))
  exact g_iret rfl (Or.inl rfl) rfl
theorem s_Deeds_decided (G : ZG) (u : ZSt) (x : Int32) (hx : f_Deeds_decided u = some x) : ZSpec G m_Deeds_decided 1 [.ref 33] u ((zemP u) x) :=
  ZSpec.go k_Deeds_decided (Nat.le_of_ble_eq_true rfl) (w_Deeds_decided G u) (tgt := (zemP u) x) (by rw [hx]; rfl)
set_option maxRecDepth 100000 in
set_option maxHeartbeats 4000000 in
theorem w_Deeds_enter (G : ZG) (a : Int32) (b : Int32) (c : Int32) (e : Int32) (u : ZSt) : ZGo G m_Deeds_enter 1 (f_Deeds_enter a b c e u) zkV 0 [(0, .ref 33), (1, .int a), (2, .int b), (3, .int c), (4, .int e)] [] u := by
  unfold f_Deeds_enter
  refine g_aload_n rfl rfl ?_
  refine g_getR rfl zf_Deeds_11 rfl rfl ?_
  refine g_iconst (v := (0 : Int32)) rfl zic_0 ?_
  refine g_iload_n rfl rfl ?_
  refine zgo_of_ck (c := zin (0 : Int32) 6) (by decide) (g_iast rfl rfl (fun _ => ?_))
  refine g_aload_n rfl rfl ?_
  refine g_getR rfl zf_Deeds_11 rfl rfl ?_
  refine g_iconst (v := (1 : Int32)) rfl zic_1 ?_
  refine g_iload_n rfl rfl ?_
  refine zgo_of_ck (c := zin (1 : Int32) 6) (by decide) (g_iast rfl rfl (fun _ => ?_))
  refine g_aload_n rfl rfl ?_
  refine g_getR rfl zf_Deeds_11 rfl rfl ?_
  refine g_iconst (v := (2 : Int32)) rfl zic_2 ?_
  refine g_iload_n rfl rfl ?_
  refine zgo_of_ck (c := zin (2 : Int32) 6) (by decide) (g_iast rfl rfl (fun _ => ?_))
  refine g_aload_n rfl rfl ?_
  refine g_getR rfl zf_Deeds_11 rfl rfl ?_
  refine g_iconst (v := (3 : Int32)) rfl zic_3 ?_
  refine g_dup2 rfl rfl rfl ?_
  refine zgo_of_ck (c := zin (3 : Int32) 6) (by decide) (zgo_iald (y := (za (za (za u 34 ((0 : Int32).toNatClampNeg) a) 34 ((1 : Int32).toNatClampNeg) b) 34 ((2 : Int32).toNatClampNeg) c).2.1 34 (3 : Int32).toNatClampNeg) rfl rfl rfl (fun _ => ?_))
  refine g_iload_n rfl rfl ?_
  refine g_ifeq rfl (fun c2392 => ?_) (fun c2392 => ?_)
  · refine g_iconst (v := (0 : Int32)) rfl zic_0 ?_
    refine g_ior rfl ?_
    refine zgo_of_ck (c := zin (3 : Int32) 6) (by decide) (g_iast rfl rfl (fun _ => ?_))
    refine g_aload_n rfl rfl ?_
    refine g_getR rfl zf_Deeds_11 rfl rfl ?_
    refine g_iconst (v := (4 : Int32)) rfl zic_4 ?_
    refine g_dup2 rfl rfl rfl ?_
    refine zgo_of_ck (c := zin (4 : Int32) 6) (by decide) (zgo_iald (y := (za (za (za (za u 34 ((0 : Int32).toNatClampNeg) a) 34 ((1 : Int32).toNatClampNeg) b) 34 ((2 : Int32).toNatClampNeg) c) 34 ((3 : Int32).toNatClampNeg) (((za (za (za u 34 ((0 : Int32).toNatClampNeg) a) 34 ((1 : Int32).toNatClampNeg) b) 34 ((2 : Int32).toNatClampNeg) c).2.1 34 (3 : Int32).toNatClampNeg) ||| (0 : Int32))).2.1 34 (4 : Int32).toNatClampNeg) rfl rfl rfl (fun _ => ?_))
    refine g_iload rfl rfl ?_
    refine g_iadd rfl ?_
    refine zgo_of_ck (c := zin (4 : Int32) 6) (by decide) (g_iast rfl rfl (fun _ => ?_))
    refine g_aload_n rfl rfl ?_
    refine g_getR rfl zf_Deeds_11 rfl rfl ?_
    refine g_iconst (v := (5 : Int32)) rfl zic_5 ?_
    refine g_iconst (v := (1 : Int32)) rfl zic_1 ?_
    refine zgo_of_ck (c := zin (5 : Int32) 6) (by decide) (g_iast rfl rfl (fun _ => ?_))
    exact g_vret rfl rfl rfl
  · refine g_iload_n rfl rfl ?_
    refine g_goto rfl ?_
    refine g_ior rfl ?_
    refine zgo_of_ck (c := zin (3 : Int32) 6) (by decide) (g_iast rfl rfl (fun _ => ?_))
    refine g_aload_n rfl rfl ?_
    refine g_getR rfl zf_Deeds_11 rfl rfl ?_
    refine g_iconst (v := (4 : Int32)) rfl zic_4 ?_
    refine g_dup2 rfl rfl rfl ?_
    refine zgo_of_ck (c := zin (4 : Int32) 6) (by decide) (zgo_iald (y := (za (za (za (za u 34 ((0 : Int32).toNatClampNeg) a) 34 ((1 : Int32).toNatClampNeg) b) 34 ((2 : Int32).toNatClampNeg) c) 34 ((3 : Int32).toNatClampNeg) (((za (za (za u 34 ((0 : Int32).toNatClampNeg) a) 34 ((1 : Int32).toNatClampNeg) b) 34 ((2 : Int32).toNatClampNeg) c).2.1 34 (3 : Int32).toNatClampNeg) ||| a)).2.1 34 (4 : Int32).toNatClampNeg) rfl rfl rfl (fun _ => ?_))
    refine g_iload rfl rfl ?_
    refine g_iadd rfl ?_
    refine zgo_of_ck (c := zin (4 : Int32) 6) (by decide) (g_iast rfl rfl (fun _ => ?_))
    refine g_aload_n rfl rfl ?_
    refine g_getR rfl zf_Deeds_11 rfl rfl ?_
    refine g_iconst (v := (5 : Int32)) rfl zic_5 ?_
    refine g_iconst (v := (1 : Int32)) rfl zic_1 ?_
    refine zgo_of_ck (c := zin (5 : Int32) 6) (by decide) (g_iast rfl rfl (fun _ => ?_))
    exact g_vret rfl rfl rfl
theorem s_Deeds_enter (G : ZG) (a : Int32) (b : Int32) (c : Int32) (e : Int32) (u : ZSt) (x : ZSt) (hx : f_Deeds_enter a b c e u = some x) : ZSpec G m_Deeds_enter 1 [.ref 33, .int a, .int b, .int c, .int e] u (zemV x) :=
  ZSpec.go k_Deeds_enter (Nat.le_of_ble_eq_true rfl) (w_Deeds_enter G a b c e u) (tgt := zemV x) (by rw [hx]; rfl)
set_option maxRecDepth 100000 in
set_option maxHeartbeats 4000000 in
theorem w_X_decide (G : ZG) (a : Int32) (b : Int32) (u : ZSt) : ZGo G m_X_decide 6 (f_X_decide a b u) zkI 0 [(0, .ref 0), (1, .int a), (2, .int b)] [] u := by
  unfold f_X_decide
  refine g_aload_n rfl rfl ?_
  refine g_iload_n rfl rfl ?_
  refine g_iload_n rfl rfl ?_
  refine g_callVP (M' := m_X_isPut) (d' := 3) (as := [.int a, .int b]) (rest := []) (ci := 10) (o := 0) rfl ml_X_171 v_X_isPut (by decide) rfl (by decide) rfl rfl rfl (Nat.le_of_ble_eq_true rfl) (fun x_ e_ => s_X_isPut G a b u x_ e_) (fun q2393 e2394 b2395 => ?_)
  refine g_ifne rfl (fun c2396 => ?_) (fun c2396 => ?_)
  · refine g_aload_n rfl rfl ?_
    refine g_getR rfl zf_X_76 rfl rfl ?_
    refine g_callVP (M' := m_Deeds_decided) (d' := 1) (as := []) (rest := []) (ci := 4) (o := 33) rfl ml_X_261 v_Deeds_decided (by decide) rfl (by decide) rfl rfl rfl (Nat.le_of_ble_eq_true rfl) (fun x_ e_ => s_Deeds_decided G  u x_ e_) (fun q2397 e2398 b2399 => ?_)
    refine g_iload_n rfl rfl ?_
    refine g_iand rfl ?_
    refine g_ifeq rfl (fun c2400 => ?_) (fun c2400 => ?_)
    · refine g_aload_n rfl rfl ?_
      refine g_getR rfl zf_X_44 rfl rfl ?_
      refine g_iload_n rfl rfl ?_
      refine g_iload_n rfl rfl ?_
      refine g_callVI (M' := m_Ballot_isCarried) (d' := 5) (as := [.int a, .int b]) (rest := []) (ci := 0) (o := 19) rfl ml_X_184 v_Ballot_isCarried (by decide) rfl (by decide) rfl rfl rfl (Nat.le_of_ble_eq_true rfl) (fun x_ e_ => s_Ballot_isCarried G a b u x_ e_) (fun q2401r q2401u e2402 b2403 => ?_)
      refine g_ifeq rfl (fun c2404 => ?_) (fun c2404 => ?_)
      · refine g_iconst (v := (0 : Int32)) rfl zic_0 ?_
        refine g_istore_n (lv' := [(0, .ref 0), (1, .int a), (2, .int b), (3, .int (0 : Int32))]) rfl (Nat.le_of_ble_eq_true rfl) rfl rfl ?_
        refine g_aload_n rfl rfl ?_
        refine g_getR rfl zf_X_76 rfl rfl ?_
        refine g_iload_n rfl rfl ?_
        refine g_iload_n rfl rfl ?_
        refine g_iload_n rfl rfl ?_
        refine g_aload_n rfl rfl ?_
        refine g_getR rfl zf_X_10 rfl rfl ?_
        refine g_iload_n rfl rfl ?_
        refine g_callVP (M' := m_Council_feesOf) (d' := 1) (as := [.int b]) (rest := [.int (0 : Int32), .int b, .int a, .ref 33]) (ci := 3) (o := 1) rfl ml_X_202 v_Council_feesOf (by decide) rfl (by decide) rfl rfl rfl (Nat.le_of_ble_eq_true rfl) (fun x_ e_ => s_Council_feesOf G b q2401u x_ e_) (fun q2405 e2406 b2407 => ?_)
        refine g_callVV (M' := m_Deeds_enter) (d' := 1) (as := [.int a, .int b, .int (0 : Int32), .int q2405]) (rest := []) (ci := 4) (o := 33) rfl ml_X_264 v_Deeds_enter (by decide) rfl (by decide) rfl rfl rfl (Nat.le_of_ble_eq_true rfl) (fun x_ e_ => s_Deeds_enter G a b (0 : Int32) q2405 q2401u x_ e_) (fun q2408 e2409 b2410 => ?_)
        refine g_iload_n rfl rfl ?_
        exact g_iret rfl (Or.inl rfl) rfl
      · refine g_iconst (v := (1 : Int32)) rfl zic_1 ?_
        refine g_goto rfl ?_
        refine g_istore_n (lv' := [(0, .ref 0), (1, .int a), (2, .int b), (3, .int (1 : Int32))]) rfl (Nat.le_of_ble_eq_true rfl) rfl rfl ?_
        refine g_aload_n rfl rfl ?_
        refine g_getR rfl zf_X_76 rfl rfl ?_
        refine g_iload_n rfl rfl ?_
        refine g_iload_n rfl rfl ?_
        refine g_iload_n rfl rfl ?_
        refine g_aload_n rfl rfl ?_
        refine g_getR rfl zf_X_10 rfl rfl ?_
        refine g_iload_n rfl rfl ?_
        refine g_callVP (M' := m_Council_feesOf) (d' := 1) (as := [.int b]) (rest := [.int (1 : Int32), .int b, .int a, .ref 33]) (ci := 3) (o := 1) rfl ml_X_202 v_Council_feesOf (by decide) rfl (by decide) rfl rfl rfl (Nat.le_of_ble_eq_true rfl) (fun x_ e_ => s_Council_feesOf G b q2401u x_ e_) (fun q2411 e2412 b2413 => ?_)
        refine g_callVV (M' := m_Deeds_enter) (d' := 1) (as := [.int a, .int b, .int (1 : Int32), .int q2411]) (rest := []) (ci := 4) (o := 33) rfl ml_X_264 v_Deeds_enter (by decide) rfl (by decide) rfl rfl rfl (Nat.le_of_ble_eq_true rfl) (fun x_ e_ => s_Deeds_enter G a b (1 : Int32) q2411 q2401u x_ e_) (fun q2414 e2415 b2416 => ?_)
        refine g_iload_n rfl rfl ?_
        exact g_iret rfl (Or.inl rfl) rfl
    · refine g_bipush (v := (-5 : Int32)) rfl zib_m5 ?_
      exact g_iret rfl (Or.inl rfl) rfl
  · refine g_iconst (v := (-1 : Int32)) rfl zic_m1 ?_
    exact g_iret rfl (Or.inl rfl) rfl
theorem s_X_decide (G : ZG) (a : Int32) (b : Int32) (u : ZSt) (x : Int32 × ZSt) (hx : f_X_decide a b u = some x) : ZSpec G m_X_decide 6 [.ref 0, .int a, .int b] u (zemI x) :=
  ZSpec.go k_X_decide (Nat.le_of_ble_eq_true rfl) (w_X_decide G a b u) (tgt := zemI x) (by rw [hx]; rfl)
set_option maxRecDepth 100000 in
set_option maxHeartbeats 4000000 in
theorem w_M_decide (G : ZG) (a : Int32) (b : Int32) (u : ZSt) : ZGo G m_M_decide 108 (f_M_decide a b u) zkI 0 [(0, .ref 39), (1, .int a), (2, .int b)] [] u := by
  unfold f_M_decide
  refine g_aload_n rfl rfl ?_
  refine g_iload_n rfl rfl ?_
  refine g_callVP (M' := m_M_isBundle) (d' := 2) (as := [.int a]) (rest := []) (ci := 11) (o := 39) rfl ml_M_232 v_M_isBundle (by decide) rfl (by decide) rfl rfl rfl (Nat.le_of_ble_eq_true rfl) (fun x_ e_ => s_M_isBundle G a u x_ e_) (fun q2417 e2418 b2419 => ?_)
  refine g_ifeq rfl (fun c2420 => ?_) (fun c2420 => ?_)
  · refine g_iconst (v := (-1 : Int32)) rfl zic_m1 ?_
    exact g_iret rfl (Or.inl rfl) rfl
  · refine g_aload_n rfl rfl ?_
    refine g_iload_n rfl rfl ?_
    refine g_callVP (M' := m_M_areGifts) (d' := 2) (as := [.int b]) (rest := []) (ci := 11) (o := 39) rfl ml_M_235 v_M_areGifts (by decide) rfl (by decide) rfl rfl rfl (Nat.le_of_ble_eq_true rfl) (fun x_ e_ => s_M_areGifts G b u x_ e_) (fun q2421 e2422 b2423 => ?_)
    refine g_ifne rfl (fun c2424 => ?_) (fun c2424 => ?_)
    · refine g_iload_n rfl rfl ?_
      refine g_aload_n rfl rfl ?_
      refine g_getR rfl zf_M_53 rfl rfl ?_
      refine g_iconst (v := (3 : Int32)) rfl zic_3 ?_
      refine zgo_of_ck (c := zin (3 : Int32) 5) (by decide) (g_iald rfl rfl (fun _ => ?_))
      refine g_iand rfl ?_
      refine g_ifeq rfl (fun c2425 => ?_) (fun c2425 => ?_)
      · refine g_aload_n rfl rfl ?_
        refine g_iload_n rfl rfl ?_
        refine g_iload_n rfl rfl ?_
        refine g_callVI (M' := m_M_isCarried) (d' := 107) (as := [.int a, .int b]) (rest := []) (ci := 11) (o := 39) rfl ml_M_240 v_M_isCarried (by decide) rfl (by decide) rfl rfl rfl (Nat.le_of_ble_eq_true rfl) (fun x_ e_ => s_M_isCarried G a b u x_ e_) (fun q2426r q2426u e2427 b2428 => ?_)
        refine g_istore_n (lv' := [(0, .ref 39), (1, .int a), (2, .int b), (3, .int q2426r)]) rfl (Nat.le_of_ble_eq_true rfl) rfl rfl ?_
        refine g_aload_n rfl rfl ?_
        refine g_getR rfl zf_M_53 rfl rfl ?_
        refine g_iconst (v := (0 : Int32)) rfl zic_0 ?_
        refine g_iload_n rfl rfl ?_
        refine zgo_of_ck (c := zin (0 : Int32) 5) (by decide) (g_iast rfl rfl (fun _ => ?_))
        refine g_aload_n rfl rfl ?_
        refine g_getR rfl zf_M_53 rfl rfl ?_
        refine g_iconst (v := (1 : Int32)) rfl zic_1 ?_
        refine g_iload_n rfl rfl ?_
        refine zgo_of_ck (c := zin (1 : Int32) 5) (by decide) (g_iast rfl rfl (fun _ => ?_))
        refine g_aload_n rfl rfl ?_
        refine g_getR rfl zf_M_53 rfl rfl ?_
        refine g_iconst (v := (2 : Int32)) rfl zic_2 ?_
        refine g_iload_n rfl rfl ?_
        refine g_ifeq rfl (fun c2429 => ?_) (fun c2429 => ?_)
        · refine g_iconst (v := (0 : Int32)) rfl zic_0 ?_
          refine zgo_of_ck (c := zin (2 : Int32) 5) (by decide) (g_iast rfl rfl (fun _ => ?_))
          refine g_aload_n rfl rfl ?_
          refine g_getR rfl zf_M_53 rfl rfl ?_
          refine g_iconst (v := (3 : Int32)) rfl zic_3 ?_
          refine g_dup2 rfl rfl rfl ?_
          refine zgo_of_ck (c := zin (3 : Int32) 5) (by decide) (zgo_iald (y := (za (za (za q2426u 54 ((0 : Int32).toNatClampNeg) a) 54 ((1 : Int32).toNatClampNeg) b) 54 ((2 : Int32).toNatClampNeg) (0 : Int32)).2.1 54 (3 : Int32).toNatClampNeg) rfl rfl rfl (fun _ => ?_))
          refine g_iload_n rfl rfl ?_
          refine g_ifeq rfl (fun c2430 => ?_) (fun c2430 => ?_)
          · refine g_iconst (v := (0 : Int32)) rfl zic_0 ?_
            refine g_ior rfl ?_
            refine zgo_of_ck (c := zin (3 : Int32) 5) (by decide) (g_iast rfl rfl (fun _ => ?_))
            refine g_aload_n rfl rfl ?_
            refine g_getR rfl zf_M_53 rfl rfl ?_
            refine g_iconst (v := (4 : Int32)) rfl zic_4 ?_
            refine g_dup2 rfl rfl rfl ?_
            refine zgo_of_ck (c := zin (4 : Int32) 5) (by decide) (zgo_iald (y := (za (za (za (za q2426u 54 ((0 : Int32).toNatClampNeg) a) 54 ((1 : Int32).toNatClampNeg) b) 54 ((2 : Int32).toNatClampNeg) (0 : Int32)) 54 ((3 : Int32).toNatClampNeg) (((za (za (za q2426u 54 ((0 : Int32).toNatClampNeg) a) 54 ((1 : Int32).toNatClampNeg) b) 54 ((2 : Int32).toNatClampNeg) (0 : Int32)).2.1 54 (3 : Int32).toNatClampNeg) ||| (0 : Int32))).2.1 54 (4 : Int32).toNatClampNeg) rfl rfl rfl (fun _ => ?_))
            refine g_aload_n rfl rfl ?_
            refine g_iload_n rfl rfl ?_
            refine g_callVP (M' := m_M_feesOf) (d' := 2) (as := [.int b]) (rest := [.int ((za (za (za (za q2426u 54 ((0 : Int32).toNatClampNeg) a) 54 ((1 : Int32).toNatClampNeg) b) 54 ((2 : Int32).toNatClampNeg) (0 : Int32)) 54 ((3 : Int32).toNatClampNeg) (((za (za (za q2426u 54 ((0 : Int32).toNatClampNeg) a) 54 ((1 : Int32).toNatClampNeg) b) 54 ((2 : Int32).toNatClampNeg) (0 : Int32)).2.1 54 (3 : Int32).toNatClampNeg) ||| (0 : Int32))).2.1 54 (4 : Int32).toNatClampNeg), .int (4 : Int32), .ref 54]) (ci := 11) (o := 39) rfl ml_M_243 v_M_feesOf (by decide) rfl (by decide) rfl rfl rfl (Nat.le_of_ble_eq_true rfl) (fun x_ e_ => s_M_feesOf G b (za (za (za (za q2426u 54 ((0 : Int32).toNatClampNeg) a) 54 ((1 : Int32).toNatClampNeg) b) 54 ((2 : Int32).toNatClampNeg) (0 : Int32)) 54 ((3 : Int32).toNatClampNeg) (((za (za (za q2426u 54 ((0 : Int32).toNatClampNeg) a) 54 ((1 : Int32).toNatClampNeg) b) 54 ((2 : Int32).toNatClampNeg) (0 : Int32)).2.1 54 (3 : Int32).toNatClampNeg) ||| (0 : Int32))) x_ e_) (fun q2431 e2432 b2433 => ?_)
            refine g_iadd rfl ?_
            refine zgo_of_ck (c := zin (4 : Int32) 5) (by decide) (g_iast rfl rfl (fun _ => ?_))
            refine g_aload_n rfl rfl ?_
            refine g_getR rfl zf_M_53 rfl rfl ?_
            refine g_iconst (v := (2 : Int32)) rfl zic_2 ?_
            refine zgo_of_ck (c := zin (2 : Int32) 5) (by decide) (zgo_iald (y := (za (za (za (za (za q2426u 54 ((0 : Int32).toNatClampNeg) a) 54 ((1 : Int32).toNatClampNeg) b) 54 ((2 : Int32).toNatClampNeg) (0 : Int32)) 54 ((3 : Int32).toNatClampNeg) (((za (za (za q2426u 54 ((0 : Int32).toNatClampNeg) a) 54 ((1 : Int32).toNatClampNeg) b) 54 ((2 : Int32).toNatClampNeg) (0 : Int32)).2.1 54 (3 : Int32).toNatClampNeg) ||| (0 : Int32))) 54 ((4 : Int32).toNatClampNeg) (((za (za (za (za q2426u 54 ((0 : Int32).toNatClampNeg) a) 54 ((1 : Int32).toNatClampNeg) b) 54 ((2 : Int32).toNatClampNeg) (0 : Int32)) 54 ((3 : Int32).toNatClampNeg) (((za (za (za q2426u 54 ((0 : Int32).toNatClampNeg) a) 54 ((1 : Int32).toNatClampNeg) b) 54 ((2 : Int32).toNatClampNeg) (0 : Int32)).2.1 54 (3 : Int32).toNatClampNeg) ||| (0 : Int32))).2.1 54 (4 : Int32).toNatClampNeg) + q2431)).2.1 54 (2 : Int32).toNatClampNeg) rfl rfl rfl (fun _ => ?_))
            exact g_iret rfl (Or.inl rfl) rfl
          · refine g_iload_n rfl rfl ?_
            refine g_goto rfl ?_
            refine g_ior rfl ?_
            refine zgo_of_ck (c := zin (3 : Int32) 5) (by decide) (g_iast rfl rfl (fun _ => ?_))
            refine g_aload_n rfl rfl ?_
            refine g_getR rfl zf_M_53 rfl rfl ?_
            refine g_iconst (v := (4 : Int32)) rfl zic_4 ?_
            refine g_dup2 rfl rfl rfl ?_
            refine zgo_of_ck (c := zin (4 : Int32) 5) (by decide) (zgo_iald (y := (za (za (za (za q2426u 54 ((0 : Int32).toNatClampNeg) a) 54 ((1 : Int32).toNatClampNeg) b) 54 ((2 : Int32).toNatClampNeg) (0 : Int32)) 54 ((3 : Int32).toNatClampNeg) (((za (za (za q2426u 54 ((0 : Int32).toNatClampNeg) a) 54 ((1 : Int32).toNatClampNeg) b) 54 ((2 : Int32).toNatClampNeg) (0 : Int32)).2.1 54 (3 : Int32).toNatClampNeg) ||| a)).2.1 54 (4 : Int32).toNatClampNeg) rfl rfl rfl (fun _ => ?_))
            refine g_aload_n rfl rfl ?_
            refine g_iload_n rfl rfl ?_
            refine g_callVP (M' := m_M_feesOf) (d' := 2) (as := [.int b]) (rest := [.int ((za (za (za (za q2426u 54 ((0 : Int32).toNatClampNeg) a) 54 ((1 : Int32).toNatClampNeg) b) 54 ((2 : Int32).toNatClampNeg) (0 : Int32)) 54 ((3 : Int32).toNatClampNeg) (((za (za (za q2426u 54 ((0 : Int32).toNatClampNeg) a) 54 ((1 : Int32).toNatClampNeg) b) 54 ((2 : Int32).toNatClampNeg) (0 : Int32)).2.1 54 (3 : Int32).toNatClampNeg) ||| a)).2.1 54 (4 : Int32).toNatClampNeg), .int (4 : Int32), .ref 54]) (ci := 11) (o := 39) rfl ml_M_243 v_M_feesOf (by decide) rfl (by decide) rfl rfl rfl (Nat.le_of_ble_eq_true rfl) (fun x_ e_ => s_M_feesOf G b (za (za (za (za q2426u 54 ((0 : Int32).toNatClampNeg) a) 54 ((1 : Int32).toNatClampNeg) b) 54 ((2 : Int32).toNatClampNeg) (0 : Int32)) 54 ((3 : Int32).toNatClampNeg) (((za (za (za q2426u 54 ((0 : Int32).toNatClampNeg) a) 54 ((1 : Int32).toNatClampNeg) b) 54 ((2 : Int32).toNatClampNeg) (0 : Int32)).2.1 54 (3 : Int32).toNatClampNeg) ||| a)) x_ e_) (fun q2434 e2435 b2436 => ?_)
            refine g_iadd rfl ?_
            refine zgo_of_ck (c := zin (4 : Int32) 5) (by decide) (g_iast rfl rfl (fun _ => ?_))
            refine g_aload_n rfl rfl ?_
            refine g_getR rfl zf_M_53 rfl rfl ?_
            refine g_iconst (v := (2 : Int32)) rfl zic_2 ?_
            refine zgo_of_ck (c := zin (2 : Int32) 5) (by decide) (zgo_iald (y := (za (za (za (za (za q2426u 54 ((0 : Int32).toNatClampNeg) a) 54 ((1 : Int32).toNatClampNeg) b) 54 ((2 : Int32).toNatClampNeg) (0 : Int32)) 54 ((3 : Int32).toNatClampNeg) (((za (za (za q2426u 54 ((0 : Int32).toNatClampNeg) a) 54 ((1 : Int32).toNatClampNeg) b) 54 ((2 : Int32).toNatClampNeg) (0 : Int32)).2.1 54 (3 : Int32).toNatClampNeg) ||| a)) 54 ((4 : Int32).toNatClampNeg) (((za (za (za (za q2426u 54 ((0 : Int32).toNatClampNeg) a) 54 ((1 : Int32).toNatClampNeg) b) 54 ((2 : Int32).toNatClampNeg) (0 : Int32)) 54 ((3 : Int32).toNatClampNeg) (((za (za (za q2426u 54 ((0 : Int32).toNatClampNeg) a) 54 ((1 : Int32).toNatClampNeg) b) 54 ((2 : Int32).toNatClampNeg) (0 : Int32)).2.1 54 (3 : Int32).toNatClampNeg) ||| a)).2.1 54 (4 : Int32).toNatClampNeg) + q2434)).2.1 54 (2 : Int32).toNatClampNeg) rfl rfl rfl (fun _ => ?_))
            exact g_iret rfl (Or.inl rfl) rfl
        · refine g_iconst (v := (1 : Int32)) rfl zic_1 ?_
          refine g_goto rfl ?_
          refine zgo_of_ck (c := zin (2 : Int32) 5) (by decide) (g_iast rfl rfl (fun _ => ?_))
          refine g_aload_n rfl rfl ?_
          refine g_getR rfl zf_M_53 rfl rfl ?_
          refine g_iconst (v := (3 : Int32)) rfl zic_3 ?_
          refine g_dup2 rfl rfl rfl ?_
          refine zgo_of_ck (c := zin (3 : Int32) 5) (by decide) (zgo_iald (y := (za (za (za q2426u 54 ((0 : Int32).toNatClampNeg) a) 54 ((1 : Int32).toNatClampNeg) b) 54 ((2 : Int32).toNatClampNeg) (1 : Int32)).2.1 54 (3 : Int32).toNatClampNeg) rfl rfl rfl (fun _ => ?_))
          refine g_iload_n rfl rfl ?_
          refine g_ifeq rfl (fun c2437 => ?_) (fun c2437 => ?_)
          · refine g_iconst (v := (0 : Int32)) rfl zic_0 ?_
            refine g_ior rfl ?_
            refine zgo_of_ck (c := zin (3 : Int32) 5) (by decide) (g_iast rfl rfl (fun _ => ?_))
            refine g_aload_n rfl rfl ?_
            refine g_getR rfl zf_M_53 rfl rfl ?_
            refine g_iconst (v := (4 : Int32)) rfl zic_4 ?_
            refine g_dup2 rfl rfl rfl ?_
            refine zgo_of_ck (c := zin (4 : Int32) 5) (by decide) (zgo_iald (y := (za (za (za (za q2426u 54 ((0 : Int32).toNatClampNeg) a) 54 ((1 : Int32).toNatClampNeg) b) 54 ((2 : Int32).toNatClampNeg) (1 : Int32)) 54 ((3 : Int32).toNatClampNeg) (((za (za (za q2426u 54 ((0 : Int32).toNatClampNeg) a) 54 ((1 : Int32).toNatClampNeg) b) 54 ((2 : Int32).toNatClampNeg) (1 : Int32)).2.1 54 (3 : Int32).toNatClampNeg) ||| (0 : Int32))).2.1 54 (4 : Int32).toNatClampNeg) rfl rfl rfl (fun _ => ?_))
            refine g_aload_n rfl rfl ?_
            refine g_iload_n rfl rfl ?_
            refine g_callVP (M' := m_M_feesOf) (d' := 2) (as := [.int b]) (rest := [.int ((za (za (za (za q2426u 54 ((0 : Int32).toNatClampNeg) a) 54 ((1 : Int32).toNatClampNeg) b) 54 ((2 : Int32).toNatClampNeg) (1 : Int32)) 54 ((3 : Int32).toNatClampNeg) (((za (za (za q2426u 54 ((0 : Int32).toNatClampNeg) a) 54 ((1 : Int32).toNatClampNeg) b) 54 ((2 : Int32).toNatClampNeg) (1 : Int32)).2.1 54 (3 : Int32).toNatClampNeg) ||| (0 : Int32))).2.1 54 (4 : Int32).toNatClampNeg), .int (4 : Int32), .ref 54]) (ci := 11) (o := 39) rfl ml_M_243 v_M_feesOf (by decide) rfl (by decide) rfl rfl rfl (Nat.le_of_ble_eq_true rfl) (fun x_ e_ => s_M_feesOf G b (za (za (za (za q2426u 54 ((0 : Int32).toNatClampNeg) a) 54 ((1 : Int32).toNatClampNeg) b) 54 ((2 : Int32).toNatClampNeg) (1 : Int32)) 54 ((3 : Int32).toNatClampNeg) (((za (za (za q2426u 54 ((0 : Int32).toNatClampNeg) a) 54 ((1 : Int32).toNatClampNeg) b) 54 ((2 : Int32).toNatClampNeg) (1 : Int32)).2.1 54 (3 : Int32).toNatClampNeg) ||| (0 : Int32))) x_ e_) (fun q2438 e2439 b2440 => ?_)
            refine g_iadd rfl ?_
            refine zgo_of_ck (c := zin (4 : Int32) 5) (by decide) (g_iast rfl rfl (fun _ => ?_))
            refine g_aload_n rfl rfl ?_
            refine g_getR rfl zf_M_53 rfl rfl ?_
            refine g_iconst (v := (2 : Int32)) rfl zic_2 ?_
            refine zgo_of_ck (c := zin (2 : Int32) 5) (by decide) (zgo_iald (y := (za (za (za (za (za q2426u 54 ((0 : Int32).toNatClampNeg) a) 54 ((1 : Int32).toNatClampNeg) b) 54 ((2 : Int32).toNatClampNeg) (1 : Int32)) 54 ((3 : Int32).toNatClampNeg) (((za (za (za q2426u 54 ((0 : Int32).toNatClampNeg) a) 54 ((1 : Int32).toNatClampNeg) b) 54 ((2 : Int32).toNatClampNeg) (1 : Int32)).2.1 54 (3 : Int32).toNatClampNeg) ||| (0 : Int32))) 54 ((4 : Int32).toNatClampNeg) (((za (za (za (za q2426u 54 ((0 : Int32).toNatClampNeg) a) 54 ((1 : Int32).toNatClampNeg) b) 54 ((2 : Int32).toNatClampNeg) (1 : Int32)) 54 ((3 : Int32).toNatClampNeg) (((za (za (za q2426u 54 ((0 : Int32).toNatClampNeg) a) 54 ((1 : Int32).toNatClampNeg) b) 54 ((2 : Int32).toNatClampNeg) (1 : Int32)).2.1 54 (3 : Int32).toNatClampNeg) ||| (0 : Int32))).2.1 54 (4 : Int32).toNatClampNeg) + q2438)).2.1 54 (2 : Int32).toNatClampNeg) rfl rfl rfl (fun _ => ?_))
            exact g_iret rfl (Or.inl rfl) rfl
          · refine g_iload_n rfl rfl ?_
            refine g_goto rfl ?_
            refine g_ior rfl ?_
            refine zgo_of_ck (c := zin (3 : Int32) 5) (by decide) (g_iast rfl rfl (fun _ => ?_))
            refine g_aload_n rfl rfl ?_
            refine g_getR rfl zf_M_53 rfl rfl ?_
            refine g_iconst (v := (4 : Int32)) rfl zic_4 ?_
            refine g_dup2 rfl rfl rfl ?_
            refine zgo_of_ck (c := zin (4 : Int32) 5) (by decide) (zgo_iald (y := (za (za (za (za q2426u 54 ((0 : Int32).toNatClampNeg) a) 54 ((1 : Int32).toNatClampNeg) b) 54 ((2 : Int32).toNatClampNeg) (1 : Int32)) 54 ((3 : Int32).toNatClampNeg) (((za (za (za q2426u 54 ((0 : Int32).toNatClampNeg) a) 54 ((1 : Int32).toNatClampNeg) b) 54 ((2 : Int32).toNatClampNeg) (1 : Int32)).2.1 54 (3 : Int32).toNatClampNeg) ||| a)).2.1 54 (4 : Int32).toNatClampNeg) rfl rfl rfl (fun _ => ?_))
            refine g_aload_n rfl rfl ?_
            refine g_iload_n rfl rfl ?_
            refine g_callVP (M' := m_M_feesOf) (d' := 2) (as := [.int b]) (rest := [.int ((za (za (za (za q2426u 54 ((0 : Int32).toNatClampNeg) a) 54 ((1 : Int32).toNatClampNeg) b) 54 ((2 : Int32).toNatClampNeg) (1 : Int32)) 54 ((3 : Int32).toNatClampNeg) (((za (za (za q2426u 54 ((0 : Int32).toNatClampNeg) a) 54 ((1 : Int32).toNatClampNeg) b) 54 ((2 : Int32).toNatClampNeg) (1 : Int32)).2.1 54 (3 : Int32).toNatClampNeg) ||| a)).2.1 54 (4 : Int32).toNatClampNeg), .int (4 : Int32), .ref 54]) (ci := 11) (o := 39) rfl ml_M_243 v_M_feesOf (by decide) rfl (by decide) rfl rfl rfl (Nat.le_of_ble_eq_true rfl) (fun x_ e_ => s_M_feesOf G b (za (za (za (za q2426u 54 ((0 : Int32).toNatClampNeg) a) 54 ((1 : Int32).toNatClampNeg) b) 54 ((2 : Int32).toNatClampNeg) (1 : Int32)) 54 ((3 : Int32).toNatClampNeg) (((za (za (za q2426u 54 ((0 : Int32).toNatClampNeg) a) 54 ((1 : Int32).toNatClampNeg) b) 54 ((2 : Int32).toNatClampNeg) (1 : Int32)).2.1 54 (3 : Int32).toNatClampNeg) ||| a)) x_ e_) (fun q2441 e2442 b2443 => ?_)
            refine g_iadd rfl ?_
            refine zgo_of_ck (c := zin (4 : Int32) 5) (by decide) (g_iast rfl rfl (fun _ => ?_))
            refine g_aload_n rfl rfl ?_
            refine g_getR rfl zf_M_53 rfl rfl ?_
            refine g_iconst (v := (2 : Int32)) rfl zic_2 ?_
            refine zgo_of_ck (c := zin (2 : Int32) 5) (by decide) (zgo_iald (y := (za (za (za (za (za q2426u 54 ((0 : Int32).toNatClampNeg) a) 54 ((1 : Int32).toNatClampNeg) b) 54 ((2 : Int32).toNatClampNeg) (1 : Int32)) 54 ((3 : Int32).toNatClampNeg) (((za (za (za q2426u 54 ((0 : Int32).toNatClampNeg) a) 54 ((1 : Int32).toNatClampNeg) b) 54 ((2 : Int32).toNatClampNeg) (1 : Int32)).2.1 54 (3 : Int32).toNatClampNeg) ||| a)) 54 ((4 : Int32).toNatClampNeg) (((za (za (za (za q2426u 54 ((0 : Int32).toNatClampNeg) a) 54 ((1 : Int32).toNatClampNeg) b) 54 ((2 : Int32).toNatClampNeg) (1 : Int32)) 54 ((3 : Int32).toNatClampNeg) (((za (za (za q2426u 54 ((0 : Int32).toNatClampNeg) a) 54 ((1 : Int32).toNatClampNeg) b) 54 ((2 : Int32).toNatClampNeg) (1 : Int32)).2.1 54 (3 : Int32).toNatClampNeg) ||| a)).2.1 54 (4 : Int32).toNatClampNeg) + q2441)).2.1 54 (2 : Int32).toNatClampNeg) rfl rfl rfl (fun _ => ?_))
            exact g_iret rfl (Or.inl rfl) rfl
      · refine g_bipush (v := (-5 : Int32)) rfl zib_m5 ?_
        exact g_iret rfl (Or.inl rfl) rfl
    · refine g_iconst (v := (-1 : Int32)) rfl zic_m1 ?_
      exact g_iret rfl (Or.inl rfl) rfl
theorem s_M_decide (G : ZG) (a : Int32) (b : Int32) (u : ZSt) (x : Int32 × ZSt) (hx : f_M_decide a b u = some x) : ZSpec G m_M_decide 108 [.ref 39, .int a, .int b] u (zemI x) :=
  ZSpec.go k_M_decide (Nat.le_of_ble_eq_true rfl) (w_M_decide G a b u) (tgt := zemI x) (by rw [hx]; rfl)
set_option maxRecDepth 100000 in
set_option maxHeartbeats 4000000 in
theorem w_Deeds_isAny (G : ZG) (u : ZSt) : ZGo G m_Deeds_isAny 1 (f_Deeds_isAny u) (zkP u) 0 [(0, .ref 33)] [] u := by
  unfold f_Deeds_isAny
  refine g_aload_n rfl rfl ?_
  refine g_getR rfl zf_Deeds_11 rfl rfl ?_
  refine g_iconst (v := (5 : Int32)) rfl zic_5 ?_
  refine zgo_of_ck (c := zin (5 : Int32) 6) (by decide) (g_iald rfl rfl (fun _ => ?_))
  refine g_ifeq rfl (fun c2444 => ?_) (fun c2444 => ?_)
  · refine g_iconst (v := (0 : Int32)) rfl zic_0 ?_
    exact g_iret rfl (Or.inr ⟨rfl, Or.inl rfl⟩) rfl
  · refine g_iconst (v := (1 : Int32)) rfl zic_1 ?_
    refine g_goto rfl ?_
    exact g_iret rfl (Or.inr ⟨rfl, Or.inr rfl⟩) rfl
theorem s_Deeds_isAny (G : ZG) (u : ZSt) (x : Int32) (hx : f_Deeds_isAny u = some x) : ZSpec G m_Deeds_isAny 1 [.ref 33] u ((zemP u) x) :=
  ZSpec.go k_Deeds_isAny (Nat.le_of_ble_eq_true rfl) (w_Deeds_isAny G u) (tgt := (zemP u) x) (by rw [hx]; rfl)
set_option maxRecDepth 100000 in
set_option maxHeartbeats 4000000 in
theorem w_Deeds_told (G : ZG) (a : Int32) (u : ZSt) : ZGo G m_Deeds_told 1 (f_Deeds_told a u) (zkP u) 0 [(0, .ref 33), (1, .int a)] [] u := by
  unfold f_Deeds_told
  refine g_iload_n rfl rfl ?_
  refine g_iflt rfl (fun c2445 => ?_) (fun c2445 => ?_)
  · refine g_iconst (v := (-1 : Int32)) rfl zic_m1 ?_
    exact g_iret rfl (Or.inl rfl) rfl
  · refine g_iload_n rfl rfl ?_
    refine g_bipush (v := (6 : Int32)) rfl zib_6 ?_
    refine g_icmpge rfl (fun c2446 => ?_) (fun c2446 => ?_)
    · refine g_iconst (v := (-1 : Int32)) rfl zic_m1 ?_
      exact g_iret rfl (Or.inl rfl) rfl
    · refine g_aload_n rfl rfl ?_
      refine g_getR rfl zf_Deeds_11 rfl rfl ?_
      refine g_iload_n rfl rfl ?_
      refine g_iald rfl rfl (fun o2447 => ?_)
      refine g_goto rfl ?_
      exact g_iret rfl (Or.inl rfl) rfl
theorem s_Deeds_told (G : ZG) (a : Int32) (u : ZSt) (x : Int32) (hx : f_Deeds_told a u = some x) : ZSpec G m_Deeds_told 1 [.ref 33, .int a] u ((zemP u) x) :=
  ZSpec.go k_Deeds_told (Nat.le_of_ble_eq_true rfl) (w_Deeds_told G a u) (tgt := (zemP u) x) (by rw [hx]; rfl)
set_option maxRecDepth 100000 in
set_option maxHeartbeats 4000000 in
theorem w_X_led (G : ZG) (a : Int32) (u : ZSt) : ZGo G m_X_led 2 (f_X_led a u) (zkP u) 0 [(0, .ref 0), (1, .int a)] [] u := by
  unfold f_X_led
  refine g_iload_n rfl rfl ?_
  refine g_iflt rfl (fun c2448 => ?_) (fun c2448 => ?_)
  · refine g_iconst (v := (-1 : Int32)) rfl zic_m1 ?_
    exact g_iret rfl (Or.inl rfl) rfl
  · refine g_iload_n rfl rfl ?_
    refine g_iconst (v := (4 : Int32)) rfl zic_4 ?_
    refine g_icmple rfl (fun c2449 => ?_) (fun c2449 => ?_)
    · refine g_iload_n rfl rfl ?_
      refine g_iconst (v := (2 : Int32)) rfl zic_2 ?_
      refine g_icmpgt rfl (fun c2450 => ?_) (fun c2450 => ?_)
      · refine g_aload_n rfl rfl ?_
        refine g_getR rfl zf_X_76 rfl rfl ?_
        refine g_iload_n rfl rfl ?_
        refine g_callVP (M' := m_Deeds_told) (d' := 1) (as := [.int a]) (rest := []) (ci := 4) (o := 33) rfl ml_X_272 v_Deeds_told (by decide) rfl (by decide) rfl rfl rfl (Nat.le_of_ble_eq_true rfl) (fun x_ e_ => s_Deeds_told G a u x_ e_) (fun q2451 e2452 b2453 => ?_)
        exact g_iret rfl (Or.inl rfl) rfl
      · refine g_aload_n rfl rfl ?_
        refine g_getR rfl zf_X_76 rfl rfl ?_
        refine g_callVP (M' := m_Deeds_isAny) (d' := 1) (as := []) (rest := []) (ci := 4) (o := 33) rfl ml_X_268 v_Deeds_isAny (by decide) rfl (by decide) rfl rfl rfl (Nat.le_of_ble_eq_true rfl) (fun x_ e_ => s_Deeds_isAny G  u x_ e_) (fun q2454 e2455 b2456 => ?_)
        refine g_ifne rfl (fun c2457 => ?_) (fun c2457 => ?_)
        · refine g_aload_n rfl rfl ?_
          refine g_getR rfl zf_X_76 rfl rfl ?_
          refine g_iload_n rfl rfl ?_
          refine g_callVP (M' := m_Deeds_told) (d' := 1) (as := [.int a]) (rest := []) (ci := 4) (o := 33) rfl ml_X_272 v_Deeds_told (by decide) rfl (by decide) rfl rfl rfl (Nat.le_of_ble_eq_true rfl) (fun x_ e_ => s_Deeds_told G a u x_ e_) (fun q2458 e2459 b2460 => ?_)
          exact g_iret rfl (Or.inl rfl) rfl
        · refine g_bipush (v := (-5 : Int32)) rfl zib_m5 ?_
          refine g_goto rfl ?_
          exact g_iret rfl (Or.inl rfl) rfl
    · refine g_iconst (v := (-1 : Int32)) rfl zic_m1 ?_
      exact g_iret rfl (Or.inl rfl) rfl
theorem s_X_led (G : ZG) (a : Int32) (u : ZSt) (x : Int32) (hx : f_X_led a u = some x) : ZSpec G m_X_led 2 [.ref 0, .int a] u ((zemP u) x) :=
  ZSpec.go k_X_led (Nat.le_of_ble_eq_true rfl) (w_X_led G a u) (tgt := (zemP u) x) (by rw [hx]; rfl)
set_option maxRecDepth 100000 in
set_option maxHeartbeats 4000000 in
theorem w_M_led (G : ZG) (a : Int32) (u : ZSt) : ZGo G m_M_led 2 (f_M_led a u) (zkP u) 0 [(0, .ref 39), (1, .int a)] [] u := by
  unfold f_M_led
  refine g_iload_n rfl rfl ?_
  refine g_i2l rfl ?_
  refine g_lconst (v := (0 : Int64)) rfl rfl ?_
  refine g_ldc2 rfl zk_M_142 ?_
  refine g_callSP (M' := m_M_within) (d' := 1) (as := [.long a.toInt64, .long (0 : Int64), .long (4 : Int64)]) (rest := []) rfl ml_M_97 v_M_within (by decide) rfl rfl (Nat.le_of_ble_eq_true rfl) (fun x_ e_ => s_M_within G a.toInt64 (0 : Int64) (4 : Int64) u x_ e_) (fun q2461 e2462 b2463 => ?_)
  refine g_ifne rfl (fun c2464 => ?_) (fun c2464 => ?_)
  · refine g_iload_n rfl rfl ?_
    refine g_iconst (v := (3 : Int32)) rfl zic_3 ?_
    refine g_icmpge rfl (fun c2465 => ?_) (fun c2465 => ?_)
    · refine g_aload_n rfl rfl ?_
      refine g_getR rfl zf_M_53 rfl rfl ?_
      refine g_iload_n rfl rfl ?_
      refine g_iald rfl rfl (fun o2466 => ?_)
      exact g_iret rfl (Or.inl rfl) rfl
    · refine g_aload_n rfl rfl ?_
      refine g_getR rfl zf_M_53 rfl rfl ?_
      refine g_iconst (v := (0 : Int32)) rfl zic_0 ?_
      refine zgo_of_ck (c := zin (0 : Int32) 5) (by decide) (g_iald rfl rfl (fun _ => ?_))
      refine g_ifne rfl (fun c2467 => ?_) (fun c2467 => ?_)
      · refine g_aload_n rfl rfl ?_
        refine g_getR rfl zf_M_53 rfl rfl ?_
        refine g_iload_n rfl rfl ?_
        refine g_iald rfl rfl (fun o2468 => ?_)
        exact g_iret rfl (Or.inl rfl) rfl
      · refine g_bipush (v := (-5 : Int32)) rfl zib_m5 ?_
        refine g_goto rfl ?_
        exact g_iret rfl (Or.inl rfl) rfl
  · refine g_iconst (v := (-1 : Int32)) rfl zic_m1 ?_
    exact g_iret rfl (Or.inl rfl) rfl
theorem s_M_led (G : ZG) (a : Int32) (u : ZSt) (x : Int32) (hx : f_M_led a u = some x) : ZSpec G m_M_led 2 [.ref 39, .int a] u ((zemP u) x) :=
  ZSpec.go k_M_led (Nat.le_of_ble_eq_true rfl) (w_M_led G a u) (tgt := (zemP u) x) (by rw [hx]; rfl)
set_option maxRecDepth 100000 in
set_option maxHeartbeats 4000000 in
theorem w_Deeds_keepImage (G : ZG) (u : ZSt) : ZGo G m_Deeds_keepImage 1 (f_Deeds_keepImage u) zkV 0 [(0, .ref 33)] [] u := by
  unfold f_Deeds_keepImage
  refine g_aload_n rfl rfl ?_
  refine g_getR rfl zf_Deeds_11 rfl rfl ?_
  refine g_iconst (v := (0 : Int32)) rfl zic_0 ?_
  refine g_aload_n rfl rfl ?_
  refine g_getR rfl zf_Deeds_15 rfl rfl ?_
  refine g_iconst (v := (0 : Int32)) rfl zic_0 ?_
  refine g_bipush (v := (6 : Int32)) rfl zib_6 ?_
  refine zgo_of_ck (c := zcpok (0 : Int32) (0 : Int32) (6 : Int32) 6 6) (by decide) (g_copyI rfl ml_Deeds_18 rfl rfl (by decide) (fun _ => ?_))
  refine g_aload_n rfl rfl ?_
  refine g_iconst (v := (1 : Int32)) rfl zic_1 ?_
  refine g_put (j := 3302) rfl zf_Deeds_24 rfl rfl zp_4_2.1 (Or.inr ⟨zp_4_2.2, Or.inr rfl⟩) rfl ?_
  exact g_vret rfl rfl rfl
theorem s_Deeds_keepImage (G : ZG) (u : ZSt) (x : ZSt) (hx : f_Deeds_keepImage u = some x) : ZSpec G m_Deeds_keepImage 1 [.ref 33] u (zemV x) :=
  ZSpec.go k_Deeds_keepImage (Nat.le_of_ble_eq_true rfl) (w_Deeds_keepImage G u) (tgt := zemV x) (by rw [hx]; rfl)
set_option maxRecDepth 100000 in
set_option maxHeartbeats 4000000 in
theorem w_X_image (G : ZG) (u : ZSt) : ZGo G m_X_image 2 (f_X_image u) zkI 0 [(0, .ref 0)] [] u := by
  unfold f_X_image
  refine g_aload_n rfl rfl ?_
  refine g_getR rfl zf_X_76 rfl rfl ?_
  refine g_callVV (M' := m_Deeds_keepImage) (d' := 1) (as := []) (rest := []) (ci := 4) (o := 33) rfl ml_X_275 v_Deeds_keepImage (by decide) rfl (by decide) rfl rfl rfl (Nat.le_of_ble_eq_true rfl) (fun x_ e_ => s_Deeds_keepImage G  u x_ e_) (fun q2469 e2470 b2471 => ?_)
  refine g_aload_n rfl rfl ?_
  refine g_getR rfl zf_X_76 rfl rfl ?_
  refine g_callVP (M' := m_Deeds_decided) (d' := 1) (as := []) (rest := []) (ci := 4) (o := 33) rfl ml_X_261 v_Deeds_decided (by decide) rfl (by decide) rfl rfl rfl (Nat.le_of_ble_eq_true rfl) (fun x_ e_ => s_Deeds_decided G  q2469 x_ e_) (fun q2472 e2473 b2474 => ?_)
  exact g_iret rfl (Or.inl rfl) rfl
theorem s_X_image (G : ZG) (u : ZSt) (x : Int32 × ZSt) (hx : f_X_image u = some x) : ZSpec G m_X_image 2 [.ref 0] u (zemI x) :=
  ZSpec.go k_X_image (Nat.le_of_ble_eq_true rfl) (w_X_image G u) (tgt := zemI x) (by rw [hx]; rfl)
set_option maxRecDepth 100000 in
set_option maxHeartbeats 4000000 in
theorem wb_M_image_5 (G : ZG) (l1 : Int32) (u : ZSt) (K : ((Int32 × ZSt) ⊕ (Int32 × ZSt)) → Option (Value × ZSt)) (hb : ∀ (l1 : Int32) (u : ZSt), ZGo G m_M_image 1 (K (.inl (l1, u))) some 5 [(0, .ref 39), (1, .int l1)] [] u) (hx : ∀ (l1 : Int32) (u : ZSt), ZGo G m_M_image 1 (K (.inr (l1, u))) some 18 [(0, .ref 39)] [] u) : ZGo G m_M_image 1 (b_M_image_5 l1 u) K 5 [(0, .ref 39), (1, .int l1)] [] u := by
  unfold b_M_image_5
  refine g_iload_n rfl rfl ?_
  refine g_iconst (v := (5 : Int32)) rfl zic_5 ?_
  refine g_icmpge rfl (fun c2475 => ?_) (fun c2475 => ?_)
  · exact zgo_sub (zsubk [0] rfl) (zgo_leaf (hx l1 u))
  · refine g_aload_n rfl rfl ?_
    refine g_getR rfl zf_M_56 rfl rfl ?_
    refine g_iload_n rfl rfl ?_
    refine g_aload_n rfl rfl ?_
    refine g_getR rfl zf_M_53 rfl rfl ?_
    refine g_iload_n rfl rfl ?_
    refine g_iald rfl rfl (fun o2477 => ?_)
    refine g_iast rfl rfl (fun o2476 => ?_)
    refine g_iinc (v := (1 : Int32)) (lv' := [(0, .ref 39), (1, .int (l1 + (1 : Int32)))]) rfl rfl zic_1 (Nat.le_of_ble_eq_true rfl) rfl rfl ?_
    refine g_goto rfl ?_
    exact zgo_sub (zsubk [0, 1] rfl) (zgo_leaf (hb (l1 + (1 : Int32)) (za u 55 l1.toNatClampNeg (u.2.1 54 l1.toNatClampNeg))))
set_option maxRecDepth 100000 in
set_option maxHeartbeats 4000000 in
theorem wa_M_image_5 (G : ZG) (u : ZSt) : ZGo G m_M_image 1 (a_M_image_5 u) zkI 18 [(0, .ref 39)] [] u := by
  unfold a_M_image_5
  refine g_aload_n rfl rfl ?_
  refine g_getR rfl zf_M_53 rfl rfl ?_
  refine g_iconst (v := (3 : Int32)) rfl zic_3 ?_
  refine zgo_of_ck (c := zin (3 : Int32) 5) (by decide) (g_iald rfl rfl (fun _ => ?_))
  exact g_iret rfl (Or.inl rfl) rfl
set_option maxRecDepth 100000 in
set_option maxHeartbeats 4000000 in
theorem w_M_image (G : ZG) (u : ZSt) : ZGo G m_M_image 1 (f_M_image u) zkI 0 [(0, .ref 39)] [] u := by
  unfold f_M_image
  refine g_aload_n rfl rfl ?_
  refine g_iconst (v := (1 : Int32)) rfl zic_1 ?_
  refine g_put (j := 3931) rfl zf_M_274 rfl rfl zp_11_31.1 (Or.inr ⟨zp_11_31.2, Or.inr rfl⟩) rfl ?_
  refine g_iconst (v := (0 : Int32)) rfl zic_0 ?_
  refine g_istore_n (lv' := [(0, .ref 39), (1, .int (0 : Int32))]) rfl (Nat.le_of_ble_eq_true rfl) rfl rfl ?_
  refine zgo_sub (lv' := [(0, .ref 39), (1, .int (0 : Int32))]) (zsubk [0, 1] rfl) ?_
  refine zgo_loop (σ := Int32 × ZSt) (lvf := fun s => [(0, .ref 39), (1, .int s.1)]) (uf := (fun s => s.2)) ?_ zfu _
  intro s K' ih he
  refine wb_M_image_5 G s.1 s.2 K' ?_ ?_
  · intro c0 v
    exact ih (c0, v)
  · intro c0 v
    rw [he]
    exact zgo_unleaf (wa_M_image_5 G  v)
theorem s_M_image (G : ZG) (u : ZSt) (x : Int32 × ZSt) (hx : f_M_image u = some x) : ZSpec G m_M_image 1 [.ref 39] u (zemI x) :=
  ZSpec.go k_M_image (Nat.le_of_ble_eq_true rfl) (w_M_image G u) (tgt := zemI x) (by rw [hx]; rfl)
set_option maxRecDepth 100000 in
set_option maxHeartbeats 4000000 in
theorem w_Deeds_goBack (G : ZG) (u : ZSt) : ZGo G m_Deeds_goBack 1 (f_Deeds_goBack u) zkI 0 [(0, .ref 33)] [] u := by
  unfold f_Deeds_goBack
  refine g_aload_n rfl rfl ?_
  refine g_getI rfl zf_Deeds_24 rfl rfl rfl ?_
  refine g_ifeq rfl (fun c2478 => ?_) (fun c2478 => ?_)
  · refine g_aload_n rfl rfl ?_
    refine g_getI rfl zf_Deeds_24 rfl rfl rfl ?_
    refine zgo_ck (fun c2479 => ?_)
    exact g_iret rfl (Or.inr ⟨rfl, c2479⟩) rfl
  · refine g_aload_n rfl rfl ?_
    refine g_getR rfl zf_Deeds_15 rfl rfl ?_
    refine g_iconst (v := (0 : Int32)) rfl zic_0 ?_
    refine g_aload_n rfl rfl ?_
    refine g_getR rfl zf_Deeds_11 rfl rfl ?_
    refine g_iconst (v := (0 : Int32)) rfl zic_0 ?_
    refine g_bipush (v := (6 : Int32)) rfl zib_6 ?_
    refine zgo_of_ck (c := zcpok (0 : Int32) (0 : Int32) (6 : Int32) 6 6) (by decide) (g_copyI rfl ml_Deeds_18 rfl rfl (by decide) (fun _ => ?_))
    refine g_aload_n rfl rfl ?_
    refine g_getIx (x := u.1 3302) rfl zf_Deeds_24 rfl rfl rfl rfl ?_
    refine zgo_ck (fun c2480 => ?_)
    exact g_iret rfl (Or.inr ⟨rfl, c2480⟩) rfl
theorem s_Deeds_goBack (G : ZG) (u : ZSt) (x : Int32 × ZSt) (hx : f_Deeds_goBack u = some x) : ZSpec G m_Deeds_goBack 1 [.ref 33] u (zemI x) :=
  ZSpec.go k_Deeds_goBack (Nat.le_of_ble_eq_true rfl) (w_Deeds_goBack G u) (tgt := zemI x) (by rw [hx]; rfl)
set_option maxRecDepth 100000 in
set_option maxHeartbeats 4000000 in
theorem w_X_back (G : ZG) (u : ZSt) : ZGo G m_X_back 2 (f_X_back u) zkI 0 [(0, .ref 0)] [] u := by
  unfold f_X_back
  refine g_aload_n rfl rfl ?_
  refine g_getR rfl zf_X_76 rfl rfl ?_
  refine g_callVI (M' := m_Deeds_goBack) (d' := 1) (as := []) (rest := []) (ci := 4) (o := 33) rfl ml_X_278 v_Deeds_goBack (by decide) rfl (by decide) rfl rfl rfl (Nat.le_of_ble_eq_true rfl) (fun x_ e_ => s_Deeds_goBack G  u x_ e_) (fun q2481r q2481u e2482 b2483 => ?_)
  refine g_ifeq rfl (fun c2484 => ?_) (fun c2484 => ?_)
  · refine g_bipush (v := (-5 : Int32)) rfl zib_m5 ?_
    exact g_iret rfl (Or.inl rfl) rfl
  · refine g_aload_n rfl rfl ?_
    refine g_getR rfl zf_X_76 rfl rfl ?_
    refine g_callVP (M' := m_Deeds_decided) (d' := 1) (as := []) (rest := []) (ci := 4) (o := 33) rfl ml_X_261 v_Deeds_decided (by decide) rfl (by decide) rfl rfl rfl (Nat.le_of_ble_eq_true rfl) (fun x_ e_ => s_Deeds_decided G  q2481u x_ e_) (fun q2485 e2486 b2487 => ?_)
    refine g_goto rfl ?_
    exact g_iret rfl (Or.inl rfl) rfl
theorem s_X_back (G : ZG) (u : ZSt) (x : Int32 × ZSt) (hx : f_X_back u = some x) : ZSpec G m_X_back 2 [.ref 0] u (zemI x) :=
  ZSpec.go k_X_back (Nat.le_of_ble_eq_true rfl) (w_X_back G u) (tgt := zemI x) (by rw [hx]; rfl)
set_option maxRecDepth 100000 in
set_option maxHeartbeats 4000000 in
theorem wb_M_back_7 (G : ZG) (l1 : Int32) (u : ZSt) (K : ((Int32 × ZSt) ⊕ (Int32 × ZSt)) → Option (Value × ZSt)) (hb : ∀ (l1 : Int32) (u : ZSt), ZGo G m_M_back 1 (K (.inl (l1, u))) some 7 [(0, .ref 39), (1, .int l1)] [] u) (hx : ∀ (l1 : Int32) (u : ZSt), ZGo G m_M_back 1 (K (.inr (l1, u))) some 20 [(0, .ref 39)] [] u) : ZGo G m_M_back 1 (b_M_back_7 l1 u) K 7 [(0, .ref 39), (1, .int l1)] [] u := by
  unfold b_M_back_7
  refine g_iload_n rfl rfl ?_
  refine g_iconst (v := (5 : Int32)) rfl zic_5 ?_
  refine g_icmpge rfl (fun c2489 => ?_) (fun c2489 => ?_)
  · exact zgo_sub (zsubk [0] rfl) (zgo_leaf (hx l1 u))
  · refine g_aload_n rfl rfl ?_
    refine g_getR rfl zf_M_53 rfl rfl ?_
    refine g_iload_n rfl rfl ?_
    refine g_aload_n rfl rfl ?_
    refine g_getR rfl zf_M_56 rfl rfl ?_
    refine g_iload_n rfl rfl ?_
    refine g_iald rfl rfl (fun o2491 => ?_)
    refine g_iast rfl rfl (fun o2490 => ?_)
    refine g_iinc (v := (1 : Int32)) (lv' := [(0, .ref 39), (1, .int (l1 + (1 : Int32)))]) rfl rfl zic_1 (Nat.le_of_ble_eq_true rfl) rfl rfl ?_
    refine g_goto rfl ?_
    exact zgo_sub (zsubk [0, 1] rfl) (zgo_leaf (hb (l1 + (1 : Int32)) (za u 54 l1.toNatClampNeg (u.2.1 55 l1.toNatClampNeg))))
set_option maxRecDepth 100000 in
set_option maxHeartbeats 4000000 in
theorem wa_M_back_7 (G : ZG) (u : ZSt) : ZGo G m_M_back 1 (a_M_back_7 u) zkI 20 [(0, .ref 39)] [] u := by
  unfold a_M_back_7
  refine g_aload_n rfl rfl ?_
  refine g_getR rfl zf_M_53 rfl rfl ?_
  refine g_iconst (v := (3 : Int32)) rfl zic_3 ?_
  refine zgo_of_ck (c := zin (3 : Int32) 5) (by decide) (g_iald rfl rfl (fun _ => ?_))
  exact g_iret rfl (Or.inl rfl) rfl
set_option maxRecDepth 100000 in
set_option maxHeartbeats 4000000 in
theorem w_M_back (G : ZG) (u : ZSt) : ZGo G m_M_back 1 (f_M_back u) zkI 0 [(0, .ref 39)] [] u := by
  unfold f_M_back
  refine g_aload_n rfl rfl ?_
  refine g_getI rfl zf_M_274 rfl rfl rfl ?_
  refine g_ifne rfl (fun c2488 => ?_) (fun c2488 => ?_)
  · refine g_iconst (v := (0 : Int32)) rfl zic_0 ?_
    refine g_istore_n (lv' := [(0, .ref 39), (1, .int (0 : Int32))]) rfl (Nat.le_of_ble_eq_true rfl) rfl rfl ?_
    refine zgo_sub (lv' := [(0, .ref 39), (1, .int (0 : Int32))]) (zsubk [0, 1] rfl) ?_
    refine zgo_loop (σ := Int32 × ZSt) (lvf := fun s => [(0, .ref 39), (1, .int s.1)]) (uf := (fun s => s.2)) ?_ zfu _
    intro s K' ih he
    refine wb_M_back_7 G s.1 s.2 K' ?_ ?_
    · intro c0 v
      exact ih (c0, v)
    · intro c0 v
      rw [he]
      exact zgo_unleaf (wa_M_back_7 G  v)
  · refine g_bipush (v := (-5 : Int32)) rfl zib_m5 ?_
    exact g_iret rfl (Or.inl rfl) rfl
theorem s_M_back (G : ZG) (u : ZSt) (x : Int32 × ZSt) (hx : f_M_back u = some x) : ZSpec G m_M_back 1 [.ref 39] u (zemI x) :=
  ZSpec.go k_M_back (Nat.le_of_ble_eq_true rfl) (w_M_back G u) (tgt := zemI x) (by rw [hx]; rfl)
set_option maxRecDepth 100000 in
set_option maxHeartbeats 4000000 in
theorem w_Changes_takeBack (G : ZG) (u : ZSt) : ZGo G m_Changes_takeBack 2 (f_Changes_takeBack u) zkI 0 [(0, .ref 5)] [] u := by
  unfold f_Changes_takeBack
  refine g_aload_n rfl rfl ?_
  refine g_getI rfl zf_Changes_33 rfl rfl rfl ?_
  refine g_iconst (v := (1 : Int32)) rfl zic_1 ?_
  refine g_icmplt rfl (fun c2492 => ?_) (fun c2492 => ?_)
  · refine g_iconst (v := (0 : Int32)) rfl zic_0 ?_
    exact g_iret rfl (Or.inr ⟨rfl, Or.inl rfl⟩) rfl
  · refine g_aload_n rfl rfl ?_
    refine g_getI rfl zf_Changes_33 rfl rfl rfl ?_
    refine g_bipush (v := (40 : Int32)) rfl zib_40 ?_
    refine g_icmple rfl (fun c2493 => ?_) (fun c2493 => ?_)
    · refine g_aload_n rfl rfl ?_
      refine g_dup rfl rfl ?_
      refine g_getI rfl zf_Changes_33 rfl rfl rfl ?_
      refine g_iconst (v := (1 : Int32)) rfl zic_1 ?_
      refine g_isub rfl ?_
      refine g_put (j := 504) rfl zf_Changes_33 rfl rfl zp_1_4.1 (Or.inl zp_1_4.2) rfl ?_
      refine g_aload_n rfl rfl ?_
      refine g_getR rfl zf_Changes_19 rfl rfl ?_
      refine g_aload_n rfl rfl ?_
      refine g_getR rfl zf_Changes_9 rfl rfl ?_
      refine g_aload_n rfl rfl ?_
      refine g_getIx (x := ((u.1 504) - (1 : Int32))) rfl zf_Changes_33 rfl rfl rfl rfl ?_
      refine zgo_iald (y := u.2.1 6 ((u.1 504) - (1 : Int32)).toNatClampNeg) rfl rfl rfl (fun o2498 => ?_)
      refine g_aload_n rfl rfl ?_
      refine g_getR rfl zf_Changes_13 rfl rfl ?_
      refine g_aload_n rfl rfl ?_
      refine g_getIx (x := ((u.1 504) - (1 : Int32))) rfl zf_Changes_33 rfl rfl rfl rfl ?_
      refine zgo_iald (y := u.2.1 7 ((u.1 504) - (1 : Int32)).toNatClampNeg) rfl rfl rfl (fun o2497 => ?_)
      refine g_callVV (M' := m_Council_tell) (d' := 1) (as := [.int (u.2.1 6 ((u.1 504) - (1 : Int32)).toNatClampNeg), .int (u.2.1 7 ((u.1 504) - (1 : Int32)).toNatClampNeg)]) (rest := []) (ci := 3) (o := 1) rfl ml_Changes_29 v_Council_tell (by decide) rfl (by decide) rfl rfl rfl (Nat.le_of_ble_eq_true rfl) (fun x_ e_ => s_Council_tell G (u.2.1 6 ((u.1 504) - (1 : Int32)).toNatClampNeg) (u.2.1 7 ((u.1 504) - (1 : Int32)).toNatClampNeg) (zs u 504 ((u.1 504) - (1 : Int32))) x_ e_) (fun q2494 e2495 b2496 => ?_)
      refine g_iconst (v := (1 : Int32)) rfl zic_1 ?_
      exact g_iret rfl (Or.inr ⟨rfl, Or.inr rfl⟩) rfl
    · refine g_iconst (v := (0 : Int32)) rfl zic_0 ?_
      exact g_iret rfl (Or.inr ⟨rfl, Or.inl rfl⟩) rfl
theorem s_Changes_takeBack (G : ZG) (u : ZSt) (x : Int32 × ZSt) (hx : f_Changes_takeBack u = some x) : ZSpec G m_Changes_takeBack 2 [.ref 5] u (zemI x) :=
  ZSpec.go k_Changes_takeBack (Nat.le_of_ble_eq_true rfl) (w_Changes_takeBack G u) (tgt := zemI x) (by rw [hx]; rfl)
set_option maxRecDepth 100000 in
set_option maxHeartbeats 4000000 in
theorem w_Changes_undoable (G : ZG) (u : ZSt) : ZGo G m_Changes_undoable 1 (f_Changes_undoable u) (zkP u) 0 [(0, .ref 5)] [] u := by
  unfold f_Changes_undoable
  refine g_aload_n rfl rfl ?_
  refine g_getI rfl zf_Changes_33 rfl rfl rfl ?_
  exact g_iret rfl (Or.inl rfl) rfl
theorem s_Changes_undoable (G : ZG) (u : ZSt) (x : Int32) (hx : f_Changes_undoable u = some x) : ZSpec G m_Changes_undoable 1 [.ref 5] u ((zemP u) x) :=
  ZSpec.go k_Changes_undoable (Nat.le_of_ble_eq_true rfl) (w_Changes_undoable G u) (tgt := (zemP u) x) (by rw [hx]; rfl)
set_option maxRecDepth 100000 in
set_option maxHeartbeats 4000000 in
theorem w_X_undo (G : ZG) (u : ZSt) : ZGo G m_X_undo 3 (f_X_undo u) zkI 0 [(0, .ref 0)] [] u := by
  unfold f_X_undo
  refine g_aload_n rfl rfl ?_
  refine g_getR rfl zf_X_21 rfl rfl ?_
  refine g_callVI (M' := m_Changes_takeBack) (d' := 2) (as := []) (rest := []) (ci := 1) (o := 5) rfl ml_X_281 v_Changes_takeBack (by decide) rfl (by decide) rfl rfl rfl (Nat.le_of_ble_eq_true rfl) (fun x_ e_ => s_Changes_takeBack G  u x_ e_) (fun q2499r q2499u e2500 b2501 => ?_)
  refine g_ifeq rfl (fun c2502 => ?_) (fun c2502 => ?_)
  · refine g_bipush (v := (-5 : Int32)) rfl zib_m5 ?_
    exact g_iret rfl (Or.inl rfl) rfl
  · refine g_aload_n rfl rfl ?_
    refine g_getR rfl zf_X_21 rfl rfl ?_
    refine g_callVP (M' := m_Changes_undoable) (d' := 1) (as := []) (rest := []) (ci := 1) (o := 5) rfl ml_X_284 v_Changes_undoable (by decide) rfl (by decide) rfl rfl rfl (Nat.le_of_ble_eq_true rfl) (fun x_ e_ => s_Changes_undoable G  q2499u x_ e_) (fun q2503 e2504 b2505 => ?_)
    refine g_goto rfl ?_
    exact g_iret rfl (Or.inl rfl) rfl
theorem s_X_undo (G : ZG) (u : ZSt) (x : Int32 × ZSt) (hx : f_X_undo u = some x) : ZSpec G m_X_undo 3 [.ref 0] u (zemI x) :=
  ZSpec.go k_X_undo (Nat.le_of_ble_eq_true rfl) (w_X_undo G u) (tgt := zemI x) (by rw [hx]; rfl)
set_option maxRecDepth 100000 in
set_option maxHeartbeats 4000000 in
theorem w_M_undo (G : ZG) (u : ZSt) : ZGo G m_M_undo 1 (f_M_undo u) zkI 0 [(0, .ref 39)] [] u := by
  unfold f_M_undo
  refine g_aload_n rfl rfl ?_
  refine g_getI rfl zf_M_88 rfl rfl rfl ?_
  refine g_ifne rfl (fun c2506 => ?_) (fun c2506 => ?_)
  · refine g_aload_n rfl rfl ?_
    refine g_dup rfl rfl ?_
    refine g_getI rfl zf_M_88 rfl rfl rfl ?_
    refine g_iconst (v := (1 : Int32)) rfl zic_1 ?_
    refine g_isub rfl ?_
    refine g_put (j := 3905) rfl zf_M_88 rfl rfl zp_11_5.1 (Or.inl zp_11_5.2) rfl ?_
    refine g_aload_n rfl rfl ?_
    refine g_getR rfl zf_M_9 rfl rfl ?_
    refine g_aload_n rfl rfl ?_
    refine g_getR rfl zf_M_13 rfl rfl ?_
    refine g_aload_n rfl rfl ?_
    refine g_getIx (x := ((u.1 3905) - (1 : Int32))) rfl zf_M_88 rfl rfl rfl rfl ?_
    refine zgo_iald (y := u.2.1 41 ((u.1 3905) - (1 : Int32)).toNatClampNeg) rfl rfl rfl (fun o2509 => ?_)
    refine g_aload_n rfl rfl ?_
    refine g_getR rfl zf_M_16 rfl rfl ?_
    refine g_aload_n rfl rfl ?_
    refine g_getIx (x := ((u.1 3905) - (1 : Int32))) rfl zf_M_88 rfl rfl rfl rfl ?_
    refine zgo_iald (y := u.2.1 42 ((u.1 3905) - (1 : Int32)).toNatClampNeg) rfl rfl rfl (fun o2508 => ?_)
    refine g_iast rfl rfl (fun o2507 => ?_)
    refine g_aload_n rfl rfl ?_
    refine g_getIx (x := ((u.1 3905) - (1 : Int32))) rfl zf_M_88 rfl rfl rfl rfl ?_
    exact g_iret rfl (Or.inl rfl) rfl
  · refine g_bipush (v := (-5 : Int32)) rfl zib_m5 ?_
    exact g_iret rfl (Or.inl rfl) rfl
theorem s_M_undo (G : ZG) (u : ZSt) (x : Int32 × ZSt) (hx : f_M_undo u = some x) : ZSpec G m_M_undo 1 [.ref 39] u (zemI x) :=
  ZSpec.go k_M_undo (Nat.le_of_ble_eq_true rfl) (w_M_undo G u) (tgt := zemI x) (by rw [hx]; rfl)
set_option maxRecDepth 100000 in
set_option maxHeartbeats 4000000 in
theorem w_Changes_makeAgain (G : ZG) (u : ZSt) : ZGo G m_Changes_makeAgain 2 (f_Changes_makeAgain u) zkI 0 [(0, .ref 5)] [] u := by
  unfold f_Changes_makeAgain
  refine g_aload_n rfl rfl ?_
  refine g_getI rfl zf_Changes_33 rfl rfl rfl ?_
  refine g_aload_n rfl rfl ?_
  refine g_getI rfl zf_Changes_40 rfl rfl rfl ?_
  refine g_icmpge rfl (fun c2510 => ?_) (fun c2510 => ?_)
  · refine g_iconst (v := (0 : Int32)) rfl zic_0 ?_
    exact g_iret rfl (Or.inr ⟨rfl, Or.inl rfl⟩) rfl
  · refine g_aload_n rfl rfl ?_
    refine g_getI rfl zf_Changes_33 rfl rfl rfl ?_
    refine g_bipush (v := (40 : Int32)) rfl zib_40 ?_
    refine g_icmplt rfl (fun c2511 => ?_) (fun c2511 => ?_)
    · refine g_aload_n rfl rfl ?_
      refine g_getR rfl zf_Changes_19 rfl rfl ?_
      refine g_aload_n rfl rfl ?_
      refine g_getR rfl zf_Changes_9 rfl rfl ?_
      refine g_aload_n rfl rfl ?_
      refine g_getI rfl zf_Changes_33 rfl rfl rfl ?_
      refine g_iald rfl rfl (fun o2516 => ?_)
      refine g_aload_n rfl rfl ?_
      refine g_getR rfl zf_Changes_16 rfl rfl ?_
      refine g_aload_n rfl rfl ?_
      refine g_getI rfl zf_Changes_33 rfl rfl rfl ?_
      refine g_iald rfl rfl (fun o2515 => ?_)
      refine g_callVV (M' := m_Council_tell) (d' := 1) (as := [.int (u.2.1 6 (u.1 504).toNatClampNeg), .int (u.2.1 8 (u.1 504).toNatClampNeg)]) (rest := []) (ci := 3) (o := 1) rfl ml_Changes_29 v_Council_tell (by decide) rfl (by decide) rfl rfl rfl (Nat.le_of_ble_eq_true rfl) (fun x_ e_ => s_Council_tell G (u.2.1 6 (u.1 504).toNatClampNeg) (u.2.1 8 (u.1 504).toNatClampNeg) u x_ e_) (fun q2512 e2513 b2514 => ?_)
      refine g_aload_n rfl rfl ?_
      refine g_dup rfl rfl ?_
      refine g_getI rfl zf_Changes_33 rfl rfl rfl ?_
      refine g_iconst (v := (1 : Int32)) rfl zic_1 ?_
      refine g_iadd rfl ?_
      refine g_put (j := 504) rfl zf_Changes_33 rfl rfl zp_1_4.1 (Or.inl zp_1_4.2) rfl ?_
      refine g_iconst (v := (1 : Int32)) rfl zic_1 ?_
      exact g_iret rfl (Or.inr ⟨rfl, Or.inr rfl⟩) rfl
    · refine g_iconst (v := (0 : Int32)) rfl zic_0 ?_
      exact g_iret rfl (Or.inr ⟨rfl, Or.inl rfl⟩) rfl
theorem s_Changes_makeAgain (G : ZG) (u : ZSt) (x : Int32 × ZSt) (hx : f_Changes_makeAgain u = some x) : ZSpec G m_Changes_makeAgain 2 [.ref 5] u (zemI x) :=
  ZSpec.go k_Changes_makeAgain (Nat.le_of_ble_eq_true rfl) (w_Changes_makeAgain G u) (tgt := zemI x) (by rw [hx]; rfl)
set_option maxRecDepth 100000 in
set_option maxHeartbeats 4000000 in
theorem w_Changes_redoable (G : ZG) (u : ZSt) : ZGo G m_Changes_redoable 1 (f_Changes_redoable u) (zkP u) 0 [(0, .ref 5)] [] u := by
  unfold f_Changes_redoable
  refine g_aload_n rfl rfl ?_
  refine g_getI rfl zf_Changes_40 rfl rfl rfl ?_
  refine g_aload_n rfl rfl ?_
  refine g_getI rfl zf_Changes_33 rfl rfl rfl ?_
  refine g_isub rfl ?_
  exact g_iret rfl (Or.inl rfl) rfl
theorem s_Changes_redoable (G : ZG) (u : ZSt) (x : Int32) (hx : f_Changes_redoable u = some x) : ZSpec G m_Changes_redoable 1 [.ref 5] u ((zemP u) x) :=
  ZSpec.go k_Changes_redoable (Nat.le_of_ble_eq_true rfl) (w_Changes_redoable G u) (tgt := (zemP u) x) (by rw [hx]; rfl)
set_option maxRecDepth 100000 in
set_option maxHeartbeats 4000000 in
theorem w_X_redo (G : ZG) (u : ZSt) : ZGo G m_X_redo 3 (f_X_redo u) zkI 0 [(0, .ref 0)] [] u := by
  unfold f_X_redo
  refine g_aload_n rfl rfl ?_
  refine g_getR rfl zf_X_21 rfl rfl ?_
  refine g_callVI (M' := m_Changes_makeAgain) (d' := 2) (as := []) (rest := []) (ci := 1) (o := 5) rfl ml_X_287 v_Changes_makeAgain (by decide) rfl (by decide) rfl rfl rfl (Nat.le_of_ble_eq_true rfl) (fun x_ e_ => s_Changes_makeAgain G  u x_ e_) (fun q2517r q2517u e2518 b2519 => ?_)
  refine g_ifeq rfl (fun c2520 => ?_) (fun c2520 => ?_)
  · refine g_bipush (v := (-5 : Int32)) rfl zib_m5 ?_
    exact g_iret rfl (Or.inl rfl) rfl
  · refine g_aload_n rfl rfl ?_
    refine g_getR rfl zf_X_21 rfl rfl ?_
    refine g_callVP (M' := m_Changes_redoable) (d' := 1) (as := []) (rest := []) (ci := 1) (o := 5) rfl ml_X_290 v_Changes_redoable (by decide) rfl (by decide) rfl rfl rfl (Nat.le_of_ble_eq_true rfl) (fun x_ e_ => s_Changes_redoable G  q2517u x_ e_) (fun q2521 e2522 b2523 => ?_)
    refine g_goto rfl ?_
    exact g_iret rfl (Or.inl rfl) rfl
theorem s_X_redo (G : ZG) (u : ZSt) (x : Int32 × ZSt) (hx : f_X_redo u = some x) : ZSpec G m_X_redo 3 [.ref 0] u (zemI x) :=
  ZSpec.go k_X_redo (Nat.le_of_ble_eq_true rfl) (w_X_redo G u) (tgt := zemI x) (by rw [hx]; rfl)
set_option maxRecDepth 100000 in
set_option maxHeartbeats 4000000 in
theorem w_M_redo (G : ZG) (u : ZSt) : ZGo G m_M_redo 1 (f_M_redo u) zkI 0 [(0, .ref 39)] [] u := by
  unfold f_M_redo
  refine g_aload_n rfl rfl ?_
  refine g_getI rfl zf_M_88 rfl rfl rfl ?_
  refine g_aload_n rfl rfl ?_
  refine g_getI rfl zf_M_91 rfl rfl rfl ?_
  refine g_icmpne rfl (fun c2524 => ?_) (fun c2524 => ?_)
  · refine g_aload_n rfl rfl ?_
    refine g_getR rfl zf_M_9 rfl rfl ?_
    refine g_aload_n rfl rfl ?_
    refine g_getR rfl zf_M_13 rfl rfl ?_
    refine g_aload_n rfl rfl ?_
    refine g_getI rfl zf_M_88 rfl rfl rfl ?_
    refine g_iald rfl rfl (fun o2527 => ?_)
    refine g_aload_n rfl rfl ?_
    refine g_getR rfl zf_M_19 rfl rfl ?_
    refine g_aload_n rfl rfl ?_
    refine g_getI rfl zf_M_88 rfl rfl rfl ?_
    refine g_iald rfl rfl (fun o2526 => ?_)
    refine g_iast rfl rfl (fun o2525 => ?_)
    refine g_aload_n rfl rfl ?_
    refine g_dup rfl rfl ?_
    refine g_getIx (x := u.1 3905) rfl zf_M_88 rfl rfl rfl rfl ?_
    refine g_iconst (v := (1 : Int32)) rfl zic_1 ?_
    refine g_iadd rfl ?_
    refine g_put (j := 3905) rfl zf_M_88 rfl rfl zp_11_5.1 (Or.inl zp_11_5.2) rfl ?_
    refine g_aload_n rfl rfl ?_
    refine g_getIx (x := u.1 3904) rfl zf_M_91 rfl rfl rfl rfl ?_
    refine g_aload_n rfl rfl ?_
    refine g_getIx (x := ((u.1 3905) + (1 : Int32))) rfl zf_M_88 rfl rfl rfl rfl ?_
    refine g_isub rfl ?_
    exact g_iret rfl (Or.inl rfl) rfl
  · refine g_bipush (v := (-5 : Int32)) rfl zib_m5 ?_
    exact g_iret rfl (Or.inl rfl) rfl
theorem s_M_redo (G : ZG) (u : ZSt) (x : Int32 × ZSt) (hx : f_M_redo u = some x) : ZSpec G m_M_redo 1 [.ref 39] u (zemI x) :=
  ZSpec.go k_M_redo (Nat.le_of_ble_eq_true rfl) (w_M_redo G u) (tgt := zemI x) (by rw [hx]; rfl)
set_option maxRecDepth 100000 in
set_option maxHeartbeats 4000000 in
theorem w_Voters_isKind (G : ZG) (a : Int32) (u : ZSt) : ZGo G m_Voters_isKind 1 (f_Voters_isKind a) (zkP u) 0 [(0, .int a)] [] u := by
  unfold f_Voters_isKind
  refine g_iload_n rfl rfl ?_
  refine g_iflt rfl (fun c2528 => ?_) (fun c2528 => ?_)
  · refine g_iconst (v := (0 : Int32)) rfl zic_0 ?_
    exact g_iret rfl (Or.inr ⟨rfl, Or.inl rfl⟩) rfl
  · refine g_iload_n rfl rfl ?_
    refine g_bipush (v := (8 : Int32)) rfl zib_8 ?_
    refine g_icmpge rfl (fun c2529 => ?_) (fun c2529 => ?_)
    · refine g_iconst (v := (0 : Int32)) rfl zic_0 ?_
      exact g_iret rfl (Or.inr ⟨rfl, Or.inl rfl⟩) rfl
    · refine g_iconst (v := (1 : Int32)) rfl zic_1 ?_
      refine g_goto rfl ?_
      exact g_iret rfl (Or.inr ⟨rfl, Or.inr rfl⟩) rfl
theorem s_Voters_isKind (G : ZG) (a : Int32) (u : ZSt) (x : Int32) (hx : f_Voters_isKind a = some x) : ZSpec G m_Voters_isKind 1 [.int a] u ((zemP u) x) :=
  ZSpec.go k_Voters_isKind (Nat.le_of_ble_eq_true rfl) (w_Voters_isKind G a u) (tgt := (zemP u) x) (by rw [hx]; rfl)
set_option maxRecDepth 100000 in
set_option maxHeartbeats 4000000 in
theorem w_Voters_add (G : ZG) (a : Int32) (u : ZSt) : ZGo G m_Voters_add 1 (f_Voters_add a u) zkI 0 [(0, .ref 36), (1, .int a)] [] u := by
  unfold f_Voters_add
  refine g_aload_n rfl rfl ?_
  refine g_getI rfl zf_Voters_26 rfl rfl rfl ?_
  refine g_bipush (v := (50 : Int32)) rfl zib_50 ?_
  refine g_icmplt rfl (fun c2530 => ?_) (fun c2530 => ?_)
  · refine g_aload_n rfl rfl ?_
    refine g_getR rfl zf_Voters_11 rfl rfl ?_
    refine g_aload_n rfl rfl ?_
    refine g_getI rfl zf_Voters_26 rfl rfl rfl ?_
    refine g_iload_n rfl rfl ?_
    refine g_iast rfl rfl (fun o2531 => ?_)
    refine g_aload_n rfl rfl ?_
    refine g_dup rfl rfl ?_
    refine g_getIx (x := u.1 3602) rfl zf_Voters_26 rfl rfl rfl rfl ?_
    refine g_iconst (v := (1 : Int32)) rfl zic_1 ?_
    refine g_iadd rfl ?_
    refine g_put (j := 3602) rfl zf_Voters_26 rfl rfl zp_8_2.1 (Or.inl zp_8_2.2) rfl ?_
    refine g_aload_n rfl rfl ?_
    refine g_getIx (x := ((u.1 3602) + (1 : Int32))) rfl zf_Voters_26 rfl rfl rfl rfl ?_
    refine g_iconst (v := (1 : Int32)) rfl zic_1 ?_
    refine g_isub rfl ?_
    exact g_iret rfl (Or.inl rfl) rfl
  · refine g_bipush (v := (-3 : Int32)) rfl zib_m3 ?_
    exact g_iret rfl (Or.inl rfl) rfl
theorem s_Voters_add (G : ZG) (a : Int32) (u : ZSt) (x : Int32 × ZSt) (hx : f_Voters_add a u = some x) : ZSpec G m_Voters_add 1 [.ref 36, .int a] u (zemI x) :=
  ZSpec.go k_Voters_add (Nat.le_of_ble_eq_true rfl) (w_Voters_add G a u) (tgt := zemI x) (by rw [hx]; rfl)
set_option maxRecDepth 100000 in
set_option maxHeartbeats 4000000 in
theorem w_X_body (G : ZG) (a : Int32) (u : ZSt) : ZGo G m_X_body 2 (f_X_body a u) zkI 0 [(0, .ref 0), (1, .int a)] [] u := by
  unfold f_X_body
  refine g_iload_n rfl rfl ?_
  refine g_callSP (M' := m_Voters_isKind) (d' := 1) (as := [.int a]) (rest := []) rfl ml_X_293 v_Voters_isKind (by decide) rfl rfl (Nat.le_of_ble_eq_true rfl) (fun x_ e_ => s_Voters_isKind G a u x_ e_) (fun q2532 e2533 b2534 => ?_)
  refine g_ifeq rfl (fun c2535 => ?_) (fun c2535 => ?_)
  · refine g_iconst (v := (-1 : Int32)) rfl zic_m1 ?_
    exact g_iret rfl (Or.inl rfl) rfl
  · refine g_aload_n rfl rfl ?_
    refine g_getR rfl zf_X_83 rfl rfl ?_
    refine g_iload_n rfl rfl ?_
    refine g_callVI (M' := m_Voters_add) (d' := 1) (as := [.int a]) (rest := []) (ci := 8) (o := 36) rfl ml_X_296 v_Voters_add (by decide) rfl (by decide) rfl rfl rfl (Nat.le_of_ble_eq_true rfl) (fun x_ e_ => s_Voters_add G a u x_ e_) (fun q2536r q2536u e2537 b2538 => ?_)
    refine g_goto rfl ?_
    exact g_iret rfl (Or.inl rfl) rfl
theorem s_X_body (G : ZG) (a : Int32) (u : ZSt) (x : Int32 × ZSt) (hx : f_X_body a u = some x) : ZSpec G m_X_body 2 [.ref 0, .int a] u (zemI x) :=
  ZSpec.go k_X_body (Nat.le_of_ble_eq_true rfl) (w_X_body G a u) (tgt := zemI x) (by rw [hx]; rfl)
set_option maxRecDepth 100000 in
set_option maxHeartbeats 4000000 in
theorem w_M_body (G : ZG) (a : Int32) (u : ZSt) : ZGo G m_M_body 2 (f_M_body a u) zkI 0 [(0, .ref 39), (1, .int a)] [] u := by
  unfold f_M_body
  refine g_iload_n rfl rfl ?_
  refine g_i2l rfl ?_
  refine g_lconst (v := (0 : Int64)) rfl rfl ?_
  refine g_ldc2 rfl zk_M_281 ?_
  refine g_callSP (M' := m_M_within) (d' := 1) (as := [.long a.toInt64, .long (0 : Int64), .long (7 : Int64)]) (rest := []) rfl ml_M_97 v_M_within (by decide) rfl rfl (Nat.le_of_ble_eq_true rfl) (fun x_ e_ => s_M_within G a.toInt64 (0 : Int64) (7 : Int64) u x_ e_) (fun q2539 e2540 b2541 => ?_)
  refine g_ifne rfl (fun c2542 => ?_) (fun c2542 => ?_)
  · refine g_aload_n rfl rfl ?_
    refine g_getI rfl zf_M_278 rfl rfl rfl ?_
    refine g_bipush (v := (50 : Int32)) rfl zib_50 ?_
    refine g_icmpne rfl (fun c2543 => ?_) (fun c2543 => ?_)
    · refine g_aload_n rfl rfl ?_
      refine g_getR rfl zf_M_59 rfl rfl ?_
      refine g_aload_n rfl rfl ?_
      refine g_getI rfl zf_M_278 rfl rfl rfl ?_
      refine g_iload_n rfl rfl ?_
      refine g_iast rfl rfl (fun o2544 => ?_)
      refine g_aload_n rfl rfl ?_
      refine g_dup rfl rfl ?_
      refine g_getIx (x := u.1 3932) rfl zf_M_278 rfl rfl rfl rfl ?_
      refine g_iconst (v := (1 : Int32)) rfl zic_1 ?_
      refine g_iadd rfl ?_
      refine g_put (j := 3932) rfl zf_M_278 rfl rfl zp_11_32.1 (Or.inl zp_11_32.2) rfl ?_
      refine g_aload_n rfl rfl ?_
      refine g_getIx (x := ((u.1 3932) + (1 : Int32))) rfl zf_M_278 rfl rfl rfl rfl ?_
      refine g_iconst (v := (1 : Int32)) rfl zic_1 ?_
      refine g_isub rfl ?_
      exact g_iret rfl (Or.inl rfl) rfl
    · refine g_bipush (v := (-3 : Int32)) rfl zib_m3 ?_
      exact g_iret rfl (Or.inl rfl) rfl
  · refine g_iconst (v := (-1 : Int32)) rfl zic_m1 ?_
    exact g_iret rfl (Or.inl rfl) rfl
theorem s_M_body (G : ZG) (a : Int32) (u : ZSt) (x : Int32 × ZSt) (hx : f_M_body a u = some x) : ZSpec G m_M_body 2 [.ref 39, .int a] u (zemI x) :=
  ZSpec.go k_M_body (Nat.le_of_ble_eq_true rfl) (w_M_body G a u) (tgt := zemI x) (by rw [hx]; rfl)
set_option maxRecDepth 100000 in
set_option maxHeartbeats 4000000 in
theorem w_Voters_isVoter (G : ZG) (a : Int32) (u : ZSt) : ZGo G m_Voters_isVoter 1 (f_Voters_isVoter a u) (zkP u) 0 [(0, .ref 36), (1, .int a)] [] u := by
  unfold f_Voters_isVoter
  refine g_iload_n rfl rfl ?_
  refine g_iflt rfl (fun c2545 => ?_) (fun c2545 => ?_)
  · refine g_iconst (v := (0 : Int32)) rfl zic_0 ?_
    exact g_iret rfl (Or.inr ⟨rfl, Or.inl rfl⟩) rfl
  · refine g_iload_n rfl rfl ?_
    refine g_aload_n rfl rfl ?_
    refine g_getI rfl zf_Voters_26 rfl rfl rfl ?_
    refine g_icmpge rfl (fun c2546 => ?_) (fun c2546 => ?_)
    · refine g_iconst (v := (0 : Int32)) rfl zic_0 ?_
      exact g_iret rfl (Or.inr ⟨rfl, Or.inl rfl⟩) rfl
    · refine g_iconst (v := (1 : Int32)) rfl zic_1 ?_
      refine g_goto rfl ?_
      exact g_iret rfl (Or.inr ⟨rfl, Or.inr rfl⟩) rfl
theorem s_Voters_isVoter (G : ZG) (a : Int32) (u : ZSt) (x : Int32) (hx : f_Voters_isVoter a u = some x) : ZSpec G m_Voters_isVoter 1 [.ref 36, .int a] u ((zemP u) x) :=
  ZSpec.go k_Voters_isVoter (Nat.le_of_ble_eq_true rfl) (w_Voters_isVoter G a u) (tgt := (zemP u) x) (by rw [hx]; rfl)
set_option maxRecDepth 100000 in
set_option maxHeartbeats 4000000 in
theorem w_Voters_kindOf (G : ZG) (a : Int32) (u : ZSt) : ZGo G m_Voters_kindOf 2 (f_Voters_kindOf a u) (zkP u) 0 [(0, .ref 36), (1, .int a)] [] u := by
  unfold f_Voters_kindOf
  refine g_aload_n rfl rfl ?_
  refine g_iload_n rfl rfl ?_
  refine g_callVP (M' := m_Voters_isVoter) (d' := 1) (as := [.int a]) (rest := []) (ci := 8) (o := 36) rfl ml_Voters_30 v_Voters_isVoter (by decide) rfl (by decide) rfl rfl rfl (Nat.le_of_ble_eq_true rfl) (fun x_ e_ => s_Voters_isVoter G a u x_ e_) (fun q2547 e2548 b2549 => ?_)
  refine g_ifeq rfl (fun c2550 => ?_) (fun c2550 => ?_)
  · refine g_iconst (v := (-1 : Int32)) rfl zic_m1 ?_
    exact g_iret rfl (Or.inl rfl) rfl
  · refine g_aload_n rfl rfl ?_
    refine g_getR rfl zf_Voters_11 rfl rfl ?_
    refine g_iload_n rfl rfl ?_
    refine g_iald rfl rfl (fun o2551 => ?_)
    refine g_goto rfl ?_
    exact g_iret rfl (Or.inl rfl) rfl
theorem s_Voters_kindOf (G : ZG) (a : Int32) (u : ZSt) (x : Int32) (hx : f_Voters_kindOf a u = some x) : ZSpec G m_Voters_kindOf 2 [.ref 36, .int a] u ((zemP u) x) :=
  ZSpec.go k_Voters_kindOf (Nat.le_of_ble_eq_true rfl) (w_Voters_kindOf G a u) (tgt := (zemP u) x) (by rw [hx]; rfl)
set_option maxRecDepth 100000 in
set_option maxHeartbeats 4000000 in
theorem w_Voters_bodyAt (G : ZG) (a : Int32) (b : Int32) (u : ZSt) : ZGo G m_Voters_bodyAt 2 (f_Voters_bodyAt a b) (zkP u) 0 [(0, .int a), (1, .int b)] [] u := by
  unfold f_Voters_bodyAt
  refine g_iconst (v := (4 : Int32)) rfl zic_4 ?_
  refine g_iload_n rfl rfl ?_
  refine g_imul rfl ?_
  refine g_iload_n rfl rfl ?_
  refine g_iadd rfl ?_
  refine g_istore_n (lv' := [(0, .int a), (1, .int b), (2, .int (((4 : Int32) * a) + b))]) rfl (Nat.le_of_ble_eq_true rfl) rfl rfl ?_
  refine g_iload_n rfl rfl ?_
  refine g_callSP (M' := m_Voters_isKind) (d' := 1) (as := [.int a]) (rest := []) rfl ml_Voters_18 v_Voters_isKind (by decide) rfl rfl (Nat.le_of_ble_eq_true rfl) (fun x_ e_ => s_Voters_isKind G a u x_ e_) (fun q2552 e2553 b2554 => ?_)
  refine g_ifeq rfl (fun c2555 => ?_) (fun c2555 => ?_)
  · refine g_iconst (v := (-1 : Int32)) rfl zic_m1 ?_
    exact g_iret rfl (Or.inl rfl) rfl
  · refine g_iload_n rfl rfl ?_
    refine g_iflt rfl (fun c2556 => ?_) (fun c2556 => ?_)
    · refine g_iconst (v := (-1 : Int32)) rfl zic_m1 ?_
      exact g_iret rfl (Or.inl rfl) rfl
    · refine g_iload_n rfl rfl ?_
      refine g_getsB rfl zg_Voters_58 ?_
      refine g_slenB rfl ?_
      refine g_icmpge rfl (fun c2557 => ?_) (fun c2557 => ?_)
      · refine g_iconst (v := (-1 : Int32)) rfl zic_m1 ?_
        exact g_iret rfl (Or.inl rfl) rfl
      · refine g_getsB rfl zg_Voters_58 ?_
        refine g_iload_n rfl rfl ?_
        refine g_sldB rfl (fun o2558 => ?_)
        refine g_goto rfl ?_
        exact g_iret rfl (Or.inl rfl) rfl
theorem s_Voters_bodyAt (G : ZG) (a : Int32) (b : Int32) (u : ZSt) (x : Int32) (hx : f_Voters_bodyAt a b = some x) : ZSpec G m_Voters_bodyAt 2 [.int a, .int b] u ((zemP u) x) :=
  ZSpec.go k_Voters_bodyAt (Nat.le_of_ble_eq_true rfl) (w_Voters_bodyAt G a b u) (tgt := (zemP u) x) (by rw [hx]; rfl)
set_option maxRecDepth 100000 in
set_option maxHeartbeats 4000000 in
theorem w_Voters_aboveOf (G : ZG) (a : Int32) (u : ZSt) : ZGo G m_Voters_aboveOf 1 (f_Voters_aboveOf a) (zkP u) 0 [(0, .int a)] [] u := by
  unfold f_Voters_aboveOf
  refine g_iload_n rfl rfl ?_
  refine g_iflt rfl (fun c2559 => ?_) (fun c2559 => ?_)
  · refine g_iconst (v := (-1 : Int32)) rfl zic_m1 ?_
    exact g_iret rfl (Or.inl rfl) rfl
  · refine g_iload_n rfl rfl ?_
    refine g_getsA rfl zg_Voters_61 ?_
    refine g_slenA rfl ?_
    refine g_icmpge rfl (fun c2560 => ?_) (fun c2560 => ?_)
    · refine g_iconst (v := (-1 : Int32)) rfl zic_m1 ?_
      exact g_iret rfl (Or.inl rfl) rfl
    · refine g_getsA rfl zg_Voters_61 ?_
      refine g_iload_n rfl rfl ?_
      refine g_sldA rfl (fun o2561 => ?_)
      refine g_goto rfl ?_
      exact g_iret rfl (Or.inl rfl) rfl
theorem s_Voters_aboveOf (G : ZG) (a : Int32) (u : ZSt) (x : Int32) (hx : f_Voters_aboveOf a = some x) : ZSpec G m_Voters_aboveOf 1 [.int a] u ((zemP u) x) :=
  ZSpec.go k_Voters_aboveOf (Nat.le_of_ble_eq_true rfl) (w_Voters_aboveOf G a u) (tgt := (zemP u) x) (by rw [hx]; rfl)
set_option maxRecDepth 100000 in
set_option maxHeartbeats 4000000 in
theorem w_Voters_begin (G : ZG) (a : Int32) (u : ZSt) : ZGo G m_Voters_begin 1 (f_Voters_begin a u) zkV 0 [(0, .ref 36), (1, .int a)] [] u := by
  unfold f_Voters_begin
  refine g_aload_n rfl rfl ?_
  refine g_getI rfl zf_Voters_33 rfl rfl rfl ?_
  refine g_bipush (v := (24 : Int32)) rfl zib_24 ?_
  refine g_icmpge rfl (fun c2562 => ?_) (fun c2562 => ?_)
  · refine g_aload_n rfl rfl ?_
    refine g_dup rfl rfl ?_
    refine g_getI rfl zf_Voters_33 rfl rfl rfl ?_
    refine g_iconst (v := (1 : Int32)) rfl zic_1 ?_
    refine g_iadd rfl ?_
    refine g_put (j := 3603) rfl zf_Voters_33 rfl rfl zp_8_3.1 (Or.inl zp_8_3.2) rfl ?_
    exact g_vret rfl rfl rfl
  · refine g_aload_n rfl rfl ?_
    refine g_getR rfl zf_Voters_15 rfl rfl ?_
    refine g_aload_n rfl rfl ?_
    refine g_getI rfl zf_Voters_33 rfl rfl rfl ?_
    refine g_iload_n rfl rfl ?_
    refine g_iast rfl rfl (fun o2563 => ?_)
    refine g_aload_n rfl rfl ?_
    refine g_dup rfl rfl ?_
    refine g_getIx (x := u.1 3603) rfl zf_Voters_33 rfl rfl rfl rfl ?_
    refine g_iconst (v := (1 : Int32)) rfl zic_1 ?_
    refine g_iadd rfl ?_
    refine g_put (j := 3603) rfl zf_Voters_33 rfl rfl zp_8_3.1 (Or.inl zp_8_3.2) rfl ?_
    exact g_vret rfl rfl rfl
theorem s_Voters_begin (G : ZG) (a : Int32) (u : ZSt) (x : ZSt) (hx : f_Voters_begin a u = some x) : ZSpec G m_Voters_begin 1 [.ref 36, .int a] u (zemV x) :=
  ZSpec.go k_Voters_begin (Nat.le_of_ble_eq_true rfl) (w_Voters_begin G a u) (tgt := zemV x) (by rw [hx]; rfl)
set_option maxRecDepth 100000 in
set_option maxHeartbeats 4000000 in
theorem w_Voters_own (G : ZG) (rc : Nat → Int32 → Int32 → Int32 → Int32 → Int32 → ZSt → Option (Int32 × ZSt)) (d : Nat) (hd : 3 ≤ d) (h0 : ∀ (a : Int32) (b : Int32) (c : Int32) (e : Int32) (u : ZSt) x, rc 0 a b c e 0 u = some x → ZSpec G m_Voters_own d [.ref 36, .int a, .int b, .int c, .int e] u (zemI x)) (h1 : ∀ (a : Int32) (b : Int32) (c : Int32) (e : Int32) (f : Int32) (u : ZSt) x, rc 1 a b c e f u = some x → ZSpec G m_Voters_run d [.ref 36, .int a, .int b, .int c, .int e, .int f] u (zemI x)) (h2 : ∀ (a : Int32) (b : Int32) (c : Int32) (e : Int32) (f : Int32) (u : ZSt) x, rc 2 a b c e f u = some x → ZSpec G m_Voters_runFrom d [.ref 36, .int a, .int b, .int c, .int e, .int f] u (zemI x)) (a : Int32) (b : Int32) (c : Int32) (e : Int32) (u : ZSt) : ZGo G m_Voters_own (d + 1) (t_Voters_own rc a b c e u) zkI 0 [(0, .ref 36), (1, .int a), (2, .int b), (3, .int c), (4, .int e)] [] u := by
  unfold t_Voters_own
  refine g_aload_n rfl rfl ?_
  refine g_aload_n rfl rfl ?_
  refine g_iload_n rfl rfl ?_
  refine g_callVP (M' := m_Voters_kindOf) (d' := 2) (as := [.int a]) (rest := [.ref 36]) (ci := 8) (o := 36) rfl ml_Voters_40 v_Voters_kindOf (by omega) rfl (by decide) rfl rfl rfl (Nat.le_of_ble_eq_true rfl) (fun x_ e_ => s_Voters_kindOf G a u x_ e_) (fun q2564 e2565 b2566 => ?_)
  refine g_iload_n rfl rfl ?_
  refine g_iload_n rfl rfl ?_
  refine g_iload_n rfl rfl ?_
  refine g_iload rfl rfl ?_
  refine g_callVI (M' := m_Voters_runFrom) (d' := d) (as := [.int q2564, .int a, .int b, .int c, .int e]) (rest := []) (ci := 8) (o := 36) rfl ml_Voters_43 v_Voters_runFrom (by omega) rfl (by decide) rfl rfl rfl (Nat.le_of_ble_eq_true rfl) (fun x_ e_ => h2 q2564 a b c e u x_ e_) (fun q2567r q2567u e2568 b2569 => ?_)
  exact g_iret rfl (Or.inl rfl) rfl
set_option maxRecDepth 100000 in
set_option maxHeartbeats 4000000 in
theorem ts_Voters_own (G : ZG) (rc : Nat → Int32 → Int32 → Int32 → Int32 → Int32 → ZSt → Option (Int32 × ZSt)) (d : Nat) (hd : 3 ≤ d) (h0 : ∀ (a : Int32) (b : Int32) (c : Int32) (e : Int32) (u : ZSt) x, rc 0 a b c e 0 u = some x → ZSpec G m_Voters_own d [.ref 36, .int a, .int b, .int c, .int e] u (zemI x)) (h1 : ∀ (a : Int32) (b : Int32) (c : Int32) (e : Int32) (f : Int32) (u : ZSt) x, rc 1 a b c e f u = some x → ZSpec G m_Voters_run d [.ref 36, .int a, .int b, .int c, .int e, .int f] u (zemI x)) (h2 : ∀ (a : Int32) (b : Int32) (c : Int32) (e : Int32) (f : Int32) (u : ZSt) x, rc 2 a b c e f u = some x → ZSpec G m_Voters_runFrom d [.ref 36, .int a, .int b, .int c, .int e, .int f] u (zemI x)) (a : Int32) (b : Int32) (c : Int32) (e : Int32) (u : ZSt) (x : Int32 × ZSt) (hx : t_Voters_own rc a b c e u = some x) : ZSpec G m_Voters_own (d + 1) [.ref 36, .int a, .int b, .int c, .int e] u (zemI x) :=
  ZSpec.go k_Voters_own (Nat.le_of_ble_eq_true rfl) (w_Voters_own G rc d hd h0 h1 h2 a b c e u) (tgt := zemI x) (by rw [hx]; rfl)
set_option maxRecDepth 100000 in
set_option maxHeartbeats 4000000 in
theorem w_Voters_run (G : ZG) (rc : Nat → Int32 → Int32 → Int32 → Int32 → Int32 → ZSt → Option (Int32 × ZSt)) (d : Nat) (hd : 3 ≤ d) (h0 : ∀ (a : Int32) (b : Int32) (c : Int32) (e : Int32) (u : ZSt) x, rc 0 a b c e 0 u = some x → ZSpec G m_Voters_own d [.ref 36, .int a, .int b, .int c, .int e] u (zemI x)) (h1 : ∀ (a : Int32) (b : Int32) (c : Int32) (e : Int32) (f : Int32) (u : ZSt) x, rc 1 a b c e f u = some x → ZSpec G m_Voters_run d [.ref 36, .int a, .int b, .int c, .int e, .int f] u (zemI x)) (h2 : ∀ (a : Int32) (b : Int32) (c : Int32) (e : Int32) (f : Int32) (u : ZSt) x, rc 2 a b c e f u = some x → ZSpec G m_Voters_runFrom d [.ref 36, .int a, .int b, .int c, .int e, .int f] u (zemI x)) (a : Int32) (b : Int32) (c : Int32) (e : Int32) (f : Int32) (u : ZSt) : ZGo G m_Voters_run (d + 1) (t_Voters_run rc a b c e f u) zkI 0 [(0, .ref 36), (1, .int a), (2, .int b), (3, .int c), (4, .int e), (5, .int f)] [] u := by
  unfold t_Voters_run
  refine g_iload_n rfl rfl ?_
  refine zgo_ite (fun c2570 => ?_) (fun c2570 => ?_)
  · refine g_lswI rfl (by decide +kernel) c2570 (off := 115) (by decide +kernel) 2 rfl ?_
    refine g_iload rfl rfl ?_
    refine g_iload_n rfl rfl ?_
    refine g_iadd rfl ?_
    exact g_iret rfl (Or.inl rfl) rfl
  · refine zgo_ite (fun c2571 => ?_) (fun c2571 => ?_)
    · refine g_lswI rfl (by decide +kernel) c2571 (off := 120) (by decide +kernel) 6 rfl ?_
      refine g_aload_n rfl rfl ?_
      refine g_iload_n rfl rfl ?_
      refine g_iconst (v := (1 : Int32)) rfl zic_1 ?_
      refine g_iload rfl rfl ?_
      refine g_iload rfl rfl ?_
      refine g_callVI (M' := m_Voters_own) (d' := d) (as := [.int c, .int (1 : Int32), .int e, .int f]) (rest := []) (ci := 8) (o := 36) rfl ml_Voters_36 v_Voters_own (by omega) rfl (by decide) rfl rfl rfl (Nat.le_of_ble_eq_true rfl) (fun x_ e_ => h0 c (1 : Int32) e f u x_ e_) (fun q2572r q2572u e2573 b2574 => ?_)
      refine g_aload_n rfl rfl ?_
      refine g_iload_n rfl rfl ?_
      refine g_iconst (v := (2 : Int32)) rfl zic_2 ?_
      refine g_iconst (v := (1 : Int32)) rfl zic_1 ?_
      refine g_iload rfl rfl ?_
      refine g_callVI (M' := m_Voters_own) (d' := d) (as := [.int c, .int (2 : Int32), .int (1 : Int32), .int f]) (rest := [.int q2572r]) (ci := 8) (o := 36) rfl ml_Voters_36 v_Voters_own (by omega) rfl (by decide) rfl rfl rfl (Nat.le_of_ble_eq_true rfl) (fun x_ e_ => h0 c (2 : Int32) (1 : Int32) f q2572u x_ e_) (fun q2575r q2575u e2576 b2577 => ?_)
      refine g_isub rfl ?_
      exact g_iret rfl (Or.inl rfl) rfl
    · refine zgo_ite (fun c2578 => ?_) (fun c2578 => ?_)
      · refine g_lswI rfl (by decide +kernel) c2578 (off := 141) (by decide +kernel) 20 rfl ?_
        refine g_aload_n rfl rfl ?_
        refine g_iload_n rfl rfl ?_
        refine g_iconst (v := (0 : Int32)) rfl zic_0 ?_
        refine g_iload rfl rfl ?_
        refine g_iload rfl rfl ?_
        refine g_callVI (M' := m_Voters_own) (d' := d) (as := [.int c, .int (0 : Int32), .int e, .int f]) (rest := []) (ci := 8) (o := 36) rfl ml_Voters_36 v_Voters_own (by omega) rfl (by decide) rfl rfl rfl (Nat.le_of_ble_eq_true rfl) (fun x_ e_ => h0 c (0 : Int32) e f u x_ e_) (fun q2579r q2579u e2580 b2581 => ?_)
        refine g_iconst (v := (2 : Int32)) rfl zic_2 ?_
        refine g_imul rfl ?_
        exact g_iret rfl (Or.inl rfl) rfl
      · refine zgo_ite (fun c2582 => ?_) (fun c2582 => ?_)
        · refine g_lswI rfl (by decide +kernel) c2582 (off := 154) (by decide +kernel) 29 rfl ?_
          refine g_iload rfl rfl ?_
          refine g_iload_n rfl rfl ?_
          refine g_ixor rfl ?_
          exact g_iret rfl (Or.inl rfl) rfl
        · refine zgo_ite (fun c2583 => ?_) (fun c2583 => ?_)
          · refine g_lswI rfl (by decide +kernel) c2583 (off := 159) (by decide +kernel) 33 rfl ?_
            refine g_aload_n rfl rfl ?_
            refine g_iload_n rfl rfl ?_
            refine g_iload_n rfl rfl ?_
            refine g_iconst (v := (0 : Int32)) rfl zic_0 ?_
            refine g_iload rfl rfl ?_
            refine g_iload rfl rfl ?_
            refine g_callVI (M' := m_Voters_runFrom) (d' := d) (as := [.int b, .int c, .int (0 : Int32), .int e, .int f]) (rest := []) (ci := 8) (o := 36) rfl ml_Voters_43 v_Voters_runFrom (by omega) rfl (by decide) rfl rfl rfl (Nat.le_of_ble_eq_true rfl) (fun x_ e_ => h2 b c (0 : Int32) e f u x_ e_) (fun q2584r q2584u e2585 b2586 => ?_)
            refine g_iconst (v := (3 : Int32)) rfl zic_3 ?_
            refine g_iadd rfl ?_
            exact g_iret rfl (Or.inl rfl) rfl
          · refine zgo_ite (fun c2587 => ?_) (fun c2587 => ?_)
            · refine g_lswI rfl (by decide +kernel) c2587 (off := 173) (by decide +kernel) 43 rfl ?_
              refine g_aload_n rfl rfl ?_
              refine g_iload_n rfl rfl ?_
              refine g_iload_n rfl rfl ?_
              refine g_iconst (v := (1 : Int32)) rfl zic_1 ?_
              refine g_iload rfl rfl ?_
              refine g_iload rfl rfl ?_
              refine g_callVI (M' := m_Voters_runFrom) (d' := d) (as := [.int b, .int c, .int (1 : Int32), .int e, .int f]) (rest := []) (ci := 8) (o := 36) rfl ml_Voters_43 v_Voters_runFrom (by omega) rfl (by decide) rfl rfl rfl (Nat.le_of_ble_eq_true rfl) (fun x_ e_ => h2 b c (1 : Int32) e f u x_ e_) (fun q2588r q2588u e2589 b2590 => ?_)
              refine g_ineg rfl ?_
              exact g_iret rfl (Or.inl rfl) rfl
            · refine zgo_ite (fun c2591 => ?_) (fun c2591 => ?_)
              · refine g_lswI rfl (by decide +kernel) c2591 (off := 186) (by decide +kernel) 52 rfl ?_
                refine g_aload_n rfl rfl ?_
                refine g_iload_n rfl rfl ?_
                refine g_iload_n rfl rfl ?_
                refine g_iconst (v := (2 : Int32)) rfl zic_2 ?_
                refine g_iload rfl rfl ?_
                refine g_iload rfl rfl ?_
                refine g_callVI (M' := m_Voters_runFrom) (d' := d) (as := [.int b, .int c, .int (2 : Int32), .int e, .int f]) (rest := []) (ci := 8) (o := 36) rfl ml_Voters_43 v_Voters_runFrom (by omega) rfl (by decide) rfl rfl rfl (Nat.le_of_ble_eq_true rfl) (fun x_ e_ => h2 b c (2 : Int32) e f u x_ e_) (fun q2592r q2592u e2593 b2594 => ?_)
                refine g_iconst (v := (3 : Int32)) rfl zic_3 ?_
                refine g_imul rfl ?_
                exact g_iret rfl (Or.inl rfl) rfl
              · refine zgo_ite (fun c2595 => ?_) (fun c2595 => ?_)
                · refine g_lswI rfl (by decide +kernel) c2595 (off := 200) (by decide +kernel) 62 rfl ?_
                  refine g_aload_n rfl rfl ?_
                  refine g_iload_n rfl rfl ?_
                  refine g_iload_n rfl rfl ?_
                  refine g_iconst (v := (1 : Int32)) rfl zic_1 ?_
                  refine g_iload rfl rfl ?_
                  refine g_iconst (v := (1 : Int32)) rfl zic_1 ?_
                  refine g_iadd rfl ?_
                  refine g_iload rfl rfl ?_
                  refine g_callVI (M' := m_Voters_runFrom) (d' := d) (as := [.int b, .int c, .int (1 : Int32), .int (e + (1 : Int32)), .int f]) (rest := []) (ci := 8) (o := 36) rfl ml_Voters_43 v_Voters_runFrom (by omega) rfl (by decide) rfl rfl rfl (Nat.le_of_ble_eq_true rfl) (fun x_ e_ => h2 b c (1 : Int32) (e + (1 : Int32)) f u x_ e_) (fun q2596r q2596u e2597 b2598 => ?_)
                  exact g_iret rfl (Or.inl rfl) rfl
                · refine zgo_ite (fun c2599 => ?_) (fun c2599 => ?_)
                  · refine g_lswI rfl (by decide +kernel) c2599 (off := 214) (by decide +kernel) 72 rfl ?_
                    refine g_aload_n rfl rfl ?_
                    refine g_iload_n rfl rfl ?_
                    refine g_iload_n rfl rfl ?_
                    refine g_iconst (v := (2 : Int32)) rfl zic_2 ?_
                    refine g_iload rfl rfl ?_
                    refine g_iload rfl rfl ?_
                    refine g_callVI (M' := m_Voters_runFrom) (d' := d) (as := [.int b, .int c, .int (2 : Int32), .int e, .int f]) (rest := []) (ci := 8) (o := 36) rfl ml_Voters_43 v_Voters_runFrom (by omega) rfl (by decide) rfl rfl rfl (Nat.le_of_ble_eq_true rfl) (fun x_ e_ => h2 b c (2 : Int32) e f u x_ e_) (fun q2600r q2600u e2601 b2602 => ?_)
                    refine g_aload_n rfl rfl ?_
                    refine g_iload_n rfl rfl ?_
                    refine g_iconst (v := (0 : Int32)) rfl zic_0 ?_
                    refine g_iconst (v := (2 : Int32)) rfl zic_2 ?_
                    refine g_iload rfl rfl ?_
                    refine g_callVI (M' := m_Voters_own) (d' := d) (as := [.int c, .int (0 : Int32), .int (2 : Int32), .int f]) (rest := [.int q2600r]) (ci := 8) (o := 36) rfl ml_Voters_36 v_Voters_own (by omega) rfl (by decide) rfl rfl rfl (Nat.le_of_ble_eq_true rfl) (fun x_ e_ => h0 c (0 : Int32) (2 : Int32) f q2600u x_ e_) (fun q2603r q2603u e2604 b2605 => ?_)
                    refine g_isub rfl ?_
                    exact g_iret rfl (Or.inl rfl) rfl
                  · refine zgo_ite (fun c2606 => ?_) (fun c2606 => ?_)
                    · refine g_lswI rfl (by decide +kernel) c2606 (off := 236) (by decide +kernel) 87 rfl ?_
                      refine g_aload_n rfl rfl ?_
                      refine g_iload_n rfl rfl ?_
                      refine g_iload_n rfl rfl ?_
                      refine g_iconst (v := (3 : Int32)) rfl zic_3 ?_
                      refine g_iload rfl rfl ?_
                      refine g_iload rfl rfl ?_
                      refine g_callVI (M' := m_Voters_runFrom) (d' := d) (as := [.int b, .int c, .int (3 : Int32), .int e, .int f]) (rest := []) (ci := 8) (o := 36) rfl ml_Voters_43 v_Voters_runFrom (by omega) rfl (by decide) rfl rfl rfl (Nat.le_of_ble_eq_true rfl) (fun x_ e_ => h2 b c (3 : Int32) e f u x_ e_) (fun q2607r q2607u e2608 b2609 => ?_)
                      refine g_iconst (v := (5 : Int32)) rfl zic_5 ?_
                      refine g_ixor rfl ?_
                      exact g_iret rfl (Or.inl rfl) rfl
                    · refine zgo_ite (fun c2610 => ?_) (fun c2610 => ?_)
                      · refine g_lswI rfl (by decide +kernel) c2610 (off := 250) (by decide +kernel) 97 rfl ?_
                        refine g_aload_n rfl rfl ?_
                        refine g_iload_n rfl rfl ?_
                        refine g_iload_n rfl rfl ?_
                        refine g_iconst (v := (0 : Int32)) rfl zic_0 ?_
                        refine g_iload rfl rfl ?_
                        refine g_iload rfl rfl ?_
                        refine g_callVI (M' := m_Voters_runFrom) (d' := d) (as := [.int b, .int c, .int (0 : Int32), .int e, .int f]) (rest := []) (ci := 8) (o := 36) rfl ml_Voters_43 v_Voters_runFrom (by omega) rfl (by decide) rfl rfl rfl (Nat.le_of_ble_eq_true rfl) (fun x_ e_ => h2 b c (0 : Int32) e f u x_ e_) (fun q2611r q2611u e2612 b2613 => ?_)
                        refine g_iconst (v := (2 : Int32)) rfl zic_2 ?_
                        refine g_imul rfl ?_
                        exact g_iret rfl (Or.inl rfl) rfl
                      · refine zgo_ite (fun c2614 => ?_) (fun c2614 => ?_)
                        · refine g_lswI rfl (by decide +kernel) c2614 (off := 264) (by decide +kernel) 107 rfl ?_
                          refine g_aload_n rfl rfl ?_
                          refine g_iload_n rfl rfl ?_
                          refine g_iload_n rfl rfl ?_
                          refine g_iconst (v := (1 : Int32)) rfl zic_1 ?_
                          refine g_iload rfl rfl ?_
                          refine g_iload rfl rfl ?_
                          refine g_callVI (M' := m_Voters_runFrom) (d' := d) (as := [.int b, .int c, .int (1 : Int32), .int e, .int f]) (rest := []) (ci := 8) (o := 36) rfl ml_Voters_43 v_Voters_runFrom (by omega) rfl (by decide) rfl rfl rfl (Nat.le_of_ble_eq_true rfl) (fun x_ e_ => h2 b c (1 : Int32) e f u x_ e_) (fun q2615r q2615u e2616 b2617 => ?_)
                          refine g_aload_n rfl rfl ?_
                          refine g_iload_n rfl rfl ?_
                          refine g_iconst (v := (2 : Int32)) rfl zic_2 ?_
                          refine g_iconst (v := (2 : Int32)) rfl zic_2 ?_
                          refine g_iload rfl rfl ?_
                          refine g_callVI (M' := m_Voters_own) (d' := d) (as := [.int c, .int (2 : Int32), .int (2 : Int32), .int f]) (rest := [.int q2615r]) (ci := 8) (o := 36) rfl ml_Voters_36 v_Voters_own (by omega) rfl (by decide) rfl rfl rfl (Nat.le_of_ble_eq_true rfl) (fun x_ e_ => h0 c (2 : Int32) (2 : Int32) f q2615u x_ e_) (fun q2618r q2618u e2619 b2620 => ?_)
                          refine g_iadd rfl ?_
                          exact g_iret rfl (Or.inl rfl) rfl
                        · refine zgo_ite (fun c2621 => ?_) (fun c2621 => ?_)
                          · refine g_lswI rfl (by decide +kernel) c2621 (off := 286) (by decide +kernel) 122 rfl ?_
                            refine g_aload_n rfl rfl ?_
                            refine g_iload_n rfl rfl ?_
                            refine g_iload_n rfl rfl ?_
                            refine g_iconst (v := (3 : Int32)) rfl zic_3 ?_
                            refine g_iload rfl rfl ?_
                            refine g_iload rfl rfl ?_
                            refine g_callVI (M' := m_Voters_runFrom) (d' := d) (as := [.int b, .int c, .int (3 : Int32), .int e, .int f]) (rest := []) (ci := 8) (o := 36) rfl ml_Voters_43 v_Voters_runFrom (by omega) rfl (by decide) rfl rfl rfl (Nat.le_of_ble_eq_true rfl) (fun x_ e_ => h2 b c (3 : Int32) e f u x_ e_) (fun q2622r q2622u e2623 b2624 => ?_)
                            refine g_iconst (v := (1 : Int32)) rfl zic_1 ?_
                            refine g_isub rfl ?_
                            exact g_iret rfl (Or.inl rfl) rfl
                          · refine g_lswD rfl (by decide +kernel) (List.forall_mem_cons.mpr ⟨z_ne c2570 rfl, (List.forall_mem_cons.mpr ⟨z_ne c2571 rfl, (List.forall_mem_cons.mpr ⟨z_ne c2578 rfl, (List.forall_mem_cons.mpr ⟨z_ne c2582 rfl, (List.forall_mem_cons.mpr ⟨z_ne c2583 rfl, (List.forall_mem_cons.mpr ⟨z_ne c2587 rfl, (List.forall_mem_cons.mpr ⟨z_ne c2591 rfl, (List.forall_mem_cons.mpr ⟨z_ne c2595 rfl, (List.forall_mem_cons.mpr ⟨z_ne c2599 rfl, (List.forall_mem_cons.mpr ⟨z_ne c2606 rfl, (List.forall_mem_cons.mpr ⟨z_ne c2610 rfl, (List.forall_mem_cons.mpr ⟨z_ne c2614 rfl, (List.forall_mem_cons.mpr ⟨z_ne c2621 rfl, (fun _ h => absurd h List.not_mem_nil)⟩)⟩)⟩)⟩)⟩)⟩)⟩)⟩)⟩)⟩)⟩)⟩)⟩) 132 rfl ?_
                            refine g_iconst (v := (0 : Int32)) rfl zic_0 ?_
                            exact g_iret rfl (Or.inl rfl) rfl
