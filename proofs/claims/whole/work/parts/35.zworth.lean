/-! the class works the steps of THE LAW out -/
def zStk (u : ZSt) : List Int32 → Prop
  | [] => True
  | a :: s => u.2.1 18 s.length = a ∧ zStk u s
def zCd (u : ZSt) (c : List (Nat × Nat)) (nm : Nat → Int32) : Prop := u.1 1503 = nI c.length ∧ c.length ≤ 121 ∧ (∀ i x, c[i]? = some x → u.2.1 16 i = nI x.1 ∧ u.2.1 17 i = nI x.2) ∧ ∀ k, k < 6 → u.2.1 21 k = nm k
theorem zCd.fr {u v : ZSt} {c : List (Nat × Nat)} {nm : Nat → Int32} (h : zCd u c nm) (f : zfr [] [18] [] u v) : zCd v c nm := by
  obtain ⟨h1, h2, h3, h4⟩ := h
  exact ⟨(f.g 1503).trans h1, h2, by rw [f.ga 16, f.ga 17]; exact h3, by rw [f.ga 21]; exact h4⟩
theorem zStk.up {u : ZSt} {i : Nat} {x : Int32} : ∀ {s : List Int32}, zStk u s → s.length ≤ i → zStk (za u 18 i x) s := by
  intro s
  induction s with
  | nil => intro _ _; trivial
  | cons a s ih =>
    intro h hl
    rw [List.length_cons] at hl
    refine ⟨?_, ih h.2 (by omega)⟩
    show upd (u.2.1 18) i x s.length = a
    rw [upd1, if_neg (by omega)]
    exact h.1
theorem zStk.pu {u : ZSt} {x : Int32} {s : List Int32} (h : zStk u s) : zStk (za u 18 s.length x) (x :: s) :=
  ⟨by show upd (u.2.1 18) s.length x s.length = x; rw [upd1, if_pos rfl], h.up (Nat.le_refl _)⟩
theorem z_dm1 {d : Nat} (h : 1 ≤ d) : nI d + (-1) = nI (d - 1) := by
  rw [← Int32.sub_eq_add_neg]; exact pk_sub h
theorem z_dm2 {d : Nat} (h : 2 ≤ d) : nI d + (-2) = nI (d - 2) := by
  rw [← Int32.sub_eq_add_neg]; exact pk_sub h
theorem z_ds1 {d : Nat} (h : 1 ≤ d) : nI d - 1 = nI (d - 1) := pk_sub h
theorem x_join {a : Nat} (ha : a < 256) (b c : Int32) : f_Code_joined (nI a) b c = some (zbin a b c) := by
  have q : ∀ k, k < 256 → (nI a = nI k) = (a = k) := fun k hk => propext (nI_eq (by omega) (by omega))
  simp only [f_Code_joined, zbin, show (37 : Int32) = nI 37 from rfl, show (38 : Int32) = nI 38 from rfl, show (42 : Int32) = nI 42 from rfl, show (43 : Int32) = nI 43 from rfl, show (45 : Int32) = nI 45 from rfl, show (47 : Int32) = nI 47 from rfl, show (60 : Int32) = nI 60 from rfl, show (61 : Int32) = nI 61 from rfl, show (62 : Int32) = nI 62 from rfl, show (124 : Int32) = nI 124 from rfl,
    q 37 (by decide), q 38 (by decide), q 42 (by decide), q 43 (by decide), q 45 (by decide), q 47 (by decide), q 60 (by decide), q 61 (by decide), q 62 (by decide), q 124 (by decide), apply_ite (some : Int32 → Option Int32)]
/-- a step -/
theorem x_step {u : ZSt} {cd : List (Nat × Nat)} {nm : Nat → Int32} (hcd : zCd u cd nm) {i : Nat} {x : Nat × Nat} (hx : cd[i]? = some x) {s : List Int32} (hs : zStk u s) (hl : s.length < 128) (h1 : x.1 < 256) (h59 : x.1 ≠ 59) (h63 : x.1 ≠ 63) (h97 : x.1 = 97 → x.2 < 6) (hn : zneed x.1 ≤ s.length) :
    ∃ j y, b_Code_worthT_4 (nI s.length) (nI i) u = some (.inl (nI (zstep nm x s).length, nI (i + 1), za u 18 j y)) ∧ zStk (za u 18 j y) (zstep nm x s) ∧ (zstep nm x s).length = s.length + 1 - zneed x.1 := by
  obtain ⟨g1, g2, g3, g4⟩ := hcd
  have hi : i < cd.length := by
    rcases Nat.lt_or_ge i cd.length with q | q
    · exact q
    · rw [List.getElem?_eq_none q] at hx; cases hx
  obtain ⟨k16, k17⟩ := g3 i x hx
  have q : ∀ k, k < 256 → (u.2.1 16 i = nI k) = (x.1 = k) := fun k hk => by rw [k16]; exact propext (nI_eq (by omega) (by omega))
  have q48 : (u.2.1 16 i = 48) = (x.1 = 48) := q 48 (by decide)
  have q97 : (u.2.1 16 i = 97) = (x.1 = 97) := q 97 (by decide)
  have q59 : (u.2.1 16 i = 59) = (x.1 = 59) := q 59 (by decide)
  have q33 : (u.2.1 16 i = 33) = (x.1 = 33) := q 33 (by decide)
  have q126 : (u.2.1 16 i = 126) = (x.1 = 126) := q 126 (by decide)
  have q63 : (u.2.1 16 i = 63) = (x.1 = 63) := q 63 (by decide)
  have f1 : ¬ u.1 1503 ≤ nI i := by rw [g1, nI_leI (by omega) (by omega)]; omega
  have f2 : ¬ (128 : Int32) ≤ nI i := by rw [show (128 : Int32) = nI 128 from rfl, nI_leI (by decide) (by omega)]; omega
  have f3 : zin (nI i) 128 := zn_zin (by omega) (by decide)
  have f4 : (nI i).toNatClampNeg = i := zn_cl (by omega)
  have f5 : (nI s.length).toNatClampNeg = s.length := zn_cl (by omega)
  have f6 : nI s.length < 128 := by rw [show (128 : Int32) = nI 128 from rfl, nI_ltI (by omega) (by decide)]; exact hl
  have f7 : zin (nI s.length) 128 := zn_zin hl (by decide)
  by_cases e48 : x.1 = 48
  · have ez : zstep nm x s = nI x.2 :: s := by simp only [zstep, e48, if_true]
    have r48 : (u.2.1 16 i = 48) = True := eq_true (by rw [q48]; exact e48)
    have r97 : (u.2.1 16 i = 97) = False := eq_false (by rw [q97]; omega)
    have r59 : (u.2.1 16 i = 59) = False := eq_false (by rw [q59]; omega)
    have r33 : (u.2.1 16 i = 33) = False := eq_false (by rw [q33]; omega)
    have r126 : (u.2.1 16 i = 126) = False := eq_false (by rw [q126]; omega)
    have r63 : (u.2.1 16 i = 63) = False := eq_false (by rw [q63]; omega)
    have en : zneed x.1 = 0 := by simp [zneed, e48]
    refine ⟨s.length, nI x.2, ?_, by rw [ez]; exact hs.pu, by rw [ez, en]; rfl⟩
    rw [ez]
    simp only [b_Code_worthT_4, f1, f2, zif f3, f4, r48, r97, r59, r33, r126, r63, f6, zif f7, f5, if_true, if_false, k17, nI_1, List.length_cons]
  · by_cases e97 : x.1 = 97
    · have ez : zstep nm x s = nm x.2 :: s := by simp only [zstep, e97, if_true, show ¬ (97 : Nat) = 48 by decide, if_false]
      have r48 : (u.2.1 16 i = 48) = False := eq_false (by rw [q48]; omega)
      have r97 : (u.2.1 16 i = 97) = True := eq_true (by rw [q97]; exact e97)
      have r59 : (u.2.1 16 i = 59) = False := eq_false (by rw [q59]; omega)
      have r33 : (u.2.1 16 i = 33) = False := eq_false (by rw [q33]; omega)
      have r126 : (u.2.1 16 i = 126) = False := eq_false (by rw [q126]; omega)
      have r63 : (u.2.1 16 i = 63) = False := eq_false (by rw [q63]; omega)
      have en : zneed x.1 = 0 := by simp [zneed, e97]
      have hx2 := h97 e97
      have hnm : f_Code_named (nI x.2) u = some (nm x.2) := by
        have n1 : ¬ nI x.2 < 0 := nI_pos (by omega)
        have n2 : ¬ (6 : Int32) ≤ nI x.2 := by rw [show (6 : Int32) = nI 6 from rfl, nI_leI (by decide) (by omega)]; omega
        simp only [f_Code_named, n1, n2, if_false, zif (zn_zin hx2 (show 6 < 2 ^ 31 by decide)), zn_cl (show x.2 < 2 ^ 31 by omega), g4 _ hx2]
      refine ⟨s.length, nm x.2, ?_, by rw [ez]; exact hs.pu, by rw [ez, en]; rfl⟩
      rw [ez]
      simp only [b_Code_worthT_4, f1, f2, zif f3, f4, r48, r97, r59, r33, r126, r63, f6, zif f7, f5, if_true, if_false, k17, nI_1, List.length_cons, hnm, Option.bind_some]
    · by_cases e33 : x.1 = 33
      · have en : zneed x.1 = 1 := by simp [zneed, e33]
        rw [en] at hn
        cases s with
        | nil => simp at hn
        | cons a s =>
          have ez : zstep nm x (a :: s) = (if a = 0 then 1 else 0) :: s := by simp only [zstep, e33, if_true, show ¬ (33 : Nat) = 48 by decide, show ¬ (33 : Nat) = 97 by decide, if_false]
          obtain ⟨t1, t2⟩ := hs
          have r48 : (u.2.1 16 i = 48) = False := eq_false (by rw [q48]; omega)
          have r97 : (u.2.1 16 i = 97) = False := eq_false (by rw [q97]; omega)
          have r59 : (u.2.1 16 i = 59) = False := eq_false (by rw [q59]; omega)
          have r33 : (u.2.1 16 i = 33) = True := eq_true (by rw [q33]; exact e33)
          have r126 : (u.2.1 16 i = 126) = False := eq_false (by rw [q126]; omega)
          have r63 : (u.2.1 16 i = 63) = False := eq_false (by rw [q63]; omega)
          have en2 : f_Code_needOf (u.2.1 16 i) = some 1 := by simp only [f_Code_needOf, r48, r97, r59, r33, r126, r63, if_true, if_false]
          have l1 : (1 : Int32) ≤ nI (s.length + 1) := by rw [show (1 : Int32) = nI 1 from rfl, nI_leI (by decide) (by rw [List.length_cons] at hl; omega)]; omega
          rw [List.length_cons] at hl f5 f6 f7
          have d1 : nI (s.length + 1) - 1 = nI s.length := z_ds1 (by omega)
          have d2 : zin (nI s.length) 128 := zn_zin (by omega) (by decide)
          have d3 : (nI s.length).toNatClampNeg = s.length := zn_cl (by omega)
          refine ⟨s.length, if a = 0 then 1 else 0, ?_, by rw [ez]; exact t2.pu, by rw [ez, en]; rfl⟩
          rw [ez]
          simp only [b_Code_worthT_4, f1, f2, zif f3, f4, r48, r97, r59, r33, r126, r63, if_true, if_false, List.length_cons, en2, Option.bind_some, l1, d1, zif d2, d3, t1, nI_1]
          split <;> rfl
      · by_cases e126 : x.1 = 126
        · have en : zneed x.1 = 1 := by simp [zneed, e126]
          rw [en] at hn
          cases s with
          | nil => simp at hn
          | cons a s =>
            have ez : zstep nm x (a :: s) = (-a) :: s := by simp only [zstep, e126, if_true, show ¬ (126 : Nat) = 48 by decide, show ¬ (126 : Nat) = 97 by decide, show ¬ (126 : Nat) = 33 by decide, if_false]
            obtain ⟨t1, t2⟩ := hs
            have r48 : (u.2.1 16 i = 48) = False := eq_false (by rw [q48]; omega)
            have r97 : (u.2.1 16 i = 97) = False := eq_false (by rw [q97]; omega)
            have r59 : (u.2.1 16 i = 59) = False := eq_false (by rw [q59]; omega)
            have r33 : (u.2.1 16 i = 33) = False := eq_false (by rw [q33]; omega)
            have r126 : (u.2.1 16 i = 126) = True := eq_true (by rw [q126]; exact e126)
            have r63 : (u.2.1 16 i = 63) = False := eq_false (by rw [q63]; omega)
            have en2 : f_Code_needOf (u.2.1 16 i) = some 1 := by simp only [f_Code_needOf, r48, r97, r59, r33, r126, r63, if_true, if_false]
            have l1 : (1 : Int32) ≤ nI (s.length + 1) := by rw [show (1 : Int32) = nI 1 from rfl, nI_leI (by decide) (by rw [List.length_cons] at hl; omega)]; omega
            rw [List.length_cons] at hl f5 f6 f7
            have d1 : nI (s.length + 1) - 1 = nI s.length := z_ds1 (by omega)
            have d2 : zin (nI s.length) 128 := zn_zin (by omega) (by decide)
            have d3 : (nI s.length).toNatClampNeg = s.length := zn_cl (by omega)
            refine ⟨s.length, -a, ?_, by rw [ez]; exact t2.pu, by rw [ez, en]; rfl⟩
            rw [ez]
            simp only [b_Code_worthT_4, f1, f2, zif f3, f4, r48, r97, r59, r33, r126, r63, if_true, if_false, List.length_cons, en2, Option.bind_some, l1, d1, zif d2, d3, t1, nI_1]
        · have en : zneed x.1 = 2 := by unfold zneed; rw [if_neg (by omega), if_neg (by omega)]
          rw [en] at hn
          cases s with
          | nil => simp at hn
          | cons c s =>
            cases s with
            | nil => simp at hn
            | cons b s =>
              have ez : zstep nm x (c :: b :: s) = zbin x.1 b c :: s := by simp only [zstep, e48, e97, e33, e126, if_false]
              obtain ⟨t1, t2, t3⟩ := hs
              have r48 : (u.2.1 16 i = 48) = False := eq_false (by rw [q48]; omega)
              have r97 : (u.2.1 16 i = 97) = False := eq_false (by rw [q97]; omega)
              have r59 : (u.2.1 16 i = 59) = False := eq_false (by rw [q59]; omega)
              have r33 : (u.2.1 16 i = 33) = False := eq_false (by rw [q33]; omega)
              have r126 : (u.2.1 16 i = 126) = False := eq_false (by rw [q126]; omega)
              have r63 : (u.2.1 16 i = 63) = False := eq_false (by rw [q63]; omega)
              have en2 : f_Code_needOf (u.2.1 16 i) = some 2 := by simp only [f_Code_needOf, r48, r97, r59, r33, r126, r63, if_false]
              rw [List.length_cons, List.length_cons] at hl f5 f6 f7
              rw [List.length_cons] at t1
              have l1 : (2 : Int32) ≤ nI (s.length + 1 + 1) := by rw [show (2 : Int32) = nI 2 from rfl, nI_leI (by decide) (by omega)]; omega
              have d1 : nI (s.length + 1 + 1) + (-1) = nI (s.length + 1) := z_dm1 (by omega)
              have d0 : nI (s.length + 1) - 1 = nI s.length := z_ds1 (by omega)
              have d2 : zin (nI s.length) 128 := zn_zin (by omega) (by decide)
              have d3 : (nI s.length).toNatClampNeg = s.length := zn_cl (by omega)
              have d4 : zin (nI (s.length + 1)) 128 := zn_zin (by omega) (by decide)
              have d5 : (nI (s.length + 1)).toNatClampNeg = s.length + 1 := zn_cl (by omega)
              have hj := x_join h1 b c
              rw [← k16] at hj
              refine ⟨s.length, zbin x.1 b c, ?_, by rw [ez]; exact t3.pu, by rw [ez, en]; rfl⟩
              rw [ez]
              simp only [b_Code_worthT_4, f1, f2, zif f3, f4, r48, r97, r59, r33, r126, r63, if_true, if_false, List.length_cons, en2, Option.bind_some, l1, d1, d0, zif d2, d3, zif d4, d5, t1, t2, hj, nI_1]
/-- the steps of an expression -/
theorem x_steps {cd : List (Nat × Nat)} {nm : Nat → Int32} : ∀ (c rest : List (Nat × Nat)) (i : Nat) (s : List Int32) (e : Nat) (u : ZSt), zCd u cd nm → cd.drop i = c ++ rest → zStk u s → s.length ≤ i → zsf c s.length e →
    ∃ v, (∀ F, ziter (fun s : Int32 × Int32 × ZSt => b_Code_worthT_4 s.1 s.2.1 s.2.2) (F + c.length) (nI s.length, nI i, u) = ziter (fun s : Int32 × Int32 × ZSt => b_Code_worthT_4 s.1 s.2.1 s.2.2) F (nI (zrun nm c s).length, nI (i + c.length), v)) ∧ zStk v (zrun nm c s) ∧ (zrun nm c s).length = e ∧ (zrun nm c s).length ≤ i + c.length ∧ zfr [] [18] [] u v := by
  intro c
  induction c with
  | nil => intro rest i s e u hcd hd hs hl hz; exact ⟨u, fun F => rfl, hs, hz, hl, zfr_rf u⟩
  | cons x c ih =>
    intro rest i s e u hcd hd hs hl hz
    obtain ⟨h1, h59, h63, h97, hn, hz2⟩ := hz
    have hx : cd[i]? = some x := by
      have := congrArg (fun l => l[0]?) hd
      simpa using this
    have hi : i < cd.length := by
      rcases Nat.lt_or_ge i cd.length with q | q
      · exact q
      · rw [List.getElem?_eq_none q] at hx; cases hx
    have hd2 : cd.drop (i + 1) = c ++ rest := by
      rw [← List.drop_drop, hd]; rfl
    have hc := hcd.2.1
    obtain ⟨j, y, a1, a2, a3⟩ := x_step hcd hx hs (by omega) h1 h59 h63 h97 hn
    have fr : zfr [] [18] [] u (za u 18 j y) := (zfr_rf u).a _ (by decide)
    rw [← a3] at hz2
    obtain ⟨v, b1, b2, b3, b4, b5⟩ := ih rest (i + 1) (zstep nm x s) e (za u 18 j y) (hcd.fr fr) hd2 a2 (by omega) hz2
    refine ⟨v, fun F => ?_, b2, b3, ?_, fr.tr b5⟩
    · have e1 := b1 F
      rw [List.length_cons, show F + (c.length + 1) = (F + c.length) + 1 by omega, ziter_l (B := fun s : Int32 × Int32 × ZSt => b_Code_worthT_4 s.1 s.2.1 s.2.2) a1, e1]
      rw [show i + 1 + c.length = i + (c.length + 1) by omega]
      rfl
    · rw [List.length_cons]
      have : (zrun nm c (zstep nm x s)).length ≤ i + 1 + c.length := b4
      show (zrun nm c (zstep nm x s)).length ≤ _
      omega
noncomputable def zWr (F : Nat) (i : Nat) (u : ZSt) : Option (Int32 × ZSt) := (ziter (fun s : Int32 × Int32 × ZSt => b_Code_worthT_4 s.1 s.2.1 s.2.2) F (0, nI i, u)).bind (Sum.elim (fun s => a_Code_worthT_4 s.2.2) (fun r => some r))
theorem z_at {cd r : List (Nat × Nat)} {x : Nat × Nat} {i : Nat} (h : cd.drop i = x :: r) : cd[i]? = some x ∧ i < cd.length ∧ cd.drop (i + 1) = r := by
  have hx : cd[i]? = some x := by
    have := congrArg (fun l => l[0]?) h
    simpa using this
  refine ⟨hx, ?_, by rw [← List.drop_drop, h]; rfl⟩
  rcases Nat.lt_or_ge i cd.length with q | q
  · exact q
  · rw [List.getElem?_eq_none q] at hx; cases hx
theorem x_line2 {cd : List (Nat × Nat)} {nm : Nat → Int32} {t : Nat → Nat} {p p1 : Nat} {c rest : List (Nat × Nat)} (h : zLn t p (.inr (p1, c))) {i F : Nat} {u : ZSt} (hcd : zCd u cd nm) (hd : cd.drop i = c ++ rest) :
    ∃ v, zfr [] [18] [] u v ∧ (zWr (F + c.length) i u = some (zwrt nm (c ++ rest) [], v) ∨ (zwrt nm (c ++ rest) [] = zwrt nm rest [] ∧ zWr (F + c.length) i u = zWr F (i + c.length) v)) := by
  rcases h with ⟨q, h0, h⟩ | ⟨p1, c1, h0, h, h63⟩ | ⟨p1, c1, q, h0, h, h63, h2⟩ | ⟨p1, p2, c1, d, h0, h, h63, h2⟩
  · cases h0
  · cases h0
    rw [List.append_assoc] at hd
    obtain ⟨v, b1, b2, b3, b4, b5⟩ := x_steps c1 ([(59, 0)] ++ rest) i [] 1 u hcd hd trivial (Nat.zero_le _) (zG_sf h 0)
    have hcv := hcd.fr b5
    obtain ⟨z1, z2, z3⟩ := z_at (show cd.drop (i + c1.length) = (59, 0) :: rest by rw [← List.drop_drop, hd, List.drop_left]; rfl)
    have hc := hcd.2.1
    generalize hs : zrun nm c1 [] = s at b1 b2 b3 b4
    cases s with
    | nil => simp at b3
    | cons a s =>
      have : s = [] := by simpa using b3
      subst this
      refine ⟨v, b5, Or.inl ?_⟩
      have k16 := (hcv.2.2.1 _ _ z1).1
      have k0 : v.2.1 18 0 = a := b2.1
      have e1 := b1 (F + 1)
      have f1 : ¬ v.1 1503 ≤ nI (i + c1.length) := by rw [hcv.1, nI_leI (by omega) (by omega)]; omega
      have f2 : ¬ (128 : Int32) ≤ nI (i + c1.length) := by rw [show (128 : Int32) = nI 128 from rfl, nI_leI (by decide) (by omega)]; omega
      have f3 : zin (nI (i + c1.length)) 128 := zn_zin (by omega) (by decide)
      have f4 : (nI (i + c1.length)).toNatClampNeg = i + c1.length := zn_cl (by omega)
      have k16' : v.2.1 16 (i + c1.length) = 59 := k16
      have key : b_Code_worthT_4 (nI 1) (nI (i + c1.length)) v = some (.inr (.inr (a, v))) := by
        simp only [b_Code_worthT_4, f1, f2, zif f3, f4, if_true, if_false, k16', show ¬ (59 : Int32) = 48 by decide, show ¬ (59 : Int32) = 97 by decide, f_Code_needOf, Option.bind_some, show (1 : Int32) ≤ nI 1 by decide, show nI 1 - (1 : Int32) = nI 0 from rfl, zif (zn_zin (show 0 < 128 by decide) (show 128 < 2 ^ 31 by decide)), show (nI 0).toNatClampNeg = 0 from rfl, k0]
      have ew : zwrt nm (c1 ++ [(59, 0)] ++ rest) [] = a := by
        rw [List.append_assoc, zwrt_run nm (zG_sf h 0), hs]; rfl
      rw [ew]
      have e2 : ziter (fun s : Int32 × Int32 × ZSt => b_Code_worthT_4 s.1 s.2.1 s.2.2) (F + 1 + c1.length) (nI 0, nI i, u) = some (.inr (a, v)) := e1.trans (ziter_r key)
      show (ziter (fun s : Int32 × Int32 × ZSt => b_Code_worthT_4 s.1 s.2.1 s.2.2) (F + (c1 ++ [(59, 0)]).length) (nI 0, nI i, u)).bind _ = _
      rw [List.length_append, show F + (c1.length + [((59 : Nat), (0 : Nat))].length) = F + 1 + c1.length by simp only [List.length_cons, List.length_nil]; omega, e2]
      rfl
  · cases h0
  · cases h0
    rw [List.append_assoc, List.append_assoc] at hd
    have hsf : zsf (c1 ++ d) 0 2 := zsf_app (zG_sf h 0) (zG_sf h2 1)
    obtain ⟨v, b1, b2, b3, b4, b5⟩ := x_steps (c1 ++ d) ([(63, 0)] ++ rest) i [] 2 u hcd (by rw [List.append_assoc]; exact hd) trivial (Nat.zero_le _) hsf
    have hcv := hcd.fr b5
    obtain ⟨z1, z2, z3⟩ := z_at (show cd.drop (i + (c1 ++ d).length) = (63, 0) :: rest by rw [← List.drop_drop, hd, ← List.append_assoc, List.drop_left]; rfl)
    have hc := hcd.2.1
    have ew : zwrt nm (c1 ++ d ++ [(63, 0)] ++ rest) [] = zwrt nm ((63, 0) :: rest) (zrun nm (c1 ++ d) []) := by
      rw [List.append_assoc, zwrt_run nm hsf]; rfl
    generalize hs : zrun nm (c1 ++ d) [] = s at b1 b2 b3 b4 ew
    cases s with
    | nil => simp at b3
    | cons b s =>
      cases s with
      | nil => simp at b3
      | cons a s =>
        have : s = [] := by simpa using b3
        subst this
        have ew2 : zwrt nm (c1 ++ d ++ [(63, 0)] ++ rest) [] = if a = 0 then zwrt nm rest [] else b := ew
        have k16 := (hcv.2.2.1 _ _ z1).1
        have k1 : v.2.1 18 1 = b := b2.1
        have k0 : v.2.1 18 0 = a := b2.2.1
        have e1 := b1 (F + 1)
        have f1 : ¬ v.1 1503 ≤ nI (i + (c1 ++ d).length) := by rw [hcv.1, nI_leI (by omega) (by omega)]; omega
        have f2 : ¬ (128 : Int32) ≤ nI (i + (c1 ++ d).length) := by rw [show (128 : Int32) = nI 128 from rfl, nI_leI (by decide) (by omega)]; omega
        have f3 : zin (nI (i + (c1 ++ d).length)) 128 := zn_zin (by omega) (by decide)
        have f4 : (nI (i + (c1 ++ d).length)).toNatClampNeg = i + (c1 ++ d).length := zn_cl (by omega)
        have k16' : v.2.1 16 (i + (c1 ++ d).length) = 63 := k16
        have el : F + (c1 ++ d ++ [((63 : Nat), (0 : Nat))]).length = F + 1 + (c1 ++ d).length := by simp only [List.length_append, List.length_cons, List.length_nil]; omega
        refine ⟨v, b5, ?_⟩
        by_cases ha : a = 0
        · right
          refine ⟨by rw [ew2, if_pos ha], ?_⟩
          have key : b_Code_worthT_4 (nI 2) (nI (i + (c1 ++ d).length)) v = some (.inl (nI 0, nI (i + (c1 ++ d).length + 1), v)) := by
            simp only [b_Code_worthT_4, f1, f2, zif f3, f4, if_true, if_false, k16', show ¬ (63 : Int32) = 48 by decide, show ¬ (63 : Int32) = 97 by decide, show ¬ (63 : Int32) = 59 by decide, show ¬ (63 : Int32) = 33 by decide, show ¬ (63 : Int32) = 126 by decide, f_Code_needOf, Option.bind_some, show (2 : Int32) ≤ nI 2 by decide, show nI 2 + (-2 : Int32) = nI 0 from rfl, zif (zn_zin (show 0 < 128 by decide) (show 128 < 2 ^ 31 by decide)), show (nI 0).toNatClampNeg = 0 from rfl, k0, ha, nI_1]
          have e2 : ziter (fun s : Int32 × Int32 × ZSt => b_Code_worthT_4 s.1 s.2.1 s.2.2) (F + 1 + (c1 ++ d).length) (nI 0, nI i, u) = ziter (fun s : Int32 × Int32 × ZSt => b_Code_worthT_4 s.1 s.2.1 s.2.2) F (nI 0, nI (i + (c1 ++ d).length + 1), v) := e1.trans (ziter_l key)
          show (ziter (fun s : Int32 × Int32 × ZSt => b_Code_worthT_4 s.1 s.2.1 s.2.2) (F + (c1 ++ d ++ [(63, 0)]).length) (nI 0, nI i, u)).bind _ = (ziter (fun s : Int32 × Int32 × ZSt => b_Code_worthT_4 s.1 s.2.1 s.2.2) F (nI 0, nI (i + (c1 ++ d ++ [(63, 0)]).length), v)).bind _
          rw [el, e2, show i + (c1 ++ d ++ [((63 : Nat), (0 : Nat))]).length = i + (c1 ++ d).length + 1 by simp only [List.length_append, List.length_cons, List.length_nil]; omega]
        · left
          rw [ew2, if_neg ha]
          have key : b_Code_worthT_4 (nI 2) (nI (i + (c1 ++ d).length)) v = some (.inr (.inr (b, v))) := by
            simp only [b_Code_worthT_4, f1, f2, zif f3, f4, if_true, if_false, k16', show ¬ (63 : Int32) = 48 by decide, show ¬ (63 : Int32) = 97 by decide, show ¬ (63 : Int32) = 59 by decide, show ¬ (63 : Int32) = 33 by decide, show ¬ (63 : Int32) = 126 by decide, f_Code_needOf, Option.bind_some, show (2 : Int32) ≤ nI 2 by decide, show nI 2 + (-2 : Int32) = nI 0 from rfl, zif (zn_zin (show 0 < 128 by decide) (show 128 < 2 ^ 31 by decide)), show (nI 0).toNatClampNeg = 0 from rfl, k0, ha, show nI 0 + (1 : Int32) = nI 1 from rfl, zif (zn_zin (show 1 < 128 by decide) (show 128 < 2 ^ 31 by decide)), show (nI 1).toNatClampNeg = 1 from rfl, k1]
          have e2 : ziter (fun s : Int32 × Int32 × ZSt => b_Code_worthT_4 s.1 s.2.1 s.2.2) (F + 1 + (c1 ++ d).length) (nI 0, nI i, u) = some (.inr (b, v)) := e1.trans (ziter_r key)
          show (ziter (fun s : Int32 × Int32 × ZSt => b_Code_worthT_4 s.1 s.2.1 s.2.2) (F + (c1 ++ d ++ [(63, 0)]).length) (nI 0, nI i, u)).bind _ = _
          rw [el, e2]
          rfl
def zWt (cd : List (Nat × Nat)) (nm : Nat → Int32) : zRes → Prop
  | .inl _ => True
  | .inr (_, c) => ∀ i F u, zCd u cd nm → cd.drop i = c → ∃ v, zWr (F + 1 + c.length) i u = some (zwrt nm c [], v) ∧ zfr [] [18] [] u v
theorem x_text {cd : List (Nat × Nat)} {nm : Nat → Int32} {t : Nat → Nat} {n p : Nat} {r : zRes} (h : zTx t n p r) : zWt cd nm r := by
  refine h (fun p r => zWt cd nm r) ⟨?_, ?_, ?_, ?_⟩
  · exact fun p f _ => trivial
  · intro p c h i F u hcd hd
    obtain ⟨v, v1, v2⟩ := x_line2 (F := F + 1) (rest := []) h hcd (by rw [List.append_nil]; exact hd)
    rw [List.append_nil] at v2
    rcases v2 with v2 | ⟨v2, v3⟩
    · exact ⟨v, v2, v1⟩
    · refine ⟨v, ?_, v1⟩
      have hcv := hcd.fr v1
      have hl : i + c.length = cd.length ∨ cd.length ≤ i := by
        have := congrArg List.length hd
        rw [List.length_drop] at this
        omega
      have hc := hcd.2.1
      have hle : cd.length ≤ i + c.length := by omega
      have hcl : c.length ≤ cd.length := by rw [← hd, List.length_drop]; omega
      rw [v3, v2]
      rcases hl with hl | hl
      · have f1 : v.1 1503 ≤ nI (i + c.length) := by rw [hcv.1, nI_leI (by omega) (by omega)]; omega
        show (ziter (fun s : Int32 × Int32 × ZSt => b_Code_worthT_4 s.1 s.2.1 s.2.2) (F + 1) (0, nI (i + c.length), v)).bind _ = _
        rw [ziter_r (r := .inl (0, nI (i + c.length), v)) (by simp only [b_Code_worthT_4, f1, if_true])]
        rfl
      · exfalso
        have e : c = [] := by rw [← hd]; exact List.drop_eq_nil_of_le hl
        rcases h with ⟨q, h0, h⟩ | ⟨p1, c1, h0, h, h63⟩ | ⟨p1, c1, q, h0, h, h63, h2⟩ | ⟨p1, p2, c1, d, h0, h, h63, h2⟩
        · cases h0
        · cases h0; simp at e
        · cases h0
        · cases h0; simp at e
  · exact fun p p1 c _ _ _ => trivial
  · intro p p1 c r h _ ih
    cases r with
    | inl f => trivial
    | inr x =>
      obtain ⟨q, c2⟩ := x
      intro i F u hcd hd
      obtain ⟨v, v1, v2⟩ := x_line2 (F := F + 1 + c2.length) (rest := c2) h hcd hd
      rw [List.length_append, show F + 1 + (c.length + c2.length) = F + 1 + c2.length + c.length by omega]
      rcases v2 with v2 | ⟨v2, v3⟩
      · exact ⟨v, v2, v1⟩
      · obtain ⟨w, w1, w2⟩ := ih (i + c.length) F v (hcd.fr v1) (by rw [← List.drop_drop, hd, List.drop_left])
        exact ⟨w, by rw [v3, v2]; exact w1, v1.tr w2⟩
theorem x_worth {cd : List (Nat × Nat)} {nm : Nat → Int32} {t : Nat → Nat} {n q : Nat} (h : zTx t n 0 (.inr (q, cd))) {u : ZSt} (hcd : zCd u cd nm) : ∃ v, f_Code_worthT u = some (zwrt nm cd [], v) ∧ zfr [] [18] [] u v := by
  have hc := hcd.2.1
  obtain ⟨v, v1, v2⟩ := x_text h (cd := cd) (nm := nm) 0 (1048576 - 1 - cd.length) u hcd rfl
  refine ⟨v, ?_, v2⟩
  rw [show 1048576 - 1 - cd.length + 1 + cd.length = zfu by rw [zfu_eq]; omega] at v1
  exact v1
