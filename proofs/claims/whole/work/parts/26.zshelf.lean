/-! shelves -/
theorem zif {α : Type} {i : Int32} {n : Nat} (h : zin i n) (x y : α) : (if zin i n then x else y) = x := if_pos h
def zsh (u : ZSt) (B d : Nat) : Prop :=
  (u.2.1 28 d = -1 ∧ u.2.1 58 d = -1) ∨
  (∃ w, w < B ∧ w < 50 ∧ u.2.1 28 d = nI 5 ∧ u.2.1 30 d = nI w ∧ u.2.1 58 d = nI w) ∨
  (∃ s n, s < 5 ∧ n ≤ 60 ∧ u.2.1 28 d = nI s ∧ u.2.1 58 d = nI (50 + s) ∧ u.2.1 29 d = nI n ∧ u.2.1 59 d = nI n ∧ ∀ i, i < n → u.2.2 31 (60 * d + i) = u.2.2 60 (60 * d + i) ∧ (s = 0 → -128 ≤ (u.2.2 31 (60 * d + i)).toInt ∧ (u.2.2 31 (60 * d + i)).toInt ≤ 127))
def zR11 (u : ZSt) (B : Nat) : Prop := ∀ d, d < 6 → zsh u B d
theorem zsh.of {u v : ZSt} {B B' d : Nat} (h : zsh u B d) (hB : B ≤ B') (hd : d < 6) (h28 : v.2.1 28 d = u.2.1 28 d) (h29 : v.2.1 29 d = u.2.1 29 d) (h30 : v.2.1 30 d = u.2.1 30 d) (h58 : v.2.1 58 d = u.2.1 58 d) (h59 : v.2.1 59 d = u.2.1 59 d) (h31 : ∀ i, i < 60 → v.2.2 31 (60 * d + i) = u.2.2 31 (60 * d + i)) (h60 : ∀ i, i < 60 → v.2.2 60 (60 * d + i) = u.2.2 60 (60 * d + i)) : zsh v B' d := by
  rcases h with h | ⟨w, h1, h2, h3, h4, h5⟩ | ⟨s, n, h1, h2, h3, h4, h5, h6, h7⟩
  · exact Or.inl ⟨h28.trans h.1, h58.trans h.2⟩
  · exact Or.inr (Or.inl ⟨w, by omega, h2, h28.trans h3, h30.trans h4, h58.trans h5⟩)
  · refine Or.inr (Or.inr ⟨s, n, h1, h2, h28.trans h3, h58.trans h4, h29.trans h5, h59.trans h6, fun i hi => ?_⟩)
    rw [h31 i (by omega), h60 i (by omega)]
    exact h7 i hi
theorem x_isShelf (a : Int32) : f_Shelves_isShelf a = some (if 0 ≤ a.toInt ∧ a.toInt < 6 then 1 else 0) := by
  simp only [f_Shelves_isShelf, fa_lt, fa_le, show (0 : Int32).toInt = 0 from rfl, show (6 : Int32).toInt = 6 from rfl]
  by_cases h1 : a.toInt < 0
  · have : ¬ 0 ≤ a.toInt := by omega
    simp [h1, this]
  · by_cases h2 : 6 ≤ a.toInt
    · have : ¬ a.toInt < 6 := by omega
      simp [h1, h2, this]
    · have h3 : a.toInt < 6 := by omega
      have h4 : 0 ≤ a.toInt := by omega
      simp [h1, h2, h3, h4]
theorem m_isShelf (a : Int32) : f_M_isShelf a = some (if 0 ≤ a.toInt ∧ a.toInt < 6 then 1 else 0) := by
  rw [f_M_isShelf, z_within, Int32.toInt_toInt64]
  have e : ((0 : Int64).toInt ≤ a.toInt ∧ a.toInt ≤ (5 : Int64).toInt) ↔ (0 ≤ a.toInt ∧ a.toInt < 6) := by
    rw [show (0 : Int64).toInt = 0 from rfl, show (5 : Int64).toInt = 5 from rfl]; omega
  simp only [e, Option.bind_some]
theorem x_isSort (a : Int32) : f_Shelves_isSort a = some (if 0 ≤ a.toInt ∧ a.toInt ≤ 4 then 1 else 0) := by
  simp only [f_Shelves_isSort, fa_lt, show (0 : Int32).toInt = 0 from rfl, show (4 : Int32).toInt = 4 from rfl]
  by_cases h1 : a.toInt < 0
  · have : ¬ 0 ≤ a.toInt := by omega
    simp [h1, this]
  · by_cases h2 : 4 < a.toInt
    · have : ¬ a.toInt ≤ 4 := by omega
      simp [h1, h2, this]
    · have h3 : a.toInt ≤ 4 := by omega
      have h4 : 0 ≤ a.toInt := by omega
      simp [h1, h2, h3, h4]
theorem z_sh6 {a : Int32} (h : 0 ≤ a.toInt ∧ a.toInt < 6) : ∃ d, d < 6 ∧ a = nI d := z_pos (n := 6) h
theorem z_m1i {n : Nat} (h : n < 2 ^ 31) : ¬ nI n = -1 := by
  rw [fa_eq, nI_toInt h]
  have : (-1 : Int32).toInt = -1 := by decide
  omega
theorem o_keep {u : ZSt} {B : Nat} (h : zR11 u B) (h10 : zR10 u B) (a b : Int32) : ∃ r u1 u2, f_X_keep a b u = some (r, u1) ∧ f_M_keep a b u1 = some (r, u2) ∧ zR11 u2 B ∧ zfr [] [28, 29, 30, 58, 59] [] u u2 := by
  obtain ⟨hB, q1, q2, -⟩ := h10
  by_cases ha : 0 ≤ a.toInt ∧ a.toInt < 6
  · obtain ⟨d, hd, rfl⟩ := z_sh6 ha
    have hz : zin (nI d) 6 := zn_zin hd (by decide)
    have hcl : (nI d).toNatClampNeg = d := zn_cl (by omega)
    have fin : ∀ (x : Int32) (y : Int32), (x = -1 ∧ y = -1 ∨ ∃ w, w < B ∧ x = 5 ∧ y = nI w) → zR11 (za (za (za (za (za u 28 d x) 30 d y) 29 d 0) 58 d y) 59 d 0) B ∧ zfr [] [28, 29, 30, 58, 59] [] u (za (za (za (za (za u 28 d x) 30 d y) 29 d 0) 58 d y) 59 d 0) := by
      intro x y hxy
      refine ⟨fun e he => ?_, (((((zfr_rf u).a _ (by decide)).a _ (by decide)).a _ (by decide)).a _ (by decide)).a _ (by decide)⟩
      by_cases hed : e = d
      · subst hed
        rcases hxy with ⟨rfl, rfl⟩ | ⟨w, hw, rfl, rfl⟩
        · left; simp [zs1, zs2, za1, za2, za3, zl1, zl2, zl3, zc1, zc2, zc3, zd1, zd2, zd3, upd1]
        · right; left
          exact ⟨w, hw, by omega, by simp [zs1, zs2, za1, za2, za3, zl1, zl2, zl3, zc1, zc2, zc3, zd1, zd2, zd3, upd1]; rfl, by simp [zs1, zs2, za1, za2, za3, zl1, zl2, zl3, zc1, zc2, zc3, zd1, zd2, zd3, upd1], by simp [zs1, zs2, za1, za2, za3, zl1, zl2, zl3, zc1, zc2, zc3, zd1, zd2, zd3, upd1]⟩
      · exact (h e he).of (Nat.le_refl _) he (by simp [zs1, zs2, za1, za2, za3, zl1, zl2, zl3, zc1, zc2, zc3, zd1, zd2, zd3, upd1, hed]) (by simp [zs1, zs2, za1, za2, za3, zl1, zl2, zl3, zc1, zc2, zc3, zd1, zd2, zd3, upd1, hed]) (by simp [zs1, zs2, za1, za2, za3, zl1, zl2, zl3, zc1, zc2, zc3, zd1, zd2, zd3, upd1, hed]) (by simp [zs1, zs2, za1, za2, za3, zl1, zl2, zl3, zc1, zc2, zc3, zd1, zd2, zd3, upd1, hed]) (by simp [zs1, zs2, za1, za2, za3, zl1, zl2, zl3, zc1, zc2, zc3, zd1, zd2, zd3, upd1, hed]) (fun _ _ => rfl) (fun _ _ => rfl)
    by_cases hb : b = -1
    · subst hb
      obtain ⟨g1, g2⟩ := fin (-1) (-1) (Or.inl ⟨rfl, rfl⟩)
      refine ⟨1, za (za (za u 28 d (-1)) 30 d (-1)) 29 d 0, _, ?_, ?_, g1, g2⟩
      · simp only [f_X_keep, x_isShelf, ha, and_self, if_true, Option.bind_some, show ¬ (1 : Int32) = 0 by decide, if_false, f_Shelves_holdVoter, show ¬ (0 : Int32) ≤ -1 by decide, zif hz, hcl]
      · simp only [f_M_keep, m_isShelf, ha, and_self, if_true, Option.bind_some, show ¬ (1 : Int32) = 0 by decide, if_false, zif hz, hcl]
    · by_cases hb2 : 0 ≤ b.toInt ∧ b.toInt < B
      · obtain ⟨w, hw, rfl⟩ := z_pos hb2
        have h0 : (0 : Int32) ≤ nI w := by rw [show (0 : Int32) = nI 0 from rfl, nI_leI (by decide) (by omega)]; omega
        obtain ⟨g1, g2⟩ := fin 5 (nI w) (Or.inr ⟨w, hw, rfl, rfl⟩)
        refine ⟨1, za (za (za u 28 d 5) 30 d (nI w)) 29 d 0, _, ?_, ?_, g1, g2⟩
        · simp only [f_X_keep, x_isShelf, ha, and_self, if_true, Option.bind_some, show ¬ (1 : Int32) = 0 by decide, if_false, f_Shelves_holdVoter, x_isVoter hB q1, hb2, hb, h0, zif hz, hcl]
        · simp only [f_M_keep, m_isShelf, m_isBody hB (show (za (za (za u 28 d 5) 30 d (nI w)) 29 d 0).1 3932 = nI B from q2), ha, hb2, hb, and_self, if_true, Option.bind_some, show ¬ (1 : Int32) = 0 by decide, if_false, zif hz, hcl]
      · refine ⟨-1, u, u, ?_, ?_, h, zfr_rf u⟩
        · simp only [f_X_keep, x_isShelf, ha, and_self, if_true, Option.bind_some, show ¬ (1 : Int32) = 0 by decide, if_false, x_isVoter hB q1, hb2, hb]
        · simp only [f_M_keep, m_isShelf, m_isBody hB q2, ha, hb2, hb, and_self, if_true, Option.bind_some, show ¬ (1 : Int32) = 0 by decide, if_false]
  · refine ⟨-1, u, u, ?_, ?_, h, zfr_rf u⟩
    · simp only [f_X_keep, x_isShelf, ha, if_false, Option.bind_some, if_true]
    · simp only [f_M_keep, m_isShelf, ha, if_false, Option.bind_some, if_true]
/-- zeros from 60 d on, n of them -/
theorem m_fill {B : Int32 → ZSt → Option ((Int32 × ZSt) ⊕ (Int32 × ZSt))} {q d n : Nat} (o : Nat) (hd : d < 6) (hn : n ≤ 60)
    (hB : ∀ k, k < n → ∀ v : ZSt, B (nI (o + k)) v = some (.inl (nI (o + (k + 1)), zl v q (60 * d + k) 0))) (hE : ∀ v : ZSt, B (nI (o + n)) v = some (.inr (nI (o + n), v))) (u : ZSt) :
    ∃ v, ziter (fun s => B s.1 s.2) zfu (nI o, u) = some (nI (o + n), v) ∧ (∀ j, v.2.2 q j = if 60 * d ≤ j ∧ j < 60 * d + n then 0 else u.2.2 q j) ∧ zfr [] [] [q] u v := by
  obtain ⟨s, h1, h2⟩ := zit (B := fun s : Int32 × ZSt => B s.1 s.2) n (fun k s => s.1 = nI (o + k) ∧ (∀ j, s.2.2.2 q j = if 60 * d ≤ j ∧ j < 60 * d + k then 0 else u.2.2 q j) ∧ zfr [] [] [q] u s.2)
    (fun s => s.1 = nI (o + n) ∧ (∀ j, s.2.2.2 q j = if 60 * d ≤ j ∧ j < 60 * d + n then 0 else u.2.2 q j) ∧ zfr [] [] [q] u s.2) (by omega) (by
      rintro k ⟨i, v⟩ hk ⟨g1, g2, g3⟩
      dsimp only at g1 g2 g3 ⊢
      subst g1
      by_cases hk2 : k < n
      · left
        refine ⟨_, hB k hk2 v, hk2, rfl, fun j => ?_, g3.l _ (by simp)⟩
        simp only [zl3, if_true, updL1]
        by_cases e : j = 60 * d + k
        · subst e
          rw [if_pos rfl, if_pos (by omega)]
        · rw [if_neg e, g2 j]
          by_cases e2 : 60 * d ≤ j ∧ j < 60 * d + k
          · rw [if_pos e2, if_pos (by omega)]
          · rw [if_neg e2, if_neg (by omega)]
      · right
        have e1 : k = n := by omega
        subst e1
        exact ⟨_, hE v, rfl, g2, g3⟩) (s := (nI o, u)) ⟨rfl, fun j => by rw [if_neg (by omega)], zfr_rf u⟩
  obtain ⟨i, v⟩ := s
  obtain ⟨g1, g2, g3⟩ := h2
  dsimp only at g1 g2 g3
  subst g1
  exact ⟨v, h1, g2, g3⟩
theorem o_row {u : ZSt} {B : Nat} (h : zR11 u B) (a b c : Int32) : ∃ r u1 u2, f_X_row a b c u = some (r, u1) ∧ f_M_row a b c u1 = some (r, u2) ∧ zR11 u2 B ∧ zfr [] [28, 29, 58, 59] [31, 60] u u2 := by
  have k4 : ∀ b : Int32, ((0 : Int64).toInt ≤ b.toInt ∧ b.toInt ≤ (4 : Int64).toInt) = (0 ≤ b.toInt ∧ b.toInt ≤ 4) := fun b => rfl
  by_cases ha : 0 ≤ a.toInt ∧ a.toInt < 6
  · by_cases hb : 0 ≤ b.toInt ∧ b.toInt ≤ 4
    · by_cases hc : c ≤ 60
      · by_cases hc0 : 0 ≤ c
        · obtain ⟨d, hd, rfl⟩ := z_sh6 ha
          obtain ⟨s, hs, rfl⟩ := z_le99 (n := 4) hb
          have hc' : 0 ≤ c.toInt ∧ c.toInt ≤ 60 := by
            rw [fa_le, show (60 : Int32).toInt = 60 from rfl] at hc
            rw [fa_le, show (0 : Int32).toInt = 0 from rfl] at hc0
            exact ⟨hc0, hc⟩
          obtain ⟨n, hn, rfl⟩ := z_le99 (n := 60) hc'
          have hz : zin (nI d) 6 := zn_zin hd (by decide)
          have hcl : (nI d).toNatClampNeg = d := zn_cl (by omega)
          obtain ⟨v, v1, v2, v3⟩ := m_fill (B := b_Shelves_holdRow_21 (nI d) (nI n)) (q := 31) 0 hd hn (fun k hk v => by
            rw [Nat.zero_add, Nat.zero_add]
            have e1 : ¬ n ≤ k := by omega
            have e2 : 60 * d + k < 360 := by omega
            simp only [b_Shelves_holdRow_21]
            simp (disch := omega) [fa_lit, nI_ltI, nI_leI, nI_eq, nI_add, pk_sub, zn_cl, zn_zin, pk_mul, e1, e2]) (fun v => by
            rw [Nat.zero_add]
            simp only [b_Shelves_holdRow_21]
            simp (disch := omega) [fa_lit, nI_ltI, nI_leI, nI_eq, nI_add, pk_sub, zn_cl, zn_zin]) (za (za u 28 d (nI s)) 29 d (nI n))
          have xr : f_X_row (nI d) (nI s) (nI n) u = some (1, v) := by
            have n1 : ¬ nI n < 0 := by rw [z_pm, nI_toInt (by omega)]; omega
            have n2 : ¬ 60 < nI n := by rw [fa_lt, nI_toInt (by omega), show (60 : Int32).toInt = 60 from rfl]; omega
            rw [show nI 0 = (0 : Int32) from rfl] at v1
            simp only [f_X_row, x_isShelf, x_isSort, ha, hb, and_self, if_true, Option.bind_some, show ¬ (1 : Int32) = 0 by decide, if_false, hc, hc0, f_Shelves_holdRow, n1, n2, zif hz, hcl, v1, a_Shelves_holdRow_21]
          obtain ⟨w, w1, w2, w3⟩ := m_fill (B := b_M_row_34 (nI d)) (q := 60) (60 * d) hd (Nat.le_refl 60) (fun k hk v => by
            have e1 : ¬ 60 * d + 60 ≤ 60 * d + k := by omega
            have e2 : 60 * d + k < 360 := by omega
            simp only [b_M_row_34]
            simp (disch := omega) [fa_lit, nI_ltI, nI_leI, nI_eq, nI_add, pk_sub, zn_cl, zn_zin, pk_mul, e1, e2]
            omega) (fun v => by
            simp only [b_M_row_34]
            simp (disch := omega) [fa_lit, nI_ltI, nI_leI, nI_eq, nI_add, pk_sub, zn_cl, zn_zin, pk_mul]) (za (za v 58 d (nI (50 + s))) 59 d (nI n))
          refine ⟨1, v, w, xr, ?_, fun e he => ?_, ?_⟩
          · rw [show nI (60 * d) = (60 : Int32) * nI d from (pk_mul 60 d).symm] at w1
            simp only [f_M_row, m_isShelf, z_within, Int32.toInt_toInt64, k4, ha, hb, and_self, if_true, Option.bind_some, show ¬ (1 : Int32) = 0 by decide, if_false, hc, hc0, zif hz, hcl]
            rw [show (50 : Int32) + nI s = nI (50 + s) from nI_add 50 s, w1]
            rfl
          · by_cases hed : e = d
            · subst hed
              refine Or.inr (Or.inr ⟨s, n, by omega, hn, ?_, ?_, ?_, ?_, fun i hi => ?_⟩)
              · rw [w3.ga 28]; simp only [zs1, zs2, za1, za2, za3, zl1, zl2, zl3, zc1, zc2, zc3, zd1, zd2, zd3]; rw [if_neg (by decide), if_neg (by decide), v3.ga 28]; simp [zs1, zs2, za1, za2, za3, zl1, zl2, zl3, zc1, zc2, zc3, zd1, zd2, zd3, upd1]
              · rw [w3.ga 58]; simp [zs1, zs2, za1, za2, za3, zl1, zl2, zl3, zc1, zc2, zc3, zd1, zd2, zd3, upd1]
              · rw [w3.ga 29]; simp only [zs1, zs2, za1, za2, za3, zl1, zl2, zl3, zc1, zc2, zc3, zd1, zd2, zd3]; rw [if_neg (by decide), if_neg (by decide), v3.ga 29]; simp [zs1, zs2, za1, za2, za3, zl1, zl2, zl3, zc1, zc2, zc3, zd1, zd2, zd3, upd1]
              · rw [w3.ga 59]; simp [zs1, zs2, za1, za2, za3, zl1, zl2, zl3, zc1, zc2, zc3, zd1, zd2, zd3, upd1]
              · have e1 : w.2.2 31 (60 * e + i) = 0 := by
                  rw [w3.gl 31]
                  show v.2.2 31 _ = 0
                  rw [v2, if_pos (by omega)]
                rw [e1, w2, if_pos (by omega)]
                exact ⟨rfl, fun _ => by decide⟩
            · refine (h e he).of (Nat.le_refl _) he ?_ ?_ ?_ ?_ ?_ (fun i hi => ?_) (fun i hi => ?_)
              · rw [w3.ga 28]; simp only [zs1, zs2, za1, za2, za3, zl1, zl2, zl3, zc1, zc2, zc3, zd1, zd2, zd3]; rw [if_neg (by decide), if_neg (by decide), v3.ga 28]; simp [zs1, zs2, za1, za2, za3, zl1, zl2, zl3, zc1, zc2, zc3, zd1, zd2, zd3, upd1, hed]
              · rw [w3.ga 29]; simp only [zs1, zs2, za1, za2, za3, zl1, zl2, zl3, zc1, zc2, zc3, zd1, zd2, zd3]; rw [if_neg (by decide), if_neg (by decide), v3.ga 29]; simp [zs1, zs2, za1, za2, za3, zl1, zl2, zl3, zc1, zc2, zc3, zd1, zd2, zd3, upd1, hed]
              · rw [w3.ga 30]; simp only [zs1, zs2, za1, za2, za3, zl1, zl2, zl3, zc1, zc2, zc3, zd1, zd2, zd3]; rw [if_neg (by decide), if_neg (by decide), v3.ga 30]; simp [zs1, zs2, za1, za2, za3, zl1, zl2, zl3, zc1, zc2, zc3, zd1, zd2, zd3]
              · have e58 : v.2.1 58 = u.2.1 58 := v3.ga 58
                rw [w3.ga 58]; simp [zs1, zs2, za1, za2, za3, zl1, zl2, zl3, zc1, zc2, zc3, zd1, zd2, zd3, upd1, hed, e58]
              · have e59 : v.2.1 59 = u.2.1 59 := v3.ga 59
                rw [w3.ga 59]; simp [zs1, zs2, za1, za2, za3, zl1, zl2, zl3, zc1, zc2, zc3, zd1, zd2, zd3, upd1, hed, e59]
              · rw [w3.gl 31]
                show v.2.2 31 _ = _
                rw [v2, if_neg (by omega)]
                rfl
              · rw [w2, if_neg (by omega)]
                show v.2.2 60 _ = _
                rw [v3.gl 60]
                rfl
          · refine zfr.tr ?_ (w3.mono (by decide) (by decide) (by decide))
            exact (((((zfr_rf u).a _ (by decide)).a _ (by decide)).tr (v3.mono (by decide) (by decide) (by decide))).a _ (by decide)).a _ (by decide)
        · refine ⟨-14, u, u, ?_, ?_, h, zfr_rf u⟩
          · simp only [f_X_row, x_isShelf, x_isSort, ha, hb, and_self, if_true, Option.bind_some, show ¬ (1 : Int32) = 0 by decide, if_false, hc, hc0]
          · simp only [f_M_row, m_isShelf, z_within, Int32.toInt_toInt64, k4, ha, hb, and_self, if_true, Option.bind_some, show ¬ (1 : Int32) = 0 by decide, if_false, hc, hc0]
      · refine ⟨-1, u, u, ?_, ?_, h, zfr_rf u⟩
        · simp only [f_X_row, x_isShelf, x_isSort, ha, hb, and_self, if_true, Option.bind_some, show ¬ (1 : Int32) = 0 by decide, if_false, hc]
        · simp only [f_M_row, m_isShelf, z_within, Int32.toInt_toInt64, k4, ha, hb, and_self, if_true, Option.bind_some, show ¬ (1 : Int32) = 0 by decide, if_false, hc]
    · refine ⟨-1, u, u, ?_, ?_, h, zfr_rf u⟩
      · simp only [f_X_row, x_isShelf, x_isSort, ha, hb, and_self, if_true, Option.bind_some, show ¬ (1 : Int32) = 0 by decide, if_false]
      · simp only [f_M_row, m_isShelf, z_within, Int32.toInt_toInt64, k4, ha, hb, and_self, if_true, Option.bind_some, show ¬ (1 : Int32) = 0 by decide, if_false]
  · refine ⟨-1, u, u, ?_, ?_, h, zfr_rf u⟩
    · simp only [f_X_row, x_isShelf, ha, if_false, Option.bind_some, if_true]
    · simp only [f_M_row, m_isShelf, ha, if_false, Option.bind_some, if_true]

/-! an element: what refuses it -/
theorem x_hasPlace {u : ZSt} {d : Nat} (hd : d < 6) {n : Nat} (hn : n ≤ 60) (h : u.2.1 29 d = nI n) (b : Int32) : f_Shelves_hasPlace (nI d) b u = some (if 0 ≤ b.toInt ∧ b.toInt < n then 1 else 0) := by
  have hz : zin (nI d) 6 := zn_zin hd (by decide)
  have n1 : ¬ nI d < 0 := by rw [z_pm, nI_toInt (by omega)]; omega
  have n2 : ¬ 6 ≤ nI d := by rw [fa_le, nI_toInt (by omega), show (6 : Int32).toInt = 6 from rfl]; omega
  simp only [f_Shelves_hasPlace, n1, n2, if_false, zif hz, zn_cl (show d < 2 ^ 31 by omega), h, z_pm, fa_le, nI_toInt (show n < 2 ^ 31 by omega)]
  by_cases h1 : b.toInt < 0
  · rw [if_pos h1, if_neg (by omega)]
  · rw [if_neg h1]
    by_cases h2 : (n : Int) ≤ b.toInt
    · rw [if_pos h2, if_neg (by omega)]
    · rw [if_neg h2, if_pos (by omega)]
/-- refusedAt and refusal: the same; 0 only at a place of a row -/
theorem z_refused {u : ZSt} {B : Nat} (h : zR11 u B) (a b : Int32) : ∃ q, f_Shelves_refusedAt a b u = some q ∧ (∀ v : ZSt, v.2.1 58 = u.2.1 58 → v.2.1 59 = u.2.1 59 → f_M_refusal a b v = some q) ∧
    (q = 0 → ∃ d s n i, d < 6 ∧ s < 5 ∧ n ≤ 60 ∧ i < n ∧ a = nI d ∧ b = nI i ∧ u.2.1 28 d = nI s ∧ u.2.1 58 d = nI (50 + s) ∧ u.2.1 29 d = nI n ∧ u.2.1 59 d = nI n ∧ ∀ i, i < n → u.2.2 31 (60 * d + i) = u.2.2 60 (60 * d + i) ∧ (s = 0 → -128 ≤ (u.2.2 31 (60 * d + i)).toInt ∧ (u.2.2 31 (60 * d + i)).toInt ≤ 127)) := by
  by_cases ha : 0 ≤ a.toInt ∧ a.toInt < 6
  · obtain ⟨d, hd, rfl⟩ := z_sh6 ha
    have hz : zin (nI d) 6 := zn_zin hd (by decide)
    have hcl : (nI d).toNatClampNeg = d := zn_cl (by omega)
    rcases h d hd with ⟨h1, h2⟩ | ⟨w, h1, h2, h3, h4, h5⟩ | ⟨s, n, h1, h2, h3, h4, h5, h6, h7⟩
    · refine ⟨-11, ?_, fun v v1 v2 => ?_, fun h => absurd h (by decide)⟩
      · simp only [f_Shelves_refusedAt, x_isShelf, ha, and_self, if_true, Option.bind_some, show ¬ (1 : Int32) = 0 by decide, if_false, zif hz, hcl, h1]
      · simp only [f_M_refusal, m_isShelf, ha, and_self, if_true, Option.bind_some, show ¬ (1 : Int32) = 0 by decide, if_false, zif hz, hcl, v1, h2, show ¬ (0 : Int32) ≤ -1 by decide]
    · refine ⟨-12, ?_, fun v v1 v2 => ?_, fun h => absurd h (by decide)⟩
      · simp only [f_Shelves_refusedAt, x_isShelf, x_isSort, ha, and_self, if_true, Option.bind_some, show ¬ (1 : Int32) = 0 by decide, if_false, zif hz, hcl, h3, show ¬ nI 5 = -1 by decide, show ¬ (0 ≤ (nI 5).toInt ∧ (nI 5).toInt ≤ 4) by decide]
      · have e1 : (0 : Int32) ≤ nI w := by rw [show (0 : Int32) = nI 0 from rfl, nI_leI (by decide) (by omega)]; omega
        have e2 : ¬ (50 : Int32) ≤ nI w := by rw [show (50 : Int32) = nI 50 from rfl, nI_leI (by decide) (by omega)]; omega
        simp only [f_M_refusal, m_isShelf, ha, and_self, if_true, Option.bind_some, show ¬ (1 : Int32) = 0 by decide, if_false, zif hz, hcl, v1, h5, e1, e2]
    · have e1 : (0 : Int32) ≤ nI (50 + s) := by rw [show (0 : Int32) = nI 0 from rfl, nI_leI (by decide) (by omega)]; omega
      have e2 : (50 : Int32) ≤ nI (50 + s) := by rw [show (50 : Int32) = nI 50 from rfl, nI_leI (by decide) (by omega)]; omega
      have e3 : 0 ≤ (nI s).toInt ∧ (nI s).toInt ≤ 4 := by rw [nI_toInt (by omega)]; omega
      have e4 : ¬ nI s = -1 := z_m1i (by omega)
      by_cases hb : 0 ≤ b.toInt ∧ b.toInt < n
      · obtain ⟨i, hi, rfl⟩ := z_pos hb
        refine ⟨0, ?_, fun v v1 v2 => ?_, fun _ => ⟨d, s, n, i, hd, h1, h2, hi, rfl, rfl, h3, h4, h5, h6, h7⟩⟩
        · simp only [f_Shelves_refusedAt, x_isShelf, x_isSort, x_hasPlace hd h2 h5, ha, hb, e3, e4, and_self, if_true, Option.bind_some, show ¬ (1 : Int32) = 0 by decide, if_false, zif hz, hcl, h3]
        · have f1 : ¬ nI i < 0 := by rw [z_pm, nI_toInt (by omega)]; omega
          have f2 : ¬ nI n ≤ nI i := by rw [nI_leI (by omega) (by omega)]; omega
          simp only [f_M_refusal, m_isShelf, ha, and_self, if_true, Option.bind_some, show ¬ (1 : Int32) = 0 by decide, if_false, zif hz, hcl, v1, v2, h4, h6, e1, e2, f1, f2]
      · refine ⟨-13, ?_, fun v v1 v2 => ?_, fun h => absurd h (by decide)⟩
        · simp only [f_Shelves_refusedAt, x_isShelf, x_isSort, x_hasPlace hd h2 h5, ha, hb, e3, e4, and_self, if_true, Option.bind_some, show ¬ (1 : Int32) = 0 by decide, if_false, zif hz, hcl, h3]
        · simp only [f_M_refusal, m_isShelf, ha, and_self, if_true, Option.bind_some, show ¬ (1 : Int32) = 0 by decide, if_false, zif hz, hcl, v1, v2, h4, h6, e1, e2]
          by_cases g1 : b < 0
          · rw [if_pos g1]
          · rw [if_neg g1, if_pos]
            rw [fa_le, nI_toInt (by omega)]
            rw [z_pm] at g1
            omega
  · refine ⟨-1, ?_, fun v _ _ => ?_, fun h => absurd h (by decide)⟩
    · simp only [f_Shelves_refusedAt, x_isShelf, ha, if_false, Option.bind_some, if_true]
    · simp only [f_M_refusal, m_isShelf, ha, if_false, Option.bind_some, if_true]
theorem o_element {u : ZSt} {B : Nat} (h : zR11 u B) (a b : Int32) : ∃ r, f_X_element a b u = some r ∧ f_M_element a b u = some r := by
  obtain ⟨q, q1, q2, q3⟩ := z_refused h a b
  by_cases hq : q = 0
  · obtain ⟨d, s, n, i, hd, hs, hn, hi, rfl, rfl, h1, h2, h3, h4, h5⟩ := q3 hq
    subst hq
    have e : (60 : Int32) * nI d + nI i = nI (60 * d + i) := by rw [show (60 : Int32) * nI d = nI (60 * d) from pk_mul 60 d, nI_add]
    have hb : 0 ≤ (nI i).toInt ∧ (nI i).toInt < n := by rw [nI_toInt (by omega)]; omega
    refine ⟨u.2.2 60 (60 * d + i), ?_, ?_⟩
    · simp only [f_X_element, q1, Option.bind_some, if_true, f_Shelves_valueAt, x_hasPlace hd hn h3, hb, and_self, show ¬ (1 : Int32) = 0 by decide, if_false, e, zif (zn_zin (show 60 * d + i < 360 by omega) (by decide)), zn_cl (show 60 * d + i < 2 ^ 31 by omega), (h5 i hi).1]
    · simp only [f_M_element, q2 u rfl rfl, Option.bind_some, if_true, e, zif (zn_zin (show 60 * d + i < 360 by omega) (by decide)), zn_cl (show 60 * d + i < 2 ^ 31 by omega)]
  · refine ⟨-9223372036854775808, ?_, ?_⟩
    · simp only [f_X_element, q1, Option.bind_some, if_neg hq]
    · simp only [f_M_element, q2 u rfl rfl, Option.bind_some, if_neg hq]
theorem z_sort (a : Int32) (b : Int64) : f_Shelves_lowestBits a b = f_M_asSort a b := rfl
theorem z_sortS (a : Int32) (b : Int64) : ∃ v, f_M_asSort a b = some v ∧ (a = 0 → -128 ≤ v.toInt ∧ v.toInt ≤ 127) := by
  unfold f_M_asSort
  by_cases h0 : a = 0
  · rw [if_pos h0]
    refine ⟨_, rfl, fun _ => ?_⟩
    rw [Int32.toInt_toInt64, Int8.toInt_toInt32]
    have h1 := Int8.le_toInt b.toInt32.toInt8
    have h2 := Int8.toInt_lt b.toInt32.toInt8
    constructor
    · exact h1
    · have : b.toInt32.toInt8.toInt < 2 ^ 7 := h2
      omega
  · rw [if_neg h0]
    split
    · exact ⟨_, rfl, fun h => absurd h h0⟩
    · split
      · exact ⟨_, rfl, fun h => absurd h h0⟩
      · split
        · split
          · exact ⟨_, rfl, fun h => absurd h h0⟩
          · exact ⟨_, rfl, fun h => absurd h h0⟩
        · exact ⟨_, rfl, fun h => absurd h h0⟩
theorem o_put {u : ZSt} {B : Nat} (h : zR11 u B) (a b : Int32) (c : Int64) : ∃ r u1 u2, f_X_put a b c u = some (r, u1) ∧ f_M_put a b c u1 = some (r, u2) ∧ zR11 u2 B ∧ zfr [] [] [31, 60] u u2 := by
  obtain ⟨q, q1, q2, q3⟩ := z_refused h a b
  by_cases hq : q = 0
  · obtain ⟨d, s, n, i, hd, hs, hn, hi, rfl, rfl, h1, h2, h3, h4, h5⟩ := q3 hq
    subst hq
    have hz : zin (nI d) 6 := zn_zin hd (by decide)
    have hcl : (nI d).toNatClampNeg = d := zn_cl (by omega)
    have e : (60 : Int32) * nI d + nI i = nI (60 * d + i) := by rw [show (60 : Int32) * nI d = nI (60 * d) from pk_mul 60 d, nI_add]
    have hb : 0 ≤ (nI i).toInt ∧ (nI i).toInt < n := by rw [nI_toInt (by omega)]; omega
    have e50 : nI (50 + s) - 50 = nI s := by rw [show (50 : Int32) = nI 50 from rfl, pk_sub (by omega)]; congr 1; omega
    obtain ⟨v, v1, v2⟩ := z_sortS (nI s) c
    refine ⟨1, zl u 31 (60 * d + i) v, zl (zl u 31 (60 * d + i) v) 60 (60 * d + i) v, ?_, ?_, fun g hg => ?_, ((zfr_rf u).l _ (by decide)).l _ (by decide)⟩
    · simp only [f_X_put, q1, Option.bind_some, if_true, f_Shelves_set, x_hasPlace hd hn h3, hb, and_self, show ¬ (1 : Int32) = 0 by decide, if_false, e, zif hz, hcl, h1, z_sort, v1, zif (zn_zin (show 60 * d + i < 360 by omega) (by decide)), zn_cl (show 60 * d + i < 2 ^ 31 by omega)]
    · simp only [f_M_put, q2 (zl u 31 (60 * d + i) v) rfl rfl, Option.bind_some, if_true, e, zif hz, hcl, show (zl u 31 (60 * d + i) v).2.1 58 = u.2.1 58 from rfl, h2, e50, v1, zif (zn_zin (show 60 * d + i < 360 by omega) (by decide)), zn_cl (show 60 * d + i < 2 ^ 31 by omega)]
    · by_cases hed : g = d
      · subst hed
        refine Or.inr (Or.inr ⟨s, n, hs, hn, h1, h2, h3, h4, fun j hj => ?_⟩)
        by_cases hji : j = i
        · subst hji
          have e31 : (zl (zl u 31 (60 * g + j) v) 60 (60 * g + j) v).2.2 31 (60 * g + j) = v := by simp [zs1, zs2, za1, za2, za3, zl1, zl2, zl3, zc1, zc2, zc3, zd1, zd2, zd3, updL1]
          have e60 : (zl (zl u 31 (60 * g + j) v) 60 (60 * g + j) v).2.2 60 (60 * g + j) = v := by simp [zs1, zs2, za1, za2, za3, zl1, zl2, zl3, zc1, zc2, zc3, zd1, zd2, zd3, updL1]
          rw [e31, e60]
          refine ⟨rfl, fun hs0 => ?_⟩
          subst hs0
          exact v2 rfl
        · have n1 : ¬ (60 * g + j = 60 * g + i) := by omega
          have e31 : (zl (zl u 31 (60 * g + i) v) 60 (60 * g + i) v).2.2 31 (60 * g + j) = u.2.2 31 (60 * g + j) := by simp [zs1, zs2, za1, za2, za3, zl1, zl2, zl3, zc1, zc2, zc3, zd1, zd2, zd3, updL1, hji]
          have e60 : (zl (zl u 31 (60 * g + i) v) 60 (60 * g + i) v).2.2 60 (60 * g + j) = u.2.2 60 (60 * g + j) := by simp [zs1, zs2, za1, za2, za3, zl1, zl2, zl3, zc1, zc2, zc3, zd1, zd2, zd3, updL1, hji]
          rw [e31, e60]
          exact h5 j hj
      · refine (h g hg).of (Nat.le_refl _) hg rfl rfl rfl rfl rfl (fun j hj => ?_) (fun j hj => ?_)
        · have n1 : ¬ (60 * g + j = 60 * d + i) := by omega
          simp [zs1, zs2, za1, za2, za3, zl1, zl2, zl3, zc1, zc2, zc3, zd1, zd2, zd3, updL1, n1]
        · have n1 : ¬ (60 * g + j = 60 * d + i) := by omega
          simp [zs1, zs2, za1, za2, za3, zl1, zl2, zl3, zc1, zc2, zc3, zd1, zd2, zd3, updL1, n1]
  · refine ⟨q, u, u, ?_, ?_, h, zfr_rf u⟩
    · simp only [f_X_put, q1, Option.bind_some, if_neg hq]
    · simp only [f_M_put, q2 u rfl rfl, Option.bind_some, if_neg hq]
