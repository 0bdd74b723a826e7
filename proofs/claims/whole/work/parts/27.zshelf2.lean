/-! shelves: shift, taken; people from a row -/
theorem z_subI {n : Nat} (hn : n ≤ 60) {f : Int32} (hf : 0 ≤ f.toInt) : (nI n - f).toInt = (n : Int) - f.toInt := by
  rw [Int32.toInt_sub, nI_toInt (by omega), Int.bmod_def]
  have h2 : f.toInt < 2 ^ 31 := Int32.toInt_lt f
  omega
theorem x_hasPlaces {u : ZSt} {d : Nat} (hd : d < 6) {n : Nat} (hn : n ≤ 60) (h : u.2.1 29 d = nI n) (b f : Int32) : f_Shelves_hasPlaces (nI d) b f u = some (if 0 ≤ b.toInt ∧ 0 ≤ f.toInt ∧ b.toInt + f.toInt ≤ n then 1 else 0) := by
  have hz : zin (nI d) 6 := zn_zin hd (by decide)
  have hsz : f_Shelves_sizeOf (nI d) u = some (nI n) := by
    have hd6 : 0 ≤ (nI d).toInt ∧ (nI d).toInt < 6 := by rw [nI_toInt (by omega)]; omega
    simp only [f_Shelves_sizeOf, x_isShelf, hd6, and_self, if_true, Option.bind_some, show ¬ (1 : Int32) = 0 by decide, if_false, zif hz, zn_cl (show d < 2 ^ 31 by omega), h]
  simp only [f_Shelves_hasPlaces, hsz, Option.bind_some, z_pm]
  by_cases h1 : b.toInt < 0
  · rw [if_pos h1, if_neg (by omega)]
  · rw [if_neg h1]
    by_cases h2 : f.toInt < 0
    · rw [if_pos h2, if_neg (by omega)]
    · rw [if_neg h2]
      simp only [fa_lt, nI_toInt (show n < 2 ^ 31 by omega), z_subI hn (show 0 ≤ f.toInt by omega)]
      by_cases h3 : (n : Int) < f.toInt
      · rw [if_pos h3, if_neg (by omega)]
      · rw [if_neg h3]
        by_cases h4 : (n : Int) - f.toInt < b.toInt
        · rw [if_pos h4, if_neg (by omega)]
        · rw [if_neg h4, if_pos (by omega)]
/-- copies one by one between long rows -/
theorem m_copyl {B : Int32 → ZSt → Option ((Int32 × ZSt) ⊕ (Int32 × ZSt))} {q r x y n : Nat} (hqr : q ≠ r) (hn : n ≤ 60)
    (hB : ∀ k, k < n → ∀ v : ZSt, B (nI k) v = some (.inl (nI (k + 1), zl v r (y + k) (v.2.2 q (x + k))))) (hE : ∀ v : ZSt, B (nI n) v = some (.inr (nI n, v))) (u : ZSt) :
    ∃ v, ziter (fun s => B s.1 s.2) zfu (0, u) = some (nI n, v) ∧ (∀ j, v.2.2 r j = if y ≤ j ∧ j < y + n then u.2.2 q (x + (j - y)) else u.2.2 r j) ∧ zfr [] [] [r] u v := by
  obtain ⟨s, h1, h2⟩ := zit (B := fun s : Int32 × ZSt => B s.1 s.2) n (fun k s => s.1 = nI k ∧ (∀ j, s.2.2.2 r j = if y ≤ j ∧ j < y + k then u.2.2 q (x + (j - y)) else u.2.2 r j) ∧ zfr [] [] [r] u s.2)
    (fun s => s.1 = nI n ∧ (∀ j, s.2.2.2 r j = if y ≤ j ∧ j < y + n then u.2.2 q (x + (j - y)) else u.2.2 r j) ∧ zfr [] [] [r] u s.2) (by omega) (by
      rintro k ⟨i, v⟩ hk ⟨g1, g2, g3⟩
      dsimp only at g1 g2 g3 ⊢
      subst g1
      by_cases hk2 : k < n
      · left
        refine ⟨_, hB k hk2 v, hk2, rfl, fun j => ?_, g3.l _ (by simp)⟩
        simp only [zl3, if_true, updL1]
        by_cases e : j = y + k
        · subst e
          rw [if_pos rfl, if_pos (by omega), g3.2.2 q (by simpa using hqr), show y + k - y = k by omega]
        · rw [if_neg e, g2 j]
          by_cases e2 : y ≤ j ∧ j < y + k
          · rw [if_pos e2, if_pos (by omega)]
          · rw [if_neg e2, if_neg (by omega)]
      · right
        have e1 : k = n := by omega
        subst e1
        exact ⟨_, hE v, rfl, g2, g3⟩) (s := (0, u)) ⟨rfl, fun j => by rw [if_neg (by omega)], zfr_rf u⟩
  obtain ⟨i, v⟩ := s
  obtain ⟨g1, g2, g3⟩ := h2
  dsimp only at g1 g2 g3
  subst g1
  exact ⟨v, h1, g2, g3⟩
theorem x_held {u : ZSt} {d : Nat} (hd : d < 6) : f_Shelves_held (nI d) u = some (u.2.1 28 d) := by
  have hd6 : 0 ≤ (nI d).toInt ∧ (nI d).toInt < 6 := by rw [nI_toInt (by omega)]; omega
  simp only [f_Shelves_held, x_isShelf, hd6, and_self, if_true, Option.bind_some, show ¬ (1 : Int32) = 0 by decide, if_false, zif (zn_zin hd (by decide)), zn_cl (show d < 2 ^ 31 by omega)]
theorem o_shift {u : ZSt} {B : Nat} (h : zR11 u B) (a b c e f : Int32) : ∃ r u1 u2, f_X_shift a b c e f u = some (r, u1) ∧ f_M_shift a b c e f u1 = some (r, u2) ∧ zR11 u2 B ∧ zfr [] [] [31, 60, 61] u u2 := by
  have same : ∀ x, f_X_shift a b c e f u = some (x, u) → f_M_shift a b c e f u = some (x, u) → ∃ r u1 u2, f_X_shift a b c e f u = some (r, u1) ∧ f_M_shift a b c e f u1 = some (r, u2) ∧ zR11 u2 B ∧ zfr [] [] [31, 60, 61] u u2 :=
    fun x h1 h2 => ⟨x, u, u, h1, h2, h, zfr_rf u⟩
  by_cases ha : 0 ≤ a.toInt ∧ a.toInt < 6
  · by_cases hc : 0 ≤ c.toInt ∧ c.toInt < 6
    · obtain ⟨d, hd, rfl⟩ := z_sh6 ha
      obtain ⟨g, hg, rfl⟩ := z_sh6 hc
      have hz : zin (nI d) 6 := zn_zin hd (by decide)
      have hcl : (nI d).toNatClampNeg = d := zn_cl (by omega)
      have hzg : zin (nI g) 6 := zn_zin hg (by decide)
      have hclg : (nI g).toNatClampNeg = g := zn_cl (by omega)
      have c10 : ¬ (1 : Int32) = 0 := by decide
      have xs : f_X_shift (nI d) b (nI g) e f u = if u.2.1 28 d = -1 then (some (-11, u)) else if u.2.1 28 g = -1 then (some (-11, u)) else (f_Shelves_isSort (u.2.1 28 d)).bind (fun q3012 => if q3012 = 0 then (some (-12, u)) else if u.2.1 28 d = u.2.1 28 g then ((f_Shelves_hasPlaces (nI d) b f u).bind (fun q3017 => if q3017 = 0 then (some (-13, u)) else (f_Shelves_hasPlaces (nI g) e f u).bind (fun q3021 => if q3021 = 0 then (some (-13, u)) else (f_Shelves_copy (nI d) b (nI g) e f u).bind (fun q3025 => some (f, q3025))))) else some (-12, u)) := by
        simp only [f_X_shift, x_isShelf, ha, hc, and_self, if_true, Option.bind_some, c10, if_false, x_held hd, x_held hg]
      have neg1 : (-1 : Int32) < 0 := by decide
      have nneg1 : ¬ (0 : Int32) ≤ -1 := by decide
      have vpos : ∀ w : Nat, w < 100 → ¬ nI w < 0 := fun w hw => by rw [z_pm, nI_toInt (by omega)]; omega
      have vpos' : ∀ w : Nat, w < 100 → (0 : Int32) ≤ nI w := fun w hw => by rw [show (0 : Int32) = nI 0 from rfl, nI_leI (by decide) (by omega)]; omega
      rcases h d hd with ⟨h1, h2⟩ | ⟨w, h1, h2, h3, h4, h5⟩ | ⟨s, n, h1, h2, h3, h4, h5, h6, h7⟩
      · refine same (-11) ?_ ?_
        · rw [xs, if_pos h1]
        · simp only [f_M_shift, m_isShelf, ha, hc, and_self, if_true, Option.bind_some, c10, if_false, zif hz, hcl, h2, neg1]
      · have w50 : nI w < 50 := by rw [show (50 : Int32) = nI 50 from rfl, nI_ltI (by omega) (by decide)]; omega
        rcases h g hg with ⟨k1, k2⟩ | ⟨w', k1, k2, k3, k4, k5⟩ | ⟨s', n', k1, k2, k3, k4, k5, k6, k7⟩
        · refine same (-11) ?_ ?_
          · rw [xs, h3, if_neg (by decide), if_pos k1]
          · simp only [f_M_shift, m_isShelf, ha, hc, and_self, if_true, Option.bind_some, c10, if_false, zif hz, hcl, zif hzg, hclg, h5, vpos w (by omega), k2, nneg1]
        · refine same (-12) ?_ ?_
          · rw [xs, h3, k3, if_neg (by decide), if_neg (by decide)]; rfl
          · simp only [f_M_shift, m_isShelf, ha, hc, and_self, if_true, Option.bind_some, c10, if_false, zif hz, hcl, zif hzg, hclg, h5, vpos w (by omega), k5, vpos' w' (by omega), w50]
        · refine same (-12) ?_ ?_
          · rw [xs, h3, k3, if_neg (by decide), if_neg (z_m1i (by omega))]; rfl
          · simp only [f_M_shift, m_isShelf, ha, hc, and_self, if_true, Option.bind_some, c10, if_false, zif hz, hcl, zif hzg, hclg, h5, vpos w (by omega), k4, vpos' (50 + s') (by omega), w50]
      · have s50 : ¬ nI (50 + s) < 50 := by rw [show (50 : Int32) = nI 50 from rfl, nI_ltI (by omega) (by decide)]; omega
        have hs4 : 0 ≤ (nI s).toInt ∧ (nI s).toInt ≤ 4 := by rw [nI_toInt (by omega)]; omega
        rcases h g hg with ⟨k1, k2⟩ | ⟨w', k1, k2, k3, k4, k5⟩ | ⟨s', n', k1, k2, k3, k4, k5, k6, k7⟩
        · refine same (-11) ?_ ?_
          · rw [xs, h3, if_neg (z_m1i (by omega)), if_pos k1]
          · simp only [f_M_shift, m_isShelf, ha, hc, and_self, if_true, Option.bind_some, c10, if_false, zif hz, hcl, zif hzg, hclg, h4, vpos (50 + s) (by omega), k2, nneg1]
        · refine same (-12) ?_ ?_
          · rw [xs, h3, k3, if_neg (z_m1i (by omega)), if_neg (by decide), x_isSort, if_pos hs4, Option.bind_some, if_neg c10, if_neg]
            rw [nI_eq (by omega) (by decide)]; omega
          · have e2 : ¬ nI (50 + s) = nI w' := by rw [nI_eq (by omega) (by omega)]; omega
            simp only [f_M_shift, m_isShelf, ha, hc, and_self, if_true, Option.bind_some, c10, if_false, zif hz, hcl, zif hzg, hclg, h4, vpos (50 + s) (by omega), k5, vpos' w' (by omega), s50, e2]
        · have xs2 := xs
          rw [h3, k3, if_neg (z_m1i (by omega)), if_neg (z_m1i (by omega)), x_isSort, if_pos hs4, Option.bind_some, if_neg c10] at xs2
          by_cases hss : s = s'
          · subst hss
            rw [if_pos rfl, x_hasPlaces hd h2 h5, x_hasPlaces hg k2 k5, Option.bind_some, Option.bind_some] at xs2
            simp only [z_it] at xs2
            have ms : ∀ v : ZSt, v.2.1 58 = u.2.1 58 → v.2.1 59 = u.2.1 59 → f_M_shift (nI d) b (nI g) e f v = if f < 0 then (some (-13, v)) else if b < 0 then (some (-13, v)) else if e < 0 then (some (-13, v)) else if (nI n - f) < b then (some (-13, v)) else if e ≤ (nI n' - f) then ((ziter (fun s => b_M_shift_63 (nI d) b (nI g) e f s.1 s.2) zfu (0, v)).bind (fun s => a_M_shift_63 (nI g) e f s.2)) else some (-13, v) := by
              intro v v1 v2
              simp only [f_M_shift, m_isShelf, ha, hc, and_self, if_true, Option.bind_some, c10, if_false, zif hz, hcl, zif hzg, hclg, v1, v2, h4, vpos (50 + s) (by omega), k4, vpos' (50 + s) (by omega), s50, h6, k6]
            by_cases hp : (0 ≤ b.toInt ∧ 0 ≤ f.toInt ∧ b.toInt + f.toInt ≤ n) ∧ (0 ≤ e.toInt ∧ 0 ≤ f.toInt ∧ e.toInt + f.toInt ≤ n')
            · obtain ⟨hp1, hp2⟩ := hp
              obtain ⟨bb, hbb, rfl⟩ := z_le99 (a := b) (n := 60) ⟨hp1.1, by omega⟩
              obtain ⟨ff, hff, rfl⟩ := z_le99 (a := f) (n := 60) ⟨hp1.2.1, by omega⟩
              obtain ⟨ee, hee, rfl⟩ := z_le99 (a := e) (n := 60) ⟨hp2.1, by omega⟩
              have hp1' := hp1
              have hp2' := hp2
              rw [nI_toInt (by omega), nI_toInt (by omega)] at hp1'
              rw [nI_toInt (by omega), nI_toInt (by omega)] at hp2'
              have e1 : (60 : Int32) * nI d + nI bb = nI (60 * d + bb) := by rw [show (60 : Int32) * nI d = nI (60 * d) from pk_mul 60 d, nI_add]
              have e2 : (60 : Int32) * nI g + nI ee = nI (60 * g + ee) := by rw [show (60 : Int32) * nI g = nI (60 * g) from pk_mul 60 g, nI_add]
              rw [if_neg (not_not_intro hp1), if_neg (not_not_intro hp2)] at xs2
              have cpok : zcpok (nI (60 * d + bb)) (nI (60 * g + ee)) (nI ff) 360 360 := by
                refine ⟨by rw [z_pm, nI_toInt (by omega)]; omega, by rw [z_pm, nI_toInt (by omega)]; omega, by rw [z_pm, nI_toInt (by omega)]; omega, ?_, ?_⟩
                · rw [zn_cl (by omega), zn_cl (by omega)]; omega
                · rw [zn_cl (by omega), zn_cl (by omega)]; omega
              have xc : f_Shelves_copy (nI d) (nI bb) (nI g) (nI ee) (nI ff) u = some (zcpl u 31 31 (60 * d + bb) (60 * g + ee) ff) := by
                simp only [f_Shelves_copy, x_hasPlaces hd h2 h5, x_hasPlaces hg k2 k5, hp1, hp2, and_self, if_true, Option.bind_some, c10, if_false, e1, e2, if_pos cpok, zn_cl (show 60 * d + bb < 2 ^ 31 by omega), zn_cl (show 60 * g + ee < 2 ^ 31 by omega), zn_cl (show ff < 2 ^ 31 by omega)]
              rw [xc, Option.bind_some] at xs2
              obtain ⟨v, v1, v2, v3⟩ := m_copyl (B := b_M_shift_63 (nI d) (nI bb) (nI g) (nI ee) (nI ff)) (q := 60) (r := 61) (x := 60 * d + bb) (y := 0) (n := ff) (by decide) hff (fun k hk v => by
                have g1 : ¬ ff ≤ k := by omega
                simp only [b_M_shift_63, e1]
                simp (disch := omega) [fa_lit, nI_ltI, nI_leI, nI_eq, nI_add, pk_sub, zn_cl, zn_zin, g1]
                omega) (fun v => by
                simp only [b_M_shift_63]
                simp (disch := omega) [fa_lit, nI_ltI, nI_leI, nI_eq, nI_add, pk_sub, zn_cl, zn_zin]) (zcpl u 31 31 (60 * d + bb) (60 * g + ee) ff)
              obtain ⟨w, w1, w2, w3⟩ := m_copyl (B := b_M_shift_84 (nI g) (nI ee) (nI ff)) (q := 61) (r := 60) (x := 0) (y := 60 * g + ee) (n := ff) (by decide) hff (fun k hk v => by
                have g1 : ¬ ff ≤ k := by omega
                simp only [b_M_shift_84, e2]
                simp (disch := omega) [fa_lit, nI_ltI, nI_leI, nI_eq, nI_add, pk_sub, zn_cl, zn_zin, g1]
                omega) (fun v => by
                simp only [b_M_shift_84]
                simp (disch := omega) [fa_lit, nI_ltI, nI_leI, nI_eq, nI_add, pk_sub, zn_cl, zn_zin]) v
              refine ⟨nI ff, _, w, xs2, ?_, ?_, ?_⟩
              · rw [ms (zcpl u 31 31 (60 * d + bb) (60 * g + ee) ff) rfl rfl, if_neg (by rw [z_pm, nI_toInt (by omega)]; omega), if_neg (by rw [z_pm, nI_toInt (by omega)]; omega), if_neg (by rw [z_pm, nI_toInt (by omega)]; omega), pk_sub (by omega), pk_sub (by omega), if_neg (by rw [nI_ltI (by omega) (by omega)]; omega), if_pos (by rw [nI_leI (by omega) (by omega)]; omega), v1]
                simp only [Option.bind_some, a_M_shift_63, w1, a_M_shift_84]
              · intro q hq
                have f31 : ∀ j, w.2.2 31 j = if 60 * g + ee ≤ j ∧ j < 60 * g + ee + ff then u.2.2 31 (60 * d + bb + (j - (60 * g + ee))) else u.2.2 31 j := by
                  intro j
                  rw [w3.gl 31, v3.gl 31]
                  rfl
                have f60 : ∀ j, w.2.2 60 j = if 60 * g + ee ≤ j ∧ j < 60 * g + ee + ff then u.2.2 60 (60 * d + bb + (j - (60 * g + ee))) else u.2.2 60 j := by
                  intro j
                  rw [w2]
                  by_cases hj : 60 * g + ee ≤ j ∧ j < 60 * g + ee + ff
                  · rw [if_pos hj, if_pos hj, v2, if_pos (by omega)]
                    show u.2.2 60 (60 * d + bb + (0 + (j - (60 * g + ee)) - 0)) = _
                    rw [Nat.zero_add, Nat.sub_zero]
                  · rw [if_neg hj, if_neg hj, v3.gl 60]
                    rfl
                have ea : ∀ k, w.2.1 k = u.2.1 k := fun k => by
                  rw [w3.2.1 k (by simp), v3.2.1 k (by simp)]; rfl
                by_cases hqg : q = g
                · subst hqg
                  refine Or.inr (Or.inr ⟨s, n', k1, k2, by rw [ea]; exact k3, by rw [ea]; exact k4, by rw [ea]; exact k5, by rw [ea]; exact k6, fun i hi => ?_⟩)
                  rw [f31, f60]
                  by_cases hj : 60 * q + ee ≤ 60 * q + i ∧ 60 * q + i < 60 * q + ee + ff
                  · rw [if_pos hj, if_pos hj]
                    have := h7 (bb + (i - ee)) (by omega)
                    rw [show 60 * d + bb + (60 * q + i - (60 * q + ee)) = 60 * d + (bb + (i - ee)) by omega]
                    exact this
                  · rw [if_neg hj, if_neg hj]
                    exact k7 i hi
                · refine (h q hq).of (Nat.le_refl _) hq (by rw [ea]) (by rw [ea]) (by rw [ea]) (by rw [ea]) (by rw [ea]) (fun i hi => ?_) (fun i hi => ?_)
                  · rw [f31, if_neg (by omega)]
                  · rw [f60, if_neg (by omega)]
              · exact (((zfr_rf u).d (by decide)).tr (v3.mono (by decide) (by decide) (by decide))).tr (w3.mono (by decide) (by decide) (by decide))
            · refine same (-13) ?_ ?_
              · rw [xs2]
                by_cases hp1 : 0 ≤ b.toInt ∧ 0 ≤ f.toInt ∧ b.toInt + f.toInt ≤ n
                · rw [if_neg (not_not_intro hp1), if_pos (fun q => hp ⟨hp1, q⟩)]
                · rw [if_pos hp1]
              · rw [ms u rfl rfl]
                simp only [fa_lt, fa_le, show (0 : Int32).toInt = 0 from rfl]
                by_cases g1 : f.toInt < 0
                · rw [if_pos g1]
                · rw [if_neg g1]
                  by_cases g2 : b.toInt < 0
                  · rw [if_pos g2]
                  · rw [if_neg g2]
                    by_cases g3 : e.toInt < 0
                    · rw [if_pos g3]
                    · rw [if_neg g3]
                      simp only [z_subI h2 (show 0 ≤ f.toInt by omega), z_subI k2 (show 0 ≤ f.toInt by omega)]
                      by_cases g4 : (n : Int) - f.toInt < b.toInt
                      · rw [if_pos g4]
                      · rw [if_neg g4, if_neg]
                        intro g5
                        exact hp ⟨by omega, by omega⟩
          · refine same (-12) ?_ ?_
            · rw [xs2, if_neg]
              rw [nI_eq (by omega) (by omega)]; exact hss
            · have e2 : ¬ nI (50 + s) = nI (50 + s') := by rw [nI_eq (by omega) (by omega)]; omega
              simp only [f_M_shift, m_isShelf, ha, hc, and_self, if_true, Option.bind_some, c10, if_false, zif hz, hcl, zif hzg, hclg, h4, vpos (50 + s) (by omega), k4, vpos' (50 + s') (by omega), s50, e2]
    · refine same (-1) ?_ ?_
      · simp only [f_X_shift, x_isShelf, ha, hc, and_self, if_true, if_false, Option.bind_some, show ¬ (1 : Int32) = 0 by decide]
      · simp only [f_M_shift, m_isShelf, ha, hc, and_self, if_true, if_false, Option.bind_some, show ¬ (1 : Int32) = 0 by decide]
  · refine same (-1) ?_ ?_
    · simp only [f_X_shift, x_isShelf, ha, if_false, Option.bind_some, if_true]
    · simp only [f_M_shift, m_isShelf, ha, if_false, Option.bind_some, if_true]

theorem z_under : ∀ K, K < 8 → ∀ b, b < 8 → ∃ r, r < 8 ∧ (ziter (fun s => b_M_taken_33 0 (nI b) s (fun _ => 0, fun _ _ => 0, fun _ _ => 0)) 1048576 (nI K)) = some (nI r) ∧
    ((ziter (fun s => b_Voters_isUnder_4 (nI b) s.1 s.2) 1048576 (nI K, 0)).bind (Sum.elim (fun s => a_Voters_isUnder_4) (fun r => some r))) = some (if r = b then 1 else 0) := by decide +kernel
theorem o_taken {u : ZSt} {B : Nat} (h : zR11 u B) (h10 : zR10 u B) (a b : Int32) : ∃ r, f_X_taken a b u = some r ∧ f_M_taken a b u = some r := by
  obtain ⟨hB, q1, q2, q3, -⟩ := h10
  have c10 : ¬ (1 : Int32) = 0 := by decide
  have hkx : f_Voters_isKind b = some (if 0 ≤ b.toInt ∧ b.toInt ≤ 7 then 1 else 0) := by
    simp only [f_Voters_isKind, fa_lt, fa_le, show (0 : Int32).toInt = 0 from rfl, show (8 : Int32).toInt = 8 from rfl]
    by_cases h1 : b.toInt < 0
    · rw [if_pos h1, if_neg (by omega)]
    · rw [if_neg h1]
      by_cases h2 : 8 ≤ b.toInt
      · rw [if_pos h2, if_neg (by omega)]
      · rw [if_neg h2, if_pos (by omega)]
  have hkm : f_M_within b.toInt64 0 7 = some (if 0 ≤ b.toInt ∧ b.toInt ≤ 7 then 1 else 0) := by
    rw [z_within, Int32.toInt_toInt64]; rfl
  by_cases ha : 0 ≤ a.toInt ∧ a.toInt < 6
  · by_cases hb : 0 ≤ b.toInt ∧ b.toInt ≤ 7
    · obtain ⟨d, hd, rfl⟩ := z_sh6 ha
      obtain ⟨k, hk, rfl⟩ := z_le99 (n := 7) hb
      have hz : zin (nI d) 6 := zn_zin hd (by decide)
      have hcl : (nI d).toNatClampNeg = d := zn_cl (by omega)
      rcases h d hd with ⟨h1, h2⟩ | ⟨w, h1, h2, h3, h4, h5⟩ | ⟨s, n, h1, h2, h3, h4, -⟩
      · refine ⟨-11, ?_, ?_⟩
        · simp only [f_X_taken, x_isShelf, hkx, ha, hb, and_self, if_true, Option.bind_some, c10, if_false, x_held hd, h1]
        · simp only [f_M_taken, m_isShelf, hkm, ha, hb, and_self, if_true, Option.bind_some, c10, if_false, zif hz, hcl, h2, show ¬ (0 : Int32) ≤ -1 by decide]
      · obtain ⟨K, hK, e1, e2⟩ := q3 w h1
        obtain ⟨r, hr, u1, u2⟩ := z_under K hK k (by omega)
        rw [← zfu_eq] at u1 u2
        have n1 : ¬ B ≤ w := by omega
        have vk : f_Voters_kindOf (nI w) u = some (nI K) := by
          simp only [f_Voters_kindOf, f_Voters_isVoter, q1]
          simp (disch := omega) [fa_lit, nI_ltI, nI_leI, nI_eq, nI_add, pk_sub, zn_cl, zn_zin, n1, h2, e1]
        have mk : f_M_kindOf (nI w) u = some (nI K) := by
          simp only [f_M_kindOf]
          simp (disch := omega) [fa_lit, nI_ltI, nI_leI, nI_eq, nI_add, pk_sub, zn_cl, zn_zin, h2, e2]
        have p1 : (0 : Int32) ≤ nI w := by rw [show (0 : Int32) = nI 0 from rfl, nI_leI (by decide) (by omega)]; omega
        have p2 : nI w < 50 := by rw [show (50 : Int32) = nI 50 from rfl, nI_ltI (by omega) (by decide)]; omega
        have u3 : ziter (fun s => b_M_taken_33 (nI d) (nI k) s u) zfu (nI K) = some (nI r) := u1
        have hx : f_X_taken (nI d) (nI k) u = some (if r = k then nI K else -12) := by
          simp only [f_X_taken, x_isShelf, hkx, ha, hb, and_self, if_true, Option.bind_some, c10, if_false, x_held hd, h3, show ¬ nI 5 = -1 by decide, show nI 5 = 5 from rfl, f_Shelves_voterOn, zif hz, hcl, h4, vk, f_Voters_isUnder, u2]
          by_cases hrk : r = k <;> simp [hrk]
        have hm : f_M_taken (nI d) (nI k) u = some (if r = k then nI K else -12) := by
          simp only [f_M_taken, m_isShelf, hkm, ha, hb, and_self, if_true, Option.bind_some, c10, if_false, zif hz, hcl, h5, p1, p2, mk, u3, a_M_taken_33]
          by_cases hrk : r = k
          · subst hrk; simp
          · have : ¬ nI r = nI k := by rw [nI_eq (by omega) (by omega)]; exact hrk
            simp [hrk, this]
        exact ⟨_, hx, hm⟩
      · have p1 : (0 : Int32) ≤ nI (50 + s) := by rw [show (0 : Int32) = nI 0 from rfl, nI_leI (by decide) (by omega)]; omega
        have p2 : ¬ nI (50 + s) < 50 := by rw [show (50 : Int32) = nI 50 from rfl, nI_ltI (by omega) (by decide)]; omega
        have p3 : ¬ nI s = 5 := by rw [show (5 : Int32) = nI 5 from rfl, nI_eq (by omega) (by decide)]; omega
        refine ⟨-12, ?_, ?_⟩
        · simp only [f_X_taken, x_isShelf, hkx, ha, hb, and_self, if_true, Option.bind_some, c10, if_false, x_held hd, h3, z_m1i (show s < 2 ^ 31 by omega), p3]
        · simp only [f_M_taken, m_isShelf, hkm, ha, hb, and_self, if_true, Option.bind_some, c10, if_false, zif hz, hcl, h4, p1, p2]
    · refine ⟨-1, ?_, ?_⟩
      · simp only [f_X_taken, x_isShelf, hkx, ha, hb, and_self, if_true, Option.bind_some, c10, if_false]
      · simp only [f_M_taken, m_isShelf, hkm, ha, hb, and_self, if_true, Option.bind_some, c10, if_false]
  · refine ⟨-1, ?_, ?_⟩
    · simp only [f_X_taken, x_isShelf, ha, if_false, Option.bind_some, if_true]
    · simp only [f_M_taken, m_isShelf, ha, if_false, Option.bind_some, if_true]
theorem z_first (p : Nat → Prop) [DecidablePred p] : ∀ c, ∃ K, K ≤ c ∧ (∀ k, k < K → p k) ∧ (K = c ∨ ¬ p K)
  | 0 => ⟨0, Nat.le_refl _, fun k hk => by omega, Or.inl rfl⟩
  | c + 1 => by
    obtain ⟨K, h1, h2, h3⟩ := z_first p c
    rcases h3 with h3 | h3
    · subst h3
      by_cases hp : p K
      · refine ⟨K + 1, Nat.le_refl _, fun k hk => ?_, Or.inl rfl⟩
        by_cases e : k = K
        · subst e; exact hp
        · exact h2 k (by omega)
      · exact ⟨K, by omega, h2, Or.inr hp⟩
    · exact ⟨K, by omega, h2, Or.inr h3⟩

theorem z_l0 : ((0 : Int64).toInt = 0) ∧ ((99 : Int64).toInt = 99) := ⟨rfl, rfl⟩
/-- a byte as an int: what it is as a long -/
theorem z_l2i {v : Int64} (h1 : -128 ≤ v.toInt) (h2 : v.toInt ≤ 127) : v.toInt32.toInt = v.toInt := by
  rw [Int64.toInt_toInt32, Int.bmod_def]
  omega
def zok27 (u : ZSt) (d n P : Nat) (b : Int32) (k : Nat) : Prop := 0 ≤ b.toInt ∧ b.toInt + k < n ∧ P + k < 10 ∧ 0 ≤ (u.2.2 31 (60 * d + b.toInt.toNat + k)).toInt ∧ (u.2.2 31 (60 * d + b.toInt.toNat + k)).toInt ≤ 99
theorem z_sub1k {n k : Nat} (hn : n ≤ 60) (hk : k ≤ 20) : ((nI n - 1) - nI k).toInt = (n : Int) - 1 - k := by
  have e1 := z_sub1 (P := n) (by omega)
  rw [Int32.toInt_sub, e1, nI_toInt (by omega), Int.bmod_def]
  omega
/-- the class' side: K of them come -/
theorem x_people_loop {u : ZSt} {d n P m K : Nat} {b : Int32} (hd : d < 6) (hn : n ≤ 60) (hP : P ≤ 10) (h29 : u.2.1 29 d = nI n) (h103 : u.1 103 = nI P) (hm : m ≤ 10)
    (hby : ∀ i, i < n → -128 ≤ (u.2.2 31 (60 * d + i)).toInt ∧ (u.2.2 31 (60 * d + i)).toInt ≤ 127)
    (hK : K ≤ m) (hok : ∀ k, k < K → zok27 u d n P b k) (hst : K = m ∨ ¬ zok27 u d n P b K) :
    ∃ v, ziter (fun s => b_X_people_30 (nI d) b (nI m) s.1 s.2) zfu (0, u) = some (nI K, v) ∧ v.1 103 = nI (P + K) ∧ (∀ j, v.2.1 2 j = if P ≤ j ∧ j < P + K then (u.2.2 31 (60 * d + b.toInt.toNat + (j - P))).toInt32 else u.2.1 2 j) ∧ zfr [103] [2] [] u v := by
  have c10 : ¬ (1 : Int32) = 0 := by decide
  obtain ⟨s, h1, h2⟩ := zit (B := fun s : Int32 × ZSt => b_X_people_30 (nI d) b (nI m) s.1 s.2) K
    (fun k s => s.1 = nI k ∧ s.2.1 103 = nI (P + k) ∧ (∀ j, s.2.2.1 2 j = if P ≤ j ∧ j < P + k then (u.2.2 31 (60 * d + b.toInt.toNat + (j - P))).toInt32 else u.2.1 2 j) ∧ zfr [103] [2] [] u s.2)
    (fun s => s.1 = nI K ∧ s.2.1 103 = nI (P + K) ∧ (∀ j, s.2.2.1 2 j = if P ≤ j ∧ j < P + K then (u.2.2 31 (60 * d + b.toInt.toNat + (j - P))).toInt32 else u.2.1 2 j) ∧ zfr [103] [2] [] u s.2) (by omega) (by
      rintro k ⟨i, v⟩ hk ⟨g1, g2, g3, g4⟩
      dsimp only at g1 g2 g3 g4 ⊢
      subst g1
      have v29 : v.2.1 29 d = nI n := by rw [g4.ga 29]; exact h29
      have v31 : v.2.2 31 = u.2.2 31 := g4.gl 31
      have hbk : k = 0 ∨ (0 ≤ b.toInt ∧ b.toInt < 60) := by
        by_cases hk0 : k = 0
        · exact Or.inl hk0
        · obtain ⟨o1, o2, -⟩ := hok 0 (by omega)
          exact Or.inr ⟨o1, by omega⟩
      have hadd : (b + nI k).toInt = b.toInt + k := by
        rw [Int32.toInt_add, nI_toInt (by omega), Int.bmod_def]
        have := Int32.toInt_lt b
        have := Int32.le_toInt b
        rcases hbk with rfl | hbk
        · omega
        · omega
      by_cases hkm : k = m
      · right
        have hKk : k = K := by omega
        subst hKk
        refine ⟨(nI k, v), ?_, rfl, g2, g3, g4⟩
        subst hkm
        simp only [b_X_people_30]
        simp (disch := omega) [fa_lit, nI_ltI, nI_leI, nI_eq, nI_add, pk_sub, zn_cl, zn_zin]
      · have n1 : ¬ nI m ≤ nI k := by rw [nI_leI (by omega) (by omega)]; omega
        simp only [b_X_people_30, n1, if_false, f_X_comesFrom, x_hasPlace hd hn v29, Option.bind_some, z_it, hadd]
        by_cases hin : 0 ≤ b.toInt + k ∧ b.toInt + k < n
        · have hb0 : 0 ≤ b.toInt := by rcases hbk with rfl | hbk <;> omega
          have hbn : b = nI b.toInt.toNat := by
            rw [fa_eq, nI_toInt (by omega)]; omega
          have eidx : (60 : Int32) * nI d + (b + nI k) = nI (60 * d + b.toInt.toNat + k) := by
            rw [hbn, show (60 : Int32) * nI d = nI (60 * d) from pk_mul 60 d, nI_add, nI_add, nI_toInt (by omega)]
            congr 1; omega
          have hby' := hby (b.toInt.toNat + k) (by omega)
          rw [show 60 * d + (b.toInt.toNat + k) = 60 * d + b.toInt.toNat + k by omega] at hby'
          have hl := z_l2i hby'.1 hby'.2
          have hva : f_Shelves_valueAt (nI d) (b + nI k) v = some (u.2.2 31 (60 * d + b.toInt.toNat + k)) := by
            simp only [f_Shelves_valueAt, x_hasPlace hd hn v29, hadd, hin, and_self, if_true, Option.bind_some, c10, if_false, eidx, zif (zn_zin (show 60 * d + b.toInt.toNat + k < 360 by omega) (by decide)), zn_cl (show 60 * d + b.toInt.toNat + k < 2 ^ 31 by omega), v31]
          simp only [hin, and_self, not_true_eq_false, if_false, hva, Option.bind_some, x_isFee, hl, z_it]
          by_cases hfee : 0 ≤ (u.2.2 31 (60 * d + b.toInt.toNat + k)).toInt ∧ (u.2.2 31 (60 * d + b.toInt.toNat + k)).toInt ≤ 99
          · simp only [hfee, and_self, not_true_eq_false, if_false, f_Council_addPerson, g2]
            by_cases hPk : P + k < 10
            · have hkK : k < K := by
                rcases Nat.lt_or_ge k K with q | q
                · exact q
                · have : k = K := by omega
                  subst this
                  rcases hst with q2 | q2
                  · exact absurd q2 hkm
                  · exact absurd ⟨hb0, hin.2, hPk, hfee.1, hfee.2⟩ q2
              left
              refine ⟨(nI (k + 1), zs (za v 2 (P + k) (u.2.2 31 (60 * d + b.toInt.toNat + k)).toInt32) 103 (nI (P + k + 1))), ?_, hkK, rfl, rfl, fun j => ?_, (g4.a _ (by decide)).s _ (by decide)⟩
              · have n3 : ¬ P + k < 0 := by omega
                simp (disch := omega) [fa_lit, nI_ltI, nI_leI, nI_eq, nI_add, pk_sub, zn_cl, zn_zin, hPk, n3]
              · simp only [zs2, za2, if_true, upd1]
                by_cases ej : j = P + k
                · subst ej
                  rw [if_pos rfl, if_pos (by omega)]
                  rw [show P + k - P = k by omega]
                · rw [if_neg ej, g3 j]
                  by_cases e2 : P ≤ j ∧ j < P + k
                  · rw [if_pos e2, if_pos (by omega)]
                  · rw [if_neg e2, if_neg (by omega)]
            · right
              have hkK : k = K := by
                rcases Nat.lt_or_ge k K with q | q
                · exact absurd (hok k q).2.2.1 hPk
                · omega
              subst hkK
              refine ⟨(nI k, v), ?_, rfl, g2, g3, g4⟩
              have hneg : ((-3 : Int32) < 0) = True := eq_true (by decide)
              simp only [hPk, show (10 : Int32) = nI 10 from rfl, nI_ltI (show P + k < 2 ^ 31 by omega) (show 10 < 2 ^ 31 by decide), if_false, Option.bind_some, hneg, if_true]
          · right
            have hkK : k = K := by
              rcases Nat.lt_or_ge k K with q | q
              · exact absurd ⟨(hok k q).2.2.2.1, (hok k q).2.2.2.2⟩ hfee
              · omega
            subst hkK
            exact ⟨(nI k, v), by simp only [hfee, not_false_eq_true, if_true, Option.bind_some], rfl, g2, g3, g4⟩
        · right
          have hkK : k = K := by
            rcases Nat.lt_or_ge k K with q | q
            · exact absurd ⟨by have := (hok k q).1; omega, (hok k q).2.1⟩ hin
            · omega
          subst hkK
          exact ⟨(nI k, v), by simp [hin], rfl, g2, g3, g4⟩) (s := (0, u)) ⟨rfl, h103, fun j => by rw [if_neg (by omega)], zfr_rf u⟩
  obtain ⟨i, v⟩ := s
  obtain ⟨g1, g2, g3, g4⟩ := h2
  dsimp only at g1 g2 g3 g4
  subst g1
  exact ⟨v, h1, g2, g3, g4⟩
/-- the reference's side -/
theorem m_people_loop {u : ZSt} {d n P m K : Nat} {b : Int32} (hd : d < 6) (hn : n ≤ 60) (hP : P ≤ 10) (h59 : u.2.1 59 d = nI n) (h3906 : u.1 3906 = nI P) (hm : m ≤ 10) (hb0 : 0 ≤ b.toInt)
    (heq : ∀ i, i < n → u.2.2 31 (60 * d + i) = u.2.2 60 (60 * d + i))
    (hK : K ≤ m) (hok : ∀ k, k < K → zok27 u d n P b k) (hst : K = m ∨ ¬ zok27 u d n P b K) :
    ∃ v x, ziter (fun s => b_M_people_38 (nI d) b (nI m) s.1 s.2.1 s.2.2) zfu (0, 1, u) = some (nI K, x, v) ∧ v.1 3906 = nI (P + K) ∧ (∀ j, v.2.1 44 j = if P ≤ j ∧ j < P + K then (u.2.2 31 (60 * d + b.toInt.toNat + (j - P))).toInt32 else u.2.1 44 j) ∧ zfr [3906] [44] [] u v := by
  have c10 : ¬ (1 : Int32) = 0 := by decide
  have hz : zin (nI d) 6 := zn_zin hd (by decide)
  have hcl : (nI d).toNatClampNeg = d := zn_cl (by omega)
  obtain ⟨s, h1, h2⟩ := zit (B := fun s : Int32 × Int32 × ZSt => b_M_people_38 (nI d) b (nI m) s.1 s.2.1 s.2.2) (K + 1)
    (fun k s => (k ≤ K ∧ s.1 = nI k ∧ s.2.1 = 1 ∧ s.2.2.1 3906 = nI (P + k) ∧ (∀ j, s.2.2.2.1 44 j = if P ≤ j ∧ j < P + k then (u.2.2 31 (60 * d + b.toInt.toNat + (j - P))).toInt32 else u.2.1 44 j) ∧ zfr [3906] [44] [] u s.2.2) ∨
      (k = K + 1 ∧ s.1 = nI K ∧ s.2.1 = 0 ∧ s.2.2.1 3906 = nI (P + K) ∧ (∀ j, s.2.2.2.1 44 j = if P ≤ j ∧ j < P + K then (u.2.2 31 (60 * d + b.toInt.toNat + (j - P))).toInt32 else u.2.1 44 j) ∧ zfr [3906] [44] [] u s.2.2))
    (fun s => s.1 = nI K ∧ s.2.2.1 3906 = nI (P + K) ∧ (∀ j, s.2.2.2.1 44 j = if P ≤ j ∧ j < P + K then (u.2.2 31 (60 * d + b.toInt.toNat + (j - P))).toInt32 else u.2.1 44 j) ∧ zfr [3906] [44] [] u s.2.2) (by omega) (by
      rintro k ⟨i, x, v⟩ hk hI
      rcases hI with ⟨g0, g1, gx, g2, g3, g4⟩ | ⟨g0, g1, gx, g2, g3, g4⟩
      · dsimp only at g1 gx g2 g3 g4 ⊢
        subst g1
        subst gx
        by_cases hkm : k = m
        · right
          have hKk : k = K := by omega
          subst hKk
          refine ⟨(nI k, 1, v), ?_, rfl, g2, g3, g4⟩
          subst hkm
          simp only [b_M_people_38]
          simp (disch := omega) [fa_lit, nI_ltI, nI_leI, nI_eq, nI_add, pk_sub, zn_cl, zn_zin]
        · have n1 : ¬ nI m ≤ nI k := by rw [nI_leI (by omega) (by omega)]; omega
          have v59 : v.2.1 59 d = nI n := by rw [g4.ga 59]; exact h59
          have v60 : v.2.2 60 = u.2.2 60 := g4.gl 60
          have stop : ∀ (w : k = K), b_M_people_38 (nI d) b (nI m) (nI k) 1 v = some (.inl (nI k, 0, v)) → (∃ s', b_M_people_38 (nI d) b (nI m) (nI k) 1 v = some (.inl s') ∧ k < K + 1 ∧ ((k + 1 ≤ K ∧ s'.1 = nI (k + 1) ∧ s'.2.1 = 1 ∧ s'.2.2.1 3906 = nI (P + (k + 1)) ∧ (∀ j, s'.2.2.2.1 44 j = if P ≤ j ∧ j < P + (k + 1) then (u.2.2 31 (60 * d + b.toInt.toNat + (j - P))).toInt32 else u.2.1 44 j) ∧ zfr [3906] [44] [] u s'.2.2) ∨
      (k + 1 = K + 1 ∧ s'.1 = nI K ∧ s'.2.1 = 0 ∧ s'.2.2.1 3906 = nI (P + K) ∧ (∀ j, s'.2.2.2.1 44 j = if P ≤ j ∧ j < P + K then (u.2.2 31 (60 * d + b.toInt.toNat + (j - P))).toInt32 else u.2.1 44 j) ∧ zfr [3906] [44] [] u s'.2.2))) := by
            intro w hw
            subst w
            exact ⟨(nI k, 0, v), hw, by omega, Or.inr ⟨rfl, rfl, rfl, g2, g3, g4⟩⟩
          by_cases hin : b.toInt + k < n
          · have hbn : b = nI b.toInt.toNat := by
              rw [fa_eq, nI_toInt (by omega)]; omega
            have e1 : ¬ ((nI n - 1) - nI k) < b := by rw [fa_lt, z_sub1k hn (by omega)]; omega
            have eidx : ((60 : Int32) * nI d + b) + nI k = nI (60 * d + b.toInt.toNat + k) := by
              rw [hbn, show (60 : Int32) * nI d = nI (60 * d) from pk_mul 60 d, nI_add, nI_add, nI_toInt (by omega)]
              rfl
            have ezin : zin (nI (60 * d + b.toInt.toNat + k)) 360 := zn_zin (by omega) (by decide)
            have ecl : (nI (60 * d + b.toInt.toNat + k)).toNatClampNeg = 60 * d + b.toInt.toNat + k := zn_cl (by omega)
            have eval : v.2.2 60 (60 * d + b.toInt.toNat + k) = u.2.2 31 (60 * d + b.toInt.toNat + k) := by
              rw [v60, show 60 * d + b.toInt.toNat + k = 60 * d + (b.toInt.toNat + k) by omega]
              exact (heq _ (by omega)).symm
            by_cases hPk : P + k < 10
            · have e2 : ¬ (10 : Int32) ≤ nI (P + k) := by rw [show (10 : Int32) = nI 10 from rfl, nI_leI (by decide) (by omega)]; omega
              have e3 : zin (nI (P + k)) 10 := zn_zin hPk (by decide)
              have e4 : (nI (P + k)).toNatClampNeg = P + k := zn_cl (by omega)
              by_cases hfee : 0 ≤ (u.2.2 31 (60 * d + b.toInt.toNat + k)).toInt ∧ (u.2.2 31 (60 * d + b.toInt.toNat + k)).toInt ≤ 99
              · have hkK : k < K := by
                  rcases Nat.lt_or_ge k K with q | q
                  · exact q
                  · have : k = K := by omega
                    subst this
                    rcases hst with q2 | q2
                    · exact absurd q2 hkm
                    · exact absurd ⟨hb0, hin, hPk, hfee.1, hfee.2⟩ q2
                left
                refine ⟨(nI (k + 1), 1, zs (za v 44 (P + k) (u.2.2 31 (60 * d + b.toInt.toNat + k)).toInt32) 3906 (nI (P + k + 1))), ?_, by omega, Or.inl ⟨hkK, rfl, rfl, rfl, fun j => ?_, (g4.a _ (by decide)).s _ (by decide)⟩⟩
                · simp only [b_M_people_38, c10, if_false, n1, zif hz, hcl, v59, e1, g2, e2, eidx, zif ezin, ecl, eval, z_within, z_l0, hfee, and_self, if_true, Option.bind_some, zif e3, e4]
                  rw [show nI k + 1 = nI (k + 1) from nI_1 k, show nI (P + k) + 1 = nI (P + k + 1) from nI_1 (P + k)]
                · simp only [zs2, za2, if_true, upd1]
                  by_cases ej : j = P + k
                  · subst ej
                    rw [if_pos rfl, if_pos (by omega)]
                    rw [show P + k - P = k by omega]
                  · rw [if_neg ej, g3 j]
                    by_cases e2 : P ≤ j ∧ j < P + k
                    · rw [if_pos e2, if_pos (by omega)]
                    · rw [if_neg e2, if_neg (by omega)]
              · left
                refine stop ?_ ?_
                · rcases Nat.lt_or_ge k K with q | q
                  · exact absurd ⟨(hok k q).2.2.2.1, (hok k q).2.2.2.2⟩ hfee
                  · omega
                · simp only [b_M_people_38, c10, if_false, n1, zif hz, hcl, v59, e1, g2, e2, eidx, zif ezin, ecl, eval, z_within, z_l0, hfee, and_self, if_true, Option.bind_some]
            · left
              have e2 : (10 : Int32) ≤ nI (P + k) := by rw [show (10 : Int32) = nI 10 from rfl, nI_leI (by decide) (by omega)]; omega
              refine stop ?_ ?_
              · rcases Nat.lt_or_ge k K with q | q
                · exact absurd (hok k q).2.2.1 hPk
                · omega
              · simp only [b_M_people_38, c10, if_false, n1, zif hz, hcl, v59, e1, g2, e2, if_true]
          · left
            have e1 : ((nI n - 1) - nI k) < b := by rw [fa_lt, z_sub1k hn (by omega)]; omega
            refine stop ?_ ?_
            · rcases Nat.lt_or_ge k K with q | q
              · exact absurd (hok k q).2.1 hin
              · omega
            · simp only [b_M_people_38, c10, if_false, n1, zif hz, hcl, v59, e1, if_true]
      · dsimp only at g1 gx g2 g3 g4 ⊢
        subst g1
        subst gx
        right
        exact ⟨(nI K, 0, v), by simp only [b_M_people_38, if_true], rfl, g2, g3, g4⟩) (s := (0, 1, u)) (Or.inl ⟨Nat.zero_le _, rfl, rfl, h3906, fun j => by rw [if_neg (by omega)], zfr_rf u⟩)
  obtain ⟨i, x, v⟩ := s
  obtain ⟨g1, g2, g3, g4⟩ := h2
  dsimp only at g1 g2 g3 g4
  subst g1
  exact ⟨v, x, h1, g2, g3, g4⟩
theorem o_people {u : ZSt} {P B : Nat} (h1 : zR1 u P) (h : zR11 u B) (a b c : Int32) : ∃ r u1 u2 P2, f_X_people a b c u = some (r, u1) ∧ f_M_people a b c u1 = some (r, u2) ∧ zR1 u2 P2 ∧ P ≤ P2 ∧ zfr [103, 3906] [2, 44] [] u u2 := by
  obtain ⟨hP, hp1, hp2, hp3⟩ := id h1
  have c10 : ¬ (1 : Int32) = 0 := by decide
  have same : ∀ x, f_X_people a b c u = some (x, u) → f_M_people a b c u = some (x, u) → ∃ r u1 u2 P2, f_X_people a b c u = some (r, u1) ∧ f_M_people a b c u1 = some (r, u2) ∧ zR1 u2 P2 ∧ P ≤ P2 ∧ zfr [103, 3906] [2, 44] [] u u2 :=
    fun x g1 g2 => ⟨x, u, u, P, g1, g2, h1, Nat.le_refl _, zfr_rf u⟩
  by_cases ha : 0 ≤ a.toInt ∧ a.toInt < 6
  · have hcm : ((1 : Int64).toInt ≤ c.toInt ∧ c.toInt ≤ (10 : Int64).toInt) = (1 ≤ c.toInt ∧ c.toInt ≤ 10) := rfl
    by_cases hc : 1 ≤ c.toInt ∧ c.toInt ≤ 10
    · obtain ⟨d, hd, rfl⟩ := z_sh6 ha
      obtain ⟨m, hm, rfl⟩ := z_le99 (a := c) (n := 10) ⟨by omega, hc.2⟩
      have hm1 : 1 ≤ m := by have := hc.1; rw [nI_toInt (by omega)] at this; omega
      have hz : zin (nI d) 6 := zn_zin hd (by decide)
      have hcl : (nI d).toNatClampNeg = d := zn_cl (by omega)
      have n1 : ¬ nI m < 1 := by rw [show (1 : Int32) = nI 1 from rfl, nI_ltI (by omega) (by decide)]; omega
      have n2 : nI m ≤ 10 := by rw [show (10 : Int32) = nI 10 from rfl, nI_leI (by omega) (by decide)]; omega
      have xs : f_X_people (nI d) b (nI m) u = if u.2.1 28 d = -1 then some (0, u) else if u.2.1 28 d = 0 then ((ziter (fun s => b_X_people_30 (nI d) b (nI m) s.1 s.2) zfu (0, u)).bind (fun s => a_X_people_30 s.1 s.2)) else some (-12, u) := by
        simp only [f_X_people, x_isShelf, ha, and_self, if_true, Option.bind_some, c10, if_false, n1, n2, x_held hd]
      have ms : ∀ v : ZSt, f_M_people (nI d) b (nI m) v = if v.2.1 58 d < 0 then (if v.2.1 58 d = 50 then (if b < 0 then ((ziter (fun s => b_M_people_38 (nI d) b (nI m) s.1 s.2.1 s.2.2) zfu (0, 0, v)).bind (fun s => a_M_people_38 s.1 s.2.2)) else (ziter (fun s => b_M_people_38 (nI d) b (nI m) s.1 s.2.1 s.2.2) zfu (0, 1, v)).bind (fun s => a_M_people_38 s.1 s.2.2)) else (ziter (fun s => b_M_people_38 (nI d) b (nI m) s.1 s.2.1 s.2.2) zfu (0, 0, v)).bind (fun s => a_M_people_38 s.1 s.2.2)) else if v.2.1 58 d = 50 then (if v.2.1 58 d = 50 then (if b < 0 then ((ziter (fun s => b_M_people_38 (nI d) b (nI m) s.1 s.2.1 s.2.2) zfu (0, 0, v)).bind (fun s => a_M_people_38 s.1 s.2.2)) else (ziter (fun s => b_M_people_38 (nI d) b (nI m) s.1 s.2.1 s.2.2) zfu (0, 1, v)).bind (fun s => a_M_people_38 s.1 s.2.2)) else (ziter (fun s => b_M_people_38 (nI d) b (nI m) s.1 s.2.1 s.2.2) zfu (0, 0, v)).bind (fun s => a_M_people_38 s.1 s.2.2)) else some (-12, v) := by
        intro v
        simp only [f_M_people, m_isShelf, z_within, Int32.toInt_toInt64, hcm, ha, hc, and_self, if_true, Option.bind_some, c10, if_false, zif hz, hcl]
      have m0 : ∀ v : ZSt, (ziter (fun s => b_M_people_38 (nI d) b (nI m) s.1 s.2.1 s.2.2) zfu (0, 0, v)).bind (fun s => a_M_people_38 s.1 s.2.2) = some (0, v) := by
        intro v
        have := zit_eq (B := fun s : Int32 × Int32 × ZSt => b_M_people_38 (nI d) b (nI m) s.1 s.2.1 s.2.2) 0 (fun _ => (0, 0, v)) (0, 0, v) (by decide) (fun k hk => by omega) (by simp only [b_M_people_38, if_true])
        rw [this]
        rfl
      rcases h d hd with ⟨g1, g2⟩ | ⟨w, g1, g2, g3, g4, g5⟩ | ⟨s, n, g1, g2, g3, g4, g5, g6, g7⟩
      · refine same 0 ?_ ?_
        · rw [xs, if_pos g1]
        · rw [ms, g2, if_pos (by decide), if_neg (by decide), m0]
      · refine same (-12) ?_ ?_
        · rw [xs, g3, if_neg (by decide), if_neg (by decide)]
        · have p1 : ¬ nI w < 0 := by rw [z_pm, nI_toInt (by omega)]; omega
          have p2 : ¬ nI w = 50 := by rw [show (50 : Int32) = nI 50 from rfl, nI_eq (by omega) (by decide)]; omega
          rw [ms, g5, if_neg p1, if_neg p2]
      · by_cases hs : s = 0
        · subst hs
          have hby : ∀ i, i < n → -128 ≤ (u.2.2 31 (60 * d + i)).toInt ∧ (u.2.2 31 (60 * d + i)).toInt ≤ 127 := fun i hi => (g7 i hi).2 rfl
          classical
          obtain ⟨K, k1, k2, k3⟩ := z_first (zok27 u d n P b) m
          obtain ⟨v, v1, v2, v3, v4⟩ := x_people_loop hd g2 hP g5 hp1 hm hby k1 k2 k3
          have xr : f_X_people (nI d) b (nI m) u = some (nI K, v) := by
            rw [xs, g3, if_neg (by decide), if_pos (show nI 0 = 0 from rfl), v1]; rfl
          have v58 : v.2.1 58 d = nI 50 := by rw [v4.ga 58]; exact g4
          have hPK : P + K ≤ 10 := by
            by_cases hK0 : K = 0
            · omega
            · have := (k2 (K - 1) (by omega)).2.2.1; omega
          have fin : ∀ w : ZSt, f_M_people (nI d) b (nI m) v = some (nI K, w) → w.1 3906 = nI (P + K) → (∀ j, w.2.1 44 j = if P ≤ j ∧ j < P + K then (u.2.2 31 (60 * d + b.toInt.toNat + (j - P))).toInt32 else u.2.1 44 j) → zfr [3906] [44] [] v w →
              ∃ r u1 u2 P2, f_X_people (nI d) b (nI m) u = some (r, u1) ∧ f_M_people (nI d) b (nI m) u1 = some (r, u2) ∧ zR1 u2 P2 ∧ P ≤ P2 ∧ zfr [103, 3906] [2, 44] [] u u2 := by
            intro w w1 w2 w3 w4
            refine ⟨nI K, v, w, P + K, xr, w1, ⟨hPK, (w4.g 103).trans v2, w2, fun p hp => ?_⟩, by omega, (v4.mono (by decide) (by decide) (by decide)).tr (w4.mono (by decide) (by decide) (by decide))⟩
            rw [w4.ga 2, v3, w3]
            by_cases hpP : P ≤ p ∧ p < P + K
            · rw [if_pos hpP, if_pos hpP]
              obtain ⟨o1, o2, o3, o4, o5⟩ := k2 (p - P) (by omega)
              have hl := z_l2i (v := u.2.2 31 (60 * d + b.toInt.toNat + (p - P))) (by omega) (by omega)
              obtain ⟨f, f1, f2⟩ := z_le99 (a := (u.2.2 31 (60 * d + b.toInt.toNat + (p - P))).toInt32) (n := 99) (by omega)
              exact ⟨f, f1, f2, f2⟩
            · rw [if_neg hpP, if_neg hpP]
              exact hp3 p (by omega)
          by_cases hb0 : 0 ≤ b.toInt
          · have hv : ∀ k, zok27 u d n P b k ↔ zok27 v d n P b k := by
              intro k
              unfold zok27
              rw [v4.gl 31]
            obtain ⟨w, x, w1, w2, w3, w4⟩ := m_people_loop (u := v) (K := K) hd g2 hP (by rw [v4.ga 59]; exact g6) (by rw [v4.g 3906]; exact hp2) hm hb0 (fun i hi => by rw [v4.gl 31, v4.gl 60]; exact (g7 i hi).1) k1 (fun k hk => (hv k).mp (k2 k hk)) (k3.imp id (fun q q2 => q ((hv K).mpr q2)))
            refine fin w ?_ w2 (fun j => ?_) w4
            · have nb : ¬ b < 0 := by rw [z_pm]; omega
              rw [ms, v58, if_neg (by decide), if_pos (show nI 50 = 50 from rfl), if_pos (show nI 50 = 50 from rfl), if_neg nb, w1]; rfl
            · rw [w3, v4.gl 31, v4.ga 44]
          · have hK0 : K = 0 := by
              rcases Nat.eq_zero_or_pos K with q | q
              · exact q
              · exact absurd (k2 0 q).1 hb0
            subst hK0
            refine fin v ?_ ?_ (fun j => ?_) (zfr_rf v)
            · have nb : b < 0 := by rw [z_pm]; omega
              rw [ms, v58, if_neg (by decide), if_pos (show nI 50 = 50 from rfl), if_pos (show nI 50 = 50 from rfl), if_pos nb, m0]; rfl
            · rw [v4.g 3906]; exact hp2
            · rw [v4.ga 44, if_neg (by omega)]
        · refine same (-12) ?_ ?_
          · have p0 : ¬ nI s = 0 := by rw [show (0 : Int32) = nI 0 from rfl, nI_eq (by omega) (by decide)]; exact hs
            rw [xs, g3, if_neg (z_m1i (by omega)), if_neg p0]
          · have p1 : ¬ nI (50 + s) < 0 := by rw [z_pm, nI_toInt (by omega)]; omega
            have p2 : ¬ nI (50 + s) = 50 := by rw [show (50 : Int32) = nI 50 from rfl, nI_eq (by omega) (by decide)]; omega
            rw [ms, g4, if_neg p1, if_neg p2]
    · refine same (-1) ?_ ?_
      · have n1 : c < 1 ∨ (¬ c < 1 ∧ ¬ c ≤ 10) := by
          rw [fa_lt, fa_le, show (1 : Int32).toInt = 1 from rfl, show (10 : Int32).toInt = 10 from rfl]; omega
        rcases n1 with n1 | ⟨n1, n2⟩
        · simp only [f_X_people, x_isShelf, ha, and_self, if_true, Option.bind_some, c10, if_false, n1]
        · simp only [f_X_people, x_isShelf, ha, and_self, if_true, Option.bind_some, c10, if_false, n1, n2]
      · simp only [f_M_people, m_isShelf, z_within, Int32.toInt_toInt64, hcm, ha, hc, and_self, if_true, Option.bind_some, c10, if_false]
  · refine same (-1) ?_ ?_
    · simp only [f_X_people, x_isShelf, ha, if_false, Option.bind_some, if_true]
    · simp only [f_M_people, m_isShelf, ha, if_false, Option.bind_some, if_true]
