/-! changes: done, undone, done again -/
def zR4 (u : ZSt) : Prop := ∃ D K : Nat, D ≤ K ∧ K ≤ 40 ∧ u.1 504 = nI D ∧ u.1 3905 = nI D ∧ u.1 505 = nI K ∧ u.1 3904 = nI K ∧
  ∀ k, k < K → ∃ j, j < 126 ∧ u.2.1 41 k = nI j ∧ u.2.1 6 k = nI (zph j) ∧ u.2.1 7 k = u.2.1 42 k ∧ u.2.1 8 k = u.2.1 43 k ∧ zokv j (u.2.1 42 k) ∧ zokv j (u.2.1 43 k)
theorem o_undo {u : ZSt} (h3 : zR3 u) (h4 : zR4 u) : ∃ r u1 u2, f_X_undo u = some (r, u1) ∧ f_M_undo u1 = some (r, u2) ∧ zR3 u2 ∧ zR4 u2 ∧ zfr [504, 3905] [4, 40] [] u u2 := by
  obtain ⟨D, K, hDK, hK, e1, e2, e3, e4, hs⟩ := id h4
  simp only [f_X_undo, f_Changes_takeBack, f_Changes_undoable, f_M_undo, e1]
  by_cases hD : D = 0
  · subst hD
    refine ⟨-5, u, u, ?_, ?_, h3, h4, zfr_rf u⟩
    · simp (disch := omega) [fa_lit, nI_ltI, nI_leI, nI_eq, nI_add, pk_sub, zn_cl, zn_zin]
    · simp (disch := omega) [fa_lit, nI_ltI, nI_leI, nI_eq, nI_add, pk_sub, zn_cl, zn_zin, e2]
  · obtain ⟨j, hj, a1, a2, a3, a4, a5, a6⟩ := hs (D - 1) (by omega)
    have hD1 : ¬ D < 1 := by omega
    have hD2 : D ≤ 40 := by omega
    have hD3 : D - 1 < 40 := by omega
    have ht := x_tell (u := zs u 504 (nI (D - 1))) (zph_lt hj) (u.2.1 42 (D - 1))
    refine ⟨nI (D - 1), za (zs u 504 (nI (D - 1))) 4 (zph j) (u.2.1 42 (D - 1)), za (zs (za (zs u 504 (nI (D - 1))) 4 (zph j) (u.2.1 42 (D - 1))) 3905 (nI (D - 1))) 40 j (u.2.1 42 (D - 1)), ?_, ?_, ?_, ?_, ?_⟩
    · simp (disch := omega) [fa_lit, nI_ltI, nI_leI, nI_eq, nI_add, pk_sub, zn_cl, zn_zin, hD1, hD2, hD3, a2, a3, ht, zs1, za1]
    · simp (disch := omega) [fa_lit, nI_ltI, nI_leI, nI_eq, nI_add, pk_sub, zn_cl, zn_zin, hD, hD3, hj, zs1, zs2, za1, za2, e2, a1]
    · refine h3.put hj a5 ?_ ?_
      · rfl
      · rfl
    · refine ⟨D - 1, K, by omega, hK, rfl, rfl, e3, e4, fun k hk => ?_⟩
      exact hs k hk
    · exact ((((zfr_rf u).s _ (by decide)).a _ (by decide)).s _ (by decide)).a _ (by decide)
theorem o_redo {u : ZSt} (h3 : zR3 u) (h4 : zR4 u) : ∃ r u1 u2, f_X_redo u = some (r, u1) ∧ f_M_redo u1 = some (r, u2) ∧ zR3 u2 ∧ zR4 u2 ∧ zfr [504, 3905] [4, 40] [] u u2 := by
  obtain ⟨D, K, hDK, hK, e1, e2, e3, e4, hs⟩ := id h4
  simp only [f_X_redo, f_Changes_makeAgain, f_Changes_redoable, f_M_redo, e1, e3]
  by_cases hD : D = K
  · subst hD
    refine ⟨-5, u, u, ?_, ?_, h3, h4, zfr_rf u⟩
    · simp (disch := omega) [fa_lit, nI_ltI, nI_leI, nI_eq, nI_add, pk_sub, zn_cl, zn_zin]
    · simp (disch := omega) [fa_lit, nI_ltI, nI_leI, nI_eq, nI_add, pk_sub, zn_cl, zn_zin, e2, e4]
  · obtain ⟨j, hj, a1, a2, a3, a4, a5, a6⟩ := hs D (by omega)
    have hD1 : ¬ K ≤ D := by omega
    have hD3 : D < 40 := by omega
    have ht := x_tell (u := u) (zph_lt hj) (u.2.1 43 D)
    refine ⟨nI (K - (D + 1)), zs (za u 4 (zph j) (u.2.1 43 D)) 504 (nI (D + 1)), zs (za (zs (za u 4 (zph j) (u.2.1 43 D)) 504 (nI (D + 1))) 40 j (u.2.1 43 D)) 3905 (nI (D + 1)), ?_, ?_, ?_, ?_, ?_⟩
    · simp (disch := omega) [fa_lit, nI_ltI, nI_leI, nI_eq, nI_add, pk_sub, zn_cl, zn_zin, hD1, hD3, a2, a4, ht, zs1, za1, e1, e3]
    · simp (disch := omega) [fa_lit, nI_ltI, nI_leI, nI_eq, nI_add, pk_sub, zn_cl, zn_zin, hD, hD3, hj, zs1, zs2, za1, za2, e2, e4, a1]
    · refine h3.put hj a6 ?_ ?_
      · rfl
      · rfl
    · refine ⟨D + 1, K, by omega, hK, rfl, rfl, e3, e4, fun k hk => ?_⟩
      exact hs k hk
    · exact ((((zfr_rf u).a _ (by decide)).s _ (by decide)).a _ (by decide)).s _ (by decide)
/-- the reference's change at its place j -/
def zshf (f : Nat → Int32) : Nat → Int32 := fun k => if k < 39 then f (k + 1) else f k
theorem m_becomes_loop {u : ZSt} (a b c : Int32) : ∃ v, ziter (fun s => b_M_becomes_16 a b c s.1 s.2) zfu (1, u) = some (nI 40, v) ∧ v.1 = u.1 ∧ v.2.2 = u.2.2 ∧ (∀ k, k ≠ 41 → k ≠ 42 → k ≠ 43 → v.2.1 k = u.2.1 k) ∧ (∀ q, q = 41 ∨ q = 42 ∨ q = 43 → v.2.1 q = zshf (u.2.1 q)) := by
  obtain ⟨r, h1, h2⟩ := zit (B := fun s : Int32 × ZSt => b_M_becomes_16 a b c s.1 s.2) 39
    (fun k s => s.1 = nI (k + 1) ∧ s.2.1 = u.1 ∧ s.2.2.2 = u.2.2 ∧ (∀ q, q ≠ 41 → q ≠ 42 → q ≠ 43 → s.2.2.1 q = u.2.1 q) ∧ (∀ q, q = 41 ∨ q = 42 ∨ q = 43 → s.2.2.1 q = fun i => if i < k then u.2.1 q (i + 1) else u.2.1 q i))
    (fun s => s.1 = nI 40 ∧ s.2.1 = u.1 ∧ s.2.2.2 = u.2.2 ∧ (∀ q, q ≠ 41 → q ≠ 42 → q ≠ 43 → s.2.2.1 q = u.2.1 q) ∧ (∀ q, q = 41 ∨ q = 42 ∨ q = 43 → s.2.2.1 q = zshf (u.2.1 q)))
    (by decide) (by
      rintro k ⟨i, v⟩ hk ⟨h1, h2, h3, h4, h5⟩
      dsimp only at h1 h2 h3 h4 h5 ⊢
      subst h1
      simp only [b_M_becomes_16]
      by_cases hk2 : k < 39
      · left
        refine ⟨(nI (k + 2), za (za (za v 41 k (v.2.1 41 (k + 1))) 42 k (v.2.1 42 (k + 1))) 43 k (v.2.1 43 (k + 1))), ?_, hk2, rfl, h2, h3, ?_, ?_⟩
        · have e1 : ¬ 40 ≤ k + 1 := by omega
          simp (disch := omega) [fa_lit, nI_ltI, nI_leI, nI_eq, nI_add, pk_sub, zn_cl, zn_zin, e1]
          omega
        · intro q q1 q2 q3
          simp [za2, q1, q2, q3, h4 q q1 q2 q3]
        · have key : ∀ q, q = 41 ∨ q = 42 ∨ q = 43 → upd (v.2.1 q) k (v.2.1 q (k + 1)) = fun i => if i < k + 1 then u.2.1 q (i + 1) else u.2.1 q i := by
            intro q hq
            funext i
            rw [upd1, h5 q hq]
            by_cases e : i = k
            · subst e
              simp
              intro hh
              omega
            · by_cases e2 : i < k
              · have : i < k + 1 := by omega
                simp [e, e2, this]
              · have : ¬ i < k + 1 := by omega
                simp [e, e2, this]
          intro q hq
          rw [← key q hq]
          rcases hq with rfl | rfl | rfl <;> simp [za2]
      · right
        have e1 : k = 39 := by omega
        subst e1
        refine ⟨(nI 40, v), by simp (disch := omega) [fa_lit, nI_ltI, nI_leI, nI_eq, nI_add, pk_sub, zn_cl, zn_zin], rfl, h2, h3, h4, fun q hq => (h5 q hq).trans ?_⟩
        rfl) (s := (1, u)) ⟨rfl, rfl, rfl, fun _ _ _ _ => rfl, fun q hq => by funext i; simp⟩
  obtain ⟨i, v⟩ := r
  obtain ⟨q1, q2, q3, q4, q5⟩ := h2
  dsimp only at q1 q2 q3 q4 q5
  subst q1
  exact ⟨v, h1, q2, q3, q4, q5⟩

theorem m_becomes {u : ZSt} {D : Nat} (hD : D ≤ 40) (e2 : u.1 3905 = nI D) {j : Nat} (hj : j < 126) (x : Int32) :
    ∃ v D1, f_M_becomes (nI j) x u = some (u.2.1 40 j, v) ∧ (u.2.1 40 j = x → v = u) ∧ (¬ u.2.1 40 j = x → D1 < 40 ∧ D1 ≤ D ∧ v.1 3905 = nI (D1 + 1) ∧ v.1 3904 = nI (D1 + 1) ∧ v.2.1 40 = upd (u.2.1 40) j x ∧
      (D < 40 → D1 = D ∧ v.2.1 41 = upd (u.2.1 41) D (nI j) ∧ v.2.1 42 = upd (u.2.1 42) D (u.2.1 40 j) ∧ v.2.1 43 = upd (u.2.1 43) D x) ∧
      (D = 40 → D1 = 39 ∧ v.2.1 41 = upd (zshf (u.2.1 41)) 39 (nI j) ∧ v.2.1 42 = upd (zshf (u.2.1 42)) 39 (u.2.1 40 j) ∧ v.2.1 43 = upd (zshf (u.2.1 43)) 39 x)) ∧ zfr [3904, 3905] [40, 41, 42, 43] [] u v := by
  simp only [f_M_becomes]
  by_cases hx : u.2.1 40 j = x
  · refine ⟨u, 0, ?_, fun _ => rfl, fun h => absurd hx h, zfr_rf u⟩
    simp (disch := omega) [fa_lit, nI_ltI, nI_leI, nI_eq, nI_add, pk_sub, zn_cl, zn_zin, hj, hx]
  · by_cases hD2 : D = 40
    · subst hD2
      obtain ⟨v, l1, l2, l3, l4, l5⟩ := m_becomes_loop (u := u) (nI j) x (u.2.1 40 j)
      refine ⟨za (zs (zs (za (za (za (zs v 3905 (nI 39)) 41 39 (nI j)) 42 39 (u.2.1 40 j)) 43 39 x) 3905 (nI 40)) 3904 (nI 40)) 40 j x, 39, ?_, fun h => absurd h hx, fun _ => ⟨by decide, by decide, rfl, rfl, ?_, fun h => absurd h (by decide), fun _ => ⟨rfl, ?_, ?_, ?_⟩⟩, ?_⟩
      · have e : v.1 3905 = nI 40 := by rw [l2]; exact e2
        have l1' : ziter (fun s => b_M_becomes_16 (nI j) x (u.2.1 40 j) s.1 s.2) zfu (nI 1, u) = some (nI 40, v) := l1
        simp (disch := omega) [fa_lit, nI_ltI, nI_leI, nI_eq, nI_add, pk_sub, zn_cl, zn_zin, hj, hx, e2, l1', a_M_becomes_16, e]
      · simp [zs1, zs2, za1, za2, za3, zl1, zl2, zl3, zc1, zc2, zc3, zd1, zd2, zd3, l4 40 (by decide) (by decide) (by decide)]
      · simp [zs1, zs2, za1, za2, za3, zl1, zl2, zl3, zc1, zc2, zc3, zd1, zd2, zd3, l5 41 (Or.inl rfl)]
      · simp [zs1, zs2, za1, za2, za3, zl1, zl2, zl3, zc1, zc2, zc3, zd1, zd2, zd3, l5 42 (Or.inr (Or.inl rfl))]
      · simp [zs1, zs2, za1, za2, za3, zl1, zl2, zl3, zc1, zc2, zc3, zd1, zd2, zd3, l5 43 (Or.inr (Or.inr rfl))]
      · refine ⟨fun i hi => ?_, fun k hk => ?_, fun k hk => ?_⟩
        · simp at hi
          simp [zs1, zs2, za1, za2, za3, zl1, zl2, zl3, zc1, zc2, zc3, zd1, zd2, zd3, hi.1, hi.2, l2]
        · simp at hk
          simp [zs1, zs2, za1, za2, za3, zl1, zl2, zl3, zc1, zc2, zc3, zd1, zd2, zd3, hk.1, hk.2.1, hk.2.2.1, hk.2.2.2, l4 k hk.2.1 hk.2.2.1 hk.2.2.2]
        · simp [zs1, zs2, za1, za2, za3, zl1, zl2, zl3, zc1, zc2, zc3, zd1, zd2, zd3, l3]
    · have hD3 : D < 40 := by omega
      refine ⟨za (zs (zs (za (za (za u 41 D (nI j)) 42 D (u.2.1 40 j)) 43 D x) 3905 (nI (D + 1))) 3904 (nI (D + 1))) 40 j x, D, ?_, fun h => absurd h hx, fun _ => ⟨hD3, Nat.le_refl _, rfl, rfl, rfl, fun _ => ⟨rfl, rfl, rfl, rfl⟩, fun h => absurd h hD2⟩, ?_⟩
      · simp (disch := omega) [fa_lit, nI_ltI, nI_leI, nI_eq, nI_add, pk_sub, zn_cl, zn_zin, hj, hx, e2, hD2, hD3]
      · exact ((((((zfr_rf u).a _ (by decide)).a _ (by decide)).a _ (by decide)).s _ (by decide)).s _ (by decide)).a _ (by decide)
theorem x_make {u : ZSt} (h3 : zR3 u) {D : Nat} (hD : D ≤ 40) (e2 : u.1 504 = nI D) {j : Nat} (hj : j < 126) (x : Int32) :
    ∃ v D1, f_Changes_make (nI (zph j)) x u = some (u.2.1 40 j, v) ∧ (u.2.1 40 j = x → v = u) ∧ (¬ u.2.1 40 j = x → D1 < 40 ∧ D1 ≤ D ∧ v.1 504 = nI (D1 + 1) ∧ v.1 505 = nI (D1 + 1) ∧ v.2.1 4 = upd (u.2.1 4) (zph j) x ∧
      (D < 40 → D1 = D ∧ v.2.1 6 = upd (u.2.1 6) D (nI (zph j)) ∧ v.2.1 7 = upd (u.2.1 7) D (u.2.1 40 j) ∧ v.2.1 8 = upd (u.2.1 8) D x) ∧
      (D = 40 → D1 = 39 ∧ v.2.1 6 = upd (zshf (u.2.1 6)) 39 (nI (zph j)) ∧ v.2.1 7 = upd (zshf (u.2.1 7)) 39 (u.2.1 40 j) ∧ v.2.1 8 = upd (zshf (u.2.1 8)) 39 x)) ∧ zfr [504, 505] [4, 6, 7, 8] [] u v := by
  have hz := zph_lt hj
  have ht := x_toldAt (u := u) hz
  have hw := x_tell (u := u) hz x
  have hq := (h3 j hj).1
  simp only [f_Changes_make, ht, hw, Option.bind_some, hq, za1, e2]
  by_cases hx : u.2.1 40 j = x
  · refine ⟨u, 0, ?_, fun _ => rfl, fun h => absurd hx h, zfr_rf u⟩
    simp (disch := omega) [fa_lit, nI_ltI, nI_leI, nI_eq, nI_add, pk_sub, zn_cl, zn_zin, hx]
  · by_cases hD2 : D = 40
    · subst hD2
      have hcp : ∀ f : Nat → Int32, va_cpy f f 1 0 39 = zshf f := by
        intro f
        funext k
        simp only [va_cpy, zshf, Nat.zero_le, true_and, Nat.zero_add, Nat.sub_zero]
        by_cases hk : k < 39
        · simp only [hk, if_true]; rw [Nat.add_comm]
        · simp only [hk, if_false]
      refine ⟨zs (zs (za (za (za (zs (zcp (zcp (zcp (za u 4 (zph j) x) 6 6 1 0 39) 7 7 1 0 39) 8 8 1 0 39) 504 (nI 39)) 6 39 (nI (zph j))) 7 39 (u.2.1 40 j)) 8 39 x) 504 (nI 40)) 505 (nI 40), 39, ?_, fun h => absurd h hx, fun _ => ⟨by decide, by decide, rfl, rfl, rfl, fun h => absurd h (by decide), fun _ => ⟨rfl, ?_, ?_, ?_⟩⟩, ?_⟩
      · simp (disch := omega) [fa_lit, nI_ltI, nI_leI, nI_eq, nI_add, pk_sub, zn_cl, zn_zin, hx, f_Changes_forgetOldest, zs1]
      · simp [zs1, zs2, za1, za2, za3, zl1, zl2, zl3, zc1, zc2, zc3, zd1, zd2, zd3, hcp]
      · simp [zs1, zs2, za1, za2, za3, zl1, zl2, zl3, zc1, zc2, zc3, zd1, zd2, zd3, hcp]
      · simp [zs1, zs2, za1, za2, za3, zl1, zl2, zl3, zc1, zc2, zc3, zd1, zd2, zd3, hcp]
      · exact ((((((((((zfr_rf u).a _ (by decide)).c (by decide)).c (by decide)).c (by decide)).s _ (by decide)).a _ (by decide)).a _ (by decide)).a _ (by decide)).s _ (by decide)).s _ (by decide)
    · have hD3 : D < 40 := by omega
      refine ⟨zs (zs (za (za (za (za u 4 (zph j) x) 6 D (nI (zph j))) 7 D (u.2.1 40 j)) 8 D x) 504 (nI (D + 1))) 505 (nI (D + 1)), D, ?_, fun h => absurd h hx, fun _ => ⟨hD3, Nat.le_refl _, rfl, rfl, rfl, fun _ => ⟨rfl, rfl, rfl, rfl⟩, fun h => absurd h hD2⟩, ?_⟩
      · simp (disch := omega) [fa_lit, nI_ltI, nI_leI, nI_eq, nI_add, pk_sub, zn_cl, zn_zin, hx, hD3]
      · exact ((((((zfr_rf u).a _ (by decide)).a _ (by decide)).a _ (by decide)).a _ (by decide)).s _ (by decide)).s _ (by decide)
/-- both changes together -/
theorem o_change {u : ZSt} (h3 : zR3 u) (h4 : zR4 u) {j : Nat} (hj : j < 126) (x : Int32) (hx : zokv j x) : ∃ r u1 u2, f_Changes_make (nI (zph j)) x u = some (r, u1) ∧ f_M_becomes (nI j) x u1 = some (r, u2) ∧ zR3 u2 ∧ zR4 u2 ∧ zfr [504, 505, 3904, 3905] [4, 6, 7, 8, 40, 41, 42, 43] [] u u2 ∧ zfr [504, 505] [4, 6, 7, 8] [] u u1 := by
  obtain ⟨D, K, hDK, hK, e1, e2, e3, e4, hs⟩ := id h4
  obtain ⟨v, D1, x1, x2, x3, x4⟩ := x_make h3 (show D ≤ 40 by omega) e1 hj x
  have hv40 : v.2.1 40 = u.2.1 40 := x4.ga 40
  have hv : v.1 3905 = nI D := (x4.g 3905).trans e2
  obtain ⟨w, D2, m1, m2, m3, m4⟩ := m_becomes (u := v) (show D ≤ 40 by omega) hv hj x
  rw [hv40] at m1 m2 m3
  refine ⟨u.2.1 40 j, v, w, x1, m1, ?_, ?_, (x4.mono (by decide) (by decide) (by decide)).tr (m4.mono (by decide) (by decide) (by decide)), x4⟩
  · by_cases hq : u.2.1 40 j = x
    · rw [m2 hq, x2 hq]; exact h3
    · obtain ⟨-, -, -, -, x5, -⟩ := x3 hq
      obtain ⟨-, -, -, -, m5, -⟩ := m3 hq
      exact h3.put hj hx ((m4.ga 4).trans x5) m5
  · by_cases hq : u.2.1 40 j = x
    · rw [m2 hq, x2 hq]; exact h4
    · obtain ⟨x5, x6, x7, x8, x9, xa, xb⟩ := x3 hq
      obtain ⟨m5, m6, m7, m8, m9, ma, mb⟩ := m3 hq
      by_cases hD : D < 40
      · obtain ⟨y0, y1, y2, y3⟩ := xa hD
        obtain ⟨n0, n1, n2, n3⟩ := ma hD
        subst y0
        subst n0
        refine ⟨D2 + 1, D2 + 1, Nat.le_refl _, by omega, (m4.g 504).trans x7, m7, (m4.g 505).trans x8, m8, fun k hk => ?_⟩
        rw [n1, n2, n3, m4.ga 6, m4.ga 7, m4.ga 8, y1, y2, y3, x4.ga 41, x4.ga 42, x4.ga 43]
        simp only [upd1]
        by_cases e : k = D2
        · subst e
          exact ⟨j, hj, by simp, by simp, by simp, by simp, by simpa using (h3 j hj).2, by simpa using hx⟩
        · obtain ⟨i, hi, a1, a2, a3, a4, a5, a6⟩ := hs k (by omega)
          exact ⟨i, hi, by simp [e, a1], by simp [e, a2], by simp [e, a3], by simp [e, a4], by simp [e, a5], by simp [e, a6]⟩
      · have hD' : D = 40 := by omega
        obtain ⟨y0, y1, y2, y3⟩ := xb hD'
        obtain ⟨n0, n1, n2, n3⟩ := mb hD'
        subst y0
        subst n0
        refine ⟨40, 40, Nat.le_refl _, Nat.le_refl _, (m4.g 504).trans x7, m7, (m4.g 505).trans x8, m8, fun k hk => ?_⟩
        rw [n1, n2, n3, m4.ga 6, m4.ga 7, m4.ga 8, y1, y2, y3, x4.ga 41, x4.ga 42, x4.ga 43]
        simp only [upd1]
        by_cases e : k = 39
        · subst e
          exact ⟨j, hj, by simp, by simp, by simp, by simp, by simpa using (h3 j hj).2, by simpa using hx⟩
        · obtain ⟨i, hi, a1, a2, a3, a4, a5, a6⟩ := hs (k + 1) (by omega)
          have e2 : k < 39 := by omega
          exact ⟨i, hi, by simp [e, e2, zshf, a1], by simp [e, e2, zshf, a2], by simp [e, e2, zshf, a3], by simp [e, e2, zshf, a4], by simp [e, e2, zshf, a5], by simp [e, e2, zshf, a6]⟩
/-- what mend() of the class does behind the place it has found -/
theorem x_mend_tail {u : ZSt} {a b c q : Int32} (hs : f_Council_slotOf a b u = some q) (lo hi : Int) (hlo : f_Council_leastOf b = some (Int32.ofInt lo)) (hhi : f_Council_mostOf b = some (Int32.ofInt hi)) (h1 : -100 ≤ lo ∧ lo ≤ 100) (h2 : -100 ≤ hi ∧ hi ≤ 100) :
    f_X_mend a b c u = if 0 ≤ q.toInt ∧ lo ≤ c.toInt ∧ c.toInt ≤ hi then (f_Changes_make q c u).bind (fun x => some (x.1, x.2)) else some (-2000000000, u) := by
  have e1 : (Int32.ofInt lo).toInt = lo := by rw [Int32.toInt_ofInt, Int.bmod_def]; simp only [show (Int32.size : Int) = 4294967296 from rfl]; omega
  have e2 : (Int32.ofInt hi).toInt = hi := by rw [Int32.toInt_ofInt, Int.bmod_def]; simp only [show (Int32.size : Int) = 4294967296 from rfl]; omega
  simp only [f_X_mend, hs, hlo, hhi, Option.bind_some, fa_lt, fa_le, e1, e2, show (0 : Int32).toInt = 0 from rfl]
  by_cases g1 : q.toInt < 0
  · rw [if_pos g1, if_neg (by omega)]
  · rw [if_neg g1]
    by_cases g2 : c.toInt < lo
    · rw [if_pos g2, if_neg (by omega)]
    · rw [if_neg g2]
      by_cases g3 : c.toInt ≤ hi
      · rw [if_pos g3, if_pos (by omega)]
      · rw [if_neg g3, if_neg (by omega)]
theorem o_mend {u : ZSt} {P M : Nat} (h1 : zR1 u P) (h2 : zR2 u M) (h3 : zR3 u) (h4 : zR4 u) (a b c : Int32) : ∃ r u1 u2, f_X_mend a b c u = some (r, u1) ∧ f_M_mend a b c u1 = some (r, u2) ∧ zR3 u2 ∧ zR4 u2 ∧ zfr [504, 505, 3904, 3905] [4, 6, 7, 8, 40, 41, 42, 43] [] u u2 := by
  obtain ⟨hP, p1, p2, -⟩ := h1
  obtain ⟨hM, q1, q2⟩ := h2
  have hP10 : P ≤ 10 := hP
  have hM10 : M ≤ 10 := by omega
  have bad : f_X_mend a b c u = some (-2000000000, u) → f_M_mend a b c u = some (-2000000000, u) → ∃ r u1 u2, f_X_mend a b c u = some (r, u1) ∧ f_M_mend a b c u1 = some (r, u2) ∧ zR3 u2 ∧ zR4 u2 ∧ zfr [504, 505, 3904, 3905] [4, 6, 7, 8, 40, 41, 42, 43] [] u u2 :=
    fun e1 e2 => ⟨_, u, u, e1, e2, h3, h4, zfr_rf u⟩
  have k0 : (0 : Int64).toInt = 0 := rfl
  have k99 : (99 : Int64).toInt = 99 := rfl
  have k9 : (9 : Int64).toInt = 9 := rfl
  have km9 : (-9 : Int64).toInt = -9 := by decide
  have k12 : (12 : Int64).toInt = 12 := rfl
  have c10 : ¬ (1 : Int32) = 0 := by decide
  have c20 : ¬ (2 : Int32) = 0 := by decide
  have c21 : ¬ (2 : Int32) = 1 := by decide
  have cm : ¬ 0 ≤ (-1 : Int32).toInt := by decide
  classical
  by_cases hb2 : b = 2
  · subst hb2
    have hx := x_mend_tail (u := u) (c := c) (x_slotOf2 hM10 q1 a) 0 12 rfl rfl (by decide) (by decide)
    have hmm : ∀ v : ZSt, v.1 3907 = nI M → f_M_mend a 2 c v = if 0 ≤ a.toInt ∧ a.toInt < M then (if 0 ≤ c.toInt ∧ c.toInt ≤ 12 then (f_M_becomes (120 + a) c v).bind (fun x => some (x.1, x.2)) else some (-2000000000, v)) else some (-2000000000, v) := by
      intro v hv
      simp only [f_M_mend, m_isMatter hM10 hv, z_it, z_within, Int32.toInt_toInt64, k0, k12, Option.bind_some, c20, c21, if_false, if_true, ite_not]
    by_cases ha : 0 ≤ a.toInt ∧ a.toInt < M
    · obtain ⟨m, hm, rfl⟩ := z_pos ha
      by_cases hc : 0 ≤ c.toInt ∧ c.toInt ≤ 12
      · obtain ⟨r, u1, u2, e1, e2, e3, e4, e5, e6⟩ := o_change h3 h4 (show 120 + m < 126 by omega) c (by unfold zokv; rw [if_neg (by omega), if_neg (by omega)]; exact hc)
        rw [zph2 (by omega)] at e1
        refine ⟨r, u1, u2, ?_, ?_, e3, e4, e5⟩
        · rw [hx, if_pos ha, show (200 : Int32) + nI m = nI (200 + m) from nI_add 200 m, nI_toInt (by omega), if_pos (by omega), e1]; rfl
        · rw [hmm u1 ((e6.g 3907).trans q2), if_pos ha, if_pos hc, show (120 : Int32) + nI m = nI (120 + m) from nI_add 120 m, e2]; rfl
      · refine bad ?_ ?_
        · rw [hx, if_neg (fun h => hc h.2)]
        · rw [hmm u q2, if_pos ha, if_neg hc]
    · refine bad ?_ ?_
      · rw [hx, if_neg ha, if_neg (fun h => cm h.1)]
      · rw [hmm u q2, if_neg ha]
  · by_cases hb0 : b = 0
    · subst hb0
      have hx := x_mend_tail (u := u) (c := c) (x_slotOf hP10 hM10 p1 q1 a 0 (Or.inl rfl)) 0 99 rfl rfl (by decide) (by decide)
      have hmm : ∀ v : ZSt, v.1 3906 = nI P → v.1 3907 = nI M → f_M_mend a 0 c v = if zpm P M a then (if 0 ≤ c.toInt ∧ c.toInt ≤ 99 then (f_M_becomes (6 * (a / 10) + zrem a 10) c v).bind (fun x => some (x.1, x.2)) else some (-2000000000, v)) else some (-2000000000, v) := by
        intro v hv1 hv2
        simp only [f_M_mend, m_isPm hP10 hM10 hv1 hv2, z_it, z_within, Int32.toInt_toInt64, k0, k99, Option.bind_some, if_true, ite_not, f_M_placeOf]
      by_cases ha : zpm P M a
      · obtain ⟨p, m, hp, hm, rfl⟩ := id ha
        have hd : nI (10 * p + m) / 10 = nI p ∧ zrem (nI (10 * p + m)) 10 = nI m := by
          have := z_dr (show 10 * p + m < 2 ^ 31 by omega)
          rw [this.1, this.2]
          constructor <;> congr 1 <;> omega
        by_cases hc : 0 ≤ c.toInt ∧ c.toInt ≤ 99
        · obtain ⟨r, u1, u2, e1, e2, e3, e4, e5, e6⟩ := o_change h3 h4 (show 6 * p + m < 126 by omega) c (by unfold zokv; rw [if_pos (by omega)]; exact hc)
          rw [zph0 (by omega) (by omega)] at e1
          refine ⟨r, u1, u2, ?_, ?_, e3, e4, e5⟩
          · rw [hx, if_pos ha, show (0 : Int32) * 100 + nI (10 * p + m) = nI (10 * p + m) by rw [show (0 : Int32) * 100 = nI 0 by decide, nI_add, Nat.zero_add], nI_toInt (by omega), if_pos (by omega), e1]; rfl
          · rw [hmm u1 ((e6.g 3906).trans p2) ((e6.g 3907).trans q2), if_pos ha, if_pos hc, hd.1, hd.2, show (6 : Int32) * nI p = nI (6 * p) from pk_mul 6 p, nI_add, e2]; rfl
        · refine bad ?_ ?_
          · rw [hx, if_neg (fun h => hc h.2)]
          · rw [hmm u p2 q2, if_pos ha, if_neg hc]
      · refine bad ?_ ?_
        · rw [hx, if_neg ha, if_neg (fun h => cm h.1)]
        · rw [hmm u p2 q2, if_neg ha]
    · by_cases hb1 : b = 1
      · subst hb1
        have hx := x_mend_tail (u := u) (c := c) (x_slotOf hP10 hM10 p1 q1 a 1 (Or.inr rfl)) (-9) 9 rfl rfl (by decide) (by decide)
        have hmm : ∀ v : ZSt, v.1 3906 = nI P → v.1 3907 = nI M → f_M_mend a 1 c v = if zpm P M a then (if -9 ≤ c.toInt ∧ c.toInt ≤ 9 then (f_M_becomes (60 + (6 * (a / 10) + zrem a 10)) c v).bind (fun x => some (x.1, x.2)) else some (-2000000000, v)) else some (-2000000000, v) := by
          intro v hv1 hv2
          simp only [f_M_mend, m_isPm hP10 hM10 hv1 hv2, z_it, z_within, Int32.toInt_toInt64, km9, k9, Option.bind_some, if_true, ite_not, f_M_placeOf, c10, if_false]
        by_cases ha : zpm P M a
        · obtain ⟨p, m, hp, hm, rfl⟩ := id ha
          have hd : nI (10 * p + m) / 10 = nI p ∧ zrem (nI (10 * p + m)) 10 = nI m := by
            have := z_dr (show 10 * p + m < 2 ^ 31 by omega)
            rw [this.1, this.2]
            constructor <;> congr 1 <;> omega
          by_cases hc : -9 ≤ c.toInt ∧ c.toInt ≤ 9
          · obtain ⟨r, u1, u2, e1, e2, e3, e4, e5, e6⟩ := o_change h3 h4 (show 60 + (6 * p + m) < 126 by omega) c (by unfold zokv; rw [if_neg (by omega), if_pos (by omega)]; exact hc)
            rw [zph1 (by omega) (by omega)] at e1
            refine ⟨r, u1, u2, ?_, ?_, e3, e4, e5⟩
            · rw [hx, if_pos ha, show (1 : Int32) * 100 + nI (10 * p + m) = nI (100 + (10 * p + m)) by rw [show (1 : Int32) * 100 = nI 100 by decide, nI_add], nI_toInt (by omega), if_pos (by omega), e1]; rfl
            · rw [hmm u1 ((e6.g 3906).trans p2) ((e6.g 3907).trans q2), if_pos ha, if_pos hc, hd.1, hd.2, show (6 : Int32) * nI p = nI (6 * p) from pk_mul 6 p, nI_add, show (60 : Int32) + nI (6 * p + m) = nI (60 + (6 * p + m)) from nI_add 60 _, e2]; rfl
          · refine bad ?_ ?_
            · rw [hx, if_neg (fun h => hc h.2)]
            · rw [hmm u p2 q2, if_pos ha, if_neg hc]
        · refine bad ?_ ?_
          · rw [hx, if_neg ha, if_neg (fun h => cm h.1)]
          · rw [hmm u p2 q2, if_neg ha]
      · refine bad ?_ ?_
        · have hs : f_Council_slotOf a b u = some (-1) := by
            simp only [f_Council_slotOf, hb2, if_false, hb0, hb1, c10, if_true]
            split
            · rfl
            · cases h5 : f_Council_isPerson (a / 10) u with
              | none => rw [x_isPerson hP10 p1] at h5; cases h5
              | some x =>
                simp only [Option.bind_some]
                split
                · rfl
                · cases h6 : f_Council_isMatter (zrem a 10) u with
                  | none => rw [x_isMatter hM10 q1] at h6; cases h6
                  | some y => simp only [Option.bind_some]; split <;> rfl
          rw [x_mend_tail hs 0 12 (by simp [f_Council_leastOf, hb1]) (by simp [f_Council_mostOf, hb0, hb1]) (by decide) (by decide), if_neg (fun h => cm h.1)]
        · simp only [f_M_mend, hb0, hb1, hb2, if_false]
