/-! persons, matters, likings and touches: class and reference together -/
def zR1 (u : ZSt) (P : Nat) : Prop := P ≤ 10 ∧ u.1 103 = nI P ∧ u.1 3906 = nI P ∧ ∀ p, p < P → ∃ f : Nat, f ≤ 99 ∧ u.2.1 2 p = nI f ∧ u.2.1 44 p = nI f
def zR2 (u : ZSt) (M : Nat) : Prop := M ≤ 6 ∧ u.1 105 = nI M ∧ u.1 3907 = nI M
theorem x_isFee (a : Int32) : f_X_isFee a = some (if 0 ≤ a.toInt ∧ a.toInt ≤ 99 then 1 else 0) := by
  simp only [f_X_isFee, fa_lt, show (0 : Int32).toInt = 0 from rfl, show (99 : Int32).toInt = 99 from rfl]
  by_cases h1 : a.toInt < 0
  · have : ¬ 0 ≤ a.toInt := by omega
    simp [h1, this]
  · by_cases h2 : 99 < a.toInt
    · have : ¬ a.toInt ≤ 99 := by omega
      simp [h1, h2, this]
    · have h3 : a.toInt ≤ 99 := by omega
      have h4 : 0 ≤ a.toInt := by omega
      simp [h1, h2, h3, h4]
theorem z_le99 {a : Int32} {n : Nat} (h : 0 ≤ a.toInt ∧ a.toInt ≤ n) : ∃ p, p ≤ n ∧ a = nI p := by
  obtain ⟨p, h1, h2⟩ := z_pos (n := n + 1) ⟨h.1, by omega⟩
  exact ⟨p, by omega, h2⟩
theorem o_person {u : ZSt} {P : Nat} (h : zR1 u P) (a : Int32) : ∃ r u1 u2 P2, f_X_person a u = some (r, u1) ∧ f_M_person a u1 = some (r, u2) ∧ zR1 u2 P2 ∧ P ≤ P2 ∧ zfr [103, 3906] [2, 44] [] u u2 := by
  obtain ⟨hP, h1, h2, h3⟩ := h
  simp only [f_X_person, x_isFee, f_Council_addPerson, f_M_person, z_within, Option.bind_some, z_it, Int32.toInt_toInt64, show (0 : Int64).toInt = 0 from rfl, show (99 : Int64).toInt = 99 from rfl]
  by_cases hC : 0 ≤ a.toInt ∧ a.toInt ≤ 99
  · obtain ⟨f, hf, rfl⟩ := z_le99 (n := 99) hC
    by_cases hP2 : P < 10
    · have hP3 : ¬ P = 10 := by omega
      refine ⟨nI P, zs (za u 2 P (nI f)) 103 (nI (P + 1)), zs (za (zs (za u 2 P (nI f)) 103 (nI (P + 1))) 44 P (nI f)) 3906 (nI (P + 1)), P + 1, ?_, ?_, ?_, by omega, ?_⟩
      · simp (disch := omega) [fa_lit, nI_ltI, nI_leI, nI_eq, nI_add, pk_sub, zn_cl, zn_zin, hC, h1, hP2]
      · simp (disch := omega) [fa_lit, nI_ltI, nI_leI, nI_eq, nI_add, pk_sub, zn_cl, zn_zin, hC, zs1, za1, h2, hP2, hP3]
      · refine ⟨by omega, rfl, rfl, fun p hp => ?_⟩
        by_cases hpP : p = P
        · exact ⟨f, hf, by simp [zs1, zs2, za1, za2, za3, zl1, zl2, zl3, zc1, zc2, zc3, zd1, zd2, zd3, upd1, hpP], by simp [zs1, zs2, za1, za2, za3, zl1, zl2, zl3, zc1, zc2, zc3, zd1, zd2, zd3, upd1, hpP]⟩
        · obtain ⟨g, g1, g2, g3⟩ := h3 p (by omega)
          exact ⟨g, g1, by simp [zs1, zs2, za1, za2, za3, zl1, zl2, zl3, zc1, zc2, zc3, zd1, zd2, zd3, upd1, hpP, g2], by simp [zs1, zs2, za1, za2, za3, zl1, zl2, zl3, zc1, zc2, zc3, zd1, zd2, zd3, upd1, hpP, g3]⟩
      · exact ((((zfr_rf u).a _ (by decide)).s _ (by decide)).a _ (by decide)).s _ (by decide)
    · have hP3 : P = 10 := by omega
      subst hP3
      refine ⟨-3, u, u, 10, ?_, ?_, ⟨hP, h1, h2, h3⟩, Nat.le_refl _, zfr_rf u⟩
      · simp (disch := omega) [fa_lit, nI_ltI, nI_leI, nI_eq, nI_add, pk_sub, zn_cl, zn_zin, hC, h1]
      · simp (disch := omega) [fa_lit, nI_ltI, nI_leI, nI_eq, nI_add, pk_sub, zn_cl, zn_zin, hC, h2]
  · refine ⟨-1, u, u, P, ?_, ?_, ⟨hP, h1, h2, h3⟩, Nat.le_refl _, zfr_rf u⟩
    · simp [hC]
    · simp [hC]
theorem x_tell {u : ZSt} {j : Nat} (hj : j < 206) (v : Int32) : f_Council_tell (nI j) v u = some (za u 4 j v) := by
  have h : ¬ 206 ≤ j := by omega
  simp only [f_Council_tell]
  simp (disch := omega) [fa_lit, nI_ltI, nI_leI, nI_eq, nI_add, pk_sub, zn_cl, zn_zin, hj, h]
theorem x_toldAt {u : ZSt} {j : Nat} (hj : j < 206) : f_Council_toldAt (nI j) u = some (u.2.1 4 j) := by
  have h : ¬ 206 ≤ j := by omega
  simp only [f_Council_toldAt]
  simp (disch := omega) [fa_lit, nI_ltI, nI_leI, nI_eq, nI_add, pk_sub, zn_cl, zn_zin, hj, h]
/-- which place of the class' row is which of the reference's; what may stand there -/
def zph (j : Nat) : Nat := if j < 60 then 10 * (j / 6) + j % 6 else if j < 120 then 100 + (10 * ((j - 60) / 6) + (j - 60) % 6) else 200 + (j - 120)
def zokv (j : Nat) (v : Int32) : Prop := if j < 60 then 0 ≤ v.toInt ∧ v.toInt ≤ 99 else if j < 120 then -9 ≤ v.toInt ∧ v.toInt ≤ 9 else 0 ≤ v.toInt ∧ v.toInt ≤ 12
def zR3 (u : ZSt) : Prop := ∀ j, j < 126 → u.2.1 4 (zph j) = u.2.1 40 j ∧ zokv j (u.2.1 40 j)
theorem zph_lt {j : Nat} (h : j < 126) : zph j < 206 := by unfold zph; split <;> (try split) <;> omega
theorem zph_inj {i j : Nat} (hi : i < 126) (hj : j < 126) (h : zph i = zph j) : i = j := by
  unfold zph at h
  split at h <;> split at h <;> (try split at h) <;> (try split at h) <;> omega
theorem zph0 {p m : Nat} (hp : p < 10) (hm : m < 6) : zph (6 * p + m) = 10 * p + m := by
  unfold zph; rw [if_pos (by omega)]; omega
theorem zph1 {p m : Nat} (hp : p < 10) (hm : m < 6) : zph (60 + (6 * p + m)) = 100 + (10 * p + m) := by
  unfold zph; rw [if_neg (by omega), if_pos (by omega)]; omega
theorem zph2 {m : Nat} (hm : m < 6) : zph (120 + m) = 200 + m := by
  unfold zph; rw [if_neg (by omega), if_neg (by omega)]; omega
theorem zR3.put {u v : ZSt} (h : zR3 u) {j : Nat} (hj : j < 126) {x : Int32} (hx : zokv j x) (h4 : v.2.1 4 = upd (u.2.1 4) (zph j) x) (h40 : v.2.1 40 = upd (u.2.1 40) j x) : zR3 v := by
  intro i hi
  rw [h4, h40, upd1, upd1]
  by_cases e : i = j
  · subst e
    simp [hx]
  · have : ¬ zph i = zph j := fun q => e (zph_inj hi hj q)
    simp only [this, if_false, e]
    exact h i hi
theorem o_matter {u : ZSt} {M : Nat} (h : zR2 u M) (h3 : zR3 u) : ∃ r u1 u2 M2, f_X_matter u = some (r, u1) ∧ f_M_matter u1 = some (r, u2) ∧ zR2 u2 M2 ∧ zR3 u2 ∧ M ≤ M2 ∧ zfr [105, 3907] [4, 40] [] u u2 := by
  obtain ⟨hM, h1, h2⟩ := h
  simp only [f_X_matter, f_Council_addMatter, f_M_matter, h1]
  by_cases hM2 : M < 6
  · have hM3 : ¬ M = 6 := by omega
    refine ⟨nI M, zs (za u 4 (200 + M) 12) 105 (nI (M + 1)), zs (za (zs (za u 4 (200 + M) 12) 105 (nI (M + 1))) 40 (120 + M) 12) 3907 (nI (M + 1)), M + 1, ?_, ?_, ?_, ?_, by omega, ?_⟩
    · have e := x_tell (u := u) (j := 200 + M) (by omega) (nI 12)
      simp (disch := omega) [fa_lit, nI_ltI, nI_leI, nI_eq, nI_add, pk_sub, zn_cl, zn_zin, hM2, e, za1, h1]
    · simp (disch := omega) [fa_lit, nI_ltI, nI_leI, nI_eq, nI_add, pk_sub, zn_cl, zn_zin, zs1, za1, h2, hM3]
      omega
    · exact ⟨by omega, rfl, rfl⟩
    · refine h3.put (j := 120 + M) (by omega) (x := 12) ?_ ?_ ?_
      · unfold zokv; rw [if_neg (by omega), if_neg (by omega)]; decide
      · rw [zph2 hM2]; rfl
      · rfl
    · exact ((((zfr_rf u).a _ (by decide)).s _ (by decide)).a _ (by decide)).s _ (by decide)
  · have hM3 : M = 6 := by omega
    subst hM3
    refine ⟨-3, u, u, 6, ?_, ?_, ⟨hM, h1, h2⟩, h3, Nat.le_refl _, zfr_rf u⟩
    · simp (disch := omega) [fa_lit, nI_ltI, nI_leI, nI_eq, nI_add, pk_sub, zn_cl, zn_zin]
    · simp (disch := omega) [fa_lit, nI_ltI, nI_leI, nI_eq, nI_add, pk_sub, zn_cl, zn_zin, h2]
